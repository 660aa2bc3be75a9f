noncomputable def b_X8_load_75 (ro : Nat → Nat) (k97 : zHp → Option (Int32 × zHp)) (a0 : Nat) (rec : zHp → Option (Int32 × zHp)) (h : zHp) : Option (Int32 × zHp) :=
  (zgI h a0 8 14).bind fun v16 => if v16 = 0 then ((zgI h a0 8 12).bind fun v17 => if v17 = (3 : Int32) then (k97 h) else (f_X8_readStatement ro a0 h).bind fun h18 => rec h18) else k97 h
noncomputable def l_X8_load_75 (ro : Nat → Nat) (k97 : zHp → Option (Int32 × zHp)) (a0 : Nat) (n : Nat) : zHp → Option (Int32 × zHp) :=
  Nat.rec (motive := fun _ => zHp → Option (Int32 × zHp)) (fun _ => none) (fun _ rec => b_X8_load_75 ro k97 a0 rec) n
theorem l_X8_load_75_s {ro : Nat → Nat} (k97 : zHp → Option (Int32 × zHp)) (a0 : Nat) (n : Nat) (h : zHp) : l_X8_load_75 ro k97 a0 (n + 1) h = b_X8_load_75 ro k97 a0 (l_X8_load_75 ro k97 a0 n) h := rfl
set_option maxHeartbeats 4000000 in
set_option maxRecDepth 100000 in
theorem wl_X8_load_75 {P : zX} {ro : Nat → Nat} {sz : Nat} (C : zC P cX8_load RX8 (some .int) 10 0 0 2 ro) {a0 : Nat} {k97 : zHp → Option (Int32 × zHp)} (hk97 : ∀ (h : zHp), zG P (zoI sz) (k97 h) 97 [(0, .ref a0)] [] h sz 0 0) : ∀ (n : Nat) (h : zHp), zG P (zoI sz) (l_X8_load_75 ro k97 a0 n h) 75 [(0, .ref a0)] [] h sz 0 0 := by
  intro n
  induction n with
  | zero =>
    intro h
    show zG P (zoI sz) none _ _ _ _ _ _ _
    exact z_none
  | succ n ih =>
    intro h
    show zG P (zoI sz) (b_X8_load_75 ro k97 a0 (l_X8_load_75 ro k97 a0 n) h) _ _ _ _ _ _ _
    unfold b_X8_load_75
    refine z_aload_n C dX8_load_75 0 rfl ?_
    refine z_getI C zf_X8_168 dX8_load_76 (fun v16 => ?_)
    refine z_if_ne C 97 dX8_load_79 (by decide) ?_ ?_
    · refine z_aload_n C dX8_load_82 0 rfl ?_
      refine z_getI C zf_X8_147 dX8_load_83 (fun v17 => ?_)
      refine z_iconst C dX8_load_86 zi_3 ?_
      refine z_icmp_eq C 97 dX8_load_87 (by decide) ?_ ?_
      · exact hk97 _
      refine z_aload_n C dX8_load_90 0 rfl ?_
      refine z_callVv C zc_X8_246 [] (fun l D tc b0 r h => m_X8_readStatement l D tc ro b0 h) dX8_load_91 rfl rfl (Nat.le_of_ble_eq_true rfl) (by decide) (by decide) ⟨Nat.le_of_ble_eq_true rfl, Nat.le_of_ble_eq_true rfl⟩ (fun h18 => ?_)
      refine z_goto C 75 dX8_load_94 (by decide) ?_
      exact ih _
    exact hk97 _
noncomputable def j_X8_load_118 (ro : Nat → Nat) (a0 : Nat) (s0 : Nat) (s1 : Int32) (h : zHp) : Option (Int32 × zHp) :=
  (zpV h s0 8 16 (.int s1)).bind fun h23 => (zgI h23 a0 8 14).bind fun v24 => if v24 = 0 then ((zpV h23 a0 8 8 (.int (0 : Int32))).bind fun h25 => (zgI h25 a0 8 17).bind fun v26 => some (v26, h25)) else (zgR h23 a0 8 4).bind fun r27 => (zgR h23 a0 8 3).bind fun r28 => (f_X8_copies r27 r28 h23).bind fun h29 => (zgR h29 a0 8 6).bind fun r30 => (zgR h29 a0 8 5).bind fun r31 => (f_X8_copies r30 r31 h29).bind fun h32 => (zgI h32 a0 8 14).bind fun v33 => some (v33, h32)
set_option maxHeartbeats 4000000 in
set_option maxRecDepth 100000 in
theorem wj_X8_load_118 {P : zX} {ro : Nat → Nat} {sz : Nat} (C : zC P cX8_load RX8 (some .int) 10 0 0 2 ro) {a0 : Nat} {s0 : Nat} {s1 : Int32} {h : zHp}  : zG P (zoI sz) (j_X8_load_118 ro a0 s0 s1 h) 118 [(0, .ref a0)] [.int s1, .ref s0] h sz 0 0 := by
  unfold j_X8_load_118
  refine z_putI C zp_X8_28 dX8_load_118 (fun h23 => ?_)
  refine z_aload_n C dX8_load_121 0 rfl ?_
  refine z_getI C zf_X8_168 dX8_load_122 (fun v24 => ?_)
  refine z_if_eq C 155 dX8_load_125 (by decide) ?_ ?_
  · refine z_aload_n C dX8_load_155 0 rfl ?_
    refine z_iconst C dX8_load_156 zi_0 ?_
    refine z_putI C zp_X8_249 dX8_load_157 (fun h25 => ?_)
    refine z_aload_n C dX8_load_160 0 rfl ?_
    refine z_getI C zf_X8_239 dX8_load_161 (fun v26 => ?_)
    exact z_ireturn C dX8_load_164
  refine z_aload_n C dX8_load_128 0 rfl ?_
  refine z_getR C zf_X8_16 dX8_load_129 (fun r27 => ?_)
  refine z_aload_n C dX8_load_132 0 rfl ?_
  refine z_getR C zf_X8_13 dX8_load_133 (fun r28 => ?_)
  refine z_callSv C zs_X8_242 [.ref r27, .ref r28] (fun l D tc b0 r h => m_X8_copies l D tc ro b0 h) dX8_load_136 rfl rfl (Nat.le_of_ble_eq_true rfl) (by decide) (by decide) ⟨Nat.le_of_ble_eq_true rfl, Nat.le_of_ble_eq_true rfl⟩ (fun h29 => ?_)
  refine z_aload_n C dX8_load_139 0 rfl ?_
  refine z_getR C zf_X8_22 dX8_load_140 (fun r30 => ?_)
  refine z_aload_n C dX8_load_143 0 rfl ?_
  refine z_getR C zf_X8_19 dX8_load_144 (fun r31 => ?_)
  refine z_callSv C zs_X8_242 [.ref r30, .ref r31] (fun l D tc b0 r h => m_X8_copies l D tc ro b0 h) dX8_load_147 rfl rfl (Nat.le_of_ble_eq_true rfl) (by decide) (by decide) ⟨Nat.le_of_ble_eq_true rfl, Nat.le_of_ble_eq_true rfl⟩ (fun h32 => ?_)
  refine z_aload_n C dX8_load_150 0 rfl ?_
  refine z_getI C zf_X8_168 dX8_load_151 (fun v33 => ?_)
  exact z_ireturn C dX8_load_154
noncomputable def f_X8_load (ro : Nat → Nat) (a0 : Nat) (x1 : Int32) (hp : zHp) : Option (Int32 × zHp) :=
  (zis hp a0 8).bind fun _ => (zpV hp a0 8 0 (.int (0 : Int32))).bind fun h1 => if x1 < 0 then (some ((-2 : Int32), h1)) else (zgI h1 a0 8 2).bind fun v2 => if v2 < x1 then (some ((-2 : Int32), h1)) else (zgR h1 a0 8 3).bind fun r3 => (zgR h1 a0 8 4).bind fun r4 => (f_X8_copies r3 r4 h1).bind fun h5 => (zgR h5 a0 8 5).bind fun r6 => (zgR h5 a0 8 6).bind fun r7 => (f_X8_copies r6 r7 h5).bind fun h8 => (f_X8_newHall a0 h8).bind fun h9 => (zpV h9 a0 8 9 (.int x1)).bind fun h10 => (zpV h10 a0 8 10 (.int (0 : Int32))).bind fun h11 => (zpV h11 a0 8 14 (.int (0 : Int32))).bind fun h12 => (zpV h12 a0 8 17 (.int (0 : Int32))).bind fun h13 => (zpV h13 a0 8 18 (.int (0 : Int32))).bind fun h14 => (f_X8_next a0 h14).bind fun h15 => l_X8_load_75 ro (fun h19 => (zpV h19 a0 8 2 (.int (0 : Int32))).bind fun h20 => (zgI h20 a0 8 14).bind fun v21 => if v21 = 0 then (j_X8_load_118 ro a0 a0 (-1 : Int32) h20) else (zgI h20 a0 8 15).bind fun v22 => j_X8_load_118 ro a0 a0 v22 h20) a0 1000000 h15
set_option maxHeartbeats 4000000 in
set_option maxRecDepth 100000 in
theorem m_X8_load (l : Launch) (D : va_G) (tc : Nat → ClassId) (ro : Nat → Nat) (b0 : Nat) {a0 : Nat} {x1 : Int32} {hp : zHp} {sz : Nat} {r : (Int32 × zHp)} (h : f_X8_load ro a0 x1 hp = some r) : zis hp a0 8 = some () ∧ zM l yX8_load cX8_load 2 (some .int) 10 0 0 [.ref a0, .int x1] D tc ro b0 hp sz ((zoI sz) r).1 ((zoI sz) r).2.1 ((zoI sz) r).2.2 := by
  refine ⟨?_, z_start (o := (zoI sz)) (lv := [(0, .ref a0), (1, .int x1)]) h (by decide +kernel) RX8 rfl rfl (Nat.le_of_ble_eq_true rfl) (fun P C => ?_)⟩
  · unfold f_X8_load at h
    cases hc : zis hp a0 8 with
    | none => rw [hc] at h; cases h
    | some u => rfl
  unfold f_X8_load
  refine z_is ?_
  refine z_aload_n C dX8_load_0 0 rfl ?_
  refine z_iconst C dX8_load_1 zi_0 ?_
  refine z_putI C zp_X8_38 dX8_load_2 (fun h1 => ?_)
  refine z_iload_n C dX8_load_5 1 rfl ?_
  refine z_if_lt C 17 dX8_load_6 (by decide) ?_ ?_
  · refine z_bipush C dX8_load_17 zbi_m2 ?_
    exact z_ireturn C dX8_load_19
  refine z_iload_n C dX8_load_9 1 rfl ?_
  refine z_aload_n C dX8_load_10 0 rfl ?_
  refine z_getI C zf_X8_41 dX8_load_11 (fun v2 => ?_)
  refine z_icmp_le C 20 dX8_load_14 (by decide) ?_ ?_
  · refine z_bipush C dX8_load_17 zbi_m2 ?_
    exact z_ireturn C dX8_load_19
  refine z_aload_n C dX8_load_20 0 rfl ?_
  refine z_getR C zf_X8_13 dX8_load_21 (fun r3 => ?_)
  refine z_aload_n C dX8_load_24 0 rfl ?_
  refine z_getR C zf_X8_16 dX8_load_25 (fun r4 => ?_)
  refine z_callSv C zs_X8_242 [.ref r3, .ref r4] (fun l D tc b0 r h => m_X8_copies l D tc ro b0 h) dX8_load_28 rfl rfl (Nat.le_of_ble_eq_true rfl) (by decide) (by decide) ⟨Nat.le_of_ble_eq_true rfl, Nat.le_of_ble_eq_true rfl⟩ (fun h5 => ?_)
  refine z_aload_n C dX8_load_31 0 rfl ?_
  refine z_getR C zf_X8_19 dX8_load_32 (fun r6 => ?_)
  refine z_aload_n C dX8_load_35 0 rfl ?_
  refine z_getR C zf_X8_22 dX8_load_36 (fun r7 => ?_)
  refine z_callSv C zs_X8_242 [.ref r6, .ref r7] (fun l D tc b0 r h => m_X8_copies l D tc ro b0 h) dX8_load_39 rfl rfl (Nat.le_of_ble_eq_true rfl) (by decide) (by decide) ⟨Nat.le_of_ble_eq_true rfl, Nat.le_of_ble_eq_true rfl⟩ (fun h8 => ?_)
  refine z_aload_n C dX8_load_42 0 rfl ?_
  refine z_callVv C zc_X8_35 [] (fun l D tc b0 r h => m_X8_newHall l D tc ro b0 h) dX8_load_43 rfl rfl (Nat.le_of_ble_eq_true rfl) (by decide) (by decide) ⟨Nat.le_of_ble_eq_true rfl, Nat.le_of_ble_eq_true rfl⟩ (fun h9 => ?_)
  refine z_aload_n C dX8_load_46 0 rfl ?_
  refine z_iload_n C dX8_load_47 1 rfl ?_
  refine z_putI C zp_X8_138 dX8_load_48 (fun h10 => ?_)
  refine z_aload_n C dX8_load_51 0 rfl ?_
  refine z_iconst C dX8_load_52 zi_0 ?_
  refine z_putI C zp_X8_135 dX8_load_53 (fun h11 => ?_)
  refine z_aload_n C dX8_load_56 0 rfl ?_
  refine z_iconst C dX8_load_57 zi_0 ?_
  refine z_putI C zp_X8_168 dX8_load_58 (fun h12 => ?_)
  refine z_aload_n C dX8_load_61 0 rfl ?_
  refine z_iconst C dX8_load_62 zi_0 ?_
  refine z_putI C zp_X8_239 dX8_load_63 (fun h13 => ?_)
  refine z_aload_n C dX8_load_66 0 rfl ?_
  refine z_iconst C dX8_load_67 zi_0 ?_
  refine z_putI C zp_X8_215 dX8_load_68 (fun h14 => ?_)
  refine z_aload_n C dX8_load_71 0 rfl ?_
  refine z_callVv C zc_X8_174 [] (fun l D tc b0 r h => m_X8_next l D tc ro b0 h) dX8_load_72 rfl rfl (Nat.le_of_ble_eq_true rfl) (by decide) (by decide) ⟨Nat.le_of_ble_eq_true rfl, Nat.le_of_ble_eq_true rfl⟩ (fun h15 => ?_)
  refine z_sub [0] rfl (wl_X8_load_75 C (fun h19 => ?_) _ _)
  refine z_aload_n C dX8_load_97 0 rfl ?_
  refine z_iconst C dX8_load_98 zi_0 ?_
  refine z_putI C zp_X8_41 dX8_load_99 (fun h20 => ?_)
  refine z_aload_n C dX8_load_102 0 rfl ?_
  refine z_aload_n C dX8_load_103 0 rfl ?_
  refine z_getI C zf_X8_168 dX8_load_104 (fun v21 => ?_)
  refine z_if_ne C 114 dX8_load_107 (by decide) ?_ ?_
  · refine z_iconst C dX8_load_110 zi_m1 ?_
    refine z_goto C 118 dX8_load_111 (by decide) ?_
    exact wj_X8_load_118 C
  refine z_aload_n C dX8_load_114 0 rfl ?_
  refine z_getI C zf_X8_171 dX8_load_115 (fun v22 => ?_)
  exact wj_X8_load_118 C
noncomputable def f_X8_errorPosition (a0 : Nat) (hp : zHp) : Option (Int32 × zHp) :=
  (zis hp a0 8).bind fun _ => (zpV hp a0 8 0 (.int (0 : Int32))).bind fun h1 => (zgI h1 a0 8 16).bind fun v2 => some (v2, h1)
set_option maxHeartbeats 4000000 in
set_option maxRecDepth 100000 in
theorem m_X8_errorPosition (l : Launch) (D : va_G) (tc : Nat → ClassId) (ro : Nat → Nat) (b0 : Nat) {a0 : Nat} {hp : zHp} {sz : Nat} {r : (Int32 × zHp)} (h : f_X8_errorPosition a0 hp = some r) : zis hp a0 8 = some () ∧ zM l yX8_errorPosition cX8_errorPosition 1 (some .int) 1 0 0 [.ref a0] D tc ro b0 hp sz ((zoI sz) r).1 ((zoI sz) r).2.1 ((zoI sz) r).2.2 := by
  refine ⟨?_, z_start (o := (zoI sz)) (lv := [(0, .ref a0)]) h (by decide +kernel) RX8 rfl rfl (Nat.le_of_ble_eq_true rfl) (fun P C => ?_)⟩
  · unfold f_X8_errorPosition at h
    cases hc : zis hp a0 8 with
    | none => rw [hc] at h; cases h
    | some u => rfl
  unfold f_X8_errorPosition
  refine z_is ?_
  refine z_aload_n C dX8_errorPosition_0 0 rfl ?_
  refine z_iconst C dX8_errorPosition_1 zi_0 ?_
  refine z_putI C zp_X8_38 dX8_errorPosition_2 (fun h1 => ?_)
  refine z_aload_n C dX8_errorPosition_5 0 rfl ?_
  refine z_getI C zf_X8_28 dX8_errorPosition_6 (fun v2 => ?_)
  exact z_ireturn C dX8_errorPosition_9
noncomputable def f_X8_is (a0 : Nat) (x1 : Int32) (x2 : Int32) (hp : zHp) : Option Int32 :=
  (zis hp a0 8).bind fun _ => if x2 < 0 then (some (0 : Int32)) else (f_X8_many a0 x1 hp).bind fun v1 => if x2 < v1 then (some (1 : Int32)) else some (0 : Int32)
set_option maxHeartbeats 4000000 in
set_option maxRecDepth 100000 in
theorem m_X8_is (l : Launch) (D : va_G) (tc : Nat → ClassId) (ro : Nat → Nat) (b0 : Nat) {a0 : Nat} {x1 : Int32} {x2 : Int32} {hp : zHp} {sz : Nat} {r : Int32} (h : f_X8_is a0 x1 x2 hp = some r) : zis hp a0 8 = some () ∧ zM l yX8_is cX8_is 3 (some .boolean) 2 0 0 [.ref a0, .int x1, .int x2] D tc ro b0 hp sz ((zoP sz hp) r).1 ((zoP sz hp) r).2.1 ((zoP sz hp) r).2.2 := by
  refine ⟨?_, z_start (o := (zoP sz hp)) (lv := [(0, .ref a0), (1, .int x1), (2, .int x2)]) h (by decide +kernel) RX8 rfl rfl (Nat.le_of_ble_eq_true rfl) (fun P C => ?_)⟩
  · unfold f_X8_is at h
    cases hc : zis hp a0 8 with
    | none => rw [hc] at h; cases h
    | some u => rfl
  unfold f_X8_is
  refine z_is ?_
  refine z_iload_n C dX8_is_0 2 rfl ?_
  refine z_if_lt C 17 dX8_is_1 (by decide) ?_ ?_
  · refine z_iconst C dX8_is_17 zi_0 ?_
    exact z_kreturnP C rfl dX8_is_18
  refine z_iload_n C dX8_is_4 2 rfl ?_
  refine z_aload_n C dX8_is_5 0 rfl ?_
  refine z_iload_n C dX8_is_6 1 rfl ?_
  refine z_callVp C zc_X8_44 [.int x1] (fun l D tc b0 r h => m_X8_many l D tc ro b0 h) dX8_is_7 rfl rfl (Nat.le_of_ble_eq_true rfl) (by decide) (by decide) ⟨Nat.le_of_ble_eq_true rfl, Nat.le_of_ble_eq_true rfl⟩ (fun v1 => ?_)
  refine z_icmp_ge C 17 dX8_is_10 (by decide) ?_ ?_
  · refine z_iconst C dX8_is_13 zi_1 ?_
    refine z_goto C 18 dX8_is_14 (by decide) ?_
    exact z_kreturnP C rfl dX8_is_18
  refine z_iconst C dX8_is_17 zi_0 ?_
  exact z_kreturnP C rfl dX8_is_18
noncomputable def f_X8_isPile (a0 : Nat) (x1 : Int32) (hp : zHp) : Option Int32 :=
  (zis hp a0 8).bind fun _ => if x1 < 0 then (some (0 : Int32)) else (f_X8_piles a0 hp).bind fun v1 => if x1 < v1 then (some (1 : Int32)) else some (0 : Int32)
set_option maxHeartbeats 4000000 in
set_option maxRecDepth 100000 in
theorem m_X8_isPile (l : Launch) (D : va_G) (tc : Nat → ClassId) (ro : Nat → Nat) (b0 : Nat) {a0 : Nat} {x1 : Int32} {hp : zHp} {sz : Nat} {r : Int32} (h : f_X8_isPile a0 x1 hp = some r) : zis hp a0 8 = some () ∧ zM l yX8_isPile cX8_isPile 2 (some .boolean) 3 0 0 [.ref a0, .int x1] D tc ro b0 hp sz ((zoP sz hp) r).1 ((zoP sz hp) r).2.1 ((zoP sz hp) r).2.2 := by
  refine ⟨?_, z_start (o := (zoP sz hp)) (lv := [(0, .ref a0), (1, .int x1)]) h (by decide +kernel) RX8 rfl rfl (Nat.le_of_ble_eq_true rfl) (fun P C => ?_)⟩
  · unfold f_X8_isPile at h
    cases hc : zis hp a0 8 with
    | none => rw [hc] at h; cases h
    | some u => rfl
  unfold f_X8_isPile
  refine z_is ?_
  refine z_iload_n C dX8_isPile_0 1 rfl ?_
  refine z_if_lt C 16 dX8_isPile_1 (by decide) ?_ ?_
  · refine z_iconst C dX8_isPile_16 zi_0 ?_
    exact z_kreturnP C rfl dX8_isPile_17
  refine z_iload_n C dX8_isPile_4 1 rfl ?_
  refine z_aload_n C dX8_isPile_5 0 rfl ?_
  refine z_callVp C zc_X8_59 [] (fun l D tc b0 r h => m_X8_piles l D tc ro b0 h) dX8_isPile_6 rfl rfl (Nat.le_of_ble_eq_true rfl) (by decide) (by decide) ⟨Nat.le_of_ble_eq_true rfl, Nat.le_of_ble_eq_true rfl⟩ (fun v1 => ?_)
  refine z_icmp_ge C 16 dX8_isPile_9 (by decide) ?_ ?_
  · refine z_iconst C dX8_isPile_12 zi_1 ?_
    refine z_goto C 17 dX8_isPile_13 (by decide) ?_
    exact z_kreturnP C rfl dX8_isPile_17
  refine z_iconst C dX8_isPile_16 zi_0 ?_
  exact z_kreturnP C rfl dX8_isPile_17
noncomputable def f_X8_isSetting (x0 : Int32) (hp : zHp) : Option Int32 :=
  if x0 = 0 then (some (1 : Int32)) else if x0 = (1 : Int32) then (some (1 : Int32)) else some (0 : Int32)
set_option maxHeartbeats 4000000 in
set_option maxRecDepth 100000 in
theorem m_X8_isSetting (l : Launch) (D : va_G) (tc : Nat → ClassId) (ro : Nat → Nat) (b0 : Nat) {x0 : Int32} {hp : zHp} {sz : Nat} {r : Int32} (h : f_X8_isSetting x0 hp = some r) : zM l yX8_isSetting cX8_isSetting 1 (some .boolean) 1 0 0 [.int x0] D tc ro b0 hp sz ((zoP sz hp) r).1 ((zoP sz hp) r).2.1 ((zoP sz hp) r).2.2 := by
  refine z_start (o := (zoP sz hp)) (lv := [(0, .int x0)]) h (by decide +kernel) RX8 rfl rfl (Nat.le_of_ble_eq_true rfl) (fun P C => ?_)
  unfold f_X8_isSetting
  refine z_iload_n C dX8_isSetting_0 0 rfl ?_
  refine z_if_eq C 9 dX8_isSetting_1 (by decide) ?_ ?_
  · refine z_iconst C dX8_isSetting_9 zi_1 ?_
    refine z_goto C 14 dX8_isSetting_10 (by decide) ?_
    exact z_kreturnP C rfl dX8_isSetting_14
  refine z_iload_n C dX8_isSetting_4 0 rfl ?_
  refine z_iconst C dX8_isSetting_5 zi_1 ?_
  refine z_icmp_ne C 13 dX8_isSetting_6 (by decide) ?_ ?_
  · refine z_iconst C dX8_isSetting_9 zi_1 ?_
    refine z_goto C 14 dX8_isSetting_10 (by decide) ?_
    exact z_kreturnP C rfl dX8_isSetting_14
  refine z_iconst C dX8_isSetting_13 zi_0 ?_
  exact z_kreturnP C rfl dX8_isSetting_14
noncomputable def f_X8_checks (a0 : Nat) (x1 : Int32) (hp : zHp) : Option (Int32 × zHp) :=
  (zis hp a0 8).bind fun _ => if x1 = 0 then ((zpV hp a0 8 0 (.int (1 : Int32))).bind fun h1 => zrN .boolean x1 h1) else (zpV hp a0 8 0 (.int (0 : Int32))).bind fun h2 => zrN .boolean x1 h2
set_option maxHeartbeats 4000000 in
set_option maxRecDepth 100000 in
theorem m_X8_checks (l : Launch) (D : va_G) (tc : Nat → ClassId) (ro : Nat → Nat) (b0 : Nat) {a0 : Nat} {x1 : Int32} {hp : zHp} {sz : Nat} {r : (Int32 × zHp)} (h : f_X8_checks a0 x1 hp = some r) : zis hp a0 8 = some () ∧ zM l yX8_checks cX8_checks 2 (some .boolean) 1 0 0 [.ref a0, .int x1] D tc ro b0 hp sz ((zoI sz) r).1 ((zoI sz) r).2.1 ((zoI sz) r).2.2 := by
  refine ⟨?_, z_start (o := (zoI sz)) (lv := [(0, .ref a0), (1, .int x1)]) h (by decide +kernel) RX8 rfl rfl (Nat.le_of_ble_eq_true rfl) (fun P C => ?_)⟩
  · unfold f_X8_checks at h
    cases hc : zis hp a0 8 with
    | none => rw [hc] at h; cases h
    | some u => rfl
  unfold f_X8_checks
  refine z_is ?_
  refine z_aload_n C dX8_checks_0 0 rfl ?_
  refine z_iload_n C dX8_checks_1 1 rfl ?_
  refine z_if_eq C 9 dX8_checks_2 (by decide) ?_ ?_
  · refine z_iconst C dX8_checks_9 zi_1 ?_
    refine z_putI C zp_X8_38 dX8_checks_10 (fun h1 => ?_)
    refine z_iload_n C dX8_checks_13 1 rfl ?_
    exact z_nreturn C (by simp) dX8_checks_14
  refine z_iconst C dX8_checks_5 zi_0 ?_
  refine z_goto C 10 dX8_checks_6 (by decide) ?_
  refine z_putI C zp_X8_38 dX8_checks_10 (fun h2 => ?_)
  refine z_iload_n C dX8_checks_13 1 rfl ?_
  exact z_nreturn C (by simp) dX8_checks_14
noncomputable def f_X8_count (a0 : Nat) (x1 : Int32) (hp : zHp) : Option (Int32 × zHp) :=
  (zis hp a0 8).bind fun _ => (zpV hp a0 8 0 (.int (0 : Int32))).bind fun h1 => if x1 < 0 then (some ((-2 : Int32), h1)) else if (4 : Int32) < x1 then (some ((-2 : Int32), h1)) else (f_X8_many a0 x1 h1).bind fun v2 => some (v2, h1)
set_option maxHeartbeats 4000000 in
set_option maxRecDepth 100000 in
theorem m_X8_count (l : Launch) (D : va_G) (tc : Nat → ClassId) (ro : Nat → Nat) (b0 : Nat) {a0 : Nat} {x1 : Int32} {hp : zHp} {sz : Nat} {r : (Int32 × zHp)} (h : f_X8_count a0 x1 hp = some r) : zis hp a0 8 = some () ∧ zM l yX8_count cX8_count 2 (some .int) 2 0 0 [.ref a0, .int x1] D tc ro b0 hp sz ((zoI sz) r).1 ((zoI sz) r).2.1 ((zoI sz) r).2.2 := by
  refine ⟨?_, z_start (o := (zoI sz)) (lv := [(0, .ref a0), (1, .int x1)]) h (by decide +kernel) RX8 rfl rfl (Nat.le_of_ble_eq_true rfl) (fun P C => ?_)⟩
  · unfold f_X8_count at h
    cases hc : zis hp a0 8 with
    | none => rw [hc] at h; cases h
    | some u => rfl
  unfold f_X8_count
  refine z_is ?_
  refine z_aload_n C dX8_count_0 0 rfl ?_
  refine z_iconst C dX8_count_1 zi_0 ?_
  refine z_putI C zp_X8_38 dX8_count_2 (fun h1 => ?_)
  refine z_iload_n C dX8_count_5 1 rfl ?_
  refine z_if_lt C 14 dX8_count_6 (by decide) ?_ ?_
  · refine z_bipush C dX8_count_14 zbi_m2 ?_
    refine z_goto C 24 dX8_count_16 (by decide) ?_
    exact z_ireturn C dX8_count_24
  refine z_iload_n C dX8_count_9 1 rfl ?_
  refine z_iconst C dX8_count_10 zi_4 ?_
  refine z_icmp_le C 19 dX8_count_11 (by decide) ?_ ?_
  · refine z_bipush C dX8_count_14 zbi_m2 ?_
    refine z_goto C 24 dX8_count_16 (by decide) ?_
    exact z_ireturn C dX8_count_24
  refine z_aload_n C dX8_count_19 0 rfl ?_
  refine z_iload_n C dX8_count_20 1 rfl ?_
  refine z_callVp C zc_X8_44 [.int x1] (fun l D tc b0 r h => m_X8_many l D tc ro b0 h) dX8_count_21 rfl rfl (Nat.le_of_ble_eq_true rfl) (by decide) (by decide) ⟨Nat.le_of_ble_eq_true rfl, Nat.le_of_ble_eq_true rfl⟩ (fun v2 => ?_)
  exact z_ireturn C dX8_count_24
noncomputable def f_X8_undoCount (a0 : Nat) (hp : zHp) : Option (Int32 × zHp) :=
  (zis hp a0 8).bind fun _ => (zpV hp a0 8 0 (.int (0 : Int32))).bind fun h1 => (zgI h1 a0 8 8).bind fun v2 => some (v2, h1)
set_option maxHeartbeats 4000000 in
set_option maxRecDepth 100000 in
theorem m_X8_undoCount (l : Launch) (D : va_G) (tc : Nat → ClassId) (ro : Nat → Nat) (b0 : Nat) {a0 : Nat} {hp : zHp} {sz : Nat} {r : (Int32 × zHp)} (h : f_X8_undoCount a0 hp = some r) : zis hp a0 8 = some () ∧ zM l yX8_undoCount cX8_undoCount 1 (some .int) 1 0 0 [.ref a0] D tc ro b0 hp sz ((zoI sz) r).1 ((zoI sz) r).2.1 ((zoI sz) r).2.2 := by
  refine ⟨?_, z_start (o := (zoI sz)) (lv := [(0, .ref a0)]) h (by decide +kernel) RX8 rfl rfl (Nat.le_of_ble_eq_true rfl) (fun P C => ?_)⟩
  · unfold f_X8_undoCount at h
    cases hc : zis hp a0 8 with
    | none => rw [hc] at h; cases h
    | some u => rfl
  unfold f_X8_undoCount
  refine z_is ?_
  refine z_aload_n C dX8_undoCount_0 0 rfl ?_
  refine z_iconst C dX8_undoCount_1 zi_0 ?_
  refine z_putI C zp_X8_38 dX8_undoCount_2 (fun h1 => ?_)
  refine z_aload_n C dX8_undoCount_5 0 rfl ?_
  refine z_getI C zf_X8_249 dX8_undoCount_6 (fun v2 => ?_)
  exact z_ireturn C dX8_undoCount_9
noncomputable def f_X8_named (a0 : Nat) (x1 : Int32) (x2 : Int32) (hp : zHp) : Option (Int32 × zHp) :=
  (zis hp a0 8).bind fun _ => (zpV hp a0 8 0 (.int (0 : Int32))).bind fun h1 => if x1 < 0 then (some ((-2 : Int32), h1)) else if (3 : Int32) < x1 then (some ((-2 : Int32), h1)) else (f_X8_nameFound a0 x1 x2 h1).bind fun v2 => some (v2, h1)
set_option maxHeartbeats 4000000 in
set_option maxRecDepth 100000 in
theorem m_X8_named (l : Launch) (D : va_G) (tc : Nat → ClassId) (ro : Nat → Nat) (b0 : Nat) {a0 : Nat} {x1 : Int32} {x2 : Int32} {hp : zHp} {sz : Nat} {r : (Int32 × zHp)} (h : f_X8_named a0 x1 x2 hp = some r) : zis hp a0 8 = some () ∧ zM l yX8_named cX8_named 3 (some .int) 3 0 0 [.ref a0, .int x1, .int x2] D tc ro b0 hp sz ((zoI sz) r).1 ((zoI sz) r).2.1 ((zoI sz) r).2.2 := by
  refine ⟨?_, z_start (o := (zoI sz)) (lv := [(0, .ref a0), (1, .int x1), (2, .int x2)]) h (by decide +kernel) RX8 rfl rfl (Nat.le_of_ble_eq_true rfl) (fun P C => ?_)⟩
  · unfold f_X8_named at h
    cases hc : zis hp a0 8 with
    | none => rw [hc] at h; cases h
    | some u => rfl
  unfold f_X8_named
  refine z_is ?_
  refine z_aload_n C dX8_named_0 0 rfl ?_
  refine z_iconst C dX8_named_1 zi_0 ?_
  refine z_putI C zp_X8_38 dX8_named_2 (fun h1 => ?_)
  refine z_iload_n C dX8_named_5 1 rfl ?_
  refine z_if_lt C 14 dX8_named_6 (by decide) ?_ ?_
  · refine z_bipush C dX8_named_14 zbi_m2 ?_
    refine z_goto C 25 dX8_named_16 (by decide) ?_
    exact z_ireturn C dX8_named_25
  refine z_iload_n C dX8_named_9 1 rfl ?_
  refine z_iconst C dX8_named_10 zi_3 ?_
  refine z_icmp_le C 19 dX8_named_11 (by decide) ?_ ?_
  · refine z_bipush C dX8_named_14 zbi_m2 ?_
    refine z_goto C 25 dX8_named_16 (by decide) ?_
    exact z_ireturn C dX8_named_25
  refine z_aload_n C dX8_named_19 0 rfl ?_
  refine z_iload_n C dX8_named_20 1 rfl ?_
  refine z_iload_n C dX8_named_21 2 rfl ?_
  refine z_callVp C zc_X8_196 [.int x1, .int x2] (fun l D tc b0 r h => m_X8_nameFound l D tc ro b0 h) dX8_named_22 rfl rfl (Nat.le_of_ble_eq_true rfl) (by decide) (by decide) ⟨Nat.le_of_ble_eq_true rfl, Nat.le_of_ble_eq_true rfl⟩ (fun v2 => ?_)
  exact z_ireturn C dX8_named_25
noncomputable def f_X8_getSetting (a0 : Nat) (x1 : Int32) (hp : zHp) : Option (Int32 × zHp) :=
  (zis hp a0 8).bind fun _ => (zpV hp a0 8 0 (.int (0 : Int32))).bind fun h1 => (f_X8_isSetting x1 h1).bind fun v2 => if v2 = 0 then (some ((-2 : Int32), h1)) else (zgR h1 a0 8 5).bind fun r3 => (zaI h1 0 r3 ((0 : Int32) + x1)).bind fun v4 => some (v4, h1)
set_option maxHeartbeats 4000000 in
set_option maxRecDepth 100000 in
theorem m_X8_getSetting (l : Launch) (D : va_G) (tc : Nat → ClassId) (ro : Nat → Nat) (b0 : Nat) {a0 : Nat} {x1 : Int32} {hp : zHp} {sz : Nat} {r : (Int32 × zHp)} (h : f_X8_getSetting a0 x1 hp = some r) : zis hp a0 8 = some () ∧ zM l yX8_getSetting cX8_getSetting 2 (some .int) 2 0 0 [.ref a0, .int x1] D tc ro b0 hp sz ((zoI sz) r).1 ((zoI sz) r).2.1 ((zoI sz) r).2.2 := by
  refine ⟨?_, z_start (o := (zoI sz)) (lv := [(0, .ref a0), (1, .int x1)]) h (by decide +kernel) RX8 rfl rfl (Nat.le_of_ble_eq_true rfl) (fun P C => ?_)⟩
  · unfold f_X8_getSetting at h
    cases hc : zis hp a0 8 with
    | none => rw [hc] at h; cases h
    | some u => rfl
  unfold f_X8_getSetting
  refine z_is ?_
  refine z_aload_n C dX8_getSetting_0 0 rfl ?_
  refine z_iconst C dX8_getSetting_1 zi_0 ?_
  refine z_putI C zp_X8_38 dX8_getSetting_2 (fun h1 => ?_)
  refine z_iload_n C dX8_getSetting_5 1 rfl ?_
  refine z_callSp C zs_X8_252 [.int x1] (fun l D tc b0 r h => m_X8_isSetting l D tc ro b0 h) dX8_getSetting_6 rfl rfl (Nat.le_of_ble_eq_true rfl) (by decide) (by decide) ⟨Nat.le_of_ble_eq_true rfl, Nat.le_of_ble_eq_true rfl⟩ (fun v2 => ?_)
  refine z_if_eq C 23 dX8_getSetting_9 (by decide) ?_ ?_
  · refine z_bipush C dX8_getSetting_23 zbi_m2 ?_
    exact z_ireturn C dX8_getSetting_25
  refine z_aload_n C dX8_getSetting_12 0 rfl ?_
  refine z_getR C zf_X8_19 dX8_getSetting_13 (fun r3 => ?_)
  refine z_iconst C dX8_getSetting_16 zi_0 ?_
  refine z_iload_n C dX8_getSetting_17 1 rfl ?_
  refine z_iadd C dX8_getSetting_18 ?_
  refine z_iaload C dX8_getSetting_19 (fun v4 => ?_)
  refine z_goto C 25 dX8_getSetting_20 (by decide) ?_
  exact z_ireturn C dX8_getSetting_25
noncomputable def f_X8_regionAround (a0 : Nat) (x1 : Int32) (hp : zHp) : Option (Int32 × zHp) :=
  (zis hp a0 8).bind fun _ => (f_X8_is a0 (1 : Int32) x1 hp).bind fun v1 => zb2 (f_X8_checks a0 v1 hp) fun v2 h3 => if v2 = 0 then (some ((0 : Int32), h3)) else (zgR h3 a0 8 3).bind fun r4 => (zaI h3 0 r4 ((33 : Int32) + x1)).bind fun v5 => some (v5, h3)
set_option maxHeartbeats 4000000 in
set_option maxRecDepth 100000 in
theorem m_X8_regionAround (l : Launch) (D : va_G) (tc : Nat → ClassId) (ro : Nat → Nat) (b0 : Nat) {a0 : Nat} {x1 : Int32} {hp : zHp} {sz : Nat} {r : (Int32 × zHp)} (h : f_X8_regionAround a0 x1 hp = some r) : zis hp a0 8 = some () ∧ zM l yX8_regionAround cX8_regionAround 2 (some .int) 3 0 0 [.ref a0, .int x1] D tc ro b0 hp sz ((zoI sz) r).1 ((zoI sz) r).2.1 ((zoI sz) r).2.2 := by
  refine ⟨?_, z_start (o := (zoI sz)) (lv := [(0, .ref a0), (1, .int x1)]) h (by decide +kernel) RX8 rfl rfl (Nat.le_of_ble_eq_true rfl) (fun P C => ?_)⟩
  · unfold f_X8_regionAround at h
    cases hc : zis hp a0 8 with
    | none => rw [hc] at h; cases h
    | some u => rfl
  unfold f_X8_regionAround
  refine z_is ?_
  refine z_aload_n C dX8_regionAround_0 0 rfl ?_
  refine z_aload_n C dX8_regionAround_1 0 rfl ?_
  refine z_iconst C dX8_regionAround_2 zi_1 ?_
  refine z_iload_n C dX8_regionAround_3 1 rfl ?_
  refine z_callVp C zc_X8_255 [.int (1 : Int32), .int x1] (fun l D tc b0 r h => m_X8_is l D tc ro b0 h) dX8_regionAround_4 rfl rfl (Nat.le_of_ble_eq_true rfl) (by decide) (by decide) ⟨Nat.le_of_ble_eq_true rfl, Nat.le_of_ble_eq_true rfl⟩ (fun v1 => ?_)
  refine z_callVi C zc_X8_258 [.int v1] (fun l D tc b0 r h => m_X8_checks l D tc ro b0 h) dX8_regionAround_7 rfl rfl (Nat.le_of_ble_eq_true rfl) (by decide) (by decide) ⟨Nat.le_of_ble_eq_true rfl, Nat.le_of_ble_eq_true rfl⟩ (fun v2 h3 => ?_)
  refine z_if_eq C 25 dX8_regionAround_10 (by decide) ?_ ?_
  · refine z_iconst C dX8_regionAround_25 zi_0 ?_
    exact z_ireturn C dX8_regionAround_26
  refine z_aload_n C dX8_regionAround_13 0 rfl ?_
  refine z_getR C zf_X8_13 dX8_regionAround_14 (fun r4 => ?_)
  refine z_bipush C dX8_regionAround_17 zbi_33 ?_
  refine z_iload_n C dX8_regionAround_19 1 rfl ?_
  refine z_iadd C dX8_regionAround_20 ?_
  refine z_iaload C dX8_regionAround_21 (fun v5 => ?_)
  refine z_goto C 26 dX8_regionAround_22 (by decide) ?_
  exact z_ireturn C dX8_regionAround_26
noncomputable def f_X8_regionOf (a0 : Nat) (x1 : Int32) (hp : zHp) : Option (Int32 × zHp) :=
  (zis hp a0 8).bind fun _ => (f_X8_is a0 (2 : Int32) x1 hp).bind fun v1 => zb2 (f_X8_checks a0 v1 hp) fun v2 h3 => if v2 = 0 then (some ((0 : Int32), h3)) else (zgR h3 a0 8 3).bind fun r4 => (zaI h3 0 r4 ((38 : Int32) + x1)).bind fun v5 => some (v5, h3)
set_option maxHeartbeats 4000000 in
set_option maxRecDepth 100000 in
theorem m_X8_regionOf (l : Launch) (D : va_G) (tc : Nat → ClassId) (ro : Nat → Nat) (b0 : Nat) {a0 : Nat} {x1 : Int32} {hp : zHp} {sz : Nat} {r : (Int32 × zHp)} (h : f_X8_regionOf a0 x1 hp = some r) : zis hp a0 8 = some () ∧ zM l yX8_regionOf cX8_regionOf 2 (some .int) 3 0 0 [.ref a0, .int x1] D tc ro b0 hp sz ((zoI sz) r).1 ((zoI sz) r).2.1 ((zoI sz) r).2.2 := by
  refine ⟨?_, z_start (o := (zoI sz)) (lv := [(0, .ref a0), (1, .int x1)]) h (by decide +kernel) RX8 rfl rfl (Nat.le_of_ble_eq_true rfl) (fun P C => ?_)⟩
  · unfold f_X8_regionOf at h
    cases hc : zis hp a0 8 with
    | none => rw [hc] at h; cases h
    | some u => rfl
  unfold f_X8_regionOf
  refine z_is ?_
  refine z_aload_n C dX8_regionOf_0 0 rfl ?_
  refine z_aload_n C dX8_regionOf_1 0 rfl ?_
  refine z_iconst C dX8_regionOf_2 zi_2 ?_
  refine z_iload_n C dX8_regionOf_3 1 rfl ?_
  refine z_callVp C zc_X8_255 [.int (2 : Int32), .int x1] (fun l D tc b0 r h => m_X8_is l D tc ro b0 h) dX8_regionOf_4 rfl rfl (Nat.le_of_ble_eq_true rfl) (by decide) (by decide) ⟨Nat.le_of_ble_eq_true rfl, Nat.le_of_ble_eq_true rfl⟩ (fun v1 => ?_)
  refine z_callVi C zc_X8_258 [.int v1] (fun l D tc b0 r h => m_X8_checks l D tc ro b0 h) dX8_regionOf_7 rfl rfl (Nat.le_of_ble_eq_true rfl) (by decide) (by decide) ⟨Nat.le_of_ble_eq_true rfl, Nat.le_of_ble_eq_true rfl⟩ (fun v2 h3 => ?_)
  refine z_if_eq C 25 dX8_regionOf_10 (by decide) ?_ ?_
  · refine z_iconst C dX8_regionOf_25 zi_0 ?_
    exact z_ireturn C dX8_regionOf_26
  refine z_aload_n C dX8_regionOf_13 0 rfl ?_
  refine z_getR C zf_X8_13 dX8_regionOf_14 (fun r4 => ?_)
  refine z_bipush C dX8_regionOf_17 zbi_38 ?_
  refine z_iload_n C dX8_regionOf_19 1 rfl ?_
  refine z_iadd C dX8_regionOf_20 ?_
  refine z_iaload C dX8_regionOf_21 (fun v5 => ?_)
  refine z_goto C 26 dX8_regionOf_22 (by decide) ?_
  exact z_ireturn C dX8_regionOf_26
noncomputable def j_X8_wardsIn_45 (k53 : Int32 → Option (Int32 × zHp)) (rec : Int32 → Int32 → Option (Int32 × zHp)) (a0 : Nat) (x1 : Int32) (x3 : Int32) (s0 : Int32) (s1 : Int32) (h : zHp) : Option (Int32 × zHp) :=
  zlet (s0 ||| s1) fun v6 => zlet (x3 + (1 : Int32)) fun v7 => rec v6 v7
set_option maxHeartbeats 4000000 in
set_option maxRecDepth 100000 in
theorem wj_X8_wardsIn_45 {P : zX} {ro : Nat → Nat} {sz : Nat} (C : zC P cX8_wardsIn RX8 (some .int) 3 0 0 4 ro) {a0 : Nat} {x1 : Int32} {x3 : Int32} {s0 : Int32} {s1 : Int32} {h : zHp} {k53 : Int32 → Option (Int32 × zHp)} (hk53 : ∀ (x2 : Int32), zG P (zoI sz) (k53 x2) 53 [(2, .int x2)] [] h sz 0 0) {rec : Int32 → Int32 → Option (Int32 × zHp)} (hrec : ∀ (x2 : Int32) (x3 : Int32), zG P (zoI sz) (rec x2 x3) 19 [(0, .ref a0), (1, .int x1), (2, .int x2), (3, .int x3)] [] h sz 0 0) : zG P (zoI sz) (j_X8_wardsIn_45 k53 rec a0 x1 x3 s0 s1 h) 45 [(0, .ref a0), (1, .int x1), (3, .int x3)] [.int s1, .int s0] h sz 0 0 := by
  unfold j_X8_wardsIn_45
  refine z_ior C dX8_wardsIn_45 ?_
  refine z_istore_nL C (fun v6 => [(0, .ref a0), (1, .int x1), (2, .int v6), (3, .int x3)]) dX8_wardsIn_46 (by decide) (fun _ => rfl) (fun v6 => ?_)
  refine z_iincL C 3 (fun v7 => [(0, .ref a0), (1, .int x1), (2, .int v6), (3, .int v7)]) dX8_wardsIn_47 rfl zi_1 (by decide) (fun _ => rfl) (fun v7 => ?_)
  refine z_goto C 19 dX8_wardsIn_50 (by decide) ?_
  exact hrec _ _
noncomputable def b_X8_wardsIn_19 (k53 : Int32 → Option (Int32 × zHp)) (a0 : Nat) (x1 : Int32) (h : zHp) (rec : Int32 → Int32 → Option (Int32 × zHp)) (x2 : Int32) (x3 : Int32) : Option (Int32 × zHp) :=
  (f_X8_many a0 (2 : Int32) h).bind fun v4 => if x3 < v4 then ((f_X8_isWardIn a0 x3 x1 h).bind fun v5 => if v5 = 0 then (j_X8_wardsIn_45 k53 rec a0 x1 x3 x2 (0 : Int32) h) else j_X8_wardsIn_45 k53 rec a0 x1 x3 x2 ((1 : Int32) <<< (x3 &&& 31)) h) else k53 x2
noncomputable def l_X8_wardsIn_19 (k53 : Int32 → Option (Int32 × zHp)) (a0 : Nat) (x1 : Int32) (h : zHp) (n : Nat) : Int32 → Int32 → Option (Int32 × zHp) :=
  Nat.rec (motive := fun _ => Int32 → Int32 → Option (Int32 × zHp)) (fun _ _ => none) (fun _ rec => b_X8_wardsIn_19 k53 a0 x1 h rec) n
theorem l_X8_wardsIn_19_s (k53 : Int32 → Option (Int32 × zHp)) (a0 : Nat) (x1 : Int32) (h : zHp) (n : Nat) (x2 : Int32) (x3 : Int32) : l_X8_wardsIn_19 k53 a0 x1 h (n + 1) x2 x3 = b_X8_wardsIn_19 k53 a0 x1 h (l_X8_wardsIn_19 k53 a0 x1 h n) x2 x3 := rfl
set_option maxHeartbeats 4000000 in
set_option maxRecDepth 100000 in
theorem wl_X8_wardsIn_19 {P : zX} {ro : Nat → Nat} {sz : Nat} (C : zC P cX8_wardsIn RX8 (some .int) 3 0 0 4 ro) {a0 : Nat} {x1 : Int32} {h : zHp} {k53 : Int32 → Option (Int32 × zHp)} (hk53 : ∀ (x2 : Int32), zG P (zoI sz) (k53 x2) 53 [(2, .int x2)] [] h sz 0 0) : ∀ (n : Nat) (x2 : Int32) (x3 : Int32), zG P (zoI sz) (l_X8_wardsIn_19 k53 a0 x1 h n x2 x3) 19 [(0, .ref a0), (1, .int x1), (2, .int x2), (3, .int x3)] [] h sz 0 0 := by
  intro n
  induction n with
  | zero =>
    intro x2 x3
    show zG P (zoI sz) none _ _ _ _ _ _ _
    exact z_none
  | succ n ih =>
    intro x2 x3
    show zG P (zoI sz) (b_X8_wardsIn_19 k53 a0 x1 h (l_X8_wardsIn_19 k53 a0 x1 h n) x2 x3) _ _ _ _ _ _ _
    unfold b_X8_wardsIn_19
    refine z_iload_n C dX8_wardsIn_19 3 rfl ?_
    refine z_aload_n C dX8_wardsIn_20 0 rfl ?_
    refine z_iconst C dX8_wardsIn_21 zi_2 ?_
    refine z_callVp C zc_X8_44 [.int (2 : Int32)] (fun l D tc b0 r h => m_X8_many l D tc ro b0 h) dX8_wardsIn_22 rfl rfl (Nat.le_of_ble_eq_true rfl) (by decide) (by decide) ⟨Nat.le_of_ble_eq_true rfl, Nat.le_of_ble_eq_true rfl⟩ (fun v4 => ?_)
    refine z_icmp_ge C 53 dX8_wardsIn_25 (by decide) ?_ ?_
    · refine z_iload_n C dX8_wardsIn_28 2 rfl ?_
      refine z_aload_n C dX8_wardsIn_29 0 rfl ?_
      refine z_iload_n C dX8_wardsIn_30 3 rfl ?_
      refine z_iload_n C dX8_wardsIn_31 1 rfl ?_
      refine z_callVp C zc_X8_132 [.int x3, .int x1] (fun l D tc b0 r h => m_X8_isWardIn l D tc ro b0 h) dX8_wardsIn_32 rfl rfl (Nat.le_of_ble_eq_true rfl) (by decide) (by decide) ⟨Nat.le_of_ble_eq_true rfl, Nat.le_of_ble_eq_true rfl⟩ (fun v5 => ?_)
      refine z_if_eq C 44 dX8_wardsIn_35 (by decide) ?_ ?_
      · refine z_iconst C dX8_wardsIn_44 zi_0 ?_
        exact z_sub [0, 1, 3] rfl (wj_X8_wardsIn_45 C hk53 ih)
      refine z_iconst C dX8_wardsIn_38 zi_1 ?_
      refine z_iload_n C dX8_wardsIn_39 3 rfl ?_
      refine z_ishl C dX8_wardsIn_40 ?_
      refine z_goto C 45 dX8_wardsIn_41 (by decide) ?_
      exact z_sub [0, 1, 3] rfl (wj_X8_wardsIn_45 C hk53 ih)
    exact z_sub [2] rfl (hk53 _)
noncomputable def f_X8_wardsIn (a0 : Nat) (x1 : Int32) (hp : zHp) : Option (Int32 × zHp) :=
  (zis hp a0 8).bind fun _ => (f_X8_is a0 (1 : Int32) x1 hp).bind fun v1 => zb2 (f_X8_checks a0 v1 hp) fun v2 h3 => if v2 = 0 then (some ((0 : Int32), h3)) else l_X8_wardsIn_19 (fun p8 => some (p8, h3)) a0 x1 h3 1000000 (0 : Int32) (0 : Int32)
set_option maxHeartbeats 4000000 in
set_option maxRecDepth 100000 in
theorem m_X8_wardsIn (l : Launch) (D : va_G) (tc : Nat → ClassId) (ro : Nat → Nat) (b0 : Nat) {a0 : Nat} {x1 : Int32} {hp : zHp} {sz : Nat} {r : (Int32 × zHp)} (h : f_X8_wardsIn a0 x1 hp = some r) : zis hp a0 8 = some () ∧ zM l yX8_wardsIn cX8_wardsIn 4 (some .int) 3 0 0 [.ref a0, .int x1] D tc ro b0 hp sz ((zoI sz) r).1 ((zoI sz) r).2.1 ((zoI sz) r).2.2 := by
  refine ⟨?_, z_start (o := (zoI sz)) (lv := [(0, .ref a0), (1, .int x1)]) h (by decide +kernel) RX8 rfl rfl (Nat.le_of_ble_eq_true rfl) (fun P C => ?_)⟩
  · unfold f_X8_wardsIn at h
    cases hc : zis hp a0 8 with
    | none => rw [hc] at h; cases h
    | some u => rfl
  unfold f_X8_wardsIn
  refine z_is ?_
  refine z_aload_n C dX8_wardsIn_0 0 rfl ?_
  refine z_aload_n C dX8_wardsIn_1 0 rfl ?_
  refine z_iconst C dX8_wardsIn_2 zi_1 ?_
  refine z_iload_n C dX8_wardsIn_3 1 rfl ?_
  refine z_callVp C zc_X8_255 [.int (1 : Int32), .int x1] (fun l D tc b0 r h => m_X8_is l D tc ro b0 h) dX8_wardsIn_4 rfl rfl (Nat.le_of_ble_eq_true rfl) (by decide) (by decide) ⟨Nat.le_of_ble_eq_true rfl, Nat.le_of_ble_eq_true rfl⟩ (fun v1 => ?_)
  refine z_callVi C zc_X8_258 [.int v1] (fun l D tc b0 r h => m_X8_checks l D tc ro b0 h) dX8_wardsIn_7 rfl rfl (Nat.le_of_ble_eq_true rfl) (by decide) (by decide) ⟨Nat.le_of_ble_eq_true rfl, Nat.le_of_ble_eq_true rfl⟩ (fun v2 h3 => ?_)
  refine z_if_ne C 15 dX8_wardsIn_10 (by decide) ?_ ?_
  · refine z_iconst C dX8_wardsIn_13 zi_0 ?_
    exact z_ireturn C dX8_wardsIn_14
  refine z_iconst C dX8_wardsIn_15 zi_0 ?_
  refine z_istore_n (lv' := [(0, .ref a0), (1, .int x1), (2, .int (0 : Int32))]) C dX8_wardsIn_16 (by decide) rfl ?_
  refine z_iconst C dX8_wardsIn_17 zi_0 ?_
  refine z_istore_n (lv' := [(0, .ref a0), (1, .int x1), (2, .int (0 : Int32)), (3, .int (0 : Int32))]) C dX8_wardsIn_18 (by decide) rfl ?_
  refine wl_X8_wardsIn_19 C (fun p8 => ?_) _ _ _
  refine z_iload_n C dX8_wardsIn_53 0 rfl ?_
  exact z_ireturn C dX8_wardsIn_54
noncomputable def b_X8_depthOf_27 (k48 : Int32 → Option (Int32 × zHp)) (a0 : Nat) (h : zHp) (rec : Int32 → Int32 → Option (Int32 × zHp)) (x2 : Int32) (x3 : Int32) : Option (Int32 × zHp) :=
  if x3 = (-1 : Int32) then (k48 x2) else zlet (x2 + (1 : Int32)) fun v6 => (zgR h a0 8 3).bind fun r7 => (zaI h 0 r7 ((33 : Int32) + x3)).bind fun v8 => rec v6 v8
noncomputable def l_X8_depthOf_27 (k48 : Int32 → Option (Int32 × zHp)) (a0 : Nat) (h : zHp) (n : Nat) : Int32 → Int32 → Option (Int32 × zHp) :=
  Nat.rec (motive := fun _ => Int32 → Int32 → Option (Int32 × zHp)) (fun _ _ => none) (fun _ rec => b_X8_depthOf_27 k48 a0 h rec) n
theorem l_X8_depthOf_27_s (k48 : Int32 → Option (Int32 × zHp)) (a0 : Nat) (h : zHp) (n : Nat) (x2 : Int32) (x3 : Int32) : l_X8_depthOf_27 k48 a0 h (n + 1) x2 x3 = b_X8_depthOf_27 k48 a0 h (l_X8_depthOf_27 k48 a0 h n) x2 x3 := rfl
set_option maxHeartbeats 4000000 in
set_option maxRecDepth 100000 in
theorem wl_X8_depthOf_27 {P : zX} {ro : Nat → Nat} {sz : Nat} (C : zC P cX8_depthOf RX8 (some .int) 3 0 0 4 ro) {a0 : Nat} {h : zHp} {k48 : Int32 → Option (Int32 × zHp)} (hk48 : ∀ (x2 : Int32), zG P (zoI sz) (k48 x2) 48 [(2, .int x2)] [] h sz 0 0) : ∀ (n : Nat) (x2 : Int32) (x3 : Int32), zG P (zoI sz) (l_X8_depthOf_27 k48 a0 h n x2 x3) 27 [(0, .ref a0), (2, .int x2), (3, .int x3)] [] h sz 0 0 := by
  intro n
  induction n with
  | zero =>
    intro x2 x3
    show zG P (zoI sz) none _ _ _ _ _ _ _
    exact z_none
  | succ n ih =>
    intro x2 x3
    show zG P (zoI sz) (b_X8_depthOf_27 k48 a0 h (l_X8_depthOf_27 k48 a0 h n) x2 x3) _ _ _ _ _ _ _
    unfold b_X8_depthOf_27
    refine z_iload_n C dX8_depthOf_27 2 rfl ?_
    refine z_iconst C dX8_depthOf_28 zi_m1 ?_
    refine z_icmp_eq C 48 dX8_depthOf_29 (by decide) ?_ ?_
    · exact z_sub [1] rfl (hk48 _)
    refine z_iincL C 1 (fun v6 => [(0, .ref a0), (2, .int v6), (3, .int x3)]) dX8_depthOf_32 rfl zi_1 (by decide) (fun _ => rfl) (fun v6 => ?_)
    refine z_aload_n C dX8_depthOf_35 0 rfl ?_
    refine z_getR C zf_X8_13 dX8_depthOf_36 (fun r7 => ?_)
    refine z_bipush C dX8_depthOf_39 zbi_33 ?_
    refine z_iload_n C dX8_depthOf_41 2 rfl ?_
    refine z_iadd C dX8_depthOf_42 ?_
    refine z_iaload C dX8_depthOf_43 (fun v8 => ?_)
    refine z_istore_n (lv' := [(0, .ref a0), (2, .int v6), (3, .int v8)]) C dX8_depthOf_44 (by decide) rfl ?_
    refine z_goto C 27 dX8_depthOf_45 (by decide) ?_
    exact ih _ _
noncomputable def f_X8_depthOf (a0 : Nat) (x1 : Int32) (hp : zHp) : Option (Int32 × zHp) :=
  (zis hp a0 8).bind fun _ => (f_X8_is a0 (1 : Int32) x1 hp).bind fun v1 => zb2 (f_X8_checks a0 v1 hp) fun v2 h3 => if v2 = 0 then (some ((0 : Int32), h3)) else (zgR h3 a0 8 3).bind fun r4 => (zaI h3 0 r4 ((33 : Int32) + x1)).bind fun v5 => l_X8_depthOf_27 (fun p9 => some (p9, h3)) a0 h3 1000000 (0 : Int32) v5
set_option maxHeartbeats 4000000 in
set_option maxRecDepth 100000 in
theorem m_X8_depthOf (l : Launch) (D : va_G) (tc : Nat → ClassId) (ro : Nat → Nat) (b0 : Nat) {a0 : Nat} {x1 : Int32} {hp : zHp} {sz : Nat} {r : (Int32 × zHp)} (h : f_X8_depthOf a0 x1 hp = some r) : zis hp a0 8 = some () ∧ zM l yX8_depthOf cX8_depthOf 4 (some .int) 3 0 0 [.ref a0, .int x1] D tc ro b0 hp sz ((zoI sz) r).1 ((zoI sz) r).2.1 ((zoI sz) r).2.2 := by
  refine ⟨?_, z_start (o := (zoI sz)) (lv := [(0, .ref a0), (1, .int x1)]) h (by decide +kernel) RX8 rfl rfl (Nat.le_of_ble_eq_true rfl) (fun P C => ?_)⟩
  · unfold f_X8_depthOf at h
    cases hc : zis hp a0 8 with
    | none => rw [hc] at h; cases h
    | some u => rfl
  unfold f_X8_depthOf
  refine z_is ?_
  refine z_aload_n C dX8_depthOf_0 0 rfl ?_
  refine z_aload_n C dX8_depthOf_1 0 rfl ?_
  refine z_iconst C dX8_depthOf_2 zi_1 ?_
  refine z_iload_n C dX8_depthOf_3 1 rfl ?_
  refine z_callVp C zc_X8_255 [.int (1 : Int32), .int x1] (fun l D tc b0 r h => m_X8_is l D tc ro b0 h) dX8_depthOf_4 rfl rfl (Nat.le_of_ble_eq_true rfl) (by decide) (by decide) ⟨Nat.le_of_ble_eq_true rfl, Nat.le_of_ble_eq_true rfl⟩ (fun v1 => ?_)
  refine z_callVi C zc_X8_258 [.int v1] (fun l D tc b0 r h => m_X8_checks l D tc ro b0 h) dX8_depthOf_7 rfl rfl (Nat.le_of_ble_eq_true rfl) (by decide) (by decide) ⟨Nat.le_of_ble_eq_true rfl, Nat.le_of_ble_eq_true rfl⟩ (fun v2 h3 => ?_)
  refine z_if_ne C 15 dX8_depthOf_10 (by decide) ?_ ?_
  · refine z_iconst C dX8_depthOf_13 zi_0 ?_
    exact z_ireturn C dX8_depthOf_14
  refine z_iconst C dX8_depthOf_15 zi_0 ?_
  refine z_istore_n (lv' := [(0, .ref a0), (1, .int x1), (2, .int (0 : Int32))]) C dX8_depthOf_16 (by decide) rfl ?_
  refine z_aload_n C dX8_depthOf_17 0 rfl ?_
  refine z_getR C zf_X8_13 dX8_depthOf_18 (fun r4 => ?_)
  refine z_bipush C dX8_depthOf_21 zbi_33 ?_
  refine z_iload_n C dX8_depthOf_23 1 rfl ?_
  refine z_iadd C dX8_depthOf_24 ?_
  refine z_iaload C dX8_depthOf_25 (fun v5 => ?_)
  refine z_istore_n (lv' := [(0, .ref a0), (1, .int x1), (2, .int (0 : Int32)), (3, .int v5)]) C dX8_depthOf_26 (by decide) rfl ?_
  refine z_sub [0, 2, 3] rfl (wl_X8_depthOf_27 C (fun p9 => ?_) _ _ _)
  refine z_iload_n C dX8_depthOf_48 0 rfl ?_
  exact z_ireturn C dX8_depthOf_49
noncomputable def f_X8_boxProperty (a0 : Nat) (x1 : Int32) (x2 : Int32) (hp : zHp) : Option (Int32 × zHp) :=
  (zis hp a0 8).bind fun _ => (f_X8_is a0 (3 : Int32) x1 hp).bind fun v1 => zb2 (f_X8_checks a0 v1 hp) fun v2 h3 => if v2 = 0 then (some ((0 : Int32), h3)) else if x2 = (0 : Int32) then ((zgR h3 a0 8 3).bind fun r4 => (zaI h3 0 r4 ((44 : Int32) + x1)).bind fun v5 => some (v5, h3)) else if x2 = (1 : Int32) then ((zgR h3 a0 8 3).bind fun r7 => (zaI h3 0 r7 ((56 : Int32) + x1)).bind fun v8 => some (v8, h3)) else if x2 = (2 : Int32) then ((f_X8_of a0 x1 (1 : Int32) h3).bind fun v10 => some (v10, h3)) else if x2 = (3 : Int32) then ((f_X8_of a0 x1 (3 : Int32) h3).bind fun v12 => some (v12, h3)) else some ((-2 : Int32), h3)
set_option maxHeartbeats 4000000 in
set_option maxRecDepth 100000 in
theorem m_X8_boxProperty (l : Launch) (D : va_G) (tc : Nat → ClassId) (ro : Nat → Nat) (b0 : Nat) {a0 : Nat} {x1 : Int32} {x2 : Int32} {hp : zHp} {sz : Nat} {r : (Int32 × zHp)} (h : f_X8_boxProperty a0 x1 x2 hp = some r) : zis hp a0 8 = some () ∧ zM l yX8_boxProperty cX8_boxProperty 3 (some .int) 3 0 0 [.ref a0, .int x1, .int x2] D tc ro b0 hp sz ((zoI sz) r).1 ((zoI sz) r).2.1 ((zoI sz) r).2.2 := by
  refine ⟨?_, z_start (o := (zoI sz)) (lv := [(0, .ref a0), (1, .int x1), (2, .int x2)]) h (by decide +kernel) RX8 rfl rfl (Nat.le_of_ble_eq_true rfl) (fun P C => ?_)⟩
  · unfold f_X8_boxProperty at h
    cases hc : zis hp a0 8 with
    | none => rw [hc] at h; cases h
    | some u => rfl
  unfold f_X8_boxProperty
  refine z_is ?_
  refine z_aload_n C dX8_boxProperty_0 0 rfl ?_
  refine z_aload_n C dX8_boxProperty_1 0 rfl ?_
  refine z_iconst C dX8_boxProperty_2 zi_3 ?_
  refine z_iload_n C dX8_boxProperty_3 1 rfl ?_
  refine z_callVp C zc_X8_255 [.int (3 : Int32), .int x1] (fun l D tc b0 r h => m_X8_is l D tc ro b0 h) dX8_boxProperty_4 rfl rfl (Nat.le_of_ble_eq_true rfl) (by decide) (by decide) ⟨Nat.le_of_ble_eq_true rfl, Nat.le_of_ble_eq_true rfl⟩ (fun v1 => ?_)
  refine z_callVi C zc_X8_258 [.int v1] (fun l D tc b0 r h => m_X8_checks l D tc ro b0 h) dX8_boxProperty_7 rfl rfl (Nat.le_of_ble_eq_true rfl) (by decide) (by decide) ⟨Nat.le_of_ble_eq_true rfl, Nat.le_of_ble_eq_true rfl⟩ (fun v2 h3 => ?_)
  refine z_if_ne C 15 dX8_boxProperty_10 (by decide) ?_ ?_
  · refine z_iconst C dX8_boxProperty_13 zi_0 ?_
    exact z_ireturn C dX8_boxProperty_14
  refine z_iload_n C dX8_boxProperty_15 2 rfl ?_
  refine z_case (off := 32) C (0 : Int32) 48 dX8_boxProperty_16 (by decide) (by decide) (by decide) (by decide) ?_ (fun n6 => ?_)
  · refine z_aload_n C dX8_boxProperty_48 0 rfl ?_
    refine z_getR C zf_X8_13 dX8_boxProperty_49 (fun r4 => ?_)
    refine z_bipush C dX8_boxProperty_52 zbi_44 ?_
    refine z_iload_n C dX8_boxProperty_54 1 rfl ?_
    refine z_iadd C dX8_boxProperty_55 ?_
    refine z_iaload C dX8_boxProperty_56 (fun v5 => ?_)
    exact z_ireturn C dX8_boxProperty_57
  refine z_case (off := 42) C (1 : Int32) 58 dX8_boxProperty_16 (by decide) (by decide) (by decide) (by decide) ?_ (fun n9 => ?_)
  · refine z_aload_n C dX8_boxProperty_58 0 rfl ?_
    refine z_getR C zf_X8_13 dX8_boxProperty_59 (fun r7 => ?_)
    refine z_bipush C dX8_boxProperty_62 zbi_56 ?_
    refine z_iload_n C dX8_boxProperty_64 1 rfl ?_
    refine z_iadd C dX8_boxProperty_65 ?_
    refine z_iaload C dX8_boxProperty_66 (fun v8 => ?_)
    exact z_ireturn C dX8_boxProperty_67
  refine z_case (off := 52) C (2 : Int32) 68 dX8_boxProperty_16 (by decide) (by decide) (by decide) (by decide) ?_ (fun n11 => ?_)
  · refine z_aload_n C dX8_boxProperty_68 0 rfl ?_
    refine z_iload_n C dX8_boxProperty_69 1 rfl ?_
    refine z_iconst C dX8_boxProperty_70 zi_1 ?_
    refine z_callVp C zc_X8_48 [.int x1, .int (1 : Int32)] (fun l D tc b0 r h => m_X8_of l D tc ro b0 h) dX8_boxProperty_71 rfl rfl (Nat.le_of_ble_eq_true rfl) (by decide) (by decide) ⟨Nat.le_of_ble_eq_true rfl, Nat.le_of_ble_eq_true rfl⟩ (fun v10 => ?_)
    exact z_ireturn C dX8_boxProperty_74
  refine z_case (off := 59) C (3 : Int32) 75 dX8_boxProperty_16 (by decide) (by decide) (by decide) (by decide) ?_ (fun n13 => ?_)
  · refine z_aload_n C dX8_boxProperty_75 0 rfl ?_
    refine z_iload_n C dX8_boxProperty_76 1 rfl ?_
    refine z_iconst C dX8_boxProperty_77 zi_3 ?_
    refine z_callVp C zc_X8_48 [.int x1, .int (3 : Int32)] (fun l D tc b0 r h => m_X8_of l D tc ro b0 h) dX8_boxProperty_78 rfl rfl (Nat.le_of_ble_eq_true rfl) (by decide) (by decide) ⟨Nat.le_of_ble_eq_true rfl, Nat.le_of_ble_eq_true rfl⟩ (fun v12 => ?_)
    exact z_ireturn C dX8_boxProperty_81
  refine z_dflt C 82 dX8_boxProperty_16 (by have t0 := lv_neT n6 (show (0 : Int32).toInt = 0 by decide); have t1 := lv_neT n9 (show (1 : Int32).toInt = 1 by decide); have t2 := lv_neT n11 (show (2 : Int32).toInt = 2 by decide); have t3 := lv_neT n13 (show (3 : Int32).toInt = 3 by decide); omega) (by decide) ?_
  refine z_bipush C dX8_boxProperty_82 zbi_m2 ?_
  exact z_ireturn C dX8_boxProperty_84
noncomputable def f_X8_placeOf (a0 : Nat) (x1 : Int32) (hp : zHp) : Option (Int32 × zHp) :=
  (zis hp a0 8).bind fun _ => (f_X8_is a0 (3 : Int32) x1 hp).bind fun v1 => zb2 (f_X8_checks a0 v1 hp) fun v2 h3 => if v2 = 0 then (some ((0 : Int32), h3)) else (f_X8_of a0 x1 (0 : Int32) h3).bind fun v4 => some (v4, h3)
set_option maxHeartbeats 4000000 in
set_option maxRecDepth 100000 in
theorem m_X8_placeOf (l : Launch) (D : va_G) (tc : Nat → ClassId) (ro : Nat → Nat) (b0 : Nat) {a0 : Nat} {x1 : Int32} {hp : zHp} {sz : Nat} {r : (Int32 × zHp)} (h : f_X8_placeOf a0 x1 hp = some r) : zis hp a0 8 = some () ∧ zM l yX8_placeOf cX8_placeOf 2 (some .int) 3 0 0 [.ref a0, .int x1] D tc ro b0 hp sz ((zoI sz) r).1 ((zoI sz) r).2.1 ((zoI sz) r).2.2 := by
  refine ⟨?_, z_start (o := (zoI sz)) (lv := [(0, .ref a0), (1, .int x1)]) h (by decide +kernel) RX8 rfl rfl (Nat.le_of_ble_eq_true rfl) (fun P C => ?_)⟩
  · unfold f_X8_placeOf at h
    cases hc : zis hp a0 8 with
    | none => rw [hc] at h; cases h
    | some u => rfl
  unfold f_X8_placeOf
  refine z_is ?_
  refine z_aload_n C dX8_placeOf_0 0 rfl ?_
  refine z_aload_n C dX8_placeOf_1 0 rfl ?_
  refine z_iconst C dX8_placeOf_2 zi_3 ?_
  refine z_iload_n C dX8_placeOf_3 1 rfl ?_
  refine z_callVp C zc_X8_255 [.int (3 : Int32), .int x1] (fun l D tc b0 r h => m_X8_is l D tc ro b0 h) dX8_placeOf_4 rfl rfl (Nat.le_of_ble_eq_true rfl) (by decide) (by decide) ⟨Nat.le_of_ble_eq_true rfl, Nat.le_of_ble_eq_true rfl⟩ (fun v1 => ?_)
  refine z_callVi C zc_X8_258 [.int v1] (fun l D tc b0 r h => m_X8_checks l D tc ro b0 h) dX8_placeOf_7 rfl rfl (Nat.le_of_ble_eq_true rfl) (by decide) (by decide) ⟨Nat.le_of_ble_eq_true rfl, Nat.le_of_ble_eq_true rfl⟩ (fun v2 h3 => ?_)
  refine z_if_eq C 22 dX8_placeOf_10 (by decide) ?_ ?_
  · refine z_iconst C dX8_placeOf_22 zi_0 ?_
    exact z_ireturn C dX8_placeOf_23
  refine z_aload_n C dX8_placeOf_13 0 rfl ?_
  refine z_iload_n C dX8_placeOf_14 1 rfl ?_
  refine z_iconst C dX8_placeOf_15 zi_0 ?_
  refine z_callVp C zc_X8_48 [.int x1, .int (0 : Int32)] (fun l D tc b0 r h => m_X8_of l D tc ro b0 h) dX8_placeOf_16 rfl rfl (Nat.le_of_ble_eq_true rfl) (by decide) (by decide) ⟨Nat.le_of_ble_eq_true rfl, Nat.le_of_ble_eq_true rfl⟩ (fun v4 => ?_)
  refine z_goto C 23 dX8_placeOf_19 (by decide) ?_
  exact z_ireturn C dX8_placeOf_23
noncomputable def f_X8_papers (a0 : Nat) (x1 : Int32) (x2 : Int32) (hp : zHp) : Option (Int32 × zHp) :=
  (zis hp a0 8).bind fun _ => (f_X8_is a0 (3 : Int32) x1 hp).bind fun v1 => zb2 (f_X8_checks a0 v1 hp) fun v2 h3 => if v2 = 0 then (some ((0 : Int32), h3)) else (f_X8_isPile a0 x2 h3).bind fun v4 => if v4 = 0 then (some ((-2 : Int32), h3)) else (f_X8_paper a0 x1 x2 h3).bind fun v5 => some (v5, h3)
set_option maxHeartbeats 4000000 in
set_option maxRecDepth 100000 in
theorem m_X8_papers (l : Launch) (D : va_G) (tc : Nat → ClassId) (ro : Nat → Nat) (b0 : Nat) {a0 : Nat} {x1 : Int32} {x2 : Int32} {hp : zHp} {sz : Nat} {r : (Int32 × zHp)} (h : f_X8_papers a0 x1 x2 hp = some r) : zis hp a0 8 = some () ∧ zM l yX8_papers cX8_papers 3 (some .int) 4 0 0 [.ref a0, .int x1, .int x2] D tc ro b0 hp sz ((zoI sz) r).1 ((zoI sz) r).2.1 ((zoI sz) r).2.2 := by
  refine ⟨?_, z_start (o := (zoI sz)) (lv := [(0, .ref a0), (1, .int x1), (2, .int x2)]) h (by decide +kernel) RX8 rfl rfl (Nat.le_of_ble_eq_true rfl) (fun P C => ?_)⟩
  · unfold f_X8_papers at h
    cases hc : zis hp a0 8 with
    | none => rw [hc] at h; cases h
    | some u => rfl
  unfold f_X8_papers
  refine z_is ?_
  refine z_aload_n C dX8_papers_0 0 rfl ?_
  refine z_aload_n C dX8_papers_1 0 rfl ?_
  refine z_iconst C dX8_papers_2 zi_3 ?_
  refine z_iload_n C dX8_papers_3 1 rfl ?_
  refine z_callVp C zc_X8_255 [.int (3 : Int32), .int x1] (fun l D tc b0 r h => m_X8_is l D tc ro b0 h) dX8_papers_4 rfl rfl (Nat.le_of_ble_eq_true rfl) (by decide) (by decide) ⟨Nat.le_of_ble_eq_true rfl, Nat.le_of_ble_eq_true rfl⟩ (fun v1 => ?_)
  refine z_callVi C zc_X8_258 [.int v1] (fun l D tc b0 r h => m_X8_checks l D tc ro b0 h) dX8_papers_7 rfl rfl (Nat.le_of_ble_eq_true rfl) (by decide) (by decide) ⟨Nat.le_of_ble_eq_true rfl, Nat.le_of_ble_eq_true rfl⟩ (fun v2 h3 => ?_)
  refine z_if_ne C 15 dX8_papers_10 (by decide) ?_ ?_
  · refine z_iconst C dX8_papers_13 zi_0 ?_
    exact z_ireturn C dX8_papers_14
  refine z_aload_n C dX8_papers_15 0 rfl ?_
  refine z_iload_n C dX8_papers_16 2 rfl ?_
  refine z_callVp C zc_X8_262 [.int x2] (fun l D tc b0 r h => m_X8_isPile l D tc ro b0 h) dX8_papers_17 rfl rfl (Nat.le_of_ble_eq_true rfl) (by decide) (by decide) ⟨Nat.le_of_ble_eq_true rfl, Nat.le_of_ble_eq_true rfl⟩ (fun v4 => ?_)
  refine z_if_eq C 32 dX8_papers_20 (by decide) ?_ ?_
  · refine z_bipush C dX8_papers_32 zbi_m2 ?_
    exact z_ireturn C dX8_papers_34
  refine z_aload_n C dX8_papers_23 0 rfl ?_
  refine z_iload_n C dX8_papers_24 1 rfl ?_
  refine z_iload_n C dX8_papers_25 2 rfl ?_
  refine z_callVp C zc_X8_56 [.int x1, .int x2] (fun l D tc b0 r h => m_X8_paper l D tc ro b0 h) dX8_papers_26 rfl rfl (Nat.le_of_ble_eq_true rfl) (by decide) (by decide) ⟨Nat.le_of_ble_eq_true rfl, Nat.le_of_ble_eq_true rfl⟩ (fun v5 => ?_)
  refine z_goto C 34 dX8_papers_29 (by decide) ?_
  exact z_ireturn C dX8_papers_34
noncomputable def f_X8_isSealGood (a0 : Nat) (x1 : Int32) (hp : zHp) : Option (Int32 × zHp) :=
  (zis hp a0 8).bind fun _ => (f_X8_is a0 (3 : Int32) x1 hp).bind fun v1 => zb2 (f_X8_checks a0 v1 hp) fun v2 h3 => if v2 = 0 then (some ((0 : Int32), h3)) else (f_X8_isGood a0 x1 h3).bind fun v4 => if v4 = 0 then (some ((0 : Int32), h3)) else some ((1 : Int32), h3)
set_option maxHeartbeats 4000000 in
set_option maxRecDepth 100000 in
theorem m_X8_isSealGood (l : Launch) (D : va_G) (tc : Nat → ClassId) (ro : Nat → Nat) (b0 : Nat) {a0 : Nat} {x1 : Int32} {hp : zHp} {sz : Nat} {r : (Int32 × zHp)} (h : f_X8_isSealGood a0 x1 hp = some r) : zis hp a0 8 = some () ∧ zM l yX8_isSealGood cX8_isSealGood 2 (some .boolean) 4 0 0 [.ref a0, .int x1] D tc ro b0 hp sz ((zoI sz) r).1 ((zoI sz) r).2.1 ((zoI sz) r).2.2 := by
  refine ⟨?_, z_start (o := (zoI sz)) (lv := [(0, .ref a0), (1, .int x1)]) h (by decide +kernel) RX8 rfl rfl (Nat.le_of_ble_eq_true rfl) (fun P C => ?_)⟩
  · unfold f_X8_isSealGood at h
    cases hc : zis hp a0 8 with
    | none => rw [hc] at h; cases h
    | some u => rfl
  unfold f_X8_isSealGood
  refine z_is ?_
  refine z_aload_n C dX8_isSealGood_0 0 rfl ?_
  refine z_aload_n C dX8_isSealGood_1 0 rfl ?_
  refine z_iconst C dX8_isSealGood_2 zi_3 ?_
  refine z_iload_n C dX8_isSealGood_3 1 rfl ?_
  refine z_callVp C zc_X8_255 [.int (3 : Int32), .int x1] (fun l D tc b0 r h => m_X8_is l D tc ro b0 h) dX8_isSealGood_4 rfl rfl (Nat.le_of_ble_eq_true rfl) (by decide) (by decide) ⟨Nat.le_of_ble_eq_true rfl, Nat.le_of_ble_eq_true rfl⟩ (fun v1 => ?_)
  refine z_callVi C zc_X8_258 [.int v1] (fun l D tc b0 r h => m_X8_checks l D tc ro b0 h) dX8_isSealGood_7 rfl rfl (Nat.le_of_ble_eq_true rfl) (by decide) (by decide) ⟨Nat.le_of_ble_eq_true rfl, Nat.le_of_ble_eq_true rfl⟩ (fun v2 h3 => ?_)
  refine z_if_eq C 25 dX8_isSealGood_10 (by decide) ?_ ?_
  · refine z_iconst C dX8_isSealGood_25 zi_0 ?_
    exact z_kreturn C rfl dX8_isSealGood_26
  refine z_aload_n C dX8_isSealGood_13 0 rfl ?_
  refine z_iload_n C dX8_isSealGood_14 1 rfl ?_
  refine z_callVp C zc_X8_265 [.int x1] (fun l D tc b0 r h => m_X8_isGood l D tc ro b0 h) dX8_isSealGood_15 rfl rfl (Nat.le_of_ble_eq_true rfl) (by decide) (by decide) ⟨Nat.le_of_ble_eq_true rfl, Nat.le_of_ble_eq_true rfl⟩ (fun v4 => ?_)
  refine z_if_eq C 25 dX8_isSealGood_18 (by decide) ?_ ?_
  · refine z_iconst C dX8_isSealGood_25 zi_0 ?_
    exact z_kreturn C rfl dX8_isSealGood_26
  refine z_iconst C dX8_isSealGood_21 zi_1 ?_
  refine z_goto C 26 dX8_isSealGood_22 (by decide) ?_
  exact z_kreturn C rfl dX8_isSealGood_26
noncomputable def f_X8_ledgerSize (a0 : Nat) (x1 : Int32) (hp : zHp) : Option (Int32 × zHp) :=
  (zis hp a0 8).bind fun _ => (f_X8_is a0 (3 : Int32) x1 hp).bind fun v1 => zb2 (f_X8_checks a0 v1 hp) fun v2 h3 => if v2 = 0 then (some ((0 : Int32), h3)) else (f_X8_of a0 x1 (2 : Int32) h3).bind fun v4 => some (v4, h3)
set_option maxHeartbeats 4000000 in
set_option maxRecDepth 100000 in
theorem m_X8_ledgerSize (l : Launch) (D : va_G) (tc : Nat → ClassId) (ro : Nat → Nat) (b0 : Nat) {a0 : Nat} {x1 : Int32} {hp : zHp} {sz : Nat} {r : (Int32 × zHp)} (h : f_X8_ledgerSize a0 x1 hp = some r) : zis hp a0 8 = some () ∧ zM l yX8_ledgerSize cX8_ledgerSize 2 (some .int) 3 0 0 [.ref a0, .int x1] D tc ro b0 hp sz ((zoI sz) r).1 ((zoI sz) r).2.1 ((zoI sz) r).2.2 := by
  refine ⟨?_, z_start (o := (zoI sz)) (lv := [(0, .ref a0), (1, .int x1)]) h (by decide +kernel) RX8 rfl rfl (Nat.le_of_ble_eq_true rfl) (fun P C => ?_)⟩
  · unfold f_X8_ledgerSize at h
    cases hc : zis hp a0 8 with
    | none => rw [hc] at h; cases h
    | some u => rfl
  unfold f_X8_ledgerSize
  refine z_is ?_
  refine z_aload_n C dX8_ledgerSize_0 0 rfl ?_
  refine z_aload_n C dX8_ledgerSize_1 0 rfl ?_
  refine z_iconst C dX8_ledgerSize_2 zi_3 ?_
  refine z_iload_n C dX8_ledgerSize_3 1 rfl ?_
  refine z_callVp C zc_X8_255 [.int (3 : Int32), .int x1] (fun l D tc b0 r h => m_X8_is l D tc ro b0 h) dX8_ledgerSize_4 rfl rfl (Nat.le_of_ble_eq_true rfl) (by decide) (by decide) ⟨Nat.le_of_ble_eq_true rfl, Nat.le_of_ble_eq_true rfl⟩ (fun v1 => ?_)
  refine z_callVi C zc_X8_258 [.int v1] (fun l D tc b0 r h => m_X8_checks l D tc ro b0 h) dX8_ledgerSize_7 rfl rfl (Nat.le_of_ble_eq_true rfl) (by decide) (by decide) ⟨Nat.le_of_ble_eq_true rfl, Nat.le_of_ble_eq_true rfl⟩ (fun v2 h3 => ?_)
  refine z_if_eq C 22 dX8_ledgerSize_10 (by decide) ?_ ?_
  · refine z_iconst C dX8_ledgerSize_22 zi_0 ?_
    exact z_ireturn C dX8_ledgerSize_23
  refine z_aload_n C dX8_ledgerSize_13 0 rfl ?_
  refine z_iload_n C dX8_ledgerSize_14 1 rfl ?_
  refine z_iconst C dX8_ledgerSize_15 zi_2 ?_
  refine z_callVp C zc_X8_48 [.int x1, .int (2 : Int32)] (fun l D tc b0 r h => m_X8_of l D tc ro b0 h) dX8_ledgerSize_16 rfl rfl (Nat.le_of_ble_eq_true rfl) (by decide) (by decide) ⟨Nat.le_of_ble_eq_true rfl, Nat.le_of_ble_eq_true rfl⟩ (fun v4 => ?_)
  refine z_goto C 23 dX8_ledgerSize_19 (by decide) ?_
  exact z_ireturn C dX8_ledgerSize_23
noncomputable def f_X8_ledger (a0 : Nat) (x1 : Int32) (x2 : Int32) (hp : zHp) : Option (Int32 × zHp) :=
  (zis hp a0 8).bind fun _ => (f_X8_is a0 (3 : Int32) x1 hp).bind fun v1 => zb2 (f_X8_checks a0 v1 hp) fun v2 h3 => if v2 = 0 then (some ((0 : Int32), h3)) else if x2 < 0 then (some ((-1 : Int32), h3)) else (f_X8_of a0 x1 (2 : Int32) h3).bind fun v4 => if x2 < v4 then ((f_X8_of a0 x1 ((4 : Int32) + x2) h3).bind fun v5 => some (v5, h3)) else some ((-1 : Int32), h3)
set_option maxHeartbeats 4000000 in
set_option maxRecDepth 100000 in
theorem m_X8_ledger (l : Launch) (D : va_G) (tc : Nat → ClassId) (ro : Nat → Nat) (b0 : Nat) {a0 : Nat} {x1 : Int32} {x2 : Int32} {hp : zHp} {sz : Nat} {r : (Int32 × zHp)} (h : f_X8_ledger a0 x1 x2 hp = some r) : zis hp a0 8 = some () ∧ zM l yX8_ledger cX8_ledger 3 (some .int) 3 0 0 [.ref a0, .int x1, .int x2] D tc ro b0 hp sz ((zoI sz) r).1 ((zoI sz) r).2.1 ((zoI sz) r).2.2 := by
  refine ⟨?_, z_start (o := (zoI sz)) (lv := [(0, .ref a0), (1, .int x1), (2, .int x2)]) h (by decide +kernel) RX8 rfl rfl (Nat.le_of_ble_eq_true rfl) (fun P C => ?_)⟩
  · unfold f_X8_ledger at h
    cases hc : zis hp a0 8 with
    | none => rw [hc] at h; cases h
    | some u => rfl
  unfold f_X8_ledger
  refine z_is ?_
  refine z_aload_n C dX8_ledger_0 0 rfl ?_
  refine z_aload_n C dX8_ledger_1 0 rfl ?_
  refine z_iconst C dX8_ledger_2 zi_3 ?_
  refine z_iload_n C dX8_ledger_3 1 rfl ?_
  refine z_callVp C zc_X8_255 [.int (3 : Int32), .int x1] (fun l D tc b0 r h => m_X8_is l D tc ro b0 h) dX8_ledger_4 rfl rfl (Nat.le_of_ble_eq_true rfl) (by decide) (by decide) ⟨Nat.le_of_ble_eq_true rfl, Nat.le_of_ble_eq_true rfl⟩ (fun v1 => ?_)
  refine z_callVi C zc_X8_258 [.int v1] (fun l D tc b0 r h => m_X8_checks l D tc ro b0 h) dX8_ledger_7 rfl rfl (Nat.le_of_ble_eq_true rfl) (by decide) (by decide) ⟨Nat.le_of_ble_eq_true rfl, Nat.le_of_ble_eq_true rfl⟩ (fun v2 h3 => ?_)
  refine z_if_ne C 15 dX8_ledger_10 (by decide) ?_ ?_
  · refine z_iconst C dX8_ledger_13 zi_0 ?_
    exact z_ireturn C dX8_ledger_14
  refine z_iload_n C dX8_ledger_15 2 rfl ?_
  refine z_if_lt C 29 dX8_ledger_16 (by decide) ?_ ?_
  · refine z_iconst C dX8_ledger_29 zi_m1 ?_
    refine z_goto C 41 dX8_ledger_30 (by decide) ?_
    exact z_ireturn C dX8_ledger_41
  refine z_iload_n C dX8_ledger_19 2 rfl ?_
  refine z_aload_n C dX8_ledger_20 0 rfl ?_
  refine z_iload_n C dX8_ledger_21 1 rfl ?_
  refine z_iconst C dX8_ledger_22 zi_2 ?_
  refine z_callVp C zc_X8_48 [.int x1, .int (2 : Int32)] (fun l D tc b0 r h => m_X8_of l D tc ro b0 h) dX8_ledger_23 rfl rfl (Nat.le_of_ble_eq_true rfl) (by decide) (by decide) ⟨Nat.le_of_ble_eq_true rfl, Nat.le_of_ble_eq_true rfl⟩ (fun v4 => ?_)
  refine z_icmp_lt C 33 dX8_ledger_26 (by decide) ?_ ?_
  · refine z_aload_n C dX8_ledger_33 0 rfl ?_
    refine z_iload_n C dX8_ledger_34 1 rfl ?_
    refine z_iconst C dX8_ledger_35 zi_4 ?_
    refine z_iload_n C dX8_ledger_36 2 rfl ?_
    refine z_iadd C dX8_ledger_37 ?_
    refine z_callVp C zc_X8_48 [.int x1, .int ((4 : Int32) + x2)] (fun l D tc b0 r h => m_X8_of l D tc ro b0 h) dX8_ledger_38 rfl rfl (Nat.le_of_ble_eq_true rfl) (by decide) (by decide) ⟨Nat.le_of_ble_eq_true rfl, Nat.le_of_ble_eq_true rfl⟩ (fun v5 => ?_)
    exact z_ireturn C dX8_ledger_41
  refine z_iconst C dX8_ledger_29 zi_m1 ?_
  refine z_goto C 41 dX8_ledger_30 (by decide) ?_
  exact z_ireturn C dX8_ledger_41
noncomputable def f_X8_boxAt (a0 : Nat) (x1 : Int32) (hp : zHp) : Option (Int32 × zHp) :=
  (zis hp a0 8).bind fun _ => (f_X8_is a0 (4 : Int32) x1 hp).bind fun v1 => zb2 (f_X8_checks a0 v1 hp) fun v2 h3 => if v2 = 0 then (some ((0 : Int32), h3)) else (f_X8_boxOn a0 x1 h3).bind fun v4 => some (v4, h3)
set_option maxHeartbeats 4000000 in
set_option maxRecDepth 100000 in
theorem m_X8_boxAt (l : Launch) (D : va_G) (tc : Nat → ClassId) (ro : Nat → Nat) (b0 : Nat) {a0 : Nat} {x1 : Int32} {hp : zHp} {sz : Nat} {r : (Int32 × zHp)} (h : f_X8_boxAt a0 x1 hp = some r) : zis hp a0 8 = some () ∧ zM l yX8_boxAt cX8_boxAt 2 (some .int) 3 0 0 [.ref a0, .int x1] D tc ro b0 hp sz ((zoI sz) r).1 ((zoI sz) r).2.1 ((zoI sz) r).2.2 := by
  refine ⟨?_, z_start (o := (zoI sz)) (lv := [(0, .ref a0), (1, .int x1)]) h (by decide +kernel) RX8 rfl rfl (Nat.le_of_ble_eq_true rfl) (fun P C => ?_)⟩
  · unfold f_X8_boxAt at h
    cases hc : zis hp a0 8 with
    | none => rw [hc] at h; cases h
    | some u => rfl
  unfold f_X8_boxAt
  refine z_is ?_
  refine z_aload_n C dX8_boxAt_0 0 rfl ?_
  refine z_aload_n C dX8_boxAt_1 0 rfl ?_
  refine z_iconst C dX8_boxAt_2 zi_4 ?_
  refine z_iload_n C dX8_boxAt_3 1 rfl ?_
  refine z_callVp C zc_X8_255 [.int (4 : Int32), .int x1] (fun l D tc b0 r h => m_X8_is l D tc ro b0 h) dX8_boxAt_4 rfl rfl (Nat.le_of_ble_eq_true rfl) (by decide) (by decide) ⟨Nat.le_of_ble_eq_true rfl, Nat.le_of_ble_eq_true rfl⟩ (fun v1 => ?_)
  refine z_callVi C zc_X8_258 [.int v1] (fun l D tc b0 r h => m_X8_checks l D tc ro b0 h) dX8_boxAt_7 rfl rfl (Nat.le_of_ble_eq_true rfl) (by decide) (by decide) ⟨Nat.le_of_ble_eq_true rfl, Nat.le_of_ble_eq_true rfl⟩ (fun v2 h3 => ?_)
  refine z_if_eq C 21 dX8_boxAt_10 (by decide) ?_ ?_
  · refine z_iconst C dX8_boxAt_21 zi_0 ?_
    exact z_ireturn C dX8_boxAt_22
  refine z_aload_n C dX8_boxAt_13 0 rfl ?_
  refine z_iload_n C dX8_boxAt_14 1 rfl ?_
  refine z_callVp C zc_X8_268 [.int x1] (fun l D tc b0 r h => m_X8_boxOn l D tc ro b0 h) dX8_boxAt_15 rfl rfl (Nat.le_of_ble_eq_true rfl) (by decide) (by decide) ⟨Nat.le_of_ble_eq_true rfl, Nat.le_of_ble_eq_true rfl⟩ (fun v4 => ?_)
  refine z_goto C 22 dX8_boxAt_18 (by decide) ?_
  exact z_ireturn C dX8_boxAt_22
noncomputable def f_X8_slipOf (a0 : Nat) (x1 : Int32) (hp : zHp) : Option (Int32 × zHp) :=
  (zis hp a0 8).bind fun _ => (f_X8_is a0 (4 : Int32) x1 hp).bind fun v1 => zb2 (f_X8_checks a0 v1 hp) fun v2 h3 => if v2 = 0 then (some ((0 : Int32), h3)) else (zgR h3 a0 8 3).bind fun r4 => (zaI h3 0 r4 ((140 : Int32) + x1)).bind fun v5 => some (v5, h3)
set_option maxHeartbeats 4000000 in
set_option maxRecDepth 100000 in
theorem m_X8_slipOf (l : Launch) (D : va_G) (tc : Nat → ClassId) (ro : Nat → Nat) (b0 : Nat) {a0 : Nat} {x1 : Int32} {hp : zHp} {sz : Nat} {r : (Int32 × zHp)} (h : f_X8_slipOf a0 x1 hp = some r) : zis hp a0 8 = some () ∧ zM l yX8_slipOf cX8_slipOf 2 (some .int) 3 0 0 [.ref a0, .int x1] D tc ro b0 hp sz ((zoI sz) r).1 ((zoI sz) r).2.1 ((zoI sz) r).2.2 := by
  refine ⟨?_, z_start (o := (zoI sz)) (lv := [(0, .ref a0), (1, .int x1)]) h (by decide +kernel) RX8 rfl rfl (Nat.le_of_ble_eq_true rfl) (fun P C => ?_)⟩
  · unfold f_X8_slipOf at h
    cases hc : zis hp a0 8 with
    | none => rw [hc] at h; cases h
    | some u => rfl
  unfold f_X8_slipOf
  refine z_is ?_
  refine z_aload_n C dX8_slipOf_0 0 rfl ?_
  refine z_aload_n C dX8_slipOf_1 0 rfl ?_
  refine z_iconst C dX8_slipOf_2 zi_4 ?_
  refine z_iload_n C dX8_slipOf_3 1 rfl ?_
  refine z_callVp C zc_X8_255 [.int (4 : Int32), .int x1] (fun l D tc b0 r h => m_X8_is l D tc ro b0 h) dX8_slipOf_4 rfl rfl (Nat.le_of_ble_eq_true rfl) (by decide) (by decide) ⟨Nat.le_of_ble_eq_true rfl, Nat.le_of_ble_eq_true rfl⟩ (fun v1 => ?_)
  refine z_callVi C zc_X8_258 [.int v1] (fun l D tc b0 r h => m_X8_checks l D tc ro b0 h) dX8_slipOf_7 rfl rfl (Nat.le_of_ble_eq_true rfl) (by decide) (by decide) ⟨Nat.le_of_ble_eq_true rfl, Nat.le_of_ble_eq_true rfl⟩ (fun v2 h3 => ?_)
  refine z_if_eq C 26 dX8_slipOf_10 (by decide) ?_ ?_
  · refine z_iconst C dX8_slipOf_26 zi_0 ?_
    exact z_ireturn C dX8_slipOf_27
  refine z_aload_n C dX8_slipOf_13 0 rfl ?_
  refine z_getR C zf_X8_13 dX8_slipOf_14 (fun r4 => ?_)
  refine z_sipush C dX8_slipOf_17 zsi_140 ?_
  refine z_iload_n C dX8_slipOf_20 1 rfl ?_
  refine z_iadd C dX8_slipOf_21 ?_
  refine z_iaload C dX8_slipOf_22 (fun v5 => ?_)
  refine z_goto C 27 dX8_slipOf_23 (by decide) ?_
  exact z_ireturn C dX8_slipOf_27
noncomputable def f_X8_isCount (a0 : Nat) (x1 : Int32) (x2 : Int32) (hp : zHp) : Option Int32 :=
  (zis hp a0 8).bind fun _ => if x2 < 0 then (some (0 : Int32)) else (f_X8_of a0 x1 (3 : Int32) hp).bind fun v1 => if x2 < v1 then (some (1 : Int32)) else some (0 : Int32)
set_option maxHeartbeats 4000000 in
set_option maxRecDepth 100000 in
theorem m_X8_isCount (l : Launch) (D : va_G) (tc : Nat → ClassId) (ro : Nat → Nat) (b0 : Nat) {a0 : Nat} {x1 : Int32} {x2 : Int32} {hp : zHp} {sz : Nat} {r : Int32} (h : f_X8_isCount a0 x1 x2 hp = some r) : zis hp a0 8 = some () ∧ zM l yX8_isCount cX8_isCount 3 (some .boolean) 2 0 0 [.ref a0, .int x1, .int x2] D tc ro b0 hp sz ((zoP sz hp) r).1 ((zoP sz hp) r).2.1 ((zoP sz hp) r).2.2 := by
  refine ⟨?_, z_start (o := (zoP sz hp)) (lv := [(0, .ref a0), (1, .int x1), (2, .int x2)]) h (by decide +kernel) RX8 rfl rfl (Nat.le_of_ble_eq_true rfl) (fun P C => ?_)⟩
  · unfold f_X8_isCount at h
    cases hc : zis hp a0 8 with
    | none => rw [hc] at h; cases h
    | some u => rfl
  unfold f_X8_isCount
  refine z_is ?_
  refine z_iload_n C dX8_isCount_0 2 rfl ?_
  refine z_if_lt C 18 dX8_isCount_1 (by decide) ?_ ?_
  · refine z_iconst C dX8_isCount_18 zi_0 ?_
    exact z_kreturnP C rfl dX8_isCount_19
  refine z_iload_n C dX8_isCount_4 2 rfl ?_
  refine z_aload_n C dX8_isCount_5 0 rfl ?_
  refine z_iload_n C dX8_isCount_6 1 rfl ?_
  refine z_iconst C dX8_isCount_7 zi_3 ?_
  refine z_callVp C zc_X8_48 [.int x1, .int (3 : Int32)] (fun l D tc b0 r h => m_X8_of l D tc ro b0 h) dX8_isCount_8 rfl rfl (Nat.le_of_ble_eq_true rfl) (by decide) (by decide) ⟨Nat.le_of_ble_eq_true rfl, Nat.le_of_ble_eq_true rfl⟩ (fun v1 => ?_)
  refine z_icmp_ge C 18 dX8_isCount_11 (by decide) ?_ ?_
  · refine z_iconst C dX8_isCount_14 zi_1 ?_
    refine z_goto C 19 dX8_isCount_15 (by decide) ?_
    exact z_kreturnP C rfl dX8_isCount_19
  refine z_iconst C dX8_isCount_18 zi_0 ?_
  exact z_kreturnP C rfl dX8_isCount_19
noncomputable def f_X8_counted (a0 : Nat) (x1 : Int32) (x2 : Int32) (x3 : Int32) (hp : zHp) : Option (Int32 × zHp) :=
  (zis hp a0 8).bind fun _ => (f_X8_is a0 (3 : Int32) x1 hp).bind fun v1 => zb2 (f_X8_checks a0 v1 hp) fun v2 h3 => if v2 = 0 then (some ((0 : Int32), h3)) else (f_X8_isCount a0 x1 x2 h3).bind fun v4 => if v4 = 0 then (some ((-1 : Int32), h3)) else (f_X8_isPile a0 x3 h3).bind fun v5 => if v5 = 0 then (some ((-2 : Int32), h3)) else (f_X8_found a0 x1 x2 x3 h3).bind fun v6 => some (v6, h3)
set_option maxHeartbeats 4000000 in
set_option maxRecDepth 100000 in
theorem m_X8_counted (l : Launch) (D : va_G) (tc : Nat → ClassId) (ro : Nat → Nat) (b0 : Nat) {a0 : Nat} {x1 : Int32} {x2 : Int32} {x3 : Int32} {hp : zHp} {sz : Nat} {r : (Int32 × zHp)} (h : f_X8_counted a0 x1 x2 x3 hp = some r) : zis hp a0 8 = some () ∧ zM l yX8_counted cX8_counted 4 (some .int) 4 0 0 [.ref a0, .int x1, .int x2, .int x3] D tc ro b0 hp sz ((zoI sz) r).1 ((zoI sz) r).2.1 ((zoI sz) r).2.2 := by
  refine ⟨?_, z_start (o := (zoI sz)) (lv := [(0, .ref a0), (1, .int x1), (2, .int x2), (3, .int x3)]) h (by decide +kernel) RX8 rfl rfl (Nat.le_of_ble_eq_true rfl) (fun P C => ?_)⟩
  · unfold f_X8_counted at h
    cases hc : zis hp a0 8 with
    | none => rw [hc] at h; cases h
    | some u => rfl
  unfold f_X8_counted
  refine z_is ?_
  refine z_aload_n C dX8_counted_0 0 rfl ?_
  refine z_aload_n C dX8_counted_1 0 rfl ?_
  refine z_iconst C dX8_counted_2 zi_3 ?_
  refine z_iload_n C dX8_counted_3 1 rfl ?_
  refine z_callVp C zc_X8_255 [.int (3 : Int32), .int x1] (fun l D tc b0 r h => m_X8_is l D tc ro b0 h) dX8_counted_4 rfl rfl (Nat.le_of_ble_eq_true rfl) (by decide) (by decide) ⟨Nat.le_of_ble_eq_true rfl, Nat.le_of_ble_eq_true rfl⟩ (fun v1 => ?_)
  refine z_callVi C zc_X8_258 [.int v1] (fun l D tc b0 r h => m_X8_checks l D tc ro b0 h) dX8_counted_7 rfl rfl (Nat.le_of_ble_eq_true rfl) (by decide) (by decide) ⟨Nat.le_of_ble_eq_true rfl, Nat.le_of_ble_eq_true rfl⟩ (fun v2 h3 => ?_)
  refine z_if_ne C 15 dX8_counted_10 (by decide) ?_ ?_
  · refine z_iconst C dX8_counted_13 zi_0 ?_
    exact z_ireturn C dX8_counted_14
  refine z_aload_n C dX8_counted_15 0 rfl ?_
  refine z_iload_n C dX8_counted_16 1 rfl ?_
  refine z_iload_n C dX8_counted_17 2 rfl ?_
  refine z_callVp C zc_X8_271 [.int x1, .int x2] (fun l D tc b0 r h => m_X8_isCount l D tc ro b0 h) dX8_counted_18 rfl rfl (Nat.le_of_ble_eq_true rfl) (by decide) (by decide) ⟨Nat.le_of_ble_eq_true rfl, Nat.le_of_ble_eq_true rfl⟩ (fun v4 => ?_)
  refine z_if_ne C 26 dX8_counted_21 (by decide) ?_ ?_
  · refine z_iconst C dX8_counted_24 zi_m1 ?_
    exact z_ireturn C dX8_counted_25
  refine z_aload_n C dX8_counted_26 0 rfl ?_
  refine z_iload_n C dX8_counted_27 3 rfl ?_
  refine z_callVp C zc_X8_262 [.int x3] (fun l D tc b0 r h => m_X8_isPile l D tc ro b0 h) dX8_counted_28 rfl rfl (Nat.le_of_ble_eq_true rfl) (by decide) (by decide) ⟨Nat.le_of_ble_eq_true rfl, Nat.le_of_ble_eq_true rfl⟩ (fun v5 => ?_)
  refine z_if_eq C 44 dX8_counted_31 (by decide) ?_ ?_
  · refine z_bipush C dX8_counted_44 zbi_m2 ?_
    exact z_ireturn C dX8_counted_46
  refine z_aload_n C dX8_counted_34 0 rfl ?_
  refine z_iload_n C dX8_counted_35 1 rfl ?_
  refine z_iload_n C dX8_counted_36 2 rfl ?_
  refine z_iload_n C dX8_counted_37 3 rfl ?_
  refine z_callVp C zc_X8_67 [.int x1, .int x2, .int x3] (fun l D tc b0 r h => m_X8_found l D tc ro b0 h) dX8_counted_38 rfl rfl (Nat.le_of_ble_eq_true rfl) (by decide) (by decide) ⟨Nat.le_of_ble_eq_true rfl, Nat.le_of_ble_eq_true rfl⟩ (fun v6 => ?_)
  refine z_goto C 46 dX8_counted_41 (by decide) ?_
  exact z_ireturn C dX8_counted_46
noncomputable def f_X8_countedAt (a0 : Nat) (x1 : Int32) (x2 : Int32) (hp : zHp) : Option (Int32 × zHp) :=
  (zis hp a0 8).bind fun _ => (f_X8_is a0 (3 : Int32) x1 hp).bind fun v1 => zb2 (f_X8_checks a0 v1 hp) fun v2 h3 => if v2 = 0 then (some ((0 : Int32), h3)) else (f_X8_isCount a0 x1 x2 h3).bind fun v4 => if v4 = 0 then (some ((-1 : Int32), h3)) else (f_X8_of a0 x1 ((16 : Int32) + x2) h3).bind fun v5 => some (v5, h3)
set_option maxHeartbeats 4000000 in
set_option maxRecDepth 100000 in
theorem m_X8_countedAt (l : Launch) (D : va_G) (tc : Nat → ClassId) (ro : Nat → Nat) (b0 : Nat) {a0 : Nat} {x1 : Int32} {x2 : Int32} {hp : zHp} {sz : Nat} {r : (Int32 × zHp)} (h : f_X8_countedAt a0 x1 x2 hp = some r) : zis hp a0 8 = some () ∧ zM l yX8_countedAt cX8_countedAt 3 (some .int) 3 0 0 [.ref a0, .int x1, .int x2] D tc ro b0 hp sz ((zoI sz) r).1 ((zoI sz) r).2.1 ((zoI sz) r).2.2 := by
  refine ⟨?_, z_start (o := (zoI sz)) (lv := [(0, .ref a0), (1, .int x1), (2, .int x2)]) h (by decide +kernel) RX8 rfl rfl (Nat.le_of_ble_eq_true rfl) (fun P C => ?_)⟩
  · unfold f_X8_countedAt at h
    cases hc : zis hp a0 8 with
    | none => rw [hc] at h; cases h
    | some u => rfl
  unfold f_X8_countedAt
  refine z_is ?_
  refine z_aload_n C dX8_countedAt_0 0 rfl ?_
  refine z_aload_n C dX8_countedAt_1 0 rfl ?_
  refine z_iconst C dX8_countedAt_2 zi_3 ?_
  refine z_iload_n C dX8_countedAt_3 1 rfl ?_
  refine z_callVp C zc_X8_255 [.int (3 : Int32), .int x1] (fun l D tc b0 r h => m_X8_is l D tc ro b0 h) dX8_countedAt_4 rfl rfl (Nat.le_of_ble_eq_true rfl) (by decide) (by decide) ⟨Nat.le_of_ble_eq_true rfl, Nat.le_of_ble_eq_true rfl⟩ (fun v1 => ?_)
  refine z_callVi C zc_X8_258 [.int v1] (fun l D tc b0 r h => m_X8_checks l D tc ro b0 h) dX8_countedAt_7 rfl rfl (Nat.le_of_ble_eq_true rfl) (by decide) (by decide) ⟨Nat.le_of_ble_eq_true rfl, Nat.le_of_ble_eq_true rfl⟩ (fun v2 h3 => ?_)
  refine z_if_ne C 15 dX8_countedAt_10 (by decide) ?_ ?_
  · refine z_iconst C dX8_countedAt_13 zi_0 ?_
    exact z_ireturn C dX8_countedAt_14
  refine z_aload_n C dX8_countedAt_15 0 rfl ?_
  refine z_iload_n C dX8_countedAt_16 1 rfl ?_
  refine z_iload_n C dX8_countedAt_17 2 rfl ?_
  refine z_callVp C zc_X8_271 [.int x1, .int x2] (fun l D tc b0 r h => m_X8_isCount l D tc ro b0 h) dX8_countedAt_18 rfl rfl (Nat.le_of_ble_eq_true rfl) (by decide) (by decide) ⟨Nat.le_of_ble_eq_true rfl, Nat.le_of_ble_eq_true rfl⟩ (fun v4 => ?_)
  refine z_if_eq C 36 dX8_countedAt_21 (by decide) ?_ ?_
  · refine z_iconst C dX8_countedAt_36 zi_m1 ?_
    exact z_ireturn C dX8_countedAt_37
  refine z_aload_n C dX8_countedAt_24 0 rfl ?_
  refine z_iload_n C dX8_countedAt_25 1 rfl ?_
  refine z_bipush C dX8_countedAt_26 zbi_16 ?_
  refine z_iload_n C dX8_countedAt_28 2 rfl ?_
  refine z_iadd C dX8_countedAt_29 ?_
  refine z_callVp C zc_X8_48 [.int x1, .int ((16 : Int32) + x2)] (fun l D tc b0 r h => m_X8_of l D tc ro b0 h) dX8_countedAt_30 rfl rfl (Nat.le_of_ble_eq_true rfl) (by decide) (by decide) ⟨Nat.le_of_ble_eq_true rfl, Nat.le_of_ble_eq_true rfl⟩ (fun v5 => ?_)
  refine z_goto C 37 dX8_countedAt_33 (by decide) ?_
  exact z_ireturn C dX8_countedAt_37
noncomputable def j_X8_wouldCount_24 (a0 : Nat) (x1 : Int32) (x2 : Int32) (x3 : Int32) (s0 : Nat) (s1 : Int32) (h : zHp) : Option (Int32 × zHp) :=
  zb2 (f_X8_checks s0 s1 h) fun v2 h3 => if v2 = 0 then (some ((0 : Int32), h3)) else (f_X8_isPile a0 x3 h3).bind fun v4 => if v4 = 0 then (some ((-2 : Int32), h3)) else (f_X8_finds a0 x1 x2 x3 h3).bind fun v5 => some (v5, h3)
set_option maxHeartbeats 4000000 in
set_option maxRecDepth 100000 in
theorem wj_X8_wouldCount_24 {P : zX} {ro : Nat → Nat} {sz : Nat} (C : zC P cX8_wouldCount RX8 (some .int) 4 0 0 4 ro) {a0 : Nat} {x1 : Int32} {x2 : Int32} {x3 : Int32} {s0 : Nat} {s1 : Int32} {h : zHp}  : zG P (zoI sz) (j_X8_wouldCount_24 a0 x1 x2 x3 s0 s1 h) 24 [(0, .ref a0), (1, .int x1), (2, .int x2), (3, .int x3)] [.int s1, .ref s0] h sz 0 0 := by
  unfold j_X8_wouldCount_24
  refine z_callVi C zc_X8_258 [.int s1] (fun l D tc b0 r h => m_X8_checks l D tc ro b0 h) dX8_wouldCount_24 rfl rfl (Nat.le_of_ble_eq_true rfl) (by decide) (by decide) ⟨Nat.le_of_ble_eq_true rfl, Nat.le_of_ble_eq_true rfl⟩ (fun v2 h3 => ?_)
  refine z_if_ne C 32 dX8_wouldCount_27 (by decide) ?_ ?_
  · refine z_iconst C dX8_wouldCount_30 zi_0 ?_
    exact z_ireturn C dX8_wouldCount_31
  refine z_aload_n C dX8_wouldCount_32 0 rfl ?_
  refine z_iload_n C dX8_wouldCount_33 3 rfl ?_
  refine z_callVp C zc_X8_262 [.int x3] (fun l D tc b0 r h => m_X8_isPile l D tc ro b0 h) dX8_wouldCount_34 rfl rfl (Nat.le_of_ble_eq_true rfl) (by decide) (by decide) ⟨Nat.le_of_ble_eq_true rfl, Nat.le_of_ble_eq_true rfl⟩ (fun v4 => ?_)
  refine z_if_eq C 50 dX8_wouldCount_37 (by decide) ?_ ?_
  · refine z_bipush C dX8_wouldCount_50 zbi_m2 ?_
    exact z_ireturn C dX8_wouldCount_52
  refine z_aload_n C dX8_wouldCount_40 0 rfl ?_
  refine z_iload_n C dX8_wouldCount_41 1 rfl ?_
  refine z_iload_n C dX8_wouldCount_42 2 rfl ?_
  refine z_iload_n C dX8_wouldCount_43 3 rfl ?_
  refine z_callVp C zc_X8_274 [.int x1, .int x2, .int x3] (fun l D tc b0 r h => m_X8_finds l D tc ro b0 h) dX8_wouldCount_44 rfl rfl (Nat.le_of_ble_eq_true rfl) (by decide) (by decide) ⟨Nat.le_of_ble_eq_true rfl, Nat.le_of_ble_eq_true rfl⟩ (fun v5 => ?_)
  refine z_goto C 52 dX8_wouldCount_47 (by decide) ?_
  exact z_ireturn C dX8_wouldCount_52
noncomputable def j_X8_wouldCount_23 (a0 : Nat) (x1 : Int32) (x2 : Int32) (x3 : Int32) (s0 : Nat) (h : zHp) : Option (Int32 × zHp) :=
  j_X8_wouldCount_24 a0 x1 x2 x3 s0 (0 : Int32) h
set_option maxHeartbeats 4000000 in
set_option maxRecDepth 100000 in
theorem wj_X8_wouldCount_23 {P : zX} {ro : Nat → Nat} {sz : Nat} (C : zC P cX8_wouldCount RX8 (some .int) 4 0 0 4 ro) {a0 : Nat} {x1 : Int32} {x2 : Int32} {x3 : Int32} {s0 : Nat} {h : zHp}  : zG P (zoI sz) (j_X8_wouldCount_23 a0 x1 x2 x3 s0 h) 23 [(0, .ref a0), (1, .int x1), (2, .int x2), (3, .int x3)] [.ref s0] h sz 0 0 := by
  unfold j_X8_wouldCount_23
  refine z_iconst C dX8_wouldCount_23 zi_0 ?_
  exact wj_X8_wouldCount_24 C
noncomputable def f_X8_wouldCount (a0 : Nat) (x1 : Int32) (x2 : Int32) (x3 : Int32) (hp : zHp) : Option (Int32 × zHp) :=
  (zis hp a0 8).bind fun _ => (f_X8_is a0 (4 : Int32) x1 hp).bind fun v1 => if v1 = 0 then (j_X8_wouldCount_23 a0 x1 x2 x3 a0 hp) else (f_X8_is a0 (3 : Int32) x2 hp).bind fun v6 => if v6 = 0 then (j_X8_wouldCount_23 a0 x1 x2 x3 a0 hp) else j_X8_wouldCount_24 a0 x1 x2 x3 a0 (1 : Int32) hp
set_option maxHeartbeats 4000000 in
set_option maxRecDepth 100000 in
theorem m_X8_wouldCount (l : Launch) (D : va_G) (tc : Nat → ClassId) (ro : Nat → Nat) (b0 : Nat) {a0 : Nat} {x1 : Int32} {x2 : Int32} {x3 : Int32} {hp : zHp} {sz : Nat} {r : (Int32 × zHp)} (h : f_X8_wouldCount a0 x1 x2 x3 hp = some r) : zis hp a0 8 = some () ∧ zM l yX8_wouldCount cX8_wouldCount 4 (some .int) 4 0 0 [.ref a0, .int x1, .int x2, .int x3] D tc ro b0 hp sz ((zoI sz) r).1 ((zoI sz) r).2.1 ((zoI sz) r).2.2 := by
  refine ⟨?_, z_start (o := (zoI sz)) (lv := [(0, .ref a0), (1, .int x1), (2, .int x2), (3, .int x3)]) h (by decide +kernel) RX8 rfl rfl (Nat.le_of_ble_eq_true rfl) (fun P C => ?_)⟩
  · unfold f_X8_wouldCount at h
    cases hc : zis hp a0 8 with
    | none => rw [hc] at h; cases h
    | some u => rfl
  unfold f_X8_wouldCount
  refine z_is ?_
  refine z_aload_n C dX8_wouldCount_0 0 rfl ?_
  refine z_aload_n C dX8_wouldCount_1 0 rfl ?_
  refine z_iconst C dX8_wouldCount_2 zi_4 ?_
  refine z_iload_n C dX8_wouldCount_3 1 rfl ?_
  refine z_callVp C zc_X8_255 [.int (4 : Int32), .int x1] (fun l D tc b0 r h => m_X8_is l D tc ro b0 h) dX8_wouldCount_4 rfl rfl (Nat.le_of_ble_eq_true rfl) (by decide) (by decide) ⟨Nat.le_of_ble_eq_true rfl, Nat.le_of_ble_eq_true rfl⟩ (fun v1 => ?_)
  refine z_if_eq C 23 dX8_wouldCount_7 (by decide) ?_ ?_
  · exact wj_X8_wouldCount_23 C
  refine z_aload_n C dX8_wouldCount_10 0 rfl ?_
  refine z_iconst C dX8_wouldCount_11 zi_3 ?_
  refine z_iload_n C dX8_wouldCount_12 2 rfl ?_
  refine z_callVp C zc_X8_255 [.int (3 : Int32), .int x2] (fun l D tc b0 r h => m_X8_is l D tc ro b0 h) dX8_wouldCount_13 rfl rfl (Nat.le_of_ble_eq_true rfl) (by decide) (by decide) ⟨Nat.le_of_ble_eq_true rfl, Nat.le_of_ble_eq_true rfl⟩ (fun v6 => ?_)
  refine z_if_eq C 23 dX8_wouldCount_16 (by decide) ?_ ?_
  · exact wj_X8_wouldCount_23 C
  refine z_iconst C dX8_wouldCount_19 zi_1 ?_
  refine z_goto C 24 dX8_wouldCount_20 (by decide) ?_
  exact wj_X8_wouldCount_24 C
noncomputable def f_X8_isConfirmed (a0 : Nat) (x1 : Int32) (hp : zHp) : Option (Int32 × zHp) :=
  (zis hp a0 8).bind fun _ => (f_X8_is a0 (3 : Int32) x1 hp).bind fun v1 => zb2 (f_X8_checks a0 v1 hp) fun v2 h3 => if v2 = 0 then (some ((0 : Int32), h3)) else (f_X8_confirmed a0 x1 h3).bind fun v4 => if v4 = (-1 : Int32) then (some ((0 : Int32), h3)) else some ((1 : Int32), h3)
set_option maxHeartbeats 4000000 in
set_option maxRecDepth 100000 in
theorem m_X8_isConfirmed (l : Launch) (D : va_G) (tc : Nat → ClassId) (ro : Nat → Nat) (b0 : Nat) {a0 : Nat} {x1 : Int32} {hp : zHp} {sz : Nat} {r : (Int32 × zHp)} (h : f_X8_isConfirmed a0 x1 hp = some r) : zis hp a0 8 = some () ∧ zM l yX8_isConfirmed cX8_isConfirmed 2 (some .boolean) 5 0 0 [.ref a0, .int x1] D tc ro b0 hp sz ((zoI sz) r).1 ((zoI sz) r).2.1 ((zoI sz) r).2.2 := by
  refine ⟨?_, z_start (o := (zoI sz)) (lv := [(0, .ref a0), (1, .int x1)]) h (by decide +kernel) RX8 rfl rfl (Nat.le_of_ble_eq_true rfl) (fun P C => ?_)⟩
  · unfold f_X8_isConfirmed at h
    cases hc : zis hp a0 8 with
    | none => rw [hc] at h; cases h
    | some u => rfl
  unfold f_X8_isConfirmed
  refine z_is ?_
  refine z_aload_n C dX8_isConfirmed_0 0 rfl ?_
  refine z_aload_n C dX8_isConfirmed_1 0 rfl ?_
  refine z_iconst C dX8_isConfirmed_2 zi_3 ?_
  refine z_iload_n C dX8_isConfirmed_3 1 rfl ?_
  refine z_callVp C zc_X8_255 [.int (3 : Int32), .int x1] (fun l D tc b0 r h => m_X8_is l D tc ro b0 h) dX8_isConfirmed_4 rfl rfl (Nat.le_of_ble_eq_true rfl) (by decide) (by decide) ⟨Nat.le_of_ble_eq_true rfl, Nat.le_of_ble_eq_true rfl⟩ (fun v1 => ?_)
  refine z_callVi C zc_X8_258 [.int v1] (fun l D tc b0 r h => m_X8_checks l D tc ro b0 h) dX8_isConfirmed_7 rfl rfl (Nat.le_of_ble_eq_true rfl) (by decide) (by decide) ⟨Nat.le_of_ble_eq_true rfl, Nat.le_of_ble_eq_true rfl⟩ (fun v2 h3 => ?_)
  refine z_if_eq C 26 dX8_isConfirmed_10 (by decide) ?_ ?_
  · refine z_iconst C dX8_isConfirmed_26 zi_0 ?_
    exact z_kreturn C rfl dX8_isConfirmed_27
  refine z_aload_n C dX8_isConfirmed_13 0 rfl ?_
  refine z_iload_n C dX8_isConfirmed_14 1 rfl ?_
  refine z_callVp C zc_X8_77 [.int x1] (fun l D tc b0 r h => m_X8_confirmed l D tc ro b0 h) dX8_isConfirmed_15 rfl rfl (Nat.le_of_ble_eq_true rfl) (by decide) (by decide) ⟨Nat.le_of_ble_eq_true rfl, Nat.le_of_ble_eq_true rfl⟩ (fun v4 => ?_)
  refine z_iconst C dX8_isConfirmed_18 zi_m1 ?_
  refine z_icmp_eq C 26 dX8_isConfirmed_19 (by decide) ?_ ?_
  · refine z_iconst C dX8_isConfirmed_26 zi_0 ?_
    exact z_kreturn C rfl dX8_isConfirmed_27
  refine z_iconst C dX8_isConfirmed_22 zi_1 ?_
  refine z_goto C 27 dX8_isConfirmed_23 (by decide) ?_
  exact z_kreturn C rfl dX8_isConfirmed_27
noncomputable def f_X8_result (a0 : Nat) (x1 : Int32) (x2 : Int32) (hp : zHp) : Option (Int32 × zHp) :=
  (zis hp a0 8).bind fun _ => (f_X8_is a0 (3 : Int32) x1 hp).bind fun v1 => zb2 (f_X8_checks a0 v1 hp) fun v2 h3 => if v2 = 0 then (some ((0 : Int32), h3)) else (f_X8_wasCounted a0 x1 h3).bind fun v4 => if v4 = 0 then (some ((-1 : Int32), h3)) else (f_X8_isPile a0 x2 h3).bind fun v5 => if v5 = 0 then (some ((-2 : Int32), h3)) else (f_X8_valid a0 x1 x2 h3).bind fun v6 => some (v6, h3)
set_option maxHeartbeats 4000000 in
set_option maxRecDepth 100000 in
theorem m_X8_result (l : Launch) (D : va_G) (tc : Nat → ClassId) (ro : Nat → Nat) (b0 : Nat) {a0 : Nat} {x1 : Int32} {x2 : Int32} {hp : zHp} {sz : Nat} {r : (Int32 × zHp)} (h : f_X8_result a0 x1 x2 hp = some r) : zis hp a0 8 = some () ∧ zM l yX8_result cX8_result 3 (some .int) 6 0 0 [.ref a0, .int x1, .int x2] D tc ro b0 hp sz ((zoI sz) r).1 ((zoI sz) r).2.1 ((zoI sz) r).2.2 := by
  refine ⟨?_, z_start (o := (zoI sz)) (lv := [(0, .ref a0), (1, .int x1), (2, .int x2)]) h (by decide +kernel) RX8 rfl rfl (Nat.le_of_ble_eq_true rfl) (fun P C => ?_)⟩
  · unfold f_X8_result at h
    cases hc : zis hp a0 8 with
    | none => rw [hc] at h; cases h
    | some u => rfl
  unfold f_X8_result
  refine z_is ?_
  refine z_aload_n C dX8_result_0 0 rfl ?_
  refine z_aload_n C dX8_result_1 0 rfl ?_
  refine z_iconst C dX8_result_2 zi_3 ?_
  refine z_iload_n C dX8_result_3 1 rfl ?_
  refine z_callVp C zc_X8_255 [.int (3 : Int32), .int x1] (fun l D tc b0 r h => m_X8_is l D tc ro b0 h) dX8_result_4 rfl rfl (Nat.le_of_ble_eq_true rfl) (by decide) (by decide) ⟨Nat.le_of_ble_eq_true rfl, Nat.le_of_ble_eq_true rfl⟩ (fun v1 => ?_)
  refine z_callVi C zc_X8_258 [.int v1] (fun l D tc b0 r h => m_X8_checks l D tc ro b0 h) dX8_result_7 rfl rfl (Nat.le_of_ble_eq_true rfl) (by decide) (by decide) ⟨Nat.le_of_ble_eq_true rfl, Nat.le_of_ble_eq_true rfl⟩ (fun v2 h3 => ?_)
  refine z_if_ne C 15 dX8_result_10 (by decide) ?_ ?_
  · refine z_iconst C dX8_result_13 zi_0 ?_
    exact z_ireturn C dX8_result_14
  refine z_aload_n C dX8_result_15 0 rfl ?_
  refine z_iload_n C dX8_result_16 1 rfl ?_
  refine z_callVp C zc_X8_74 [.int x1] (fun l D tc b0 r h => m_X8_wasCounted l D tc ro b0 h) dX8_result_17 rfl rfl (Nat.le_of_ble_eq_true rfl) (by decide) (by decide) ⟨Nat.le_of_ble_eq_true rfl, Nat.le_of_ble_eq_true rfl⟩ (fun v4 => ?_)
  refine z_if_ne C 25 dX8_result_20 (by decide) ?_ ?_
  · refine z_iconst C dX8_result_23 zi_m1 ?_
    exact z_ireturn C dX8_result_24
  refine z_aload_n C dX8_result_25 0 rfl ?_
  refine z_iload_n C dX8_result_26 2 rfl ?_
  refine z_callVp C zc_X8_262 [.int x2] (fun l D tc b0 r h => m_X8_isPile l D tc ro b0 h) dX8_result_27 rfl rfl (Nat.le_of_ble_eq_true rfl) (by decide) (by decide) ⟨Nat.le_of_ble_eq_true rfl, Nat.le_of_ble_eq_true rfl⟩ (fun v5 => ?_)
  refine z_if_eq C 42 dX8_result_30 (by decide) ?_ ?_
  · refine z_bipush C dX8_result_42 zbi_m2 ?_
    exact z_ireturn C dX8_result_44
  refine z_aload_n C dX8_result_33 0 rfl ?_
  refine z_iload_n C dX8_result_34 1 rfl ?_
  refine z_iload_n C dX8_result_35 2 rfl ?_
  refine z_callVp C zc_X8_80 [.int x1, .int x2] (fun l D tc b0 r h => m_X8_valid l D tc ro b0 h) dX8_result_36 rfl rfl (Nat.le_of_ble_eq_true rfl) (by decide) (by decide) ⟨Nat.le_of_ble_eq_true rfl, Nat.le_of_ble_eq_true rfl⟩ (fun v6 => ?_)
  refine z_goto C 44 dX8_result_39 (by decide) ?_
  exact z_ireturn C dX8_result_44
noncomputable def f_X8_surplus (a0 : Nat) (x1 : Int32) (hp : zHp) : Option (Int32 × zHp) :=
  (zis hp a0 8).bind fun _ => (f_X8_is a0 (3 : Int32) x1 hp).bind fun v1 => zb2 (f_X8_checks a0 v1 hp) fun v2 h3 => if v2 = 0 then (some ((0 : Int32), h3)) else (f_X8_more a0 x1 h3).bind fun v4 => some (v4, h3)
set_option maxHeartbeats 4000000 in
set_option maxRecDepth 100000 in
theorem m_X8_surplus (l : Launch) (D : va_G) (tc : Nat → ClassId) (ro : Nat → Nat) (b0 : Nat) {a0 : Nat} {x1 : Int32} {hp : zHp} {sz : Nat} {r : (Int32 × zHp)} (h : f_X8_surplus a0 x1 hp = some r) : zis hp a0 8 = some () ∧ zM l yX8_surplus cX8_surplus 2 (some .int) 7 0 0 [.ref a0, .int x1] D tc ro b0 hp sz ((zoI sz) r).1 ((zoI sz) r).2.1 ((zoI sz) r).2.2 := by
  refine ⟨?_, z_start (o := (zoI sz)) (lv := [(0, .ref a0), (1, .int x1)]) h (by decide +kernel) RX8 rfl rfl (Nat.le_of_ble_eq_true rfl) (fun P C => ?_)⟩
  · unfold f_X8_surplus at h
    cases hc : zis hp a0 8 with
    | none => rw [hc] at h; cases h
    | some u => rfl
  unfold f_X8_surplus
  refine z_is ?_
  refine z_aload_n C dX8_surplus_0 0 rfl ?_
  refine z_aload_n C dX8_surplus_1 0 rfl ?_
  refine z_iconst C dX8_surplus_2 zi_3 ?_
  refine z_iload_n C dX8_surplus_3 1 rfl ?_
  refine z_callVp C zc_X8_255 [.int (3 : Int32), .int x1] (fun l D tc b0 r h => m_X8_is l D tc ro b0 h) dX8_surplus_4 rfl rfl (Nat.le_of_ble_eq_true rfl) (by decide) (by decide) ⟨Nat.le_of_ble_eq_true rfl, Nat.le_of_ble_eq_true rfl⟩ (fun v1 => ?_)
  refine z_callVi C zc_X8_258 [.int v1] (fun l D tc b0 r h => m_X8_checks l D tc ro b0 h) dX8_surplus_7 rfl rfl (Nat.le_of_ble_eq_true rfl) (by decide) (by decide) ⟨Nat.le_of_ble_eq_true rfl, Nat.le_of_ble_eq_true rfl⟩ (fun v2 h3 => ?_)
  refine z_if_eq C 21 dX8_surplus_10 (by decide) ?_ ?_
  · refine z_iconst C dX8_surplus_21 zi_0 ?_
    exact z_ireturn C dX8_surplus_22
  refine z_aload_n C dX8_surplus_13 0 rfl ?_
  refine z_iload_n C dX8_surplus_14 1 rfl ?_
  refine z_callVp C zc_X8_83 [.int x1] (fun l D tc b0 r h => m_X8_more l D tc ro b0 h) dX8_surplus_15 rfl rfl (Nat.le_of_ble_eq_true rfl) (by decide) (by decide) ⟨Nat.le_of_ble_eq_true rfl, Nat.le_of_ble_eq_true rfl⟩ (fun v4 => ?_)
  refine z_goto C 22 dX8_surplus_18 (by decide) ?_
  exact z_ireturn C dX8_surplus_22
noncomputable def f_X8_isOff (a0 : Nat) (x1 : Int32) (hp : zHp) : Option (Int32 × zHp) :=
  (zis hp a0 8).bind fun _ => (f_X8_is a0 (3 : Int32) x1 hp).bind fun v1 => zb2 (f_X8_checks a0 v1 hp) fun v2 h3 => if v2 = 0 then (some ((0 : Int32), h3)) else (f_X8_differs a0 x1 h3).bind fun v4 => if v4 = 0 then (some ((0 : Int32), h3)) else some ((1 : Int32), h3)
set_option maxHeartbeats 4000000 in
set_option maxRecDepth 100000 in
theorem m_X8_isOff (l : Launch) (D : va_G) (tc : Nat → ClassId) (ro : Nat → Nat) (b0 : Nat) {a0 : Nat} {x1 : Int32} {hp : zHp} {sz : Nat} {r : (Int32 × zHp)} (h : f_X8_isOff a0 x1 hp = some r) : zis hp a0 8 = some () ∧ zM l yX8_isOff cX8_isOff 2 (some .boolean) 8 0 0 [.ref a0, .int x1] D tc ro b0 hp sz ((zoI sz) r).1 ((zoI sz) r).2.1 ((zoI sz) r).2.2 := by
  refine ⟨?_, z_start (o := (zoI sz)) (lv := [(0, .ref a0), (1, .int x1)]) h (by decide +kernel) RX8 rfl rfl (Nat.le_of_ble_eq_true rfl) (fun P C => ?_)⟩
  · unfold f_X8_isOff at h
    cases hc : zis hp a0 8 with
    | none => rw [hc] at h; cases h
    | some u => rfl
  unfold f_X8_isOff
  refine z_is ?_
  refine z_aload_n C dX8_isOff_0 0 rfl ?_
  refine z_aload_n C dX8_isOff_1 0 rfl ?_
  refine z_iconst C dX8_isOff_2 zi_3 ?_
  refine z_iload_n C dX8_isOff_3 1 rfl ?_
  refine z_callVp C zc_X8_255 [.int (3 : Int32), .int x1] (fun l D tc b0 r h => m_X8_is l D tc ro b0 h) dX8_isOff_4 rfl rfl (Nat.le_of_ble_eq_true rfl) (by decide) (by decide) ⟨Nat.le_of_ble_eq_true rfl, Nat.le_of_ble_eq_true rfl⟩ (fun v1 => ?_)
  refine z_callVi C zc_X8_258 [.int v1] (fun l D tc b0 r h => m_X8_checks l D tc ro b0 h) dX8_isOff_7 rfl rfl (Nat.le_of_ble_eq_true rfl) (by decide) (by decide) ⟨Nat.le_of_ble_eq_true rfl, Nat.le_of_ble_eq_true rfl⟩ (fun v2 h3 => ?_)
  refine z_if_eq C 25 dX8_isOff_10 (by decide) ?_ ?_
  · refine z_iconst C dX8_isOff_25 zi_0 ?_
    exact z_kreturn C rfl dX8_isOff_26
  refine z_aload_n C dX8_isOff_13 0 rfl ?_
  refine z_iload_n C dX8_isOff_14 1 rfl ?_
  refine z_callVp C zc_X8_106 [.int x1] (fun l D tc b0 r h => m_X8_differs l D tc ro b0 h) dX8_isOff_15 rfl rfl (Nat.le_of_ble_eq_true rfl) (by decide) (by decide) ⟨Nat.le_of_ble_eq_true rfl, Nat.le_of_ble_eq_true rfl⟩ (fun v4 => ?_)
  refine z_if_eq C 25 dX8_isOff_18 (by decide) ?_ ?_
  · refine z_iconst C dX8_isOff_25 zi_0 ?_
    exact z_kreturn C rfl dX8_isOff_26
  refine z_iconst C dX8_isOff_21 zi_1 ?_
  refine z_goto C 26 dX8_isOff_22 (by decide) ?_
  exact z_kreturn C rfl dX8_isOff_26
noncomputable def f_X8_wardVotes (a0 : Nat) (x1 : Int32) (x2 : Int32) (hp : zHp) : Option (Int32 × zHp) :=
  (zis hp a0 8).bind fun _ => (f_X8_is a0 (2 : Int32) x1 hp).bind fun v1 => zb2 (f_X8_checks a0 v1 hp) fun v2 h3 => if v2 = 0 then (some ((0 : Int32), h3)) else (f_X8_isPile a0 x2 h3).bind fun v4 => if v4 = 0 then (some ((-2 : Int32), h3)) else (f_X8_votes a0 x1 x2 h3).bind fun v5 => some (v5, h3)
set_option maxHeartbeats 4000000 in
set_option maxRecDepth 100000 in
theorem m_X8_wardVotes (l : Launch) (D : va_G) (tc : Nat → ClassId) (ro : Nat → Nat) (b0 : Nat) {a0 : Nat} {x1 : Int32} {x2 : Int32} {hp : zHp} {sz : Nat} {r : (Int32 × zHp)} (h : f_X8_wardVotes a0 x1 x2 hp = some r) : zis hp a0 8 = some () ∧ zM l yX8_wardVotes cX8_wardVotes 3 (some .int) 7 0 0 [.ref a0, .int x1, .int x2] D tc ro b0 hp sz ((zoI sz) r).1 ((zoI sz) r).2.1 ((zoI sz) r).2.2 := by
  refine ⟨?_, z_start (o := (zoI sz)) (lv := [(0, .ref a0), (1, .int x1), (2, .int x2)]) h (by decide +kernel) RX8 rfl rfl (Nat.le_of_ble_eq_true rfl) (fun P C => ?_)⟩
  · unfold f_X8_wardVotes at h
    cases hc : zis hp a0 8 with
    | none => rw [hc] at h; cases h
    | some u => rfl
  unfold f_X8_wardVotes
  refine z_is ?_
  refine z_aload_n C dX8_wardVotes_0 0 rfl ?_
  refine z_aload_n C dX8_wardVotes_1 0 rfl ?_
  refine z_iconst C dX8_wardVotes_2 zi_2 ?_
  refine z_iload_n C dX8_wardVotes_3 1 rfl ?_
  refine z_callVp C zc_X8_255 [.int (2 : Int32), .int x1] (fun l D tc b0 r h => m_X8_is l D tc ro b0 h) dX8_wardVotes_4 rfl rfl (Nat.le_of_ble_eq_true rfl) (by decide) (by decide) ⟨Nat.le_of_ble_eq_true rfl, Nat.le_of_ble_eq_true rfl⟩ (fun v1 => ?_)
  refine z_callVi C zc_X8_258 [.int v1] (fun l D tc b0 r h => m_X8_checks l D tc ro b0 h) dX8_wardVotes_7 rfl rfl (Nat.le_of_ble_eq_true rfl) (by decide) (by decide) ⟨Nat.le_of_ble_eq_true rfl, Nat.le_of_ble_eq_true rfl⟩ (fun v2 h3 => ?_)
  refine z_if_ne C 15 dX8_wardVotes_10 (by decide) ?_ ?_
  · refine z_iconst C dX8_wardVotes_13 zi_0 ?_
    exact z_ireturn C dX8_wardVotes_14
  refine z_aload_n C dX8_wardVotes_15 0 rfl ?_
  refine z_iload_n C dX8_wardVotes_16 2 rfl ?_
  refine z_callVp C zc_X8_262 [.int x2] (fun l D tc b0 r h => m_X8_isPile l D tc ro b0 h) dX8_wardVotes_17 rfl rfl (Nat.le_of_ble_eq_true rfl) (by decide) (by decide) ⟨Nat.le_of_ble_eq_true rfl, Nat.le_of_ble_eq_true rfl⟩ (fun v4 => ?_)
  refine z_if_eq C 32 dX8_wardVotes_20 (by decide) ?_ ?_
  · refine z_bipush C dX8_wardVotes_32 zbi_m2 ?_
    exact z_ireturn C dX8_wardVotes_34
  refine z_aload_n C dX8_wardVotes_23 0 rfl ?_
  refine z_iload_n C dX8_wardVotes_24 1 rfl ?_
  refine z_iload_n C dX8_wardVotes_25 2 rfl ?_
  refine z_callVp C zc_X8_91 [.int x1, .int x2] (fun l D tc b0 r h => m_X8_votes l D tc ro b0 h) dX8_wardVotes_26 rfl rfl (Nat.le_of_ble_eq_true rfl) (by decide) (by decide) ⟨Nat.le_of_ble_eq_true rfl, Nat.le_of_ble_eq_true rfl⟩ (fun v5 => ?_)
  refine z_goto C 34 dX8_wardVotes_29 (by decide) ?_
  exact z_ireturn C dX8_wardVotes_34
noncomputable def f_X8_leader (a0 : Nat) (x1 : Int32) (hp : zHp) : Option (Int32 × zHp) :=
  (zis hp a0 8).bind fun _ => (f_X8_is a0 (2 : Int32) x1 hp).bind fun v1 => zb2 (f_X8_checks a0 v1 hp) fun v2 h3 => if v2 = 0 then (some ((0 : Int32), h3)) else (f_X8_first a0 x1 h3).bind fun v4 => some (v4, h3)
set_option maxHeartbeats 4000000 in
set_option maxRecDepth 100000 in
theorem m_X8_leader (l : Launch) (D : va_G) (tc : Nat → ClassId) (ro : Nat → Nat) (b0 : Nat) {a0 : Nat} {x1 : Int32} {hp : zHp} {sz : Nat} {r : (Int32 × zHp)} (h : f_X8_leader a0 x1 hp = some r) : zis hp a0 8 = some () ∧ zM l yX8_leader cX8_leader 2 (some .int) 8 0 0 [.ref a0, .int x1] D tc ro b0 hp sz ((zoI sz) r).1 ((zoI sz) r).2.1 ((zoI sz) r).2.2 := by
  refine ⟨?_, z_start (o := (zoI sz)) (lv := [(0, .ref a0), (1, .int x1)]) h (by decide +kernel) RX8 rfl rfl (Nat.le_of_ble_eq_true rfl) (fun P C => ?_)⟩
  · unfold f_X8_leader at h
    cases hc : zis hp a0 8 with
    | none => rw [hc] at h; cases h
    | some u => rfl
  unfold f_X8_leader
  refine z_is ?_
  refine z_aload_n C dX8_leader_0 0 rfl ?_
  refine z_aload_n C dX8_leader_1 0 rfl ?_
  refine z_iconst C dX8_leader_2 zi_2 ?_
  refine z_iload_n C dX8_leader_3 1 rfl ?_
  refine z_callVp C zc_X8_255 [.int (2 : Int32), .int x1] (fun l D tc b0 r h => m_X8_is l D tc ro b0 h) dX8_leader_4 rfl rfl (Nat.le_of_ble_eq_true rfl) (by decide) (by decide) ⟨Nat.le_of_ble_eq_true rfl, Nat.le_of_ble_eq_true rfl⟩ (fun v1 => ?_)
  refine z_callVi C zc_X8_258 [.int v1] (fun l D tc b0 r h => m_X8_checks l D tc ro b0 h) dX8_leader_7 rfl rfl (Nat.le_of_ble_eq_true rfl) (by decide) (by decide) ⟨Nat.le_of_ble_eq_true rfl, Nat.le_of_ble_eq_true rfl⟩ (fun v2 h3 => ?_)
  refine z_if_eq C 21 dX8_leader_10 (by decide) ?_ ?_
  · refine z_iconst C dX8_leader_21 zi_0 ?_
    exact z_ireturn C dX8_leader_22
  refine z_aload_n C dX8_leader_13 0 rfl ?_
  refine z_iload_n C dX8_leader_14 1 rfl ?_
  refine z_callVp C zc_X8_97 [.int x1] (fun l D tc b0 r h => m_X8_first l D tc ro b0 h) dX8_leader_15 rfl rfl (Nat.le_of_ble_eq_true rfl) (by decide) (by decide) ⟨Nat.le_of_ble_eq_true rfl, Nat.le_of_ble_eq_true rfl⟩ (fun v4 => ?_)
  refine z_goto C 22 dX8_leader_18 (by decide) ?_
  exact z_ireturn C dX8_leader_22
noncomputable def f_X8_margin (a0 : Nat) (x1 : Int32) (hp : zHp) : Option (Int32 × zHp) :=
  (zis hp a0 8).bind fun _ => (f_X8_is a0 (2 : Int32) x1 hp).bind fun v1 => zb2 (f_X8_checks a0 v1 hp) fun v2 h3 => if v2 = 0 then (some ((0 : Int32), h3)) else (f_X8_marginOf a0 x1 h3).bind fun v4 => some (v4, h3)
set_option maxHeartbeats 4000000 in
set_option maxRecDepth 100000 in
theorem m_X8_margin (l : Launch) (D : va_G) (tc : Nat → ClassId) (ro : Nat → Nat) (b0 : Nat) {a0 : Nat} {x1 : Int32} {hp : zHp} {sz : Nat} {r : (Int32 × zHp)} (h : f_X8_margin a0 x1 hp = some r) : zis hp a0 8 = some () ∧ zM l yX8_margin cX8_margin 2 (some .int) 9 0 0 [.ref a0, .int x1] D tc ro b0 hp sz ((zoI sz) r).1 ((zoI sz) r).2.1 ((zoI sz) r).2.2 := by
  refine ⟨?_, z_start (o := (zoI sz)) (lv := [(0, .ref a0), (1, .int x1)]) h (by decide +kernel) RX8 rfl rfl (Nat.le_of_ble_eq_true rfl) (fun P C => ?_)⟩
  · unfold f_X8_margin at h
    cases hc : zis hp a0 8 with
    | none => rw [hc] at h; cases h
    | some u => rfl
  unfold f_X8_margin
  refine z_is ?_
  refine z_aload_n C dX8_margin_0 0 rfl ?_
  refine z_aload_n C dX8_margin_1 0 rfl ?_
  refine z_iconst C dX8_margin_2 zi_2 ?_
  refine z_iload_n C dX8_margin_3 1 rfl ?_
  refine z_callVp C zc_X8_255 [.int (2 : Int32), .int x1] (fun l D tc b0 r h => m_X8_is l D tc ro b0 h) dX8_margin_4 rfl rfl (Nat.le_of_ble_eq_true rfl) (by decide) (by decide) ⟨Nat.le_of_ble_eq_true rfl, Nat.le_of_ble_eq_true rfl⟩ (fun v1 => ?_)
  refine z_callVi C zc_X8_258 [.int v1] (fun l D tc b0 r h => m_X8_checks l D tc ro b0 h) dX8_margin_7 rfl rfl (Nat.le_of_ble_eq_true rfl) (by decide) (by decide) ⟨Nat.le_of_ble_eq_true rfl, Nat.le_of_ble_eq_true rfl⟩ (fun v2 h3 => ?_)
  refine z_if_eq C 21 dX8_margin_10 (by decide) ?_ ?_
  · refine z_iconst C dX8_margin_21 zi_0 ?_
    exact z_ireturn C dX8_margin_22
  refine z_aload_n C dX8_margin_13 0 rfl ?_
  refine z_iload_n C dX8_margin_14 1 rfl ?_
  refine z_callVp C zc_X8_103 [.int x1] (fun l D tc b0 r h => m_X8_marginOf l D tc ro b0 h) dX8_margin_15 rfl rfl (Nat.le_of_ble_eq_true rfl) (by decide) (by decide) ⟨Nat.le_of_ble_eq_true rfl, Nat.le_of_ble_eq_true rfl⟩ (fun v4 => ?_)
  refine z_goto C 22 dX8_margin_18 (by decide) ?_
  exact z_ireturn C dX8_margin_22
noncomputable def f_X8_isClose (a0 : Nat) (x1 : Int32) (hp : zHp) : Option (Int32 × zHp) :=
  (zis hp a0 8).bind fun _ => (f_X8_is a0 (2 : Int32) x1 hp).bind fun v1 => zb2 (f_X8_checks a0 v1 hp) fun v2 h3 => if v2 = 0 then (some ((0 : Int32), h3)) else (f_X8_isNear a0 x1 h3).bind fun v4 => if v4 = 0 then (some ((0 : Int32), h3)) else some ((1 : Int32), h3)
set_option maxHeartbeats 4000000 in
set_option maxRecDepth 100000 in
theorem m_X8_isClose (l : Launch) (D : va_G) (tc : Nat → ClassId) (ro : Nat → Nat) (b0 : Nat) {a0 : Nat} {x1 : Int32} {hp : zHp} {sz : Nat} {r : (Int32 × zHp)} (h : f_X8_isClose a0 x1 hp = some r) : zis hp a0 8 = some () ∧ zM l yX8_isClose cX8_isClose 2 (some .boolean) 10 0 0 [.ref a0, .int x1] D tc ro b0 hp sz ((zoI sz) r).1 ((zoI sz) r).2.1 ((zoI sz) r).2.2 := by
  refine ⟨?_, z_start (o := (zoI sz)) (lv := [(0, .ref a0), (1, .int x1)]) h (by decide +kernel) RX8 rfl rfl (Nat.le_of_ble_eq_true rfl) (fun P C => ?_)⟩
  · unfold f_X8_isClose at h
    cases hc : zis hp a0 8 with
    | none => rw [hc] at h; cases h
    | some u => rfl
  unfold f_X8_isClose
  refine z_is ?_
  refine z_aload_n C dX8_isClose_0 0 rfl ?_
  refine z_aload_n C dX8_isClose_1 0 rfl ?_
  refine z_iconst C dX8_isClose_2 zi_2 ?_
  refine z_iload_n C dX8_isClose_3 1 rfl ?_
  refine z_callVp C zc_X8_255 [.int (2 : Int32), .int x1] (fun l D tc b0 r h => m_X8_is l D tc ro b0 h) dX8_isClose_4 rfl rfl (Nat.le_of_ble_eq_true rfl) (by decide) (by decide) ⟨Nat.le_of_ble_eq_true rfl, Nat.le_of_ble_eq_true rfl⟩ (fun v1 => ?_)
  refine z_callVi C zc_X8_258 [.int v1] (fun l D tc b0 r h => m_X8_checks l D tc ro b0 h) dX8_isClose_7 rfl rfl (Nat.le_of_ble_eq_true rfl) (by decide) (by decide) ⟨Nat.le_of_ble_eq_true rfl, Nat.le_of_ble_eq_true rfl⟩ (fun v2 h3 => ?_)
  refine z_if_eq C 25 dX8_isClose_10 (by decide) ?_ ?_
  · refine z_iconst C dX8_isClose_25 zi_0 ?_
    exact z_kreturn C rfl dX8_isClose_26
  refine z_aload_n C dX8_isClose_13 0 rfl ?_
  refine z_iload_n C dX8_isClose_14 1 rfl ?_
  refine z_callVp C zc_X8_119 [.int x1] (fun l D tc b0 r h => m_X8_isNear l D tc ro b0 h) dX8_isClose_15 rfl rfl (Nat.le_of_ble_eq_true rfl) (by decide) (by decide) ⟨Nat.le_of_ble_eq_true rfl, Nat.le_of_ble_eq_true rfl⟩ (fun v4 => ?_)
  refine z_if_eq C 25 dX8_isClose_18 (by decide) ?_ ?_
  · refine z_iconst C dX8_isClose_25 zi_0 ?_
    exact z_kreturn C rfl dX8_isClose_26
  refine z_iconst C dX8_isClose_21 zi_1 ?_
  refine z_goto C 26 dX8_isClose_22 (by decide) ?_
  exact z_kreturn C rfl dX8_isClose_26
noncomputable def f_X8_whyNot (a0 : Nat) (x1 : Int32) (hp : zHp) : Option (Int32 × zHp) :=
  (zis hp a0 8).bind fun _ => (f_X8_is a0 (2 : Int32) x1 hp).bind fun v1 => zb2 (f_X8_checks a0 v1 hp) fun v2 h3 => if v2 = 0 then (some ((0 : Int32), h3)) else (f_X8_against a0 x1 h3).bind fun v4 => some (v4, h3)
set_option maxHeartbeats 4000000 in
set_option maxRecDepth 100000 in
theorem m_X8_whyNot (l : Launch) (D : va_G) (tc : Nat → ClassId) (ro : Nat → Nat) (b0 : Nat) {a0 : Nat} {x1 : Int32} {hp : zHp} {sz : Nat} {r : (Int32 × zHp)} (h : f_X8_whyNot a0 x1 hp = some r) : zis hp a0 8 = some () ∧ zM l yX8_whyNot cX8_whyNot 2 (some .int) 11 0 0 [.ref a0, .int x1] D tc ro b0 hp sz ((zoI sz) r).1 ((zoI sz) r).2.1 ((zoI sz) r).2.2 := by
  refine ⟨?_, z_start (o := (zoI sz)) (lv := [(0, .ref a0), (1, .int x1)]) h (by decide +kernel) RX8 rfl rfl (Nat.le_of_ble_eq_true rfl) (fun P C => ?_)⟩
  · unfold f_X8_whyNot at h
    cases hc : zis hp a0 8 with
    | none => rw [hc] at h; cases h
    | some u => rfl
  unfold f_X8_whyNot
  refine z_is ?_
  refine z_aload_n C dX8_whyNot_0 0 rfl ?_
  refine z_aload_n C dX8_whyNot_1 0 rfl ?_
  refine z_iconst C dX8_whyNot_2 zi_2 ?_
  refine z_iload_n C dX8_whyNot_3 1 rfl ?_
  refine z_callVp C zc_X8_255 [.int (2 : Int32), .int x1] (fun l D tc b0 r h => m_X8_is l D tc ro b0 h) dX8_whyNot_4 rfl rfl (Nat.le_of_ble_eq_true rfl) (by decide) (by decide) ⟨Nat.le_of_ble_eq_true rfl, Nat.le_of_ble_eq_true rfl⟩ (fun v1 => ?_)
  refine z_callVi C zc_X8_258 [.int v1] (fun l D tc b0 r h => m_X8_checks l D tc ro b0 h) dX8_whyNot_7 rfl rfl (Nat.le_of_ble_eq_true rfl) (by decide) (by decide) ⟨Nat.le_of_ble_eq_true rfl, Nat.le_of_ble_eq_true rfl⟩ (fun v2 h3 => ?_)
  refine z_if_eq C 21 dX8_whyNot_10 (by decide) ?_ ?_
  · refine z_iconst C dX8_whyNot_21 zi_0 ?_
    exact z_ireturn C dX8_whyNot_22
  refine z_aload_n C dX8_whyNot_13 0 rfl ?_
  refine z_iload_n C dX8_whyNot_14 1 rfl ?_
  refine z_callVp C zc_X8_123 [.int x1] (fun l D tc b0 r h => m_X8_against l D tc ro b0 h) dX8_whyNot_15 rfl rfl (Nat.le_of_ble_eq_true rfl) (by decide) (by decide) ⟨Nat.le_of_ble_eq_true rfl, Nat.le_of_ble_eq_true rfl⟩ (fun v4 => ?_)
  refine z_goto C 22 dX8_whyNot_18 (by decide) ?_
  exact z_ireturn C dX8_whyNot_22
noncomputable def f_X8_toCount (a0 : Nat) (hp : zHp) : Option (Int32 × zHp) :=
  (zis hp a0 8).bind fun _ => (zpV hp a0 8 0 (.int (0 : Int32))).bind fun h1 => (f_X8_due a0 h1).bind fun v2 => some (v2, h1)
set_option maxHeartbeats 4000000 in
set_option maxRecDepth 100000 in
theorem m_X8_toCount (l : Launch) (D : va_G) (tc : Nat → ClassId) (ro : Nat → Nat) (b0 : Nat) {a0 : Nat} {hp : zHp} {sz : Nat} {r : (Int32 × zHp)} (h : f_X8_toCount a0 hp = some r) : zis hp a0 8 = some () ∧ zM l yX8_toCount cX8_toCount 1 (some .int) 12 0 0 [.ref a0] D tc ro b0 hp sz ((zoI sz) r).1 ((zoI sz) r).2.1 ((zoI sz) r).2.2 := by
  refine ⟨?_, z_start (o := (zoI sz)) (lv := [(0, .ref a0)]) h (by decide +kernel) RX8 rfl rfl (Nat.le_of_ble_eq_true rfl) (fun P C => ?_)⟩
  · unfold f_X8_toCount at h
    cases hc : zis hp a0 8 with
    | none => rw [hc] at h; cases h
    | some u => rfl
  unfold f_X8_toCount
  refine z_is ?_
  refine z_aload_n C dX8_toCount_0 0 rfl ?_
  refine z_iconst C dX8_toCount_1 zi_0 ?_
  refine z_putI C zp_X8_38 dX8_toCount_2 (fun h1 => ?_)
  refine z_aload_n C dX8_toCount_5 0 rfl ?_
  refine z_callVp C zc_X8_277 [] (fun l D tc b0 r h => m_X8_due l D tc ro b0 h) dX8_toCount_6 rfl rfl (Nat.le_of_ble_eq_true rfl) (by decide) (by decide) ⟨Nat.le_of_ble_eq_true rfl, Nat.le_of_ble_eq_true rfl⟩ (fun v2 => ?_)
  exact z_ireturn C dX8_toCount_9
noncomputable def b_X8_wouldAgree_18 (k46 : Option Int32) (k54 : Option Int32) (a0 : Nat) (x1 : Int32) (x2 : Int32) (x3 : Int32) (hp : zHp) (rec : Int32 → Option Int32) (x4 : Int32) : Option Int32 :=
  (f_X8_piles a0 hp).bind fun v2 => if x4 < v2 then ((f_X8_finds a0 x1 x2 x4 hp).bind fun v3 => (f_X8_found a0 x2 x3 x4 hp).bind fun v4 => if v3 = v4 then (zlet (x4 + (1 : Int32)) fun v5 => rec v5) else k46) else k54
noncomputable def l_X8_wouldAgree_18 (k46 : Option Int32) (k54 : Option Int32) (a0 : Nat) (x1 : Int32) (x2 : Int32) (x3 : Int32) (hp : zHp) (n : Nat) : Int32 → Option Int32 :=
  Nat.rec (motive := fun _ => Int32 → Option Int32) (fun _ => none) (fun _ rec => b_X8_wouldAgree_18 k46 k54 a0 x1 x2 x3 hp rec) n
theorem l_X8_wouldAgree_18_s (k46 : Option Int32) (k54 : Option Int32) (a0 : Nat) (x1 : Int32) (x2 : Int32) (x3 : Int32) (hp : zHp) (n : Nat) (x4 : Int32) : l_X8_wouldAgree_18 k46 k54 a0 x1 x2 x3 hp (n + 1) x4 = b_X8_wouldAgree_18 k46 k54 a0 x1 x2 x3 hp (l_X8_wouldAgree_18 k46 k54 a0 x1 x2 x3 hp n) x4 := rfl
set_option maxHeartbeats 4000000 in
set_option maxRecDepth 100000 in
theorem wl_X8_wouldAgree_18 {P : zX} {ro : Nat → Nat} {sz : Nat} (C : zC P cX8_wouldAgree RX8 (some .boolean) 4 0 0 5 ro) {a0 : Nat} {x1 : Int32} {x2 : Int32} {x3 : Int32} {hp : zHp} {k46 : Option Int32} (hk46 : zG P (zoP sz hp) (k46) 46 [] [] hp sz 0 0) {k54 : Option Int32} (hk54 : zG P (zoP sz hp) (k54) 54 [] [] hp sz 0 0) : ∀ (n : Nat) (x4 : Int32), zG P (zoP sz hp) (l_X8_wouldAgree_18 k46 k54 a0 x1 x2 x3 hp n x4) 18 [(0, .ref a0), (1, .int x1), (2, .int x2), (3, .int x3), (4, .int x4)] [] hp sz 0 0 := by
  intro n
  induction n with
  | zero =>
    intro x4
    show zG P (zoP sz hp) none _ _ _ _ _ _ _
    exact z_none
  | succ n ih =>
    intro x4
    show zG P (zoP sz hp) (b_X8_wouldAgree_18 k46 k54 a0 x1 x2 x3 hp (l_X8_wouldAgree_18 k46 k54 a0 x1 x2 x3 hp n) x4) _ _ _ _ _ _ _
    unfold b_X8_wouldAgree_18
    refine z_iload C dX8_wouldAgree_18 4 rfl ?_
    refine z_aload_n C dX8_wouldAgree_20 0 rfl ?_
    refine z_callVp C zc_X8_59 [] (fun l D tc b0 r h => m_X8_piles l D tc ro b0 h) dX8_wouldAgree_21 rfl rfl (Nat.le_of_ble_eq_true rfl) (by decide) (by decide) ⟨Nat.le_of_ble_eq_true rfl, Nat.le_of_ble_eq_true rfl⟩ (fun v2 => ?_)
    refine z_icmp_ge C 54 dX8_wouldAgree_24 (by decide) ?_ ?_
    · refine z_aload_n C dX8_wouldAgree_27 0 rfl ?_
      refine z_iload_n C dX8_wouldAgree_28 1 rfl ?_
      refine z_iload_n C dX8_wouldAgree_29 2 rfl ?_
      refine z_iload C dX8_wouldAgree_30 4 rfl ?_
      refine z_callVp C zc_X8_274 [.int x1, .int x2, .int x4] (fun l D tc b0 r h => m_X8_finds l D tc ro b0 h) dX8_wouldAgree_32 rfl rfl (Nat.le_of_ble_eq_true rfl) (by decide) (by decide) ⟨Nat.le_of_ble_eq_true rfl, Nat.le_of_ble_eq_true rfl⟩ (fun v3 => ?_)
      refine z_aload_n C dX8_wouldAgree_35 0 rfl ?_
      refine z_iload_n C dX8_wouldAgree_36 2 rfl ?_
      refine z_iload_n C dX8_wouldAgree_37 3 rfl ?_
      refine z_iload C dX8_wouldAgree_38 4 rfl ?_
      refine z_callVp C zc_X8_67 [.int x2, .int x3, .int x4] (fun l D tc b0 r h => m_X8_found l D tc ro b0 h) dX8_wouldAgree_40 rfl rfl (Nat.le_of_ble_eq_true rfl) (by decide) (by decide) ⟨Nat.le_of_ble_eq_true rfl, Nat.le_of_ble_eq_true rfl⟩ (fun v4 => ?_)
      refine z_icmp_eq C 48 dX8_wouldAgree_43 (by decide) ?_ ?_
      · refine z_iincL C 4 (fun v5 => [(0, .ref a0), (1, .int x1), (2, .int x2), (3, .int x3), (4, .int v5)]) dX8_wouldAgree_48 rfl zi_1 (by decide) (fun _ => rfl) (fun v5 => ?_)
        refine z_goto C 18 dX8_wouldAgree_51 (by decide) ?_
        exact ih _
      exact z_sub [] rfl (hk46)
    exact z_sub [] rfl (hk54)
noncomputable def f_X8_wouldAgree (a0 : Nat) (x1 : Int32) (x2 : Int32) (x3 : Int32) (hp : zHp) : Option Int32 :=
  (zis hp a0 8).bind fun _ => (f_X8_of a0 x2 ((16 : Int32) + x3) hp).bind fun v1 => if v1 = x1 then (some (0 : Int32)) else l_X8_wouldAgree_18 (some (0 : Int32)) (some (1 : Int32)) a0 x1 x2 x3 hp 1000000 (0 : Int32)
set_option maxHeartbeats 4000000 in
set_option maxRecDepth 100000 in
theorem m_X8_wouldAgree (l : Launch) (D : va_G) (tc : Nat → ClassId) (ro : Nat → Nat) (b0 : Nat) {a0 : Nat} {x1 : Int32} {x2 : Int32} {x3 : Int32} {hp : zHp} {sz : Nat} {r : Int32} (h : f_X8_wouldAgree a0 x1 x2 x3 hp = some r) : zis hp a0 8 = some () ∧ zM l yX8_wouldAgree cX8_wouldAgree 5 (some .boolean) 4 0 0 [.ref a0, .int x1, .int x2, .int x3] D tc ro b0 hp sz ((zoP sz hp) r).1 ((zoP sz hp) r).2.1 ((zoP sz hp) r).2.2 := by
  refine ⟨?_, z_start (o := (zoP sz hp)) (lv := [(0, .ref a0), (1, .int x1), (2, .int x2), (3, .int x3)]) h (by decide +kernel) RX8 rfl rfl (Nat.le_of_ble_eq_true rfl) (fun P C => ?_)⟩
  · unfold f_X8_wouldAgree at h
    cases hc : zis hp a0 8 with
    | none => rw [hc] at h; cases h
    | some u => rfl
  unfold f_X8_wouldAgree
  refine z_is ?_
  refine z_aload_n C dX8_wouldAgree_0 0 rfl ?_
  refine z_iload_n C dX8_wouldAgree_1 2 rfl ?_
  refine z_bipush C dX8_wouldAgree_2 zbi_16 ?_
  refine z_iload_n C dX8_wouldAgree_4 3 rfl ?_
  refine z_iadd C dX8_wouldAgree_5 ?_
  refine z_callVp C zc_X8_48 [.int x2, .int ((16 : Int32) + x3)] (fun l D tc b0 r h => m_X8_of l D tc ro b0 h) dX8_wouldAgree_6 rfl rfl (Nat.le_of_ble_eq_true rfl) (by decide) (by decide) ⟨Nat.le_of_ble_eq_true rfl, Nat.le_of_ble_eq_true rfl⟩ (fun v1 => ?_)
  refine z_iload_n C dX8_wouldAgree_9 1 rfl ?_
  refine z_icmp_ne C 15 dX8_wouldAgree_10 (by decide) ?_ ?_
  · refine z_iconst C dX8_wouldAgree_13 zi_0 ?_
    exact z_kreturnP C rfl dX8_wouldAgree_14
  refine z_iconst C dX8_wouldAgree_15 zi_0 ?_
  refine z_istore (lv' := [(0, .ref a0), (1, .int x1), (2, .int x2), (3, .int x3), (4, .int (0 : Int32))]) C dX8_wouldAgree_16 (by decide) rfl ?_
  refine wl_X8_wouldAgree_18 C ?_ ?_ _ _
  · refine z_iconst C dX8_wouldAgree_46 zi_0 ?_
    exact z_kreturnP C rfl dX8_wouldAgree_47
  refine z_iconst C dX8_wouldAgree_54 zi_1 ?_
  exact z_kreturnP C rfl dX8_wouldAgree_55
noncomputable def b_X8_findAlike_3 (k31 : Option Int32) (k39 : Option Int32) (a0 : Nat) (x1 : Int32) (x2 : Int32) (x3 : Int32) (hp : zHp) (rec : Int32 → Option Int32) (x4 : Int32) : Option Int32 :=
  (f_X8_piles a0 hp).bind fun v1 => if x4 < v1 then ((f_X8_finds a0 x1 x3 x4 hp).bind fun v2 => (f_X8_finds a0 x2 x3 x4 hp).bind fun v3 => if v2 = v3 then (zlet (x4 + (1 : Int32)) fun v4 => rec v4) else k31) else k39
noncomputable def l_X8_findAlike_3 (k31 : Option Int32) (k39 : Option Int32) (a0 : Nat) (x1 : Int32) (x2 : Int32) (x3 : Int32) (hp : zHp) (n : Nat) : Int32 → Option Int32 :=
  Nat.rec (motive := fun _ => Int32 → Option Int32) (fun _ => none) (fun _ rec => b_X8_findAlike_3 k31 k39 a0 x1 x2 x3 hp rec) n
theorem l_X8_findAlike_3_s (k31 : Option Int32) (k39 : Option Int32) (a0 : Nat) (x1 : Int32) (x2 : Int32) (x3 : Int32) (hp : zHp) (n : Nat) (x4 : Int32) : l_X8_findAlike_3 k31 k39 a0 x1 x2 x3 hp (n + 1) x4 = b_X8_findAlike_3 k31 k39 a0 x1 x2 x3 hp (l_X8_findAlike_3 k31 k39 a0 x1 x2 x3 hp n) x4 := rfl
set_option maxHeartbeats 4000000 in
set_option maxRecDepth 100000 in
theorem wl_X8_findAlike_3 {P : zX} {ro : Nat → Nat} {sz : Nat} (C : zC P cX8_findAlike RX8 (some .boolean) 4 0 0 5 ro) {a0 : Nat} {x1 : Int32} {x2 : Int32} {x3 : Int32} {hp : zHp} {k31 : Option Int32} (hk31 : zG P (zoP sz hp) (k31) 31 [] [] hp sz 0 0) {k39 : Option Int32} (hk39 : zG P (zoP sz hp) (k39) 39 [] [] hp sz 0 0) : ∀ (n : Nat) (x4 : Int32), zG P (zoP sz hp) (l_X8_findAlike_3 k31 k39 a0 x1 x2 x3 hp n x4) 3 [(0, .ref a0), (1, .int x1), (2, .int x2), (3, .int x3), (4, .int x4)] [] hp sz 0 0 := by
  intro n
  induction n with
  | zero =>
    intro x4
    show zG P (zoP sz hp) none _ _ _ _ _ _ _
    exact z_none
  | succ n ih =>
    intro x4
    show zG P (zoP sz hp) (b_X8_findAlike_3 k31 k39 a0 x1 x2 x3 hp (l_X8_findAlike_3 k31 k39 a0 x1 x2 x3 hp n) x4) _ _ _ _ _ _ _
    unfold b_X8_findAlike_3
    refine z_iload C dX8_findAlike_3 4 rfl ?_
    refine z_aload_n C dX8_findAlike_5 0 rfl ?_
    refine z_callVp C zc_X8_59 [] (fun l D tc b0 r h => m_X8_piles l D tc ro b0 h) dX8_findAlike_6 rfl rfl (Nat.le_of_ble_eq_true rfl) (by decide) (by decide) ⟨Nat.le_of_ble_eq_true rfl, Nat.le_of_ble_eq_true rfl⟩ (fun v1 => ?_)
    refine z_icmp_ge C 39 dX8_findAlike_9 (by decide) ?_ ?_
    · refine z_aload_n C dX8_findAlike_12 0 rfl ?_
      refine z_iload_n C dX8_findAlike_13 1 rfl ?_
      refine z_iload_n C dX8_findAlike_14 3 rfl ?_
      refine z_iload C dX8_findAlike_15 4 rfl ?_
      refine z_callVp C zc_X8_274 [.int x1, .int x3, .int x4] (fun l D tc b0 r h => m_X8_finds l D tc ro b0 h) dX8_findAlike_17 rfl rfl (Nat.le_of_ble_eq_true rfl) (by decide) (by decide) ⟨Nat.le_of_ble_eq_true rfl, Nat.le_of_ble_eq_true rfl⟩ (fun v2 => ?_)
      refine z_aload_n C dX8_findAlike_20 0 rfl ?_
      refine z_iload_n C dX8_findAlike_21 2 rfl ?_
      refine z_iload_n C dX8_findAlike_22 3 rfl ?_
      refine z_iload C dX8_findAlike_23 4 rfl ?_
      refine z_callVp C zc_X8_274 [.int x2, .int x3, .int x4] (fun l D tc b0 r h => m_X8_finds l D tc ro b0 h) dX8_findAlike_25 rfl rfl (Nat.le_of_ble_eq_true rfl) (by decide) (by decide) ⟨Nat.le_of_ble_eq_true rfl, Nat.le_of_ble_eq_true rfl⟩ (fun v3 => ?_)
      refine z_icmp_eq C 33 dX8_findAlike_28 (by decide) ?_ ?_
      · refine z_iincL C 4 (fun v4 => [(0, .ref a0), (1, .int x1), (2, .int x2), (3, .int x3), (4, .int v4)]) dX8_findAlike_33 rfl zi_1 (by decide) (fun _ => rfl) (fun v4 => ?_)
        refine z_goto C 3 dX8_findAlike_36 (by decide) ?_
        exact ih _
      exact z_sub [] rfl (hk31)
    exact z_sub [] rfl (hk39)
noncomputable def f_X8_findAlike (a0 : Nat) (x1 : Int32) (x2 : Int32) (x3 : Int32) (hp : zHp) : Option Int32 :=
  (zis hp a0 8).bind fun _ => l_X8_findAlike_3 (some (0 : Int32)) (some (1 : Int32)) a0 x1 x2 x3 hp 1000000 (0 : Int32)
set_option maxHeartbeats 4000000 in
set_option maxRecDepth 100000 in
theorem m_X8_findAlike (l : Launch) (D : va_G) (tc : Nat → ClassId) (ro : Nat → Nat) (b0 : Nat) {a0 : Nat} {x1 : Int32} {x2 : Int32} {x3 : Int32} {hp : zHp} {sz : Nat} {r : Int32} (h : f_X8_findAlike a0 x1 x2 x3 hp = some r) : zis hp a0 8 = some () ∧ zM l yX8_findAlike cX8_findAlike 5 (some .boolean) 4 0 0 [.ref a0, .int x1, .int x2, .int x3] D tc ro b0 hp sz ((zoP sz hp) r).1 ((zoP sz hp) r).2.1 ((zoP sz hp) r).2.2 := by
  refine ⟨?_, z_start (o := (zoP sz hp)) (lv := [(0, .ref a0), (1, .int x1), (2, .int x2), (3, .int x3)]) h (by decide +kernel) RX8 rfl rfl (Nat.le_of_ble_eq_true rfl) (fun P C => ?_)⟩
  · unfold f_X8_findAlike at h
    cases hc : zis hp a0 8 with
    | none => rw [hc] at h; cases h
    | some u => rfl
  unfold f_X8_findAlike
  refine z_is ?_
  refine z_iconst C dX8_findAlike_0 zi_0 ?_
  refine z_istore (lv' := [(0, .ref a0), (1, .int x1), (2, .int x2), (3, .int x3), (4, .int (0 : Int32))]) C dX8_findAlike_1 (by decide) rfl ?_
  refine wl_X8_findAlike_3 C ?_ ?_ _ _
  · refine z_iconst C dX8_findAlike_31 zi_0 ?_
    exact z_kreturnP C rfl dX8_findAlike_32
  refine z_iconst C dX8_findAlike_39 zi_1 ?_
  exact z_kreturnP C rfl dX8_findAlike_40
noncomputable def b_X8_isOneEnough_13 (k33 : Option Int32) (k41 : Option Int32) (a0 : Nat) (x1 : Int32) (x2 : Int32) (hp : zHp) (rec : Int32 → Option Int32) (x3 : Int32) : Option Int32 :=
  (f_X8_of a0 x1 (3 : Int32) hp).bind fun v2 => if x3 < v2 then ((f_X8_wouldAgree a0 x2 x1 x3 hp).bind fun v3 => if v3 = 0 then (zlet (x3 + (1 : Int32)) fun v4 => rec v4) else k33) else k41
noncomputable def l_X8_isOneEnough_13 (k33 : Option Int32) (k41 : Option Int32) (a0 : Nat) (x1 : Int32) (x2 : Int32) (hp : zHp) (n : Nat) : Int32 → Option Int32 :=
  Nat.rec (motive := fun _ => Int32 → Option Int32) (fun _ => none) (fun _ rec => b_X8_isOneEnough_13 k33 k41 a0 x1 x2 hp rec) n
theorem l_X8_isOneEnough_13_s (k33 : Option Int32) (k41 : Option Int32) (a0 : Nat) (x1 : Int32) (x2 : Int32) (hp : zHp) (n : Nat) (x3 : Int32) : l_X8_isOneEnough_13 k33 k41 a0 x1 x2 hp (n + 1) x3 = b_X8_isOneEnough_13 k33 k41 a0 x1 x2 hp (l_X8_isOneEnough_13 k33 k41 a0 x1 x2 hp n) x3 := rfl
set_option maxHeartbeats 4000000 in
set_option maxRecDepth 100000 in
theorem wl_X8_isOneEnough_13 {P : zX} {ro : Nat → Nat} {sz : Nat} (C : zC P cX8_isOneEnough RX8 (some .boolean) 5 0 0 4 ro) {a0 : Nat} {x1 : Int32} {x2 : Int32} {hp : zHp} {k33 : Option Int32} (hk33 : zG P (zoP sz hp) (k33) 33 [] [] hp sz 0 0) {k41 : Option Int32} (hk41 : zG P (zoP sz hp) (k41) 41 [(0, .ref a0), (1, .int x1), (2, .int x2)] [] hp sz 0 0) : ∀ (n : Nat) (x3 : Int32), zG P (zoP sz hp) (l_X8_isOneEnough_13 k33 k41 a0 x1 x2 hp n x3) 13 [(0, .ref a0), (1, .int x1), (2, .int x2), (3, .int x3)] [] hp sz 0 0 := by
  intro n
  induction n with
  | zero =>
    intro x3
    show zG P (zoP sz hp) none _ _ _ _ _ _ _
    exact z_none
  | succ n ih =>
    intro x3
    show zG P (zoP sz hp) (b_X8_isOneEnough_13 k33 k41 a0 x1 x2 hp (l_X8_isOneEnough_13 k33 k41 a0 x1 x2 hp n) x3) _ _ _ _ _ _ _
    unfold b_X8_isOneEnough_13
    refine z_iload_n C dX8_isOneEnough_13 3 rfl ?_
    refine z_aload_n C dX8_isOneEnough_14 0 rfl ?_
    refine z_iload_n C dX8_isOneEnough_15 1 rfl ?_
    refine z_iconst C dX8_isOneEnough_16 zi_3 ?_
    refine z_callVp C zc_X8_48 [.int x1, .int (3 : Int32)] (fun l D tc b0 r h => m_X8_of l D tc ro b0 h) dX8_isOneEnough_17 rfl rfl (Nat.le_of_ble_eq_true rfl) (by decide) (by decide) ⟨Nat.le_of_ble_eq_true rfl, Nat.le_of_ble_eq_true rfl⟩ (fun v2 => ?_)
    refine z_icmp_ge C 41 dX8_isOneEnough_20 (by decide) ?_ ?_
    · refine z_aload_n C dX8_isOneEnough_23 0 rfl ?_
      refine z_iload_n C dX8_isOneEnough_24 2 rfl ?_
      refine z_iload_n C dX8_isOneEnough_25 1 rfl ?_
      refine z_iload_n C dX8_isOneEnough_26 3 rfl ?_
      refine z_callVp C zc_X8_280 [.int x2, .int x1, .int x3] (fun l D tc b0 r h => m_X8_wouldAgree l D tc ro b0 h) dX8_isOneEnough_27 rfl rfl (Nat.le_of_ble_eq_true rfl) (by decide) (by decide) ⟨Nat.le_of_ble_eq_true rfl, Nat.le_of_ble_eq_true rfl⟩ (fun v3 => ?_)
      refine z_if_eq C 35 dX8_isOneEnough_30 (by decide) ?_ ?_
      · refine z_iincL C 3 (fun v4 => [(0, .ref a0), (1, .int x1), (2, .int x2), (3, .int v4)]) dX8_isOneEnough_35 rfl zi_1 (by decide) (fun _ => rfl) (fun v4 => ?_)
        refine z_goto C 13 dX8_isOneEnough_38 (by decide) ?_
        exact ih _
      exact z_sub [] rfl (hk33)
    exact z_sub [0, 1, 2] rfl (hk41)
noncomputable def b_X8_isOneEnough_2 (k33 : Option Int32) (k47 : Option Int32) (a0 : Nat) (x1 : Int32) (hp : zHp) (rec : Int32 → Option Int32) (x2 : Int32) : Option Int32 :=
  (f_X8_many a0 (4 : Int32) hp).bind fun v1 => if x2 < v1 then (l_X8_isOneEnough_13 (k33) (zlet (x2 + (1 : Int32)) fun v5 => rec v5) a0 x1 x2 hp 1000000 (0 : Int32)) else k47
noncomputable def l_X8_isOneEnough_2 (k33 : Option Int32) (k47 : Option Int32) (a0 : Nat) (x1 : Int32) (hp : zHp) (n : Nat) : Int32 → Option Int32 :=
  Nat.rec (motive := fun _ => Int32 → Option Int32) (fun _ => none) (fun _ rec => b_X8_isOneEnough_2 k33 k47 a0 x1 hp rec) n
theorem l_X8_isOneEnough_2_s (k33 : Option Int32) (k47 : Option Int32) (a0 : Nat) (x1 : Int32) (hp : zHp) (n : Nat) (x2 : Int32) : l_X8_isOneEnough_2 k33 k47 a0 x1 hp (n + 1) x2 = b_X8_isOneEnough_2 k33 k47 a0 x1 hp (l_X8_isOneEnough_2 k33 k47 a0 x1 hp n) x2 := rfl
set_option maxHeartbeats 4000000 in
set_option maxRecDepth 100000 in
theorem wl_X8_isOneEnough_2 {P : zX} {ro : Nat → Nat} {sz : Nat} (C : zC P cX8_isOneEnough RX8 (some .boolean) 5 0 0 4 ro) {a0 : Nat} {x1 : Int32} {hp : zHp} {k33 : Option Int32} (hk33 : zG P (zoP sz hp) (k33) 33 [] [] hp sz 0 0) {k47 : Option Int32} (hk47 : zG P (zoP sz hp) (k47) 47 [] [] hp sz 0 0) : ∀ (n : Nat) (x2 : Int32), zG P (zoP sz hp) (l_X8_isOneEnough_2 k33 k47 a0 x1 hp n x2) 2 [(0, .ref a0), (1, .int x1), (2, .int x2)] [] hp sz 0 0 := by
  intro n
  induction n with
  | zero =>
    intro x2
    show zG P (zoP sz hp) none _ _ _ _ _ _ _
    exact z_none
  | succ n ih =>
    intro x2
    show zG P (zoP sz hp) (b_X8_isOneEnough_2 k33 k47 a0 x1 hp (l_X8_isOneEnough_2 k33 k47 a0 x1 hp n) x2) _ _ _ _ _ _ _
    unfold b_X8_isOneEnough_2
    refine z_iload_n C dX8_isOneEnough_2 2 rfl ?_
    refine z_aload_n C dX8_isOneEnough_3 0 rfl ?_
    refine z_iconst C dX8_isOneEnough_4 zi_4 ?_
    refine z_callVp C zc_X8_44 [.int (4 : Int32)] (fun l D tc b0 r h => m_X8_many l D tc ro b0 h) dX8_isOneEnough_5 rfl rfl (Nat.le_of_ble_eq_true rfl) (by decide) (by decide) ⟨Nat.le_of_ble_eq_true rfl, Nat.le_of_ble_eq_true rfl⟩ (fun v1 => ?_)
    refine z_icmp_ge C 47 dX8_isOneEnough_8 (by decide) ?_ ?_
    · refine z_iconst C dX8_isOneEnough_11 zi_0 ?_
      refine z_istore_n (lv' := [(0, .ref a0), (1, .int x1), (2, .int x2), (3, .int (0 : Int32))]) C dX8_isOneEnough_12 (by decide) rfl ?_
      refine wl_X8_isOneEnough_13 C ?_ ?_ _ _
      · exact hk33
      refine z_iincL C 2 (fun v5 => [(0, .ref a0), (1, .int x1), (2, .int v5)]) dX8_isOneEnough_41 rfl zi_1 (by decide) (fun _ => rfl) (fun v5 => ?_)
      refine z_goto C 2 dX8_isOneEnough_44 (by decide) ?_
      exact ih _
    exact z_sub [] rfl (hk47)
noncomputable def f_X8_isOneEnough (a0 : Nat) (x1 : Int32) (hp : zHp) : Option Int32 :=
  (zis hp a0 8).bind fun _ => l_X8_isOneEnough_2 (some (1 : Int32)) (some (0 : Int32)) a0 x1 hp 1000000 (0 : Int32)
set_option maxHeartbeats 4000000 in
set_option maxRecDepth 100000 in
theorem m_X8_isOneEnough (l : Launch) (D : va_G) (tc : Nat → ClassId) (ro : Nat → Nat) (b0 : Nat) {a0 : Nat} {x1 : Int32} {hp : zHp} {sz : Nat} {r : Int32} (h : f_X8_isOneEnough a0 x1 hp = some r) : zis hp a0 8 = some () ∧ zM l yX8_isOneEnough cX8_isOneEnough 4 (some .boolean) 5 0 0 [.ref a0, .int x1] D tc ro b0 hp sz ((zoP sz hp) r).1 ((zoP sz hp) r).2.1 ((zoP sz hp) r).2.2 := by
  refine ⟨?_, z_start (o := (zoP sz hp)) (lv := [(0, .ref a0), (1, .int x1)]) h (by decide +kernel) RX8 rfl rfl (Nat.le_of_ble_eq_true rfl) (fun P C => ?_)⟩
  · unfold f_X8_isOneEnough at h
    cases hc : zis hp a0 8 with
    | none => rw [hc] at h; cases h
    | some u => rfl
  unfold f_X8_isOneEnough
  refine z_is ?_
  refine z_iconst C dX8_isOneEnough_0 zi_0 ?_
  refine z_istore_n (lv' := [(0, .ref a0), (1, .int x1), (2, .int (0 : Int32))]) C dX8_isOneEnough_1 (by decide) rfl ?_
  refine wl_X8_isOneEnough_2 C ?_ ?_ _ _
  · refine z_iconst C dX8_isOneEnough_33 zi_1 ?_
    exact z_kreturnP C rfl dX8_isOneEnough_34
  refine z_iconst C dX8_isOneEnough_47 zi_0 ?_
  exact z_kreturnP C rfl dX8_isOneEnough_48
noncomputable def b_X8_areTwoEnough_13 (k28 : Option Int32) (k36 : Option Int32) (a0 : Nat) (x1 : Int32) (x2 : Int32) (hp : zHp) (rec : Int32 → Option Int32) (x3 : Int32) : Option Int32 :=
  if x3 < x2 then ((f_X8_findAlike a0 x2 x3 x1 hp).bind fun v2 => if v2 = 0 then (zlet (x3 + (1 : Int32)) fun v3 => rec v3) else k28) else k36
noncomputable def l_X8_areTwoEnough_13 (k28 : Option Int32) (k36 : Option Int32) (a0 : Nat) (x1 : Int32) (x2 : Int32) (hp : zHp) (n : Nat) : Int32 → Option Int32 :=
  Nat.rec (motive := fun _ => Int32 → Option Int32) (fun _ => none) (fun _ rec => b_X8_areTwoEnough_13 k28 k36 a0 x1 x2 hp rec) n
theorem l_X8_areTwoEnough_13_s (k28 : Option Int32) (k36 : Option Int32) (a0 : Nat) (x1 : Int32) (x2 : Int32) (hp : zHp) (n : Nat) (x3 : Int32) : l_X8_areTwoEnough_13 k28 k36 a0 x1 x2 hp (n + 1) x3 = b_X8_areTwoEnough_13 k28 k36 a0 x1 x2 hp (l_X8_areTwoEnough_13 k28 k36 a0 x1 x2 hp n) x3 := rfl
set_option maxHeartbeats 4000000 in
set_option maxRecDepth 100000 in
theorem wl_X8_areTwoEnough_13 {P : zX} {ro : Nat → Nat} {sz : Nat} (C : zC P cX8_areTwoEnough RX8 (some .boolean) 5 0 0 4 ro) {a0 : Nat} {x1 : Int32} {x2 : Int32} {hp : zHp} {k28 : Option Int32} (hk28 : zG P (zoP sz hp) (k28) 28 [] [] hp sz 0 0) {k36 : Option Int32} (hk36 : zG P (zoP sz hp) (k36) 36 [(0, .ref a0), (1, .int x1), (2, .int x2)] [] hp sz 0 0) : ∀ (n : Nat) (x3 : Int32), zG P (zoP sz hp) (l_X8_areTwoEnough_13 k28 k36 a0 x1 x2 hp n x3) 13 [(0, .ref a0), (1, .int x1), (2, .int x2), (3, .int x3)] [] hp sz 0 0 := by
  intro n
  induction n with
  | zero =>
    intro x3
    show zG P (zoP sz hp) none _ _ _ _ _ _ _
    exact z_none
  | succ n ih =>
    intro x3
    show zG P (zoP sz hp) (b_X8_areTwoEnough_13 k28 k36 a0 x1 x2 hp (l_X8_areTwoEnough_13 k28 k36 a0 x1 x2 hp n) x3) _ _ _ _ _ _ _
    unfold b_X8_areTwoEnough_13
    refine z_iload_n C dX8_areTwoEnough_13 3 rfl ?_
    refine z_iload_n C dX8_areTwoEnough_14 2 rfl ?_
    refine z_icmp_ge C 36 dX8_areTwoEnough_15 (by decide) ?_ ?_
    · refine z_aload_n C dX8_areTwoEnough_18 0 rfl ?_
      refine z_iload_n C dX8_areTwoEnough_19 2 rfl ?_
      refine z_iload_n C dX8_areTwoEnough_20 3 rfl ?_
      refine z_iload_n C dX8_areTwoEnough_21 1 rfl ?_
      refine z_callVp C zc_X8_283 [.int x2, .int x3, .int x1] (fun l D tc b0 r h => m_X8_findAlike l D tc ro b0 h) dX8_areTwoEnough_22 rfl rfl (Nat.le_of_ble_eq_true rfl) (by decide) (by decide) ⟨Nat.le_of_ble_eq_true rfl, Nat.le_of_ble_eq_true rfl⟩ (fun v2 => ?_)
      refine z_if_eq C 30 dX8_areTwoEnough_25 (by decide) ?_ ?_
      · refine z_iincL C 3 (fun v3 => [(0, .ref a0), (1, .int x1), (2, .int x2), (3, .int v3)]) dX8_areTwoEnough_30 rfl zi_1 (by decide) (fun _ => rfl) (fun v3 => ?_)
        refine z_goto C 13 dX8_areTwoEnough_33 (by decide) ?_
        exact ih _
      exact z_sub [] rfl (hk28)
    exact z_sub [0, 1, 2] rfl (hk36)
noncomputable def b_X8_areTwoEnough_2 (k28 : Option Int32) (k42 : Option Int32) (a0 : Nat) (x1 : Int32) (hp : zHp) (rec : Int32 → Option Int32) (x2 : Int32) : Option Int32 :=
  (f_X8_many a0 (4 : Int32) hp).bind fun v1 => if x2 < v1 then (l_X8_areTwoEnough_13 (k28) (zlet (x2 + (1 : Int32)) fun v4 => rec v4) a0 x1 x2 hp 1000000 (0 : Int32)) else k42
noncomputable def l_X8_areTwoEnough_2 (k28 : Option Int32) (k42 : Option Int32) (a0 : Nat) (x1 : Int32) (hp : zHp) (n : Nat) : Int32 → Option Int32 :=
  Nat.rec (motive := fun _ => Int32 → Option Int32) (fun _ => none) (fun _ rec => b_X8_areTwoEnough_2 k28 k42 a0 x1 hp rec) n
theorem l_X8_areTwoEnough_2_s (k28 : Option Int32) (k42 : Option Int32) (a0 : Nat) (x1 : Int32) (hp : zHp) (n : Nat) (x2 : Int32) : l_X8_areTwoEnough_2 k28 k42 a0 x1 hp (n + 1) x2 = b_X8_areTwoEnough_2 k28 k42 a0 x1 hp (l_X8_areTwoEnough_2 k28 k42 a0 x1 hp n) x2 := rfl
set_option maxHeartbeats 4000000 in
set_option maxRecDepth 100000 in
theorem wl_X8_areTwoEnough_2 {P : zX} {ro : Nat → Nat} {sz : Nat} (C : zC P cX8_areTwoEnough RX8 (some .boolean) 5 0 0 4 ro) {a0 : Nat} {x1 : Int32} {hp : zHp} {k28 : Option Int32} (hk28 : zG P (zoP sz hp) (k28) 28 [] [] hp sz 0 0) {k42 : Option Int32} (hk42 : zG P (zoP sz hp) (k42) 42 [] [] hp sz 0 0) : ∀ (n : Nat) (x2 : Int32), zG P (zoP sz hp) (l_X8_areTwoEnough_2 k28 k42 a0 x1 hp n x2) 2 [(0, .ref a0), (1, .int x1), (2, .int x2)] [] hp sz 0 0 := by
  intro n
  induction n with
  | zero =>
    intro x2
    show zG P (zoP sz hp) none _ _ _ _ _ _ _
    exact z_none
  | succ n ih =>
    intro x2
    show zG P (zoP sz hp) (b_X8_areTwoEnough_2 k28 k42 a0 x1 hp (l_X8_areTwoEnough_2 k28 k42 a0 x1 hp n) x2) _ _ _ _ _ _ _
    unfold b_X8_areTwoEnough_2
    refine z_iload_n C dX8_areTwoEnough_2 2 rfl ?_
    refine z_aload_n C dX8_areTwoEnough_3 0 rfl ?_
    refine z_iconst C dX8_areTwoEnough_4 zi_4 ?_
    refine z_callVp C zc_X8_44 [.int (4 : Int32)] (fun l D tc b0 r h => m_X8_many l D tc ro b0 h) dX8_areTwoEnough_5 rfl rfl (Nat.le_of_ble_eq_true rfl) (by decide) (by decide) ⟨Nat.le_of_ble_eq_true rfl, Nat.le_of_ble_eq_true rfl⟩ (fun v1 => ?_)
    refine z_icmp_ge C 42 dX8_areTwoEnough_8 (by decide) ?_ ?_
    · refine z_iconst C dX8_areTwoEnough_11 zi_0 ?_
      refine z_istore_n (lv' := [(0, .ref a0), (1, .int x1), (2, .int x2), (3, .int (0 : Int32))]) C dX8_areTwoEnough_12 (by decide) rfl ?_
      refine wl_X8_areTwoEnough_13 C ?_ ?_ _ _
      · exact hk28
      refine z_iincL C 2 (fun v4 => [(0, .ref a0), (1, .int x1), (2, .int v4)]) dX8_areTwoEnough_36 rfl zi_1 (by decide) (fun _ => rfl) (fun v4 => ?_)
      refine z_goto C 2 dX8_areTwoEnough_39 (by decide) ?_
      exact ih _
    exact z_sub [] rfl (hk42)
noncomputable def f_X8_areTwoEnough (a0 : Nat) (x1 : Int32) (hp : zHp) : Option Int32 :=
  (zis hp a0 8).bind fun _ => l_X8_areTwoEnough_2 (some (1 : Int32)) (some (0 : Int32)) a0 x1 hp 1000000 (0 : Int32)
set_option maxHeartbeats 4000000 in
set_option maxRecDepth 100000 in
theorem m_X8_areTwoEnough (l : Launch) (D : va_G) (tc : Nat → ClassId) (ro : Nat → Nat) (b0 : Nat) {a0 : Nat} {x1 : Int32} {hp : zHp} {sz : Nat} {r : Int32} (h : f_X8_areTwoEnough a0 x1 hp = some r) : zis hp a0 8 = some () ∧ zM l yX8_areTwoEnough cX8_areTwoEnough 4 (some .boolean) 5 0 0 [.ref a0, .int x1] D tc ro b0 hp sz ((zoP sz hp) r).1 ((zoP sz hp) r).2.1 ((zoP sz hp) r).2.2 := by
  refine ⟨?_, z_start (o := (zoP sz hp)) (lv := [(0, .ref a0), (1, .int x1)]) h (by decide +kernel) RX8 rfl rfl (Nat.le_of_ble_eq_true rfl) (fun P C => ?_)⟩
  · unfold f_X8_areTwoEnough at h
    cases hc : zis hp a0 8 with
    | none => rw [hc] at h; cases h
    | some u => rfl
  unfold f_X8_areTwoEnough
  refine z_is ?_
  refine z_iconst C dX8_areTwoEnough_0 zi_0 ?_
  refine z_istore_n (lv' := [(0, .ref a0), (1, .int x1), (2, .int (0 : Int32))]) C dX8_areTwoEnough_1 (by decide) rfl ?_
  refine wl_X8_areTwoEnough_2 C ?_ ?_ _ _
  · refine z_iconst C dX8_areTwoEnough_28 zi_1 ?_
    exact z_kreturnP C rfl dX8_areTwoEnough_29
  refine z_iconst C dX8_areTwoEnough_42 zi_0 ?_
  exact z_kreturnP C rfl dX8_areTwoEnough_43
noncomputable def j_X8_countsLeft_48 (a0 : Nat) (x1 : Int32) (x2 : Int32) (h : zHp) : Option (Int32 × zHp) :=
  if (4 : Int32) < (x2 + (2 : Int32)) then (some ((-1 : Int32), h)) else (f_X8_areTwoEnough a0 x1 h).bind fun v6 => if v6 = 0 then (some ((-1 : Int32), h)) else some ((2 : Int32), h)
set_option maxHeartbeats 4000000 in
set_option maxRecDepth 100000 in
theorem wj_X8_countsLeft_48 {P : zX} {ro : Nat → Nat} {sz : Nat} (C : zC P cX8_countsLeft RX8 (some .int) 6 0 0 3 ro) {a0 : Nat} {x1 : Int32} {x2 : Int32} {h : zHp}  : zG P (zoI sz) (j_X8_countsLeft_48 a0 x1 x2 h) 48 [(0, .ref a0), (1, .int x1), (2, .int x2)] [] h sz 0 0 := by
  unfold j_X8_countsLeft_48
  refine z_iload_n C dX8_countsLeft_48 2 rfl ?_
  refine z_iconst C dX8_countsLeft_49 zi_2 ?_
  refine z_iadd C dX8_countsLeft_50 ?_
  refine z_iconst C dX8_countsLeft_51 zi_4 ?_
  refine z_icmp_gt C 67 dX8_countsLeft_52 (by decide) ?_ ?_
  · refine z_iconst C dX8_countsLeft_67 zi_m1 ?_
    exact z_ireturn C dX8_countsLeft_68
  refine z_aload_n C dX8_countsLeft_55 0 rfl ?_
  refine z_iload_n C dX8_countsLeft_56 1 rfl ?_
  refine z_callVp C zc_X8_289 [.int x1] (fun l D tc b0 r h => m_X8_areTwoEnough l D tc ro b0 h) dX8_countsLeft_57 rfl rfl (Nat.le_of_ble_eq_true rfl) (by decide) (by decide) ⟨Nat.le_of_ble_eq_true rfl, Nat.le_of_ble_eq_true rfl⟩ (fun v6 => ?_)
  refine z_if_eq C 67 dX8_countsLeft_60 (by decide) ?_ ?_
  · refine z_iconst C dX8_countsLeft_67 zi_m1 ?_
    exact z_ireturn C dX8_countsLeft_68
  refine z_iconst C dX8_countsLeft_63 zi_2 ?_
  refine z_goto C 68 dX8_countsLeft_64 (by decide) ?_
  exact z_ireturn C dX8_countsLeft_68
noncomputable def f_X8_countsLeft (a0 : Nat) (x1 : Int32) (hp : zHp) : Option (Int32 × zHp) :=
  (zis hp a0 8).bind fun _ => (f_X8_is a0 (3 : Int32) x1 hp).bind fun v1 => zb2 (f_X8_checks a0 v1 hp) fun v2 h3 => if v2 = 0 then (some ((0 : Int32), h3)) else (f_X8_confirmed a0 x1 h3).bind fun v4 => if v4 = (-1 : Int32) then ((f_X8_of a0 x1 (3 : Int32) h3).bind fun v5 => if v5 < (4 : Int32) then ((f_X8_isOneEnough a0 x1 h3).bind fun v7 => if v7 = 0 then (j_X8_countsLeft_48 a0 x1 v5 h3) else some ((1 : Int32), h3)) else j_X8_countsLeft_48 a0 x1 v5 h3) else some ((0 : Int32), h3)
set_option maxHeartbeats 4000000 in
set_option maxRecDepth 100000 in
theorem m_X8_countsLeft (l : Launch) (D : va_G) (tc : Nat → ClassId) (ro : Nat → Nat) (b0 : Nat) {a0 : Nat} {x1 : Int32} {hp : zHp} {sz : Nat} {r : (Int32 × zHp)} (h : f_X8_countsLeft a0 x1 hp = some r) : zis hp a0 8 = some () ∧ zM l yX8_countsLeft cX8_countsLeft 3 (some .int) 6 0 0 [.ref a0, .int x1] D tc ro b0 hp sz ((zoI sz) r).1 ((zoI sz) r).2.1 ((zoI sz) r).2.2 := by
  refine ⟨?_, z_start (o := (zoI sz)) (lv := [(0, .ref a0), (1, .int x1)]) h (by decide +kernel) RX8 rfl rfl (Nat.le_of_ble_eq_true rfl) (fun P C => ?_)⟩
  · unfold f_X8_countsLeft at h
    cases hc : zis hp a0 8 with
    | none => rw [hc] at h; cases h
    | some u => rfl
  unfold f_X8_countsLeft
  refine z_is ?_
  refine z_aload_n C dX8_countsLeft_0 0 rfl ?_
  refine z_aload_n C dX8_countsLeft_1 0 rfl ?_
  refine z_iconst C dX8_countsLeft_2 zi_3 ?_
  refine z_iload_n C dX8_countsLeft_3 1 rfl ?_
  refine z_callVp C zc_X8_255 [.int (3 : Int32), .int x1] (fun l D tc b0 r h => m_X8_is l D tc ro b0 h) dX8_countsLeft_4 rfl rfl (Nat.le_of_ble_eq_true rfl) (by decide) (by decide) ⟨Nat.le_of_ble_eq_true rfl, Nat.le_of_ble_eq_true rfl⟩ (fun v1 => ?_)
  refine z_callVi C zc_X8_258 [.int v1] (fun l D tc b0 r h => m_X8_checks l D tc ro b0 h) dX8_countsLeft_7 rfl rfl (Nat.le_of_ble_eq_true rfl) (by decide) (by decide) ⟨Nat.le_of_ble_eq_true rfl, Nat.le_of_ble_eq_true rfl⟩ (fun v2 h3 => ?_)
  refine z_if_ne C 15 dX8_countsLeft_10 (by decide) ?_ ?_
  · refine z_iconst C dX8_countsLeft_13 zi_0 ?_
    exact z_ireturn C dX8_countsLeft_14
  refine z_aload_n C dX8_countsLeft_15 0 rfl ?_
  refine z_iload_n C dX8_countsLeft_16 1 rfl ?_
  refine z_callVp C zc_X8_77 [.int x1] (fun l D tc b0 r h => m_X8_confirmed l D tc ro b0 h) dX8_countsLeft_17 rfl rfl (Nat.le_of_ble_eq_true rfl) (by decide) (by decide) ⟨Nat.le_of_ble_eq_true rfl, Nat.le_of_ble_eq_true rfl⟩ (fun v4 => ?_)
  refine z_iconst C dX8_countsLeft_20 zi_m1 ?_
  refine z_icmp_eq C 26 dX8_countsLeft_21 (by decide) ?_ ?_
  · refine z_aload_n C dX8_countsLeft_26 0 rfl ?_
    refine z_iload_n C dX8_countsLeft_27 1 rfl ?_
    refine z_iconst C dX8_countsLeft_28 zi_3 ?_
    refine z_callVp C zc_X8_48 [.int x1, .int (3 : Int32)] (fun l D tc b0 r h => m_X8_of l D tc ro b0 h) dX8_countsLeft_29 rfl rfl (Nat.le_of_ble_eq_true rfl) (by decide) (by decide) ⟨Nat.le_of_ble_eq_true rfl, Nat.le_of_ble_eq_true rfl⟩ (fun v5 => ?_)
    refine z_istore_n (lv' := [(0, .ref a0), (1, .int x1), (2, .int v5)]) C dX8_countsLeft_32 (by decide) rfl ?_
    refine z_iload_n C dX8_countsLeft_33 2 rfl ?_
    refine z_iconst C dX8_countsLeft_34 zi_4 ?_
    refine z_icmp_ge C 48 dX8_countsLeft_35 (by decide) ?_ ?_
    · refine z_aload_n C dX8_countsLeft_38 0 rfl ?_
      refine z_iload_n C dX8_countsLeft_39 1 rfl ?_
      refine z_callVp C zc_X8_286 [.int x1] (fun l D tc b0 r h => m_X8_isOneEnough l D tc ro b0 h) dX8_countsLeft_40 rfl rfl (Nat.le_of_ble_eq_true rfl) (by decide) (by decide) ⟨Nat.le_of_ble_eq_true rfl, Nat.le_of_ble_eq_true rfl⟩ (fun v7 => ?_)
      refine z_if_eq C 48 dX8_countsLeft_43 (by decide) ?_ ?_
      · exact wj_X8_countsLeft_48 C
      refine z_iconst C dX8_countsLeft_46 zi_1 ?_
      exact z_ireturn C dX8_countsLeft_47
    exact wj_X8_countsLeft_48 C
  refine z_iconst C dX8_countsLeft_24 zi_0 ?_
  exact z_ireturn C dX8_countsLeft_25
noncomputable def j_X8_rightTable_66 (k74 : Int32 → Option (Int32 × zHp)) (rec : Int32 → Int32 → Option (Int32 × zHp)) (a0 : Nat) (x1 : Int32) (x2 : Int32) (x4 : Int32) (h : zHp) : Option (Int32 × zHp) :=
  zlet (x4 + (1 : Int32)) fun v6 => rec (0 : Int32) v6
set_option maxHeartbeats 4000000 in
set_option maxRecDepth 100000 in
theorem wj_X8_rightTable_66 {P : zX} {ro : Nat → Nat} {sz : Nat} (C : zC P cX8_rightTable RX8 (some .int) 4 0 0 5 ro) {a0 : Nat} {x1 : Int32} {x2 : Int32} {x4 : Int32} {h : zHp} {k74 : Int32 → Option (Int32 × zHp)} (hk74 : ∀ (x3 : Int32), zG P (zoI sz) (k74 x3) 74 [(0, .ref a0), (1, .int x1), (2, .int x2), (3, .int x3)] [] h sz 0 0) {rec : Int32 → Int32 → Option (Int32 × zHp)} (hrec : ∀ (x3 : Int32) (x4 : Int32), zG P (zoI sz) (rec x3 x4) 31 [(0, .ref a0), (1, .int x1), (2, .int x2), (3, .int x3), (4, .int x4)] [] h sz 0 0) : zG P (zoI sz) (j_X8_rightTable_66 k74 rec a0 x1 x2 x4 h) 66 [(0, .ref a0), (1, .int x1), (2, .int x2), (4, .int x4)] [] h sz 0 0 := by
  unfold j_X8_rightTable_66
  refine z_iconst C dX8_rightTable_66 zi_0 ?_
  refine z_istore_n (lv' := [(0, .ref a0), (1, .int x1), (2, .int x2), (3, .int (0 : Int32)), (4, .int x4)]) C dX8_rightTable_67 (by decide) rfl ?_
  refine z_iincL C 4 (fun v6 => [(0, .ref a0), (1, .int x1), (2, .int x2), (3, .int (0 : Int32)), (4, .int v6)]) dX8_rightTable_68 rfl zi_1 (by decide) (fun _ => rfl) (fun v6 => ?_)
  refine z_goto C 31 dX8_rightTable_71 (by decide) ?_
  exact hrec _ _
noncomputable def b_X8_rightTable_31 (k74 : Int32 → Option (Int32 × zHp)) (a0 : Nat) (x1 : Int32) (x2 : Int32) (h : zHp) (rec : Int32 → Int32 → Option (Int32 × zHp)) (x3 : Int32) (x4 : Int32) : Option (Int32 × zHp) :=
  (f_X8_piles a0 h).bind fun v5 => if x4 < v5 then (if x3 = 0 then (j_X8_rightTable_66 k74 rec a0 x1 x2 x4 h) else (f_X8_finds a0 x2 x1 x4 h).bind fun v7 => (f_X8_paper a0 x1 x4 h).bind fun v8 => if v7 = v8 then (zlet (x4 + (1 : Int32)) fun v9 => rec (1 : Int32) v9) else j_X8_rightTable_66 k74 rec a0 x1 x2 x4 h) else k74 x3
noncomputable def l_X8_rightTable_31 (k74 : Int32 → Option (Int32 × zHp)) (a0 : Nat) (x1 : Int32) (x2 : Int32) (h : zHp) (n : Nat) : Int32 → Int32 → Option (Int32 × zHp) :=
  Nat.rec (motive := fun _ => Int32 → Int32 → Option (Int32 × zHp)) (fun _ _ => none) (fun _ rec => b_X8_rightTable_31 k74 a0 x1 x2 h rec) n
theorem l_X8_rightTable_31_s (k74 : Int32 → Option (Int32 × zHp)) (a0 : Nat) (x1 : Int32) (x2 : Int32) (h : zHp) (n : Nat) (x3 : Int32) (x4 : Int32) : l_X8_rightTable_31 k74 a0 x1 x2 h (n + 1) x3 x4 = b_X8_rightTable_31 k74 a0 x1 x2 h (l_X8_rightTable_31 k74 a0 x1 x2 h n) x3 x4 := rfl
set_option maxHeartbeats 4000000 in
set_option maxRecDepth 100000 in
theorem wl_X8_rightTable_31 {P : zX} {ro : Nat → Nat} {sz : Nat} (C : zC P cX8_rightTable RX8 (some .int) 4 0 0 5 ro) {a0 : Nat} {x1 : Int32} {x2 : Int32} {h : zHp} {k74 : Int32 → Option (Int32 × zHp)} (hk74 : ∀ (x3 : Int32), zG P (zoI sz) (k74 x3) 74 [(0, .ref a0), (1, .int x1), (2, .int x2), (3, .int x3)] [] h sz 0 0) : ∀ (n : Nat) (x3 : Int32) (x4 : Int32), zG P (zoI sz) (l_X8_rightTable_31 k74 a0 x1 x2 h n x3 x4) 31 [(0, .ref a0), (1, .int x1), (2, .int x2), (3, .int x3), (4, .int x4)] [] h sz 0 0 := by
  intro n
  induction n with
  | zero =>
    intro x3 x4
    show zG P (zoI sz) none _ _ _ _ _ _ _
    exact z_none
  | succ n ih =>
    intro x3 x4
    show zG P (zoI sz) (b_X8_rightTable_31 k74 a0 x1 x2 h (l_X8_rightTable_31 k74 a0 x1 x2 h n) x3 x4) _ _ _ _ _ _ _
    unfold b_X8_rightTable_31
    refine z_iload C dX8_rightTable_31 4 rfl ?_
    refine z_aload_n C dX8_rightTable_33 0 rfl ?_
    refine z_callVp C zc_X8_59 [] (fun l D tc b0 r h => m_X8_piles l D tc ro b0 h) dX8_rightTable_34 rfl rfl (Nat.le_of_ble_eq_true rfl) (by decide) (by decide) ⟨Nat.le_of_ble_eq_true rfl, Nat.le_of_ble_eq_true rfl⟩ (fun v5 => ?_)
    refine z_icmp_ge C 74 dX8_rightTable_37 (by decide) ?_ ?_
    · refine z_iload_n C dX8_rightTable_40 3 rfl ?_
      refine z_if_eq C 66 dX8_rightTable_41 (by decide) ?_ ?_
      · exact z_sub [0, 1, 2, 4] rfl (wj_X8_rightTable_66 C hk74 ih)
      refine z_aload_n C dX8_rightTable_44 0 rfl ?_
      refine z_iload_n C dX8_rightTable_45 2 rfl ?_
      refine z_iload_n C dX8_rightTable_46 1 rfl ?_
      refine z_iload C dX8_rightTable_47 4 rfl ?_
      refine z_callVp C zc_X8_274 [.int x2, .int x1, .int x4] (fun l D tc b0 r h => m_X8_finds l D tc ro b0 h) dX8_rightTable_49 rfl rfl (Nat.le_of_ble_eq_true rfl) (by decide) (by decide) ⟨Nat.le_of_ble_eq_true rfl, Nat.le_of_ble_eq_true rfl⟩ (fun v7 => ?_)
      refine z_aload_n C dX8_rightTable_52 0 rfl ?_
      refine z_iload_n C dX8_rightTable_53 1 rfl ?_
      refine z_iload C dX8_rightTable_54 4 rfl ?_
      refine z_callVp C zc_X8_56 [.int x1, .int x4] (fun l D tc b0 r h => m_X8_paper l D tc ro b0 h) dX8_rightTable_56 rfl rfl (Nat.le_of_ble_eq_true rfl) (by decide) (by decide) ⟨Nat.le_of_ble_eq_true rfl, Nat.le_of_ble_eq_true rfl⟩ (fun v8 => ?_)
      refine z_icmp_ne C 66 dX8_rightTable_59 (by decide) ?_ ?_
      · refine z_iconst C dX8_rightTable_62 zi_1 ?_
        refine z_goto C 67 dX8_rightTable_63 (by decide) ?_
        refine z_istore_n (lv' := [(0, .ref a0), (1, .int x1), (2, .int x2), (3, .int (1 : Int32)), (4, .int x4)]) C dX8_rightTable_67 (by decide) rfl ?_
        refine z_iincL C 4 (fun v9 => [(0, .ref a0), (1, .int x1), (2, .int x2), (3, .int (1 : Int32)), (4, .int v9)]) dX8_rightTable_68 rfl zi_1 (by decide) (fun _ => rfl) (fun v9 => ?_)
        refine z_goto C 31 dX8_rightTable_71 (by decide) ?_
        exact ih _ _
      exact z_sub [0, 1, 2, 4] rfl (wj_X8_rightTable_66 C hk74 ih)
    exact z_sub [0, 1, 2, 3] rfl (hk74 _)
noncomputable def b_X8_rightTable_17 (k78 : Int32 → Option (Int32 × zHp)) (k86 : Option (Int32 × zHp)) (a0 : Nat) (x1 : Int32) (h : zHp) (rec : Int32 → Option (Int32 × zHp)) (x2 : Int32) : Option (Int32 × zHp) :=
  (f_X8_many a0 (4 : Int32) h).bind fun v4 => if x2 < v4 then (l_X8_rightTable_31 (fun p10 => if p10 = 0 then (zlet (x2 + (1 : Int32)) fun v11 => rec v11) else k78 x2) a0 x1 x2 h 1000000 (1 : Int32) (0 : Int32)) else k86
noncomputable def l_X8_rightTable_17 (k78 : Int32 → Option (Int32 × zHp)) (k86 : Option (Int32 × zHp)) (a0 : Nat) (x1 : Int32) (h : zHp) (n : Nat) : Int32 → Option (Int32 × zHp) :=
  Nat.rec (motive := fun _ => Int32 → Option (Int32 × zHp)) (fun _ => none) (fun _ rec => b_X8_rightTable_17 k78 k86 a0 x1 h rec) n
theorem l_X8_rightTable_17_s (k78 : Int32 → Option (Int32 × zHp)) (k86 : Option (Int32 × zHp)) (a0 : Nat) (x1 : Int32) (h : zHp) (n : Nat) (x2 : Int32) : l_X8_rightTable_17 k78 k86 a0 x1 h (n + 1) x2 = b_X8_rightTable_17 k78 k86 a0 x1 h (l_X8_rightTable_17 k78 k86 a0 x1 h n) x2 := rfl
set_option maxHeartbeats 4000000 in
set_option maxRecDepth 100000 in
theorem wl_X8_rightTable_17 {P : zX} {ro : Nat → Nat} {sz : Nat} (C : zC P cX8_rightTable RX8 (some .int) 4 0 0 5 ro) {a0 : Nat} {x1 : Int32} {h : zHp} {k78 : Int32 → Option (Int32 × zHp)} (hk78 : ∀ (x2 : Int32), zG P (zoI sz) (k78 x2) 78 [(2, .int x2)] [] h sz 0 0) {k86 : Option (Int32 × zHp)} (hk86 : zG P (zoI sz) (k86) 86 [] [] h sz 0 0) : ∀ (n : Nat) (x2 : Int32), zG P (zoI sz) (l_X8_rightTable_17 k78 k86 a0 x1 h n x2) 17 [(0, .ref a0), (1, .int x1), (2, .int x2)] [] h sz 0 0 := by
  intro n
  induction n with
  | zero =>
    intro x2
    show zG P (zoI sz) none _ _ _ _ _ _ _
    exact z_none
  | succ n ih =>
    intro x2
    show zG P (zoI sz) (b_X8_rightTable_17 k78 k86 a0 x1 h (l_X8_rightTable_17 k78 k86 a0 x1 h n) x2) _ _ _ _ _ _ _
    unfold b_X8_rightTable_17
    refine z_iload_n C dX8_rightTable_17 2 rfl ?_
    refine z_aload_n C dX8_rightTable_18 0 rfl ?_
    refine z_iconst C dX8_rightTable_19 zi_4 ?_
    refine z_callVp C zc_X8_44 [.int (4 : Int32)] (fun l D tc b0 r h => m_X8_many l D tc ro b0 h) dX8_rightTable_20 rfl rfl (Nat.le_of_ble_eq_true rfl) (by decide) (by decide) ⟨Nat.le_of_ble_eq_true rfl, Nat.le_of_ble_eq_true rfl⟩ (fun v4 => ?_)
    refine z_icmp_ge C 86 dX8_rightTable_23 (by decide) ?_ ?_
    · refine z_iconst C dX8_rightTable_26 zi_1 ?_
      refine z_istore_n (lv' := [(0, .ref a0), (1, .int x1), (2, .int x2), (3, .int (1 : Int32))]) C dX8_rightTable_27 (by decide) rfl ?_
      refine z_iconst C dX8_rightTable_28 zi_0 ?_
      refine z_istore (lv' := [(0, .ref a0), (1, .int x1), (2, .int x2), (3, .int (1 : Int32)), (4, .int (0 : Int32))]) C dX8_rightTable_29 (by decide) rfl ?_
      refine wl_X8_rightTable_31 C (fun p10 => ?_) _ _ _
      refine z_iload_n C dX8_rightTable_74 3 rfl ?_
      refine z_if_eq C 80 dX8_rightTable_75 (by decide) ?_ ?_
      · refine z_iincL C 2 (fun v11 => [(0, .ref a0), (1, .int x1), (2, .int v11), (3, .int p10)]) dX8_rightTable_80 rfl zi_1 (by decide) (fun _ => rfl) (fun v11 => ?_)
        refine z_goto C 17 dX8_rightTable_83 (by decide) ?_
        exact z_sub [0, 1, 2] rfl (ih _)
      exact z_sub [2] rfl (hk78 _)
    exact z_sub [] rfl (hk86)
noncomputable def f_X8_rightTable (a0 : Nat) (x1 : Int32) (hp : zHp) : Option (Int32 × zHp) :=
  (zis hp a0 8).bind fun _ => (f_X8_is a0 (3 : Int32) x1 hp).bind fun v1 => zb2 (f_X8_checks a0 v1 hp) fun v2 h3 => if v2 = 0 then (some ((0 : Int32), h3)) else l_X8_rightTable_17 (fun p12 => some (p12, h3)) (some ((-1 : Int32), h3)) a0 x1 h3 1000000 (0 : Int32)
set_option maxHeartbeats 4000000 in
set_option maxRecDepth 100000 in
theorem m_X8_rightTable (l : Launch) (D : va_G) (tc : Nat → ClassId) (ro : Nat → Nat) (b0 : Nat) {a0 : Nat} {x1 : Int32} {hp : zHp} {sz : Nat} {r : (Int32 × zHp)} (h : f_X8_rightTable a0 x1 hp = some r) : zis hp a0 8 = some () ∧ zM l yX8_rightTable cX8_rightTable 5 (some .int) 4 0 0 [.ref a0, .int x1] D tc ro b0 hp sz ((zoI sz) r).1 ((zoI sz) r).2.1 ((zoI sz) r).2.2 := by
  refine ⟨?_, z_start (o := (zoI sz)) (lv := [(0, .ref a0), (1, .int x1)]) h (by decide +kernel) RX8 rfl rfl (Nat.le_of_ble_eq_true rfl) (fun P C => ?_)⟩
  · unfold f_X8_rightTable at h
    cases hc : zis hp a0 8 with
    | none => rw [hc] at h; cases h
    | some u => rfl
  unfold f_X8_rightTable
  refine z_is ?_
  refine z_aload_n C dX8_rightTable_0 0 rfl ?_
  refine z_aload_n C dX8_rightTable_1 0 rfl ?_
  refine z_iconst C dX8_rightTable_2 zi_3 ?_
  refine z_iload_n C dX8_rightTable_3 1 rfl ?_
  refine z_callVp C zc_X8_255 [.int (3 : Int32), .int x1] (fun l D tc b0 r h => m_X8_is l D tc ro b0 h) dX8_rightTable_4 rfl rfl (Nat.le_of_ble_eq_true rfl) (by decide) (by decide) ⟨Nat.le_of_ble_eq_true rfl, Nat.le_of_ble_eq_true rfl⟩ (fun v1 => ?_)
  refine z_callVi C zc_X8_258 [.int v1] (fun l D tc b0 r h => m_X8_checks l D tc ro b0 h) dX8_rightTable_7 rfl rfl (Nat.le_of_ble_eq_true rfl) (by decide) (by decide) ⟨Nat.le_of_ble_eq_true rfl, Nat.le_of_ble_eq_true rfl⟩ (fun v2 h3 => ?_)
  refine z_if_ne C 15 dX8_rightTable_10 (by decide) ?_ ?_
  · refine z_iconst C dX8_rightTable_13 zi_0 ?_
    exact z_ireturn C dX8_rightTable_14
  refine z_iconst C dX8_rightTable_15 zi_0 ?_
  refine z_istore_n (lv' := [(0, .ref a0), (1, .int x1), (2, .int (0 : Int32))]) C dX8_rightTable_16 (by decide) rfl ?_
  refine wl_X8_rightTable_17 C (fun p12 => ?_) ?_ _ _
  · refine z_iload_n C dX8_rightTable_78 0 rfl ?_
    exact z_ireturn C dX8_rightTable_79
  refine z_iconst C dX8_rightTable_86 zi_m1 ?_
  exact z_ireturn C dX8_rightTable_87
noncomputable def f_X8_nextWard (a0 : Nat) (hp : zHp) : Option (Int32 × zHp) :=
  (zis hp a0 8).bind fun _ => (zpV hp a0 8 0 (.int (0 : Int32))).bind fun h1 => (f_X8_comes a0 h1).bind fun v2 => some (v2, h1)
set_option maxHeartbeats 4000000 in
set_option maxRecDepth 100000 in
theorem m_X8_nextWard (l : Launch) (D : va_G) (tc : Nat → ClassId) (ro : Nat → Nat) (b0 : Nat) {a0 : Nat} {hp : zHp} {sz : Nat} {r : (Int32 × zHp)} (h : f_X8_nextWard a0 hp = some r) : zis hp a0 8 = some () ∧ zM l yX8_nextWard cX8_nextWard 1 (some .int) 12 0 0 [.ref a0] D tc ro b0 hp sz ((zoI sz) r).1 ((zoI sz) r).2.1 ((zoI sz) r).2.2 := by
  refine ⟨?_, z_start (o := (zoI sz)) (lv := [(0, .ref a0)]) h (by decide +kernel) RX8 rfl rfl (Nat.le_of_ble_eq_true rfl) (fun P C => ?_)⟩
  · unfold f_X8_nextWard at h
    cases hc : zis hp a0 8 with
    | none => rw [hc] at h; cases h
    | some u => rfl
  unfold f_X8_nextWard
  refine z_is ?_
  refine z_aload_n C dX8_nextWard_0 0 rfl ?_
  refine z_iconst C dX8_nextWard_1 zi_0 ?_
  refine z_putI C zp_X8_38 dX8_nextWard_2 (fun h1 => ?_)
  refine z_aload_n C dX8_nextWard_5 0 rfl ?_
  refine z_callVp C zc_X8_292 [] (fun l D tc b0 r h => m_X8_comes l D tc ro b0 h) dX8_nextWard_6 rfl rfl (Nat.le_of_ble_eq_true rfl) (by decide) (by decide) ⟨Nat.le_of_ble_eq_true rfl, Nat.le_of_ble_eq_true rfl⟩ (fun v2 => ?_)
  exact z_ireturn C dX8_nextWard_9
noncomputable def f_X8_declaredCount (a0 : Nat) (hp : zHp) : Option (Int32 × zHp) :=
  (zis hp a0 8).bind fun _ => (zpV hp a0 8 0 (.int (0 : Int32))).bind fun h1 => (zgR h1 a0 8 5).bind fun r2 => (zaI h1 0 r2 (9 : Int32)).bind fun v3 => some (v3, h1)
set_option maxHeartbeats 4000000 in
set_option maxRecDepth 100000 in
theorem m_X8_declaredCount (l : Launch) (D : va_G) (tc : Nat → ClassId) (ro : Nat → Nat) (b0 : Nat) {a0 : Nat} {hp : zHp} {sz : Nat} {r : (Int32 × zHp)} (h : f_X8_declaredCount a0 hp = some r) : zis hp a0 8 = some () ∧ zM l yX8_declaredCount cX8_declaredCount 1 (some .int) 1 0 0 [.ref a0] D tc ro b0 hp sz ((zoI sz) r).1 ((zoI sz) r).2.1 ((zoI sz) r).2.2 := by
  refine ⟨?_, z_start (o := (zoI sz)) (lv := [(0, .ref a0)]) h (by decide +kernel) RX8 rfl rfl (Nat.le_of_ble_eq_true rfl) (fun P C => ?_)⟩
  · unfold f_X8_declaredCount at h
    cases hc : zis hp a0 8 with
    | none => rw [hc] at h; cases h
    | some u => rfl
  unfold f_X8_declaredCount
  refine z_is ?_
  refine z_aload_n C dX8_declaredCount_0 0 rfl ?_
  refine z_iconst C dX8_declaredCount_1 zi_0 ?_
  refine z_putI C zp_X8_38 dX8_declaredCount_2 (fun h1 => ?_)
  refine z_aload_n C dX8_declaredCount_5 0 rfl ?_
  refine z_getR C zf_X8_19 dX8_declaredCount_6 (fun r2 => ?_)
  refine z_bipush C dX8_declaredCount_9 zbi_9 ?_
  refine z_iaload C dX8_declaredCount_11 (fun v3 => ?_)
  exact z_ireturn C dX8_declaredCount_12
