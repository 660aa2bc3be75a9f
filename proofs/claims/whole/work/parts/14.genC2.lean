noncomputable def j_X3_kindOf_28 (x0 : Int32) (hp : zHp) : Option Int32 :=
  if x0 = (59 : Int32) then (some (3 : Int32)) else some (4 : Int32)
set_option maxHeartbeats 4000000 in
set_option maxRecDepth 100000 in
theorem wj_X3_kindOf_28 {P : zX} {ro : Nat → Nat} {sz : Nat} (C : zC P cX3_kindOf RX3 (some .int) 1 0 0 1 ro) {x0 : Int32} {hp : zHp}  : zG P (zoP sz hp) (j_X3_kindOf_28 x0 hp) 28 [(0, .int x0)] [] hp sz 0 0 := by
  unfold j_X3_kindOf_28
  refine z_iload_n C dX3_kindOf_28 0 rfl ?_
  refine z_bipush C dX3_kindOf_29 zbi_59 ?_
  refine z_icmp_ne C 38 dX3_kindOf_31 (by decide) ?_ ?_
  · refine z_iconst C dX3_kindOf_34 zi_3 ?_
    refine z_goto C 39 dX3_kindOf_35 (by decide) ?_
    exact z_ireturnP C dX3_kindOf_39
  refine z_iconst C dX3_kindOf_38 zi_4 ?_
  exact z_ireturnP C dX3_kindOf_39
noncomputable def j_X3_kindOf_14 (x0 : Int32) (hp : zHp) : Option Int32 :=
  if x0 < (48 : Int32) then (j_X3_kindOf_28 x0 hp) else if (57 : Int32) < x0 then (j_X3_kindOf_28 x0 hp) else some (2 : Int32)
set_option maxHeartbeats 4000000 in
set_option maxRecDepth 100000 in
theorem wj_X3_kindOf_14 {P : zX} {ro : Nat → Nat} {sz : Nat} (C : zC P cX3_kindOf RX3 (some .int) 1 0 0 1 ro) {x0 : Int32} {hp : zHp}  : zG P (zoP sz hp) (j_X3_kindOf_14 x0 hp) 14 [(0, .int x0)] [] hp sz 0 0 := by
  unfold j_X3_kindOf_14
  refine z_iload_n C dX3_kindOf_14 0 rfl ?_
  refine z_bipush C dX3_kindOf_15 zbi_48 ?_
  refine z_icmp_lt C 28 dX3_kindOf_17 (by decide) ?_ ?_
  · exact wj_X3_kindOf_28 C
  refine z_iload_n C dX3_kindOf_20 0 rfl ?_
  refine z_bipush C dX3_kindOf_21 zbi_57 ?_
  refine z_icmp_gt C 28 dX3_kindOf_23 (by decide) ?_ ?_
  · exact wj_X3_kindOf_28 C
  refine z_iconst C dX3_kindOf_26 zi_2 ?_
  exact z_ireturnP C dX3_kindOf_27
noncomputable def f_X3_kindOf (x0 : Int32) (hp : zHp) : Option Int32 :=
  if x0 < (97 : Int32) then (j_X3_kindOf_14 x0 hp) else if (122 : Int32) < x0 then (j_X3_kindOf_14 x0 hp) else some (1 : Int32)
set_option maxHeartbeats 4000000 in
set_option maxRecDepth 100000 in
theorem m_X3_kindOf (l : Launch) (D : va_G) (tc : Nat → ClassId) (ro : Nat → Nat) (b0 : Nat) {x0 : Int32} {hp : zHp} {sz : Nat} {r : Int32} (h : f_X3_kindOf x0 hp = some r) : zM l yX3_kindOf cX3_kindOf 1 (some .int) 1 0 0 [.int x0] D tc ro b0 hp sz ((zoP sz hp) r).1 ((zoP sz hp) r).2.1 ((zoP sz hp) r).2.2 := by
  refine z_start (o := (zoP sz hp)) (lv := [(0, .int x0)]) h (by decide +kernel) RX3 rfl rfl (Nat.le_of_ble_eq_true rfl) (fun P C => ?_)
  unfold f_X3_kindOf
  refine z_iload_n C dX3_kindOf_0 0 rfl ?_
  refine z_bipush C dX3_kindOf_1 zbi_97 ?_
  refine z_icmp_lt C 14 dX3_kindOf_3 (by decide) ?_ ?_
  · exact wj_X3_kindOf_14 C
  refine z_iload_n C dX3_kindOf_6 0 rfl ?_
  refine z_bipush C dX3_kindOf_7 zbi_122 ?_
  refine z_icmp_gt C 14 dX3_kindOf_9 (by decide) ?_ ?_
  · exact wj_X3_kindOf_14 C
  refine z_iconst C dX3_kindOf_12 zi_1 ?_
  exact z_ireturnP C dX3_kindOf_13
noncomputable def b_X3_next_8 (k47 : zHp → Option zHp) (a0 : Nat) (rec : zHp → Option zHp) (h : zHp) : Option zHp :=
  (zgI h a0 3 4).bind fun v3 => (zgI h a0 3 2).bind fun v4 => if v3 < v4 then ((zgR h a0 3 0).bind fun r5 => (zgI h a0 3 4).bind fun v6 => (zaI h 1 r5 v6).bind fun v7 => (f_X3_isBlank v7 h).bind fun v8 => if v8 = 0 then (k47 h) else (zgI h a0 3 4).bind fun v9 => (zpV h a0 3 4 (.int (v9 + (1 : Int32)))).bind fun h10 => rec h10) else k47 h
noncomputable def l_X3_next_8 (k47 : zHp → Option zHp) (a0 : Nat) (n : Nat) : zHp → Option zHp :=
  Nat.rec (motive := fun _ => zHp → Option zHp) (fun _ => none) (fun _ rec => b_X3_next_8 k47 a0 rec) n
theorem l_X3_next_8_s (k47 : zHp → Option zHp) (a0 : Nat) (n : Nat) (h : zHp) : l_X3_next_8 k47 a0 (n + 1) h = b_X3_next_8 k47 a0 (l_X3_next_8 k47 a0 n) h := rfl
set_option maxHeartbeats 4000000 in
set_option maxRecDepth 100000 in
theorem wl_X3_next_8 {P : zX} {ro : Nat → Nat} {sz : Nat} (C : zC P cX3_next RX3 none 2 0 0 2 ro) {a0 : Nat} {k47 : zHp → Option zHp} (hk47 : ∀ (h : zHp), zG P (zoV sz) (k47 h) 47 [(0, .ref a0)] [] h sz 0 0) : ∀ (n : Nat) (h : zHp), zG P (zoV sz) (l_X3_next_8 k47 a0 n h) 8 [(0, .ref a0)] [] h sz 0 0 := by
  intro n
  induction n with
  | zero =>
    intro h
    show zG P (zoV sz) none _ _ _ _ _ _ _
    exact z_none
  | succ n ih =>
    intro h
    show zG P (zoV sz) (b_X3_next_8 k47 a0 (l_X3_next_8 k47 a0 n) h) _ _ _ _ _ _ _
    unfold b_X3_next_8
    refine z_aload_n C dX3_next_8 0 rfl ?_
    refine z_getI C zf_X3_34 dX3_next_9 (fun v3 => ?_)
    refine z_aload_n C dX3_next_12 0 rfl ?_
    refine z_getI C zf_X3_25 dX3_next_13 (fun v4 => ?_)
    refine z_icmp_ge C 47 dX3_next_16 (by decide) ?_ ?_
    · refine z_aload_n C dX3_next_19 0 rfl ?_
      refine z_getR C zf_X3_9 dX3_next_20 (fun r5 => ?_)
      refine z_aload_n C dX3_next_23 0 rfl ?_
      refine z_getI C zf_X3_34 dX3_next_24 (fun v6 => ?_)
      refine z_baload C dX3_next_27 (fun v7 => ?_)
      refine z_callSp C zs_X3_37 [.int v7] (fun l D tc b0 r h => m_X3_isBlank l D tc ro b0 h) dX3_next_28 rfl rfl (Nat.le_of_ble_eq_true rfl) (by decide) (by decide) ⟨Nat.le_of_ble_eq_true rfl, Nat.le_of_ble_eq_true rfl⟩ (fun v8 => ?_)
      refine z_if_eq C 47 dX3_next_31 (by decide) ?_ ?_
      · exact hk47 _
      refine z_aload_n C dX3_next_34 0 rfl ?_
      refine z_dup C dX3_next_35 rfl ?_
      refine z_getI C zf_X3_34 dX3_next_36 (fun v9 => ?_)
      refine z_iconst C dX3_next_39 zi_1 ?_
      refine z_iadd C dX3_next_40 ?_
      refine z_putI C zp_X3_34 dX3_next_41 (fun h10 => ?_)
      refine z_goto C 8 dX3_next_44 (by decide) ?_
      exact ih _
    exact hk47 _
noncomputable def b_X3_next_124 (k171 : zHp → Option zHp) (a0 : Nat) (x1 : Int32) (rec : zHp → Option zHp) (h : zHp) : Option zHp :=
  if x1 = 0 then (k171 h) else (zgI h a0 3 5).bind fun v19 => (zgI h a0 3 2).bind fun v20 => if v19 < v20 then ((zgR h a0 3 0).bind fun r21 => (zgI h a0 3 5).bind fun v22 => (zaI h 1 r21 v22).bind fun v23 => (f_X3_kindOf v23 h).bind fun v24 => (zgI h a0 3 3).bind fun v25 => if v24 = v25 then ((zgI h a0 3 5).bind fun v26 => (zpV h a0 3 5 (.int (v26 + (1 : Int32)))).bind fun h27 => rec h27) else k171 h) else k171 h
noncomputable def l_X3_next_124 (k171 : zHp → Option zHp) (a0 : Nat) (x1 : Int32) (n : Nat) : zHp → Option zHp :=
  Nat.rec (motive := fun _ => zHp → Option zHp) (fun _ => none) (fun _ rec => b_X3_next_124 k171 a0 x1 rec) n
theorem l_X3_next_124_s (k171 : zHp → Option zHp) (a0 : Nat) (x1 : Int32) (n : Nat) (h : zHp) : l_X3_next_124 k171 a0 x1 (n + 1) h = b_X3_next_124 k171 a0 x1 (l_X3_next_124 k171 a0 x1 n) h := rfl
set_option maxHeartbeats 4000000 in
set_option maxRecDepth 100000 in
theorem wl_X3_next_124 {P : zX} {ro : Nat → Nat} {sz : Nat} (C : zC P cX3_next RX3 none 2 0 0 2 ro) {a0 : Nat} {x1 : Int32} {k171 : zHp → Option zHp} (hk171 : ∀ (h : zHp), zG P (zoV sz) (k171 h) 171 [] [] h sz 0 0) : ∀ (n : Nat) (h : zHp), zG P (zoV sz) (l_X3_next_124 k171 a0 x1 n h) 124 [(0, .ref a0), (1, .int x1)] [] h sz 0 0 := by
  intro n
  induction n with
  | zero =>
    intro h
    show zG P (zoV sz) none _ _ _ _ _ _ _
    exact z_none
  | succ n ih =>
    intro h
    show zG P (zoV sz) (b_X3_next_124 k171 a0 x1 (l_X3_next_124 k171 a0 x1 n) h) _ _ _ _ _ _ _
    unfold b_X3_next_124
    refine z_iload_n C dX3_next_124 1 rfl ?_
    refine z_if_eq C 171 dX3_next_125 (by decide) ?_ ?_
    · exact z_sub [] rfl (hk171 _)
    refine z_aload_n C dX3_next_128 0 rfl ?_
    refine z_getI C zf_X3_28 dX3_next_129 (fun v19 => ?_)
    refine z_aload_n C dX3_next_132 0 rfl ?_
    refine z_getI C zf_X3_25 dX3_next_133 (fun v20 => ?_)
    refine z_icmp_ge C 171 dX3_next_136 (by decide) ?_ ?_
    · refine z_aload_n C dX3_next_139 0 rfl ?_
      refine z_getR C zf_X3_9 dX3_next_140 (fun r21 => ?_)
      refine z_aload_n C dX3_next_143 0 rfl ?_
      refine z_getI C zf_X3_28 dX3_next_144 (fun v22 => ?_)
      refine z_baload C dX3_next_147 (fun v23 => ?_)
      refine z_callSp C zs_X3_41 [.int v23] (fun l D tc b0 r h => m_X3_kindOf l D tc ro b0 h) dX3_next_148 rfl rfl (Nat.le_of_ble_eq_true rfl) (by decide) (by decide) ⟨Nat.le_of_ble_eq_true rfl, Nat.le_of_ble_eq_true rfl⟩ (fun v24 => ?_)
      refine z_aload_n C dX3_next_151 0 rfl ?_
      refine z_getI C zf_X3_45 dX3_next_152 (fun v25 => ?_)
      refine z_icmp_ne C 171 dX3_next_155 (by decide) ?_ ?_
      · refine z_aload_n C dX3_next_158 0 rfl ?_
        refine z_dup C dX3_next_159 rfl ?_
        refine z_getI C zf_X3_28 dX3_next_160 (fun v26 => ?_)
        refine z_iconst C dX3_next_163 zi_1 ?_
        refine z_iadd C dX3_next_164 ?_
        refine z_putI C zp_X3_28 dX3_next_165 (fun h27 => ?_)
        refine z_goto C 124 dX3_next_168 (by decide) ?_
        exact ih _
      exact z_sub [] rfl (hk171 _)
    exact z_sub [] rfl (hk171 _)
noncomputable def j_X3_next_99 (a0 : Nat) (s0 : Nat) (s1 : Int32) (h : zHp) : Option zHp :=
  (zpV h s0 3 5 (.int s1)).bind fun h17 => (zgI h17 a0 3 3).bind fun v18 => if v18 = (1 : Int32) then (l_X3_next_124 (fun h28 => some h28) a0 (1 : Int32) 1000000 h17) else (zgI h17 a0 3 3).bind fun v29 => if v29 = (2 : Int32) then (l_X3_next_124 (fun h31 => some h31) a0 (1 : Int32) 1000000 h17) else l_X3_next_124 (fun h30 => some h30) a0 (0 : Int32) 1000000 h17
set_option maxHeartbeats 4000000 in
set_option maxRecDepth 100000 in
theorem wj_X3_next_99 {P : zX} {ro : Nat → Nat} {sz : Nat} (C : zC P cX3_next RX3 none 2 0 0 2 ro) {a0 : Nat} {s0 : Nat} {s1 : Int32} {h : zHp}  : zG P (zoV sz) (j_X3_next_99 a0 s0 s1 h) 99 [(0, .ref a0)] [.int s1, .ref s0] h sz 0 0 := by
  unfold j_X3_next_99
  refine z_putI C zp_X3_28 dX3_next_99 (fun h17 => ?_)
  refine z_aload_n C dX3_next_102 0 rfl ?_
  refine z_getI C zf_X3_45 dX3_next_103 (fun v18 => ?_)
  refine z_iconst C dX3_next_106 zi_1 ?_
  refine z_icmp_eq C 118 dX3_next_107 (by decide) ?_ ?_
  · refine z_iconst C dX3_next_118 zi_1 ?_
    refine z_goto C 123 dX3_next_119 (by decide) ?_
    refine z_istore_n (lv' := [(0, .ref a0), (1, .int (1 : Int32))]) C dX3_next_123 (by decide) rfl ?_
    refine wl_X3_next_124 C (fun h28 => ?_) _ _
    exact z_return C dX3_next_171
  refine z_aload_n C dX3_next_110 0 rfl ?_
  refine z_getI C zf_X3_45 dX3_next_111 (fun v29 => ?_)
  refine z_iconst C dX3_next_114 zi_2 ?_
  refine z_icmp_ne C 122 dX3_next_115 (by decide) ?_ ?_
  · refine z_iconst C dX3_next_118 zi_1 ?_
    refine z_goto C 123 dX3_next_119 (by decide) ?_
    refine z_istore_n (lv' := [(0, .ref a0), (1, .int (1 : Int32))]) C dX3_next_123 (by decide) rfl ?_
    refine wl_X3_next_124 C (fun h31 => ?_) _ _
    exact z_return C dX3_next_171
  refine z_iconst C dX3_next_122 zi_0 ?_
  refine z_istore_n (lv' := [(0, .ref a0), (1, .int (0 : Int32))]) C dX3_next_123 (by decide) rfl ?_
  refine wl_X3_next_124 C (fun h30 => ?_) _ _
  exact z_return C dX3_next_171
noncomputable def j_X3_next_75 (a0 : Nat) (s0 : Nat) (s1 : Int32) (h : zHp) : Option zHp :=
  (zpV h s0 3 3 (.int s1)).bind fun h14 => (zgI h14 a0 3 3).bind fun v15 => if v15 = 0 then ((zgI h14 a0 3 4).bind fun v32 => j_X3_next_99 a0 a0 v32 h14) else (zgI h14 a0 3 4).bind fun v16 => j_X3_next_99 a0 a0 (v16 + (1 : Int32)) h14
set_option maxHeartbeats 4000000 in
set_option maxRecDepth 100000 in
theorem wj_X3_next_75 {P : zX} {ro : Nat → Nat} {sz : Nat} (C : zC P cX3_next RX3 none 2 0 0 2 ro) {a0 : Nat} {s0 : Nat} {s1 : Int32} {h : zHp}  : zG P (zoV sz) (j_X3_next_75 a0 s0 s1 h) 75 [(0, .ref a0)] [.int s1, .ref s0] h sz 0 0 := by
  unfold j_X3_next_75
  refine z_putI C zp_X3_45 dX3_next_75 (fun h14 => ?_)
  refine z_aload_n C dX3_next_78 0 rfl ?_
  refine z_aload_n C dX3_next_79 0 rfl ?_
  refine z_getI C zf_X3_45 dX3_next_80 (fun v15 => ?_)
  refine z_if_ne C 93 dX3_next_83 (by decide) ?_ ?_
  · refine z_aload_n C dX3_next_86 0 rfl ?_
    refine z_getI C zf_X3_34 dX3_next_87 (fun v32 => ?_)
    refine z_goto C 99 dX3_next_90 (by decide) ?_
    exact wj_X3_next_99 C
  refine z_aload_n C dX3_next_93 0 rfl ?_
  refine z_getI C zf_X3_34 dX3_next_94 (fun v16 => ?_)
  refine z_iconst C dX3_next_97 zi_1 ?_
  refine z_iadd C dX3_next_98 ?_
  exact wj_X3_next_99 C
noncomputable def f_X3_next (a0 : Nat) (hp : zHp) : Option zHp :=
  (zis hp a0 3).bind fun _ => (zgI hp a0 3 5).bind fun v1 => (zpV hp a0 3 4 (.int v1)).bind fun h2 => l_X3_next_8 (fun h11 => (zgI h11 a0 3 4).bind fun v12 => (zgI h11 a0 3 2).bind fun v13 => if v12 < v13 then ((zgR h11 a0 3 0).bind fun r33 => (zgI h11 a0 3 4).bind fun v34 => (zaI h11 1 r33 v34).bind fun v35 => (f_X3_kindOf v35 h11).bind fun v36 => j_X3_next_75 a0 a0 v36 h11) else j_X3_next_75 a0 a0 (0 : Int32) h11) a0 1000000 h2
set_option maxHeartbeats 4000000 in
set_option maxRecDepth 100000 in
theorem m_X3_next (l : Launch) (D : va_G) (tc : Nat → ClassId) (ro : Nat → Nat) (b0 : Nat) {a0 : Nat} {hp : zHp} {sz : Nat} {r : zHp} (h : f_X3_next a0 hp = some r) : zis hp a0 3 = some () ∧ zM l yX3_next cX3_next 2 none 2 0 0 [.ref a0] D tc ro b0 hp sz ((zoV sz) r).1 ((zoV sz) r).2.1 ((zoV sz) r).2.2 := by
  refine ⟨?_, z_start (o := (zoV sz)) (lv := [(0, .ref a0)]) h (by decide +kernel) RX3 rfl rfl (Nat.le_of_ble_eq_true rfl) (fun P C => ?_)⟩
  · unfold f_X3_next at h
    cases hc : zis hp a0 3 with
    | none => rw [hc] at h; cases h
    | some u => rfl
  unfold f_X3_next
  refine z_is ?_
  refine z_aload_n C dX3_next_0 0 rfl ?_
  refine z_aload_n C dX3_next_1 0 rfl ?_
  refine z_getI C zf_X3_28 dX3_next_2 (fun v1 => ?_)
  refine z_putI C zp_X3_34 dX3_next_5 (fun h2 => ?_)
  refine wl_X3_next_8 C (fun h11 => ?_) _ _
  refine z_aload_n C dX3_next_47 0 rfl ?_
  refine z_aload_n C dX3_next_48 0 rfl ?_
  refine z_getI C zf_X3_34 dX3_next_49 (fun v12 => ?_)
  refine z_aload_n C dX3_next_52 0 rfl ?_
  refine z_getI C zf_X3_25 dX3_next_53 (fun v13 => ?_)
  refine z_icmp_ge C 74 dX3_next_56 (by decide) ?_ ?_
  · refine z_aload_n C dX3_next_59 0 rfl ?_
    refine z_getR C zf_X3_9 dX3_next_60 (fun r33 => ?_)
    refine z_aload_n C dX3_next_63 0 rfl ?_
    refine z_getI C zf_X3_34 dX3_next_64 (fun v34 => ?_)
    refine z_baload C dX3_next_67 (fun v35 => ?_)
    refine z_callSp C zs_X3_41 [.int v35] (fun l D tc b0 r h => m_X3_kindOf l D tc ro b0 h) dX3_next_68 rfl rfl (Nat.le_of_ble_eq_true rfl) (by decide) (by decide) ⟨Nat.le_of_ble_eq_true rfl, Nat.le_of_ble_eq_true rfl⟩ (fun v36 => ?_)
    refine z_goto C 75 dX3_next_71 (by decide) ?_
    exact wj_X3_next_75 C
  refine z_iconst C dX3_next_74 zi_0 ?_
  exact wj_X3_next_75 C
noncomputable def f_X3_beginText (a0 : Nat) (x1 : Int32) (hp : zHp) : Option zHp :=
  (zis hp a0 3).bind fun _ => (zpV hp a0 3 2 (.int (zmin x1 (900 : Int32)))).bind fun h1 => (zpV h1 a0 3 1 (.int (0 : Int32))).bind fun h2 => (zpV h2 a0 3 5 (.int (0 : Int32))).bind fun h3 => (f_X3_next a0 h3).bind fun h4 => some h4
set_option maxHeartbeats 4000000 in
set_option maxRecDepth 100000 in
theorem m_X3_beginText (l : Launch) (D : va_G) (tc : Nat → ClassId) (ro : Nat → Nat) (b0 : Nat) {a0 : Nat} {x1 : Int32} {hp : zHp} {sz : Nat} {r : zHp} (h : f_X3_beginText a0 x1 hp = some r) : zis hp a0 3 = some () ∧ zM l yX3_beginText cX3_beginText 2 none 3 0 0 [.ref a0, .int x1] D tc ro b0 hp sz ((zoV sz) r).1 ((zoV sz) r).2.1 ((zoV sz) r).2.2 := by
  refine ⟨?_, z_start (o := (zoV sz)) (lv := [(0, .ref a0), (1, .int x1)]) h (by decide +kernel) RX3 rfl rfl (Nat.le_of_ble_eq_true rfl) (fun P C => ?_)⟩
  · unfold f_X3_beginText at h
    cases hc : zis hp a0 3 with
    | none => rw [hc] at h; cases h
    | some u => rfl
  unfold f_X3_beginText
  refine z_is ?_
  refine z_aload_n C dX3_beginText_0 0 rfl ?_
  refine z_iload_n C dX3_beginText_1 1 rfl ?_
  refine z_sipush C dX3_beginText_2 zsi_900 ?_
  refine z_mmin C zm_X3_19 dX3_beginText_5 (Nat.le_of_ble_eq_true rfl) (by decide) ⟨Nat.le_of_ble_eq_true rfl, Nat.le_of_ble_eq_true rfl⟩ ?_
  refine z_putI C zp_X3_25 dX3_beginText_8 (fun h1 => ?_)
  refine z_aload_n C dX3_beginText_11 0 rfl ?_
  refine z_iconst C dX3_beginText_12 zi_0 ?_
  refine z_putI C zp_X3_15 dX3_beginText_13 (fun h2 => ?_)
  refine z_aload_n C dX3_beginText_16 0 rfl ?_
  refine z_iconst C dX3_beginText_17 zi_0 ?_
  refine z_putI C zp_X3_28 dX3_beginText_18 (fun h3 => ?_)
  refine z_aload_n C dX3_beginText_21 0 rfl ?_
  refine z_callVv C zc_X3_31 [] (fun l D tc b0 r h => m_X3_next l D tc ro b0 h) dX3_beginText_22 rfl rfl (Nat.le_of_ble_eq_true rfl) (by decide) (by decide) ⟨Nat.le_of_ble_eq_true rfl, Nat.le_of_ble_eq_true rfl⟩ (fun h4 => ?_)
  exact z_return C dX3_beginText_25
noncomputable def b_X3_spells_28 (k55 : Option Int32) (k63 : Option Int32) (a0 : Nat) (a1 : Nat) (hp : zHp) (rec : Int32 → Option Int32) (x2 : Int32) : Option Int32 :=
  (f_J0_length_8abf5 a1 hp).bind fun v5 => if x2 < v5 then ((zgR hp a0 3 0).bind fun r6 => (zgI hp a0 3 4).bind fun v7 => (zaI hp 1 r6 (v7 + x2)).bind fun v8 => (f_J0_charAt_5068e a1 x2 hp).bind fun v9 => if v8 = v9 then (zlet (x2 + (1 : Int32)) fun v10 => rec v10) else k55) else k63
noncomputable def l_X3_spells_28 (k55 : Option Int32) (k63 : Option Int32) (a0 : Nat) (a1 : Nat) (hp : zHp) (n : Nat) : Int32 → Option Int32 :=
  Nat.rec (motive := fun _ => Int32 → Option Int32) (fun _ => none) (fun _ rec => b_X3_spells_28 k55 k63 a0 a1 hp rec) n
theorem l_X3_spells_28_s (k55 : Option Int32) (k63 : Option Int32) (a0 : Nat) (a1 : Nat) (hp : zHp) (n : Nat) (x2 : Int32) : l_X3_spells_28 k55 k63 a0 a1 hp (n + 1) x2 = b_X3_spells_28 k55 k63 a0 a1 hp (l_X3_spells_28 k55 k63 a0 a1 hp n) x2 := rfl
set_option maxHeartbeats 4000000 in
set_option maxRecDepth 100000 in
theorem wl_X3_spells_28 {P : zX} {ro : Nat → Nat} {sz : Nat} (C : zC P cX3_spells RX3 (some .boolean) 5 0 0 3 ro) {a0 : Nat} {a1 : Nat} {hp : zHp} {k55 : Option Int32} (hk55 : zG P (zoP sz hp) (k55) 55 [] [] hp sz 0 0) {k63 : Option Int32} (hk63 : zG P (zoP sz hp) (k63) 63 [] [] hp sz 0 0) : ∀ (n : Nat) (x2 : Int32), zG P (zoP sz hp) (l_X3_spells_28 k55 k63 a0 a1 hp n x2) 28 [(0, .ref a0), (1, .ref a1), (2, .int x2)] [] hp sz 0 0 := by
  intro n
  induction n with
  | zero =>
    intro x2
    show zG P (zoP sz hp) none _ _ _ _ _ _ _
    exact z_none
  | succ n ih =>
    intro x2
    show zG P (zoP sz hp) (b_X3_spells_28 k55 k63 a0 a1 hp (l_X3_spells_28 k55 k63 a0 a1 hp n) x2) _ _ _ _ _ _ _
    unfold b_X3_spells_28
    refine z_iload_n C dX3_spells_28 2 rfl ?_
    refine z_aload_n C dX3_spells_29 1 rfl ?_
    refine z_callVp C zc_X3_48 [] (fun l D tc b0 r h => m_J0_length_8abf5 l D tc ro b0 h) dX3_spells_30 rfl rfl (Nat.le_of_ble_eq_true rfl) (by decide) (by decide) ⟨Nat.le_of_ble_eq_true rfl, Nat.le_of_ble_eq_true rfl⟩ (fun v5 => ?_)
    refine z_icmp_ge C 63 dX3_spells_33 (by decide) ?_ ?_
    · refine z_aload_n C dX3_spells_36 0 rfl ?_
      refine z_getR C zf_X3_9 dX3_spells_37 (fun r6 => ?_)
      refine z_aload_n C dX3_spells_40 0 rfl ?_
      refine z_getI C zf_X3_34 dX3_spells_41 (fun v7 => ?_)
      refine z_iload_n C dX3_spells_44 2 rfl ?_
      refine z_iadd C dX3_spells_45 ?_
      refine z_baload C dX3_spells_46 (fun v8 => ?_)
      refine z_aload_n C dX3_spells_47 1 rfl ?_
      refine z_iload_n C dX3_spells_48 2 rfl ?_
      refine z_callVp C zc_X3_53 [.int x2] (fun l D tc b0 r h => m_J0_charAt_5068e l D tc ro b0 h) dX3_spells_49 rfl rfl (Nat.le_of_ble_eq_true rfl) (by decide) (by decide) ⟨Nat.le_of_ble_eq_true rfl, Nat.le_of_ble_eq_true rfl⟩ (fun v9 => ?_)
      refine z_icmp_eq C 57 dX3_spells_52 (by decide) ?_ ?_
      · refine z_iincL C 2 (fun v10 => [(0, .ref a0), (1, .ref a1), (2, .int v10)]) dX3_spells_57 rfl zi_1 (by decide) (fun _ => rfl) (fun v10 => ?_)
        refine z_goto C 28 dX3_spells_60 (by decide) ?_
        exact ih _
      exact z_sub [] rfl (hk55)
    exact z_sub [] rfl (hk63)
noncomputable def f_X3_spells (a0 : Nat) (a1 : Nat) (hp : zHp) : Option Int32 :=
  (zis hp a0 3).bind fun _ => (zgI hp a0 3 3).bind fun v1 => if v1 = (1 : Int32) then ((zgI hp a0 3 5).bind fun v2 => (zgI hp a0 3 4).bind fun v3 => (f_J0_length_8abf5 a1 hp).bind fun v4 => if (v2 - v3) = v4 then (l_X3_spells_28 (some (0 : Int32)) (some (1 : Int32)) a0 a1 hp 1000000 (0 : Int32)) else some (0 : Int32)) else some (0 : Int32)
set_option maxHeartbeats 4000000 in
set_option maxRecDepth 100000 in
theorem m_X3_spells (l : Launch) (D : va_G) (tc : Nat → ClassId) (ro : Nat → Nat) (b0 : Nat) {a0 : Nat} {a1 : Nat} {hp : zHp} {sz : Nat} {r : Int32} (h : f_X3_spells a0 a1 hp = some r) : zis hp a0 3 = some () ∧ zM l yX3_spells cX3_spells 3 (some .boolean) 5 0 0 [.ref a0, .ref a1] D tc ro b0 hp sz ((zoP sz hp) r).1 ((zoP sz hp) r).2.1 ((zoP sz hp) r).2.2 := by
  refine ⟨?_, z_start (o := (zoP sz hp)) (lv := [(0, .ref a0), (1, .ref a1)]) h (by decide +kernel) RX3 rfl rfl (Nat.le_of_ble_eq_true rfl) (fun P C => ?_)⟩
  · unfold f_X3_spells at h
    cases hc : zis hp a0 3 with
    | none => rw [hc] at h; cases h
    | some u => rfl
  unfold f_X3_spells
  refine z_is ?_
  refine z_aload_n C dX3_spells_0 0 rfl ?_
  refine z_getI C zf_X3_45 dX3_spells_1 (fun v1 => ?_)
  refine z_iconst C dX3_spells_4 zi_1 ?_
  refine z_icmp_ne C 24 dX3_spells_5 (by decide) ?_ ?_
  · refine z_aload_n C dX3_spells_8 0 rfl ?_
    refine z_getI C zf_X3_28 dX3_spells_9 (fun v2 => ?_)
    refine z_aload_n C dX3_spells_12 0 rfl ?_
    refine z_getI C zf_X3_34 dX3_spells_13 (fun v3 => ?_)
    refine z_isub C dX3_spells_16 ?_
    refine z_aload_n C dX3_spells_17 1 rfl ?_
    refine z_callVp C zc_X3_48 [] (fun l D tc b0 r h => m_J0_length_8abf5 l D tc ro b0 h) dX3_spells_18 rfl rfl (Nat.le_of_ble_eq_true rfl) (by decide) (by decide) ⟨Nat.le_of_ble_eq_true rfl, Nat.le_of_ble_eq_true rfl⟩ (fun v4 => ?_)
    refine z_icmp_eq C 26 dX3_spells_21 (by decide) ?_ ?_
    · refine z_iconst C dX3_spells_26 zi_0 ?_
      refine z_istore_n (lv' := [(0, .ref a0), (1, .ref a1), (2, .int (0 : Int32))]) C dX3_spells_27 (by decide) rfl ?_
      refine wl_X3_spells_28 C ?_ ?_ _ _
      · refine z_iconst C dX3_spells_55 zi_0 ?_
        exact z_kreturnP C rfl dX3_spells_56
      refine z_iconst C dX3_spells_63 zi_1 ?_
      exact z_kreturnP C rfl dX3_spells_64
    refine z_iconst C dX3_spells_24 zi_0 ?_
    exact z_kreturnP C rfl dX3_spells_25
  refine z_iconst C dX3_spells_24 zi_0 ?_
  exact z_kreturnP C rfl dX3_spells_25
noncomputable def j_X3_isName_74 (ro : Nat → Nat) (a0 : Nat) (s0 : Int32) (hp : zHp) : Option Int32 :=
  if s0 = 0 then ((f_X3_spells a0 (ro 6) hp).bind fun v5 => if v5 = 0 then ((f_X3_spells a0 (ro 7) hp).bind fun v6 => if v6 = 0 then (some (1 : Int32)) else some (0 : Int32)) else some (0 : Int32)) else some (0 : Int32)
set_option maxHeartbeats 4000000 in
set_option maxRecDepth 100000 in
theorem wj_X3_isName_74 {P : zX} {ro : Nat → Nat} {sz : Nat} (C : zC P cX3_isName RX3 (some .boolean) 6 0 0 2 ro) {a0 : Nat} {s0 : Int32} {hp : zHp}  : zG P (zoP sz hp) (j_X3_isName_74 ro a0 s0 hp) 74 [(0, .ref a0)] [.int s0] hp sz 0 0 := by
  unfold j_X3_isName_74
  refine z_istore_n (lv' := [(0, .ref a0), (1, .int s0)]) C dX3_isName_74 (by decide) rfl ?_
  refine z_iload_n C dX3_isName_75 1 rfl ?_
  refine z_if_ne C 101 dX3_isName_76 (by decide) ?_ ?_
  · refine z_aload_n C dX3_isName_79 0 rfl ?_
    refine z_ldcS C 6 rfl dX3_isName_80 ?_
    refine z_callVp C zc_X3_59 [.ref (ro 6)] (fun l D tc b0 r h => m_X3_spells l D tc ro b0 h) dX3_isName_82 rfl rfl (Nat.le_of_ble_eq_true rfl) (by decide) (by decide) ⟨Nat.le_of_ble_eq_true rfl, Nat.le_of_ble_eq_true rfl⟩ (fun v5 => ?_)
    refine z_if_ne C 101 dX3_isName_85 (by decide) ?_ ?_
    · refine z_aload_n C dX3_isName_88 0 rfl ?_
      refine z_ldcS C 7 rfl dX3_isName_89 ?_
      refine z_callVp C zc_X3_59 [.ref (ro 7)] (fun l D tc b0 r h => m_X3_spells l D tc ro b0 h) dX3_isName_91 rfl rfl (Nat.le_of_ble_eq_true rfl) (by decide) (by decide) ⟨Nat.le_of_ble_eq_true rfl, Nat.le_of_ble_eq_true rfl⟩ (fun v6 => ?_)
      refine z_if_ne C 101 dX3_isName_94 (by decide) ?_ ?_
      · refine z_iconst C dX3_isName_97 zi_1 ?_
        refine z_goto C 102 dX3_isName_98 (by decide) ?_
        exact z_kreturnP C rfl dX3_isName_102
      refine z_iconst C dX3_isName_101 zi_0 ?_
      exact z_kreturnP C rfl dX3_isName_102
    refine z_iconst C dX3_isName_101 zi_0 ?_
    exact z_kreturnP C rfl dX3_isName_102
  refine z_iconst C dX3_isName_101 zi_0 ?_
  exact z_kreturnP C rfl dX3_isName_102
noncomputable def f_X3_isName (ro : Nat → Nat) (a0 : Nat) (hp : zHp) : Option Int32 :=
  (zis hp a0 3).bind fun _ => (zgI hp a0 3 3).bind fun v1 => if v1 = (1 : Int32) then ((zgI hp a0 3 5).bind fun v2 => (zgI hp a0 3 4).bind fun v3 => if (6 : Int32) < (v2 - v3) then (some (0 : Int32)) else (f_X3_spells a0 (ro 1) hp).bind fun v4 => if v4 = 0 then ((f_X3_spells a0 (ro 2) hp).bind fun v7 => if v7 = 0 then ((f_X3_spells a0 (ro 3) hp).bind fun v8 => if v8 = 0 then ((f_X3_spells a0 (ro 4) hp).bind fun v9 => if v9 = 0 then ((f_X3_spells a0 (ro 5) hp).bind fun v10 => if v10 = 0 then (j_X3_isName_74 ro a0 (0 : Int32) hp) else j_X3_isName_74 ro a0 (1 : Int32) hp) else j_X3_isName_74 ro a0 (1 : Int32) hp) else j_X3_isName_74 ro a0 (1 : Int32) hp) else j_X3_isName_74 ro a0 (1 : Int32) hp) else j_X3_isName_74 ro a0 (1 : Int32) hp) else some (0 : Int32)
set_option maxHeartbeats 4000000 in
set_option maxRecDepth 100000 in
theorem m_X3_isName (l : Launch) (D : va_G) (tc : Nat → ClassId) (ro : Nat → Nat) (b0 : Nat) {a0 : Nat} {hp : zHp} {sz : Nat} {r : Int32} (h : f_X3_isName ro a0 hp = some r) : zis hp a0 3 = some () ∧ zM l yX3_isName cX3_isName 2 (some .boolean) 6 0 0 [.ref a0] D tc ro b0 hp sz ((zoP sz hp) r).1 ((zoP sz hp) r).2.1 ((zoP sz hp) r).2.2 := by
  refine ⟨?_, z_start (o := (zoP sz hp)) (lv := [(0, .ref a0)]) h (by decide +kernel) RX3 rfl rfl (Nat.le_of_ble_eq_true rfl) (fun P C => ?_)⟩
  · unfold f_X3_isName at h
    cases hc : zis hp a0 3 with
    | none => rw [hc] at h; cases h
    | some u => rfl
  unfold f_X3_isName
  refine z_is ?_
  refine z_aload_n C dX3_isName_0 0 rfl ?_
  refine z_getI C zf_X3_45 dX3_isName_1 (fun v1 => ?_)
  refine z_iconst C dX3_isName_4 zi_1 ?_
  refine z_icmp_ne C 22 dX3_isName_5 (by decide) ?_ ?_
  · refine z_aload_n C dX3_isName_8 0 rfl ?_
    refine z_getI C zf_X3_28 dX3_isName_9 (fun v2 => ?_)
    refine z_aload_n C dX3_isName_12 0 rfl ?_
    refine z_getI C zf_X3_34 dX3_isName_13 (fun v3 => ?_)
    refine z_isub C dX3_isName_16 ?_
    refine z_bipush C dX3_isName_17 zbi_6 ?_
    refine z_icmp_le C 24 dX3_isName_19 (by decide) ?_ ?_
    · refine z_iconst C dX3_isName_22 zi_0 ?_
      exact z_kreturnP C rfl dX3_isName_23
    refine z_aload_n C dX3_isName_24 0 rfl ?_
    refine z_ldcS C 1 rfl dX3_isName_25 ?_
    refine z_callVp C zc_X3_59 [.ref (ro 1)] (fun l D tc b0 r h => m_X3_spells l D tc ro b0 h) dX3_isName_27 rfl rfl (Nat.le_of_ble_eq_true rfl) (by decide) (by decide) ⟨Nat.le_of_ble_eq_true rfl, Nat.le_of_ble_eq_true rfl⟩ (fun v4 => ?_)
    refine z_if_ne C 69 dX3_isName_30 (by decide) ?_ ?_
    · refine z_aload_n C dX3_isName_33 0 rfl ?_
      refine z_ldcS C 2 rfl dX3_isName_34 ?_
      refine z_callVp C zc_X3_59 [.ref (ro 2)] (fun l D tc b0 r h => m_X3_spells l D tc ro b0 h) dX3_isName_36 rfl rfl (Nat.le_of_ble_eq_true rfl) (by decide) (by decide) ⟨Nat.le_of_ble_eq_true rfl, Nat.le_of_ble_eq_true rfl⟩ (fun v7 => ?_)
      refine z_if_ne C 69 dX3_isName_39 (by decide) ?_ ?_
      · refine z_aload_n C dX3_isName_42 0 rfl ?_
        refine z_ldcS C 3 rfl dX3_isName_43 ?_
        refine z_callVp C zc_X3_59 [.ref (ro 3)] (fun l D tc b0 r h => m_X3_spells l D tc ro b0 h) dX3_isName_45 rfl rfl (Nat.le_of_ble_eq_true rfl) (by decide) (by decide) ⟨Nat.le_of_ble_eq_true rfl, Nat.le_of_ble_eq_true rfl⟩ (fun v8 => ?_)
        refine z_if_ne C 69 dX3_isName_48 (by decide) ?_ ?_
        · refine z_aload_n C dX3_isName_51 0 rfl ?_
          refine z_ldcS C 4 rfl dX3_isName_52 ?_
          refine z_callVp C zc_X3_59 [.ref (ro 4)] (fun l D tc b0 r h => m_X3_spells l D tc ro b0 h) dX3_isName_54 rfl rfl (Nat.le_of_ble_eq_true rfl) (by decide) (by decide) ⟨Nat.le_of_ble_eq_true rfl, Nat.le_of_ble_eq_true rfl⟩ (fun v9 => ?_)
          refine z_if_ne C 69 dX3_isName_57 (by decide) ?_ ?_
          · refine z_aload_n C dX3_isName_60 0 rfl ?_
            refine z_ldcS C 5 rfl dX3_isName_61 ?_
            refine z_callVp C zc_X3_59 [.ref (ro 5)] (fun l D tc b0 r h => m_X3_spells l D tc ro b0 h) dX3_isName_63 rfl rfl (Nat.le_of_ble_eq_true rfl) (by decide) (by decide) ⟨Nat.le_of_ble_eq_true rfl, Nat.le_of_ble_eq_true rfl⟩ (fun v10 => ?_)
            refine z_if_eq C 73 dX3_isName_66 (by decide) ?_ ?_
            · refine z_iconst C dX3_isName_73 zi_0 ?_
              exact wj_X3_isName_74 C
            refine z_iconst C dX3_isName_69 zi_1 ?_
            refine z_goto C 74 dX3_isName_70 (by decide) ?_
            exact wj_X3_isName_74 C
          refine z_iconst C dX3_isName_69 zi_1 ?_
          refine z_goto C 74 dX3_isName_70 (by decide) ?_
          exact wj_X3_isName_74 C
        refine z_iconst C dX3_isName_69 zi_1 ?_
        refine z_goto C 74 dX3_isName_70 (by decide) ?_
        exact wj_X3_isName_74 C
      refine z_iconst C dX3_isName_69 zi_1 ?_
      refine z_goto C 74 dX3_isName_70 (by decide) ?_
      exact wj_X3_isName_74 C
    refine z_iconst C dX3_isName_69 zi_1 ?_
    refine z_goto C 74 dX3_isName_70 (by decide) ?_
    exact wj_X3_isName_74 C
  refine z_iconst C dX3_isName_22 zi_0 ?_
  exact z_kreturnP C rfl dX3_isName_23
noncomputable def j_X3_packed_43 (k56 : Int32 → Option Int32) (rec : Int32 → Int32 → Option Int32) (a0 : Nat) (x1 : Int32) (x2 : Int32) (s0 : Int32) (hp : zHp) : Option Int32 :=
  zlet ((x1 <<< ((5 : Int32) &&& 31)) ||| s0) fun v3 => zlet (x2 + (1 : Int32)) fun v4 => rec v3 v4
set_option maxHeartbeats 4000000 in
set_option maxRecDepth 100000 in
theorem wj_X3_packed_43 {P : zX} {ro : Nat → Nat} {sz : Nat} (C : zC P cX3_packed RX3 (some .int) 1 0 0 4 ro) {a0 : Nat} {x1 : Int32} {x2 : Int32} {s0 : Int32} {hp : zHp} {k56 : Int32 → Option Int32} (hk56 : ∀ (x1 : Int32), zG P (zoP sz hp) (k56 x1) 56 [(1, .int x1)] [] hp sz 0 0) {rec : Int32 → Int32 → Option Int32} (hrec : ∀ (x1 : Int32) (x2 : Int32), zG P (zoP sz hp) (rec x1 x2) 4 [(0, .ref a0), (1, .int x1), (2, .int x2)] [] hp sz 0 0) : zG P (zoP sz hp) (j_X3_packed_43 k56 rec a0 x1 x2 s0 hp) 43 [(0, .ref a0), (1, .int x1), (2, .int x2)] [.int s0] hp sz 0 0 := by
  unfold j_X3_packed_43
  refine z_istore_n (lv' := [(0, .ref a0), (1, .int x1), (2, .int x2), (3, .int s0)]) C dX3_packed_43 (by decide) rfl ?_
  refine z_iload_n C dX3_packed_44 1 rfl ?_
  refine z_iconst C dX3_packed_45 zi_5 ?_
  refine z_ishl C dX3_packed_46 ?_
  refine z_iload_n C dX3_packed_47 3 rfl ?_
  refine z_ior C dX3_packed_48 ?_
  refine z_istore_nL C (fun v3 => [(0, .ref a0), (1, .int v3), (2, .int x2), (3, .int s0)]) dX3_packed_49 (by decide) (fun _ => rfl) (fun v3 => ?_)
  refine z_iincL C 2 (fun v4 => [(0, .ref a0), (1, .int v3), (2, .int v4), (3, .int s0)]) dX3_packed_50 rfl zi_1 (by decide) (fun _ => rfl) (fun v4 => ?_)
  refine z_goto C 4 dX3_packed_53 (by decide) ?_
  exact z_sub [0, 1, 2] rfl (hrec _ _)
noncomputable def b_X3_packed_4 (k56 : Int32 → Option Int32) (a0 : Nat) (hp : zHp) (rec : Int32 → Int32 → Option Int32) (x1 : Int32) (x2 : Int32) : Option Int32 :=
  if x2 < (6 : Int32) then ((zgI hp a0 3 4).bind fun v1 => (zgI hp a0 3 5).bind fun v2 => if (v1 + x2) < v2 then ((zgR hp a0 3 0).bind fun r5 => (zgI hp a0 3 4).bind fun v6 => (zaI hp 1 r5 (v6 + x2)).bind fun v7 => j_X3_packed_43 k56 rec a0 x1 x2 ((v7 - (97 : Int32)) + (1 : Int32)) hp) else j_X3_packed_43 k56 rec a0 x1 x2 (0 : Int32) hp) else k56 x1
noncomputable def l_X3_packed_4 (k56 : Int32 → Option Int32) (a0 : Nat) (hp : zHp) (n : Nat) : Int32 → Int32 → Option Int32 :=
  Nat.rec (motive := fun _ => Int32 → Int32 → Option Int32) (fun _ _ => none) (fun _ rec => b_X3_packed_4 k56 a0 hp rec) n
theorem l_X3_packed_4_s (k56 : Int32 → Option Int32) (a0 : Nat) (hp : zHp) (n : Nat) (x1 : Int32) (x2 : Int32) : l_X3_packed_4 k56 a0 hp (n + 1) x1 x2 = b_X3_packed_4 k56 a0 hp (l_X3_packed_4 k56 a0 hp n) x1 x2 := rfl
set_option maxHeartbeats 4000000 in
set_option maxRecDepth 100000 in
theorem wl_X3_packed_4 {P : zX} {ro : Nat → Nat} {sz : Nat} (C : zC P cX3_packed RX3 (some .int) 1 0 0 4 ro) {a0 : Nat} {hp : zHp} {k56 : Int32 → Option Int32} (hk56 : ∀ (x1 : Int32), zG P (zoP sz hp) (k56 x1) 56 [(1, .int x1)] [] hp sz 0 0) : ∀ (n : Nat) (x1 : Int32) (x2 : Int32), zG P (zoP sz hp) (l_X3_packed_4 k56 a0 hp n x1 x2) 4 [(0, .ref a0), (1, .int x1), (2, .int x2)] [] hp sz 0 0 := by
  intro n
  induction n with
  | zero =>
    intro x1 x2
    show zG P (zoP sz hp) none _ _ _ _ _ _ _
    exact z_none
  | succ n ih =>
    intro x1 x2
    show zG P (zoP sz hp) (b_X3_packed_4 k56 a0 hp (l_X3_packed_4 k56 a0 hp n) x1 x2) _ _ _ _ _ _ _
    unfold b_X3_packed_4
    refine z_iload_n C dX3_packed_4 2 rfl ?_
    refine z_bipush C dX3_packed_5 zbi_6 ?_
    refine z_icmp_ge C 56 dX3_packed_7 (by decide) ?_ ?_
    · refine z_aload_n C dX3_packed_10 0 rfl ?_
      refine z_getI C zf_X3_34 dX3_packed_11 (fun v1 => ?_)
      refine z_iload_n C dX3_packed_14 2 rfl ?_
      refine z_iadd C dX3_packed_15 ?_
      refine z_aload_n C dX3_packed_16 0 rfl ?_
      refine z_getI C zf_X3_28 dX3_packed_17 (fun v2 => ?_)
      refine z_icmp_ge C 42 dX3_packed_20 (by decide) ?_ ?_
      · refine z_aload_n C dX3_packed_23 0 rfl ?_
        refine z_getR C zf_X3_9 dX3_packed_24 (fun r5 => ?_)
        refine z_aload_n C dX3_packed_27 0 rfl ?_
        refine z_getI C zf_X3_34 dX3_packed_28 (fun v6 => ?_)
        refine z_iload_n C dX3_packed_31 2 rfl ?_
        refine z_iadd C dX3_packed_32 ?_
        refine z_baload C dX3_packed_33 (fun v7 => ?_)
        refine z_bipush C dX3_packed_34 zbi_97 ?_
        refine z_isub C dX3_packed_36 ?_
        refine z_iconst C dX3_packed_37 zi_1 ?_
        refine z_iadd C dX3_packed_38 ?_
        refine z_goto C 43 dX3_packed_39 (by decide) ?_
        exact wj_X3_packed_43 C hk56 ih
      refine z_iconst C dX3_packed_42 zi_0 ?_
      exact wj_X3_packed_43 C hk56 ih
    exact z_sub [1] rfl (hk56 _)
noncomputable def f_X3_packed (a0 : Nat) (hp : zHp) : Option Int32 :=
  (zis hp a0 3).bind fun _ => l_X3_packed_4 (fun p8 => some p8) a0 hp 1000000 (0 : Int32) (0 : Int32)
set_option maxHeartbeats 4000000 in
set_option maxRecDepth 100000 in
theorem m_X3_packed (l : Launch) (D : va_G) (tc : Nat → ClassId) (ro : Nat → Nat) (b0 : Nat) {a0 : Nat} {hp : zHp} {sz : Nat} {r : Int32} (h : f_X3_packed a0 hp = some r) : zis hp a0 3 = some () ∧ zM l yX3_packed cX3_packed 4 (some .int) 1 0 0 [.ref a0] D tc ro b0 hp sz ((zoP sz hp) r).1 ((zoP sz hp) r).2.1 ((zoP sz hp) r).2.2 := by
  refine ⟨?_, z_start (o := (zoP sz hp)) (lv := [(0, .ref a0)]) h (by decide +kernel) RX3 rfl rfl (Nat.le_of_ble_eq_true rfl) (fun P C => ?_)⟩
  · unfold f_X3_packed at h
    cases hc : zis hp a0 3 with
    | none => rw [hc] at h; cases h
    | some u => rfl
  unfold f_X3_packed
  refine z_is ?_
  refine z_iconst C dX3_packed_0 zi_0 ?_
  refine z_istore_n (lv' := [(0, .ref a0), (1, .int (0 : Int32))]) C dX3_packed_1 (by decide) rfl ?_
  refine z_iconst C dX3_packed_2 zi_0 ?_
  refine z_istore_n (lv' := [(0, .ref a0), (1, .int (0 : Int32)), (2, .int (0 : Int32))]) C dX3_packed_3 (by decide) rfl ?_
  refine wl_X3_packed_4 C (fun p8 => ?_) _ _ _
  refine z_iload_n C dX3_packed_56 0 rfl ?_
  exact z_ireturnP C dX3_packed_57
noncomputable def b_X3_value_7 (k41 : Int32 → Option Int32) (a0 : Nat) (hp : zHp) (rec : Int32 → Int32 → Option Int32) (x1 : Int32) (x2 : Int32) : Option Int32 :=
  (zgI hp a0 3 5).bind fun v2 => if x2 < v2 then ((zgR hp a0 3 0).bind fun r3 => (zaI hp 1 r3 x2).bind fun v4 => zlet (zmin (((x1 * (10 : Int32)) + v4) - (48 : Int32)) (99999 : Int32)) fun v5 => zlet (x2 + (1 : Int32)) fun v6 => rec v5 v6) else k41 x1
noncomputable def l_X3_value_7 (k41 : Int32 → Option Int32) (a0 : Nat) (hp : zHp) (n : Nat) : Int32 → Int32 → Option Int32 :=
  Nat.rec (motive := fun _ => Int32 → Int32 → Option Int32) (fun _ _ => none) (fun _ rec => b_X3_value_7 k41 a0 hp rec) n
theorem l_X3_value_7_s (k41 : Int32 → Option Int32) (a0 : Nat) (hp : zHp) (n : Nat) (x1 : Int32) (x2 : Int32) : l_X3_value_7 k41 a0 hp (n + 1) x1 x2 = b_X3_value_7 k41 a0 hp (l_X3_value_7 k41 a0 hp n) x1 x2 := rfl
set_option maxHeartbeats 4000000 in
set_option maxRecDepth 100000 in
theorem wl_X3_value_7 {P : zX} {ro : Nat → Nat} {sz : Nat} (C : zC P cX3_value RX3 (some .int) 1 0 0 3 ro) {a0 : Nat} {hp : zHp} {k41 : Int32 → Option Int32} (hk41 : ∀ (x1 : Int32), zG P (zoP sz hp) (k41 x1) 41 [(1, .int x1)] [] hp sz 0 0) : ∀ (n : Nat) (x1 : Int32) (x2 : Int32), zG P (zoP sz hp) (l_X3_value_7 k41 a0 hp n x1 x2) 7 [(0, .ref a0), (1, .int x1), (2, .int x2)] [] hp sz 0 0 := by
  intro n
  induction n with
  | zero =>
    intro x1 x2
    show zG P (zoP sz hp) none _ _ _ _ _ _ _
    exact z_none
  | succ n ih =>
    intro x1 x2
    show zG P (zoP sz hp) (b_X3_value_7 k41 a0 hp (l_X3_value_7 k41 a0 hp n) x1 x2) _ _ _ _ _ _ _
    unfold b_X3_value_7
    refine z_iload_n C dX3_value_7 2 rfl ?_
    refine z_aload_n C dX3_value_8 0 rfl ?_
    refine z_getI C zf_X3_28 dX3_value_9 (fun v2 => ?_)
    refine z_icmp_ge C 41 dX3_value_12 (by decide) ?_ ?_
    · refine z_iload_n C dX3_value_15 1 rfl ?_
      refine z_bipush C dX3_value_16 zbi_10 ?_
      refine z_imul C dX3_value_18 ?_
      refine z_aload_n C dX3_value_19 0 rfl ?_
      refine z_getR C zf_X3_9 dX3_value_20 (fun r3 => ?_)
      refine z_iload_n C dX3_value_23 2 rfl ?_
      refine z_baload C dX3_value_24 (fun v4 => ?_)
      refine z_iadd C dX3_value_25 ?_
      refine z_bipush C dX3_value_26 zbi_48 ?_
      refine z_isub C dX3_value_28 ?_
      refine z_ldcI C zk_X3_75 dX3_value_29 ?_
      refine z_mmin C zm_X3_19 dX3_value_31 (Nat.le_of_ble_eq_true rfl) (by decide) ⟨Nat.le_of_ble_eq_true rfl, Nat.le_of_ble_eq_true rfl⟩ ?_
      refine z_istore_nL C (fun v5 => [(0, .ref a0), (1, .int v5), (2, .int x2)]) dX3_value_34 (by decide) (fun _ => rfl) (fun v5 => ?_)
      refine z_iincL C 2 (fun v6 => [(0, .ref a0), (1, .int v5), (2, .int v6)]) dX3_value_35 rfl zi_1 (by decide) (fun _ => rfl) (fun v6 => ?_)
      refine z_goto C 7 dX3_value_38 (by decide) ?_
      exact ih _ _
    exact z_sub [1] rfl (hk41 _)
noncomputable def f_X3_value (a0 : Nat) (hp : zHp) : Option Int32 :=
  (zis hp a0 3).bind fun _ => (zgI hp a0 3 4).bind fun v1 => l_X3_value_7 (fun p7 => some p7) a0 hp 1000000 (0 : Int32) v1
set_option maxHeartbeats 4000000 in
set_option maxRecDepth 100000 in
theorem m_X3_value (l : Launch) (D : va_G) (tc : Nat → ClassId) (ro : Nat → Nat) (b0 : Nat) {a0 : Nat} {hp : zHp} {sz : Nat} {r : Int32} (h : f_X3_value a0 hp = some r) : zis hp a0 3 = some () ∧ zM l yX3_value cX3_value 3 (some .int) 1 0 0 [.ref a0] D tc ro b0 hp sz ((zoP sz hp) r).1 ((zoP sz hp) r).2.1 ((zoP sz hp) r).2.2 := by
  refine ⟨?_, z_start (o := (zoP sz hp)) (lv := [(0, .ref a0)]) h (by decide +kernel) RX3 rfl rfl (Nat.le_of_ble_eq_true rfl) (fun P C => ?_)⟩
  · unfold f_X3_value at h
    cases hc : zis hp a0 3 with
    | none => rw [hc] at h; cases h
    | some u => rfl
  unfold f_X3_value
  refine z_is ?_
  refine z_iconst C dX3_value_0 zi_0 ?_
  refine z_istore_n (lv' := [(0, .ref a0), (1, .int (0 : Int32))]) C dX3_value_1 (by decide) rfl ?_
  refine z_aload_n C dX3_value_2 0 rfl ?_
  refine z_getI C zf_X3_34 dX3_value_3 (fun v1 => ?_)
  refine z_istore_n (lv' := [(0, .ref a0), (1, .int (0 : Int32)), (2, .int v1)]) C dX3_value_6 (by decide) rfl ?_
  refine wl_X3_value_7 C (fun p7 => ?_) _ _ _
  refine z_iload_n C dX3_value_41 0 rfl ?_
  exact z_ireturnP C dX3_value_42
noncomputable def f_X4_init (mc ms : Nat) (a0 : Nat) (hp : zHp) (sz : Nat) : Option (zHp × Nat) :=
  zchk (0 + 1 ≤ mc ∧ 0 + 6 ≤ ms) <| zlet (zup hp sz (.inr (3, [.null, .int 0, .int 0, .int 0, .int 0, .int 0]))) fun h2 => zchk ((0 + 1) + 1 ≤ mc ∧ (0 + 6) + 900 ≤ ms) <| zb2 (f_X3_init 1 900 sz h2 ((sz + 1))) fun h4 z5 => (zpV h4 a0 4 0 (.ref sz)).bind fun h6 => zchk (((0 + 1) + 1) + 1 ≤ mc ∧ ((0 + 6) + 900) + 10 ≤ ms) <| zlet (zup h6 z5 (.inr (5, [.null, .null, .null, .null, .null, .null, .null, .null, .null, .null]))) fun h8 => zchk ((((0 + 1) + 1) + 1) + 27 ≤ mc ∧ (((0 + 6) + 900) + 10) + 207 ≤ ms) <| zb2 (f_X5_init 27 207 z5 h8 ((z5 + 1))) fun h10 z11 => (zpV h10 a0 4 1 (.ref z5)).bind fun h12 => (zpV h12 a0 4 3 (.int (-1 : Int32))).bind fun h13 => some (h13, z11)
set_option maxHeartbeats 4000000 in
set_option maxRecDepth 100000 in
theorem m_X4_init (l : Launch) (D : va_G) (tc : Nat → ClassId) (ro : Nat → Nat) (b0 : Nat) {mc ms : Nat} {a0 : Nat} {hp : zHp} {sz : Nat} {r : (zHp × Nat)} (h : f_X4_init mc ms a0 hp sz = some r) : zM l yX4_init cX4_init 1 none 2 mc ms [.ref a0] D tc ro b0 hp sz (zoVA r).1 (zoVA r).2.1 (zoVA r).2.2 := by
  refine z_startI (o := zoVA) (lv := [(0, .ref a0)]) h (by decide +kernel) RX4 rfl rfl rfl (Nat.le_of_ble_eq_true rfl) (fun P C CI => ?_)
  unfold f_X4_init
  refine z_aload_n C dX4_init_0 0 rfl ?_
  refine z_objInit C zo_X4_3 dX4_init_1 (by decide) (Nat.le_of_ble_eq_true rfl) ?_
  refine z_aload_n C dX4_init_4 0 rfl ?_
  refine z_chk (fun q1 => ?_)
  refine z_new C za_X4_9 dX4_init_5 q1 (fun h2 => ?_)
  refine z_dup C dX4_init_8 rfl ?_
  refine z_chk (fun q3 => ?_)
  refine z_callI C (Or.inr ⟨_, zci_X4_11⟩) [] (fun l D tc b0 r h => m_X3_init l D tc ro b0 h) dX4_init_9 rfl rfl (Nat.le_of_ble_eq_true rfl) (by decide) (by decide) q3 (fun h4 z5 => ?_)
  refine z_putF C CI zpf_X4_12 rfl rfl dX4_init_12 (fun h6 => ?_)
  refine z_aload_n C dX4_init_15 0 rfl ?_
  refine z_chk (fun q7 => ?_)
  refine z_new C za_X4_18 dX4_init_16 q7 (fun h8 => ?_)
  refine z_dup C dX4_init_19 rfl ?_
  refine z_chk (fun q9 => ?_)
  refine z_callI C (Or.inr ⟨_, zci_X4_20⟩) [] (fun l D tc b0 r h => m_X5_init l D tc ro b0 h) dX4_init_20 rfl rfl (Nat.le_of_ble_eq_true rfl) (by decide) (by decide) q9 (fun h10 z11 => ?_)
  refine z_putR C zp_X4_21 rfl rfl dX4_init_23 (fun h12 => ?_)
  refine z_aload_n C dX4_init_26 0 rfl ?_
  refine z_iconst C dX4_init_27 zi_m1 ?_
  refine z_putI C zp_X4_25 dX4_init_28 (fun h13 => ?_)
  exact z_returnA C dX4_init_31 q9
noncomputable def f_X4_exchange (a0 : Nat) (a1 : Nat) (hp : zHp) : Option (Nat × zHp) :=
  (zis hp a0 4).bind fun _ => (zgR hp a0 4 1).bind fun r1 => (zpV hp a0 4 1 (.ref a1)).bind fun h2 => some (r1, h2)
set_option maxHeartbeats 4000000 in
set_option maxRecDepth 100000 in
theorem m_X4_exchange (l : Launch) (D : va_G) (tc : Nat → ClassId) (ro : Nat → Nat) (b0 : Nat) {a0 : Nat} {a1 : Nat} {hp : zHp} {sz : Nat} {r : (Nat × zHp)} (h : f_X4_exchange a0 a1 hp = some r) : zis hp a0 4 = some () ∧ zM l yX4_exchange cX4_exchange 3 (some (.object "CountHall$Plan")) 1 0 0 [.ref a0, .ref a1] D tc ro b0 hp sz ((zoR sz) r).1 ((zoR sz) r).2.1 ((zoR sz) r).2.2 := by
  refine ⟨?_, z_start (o := (zoR sz)) (lv := [(0, .ref a0), (1, .ref a1)]) h (by decide +kernel) RX4 rfl rfl (Nat.le_of_ble_eq_true rfl) (fun P C => ?_)⟩
  · unfold f_X4_exchange at h
    cases hc : zis hp a0 4 with
    | none => rw [hc] at h; cases h
    | some u => rfl
  unfold f_X4_exchange
  refine z_is ?_
  refine z_aload_n C dX4_exchange_0 0 rfl ?_
  refine z_getR C zf_X4_21 dX4_exchange_1 (fun r1 => ?_)
  refine z_astore_n (lv' := [(0, .ref a0), (1, .ref a1), (2, .ref r1)]) C dX4_exchange_4 (by decide) rfl ?_
  refine z_aload_n C dX4_exchange_5 0 rfl ?_
  refine z_aload_n C dX4_exchange_6 1 rfl ?_
  refine z_putR C zp_X4_21 rfl rfl dX4_exchange_7 (fun h2 => ?_)
  refine z_aload_n C dX4_exchange_10 2 rfl ?_
  exact z_areturn C (Or.inl ⟨_, rfl⟩) dX4_exchange_11
noncomputable def b_X5_clear_2 (k20 : zHp → Option zHp) (a0 : Nat) (rec : Int32 → zHp → Option zHp) (x1 : Int32) (h : zHp) : Option zHp :=
  if x1 < (5 : Int32) then ((zgR h a0 5 0).bind fun r1 => (zsI h r1 x1 (0 : Int32)).bind fun h2 => zlet (x1 + (1 : Int32)) fun v3 => rec v3 h2) else k20 h
noncomputable def l_X5_clear_2 (k20 : zHp → Option zHp) (a0 : Nat) (n : Nat) : Int32 → zHp → Option zHp :=
  Nat.rec (motive := fun _ => Int32 → zHp → Option zHp) (fun _ _ => none) (fun _ rec => b_X5_clear_2 k20 a0 rec) n
theorem l_X5_clear_2_s (k20 : zHp → Option zHp) (a0 : Nat) (n : Nat) (x1 : Int32) (h : zHp) : l_X5_clear_2 k20 a0 (n + 1) x1 h = b_X5_clear_2 k20 a0 (l_X5_clear_2 k20 a0 n) x1 h := rfl
set_option maxHeartbeats 4000000 in
set_option maxRecDepth 100000 in
theorem wl_X5_clear_2 {P : zX} {ro : Nat → Nat} {sz : Nat} (C : zC P cX5_clear RX5 none 1 0 0 2 ro) {a0 : Nat} {k20 : zHp → Option zHp} (hk20 : ∀ (h : zHp), zG P (zoV sz) (k20 h) 20 [(0, .ref a0)] [] h sz 0 0) : ∀ (n : Nat) (x1 : Int32) (h : zHp), zG P (zoV sz) (l_X5_clear_2 k20 a0 n x1 h) 2 [(0, .ref a0), (1, .int x1)] [] h sz 0 0 := by
  intro n
  induction n with
  | zero =>
    intro x1 h
    show zG P (zoV sz) none _ _ _ _ _ _ _
    exact z_none
  | succ n ih =>
    intro x1 h
    show zG P (zoV sz) (b_X5_clear_2 k20 a0 (l_X5_clear_2 k20 a0 n) x1 h) _ _ _ _ _ _ _
    unfold b_X5_clear_2
    refine z_iload_n C dX5_clear_2 1 rfl ?_
    refine z_iconst C dX5_clear_3 zi_5 ?_
    refine z_icmp_ge C 20 dX5_clear_4 (by decide) ?_ ?_
    · refine z_aload_n C dX5_clear_7 0 rfl ?_
      refine z_getR C zf_X5_9 dX5_clear_8 (fun r1 => ?_)
      refine z_iload_n C dX5_clear_11 1 rfl ?_
      refine z_iconst C dX5_clear_12 zi_0 ?_
      refine z_iastore C dX5_clear_13 (fun h2 => ?_)
      refine z_iincL C 1 (fun v3 => [(0, .ref a0), (1, .int v3)]) dX5_clear_14 rfl zi_1 (by decide) (fun _ => rfl) (fun v3 => ?_)
      refine z_goto C 2 dX5_clear_17 (by decide) ?_
      exact ih _ _
    exact z_sub [0] rfl (hk20 _)
noncomputable def f_X5_clear (a0 : Nat) (hp : zHp) : Option zHp :=
  (zis hp a0 5).bind fun _ => l_X5_clear_2 (fun h4 => (zgR h4 a0 5 9).bind fun r5 => (zsI h4 r5 (0 : Int32) (5 : Int32)).bind fun h6 => (zgR h6 a0 5 9).bind fun r7 => (zsI h6 r7 (1 : Int32) (0 : Int32)).bind fun h8 => some h8) a0 1000000 (0 : Int32) hp
set_option maxHeartbeats 4000000 in
set_option maxRecDepth 100000 in
theorem m_X5_clear (l : Launch) (D : va_G) (tc : Nat → ClassId) (ro : Nat → Nat) (b0 : Nat) {a0 : Nat} {hp : zHp} {sz : Nat} {r : zHp} (h : f_X5_clear a0 hp = some r) : zis hp a0 5 = some () ∧ zM l yX5_clear cX5_clear 2 none 1 0 0 [.ref a0] D tc ro b0 hp sz ((zoV sz) r).1 ((zoV sz) r).2.1 ((zoV sz) r).2.2 := by
  refine ⟨?_, z_start (o := (zoV sz)) (lv := [(0, .ref a0)]) h (by decide +kernel) RX5 rfl rfl (Nat.le_of_ble_eq_true rfl) (fun P C => ?_)⟩
  · unfold f_X5_clear at h
    cases hc : zis hp a0 5 with
    | none => rw [hc] at h; cases h
    | some u => rfl
  unfold f_X5_clear
  refine z_is ?_
  refine z_iconst C dX5_clear_0 zi_0 ?_
  refine z_istore_n (lv' := [(0, .ref a0), (1, .int (0 : Int32))]) C dX5_clear_1 (by decide) rfl ?_
  refine wl_X5_clear_2 C (fun h4 => ?_) _ _ _
  refine z_aload_n C dX5_clear_20 0 rfl ?_
  refine z_getR C zf_X5_41 dX5_clear_21 (fun r5 => ?_)
  refine z_iconst C dX5_clear_24 zi_0 ?_
  refine z_iconst C dX5_clear_25 zi_5 ?_
  refine z_iastore C dX5_clear_26 (fun h6 => ?_)
  refine z_aload_n C dX5_clear_27 0 rfl ?_
  refine z_getR C zf_X5_41 dX5_clear_28 (fun r7 => ?_)
  refine z_iconst C dX5_clear_31 zi_1 ?_
  refine z_iconst C dX5_clear_32 zi_0 ?_
  refine z_iastore C dX5_clear_33 (fun h8 => ?_)
  exact z_return C dX5_clear_34
noncomputable def f_X4_beginThing (a0 : Nat) (x1 : Int32) (x2 : Int32) (hp : zHp) : Option (Int32 × zHp) :=
  (zis hp a0 4).bind fun _ => (zgR hp a0 4 1).bind fun r1 => (zgR hp r1 5 0).bind fun r2 => (zaI hp 0 r2 x1).bind fun v3 => if v3 < x2 then ((zgR hp a0 4 0).bind fun r4 => (f_X3_next r4 hp).bind fun h5 => some ((0 : Int32), h5)) else some ((-15 : Int32), hp)
set_option maxHeartbeats 4000000 in
set_option maxRecDepth 100000 in
theorem m_X4_beginThing (l : Launch) (D : va_G) (tc : Nat → ClassId) (ro : Nat → Nat) (b0 : Nat) {a0 : Nat} {x1 : Int32} {x2 : Int32} {hp : zHp} {sz : Nat} {r : (Int32 × zHp)} (h : f_X4_beginThing a0 x1 x2 hp = some r) : zis hp a0 4 = some () ∧ zM l yX4_beginThing cX4_beginThing 3 (some .int) 3 0 0 [.ref a0, .int x1, .int x2] D tc ro b0 hp sz ((zoI sz) r).1 ((zoI sz) r).2.1 ((zoI sz) r).2.2 := by
  refine ⟨?_, z_start (o := (zoI sz)) (lv := [(0, .ref a0), (1, .int x1), (2, .int x2)]) h (by decide +kernel) RX4 rfl rfl (Nat.le_of_ble_eq_true rfl) (fun P C => ?_)⟩
  · unfold f_X4_beginThing at h
    cases hc : zis hp a0 4 with
    | none => rw [hc] at h; cases h
    | some u => rfl
  unfold f_X4_beginThing
  refine z_is ?_
  refine z_aload_n C dX4_beginThing_0 0 rfl ?_
  refine z_getR C zf_X4_21 dX4_beginThing_1 (fun r1 => ?_)
  refine z_getR C zf_X4_89 dX4_beginThing_4 (fun r2 => ?_)
  refine z_iload_n C dX4_beginThing_7 1 rfl ?_
  refine z_iaload C dX4_beginThing_8 (fun v3 => ?_)
  refine z_iload_n C dX4_beginThing_9 2 rfl ?_
  refine z_icmp_lt C 16 dX4_beginThing_10 (by decide) ?_ ?_
  · refine z_aload_n C dX4_beginThing_16 0 rfl ?_
    refine z_getR C zf_X4_12 dX4_beginThing_17 (fun r4 => ?_)
    refine z_callVv C zc_X4_52 [] (fun l D tc b0 r h => m_X3_next l D tc ro b0 h) dX4_beginThing_20 rfl rfl (Nat.le_of_ble_eq_true rfl) (by decide) (by decide) ⟨Nat.le_of_ble_eq_true rfl, Nat.le_of_ble_eq_true rfl⟩ (fun h5 => ?_)
    refine z_iconst C dX4_beginThing_23 zi_0 ?_
    exact z_ireturn C dX4_beginThing_24
  refine z_bipush C dX4_beginThing_13 zbi_m15 ?_
  exact z_ireturn C dX4_beginThing_15
noncomputable def b_X5_find_2 (k24 : Int32 → Option Int32) (k32 : Option Int32) (a0 : Nat) (x1 : Int32) (x2 : Int32) (hp : zHp) (rec : Int32 → Option Int32) (x3 : Int32) : Option Int32 :=
  (zgR hp a0 5 0).bind fun r1 => (zaI hp 0 r1 x1).bind fun v2 => if x3 < v2 then ((zgR hp a0 5 1).bind fun r3 => (zaR hp 5 r3 x1).bind fun r4 => (zaI hp 0 r4 x3).bind fun v5 => if v5 = x2 then (k24 x3) else zlet (x3 + (1 : Int32)) fun v6 => rec v6) else k32
noncomputable def l_X5_find_2 (k24 : Int32 → Option Int32) (k32 : Option Int32) (a0 : Nat) (x1 : Int32) (x2 : Int32) (hp : zHp) (n : Nat) : Int32 → Option Int32 :=
  Nat.rec (motive := fun _ => Int32 → Option Int32) (fun _ => none) (fun _ rec => b_X5_find_2 k24 k32 a0 x1 x2 hp rec) n
theorem l_X5_find_2_s (k24 : Int32 → Option Int32) (k32 : Option Int32) (a0 : Nat) (x1 : Int32) (x2 : Int32) (hp : zHp) (n : Nat) (x3 : Int32) : l_X5_find_2 k24 k32 a0 x1 x2 hp (n + 1) x3 = b_X5_find_2 k24 k32 a0 x1 x2 hp (l_X5_find_2 k24 k32 a0 x1 x2 hp n) x3 := rfl
set_option maxHeartbeats 4000000 in
set_option maxRecDepth 100000 in
theorem wl_X5_find_2 {P : zX} {ro : Nat → Nat} {sz : Nat} (C : zC P cX5_find RX5 (some .int) 1 0 0 4 ro) {a0 : Nat} {x1 : Int32} {x2 : Int32} {hp : zHp} {k24 : Int32 → Option Int32} (hk24 : ∀ (x3 : Int32), zG P (zoP sz hp) (k24 x3) 24 [(3, .int x3)] [] hp sz 0 0) {k32 : Option Int32} (hk32 : zG P (zoP sz hp) (k32) 32 [] [] hp sz 0 0) : ∀ (n : Nat) (x3 : Int32), zG P (zoP sz hp) (l_X5_find_2 k24 k32 a0 x1 x2 hp n x3) 2 [(0, .ref a0), (1, .int x1), (2, .int x2), (3, .int x3)] [] hp sz 0 0 := by
  intro n
  induction n with
  | zero =>
    intro x3
    show zG P (zoP sz hp) none _ _ _ _ _ _ _
    exact z_none
  | succ n ih =>
    intro x3
    show zG P (zoP sz hp) (b_X5_find_2 k24 k32 a0 x1 x2 hp (l_X5_find_2 k24 k32 a0 x1 x2 hp n) x3) _ _ _ _ _ _ _
    unfold b_X5_find_2
    refine z_iload_n C dX5_find_2 3 rfl ?_
    refine z_aload_n C dX5_find_3 0 rfl ?_
    refine z_getR C zf_X5_9 dX5_find_4 (fun r1 => ?_)
    refine z_iload_n C dX5_find_7 1 rfl ?_
    refine z_iaload C dX5_find_8 (fun v2 => ?_)
    refine z_icmp_ge C 32 dX5_find_9 (by decide) ?_ ?_
    · refine z_aload_n C dX5_find_12 0 rfl ?_
      refine z_getR C zf_X5_17 dX5_find_13 (fun r3 => ?_)
      refine z_iload_n C dX5_find_16 1 rfl ?_
      refine z_aaload (t := 5) (ty := .array .int) C (fun _ => rfl) rfl (by decide) dX5_find_17 (fun r4 => ?_)
      refine z_iload_n C dX5_find_18 3 rfl ?_
      refine z_iaload C dX5_find_19 (fun v5 => ?_)
      refine z_iload_n C dX5_find_20 2 rfl ?_
      refine z_icmp_ne C 26 dX5_find_21 (by decide) ?_ ?_
      · exact z_sub [3] rfl (hk24 _)
      refine z_iincL C 3 (fun v6 => [(0, .ref a0), (1, .int x1), (2, .int x2), (3, .int v6)]) dX5_find_26 rfl zi_1 (by decide) (fun _ => rfl) (fun v6 => ?_)
      refine z_goto C 2 dX5_find_29 (by decide) ?_
      exact ih _
    exact z_sub [] rfl (hk32)
noncomputable def f_X5_find (a0 : Nat) (x1 : Int32) (x2 : Int32) (hp : zHp) : Option Int32 :=
  (zis hp a0 5).bind fun _ => l_X5_find_2 (fun p7 => some p7) (some (-1 : Int32)) a0 x1 x2 hp 1000000 (0 : Int32)
set_option maxHeartbeats 4000000 in
set_option maxRecDepth 100000 in
theorem m_X5_find (l : Launch) (D : va_G) (tc : Nat → ClassId) (ro : Nat → Nat) (b0 : Nat) {a0 : Nat} {x1 : Int32} {x2 : Int32} {hp : zHp} {sz : Nat} {r : Int32} (h : f_X5_find a0 x1 x2 hp = some r) : zis hp a0 5 = some () ∧ zM l yX5_find cX5_find 4 (some .int) 1 0 0 [.ref a0, .int x1, .int x2] D tc ro b0 hp sz ((zoP sz hp) r).1 ((zoP sz hp) r).2.1 ((zoP sz hp) r).2.2 := by
  refine ⟨?_, z_start (o := (zoP sz hp)) (lv := [(0, .ref a0), (1, .int x1), (2, .int x2)]) h (by decide +kernel) RX5 rfl rfl (Nat.le_of_ble_eq_true rfl) (fun P C => ?_)⟩
  · unfold f_X5_find at h
    cases hc : zis hp a0 5 with
    | none => rw [hc] at h; cases h
    | some u => rfl
  unfold f_X5_find
  refine z_is ?_
  refine z_iconst C dX5_find_0 zi_0 ?_
  refine z_istore_n (lv' := [(0, .ref a0), (1, .int x1), (2, .int x2), (3, .int (0 : Int32))]) C dX5_find_1 (by decide) rfl ?_
  refine wl_X5_find_2 C (fun p7 => ?_) ?_ _ _
  · refine z_iload_n C dX5_find_24 0 rfl ?_
    exact z_ireturnP C dX5_find_25
  refine z_iconst C dX5_find_32 zi_m1 ?_
  exact z_ireturnP C dX5_find_33
noncomputable def f_X4_readNewName (ro : Nat → Nat) (a0 : Nat) (x1 : Int32) (x2 : Int32) (hp : zHp) : Option (Int32 × zHp) :=
  (zis hp a0 4).bind fun _ => zb2 (f_X4_beginThing a0 x1 x2 hp) fun v1 h2 => if v1 < 0 then (some (v1, h2)) else (zgR h2 a0 4 0).bind fun r3 => (f_X3_isName ro r3 h2).bind fun v4 => if v4 = 0 then (some ((-11 : Int32), h2)) else (zgR h2 a0 4 0).bind fun r5 => (f_X3_packed r5 h2).bind fun v6 => (zgR h2 a0 4 1).bind fun r7 => (f_X5_find r7 x1 v6 h2).bind fun v8 => if v8 = (-1 : Int32) then ((zgR h2 a0 4 0).bind fun r9 => (f_X3_next r9 h2).bind fun h10 => some (v6, h10)) else some ((-14 : Int32), h2)
set_option maxHeartbeats 4000000 in
set_option maxRecDepth 100000 in
theorem m_X4_readNewName (l : Launch) (D : va_G) (tc : Nat → ClassId) (ro : Nat → Nat) (b0 : Nat) {a0 : Nat} {x1 : Int32} {x2 : Int32} {hp : zHp} {sz : Nat} {r : (Int32 × zHp)} (h : f_X4_readNewName ro a0 x1 x2 hp = some r) : zis hp a0 4 = some () ∧ zM l yX4_readNewName cX4_readNewName 5 (some .int) 7 0 0 [.ref a0, .int x1, .int x2] D tc ro b0 hp sz ((zoI sz) r).1 ((zoI sz) r).2.1 ((zoI sz) r).2.2 := by
  refine ⟨?_, z_start (o := (zoI sz)) (lv := [(0, .ref a0), (1, .int x1), (2, .int x2)]) h (by decide +kernel) RX4 rfl rfl (Nat.le_of_ble_eq_true rfl) (fun P C => ?_)⟩
  · unfold f_X4_readNewName at h
    cases hc : zis hp a0 4 with
    | none => rw [hc] at h; cases h
    | some u => rfl
  unfold f_X4_readNewName
  refine z_is ?_
  refine z_aload_n C dX4_readNewName_0 0 rfl ?_
  refine z_iload_n C dX4_readNewName_1 1 rfl ?_
  refine z_iload_n C dX4_readNewName_2 2 rfl ?_
  refine z_callVi C zc_X4_134 [.int x1, .int x2] (fun l D tc b0 r h => m_X4_beginThing l D tc ro b0 h) dX4_readNewName_3 rfl rfl (Nat.le_of_ble_eq_true rfl) (by decide) (by decide) ⟨Nat.le_of_ble_eq_true rfl, Nat.le_of_ble_eq_true rfl⟩ (fun v1 h2 => ?_)
  refine z_istore_n (lv' := [(0, .ref a0), (1, .int x1), (2, .int x2), (3, .int v1)]) C dX4_readNewName_6 (by decide) rfl ?_
  refine z_iload_n C dX4_readNewName_7 3 rfl ?_
  refine z_if_ge C 13 dX4_readNewName_8 (by decide) ?_ ?_
  · refine z_iload_n C dX4_readNewName_11 3 rfl ?_
    exact z_ireturn C dX4_readNewName_12
  refine z_aload_n C dX4_readNewName_13 0 rfl ?_
  refine z_getR C zf_X4_12 dX4_readNewName_14 (fun r3 => ?_)
  refine z_callVp C zc_X4_150 [] (fun l D tc b0 r h => m_X3_isName l D tc ro b0 h) dX4_readNewName_17 rfl rfl (Nat.le_of_ble_eq_true rfl) (by decide) (by decide) ⟨Nat.le_of_ble_eq_true rfl, Nat.le_of_ble_eq_true rfl⟩ (fun v4 => ?_)
  refine z_if_ne C 26 dX4_readNewName_20 (by decide) ?_ ?_
  · refine z_bipush C dX4_readNewName_23 zbi_m11 ?_
    exact z_ireturn C dX4_readNewName_25
  refine z_aload_n C dX4_readNewName_26 0 rfl ?_
  refine z_getR C zf_X4_12 dX4_readNewName_27 (fun r5 => ?_)
  refine z_callVp C zc_X4_154 [] (fun l D tc b0 r h => m_X3_packed l D tc ro b0 h) dX4_readNewName_30 rfl rfl (Nat.le_of_ble_eq_true rfl) (by decide) (by decide) ⟨Nat.le_of_ble_eq_true rfl, Nat.le_of_ble_eq_true rfl⟩ (fun v6 => ?_)
  refine z_istore (lv' := [(0, .ref a0), (1, .int x1), (2, .int x2), (3, .int v1), (4, .int v6)]) C dX4_readNewName_33 (by decide) rfl ?_
  refine z_aload_n C dX4_readNewName_35 0 rfl ?_
  refine z_getR C zf_X4_21 dX4_readNewName_36 (fun r7 => ?_)
  refine z_iload_n C dX4_readNewName_39 1 rfl ?_
  refine z_iload C dX4_readNewName_40 4 rfl ?_
  refine z_callVp C zc_X4_157 [.int x1, .int v6] (fun l D tc b0 r h => m_X5_find l D tc ro b0 h) dX4_readNewName_42 rfl rfl (Nat.le_of_ble_eq_true rfl) (by decide) (by decide) ⟨Nat.le_of_ble_eq_true rfl, Nat.le_of_ble_eq_true rfl⟩ (fun v8 => ?_)
  refine z_iconst C dX4_readNewName_45 zi_m1 ?_
  refine z_icmp_eq C 52 dX4_readNewName_46 (by decide) ?_ ?_
  · refine z_aload_n C dX4_readNewName_52 0 rfl ?_
    refine z_getR C zf_X4_12 dX4_readNewName_53 (fun r9 => ?_)
    refine z_callVv C zc_X4_52 [] (fun l D tc b0 r h => m_X3_next l D tc ro b0 h) dX4_readNewName_56 rfl rfl (Nat.le_of_ble_eq_true rfl) (by decide) (by decide) ⟨Nat.le_of_ble_eq_true rfl, Nat.le_of_ble_eq_true rfl⟩ (fun h10 => ?_)
    refine z_iload C dX4_readNewName_59 4 rfl ?_
    exact z_ireturn C dX4_readNewName_61
  refine z_bipush C dX4_readNewName_49 zbi_m14 ?_
  exact z_ireturn C dX4_readNewName_51
noncomputable def f_X4_add (a0 : Nat) (x1 : Int32) (x2 : Int32) (hp : zHp) : Option (Int32 × zHp) :=
  (zis hp a0 4).bind fun _ => (zgR hp a0 4 1).bind fun r1 => (zgR hp r1 5 1).bind fun r2 => (zaR hp 5 r2 x1).bind fun r3 => (zgR hp a0 4 1).bind fun r4 => (zgR hp r4 5 0).bind fun r5 => (zaI hp 0 r5 x1).bind fun v6 => (zsI hp r3 v6 x2).bind fun h7 => (zgR h7 a0 4 1).bind fun r8 => (zgR h7 r8 5 0).bind fun r9 => (zaI h7 0 r9 x1).bind fun v10 => (zsI h7 r9 x1 (v10 + (1 : Int32))).bind fun h11 => some ((0 : Int32), h11)
set_option maxHeartbeats 4000000 in
set_option maxRecDepth 100000 in
theorem m_X4_add (l : Launch) (D : va_G) (tc : Nat → ClassId) (ro : Nat → Nat) (b0 : Nat) {a0 : Nat} {x1 : Int32} {x2 : Int32} {hp : zHp} {sz : Nat} {r : (Int32 × zHp)} (h : f_X4_add a0 x1 x2 hp = some r) : zis hp a0 4 = some () ∧ zM l yX4_add cX4_add 3 (some .int) 1 0 0 [.ref a0, .int x1, .int x2] D tc ro b0 hp sz ((zoI sz) r).1 ((zoI sz) r).2.1 ((zoI sz) r).2.2 := by
  refine ⟨?_, z_start (o := (zoI sz)) (lv := [(0, .ref a0), (1, .int x1), (2, .int x2)]) h (by decide +kernel) RX4 rfl rfl (Nat.le_of_ble_eq_true rfl) (fun P C => ?_)⟩
  · unfold f_X4_add at h
    cases hc : zis hp a0 4 with
    | none => rw [hc] at h; cases h
    | some u => rfl
  unfold f_X4_add
  refine z_is ?_
  refine z_aload_n C dX4_add_0 0 rfl ?_
  refine z_getR C zf_X4_21 dX4_add_1 (fun r1 => ?_)
  refine z_getR C zf_X4_163 dX4_add_4 (fun r2 => ?_)
  refine z_iload_n C dX4_add_7 1 rfl ?_
  refine z_aaload (t := 5) (ty := .array .int) C (fun _ => rfl) rfl (by decide) dX4_add_8 (fun r3 => ?_)
  refine z_aload_n C dX4_add_9 0 rfl ?_
  refine z_getR C zf_X4_21 dX4_add_10 (fun r4 => ?_)
  refine z_getR C zf_X4_89 dX4_add_13 (fun r5 => ?_)
  refine z_iload_n C dX4_add_16 1 rfl ?_
  refine z_iaload C dX4_add_17 (fun v6 => ?_)
  refine z_iload_n C dX4_add_18 2 rfl ?_
  refine z_iastore C dX4_add_19 (fun h7 => ?_)
  refine z_aload_n C dX4_add_20 0 rfl ?_
  refine z_getR C zf_X4_21 dX4_add_21 (fun r8 => ?_)
  refine z_getR C zf_X4_89 dX4_add_24 (fun r9 => ?_)
  refine z_iload_n C dX4_add_27 1 rfl ?_
  refine z_dup2 C dX4_add_28 rfl rfl ?_
  refine z_iaload C dX4_add_29 (fun v10 => ?_)
  refine z_iconst C dX4_add_30 zi_1 ?_
  refine z_iadd C dX4_add_31 ?_
  refine z_iastore C dX4_add_32 (fun h11 => ?_)
  refine z_iconst C dX4_add_33 zi_0 ?_
  exact z_ireturn C dX4_add_34
noncomputable def f_X4_readParty (ro : Nat → Nat) (a0 : Nat) (hp : zHp) : Option (Int32 × zHp) :=
  (zis hp a0 4).bind fun _ => (zgR hp a0 4 1).bind fun r1 => (zgR hp r1 5 0).bind fun r2 => (zaI hp 0 r2 (3 : Int32)).bind fun v3 => if 0 < v3 then (some ((-11 : Int32), hp)) else zb2 (f_X4_readNewName ro a0 (0 : Int32) (5 : Int32) hp) fun v4 h5 => if v4 < 0 then (some (v4, h5)) else zb2 (f_X4_add a0 (0 : Int32) v4 h5) fun v6 h7 => some (v6, h7)
set_option maxHeartbeats 4000000 in
set_option maxRecDepth 100000 in
theorem m_X4_readParty (l : Launch) (D : va_G) (tc : Nat → ClassId) (ro : Nat → Nat) (b0 : Nat) {a0 : Nat} {hp : zHp} {sz : Nat} {r : (Int32 × zHp)} (h : f_X4_readParty ro a0 hp = some r) : zis hp a0 4 = some () ∧ zM l yX4_readParty cX4_readParty 2 (some .int) 8 0 0 [.ref a0] D tc ro b0 hp sz ((zoI sz) r).1 ((zoI sz) r).2.1 ((zoI sz) r).2.2 := by
  refine ⟨?_, z_start (o := (zoI sz)) (lv := [(0, .ref a0)]) h (by decide +kernel) RX4 rfl rfl (Nat.le_of_ble_eq_true rfl) (fun P C => ?_)⟩
  · unfold f_X4_readParty at h
    cases hc : zis hp a0 4 with
    | none => rw [hc] at h; cases h
    | some u => rfl
  unfold f_X4_readParty
  refine z_is ?_
  refine z_aload_n C dX4_readParty_0 0 rfl ?_
  refine z_getR C zf_X4_21 dX4_readParty_1 (fun r1 => ?_)
  refine z_getR C zf_X4_89 dX4_readParty_4 (fun r2 => ?_)
  refine z_iconst C dX4_readParty_7 zi_3 ?_
  refine z_iaload C dX4_readParty_8 (fun v3 => ?_)
  refine z_if_le C 15 dX4_readParty_9 (by decide) ?_ ?_
  · refine z_bipush C dX4_readParty_12 zbi_m11 ?_
    exact z_ireturn C dX4_readParty_14
  refine z_aload_n C dX4_readParty_15 0 rfl ?_
  refine z_iconst C dX4_readParty_16 zi_0 ?_
  refine z_iconst C dX4_readParty_17 zi_5 ?_
  refine z_callVi C zc_X4_93 [.int (0 : Int32), .int (5 : Int32)] (fun l D tc b0 r h => m_X4_readNewName l D tc ro b0 h) dX4_readParty_18 rfl rfl (Nat.le_of_ble_eq_true rfl) (by decide) (by decide) ⟨Nat.le_of_ble_eq_true rfl, Nat.le_of_ble_eq_true rfl⟩ (fun v4 h5 => ?_)
  refine z_istore_n (lv' := [(0, .ref a0), (1, .int v4)]) C dX4_readParty_21 (by decide) rfl ?_
  refine z_iload_n C dX4_readParty_22 1 rfl ?_
  refine z_if_ge C 30 dX4_readParty_23 (by decide) ?_ ?_
  · refine z_iload_n C dX4_readParty_26 1 rfl ?_
    refine z_goto C 36 dX4_readParty_27 (by decide) ?_
    exact z_ireturn C dX4_readParty_36
  refine z_aload_n C dX4_readParty_30 0 rfl ?_
  refine z_iconst C dX4_readParty_31 zi_0 ?_
  refine z_iload_n C dX4_readParty_32 1 rfl ?_
  refine z_callVi C zc_X4_97 [.int (0 : Int32), .int v4] (fun l D tc b0 r h => m_X4_add l D tc ro b0 h) dX4_readParty_33 rfl rfl (Nat.le_of_ble_eq_true rfl) (by decide) (by decide) ⟨Nat.le_of_ble_eq_true rfl, Nat.le_of_ble_eq_true rfl⟩ (fun v6 h7 => ?_)
  exact z_ireturn C dX4_readParty_36
noncomputable def f_X4_readKnownName (ro : Nat → Nat) (a0 : Nat) (x1 : Int32) (hp : zHp) : Option (Int32 × zHp) :=
  (zis hp a0 4).bind fun _ => (zgR hp a0 4 0).bind fun r1 => (f_X3_isName ro r1 hp).bind fun v2 => if v2 = 0 then (some ((-11 : Int32), hp)) else (zgR hp a0 4 1).bind fun r3 => (zgR hp a0 4 0).bind fun r4 => (f_X3_packed r4 hp).bind fun v5 => (f_X5_find r3 x1 v5 hp).bind fun v6 => if v6 = (-1 : Int32) then (some ((-13 : Int32), hp)) else (zgR hp a0 4 0).bind fun r7 => (f_X3_next r7 hp).bind fun h8 => some (v6, h8)
set_option maxHeartbeats 4000000 in
set_option maxRecDepth 100000 in
theorem m_X4_readKnownName (l : Launch) (D : va_G) (tc : Nat → ClassId) (ro : Nat → Nat) (b0 : Nat) {a0 : Nat} {x1 : Int32} {hp : zHp} {sz : Nat} {r : (Int32 × zHp)} (h : f_X4_readKnownName ro a0 x1 hp = some r) : zis hp a0 4 = some () ∧ zM l yX4_readKnownName cX4_readKnownName 3 (some .int) 7 0 0 [.ref a0, .int x1] D tc ro b0 hp sz ((zoI sz) r).1 ((zoI sz) r).2.1 ((zoI sz) r).2.2 := by
  refine ⟨?_, z_start (o := (zoI sz)) (lv := [(0, .ref a0), (1, .int x1)]) h (by decide +kernel) RX4 rfl rfl (Nat.le_of_ble_eq_true rfl) (fun P C => ?_)⟩
  · unfold f_X4_readKnownName at h
    cases hc : zis hp a0 4 with
    | none => rw [hc] at h; cases h
    | some u => rfl
  unfold f_X4_readKnownName
  refine z_is ?_
  refine z_aload_n C dX4_readKnownName_0 0 rfl ?_
  refine z_getR C zf_X4_12 dX4_readKnownName_1 (fun r1 => ?_)
  refine z_callVp C zc_X4_150 [] (fun l D tc b0 r h => m_X3_isName l D tc ro b0 h) dX4_readKnownName_4 rfl rfl (Nat.le_of_ble_eq_true rfl) (by decide) (by decide) ⟨Nat.le_of_ble_eq_true rfl, Nat.le_of_ble_eq_true rfl⟩ (fun v2 => ?_)
  refine z_if_ne C 13 dX4_readKnownName_7 (by decide) ?_ ?_
  · refine z_bipush C dX4_readKnownName_10 zbi_m11 ?_
    exact z_ireturn C dX4_readKnownName_12
  refine z_aload_n C dX4_readKnownName_13 0 rfl ?_
  refine z_getR C zf_X4_21 dX4_readKnownName_14 (fun r3 => ?_)
  refine z_iload_n C dX4_readKnownName_17 1 rfl ?_
  refine z_aload_n C dX4_readKnownName_18 0 rfl ?_
  refine z_getR C zf_X4_12 dX4_readKnownName_19 (fun r4 => ?_)
  refine z_callVp C zc_X4_154 [] (fun l D tc b0 r h => m_X3_packed l D tc ro b0 h) dX4_readKnownName_22 rfl rfl (Nat.le_of_ble_eq_true rfl) (by decide) (by decide) ⟨Nat.le_of_ble_eq_true rfl, Nat.le_of_ble_eq_true rfl⟩ (fun v5 => ?_)
  refine z_callVp C zc_X4_157 [.int x1, .int v5] (fun l D tc b0 r h => m_X5_find l D tc ro b0 h) dX4_readKnownName_25 rfl rfl (Nat.le_of_ble_eq_true rfl) (by decide) (by decide) ⟨Nat.le_of_ble_eq_true rfl, Nat.le_of_ble_eq_true rfl⟩ (fun v6 => ?_)
  refine z_istore_n (lv' := [(0, .ref a0), (1, .int x1), (2, .int v6)]) C dX4_readKnownName_28 (by decide) rfl ?_
  refine z_iload_n C dX4_readKnownName_29 2 rfl ?_
  refine z_iconst C dX4_readKnownName_30 zi_m1 ?_
  refine z_icmp_ne C 37 dX4_readKnownName_31 (by decide) ?_ ?_
  · refine z_bipush C dX4_readKnownName_34 zbi_m13 ?_
    exact z_ireturn C dX4_readKnownName_36
  refine z_aload_n C dX4_readKnownName_37 0 rfl ?_
  refine z_getR C zf_X4_12 dX4_readKnownName_38 (fun r7 => ?_)
  refine z_callVv C zc_X4_52 [] (fun l D tc b0 r h => m_X3_next l D tc ro b0 h) dX4_readKnownName_41 rfl rfl (Nat.le_of_ble_eq_true rfl) (by decide) (by decide) ⟨Nat.le_of_ble_eq_true rfl, Nat.le_of_ble_eq_true rfl⟩ (fun h8 => ?_)
  refine z_iload_n C dX4_readKnownName_44 2 rfl ?_
  exact z_ireturn C dX4_readKnownName_45
noncomputable def j_X4_readRegion_46 (ro : Nat → Nat) (a0 : Nat) (x1 : Int32) (x2 : Int32) (h : zHp) : Option (Int32 × zHp) :=
  (zgR h a0 4 1).bind fun r5 => (zgR h r5 5 2).bind fun r6 => (zgR h a0 4 1).bind fun r7 => (zgR h r7 5 0).bind fun r8 => (zaI h 0 r8 (1 : Int32)).bind fun v9 => (zsI h r6 v9 x2).bind fun h10 => zb2 (f_X4_add a0 (1 : Int32) x1 h10) fun v11 h12 => some (v11, h12)
set_option maxHeartbeats 4000000 in
set_option maxRecDepth 100000 in
theorem wj_X4_readRegion_46 {P : zX} {ro : Nat → Nat} {sz : Nat} (C : zC P cX4_readRegion RX4 (some .int) 8 0 0 3 ro) {a0 : Nat} {x1 : Int32} {x2 : Int32} {h : zHp}  : zG P (zoI sz) (j_X4_readRegion_46 ro a0 x1 x2 h) 46 [(0, .ref a0), (1, .int x1), (2, .int x2)] [] h sz 0 0 := by
  unfold j_X4_readRegion_46
  refine z_aload_n C dX4_readRegion_46 0 rfl ?_
  refine z_getR C zf_X4_21 dX4_readRegion_47 (fun r5 => ?_)
  refine z_getR C zf_X4_106 dX4_readRegion_50 (fun r6 => ?_)
  refine z_aload_n C dX4_readRegion_53 0 rfl ?_
  refine z_getR C zf_X4_21 dX4_readRegion_54 (fun r7 => ?_)
  refine z_getR C zf_X4_89 dX4_readRegion_57 (fun r8 => ?_)
  refine z_iconst C dX4_readRegion_60 zi_1 ?_
  refine z_iaload C dX4_readRegion_61 (fun v9 => ?_)
  refine z_iload_n C dX4_readRegion_62 2 rfl ?_
  refine z_iastore C dX4_readRegion_63 (fun h10 => ?_)
  refine z_aload_n C dX4_readRegion_64 0 rfl ?_
  refine z_iconst C dX4_readRegion_65 zi_1 ?_
  refine z_iload_n C dX4_readRegion_66 1 rfl ?_
  refine z_callVi C zc_X4_97 [.int (1 : Int32), .int x1] (fun l D tc b0 r h => m_X4_add l D tc ro b0 h) dX4_readRegion_67 rfl rfl (Nat.le_of_ble_eq_true rfl) (by decide) (by decide) ⟨Nat.le_of_ble_eq_true rfl, Nat.le_of_ble_eq_true rfl⟩ (fun v11 h12 => ?_)
  exact z_ireturn C dX4_readRegion_70
noncomputable def f_X4_readRegion (ro : Nat → Nat) (a0 : Nat) (hp : zHp) : Option (Int32 × zHp) :=
  (zis hp a0 4).bind fun _ => zb2 (f_X4_readNewName ro a0 (1 : Int32) (5 : Int32) hp) fun v1 h2 => if v1 < 0 then (some (v1, h2)) else (zgR h2 a0 4 0).bind fun r3 => (f_X3_spells r3 (ro 9) h2).bind fun v4 => if v4 = 0 then (j_X4_readRegion_46 ro a0 v1 (-1 : Int32) h2) else (zgR h2 a0 4 0).bind fun r13 => (f_X3_next r13 h2).bind fun h14 => zb2 (f_X4_readKnownName ro a0 (1 : Int32) h14) fun v15 h16 => if v15 < 0 then (some (v15, h16)) else j_X4_readRegion_46 ro a0 v1 v15 h16
set_option maxHeartbeats 4000000 in
set_option maxRecDepth 100000 in
theorem m_X4_readRegion (l : Launch) (D : va_G) (tc : Nat → ClassId) (ro : Nat → Nat) (b0 : Nat) {a0 : Nat} {hp : zHp} {sz : Nat} {r : (Int32 × zHp)} (h : f_X4_readRegion ro a0 hp = some r) : zis hp a0 4 = some () ∧ zM l yX4_readRegion cX4_readRegion 3 (some .int) 8 0 0 [.ref a0] D tc ro b0 hp sz ((zoI sz) r).1 ((zoI sz) r).2.1 ((zoI sz) r).2.2 := by
  refine ⟨?_, z_start (o := (zoI sz)) (lv := [(0, .ref a0)]) h (by decide +kernel) RX4 rfl rfl (Nat.le_of_ble_eq_true rfl) (fun P C => ?_)⟩
  · unfold f_X4_readRegion at h
    cases hc : zis hp a0 4 with
    | none => rw [hc] at h; cases h
    | some u => rfl
  unfold f_X4_readRegion
  refine z_is ?_
  refine z_aload_n C dX4_readRegion_0 0 rfl ?_
  refine z_iconst C dX4_readRegion_1 zi_1 ?_
  refine z_iconst C dX4_readRegion_2 zi_5 ?_
  refine z_callVi C zc_X4_93 [.int (1 : Int32), .int (5 : Int32)] (fun l D tc b0 r h => m_X4_readNewName l D tc ro b0 h) dX4_readRegion_3 rfl rfl (Nat.le_of_ble_eq_true rfl) (by decide) (by decide) ⟨Nat.le_of_ble_eq_true rfl, Nat.le_of_ble_eq_true rfl⟩ (fun v1 h2 => ?_)
  refine z_istore_n (lv' := [(0, .ref a0), (1, .int v1)]) C dX4_readRegion_6 (by decide) rfl ?_
  refine z_iload_n C dX4_readRegion_7 1 rfl ?_
  refine z_if_ge C 13 dX4_readRegion_8 (by decide) ?_ ?_
  · refine z_iload_n C dX4_readRegion_11 1 rfl ?_
    exact z_ireturn C dX4_readRegion_12
  refine z_iconst C dX4_readRegion_13 zi_m1 ?_
  refine z_istore_n (lv' := [(0, .ref a0), (1, .int v1), (2, .int (-1 : Int32))]) C dX4_readRegion_14 (by decide) rfl ?_
  refine z_aload_n C dX4_readRegion_15 0 rfl ?_
  refine z_getR C zf_X4_12 dX4_readRegion_16 (fun r3 => ?_)
  refine z_ldcS C 9 rfl dX4_readRegion_19 ?_
  refine z_callVp C zc_X4_57 [.ref (ro 9)] (fun l D tc b0 r h => m_X3_spells l D tc ro b0 h) dX4_readRegion_21 rfl rfl (Nat.le_of_ble_eq_true rfl) (by decide) (by decide) ⟨Nat.le_of_ble_eq_true rfl, Nat.le_of_ble_eq_true rfl⟩ (fun v4 => ?_)
  refine z_if_eq C 46 dX4_readRegion_24 (by decide) ?_ ?_
  · exact wj_X4_readRegion_46 C
  refine z_aload_n C dX4_readRegion_27 0 rfl ?_
  refine z_getR C zf_X4_12 dX4_readRegion_28 (fun r13 => ?_)
  refine z_callVv C zc_X4_52 [] (fun l D tc b0 r h => m_X3_next l D tc ro b0 h) dX4_readRegion_31 rfl rfl (Nat.le_of_ble_eq_true rfl) (by decide) (by decide) ⟨Nat.le_of_ble_eq_true rfl, Nat.le_of_ble_eq_true rfl⟩ (fun h14 => ?_)
  refine z_aload_n C dX4_readRegion_34 0 rfl ?_
  refine z_iconst C dX4_readRegion_35 zi_1 ?_
  refine z_callVi C zc_X4_102 [.int (1 : Int32)] (fun l D tc b0 r h => m_X4_readKnownName l D tc ro b0 h) dX4_readRegion_36 rfl rfl (Nat.le_of_ble_eq_true rfl) (by decide) (by decide) ⟨Nat.le_of_ble_eq_true rfl, Nat.le_of_ble_eq_true rfl⟩ (fun v15 h16 => ?_)
  refine z_istore_n (lv' := [(0, .ref a0), (1, .int v1), (2, .int v15)]) C dX4_readRegion_39 (by decide) rfl ?_
  refine z_iload_n C dX4_readRegion_40 2 rfl ?_
  refine z_if_ge C 46 dX4_readRegion_41 (by decide) ?_ ?_
  · refine z_iload_n C dX4_readRegion_44 2 rfl ?_
    exact z_ireturn C dX4_readRegion_45
  exact wj_X4_readRegion_46 C
noncomputable def f_X4_readWard (ro : Nat → Nat) (a0 : Nat) (hp : zHp) : Option (Int32 × zHp) :=
  (zis hp a0 4).bind fun _ => zb2 (f_X4_readNewName ro a0 (2 : Int32) (6 : Int32) hp) fun v1 h2 => if v1 < 0 then (some (v1, h2)) else zb2 (f_X4_readKnownName ro a0 (1 : Int32) h2) fun v3 h4 => if v3 < 0 then (some (v3, h4)) else (zgR h4 a0 4 1).bind fun r5 => (zgR h4 r5 5 3).bind fun r6 => (zgR h4 a0 4 1).bind fun r7 => (zgR h4 r7 5 0).bind fun r8 => (zaI h4 0 r8 (2 : Int32)).bind fun v9 => (zsI h4 r6 v9 v3).bind fun h10 => zb2 (f_X4_add a0 (2 : Int32) v1 h10) fun v11 h12 => some (v11, h12)
set_option maxHeartbeats 4000000 in
set_option maxRecDepth 100000 in
theorem m_X4_readWard (l : Launch) (D : va_G) (tc : Nat → ClassId) (ro : Nat → Nat) (b0 : Nat) {a0 : Nat} {hp : zHp} {sz : Nat} {r : (Int32 × zHp)} (h : f_X4_readWard ro a0 hp = some r) : zis hp a0 4 = some () ∧ zM l yX4_readWard cX4_readWard 3 (some .int) 8 0 0 [.ref a0] D tc ro b0 hp sz ((zoI sz) r).1 ((zoI sz) r).2.1 ((zoI sz) r).2.2 := by
  refine ⟨?_, z_start (o := (zoI sz)) (lv := [(0, .ref a0)]) h (by decide +kernel) RX4 rfl rfl (Nat.le_of_ble_eq_true rfl) (fun P C => ?_)⟩
  · unfold f_X4_readWard at h
    cases hc : zis hp a0 4 with
    | none => rw [hc] at h; cases h
    | some u => rfl
  unfold f_X4_readWard
  refine z_is ?_
  refine z_aload_n C dX4_readWard_0 0 rfl ?_
  refine z_iconst C dX4_readWard_1 zi_2 ?_
  refine z_bipush C dX4_readWard_2 zbi_6 ?_
  refine z_callVi C zc_X4_93 [.int (2 : Int32), .int (6 : Int32)] (fun l D tc b0 r h => m_X4_readNewName l D tc ro b0 h) dX4_readWard_4 rfl rfl (Nat.le_of_ble_eq_true rfl) (by decide) (by decide) ⟨Nat.le_of_ble_eq_true rfl, Nat.le_of_ble_eq_true rfl⟩ (fun v1 h2 => ?_)
  refine z_istore_n (lv' := [(0, .ref a0), (1, .int v1)]) C dX4_readWard_7 (by decide) rfl ?_
  refine z_iload_n C dX4_readWard_8 1 rfl ?_
  refine z_if_ge C 14 dX4_readWard_9 (by decide) ?_ ?_
  · refine z_iload_n C dX4_readWard_12 1 rfl ?_
    exact z_ireturn C dX4_readWard_13
  refine z_aload_n C dX4_readWard_14 0 rfl ?_
  refine z_iconst C dX4_readWard_15 zi_1 ?_
  refine z_callVi C zc_X4_102 [.int (1 : Int32)] (fun l D tc b0 r h => m_X4_readKnownName l D tc ro b0 h) dX4_readWard_16 rfl rfl (Nat.le_of_ble_eq_true rfl) (by decide) (by decide) ⟨Nat.le_of_ble_eq_true rfl, Nat.le_of_ble_eq_true rfl⟩ (fun v3 h4 => ?_)
  refine z_istore_n (lv' := [(0, .ref a0), (1, .int v1), (2, .int v3)]) C dX4_readWard_19 (by decide) rfl ?_
  refine z_iload_n C dX4_readWard_20 2 rfl ?_
  refine z_if_ge C 26 dX4_readWard_21 (by decide) ?_ ?_
  · refine z_iload_n C dX4_readWard_24 2 rfl ?_
    exact z_ireturn C dX4_readWard_25
  refine z_aload_n C dX4_readWard_26 0 rfl ?_
  refine z_getR C zf_X4_21 dX4_readWard_27 (fun r5 => ?_)
  refine z_getR C zf_X4_109 dX4_readWard_30 (fun r6 => ?_)
  refine z_aload_n C dX4_readWard_33 0 rfl ?_
  refine z_getR C zf_X4_21 dX4_readWard_34 (fun r7 => ?_)
  refine z_getR C zf_X4_89 dX4_readWard_37 (fun r8 => ?_)
  refine z_iconst C dX4_readWard_40 zi_2 ?_
  refine z_iaload C dX4_readWard_41 (fun v9 => ?_)
  refine z_iload_n C dX4_readWard_42 2 rfl ?_
  refine z_iastore C dX4_readWard_43 (fun h10 => ?_)
  refine z_aload_n C dX4_readWard_44 0 rfl ?_
  refine z_iconst C dX4_readWard_45 zi_2 ?_
  refine z_iload_n C dX4_readWard_46 1 rfl ?_
  refine z_callVi C zc_X4_97 [.int (2 : Int32), .int v1] (fun l D tc b0 r h => m_X4_add l D tc ro b0 h) dX4_readWard_47 rfl rfl (Nat.le_of_ble_eq_true rfl) (by decide) (by decide) ⟨Nat.le_of_ble_eq_true rfl, Nat.le_of_ble_eq_true rfl⟩ (fun v11 h12 => ?_)
  exact z_ireturn C dX4_readWard_50
noncomputable def f_X4_readInteger (a0 : Nat) (x1 : Int32) (x2 : Int32) (hp : zHp) : Option (Int32 × zHp) :=
  (zis hp a0 4).bind fun _ => (zgR hp a0 4 0).bind fun r1 => (zgI hp r1 3 3).bind fun v2 => if v2 = (2 : Int32) then ((zgR hp a0 4 0).bind fun r3 => (f_X3_value r3 hp).bind fun v4 => if v4 < x1 then (some ((-12 : Int32), hp)) else if x2 < v4 then (some ((-12 : Int32), hp)) else (zgR hp a0 4 0).bind fun r5 => (f_X3_next r5 hp).bind fun h6 => some (v4, h6)) else some ((-11 : Int32), hp)
set_option maxHeartbeats 4000000 in
set_option maxRecDepth 100000 in
theorem m_X4_readInteger (l : Launch) (D : va_G) (tc : Nat → ClassId) (ro : Nat → Nat) (b0 : Nat) {a0 : Nat} {x1 : Int32} {x2 : Int32} {hp : zHp} {sz : Nat} {r : (Int32 × zHp)} (h : f_X4_readInteger a0 x1 x2 hp = some r) : zis hp a0 4 = some () ∧ zM l yX4_readInteger cX4_readInteger 4 (some .int) 3 0 0 [.ref a0, .int x1, .int x2] D tc ro b0 hp sz ((zoI sz) r).1 ((zoI sz) r).2.1 ((zoI sz) r).2.2 := by
  refine ⟨?_, z_start (o := (zoI sz)) (lv := [(0, .ref a0), (1, .int x1), (2, .int x2)]) h (by decide +kernel) RX4 rfl rfl (Nat.le_of_ble_eq_true rfl) (fun P C => ?_)⟩
  · unfold f_X4_readInteger at h
    cases hc : zis hp a0 4 with
    | none => rw [hc] at h; cases h
    | some u => rfl
  unfold f_X4_readInteger
  refine z_is ?_
  refine z_aload_n C dX4_readInteger_0 0 rfl ?_
  refine z_getR C zf_X4_12 dX4_readInteger_1 (fun r1 => ?_)
  refine z_getI C zf_X4_39 dX4_readInteger_4 (fun v2 => ?_)
  refine z_iconst C dX4_readInteger_7 zi_2 ?_
  refine z_icmp_eq C 14 dX4_readInteger_8 (by decide) ?_ ?_
  · refine z_aload_n C dX4_readInteger_14 0 rfl ?_
    refine z_getR C zf_X4_12 dX4_readInteger_15 (fun r3 => ?_)
    refine z_callVp C zc_X4_160 [] (fun l D tc b0 r h => m_X3_value l D tc ro b0 h) dX4_readInteger_18 rfl rfl (Nat.le_of_ble_eq_true rfl) (by decide) (by decide) ⟨Nat.le_of_ble_eq_true rfl, Nat.le_of_ble_eq_true rfl⟩ (fun v4 => ?_)
    refine z_istore_n (lv' := [(0, .ref a0), (1, .int x1), (2, .int x2), (3, .int v4)]) C dX4_readInteger_21 (by decide) rfl ?_
    refine z_iload_n C dX4_readInteger_22 3 rfl ?_
    refine z_iload_n C dX4_readInteger_23 1 rfl ?_
    refine z_icmp_lt C 32 dX4_readInteger_24 (by decide) ?_ ?_
    · refine z_bipush C dX4_readInteger_32 zbi_m12 ?_
      exact z_ireturn C dX4_readInteger_34
    refine z_iload_n C dX4_readInteger_27 3 rfl ?_
    refine z_iload_n C dX4_readInteger_28 2 rfl ?_
    refine z_icmp_le C 35 dX4_readInteger_29 (by decide) ?_ ?_
    · refine z_bipush C dX4_readInteger_32 zbi_m12 ?_
      exact z_ireturn C dX4_readInteger_34
    refine z_aload_n C dX4_readInteger_35 0 rfl ?_
    refine z_getR C zf_X4_12 dX4_readInteger_36 (fun r5 => ?_)
    refine z_callVv C zc_X4_52 [] (fun l D tc b0 r h => m_X3_next l D tc ro b0 h) dX4_readInteger_39 rfl rfl (Nat.le_of_ble_eq_true rfl) (by decide) (by decide) ⟨Nat.le_of_ble_eq_true rfl, Nat.le_of_ble_eq_true rfl⟩ (fun h6 => ?_)
    refine z_iload_n C dX4_readInteger_42 3 rfl ?_
    exact z_ireturn C dX4_readInteger_43
  refine z_bipush C dX4_readInteger_11 zbi_m11 ?_
  exact z_ireturn C dX4_readInteger_13
noncomputable def b_X4_readPapers_2 (k26 : Int32 → zHp → Option (Int32 × zHp)) (k46 : zHp → Option (Int32 × zHp)) (a0 : Nat) (x1 : Int32) (rec : Int32 → zHp → Option (Int32 × zHp)) (x2 : Int32) (h : zHp) : Option (Int32 × zHp) :=
  (zgR h a0 4 1).bind fun r1 => (f_X5_piles r1 h).bind fun v2 => if x2 < v2 then (zb2 (f_X4_readInteger a0 (0 : Int32) (300 : Int32) h) fun v3 h4 => if v3 < 0 then (k26 v3 h4) else (zgR h4 a0 4 1).bind fun r5 => (zgR h4 r5 5 7).bind fun r6 => (zaR h4 5 r6 x1).bind fun r7 => (zsI h4 r7 x2 v3).bind fun h8 => zlet (x2 + (1 : Int32)) fun v9 => rec v9 h8) else k46 h
noncomputable def l_X4_readPapers_2 (k26 : Int32 → zHp → Option (Int32 × zHp)) (k46 : zHp → Option (Int32 × zHp)) (a0 : Nat) (x1 : Int32) (n : Nat) : Int32 → zHp → Option (Int32 × zHp) :=
  Nat.rec (motive := fun _ => Int32 → zHp → Option (Int32 × zHp)) (fun _ _ => none) (fun _ rec => b_X4_readPapers_2 k26 k46 a0 x1 rec) n
theorem l_X4_readPapers_2_s (k26 : Int32 → zHp → Option (Int32 × zHp)) (k46 : zHp → Option (Int32 × zHp)) (a0 : Nat) (x1 : Int32) (n : Nat) (x2 : Int32) (h : zHp) : l_X4_readPapers_2 k26 k46 a0 x1 (n + 1) x2 h = b_X4_readPapers_2 k26 k46 a0 x1 (l_X4_readPapers_2 k26 k46 a0 x1 n) x2 h := rfl
set_option maxHeartbeats 4000000 in
set_option maxRecDepth 100000 in
theorem wl_X4_readPapers_2 {P : zX} {ro : Nat → Nat} {sz : Nat} (C : zC P cX4_readPapers RX4 (some .int) 4 0 0 4 ro) {a0 : Nat} {x1 : Int32} {k26 : Int32 → zHp → Option (Int32 × zHp)} (hk26 : ∀ (x3 : Int32) (h : zHp), zG P (zoI sz) (k26 x3 h) 26 [(3, .int x3)] [] h sz 0 0) {k46 : zHp → Option (Int32 × zHp)} (hk46 : ∀ (h : zHp), zG P (zoI sz) (k46 h) 46 [] [] h sz 0 0) : ∀ (n : Nat) (x2 : Int32) (h : zHp), zG P (zoI sz) (l_X4_readPapers_2 k26 k46 a0 x1 n x2 h) 2 [(0, .ref a0), (1, .int x1), (2, .int x2)] [] h sz 0 0 := by
  intro n
  induction n with
  | zero =>
    intro x2 h
    show zG P (zoI sz) none _ _ _ _ _ _ _
    exact z_none
  | succ n ih =>
    intro x2 h
    show zG P (zoI sz) (b_X4_readPapers_2 k26 k46 a0 x1 (l_X4_readPapers_2 k26 k46 a0 x1 n) x2 h) _ _ _ _ _ _ _
    unfold b_X4_readPapers_2
    refine z_iload_n C dX4_readPapers_2 2 rfl ?_
    refine z_aload_n C dX4_readPapers_3 0 rfl ?_
    refine z_getR C zf_X4_21 dX4_readPapers_4 (fun r1 => ?_)
    refine z_callVp C zc_X4_127 [] (fun l D tc b0 r h => m_X5_piles l D tc ro b0 h) dX4_readPapers_7 rfl rfl (Nat.le_of_ble_eq_true rfl) (by decide) (by decide) ⟨Nat.le_of_ble_eq_true rfl, Nat.le_of_ble_eq_true rfl⟩ (fun v2 => ?_)
    refine z_icmp_ge C 46 dX4_readPapers_10 (by decide) ?_ ?_
    · refine z_aload_n C dX4_readPapers_13 0 rfl ?_
      refine z_iconst C dX4_readPapers_14 zi_0 ?_
      refine z_sipush C dX4_readPapers_15 zsi_300 ?_
      refine z_callVi C zc_X4_112 [.int (0 : Int32), .int (300 : Int32)] (fun l D tc b0 r h => m_X4_readInteger l D tc ro b0 h) dX4_readPapers_18 rfl rfl (Nat.le_of_ble_eq_true rfl) (by decide) (by decide) ⟨Nat.le_of_ble_eq_true rfl, Nat.le_of_ble_eq_true rfl⟩ (fun v3 h4 => ?_)
      refine z_istore_n (lv' := [(0, .ref a0), (1, .int x1), (2, .int x2), (3, .int v3)]) C dX4_readPapers_21 (by decide) rfl ?_
      refine z_iload_n C dX4_readPapers_22 3 rfl ?_
      refine z_if_ge C 28 dX4_readPapers_23 (by decide) ?_ ?_
      · exact z_sub [3] rfl (hk26 _ _)
      refine z_aload_n C dX4_readPapers_28 0 rfl ?_
      refine z_getR C zf_X4_21 dX4_readPapers_29 (fun r5 => ?_)
      refine z_getR C zf_X4_130 dX4_readPapers_32 (fun r6 => ?_)
      refine z_iload_n C dX4_readPapers_35 1 rfl ?_
      refine z_aaload (t := 5) (ty := .array .int) C (fun _ => rfl) rfl (by decide) dX4_readPapers_36 (fun r7 => ?_)
      refine z_iload_n C dX4_readPapers_37 2 rfl ?_
      refine z_iload_n C dX4_readPapers_38 3 rfl ?_
      refine z_iastore C dX4_readPapers_39 (fun h8 => ?_)
      refine z_iincL C 2 (fun v9 => [(0, .ref a0), (1, .int x1), (2, .int v9), (3, .int v3)]) dX4_readPapers_40 rfl zi_1 (by decide) (fun _ => rfl) (fun v9 => ?_)
      refine z_goto C 2 dX4_readPapers_43 (by decide) ?_
      exact z_sub [0, 1, 2] rfl (ih _ _)
    exact z_sub [] rfl (hk46 _)
noncomputable def f_X4_readPapers (a0 : Nat) (x1 : Int32) (hp : zHp) : Option (Int32 × zHp) :=
  (zis hp a0 4).bind fun _ => l_X4_readPapers_2 (fun p10 h11 => some (p10, h11)) (fun h12 => some ((0 : Int32), h12)) a0 x1 1000000 (0 : Int32) hp
set_option maxHeartbeats 4000000 in
set_option maxRecDepth 100000 in
theorem m_X4_readPapers (l : Launch) (D : va_G) (tc : Nat → ClassId) (ro : Nat → Nat) (b0 : Nat) {a0 : Nat} {x1 : Int32} {hp : zHp} {sz : Nat} {r : (Int32 × zHp)} (h : f_X4_readPapers a0 x1 hp = some r) : zis hp a0 4 = some () ∧ zM l yX4_readPapers cX4_readPapers 4 (some .int) 4 0 0 [.ref a0, .int x1] D tc ro b0 hp sz ((zoI sz) r).1 ((zoI sz) r).2.1 ((zoI sz) r).2.2 := by
  refine ⟨?_, z_start (o := (zoI sz)) (lv := [(0, .ref a0), (1, .int x1)]) h (by decide +kernel) RX4 rfl rfl (Nat.le_of_ble_eq_true rfl) (fun P C => ?_)⟩
  · unfold f_X4_readPapers at h
    cases hc : zis hp a0 4 with
    | none => rw [hc] at h; cases h
    | some u => rfl
  unfold f_X4_readPapers
  refine z_is ?_
  refine z_iconst C dX4_readPapers_0 zi_0 ?_
  refine z_istore_n (lv' := [(0, .ref a0), (1, .int x1), (2, .int (0 : Int32))]) C dX4_readPapers_1 (by decide) rfl ?_
  refine wl_X4_readPapers_2 C (fun p10 h11 => ?_) (fun h12 => ?_) _ _ _
  · refine z_iload_n C dX4_readPapers_26 0 rfl ?_
    exact z_ireturn C dX4_readPapers_27
  refine z_iconst C dX4_readPapers_46 zi_0 ?_
  exact z_ireturn C dX4_readPapers_47
noncomputable def f_X4_readBox (ro : Nat → Nat) (a0 : Nat) (hp : zHp) : Option (Int32 × zHp) :=
  (zis hp a0 4).bind fun _ => zb2 (f_X4_readNewName ro a0 (3 : Int32) (12 : Int32) hp) fun v1 h2 => if v1 < 0 then (some (v1, h2)) else zb2 (f_X4_readKnownName ro a0 (2 : Int32) h2) fun v3 h4 => if v3 < 0 then (some (v3, h4)) else zb2 (f_X4_readInteger a0 (0 : Int32) (999 : Int32) h4) fun v5 h6 => if v5 < 0 then (some (v5, h6)) else zb2 (f_X4_readInteger a0 (1 : Int32) (9999 : Int32) h6) fun v7 h8 => if v7 < 0 then (some (v7, h8)) else (zgR h8 a0 4 1).bind fun r9 => (zgR h8 r9 5 0).bind fun r10 => (zaI h8 0 r10 (3 : Int32)).bind fun v11 => (zgR h8 a0 4 1).bind fun r12 => (zgR h8 r12 5 4).bind fun r13 => (zsI h8 r13 v11 v3).bind fun h14 => (zgR h14 a0 4 1).bind fun r15 => (zgR h14 r15 5 5).bind fun r16 => (zsI h14 r16 v11 v5).bind fun h17 => (zgR h17 a0 4 1).bind fun r18 => (zgR h17 r18 5 6).bind fun r19 => (zsI h17 r19 v11 v7).bind fun h20 => zb2 (f_X4_readPapers a0 v11 h20) fun v21 h22 => if v21 < 0 then (some (v21, h22)) else zb2 (f_X4_add a0 (3 : Int32) v1 h22) fun v23 h24 => some (v23, h24)
set_option maxHeartbeats 4000000 in
set_option maxRecDepth 100000 in
theorem m_X4_readBox (l : Launch) (D : va_G) (tc : Nat → ClassId) (ro : Nat → Nat) (b0 : Nat) {a0 : Nat} {hp : zHp} {sz : Nat} {r : (Int32 × zHp)} (h : f_X4_readBox ro a0 hp = some r) : zis hp a0 4 = some () ∧ zM l yX4_readBox cX4_readBox 7 (some .int) 8 0 0 [.ref a0] D tc ro b0 hp sz ((zoI sz) r).1 ((zoI sz) r).2.1 ((zoI sz) r).2.2 := by
  refine ⟨?_, z_start (o := (zoI sz)) (lv := [(0, .ref a0)]) h (by decide +kernel) RX4 rfl rfl (Nat.le_of_ble_eq_true rfl) (fun P C => ?_)⟩
  · unfold f_X4_readBox at h
    cases hc : zis hp a0 4 with
    | none => rw [hc] at h; cases h
    | some u => rfl
  unfold f_X4_readBox
  refine z_is ?_
  refine z_aload_n C dX4_readBox_0 0 rfl ?_
  refine z_iconst C dX4_readBox_1 zi_3 ?_
  refine z_bipush C dX4_readBox_2 zbi_12 ?_
  refine z_callVi C zc_X4_93 [.int (3 : Int32), .int (12 : Int32)] (fun l D tc b0 r h => m_X4_readNewName l D tc ro b0 h) dX4_readBox_4 rfl rfl (Nat.le_of_ble_eq_true rfl) (by decide) (by decide) ⟨Nat.le_of_ble_eq_true rfl, Nat.le_of_ble_eq_true rfl⟩ (fun v1 h2 => ?_)
  refine z_istore_n (lv' := [(0, .ref a0), (1, .int v1)]) C dX4_readBox_7 (by decide) rfl ?_
  refine z_iload_n C dX4_readBox_8 1 rfl ?_
  refine z_if_ge C 14 dX4_readBox_9 (by decide) ?_ ?_
  · refine z_iload_n C dX4_readBox_12 1 rfl ?_
    exact z_ireturn C dX4_readBox_13
  refine z_aload_n C dX4_readBox_14 0 rfl ?_
  refine z_iconst C dX4_readBox_15 zi_2 ?_
  refine z_callVi C zc_X4_102 [.int (2 : Int32)] (fun l D tc b0 r h => m_X4_readKnownName l D tc ro b0 h) dX4_readBox_16 rfl rfl (Nat.le_of_ble_eq_true rfl) (by decide) (by decide) ⟨Nat.le_of_ble_eq_true rfl, Nat.le_of_ble_eq_true rfl⟩ (fun v3 h4 => ?_)
  refine z_istore_n (lv' := [(0, .ref a0), (1, .int v1), (2, .int v3)]) C dX4_readBox_19 (by decide) rfl ?_
  refine z_iload_n C dX4_readBox_20 2 rfl ?_
  refine z_if_ge C 26 dX4_readBox_21 (by decide) ?_ ?_
  · refine z_iload_n C dX4_readBox_24 2 rfl ?_
    exact z_ireturn C dX4_readBox_25
  refine z_aload_n C dX4_readBox_26 0 rfl ?_
  refine z_iconst C dX4_readBox_27 zi_0 ?_
  refine z_sipush C dX4_readBox_28 zsi_999 ?_
  refine z_callVi C zc_X4_112 [.int (0 : Int32), .int (999 : Int32)] (fun l D tc b0 r h => m_X4_readInteger l D tc ro b0 h) dX4_readBox_31 rfl rfl (Nat.le_of_ble_eq_true rfl) (by decide) (by decide) ⟨Nat.le_of_ble_eq_true rfl, Nat.le_of_ble_eq_true rfl⟩ (fun v5 h6 => ?_)
  refine z_istore_n (lv' := [(0, .ref a0), (1, .int v1), (2, .int v3), (3, .int v5)]) C dX4_readBox_34 (by decide) rfl ?_
  refine z_iload_n C dX4_readBox_35 3 rfl ?_
  refine z_if_ge C 41 dX4_readBox_36 (by decide) ?_ ?_
  · refine z_iload_n C dX4_readBox_39 3 rfl ?_
    exact z_ireturn C dX4_readBox_40
  refine z_aload_n C dX4_readBox_41 0 rfl ?_
  refine z_iconst C dX4_readBox_42 zi_1 ?_
  refine z_sipush C dX4_readBox_43 zsi_9999 ?_
  refine z_callVi C zc_X4_112 [.int (1 : Int32), .int (9999 : Int32)] (fun l D tc b0 r h => m_X4_readInteger l D tc ro b0 h) dX4_readBox_46 rfl rfl (Nat.le_of_ble_eq_true rfl) (by decide) (by decide) ⟨Nat.le_of_ble_eq_true rfl, Nat.le_of_ble_eq_true rfl⟩ (fun v7 h8 => ?_)
  refine z_istore (lv' := [(0, .ref a0), (1, .int v1), (2, .int v3), (3, .int v5), (4, .int v7)]) C dX4_readBox_49 (by decide) rfl ?_
  refine z_iload C dX4_readBox_51 4 rfl ?_
  refine z_if_ge C 59 dX4_readBox_53 (by decide) ?_ ?_
  · refine z_iload C dX4_readBox_56 4 rfl ?_
    exact z_ireturn C dX4_readBox_58
  refine z_aload_n C dX4_readBox_59 0 rfl ?_
  refine z_getR C zf_X4_21 dX4_readBox_60 (fun r9 => ?_)
  refine z_getR C zf_X4_89 dX4_readBox_63 (fun r10 => ?_)
  refine z_iconst C dX4_readBox_66 zi_3 ?_
  refine z_iaload C dX4_readBox_67 (fun v11 => ?_)
  refine z_istore (lv' := [(0, .ref a0), (1, .int v1), (2, .int v3), (3, .int v5), (4, .int v7), (5, .int v11)]) C dX4_readBox_68 (by decide) rfl ?_
  refine z_aload_n C dX4_readBox_70 0 rfl ?_
  refine z_getR C zf_X4_21 dX4_readBox_71 (fun r12 => ?_)
  refine z_getR C zf_X4_115 dX4_readBox_74 (fun r13 => ?_)
  refine z_iload C dX4_readBox_77 5 rfl ?_
  refine z_iload_n C dX4_readBox_79 2 rfl ?_
  refine z_iastore C dX4_readBox_80 (fun h14 => ?_)
  refine z_aload_n C dX4_readBox_81 0 rfl ?_
  refine z_getR C zf_X4_21 dX4_readBox_82 (fun r15 => ?_)
  refine z_getR C zf_X4_118 dX4_readBox_85 (fun r16 => ?_)
  refine z_iload C dX4_readBox_88 5 rfl ?_
  refine z_iload_n C dX4_readBox_90 3 rfl ?_
  refine z_iastore C dX4_readBox_91 (fun h17 => ?_)
  refine z_aload_n C dX4_readBox_92 0 rfl ?_
  refine z_getR C zf_X4_21 dX4_readBox_93 (fun r18 => ?_)
  refine z_getR C zf_X4_121 dX4_readBox_96 (fun r19 => ?_)
  refine z_iload C dX4_readBox_99 5 rfl ?_
  refine z_iload C dX4_readBox_101 4 rfl ?_
  refine z_iastore C dX4_readBox_103 (fun h20 => ?_)
  refine z_aload_n C dX4_readBox_104 0 rfl ?_
  refine z_iload C dX4_readBox_105 5 rfl ?_
  refine z_callVi C zc_X4_124 [.int v11] (fun l D tc b0 r h => m_X4_readPapers l D tc ro b0 h) dX4_readBox_107 rfl rfl (Nat.le_of_ble_eq_true rfl) (by decide) (by decide) ⟨Nat.le_of_ble_eq_true rfl, Nat.le_of_ble_eq_true rfl⟩ (fun v21 h22 => ?_)
  refine z_istore (lv' := [(0, .ref a0), (1, .int v1), (2, .int v3), (3, .int v5), (4, .int v7), (5, .int v11), (6, .int v21)]) C dX4_readBox_110 (by decide) rfl ?_
  refine z_iload C dX4_readBox_112 6 rfl ?_
  refine z_if_ge C 122 dX4_readBox_114 (by decide) ?_ ?_
  · refine z_iload C dX4_readBox_117 6 rfl ?_
    refine z_goto C 128 dX4_readBox_119 (by decide) ?_
    exact z_ireturn C dX4_readBox_128
  refine z_aload_n C dX4_readBox_122 0 rfl ?_
  refine z_iconst C dX4_readBox_123 zi_3 ?_
  refine z_iload_n C dX4_readBox_124 1 rfl ?_
  refine z_callVi C zc_X4_97 [.int (3 : Int32), .int v1] (fun l D tc b0 r h => m_X4_add l D tc ro b0 h) dX4_readBox_125 rfl rfl (Nat.le_of_ble_eq_true rfl) (by decide) (by decide) ⟨Nat.le_of_ble_eq_true rfl, Nat.le_of_ble_eq_true rfl⟩ (fun v23 h24 => ?_)
  exact z_ireturn C dX4_readBox_128
noncomputable def f_X4_readTable (a0 : Nat) (hp : zHp) : Option (Int32 × zHp) :=
  (zis hp a0 4).bind fun _ => zb2 (f_X4_beginThing a0 (4 : Int32) (4 : Int32) hp) fun v1 h2 => if v1 < 0 then (some (v1, h2)) else zb2 (f_X4_readInteger a0 (0 : Int32) (99 : Int32) h2) fun v3 h4 => if v3 < 0 then (some (v3, h4)) else (zgR h4 a0 4 1).bind fun r5 => (zgR h4 r5 5 8).bind fun r6 => (zgR h4 a0 4 1).bind fun r7 => (zgR h4 r7 5 0).bind fun r8 => (zaI h4 0 r8 (4 : Int32)).bind fun v9 => (zsI h4 r6 v9 v3).bind fun h10 => (zgR h10 a0 4 1).bind fun r11 => (zgR h10 r11 5 0).bind fun r12 => (zaI h10 0 r12 (4 : Int32)).bind fun v13 => (zsI h10 r12 (4 : Int32) (v13 + (1 : Int32))).bind fun h14 => some ((0 : Int32), h14)
set_option maxHeartbeats 4000000 in
set_option maxRecDepth 100000 in
theorem m_X4_readTable (l : Launch) (D : va_G) (tc : Nat → ClassId) (ro : Nat → Nat) (b0 : Nat) {a0 : Nat} {hp : zHp} {sz : Nat} {r : (Int32 × zHp)} (h : f_X4_readTable a0 hp = some r) : zis hp a0 4 = some () ∧ zM l yX4_readTable cX4_readTable 3 (some .int) 4 0 0 [.ref a0] D tc ro b0 hp sz ((zoI sz) r).1 ((zoI sz) r).2.1 ((zoI sz) r).2.2 := by
  refine ⟨?_, z_start (o := (zoI sz)) (lv := [(0, .ref a0)]) h (by decide +kernel) RX4 rfl rfl (Nat.le_of_ble_eq_true rfl) (fun P C => ?_)⟩
  · unfold f_X4_readTable at h
    cases hc : zis hp a0 4 with
    | none => rw [hc] at h; cases h
    | some u => rfl
  unfold f_X4_readTable
  refine z_is ?_
  refine z_aload_n C dX4_readTable_0 0 rfl ?_
  refine z_iconst C dX4_readTable_1 zi_4 ?_
  refine z_iconst C dX4_readTable_2 zi_4 ?_
  refine z_callVi C zc_X4_134 [.int (4 : Int32), .int (4 : Int32)] (fun l D tc b0 r h => m_X4_beginThing l D tc ro b0 h) dX4_readTable_3 rfl rfl (Nat.le_of_ble_eq_true rfl) (by decide) (by decide) ⟨Nat.le_of_ble_eq_true rfl, Nat.le_of_ble_eq_true rfl⟩ (fun v1 h2 => ?_)
  refine z_istore_n (lv' := [(0, .ref a0), (1, .int v1)]) C dX4_readTable_6 (by decide) rfl ?_
  refine z_iload_n C dX4_readTable_7 1 rfl ?_
  refine z_if_ge C 13 dX4_readTable_8 (by decide) ?_ ?_
  · refine z_iload_n C dX4_readTable_11 1 rfl ?_
    exact z_ireturn C dX4_readTable_12
  refine z_aload_n C dX4_readTable_13 0 rfl ?_
  refine z_iconst C dX4_readTable_14 zi_0 ?_
  refine z_bipush C dX4_readTable_15 zbi_99 ?_
  refine z_callVi C zc_X4_112 [.int (0 : Int32), .int (99 : Int32)] (fun l D tc b0 r h => m_X4_readInteger l D tc ro b0 h) dX4_readTable_17 rfl rfl (Nat.le_of_ble_eq_true rfl) (by decide) (by decide) ⟨Nat.le_of_ble_eq_true rfl, Nat.le_of_ble_eq_true rfl⟩ (fun v3 h4 => ?_)
  refine z_istore_n (lv' := [(0, .ref a0), (1, .int v1), (2, .int v3)]) C dX4_readTable_20 (by decide) rfl ?_
  refine z_iload_n C dX4_readTable_21 2 rfl ?_
  refine z_if_ge C 27 dX4_readTable_22 (by decide) ?_ ?_
  · refine z_iload_n C dX4_readTable_25 2 rfl ?_
    exact z_ireturn C dX4_readTable_26
  refine z_aload_n C dX4_readTable_27 0 rfl ?_
  refine z_getR C zf_X4_21 dX4_readTable_28 (fun r5 => ?_)
  refine z_getR C zf_X4_137 dX4_readTable_31 (fun r6 => ?_)
  refine z_aload_n C dX4_readTable_34 0 rfl ?_
  refine z_getR C zf_X4_21 dX4_readTable_35 (fun r7 => ?_)
  refine z_getR C zf_X4_89 dX4_readTable_38 (fun r8 => ?_)
  refine z_iconst C dX4_readTable_41 zi_4 ?_
  refine z_iaload C dX4_readTable_42 (fun v9 => ?_)
  refine z_iload_n C dX4_readTable_43 2 rfl ?_
  refine z_iastore C dX4_readTable_44 (fun h10 => ?_)
  refine z_aload_n C dX4_readTable_45 0 rfl ?_
  refine z_getR C zf_X4_21 dX4_readTable_46 (fun r11 => ?_)
  refine z_getR C zf_X4_89 dX4_readTable_49 (fun r12 => ?_)
  refine z_iconst C dX4_readTable_52 zi_4 ?_
  refine z_dup2 C dX4_readTable_53 rfl rfl ?_
  refine z_iaload C dX4_readTable_54 (fun v13 => ?_)
  refine z_iconst C dX4_readTable_55 zi_1 ?_
  refine z_iadd C dX4_readTable_56 ?_
  refine z_iastore C dX4_readTable_57 (fun h14 => ?_)
  refine z_iconst C dX4_readTable_58 zi_0 ?_
  exact z_ireturn C dX4_readTable_59
noncomputable def f_X7_mostOf (x0 : Int32) (hp : zHp) : Option Int32 :=
  if x0 = 0 then (some (50 : Int32)) else some (9 : Int32)
set_option maxHeartbeats 4000000 in
set_option maxRecDepth 100000 in
theorem m_X7_mostOf (l : Launch) (D : va_G) (tc : Nat → ClassId) (ro : Nat → Nat) (b0 : Nat) {x0 : Int32} {hp : zHp} {sz : Nat} {r : Int32} (h : f_X7_mostOf x0 hp = some r) : zM l yX7_mostOf cX7_mostOf 1 (some .int) 1 0 0 [.int x0] D tc ro b0 hp sz ((zoP sz hp) r).1 ((zoP sz hp) r).2.1 ((zoP sz hp) r).2.2 := by
  refine z_start (o := (zoP sz hp)) (lv := [(0, .int x0)]) h (by decide +kernel) RX7 rfl rfl (Nat.le_of_ble_eq_true rfl) (fun P C => ?_)
  unfold f_X7_mostOf
  refine z_iload_n C dX7_mostOf_0 0 rfl ?_
  refine z_if_ne C 9 dX7_mostOf_1 (by decide) ?_ ?_
  · refine z_bipush C dX7_mostOf_4 zbi_50 ?_
    refine z_goto C 11 dX7_mostOf_6 (by decide) ?_
    exact z_ireturnP C dX7_mostOf_11
  refine z_bipush C dX7_mostOf_9 zbi_9 ?_
  exact z_ireturnP C dX7_mostOf_11
noncomputable def j_X4_readSetting_51 (ro : Nat → Nat) (a0 : Nat) (s0 : Int32) (h : zHp) : Option (Int32 × zHp) :=
  (zgI h a0 4 2).bind fun v7 => if ((v7 >>> (s0 &&& 31)) &&& (1 : Int32)) = (1 : Int32) then (some ((-14 : Int32), h)) else (zgR h a0 4 0).bind fun r8 => (f_X3_next r8 h).bind fun h9 => (f_X7_mostOf s0 h9).bind fun v10 => zb2 (f_X4_readInteger a0 (0 : Int32) v10 h9) fun v11 h12 => if v11 < 0 then (some (v11, h12)) else (zgI h12 a0 4 2).bind fun v13 => (zpV h12 a0 4 2 (.int (v13 ||| ((1 : Int32) <<< (s0 &&& 31))))).bind fun h14 => (zgR h14 a0 4 1).bind fun r15 => (zgR h14 r15 5 9).bind fun r16 => (zsI h14 r16 s0 v11).bind fun h17 => some ((0 : Int32), h17)
set_option maxHeartbeats 4000000 in
set_option maxRecDepth 100000 in
theorem wj_X4_readSetting_51 {P : zX} {ro : Nat → Nat} {sz : Nat} (C : zC P cX4_readSetting RX4 (some .int) 6 0 0 3 ro) {a0 : Nat} {s0 : Int32} {h : zHp}  : zG P (zoI sz) (j_X4_readSetting_51 ro a0 s0 h) 51 [(0, .ref a0)] [.int s0] h sz 0 0 := by
  unfold j_X4_readSetting_51
  refine z_istore_n (lv' := [(0, .ref a0), (1, .int s0)]) C dX4_readSetting_51 (by decide) rfl ?_
  refine z_aload_n C dX4_readSetting_52 0 rfl ?_
  refine z_getI C zf_X4_32 dX4_readSetting_53 (fun v7 => ?_)
  refine z_iload_n C dX4_readSetting_56 1 rfl ?_
  refine z_ishr C dX4_readSetting_57 ?_
  refine z_iconst C dX4_readSetting_58 zi_1 ?_
  refine z_iand C dX4_readSetting_59 ?_
  refine z_iconst C dX4_readSetting_60 zi_1 ?_
  refine z_icmp_ne C 67 dX4_readSetting_61 (by decide) ?_ ?_
  · refine z_bipush C dX4_readSetting_64 zbi_m14 ?_
    exact z_ireturn C dX4_readSetting_66
  refine z_aload_n C dX4_readSetting_67 0 rfl ?_
  refine z_getR C zf_X4_12 dX4_readSetting_68 (fun r8 => ?_)
  refine z_callVv C zc_X4_52 [] (fun l D tc b0 r h => m_X3_next l D tc ro b0 h) dX4_readSetting_71 rfl rfl (Nat.le_of_ble_eq_true rfl) (by decide) (by decide) ⟨Nat.le_of_ble_eq_true rfl, Nat.le_of_ble_eq_true rfl⟩ (fun h9 => ?_)
  refine z_aload_n C dX4_readSetting_74 0 rfl ?_
  refine z_iconst C dX4_readSetting_75 zi_0 ?_
  refine z_iload_n C dX4_readSetting_76 1 rfl ?_
  refine z_callNp C zn_X4_144 [.int s0] (fun l D tc b0 r h => m_X7_mostOf l D tc ro b0 h) dX4_readSetting_77 rfl rfl (Nat.le_of_ble_eq_true rfl) (by decide) (by decide) ⟨Nat.le_of_ble_eq_true rfl, Nat.le_of_ble_eq_true rfl⟩ (fun v10 => ?_)
  refine z_callVi C zc_X4_112 [.int (0 : Int32), .int v10] (fun l D tc b0 r h => m_X4_readInteger l D tc ro b0 h) dX4_readSetting_80 rfl rfl (Nat.le_of_ble_eq_true rfl) (by decide) (by decide) ⟨Nat.le_of_ble_eq_true rfl, Nat.le_of_ble_eq_true rfl⟩ (fun v11 h12 => ?_)
  refine z_istore_n (lv' := [(0, .ref a0), (1, .int s0), (2, .int v11)]) C dX4_readSetting_83 (by decide) rfl ?_
  refine z_iload_n C dX4_readSetting_84 2 rfl ?_
  refine z_if_ge C 90 dX4_readSetting_85 (by decide) ?_ ?_
  · refine z_iload_n C dX4_readSetting_88 2 rfl ?_
    exact z_ireturn C dX4_readSetting_89
  refine z_aload_n C dX4_readSetting_90 0 rfl ?_
  refine z_dup C dX4_readSetting_91 rfl ?_
  refine z_getI C zf_X4_32 dX4_readSetting_92 (fun v13 => ?_)
  refine z_iconst C dX4_readSetting_95 zi_1 ?_
  refine z_iload_n C dX4_readSetting_96 1 rfl ?_
  refine z_ishl C dX4_readSetting_97 ?_
  refine z_ior C dX4_readSetting_98 ?_
  refine z_putI C zp_X4_32 dX4_readSetting_99 (fun h14 => ?_)
  refine z_aload_n C dX4_readSetting_102 0 rfl ?_
  refine z_getR C zf_X4_21 dX4_readSetting_103 (fun r15 => ?_)
  refine z_getR C zf_X4_147 dX4_readSetting_106 (fun r16 => ?_)
  refine z_iload_n C dX4_readSetting_109 1 rfl ?_
  refine z_iload_n C dX4_readSetting_110 2 rfl ?_
  refine z_iastore C dX4_readSetting_111 (fun h17 => ?_)
  refine z_iconst C dX4_readSetting_112 zi_0 ?_
  exact z_ireturn C dX4_readSetting_113
noncomputable def j_X4_readSetting_34 (ro : Nat → Nat) (a0 : Nat) (h : zHp) : Option (Int32 × zHp) :=
  (zgR h a0 4 0).bind fun r5 => (f_X3_spells r5 (ro 14) h).bind fun v6 => if v6 = 0 then (j_X4_readSetting_51 ro a0 (1 : Int32) h) else j_X4_readSetting_51 ro a0 (0 : Int32) h
set_option maxHeartbeats 4000000 in
set_option maxRecDepth 100000 in
theorem wj_X4_readSetting_34 {P : zX} {ro : Nat → Nat} {sz : Nat} (C : zC P cX4_readSetting RX4 (some .int) 6 0 0 3 ro) {a0 : Nat} {h : zHp}  : zG P (zoI sz) (j_X4_readSetting_34 ro a0 h) 34 [(0, .ref a0)] [] h sz 0 0 := by
  unfold j_X4_readSetting_34
  refine z_aload_n C dX4_readSetting_34 0 rfl ?_
  refine z_getR C zf_X4_12 dX4_readSetting_35 (fun r5 => ?_)
  refine z_ldcS C 14 rfl dX4_readSetting_38 ?_
  refine z_callVp C zc_X4_57 [.ref (ro 14)] (fun l D tc b0 r h => m_X3_spells l D tc ro b0 h) dX4_readSetting_40 rfl rfl (Nat.le_of_ble_eq_true rfl) (by decide) (by decide) ⟨Nat.le_of_ble_eq_true rfl, Nat.le_of_ble_eq_true rfl⟩ (fun v6 => ?_)
  refine z_if_eq C 50 dX4_readSetting_43 (by decide) ?_ ?_
  · refine z_iconst C dX4_readSetting_50 zi_1 ?_
    exact wj_X4_readSetting_51 C
  refine z_iconst C dX4_readSetting_46 zi_0 ?_
  refine z_goto C 51 dX4_readSetting_47 (by decide) ?_
  exact wj_X4_readSetting_51 C
noncomputable def f_X4_readSetting (ro : Nat → Nat) (a0 : Nat) (hp : zHp) : Option (Int32 × zHp) :=
  (zis hp a0 4).bind fun _ => (zgR hp a0 4 0).bind fun r1 => (f_X3_next r1 hp).bind fun h2 => (zgR h2 a0 4 0).bind fun r3 => (f_X3_spells r3 (ro 14) h2).bind fun v4 => if v4 = 0 then ((zgR h2 a0 4 0).bind fun r18 => (f_X3_spells r18 (ro 15) h2).bind fun v19 => if v19 = 0 then (some ((-11 : Int32), h2)) else j_X4_readSetting_34 ro a0 h2) else j_X4_readSetting_34 ro a0 h2
set_option maxHeartbeats 4000000 in
set_option maxRecDepth 100000 in
theorem m_X4_readSetting (l : Launch) (D : va_G) (tc : Nat → ClassId) (ro : Nat → Nat) (b0 : Nat) {a0 : Nat} {hp : zHp} {sz : Nat} {r : (Int32 × zHp)} (h : f_X4_readSetting ro a0 hp = some r) : zis hp a0 4 = some () ∧ zM l yX4_readSetting cX4_readSetting 3 (some .int) 6 0 0 [.ref a0] D tc ro b0 hp sz ((zoI sz) r).1 ((zoI sz) r).2.1 ((zoI sz) r).2.2 := by
  refine ⟨?_, z_start (o := (zoI sz)) (lv := [(0, .ref a0)]) h (by decide +kernel) RX4 rfl rfl (Nat.le_of_ble_eq_true rfl) (fun P C => ?_)⟩
  · unfold f_X4_readSetting at h
    cases hc : zis hp a0 4 with
    | none => rw [hc] at h; cases h
    | some u => rfl
  unfold f_X4_readSetting
  refine z_is ?_
  refine z_aload_n C dX4_readSetting_0 0 rfl ?_
  refine z_getR C zf_X4_12 dX4_readSetting_1 (fun r1 => ?_)
  refine z_callVv C zc_X4_52 [] (fun l D tc b0 r h => m_X3_next l D tc ro b0 h) dX4_readSetting_4 rfl rfl (Nat.le_of_ble_eq_true rfl) (by decide) (by decide) ⟨Nat.le_of_ble_eq_true rfl, Nat.le_of_ble_eq_true rfl⟩ (fun h2 => ?_)
  refine z_aload_n C dX4_readSetting_7 0 rfl ?_
  refine z_getR C zf_X4_12 dX4_readSetting_8 (fun r3 => ?_)
  refine z_ldcS C 14 rfl dX4_readSetting_11 ?_
  refine z_callVp C zc_X4_57 [.ref (ro 14)] (fun l D tc b0 r h => m_X3_spells l D tc ro b0 h) dX4_readSetting_13 rfl rfl (Nat.le_of_ble_eq_true rfl) (by decide) (by decide) ⟨Nat.le_of_ble_eq_true rfl, Nat.le_of_ble_eq_true rfl⟩ (fun v4 => ?_)
  refine z_if_ne C 34 dX4_readSetting_16 (by decide) ?_ ?_
  · refine z_aload_n C dX4_readSetting_19 0 rfl ?_
    refine z_getR C zf_X4_12 dX4_readSetting_20 (fun r18 => ?_)
    refine z_ldcS C 15 rfl dX4_readSetting_23 ?_
    refine z_callVp C zc_X4_57 [.ref (ro 15)] (fun l D tc b0 r h => m_X3_spells l D tc ro b0 h) dX4_readSetting_25 rfl rfl (Nat.le_of_ble_eq_true rfl) (by decide) (by decide) ⟨Nat.le_of_ble_eq_true rfl, Nat.le_of_ble_eq_true rfl⟩ (fun v19 => ?_)
    refine z_if_ne C 34 dX4_readSetting_28 (by decide) ?_ ?_
    · refine z_bipush C dX4_readSetting_31 zbi_m11 ?_
      exact z_ireturn C dX4_readSetting_33
    exact wj_X4_readSetting_34 C
  exact wj_X4_readSetting_34 C
noncomputable def f_X4_readDeclaration (ro : Nat → Nat) (a0 : Nat) (hp : zHp) : Option (Int32 × zHp) :=
  (zis hp a0 4).bind fun _ => (zgR hp a0 4 0).bind fun r1 => (f_X3_spells r1 (ro 0) hp).bind fun v2 => if v2 = 0 then ((zgR hp a0 4 0).bind fun r3 => (f_X3_spells r3 (ro 8) hp).bind fun v4 => if v4 = 0 then ((zgR hp a0 4 0).bind fun r5 => (f_X3_spells r5 (ro 10) hp).bind fun v6 => if v6 = 0 then ((zgR hp a0 4 0).bind fun r7 => (f_X3_spells r7 (ro 11) hp).bind fun v8 => if v8 = 0 then ((zgR hp a0 4 0).bind fun r9 => (f_X3_spells r9 (ro 12) hp).bind fun v10 => if v10 = 0 then ((zgR hp a0 4 0).bind fun r11 => (f_X3_spells r11 (ro 13) hp).bind fun v12 => if v12 = 0 then (some ((-11 : Int32), hp)) else zb2 (f_X4_readSetting ro a0 hp) fun v13 h14 => some (v13, h14)) else zb2 (f_X4_readTable a0 hp) fun v15 h16 => some (v15, h16)) else zb2 (f_X4_readBox ro a0 hp) fun v17 h18 => some (v17, h18)) else zb2 (f_X4_readWard ro a0 hp) fun v19 h20 => some (v19, h20)) else zb2 (f_X4_readRegion ro a0 hp) fun v21 h22 => some (v21, h22)) else zb2 (f_X4_readParty ro a0 hp) fun v23 h24 => some (v23, h24)
set_option maxHeartbeats 4000000 in
set_option maxRecDepth 100000 in
theorem m_X4_readDeclaration (l : Launch) (D : va_G) (tc : Nat → ClassId) (ro : Nat → Nat) (b0 : Nat) {a0 : Nat} {hp : zHp} {sz : Nat} {r : (Int32 × zHp)} (h : f_X4_readDeclaration ro a0 hp = some r) : zis hp a0 4 = some () ∧ zM l yX4_readDeclaration cX4_readDeclaration 1 (some .int) 9 0 0 [.ref a0] D tc ro b0 hp sz ((zoI sz) r).1 ((zoI sz) r).2.1 ((zoI sz) r).2.2 := by
  refine ⟨?_, z_start (o := (zoI sz)) (lv := [(0, .ref a0)]) h (by decide +kernel) RX4 rfl rfl (Nat.le_of_ble_eq_true rfl) (fun P C => ?_)⟩
  · unfold f_X4_readDeclaration at h
    cases hc : zis hp a0 4 with
    | none => rw [hc] at h; cases h
    | some u => rfl
  unfold f_X4_readDeclaration
  refine z_is ?_
  refine z_aload_n C dX4_readDeclaration_0 0 rfl ?_
  refine z_getR C zf_X4_12 dX4_readDeclaration_1 (fun r1 => ?_)
  refine z_ldcS C 0 rfl dX4_readDeclaration_4 ?_
  refine z_callVp C zc_X4_57 [.ref (ro 0)] (fun l D tc b0 r h => m_X3_spells l D tc ro b0 h) dX4_readDeclaration_6 rfl rfl (Nat.le_of_ble_eq_true rfl) (by decide) (by decide) ⟨Nat.le_of_ble_eq_true rfl, Nat.le_of_ble_eq_true rfl⟩ (fun v2 => ?_)
  refine z_if_eq C 17 dX4_readDeclaration_9 (by decide) ?_ ?_
  · refine z_aload_n C dX4_readDeclaration_17 0 rfl ?_
    refine z_getR C zf_X4_12 dX4_readDeclaration_18 (fun r3 => ?_)
    refine z_ldcS C 8 rfl dX4_readDeclaration_21 ?_
    refine z_callVp C zc_X4_57 [.ref (ro 8)] (fun l D tc b0 r h => m_X3_spells l D tc ro b0 h) dX4_readDeclaration_23 rfl rfl (Nat.le_of_ble_eq_true rfl) (by decide) (by decide) ⟨Nat.le_of_ble_eq_true rfl, Nat.le_of_ble_eq_true rfl⟩ (fun v4 => ?_)
    refine z_if_eq C 34 dX4_readDeclaration_26 (by decide) ?_ ?_
    · refine z_aload_n C dX4_readDeclaration_34 0 rfl ?_
      refine z_getR C zf_X4_12 dX4_readDeclaration_35 (fun r5 => ?_)
      refine z_ldcS C 10 rfl dX4_readDeclaration_38 ?_
      refine z_callVp C zc_X4_57 [.ref (ro 10)] (fun l D tc b0 r h => m_X3_spells l D tc ro b0 h) dX4_readDeclaration_40 rfl rfl (Nat.le_of_ble_eq_true rfl) (by decide) (by decide) ⟨Nat.le_of_ble_eq_true rfl, Nat.le_of_ble_eq_true rfl⟩ (fun v6 => ?_)
      refine z_if_eq C 51 dX4_readDeclaration_43 (by decide) ?_ ?_
      · refine z_aload_n C dX4_readDeclaration_51 0 rfl ?_
        refine z_getR C zf_X4_12 dX4_readDeclaration_52 (fun r7 => ?_)
        refine z_ldcS C 11 rfl dX4_readDeclaration_55 ?_
        refine z_callVp C zc_X4_57 [.ref (ro 11)] (fun l D tc b0 r h => m_X3_spells l D tc ro b0 h) dX4_readDeclaration_57 rfl rfl (Nat.le_of_ble_eq_true rfl) (by decide) (by decide) ⟨Nat.le_of_ble_eq_true rfl, Nat.le_of_ble_eq_true rfl⟩ (fun v8 => ?_)
        refine z_if_eq C 68 dX4_readDeclaration_60 (by decide) ?_ ?_
        · refine z_aload_n C dX4_readDeclaration_68 0 rfl ?_
          refine z_getR C zf_X4_12 dX4_readDeclaration_69 (fun r9 => ?_)
          refine z_ldcS C 12 rfl dX4_readDeclaration_72 ?_
          refine z_callVp C zc_X4_57 [.ref (ro 12)] (fun l D tc b0 r h => m_X3_spells l D tc ro b0 h) dX4_readDeclaration_74 rfl rfl (Nat.le_of_ble_eq_true rfl) (by decide) (by decide) ⟨Nat.le_of_ble_eq_true rfl, Nat.le_of_ble_eq_true rfl⟩ (fun v10 => ?_)
          refine z_if_eq C 85 dX4_readDeclaration_77 (by decide) ?_ ?_
          · refine z_aload_n C dX4_readDeclaration_85 0 rfl ?_
            refine z_getR C zf_X4_12 dX4_readDeclaration_86 (fun r11 => ?_)
            refine z_ldcS C 13 rfl dX4_readDeclaration_89 ?_
            refine z_callVp C zc_X4_57 [.ref (ro 13)] (fun l D tc b0 r h => m_X3_spells l D tc ro b0 h) dX4_readDeclaration_91 rfl rfl (Nat.le_of_ble_eq_true rfl) (by decide) (by decide) ⟨Nat.le_of_ble_eq_true rfl, Nat.le_of_ble_eq_true rfl⟩ (fun v12 => ?_)
            refine z_if_eq C 104 dX4_readDeclaration_94 (by decide) ?_ ?_
            · refine z_bipush C dX4_readDeclaration_104 zbi_m11 ?_
              exact z_ireturn C dX4_readDeclaration_106
            refine z_aload_n C dX4_readDeclaration_97 0 rfl ?_
            refine z_callVi C zc_X4_86 [] (fun l D tc b0 r h => m_X4_readSetting l D tc ro b0 h) dX4_readDeclaration_98 rfl rfl (Nat.le_of_ble_eq_true rfl) (by decide) (by decide) ⟨Nat.le_of_ble_eq_true rfl, Nat.le_of_ble_eq_true rfl⟩ (fun v13 h14 => ?_)
            refine z_goto C 106 dX4_readDeclaration_101 (by decide) ?_
            exact z_ireturn C dX4_readDeclaration_106
          refine z_aload_n C dX4_readDeclaration_80 0 rfl ?_
          refine z_callVi C zc_X4_81 [] (fun l D tc b0 r h => m_X4_readTable l D tc ro b0 h) dX4_readDeclaration_81 rfl rfl (Nat.le_of_ble_eq_true rfl) (by decide) (by decide) ⟨Nat.le_of_ble_eq_true rfl, Nat.le_of_ble_eq_true rfl⟩ (fun v15 h16 => ?_)
          exact z_ireturn C dX4_readDeclaration_84
        refine z_aload_n C dX4_readDeclaration_63 0 rfl ?_
        refine z_callVi C zc_X4_76 [] (fun l D tc b0 r h => m_X4_readBox l D tc ro b0 h) dX4_readDeclaration_64 rfl rfl (Nat.le_of_ble_eq_true rfl) (by decide) (by decide) ⟨Nat.le_of_ble_eq_true rfl, Nat.le_of_ble_eq_true rfl⟩ (fun v17 h18 => ?_)
        exact z_ireturn C dX4_readDeclaration_67
      refine z_aload_n C dX4_readDeclaration_46 0 rfl ?_
      refine z_callVi C zc_X4_71 [] (fun l D tc b0 r h => m_X4_readWard l D tc ro b0 h) dX4_readDeclaration_47 rfl rfl (Nat.le_of_ble_eq_true rfl) (by decide) (by decide) ⟨Nat.le_of_ble_eq_true rfl, Nat.le_of_ble_eq_true rfl⟩ (fun v19 h20 => ?_)
      exact z_ireturn C dX4_readDeclaration_50
    refine z_aload_n C dX4_readDeclaration_29 0 rfl ?_
    refine z_callVi C zc_X4_66 [] (fun l D tc b0 r h => m_X4_readRegion l D tc ro b0 h) dX4_readDeclaration_30 rfl rfl (Nat.le_of_ble_eq_true rfl) (by decide) (by decide) ⟨Nat.le_of_ble_eq_true rfl, Nat.le_of_ble_eq_true rfl⟩ (fun v21 h22 => ?_)
    exact z_ireturn C dX4_readDeclaration_33
  refine z_aload_n C dX4_readDeclaration_12 0 rfl ?_
  refine z_callVi C zc_X4_61 [] (fun l D tc b0 r h => m_X4_readParty l D tc ro b0 h) dX4_readDeclaration_13 rfl rfl (Nat.le_of_ble_eq_true rfl) (by decide) (by decide) ⟨Nat.le_of_ble_eq_true rfl, Nat.le_of_ble_eq_true rfl⟩ (fun v23 h24 => ?_)
  exact z_ireturn C dX4_readDeclaration_16
noncomputable def f_X4_readSemicolon (a0 : Nat) (hp : zHp) : Option (Int32 × zHp) :=
  (zis hp a0 4).bind fun _ => (zgR hp a0 4 0).bind fun r1 => (zgI hp r1 3 3).bind fun v2 => if v2 = (3 : Int32) then ((zgR hp a0 4 0).bind fun r3 => (f_X3_next r3 hp).bind fun h4 => some ((0 : Int32), h4)) else some ((-11 : Int32), hp)
set_option maxHeartbeats 4000000 in
set_option maxRecDepth 100000 in
theorem m_X4_readSemicolon (l : Launch) (D : va_G) (tc : Nat → ClassId) (ro : Nat → Nat) (b0 : Nat) {a0 : Nat} {hp : zHp} {sz : Nat} {r : (Int32 × zHp)} (h : f_X4_readSemicolon a0 hp = some r) : zis hp a0 4 = some () ∧ zM l yX4_readSemicolon cX4_readSemicolon 1 (some .int) 3 0 0 [.ref a0] D tc ro b0 hp sz ((zoI sz) r).1 ((zoI sz) r).2.1 ((zoI sz) r).2.2 := by
  refine ⟨?_, z_start (o := (zoI sz)) (lv := [(0, .ref a0)]) h (by decide +kernel) RX4 rfl rfl (Nat.le_of_ble_eq_true rfl) (fun P C => ?_)⟩
  · unfold f_X4_readSemicolon at h
    cases hc : zis hp a0 4 with
    | none => rw [hc] at h; cases h
    | some u => rfl
  unfold f_X4_readSemicolon
  refine z_is ?_
  refine z_aload_n C dX4_readSemicolon_0 0 rfl ?_
  refine z_getR C zf_X4_12 dX4_readSemicolon_1 (fun r1 => ?_)
  refine z_getI C zf_X4_39 dX4_readSemicolon_4 (fun v2 => ?_)
  refine z_iconst C dX4_readSemicolon_7 zi_3 ?_
  refine z_icmp_eq C 14 dX4_readSemicolon_8 (by decide) ?_ ?_
  · refine z_aload_n C dX4_readSemicolon_14 0 rfl ?_
    refine z_getR C zf_X4_12 dX4_readSemicolon_15 (fun r3 => ?_)
    refine z_callVv C zc_X4_52 [] (fun l D tc b0 r h => m_X3_next l D tc ro b0 h) dX4_readSemicolon_18 rfl rfl (Nat.le_of_ble_eq_true rfl) (by decide) (by decide) ⟨Nat.le_of_ble_eq_true rfl, Nat.le_of_ble_eq_true rfl⟩ (fun h4 => ?_)
    refine z_iconst C dX4_readSemicolon_21 zi_0 ?_
    exact z_ireturn C dX4_readSemicolon_22
  refine z_bipush C dX4_readSemicolon_11 zbi_m11 ?_
  exact z_ireturn C dX4_readSemicolon_13
noncomputable def j_X4_readText_56 (ro : Nat → Nat) (k60 : Int32 → zHp → Option (Int32 × zHp)) (k79 : Int32 → zHp → Option (Int32 × zHp)) (rec : Int32 → zHp → Option (Int32 × zHp)) (a0 : Nat) (x1 : Int32) (x2 : Int32) (x3 : Int32) (h : zHp) : Option (Int32 × zHp) :=
  if x3 < 0 then (k60 x3 h) else zlet (x2 + (1 : Int32)) fun v11 => rec v11 h
set_option maxHeartbeats 4000000 in
set_option maxRecDepth 100000 in
theorem wj_X4_readText_56 {P : zX} {ro : Nat → Nat} {sz : Nat} (C : zC P cX4_readText RX4 (some .int) 10 0 0 4 ro) {a0 : Nat} {x1 : Int32} {x2 : Int32} {x3 : Int32} {h : zHp} {k60 : Int32 → zHp → Option (Int32 × zHp)} (hk60 : ∀ (x3 : Int32) (h : zHp), zG P (zoI sz) (k60 x3 h) 60 [(0, .ref a0), (3, .int x3)] [] h sz 0 0) {k79 : Int32 → zHp → Option (Int32 × zHp)} (hk79 : ∀ (x2 : Int32) (h : zHp), zG P (zoI sz) (k79 x2 h) 79 [(2, .int x2)] [] h sz 0 0) {rec : Int32 → zHp → Option (Int32 × zHp)} (hrec : ∀ (x2 : Int32) (h : zHp), zG P (zoI sz) (rec x2 h) 27 [(0, .ref a0), (1, .int x1), (2, .int x2)] [] h sz 0 0) : zG P (zoI sz) (j_X4_readText_56 ro k60 k79 rec a0 x1 x2 x3 h) 56 [(0, .ref a0), (1, .int x1), (2, .int x2), (3, .int x3)] [] h sz 0 0 := by
  unfold j_X4_readText_56
  refine z_iload_n C dX4_readText_56 3 rfl ?_
  refine z_if_ge C 73 dX4_readText_57 (by decide) ?_ ?_
  · exact z_sub [0, 3] rfl (hk60 _ _)
  refine z_iincL C 2 (fun v11 => [(0, .ref a0), (1, .int x1), (2, .int v11), (3, .int x3)]) dX4_readText_73 rfl zi_1 (by decide) (fun _ => rfl) (fun v11 => ?_)
  refine z_goto C 27 dX4_readText_76 (by decide) ?_
  exact z_sub [0, 1, 2] rfl (hrec _ _)
noncomputable def b_X4_readText_27 (ro : Nat → Nat) (k60 : Int32 → zHp → Option (Int32 × zHp)) (k79 : Int32 → zHp → Option (Int32 × zHp)) (a0 : Nat) (x1 : Int32) (rec : Int32 → zHp → Option (Int32 × zHp)) (x2 : Int32) (h : zHp) : Option (Int32 × zHp) :=
  if x1 < x2 then (k79 x2 h) else (zgR h a0 4 0).bind fun r7 => (zgI h r7 3 3).bind fun v8 => if v8 = 0 then (k79 x2 h) else zb2 (f_X4_readDeclaration ro a0 h) fun v9 h10 => if v9 < 0 then (j_X4_readText_56 ro k60 k79 rec a0 x1 x2 v9 h10) else zb2 (f_X4_readSemicolon a0 h10) fun v12 h13 => j_X4_readText_56 ro k60 k79 rec a0 x1 x2 v12 h13
noncomputable def l_X4_readText_27 (ro : Nat → Nat) (k60 : Int32 → zHp → Option (Int32 × zHp)) (k79 : Int32 → zHp → Option (Int32 × zHp)) (a0 : Nat) (x1 : Int32) (n : Nat) : Int32 → zHp → Option (Int32 × zHp) :=
  Nat.rec (motive := fun _ => Int32 → zHp → Option (Int32 × zHp)) (fun _ _ => none) (fun _ rec => b_X4_readText_27 ro k60 k79 a0 x1 rec) n
theorem l_X4_readText_27_s {ro : Nat → Nat} (k60 : Int32 → zHp → Option (Int32 × zHp)) (k79 : Int32 → zHp → Option (Int32 × zHp)) (a0 : Nat) (x1 : Int32) (n : Nat) (x2 : Int32) (h : zHp) : l_X4_readText_27 ro k60 k79 a0 x1 (n + 1) x2 h = b_X4_readText_27 ro k60 k79 a0 x1 (l_X4_readText_27 ro k60 k79 a0 x1 n) x2 h := rfl
set_option maxHeartbeats 4000000 in
set_option maxRecDepth 100000 in
theorem wl_X4_readText_27 {P : zX} {ro : Nat → Nat} {sz : Nat} (C : zC P cX4_readText RX4 (some .int) 10 0 0 4 ro) {a0 : Nat} {x1 : Int32} {k60 : Int32 → zHp → Option (Int32 × zHp)} (hk60 : ∀ (x3 : Int32) (h : zHp), zG P (zoI sz) (k60 x3 h) 60 [(0, .ref a0), (3, .int x3)] [] h sz 0 0) {k79 : Int32 → zHp → Option (Int32 × zHp)} (hk79 : ∀ (x2 : Int32) (h : zHp), zG P (zoI sz) (k79 x2 h) 79 [(2, .int x2)] [] h sz 0 0) : ∀ (n : Nat) (x2 : Int32) (h : zHp), zG P (zoI sz) (l_X4_readText_27 ro k60 k79 a0 x1 n x2 h) 27 [(0, .ref a0), (1, .int x1), (2, .int x2)] [] h sz 0 0 := by
  intro n
  induction n with
  | zero =>
    intro x2 h
    show zG P (zoI sz) none _ _ _ _ _ _ _
    exact z_none
  | succ n ih =>
    intro x2 h
    show zG P (zoI sz) (b_X4_readText_27 ro k60 k79 a0 x1 (l_X4_readText_27 ro k60 k79 a0 x1 n) x2 h) _ _ _ _ _ _ _
    unfold b_X4_readText_27
    refine z_iload_n C dX4_readText_27 2 rfl ?_
    refine z_iload_n C dX4_readText_28 1 rfl ?_
    refine z_icmp_gt C 79 dX4_readText_29 (by decide) ?_ ?_
    · exact z_sub [2] rfl (hk79 _ _)
    refine z_aload_n C dX4_readText_32 0 rfl ?_
    refine z_getR C zf_X4_12 dX4_readText_33 (fun r7 => ?_)
    refine z_getI C zf_X4_39 dX4_readText_36 (fun v8 => ?_)
    refine z_if_eq C 79 dX4_readText_39 (by decide) ?_ ?_
    · exact z_sub [2] rfl (hk79 _ _)
    refine z_aload_n C dX4_readText_42 0 rfl ?_
    refine z_callVi C zc_X4_42 [] (fun l D tc b0 r h => m_X4_readDeclaration l D tc ro b0 h) dX4_readText_43 rfl rfl (Nat.le_of_ble_eq_true rfl) (by decide) (by decide) ⟨Nat.le_of_ble_eq_true rfl, Nat.le_of_ble_eq_true rfl⟩ (fun v9 h10 => ?_)
    refine z_istore_n (lv' := [(0, .ref a0), (1, .int x1), (2, .int x2), (3, .int v9)]) C dX4_readText_46 (by decide) rfl ?_
    refine z_iload_n C dX4_readText_47 3 rfl ?_
    refine z_if_lt C 56 dX4_readText_48 (by decide) ?_ ?_
    · exact wj_X4_readText_56 C hk60 hk79 ih
    refine z_aload_n C dX4_readText_51 0 rfl ?_
    refine z_callVi C zc_X4_46 [] (fun l D tc b0 r h => m_X4_readSemicolon l D tc ro b0 h) dX4_readText_52 rfl rfl (Nat.le_of_ble_eq_true rfl) (by decide) (by decide) ⟨Nat.le_of_ble_eq_true rfl, Nat.le_of_ble_eq_true rfl⟩ (fun v12 h13 => ?_)
    refine z_istore_n (lv' := [(0, .ref a0), (1, .int x1), (2, .int x2), (3, .int v12)]) C dX4_readText_55 (by decide) rfl ?_
    exact wj_X4_readText_56 C hk60 hk79 ih
noncomputable def f_X4_readText (ro : Nat → Nat) (a0 : Nat) (x1 : Int32) (hp : zHp) : Option (Int32 × zHp) :=
  (zis hp a0 4).bind fun _ => (zgR hp a0 4 1).bind fun r1 => (f_X5_clear r1 hp).bind fun h2 => (zpV h2 a0 4 2 (.int (0 : Int32))).bind fun h3 => (zpV h3 a0 4 3 (.int (-1 : Int32))).bind fun h4 => (zgR h4 a0 4 0).bind fun r5 => (f_X3_beginText r5 x1 h4).bind fun h6 => l_X4_readText_27 ro (fun p14 h15 => (zgR h15 a0 4 0).bind fun r16 => (zgI h15 r16 3 4).bind fun v17 => (zpV h15 a0 4 3 (.int v17)).bind fun h18 => some (p14, h18)) (fun p19 h20 => some (p19, h20)) a0 x1 1000000 (0 : Int32) h6
set_option maxHeartbeats 4000000 in
set_option maxRecDepth 100000 in
theorem m_X4_readText (l : Launch) (D : va_G) (tc : Nat → ClassId) (ro : Nat → Nat) (b0 : Nat) {a0 : Nat} {x1 : Int32} {hp : zHp} {sz : Nat} {r : (Int32 × zHp)} (h : f_X4_readText ro a0 x1 hp = some r) : zis hp a0 4 = some () ∧ zM l yX4_readText cX4_readText 4 (some .int) 10 0 0 [.ref a0, .int x1] D tc ro b0 hp sz ((zoI sz) r).1 ((zoI sz) r).2.1 ((zoI sz) r).2.2 := by
  refine ⟨?_, z_start (o := (zoI sz)) (lv := [(0, .ref a0), (1, .int x1)]) h (by decide +kernel) RX4 rfl rfl (Nat.le_of_ble_eq_true rfl) (fun P C => ?_)⟩
  · unfold f_X4_readText at h
    cases hc : zis hp a0 4 with
    | none => rw [hc] at h; cases h
    | some u => rfl
  unfold f_X4_readText
  refine z_is ?_
  refine z_aload_n C dX4_readText_0 0 rfl ?_
  refine z_getR C zf_X4_21 dX4_readText_1 (fun r1 => ?_)
  refine z_callVv C zc_X4_29 [] (fun l D tc b0 r h => m_X5_clear l D tc ro b0 h) dX4_readText_4 rfl rfl (Nat.le_of_ble_eq_true rfl) (by decide) (by decide) ⟨Nat.le_of_ble_eq_true rfl, Nat.le_of_ble_eq_true rfl⟩ (fun h2 => ?_)
  refine z_aload_n C dX4_readText_7 0 rfl ?_
  refine z_iconst C dX4_readText_8 zi_0 ?_
  refine z_putI C zp_X4_32 dX4_readText_9 (fun h3 => ?_)
  refine z_aload_n C dX4_readText_12 0 rfl ?_
  refine z_iconst C dX4_readText_13 zi_m1 ?_
  refine z_putI C zp_X4_25 dX4_readText_14 (fun h4 => ?_)
  refine z_aload_n C dX4_readText_17 0 rfl ?_
  refine z_getR C zf_X4_12 dX4_readText_18 (fun r5 => ?_)
  refine z_iload_n C dX4_readText_21 1 rfl ?_
  refine z_callVv C zc_X4_35 [.int x1] (fun l D tc b0 r h => m_X3_beginText l D tc ro b0 h) dX4_readText_22 rfl rfl (Nat.le_of_ble_eq_true rfl) (by decide) (by decide) ⟨Nat.le_of_ble_eq_true rfl, Nat.le_of_ble_eq_true rfl⟩ (fun h6 => ?_)
  refine z_iconst C dX4_readText_25 zi_0 ?_
  refine z_istore_n (lv' := [(0, .ref a0), (1, .int x1), (2, .int (0 : Int32))]) C dX4_readText_26 (by decide) rfl ?_
  refine wl_X4_readText_27 C (fun p14 h15 => ?_) (fun p19 h20 => ?_) _ _ _
  · refine z_aload_n C dX4_readText_60 0 rfl ?_
    refine z_aload_n C dX4_readText_61 0 rfl ?_
    refine z_getR C zf_X4_12 dX4_readText_62 (fun r16 => ?_)
    refine z_getI C zf_X4_49 dX4_readText_65 (fun v17 => ?_)
    refine z_putI C zp_X4_25 dX4_readText_68 (fun h18 => ?_)
    refine z_iload_n C dX4_readText_71 1 rfl ?_
    exact z_ireturn C dX4_readText_72
  refine z_iload_n C dX4_readText_79 0 rfl ?_
  exact z_ireturn C dX4_readText_80
noncomputable def f_X5_hasPile (a0 : Nat) (x1 : Int32) (hp : zHp) : Option Int32 :=
  (zis hp a0 5).bind fun _ => if x1 < 0 then (some (0 : Int32)) else (f_X5_piles a0 hp).bind fun v1 => if x1 < v1 then (some (1 : Int32)) else some (0 : Int32)
set_option maxHeartbeats 4000000 in
set_option maxRecDepth 100000 in
theorem m_X5_hasPile (l : Launch) (D : va_G) (tc : Nat → ClassId) (ro : Nat → Nat) (b0 : Nat) {a0 : Nat} {x1 : Int32} {hp : zHp} {sz : Nat} {r : Int32} (h : f_X5_hasPile a0 x1 hp = some r) : zis hp a0 5 = some () ∧ zM l yX5_hasPile cX5_hasPile 2 (some .boolean) 2 0 0 [.ref a0, .int x1] D tc ro b0 hp sz ((zoP sz hp) r).1 ((zoP sz hp) r).2.1 ((zoP sz hp) r).2.2 := by
  refine ⟨?_, z_start (o := (zoP sz hp)) (lv := [(0, .ref a0), (1, .int x1)]) h (by decide +kernel) RX5 rfl rfl (Nat.le_of_ble_eq_true rfl) (fun P C => ?_)⟩
  · unfold f_X5_hasPile at h
    cases hc : zis hp a0 5 with
    | none => rw [hc] at h; cases h
    | some u => rfl
  unfold f_X5_hasPile
  refine z_is ?_
  refine z_iload_n C dX5_hasPile_0 1 rfl ?_
  refine z_if_lt C 16 dX5_hasPile_1 (by decide) ?_ ?_
  · refine z_iconst C dX5_hasPile_16 zi_0 ?_
    exact z_kreturnP C rfl dX5_hasPile_17
  refine z_iload_n C dX5_hasPile_4 1 rfl ?_
  refine z_aload_n C dX5_hasPile_5 0 rfl ?_
  refine z_callVp C zc_X5_44 [] (fun l D tc b0 r h => m_X5_piles l D tc ro b0 h) dX5_hasPile_6 rfl rfl (Nat.le_of_ble_eq_true rfl) (by decide) (by decide) ⟨Nat.le_of_ble_eq_true rfl, Nat.le_of_ble_eq_true rfl⟩ (fun v1 => ?_)
  refine z_icmp_ge C 16 dX5_hasPile_9 (by decide) ?_ ?_
  · refine z_iconst C dX5_hasPile_12 zi_1 ?_
    refine z_goto C 17 dX5_hasPile_13 (by decide) ?_
    exact z_kreturnP C rfl dX5_hasPile_17
  refine z_iconst C dX5_hasPile_16 zi_0 ?_
  exact z_kreturnP C rfl dX5_hasPile_17
