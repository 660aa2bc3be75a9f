noncomputable def f_X7_whyNot (a0 : Nat) (x1 : Int32) (hp : zHp) : Option Int32 :=
  (zis hp a0 7).bind fun _ => (f_X7_demand a0 (2 : Int32) x1 hp).bind fun _ => (zgR hp a0 7 1).bind fun r1 => (f_X1_reasonAgainst r1 x1 hp).bind fun v2 => some v2
set_option maxHeartbeats 4000000 in
set_option maxRecDepth 100000 in
theorem m_X7_whyNot (l : Launch) (D : va_G) (tc : Nat → ClassId) (ro : Nat → Nat) (b0 : Nat) {a0 : Nat} {x1 : Int32} {hp : zHp} {sz : Nat} {r : Int32} (h : f_X7_whyNot a0 x1 hp = some r) : zis hp a0 7 = some () ∧ zM l yX7_whyNot cX7_whyNot 2 (some .int) 7 0 0 [.ref a0, .int x1] D tc ro b0 hp sz ((zoP sz hp) r).1 ((zoP sz hp) r).2.1 ((zoP sz hp) r).2.2 := by
  refine ⟨?_, z_start (o := (zoP sz hp)) (lv := [(0, .ref a0), (1, .int x1)]) h (by decide +kernel) RX7 rfl rfl (Nat.le_of_ble_eq_true rfl) (fun P C => ?_)⟩
  · unfold f_X7_whyNot at h
    cases hc : zis hp a0 7 with
    | none => rw [hc] at h; cases h
    | some u => rfl
  unfold f_X7_whyNot
  refine z_is ?_
  refine z_aload_n C dX7_whyNot_0 0 rfl ?_
  refine z_iconst C dX7_whyNot_1 zi_2 ?_
  refine z_iload_n C dX7_whyNot_2 1 rfl ?_
  refine z_callVpu C zc_X7_99 [.int (2 : Int32), .int x1] (fun l D tc b0 r h => m_X7_demand l D tc ro b0 h) dX7_whyNot_3 rfl rfl (Nat.le_of_ble_eq_true rfl) (by decide) (by decide) ⟨Nat.le_of_ble_eq_true rfl, Nat.le_of_ble_eq_true rfl⟩ (fun _ => ?_)
  refine z_aload_n C dX7_whyNot_6 0 rfl ?_
  refine z_getR C zf_X7_19 dX7_whyNot_7 (fun r1 => ?_)
  refine z_iload_n C dX7_whyNot_10 1 rfl ?_
  refine z_callVp C zc_X7_198 [.int x1] (fun l D tc b0 r h => m_X1_reasonAgainst l D tc ro b0 h) dX7_whyNot_11 rfl rfl (Nat.le_of_ble_eq_true rfl) (by decide) (by decide) ⟨Nat.le_of_ble_eq_true rfl, Nat.le_of_ble_eq_true rfl⟩ (fun v2 => ?_)
  exact z_ireturnP C dX7_whyNot_14
noncomputable def b_X7_rightTable_8 (k39 : Int32 → Option Int32) (k47 : Option Int32) (a0 : Nat) (x1 : Int32) (hp : zHp) (rec : Int32 → Option Int32) (x2 : Int32) : Option Int32 :=
  (zgR hp a0 7 1).bind fun r1 => (zgR hp r1 1 0).bind fun r2 => (zgR hp r2 5 0).bind fun r3 => (zaI hp 0 r3 (4 : Int32)).bind fun v4 => if x2 < v4 then ((zgR hp a0 7 1).bind fun r5 => (zgR hp r5 1 0).bind fun r6 => (f_X5_wouldFindTruth r6 x2 x1 hp).bind fun v7 => if v7 = 0 then (zlet (x2 + (1 : Int32)) fun v8 => rec v8) else k39 x2) else k47
noncomputable def l_X7_rightTable_8 (k39 : Int32 → Option Int32) (k47 : Option Int32) (a0 : Nat) (x1 : Int32) (hp : zHp) (n : Nat) : Int32 → Option Int32 :=
  Nat.rec (motive := fun _ => Int32 → Option Int32) (fun _ => none) (fun _ rec => b_X7_rightTable_8 k39 k47 a0 x1 hp rec) n
theorem l_X7_rightTable_8_s (k39 : Int32 → Option Int32) (k47 : Option Int32) (a0 : Nat) (x1 : Int32) (hp : zHp) (n : Nat) (x2 : Int32) : l_X7_rightTable_8 k39 k47 a0 x1 hp (n + 1) x2 = b_X7_rightTable_8 k39 k47 a0 x1 hp (l_X7_rightTable_8 k39 k47 a0 x1 hp n) x2 := rfl
set_option maxHeartbeats 4000000 in
set_option maxRecDepth 100000 in
theorem wl_X7_rightTable_8 {P : zX} {ro : Nat → Nat} {sz : Nat} (C : zC P cX7_rightTable RX7 (some .int) 4 0 0 3 ro) {a0 : Nat} {x1 : Int32} {hp : zHp} {k39 : Int32 → Option Int32} (hk39 : ∀ (x2 : Int32), zG P (zoP sz hp) (k39 x2) 39 [(2, .int x2)] [] hp sz 0 0) {k47 : Option Int32} (hk47 : zG P (zoP sz hp) (k47) 47 [] [] hp sz 0 0) : ∀ (n : Nat) (x2 : Int32), zG P (zoP sz hp) (l_X7_rightTable_8 k39 k47 a0 x1 hp n x2) 8 [(0, .ref a0), (1, .int x1), (2, .int x2)] [] hp sz 0 0 := by
  intro n
  induction n with
  | zero =>
    intro x2
    show zG P (zoP sz hp) none _ _ _ _ _ _ _
    exact z_none
  | succ n ih =>
    intro x2
    show zG P (zoP sz hp) (b_X7_rightTable_8 k39 k47 a0 x1 hp (l_X7_rightTable_8 k39 k47 a0 x1 hp n) x2) _ _ _ _ _ _ _
    unfold b_X7_rightTable_8
    refine z_iload_n C dX7_rightTable_8 2 rfl ?_
    refine z_aload_n C dX7_rightTable_9 0 rfl ?_
    refine z_getR C zf_X7_19 dX7_rightTable_10 (fun r1 => ?_)
    refine z_getR C zf_X7_61 dX7_rightTable_13 (fun r2 => ?_)
    refine z_getR C zf_X7_76 dX7_rightTable_16 (fun r3 => ?_)
    refine z_iconst C dX7_rightTable_19 zi_4 ?_
    refine z_iaload C dX7_rightTable_20 (fun v4 => ?_)
    refine z_icmp_ge C 47 dX7_rightTable_21 (by decide) ?_ ?_
    · refine z_aload_n C dX7_rightTable_24 0 rfl ?_
      refine z_getR C zf_X7_19 dX7_rightTable_25 (fun r5 => ?_)
      refine z_getR C zf_X7_61 dX7_rightTable_28 (fun r6 => ?_)
      refine z_iload_n C dX7_rightTable_31 2 rfl ?_
      refine z_iload_n C dX7_rightTable_32 1 rfl ?_
      refine z_callVp C zc_X7_208 [.int x2, .int x1] (fun l D tc b0 r h => m_X5_wouldFindTruth l D tc ro b0 h) dX7_rightTable_33 rfl rfl (Nat.le_of_ble_eq_true rfl) (by decide) (by decide) ⟨Nat.le_of_ble_eq_true rfl, Nat.le_of_ble_eq_true rfl⟩ (fun v7 => ?_)
      refine z_if_eq C 41 dX7_rightTable_36 (by decide) ?_ ?_
      · refine z_iincL C 2 (fun v8 => [(0, .ref a0), (1, .int x1), (2, .int v8)]) dX7_rightTable_41 rfl zi_1 (by decide) (fun _ => rfl) (fun v8 => ?_)
        refine z_goto C 8 dX7_rightTable_44 (by decide) ?_
        exact ih _
      exact z_sub [2] rfl (hk39 _)
    exact z_sub [] rfl (hk47)
noncomputable def f_X7_rightTable (a0 : Nat) (x1 : Int32) (hp : zHp) : Option Int32 :=
  (zis hp a0 7).bind fun _ => (f_X7_demand a0 (3 : Int32) x1 hp).bind fun _ => l_X7_rightTable_8 (fun p9 => some p9) (some (-1 : Int32)) a0 x1 hp 1000000 (0 : Int32)
set_option maxHeartbeats 4000000 in
set_option maxRecDepth 100000 in
theorem m_X7_rightTable (l : Launch) (D : va_G) (tc : Nat → ClassId) (ro : Nat → Nat) (b0 : Nat) {a0 : Nat} {x1 : Int32} {hp : zHp} {sz : Nat} {r : Int32} (h : f_X7_rightTable a0 x1 hp = some r) : zis hp a0 7 = some () ∧ zM l yX7_rightTable cX7_rightTable 3 (some .int) 4 0 0 [.ref a0, .int x1] D tc ro b0 hp sz ((zoP sz hp) r).1 ((zoP sz hp) r).2.1 ((zoP sz hp) r).2.2 := by
  refine ⟨?_, z_start (o := (zoP sz hp)) (lv := [(0, .ref a0), (1, .int x1)]) h (by decide +kernel) RX7 rfl rfl (Nat.le_of_ble_eq_true rfl) (fun P C => ?_)⟩
  · unfold f_X7_rightTable at h
    cases hc : zis hp a0 7 with
    | none => rw [hc] at h; cases h
    | some u => rfl
  unfold f_X7_rightTable
  refine z_is ?_
  refine z_aload_n C dX7_rightTable_0 0 rfl ?_
  refine z_iconst C dX7_rightTable_1 zi_3 ?_
  refine z_iload_n C dX7_rightTable_2 1 rfl ?_
  refine z_callVpu C zc_X7_99 [.int (3 : Int32), .int x1] (fun l D tc b0 r h => m_X7_demand l D tc ro b0 h) dX7_rightTable_3 rfl rfl (Nat.le_of_ble_eq_true rfl) (by decide) (by decide) ⟨Nat.le_of_ble_eq_true rfl, Nat.le_of_ble_eq_true rfl⟩ (fun _ => ?_)
  refine z_iconst C dX7_rightTable_6 zi_0 ?_
  refine z_istore_n (lv' := [(0, .ref a0), (1, .int x1), (2, .int (0 : Int32))]) C dX7_rightTable_7 (by decide) rfl ?_
  refine wl_X7_rightTable_8 C (fun p9 => ?_) ?_ _ _
  · refine z_iload_n C dX7_rightTable_39 0 rfl ?_
    exact z_ireturnP C dX7_rightTable_40
  refine z_iconst C dX7_rightTable_47 zi_m1 ?_
  exact z_ireturnP C dX7_rightTable_48
noncomputable def f_X7_declaredCount (a0 : Nat) (hp : zHp) : Option Int32 :=
  (zis hp a0 7).bind fun _ => (zgR hp a0 7 1).bind fun r1 => (zgR hp r1 1 1).bind fun r2 => (zgI hp r2 6 3).bind fun v3 => some v3
set_option maxHeartbeats 4000000 in
set_option maxRecDepth 100000 in
theorem m_X7_declaredCount (l : Launch) (D : va_G) (tc : Nat → ClassId) (ro : Nat → Nat) (b0 : Nat) {a0 : Nat} {hp : zHp} {sz : Nat} {r : Int32} (h : f_X7_declaredCount a0 hp = some r) : zis hp a0 7 = some () ∧ zM l yX7_declaredCount cX7_declaredCount 1 (some .int) 1 0 0 [.ref a0] D tc ro b0 hp sz ((zoP sz hp) r).1 ((zoP sz hp) r).2.1 ((zoP sz hp) r).2.2 := by
  refine ⟨?_, z_start (o := (zoP sz hp)) (lv := [(0, .ref a0)]) h (by decide +kernel) RX7 rfl rfl (Nat.le_of_ble_eq_true rfl) (fun P C => ?_)⟩
  · unfold f_X7_declaredCount at h
    cases hc : zis hp a0 7 with
    | none => rw [hc] at h; cases h
    | some u => rfl
  unfold f_X7_declaredCount
  refine z_is ?_
  refine z_aload_n C dX7_declaredCount_0 0 rfl ?_
  refine z_getR C zf_X7_19 dX7_declaredCount_1 (fun r1 => ?_)
  refine z_getR C zf_X7_90 dX7_declaredCount_4 (fun r2 => ?_)
  refine z_getI C zf_X7_214 dX7_declaredCount_7 (fun v3 => ?_)
  exact z_ireturnP C dX7_declaredCount_10
noncomputable def f_X7_declared (a0 : Nat) (x1 : Int32) (hp : zHp) : Option Int32 :=
  (zis hp a0 7).bind fun _ => if x1 < 0 then (some (-1 : Int32)) else (zgR hp a0 7 1).bind fun r1 => (zgR hp r1 1 1).bind fun r2 => (zgI hp r2 6 3).bind fun v3 => if x1 < v3 then ((zgR hp a0 7 1).bind fun r4 => (zgR hp r4 1 1).bind fun r5 => (zgR hp r5 6 2).bind fun r6 => (zaI hp 0 r6 x1).bind fun v7 => some v7) else some (-1 : Int32)
set_option maxHeartbeats 4000000 in
set_option maxRecDepth 100000 in
theorem m_X7_declared (l : Launch) (D : va_G) (tc : Nat → ClassId) (ro : Nat → Nat) (b0 : Nat) {a0 : Nat} {x1 : Int32} {hp : zHp} {sz : Nat} {r : Int32} (h : f_X7_declared a0 x1 hp = some r) : zis hp a0 7 = some () ∧ zM l yX7_declared cX7_declared 2 (some .int) 1 0 0 [.ref a0, .int x1] D tc ro b0 hp sz ((zoP sz hp) r).1 ((zoP sz hp) r).2.1 ((zoP sz hp) r).2.2 := by
  refine ⟨?_, z_start (o := (zoP sz hp)) (lv := [(0, .ref a0), (1, .int x1)]) h (by decide +kernel) RX7 rfl rfl (Nat.le_of_ble_eq_true rfl) (fun P C => ?_)⟩
  · unfold f_X7_declared at h
    cases hc : zis hp a0 7 with
    | none => rw [hc] at h; cases h
    | some u => rfl
  unfold f_X7_declared
  refine z_is ?_
  refine z_iload_n C dX7_declared_0 1 rfl ?_
  refine z_if_lt C 33 dX7_declared_1 (by decide) ?_ ?_
  · refine z_iconst C dX7_declared_33 zi_m1 ?_
    exact z_ireturnP C dX7_declared_34
  refine z_iload_n C dX7_declared_4 1 rfl ?_
  refine z_aload_n C dX7_declared_5 0 rfl ?_
  refine z_getR C zf_X7_19 dX7_declared_6 (fun r1 => ?_)
  refine z_getR C zf_X7_90 dX7_declared_9 (fun r2 => ?_)
  refine z_getI C zf_X7_214 dX7_declared_12 (fun v3 => ?_)
  refine z_icmp_ge C 33 dX7_declared_15 (by decide) ?_ ?_
  · refine z_aload_n C dX7_declared_18 0 rfl ?_
    refine z_getR C zf_X7_19 dX7_declared_19 (fun r4 => ?_)
    refine z_getR C zf_X7_90 dX7_declared_22 (fun r5 => ?_)
    refine z_getR C zf_X7_217 dX7_declared_25 (fun r6 => ?_)
    refine z_iload_n C dX7_declared_28 1 rfl ?_
    refine z_iaload C dX7_declared_29 (fun v7 => ?_)
    refine z_goto C 34 dX7_declared_30 (by decide) ?_
    exact z_ireturnP C dX7_declared_34
  refine z_iconst C dX7_declared_33 zi_m1 ?_
  exact z_ireturnP C dX7_declared_34
noncomputable def f_X7_bring (a0 : Nat) (x1 : Int32) (hp : zHp) : Option (Int32 × zHp) :=
  (zis hp a0 7).bind fun _ => (zgR hp a0 7 1).bind fun r1 => (zgR hp r1 1 0).bind fun r2 => (f_X5_has r2 (3 : Int32) x1 hp).bind fun v3 => if v3 = 0 then (some ((-1 : Int32), hp)) else (zgR hp a0 7 1).bind fun r4 => (zgR hp r4 1 1).bind fun r5 => (zgR hp r5 6 0).bind fun r6 => (zaR hp 3 r6 x1).bind fun r7 => (zgI hp r7 0 0).bind fun v8 => if v8 = (-3 : Int32) then ((zgR hp a0 7 2).bind fun r9 => (zgR hp a0 7 1).bind fun r10 => (zgR hp r10 1 1).bind fun r11 => (f_X2_keep r9 r11 hp).bind fun h12 => (zgR h12 a0 7 1).bind fun r13 => (zgR h12 r13 1 1).bind fun r14 => (zgR h12 r14 6 0).bind fun r15 => (zaR h12 3 r15 x1).bind fun r16 => (zpV h12 r16 0 0 (.int (-4 : Int32))).bind fun h17 => (zgR h17 a0 7 1).bind fun r18 => (f_X1_boxesInHall r18 h17).bind fun v19 => some (v19, h17)) else some ((-6 : Int32), hp)
set_option maxHeartbeats 4000000 in
set_option maxRecDepth 100000 in
theorem m_X7_bring (l : Launch) (D : va_G) (tc : Nat → ClassId) (ro : Nat → Nat) (b0 : Nat) {a0 : Nat} {x1 : Int32} {hp : zHp} {sz : Nat} {r : (Int32 × zHp)} (h : f_X7_bring a0 x1 hp = some r) : zis hp a0 7 = some () ∧ zM l yX7_bring cX7_bring 2 (some .int) 4 0 0 [.ref a0, .int x1] D tc ro b0 hp sz ((zoI sz) r).1 ((zoI sz) r).2.1 ((zoI sz) r).2.2 := by
  refine ⟨?_, z_start (o := (zoI sz)) (lv := [(0, .ref a0), (1, .int x1)]) h (by decide +kernel) RX7 rfl rfl (Nat.le_of_ble_eq_true rfl) (fun P C => ?_)⟩
  · unfold f_X7_bring at h
    cases hc : zis hp a0 7 with
    | none => rw [hc] at h; cases h
    | some u => rfl
  unfold f_X7_bring
  refine z_is ?_
  refine z_aload_n C dX7_bring_0 0 rfl ?_
  refine z_getR C zf_X7_19 dX7_bring_1 (fun r1 => ?_)
  refine z_getR C zf_X7_61 dX7_bring_4 (fun r2 => ?_)
  refine z_iconst C dX7_bring_7 zi_3 ?_
  refine z_iload_n C dX7_bring_8 1 rfl ?_
  refine z_callVp C zc_X7_224 [.int (3 : Int32), .int x1] (fun l D tc b0 r h => m_X5_has l D tc ro b0 h) dX7_bring_9 rfl rfl (Nat.le_of_ble_eq_true rfl) (by decide) (by decide) ⟨Nat.le_of_ble_eq_true rfl, Nat.le_of_ble_eq_true rfl⟩ (fun v3 => ?_)
  refine z_if_ne C 17 dX7_bring_12 (by decide) ?_ ?_
  · refine z_iconst C dX7_bring_15 zi_m1 ?_
    exact z_ireturn C dX7_bring_16
  refine z_aload_n C dX7_bring_17 0 rfl ?_
  refine z_getR C zf_X7_19 dX7_bring_18 (fun r4 => ?_)
  refine z_getR C zf_X7_90 dX7_bring_21 (fun r5 => ?_)
  refine z_getR C zf_X7_122 dX7_bring_24 (fun r6 => ?_)
  refine z_iload_n C dX7_bring_27 1 rfl ?_
  refine z_aaload (t := 3) (ty := .object "CountHall$Box") C (fun _ => rfl) rfl (by decide) dX7_bring_28 (fun r7 => ?_)
  refine z_getI C zf_X7_134 dX7_bring_29 (fun v8 => ?_)
  refine z_bipush C dX7_bring_32 zbi_m3 ?_
  refine z_icmp_eq C 40 dX7_bring_34 (by decide) ?_ ?_
  · refine z_aload_n C dX7_bring_40 0 rfl ?_
    refine z_getR C zf_X7_26 dX7_bring_41 (fun r9 => ?_)
    refine z_aload_n C dX7_bring_44 0 rfl ?_
    refine z_getR C zf_X7_19 dX7_bring_45 (fun r10 => ?_)
    refine z_getR C zf_X7_90 dX7_bring_48 (fun r11 => ?_)
    refine z_callVv C zc_X7_242 [.ref r11] (fun l D tc b0 r h => m_X2_keep l D tc ro b0 h) dX7_bring_51 rfl rfl (Nat.le_of_ble_eq_true rfl) (by decide) (by decide) ⟨Nat.le_of_ble_eq_true rfl, Nat.le_of_ble_eq_true rfl⟩ (fun h12 => ?_)
    refine z_aload_n C dX7_bring_54 0 rfl ?_
    refine z_getR C zf_X7_19 dX7_bring_55 (fun r13 => ?_)
    refine z_getR C zf_X7_90 dX7_bring_58 (fun r14 => ?_)
    refine z_getR C zf_X7_122 dX7_bring_61 (fun r15 => ?_)
    refine z_iload_n C dX7_bring_64 1 rfl ?_
    refine z_aaload (t := 3) (ty := .object "CountHall$Box") C (fun _ => rfl) rfl (by decide) dX7_bring_65 (fun r16 => ?_)
    refine z_bipush C dX7_bring_66 zbi_m4 ?_
    refine z_putI C zp_X7_134 dX7_bring_68 (fun h17 => ?_)
    refine z_aload_n C dX7_bring_71 0 rfl ?_
    refine z_getR C zf_X7_19 dX7_bring_72 (fun r18 => ?_)
    refine z_callVp C zc_X7_246 [] (fun l D tc b0 r h => m_X1_boxesInHall l D tc ro b0 h) dX7_bring_75 rfl rfl (Nat.le_of_ble_eq_true rfl) (by decide) (by decide) ⟨Nat.le_of_ble_eq_true rfl, Nat.le_of_ble_eq_true rfl⟩ (fun v19 => ?_)
    exact z_ireturn C dX7_bring_78
  refine z_bipush C dX7_bring_37 zbi_m6 ?_
  exact z_ireturn C dX7_bring_39
noncomputable def j_X7_open_71 (a0 : Nat) (x1 : Int32) (x2 : Int32) (a3 : Nat) (s0 : Int32) (h : zHp) : Option (Int32 × zHp) :=
  if s0 = 0 then (some ((-6 : Int32), h)) else (zgR h a0 7 1).bind fun r12 => (zgR h a0 7 1).bind fun r13 => (zgR h r13 1 0).bind fun r14 => (zgR h r14 5 4).bind fun r15 => (zaI h 0 r15 x1).bind fun v16 => (f_X1_isWardDeclared r12 v16 h).bind fun v17 => if v17 = 0 then ((f_X0_bearsGoodSeal a3 h).bind fun v18 => if v18 = 0 then (some ((-7 : Int32), h)) else (zgR h a0 7 2).bind fun r19 => (zgR h a0 7 1).bind fun r20 => (zgR h r20 1 1).bind fun r21 => (f_X2_keep r19 r21 h).bind fun h22 => zb2 (f_X0_openOn a3 x2 h22) fun v23 h24 => some (v23, h24)) else some ((-6 : Int32), h)
set_option maxHeartbeats 4000000 in
set_option maxRecDepth 100000 in
theorem wj_X7_open_71 {P : zX} {ro : Nat → Nat} {sz : Nat} (C : zC P cX7_open RX7 (some .int) 4 0 0 5 ro) {a0 : Nat} {x1 : Int32} {x2 : Int32} {a3 : Nat} {s0 : Int32} {h : zHp}  : zG P (zoI sz) (j_X7_open_71 a0 x1 x2 a3 s0 h) 71 [(0, .ref a0), (1, .int x1), (2, .int x2), (3, .ref a3)] [.int s0] h sz 0 0 := by
  unfold j_X7_open_71
  refine z_istore (lv' := [(0, .ref a0), (1, .int x1), (2, .int x2), (3, .ref a3), (4, .int s0)]) C dX7_open_71 (by decide) rfl ?_
  refine z_iload C dX7_open_73 4 rfl ?_
  refine z_if_eq C 100 dX7_open_75 (by decide) ?_ ?_
  · refine z_bipush C dX7_open_100 zbi_m6 ?_
    exact z_ireturn C dX7_open_102
  refine z_aload_n C dX7_open_78 0 rfl ?_
  refine z_getR C zf_X7_19 dX7_open_79 (fun r12 => ?_)
  refine z_aload_n C dX7_open_82 0 rfl ?_
  refine z_getR C zf_X7_19 dX7_open_83 (fun r13 => ?_)
  refine z_getR C zf_X7_61 dX7_open_86 (fun r14 => ?_)
  refine z_getR C zf_X7_116 dX7_open_89 (fun r15 => ?_)
  refine z_iload_n C dX7_open_92 1 rfl ?_
  refine z_iaload C dX7_open_93 (fun v16 => ?_)
  refine z_callVp C zc_X7_249 [.int v16] (fun l D tc b0 r h => m_X1_isWardDeclared l D tc ro b0 h) dX7_open_94 rfl rfl (Nat.le_of_ble_eq_true rfl) (by decide) (by decide) ⟨Nat.le_of_ble_eq_true rfl, Nat.le_of_ble_eq_true rfl⟩ (fun v17 => ?_)
  refine z_if_eq C 103 dX7_open_97 (by decide) ?_ ?_
  · refine z_aload_n C dX7_open_103 3 rfl ?_
    refine z_callVp C zc_X7_144 [] (fun l D tc b0 r h => m_X0_bearsGoodSeal l D tc ro b0 h) dX7_open_104 rfl rfl (Nat.le_of_ble_eq_true rfl) (by decide) (by decide) ⟨Nat.le_of_ble_eq_true rfl, Nat.le_of_ble_eq_true rfl⟩ (fun v18 => ?_)
    refine z_if_ne C 113 dX7_open_107 (by decide) ?_ ?_
    · refine z_bipush C dX7_open_110 zbi_m7 ?_
      exact z_ireturn C dX7_open_112
    refine z_aload_n C dX7_open_113 0 rfl ?_
    refine z_getR C zf_X7_26 dX7_open_114 (fun r19 => ?_)
    refine z_aload_n C dX7_open_117 0 rfl ?_
    refine z_getR C zf_X7_19 dX7_open_118 (fun r20 => ?_)
    refine z_getR C zf_X7_90 dX7_open_121 (fun r21 => ?_)
    refine z_callVv C zc_X7_242 [.ref r21] (fun l D tc b0 r h => m_X2_keep l D tc ro b0 h) dX7_open_124 rfl rfl (Nat.le_of_ble_eq_true rfl) (by decide) (by decide) ⟨Nat.le_of_ble_eq_true rfl, Nat.le_of_ble_eq_true rfl⟩ (fun h22 => ?_)
    refine z_aload_n C dX7_open_127 3 rfl ?_
    refine z_iload_n C dX7_open_128 2 rfl ?_
    refine z_callVi C zc_X7_252 [.int x2] (fun l D tc b0 r h => m_X0_openOn l D tc ro b0 h) dX7_open_129 rfl rfl (Nat.le_of_ble_eq_true rfl) (by decide) (by decide) ⟨Nat.le_of_ble_eq_true rfl, Nat.le_of_ble_eq_true rfl⟩ (fun v23 h24 => ?_)
    exact z_ireturn C dX7_open_132
  refine z_bipush C dX7_open_100 zbi_m6 ?_
  exact z_ireturn C dX7_open_102
noncomputable def j_X7_open_70 (a0 : Nat) (x1 : Int32) (x2 : Int32) (a3 : Nat) (h : zHp) : Option (Int32 × zHp) :=
  j_X7_open_71 a0 x1 x2 a3 (0 : Int32) h
set_option maxHeartbeats 4000000 in
set_option maxRecDepth 100000 in
theorem wj_X7_open_70 {P : zX} {ro : Nat → Nat} {sz : Nat} (C : zC P cX7_open RX7 (some .int) 4 0 0 5 ro) {a0 : Nat} {x1 : Int32} {x2 : Int32} {a3 : Nat} {h : zHp}  : zG P (zoI sz) (j_X7_open_70 a0 x1 x2 a3 h) 70 [(0, .ref a0), (1, .int x1), (2, .int x2), (3, .ref a3)] [] h sz 0 0 := by
  unfold j_X7_open_70
  refine z_iconst C dX7_open_70 zi_0 ?_
  exact wj_X7_open_71 C
noncomputable def f_X7_open (a0 : Nat) (x1 : Int32) (x2 : Int32) (hp : zHp) : Option (Int32 × zHp) :=
  (zis hp a0 7).bind fun _ => (zgR hp a0 7 1).bind fun r1 => (zgR hp r1 1 0).bind fun r2 => (f_X5_has r2 (3 : Int32) x1 hp).bind fun v3 => if v3 = 0 then (some ((-1 : Int32), hp)) else (zgR hp a0 7 1).bind fun r4 => (zgR hp r4 1 0).bind fun r5 => (f_X5_has r5 (4 : Int32) x2 hp).bind fun v6 => if v6 = 0 then (some ((-1 : Int32), hp)) else (zgR hp a0 7 1).bind fun r7 => (zgR hp r7 1 1).bind fun r8 => (zgR hp r8 6 0).bind fun r9 => (zaR hp 3 r9 x1).bind fun r10 => (zgI hp r10 0 0).bind fun v11 => if v11 = (-4 : Int32) then ((zgR hp a0 7 1).bind fun r25 => (f_X1_boxOn r25 x2 hp).bind fun v26 => if v26 = (-1 : Int32) then (j_X7_open_71 a0 x1 x2 r10 (1 : Int32) hp) else j_X7_open_70 a0 x1 x2 r10 hp) else j_X7_open_70 a0 x1 x2 r10 hp
set_option maxHeartbeats 4000000 in
set_option maxRecDepth 100000 in
theorem m_X7_open (l : Launch) (D : va_G) (tc : Nat → ClassId) (ro : Nat → Nat) (b0 : Nat) {a0 : Nat} {x1 : Int32} {x2 : Int32} {hp : zHp} {sz : Nat} {r : (Int32 × zHp)} (h : f_X7_open a0 x1 x2 hp = some r) : zis hp a0 7 = some () ∧ zM l yX7_open cX7_open 5 (some .int) 4 0 0 [.ref a0, .int x1, .int x2] D tc ro b0 hp sz ((zoI sz) r).1 ((zoI sz) r).2.1 ((zoI sz) r).2.2 := by
  refine ⟨?_, z_start (o := (zoI sz)) (lv := [(0, .ref a0), (1, .int x1), (2, .int x2)]) h (by decide +kernel) RX7 rfl rfl (Nat.le_of_ble_eq_true rfl) (fun P C => ?_)⟩
  · unfold f_X7_open at h
    cases hc : zis hp a0 7 with
    | none => rw [hc] at h; cases h
    | some u => rfl
  unfold f_X7_open
  refine z_is ?_
  refine z_aload_n C dX7_open_0 0 rfl ?_
  refine z_getR C zf_X7_19 dX7_open_1 (fun r1 => ?_)
  refine z_getR C zf_X7_61 dX7_open_4 (fun r2 => ?_)
  refine z_iconst C dX7_open_7 zi_3 ?_
  refine z_iload_n C dX7_open_8 1 rfl ?_
  refine z_callVp C zc_X7_224 [.int (3 : Int32), .int x1] (fun l D tc b0 r h => m_X5_has l D tc ro b0 h) dX7_open_9 rfl rfl (Nat.le_of_ble_eq_true rfl) (by decide) (by decide) ⟨Nat.le_of_ble_eq_true rfl, Nat.le_of_ble_eq_true rfl⟩ (fun v3 => ?_)
  refine z_if_eq C 30 dX7_open_12 (by decide) ?_ ?_
  · refine z_iconst C dX7_open_30 zi_m1 ?_
    exact z_ireturn C dX7_open_31
  refine z_aload_n C dX7_open_15 0 rfl ?_
  refine z_getR C zf_X7_19 dX7_open_16 (fun r4 => ?_)
  refine z_getR C zf_X7_61 dX7_open_19 (fun r5 => ?_)
  refine z_iconst C dX7_open_22 zi_4 ?_
  refine z_iload_n C dX7_open_23 2 rfl ?_
  refine z_callVp C zc_X7_224 [.int (4 : Int32), .int x2] (fun l D tc b0 r h => m_X5_has l D tc ro b0 h) dX7_open_24 rfl rfl (Nat.le_of_ble_eq_true rfl) (by decide) (by decide) ⟨Nat.le_of_ble_eq_true rfl, Nat.le_of_ble_eq_true rfl⟩ (fun v6 => ?_)
  refine z_if_ne C 32 dX7_open_27 (by decide) ?_ ?_
  · refine z_iconst C dX7_open_30 zi_m1 ?_
    exact z_ireturn C dX7_open_31
  refine z_aload_n C dX7_open_32 0 rfl ?_
  refine z_getR C zf_X7_19 dX7_open_33 (fun r7 => ?_)
  refine z_getR C zf_X7_90 dX7_open_36 (fun r8 => ?_)
  refine z_getR C zf_X7_122 dX7_open_39 (fun r9 => ?_)
  refine z_iload_n C dX7_open_42 1 rfl ?_
  refine z_aaload (t := 3) (ty := .object "CountHall$Box") C (fun _ => rfl) rfl (by decide) dX7_open_43 (fun r10 => ?_)
  refine z_astore_n (lv' := [(0, .ref a0), (1, .int x1), (2, .int x2), (3, .ref r10)]) C dX7_open_44 (by decide) rfl ?_
  refine z_aload_n C dX7_open_45 3 rfl ?_
  refine z_getI C zf_X7_134 dX7_open_46 (fun v11 => ?_)
  refine z_bipush C dX7_open_49 zbi_m4 ?_
  refine z_icmp_ne C 70 dX7_open_51 (by decide) ?_ ?_
  · refine z_aload_n C dX7_open_54 0 rfl ?_
    refine z_getR C zf_X7_19 dX7_open_55 (fun r25 => ?_)
    refine z_iload_n C dX7_open_58 2 rfl ?_
    refine z_callVp C zc_X7_154 [.int x2] (fun l D tc b0 r h => m_X1_boxOn l D tc ro b0 h) dX7_open_59 rfl rfl (Nat.le_of_ble_eq_true rfl) (by decide) (by decide) ⟨Nat.le_of_ble_eq_true rfl, Nat.le_of_ble_eq_true rfl⟩ (fun v26 => ?_)
    refine z_iconst C dX7_open_62 zi_m1 ?_
    refine z_icmp_ne C 70 dX7_open_63 (by decide) ?_ ?_
    · refine z_iconst C dX7_open_66 zi_1 ?_
      refine z_goto C 71 dX7_open_67 (by decide) ?_
      exact wj_X7_open_71 C
    exact wj_X7_open_70 C
  exact wj_X7_open_70 C
noncomputable def f_X7_countBox (a0 : Nat) (x1 : Int32) (hp : zHp) : Option (Int32 × zHp) :=
  (zis hp a0 7).bind fun _ => (zgR hp a0 7 1).bind fun r1 => (zgR hp r1 1 0).bind fun r2 => (f_X5_has r2 (4 : Int32) x1 hp).bind fun v3 => if v3 = 0 then (some ((-1 : Int32), hp)) else (zgR hp a0 7 1).bind fun r4 => (f_X1_boxOn r4 x1 hp).bind fun v5 => if v5 = (-1 : Int32) then (some ((-6 : Int32), hp)) else (zgR hp a0 7 1).bind fun r6 => (zgR hp r6 1 1).bind fun r7 => (zgR hp r7 6 0).bind fun r8 => (zaR hp 3 r8 v5).bind fun r9 => (zgI hp r9 0 3).bind fun v10 => if v10 < (4 : Int32) then ((zgR hp a0 7 2).bind fun r11 => (zgR hp a0 7 1).bind fun r12 => (zgR hp r12 1 1).bind fun r13 => (f_X2_keep r11 r13 hp).bind fun h14 => (zgR h14 a0 7 1).bind fun r15 => (f_X1_addCount r15 v5 x1 h14).bind fun h16 => (zgR h16 a0 7 1).bind fun r17 => (zgR h16 r17 1 1).bind fun r18 => (zgR h16 r18 6 0).bind fun r19 => (zaR h16 3 r19 v5).bind fun r20 => (zgI h16 r20 0 3).bind fun v21 => some (v21, h16)) else some ((-5 : Int32), hp)
set_option maxHeartbeats 4000000 in
set_option maxRecDepth 100000 in
theorem m_X7_countBox (l : Launch) (D : va_G) (tc : Nat → ClassId) (ro : Nat → Nat) (b0 : Nat) {a0 : Nat} {x1 : Int32} {hp : zHp} {sz : Nat} {r : (Int32 × zHp)} (h : f_X7_countBox a0 x1 hp = some r) : zis hp a0 7 = some () ∧ zM l yX7_countBox cX7_countBox 3 (some .int) 6 0 0 [.ref a0, .int x1] D tc ro b0 hp sz ((zoI sz) r).1 ((zoI sz) r).2.1 ((zoI sz) r).2.2 := by
  refine ⟨?_, z_start (o := (zoI sz)) (lv := [(0, .ref a0), (1, .int x1)]) h (by decide +kernel) RX7 rfl rfl (Nat.le_of_ble_eq_true rfl) (fun P C => ?_)⟩
  · unfold f_X7_countBox at h
    cases hc : zis hp a0 7 with
    | none => rw [hc] at h; cases h
    | some u => rfl
  unfold f_X7_countBox
  refine z_is ?_
  refine z_aload_n C dX7_countBox_0 0 rfl ?_
  refine z_getR C zf_X7_19 dX7_countBox_1 (fun r1 => ?_)
  refine z_getR C zf_X7_61 dX7_countBox_4 (fun r2 => ?_)
  refine z_iconst C dX7_countBox_7 zi_4 ?_
  refine z_iload_n C dX7_countBox_8 1 rfl ?_
  refine z_callVp C zc_X7_224 [.int (4 : Int32), .int x1] (fun l D tc b0 r h => m_X5_has l D tc ro b0 h) dX7_countBox_9 rfl rfl (Nat.le_of_ble_eq_true rfl) (by decide) (by decide) ⟨Nat.le_of_ble_eq_true rfl, Nat.le_of_ble_eq_true rfl⟩ (fun v3 => ?_)
  refine z_if_ne C 17 dX7_countBox_12 (by decide) ?_ ?_
  · refine z_iconst C dX7_countBox_15 zi_m1 ?_
    exact z_ireturn C dX7_countBox_16
  refine z_aload_n C dX7_countBox_17 0 rfl ?_
  refine z_getR C zf_X7_19 dX7_countBox_18 (fun r4 => ?_)
  refine z_iload_n C dX7_countBox_21 1 rfl ?_
  refine z_callVp C zc_X7_154 [.int x1] (fun l D tc b0 r h => m_X1_boxOn l D tc ro b0 h) dX7_countBox_22 rfl rfl (Nat.le_of_ble_eq_true rfl) (by decide) (by decide) ⟨Nat.le_of_ble_eq_true rfl, Nat.le_of_ble_eq_true rfl⟩ (fun v5 => ?_)
  refine z_istore_n (lv' := [(0, .ref a0), (1, .int x1), (2, .int v5)]) C dX7_countBox_25 (by decide) rfl ?_
  refine z_iload_n C dX7_countBox_26 2 rfl ?_
  refine z_iconst C dX7_countBox_27 zi_m1 ?_
  refine z_icmp_ne C 34 dX7_countBox_28 (by decide) ?_ ?_
  · refine z_bipush C dX7_countBox_31 zbi_m6 ?_
    exact z_ireturn C dX7_countBox_33
  refine z_aload_n C dX7_countBox_34 0 rfl ?_
  refine z_getR C zf_X7_19 dX7_countBox_35 (fun r6 => ?_)
  refine z_getR C zf_X7_90 dX7_countBox_38 (fun r7 => ?_)
  refine z_getR C zf_X7_122 dX7_countBox_41 (fun r8 => ?_)
  refine z_iload_n C dX7_countBox_44 2 rfl ?_
  refine z_aaload (t := 3) (ty := .object "CountHall$Box") C (fun _ => rfl) rfl (by decide) dX7_countBox_45 (fun r9 => ?_)
  refine z_getI C zf_X7_131 dX7_countBox_46 (fun v10 => ?_)
  refine z_iconst C dX7_countBox_49 zi_4 ?_
  refine z_icmp_lt C 56 dX7_countBox_50 (by decide) ?_ ?_
  · refine z_aload_n C dX7_countBox_56 0 rfl ?_
    refine z_getR C zf_X7_26 dX7_countBox_57 (fun r11 => ?_)
    refine z_aload_n C dX7_countBox_60 0 rfl ?_
    refine z_getR C zf_X7_19 dX7_countBox_61 (fun r12 => ?_)
    refine z_getR C zf_X7_90 dX7_countBox_64 (fun r13 => ?_)
    refine z_callVv C zc_X7_242 [.ref r13] (fun l D tc b0 r h => m_X2_keep l D tc ro b0 h) dX7_countBox_67 rfl rfl (Nat.le_of_ble_eq_true rfl) (by decide) (by decide) ⟨Nat.le_of_ble_eq_true rfl, Nat.le_of_ble_eq_true rfl⟩ (fun h14 => ?_)
    refine z_aload_n C dX7_countBox_70 0 rfl ?_
    refine z_getR C zf_X7_19 dX7_countBox_71 (fun r15 => ?_)
    refine z_iload_n C dX7_countBox_74 2 rfl ?_
    refine z_iload_n C dX7_countBox_75 1 rfl ?_
    refine z_callVv C zc_X7_255 [.int v5, .int x1] (fun l D tc b0 r h => m_X1_addCount l D tc ro b0 h) dX7_countBox_76 rfl rfl (Nat.le_of_ble_eq_true rfl) (by decide) (by decide) ⟨Nat.le_of_ble_eq_true rfl, Nat.le_of_ble_eq_true rfl⟩ (fun h16 => ?_)
    refine z_aload_n C dX7_countBox_79 0 rfl ?_
    refine z_getR C zf_X7_19 dX7_countBox_80 (fun r17 => ?_)
    refine z_getR C zf_X7_90 dX7_countBox_83 (fun r18 => ?_)
    refine z_getR C zf_X7_122 dX7_countBox_86 (fun r19 => ?_)
    refine z_iload_n C dX7_countBox_89 2 rfl ?_
    refine z_aaload (t := 3) (ty := .object "CountHall$Box") C (fun _ => rfl) rfl (by decide) dX7_countBox_90 (fun r20 => ?_)
    refine z_getI C zf_X7_131 dX7_countBox_91 (fun v21 => ?_)
    exact z_ireturn C dX7_countBox_94
  refine z_bipush C dX7_countBox_53 zbi_m5 ?_
  exact z_ireturn C dX7_countBox_55
noncomputable def f_X7_seal (a0 : Nat) (x1 : Int32) (hp : zHp) : Option (Int32 × zHp) :=
  (zis hp a0 7).bind fun _ => (zgR hp a0 7 1).bind fun r1 => (zgR hp r1 1 0).bind fun r2 => (f_X5_has r2 (4 : Int32) x1 hp).bind fun v3 => if v3 = 0 then (some ((-1 : Int32), hp)) else (zgR hp a0 7 1).bind fun r4 => (f_X1_boxOn r4 x1 hp).bind fun v5 => if v5 = (-1 : Int32) then (some ((-6 : Int32), hp)) else (zgR hp a0 7 1).bind fun r6 => (zgR hp r6 1 1).bind fun r7 => (zgR hp r7 6 0).bind fun r8 => (zaR hp 3 r8 v5).bind fun r9 => (zgI hp r9 0 2).bind fun v10 => if v10 < (12 : Int32) then ((zgR hp a0 7 2).bind fun r11 => (zgR hp a0 7 1).bind fun r12 => (zgR hp r12 1 1).bind fun r13 => (f_X2_keep r11 r13 hp).bind fun h14 => (zgR h14 a0 7 1).bind fun r15 => (zgR h14 r15 1 1).bind fun r16 => (f_X6_sealUp r16 v5 h14).bind fun h17 => (zgR h17 a0 7 1).bind fun r18 => (zgR h17 r18 1 1).bind fun r19 => (zgR h17 r19 6 0).bind fun r20 => (zaR h17 3 r20 v5).bind fun r21 => (zgI h17 r21 0 1).bind fun v22 => some (v22, h17)) else some ((-5 : Int32), hp)
set_option maxHeartbeats 4000000 in
set_option maxRecDepth 100000 in
theorem m_X7_seal (l : Launch) (D : va_G) (tc : Nat → ClassId) (ro : Nat → Nat) (b0 : Nat) {a0 : Nat} {x1 : Int32} {hp : zHp} {sz : Nat} {r : (Int32 × zHp)} (h : f_X7_seal a0 x1 hp = some r) : zis hp a0 7 = some () ∧ zM l yX7_seal cX7_seal 3 (some .int) 4 0 0 [.ref a0, .int x1] D tc ro b0 hp sz ((zoI sz) r).1 ((zoI sz) r).2.1 ((zoI sz) r).2.2 := by
  refine ⟨?_, z_start (o := (zoI sz)) (lv := [(0, .ref a0), (1, .int x1)]) h (by decide +kernel) RX7 rfl rfl (Nat.le_of_ble_eq_true rfl) (fun P C => ?_)⟩
  · unfold f_X7_seal at h
    cases hc : zis hp a0 7 with
    | none => rw [hc] at h; cases h
    | some u => rfl
  unfold f_X7_seal
  refine z_is ?_
  refine z_aload_n C dX7_seal_0 0 rfl ?_
  refine z_getR C zf_X7_19 dX7_seal_1 (fun r1 => ?_)
  refine z_getR C zf_X7_61 dX7_seal_4 (fun r2 => ?_)
  refine z_iconst C dX7_seal_7 zi_4 ?_
  refine z_iload_n C dX7_seal_8 1 rfl ?_
  refine z_callVp C zc_X7_224 [.int (4 : Int32), .int x1] (fun l D tc b0 r h => m_X5_has l D tc ro b0 h) dX7_seal_9 rfl rfl (Nat.le_of_ble_eq_true rfl) (by decide) (by decide) ⟨Nat.le_of_ble_eq_true rfl, Nat.le_of_ble_eq_true rfl⟩ (fun v3 => ?_)
  refine z_if_ne C 17 dX7_seal_12 (by decide) ?_ ?_
  · refine z_iconst C dX7_seal_15 zi_m1 ?_
    exact z_ireturn C dX7_seal_16
  refine z_aload_n C dX7_seal_17 0 rfl ?_
  refine z_getR C zf_X7_19 dX7_seal_18 (fun r4 => ?_)
  refine z_iload_n C dX7_seal_21 1 rfl ?_
  refine z_callVp C zc_X7_154 [.int x1] (fun l D tc b0 r h => m_X1_boxOn l D tc ro b0 h) dX7_seal_22 rfl rfl (Nat.le_of_ble_eq_true rfl) (by decide) (by decide) ⟨Nat.le_of_ble_eq_true rfl, Nat.le_of_ble_eq_true rfl⟩ (fun v5 => ?_)
  refine z_istore_n (lv' := [(0, .ref a0), (1, .int x1), (2, .int v5)]) C dX7_seal_25 (by decide) rfl ?_
  refine z_iload_n C dX7_seal_26 2 rfl ?_
  refine z_iconst C dX7_seal_27 zi_m1 ?_
  refine z_icmp_ne C 34 dX7_seal_28 (by decide) ?_ ?_
  · refine z_bipush C dX7_seal_31 zbi_m6 ?_
    exact z_ireturn C dX7_seal_33
  refine z_aload_n C dX7_seal_34 0 rfl ?_
  refine z_getR C zf_X7_19 dX7_seal_35 (fun r6 => ?_)
  refine z_getR C zf_X7_90 dX7_seal_38 (fun r7 => ?_)
  refine z_getR C zf_X7_122 dX7_seal_41 (fun r8 => ?_)
  refine z_iload_n C dX7_seal_44 2 rfl ?_
  refine z_aaload (t := 3) (ty := .object "CountHall$Box") C (fun _ => rfl) rfl (by decide) dX7_seal_45 (fun r9 => ?_)
  refine z_getI C zf_X7_148 dX7_seal_46 (fun v10 => ?_)
  refine z_bipush C dX7_seal_49 zbi_12 ?_
  refine z_icmp_lt C 57 dX7_seal_51 (by decide) ?_ ?_
  · refine z_aload_n C dX7_seal_57 0 rfl ?_
    refine z_getR C zf_X7_26 dX7_seal_58 (fun r11 => ?_)
    refine z_aload_n C dX7_seal_61 0 rfl ?_
    refine z_getR C zf_X7_19 dX7_seal_62 (fun r12 => ?_)
    refine z_getR C zf_X7_90 dX7_seal_65 (fun r13 => ?_)
    refine z_callVv C zc_X7_242 [.ref r13] (fun l D tc b0 r h => m_X2_keep l D tc ro b0 h) dX7_seal_68 rfl rfl (Nat.le_of_ble_eq_true rfl) (by decide) (by decide) ⟨Nat.le_of_ble_eq_true rfl, Nat.le_of_ble_eq_true rfl⟩ (fun h14 => ?_)
    refine z_aload_n C dX7_seal_71 0 rfl ?_
    refine z_getR C zf_X7_19 dX7_seal_72 (fun r15 => ?_)
    refine z_getR C zf_X7_90 dX7_seal_75 (fun r16 => ?_)
    refine z_iload_n C dX7_seal_78 2 rfl ?_
    refine z_callVv C zc_X7_258 [.int v5] (fun l D tc b0 r h => m_X6_sealUp l D tc ro b0 h) dX7_seal_79 rfl rfl (Nat.le_of_ble_eq_true rfl) (by decide) (by decide) ⟨Nat.le_of_ble_eq_true rfl, Nat.le_of_ble_eq_true rfl⟩ (fun h17 => ?_)
    refine z_aload_n C dX7_seal_82 0 rfl ?_
    refine z_getR C zf_X7_19 dX7_seal_83 (fun r18 => ?_)
    refine z_getR C zf_X7_90 dX7_seal_86 (fun r19 => ?_)
    refine z_getR C zf_X7_122 dX7_seal_89 (fun r20 => ?_)
    refine z_iload_n C dX7_seal_92 2 rfl ?_
    refine z_aaload (t := 3) (ty := .object "CountHall$Box") C (fun _ => rfl) rfl (by decide) dX7_seal_93 (fun r21 => ?_)
    refine z_getI C zf_X7_126 dX7_seal_94 (fun v22 => ?_)
    exact z_ireturn C dX7_seal_97
  refine z_bipush C dX7_seal_54 zbi_m5 ?_
  exact z_ireturn C dX7_seal_56
noncomputable def f_X7_tamper (a0 : Nat) (x1 : Int32) (x2 : Int32) (hp : zHp) : Option (Int32 × zHp) :=
  (zis hp a0 7).bind fun _ => (zgR hp a0 7 1).bind fun r1 => (zgR hp r1 1 0).bind fun r2 => (f_X5_has r2 (3 : Int32) x1 hp).bind fun v3 => if v3 = 0 then (some ((-1 : Int32), hp)) else if x2 < (1 : Int32) then (some ((-2 : Int32), hp)) else if (9999 : Int32) < x2 then (some ((-2 : Int32), hp)) else (zgR hp a0 7 1).bind fun r4 => (zgR hp r4 1 1).bind fun r5 => (zgR hp r5 6 0).bind fun r6 => (zaR hp 3 r6 x1).bind fun r7 => (f_X0_isAtTable r7 hp).bind fun v8 => if v8 = 0 then ((zgR hp a0 7 2).bind fun r9 => (zgR hp a0 7 1).bind fun r10 => (zgR hp r10 1 1).bind fun r11 => (f_X2_keep r9 r11 hp).bind fun h12 => (zgI h12 r7 0 1).bind fun v13 => (zpV h12 r7 0 1 (.int x2)).bind fun h14 => some (v13, h14)) else some ((-6 : Int32), hp)
set_option maxHeartbeats 4000000 in
set_option maxRecDepth 100000 in
theorem m_X7_tamper (l : Launch) (D : va_G) (tc : Nat → ClassId) (ro : Nat → Nat) (b0 : Nat) {a0 : Nat} {x1 : Int32} {x2 : Int32} {hp : zHp} {sz : Nat} {r : (Int32 × zHp)} (h : f_X7_tamper a0 x1 x2 hp = some r) : zis hp a0 7 = some () ∧ zM l yX7_tamper cX7_tamper 5 (some .int) 4 0 0 [.ref a0, .int x1, .int x2] D tc ro b0 hp sz ((zoI sz) r).1 ((zoI sz) r).2.1 ((zoI sz) r).2.2 := by
  refine ⟨?_, z_start (o := (zoI sz)) (lv := [(0, .ref a0), (1, .int x1), (2, .int x2)]) h (by decide +kernel) RX7 rfl rfl (Nat.le_of_ble_eq_true rfl) (fun P C => ?_)⟩
  · unfold f_X7_tamper at h
    cases hc : zis hp a0 7 with
    | none => rw [hc] at h; cases h
    | some u => rfl
  unfold f_X7_tamper
  refine z_is ?_
  refine z_aload_n C dX7_tamper_0 0 rfl ?_
  refine z_getR C zf_X7_19 dX7_tamper_1 (fun r1 => ?_)
  refine z_getR C zf_X7_61 dX7_tamper_4 (fun r2 => ?_)
  refine z_iconst C dX7_tamper_7 zi_3 ?_
  refine z_iload_n C dX7_tamper_8 1 rfl ?_
  refine z_callVp C zc_X7_224 [.int (3 : Int32), .int x1] (fun l D tc b0 r h => m_X5_has l D tc ro b0 h) dX7_tamper_9 rfl rfl (Nat.le_of_ble_eq_true rfl) (by decide) (by decide) ⟨Nat.le_of_ble_eq_true rfl, Nat.le_of_ble_eq_true rfl⟩ (fun v3 => ?_)
  refine z_if_ne C 17 dX7_tamper_12 (by decide) ?_ ?_
  · refine z_iconst C dX7_tamper_15 zi_m1 ?_
    exact z_ireturn C dX7_tamper_16
  refine z_iload_n C dX7_tamper_17 2 rfl ?_
  refine z_iconst C dX7_tamper_18 zi_1 ?_
  refine z_icmp_lt C 29 dX7_tamper_19 (by decide) ?_ ?_
  · refine z_bipush C dX7_tamper_29 zbi_m2 ?_
    exact z_ireturn C dX7_tamper_31
  refine z_iload_n C dX7_tamper_22 2 rfl ?_
  refine z_sipush C dX7_tamper_23 zsi_9999 ?_
  refine z_icmp_le C 32 dX7_tamper_26 (by decide) ?_ ?_
  · refine z_bipush C dX7_tamper_29 zbi_m2 ?_
    exact z_ireturn C dX7_tamper_31
  refine z_aload_n C dX7_tamper_32 0 rfl ?_
  refine z_getR C zf_X7_19 dX7_tamper_33 (fun r4 => ?_)
  refine z_getR C zf_X7_90 dX7_tamper_36 (fun r5 => ?_)
  refine z_getR C zf_X7_122 dX7_tamper_39 (fun r6 => ?_)
  refine z_iload_n C dX7_tamper_42 1 rfl ?_
  refine z_aaload (t := 3) (ty := .object "CountHall$Box") C (fun _ => rfl) rfl (by decide) dX7_tamper_43 (fun r7 => ?_)
  refine z_astore_n (lv' := [(0, .ref a0), (1, .int x1), (2, .int x2), (3, .ref r7)]) C dX7_tamper_44 (by decide) rfl ?_
  refine z_aload_n C dX7_tamper_45 3 rfl ?_
  refine z_callVp C zc_X7_261 [] (fun l D tc b0 r h => m_X0_isAtTable l D tc ro b0 h) dX7_tamper_46 rfl rfl (Nat.le_of_ble_eq_true rfl) (by decide) (by decide) ⟨Nat.le_of_ble_eq_true rfl, Nat.le_of_ble_eq_true rfl⟩ (fun v8 => ?_)
  refine z_if_eq C 55 dX7_tamper_49 (by decide) ?_ ?_
  · refine z_aload_n C dX7_tamper_55 0 rfl ?_
    refine z_getR C zf_X7_26 dX7_tamper_56 (fun r9 => ?_)
    refine z_aload_n C dX7_tamper_59 0 rfl ?_
    refine z_getR C zf_X7_19 dX7_tamper_60 (fun r10 => ?_)
    refine z_getR C zf_X7_90 dX7_tamper_63 (fun r11 => ?_)
    refine z_callVv C zc_X7_242 [.ref r11] (fun l D tc b0 r h => m_X2_keep l D tc ro b0 h) dX7_tamper_66 rfl rfl (Nat.le_of_ble_eq_true rfl) (by decide) (by decide) ⟨Nat.le_of_ble_eq_true rfl, Nat.le_of_ble_eq_true rfl⟩ (fun h12 => ?_)
    refine z_aload_n C dX7_tamper_69 3 rfl ?_
    refine z_getI C zf_X7_126 dX7_tamper_70 (fun v13 => ?_)
    refine z_istore (lv' := [(0, .ref a0), (1, .int x1), (2, .int x2), (3, .ref r7), (4, .int v13)]) C dX7_tamper_73 (by decide) rfl ?_
    refine z_aload_n C dX7_tamper_75 3 rfl ?_
    refine z_iload_n C dX7_tamper_76 2 rfl ?_
    refine z_putI C zp_X7_126 dX7_tamper_77 (fun h14 => ?_)
    refine z_iload C dX7_tamper_80 4 rfl ?_
    exact z_ireturn C dX7_tamper_82
  refine z_bipush C dX7_tamper_52 zbi_m6 ?_
  exact z_ireturn C dX7_tamper_54
noncomputable def f_X7_accept (a0 : Nat) (x1 : Int32) (hp : zHp) : Option (Int32 × zHp) :=
  (zis hp a0 7).bind fun _ => (zgR hp a0 7 1).bind fun r1 => (zgR hp r1 1 0).bind fun r2 => (f_X5_has r2 (3 : Int32) x1 hp).bind fun v3 => if v3 = 0 then (some ((-1 : Int32), hp)) else (zgR hp a0 7 1).bind fun r4 => (zgR hp r4 1 1).bind fun r5 => (zgR hp r5 6 0).bind fun r6 => (zaR hp 3 r6 x1).bind fun r7 => (f_X0_isAtTable r7 hp).bind fun v8 => if v8 = 0 then ((f_X0_bearsGoodSeal r7 hp).bind fun v9 => if v9 = 0 then ((zgI hp r7 0 2).bind fun v10 => if v10 < (12 : Int32) then ((zgR hp a0 7 2).bind fun r11 => (zgR hp a0 7 1).bind fun r12 => (zgR hp r12 1 1).bind fun r13 => (f_X2_keep r11 r13 hp).bind fun h14 => (zgI h14 r7 0 1).bind fun v15 => (f_X0_enter r7 v15 h14).bind fun h16 => (zgI h16 r7 0 2).bind fun v17 => some (v17, h16)) else some ((-5 : Int32), hp)) else some ((-6 : Int32), hp)) else some ((-6 : Int32), hp)
set_option maxHeartbeats 4000000 in
set_option maxRecDepth 100000 in
theorem m_X7_accept (l : Launch) (D : va_G) (tc : Nat → ClassId) (ro : Nat → Nat) (b0 : Nat) {a0 : Nat} {x1 : Int32} {hp : zHp} {sz : Nat} {r : (Int32 × zHp)} (h : f_X7_accept a0 x1 hp = some r) : zis hp a0 7 = some () ∧ zM l yX7_accept cX7_accept 3 (some .int) 4 0 0 [.ref a0, .int x1] D tc ro b0 hp sz ((zoI sz) r).1 ((zoI sz) r).2.1 ((zoI sz) r).2.2 := by
  refine ⟨?_, z_start (o := (zoI sz)) (lv := [(0, .ref a0), (1, .int x1)]) h (by decide +kernel) RX7 rfl rfl (Nat.le_of_ble_eq_true rfl) (fun P C => ?_)⟩
  · unfold f_X7_accept at h
    cases hc : zis hp a0 7 with
    | none => rw [hc] at h; cases h
    | some u => rfl
  unfold f_X7_accept
  refine z_is ?_
  refine z_aload_n C dX7_accept_0 0 rfl ?_
  refine z_getR C zf_X7_19 dX7_accept_1 (fun r1 => ?_)
  refine z_getR C zf_X7_61 dX7_accept_4 (fun r2 => ?_)
  refine z_iconst C dX7_accept_7 zi_3 ?_
  refine z_iload_n C dX7_accept_8 1 rfl ?_
  refine z_callVp C zc_X7_224 [.int (3 : Int32), .int x1] (fun l D tc b0 r h => m_X5_has l D tc ro b0 h) dX7_accept_9 rfl rfl (Nat.le_of_ble_eq_true rfl) (by decide) (by decide) ⟨Nat.le_of_ble_eq_true rfl, Nat.le_of_ble_eq_true rfl⟩ (fun v3 => ?_)
  refine z_if_ne C 17 dX7_accept_12 (by decide) ?_ ?_
  · refine z_iconst C dX7_accept_15 zi_m1 ?_
    exact z_ireturn C dX7_accept_16
  refine z_aload_n C dX7_accept_17 0 rfl ?_
  refine z_getR C zf_X7_19 dX7_accept_18 (fun r4 => ?_)
  refine z_getR C zf_X7_90 dX7_accept_21 (fun r5 => ?_)
  refine z_getR C zf_X7_122 dX7_accept_24 (fun r6 => ?_)
  refine z_iload_n C dX7_accept_27 1 rfl ?_
  refine z_aaload (t := 3) (ty := .object "CountHall$Box") C (fun _ => rfl) rfl (by decide) dX7_accept_28 (fun r7 => ?_)
  refine z_astore_n (lv' := [(0, .ref a0), (1, .int x1), (2, .ref r7)]) C dX7_accept_29 (by decide) rfl ?_
  refine z_aload_n C dX7_accept_30 2 rfl ?_
  refine z_callVp C zc_X7_261 [] (fun l D tc b0 r h => m_X0_isAtTable l D tc ro b0 h) dX7_accept_31 rfl rfl (Nat.le_of_ble_eq_true rfl) (by decide) (by decide) ⟨Nat.le_of_ble_eq_true rfl, Nat.le_of_ble_eq_true rfl⟩ (fun v8 => ?_)
  refine z_if_ne C 44 dX7_accept_34 (by decide) ?_ ?_
  · refine z_aload_n C dX7_accept_37 2 rfl ?_
    refine z_callVp C zc_X7_144 [] (fun l D tc b0 r h => m_X0_bearsGoodSeal l D tc ro b0 h) dX7_accept_38 rfl rfl (Nat.le_of_ble_eq_true rfl) (by decide) (by decide) ⟨Nat.le_of_ble_eq_true rfl, Nat.le_of_ble_eq_true rfl⟩ (fun v9 => ?_)
    refine z_if_eq C 47 dX7_accept_41 (by decide) ?_ ?_
    · refine z_aload_n C dX7_accept_47 2 rfl ?_
      refine z_getI C zf_X7_148 dX7_accept_48 (fun v10 => ?_)
      refine z_bipush C dX7_accept_51 zbi_12 ?_
      refine z_icmp_lt C 59 dX7_accept_53 (by decide) ?_ ?_
      · refine z_aload_n C dX7_accept_59 0 rfl ?_
        refine z_getR C zf_X7_26 dX7_accept_60 (fun r11 => ?_)
        refine z_aload_n C dX7_accept_63 0 rfl ?_
        refine z_getR C zf_X7_19 dX7_accept_64 (fun r12 => ?_)
        refine z_getR C zf_X7_90 dX7_accept_67 (fun r13 => ?_)
        refine z_callVv C zc_X7_242 [.ref r13] (fun l D tc b0 r h => m_X2_keep l D tc ro b0 h) dX7_accept_70 rfl rfl (Nat.le_of_ble_eq_true rfl) (by decide) (by decide) ⟨Nat.le_of_ble_eq_true rfl, Nat.le_of_ble_eq_true rfl⟩ (fun h14 => ?_)
        refine z_aload_n C dX7_accept_73 2 rfl ?_
        refine z_aload_n C dX7_accept_74 2 rfl ?_
        refine z_getI C zf_X7_126 dX7_accept_75 (fun v15 => ?_)
        refine z_callVv C zc_X7_264 [.int v15] (fun l D tc b0 r h => m_X0_enter l D tc ro b0 h) dX7_accept_78 rfl rfl (Nat.le_of_ble_eq_true rfl) (by decide) (by decide) ⟨Nat.le_of_ble_eq_true rfl, Nat.le_of_ble_eq_true rfl⟩ (fun h16 => ?_)
        refine z_aload_n C dX7_accept_81 2 rfl ?_
        refine z_getI C zf_X7_148 dX7_accept_82 (fun v17 => ?_)
        exact z_ireturn C dX7_accept_85
      refine z_bipush C dX7_accept_56 zbi_m5 ?_
      exact z_ireturn C dX7_accept_58
    refine z_bipush C dX7_accept_44 zbi_m6 ?_
    exact z_ireturn C dX7_accept_46
  refine z_bipush C dX7_accept_44 zbi_m6 ?_
  exact z_ireturn C dX7_accept_46
noncomputable def f_X7_declare (a0 : Nat) (hp : zHp) : Option (Int32 × zHp) :=
  (zis hp a0 7).bind fun _ => (zgR hp a0 7 1).bind fun r1 => (f_X1_nextReady r1 hp).bind fun v2 => if v2 = (-1 : Int32) then (some ((-1 : Int32), hp)) else (zgR hp a0 7 2).bind fun r3 => (zgR hp a0 7 1).bind fun r4 => (zgR hp r4 1 1).bind fun r5 => (f_X2_keep r3 r5 hp).bind fun h6 => (zgR h6 a0 7 1).bind fun r7 => (zgR h6 r7 1 1).bind fun r8 => (f_X6_addDeclared r8 v2 h6).bind fun h9 => some (v2, h9)
set_option maxHeartbeats 4000000 in
set_option maxRecDepth 100000 in
theorem m_X7_declare (l : Launch) (D : va_G) (tc : Nat → ClassId) (ro : Nat → Nat) (b0 : Nat) {a0 : Nat} {hp : zHp} {sz : Nat} {r : (Int32 × zHp)} (h : f_X7_declare a0 hp = some r) : zis hp a0 7 = some () ∧ zM l yX7_declare cX7_declare 2 (some .int) 8 0 0 [.ref a0] D tc ro b0 hp sz ((zoI sz) r).1 ((zoI sz) r).2.1 ((zoI sz) r).2.2 := by
  refine ⟨?_, z_start (o := (zoI sz)) (lv := [(0, .ref a0)]) h (by decide +kernel) RX7 rfl rfl (Nat.le_of_ble_eq_true rfl) (fun P C => ?_)⟩
  · unfold f_X7_declare at h
    cases hc : zis hp a0 7 with
    | none => rw [hc] at h; cases h
    | some u => rfl
  unfold f_X7_declare
  refine z_is ?_
  refine z_aload_n C dX7_declare_0 0 rfl ?_
  refine z_getR C zf_X7_19 dX7_declare_1 (fun r1 => ?_)
  refine z_callVp C zc_X7_211 [] (fun l D tc b0 r h => m_X1_nextReady l D tc ro b0 h) dX7_declare_4 rfl rfl (Nat.le_of_ble_eq_true rfl) (by decide) (by decide) ⟨Nat.le_of_ble_eq_true rfl, Nat.le_of_ble_eq_true rfl⟩ (fun v2 => ?_)
  refine z_istore_n (lv' := [(0, .ref a0), (1, .int v2)]) C dX7_declare_7 (by decide) rfl ?_
  refine z_iload_n C dX7_declare_8 1 rfl ?_
  refine z_iconst C dX7_declare_9 zi_m1 ?_
  refine z_icmp_ne C 15 dX7_declare_10 (by decide) ?_ ?_
  · refine z_iconst C dX7_declare_13 zi_m1 ?_
    exact z_ireturn C dX7_declare_14
  refine z_aload_n C dX7_declare_15 0 rfl ?_
  refine z_getR C zf_X7_26 dX7_declare_16 (fun r3 => ?_)
  refine z_aload_n C dX7_declare_19 0 rfl ?_
  refine z_getR C zf_X7_19 dX7_declare_20 (fun r4 => ?_)
  refine z_getR C zf_X7_90 dX7_declare_23 (fun r5 => ?_)
  refine z_callVv C zc_X7_242 [.ref r5] (fun l D tc b0 r h => m_X2_keep l D tc ro b0 h) dX7_declare_26 rfl rfl (Nat.le_of_ble_eq_true rfl) (by decide) (by decide) ⟨Nat.le_of_ble_eq_true rfl, Nat.le_of_ble_eq_true rfl⟩ (fun h6 => ?_)
  refine z_aload_n C dX7_declare_29 0 rfl ?_
  refine z_getR C zf_X7_19 dX7_declare_30 (fun r7 => ?_)
  refine z_getR C zf_X7_90 dX7_declare_33 (fun r8 => ?_)
  refine z_iload_n C dX7_declare_36 1 rfl ?_
  refine z_callVv C zc_X7_267 [.int v2] (fun l D tc b0 r h => m_X6_addDeclared l D tc ro b0 h) dX7_declare_37 rfl rfl (Nat.le_of_ble_eq_true rfl) (by decide) (by decide) ⟨Nat.le_of_ble_eq_true rfl, Nat.le_of_ble_eq_true rfl⟩ (fun h9 => ?_)
  refine z_iload_n C dX7_declare_40 1 rfl ?_
  exact z_ireturn C dX7_declare_41
noncomputable def b_X7_work_32 (k65 : Int32 → zHp → Option (Int32 × zHp)) (a0 : Nat) (rec : Int32 → Int32 → zHp → Option (Int32 × zHp)) (x1 : Int32) (x2 : Int32) (h : zHp) : Option (Int32 × zHp) :=
  (zgR h a0 7 1).bind fun r9 => (zgR h r9 1 0).bind fun r10 => (zgR h r10 5 0).bind fun r11 => (zaI h 0 r11 (4 : Int32)).bind fun v12 => if x2 < v12 then ((zgR h a0 7 1).bind fun r13 => zb2 (f_X1_countAndSeal r13 x2 h) fun v14 h15 => zlet (x1 + v14) fun v16 => zlet (x2 + (1 : Int32)) fun v17 => rec v16 v17 h15) else k65 x1 h
noncomputable def l_X7_work_32 (k65 : Int32 → zHp → Option (Int32 × zHp)) (a0 : Nat) (n : Nat) : Int32 → Int32 → zHp → Option (Int32 × zHp) :=
  Nat.rec (motive := fun _ => Int32 → Int32 → zHp → Option (Int32 × zHp)) (fun _ _ _ => none) (fun _ rec => b_X7_work_32 k65 a0 rec) n
theorem l_X7_work_32_s (k65 : Int32 → zHp → Option (Int32 × zHp)) (a0 : Nat) (n : Nat) (x1 : Int32) (x2 : Int32) (h : zHp) : l_X7_work_32 k65 a0 (n + 1) x1 x2 h = b_X7_work_32 k65 a0 (l_X7_work_32 k65 a0 n) x1 x2 h := rfl
set_option maxHeartbeats 4000000 in
set_option maxRecDepth 100000 in
theorem wl_X7_work_32 {P : zX} {ro : Nat → Nat} {sz : Nat} (C : zC P cX7_work RX7 (some .int) 8 0 0 3 ro) {a0 : Nat} {k65 : Int32 → zHp → Option (Int32 × zHp)} (hk65 : ∀ (x1 : Int32) (h : zHp), zG P (zoI sz) (k65 x1 h) 65 [(1, .int x1)] [] h sz 0 0) : ∀ (n : Nat) (x1 : Int32) (x2 : Int32) (h : zHp), zG P (zoI sz) (l_X7_work_32 k65 a0 n x1 x2 h) 32 [(0, .ref a0), (1, .int x1), (2, .int x2)] [] h sz 0 0 := by
  intro n
  induction n with
  | zero =>
    intro x1 x2 h
    show zG P (zoI sz) none _ _ _ _ _ _ _
    exact z_none
  | succ n ih =>
    intro x1 x2 h
    show zG P (zoI sz) (b_X7_work_32 k65 a0 (l_X7_work_32 k65 a0 n) x1 x2 h) _ _ _ _ _ _ _
    unfold b_X7_work_32
    refine z_iload_n C dX7_work_32 2 rfl ?_
    refine z_aload_n C dX7_work_33 0 rfl ?_
    refine z_getR C zf_X7_19 dX7_work_34 (fun r9 => ?_)
    refine z_getR C zf_X7_61 dX7_work_37 (fun r10 => ?_)
    refine z_getR C zf_X7_76 dX7_work_40 (fun r11 => ?_)
    refine z_iconst C dX7_work_43 zi_4 ?_
    refine z_iaload C dX7_work_44 (fun v12 => ?_)
    refine z_icmp_ge C 65 dX7_work_45 (by decide) ?_ ?_
    · refine z_iload_n C dX7_work_48 1 rfl ?_
      refine z_aload_n C dX7_work_49 0 rfl ?_
      refine z_getR C zf_X7_19 dX7_work_50 (fun r13 => ?_)
      refine z_iload_n C dX7_work_53 2 rfl ?_
      refine z_callVi C zc_X7_273 [.int x2] (fun l D tc b0 r h => m_X1_countAndSeal l D tc ro b0 h) dX7_work_54 rfl rfl (Nat.le_of_ble_eq_true rfl) (by decide) (by decide) ⟨Nat.le_of_ble_eq_true rfl, Nat.le_of_ble_eq_true rfl⟩ (fun v14 h15 => ?_)
      refine z_iadd C dX7_work_57 ?_
      refine z_istore_nL C (fun v16 => [(0, .ref a0), (1, .int v16), (2, .int x2)]) dX7_work_58 (by decide) (fun _ => rfl) (fun v16 => ?_)
      refine z_iincL C 2 (fun v17 => [(0, .ref a0), (1, .int v16), (2, .int v17)]) dX7_work_59 rfl zi_1 (by decide) (fun _ => rfl) (fun v17 => ?_)
      refine z_goto C 32 dX7_work_62 (by decide) ?_
      exact ih _ _ _
    exact z_sub [1] rfl (hk65 _ _)
noncomputable def f_X7_work (a0 : Nat) (hp : zHp) : Option (Int32 × zHp) :=
  (zis hp a0 7).bind fun _ => (zgR hp a0 7 2).bind fun r1 => (zgR hp a0 7 1).bind fun r2 => (zgR hp r2 1 1).bind fun r3 => (f_X2_keep r1 r3 hp).bind fun h4 => (zgR h4 a0 7 1).bind fun r5 => (zgR h4 a0 7 1).bind fun r6 => (f_X1_boxesToCount r6 h4).bind fun v7 => (f_X1_fillTables r5 v7 h4).bind fun h8 => l_X7_work_32 (fun p18 h19 => some (p18, h19)) a0 1000000 (0 : Int32) (0 : Int32) h8
set_option maxHeartbeats 4000000 in
set_option maxRecDepth 100000 in
theorem m_X7_work (l : Launch) (D : va_G) (tc : Nat → ClassId) (ro : Nat → Nat) (b0 : Nat) {a0 : Nat} {hp : zHp} {sz : Nat} {r : (Int32 × zHp)} (h : f_X7_work a0 hp = some r) : zis hp a0 7 = some () ∧ zM l yX7_work cX7_work 3 (some .int) 8 0 0 [.ref a0] D tc ro b0 hp sz ((zoI sz) r).1 ((zoI sz) r).2.1 ((zoI sz) r).2.2 := by
  refine ⟨?_, z_start (o := (zoI sz)) (lv := [(0, .ref a0)]) h (by decide +kernel) RX7 rfl rfl (Nat.le_of_ble_eq_true rfl) (fun P C => ?_)⟩
  · unfold f_X7_work at h
    cases hc : zis hp a0 7 with
    | none => rw [hc] at h; cases h
    | some u => rfl
  unfold f_X7_work
  refine z_is ?_
  refine z_aload_n C dX7_work_0 0 rfl ?_
  refine z_getR C zf_X7_26 dX7_work_1 (fun r1 => ?_)
  refine z_aload_n C dX7_work_4 0 rfl ?_
  refine z_getR C zf_X7_19 dX7_work_5 (fun r2 => ?_)
  refine z_getR C zf_X7_90 dX7_work_8 (fun r3 => ?_)
  refine z_callVv C zc_X7_242 [.ref r3] (fun l D tc b0 r h => m_X2_keep l D tc ro b0 h) dX7_work_11 rfl rfl (Nat.le_of_ble_eq_true rfl) (by decide) (by decide) ⟨Nat.le_of_ble_eq_true rfl, Nat.le_of_ble_eq_true rfl⟩ (fun h4 => ?_)
  refine z_aload_n C dX7_work_14 0 rfl ?_
  refine z_getR C zf_X7_19 dX7_work_15 (fun r5 => ?_)
  refine z_aload_n C dX7_work_18 0 rfl ?_
  refine z_getR C zf_X7_19 dX7_work_19 (fun r6 => ?_)
  refine z_callVp C zc_X7_201 [] (fun l D tc b0 r h => m_X1_boxesToCount l D tc ro b0 h) dX7_work_22 rfl rfl (Nat.le_of_ble_eq_true rfl) (by decide) (by decide) ⟨Nat.le_of_ble_eq_true rfl, Nat.le_of_ble_eq_true rfl⟩ (fun v7 => ?_)
  refine z_callVv C zc_X7_270 [.int v7] (fun l D tc b0 r h => m_X1_fillTables l D tc ro b0 h) dX7_work_25 rfl rfl (Nat.le_of_ble_eq_true rfl) (by decide) (by decide) ⟨Nat.le_of_ble_eq_true rfl, Nat.le_of_ble_eq_true rfl⟩ (fun h8 => ?_)
  refine z_iconst C dX7_work_28 zi_0 ?_
  refine z_istore_n (lv' := [(0, .ref a0), (1, .int (0 : Int32))]) C dX7_work_29 (by decide) rfl ?_
  refine z_iconst C dX7_work_30 zi_0 ?_
  refine z_istore_n (lv' := [(0, .ref a0), (1, .int (0 : Int32)), (2, .int (0 : Int32))]) C dX7_work_31 (by decide) rfl ?_
  refine wl_X7_work_32 C (fun p18 h19 => ?_) _ _ _ _
  refine z_iload_n C dX7_work_65 0 rfl ?_
  exact z_ireturn C dX7_work_66
noncomputable def f_X7_setSetting (a0 : Nat) (x1 : Int32) (x2 : Int32) (hp : zHp) : Option (Int32 × zHp) :=
  (zis hp a0 7).bind fun _ => (f_X7_isSetting x1 hp).bind fun v1 => if v1 = 0 then (some ((-2 : Int32), hp)) else if x2 < 0 then (some ((-2 : Int32), hp)) else (f_X7_mostOf x1 hp).bind fun v2 => if v2 < x2 then (some ((-2 : Int32), hp)) else (zgR hp a0 7 2).bind fun r3 => (zgR hp a0 7 1).bind fun r4 => (zgR hp r4 1 1).bind fun r5 => (f_X2_keep r3 r5 hp).bind fun h6 => (zgR h6 a0 7 1).bind fun r7 => (zgR h6 r7 1 1).bind fun r8 => (zgR h6 r8 6 1).bind fun r9 => (zaI h6 0 r9 x1).bind fun v10 => (zgR h6 a0 7 1).bind fun r11 => (zgR h6 r11 1 1).bind fun r12 => (zgR h6 r12 6 1).bind fun r13 => (zsI h6 r13 x1 x2).bind fun h14 => some (v10, h14)
set_option maxHeartbeats 4000000 in
set_option maxRecDepth 100000 in
theorem m_X7_setSetting (l : Launch) (D : va_G) (tc : Nat → ClassId) (ro : Nat → Nat) (b0 : Nat) {a0 : Nat} {x1 : Int32} {x2 : Int32} {hp : zHp} {sz : Nat} {r : (Int32 × zHp)} (h : f_X7_setSetting a0 x1 x2 hp = some r) : zis hp a0 7 = some () ∧ zM l yX7_setSetting cX7_setSetting 4 (some .int) 4 0 0 [.ref a0, .int x1, .int x2] D tc ro b0 hp sz ((zoI sz) r).1 ((zoI sz) r).2.1 ((zoI sz) r).2.2 := by
  refine ⟨?_, z_start (o := (zoI sz)) (lv := [(0, .ref a0), (1, .int x1), (2, .int x2)]) h (by decide +kernel) RX7 rfl rfl (Nat.le_of_ble_eq_true rfl) (fun P C => ?_)⟩
  · unfold f_X7_setSetting at h
    cases hc : zis hp a0 7 with
    | none => rw [hc] at h; cases h
    | some u => rfl
  unfold f_X7_setSetting
  refine z_is ?_
  refine z_iload_n C dX7_setSetting_0 1 rfl ?_
  refine z_callSp C zs_X7_86 [.int x1] (fun l D tc b0 r h => m_X7_isSetting l D tc ro b0 h) dX7_setSetting_1 rfl rfl (Nat.le_of_ble_eq_true rfl) (by decide) (by decide) ⟨Nat.le_of_ble_eq_true rfl, Nat.le_of_ble_eq_true rfl⟩ (fun v1 => ?_)
  refine z_if_eq C 19 dX7_setSetting_4 (by decide) ?_ ?_
  · refine z_bipush C dX7_setSetting_19 zbi_m2 ?_
    exact z_ireturn C dX7_setSetting_21
  refine z_iload_n C dX7_setSetting_7 2 rfl ?_
  refine z_if_lt C 19 dX7_setSetting_8 (by decide) ?_ ?_
  · refine z_bipush C dX7_setSetting_19 zbi_m2 ?_
    exact z_ireturn C dX7_setSetting_21
  refine z_iload_n C dX7_setSetting_11 2 rfl ?_
  refine z_iload_n C dX7_setSetting_12 1 rfl ?_
  refine z_callSp C zs_X7_276 [.int x1] (fun l D tc b0 r h => m_X7_mostOf l D tc ro b0 h) dX7_setSetting_13 rfl rfl (Nat.le_of_ble_eq_true rfl) (by decide) (by decide) ⟨Nat.le_of_ble_eq_true rfl, Nat.le_of_ble_eq_true rfl⟩ (fun v2 => ?_)
  refine z_icmp_le C 22 dX7_setSetting_16 (by decide) ?_ ?_
  · refine z_bipush C dX7_setSetting_19 zbi_m2 ?_
    exact z_ireturn C dX7_setSetting_21
  refine z_aload_n C dX7_setSetting_22 0 rfl ?_
  refine z_getR C zf_X7_26 dX7_setSetting_23 (fun r3 => ?_)
  refine z_aload_n C dX7_setSetting_26 0 rfl ?_
  refine z_getR C zf_X7_19 dX7_setSetting_27 (fun r4 => ?_)
  refine z_getR C zf_X7_90 dX7_setSetting_30 (fun r5 => ?_)
  refine z_callVv C zc_X7_242 [.ref r5] (fun l D tc b0 r h => m_X2_keep l D tc ro b0 h) dX7_setSetting_33 rfl rfl (Nat.le_of_ble_eq_true rfl) (by decide) (by decide) ⟨Nat.le_of_ble_eq_true rfl, Nat.le_of_ble_eq_true rfl⟩ (fun h6 => ?_)
  refine z_aload_n C dX7_setSetting_36 0 rfl ?_
  refine z_getR C zf_X7_19 dX7_setSetting_37 (fun r7 => ?_)
  refine z_getR C zf_X7_90 dX7_setSetting_40 (fun r8 => ?_)
  refine z_getR C zf_X7_94 dX7_setSetting_43 (fun r9 => ?_)
  refine z_iload_n C dX7_setSetting_46 1 rfl ?_
  refine z_iaload C dX7_setSetting_47 (fun v10 => ?_)
  refine z_istore_n (lv' := [(0, .ref a0), (1, .int x1), (2, .int x2), (3, .int v10)]) C dX7_setSetting_48 (by decide) rfl ?_
  refine z_aload_n C dX7_setSetting_49 0 rfl ?_
  refine z_getR C zf_X7_19 dX7_setSetting_50 (fun r11 => ?_)
  refine z_getR C zf_X7_90 dX7_setSetting_53 (fun r12 => ?_)
  refine z_getR C zf_X7_94 dX7_setSetting_56 (fun r13 => ?_)
  refine z_iload_n C dX7_setSetting_59 1 rfl ?_
  refine z_iload_n C dX7_setSetting_60 2 rfl ?_
  refine z_iastore C dX7_setSetting_61 (fun h14 => ?_)
  refine z_iload_n C dX7_setSetting_62 3 rfl ?_
  exact z_ireturn C dX7_setSetting_63
