noncomputable def f_X7_accept (a0 : Nat) (x1 : Int32) (hp : zHp) : Option (Int32 × zHp) :=
  (zis hp a0 7).bind fun _ => (zgR hp a0 7 1).bind fun r1 => (zgR hp r1 1 0).bind fun r2 => (f_X5_has r2 (3 : Int32) x1 hp).bind fun v3 => if v3 = 0 then (some ((-1 : Int32), hp)) else (zgR hp a0 7 1).bind fun r4 => (zgR hp r4 1 1).bind fun r5 => (zgR hp r5 6 0).bind fun r6 => (zaR hp 3 r6 x1).bind fun r7 => (f_X0_isAtTable r7 hp).bind fun v8 => if v8 = 0 then ((f_X0_bearsGoodSeal r7 hp).bind fun v9 => if v9 = 0 then ((zgI hp r7 0 2).bind fun v10 => if v10 < (12 : Int32) then ((zgR hp a0 7 2).bind fun r11 => (zgR hp a0 7 1).bind fun r12 => (zgR hp r12 1 1).bind fun r13 => (f_X2_keep r11 r13 hp).bind fun h14 => (zgI h14 r7 0 1).bind fun v15 => (f_X0_enter r7 v15 h14).bind fun h16 => (zgI h16 r7 0 2).bind fun v17 => some (v17, h16)) else some ((-5 : Int32), hp)) else some ((-6 : Int32), hp)) else some ((-6 : Int32), hp)
set_option maxHeartbeats 4000000 in
set_option maxRecDepth 100000 in
theorem m_X7_accept (l : Launch) (D : va_G) (tc : Nat → ClassId) (ro : Nat → Nat) (b0 : Nat) {a0 : Nat} {x1 : Int32} {hp : zHp} {sz : Nat} {r : (Int32 × zHp)} (h : f_X7_accept a0 x1 hp = some r) : zis hp a0 7 = some () ∧ zM l yX7_accept cX7_accept 3 (some .int) 4 0 0 [.ref a0, .int x1] D tc ro b0 hp sz ((zoI sz) r).1 ((zoI sz) r).2.1 ((zoI sz) r).2.2 := by
  refine ⟨?_, z_start (o := (zoI sz)) (lv := [(0, .ref a0), (1, .int x1)]) h (by decide +kernel) RX7 rfl rfl (Nat.le_of_ble_eq_true rfl) (fun P C => ?_)⟩
  · unfold f_X7_accept at h
    cases hc : zis hp a0 7 with
    | none => rw [hc] at h; cases h
    | some u => rfl
  unfold f_X7_accept
  refine z_is ?_
  refine z_aload_n C dX7_accept_0 0 rfl ?_
  refine z_getR C zf_X7_19 dX7_accept_1 (fun r1 => ?_)
  refine z_getR C zf_X7_61 dX7_accept_4 (fun r2 => ?_)
  refine z_iconst C dX7_accept_7 zi_3 ?_
  refine z_iload_n C dX7_accept_8 1 rfl ?_
  refine z_callVp C zc_X7_224 [.int (3 : Int32), .int x1] (fun l D tc b0 r h => m_X5_has l D tc ro b0 h) dX7_accept_9 rfl rfl (Nat.le_of_ble_eq_true rfl) (by decide) (by decide) ⟨Nat.le_of_ble_eq_true rfl, Nat.le_of_ble_eq_true rfl⟩ (fun v3 => ?_)
  refine z_if_ne C 17 dX7_accept_12 (by decide) ?_ ?_
  · refine z_iconst C dX7_accept_15 zi_m1 ?_
    exact z_ireturn C dX7_accept_16
  refine z_aload_n C dX7_accept_17 0 rfl ?_
  refine z_getR C zf_X7_19 dX7_accept_18 (fun r4 => ?_)
  refine z_getR C zf_X7_90 dX7_accept_21 (fun r5 => ?_)
  refine z_getR C zf_X7_122 dX7_accept_24 (fun r6 => ?_)
  refine z_iload_n C dX7_accept_27 1 rfl ?_
  refine z_aaload (t := 3) (ty := .object "CountHall$Box") C (fun _ => rfl) rfl (by decide) dX7_accept_28 (fun r7 => ?_)
  refine z_astore_n (lv' := [(0, .ref a0), (1, .int x1), (2, .ref r7)]) C dX7_accept_29 (by decide) rfl ?_
  refine z_aload_n C dX7_accept_30 2 rfl ?_
  refine z_callVp C zc_X7_261 [] (fun l D tc b0 r h => m_X0_isAtTable l D tc ro b0 h) dX7_accept_31 rfl rfl (Nat.le_of_ble_eq_true rfl) (by decide) (by decide) ⟨Nat.le_of_ble_eq_true rfl, Nat.le_of_ble_eq_true rfl⟩ (fun v8 => ?_)
  refine z_if_ne C 44 dX7_accept_34 (by decide) ?_ ?_
  · refine z_aload_n C dX7_accept_37 2 rfl ?_
    refine z_callVp C zc_X7_144 [] (fun l D tc b0 r h => m_X0_bearsGoodSeal l D tc ro b0 h) dX7_accept_38 rfl rfl (Nat.le_of_ble_eq_true rfl) (by decide) (by decide) ⟨Nat.le_of_ble_eq_true rfl, Nat.le_of_ble_eq_true rfl⟩ (fun v9 => ?_)
    refine z_if_eq C 47 dX7_accept_41 (by decide) ?_ ?_
    · refine z_aload_n C dX7_accept_47 2 rfl ?_
      refine z_getI C zf_X7_148 dX7_accept_48 (fun v10 => ?_)
      refine z_bipush C dX7_accept_51 zbi_12 ?_
      refine z_icmp_lt C 59 dX7_accept_53 (by decide) ?_ ?_
      · refine z_aload_n C dX7_accept_59 0 rfl ?_
        refine z_getR C zf_X7_26 dX7_accept_60 (fun r11 => ?_)
        refine z_aload_n C dX7_accept_63 0 rfl ?_
        refine z_getR C zf_X7_19 dX7_accept_64 (fun r12 => ?_)
        refine z_getR C zf_X7_90 dX7_accept_67 (fun r13 => ?_)
        refine z_callVv C zc_X7_242 [.ref r13] (fun l D tc b0 r h => m_X2_keep l D tc ro b0 h) dX7_accept_70 rfl rfl (Nat.le_of_ble_eq_true rfl) (by decide) (by decide) ⟨Nat.le_of_ble_eq_true rfl, Nat.le_of_ble_eq_true rfl⟩ (fun h14 => ?_)
        refine z_aload_n C dX7_accept_73 2 rfl ?_
        refine z_aload_n C dX7_accept_74 2 rfl ?_
        refine z_getI C zf_X7_126 dX7_accept_75 (fun v15 => ?_)
        refine z_callVv C zc_X7_264 [.int v15] (fun l D tc b0 r h => m_X0_enter l D tc ro b0 h) dX7_accept_78 rfl rfl (Nat.le_of_ble_eq_true rfl) (by decide) (by decide) ⟨Nat.le_of_ble_eq_true rfl, Nat.le_of_ble_eq_true rfl⟩ (fun h16 => ?_)
        refine z_aload_n C dX7_accept_81 2 rfl ?_
        refine z_getI C zf_X7_148 dX7_accept_82 (fun v17 => ?_)
        exact z_ireturn C dX7_accept_85
      refine z_bipush C dX7_accept_56 zbi_m5 ?_
      exact z_ireturn C dX7_accept_58
    refine z_bipush C dX7_accept_44 zbi_m6 ?_
    exact z_ireturn C dX7_accept_46
  refine z_bipush C dX7_accept_44 zbi_m6 ?_
  exact z_ireturn C dX7_accept_46
noncomputable def f_X7_declare (a0 : Nat) (hp : zHp) : Option (Int32 × zHp) :=
  (zis hp a0 7).bind fun _ => (zgR hp a0 7 1).bind fun r1 => (f_X1_nextReady r1 hp).bind fun v2 => if v2 = (-1 : Int32) then (some ((-1 : Int32), hp)) else (zgR hp a0 7 2).bind fun r3 => (zgR hp a0 7 1).bind fun r4 => (zgR hp r4 1 1).bind fun r5 => (f_X2_keep r3 r5 hp).bind fun h6 => (zgR h6 a0 7 1).bind fun r7 => (zgR h6 r7 1 1).bind fun r8 => (f_X6_addDeclared r8 v2 h6).bind fun h9 => some (v2, h9)
set_option maxHeartbeats 4000000 in
set_option maxRecDepth 100000 in
theorem m_X7_declare (l : Launch) (D : va_G) (tc : Nat → ClassId) (ro : Nat → Nat) (b0 : Nat) {a0 : Nat} {hp : zHp} {sz : Nat} {r : (Int32 × zHp)} (h : f_X7_declare a0 hp = some r) : zis hp a0 7 = some () ∧ zM l yX7_declare cX7_declare 2 (some .int) 8 0 0 [.ref a0] D tc ro b0 hp sz ((zoI sz) r).1 ((zoI sz) r).2.1 ((zoI sz) r).2.2 := by
  refine ⟨?_, z_start (o := (zoI sz)) (lv := [(0, .ref a0)]) h (by decide +kernel) RX7 rfl rfl (Nat.le_of_ble_eq_true rfl) (fun P C => ?_)⟩
  · unfold f_X7_declare at h
    cases hc : zis hp a0 7 with
    | none => rw [hc] at h; cases h
    | some u => rfl
  unfold f_X7_declare
  refine z_is ?_
  refine z_aload_n C dX7_declare_0 0 rfl ?_
  refine z_getR C zf_X7_19 dX7_declare_1 (fun r1 => ?_)
  refine z_callVp C zc_X7_211 [] (fun l D tc b0 r h => m_X1_nextReady l D tc ro b0 h) dX7_declare_4 rfl rfl (Nat.le_of_ble_eq_true rfl) (by decide) (by decide) ⟨Nat.le_of_ble_eq_true rfl, Nat.le_of_ble_eq_true rfl⟩ (fun v2 => ?_)
  refine z_istore_n (lv' := [(0, .ref a0), (1, .int v2)]) C dX7_declare_7 (by decide) rfl ?_
  refine z_iload_n C dX7_declare_8 1 rfl ?_
  refine z_iconst C dX7_declare_9 zi_m1 ?_
  refine z_icmp_ne C 15 dX7_declare_10 (by decide) ?_ ?_
  · refine z_iconst C dX7_declare_13 zi_m1 ?_
    exact z_ireturn C dX7_declare_14
  refine z_aload_n C dX7_declare_15 0 rfl ?_
  refine z_getR C zf_X7_26 dX7_declare_16 (fun r3 => ?_)
  refine z_aload_n C dX7_declare_19 0 rfl ?_
  refine z_getR C zf_X7_19 dX7_declare_20 (fun r4 => ?_)
  refine z_getR C zf_X7_90 dX7_declare_23 (fun r5 => ?_)
  refine z_callVv C zc_X7_242 [.ref r5] (fun l D tc b0 r h => m_X2_keep l D tc ro b0 h) dX7_declare_26 rfl rfl (Nat.le_of_ble_eq_true rfl) (by decide) (by decide) ⟨Nat.le_of_ble_eq_true rfl, Nat.le_of_ble_eq_true rfl⟩ (fun h6 => ?_)
  refine z_aload_n C dX7_declare_29 0 rfl ?_
  refine z_getR C zf_X7_19 dX7_declare_30 (fun r7 => ?_)
  refine z_getR C zf_X7_90 dX7_declare_33 (fun r8 => ?_)
  refine z_iload_n C dX7_declare_36 1 rfl ?_
  refine z_callVv C zc_X7_267 [.int v2] (fun l D tc b0 r h => m_X6_addDeclared l D tc ro b0 h) dX7_declare_37 rfl rfl (Nat.le_of_ble_eq_true rfl) (by decide) (by decide) ⟨Nat.le_of_ble_eq_true rfl, Nat.le_of_ble_eq_true rfl⟩ (fun h9 => ?_)
  refine z_iload_n C dX7_declare_40 1 rfl ?_
  exact z_ireturn C dX7_declare_41
noncomputable def b_X7_work_32 (k65 : Int32 → zHp → Option (Int32 × zHp)) (a0 : Nat) (rec : Int32 → Int32 → zHp → Option (Int32 × zHp)) (x1 : Int32) (x2 : Int32) (h : zHp) : Option (Int32 × zHp) :=
  (zgR h a0 7 1).bind fun r9 => (zgR h r9 1 0).bind fun r10 => (zgR h r10 5 0).bind fun r11 => (zaI h 0 r11 (4 : Int32)).bind fun v12 => if x2 < v12 then ((zgR h a0 7 1).bind fun r13 => zb2 (f_X1_countAndSeal r13 x2 h) fun v14 h15 => zlet (x1 + v14) fun v16 => zlet (x2 + (1 : Int32)) fun v17 => rec v16 v17 h15) else k65 x1 h
noncomputable def l_X7_work_32 (k65 : Int32 → zHp → Option (Int32 × zHp)) (a0 : Nat) (n : Nat) : Int32 → Int32 → zHp → Option (Int32 × zHp) :=
  Nat.rec (motive := fun _ => Int32 → Int32 → zHp → Option (Int32 × zHp)) (fun _ _ _ => none) (fun _ rec => b_X7_work_32 k65 a0 rec) n
theorem l_X7_work_32_s (k65 : Int32 → zHp → Option (Int32 × zHp)) (a0 : Nat) (n : Nat) (x1 : Int32) (x2 : Int32) (h : zHp) : l_X7_work_32 k65 a0 (n + 1) x1 x2 h = b_X7_work_32 k65 a0 (l_X7_work_32 k65 a0 n) x1 x2 h := rfl
set_option maxHeartbeats 4000000 in
set_option maxRecDepth 100000 in
theorem wl_X7_work_32 {P : zX} {sz : Nat} {ro : Nat → Nat} (C : zC P cX7_work RX7 (some .int) 8 0 0 3 ro) {a0 : Nat} {k65 : Int32 → zHp → Option (Int32 × zHp)} (hk65 : ∀ (x1 : Int32) (h : zHp), zG P (zoI sz) (k65 x1 h) 65 [(1, .int x1)] [] h sz 0 0) : ∀ (n : Nat) (x1 : Int32) (x2 : Int32) (h : zHp), zG P (zoI sz) (l_X7_work_32 k65 a0 n x1 x2 h) 32 [(0, .ref a0), (1, .int x1), (2, .int x2)] [] h sz 0 0 := by
  intro n
  induction n with
  | zero =>
    intro x1 x2 h
    show zG P (zoI sz) none _ _ _ _ _ _ _
    exact z_none
  | succ n ih =>
    intro x1 x2 h
    show zG P (zoI sz) (b_X7_work_32 k65 a0 (l_X7_work_32 k65 a0 n) x1 x2 h) _ _ _ _ _ _ _
    unfold b_X7_work_32
    refine z_iload_n C dX7_work_32 2 rfl ?_
    refine z_aload_n C dX7_work_33 0 rfl ?_
    refine z_getR C zf_X7_19 dX7_work_34 (fun r9 => ?_)
    refine z_getR C zf_X7_61 dX7_work_37 (fun r10 => ?_)
    refine z_getR C zf_X7_76 dX7_work_40 (fun r11 => ?_)
    refine z_iconst C dX7_work_43 zi_4 ?_
    refine z_iaload C dX7_work_44 (fun v12 => ?_)
    refine z_icmp_ge C 65 dX7_work_45 (by decide) ?_ ?_
    · refine z_iload_n C dX7_work_48 1 rfl ?_
      refine z_aload_n C dX7_work_49 0 rfl ?_
      refine z_getR C zf_X7_19 dX7_work_50 (fun r13 => ?_)
      refine z_iload_n C dX7_work_53 2 rfl ?_
      refine z_callVi C zc_X7_273 [.int x2] (fun l D tc b0 r h => m_X1_countAndSeal l D tc ro b0 h) dX7_work_54 rfl rfl (Nat.le_of_ble_eq_true rfl) (by decide) (by decide) ⟨Nat.le_of_ble_eq_true rfl, Nat.le_of_ble_eq_true rfl⟩ (fun v14 h15 => ?_)
      refine z_iadd C dX7_work_57 ?_
      refine z_istore_nL C (fun v16 => [(0, .ref a0), (1, .int v16), (2, .int x2)]) dX7_work_58 (by decide) (fun _ => rfl) (fun v16 => ?_)
      refine z_iincL C 2 (fun v17 => [(0, .ref a0), (1, .int v16), (2, .int v17)]) dX7_work_59 rfl zi_1 (by decide) (fun _ => rfl) (fun v17 => ?_)
      refine z_goto C 32 dX7_work_62 (by decide) ?_
      exact ih _ _ _
    exact z_sub [1] rfl (hk65 _ _)
noncomputable def f_X7_work (a0 : Nat) (hp : zHp) : Option (Int32 × zHp) :=
  (zis hp a0 7).bind fun _ => (zgR hp a0 7 2).bind fun r1 => (zgR hp a0 7 1).bind fun r2 => (zgR hp r2 1 1).bind fun r3 => (f_X2_keep r1 r3 hp).bind fun h4 => (zgR h4 a0 7 1).bind fun r5 => (zgR h4 a0 7 1).bind fun r6 => (f_X1_boxesToCount r6 h4).bind fun v7 => (f_X1_fillTables r5 v7 h4).bind fun h8 => l_X7_work_32 (fun p18 h19 => some (p18, h19)) a0 1000000 (0 : Int32) (0 : Int32) h8
set_option maxHeartbeats 4000000 in
set_option maxRecDepth 100000 in
theorem m_X7_work (l : Launch) (D : va_G) (tc : Nat → ClassId) (ro : Nat → Nat) (b0 : Nat) {a0 : Nat} {hp : zHp} {sz : Nat} {r : (Int32 × zHp)} (h : f_X7_work a0 hp = some r) : zis hp a0 7 = some () ∧ zM l yX7_work cX7_work 3 (some .int) 8 0 0 [.ref a0] D tc ro b0 hp sz ((zoI sz) r).1 ((zoI sz) r).2.1 ((zoI sz) r).2.2 := by
  refine ⟨?_, z_start (o := (zoI sz)) (lv := [(0, .ref a0)]) h (by decide +kernel) RX7 rfl rfl (Nat.le_of_ble_eq_true rfl) (fun P C => ?_)⟩
  · unfold f_X7_work at h
    cases hc : zis hp a0 7 with
    | none => rw [hc] at h; cases h
    | some u => rfl
  unfold f_X7_work
  refine z_is ?_
  refine z_aload_n C dX7_work_0 0 rfl ?_
  refine z_getR C zf_X7_26 dX7_work_1 (fun r1 => ?_)
  refine z_aload_n C dX7_work_4 0 rfl ?_
  refine z_getR C zf_X7_19 dX7_work_5 (fun r2 => ?_)
  refine z_getR C zf_X7_90 dX7_work_8 (fun r3 => ?_)
  refine z_callVv C zc_X7_242 [.ref r3] (fun l D tc b0 r h => m_X2_keep l D tc ro b0 h) dX7_work_11 rfl rfl (Nat.le_of_ble_eq_true rfl) (by decide) (by decide) ⟨Nat.le_of_ble_eq_true rfl, Nat.le_of_ble_eq_true rfl⟩ (fun h4 => ?_)
  refine z_aload_n C dX7_work_14 0 rfl ?_
  refine z_getR C zf_X7_19 dX7_work_15 (fun r5 => ?_)
  refine z_aload_n C dX7_work_18 0 rfl ?_
  refine z_getR C zf_X7_19 dX7_work_19 (fun r6 => ?_)
  refine z_callVp C zc_X7_201 [] (fun l D tc b0 r h => m_X1_boxesToCount l D tc ro b0 h) dX7_work_22 rfl rfl (Nat.le_of_ble_eq_true rfl) (by decide) (by decide) ⟨Nat.le_of_ble_eq_true rfl, Nat.le_of_ble_eq_true rfl⟩ (fun v7 => ?_)
  refine z_callVv C zc_X7_270 [.int v7] (fun l D tc b0 r h => m_X1_fillTables l D tc ro b0 h) dX7_work_25 rfl rfl (Nat.le_of_ble_eq_true rfl) (by decide) (by decide) ⟨Nat.le_of_ble_eq_true rfl, Nat.le_of_ble_eq_true rfl⟩ (fun h8 => ?_)
  refine z_iconst C dX7_work_28 zi_0 ?_
  refine z_istore_n (lv' := [(0, .ref a0), (1, .int (0 : Int32))]) C dX7_work_29 (by decide) rfl ?_
  refine z_iconst C dX7_work_30 zi_0 ?_
  refine z_istore_n (lv' := [(0, .ref a0), (1, .int (0 : Int32)), (2, .int (0 : Int32))]) C dX7_work_31 (by decide) rfl ?_
  refine wl_X7_work_32 C (fun p18 h19 => ?_) _ _ _ _
  refine z_iload_n C dX7_work_65 0 rfl ?_
  exact z_ireturn C dX7_work_66
noncomputable def f_X7_setSetting (a0 : Nat) (x1 : Int32) (x2 : Int32) (hp : zHp) : Option (Int32 × zHp) :=
  (zis hp a0 7).bind fun _ => (f_X7_isSetting x1 hp).bind fun v1 => if v1 = 0 then (some ((-2 : Int32), hp)) else if x2 < 0 then (some ((-2 : Int32), hp)) else (f_X7_mostOf x1 hp).bind fun v2 => if v2 < x2 then (some ((-2 : Int32), hp)) else (zgR hp a0 7 2).bind fun r3 => (zgR hp a0 7 1).bind fun r4 => (zgR hp r4 1 1).bind fun r5 => (f_X2_keep r3 r5 hp).bind fun h6 => (zgR h6 a0 7 1).bind fun r7 => (zgR h6 r7 1 1).bind fun r8 => (zgR h6 r8 6 1).bind fun r9 => (zaI h6 0 r9 x1).bind fun v10 => (zgR h6 a0 7 1).bind fun r11 => (zgR h6 r11 1 1).bind fun r12 => (zgR h6 r12 6 1).bind fun r13 => (zsI h6 r13 x1 x2).bind fun h14 => some (v10, h14)
set_option maxHeartbeats 4000000 in
set_option maxRecDepth 100000 in
theorem m_X7_setSetting (l : Launch) (D : va_G) (tc : Nat → ClassId) (ro : Nat → Nat) (b0 : Nat) {a0 : Nat} {x1 : Int32} {x2 : Int32} {hp : zHp} {sz : Nat} {r : (Int32 × zHp)} (h : f_X7_setSetting a0 x1 x2 hp = some r) : zis hp a0 7 = some () ∧ zM l yX7_setSetting cX7_setSetting 4 (some .int) 4 0 0 [.ref a0, .int x1, .int x2] D tc ro b0 hp sz ((zoI sz) r).1 ((zoI sz) r).2.1 ((zoI sz) r).2.2 := by
  refine ⟨?_, z_start (o := (zoI sz)) (lv := [(0, .ref a0), (1, .int x1), (2, .int x2)]) h (by decide +kernel) RX7 rfl rfl (Nat.le_of_ble_eq_true rfl) (fun P C => ?_)⟩
  · unfold f_X7_setSetting at h
    cases hc : zis hp a0 7 with
    | none => rw [hc] at h; cases h
    | some u => rfl
  unfold f_X7_setSetting
  refine z_is ?_
  refine z_iload_n C dX7_setSetting_0 1 rfl ?_
  refine z_callSp C zs_X7_86 [.int x1] (fun l D tc b0 r h => m_X7_isSetting l D tc ro b0 h) dX7_setSetting_1 rfl rfl (Nat.le_of_ble_eq_true rfl) (by decide) (by decide) ⟨Nat.le_of_ble_eq_true rfl, Nat.le_of_ble_eq_true rfl⟩ (fun v1 => ?_)
  refine z_if_eq C 19 dX7_setSetting_4 (by decide) ?_ ?_
  · refine z_bipush C dX7_setSetting_19 zbi_m2 ?_
    exact z_ireturn C dX7_setSetting_21
  refine z_iload_n C dX7_setSetting_7 2 rfl ?_
  refine z_if_lt C 19 dX7_setSetting_8 (by decide) ?_ ?_
  · refine z_bipush C dX7_setSetting_19 zbi_m2 ?_
    exact z_ireturn C dX7_setSetting_21
  refine z_iload_n C dX7_setSetting_11 2 rfl ?_
  refine z_iload_n C dX7_setSetting_12 1 rfl ?_
  refine z_callSp C zs_X7_276 [.int x1] (fun l D tc b0 r h => m_X7_mostOf l D tc ro b0 h) dX7_setSetting_13 rfl rfl (Nat.le_of_ble_eq_true rfl) (by decide) (by decide) ⟨Nat.le_of_ble_eq_true rfl, Nat.le_of_ble_eq_true rfl⟩ (fun v2 => ?_)
  refine z_icmp_le C 22 dX7_setSetting_16 (by decide) ?_ ?_
  · refine z_bipush C dX7_setSetting_19 zbi_m2 ?_
    exact z_ireturn C dX7_setSetting_21
  refine z_aload_n C dX7_setSetting_22 0 rfl ?_
  refine z_getR C zf_X7_26 dX7_setSetting_23 (fun r3 => ?_)
  refine z_aload_n C dX7_setSetting_26 0 rfl ?_
  refine z_getR C zf_X7_19 dX7_setSetting_27 (fun r4 => ?_)
  refine z_getR C zf_X7_90 dX7_setSetting_30 (fun r5 => ?_)
  refine z_callVv C zc_X7_242 [.ref r5] (fun l D tc b0 r h => m_X2_keep l D tc ro b0 h) dX7_setSetting_33 rfl rfl (Nat.le_of_ble_eq_true rfl) (by decide) (by decide) ⟨Nat.le_of_ble_eq_true rfl, Nat.le_of_ble_eq_true rfl⟩ (fun h6 => ?_)
  refine z_aload_n C dX7_setSetting_36 0 rfl ?_
  refine z_getR C zf_X7_19 dX7_setSetting_37 (fun r7 => ?_)
  refine z_getR C zf_X7_90 dX7_setSetting_40 (fun r8 => ?_)
  refine z_getR C zf_X7_94 dX7_setSetting_43 (fun r9 => ?_)
  refine z_iload_n C dX7_setSetting_46 1 rfl ?_
  refine z_iaload C dX7_setSetting_47 (fun v10 => ?_)
  refine z_istore_n (lv' := [(0, .ref a0), (1, .int x1), (2, .int x2), (3, .int v10)]) C dX7_setSetting_48 (by decide) rfl ?_
  refine z_aload_n C dX7_setSetting_49 0 rfl ?_
  refine z_getR C zf_X7_19 dX7_setSetting_50 (fun r11 => ?_)
  refine z_getR C zf_X7_90 dX7_setSetting_53 (fun r12 => ?_)
  refine z_getR C zf_X7_94 dX7_setSetting_56 (fun r13 => ?_)
  refine z_iload_n C dX7_setSetting_59 1 rfl ?_
  refine z_iload_n C dX7_setSetting_60 2 rfl ?_
  refine z_iastore C dX7_setSetting_61 (fun h14 => ?_)
  refine z_iload_n C dX7_setSetting_62 3 rfl ?_
  exact z_ireturn C dX7_setSetting_63
noncomputable def f_X7_undo (a0 : Nat) (hp : zHp) : Option (Int32 × zHp) :=
  (zis hp a0 7).bind fun _ => (zgR hp a0 7 2).bind fun r1 => (zgI hp r1 2 1).bind fun v2 => if v2 = 0 then (some ((-1 : Int32), hp)) else (zgR hp a0 7 2).bind fun r3 => (zgR hp a0 7 1).bind fun r4 => (zgR hp r4 1 1).bind fun r5 => (f_X2_giveBack r3 r5 hp).bind fun h6 => (zgR h6 a0 7 2).bind fun r7 => (zgI h6 r7 2 1).bind fun v8 => some (v8, h6)
set_option maxHeartbeats 4000000 in
set_option maxRecDepth 100000 in
theorem m_X7_undo (l : Launch) (D : va_G) (tc : Nat → ClassId) (ro : Nat → Nat) (b0 : Nat) {a0 : Nat} {hp : zHp} {sz : Nat} {r : (Int32 × zHp)} (h : f_X7_undo a0 hp = some r) : zis hp a0 7 = some () ∧ zM l yX7_undo cX7_undo 1 (some .int) 4 0 0 [.ref a0] D tc ro b0 hp sz ((zoI sz) r).1 ((zoI sz) r).2.1 ((zoI sz) r).2.2 := by
  refine ⟨?_, z_start (o := (zoI sz)) (lv := [(0, .ref a0)]) h (by decide +kernel) RX7 rfl rfl (Nat.le_of_ble_eq_true rfl) (fun P C => ?_)⟩
  · unfold f_X7_undo at h
    cases hc : zis hp a0 7 with
    | none => rw [hc] at h; cases h
    | some u => rfl
  unfold f_X7_undo
  refine z_is ?_
  refine z_aload_n C dX7_undo_0 0 rfl ?_
  refine z_getR C zf_X7_26 dX7_undo_1 (fun r1 => ?_)
  refine z_getI C zf_X7_73 dX7_undo_4 (fun v2 => ?_)
  refine z_if_ne C 12 dX7_undo_7 (by decide) ?_ ?_
  · refine z_iconst C dX7_undo_10 zi_m1 ?_
    exact z_ireturn C dX7_undo_11
  refine z_aload_n C dX7_undo_12 0 rfl ?_
  refine z_getR C zf_X7_26 dX7_undo_13 (fun r3 => ?_)
  refine z_aload_n C dX7_undo_16 0 rfl ?_
  refine z_getR C zf_X7_19 dX7_undo_17 (fun r4 => ?_)
  refine z_getR C zf_X7_90 dX7_undo_20 (fun r5 => ?_)
  refine z_callVv C zc_X7_279 [.ref r5] (fun l D tc b0 r h => m_X2_giveBack l D tc ro b0 h) dX7_undo_23 rfl rfl (Nat.le_of_ble_eq_true rfl) (by decide) (by decide) ⟨Nat.le_of_ble_eq_true rfl, Nat.le_of_ble_eq_true rfl⟩ (fun h6 => ?_)
  refine z_aload_n C dX7_undo_26 0 rfl ?_
  refine z_getR C zf_X7_26 dX7_undo_27 (fun r7 => ?_)
  refine z_getI C zf_X7_73 dX7_undo_30 (fun v8 => ?_)
  exact z_ireturn C dX7_undo_33
