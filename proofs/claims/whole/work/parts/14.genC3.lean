noncomputable def b_X5_regionsAround_9 (k36 : Int32 → Option Int32) (a0 : Nat) (hp : zHp) (rec : Int32 → Int32 → Option Int32) (x2 : Int32) (x3 : Int32) : Option Int32 :=
  if x2 < (5 : Int32) then ((f_X5_has a0 (1 : Int32) x3 hp).bind fun v3 => if v3 = 0 then (k36 x2) else zlet (x2 + (1 : Int32)) fun v4 => (zgR hp a0 5 2).bind fun r5 => (zaI hp 0 r5 x3).bind fun v6 => rec v4 v6) else k36 x2
noncomputable def l_X5_regionsAround_9 (k36 : Int32 → Option Int32) (a0 : Nat) (hp : zHp) (n : Nat) : Int32 → Int32 → Option Int32 :=
  Nat.rec (motive := fun _ => Int32 → Int32 → Option Int32) (fun _ _ => none) (fun _ rec => b_X5_regionsAround_9 k36 a0 hp rec) n
theorem l_X5_regionsAround_9_s (k36 : Int32 → Option Int32) (a0 : Nat) (hp : zHp) (n : Nat) (x2 : Int32) (x3 : Int32) : l_X5_regionsAround_9 k36 a0 hp (n + 1) x2 x3 = b_X5_regionsAround_9 k36 a0 hp (l_X5_regionsAround_9 k36 a0 hp n) x2 x3 := rfl
set_option maxHeartbeats 4000000 in
set_option maxRecDepth 100000 in
theorem wl_X5_regionsAround_9 {P : zX} {ro : Nat → Nat} {sz : Nat} (C : zC P cX5_regionsAround RX5 (some .int) 2 0 0 4 ro) {a0 : Nat} {hp : zHp} {k36 : Int32 → Option Int32} (hk36 : ∀ (x2 : Int32), zG P (zoP sz hp) (k36 x2) 36 [(2, .int x2)] [] hp sz 0 0) : ∀ (n : Nat) (x2 : Int32) (x3 : Int32), zG P (zoP sz hp) (l_X5_regionsAround_9 k36 a0 hp n x2 x3) 9 [(0, .ref a0), (2, .int x2), (3, .int x3)] [] hp sz 0 0 := by
  intro n
  induction n with
  | zero =>
    intro x2 x3
    show zG P (zoP sz hp) none _ _ _ _ _ _ _
    exact z_none
  | succ n ih =>
    intro x2 x3
    show zG P (zoP sz hp) (b_X5_regionsAround_9 k36 a0 hp (l_X5_regionsAround_9 k36 a0 hp n) x2 x3) _ _ _ _ _ _ _
    unfold b_X5_regionsAround_9
    refine z_iload_n C dX5_regionsAround_9 1 rfl ?_
    refine z_iconst C dX5_regionsAround_10 zi_5 ?_
    refine z_icmp_ge C 36 dX5_regionsAround_11 (by decide) ?_ ?_
    · refine z_aload_n C dX5_regionsAround_14 0 rfl ?_
      refine z_iconst C dX5_regionsAround_15 zi_1 ?_
      refine z_iload_n C dX5_regionsAround_16 2 rfl ?_
      refine z_callVp C zc_X5_48 [.int (1 : Int32), .int x3] (fun l D tc b0 r h => m_X5_has l D tc ro b0 h) dX5_regionsAround_17 rfl rfl (Nat.le_of_ble_eq_true rfl) (by decide) (by decide) ⟨Nat.le_of_ble_eq_true rfl, Nat.le_of_ble_eq_true rfl⟩ (fun v3 => ?_)
      refine z_if_eq C 36 dX5_regionsAround_20 (by decide) ?_ ?_
      · exact z_sub [1] rfl (hk36 _)
      refine z_iincL C 1 (fun v4 => [(0, .ref a0), (2, .int v4), (3, .int x3)]) dX5_regionsAround_23 rfl zi_1 (by decide) (fun _ => rfl) (fun v4 => ?_)
      refine z_aload_n C dX5_regionsAround_26 0 rfl ?_
      refine z_getR C zf_X5_20 dX5_regionsAround_27 (fun r5 => ?_)
      refine z_iload_n C dX5_regionsAround_30 2 rfl ?_
      refine z_iaload C dX5_regionsAround_31 (fun v6 => ?_)
      refine z_istore_n (lv' := [(0, .ref a0), (2, .int v4), (3, .int v6)]) C dX5_regionsAround_32 (by decide) rfl ?_
      refine z_goto C 9 dX5_regionsAround_33 (by decide) ?_
      exact ih _ _
    exact z_sub [1] rfl (hk36 _)
noncomputable def f_X5_regionsAround (a0 : Nat) (x1 : Int32) (hp : zHp) : Option Int32 :=
  (zis hp a0 5).bind fun _ => (zgR hp a0 5 2).bind fun r1 => (zaI hp 0 r1 x1).bind fun v2 => l_X5_regionsAround_9 (fun p7 => some p7) a0 hp 1000000 (0 : Int32) v2
set_option maxHeartbeats 4000000 in
set_option maxRecDepth 100000 in
theorem m_X5_regionsAround (l : Launch) (D : va_G) (tc : Nat → ClassId) (ro : Nat → Nat) (b0 : Nat) {a0 : Nat} {x1 : Int32} {hp : zHp} {sz : Nat} {r : Int32} (h : f_X5_regionsAround a0 x1 hp = some r) : zis hp a0 5 = some () ∧ zM l yX5_regionsAround cX5_regionsAround 4 (some .int) 2 0 0 [.ref a0, .int x1] D tc ro b0 hp sz ((zoP sz hp) r).1 ((zoP sz hp) r).2.1 ((zoP sz hp) r).2.2 := by
  refine ⟨?_, z_start (o := (zoP sz hp)) (lv := [(0, .ref a0), (1, .int x1)]) h (by decide +kernel) RX5 rfl rfl (Nat.le_of_ble_eq_true rfl) (fun P C => ?_)⟩
  · unfold f_X5_regionsAround at h
    cases hc : zis hp a0 5 with
    | none => rw [hc] at h; cases h
    | some u => rfl
  unfold f_X5_regionsAround
  refine z_is ?_
  refine z_iconst C dX5_regionsAround_0 zi_0 ?_
  refine z_istore_n (lv' := [(0, .ref a0), (1, .int x1), (2, .int (0 : Int32))]) C dX5_regionsAround_1 (by decide) rfl ?_
  refine z_aload_n C dX5_regionsAround_2 0 rfl ?_
  refine z_getR C zf_X5_20 dX5_regionsAround_3 (fun r1 => ?_)
  refine z_iload_n C dX5_regionsAround_6 1 rfl ?_
  refine z_iaload C dX5_regionsAround_7 (fun v2 => ?_)
  refine z_istore_n (lv' := [(0, .ref a0), (1, .int x1), (2, .int (0 : Int32)), (3, .int v2)]) C dX5_regionsAround_8 (by decide) rfl ?_
  refine z_sub [0, 2, 3] rfl (wl_X5_regionsAround_9 C (fun p7 => ?_) _ _ _)
  refine z_iload_n C dX5_regionsAround_36 0 rfl ?_
  exact z_ireturnP C dX5_regionsAround_37
noncomputable def b_X5_wouldFindTruth_2 (k28 : Option Int32) (k36 : Option Int32) (a0 : Nat) (x1 : Int32) (x2 : Int32) (hp : zHp) (rec : Int32 → Option Int32) (x3 : Int32) : Option Int32 :=
  (f_X5_piles a0 hp).bind fun v1 => if x3 < v1 then ((f_X5_wouldFind a0 x1 x2 x3 hp).bind fun v2 => (zgR hp a0 5 7).bind fun r3 => (zaR hp 5 r3 x2).bind fun r4 => (zaI hp 0 r4 x3).bind fun v5 => if v2 = v5 then (zlet (x3 + (1 : Int32)) fun v6 => rec v6) else k28) else k36
noncomputable def l_X5_wouldFindTruth_2 (k28 : Option Int32) (k36 : Option Int32) (a0 : Nat) (x1 : Int32) (x2 : Int32) (hp : zHp) (n : Nat) : Int32 → Option Int32 :=
  Nat.rec (motive := fun _ => Int32 → Option Int32) (fun _ => none) (fun _ rec => b_X5_wouldFindTruth_2 k28 k36 a0 x1 x2 hp rec) n
theorem l_X5_wouldFindTruth_2_s (k28 : Option Int32) (k36 : Option Int32) (a0 : Nat) (x1 : Int32) (x2 : Int32) (hp : zHp) (n : Nat) (x3 : Int32) : l_X5_wouldFindTruth_2 k28 k36 a0 x1 x2 hp (n + 1) x3 = b_X5_wouldFindTruth_2 k28 k36 a0 x1 x2 hp (l_X5_wouldFindTruth_2 k28 k36 a0 x1 x2 hp n) x3 := rfl
set_option maxHeartbeats 4000000 in
set_option maxRecDepth 100000 in
theorem wl_X5_wouldFindTruth_2 {P : zX} {ro : Nat → Nat} {sz : Nat} (C : zC P cX5_wouldFindTruth RX5 (some .boolean) 3 0 0 4 ro) {a0 : Nat} {x1 : Int32} {x2 : Int32} {hp : zHp} {k28 : Option Int32} (hk28 : zG P (zoP sz hp) (k28) 28 [] [] hp sz 0 0) {k36 : Option Int32} (hk36 : zG P (zoP sz hp) (k36) 36 [] [] hp sz 0 0) : ∀ (n : Nat) (x3 : Int32), zG P (zoP sz hp) (l_X5_wouldFindTruth_2 k28 k36 a0 x1 x2 hp n x3) 2 [(0, .ref a0), (1, .int x1), (2, .int x2), (3, .int x3)] [] hp sz 0 0 := by
  intro n
  induction n with
  | zero =>
    intro x3
    show zG P (zoP sz hp) none _ _ _ _ _ _ _
    exact z_none
  | succ n ih =>
    intro x3
    show zG P (zoP sz hp) (b_X5_wouldFindTruth_2 k28 k36 a0 x1 x2 hp (l_X5_wouldFindTruth_2 k28 k36 a0 x1 x2 hp n) x3) _ _ _ _ _ _ _
    unfold b_X5_wouldFindTruth_2
    refine z_iload_n C dX5_wouldFindTruth_2 3 rfl ?_
    refine z_aload_n C dX5_wouldFindTruth_3 0 rfl ?_
    refine z_callVp C zc_X5_44 [] (fun l D tc b0 r h => m_X5_piles l D tc ro b0 h) dX5_wouldFindTruth_4 rfl rfl (Nat.le_of_ble_eq_true rfl) (by decide) (by decide) ⟨Nat.le_of_ble_eq_true rfl, Nat.le_of_ble_eq_true rfl⟩ (fun v1 => ?_)
    refine z_icmp_ge C 36 dX5_wouldFindTruth_7 (by decide) ?_ ?_
    · refine z_aload_n C dX5_wouldFindTruth_10 0 rfl ?_
      refine z_iload_n C dX5_wouldFindTruth_11 1 rfl ?_
      refine z_iload_n C dX5_wouldFindTruth_12 2 rfl ?_
      refine z_iload_n C dX5_wouldFindTruth_13 3 rfl ?_
      refine z_callVp C zc_X5_56 [.int x1, .int x2, .int x3] (fun l D tc b0 r h => m_X5_wouldFind l D tc ro b0 h) dX5_wouldFindTruth_14 rfl rfl (Nat.le_of_ble_eq_true rfl) (by decide) (by decide) ⟨Nat.le_of_ble_eq_true rfl, Nat.le_of_ble_eq_true rfl⟩ (fun v2 => ?_)
      refine z_aload_n C dX5_wouldFindTruth_17 0 rfl ?_
      refine z_getR C zf_X5_35 dX5_wouldFindTruth_18 (fun r3 => ?_)
      refine z_iload_n C dX5_wouldFindTruth_21 2 rfl ?_
      refine z_aaload (t := 5) (ty := .array .int) C (fun _ => rfl) rfl (by decide) dX5_wouldFindTruth_22 (fun r4 => ?_)
      refine z_iload_n C dX5_wouldFindTruth_23 3 rfl ?_
      refine z_iaload C dX5_wouldFindTruth_24 (fun v5 => ?_)
      refine z_icmp_eq C 30 dX5_wouldFindTruth_25 (by decide) ?_ ?_
      · refine z_iincL C 3 (fun v6 => [(0, .ref a0), (1, .int x1), (2, .int x2), (3, .int v6)]) dX5_wouldFindTruth_30 rfl zi_1 (by decide) (fun _ => rfl) (fun v6 => ?_)
        refine z_goto C 2 dX5_wouldFindTruth_33 (by decide) ?_
        exact ih _
      exact z_sub [] rfl (hk28)
    exact z_sub [] rfl (hk36)
noncomputable def f_X5_wouldFindTruth (a0 : Nat) (x1 : Int32) (x2 : Int32) (hp : zHp) : Option Int32 :=
  (zis hp a0 5).bind fun _ => l_X5_wouldFindTruth_2 (some (0 : Int32)) (some (1 : Int32)) a0 x1 x2 hp 1000000 (0 : Int32)
set_option maxHeartbeats 4000000 in
set_option maxRecDepth 100000 in
theorem m_X5_wouldFindTruth (l : Launch) (D : va_G) (tc : Nat → ClassId) (ro : Nat → Nat) (b0 : Nat) {a0 : Nat} {x1 : Int32} {x2 : Int32} {hp : zHp} {sz : Nat} {r : Int32} (h : f_X5_wouldFindTruth a0 x1 x2 hp = some r) : zis hp a0 5 = some () ∧ zM l yX5_wouldFindTruth cX5_wouldFindTruth 4 (some .boolean) 3 0 0 [.ref a0, .int x1, .int x2] D tc ro b0 hp sz ((zoP sz hp) r).1 ((zoP sz hp) r).2.1 ((zoP sz hp) r).2.2 := by
  refine ⟨?_, z_start (o := (zoP sz hp)) (lv := [(0, .ref a0), (1, .int x1), (2, .int x2)]) h (by decide +kernel) RX5 rfl rfl (Nat.le_of_ble_eq_true rfl) (fun P C => ?_)⟩
  · unfold f_X5_wouldFindTruth at h
    cases hc : zis hp a0 5 with
    | none => rw [hc] at h; cases h
    | some u => rfl
  unfold f_X5_wouldFindTruth
  refine z_is ?_
  refine z_iconst C dX5_wouldFindTruth_0 zi_0 ?_
  refine z_istore_n (lv' := [(0, .ref a0), (1, .int x1), (2, .int x2), (3, .int (0 : Int32))]) C dX5_wouldFindTruth_1 (by decide) rfl ?_
  refine wl_X5_wouldFindTruth_2 C ?_ ?_ _ _
  · refine z_iconst C dX5_wouldFindTruth_28 zi_0 ?_
    exact z_kreturnP C rfl dX5_wouldFindTruth_29
  refine z_iconst C dX5_wouldFindTruth_36 zi_1 ?_
  exact z_kreturnP C rfl dX5_wouldFindTruth_37
noncomputable def f_X6_addDeclared (a0 : Nat) (x1 : Int32) (hp : zHp) : Option zHp :=
  (zis hp a0 6).bind fun _ => (zgI hp a0 6 3).bind fun v1 => if v1 < (6 : Int32) then ((zgR hp a0 6 2).bind fun r2 => (zgI hp a0 6 3).bind fun v3 => (zsI hp r2 v3 x1).bind fun h4 => (zgI h4 a0 6 3).bind fun v5 => (zpV h4 a0 6 3 (.int (v5 + (1 : Int32)))).bind fun h6 => some h6) else some hp
set_option maxHeartbeats 4000000 in
set_option maxRecDepth 100000 in
theorem m_X6_addDeclared (l : Launch) (D : va_G) (tc : Nat → ClassId) (ro : Nat → Nat) (b0 : Nat) {a0 : Nat} {x1 : Int32} {hp : zHp} {sz : Nat} {r : zHp} (h : f_X6_addDeclared a0 x1 hp = some r) : zis hp a0 6 = some () ∧ zM l yX6_addDeclared cX6_addDeclared 2 none 1 0 0 [.ref a0, .int x1] D tc ro b0 hp sz ((zoV sz) r).1 ((zoV sz) r).2.1 ((zoV sz) r).2.2 := by
  refine ⟨?_, z_start (o := (zoV sz)) (lv := [(0, .ref a0), (1, .int x1)]) h (by decide +kernel) RX6 rfl rfl (Nat.le_of_ble_eq_true rfl) (fun P C => ?_)⟩
  · unfold f_X6_addDeclared at h
    cases hc : zis hp a0 6 with
    | none => rw [hc] at h; cases h
    | some u => rfl
  unfold f_X6_addDeclared
  refine z_is ?_
  refine z_aload_n C dX6_addDeclared_0 0 rfl ?_
  refine z_getI C zf_X6_48 dX6_addDeclared_1 (fun v1 => ?_)
  refine z_bipush C dX6_addDeclared_4 zbi_6 ?_
  refine z_icmp_ge C 29 dX6_addDeclared_6 (by decide) ?_ ?_
  · refine z_aload_n C dX6_addDeclared_9 0 rfl ?_
    refine z_getR C zf_X6_21 dX6_addDeclared_10 (fun r2 => ?_)
    refine z_aload_n C dX6_addDeclared_13 0 rfl ?_
    refine z_getI C zf_X6_48 dX6_addDeclared_14 (fun v3 => ?_)
    refine z_iload_n C dX6_addDeclared_17 1 rfl ?_
    refine z_iastore C dX6_addDeclared_18 (fun h4 => ?_)
    refine z_aload_n C dX6_addDeclared_19 0 rfl ?_
    refine z_dup C dX6_addDeclared_20 rfl ?_
    refine z_getI C zf_X6_48 dX6_addDeclared_21 (fun v5 => ?_)
    refine z_iconst C dX6_addDeclared_24 zi_1 ?_
    refine z_iadd C dX6_addDeclared_25 ?_
    refine z_putI C zp_X6_48 dX6_addDeclared_26 (fun h6 => ?_)
    exact z_return C dX6_addDeclared_29
  exact z_return C dX6_addDeclared_29
noncomputable def f_X7_init (mc ms : Nat) (a0 : Nat) (hp : zHp) (sz : Nat) : Option (zHp × Nat) :=
  zchk (0 + 1 ≤ mc ∧ 0 + 4 ≤ ms) <| zlet (zup hp sz (.inr (4, [.null, .null, .int 0, .int 0]))) fun h2 => zchk ((0 + 1) + 30 ≤ mc ∧ (0 + 4) + 1123 ≤ ms) <| zb2 (f_X4_init 30 1123 sz h2 ((sz + 1))) fun h4 z5 => (zpV h4 a0 7 0 (.ref sz)).bind fun h6 => zchk (((0 + 1) + 30) + 1 ≤ mc ∧ ((0 + 4) + 1123) + 2 ≤ ms) <| zlet (zup h6 z5 (.inr (1, [.null, .null]))) fun h8 => zchk ((((0 + 1) + 30) + 1) + 80 ≤ mc ∧ (((0 + 4) + 1123) + 2) + 830 ≤ ms) <| zb2 (f_X1_init 80 830 z5 h8 ((z5 + 1))) fun h10 z11 => (zpV h10 a0 7 1 (.ref z5)).bind fun h12 => zchk (((((0 + 1) + 30) + 1) + 80) + 1 ≤ mc ∧ ((((0 + 4) + 1123) + 2) + 830) + 2 ≤ ms) <| zlet (zup h12 z11 (.inr (2, [.null, .int 0]))) fun h14 => zchk ((((((0 + 1) + 30) + 1) + 80) + 1) + 521 ≤ mc ∧ (((((0 + 4) + 1123) + 2) + 830) + 2) + 6140 ≤ ms) <| zb2 (f_X2_init 521 6140 z11 h14 ((z11 + 1))) fun h16 z17 => (zpV h16 a0 7 2 (.ref z11)).bind fun h18 => zchk (((((((0 + 1) + 30) + 1) + 80) + 1) + 521) + 1 ≤ mc ∧ ((((((0 + 4) + 1123) + 2) + 830) + 2) + 6140) + 4 ≤ ms) <| zlet (zup h18 z17 (.inr (9, [.null, .int 0, .int 0, .int 0]))) fun h20 => zchk ((((((((0 + 1) + 30) + 1) + 80) + 1) + 521) + 1) + 1 ≤ mc ∧ (((((((0 + 4) + 1123) + 2) + 830) + 2) + 6140) + 4) + 16 ≤ ms) <| zb2 (f_J4_init_da8c8 1 16 z17 h20 ((z17 + 1))) fun h22 z23 => (zpV h22 a0 7 3 (.ref z17)).bind fun h24 => (zpV h24 a0 7 4 (.int (-1 : Int32))).bind fun h25 => some (h25, z23)
set_option maxHeartbeats 4000000 in
set_option maxRecDepth 100000 in
theorem m_X7_init (l : Launch) (D : va_G) (tc : Nat → ClassId) (ro : Nat → Nat) (b0 : Nat) {mc ms : Nat} {a0 : Nat} {hp : zHp} {sz : Nat} {r : (zHp × Nat)} (h : f_X7_init mc ms a0 hp sz = some r) : zM l yX7_init cX7_init 1 none 4 mc ms [.ref a0] D tc ro b0 hp sz (zoVA r).1 (zoVA r).2.1 (zoVA r).2.2 := by
  refine z_startI (o := zoVA) (lv := [(0, .ref a0)]) h (by decide +kernel) RX7 rfl rfl rfl (Nat.le_of_ble_eq_true rfl) (fun P C CI => ?_)
  unfold f_X7_init
  refine z_aload_n C dX7_init_0 0 rfl ?_
  refine z_objInit C zo_X7_3 dX7_init_1 (by decide) (Nat.le_of_ble_eq_true rfl) ?_
  refine z_aload_n C dX7_init_4 0 rfl ?_
  refine z_chk (fun q1 => ?_)
  refine z_new C za_X7_9 dX7_init_5 q1 (fun h2 => ?_)
  refine z_dup C dX7_init_8 rfl ?_
  refine z_chk (fun q3 => ?_)
  refine z_callI C (Or.inr ⟨_, zci_X7_11⟩) [] (fun l D tc b0 r h => m_X4_init l D tc ro b0 h) dX7_init_9 rfl rfl (Nat.le_of_ble_eq_true rfl) (by decide) (by decide) q3 (fun h4 z5 => ?_)
  refine z_putF C CI zpf_X7_12 rfl rfl dX7_init_12 (fun h6 => ?_)
  refine z_aload_n C dX7_init_15 0 rfl ?_
  refine z_chk (fun q7 => ?_)
  refine z_new C za_X7_16 dX7_init_16 q7 (fun h8 => ?_)
  refine z_dup C dX7_init_19 rfl ?_
  refine z_chk (fun q9 => ?_)
  refine z_callI C (Or.inr ⟨_, zci_X7_18⟩) [] (fun l D tc b0 r h => m_X1_init l D tc ro b0 h) dX7_init_20 rfl rfl (Nat.le_of_ble_eq_true rfl) (by decide) (by decide) q9 (fun h10 z11 => ?_)
  refine z_putF C CI zpf_X7_19 rfl rfl dX7_init_23 (fun h12 => ?_)
  refine z_aload_n C dX7_init_26 0 rfl ?_
  refine z_chk (fun q13 => ?_)
  refine z_new C za_X7_23 dX7_init_27 q13 (fun h14 => ?_)
  refine z_dup C dX7_init_30 rfl ?_
  refine z_chk (fun q15 => ?_)
  refine z_callI C (Or.inl zci_X7_25) [] (fun l D tc b0 r h => m_X2_init l D tc ro b0 h) dX7_init_31 rfl rfl (Nat.le_of_ble_eq_true rfl) (by decide) (by decide) q15 (fun h16 z17 => ?_)
  refine z_putF C CI zpf_X7_26 rfl rfl dX7_init_34 (fun h18 => ?_)
  refine z_aload_n C dX7_init_37 0 rfl ?_
  refine z_chk (fun q19 => ?_)
  refine z_new C za_X7_30 dX7_init_38 q19 (fun h20 => ?_)
  refine z_dup C dX7_init_41 rfl ?_
  refine z_chk (fun q21 => ?_)
  refine z_callI C (Or.inl zci_X7_32) [] (fun l D tc b0 r h => m_J4_init_da8c8 l D tc ro b0 h) dX7_init_42 rfl rfl (Nat.le_of_ble_eq_true rfl) (by decide) (by decide) q21 (fun h22 z23 => ?_)
  refine z_putF C CI zpf_X7_33 rfl rfl dX7_init_45 (fun h24 => ?_)
  refine z_aload_n C dX7_init_48 0 rfl ?_
  refine z_iconst C dX7_init_49 zi_m1 ?_
  refine z_putI C zp_X7_37 dX7_init_50 (fun h25 => ?_)
  exact z_returnA C dX7_init_53 q21
noncomputable def f_X7_feed (a0 : Nat) (x1 : Int32) (x2 : Int32) (x3 : Int32) (x4 : Int32) (x5 : Int32) (hp : zHp) : Option (Int32 × zHp) :=
  (zis hp a0 7).bind fun _ => (zgR hp a0 7 0).bind fun r1 => (zgR hp r1 4 0).bind fun r2 => (zgI hp r2 3 1).bind fun v3 => if (900 : Int32) < (v3 + (20 : Int32)) then (some ((-5 : Int32), hp)) else (f_X3_append r2 x1 hp).bind fun h4 => (f_X3_append r2 x2 h4).bind fun h5 => (f_X3_append r2 x3 h5).bind fun h6 => (f_X3_append r2 x4 h6).bind fun h7 => (f_X3_append r2 x5 h7).bind fun h8 => (zgI h8 r2 3 1).bind fun v9 => some (v9, h8)
set_option maxHeartbeats 4000000 in
set_option maxRecDepth 100000 in
theorem m_X7_feed (l : Launch) (D : va_G) (tc : Nat → ClassId) (ro : Nat → Nat) (b0 : Nat) {a0 : Nat} {x1 : Int32} {x2 : Int32} {x3 : Int32} {x4 : Int32} {x5 : Int32} {hp : zHp} {sz : Nat} {r : (Int32 × zHp)} (h : f_X7_feed a0 x1 x2 x3 x4 x5 hp = some r) : zis hp a0 7 = some () ∧ zM l yX7_feed cX7_feed 7 (some .int) 2 0 0 [.ref a0, .int x1, .int x2, .int x3, .int x4, .int x5] D tc ro b0 hp sz ((zoI sz) r).1 ((zoI sz) r).2.1 ((zoI sz) r).2.2 := by
  refine ⟨?_, z_start (o := (zoI sz)) (lv := [(0, .ref a0), (1, .int x1), (2, .int x2), (3, .int x3), (4, .int x4), (5, .int x5)]) h (by decide +kernel) RX7 rfl rfl (Nat.le_of_ble_eq_true rfl) (fun P C => ?_)⟩
  · unfold f_X7_feed at h
    cases hc : zis hp a0 7 with
    | none => rw [hc] at h; cases h
    | some u => rfl
  unfold f_X7_feed
  refine z_is ?_
  refine z_aload_n C dX7_feed_0 0 rfl ?_
  refine z_getR C zf_X7_12 dX7_feed_1 (fun r1 => ?_)
  refine z_getR C zf_X7_41 dX7_feed_4 (fun r2 => ?_)
  refine z_astore (lv' := [(0, .ref a0), (1, .int x1), (2, .int x2), (3, .int x3), (4, .int x4), (5, .int x5), (6, .ref r2)]) C dX7_feed_7 (by decide) rfl ?_
  refine z_aload C dX7_feed_9 6 rfl ?_
  refine z_getI C zf_X7_45 dX7_feed_11 (fun v3 => ?_)
  refine z_bipush C dX7_feed_14 zbi_20 ?_
  refine z_iadd C dX7_feed_16 ?_
  refine z_sipush C dX7_feed_17 zsi_900 ?_
  refine z_icmp_le C 26 dX7_feed_20 (by decide) ?_ ?_
  · refine z_bipush C dX7_feed_23 zbi_m5 ?_
    exact z_ireturn C dX7_feed_25
  refine z_aload C dX7_feed_26 6 rfl ?_
  refine z_iload_n C dX7_feed_28 1 rfl ?_
  refine z_callVv C zc_X7_50 [.int x1] (fun l D tc b0 r h => m_X3_append l D tc ro b0 h) dX7_feed_29 rfl rfl (Nat.le_of_ble_eq_true rfl) (by decide) (by decide) ⟨Nat.le_of_ble_eq_true rfl, Nat.le_of_ble_eq_true rfl⟩ (fun h4 => ?_)
  refine z_aload C dX7_feed_32 6 rfl ?_
  refine z_iload_n C dX7_feed_34 2 rfl ?_
  refine z_callVv C zc_X7_50 [.int x2] (fun l D tc b0 r h => m_X3_append l D tc ro b0 h) dX7_feed_35 rfl rfl (Nat.le_of_ble_eq_true rfl) (by decide) (by decide) ⟨Nat.le_of_ble_eq_true rfl, Nat.le_of_ble_eq_true rfl⟩ (fun h5 => ?_)
  refine z_aload C dX7_feed_38 6 rfl ?_
  refine z_iload_n C dX7_feed_40 3 rfl ?_
  refine z_callVv C zc_X7_50 [.int x3] (fun l D tc b0 r h => m_X3_append l D tc ro b0 h) dX7_feed_41 rfl rfl (Nat.le_of_ble_eq_true rfl) (by decide) (by decide) ⟨Nat.le_of_ble_eq_true rfl, Nat.le_of_ble_eq_true rfl⟩ (fun h6 => ?_)
  refine z_aload C dX7_feed_44 6 rfl ?_
  refine z_iload C dX7_feed_46 4 rfl ?_
  refine z_callVv C zc_X7_50 [.int x4] (fun l D tc b0 r h => m_X3_append l D tc ro b0 h) dX7_feed_48 rfl rfl (Nat.le_of_ble_eq_true rfl) (by decide) (by decide) ⟨Nat.le_of_ble_eq_true rfl, Nat.le_of_ble_eq_true rfl⟩ (fun h7 => ?_)
  refine z_aload C dX7_feed_51 6 rfl ?_
  refine z_iload C dX7_feed_53 5 rfl ?_
  refine z_callVv C zc_X7_50 [.int x5] (fun l D tc b0 r h => m_X3_append l D tc ro b0 h) dX7_feed_55 rfl rfl (Nat.le_of_ble_eq_true rfl) (by decide) (by decide) ⟨Nat.le_of_ble_eq_true rfl, Nat.le_of_ble_eq_true rfl⟩ (fun h8 => ?_)
  refine z_aload C dX7_feed_58 6 rfl ?_
  refine z_getI C zf_X7_45 dX7_feed_60 (fun v9 => ?_)
  exact z_ireturn C dX7_feed_63
noncomputable def f_X7_load (ro : Nat → Nat) (a0 : Nat) (x1 : Int32) (hp : zHp) : Option (Int32 × zHp) :=
  (zis hp a0 7).bind fun _ => if x1 < 0 then (some ((-2 : Int32), hp)) else (zgR hp a0 7 0).bind fun r1 => (zgR hp r1 4 0).bind fun r2 => (zgI hp r2 3 1).bind fun v3 => if v3 < x1 then (some ((-2 : Int32), hp)) else (zgR hp a0 7 0).bind fun r4 => zb2 (f_X4_readText ro r4 x1 hp) fun v5 h6 => (zgR h6 a0 7 0).bind fun r7 => (zgI h6 r7 4 3).bind fun v8 => (zpV h6 a0 7 4 (.int v8)).bind fun h9 => if v5 < 0 then (some (v5, h9)) else (zgR h9 a0 7 1).bind fun r10 => (zgR h9 a0 7 0).bind fun r11 => (zgR h9 a0 7 1).bind fun r12 => (zgR h9 r12 1 0).bind fun r13 => zb2 (f_X4_exchange r11 r13 h9) fun r14 h15 => (f_X1_begin r10 r14 h15).bind fun h16 => (zgR h16 a0 7 2).bind fun r17 => (zpV h16 r17 2 1 (.int (0 : Int32))).bind fun h18 => some (v5, h18)
set_option maxHeartbeats 4000000 in
set_option maxRecDepth 100000 in
theorem m_X7_load (l : Launch) (D : va_G) (tc : Nat → ClassId) (ro : Nat → Nat) (b0 : Nat) {a0 : Nat} {x1 : Int32} {hp : zHp} {sz : Nat} {r : (Int32 × zHp)} (h : f_X7_load ro a0 x1 hp = some r) : zis hp a0 7 = some () ∧ zM l yX7_load cX7_load 3 (some .int) 11 0 0 [.ref a0, .int x1] D tc ro b0 hp sz ((zoI sz) r).1 ((zoI sz) r).2.1 ((zoI sz) r).2.2 := by
  refine ⟨?_, z_start (o := (zoI sz)) (lv := [(0, .ref a0), (1, .int x1)]) h (by decide +kernel) RX7 rfl rfl (Nat.le_of_ble_eq_true rfl) (fun P C => ?_)⟩
  · unfold f_X7_load at h
    cases hc : zis hp a0 7 with
    | none => rw [hc] at h; cases h
    | some u => rfl
  unfold f_X7_load
  refine z_is ?_
  refine z_iload_n C dX7_load_0 1 rfl ?_
  refine z_if_lt C 18 dX7_load_1 (by decide) ?_ ?_
  · refine z_bipush C dX7_load_18 zbi_m2 ?_
    exact z_ireturn C dX7_load_20
  refine z_iload_n C dX7_load_4 1 rfl ?_
  refine z_aload_n C dX7_load_5 0 rfl ?_
  refine z_getR C zf_X7_12 dX7_load_6 (fun r1 => ?_)
  refine z_getR C zf_X7_41 dX7_load_9 (fun r2 => ?_)
  refine z_getI C zf_X7_45 dX7_load_12 (fun v3 => ?_)
  refine z_icmp_le C 21 dX7_load_15 (by decide) ?_ ?_
  · refine z_bipush C dX7_load_18 zbi_m2 ?_
    exact z_ireturn C dX7_load_20
  refine z_aload_n C dX7_load_21 0 rfl ?_
  refine z_getR C zf_X7_12 dX7_load_22 (fun r4 => ?_)
  refine z_iload_n C dX7_load_25 1 rfl ?_
  refine z_callVi C zc_X7_54 [.int x1] (fun l D tc b0 r h => m_X4_readText l D tc ro b0 h) dX7_load_26 rfl rfl (Nat.le_of_ble_eq_true rfl) (by decide) (by decide) ⟨Nat.le_of_ble_eq_true rfl, Nat.le_of_ble_eq_true rfl⟩ (fun v5 h6 => ?_)
  refine z_istore_n (lv' := [(0, .ref a0), (1, .int x1), (2, .int v5)]) C dX7_load_29 (by decide) rfl ?_
  refine z_aload_n C dX7_load_30 0 rfl ?_
  refine z_aload_n C dX7_load_31 0 rfl ?_
  refine z_getR C zf_X7_12 dX7_load_32 (fun r7 => ?_)
  refine z_getI C zf_X7_58 dX7_load_35 (fun v8 => ?_)
  refine z_putI C zp_X7_37 dX7_load_38 (fun h9 => ?_)
  refine z_iload_n C dX7_load_41 2 rfl ?_
  refine z_if_lt C 74 dX7_load_42 (by decide) ?_ ?_
  · refine z_iload_n C dX7_load_74 2 rfl ?_
    exact z_ireturn C dX7_load_75
  refine z_aload_n C dX7_load_45 0 rfl ?_
  refine z_getR C zf_X7_19 dX7_load_46 (fun r10 => ?_)
  refine z_aload_n C dX7_load_49 0 rfl ?_
  refine z_getR C zf_X7_12 dX7_load_50 (fun r11 => ?_)
  refine z_aload_n C dX7_load_53 0 rfl ?_
  refine z_getR C zf_X7_19 dX7_load_54 (fun r12 => ?_)
  refine z_getR C zf_X7_61 dX7_load_57 (fun r13 => ?_)
  refine z_callVr C zc_X7_65 [.ref r13] (fun l D tc b0 r h => m_X4_exchange l D tc ro b0 h) dX7_load_60 rfl rfl (Nat.le_of_ble_eq_true rfl) (by decide) (by decide) ⟨Nat.le_of_ble_eq_true rfl, Nat.le_of_ble_eq_true rfl⟩ (fun r14 h15 => ?_)
  refine z_callVv C zc_X7_69 [.ref r14] (fun l D tc b0 r h => m_X1_begin l D tc ro b0 h) dX7_load_63 rfl rfl (Nat.le_of_ble_eq_true rfl) (by decide) (by decide) ⟨Nat.le_of_ble_eq_true rfl, Nat.le_of_ble_eq_true rfl⟩ (fun h16 => ?_)
  refine z_aload_n C dX7_load_66 0 rfl ?_
  refine z_getR C zf_X7_26 dX7_load_67 (fun r17 => ?_)
  refine z_iconst C dX7_load_70 zi_0 ?_
  refine z_putI C zp_X7_73 dX7_load_71 (fun h18 => ?_)
  refine z_iload_n C dX7_load_74 2 rfl ?_
  exact z_ireturn C dX7_load_75
noncomputable def f_X7_errorPosition (a0 : Nat) (hp : zHp) : Option Int32 :=
  (zis hp a0 7).bind fun _ => (zgI hp a0 7 4).bind fun v1 => some v1
set_option maxHeartbeats 4000000 in
set_option maxRecDepth 100000 in
theorem m_X7_errorPosition (l : Launch) (D : va_G) (tc : Nat → ClassId) (ro : Nat → Nat) (b0 : Nat) {a0 : Nat} {hp : zHp} {sz : Nat} {r : Int32} (h : f_X7_errorPosition a0 hp = some r) : zis hp a0 7 = some () ∧ zM l yX7_errorPosition cX7_errorPosition 1 (some .int) 1 0 0 [.ref a0] D tc ro b0 hp sz ((zoP sz hp) r).1 ((zoP sz hp) r).2.1 ((zoP sz hp) r).2.2 := by
  refine ⟨?_, z_start (o := (zoP sz hp)) (lv := [(0, .ref a0)]) h (by decide +kernel) RX7 rfl rfl (Nat.le_of_ble_eq_true rfl) (fun P C => ?_)⟩
  · unfold f_X7_errorPosition at h
    cases hc : zis hp a0 7 with
    | none => rw [hc] at h; cases h
    | some u => rfl
  unfold f_X7_errorPosition
  refine z_is ?_
  refine z_aload_n C dX7_errorPosition_0 0 rfl ?_
  refine z_getI C zf_X7_37 dX7_errorPosition_1 (fun v1 => ?_)
  exact z_ireturnP C dX7_errorPosition_4
noncomputable def f_X7_count (a0 : Nat) (x1 : Int32) (hp : zHp) : Option Int32 :=
  (zis hp a0 7).bind fun _ => if x1 < 0 then (some (-2 : Int32)) else if (4 : Int32) < x1 then (some (-2 : Int32)) else (zgR hp a0 7 1).bind fun r1 => (zgR hp r1 1 0).bind fun r2 => (zgR hp r2 5 0).bind fun r3 => (zaI hp 0 r3 x1).bind fun v4 => some v4
set_option maxHeartbeats 4000000 in
set_option maxRecDepth 100000 in
theorem m_X7_count (l : Launch) (D : va_G) (tc : Nat → ClassId) (ro : Nat → Nat) (b0 : Nat) {a0 : Nat} {x1 : Int32} {hp : zHp} {sz : Nat} {r : Int32} (h : f_X7_count a0 x1 hp = some r) : zis hp a0 7 = some () ∧ zM l yX7_count cX7_count 2 (some .int) 1 0 0 [.ref a0, .int x1] D tc ro b0 hp sz ((zoP sz hp) r).1 ((zoP sz hp) r).2.1 ((zoP sz hp) r).2.2 := by
  refine ⟨?_, z_start (o := (zoP sz hp)) (lv := [(0, .ref a0), (1, .int x1)]) h (by decide +kernel) RX7 rfl rfl (Nat.le_of_ble_eq_true rfl) (fun P C => ?_)⟩
  · unfold f_X7_count at h
    cases hc : zis hp a0 7 with
    | none => rw [hc] at h; cases h
    | some u => rfl
  unfold f_X7_count
  refine z_is ?_
  refine z_iload_n C dX7_count_0 1 rfl ?_
  refine z_if_lt C 24 dX7_count_1 (by decide) ?_ ?_
  · refine z_bipush C dX7_count_24 zbi_m2 ?_
    exact z_ireturnP C dX7_count_26
  refine z_iload_n C dX7_count_4 1 rfl ?_
  refine z_iconst C dX7_count_5 zi_4 ?_
  refine z_icmp_gt C 24 dX7_count_6 (by decide) ?_ ?_
  · refine z_bipush C dX7_count_24 zbi_m2 ?_
    exact z_ireturnP C dX7_count_26
  refine z_aload_n C dX7_count_9 0 rfl ?_
  refine z_getR C zf_X7_19 dX7_count_10 (fun r1 => ?_)
  refine z_getR C zf_X7_61 dX7_count_13 (fun r2 => ?_)
  refine z_getR C zf_X7_76 dX7_count_16 (fun r3 => ?_)
  refine z_iload_n C dX7_count_19 1 rfl ?_
  refine z_iaload C dX7_count_20 (fun v4 => ?_)
  refine z_goto C 26 dX7_count_21 (by decide) ?_
  exact z_ireturnP C dX7_count_26
noncomputable def f_X7_undoCount (a0 : Nat) (hp : zHp) : Option Int32 :=
  (zis hp a0 7).bind fun _ => (zgR hp a0 7 2).bind fun r1 => (zgI hp r1 2 1).bind fun v2 => some v2
set_option maxHeartbeats 4000000 in
set_option maxRecDepth 100000 in
theorem m_X7_undoCount (l : Launch) (D : va_G) (tc : Nat → ClassId) (ro : Nat → Nat) (b0 : Nat) {a0 : Nat} {hp : zHp} {sz : Nat} {r : Int32} (h : f_X7_undoCount a0 hp = some r) : zis hp a0 7 = some () ∧ zM l yX7_undoCount cX7_undoCount 1 (some .int) 1 0 0 [.ref a0] D tc ro b0 hp sz ((zoP sz hp) r).1 ((zoP sz hp) r).2.1 ((zoP sz hp) r).2.2 := by
  refine ⟨?_, z_start (o := (zoP sz hp)) (lv := [(0, .ref a0)]) h (by decide +kernel) RX7 rfl rfl (Nat.le_of_ble_eq_true rfl) (fun P C => ?_)⟩
  · unfold f_X7_undoCount at h
    cases hc : zis hp a0 7 with
    | none => rw [hc] at h; cases h
    | some u => rfl
  unfold f_X7_undoCount
  refine z_is ?_
  refine z_aload_n C dX7_undoCount_0 0 rfl ?_
  refine z_getR C zf_X7_26 dX7_undoCount_1 (fun r1 => ?_)
  refine z_getI C zf_X7_73 dX7_undoCount_4 (fun v2 => ?_)
  exact z_ireturnP C dX7_undoCount_7
noncomputable def f_X7_named (a0 : Nat) (x1 : Int32) (x2 : Int32) (hp : zHp) : Option Int32 :=
  (zis hp a0 7).bind fun _ => if x1 < 0 then (some (-2 : Int32)) else if (3 : Int32) < x1 then (some (-2 : Int32)) else (zgR hp a0 7 1).bind fun r1 => (zgR hp r1 1 0).bind fun r2 => (f_X5_find r2 x1 x2 hp).bind fun v3 => some v3
set_option maxHeartbeats 4000000 in
set_option maxRecDepth 100000 in
theorem m_X7_named (l : Launch) (D : va_G) (tc : Nat → ClassId) (ro : Nat → Nat) (b0 : Nat) {a0 : Nat} {x1 : Int32} {x2 : Int32} {hp : zHp} {sz : Nat} {r : Int32} (h : f_X7_named a0 x1 x2 hp = some r) : zis hp a0 7 = some () ∧ zM l yX7_named cX7_named 3 (some .int) 2 0 0 [.ref a0, .int x1, .int x2] D tc ro b0 hp sz ((zoP sz hp) r).1 ((zoP sz hp) r).2.1 ((zoP sz hp) r).2.2 := by
  refine ⟨?_, z_start (o := (zoP sz hp)) (lv := [(0, .ref a0), (1, .int x1), (2, .int x2)]) h (by decide +kernel) RX7 rfl rfl (Nat.le_of_ble_eq_true rfl) (fun P C => ?_)⟩
  · unfold f_X7_named at h
    cases hc : zis hp a0 7 with
    | none => rw [hc] at h; cases h
    | some u => rfl
  unfold f_X7_named
  refine z_is ?_
  refine z_iload_n C dX7_named_0 1 rfl ?_
  refine z_if_lt C 24 dX7_named_1 (by decide) ?_ ?_
  · refine z_bipush C dX7_named_24 zbi_m2 ?_
    exact z_ireturnP C dX7_named_26
  refine z_iload_n C dX7_named_4 1 rfl ?_
  refine z_iconst C dX7_named_5 zi_3 ?_
  refine z_icmp_gt C 24 dX7_named_6 (by decide) ?_ ?_
  · refine z_bipush C dX7_named_24 zbi_m2 ?_
    exact z_ireturnP C dX7_named_26
  refine z_aload_n C dX7_named_9 0 rfl ?_
  refine z_getR C zf_X7_19 dX7_named_10 (fun r1 => ?_)
  refine z_getR C zf_X7_61 dX7_named_13 (fun r2 => ?_)
  refine z_iload_n C dX7_named_16 1 rfl ?_
  refine z_iload_n C dX7_named_17 2 rfl ?_
  refine z_callVp C zc_X7_82 [.int x1, .int x2] (fun l D tc b0 r h => m_X5_find l D tc ro b0 h) dX7_named_18 rfl rfl (Nat.le_of_ble_eq_true rfl) (by decide) (by decide) ⟨Nat.le_of_ble_eq_true rfl, Nat.le_of_ble_eq_true rfl⟩ (fun v3 => ?_)
  refine z_goto C 26 dX7_named_21 (by decide) ?_
  exact z_ireturnP C dX7_named_26
noncomputable def f_X7_isSetting (x0 : Int32) (hp : zHp) : Option Int32 :=
  if x0 = 0 then (some (1 : Int32)) else if x0 = (1 : Int32) then (some (1 : Int32)) else some (0 : Int32)
set_option maxHeartbeats 4000000 in
set_option maxRecDepth 100000 in
theorem m_X7_isSetting (l : Launch) (D : va_G) (tc : Nat → ClassId) (ro : Nat → Nat) (b0 : Nat) {x0 : Int32} {hp : zHp} {sz : Nat} {r : Int32} (h : f_X7_isSetting x0 hp = some r) : zM l yX7_isSetting cX7_isSetting 1 (some .boolean) 1 0 0 [.int x0] D tc ro b0 hp sz ((zoP sz hp) r).1 ((zoP sz hp) r).2.1 ((zoP sz hp) r).2.2 := by
  refine z_start (o := (zoP sz hp)) (lv := [(0, .int x0)]) h (by decide +kernel) RX7 rfl rfl (Nat.le_of_ble_eq_true rfl) (fun P C => ?_)
  unfold f_X7_isSetting
  refine z_iload_n C dX7_isSetting_0 0 rfl ?_
  refine z_if_eq C 9 dX7_isSetting_1 (by decide) ?_ ?_
  · refine z_iconst C dX7_isSetting_9 zi_1 ?_
    refine z_goto C 14 dX7_isSetting_10 (by decide) ?_
    exact z_kreturnP C rfl dX7_isSetting_14
  refine z_iload_n C dX7_isSetting_4 0 rfl ?_
  refine z_iconst C dX7_isSetting_5 zi_1 ?_
  refine z_icmp_ne C 13 dX7_isSetting_6 (by decide) ?_ ?_
  · refine z_iconst C dX7_isSetting_9 zi_1 ?_
    refine z_goto C 14 dX7_isSetting_10 (by decide) ?_
    exact z_kreturnP C rfl dX7_isSetting_14
  refine z_iconst C dX7_isSetting_13 zi_0 ?_
  exact z_kreturnP C rfl dX7_isSetting_14
noncomputable def f_X7_getSetting (a0 : Nat) (x1 : Int32) (hp : zHp) : Option Int32 :=
  (zis hp a0 7).bind fun _ => (f_X7_isSetting x1 hp).bind fun v1 => if v1 = 0 then (some (-2 : Int32)) else (zgR hp a0 7 1).bind fun r2 => (zgR hp r2 1 1).bind fun r3 => (zgR hp r3 6 1).bind fun r4 => (zaI hp 0 r4 x1).bind fun v5 => some v5
set_option maxHeartbeats 4000000 in
set_option maxRecDepth 100000 in
theorem m_X7_getSetting (l : Launch) (D : va_G) (tc : Nat → ClassId) (ro : Nat → Nat) (b0 : Nat) {a0 : Nat} {x1 : Int32} {hp : zHp} {sz : Nat} {r : Int32} (h : f_X7_getSetting a0 x1 hp = some r) : zis hp a0 7 = some () ∧ zM l yX7_getSetting cX7_getSetting 2 (some .int) 2 0 0 [.ref a0, .int x1] D tc ro b0 hp sz ((zoP sz hp) r).1 ((zoP sz hp) r).2.1 ((zoP sz hp) r).2.2 := by
  refine ⟨?_, z_start (o := (zoP sz hp)) (lv := [(0, .ref a0), (1, .int x1)]) h (by decide +kernel) RX7 rfl rfl (Nat.le_of_ble_eq_true rfl) (fun P C => ?_)⟩
  · unfold f_X7_getSetting at h
    cases hc : zis hp a0 7 with
    | none => rw [hc] at h; cases h
    | some u => rfl
  unfold f_X7_getSetting
  refine z_is ?_
  refine z_iload_n C dX7_getSetting_0 1 rfl ?_
  refine z_callSp C zs_X7_86 [.int x1] (fun l D tc b0 r h => m_X7_isSetting l D tc ro b0 h) dX7_getSetting_1 rfl rfl (Nat.le_of_ble_eq_true rfl) (by decide) (by decide) ⟨Nat.le_of_ble_eq_true rfl, Nat.le_of_ble_eq_true rfl⟩ (fun v1 => ?_)
  refine z_if_eq C 22 dX7_getSetting_4 (by decide) ?_ ?_
  · refine z_bipush C dX7_getSetting_22 zbi_m2 ?_
    exact z_ireturnP C dX7_getSetting_24
  refine z_aload_n C dX7_getSetting_7 0 rfl ?_
  refine z_getR C zf_X7_19 dX7_getSetting_8 (fun r2 => ?_)
  refine z_getR C zf_X7_90 dX7_getSetting_11 (fun r3 => ?_)
  refine z_getR C zf_X7_94 dX7_getSetting_14 (fun r4 => ?_)
  refine z_iload_n C dX7_getSetting_17 1 rfl ?_
  refine z_iaload C dX7_getSetting_18 (fun v5 => ?_)
  refine z_goto C 24 dX7_getSetting_19 (by decide) ?_
  exact z_ireturnP C dX7_getSetting_24
noncomputable def f_X7_demand (a0 : Nat) (x1 : Int32) (x2 : Int32) (hp : zHp) : Option (Option Unit) :=
  (zis hp a0 7).bind fun _ => (zgR hp a0 7 1).bind fun r1 => (zgR hp r1 1 0).bind fun r2 => (f_X5_has r2 x1 x2 hp).bind fun v3 => if v3 = 0 then (some none) else some (some ())
set_option maxHeartbeats 4000000 in
set_option maxRecDepth 100000 in
theorem m_X7_demand (l : Launch) (D : va_G) (tc : Nat → ClassId) (ro : Nat → Nat) (b0 : Nat) {a0 : Nat} {x1 : Int32} {x2 : Int32} {hp : zHp} {sz : Nat} {r : (Option Unit)} (hl : l.stackTraces = false) (h : f_X7_demand a0 x1 x2 hp = some r) : zis hp a0 7 = some () ∧ zMx l yX7_demand cX7_demand 3 none 6 1 6 [.ref a0, .int x1, .int x2] D tc ro b0 hp sz (zoPU sz hp) hp r := by
  refine ⟨?_, z_startX (o := (zoPU sz hp)) (lv := [(0, .ref a0), (1, .int x1), (2, .int x2)]) hl h (by decide +kernel) RX7 rfl rfl (Nat.le_of_ble_eq_true rfl) (fun P C CX => ?_)⟩
  · unfold f_X7_demand at h
    cases hc : zis hp a0 7 with
    | none => rw [hc] at h; cases h
    | some u => rfl
  unfold f_X7_demand
  refine z_is ?_
  refine z_aload_n C dX7_demand_0 0 rfl ?_
  refine z_getR C zf_X7_19 dX7_demand_1 (fun r1 => ?_)
  refine z_getR C zf_X7_61 dX7_demand_4 (fun r2 => ?_)
  refine z_iload_n C dX7_demand_7 1 rfl ?_
  refine z_iload_n C dX7_demand_8 2 rfl ?_
  refine z_callVp C zc_X7_224 [.int x1, .int x2] (fun l D tc b0 r h => m_X5_has l D tc ro b0 h) dX7_demand_9 rfl rfl (Nat.le_of_ble_eq_true rfl) (by decide) (by decide) ⟨Nat.le_of_ble_eq_true rfl, Nat.le_of_ble_eq_true rfl⟩ (fun v3 => ?_)
  refine z_if_ne C 26 dX7_demand_12 (by decide) ?_ ?_
  · exact z_throwW C CX 16 rfl zt_X7_k zt_X7_i zt_X7_a zt_X7_b zt_X7_g dX7_demand_15 dX7_demand_18 dX7_demand_19 dX7_demand_22 dX7_demand_25 (Nat.le_of_ble_eq_true rfl) (by decide) (by decide) (by decide)
  refine z_widen 1 6 (by decide) (by decide) ?_
  exact z_toX (z_returnP C dX7_demand_26)
noncomputable def f_X7_regionAround (a0 : Nat) (x1 : Int32) (hp : zHp) : Option (Option Int32) :=
  (zis hp a0 7).bind fun _ => zbx (f_X7_demand a0 (1 : Int32) x1 hp) fun _ => (zgR hp a0 7 1).bind fun r2 => (zgR hp r2 1 0).bind fun r3 => (zgR hp r3 5 2).bind fun r4 => (zaI hp 0 r4 x1).bind fun v5 => some (some v5)
set_option maxHeartbeats 4000000 in
set_option maxRecDepth 100000 in
theorem m_X7_regionAround (l : Launch) (D : va_G) (tc : Nat → ClassId) (ro : Nat → Nat) (b0 : Nat) {a0 : Nat} {x1 : Int32} {hp : zHp} {sz : Nat} {r : (Option Int32)} (hl : l.stackTraces = false) (h : f_X7_regionAround a0 x1 hp = some r) : zis hp a0 7 = some () ∧ zMx l yX7_regionAround cX7_regionAround 2 (some .int) 7 1 6 [.ref a0, .int x1] D tc ro b0 hp sz (zoP sz hp) hp r := by
  refine ⟨?_, z_startX (o := (zoP sz hp)) (lv := [(0, .ref a0), (1, .int x1)]) hl h (by decide +kernel) RX7 rfl rfl (Nat.le_of_ble_eq_true rfl) (fun P C CX => ?_)⟩
  · unfold f_X7_regionAround at h
    cases hc : zis hp a0 7 with
    | none => rw [hc] at h; cases h
    | some u => rfl
  unfold f_X7_regionAround
  refine z_is ?_
  refine z_aload_n C dX7_regionAround_0 0 rfl ?_
  refine z_iconst C dX7_regionAround_1 zi_1 ?_
  refine z_iload_n C dX7_regionAround_2 1 rfl ?_
  refine z_callVXu C CX zc_X7_99 [.int (1 : Int32), .int x1] (fun l D tc b0 r hl h => m_X7_demand l D tc ro b0 hl h) dX7_regionAround_3 rfl rfl (Nat.le_of_ble_eq_true rfl) (by decide) (by decide) (by decide) (fun _ => ?_)
  refine z_aload_n C dX7_regionAround_6 0 rfl ?_
  refine z_getR C zf_X7_19 dX7_regionAround_7 (fun r2 => ?_)
  refine z_getR C zf_X7_61 dX7_regionAround_10 (fun r3 => ?_)
  refine z_getR C zf_X7_103 dX7_regionAround_13 (fun r4 => ?_)
  refine z_iload_n C dX7_regionAround_16 1 rfl ?_
  refine z_iaload C dX7_regionAround_17 (fun v5 => ?_)
  exact z_toX (z_ireturnP C dX7_regionAround_18)
noncomputable def f_X7_regionOf (a0 : Nat) (x1 : Int32) (hp : zHp) : Option (Option Int32) :=
  (zis hp a0 7).bind fun _ => zbx (f_X7_demand a0 (2 : Int32) x1 hp) fun _ => (zgR hp a0 7 1).bind fun r2 => (zgR hp r2 1 0).bind fun r3 => (zgR hp r3 5 3).bind fun r4 => (zaI hp 0 r4 x1).bind fun v5 => some (some v5)
set_option maxHeartbeats 4000000 in
set_option maxRecDepth 100000 in
theorem m_X7_regionOf (l : Launch) (D : va_G) (tc : Nat → ClassId) (ro : Nat → Nat) (b0 : Nat) {a0 : Nat} {x1 : Int32} {hp : zHp} {sz : Nat} {r : (Option Int32)} (hl : l.stackTraces = false) (h : f_X7_regionOf a0 x1 hp = some r) : zis hp a0 7 = some () ∧ zMx l yX7_regionOf cX7_regionOf 2 (some .int) 7 1 6 [.ref a0, .int x1] D tc ro b0 hp sz (zoP sz hp) hp r := by
  refine ⟨?_, z_startX (o := (zoP sz hp)) (lv := [(0, .ref a0), (1, .int x1)]) hl h (by decide +kernel) RX7 rfl rfl (Nat.le_of_ble_eq_true rfl) (fun P C CX => ?_)⟩
  · unfold f_X7_regionOf at h
    cases hc : zis hp a0 7 with
    | none => rw [hc] at h; cases h
    | some u => rfl
  unfold f_X7_regionOf
  refine z_is ?_
  refine z_aload_n C dX7_regionOf_0 0 rfl ?_
  refine z_iconst C dX7_regionOf_1 zi_2 ?_
  refine z_iload_n C dX7_regionOf_2 1 rfl ?_
  refine z_callVXu C CX zc_X7_99 [.int (2 : Int32), .int x1] (fun l D tc b0 r hl h => m_X7_demand l D tc ro b0 hl h) dX7_regionOf_3 rfl rfl (Nat.le_of_ble_eq_true rfl) (by decide) (by decide) (by decide) (fun _ => ?_)
  refine z_aload_n C dX7_regionOf_6 0 rfl ?_
  refine z_getR C zf_X7_19 dX7_regionOf_7 (fun r2 => ?_)
  refine z_getR C zf_X7_61 dX7_regionOf_10 (fun r3 => ?_)
  refine z_getR C zf_X7_106 dX7_regionOf_13 (fun r4 => ?_)
  refine z_iload_n C dX7_regionOf_16 1 rfl ?_
  refine z_iaload C dX7_regionOf_17 (fun v5 => ?_)
  exact z_toX (z_ireturnP C dX7_regionOf_18)
noncomputable def b_X7_wardsIn_10 (k53 : Int32 → Option (Option Int32)) (a0 : Nat) (x1 : Int32) (hp : zHp) (rec : Int32 → Int32 → Option (Option Int32)) (x2 : Int32) (x3 : Int32) : Option (Option Int32) :=
  (zgR hp a0 7 1).bind fun r2 => (zgR hp r2 1 0).bind fun r3 => (zgR hp r3 5 0).bind fun r4 => (zaI hp 0 r4 (2 : Int32)).bind fun v5 => if x3 < v5 then ((zgR hp a0 7 1).bind fun r6 => (zgR hp r6 1 0).bind fun r7 => (f_X5_isWardIn r7 x3 x1 hp).bind fun v8 => if v8 = 0 then (zlet (x3 + (1 : Int32)) fun v9 => rec x2 v9) else zlet (x2 ||| ((1 : Int32) <<< (x3 &&& 31))) fun v10 => zlet (x3 + (1 : Int32)) fun v11 => rec v10 v11) else k53 x2
noncomputable def l_X7_wardsIn_10 (k53 : Int32 → Option (Option Int32)) (a0 : Nat) (x1 : Int32) (hp : zHp) (n : Nat) : Int32 → Int32 → Option (Option Int32) :=
  Nat.rec (motive := fun _ => Int32 → Int32 → Option (Option Int32)) (fun _ _ => none) (fun _ rec => b_X7_wardsIn_10 k53 a0 x1 hp rec) n
theorem l_X7_wardsIn_10_s (k53 : Int32 → Option (Option Int32)) (a0 : Nat) (x1 : Int32) (hp : zHp) (n : Nat) (x2 : Int32) (x3 : Int32) : l_X7_wardsIn_10 k53 a0 x1 hp (n + 1) x2 x3 = b_X7_wardsIn_10 k53 a0 x1 hp (l_X7_wardsIn_10 k53 a0 x1 hp n) x2 x3 := rfl
set_option maxHeartbeats 4000000 in
set_option maxRecDepth 100000 in
theorem wl_X7_wardsIn_10 {P : zX} {ro : Nat → Nat} {sz : Nat} (C : zC P cX7_wardsIn RX7 (some .int) 7 1 6 4 ro) {a0 : Nat} {x1 : Int32} {hp : zHp} {k53 : Int32 → Option (Option Int32)} (hk53 : ∀ (x2 : Int32), zGq P (zEndX P (zoP sz hp) hp) (k53 x2) 53 [(2, .int x2)] [] hp sz 1 6) : ∀ (n : Nat) (x2 : Int32) (x3 : Int32), zGq P (zEndX P (zoP sz hp) hp) (l_X7_wardsIn_10 k53 a0 x1 hp n x2 x3) 10 [(0, .ref a0), (1, .int x1), (2, .int x2), (3, .int x3)] [] hp sz 1 6 := by
  intro n
  induction n with
  | zero =>
    intro x2 x3
    show zGq P (zEndX P (zoP sz hp) hp) none _ _ _ _ _ _ _
    exact z_none
  | succ n ih =>
    intro x2 x3
    show zGq P (zEndX P (zoP sz hp) hp) (b_X7_wardsIn_10 k53 a0 x1 hp (l_X7_wardsIn_10 k53 a0 x1 hp n) x2 x3) _ _ _ _ _ _ _
    unfold b_X7_wardsIn_10
    refine z_iload_n C dX7_wardsIn_10 3 rfl ?_
    refine z_aload_n C dX7_wardsIn_11 0 rfl ?_
    refine z_getR C zf_X7_19 dX7_wardsIn_12 (fun r2 => ?_)
    refine z_getR C zf_X7_61 dX7_wardsIn_15 (fun r3 => ?_)
    refine z_getR C zf_X7_76 dX7_wardsIn_18 (fun r4 => ?_)
    refine z_iconst C dX7_wardsIn_21 zi_2 ?_
    refine z_iaload C dX7_wardsIn_22 (fun v5 => ?_)
    refine z_icmp_ge C 53 dX7_wardsIn_23 (by decide) ?_ ?_
    · refine z_aload_n C dX7_wardsIn_26 0 rfl ?_
      refine z_getR C zf_X7_19 dX7_wardsIn_27 (fun r6 => ?_)
      refine z_getR C zf_X7_61 dX7_wardsIn_30 (fun r7 => ?_)
      refine z_iload_n C dX7_wardsIn_33 3 rfl ?_
      refine z_iload_n C dX7_wardsIn_34 1 rfl ?_
      refine z_callVp C zc_X7_109 [.int x3, .int x1] (fun l D tc b0 r h => m_X5_isWardIn l D tc ro b0 h) dX7_wardsIn_35 rfl rfl (Nat.le_of_ble_eq_true rfl) (by decide) (by decide) ⟨Nat.le_of_ble_eq_true rfl, Nat.le_of_ble_eq_true rfl⟩ (fun v8 => ?_)
      refine z_if_eq C 47 dX7_wardsIn_38 (by decide) ?_ ?_
      · refine z_iincL C 3 (fun v9 => [(0, .ref a0), (1, .int x1), (2, .int x2), (3, .int v9)]) dX7_wardsIn_47 rfl zi_1 (by decide) (fun _ => rfl) (fun v9 => ?_)
        refine z_goto C 10 dX7_wardsIn_50 (by decide) ?_
        exact ih _ _
      refine z_iload_n C dX7_wardsIn_41 2 rfl ?_
      refine z_iconst C dX7_wardsIn_42 zi_1 ?_
      refine z_iload_n C dX7_wardsIn_43 3 rfl ?_
      refine z_ishl C dX7_wardsIn_44 ?_
      refine z_ior C dX7_wardsIn_45 ?_
      refine z_istore_nL C (fun v10 => [(0, .ref a0), (1, .int x1), (2, .int v10), (3, .int x3)]) dX7_wardsIn_46 (by decide) (fun _ => rfl) (fun v10 => ?_)
      refine z_iincL C 3 (fun v11 => [(0, .ref a0), (1, .int x1), (2, .int v10), (3, .int v11)]) dX7_wardsIn_47 rfl zi_1 (by decide) (fun _ => rfl) (fun v11 => ?_)
      refine z_goto C 10 dX7_wardsIn_50 (by decide) ?_
      exact ih _ _
    exact z_sub [2] rfl (hk53 _)
noncomputable def f_X7_wardsIn (a0 : Nat) (x1 : Int32) (hp : zHp) : Option (Option Int32) :=
  (zis hp a0 7).bind fun _ => zbx (f_X7_demand a0 (1 : Int32) x1 hp) fun _ => l_X7_wardsIn_10 (fun p12 => some (some p12)) a0 x1 hp 1000000 (0 : Int32) (0 : Int32)
set_option maxHeartbeats 4000000 in
set_option maxRecDepth 100000 in
theorem m_X7_wardsIn (l : Launch) (D : va_G) (tc : Nat → ClassId) (ro : Nat → Nat) (b0 : Nat) {a0 : Nat} {x1 : Int32} {hp : zHp} {sz : Nat} {r : (Option Int32)} (hl : l.stackTraces = false) (h : f_X7_wardsIn a0 x1 hp = some r) : zis hp a0 7 = some () ∧ zMx l yX7_wardsIn cX7_wardsIn 4 (some .int) 7 1 6 [.ref a0, .int x1] D tc ro b0 hp sz (zoP sz hp) hp r := by
  refine ⟨?_, z_startX (o := (zoP sz hp)) (lv := [(0, .ref a0), (1, .int x1)]) hl h (by decide +kernel) RX7 rfl rfl (Nat.le_of_ble_eq_true rfl) (fun P C CX => ?_)⟩
  · unfold f_X7_wardsIn at h
    cases hc : zis hp a0 7 with
    | none => rw [hc] at h; cases h
    | some u => rfl
  unfold f_X7_wardsIn
  refine z_is ?_
  refine z_aload_n C dX7_wardsIn_0 0 rfl ?_
  refine z_iconst C dX7_wardsIn_1 zi_1 ?_
  refine z_iload_n C dX7_wardsIn_2 1 rfl ?_
  refine z_callVXu C CX zc_X7_99 [.int (1 : Int32), .int x1] (fun l D tc b0 r hl h => m_X7_demand l D tc ro b0 hl h) dX7_wardsIn_3 rfl rfl (Nat.le_of_ble_eq_true rfl) (by decide) (by decide) (by decide) (fun _ => ?_)
  refine z_iconst C dX7_wardsIn_6 zi_0 ?_
  refine z_istore_n (lv' := [(0, .ref a0), (1, .int x1), (2, .int (0 : Int32))]) C dX7_wardsIn_7 (by decide) rfl ?_
  refine z_iconst C dX7_wardsIn_8 zi_0 ?_
  refine z_istore_n (lv' := [(0, .ref a0), (1, .int x1), (2, .int (0 : Int32)), (3, .int (0 : Int32))]) C dX7_wardsIn_9 (by decide) rfl ?_
  refine wl_X7_wardsIn_10 C (fun p12 => ?_) _ _ _
  refine z_iload_n C dX7_wardsIn_53 0 rfl ?_
  exact z_toX (z_ireturnP C dX7_wardsIn_54)
noncomputable def f_X7_depthOf (a0 : Nat) (x1 : Int32) (hp : zHp) : Option (Option Int32) :=
  (zis hp a0 7).bind fun _ => zbx (f_X7_demand a0 (1 : Int32) x1 hp) fun _ => (zgR hp a0 7 1).bind fun r2 => (zgR hp r2 1 0).bind fun r3 => (f_X5_regionsAround r3 x1 hp).bind fun v4 => some (some v4)
set_option maxHeartbeats 4000000 in
set_option maxRecDepth 100000 in
theorem m_X7_depthOf (l : Launch) (D : va_G) (tc : Nat → ClassId) (ro : Nat → Nat) (b0 : Nat) {a0 : Nat} {x1 : Int32} {hp : zHp} {sz : Nat} {r : (Option Int32)} (hl : l.stackTraces = false) (h : f_X7_depthOf a0 x1 hp = some r) : zis hp a0 7 = some () ∧ zMx l yX7_depthOf cX7_depthOf 2 (some .int) 7 1 6 [.ref a0, .int x1] D tc ro b0 hp sz (zoP sz hp) hp r := by
  refine ⟨?_, z_startX (o := (zoP sz hp)) (lv := [(0, .ref a0), (1, .int x1)]) hl h (by decide +kernel) RX7 rfl rfl (Nat.le_of_ble_eq_true rfl) (fun P C CX => ?_)⟩
  · unfold f_X7_depthOf at h
    cases hc : zis hp a0 7 with
    | none => rw [hc] at h; cases h
    | some u => rfl
  unfold f_X7_depthOf
  refine z_is ?_
  refine z_aload_n C dX7_depthOf_0 0 rfl ?_
  refine z_iconst C dX7_depthOf_1 zi_1 ?_
  refine z_iload_n C dX7_depthOf_2 1 rfl ?_
  refine z_callVXu C CX zc_X7_99 [.int (1 : Int32), .int x1] (fun l D tc b0 r hl h => m_X7_demand l D tc ro b0 hl h) dX7_depthOf_3 rfl rfl (Nat.le_of_ble_eq_true rfl) (by decide) (by decide) (by decide) (fun _ => ?_)
  refine z_aload_n C dX7_depthOf_6 0 rfl ?_
  refine z_getR C zf_X7_19 dX7_depthOf_7 (fun r2 => ?_)
  refine z_getR C zf_X7_61 dX7_depthOf_10 (fun r3 => ?_)
  refine z_iload_n C dX7_depthOf_13 1 rfl ?_
  refine z_callVp C zc_X7_113 [.int x1] (fun l D tc b0 r h => m_X5_regionsAround l D tc ro b0 h) dX7_depthOf_14 rfl rfl (Nat.le_of_ble_eq_true rfl) (by decide) (by decide) ⟨Nat.le_of_ble_eq_true rfl, Nat.le_of_ble_eq_true rfl⟩ (fun v4 => ?_)
  exact z_toX (z_ireturnP C dX7_depthOf_17)
noncomputable def f_X7_boxProperty (a0 : Nat) (x1 : Int32) (x2 : Int32) (hp : zHp) : Option (Option Int32) :=
  (zis hp a0 7).bind fun _ => zbx (f_X7_demand a0 (3 : Int32) x1 hp) fun _ => if x2 = (0 : Int32) then ((zgR hp a0 7 1).bind fun r2 => (zgR hp r2 1 0).bind fun r3 => (zgR hp r3 5 4).bind fun r4 => (zaI hp 0 r4 x1).bind fun v5 => some (some v5)) else if x2 = (1 : Int32) then ((zgR hp a0 7 1).bind fun r7 => (zgR hp r7 1 0).bind fun r8 => (zgR hp r8 5 5).bind fun r9 => (zaI hp 0 r9 x1).bind fun v10 => some (some v10)) else if x2 = (2 : Int32) then ((zgR hp a0 7 1).bind fun r12 => (zgR hp r12 1 1).bind fun r13 => (zgR hp r13 6 0).bind fun r14 => (zaR hp 3 r14 x1).bind fun r15 => (zgI hp r15 0 1).bind fun v16 => some (some v16)) else if x2 = (3 : Int32) then ((zgR hp a0 7 1).bind fun r18 => (zgR hp r18 1 1).bind fun r19 => (zgR hp r19 6 0).bind fun r20 => (zaR hp 3 r20 x1).bind fun r21 => (zgI hp r21 0 3).bind fun v22 => some (some v22)) else some (some (-2 : Int32))
set_option maxHeartbeats 4000000 in
set_option maxRecDepth 100000 in
theorem m_X7_boxProperty (l : Launch) (D : va_G) (tc : Nat → ClassId) (ro : Nat → Nat) (b0 : Nat) {a0 : Nat} {x1 : Int32} {x2 : Int32} {hp : zHp} {sz : Nat} {r : (Option Int32)} (hl : l.stackTraces = false) (h : f_X7_boxProperty a0 x1 x2 hp = some r) : zis hp a0 7 = some () ∧ zMx l yX7_boxProperty cX7_boxProperty 3 (some .int) 7 1 6 [.ref a0, .int x1, .int x2] D tc ro b0 hp sz (zoP sz hp) hp r := by
  refine ⟨?_, z_startX (o := (zoP sz hp)) (lv := [(0, .ref a0), (1, .int x1), (2, .int x2)]) hl h (by decide +kernel) RX7 rfl rfl (Nat.le_of_ble_eq_true rfl) (fun P C CX => ?_)⟩
  · unfold f_X7_boxProperty at h
    cases hc : zis hp a0 7 with
    | none => rw [hc] at h; cases h
    | some u => rfl
  unfold f_X7_boxProperty
  refine z_is ?_
  refine z_aload_n C dX7_boxProperty_0 0 rfl ?_
  refine z_iconst C dX7_boxProperty_1 zi_3 ?_
  refine z_iload_n C dX7_boxProperty_2 1 rfl ?_
  refine z_callVXu C CX zc_X7_99 [.int (3 : Int32), .int x1] (fun l D tc b0 r hl h => m_X7_demand l D tc ro b0 hl h) dX7_boxProperty_3 rfl rfl (Nat.le_of_ble_eq_true rfl) (by decide) (by decide) (by decide) (fun _ => ?_)
  refine z_iload_n C dX7_boxProperty_6 2 rfl ?_
  refine z_case (off := 29) C (0 : Int32) 36 dX7_boxProperty_7 (by decide) (by decide) (by decide) (by decide) ?_ (fun n6 => ?_)
  · refine z_aload_n C dX7_boxProperty_36 0 rfl ?_
    refine z_getR C zf_X7_19 dX7_boxProperty_37 (fun r2 => ?_)
    refine z_getR C zf_X7_61 dX7_boxProperty_40 (fun r3 => ?_)
    refine z_getR C zf_X7_116 dX7_boxProperty_43 (fun r4 => ?_)
    refine z_iload_n C dX7_boxProperty_46 1 rfl ?_
    refine z_iaload C dX7_boxProperty_47 (fun v5 => ?_)
    exact z_toX (z_ireturnP C dX7_boxProperty_48)
  refine z_case (off := 42) C (1 : Int32) 49 dX7_boxProperty_7 (by decide) (by decide) (by decide) (by decide) ?_ (fun n11 => ?_)
  · refine z_aload_n C dX7_boxProperty_49 0 rfl ?_
    refine z_getR C zf_X7_19 dX7_boxProperty_50 (fun r7 => ?_)
    refine z_getR C zf_X7_61 dX7_boxProperty_53 (fun r8 => ?_)
    refine z_getR C zf_X7_119 dX7_boxProperty_56 (fun r9 => ?_)
    refine z_iload_n C dX7_boxProperty_59 1 rfl ?_
    refine z_iaload C dX7_boxProperty_60 (fun v10 => ?_)
    exact z_toX (z_ireturnP C dX7_boxProperty_61)
  refine z_case (off := 55) C (2 : Int32) 62 dX7_boxProperty_7 (by decide) (by decide) (by decide) (by decide) ?_ (fun n17 => ?_)
  · refine z_aload_n C dX7_boxProperty_62 0 rfl ?_
    refine z_getR C zf_X7_19 dX7_boxProperty_63 (fun r12 => ?_)
    refine z_getR C zf_X7_90 dX7_boxProperty_66 (fun r13 => ?_)
    refine z_getR C zf_X7_122 dX7_boxProperty_69 (fun r14 => ?_)
    refine z_iload_n C dX7_boxProperty_72 1 rfl ?_
    refine z_aaload (t := 3) (ty := .object "CountHall$Box") C (fun _ => rfl) rfl (by decide) dX7_boxProperty_73 (fun r15 => ?_)
    refine z_getI C zf_X7_126 dX7_boxProperty_74 (fun v16 => ?_)
    exact z_toX (z_ireturnP C dX7_boxProperty_77)
  refine z_case (off := 71) C (3 : Int32) 78 dX7_boxProperty_7 (by decide) (by decide) (by decide) (by decide) ?_ (fun n23 => ?_)
  · refine z_aload_n C dX7_boxProperty_78 0 rfl ?_
    refine z_getR C zf_X7_19 dX7_boxProperty_79 (fun r18 => ?_)
    refine z_getR C zf_X7_90 dX7_boxProperty_82 (fun r19 => ?_)
    refine z_getR C zf_X7_122 dX7_boxProperty_85 (fun r20 => ?_)
    refine z_iload_n C dX7_boxProperty_88 1 rfl ?_
    refine z_aaload (t := 3) (ty := .object "CountHall$Box") C (fun _ => rfl) rfl (by decide) dX7_boxProperty_89 (fun r21 => ?_)
    refine z_getI C zf_X7_131 dX7_boxProperty_90 (fun v22 => ?_)
    exact z_toX (z_ireturnP C dX7_boxProperty_93)
  refine z_dflt C 94 dX7_boxProperty_7 (by have t0 := lv_neT n6 (show (0 : Int32).toInt = 0 by decide); have t1 := lv_neT n11 (show (1 : Int32).toInt = 1 by decide); have t2 := lv_neT n17 (show (2 : Int32).toInt = 2 by decide); have t3 := lv_neT n23 (show (3 : Int32).toInt = 3 by decide); omega) (by decide) ?_
  refine z_bipush C dX7_boxProperty_94 zbi_m2 ?_
  exact z_toX (z_ireturnP C dX7_boxProperty_96)
noncomputable def f_X7_placeOf (a0 : Nat) (x1 : Int32) (hp : zHp) : Option (Option Int32) :=
  (zis hp a0 7).bind fun _ => zbx (f_X7_demand a0 (3 : Int32) x1 hp) fun _ => (zgR hp a0 7 1).bind fun r2 => (zgR hp r2 1 1).bind fun r3 => (zgR hp r3 6 0).bind fun r4 => (zaR hp 3 r4 x1).bind fun r5 => (zgI hp r5 0 0).bind fun v6 => some (some v6)
set_option maxHeartbeats 4000000 in
set_option maxRecDepth 100000 in
theorem m_X7_placeOf (l : Launch) (D : va_G) (tc : Nat → ClassId) (ro : Nat → Nat) (b0 : Nat) {a0 : Nat} {x1 : Int32} {hp : zHp} {sz : Nat} {r : (Option Int32)} (hl : l.stackTraces = false) (h : f_X7_placeOf a0 x1 hp = some r) : zis hp a0 7 = some () ∧ zMx l yX7_placeOf cX7_placeOf 2 (some .int) 7 1 6 [.ref a0, .int x1] D tc ro b0 hp sz (zoP sz hp) hp r := by
  refine ⟨?_, z_startX (o := (zoP sz hp)) (lv := [(0, .ref a0), (1, .int x1)]) hl h (by decide +kernel) RX7 rfl rfl (Nat.le_of_ble_eq_true rfl) (fun P C CX => ?_)⟩
  · unfold f_X7_placeOf at h
    cases hc : zis hp a0 7 with
    | none => rw [hc] at h; cases h
    | some u => rfl
  unfold f_X7_placeOf
  refine z_is ?_
  refine z_aload_n C dX7_placeOf_0 0 rfl ?_
  refine z_iconst C dX7_placeOf_1 zi_3 ?_
  refine z_iload_n C dX7_placeOf_2 1 rfl ?_
  refine z_callVXu C CX zc_X7_99 [.int (3 : Int32), .int x1] (fun l D tc b0 r hl h => m_X7_demand l D tc ro b0 hl h) dX7_placeOf_3 rfl rfl (Nat.le_of_ble_eq_true rfl) (by decide) (by decide) (by decide) (fun _ => ?_)
  refine z_aload_n C dX7_placeOf_6 0 rfl ?_
  refine z_getR C zf_X7_19 dX7_placeOf_7 (fun r2 => ?_)
  refine z_getR C zf_X7_90 dX7_placeOf_10 (fun r3 => ?_)
  refine z_getR C zf_X7_122 dX7_placeOf_13 (fun r4 => ?_)
  refine z_iload_n C dX7_placeOf_16 1 rfl ?_
  refine z_aaload (t := 3) (ty := .object "CountHall$Box") C (fun _ => rfl) rfl (by decide) dX7_placeOf_17 (fun r5 => ?_)
  refine z_getI C zf_X7_134 dX7_placeOf_18 (fun v6 => ?_)
  exact z_toX (z_ireturnP C dX7_placeOf_21)
noncomputable def f_X7_papers (a0 : Nat) (x1 : Int32) (x2 : Int32) (hp : zHp) : Option (Option Int32) :=
  (zis hp a0 7).bind fun _ => zbx (f_X7_demand a0 (3 : Int32) x1 hp) fun _ => (zgR hp a0 7 1).bind fun r2 => (zgR hp r2 1 0).bind fun r3 => (f_X5_hasPile r3 x2 hp).bind fun v4 => if v4 = 0 then (some (some (-2 : Int32))) else (zgR hp a0 7 1).bind fun r5 => (zgR hp r5 1 0).bind fun r6 => (zgR hp r6 5 7).bind fun r7 => (zaR hp 5 r7 x1).bind fun r8 => (zaI hp 0 r8 x2).bind fun v9 => some (some v9)
set_option maxHeartbeats 4000000 in
set_option maxRecDepth 100000 in
theorem m_X7_papers (l : Launch) (D : va_G) (tc : Nat → ClassId) (ro : Nat → Nat) (b0 : Nat) {a0 : Nat} {x1 : Int32} {x2 : Int32} {hp : zHp} {sz : Nat} {r : (Option Int32)} (hl : l.stackTraces = false) (h : f_X7_papers a0 x1 x2 hp = some r) : zis hp a0 7 = some () ∧ zMx l yX7_papers cX7_papers 3 (some .int) 7 1 6 [.ref a0, .int x1, .int x2] D tc ro b0 hp sz (zoP sz hp) hp r := by
  refine ⟨?_, z_startX (o := (zoP sz hp)) (lv := [(0, .ref a0), (1, .int x1), (2, .int x2)]) hl h (by decide +kernel) RX7 rfl rfl (Nat.le_of_ble_eq_true rfl) (fun P C CX => ?_)⟩
  · unfold f_X7_papers at h
    cases hc : zis hp a0 7 with
    | none => rw [hc] at h; cases h
    | some u => rfl
  unfold f_X7_papers
  refine z_is ?_
  refine z_aload_n C dX7_papers_0 0 rfl ?_
  refine z_iconst C dX7_papers_1 zi_3 ?_
  refine z_iload_n C dX7_papers_2 1 rfl ?_
  refine z_callVXu C CX zc_X7_99 [.int (3 : Int32), .int x1] (fun l D tc b0 r hl h => m_X7_demand l D tc ro b0 hl h) dX7_papers_3 rfl rfl (Nat.le_of_ble_eq_true rfl) (by decide) (by decide) (by decide) (fun _ => ?_)
  refine z_aload_n C dX7_papers_6 0 rfl ?_
  refine z_getR C zf_X7_19 dX7_papers_7 (fun r2 => ?_)
  refine z_getR C zf_X7_61 dX7_papers_10 (fun r3 => ?_)
  refine z_iload_n C dX7_papers_13 2 rfl ?_
  refine z_callVp C zc_X7_137 [.int x2] (fun l D tc b0 r h => m_X5_hasPile l D tc ro b0 h) dX7_papers_14 rfl rfl (Nat.le_of_ble_eq_true rfl) (by decide) (by decide) ⟨Nat.le_of_ble_eq_true rfl, Nat.le_of_ble_eq_true rfl⟩ (fun v4 => ?_)
  refine z_if_eq C 37 dX7_papers_17 (by decide) ?_ ?_
  · refine z_bipush C dX7_papers_37 zbi_m2 ?_
    exact z_toX (z_ireturnP C dX7_papers_39)
  refine z_aload_n C dX7_papers_20 0 rfl ?_
  refine z_getR C zf_X7_19 dX7_papers_21 (fun r5 => ?_)
  refine z_getR C zf_X7_61 dX7_papers_24 (fun r6 => ?_)
  refine z_getR C zf_X7_140 dX7_papers_27 (fun r7 => ?_)
  refine z_iload_n C dX7_papers_30 1 rfl ?_
  refine z_aaload (t := 5) (ty := .array .int) C (fun _ => rfl) rfl (by decide) dX7_papers_31 (fun r8 => ?_)
  refine z_iload_n C dX7_papers_32 2 rfl ?_
  refine z_iaload C dX7_papers_33 (fun v9 => ?_)
  refine z_goto C 39 dX7_papers_34 (by decide) ?_
  exact z_toX (z_ireturnP C dX7_papers_39)
noncomputable def f_X7_isSealGood (a0 : Nat) (x1 : Int32) (hp : zHp) : Option (Option Int32) :=
  (zis hp a0 7).bind fun _ => zbx (f_X7_demand a0 (3 : Int32) x1 hp) fun _ => (zgR hp a0 7 1).bind fun r2 => (zgR hp r2 1 1).bind fun r3 => (zgR hp r3 6 0).bind fun r4 => (zaR hp 3 r4 x1).bind fun r5 => (f_X0_bearsGoodSeal r5 hp).bind fun v6 => (zrNp .boolean v6).bind fun x => some (some x)
set_option maxHeartbeats 4000000 in
set_option maxRecDepth 100000 in
theorem m_X7_isSealGood (l : Launch) (D : va_G) (tc : Nat → ClassId) (ro : Nat → Nat) (b0 : Nat) {a0 : Nat} {x1 : Int32} {hp : zHp} {sz : Nat} {r : (Option Int32)} (hl : l.stackTraces = false) (h : f_X7_isSealGood a0 x1 hp = some r) : zis hp a0 7 = some () ∧ zMx l yX7_isSealGood cX7_isSealGood 2 (some .boolean) 7 1 6 [.ref a0, .int x1] D tc ro b0 hp sz (zoP sz hp) hp r := by
  refine ⟨?_, z_startX (o := (zoP sz hp)) (lv := [(0, .ref a0), (1, .int x1)]) hl h (by decide +kernel) RX7 rfl rfl (Nat.le_of_ble_eq_true rfl) (fun P C CX => ?_)⟩
  · unfold f_X7_isSealGood at h
    cases hc : zis hp a0 7 with
    | none => rw [hc] at h; cases h
    | some u => rfl
  unfold f_X7_isSealGood
  refine z_is ?_
  refine z_aload_n C dX7_isSealGood_0 0 rfl ?_
  refine z_iconst C dX7_isSealGood_1 zi_3 ?_
  refine z_iload_n C dX7_isSealGood_2 1 rfl ?_
  refine z_callVXu C CX zc_X7_99 [.int (3 : Int32), .int x1] (fun l D tc b0 r hl h => m_X7_demand l D tc ro b0 hl h) dX7_isSealGood_3 rfl rfl (Nat.le_of_ble_eq_true rfl) (by decide) (by decide) (by decide) (fun _ => ?_)
  refine z_aload_n C dX7_isSealGood_6 0 rfl ?_
  refine z_getR C zf_X7_19 dX7_isSealGood_7 (fun r2 => ?_)
  refine z_getR C zf_X7_90 dX7_isSealGood_10 (fun r3 => ?_)
  refine z_getR C zf_X7_122 dX7_isSealGood_13 (fun r4 => ?_)
  refine z_iload_n C dX7_isSealGood_16 1 rfl ?_
  refine z_aaload (t := 3) (ty := .object "CountHall$Box") C (fun _ => rfl) rfl (by decide) dX7_isSealGood_17 (fun r5 => ?_)
  refine z_callVp C zc_X7_144 [] (fun l D tc b0 r h => m_X0_bearsGoodSeal l D tc ro b0 h) dX7_isSealGood_18 rfl rfl (Nat.le_of_ble_eq_true rfl) (by decide) (by decide) ⟨Nat.le_of_ble_eq_true rfl, Nat.le_of_ble_eq_true rfl⟩ (fun v6 => ?_)
  exact z_toXo (z_nreturnP C (by simp) dX7_isSealGood_21)
noncomputable def f_X7_ledgerSize (a0 : Nat) (x1 : Int32) (hp : zHp) : Option (Option Int32) :=
  (zis hp a0 7).bind fun _ => zbx (f_X7_demand a0 (3 : Int32) x1 hp) fun _ => (zgR hp a0 7 1).bind fun r2 => (zgR hp r2 1 1).bind fun r3 => (zgR hp r3 6 0).bind fun r4 => (zaR hp 3 r4 x1).bind fun r5 => (zgI hp r5 0 2).bind fun v6 => some (some v6)
set_option maxHeartbeats 4000000 in
set_option maxRecDepth 100000 in
theorem m_X7_ledgerSize (l : Launch) (D : va_G) (tc : Nat → ClassId) (ro : Nat → Nat) (b0 : Nat) {a0 : Nat} {x1 : Int32} {hp : zHp} {sz : Nat} {r : (Option Int32)} (hl : l.stackTraces = false) (h : f_X7_ledgerSize a0 x1 hp = some r) : zis hp a0 7 = some () ∧ zMx l yX7_ledgerSize cX7_ledgerSize 2 (some .int) 7 1 6 [.ref a0, .int x1] D tc ro b0 hp sz (zoP sz hp) hp r := by
  refine ⟨?_, z_startX (o := (zoP sz hp)) (lv := [(0, .ref a0), (1, .int x1)]) hl h (by decide +kernel) RX7 rfl rfl (Nat.le_of_ble_eq_true rfl) (fun P C CX => ?_)⟩
  · unfold f_X7_ledgerSize at h
    cases hc : zis hp a0 7 with
    | none => rw [hc] at h; cases h
    | some u => rfl
  unfold f_X7_ledgerSize
  refine z_is ?_
  refine z_aload_n C dX7_ledgerSize_0 0 rfl ?_
  refine z_iconst C dX7_ledgerSize_1 zi_3 ?_
  refine z_iload_n C dX7_ledgerSize_2 1 rfl ?_
  refine z_callVXu C CX zc_X7_99 [.int (3 : Int32), .int x1] (fun l D tc b0 r hl h => m_X7_demand l D tc ro b0 hl h) dX7_ledgerSize_3 rfl rfl (Nat.le_of_ble_eq_true rfl) (by decide) (by decide) (by decide) (fun _ => ?_)
  refine z_aload_n C dX7_ledgerSize_6 0 rfl ?_
  refine z_getR C zf_X7_19 dX7_ledgerSize_7 (fun r2 => ?_)
  refine z_getR C zf_X7_90 dX7_ledgerSize_10 (fun r3 => ?_)
  refine z_getR C zf_X7_122 dX7_ledgerSize_13 (fun r4 => ?_)
  refine z_iload_n C dX7_ledgerSize_16 1 rfl ?_
  refine z_aaload (t := 3) (ty := .object "CountHall$Box") C (fun _ => rfl) rfl (by decide) dX7_ledgerSize_17 (fun r5 => ?_)
  refine z_getI C zf_X7_148 dX7_ledgerSize_18 (fun v6 => ?_)
  exact z_toX (z_ireturnP C dX7_ledgerSize_21)
noncomputable def f_X7_ledger (a0 : Nat) (x1 : Int32) (x2 : Int32) (hp : zHp) : Option (Option Int32) :=
  (zis hp a0 7).bind fun _ => zbx (f_X7_demand a0 (3 : Int32) x1 hp) fun _ => (zgR hp a0 7 1).bind fun r2 => (zgR hp r2 1 1).bind fun r3 => (zgR hp r3 6 0).bind fun r4 => (zaR hp 3 r4 x1).bind fun r5 => if x2 < 0 then (some (some (-1 : Int32))) else (zgI hp r5 0 2).bind fun v6 => if x2 < v6 then ((zgR hp r5 0 6).bind fun r7 => (zaI hp 0 r7 x2).bind fun v8 => some (some v8)) else some (some (-1 : Int32))
set_option maxHeartbeats 4000000 in
set_option maxRecDepth 100000 in
theorem m_X7_ledger (l : Launch) (D : va_G) (tc : Nat → ClassId) (ro : Nat → Nat) (b0 : Nat) {a0 : Nat} {x1 : Int32} {x2 : Int32} {hp : zHp} {sz : Nat} {r : (Option Int32)} (hl : l.stackTraces = false) (h : f_X7_ledger a0 x1 x2 hp = some r) : zis hp a0 7 = some () ∧ zMx l yX7_ledger cX7_ledger 4 (some .int) 7 1 6 [.ref a0, .int x1, .int x2] D tc ro b0 hp sz (zoP sz hp) hp r := by
  refine ⟨?_, z_startX (o := (zoP sz hp)) (lv := [(0, .ref a0), (1, .int x1), (2, .int x2)]) hl h (by decide +kernel) RX7 rfl rfl (Nat.le_of_ble_eq_true rfl) (fun P C CX => ?_)⟩
  · unfold f_X7_ledger at h
    cases hc : zis hp a0 7 with
    | none => rw [hc] at h; cases h
    | some u => rfl
  unfold f_X7_ledger
  refine z_is ?_
  refine z_aload_n C dX7_ledger_0 0 rfl ?_
  refine z_iconst C dX7_ledger_1 zi_3 ?_
  refine z_iload_n C dX7_ledger_2 1 rfl ?_
  refine z_callVXu C CX zc_X7_99 [.int (3 : Int32), .int x1] (fun l D tc b0 r hl h => m_X7_demand l D tc ro b0 hl h) dX7_ledger_3 rfl rfl (Nat.le_of_ble_eq_true rfl) (by decide) (by decide) (by decide) (fun _ => ?_)
  refine z_aload_n C dX7_ledger_6 0 rfl ?_
  refine z_getR C zf_X7_19 dX7_ledger_7 (fun r2 => ?_)
  refine z_getR C zf_X7_90 dX7_ledger_10 (fun r3 => ?_)
  refine z_getR C zf_X7_122 dX7_ledger_13 (fun r4 => ?_)
  refine z_iload_n C dX7_ledger_16 1 rfl ?_
  refine z_aaload (t := 3) (ty := .object "CountHall$Box") C (fun _ => rfl) rfl (by decide) dX7_ledger_17 (fun r5 => ?_)
  refine z_astore_n (lv' := [(0, .ref a0), (1, .int x1), (2, .int x2), (3, .ref r5)]) C dX7_ledger_18 (by decide) rfl ?_
  refine z_iload_n C dX7_ledger_19 2 rfl ?_
  refine z_if_lt C 40 dX7_ledger_20 (by decide) ?_ ?_
  · refine z_iconst C dX7_ledger_40 zi_m1 ?_
    exact z_toX (z_ireturnP C dX7_ledger_41)
  refine z_iload_n C dX7_ledger_23 2 rfl ?_
  refine z_aload_n C dX7_ledger_24 3 rfl ?_
  refine z_getI C zf_X7_148 dX7_ledger_25 (fun v6 => ?_)
  refine z_icmp_ge C 40 dX7_ledger_28 (by decide) ?_ ?_
  · refine z_aload_n C dX7_ledger_31 3 rfl ?_
    refine z_getR C zf_X7_151 dX7_ledger_32 (fun r7 => ?_)
    refine z_iload_n C dX7_ledger_35 2 rfl ?_
    refine z_iaload C dX7_ledger_36 (fun v8 => ?_)
    refine z_goto C 41 dX7_ledger_37 (by decide) ?_
    exact z_toX (z_ireturnP C dX7_ledger_41)
  refine z_iconst C dX7_ledger_40 zi_m1 ?_
  exact z_toX (z_ireturnP C dX7_ledger_41)
noncomputable def f_X7_boxAt (a0 : Nat) (x1 : Int32) (hp : zHp) : Option (Option Int32) :=
  (zis hp a0 7).bind fun _ => zbx (f_X7_demand a0 (4 : Int32) x1 hp) fun _ => (zgR hp a0 7 1).bind fun r2 => (f_X1_boxOn r2 x1 hp).bind fun v3 => some (some v3)
set_option maxHeartbeats 4000000 in
set_option maxRecDepth 100000 in
theorem m_X7_boxAt (l : Launch) (D : va_G) (tc : Nat → ClassId) (ro : Nat → Nat) (b0 : Nat) {a0 : Nat} {x1 : Int32} {hp : zHp} {sz : Nat} {r : (Option Int32)} (hl : l.stackTraces = false) (h : f_X7_boxAt a0 x1 hp = some r) : zis hp a0 7 = some () ∧ zMx l yX7_boxAt cX7_boxAt 2 (some .int) 7 1 6 [.ref a0, .int x1] D tc ro b0 hp sz (zoP sz hp) hp r := by
  refine ⟨?_, z_startX (o := (zoP sz hp)) (lv := [(0, .ref a0), (1, .int x1)]) hl h (by decide +kernel) RX7 rfl rfl (Nat.le_of_ble_eq_true rfl) (fun P C CX => ?_)⟩
  · unfold f_X7_boxAt at h
    cases hc : zis hp a0 7 with
    | none => rw [hc] at h; cases h
    | some u => rfl
  unfold f_X7_boxAt
  refine z_is ?_
  refine z_aload_n C dX7_boxAt_0 0 rfl ?_
  refine z_iconst C dX7_boxAt_1 zi_4 ?_
  refine z_iload_n C dX7_boxAt_2 1 rfl ?_
  refine z_callVXu C CX zc_X7_99 [.int (4 : Int32), .int x1] (fun l D tc b0 r hl h => m_X7_demand l D tc ro b0 hl h) dX7_boxAt_3 rfl rfl (Nat.le_of_ble_eq_true rfl) (by decide) (by decide) (by decide) (fun _ => ?_)
  refine z_aload_n C dX7_boxAt_6 0 rfl ?_
  refine z_getR C zf_X7_19 dX7_boxAt_7 (fun r2 => ?_)
  refine z_iload_n C dX7_boxAt_10 1 rfl ?_
  refine z_callVp C zc_X7_154 [.int x1] (fun l D tc b0 r h => m_X1_boxOn l D tc ro b0 h) dX7_boxAt_11 rfl rfl (Nat.le_of_ble_eq_true rfl) (by decide) (by decide) ⟨Nat.le_of_ble_eq_true rfl, Nat.le_of_ble_eq_true rfl⟩ (fun v3 => ?_)
  exact z_toX (z_ireturnP C dX7_boxAt_14)
noncomputable def f_X7_slipOf (a0 : Nat) (x1 : Int32) (hp : zHp) : Option (Option Int32) :=
  (zis hp a0 7).bind fun _ => zbx (f_X7_demand a0 (4 : Int32) x1 hp) fun _ => (zgR hp a0 7 1).bind fun r2 => (zgR hp r2 1 0).bind fun r3 => (zgR hp r3 5 8).bind fun r4 => (zaI hp 0 r4 x1).bind fun v5 => some (some v5)
set_option maxHeartbeats 4000000 in
set_option maxRecDepth 100000 in
theorem m_X7_slipOf (l : Launch) (D : va_G) (tc : Nat → ClassId) (ro : Nat → Nat) (b0 : Nat) {a0 : Nat} {x1 : Int32} {hp : zHp} {sz : Nat} {r : (Option Int32)} (hl : l.stackTraces = false) (h : f_X7_slipOf a0 x1 hp = some r) : zis hp a0 7 = some () ∧ zMx l yX7_slipOf cX7_slipOf 2 (some .int) 7 1 6 [.ref a0, .int x1] D tc ro b0 hp sz (zoP sz hp) hp r := by
  refine ⟨?_, z_startX (o := (zoP sz hp)) (lv := [(0, .ref a0), (1, .int x1)]) hl h (by decide +kernel) RX7 rfl rfl (Nat.le_of_ble_eq_true rfl) (fun P C CX => ?_)⟩
  · unfold f_X7_slipOf at h
    cases hc : zis hp a0 7 with
    | none => rw [hc] at h; cases h
    | some u => rfl
  unfold f_X7_slipOf
  refine z_is ?_
  refine z_aload_n C dX7_slipOf_0 0 rfl ?_
  refine z_iconst C dX7_slipOf_1 zi_4 ?_
  refine z_iload_n C dX7_slipOf_2 1 rfl ?_
  refine z_callVXu C CX zc_X7_99 [.int (4 : Int32), .int x1] (fun l D tc b0 r hl h => m_X7_demand l D tc ro b0 hl h) dX7_slipOf_3 rfl rfl (Nat.le_of_ble_eq_true rfl) (by decide) (by decide) (by decide) (fun _ => ?_)
  refine z_aload_n C dX7_slipOf_6 0 rfl ?_
  refine z_getR C zf_X7_19 dX7_slipOf_7 (fun r2 => ?_)
  refine z_getR C zf_X7_61 dX7_slipOf_10 (fun r3 => ?_)
  refine z_getR C zf_X7_157 dX7_slipOf_13 (fun r4 => ?_)
  refine z_iload_n C dX7_slipOf_16 1 rfl ?_
  refine z_iaload C dX7_slipOf_17 (fun v5 => ?_)
  exact z_toX (z_ireturnP C dX7_slipOf_18)
noncomputable def f_X7_counted (a0 : Nat) (x1 : Int32) (x2 : Int32) (x3 : Int32) (hp : zHp) : Option (Option Int32) :=
  (zis hp a0 7).bind fun _ => zbx (f_X7_demand a0 (3 : Int32) x1 hp) fun _ => (zgR hp a0 7 1).bind fun r2 => (zgR hp r2 1 1).bind fun r3 => (zgR hp r3 6 0).bind fun r4 => (zaR hp 3 r4 x1).bind fun r5 => (f_X0_hasCount r5 x2 hp).bind fun v6 => if v6 = 0 then (some (some (-1 : Int32))) else (zgR hp a0 7 1).bind fun r7 => (zgR hp r7 1 0).bind fun r8 => (f_X5_hasPile r8 x3 hp).bind fun v9 => if v9 = 0 then (some (some (-2 : Int32))) else (f_X0_foundBy r5 x2 x3 hp).bind fun v10 => some (some v10)
set_option maxHeartbeats 4000000 in
set_option maxRecDepth 100000 in
theorem m_X7_counted (l : Launch) (D : va_G) (tc : Nat → ClassId) (ro : Nat → Nat) (b0 : Nat) {a0 : Nat} {x1 : Int32} {x2 : Int32} {x3 : Int32} {hp : zHp} {sz : Nat} {r : (Option Int32)} (hl : l.stackTraces = false) (h : f_X7_counted a0 x1 x2 x3 hp = some r) : zis hp a0 7 = some () ∧ zMx l yX7_counted cX7_counted 5 (some .int) 7 1 6 [.ref a0, .int x1, .int x2, .int x3] D tc ro b0 hp sz (zoP sz hp) hp r := by
  refine ⟨?_, z_startX (o := (zoP sz hp)) (lv := [(0, .ref a0), (1, .int x1), (2, .int x2), (3, .int x3)]) hl h (by decide +kernel) RX7 rfl rfl (Nat.le_of_ble_eq_true rfl) (fun P C CX => ?_)⟩
  · unfold f_X7_counted at h
    cases hc : zis hp a0 7 with
    | none => rw [hc] at h; cases h
    | some u => rfl
  unfold f_X7_counted
  refine z_is ?_
  refine z_aload_n C dX7_counted_0 0 rfl ?_
  refine z_iconst C dX7_counted_1 zi_3 ?_
  refine z_iload_n C dX7_counted_2 1 rfl ?_
  refine z_callVXu C CX zc_X7_99 [.int (3 : Int32), .int x1] (fun l D tc b0 r hl h => m_X7_demand l D tc ro b0 hl h) dX7_counted_3 rfl rfl (Nat.le_of_ble_eq_true rfl) (by decide) (by decide) (by decide) (fun _ => ?_)
  refine z_aload_n C dX7_counted_6 0 rfl ?_
  refine z_getR C zf_X7_19 dX7_counted_7 (fun r2 => ?_)
  refine z_getR C zf_X7_90 dX7_counted_10 (fun r3 => ?_)
  refine z_getR C zf_X7_122 dX7_counted_13 (fun r4 => ?_)
  refine z_iload_n C dX7_counted_16 1 rfl ?_
  refine z_aaload (t := 3) (ty := .object "CountHall$Box") C (fun _ => rfl) rfl (by decide) dX7_counted_17 (fun r5 => ?_)
  refine z_astore (lv' := [(0, .ref a0), (1, .int x1), (2, .int x2), (3, .int x3), (4, .ref r5)]) C dX7_counted_18 (by decide) rfl ?_
  refine z_aload C dX7_counted_20 4 rfl ?_
  refine z_iload_n C dX7_counted_22 2 rfl ?_
  refine z_callVp C zc_X7_160 [.int x2] (fun l D tc b0 r h => m_X0_hasCount l D tc ro b0 h) dX7_counted_23 rfl rfl (Nat.le_of_ble_eq_true rfl) (by decide) (by decide) ⟨Nat.le_of_ble_eq_true rfl, Nat.le_of_ble_eq_true rfl⟩ (fun v6 => ?_)
  refine z_if_ne C 31 dX7_counted_26 (by decide) ?_ ?_
  · refine z_iconst C dX7_counted_29 zi_m1 ?_
    exact z_toX (z_ireturnP C dX7_counted_30)
  refine z_aload_n C dX7_counted_31 0 rfl ?_
  refine z_getR C zf_X7_19 dX7_counted_32 (fun r7 => ?_)
  refine z_getR C zf_X7_61 dX7_counted_35 (fun r8 => ?_)
  refine z_iload_n C dX7_counted_38 3 rfl ?_
  refine z_callVp C zc_X7_137 [.int x3] (fun l D tc b0 r h => m_X5_hasPile l D tc ro b0 h) dX7_counted_39 rfl rfl (Nat.le_of_ble_eq_true rfl) (by decide) (by decide) ⟨Nat.le_of_ble_eq_true rfl, Nat.le_of_ble_eq_true rfl⟩ (fun v9 => ?_)
  refine z_if_eq C 55 dX7_counted_42 (by decide) ?_ ?_
  · refine z_bipush C dX7_counted_55 zbi_m2 ?_
    exact z_toX (z_ireturnP C dX7_counted_57)
  refine z_aload C dX7_counted_45 4 rfl ?_
  refine z_iload_n C dX7_counted_47 2 rfl ?_
  refine z_iload_n C dX7_counted_48 3 rfl ?_
  refine z_callVp C zc_X7_163 [.int x2, .int x3] (fun l D tc b0 r h => m_X0_foundBy l D tc ro b0 h) dX7_counted_49 rfl rfl (Nat.le_of_ble_eq_true rfl) (by decide) (by decide) ⟨Nat.le_of_ble_eq_true rfl, Nat.le_of_ble_eq_true rfl⟩ (fun v10 => ?_)
  refine z_goto C 57 dX7_counted_52 (by decide) ?_
  exact z_toX (z_ireturnP C dX7_counted_57)
noncomputable def f_X7_countedAt (a0 : Nat) (x1 : Int32) (x2 : Int32) (hp : zHp) : Option (Option Int32) :=
  (zis hp a0 7).bind fun _ => zbx (f_X7_demand a0 (3 : Int32) x1 hp) fun _ => (zgR hp a0 7 1).bind fun r2 => (zgR hp r2 1 1).bind fun r3 => (zgR hp r3 6 0).bind fun r4 => (zaR hp 3 r4 x1).bind fun r5 => (f_X0_hasCount r5 x2 hp).bind fun v6 => if v6 = 0 then (some (some (-1 : Int32))) else (zgR hp r5 0 7).bind fun r7 => (zaI hp 0 r7 x2).bind fun v8 => some (some v8)
set_option maxHeartbeats 4000000 in
set_option maxRecDepth 100000 in
theorem m_X7_countedAt (l : Launch) (D : va_G) (tc : Nat → ClassId) (ro : Nat → Nat) (b0 : Nat) {a0 : Nat} {x1 : Int32} {x2 : Int32} {hp : zHp} {sz : Nat} {r : (Option Int32)} (hl : l.stackTraces = false) (h : f_X7_countedAt a0 x1 x2 hp = some r) : zis hp a0 7 = some () ∧ zMx l yX7_countedAt cX7_countedAt 4 (some .int) 7 1 6 [.ref a0, .int x1, .int x2] D tc ro b0 hp sz (zoP sz hp) hp r := by
  refine ⟨?_, z_startX (o := (zoP sz hp)) (lv := [(0, .ref a0), (1, .int x1), (2, .int x2)]) hl h (by decide +kernel) RX7 rfl rfl (Nat.le_of_ble_eq_true rfl) (fun P C CX => ?_)⟩
  · unfold f_X7_countedAt at h
    cases hc : zis hp a0 7 with
    | none => rw [hc] at h; cases h
    | some u => rfl
  unfold f_X7_countedAt
  refine z_is ?_
  refine z_aload_n C dX7_countedAt_0 0 rfl ?_
  refine z_iconst C dX7_countedAt_1 zi_3 ?_
  refine z_iload_n C dX7_countedAt_2 1 rfl ?_
  refine z_callVXu C CX zc_X7_99 [.int (3 : Int32), .int x1] (fun l D tc b0 r hl h => m_X7_demand l D tc ro b0 hl h) dX7_countedAt_3 rfl rfl (Nat.le_of_ble_eq_true rfl) (by decide) (by decide) (by decide) (fun _ => ?_)
  refine z_aload_n C dX7_countedAt_6 0 rfl ?_
  refine z_getR C zf_X7_19 dX7_countedAt_7 (fun r2 => ?_)
  refine z_getR C zf_X7_90 dX7_countedAt_10 (fun r3 => ?_)
  refine z_getR C zf_X7_122 dX7_countedAt_13 (fun r4 => ?_)
  refine z_iload_n C dX7_countedAt_16 1 rfl ?_
  refine z_aaload (t := 3) (ty := .object "CountHall$Box") C (fun _ => rfl) rfl (by decide) dX7_countedAt_17 (fun r5 => ?_)
  refine z_astore_n (lv' := [(0, .ref a0), (1, .int x1), (2, .int x2), (3, .ref r5)]) C dX7_countedAt_18 (by decide) rfl ?_
  refine z_aload_n C dX7_countedAt_19 3 rfl ?_
  refine z_iload_n C dX7_countedAt_20 2 rfl ?_
  refine z_callVp C zc_X7_160 [.int x2] (fun l D tc b0 r h => m_X0_hasCount l D tc ro b0 h) dX7_countedAt_21 rfl rfl (Nat.le_of_ble_eq_true rfl) (by decide) (by decide) ⟨Nat.le_of_ble_eq_true rfl, Nat.le_of_ble_eq_true rfl⟩ (fun v6 => ?_)
  refine z_if_eq C 36 dX7_countedAt_24 (by decide) ?_ ?_
  · refine z_iconst C dX7_countedAt_36 zi_m1 ?_
    exact z_toX (z_ireturnP C dX7_countedAt_37)
  refine z_aload_n C dX7_countedAt_27 3 rfl ?_
  refine z_getR C zf_X7_166 dX7_countedAt_28 (fun r7 => ?_)
  refine z_iload_n C dX7_countedAt_31 2 rfl ?_
  refine z_iaload C dX7_countedAt_32 (fun v8 => ?_)
  refine z_goto C 37 dX7_countedAt_33 (by decide) ?_
  exact z_toX (z_ireturnP C dX7_countedAt_37)
noncomputable def f_X7_wouldCount (a0 : Nat) (x1 : Int32) (x2 : Int32) (x3 : Int32) (hp : zHp) : Option (Option Int32) :=
  (zis hp a0 7).bind fun _ => zbx (f_X7_demand a0 (4 : Int32) x1 hp) fun _ => zbx (f_X7_demand a0 (3 : Int32) x2 hp) fun _ => (zgR hp a0 7 1).bind fun r3 => (zgR hp r3 1 0).bind fun r4 => (f_X5_hasPile r4 x3 hp).bind fun v5 => if v5 = 0 then (some (some (-2 : Int32))) else (zgR hp a0 7 1).bind fun r6 => (zgR hp r6 1 0).bind fun r7 => (f_X5_wouldFind r7 x1 x2 x3 hp).bind fun v8 => some (some v8)
set_option maxHeartbeats 4000000 in
set_option maxRecDepth 100000 in
theorem m_X7_wouldCount (l : Launch) (D : va_G) (tc : Nat → ClassId) (ro : Nat → Nat) (b0 : Nat) {a0 : Nat} {x1 : Int32} {x2 : Int32} {x3 : Int32} {hp : zHp} {sz : Nat} {r : (Option Int32)} (hl : l.stackTraces = false) (h : f_X7_wouldCount a0 x1 x2 x3 hp = some r) : zis hp a0 7 = some () ∧ zMx l yX7_wouldCount cX7_wouldCount 4 (some .int) 7 2 12 [.ref a0, .int x1, .int x2, .int x3] D tc ro b0 hp sz (zoP sz hp) hp r := by
  refine ⟨?_, z_startX (o := (zoP sz hp)) (lv := [(0, .ref a0), (1, .int x1), (2, .int x2), (3, .int x3)]) hl h (by decide +kernel) RX7 rfl rfl (Nat.le_of_ble_eq_true rfl) (fun P C CX => ?_)⟩
  · unfold f_X7_wouldCount at h
    cases hc : zis hp a0 7 with
    | none => rw [hc] at h; cases h
    | some u => rfl
  unfold f_X7_wouldCount
  refine z_is ?_
  refine z_aload_n C dX7_wouldCount_0 0 rfl ?_
  refine z_iconst C dX7_wouldCount_1 zi_4 ?_
  refine z_iload_n C dX7_wouldCount_2 1 rfl ?_
  refine z_callVXu C CX zc_X7_99 [.int (4 : Int32), .int x1] (fun l D tc b0 r hl h => m_X7_demand l D tc ro b0 hl h) dX7_wouldCount_3 rfl rfl (Nat.le_of_ble_eq_true rfl) (by decide) (by decide) (by decide) (fun _ => ?_)
  refine z_aload_n C dX7_wouldCount_6 0 rfl ?_
  refine z_iconst C dX7_wouldCount_7 zi_3 ?_
  refine z_iload_n C dX7_wouldCount_8 2 rfl ?_
  refine z_callVXu C CX zc_X7_99 [.int (3 : Int32), .int x2] (fun l D tc b0 r hl h => m_X7_demand l D tc ro b0 hl h) dX7_wouldCount_9 rfl rfl (Nat.le_of_ble_eq_true rfl) (by decide) (by decide) (by decide) (fun _ => ?_)
  refine z_aload_n C dX7_wouldCount_12 0 rfl ?_
  refine z_getR C zf_X7_19 dX7_wouldCount_13 (fun r3 => ?_)
  refine z_getR C zf_X7_61 dX7_wouldCount_16 (fun r4 => ?_)
  refine z_iload_n C dX7_wouldCount_19 3 rfl ?_
  refine z_callVp C zc_X7_137 [.int x3] (fun l D tc b0 r h => m_X5_hasPile l D tc ro b0 h) dX7_wouldCount_20 rfl rfl (Nat.le_of_ble_eq_true rfl) (by decide) (by decide) ⟨Nat.le_of_ble_eq_true rfl, Nat.le_of_ble_eq_true rfl⟩ (fun v5 => ?_)
  refine z_if_eq C 42 dX7_wouldCount_23 (by decide) ?_ ?_
  · refine z_bipush C dX7_wouldCount_42 zbi_m2 ?_
    exact z_toX (z_ireturnP C dX7_wouldCount_44)
  refine z_aload_n C dX7_wouldCount_26 0 rfl ?_
  refine z_getR C zf_X7_19 dX7_wouldCount_27 (fun r6 => ?_)
  refine z_getR C zf_X7_61 dX7_wouldCount_30 (fun r7 => ?_)
  refine z_iload_n C dX7_wouldCount_33 1 rfl ?_
  refine z_iload_n C dX7_wouldCount_34 2 rfl ?_
  refine z_iload_n C dX7_wouldCount_35 3 rfl ?_
  refine z_callVp C zc_X7_169 [.int x1, .int x2, .int x3] (fun l D tc b0 r h => m_X5_wouldFind l D tc ro b0 h) dX7_wouldCount_36 rfl rfl (Nat.le_of_ble_eq_true rfl) (by decide) (by decide) ⟨Nat.le_of_ble_eq_true rfl, Nat.le_of_ble_eq_true rfl⟩ (fun v8 => ?_)
  refine z_goto C 44 dX7_wouldCount_39 (by decide) ?_
  exact z_toX (z_ireturnP C dX7_wouldCount_44)
noncomputable def f_X7_isConfirmed (a0 : Nat) (x1 : Int32) (hp : zHp) : Option (Option Int32) :=
  (zis hp a0 7).bind fun _ => zbx (f_X7_demand a0 (3 : Int32) x1 hp) fun _ => (zgR hp a0 7 1).bind fun r2 => (zgR hp r2 1 1).bind fun r3 => (zgR hp r3 6 0).bind fun r4 => (zaR hp 3 r4 x1).bind fun r5 => (zgI hp r5 0 5).bind fun v6 => (zrNp .boolean v6).bind fun x => some (some x)
set_option maxHeartbeats 4000000 in
set_option maxRecDepth 100000 in
theorem m_X7_isConfirmed (l : Launch) (D : va_G) (tc : Nat → ClassId) (ro : Nat → Nat) (b0 : Nat) {a0 : Nat} {x1 : Int32} {hp : zHp} {sz : Nat} {r : (Option Int32)} (hl : l.stackTraces = false) (h : f_X7_isConfirmed a0 x1 hp = some r) : zis hp a0 7 = some () ∧ zMx l yX7_isConfirmed cX7_isConfirmed 2 (some .boolean) 7 1 6 [.ref a0, .int x1] D tc ro b0 hp sz (zoP sz hp) hp r := by
  refine ⟨?_, z_startX (o := (zoP sz hp)) (lv := [(0, .ref a0), (1, .int x1)]) hl h (by decide +kernel) RX7 rfl rfl (Nat.le_of_ble_eq_true rfl) (fun P C CX => ?_)⟩
  · unfold f_X7_isConfirmed at h
    cases hc : zis hp a0 7 with
    | none => rw [hc] at h; cases h
    | some u => rfl
  unfold f_X7_isConfirmed
  refine z_is ?_
  refine z_aload_n C dX7_isConfirmed_0 0 rfl ?_
  refine z_iconst C dX7_isConfirmed_1 zi_3 ?_
  refine z_iload_n C dX7_isConfirmed_2 1 rfl ?_
  refine z_callVXu C CX zc_X7_99 [.int (3 : Int32), .int x1] (fun l D tc b0 r hl h => m_X7_demand l D tc ro b0 hl h) dX7_isConfirmed_3 rfl rfl (Nat.le_of_ble_eq_true rfl) (by decide) (by decide) (by decide) (fun _ => ?_)
  refine z_aload_n C dX7_isConfirmed_6 0 rfl ?_
  refine z_getR C zf_X7_19 dX7_isConfirmed_7 (fun r2 => ?_)
  refine z_getR C zf_X7_90 dX7_isConfirmed_10 (fun r3 => ?_)
  refine z_getR C zf_X7_122 dX7_isConfirmed_13 (fun r4 => ?_)
  refine z_iload_n C dX7_isConfirmed_16 1 rfl ?_
  refine z_aaload (t := 3) (ty := .object "CountHall$Box") C (fun _ => rfl) rfl (by decide) dX7_isConfirmed_17 (fun r5 => ?_)
  refine z_getI C zf_X7_173 dX7_isConfirmed_18 (fun v6 => ?_)
  exact z_toXo (z_nreturnP C (by simp) dX7_isConfirmed_21)
noncomputable def f_X7_result (a0 : Nat) (x1 : Int32) (x2 : Int32) (hp : zHp) : Option (Option Int32) :=
  (zis hp a0 7).bind fun _ => zbx (f_X7_demand a0 (3 : Int32) x1 hp) fun _ => (zgR hp a0 7 1).bind fun r2 => (zgR hp r2 1 1).bind fun r3 => (zgR hp r3 6 0).bind fun r4 => (zaR hp 3 r4 x1).bind fun r5 => (zgI hp r5 0 3).bind fun v6 => if v6 = 0 then (some (some (-1 : Int32))) else (zgR hp a0 7 1).bind fun r7 => (zgR hp r7 1 0).bind fun r8 => (f_X5_hasPile r8 x2 hp).bind fun v9 => if v9 = 0 then (some (some (-2 : Int32))) else (f_X0_foundValidly r5 x2 hp).bind fun v10 => some (some v10)
set_option maxHeartbeats 4000000 in
set_option maxRecDepth 100000 in
theorem m_X7_result (l : Launch) (D : va_G) (tc : Nat → ClassId) (ro : Nat → Nat) (b0 : Nat) {a0 : Nat} {x1 : Int32} {x2 : Int32} {hp : zHp} {sz : Nat} {r : (Option Int32)} (hl : l.stackTraces = false) (h : f_X7_result a0 x1 x2 hp = some r) : zis hp a0 7 = some () ∧ zMx l yX7_result cX7_result 4 (some .int) 7 1 6 [.ref a0, .int x1, .int x2] D tc ro b0 hp sz (zoP sz hp) hp r := by
  refine ⟨?_, z_startX (o := (zoP sz hp)) (lv := [(0, .ref a0), (1, .int x1), (2, .int x2)]) hl h (by decide +kernel) RX7 rfl rfl (Nat.le_of_ble_eq_true rfl) (fun P C CX => ?_)⟩
  · unfold f_X7_result at h
    cases hc : zis hp a0 7 with
    | none => rw [hc] at h; cases h
    | some u => rfl
  unfold f_X7_result
  refine z_is ?_
  refine z_aload_n C dX7_result_0 0 rfl ?_
  refine z_iconst C dX7_result_1 zi_3 ?_
  refine z_iload_n C dX7_result_2 1 rfl ?_
  refine z_callVXu C CX zc_X7_99 [.int (3 : Int32), .int x1] (fun l D tc b0 r hl h => m_X7_demand l D tc ro b0 hl h) dX7_result_3 rfl rfl (Nat.le_of_ble_eq_true rfl) (by decide) (by decide) (by decide) (fun _ => ?_)
  refine z_aload_n C dX7_result_6 0 rfl ?_
  refine z_getR C zf_X7_19 dX7_result_7 (fun r2 => ?_)
  refine z_getR C zf_X7_90 dX7_result_10 (fun r3 => ?_)
  refine z_getR C zf_X7_122 dX7_result_13 (fun r4 => ?_)
  refine z_iload_n C dX7_result_16 1 rfl ?_
  refine z_aaload (t := 3) (ty := .object "CountHall$Box") C (fun _ => rfl) rfl (by decide) dX7_result_17 (fun r5 => ?_)
  refine z_astore_n (lv' := [(0, .ref a0), (1, .int x1), (2, .int x2), (3, .ref r5)]) C dX7_result_18 (by decide) rfl ?_
  refine z_aload_n C dX7_result_19 3 rfl ?_
  refine z_getI C zf_X7_131 dX7_result_20 (fun v6 => ?_)
  refine z_if_ne C 28 dX7_result_23 (by decide) ?_ ?_
  · refine z_iconst C dX7_result_26 zi_m1 ?_
    exact z_toX (z_ireturnP C dX7_result_27)
  refine z_aload_n C dX7_result_28 0 rfl ?_
  refine z_getR C zf_X7_19 dX7_result_29 (fun r7 => ?_)
  refine z_getR C zf_X7_61 dX7_result_32 (fun r8 => ?_)
  refine z_iload_n C dX7_result_35 2 rfl ?_
  refine z_callVp C zc_X7_137 [.int x2] (fun l D tc b0 r h => m_X5_hasPile l D tc ro b0 h) dX7_result_36 rfl rfl (Nat.le_of_ble_eq_true rfl) (by decide) (by decide) ⟨Nat.le_of_ble_eq_true rfl, Nat.le_of_ble_eq_true rfl⟩ (fun v9 => ?_)
  refine z_if_eq C 50 dX7_result_39 (by decide) ?_ ?_
  · refine z_bipush C dX7_result_50 zbi_m2 ?_
    exact z_toX (z_ireturnP C dX7_result_52)
  refine z_aload_n C dX7_result_42 3 rfl ?_
  refine z_iload_n C dX7_result_43 2 rfl ?_
  refine z_callVp C zc_X7_177 [.int x2] (fun l D tc b0 r h => m_X0_foundValidly l D tc ro b0 h) dX7_result_44 rfl rfl (Nat.le_of_ble_eq_true rfl) (by decide) (by decide) ⟨Nat.le_of_ble_eq_true rfl, Nat.le_of_ble_eq_true rfl⟩ (fun v10 => ?_)
  refine z_goto C 52 dX7_result_47 (by decide) ?_
  exact z_toX (z_ireturnP C dX7_result_52)
noncomputable def f_X7_surplus (a0 : Nat) (x1 : Int32) (hp : zHp) : Option (Option Int32) :=
  (zis hp a0 7).bind fun _ => zbx (f_X7_demand a0 (3 : Int32) x1 hp) fun _ => (zgR hp a0 7 1).bind fun r2 => (f_X1_papersTooMany r2 x1 hp).bind fun v3 => some (some v3)
set_option maxHeartbeats 4000000 in
set_option maxRecDepth 100000 in
theorem m_X7_surplus (l : Launch) (D : va_G) (tc : Nat → ClassId) (ro : Nat → Nat) (b0 : Nat) {a0 : Nat} {x1 : Int32} {hp : zHp} {sz : Nat} {r : (Option Int32)} (hl : l.stackTraces = false) (h : f_X7_surplus a0 x1 hp = some r) : zis hp a0 7 = some () ∧ zMx l yX7_surplus cX7_surplus 2 (some .int) 7 1 6 [.ref a0, .int x1] D tc ro b0 hp sz (zoP sz hp) hp r := by
  refine ⟨?_, z_startX (o := (zoP sz hp)) (lv := [(0, .ref a0), (1, .int x1)]) hl h (by decide +kernel) RX7 rfl rfl (Nat.le_of_ble_eq_true rfl) (fun P C CX => ?_)⟩
  · unfold f_X7_surplus at h
    cases hc : zis hp a0 7 with
    | none => rw [hc] at h; cases h
    | some u => rfl
  unfold f_X7_surplus
  refine z_is ?_
  refine z_aload_n C dX7_surplus_0 0 rfl ?_
  refine z_iconst C dX7_surplus_1 zi_3 ?_
  refine z_iload_n C dX7_surplus_2 1 rfl ?_
  refine z_callVXu C CX zc_X7_99 [.int (3 : Int32), .int x1] (fun l D tc b0 r hl h => m_X7_demand l D tc ro b0 hl h) dX7_surplus_3 rfl rfl (Nat.le_of_ble_eq_true rfl) (by decide) (by decide) (by decide) (fun _ => ?_)
  refine z_aload_n C dX7_surplus_6 0 rfl ?_
  refine z_getR C zf_X7_19 dX7_surplus_7 (fun r2 => ?_)
  refine z_iload_n C dX7_surplus_10 1 rfl ?_
  refine z_callVp C zc_X7_180 [.int x1] (fun l D tc b0 r h => m_X1_papersTooMany l D tc ro b0 h) dX7_surplus_11 rfl rfl (Nat.le_of_ble_eq_true rfl) (by decide) (by decide) ⟨Nat.le_of_ble_eq_true rfl, Nat.le_of_ble_eq_true rfl⟩ (fun v3 => ?_)
  exact z_toX (z_ireturnP C dX7_surplus_14)
noncomputable def f_X7_isOff (a0 : Nat) (x1 : Int32) (hp : zHp) : Option (Option Int32) :=
  (zis hp a0 7).bind fun _ => zbx (f_X7_demand a0 (3 : Int32) x1 hp) fun _ => (zgR hp a0 7 1).bind fun r2 => (f_X1_isBoxOff r2 x1 hp).bind fun v3 => (zrNp .boolean v3).bind fun x => some (some x)
set_option maxHeartbeats 4000000 in
set_option maxRecDepth 100000 in
theorem m_X7_isOff (l : Launch) (D : va_G) (tc : Nat → ClassId) (ro : Nat → Nat) (b0 : Nat) {a0 : Nat} {x1 : Int32} {hp : zHp} {sz : Nat} {r : (Option Int32)} (hl : l.stackTraces = false) (h : f_X7_isOff a0 x1 hp = some r) : zis hp a0 7 = some () ∧ zMx l yX7_isOff cX7_isOff 2 (some .boolean) 7 1 6 [.ref a0, .int x1] D tc ro b0 hp sz (zoP sz hp) hp r := by
  refine ⟨?_, z_startX (o := (zoP sz hp)) (lv := [(0, .ref a0), (1, .int x1)]) hl h (by decide +kernel) RX7 rfl rfl (Nat.le_of_ble_eq_true rfl) (fun P C CX => ?_)⟩
  · unfold f_X7_isOff at h
    cases hc : zis hp a0 7 with
    | none => rw [hc] at h; cases h
    | some u => rfl
  unfold f_X7_isOff
  refine z_is ?_
  refine z_aload_n C dX7_isOff_0 0 rfl ?_
  refine z_iconst C dX7_isOff_1 zi_3 ?_
  refine z_iload_n C dX7_isOff_2 1 rfl ?_
  refine z_callVXu C CX zc_X7_99 [.int (3 : Int32), .int x1] (fun l D tc b0 r hl h => m_X7_demand l D tc ro b0 hl h) dX7_isOff_3 rfl rfl (Nat.le_of_ble_eq_true rfl) (by decide) (by decide) (by decide) (fun _ => ?_)
  refine z_aload_n C dX7_isOff_6 0 rfl ?_
  refine z_getR C zf_X7_19 dX7_isOff_7 (fun r2 => ?_)
  refine z_iload_n C dX7_isOff_10 1 rfl ?_
  refine z_callVp C zc_X7_183 [.int x1] (fun l D tc b0 r h => m_X1_isBoxOff l D tc ro b0 h) dX7_isOff_11 rfl rfl (Nat.le_of_ble_eq_true rfl) (by decide) (by decide) ⟨Nat.le_of_ble_eq_true rfl, Nat.le_of_ble_eq_true rfl⟩ (fun v3 => ?_)
  exact z_toXo (z_nreturnP C (by simp) dX7_isOff_14)
noncomputable def f_X7_wardVotes (a0 : Nat) (x1 : Int32) (x2 : Int32) (hp : zHp) : Option (Option Int32) :=
  (zis hp a0 7).bind fun _ => zbx (f_X7_demand a0 (2 : Int32) x1 hp) fun _ => (zgR hp a0 7 1).bind fun r2 => (zgR hp r2 1 0).bind fun r3 => (f_X5_hasPile r3 x2 hp).bind fun v4 => if v4 = 0 then (some (some (-2 : Int32))) else (zgR hp a0 7 1).bind fun r5 => (f_X1_foundInWard r5 x1 x2 hp).bind fun v6 => some (some v6)
set_option maxHeartbeats 4000000 in
set_option maxRecDepth 100000 in
theorem m_X7_wardVotes (l : Launch) (D : va_G) (tc : Nat → ClassId) (ro : Nat → Nat) (b0 : Nat) {a0 : Nat} {x1 : Int32} {x2 : Int32} {hp : zHp} {sz : Nat} {r : (Option Int32)} (hl : l.stackTraces = false) (h : f_X7_wardVotes a0 x1 x2 hp = some r) : zis hp a0 7 = some () ∧ zMx l yX7_wardVotes cX7_wardVotes 3 (some .int) 7 1 6 [.ref a0, .int x1, .int x2] D tc ro b0 hp sz (zoP sz hp) hp r := by
  refine ⟨?_, z_startX (o := (zoP sz hp)) (lv := [(0, .ref a0), (1, .int x1), (2, .int x2)]) hl h (by decide +kernel) RX7 rfl rfl (Nat.le_of_ble_eq_true rfl) (fun P C CX => ?_)⟩
  · unfold f_X7_wardVotes at h
    cases hc : zis hp a0 7 with
    | none => rw [hc] at h; cases h
    | some u => rfl
  unfold f_X7_wardVotes
  refine z_is ?_
  refine z_aload_n C dX7_wardVotes_0 0 rfl ?_
  refine z_iconst C dX7_wardVotes_1 zi_2 ?_
  refine z_iload_n C dX7_wardVotes_2 1 rfl ?_
  refine z_callVXu C CX zc_X7_99 [.int (2 : Int32), .int x1] (fun l D tc b0 r hl h => m_X7_demand l D tc ro b0 hl h) dX7_wardVotes_3 rfl rfl (Nat.le_of_ble_eq_true rfl) (by decide) (by decide) (by decide) (fun _ => ?_)
  refine z_aload_n C dX7_wardVotes_6 0 rfl ?_
  refine z_getR C zf_X7_19 dX7_wardVotes_7 (fun r2 => ?_)
  refine z_getR C zf_X7_61 dX7_wardVotes_10 (fun r3 => ?_)
  refine z_iload_n C dX7_wardVotes_13 2 rfl ?_
  refine z_callVp C zc_X7_137 [.int x2] (fun l D tc b0 r h => m_X5_hasPile l D tc ro b0 h) dX7_wardVotes_14 rfl rfl (Nat.le_of_ble_eq_true rfl) (by decide) (by decide) ⟨Nat.le_of_ble_eq_true rfl, Nat.le_of_ble_eq_true rfl⟩ (fun v4 => ?_)
  refine z_if_eq C 32 dX7_wardVotes_17 (by decide) ?_ ?_
  · refine z_bipush C dX7_wardVotes_32 zbi_m2 ?_
    exact z_toX (z_ireturnP C dX7_wardVotes_34)
  refine z_aload_n C dX7_wardVotes_20 0 rfl ?_
  refine z_getR C zf_X7_19 dX7_wardVotes_21 (fun r5 => ?_)
  refine z_iload_n C dX7_wardVotes_24 1 rfl ?_
  refine z_iload_n C dX7_wardVotes_25 2 rfl ?_
  refine z_callVp C zc_X7_186 [.int x1, .int x2] (fun l D tc b0 r h => m_X1_foundInWard l D tc ro b0 h) dX7_wardVotes_26 rfl rfl (Nat.le_of_ble_eq_true rfl) (by decide) (by decide) ⟨Nat.le_of_ble_eq_true rfl, Nat.le_of_ble_eq_true rfl⟩ (fun v6 => ?_)
  refine z_goto C 34 dX7_wardVotes_29 (by decide) ?_
  exact z_toX (z_ireturnP C dX7_wardVotes_34)
noncomputable def f_X7_leader (a0 : Nat) (x1 : Int32) (hp : zHp) : Option (Option Int32) :=
  (zis hp a0 7).bind fun _ => zbx (f_X7_demand a0 (2 : Int32) x1 hp) fun _ => (zgR hp a0 7 1).bind fun r2 => (f_X1_partyAhead r2 x1 hp).bind fun v3 => some (some v3)
set_option maxHeartbeats 4000000 in
set_option maxRecDepth 100000 in
theorem m_X7_leader (l : Launch) (D : va_G) (tc : Nat → ClassId) (ro : Nat → Nat) (b0 : Nat) {a0 : Nat} {x1 : Int32} {hp : zHp} {sz : Nat} {r : (Option Int32)} (hl : l.stackTraces = false) (h : f_X7_leader a0 x1 hp = some r) : zis hp a0 7 = some () ∧ zMx l yX7_leader cX7_leader 2 (some .int) 7 1 6 [.ref a0, .int x1] D tc ro b0 hp sz (zoP sz hp) hp r := by
  refine ⟨?_, z_startX (o := (zoP sz hp)) (lv := [(0, .ref a0), (1, .int x1)]) hl h (by decide +kernel) RX7 rfl rfl (Nat.le_of_ble_eq_true rfl) (fun P C CX => ?_)⟩
  · unfold f_X7_leader at h
    cases hc : zis hp a0 7 with
    | none => rw [hc] at h; cases h
    | some u => rfl
  unfold f_X7_leader
  refine z_is ?_
  refine z_aload_n C dX7_leader_0 0 rfl ?_
  refine z_iconst C dX7_leader_1 zi_2 ?_
  refine z_iload_n C dX7_leader_2 1 rfl ?_
  refine z_callVXu C CX zc_X7_99 [.int (2 : Int32), .int x1] (fun l D tc b0 r hl h => m_X7_demand l D tc ro b0 hl h) dX7_leader_3 rfl rfl (Nat.le_of_ble_eq_true rfl) (by decide) (by decide) (by decide) (fun _ => ?_)
  refine z_aload_n C dX7_leader_6 0 rfl ?_
  refine z_getR C zf_X7_19 dX7_leader_7 (fun r2 => ?_)
  refine z_iload_n C dX7_leader_10 1 rfl ?_
  refine z_callVp C zc_X7_189 [.int x1] (fun l D tc b0 r h => m_X1_partyAhead l D tc ro b0 h) dX7_leader_11 rfl rfl (Nat.le_of_ble_eq_true rfl) (by decide) (by decide) ⟨Nat.le_of_ble_eq_true rfl, Nat.le_of_ble_eq_true rfl⟩ (fun v3 => ?_)
  exact z_toX (z_ireturnP C dX7_leader_14)
noncomputable def f_X7_margin (a0 : Nat) (x1 : Int32) (hp : zHp) : Option (Option Int32) :=
  (zis hp a0 7).bind fun _ => zbx (f_X7_demand a0 (2 : Int32) x1 hp) fun _ => (zgR hp a0 7 1).bind fun r2 => (f_X1_lead r2 x1 hp).bind fun v3 => some (some v3)
set_option maxHeartbeats 4000000 in
set_option maxRecDepth 100000 in
theorem m_X7_margin (l : Launch) (D : va_G) (tc : Nat → ClassId) (ro : Nat → Nat) (b0 : Nat) {a0 : Nat} {x1 : Int32} {hp : zHp} {sz : Nat} {r : (Option Int32)} (hl : l.stackTraces = false) (h : f_X7_margin a0 x1 hp = some r) : zis hp a0 7 = some () ∧ zMx l yX7_margin cX7_margin 2 (some .int) 7 1 6 [.ref a0, .int x1] D tc ro b0 hp sz (zoP sz hp) hp r := by
  refine ⟨?_, z_startX (o := (zoP sz hp)) (lv := [(0, .ref a0), (1, .int x1)]) hl h (by decide +kernel) RX7 rfl rfl (Nat.le_of_ble_eq_true rfl) (fun P C CX => ?_)⟩
  · unfold f_X7_margin at h
    cases hc : zis hp a0 7 with
    | none => rw [hc] at h; cases h
    | some u => rfl
  unfold f_X7_margin
  refine z_is ?_
  refine z_aload_n C dX7_margin_0 0 rfl ?_
  refine z_iconst C dX7_margin_1 zi_2 ?_
  refine z_iload_n C dX7_margin_2 1 rfl ?_
  refine z_callVXu C CX zc_X7_99 [.int (2 : Int32), .int x1] (fun l D tc b0 r hl h => m_X7_demand l D tc ro b0 hl h) dX7_margin_3 rfl rfl (Nat.le_of_ble_eq_true rfl) (by decide) (by decide) (by decide) (fun _ => ?_)
  refine z_aload_n C dX7_margin_6 0 rfl ?_
  refine z_getR C zf_X7_19 dX7_margin_7 (fun r2 => ?_)
  refine z_iload_n C dX7_margin_10 1 rfl ?_
  refine z_callVp C zc_X7_192 [.int x1] (fun l D tc b0 r h => m_X1_lead l D tc ro b0 h) dX7_margin_11 rfl rfl (Nat.le_of_ble_eq_true rfl) (by decide) (by decide) ⟨Nat.le_of_ble_eq_true rfl, Nat.le_of_ble_eq_true rfl⟩ (fun v3 => ?_)
  exact z_toX (z_ireturnP C dX7_margin_14)
noncomputable def f_X7_isClose (a0 : Nat) (x1 : Int32) (hp : zHp) : Option (Option Int32) :=
  (zis hp a0 7).bind fun _ => zbx (f_X7_demand a0 (2 : Int32) x1 hp) fun _ => (zgR hp a0 7 1).bind fun r2 => (f_X1_isWardClose r2 x1 hp).bind fun v3 => (zrNp .boolean v3).bind fun x => some (some x)
set_option maxHeartbeats 4000000 in
set_option maxRecDepth 100000 in
theorem m_X7_isClose (l : Launch) (D : va_G) (tc : Nat → ClassId) (ro : Nat → Nat) (b0 : Nat) {a0 : Nat} {x1 : Int32} {hp : zHp} {sz : Nat} {r : (Option Int32)} (hl : l.stackTraces = false) (h : f_X7_isClose a0 x1 hp = some r) : zis hp a0 7 = some () ∧ zMx l yX7_isClose cX7_isClose 2 (some .boolean) 7 1 6 [.ref a0, .int x1] D tc ro b0 hp sz (zoP sz hp) hp r := by
  refine ⟨?_, z_startX (o := (zoP sz hp)) (lv := [(0, .ref a0), (1, .int x1)]) hl h (by decide +kernel) RX7 rfl rfl (Nat.le_of_ble_eq_true rfl) (fun P C CX => ?_)⟩
  · unfold f_X7_isClose at h
    cases hc : zis hp a0 7 with
    | none => rw [hc] at h; cases h
    | some u => rfl
  unfold f_X7_isClose
  refine z_is ?_
  refine z_aload_n C dX7_isClose_0 0 rfl ?_
  refine z_iconst C dX7_isClose_1 zi_2 ?_
  refine z_iload_n C dX7_isClose_2 1 rfl ?_
  refine z_callVXu C CX zc_X7_99 [.int (2 : Int32), .int x1] (fun l D tc b0 r hl h => m_X7_demand l D tc ro b0 hl h) dX7_isClose_3 rfl rfl (Nat.le_of_ble_eq_true rfl) (by decide) (by decide) (by decide) (fun _ => ?_)
  refine z_aload_n C dX7_isClose_6 0 rfl ?_
  refine z_getR C zf_X7_19 dX7_isClose_7 (fun r2 => ?_)
  refine z_iload_n C dX7_isClose_10 1 rfl ?_
  refine z_callVp C zc_X7_195 [.int x1] (fun l D tc b0 r h => m_X1_isWardClose l D tc ro b0 h) dX7_isClose_11 rfl rfl (Nat.le_of_ble_eq_true rfl) (by decide) (by decide) ⟨Nat.le_of_ble_eq_true rfl, Nat.le_of_ble_eq_true rfl⟩ (fun v3 => ?_)
  exact z_toXo (z_nreturnP C (by simp) dX7_isClose_14)
noncomputable def f_X7_whyNot (a0 : Nat) (x1 : Int32) (hp : zHp) : Option (Option Int32) :=
  (zis hp a0 7).bind fun _ => zbx (f_X7_demand a0 (2 : Int32) x1 hp) fun _ => (zgR hp a0 7 1).bind fun r2 => (f_X1_reasonAgainst r2 x1 hp).bind fun v3 => some (some v3)
set_option maxHeartbeats 4000000 in
set_option maxRecDepth 100000 in
theorem m_X7_whyNot (l : Launch) (D : va_G) (tc : Nat → ClassId) (ro : Nat → Nat) (b0 : Nat) {a0 : Nat} {x1 : Int32} {hp : zHp} {sz : Nat} {r : (Option Int32)} (hl : l.stackTraces = false) (h : f_X7_whyNot a0 x1 hp = some r) : zis hp a0 7 = some () ∧ zMx l yX7_whyNot cX7_whyNot 2 (some .int) 7 1 6 [.ref a0, .int x1] D tc ro b0 hp sz (zoP sz hp) hp r := by
  refine ⟨?_, z_startX (o := (zoP sz hp)) (lv := [(0, .ref a0), (1, .int x1)]) hl h (by decide +kernel) RX7 rfl rfl (Nat.le_of_ble_eq_true rfl) (fun P C CX => ?_)⟩
  · unfold f_X7_whyNot at h
    cases hc : zis hp a0 7 with
    | none => rw [hc] at h; cases h
    | some u => rfl
  unfold f_X7_whyNot
  refine z_is ?_
  refine z_aload_n C dX7_whyNot_0 0 rfl ?_
  refine z_iconst C dX7_whyNot_1 zi_2 ?_
  refine z_iload_n C dX7_whyNot_2 1 rfl ?_
  refine z_callVXu C CX zc_X7_99 [.int (2 : Int32), .int x1] (fun l D tc b0 r hl h => m_X7_demand l D tc ro b0 hl h) dX7_whyNot_3 rfl rfl (Nat.le_of_ble_eq_true rfl) (by decide) (by decide) (by decide) (fun _ => ?_)
  refine z_aload_n C dX7_whyNot_6 0 rfl ?_
  refine z_getR C zf_X7_19 dX7_whyNot_7 (fun r2 => ?_)
  refine z_iload_n C dX7_whyNot_10 1 rfl ?_
  refine z_callVp C zc_X7_198 [.int x1] (fun l D tc b0 r h => m_X1_reasonAgainst l D tc ro b0 h) dX7_whyNot_11 rfl rfl (Nat.le_of_ble_eq_true rfl) (by decide) (by decide) ⟨Nat.le_of_ble_eq_true rfl, Nat.le_of_ble_eq_true rfl⟩ (fun v3 => ?_)
  exact z_toX (z_ireturnP C dX7_whyNot_14)
noncomputable def f_X7_toCount (a0 : Nat) (hp : zHp) : Option Int32 :=
  (zis hp a0 7).bind fun _ => (zgR hp a0 7 1).bind fun r1 => (f_X1_boxesToCount r1 hp).bind fun v2 => some v2
set_option maxHeartbeats 4000000 in
set_option maxRecDepth 100000 in
theorem m_X7_toCount (l : Launch) (D : va_G) (tc : Nat → ClassId) (ro : Nat → Nat) (b0 : Nat) {a0 : Nat} {hp : zHp} {sz : Nat} {r : Int32} (h : f_X7_toCount a0 hp = some r) : zis hp a0 7 = some () ∧ zM l yX7_toCount cX7_toCount 1 (some .int) 8 0 0 [.ref a0] D tc ro b0 hp sz ((zoP sz hp) r).1 ((zoP sz hp) r).2.1 ((zoP sz hp) r).2.2 := by
  refine ⟨?_, z_start (o := (zoP sz hp)) (lv := [(0, .ref a0)]) h (by decide +kernel) RX7 rfl rfl (Nat.le_of_ble_eq_true rfl) (fun P C => ?_)⟩
  · unfold f_X7_toCount at h
    cases hc : zis hp a0 7 with
    | none => rw [hc] at h; cases h
    | some u => rfl
  unfold f_X7_toCount
  refine z_is ?_
  refine z_aload_n C dX7_toCount_0 0 rfl ?_
  refine z_getR C zf_X7_19 dX7_toCount_1 (fun r1 => ?_)
  refine z_callVp C zc_X7_201 [] (fun l D tc b0 r h => m_X1_boxesToCount l D tc ro b0 h) dX7_toCount_4 rfl rfl (Nat.le_of_ble_eq_true rfl) (by decide) (by decide) ⟨Nat.le_of_ble_eq_true rfl, Nat.le_of_ble_eq_true rfl⟩ (fun v2 => ?_)
  exact z_ireturnP C dX7_toCount_7
noncomputable def f_X7_countsLeft (a0 : Nat) (x1 : Int32) (hp : zHp) : Option (Option Int32) :=
  (zis hp a0 7).bind fun _ => zbx (f_X7_demand a0 (3 : Int32) x1 hp) fun _ => (zgR hp a0 7 1).bind fun r2 => (f_X1_countsToConfirm r2 x1 hp).bind fun v3 => some (some v3)
set_option maxHeartbeats 4000000 in
set_option maxRecDepth 100000 in
theorem m_X7_countsLeft (l : Launch) (D : va_G) (tc : Nat → ClassId) (ro : Nat → Nat) (b0 : Nat) {a0 : Nat} {x1 : Int32} {hp : zHp} {sz : Nat} {r : (Option Int32)} (hl : l.stackTraces = false) (h : f_X7_countsLeft a0 x1 hp = some r) : zis hp a0 7 = some () ∧ zMx l yX7_countsLeft cX7_countsLeft 2 (some .int) 7 1 6 [.ref a0, .int x1] D tc ro b0 hp sz (zoP sz hp) hp r := by
  refine ⟨?_, z_startX (o := (zoP sz hp)) (lv := [(0, .ref a0), (1, .int x1)]) hl h (by decide +kernel) RX7 rfl rfl (Nat.le_of_ble_eq_true rfl) (fun P C CX => ?_)⟩
  · unfold f_X7_countsLeft at h
    cases hc : zis hp a0 7 with
    | none => rw [hc] at h; cases h
    | some u => rfl
  unfold f_X7_countsLeft
  refine z_is ?_
  refine z_aload_n C dX7_countsLeft_0 0 rfl ?_
  refine z_iconst C dX7_countsLeft_1 zi_3 ?_
  refine z_iload_n C dX7_countsLeft_2 1 rfl ?_
  refine z_callVXu C CX zc_X7_99 [.int (3 : Int32), .int x1] (fun l D tc b0 r hl h => m_X7_demand l D tc ro b0 hl h) dX7_countsLeft_3 rfl rfl (Nat.le_of_ble_eq_true rfl) (by decide) (by decide) (by decide) (fun _ => ?_)
  refine z_aload_n C dX7_countsLeft_6 0 rfl ?_
  refine z_getR C zf_X7_19 dX7_countsLeft_7 (fun r2 => ?_)
  refine z_iload_n C dX7_countsLeft_10 1 rfl ?_
  refine z_callVp C zc_X7_205 [.int x1] (fun l D tc b0 r h => m_X1_countsToConfirm l D tc ro b0 h) dX7_countsLeft_11 rfl rfl (Nat.le_of_ble_eq_true rfl) (by decide) (by decide) ⟨Nat.le_of_ble_eq_true rfl, Nat.le_of_ble_eq_true rfl⟩ (fun v3 => ?_)
  exact z_toX (z_ireturnP C dX7_countsLeft_14)
noncomputable def b_X7_rightTable_8 (k39 : Int32 → Option (Option Int32)) (k47 : Option (Option Int32)) (a0 : Nat) (x1 : Int32) (hp : zHp) (rec : Int32 → Option (Option Int32)) (x2 : Int32) : Option (Option Int32) :=
  (zgR hp a0 7 1).bind fun r2 => (zgR hp r2 1 0).bind fun r3 => (zgR hp r3 5 0).bind fun r4 => (zaI hp 0 r4 (4 : Int32)).bind fun v5 => if x2 < v5 then ((zgR hp a0 7 1).bind fun r6 => (zgR hp r6 1 0).bind fun r7 => (f_X5_wouldFindTruth r7 x2 x1 hp).bind fun v8 => if v8 = 0 then (zlet (x2 + (1 : Int32)) fun v9 => rec v9) else k39 x2) else k47
noncomputable def l_X7_rightTable_8 (k39 : Int32 → Option (Option Int32)) (k47 : Option (Option Int32)) (a0 : Nat) (x1 : Int32) (hp : zHp) (n : Nat) : Int32 → Option (Option Int32) :=
  Nat.rec (motive := fun _ => Int32 → Option (Option Int32)) (fun _ => none) (fun _ rec => b_X7_rightTable_8 k39 k47 a0 x1 hp rec) n
theorem l_X7_rightTable_8_s (k39 : Int32 → Option (Option Int32)) (k47 : Option (Option Int32)) (a0 : Nat) (x1 : Int32) (hp : zHp) (n : Nat) (x2 : Int32) : l_X7_rightTable_8 k39 k47 a0 x1 hp (n + 1) x2 = b_X7_rightTable_8 k39 k47 a0 x1 hp (l_X7_rightTable_8 k39 k47 a0 x1 hp n) x2 := rfl
set_option maxHeartbeats 4000000 in
set_option maxRecDepth 100000 in
theorem wl_X7_rightTable_8 {P : zX} {ro : Nat → Nat} {sz : Nat} (C : zC P cX7_rightTable RX7 (some .int) 7 1 6 3 ro) {a0 : Nat} {x1 : Int32} {hp : zHp} {k39 : Int32 → Option (Option Int32)} (hk39 : ∀ (x2 : Int32), zGq P (zEndX P (zoP sz hp) hp) (k39 x2) 39 [(2, .int x2)] [] hp sz 1 6) {k47 : Option (Option Int32)} (hk47 : zGq P (zEndX P (zoP sz hp) hp) (k47) 47 [] [] hp sz 1 6) : ∀ (n : Nat) (x2 : Int32), zGq P (zEndX P (zoP sz hp) hp) (l_X7_rightTable_8 k39 k47 a0 x1 hp n x2) 8 [(0, .ref a0), (1, .int x1), (2, .int x2)] [] hp sz 1 6 := by
  intro n
  induction n with
  | zero =>
    intro x2
    show zGq P (zEndX P (zoP sz hp) hp) none _ _ _ _ _ _ _
    exact z_none
  | succ n ih =>
    intro x2
    show zGq P (zEndX P (zoP sz hp) hp) (b_X7_rightTable_8 k39 k47 a0 x1 hp (l_X7_rightTable_8 k39 k47 a0 x1 hp n) x2) _ _ _ _ _ _ _
    unfold b_X7_rightTable_8
    refine z_iload_n C dX7_rightTable_8 2 rfl ?_
    refine z_aload_n C dX7_rightTable_9 0 rfl ?_
    refine z_getR C zf_X7_19 dX7_rightTable_10 (fun r2 => ?_)
    refine z_getR C zf_X7_61 dX7_rightTable_13 (fun r3 => ?_)
    refine z_getR C zf_X7_76 dX7_rightTable_16 (fun r4 => ?_)
    refine z_iconst C dX7_rightTable_19 zi_4 ?_
    refine z_iaload C dX7_rightTable_20 (fun v5 => ?_)
    refine z_icmp_ge C 47 dX7_rightTable_21 (by decide) ?_ ?_
    · refine z_aload_n C dX7_rightTable_24 0 rfl ?_
      refine z_getR C zf_X7_19 dX7_rightTable_25 (fun r6 => ?_)
      refine z_getR C zf_X7_61 dX7_rightTable_28 (fun r7 => ?_)
      refine z_iload_n C dX7_rightTable_31 2 rfl ?_
      refine z_iload_n C dX7_rightTable_32 1 rfl ?_
      refine z_callVp C zc_X7_208 [.int x2, .int x1] (fun l D tc b0 r h => m_X5_wouldFindTruth l D tc ro b0 h) dX7_rightTable_33 rfl rfl (Nat.le_of_ble_eq_true rfl) (by decide) (by decide) ⟨Nat.le_of_ble_eq_true rfl, Nat.le_of_ble_eq_true rfl⟩ (fun v8 => ?_)
      refine z_if_eq C 41 dX7_rightTable_36 (by decide) ?_ ?_
      · refine z_iincL C 2 (fun v9 => [(0, .ref a0), (1, .int x1), (2, .int v9)]) dX7_rightTable_41 rfl zi_1 (by decide) (fun _ => rfl) (fun v9 => ?_)
        refine z_goto C 8 dX7_rightTable_44 (by decide) ?_
        exact ih _
      exact z_sub [2] rfl (hk39 _)
    exact z_sub [] rfl (hk47)
noncomputable def f_X7_rightTable (a0 : Nat) (x1 : Int32) (hp : zHp) : Option (Option Int32) :=
  (zis hp a0 7).bind fun _ => zbx (f_X7_demand a0 (3 : Int32) x1 hp) fun _ => l_X7_rightTable_8 (fun p10 => some (some p10)) (some (some (-1 : Int32))) a0 x1 hp 1000000 (0 : Int32)
set_option maxHeartbeats 4000000 in
set_option maxRecDepth 100000 in
theorem m_X7_rightTable (l : Launch) (D : va_G) (tc : Nat → ClassId) (ro : Nat → Nat) (b0 : Nat) {a0 : Nat} {x1 : Int32} {hp : zHp} {sz : Nat} {r : (Option Int32)} (hl : l.stackTraces = false) (h : f_X7_rightTable a0 x1 hp = some r) : zis hp a0 7 = some () ∧ zMx l yX7_rightTable cX7_rightTable 3 (some .int) 7 1 6 [.ref a0, .int x1] D tc ro b0 hp sz (zoP sz hp) hp r := by
  refine ⟨?_, z_startX (o := (zoP sz hp)) (lv := [(0, .ref a0), (1, .int x1)]) hl h (by decide +kernel) RX7 rfl rfl (Nat.le_of_ble_eq_true rfl) (fun P C CX => ?_)⟩
  · unfold f_X7_rightTable at h
    cases hc : zis hp a0 7 with
    | none => rw [hc] at h; cases h
    | some u => rfl
  unfold f_X7_rightTable
  refine z_is ?_
  refine z_aload_n C dX7_rightTable_0 0 rfl ?_
  refine z_iconst C dX7_rightTable_1 zi_3 ?_
  refine z_iload_n C dX7_rightTable_2 1 rfl ?_
  refine z_callVXu C CX zc_X7_99 [.int (3 : Int32), .int x1] (fun l D tc b0 r hl h => m_X7_demand l D tc ro b0 hl h) dX7_rightTable_3 rfl rfl (Nat.le_of_ble_eq_true rfl) (by decide) (by decide) (by decide) (fun _ => ?_)
  refine z_iconst C dX7_rightTable_6 zi_0 ?_
  refine z_istore_n (lv' := [(0, .ref a0), (1, .int x1), (2, .int (0 : Int32))]) C dX7_rightTable_7 (by decide) rfl ?_
  refine wl_X7_rightTable_8 C (fun p10 => ?_) ?_ _ _
  · refine z_iload_n C dX7_rightTable_39 0 rfl ?_
    exact z_toX (z_ireturnP C dX7_rightTable_40)
  refine z_iconst C dX7_rightTable_47 zi_m1 ?_
  exact z_toX (z_ireturnP C dX7_rightTable_48)
noncomputable def f_X7_nextWard (a0 : Nat) (hp : zHp) : Option Int32 :=
  (zis hp a0 7).bind fun _ => (zgR hp a0 7 1).bind fun r1 => (f_X1_nextReady r1 hp).bind fun v2 => some v2
set_option maxHeartbeats 4000000 in
set_option maxRecDepth 100000 in
theorem m_X7_nextWard (l : Launch) (D : va_G) (tc : Nat → ClassId) (ro : Nat → Nat) (b0 : Nat) {a0 : Nat} {hp : zHp} {sz : Nat} {r : Int32} (h : f_X7_nextWard a0 hp = some r) : zis hp a0 7 = some () ∧ zM l yX7_nextWard cX7_nextWard 1 (some .int) 8 0 0 [.ref a0] D tc ro b0 hp sz ((zoP sz hp) r).1 ((zoP sz hp) r).2.1 ((zoP sz hp) r).2.2 := by
  refine ⟨?_, z_start (o := (zoP sz hp)) (lv := [(0, .ref a0)]) h (by decide +kernel) RX7 rfl rfl (Nat.le_of_ble_eq_true rfl) (fun P C => ?_)⟩
  · unfold f_X7_nextWard at h
    cases hc : zis hp a0 7 with
    | none => rw [hc] at h; cases h
    | some u => rfl
  unfold f_X7_nextWard
  refine z_is ?_
  refine z_aload_n C dX7_nextWard_0 0 rfl ?_
  refine z_getR C zf_X7_19 dX7_nextWard_1 (fun r1 => ?_)
  refine z_callVp C zc_X7_211 [] (fun l D tc b0 r h => m_X1_nextReady l D tc ro b0 h) dX7_nextWard_4 rfl rfl (Nat.le_of_ble_eq_true rfl) (by decide) (by decide) ⟨Nat.le_of_ble_eq_true rfl, Nat.le_of_ble_eq_true rfl⟩ (fun v2 => ?_)
  exact z_ireturnP C dX7_nextWard_7
noncomputable def f_X7_declaredCount (a0 : Nat) (hp : zHp) : Option Int32 :=
  (zis hp a0 7).bind fun _ => (zgR hp a0 7 1).bind fun r1 => (zgR hp r1 1 1).bind fun r2 => (zgI hp r2 6 3).bind fun v3 => some v3
set_option maxHeartbeats 4000000 in
set_option maxRecDepth 100000 in
theorem m_X7_declaredCount (l : Launch) (D : va_G) (tc : Nat → ClassId) (ro : Nat → Nat) (b0 : Nat) {a0 : Nat} {hp : zHp} {sz : Nat} {r : Int32} (h : f_X7_declaredCount a0 hp = some r) : zis hp a0 7 = some () ∧ zM l yX7_declaredCount cX7_declaredCount 1 (some .int) 1 0 0 [.ref a0] D tc ro b0 hp sz ((zoP sz hp) r).1 ((zoP sz hp) r).2.1 ((zoP sz hp) r).2.2 := by
  refine ⟨?_, z_start (o := (zoP sz hp)) (lv := [(0, .ref a0)]) h (by decide +kernel) RX7 rfl rfl (Nat.le_of_ble_eq_true rfl) (fun P C => ?_)⟩
  · unfold f_X7_declaredCount at h
    cases hc : zis hp a0 7 with
    | none => rw [hc] at h; cases h
    | some u => rfl
  unfold f_X7_declaredCount
  refine z_is ?_
  refine z_aload_n C dX7_declaredCount_0 0 rfl ?_
  refine z_getR C zf_X7_19 dX7_declaredCount_1 (fun r1 => ?_)
  refine z_getR C zf_X7_90 dX7_declaredCount_4 (fun r2 => ?_)
  refine z_getI C zf_X7_214 dX7_declaredCount_7 (fun v3 => ?_)
  exact z_ireturnP C dX7_declaredCount_10
noncomputable def f_X7_declared (a0 : Nat) (x1 : Int32) (hp : zHp) : Option Int32 :=
  (zis hp a0 7).bind fun _ => if x1 < 0 then (some (-1 : Int32)) else (zgR hp a0 7 1).bind fun r1 => (zgR hp r1 1 1).bind fun r2 => (zgI hp r2 6 3).bind fun v3 => if x1 < v3 then ((zgR hp a0 7 1).bind fun r4 => (zgR hp r4 1 1).bind fun r5 => (zgR hp r5 6 2).bind fun r6 => (zaI hp 0 r6 x1).bind fun v7 => some v7) else some (-1 : Int32)
set_option maxHeartbeats 4000000 in
set_option maxRecDepth 100000 in
theorem m_X7_declared (l : Launch) (D : va_G) (tc : Nat → ClassId) (ro : Nat → Nat) (b0 : Nat) {a0 : Nat} {x1 : Int32} {hp : zHp} {sz : Nat} {r : Int32} (h : f_X7_declared a0 x1 hp = some r) : zis hp a0 7 = some () ∧ zM l yX7_declared cX7_declared 2 (some .int) 1 0 0 [.ref a0, .int x1] D tc ro b0 hp sz ((zoP sz hp) r).1 ((zoP sz hp) r).2.1 ((zoP sz hp) r).2.2 := by
  refine ⟨?_, z_start (o := (zoP sz hp)) (lv := [(0, .ref a0), (1, .int x1)]) h (by decide +kernel) RX7 rfl rfl (Nat.le_of_ble_eq_true rfl) (fun P C => ?_)⟩
  · unfold f_X7_declared at h
    cases hc : zis hp a0 7 with
    | none => rw [hc] at h; cases h
    | some u => rfl
  unfold f_X7_declared
  refine z_is ?_
  refine z_iload_n C dX7_declared_0 1 rfl ?_
  refine z_if_lt C 33 dX7_declared_1 (by decide) ?_ ?_
  · refine z_iconst C dX7_declared_33 zi_m1 ?_
    exact z_ireturnP C dX7_declared_34
  refine z_iload_n C dX7_declared_4 1 rfl ?_
  refine z_aload_n C dX7_declared_5 0 rfl ?_
  refine z_getR C zf_X7_19 dX7_declared_6 (fun r1 => ?_)
  refine z_getR C zf_X7_90 dX7_declared_9 (fun r2 => ?_)
  refine z_getI C zf_X7_214 dX7_declared_12 (fun v3 => ?_)
  refine z_icmp_ge C 33 dX7_declared_15 (by decide) ?_ ?_
  · refine z_aload_n C dX7_declared_18 0 rfl ?_
    refine z_getR C zf_X7_19 dX7_declared_19 (fun r4 => ?_)
    refine z_getR C zf_X7_90 dX7_declared_22 (fun r5 => ?_)
    refine z_getR C zf_X7_217 dX7_declared_25 (fun r6 => ?_)
    refine z_iload_n C dX7_declared_28 1 rfl ?_
    refine z_iaload C dX7_declared_29 (fun v7 => ?_)
    refine z_goto C 34 dX7_declared_30 (by decide) ?_
    exact z_ireturnP C dX7_declared_34
  refine z_iconst C dX7_declared_33 zi_m1 ?_
  exact z_ireturnP C dX7_declared_34
noncomputable def f_X7_isRegionDeclared (a0 : Nat) (x1 : Int32) (hp : zHp) : Option (Option Int32) :=
  (zis hp a0 7).bind fun _ => zbx (f_X7_demand a0 (1 : Int32) x1 hp) fun _ => (zgR hp a0 7 1).bind fun r2 => (f_X1_wardsWithin r2 x1 (1 : Int32) hp).bind fun v3 => if 0 < v3 then ((zgR hp a0 7 1).bind fun r4 => (f_X1_wardsWithin r4 x1 (0 : Int32) hp).bind fun v5 => if v5 = 0 then (some (some (1 : Int32))) else some (some (0 : Int32))) else some (some (0 : Int32))
set_option maxHeartbeats 4000000 in
set_option maxRecDepth 100000 in
theorem m_X7_isRegionDeclared (l : Launch) (D : va_G) (tc : Nat → ClassId) (ro : Nat → Nat) (b0 : Nat) {a0 : Nat} {x1 : Int32} {hp : zHp} {sz : Nat} {r : (Option Int32)} (hl : l.stackTraces = false) (h : f_X7_isRegionDeclared a0 x1 hp = some r) : zis hp a0 7 = some () ∧ zMx l yX7_isRegionDeclared cX7_isRegionDeclared 2 (some .boolean) 7 1 6 [.ref a0, .int x1] D tc ro b0 hp sz (zoP sz hp) hp r := by
  refine ⟨?_, z_startX (o := (zoP sz hp)) (lv := [(0, .ref a0), (1, .int x1)]) hl h (by decide +kernel) RX7 rfl rfl (Nat.le_of_ble_eq_true rfl) (fun P C CX => ?_)⟩
  · unfold f_X7_isRegionDeclared at h
    cases hc : zis hp a0 7 with
    | none => rw [hc] at h; cases h
    | some u => rfl
  unfold f_X7_isRegionDeclared
  refine z_is ?_
  refine z_aload_n C dX7_isRegionDeclared_0 0 rfl ?_
  refine z_iconst C dX7_isRegionDeclared_1 zi_1 ?_
  refine z_iload_n C dX7_isRegionDeclared_2 1 rfl ?_
  refine z_callVXu C CX zc_X7_99 [.int (1 : Int32), .int x1] (fun l D tc b0 r hl h => m_X7_demand l D tc ro b0 hl h) dX7_isRegionDeclared_3 rfl rfl (Nat.le_of_ble_eq_true rfl) (by decide) (by decide) (by decide) (fun _ => ?_)
  refine z_aload_n C dX7_isRegionDeclared_6 0 rfl ?_
  refine z_getR C zf_X7_19 dX7_isRegionDeclared_7 (fun r2 => ?_)
  refine z_iload_n C dX7_isRegionDeclared_10 1 rfl ?_
  refine z_iconst C dX7_isRegionDeclared_11 zi_1 ?_
  refine z_callVp C zc_X7_220 [.int x1, .int (1 : Int32)] (fun l D tc b0 r h => m_X1_wardsWithin l D tc ro b0 h) dX7_isRegionDeclared_12 rfl rfl (Nat.le_of_ble_eq_true rfl) (by decide) (by decide) ⟨Nat.le_of_ble_eq_true rfl, Nat.le_of_ble_eq_true rfl⟩ (fun v3 => ?_)
  refine z_if_le C 34 dX7_isRegionDeclared_15 (by decide) ?_ ?_
  · refine z_aload_n C dX7_isRegionDeclared_18 0 rfl ?_
    refine z_getR C zf_X7_19 dX7_isRegionDeclared_19 (fun r4 => ?_)
    refine z_iload_n C dX7_isRegionDeclared_22 1 rfl ?_
    refine z_iconst C dX7_isRegionDeclared_23 zi_0 ?_
    refine z_callVp C zc_X7_220 [.int x1, .int (0 : Int32)] (fun l D tc b0 r h => m_X1_wardsWithin l D tc ro b0 h) dX7_isRegionDeclared_24 rfl rfl (Nat.le_of_ble_eq_true rfl) (by decide) (by decide) ⟨Nat.le_of_ble_eq_true rfl, Nat.le_of_ble_eq_true rfl⟩ (fun v5 => ?_)
    refine z_if_ne C 34 dX7_isRegionDeclared_27 (by decide) ?_ ?_
    · refine z_iconst C dX7_isRegionDeclared_30 zi_1 ?_
      refine z_goto C 35 dX7_isRegionDeclared_31 (by decide) ?_
      exact z_toX (z_kreturnP C rfl dX7_isRegionDeclared_35)
    refine z_iconst C dX7_isRegionDeclared_34 zi_0 ?_
    exact z_toX (z_kreturnP C rfl dX7_isRegionDeclared_35)
  refine z_iconst C dX7_isRegionDeclared_34 zi_0 ?_
  exact z_toX (z_kreturnP C rfl dX7_isRegionDeclared_35)
noncomputable def f_X7_regionVotes (a0 : Nat) (x1 : Int32) (x2 : Int32) (hp : zHp) : Option (Option Int32) :=
  (zis hp a0 7).bind fun _ => zbx (f_X7_demand a0 (1 : Int32) x1 hp) fun _ => (zgR hp a0 7 1).bind fun r2 => (zgR hp r2 1 0).bind fun r3 => (f_X5_has r3 (0 : Int32) x2 hp).bind fun v4 => if v4 = 0 then (some (some (-2 : Int32))) else (zgR hp a0 7 1).bind fun r5 => (f_X1_votesWithin r5 x1 x2 hp).bind fun v6 => some (some v6)
set_option maxHeartbeats 4000000 in
set_option maxRecDepth 100000 in
theorem m_X7_regionVotes (l : Launch) (D : va_G) (tc : Nat → ClassId) (ro : Nat → Nat) (b0 : Nat) {a0 : Nat} {x1 : Int32} {x2 : Int32} {hp : zHp} {sz : Nat} {r : (Option Int32)} (hl : l.stackTraces = false) (h : f_X7_regionVotes a0 x1 x2 hp = some r) : zis hp a0 7 = some () ∧ zMx l yX7_regionVotes cX7_regionVotes 3 (some .int) 7 1 6 [.ref a0, .int x1, .int x2] D tc ro b0 hp sz (zoP sz hp) hp r := by
  refine ⟨?_, z_startX (o := (zoP sz hp)) (lv := [(0, .ref a0), (1, .int x1), (2, .int x2)]) hl h (by decide +kernel) RX7 rfl rfl (Nat.le_of_ble_eq_true rfl) (fun P C CX => ?_)⟩
  · unfold f_X7_regionVotes at h
    cases hc : zis hp a0 7 with
    | none => rw [hc] at h; cases h
    | some u => rfl
  unfold f_X7_regionVotes
  refine z_is ?_
  refine z_aload_n C dX7_regionVotes_0 0 rfl ?_
  refine z_iconst C dX7_regionVotes_1 zi_1 ?_
  refine z_iload_n C dX7_regionVotes_2 1 rfl ?_
  refine z_callVXu C CX zc_X7_99 [.int (1 : Int32), .int x1] (fun l D tc b0 r hl h => m_X7_demand l D tc ro b0 hl h) dX7_regionVotes_3 rfl rfl (Nat.le_of_ble_eq_true rfl) (by decide) (by decide) (by decide) (fun _ => ?_)
  refine z_aload_n C dX7_regionVotes_6 0 rfl ?_
  refine z_getR C zf_X7_19 dX7_regionVotes_7 (fun r2 => ?_)
  refine z_getR C zf_X7_61 dX7_regionVotes_10 (fun r3 => ?_)
  refine z_iconst C dX7_regionVotes_13 zi_0 ?_
  refine z_iload_n C dX7_regionVotes_14 2 rfl ?_
  refine z_callVp C zc_X7_224 [.int (0 : Int32), .int x2] (fun l D tc b0 r h => m_X5_has l D tc ro b0 h) dX7_regionVotes_15 rfl rfl (Nat.le_of_ble_eq_true rfl) (by decide) (by decide) ⟨Nat.le_of_ble_eq_true rfl, Nat.le_of_ble_eq_true rfl⟩ (fun v4 => ?_)
  refine z_if_eq C 33 dX7_regionVotes_18 (by decide) ?_ ?_
  · refine z_bipush C dX7_regionVotes_33 zbi_m2 ?_
    exact z_toX (z_ireturnP C dX7_regionVotes_35)
  refine z_aload_n C dX7_regionVotes_21 0 rfl ?_
  refine z_getR C zf_X7_19 dX7_regionVotes_22 (fun r5 => ?_)
  refine z_iload_n C dX7_regionVotes_25 1 rfl ?_
  refine z_iload_n C dX7_regionVotes_26 2 rfl ?_
  refine z_callVp C zc_X7_227 [.int x1, .int x2] (fun l D tc b0 r h => m_X1_votesWithin l D tc ro b0 h) dX7_regionVotes_27 rfl rfl (Nat.le_of_ble_eq_true rfl) (by decide) (by decide) ⟨Nat.le_of_ble_eq_true rfl, Nat.le_of_ble_eq_true rfl⟩ (fun v6 => ?_)
  refine z_goto C 35 dX7_regionVotes_30 (by decide) ?_
  exact z_toX (z_ireturnP C dX7_regionVotes_35)
noncomputable def f_X7_regionSeats (a0 : Nat) (x1 : Int32) (x2 : Int32) (hp : zHp) : Option (Option Int32) :=
  (zis hp a0 7).bind fun _ => zbx (f_X7_demand a0 (1 : Int32) x1 hp) fun _ => (zgR hp a0 7 1).bind fun r2 => (zgR hp r2 1 0).bind fun r3 => (f_X5_has r3 (0 : Int32) x2 hp).bind fun v4 => if v4 = 0 then (some (some (-2 : Int32))) else (zgR hp a0 7 1).bind fun r5 => (f_X1_seatsWithin r5 x1 x2 hp).bind fun v6 => some (some v6)
set_option maxHeartbeats 4000000 in
set_option maxRecDepth 100000 in
theorem m_X7_regionSeats (l : Launch) (D : va_G) (tc : Nat → ClassId) (ro : Nat → Nat) (b0 : Nat) {a0 : Nat} {x1 : Int32} {x2 : Int32} {hp : zHp} {sz : Nat} {r : (Option Int32)} (hl : l.stackTraces = false) (h : f_X7_regionSeats a0 x1 x2 hp = some r) : zis hp a0 7 = some () ∧ zMx l yX7_regionSeats cX7_regionSeats 3 (some .int) 7 1 6 [.ref a0, .int x1, .int x2] D tc ro b0 hp sz (zoP sz hp) hp r := by
  refine ⟨?_, z_startX (o := (zoP sz hp)) (lv := [(0, .ref a0), (1, .int x1), (2, .int x2)]) hl h (by decide +kernel) RX7 rfl rfl (Nat.le_of_ble_eq_true rfl) (fun P C CX => ?_)⟩
  · unfold f_X7_regionSeats at h
    cases hc : zis hp a0 7 with
    | none => rw [hc] at h; cases h
    | some u => rfl
  unfold f_X7_regionSeats
  refine z_is ?_
  refine z_aload_n C dX7_regionSeats_0 0 rfl ?_
  refine z_iconst C dX7_regionSeats_1 zi_1 ?_
  refine z_iload_n C dX7_regionSeats_2 1 rfl ?_
  refine z_callVXu C CX zc_X7_99 [.int (1 : Int32), .int x1] (fun l D tc b0 r hl h => m_X7_demand l D tc ro b0 hl h) dX7_regionSeats_3 rfl rfl (Nat.le_of_ble_eq_true rfl) (by decide) (by decide) (by decide) (fun _ => ?_)
  refine z_aload_n C dX7_regionSeats_6 0 rfl ?_
  refine z_getR C zf_X7_19 dX7_regionSeats_7 (fun r2 => ?_)
  refine z_getR C zf_X7_61 dX7_regionSeats_10 (fun r3 => ?_)
  refine z_iconst C dX7_regionSeats_13 zi_0 ?_
  refine z_iload_n C dX7_regionSeats_14 2 rfl ?_
  refine z_callVp C zc_X7_224 [.int (0 : Int32), .int x2] (fun l D tc b0 r h => m_X5_has l D tc ro b0 h) dX7_regionSeats_15 rfl rfl (Nat.le_of_ble_eq_true rfl) (by decide) (by decide) ⟨Nat.le_of_ble_eq_true rfl, Nat.le_of_ble_eq_true rfl⟩ (fun v4 => ?_)
  refine z_if_eq C 33 dX7_regionSeats_18 (by decide) ?_ ?_
  · refine z_bipush C dX7_regionSeats_33 zbi_m2 ?_
    exact z_toX (z_ireturnP C dX7_regionSeats_35)
  refine z_aload_n C dX7_regionSeats_21 0 rfl ?_
  refine z_getR C zf_X7_19 dX7_regionSeats_22 (fun r5 => ?_)
  refine z_iload_n C dX7_regionSeats_25 1 rfl ?_
  refine z_iload_n C dX7_regionSeats_26 2 rfl ?_
  refine z_callVp C zc_X7_230 [.int x1, .int x2] (fun l D tc b0 r h => m_X1_seatsWithin l D tc ro b0 h) dX7_regionSeats_27 rfl rfl (Nat.le_of_ble_eq_true rfl) (by decide) (by decide) ⟨Nat.le_of_ble_eq_true rfl, Nat.le_of_ble_eq_true rfl⟩ (fun v6 => ?_)
  refine z_goto C 35 dX7_regionSeats_30 (by decide) ?_
  exact z_toX (z_ireturnP C dX7_regionSeats_35)
noncomputable def b_X7_isDecided_8 (k36 : Option (Option Int32)) (k44 : Option (Option Int32)) (a0 : Nat) (x1 : Int32) (hp : zHp) (rec : Int32 → Option (Option Int32)) (x2 : Int32) : Option (Option Int32) :=
  (zgR hp a0 7 1).bind fun r2 => (zgR hp r2 1 0).bind fun r3 => (zgR hp r3 5 0).bind fun r4 => (zaI hp 0 r4 (0 : Int32)).bind fun v5 => if x2 < v5 then ((zgR hp a0 7 1).bind fun r6 => (f_X1_cannotBeCaught r6 x1 x2 hp).bind fun v7 => if v7 = 0 then (zlet (x2 + (1 : Int32)) fun v8 => rec v8) else k36) else k44
noncomputable def l_X7_isDecided_8 (k36 : Option (Option Int32)) (k44 : Option (Option Int32)) (a0 : Nat) (x1 : Int32) (hp : zHp) (n : Nat) : Int32 → Option (Option Int32) :=
  Nat.rec (motive := fun _ => Int32 → Option (Option Int32)) (fun _ => none) (fun _ rec => b_X7_isDecided_8 k36 k44 a0 x1 hp rec) n
theorem l_X7_isDecided_8_s (k36 : Option (Option Int32)) (k44 : Option (Option Int32)) (a0 : Nat) (x1 : Int32) (hp : zHp) (n : Nat) (x2 : Int32) : l_X7_isDecided_8 k36 k44 a0 x1 hp (n + 1) x2 = b_X7_isDecided_8 k36 k44 a0 x1 hp (l_X7_isDecided_8 k36 k44 a0 x1 hp n) x2 := rfl
set_option maxHeartbeats 4000000 in
set_option maxRecDepth 100000 in
theorem wl_X7_isDecided_8 {P : zX} {ro : Nat → Nat} {sz : Nat} (C : zC P cX7_isDecided RX7 (some .boolean) 7 1 6 3 ro) {a0 : Nat} {x1 : Int32} {hp : zHp} {k36 : Option (Option Int32)} (hk36 : zGq P (zEndX P (zoP sz hp) hp) (k36) 36 [] [] hp sz 1 6) {k44 : Option (Option Int32)} (hk44 : zGq P (zEndX P (zoP sz hp) hp) (k44) 44 [] [] hp sz 1 6) : ∀ (n : Nat) (x2 : Int32), zGq P (zEndX P (zoP sz hp) hp) (l_X7_isDecided_8 k36 k44 a0 x1 hp n x2) 8 [(0, .ref a0), (1, .int x1), (2, .int x2)] [] hp sz 1 6 := by
  intro n
  induction n with
  | zero =>
    intro x2
    show zGq P (zEndX P (zoP sz hp) hp) none _ _ _ _ _ _ _
    exact z_none
  | succ n ih =>
    intro x2
    show zGq P (zEndX P (zoP sz hp) hp) (b_X7_isDecided_8 k36 k44 a0 x1 hp (l_X7_isDecided_8 k36 k44 a0 x1 hp n) x2) _ _ _ _ _ _ _
    unfold b_X7_isDecided_8
    refine z_iload_n C dX7_isDecided_8 2 rfl ?_
    refine z_aload_n C dX7_isDecided_9 0 rfl ?_
    refine z_getR C zf_X7_19 dX7_isDecided_10 (fun r2 => ?_)
    refine z_getR C zf_X7_61 dX7_isDecided_13 (fun r3 => ?_)
    refine z_getR C zf_X7_76 dX7_isDecided_16 (fun r4 => ?_)
    refine z_iconst C dX7_isDecided_19 zi_0 ?_
    refine z_iaload C dX7_isDecided_20 (fun v5 => ?_)
    refine z_icmp_ge C 44 dX7_isDecided_21 (by decide) ?_ ?_
    · refine z_aload_n C dX7_isDecided_24 0 rfl ?_
      refine z_getR C zf_X7_19 dX7_isDecided_25 (fun r6 => ?_)
      refine z_iload_n C dX7_isDecided_28 1 rfl ?_
      refine z_iload_n C dX7_isDecided_29 2 rfl ?_
      refine z_callVp C zc_X7_233 [.int x1, .int x2] (fun l D tc b0 r h => m_X1_cannotBeCaught l D tc ro b0 h) dX7_isDecided_30 rfl rfl (Nat.le_of_ble_eq_true rfl) (by decide) (by decide) ⟨Nat.le_of_ble_eq_true rfl, Nat.le_of_ble_eq_true rfl⟩ (fun v7 => ?_)
      refine z_if_eq C 38 dX7_isDecided_33 (by decide) ?_ ?_
      · refine z_iincL C 2 (fun v8 => [(0, .ref a0), (1, .int x1), (2, .int v8)]) dX7_isDecided_38 rfl zi_1 (by decide) (fun _ => rfl) (fun v8 => ?_)
        refine z_goto C 8 dX7_isDecided_41 (by decide) ?_
        exact ih _
      exact z_sub [] rfl (hk36)
    exact z_sub [] rfl (hk44)
noncomputable def f_X7_isDecided (a0 : Nat) (x1 : Int32) (hp : zHp) : Option (Option Int32) :=
  (zis hp a0 7).bind fun _ => zbx (f_X7_demand a0 (1 : Int32) x1 hp) fun _ => l_X7_isDecided_8 (some (some (1 : Int32))) (some (some (0 : Int32))) a0 x1 hp 1000000 (0 : Int32)
set_option maxHeartbeats 4000000 in
set_option maxRecDepth 100000 in
theorem m_X7_isDecided (l : Launch) (D : va_G) (tc : Nat → ClassId) (ro : Nat → Nat) (b0 : Nat) {a0 : Nat} {x1 : Int32} {hp : zHp} {sz : Nat} {r : (Option Int32)} (hl : l.stackTraces = false) (h : f_X7_isDecided a0 x1 hp = some r) : zis hp a0 7 = some () ∧ zMx l yX7_isDecided cX7_isDecided 3 (some .boolean) 7 1 6 [.ref a0, .int x1] D tc ro b0 hp sz (zoP sz hp) hp r := by
  refine ⟨?_, z_startX (o := (zoP sz hp)) (lv := [(0, .ref a0), (1, .int x1)]) hl h (by decide +kernel) RX7 rfl rfl (Nat.le_of_ble_eq_true rfl) (fun P C CX => ?_)⟩
  · unfold f_X7_isDecided at h
    cases hc : zis hp a0 7 with
    | none => rw [hc] at h; cases h
    | some u => rfl
  unfold f_X7_isDecided
  refine z_is ?_
  refine z_aload_n C dX7_isDecided_0 0 rfl ?_
  refine z_iconst C dX7_isDecided_1 zi_1 ?_
  refine z_iload_n C dX7_isDecided_2 1 rfl ?_
  refine z_callVXu C CX zc_X7_99 [.int (1 : Int32), .int x1] (fun l D tc b0 r hl h => m_X7_demand l D tc ro b0 hl h) dX7_isDecided_3 rfl rfl (Nat.le_of_ble_eq_true rfl) (by decide) (by decide) (by decide) (fun _ => ?_)
  refine z_iconst C dX7_isDecided_6 zi_0 ?_
  refine z_istore_n (lv' := [(0, .ref a0), (1, .int x1), (2, .int (0 : Int32))]) C dX7_isDecided_7 (by decide) rfl ?_
  refine wl_X7_isDecided_8 C ?_ ?_ _ _
  · refine z_iconst C dX7_isDecided_36 zi_1 ?_
    exact z_toX (z_kreturnP C rfl dX7_isDecided_37)
  refine z_iconst C dX7_isDecided_44 zi_0 ?_
  exact z_toX (z_kreturnP C rfl dX7_isDecided_45)
noncomputable def b_X7_misplaced_4 (k37 : Int32 → Option Int32) (a0 : Nat) (hp : zHp) (rec : Int32 → Int32 → Option Int32) (x1 : Int32) (x2 : Int32) : Option Int32 :=
  (zgR hp a0 7 1).bind fun r1 => (zgR hp r1 1 0).bind fun r2 => (zgR hp r2 5 0).bind fun r3 => (zaI hp 0 r3 (3 : Int32)).bind fun v4 => if x2 < v4 then ((zgR hp a0 7 1).bind fun r5 => (f_X1_differencesOf r5 x2 hp).bind fun v6 => zlet (x1 + v6) fun v7 => zlet (x2 + (1 : Int32)) fun v8 => rec v7 v8) else k37 x1
noncomputable def l_X7_misplaced_4 (k37 : Int32 → Option Int32) (a0 : Nat) (hp : zHp) (n : Nat) : Int32 → Int32 → Option Int32 :=
  Nat.rec (motive := fun _ => Int32 → Int32 → Option Int32) (fun _ _ => none) (fun _ rec => b_X7_misplaced_4 k37 a0 hp rec) n
theorem l_X7_misplaced_4_s (k37 : Int32 → Option Int32) (a0 : Nat) (hp : zHp) (n : Nat) (x1 : Int32) (x2 : Int32) : l_X7_misplaced_4 k37 a0 hp (n + 1) x1 x2 = b_X7_misplaced_4 k37 a0 hp (l_X7_misplaced_4 k37 a0 hp n) x1 x2 := rfl
set_option maxHeartbeats 4000000 in
set_option maxRecDepth 100000 in
theorem wl_X7_misplaced_4 {P : zX} {ro : Nat → Nat} {sz : Nat} (C : zC P cX7_misplaced RX7 (some .int) 4 0 0 3 ro) {a0 : Nat} {hp : zHp} {k37 : Int32 → Option Int32} (hk37 : ∀ (x1 : Int32), zG P (zoP sz hp) (k37 x1) 37 [(1, .int x1)] [] hp sz 0 0) : ∀ (n : Nat) (x1 : Int32) (x2 : Int32), zG P (zoP sz hp) (l_X7_misplaced_4 k37 a0 hp n x1 x2) 4 [(0, .ref a0), (1, .int x1), (2, .int x2)] [] hp sz 0 0 := by
  intro n
  induction n with
  | zero =>
    intro x1 x2
    show zG P (zoP sz hp) none _ _ _ _ _ _ _
    exact z_none
  | succ n ih =>
    intro x1 x2
    show zG P (zoP sz hp) (b_X7_misplaced_4 k37 a0 hp (l_X7_misplaced_4 k37 a0 hp n) x1 x2) _ _ _ _ _ _ _
    unfold b_X7_misplaced_4
    refine z_iload_n C dX7_misplaced_4 2 rfl ?_
    refine z_aload_n C dX7_misplaced_5 0 rfl ?_
    refine z_getR C zf_X7_19 dX7_misplaced_6 (fun r1 => ?_)
    refine z_getR C zf_X7_61 dX7_misplaced_9 (fun r2 => ?_)
    refine z_getR C zf_X7_76 dX7_misplaced_12 (fun r3 => ?_)
    refine z_iconst C dX7_misplaced_15 zi_3 ?_
    refine z_iaload C dX7_misplaced_16 (fun v4 => ?_)
    refine z_icmp_ge C 37 dX7_misplaced_17 (by decide) ?_ ?_
    · refine z_iload_n C dX7_misplaced_20 1 rfl ?_
      refine z_aload_n C dX7_misplaced_21 0 rfl ?_
      refine z_getR C zf_X7_19 dX7_misplaced_22 (fun r5 => ?_)
      refine z_iload_n C dX7_misplaced_25 2 rfl ?_
      refine z_callVp C zc_X7_236 [.int x2] (fun l D tc b0 r h => m_X1_differencesOf l D tc ro b0 h) dX7_misplaced_26 rfl rfl (Nat.le_of_ble_eq_true rfl) (by decide) (by decide) ⟨Nat.le_of_ble_eq_true rfl, Nat.le_of_ble_eq_true rfl⟩ (fun v6 => ?_)
      refine z_iadd C dX7_misplaced_29 ?_
      refine z_istore_nL C (fun v7 => [(0, .ref a0), (1, .int v7), (2, .int x2)]) dX7_misplaced_30 (by decide) (fun _ => rfl) (fun v7 => ?_)
      refine z_iincL C 2 (fun v8 => [(0, .ref a0), (1, .int v7), (2, .int v8)]) dX7_misplaced_31 rfl zi_1 (by decide) (fun _ => rfl) (fun v8 => ?_)
      refine z_goto C 4 dX7_misplaced_34 (by decide) ?_
      exact ih _ _
    exact z_sub [1] rfl (hk37 _)
noncomputable def f_X7_misplaced (a0 : Nat) (hp : zHp) : Option Int32 :=
  (zis hp a0 7).bind fun _ => l_X7_misplaced_4 (fun p9 => (zdiv p9 (2 : Int32)).bind fun v10 => some v10) a0 hp 1000000 (0 : Int32) (0 : Int32)
set_option maxHeartbeats 4000000 in
set_option maxRecDepth 100000 in
theorem m_X7_misplaced (l : Launch) (D : va_G) (tc : Nat → ClassId) (ro : Nat → Nat) (b0 : Nat) {a0 : Nat} {hp : zHp} {sz : Nat} {r : Int32} (h : f_X7_misplaced a0 hp = some r) : zis hp a0 7 = some () ∧ zM l yX7_misplaced cX7_misplaced 3 (some .int) 4 0 0 [.ref a0] D tc ro b0 hp sz ((zoP sz hp) r).1 ((zoP sz hp) r).2.1 ((zoP sz hp) r).2.2 := by
  refine ⟨?_, z_start (o := (zoP sz hp)) (lv := [(0, .ref a0)]) h (by decide +kernel) RX7 rfl rfl (Nat.le_of_ble_eq_true rfl) (fun P C => ?_)⟩
  · unfold f_X7_misplaced at h
    cases hc : zis hp a0 7 with
    | none => rw [hc] at h; cases h
    | some u => rfl
  unfold f_X7_misplaced
  refine z_is ?_
  refine z_iconst C dX7_misplaced_0 zi_0 ?_
  refine z_istore_n (lv' := [(0, .ref a0), (1, .int (0 : Int32))]) C dX7_misplaced_1 (by decide) rfl ?_
  refine z_iconst C dX7_misplaced_2 zi_0 ?_
  refine z_istore_n (lv' := [(0, .ref a0), (1, .int (0 : Int32)), (2, .int (0 : Int32))]) C dX7_misplaced_3 (by decide) rfl ?_
  refine wl_X7_misplaced_4 C (fun p9 => ?_) _ _ _
  refine z_iload_n C dX7_misplaced_37 0 rfl ?_
  refine z_iconst C dX7_misplaced_38 zi_2 ?_
  refine z_idiv C dX7_misplaced_39 (fun v10 => ?_)
  exact z_ireturnP C dX7_misplaced_40
noncomputable def b_X7_worstTable_6 (k49 : Int32 → Option Int32) (a0 : Nat) (hp : zHp) (rec : Int32 → Int32 → Int32 → Option Int32) (x1 : Int32) (x2 : Int32) (x3 : Int32) : Option Int32 :=
  (zgR hp a0 7 1).bind fun r1 => (zgR hp r1 1 0).bind fun r2 => (zgR hp r2 5 0).bind fun r3 => (zaI hp 0 r3 (4 : Int32)).bind fun v4 => if x3 < v4 then ((zgR hp a0 7 1).bind fun r5 => (f_X1_wrongCountsAt r5 x3 hp).bind fun v6 => if x2 < v6 then (zlet (x3 + (1 : Int32)) fun v8 => rec x3 v6 v8) else zlet (x3 + (1 : Int32)) fun v7 => rec x1 x2 v7) else k49 x1
noncomputable def l_X7_worstTable_6 (k49 : Int32 → Option Int32) (a0 : Nat) (hp : zHp) (n : Nat) : Int32 → Int32 → Int32 → Option Int32 :=
  Nat.rec (motive := fun _ => Int32 → Int32 → Int32 → Option Int32) (fun _ _ _ => none) (fun _ rec => b_X7_worstTable_6 k49 a0 hp rec) n
theorem l_X7_worstTable_6_s (k49 : Int32 → Option Int32) (a0 : Nat) (hp : zHp) (n : Nat) (x1 : Int32) (x2 : Int32) (x3 : Int32) : l_X7_worstTable_6 k49 a0 hp (n + 1) x1 x2 x3 = b_X7_worstTable_6 k49 a0 hp (l_X7_worstTable_6 k49 a0 hp n) x1 x2 x3 := rfl
set_option maxHeartbeats 4000000 in
set_option maxRecDepth 100000 in
theorem wl_X7_worstTable_6 {P : zX} {ro : Nat → Nat} {sz : Nat} (C : zC P cX7_worstTable RX7 (some .int) 4 0 0 5 ro) {a0 : Nat} {hp : zHp} {k49 : Int32 → Option Int32} (hk49 : ∀ (x1 : Int32), zG P (zoP sz hp) (k49 x1) 49 [(1, .int x1)] [] hp sz 0 0) : ∀ (n : Nat) (x1 : Int32) (x2 : Int32) (x3 : Int32), zG P (zoP sz hp) (l_X7_worstTable_6 k49 a0 hp n x1 x2 x3) 6 [(0, .ref a0), (1, .int x1), (2, .int x2), (3, .int x3)] [] hp sz 0 0 := by
  intro n
  induction n with
  | zero =>
    intro x1 x2 x3
    show zG P (zoP sz hp) none _ _ _ _ _ _ _
    exact z_none
  | succ n ih =>
    intro x1 x2 x3
    show zG P (zoP sz hp) (b_X7_worstTable_6 k49 a0 hp (l_X7_worstTable_6 k49 a0 hp n) x1 x2 x3) _ _ _ _ _ _ _
    unfold b_X7_worstTable_6
    refine z_iload_n C dX7_worstTable_6 3 rfl ?_
    refine z_aload_n C dX7_worstTable_7 0 rfl ?_
    refine z_getR C zf_X7_19 dX7_worstTable_8 (fun r1 => ?_)
    refine z_getR C zf_X7_61 dX7_worstTable_11 (fun r2 => ?_)
    refine z_getR C zf_X7_76 dX7_worstTable_14 (fun r3 => ?_)
    refine z_iconst C dX7_worstTable_17 zi_4 ?_
    refine z_iaload C dX7_worstTable_18 (fun v4 => ?_)
    refine z_icmp_ge C 49 dX7_worstTable_19 (by decide) ?_ ?_
    · refine z_aload_n C dX7_worstTable_22 0 rfl ?_
      refine z_getR C zf_X7_19 dX7_worstTable_23 (fun r5 => ?_)
      refine z_iload_n C dX7_worstTable_26 3 rfl ?_
      refine z_callVp C zc_X7_239 [.int x3] (fun l D tc b0 r h => m_X1_wrongCountsAt l D tc ro b0 h) dX7_worstTable_27 rfl rfl (Nat.le_of_ble_eq_true rfl) (by decide) (by decide) ⟨Nat.le_of_ble_eq_true rfl, Nat.le_of_ble_eq_true rfl⟩ (fun v6 => ?_)
      refine z_istore (lv' := [(0, .ref a0), (1, .int x1), (2, .int x2), (3, .int x3), (4, .int v6)]) C dX7_worstTable_30 (by decide) rfl ?_
      refine z_iload C dX7_worstTable_32 4 rfl ?_
      refine z_iload_n C dX7_worstTable_34 2 rfl ?_
      refine z_icmp_le C 43 dX7_worstTable_35 (by decide) ?_ ?_
      · refine z_iload C dX7_worstTable_38 4 rfl ?_
        refine z_istore_n (lv' := [(0, .ref a0), (1, .int x1), (2, .int v6), (3, .int x3), (4, .int v6)]) C dX7_worstTable_40 (by decide) rfl ?_
        refine z_iload_n C dX7_worstTable_41 3 rfl ?_
        refine z_istore_n (lv' := [(0, .ref a0), (1, .int x3), (2, .int v6), (3, .int x3), (4, .int v6)]) C dX7_worstTable_42 (by decide) rfl ?_
        refine z_iincL C 3 (fun v8 => [(0, .ref a0), (1, .int x3), (2, .int v6), (3, .int v8), (4, .int v6)]) dX7_worstTable_43 rfl zi_1 (by decide) (fun _ => rfl) (fun v8 => ?_)
        refine z_goto C 6 dX7_worstTable_46 (by decide) ?_
        exact z_sub [0, 1, 2, 3] rfl (ih _ _ _)
      refine z_iincL C 3 (fun v7 => [(0, .ref a0), (1, .int x1), (2, .int x2), (3, .int v7), (4, .int v6)]) dX7_worstTable_43 rfl zi_1 (by decide) (fun _ => rfl) (fun v7 => ?_)
      refine z_goto C 6 dX7_worstTable_46 (by decide) ?_
      exact z_sub [0, 1, 2, 3] rfl (ih _ _ _)
    exact z_sub [1] rfl (hk49 _)
noncomputable def f_X7_worstTable (a0 : Nat) (hp : zHp) : Option Int32 :=
  (zis hp a0 7).bind fun _ => l_X7_worstTable_6 (fun p9 => some p9) a0 hp 1000000 (-1 : Int32) (0 : Int32) (0 : Int32)
set_option maxHeartbeats 4000000 in
set_option maxRecDepth 100000 in
theorem m_X7_worstTable (l : Launch) (D : va_G) (tc : Nat → ClassId) (ro : Nat → Nat) (b0 : Nat) {a0 : Nat} {hp : zHp} {sz : Nat} {r : Int32} (h : f_X7_worstTable a0 hp = some r) : zis hp a0 7 = some () ∧ zM l yX7_worstTable cX7_worstTable 5 (some .int) 4 0 0 [.ref a0] D tc ro b0 hp sz ((zoP sz hp) r).1 ((zoP sz hp) r).2.1 ((zoP sz hp) r).2.2 := by
  refine ⟨?_, z_start (o := (zoP sz hp)) (lv := [(0, .ref a0)]) h (by decide +kernel) RX7 rfl rfl (Nat.le_of_ble_eq_true rfl) (fun P C => ?_)⟩
  · unfold f_X7_worstTable at h
    cases hc : zis hp a0 7 with
    | none => rw [hc] at h; cases h
    | some u => rfl
  unfold f_X7_worstTable
  refine z_is ?_
  refine z_iconst C dX7_worstTable_0 zi_m1 ?_
  refine z_istore_n (lv' := [(0, .ref a0), (1, .int (-1 : Int32))]) C dX7_worstTable_1 (by decide) rfl ?_
  refine z_iconst C dX7_worstTable_2 zi_0 ?_
  refine z_istore_n (lv' := [(0, .ref a0), (1, .int (-1 : Int32)), (2, .int (0 : Int32))]) C dX7_worstTable_3 (by decide) rfl ?_
  refine z_iconst C dX7_worstTable_4 zi_0 ?_
  refine z_istore_n (lv' := [(0, .ref a0), (1, .int (-1 : Int32)), (2, .int (0 : Int32)), (3, .int (0 : Int32))]) C dX7_worstTable_5 (by decide) rfl ?_
  refine wl_X7_worstTable_6 C (fun p9 => ?_) _ _ _ _
  refine z_iload_n C dX7_worstTable_49 0 rfl ?_
  exact z_ireturnP C dX7_worstTable_50
noncomputable def f_X7_bring (a0 : Nat) (x1 : Int32) (hp : zHp) : Option (Int32 × zHp) :=
  (zis hp a0 7).bind fun _ => (zgR hp a0 7 1).bind fun r1 => (zgR hp r1 1 0).bind fun r2 => (f_X5_has r2 (3 : Int32) x1 hp).bind fun v3 => if v3 = 0 then (some ((-1 : Int32), hp)) else (zgR hp a0 7 1).bind fun r4 => (zgR hp r4 1 1).bind fun r5 => (zgR hp r5 6 0).bind fun r6 => (zaR hp 3 r6 x1).bind fun r7 => (zgI hp r7 0 0).bind fun v8 => if v8 = (-3 : Int32) then ((zgR hp a0 7 2).bind fun r9 => (zgR hp a0 7 1).bind fun r10 => (zgR hp r10 1 1).bind fun r11 => (f_X2_keep r9 r11 hp).bind fun h12 => (zgR h12 a0 7 1).bind fun r13 => (zgR h12 r13 1 1).bind fun r14 => (zgR h12 r14 6 0).bind fun r15 => (zaR h12 3 r15 x1).bind fun r16 => (zpV h12 r16 0 0 (.int (-4 : Int32))).bind fun h17 => (zgR h17 a0 7 1).bind fun r18 => (f_X1_boxesInHall r18 h17).bind fun v19 => some (v19, h17)) else some ((-6 : Int32), hp)
set_option maxHeartbeats 4000000 in
set_option maxRecDepth 100000 in
theorem m_X7_bring (l : Launch) (D : va_G) (tc : Nat → ClassId) (ro : Nat → Nat) (b0 : Nat) {a0 : Nat} {x1 : Int32} {hp : zHp} {sz : Nat} {r : (Int32 × zHp)} (h : f_X7_bring a0 x1 hp = some r) : zis hp a0 7 = some () ∧ zM l yX7_bring cX7_bring 2 (some .int) 4 0 0 [.ref a0, .int x1] D tc ro b0 hp sz ((zoI sz) r).1 ((zoI sz) r).2.1 ((zoI sz) r).2.2 := by
  refine ⟨?_, z_start (o := (zoI sz)) (lv := [(0, .ref a0), (1, .int x1)]) h (by decide +kernel) RX7 rfl rfl (Nat.le_of_ble_eq_true rfl) (fun P C => ?_)⟩
  · unfold f_X7_bring at h
    cases hc : zis hp a0 7 with
    | none => rw [hc] at h; cases h
    | some u => rfl
  unfold f_X7_bring
  refine z_is ?_
  refine z_aload_n C dX7_bring_0 0 rfl ?_
  refine z_getR C zf_X7_19 dX7_bring_1 (fun r1 => ?_)
  refine z_getR C zf_X7_61 dX7_bring_4 (fun r2 => ?_)
  refine z_iconst C dX7_bring_7 zi_3 ?_
  refine z_iload_n C dX7_bring_8 1 rfl ?_
  refine z_callVp C zc_X7_224 [.int (3 : Int32), .int x1] (fun l D tc b0 r h => m_X5_has l D tc ro b0 h) dX7_bring_9 rfl rfl (Nat.le_of_ble_eq_true rfl) (by decide) (by decide) ⟨Nat.le_of_ble_eq_true rfl, Nat.le_of_ble_eq_true rfl⟩ (fun v3 => ?_)
  refine z_if_ne C 17 dX7_bring_12 (by decide) ?_ ?_
  · refine z_iconst C dX7_bring_15 zi_m1 ?_
    exact z_ireturn C dX7_bring_16
  refine z_aload_n C dX7_bring_17 0 rfl ?_
  refine z_getR C zf_X7_19 dX7_bring_18 (fun r4 => ?_)
  refine z_getR C zf_X7_90 dX7_bring_21 (fun r5 => ?_)
  refine z_getR C zf_X7_122 dX7_bring_24 (fun r6 => ?_)
  refine z_iload_n C dX7_bring_27 1 rfl ?_
  refine z_aaload (t := 3) (ty := .object "CountHall$Box") C (fun _ => rfl) rfl (by decide) dX7_bring_28 (fun r7 => ?_)
  refine z_getI C zf_X7_134 dX7_bring_29 (fun v8 => ?_)
  refine z_bipush C dX7_bring_32 zbi_m3 ?_
  refine z_icmp_eq C 40 dX7_bring_34 (by decide) ?_ ?_
  · refine z_aload_n C dX7_bring_40 0 rfl ?_
    refine z_getR C zf_X7_26 dX7_bring_41 (fun r9 => ?_)
    refine z_aload_n C dX7_bring_44 0 rfl ?_
    refine z_getR C zf_X7_19 dX7_bring_45 (fun r10 => ?_)
    refine z_getR C zf_X7_90 dX7_bring_48 (fun r11 => ?_)
    refine z_callVv C zc_X7_242 [.ref r11] (fun l D tc b0 r h => m_X2_keep l D tc ro b0 h) dX7_bring_51 rfl rfl (Nat.le_of_ble_eq_true rfl) (by decide) (by decide) ⟨Nat.le_of_ble_eq_true rfl, Nat.le_of_ble_eq_true rfl⟩ (fun h12 => ?_)
    refine z_aload_n C dX7_bring_54 0 rfl ?_
    refine z_getR C zf_X7_19 dX7_bring_55 (fun r13 => ?_)
    refine z_getR C zf_X7_90 dX7_bring_58 (fun r14 => ?_)
    refine z_getR C zf_X7_122 dX7_bring_61 (fun r15 => ?_)
    refine z_iload_n C dX7_bring_64 1 rfl ?_
    refine z_aaload (t := 3) (ty := .object "CountHall$Box") C (fun _ => rfl) rfl (by decide) dX7_bring_65 (fun r16 => ?_)
    refine z_bipush C dX7_bring_66 zbi_m4 ?_
    refine z_putI C zp_X7_134 dX7_bring_68 (fun h17 => ?_)
    refine z_aload_n C dX7_bring_71 0 rfl ?_
    refine z_getR C zf_X7_19 dX7_bring_72 (fun r18 => ?_)
    refine z_callVp C zc_X7_246 [] (fun l D tc b0 r h => m_X1_boxesInHall l D tc ro b0 h) dX7_bring_75 rfl rfl (Nat.le_of_ble_eq_true rfl) (by decide) (by decide) ⟨Nat.le_of_ble_eq_true rfl, Nat.le_of_ble_eq_true rfl⟩ (fun v19 => ?_)
    exact z_ireturn C dX7_bring_78
  refine z_bipush C dX7_bring_37 zbi_m6 ?_
  exact z_ireturn C dX7_bring_39
