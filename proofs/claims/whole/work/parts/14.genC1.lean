noncomputable def b_X1_wouldRepeat_14 (k48 : Option Int32) (k56 : Option Int32) (a0 : Nat) (x1 : Int32) (x2 : Int32) (x3 : Int32) (a4 : Nat) (hp : zHp) (rec : Int32 → Option Int32) (x5 : Int32) : Option Int32 :=
  (zgR hp a0 1 0).bind fun r4 => (f_X5_piles r4 hp).bind fun v5 => if x5 < v5 then ((zgR hp a0 1 0).bind fun r6 => (f_X5_wouldFind r6 x1 x2 x5 hp).bind fun v7 => (f_X0_foundBy a4 x3 x5 hp).bind fun v8 => if v7 = v8 then (zlet (x5 + (1 : Int32)) fun v9 => rec v9) else k48) else k56
noncomputable def l_X1_wouldRepeat_14 (k48 : Option Int32) (k56 : Option Int32) (a0 : Nat) (x1 : Int32) (x2 : Int32) (x3 : Int32) (a4 : Nat) (hp : zHp) (n : Nat) : Int32 → Option Int32 :=
  Nat.rec (motive := fun _ => Int32 → Option Int32) (fun _ => none) (fun _ rec => b_X1_wouldRepeat_14 k48 k56 a0 x1 x2 x3 a4 hp rec) n
theorem l_X1_wouldRepeat_14_s (k48 : Option Int32) (k56 : Option Int32) (a0 : Nat) (x1 : Int32) (x2 : Int32) (x3 : Int32) (a4 : Nat) (hp : zHp) (n : Nat) (x5 : Int32) : l_X1_wouldRepeat_14 k48 k56 a0 x1 x2 x3 a4 hp (n + 1) x5 = b_X1_wouldRepeat_14 k48 k56 a0 x1 x2 x3 a4 hp (l_X1_wouldRepeat_14 k48 k56 a0 x1 x2 x3 a4 hp n) x5 := rfl
set_option maxHeartbeats 4000000 in
set_option maxRecDepth 100000 in
theorem wl_X1_wouldRepeat_14 {P : zX} {ro : Nat → Nat} {sz : Nat} (C : zC P cX1_wouldRepeat RX1 (some .boolean) 3 0 0 6 ro) {a0 : Nat} {x1 : Int32} {x2 : Int32} {x3 : Int32} {a4 : Nat} {hp : zHp} {k48 : Option Int32} (hk48 : zG P (zoP sz hp) (k48) 48 [] [] hp sz 0 0) {k56 : Option Int32} (hk56 : zG P (zoP sz hp) (k56) 56 [(1, .int x1), (3, .int x3), (4, .ref a4)] [] hp sz 0 0) : ∀ (n : Nat) (x5 : Int32), zG P (zoP sz hp) (l_X1_wouldRepeat_14 k48 k56 a0 x1 x2 x3 a4 hp n x5) 14 [(0, .ref a0), (1, .int x1), (2, .int x2), (3, .int x3), (4, .ref a4), (5, .int x5)] [] hp sz 0 0 := by
  intro n
  induction n with
  | zero =>
    intro x5
    show zG P (zoP sz hp) none _ _ _ _ _ _ _
    exact z_none
  | succ n ih =>
    intro x5
    show zG P (zoP sz hp) (b_X1_wouldRepeat_14 k48 k56 a0 x1 x2 x3 a4 hp (l_X1_wouldRepeat_14 k48 k56 a0 x1 x2 x3 a4 hp n) x5) _ _ _ _ _ _ _
    unfold b_X1_wouldRepeat_14
    refine z_iload C dX1_wouldRepeat_14 5 rfl ?_
    refine z_aload_n C dX1_wouldRepeat_16 0 rfl ?_
    refine z_getR C zf_X1_12 dX1_wouldRepeat_17 (fun r4 => ?_)
    refine z_callVp C zc_X1_49 [] (fun l D tc b0 r h => m_X5_piles l D tc ro b0 h) dX1_wouldRepeat_20 rfl rfl (Nat.le_of_ble_eq_true rfl) (by decide) (by decide) ⟨Nat.le_of_ble_eq_true rfl, Nat.le_of_ble_eq_true rfl⟩ (fun v5 => ?_)
    refine z_icmp_ge C 56 dX1_wouldRepeat_23 (by decide) ?_ ?_
    · refine z_aload_n C dX1_wouldRepeat_26 0 rfl ?_
      refine z_getR C zf_X1_12 dX1_wouldRepeat_27 (fun r6 => ?_)
      refine z_iload_n C dX1_wouldRepeat_30 1 rfl ?_
      refine z_iload_n C dX1_wouldRepeat_31 2 rfl ?_
      refine z_iload C dX1_wouldRepeat_32 5 rfl ?_
      refine z_callVp C zc_X1_56 [.int x1, .int x2, .int x5] (fun l D tc b0 r h => m_X5_wouldFind l D tc ro b0 h) dX1_wouldRepeat_34 rfl rfl (Nat.le_of_ble_eq_true rfl) (by decide) (by decide) ⟨Nat.le_of_ble_eq_true rfl, Nat.le_of_ble_eq_true rfl⟩ (fun v7 => ?_)
      refine z_aload C dX1_wouldRepeat_37 4 rfl ?_
      refine z_iload_n C dX1_wouldRepeat_39 3 rfl ?_
      refine z_iload C dX1_wouldRepeat_40 5 rfl ?_
      refine z_callVp C zc_X1_118 [.int x3, .int x5] (fun l D tc b0 r h => m_X0_foundBy l D tc ro b0 h) dX1_wouldRepeat_42 rfl rfl (Nat.le_of_ble_eq_true rfl) (by decide) (by decide) ⟨Nat.le_of_ble_eq_true rfl, Nat.le_of_ble_eq_true rfl⟩ (fun v8 => ?_)
      refine z_icmp_eq C 50 dX1_wouldRepeat_45 (by decide) ?_ ?_
      · refine z_iincL C 5 (fun v9 => [(0, .ref a0), (1, .int x1), (2, .int x2), (3, .int x3), (4, .ref a4), (5, .int v9)]) dX1_wouldRepeat_50 rfl zi_1 (by decide) (fun _ => rfl) (fun v9 => ?_)
        refine z_goto C 14 dX1_wouldRepeat_53 (by decide) ?_
        exact ih _
      exact z_sub [] rfl (hk48)
    exact z_sub [1, 3, 4] rfl (hk56)
noncomputable def f_X1_wouldRepeat (a0 : Nat) (x1 : Int32) (x2 : Int32) (x3 : Int32) (hp : zHp) : Option Int32 :=
  (zis hp a0 1).bind fun _ => (zgR hp a0 1 1).bind fun r1 => (zgR hp r1 6 0).bind fun r2 => (zaR hp 3 r2 x2).bind fun r3 => l_X1_wouldRepeat_14 (some (0 : Int32)) ((zgR hp r3 0 7).bind fun r10 => (zaI hp 0 r10 x3).bind fun v11 => if v11 = x1 then (some (0 : Int32)) else some (1 : Int32)) a0 x1 x2 x3 r3 hp 1000000 (0 : Int32)
set_option maxHeartbeats 4000000 in
set_option maxRecDepth 100000 in
theorem m_X1_wouldRepeat (l : Launch) (D : va_G) (tc : Nat → ClassId) (ro : Nat → Nat) (b0 : Nat) {a0 : Nat} {x1 : Int32} {x2 : Int32} {x3 : Int32} {hp : zHp} {sz : Nat} {r : Int32} (h : f_X1_wouldRepeat a0 x1 x2 x3 hp = some r) : zis hp a0 1 = some () ∧ zM l yX1_wouldRepeat cX1_wouldRepeat 6 (some .boolean) 3 0 0 [.ref a0, .int x1, .int x2, .int x3] D tc ro b0 hp sz ((zoP sz hp) r).1 ((zoP sz hp) r).2.1 ((zoP sz hp) r).2.2 := by
  refine ⟨?_, z_start (o := (zoP sz hp)) (lv := [(0, .ref a0), (1, .int x1), (2, .int x2), (3, .int x3)]) h (by decide +kernel) RX1 rfl rfl (Nat.le_of_ble_eq_true rfl) (fun P C => ?_)⟩
  · unfold f_X1_wouldRepeat at h
    cases hc : zis hp a0 1 with
    | none => rw [hc] at h; cases h
    | some u => rfl
  unfold f_X1_wouldRepeat
  refine z_is ?_
  refine z_aload_n C dX1_wouldRepeat_0 0 rfl ?_
  refine z_getR C zf_X1_21 dX1_wouldRepeat_1 (fun r1 => ?_)
  refine z_getR C zf_X1_33 dX1_wouldRepeat_4 (fun r2 => ?_)
  refine z_iload_n C dX1_wouldRepeat_7 2 rfl ?_
  refine z_aaload (t := 3) (ty := .object "CountHall$Box") C (fun _ => rfl) rfl (by decide) dX1_wouldRepeat_8 (fun r3 => ?_)
  refine z_astore (lv' := [(0, .ref a0), (1, .int x1), (2, .int x2), (3, .int x3), (4, .ref r3)]) C dX1_wouldRepeat_9 (by decide) rfl ?_
  refine z_iconst C dX1_wouldRepeat_11 zi_0 ?_
  refine z_istore (lv' := [(0, .ref a0), (1, .int x1), (2, .int x2), (3, .int x3), (4, .ref r3), (5, .int (0 : Int32))]) C dX1_wouldRepeat_12 (by decide) rfl ?_
  refine wl_X1_wouldRepeat_14 C ?_ ?_ _ _
  · refine z_iconst C dX1_wouldRepeat_48 zi_0 ?_
    exact z_kreturnP C rfl dX1_wouldRepeat_49
  refine z_aload C dX1_wouldRepeat_56 2 rfl ?_
  refine z_getR C zf_X1_46 dX1_wouldRepeat_58 (fun r10 => ?_)
  refine z_iload_n C dX1_wouldRepeat_61 1 rfl ?_
  refine z_iaload C dX1_wouldRepeat_62 (fun v11 => ?_)
  refine z_iload_n C dX1_wouldRepeat_63 0 rfl ?_
  refine z_icmp_eq C 71 dX1_wouldRepeat_64 (by decide) ?_ ?_
  · refine z_iconst C dX1_wouldRepeat_71 zi_0 ?_
    exact z_kreturnP C rfl dX1_wouldRepeat_72
  refine z_iconst C dX1_wouldRepeat_67 zi_1 ?_
  refine z_goto C 72 dX1_wouldRepeat_68 (by decide) ?_
  exact z_kreturnP C rfl dX1_wouldRepeat_72
noncomputable def b_X1_canRepeatACount_17 (k43 : Option Int32) (k51 : Option Int32) (a0 : Nat) (x1 : Int32) (x2 : Int32) (hp : zHp) (rec : Int32 → Option Int32) (x3 : Int32) : Option Int32 :=
  (zgR hp a0 1 1).bind fun r4 => (zgR hp r4 6 0).bind fun r5 => (zaR hp 3 r5 x1).bind fun r6 => (zgI hp r6 0 3).bind fun v7 => if x3 < v7 then ((f_X1_wouldRepeat a0 x2 x1 x3 hp).bind fun v8 => if v8 = 0 then (zlet (x3 + (1 : Int32)) fun v9 => rec v9) else k43) else k51
noncomputable def l_X1_canRepeatACount_17 (k43 : Option Int32) (k51 : Option Int32) (a0 : Nat) (x1 : Int32) (x2 : Int32) (hp : zHp) (n : Nat) : Int32 → Option Int32 :=
  Nat.rec (motive := fun _ => Int32 → Option Int32) (fun _ => none) (fun _ rec => b_X1_canRepeatACount_17 k43 k51 a0 x1 x2 hp rec) n
theorem l_X1_canRepeatACount_17_s (k43 : Option Int32) (k51 : Option Int32) (a0 : Nat) (x1 : Int32) (x2 : Int32) (hp : zHp) (n : Nat) (x3 : Int32) : l_X1_canRepeatACount_17 k43 k51 a0 x1 x2 hp (n + 1) x3 = b_X1_canRepeatACount_17 k43 k51 a0 x1 x2 hp (l_X1_canRepeatACount_17 k43 k51 a0 x1 x2 hp n) x3 := rfl
set_option maxHeartbeats 4000000 in
set_option maxRecDepth 100000 in
theorem wl_X1_canRepeatACount_17 {P : zX} {ro : Nat → Nat} {sz : Nat} (C : zC P cX1_canRepeatACount RX1 (some .boolean) 4 0 0 4 ro) {a0 : Nat} {x1 : Int32} {x2 : Int32} {hp : zHp} {k43 : Option Int32} (hk43 : zG P (zoP sz hp) (k43) 43 [] [] hp sz 0 0) {k51 : Option Int32} (hk51 : zG P (zoP sz hp) (k51) 51 [(0, .ref a0), (1, .int x1), (2, .int x2)] [] hp sz 0 0) : ∀ (n : Nat) (x3 : Int32), zG P (zoP sz hp) (l_X1_canRepeatACount_17 k43 k51 a0 x1 x2 hp n x3) 17 [(0, .ref a0), (1, .int x1), (2, .int x2), (3, .int x3)] [] hp sz 0 0 := by
  intro n
  induction n with
  | zero =>
    intro x3
    show zG P (zoP sz hp) none _ _ _ _ _ _ _
    exact z_none
  | succ n ih =>
    intro x3
    show zG P (zoP sz hp) (b_X1_canRepeatACount_17 k43 k51 a0 x1 x2 hp (l_X1_canRepeatACount_17 k43 k51 a0 x1 x2 hp n) x3) _ _ _ _ _ _ _
    unfold b_X1_canRepeatACount_17
    refine z_iload_n C dX1_canRepeatACount_17 3 rfl ?_
    refine z_aload_n C dX1_canRepeatACount_18 0 rfl ?_
    refine z_getR C zf_X1_21 dX1_canRepeatACount_19 (fun r4 => ?_)
    refine z_getR C zf_X1_33 dX1_canRepeatACount_22 (fun r5 => ?_)
    refine z_iload_n C dX1_canRepeatACount_25 1 rfl ?_
    refine z_aaload (t := 3) (ty := .object "CountHall$Box") C (fun _ => rfl) rfl (by decide) dX1_canRepeatACount_26 (fun r6 => ?_)
    refine z_getI C zf_X1_43 dX1_canRepeatACount_27 (fun v7 => ?_)
    refine z_icmp_ge C 51 dX1_canRepeatACount_30 (by decide) ?_ ?_
    · refine z_aload_n C dX1_canRepeatACount_33 0 rfl ?_
      refine z_iload_n C dX1_canRepeatACount_34 2 rfl ?_
      refine z_iload_n C dX1_canRepeatACount_35 1 rfl ?_
      refine z_iload_n C dX1_canRepeatACount_36 3 rfl ?_
      refine z_callVp C zc_X1_131 [.int x2, .int x1, .int x3] (fun l D tc b0 r h => m_X1_wouldRepeat l D tc ro b0 h) dX1_canRepeatACount_37 rfl rfl (Nat.le_of_ble_eq_true rfl) (by decide) (by decide) ⟨Nat.le_of_ble_eq_true rfl, Nat.le_of_ble_eq_true rfl⟩ (fun v8 => ?_)
      refine z_if_eq C 45 dX1_canRepeatACount_40 (by decide) ?_ ?_
      · refine z_iincL C 3 (fun v9 => [(0, .ref a0), (1, .int x1), (2, .int x2), (3, .int v9)]) dX1_canRepeatACount_45 rfl zi_1 (by decide) (fun _ => rfl) (fun v9 => ?_)
        refine z_goto C 17 dX1_canRepeatACount_48 (by decide) ?_
        exact ih _
      exact z_sub [] rfl (hk43)
    exact z_sub [0, 1, 2] rfl (hk51)
noncomputable def b_X1_canRepeatACount_2 (k43 : Option Int32) (k57 : Option Int32) (a0 : Nat) (x1 : Int32) (hp : zHp) (rec : Int32 → Option Int32) (x2 : Int32) : Option Int32 :=
  (zgR hp a0 1 0).bind fun r1 => (zgR hp r1 5 0).bind fun r2 => (zaI hp 0 r2 (4 : Int32)).bind fun v3 => if x2 < v3 then (l_X1_canRepeatACount_17 (k43) (zlet (x2 + (1 : Int32)) fun v10 => rec v10) a0 x1 x2 hp 1000000 (0 : Int32)) else k57
noncomputable def l_X1_canRepeatACount_2 (k43 : Option Int32) (k57 : Option Int32) (a0 : Nat) (x1 : Int32) (hp : zHp) (n : Nat) : Int32 → Option Int32 :=
  Nat.rec (motive := fun _ => Int32 → Option Int32) (fun _ => none) (fun _ rec => b_X1_canRepeatACount_2 k43 k57 a0 x1 hp rec) n
theorem l_X1_canRepeatACount_2_s (k43 : Option Int32) (k57 : Option Int32) (a0 : Nat) (x1 : Int32) (hp : zHp) (n : Nat) (x2 : Int32) : l_X1_canRepeatACount_2 k43 k57 a0 x1 hp (n + 1) x2 = b_X1_canRepeatACount_2 k43 k57 a0 x1 hp (l_X1_canRepeatACount_2 k43 k57 a0 x1 hp n) x2 := rfl
set_option maxHeartbeats 4000000 in
set_option maxRecDepth 100000 in
theorem wl_X1_canRepeatACount_2 {P : zX} {ro : Nat → Nat} {sz : Nat} (C : zC P cX1_canRepeatACount RX1 (some .boolean) 4 0 0 4 ro) {a0 : Nat} {x1 : Int32} {hp : zHp} {k43 : Option Int32} (hk43 : zG P (zoP sz hp) (k43) 43 [] [] hp sz 0 0) {k57 : Option Int32} (hk57 : zG P (zoP sz hp) (k57) 57 [] [] hp sz 0 0) : ∀ (n : Nat) (x2 : Int32), zG P (zoP sz hp) (l_X1_canRepeatACount_2 k43 k57 a0 x1 hp n x2) 2 [(0, .ref a0), (1, .int x1), (2, .int x2)] [] hp sz 0 0 := by
  intro n
  induction n with
  | zero =>
    intro x2
    show zG P (zoP sz hp) none _ _ _ _ _ _ _
    exact z_none
  | succ n ih =>
    intro x2
    show zG P (zoP sz hp) (b_X1_canRepeatACount_2 k43 k57 a0 x1 hp (l_X1_canRepeatACount_2 k43 k57 a0 x1 hp n) x2) _ _ _ _ _ _ _
    unfold b_X1_canRepeatACount_2
    refine z_iload_n C dX1_canRepeatACount_2 2 rfl ?_
    refine z_aload_n C dX1_canRepeatACount_3 0 rfl ?_
    refine z_getR C zf_X1_12 dX1_canRepeatACount_4 (fun r1 => ?_)
    refine z_getR C zf_X1_29 dX1_canRepeatACount_7 (fun r2 => ?_)
    refine z_iconst C dX1_canRepeatACount_10 zi_4 ?_
    refine z_iaload C dX1_canRepeatACount_11 (fun v3 => ?_)
    refine z_icmp_ge C 57 dX1_canRepeatACount_12 (by decide) ?_ ?_
    · refine z_iconst C dX1_canRepeatACount_15 zi_0 ?_
      refine z_istore_n (lv' := [(0, .ref a0), (1, .int x1), (2, .int x2), (3, .int (0 : Int32))]) C dX1_canRepeatACount_16 (by decide) rfl ?_
      refine wl_X1_canRepeatACount_17 C ?_ ?_ _ _
      · exact hk43
      refine z_iincL C 2 (fun v10 => [(0, .ref a0), (1, .int x1), (2, .int v10)]) dX1_canRepeatACount_51 rfl zi_1 (by decide) (fun _ => rfl) (fun v10 => ?_)
      refine z_goto C 2 dX1_canRepeatACount_54 (by decide) ?_
      exact ih _
    exact z_sub [] rfl (hk57)
noncomputable def f_X1_canRepeatACount (a0 : Nat) (x1 : Int32) (hp : zHp) : Option Int32 :=
  (zis hp a0 1).bind fun _ => l_X1_canRepeatACount_2 (some (1 : Int32)) (some (0 : Int32)) a0 x1 hp 1000000 (0 : Int32)
set_option maxHeartbeats 4000000 in
set_option maxRecDepth 100000 in
theorem m_X1_canRepeatACount (l : Launch) (D : va_G) (tc : Nat → ClassId) (ro : Nat → Nat) (b0 : Nat) {a0 : Nat} {x1 : Int32} {hp : zHp} {sz : Nat} {r : Int32} (h : f_X1_canRepeatACount a0 x1 hp = some r) : zis hp a0 1 = some () ∧ zM l yX1_canRepeatACount cX1_canRepeatACount 4 (some .boolean) 4 0 0 [.ref a0, .int x1] D tc ro b0 hp sz ((zoP sz hp) r).1 ((zoP sz hp) r).2.1 ((zoP sz hp) r).2.2 := by
  refine ⟨?_, z_start (o := (zoP sz hp)) (lv := [(0, .ref a0), (1, .int x1)]) h (by decide +kernel) RX1 rfl rfl (Nat.le_of_ble_eq_true rfl) (fun P C => ?_)⟩
  · unfold f_X1_canRepeatACount at h
    cases hc : zis hp a0 1 with
    | none => rw [hc] at h; cases h
    | some u => rfl
  unfold f_X1_canRepeatACount
  refine z_is ?_
  refine z_iconst C dX1_canRepeatACount_0 zi_0 ?_
  refine z_istore_n (lv' := [(0, .ref a0), (1, .int x1), (2, .int (0 : Int32))]) C dX1_canRepeatACount_1 (by decide) rfl ?_
  refine wl_X1_canRepeatACount_2 C ?_ ?_ _ _
  · refine z_iconst C dX1_canRepeatACount_43 zi_1 ?_
    exact z_kreturnP C rfl dX1_canRepeatACount_44
  refine z_iconst C dX1_canRepeatACount_57 zi_0 ?_
  exact z_kreturnP C rfl dX1_canRepeatACount_58
noncomputable def b_X5_wouldAgree_3 (k31 : Option Int32) (k39 : Option Int32) (a0 : Nat) (x1 : Int32) (x2 : Int32) (x3 : Int32) (hp : zHp) (rec : Int32 → Option Int32) (x4 : Int32) : Option Int32 :=
  (f_X5_piles a0 hp).bind fun v1 => if x4 < v1 then ((f_X5_wouldFind a0 x1 x3 x4 hp).bind fun v2 => (f_X5_wouldFind a0 x2 x3 x4 hp).bind fun v3 => if v2 = v3 then (zlet (x4 + (1 : Int32)) fun v4 => rec v4) else k31) else k39
noncomputable def l_X5_wouldAgree_3 (k31 : Option Int32) (k39 : Option Int32) (a0 : Nat) (x1 : Int32) (x2 : Int32) (x3 : Int32) (hp : zHp) (n : Nat) : Int32 → Option Int32 :=
  Nat.rec (motive := fun _ => Int32 → Option Int32) (fun _ => none) (fun _ rec => b_X5_wouldAgree_3 k31 k39 a0 x1 x2 x3 hp rec) n
theorem l_X5_wouldAgree_3_s (k31 : Option Int32) (k39 : Option Int32) (a0 : Nat) (x1 : Int32) (x2 : Int32) (x3 : Int32) (hp : zHp) (n : Nat) (x4 : Int32) : l_X5_wouldAgree_3 k31 k39 a0 x1 x2 x3 hp (n + 1) x4 = b_X5_wouldAgree_3 k31 k39 a0 x1 x2 x3 hp (l_X5_wouldAgree_3 k31 k39 a0 x1 x2 x3 hp n) x4 := rfl
set_option maxHeartbeats 4000000 in
set_option maxRecDepth 100000 in
theorem wl_X5_wouldAgree_3 {P : zX} {ro : Nat → Nat} {sz : Nat} (C : zC P cX5_wouldAgree RX5 (some .boolean) 3 0 0 5 ro) {a0 : Nat} {x1 : Int32} {x2 : Int32} {x3 : Int32} {hp : zHp} {k31 : Option Int32} (hk31 : zG P (zoP sz hp) (k31) 31 [] [] hp sz 0 0) {k39 : Option Int32} (hk39 : zG P (zoP sz hp) (k39) 39 [(1, .int x1), (2, .int x2)] [] hp sz 0 0) : ∀ (n : Nat) (x4 : Int32), zG P (zoP sz hp) (l_X5_wouldAgree_3 k31 k39 a0 x1 x2 x3 hp n x4) 3 [(0, .ref a0), (1, .int x1), (2, .int x2), (3, .int x3), (4, .int x4)] [] hp sz 0 0 := by
  intro n
  induction n with
  | zero =>
    intro x4
    show zG P (zoP sz hp) none _ _ _ _ _ _ _
    exact z_none
  | succ n ih =>
    intro x4
    show zG P (zoP sz hp) (b_X5_wouldAgree_3 k31 k39 a0 x1 x2 x3 hp (l_X5_wouldAgree_3 k31 k39 a0 x1 x2 x3 hp n) x4) _ _ _ _ _ _ _
    unfold b_X5_wouldAgree_3
    refine z_iload C dX5_wouldAgree_3 4 rfl ?_
    refine z_aload_n C dX5_wouldAgree_5 0 rfl ?_
    refine z_callVp C zc_X5_44 [] (fun l D tc b0 r h => m_X5_piles l D tc ro b0 h) dX5_wouldAgree_6 rfl rfl (Nat.le_of_ble_eq_true rfl) (by decide) (by decide) ⟨Nat.le_of_ble_eq_true rfl, Nat.le_of_ble_eq_true rfl⟩ (fun v1 => ?_)
    refine z_icmp_ge C 39 dX5_wouldAgree_9 (by decide) ?_ ?_
    · refine z_aload_n C dX5_wouldAgree_12 0 rfl ?_
      refine z_iload_n C dX5_wouldAgree_13 1 rfl ?_
      refine z_iload_n C dX5_wouldAgree_14 3 rfl ?_
      refine z_iload C dX5_wouldAgree_15 4 rfl ?_
      refine z_callVp C zc_X5_56 [.int x1, .int x3, .int x4] (fun l D tc b0 r h => m_X5_wouldFind l D tc ro b0 h) dX5_wouldAgree_17 rfl rfl (Nat.le_of_ble_eq_true rfl) (by decide) (by decide) ⟨Nat.le_of_ble_eq_true rfl, Nat.le_of_ble_eq_true rfl⟩ (fun v2 => ?_)
      refine z_aload_n C dX5_wouldAgree_20 0 rfl ?_
      refine z_iload_n C dX5_wouldAgree_21 2 rfl ?_
      refine z_iload_n C dX5_wouldAgree_22 3 rfl ?_
      refine z_iload C dX5_wouldAgree_23 4 rfl ?_
      refine z_callVp C zc_X5_56 [.int x2, .int x3, .int x4] (fun l D tc b0 r h => m_X5_wouldFind l D tc ro b0 h) dX5_wouldAgree_25 rfl rfl (Nat.le_of_ble_eq_true rfl) (by decide) (by decide) ⟨Nat.le_of_ble_eq_true rfl, Nat.le_of_ble_eq_true rfl⟩ (fun v3 => ?_)
      refine z_icmp_eq C 33 dX5_wouldAgree_28 (by decide) ?_ ?_
      · refine z_iincL C 4 (fun v4 => [(0, .ref a0), (1, .int x1), (2, .int x2), (3, .int x3), (4, .int v4)]) dX5_wouldAgree_33 rfl zi_1 (by decide) (fun _ => rfl) (fun v4 => ?_)
        refine z_goto C 3 dX5_wouldAgree_36 (by decide) ?_
        exact ih _
      exact z_sub [] rfl (hk31)
    exact z_sub [1, 2] rfl (hk39)
noncomputable def f_X5_wouldAgree (a0 : Nat) (x1 : Int32) (x2 : Int32) (x3 : Int32) (hp : zHp) : Option Int32 :=
  (zis hp a0 5).bind fun _ => l_X5_wouldAgree_3 (some (0 : Int32)) (if x1 = x2 then (some (0 : Int32)) else some (1 : Int32)) a0 x1 x2 x3 hp 1000000 (0 : Int32)
set_option maxHeartbeats 4000000 in
set_option maxRecDepth 100000 in
theorem m_X5_wouldAgree (l : Launch) (D : va_G) (tc : Nat → ClassId) (ro : Nat → Nat) (b0 : Nat) {a0 : Nat} {x1 : Int32} {x2 : Int32} {x3 : Int32} {hp : zHp} {sz : Nat} {r : Int32} (h : f_X5_wouldAgree a0 x1 x2 x3 hp = some r) : zis hp a0 5 = some () ∧ zM l yX5_wouldAgree cX5_wouldAgree 5 (some .boolean) 3 0 0 [.ref a0, .int x1, .int x2, .int x3] D tc ro b0 hp sz ((zoP sz hp) r).1 ((zoP sz hp) r).2.1 ((zoP sz hp) r).2.2 := by
  refine ⟨?_, z_start (o := (zoP sz hp)) (lv := [(0, .ref a0), (1, .int x1), (2, .int x2), (3, .int x3)]) h (by decide +kernel) RX5 rfl rfl (Nat.le_of_ble_eq_true rfl) (fun P C => ?_)⟩
  · unfold f_X5_wouldAgree at h
    cases hc : zis hp a0 5 with
    | none => rw [hc] at h; cases h
    | some u => rfl
  unfold f_X5_wouldAgree
  refine z_is ?_
  refine z_iconst C dX5_wouldAgree_0 zi_0 ?_
  refine z_istore (lv' := [(0, .ref a0), (1, .int x1), (2, .int x2), (3, .int x3), (4, .int (0 : Int32))]) C dX5_wouldAgree_1 (by decide) rfl ?_
  refine wl_X5_wouldAgree_3 C ?_ ?_ _ _
  · refine z_iconst C dX5_wouldAgree_31 zi_0 ?_
    exact z_kreturnP C rfl dX5_wouldAgree_32
  refine z_iload_n C dX5_wouldAgree_39 0 rfl ?_
  refine z_iload_n C dX5_wouldAgree_40 1 rfl ?_
  refine z_icmp_eq C 48 dX5_wouldAgree_41 (by decide) ?_ ?_
  · refine z_iconst C dX5_wouldAgree_48 zi_0 ?_
    exact z_kreturnP C rfl dX5_wouldAgree_49
  refine z_iconst C dX5_wouldAgree_44 zi_1 ?_
  refine z_goto C 49 dX5_wouldAgree_45 (by decide) ?_
  exact z_kreturnP C rfl dX5_wouldAgree_49
noncomputable def b_X1_haveTablesThatAgree_19 (k45 : Option Int32) (k53 : Option Int32) (a0 : Nat) (x1 : Int32) (x2 : Int32) (hp : zHp) (rec : Int32 → Option Int32) (x3 : Int32) : Option Int32 :=
  (zgR hp a0 1 0).bind fun r5 => (zgR hp r5 5 0).bind fun r6 => (zaI hp 0 r6 (4 : Int32)).bind fun v7 => if x3 < v7 then ((zgR hp a0 1 0).bind fun r8 => (f_X5_wouldAgree r8 x2 x3 x1 hp).bind fun v9 => if v9 = 0 then (zlet (x3 + (1 : Int32)) fun v10 => rec v10) else k45) else k53
noncomputable def l_X1_haveTablesThatAgree_19 (k45 : Option Int32) (k53 : Option Int32) (a0 : Nat) (x1 : Int32) (x2 : Int32) (hp : zHp) (n : Nat) : Int32 → Option Int32 :=
  Nat.rec (motive := fun _ => Int32 → Option Int32) (fun _ => none) (fun _ rec => b_X1_haveTablesThatAgree_19 k45 k53 a0 x1 x2 hp rec) n
theorem l_X1_haveTablesThatAgree_19_s (k45 : Option Int32) (k53 : Option Int32) (a0 : Nat) (x1 : Int32) (x2 : Int32) (hp : zHp) (n : Nat) (x3 : Int32) : l_X1_haveTablesThatAgree_19 k45 k53 a0 x1 x2 hp (n + 1) x3 = b_X1_haveTablesThatAgree_19 k45 k53 a0 x1 x2 hp (l_X1_haveTablesThatAgree_19 k45 k53 a0 x1 x2 hp n) x3 := rfl
set_option maxHeartbeats 4000000 in
set_option maxRecDepth 100000 in
theorem wl_X1_haveTablesThatAgree_19 {P : zX} {ro : Nat → Nat} {sz : Nat} (C : zC P cX1_haveTablesThatAgree RX1 (some .boolean) 4 0 0 4 ro) {a0 : Nat} {x1 : Int32} {x2 : Int32} {hp : zHp} {k45 : Option Int32} (hk45 : zG P (zoP sz hp) (k45) 45 [] [] hp sz 0 0) {k53 : Option Int32} (hk53 : zG P (zoP sz hp) (k53) 53 [(0, .ref a0), (1, .int x1), (2, .int x2)] [] hp sz 0 0) : ∀ (n : Nat) (x3 : Int32), zG P (zoP sz hp) (l_X1_haveTablesThatAgree_19 k45 k53 a0 x1 x2 hp n x3) 19 [(0, .ref a0), (1, .int x1), (2, .int x2), (3, .int x3)] [] hp sz 0 0 := by
  intro n
  induction n with
  | zero =>
    intro x3
    show zG P (zoP sz hp) none _ _ _ _ _ _ _
    exact z_none
  | succ n ih =>
    intro x3
    show zG P (zoP sz hp) (b_X1_haveTablesThatAgree_19 k45 k53 a0 x1 x2 hp (l_X1_haveTablesThatAgree_19 k45 k53 a0 x1 x2 hp n) x3) _ _ _ _ _ _ _
    unfold b_X1_haveTablesThatAgree_19
    refine z_iload_n C dX1_haveTablesThatAgree_19 3 rfl ?_
    refine z_aload_n C dX1_haveTablesThatAgree_20 0 rfl ?_
    refine z_getR C zf_X1_12 dX1_haveTablesThatAgree_21 (fun r5 => ?_)
    refine z_getR C zf_X1_29 dX1_haveTablesThatAgree_24 (fun r6 => ?_)
    refine z_iconst C dX1_haveTablesThatAgree_27 zi_4 ?_
    refine z_iaload C dX1_haveTablesThatAgree_28 (fun v7 => ?_)
    refine z_icmp_ge C 53 dX1_haveTablesThatAgree_29 (by decide) ?_ ?_
    · refine z_aload_n C dX1_haveTablesThatAgree_32 0 rfl ?_
      refine z_getR C zf_X1_12 dX1_haveTablesThatAgree_33 (fun r8 => ?_)
      refine z_iload_n C dX1_haveTablesThatAgree_36 2 rfl ?_
      refine z_iload_n C dX1_haveTablesThatAgree_37 3 rfl ?_
      refine z_iload_n C dX1_haveTablesThatAgree_38 1 rfl ?_
      refine z_callVp C zc_X1_135 [.int x2, .int x3, .int x1] (fun l D tc b0 r h => m_X5_wouldAgree l D tc ro b0 h) dX1_haveTablesThatAgree_39 rfl rfl (Nat.le_of_ble_eq_true rfl) (by decide) (by decide) ⟨Nat.le_of_ble_eq_true rfl, Nat.le_of_ble_eq_true rfl⟩ (fun v9 => ?_)
      refine z_if_eq C 47 dX1_haveTablesThatAgree_42 (by decide) ?_ ?_
      · refine z_iincL C 3 (fun v10 => [(0, .ref a0), (1, .int x1), (2, .int x2), (3, .int v10)]) dX1_haveTablesThatAgree_47 rfl zi_1 (by decide) (fun _ => rfl) (fun v10 => ?_)
        refine z_goto C 19 dX1_haveTablesThatAgree_50 (by decide) ?_
        exact ih _
      exact z_sub [] rfl (hk45)
    exact z_sub [0, 1, 2] rfl (hk53)
noncomputable def b_X1_haveTablesThatAgree_2 (k45 : Option Int32) (k59 : Option Int32) (a0 : Nat) (x1 : Int32) (hp : zHp) (rec : Int32 → Option Int32) (x2 : Int32) : Option Int32 :=
  (zgR hp a0 1 0).bind fun r1 => (zgR hp r1 5 0).bind fun r2 => (zaI hp 0 r2 (4 : Int32)).bind fun v3 => if x2 < v3 then (zlet (x2 + (1 : Int32)) fun v4 => l_X1_haveTablesThatAgree_19 (k45) (zlet (x2 + (1 : Int32)) fun v11 => rec v11) a0 x1 x2 hp 1000000 v4) else k59
noncomputable def l_X1_haveTablesThatAgree_2 (k45 : Option Int32) (k59 : Option Int32) (a0 : Nat) (x1 : Int32) (hp : zHp) (n : Nat) : Int32 → Option Int32 :=
  Nat.rec (motive := fun _ => Int32 → Option Int32) (fun _ => none) (fun _ rec => b_X1_haveTablesThatAgree_2 k45 k59 a0 x1 hp rec) n
theorem l_X1_haveTablesThatAgree_2_s (k45 : Option Int32) (k59 : Option Int32) (a0 : Nat) (x1 : Int32) (hp : zHp) (n : Nat) (x2 : Int32) : l_X1_haveTablesThatAgree_2 k45 k59 a0 x1 hp (n + 1) x2 = b_X1_haveTablesThatAgree_2 k45 k59 a0 x1 hp (l_X1_haveTablesThatAgree_2 k45 k59 a0 x1 hp n) x2 := rfl
set_option maxHeartbeats 4000000 in
set_option maxRecDepth 100000 in
theorem wl_X1_haveTablesThatAgree_2 {P : zX} {ro : Nat → Nat} {sz : Nat} (C : zC P cX1_haveTablesThatAgree RX1 (some .boolean) 4 0 0 4 ro) {a0 : Nat} {x1 : Int32} {hp : zHp} {k45 : Option Int32} (hk45 : zG P (zoP sz hp) (k45) 45 [] [] hp sz 0 0) {k59 : Option Int32} (hk59 : zG P (zoP sz hp) (k59) 59 [] [] hp sz 0 0) : ∀ (n : Nat) (x2 : Int32), zG P (zoP sz hp) (l_X1_haveTablesThatAgree_2 k45 k59 a0 x1 hp n x2) 2 [(0, .ref a0), (1, .int x1), (2, .int x2)] [] hp sz 0 0 := by
  intro n
  induction n with
  | zero =>
    intro x2
    show zG P (zoP sz hp) none _ _ _ _ _ _ _
    exact z_none
  | succ n ih =>
    intro x2
    show zG P (zoP sz hp) (b_X1_haveTablesThatAgree_2 k45 k59 a0 x1 hp (l_X1_haveTablesThatAgree_2 k45 k59 a0 x1 hp n) x2) _ _ _ _ _ _ _
    unfold b_X1_haveTablesThatAgree_2
    refine z_iload_n C dX1_haveTablesThatAgree_2 2 rfl ?_
    refine z_aload_n C dX1_haveTablesThatAgree_3 0 rfl ?_
    refine z_getR C zf_X1_12 dX1_haveTablesThatAgree_4 (fun r1 => ?_)
    refine z_getR C zf_X1_29 dX1_haveTablesThatAgree_7 (fun r2 => ?_)
    refine z_iconst C dX1_haveTablesThatAgree_10 zi_4 ?_
    refine z_iaload C dX1_haveTablesThatAgree_11 (fun v3 => ?_)
    refine z_icmp_ge C 59 dX1_haveTablesThatAgree_12 (by decide) ?_ ?_
    · refine z_iload_n C dX1_haveTablesThatAgree_15 2 rfl ?_
      refine z_iconst C dX1_haveTablesThatAgree_16 zi_1 ?_
      refine z_iadd C dX1_haveTablesThatAgree_17 ?_
      refine z_istore_nL C (fun v4 => [(0, .ref a0), (1, .int x1), (2, .int x2), (3, .int v4)]) dX1_haveTablesThatAgree_18 (by decide) (fun _ => rfl) (fun v4 => ?_)
      refine wl_X1_haveTablesThatAgree_19 C ?_ ?_ _ _
      · exact hk45
      refine z_iincL C 2 (fun v11 => [(0, .ref a0), (1, .int x1), (2, .int v11)]) dX1_haveTablesThatAgree_53 rfl zi_1 (by decide) (fun _ => rfl) (fun v11 => ?_)
      refine z_goto C 2 dX1_haveTablesThatAgree_56 (by decide) ?_
      exact ih _
    exact z_sub [] rfl (hk59)
noncomputable def f_X1_haveTablesThatAgree (a0 : Nat) (x1 : Int32) (hp : zHp) : Option Int32 :=
  (zis hp a0 1).bind fun _ => l_X1_haveTablesThatAgree_2 (some (1 : Int32)) (some (0 : Int32)) a0 x1 hp 1000000 (0 : Int32)
set_option maxHeartbeats 4000000 in
set_option maxRecDepth 100000 in
theorem m_X1_haveTablesThatAgree (l : Launch) (D : va_G) (tc : Nat → ClassId) (ro : Nat → Nat) (b0 : Nat) {a0 : Nat} {x1 : Int32} {hp : zHp} {sz : Nat} {r : Int32} (h : f_X1_haveTablesThatAgree a0 x1 hp = some r) : zis hp a0 1 = some () ∧ zM l yX1_haveTablesThatAgree cX1_haveTablesThatAgree 4 (some .boolean) 4 0 0 [.ref a0, .int x1] D tc ro b0 hp sz ((zoP sz hp) r).1 ((zoP sz hp) r).2.1 ((zoP sz hp) r).2.2 := by
  refine ⟨?_, z_start (o := (zoP sz hp)) (lv := [(0, .ref a0), (1, .int x1)]) h (by decide +kernel) RX1 rfl rfl (Nat.le_of_ble_eq_true rfl) (fun P C => ?_)⟩
  · unfold f_X1_haveTablesThatAgree at h
    cases hc : zis hp a0 1 with
    | none => rw [hc] at h; cases h
    | some u => rfl
  unfold f_X1_haveTablesThatAgree
  refine z_is ?_
  refine z_iconst C dX1_haveTablesThatAgree_0 zi_0 ?_
  refine z_istore_n (lv' := [(0, .ref a0), (1, .int x1), (2, .int (0 : Int32))]) C dX1_haveTablesThatAgree_1 (by decide) rfl ?_
  refine wl_X1_haveTablesThatAgree_2 C ?_ ?_ _ _
  · refine z_iconst C dX1_haveTablesThatAgree_45 zi_1 ?_
    exact z_kreturnP C rfl dX1_haveTablesThatAgree_46
  refine z_iconst C dX1_haveTablesThatAgree_59 zi_0 ?_
  exact z_kreturnP C rfl dX1_haveTablesThatAgree_60
noncomputable def j_X1_countsToConfirm_39 (a0 : Nat) (x1 : Int32) (a2 : Nat) (hp : zHp) : Option Int32 :=
  (zgI hp a2 0 3).bind fun v6 => if (4 : Int32) < (v6 + (2 : Int32)) then (some (-1 : Int32)) else (f_X1_haveTablesThatAgree a0 x1 hp).bind fun v7 => if v7 = 0 then (some (-1 : Int32)) else some (2 : Int32)
set_option maxHeartbeats 4000000 in
set_option maxRecDepth 100000 in
theorem wj_X1_countsToConfirm_39 {P : zX} {ro : Nat → Nat} {sz : Nat} (C : zC P cX1_countsToConfirm RX1 (some .int) 5 0 0 3 ro) {a0 : Nat} {x1 : Int32} {a2 : Nat} {hp : zHp}  : zG P (zoP sz hp) (j_X1_countsToConfirm_39 a0 x1 a2 hp) 39 [(0, .ref a0), (1, .int x1), (2, .ref a2)] [] hp sz 0 0 := by
  unfold j_X1_countsToConfirm_39
  refine z_aload_n C dX1_countsToConfirm_39 2 rfl ?_
  refine z_getI C zf_X1_43 dX1_countsToConfirm_40 (fun v6 => ?_)
  refine z_iconst C dX1_countsToConfirm_43 zi_2 ?_
  refine z_iadd C dX1_countsToConfirm_44 ?_
  refine z_iconst C dX1_countsToConfirm_45 zi_4 ?_
  refine z_icmp_gt C 61 dX1_countsToConfirm_46 (by decide) ?_ ?_
  · refine z_iconst C dX1_countsToConfirm_61 zi_m1 ?_
    exact z_ireturnP C dX1_countsToConfirm_62
  refine z_aload_n C dX1_countsToConfirm_49 0 rfl ?_
  refine z_iload_n C dX1_countsToConfirm_50 1 rfl ?_
  refine z_callVp C zc_X1_128 [.int x1] (fun l D tc b0 r h => m_X1_haveTablesThatAgree l D tc ro b0 h) dX1_countsToConfirm_51 rfl rfl (Nat.le_of_ble_eq_true rfl) (by decide) (by decide) ⟨Nat.le_of_ble_eq_true rfl, Nat.le_of_ble_eq_true rfl⟩ (fun v7 => ?_)
  refine z_if_eq C 61 dX1_countsToConfirm_54 (by decide) ?_ ?_
  · refine z_iconst C dX1_countsToConfirm_61 zi_m1 ?_
    exact z_ireturnP C dX1_countsToConfirm_62
  refine z_iconst C dX1_countsToConfirm_57 zi_2 ?_
  refine z_goto C 62 dX1_countsToConfirm_58 (by decide) ?_
  exact z_ireturnP C dX1_countsToConfirm_62
noncomputable def f_X1_countsToConfirm (a0 : Nat) (x1 : Int32) (hp : zHp) : Option Int32 :=
  (zis hp a0 1).bind fun _ => (zgR hp a0 1 1).bind fun r1 => (zgR hp r1 6 0).bind fun r2 => (zaR hp 3 r2 x1).bind fun r3 => (zgI hp r3 0 5).bind fun v4 => if v4 = 0 then ((zgI hp r3 0 3).bind fun v5 => if (4 : Int32) < (v5 + (1 : Int32)) then (j_X1_countsToConfirm_39 a0 x1 r3 hp) else (f_X1_canRepeatACount a0 x1 hp).bind fun v8 => if v8 = 0 then (j_X1_countsToConfirm_39 a0 x1 r3 hp) else some (1 : Int32)) else some (0 : Int32)
set_option maxHeartbeats 4000000 in
set_option maxRecDepth 100000 in
theorem m_X1_countsToConfirm (l : Launch) (D : va_G) (tc : Nat → ClassId) (ro : Nat → Nat) (b0 : Nat) {a0 : Nat} {x1 : Int32} {hp : zHp} {sz : Nat} {r : Int32} (h : f_X1_countsToConfirm a0 x1 hp = some r) : zis hp a0 1 = some () ∧ zM l yX1_countsToConfirm cX1_countsToConfirm 3 (some .int) 5 0 0 [.ref a0, .int x1] D tc ro b0 hp sz ((zoP sz hp) r).1 ((zoP sz hp) r).2.1 ((zoP sz hp) r).2.2 := by
  refine ⟨?_, z_start (o := (zoP sz hp)) (lv := [(0, .ref a0), (1, .int x1)]) h (by decide +kernel) RX1 rfl rfl (Nat.le_of_ble_eq_true rfl) (fun P C => ?_)⟩
  · unfold f_X1_countsToConfirm at h
    cases hc : zis hp a0 1 with
    | none => rw [hc] at h; cases h
    | some u => rfl
  unfold f_X1_countsToConfirm
  refine z_is ?_
  refine z_aload_n C dX1_countsToConfirm_0 0 rfl ?_
  refine z_getR C zf_X1_21 dX1_countsToConfirm_1 (fun r1 => ?_)
  refine z_getR C zf_X1_33 dX1_countsToConfirm_4 (fun r2 => ?_)
  refine z_iload_n C dX1_countsToConfirm_7 1 rfl ?_
  refine z_aaload (t := 3) (ty := .object "CountHall$Box") C (fun _ => rfl) rfl (by decide) dX1_countsToConfirm_8 (fun r3 => ?_)
  refine z_astore_n (lv' := [(0, .ref a0), (1, .int x1), (2, .ref r3)]) C dX1_countsToConfirm_9 (by decide) rfl ?_
  refine z_aload_n C dX1_countsToConfirm_10 2 rfl ?_
  refine z_getI C zf_X1_121 dX1_countsToConfirm_11 (fun v4 => ?_)
  refine z_if_eq C 19 dX1_countsToConfirm_14 (by decide) ?_ ?_
  · refine z_aload_n C dX1_countsToConfirm_19 2 rfl ?_
    refine z_getI C zf_X1_43 dX1_countsToConfirm_20 (fun v5 => ?_)
    refine z_iconst C dX1_countsToConfirm_23 zi_1 ?_
    refine z_iadd C dX1_countsToConfirm_24 ?_
    refine z_iconst C dX1_countsToConfirm_25 zi_4 ?_
    refine z_icmp_gt C 39 dX1_countsToConfirm_26 (by decide) ?_ ?_
    · exact wj_X1_countsToConfirm_39 C
    refine z_aload_n C dX1_countsToConfirm_29 0 rfl ?_
    refine z_iload_n C dX1_countsToConfirm_30 1 rfl ?_
    refine z_callVp C zc_X1_125 [.int x1] (fun l D tc b0 r h => m_X1_canRepeatACount l D tc ro b0 h) dX1_countsToConfirm_31 rfl rfl (Nat.le_of_ble_eq_true rfl) (by decide) (by decide) ⟨Nat.le_of_ble_eq_true rfl, Nat.le_of_ble_eq_true rfl⟩ (fun v8 => ?_)
    refine z_if_eq C 39 dX1_countsToConfirm_34 (by decide) ?_ ?_
    · exact wj_X1_countsToConfirm_39 C
    refine z_iconst C dX1_countsToConfirm_37 zi_1 ?_
    exact z_ireturnP C dX1_countsToConfirm_38
  refine z_iconst C dX1_countsToConfirm_17 zi_0 ?_
  exact z_ireturnP C dX1_countsToConfirm_18
noncomputable def b_X1_foundInWard_5 (k56 : Int32 → Option Int32) (a0 : Nat) (x1 : Int32) (x2 : Int32) (hp : zHp) (rec : Int32 → Int32 → Option Int32) (x3 : Int32) (x4 : Int32) : Option Int32 :=
  (zgR hp a0 1 0).bind fun r1 => (zgR hp r1 5 0).bind fun r2 => (zaI hp 0 r2 (3 : Int32)).bind fun v3 => if x4 < v3 then ((zgR hp a0 1 0).bind fun r4 => (zgR hp r4 5 4).bind fun r5 => (zaI hp 0 r5 x4).bind fun v6 => if v6 = x1 then ((zgR hp a0 1 1).bind fun r8 => (zgR hp r8 6 0).bind fun r9 => (zaR hp 3 r9 x4).bind fun r10 => (f_X0_foundValidly r10 x2 hp).bind fun v11 => zlet (x3 + v11) fun v12 => zlet (x4 + (1 : Int32)) fun v13 => rec v12 v13) else zlet (x4 + (1 : Int32)) fun v7 => rec x3 v7) else k56 x3
noncomputable def l_X1_foundInWard_5 (k56 : Int32 → Option Int32) (a0 : Nat) (x1 : Int32) (x2 : Int32) (hp : zHp) (n : Nat) : Int32 → Int32 → Option Int32 :=
  Nat.rec (motive := fun _ => Int32 → Int32 → Option Int32) (fun _ _ => none) (fun _ rec => b_X1_foundInWard_5 k56 a0 x1 x2 hp rec) n
theorem l_X1_foundInWard_5_s (k56 : Int32 → Option Int32) (a0 : Nat) (x1 : Int32) (x2 : Int32) (hp : zHp) (n : Nat) (x3 : Int32) (x4 : Int32) : l_X1_foundInWard_5 k56 a0 x1 x2 hp (n + 1) x3 x4 = b_X1_foundInWard_5 k56 a0 x1 x2 hp (l_X1_foundInWard_5 k56 a0 x1 x2 hp n) x3 x4 := rfl
set_option maxHeartbeats 4000000 in
set_option maxRecDepth 100000 in
theorem wl_X1_foundInWard_5 {P : zX} {ro : Nat → Nat} {sz : Nat} (C : zC P cX1_foundInWard RX1 (some .int) 3 0 0 5 ro) {a0 : Nat} {x1 : Int32} {x2 : Int32} {hp : zHp} {k56 : Int32 → Option Int32} (hk56 : ∀ (x3 : Int32), zG P (zoP sz hp) (k56 x3) 56 [(3, .int x3)] [] hp sz 0 0) : ∀ (n : Nat) (x3 : Int32) (x4 : Int32), zG P (zoP sz hp) (l_X1_foundInWard_5 k56 a0 x1 x2 hp n x3 x4) 5 [(0, .ref a0), (1, .int x1), (2, .int x2), (3, .int x3), (4, .int x4)] [] hp sz 0 0 := by
  intro n
  induction n with
  | zero =>
    intro x3 x4
    show zG P (zoP sz hp) none _ _ _ _ _ _ _
    exact z_none
  | succ n ih =>
    intro x3 x4
    show zG P (zoP sz hp) (b_X1_foundInWard_5 k56 a0 x1 x2 hp (l_X1_foundInWard_5 k56 a0 x1 x2 hp n) x3 x4) _ _ _ _ _ _ _
    unfold b_X1_foundInWard_5
    refine z_iload C dX1_foundInWard_5 4 rfl ?_
    refine z_aload_n C dX1_foundInWard_7 0 rfl ?_
    refine z_getR C zf_X1_12 dX1_foundInWard_8 (fun r1 => ?_)
    refine z_getR C zf_X1_29 dX1_foundInWard_11 (fun r2 => ?_)
    refine z_iconst C dX1_foundInWard_14 zi_3 ?_
    refine z_iaload C dX1_foundInWard_15 (fun v3 => ?_)
    refine z_icmp_ge C 56 dX1_foundInWard_16 (by decide) ?_ ?_
    · refine z_aload_n C dX1_foundInWard_19 0 rfl ?_
      refine z_getR C zf_X1_12 dX1_foundInWard_20 (fun r4 => ?_)
      refine z_getR C zf_X1_138 dX1_foundInWard_23 (fun r5 => ?_)
      refine z_iload C dX1_foundInWard_26 4 rfl ?_
      refine z_iaload C dX1_foundInWard_28 (fun v6 => ?_)
      refine z_iload_n C dX1_foundInWard_29 1 rfl ?_
      refine z_icmp_ne C 50 dX1_foundInWard_30 (by decide) ?_ ?_
      · refine z_iload_n C dX1_foundInWard_33 3 rfl ?_
        refine z_aload_n C dX1_foundInWard_34 0 rfl ?_
        refine z_getR C zf_X1_21 dX1_foundInWard_35 (fun r8 => ?_)
        refine z_getR C zf_X1_33 dX1_foundInWard_38 (fun r9 => ?_)
        refine z_iload C dX1_foundInWard_41 4 rfl ?_
        refine z_aaload (t := 3) (ty := .object "CountHall$Box") C (fun _ => rfl) rfl (by decide) dX1_foundInWard_43 (fun r10 => ?_)
        refine z_iload_n C dX1_foundInWard_44 2 rfl ?_
        refine z_callVp C zc_X1_93 [.int x2] (fun l D tc b0 r h => m_X0_foundValidly l D tc ro b0 h) dX1_foundInWard_45 rfl rfl (Nat.le_of_ble_eq_true rfl) (by decide) (by decide) ⟨Nat.le_of_ble_eq_true rfl, Nat.le_of_ble_eq_true rfl⟩ (fun v11 => ?_)
        refine z_iadd C dX1_foundInWard_48 ?_
        refine z_istore_nL C (fun v12 => [(0, .ref a0), (1, .int x1), (2, .int x2), (3, .int v12), (4, .int x4)]) dX1_foundInWard_49 (by decide) (fun _ => rfl) (fun v12 => ?_)
        refine z_iincL C 4 (fun v13 => [(0, .ref a0), (1, .int x1), (2, .int x2), (3, .int v12), (4, .int v13)]) dX1_foundInWard_50 rfl zi_1 (by decide) (fun _ => rfl) (fun v13 => ?_)
        refine z_goto C 5 dX1_foundInWard_53 (by decide) ?_
        exact ih _ _
      refine z_iincL C 4 (fun v7 => [(0, .ref a0), (1, .int x1), (2, .int x2), (3, .int x3), (4, .int v7)]) dX1_foundInWard_50 rfl zi_1 (by decide) (fun _ => rfl) (fun v7 => ?_)
      refine z_goto C 5 dX1_foundInWard_53 (by decide) ?_
      exact ih _ _
    exact z_sub [3] rfl (hk56 _)
noncomputable def f_X1_foundInWard (a0 : Nat) (x1 : Int32) (x2 : Int32) (hp : zHp) : Option Int32 :=
  (zis hp a0 1).bind fun _ => l_X1_foundInWard_5 (fun p14 => some p14) a0 x1 x2 hp 1000000 (0 : Int32) (0 : Int32)
set_option maxHeartbeats 4000000 in
set_option maxRecDepth 100000 in
theorem m_X1_foundInWard (l : Launch) (D : va_G) (tc : Nat → ClassId) (ro : Nat → Nat) (b0 : Nat) {a0 : Nat} {x1 : Int32} {x2 : Int32} {hp : zHp} {sz : Nat} {r : Int32} (h : f_X1_foundInWard a0 x1 x2 hp = some r) : zis hp a0 1 = some () ∧ zM l yX1_foundInWard cX1_foundInWard 5 (some .int) 3 0 0 [.ref a0, .int x1, .int x2] D tc ro b0 hp sz ((zoP sz hp) r).1 ((zoP sz hp) r).2.1 ((zoP sz hp) r).2.2 := by
  refine ⟨?_, z_start (o := (zoP sz hp)) (lv := [(0, .ref a0), (1, .int x1), (2, .int x2)]) h (by decide +kernel) RX1 rfl rfl (Nat.le_of_ble_eq_true rfl) (fun P C => ?_)⟩
  · unfold f_X1_foundInWard at h
    cases hc : zis hp a0 1 with
    | none => rw [hc] at h; cases h
    | some u => rfl
  unfold f_X1_foundInWard
  refine z_is ?_
  refine z_iconst C dX1_foundInWard_0 zi_0 ?_
  refine z_istore_n (lv' := [(0, .ref a0), (1, .int x1), (2, .int x2), (3, .int (0 : Int32))]) C dX1_foundInWard_1 (by decide) rfl ?_
  refine z_iconst C dX1_foundInWard_2 zi_0 ?_
  refine z_istore (lv' := [(0, .ref a0), (1, .int x1), (2, .int x2), (3, .int (0 : Int32)), (4, .int (0 : Int32))]) C dX1_foundInWard_3 (by decide) rfl ?_
  refine wl_X1_foundInWard_5 C (fun p14 => ?_) _ _ _
  refine z_iload_n C dX1_foundInWard_56 0 rfl ?_
  exact z_ireturnP C dX1_foundInWard_57
noncomputable def b_X1_partyAhead_7 (k48 : Int32 → Option Int32) (a0 : Nat) (x1 : Int32) (hp : zHp) (rec : Int32 → Int32 → Int32 → Option Int32) (x2 : Int32) (x3 : Int32) (x4 : Int32) : Option Int32 :=
  (zgR hp a0 1 0).bind fun r1 => (zgR hp r1 5 0).bind fun r2 => (zaI hp 0 r2 (0 : Int32)).bind fun v3 => if x4 < v3 then ((f_X1_foundInWard a0 x1 x4 hp).bind fun v4 => if x3 < v4 then (zlet (x4 + (1 : Int32)) fun v6 => rec x4 v4 v6) else zlet (x4 + (1 : Int32)) fun v5 => rec x2 x3 v5) else k48 x2
noncomputable def l_X1_partyAhead_7 (k48 : Int32 → Option Int32) (a0 : Nat) (x1 : Int32) (hp : zHp) (n : Nat) : Int32 → Int32 → Int32 → Option Int32 :=
  Nat.rec (motive := fun _ => Int32 → Int32 → Int32 → Option Int32) (fun _ _ _ => none) (fun _ rec => b_X1_partyAhead_7 k48 a0 x1 hp rec) n
theorem l_X1_partyAhead_7_s (k48 : Int32 → Option Int32) (a0 : Nat) (x1 : Int32) (hp : zHp) (n : Nat) (x2 : Int32) (x3 : Int32) (x4 : Int32) : l_X1_partyAhead_7 k48 a0 x1 hp (n + 1) x2 x3 x4 = b_X1_partyAhead_7 k48 a0 x1 hp (l_X1_partyAhead_7 k48 a0 x1 hp n) x2 x3 x4 := rfl
set_option maxHeartbeats 4000000 in
set_option maxRecDepth 100000 in
theorem wl_X1_partyAhead_7 {P : zX} {ro : Nat → Nat} {sz : Nat} (C : zC P cX1_partyAhead RX1 (some .int) 4 0 0 6 ro) {a0 : Nat} {x1 : Int32} {hp : zHp} {k48 : Int32 → Option Int32} (hk48 : ∀ (x2 : Int32), zG P (zoP sz hp) (k48 x2) 48 [(2, .int x2)] [] hp sz 0 0) : ∀ (n : Nat) (x2 : Int32) (x3 : Int32) (x4 : Int32), zG P (zoP sz hp) (l_X1_partyAhead_7 k48 a0 x1 hp n x2 x3 x4) 7 [(0, .ref a0), (1, .int x1), (2, .int x2), (3, .int x3), (4, .int x4)] [] hp sz 0 0 := by
  intro n
  induction n with
  | zero =>
    intro x2 x3 x4
    show zG P (zoP sz hp) none _ _ _ _ _ _ _
    exact z_none
  | succ n ih =>
    intro x2 x3 x4
    show zG P (zoP sz hp) (b_X1_partyAhead_7 k48 a0 x1 hp (l_X1_partyAhead_7 k48 a0 x1 hp n) x2 x3 x4) _ _ _ _ _ _ _
    unfold b_X1_partyAhead_7
    refine z_iload C dX1_partyAhead_7 4 rfl ?_
    refine z_aload_n C dX1_partyAhead_9 0 rfl ?_
    refine z_getR C zf_X1_12 dX1_partyAhead_10 (fun r1 => ?_)
    refine z_getR C zf_X1_29 dX1_partyAhead_13 (fun r2 => ?_)
    refine z_iconst C dX1_partyAhead_16 zi_0 ?_
    refine z_iaload C dX1_partyAhead_17 (fun v3 => ?_)
    refine z_icmp_ge C 48 dX1_partyAhead_18 (by decide) ?_ ?_
    · refine z_aload_n C dX1_partyAhead_21 0 rfl ?_
      refine z_iload_n C dX1_partyAhead_22 1 rfl ?_
      refine z_iload C dX1_partyAhead_23 4 rfl ?_
      refine z_callVp C zc_X1_141 [.int x1, .int x4] (fun l D tc b0 r h => m_X1_foundInWard l D tc ro b0 h) dX1_partyAhead_25 rfl rfl (Nat.le_of_ble_eq_true rfl) (by decide) (by decide) ⟨Nat.le_of_ble_eq_true rfl, Nat.le_of_ble_eq_true rfl⟩ (fun v4 => ?_)
      refine z_istore (lv' := [(0, .ref a0), (1, .int x1), (2, .int x2), (3, .int x3), (4, .int x4), (5, .int v4)]) C dX1_partyAhead_28 (by decide) rfl ?_
      refine z_iload C dX1_partyAhead_30 5 rfl ?_
      refine z_iload_n C dX1_partyAhead_32 3 rfl ?_
      refine z_icmp_le C 42 dX1_partyAhead_33 (by decide) ?_ ?_
      · refine z_iload C dX1_partyAhead_36 5 rfl ?_
        refine z_istore_n (lv' := [(0, .ref a0), (1, .int x1), (2, .int x2), (3, .int v4), (4, .int x4), (5, .int v4)]) C dX1_partyAhead_38 (by decide) rfl ?_
        refine z_iload C dX1_partyAhead_39 4 rfl ?_
        refine z_istore_n (lv' := [(0, .ref a0), (1, .int x1), (2, .int x4), (3, .int v4), (4, .int x4), (5, .int v4)]) C dX1_partyAhead_41 (by decide) rfl ?_
        refine z_iincL C 4 (fun v6 => [(0, .ref a0), (1, .int x1), (2, .int x4), (3, .int v4), (4, .int v6), (5, .int v4)]) dX1_partyAhead_42 rfl zi_1 (by decide) (fun _ => rfl) (fun v6 => ?_)
        refine z_goto C 7 dX1_partyAhead_45 (by decide) ?_
        exact z_sub [0, 1, 2, 3, 4] rfl (ih _ _ _)
      refine z_iincL C 4 (fun v5 => [(0, .ref a0), (1, .int x1), (2, .int x2), (3, .int x3), (4, .int v5), (5, .int v4)]) dX1_partyAhead_42 rfl zi_1 (by decide) (fun _ => rfl) (fun v5 => ?_)
      refine z_goto C 7 dX1_partyAhead_45 (by decide) ?_
      exact z_sub [0, 1, 2, 3, 4] rfl (ih _ _ _)
    exact z_sub [2] rfl (hk48 _)
noncomputable def f_X1_partyAhead (a0 : Nat) (x1 : Int32) (hp : zHp) : Option Int32 :=
  (zis hp a0 1).bind fun _ => l_X1_partyAhead_7 (fun p7 => some p7) a0 x1 hp 1000000 (-1 : Int32) (0 : Int32) (0 : Int32)
set_option maxHeartbeats 4000000 in
set_option maxRecDepth 100000 in
theorem m_X1_partyAhead (l : Launch) (D : va_G) (tc : Nat → ClassId) (ro : Nat → Nat) (b0 : Nat) {a0 : Nat} {x1 : Int32} {hp : zHp} {sz : Nat} {r : Int32} (h : f_X1_partyAhead a0 x1 hp = some r) : zis hp a0 1 = some () ∧ zM l yX1_partyAhead cX1_partyAhead 6 (some .int) 4 0 0 [.ref a0, .int x1] D tc ro b0 hp sz ((zoP sz hp) r).1 ((zoP sz hp) r).2.1 ((zoP sz hp) r).2.2 := by
  refine ⟨?_, z_start (o := (zoP sz hp)) (lv := [(0, .ref a0), (1, .int x1)]) h (by decide +kernel) RX1 rfl rfl (Nat.le_of_ble_eq_true rfl) (fun P C => ?_)⟩
  · unfold f_X1_partyAhead at h
    cases hc : zis hp a0 1 with
    | none => rw [hc] at h; cases h
    | some u => rfl
  unfold f_X1_partyAhead
  refine z_is ?_
  refine z_iconst C dX1_partyAhead_0 zi_m1 ?_
  refine z_istore_n (lv' := [(0, .ref a0), (1, .int x1), (2, .int (-1 : Int32))]) C dX1_partyAhead_1 (by decide) rfl ?_
  refine z_iconst C dX1_partyAhead_2 zi_0 ?_
  refine z_istore_n (lv' := [(0, .ref a0), (1, .int x1), (2, .int (-1 : Int32)), (3, .int (0 : Int32))]) C dX1_partyAhead_3 (by decide) rfl ?_
  refine z_iconst C dX1_partyAhead_4 zi_0 ?_
  refine z_istore (lv' := [(0, .ref a0), (1, .int x1), (2, .int (-1 : Int32)), (3, .int (0 : Int32)), (4, .int (0 : Int32))]) C dX1_partyAhead_5 (by decide) rfl ?_
  refine wl_X1_partyAhead_7 C (fun p7 => ?_) _ _ _ _
  refine z_iload_n C dX1_partyAhead_48 0 rfl ?_
  exact z_ireturnP C dX1_partyAhead_49
noncomputable def b_X1_lead_7 (k54 : Int32 → Int32 → Option Int32) (a0 : Nat) (x1 : Int32) (hp : zHp) (rec : Int32 → Int32 → Int32 → Option Int32) (x2 : Int32) (x3 : Int32) (x4 : Int32) : Option Int32 :=
  (zgR hp a0 1 0).bind fun r1 => (zgR hp r1 5 0).bind fun r2 => (zaI hp 0 r2 (0 : Int32)).bind fun v3 => if x4 < v3 then ((f_X1_foundInWard a0 x1 x4 hp).bind fun v4 => zlet (zmax x3 (zmin v4 x2)) fun v5 => zlet (zmax x2 v4) fun v6 => zlet (x4 + (1 : Int32)) fun v7 => rec v6 v5 v7) else k54 x2 x3
noncomputable def l_X1_lead_7 (k54 : Int32 → Int32 → Option Int32) (a0 : Nat) (x1 : Int32) (hp : zHp) (n : Nat) : Int32 → Int32 → Int32 → Option Int32 :=
  Nat.rec (motive := fun _ => Int32 → Int32 → Int32 → Option Int32) (fun _ _ _ => none) (fun _ rec => b_X1_lead_7 k54 a0 x1 hp rec) n
theorem l_X1_lead_7_s (k54 : Int32 → Int32 → Option Int32) (a0 : Nat) (x1 : Int32) (hp : zHp) (n : Nat) (x2 : Int32) (x3 : Int32) (x4 : Int32) : l_X1_lead_7 k54 a0 x1 hp (n + 1) x2 x3 x4 = b_X1_lead_7 k54 a0 x1 hp (l_X1_lead_7 k54 a0 x1 hp n) x2 x3 x4 := rfl
set_option maxHeartbeats 4000000 in
set_option maxRecDepth 100000 in
theorem wl_X1_lead_7 {P : zX} {ro : Nat → Nat} {sz : Nat} (C : zC P cX1_lead RX1 (some .int) 4 0 0 6 ro) {a0 : Nat} {x1 : Int32} {hp : zHp} {k54 : Int32 → Int32 → Option Int32} (hk54 : ∀ (x2 : Int32) (x3 : Int32), zG P (zoP sz hp) (k54 x2 x3) 54 [(2, .int x2), (3, .int x3)] [] hp sz 0 0) : ∀ (n : Nat) (x2 : Int32) (x3 : Int32) (x4 : Int32), zG P (zoP sz hp) (l_X1_lead_7 k54 a0 x1 hp n x2 x3 x4) 7 [(0, .ref a0), (1, .int x1), (2, .int x2), (3, .int x3), (4, .int x4)] [] hp sz 0 0 := by
  intro n
  induction n with
  | zero =>
    intro x2 x3 x4
    show zG P (zoP sz hp) none _ _ _ _ _ _ _
    exact z_none
  | succ n ih =>
    intro x2 x3 x4
    show zG P (zoP sz hp) (b_X1_lead_7 k54 a0 x1 hp (l_X1_lead_7 k54 a0 x1 hp n) x2 x3 x4) _ _ _ _ _ _ _
    unfold b_X1_lead_7
    refine z_iload C dX1_lead_7 4 rfl ?_
    refine z_aload_n C dX1_lead_9 0 rfl ?_
    refine z_getR C zf_X1_12 dX1_lead_10 (fun r1 => ?_)
    refine z_getR C zf_X1_29 dX1_lead_13 (fun r2 => ?_)
    refine z_iconst C dX1_lead_16 zi_0 ?_
    refine z_iaload C dX1_lead_17 (fun v3 => ?_)
    refine z_icmp_ge C 54 dX1_lead_18 (by decide) ?_ ?_
    · refine z_aload_n C dX1_lead_21 0 rfl ?_
      refine z_iload_n C dX1_lead_22 1 rfl ?_
      refine z_iload C dX1_lead_23 4 rfl ?_
      refine z_callVp C zc_X1_141 [.int x1, .int x4] (fun l D tc b0 r h => m_X1_foundInWard l D tc ro b0 h) dX1_lead_25 rfl rfl (Nat.le_of_ble_eq_true rfl) (by decide) (by decide) ⟨Nat.le_of_ble_eq_true rfl, Nat.le_of_ble_eq_true rfl⟩ (fun v4 => ?_)
      refine z_istore (lv' := [(0, .ref a0), (1, .int x1), (2, .int x2), (3, .int x3), (4, .int x4), (5, .int v4)]) C dX1_lead_28 (by decide) rfl ?_
      refine z_iload_n C dX1_lead_30 3 rfl ?_
      refine z_iload C dX1_lead_31 5 rfl ?_
      refine z_iload_n C dX1_lead_33 2 rfl ?_
      refine z_mmin C zm_X1_144 dX1_lead_34 (Nat.le_of_ble_eq_true rfl) (by decide) ⟨Nat.le_of_ble_eq_true rfl, Nat.le_of_ble_eq_true rfl⟩ ?_
      refine z_mmax C zm_X1_147 dX1_lead_37 (Nat.le_of_ble_eq_true rfl) (by decide) ⟨Nat.le_of_ble_eq_true rfl, Nat.le_of_ble_eq_true rfl⟩ ?_
      refine z_istore_nL C (fun v5 => [(0, .ref a0), (1, .int x1), (2, .int x2), (3, .int v5), (4, .int x4), (5, .int v4)]) dX1_lead_40 (by decide) (fun _ => rfl) (fun v5 => ?_)
      refine z_iload_n C dX1_lead_41 2 rfl ?_
      refine z_iload C dX1_lead_42 5 rfl ?_
      refine z_mmax C zm_X1_147 dX1_lead_44 (Nat.le_of_ble_eq_true rfl) (by decide) ⟨Nat.le_of_ble_eq_true rfl, Nat.le_of_ble_eq_true rfl⟩ ?_
      refine z_istore_nL C (fun v6 => [(0, .ref a0), (1, .int x1), (2, .int v6), (3, .int v5), (4, .int x4), (5, .int v4)]) dX1_lead_47 (by decide) (fun _ => rfl) (fun v6 => ?_)
      refine z_iincL C 4 (fun v7 => [(0, .ref a0), (1, .int x1), (2, .int v6), (3, .int v5), (4, .int v7), (5, .int v4)]) dX1_lead_48 rfl zi_1 (by decide) (fun _ => rfl) (fun v7 => ?_)
      refine z_goto C 7 dX1_lead_51 (by decide) ?_
      exact z_sub [0, 1, 2, 3, 4] rfl (ih _ _ _)
    exact z_sub [2, 3] rfl (hk54 _ _)
noncomputable def f_X1_lead (a0 : Nat) (x1 : Int32) (hp : zHp) : Option Int32 :=
  (zis hp a0 1).bind fun _ => l_X1_lead_7 (fun p8 p9 => some (p8 - p9)) a0 x1 hp 1000000 (0 : Int32) (0 : Int32) (0 : Int32)
set_option maxHeartbeats 4000000 in
set_option maxRecDepth 100000 in
theorem m_X1_lead (l : Launch) (D : va_G) (tc : Nat → ClassId) (ro : Nat → Nat) (b0 : Nat) {a0 : Nat} {x1 : Int32} {hp : zHp} {sz : Nat} {r : Int32} (h : f_X1_lead a0 x1 hp = some r) : zis hp a0 1 = some () ∧ zM l yX1_lead cX1_lead 6 (some .int) 4 0 0 [.ref a0, .int x1] D tc ro b0 hp sz ((zoP sz hp) r).1 ((zoP sz hp) r).2.1 ((zoP sz hp) r).2.2 := by
  refine ⟨?_, z_start (o := (zoP sz hp)) (lv := [(0, .ref a0), (1, .int x1)]) h (by decide +kernel) RX1 rfl rfl (Nat.le_of_ble_eq_true rfl) (fun P C => ?_)⟩
  · unfold f_X1_lead at h
    cases hc : zis hp a0 1 with
    | none => rw [hc] at h; cases h
    | some u => rfl
  unfold f_X1_lead
  refine z_is ?_
  refine z_iconst C dX1_lead_0 zi_0 ?_
  refine z_istore_n (lv' := [(0, .ref a0), (1, .int x1), (2, .int (0 : Int32))]) C dX1_lead_1 (by decide) rfl ?_
  refine z_iconst C dX1_lead_2 zi_0 ?_
  refine z_istore_n (lv' := [(0, .ref a0), (1, .int x1), (2, .int (0 : Int32)), (3, .int (0 : Int32))]) C dX1_lead_3 (by decide) rfl ?_
  refine z_iconst C dX1_lead_4 zi_0 ?_
  refine z_istore (lv' := [(0, .ref a0), (1, .int x1), (2, .int (0 : Int32)), (3, .int (0 : Int32)), (4, .int (0 : Int32))]) C dX1_lead_5 (by decide) rfl ?_
  refine wl_X1_lead_7 C (fun p8 p9 => ?_) _ _ _ _
  refine z_iload_n C dX1_lead_54 0 rfl ?_
  refine z_iload_n C dX1_lead_55 1 rfl ?_
  refine z_isub C dX1_lead_56 ?_
  exact z_ireturnP C dX1_lead_57
noncomputable def b_X1_isWardClose_4 (k32 : Int32 → Option Int32) (a0 : Nat) (x1 : Int32) (hp : zHp) (rec : Int32 → Int32 → Option Int32) (x2 : Int32) (x3 : Int32) : Option Int32 :=
  (zgR hp a0 1 0).bind fun r1 => (zgR hp r1 5 0).bind fun r2 => (zaI hp 0 r2 (0 : Int32)).bind fun v3 => if x3 < v3 then ((f_X1_foundInWard a0 x1 x3 hp).bind fun v4 => zlet (x2 + v4) fun v5 => zlet (x3 + (1 : Int32)) fun v6 => rec v5 v6) else k32 x2
noncomputable def l_X1_isWardClose_4 (k32 : Int32 → Option Int32) (a0 : Nat) (x1 : Int32) (hp : zHp) (n : Nat) : Int32 → Int32 → Option Int32 :=
  Nat.rec (motive := fun _ => Int32 → Int32 → Option Int32) (fun _ _ => none) (fun _ rec => b_X1_isWardClose_4 k32 a0 x1 hp rec) n
theorem l_X1_isWardClose_4_s (k32 : Int32 → Option Int32) (a0 : Nat) (x1 : Int32) (hp : zHp) (n : Nat) (x2 : Int32) (x3 : Int32) : l_X1_isWardClose_4 k32 a0 x1 hp (n + 1) x2 x3 = b_X1_isWardClose_4 k32 a0 x1 hp (l_X1_isWardClose_4 k32 a0 x1 hp n) x2 x3 := rfl
set_option maxHeartbeats 4000000 in
set_option maxRecDepth 100000 in
theorem wl_X1_isWardClose_4 {P : zX} {ro : Nat → Nat} {sz : Nat} (C : zC P cX1_isWardClose RX1 (some .boolean) 5 0 0 4 ro) {a0 : Nat} {x1 : Int32} {hp : zHp} {k32 : Int32 → Option Int32} (hk32 : ∀ (x2 : Int32), zG P (zoP sz hp) (k32 x2) 32 [(0, .ref a0), (1, .int x1), (2, .int x2)] [] hp sz 0 0) : ∀ (n : Nat) (x2 : Int32) (x3 : Int32), zG P (zoP sz hp) (l_X1_isWardClose_4 k32 a0 x1 hp n x2 x3) 4 [(0, .ref a0), (1, .int x1), (2, .int x2), (3, .int x3)] [] hp sz 0 0 := by
  intro n
  induction n with
  | zero =>
    intro x2 x3
    show zG P (zoP sz hp) none _ _ _ _ _ _ _
    exact z_none
  | succ n ih =>
    intro x2 x3
    show zG P (zoP sz hp) (b_X1_isWardClose_4 k32 a0 x1 hp (l_X1_isWardClose_4 k32 a0 x1 hp n) x2 x3) _ _ _ _ _ _ _
    unfold b_X1_isWardClose_4
    refine z_iload_n C dX1_isWardClose_4 3 rfl ?_
    refine z_aload_n C dX1_isWardClose_5 0 rfl ?_
    refine z_getR C zf_X1_12 dX1_isWardClose_6 (fun r1 => ?_)
    refine z_getR C zf_X1_29 dX1_isWardClose_9 (fun r2 => ?_)
    refine z_iconst C dX1_isWardClose_12 zi_0 ?_
    refine z_iaload C dX1_isWardClose_13 (fun v3 => ?_)
    refine z_icmp_ge C 32 dX1_isWardClose_14 (by decide) ?_ ?_
    · refine z_iload_n C dX1_isWardClose_17 2 rfl ?_
      refine z_aload_n C dX1_isWardClose_18 0 rfl ?_
      refine z_iload_n C dX1_isWardClose_19 1 rfl ?_
      refine z_iload_n C dX1_isWardClose_20 3 rfl ?_
      refine z_callVp C zc_X1_141 [.int x1, .int x3] (fun l D tc b0 r h => m_X1_foundInWard l D tc ro b0 h) dX1_isWardClose_21 rfl rfl (Nat.le_of_ble_eq_true rfl) (by decide) (by decide) ⟨Nat.le_of_ble_eq_true rfl, Nat.le_of_ble_eq_true rfl⟩ (fun v4 => ?_)
      refine z_iadd C dX1_isWardClose_24 ?_
      refine z_istore_nL C (fun v5 => [(0, .ref a0), (1, .int x1), (2, .int v5), (3, .int x3)]) dX1_isWardClose_25 (by decide) (fun _ => rfl) (fun v5 => ?_)
      refine z_iincL C 3 (fun v6 => [(0, .ref a0), (1, .int x1), (2, .int v5), (3, .int v6)]) dX1_isWardClose_26 rfl zi_1 (by decide) (fun _ => rfl) (fun v6 => ?_)
      refine z_goto C 4 dX1_isWardClose_29 (by decide) ?_
      exact ih _ _
    exact z_sub [0, 1, 2] rfl (hk32 _)
noncomputable def f_X1_isWardClose (a0 : Nat) (x1 : Int32) (hp : zHp) : Option Int32 :=
  (zis hp a0 1).bind fun _ => l_X1_isWardClose_4 (fun p7 => if 0 < p7 then ((f_X1_lead a0 x1 hp).bind fun v8 => (zgR hp a0 1 1).bind fun r9 => (zgR hp r9 6 1).bind fun r10 => (zaI hp 0 r10 (0 : Int32)).bind fun v11 => if (v11 * p7) < (v8 * (100 : Int32)) then (some (0 : Int32)) else some (1 : Int32)) else some (0 : Int32)) a0 x1 hp 1000000 (0 : Int32) (0 : Int32)
set_option maxHeartbeats 4000000 in
set_option maxRecDepth 100000 in
theorem m_X1_isWardClose (l : Launch) (D : va_G) (tc : Nat → ClassId) (ro : Nat → Nat) (b0 : Nat) {a0 : Nat} {x1 : Int32} {hp : zHp} {sz : Nat} {r : Int32} (h : f_X1_isWardClose a0 x1 hp = some r) : zis hp a0 1 = some () ∧ zM l yX1_isWardClose cX1_isWardClose 4 (some .boolean) 5 0 0 [.ref a0, .int x1] D tc ro b0 hp sz ((zoP sz hp) r).1 ((zoP sz hp) r).2.1 ((zoP sz hp) r).2.2 := by
  refine ⟨?_, z_start (o := (zoP sz hp)) (lv := [(0, .ref a0), (1, .int x1)]) h (by decide +kernel) RX1 rfl rfl (Nat.le_of_ble_eq_true rfl) (fun P C => ?_)⟩
  · unfold f_X1_isWardClose at h
    cases hc : zis hp a0 1 with
    | none => rw [hc] at h; cases h
    | some u => rfl
  unfold f_X1_isWardClose
  refine z_is ?_
  refine z_iconst C dX1_isWardClose_0 zi_0 ?_
  refine z_istore_n (lv' := [(0, .ref a0), (1, .int x1), (2, .int (0 : Int32))]) C dX1_isWardClose_1 (by decide) rfl ?_
  refine z_iconst C dX1_isWardClose_2 zi_0 ?_
  refine z_istore_n (lv' := [(0, .ref a0), (1, .int x1), (2, .int (0 : Int32)), (3, .int (0 : Int32))]) C dX1_isWardClose_3 (by decide) rfl ?_
  refine wl_X1_isWardClose_4 C (fun p7 => ?_) _ _ _
  refine z_iload_n C dX1_isWardClose_32 2 rfl ?_
  refine z_if_le C 62 dX1_isWardClose_33 (by decide) ?_ ?_
  · refine z_aload_n C dX1_isWardClose_36 0 rfl ?_
    refine z_iload_n C dX1_isWardClose_37 1 rfl ?_
    refine z_callVp C zc_X1_150 [.int x1] (fun l D tc b0 r h => m_X1_lead l D tc ro b0 h) dX1_isWardClose_38 rfl rfl (Nat.le_of_ble_eq_true rfl) (by decide) (by decide) ⟨Nat.le_of_ble_eq_true rfl, Nat.le_of_ble_eq_true rfl⟩ (fun v8 => ?_)
    refine z_bipush C dX1_isWardClose_41 zbi_100 ?_
    refine z_imul C dX1_isWardClose_43 ?_
    refine z_aload_n C dX1_isWardClose_44 0 rfl ?_
    refine z_getR C zf_X1_21 dX1_isWardClose_45 (fun r9 => ?_)
    refine z_getR C zf_X1_107 dX1_isWardClose_48 (fun r10 => ?_)
    refine z_iconst C dX1_isWardClose_51 zi_0 ?_
    refine z_iaload C dX1_isWardClose_52 (fun v11 => ?_)
    refine z_iload_n C dX1_isWardClose_53 2 rfl ?_
    refine z_imul C dX1_isWardClose_54 ?_
    refine z_icmp_gt C 62 dX1_isWardClose_55 (by decide) ?_ ?_
    · refine z_iconst C dX1_isWardClose_62 zi_0 ?_
      exact z_kreturnP C rfl dX1_isWardClose_63
    refine z_iconst C dX1_isWardClose_58 zi_1 ?_
    refine z_goto C 63 dX1_isWardClose_59 (by decide) ?_
    exact z_kreturnP C rfl dX1_isWardClose_63
  refine z_iconst C dX1_isWardClose_62 zi_0 ?_
  exact z_kreturnP C rfl dX1_isWardClose_63
noncomputable def b_X1_isWardDeclared_2 (k26 : Option Int32) (k34 : Option Int32) (a0 : Nat) (x1 : Int32) (hp : zHp) (rec : Int32 → Option Int32) (x2 : Int32) : Option Int32 :=
  (zgR hp a0 1 1).bind fun r1 => (zgI hp r1 6 3).bind fun v2 => if x2 < v2 then ((zgR hp a0 1 1).bind fun r3 => (zgR hp r3 6 2).bind fun r4 => (zaI hp 0 r4 x2).bind fun v5 => if v5 = x1 then (k26) else zlet (x2 + (1 : Int32)) fun v6 => rec v6) else k34
noncomputable def l_X1_isWardDeclared_2 (k26 : Option Int32) (k34 : Option Int32) (a0 : Nat) (x1 : Int32) (hp : zHp) (n : Nat) : Int32 → Option Int32 :=
  Nat.rec (motive := fun _ => Int32 → Option Int32) (fun _ => none) (fun _ rec => b_X1_isWardDeclared_2 k26 k34 a0 x1 hp rec) n
theorem l_X1_isWardDeclared_2_s (k26 : Option Int32) (k34 : Option Int32) (a0 : Nat) (x1 : Int32) (hp : zHp) (n : Nat) (x2 : Int32) : l_X1_isWardDeclared_2 k26 k34 a0 x1 hp (n + 1) x2 = b_X1_isWardDeclared_2 k26 k34 a0 x1 hp (l_X1_isWardDeclared_2 k26 k34 a0 x1 hp n) x2 := rfl
set_option maxHeartbeats 4000000 in
set_option maxRecDepth 100000 in
theorem wl_X1_isWardDeclared_2 {P : zX} {ro : Nat → Nat} {sz : Nat} (C : zC P cX1_isWardDeclared RX1 (some .boolean) 1 0 0 3 ro) {a0 : Nat} {x1 : Int32} {hp : zHp} {k26 : Option Int32} (hk26 : zG P (zoP sz hp) (k26) 26 [] [] hp sz 0 0) {k34 : Option Int32} (hk34 : zG P (zoP sz hp) (k34) 34 [] [] hp sz 0 0) : ∀ (n : Nat) (x2 : Int32), zG P (zoP sz hp) (l_X1_isWardDeclared_2 k26 k34 a0 x1 hp n x2) 2 [(0, .ref a0), (1, .int x1), (2, .int x2)] [] hp sz 0 0 := by
  intro n
  induction n with
  | zero =>
    intro x2
    show zG P (zoP sz hp) none _ _ _ _ _ _ _
    exact z_none
  | succ n ih =>
    intro x2
    show zG P (zoP sz hp) (b_X1_isWardDeclared_2 k26 k34 a0 x1 hp (l_X1_isWardDeclared_2 k26 k34 a0 x1 hp n) x2) _ _ _ _ _ _ _
    unfold b_X1_isWardDeclared_2
    refine z_iload_n C dX1_isWardDeclared_2 2 rfl ?_
    refine z_aload_n C dX1_isWardDeclared_3 0 rfl ?_
    refine z_getR C zf_X1_21 dX1_isWardDeclared_4 (fun r1 => ?_)
    refine z_getI C zf_X1_153 dX1_isWardDeclared_7 (fun v2 => ?_)
    refine z_icmp_ge C 34 dX1_isWardDeclared_10 (by decide) ?_ ?_
    · refine z_aload_n C dX1_isWardDeclared_13 0 rfl ?_
      refine z_getR C zf_X1_21 dX1_isWardDeclared_14 (fun r3 => ?_)
      refine z_getR C zf_X1_156 dX1_isWardDeclared_17 (fun r4 => ?_)
      refine z_iload_n C dX1_isWardDeclared_20 2 rfl ?_
      refine z_iaload C dX1_isWardDeclared_21 (fun v5 => ?_)
      refine z_iload_n C dX1_isWardDeclared_22 1 rfl ?_
      refine z_icmp_ne C 28 dX1_isWardDeclared_23 (by decide) ?_ ?_
      · exact z_sub [] rfl (hk26)
      refine z_iincL C 2 (fun v6 => [(0, .ref a0), (1, .int x1), (2, .int v6)]) dX1_isWardDeclared_28 rfl zi_1 (by decide) (fun _ => rfl) (fun v6 => ?_)
      refine z_goto C 2 dX1_isWardDeclared_31 (by decide) ?_
      exact ih _
    exact z_sub [] rfl (hk34)
noncomputable def f_X1_isWardDeclared (a0 : Nat) (x1 : Int32) (hp : zHp) : Option Int32 :=
  (zis hp a0 1).bind fun _ => l_X1_isWardDeclared_2 (some (1 : Int32)) (some (0 : Int32)) a0 x1 hp 1000000 (0 : Int32)
set_option maxHeartbeats 4000000 in
set_option maxRecDepth 100000 in
theorem m_X1_isWardDeclared (l : Launch) (D : va_G) (tc : Nat → ClassId) (ro : Nat → Nat) (b0 : Nat) {a0 : Nat} {x1 : Int32} {hp : zHp} {sz : Nat} {r : Int32} (h : f_X1_isWardDeclared a0 x1 hp = some r) : zis hp a0 1 = some () ∧ zM l yX1_isWardDeclared cX1_isWardDeclared 3 (some .boolean) 1 0 0 [.ref a0, .int x1] D tc ro b0 hp sz ((zoP sz hp) r).1 ((zoP sz hp) r).2.1 ((zoP sz hp) r).2.2 := by
  refine ⟨?_, z_start (o := (zoP sz hp)) (lv := [(0, .ref a0), (1, .int x1)]) h (by decide +kernel) RX1 rfl rfl (Nat.le_of_ble_eq_true rfl) (fun P C => ?_)⟩
  · unfold f_X1_isWardDeclared at h
    cases hc : zis hp a0 1 with
    | none => rw [hc] at h; cases h
    | some u => rfl
  unfold f_X1_isWardDeclared
  refine z_is ?_
  refine z_iconst C dX1_isWardDeclared_0 zi_0 ?_
  refine z_istore_n (lv' := [(0, .ref a0), (1, .int x1), (2, .int (0 : Int32))]) C dX1_isWardDeclared_1 (by decide) rfl ?_
  refine wl_X1_isWardDeclared_2 C ?_ ?_ _ _
  · refine z_iconst C dX1_isWardDeclared_26 zi_1 ?_
    exact z_kreturnP C rfl dX1_isWardDeclared_27
  refine z_iconst C dX1_isWardDeclared_34 zi_0 ?_
  exact z_kreturnP C rfl dX1_isWardDeclared_35
noncomputable def j_X1_reasonAgainst_146 (k155 : Int32 → Int32 → Int32 → Int32 → Int32 → Option Int32) (rec : Int32 → Int32 → Int32 → Int32 → Int32 → Int32 → Option Int32) (a0 : Nat) (x1 : Int32) (x2 : Int32) (x3 : Int32) (x4 : Int32) (x5 : Int32) (x7 : Int32) (s0 : Int32) (s1 : Int32) (hp : zHp) : Option Int32 :=
  zlet (s0 ||| s1) fun v19 => zlet (x7 + (1 : Int32)) fun v20 => rec x2 x3 x4 x5 v19 v20
set_option maxHeartbeats 4000000 in
set_option maxRecDepth 100000 in
theorem wj_X1_reasonAgainst_146 {P : zX} {ro : Nat → Nat} {sz : Nat} (C : zC P cX1_reasonAgainst RX1 (some .int) 6 0 0 9 ro) {a0 : Nat} {x1 : Int32} {x2 : Int32} {x3 : Int32} {x4 : Int32} {x5 : Int32} {x7 : Int32} {s0 : Int32} {s1 : Int32} {hp : zHp} {k155 : Int32 → Int32 → Int32 → Int32 → Int32 → Option Int32} (hk155 : ∀ (x2 : Int32) (x3 : Int32) (x4 : Int32) (x5 : Int32) (x6 : Int32), zG P (zoP sz hp) (k155 x2 x3 x4 x5 x6) 155 [(0, .ref a0), (1, .int x1), (2, .int x2), (3, .int x3), (4, .int x4), (5, .int x5), (6, .int x6)] [] hp sz 0 0) {rec : Int32 → Int32 → Int32 → Int32 → Int32 → Int32 → Option Int32} (hrec : ∀ (x2 : Int32) (x3 : Int32) (x4 : Int32) (x5 : Int32) (x6 : Int32) (x7 : Int32), zG P (zoP sz hp) (rec x2 x3 x4 x5 x6 x7) 26 [(0, .ref a0), (1, .int x1), (2, .int x2), (3, .int x3), (4, .int x4), (5, .int x5), (6, .int x6), (7, .int x7)] [] hp sz 0 0) : zG P (zoP sz hp) (j_X1_reasonAgainst_146 k155 rec a0 x1 x2 x3 x4 x5 x7 s0 s1 hp) 146 [(0, .ref a0), (1, .int x1), (2, .int x2), (3, .int x3), (4, .int x4), (5, .int x5), (7, .int x7)] [.int s1, .int s0] hp sz 0 0 := by
  unfold j_X1_reasonAgainst_146
  refine z_ior C dX1_reasonAgainst_146 ?_
  refine z_istoreL C (fun v19 => [(0, .ref a0), (1, .int x1), (2, .int x2), (3, .int x3), (4, .int x4), (5, .int x5), (6, .int v19), (7, .int x7)]) dX1_reasonAgainst_147 (by decide) (fun _ => rfl) (fun v19 => ?_)
  refine z_iincL C 7 (fun v20 => [(0, .ref a0), (1, .int x1), (2, .int x2), (3, .int x3), (4, .int x4), (5, .int x5), (6, .int v19), (7, .int v20)]) dX1_reasonAgainst_149 rfl zi_1 (by decide) (fun _ => rfl) (fun v20 => ?_)
  refine z_goto C 26 dX1_reasonAgainst_152 (by decide) ?_
  exact hrec _ _ _ _ _ _
noncomputable def j_X1_reasonAgainst_128 (k155 : Int32 → Int32 → Int32 → Int32 → Int32 → Option Int32) (rec : Int32 → Int32 → Int32 → Int32 → Int32 → Int32 → Option Int32) (a0 : Nat) (x1 : Int32) (x2 : Int32) (x3 : Int32) (x4 : Int32) (x6 : Int32) (x7 : Int32) (a8 : Nat) (s0 : Int32) (s1 : Int32) (hp : zHp) : Option Int32 :=
  zlet (s0 ||| s1) fun v17 => (zgI hp a8 0 5).bind fun v18 => if v18 = 0 then (j_X1_reasonAgainst_146 k155 rec a0 x1 x2 x3 x4 v17 x7 x6 (1 : Int32) hp) else j_X1_reasonAgainst_146 k155 rec a0 x1 x2 x3 x4 v17 x7 x6 (0 : Int32) hp
set_option maxHeartbeats 4000000 in
set_option maxRecDepth 100000 in
theorem wj_X1_reasonAgainst_128 {P : zX} {ro : Nat → Nat} {sz : Nat} (C : zC P cX1_reasonAgainst RX1 (some .int) 6 0 0 9 ro) {a0 : Nat} {x1 : Int32} {x2 : Int32} {x3 : Int32} {x4 : Int32} {x6 : Int32} {x7 : Int32} {a8 : Nat} {s0 : Int32} {s1 : Int32} {hp : zHp} {k155 : Int32 → Int32 → Int32 → Int32 → Int32 → Option Int32} (hk155 : ∀ (x2 : Int32) (x3 : Int32) (x4 : Int32) (x5 : Int32) (x6 : Int32), zG P (zoP sz hp) (k155 x2 x3 x4 x5 x6) 155 [(0, .ref a0), (1, .int x1), (2, .int x2), (3, .int x3), (4, .int x4), (5, .int x5), (6, .int x6)] [] hp sz 0 0) {rec : Int32 → Int32 → Int32 → Int32 → Int32 → Int32 → Option Int32} (hrec : ∀ (x2 : Int32) (x3 : Int32) (x4 : Int32) (x5 : Int32) (x6 : Int32) (x7 : Int32), zG P (zoP sz hp) (rec x2 x3 x4 x5 x6 x7) 26 [(0, .ref a0), (1, .int x1), (2, .int x2), (3, .int x3), (4, .int x4), (5, .int x5), (6, .int x6), (7, .int x7)] [] hp sz 0 0) : zG P (zoP sz hp) (j_X1_reasonAgainst_128 k155 rec a0 x1 x2 x3 x4 x6 x7 a8 s0 s1 hp) 128 [(0, .ref a0), (1, .int x1), (2, .int x2), (3, .int x3), (4, .int x4), (6, .int x6), (7, .int x7), (8, .ref a8)] [.int s1, .int s0] hp sz 0 0 := by
  unfold j_X1_reasonAgainst_128
  refine z_ior C dX1_reasonAgainst_128 ?_
  refine z_istoreL C (fun v17 => [(0, .ref a0), (1, .int x1), (2, .int x2), (3, .int x3), (4, .int x4), (5, .int v17), (6, .int x6), (7, .int x7), (8, .ref a8)]) dX1_reasonAgainst_129 (by decide) (fun _ => rfl) (fun v17 => ?_)
  refine z_iload C dX1_reasonAgainst_131 6 rfl ?_
  refine z_aload C dX1_reasonAgainst_133 8 rfl ?_
  refine z_getI C zf_X1_121 dX1_reasonAgainst_135 (fun v18 => ?_)
  refine z_if_ne C 145 dX1_reasonAgainst_138 (by decide) ?_ ?_
  · refine z_iconst C dX1_reasonAgainst_141 zi_1 ?_
    refine z_goto C 146 dX1_reasonAgainst_142 (by decide) ?_
    exact z_sub [0, 1, 2, 3, 4, 5, 7] rfl (wj_X1_reasonAgainst_146 C hk155 hrec)
  refine z_iconst C dX1_reasonAgainst_145 zi_0 ?_
  exact z_sub [0, 1, 2, 3, 4, 5, 7] rfl (wj_X1_reasonAgainst_146 C hk155 hrec)
noncomputable def j_X1_reasonAgainst_127 (k155 : Int32 → Int32 → Int32 → Int32 → Int32 → Option Int32) (rec : Int32 → Int32 → Int32 → Int32 → Int32 → Int32 → Option Int32) (a0 : Nat) (x1 : Int32) (x2 : Int32) (x3 : Int32) (x4 : Int32) (x6 : Int32) (x7 : Int32) (a8 : Nat) (s0 : Int32) (hp : zHp) : Option Int32 :=
  j_X1_reasonAgainst_128 k155 rec a0 x1 x2 x3 x4 x6 x7 a8 s0 (0 : Int32) hp
set_option maxHeartbeats 4000000 in
set_option maxRecDepth 100000 in
theorem wj_X1_reasonAgainst_127 {P : zX} {ro : Nat → Nat} {sz : Nat} (C : zC P cX1_reasonAgainst RX1 (some .int) 6 0 0 9 ro) {a0 : Nat} {x1 : Int32} {x2 : Int32} {x3 : Int32} {x4 : Int32} {x6 : Int32} {x7 : Int32} {a8 : Nat} {s0 : Int32} {hp : zHp} {k155 : Int32 → Int32 → Int32 → Int32 → Int32 → Option Int32} (hk155 : ∀ (x2 : Int32) (x3 : Int32) (x4 : Int32) (x5 : Int32) (x6 : Int32), zG P (zoP sz hp) (k155 x2 x3 x4 x5 x6) 155 [(0, .ref a0), (1, .int x1), (2, .int x2), (3, .int x3), (4, .int x4), (5, .int x5), (6, .int x6)] [] hp sz 0 0) {rec : Int32 → Int32 → Int32 → Int32 → Int32 → Int32 → Option Int32} (hrec : ∀ (x2 : Int32) (x3 : Int32) (x4 : Int32) (x5 : Int32) (x6 : Int32) (x7 : Int32), zG P (zoP sz hp) (rec x2 x3 x4 x5 x6 x7) 26 [(0, .ref a0), (1, .int x1), (2, .int x2), (3, .int x3), (4, .int x4), (5, .int x5), (6, .int x6), (7, .int x7)] [] hp sz 0 0) : zG P (zoP sz hp) (j_X1_reasonAgainst_127 k155 rec a0 x1 x2 x3 x4 x6 x7 a8 s0 hp) 127 [(0, .ref a0), (1, .int x1), (2, .int x2), (3, .int x3), (4, .int x4), (6, .int x6), (7, .int x7), (8, .ref a8)] [.int s0] hp sz 0 0 := by
  unfold j_X1_reasonAgainst_127
  refine z_iconst C dX1_reasonAgainst_127 zi_0 ?_
  exact wj_X1_reasonAgainst_128 C hk155 hrec
noncomputable def j_X1_reasonAgainst_101 (k155 : Int32 → Int32 → Int32 → Int32 → Int32 → Option Int32) (rec : Int32 → Int32 → Int32 → Int32 → Int32 → Int32 → Option Int32) (a0 : Nat) (x1 : Int32) (x2 : Int32) (x3 : Int32) (x5 : Int32) (x6 : Int32) (x7 : Int32) (a8 : Nat) (s0 : Int32) (s1 : Int32) (hp : zHp) : Option Int32 :=
  zlet (s0 ||| s1) fun v15 => (f_X1_isBoxOff a0 x7 hp).bind fun v16 => if v16 = 0 then (j_X1_reasonAgainst_127 k155 rec a0 x1 x2 x3 v15 x6 x7 a8 x5 hp) else (zgI hp a8 0 5).bind fun v21 => if v21 = 0 then (j_X1_reasonAgainst_128 k155 rec a0 x1 x2 x3 v15 x6 x7 a8 x5 (1 : Int32) hp) else j_X1_reasonAgainst_127 k155 rec a0 x1 x2 x3 v15 x6 x7 a8 x5 hp
set_option maxHeartbeats 4000000 in
set_option maxRecDepth 100000 in
theorem wj_X1_reasonAgainst_101 {P : zX} {ro : Nat → Nat} {sz : Nat} (C : zC P cX1_reasonAgainst RX1 (some .int) 6 0 0 9 ro) {a0 : Nat} {x1 : Int32} {x2 : Int32} {x3 : Int32} {x5 : Int32} {x6 : Int32} {x7 : Int32} {a8 : Nat} {s0 : Int32} {s1 : Int32} {hp : zHp} {k155 : Int32 → Int32 → Int32 → Int32 → Int32 → Option Int32} (hk155 : ∀ (x2 : Int32) (x3 : Int32) (x4 : Int32) (x5 : Int32) (x6 : Int32), zG P (zoP sz hp) (k155 x2 x3 x4 x5 x6) 155 [(0, .ref a0), (1, .int x1), (2, .int x2), (3, .int x3), (4, .int x4), (5, .int x5), (6, .int x6)] [] hp sz 0 0) {rec : Int32 → Int32 → Int32 → Int32 → Int32 → Int32 → Option Int32} (hrec : ∀ (x2 : Int32) (x3 : Int32) (x4 : Int32) (x5 : Int32) (x6 : Int32) (x7 : Int32), zG P (zoP sz hp) (rec x2 x3 x4 x5 x6 x7) 26 [(0, .ref a0), (1, .int x1), (2, .int x2), (3, .int x3), (4, .int x4), (5, .int x5), (6, .int x6), (7, .int x7)] [] hp sz 0 0) : zG P (zoP sz hp) (j_X1_reasonAgainst_101 k155 rec a0 x1 x2 x3 x5 x6 x7 a8 s0 s1 hp) 101 [(0, .ref a0), (1, .int x1), (2, .int x2), (3, .int x3), (5, .int x5), (6, .int x6), (7, .int x7), (8, .ref a8)] [.int s1, .int s0] hp sz 0 0 := by
  unfold j_X1_reasonAgainst_101
  refine z_ior C dX1_reasonAgainst_101 ?_
  refine z_istoreL C (fun v15 => [(0, .ref a0), (1, .int x1), (2, .int x2), (3, .int x3), (4, .int v15), (5, .int x5), (6, .int x6), (7, .int x7), (8, .ref a8)]) dX1_reasonAgainst_102 (by decide) (fun _ => rfl) (fun v15 => ?_)
  refine z_iload C dX1_reasonAgainst_104 5 rfl ?_
  refine z_aload_n C dX1_reasonAgainst_106 0 rfl ?_
  refine z_iload C dX1_reasonAgainst_107 7 rfl ?_
  refine z_callVp C zc_X1_162 [.int x7] (fun l D tc b0 r h => m_X1_isBoxOff l D tc ro b0 h) dX1_reasonAgainst_109 rfl rfl (Nat.le_of_ble_eq_true rfl) (by decide) (by decide) ⟨Nat.le_of_ble_eq_true rfl, Nat.le_of_ble_eq_true rfl⟩ (fun v16 => ?_)
  refine z_if_eq C 127 dX1_reasonAgainst_112 (by decide) ?_ ?_
  · exact z_sub [0, 1, 2, 3, 4, 6, 7, 8] rfl (wj_X1_reasonAgainst_127 C hk155 hrec)
  refine z_aload C dX1_reasonAgainst_115 8 rfl ?_
  refine z_getI C zf_X1_121 dX1_reasonAgainst_117 (fun v21 => ?_)
  refine z_if_ne C 127 dX1_reasonAgainst_120 (by decide) ?_ ?_
  · refine z_iconst C dX1_reasonAgainst_123 zi_1 ?_
    refine z_goto C 128 dX1_reasonAgainst_124 (by decide) ?_
    exact z_sub [0, 1, 2, 3, 4, 6, 7, 8] rfl (wj_X1_reasonAgainst_128 C hk155 hrec)
  exact z_sub [0, 1, 2, 3, 4, 6, 7, 8] rfl (wj_X1_reasonAgainst_127 C hk155 hrec)
noncomputable def j_X1_reasonAgainst_82 (k155 : Int32 → Int32 → Int32 → Int32 → Int32 → Option Int32) (rec : Int32 → Int32 → Int32 → Int32 → Int32 → Int32 → Option Int32) (a0 : Nat) (x1 : Int32) (x2 : Int32) (x4 : Int32) (x5 : Int32) (x6 : Int32) (x7 : Int32) (a8 : Nat) (s0 : Int32) (s1 : Int32) (hp : zHp) : Option Int32 :=
  zlet (s0 ||| s1) fun v13 => (zgI hp a8 0 0).bind fun v14 => if v14 = (-4 : Int32) then (j_X1_reasonAgainst_101 k155 rec a0 x1 x2 v13 x5 x6 x7 a8 x4 (0 : Int32) hp) else j_X1_reasonAgainst_101 k155 rec a0 x1 x2 v13 x5 x6 x7 a8 x4 (1 : Int32) hp
set_option maxHeartbeats 4000000 in
set_option maxRecDepth 100000 in
theorem wj_X1_reasonAgainst_82 {P : zX} {ro : Nat → Nat} {sz : Nat} (C : zC P cX1_reasonAgainst RX1 (some .int) 6 0 0 9 ro) {a0 : Nat} {x1 : Int32} {x2 : Int32} {x4 : Int32} {x5 : Int32} {x6 : Int32} {x7 : Int32} {a8 : Nat} {s0 : Int32} {s1 : Int32} {hp : zHp} {k155 : Int32 → Int32 → Int32 → Int32 → Int32 → Option Int32} (hk155 : ∀ (x2 : Int32) (x3 : Int32) (x4 : Int32) (x5 : Int32) (x6 : Int32), zG P (zoP sz hp) (k155 x2 x3 x4 x5 x6) 155 [(0, .ref a0), (1, .int x1), (2, .int x2), (3, .int x3), (4, .int x4), (5, .int x5), (6, .int x6)] [] hp sz 0 0) {rec : Int32 → Int32 → Int32 → Int32 → Int32 → Int32 → Option Int32} (hrec : ∀ (x2 : Int32) (x3 : Int32) (x4 : Int32) (x5 : Int32) (x6 : Int32) (x7 : Int32), zG P (zoP sz hp) (rec x2 x3 x4 x5 x6 x7) 26 [(0, .ref a0), (1, .int x1), (2, .int x2), (3, .int x3), (4, .int x4), (5, .int x5), (6, .int x6), (7, .int x7)] [] hp sz 0 0) : zG P (zoP sz hp) (j_X1_reasonAgainst_82 k155 rec a0 x1 x2 x4 x5 x6 x7 a8 s0 s1 hp) 82 [(0, .ref a0), (1, .int x1), (2, .int x2), (4, .int x4), (5, .int x5), (6, .int x6), (7, .int x7), (8, .ref a8)] [.int s1, .int s0] hp sz 0 0 := by
  unfold j_X1_reasonAgainst_82
  refine z_ior C dX1_reasonAgainst_82 ?_
  refine z_istore_nL C (fun v13 => [(0, .ref a0), (1, .int x1), (2, .int x2), (3, .int v13), (4, .int x4), (5, .int x5), (6, .int x6), (7, .int x7), (8, .ref a8)]) dX1_reasonAgainst_83 (by decide) (fun _ => rfl) (fun v13 => ?_)
  refine z_iload C dX1_reasonAgainst_84 4 rfl ?_
  refine z_aload C dX1_reasonAgainst_86 8 rfl ?_
  refine z_getI C zf_X1_37 dX1_reasonAgainst_88 (fun v14 => ?_)
  refine z_bipush C dX1_reasonAgainst_91 zbi_m4 ?_
  refine z_icmp_eq C 100 dX1_reasonAgainst_93 (by decide) ?_ ?_
  · refine z_iconst C dX1_reasonAgainst_100 zi_0 ?_
    exact z_sub [0, 1, 2, 3, 5, 6, 7, 8] rfl (wj_X1_reasonAgainst_101 C hk155 hrec)
  refine z_iconst C dX1_reasonAgainst_96 zi_1 ?_
  refine z_goto C 101 dX1_reasonAgainst_97 (by decide) ?_
  exact z_sub [0, 1, 2, 3, 5, 6, 7, 8] rfl (wj_X1_reasonAgainst_101 C hk155 hrec)
noncomputable def b_X1_reasonAgainst_26 (k155 : Int32 → Int32 → Int32 → Int32 → Int32 → Option Int32) (a0 : Nat) (x1 : Int32) (hp : zHp) (rec : Int32 → Int32 → Int32 → Int32 → Int32 → Int32 → Option Int32) (x2 : Int32) (x3 : Int32) (x4 : Int32) (x5 : Int32) (x6 : Int32) (x7 : Int32) : Option Int32 :=
  (zgR hp a0 1 0).bind fun r2 => (zgR hp r2 5 0).bind fun r3 => (zaI hp 0 r3 (3 : Int32)).bind fun v4 => if x7 < v4 then ((zgR hp a0 1 0).bind fun r5 => (zgR hp r5 5 4).bind fun r6 => (zaI hp 0 r6 x7).bind fun v7 => if v7 = x1 then ((zgR hp a0 1 1).bind fun r9 => (zgR hp r9 6 0).bind fun r10 => (zaR hp 3 r10 x7).bind fun r11 => (zgI hp r11 0 3).bind fun v12 => if v12 = 0 then (j_X1_reasonAgainst_82 k155 rec a0 x1 (0 : Int32) x4 x5 x6 x7 r11 x3 (1 : Int32) hp) else j_X1_reasonAgainst_82 k155 rec a0 x1 (0 : Int32) x4 x5 x6 x7 r11 x3 (0 : Int32) hp) else zlet (x7 + (1 : Int32)) fun v8 => rec x2 x3 x4 x5 x6 v8) else k155 x2 x3 x4 x5 x6
noncomputable def l_X1_reasonAgainst_26 (k155 : Int32 → Int32 → Int32 → Int32 → Int32 → Option Int32) (a0 : Nat) (x1 : Int32) (hp : zHp) (n : Nat) : Int32 → Int32 → Int32 → Int32 → Int32 → Int32 → Option Int32 :=
  Nat.rec (motive := fun _ => Int32 → Int32 → Int32 → Int32 → Int32 → Int32 → Option Int32) (fun _ _ _ _ _ _ => none) (fun _ rec => b_X1_reasonAgainst_26 k155 a0 x1 hp rec) n
theorem l_X1_reasonAgainst_26_s (k155 : Int32 → Int32 → Int32 → Int32 → Int32 → Option Int32) (a0 : Nat) (x1 : Int32) (hp : zHp) (n : Nat) (x2 : Int32) (x3 : Int32) (x4 : Int32) (x5 : Int32) (x6 : Int32) (x7 : Int32) : l_X1_reasonAgainst_26 k155 a0 x1 hp (n + 1) x2 x3 x4 x5 x6 x7 = b_X1_reasonAgainst_26 k155 a0 x1 hp (l_X1_reasonAgainst_26 k155 a0 x1 hp n) x2 x3 x4 x5 x6 x7 := rfl
set_option maxHeartbeats 4000000 in
set_option maxRecDepth 100000 in
theorem wl_X1_reasonAgainst_26 {P : zX} {ro : Nat → Nat} {sz : Nat} (C : zC P cX1_reasonAgainst RX1 (some .int) 6 0 0 9 ro) {a0 : Nat} {x1 : Int32} {hp : zHp} {k155 : Int32 → Int32 → Int32 → Int32 → Int32 → Option Int32} (hk155 : ∀ (x2 : Int32) (x3 : Int32) (x4 : Int32) (x5 : Int32) (x6 : Int32), zG P (zoP sz hp) (k155 x2 x3 x4 x5 x6) 155 [(0, .ref a0), (1, .int x1), (2, .int x2), (3, .int x3), (4, .int x4), (5, .int x5), (6, .int x6)] [] hp sz 0 0) : ∀ (n : Nat) (x2 : Int32) (x3 : Int32) (x4 : Int32) (x5 : Int32) (x6 : Int32) (x7 : Int32), zG P (zoP sz hp) (l_X1_reasonAgainst_26 k155 a0 x1 hp n x2 x3 x4 x5 x6 x7) 26 [(0, .ref a0), (1, .int x1), (2, .int x2), (3, .int x3), (4, .int x4), (5, .int x5), (6, .int x6), (7, .int x7)] [] hp sz 0 0 := by
  intro n
  induction n with
  | zero =>
    intro x2 x3 x4 x5 x6 x7
    show zG P (zoP sz hp) none _ _ _ _ _ _ _
    exact z_none
  | succ n ih =>
    intro x2 x3 x4 x5 x6 x7
    show zG P (zoP sz hp) (b_X1_reasonAgainst_26 k155 a0 x1 hp (l_X1_reasonAgainst_26 k155 a0 x1 hp n) x2 x3 x4 x5 x6 x7) _ _ _ _ _ _ _
    unfold b_X1_reasonAgainst_26
    refine z_iload C dX1_reasonAgainst_26 7 rfl ?_
    refine z_aload_n C dX1_reasonAgainst_28 0 rfl ?_
    refine z_getR C zf_X1_12 dX1_reasonAgainst_29 (fun r2 => ?_)
    refine z_getR C zf_X1_29 dX1_reasonAgainst_32 (fun r3 => ?_)
    refine z_iconst C dX1_reasonAgainst_35 zi_3 ?_
    refine z_iaload C dX1_reasonAgainst_36 (fun v4 => ?_)
    refine z_icmp_ge C 155 dX1_reasonAgainst_37 (by decide) ?_ ?_
    · refine z_aload_n C dX1_reasonAgainst_40 0 rfl ?_
      refine z_getR C zf_X1_12 dX1_reasonAgainst_41 (fun r5 => ?_)
      refine z_getR C zf_X1_138 dX1_reasonAgainst_44 (fun r6 => ?_)
      refine z_iload C dX1_reasonAgainst_47 7 rfl ?_
      refine z_iaload C dX1_reasonAgainst_49 (fun v7 => ?_)
      refine z_iload_n C dX1_reasonAgainst_50 1 rfl ?_
      refine z_icmp_ne C 149 dX1_reasonAgainst_51 (by decide) ?_ ?_
      · refine z_aload_n C dX1_reasonAgainst_54 0 rfl ?_
        refine z_getR C zf_X1_21 dX1_reasonAgainst_55 (fun r9 => ?_)
        refine z_getR C zf_X1_33 dX1_reasonAgainst_58 (fun r10 => ?_)
        refine z_iload C dX1_reasonAgainst_61 7 rfl ?_
        refine z_aaload (t := 3) (ty := .object "CountHall$Box") C (fun _ => rfl) rfl (by decide) dX1_reasonAgainst_63 (fun r11 => ?_)
        refine z_astore (lv' := [(0, .ref a0), (1, .int x1), (2, .int x2), (3, .int x3), (4, .int x4), (5, .int x5), (6, .int x6), (7, .int x7), (8, .ref r11)]) C dX1_reasonAgainst_64 (by decide) rfl ?_
        refine z_iconst C dX1_reasonAgainst_66 zi_0 ?_
        refine z_istore_n (lv' := [(0, .ref a0), (1, .int x1), (2, .int (0 : Int32)), (3, .int x3), (4, .int x4), (5, .int x5), (6, .int x6), (7, .int x7), (8, .ref r11)]) C dX1_reasonAgainst_67 (by decide) rfl ?_
        refine z_iload_n C dX1_reasonAgainst_68 3 rfl ?_
        refine z_aload C dX1_reasonAgainst_69 8 rfl ?_
        refine z_getI C zf_X1_43 dX1_reasonAgainst_71 (fun v12 => ?_)
        refine z_if_ne C 81 dX1_reasonAgainst_74 (by decide) ?_ ?_
        · refine z_iconst C dX1_reasonAgainst_77 zi_1 ?_
          refine z_goto C 82 dX1_reasonAgainst_78 (by decide) ?_
          exact z_sub [0, 1, 2, 4, 5, 6, 7, 8] rfl (wj_X1_reasonAgainst_82 C hk155 ih)
        refine z_iconst C dX1_reasonAgainst_81 zi_0 ?_
        exact z_sub [0, 1, 2, 4, 5, 6, 7, 8] rfl (wj_X1_reasonAgainst_82 C hk155 ih)
      refine z_iincL C 7 (fun v8 => [(0, .ref a0), (1, .int x1), (2, .int x2), (3, .int x3), (4, .int x4), (5, .int x5), (6, .int x6), (7, .int v8)]) dX1_reasonAgainst_149 rfl zi_1 (by decide) (fun _ => rfl) (fun v8 => ?_)
      refine z_goto C 26 dX1_reasonAgainst_152 (by decide) ?_
      exact ih _ _ _ _ _ _
    exact z_sub [0, 1, 2, 3, 4, 5, 6] rfl (hk155 _ _ _ _ _)
noncomputable def f_X1_reasonAgainst (a0 : Nat) (x1 : Int32) (hp : zHp) : Option Int32 :=
  (zis hp a0 1).bind fun _ => (f_X1_isWardDeclared a0 x1 hp).bind fun v1 => if v1 = 0 then (l_X1_reasonAgainst_26 (fun p22 p23 p24 p25 p26 => if p22 = 0 then (if p23 = 0 then (if p24 = 0 then (if p25 = 0 then (if p26 = 0 then (some (0 : Int32)) else (f_X1_isWardClose a0 x1 hp).bind fun v27 => if v27 = 0 then (some (0 : Int32)) else some (5 : Int32)) else some (4 : Int32)) else some (3 : Int32)) else some (2 : Int32)) else some (2 : Int32)) a0 x1 hp 1000000 (1 : Int32) (0 : Int32) (0 : Int32) (0 : Int32) (0 : Int32) (0 : Int32)) else some (1 : Int32)
set_option maxHeartbeats 4000000 in
set_option maxRecDepth 100000 in
theorem m_X1_reasonAgainst (l : Launch) (D : va_G) (tc : Nat → ClassId) (ro : Nat → Nat) (b0 : Nat) {a0 : Nat} {x1 : Int32} {hp : zHp} {sz : Nat} {r : Int32} (h : f_X1_reasonAgainst a0 x1 hp = some r) : zis hp a0 1 = some () ∧ zM l yX1_reasonAgainst cX1_reasonAgainst 9 (some .int) 6 0 0 [.ref a0, .int x1] D tc ro b0 hp sz ((zoP sz hp) r).1 ((zoP sz hp) r).2.1 ((zoP sz hp) r).2.2 := by
  refine ⟨?_, z_start (o := (zoP sz hp)) (lv := [(0, .ref a0), (1, .int x1)]) h (by decide +kernel) RX1 rfl rfl (Nat.le_of_ble_eq_true rfl) (fun P C => ?_)⟩
  · unfold f_X1_reasonAgainst at h
    cases hc : zis hp a0 1 with
    | none => rw [hc] at h; cases h
    | some u => rfl
  unfold f_X1_reasonAgainst
  refine z_is ?_
  refine z_aload_n C dX1_reasonAgainst_0 0 rfl ?_
  refine z_iload_n C dX1_reasonAgainst_1 1 rfl ?_
  refine z_callVp C zc_X1_159 [.int x1] (fun l D tc b0 r h => m_X1_isWardDeclared l D tc ro b0 h) dX1_reasonAgainst_2 rfl rfl (Nat.le_of_ble_eq_true rfl) (by decide) (by decide) ⟨Nat.le_of_ble_eq_true rfl, Nat.le_of_ble_eq_true rfl⟩ (fun v1 => ?_)
  refine z_if_eq C 10 dX1_reasonAgainst_5 (by decide) ?_ ?_
  · refine z_iconst C dX1_reasonAgainst_10 zi_1 ?_
    refine z_istore_n (lv' := [(0, .ref a0), (1, .int x1), (2, .int (1 : Int32))]) C dX1_reasonAgainst_11 (by decide) rfl ?_
    refine z_iconst C dX1_reasonAgainst_12 zi_0 ?_
    refine z_istore_n (lv' := [(0, .ref a0), (1, .int x1), (2, .int (1 : Int32)), (3, .int (0 : Int32))]) C dX1_reasonAgainst_13 (by decide) rfl ?_
    refine z_iconst C dX1_reasonAgainst_14 zi_0 ?_
    refine z_istore (lv' := [(0, .ref a0), (1, .int x1), (2, .int (1 : Int32)), (3, .int (0 : Int32)), (4, .int (0 : Int32))]) C dX1_reasonAgainst_15 (by decide) rfl ?_
    refine z_iconst C dX1_reasonAgainst_17 zi_0 ?_
    refine z_istore (lv' := [(0, .ref a0), (1, .int x1), (2, .int (1 : Int32)), (3, .int (0 : Int32)), (4, .int (0 : Int32)), (5, .int (0 : Int32))]) C dX1_reasonAgainst_18 (by decide) rfl ?_
    refine z_iconst C dX1_reasonAgainst_20 zi_0 ?_
    refine z_istore (lv' := [(0, .ref a0), (1, .int x1), (2, .int (1 : Int32)), (3, .int (0 : Int32)), (4, .int (0 : Int32)), (5, .int (0 : Int32)), (6, .int (0 : Int32))]) C dX1_reasonAgainst_21 (by decide) rfl ?_
    refine z_iconst C dX1_reasonAgainst_23 zi_0 ?_
    refine z_istore (lv' := [(0, .ref a0), (1, .int x1), (2, .int (1 : Int32)), (3, .int (0 : Int32)), (4, .int (0 : Int32)), (5, .int (0 : Int32)), (6, .int (0 : Int32)), (7, .int (0 : Int32))]) C dX1_reasonAgainst_24 (by decide) rfl ?_
    refine wl_X1_reasonAgainst_26 C (fun p22 p23 p24 p25 p26 => ?_) _ _ _ _ _ _ _
    refine z_iload_n C dX1_reasonAgainst_155 2 rfl ?_
    refine z_if_ne C 163 dX1_reasonAgainst_156 (by decide) ?_ ?_
    · refine z_iload_n C dX1_reasonAgainst_159 3 rfl ?_
      refine z_if_eq C 165 dX1_reasonAgainst_160 (by decide) ?_ ?_
      · refine z_iload C dX1_reasonAgainst_165 4 rfl ?_
        refine z_if_eq C 172 dX1_reasonAgainst_167 (by decide) ?_ ?_
        · refine z_iload C dX1_reasonAgainst_172 5 rfl ?_
          refine z_if_eq C 179 dX1_reasonAgainst_174 (by decide) ?_ ?_
          · refine z_iload C dX1_reasonAgainst_179 6 rfl ?_
            refine z_if_eq C 196 dX1_reasonAgainst_181 (by decide) ?_ ?_
            · refine z_iconst C dX1_reasonAgainst_196 zi_0 ?_
              exact z_ireturnP C dX1_reasonAgainst_197
            refine z_aload_n C dX1_reasonAgainst_184 0 rfl ?_
            refine z_iload_n C dX1_reasonAgainst_185 1 rfl ?_
            refine z_callVp C zc_X1_165 [.int x1] (fun l D tc b0 r h => m_X1_isWardClose l D tc ro b0 h) dX1_reasonAgainst_186 rfl rfl (Nat.le_of_ble_eq_true rfl) (by decide) (by decide) ⟨Nat.le_of_ble_eq_true rfl, Nat.le_of_ble_eq_true rfl⟩ (fun v27 => ?_)
            refine z_if_eq C 196 dX1_reasonAgainst_189 (by decide) ?_ ?_
            · refine z_iconst C dX1_reasonAgainst_196 zi_0 ?_
              exact z_ireturnP C dX1_reasonAgainst_197
            refine z_iconst C dX1_reasonAgainst_192 zi_5 ?_
            refine z_goto C 197 dX1_reasonAgainst_193 (by decide) ?_
            exact z_ireturnP C dX1_reasonAgainst_197
          refine z_iconst C dX1_reasonAgainst_177 zi_4 ?_
          exact z_ireturnP C dX1_reasonAgainst_178
        refine z_iconst C dX1_reasonAgainst_170 zi_3 ?_
        exact z_ireturnP C dX1_reasonAgainst_171
      refine z_iconst C dX1_reasonAgainst_163 zi_2 ?_
      exact z_ireturnP C dX1_reasonAgainst_164
    refine z_iconst C dX1_reasonAgainst_163 zi_2 ?_
    exact z_ireturnP C dX1_reasonAgainst_164
  refine z_iconst C dX1_reasonAgainst_8 zi_1 ?_
  exact z_ireturnP C dX1_reasonAgainst_9
noncomputable def f_X1_mustBeCounted (a0 : Nat) (x1 : Int32) (hp : zHp) : Option Int32 :=
  (zis hp a0 1).bind fun _ => (zgR hp a0 1 1).bind fun r1 => (zgR hp r1 6 0).bind fun r2 => (zaR hp 3 r2 x1).bind fun r3 => (zgR hp a0 1 0).bind fun r4 => (zgR hp r4 5 4).bind fun r5 => (zaI hp 0 r5 x1).bind fun v6 => (zgI hp r3 0 5).bind fun v7 => if v7 = 0 then ((f_X1_isWardDeclared a0 v6 hp).bind fun v8 => if v8 = 0 then ((zgI hp r3 0 3).bind fun v9 => if v9 = 0 then (some (1 : Int32)) else (f_X1_isBoxOff a0 x1 hp).bind fun v10 => if v10 = 0 then ((f_X1_isWardClose a0 v6 hp).bind fun v11 => if v11 = 0 then (some (0 : Int32)) else some (1 : Int32)) else some (1 : Int32)) else some (0 : Int32)) else some (0 : Int32)
set_option maxHeartbeats 4000000 in
set_option maxRecDepth 100000 in
theorem m_X1_mustBeCounted (l : Launch) (D : va_G) (tc : Nat → ClassId) (ro : Nat → Nat) (b0 : Nat) {a0 : Nat} {x1 : Int32} {hp : zHp} {sz : Nat} {r : Int32} (h : f_X1_mustBeCounted a0 x1 hp = some r) : zis hp a0 1 = some () ∧ zM l yX1_mustBeCounted cX1_mustBeCounted 4 (some .boolean) 6 0 0 [.ref a0, .int x1] D tc ro b0 hp sz ((zoP sz hp) r).1 ((zoP sz hp) r).2.1 ((zoP sz hp) r).2.2 := by
  refine ⟨?_, z_start (o := (zoP sz hp)) (lv := [(0, .ref a0), (1, .int x1)]) h (by decide +kernel) RX1 rfl rfl (Nat.le_of_ble_eq_true rfl) (fun P C => ?_)⟩
  · unfold f_X1_mustBeCounted at h
    cases hc : zis hp a0 1 with
    | none => rw [hc] at h; cases h
    | some u => rfl
  unfold f_X1_mustBeCounted
  refine z_is ?_
  refine z_aload_n C dX1_mustBeCounted_0 0 rfl ?_
  refine z_getR C zf_X1_21 dX1_mustBeCounted_1 (fun r1 => ?_)
  refine z_getR C zf_X1_33 dX1_mustBeCounted_4 (fun r2 => ?_)
  refine z_iload_n C dX1_mustBeCounted_7 1 rfl ?_
  refine z_aaload (t := 3) (ty := .object "CountHall$Box") C (fun _ => rfl) rfl (by decide) dX1_mustBeCounted_8 (fun r3 => ?_)
  refine z_astore_n (lv' := [(0, .ref a0), (1, .int x1), (2, .ref r3)]) C dX1_mustBeCounted_9 (by decide) rfl ?_
  refine z_aload_n C dX1_mustBeCounted_10 0 rfl ?_
  refine z_getR C zf_X1_12 dX1_mustBeCounted_11 (fun r4 => ?_)
  refine z_getR C zf_X1_138 dX1_mustBeCounted_14 (fun r5 => ?_)
  refine z_iload_n C dX1_mustBeCounted_17 1 rfl ?_
  refine z_iaload C dX1_mustBeCounted_18 (fun v6 => ?_)
  refine z_istore_n (lv' := [(0, .ref a0), (1, .int x1), (2, .ref r3), (3, .int v6)]) C dX1_mustBeCounted_19 (by decide) rfl ?_
  refine z_aload_n C dX1_mustBeCounted_20 2 rfl ?_
  refine z_getI C zf_X1_121 dX1_mustBeCounted_21 (fun v7 => ?_)
  refine z_if_ne C 35 dX1_mustBeCounted_24 (by decide) ?_ ?_
  · refine z_aload_n C dX1_mustBeCounted_27 0 rfl ?_
    refine z_iload_n C dX1_mustBeCounted_28 3 rfl ?_
    refine z_callVp C zc_X1_159 [.int v6] (fun l D tc b0 r h => m_X1_isWardDeclared l D tc ro b0 h) dX1_mustBeCounted_29 rfl rfl (Nat.le_of_ble_eq_true rfl) (by decide) (by decide) ⟨Nat.le_of_ble_eq_true rfl, Nat.le_of_ble_eq_true rfl⟩ (fun v8 => ?_)
    refine z_if_eq C 37 dX1_mustBeCounted_32 (by decide) ?_ ?_
    · refine z_aload_n C dX1_mustBeCounted_37 2 rfl ?_
      refine z_getI C zf_X1_43 dX1_mustBeCounted_38 (fun v9 => ?_)
      refine z_if_eq C 60 dX1_mustBeCounted_41 (by decide) ?_ ?_
      · refine z_iconst C dX1_mustBeCounted_60 zi_1 ?_
        refine z_goto C 65 dX1_mustBeCounted_61 (by decide) ?_
        exact z_kreturnP C rfl dX1_mustBeCounted_65
      refine z_aload_n C dX1_mustBeCounted_44 0 rfl ?_
      refine z_iload_n C dX1_mustBeCounted_45 1 rfl ?_
      refine z_callVp C zc_X1_162 [.int x1] (fun l D tc b0 r h => m_X1_isBoxOff l D tc ro b0 h) dX1_mustBeCounted_46 rfl rfl (Nat.le_of_ble_eq_true rfl) (by decide) (by decide) ⟨Nat.le_of_ble_eq_true rfl, Nat.le_of_ble_eq_true rfl⟩ (fun v10 => ?_)
      refine z_if_ne C 60 dX1_mustBeCounted_49 (by decide) ?_ ?_
      · refine z_aload_n C dX1_mustBeCounted_52 0 rfl ?_
        refine z_iload_n C dX1_mustBeCounted_53 3 rfl ?_
        refine z_callVp C zc_X1_165 [.int v6] (fun l D tc b0 r h => m_X1_isWardClose l D tc ro b0 h) dX1_mustBeCounted_54 rfl rfl (Nat.le_of_ble_eq_true rfl) (by decide) (by decide) ⟨Nat.le_of_ble_eq_true rfl, Nat.le_of_ble_eq_true rfl⟩ (fun v11 => ?_)
        refine z_if_eq C 64 dX1_mustBeCounted_57 (by decide) ?_ ?_
        · refine z_iconst C dX1_mustBeCounted_64 zi_0 ?_
          exact z_kreturnP C rfl dX1_mustBeCounted_65
        refine z_iconst C dX1_mustBeCounted_60 zi_1 ?_
        refine z_goto C 65 dX1_mustBeCounted_61 (by decide) ?_
        exact z_kreturnP C rfl dX1_mustBeCounted_65
      refine z_iconst C dX1_mustBeCounted_60 zi_1 ?_
      refine z_goto C 65 dX1_mustBeCounted_61 (by decide) ?_
      exact z_kreturnP C rfl dX1_mustBeCounted_65
    refine z_iconst C dX1_mustBeCounted_35 zi_0 ?_
    exact z_kreturnP C rfl dX1_mustBeCounted_36
  refine z_iconst C dX1_mustBeCounted_35 zi_0 ?_
  exact z_kreturnP C rfl dX1_mustBeCounted_36
noncomputable def b_X1_boxesToCount_4 (k37 : Int32 → Option Int32) (a0 : Nat) (hp : zHp) (rec : Int32 → Int32 → Option Int32) (x1 : Int32) (x2 : Int32) : Option Int32 :=
  (zgR hp a0 1 0).bind fun r1 => (zgR hp r1 5 0).bind fun r2 => (zaI hp 0 r2 (3 : Int32)).bind fun v3 => if x2 < v3 then ((f_X1_mustBeCounted a0 x2 hp).bind fun v4 => if v4 = 0 then (zlet (x2 + (1 : Int32)) fun v5 => rec x1 v5) else zlet (x1 ||| ((1 : Int32) <<< (x2 &&& 31))) fun v6 => zlet (x2 + (1 : Int32)) fun v7 => rec v6 v7) else k37 x1
noncomputable def l_X1_boxesToCount_4 (k37 : Int32 → Option Int32) (a0 : Nat) (hp : zHp) (n : Nat) : Int32 → Int32 → Option Int32 :=
  Nat.rec (motive := fun _ => Int32 → Int32 → Option Int32) (fun _ _ => none) (fun _ rec => b_X1_boxesToCount_4 k37 a0 hp rec) n
theorem l_X1_boxesToCount_4_s (k37 : Int32 → Option Int32) (a0 : Nat) (hp : zHp) (n : Nat) (x1 : Int32) (x2 : Int32) : l_X1_boxesToCount_4 k37 a0 hp (n + 1) x1 x2 = b_X1_boxesToCount_4 k37 a0 hp (l_X1_boxesToCount_4 k37 a0 hp n) x1 x2 := rfl
set_option maxHeartbeats 4000000 in
set_option maxRecDepth 100000 in
theorem wl_X1_boxesToCount_4 {P : zX} {ro : Nat → Nat} {sz : Nat} (C : zC P cX1_boxesToCount RX1 (some .int) 7 0 0 3 ro) {a0 : Nat} {hp : zHp} {k37 : Int32 → Option Int32} (hk37 : ∀ (x1 : Int32), zG P (zoP sz hp) (k37 x1) 37 [(1, .int x1)] [] hp sz 0 0) : ∀ (n : Nat) (x1 : Int32) (x2 : Int32), zG P (zoP sz hp) (l_X1_boxesToCount_4 k37 a0 hp n x1 x2) 4 [(0, .ref a0), (1, .int x1), (2, .int x2)] [] hp sz 0 0 := by
  intro n
  induction n with
  | zero =>
    intro x1 x2
    show zG P (zoP sz hp) none _ _ _ _ _ _ _
    exact z_none
  | succ n ih =>
    intro x1 x2
    show zG P (zoP sz hp) (b_X1_boxesToCount_4 k37 a0 hp (l_X1_boxesToCount_4 k37 a0 hp n) x1 x2) _ _ _ _ _ _ _
    unfold b_X1_boxesToCount_4
    refine z_iload_n C dX1_boxesToCount_4 2 rfl ?_
    refine z_aload_n C dX1_boxesToCount_5 0 rfl ?_
    refine z_getR C zf_X1_12 dX1_boxesToCount_6 (fun r1 => ?_)
    refine z_getR C zf_X1_29 dX1_boxesToCount_9 (fun r2 => ?_)
    refine z_iconst C dX1_boxesToCount_12 zi_3 ?_
    refine z_iaload C dX1_boxesToCount_13 (fun v3 => ?_)
    refine z_icmp_ge C 37 dX1_boxesToCount_14 (by decide) ?_ ?_
    · refine z_aload_n C dX1_boxesToCount_17 0 rfl ?_
      refine z_iload_n C dX1_boxesToCount_18 2 rfl ?_
      refine z_callVp C zc_X1_168 [.int x2] (fun l D tc b0 r h => m_X1_mustBeCounted l D tc ro b0 h) dX1_boxesToCount_19 rfl rfl (Nat.le_of_ble_eq_true rfl) (by decide) (by decide) ⟨Nat.le_of_ble_eq_true rfl, Nat.le_of_ble_eq_true rfl⟩ (fun v4 => ?_)
      refine z_if_eq C 31 dX1_boxesToCount_22 (by decide) ?_ ?_
      · refine z_iincL C 2 (fun v5 => [(0, .ref a0), (1, .int x1), (2, .int v5)]) dX1_boxesToCount_31 rfl zi_1 (by decide) (fun _ => rfl) (fun v5 => ?_)
        refine z_goto C 4 dX1_boxesToCount_34 (by decide) ?_
        exact ih _ _
      refine z_iload_n C dX1_boxesToCount_25 1 rfl ?_
      refine z_iconst C dX1_boxesToCount_26 zi_1 ?_
      refine z_iload_n C dX1_boxesToCount_27 2 rfl ?_
      refine z_ishl C dX1_boxesToCount_28 ?_
      refine z_ior C dX1_boxesToCount_29 ?_
      refine z_istore_nL C (fun v6 => [(0, .ref a0), (1, .int v6), (2, .int x2)]) dX1_boxesToCount_30 (by decide) (fun _ => rfl) (fun v6 => ?_)
      refine z_iincL C 2 (fun v7 => [(0, .ref a0), (1, .int v6), (2, .int v7)]) dX1_boxesToCount_31 rfl zi_1 (by decide) (fun _ => rfl) (fun v7 => ?_)
      refine z_goto C 4 dX1_boxesToCount_34 (by decide) ?_
      exact ih _ _
    exact z_sub [1] rfl (hk37 _)
noncomputable def f_X1_boxesToCount (a0 : Nat) (hp : zHp) : Option Int32 :=
  (zis hp a0 1).bind fun _ => l_X1_boxesToCount_4 (fun p8 => some p8) a0 hp 1000000 (0 : Int32) (0 : Int32)
set_option maxHeartbeats 4000000 in
set_option maxRecDepth 100000 in
theorem m_X1_boxesToCount (l : Launch) (D : va_G) (tc : Nat → ClassId) (ro : Nat → Nat) (b0 : Nat) {a0 : Nat} {hp : zHp} {sz : Nat} {r : Int32} (h : f_X1_boxesToCount a0 hp = some r) : zis hp a0 1 = some () ∧ zM l yX1_boxesToCount cX1_boxesToCount 3 (some .int) 7 0 0 [.ref a0] D tc ro b0 hp sz ((zoP sz hp) r).1 ((zoP sz hp) r).2.1 ((zoP sz hp) r).2.2 := by
  refine ⟨?_, z_start (o := (zoP sz hp)) (lv := [(0, .ref a0)]) h (by decide +kernel) RX1 rfl rfl (Nat.le_of_ble_eq_true rfl) (fun P C => ?_)⟩
  · unfold f_X1_boxesToCount at h
    cases hc : zis hp a0 1 with
    | none => rw [hc] at h; cases h
    | some u => rfl
  unfold f_X1_boxesToCount
  refine z_is ?_
  refine z_iconst C dX1_boxesToCount_0 zi_0 ?_
  refine z_istore_n (lv' := [(0, .ref a0), (1, .int (0 : Int32))]) C dX1_boxesToCount_1 (by decide) rfl ?_
  refine z_iconst C dX1_boxesToCount_2 zi_0 ?_
  refine z_istore_n (lv' := [(0, .ref a0), (1, .int (0 : Int32)), (2, .int (0 : Int32))]) C dX1_boxesToCount_3 (by decide) rfl ?_
  refine wl_X1_boxesToCount_4 C (fun p8 => ?_) _ _ _
  refine z_iload_n C dX1_boxesToCount_37 0 rfl ?_
  exact z_ireturnP C dX1_boxesToCount_38
noncomputable def b_X1_foundInAll_4 (k30 : Int32 → Option Int32) (a0 : Nat) (x1 : Int32) (hp : zHp) (rec : Int32 → Int32 → Option Int32) (x2 : Int32) (x3 : Int32) : Option Int32 :=
  (zgR hp a0 1 0).bind fun r1 => (f_X5_piles r1 hp).bind fun v2 => if x3 < v2 then ((f_X1_foundInWard a0 x1 x3 hp).bind fun v3 => zlet (x2 + v3) fun v4 => zlet (x3 + (1 : Int32)) fun v5 => rec v4 v5) else k30 x2
noncomputable def l_X1_foundInAll_4 (k30 : Int32 → Option Int32) (a0 : Nat) (x1 : Int32) (hp : zHp) (n : Nat) : Int32 → Int32 → Option Int32 :=
  Nat.rec (motive := fun _ => Int32 → Int32 → Option Int32) (fun _ _ => none) (fun _ rec => b_X1_foundInAll_4 k30 a0 x1 hp rec) n
theorem l_X1_foundInAll_4_s (k30 : Int32 → Option Int32) (a0 : Nat) (x1 : Int32) (hp : zHp) (n : Nat) (x2 : Int32) (x3 : Int32) : l_X1_foundInAll_4 k30 a0 x1 hp (n + 1) x2 x3 = b_X1_foundInAll_4 k30 a0 x1 hp (l_X1_foundInAll_4 k30 a0 x1 hp n) x2 x3 := rfl
set_option maxHeartbeats 4000000 in
set_option maxRecDepth 100000 in
theorem wl_X1_foundInAll_4 {P : zX} {ro : Nat → Nat} {sz : Nat} (C : zC P cX1_foundInAll RX1 (some .int) 4 0 0 4 ro) {a0 : Nat} {x1 : Int32} {hp : zHp} {k30 : Int32 → Option Int32} (hk30 : ∀ (x2 : Int32), zG P (zoP sz hp) (k30 x2) 30 [(2, .int x2)] [] hp sz 0 0) : ∀ (n : Nat) (x2 : Int32) (x3 : Int32), zG P (zoP sz hp) (l_X1_foundInAll_4 k30 a0 x1 hp n x2 x3) 4 [(0, .ref a0), (1, .int x1), (2, .int x2), (3, .int x3)] [] hp sz 0 0 := by
  intro n
  induction n with
  | zero =>
    intro x2 x3
    show zG P (zoP sz hp) none _ _ _ _ _ _ _
    exact z_none
  | succ n ih =>
    intro x2 x3
    show zG P (zoP sz hp) (b_X1_foundInAll_4 k30 a0 x1 hp (l_X1_foundInAll_4 k30 a0 x1 hp n) x2 x3) _ _ _ _ _ _ _
    unfold b_X1_foundInAll_4
    refine z_iload_n C dX1_foundInAll_4 3 rfl ?_
    refine z_aload_n C dX1_foundInAll_5 0 rfl ?_
    refine z_getR C zf_X1_12 dX1_foundInAll_6 (fun r1 => ?_)
    refine z_callVp C zc_X1_49 [] (fun l D tc b0 r h => m_X5_piles l D tc ro b0 h) dX1_foundInAll_9 rfl rfl (Nat.le_of_ble_eq_true rfl) (by decide) (by decide) ⟨Nat.le_of_ble_eq_true rfl, Nat.le_of_ble_eq_true rfl⟩ (fun v2 => ?_)
    refine z_icmp_ge C 30 dX1_foundInAll_12 (by decide) ?_ ?_
    · refine z_iload_n C dX1_foundInAll_15 2 rfl ?_
      refine z_aload_n C dX1_foundInAll_16 0 rfl ?_
      refine z_iload_n C dX1_foundInAll_17 1 rfl ?_
      refine z_iload_n C dX1_foundInAll_18 3 rfl ?_
      refine z_callVp C zc_X1_141 [.int x1, .int x3] (fun l D tc b0 r h => m_X1_foundInWard l D tc ro b0 h) dX1_foundInAll_19 rfl rfl (Nat.le_of_ble_eq_true rfl) (by decide) (by decide) ⟨Nat.le_of_ble_eq_true rfl, Nat.le_of_ble_eq_true rfl⟩ (fun v3 => ?_)
      refine z_iadd C dX1_foundInAll_22 ?_
      refine z_istore_nL C (fun v4 => [(0, .ref a0), (1, .int x1), (2, .int v4), (3, .int x3)]) dX1_foundInAll_23 (by decide) (fun _ => rfl) (fun v4 => ?_)
      refine z_iincL C 3 (fun v5 => [(0, .ref a0), (1, .int x1), (2, .int v4), (3, .int v5)]) dX1_foundInAll_24 rfl zi_1 (by decide) (fun _ => rfl) (fun v5 => ?_)
      refine z_goto C 4 dX1_foundInAll_27 (by decide) ?_
      exact ih _ _
    exact z_sub [2] rfl (hk30 _)
noncomputable def f_X1_foundInAll (a0 : Nat) (x1 : Int32) (hp : zHp) : Option Int32 :=
  (zis hp a0 1).bind fun _ => l_X1_foundInAll_4 (fun p6 => some p6) a0 x1 hp 1000000 (0 : Int32) (0 : Int32)
set_option maxHeartbeats 4000000 in
set_option maxRecDepth 100000 in
theorem m_X1_foundInAll (l : Launch) (D : va_G) (tc : Nat → ClassId) (ro : Nat → Nat) (b0 : Nat) {a0 : Nat} {x1 : Int32} {hp : zHp} {sz : Nat} {r : Int32} (h : f_X1_foundInAll a0 x1 hp = some r) : zis hp a0 1 = some () ∧ zM l yX1_foundInAll cX1_foundInAll 4 (some .int) 4 0 0 [.ref a0, .int x1] D tc ro b0 hp sz ((zoP sz hp) r).1 ((zoP sz hp) r).2.1 ((zoP sz hp) r).2.2 := by
  refine ⟨?_, z_start (o := (zoP sz hp)) (lv := [(0, .ref a0), (1, .int x1)]) h (by decide +kernel) RX1 rfl rfl (Nat.le_of_ble_eq_true rfl) (fun P C => ?_)⟩
  · unfold f_X1_foundInAll at h
    cases hc : zis hp a0 1 with
    | none => rw [hc] at h; cases h
    | some u => rfl
  unfold f_X1_foundInAll
  refine z_is ?_
  refine z_iconst C dX1_foundInAll_0 zi_0 ?_
  refine z_istore_n (lv' := [(0, .ref a0), (1, .int x1), (2, .int (0 : Int32))]) C dX1_foundInAll_1 (by decide) rfl ?_
  refine z_iconst C dX1_foundInAll_2 zi_0 ?_
  refine z_istore_n (lv' := [(0, .ref a0), (1, .int x1), (2, .int (0 : Int32)), (3, .int (0 : Int32))]) C dX1_foundInAll_3 (by decide) rfl ?_
  refine wl_X1_foundInAll_4 C (fun p6 => ?_) _ _ _
  refine z_iload_n C dX1_foundInAll_30 0 rfl ?_
  exact z_ireturnP C dX1_foundInAll_31
noncomputable def j_X1_nextReady_37 (k56 : Int32 → Option Int32) (rec : Int32 → Int32 → Int32 → Option Int32) (a0 : Nat) (x1 : Int32) (x2 : Int32) (x3 : Int32) (x4 : Int32) (hp : zHp) : Option Int32 :=
  (f_X1_reasonAgainst a0 x3 hp).bind fun v5 => if v5 = 0 then (zlet (x3 + (1 : Int32)) fun v7 => rec x3 x4 v7) else zlet (x3 + (1 : Int32)) fun v6 => rec x1 x2 v6
set_option maxHeartbeats 4000000 in
set_option maxRecDepth 100000 in
theorem wj_X1_nextReady_37 {P : zX} {ro : Nat → Nat} {sz : Nat} (C : zC P cX1_nextReady RX1 (some .int) 7 0 0 5 ro) {a0 : Nat} {x1 : Int32} {x2 : Int32} {x3 : Int32} {x4 : Int32} {hp : zHp} {k56 : Int32 → Option Int32} (hk56 : ∀ (x1 : Int32), zG P (zoP sz hp) (k56 x1) 56 [(1, .int x1)] [] hp sz 0 0) {rec : Int32 → Int32 → Int32 → Option Int32} (hrec : ∀ (x1 : Int32) (x2 : Int32) (x3 : Int32), zG P (zoP sz hp) (rec x1 x2 x3) 6 [(0, .ref a0), (1, .int x1), (2, .int x2), (3, .int x3)] [] hp sz 0 0) : zG P (zoP sz hp) (j_X1_nextReady_37 k56 rec a0 x1 x2 x3 x4 hp) 37 [(0, .ref a0), (1, .int x1), (2, .int x2), (3, .int x3), (4, .int x4)] [] hp sz 0 0 := by
  unfold j_X1_nextReady_37
  refine z_aload_n C dX1_nextReady_37 0 rfl ?_
  refine z_iload_n C dX1_nextReady_38 3 rfl ?_
  refine z_callVp C zc_X1_174 [.int x3] (fun l D tc b0 r h => m_X1_reasonAgainst l D tc ro b0 h) dX1_nextReady_39 rfl rfl (Nat.le_of_ble_eq_true rfl) (by decide) (by decide) ⟨Nat.le_of_ble_eq_true rfl, Nat.le_of_ble_eq_true rfl⟩ (fun v5 => ?_)
  refine z_if_ne C 50 dX1_nextReady_42 (by decide) ?_ ?_
  · refine z_iload_n C dX1_nextReady_45 3 rfl ?_
    refine z_istore_n (lv' := [(0, .ref a0), (1, .int x3), (2, .int x2), (3, .int x3), (4, .int x4)]) C dX1_nextReady_46 (by decide) rfl ?_
    refine z_iload C dX1_nextReady_47 4 rfl ?_
    refine z_istore_n (lv' := [(0, .ref a0), (1, .int x3), (2, .int x4), (3, .int x3), (4, .int x4)]) C dX1_nextReady_49 (by decide) rfl ?_
    refine z_iincL C 3 (fun v7 => [(0, .ref a0), (1, .int x3), (2, .int x4), (3, .int v7), (4, .int x4)]) dX1_nextReady_50 rfl zi_1 (by decide) (fun _ => rfl) (fun v7 => ?_)
    refine z_goto C 6 dX1_nextReady_53 (by decide) ?_
    exact z_sub [0, 1, 2, 3] rfl (hrec _ _ _)
  refine z_iincL C 3 (fun v6 => [(0, .ref a0), (1, .int x1), (2, .int x2), (3, .int v6), (4, .int x4)]) dX1_nextReady_50 rfl zi_1 (by decide) (fun _ => rfl) (fun v6 => ?_)
  refine z_goto C 6 dX1_nextReady_53 (by decide) ?_
  exact z_sub [0, 1, 2, 3] rfl (hrec _ _ _)
noncomputable def b_X1_nextReady_6 (k56 : Int32 → Option Int32) (a0 : Nat) (hp : zHp) (rec : Int32 → Int32 → Int32 → Option Int32) (x1 : Int32) (x2 : Int32) (x3 : Int32) : Option Int32 :=
  (zgR hp a0 1 0).bind fun r1 => (zgR hp r1 5 0).bind fun r2 => (zaI hp 0 r2 (2 : Int32)).bind fun v3 => if x3 < v3 then ((f_X1_foundInAll a0 x3 hp).bind fun v4 => if x1 = (-1 : Int32) then (j_X1_nextReady_37 k56 rec a0 x1 x2 x3 v4 hp) else if v4 < x2 then (j_X1_nextReady_37 k56 rec a0 x1 x2 x3 v4 hp) else zlet (x3 + (1 : Int32)) fun v8 => rec x1 x2 v8) else k56 x1
noncomputable def l_X1_nextReady_6 (k56 : Int32 → Option Int32) (a0 : Nat) (hp : zHp) (n : Nat) : Int32 → Int32 → Int32 → Option Int32 :=
  Nat.rec (motive := fun _ => Int32 → Int32 → Int32 → Option Int32) (fun _ _ _ => none) (fun _ rec => b_X1_nextReady_6 k56 a0 hp rec) n
theorem l_X1_nextReady_6_s (k56 : Int32 → Option Int32) (a0 : Nat) (hp : zHp) (n : Nat) (x1 : Int32) (x2 : Int32) (x3 : Int32) : l_X1_nextReady_6 k56 a0 hp (n + 1) x1 x2 x3 = b_X1_nextReady_6 k56 a0 hp (l_X1_nextReady_6 k56 a0 hp n) x1 x2 x3 := rfl
set_option maxHeartbeats 4000000 in
set_option maxRecDepth 100000 in
theorem wl_X1_nextReady_6 {P : zX} {ro : Nat → Nat} {sz : Nat} (C : zC P cX1_nextReady RX1 (some .int) 7 0 0 5 ro) {a0 : Nat} {hp : zHp} {k56 : Int32 → Option Int32} (hk56 : ∀ (x1 : Int32), zG P (zoP sz hp) (k56 x1) 56 [(1, .int x1)] [] hp sz 0 0) : ∀ (n : Nat) (x1 : Int32) (x2 : Int32) (x3 : Int32), zG P (zoP sz hp) (l_X1_nextReady_6 k56 a0 hp n x1 x2 x3) 6 [(0, .ref a0), (1, .int x1), (2, .int x2), (3, .int x3)] [] hp sz 0 0 := by
  intro n
  induction n with
  | zero =>
    intro x1 x2 x3
    show zG P (zoP sz hp) none _ _ _ _ _ _ _
    exact z_none
  | succ n ih =>
    intro x1 x2 x3
    show zG P (zoP sz hp) (b_X1_nextReady_6 k56 a0 hp (l_X1_nextReady_6 k56 a0 hp n) x1 x2 x3) _ _ _ _ _ _ _
    unfold b_X1_nextReady_6
    refine z_iload_n C dX1_nextReady_6 3 rfl ?_
    refine z_aload_n C dX1_nextReady_7 0 rfl ?_
    refine z_getR C zf_X1_12 dX1_nextReady_8 (fun r1 => ?_)
    refine z_getR C zf_X1_29 dX1_nextReady_11 (fun r2 => ?_)
    refine z_iconst C dX1_nextReady_14 zi_2 ?_
    refine z_iaload C dX1_nextReady_15 (fun v3 => ?_)
    refine z_icmp_ge C 56 dX1_nextReady_16 (by decide) ?_ ?_
    · refine z_aload_n C dX1_nextReady_19 0 rfl ?_
      refine z_iload_n C dX1_nextReady_20 3 rfl ?_
      refine z_callVp C zc_X1_171 [.int x3] (fun l D tc b0 r h => m_X1_foundInAll l D tc ro b0 h) dX1_nextReady_21 rfl rfl (Nat.le_of_ble_eq_true rfl) (by decide) (by decide) ⟨Nat.le_of_ble_eq_true rfl, Nat.le_of_ble_eq_true rfl⟩ (fun v4 => ?_)
      refine z_istore (lv' := [(0, .ref a0), (1, .int x1), (2, .int x2), (3, .int x3), (4, .int v4)]) C dX1_nextReady_24 (by decide) rfl ?_
      refine z_iload_n C dX1_nextReady_26 1 rfl ?_
      refine z_iconst C dX1_nextReady_27 zi_m1 ?_
      refine z_icmp_eq C 37 dX1_nextReady_28 (by decide) ?_ ?_
      · exact wj_X1_nextReady_37 C hk56 ih
      refine z_iload C dX1_nextReady_31 4 rfl ?_
      refine z_iload_n C dX1_nextReady_33 2 rfl ?_
      refine z_icmp_ge C 50 dX1_nextReady_34 (by decide) ?_ ?_
      · exact wj_X1_nextReady_37 C hk56 ih
      refine z_iincL C 3 (fun v8 => [(0, .ref a0), (1, .int x1), (2, .int x2), (3, .int v8), (4, .int v4)]) dX1_nextReady_50 rfl zi_1 (by decide) (fun _ => rfl) (fun v8 => ?_)
      refine z_goto C 6 dX1_nextReady_53 (by decide) ?_
      exact z_sub [0, 1, 2, 3] rfl (ih _ _ _)
    exact z_sub [1] rfl (hk56 _)
noncomputable def f_X1_nextReady (a0 : Nat) (hp : zHp) : Option Int32 :=
  (zis hp a0 1).bind fun _ => l_X1_nextReady_6 (fun p9 => some p9) a0 hp 1000000 (-1 : Int32) (0 : Int32) (0 : Int32)
set_option maxHeartbeats 4000000 in
set_option maxRecDepth 100000 in
theorem m_X1_nextReady (l : Launch) (D : va_G) (tc : Nat → ClassId) (ro : Nat → Nat) (b0 : Nat) {a0 : Nat} {hp : zHp} {sz : Nat} {r : Int32} (h : f_X1_nextReady a0 hp = some r) : zis hp a0 1 = some () ∧ zM l yX1_nextReady cX1_nextReady 5 (some .int) 7 0 0 [.ref a0] D tc ro b0 hp sz ((zoP sz hp) r).1 ((zoP sz hp) r).2.1 ((zoP sz hp) r).2.2 := by
  refine ⟨?_, z_start (o := (zoP sz hp)) (lv := [(0, .ref a0)]) h (by decide +kernel) RX1 rfl rfl (Nat.le_of_ble_eq_true rfl) (fun P C => ?_)⟩
  · unfold f_X1_nextReady at h
    cases hc : zis hp a0 1 with
    | none => rw [hc] at h; cases h
    | some u => rfl
  unfold f_X1_nextReady
  refine z_is ?_
  refine z_iconst C dX1_nextReady_0 zi_m1 ?_
  refine z_istore_n (lv' := [(0, .ref a0), (1, .int (-1 : Int32))]) C dX1_nextReady_1 (by decide) rfl ?_
  refine z_iconst C dX1_nextReady_2 zi_0 ?_
  refine z_istore_n (lv' := [(0, .ref a0), (1, .int (-1 : Int32)), (2, .int (0 : Int32))]) C dX1_nextReady_3 (by decide) rfl ?_
  refine z_iconst C dX1_nextReady_4 zi_0 ?_
  refine z_istore_n (lv' := [(0, .ref a0), (1, .int (-1 : Int32)), (2, .int (0 : Int32)), (3, .int (0 : Int32))]) C dX1_nextReady_5 (by decide) rfl ?_
  refine wl_X1_nextReady_6 C (fun p9 => ?_) _ _ _ _
  refine z_iload_n C dX1_nextReady_56 0 rfl ?_
  exact z_ireturnP C dX1_nextReady_57
noncomputable def f_X5_has (a0 : Nat) (x1 : Int32) (x2 : Int32) (hp : zHp) : Option Int32 :=
  (zis hp a0 5).bind fun _ => if x2 < 0 then (some (0 : Int32)) else (zgR hp a0 5 0).bind fun r1 => (zaI hp 0 r1 x1).bind fun v2 => if x2 < v2 then (some (1 : Int32)) else some (0 : Int32)
set_option maxHeartbeats 4000000 in
set_option maxRecDepth 100000 in
theorem m_X5_has (l : Launch) (D : va_G) (tc : Nat → ClassId) (ro : Nat → Nat) (b0 : Nat) {a0 : Nat} {x1 : Int32} {x2 : Int32} {hp : zHp} {sz : Nat} {r : Int32} (h : f_X5_has a0 x1 x2 hp = some r) : zis hp a0 5 = some () ∧ zM l yX5_has cX5_has 3 (some .boolean) 1 0 0 [.ref a0, .int x1, .int x2] D tc ro b0 hp sz ((zoP sz hp) r).1 ((zoP sz hp) r).2.1 ((zoP sz hp) r).2.2 := by
  refine ⟨?_, z_start (o := (zoP sz hp)) (lv := [(0, .ref a0), (1, .int x1), (2, .int x2)]) h (by decide +kernel) RX5 rfl rfl (Nat.le_of_ble_eq_true rfl) (fun P C => ?_)⟩
  · unfold f_X5_has at h
    cases hc : zis hp a0 5 with
    | none => rw [hc] at h; cases h
    | some u => rfl
  unfold f_X5_has
  refine z_is ?_
  refine z_iload_n C dX5_has_0 2 rfl ?_
  refine z_if_lt C 18 dX5_has_1 (by decide) ?_ ?_
  · refine z_iconst C dX5_has_18 zi_0 ?_
    exact z_kreturnP C rfl dX5_has_19
  refine z_iload_n C dX5_has_4 2 rfl ?_
  refine z_aload_n C dX5_has_5 0 rfl ?_
  refine z_getR C zf_X5_9 dX5_has_6 (fun r1 => ?_)
  refine z_iload_n C dX5_has_9 1 rfl ?_
  refine z_iaload C dX5_has_10 (fun v2 => ?_)
  refine z_icmp_ge C 18 dX5_has_11 (by decide) ?_ ?_
  · refine z_iconst C dX5_has_14 zi_1 ?_
    refine z_goto C 19 dX5_has_15 (by decide) ?_
    exact z_kreturnP C rfl dX5_has_19
  refine z_iconst C dX5_has_18 zi_0 ?_
  exact z_kreturnP C rfl dX5_has_19
noncomputable def b_X5_isWardIn_10 (k30 : Option Int32) (k45 : Option Int32) (a0 : Nat) (x2 : Int32) (hp : zHp) (rec : Int32 → Int32 → Option Int32) (x3 : Int32) (x4 : Int32) : Option Int32 :=
  if x4 < (5 : Int32) then ((f_X5_has a0 (1 : Int32) x3 hp).bind fun v3 => if v3 = 0 then (k45) else if x3 = x2 then (k30) else (zgR hp a0 5 2).bind fun r4 => (zaI hp 0 r4 x3).bind fun v5 => zlet (x4 + (1 : Int32)) fun v6 => rec v5 v6) else k45
noncomputable def l_X5_isWardIn_10 (k30 : Option Int32) (k45 : Option Int32) (a0 : Nat) (x2 : Int32) (hp : zHp) (n : Nat) : Int32 → Int32 → Option Int32 :=
  Nat.rec (motive := fun _ => Int32 → Int32 → Option Int32) (fun _ _ => none) (fun _ rec => b_X5_isWardIn_10 k30 k45 a0 x2 hp rec) n
theorem l_X5_isWardIn_10_s (k30 : Option Int32) (k45 : Option Int32) (a0 : Nat) (x2 : Int32) (hp : zHp) (n : Nat) (x3 : Int32) (x4 : Int32) : l_X5_isWardIn_10 k30 k45 a0 x2 hp (n + 1) x3 x4 = b_X5_isWardIn_10 k30 k45 a0 x2 hp (l_X5_isWardIn_10 k30 k45 a0 x2 hp n) x3 x4 := rfl
set_option maxHeartbeats 4000000 in
set_option maxRecDepth 100000 in
theorem wl_X5_isWardIn_10 {P : zX} {ro : Nat → Nat} {sz : Nat} (C : zC P cX5_isWardIn RX5 (some .boolean) 2 0 0 5 ro) {a0 : Nat} {x2 : Int32} {hp : zHp} {k30 : Option Int32} (hk30 : zG P (zoP sz hp) (k30) 30 [] [] hp sz 0 0) {k45 : Option Int32} (hk45 : zG P (zoP sz hp) (k45) 45 [] [] hp sz 0 0) : ∀ (n : Nat) (x3 : Int32) (x4 : Int32), zG P (zoP sz hp) (l_X5_isWardIn_10 k30 k45 a0 x2 hp n x3 x4) 10 [(0, .ref a0), (2, .int x2), (3, .int x3), (4, .int x4)] [] hp sz 0 0 := by
  intro n
  induction n with
  | zero =>
    intro x3 x4
    show zG P (zoP sz hp) none _ _ _ _ _ _ _
    exact z_none
  | succ n ih =>
    intro x3 x4
    show zG P (zoP sz hp) (b_X5_isWardIn_10 k30 k45 a0 x2 hp (l_X5_isWardIn_10 k30 k45 a0 x2 hp n) x3 x4) _ _ _ _ _ _ _
    unfold b_X5_isWardIn_10
    refine z_iload C dX5_isWardIn_10 3 rfl ?_
    refine z_iconst C dX5_isWardIn_12 zi_5 ?_
    refine z_icmp_ge C 45 dX5_isWardIn_13 (by decide) ?_ ?_
    · refine z_aload_n C dX5_isWardIn_16 0 rfl ?_
      refine z_iconst C dX5_isWardIn_17 zi_1 ?_
      refine z_iload_n C dX5_isWardIn_18 2 rfl ?_
      refine z_callVp C zc_X5_48 [.int (1 : Int32), .int x3] (fun l D tc b0 r h => m_X5_has l D tc ro b0 h) dX5_isWardIn_19 rfl rfl (Nat.le_of_ble_eq_true rfl) (by decide) (by decide) ⟨Nat.le_of_ble_eq_true rfl, Nat.le_of_ble_eq_true rfl⟩ (fun v3 => ?_)
      refine z_if_eq C 45 dX5_isWardIn_22 (by decide) ?_ ?_
      · exact z_sub [] rfl (hk45)
      refine z_iload_n C dX5_isWardIn_25 2 rfl ?_
      refine z_iload_n C dX5_isWardIn_26 1 rfl ?_
      refine z_icmp_ne C 32 dX5_isWardIn_27 (by decide) ?_ ?_
      · exact z_sub [] rfl (hk30)
      refine z_aload_n C dX5_isWardIn_32 0 rfl ?_
      refine z_getR C zf_X5_20 dX5_isWardIn_33 (fun r4 => ?_)
      refine z_iload_n C dX5_isWardIn_36 2 rfl ?_
      refine z_iaload C dX5_isWardIn_37 (fun v5 => ?_)
      refine z_istore_n (lv' := [(0, .ref a0), (2, .int x2), (3, .int v5), (4, .int x4)]) C dX5_isWardIn_38 (by decide) rfl ?_
      refine z_iincL C 3 (fun v6 => [(0, .ref a0), (2, .int x2), (3, .int v5), (4, .int v6)]) dX5_isWardIn_39 rfl zi_1 (by decide) (fun _ => rfl) (fun v6 => ?_)
      refine z_goto C 10 dX5_isWardIn_42 (by decide) ?_
      exact ih _ _
    exact z_sub [] rfl (hk45)
noncomputable def f_X5_isWardIn (a0 : Nat) (x1 : Int32) (x2 : Int32) (hp : zHp) : Option Int32 :=
  (zis hp a0 5).bind fun _ => (zgR hp a0 5 3).bind fun r1 => (zaI hp 0 r1 x1).bind fun v2 => l_X5_isWardIn_10 (some (1 : Int32)) (some (0 : Int32)) a0 x2 hp 1000000 v2 (0 : Int32)
set_option maxHeartbeats 4000000 in
set_option maxRecDepth 100000 in
theorem m_X5_isWardIn (l : Launch) (D : va_G) (tc : Nat → ClassId) (ro : Nat → Nat) (b0 : Nat) {a0 : Nat} {x1 : Int32} {x2 : Int32} {hp : zHp} {sz : Nat} {r : Int32} (h : f_X5_isWardIn a0 x1 x2 hp = some r) : zis hp a0 5 = some () ∧ zM l yX5_isWardIn cX5_isWardIn 5 (some .boolean) 2 0 0 [.ref a0, .int x1, .int x2] D tc ro b0 hp sz ((zoP sz hp) r).1 ((zoP sz hp) r).2.1 ((zoP sz hp) r).2.2 := by
  refine ⟨?_, z_start (o := (zoP sz hp)) (lv := [(0, .ref a0), (1, .int x1), (2, .int x2)]) h (by decide +kernel) RX5 rfl rfl (Nat.le_of_ble_eq_true rfl) (fun P C => ?_)⟩
  · unfold f_X5_isWardIn at h
    cases hc : zis hp a0 5 with
    | none => rw [hc] at h; cases h
    | some u => rfl
  unfold f_X5_isWardIn
  refine z_is ?_
  refine z_aload_n C dX5_isWardIn_0 0 rfl ?_
  refine z_getR C zf_X5_23 dX5_isWardIn_1 (fun r1 => ?_)
  refine z_iload_n C dX5_isWardIn_4 1 rfl ?_
  refine z_iaload C dX5_isWardIn_5 (fun v2 => ?_)
  refine z_istore_n (lv' := [(0, .ref a0), (1, .int x1), (2, .int x2), (3, .int v2)]) C dX5_isWardIn_6 (by decide) rfl ?_
  refine z_iconst C dX5_isWardIn_7 zi_0 ?_
  refine z_istore (lv' := [(0, .ref a0), (1, .int x1), (2, .int x2), (3, .int v2), (4, .int (0 : Int32))]) C dX5_isWardIn_8 (by decide) rfl ?_
  refine z_sub [0, 2, 3, 4] rfl (wl_X5_isWardIn_10 C ?_ ?_ _ _ _)
  · refine z_iconst C dX5_isWardIn_30 zi_1 ?_
    exact z_kreturnP C rfl dX5_isWardIn_31
  refine z_iconst C dX5_isWardIn_45 zi_0 ?_
  exact z_kreturnP C rfl dX5_isWardIn_46
noncomputable def b_X1_wardsWithin_5 (k51 : Int32 → Option Int32) (a0 : Nat) (x1 : Int32) (x2 : Int32) (hp : zHp) (rec : Int32 → Int32 → Option Int32) (x3 : Int32) (x4 : Int32) : Option Int32 :=
  (zgR hp a0 1 0).bind fun r1 => (zgR hp r1 5 0).bind fun r2 => (zaI hp 0 r2 (2 : Int32)).bind fun v3 => if x4 < v3 then ((zgR hp a0 1 0).bind fun r4 => (f_X5_isWardIn r4 x4 x1 hp).bind fun v5 => if v5 = 0 then (zlet (x4 + (1 : Int32)) fun v6 => rec x3 v6) else (f_X1_isWardDeclared a0 x4 hp).bind fun v7 => if v7 = x2 then (zlet (x3 + (1 : Int32)) fun v9 => zlet (x4 + (1 : Int32)) fun v10 => rec v9 v10) else zlet (x4 + (1 : Int32)) fun v8 => rec x3 v8) else k51 x3
noncomputable def l_X1_wardsWithin_5 (k51 : Int32 → Option Int32) (a0 : Nat) (x1 : Int32) (x2 : Int32) (hp : zHp) (n : Nat) : Int32 → Int32 → Option Int32 :=
  Nat.rec (motive := fun _ => Int32 → Int32 → Option Int32) (fun _ _ => none) (fun _ rec => b_X1_wardsWithin_5 k51 a0 x1 x2 hp rec) n
theorem l_X1_wardsWithin_5_s (k51 : Int32 → Option Int32) (a0 : Nat) (x1 : Int32) (x2 : Int32) (hp : zHp) (n : Nat) (x3 : Int32) (x4 : Int32) : l_X1_wardsWithin_5 k51 a0 x1 x2 hp (n + 1) x3 x4 = b_X1_wardsWithin_5 k51 a0 x1 x2 hp (l_X1_wardsWithin_5 k51 a0 x1 x2 hp n) x3 x4 := rfl
set_option maxHeartbeats 4000000 in
set_option maxRecDepth 100000 in
theorem wl_X1_wardsWithin_5 {P : zX} {ro : Nat → Nat} {sz : Nat} (C : zC P cX1_wardsWithin RX1 (some .int) 3 0 0 5 ro) {a0 : Nat} {x1 : Int32} {x2 : Int32} {hp : zHp} {k51 : Int32 → Option Int32} (hk51 : ∀ (x3 : Int32), zG P (zoP sz hp) (k51 x3) 51 [(3, .int x3)] [] hp sz 0 0) : ∀ (n : Nat) (x3 : Int32) (x4 : Int32), zG P (zoP sz hp) (l_X1_wardsWithin_5 k51 a0 x1 x2 hp n x3 x4) 5 [(0, .ref a0), (1, .int x1), (2, .int x2), (3, .int x3), (4, .int x4)] [] hp sz 0 0 := by
  intro n
  induction n with
  | zero =>
    intro x3 x4
    show zG P (zoP sz hp) none _ _ _ _ _ _ _
    exact z_none
  | succ n ih =>
    intro x3 x4
    show zG P (zoP sz hp) (b_X1_wardsWithin_5 k51 a0 x1 x2 hp (l_X1_wardsWithin_5 k51 a0 x1 x2 hp n) x3 x4) _ _ _ _ _ _ _
    unfold b_X1_wardsWithin_5
    refine z_iload C dX1_wardsWithin_5 4 rfl ?_
    refine z_aload_n C dX1_wardsWithin_7 0 rfl ?_
    refine z_getR C zf_X1_12 dX1_wardsWithin_8 (fun r1 => ?_)
    refine z_getR C zf_X1_29 dX1_wardsWithin_11 (fun r2 => ?_)
    refine z_iconst C dX1_wardsWithin_14 zi_2 ?_
    refine z_iaload C dX1_wardsWithin_15 (fun v3 => ?_)
    refine z_icmp_ge C 51 dX1_wardsWithin_16 (by decide) ?_ ?_
    · refine z_aload_n C dX1_wardsWithin_19 0 rfl ?_
      refine z_getR C zf_X1_12 dX1_wardsWithin_20 (fun r4 => ?_)
      refine z_iload C dX1_wardsWithin_23 4 rfl ?_
      refine z_iload_n C dX1_wardsWithin_25 1 rfl ?_
      refine z_callVp C zc_X1_177 [.int x4, .int x1] (fun l D tc b0 r h => m_X5_isWardIn l D tc ro b0 h) dX1_wardsWithin_26 rfl rfl (Nat.le_of_ble_eq_true rfl) (by decide) (by decide) ⟨Nat.le_of_ble_eq_true rfl, Nat.le_of_ble_eq_true rfl⟩ (fun v5 => ?_)
      refine z_if_eq C 45 dX1_wardsWithin_29 (by decide) ?_ ?_
      · refine z_iincL C 4 (fun v6 => [(0, .ref a0), (1, .int x1), (2, .int x2), (3, .int x3), (4, .int v6)]) dX1_wardsWithin_45 rfl zi_1 (by decide) (fun _ => rfl) (fun v6 => ?_)
        refine z_goto C 5 dX1_wardsWithin_48 (by decide) ?_
        exact ih _ _
      refine z_aload_n C dX1_wardsWithin_32 0 rfl ?_
      refine z_iload C dX1_wardsWithin_33 4 rfl ?_
      refine z_callVp C zc_X1_159 [.int x4] (fun l D tc b0 r h => m_X1_isWardDeclared l D tc ro b0 h) dX1_wardsWithin_35 rfl rfl (Nat.le_of_ble_eq_true rfl) (by decide) (by decide) ⟨Nat.le_of_ble_eq_true rfl, Nat.le_of_ble_eq_true rfl⟩ (fun v7 => ?_)
      refine z_iload_n C dX1_wardsWithin_38 2 rfl ?_
      refine z_icmp_ne C 45 dX1_wardsWithin_39 (by decide) ?_ ?_
      · refine z_iincL C 3 (fun v9 => [(0, .ref a0), (1, .int x1), (2, .int x2), (3, .int v9), (4, .int x4)]) dX1_wardsWithin_42 rfl zi_1 (by decide) (fun _ => rfl) (fun v9 => ?_)
        refine z_iincL C 4 (fun v10 => [(0, .ref a0), (1, .int x1), (2, .int x2), (3, .int v9), (4, .int v10)]) dX1_wardsWithin_45 rfl zi_1 (by decide) (fun _ => rfl) (fun v10 => ?_)
        refine z_goto C 5 dX1_wardsWithin_48 (by decide) ?_
        exact ih _ _
      refine z_iincL C 4 (fun v8 => [(0, .ref a0), (1, .int x1), (2, .int x2), (3, .int x3), (4, .int v8)]) dX1_wardsWithin_45 rfl zi_1 (by decide) (fun _ => rfl) (fun v8 => ?_)
      refine z_goto C 5 dX1_wardsWithin_48 (by decide) ?_
      exact ih _ _
    exact z_sub [3] rfl (hk51 _)
noncomputable def f_X1_wardsWithin (a0 : Nat) (x1 : Int32) (x2 : Int32) (hp : zHp) : Option Int32 :=
  (zis hp a0 1).bind fun _ => l_X1_wardsWithin_5 (fun p11 => some p11) a0 x1 x2 hp 1000000 (0 : Int32) (0 : Int32)
set_option maxHeartbeats 4000000 in
set_option maxRecDepth 100000 in
theorem m_X1_wardsWithin (l : Launch) (D : va_G) (tc : Nat → ClassId) (ro : Nat → Nat) (b0 : Nat) {a0 : Nat} {x1 : Int32} {x2 : Int32} {hp : zHp} {sz : Nat} {r : Int32} (h : f_X1_wardsWithin a0 x1 x2 hp = some r) : zis hp a0 1 = some () ∧ zM l yX1_wardsWithin cX1_wardsWithin 5 (some .int) 3 0 0 [.ref a0, .int x1, .int x2] D tc ro b0 hp sz ((zoP sz hp) r).1 ((zoP sz hp) r).2.1 ((zoP sz hp) r).2.2 := by
  refine ⟨?_, z_start (o := (zoP sz hp)) (lv := [(0, .ref a0), (1, .int x1), (2, .int x2)]) h (by decide +kernel) RX1 rfl rfl (Nat.le_of_ble_eq_true rfl) (fun P C => ?_)⟩
  · unfold f_X1_wardsWithin at h
    cases hc : zis hp a0 1 with
    | none => rw [hc] at h; cases h
    | some u => rfl
  unfold f_X1_wardsWithin
  refine z_is ?_
  refine z_iconst C dX1_wardsWithin_0 zi_0 ?_
  refine z_istore_n (lv' := [(0, .ref a0), (1, .int x1), (2, .int x2), (3, .int (0 : Int32))]) C dX1_wardsWithin_1 (by decide) rfl ?_
  refine z_iconst C dX1_wardsWithin_2 zi_0 ?_
  refine z_istore (lv' := [(0, .ref a0), (1, .int x1), (2, .int x2), (3, .int (0 : Int32)), (4, .int (0 : Int32))]) C dX1_wardsWithin_3 (by decide) rfl ?_
  refine wl_X1_wardsWithin_5 C (fun p11 => ?_) _ _ _
  refine z_iload_n C dX1_wardsWithin_51 0 rfl ?_
  exact z_ireturnP C dX1_wardsWithin_52
noncomputable def b_X1_votesWithin_5 (k62 : Int32 → Option Int32) (a0 : Nat) (x1 : Int32) (x2 : Int32) (hp : zHp) (rec : Int32 → Int32 → Option Int32) (x3 : Int32) (x4 : Int32) : Option Int32 :=
  (zgR hp a0 1 1).bind fun r1 => (zgI hp r1 6 3).bind fun v2 => if x4 < v2 then ((zgR hp a0 1 0).bind fun r3 => (zgR hp a0 1 1).bind fun r4 => (zgR hp r4 6 2).bind fun r5 => (zaI hp 0 r5 x4).bind fun v6 => (f_X5_isWardIn r3 v6 x1 hp).bind fun v7 => if v7 = 0 then (zlet (x4 + (1 : Int32)) fun v8 => rec x3 v8) else (zgR hp a0 1 1).bind fun r9 => (zgR hp r9 6 2).bind fun r10 => (zaI hp 0 r10 x4).bind fun v11 => (f_X1_foundInWard a0 v11 x2 hp).bind fun v12 => zlet (x3 + v12) fun v13 => zlet (x4 + (1 : Int32)) fun v14 => rec v13 v14) else k62 x3
noncomputable def l_X1_votesWithin_5 (k62 : Int32 → Option Int32) (a0 : Nat) (x1 : Int32) (x2 : Int32) (hp : zHp) (n : Nat) : Int32 → Int32 → Option Int32 :=
  Nat.rec (motive := fun _ => Int32 → Int32 → Option Int32) (fun _ _ => none) (fun _ rec => b_X1_votesWithin_5 k62 a0 x1 x2 hp rec) n
theorem l_X1_votesWithin_5_s (k62 : Int32 → Option Int32) (a0 : Nat) (x1 : Int32) (x2 : Int32) (hp : zHp) (n : Nat) (x3 : Int32) (x4 : Int32) : l_X1_votesWithin_5 k62 a0 x1 x2 hp (n + 1) x3 x4 = b_X1_votesWithin_5 k62 a0 x1 x2 hp (l_X1_votesWithin_5 k62 a0 x1 x2 hp n) x3 x4 := rfl
set_option maxHeartbeats 4000000 in
set_option maxRecDepth 100000 in
theorem wl_X1_votesWithin_5 {P : zX} {ro : Nat → Nat} {sz : Nat} (C : zC P cX1_votesWithin RX1 (some .int) 4 0 0 5 ro) {a0 : Nat} {x1 : Int32} {x2 : Int32} {hp : zHp} {k62 : Int32 → Option Int32} (hk62 : ∀ (x3 : Int32), zG P (zoP sz hp) (k62 x3) 62 [(3, .int x3)] [] hp sz 0 0) : ∀ (n : Nat) (x3 : Int32) (x4 : Int32), zG P (zoP sz hp) (l_X1_votesWithin_5 k62 a0 x1 x2 hp n x3 x4) 5 [(0, .ref a0), (1, .int x1), (2, .int x2), (3, .int x3), (4, .int x4)] [] hp sz 0 0 := by
  intro n
  induction n with
  | zero =>
    intro x3 x4
    show zG P (zoP sz hp) none _ _ _ _ _ _ _
    exact z_none
  | succ n ih =>
    intro x3 x4
    show zG P (zoP sz hp) (b_X1_votesWithin_5 k62 a0 x1 x2 hp (l_X1_votesWithin_5 k62 a0 x1 x2 hp n) x3 x4) _ _ _ _ _ _ _
    unfold b_X1_votesWithin_5
    refine z_iload C dX1_votesWithin_5 4 rfl ?_
    refine z_aload_n C dX1_votesWithin_7 0 rfl ?_
    refine z_getR C zf_X1_21 dX1_votesWithin_8 (fun r1 => ?_)
    refine z_getI C zf_X1_153 dX1_votesWithin_11 (fun v2 => ?_)
    refine z_icmp_ge C 62 dX1_votesWithin_14 (by decide) ?_ ?_
    · refine z_aload_n C dX1_votesWithin_17 0 rfl ?_
      refine z_getR C zf_X1_12 dX1_votesWithin_18 (fun r3 => ?_)
      refine z_aload_n C dX1_votesWithin_21 0 rfl ?_
      refine z_getR C zf_X1_21 dX1_votesWithin_22 (fun r4 => ?_)
      refine z_getR C zf_X1_156 dX1_votesWithin_25 (fun r5 => ?_)
      refine z_iload C dX1_votesWithin_28 4 rfl ?_
      refine z_iaload C dX1_votesWithin_30 (fun v6 => ?_)
      refine z_iload_n C dX1_votesWithin_31 1 rfl ?_
      refine z_callVp C zc_X1_177 [.int v6, .int x1] (fun l D tc b0 r h => m_X5_isWardIn l D tc ro b0 h) dX1_votesWithin_32 rfl rfl (Nat.le_of_ble_eq_true rfl) (by decide) (by decide) ⟨Nat.le_of_ble_eq_true rfl, Nat.le_of_ble_eq_true rfl⟩ (fun v7 => ?_)
      refine z_if_eq C 56 dX1_votesWithin_35 (by decide) ?_ ?_
      · refine z_iincL C 4 (fun v8 => [(0, .ref a0), (1, .int x1), (2, .int x2), (3, .int x3), (4, .int v8)]) dX1_votesWithin_56 rfl zi_1 (by decide) (fun _ => rfl) (fun v8 => ?_)
        refine z_goto C 5 dX1_votesWithin_59 (by decide) ?_
        exact ih _ _
      refine z_iload_n C dX1_votesWithin_38 3 rfl ?_
      refine z_aload_n C dX1_votesWithin_39 0 rfl ?_
      refine z_aload_n C dX1_votesWithin_40 0 rfl ?_
      refine z_getR C zf_X1_21 dX1_votesWithin_41 (fun r9 => ?_)
      refine z_getR C zf_X1_156 dX1_votesWithin_44 (fun r10 => ?_)
      refine z_iload C dX1_votesWithin_47 4 rfl ?_
      refine z_iaload C dX1_votesWithin_49 (fun v11 => ?_)
      refine z_iload_n C dX1_votesWithin_50 2 rfl ?_
      refine z_callVp C zc_X1_141 [.int v11, .int x2] (fun l D tc b0 r h => m_X1_foundInWard l D tc ro b0 h) dX1_votesWithin_51 rfl rfl (Nat.le_of_ble_eq_true rfl) (by decide) (by decide) ⟨Nat.le_of_ble_eq_true rfl, Nat.le_of_ble_eq_true rfl⟩ (fun v12 => ?_)
      refine z_iadd C dX1_votesWithin_54 ?_
      refine z_istore_nL C (fun v13 => [(0, .ref a0), (1, .int x1), (2, .int x2), (3, .int v13), (4, .int x4)]) dX1_votesWithin_55 (by decide) (fun _ => rfl) (fun v13 => ?_)
      refine z_iincL C 4 (fun v14 => [(0, .ref a0), (1, .int x1), (2, .int x2), (3, .int v13), (4, .int v14)]) dX1_votesWithin_56 rfl zi_1 (by decide) (fun _ => rfl) (fun v14 => ?_)
      refine z_goto C 5 dX1_votesWithin_59 (by decide) ?_
      exact ih _ _
    exact z_sub [3] rfl (hk62 _)
noncomputable def f_X1_votesWithin (a0 : Nat) (x1 : Int32) (x2 : Int32) (hp : zHp) : Option Int32 :=
  (zis hp a0 1).bind fun _ => l_X1_votesWithin_5 (fun p15 => some p15) a0 x1 x2 hp 1000000 (0 : Int32) (0 : Int32)
set_option maxHeartbeats 4000000 in
set_option maxRecDepth 100000 in
theorem m_X1_votesWithin (l : Launch) (D : va_G) (tc : Nat → ClassId) (ro : Nat → Nat) (b0 : Nat) {a0 : Nat} {x1 : Int32} {x2 : Int32} {hp : zHp} {sz : Nat} {r : Int32} (h : f_X1_votesWithin a0 x1 x2 hp = some r) : zis hp a0 1 = some () ∧ zM l yX1_votesWithin cX1_votesWithin 5 (some .int) 4 0 0 [.ref a0, .int x1, .int x2] D tc ro b0 hp sz ((zoP sz hp) r).1 ((zoP sz hp) r).2.1 ((zoP sz hp) r).2.2 := by
  refine ⟨?_, z_start (o := (zoP sz hp)) (lv := [(0, .ref a0), (1, .int x1), (2, .int x2)]) h (by decide +kernel) RX1 rfl rfl (Nat.le_of_ble_eq_true rfl) (fun P C => ?_)⟩
  · unfold f_X1_votesWithin at h
    cases hc : zis hp a0 1 with
    | none => rw [hc] at h; cases h
    | some u => rfl
  unfold f_X1_votesWithin
  refine z_is ?_
  refine z_iconst C dX1_votesWithin_0 zi_0 ?_
  refine z_istore_n (lv' := [(0, .ref a0), (1, .int x1), (2, .int x2), (3, .int (0 : Int32))]) C dX1_votesWithin_1 (by decide) rfl ?_
  refine z_iconst C dX1_votesWithin_2 zi_0 ?_
  refine z_istore (lv' := [(0, .ref a0), (1, .int x1), (2, .int x2), (3, .int (0 : Int32)), (4, .int (0 : Int32))]) C dX1_votesWithin_3 (by decide) rfl ?_
  refine wl_X1_votesWithin_5 C (fun p15 => ?_) _ _ _
  refine z_iload_n C dX1_votesWithin_62 0 rfl ?_
  exact z_ireturnP C dX1_votesWithin_63
noncomputable def b_X1_seatsWithin_5 (k61 : Int32 → Option Int32) (a0 : Nat) (x1 : Int32) (x2 : Int32) (hp : zHp) (rec : Int32 → Int32 → Option Int32) (x3 : Int32) (x4 : Int32) : Option Int32 :=
  (zgR hp a0 1 1).bind fun r1 => (zgI hp r1 6 3).bind fun v2 => if x4 < v2 then ((zgR hp a0 1 1).bind fun r3 => (zgR hp r3 6 2).bind fun r4 => (zaI hp 0 r4 x4).bind fun v5 => (zgR hp a0 1 0).bind fun r6 => (f_X5_isWardIn r6 v5 x1 hp).bind fun v7 => if v7 = 0 then (zlet (x4 + (1 : Int32)) fun v8 => rec x3 v8) else (f_X1_partyAhead a0 v5 hp).bind fun v9 => if v9 = x2 then (zlet (x3 + (1 : Int32)) fun v11 => zlet (x4 + (1 : Int32)) fun v12 => rec v11 v12) else zlet (x4 + (1 : Int32)) fun v10 => rec x3 v10) else k61 x3
noncomputable def l_X1_seatsWithin_5 (k61 : Int32 → Option Int32) (a0 : Nat) (x1 : Int32) (x2 : Int32) (hp : zHp) (n : Nat) : Int32 → Int32 → Option Int32 :=
  Nat.rec (motive := fun _ => Int32 → Int32 → Option Int32) (fun _ _ => none) (fun _ rec => b_X1_seatsWithin_5 k61 a0 x1 x2 hp rec) n
theorem l_X1_seatsWithin_5_s (k61 : Int32 → Option Int32) (a0 : Nat) (x1 : Int32) (x2 : Int32) (hp : zHp) (n : Nat) (x3 : Int32) (x4 : Int32) : l_X1_seatsWithin_5 k61 a0 x1 x2 hp (n + 1) x3 x4 = b_X1_seatsWithin_5 k61 a0 x1 x2 hp (l_X1_seatsWithin_5 k61 a0 x1 x2 hp n) x3 x4 := rfl
set_option maxHeartbeats 4000000 in
set_option maxRecDepth 100000 in
theorem wl_X1_seatsWithin_5 {P : zX} {ro : Nat → Nat} {sz : Nat} (C : zC P cX1_seatsWithin RX1 (some .int) 5 0 0 6 ro) {a0 : Nat} {x1 : Int32} {x2 : Int32} {hp : zHp} {k61 : Int32 → Option Int32} (hk61 : ∀ (x3 : Int32), zG P (zoP sz hp) (k61 x3) 61 [(3, .int x3)] [] hp sz 0 0) : ∀ (n : Nat) (x3 : Int32) (x4 : Int32), zG P (zoP sz hp) (l_X1_seatsWithin_5 k61 a0 x1 x2 hp n x3 x4) 5 [(0, .ref a0), (1, .int x1), (2, .int x2), (3, .int x3), (4, .int x4)] [] hp sz 0 0 := by
  intro n
  induction n with
  | zero =>
    intro x3 x4
    show zG P (zoP sz hp) none _ _ _ _ _ _ _
    exact z_none
  | succ n ih =>
    intro x3 x4
    show zG P (zoP sz hp) (b_X1_seatsWithin_5 k61 a0 x1 x2 hp (l_X1_seatsWithin_5 k61 a0 x1 x2 hp n) x3 x4) _ _ _ _ _ _ _
    unfold b_X1_seatsWithin_5
    refine z_iload C dX1_seatsWithin_5 4 rfl ?_
    refine z_aload_n C dX1_seatsWithin_7 0 rfl ?_
    refine z_getR C zf_X1_21 dX1_seatsWithin_8 (fun r1 => ?_)
    refine z_getI C zf_X1_153 dX1_seatsWithin_11 (fun v2 => ?_)
    refine z_icmp_ge C 61 dX1_seatsWithin_14 (by decide) ?_ ?_
    · refine z_aload_n C dX1_seatsWithin_17 0 rfl ?_
      refine z_getR C zf_X1_21 dX1_seatsWithin_18 (fun r3 => ?_)
      refine z_getR C zf_X1_156 dX1_seatsWithin_21 (fun r4 => ?_)
      refine z_iload C dX1_seatsWithin_24 4 rfl ?_
      refine z_iaload C dX1_seatsWithin_26 (fun v5 => ?_)
      refine z_istore (lv' := [(0, .ref a0), (1, .int x1), (2, .int x2), (3, .int x3), (4, .int x4), (5, .int v5)]) C dX1_seatsWithin_27 (by decide) rfl ?_
      refine z_aload_n C dX1_seatsWithin_29 0 rfl ?_
      refine z_getR C zf_X1_12 dX1_seatsWithin_30 (fun r6 => ?_)
      refine z_iload C dX1_seatsWithin_33 5 rfl ?_
      refine z_iload_n C dX1_seatsWithin_35 1 rfl ?_
      refine z_callVp C zc_X1_177 [.int v5, .int x1] (fun l D tc b0 r h => m_X5_isWardIn l D tc ro b0 h) dX1_seatsWithin_36 rfl rfl (Nat.le_of_ble_eq_true rfl) (by decide) (by decide) ⟨Nat.le_of_ble_eq_true rfl, Nat.le_of_ble_eq_true rfl⟩ (fun v7 => ?_)
      refine z_if_eq C 55 dX1_seatsWithin_39 (by decide) ?_ ?_
      · refine z_iincL C 4 (fun v8 => [(0, .ref a0), (1, .int x1), (2, .int x2), (3, .int x3), (4, .int v8), (5, .int v5)]) dX1_seatsWithin_55 rfl zi_1 (by decide) (fun _ => rfl) (fun v8 => ?_)
        refine z_goto C 5 dX1_seatsWithin_58 (by decide) ?_
        exact z_sub [0, 1, 2, 3, 4] rfl (ih _ _)
      refine z_aload_n C dX1_seatsWithin_42 0 rfl ?_
      refine z_iload C dX1_seatsWithin_43 5 rfl ?_
      refine z_callVp C zc_X1_180 [.int v5] (fun l D tc b0 r h => m_X1_partyAhead l D tc ro b0 h) dX1_seatsWithin_45 rfl rfl (Nat.le_of_ble_eq_true rfl) (by decide) (by decide) ⟨Nat.le_of_ble_eq_true rfl, Nat.le_of_ble_eq_true rfl⟩ (fun v9 => ?_)
      refine z_iload_n C dX1_seatsWithin_48 2 rfl ?_
      refine z_icmp_ne C 55 dX1_seatsWithin_49 (by decide) ?_ ?_
      · refine z_iincL C 3 (fun v11 => [(0, .ref a0), (1, .int x1), (2, .int x2), (3, .int v11), (4, .int x4), (5, .int v5)]) dX1_seatsWithin_52 rfl zi_1 (by decide) (fun _ => rfl) (fun v11 => ?_)
        refine z_iincL C 4 (fun v12 => [(0, .ref a0), (1, .int x1), (2, .int x2), (3, .int v11), (4, .int v12), (5, .int v5)]) dX1_seatsWithin_55 rfl zi_1 (by decide) (fun _ => rfl) (fun v12 => ?_)
        refine z_goto C 5 dX1_seatsWithin_58 (by decide) ?_
        exact z_sub [0, 1, 2, 3, 4] rfl (ih _ _)
      refine z_iincL C 4 (fun v10 => [(0, .ref a0), (1, .int x1), (2, .int x2), (3, .int x3), (4, .int v10), (5, .int v5)]) dX1_seatsWithin_55 rfl zi_1 (by decide) (fun _ => rfl) (fun v10 => ?_)
      refine z_goto C 5 dX1_seatsWithin_58 (by decide) ?_
      exact z_sub [0, 1, 2, 3, 4] rfl (ih _ _)
    exact z_sub [3] rfl (hk61 _)
noncomputable def f_X1_seatsWithin (a0 : Nat) (x1 : Int32) (x2 : Int32) (hp : zHp) : Option Int32 :=
  (zis hp a0 1).bind fun _ => l_X1_seatsWithin_5 (fun p13 => some p13) a0 x1 x2 hp 1000000 (0 : Int32) (0 : Int32)
set_option maxHeartbeats 4000000 in
set_option maxRecDepth 100000 in
theorem m_X1_seatsWithin (l : Launch) (D : va_G) (tc : Nat → ClassId) (ro : Nat → Nat) (b0 : Nat) {a0 : Nat} {x1 : Int32} {x2 : Int32} {hp : zHp} {sz : Nat} {r : Int32} (h : f_X1_seatsWithin a0 x1 x2 hp = some r) : zis hp a0 1 = some () ∧ zM l yX1_seatsWithin cX1_seatsWithin 6 (some .int) 5 0 0 [.ref a0, .int x1, .int x2] D tc ro b0 hp sz ((zoP sz hp) r).1 ((zoP sz hp) r).2.1 ((zoP sz hp) r).2.2 := by
  refine ⟨?_, z_start (o := (zoP sz hp)) (lv := [(0, .ref a0), (1, .int x1), (2, .int x2)]) h (by decide +kernel) RX1 rfl rfl (Nat.le_of_ble_eq_true rfl) (fun P C => ?_)⟩
  · unfold f_X1_seatsWithin at h
    cases hc : zis hp a0 1 with
    | none => rw [hc] at h; cases h
    | some u => rfl
  unfold f_X1_seatsWithin
  refine z_is ?_
  refine z_iconst C dX1_seatsWithin_0 zi_0 ?_
  refine z_istore_n (lv' := [(0, .ref a0), (1, .int x1), (2, .int x2), (3, .int (0 : Int32))]) C dX1_seatsWithin_1 (by decide) rfl ?_
  refine z_iconst C dX1_seatsWithin_2 zi_0 ?_
  refine z_istore (lv' := [(0, .ref a0), (1, .int x1), (2, .int x2), (3, .int (0 : Int32)), (4, .int (0 : Int32))]) C dX1_seatsWithin_3 (by decide) rfl ?_
  refine wl_X1_seatsWithin_5 C (fun p13 => ?_) _ _ _
  refine z_iload_n C dX1_seatsWithin_61 0 rfl ?_
  exact z_ireturnP C dX1_seatsWithin_62
noncomputable def b_X1_cannotBeCaught_18 (k52 : Option Int32) (k60 : Option Int32) (a0 : Nat) (x1 : Int32) (x2 : Int32) (x3 : Int32) (x4 : Int32) (hp : zHp) (rec : Int32 → Option Int32) (x5 : Int32) : Option Int32 :=
  (zgR hp a0 1 0).bind fun r3 => (zgR hp r3 5 0).bind fun r4 => (zaI hp 0 r4 (0 : Int32)).bind fun v5 => if x5 < v5 then (if x5 = x2 then (zlet (x5 + (1 : Int32)) fun v6 => rec v6) else (f_X1_seatsWithin a0 x1 x5 hp).bind fun v7 => if (v7 + x4) < x3 then (zlet (x5 + (1 : Int32)) fun v8 => rec v8) else k52) else k60
noncomputable def l_X1_cannotBeCaught_18 (k52 : Option Int32) (k60 : Option Int32) (a0 : Nat) (x1 : Int32) (x2 : Int32) (x3 : Int32) (x4 : Int32) (hp : zHp) (n : Nat) : Int32 → Option Int32 :=
  Nat.rec (motive := fun _ => Int32 → Option Int32) (fun _ => none) (fun _ rec => b_X1_cannotBeCaught_18 k52 k60 a0 x1 x2 x3 x4 hp rec) n
theorem l_X1_cannotBeCaught_18_s (k52 : Option Int32) (k60 : Option Int32) (a0 : Nat) (x1 : Int32) (x2 : Int32) (x3 : Int32) (x4 : Int32) (hp : zHp) (n : Nat) (x5 : Int32) : l_X1_cannotBeCaught_18 k52 k60 a0 x1 x2 x3 x4 hp (n + 1) x5 = b_X1_cannotBeCaught_18 k52 k60 a0 x1 x2 x3 x4 hp (l_X1_cannotBeCaught_18 k52 k60 a0 x1 x2 x3 x4 hp n) x5 := rfl
set_option maxHeartbeats 4000000 in
set_option maxRecDepth 100000 in
theorem wl_X1_cannotBeCaught_18 {P : zX} {ro : Nat → Nat} {sz : Nat} (C : zC P cX1_cannotBeCaught RX1 (some .boolean) 6 0 0 6 ro) {a0 : Nat} {x1 : Int32} {x2 : Int32} {x3 : Int32} {x4 : Int32} {hp : zHp} {k52 : Option Int32} (hk52 : zG P (zoP sz hp) (k52) 52 [] [] hp sz 0 0) {k60 : Option Int32} (hk60 : zG P (zoP sz hp) (k60) 60 [] [] hp sz 0 0) : ∀ (n : Nat) (x5 : Int32), zG P (zoP sz hp) (l_X1_cannotBeCaught_18 k52 k60 a0 x1 x2 x3 x4 hp n x5) 18 [(0, .ref a0), (1, .int x1), (2, .int x2), (3, .int x3), (4, .int x4), (5, .int x5)] [] hp sz 0 0 := by
  intro n
  induction n with
  | zero =>
    intro x5
    show zG P (zoP sz hp) none _ _ _ _ _ _ _
    exact z_none
  | succ n ih =>
    intro x5
    show zG P (zoP sz hp) (b_X1_cannotBeCaught_18 k52 k60 a0 x1 x2 x3 x4 hp (l_X1_cannotBeCaught_18 k52 k60 a0 x1 x2 x3 x4 hp n) x5) _ _ _ _ _ _ _
    unfold b_X1_cannotBeCaught_18
    refine z_iload C dX1_cannotBeCaught_18 5 rfl ?_
    refine z_aload_n C dX1_cannotBeCaught_20 0 rfl ?_
    refine z_getR C zf_X1_12 dX1_cannotBeCaught_21 (fun r3 => ?_)
    refine z_getR C zf_X1_29 dX1_cannotBeCaught_24 (fun r4 => ?_)
    refine z_iconst C dX1_cannotBeCaught_27 zi_0 ?_
    refine z_iaload C dX1_cannotBeCaught_28 (fun v5 => ?_)
    refine z_icmp_ge C 60 dX1_cannotBeCaught_29 (by decide) ?_ ?_
    · refine z_iload C dX1_cannotBeCaught_32 5 rfl ?_
      refine z_iload_n C dX1_cannotBeCaught_34 2 rfl ?_
      refine z_icmp_eq C 54 dX1_cannotBeCaught_35 (by decide) ?_ ?_
      · refine z_iincL C 5 (fun v6 => [(0, .ref a0), (1, .int x1), (2, .int x2), (3, .int x3), (4, .int x4), (5, .int v6)]) dX1_cannotBeCaught_54 rfl zi_1 (by decide) (fun _ => rfl) (fun v6 => ?_)
        refine z_goto C 18 dX1_cannotBeCaught_57 (by decide) ?_
        exact ih _
      refine z_aload_n C dX1_cannotBeCaught_38 0 rfl ?_
      refine z_iload_n C dX1_cannotBeCaught_39 1 rfl ?_
      refine z_iload C dX1_cannotBeCaught_40 5 rfl ?_
      refine z_callVp C zc_X1_183 [.int x1, .int x5] (fun l D tc b0 r h => m_X1_seatsWithin l D tc ro b0 h) dX1_cannotBeCaught_42 rfl rfl (Nat.le_of_ble_eq_true rfl) (by decide) (by decide) ⟨Nat.le_of_ble_eq_true rfl, Nat.le_of_ble_eq_true rfl⟩ (fun v7 => ?_)
      refine z_iload C dX1_cannotBeCaught_45 4 rfl ?_
      refine z_iadd C dX1_cannotBeCaught_47 ?_
      refine z_iload_n C dX1_cannotBeCaught_48 3 rfl ?_
      refine z_icmp_lt C 54 dX1_cannotBeCaught_49 (by decide) ?_ ?_
      · refine z_iincL C 5 (fun v8 => [(0, .ref a0), (1, .int x1), (2, .int x2), (3, .int x3), (4, .int x4), (5, .int v8)]) dX1_cannotBeCaught_54 rfl zi_1 (by decide) (fun _ => rfl) (fun v8 => ?_)
        refine z_goto C 18 dX1_cannotBeCaught_57 (by decide) ?_
        exact ih _
      exact z_sub [] rfl (hk52)
    exact z_sub [] rfl (hk60)
noncomputable def f_X1_cannotBeCaught (a0 : Nat) (x1 : Int32) (x2 : Int32) (hp : zHp) : Option Int32 :=
  (zis hp a0 1).bind fun _ => (f_X1_seatsWithin a0 x1 x2 hp).bind fun v1 => (f_X1_wardsWithin a0 x1 (0 : Int32) hp).bind fun v2 => l_X1_cannotBeCaught_18 (some (0 : Int32)) (some (1 : Int32)) a0 x1 x2 v1 v2 hp 1000000 (0 : Int32)
set_option maxHeartbeats 4000000 in
set_option maxRecDepth 100000 in
theorem m_X1_cannotBeCaught (l : Launch) (D : va_G) (tc : Nat → ClassId) (ro : Nat → Nat) (b0 : Nat) {a0 : Nat} {x1 : Int32} {x2 : Int32} {hp : zHp} {sz : Nat} {r : Int32} (h : f_X1_cannotBeCaught a0 x1 x2 hp = some r) : zis hp a0 1 = some () ∧ zM l yX1_cannotBeCaught cX1_cannotBeCaught 6 (some .boolean) 6 0 0 [.ref a0, .int x1, .int x2] D tc ro b0 hp sz ((zoP sz hp) r).1 ((zoP sz hp) r).2.1 ((zoP sz hp) r).2.2 := by
  refine ⟨?_, z_start (o := (zoP sz hp)) (lv := [(0, .ref a0), (1, .int x1), (2, .int x2)]) h (by decide +kernel) RX1 rfl rfl (Nat.le_of_ble_eq_true rfl) (fun P C => ?_)⟩
  · unfold f_X1_cannotBeCaught at h
    cases hc : zis hp a0 1 with
    | none => rw [hc] at h; cases h
    | some u => rfl
  unfold f_X1_cannotBeCaught
  refine z_is ?_
  refine z_aload_n C dX1_cannotBeCaught_0 0 rfl ?_
  refine z_iload_n C dX1_cannotBeCaught_1 1 rfl ?_
  refine z_iload_n C dX1_cannotBeCaught_2 2 rfl ?_
  refine z_callVp C zc_X1_183 [.int x1, .int x2] (fun l D tc b0 r h => m_X1_seatsWithin l D tc ro b0 h) dX1_cannotBeCaught_3 rfl rfl (Nat.le_of_ble_eq_true rfl) (by decide) (by decide) ⟨Nat.le_of_ble_eq_true rfl, Nat.le_of_ble_eq_true rfl⟩ (fun v1 => ?_)
  refine z_istore_n (lv' := [(0, .ref a0), (1, .int x1), (2, .int x2), (3, .int v1)]) C dX1_cannotBeCaught_6 (by decide) rfl ?_
  refine z_aload_n C dX1_cannotBeCaught_7 0 rfl ?_
  refine z_iload_n C dX1_cannotBeCaught_8 1 rfl ?_
  refine z_iconst C dX1_cannotBeCaught_9 zi_0 ?_
  refine z_callVp C zc_X1_186 [.int x1, .int (0 : Int32)] (fun l D tc b0 r h => m_X1_wardsWithin l D tc ro b0 h) dX1_cannotBeCaught_10 rfl rfl (Nat.le_of_ble_eq_true rfl) (by decide) (by decide) ⟨Nat.le_of_ble_eq_true rfl, Nat.le_of_ble_eq_true rfl⟩ (fun v2 => ?_)
  refine z_istore (lv' := [(0, .ref a0), (1, .int x1), (2, .int x2), (3, .int v1), (4, .int v2)]) C dX1_cannotBeCaught_13 (by decide) rfl ?_
  refine z_iconst C dX1_cannotBeCaught_15 zi_0 ?_
  refine z_istore (lv' := [(0, .ref a0), (1, .int x1), (2, .int x2), (3, .int v1), (4, .int v2), (5, .int (0 : Int32))]) C dX1_cannotBeCaught_16 (by decide) rfl ?_
  refine wl_X1_cannotBeCaught_18 C ?_ ?_ _ _
  · refine z_iconst C dX1_cannotBeCaught_52 zi_0 ?_
    exact z_kreturnP C rfl dX1_cannotBeCaught_53
  refine z_iconst C dX1_cannotBeCaught_60 zi_1 ?_
  exact z_kreturnP C rfl dX1_cannotBeCaught_61
noncomputable def b_X2_init_15 (mc ms : Nat) (k40 : zHp → Nat → Nat → Nat → Option (zHp × Nat)) (a0 : Nat) (rec : Int32 → zHp → Nat → Nat → Nat → Option (zHp × Nat)) (x1 : Int32) (h : zHp) (sz : Nat) (uc : Nat) (us : Nat) : Option (zHp × Nat) :=
  if x1 < (10 : Int32) then ((zgR h a0 2 0).bind fun r4 => zchk (uc + 1 ≤ mc ∧ us + 5 ≤ ms) <| zlet (zup h sz (.inr (6, [.null, .null, .null, .int 0, .int 0]))) fun h6 => zchk ((uc + 1) + 51 ≤ mc ∧ (us + 5) + 608 ≤ ms) <| zb2 (f_X6_init 51 608 sz h6 ((sz + 1))) fun h8 z9 => (zsR h8 4 6 r4 x1 sz).bind fun h10 => zlet (x1 + (1 : Int32)) fun v11 => rec v11 h10 z9 (((uc + 1) + 51)) (((us + 5) + 608))) else k40 h sz uc us
noncomputable def l_X2_init_15 (mc ms : Nat) (k40 : zHp → Nat → Nat → Nat → Option (zHp × Nat)) (a0 : Nat) (n : Nat) : Int32 → zHp → Nat → Nat → Nat → Option (zHp × Nat) :=
  Nat.rec (motive := fun _ => Int32 → zHp → Nat → Nat → Nat → Option (zHp × Nat)) (fun _ _ _ _ _ => none) (fun _ rec => b_X2_init_15 mc ms k40 a0 rec) n
theorem l_X2_init_15_s {mc ms : Nat} (k40 : zHp → Nat → Nat → Nat → Option (zHp × Nat)) (a0 : Nat) (n : Nat) (x1 : Int32) (h : zHp) (sz : Nat) (uc : Nat) (us : Nat) : l_X2_init_15 mc ms k40 a0 (n + 1) x1 h sz uc us = b_X2_init_15 mc ms k40 a0 (l_X2_init_15 mc ms k40 a0 n) x1 h sz uc us := rfl
set_option maxHeartbeats 4000000 in
set_option maxRecDepth 100000 in
theorem wl_X2_init_15 {P : zX} {ro : Nat → Nat} {mc ms : Nat} (C : zC P cX2_init RX2 none 3 mc ms 2 ro) {a0 : Nat} {k40 : zHp → Nat → Nat → Nat → Option (zHp × Nat)} (hk40 : ∀ (h : zHp) (sz : Nat) (uc : Nat) (us : Nat), zG P zoVA (k40 h sz uc us) 40 [] [] h sz uc us) : ∀ (n : Nat) (x1 : Int32) (h : zHp) (sz : Nat) (uc : Nat) (us : Nat), zG P zoVA (l_X2_init_15 mc ms k40 a0 n x1 h sz uc us) 15 [(0, .ref a0), (1, .int x1)] [] h sz uc us := by
  intro n
  induction n with
  | zero =>
    intro x1 h sz uc us
    show zG P zoVA none _ _ _ _ _ _ _
    exact z_none
  | succ n ih =>
    intro x1 h sz uc us
    show zG P zoVA (b_X2_init_15 mc ms k40 a0 (l_X2_init_15 mc ms k40 a0 n) x1 h sz uc us) _ _ _ _ _ _ _
    unfold b_X2_init_15
    refine z_iload_n C dX2_init_15 1 rfl ?_
    refine z_bipush C dX2_init_16 zbi_10 ?_
    refine z_icmp_ge C 40 dX2_init_18 (by decide) ?_ ?_
    · refine z_aload_n C dX2_init_21 0 rfl ?_
      refine z_getR C zf_X2_11 dX2_init_22 (fun r4 => ?_)
      refine z_iload_n C dX2_init_25 1 rfl ?_
      refine z_chk (fun q5 => ?_)
      refine z_new C za_X2_9 dX2_init_26 q5 (fun h6 => ?_)
      refine z_dup C dX2_init_29 rfl ?_
      refine z_chk (fun q7 => ?_)
      refine z_callI C (Or.inl zci_X2_17) [] (fun l D tc b0 r h => m_X6_init l D tc ro b0 h) dX2_init_30 rfl rfl (Nat.le_of_ble_eq_true rfl) (by decide) (by decide) q7 (fun h8 z9 => ?_)
      refine z_aastore (t := 4) (ci := 6) (r0 := (RX6, TX6, 5)) C (fun _ => rfl) rfl (by decide) (by decide) dX2_init_33 (fun h10 => ?_)
      refine z_iincL C 1 (fun v11 => [(0, .ref a0), (1, .int v11)]) dX2_init_34 rfl zi_1 (by decide) (fun _ => rfl) (fun v11 => ?_)
      refine z_goto C 15 dX2_init_37 (by decide) ?_
      exact ih _ _ _ _ _
    exact z_sub [] rfl (hk40 _ _ _ _)
noncomputable def f_X2_init (mc ms : Nat) (a0 : Nat) (hp : zHp) (sz : Nat) : Option (zHp × Nat) :=
  zchk (¬ (10 : Int32) < 0 ∧ (10 : Int32).toNatClampNeg ≤ 60000 ∧ 0 + 1 ≤ mc ∧ 0 + (10 : Int32).toNatClampNeg ≤ ms) <| zlet (zup hp sz (.inl (4, (10 : Int32).toNatClampNeg, .inr (.inr (.inr (.inr (fun _ => none))))))) fun h2 => (zpV h2 a0 2 0 (.ref sz)).bind fun h3 => l_X2_init_15 mc ms (fun h12 z13 c14 u15 => zchk (c14 ≤ mc ∧ u15 ≤ ms) <| some (h12, z13)) a0 1000000 (0 : Int32) h3 ((sz + 1)) ((0 + 1)) ((0 + (10 : Int32).toNatClampNeg))
set_option maxHeartbeats 4000000 in
set_option maxRecDepth 100000 in
theorem m_X2_init (l : Launch) (D : va_G) (tc : Nat → ClassId) (ro : Nat → Nat) (b0 : Nat) {mc ms : Nat} {a0 : Nat} {hp : zHp} {sz : Nat} {r : (zHp × Nat)} (h : f_X2_init mc ms a0 hp sz = some r) : zM l yX2_init cX2_init 2 none 3 mc ms [.ref a0] D tc ro b0 hp sz (zoVA r).1 (zoVA r).2.1 (zoVA r).2.2 := by
  refine z_startI (o := zoVA) (lv := [(0, .ref a0)]) h (by decide +kernel) RX2 rfl rfl rfl (Nat.le_of_ble_eq_true rfl) (fun P C CI => ?_)
  unfold f_X2_init
  refine z_aload_n C dX2_init_0 0 rfl ?_
  refine z_objInit C zo_X2_3 dX2_init_1 (by decide) (Nat.le_of_ble_eq_true rfl) ?_
  refine z_aload_n C dX2_init_4 0 rfl ?_
  refine z_bipush C dX2_init_5 zbi_10 ?_
  refine z_chk (fun q1 => ?_)
  refine z_anewarr (t := 4) (Cn := "CountHall$State") C (fun _ => rfl) (by decide) zal_X2_9 (fun _ h => h.2.1) dX2_init_7 q1 (fun h2 => ?_)
  refine z_putF C CI zpf_X2_11 rfl rfl dX2_init_10 (fun h3 => ?_)
  refine z_iconst C dX2_init_13 zi_0 ?_
  refine z_istore_n (lv' := [(0, .ref a0), (1, .int (0 : Int32))]) C dX2_init_14 (by decide) rfl ?_
  refine wl_X2_init_15 C (fun h12 z13 c14 u15 => ?_) _ _ _ _ _ _
  refine z_chk (fun q16 => ?_)
  exact z_returnA C dX2_init_40 q16
noncomputable def b_X2_forgetOldest_9 (k35 : zHp → Option zHp) (a0 : Nat) (a1 : Nat) (rec : Int32 → zHp → Option zHp) (x2 : Int32) (h : zHp) : Option zHp :=
  if x2 < (10 : Int32) then ((zgR h a0 2 0).bind fun r3 => (zgR h a0 2 0).bind fun r4 => (zaR h 4 r4 x2).bind fun r5 => (zsR h 4 6 r3 (x2 - (1 : Int32)) r5).bind fun h6 => zlet (x2 + (1 : Int32)) fun v7 => rec v7 h6) else k35 h
noncomputable def l_X2_forgetOldest_9 (k35 : zHp → Option zHp) (a0 : Nat) (a1 : Nat) (n : Nat) : Int32 → zHp → Option zHp :=
  Nat.rec (motive := fun _ => Int32 → zHp → Option zHp) (fun _ _ => none) (fun _ rec => b_X2_forgetOldest_9 k35 a0 a1 rec) n
theorem l_X2_forgetOldest_9_s (k35 : zHp → Option zHp) (a0 : Nat) (a1 : Nat) (n : Nat) (x2 : Int32) (h : zHp) : l_X2_forgetOldest_9 k35 a0 a1 (n + 1) x2 h = b_X2_forgetOldest_9 k35 a0 a1 (l_X2_forgetOldest_9 k35 a0 a1 n) x2 h := rfl
set_option maxHeartbeats 4000000 in
set_option maxRecDepth 100000 in
theorem wl_X2_forgetOldest_9 {P : zX} {ro : Nat → Nat} {sz : Nat} (C : zC P cX2_forgetOldest RX2 none 1 0 0 3 ro) {a0 : Nat} {a1 : Nat} {k35 : zHp → Option zHp} (hk35 : ∀ (h : zHp), zG P (zoV sz) (k35 h) 35 [(0, .ref a0), (1, .ref a1)] [] h sz 0 0) : ∀ (n : Nat) (x2 : Int32) (h : zHp), zG P (zoV sz) (l_X2_forgetOldest_9 k35 a0 a1 n x2 h) 9 [(0, .ref a0), (1, .ref a1), (2, .int x2)] [] h sz 0 0 := by
  intro n
  induction n with
  | zero =>
    intro x2 h
    show zG P (zoV sz) none _ _ _ _ _ _ _
    exact z_none
  | succ n ih =>
    intro x2 h
    show zG P (zoV sz) (b_X2_forgetOldest_9 k35 a0 a1 (l_X2_forgetOldest_9 k35 a0 a1 n) x2 h) _ _ _ _ _ _ _
    unfold b_X2_forgetOldest_9
    refine z_iload_n C dX2_forgetOldest_9 2 rfl ?_
    refine z_bipush C dX2_forgetOldest_10 zbi_10 ?_
    refine z_icmp_ge C 35 dX2_forgetOldest_12 (by decide) ?_ ?_
    · refine z_aload_n C dX2_forgetOldest_15 0 rfl ?_
      refine z_getR C zf_X2_11 dX2_forgetOldest_16 (fun r3 => ?_)
      refine z_iload_n C dX2_forgetOldest_19 2 rfl ?_
      refine z_iconst C dX2_forgetOldest_20 zi_1 ?_
      refine z_isub C dX2_forgetOldest_21 ?_
      refine z_aload_n C dX2_forgetOldest_22 0 rfl ?_
      refine z_getR C zf_X2_11 dX2_forgetOldest_23 (fun r4 => ?_)
      refine z_iload_n C dX2_forgetOldest_26 2 rfl ?_
      refine z_aaload (t := 4) (ty := .object "CountHall$State") C (fun _ => rfl) rfl (by decide) dX2_forgetOldest_27 (fun r5 => ?_)
      refine z_aastore (t := 4) (ci := 6) (r0 := (RX6, TX6, 5)) C (fun _ => rfl) rfl (by decide) (by decide) dX2_forgetOldest_28 (fun h6 => ?_)
      refine z_iincL C 2 (fun v7 => [(0, .ref a0), (1, .ref a1), (2, .int v7)]) dX2_forgetOldest_29 rfl zi_1 (by decide) (fun _ => rfl) (fun v7 => ?_)
      refine z_goto C 9 dX2_forgetOldest_32 (by decide) ?_
      exact ih _ _
    exact z_sub [0, 1] rfl (hk35 _)
noncomputable def f_X2_forgetOldest (a0 : Nat) (hp : zHp) : Option zHp :=
  (zis hp a0 2).bind fun _ => (zgR hp a0 2 0).bind fun r1 => (zaR hp 4 r1 (0 : Int32)).bind fun r2 => l_X2_forgetOldest_9 (fun h8 => (zgR h8 a0 2 0).bind fun r9 => (zsR h8 4 6 r9 (9 : Int32) r2).bind fun h10 => (zgI h10 a0 2 1).bind fun v11 => (zpV h10 a0 2 1 (.int (v11 - (1 : Int32)))).bind fun h12 => some h12) a0 r2 1000000 (1 : Int32) hp
set_option maxHeartbeats 4000000 in
set_option maxRecDepth 100000 in
theorem m_X2_forgetOldest (l : Launch) (D : va_G) (tc : Nat → ClassId) (ro : Nat → Nat) (b0 : Nat) {a0 : Nat} {hp : zHp} {sz : Nat} {r : zHp} (h : f_X2_forgetOldest a0 hp = some r) : zis hp a0 2 = some () ∧ zM l yX2_forgetOldest cX2_forgetOldest 3 none 1 0 0 [.ref a0] D tc ro b0 hp sz ((zoV sz) r).1 ((zoV sz) r).2.1 ((zoV sz) r).2.2 := by
  refine ⟨?_, z_start (o := (zoV sz)) (lv := [(0, .ref a0)]) h (by decide +kernel) RX2 rfl rfl (Nat.le_of_ble_eq_true rfl) (fun P C => ?_)⟩
  · unfold f_X2_forgetOldest at h
    cases hc : zis hp a0 2 with
    | none => rw [hc] at h; cases h
    | some u => rfl
  unfold f_X2_forgetOldest
  refine z_is ?_
  refine z_aload_n C dX2_forgetOldest_0 0 rfl ?_
  refine z_getR C zf_X2_11 dX2_forgetOldest_1 (fun r1 => ?_)
  refine z_iconst C dX2_forgetOldest_4 zi_0 ?_
  refine z_aaload (t := 4) (ty := .object "CountHall$State") C (fun _ => rfl) rfl (by decide) dX2_forgetOldest_5 (fun r2 => ?_)
  refine z_astore_n (lv' := [(0, .ref a0), (1, .ref r2)]) C dX2_forgetOldest_6 (by decide) rfl ?_
  refine z_iconst C dX2_forgetOldest_7 zi_1 ?_
  refine z_istore_n (lv' := [(0, .ref a0), (1, .ref r2), (2, .int (1 : Int32))]) C dX2_forgetOldest_8 (by decide) rfl ?_
  refine wl_X2_forgetOldest_9 C (fun h8 => ?_) _ _ _
  refine z_aload_n C dX2_forgetOldest_35 0 rfl ?_
  refine z_getR C zf_X2_11 dX2_forgetOldest_36 (fun r9 => ?_)
  refine z_bipush C dX2_forgetOldest_39 zbi_9 ?_
  refine z_aload_n C dX2_forgetOldest_41 1 rfl ?_
  refine z_aastore (t := 4) (ci := 6) (r0 := (RX6, TX6, 5)) C (fun _ => rfl) rfl (by decide) (by decide) dX2_forgetOldest_42 (fun h10 => ?_)
  refine z_aload_n C dX2_forgetOldest_43 0 rfl ?_
  refine z_dup C dX2_forgetOldest_44 rfl ?_
  refine z_getI C zf_X2_18 dX2_forgetOldest_45 (fun v11 => ?_)
  refine z_iconst C dX2_forgetOldest_48 zi_1 ?_
  refine z_isub C dX2_forgetOldest_49 ?_
  refine z_putI C zp_X2_18 dX2_forgetOldest_50 (fun h12 => ?_)
  exact z_return C dX2_forgetOldest_53
noncomputable def b_X6_copyFrom_2 (k29 : zHp → Option zHp) (a0 : Nat) (a1 : Nat) (rec : Int32 → zHp → Option zHp) (x2 : Int32) (h : zHp) : Option zHp :=
  if x2 < (12 : Int32) then ((zgR h a0 6 0).bind fun r1 => (zaR h 3 r1 x2).bind fun r2 => (zgR h a1 6 0).bind fun r3 => (zaR h 3 r3 x2).bind fun r4 => (f_X0_copyFrom r2 r4 h).bind fun h5 => zlet (x2 + (1 : Int32)) fun v6 => rec v6 h5) else k29 h
noncomputable def l_X6_copyFrom_2 (k29 : zHp → Option zHp) (a0 : Nat) (a1 : Nat) (n : Nat) : Int32 → zHp → Option zHp :=
  Nat.rec (motive := fun _ => Int32 → zHp → Option zHp) (fun _ _ => none) (fun _ rec => b_X6_copyFrom_2 k29 a0 a1 rec) n
theorem l_X6_copyFrom_2_s (k29 : zHp → Option zHp) (a0 : Nat) (a1 : Nat) (n : Nat) (x2 : Int32) (h : zHp) : l_X6_copyFrom_2 k29 a0 a1 (n + 1) x2 h = b_X6_copyFrom_2 k29 a0 a1 (l_X6_copyFrom_2 k29 a0 a1 n) x2 h := rfl
set_option maxHeartbeats 4000000 in
set_option maxRecDepth 100000 in
theorem wl_X6_copyFrom_2 {P : zX} {ro : Nat → Nat} {sz : Nat} (C : zC P cX6_copyFrom RX6 none 2 0 0 3 ro) {a0 : Nat} {a1 : Nat} {k29 : zHp → Option zHp} (hk29 : ∀ (h : zHp), zG P (zoV sz) (k29 h) 29 [(0, .ref a0), (1, .ref a1)] [] h sz 0 0) : ∀ (n : Nat) (x2 : Int32) (h : zHp), zG P (zoV sz) (l_X6_copyFrom_2 k29 a0 a1 n x2 h) 2 [(0, .ref a0), (1, .ref a1), (2, .int x2)] [] h sz 0 0 := by
  intro n
  induction n with
  | zero =>
    intro x2 h
    show zG P (zoV sz) none _ _ _ _ _ _ _
    exact z_none
  | succ n ih =>
    intro x2 h
    show zG P (zoV sz) (b_X6_copyFrom_2 k29 a0 a1 (l_X6_copyFrom_2 k29 a0 a1 n) x2 h) _ _ _ _ _ _ _
    unfold b_X6_copyFrom_2
    refine z_iload_n C dX6_copyFrom_2 2 rfl ?_
    refine z_bipush C dX6_copyFrom_3 zbi_12 ?_
    refine z_icmp_ge C 29 dX6_copyFrom_5 (by decide) ?_ ?_
    · refine z_aload_n C dX6_copyFrom_8 0 rfl ?_
      refine z_getR C zf_X6_11 dX6_copyFrom_9 (fun r1 => ?_)
      refine z_iload_n C dX6_copyFrom_12 2 rfl ?_
      refine z_aaload (t := 3) (ty := .object "CountHall$Box") C (fun _ => rfl) rfl (by decide) dX6_copyFrom_13 (fun r2 => ?_)
      refine z_aload_n C dX6_copyFrom_14 1 rfl ?_
      refine z_getR C zf_X6_11 dX6_copyFrom_15 (fun r3 => ?_)
      refine z_iload_n C dX6_copyFrom_18 2 rfl ?_
      refine z_aaload (t := 3) (ty := .object "CountHall$Box") C (fun _ => rfl) rfl (by decide) dX6_copyFrom_19 (fun r4 => ?_)
      refine z_callVv C zc_X6_51 [.ref r4] (fun l D tc b0 r h => m_X0_copyFrom l D tc ro b0 h) dX6_copyFrom_20 rfl rfl (Nat.le_of_ble_eq_true rfl) (by decide) (by decide) ⟨Nat.le_of_ble_eq_true rfl, Nat.le_of_ble_eq_true rfl⟩ (fun h5 => ?_)
      refine z_iincL C 2 (fun v6 => [(0, .ref a0), (1, .ref a1), (2, .int v6)]) dX6_copyFrom_23 rfl zi_1 (by decide) (fun _ => rfl) (fun v6 => ?_)
      refine z_goto C 2 dX6_copyFrom_26 (by decide) ?_
      exact ih _ _
    exact z_sub [0, 1] rfl (hk29 _)
noncomputable def f_X6_copyFrom (a0 : Nat) (a1 : Nat) (hp : zHp) : Option zHp :=
  (zis hp a0 6).bind fun _ => l_X6_copyFrom_2 (fun h7 => (zgR h7 a1 6 1).bind fun r8 => (zgR h7 a0 6 1).bind fun r9 => (zcpI h7 r8 (0 : Int32) r9 (0 : Int32) (2 : Int32)).bind fun h10 => (zgR h10 a1 6 2).bind fun r11 => (zgR h10 a0 6 2).bind fun r12 => (zcpI h10 r11 (0 : Int32) r12 (0 : Int32) (6 : Int32)).bind fun h13 => (zgI h13 a1 6 3).bind fun v14 => (zpV h13 a0 6 3 (.int v14)).bind fun h15 => (zgI h15 a1 6 4).bind fun v16 => (zpV h15 a0 6 4 (.int v16)).bind fun h17 => some h17) a0 a1 1000000 (0 : Int32) hp
set_option maxHeartbeats 4000000 in
set_option maxRecDepth 100000 in
theorem m_X6_copyFrom (l : Launch) (D : va_G) (tc : Nat → ClassId) (ro : Nat → Nat) (b0 : Nat) {a0 : Nat} {a1 : Nat} {hp : zHp} {sz : Nat} {r : zHp} (h : f_X6_copyFrom a0 a1 hp = some r) : zis hp a0 6 = some () ∧ zM l yX6_copyFrom cX6_copyFrom 3 none 2 0 0 [.ref a0, .ref a1] D tc ro b0 hp sz ((zoV sz) r).1 ((zoV sz) r).2.1 ((zoV sz) r).2.2 := by
  refine ⟨?_, z_start (o := (zoV sz)) (lv := [(0, .ref a0), (1, .ref a1)]) h (by decide +kernel) RX6 rfl rfl (Nat.le_of_ble_eq_true rfl) (fun P C => ?_)⟩
  · unfold f_X6_copyFrom at h
    cases hc : zis hp a0 6 with
    | none => rw [hc] at h; cases h
    | some u => rfl
  unfold f_X6_copyFrom
  refine z_is ?_
  refine z_iconst C dX6_copyFrom_0 zi_0 ?_
  refine z_istore_n (lv' := [(0, .ref a0), (1, .ref a1), (2, .int (0 : Int32))]) C dX6_copyFrom_1 (by decide) rfl ?_
  refine wl_X6_copyFrom_2 C (fun h7 => ?_) _ _ _
  refine z_aload_n C dX6_copyFrom_29 1 rfl ?_
  refine z_getR C zf_X6_17 dX6_copyFrom_30 (fun r8 => ?_)
  refine z_iconst C dX6_copyFrom_33 zi_0 ?_
  refine z_aload_n C dX6_copyFrom_34 0 rfl ?_
  refine z_getR C zf_X6_17 dX6_copyFrom_35 (fun r9 => ?_)
  refine z_iconst C dX6_copyFrom_38 zi_0 ?_
  refine z_iconst C dX6_copyFrom_39 zi_2 ?_
  refine z_copyI C zy_X6_42 dX6_copyFrom_40 (Nat.le_of_ble_eq_true rfl) (by decide) (fun h10 => ?_)
  refine z_aload_n C dX6_copyFrom_43 1 rfl ?_
  refine z_getR C zf_X6_21 dX6_copyFrom_44 (fun r11 => ?_)
  refine z_iconst C dX6_copyFrom_47 zi_0 ?_
  refine z_aload_n C dX6_copyFrom_48 0 rfl ?_
  refine z_getR C zf_X6_21 dX6_copyFrom_49 (fun r12 => ?_)
  refine z_iconst C dX6_copyFrom_52 zi_0 ?_
  refine z_bipush C dX6_copyFrom_53 zbi_6 ?_
  refine z_copyI C zy_X6_42 dX6_copyFrom_55 (Nat.le_of_ble_eq_true rfl) (by decide) (fun h13 => ?_)
  refine z_aload_n C dX6_copyFrom_58 0 rfl ?_
  refine z_aload_n C dX6_copyFrom_59 1 rfl ?_
  refine z_getI C zf_X6_48 dX6_copyFrom_60 (fun v14 => ?_)
  refine z_putI C zp_X6_48 dX6_copyFrom_63 (fun h15 => ?_)
  refine z_aload_n C dX6_copyFrom_66 0 rfl ?_
  refine z_aload_n C dX6_copyFrom_67 1 rfl ?_
  refine z_getI C zf_X6_25 dX6_copyFrom_68 (fun v16 => ?_)
  refine z_putI C zp_X6_25 dX6_copyFrom_71 (fun h17 => ?_)
  exact z_return C dX6_copyFrom_74
noncomputable def j_X2_keep_13 (a0 : Nat) (a1 : Nat) (h : zHp) : Option zHp :=
  (zgR h a0 2 0).bind fun r2 => (zgI h a0 2 1).bind fun v3 => (zaR h 4 r2 v3).bind fun r4 => (f_X6_copyFrom r4 a1 h).bind fun h5 => (zgI h5 a0 2 1).bind fun v6 => (zpV h5 a0 2 1 (.int (v6 + (1 : Int32)))).bind fun h7 => some h7
set_option maxHeartbeats 4000000 in
set_option maxRecDepth 100000 in
theorem wj_X2_keep_13 {P : zX} {ro : Nat → Nat} {sz : Nat} (C : zC P cX2_keep RX2 none 3 0 0 2 ro) {a0 : Nat} {a1 : Nat} {h : zHp}  : zG P (zoV sz) (j_X2_keep_13 a0 a1 h) 13 [(0, .ref a0), (1, .ref a1)] [] h sz 0 0 := by
  unfold j_X2_keep_13
  refine z_aload_n C dX2_keep_13 0 rfl ?_
  refine z_getR C zf_X2_11 dX2_keep_14 (fun r2 => ?_)
  refine z_aload_n C dX2_keep_17 0 rfl ?_
  refine z_getI C zf_X2_18 dX2_keep_18 (fun v3 => ?_)
  refine z_aaload (t := 4) (ty := .object "CountHall$State") C (fun _ => rfl) rfl (by decide) dX2_keep_21 (fun r4 => ?_)
  refine z_aload_n C dX2_keep_22 1 rfl ?_
  refine z_callVv C zc_X2_25 [.ref a1] (fun l D tc b0 r h => m_X6_copyFrom l D tc ro b0 h) dX2_keep_23 rfl rfl (Nat.le_of_ble_eq_true rfl) (by decide) (by decide) ⟨Nat.le_of_ble_eq_true rfl, Nat.le_of_ble_eq_true rfl⟩ (fun h5 => ?_)
  refine z_aload_n C dX2_keep_26 0 rfl ?_
  refine z_dup C dX2_keep_27 rfl ?_
  refine z_getI C zf_X2_18 dX2_keep_28 (fun v6 => ?_)
  refine z_iconst C dX2_keep_31 zi_1 ?_
  refine z_iadd C dX2_keep_32 ?_
  refine z_putI C zp_X2_18 dX2_keep_33 (fun h7 => ?_)
  exact z_return C dX2_keep_36
noncomputable def f_X2_keep (a0 : Nat) (a1 : Nat) (hp : zHp) : Option zHp :=
  (zis hp a0 2).bind fun _ => (zgI hp a0 2 1).bind fun v1 => if v1 = (10 : Int32) then ((f_X2_forgetOldest a0 hp).bind fun h8 => j_X2_keep_13 a0 a1 h8) else j_X2_keep_13 a0 a1 hp
set_option maxHeartbeats 4000000 in
set_option maxRecDepth 100000 in
theorem m_X2_keep (l : Launch) (D : va_G) (tc : Nat → ClassId) (ro : Nat → Nat) (b0 : Nat) {a0 : Nat} {a1 : Nat} {hp : zHp} {sz : Nat} {r : zHp} (h : f_X2_keep a0 a1 hp = some r) : zis hp a0 2 = some () ∧ zM l yX2_keep cX2_keep 2 none 3 0 0 [.ref a0, .ref a1] D tc ro b0 hp sz ((zoV sz) r).1 ((zoV sz) r).2.1 ((zoV sz) r).2.2 := by
  refine ⟨?_, z_start (o := (zoV sz)) (lv := [(0, .ref a0), (1, .ref a1)]) h (by decide +kernel) RX2 rfl rfl (Nat.le_of_ble_eq_true rfl) (fun P C => ?_)⟩
  · unfold f_X2_keep at h
    cases hc : zis hp a0 2 with
    | none => rw [hc] at h; cases h
    | some u => rfl
  unfold f_X2_keep
  refine z_is ?_
  refine z_aload_n C dX2_keep_0 0 rfl ?_
  refine z_getI C zf_X2_18 dX2_keep_1 (fun v1 => ?_)
  refine z_bipush C dX2_keep_4 zbi_10 ?_
  refine z_icmp_ne C 13 dX2_keep_6 (by decide) ?_ ?_
  · refine z_aload_n C dX2_keep_9 0 rfl ?_
    refine z_callVv C zc_X2_22 [] (fun l D tc b0 r h => m_X2_forgetOldest l D tc ro b0 h) dX2_keep_10 rfl rfl (Nat.le_of_ble_eq_true rfl) (by decide) (by decide) ⟨Nat.le_of_ble_eq_true rfl, Nat.le_of_ble_eq_true rfl⟩ (fun h8 => ?_)
    exact wj_X2_keep_13 C
  exact wj_X2_keep_13 C
noncomputable def f_X2_giveBack (a0 : Nat) (a1 : Nat) (hp : zHp) : Option zHp :=
  (zis hp a0 2).bind fun _ => (zgI hp a0 2 1).bind fun v1 => if 0 < v1 then ((zgI hp a0 2 1).bind fun v2 => (zpV hp a0 2 1 (.int (v2 - (1 : Int32)))).bind fun h3 => (zgR h3 a0 2 0).bind fun r4 => (zgI h3 a0 2 1).bind fun v5 => (zaR h3 4 r4 v5).bind fun r6 => (f_X6_copyFrom a1 r6 h3).bind fun h7 => some h7) else some hp
set_option maxHeartbeats 4000000 in
set_option maxRecDepth 100000 in
theorem m_X2_giveBack (l : Launch) (D : va_G) (tc : Nat → ClassId) (ro : Nat → Nat) (b0 : Nat) {a0 : Nat} {a1 : Nat} {hp : zHp} {sz : Nat} {r : zHp} (h : f_X2_giveBack a0 a1 hp = some r) : zis hp a0 2 = some () ∧ zM l yX2_giveBack cX2_giveBack 2 none 3 0 0 [.ref a0, .ref a1] D tc ro b0 hp sz ((zoV sz) r).1 ((zoV sz) r).2.1 ((zoV sz) r).2.2 := by
  refine ⟨?_, z_start (o := (zoV sz)) (lv := [(0, .ref a0), (1, .ref a1)]) h (by decide +kernel) RX2 rfl rfl (Nat.le_of_ble_eq_true rfl) (fun P C => ?_)⟩
  · unfold f_X2_giveBack at h
    cases hc : zis hp a0 2 with
    | none => rw [hc] at h; cases h
    | some u => rfl
  unfold f_X2_giveBack
  refine z_is ?_
  refine z_aload_n C dX2_giveBack_0 0 rfl ?_
  refine z_getI C zf_X2_18 dX2_giveBack_1 (fun v1 => ?_)
  refine z_if_le C 30 dX2_giveBack_4 (by decide) ?_ ?_
  · refine z_aload_n C dX2_giveBack_7 0 rfl ?_
    refine z_dup C dX2_giveBack_8 rfl ?_
    refine z_getI C zf_X2_18 dX2_giveBack_9 (fun v2 => ?_)
    refine z_iconst C dX2_giveBack_12 zi_1 ?_
    refine z_isub C dX2_giveBack_13 ?_
    refine z_putI C zp_X2_18 dX2_giveBack_14 (fun h3 => ?_)
    refine z_aload_n C dX2_giveBack_17 1 rfl ?_
    refine z_aload_n C dX2_giveBack_18 0 rfl ?_
    refine z_getR C zf_X2_11 dX2_giveBack_19 (fun r4 => ?_)
    refine z_aload_n C dX2_giveBack_22 0 rfl ?_
    refine z_getI C zf_X2_18 dX2_giveBack_23 (fun v5 => ?_)
    refine z_aaload (t := 4) (ty := .object "CountHall$State") C (fun _ => rfl) rfl (by decide) dX2_giveBack_26 (fun r6 => ?_)
    refine z_callVv C zc_X2_25 [.ref r6] (fun l D tc b0 r h => m_X6_copyFrom l D tc ro b0 h) dX2_giveBack_27 rfl rfl (Nat.le_of_ble_eq_true rfl) (by decide) (by decide) ⟨Nat.le_of_ble_eq_true rfl, Nat.le_of_ble_eq_true rfl⟩ (fun h7 => ?_)
    exact z_return C dX2_giveBack_30
  exact z_return C dX2_giveBack_30
noncomputable def f_X3_init (mc ms : Nat) (a0 : Nat) (hp : zHp) (sz : Nat) : Option (zHp × Nat) :=
  zchk (¬ (900 : Int32) < 0 ∧ (900 : Int32).toNatClampNeg ≤ 60000 ∧ 0 + 1 ≤ mc ∧ 0 + (900 : Int32).toNatClampNeg ≤ ms) <| zlet (zup hp sz (.inl (1, (900 : Int32).toNatClampNeg, .inl (fun _ => 0)))) fun h2 => (zpV h2 a0 3 0 (.ref sz)).bind fun h3 => some (h3, (sz + 1))
set_option maxHeartbeats 4000000 in
set_option maxRecDepth 100000 in
theorem m_X3_init (l : Launch) (D : va_G) (tc : Nat → ClassId) (ro : Nat → Nat) (b0 : Nat) {mc ms : Nat} {a0 : Nat} {hp : zHp} {sz : Nat} {r : (zHp × Nat)} (h : f_X3_init mc ms a0 hp sz = some r) : zM l yX3_init cX3_init 1 none 1 mc ms [.ref a0] D tc ro b0 hp sz (zoVA r).1 (zoVA r).2.1 (zoVA r).2.2 := by
  refine z_startI (o := zoVA) (lv := [(0, .ref a0)]) h (by decide +kernel) RX3 rfl rfl rfl (Nat.le_of_ble_eq_true rfl) (fun P C CI => ?_)
  unfold f_X3_init
  refine z_aload_n C dX3_init_0 0 rfl ?_
  refine z_objInit C zo_X3_3 dX3_init_1 (by decide) (Nat.le_of_ble_eq_true rfl) ?_
  refine z_aload_n C dX3_init_4 0 rfl ?_
  refine z_sipush C dX3_init_5 zsi_900 ?_
  refine z_chk (fun q1 => ?_)
  refine z_newarr (t := 1) (ty := .byte) (A := .inl (fun _ => 0)) C rfl (fun _ => rfl) (by decide) (fun _ _ h => h) (fun _ _ => rfl) zar_byte dX3_init_8 (by decide) q1 (fun h2 => ?_)
  refine z_putF C CI zpf_X3_9 rfl rfl dX3_init_10 (fun h3 => ?_)
  exact z_returnA C dX3_init_13 ⟨q1.2.2.1, q1.2.2.2⟩
noncomputable def b_X3_append_3 (k46 : zHp → Option zHp) (a0 : Nat) (x1 : Int32) (rec : Int32 → zHp → Option zHp) (x2 : Int32) (h : zHp) : Option zHp :=
  if x2 < 0 then (k46 h) else (zgI h a0 3 1).bind fun v1 => if v1 < (900 : Int32) then ((zgR h a0 3 0).bind fun r3 => (zgI h a0 3 1).bind fun v4 => (zsB h r3 v4 ((x1 >>> (x2 &&& 31)).toInt8.toInt32)).bind fun h5 => (zgI h5 a0 3 1).bind fun v6 => (zpV h5 a0 3 1 (.int (v6 + (1 : Int32)))).bind fun h7 => zlet (x2 + (-8 : Int32)) fun v8 => rec v8 h7) else zlet (x2 + (-8 : Int32)) fun v2 => rec v2 h
noncomputable def l_X3_append_3 (k46 : zHp → Option zHp) (a0 : Nat) (x1 : Int32) (n : Nat) : Int32 → zHp → Option zHp :=
  Nat.rec (motive := fun _ => Int32 → zHp → Option zHp) (fun _ _ => none) (fun _ rec => b_X3_append_3 k46 a0 x1 rec) n
theorem l_X3_append_3_s (k46 : zHp → Option zHp) (a0 : Nat) (x1 : Int32) (n : Nat) (x2 : Int32) (h : zHp) : l_X3_append_3 k46 a0 x1 (n + 1) x2 h = b_X3_append_3 k46 a0 x1 (l_X3_append_3 k46 a0 x1 n) x2 h := rfl
set_option maxHeartbeats 4000000 in
set_option maxRecDepth 100000 in
theorem wl_X3_append_3 {P : zX} {ro : Nat → Nat} {sz : Nat} (C : zC P cX3_append RX3 none 1 0 0 3 ro) {a0 : Nat} {x1 : Int32} {k46 : zHp → Option zHp} (hk46 : ∀ (h : zHp), zG P (zoV sz) (k46 h) 46 [] [] h sz 0 0) : ∀ (n : Nat) (x2 : Int32) (h : zHp), zG P (zoV sz) (l_X3_append_3 k46 a0 x1 n x2 h) 3 [(0, .ref a0), (1, .int x1), (2, .int x2)] [] h sz 0 0 := by
  intro n
  induction n with
  | zero =>
    intro x2 h
    show zG P (zoV sz) none _ _ _ _ _ _ _
    exact z_none
  | succ n ih =>
    intro x2 h
    show zG P (zoV sz) (b_X3_append_3 k46 a0 x1 (l_X3_append_3 k46 a0 x1 n) x2 h) _ _ _ _ _ _ _
    unfold b_X3_append_3
    refine z_iload_n C dX3_append_3 2 rfl ?_
    refine z_if_lt C 46 dX3_append_4 (by decide) ?_ ?_
    · exact z_sub [] rfl (hk46 _)
    refine z_aload_n C dX3_append_7 0 rfl ?_
    refine z_getI C zf_X3_15 dX3_append_8 (fun v1 => ?_)
    refine z_sipush C dX3_append_11 zsi_900 ?_
    refine z_icmp_ge C 40 dX3_append_14 (by decide) ?_ ?_
    · refine z_aload_n C dX3_append_17 0 rfl ?_
      refine z_getR C zf_X3_9 dX3_append_18 (fun r3 => ?_)
      refine z_aload_n C dX3_append_21 0 rfl ?_
      refine z_getI C zf_X3_15 dX3_append_22 (fun v4 => ?_)
      refine z_iload_n C dX3_append_25 1 rfl ?_
      refine z_iload_n C dX3_append_26 2 rfl ?_
      refine z_ishr C dX3_append_27 ?_
      refine z_i2b C dX3_append_28 ?_
      refine z_bastore C dX3_append_29 (fun h5 => ?_)
      refine z_aload_n C dX3_append_30 0 rfl ?_
      refine z_dup C dX3_append_31 rfl ?_
      refine z_getI C zf_X3_15 dX3_append_32 (fun v6 => ?_)
      refine z_iconst C dX3_append_35 zi_1 ?_
      refine z_iadd C dX3_append_36 ?_
      refine z_putI C zp_X3_15 dX3_append_37 (fun h7 => ?_)
      refine z_iincL C 2 (fun v8 => [(0, .ref a0), (1, .int x1), (2, .int v8)]) dX3_append_40 rfl zi_m8 (by decide) (fun _ => rfl) (fun v8 => ?_)
      refine z_goto C 3 dX3_append_43 (by decide) ?_
      exact ih _ _
    refine z_iincL C 2 (fun v2 => [(0, .ref a0), (1, .int x1), (2, .int v2)]) dX3_append_40 rfl zi_m8 (by decide) (fun _ => rfl) (fun v2 => ?_)
    refine z_goto C 3 dX3_append_43 (by decide) ?_
    exact ih _ _
noncomputable def f_X3_append (a0 : Nat) (x1 : Int32) (hp : zHp) : Option zHp :=
  (zis hp a0 3).bind fun _ => l_X3_append_3 (fun h9 => some h9) a0 x1 1000000 (24 : Int32) hp
set_option maxHeartbeats 4000000 in
set_option maxRecDepth 100000 in
theorem m_X3_append (l : Launch) (D : va_G) (tc : Nat → ClassId) (ro : Nat → Nat) (b0 : Nat) {a0 : Nat} {x1 : Int32} {hp : zHp} {sz : Nat} {r : zHp} (h : f_X3_append a0 x1 hp = some r) : zis hp a0 3 = some () ∧ zM l yX3_append cX3_append 3 none 1 0 0 [.ref a0, .int x1] D tc ro b0 hp sz ((zoV sz) r).1 ((zoV sz) r).2.1 ((zoV sz) r).2.2 := by
  refine ⟨?_, z_start (o := (zoV sz)) (lv := [(0, .ref a0), (1, .int x1)]) h (by decide +kernel) RX3 rfl rfl (Nat.le_of_ble_eq_true rfl) (fun P C => ?_)⟩
  · unfold f_X3_append at h
    cases hc : zis hp a0 3 with
    | none => rw [hc] at h; cases h
    | some u => rfl
  unfold f_X3_append
  refine z_is ?_
  refine z_bipush C dX3_append_0 zbi_24 ?_
  refine z_istore_n (lv' := [(0, .ref a0), (1, .int x1), (2, .int (24 : Int32))]) C dX3_append_2 (by decide) rfl ?_
  refine wl_X3_append_3 C (fun h9 => ?_) _ _ _
  exact z_return C dX3_append_46
noncomputable def f_X3_isBlank (x0 : Int32) (hp : zHp) : Option Int32 :=
  if x0 = (32 : Int32) then (some (1 : Int32)) else if x0 = (10 : Int32) then (some (1 : Int32)) else some (0 : Int32)
set_option maxHeartbeats 4000000 in
set_option maxRecDepth 100000 in
theorem m_X3_isBlank (l : Launch) (D : va_G) (tc : Nat → ClassId) (ro : Nat → Nat) (b0 : Nat) {x0 : Int32} {hp : zHp} {sz : Nat} {r : Int32} (h : f_X3_isBlank x0 hp = some r) : zM l yX3_isBlank cX3_isBlank 1 (some .boolean) 1 0 0 [.int x0] D tc ro b0 hp sz ((zoP sz hp) r).1 ((zoP sz hp) r).2.1 ((zoP sz hp) r).2.2 := by
  refine z_start (o := (zoP sz hp)) (lv := [(0, .int x0)]) h (by decide +kernel) RX3 rfl rfl (Nat.le_of_ble_eq_true rfl) (fun P C => ?_)
  unfold f_X3_isBlank
  refine z_iload_n C dX3_isBlank_0 0 rfl ?_
  refine z_bipush C dX3_isBlank_1 zbi_32 ?_
  refine z_icmp_eq C 12 dX3_isBlank_3 (by decide) ?_ ?_
  · refine z_iconst C dX3_isBlank_12 zi_1 ?_
    refine z_goto C 17 dX3_isBlank_13 (by decide) ?_
    exact z_kreturnP C rfl dX3_isBlank_17
  refine z_iload_n C dX3_isBlank_6 0 rfl ?_
  refine z_bipush C dX3_isBlank_7 zbi_10 ?_
  refine z_icmp_ne C 16 dX3_isBlank_9 (by decide) ?_ ?_
  · refine z_iconst C dX3_isBlank_12 zi_1 ?_
    refine z_goto C 17 dX3_isBlank_13 (by decide) ?_
    exact z_kreturnP C rfl dX3_isBlank_17
  refine z_iconst C dX3_isBlank_16 zi_0 ?_
  exact z_kreturnP C rfl dX3_isBlank_17
