noncomputable def f_X8_declared (a0 : Nat) (x1 : Int32) (hp : zHp) : Option (Int32 × zHp) :=
  (zis hp a0 8).bind fun _ => (zpV hp a0 8 0 (.int (0 : Int32))).bind fun h1 => if x1 < 0 then (some ((-1 : Int32), h1)) else (zgR h1 a0 8 5).bind fun r2 => (zaI h1 0 r2 (9 : Int32)).bind fun v3 => if x1 < v3 then ((zgR h1 a0 8 5).bind fun r4 => (zaI h1 0 r4 ((3 : Int32) + x1)).bind fun v5 => some (v5, h1)) else some ((-1 : Int32), h1)
set_option maxHeartbeats 4000000 in
set_option maxRecDepth 100000 in
theorem m_X8_declared (l : Launch) (D : va_G) (tc : Nat → ClassId) (ro : Nat → Nat) (b0 : Nat) {a0 : Nat} {x1 : Int32} {hp : zHp} {sz : Nat} {r : (Int32 × zHp)} (h : f_X8_declared a0 x1 hp = some r) : zis hp a0 8 = some () ∧ zM l yX8_declared cX8_declared 2 (some .int) 1 0 0 [.ref a0, .int x1] D tc ro b0 hp sz ((zoI sz) r).1 ((zoI sz) r).2.1 ((zoI sz) r).2.2 := by
  refine ⟨?_, z_start (o := (zoI sz)) (lv := [(0, .ref a0), (1, .int x1)]) h (by decide +kernel) RX8 rfl rfl (Nat.le_of_ble_eq_true rfl) (fun P C => ?_)⟩
  · unfold f_X8_declared at h
    cases hc : zis hp a0 8 with
    | none => rw [hc] at h; cases h
    | some u => rfl
  unfold f_X8_declared
  refine z_is ?_
  refine z_aload_n C dX8_declared_0 0 rfl ?_
  refine z_iconst C dX8_declared_1 zi_0 ?_
  refine z_putI C zp_X8_38 dX8_declared_2 (fun h1 => ?_)
  refine z_iload_n C dX8_declared_5 1 rfl ?_
  refine z_if_lt C 20 dX8_declared_6 (by decide) ?_ ?_
  · refine z_iconst C dX8_declared_20 zi_m1 ?_
    refine z_goto C 32 dX8_declared_21 (by decide) ?_
    exact z_ireturn C dX8_declared_32
  refine z_iload_n C dX8_declared_9 1 rfl ?_
  refine z_aload_n C dX8_declared_10 0 rfl ?_
  refine z_getR C zf_X8_19 dX8_declared_11 (fun r2 => ?_)
  refine z_bipush C dX8_declared_14 zbi_9 ?_
  refine z_iaload C dX8_declared_16 (fun v3 => ?_)
  refine z_icmp_lt C 24 dX8_declared_17 (by decide) ?_ ?_
  · refine z_aload_n C dX8_declared_24 0 rfl ?_
    refine z_getR C zf_X8_19 dX8_declared_25 (fun r4 => ?_)
    refine z_iconst C dX8_declared_28 zi_3 ?_
    refine z_iload_n C dX8_declared_29 1 rfl ?_
    refine z_iadd C dX8_declared_30 ?_
    refine z_iaload C dX8_declared_31 (fun v5 => ?_)
    exact z_ireturn C dX8_declared_32
  refine z_iconst C dX8_declared_20 zi_m1 ?_
  refine z_goto C 32 dX8_declared_21 (by decide) ?_
  exact z_ireturn C dX8_declared_32
noncomputable def j_X8_isRegionDeclared_43 (k51 : Int32 → Option (Int32 × zHp)) (rec : Int32 → Int32 → Option (Int32 × zHp)) (a0 : Nat) (x1 : Int32) (x3 : Int32) (s0 : Int32) (s1 : Int32) (h : zHp) : Option (Int32 × zHp) :=
  zlet (s0 + s1) fun v6 => zlet (x3 + (1 : Int32)) fun v7 => rec v6 v7
set_option maxHeartbeats 4000000 in
set_option maxRecDepth 100000 in
theorem wj_X8_isRegionDeclared_43 {P : zX} {ro : Nat → Nat} {sz : Nat} (C : zC P cX8_isRegionDeclared RX8 (some .boolean) 4 0 0 4 ro) {a0 : Nat} {x1 : Int32} {x3 : Int32} {s0 : Int32} {s1 : Int32} {h : zHp} {k51 : Int32 → Option (Int32 × zHp)} (hk51 : ∀ (x2 : Int32), zG P (zoI sz) (k51 x2) 51 [(0, .ref a0), (1, .int x1), (2, .int x2)] [] h sz 0 0) {rec : Int32 → Int32 → Option (Int32 × zHp)} (hrec : ∀ (x2 : Int32) (x3 : Int32), zG P (zoI sz) (rec x2 x3) 19 [(0, .ref a0), (1, .int x1), (2, .int x2), (3, .int x3)] [] h sz 0 0) : zG P (zoI sz) (j_X8_isRegionDeclared_43 k51 rec a0 x1 x3 s0 s1 h) 43 [(0, .ref a0), (1, .int x1), (3, .int x3)] [.int s1, .int s0] h sz 0 0 := by
  unfold j_X8_isRegionDeclared_43
  refine z_iadd C dX8_isRegionDeclared_43 ?_
  refine z_istore_nL C (fun v6 => [(0, .ref a0), (1, .int x1), (2, .int v6), (3, .int x3)]) dX8_isRegionDeclared_44 (by decide) (fun _ => rfl) (fun v6 => ?_)
  refine z_iincL C 3 (fun v7 => [(0, .ref a0), (1, .int x1), (2, .int v6), (3, .int v7)]) dX8_isRegionDeclared_45 rfl zi_1 (by decide) (fun _ => rfl) (fun v7 => ?_)
  refine z_goto C 19 dX8_isRegionDeclared_48 (by decide) ?_
  exact hrec _ _
noncomputable def b_X8_isRegionDeclared_19 (k51 : Int32 → Option (Int32 × zHp)) (a0 : Nat) (x1 : Int32) (h : zHp) (rec : Int32 → Int32 → Option (Int32 × zHp)) (x2 : Int32) (x3 : Int32) : Option (Int32 × zHp) :=
  (f_X8_many a0 (2 : Int32) h).bind fun v4 => if x3 < v4 then ((f_X8_isWardIn a0 x3 x1 h).bind fun v5 => if v5 = 0 then (j_X8_isRegionDeclared_43 k51 rec a0 x1 x3 x2 (0 : Int32) h) else j_X8_isRegionDeclared_43 k51 rec a0 x1 x3 x2 (1 : Int32) h) else k51 x2
noncomputable def l_X8_isRegionDeclared_19 (k51 : Int32 → Option (Int32 × zHp)) (a0 : Nat) (x1 : Int32) (h : zHp) (n : Nat) : Int32 → Int32 → Option (Int32 × zHp) :=
  Nat.rec (motive := fun _ => Int32 → Int32 → Option (Int32 × zHp)) (fun _ _ => none) (fun _ rec => b_X8_isRegionDeclared_19 k51 a0 x1 h rec) n
theorem l_X8_isRegionDeclared_19_s (k51 : Int32 → Option (Int32 × zHp)) (a0 : Nat) (x1 : Int32) (h : zHp) (n : Nat) (x2 : Int32) (x3 : Int32) : l_X8_isRegionDeclared_19 k51 a0 x1 h (n + 1) x2 x3 = b_X8_isRegionDeclared_19 k51 a0 x1 h (l_X8_isRegionDeclared_19 k51 a0 x1 h n) x2 x3 := rfl
set_option maxHeartbeats 4000000 in
set_option maxRecDepth 100000 in
theorem wl_X8_isRegionDeclared_19 {P : zX} {ro : Nat → Nat} {sz : Nat} (C : zC P cX8_isRegionDeclared RX8 (some .boolean) 4 0 0 4 ro) {a0 : Nat} {x1 : Int32} {h : zHp} {k51 : Int32 → Option (Int32 × zHp)} (hk51 : ∀ (x2 : Int32), zG P (zoI sz) (k51 x2) 51 [(0, .ref a0), (1, .int x1), (2, .int x2)] [] h sz 0 0) : ∀ (n : Nat) (x2 : Int32) (x3 : Int32), zG P (zoI sz) (l_X8_isRegionDeclared_19 k51 a0 x1 h n x2 x3) 19 [(0, .ref a0), (1, .int x1), (2, .int x2), (3, .int x3)] [] h sz 0 0 := by
  intro n
  induction n with
  | zero =>
    intro x2 x3
    show zG P (zoI sz) none _ _ _ _ _ _ _
    exact z_none
  | succ n ih =>
    intro x2 x3
    show zG P (zoI sz) (b_X8_isRegionDeclared_19 k51 a0 x1 h (l_X8_isRegionDeclared_19 k51 a0 x1 h n) x2 x3) _ _ _ _ _ _ _
    unfold b_X8_isRegionDeclared_19
    refine z_iload_n C dX8_isRegionDeclared_19 3 rfl ?_
    refine z_aload_n C dX8_isRegionDeclared_20 0 rfl ?_
    refine z_iconst C dX8_isRegionDeclared_21 zi_2 ?_
    refine z_callVp C zc_X8_44 [.int (2 : Int32)] (fun l D tc b0 r h => m_X8_many l D tc ro b0 h) dX8_isRegionDeclared_22 rfl rfl (Nat.le_of_ble_eq_true rfl) (by decide) (by decide) ⟨Nat.le_of_ble_eq_true rfl, Nat.le_of_ble_eq_true rfl⟩ (fun v4 => ?_)
    refine z_icmp_ge C 51 dX8_isRegionDeclared_25 (by decide) ?_ ?_
    · refine z_iload_n C dX8_isRegionDeclared_28 2 rfl ?_
      refine z_aload_n C dX8_isRegionDeclared_29 0 rfl ?_
      refine z_iload_n C dX8_isRegionDeclared_30 3 rfl ?_
      refine z_iload_n C dX8_isRegionDeclared_31 1 rfl ?_
      refine z_callVp C zc_X8_132 [.int x3, .int x1] (fun l D tc b0 r h => m_X8_isWardIn l D tc ro b0 h) dX8_isRegionDeclared_32 rfl rfl (Nat.le_of_ble_eq_true rfl) (by decide) (by decide) ⟨Nat.le_of_ble_eq_true rfl, Nat.le_of_ble_eq_true rfl⟩ (fun v5 => ?_)
      refine z_if_eq C 42 dX8_isRegionDeclared_35 (by decide) ?_ ?_
      · refine z_iconst C dX8_isRegionDeclared_42 zi_0 ?_
        exact z_sub [0, 1, 3] rfl (wj_X8_isRegionDeclared_43 C hk51 ih)
      refine z_iconst C dX8_isRegionDeclared_38 zi_1 ?_
      refine z_goto C 43 dX8_isRegionDeclared_39 (by decide) ?_
      exact z_sub [0, 1, 3] rfl (wj_X8_isRegionDeclared_43 C hk51 ih)
    exact z_sub [0, 1, 2] rfl (hk51 _)
noncomputable def f_X8_isRegionDeclared (a0 : Nat) (x1 : Int32) (hp : zHp) : Option (Int32 × zHp) :=
  (zis hp a0 8).bind fun _ => (f_X8_is a0 (1 : Int32) x1 hp).bind fun v1 => zb2 (f_X8_checks a0 v1 hp) fun v2 h3 => if v2 = 0 then (some ((0 : Int32), h3)) else l_X8_isRegionDeclared_19 (fun p8 => if 0 < p8 then ((f_X8_undeclared a0 x1 h3).bind fun v9 => if v9 = 0 then (some ((1 : Int32), h3)) else some ((0 : Int32), h3)) else some ((0 : Int32), h3)) a0 x1 h3 1000000 (0 : Int32) (0 : Int32)
set_option maxHeartbeats 4000000 in
set_option maxRecDepth 100000 in
theorem m_X8_isRegionDeclared (l : Launch) (D : va_G) (tc : Nat → ClassId) (ro : Nat → Nat) (b0 : Nat) {a0 : Nat} {x1 : Int32} {hp : zHp} {sz : Nat} {r : (Int32 × zHp)} (h : f_X8_isRegionDeclared a0 x1 hp = some r) : zis hp a0 8 = some () ∧ zM l yX8_isRegionDeclared cX8_isRegionDeclared 4 (some .boolean) 4 0 0 [.ref a0, .int x1] D tc ro b0 hp sz ((zoI sz) r).1 ((zoI sz) r).2.1 ((zoI sz) r).2.2 := by
  refine ⟨?_, z_start (o := (zoI sz)) (lv := [(0, .ref a0), (1, .int x1)]) h (by decide +kernel) RX8 rfl rfl (Nat.le_of_ble_eq_true rfl) (fun P C => ?_)⟩
  · unfold f_X8_isRegionDeclared at h
    cases hc : zis hp a0 8 with
    | none => rw [hc] at h; cases h
    | some u => rfl
  unfold f_X8_isRegionDeclared
  refine z_is ?_
  refine z_aload_n C dX8_isRegionDeclared_0 0 rfl ?_
  refine z_aload_n C dX8_isRegionDeclared_1 0 rfl ?_
  refine z_iconst C dX8_isRegionDeclared_2 zi_1 ?_
  refine z_iload_n C dX8_isRegionDeclared_3 1 rfl ?_
  refine z_callVp C zc_X8_255 [.int (1 : Int32), .int x1] (fun l D tc b0 r h => m_X8_is l D tc ro b0 h) dX8_isRegionDeclared_4 rfl rfl (Nat.le_of_ble_eq_true rfl) (by decide) (by decide) ⟨Nat.le_of_ble_eq_true rfl, Nat.le_of_ble_eq_true rfl⟩ (fun v1 => ?_)
  refine z_callVi C zc_X8_258 [.int v1] (fun l D tc b0 r h => m_X8_checks l D tc ro b0 h) dX8_isRegionDeclared_7 rfl rfl (Nat.le_of_ble_eq_true rfl) (by decide) (by decide) ⟨Nat.le_of_ble_eq_true rfl, Nat.le_of_ble_eq_true rfl⟩ (fun v2 h3 => ?_)
  refine z_if_ne C 15 dX8_isRegionDeclared_10 (by decide) ?_ ?_
  · refine z_iconst C dX8_isRegionDeclared_13 zi_0 ?_
    exact z_kreturn C rfl dX8_isRegionDeclared_14
  refine z_iconst C dX8_isRegionDeclared_15 zi_0 ?_
  refine z_istore_n (lv' := [(0, .ref a0), (1, .int x1), (2, .int (0 : Int32))]) C dX8_isRegionDeclared_16 (by decide) rfl ?_
  refine z_iconst C dX8_isRegionDeclared_17 zi_0 ?_
  refine z_istore_n (lv' := [(0, .ref a0), (1, .int x1), (2, .int (0 : Int32)), (3, .int (0 : Int32))]) C dX8_isRegionDeclared_18 (by decide) rfl ?_
  refine wl_X8_isRegionDeclared_19 C (fun p8 => ?_) _ _ _
  refine z_iload_n C dX8_isRegionDeclared_51 2 rfl ?_
  refine z_if_le C 67 dX8_isRegionDeclared_52 (by decide) ?_ ?_
  · refine z_aload_n C dX8_isRegionDeclared_55 0 rfl ?_
    refine z_iload_n C dX8_isRegionDeclared_56 1 rfl ?_
    refine z_callVp C zc_X8_295 [.int x1] (fun l D tc b0 r h => m_X8_undeclared l D tc ro b0 h) dX8_isRegionDeclared_57 rfl rfl (Nat.le_of_ble_eq_true rfl) (by decide) (by decide) ⟨Nat.le_of_ble_eq_true rfl, Nat.le_of_ble_eq_true rfl⟩ (fun v9 => ?_)
    refine z_if_ne C 67 dX8_isRegionDeclared_60 (by decide) ?_ ?_
    · refine z_iconst C dX8_isRegionDeclared_63 zi_1 ?_
      refine z_goto C 68 dX8_isRegionDeclared_64 (by decide) ?_
      exact z_kreturn C rfl dX8_isRegionDeclared_68
    refine z_iconst C dX8_isRegionDeclared_67 zi_0 ?_
    exact z_kreturn C rfl dX8_isRegionDeclared_68
  refine z_iconst C dX8_isRegionDeclared_67 zi_0 ?_
  exact z_kreturn C rfl dX8_isRegionDeclared_68
noncomputable def j_X8_regionVotes_73 (k81 : Int32 → Option (Int32 × zHp)) (rec : Int32 → Int32 → Option (Int32 × zHp)) (a0 : Nat) (x1 : Int32) (x2 : Int32) (x4 : Int32) (s0 : Int32) (s1 : Int32) (h : zHp) : Option (Int32 × zHp) :=
  zlet (s0 + s1) fun v7 => zlet (x4 + (1 : Int32)) fun v8 => rec v7 v8
set_option maxHeartbeats 4000000 in
set_option maxRecDepth 100000 in
theorem wj_X8_regionVotes_73 {P : zX} {ro : Nat → Nat} {sz : Nat} (C : zC P cX8_regionVotes RX8 (some .int) 7 0 0 5 ro) {a0 : Nat} {x1 : Int32} {x2 : Int32} {x4 : Int32} {s0 : Int32} {s1 : Int32} {h : zHp} {k81 : Int32 → Option (Int32 × zHp)} (hk81 : ∀ (x3 : Int32), zG P (zoI sz) (k81 x3) 81 [(3, .int x3)] [] h sz 0 0) {rec : Int32 → Int32 → Option (Int32 × zHp)} (hrec : ∀ (x3 : Int32) (x4 : Int32), zG P (zoI sz) (rec x3 x4) 32 [(0, .ref a0), (1, .int x1), (2, .int x2), (3, .int x3), (4, .int x4)] [] h sz 0 0) : zG P (zoI sz) (j_X8_regionVotes_73 k81 rec a0 x1 x2 x4 s0 s1 h) 73 [(0, .ref a0), (1, .int x1), (2, .int x2), (4, .int x4)] [.int s1, .int s0] h sz 0 0 := by
  unfold j_X8_regionVotes_73
  refine z_iadd C dX8_regionVotes_73 ?_
  refine z_istore_nL C (fun v7 => [(0, .ref a0), (1, .int x1), (2, .int x2), (3, .int v7), (4, .int x4)]) dX8_regionVotes_74 (by decide) (fun _ => rfl) (fun v7 => ?_)
  refine z_iincL C 4 (fun v8 => [(0, .ref a0), (1, .int x1), (2, .int x2), (3, .int v7), (4, .int v8)]) dX8_regionVotes_75 rfl zi_1 (by decide) (fun _ => rfl) (fun v8 => ?_)
  refine z_goto C 32 dX8_regionVotes_78 (by decide) ?_
  exact hrec _ _
noncomputable def j_X8_regionVotes_72 (k81 : Int32 → Option (Int32 × zHp)) (rec : Int32 → Int32 → Option (Int32 × zHp)) (a0 : Nat) (x1 : Int32) (x2 : Int32) (x4 : Int32) (s0 : Int32) (h : zHp) : Option (Int32 × zHp) :=
  j_X8_regionVotes_73 k81 rec a0 x1 x2 x4 s0 (0 : Int32) h
set_option maxHeartbeats 4000000 in
set_option maxRecDepth 100000 in
theorem wj_X8_regionVotes_72 {P : zX} {ro : Nat → Nat} {sz : Nat} (C : zC P cX8_regionVotes RX8 (some .int) 7 0 0 5 ro) {a0 : Nat} {x1 : Int32} {x2 : Int32} {x4 : Int32} {s0 : Int32} {h : zHp} {k81 : Int32 → Option (Int32 × zHp)} (hk81 : ∀ (x3 : Int32), zG P (zoI sz) (k81 x3) 81 [(3, .int x3)] [] h sz 0 0) {rec : Int32 → Int32 → Option (Int32 × zHp)} (hrec : ∀ (x3 : Int32) (x4 : Int32), zG P (zoI sz) (rec x3 x4) 32 [(0, .ref a0), (1, .int x1), (2, .int x2), (3, .int x3), (4, .int x4)] [] h sz 0 0) : zG P (zoI sz) (j_X8_regionVotes_72 k81 rec a0 x1 x2 x4 s0 h) 72 [(0, .ref a0), (1, .int x1), (2, .int x2), (4, .int x4)] [.int s0] h sz 0 0 := by
  unfold j_X8_regionVotes_72
  refine z_iconst C dX8_regionVotes_72 zi_0 ?_
  exact wj_X8_regionVotes_73 C hk81 hrec
noncomputable def b_X8_regionVotes_32 (k81 : Int32 → Option (Int32 × zHp)) (a0 : Nat) (x1 : Int32) (x2 : Int32) (h : zHp) (rec : Int32 → Int32 → Option (Int32 × zHp)) (x3 : Int32) (x4 : Int32) : Option (Int32 × zHp) :=
  (f_X8_many a0 (2 : Int32) h).bind fun v5 => if x4 < v5 then ((f_X8_isWardIn a0 x4 x1 h).bind fun v6 => if v6 = 0 then (j_X8_regionVotes_72 k81 rec a0 x1 x2 x4 x3 h) else (f_X8_isDeclared a0 x4 h).bind fun v9 => if v9 = 0 then (j_X8_regionVotes_72 k81 rec a0 x1 x2 x4 x3 h) else (f_X8_votes a0 x4 x2 h).bind fun v10 => j_X8_regionVotes_73 k81 rec a0 x1 x2 x4 x3 v10 h) else k81 x3
noncomputable def l_X8_regionVotes_32 (k81 : Int32 → Option (Int32 × zHp)) (a0 : Nat) (x1 : Int32) (x2 : Int32) (h : zHp) (n : Nat) : Int32 → Int32 → Option (Int32 × zHp) :=
  Nat.rec (motive := fun _ => Int32 → Int32 → Option (Int32 × zHp)) (fun _ _ => none) (fun _ rec => b_X8_regionVotes_32 k81 a0 x1 x2 h rec) n
theorem l_X8_regionVotes_32_s (k81 : Int32 → Option (Int32 × zHp)) (a0 : Nat) (x1 : Int32) (x2 : Int32) (h : zHp) (n : Nat) (x3 : Int32) (x4 : Int32) : l_X8_regionVotes_32 k81 a0 x1 x2 h (n + 1) x3 x4 = b_X8_regionVotes_32 k81 a0 x1 x2 h (l_X8_regionVotes_32 k81 a0 x1 x2 h n) x3 x4 := rfl
set_option maxHeartbeats 4000000 in
set_option maxRecDepth 100000 in
theorem wl_X8_regionVotes_32 {P : zX} {ro : Nat → Nat} {sz : Nat} (C : zC P cX8_regionVotes RX8 (some .int) 7 0 0 5 ro) {a0 : Nat} {x1 : Int32} {x2 : Int32} {h : zHp} {k81 : Int32 → Option (Int32 × zHp)} (hk81 : ∀ (x3 : Int32), zG P (zoI sz) (k81 x3) 81 [(3, .int x3)] [] h sz 0 0) : ∀ (n : Nat) (x3 : Int32) (x4 : Int32), zG P (zoI sz) (l_X8_regionVotes_32 k81 a0 x1 x2 h n x3 x4) 32 [(0, .ref a0), (1, .int x1), (2, .int x2), (3, .int x3), (4, .int x4)] [] h sz 0 0 := by
  intro n
  induction n with
  | zero =>
    intro x3 x4
    show zG P (zoI sz) none _ _ _ _ _ _ _
    exact z_none
  | succ n ih =>
    intro x3 x4
    show zG P (zoI sz) (b_X8_regionVotes_32 k81 a0 x1 x2 h (l_X8_regionVotes_32 k81 a0 x1 x2 h n) x3 x4) _ _ _ _ _ _ _
    unfold b_X8_regionVotes_32
    refine z_iload C dX8_regionVotes_32 4 rfl ?_
    refine z_aload_n C dX8_regionVotes_34 0 rfl ?_
    refine z_iconst C dX8_regionVotes_35 zi_2 ?_
    refine z_callVp C zc_X8_44 [.int (2 : Int32)] (fun l D tc b0 r h => m_X8_many l D tc ro b0 h) dX8_regionVotes_36 rfl rfl (Nat.le_of_ble_eq_true rfl) (by decide) (by decide) ⟨Nat.le_of_ble_eq_true rfl, Nat.le_of_ble_eq_true rfl⟩ (fun v5 => ?_)
    refine z_icmp_ge C 81 dX8_regionVotes_39 (by decide) ?_ ?_
    · refine z_iload_n C dX8_regionVotes_42 3 rfl ?_
      refine z_aload_n C dX8_regionVotes_43 0 rfl ?_
      refine z_iload C dX8_regionVotes_44 4 rfl ?_
      refine z_iload_n C dX8_regionVotes_46 1 rfl ?_
      refine z_callVp C zc_X8_132 [.int x4, .int x1] (fun l D tc b0 r h => m_X8_isWardIn l D tc ro b0 h) dX8_regionVotes_47 rfl rfl (Nat.le_of_ble_eq_true rfl) (by decide) (by decide) ⟨Nat.le_of_ble_eq_true rfl, Nat.le_of_ble_eq_true rfl⟩ (fun v6 => ?_)
      refine z_if_eq C 72 dX8_regionVotes_50 (by decide) ?_ ?_
      · exact z_sub [0, 1, 2, 4] rfl (wj_X8_regionVotes_72 C hk81 ih)
      refine z_aload_n C dX8_regionVotes_53 0 rfl ?_
      refine z_iload C dX8_regionVotes_54 4 rfl ?_
      refine z_callVp C zc_X8_109 [.int x4] (fun l D tc b0 r h => m_X8_isDeclared l D tc ro b0 h) dX8_regionVotes_56 rfl rfl (Nat.le_of_ble_eq_true rfl) (by decide) (by decide) ⟨Nat.le_of_ble_eq_true rfl, Nat.le_of_ble_eq_true rfl⟩ (fun v9 => ?_)
      refine z_if_eq C 72 dX8_regionVotes_59 (by decide) ?_ ?_
      · exact z_sub [0, 1, 2, 4] rfl (wj_X8_regionVotes_72 C hk81 ih)
      refine z_aload_n C dX8_regionVotes_62 0 rfl ?_
      refine z_iload C dX8_regionVotes_63 4 rfl ?_
      refine z_iload_n C dX8_regionVotes_65 2 rfl ?_
      refine z_callVp C zc_X8_91 [.int x4, .int x2] (fun l D tc b0 r h => m_X8_votes l D tc ro b0 h) dX8_regionVotes_66 rfl rfl (Nat.le_of_ble_eq_true rfl) (by decide) (by decide) ⟨Nat.le_of_ble_eq_true rfl, Nat.le_of_ble_eq_true rfl⟩ (fun v10 => ?_)
      refine z_goto C 73 dX8_regionVotes_69 (by decide) ?_
      exact z_sub [0, 1, 2, 4] rfl (wj_X8_regionVotes_73 C hk81 ih)
    exact z_sub [3] rfl (hk81 _)
noncomputable def f_X8_regionVotes (a0 : Nat) (x1 : Int32) (x2 : Int32) (hp : zHp) : Option (Int32 × zHp) :=
  (zis hp a0 8).bind fun _ => (f_X8_is a0 (1 : Int32) x1 hp).bind fun v1 => zb2 (f_X8_checks a0 v1 hp) fun v2 h3 => if v2 = 0 then (some ((0 : Int32), h3)) else (f_X8_is a0 (0 : Int32) x2 h3).bind fun v4 => if v4 = 0 then (some ((-2 : Int32), h3)) else l_X8_regionVotes_32 (fun p11 => some (p11, h3)) a0 x1 x2 h3 1000000 (0 : Int32) (0 : Int32)
set_option maxHeartbeats 4000000 in
set_option maxRecDepth 100000 in
theorem m_X8_regionVotes (l : Launch) (D : va_G) (tc : Nat → ClassId) (ro : Nat → Nat) (b0 : Nat) {a0 : Nat} {x1 : Int32} {x2 : Int32} {hp : zHp} {sz : Nat} {r : (Int32 × zHp)} (h : f_X8_regionVotes a0 x1 x2 hp = some r) : zis hp a0 8 = some () ∧ zM l yX8_regionVotes cX8_regionVotes 5 (some .int) 7 0 0 [.ref a0, .int x1, .int x2] D tc ro b0 hp sz ((zoI sz) r).1 ((zoI sz) r).2.1 ((zoI sz) r).2.2 := by
  refine ⟨?_, z_start (o := (zoI sz)) (lv := [(0, .ref a0), (1, .int x1), (2, .int x2)]) h (by decide +kernel) RX8 rfl rfl (Nat.le_of_ble_eq_true rfl) (fun P C => ?_)⟩
  · unfold f_X8_regionVotes at h
    cases hc : zis hp a0 8 with
    | none => rw [hc] at h; cases h
    | some u => rfl
  unfold f_X8_regionVotes
  refine z_is ?_
  refine z_aload_n C dX8_regionVotes_0 0 rfl ?_
  refine z_aload_n C dX8_regionVotes_1 0 rfl ?_
  refine z_iconst C dX8_regionVotes_2 zi_1 ?_
  refine z_iload_n C dX8_regionVotes_3 1 rfl ?_
  refine z_callVp C zc_X8_255 [.int (1 : Int32), .int x1] (fun l D tc b0 r h => m_X8_is l D tc ro b0 h) dX8_regionVotes_4 rfl rfl (Nat.le_of_ble_eq_true rfl) (by decide) (by decide) ⟨Nat.le_of_ble_eq_true rfl, Nat.le_of_ble_eq_true rfl⟩ (fun v1 => ?_)
  refine z_callVi C zc_X8_258 [.int v1] (fun l D tc b0 r h => m_X8_checks l D tc ro b0 h) dX8_regionVotes_7 rfl rfl (Nat.le_of_ble_eq_true rfl) (by decide) (by decide) ⟨Nat.le_of_ble_eq_true rfl, Nat.le_of_ble_eq_true rfl⟩ (fun v2 h3 => ?_)
  refine z_if_ne C 15 dX8_regionVotes_10 (by decide) ?_ ?_
  · refine z_iconst C dX8_regionVotes_13 zi_0 ?_
    exact z_ireturn C dX8_regionVotes_14
  refine z_aload_n C dX8_regionVotes_15 0 rfl ?_
  refine z_iconst C dX8_regionVotes_16 zi_0 ?_
  refine z_iload_n C dX8_regionVotes_17 2 rfl ?_
  refine z_callVp C zc_X8_255 [.int (0 : Int32), .int x2] (fun l D tc b0 r h => m_X8_is l D tc ro b0 h) dX8_regionVotes_18 rfl rfl (Nat.le_of_ble_eq_true rfl) (by decide) (by decide) ⟨Nat.le_of_ble_eq_true rfl, Nat.le_of_ble_eq_true rfl⟩ (fun v4 => ?_)
  refine z_if_ne C 27 dX8_regionVotes_21 (by decide) ?_ ?_
  · refine z_bipush C dX8_regionVotes_24 zbi_m2 ?_
    exact z_ireturn C dX8_regionVotes_26
  refine z_iconst C dX8_regionVotes_27 zi_0 ?_
  refine z_istore_n (lv' := [(0, .ref a0), (1, .int x1), (2, .int x2), (3, .int (0 : Int32))]) C dX8_regionVotes_28 (by decide) rfl ?_
  refine z_iconst C dX8_regionVotes_29 zi_0 ?_
  refine z_istore (lv' := [(0, .ref a0), (1, .int x1), (2, .int x2), (3, .int (0 : Int32)), (4, .int (0 : Int32))]) C dX8_regionVotes_30 (by decide) rfl ?_
  refine wl_X8_regionVotes_32 C (fun p11 => ?_) _ _ _
  refine z_iload_n C dX8_regionVotes_81 0 rfl ?_
  exact z_ireturn C dX8_regionVotes_82
noncomputable def f_X8_regionSeats (a0 : Nat) (x1 : Int32) (x2 : Int32) (hp : zHp) : Option (Int32 × zHp) :=
  (zis hp a0 8).bind fun _ => (f_X8_is a0 (1 : Int32) x1 hp).bind fun v1 => zb2 (f_X8_checks a0 v1 hp) fun v2 h3 => if v2 = 0 then (some ((0 : Int32), h3)) else (f_X8_is a0 (0 : Int32) x2 h3).bind fun v4 => if v4 = 0 then (some ((-2 : Int32), h3)) else (f_X8_seats a0 x1 x2 h3).bind fun v5 => some (v5, h3)
set_option maxHeartbeats 4000000 in
set_option maxRecDepth 100000 in
theorem m_X8_regionSeats (l : Launch) (D : va_G) (tc : Nat → ClassId) (ro : Nat → Nat) (b0 : Nat) {a0 : Nat} {x1 : Int32} {x2 : Int32} {hp : zHp} {sz : Nat} {r : (Int32 × zHp)} (h : f_X8_regionSeats a0 x1 x2 hp = some r) : zis hp a0 8 = some () ∧ zM l yX8_regionSeats cX8_regionSeats 3 (some .int) 9 0 0 [.ref a0, .int x1, .int x2] D tc ro b0 hp sz ((zoI sz) r).1 ((zoI sz) r).2.1 ((zoI sz) r).2.2 := by
  refine ⟨?_, z_start (o := (zoI sz)) (lv := [(0, .ref a0), (1, .int x1), (2, .int x2)]) h (by decide +kernel) RX8 rfl rfl (Nat.le_of_ble_eq_true rfl) (fun P C => ?_)⟩
  · unfold f_X8_regionSeats at h
    cases hc : zis hp a0 8 with
    | none => rw [hc] at h; cases h
    | some u => rfl
  unfold f_X8_regionSeats
  refine z_is ?_
  refine z_aload_n C dX8_regionSeats_0 0 rfl ?_
  refine z_aload_n C dX8_regionSeats_1 0 rfl ?_
  refine z_iconst C dX8_regionSeats_2 zi_1 ?_
  refine z_iload_n C dX8_regionSeats_3 1 rfl ?_
  refine z_callVp C zc_X8_255 [.int (1 : Int32), .int x1] (fun l D tc b0 r h => m_X8_is l D tc ro b0 h) dX8_regionSeats_4 rfl rfl (Nat.le_of_ble_eq_true rfl) (by decide) (by decide) ⟨Nat.le_of_ble_eq_true rfl, Nat.le_of_ble_eq_true rfl⟩ (fun v1 => ?_)
  refine z_callVi C zc_X8_258 [.int v1] (fun l D tc b0 r h => m_X8_checks l D tc ro b0 h) dX8_regionSeats_7 rfl rfl (Nat.le_of_ble_eq_true rfl) (by decide) (by decide) ⟨Nat.le_of_ble_eq_true rfl, Nat.le_of_ble_eq_true rfl⟩ (fun v2 h3 => ?_)
  refine z_if_ne C 15 dX8_regionSeats_10 (by decide) ?_ ?_
  · refine z_iconst C dX8_regionSeats_13 zi_0 ?_
    exact z_ireturn C dX8_regionSeats_14
  refine z_aload_n C dX8_regionSeats_15 0 rfl ?_
  refine z_iconst C dX8_regionSeats_16 zi_0 ?_
  refine z_iload_n C dX8_regionSeats_17 2 rfl ?_
  refine z_callVp C zc_X8_255 [.int (0 : Int32), .int x2] (fun l D tc b0 r h => m_X8_is l D tc ro b0 h) dX8_regionSeats_18 rfl rfl (Nat.le_of_ble_eq_true rfl) (by decide) (by decide) ⟨Nat.le_of_ble_eq_true rfl, Nat.le_of_ble_eq_true rfl⟩ (fun v4 => ?_)
  refine z_if_eq C 33 dX8_regionSeats_21 (by decide) ?_ ?_
  · refine z_bipush C dX8_regionSeats_33 zbi_m2 ?_
    exact z_ireturn C dX8_regionSeats_35
  refine z_aload_n C dX8_regionSeats_24 0 rfl ?_
  refine z_iload_n C dX8_regionSeats_25 1 rfl ?_
  refine z_iload_n C dX8_regionSeats_26 2 rfl ?_
  refine z_callVp C zc_X8_298 [.int x1, .int x2] (fun l D tc b0 r h => m_X8_seats l D tc ro b0 h) dX8_regionSeats_27 rfl rfl (Nat.le_of_ble_eq_true rfl) (by decide) (by decide) ⟨Nat.le_of_ble_eq_true rfl, Nat.le_of_ble_eq_true rfl⟩ (fun v5 => ?_)
  refine z_goto C 35 dX8_regionSeats_30 (by decide) ?_
  exact z_ireturn C dX8_regionSeats_35
noncomputable def b_X8_isBeyond_2 (k37 : Option Int32) (k45 : Option Int32) (a0 : Nat) (x1 : Int32) (x2 : Int32) (hp : zHp) (rec : Int32 → Option Int32) (x3 : Int32) : Option Int32 :=
  (f_X8_many a0 (0 : Int32) hp).bind fun v1 => if x3 < v1 then (if x3 = x2 then (zlet (x3 + (1 : Int32)) fun v2 => rec v2) else (f_X8_seats a0 x1 x3 hp).bind fun v3 => (f_X8_undeclared a0 x1 hp).bind fun v4 => (f_X8_seats a0 x1 x2 hp).bind fun v5 => if (v3 + v4) < v5 then (zlet (x3 + (1 : Int32)) fun v6 => rec v6) else k37) else k45
noncomputable def l_X8_isBeyond_2 (k37 : Option Int32) (k45 : Option Int32) (a0 : Nat) (x1 : Int32) (x2 : Int32) (hp : zHp) (n : Nat) : Int32 → Option Int32 :=
  Nat.rec (motive := fun _ => Int32 → Option Int32) (fun _ => none) (fun _ rec => b_X8_isBeyond_2 k37 k45 a0 x1 x2 hp rec) n
theorem l_X8_isBeyond_2_s (k37 : Option Int32) (k45 : Option Int32) (a0 : Nat) (x1 : Int32) (x2 : Int32) (hp : zHp) (n : Nat) (x3 : Int32) : l_X8_isBeyond_2 k37 k45 a0 x1 x2 hp (n + 1) x3 = b_X8_isBeyond_2 k37 k45 a0 x1 x2 hp (l_X8_isBeyond_2 k37 k45 a0 x1 x2 hp n) x3 := rfl
set_option maxHeartbeats 4000000 in
set_option maxRecDepth 100000 in
theorem wl_X8_isBeyond_2 {P : zX} {ro : Nat → Nat} {sz : Nat} (C : zC P cX8_isBeyond RX8 (some .boolean) 9 0 0 4 ro) {a0 : Nat} {x1 : Int32} {x2 : Int32} {hp : zHp} {k37 : Option Int32} (hk37 : zG P (zoP sz hp) (k37) 37 [] [] hp sz 0 0) {k45 : Option Int32} (hk45 : zG P (zoP sz hp) (k45) 45 [] [] hp sz 0 0) : ∀ (n : Nat) (x3 : Int32), zG P (zoP sz hp) (l_X8_isBeyond_2 k37 k45 a0 x1 x2 hp n x3) 2 [(0, .ref a0), (1, .int x1), (2, .int x2), (3, .int x3)] [] hp sz 0 0 := by
  intro n
  induction n with
  | zero =>
    intro x3
    show zG P (zoP sz hp) none _ _ _ _ _ _ _
    exact z_none
  | succ n ih =>
    intro x3
    show zG P (zoP sz hp) (b_X8_isBeyond_2 k37 k45 a0 x1 x2 hp (l_X8_isBeyond_2 k37 k45 a0 x1 x2 hp n) x3) _ _ _ _ _ _ _
    unfold b_X8_isBeyond_2
    refine z_iload_n C dX8_isBeyond_2 3 rfl ?_
    refine z_aload_n C dX8_isBeyond_3 0 rfl ?_
    refine z_iconst C dX8_isBeyond_4 zi_0 ?_
    refine z_callVp C zc_X8_44 [.int (0 : Int32)] (fun l D tc b0 r h => m_X8_many l D tc ro b0 h) dX8_isBeyond_5 rfl rfl (Nat.le_of_ble_eq_true rfl) (by decide) (by decide) ⟨Nat.le_of_ble_eq_true rfl, Nat.le_of_ble_eq_true rfl⟩ (fun v1 => ?_)
    refine z_icmp_ge C 45 dX8_isBeyond_8 (by decide) ?_ ?_
    · refine z_iload_n C dX8_isBeyond_11 3 rfl ?_
      refine z_iload_n C dX8_isBeyond_12 2 rfl ?_
      refine z_icmp_eq C 39 dX8_isBeyond_13 (by decide) ?_ ?_
      · refine z_iincL C 3 (fun v2 => [(0, .ref a0), (1, .int x1), (2, .int x2), (3, .int v2)]) dX8_isBeyond_39 rfl zi_1 (by decide) (fun _ => rfl) (fun v2 => ?_)
        refine z_goto C 2 dX8_isBeyond_42 (by decide) ?_
        exact ih _
      refine z_aload_n C dX8_isBeyond_16 0 rfl ?_
      refine z_iload_n C dX8_isBeyond_17 1 rfl ?_
      refine z_iload_n C dX8_isBeyond_18 3 rfl ?_
      refine z_callVp C zc_X8_298 [.int x1, .int x3] (fun l D tc b0 r h => m_X8_seats l D tc ro b0 h) dX8_isBeyond_19 rfl rfl (Nat.le_of_ble_eq_true rfl) (by decide) (by decide) ⟨Nat.le_of_ble_eq_true rfl, Nat.le_of_ble_eq_true rfl⟩ (fun v3 => ?_)
      refine z_aload_n C dX8_isBeyond_22 0 rfl ?_
      refine z_iload_n C dX8_isBeyond_23 1 rfl ?_
      refine z_callVp C zc_X8_295 [.int x1] (fun l D tc b0 r h => m_X8_undeclared l D tc ro b0 h) dX8_isBeyond_24 rfl rfl (Nat.le_of_ble_eq_true rfl) (by decide) (by decide) ⟨Nat.le_of_ble_eq_true rfl, Nat.le_of_ble_eq_true rfl⟩ (fun v4 => ?_)
      refine z_iadd C dX8_isBeyond_27 ?_
      refine z_aload_n C dX8_isBeyond_28 0 rfl ?_
      refine z_iload_n C dX8_isBeyond_29 1 rfl ?_
      refine z_iload_n C dX8_isBeyond_30 2 rfl ?_
      refine z_callVp C zc_X8_298 [.int x1, .int x2] (fun l D tc b0 r h => m_X8_seats l D tc ro b0 h) dX8_isBeyond_31 rfl rfl (Nat.le_of_ble_eq_true rfl) (by decide) (by decide) ⟨Nat.le_of_ble_eq_true rfl, Nat.le_of_ble_eq_true rfl⟩ (fun v5 => ?_)
      refine z_icmp_lt C 39 dX8_isBeyond_34 (by decide) ?_ ?_
      · refine z_iincL C 3 (fun v6 => [(0, .ref a0), (1, .int x1), (2, .int x2), (3, .int v6)]) dX8_isBeyond_39 rfl zi_1 (by decide) (fun _ => rfl) (fun v6 => ?_)
        refine z_goto C 2 dX8_isBeyond_42 (by decide) ?_
        exact ih _
      exact z_sub [] rfl (hk37)
    exact z_sub [] rfl (hk45)
noncomputable def f_X8_isBeyond (a0 : Nat) (x1 : Int32) (x2 : Int32) (hp : zHp) : Option Int32 :=
  (zis hp a0 8).bind fun _ => l_X8_isBeyond_2 (some (0 : Int32)) (some (1 : Int32)) a0 x1 x2 hp 1000000 (0 : Int32)
set_option maxHeartbeats 4000000 in
set_option maxRecDepth 100000 in
theorem m_X8_isBeyond (l : Launch) (D : va_G) (tc : Nat → ClassId) (ro : Nat → Nat) (b0 : Nat) {a0 : Nat} {x1 : Int32} {x2 : Int32} {hp : zHp} {sz : Nat} {r : Int32} (h : f_X8_isBeyond a0 x1 x2 hp = some r) : zis hp a0 8 = some () ∧ zM l yX8_isBeyond cX8_isBeyond 4 (some .boolean) 9 0 0 [.ref a0, .int x1, .int x2] D tc ro b0 hp sz ((zoP sz hp) r).1 ((zoP sz hp) r).2.1 ((zoP sz hp) r).2.2 := by
  refine ⟨?_, z_start (o := (zoP sz hp)) (lv := [(0, .ref a0), (1, .int x1), (2, .int x2)]) h (by decide +kernel) RX8 rfl rfl (Nat.le_of_ble_eq_true rfl) (fun P C => ?_)⟩
  · unfold f_X8_isBeyond at h
    cases hc : zis hp a0 8 with
    | none => rw [hc] at h; cases h
    | some u => rfl
  unfold f_X8_isBeyond
  refine z_is ?_
  refine z_iconst C dX8_isBeyond_0 zi_0 ?_
  refine z_istore_n (lv' := [(0, .ref a0), (1, .int x1), (2, .int x2), (3, .int (0 : Int32))]) C dX8_isBeyond_1 (by decide) rfl ?_
  refine wl_X8_isBeyond_2 C ?_ ?_ _ _
  · refine z_iconst C dX8_isBeyond_37 zi_0 ?_
    exact z_kreturnP C rfl dX8_isBeyond_38
  refine z_iconst C dX8_isBeyond_45 zi_1 ?_
  exact z_kreturnP C rfl dX8_isBeyond_46
noncomputable def b_X8_isDecided_17 (k35 : Option (Int32 × zHp)) (k43 : Option (Int32 × zHp)) (a0 : Nat) (x1 : Int32) (h : zHp) (rec : Int32 → Option (Int32 × zHp)) (x2 : Int32) : Option (Int32 × zHp) :=
  (f_X8_many a0 (0 : Int32) h).bind fun v4 => if x2 < v4 then ((f_X8_isBeyond a0 x1 x2 h).bind fun v5 => if v5 = 0 then (zlet (x2 + (1 : Int32)) fun v6 => rec v6) else k35) else k43
noncomputable def l_X8_isDecided_17 (k35 : Option (Int32 × zHp)) (k43 : Option (Int32 × zHp)) (a0 : Nat) (x1 : Int32) (h : zHp) (n : Nat) : Int32 → Option (Int32 × zHp) :=
  Nat.rec (motive := fun _ => Int32 → Option (Int32 × zHp)) (fun _ => none) (fun _ rec => b_X8_isDecided_17 k35 k43 a0 x1 h rec) n
theorem l_X8_isDecided_17_s (k35 : Option (Int32 × zHp)) (k43 : Option (Int32 × zHp)) (a0 : Nat) (x1 : Int32) (h : zHp) (n : Nat) (x2 : Int32) : l_X8_isDecided_17 k35 k43 a0 x1 h (n + 1) x2 = b_X8_isDecided_17 k35 k43 a0 x1 h (l_X8_isDecided_17 k35 k43 a0 x1 h n) x2 := rfl
set_option maxHeartbeats 4000000 in
set_option maxRecDepth 100000 in
theorem wl_X8_isDecided_17 {P : zX} {ro : Nat → Nat} {sz : Nat} (C : zC P cX8_isDecided RX8 (some .boolean) 10 0 0 3 ro) {a0 : Nat} {x1 : Int32} {h : zHp} {k35 : Option (Int32 × zHp)} (hk35 : zG P (zoI sz) (k35) 35 [] [] h sz 0 0) {k43 : Option (Int32 × zHp)} (hk43 : zG P (zoI sz) (k43) 43 [] [] h sz 0 0) : ∀ (n : Nat) (x2 : Int32), zG P (zoI sz) (l_X8_isDecided_17 k35 k43 a0 x1 h n x2) 17 [(0, .ref a0), (1, .int x1), (2, .int x2)] [] h sz 0 0 := by
  intro n
  induction n with
  | zero =>
    intro x2
    show zG P (zoI sz) none _ _ _ _ _ _ _
    exact z_none
  | succ n ih =>
    intro x2
    show zG P (zoI sz) (b_X8_isDecided_17 k35 k43 a0 x1 h (l_X8_isDecided_17 k35 k43 a0 x1 h n) x2) _ _ _ _ _ _ _
    unfold b_X8_isDecided_17
    refine z_iload_n C dX8_isDecided_17 2 rfl ?_
    refine z_aload_n C dX8_isDecided_18 0 rfl ?_
    refine z_iconst C dX8_isDecided_19 zi_0 ?_
    refine z_callVp C zc_X8_44 [.int (0 : Int32)] (fun l D tc b0 r h => m_X8_many l D tc ro b0 h) dX8_isDecided_20 rfl rfl (Nat.le_of_ble_eq_true rfl) (by decide) (by decide) ⟨Nat.le_of_ble_eq_true rfl, Nat.le_of_ble_eq_true rfl⟩ (fun v4 => ?_)
    refine z_icmp_ge C 43 dX8_isDecided_23 (by decide) ?_ ?_
    · refine z_aload_n C dX8_isDecided_26 0 rfl ?_
      refine z_iload_n C dX8_isDecided_27 1 rfl ?_
      refine z_iload_n C dX8_isDecided_28 2 rfl ?_
      refine z_callVp C zc_X8_301 [.int x1, .int x2] (fun l D tc b0 r h => m_X8_isBeyond l D tc ro b0 h) dX8_isDecided_29 rfl rfl (Nat.le_of_ble_eq_true rfl) (by decide) (by decide) ⟨Nat.le_of_ble_eq_true rfl, Nat.le_of_ble_eq_true rfl⟩ (fun v5 => ?_)
      refine z_if_eq C 37 dX8_isDecided_32 (by decide) ?_ ?_
      · refine z_iincL C 2 (fun v6 => [(0, .ref a0), (1, .int x1), (2, .int v6)]) dX8_isDecided_37 rfl zi_1 (by decide) (fun _ => rfl) (fun v6 => ?_)
        refine z_goto C 17 dX8_isDecided_40 (by decide) ?_
        exact ih _
      exact z_sub [] rfl (hk35)
    exact z_sub [] rfl (hk43)
noncomputable def f_X8_isDecided (a0 : Nat) (x1 : Int32) (hp : zHp) : Option (Int32 × zHp) :=
  (zis hp a0 8).bind fun _ => (f_X8_is a0 (1 : Int32) x1 hp).bind fun v1 => zb2 (f_X8_checks a0 v1 hp) fun v2 h3 => if v2 = 0 then (some ((0 : Int32), h3)) else l_X8_isDecided_17 (some ((1 : Int32), h3)) (some ((0 : Int32), h3)) a0 x1 h3 1000000 (0 : Int32)
set_option maxHeartbeats 4000000 in
set_option maxRecDepth 100000 in
theorem m_X8_isDecided (l : Launch) (D : va_G) (tc : Nat → ClassId) (ro : Nat → Nat) (b0 : Nat) {a0 : Nat} {x1 : Int32} {hp : zHp} {sz : Nat} {r : (Int32 × zHp)} (h : f_X8_isDecided a0 x1 hp = some r) : zis hp a0 8 = some () ∧ zM l yX8_isDecided cX8_isDecided 3 (some .boolean) 10 0 0 [.ref a0, .int x1] D tc ro b0 hp sz ((zoI sz) r).1 ((zoI sz) r).2.1 ((zoI sz) r).2.2 := by
  refine ⟨?_, z_start (o := (zoI sz)) (lv := [(0, .ref a0), (1, .int x1)]) h (by decide +kernel) RX8 rfl rfl (Nat.le_of_ble_eq_true rfl) (fun P C => ?_)⟩
  · unfold f_X8_isDecided at h
    cases hc : zis hp a0 8 with
    | none => rw [hc] at h; cases h
    | some u => rfl
  unfold f_X8_isDecided
  refine z_is ?_
  refine z_aload_n C dX8_isDecided_0 0 rfl ?_
  refine z_aload_n C dX8_isDecided_1 0 rfl ?_
  refine z_iconst C dX8_isDecided_2 zi_1 ?_
  refine z_iload_n C dX8_isDecided_3 1 rfl ?_
  refine z_callVp C zc_X8_255 [.int (1 : Int32), .int x1] (fun l D tc b0 r h => m_X8_is l D tc ro b0 h) dX8_isDecided_4 rfl rfl (Nat.le_of_ble_eq_true rfl) (by decide) (by decide) ⟨Nat.le_of_ble_eq_true rfl, Nat.le_of_ble_eq_true rfl⟩ (fun v1 => ?_)
  refine z_callVi C zc_X8_258 [.int v1] (fun l D tc b0 r h => m_X8_checks l D tc ro b0 h) dX8_isDecided_7 rfl rfl (Nat.le_of_ble_eq_true rfl) (by decide) (by decide) ⟨Nat.le_of_ble_eq_true rfl, Nat.le_of_ble_eq_true rfl⟩ (fun v2 h3 => ?_)
  refine z_if_ne C 15 dX8_isDecided_10 (by decide) ?_ ?_
  · refine z_iconst C dX8_isDecided_13 zi_0 ?_
    exact z_kreturn C rfl dX8_isDecided_14
  refine z_iconst C dX8_isDecided_15 zi_0 ?_
  refine z_istore_n (lv' := [(0, .ref a0), (1, .int x1), (2, .int (0 : Int32))]) C dX8_isDecided_16 (by decide) rfl ?_
  refine wl_X8_isDecided_17 C ?_ ?_ _ _
  · refine z_iconst C dX8_isDecided_35 zi_1 ?_
    exact z_kreturn C rfl dX8_isDecided_36
  refine z_iconst C dX8_isDecided_43 zi_0 ?_
  exact z_kreturn C rfl dX8_isDecided_44
noncomputable def b_X8_misplaced_20 (k61 : Int32 → Option (Int32 × zHp)) (a0 : Nat) (x2 : Int32) (h : zHp) (rec : Int32 → Int32 → Option (Int32 × zHp)) (x1 : Int32) (x3 : Int32) : Option (Int32 × zHp) :=
  (f_X8_piles a0 h).bind fun v3 => if x3 < v3 then ((f_X8_wasCounted a0 x2 h).bind fun v4 => if v4 = 0 then (k61 x1) else (f_X8_valid a0 x2 x3 h).bind fun v5 => (f_X8_paper a0 x2 x3 h).bind fun v6 => zlet (x1 + (zabs (v5 - v6))) fun v7 => zlet (x3 + (1 : Int32)) fun v8 => rec v7 v8) else k61 x1
noncomputable def l_X8_misplaced_20 (k61 : Int32 → Option (Int32 × zHp)) (a0 : Nat) (x2 : Int32) (h : zHp) (n : Nat) : Int32 → Int32 → Option (Int32 × zHp) :=
  Nat.rec (motive := fun _ => Int32 → Int32 → Option (Int32 × zHp)) (fun _ _ => none) (fun _ rec => b_X8_misplaced_20 k61 a0 x2 h rec) n
theorem l_X8_misplaced_20_s (k61 : Int32 → Option (Int32 × zHp)) (a0 : Nat) (x2 : Int32) (h : zHp) (n : Nat) (x1 : Int32) (x3 : Int32) : l_X8_misplaced_20 k61 a0 x2 h (n + 1) x1 x3 = b_X8_misplaced_20 k61 a0 x2 h (l_X8_misplaced_20 k61 a0 x2 h n) x1 x3 := rfl
set_option maxHeartbeats 4000000 in
set_option maxRecDepth 100000 in
theorem wl_X8_misplaced_20 {P : zX} {ro : Nat → Nat} {sz : Nat} (C : zC P cX8_misplaced RX8 (some .int) 6 0 0 4 ro) {a0 : Nat} {x2 : Int32} {h : zHp} {k61 : Int32 → Option (Int32 × zHp)} (hk61 : ∀ (x1 : Int32), zG P (zoI sz) (k61 x1) 61 [(0, .ref a0), (1, .int x1), (2, .int x2)] [] h sz 0 0) : ∀ (n : Nat) (x1 : Int32) (x3 : Int32), zG P (zoI sz) (l_X8_misplaced_20 k61 a0 x2 h n x1 x3) 20 [(0, .ref a0), (1, .int x1), (2, .int x2), (3, .int x3)] [] h sz 0 0 := by
  intro n
  induction n with
  | zero =>
    intro x1 x3
    show zG P (zoI sz) none _ _ _ _ _ _ _
    exact z_none
  | succ n ih =>
    intro x1 x3
    show zG P (zoI sz) (b_X8_misplaced_20 k61 a0 x2 h (l_X8_misplaced_20 k61 a0 x2 h n) x1 x3) _ _ _ _ _ _ _
    unfold b_X8_misplaced_20
    refine z_iload_n C dX8_misplaced_20 3 rfl ?_
    refine z_aload_n C dX8_misplaced_21 0 rfl ?_
    refine z_callVp C zc_X8_59 [] (fun l D tc b0 r h => m_X8_piles l D tc ro b0 h) dX8_misplaced_22 rfl rfl (Nat.le_of_ble_eq_true rfl) (by decide) (by decide) ⟨Nat.le_of_ble_eq_true rfl, Nat.le_of_ble_eq_true rfl⟩ (fun v3 => ?_)
    refine z_icmp_ge C 61 dX8_misplaced_25 (by decide) ?_ ?_
    · refine z_aload_n C dX8_misplaced_28 0 rfl ?_
      refine z_iload_n C dX8_misplaced_29 2 rfl ?_
      refine z_callVp C zc_X8_74 [.int x2] (fun l D tc b0 r h => m_X8_wasCounted l D tc ro b0 h) dX8_misplaced_30 rfl rfl (Nat.le_of_ble_eq_true rfl) (by decide) (by decide) ⟨Nat.le_of_ble_eq_true rfl, Nat.le_of_ble_eq_true rfl⟩ (fun v4 => ?_)
      refine z_if_eq C 61 dX8_misplaced_33 (by decide) ?_ ?_
      · exact z_sub [0, 1, 2] rfl (hk61 _)
      refine z_iload_n C dX8_misplaced_36 1 rfl ?_
      refine z_aload_n C dX8_misplaced_37 0 rfl ?_
      refine z_iload_n C dX8_misplaced_38 2 rfl ?_
      refine z_iload_n C dX8_misplaced_39 3 rfl ?_
      refine z_callVp C zc_X8_80 [.int x2, .int x3] (fun l D tc b0 r h => m_X8_valid l D tc ro b0 h) dX8_misplaced_40 rfl rfl (Nat.le_of_ble_eq_true rfl) (by decide) (by decide) ⟨Nat.le_of_ble_eq_true rfl, Nat.le_of_ble_eq_true rfl⟩ (fun v5 => ?_)
      refine z_aload_n C dX8_misplaced_43 0 rfl ?_
      refine z_iload_n C dX8_misplaced_44 2 rfl ?_
      refine z_iload_n C dX8_misplaced_45 3 rfl ?_
      refine z_callVp C zc_X8_56 [.int x2, .int x3] (fun l D tc b0 r h => m_X8_paper l D tc ro b0 h) dX8_misplaced_46 rfl rfl (Nat.le_of_ble_eq_true rfl) (by decide) (by decide) ⟨Nat.le_of_ble_eq_true rfl, Nat.le_of_ble_eq_true rfl⟩ (fun v6 => ?_)
      refine z_isub C dX8_misplaced_49 ?_
      refine z_mabs C zm_X8_86 dX8_misplaced_50 (Nat.le_of_ble_eq_true rfl) (by decide) ⟨Nat.le_of_ble_eq_true rfl, Nat.le_of_ble_eq_true rfl⟩ ?_
      refine z_iadd C dX8_misplaced_53 ?_
      refine z_istore_nL C (fun v7 => [(0, .ref a0), (1, .int v7), (2, .int x2), (3, .int x3)]) dX8_misplaced_54 (by decide) (fun _ => rfl) (fun v7 => ?_)
      refine z_iincL C 3 (fun v8 => [(0, .ref a0), (1, .int v7), (2, .int x2), (3, .int v8)]) dX8_misplaced_55 rfl zi_1 (by decide) (fun _ => rfl) (fun v8 => ?_)
      refine z_goto C 20 dX8_misplaced_58 (by decide) ?_
      exact ih _ _
    exact z_sub [0, 1, 2] rfl (hk61 _)
noncomputable def b_X8_misplaced_9 (k67 : Int32 → Option (Int32 × zHp)) (a0 : Nat) (h : zHp) (rec : Int32 → Int32 → Option (Int32 × zHp)) (x1 : Int32) (x2 : Int32) : Option (Int32 × zHp) :=
  (f_X8_many a0 (3 : Int32) h).bind fun v2 => if x2 < v2 then (l_X8_misplaced_20 (fun p9 => zlet (x2 + (1 : Int32)) fun v10 => rec p9 v10) a0 x2 h 1000000 x1 (0 : Int32)) else k67 x1
noncomputable def l_X8_misplaced_9 (k67 : Int32 → Option (Int32 × zHp)) (a0 : Nat) (h : zHp) (n : Nat) : Int32 → Int32 → Option (Int32 × zHp) :=
  Nat.rec (motive := fun _ => Int32 → Int32 → Option (Int32 × zHp)) (fun _ _ => none) (fun _ rec => b_X8_misplaced_9 k67 a0 h rec) n
theorem l_X8_misplaced_9_s (k67 : Int32 → Option (Int32 × zHp)) (a0 : Nat) (h : zHp) (n : Nat) (x1 : Int32) (x2 : Int32) : l_X8_misplaced_9 k67 a0 h (n + 1) x1 x2 = b_X8_misplaced_9 k67 a0 h (l_X8_misplaced_9 k67 a0 h n) x1 x2 := rfl
set_option maxHeartbeats 4000000 in
set_option maxRecDepth 100000 in
theorem wl_X8_misplaced_9 {P : zX} {ro : Nat → Nat} {sz : Nat} (C : zC P cX8_misplaced RX8 (some .int) 6 0 0 4 ro) {a0 : Nat} {h : zHp} {k67 : Int32 → Option (Int32 × zHp)} (hk67 : ∀ (x1 : Int32), zG P (zoI sz) (k67 x1) 67 [(1, .int x1)] [] h sz 0 0) : ∀ (n : Nat) (x1 : Int32) (x2 : Int32), zG P (zoI sz) (l_X8_misplaced_9 k67 a0 h n x1 x2) 9 [(0, .ref a0), (1, .int x1), (2, .int x2)] [] h sz 0 0 := by
  intro n
  induction n with
  | zero =>
    intro x1 x2
    show zG P (zoI sz) none _ _ _ _ _ _ _
    exact z_none
  | succ n ih =>
    intro x1 x2
    show zG P (zoI sz) (b_X8_misplaced_9 k67 a0 h (l_X8_misplaced_9 k67 a0 h n) x1 x2) _ _ _ _ _ _ _
    unfold b_X8_misplaced_9
    refine z_iload_n C dX8_misplaced_9 2 rfl ?_
    refine z_aload_n C dX8_misplaced_10 0 rfl ?_
    refine z_iconst C dX8_misplaced_11 zi_3 ?_
    refine z_callVp C zc_X8_44 [.int (3 : Int32)] (fun l D tc b0 r h => m_X8_many l D tc ro b0 h) dX8_misplaced_12 rfl rfl (Nat.le_of_ble_eq_true rfl) (by decide) (by decide) ⟨Nat.le_of_ble_eq_true rfl, Nat.le_of_ble_eq_true rfl⟩ (fun v2 => ?_)
    refine z_icmp_ge C 67 dX8_misplaced_15 (by decide) ?_ ?_
    · refine z_iconst C dX8_misplaced_18 zi_0 ?_
      refine z_istore_n (lv' := [(0, .ref a0), (1, .int x1), (2, .int x2), (3, .int (0 : Int32))]) C dX8_misplaced_19 (by decide) rfl ?_
      refine wl_X8_misplaced_20 C (fun p9 => ?_) _ _ _
      refine z_iincL C 2 (fun v10 => [(0, .ref a0), (1, .int p9), (2, .int v10)]) dX8_misplaced_61 rfl zi_1 (by decide) (fun _ => rfl) (fun v10 => ?_)
      refine z_goto C 9 dX8_misplaced_64 (by decide) ?_
      exact ih _ _
    exact z_sub [1] rfl (hk67 _)
noncomputable def f_X8_misplaced (a0 : Nat) (hp : zHp) : Option (Int32 × zHp) :=
  (zis hp a0 8).bind fun _ => (zpV hp a0 8 0 (.int (0 : Int32))).bind fun h1 => l_X8_misplaced_9 (fun p11 => (zdiv p11 (2 : Int32)).bind fun v12 => some (v12, h1)) a0 h1 1000000 (0 : Int32) (0 : Int32)
set_option maxHeartbeats 4000000 in
set_option maxRecDepth 100000 in
theorem m_X8_misplaced (l : Launch) (D : va_G) (tc : Nat → ClassId) (ro : Nat → Nat) (b0 : Nat) {a0 : Nat} {hp : zHp} {sz : Nat} {r : (Int32 × zHp)} (h : f_X8_misplaced a0 hp = some r) : zis hp a0 8 = some () ∧ zM l yX8_misplaced cX8_misplaced 4 (some .int) 6 0 0 [.ref a0] D tc ro b0 hp sz ((zoI sz) r).1 ((zoI sz) r).2.1 ((zoI sz) r).2.2 := by
  refine ⟨?_, z_start (o := (zoI sz)) (lv := [(0, .ref a0)]) h (by decide +kernel) RX8 rfl rfl (Nat.le_of_ble_eq_true rfl) (fun P C => ?_)⟩
  · unfold f_X8_misplaced at h
    cases hc : zis hp a0 8 with
    | none => rw [hc] at h; cases h
    | some u => rfl
  unfold f_X8_misplaced
  refine z_is ?_
  refine z_aload_n C dX8_misplaced_0 0 rfl ?_
  refine z_iconst C dX8_misplaced_1 zi_0 ?_
  refine z_putI C zp_X8_38 dX8_misplaced_2 (fun h1 => ?_)
  refine z_iconst C dX8_misplaced_5 zi_0 ?_
  refine z_istore_n (lv' := [(0, .ref a0), (1, .int (0 : Int32))]) C dX8_misplaced_6 (by decide) rfl ?_
  refine z_iconst C dX8_misplaced_7 zi_0 ?_
  refine z_istore_n (lv' := [(0, .ref a0), (1, .int (0 : Int32)), (2, .int (0 : Int32))]) C dX8_misplaced_8 (by decide) rfl ?_
  refine wl_X8_misplaced_9 C (fun p11 => ?_) _ _ _
  refine z_iload_n C dX8_misplaced_67 0 rfl ?_
  refine z_iconst C dX8_misplaced_68 zi_2 ?_
  refine z_idiv C dX8_misplaced_69 (fun v12 => ?_)
  exact z_ireturn C dX8_misplaced_70
noncomputable def b_X8_isWrong_2 (k26 : Option Int32) (k34 : Option Int32) (a0 : Nat) (x1 : Int32) (x2 : Int32) (hp : zHp) (rec : Int32 → Option Int32) (x3 : Int32) : Option Int32 :=
  (f_X8_piles a0 hp).bind fun v1 => if x3 < v1 then ((f_X8_found a0 x1 x2 x3 hp).bind fun v2 => (f_X8_paper a0 x1 x3 hp).bind fun v3 => if v2 = v3 then (zlet (x3 + (1 : Int32)) fun v4 => rec v4) else k26) else k34
noncomputable def l_X8_isWrong_2 (k26 : Option Int32) (k34 : Option Int32) (a0 : Nat) (x1 : Int32) (x2 : Int32) (hp : zHp) (n : Nat) : Int32 → Option Int32 :=
  Nat.rec (motive := fun _ => Int32 → Option Int32) (fun _ => none) (fun _ rec => b_X8_isWrong_2 k26 k34 a0 x1 x2 hp rec) n
theorem l_X8_isWrong_2_s (k26 : Option Int32) (k34 : Option Int32) (a0 : Nat) (x1 : Int32) (x2 : Int32) (hp : zHp) (n : Nat) (x3 : Int32) : l_X8_isWrong_2 k26 k34 a0 x1 x2 hp (n + 1) x3 = b_X8_isWrong_2 k26 k34 a0 x1 x2 hp (l_X8_isWrong_2 k26 k34 a0 x1 x2 hp n) x3 := rfl
set_option maxHeartbeats 4000000 in
set_option maxRecDepth 100000 in
theorem wl_X8_isWrong_2 {P : zX} {ro : Nat → Nat} {sz : Nat} (C : zC P cX8_isWrong RX8 (some .boolean) 3 0 0 4 ro) {a0 : Nat} {x1 : Int32} {x2 : Int32} {hp : zHp} {k26 : Option Int32} (hk26 : zG P (zoP sz hp) (k26) 26 [] [] hp sz 0 0) {k34 : Option Int32} (hk34 : zG P (zoP sz hp) (k34) 34 [] [] hp sz 0 0) : ∀ (n : Nat) (x3 : Int32), zG P (zoP sz hp) (l_X8_isWrong_2 k26 k34 a0 x1 x2 hp n x3) 2 [(0, .ref a0), (1, .int x1), (2, .int x2), (3, .int x3)] [] hp sz 0 0 := by
  intro n
  induction n with
  | zero =>
    intro x3
    show zG P (zoP sz hp) none _ _ _ _ _ _ _
    exact z_none
  | succ n ih =>
    intro x3
    show zG P (zoP sz hp) (b_X8_isWrong_2 k26 k34 a0 x1 x2 hp (l_X8_isWrong_2 k26 k34 a0 x1 x2 hp n) x3) _ _ _ _ _ _ _
    unfold b_X8_isWrong_2
    refine z_iload_n C dX8_isWrong_2 3 rfl ?_
    refine z_aload_n C dX8_isWrong_3 0 rfl ?_
    refine z_callVp C zc_X8_59 [] (fun l D tc b0 r h => m_X8_piles l D tc ro b0 h) dX8_isWrong_4 rfl rfl (Nat.le_of_ble_eq_true rfl) (by decide) (by decide) ⟨Nat.le_of_ble_eq_true rfl, Nat.le_of_ble_eq_true rfl⟩ (fun v1 => ?_)
    refine z_icmp_ge C 34 dX8_isWrong_7 (by decide) ?_ ?_
    · refine z_aload_n C dX8_isWrong_10 0 rfl ?_
      refine z_iload_n C dX8_isWrong_11 1 rfl ?_
      refine z_iload_n C dX8_isWrong_12 2 rfl ?_
      refine z_iload_n C dX8_isWrong_13 3 rfl ?_
      refine z_callVp C zc_X8_67 [.int x1, .int x2, .int x3] (fun l D tc b0 r h => m_X8_found l D tc ro b0 h) dX8_isWrong_14 rfl rfl (Nat.le_of_ble_eq_true rfl) (by decide) (by decide) ⟨Nat.le_of_ble_eq_true rfl, Nat.le_of_ble_eq_true rfl⟩ (fun v2 => ?_)
      refine z_aload_n C dX8_isWrong_17 0 rfl ?_
      refine z_iload_n C dX8_isWrong_18 1 rfl ?_
      refine z_iload_n C dX8_isWrong_19 3 rfl ?_
      refine z_callVp C zc_X8_56 [.int x1, .int x3] (fun l D tc b0 r h => m_X8_paper l D tc ro b0 h) dX8_isWrong_20 rfl rfl (Nat.le_of_ble_eq_true rfl) (by decide) (by decide) ⟨Nat.le_of_ble_eq_true rfl, Nat.le_of_ble_eq_true rfl⟩ (fun v3 => ?_)
      refine z_icmp_eq C 28 dX8_isWrong_23 (by decide) ?_ ?_
      · refine z_iincL C 3 (fun v4 => [(0, .ref a0), (1, .int x1), (2, .int x2), (3, .int v4)]) dX8_isWrong_28 rfl zi_1 (by decide) (fun _ => rfl) (fun v4 => ?_)
        refine z_goto C 2 dX8_isWrong_31 (by decide) ?_
        exact ih _
      exact z_sub [] rfl (hk26)
    exact z_sub [] rfl (hk34)
noncomputable def f_X8_isWrong (a0 : Nat) (x1 : Int32) (x2 : Int32) (hp : zHp) : Option Int32 :=
  (zis hp a0 8).bind fun _ => l_X8_isWrong_2 (some (1 : Int32)) (some (0 : Int32)) a0 x1 x2 hp 1000000 (0 : Int32)
set_option maxHeartbeats 4000000 in
set_option maxRecDepth 100000 in
theorem m_X8_isWrong (l : Launch) (D : va_G) (tc : Nat → ClassId) (ro : Nat → Nat) (b0 : Nat) {a0 : Nat} {x1 : Int32} {x2 : Int32} {hp : zHp} {sz : Nat} {r : Int32} (h : f_X8_isWrong a0 x1 x2 hp = some r) : zis hp a0 8 = some () ∧ zM l yX8_isWrong cX8_isWrong 4 (some .boolean) 3 0 0 [.ref a0, .int x1, .int x2] D tc ro b0 hp sz ((zoP sz hp) r).1 ((zoP sz hp) r).2.1 ((zoP sz hp) r).2.2 := by
  refine ⟨?_, z_start (o := (zoP sz hp)) (lv := [(0, .ref a0), (1, .int x1), (2, .int x2)]) h (by decide +kernel) RX8 rfl rfl (Nat.le_of_ble_eq_true rfl) (fun P C => ?_)⟩
  · unfold f_X8_isWrong at h
    cases hc : zis hp a0 8 with
    | none => rw [hc] at h; cases h
    | some u => rfl
  unfold f_X8_isWrong
  refine z_is ?_
  refine z_iconst C dX8_isWrong_0 zi_0 ?_
  refine z_istore_n (lv' := [(0, .ref a0), (1, .int x1), (2, .int x2), (3, .int (0 : Int32))]) C dX8_isWrong_1 (by decide) rfl ?_
  refine wl_X8_isWrong_2 C ?_ ?_ _ _
  · refine z_iconst C dX8_isWrong_26 zi_1 ?_
    exact z_kreturnP C rfl dX8_isWrong_27
  refine z_iconst C dX8_isWrong_34 zi_0 ?_
  exact z_kreturnP C rfl dX8_isWrong_35
noncomputable def j_X8_worstTable_84 (k93 : Int32 → Option (Int32 × zHp)) (rec : Int32 → Int32 → Option (Int32 × zHp)) (a0 : Nat) (x1 : Int32) (x2 : Int32) (x3 : Int32) (x5 : Int32) (x6 : Int32) (s0 : Int32) (s1 : Int32) (h : zHp) : Option (Int32 × zHp) :=
  zlet (s0 + s1) fun v6 => zlet (x6 + (1 : Int32)) fun v7 => rec v6 v7
set_option maxHeartbeats 4000000 in
set_option maxRecDepth 100000 in
theorem wj_X8_worstTable_84 {P : zX} {ro : Nat → Nat} {sz : Nat} (C : zC P cX8_worstTable RX8 (some .int) 4 0 0 7 ro) {a0 : Nat} {x1 : Int32} {x2 : Int32} {x3 : Int32} {x5 : Int32} {x6 : Int32} {s0 : Int32} {s1 : Int32} {h : zHp} {k93 : Int32 → Option (Int32 × zHp)} (hk93 : ∀ (x4 : Int32), zG P (zoI sz) (k93 x4) 93 [(0, .ref a0), (1, .int x1), (2, .int x2), (3, .int x3), (4, .int x4), (5, .int x5)] [] h sz 0 0) {rec : Int32 → Int32 → Option (Int32 × zHp)} (hrec : ∀ (x4 : Int32) (x6 : Int32), zG P (zoI sz) (rec x4 x6) 39 [(0, .ref a0), (1, .int x1), (2, .int x2), (3, .int x3), (4, .int x4), (5, .int x5), (6, .int x6)] [] h sz 0 0) : zG P (zoI sz) (j_X8_worstTable_84 k93 rec a0 x1 x2 x3 x5 x6 s0 s1 h) 84 [(0, .ref a0), (1, .int x1), (2, .int x2), (3, .int x3), (5, .int x5), (6, .int x6)] [.int s1, .int s0] h sz 0 0 := by
  unfold j_X8_worstTable_84
  refine z_iadd C dX8_worstTable_84 ?_
  refine z_istoreL C (fun v6 => [(0, .ref a0), (1, .int x1), (2, .int x2), (3, .int x3), (4, .int v6), (5, .int x5), (6, .int x6)]) dX8_worstTable_85 (by decide) (fun _ => rfl) (fun v6 => ?_)
  refine z_iincL C 6 (fun v7 => [(0, .ref a0), (1, .int x1), (2, .int x2), (3, .int x3), (4, .int v6), (5, .int x5), (6, .int v7)]) dX8_worstTable_87 rfl zi_1 (by decide) (fun _ => rfl) (fun v7 => ?_)
  refine z_goto C 39 dX8_worstTable_90 (by decide) ?_
  exact hrec _ _
noncomputable def j_X8_worstTable_83 (k93 : Int32 → Option (Int32 × zHp)) (rec : Int32 → Int32 → Option (Int32 × zHp)) (a0 : Nat) (x1 : Int32) (x2 : Int32) (x3 : Int32) (x5 : Int32) (x6 : Int32) (s0 : Int32) (h : zHp) : Option (Int32 × zHp) :=
  j_X8_worstTable_84 k93 rec a0 x1 x2 x3 x5 x6 s0 (0 : Int32) h
set_option maxHeartbeats 4000000 in
set_option maxRecDepth 100000 in
theorem wj_X8_worstTable_83 {P : zX} {ro : Nat → Nat} {sz : Nat} (C : zC P cX8_worstTable RX8 (some .int) 4 0 0 7 ro) {a0 : Nat} {x1 : Int32} {x2 : Int32} {x3 : Int32} {x5 : Int32} {x6 : Int32} {s0 : Int32} {h : zHp} {k93 : Int32 → Option (Int32 × zHp)} (hk93 : ∀ (x4 : Int32), zG P (zoI sz) (k93 x4) 93 [(0, .ref a0), (1, .int x1), (2, .int x2), (3, .int x3), (4, .int x4), (5, .int x5)] [] h sz 0 0) {rec : Int32 → Int32 → Option (Int32 × zHp)} (hrec : ∀ (x4 : Int32) (x6 : Int32), zG P (zoI sz) (rec x4 x6) 39 [(0, .ref a0), (1, .int x1), (2, .int x2), (3, .int x3), (4, .int x4), (5, .int x5), (6, .int x6)] [] h sz 0 0) : zG P (zoI sz) (j_X8_worstTable_83 k93 rec a0 x1 x2 x3 x5 x6 s0 h) 83 [(0, .ref a0), (1, .int x1), (2, .int x2), (3, .int x3), (5, .int x5), (6, .int x6)] [.int s0] h sz 0 0 := by
  unfold j_X8_worstTable_83
  refine z_iconst C dX8_worstTable_83 zi_0 ?_
  exact wj_X8_worstTable_84 C hk93 hrec
noncomputable def b_X8_worstTable_39 (k93 : Int32 → Option (Int32 × zHp)) (a0 : Nat) (x1 : Int32) (x2 : Int32) (x3 : Int32) (x5 : Int32) (h : zHp) (rec : Int32 → Int32 → Option (Int32 × zHp)) (x4 : Int32) (x6 : Int32) : Option (Int32 × zHp) :=
  (f_X8_of a0 x5 (3 : Int32) h).bind fun v4 => if x6 < v4 then ((f_X8_of a0 x5 ((16 : Int32) + x6) h).bind fun v5 => if v5 = x3 then ((f_X8_isWrong a0 x5 x6 h).bind fun v8 => if v8 = 0 then (j_X8_worstTable_83 k93 rec a0 x1 x2 x3 x5 x6 x4 h) else j_X8_worstTable_84 k93 rec a0 x1 x2 x3 x5 x6 x4 (1 : Int32) h) else j_X8_worstTable_83 k93 rec a0 x1 x2 x3 x5 x6 x4 h) else k93 x4
noncomputable def l_X8_worstTable_39 (k93 : Int32 → Option (Int32 × zHp)) (a0 : Nat) (x1 : Int32) (x2 : Int32) (x3 : Int32) (x5 : Int32) (h : zHp) (n : Nat) : Int32 → Int32 → Option (Int32 × zHp) :=
  Nat.rec (motive := fun _ => Int32 → Int32 → Option (Int32 × zHp)) (fun _ _ => none) (fun _ rec => b_X8_worstTable_39 k93 a0 x1 x2 x3 x5 h rec) n
theorem l_X8_worstTable_39_s (k93 : Int32 → Option (Int32 × zHp)) (a0 : Nat) (x1 : Int32) (x2 : Int32) (x3 : Int32) (x5 : Int32) (h : zHp) (n : Nat) (x4 : Int32) (x6 : Int32) : l_X8_worstTable_39 k93 a0 x1 x2 x3 x5 h (n + 1) x4 x6 = b_X8_worstTable_39 k93 a0 x1 x2 x3 x5 h (l_X8_worstTable_39 k93 a0 x1 x2 x3 x5 h n) x4 x6 := rfl
set_option maxHeartbeats 4000000 in
set_option maxRecDepth 100000 in
theorem wl_X8_worstTable_39 {P : zX} {ro : Nat → Nat} {sz : Nat} (C : zC P cX8_worstTable RX8 (some .int) 4 0 0 7 ro) {a0 : Nat} {x1 : Int32} {x2 : Int32} {x3 : Int32} {x5 : Int32} {h : zHp} {k93 : Int32 → Option (Int32 × zHp)} (hk93 : ∀ (x4 : Int32), zG P (zoI sz) (k93 x4) 93 [(0, .ref a0), (1, .int x1), (2, .int x2), (3, .int x3), (4, .int x4), (5, .int x5)] [] h sz 0 0) : ∀ (n : Nat) (x4 : Int32) (x6 : Int32), zG P (zoI sz) (l_X8_worstTable_39 k93 a0 x1 x2 x3 x5 h n x4 x6) 39 [(0, .ref a0), (1, .int x1), (2, .int x2), (3, .int x3), (4, .int x4), (5, .int x5), (6, .int x6)] [] h sz 0 0 := by
  intro n
  induction n with
  | zero =>
    intro x4 x6
    show zG P (zoI sz) none _ _ _ _ _ _ _
    exact z_none
  | succ n ih =>
    intro x4 x6
    show zG P (zoI sz) (b_X8_worstTable_39 k93 a0 x1 x2 x3 x5 h (l_X8_worstTable_39 k93 a0 x1 x2 x3 x5 h n) x4 x6) _ _ _ _ _ _ _
    unfold b_X8_worstTable_39
    refine z_iload C dX8_worstTable_39 6 rfl ?_
    refine z_aload_n C dX8_worstTable_41 0 rfl ?_
    refine z_iload C dX8_worstTable_42 5 rfl ?_
    refine z_iconst C dX8_worstTable_44 zi_3 ?_
    refine z_callVp C zc_X8_48 [.int x5, .int (3 : Int32)] (fun l D tc b0 r h => m_X8_of l D tc ro b0 h) dX8_worstTable_45 rfl rfl (Nat.le_of_ble_eq_true rfl) (by decide) (by decide) ⟨Nat.le_of_ble_eq_true rfl, Nat.le_of_ble_eq_true rfl⟩ (fun v4 => ?_)
    refine z_icmp_ge C 93 dX8_worstTable_48 (by decide) ?_ ?_
    · refine z_iload C dX8_worstTable_51 4 rfl ?_
      refine z_aload_n C dX8_worstTable_53 0 rfl ?_
      refine z_iload C dX8_worstTable_54 5 rfl ?_
      refine z_bipush C dX8_worstTable_56 zbi_16 ?_
      refine z_iload C dX8_worstTable_58 6 rfl ?_
      refine z_iadd C dX8_worstTable_60 ?_
      refine z_callVp C zc_X8_48 [.int x5, .int ((16 : Int32) + x6)] (fun l D tc b0 r h => m_X8_of l D tc ro b0 h) dX8_worstTable_61 rfl rfl (Nat.le_of_ble_eq_true rfl) (by decide) (by decide) ⟨Nat.le_of_ble_eq_true rfl, Nat.le_of_ble_eq_true rfl⟩ (fun v5 => ?_)
      refine z_iload_n C dX8_worstTable_64 3 rfl ?_
      refine z_icmp_ne C 83 dX8_worstTable_65 (by decide) ?_ ?_
      · refine z_aload_n C dX8_worstTable_68 0 rfl ?_
        refine z_iload C dX8_worstTable_69 5 rfl ?_
        refine z_iload C dX8_worstTable_71 6 rfl ?_
        refine z_callVp C zc_X8_304 [.int x5, .int x6] (fun l D tc b0 r h => m_X8_isWrong l D tc ro b0 h) dX8_worstTable_73 rfl rfl (Nat.le_of_ble_eq_true rfl) (by decide) (by decide) ⟨Nat.le_of_ble_eq_true rfl, Nat.le_of_ble_eq_true rfl⟩ (fun v8 => ?_)
        refine z_if_eq C 83 dX8_worstTable_76 (by decide) ?_ ?_
        · exact z_sub [0, 1, 2, 3, 5, 6] rfl (wj_X8_worstTable_83 C hk93 ih)
        refine z_iconst C dX8_worstTable_79 zi_1 ?_
        refine z_goto C 84 dX8_worstTable_80 (by decide) ?_
        exact z_sub [0, 1, 2, 3, 5, 6] rfl (wj_X8_worstTable_84 C hk93 ih)
      exact z_sub [0, 1, 2, 3, 5, 6] rfl (wj_X8_worstTable_83 C hk93 ih)
    exact z_sub [0, 1, 2, 3, 4, 5] rfl (hk93 _)
noncomputable def b_X8_worstTable_26 (k99 : Int32 → Option (Int32 × zHp)) (a0 : Nat) (x1 : Int32) (x2 : Int32) (x3 : Int32) (h : zHp) (rec : Int32 → Int32 → Option (Int32 × zHp)) (x4 : Int32) (x5 : Int32) : Option (Int32 × zHp) :=
  (f_X8_many a0 (3 : Int32) h).bind fun v3 => if x5 < v3 then (l_X8_worstTable_39 (fun p9 => zlet (x5 + (1 : Int32)) fun v10 => rec p9 v10) a0 x1 x2 x3 x5 h 1000000 x4 (0 : Int32)) else k99 x4
noncomputable def l_X8_worstTable_26 (k99 : Int32 → Option (Int32 × zHp)) (a0 : Nat) (x1 : Int32) (x2 : Int32) (x3 : Int32) (h : zHp) (n : Nat) : Int32 → Int32 → Option (Int32 × zHp) :=
  Nat.rec (motive := fun _ => Int32 → Int32 → Option (Int32 × zHp)) (fun _ _ => none) (fun _ rec => b_X8_worstTable_26 k99 a0 x1 x2 x3 h rec) n
theorem l_X8_worstTable_26_s (k99 : Int32 → Option (Int32 × zHp)) (a0 : Nat) (x1 : Int32) (x2 : Int32) (x3 : Int32) (h : zHp) (n : Nat) (x4 : Int32) (x5 : Int32) : l_X8_worstTable_26 k99 a0 x1 x2 x3 h (n + 1) x4 x5 = b_X8_worstTable_26 k99 a0 x1 x2 x3 h (l_X8_worstTable_26 k99 a0 x1 x2 x3 h n) x4 x5 := rfl
set_option maxHeartbeats 4000000 in
set_option maxRecDepth 100000 in
theorem wl_X8_worstTable_26 {P : zX} {ro : Nat → Nat} {sz : Nat} (C : zC P cX8_worstTable RX8 (some .int) 4 0 0 7 ro) {a0 : Nat} {x1 : Int32} {x2 : Int32} {x3 : Int32} {h : zHp} {k99 : Int32 → Option (Int32 × zHp)} (hk99 : ∀ (x4 : Int32), zG P (zoI sz) (k99 x4) 99 [(0, .ref a0), (1, .int x1), (2, .int x2), (3, .int x3), (4, .int x4)] [] h sz 0 0) : ∀ (n : Nat) (x4 : Int32) (x5 : Int32), zG P (zoI sz) (l_X8_worstTable_26 k99 a0 x1 x2 x3 h n x4 x5) 26 [(0, .ref a0), (1, .int x1), (2, .int x2), (3, .int x3), (4, .int x4), (5, .int x5)] [] h sz 0 0 := by
  intro n
  induction n with
  | zero =>
    intro x4 x5
    show zG P (zoI sz) none _ _ _ _ _ _ _
    exact z_none
  | succ n ih =>
    intro x4 x5
    show zG P (zoI sz) (b_X8_worstTable_26 k99 a0 x1 x2 x3 h (l_X8_worstTable_26 k99 a0 x1 x2 x3 h n) x4 x5) _ _ _ _ _ _ _
    unfold b_X8_worstTable_26
    refine z_iload C dX8_worstTable_26 5 rfl ?_
    refine z_aload_n C dX8_worstTable_28 0 rfl ?_
    refine z_iconst C dX8_worstTable_29 zi_3 ?_
    refine z_callVp C zc_X8_44 [.int (3 : Int32)] (fun l D tc b0 r h => m_X8_many l D tc ro b0 h) dX8_worstTable_30 rfl rfl (Nat.le_of_ble_eq_true rfl) (by decide) (by decide) ⟨Nat.le_of_ble_eq_true rfl, Nat.le_of_ble_eq_true rfl⟩ (fun v3 => ?_)
    refine z_icmp_ge C 99 dX8_worstTable_33 (by decide) ?_ ?_
    · refine z_iconst C dX8_worstTable_36 zi_0 ?_
      refine z_istore (lv' := [(0, .ref a0), (1, .int x1), (2, .int x2), (3, .int x3), (4, .int x4), (5, .int x5), (6, .int (0 : Int32))]) C dX8_worstTable_37 (by decide) rfl ?_
      refine wl_X8_worstTable_39 C (fun p9 => ?_) _ _ _
      refine z_iincL C 5 (fun v10 => [(0, .ref a0), (1, .int x1), (2, .int x2), (3, .int x3), (4, .int p9), (5, .int v10)]) dX8_worstTable_93 rfl zi_1 (by decide) (fun _ => rfl) (fun v10 => ?_)
      refine z_goto C 26 dX8_worstTable_96 (by decide) ?_
      exact ih _ _
    exact z_sub [0, 1, 2, 3, 4] rfl (hk99 _)
noncomputable def j_X8_worstTable_110 (k124 : Int32 → Option (Int32 × zHp)) (rec : Int32 → Int32 → Int32 → Option (Int32 × zHp)) (a0 : Nat) (x2 : Int32) (x3 : Int32) (x4 : Int32) (s0 : Int32) (h : zHp) : Option (Int32 × zHp) :=
  zlet (zmax x2 x4) fun v12 => zlet (x3 + (1 : Int32)) fun v13 => rec s0 v12 v13
set_option maxHeartbeats 4000000 in
set_option maxRecDepth 100000 in
theorem wj_X8_worstTable_110 {P : zX} {ro : Nat → Nat} {sz : Nat} (C : zC P cX8_worstTable RX8 (some .int) 4 0 0 7 ro) {a0 : Nat} {x2 : Int32} {x3 : Int32} {x4 : Int32} {s0 : Int32} {h : zHp} {k124 : Int32 → Option (Int32 × zHp)} (hk124 : ∀ (x1 : Int32), zG P (zoI sz) (k124 x1) 124 [(1, .int x1)] [] h sz 0 0) {rec : Int32 → Int32 → Int32 → Option (Int32 × zHp)} (hrec : ∀ (x1 : Int32) (x2 : Int32) (x3 : Int32), zG P (zoI sz) (rec x1 x2 x3) 11 [(0, .ref a0), (1, .int x1), (2, .int x2), (3, .int x3)] [] h sz 0 0) : zG P (zoI sz) (j_X8_worstTable_110 k124 rec a0 x2 x3 x4 s0 h) 110 [(0, .ref a0), (2, .int x2), (3, .int x3), (4, .int x4)] [.int s0] h sz 0 0 := by
  unfold j_X8_worstTable_110
  refine z_istore_n (lv' := [(0, .ref a0), (1, .int s0), (2, .int x2), (3, .int x3), (4, .int x4)]) C dX8_worstTable_110 (by decide) rfl ?_
  refine z_iload_n C dX8_worstTable_111 2 rfl ?_
  refine z_iload C dX8_worstTable_112 4 rfl ?_
  refine z_mmax C zm_X8_94 dX8_worstTable_114 (Nat.le_of_ble_eq_true rfl) (by decide) ⟨Nat.le_of_ble_eq_true rfl, Nat.le_of_ble_eq_true rfl⟩ ?_
  refine z_istore_nL C (fun v12 => [(0, .ref a0), (1, .int s0), (2, .int v12), (3, .int x3), (4, .int x4)]) dX8_worstTable_117 (by decide) (fun _ => rfl) (fun v12 => ?_)
  refine z_iincL C 3 (fun v13 => [(0, .ref a0), (1, .int s0), (2, .int v12), (3, .int v13), (4, .int x4)]) dX8_worstTable_118 rfl zi_1 (by decide) (fun _ => rfl) (fun v13 => ?_)
  refine z_goto C 11 dX8_worstTable_121 (by decide) ?_
  exact z_sub [0, 1, 2, 3] rfl (hrec _ _ _)
noncomputable def b_X8_worstTable_11 (k124 : Int32 → Option (Int32 × zHp)) (a0 : Nat) (h : zHp) (rec : Int32 → Int32 → Int32 → Option (Int32 × zHp)) (x1 : Int32) (x2 : Int32) (x3 : Int32) : Option (Int32 × zHp) :=
  (f_X8_many a0 (4 : Int32) h).bind fun v2 => if x3 < v2 then (l_X8_worstTable_26 (fun p11 => if x2 < p11 then (j_X8_worstTable_110 k124 rec a0 x2 x3 p11 x3 h) else j_X8_worstTable_110 k124 rec a0 x2 x3 p11 x1 h) a0 x1 x2 x3 h 1000000 (0 : Int32) (0 : Int32)) else k124 x1
noncomputable def l_X8_worstTable_11 (k124 : Int32 → Option (Int32 × zHp)) (a0 : Nat) (h : zHp) (n : Nat) : Int32 → Int32 → Int32 → Option (Int32 × zHp) :=
  Nat.rec (motive := fun _ => Int32 → Int32 → Int32 → Option (Int32 × zHp)) (fun _ _ _ => none) (fun _ rec => b_X8_worstTable_11 k124 a0 h rec) n
theorem l_X8_worstTable_11_s (k124 : Int32 → Option (Int32 × zHp)) (a0 : Nat) (h : zHp) (n : Nat) (x1 : Int32) (x2 : Int32) (x3 : Int32) : l_X8_worstTable_11 k124 a0 h (n + 1) x1 x2 x3 = b_X8_worstTable_11 k124 a0 h (l_X8_worstTable_11 k124 a0 h n) x1 x2 x3 := rfl
set_option maxHeartbeats 4000000 in
set_option maxRecDepth 100000 in
theorem wl_X8_worstTable_11 {P : zX} {ro : Nat → Nat} {sz : Nat} (C : zC P cX8_worstTable RX8 (some .int) 4 0 0 7 ro) {a0 : Nat} {h : zHp} {k124 : Int32 → Option (Int32 × zHp)} (hk124 : ∀ (x1 : Int32), zG P (zoI sz) (k124 x1) 124 [(1, .int x1)] [] h sz 0 0) : ∀ (n : Nat) (x1 : Int32) (x2 : Int32) (x3 : Int32), zG P (zoI sz) (l_X8_worstTable_11 k124 a0 h n x1 x2 x3) 11 [(0, .ref a0), (1, .int x1), (2, .int x2), (3, .int x3)] [] h sz 0 0 := by
  intro n
  induction n with
  | zero =>
    intro x1 x2 x3
    show zG P (zoI sz) none _ _ _ _ _ _ _
    exact z_none
  | succ n ih =>
    intro x1 x2 x3
    show zG P (zoI sz) (b_X8_worstTable_11 k124 a0 h (l_X8_worstTable_11 k124 a0 h n) x1 x2 x3) _ _ _ _ _ _ _
    unfold b_X8_worstTable_11
    refine z_iload_n C dX8_worstTable_11 3 rfl ?_
    refine z_aload_n C dX8_worstTable_12 0 rfl ?_
    refine z_iconst C dX8_worstTable_13 zi_4 ?_
    refine z_callVp C zc_X8_44 [.int (4 : Int32)] (fun l D tc b0 r h => m_X8_many l D tc ro b0 h) dX8_worstTable_14 rfl rfl (Nat.le_of_ble_eq_true rfl) (by decide) (by decide) ⟨Nat.le_of_ble_eq_true rfl, Nat.le_of_ble_eq_true rfl⟩ (fun v2 => ?_)
    refine z_icmp_ge C 124 dX8_worstTable_17 (by decide) ?_ ?_
    · refine z_iconst C dX8_worstTable_20 zi_0 ?_
      refine z_istore (lv' := [(0, .ref a0), (1, .int x1), (2, .int x2), (3, .int x3), (4, .int (0 : Int32))]) C dX8_worstTable_21 (by decide) rfl ?_
      refine z_iconst C dX8_worstTable_23 zi_0 ?_
      refine z_istore (lv' := [(0, .ref a0), (1, .int x1), (2, .int x2), (3, .int x3), (4, .int (0 : Int32)), (5, .int (0 : Int32))]) C dX8_worstTable_24 (by decide) rfl ?_
      refine wl_X8_worstTable_26 C (fun p11 => ?_) _ _ _
      refine z_iload C dX8_worstTable_99 4 rfl ?_
      refine z_iload_n C dX8_worstTable_101 2 rfl ?_
      refine z_icmp_le C 109 dX8_worstTable_102 (by decide) ?_ ?_
      · refine z_iload_n C dX8_worstTable_105 3 rfl ?_
        refine z_goto C 110 dX8_worstTable_106 (by decide) ?_
        exact z_sub [0, 2, 3, 4] rfl (wj_X8_worstTable_110 C hk124 ih)
      refine z_iload_n C dX8_worstTable_109 1 rfl ?_
      exact z_sub [0, 2, 3, 4] rfl (wj_X8_worstTable_110 C hk124 ih)
    exact z_sub [1] rfl (hk124 _)
noncomputable def f_X8_worstTable (a0 : Nat) (hp : zHp) : Option (Int32 × zHp) :=
  (zis hp a0 8).bind fun _ => (zpV hp a0 8 0 (.int (0 : Int32))).bind fun h1 => l_X8_worstTable_11 (fun p14 => some (p14, h1)) a0 h1 1000000 (-1 : Int32) (0 : Int32) (0 : Int32)
set_option maxHeartbeats 4000000 in
set_option maxRecDepth 100000 in
theorem m_X8_worstTable (l : Launch) (D : va_G) (tc : Nat → ClassId) (ro : Nat → Nat) (b0 : Nat) {a0 : Nat} {hp : zHp} {sz : Nat} {r : (Int32 × zHp)} (h : f_X8_worstTable a0 hp = some r) : zis hp a0 8 = some () ∧ zM l yX8_worstTable cX8_worstTable 7 (some .int) 4 0 0 [.ref a0] D tc ro b0 hp sz ((zoI sz) r).1 ((zoI sz) r).2.1 ((zoI sz) r).2.2 := by
  refine ⟨?_, z_start (o := (zoI sz)) (lv := [(0, .ref a0)]) h (by decide +kernel) RX8 rfl rfl (Nat.le_of_ble_eq_true rfl) (fun P C => ?_)⟩
  · unfold f_X8_worstTable at h
    cases hc : zis hp a0 8 with
    | none => rw [hc] at h; cases h
    | some u => rfl
  unfold f_X8_worstTable
  refine z_is ?_
  refine z_aload_n C dX8_worstTable_0 0 rfl ?_
  refine z_iconst C dX8_worstTable_1 zi_0 ?_
  refine z_putI C zp_X8_38 dX8_worstTable_2 (fun h1 => ?_)
  refine z_iconst C dX8_worstTable_5 zi_m1 ?_
  refine z_istore_n (lv' := [(0, .ref a0), (1, .int (-1 : Int32))]) C dX8_worstTable_6 (by decide) rfl ?_
  refine z_iconst C dX8_worstTable_7 zi_0 ?_
  refine z_istore_n (lv' := [(0, .ref a0), (1, .int (-1 : Int32)), (2, .int (0 : Int32))]) C dX8_worstTable_8 (by decide) rfl ?_
  refine z_iconst C dX8_worstTable_9 zi_0 ?_
  refine z_istore_n (lv' := [(0, .ref a0), (1, .int (-1 : Int32)), (2, .int (0 : Int32)), (3, .int (0 : Int32))]) C dX8_worstTable_10 (by decide) rfl ?_
  refine wl_X8_worstTable_11 C (fun p14 => ?_) _ _ _ _
  refine z_iload_n C dX8_worstTable_124 0 rfl ?_
  exact z_ireturn C dX8_worstTable_125
noncomputable def b_X8_keeps_54 (k88 : zHp → Option zHp) (a0 : Nat) (rec : Int32 → zHp → Option zHp) (x1 : Int32) (h : zHp) : Option zHp :=
  if x1 < (538 : Int32) then ((zgR h a0 8 7).bind fun r2 => (zgI h a0 8 8).bind fun v3 => (zgR h a0 8 5).bind fun r4 => (zaI h 0 r4 x1).bind fun v5 => (zsI h r2 (((538 : Int32) * v3) + x1) v5).bind fun h6 => zlet (x1 + (1 : Int32)) fun v7 => rec v7 h6) else k88 h
noncomputable def l_X8_keeps_54 (k88 : zHp → Option zHp) (a0 : Nat) (n : Nat) : Int32 → zHp → Option zHp :=
  Nat.rec (motive := fun _ => Int32 → zHp → Option zHp) (fun _ _ => none) (fun _ rec => b_X8_keeps_54 k88 a0 rec) n
theorem l_X8_keeps_54_s (k88 : zHp → Option zHp) (a0 : Nat) (n : Nat) (x1 : Int32) (h : zHp) : l_X8_keeps_54 k88 a0 (n + 1) x1 h = b_X8_keeps_54 k88 a0 (l_X8_keeps_54 k88 a0 n) x1 h := rfl
set_option maxHeartbeats 4000000 in
set_option maxRecDepth 100000 in
theorem wl_X8_keeps_54 {P : zX} {ro : Nat → Nat} {sz : Nat} (C : zC P cX8_keeps RX8 none 1 0 0 2 ro) {a0 : Nat} {k88 : zHp → Option zHp} (hk88 : ∀ (h : zHp), zG P (zoV sz) (k88 h) 88 [(0, .ref a0)] [] h sz 0 0) : ∀ (n : Nat) (x1 : Int32) (h : zHp), zG P (zoV sz) (l_X8_keeps_54 k88 a0 n x1 h) 54 [(0, .ref a0), (1, .int x1)] [] h sz 0 0 := by
  intro n
  induction n with
  | zero =>
    intro x1 h
    show zG P (zoV sz) none _ _ _ _ _ _ _
    exact z_none
  | succ n ih =>
    intro x1 h
    show zG P (zoV sz) (b_X8_keeps_54 k88 a0 (l_X8_keeps_54 k88 a0 n) x1 h) _ _ _ _ _ _ _
    unfold b_X8_keeps_54
    refine z_iload_n C dX8_keeps_54 1 rfl ?_
    refine z_sipush C dX8_keeps_55 zsi_538 ?_
    refine z_icmp_ge C 88 dX8_keeps_58 (by decide) ?_ ?_
    · refine z_aload_n C dX8_keeps_61 0 rfl ?_
      refine z_getR C zf_X8_25 dX8_keeps_62 (fun r2 => ?_)
      refine z_sipush C dX8_keeps_65 zsi_538 ?_
      refine z_aload_n C dX8_keeps_68 0 rfl ?_
      refine z_getI C zf_X8_249 dX8_keeps_69 (fun v3 => ?_)
      refine z_imul C dX8_keeps_72 ?_
      refine z_iload_n C dX8_keeps_73 1 rfl ?_
      refine z_iadd C dX8_keeps_74 ?_
      refine z_aload_n C dX8_keeps_75 0 rfl ?_
      refine z_getR C zf_X8_19 dX8_keeps_76 (fun r4 => ?_)
      refine z_iload_n C dX8_keeps_79 1 rfl ?_
      refine z_iaload C dX8_keeps_80 (fun v5 => ?_)
      refine z_iastore C dX8_keeps_81 (fun h6 => ?_)
      refine z_iincL C 1 (fun v7 => [(0, .ref a0), (1, .int v7)]) dX8_keeps_82 rfl zi_1 (by decide) (fun _ => rfl) (fun v7 => ?_)
      refine z_goto C 54 dX8_keeps_85 (by decide) ?_
      exact ih _ _
    exact z_sub [0] rfl (hk88 _)
noncomputable def j_X8_keeps_52 (a0 : Nat) (h : zHp) : Option zHp :=
  l_X8_keeps_54 (fun h8 => (zgI h8 a0 8 8).bind fun v9 => (zpV h8 a0 8 8 (.int (v9 + (1 : Int32)))).bind fun h10 => some h10) a0 1000000 (0 : Int32) h
set_option maxHeartbeats 4000000 in
set_option maxRecDepth 100000 in
theorem wj_X8_keeps_52 {P : zX} {ro : Nat → Nat} {sz : Nat} (C : zC P cX8_keeps RX8 none 1 0 0 2 ro) {a0 : Nat} {h : zHp}  : zG P (zoV sz) (j_X8_keeps_52 a0 h) 52 [(0, .ref a0)] [] h sz 0 0 := by
  unfold j_X8_keeps_52
  refine z_iconst C dX8_keeps_52 zi_0 ?_
  refine z_istore_n (lv' := [(0, .ref a0), (1, .int (0 : Int32))]) C dX8_keeps_53 (by decide) rfl ?_
  refine wl_X8_keeps_54 C (fun h8 => ?_) _ _ _
  refine z_aload_n C dX8_keeps_88 0 rfl ?_
  refine z_dup C dX8_keeps_89 rfl ?_
  refine z_getI C zf_X8_249 dX8_keeps_90 (fun v9 => ?_)
  refine z_iconst C dX8_keeps_93 zi_1 ?_
  refine z_iadd C dX8_keeps_94 ?_
  refine z_putI C zp_X8_249 dX8_keeps_95 (fun h10 => ?_)
  exact z_return C dX8_keeps_98
noncomputable def b_X8_keeps_13 (k42 : zHp → Option zHp) (a0 : Nat) (rec : Int32 → zHp → Option zHp) (x1 : Int32) (h : zHp) : Option zHp :=
  if x1 < (5380 : Int32) then ((zgR h a0 8 7).bind fun r11 => (zgR h a0 8 7).bind fun r12 => (zaI h 0 r12 x1).bind fun v13 => (zsI h r11 (x1 - (538 : Int32)) v13).bind fun h14 => zlet (x1 + (1 : Int32)) fun v15 => rec v15 h14) else k42 h
noncomputable def l_X8_keeps_13 (k42 : zHp → Option zHp) (a0 : Nat) (n : Nat) : Int32 → zHp → Option zHp :=
  Nat.rec (motive := fun _ => Int32 → zHp → Option zHp) (fun _ _ => none) (fun _ rec => b_X8_keeps_13 k42 a0 rec) n
theorem l_X8_keeps_13_s (k42 : zHp → Option zHp) (a0 : Nat) (n : Nat) (x1 : Int32) (h : zHp) : l_X8_keeps_13 k42 a0 (n + 1) x1 h = b_X8_keeps_13 k42 a0 (l_X8_keeps_13 k42 a0 n) x1 h := rfl
set_option maxHeartbeats 4000000 in
set_option maxRecDepth 100000 in
theorem wl_X8_keeps_13 {P : zX} {ro : Nat → Nat} {sz : Nat} (C : zC P cX8_keeps RX8 none 1 0 0 2 ro) {a0 : Nat} {k42 : zHp → Option zHp} (hk42 : ∀ (h : zHp), zG P (zoV sz) (k42 h) 42 [(0, .ref a0)] [] h sz 0 0) : ∀ (n : Nat) (x1 : Int32) (h : zHp), zG P (zoV sz) (l_X8_keeps_13 k42 a0 n x1 h) 13 [(0, .ref a0), (1, .int x1)] [] h sz 0 0 := by
  intro n
  induction n with
  | zero =>
    intro x1 h
    show zG P (zoV sz) none _ _ _ _ _ _ _
    exact z_none
  | succ n ih =>
    intro x1 h
    show zG P (zoV sz) (b_X8_keeps_13 k42 a0 (l_X8_keeps_13 k42 a0 n) x1 h) _ _ _ _ _ _ _
    unfold b_X8_keeps_13
    refine z_iload_n C dX8_keeps_13 1 rfl ?_
    refine z_sipush C dX8_keeps_14 zsi_5380 ?_
    refine z_icmp_ge C 42 dX8_keeps_17 (by decide) ?_ ?_
    · refine z_aload_n C dX8_keeps_20 0 rfl ?_
      refine z_getR C zf_X8_25 dX8_keeps_21 (fun r11 => ?_)
      refine z_iload_n C dX8_keeps_24 1 rfl ?_
      refine z_sipush C dX8_keeps_25 zsi_538 ?_
      refine z_isub C dX8_keeps_28 ?_
      refine z_aload_n C dX8_keeps_29 0 rfl ?_
      refine z_getR C zf_X8_25 dX8_keeps_30 (fun r12 => ?_)
      refine z_iload_n C dX8_keeps_33 1 rfl ?_
      refine z_iaload C dX8_keeps_34 (fun v13 => ?_)
      refine z_iastore C dX8_keeps_35 (fun h14 => ?_)
      refine z_iincL C 1 (fun v15 => [(0, .ref a0), (1, .int v15)]) dX8_keeps_36 rfl zi_1 (by decide) (fun _ => rfl) (fun v15 => ?_)
      refine z_goto C 13 dX8_keeps_39 (by decide) ?_
      exact ih _ _
    exact z_sub [0] rfl (hk42 _)
noncomputable def f_X8_keeps (a0 : Nat) (hp : zHp) : Option zHp :=
  (zis hp a0 8).bind fun _ => (zgI hp a0 8 8).bind fun v1 => if v1 = (10 : Int32) then (l_X8_keeps_13 (fun h16 => (zgI h16 a0 8 8).bind fun v17 => (zpV h16 a0 8 8 (.int (v17 - (1 : Int32)))).bind fun h18 => j_X8_keeps_52 a0 h18) a0 1000000 (538 : Int32) hp) else j_X8_keeps_52 a0 hp
set_option maxHeartbeats 4000000 in
set_option maxRecDepth 100000 in
theorem m_X8_keeps (l : Launch) (D : va_G) (tc : Nat → ClassId) (ro : Nat → Nat) (b0 : Nat) {a0 : Nat} {hp : zHp} {sz : Nat} {r : zHp} (h : f_X8_keeps a0 hp = some r) : zis hp a0 8 = some () ∧ zM l yX8_keeps cX8_keeps 2 none 1 0 0 [.ref a0] D tc ro b0 hp sz ((zoV sz) r).1 ((zoV sz) r).2.1 ((zoV sz) r).2.2 := by
  refine ⟨?_, z_start (o := (zoV sz)) (lv := [(0, .ref a0)]) h (by decide +kernel) RX8 rfl rfl (Nat.le_of_ble_eq_true rfl) (fun P C => ?_)⟩
  · unfold f_X8_keeps at h
    cases hc : zis hp a0 8 with
    | none => rw [hc] at h; cases h
    | some u => rfl
  unfold f_X8_keeps
  refine z_is ?_
  refine z_aload_n C dX8_keeps_0 0 rfl ?_
  refine z_getI C zf_X8_249 dX8_keeps_1 (fun v1 => ?_)
  refine z_bipush C dX8_keeps_4 zbi_10 ?_
  refine z_icmp_ne C 52 dX8_keeps_6 (by decide) ?_ ?_
  · refine z_sipush C dX8_keeps_9 zsi_538 ?_
    refine z_istore_n (lv' := [(0, .ref a0), (1, .int (538 : Int32))]) C dX8_keeps_12 (by decide) rfl ?_
    refine wl_X8_keeps_13 C (fun h16 => ?_) _ _ _
    refine z_aload_n C dX8_keeps_42 0 rfl ?_
    refine z_dup C dX8_keeps_43 rfl ?_
    refine z_getI C zf_X8_249 dX8_keeps_44 (fun v17 => ?_)
    refine z_iconst C dX8_keeps_47 zi_1 ?_
    refine z_isub C dX8_keeps_48 ?_
    refine z_putI C zp_X8_249 dX8_keeps_49 (fun h18 => ?_)
    exact wj_X8_keeps_52 C
  exact wj_X8_keeps_52 C
noncomputable def b_X8_undo_26 (k60 : zHp → Option (Int32 × zHp)) (a0 : Nat) (rec : Int32 → zHp → Option (Int32 × zHp)) (x1 : Int32) (h : zHp) : Option (Int32 × zHp) :=
  if x1 < (538 : Int32) then ((zgR h a0 8 5).bind fun r5 => (zgR h a0 8 7).bind fun r6 => (zgI h a0 8 8).bind fun v7 => (zaI h 0 r6 (((538 : Int32) * v7) + x1)).bind fun v8 => (zsI h r5 x1 v8).bind fun h9 => zlet (x1 + (1 : Int32)) fun v10 => rec v10 h9) else k60 h
noncomputable def l_X8_undo_26 (k60 : zHp → Option (Int32 × zHp)) (a0 : Nat) (n : Nat) : Int32 → zHp → Option (Int32 × zHp) :=
  Nat.rec (motive := fun _ => Int32 → zHp → Option (Int32 × zHp)) (fun _ _ => none) (fun _ rec => b_X8_undo_26 k60 a0 rec) n
theorem l_X8_undo_26_s (k60 : zHp → Option (Int32 × zHp)) (a0 : Nat) (n : Nat) (x1 : Int32) (h : zHp) : l_X8_undo_26 k60 a0 (n + 1) x1 h = b_X8_undo_26 k60 a0 (l_X8_undo_26 k60 a0 n) x1 h := rfl
set_option maxHeartbeats 4000000 in
set_option maxRecDepth 100000 in
theorem wl_X8_undo_26 {P : zX} {ro : Nat → Nat} {sz : Nat} (C : zC P cX8_undo RX8 (some .int) 1 0 0 2 ro) {a0 : Nat} {k60 : zHp → Option (Int32 × zHp)} (hk60 : ∀ (h : zHp), zG P (zoI sz) (k60 h) 60 [(0, .ref a0)] [] h sz 0 0) : ∀ (n : Nat) (x1 : Int32) (h : zHp), zG P (zoI sz) (l_X8_undo_26 k60 a0 n x1 h) 26 [(0, .ref a0), (1, .int x1)] [] h sz 0 0 := by
  intro n
  induction n with
  | zero =>
    intro x1 h
    show zG P (zoI sz) none _ _ _ _ _ _ _
    exact z_none
  | succ n ih =>
    intro x1 h
    show zG P (zoI sz) (b_X8_undo_26 k60 a0 (l_X8_undo_26 k60 a0 n) x1 h) _ _ _ _ _ _ _
    unfold b_X8_undo_26
    refine z_iload_n C dX8_undo_26 1 rfl ?_
    refine z_sipush C dX8_undo_27 zsi_538 ?_
    refine z_icmp_ge C 60 dX8_undo_30 (by decide) ?_ ?_
    · refine z_aload_n C dX8_undo_33 0 rfl ?_
      refine z_getR C zf_X8_19 dX8_undo_34 (fun r5 => ?_)
      refine z_iload_n C dX8_undo_37 1 rfl ?_
      refine z_aload_n C dX8_undo_38 0 rfl ?_
      refine z_getR C zf_X8_25 dX8_undo_39 (fun r6 => ?_)
      refine z_sipush C dX8_undo_42 zsi_538 ?_
      refine z_aload_n C dX8_undo_45 0 rfl ?_
      refine z_getI C zf_X8_249 dX8_undo_46 (fun v7 => ?_)
      refine z_imul C dX8_undo_49 ?_
      refine z_iload_n C dX8_undo_50 1 rfl ?_
      refine z_iadd C dX8_undo_51 ?_
      refine z_iaload C dX8_undo_52 (fun v8 => ?_)
      refine z_iastore C dX8_undo_53 (fun h9 => ?_)
      refine z_iincL C 1 (fun v10 => [(0, .ref a0), (1, .int v10)]) dX8_undo_54 rfl zi_1 (by decide) (fun _ => rfl) (fun v10 => ?_)
      refine z_goto C 26 dX8_undo_57 (by decide) ?_
      exact ih _ _
    exact z_sub [0] rfl (hk60 _)
noncomputable def f_X8_undo (a0 : Nat) (hp : zHp) : Option (Int32 × zHp) :=
  (zis hp a0 8).bind fun _ => (zpV hp a0 8 0 (.int (0 : Int32))).bind fun h1 => (zgI h1 a0 8 8).bind fun v2 => if v2 = 0 then (some ((-1 : Int32), h1)) else (zgI h1 a0 8 8).bind fun v3 => (zpV h1 a0 8 8 (.int (v3 - (1 : Int32)))).bind fun h4 => l_X8_undo_26 (fun h11 => (zgI h11 a0 8 8).bind fun v12 => some (v12, h11)) a0 1000000 (0 : Int32) h4
set_option maxHeartbeats 4000000 in
set_option maxRecDepth 100000 in
theorem m_X8_undo (l : Launch) (D : va_G) (tc : Nat → ClassId) (ro : Nat → Nat) (b0 : Nat) {a0 : Nat} {hp : zHp} {sz : Nat} {r : (Int32 × zHp)} (h : f_X8_undo a0 hp = some r) : zis hp a0 8 = some () ∧ zM l yX8_undo cX8_undo 2 (some .int) 1 0 0 [.ref a0] D tc ro b0 hp sz ((zoI sz) r).1 ((zoI sz) r).2.1 ((zoI sz) r).2.2 := by
  refine ⟨?_, z_start (o := (zoI sz)) (lv := [(0, .ref a0)]) h (by decide +kernel) RX8 rfl rfl (Nat.le_of_ble_eq_true rfl) (fun P C => ?_)⟩
  · unfold f_X8_undo at h
    cases hc : zis hp a0 8 with
    | none => rw [hc] at h; cases h
    | some u => rfl
  unfold f_X8_undo
  refine z_is ?_
  refine z_aload_n C dX8_undo_0 0 rfl ?_
  refine z_iconst C dX8_undo_1 zi_0 ?_
  refine z_putI C zp_X8_38 dX8_undo_2 (fun h1 => ?_)
  refine z_aload_n C dX8_undo_5 0 rfl ?_
  refine z_getI C zf_X8_249 dX8_undo_6 (fun v2 => ?_)
  refine z_if_ne C 14 dX8_undo_9 (by decide) ?_ ?_
  · refine z_iconst C dX8_undo_12 zi_m1 ?_
    exact z_ireturn C dX8_undo_13
  refine z_aload_n C dX8_undo_14 0 rfl ?_
  refine z_dup C dX8_undo_15 rfl ?_
  refine z_getI C zf_X8_249 dX8_undo_16 (fun v3 => ?_)
  refine z_iconst C dX8_undo_19 zi_1 ?_
  refine z_isub C dX8_undo_20 ?_
  refine z_putI C zp_X8_249 dX8_undo_21 (fun h4 => ?_)
  refine z_iconst C dX8_undo_24 zi_0 ?_
  refine z_istore_n (lv' := [(0, .ref a0), (1, .int (0 : Int32))]) C dX8_undo_25 (by decide) rfl ?_
  refine wl_X8_undo_26 C (fun h11 => ?_) _ _ _
  refine z_aload_n C dX8_undo_60 0 rfl ?_
  refine z_getI C zf_X8_249 dX8_undo_61 (fun v12 => ?_)
  exact z_ireturn C dX8_undo_64
noncomputable def j_X8_inHall_30 (k38 : Int32 → Option Int32) (rec : Int32 → Int32 → Option Int32) (a0 : Nat) (x2 : Int32) (s0 : Int32) (s1 : Int32) (hp : zHp) : Option Int32 :=
  zlet (s0 + s1) fun v3 => zlet (x2 + (1 : Int32)) fun v4 => rec v3 v4
set_option maxHeartbeats 4000000 in
set_option maxRecDepth 100000 in
theorem wj_X8_inHall_30 {P : zX} {ro : Nat → Nat} {sz : Nat} (C : zC P cX8_inHall RX8 (some .int) 2 0 0 3 ro) {a0 : Nat} {x2 : Int32} {s0 : Int32} {s1 : Int32} {hp : zHp} {k38 : Int32 → Option Int32} (hk38 : ∀ (x1 : Int32), zG P (zoP sz hp) (k38 x1) 38 [(1, .int x1)] [] hp sz 0 0) {rec : Int32 → Int32 → Option Int32} (hrec : ∀ (x1 : Int32) (x2 : Int32), zG P (zoP sz hp) (rec x1 x2) 4 [(0, .ref a0), (1, .int x1), (2, .int x2)] [] hp sz 0 0) : zG P (zoP sz hp) (j_X8_inHall_30 k38 rec a0 x2 s0 s1 hp) 30 [(0, .ref a0), (2, .int x2)] [.int s1, .int s0] hp sz 0 0 := by
  unfold j_X8_inHall_30
  refine z_iadd C dX8_inHall_30 ?_
  refine z_istore_nL C (fun v3 => [(0, .ref a0), (1, .int v3), (2, .int x2)]) dX8_inHall_31 (by decide) (fun _ => rfl) (fun v3 => ?_)
  refine z_iincL C 2 (fun v4 => [(0, .ref a0), (1, .int v3), (2, .int v4)]) dX8_inHall_32 rfl zi_1 (by decide) (fun _ => rfl) (fun v4 => ?_)
  refine z_goto C 4 dX8_inHall_35 (by decide) ?_
  exact hrec _ _
noncomputable def b_X8_inHall_4 (k38 : Int32 → Option Int32) (a0 : Nat) (hp : zHp) (rec : Int32 → Int32 → Option Int32) (x1 : Int32) (x2 : Int32) : Option Int32 :=
  (f_X8_many a0 (3 : Int32) hp).bind fun v1 => if x2 < v1 then ((f_X8_of a0 x2 (0 : Int32) hp).bind fun v2 => if v2 = (-4 : Int32) then (j_X8_inHall_30 k38 rec a0 x2 x1 (1 : Int32) hp) else j_X8_inHall_30 k38 rec a0 x2 x1 (0 : Int32) hp) else k38 x1
noncomputable def l_X8_inHall_4 (k38 : Int32 → Option Int32) (a0 : Nat) (hp : zHp) (n : Nat) : Int32 → Int32 → Option Int32 :=
  Nat.rec (motive := fun _ => Int32 → Int32 → Option Int32) (fun _ _ => none) (fun _ rec => b_X8_inHall_4 k38 a0 hp rec) n
theorem l_X8_inHall_4_s (k38 : Int32 → Option Int32) (a0 : Nat) (hp : zHp) (n : Nat) (x1 : Int32) (x2 : Int32) : l_X8_inHall_4 k38 a0 hp (n + 1) x1 x2 = b_X8_inHall_4 k38 a0 hp (l_X8_inHall_4 k38 a0 hp n) x1 x2 := rfl
set_option maxHeartbeats 4000000 in
set_option maxRecDepth 100000 in
theorem wl_X8_inHall_4 {P : zX} {ro : Nat → Nat} {sz : Nat} (C : zC P cX8_inHall RX8 (some .int) 2 0 0 3 ro) {a0 : Nat} {hp : zHp} {k38 : Int32 → Option Int32} (hk38 : ∀ (x1 : Int32), zG P (zoP sz hp) (k38 x1) 38 [(1, .int x1)] [] hp sz 0 0) : ∀ (n : Nat) (x1 : Int32) (x2 : Int32), zG P (zoP sz hp) (l_X8_inHall_4 k38 a0 hp n x1 x2) 4 [(0, .ref a0), (1, .int x1), (2, .int x2)] [] hp sz 0 0 := by
  intro n
  induction n with
  | zero =>
    intro x1 x2
    show zG P (zoP sz hp) none _ _ _ _ _ _ _
    exact z_none
  | succ n ih =>
    intro x1 x2
    show zG P (zoP sz hp) (b_X8_inHall_4 k38 a0 hp (l_X8_inHall_4 k38 a0 hp n) x1 x2) _ _ _ _ _ _ _
    unfold b_X8_inHall_4
    refine z_iload_n C dX8_inHall_4 2 rfl ?_
    refine z_aload_n C dX8_inHall_5 0 rfl ?_
    refine z_iconst C dX8_inHall_6 zi_3 ?_
    refine z_callVp C zc_X8_44 [.int (3 : Int32)] (fun l D tc b0 r h => m_X8_many l D tc ro b0 h) dX8_inHall_7 rfl rfl (Nat.le_of_ble_eq_true rfl) (by decide) (by decide) ⟨Nat.le_of_ble_eq_true rfl, Nat.le_of_ble_eq_true rfl⟩ (fun v1 => ?_)
    refine z_icmp_ge C 38 dX8_inHall_10 (by decide) ?_ ?_
    · refine z_iload_n C dX8_inHall_13 1 rfl ?_
      refine z_aload_n C dX8_inHall_14 0 rfl ?_
      refine z_iload_n C dX8_inHall_15 2 rfl ?_
      refine z_iconst C dX8_inHall_16 zi_0 ?_
      refine z_callVp C zc_X8_48 [.int x2, .int (0 : Int32)] (fun l D tc b0 r h => m_X8_of l D tc ro b0 h) dX8_inHall_17 rfl rfl (Nat.le_of_ble_eq_true rfl) (by decide) (by decide) ⟨Nat.le_of_ble_eq_true rfl, Nat.le_of_ble_eq_true rfl⟩ (fun v2 => ?_)
      refine z_bipush C dX8_inHall_20 zbi_m4 ?_
      refine z_icmp_ne C 29 dX8_inHall_22 (by decide) ?_ ?_
      · refine z_iconst C dX8_inHall_25 zi_1 ?_
        refine z_goto C 30 dX8_inHall_26 (by decide) ?_
        exact z_sub [0, 2] rfl (wj_X8_inHall_30 C hk38 ih)
      refine z_iconst C dX8_inHall_29 zi_0 ?_
      exact z_sub [0, 2] rfl (wj_X8_inHall_30 C hk38 ih)
    exact z_sub [1] rfl (hk38 _)
noncomputable def f_X8_inHall (a0 : Nat) (hp : zHp) : Option Int32 :=
  (zis hp a0 8).bind fun _ => l_X8_inHall_4 (fun p5 => some p5) a0 hp 1000000 (0 : Int32) (0 : Int32)
set_option maxHeartbeats 4000000 in
set_option maxRecDepth 100000 in
theorem m_X8_inHall (l : Launch) (D : va_G) (tc : Nat → ClassId) (ro : Nat → Nat) (b0 : Nat) {a0 : Nat} {hp : zHp} {sz : Nat} {r : Int32} (h : f_X8_inHall a0 hp = some r) : zis hp a0 8 = some () ∧ zM l yX8_inHall cX8_inHall 3 (some .int) 2 0 0 [.ref a0] D tc ro b0 hp sz ((zoP sz hp) r).1 ((zoP sz hp) r).2.1 ((zoP sz hp) r).2.2 := by
  refine ⟨?_, z_start (o := (zoP sz hp)) (lv := [(0, .ref a0)]) h (by decide +kernel) RX8 rfl rfl (Nat.le_of_ble_eq_true rfl) (fun P C => ?_)⟩
  · unfold f_X8_inHall at h
    cases hc : zis hp a0 8 with
    | none => rw [hc] at h; cases h
    | some u => rfl
  unfold f_X8_inHall
  refine z_is ?_
  refine z_iconst C dX8_inHall_0 zi_0 ?_
  refine z_istore_n (lv' := [(0, .ref a0), (1, .int (0 : Int32))]) C dX8_inHall_1 (by decide) rfl ?_
  refine z_iconst C dX8_inHall_2 zi_0 ?_
  refine z_istore_n (lv' := [(0, .ref a0), (1, .int (0 : Int32)), (2, .int (0 : Int32))]) C dX8_inHall_3 (by decide) rfl ?_
  refine wl_X8_inHall_4 C (fun p5 => ?_) _ _ _
  refine z_iload_n C dX8_inHall_38 0 rfl ?_
  exact z_ireturnP C dX8_inHall_39
noncomputable def f_X8_bring (a0 : Nat) (x1 : Int32) (hp : zHp) : Option (Int32 × zHp) :=
  (zis hp a0 8).bind fun _ => (zpV hp a0 8 0 (.int (0 : Int32))).bind fun h1 => (f_X8_is a0 (3 : Int32) x1 h1).bind fun v2 => if v2 = 0 then (some ((-1 : Int32), h1)) else (f_X8_of a0 x1 (0 : Int32) h1).bind fun v3 => if v3 = (-3 : Int32) then ((f_X8_keeps a0 h1).bind fun h4 => (f_X8_sets a0 x1 (0 : Int32) (-4 : Int32) h4).bind fun h5 => (f_X8_inHall a0 h5).bind fun v6 => some (v6, h5)) else some ((-6 : Int32), h1)
set_option maxHeartbeats 4000000 in
set_option maxRecDepth 100000 in
theorem m_X8_bring (l : Launch) (D : va_G) (tc : Nat → ClassId) (ro : Nat → Nat) (b0 : Nat) {a0 : Nat} {x1 : Int32} {hp : zHp} {sz : Nat} {r : (Int32 × zHp)} (h : f_X8_bring a0 x1 hp = some r) : zis hp a0 8 = some () ∧ zM l yX8_bring cX8_bring 2 (some .int) 3 0 0 [.ref a0, .int x1] D tc ro b0 hp sz ((zoI sz) r).1 ((zoI sz) r).2.1 ((zoI sz) r).2.2 := by
  refine ⟨?_, z_start (o := (zoI sz)) (lv := [(0, .ref a0), (1, .int x1)]) h (by decide +kernel) RX8 rfl rfl (Nat.le_of_ble_eq_true rfl) (fun P C => ?_)⟩
  · unfold f_X8_bring at h
    cases hc : zis hp a0 8 with
    | none => rw [hc] at h; cases h
    | some u => rfl
  unfold f_X8_bring
  refine z_is ?_
  refine z_aload_n C dX8_bring_0 0 rfl ?_
  refine z_iconst C dX8_bring_1 zi_0 ?_
  refine z_putI C zp_X8_38 dX8_bring_2 (fun h1 => ?_)
  refine z_aload_n C dX8_bring_5 0 rfl ?_
  refine z_iconst C dX8_bring_6 zi_3 ?_
  refine z_iload_n C dX8_bring_7 1 rfl ?_
  refine z_callVp C zc_X8_255 [.int (3 : Int32), .int x1] (fun l D tc b0 r h => m_X8_is l D tc ro b0 h) dX8_bring_8 rfl rfl (Nat.le_of_ble_eq_true rfl) (by decide) (by decide) ⟨Nat.le_of_ble_eq_true rfl, Nat.le_of_ble_eq_true rfl⟩ (fun v2 => ?_)
  refine z_if_ne C 16 dX8_bring_11 (by decide) ?_ ?_
  · refine z_iconst C dX8_bring_14 zi_m1 ?_
    exact z_ireturn C dX8_bring_15
  refine z_aload_n C dX8_bring_16 0 rfl ?_
  refine z_iload_n C dX8_bring_17 1 rfl ?_
  refine z_iconst C dX8_bring_18 zi_0 ?_
  refine z_callVp C zc_X8_48 [.int x1, .int (0 : Int32)] (fun l D tc b0 r h => m_X8_of l D tc ro b0 h) dX8_bring_19 rfl rfl (Nat.le_of_ble_eq_true rfl) (by decide) (by decide) ⟨Nat.le_of_ble_eq_true rfl, Nat.le_of_ble_eq_true rfl⟩ (fun v3 => ?_)
  refine z_bipush C dX8_bring_22 zbi_m3 ?_
  refine z_icmp_eq C 30 dX8_bring_24 (by decide) ?_ ?_
  · refine z_aload_n C dX8_bring_30 0 rfl ?_
    refine z_callVv C zc_X8_307 [] (fun l D tc b0 r h => m_X8_keeps l D tc ro b0 h) dX8_bring_31 rfl rfl (Nat.le_of_ble_eq_true rfl) (by decide) (by decide) ⟨Nat.le_of_ble_eq_true rfl, Nat.le_of_ble_eq_true rfl⟩ (fun h4 => ?_)
    refine z_aload_n C dX8_bring_34 0 rfl ?_
    refine z_iload_n C dX8_bring_35 1 rfl ?_
    refine z_iconst C dX8_bring_36 zi_0 ?_
    refine z_bipush C dX8_bring_37 zbi_m4 ?_
    refine z_callVv C zc_X8_209 [.int x1, .int (0 : Int32), .int (-4 : Int32)] (fun l D tc b0 r h => m_X8_sets l D tc ro b0 h) dX8_bring_39 rfl rfl (Nat.le_of_ble_eq_true rfl) (by decide) (by decide) ⟨Nat.le_of_ble_eq_true rfl, Nat.le_of_ble_eq_true rfl⟩ (fun h5 => ?_)
    refine z_aload_n C dX8_bring_42 0 rfl ?_
    refine z_callVp C zc_X8_310 [] (fun l D tc b0 r h => m_X8_inHall l D tc ro b0 h) dX8_bring_43 rfl rfl (Nat.le_of_ble_eq_true rfl) (by decide) (by decide) ⟨Nat.le_of_ble_eq_true rfl, Nat.le_of_ble_eq_true rfl⟩ (fun v6 => ?_)
    exact z_ireturn C dX8_bring_46
  refine z_bipush C dX8_bring_27 zbi_m6 ?_
  exact z_ireturn C dX8_bring_29
noncomputable def f_X8_opens (a0 : Nat) (x1 : Int32) (x2 : Int32) (hp : zHp) : Option zHp :=
  (zis hp a0 8).bind fun _ => (f_X8_sets a0 x1 (0 : Int32) x2 hp).bind fun h1 => (f_X8_sets a0 x1 (1 : Int32) (0 : Int32) h1).bind fun h2 => some h2
set_option maxHeartbeats 4000000 in
set_option maxRecDepth 100000 in
theorem m_X8_opens (l : Launch) (D : va_G) (tc : Nat → ClassId) (ro : Nat → Nat) (b0 : Nat) {a0 : Nat} {x1 : Int32} {x2 : Int32} {hp : zHp} {sz : Nat} {r : zHp} (h : f_X8_opens a0 x1 x2 hp = some r) : zis hp a0 8 = some () ∧ zM l yX8_opens cX8_opens 3 none 2 0 0 [.ref a0, .int x1, .int x2] D tc ro b0 hp sz ((zoV sz) r).1 ((zoV sz) r).2.1 ((zoV sz) r).2.2 := by
  refine ⟨?_, z_start (o := (zoV sz)) (lv := [(0, .ref a0), (1, .int x1), (2, .int x2)]) h (by decide +kernel) RX8 rfl rfl (Nat.le_of_ble_eq_true rfl) (fun P C => ?_)⟩
  · unfold f_X8_opens at h
    cases hc : zis hp a0 8 with
    | none => rw [hc] at h; cases h
    | some u => rfl
  unfold f_X8_opens
  refine z_is ?_
  refine z_aload_n C dX8_opens_0 0 rfl ?_
  refine z_iload_n C dX8_opens_1 1 rfl ?_
  refine z_iconst C dX8_opens_2 zi_0 ?_
  refine z_iload_n C dX8_opens_3 2 rfl ?_
  refine z_callVv C zc_X8_209 [.int x1, .int (0 : Int32), .int x2] (fun l D tc b0 r h => m_X8_sets l D tc ro b0 h) dX8_opens_4 rfl rfl (Nat.le_of_ble_eq_true rfl) (by decide) (by decide) ⟨Nat.le_of_ble_eq_true rfl, Nat.le_of_ble_eq_true rfl⟩ (fun h1 => ?_)
  refine z_aload_n C dX8_opens_7 0 rfl ?_
  refine z_iload_n C dX8_opens_8 1 rfl ?_
  refine z_iconst C dX8_opens_9 zi_1 ?_
  refine z_iconst C dX8_opens_10 zi_0 ?_
  refine z_callVv C zc_X8_209 [.int x1, .int (1 : Int32), .int (0 : Int32)] (fun l D tc b0 r h => m_X8_sets l D tc ro b0 h) dX8_opens_11 rfl rfl (Nat.le_of_ble_eq_true rfl) (by decide) (by decide) ⟨Nat.le_of_ble_eq_true rfl, Nat.le_of_ble_eq_true rfl⟩ (fun h2 => ?_)
  exact z_return C dX8_opens_14
noncomputable def f_X8_open (a0 : Nat) (x1 : Int32) (x2 : Int32) (hp : zHp) : Option (Int32 × zHp) :=
  (zis hp a0 8).bind fun _ => (zpV hp a0 8 0 (.int (0 : Int32))).bind fun h1 => (f_X8_is a0 (3 : Int32) x1 h1).bind fun v2 => if v2 = 0 then (some ((-1 : Int32), h1)) else (f_X8_is a0 (4 : Int32) x2 h1).bind fun v3 => if v3 = 0 then (some ((-1 : Int32), h1)) else (f_X8_of a0 x1 (0 : Int32) h1).bind fun v4 => if v4 = (-4 : Int32) then ((f_X8_boxOn a0 x2 h1).bind fun v5 => if v5 = (-1 : Int32) then ((zgR h1 a0 8 3).bind fun r6 => (zaI h1 0 r6 ((44 : Int32) + x1)).bind fun v7 => (f_X8_isDeclared a0 v7 h1).bind fun v8 => if v8 = 0 then ((f_X8_isGood a0 x1 h1).bind fun v9 => if v9 = 0 then (some ((-7 : Int32), h1)) else (f_X8_keeps a0 h1).bind fun h10 => (f_X8_of a0 x1 (1 : Int32) h10).bind fun v11 => (f_X8_opens a0 x1 x2 h10).bind fun h12 => some (v11, h12)) else some ((-6 : Int32), h1)) else some ((-6 : Int32), h1)) else some ((-6 : Int32), h1)
set_option maxHeartbeats 4000000 in
set_option maxRecDepth 100000 in
theorem m_X8_open (l : Launch) (D : va_G) (tc : Nat → ClassId) (ro : Nat → Nat) (b0 : Nat) {a0 : Nat} {x1 : Int32} {x2 : Int32} {hp : zHp} {sz : Nat} {r : (Int32 × zHp)} (h : f_X8_open a0 x1 x2 hp = some r) : zis hp a0 8 = some () ∧ zM l yX8_open cX8_open 4 (some .int) 4 0 0 [.ref a0, .int x1, .int x2] D tc ro b0 hp sz ((zoI sz) r).1 ((zoI sz) r).2.1 ((zoI sz) r).2.2 := by
  refine ⟨?_, z_start (o := (zoI sz)) (lv := [(0, .ref a0), (1, .int x1), (2, .int x2)]) h (by decide +kernel) RX8 rfl rfl (Nat.le_of_ble_eq_true rfl) (fun P C => ?_)⟩
  · unfold f_X8_open at h
    cases hc : zis hp a0 8 with
    | none => rw [hc] at h; cases h
    | some u => rfl
  unfold f_X8_open
  refine z_is ?_
  refine z_aload_n C dX8_open_0 0 rfl ?_
  refine z_iconst C dX8_open_1 zi_0 ?_
  refine z_putI C zp_X8_38 dX8_open_2 (fun h1 => ?_)
  refine z_aload_n C dX8_open_5 0 rfl ?_
  refine z_iconst C dX8_open_6 zi_3 ?_
  refine z_iload_n C dX8_open_7 1 rfl ?_
  refine z_callVp C zc_X8_255 [.int (3 : Int32), .int x1] (fun l D tc b0 r h => m_X8_is l D tc ro b0 h) dX8_open_8 rfl rfl (Nat.le_of_ble_eq_true rfl) (by decide) (by decide) ⟨Nat.le_of_ble_eq_true rfl, Nat.le_of_ble_eq_true rfl⟩ (fun v2 => ?_)
  refine z_if_eq C 23 dX8_open_11 (by decide) ?_ ?_
  · refine z_iconst C dX8_open_23 zi_m1 ?_
    exact z_ireturn C dX8_open_24
  refine z_aload_n C dX8_open_14 0 rfl ?_
  refine z_iconst C dX8_open_15 zi_4 ?_
  refine z_iload_n C dX8_open_16 2 rfl ?_
  refine z_callVp C zc_X8_255 [.int (4 : Int32), .int x2] (fun l D tc b0 r h => m_X8_is l D tc ro b0 h) dX8_open_17 rfl rfl (Nat.le_of_ble_eq_true rfl) (by decide) (by decide) ⟨Nat.le_of_ble_eq_true rfl, Nat.le_of_ble_eq_true rfl⟩ (fun v3 => ?_)
  refine z_if_ne C 25 dX8_open_20 (by decide) ?_ ?_
  · refine z_iconst C dX8_open_23 zi_m1 ?_
    exact z_ireturn C dX8_open_24
  refine z_aload_n C dX8_open_25 0 rfl ?_
  refine z_iload_n C dX8_open_26 1 rfl ?_
  refine z_iconst C dX8_open_27 zi_0 ?_
  refine z_callVp C zc_X8_48 [.int x1, .int (0 : Int32)] (fun l D tc b0 r h => m_X8_of l D tc ro b0 h) dX8_open_28 rfl rfl (Nat.le_of_ble_eq_true rfl) (by decide) (by decide) ⟨Nat.le_of_ble_eq_true rfl, Nat.le_of_ble_eq_true rfl⟩ (fun v4 => ?_)
  refine z_bipush C dX8_open_31 zbi_m4 ?_
  refine z_icmp_ne C 61 dX8_open_33 (by decide) ?_ ?_
  · refine z_aload_n C dX8_open_36 0 rfl ?_
    refine z_iload_n C dX8_open_37 2 rfl ?_
    refine z_callVp C zc_X8_268 [.int x2] (fun l D tc b0 r h => m_X8_boxOn l D tc ro b0 h) dX8_open_38 rfl rfl (Nat.le_of_ble_eq_true rfl) (by decide) (by decide) ⟨Nat.le_of_ble_eq_true rfl, Nat.le_of_ble_eq_true rfl⟩ (fun v5 => ?_)
    refine z_iconst C dX8_open_41 zi_m1 ?_
    refine z_icmp_ne C 61 dX8_open_42 (by decide) ?_ ?_
    · refine z_aload_n C dX8_open_45 0 rfl ?_
      refine z_aload_n C dX8_open_46 0 rfl ?_
      refine z_getR C zf_X8_13 dX8_open_47 (fun r6 => ?_)
      refine z_bipush C dX8_open_50 zbi_44 ?_
      refine z_iload_n C dX8_open_52 1 rfl ?_
      refine z_iadd C dX8_open_53 ?_
      refine z_iaload C dX8_open_54 (fun v7 => ?_)
      refine z_callVp C zc_X8_109 [.int v7] (fun l D tc b0 r h => m_X8_isDeclared l D tc ro b0 h) dX8_open_55 rfl rfl (Nat.le_of_ble_eq_true rfl) (by decide) (by decide) ⟨Nat.le_of_ble_eq_true rfl, Nat.le_of_ble_eq_true rfl⟩ (fun v8 => ?_)
      refine z_if_eq C 64 dX8_open_58 (by decide) ?_ ?_
      · refine z_aload_n C dX8_open_64 0 rfl ?_
        refine z_iload_n C dX8_open_65 1 rfl ?_
        refine z_callVp C zc_X8_265 [.int x1] (fun l D tc b0 r h => m_X8_isGood l D tc ro b0 h) dX8_open_66 rfl rfl (Nat.le_of_ble_eq_true rfl) (by decide) (by decide) ⟨Nat.le_of_ble_eq_true rfl, Nat.le_of_ble_eq_true rfl⟩ (fun v9 => ?_)
        refine z_if_ne C 75 dX8_open_69 (by decide) ?_ ?_
        · refine z_bipush C dX8_open_72 zbi_m7 ?_
          exact z_ireturn C dX8_open_74
        refine z_aload_n C dX8_open_75 0 rfl ?_
        refine z_callVv C zc_X8_307 [] (fun l D tc b0 r h => m_X8_keeps l D tc ro b0 h) dX8_open_76 rfl rfl (Nat.le_of_ble_eq_true rfl) (by decide) (by decide) ⟨Nat.le_of_ble_eq_true rfl, Nat.le_of_ble_eq_true rfl⟩ (fun h10 => ?_)
        refine z_aload_n C dX8_open_79 0 rfl ?_
        refine z_iload_n C dX8_open_80 1 rfl ?_
        refine z_iconst C dX8_open_81 zi_1 ?_
        refine z_callVp C zc_X8_48 [.int x1, .int (1 : Int32)] (fun l D tc b0 r h => m_X8_of l D tc ro b0 h) dX8_open_82 rfl rfl (Nat.le_of_ble_eq_true rfl) (by decide) (by decide) ⟨Nat.le_of_ble_eq_true rfl, Nat.le_of_ble_eq_true rfl⟩ (fun v11 => ?_)
        refine z_istore_n (lv' := [(0, .ref a0), (1, .int x1), (2, .int x2), (3, .int v11)]) C dX8_open_85 (by decide) rfl ?_
        refine z_aload_n C dX8_open_86 0 rfl ?_
        refine z_iload_n C dX8_open_87 1 rfl ?_
        refine z_iload_n C dX8_open_88 2 rfl ?_
        refine z_callVv C zc_X8_313 [.int x1, .int x2] (fun l D tc b0 r h => m_X8_opens l D tc ro b0 h) dX8_open_89 rfl rfl (Nat.le_of_ble_eq_true rfl) (by decide) (by decide) ⟨Nat.le_of_ble_eq_true rfl, Nat.le_of_ble_eq_true rfl⟩ (fun h12 => ?_)
        refine z_iload_n C dX8_open_92 3 rfl ?_
        exact z_ireturn C dX8_open_93
      refine z_bipush C dX8_open_61 zbi_m6 ?_
      exact z_ireturn C dX8_open_63
    refine z_bipush C dX8_open_61 zbi_m6 ?_
    exact z_ireturn C dX8_open_63
  refine z_bipush C dX8_open_61 zbi_m6 ?_
  exact z_ireturn C dX8_open_63
noncomputable def b_X8_counts_20 (k58 : zHp → Option zHp) (a0 : Nat) (x1 : Int32) (x2 : Int32) (x3 : Int32) (rec : Int32 → zHp → Option zHp) (x4 : Int32) (h : zHp) : Option zHp :=
  (f_X8_piles a0 h).bind fun v3 => if x4 < v3 then ((f_X8_finds a0 x2 x1 x4 h).bind fun v4 => (f_X8_sets a0 x1 (((20 : Int32) + ((6 : Int32) * x3)) + x4) v4 h).bind fun h5 => zlet (x4 + (1 : Int32)) fun v6 => rec v6 h5) else k58 h
noncomputable def l_X8_counts_20 (k58 : zHp → Option zHp) (a0 : Nat) (x1 : Int32) (x2 : Int32) (x3 : Int32) (n : Nat) : Int32 → zHp → Option zHp :=
  Nat.rec (motive := fun _ => Int32 → zHp → Option zHp) (fun _ _ => none) (fun _ rec => b_X8_counts_20 k58 a0 x1 x2 x3 rec) n
theorem l_X8_counts_20_s (k58 : zHp → Option zHp) (a0 : Nat) (x1 : Int32) (x2 : Int32) (x3 : Int32) (n : Nat) (x4 : Int32) (h : zHp) : l_X8_counts_20 k58 a0 x1 x2 x3 (n + 1) x4 h = b_X8_counts_20 k58 a0 x1 x2 x3 (l_X8_counts_20 k58 a0 x1 x2 x3 n) x4 h := rfl
set_option maxHeartbeats 4000000 in
set_option maxRecDepth 100000 in
theorem wl_X8_counts_20 {P : zX} {ro : Nat → Nat} {sz : Nat} (C : zC P cX8_counts RX8 none 4 0 0 5 ro) {a0 : Nat} {x1 : Int32} {x2 : Int32} {x3 : Int32} {k58 : zHp → Option zHp} (hk58 : ∀ (h : zHp), zG P (zoV sz) (k58 h) 58 [(0, .ref a0), (1, .int x1), (3, .int x3)] [] h sz 0 0) : ∀ (n : Nat) (x4 : Int32) (h : zHp), zG P (zoV sz) (l_X8_counts_20 k58 a0 x1 x2 x3 n x4 h) 20 [(0, .ref a0), (1, .int x1), (2, .int x2), (3, .int x3), (4, .int x4)] [] h sz 0 0 := by
  intro n
  induction n with
  | zero =>
    intro x4 h
    show zG P (zoV sz) none _ _ _ _ _ _ _
    exact z_none
  | succ n ih =>
    intro x4 h
    show zG P (zoV sz) (b_X8_counts_20 k58 a0 x1 x2 x3 (l_X8_counts_20 k58 a0 x1 x2 x3 n) x4 h) _ _ _ _ _ _ _
    unfold b_X8_counts_20
    refine z_iload C dX8_counts_20 4 rfl ?_
    refine z_aload_n C dX8_counts_22 0 rfl ?_
    refine z_callVp C zc_X8_59 [] (fun l D tc b0 r h => m_X8_piles l D tc ro b0 h) dX8_counts_23 rfl rfl (Nat.le_of_ble_eq_true rfl) (by decide) (by decide) ⟨Nat.le_of_ble_eq_true rfl, Nat.le_of_ble_eq_true rfl⟩ (fun v3 => ?_)
    refine z_icmp_ge C 58 dX8_counts_26 (by decide) ?_ ?_
    · refine z_aload_n C dX8_counts_29 0 rfl ?_
      refine z_iload_n C dX8_counts_30 1 rfl ?_
      refine z_bipush C dX8_counts_31 zbi_20 ?_
      refine z_bipush C dX8_counts_33 zbi_6 ?_
      refine z_iload_n C dX8_counts_35 3 rfl ?_
      refine z_imul C dX8_counts_36 ?_
      refine z_iadd C dX8_counts_37 ?_
      refine z_iload C dX8_counts_38 4 rfl ?_
      refine z_iadd C dX8_counts_40 ?_
      refine z_aload_n C dX8_counts_41 0 rfl ?_
      refine z_iload_n C dX8_counts_42 2 rfl ?_
      refine z_iload_n C dX8_counts_43 1 rfl ?_
      refine z_iload C dX8_counts_44 4 rfl ?_
      refine z_callVp C zc_X8_274 [.int x2, .int x1, .int x4] (fun l D tc b0 r h => m_X8_finds l D tc ro b0 h) dX8_counts_46 rfl rfl (Nat.le_of_ble_eq_true rfl) (by decide) (by decide) ⟨Nat.le_of_ble_eq_true rfl, Nat.le_of_ble_eq_true rfl⟩ (fun v4 => ?_)
      refine z_callVv C zc_X8_209 [.int x1, .int (((20 : Int32) + ((6 : Int32) * x3)) + x4), .int v4] (fun l D tc b0 r h => m_X8_sets l D tc ro b0 h) dX8_counts_49 rfl rfl (Nat.le_of_ble_eq_true rfl) (by decide) (by decide) ⟨Nat.le_of_ble_eq_true rfl, Nat.le_of_ble_eq_true rfl⟩ (fun h5 => ?_)
      refine z_iincL C 4 (fun v6 => [(0, .ref a0), (1, .int x1), (2, .int x2), (3, .int x3), (4, .int v6)]) dX8_counts_52 rfl zi_1 (by decide) (fun _ => rfl) (fun v6 => ?_)
      refine z_goto C 20 dX8_counts_55 (by decide) ?_
      exact ih _ _
    exact z_sub [0, 1, 3] rfl (hk58 _)
noncomputable def f_X8_counts (a0 : Nat) (x1 : Int32) (x2 : Int32) (hp : zHp) : Option zHp :=
  (zis hp a0 8).bind fun _ => (f_X8_of a0 x1 (3 : Int32) hp).bind fun v1 => (f_X8_sets a0 x1 ((16 : Int32) + v1) x2 hp).bind fun h2 => l_X8_counts_20 (fun h7 => (f_X8_sets a0 x1 (3 : Int32) (v1 + (1 : Int32)) h7).bind fun h8 => some h8) a0 x1 x2 v1 1000000 (0 : Int32) h2
set_option maxHeartbeats 4000000 in
set_option maxRecDepth 100000 in
theorem m_X8_counts (l : Launch) (D : va_G) (tc : Nat → ClassId) (ro : Nat → Nat) (b0 : Nat) {a0 : Nat} {x1 : Int32} {x2 : Int32} {hp : zHp} {sz : Nat} {r : zHp} (h : f_X8_counts a0 x1 x2 hp = some r) : zis hp a0 8 = some () ∧ zM l yX8_counts cX8_counts 5 none 4 0 0 [.ref a0, .int x1, .int x2] D tc ro b0 hp sz ((zoV sz) r).1 ((zoV sz) r).2.1 ((zoV sz) r).2.2 := by
  refine ⟨?_, z_start (o := (zoV sz)) (lv := [(0, .ref a0), (1, .int x1), (2, .int x2)]) h (by decide +kernel) RX8 rfl rfl (Nat.le_of_ble_eq_true rfl) (fun P C => ?_)⟩
  · unfold f_X8_counts at h
    cases hc : zis hp a0 8 with
    | none => rw [hc] at h; cases h
    | some u => rfl
  unfold f_X8_counts
  refine z_is ?_
  refine z_aload_n C dX8_counts_0 0 rfl ?_
  refine z_iload_n C dX8_counts_1 1 rfl ?_
  refine z_iconst C dX8_counts_2 zi_3 ?_
  refine z_callVp C zc_X8_48 [.int x1, .int (3 : Int32)] (fun l D tc b0 r h => m_X8_of l D tc ro b0 h) dX8_counts_3 rfl rfl (Nat.le_of_ble_eq_true rfl) (by decide) (by decide) ⟨Nat.le_of_ble_eq_true rfl, Nat.le_of_ble_eq_true rfl⟩ (fun v1 => ?_)
  refine z_istore_n (lv' := [(0, .ref a0), (1, .int x1), (2, .int x2), (3, .int v1)]) C dX8_counts_6 (by decide) rfl ?_
  refine z_aload_n C dX8_counts_7 0 rfl ?_
  refine z_iload_n C dX8_counts_8 1 rfl ?_
  refine z_bipush C dX8_counts_9 zbi_16 ?_
  refine z_iload_n C dX8_counts_11 3 rfl ?_
  refine z_iadd C dX8_counts_12 ?_
  refine z_iload_n C dX8_counts_13 2 rfl ?_
  refine z_callVv C zc_X8_209 [.int x1, .int ((16 : Int32) + v1), .int x2] (fun l D tc b0 r h => m_X8_sets l D tc ro b0 h) dX8_counts_14 rfl rfl (Nat.le_of_ble_eq_true rfl) (by decide) (by decide) ⟨Nat.le_of_ble_eq_true rfl, Nat.le_of_ble_eq_true rfl⟩ (fun h2 => ?_)
  refine z_iconst C dX8_counts_17 zi_0 ?_
  refine z_istore (lv' := [(0, .ref a0), (1, .int x1), (2, .int x2), (3, .int v1), (4, .int (0 : Int32))]) C dX8_counts_18 (by decide) rfl ?_
  refine wl_X8_counts_20 C (fun h7 => ?_) _ _ _
  refine z_aload_n C dX8_counts_58 0 rfl ?_
  refine z_iload_n C dX8_counts_59 1 rfl ?_
  refine z_iconst C dX8_counts_60 zi_3 ?_
  refine z_iload_n C dX8_counts_61 2 rfl ?_
  refine z_iconst C dX8_counts_62 zi_1 ?_
  refine z_iadd C dX8_counts_63 ?_
  refine z_callVv C zc_X8_209 [.int x1, .int (3 : Int32), .int (v1 + (1 : Int32))] (fun l D tc b0 r h => m_X8_sets l D tc ro b0 h) dX8_counts_64 rfl rfl (Nat.le_of_ble_eq_true rfl) (by decide) (by decide) ⟨Nat.le_of_ble_eq_true rfl, Nat.le_of_ble_eq_true rfl⟩ (fun h8 => ?_)
  exact z_return C dX8_counts_67
noncomputable def f_X8_countBox (a0 : Nat) (x1 : Int32) (hp : zHp) : Option (Int32 × zHp) :=
  (zis hp a0 8).bind fun _ => (zpV hp a0 8 0 (.int (0 : Int32))).bind fun h1 => (f_X8_is a0 (4 : Int32) x1 h1).bind fun v2 => if v2 = 0 then (some ((-1 : Int32), h1)) else (f_X8_boxOn a0 x1 h1).bind fun v3 => if v3 = (-1 : Int32) then (some ((-6 : Int32), h1)) else (f_X8_of a0 v3 (3 : Int32) h1).bind fun v4 => if v4 = (4 : Int32) then (some ((-5 : Int32), h1)) else (f_X8_keeps a0 h1).bind fun h5 => (f_X8_counts a0 v3 x1 h5).bind fun h6 => (f_X8_of a0 v3 (3 : Int32) h6).bind fun v7 => some (v7, h6)
set_option maxHeartbeats 4000000 in
set_option maxRecDepth 100000 in
theorem m_X8_countBox (l : Launch) (D : va_G) (tc : Nat → ClassId) (ro : Nat → Nat) (b0 : Nat) {a0 : Nat} {x1 : Int32} {hp : zHp} {sz : Nat} {r : (Int32 × zHp)} (h : f_X8_countBox a0 x1 hp = some r) : zis hp a0 8 = some () ∧ zM l yX8_countBox cX8_countBox 3 (some .int) 5 0 0 [.ref a0, .int x1] D tc ro b0 hp sz ((zoI sz) r).1 ((zoI sz) r).2.1 ((zoI sz) r).2.2 := by
  refine ⟨?_, z_start (o := (zoI sz)) (lv := [(0, .ref a0), (1, .int x1)]) h (by decide +kernel) RX8 rfl rfl (Nat.le_of_ble_eq_true rfl) (fun P C => ?_)⟩
  · unfold f_X8_countBox at h
    cases hc : zis hp a0 8 with
    | none => rw [hc] at h; cases h
    | some u => rfl
  unfold f_X8_countBox
  refine z_is ?_
  refine z_aload_n C dX8_countBox_0 0 rfl ?_
  refine z_iconst C dX8_countBox_1 zi_0 ?_
  refine z_putI C zp_X8_38 dX8_countBox_2 (fun h1 => ?_)
  refine z_aload_n C dX8_countBox_5 0 rfl ?_
  refine z_iconst C dX8_countBox_6 zi_4 ?_
  refine z_iload_n C dX8_countBox_7 1 rfl ?_
  refine z_callVp C zc_X8_255 [.int (4 : Int32), .int x1] (fun l D tc b0 r h => m_X8_is l D tc ro b0 h) dX8_countBox_8 rfl rfl (Nat.le_of_ble_eq_true rfl) (by decide) (by decide) ⟨Nat.le_of_ble_eq_true rfl, Nat.le_of_ble_eq_true rfl⟩ (fun v2 => ?_)
  refine z_if_ne C 16 dX8_countBox_11 (by decide) ?_ ?_
  · refine z_iconst C dX8_countBox_14 zi_m1 ?_
    exact z_ireturn C dX8_countBox_15
  refine z_aload_n C dX8_countBox_16 0 rfl ?_
  refine z_iload_n C dX8_countBox_17 1 rfl ?_
  refine z_callVp C zc_X8_268 [.int x1] (fun l D tc b0 r h => m_X8_boxOn l D tc ro b0 h) dX8_countBox_18 rfl rfl (Nat.le_of_ble_eq_true rfl) (by decide) (by decide) ⟨Nat.le_of_ble_eq_true rfl, Nat.le_of_ble_eq_true rfl⟩ (fun v3 => ?_)
  refine z_istore_n (lv' := [(0, .ref a0), (1, .int x1), (2, .int v3)]) C dX8_countBox_21 (by decide) rfl ?_
  refine z_iload_n C dX8_countBox_22 2 rfl ?_
  refine z_iconst C dX8_countBox_23 zi_m1 ?_
  refine z_icmp_ne C 30 dX8_countBox_24 (by decide) ?_ ?_
  · refine z_bipush C dX8_countBox_27 zbi_m6 ?_
    exact z_ireturn C dX8_countBox_29
  refine z_aload_n C dX8_countBox_30 0 rfl ?_
  refine z_iload_n C dX8_countBox_31 2 rfl ?_
  refine z_iconst C dX8_countBox_32 zi_3 ?_
  refine z_callVp C zc_X8_48 [.int v3, .int (3 : Int32)] (fun l D tc b0 r h => m_X8_of l D tc ro b0 h) dX8_countBox_33 rfl rfl (Nat.le_of_ble_eq_true rfl) (by decide) (by decide) ⟨Nat.le_of_ble_eq_true rfl, Nat.le_of_ble_eq_true rfl⟩ (fun v4 => ?_)
  refine z_iconst C dX8_countBox_36 zi_4 ?_
  refine z_icmp_ne C 43 dX8_countBox_37 (by decide) ?_ ?_
  · refine z_bipush C dX8_countBox_40 zbi_m5 ?_
    exact z_ireturn C dX8_countBox_42
  refine z_aload_n C dX8_countBox_43 0 rfl ?_
  refine z_callVv C zc_X8_307 [] (fun l D tc b0 r h => m_X8_keeps l D tc ro b0 h) dX8_countBox_44 rfl rfl (Nat.le_of_ble_eq_true rfl) (by decide) (by decide) ⟨Nat.le_of_ble_eq_true rfl, Nat.le_of_ble_eq_true rfl⟩ (fun h5 => ?_)
  refine z_aload_n C dX8_countBox_47 0 rfl ?_
  refine z_iload_n C dX8_countBox_48 2 rfl ?_
  refine z_iload_n C dX8_countBox_49 1 rfl ?_
  refine z_callVv C zc_X8_317 [.int v3, .int x1] (fun l D tc b0 r h => m_X8_counts l D tc ro b0 h) dX8_countBox_50 rfl rfl (Nat.le_of_ble_eq_true rfl) (by decide) (by decide) ⟨Nat.le_of_ble_eq_true rfl, Nat.le_of_ble_eq_true rfl⟩ (fun h6 => ?_)
  refine z_aload_n C dX8_countBox_53 0 rfl ?_
  refine z_iload_n C dX8_countBox_54 2 rfl ?_
  refine z_iconst C dX8_countBox_55 zi_3 ?_
  refine z_callVp C zc_X8_48 [.int v3, .int (3 : Int32)] (fun l D tc b0 r h => m_X8_of l D tc ro b0 h) dX8_countBox_56 rfl rfl (Nat.le_of_ble_eq_true rfl) (by decide) (by decide) ⟨Nat.le_of_ble_eq_true rfl, Nat.le_of_ble_eq_true rfl⟩ (fun v7 => ?_)
  exact z_ireturn C dX8_countBox_59
noncomputable def f_X8_enters (a0 : Nat) (x1 : Int32) (x2 : Int32) (hp : zHp) : Option zHp :=
  (zis hp a0 8).bind fun _ => (f_X8_of a0 x1 (2 : Int32) hp).bind fun v1 => (f_X8_sets a0 x1 ((4 : Int32) + v1) x2 hp).bind fun h2 => (f_X8_of a0 x1 (2 : Int32) h2).bind fun v3 => (f_X8_sets a0 x1 (2 : Int32) (v3 + (1 : Int32)) h2).bind fun h4 => some h4
set_option maxHeartbeats 4000000 in
set_option maxRecDepth 100000 in
theorem m_X8_enters (l : Launch) (D : va_G) (tc : Nat → ClassId) (ro : Nat → Nat) (b0 : Nat) {a0 : Nat} {x1 : Int32} {x2 : Int32} {hp : zHp} {sz : Nat} {r : zHp} (h : f_X8_enters a0 x1 x2 hp = some r) : zis hp a0 8 = some () ∧ zM l yX8_enters cX8_enters 3 none 2 0 0 [.ref a0, .int x1, .int x2] D tc ro b0 hp sz ((zoV sz) r).1 ((zoV sz) r).2.1 ((zoV sz) r).2.2 := by
  refine ⟨?_, z_start (o := (zoV sz)) (lv := [(0, .ref a0), (1, .int x1), (2, .int x2)]) h (by decide +kernel) RX8 rfl rfl (Nat.le_of_ble_eq_true rfl) (fun P C => ?_)⟩
  · unfold f_X8_enters at h
    cases hc : zis hp a0 8 with
    | none => rw [hc] at h; cases h
    | some u => rfl
  unfold f_X8_enters
  refine z_is ?_
  refine z_aload_n C dX8_enters_0 0 rfl ?_
  refine z_iload_n C dX8_enters_1 1 rfl ?_
  refine z_iconst C dX8_enters_2 zi_4 ?_
  refine z_aload_n C dX8_enters_3 0 rfl ?_
  refine z_iload_n C dX8_enters_4 1 rfl ?_
  refine z_iconst C dX8_enters_5 zi_2 ?_
  refine z_callVp C zc_X8_48 [.int x1, .int (2 : Int32)] (fun l D tc b0 r h => m_X8_of l D tc ro b0 h) dX8_enters_6 rfl rfl (Nat.le_of_ble_eq_true rfl) (by decide) (by decide) ⟨Nat.le_of_ble_eq_true rfl, Nat.le_of_ble_eq_true rfl⟩ (fun v1 => ?_)
  refine z_iadd C dX8_enters_9 ?_
  refine z_iload_n C dX8_enters_10 2 rfl ?_
  refine z_callVv C zc_X8_209 [.int x1, .int ((4 : Int32) + v1), .int x2] (fun l D tc b0 r h => m_X8_sets l D tc ro b0 h) dX8_enters_11 rfl rfl (Nat.le_of_ble_eq_true rfl) (by decide) (by decide) ⟨Nat.le_of_ble_eq_true rfl, Nat.le_of_ble_eq_true rfl⟩ (fun h2 => ?_)
  refine z_aload_n C dX8_enters_14 0 rfl ?_
  refine z_iload_n C dX8_enters_15 1 rfl ?_
  refine z_iconst C dX8_enters_16 zi_2 ?_
  refine z_aload_n C dX8_enters_17 0 rfl ?_
  refine z_iload_n C dX8_enters_18 1 rfl ?_
  refine z_iconst C dX8_enters_19 zi_2 ?_
  refine z_callVp C zc_X8_48 [.int x1, .int (2 : Int32)] (fun l D tc b0 r h => m_X8_of l D tc ro b0 h) dX8_enters_20 rfl rfl (Nat.le_of_ble_eq_true rfl) (by decide) (by decide) ⟨Nat.le_of_ble_eq_true rfl, Nat.le_of_ble_eq_true rfl⟩ (fun v3 => ?_)
  refine z_iconst C dX8_enters_23 zi_1 ?_
  refine z_iadd C dX8_enters_24 ?_
  refine z_callVv C zc_X8_209 [.int x1, .int (2 : Int32), .int (v3 + (1 : Int32))] (fun l D tc b0 r h => m_X8_sets l D tc ro b0 h) dX8_enters_25 rfl rfl (Nat.le_of_ble_eq_true rfl) (by decide) (by decide) ⟨Nat.le_of_ble_eq_true rfl, Nat.le_of_ble_eq_true rfl⟩ (fun h4 => ?_)
  exact z_return C dX8_enters_28
noncomputable def f_X8_seals (a0 : Nat) (x1 : Int32) (hp : zHp) : Option zHp :=
  (zis hp a0 8).bind fun _ => (zgR hp a0 8 5).bind fun r1 => (zaI hp 0 r1 (2 : Int32)).bind fun v2 => (f_X8_enters a0 x1 v2 hp).bind fun h3 => (zgR h3 a0 8 5).bind fun r4 => (zaI h3 0 r4 (2 : Int32)).bind fun v5 => (f_X8_sets a0 x1 (1 : Int32) v5 h3).bind fun h6 => (f_X8_sets a0 x1 (0 : Int32) (-4 : Int32) h6).bind fun h7 => (zgR h7 a0 8 5).bind fun r8 => (zaI h7 0 r8 (2 : Int32)).bind fun v9 => (zsI h7 r8 (2 : Int32) (v9 + (1 : Int32))).bind fun h10 => some h10
set_option maxHeartbeats 4000000 in
set_option maxRecDepth 100000 in
theorem m_X8_seals (l : Launch) (D : va_G) (tc : Nat → ClassId) (ro : Nat → Nat) (b0 : Nat) {a0 : Nat} {x1 : Int32} {hp : zHp} {sz : Nat} {r : zHp} (h : f_X8_seals a0 x1 hp = some r) : zis hp a0 8 = some () ∧ zM l yX8_seals cX8_seals 2 none 3 0 0 [.ref a0, .int x1] D tc ro b0 hp sz ((zoV sz) r).1 ((zoV sz) r).2.1 ((zoV sz) r).2.2 := by
  refine ⟨?_, z_start (o := (zoV sz)) (lv := [(0, .ref a0), (1, .int x1)]) h (by decide +kernel) RX8 rfl rfl (Nat.le_of_ble_eq_true rfl) (fun P C => ?_)⟩
  · unfold f_X8_seals at h
    cases hc : zis hp a0 8 with
    | none => rw [hc] at h; cases h
    | some u => rfl
  unfold f_X8_seals
  refine z_is ?_
  refine z_aload_n C dX8_seals_0 0 rfl ?_
  refine z_iload_n C dX8_seals_1 1 rfl ?_
  refine z_aload_n C dX8_seals_2 0 rfl ?_
  refine z_getR C zf_X8_19 dX8_seals_3 (fun r1 => ?_)
  refine z_iconst C dX8_seals_6 zi_2 ?_
  refine z_iaload C dX8_seals_7 (fun v2 => ?_)
  refine z_callVv C zc_X8_320 [.int x1, .int v2] (fun l D tc b0 r h => m_X8_enters l D tc ro b0 h) dX8_seals_8 rfl rfl (Nat.le_of_ble_eq_true rfl) (by decide) (by decide) ⟨Nat.le_of_ble_eq_true rfl, Nat.le_of_ble_eq_true rfl⟩ (fun h3 => ?_)
  refine z_aload_n C dX8_seals_11 0 rfl ?_
  refine z_iload_n C dX8_seals_12 1 rfl ?_
  refine z_iconst C dX8_seals_13 zi_1 ?_
  refine z_aload_n C dX8_seals_14 0 rfl ?_
  refine z_getR C zf_X8_19 dX8_seals_15 (fun r4 => ?_)
  refine z_iconst C dX8_seals_18 zi_2 ?_
  refine z_iaload C dX8_seals_19 (fun v5 => ?_)
  refine z_callVv C zc_X8_209 [.int x1, .int (1 : Int32), .int v5] (fun l D tc b0 r h => m_X8_sets l D tc ro b0 h) dX8_seals_20 rfl rfl (Nat.le_of_ble_eq_true rfl) (by decide) (by decide) ⟨Nat.le_of_ble_eq_true rfl, Nat.le_of_ble_eq_true rfl⟩ (fun h6 => ?_)
  refine z_aload_n C dX8_seals_23 0 rfl ?_
  refine z_iload_n C dX8_seals_24 1 rfl ?_
  refine z_iconst C dX8_seals_25 zi_0 ?_
  refine z_bipush C dX8_seals_26 zbi_m4 ?_
  refine z_callVv C zc_X8_209 [.int x1, .int (0 : Int32), .int (-4 : Int32)] (fun l D tc b0 r h => m_X8_sets l D tc ro b0 h) dX8_seals_28 rfl rfl (Nat.le_of_ble_eq_true rfl) (by decide) (by decide) ⟨Nat.le_of_ble_eq_true rfl, Nat.le_of_ble_eq_true rfl⟩ (fun h7 => ?_)
  refine z_aload_n C dX8_seals_31 0 rfl ?_
  refine z_getR C zf_X8_19 dX8_seals_32 (fun r8 => ?_)
  refine z_iconst C dX8_seals_35 zi_2 ?_
  refine z_dup2 C dX8_seals_36 rfl rfl ?_
  refine z_iaload C dX8_seals_37 (fun v9 => ?_)
  refine z_iconst C dX8_seals_38 zi_1 ?_
  refine z_iadd C dX8_seals_39 ?_
  refine z_iastore C dX8_seals_40 (fun h10 => ?_)
  exact z_return C dX8_seals_41
noncomputable def f_X8_seal (a0 : Nat) (x1 : Int32) (hp : zHp) : Option (Int32 × zHp) :=
  (zis hp a0 8).bind fun _ => (zpV hp a0 8 0 (.int (0 : Int32))).bind fun h1 => (f_X8_is a0 (4 : Int32) x1 h1).bind fun v2 => if v2 = 0 then (some ((-1 : Int32), h1)) else (f_X8_boxOn a0 x1 h1).bind fun v3 => if v3 = (-1 : Int32) then (some ((-6 : Int32), h1)) else (f_X8_of a0 v3 (2 : Int32) h1).bind fun v4 => if v4 = (12 : Int32) then (some ((-5 : Int32), h1)) else (f_X8_keeps a0 h1).bind fun h5 => (f_X8_seals a0 v3 h5).bind fun h6 => (f_X8_of a0 v3 (1 : Int32) h6).bind fun v7 => some (v7, h6)
set_option maxHeartbeats 4000000 in
set_option maxRecDepth 100000 in
theorem m_X8_seal (l : Launch) (D : va_G) (tc : Nat → ClassId) (ro : Nat → Nat) (b0 : Nat) {a0 : Nat} {x1 : Int32} {hp : zHp} {sz : Nat} {r : (Int32 × zHp)} (h : f_X8_seal a0 x1 hp = some r) : zis hp a0 8 = some () ∧ zM l yX8_seal cX8_seal 3 (some .int) 4 0 0 [.ref a0, .int x1] D tc ro b0 hp sz ((zoI sz) r).1 ((zoI sz) r).2.1 ((zoI sz) r).2.2 := by
  refine ⟨?_, z_start (o := (zoI sz)) (lv := [(0, .ref a0), (1, .int x1)]) h (by decide +kernel) RX8 rfl rfl (Nat.le_of_ble_eq_true rfl) (fun P C => ?_)⟩
  · unfold f_X8_seal at h
    cases hc : zis hp a0 8 with
    | none => rw [hc] at h; cases h
    | some u => rfl
  unfold f_X8_seal
  refine z_is ?_
  refine z_aload_n C dX8_seal_0 0 rfl ?_
  refine z_iconst C dX8_seal_1 zi_0 ?_
  refine z_putI C zp_X8_38 dX8_seal_2 (fun h1 => ?_)
  refine z_aload_n C dX8_seal_5 0 rfl ?_
  refine z_iconst C dX8_seal_6 zi_4 ?_
  refine z_iload_n C dX8_seal_7 1 rfl ?_
  refine z_callVp C zc_X8_255 [.int (4 : Int32), .int x1] (fun l D tc b0 r h => m_X8_is l D tc ro b0 h) dX8_seal_8 rfl rfl (Nat.le_of_ble_eq_true rfl) (by decide) (by decide) ⟨Nat.le_of_ble_eq_true rfl, Nat.le_of_ble_eq_true rfl⟩ (fun v2 => ?_)
  refine z_if_ne C 16 dX8_seal_11 (by decide) ?_ ?_
  · refine z_iconst C dX8_seal_14 zi_m1 ?_
    exact z_ireturn C dX8_seal_15
  refine z_aload_n C dX8_seal_16 0 rfl ?_
  refine z_iload_n C dX8_seal_17 1 rfl ?_
  refine z_callVp C zc_X8_268 [.int x1] (fun l D tc b0 r h => m_X8_boxOn l D tc ro b0 h) dX8_seal_18 rfl rfl (Nat.le_of_ble_eq_true rfl) (by decide) (by decide) ⟨Nat.le_of_ble_eq_true rfl, Nat.le_of_ble_eq_true rfl⟩ (fun v3 => ?_)
  refine z_istore_n (lv' := [(0, .ref a0), (1, .int x1), (2, .int v3)]) C dX8_seal_21 (by decide) rfl ?_
  refine z_iload_n C dX8_seal_22 2 rfl ?_
  refine z_iconst C dX8_seal_23 zi_m1 ?_
  refine z_icmp_ne C 30 dX8_seal_24 (by decide) ?_ ?_
  · refine z_bipush C dX8_seal_27 zbi_m6 ?_
    exact z_ireturn C dX8_seal_29
  refine z_aload_n C dX8_seal_30 0 rfl ?_
  refine z_iload_n C dX8_seal_31 2 rfl ?_
  refine z_iconst C dX8_seal_32 zi_2 ?_
  refine z_callVp C zc_X8_48 [.int v3, .int (2 : Int32)] (fun l D tc b0 r h => m_X8_of l D tc ro b0 h) dX8_seal_33 rfl rfl (Nat.le_of_ble_eq_true rfl) (by decide) (by decide) ⟨Nat.le_of_ble_eq_true rfl, Nat.le_of_ble_eq_true rfl⟩ (fun v4 => ?_)
  refine z_bipush C dX8_seal_36 zbi_12 ?_
  refine z_icmp_ne C 44 dX8_seal_38 (by decide) ?_ ?_
  · refine z_bipush C dX8_seal_41 zbi_m5 ?_
    exact z_ireturn C dX8_seal_43
  refine z_aload_n C dX8_seal_44 0 rfl ?_
  refine z_callVv C zc_X8_307 [] (fun l D tc b0 r h => m_X8_keeps l D tc ro b0 h) dX8_seal_45 rfl rfl (Nat.le_of_ble_eq_true rfl) (by decide) (by decide) ⟨Nat.le_of_ble_eq_true rfl, Nat.le_of_ble_eq_true rfl⟩ (fun h5 => ?_)
  refine z_aload_n C dX8_seal_48 0 rfl ?_
  refine z_iload_n C dX8_seal_49 2 rfl ?_
  refine z_callVv C zc_X8_323 [.int v3] (fun l D tc b0 r h => m_X8_seals l D tc ro b0 h) dX8_seal_50 rfl rfl (Nat.le_of_ble_eq_true rfl) (by decide) (by decide) ⟨Nat.le_of_ble_eq_true rfl, Nat.le_of_ble_eq_true rfl⟩ (fun h6 => ?_)
  refine z_aload_n C dX8_seal_53 0 rfl ?_
  refine z_iload_n C dX8_seal_54 2 rfl ?_
  refine z_iconst C dX8_seal_55 zi_1 ?_
  refine z_callVp C zc_X8_48 [.int v3, .int (1 : Int32)] (fun l D tc b0 r h => m_X8_of l D tc ro b0 h) dX8_seal_56 rfl rfl (Nat.le_of_ble_eq_true rfl) (by decide) (by decide) ⟨Nat.le_of_ble_eq_true rfl, Nat.le_of_ble_eq_true rfl⟩ (fun v7 => ?_)
  exact z_ireturn C dX8_seal_59
noncomputable def f_X8_tamper (a0 : Nat) (x1 : Int32) (x2 : Int32) (hp : zHp) : Option (Int32 × zHp) :=
  (zis hp a0 8).bind fun _ => (zpV hp a0 8 0 (.int (0 : Int32))).bind fun h1 => (f_X8_is a0 (3 : Int32) x1 h1).bind fun v2 => if v2 = 0 then (some ((-1 : Int32), h1)) else if x2 < (1 : Int32) then (some ((-2 : Int32), h1)) else if (9999 : Int32) < x2 then (some ((-2 : Int32), h1)) else (f_X8_isAtTable a0 x1 h1).bind fun v3 => if v3 = 0 then ((f_X8_keeps a0 h1).bind fun h4 => (f_X8_of a0 x1 (1 : Int32) h4).bind fun v5 => (f_X8_sets a0 x1 (1 : Int32) x2 h4).bind fun h6 => some (v5, h6)) else some ((-6 : Int32), h1)
set_option maxHeartbeats 4000000 in
set_option maxRecDepth 100000 in
theorem m_X8_tamper (l : Launch) (D : va_G) (tc : Nat → ClassId) (ro : Nat → Nat) (b0 : Nat) {a0 : Nat} {x1 : Int32} {x2 : Int32} {hp : zHp} {sz : Nat} {r : (Int32 × zHp)} (h : f_X8_tamper a0 x1 x2 hp = some r) : zis hp a0 8 = some () ∧ zM l yX8_tamper cX8_tamper 4 (some .int) 3 0 0 [.ref a0, .int x1, .int x2] D tc ro b0 hp sz ((zoI sz) r).1 ((zoI sz) r).2.1 ((zoI sz) r).2.2 := by
  refine ⟨?_, z_start (o := (zoI sz)) (lv := [(0, .ref a0), (1, .int x1), (2, .int x2)]) h (by decide +kernel) RX8 rfl rfl (Nat.le_of_ble_eq_true rfl) (fun P C => ?_)⟩
  · unfold f_X8_tamper at h
    cases hc : zis hp a0 8 with
    | none => rw [hc] at h; cases h
    | some u => rfl
  unfold f_X8_tamper
  refine z_is ?_
  refine z_aload_n C dX8_tamper_0 0 rfl ?_
  refine z_iconst C dX8_tamper_1 zi_0 ?_
  refine z_putI C zp_X8_38 dX8_tamper_2 (fun h1 => ?_)
  refine z_aload_n C dX8_tamper_5 0 rfl ?_
  refine z_iconst C dX8_tamper_6 zi_3 ?_
  refine z_iload_n C dX8_tamper_7 1 rfl ?_
  refine z_callVp C zc_X8_255 [.int (3 : Int32), .int x1] (fun l D tc b0 r h => m_X8_is l D tc ro b0 h) dX8_tamper_8 rfl rfl (Nat.le_of_ble_eq_true rfl) (by decide) (by decide) ⟨Nat.le_of_ble_eq_true rfl, Nat.le_of_ble_eq_true rfl⟩ (fun v2 => ?_)
  refine z_if_ne C 16 dX8_tamper_11 (by decide) ?_ ?_
  · refine z_iconst C dX8_tamper_14 zi_m1 ?_
    exact z_ireturn C dX8_tamper_15
  refine z_iload_n C dX8_tamper_16 2 rfl ?_
  refine z_iconst C dX8_tamper_17 zi_1 ?_
  refine z_icmp_lt C 28 dX8_tamper_18 (by decide) ?_ ?_
  · refine z_bipush C dX8_tamper_28 zbi_m2 ?_
    exact z_ireturn C dX8_tamper_30
  refine z_iload_n C dX8_tamper_21 2 rfl ?_
  refine z_sipush C dX8_tamper_22 zsi_9999 ?_
  refine z_icmp_le C 31 dX8_tamper_25 (by decide) ?_ ?_
  · refine z_bipush C dX8_tamper_28 zbi_m2 ?_
    exact z_ireturn C dX8_tamper_30
  refine z_aload_n C dX8_tamper_31 0 rfl ?_
  refine z_iload_n C dX8_tamper_32 1 rfl ?_
  refine z_callVp C zc_X8_52 [.int x1] (fun l D tc b0 r h => m_X8_isAtTable l D tc ro b0 h) dX8_tamper_33 rfl rfl (Nat.le_of_ble_eq_true rfl) (by decide) (by decide) ⟨Nat.le_of_ble_eq_true rfl, Nat.le_of_ble_eq_true rfl⟩ (fun v3 => ?_)
  refine z_if_eq C 42 dX8_tamper_36 (by decide) ?_ ?_
  · refine z_aload_n C dX8_tamper_42 0 rfl ?_
    refine z_callVv C zc_X8_307 [] (fun l D tc b0 r h => m_X8_keeps l D tc ro b0 h) dX8_tamper_43 rfl rfl (Nat.le_of_ble_eq_true rfl) (by decide) (by decide) ⟨Nat.le_of_ble_eq_true rfl, Nat.le_of_ble_eq_true rfl⟩ (fun h4 => ?_)
    refine z_aload_n C dX8_tamper_46 0 rfl ?_
    refine z_iload_n C dX8_tamper_47 1 rfl ?_
    refine z_iconst C dX8_tamper_48 zi_1 ?_
    refine z_callVp C zc_X8_48 [.int x1, .int (1 : Int32)] (fun l D tc b0 r h => m_X8_of l D tc ro b0 h) dX8_tamper_49 rfl rfl (Nat.le_of_ble_eq_true rfl) (by decide) (by decide) ⟨Nat.le_of_ble_eq_true rfl, Nat.le_of_ble_eq_true rfl⟩ (fun v5 => ?_)
    refine z_istore_n (lv' := [(0, .ref a0), (1, .int x1), (2, .int x2), (3, .int v5)]) C dX8_tamper_52 (by decide) rfl ?_
    refine z_aload_n C dX8_tamper_53 0 rfl ?_
    refine z_iload_n C dX8_tamper_54 1 rfl ?_
    refine z_iconst C dX8_tamper_55 zi_1 ?_
    refine z_iload_n C dX8_tamper_56 2 rfl ?_
    refine z_callVv C zc_X8_209 [.int x1, .int (1 : Int32), .int x2] (fun l D tc b0 r h => m_X8_sets l D tc ro b0 h) dX8_tamper_57 rfl rfl (Nat.le_of_ble_eq_true rfl) (by decide) (by decide) ⟨Nat.le_of_ble_eq_true rfl, Nat.le_of_ble_eq_true rfl⟩ (fun h6 => ?_)
    refine z_iload_n C dX8_tamper_60 3 rfl ?_
    exact z_ireturn C dX8_tamper_61
  refine z_bipush C dX8_tamper_39 zbi_m6 ?_
  exact z_ireturn C dX8_tamper_41
noncomputable def f_X8_accept (a0 : Nat) (x1 : Int32) (hp : zHp) : Option (Int32 × zHp) :=
  (zis hp a0 8).bind fun _ => (zpV hp a0 8 0 (.int (0 : Int32))).bind fun h1 => (f_X8_is a0 (3 : Int32) x1 h1).bind fun v2 => if v2 = 0 then (some ((-1 : Int32), h1)) else (f_X8_isAtTable a0 x1 h1).bind fun v3 => if v3 = 0 then ((f_X8_isGood a0 x1 h1).bind fun v4 => if v4 = 0 then ((f_X8_of a0 x1 (2 : Int32) h1).bind fun v5 => if v5 = (12 : Int32) then (some ((-5 : Int32), h1)) else (f_X8_keeps a0 h1).bind fun h6 => (f_X8_of a0 x1 (1 : Int32) h6).bind fun v7 => (f_X8_enters a0 x1 v7 h6).bind fun h8 => (f_X8_of a0 x1 (2 : Int32) h8).bind fun v9 => some (v9, h8)) else some ((-6 : Int32), h1)) else some ((-6 : Int32), h1)
set_option maxHeartbeats 4000000 in
set_option maxRecDepth 100000 in
theorem m_X8_accept (l : Launch) (D : va_G) (tc : Nat → ClassId) (ro : Nat → Nat) (b0 : Nat) {a0 : Nat} {x1 : Int32} {hp : zHp} {sz : Nat} {r : (Int32 × zHp)} (h : f_X8_accept a0 x1 hp = some r) : zis hp a0 8 = some () ∧ zM l yX8_accept cX8_accept 2 (some .int) 4 0 0 [.ref a0, .int x1] D tc ro b0 hp sz ((zoI sz) r).1 ((zoI sz) r).2.1 ((zoI sz) r).2.2 := by
  refine ⟨?_, z_start (o := (zoI sz)) (lv := [(0, .ref a0), (1, .int x1)]) h (by decide +kernel) RX8 rfl rfl (Nat.le_of_ble_eq_true rfl) (fun P C => ?_)⟩
  · unfold f_X8_accept at h
    cases hc : zis hp a0 8 with
    | none => rw [hc] at h; cases h
    | some u => rfl
  unfold f_X8_accept
  refine z_is ?_
  refine z_aload_n C dX8_accept_0 0 rfl ?_
  refine z_iconst C dX8_accept_1 zi_0 ?_
  refine z_putI C zp_X8_38 dX8_accept_2 (fun h1 => ?_)
  refine z_aload_n C dX8_accept_5 0 rfl ?_
  refine z_iconst C dX8_accept_6 zi_3 ?_
  refine z_iload_n C dX8_accept_7 1 rfl ?_
  refine z_callVp C zc_X8_255 [.int (3 : Int32), .int x1] (fun l D tc b0 r h => m_X8_is l D tc ro b0 h) dX8_accept_8 rfl rfl (Nat.le_of_ble_eq_true rfl) (by decide) (by decide) ⟨Nat.le_of_ble_eq_true rfl, Nat.le_of_ble_eq_true rfl⟩ (fun v2 => ?_)
  refine z_if_ne C 16 dX8_accept_11 (by decide) ?_ ?_
  · refine z_iconst C dX8_accept_14 zi_m1 ?_
    exact z_ireturn C dX8_accept_15
  refine z_aload_n C dX8_accept_16 0 rfl ?_
  refine z_iload_n C dX8_accept_17 1 rfl ?_
  refine z_callVp C zc_X8_52 [.int x1] (fun l D tc b0 r h => m_X8_isAtTable l D tc ro b0 h) dX8_accept_18 rfl rfl (Nat.le_of_ble_eq_true rfl) (by decide) (by decide) ⟨Nat.le_of_ble_eq_true rfl, Nat.le_of_ble_eq_true rfl⟩ (fun v3 => ?_)
  refine z_if_ne C 32 dX8_accept_21 (by decide) ?_ ?_
  · refine z_aload_n C dX8_accept_24 0 rfl ?_
    refine z_iload_n C dX8_accept_25 1 rfl ?_
    refine z_callVp C zc_X8_265 [.int x1] (fun l D tc b0 r h => m_X8_isGood l D tc ro b0 h) dX8_accept_26 rfl rfl (Nat.le_of_ble_eq_true rfl) (by decide) (by decide) ⟨Nat.le_of_ble_eq_true rfl, Nat.le_of_ble_eq_true rfl⟩ (fun v4 => ?_)
    refine z_if_eq C 35 dX8_accept_29 (by decide) ?_ ?_
    · refine z_aload_n C dX8_accept_35 0 rfl ?_
      refine z_iload_n C dX8_accept_36 1 rfl ?_
      refine z_iconst C dX8_accept_37 zi_2 ?_
      refine z_callVp C zc_X8_48 [.int x1, .int (2 : Int32)] (fun l D tc b0 r h => m_X8_of l D tc ro b0 h) dX8_accept_38 rfl rfl (Nat.le_of_ble_eq_true rfl) (by decide) (by decide) ⟨Nat.le_of_ble_eq_true rfl, Nat.le_of_ble_eq_true rfl⟩ (fun v5 => ?_)
      refine z_bipush C dX8_accept_41 zbi_12 ?_
      refine z_icmp_ne C 49 dX8_accept_43 (by decide) ?_ ?_
      · refine z_bipush C dX8_accept_46 zbi_m5 ?_
        exact z_ireturn C dX8_accept_48
      refine z_aload_n C dX8_accept_49 0 rfl ?_
      refine z_callVv C zc_X8_307 [] (fun l D tc b0 r h => m_X8_keeps l D tc ro b0 h) dX8_accept_50 rfl rfl (Nat.le_of_ble_eq_true rfl) (by decide) (by decide) ⟨Nat.le_of_ble_eq_true rfl, Nat.le_of_ble_eq_true rfl⟩ (fun h6 => ?_)
      refine z_aload_n C dX8_accept_53 0 rfl ?_
      refine z_iload_n C dX8_accept_54 1 rfl ?_
      refine z_aload_n C dX8_accept_55 0 rfl ?_
      refine z_iload_n C dX8_accept_56 1 rfl ?_
      refine z_iconst C dX8_accept_57 zi_1 ?_
      refine z_callVp C zc_X8_48 [.int x1, .int (1 : Int32)] (fun l D tc b0 r h => m_X8_of l D tc ro b0 h) dX8_accept_58 rfl rfl (Nat.le_of_ble_eq_true rfl) (by decide) (by decide) ⟨Nat.le_of_ble_eq_true rfl, Nat.le_of_ble_eq_true rfl⟩ (fun v7 => ?_)
      refine z_callVv C zc_X8_320 [.int x1, .int v7] (fun l D tc b0 r h => m_X8_enters l D tc ro b0 h) dX8_accept_61 rfl rfl (Nat.le_of_ble_eq_true rfl) (by decide) (by decide) ⟨Nat.le_of_ble_eq_true rfl, Nat.le_of_ble_eq_true rfl⟩ (fun h8 => ?_)
      refine z_aload_n C dX8_accept_64 0 rfl ?_
      refine z_iload_n C dX8_accept_65 1 rfl ?_
      refine z_iconst C dX8_accept_66 zi_2 ?_
      refine z_callVp C zc_X8_48 [.int x1, .int (2 : Int32)] (fun l D tc b0 r h => m_X8_of l D tc ro b0 h) dX8_accept_67 rfl rfl (Nat.le_of_ble_eq_true rfl) (by decide) (by decide) ⟨Nat.le_of_ble_eq_true rfl, Nat.le_of_ble_eq_true rfl⟩ (fun v9 => ?_)
      exact z_ireturn C dX8_accept_70
    refine z_bipush C dX8_accept_32 zbi_m6 ?_
    exact z_ireturn C dX8_accept_34
  refine z_bipush C dX8_accept_32 zbi_m6 ?_
  exact z_ireturn C dX8_accept_34
noncomputable def f_X8_declare (a0 : Nat) (hp : zHp) : Option (Int32 × zHp) :=
  (zis hp a0 8).bind fun _ => (zpV hp a0 8 0 (.int (0 : Int32))).bind fun h1 => (f_X8_comes a0 h1).bind fun v2 => if v2 = (-1 : Int32) then (some ((-1 : Int32), h1)) else (f_X8_keeps a0 h1).bind fun h3 => (zgR h3 a0 8 5).bind fun r4 => (zgR h3 a0 8 5).bind fun r5 => (zaI h3 0 r5 (9 : Int32)).bind fun v6 => (zsI h3 r4 ((3 : Int32) + v6) v2).bind fun h7 => (zgR h7 a0 8 5).bind fun r8 => (zaI h7 0 r8 (9 : Int32)).bind fun v9 => (zsI h7 r8 (9 : Int32) (v9 + (1 : Int32))).bind fun h10 => some (v2, h10)
set_option maxHeartbeats 4000000 in
set_option maxRecDepth 100000 in
theorem m_X8_declare (l : Launch) (D : va_G) (tc : Nat → ClassId) (ro : Nat → Nat) (b0 : Nat) {a0 : Nat} {hp : zHp} {sz : Nat} {r : (Int32 × zHp)} (h : f_X8_declare a0 hp = some r) : zis hp a0 8 = some () ∧ zM l yX8_declare cX8_declare 2 (some .int) 12 0 0 [.ref a0] D tc ro b0 hp sz ((zoI sz) r).1 ((zoI sz) r).2.1 ((zoI sz) r).2.2 := by
  refine ⟨?_, z_start (o := (zoI sz)) (lv := [(0, .ref a0)]) h (by decide +kernel) RX8 rfl rfl (Nat.le_of_ble_eq_true rfl) (fun P C => ?_)⟩
  · unfold f_X8_declare at h
    cases hc : zis hp a0 8 with
    | none => rw [hc] at h; cases h
    | some u => rfl
  unfold f_X8_declare
  refine z_is ?_
  refine z_aload_n C dX8_declare_0 0 rfl ?_
  refine z_iconst C dX8_declare_1 zi_0 ?_
  refine z_putI C zp_X8_38 dX8_declare_2 (fun h1 => ?_)
  refine z_aload_n C dX8_declare_5 0 rfl ?_
  refine z_callVp C zc_X8_292 [] (fun l D tc b0 r h => m_X8_comes l D tc ro b0 h) dX8_declare_6 rfl rfl (Nat.le_of_ble_eq_true rfl) (by decide) (by decide) ⟨Nat.le_of_ble_eq_true rfl, Nat.le_of_ble_eq_true rfl⟩ (fun v2 => ?_)
  refine z_istore_n (lv' := [(0, .ref a0), (1, .int v2)]) C dX8_declare_9 (by decide) rfl ?_
  refine z_iload_n C dX8_declare_10 1 rfl ?_
  refine z_iconst C dX8_declare_11 zi_m1 ?_
  refine z_icmp_ne C 17 dX8_declare_12 (by decide) ?_ ?_
  · refine z_iconst C dX8_declare_15 zi_m1 ?_
    exact z_ireturn C dX8_declare_16
  refine z_aload_n C dX8_declare_17 0 rfl ?_
  refine z_callVv C zc_X8_307 [] (fun l D tc b0 r h => m_X8_keeps l D tc ro b0 h) dX8_declare_18 rfl rfl (Nat.le_of_ble_eq_true rfl) (by decide) (by decide) ⟨Nat.le_of_ble_eq_true rfl, Nat.le_of_ble_eq_true rfl⟩ (fun h3 => ?_)
  refine z_aload_n C dX8_declare_21 0 rfl ?_
  refine z_getR C zf_X8_19 dX8_declare_22 (fun r4 => ?_)
  refine z_iconst C dX8_declare_25 zi_3 ?_
  refine z_aload_n C dX8_declare_26 0 rfl ?_
  refine z_getR C zf_X8_19 dX8_declare_27 (fun r5 => ?_)
  refine z_bipush C dX8_declare_30 zbi_9 ?_
  refine z_iaload C dX8_declare_32 (fun v6 => ?_)
  refine z_iadd C dX8_declare_33 ?_
  refine z_iload_n C dX8_declare_34 1 rfl ?_
  refine z_iastore C dX8_declare_35 (fun h7 => ?_)
  refine z_aload_n C dX8_declare_36 0 rfl ?_
  refine z_getR C zf_X8_19 dX8_declare_37 (fun r8 => ?_)
  refine z_bipush C dX8_declare_40 zbi_9 ?_
  refine z_dup2 C dX8_declare_42 rfl rfl ?_
  refine z_iaload C dX8_declare_43 (fun v9 => ?_)
  refine z_iconst C dX8_declare_44 zi_1 ?_
  refine z_iadd C dX8_declare_45 ?_
  refine z_iastore C dX8_declare_46 (fun h10 => ?_)
  refine z_iload_n C dX8_declare_47 1 rfl ?_
  exact z_ireturn C dX8_declare_48
noncomputable def b_X8_wasCountedAt_2 (k25 : Option Int32) (k33 : Option Int32) (a0 : Nat) (x1 : Int32) (x2 : Int32) (hp : zHp) (rec : Int32 → Option Int32) (x3 : Int32) : Option Int32 :=
  (f_X8_of a0 x1 (3 : Int32) hp).bind fun v1 => if x3 < v1 then ((f_X8_of a0 x1 ((16 : Int32) + x3) hp).bind fun v2 => if v2 = x2 then (k25) else zlet (x3 + (1 : Int32)) fun v3 => rec v3) else k33
noncomputable def l_X8_wasCountedAt_2 (k25 : Option Int32) (k33 : Option Int32) (a0 : Nat) (x1 : Int32) (x2 : Int32) (hp : zHp) (n : Nat) : Int32 → Option Int32 :=
  Nat.rec (motive := fun _ => Int32 → Option Int32) (fun _ => none) (fun _ rec => b_X8_wasCountedAt_2 k25 k33 a0 x1 x2 hp rec) n
theorem l_X8_wasCountedAt_2_s (k25 : Option Int32) (k33 : Option Int32) (a0 : Nat) (x1 : Int32) (x2 : Int32) (hp : zHp) (n : Nat) (x3 : Int32) : l_X8_wasCountedAt_2 k25 k33 a0 x1 x2 hp (n + 1) x3 = b_X8_wasCountedAt_2 k25 k33 a0 x1 x2 hp (l_X8_wasCountedAt_2 k25 k33 a0 x1 x2 hp n) x3 := rfl
set_option maxHeartbeats 4000000 in
set_option maxRecDepth 100000 in
theorem wl_X8_wasCountedAt_2 {P : zX} {ro : Nat → Nat} {sz : Nat} (C : zC P cX8_wasCountedAt RX8 (some .boolean) 2 0 0 4 ro) {a0 : Nat} {x1 : Int32} {x2 : Int32} {hp : zHp} {k25 : Option Int32} (hk25 : zG P (zoP sz hp) (k25) 25 [] [] hp sz 0 0) {k33 : Option Int32} (hk33 : zG P (zoP sz hp) (k33) 33 [] [] hp sz 0 0) : ∀ (n : Nat) (x3 : Int32), zG P (zoP sz hp) (l_X8_wasCountedAt_2 k25 k33 a0 x1 x2 hp n x3) 2 [(0, .ref a0), (1, .int x1), (2, .int x2), (3, .int x3)] [] hp sz 0 0 := by
  intro n
  induction n with
  | zero =>
    intro x3
    show zG P (zoP sz hp) none _ _ _ _ _ _ _
    exact z_none
  | succ n ih =>
    intro x3
    show zG P (zoP sz hp) (b_X8_wasCountedAt_2 k25 k33 a0 x1 x2 hp (l_X8_wasCountedAt_2 k25 k33 a0 x1 x2 hp n) x3) _ _ _ _ _ _ _
    unfold b_X8_wasCountedAt_2
    refine z_iload_n C dX8_wasCountedAt_2 3 rfl ?_
    refine z_aload_n C dX8_wasCountedAt_3 0 rfl ?_
    refine z_iload_n C dX8_wasCountedAt_4 1 rfl ?_
    refine z_iconst C dX8_wasCountedAt_5 zi_3 ?_
    refine z_callVp C zc_X8_48 [.int x1, .int (3 : Int32)] (fun l D tc b0 r h => m_X8_of l D tc ro b0 h) dX8_wasCountedAt_6 rfl rfl (Nat.le_of_ble_eq_true rfl) (by decide) (by decide) ⟨Nat.le_of_ble_eq_true rfl, Nat.le_of_ble_eq_true rfl⟩ (fun v1 => ?_)
    refine z_icmp_ge C 33 dX8_wasCountedAt_9 (by decide) ?_ ?_
    · refine z_aload_n C dX8_wasCountedAt_12 0 rfl ?_
      refine z_iload_n C dX8_wasCountedAt_13 1 rfl ?_
      refine z_bipush C dX8_wasCountedAt_14 zbi_16 ?_
      refine z_iload_n C dX8_wasCountedAt_16 3 rfl ?_
      refine z_iadd C dX8_wasCountedAt_17 ?_
      refine z_callVp C zc_X8_48 [.int x1, .int ((16 : Int32) + x3)] (fun l D tc b0 r h => m_X8_of l D tc ro b0 h) dX8_wasCountedAt_18 rfl rfl (Nat.le_of_ble_eq_true rfl) (by decide) (by decide) ⟨Nat.le_of_ble_eq_true rfl, Nat.le_of_ble_eq_true rfl⟩ (fun v2 => ?_)
      refine z_iload_n C dX8_wasCountedAt_21 2 rfl ?_
      refine z_icmp_ne C 27 dX8_wasCountedAt_22 (by decide) ?_ ?_
      · exact z_sub [] rfl (hk25)
      refine z_iincL C 3 (fun v3 => [(0, .ref a0), (1, .int x1), (2, .int x2), (3, .int v3)]) dX8_wasCountedAt_27 rfl zi_1 (by decide) (fun _ => rfl) (fun v3 => ?_)
      refine z_goto C 2 dX8_wasCountedAt_30 (by decide) ?_
      exact ih _
    exact z_sub [] rfl (hk33)
noncomputable def f_X8_wasCountedAt (a0 : Nat) (x1 : Int32) (x2 : Int32) (hp : zHp) : Option Int32 :=
  (zis hp a0 8).bind fun _ => l_X8_wasCountedAt_2 (some (1 : Int32)) (some (0 : Int32)) a0 x1 x2 hp 1000000 (0 : Int32)
set_option maxHeartbeats 4000000 in
set_option maxRecDepth 100000 in
theorem m_X8_wasCountedAt (l : Launch) (D : va_G) (tc : Nat → ClassId) (ro : Nat → Nat) (b0 : Nat) {a0 : Nat} {x1 : Int32} {x2 : Int32} {hp : zHp} {sz : Nat} {r : Int32} (h : f_X8_wasCountedAt a0 x1 x2 hp = some r) : zis hp a0 8 = some () ∧ zM l yX8_wasCountedAt cX8_wasCountedAt 4 (some .boolean) 2 0 0 [.ref a0, .int x1, .int x2] D tc ro b0 hp sz ((zoP sz hp) r).1 ((zoP sz hp) r).2.1 ((zoP sz hp) r).2.2 := by
  refine ⟨?_, z_start (o := (zoP sz hp)) (lv := [(0, .ref a0), (1, .int x1), (2, .int x2)]) h (by decide +kernel) RX8 rfl rfl (Nat.le_of_ble_eq_true rfl) (fun P C => ?_)⟩
  · unfold f_X8_wasCountedAt at h
    cases hc : zis hp a0 8 with
    | none => rw [hc] at h; cases h
    | some u => rfl
  unfold f_X8_wasCountedAt
  refine z_is ?_
  refine z_iconst C dX8_wasCountedAt_0 zi_0 ?_
  refine z_istore_n (lv' := [(0, .ref a0), (1, .int x1), (2, .int x2), (3, .int (0 : Int32))]) C dX8_wasCountedAt_1 (by decide) rfl ?_
  refine wl_X8_wasCountedAt_2 C ?_ ?_ _ _
  · refine z_iconst C dX8_wasCountedAt_25 zi_1 ?_
    exact z_kreturnP C rfl dX8_wasCountedAt_26
  refine z_iconst C dX8_wasCountedAt_33 zi_0 ?_
  exact z_kreturnP C rfl dX8_wasCountedAt_34
noncomputable def b_X8_toOpen_2 (k48 : Int32 → Option Int32) (k56 : Option Int32) (a0 : Nat) (x1 : Int32) (x2 : Int32) (hp : zHp) (rec : Int32 → Option Int32) (x3 : Int32) : Option Int32 :=
  (f_X8_many a0 (3 : Int32) hp).bind fun v1 => if x3 < v1 then (if ((x1 >>> (x3 &&& 31)) &&& (1 : Int32)) = (1 : Int32) then ((f_X8_of a0 x3 (0 : Int32) hp).bind fun v3 => if v3 = (-4 : Int32) then ((f_X8_isGood a0 x3 hp).bind fun v5 => if v5 = 0 then (zlet (x3 + (1 : Int32)) fun v6 => rec v6) else (f_X8_wasCountedAt a0 x3 x2 hp).bind fun v7 => if v7 = 0 then (k48 x3) else zlet (x3 + (1 : Int32)) fun v8 => rec v8) else zlet (x3 + (1 : Int32)) fun v4 => rec v4) else zlet (x3 + (1 : Int32)) fun v2 => rec v2) else k56
noncomputable def l_X8_toOpen_2 (k48 : Int32 → Option Int32) (k56 : Option Int32) (a0 : Nat) (x1 : Int32) (x2 : Int32) (hp : zHp) (n : Nat) : Int32 → Option Int32 :=
  Nat.rec (motive := fun _ => Int32 → Option Int32) (fun _ => none) (fun _ rec => b_X8_toOpen_2 k48 k56 a0 x1 x2 hp rec) n
theorem l_X8_toOpen_2_s (k48 : Int32 → Option Int32) (k56 : Option Int32) (a0 : Nat) (x1 : Int32) (x2 : Int32) (hp : zHp) (n : Nat) (x3 : Int32) : l_X8_toOpen_2 k48 k56 a0 x1 x2 hp (n + 1) x3 = b_X8_toOpen_2 k48 k56 a0 x1 x2 hp (l_X8_toOpen_2 k48 k56 a0 x1 x2 hp n) x3 := rfl
set_option maxHeartbeats 4000000 in
set_option maxRecDepth 100000 in
theorem wl_X8_toOpen_2 {P : zX} {ro : Nat → Nat} {sz : Nat} (C : zC P cX8_toOpen RX8 (some .int) 4 0 0 4 ro) {a0 : Nat} {x1 : Int32} {x2 : Int32} {hp : zHp} {k48 : Int32 → Option Int32} (hk48 : ∀ (x3 : Int32), zG P (zoP sz hp) (k48 x3) 48 [(3, .int x3)] [] hp sz 0 0) {k56 : Option Int32} (hk56 : zG P (zoP sz hp) (k56) 56 [] [] hp sz 0 0) : ∀ (n : Nat) (x3 : Int32), zG P (zoP sz hp) (l_X8_toOpen_2 k48 k56 a0 x1 x2 hp n x3) 2 [(0, .ref a0), (1, .int x1), (2, .int x2), (3, .int x3)] [] hp sz 0 0 := by
  intro n
  induction n with
  | zero =>
    intro x3
    show zG P (zoP sz hp) none _ _ _ _ _ _ _
    exact z_none
  | succ n ih =>
    intro x3
    show zG P (zoP sz hp) (b_X8_toOpen_2 k48 k56 a0 x1 x2 hp (l_X8_toOpen_2 k48 k56 a0 x1 x2 hp n) x3) _ _ _ _ _ _ _
    unfold b_X8_toOpen_2
    refine z_iload_n C dX8_toOpen_2 3 rfl ?_
    refine z_aload_n C dX8_toOpen_3 0 rfl ?_
    refine z_iconst C dX8_toOpen_4 zi_3 ?_
    refine z_callVp C zc_X8_44 [.int (3 : Int32)] (fun l D tc b0 r h => m_X8_many l D tc ro b0 h) dX8_toOpen_5 rfl rfl (Nat.le_of_ble_eq_true rfl) (by decide) (by decide) ⟨Nat.le_of_ble_eq_true rfl, Nat.le_of_ble_eq_true rfl⟩ (fun v1 => ?_)
    refine z_icmp_ge C 56 dX8_toOpen_8 (by decide) ?_ ?_
    · refine z_iload_n C dX8_toOpen_11 1 rfl ?_
      refine z_iload_n C dX8_toOpen_12 3 rfl ?_
      refine z_ishr C dX8_toOpen_13 ?_
      refine z_iconst C dX8_toOpen_14 zi_1 ?_
      refine z_iand C dX8_toOpen_15 ?_
      refine z_iconst C dX8_toOpen_16 zi_1 ?_
      refine z_icmp_ne C 50 dX8_toOpen_17 (by decide) ?_ ?_
      · refine z_aload_n C dX8_toOpen_20 0 rfl ?_
        refine z_iload_n C dX8_toOpen_21 3 rfl ?_
        refine z_iconst C dX8_toOpen_22 zi_0 ?_
        refine z_callVp C zc_X8_48 [.int x3, .int (0 : Int32)] (fun l D tc b0 r h => m_X8_of l D tc ro b0 h) dX8_toOpen_23 rfl rfl (Nat.le_of_ble_eq_true rfl) (by decide) (by decide) ⟨Nat.le_of_ble_eq_true rfl, Nat.le_of_ble_eq_true rfl⟩ (fun v3 => ?_)
        refine z_bipush C dX8_toOpen_26 zbi_m4 ?_
        refine z_icmp_ne C 50 dX8_toOpen_28 (by decide) ?_ ?_
        · refine z_aload_n C dX8_toOpen_31 0 rfl ?_
          refine z_iload_n C dX8_toOpen_32 3 rfl ?_
          refine z_callVp C zc_X8_265 [.int x3] (fun l D tc b0 r h => m_X8_isGood l D tc ro b0 h) dX8_toOpen_33 rfl rfl (Nat.le_of_ble_eq_true rfl) (by decide) (by decide) ⟨Nat.le_of_ble_eq_true rfl, Nat.le_of_ble_eq_true rfl⟩ (fun v5 => ?_)
          refine z_if_eq C 50 dX8_toOpen_36 (by decide) ?_ ?_
          · refine z_iincL C 3 (fun v6 => [(0, .ref a0), (1, .int x1), (2, .int x2), (3, .int v6)]) dX8_toOpen_50 rfl zi_1 (by decide) (fun _ => rfl) (fun v6 => ?_)
            refine z_goto C 2 dX8_toOpen_53 (by decide) ?_
            exact ih _
          refine z_aload_n C dX8_toOpen_39 0 rfl ?_
          refine z_iload_n C dX8_toOpen_40 3 rfl ?_
          refine z_iload_n C dX8_toOpen_41 2 rfl ?_
          refine z_callVp C zc_X8_326 [.int x3, .int x2] (fun l D tc b0 r h => m_X8_wasCountedAt l D tc ro b0 h) dX8_toOpen_42 rfl rfl (Nat.le_of_ble_eq_true rfl) (by decide) (by decide) ⟨Nat.le_of_ble_eq_true rfl, Nat.le_of_ble_eq_true rfl⟩ (fun v7 => ?_)
          refine z_if_ne C 50 dX8_toOpen_45 (by decide) ?_ ?_
          · exact z_sub [3] rfl (hk48 _)
          refine z_iincL C 3 (fun v8 => [(0, .ref a0), (1, .int x1), (2, .int x2), (3, .int v8)]) dX8_toOpen_50 rfl zi_1 (by decide) (fun _ => rfl) (fun v8 => ?_)
          refine z_goto C 2 dX8_toOpen_53 (by decide) ?_
          exact ih _
        refine z_iincL C 3 (fun v4 => [(0, .ref a0), (1, .int x1), (2, .int x2), (3, .int v4)]) dX8_toOpen_50 rfl zi_1 (by decide) (fun _ => rfl) (fun v4 => ?_)
        refine z_goto C 2 dX8_toOpen_53 (by decide) ?_
        exact ih _
      refine z_iincL C 3 (fun v2 => [(0, .ref a0), (1, .int x1), (2, .int x2), (3, .int v2)]) dX8_toOpen_50 rfl zi_1 (by decide) (fun _ => rfl) (fun v2 => ?_)
      refine z_goto C 2 dX8_toOpen_53 (by decide) ?_
      exact ih _
    exact z_sub [] rfl (hk56)
noncomputable def f_X8_toOpen (a0 : Nat) (x1 : Int32) (x2 : Int32) (hp : zHp) : Option Int32 :=
  (zis hp a0 8).bind fun _ => l_X8_toOpen_2 (fun p9 => some p9) (some (-1 : Int32)) a0 x1 x2 hp 1000000 (0 : Int32)
set_option maxHeartbeats 4000000 in
set_option maxRecDepth 100000 in
theorem m_X8_toOpen (l : Launch) (D : va_G) (tc : Nat → ClassId) (ro : Nat → Nat) (b0 : Nat) {a0 : Nat} {x1 : Int32} {x2 : Int32} {hp : zHp} {sz : Nat} {r : Int32} (h : f_X8_toOpen a0 x1 x2 hp = some r) : zis hp a0 8 = some () ∧ zM l yX8_toOpen cX8_toOpen 4 (some .int) 4 0 0 [.ref a0, .int x1, .int x2] D tc ro b0 hp sz ((zoP sz hp) r).1 ((zoP sz hp) r).2.1 ((zoP sz hp) r).2.2 := by
  refine ⟨?_, z_start (o := (zoP sz hp)) (lv := [(0, .ref a0), (1, .int x1), (2, .int x2)]) h (by decide +kernel) RX8 rfl rfl (Nat.le_of_ble_eq_true rfl) (fun P C => ?_)⟩
  · unfold f_X8_toOpen at h
    cases hc : zis hp a0 8 with
    | none => rw [hc] at h; cases h
    | some u => rfl
  unfold f_X8_toOpen
  refine z_is ?_
  refine z_iconst C dX8_toOpen_0 zi_0 ?_
  refine z_istore_n (lv' := [(0, .ref a0), (1, .int x1), (2, .int x2), (3, .int (0 : Int32))]) C dX8_toOpen_1 (by decide) rfl ?_
  refine wl_X8_toOpen_2 C (fun p9 => ?_) ?_ _ _
  · refine z_iload_n C dX8_toOpen_48 0 rfl ?_
    exact z_ireturnP C dX8_toOpen_49
  refine z_iconst C dX8_toOpen_56 zi_m1 ?_
  exact z_ireturnP C dX8_toOpen_57
