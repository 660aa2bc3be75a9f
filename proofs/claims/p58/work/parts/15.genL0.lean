noncomputable def f_L_cell (a0 : Nat) (x1 : Int32) (hp : zHp) : Option Int32 :=
  (zlen hp 0 a0).bind fun v1 => if x1 < v1 then ((zaI hp 0 a0 x1).bind fun v2 => some v2) else some (0 : Int32)
set_option maxHeartbeats 4000000 in
set_option maxRecDepth 100000 in
theorem m_L_cell (l : Launch) (D : va_G) (tc : Nat → ClassId) (ro : Nat → Nat) (b0 : Nat) {a0 : Nat} {x1 : Int32} {hp : zHp} {sz : Nat} {r : Int32} (h : f_L_cell a0 x1 hp = some r) : zM l yL_cell cL_cell 2 (some .int) 1 0 0 [.ref a0, .int x1] D tc ro b0 hp sz ((zoP sz hp) r).1 ((zoP sz hp) r).2.1 ((zoP sz hp) r).2.2 := by
  refine z_start (o := (zoP sz hp)) (lv := [(0, .ref a0), (1, .int x1)]) h (by decide +kernel) RL rfl rfl (Nat.le_of_ble_eq_true rfl) (fun P C => ?_)
  unfold f_L_cell
  refine z_iload_n C dL_cell_0 1 rfl ?_
  refine z_aload_n C dL_cell_1 0 rfl ?_
  refine z_arraylength (t := 0) (ty := .int) C (fun _ => rfl) (by decide) dL_cell_2 (fun v1 => ?_)
  refine z_icmp_ge C 12 dL_cell_3 (by decide) ?_ ?_
  · refine z_aload_n C dL_cell_6 0 rfl ?_
    refine z_iload_n C dL_cell_7 1 rfl ?_
    refine z_iaload C dL_cell_8 (fun v2 => ?_)
    refine z_goto C 13 dL_cell_9 (by decide) ?_
    exact z_ireturnP C dL_cell_13
  refine z_iconst C dL_cell_12 zi_0 ?_
  exact z_ireturnP C dL_cell_13
noncomputable def f_L_in (x0 : Int32) (x1 : Int32) (hp : zHp) : Option Int32 :=
  (zrem (x0 &&& (2147483647 : Int32)) x1).bind fun v1 => some v1
set_option maxHeartbeats 4000000 in
set_option maxRecDepth 100000 in
theorem m_L_in (l : Launch) (D : va_G) (tc : Nat → ClassId) (ro : Nat → Nat) (b0 : Nat) {x0 : Int32} {x1 : Int32} {hp : zHp} {sz : Nat} {r : Int32} (h : f_L_in x0 x1 hp = some r) : zM l yL_in cL_in 2 (some .int) 1 0 0 [.int x0, .int x1] D tc ro b0 hp sz ((zoP sz hp) r).1 ((zoP sz hp) r).2.1 ((zoP sz hp) r).2.2 := by
  refine z_start (o := (zoP sz hp)) (lv := [(0, .int x0), (1, .int x1)]) h (by decide +kernel) RL rfl rfl (Nat.le_of_ble_eq_true rfl) (fun P C => ?_)
  unfold f_L_in
  refine z_iload_n C dL_in_0 0 rfl ?_
  refine z_ldcI C zk_L_7 dL_in_1 ?_
  refine z_iand C dL_in_3 ?_
  refine z_iload_n C dL_in_4 1 rfl ?_
  refine z_irem C dL_in_5 (fun v1 => ?_)
  exact z_ireturnP C dL_in_6
noncomputable def b_L_put_2 (ro : Nat → Nat) (mc ms : Nat) (k35 : Nat → zHp → Nat → Nat → Nat → Option (zHp × Nat)) (a0 : Nat) (rec : Nat → zHp → Nat → Nat → Nat → Option (zHp × Nat)) (a2 : Nat) (h : zHp) (sz : Nat) (uc : Nat) (us : Nat) : Option (zHp × Nat) :=
  zchk (uc ≤ mc ∧ us ≤ ms) <| (f_J0_length_8abf5 a2 h).bind fun v2 => (zrem v2 (20 : Int32)).bind fun v3 => if v3 = 0 then (k35 a2 h sz uc us) else zchk (uc + 1 ≤ mc ∧ us + 4 ≤ ms) <| zlet (zup h sz (.inr (9, [.null, .int 0, .int 0, .int 0]))) fun h5 => zchk ((uc + 1) + 1 ≤ mc ∧ (us + 4) + 16 ≤ ms) <| zb2 (f_J4_init_da8c8 1 16 sz h5 ((sz + 1))) fun h7 z8 => zchk (((uc + 1) + 1) + 1 ≤ mc ∧ ((us + 4) + 16) + 1300 ≤ ms) <| zb3 (f_J4_append_15ec4 1 1300 sz a2 h7 z8) fun r12 h10 z11 => zchk ((((uc + 1) + 1) + 1) + 1 ≤ mc ∧ (((us + 4) + 16) + 1300) + 1300 ≤ ms) <| zb3 (f_J4_append_15ec4 1 1300 r12 (ro 25) h10 z11) fun r16 h14 z15 => zchk (((((uc + 1) + 1) + 1) + 1) + 2 ≤ mc ∧ ((((us + 4) + 16) + 1300) + 1300) + 704 ≤ ms) <| zb3 (f_J4_toString_0e30d 2 704 r16 h14 z15) fun r20 h18 z19 => rec r20 h18 z19 ((((((uc + 1) + 1) + 1) + 1) + 2)) ((((((us + 4) + 16) + 1300) + 1300) + 704))
noncomputable def l_L_put_2 (ro : Nat → Nat) (mc ms : Nat) (k35 : Nat → zHp → Nat → Nat → Nat → Option (zHp × Nat)) (a0 : Nat) (n : Nat) : Nat → zHp → Nat → Nat → Nat → Option (zHp × Nat) :=
  Nat.rec (motive := fun _ => Nat → zHp → Nat → Nat → Nat → Option (zHp × Nat)) (fun _ _ _ _ _ => none) (fun _ rec => b_L_put_2 ro mc ms k35 a0 rec) n
theorem l_L_put_2_s {ro : Nat → Nat} {mc ms : Nat} (k35 : Nat → zHp → Nat → Nat → Nat → Option (zHp × Nat)) (a0 : Nat) (n : Nat) (a2 : Nat) (h : zHp) (sz : Nat) (uc : Nat) (us : Nat) : l_L_put_2 ro mc ms k35 a0 (n + 1) a2 h sz uc us = b_L_put_2 ro mc ms k35 a0 (l_L_put_2 ro mc ms k35 a0 n) a2 h sz uc us := rfl
set_option maxHeartbeats 4000000 in
set_option maxRecDepth 100000 in
theorem wl_L_put_2 {P : zX} {ro : Nat → Nat} {mc ms : Nat} (C : zC P cL_put RL none 7 mc ms 6 ro) {a0 : Nat} {k35 : Nat → zHp → Nat → Nat → Nat → Option (zHp × Nat)} (hk35 : ∀ (a2 : Nat) (h : zHp) (sz : Nat) (uc : Nat) (us : Nat), zG P zoVA (k35 a2 h sz uc us) 35 [(0, .ref a0), (2, .ref a2)] [] h sz uc us) : ∀ (n : Nat) (a2 : Nat) (h : zHp) (sz : Nat) (uc : Nat) (us : Nat), zG P zoVA (l_L_put_2 ro mc ms k35 a0 n a2 h sz uc us) 2 [(0, .ref a0), (2, .ref a2)] [] h sz uc us := by
  intro n
  induction n with
  | zero =>
    intro a2 h sz uc us
    show zG P zoVA none _ _ _ _ _ _ _
    exact z_none
  | succ n ih =>
    intro a2 h sz uc us
    show zG P zoVA (b_L_put_2 ro mc ms k35 a0 (l_L_put_2 ro mc ms k35 a0 n) a2 h sz uc us) _ _ _ _ _ _ _
    unfold b_L_put_2
    refine z_aload_n C dL_put_2 1 rfl ?_
    refine z_chk (fun q1 => ?_)
    refine z_callVp C zc_L_8 [] (fun l D tc b0 r h => m_J0_length_8abf5 l D tc ro b0 h) dL_put_3 rfl rfl (Nat.le_of_ble_eq_true rfl) (by decide) (by decide) q1 (fun v2 => ?_)
    refine z_bipush C dL_put_6 zbi_20 ?_
    refine z_irem C dL_put_8 (fun v3 => ?_)
    refine z_if_eq C 35 dL_put_9 (by decide) ?_ ?_
    · exact hk35 _ _ _ _ _
    refine z_chk (fun q4 => ?_)
    refine z_new C za_L_14 dL_put_12 q4 (fun h5 => ?_)
    refine z_dup C dL_put_15 rfl ?_
    refine z_chk (fun q6 => ?_)
    refine z_callI C (Or.inl zci_L_16) [] (fun l D tc b0 r h => m_J4_init_da8c8 l D tc ro b0 h) dL_put_16 rfl rfl (Nat.le_of_ble_eq_true rfl) (by decide) (by decide) q6 (fun h7 z8 => ?_)
    refine z_aload_n C dL_put_19 1 rfl ?_
    refine z_chk (fun q9 => ?_)
    refine z_cVr C zc_L_17 [.ref a2] (fun l D tc b0 r h => m_J4_append_15ec4 l D tc ro b0 h) dL_put_20 rfl rfl (Nat.le_of_ble_eq_true rfl) (by decide) (by decide) q9 (fun r12 h10 z11 => ?_)
    refine z_ldcS C 25 rfl dL_put_23 ?_
    refine z_chk (fun q13 => ?_)
    refine z_cVr C zc_L_17 [.ref (ro 25)] (fun l D tc b0 r h => m_J4_append_15ec4 l D tc ro b0 h) dL_put_25 rfl rfl (Nat.le_of_ble_eq_true rfl) (by decide) (by decide) q13 (fun r16 h14 z15 => ?_)
    refine z_chk (fun q17 => ?_)
    refine z_cVr C zc_L_23 [] (fun l D tc b0 r h => m_J4_toString_0e30d l D tc ro b0 h) dL_put_28 rfl rfl (Nat.le_of_ble_eq_true rfl) (by decide) (by decide) q17 (fun r20 h18 z19 => ?_)
    refine z_astore_n (lv' := [(0, .ref a0), (2, .ref r20)]) C dL_put_31 (by decide) rfl ?_
    refine z_goto C 2 dL_put_32 (by decide) ?_
    exact ih _ _ _ _ _
noncomputable def b_L_put_53 (ro : Nat → Nat) (mc ms : Nat) (k95 : zHp → Nat → Nat → Nat → Option (zHp × Nat)) (a0 : Nat) (a2 : Nat) (x3 : Int32) (a4 : Nat) (rec : Int32 → zHp → Nat → Nat → Nat → Option (zHp × Nat)) (x5 : Int32) (h : zHp) (sz : Nat) (uc : Nat) (us : Nat) : Option (zHp × Nat) :=
  if x5 < (20 : Int32) then ((zdiv x5 (4 : Int32)).bind fun v30 => (zaI h 0 a4 v30).bind fun v31 => zchk (uc ≤ mc ∧ us ≤ ms) <| (f_J0_charAt_5068e a2 (x3 + x5) h).bind fun v33 => (zrem x5 (4 : Int32)).bind fun v34 => (zsI h a4 v30 (v31 ||| (v33 <<< (((24 : Int32) - ((8 : Int32) * v34)) &&& 31)))).bind fun h35 => zlet (x5 + (1 : Int32)) fun v36 => rec v36 h35 sz uc us) else k95 h sz uc us
noncomputable def l_L_put_53 (ro : Nat → Nat) (mc ms : Nat) (k95 : zHp → Nat → Nat → Nat → Option (zHp × Nat)) (a0 : Nat) (a2 : Nat) (x3 : Int32) (a4 : Nat) (n : Nat) : Int32 → zHp → Nat → Nat → Nat → Option (zHp × Nat) :=
  Nat.rec (motive := fun _ => Int32 → zHp → Nat → Nat → Nat → Option (zHp × Nat)) (fun _ _ _ _ _ => none) (fun _ rec => b_L_put_53 ro mc ms k95 a0 a2 x3 a4 rec) n
theorem l_L_put_53_s {ro : Nat → Nat} {mc ms : Nat} (k95 : zHp → Nat → Nat → Nat → Option (zHp × Nat)) (a0 : Nat) (a2 : Nat) (x3 : Int32) (a4 : Nat) (n : Nat) (x5 : Int32) (h : zHp) (sz : Nat) (uc : Nat) (us : Nat) : l_L_put_53 ro mc ms k95 a0 a2 x3 a4 (n + 1) x5 h sz uc us = b_L_put_53 ro mc ms k95 a0 a2 x3 a4 (l_L_put_53 ro mc ms k95 a0 a2 x3 a4 n) x5 h sz uc us := rfl
set_option maxHeartbeats 4000000 in
set_option maxRecDepth 100000 in
theorem wl_L_put_53 {P : zX} {ro : Nat → Nat} {mc ms : Nat} (C : zC P cL_put RL none 7 mc ms 6 ro) {a0 : Nat} {a2 : Nat} {x3 : Int32} {a4 : Nat} {k95 : zHp → Nat → Nat → Nat → Option (zHp × Nat)} (hk95 : ∀ (h : zHp) (sz : Nat) (uc : Nat) (us : Nat), zG P zoVA (k95 h sz uc us) 95 [(0, .ref a0), (2, .ref a2), (3, .int x3), (4, .ref a4)] [] h sz uc us) : ∀ (n : Nat) (x5 : Int32) (h : zHp) (sz : Nat) (uc : Nat) (us : Nat), zG P zoVA (l_L_put_53 ro mc ms k95 a0 a2 x3 a4 n x5 h sz uc us) 53 [(0, .ref a0), (2, .ref a2), (3, .int x3), (4, .ref a4), (5, .int x5)] [] h sz uc us := by
  intro n
  induction n with
  | zero =>
    intro x5 h sz uc us
    show zG P zoVA none _ _ _ _ _ _ _
    exact z_none
  | succ n ih =>
    intro x5 h sz uc us
    show zG P zoVA (b_L_put_53 ro mc ms k95 a0 a2 x3 a4 (l_L_put_53 ro mc ms k95 a0 a2 x3 a4 n) x5 h sz uc us) _ _ _ _ _ _ _
    unfold b_L_put_53
    refine z_iload C dL_put_53 4 rfl ?_
    refine z_bipush C dL_put_55 zbi_20 ?_
    refine z_icmp_ge C 95 dL_put_57 (by decide) ?_ ?_
    · refine z_aload C dL_put_60 3 rfl ?_
      refine z_iload C dL_put_62 4 rfl ?_
      refine z_iconst C dL_put_64 zi_4 ?_
      refine z_idiv C dL_put_65 (fun v30 => ?_)
      refine z_dup2 C dL_put_66 rfl rfl ?_
      refine z_iaload C dL_put_67 (fun v31 => ?_)
      refine z_aload_n C dL_put_68 1 rfl ?_
      refine z_iload_n C dL_put_69 2 rfl ?_
      refine z_iload C dL_put_70 4 rfl ?_
      refine z_iadd C dL_put_72 ?_
      refine z_chk (fun q32 => ?_)
      refine z_callVp C zc_L_27 [.int (x3 + x5)] (fun l D tc b0 r h => m_J0_charAt_5068e l D tc ro b0 h) dL_put_73 rfl rfl (Nat.le_of_ble_eq_true rfl) (by decide) (by decide) q32 (fun v33 => ?_)
      refine z_bipush C dL_put_76 zbi_24 ?_
      refine z_bipush C dL_put_78 zbi_8 ?_
      refine z_iload C dL_put_80 4 rfl ?_
      refine z_iconst C dL_put_82 zi_4 ?_
      refine z_irem C dL_put_83 (fun v34 => ?_)
      refine z_imul C dL_put_84 ?_
      refine z_isub C dL_put_85 ?_
      refine z_ishl C dL_put_86 ?_
      refine z_ior C dL_put_87 ?_
      refine z_iastore C dL_put_88 (fun h35 => ?_)
      refine z_iincL C 4 (fun v36 => [(0, .ref a0), (2, .ref a2), (3, .int x3), (4, .ref a4), (5, .int v36)]) dL_put_89 rfl zi_1 (by decide) (fun _ => rfl) (fun v36 => ?_)
      refine z_goto C 53 dL_put_92 (by decide) ?_
      exact ih _ _ _ _ _
    exact z_sub [0, 1, 2, 3] rfl (hk95 _ _ _ _)
noncomputable def b_L_put_37 (ro : Nat → Nat) (mc ms : Nat) (k126 : zHp → Nat → Nat → Nat → Option (zHp × Nat)) (a0 : Nat) (a2 : Nat) (rec : Int32 → zHp → Nat → Nat → Nat → Option (zHp × Nat)) (x3 : Int32) (h : zHp) (sz : Nat) (uc : Nat) (us : Nat) : Option (zHp × Nat) :=
  zchk (uc ≤ mc ∧ us ≤ ms) <| (f_J0_length_8abf5 a2 h).bind fun v27 => if x3 < v27 then (zchk (¬ (5 : Int32) < 0 ∧ (5 : Int32).toNatClampNeg ≤ 60000 ∧ uc + 1 ≤ mc ∧ us + (5 : Int32).toNatClampNeg ≤ ms) <| zlet (zup h sz (.inl (0, (5 : Int32).toNatClampNeg, .inl (fun _ => 0)))) fun h29 => l_L_put_53 ro mc ms (fun h37 z38 c39 u40 => (zaI h37 0 sz (0 : Int32)).bind fun v41 => (zaI h37 0 sz (1 : Int32)).bind fun v42 => (zaI h37 0 sz (2 : Int32)).bind fun v43 => (zaI h37 0 sz (3 : Int32)).bind fun v44 => (zaI h37 0 sz (4 : Int32)).bind fun v45 => zchk (c39 ≤ mc ∧ u40 ≤ ms) <| zb2 (f_X7_feed a0 v41 v42 v43 v44 v45 h37) fun v47 h48 => zlet (x3 + (20 : Int32)) fun v49 => rec v49 h48 z38 c39 u40) a0 a2 x3 sz 1000000 (0 : Int32) h29 ((sz + 1)) ((uc + 1)) ((us + (5 : Int32).toNatClampNeg))) else k126 h sz uc us
noncomputable def l_L_put_37 (ro : Nat → Nat) (mc ms : Nat) (k126 : zHp → Nat → Nat → Nat → Option (zHp × Nat)) (a0 : Nat) (a2 : Nat) (n : Nat) : Int32 → zHp → Nat → Nat → Nat → Option (zHp × Nat) :=
  Nat.rec (motive := fun _ => Int32 → zHp → Nat → Nat → Nat → Option (zHp × Nat)) (fun _ _ _ _ _ => none) (fun _ rec => b_L_put_37 ro mc ms k126 a0 a2 rec) n
theorem l_L_put_37_s {ro : Nat → Nat} {mc ms : Nat} (k126 : zHp → Nat → Nat → Nat → Option (zHp × Nat)) (a0 : Nat) (a2 : Nat) (n : Nat) (x3 : Int32) (h : zHp) (sz : Nat) (uc : Nat) (us : Nat) : l_L_put_37 ro mc ms k126 a0 a2 (n + 1) x3 h sz uc us = b_L_put_37 ro mc ms k126 a0 a2 (l_L_put_37 ro mc ms k126 a0 a2 n) x3 h sz uc us := rfl
set_option maxHeartbeats 4000000 in
set_option maxRecDepth 100000 in
theorem wl_L_put_37 {P : zX} {ro : Nat → Nat} {mc ms : Nat} (C : zC P cL_put RL none 7 mc ms 6 ro) {a0 : Nat} {a2 : Nat} {k126 : zHp → Nat → Nat → Nat → Option (zHp × Nat)} (hk126 : ∀ (h : zHp) (sz : Nat) (uc : Nat) (us : Nat), zG P zoVA (k126 h sz uc us) 126 [] [] h sz uc us) : ∀ (n : Nat) (x3 : Int32) (h : zHp) (sz : Nat) (uc : Nat) (us : Nat), zG P zoVA (l_L_put_37 ro mc ms k126 a0 a2 n x3 h sz uc us) 37 [(0, .ref a0), (2, .ref a2), (3, .int x3)] [] h sz uc us := by
  intro n
  induction n with
  | zero =>
    intro x3 h sz uc us
    show zG P zoVA none _ _ _ _ _ _ _
    exact z_none
  | succ n ih =>
    intro x3 h sz uc us
    show zG P zoVA (b_L_put_37 ro mc ms k126 a0 a2 (l_L_put_37 ro mc ms k126 a0 a2 n) x3 h sz uc us) _ _ _ _ _ _ _
    unfold b_L_put_37
    refine z_iload_n C dL_put_37 2 rfl ?_
    refine z_aload_n C dL_put_38 1 rfl ?_
    refine z_chk (fun q26 => ?_)
    refine z_callVp C zc_L_8 [] (fun l D tc b0 r h => m_J0_length_8abf5 l D tc ro b0 h) dL_put_39 rfl rfl (Nat.le_of_ble_eq_true rfl) (by decide) (by decide) q26 (fun v27 => ?_)
    refine z_icmp_ge C 126 dL_put_42 (by decide) ?_ ?_
    · refine z_iconst C dL_put_45 zi_5 ?_
      refine z_chk (fun q28 => ?_)
      refine z_newarr (t := 0) (ty := .int) (A := .inl (fun _ => 0)) C rfl (fun _ => rfl) (by decide) (fun _ _ h => h) (fun _ _ => rfl) zar_int dL_put_46 (by decide) q28 (fun h29 => ?_)
      refine z_astore (lv' := [(0, .ref a0), (2, .ref a2), (3, .int x3), (4, .ref sz)]) C dL_put_48 (by decide) rfl ?_
      refine z_iconst C dL_put_50 zi_0 ?_
      refine z_istore (lv' := [(0, .ref a0), (2, .ref a2), (3, .int x3), (4, .ref sz), (5, .int (0 : Int32))]) C dL_put_51 (by decide) rfl ?_
      refine wl_L_put_53 C (fun h37 z38 c39 u40 => ?_) _ _ _ _ _ _
      refine z_aload_n C dL_put_95 0 rfl ?_
      refine z_aload C dL_put_96 3 rfl ?_
      refine z_iconst C dL_put_98 zi_0 ?_
      refine z_iaload C dL_put_99 (fun v41 => ?_)
      refine z_aload C dL_put_100 3 rfl ?_
      refine z_iconst C dL_put_102 zi_1 ?_
      refine z_iaload C dL_put_103 (fun v42 => ?_)
      refine z_aload C dL_put_104 3 rfl ?_
      refine z_iconst C dL_put_106 zi_2 ?_
      refine z_iaload C dL_put_107 (fun v43 => ?_)
      refine z_aload C dL_put_108 3 rfl ?_
      refine z_iconst C dL_put_110 zi_3 ?_
      refine z_iaload C dL_put_111 (fun v44 => ?_)
      refine z_aload C dL_put_112 3 rfl ?_
      refine z_iconst C dL_put_114 zi_4 ?_
      refine z_iaload C dL_put_115 (fun v45 => ?_)
      refine z_chk (fun q46 => ?_)
      refine z_callVi C zc_L_31 [.int v41, .int v42, .int v43, .int v44, .int v45] (fun l D tc b0 r h => m_X7_feed l D tc ro b0 h) dL_put_116 rfl rfl (Nat.le_of_ble_eq_true rfl) (by decide) (by decide) q46 (fun v47 h48 => ?_)
      refine z_pop C dL_put_119 rfl ?_
      refine z_iincL C 2 (fun v49 => [(0, .ref a0), (2, .ref a2), (3, .int v49), (4, .ref sz)]) dL_put_120 rfl zi_20 (by decide) (fun _ => rfl) (fun v49 => ?_)
      refine z_goto C 37 dL_put_123 (by decide) ?_
      exact z_sub [0, 1, 2] rfl (ih _ _ _ _ _)
    exact z_sub [] rfl (hk126 _ _ _ _)
noncomputable def f_L_put (ro : Nat → Nat) (mc ms : Nat) (a0 : Nat) (a1 : Nat) (hp : zHp) (sz : Nat) : Option (zHp × Nat) :=
  l_L_put_2 ro mc ms (fun p21 h22 z23 c24 u25 => l_L_put_37 ro mc ms (fun h50 z51 c52 u53 => zchk (c52 ≤ mc ∧ u53 ≤ ms) <| some (h50, z51)) a0 p21 1000000 (0 : Int32) h22 z23 c24 u25) a0 1000000 a1 hp sz 0 0
set_option maxHeartbeats 4000000 in
set_option maxRecDepth 100000 in
theorem m_L_put (l : Launch) (D : va_G) (tc : Nat → ClassId) (ro : Nat → Nat) (b0 : Nat) {mc ms : Nat} {a0 : Nat} {a1 : Nat} {hp : zHp} {sz : Nat} {r : (zHp × Nat)} (h : f_L_put ro mc ms a0 a1 hp sz = some r) : zM l yL_put cL_put 6 none 7 mc ms [.ref a0, .ref a1] D tc ro b0 hp sz (zoVA r).1 (zoVA r).2.1 (zoVA r).2.2 := by
  refine z_start (o := zoVA) (lv := [(0, .ref a0), (1, .ref a1)]) h (by decide +kernel) RL rfl rfl (Nat.le_of_ble_eq_true rfl) (fun P C => ?_)
  unfold f_L_put
  refine z_aload_n C dL_put_0 1 rfl ?_
  refine z_astore_n (lv' := [(0, .ref a0), (1, .ref a1), (2, .ref a1)]) C dL_put_1 (by decide) rfl ?_
  refine z_sub [0, 2] rfl (wl_L_put_2 C (fun p21 h22 z23 c24 u25 => ?_) _ _ _ _ _ _)
  refine z_iconst C dL_put_35 zi_0 ?_
  refine z_istore_n (lv' := [(0, .ref a0), (2, .ref p21), (3, .int (0 : Int32))]) C dL_put_36 (by decide) rfl ?_
  refine wl_L_put_37 C (fun h50 z51 c52 u53 => ?_) _ _ _ _ _ _
  refine z_chk (fun q54 => ?_)
  exact z_returnA C dL_put_126 q54
noncomputable def j_L_statements_28 (k36 : Int32 → Option Int32) (rec : Int32 → Int32 → Option Int32) (a0 : Nat) (x2 : Int32) (s0 : Int32) (s1 : Int32) (hp : zHp) : Option Int32 :=
  zlet (s0 + s1) fun v3 => zlet (x2 + (1 : Int32)) fun v4 => rec v3 v4
set_option maxHeartbeats 4000000 in
set_option maxRecDepth 100000 in
theorem wj_L_statements_28 {P : zX} {ro : Nat → Nat} {sz : Nat} (C : zC P cL_statements RL (some .int) 5 0 0 3 ro) {a0 : Nat} {x2 : Int32} {s0 : Int32} {s1 : Int32} {hp : zHp} {k36 : Int32 → Option Int32} (hk36 : ∀ (x1 : Int32), zG P (zoP sz hp) (k36 x1) 36 [(1, .int x1)] [] hp sz 0 0) {rec : Int32 → Int32 → Option Int32} (hrec : ∀ (x1 : Int32) (x2 : Int32), zG P (zoP sz hp) (rec x1 x2) 4 [(0, .ref a0), (1, .int x1), (2, .int x2)] [] hp sz 0 0) : zG P (zoP sz hp) (j_L_statements_28 k36 rec a0 x2 s0 s1 hp) 28 [(0, .ref a0), (2, .int x2)] [.int s1, .int s0] hp sz 0 0 := by
  unfold j_L_statements_28
  refine z_iadd C dL_statements_28 ?_
  refine z_istore_nL C (fun v3 => [(0, .ref a0), (1, .int v3), (2, .int x2)]) dL_statements_29 (by decide) (fun _ => rfl) (fun v3 => ?_)
  refine z_iincL C 2 (fun v4 => [(0, .ref a0), (1, .int v3), (2, .int v4)]) dL_statements_30 rfl zi_1 (by decide) (fun _ => rfl) (fun v4 => ?_)
  refine z_goto C 4 dL_statements_33 (by decide) ?_
  exact hrec _ _
noncomputable def b_L_statements_4 (k36 : Int32 → Option Int32) (a0 : Nat) (hp : zHp) (rec : Int32 → Int32 → Option Int32) (x1 : Int32) (x2 : Int32) : Option Int32 :=
  (f_J0_length_8abf5 a0 hp).bind fun v1 => if x2 < v1 then ((f_J0_charAt_5068e a0 x2 hp).bind fun v2 => if v2 = (59 : Int32) then (j_L_statements_28 k36 rec a0 x2 x1 (1 : Int32) hp) else j_L_statements_28 k36 rec a0 x2 x1 (0 : Int32) hp) else k36 x1
noncomputable def l_L_statements_4 (k36 : Int32 → Option Int32) (a0 : Nat) (hp : zHp) (n : Nat) : Int32 → Int32 → Option Int32 :=
  Nat.rec (motive := fun _ => Int32 → Int32 → Option Int32) (fun _ _ => none) (fun _ rec => b_L_statements_4 k36 a0 hp rec) n
theorem l_L_statements_4_s (k36 : Int32 → Option Int32) (a0 : Nat) (hp : zHp) (n : Nat) (x1 : Int32) (x2 : Int32) : l_L_statements_4 k36 a0 hp (n + 1) x1 x2 = b_L_statements_4 k36 a0 hp (l_L_statements_4 k36 a0 hp n) x1 x2 := rfl
set_option maxHeartbeats 4000000 in
set_option maxRecDepth 100000 in
theorem wl_L_statements_4 {P : zX} {ro : Nat → Nat} {sz : Nat} (C : zC P cL_statements RL (some .int) 5 0 0 3 ro) {a0 : Nat} {hp : zHp} {k36 : Int32 → Option Int32} (hk36 : ∀ (x1 : Int32), zG P (zoP sz hp) (k36 x1) 36 [(1, .int x1)] [] hp sz 0 0) : ∀ (n : Nat) (x1 : Int32) (x2 : Int32), zG P (zoP sz hp) (l_L_statements_4 k36 a0 hp n x1 x2) 4 [(0, .ref a0), (1, .int x1), (2, .int x2)] [] hp sz 0 0 := by
  intro n
  induction n with
  | zero =>
    intro x1 x2
    show zG P (zoP sz hp) none _ _ _ _ _ _ _
    exact z_none
  | succ n ih =>
    intro x1 x2
    show zG P (zoP sz hp) (b_L_statements_4 k36 a0 hp (l_L_statements_4 k36 a0 hp n) x1 x2) _ _ _ _ _ _ _
    unfold b_L_statements_4
    refine z_iload_n C dL_statements_4 2 rfl ?_
    refine z_aload_n C dL_statements_5 0 rfl ?_
    refine z_callVp C zc_L_8 [] (fun l D tc b0 r h => m_J0_length_8abf5 l D tc ro b0 h) dL_statements_6 rfl rfl (Nat.le_of_ble_eq_true rfl) (by decide) (by decide) ⟨Nat.le_of_ble_eq_true rfl, Nat.le_of_ble_eq_true rfl⟩ (fun v1 => ?_)
    refine z_icmp_ge C 36 dL_statements_9 (by decide) ?_ ?_
    · refine z_iload_n C dL_statements_12 1 rfl ?_
      refine z_aload_n C dL_statements_13 0 rfl ?_
      refine z_iload_n C dL_statements_14 2 rfl ?_
      refine z_callVp C zc_L_27 [.int x2] (fun l D tc b0 r h => m_J0_charAt_5068e l D tc ro b0 h) dL_statements_15 rfl rfl (Nat.le_of_ble_eq_true rfl) (by decide) (by decide) ⟨Nat.le_of_ble_eq_true rfl, Nat.le_of_ble_eq_true rfl⟩ (fun v2 => ?_)
      refine z_bipush C dL_statements_18 zbi_59 ?_
      refine z_icmp_ne C 27 dL_statements_20 (by decide) ?_ ?_
      · refine z_iconst C dL_statements_23 zi_1 ?_
        refine z_goto C 28 dL_statements_24 (by decide) ?_
        exact z_sub [0, 2] rfl (wj_L_statements_28 C hk36 ih)
      refine z_iconst C dL_statements_27 zi_0 ?_
      exact z_sub [0, 2] rfl (wj_L_statements_28 C hk36 ih)
    exact z_sub [1] rfl (hk36 _)
noncomputable def f_L_statements (a0 : Nat) (hp : zHp) : Option Int32 :=
  l_L_statements_4 (fun p5 => some p5) a0 hp 1000000 (0 : Int32) (0 : Int32)
set_option maxHeartbeats 4000000 in
set_option maxRecDepth 100000 in
theorem m_L_statements (l : Launch) (D : va_G) (tc : Nat → ClassId) (ro : Nat → Nat) (b0 : Nat) {a0 : Nat} {hp : zHp} {sz : Nat} {r : Int32} (h : f_L_statements a0 hp = some r) : zM l yL_statements cL_statements 3 (some .int) 5 0 0 [.ref a0] D tc ro b0 hp sz ((zoP sz hp) r).1 ((zoP sz hp) r).2.1 ((zoP sz hp) r).2.2 := by
  refine z_start (o := (zoP sz hp)) (lv := [(0, .ref a0)]) h (by decide +kernel) RL rfl rfl (Nat.le_of_ble_eq_true rfl) (fun P C => ?_)
  unfold f_L_statements
  refine z_iconst C dL_statements_0 zi_0 ?_
  refine z_istore_n (lv' := [(0, .ref a0), (1, .int (0 : Int32))]) C dL_statements_1 (by decide) rfl ?_
  refine z_iconst C dL_statements_2 zi_0 ?_
  refine z_istore_n (lv' := [(0, .ref a0), (1, .int (0 : Int32)), (2, .int (0 : Int32))]) C dL_statements_3 (by decide) rfl ?_
  refine wl_L_statements_4 C (fun p5 => ?_) _ _ _
  refine z_iload_n C dL_statements_36 0 rfl ?_
  exact z_ireturnP C dL_statements_37
noncomputable def f_L_parties (a0 : Nat) (hp : zHp) : Option Int32 :=
  (f_L_cell a0 (0 : Int32) hp).bind fun v1 => (f_L_in v1 (4 : Int32) hp).bind fun v2 => some ((1 : Int32) + v2)
set_option maxHeartbeats 4000000 in
set_option maxRecDepth 100000 in
theorem m_L_parties (l : Launch) (D : va_G) (tc : Nat → ClassId) (ro : Nat → Nat) (b0 : Nat) {a0 : Nat} {hp : zHp} {sz : Nat} {r : Int32} (h : f_L_parties a0 hp = some r) : zM l yL_parties cL_parties 1 (some .int) 2 0 0 [.ref a0] D tc ro b0 hp sz ((zoP sz hp) r).1 ((zoP sz hp) r).2.1 ((zoP sz hp) r).2.2 := by
  refine z_start (o := (zoP sz hp)) (lv := [(0, .ref a0)]) h (by decide +kernel) RL rfl rfl (Nat.le_of_ble_eq_true rfl) (fun P C => ?_)
  unfold f_L_parties
  refine z_iconst C dL_parties_0 zi_1 ?_
  refine z_aload_n C dL_parties_1 0 rfl ?_
  refine z_iconst C dL_parties_2 zi_0 ?_
  refine z_callSp C zs_L_37 [.ref a0, .int (0 : Int32)] (fun l D tc b0 r h => m_L_cell l D tc ro b0 h) dL_parties_3 rfl rfl (Nat.le_of_ble_eq_true rfl) (by decide) (by decide) ⟨Nat.le_of_ble_eq_true rfl, Nat.le_of_ble_eq_true rfl⟩ (fun v1 => ?_)
  refine z_iconst C dL_parties_6 zi_4 ?_
  refine z_callSp C zs_L_43 [.int v1, .int (4 : Int32)] (fun l D tc b0 r h => m_L_in l D tc ro b0 h) dL_parties_7 rfl rfl (Nat.le_of_ble_eq_true rfl) (by decide) (by decide) ⟨Nat.le_of_ble_eq_true rfl, Nat.le_of_ble_eq_true rfl⟩ (fun v2 => ?_)
  refine z_iadd C dL_parties_10 ?_
  exact z_ireturnP C dL_parties_11
noncomputable def f_L_regions (a0 : Nat) (hp : zHp) : Option Int32 :=
  (f_L_cell a0 (0 : Int32) hp).bind fun v1 => (zdiv v1 (4 : Int32)).bind fun v2 => (f_L_in v2 (4 : Int32) hp).bind fun v3 => some ((1 : Int32) + v3)
set_option maxHeartbeats 4000000 in
set_option maxRecDepth 100000 in
theorem m_L_regions (l : Launch) (D : va_G) (tc : Nat → ClassId) (ro : Nat → Nat) (b0 : Nat) {a0 : Nat} {hp : zHp} {sz : Nat} {r : Int32} (h : f_L_regions a0 hp = some r) : zM l yL_regions cL_regions 1 (some .int) 2 0 0 [.ref a0] D tc ro b0 hp sz ((zoP sz hp) r).1 ((zoP sz hp) r).2.1 ((zoP sz hp) r).2.2 := by
  refine z_start (o := (zoP sz hp)) (lv := [(0, .ref a0)]) h (by decide +kernel) RL rfl rfl (Nat.le_of_ble_eq_true rfl) (fun P C => ?_)
  unfold f_L_regions
  refine z_iconst C dL_regions_0 zi_1 ?_
  refine z_aload_n C dL_regions_1 0 rfl ?_
  refine z_iconst C dL_regions_2 zi_0 ?_
  refine z_callSp C zs_L_37 [.ref a0, .int (0 : Int32)] (fun l D tc b0 r h => m_L_cell l D tc ro b0 h) dL_regions_3 rfl rfl (Nat.le_of_ble_eq_true rfl) (by decide) (by decide) ⟨Nat.le_of_ble_eq_true rfl, Nat.le_of_ble_eq_true rfl⟩ (fun v1 => ?_)
  refine z_iconst C dL_regions_6 zi_4 ?_
  refine z_idiv C dL_regions_7 (fun v2 => ?_)
  refine z_iconst C dL_regions_8 zi_4 ?_
  refine z_callSp C zs_L_43 [.int v2, .int (4 : Int32)] (fun l D tc b0 r h => m_L_in l D tc ro b0 h) dL_regions_9 rfl rfl (Nat.le_of_ble_eq_true rfl) (by decide) (by decide) ⟨Nat.le_of_ble_eq_true rfl, Nat.le_of_ble_eq_true rfl⟩ (fun v3 => ?_)
  refine z_iadd C dL_regions_12 ?_
  exact z_ireturnP C dL_regions_13
noncomputable def f_L_around (a0 : Nat) (x1 : Int32) (hp : zHp) : Option Int32 :=
  if x1 = 0 then (some (-1 : Int32)) else (f_L_cell a0 (1 : Int32) hp).bind fun v1 => (f_L_in (v1 >>> (((3 : Int32) * x1) &&& 31)) (x1 + (1 : Int32)) hp).bind fun v2 => some (v2 - (1 : Int32))
set_option maxHeartbeats 4000000 in
set_option maxRecDepth 100000 in
theorem m_L_around (l : Launch) (D : va_G) (tc : Nat → ClassId) (ro : Nat → Nat) (b0 : Nat) {a0 : Nat} {x1 : Int32} {hp : zHp} {sz : Nat} {r : Int32} (h : f_L_around a0 x1 hp = some r) : zM l yL_around cL_around 2 (some .int) 2 0 0 [.ref a0, .int x1] D tc ro b0 hp sz ((zoP sz hp) r).1 ((zoP sz hp) r).2.1 ((zoP sz hp) r).2.2 := by
  refine z_start (o := (zoP sz hp)) (lv := [(0, .ref a0), (1, .int x1)]) h (by decide +kernel) RL rfl rfl (Nat.le_of_ble_eq_true rfl) (fun P C => ?_)
  unfold f_L_around
  refine z_iload_n C dL_around_0 1 rfl ?_
  refine z_if_ne C 8 dL_around_1 (by decide) ?_ ?_
  · refine z_iconst C dL_around_4 zi_m1 ?_
    refine z_goto C 25 dL_around_5 (by decide) ?_
    exact z_ireturnP C dL_around_25
  refine z_aload_n C dL_around_8 0 rfl ?_
  refine z_iconst C dL_around_9 zi_1 ?_
  refine z_callSp C zs_L_37 [.ref a0, .int (1 : Int32)] (fun l D tc b0 r h => m_L_cell l D tc ro b0 h) dL_around_10 rfl rfl (Nat.le_of_ble_eq_true rfl) (by decide) (by decide) ⟨Nat.le_of_ble_eq_true rfl, Nat.le_of_ble_eq_true rfl⟩ (fun v1 => ?_)
  refine z_iconst C dL_around_13 zi_3 ?_
  refine z_iload_n C dL_around_14 1 rfl ?_
  refine z_imul C dL_around_15 ?_
  refine z_ishr C dL_around_16 ?_
  refine z_iload_n C dL_around_17 1 rfl ?_
  refine z_iconst C dL_around_18 zi_1 ?_
  refine z_iadd C dL_around_19 ?_
  refine z_callSp C zs_L_43 [.int (v1 >>> (((3 : Int32) * x1) &&& 31)), .int (x1 + (1 : Int32))] (fun l D tc b0 r h => m_L_in l D tc ro b0 h) dL_around_20 rfl rfl (Nat.le_of_ble_eq_true rfl) (by decide) (by decide) ⟨Nat.le_of_ble_eq_true rfl, Nat.le_of_ble_eq_true rfl⟩ (fun v2 => ?_)
  refine z_iconst C dL_around_23 zi_1 ?_
  refine z_isub C dL_around_24 ?_
  exact z_ireturnP C dL_around_25
noncomputable def f_L_wards (a0 : Nat) (hp : zHp) : Option Int32 :=
  (f_L_cell a0 (0 : Int32) hp).bind fun v1 => (zdiv v1 (16 : Int32)).bind fun v2 => (f_L_in v2 (4 : Int32) hp).bind fun v3 => some ((1 : Int32) + v3)
set_option maxHeartbeats 4000000 in
set_option maxRecDepth 100000 in
theorem m_L_wards (l : Launch) (D : va_G) (tc : Nat → ClassId) (ro : Nat → Nat) (b0 : Nat) {a0 : Nat} {hp : zHp} {sz : Nat} {r : Int32} (h : f_L_wards a0 hp = some r) : zM l yL_wards cL_wards 1 (some .int) 2 0 0 [.ref a0] D tc ro b0 hp sz ((zoP sz hp) r).1 ((zoP sz hp) r).2.1 ((zoP sz hp) r).2.2 := by
  refine z_start (o := (zoP sz hp)) (lv := [(0, .ref a0)]) h (by decide +kernel) RL rfl rfl (Nat.le_of_ble_eq_true rfl) (fun P C => ?_)
  unfold f_L_wards
  refine z_iconst C dL_wards_0 zi_1 ?_
  refine z_aload_n C dL_wards_1 0 rfl ?_
  refine z_iconst C dL_wards_2 zi_0 ?_
  refine z_callSp C zs_L_37 [.ref a0, .int (0 : Int32)] (fun l D tc b0 r h => m_L_cell l D tc ro b0 h) dL_wards_3 rfl rfl (Nat.le_of_ble_eq_true rfl) (by decide) (by decide) ⟨Nat.le_of_ble_eq_true rfl, Nat.le_of_ble_eq_true rfl⟩ (fun v1 => ?_)
  refine z_bipush C dL_wards_6 zbi_16 ?_
  refine z_idiv C dL_wards_8 (fun v2 => ?_)
  refine z_iconst C dL_wards_9 zi_4 ?_
  refine z_callSp C zs_L_43 [.int v2, .int (4 : Int32)] (fun l D tc b0 r h => m_L_in l D tc ro b0 h) dL_wards_10 rfl rfl (Nat.le_of_ble_eq_true rfl) (by decide) (by decide) ⟨Nat.le_of_ble_eq_true rfl, Nat.le_of_ble_eq_true rfl⟩ (fun v3 => ?_)
  refine z_iadd C dL_wards_13 ?_
  exact z_ireturnP C dL_wards_14
noncomputable def f_L_regionOf (a0 : Nat) (x1 : Int32) (hp : zHp) : Option Int32 :=
  (f_L_cell a0 (1 : Int32) hp).bind fun v1 => (f_L_regions a0 hp).bind fun v2 => (f_L_in (v1 >>> ((((2 : Int32) * x1) + (7 : Int32)) &&& 31)) v2 hp).bind fun v3 => some v3
set_option maxHeartbeats 4000000 in
set_option maxRecDepth 100000 in
theorem m_L_regionOf (l : Launch) (D : va_G) (tc : Nat → ClassId) (ro : Nat → Nat) (b0 : Nat) {a0 : Nat} {x1 : Int32} {hp : zHp} {sz : Nat} {r : Int32} (h : f_L_regionOf a0 x1 hp = some r) : zM l yL_regionOf cL_regionOf 2 (some .int) 3 0 0 [.ref a0, .int x1] D tc ro b0 hp sz ((zoP sz hp) r).1 ((zoP sz hp) r).2.1 ((zoP sz hp) r).2.2 := by
  refine z_start (o := (zoP sz hp)) (lv := [(0, .ref a0), (1, .int x1)]) h (by decide +kernel) RL rfl rfl (Nat.le_of_ble_eq_true rfl) (fun P C => ?_)
  unfold f_L_regionOf
  refine z_aload_n C dL_regionOf_0 0 rfl ?_
  refine z_iconst C dL_regionOf_1 zi_1 ?_
  refine z_callSp C zs_L_37 [.ref a0, .int (1 : Int32)] (fun l D tc b0 r h => m_L_cell l D tc ro b0 h) dL_regionOf_2 rfl rfl (Nat.le_of_ble_eq_true rfl) (by decide) (by decide) ⟨Nat.le_of_ble_eq_true rfl, Nat.le_of_ble_eq_true rfl⟩ (fun v1 => ?_)
  refine z_iconst C dL_regionOf_5 zi_2 ?_
  refine z_iload_n C dL_regionOf_6 1 rfl ?_
  refine z_imul C dL_regionOf_7 ?_
  refine z_bipush C dL_regionOf_8 zbi_7 ?_
  refine z_iadd C dL_regionOf_10 ?_
  refine z_ishr C dL_regionOf_11 ?_
  refine z_aload_n C dL_regionOf_12 0 rfl ?_
  refine z_callSp C zs_L_47 [.ref a0] (fun l D tc b0 r h => m_L_regions l D tc ro b0 h) dL_regionOf_13 rfl rfl (Nat.le_of_ble_eq_true rfl) (by decide) (by decide) ⟨Nat.le_of_ble_eq_true rfl, Nat.le_of_ble_eq_true rfl⟩ (fun v2 => ?_)
  refine z_callSp C zs_L_43 [.int (v1 >>> ((((2 : Int32) * x1) + (7 : Int32)) &&& 31)), .int v2] (fun l D tc b0 r h => m_L_in l D tc ro b0 h) dL_regionOf_16 rfl rfl (Nat.le_of_ble_eq_true rfl) (by decide) (by decide) ⟨Nat.le_of_ble_eq_true rfl, Nat.le_of_ble_eq_true rfl⟩ (fun v3 => ?_)
  exact z_ireturnP C dL_regionOf_19
noncomputable def f_L_boxes (a0 : Nat) (hp : zHp) : Option Int32 :=
  (f_L_cell a0 (0 : Int32) hp).bind fun v1 => (zdiv v1 (64 : Int32)).bind fun v2 => (f_L_in v2 (7 : Int32) hp).bind fun v3 => some ((1 : Int32) + v3)
set_option maxHeartbeats 4000000 in
set_option maxRecDepth 100000 in
theorem m_L_boxes (l : Launch) (D : va_G) (tc : Nat → ClassId) (ro : Nat → Nat) (b0 : Nat) {a0 : Nat} {hp : zHp} {sz : Nat} {r : Int32} (h : f_L_boxes a0 hp = some r) : zM l yL_boxes cL_boxes 1 (some .int) 2 0 0 [.ref a0] D tc ro b0 hp sz ((zoP sz hp) r).1 ((zoP sz hp) r).2.1 ((zoP sz hp) r).2.2 := by
  refine z_start (o := (zoP sz hp)) (lv := [(0, .ref a0)]) h (by decide +kernel) RL rfl rfl (Nat.le_of_ble_eq_true rfl) (fun P C => ?_)
  unfold f_L_boxes
  refine z_iconst C dL_boxes_0 zi_1 ?_
  refine z_aload_n C dL_boxes_1 0 rfl ?_
  refine z_iconst C dL_boxes_2 zi_0 ?_
  refine z_callSp C zs_L_37 [.ref a0, .int (0 : Int32)] (fun l D tc b0 r h => m_L_cell l D tc ro b0 h) dL_boxes_3 rfl rfl (Nat.le_of_ble_eq_true rfl) (by decide) (by decide) ⟨Nat.le_of_ble_eq_true rfl, Nat.le_of_ble_eq_true rfl⟩ (fun v1 => ?_)
  refine z_bipush C dL_boxes_6 zbi_64 ?_
  refine z_idiv C dL_boxes_8 (fun v2 => ?_)
  refine z_bipush C dL_boxes_9 zbi_7 ?_
  refine z_callSp C zs_L_43 [.int v2, .int (7 : Int32)] (fun l D tc b0 r h => m_L_in l D tc ro b0 h) dL_boxes_11 rfl rfl (Nat.le_of_ble_eq_true rfl) (by decide) (by decide) ⟨Nat.le_of_ble_eq_true rfl, Nat.le_of_ble_eq_true rfl⟩ (fun v3 => ?_)
  refine z_iadd C dL_boxes_14 ?_
  exact z_ireturnP C dL_boxes_15
noncomputable def f_L_wardOf (a0 : Nat) (x1 : Int32) (hp : zHp) : Option Int32 :=
  (f_L_cell a0 (2 : Int32) hp).bind fun v1 => (f_L_wards a0 hp).bind fun v2 => (f_L_in (v1 >>> (((2 : Int32) * x1) &&& 31)) v2 hp).bind fun v3 => some v3
set_option maxHeartbeats 4000000 in
set_option maxRecDepth 100000 in
theorem m_L_wardOf (l : Launch) (D : va_G) (tc : Nat → ClassId) (ro : Nat → Nat) (b0 : Nat) {a0 : Nat} {x1 : Int32} {hp : zHp} {sz : Nat} {r : Int32} (h : f_L_wardOf a0 x1 hp = some r) : zM l yL_wardOf cL_wardOf 2 (some .int) 3 0 0 [.ref a0, .int x1] D tc ro b0 hp sz ((zoP sz hp) r).1 ((zoP sz hp) r).2.1 ((zoP sz hp) r).2.2 := by
  refine z_start (o := (zoP sz hp)) (lv := [(0, .ref a0), (1, .int x1)]) h (by decide +kernel) RL rfl rfl (Nat.le_of_ble_eq_true rfl) (fun P C => ?_)
  unfold f_L_wardOf
  refine z_aload_n C dL_wardOf_0 0 rfl ?_
  refine z_iconst C dL_wardOf_1 zi_2 ?_
  refine z_callSp C zs_L_37 [.ref a0, .int (2 : Int32)] (fun l D tc b0 r h => m_L_cell l D tc ro b0 h) dL_wardOf_2 rfl rfl (Nat.le_of_ble_eq_true rfl) (by decide) (by decide) ⟨Nat.le_of_ble_eq_true rfl, Nat.le_of_ble_eq_true rfl⟩ (fun v1 => ?_)
  refine z_iconst C dL_wardOf_5 zi_2 ?_
  refine z_iload_n C dL_wardOf_6 1 rfl ?_
  refine z_imul C dL_wardOf_7 ?_
  refine z_ishr C dL_wardOf_8 ?_
  refine z_aload_n C dL_wardOf_9 0 rfl ?_
  refine z_callSp C zs_L_51 [.ref a0] (fun l D tc b0 r h => m_L_wards l D tc ro b0 h) dL_wardOf_10 rfl rfl (Nat.le_of_ble_eq_true rfl) (by decide) (by decide) ⟨Nat.le_of_ble_eq_true rfl, Nat.le_of_ble_eq_true rfl⟩ (fun v2 => ?_)
  refine z_callSp C zs_L_43 [.int (v1 >>> (((2 : Int32) * x1) &&& 31)), .int v2] (fun l D tc b0 r h => m_L_in l D tc ro b0 h) dL_wardOf_13 rfl rfl (Nat.le_of_ble_eq_true rfl) (by decide) (by decide) ⟨Nat.le_of_ble_eq_true rfl, Nat.le_of_ble_eq_true rfl⟩ (fun v3 => ?_)
  exact z_ireturnP C dL_wardOf_16
noncomputable def f_L_tables (a0 : Nat) (hp : zHp) : Option Int32 :=
  (f_L_cell a0 (0 : Int32) hp).bind fun v1 => (zdiv v1 (512 : Int32)).bind fun v2 => (f_L_in v2 (4 : Int32) hp).bind fun v3 => some ((1 : Int32) + v3)
set_option maxHeartbeats 4000000 in
set_option maxRecDepth 100000 in
theorem m_L_tables (l : Launch) (D : va_G) (tc : Nat → ClassId) (ro : Nat → Nat) (b0 : Nat) {a0 : Nat} {hp : zHp} {sz : Nat} {r : Int32} (h : f_L_tables a0 hp = some r) : zM l yL_tables cL_tables 1 (some .int) 2 0 0 [.ref a0] D tc ro b0 hp sz ((zoP sz hp) r).1 ((zoP sz hp) r).2.1 ((zoP sz hp) r).2.2 := by
  refine z_start (o := (zoP sz hp)) (lv := [(0, .ref a0)]) h (by decide +kernel) RL rfl rfl (Nat.le_of_ble_eq_true rfl) (fun P C => ?_)
  unfold f_L_tables
  refine z_iconst C dL_tables_0 zi_1 ?_
  refine z_aload_n C dL_tables_1 0 rfl ?_
  refine z_iconst C dL_tables_2 zi_0 ?_
  refine z_callSp C zs_L_37 [.ref a0, .int (0 : Int32)] (fun l D tc b0 r h => m_L_cell l D tc ro b0 h) dL_tables_3 rfl rfl (Nat.le_of_ble_eq_true rfl) (by decide) (by decide) ⟨Nat.le_of_ble_eq_true rfl, Nat.le_of_ble_eq_true rfl⟩ (fun v1 => ?_)
  refine z_sipush C dL_tables_6 zsi_512 ?_
  refine z_idiv C dL_tables_9 (fun v2 => ?_)
  refine z_iconst C dL_tables_10 zi_4 ?_
  refine z_callSp C zs_L_43 [.int v2, .int (4 : Int32)] (fun l D tc b0 r h => m_L_in l D tc ro b0 h) dL_tables_11 rfl rfl (Nat.le_of_ble_eq_true rfl) (by decide) (by decide) ⟨Nat.le_of_ble_eq_true rfl, Nat.le_of_ble_eq_true rfl⟩ (fun v3 => ?_)
  refine z_iadd C dL_tables_14 ?_
  exact z_ireturnP C dL_tables_15
noncomputable def f_L_slip (a0 : Nat) (x1 : Int32) (hp : zHp) : Option Int32 :=
  (f_L_cell a0 (3 : Int32) hp).bind fun v1 => (f_L_in (v1 >>> (((5 : Int32) * x1) &&& 31)) (3 : Int32) hp).bind fun v2 => if v2 = 0 then (some (0 : Int32)) else (f_L_cell a0 (3 : Int32) hp).bind fun v3 => (f_L_in (v3 >>> ((((5 : Int32) * x1) + (2 : Int32)) &&& 31)) (25 : Int32) hp).bind fun v4 => some v4
set_option maxHeartbeats 4000000 in
set_option maxRecDepth 100000 in
theorem m_L_slip (l : Launch) (D : va_G) (tc : Nat → ClassId) (ro : Nat → Nat) (b0 : Nat) {a0 : Nat} {x1 : Int32} {hp : zHp} {sz : Nat} {r : Int32} (h : f_L_slip a0 x1 hp = some r) : zM l yL_slip cL_slip 2 (some .int) 2 0 0 [.ref a0, .int x1] D tc ro b0 hp sz ((zoP sz hp) r).1 ((zoP sz hp) r).2.1 ((zoP sz hp) r).2.2 := by
  refine z_start (o := (zoP sz hp)) (lv := [(0, .ref a0), (1, .int x1)]) h (by decide +kernel) RL rfl rfl (Nat.le_of_ble_eq_true rfl) (fun P C => ?_)
  unfold f_L_slip
  refine z_aload_n C dL_slip_0 0 rfl ?_
  refine z_iconst C dL_slip_1 zi_3 ?_
  refine z_callSp C zs_L_37 [.ref a0, .int (3 : Int32)] (fun l D tc b0 r h => m_L_cell l D tc ro b0 h) dL_slip_2 rfl rfl (Nat.le_of_ble_eq_true rfl) (by decide) (by decide) ⟨Nat.le_of_ble_eq_true rfl, Nat.le_of_ble_eq_true rfl⟩ (fun v1 => ?_)
  refine z_iconst C dL_slip_5 zi_5 ?_
  refine z_iload_n C dL_slip_6 1 rfl ?_
  refine z_imul C dL_slip_7 ?_
  refine z_ishr C dL_slip_8 ?_
  refine z_iconst C dL_slip_9 zi_3 ?_
  refine z_callSp C zs_L_43 [.int (v1 >>> (((5 : Int32) * x1) &&& 31)), .int (3 : Int32)] (fun l D tc b0 r h => m_L_in l D tc ro b0 h) dL_slip_10 rfl rfl (Nat.le_of_ble_eq_true rfl) (by decide) (by decide) ⟨Nat.le_of_ble_eq_true rfl, Nat.le_of_ble_eq_true rfl⟩ (fun v2 => ?_)
  refine z_if_ne C 20 dL_slip_13 (by decide) ?_ ?_
  · refine z_iconst C dL_slip_16 zi_0 ?_
    refine z_goto C 36 dL_slip_17 (by decide) ?_
    exact z_ireturnP C dL_slip_36
  refine z_aload_n C dL_slip_20 0 rfl ?_
  refine z_iconst C dL_slip_21 zi_3 ?_
  refine z_callSp C zs_L_37 [.ref a0, .int (3 : Int32)] (fun l D tc b0 r h => m_L_cell l D tc ro b0 h) dL_slip_22 rfl rfl (Nat.le_of_ble_eq_true rfl) (by decide) (by decide) ⟨Nat.le_of_ble_eq_true rfl, Nat.le_of_ble_eq_true rfl⟩ (fun v3 => ?_)
  refine z_iconst C dL_slip_25 zi_5 ?_
  refine z_iload_n C dL_slip_26 1 rfl ?_
  refine z_imul C dL_slip_27 ?_
  refine z_iconst C dL_slip_28 zi_2 ?_
  refine z_iadd C dL_slip_29 ?_
  refine z_ishr C dL_slip_30 ?_
  refine z_bipush C dL_slip_31 zbi_25 ?_
  refine z_callSp C zs_L_43 [.int (v3 >>> ((((5 : Int32) * x1) + (2 : Int32)) &&& 31)), .int (25 : Int32)] (fun l D tc b0 r h => m_L_in l D tc ro b0 h) dL_slip_33 rfl rfl (Nat.le_of_ble_eq_true rfl) (by decide) (by decide) ⟨Nat.le_of_ble_eq_true rfl, Nat.le_of_ble_eq_true rfl⟩ (fun v4 => ?_)
  exact z_ireturnP C dL_slip_36
noncomputable def f_L_paper (a0 : Nat) (x1 : Int32) (x2 : Int32) (hp : zHp) : Option Int32 :=
  (zrem x1 (4 : Int32)).bind fun v1 => (f_L_cell a0 ((4 : Int32) + v1) hp).bind fun v2 => (f_L_in (v2 >>> ((((2 : Int32) * x2) + x1) &&& 31)) (40 : Int32) hp).bind fun v3 => some v3
set_option maxHeartbeats 4000000 in
set_option maxRecDepth 100000 in
theorem m_L_paper (l : Launch) (D : va_G) (tc : Nat → ClassId) (ro : Nat → Nat) (b0 : Nat) {a0 : Nat} {x1 : Int32} {x2 : Int32} {hp : zHp} {sz : Nat} {r : Int32} (h : f_L_paper a0 x1 x2 hp = some r) : zM l yL_paper cL_paper 3 (some .int) 2 0 0 [.ref a0, .int x1, .int x2] D tc ro b0 hp sz ((zoP sz hp) r).1 ((zoP sz hp) r).2.1 ((zoP sz hp) r).2.2 := by
  refine z_start (o := (zoP sz hp)) (lv := [(0, .ref a0), (1, .int x1), (2, .int x2)]) h (by decide +kernel) RL rfl rfl (Nat.le_of_ble_eq_true rfl) (fun P C => ?_)
  unfold f_L_paper
  refine z_aload_n C dL_paper_0 0 rfl ?_
  refine z_iconst C dL_paper_1 zi_4 ?_
  refine z_iload_n C dL_paper_2 1 rfl ?_
  refine z_iconst C dL_paper_3 zi_4 ?_
  refine z_irem C dL_paper_4 (fun v1 => ?_)
  refine z_iadd C dL_paper_5 ?_
  refine z_callSp C zs_L_37 [.ref a0, .int ((4 : Int32) + v1)] (fun l D tc b0 r h => m_L_cell l D tc ro b0 h) dL_paper_6 rfl rfl (Nat.le_of_ble_eq_true rfl) (by decide) (by decide) ⟨Nat.le_of_ble_eq_true rfl, Nat.le_of_ble_eq_true rfl⟩ (fun v2 => ?_)
  refine z_iconst C dL_paper_9 zi_2 ?_
  refine z_iload_n C dL_paper_10 2 rfl ?_
  refine z_imul C dL_paper_11 ?_
  refine z_iload_n C dL_paper_12 1 rfl ?_
  refine z_iadd C dL_paper_13 ?_
  refine z_ishr C dL_paper_14 ?_
  refine z_bipush C dL_paper_15 zbi_40 ?_
  refine z_callSp C zs_L_43 [.int (v2 >>> ((((2 : Int32) * x2) + x1) &&& 31)), .int (40 : Int32)] (fun l D tc b0 r h => m_L_in l D tc ro b0 h) dL_paper_17 rfl rfl (Nat.le_of_ble_eq_true rfl) (by decide) (by decide) ⟨Nat.le_of_ble_eq_true rfl, Nat.le_of_ble_eq_true rfl⟩ (fun v3 => ?_)
  exact z_ireturnP C dL_paper_20
noncomputable def b_L_papers_4 (k27 : Int32 → Option Int32) (a0 : Nat) (x1 : Int32) (hp : zHp) (rec : Int32 → Int32 → Option Int32) (x2 : Int32) (x3 : Int32) : Option Int32 :=
  (f_L_parties a0 hp).bind fun v1 => if v1 < x3 then (k27 x2) else (f_L_paper a0 x1 x3 hp).bind fun v2 => zlet (x2 + v2) fun v3 => zlet (x3 + (1 : Int32)) fun v4 => rec v3 v4
noncomputable def l_L_papers_4 (k27 : Int32 → Option Int32) (a0 : Nat) (x1 : Int32) (hp : zHp) (n : Nat) : Int32 → Int32 → Option Int32 :=
  Nat.rec (motive := fun _ => Int32 → Int32 → Option Int32) (fun _ _ => none) (fun _ rec => b_L_papers_4 k27 a0 x1 hp rec) n
theorem l_L_papers_4_s (k27 : Int32 → Option Int32) (a0 : Nat) (x1 : Int32) (hp : zHp) (n : Nat) (x2 : Int32) (x3 : Int32) : l_L_papers_4 k27 a0 x1 hp (n + 1) x2 x3 = b_L_papers_4 k27 a0 x1 hp (l_L_papers_4 k27 a0 x1 hp n) x2 x3 := rfl
set_option maxHeartbeats 4000000 in
set_option maxRecDepth 100000 in
theorem wl_L_papers_4 {P : zX} {ro : Nat → Nat} {sz : Nat} (C : zC P cL_papers RL (some .int) 3 0 0 4 ro) {a0 : Nat} {x1 : Int32} {hp : zHp} {k27 : Int32 → Option Int32} (hk27 : ∀ (x2 : Int32), zG P (zoP sz hp) (k27 x2) 27 [(2, .int x2)] [] hp sz 0 0) : ∀ (n : Nat) (x2 : Int32) (x3 : Int32), zG P (zoP sz hp) (l_L_papers_4 k27 a0 x1 hp n x2 x3) 4 [(0, .ref a0), (1, .int x1), (2, .int x2), (3, .int x3)] [] hp sz 0 0 := by
  intro n
  induction n with
  | zero =>
    intro x2 x3
    show zG P (zoP sz hp) none _ _ _ _ _ _ _
    exact z_none
  | succ n ih =>
    intro x2 x3
    show zG P (zoP sz hp) (b_L_papers_4 k27 a0 x1 hp (l_L_papers_4 k27 a0 x1 hp n) x2 x3) _ _ _ _ _ _ _
    unfold b_L_papers_4
    refine z_iload_n C dL_papers_4 3 rfl ?_
    refine z_aload_n C dL_papers_5 0 rfl ?_
    refine z_callSp C zs_L_54 [.ref a0] (fun l D tc b0 r h => m_L_parties l D tc ro b0 h) dL_papers_6 rfl rfl (Nat.le_of_ble_eq_true rfl) (by decide) (by decide) ⟨Nat.le_of_ble_eq_true rfl, Nat.le_of_ble_eq_true rfl⟩ (fun v1 => ?_)
    refine z_icmp_gt C 27 dL_papers_9 (by decide) ?_ ?_
    · exact z_sub [2] rfl (hk27 _)
    refine z_iload_n C dL_papers_12 2 rfl ?_
    refine z_aload_n C dL_papers_13 0 rfl ?_
    refine z_iload_n C dL_papers_14 1 rfl ?_
    refine z_iload_n C dL_papers_15 3 rfl ?_
    refine z_callSp C zs_L_57 [.ref a0, .int x1, .int x3] (fun l D tc b0 r h => m_L_paper l D tc ro b0 h) dL_papers_16 rfl rfl (Nat.le_of_ble_eq_true rfl) (by decide) (by decide) ⟨Nat.le_of_ble_eq_true rfl, Nat.le_of_ble_eq_true rfl⟩ (fun v2 => ?_)
    refine z_iadd C dL_papers_19 ?_
    refine z_istore_nL C (fun v3 => [(0, .ref a0), (1, .int x1), (2, .int v3), (3, .int x3)]) dL_papers_20 (by decide) (fun _ => rfl) (fun v3 => ?_)
    refine z_iincL C 3 (fun v4 => [(0, .ref a0), (1, .int x1), (2, .int v3), (3, .int v4)]) dL_papers_21 rfl zi_1 (by decide) (fun _ => rfl) (fun v4 => ?_)
    refine z_goto C 4 dL_papers_24 (by decide) ?_
    exact ih _ _
noncomputable def f_L_papers (a0 : Nat) (x1 : Int32) (hp : zHp) : Option Int32 :=
  l_L_papers_4 (fun p5 => some p5) a0 x1 hp 1000000 (0 : Int32) (0 : Int32)
set_option maxHeartbeats 4000000 in
set_option maxRecDepth 100000 in
theorem m_L_papers (l : Launch) (D : va_G) (tc : Nat → ClassId) (ro : Nat → Nat) (b0 : Nat) {a0 : Nat} {x1 : Int32} {hp : zHp} {sz : Nat} {r : Int32} (h : f_L_papers a0 x1 hp = some r) : zM l yL_papers cL_papers 4 (some .int) 3 0 0 [.ref a0, .int x1] D tc ro b0 hp sz ((zoP sz hp) r).1 ((zoP sz hp) r).2.1 ((zoP sz hp) r).2.2 := by
  refine z_start (o := (zoP sz hp)) (lv := [(0, .ref a0), (1, .int x1)]) h (by decide +kernel) RL rfl rfl (Nat.le_of_ble_eq_true rfl) (fun P C => ?_)
  unfold f_L_papers
  refine z_iconst C dL_papers_0 zi_0 ?_
  refine z_istore_n (lv' := [(0, .ref a0), (1, .int x1), (2, .int (0 : Int32))]) C dL_papers_1 (by decide) rfl ?_
  refine z_iconst C dL_papers_2 zi_0 ?_
  refine z_istore_n (lv' := [(0, .ref a0), (1, .int x1), (2, .int (0 : Int32)), (3, .int (0 : Int32))]) C dL_papers_3 (by decide) rfl ?_
  refine wl_L_papers_4 C (fun p5 => ?_) _ _ _
  refine z_iload_n C dL_papers_27 0 rfl ?_
  exact z_ireturnP C dL_papers_28
noncomputable def f_L_issued (a0 : Nat) (x1 : Int32) (hp : zHp) : Option Int32 :=
  (f_L_papers a0 x1 hp).bind fun v1 => (f_L_cell a0 (8 : Int32) hp).bind fun v2 => (f_L_in (v2 >>> (((2 : Int32) * x1) &&& 31)) (5 : Int32) hp).bind fun v3 => (zdiv v3 (2 : Int32)).bind fun v4 => some (zmax (0 : Int32) ((v1 + v4) - (1 : Int32)))
set_option maxHeartbeats 4000000 in
set_option maxRecDepth 100000 in
theorem m_L_issued (l : Launch) (D : va_G) (tc : Nat → ClassId) (ro : Nat → Nat) (b0 : Nat) {a0 : Nat} {x1 : Int32} {hp : zHp} {sz : Nat} {r : Int32} (h : f_L_issued a0 x1 hp = some r) : zM l yL_issued cL_issued 2 (some .int) 4 0 0 [.ref a0, .int x1] D tc ro b0 hp sz ((zoP sz hp) r).1 ((zoP sz hp) r).2.1 ((zoP sz hp) r).2.2 := by
  refine z_start (o := (zoP sz hp)) (lv := [(0, .ref a0), (1, .int x1)]) h (by decide +kernel) RL rfl rfl (Nat.le_of_ble_eq_true rfl) (fun P C => ?_)
  unfold f_L_issued
  refine z_iconst C dL_issued_0 zi_0 ?_
  refine z_aload_n C dL_issued_1 0 rfl ?_
  refine z_iload_n C dL_issued_2 1 rfl ?_
  refine z_callSp C zs_L_61 [.ref a0, .int x1] (fun l D tc b0 r h => m_L_papers l D tc ro b0 h) dL_issued_3 rfl rfl (Nat.le_of_ble_eq_true rfl) (by decide) (by decide) ⟨Nat.le_of_ble_eq_true rfl, Nat.le_of_ble_eq_true rfl⟩ (fun v1 => ?_)
  refine z_aload_n C dL_issued_6 0 rfl ?_
  refine z_bipush C dL_issued_7 zbi_8 ?_
  refine z_callSp C zs_L_37 [.ref a0, .int (8 : Int32)] (fun l D tc b0 r h => m_L_cell l D tc ro b0 h) dL_issued_9 rfl rfl (Nat.le_of_ble_eq_true rfl) (by decide) (by decide) ⟨Nat.le_of_ble_eq_true rfl, Nat.le_of_ble_eq_true rfl⟩ (fun v2 => ?_)
  refine z_iconst C dL_issued_12 zi_2 ?_
  refine z_iload_n C dL_issued_13 1 rfl ?_
  refine z_imul C dL_issued_14 ?_
  refine z_ishr C dL_issued_15 ?_
  refine z_iconst C dL_issued_16 zi_5 ?_
  refine z_callSp C zs_L_43 [.int (v2 >>> (((2 : Int32) * x1) &&& 31)), .int (5 : Int32)] (fun l D tc b0 r h => m_L_in l D tc ro b0 h) dL_issued_17 rfl rfl (Nat.le_of_ble_eq_true rfl) (by decide) (by decide) ⟨Nat.le_of_ble_eq_true rfl, Nat.le_of_ble_eq_true rfl⟩ (fun v3 => ?_)
  refine z_iconst C dL_issued_20 zi_2 ?_
  refine z_idiv C dL_issued_21 (fun v4 => ?_)
  refine z_iadd C dL_issued_22 ?_
  refine z_iconst C dL_issued_23 zi_1 ?_
  refine z_isub C dL_issued_24 ?_
  refine z_mmax C zm_L_64 dL_issued_25 (Nat.le_of_ble_eq_true rfl) (by decide) ⟨Nat.le_of_ble_eq_true rfl, Nat.le_of_ble_eq_true rfl⟩ ?_
  exact z_ireturnP C dL_issued_28
noncomputable def f_L_seal (a0 : Nat) (x1 : Int32) (hp : zHp) : Option Int32 :=
  (f_L_cell a0 (9 : Int32) hp).bind fun v1 => (zdiv v1 ((1 : Int32) + x1)).bind fun v2 => (f_L_in v2 (900 : Int32) hp).bind fun v3 => some ((1 : Int32) + v3)
set_option maxHeartbeats 4000000 in
set_option maxRecDepth 100000 in
theorem m_L_seal (l : Launch) (D : va_G) (tc : Nat → ClassId) (ro : Nat → Nat) (b0 : Nat) {a0 : Nat} {x1 : Int32} {hp : zHp} {sz : Nat} {r : Int32} (h : f_L_seal a0 x1 hp = some r) : zM l yL_seal cL_seal 2 (some .int) 2 0 0 [.ref a0, .int x1] D tc ro b0 hp sz ((zoP sz hp) r).1 ((zoP sz hp) r).2.1 ((zoP sz hp) r).2.2 := by
  refine z_start (o := (zoP sz hp)) (lv := [(0, .ref a0), (1, .int x1)]) h (by decide +kernel) RL rfl rfl (Nat.le_of_ble_eq_true rfl) (fun P C => ?_)
  unfold f_L_seal
  refine z_iconst C dL_seal_0 zi_1 ?_
  refine z_aload_n C dL_seal_1 0 rfl ?_
  refine z_bipush C dL_seal_2 zbi_9 ?_
  refine z_callSp C zs_L_37 [.ref a0, .int (9 : Int32)] (fun l D tc b0 r h => m_L_cell l D tc ro b0 h) dL_seal_4 rfl rfl (Nat.le_of_ble_eq_true rfl) (by decide) (by decide) ⟨Nat.le_of_ble_eq_true rfl, Nat.le_of_ble_eq_true rfl⟩ (fun v1 => ?_)
  refine z_iconst C dL_seal_7 zi_1 ?_
  refine z_iload_n C dL_seal_8 1 rfl ?_
  refine z_iadd C dL_seal_9 ?_
  refine z_idiv C dL_seal_10 (fun v2 => ?_)
  refine z_sipush C dL_seal_11 zsi_900 ?_
  refine z_callSp C zs_L_43 [.int v2, .int (900 : Int32)] (fun l D tc b0 r h => m_L_in l D tc ro b0 h) dL_seal_14 rfl rfl (Nat.le_of_ble_eq_true rfl) (by decide) (by decide) ⟨Nat.le_of_ble_eq_true rfl, Nat.le_of_ble_eq_true rfl⟩ (fun v3 => ?_)
  refine z_iadd C dL_seal_17 ?_
  exact z_ireturnP C dL_seal_18
noncomputable def j_L_setting_21 (s0 : Int32) (s1 : Int32) (hp : zHp) : Option Int32 :=
  (f_L_in s0 s1 hp).bind fun v2 => some v2
set_option maxHeartbeats 4000000 in
set_option maxRecDepth 100000 in
theorem wj_L_setting_21 {P : zX} {ro : Nat → Nat} {sz : Nat} (C : zC P cL_setting RL (some .int) 2 0 0 2 ro) {s0 : Int32} {s1 : Int32} {hp : zHp}  : zG P (zoP sz hp) (j_L_setting_21 s0 s1 hp) 21 [] [.int s1, .int s0] hp sz 0 0 := by
  unfold j_L_setting_21
  refine z_callSp C zs_L_43 [.int s0, .int s1] (fun l D tc b0 r h => m_L_in l D tc ro b0 h) dL_setting_21 rfl rfl (Nat.le_of_ble_eq_true rfl) (by decide) (by decide) ⟨Nat.le_of_ble_eq_true rfl, Nat.le_of_ble_eq_true rfl⟩ (fun v2 => ?_)
  exact z_ireturnP C dL_setting_24
noncomputable def f_L_setting (a0 : Nat) (x1 : Int32) (hp : zHp) : Option Int32 :=
  (f_L_cell a0 (10 : Int32) hp).bind fun v1 => if x1 = 0 then (j_L_setting_21 (v1 >>> (((7 : Int32) * x1) &&& 31)) (51 : Int32) hp) else j_L_setting_21 (v1 >>> (((7 : Int32) * x1) &&& 31)) (4 : Int32) hp
set_option maxHeartbeats 4000000 in
set_option maxRecDepth 100000 in
theorem m_L_setting (l : Launch) (D : va_G) (tc : Nat → ClassId) (ro : Nat → Nat) (b0 : Nat) {a0 : Nat} {x1 : Int32} {hp : zHp} {sz : Nat} {r : Int32} (h : f_L_setting a0 x1 hp = some r) : zM l yL_setting cL_setting 2 (some .int) 2 0 0 [.ref a0, .int x1] D tc ro b0 hp sz ((zoP sz hp) r).1 ((zoP sz hp) r).2.1 ((zoP sz hp) r).2.2 := by
  refine z_start (o := (zoP sz hp)) (lv := [(0, .ref a0), (1, .int x1)]) h (by decide +kernel) RL rfl rfl (Nat.le_of_ble_eq_true rfl) (fun P C => ?_)
  unfold f_L_setting
  refine z_aload_n C dL_setting_0 0 rfl ?_
  refine z_bipush C dL_setting_1 zbi_10 ?_
  refine z_callSp C zs_L_37 [.ref a0, .int (10 : Int32)] (fun l D tc b0 r h => m_L_cell l D tc ro b0 h) dL_setting_3 rfl rfl (Nat.le_of_ble_eq_true rfl) (by decide) (by decide) ⟨Nat.le_of_ble_eq_true rfl, Nat.le_of_ble_eq_true rfl⟩ (fun v1 => ?_)
  refine z_bipush C dL_setting_6 zbi_7 ?_
  refine z_iload_n C dL_setting_8 1 rfl ?_
  refine z_imul C dL_setting_9 ?_
  refine z_ishr C dL_setting_10 ?_
  refine z_iload_n C dL_setting_11 1 rfl ?_
  refine z_if_ne C 20 dL_setting_12 (by decide) ?_ ?_
  · refine z_bipush C dL_setting_15 zbi_51 ?_
    refine z_goto C 21 dL_setting_17 (by decide) ?_
    exact z_sub [] rfl (wj_L_setting_21 C)
  refine z_iconst C dL_setting_20 zi_4 ?_
  exact z_sub [] rfl (wj_L_setting_21 C)
noncomputable def f_L_name (ro : Nat → Nat) (mc ms : Nat) (x0 : Int32) (x1 : Int32) (hp : zHp) (sz : Nat) : Option (Nat × zHp × Nat) :=
  zchk (0 + 1 ≤ mc ∧ 0 + 4 ≤ ms) <| zlet (zup hp sz (.inr (9, [.null, .int 0, .int 0, .int 0]))) fun h2 => zchk ((0 + 1) + 1 ≤ mc ∧ (0 + 4) + 16 ≤ ms) <| zb2 (f_J4_init_da8c8 1 16 sz h2 ((sz + 1))) fun h4 z5 => zchk (((0 + 1) + 1) + 0 ≤ mc ∧ ((0 + 4) + 16) + 0 ≤ ms) <| zb3 (f_J4_append_15ec4 0 0 sz (ro 21) h4 z5) fun r9 h7 z8 => zchk ((((0 + 1) + 1) + 0) + 0 ≤ mc ∧ (((0 + 4) + 16) + 0) + 0 ≤ ms) <| zb3 (f_J4_append_cf468 0 0 r9 ((((112 : Int32) + x0).toUInt32 % 65536).toInt32) h7 z8) fun r13 h11 z12 => zchk (((((0 + 1) + 1) + 0) + 0) + 0 ≤ mc ∧ ((((0 + 4) + 16) + 0) + 0) + 0 ≤ ms) <| zb3 (f_J4_append_cf468 0 0 r13 ((((97 : Int32) + x1).toUInt32 % 65536).toInt32) h11 z12) fun r17 h15 z16 => zchk ((((((0 + 1) + 1) + 0) + 0) + 0) + 2 ≤ mc ∧ (((((0 + 4) + 16) + 0) + 0) + 0) + 8 ≤ ms) <| zb3 (f_J4_toString_0e30d 2 8 r17 h15 z16) fun r21 h19 z20 => some (r21, h19, z20)
set_option maxHeartbeats 4000000 in
set_option maxRecDepth 100000 in
theorem m_L_name (l : Launch) (D : va_G) (tc : Nat → ClassId) (ro : Nat → Nat) (b0 : Nat) {mc ms : Nat} {x0 : Int32} {x1 : Int32} {hp : zHp} {sz : Nat} {r : (Nat × zHp × Nat)} (h : f_L_name ro mc ms x0 x1 hp sz = some r) : zM l yL_name cL_name 2 (some (.object "java/lang/String")) 7 mc ms [.int x0, .int x1] D tc ro b0 hp sz (zoRA r).1 (zoRA r).2.1 (zoRA r).2.2 := by
  refine z_start (o := zoRA) (lv := [(0, .int x0), (1, .int x1)]) h (by decide +kernel) RL rfl rfl (Nat.le_of_ble_eq_true rfl) (fun P C => ?_)
  unfold f_L_name
  refine z_chk (fun q1 => ?_)
  refine z_new C za_L_14 dL_name_0 q1 (fun h2 => ?_)
  refine z_dup C dL_name_3 rfl ?_
  refine z_chk (fun q3 => ?_)
  refine z_callI C (Or.inl zci_L_16) [] (fun l D tc b0 r h => m_J4_init_da8c8 l D tc ro b0 h) dL_name_4 rfl rfl (Nat.le_of_ble_eq_true rfl) (by decide) (by decide) q3 (fun h4 z5 => ?_)
  refine z_ldcS C 21 rfl dL_name_7 ?_
  refine z_chk (fun q6 => ?_)
  refine z_cVr C zc_L_17 [.ref (ro 21)] (fun l D tc b0 r h => m_J4_append_15ec4 l D tc ro b0 h) dL_name_9 rfl rfl (Nat.le_of_ble_eq_true rfl) (by decide) (by decide) q6 (fun r9 h7 z8 => ?_)
  refine z_bipush C dL_name_12 zbi_112 ?_
  refine z_iload_n C dL_name_14 0 rfl ?_
  refine z_iadd C dL_name_15 ?_
  refine z_i2c C dL_name_16 ?_
  refine z_chk (fun q10 => ?_)
  refine z_cVr C zc_L_71 [.int ((((112 : Int32) + x0).toUInt32 % 65536).toInt32)] (fun l D tc b0 r h => m_J4_append_cf468 l D tc ro b0 h) dL_name_17 rfl rfl (Nat.le_of_ble_eq_true rfl) (by decide) (by decide) q10 (fun r13 h11 z12 => ?_)
  refine z_bipush C dL_name_20 zbi_97 ?_
  refine z_iload_n C dL_name_22 1 rfl ?_
  refine z_iadd C dL_name_23 ?_
  refine z_i2c C dL_name_24 ?_
  refine z_chk (fun q14 => ?_)
  refine z_cVr C zc_L_71 [.int ((((97 : Int32) + x1).toUInt32 % 65536).toInt32)] (fun l D tc b0 r h => m_J4_append_cf468 l D tc ro b0 h) dL_name_25 rfl rfl (Nat.le_of_ble_eq_true rfl) (by decide) (by decide) q14 (fun r17 h15 z16 => ?_)
  refine z_chk (fun q18 => ?_)
  refine z_cVr C zc_L_23 [] (fun l D tc b0 r h => m_J4_toString_0e30d l D tc ro b0 h) dL_name_28 rfl rfl (Nat.le_of_ble_eq_true rfl) (by decide) (by decide) q18 (fun r21 h19 z20 => ?_)
  exact z_areturnA C (Or.inl ⟨_, rfl⟩) dL_name_31 q18
noncomputable def b_L_text_44 (ro : Nat → Nat) (mc ms : Nat) (k91 : Nat → zHp → Nat → Nat → Nat → Option (Nat × zHp × Nat)) (a0 : Nat) (rec : Nat → Int32 → zHp → Nat → Nat → Nat → Option (Nat × zHp × Nat)) (a1 : Nat) (x2 : Int32) (h : zHp) (sz : Nat) (uc : Nat) (us : Nat) : Option (Nat × zHp × Nat) :=
  zchk (uc ≤ mc ∧ us ≤ ms) <| (f_L_parties a0 h).bind fun v33 => if x2 < v33 then (zchk (uc + 1 ≤ mc ∧ us + 4 ≤ ms) <| zlet (zup h sz (.inr (9, [.null, .int 0, .int 0, .int 0]))) fun h35 => zchk ((uc + 1) + 1 ≤ mc ∧ (us + 4) + 16 ≤ ms) <| zb2 (f_J4_init_da8c8 1 16 sz h35 ((sz + 1))) fun h37 z38 => zchk (((uc + 1) + 1) + 1 ≤ mc ∧ ((us + 4) + 16) + 1300 ≤ ms) <| zb3 (f_J4_append_15ec4 1 1300 sz a1 h37 z38) fun r42 h40 z41 => zchk ((((uc + 1) + 1) + 1) + 1 ≤ mc ∧ (((us + 4) + 16) + 1300) + 1300 ≤ ms) <| zb3 (f_J4_append_15ec4 1 1300 r42 (ro 20) h40 z41) fun r46 h44 z45 => zchk (((((uc + 1) + 1) + 1) + 1) + 4 ≤ mc ∧ ((((us + 4) + 16) + 1300) + 1300) + 64 ≤ ms) <| zb3 (f_L_name ro 4 64 (0 : Int32) x2 h44 z45) fun r50 h48 z49 => zchk ((((((uc + 1) + 1) + 1) + 1) + 4) + 1 ≤ mc ∧ (((((us + 4) + 16) + 1300) + 1300) + 64) + 1300 ≤ ms) <| zb3 (f_J4_append_15ec4 1 1300 r46 r50 h48 z49) fun r54 h52 z53 => zchk (((((((uc + 1) + 1) + 1) + 1) + 4) + 1) + 1 ≤ mc ∧ ((((((us + 4) + 16) + 1300) + 1300) + 64) + 1300) + 1300 ≤ ms) <| zb3 (f_J4_append_15ec4 1 1300 r54 (ro 19) h52 z53) fun r58 h56 z57 => zchk ((((((((uc + 1) + 1) + 1) + 1) + 4) + 1) + 1) + 2 ≤ mc ∧ (((((((us + 4) + 16) + 1300) + 1300) + 64) + 1300) + 1300) + 704 ≤ ms) <| zb3 (f_J4_toString_0e30d 2 704 r58 h56 z57) fun r62 h60 z61 => zlet (x2 + (1 : Int32)) fun v63 => rec r62 v63 h60 z61 (((((((((uc + 1) + 1) + 1) + 1) + 4) + 1) + 1) + 2)) (((((((((us + 4) + 16) + 1300) + 1300) + 64) + 1300) + 1300) + 704))) else k91 a1 h sz uc us
noncomputable def l_L_text_44 (ro : Nat → Nat) (mc ms : Nat) (k91 : Nat → zHp → Nat → Nat → Nat → Option (Nat × zHp × Nat)) (a0 : Nat) (n : Nat) : Nat → Int32 → zHp → Nat → Nat → Nat → Option (Nat × zHp × Nat) :=
  Nat.rec (motive := fun _ => Nat → Int32 → zHp → Nat → Nat → Nat → Option (Nat × zHp × Nat)) (fun _ _ _ _ _ _ => none) (fun _ rec => b_L_text_44 ro mc ms k91 a0 rec) n
theorem l_L_text_44_s {ro : Nat → Nat} {mc ms : Nat} (k91 : Nat → zHp → Nat → Nat → Nat → Option (Nat × zHp × Nat)) (a0 : Nat) (n : Nat) (a1 : Nat) (x2 : Int32) (h : zHp) (sz : Nat) (uc : Nat) (us : Nat) : l_L_text_44 ro mc ms k91 a0 (n + 1) a1 x2 h sz uc us = b_L_text_44 ro mc ms k91 a0 (l_L_text_44 ro mc ms k91 a0 n) a1 x2 h sz uc us := rfl
set_option maxHeartbeats 4000000 in
set_option maxRecDepth 100000 in
theorem wl_L_text_44 {P : zX} {ro : Nat → Nat} {mc ms : Nat} (C : zC P cL_text RL (some (.object "java/lang/String")) 8 mc ms 4 ro) {a0 : Nat} {k91 : Nat → zHp → Nat → Nat → Nat → Option (Nat × zHp × Nat)} (hk91 : ∀ (a1 : Nat) (h : zHp) (sz : Nat) (uc : Nat) (us : Nat), zG P zoRA (k91 a1 h sz uc us) 91 [(0, .ref a0), (1, .ref a1)] [] h sz uc us) : ∀ (n : Nat) (a1 : Nat) (x2 : Int32) (h : zHp) (sz : Nat) (uc : Nat) (us : Nat), zG P zoRA (l_L_text_44 ro mc ms k91 a0 n a1 x2 h sz uc us) 44 [(0, .ref a0), (1, .ref a1), (2, .int x2)] [] h sz uc us := by
  intro n
  induction n with
  | zero =>
    intro a1 x2 h sz uc us
    show zG P zoRA none _ _ _ _ _ _ _
    exact z_none
  | succ n ih =>
    intro a1 x2 h sz uc us
    show zG P zoRA (b_L_text_44 ro mc ms k91 a0 (l_L_text_44 ro mc ms k91 a0 n) a1 x2 h sz uc us) _ _ _ _ _ _ _
    unfold b_L_text_44
    refine z_iload_n C dL_text_44 2 rfl ?_
    refine z_aload_n C dL_text_45 0 rfl ?_
    refine z_chk (fun q32 => ?_)
    refine z_callSp C zs_L_54 [.ref a0] (fun l D tc b0 r h => m_L_parties l D tc ro b0 h) dL_text_46 rfl rfl (Nat.le_of_ble_eq_true rfl) (by decide) (by decide) q32 (fun v33 => ?_)
    refine z_icmp_ge C 91 dL_text_49 (by decide) ?_ ?_
    · refine z_chk (fun q34 => ?_)
      refine z_new C za_L_14 dL_text_52 q34 (fun h35 => ?_)
      refine z_dup C dL_text_55 rfl ?_
      refine z_chk (fun q36 => ?_)
      refine z_callI C (Or.inl zci_L_16) [] (fun l D tc b0 r h => m_J4_init_da8c8 l D tc ro b0 h) dL_text_56 rfl rfl (Nat.le_of_ble_eq_true rfl) (by decide) (by decide) q36 (fun h37 z38 => ?_)
      refine z_aload_n C dL_text_59 1 rfl ?_
      refine z_chk (fun q39 => ?_)
      refine z_cVr C zc_L_17 [.ref a1] (fun l D tc b0 r h => m_J4_append_15ec4 l D tc ro b0 h) dL_text_60 rfl rfl (Nat.le_of_ble_eq_true rfl) (by decide) (by decide) q39 (fun r42 h40 z41 => ?_)
      refine z_ldcS C 20 rfl dL_text_63 ?_
      refine z_chk (fun q43 => ?_)
      refine z_cVr C zc_L_17 [.ref (ro 20)] (fun l D tc b0 r h => m_J4_append_15ec4 l D tc ro b0 h) dL_text_65 rfl rfl (Nat.le_of_ble_eq_true rfl) (by decide) (by decide) q43 (fun r46 h44 z45 => ?_)
      refine z_iconst C dL_text_68 zi_0 ?_
      refine z_iload_n C dL_text_69 2 rfl ?_
      refine z_chk (fun q47 => ?_)
      refine z_cSr C zs_L_88 [.int (0 : Int32), .int x2] (fun l D tc b0 r h => m_L_name l D tc ro b0 h) dL_text_70 rfl rfl (Nat.le_of_ble_eq_true rfl) (by decide) (by decide) q47 (fun r50 h48 z49 => ?_)
      refine z_chk (fun q51 => ?_)
      refine z_cVr C zc_L_17 [.ref r50] (fun l D tc b0 r h => m_J4_append_15ec4 l D tc ro b0 h) dL_text_73 rfl rfl (Nat.le_of_ble_eq_true rfl) (by decide) (by decide) q51 (fun r54 h52 z53 => ?_)
      refine z_ldcS C 19 rfl dL_text_76 ?_
      refine z_chk (fun q55 => ?_)
      refine z_cVr C zc_L_17 [.ref (ro 19)] (fun l D tc b0 r h => m_J4_append_15ec4 l D tc ro b0 h) dL_text_78 rfl rfl (Nat.le_of_ble_eq_true rfl) (by decide) (by decide) q55 (fun r58 h56 z57 => ?_)
      refine z_chk (fun q59 => ?_)
      refine z_cVr C zc_L_23 [] (fun l D tc b0 r h => m_J4_toString_0e30d l D tc ro b0 h) dL_text_81 rfl rfl (Nat.le_of_ble_eq_true rfl) (by decide) (by decide) q59 (fun r62 h60 z61 => ?_)
      refine z_astore_n (lv' := [(0, .ref a0), (1, .ref r62), (2, .int x2)]) C dL_text_84 (by decide) rfl ?_
      refine z_iincL C 2 (fun v63 => [(0, .ref a0), (1, .ref r62), (2, .int v63)]) dL_text_85 rfl zi_1 (by decide) (fun _ => rfl) (fun v63 => ?_)
      refine z_goto C 44 dL_text_88 (by decide) ?_
      exact ih _ _ _ _ _ _
    exact z_sub [0, 1] rfl (hk91 _ _ _ _ _)
noncomputable def j_L_text_165 (ro : Nat → Nat) (mc ms : Nat) (k183 : Nat → zHp → Nat → Nat → Nat → Option (Nat × zHp × Nat)) (rec : Nat → Int32 → zHp → Nat → Nat → Nat → Option (Nat × zHp × Nat)) (a0 : Nat) (x2 : Int32) (s0 : Nat) (s1 : Nat) (h : zHp) (sz : Nat) (uc : Nat) (us : Nat) : Option (Nat × zHp × Nat) :=
  zchk (uc + 1 ≤ mc ∧ us + 1300 ≤ ms) <| zb3 (f_J4_append_15ec4 1 1300 s0 s1 h sz) fun r118 h116 z117 => zchk ((uc + 1) + 1 ≤ mc ∧ (us + 1300) + 1300 ≤ ms) <| zb3 (f_J4_append_15ec4 1 1300 r118 (ro 19) h116 z117) fun r122 h120 z121 => zchk (((uc + 1) + 1) + 2 ≤ mc ∧ ((us + 1300) + 1300) + 704 ≤ ms) <| zb3 (f_J4_toString_0e30d 2 704 r122 h120 z121) fun r126 h124 z125 => zlet (x2 + (1 : Int32)) fun v127 => rec r126 v127 h124 z125 ((((uc + 1) + 1) + 2)) ((((us + 1300) + 1300) + 704))
set_option maxHeartbeats 4000000 in
set_option maxRecDepth 100000 in
theorem wj_L_text_165 {P : zX} {ro : Nat → Nat} {mc ms : Nat} (C : zC P cL_text RL (some (.object "java/lang/String")) 8 mc ms 4 ro) {a0 : Nat} {x2 : Int32} {s0 : Nat} {s1 : Nat} {h : zHp} {sz : Nat} {uc : Nat} {us : Nat} {k183 : Nat → zHp → Nat → Nat → Nat → Option (Nat × zHp × Nat)} (hk183 : ∀ (a1 : Nat) (h : zHp) (sz : Nat) (uc : Nat) (us : Nat), zG P zoRA (k183 a1 h sz uc us) 183 [(0, .ref a0), (1, .ref a1)] [] h sz uc us) {rec : Nat → Int32 → zHp → Nat → Nat → Nat → Option (Nat × zHp × Nat)} (hrec : ∀ (a1 : Nat) (x2 : Int32) (h : zHp) (sz : Nat) (uc : Nat) (us : Nat), zG P zoRA (rec a1 x2 h sz uc us) 93 [(0, .ref a0), (1, .ref a1), (2, .int x2)] [] h sz uc us) : zG P zoRA (j_L_text_165 ro mc ms k183 rec a0 x2 s0 s1 h sz uc us) 165 [(0, .ref a0), (2, .int x2)] [.ref s1, .ref s0] h sz uc us := by
  unfold j_L_text_165
  refine z_chk (fun q115 => ?_)
  refine z_cVr C zc_L_17 [.ref s1] (fun l D tc b0 r h => m_J4_append_15ec4 l D tc ro b0 h) dL_text_165 rfl rfl (Nat.le_of_ble_eq_true rfl) (by decide) (by decide) q115 (fun r118 h116 z117 => ?_)
  refine z_ldcS C 19 rfl dL_text_168 ?_
  refine z_chk (fun q119 => ?_)
  refine z_cVr C zc_L_17 [.ref (ro 19)] (fun l D tc b0 r h => m_J4_append_15ec4 l D tc ro b0 h) dL_text_170 rfl rfl (Nat.le_of_ble_eq_true rfl) (by decide) (by decide) q119 (fun r122 h120 z121 => ?_)
  refine z_chk (fun q123 => ?_)
  refine z_cVr C zc_L_23 [] (fun l D tc b0 r h => m_J4_toString_0e30d l D tc ro b0 h) dL_text_173 rfl rfl (Nat.le_of_ble_eq_true rfl) (by decide) (by decide) q123 (fun r126 h124 z125 => ?_)
  refine z_astore_n (lv' := [(0, .ref a0), (1, .ref r126), (2, .int x2)]) C dL_text_176 (by decide) rfl ?_
  refine z_iincL C 2 (fun v127 => [(0, .ref a0), (1, .ref r126), (2, .int v127)]) dL_text_177 rfl zi_1 (by decide) (fun _ => rfl) (fun v127 => ?_)
  refine z_goto C 93 dL_text_180 (by decide) ?_
  exact hrec _ _ _ _ _ _
noncomputable def b_L_text_93 (ro : Nat → Nat) (mc ms : Nat) (k183 : Nat → zHp → Nat → Nat → Nat → Option (Nat × zHp × Nat)) (a0 : Nat) (rec : Nat → Int32 → zHp → Nat → Nat → Nat → Option (Nat × zHp × Nat)) (a1 : Nat) (x2 : Int32) (h : zHp) (sz : Nat) (uc : Nat) (us : Nat) : Option (Nat × zHp × Nat) :=
  zchk (uc ≤ mc ∧ us ≤ ms) <| (f_L_regions a0 h).bind fun v70 => if x2 < v70 then (zchk (uc + 1 ≤ mc ∧ us + 4 ≤ ms) <| zlet (zup h sz (.inr (9, [.null, .int 0, .int 0, .int 0]))) fun h72 => zchk ((uc + 1) + 1 ≤ mc ∧ (us + 4) + 16 ≤ ms) <| zb2 (f_J4_init_da8c8 1 16 sz h72 ((sz + 1))) fun h74 z75 => zchk (((uc + 1) + 1) + 1 ≤ mc ∧ ((us + 4) + 16) + 1300 ≤ ms) <| zb3 (f_J4_append_15ec4 1 1300 sz a1 h74 z75) fun r79 h77 z78 => zchk ((((uc + 1) + 1) + 1) + 1 ≤ mc ∧ (((us + 4) + 16) + 1300) + 1300 ≤ ms) <| zb3 (f_J4_append_15ec4 1 1300 r79 (ro 22) h77 z78) fun r83 h81 z82 => zchk (((((uc + 1) + 1) + 1) + 1) + 4 ≤ mc ∧ ((((us + 4) + 16) + 1300) + 1300) + 64 ≤ ms) <| zb3 (f_L_name ro 4 64 (1 : Int32) x2 h81 z82) fun r87 h85 z86 => zchk ((((((uc + 1) + 1) + 1) + 1) + 4) + 1 ≤ mc ∧ (((((us + 4) + 16) + 1300) + 1300) + 64) + 1300 ≤ ms) <| zb3 (f_J4_append_15ec4 1 1300 r83 r87 h85 z86) fun r91 h89 z90 => (f_L_around a0 x2 h89).bind fun v92 => if v92 < 0 then (j_L_text_165 ro mc ms k183 rec a0 x2 r91 (ro 21) h89 z90 (((((((uc + 1) + 1) + 1) + 1) + 4) + 1)) (((((((us + 4) + 16) + 1300) + 1300) + 64) + 1300))) else zchk (((((((uc + 1) + 1) + 1) + 1) + 4) + 1) + 1 ≤ mc ∧ ((((((us + 4) + 16) + 1300) + 1300) + 64) + 1300) + 4 ≤ ms) <| zlet (zup h89 z90 (.inr (9, [.null, .int 0, .int 0, .int 0]))) fun h94 => zchk ((((((((uc + 1) + 1) + 1) + 1) + 4) + 1) + 1) + 1 ≤ mc ∧ (((((((us + 4) + 16) + 1300) + 1300) + 64) + 1300) + 4) + 16 ≤ ms) <| zb2 (f_J4_init_da8c8 1 16 z90 h94 ((z90 + 1))) fun h96 z97 => zchk (((((((((uc + 1) + 1) + 1) + 1) + 4) + 1) + 1) + 1) + 1 ≤ mc ∧ ((((((((us + 4) + 16) + 1300) + 1300) + 64) + 1300) + 4) + 16) + 1300 ≤ ms) <| zb3 (f_J4_append_15ec4 1 1300 z90 (ro 23) h96 z97) fun r101 h99 z100 => (f_L_around a0 x2 h99).bind fun v102 => zchk ((((((((((uc + 1) + 1) + 1) + 1) + 4) + 1) + 1) + 1) + 1) + 4 ≤ mc ∧ (((((((((us + 4) + 16) + 1300) + 1300) + 64) + 1300) + 4) + 16) + 1300) + 64 ≤ ms) <| zb3 (f_L_name ro 4 64 (1 : Int32) v102 h99 z100) fun r106 h104 z105 => zchk (((((((((((uc + 1) + 1) + 1) + 1) + 4) + 1) + 1) + 1) + 1) + 4) + 1 ≤ mc ∧ ((((((((((us + 4) + 16) + 1300) + 1300) + 64) + 1300) + 4) + 16) + 1300) + 64) + 1300 ≤ ms) <| zb3 (f_J4_append_15ec4 1 1300 r101 r106 h104 z105) fun r110 h108 z109 => zchk ((((((((((((uc + 1) + 1) + 1) + 1) + 4) + 1) + 1) + 1) + 1) + 4) + 1) + 2 ≤ mc ∧ (((((((((((us + 4) + 16) + 1300) + 1300) + 64) + 1300) + 4) + 16) + 1300) + 64) + 1300) + 704 ≤ ms) <| zb3 (f_J4_toString_0e30d 2 704 r110 h108 z109) fun r114 h112 z113 => j_L_text_165 ro mc ms k183 rec a0 x2 r91 r114 h112 z113 (((((((((((((uc + 1) + 1) + 1) + 1) + 4) + 1) + 1) + 1) + 1) + 4) + 1) + 2)) (((((((((((((us + 4) + 16) + 1300) + 1300) + 64) + 1300) + 4) + 16) + 1300) + 64) + 1300) + 704))) else k183 a1 h sz uc us
noncomputable def l_L_text_93 (ro : Nat → Nat) (mc ms : Nat) (k183 : Nat → zHp → Nat → Nat → Nat → Option (Nat × zHp × Nat)) (a0 : Nat) (n : Nat) : Nat → Int32 → zHp → Nat → Nat → Nat → Option (Nat × zHp × Nat) :=
  Nat.rec (motive := fun _ => Nat → Int32 → zHp → Nat → Nat → Nat → Option (Nat × zHp × Nat)) (fun _ _ _ _ _ _ => none) (fun _ rec => b_L_text_93 ro mc ms k183 a0 rec) n
theorem l_L_text_93_s {ro : Nat → Nat} {mc ms : Nat} (k183 : Nat → zHp → Nat → Nat → Nat → Option (Nat × zHp × Nat)) (a0 : Nat) (n : Nat) (a1 : Nat) (x2 : Int32) (h : zHp) (sz : Nat) (uc : Nat) (us : Nat) : l_L_text_93 ro mc ms k183 a0 (n + 1) a1 x2 h sz uc us = b_L_text_93 ro mc ms k183 a0 (l_L_text_93 ro mc ms k183 a0 n) a1 x2 h sz uc us := rfl
set_option maxHeartbeats 4000000 in
set_option maxRecDepth 100000 in
theorem wl_L_text_93 {P : zX} {ro : Nat → Nat} {mc ms : Nat} (C : zC P cL_text RL (some (.object "java/lang/String")) 8 mc ms 4 ro) {a0 : Nat} {k183 : Nat → zHp → Nat → Nat → Nat → Option (Nat × zHp × Nat)} (hk183 : ∀ (a1 : Nat) (h : zHp) (sz : Nat) (uc : Nat) (us : Nat), zG P zoRA (k183 a1 h sz uc us) 183 [(0, .ref a0), (1, .ref a1)] [] h sz uc us) : ∀ (n : Nat) (a1 : Nat) (x2 : Int32) (h : zHp) (sz : Nat) (uc : Nat) (us : Nat), zG P zoRA (l_L_text_93 ro mc ms k183 a0 n a1 x2 h sz uc us) 93 [(0, .ref a0), (1, .ref a1), (2, .int x2)] [] h sz uc us := by
  intro n
  induction n with
  | zero =>
    intro a1 x2 h sz uc us
    show zG P zoRA none _ _ _ _ _ _ _
    exact z_none
  | succ n ih =>
    intro a1 x2 h sz uc us
    show zG P zoRA (b_L_text_93 ro mc ms k183 a0 (l_L_text_93 ro mc ms k183 a0 n) a1 x2 h sz uc us) _ _ _ _ _ _ _
    unfold b_L_text_93
    refine z_iload_n C dL_text_93 2 rfl ?_
    refine z_aload_n C dL_text_94 0 rfl ?_
    refine z_chk (fun q69 => ?_)
    refine z_callSp C zs_L_47 [.ref a0] (fun l D tc b0 r h => m_L_regions l D tc ro b0 h) dL_text_95 rfl rfl (Nat.le_of_ble_eq_true rfl) (by decide) (by decide) q69 (fun v70 => ?_)
    refine z_icmp_ge C 183 dL_text_98 (by decide) ?_ ?_
    · refine z_chk (fun q71 => ?_)
      refine z_new C za_L_14 dL_text_101 q71 (fun h72 => ?_)
      refine z_dup C dL_text_104 rfl ?_
      refine z_chk (fun q73 => ?_)
      refine z_callI C (Or.inl zci_L_16) [] (fun l D tc b0 r h => m_J4_init_da8c8 l D tc ro b0 h) dL_text_105 rfl rfl (Nat.le_of_ble_eq_true rfl) (by decide) (by decide) q73 (fun h74 z75 => ?_)
      refine z_aload_n C dL_text_108 1 rfl ?_
      refine z_chk (fun q76 => ?_)
      refine z_cVr C zc_L_17 [.ref a1] (fun l D tc b0 r h => m_J4_append_15ec4 l D tc ro b0 h) dL_text_109 rfl rfl (Nat.le_of_ble_eq_true rfl) (by decide) (by decide) q76 (fun r79 h77 z78 => ?_)
      refine z_ldcS C 22 rfl dL_text_112 ?_
      refine z_chk (fun q80 => ?_)
      refine z_cVr C zc_L_17 [.ref (ro 22)] (fun l D tc b0 r h => m_J4_append_15ec4 l D tc ro b0 h) dL_text_114 rfl rfl (Nat.le_of_ble_eq_true rfl) (by decide) (by decide) q80 (fun r83 h81 z82 => ?_)
      refine z_iconst C dL_text_117 zi_1 ?_
      refine z_iload_n C dL_text_118 2 rfl ?_
      refine z_chk (fun q84 => ?_)
      refine z_cSr C zs_L_88 [.int (1 : Int32), .int x2] (fun l D tc b0 r h => m_L_name l D tc ro b0 h) dL_text_119 rfl rfl (Nat.le_of_ble_eq_true rfl) (by decide) (by decide) q84 (fun r87 h85 z86 => ?_)
      refine z_chk (fun q88 => ?_)
      refine z_cVr C zc_L_17 [.ref r87] (fun l D tc b0 r h => m_J4_append_15ec4 l D tc ro b0 h) dL_text_122 rfl rfl (Nat.le_of_ble_eq_true rfl) (by decide) (by decide) q88 (fun r91 h89 z90 => ?_)
      refine z_aload_n C dL_text_125 0 rfl ?_
      refine z_iload_n C dL_text_126 2 rfl ?_
      refine z_callSp C zs_L_94 [.ref a0, .int x2] (fun l D tc b0 r h => m_L_around l D tc ro b0 h) dL_text_127 rfl rfl (Nat.le_of_ble_eq_true rfl) (by decide) (by decide) q88 (fun v92 => ?_)
      refine z_if_ge C 138 dL_text_130 (by decide) ?_ ?_
      · refine z_ldcS C 21 rfl dL_text_133 ?_
        refine z_goto C 165 dL_text_135 (by decide) ?_
        exact z_sub [0, 2] rfl (wj_L_text_165 C hk183 ih)
      refine z_chk (fun q93 => ?_)
      refine z_new C za_L_14 dL_text_138 q93 (fun h94 => ?_)
      refine z_dup C dL_text_141 rfl ?_
      refine z_chk (fun q95 => ?_)
      refine z_callI C (Or.inl zci_L_16) [] (fun l D tc b0 r h => m_J4_init_da8c8 l D tc ro b0 h) dL_text_142 rfl rfl (Nat.le_of_ble_eq_true rfl) (by decide) (by decide) q95 (fun h96 z97 => ?_)
      refine z_ldcS C 23 rfl dL_text_145 ?_
      refine z_chk (fun q98 => ?_)
      refine z_cVr C zc_L_17 [.ref (ro 23)] (fun l D tc b0 r h => m_J4_append_15ec4 l D tc ro b0 h) dL_text_147 rfl rfl (Nat.le_of_ble_eq_true rfl) (by decide) (by decide) q98 (fun r101 h99 z100 => ?_)
      refine z_iconst C dL_text_150 zi_1 ?_
      refine z_aload_n C dL_text_151 0 rfl ?_
      refine z_iload_n C dL_text_152 2 rfl ?_
      refine z_callSp C zs_L_94 [.ref a0, .int x2] (fun l D tc b0 r h => m_L_around l D tc ro b0 h) dL_text_153 rfl rfl (Nat.le_of_ble_eq_true rfl) (by decide) (by decide) q98 (fun v102 => ?_)
      refine z_chk (fun q103 => ?_)
      refine z_cSr C zs_L_88 [.int (1 : Int32), .int v102] (fun l D tc b0 r h => m_L_name l D tc ro b0 h) dL_text_156 rfl rfl (Nat.le_of_ble_eq_true rfl) (by decide) (by decide) q103 (fun r106 h104 z105 => ?_)
      refine z_chk (fun q107 => ?_)
      refine z_cVr C zc_L_17 [.ref r106] (fun l D tc b0 r h => m_J4_append_15ec4 l D tc ro b0 h) dL_text_159 rfl rfl (Nat.le_of_ble_eq_true rfl) (by decide) (by decide) q107 (fun r110 h108 z109 => ?_)
      refine z_chk (fun q111 => ?_)
      refine z_cVr C zc_L_23 [] (fun l D tc b0 r h => m_J4_toString_0e30d l D tc ro b0 h) dL_text_162 rfl rfl (Nat.le_of_ble_eq_true rfl) (by decide) (by decide) q111 (fun r114 h112 z113 => ?_)
      exact z_sub [0, 2] rfl (wj_L_text_165 C hk183 ih)
    exact z_sub [0, 1] rfl (hk183 _ _ _ _ _)
noncomputable def b_L_text_185 (ro : Nat → Nat) (mc ms : Nat) (k249 : Nat → zHp → Nat → Nat → Nat → Option (Nat × zHp × Nat)) (a0 : Nat) (rec : Nat → Int32 → zHp → Nat → Nat → Nat → Option (Nat × zHp × Nat)) (a1 : Nat) (x2 : Int32) (h : zHp) (sz : Nat) (uc : Nat) (us : Nat) : Option (Nat × zHp × Nat) :=
  zchk (uc ≤ mc ∧ us ≤ ms) <| (f_L_wards a0 h).bind fun v134 => if x2 < v134 then (zchk (uc + 1 ≤ mc ∧ us + 4 ≤ ms) <| zlet (zup h sz (.inr (9, [.null, .int 0, .int 0, .int 0]))) fun h136 => zchk ((uc + 1) + 1 ≤ mc ∧ (us + 4) + 16 ≤ ms) <| zb2 (f_J4_init_da8c8 1 16 sz h136 ((sz + 1))) fun h138 z139 => zchk (((uc + 1) + 1) + 1 ≤ mc ∧ ((us + 4) + 16) + 1300 ≤ ms) <| zb3 (f_J4_append_15ec4 1 1300 sz a1 h138 z139) fun r143 h141 z142 => zchk ((((uc + 1) + 1) + 1) + 1 ≤ mc ∧ (((us + 4) + 16) + 1300) + 1300 ≤ ms) <| zb3 (f_J4_append_15ec4 1 1300 r143 (ro 24) h141 z142) fun r147 h145 z146 => zchk (((((uc + 1) + 1) + 1) + 1) + 4 ≤ mc ∧ ((((us + 4) + 16) + 1300) + 1300) + 64 ≤ ms) <| zb3 (f_L_name ro 4 64 (2 : Int32) x2 h145 z146) fun r151 h149 z150 => zchk ((((((uc + 1) + 1) + 1) + 1) + 4) + 1 ≤ mc ∧ (((((us + 4) + 16) + 1300) + 1300) + 64) + 1300 ≤ ms) <| zb3 (f_J4_append_15ec4 1 1300 r147 r151 h149 z150) fun r155 h153 z154 => zchk (((((((uc + 1) + 1) + 1) + 1) + 4) + 1) + 1 ≤ mc ∧ ((((((us + 4) + 16) + 1300) + 1300) + 64) + 1300) + 1300 ≤ ms) <| zb3 (f_J4_append_15ec4 1 1300 r155 (ro 25) h153 z154) fun r159 h157 z158 => (f_L_regionOf a0 x2 h157).bind fun v160 => zchk ((((((((uc + 1) + 1) + 1) + 1) + 4) + 1) + 1) + 4 ≤ mc ∧ (((((((us + 4) + 16) + 1300) + 1300) + 64) + 1300) + 1300) + 64 ≤ ms) <| zb3 (f_L_name ro 4 64 (1 : Int32) v160 h157 z158) fun r164 h162 z163 => zchk (((((((((uc + 1) + 1) + 1) + 1) + 4) + 1) + 1) + 4) + 1 ≤ mc ∧ ((((((((us + 4) + 16) + 1300) + 1300) + 64) + 1300) + 1300) + 64) + 1300 ≤ ms) <| zb3 (f_J4_append_15ec4 1 1300 r159 r164 h162 z163) fun r168 h166 z167 => zchk ((((((((((uc + 1) + 1) + 1) + 1) + 4) + 1) + 1) + 4) + 1) + 1 ≤ mc ∧ (((((((((us + 4) + 16) + 1300) + 1300) + 64) + 1300) + 1300) + 64) + 1300) + 1300 ≤ ms) <| zb3 (f_J4_append_15ec4 1 1300 r168 (ro 19) h166 z167) fun r172 h170 z171 => zchk (((((((((((uc + 1) + 1) + 1) + 1) + 4) + 1) + 1) + 4) + 1) + 1) + 2 ≤ mc ∧ ((((((((((us + 4) + 16) + 1300) + 1300) + 64) + 1300) + 1300) + 64) + 1300) + 1300) + 704 ≤ ms) <| zb3 (f_J4_toString_0e30d 2 704 r172 h170 z171) fun r176 h174 z175 => zlet (x2 + (1 : Int32)) fun v177 => rec r176 v177 h174 z175 ((((((((((((uc + 1) + 1) + 1) + 1) + 4) + 1) + 1) + 4) + 1) + 1) + 2)) ((((((((((((us + 4) + 16) + 1300) + 1300) + 64) + 1300) + 1300) + 64) + 1300) + 1300) + 704))) else k249 a1 h sz uc us
noncomputable def l_L_text_185 (ro : Nat → Nat) (mc ms : Nat) (k249 : Nat → zHp → Nat → Nat → Nat → Option (Nat × zHp × Nat)) (a0 : Nat) (n : Nat) : Nat → Int32 → zHp → Nat → Nat → Nat → Option (Nat × zHp × Nat) :=
  Nat.rec (motive := fun _ => Nat → Int32 → zHp → Nat → Nat → Nat → Option (Nat × zHp × Nat)) (fun _ _ _ _ _ _ => none) (fun _ rec => b_L_text_185 ro mc ms k249 a0 rec) n
theorem l_L_text_185_s {ro : Nat → Nat} {mc ms : Nat} (k249 : Nat → zHp → Nat → Nat → Nat → Option (Nat × zHp × Nat)) (a0 : Nat) (n : Nat) (a1 : Nat) (x2 : Int32) (h : zHp) (sz : Nat) (uc : Nat) (us : Nat) : l_L_text_185 ro mc ms k249 a0 (n + 1) a1 x2 h sz uc us = b_L_text_185 ro mc ms k249 a0 (l_L_text_185 ro mc ms k249 a0 n) a1 x2 h sz uc us := rfl
set_option maxHeartbeats 4000000 in
set_option maxRecDepth 100000 in
theorem wl_L_text_185 {P : zX} {ro : Nat → Nat} {mc ms : Nat} (C : zC P cL_text RL (some (.object "java/lang/String")) 8 mc ms 4 ro) {a0 : Nat} {k249 : Nat → zHp → Nat → Nat → Nat → Option (Nat × zHp × Nat)} (hk249 : ∀ (a1 : Nat) (h : zHp) (sz : Nat) (uc : Nat) (us : Nat), zG P zoRA (k249 a1 h sz uc us) 249 [(0, .ref a0), (1, .ref a1)] [] h sz uc us) : ∀ (n : Nat) (a1 : Nat) (x2 : Int32) (h : zHp) (sz : Nat) (uc : Nat) (us : Nat), zG P zoRA (l_L_text_185 ro mc ms k249 a0 n a1 x2 h sz uc us) 185 [(0, .ref a0), (1, .ref a1), (2, .int x2)] [] h sz uc us := by
  intro n
  induction n with
  | zero =>
    intro a1 x2 h sz uc us
    show zG P zoRA none _ _ _ _ _ _ _
    exact z_none
  | succ n ih =>
    intro a1 x2 h sz uc us
    show zG P zoRA (b_L_text_185 ro mc ms k249 a0 (l_L_text_185 ro mc ms k249 a0 n) a1 x2 h sz uc us) _ _ _ _ _ _ _
    unfold b_L_text_185
    refine z_iload_n C dL_text_185 2 rfl ?_
    refine z_aload_n C dL_text_186 0 rfl ?_
    refine z_chk (fun q133 => ?_)
    refine z_callSp C zs_L_51 [.ref a0] (fun l D tc b0 r h => m_L_wards l D tc ro b0 h) dL_text_187 rfl rfl (Nat.le_of_ble_eq_true rfl) (by decide) (by decide) q133 (fun v134 => ?_)
    refine z_icmp_ge C 249 dL_text_190 (by decide) ?_ ?_
    · refine z_chk (fun q135 => ?_)
      refine z_new C za_L_14 dL_text_193 q135 (fun h136 => ?_)
      refine z_dup C dL_text_196 rfl ?_
      refine z_chk (fun q137 => ?_)
      refine z_callI C (Or.inl zci_L_16) [] (fun l D tc b0 r h => m_J4_init_da8c8 l D tc ro b0 h) dL_text_197 rfl rfl (Nat.le_of_ble_eq_true rfl) (by decide) (by decide) q137 (fun h138 z139 => ?_)
      refine z_aload_n C dL_text_200 1 rfl ?_
      refine z_chk (fun q140 => ?_)
      refine z_cVr C zc_L_17 [.ref a1] (fun l D tc b0 r h => m_J4_append_15ec4 l D tc ro b0 h) dL_text_201 rfl rfl (Nat.le_of_ble_eq_true rfl) (by decide) (by decide) q140 (fun r143 h141 z142 => ?_)
      refine z_ldcS C 24 rfl dL_text_204 ?_
      refine z_chk (fun q144 => ?_)
      refine z_cVr C zc_L_17 [.ref (ro 24)] (fun l D tc b0 r h => m_J4_append_15ec4 l D tc ro b0 h) dL_text_206 rfl rfl (Nat.le_of_ble_eq_true rfl) (by decide) (by decide) q144 (fun r147 h145 z146 => ?_)
      refine z_iconst C dL_text_209 zi_2 ?_
      refine z_iload_n C dL_text_210 2 rfl ?_
      refine z_chk (fun q148 => ?_)
      refine z_cSr C zs_L_88 [.int (2 : Int32), .int x2] (fun l D tc b0 r h => m_L_name l D tc ro b0 h) dL_text_211 rfl rfl (Nat.le_of_ble_eq_true rfl) (by decide) (by decide) q148 (fun r151 h149 z150 => ?_)
      refine z_chk (fun q152 => ?_)
      refine z_cVr C zc_L_17 [.ref r151] (fun l D tc b0 r h => m_J4_append_15ec4 l D tc ro b0 h) dL_text_214 rfl rfl (Nat.le_of_ble_eq_true rfl) (by decide) (by decide) q152 (fun r155 h153 z154 => ?_)
      refine z_ldcS C 25 rfl dL_text_217 ?_
      refine z_chk (fun q156 => ?_)
      refine z_cVr C zc_L_17 [.ref (ro 25)] (fun l D tc b0 r h => m_J4_append_15ec4 l D tc ro b0 h) dL_text_219 rfl rfl (Nat.le_of_ble_eq_true rfl) (by decide) (by decide) q156 (fun r159 h157 z158 => ?_)
      refine z_iconst C dL_text_222 zi_1 ?_
      refine z_aload_n C dL_text_223 0 rfl ?_
      refine z_iload_n C dL_text_224 2 rfl ?_
      refine z_callSp C zs_L_101 [.ref a0, .int x2] (fun l D tc b0 r h => m_L_regionOf l D tc ro b0 h) dL_text_225 rfl rfl (Nat.le_of_ble_eq_true rfl) (by decide) (by decide) q156 (fun v160 => ?_)
      refine z_chk (fun q161 => ?_)
      refine z_cSr C zs_L_88 [.int (1 : Int32), .int v160] (fun l D tc b0 r h => m_L_name l D tc ro b0 h) dL_text_228 rfl rfl (Nat.le_of_ble_eq_true rfl) (by decide) (by decide) q161 (fun r164 h162 z163 => ?_)
      refine z_chk (fun q165 => ?_)
      refine z_cVr C zc_L_17 [.ref r164] (fun l D tc b0 r h => m_J4_append_15ec4 l D tc ro b0 h) dL_text_231 rfl rfl (Nat.le_of_ble_eq_true rfl) (by decide) (by decide) q165 (fun r168 h166 z167 => ?_)
      refine z_ldcS C 19 rfl dL_text_234 ?_
      refine z_chk (fun q169 => ?_)
      refine z_cVr C zc_L_17 [.ref (ro 19)] (fun l D tc b0 r h => m_J4_append_15ec4 l D tc ro b0 h) dL_text_236 rfl rfl (Nat.le_of_ble_eq_true rfl) (by decide) (by decide) q169 (fun r172 h170 z171 => ?_)
      refine z_chk (fun q173 => ?_)
      refine z_cVr C zc_L_23 [] (fun l D tc b0 r h => m_J4_toString_0e30d l D tc ro b0 h) dL_text_239 rfl rfl (Nat.le_of_ble_eq_true rfl) (by decide) (by decide) q173 (fun r176 h174 z175 => ?_)
      refine z_astore_n (lv' := [(0, .ref a0), (1, .ref r176), (2, .int x2)]) C dL_text_242 (by decide) rfl ?_
      refine z_iincL C 2 (fun v177 => [(0, .ref a0), (1, .ref r176), (2, .int v177)]) dL_text_243 rfl zi_1 (by decide) (fun _ => rfl) (fun v177 => ?_)
      refine z_goto C 185 dL_text_246 (by decide) ?_
      exact ih _ _ _ _ _ _
    exact z_sub [0, 1] rfl (hk249 _ _ _ _ _)
noncomputable def b_L_text_332 (ro : Nat → Nat) (mc ms : Nat) (k375 : Nat → zHp → Nat → Nat → Nat → Option (Nat × zHp × Nat)) (a0 : Nat) (x2 : Int32) (rec : Nat → Int32 → zHp → Nat → Nat → Nat → Option (Nat × zHp × Nat)) (a1 : Nat) (x3 : Int32) (h : zHp) (sz : Nat) (uc : Nat) (us : Nat) : Option (Nat × zHp × Nat) :=
  zchk (uc ≤ mc ∧ us ≤ ms) <| (f_L_parties a0 h).bind fun v242 => if v242 < x3 then (k375 a1 h sz uc us) else zchk (uc + 1 ≤ mc ∧ us + 4 ≤ ms) <| zlet (zup h sz (.inr (9, [.null, .int 0, .int 0, .int 0]))) fun h244 => zchk ((uc + 1) + 1 ≤ mc ∧ (us + 4) + 16 ≤ ms) <| zb2 (f_J4_init_da8c8 1 16 sz h244 ((sz + 1))) fun h246 z247 => zchk (((uc + 1) + 1) + 1 ≤ mc ∧ ((us + 4) + 16) + 1300 ≤ ms) <| zb3 (f_J4_append_15ec4 1 1300 sz a1 h246 z247) fun r251 h249 z250 => zchk ((((uc + 1) + 1) + 1) + 1 ≤ mc ∧ (((us + 4) + 16) + 1300) + 1300 ≤ ms) <| zb3 (f_J4_append_15ec4 1 1300 r251 (ro 25) h249 z250) fun r255 h253 z254 => (f_L_paper a0 x2 x3 h253).bind fun v256 => zchk (((((uc + 1) + 1) + 1) + 1) + 1 ≤ mc ∧ ((((us + 4) + 16) + 1300) + 1300) + 1300 ≤ ms) <| zb3 (f_J4_append_bf812 ro 1 1300 r255 v256 h253 z254) fun r260 h258 z259 => zchk ((((((uc + 1) + 1) + 1) + 1) + 1) + 2 ≤ mc ∧ (((((us + 4) + 16) + 1300) + 1300) + 1300) + 704 ≤ ms) <| zb3 (f_J4_toString_0e30d 2 704 r260 h258 z259) fun r264 h262 z263 => zlet (x3 + (1 : Int32)) fun v265 => rec r264 v265 h262 z263 (((((((uc + 1) + 1) + 1) + 1) + 1) + 2)) (((((((us + 4) + 16) + 1300) + 1300) + 1300) + 704))
noncomputable def l_L_text_332 (ro : Nat → Nat) (mc ms : Nat) (k375 : Nat → zHp → Nat → Nat → Nat → Option (Nat × zHp × Nat)) (a0 : Nat) (x2 : Int32) (n : Nat) : Nat → Int32 → zHp → Nat → Nat → Nat → Option (Nat × zHp × Nat) :=
  Nat.rec (motive := fun _ => Nat → Int32 → zHp → Nat → Nat → Nat → Option (Nat × zHp × Nat)) (fun _ _ _ _ _ _ => none) (fun _ rec => b_L_text_332 ro mc ms k375 a0 x2 rec) n
theorem l_L_text_332_s {ro : Nat → Nat} {mc ms : Nat} (k375 : Nat → zHp → Nat → Nat → Nat → Option (Nat × zHp × Nat)) (a0 : Nat) (x2 : Int32) (n : Nat) (a1 : Nat) (x3 : Int32) (h : zHp) (sz : Nat) (uc : Nat) (us : Nat) : l_L_text_332 ro mc ms k375 a0 x2 (n + 1) a1 x3 h sz uc us = b_L_text_332 ro mc ms k375 a0 x2 (l_L_text_332 ro mc ms k375 a0 x2 n) a1 x3 h sz uc us := rfl
set_option maxHeartbeats 4000000 in
set_option maxRecDepth 100000 in
theorem wl_L_text_332 {P : zX} {ro : Nat → Nat} {mc ms : Nat} (C : zC P cL_text RL (some (.object "java/lang/String")) 8 mc ms 4 ro) {a0 : Nat} {x2 : Int32} {k375 : Nat → zHp → Nat → Nat → Nat → Option (Nat × zHp × Nat)} (hk375 : ∀ (a1 : Nat) (h : zHp) (sz : Nat) (uc : Nat) (us : Nat), zG P zoRA (k375 a1 h sz uc us) 375 [(0, .ref a0), (1, .ref a1), (2, .int x2)] [] h sz uc us) : ∀ (n : Nat) (a1 : Nat) (x3 : Int32) (h : zHp) (sz : Nat) (uc : Nat) (us : Nat), zG P zoRA (l_L_text_332 ro mc ms k375 a0 x2 n a1 x3 h sz uc us) 332 [(0, .ref a0), (1, .ref a1), (2, .int x2), (3, .int x3)] [] h sz uc us := by
  intro n
  induction n with
  | zero =>
    intro a1 x3 h sz uc us
    show zG P zoRA none _ _ _ _ _ _ _
    exact z_none
  | succ n ih =>
    intro a1 x3 h sz uc us
    show zG P zoRA (b_L_text_332 ro mc ms k375 a0 x2 (l_L_text_332 ro mc ms k375 a0 x2 n) a1 x3 h sz uc us) _ _ _ _ _ _ _
    unfold b_L_text_332
    refine z_iload_n C dL_text_332 3 rfl ?_
    refine z_aload_n C dL_text_333 0 rfl ?_
    refine z_chk (fun q241 => ?_)
    refine z_callSp C zs_L_54 [.ref a0] (fun l D tc b0 r h => m_L_parties l D tc ro b0 h) dL_text_334 rfl rfl (Nat.le_of_ble_eq_true rfl) (by decide) (by decide) q241 (fun v242 => ?_)
    refine z_icmp_gt C 375 dL_text_337 (by decide) ?_ ?_
    · exact z_sub [0, 1, 2] rfl (hk375 _ _ _ _ _)
    refine z_chk (fun q243 => ?_)
    refine z_new C za_L_14 dL_text_340 q243 (fun h244 => ?_)
    refine z_dup C dL_text_343 rfl ?_
    refine z_chk (fun q245 => ?_)
    refine z_callI C (Or.inl zci_L_16) [] (fun l D tc b0 r h => m_J4_init_da8c8 l D tc ro b0 h) dL_text_344 rfl rfl (Nat.le_of_ble_eq_true rfl) (by decide) (by decide) q245 (fun h246 z247 => ?_)
    refine z_aload_n C dL_text_347 1 rfl ?_
    refine z_chk (fun q248 => ?_)
    refine z_cVr C zc_L_17 [.ref a1] (fun l D tc b0 r h => m_J4_append_15ec4 l D tc ro b0 h) dL_text_348 rfl rfl (Nat.le_of_ble_eq_true rfl) (by decide) (by decide) q248 (fun r251 h249 z250 => ?_)
    refine z_ldcS C 25 rfl dL_text_351 ?_
    refine z_chk (fun q252 => ?_)
    refine z_cVr C zc_L_17 [.ref (ro 25)] (fun l D tc b0 r h => m_J4_append_15ec4 l D tc ro b0 h) dL_text_353 rfl rfl (Nat.le_of_ble_eq_true rfl) (by decide) (by decide) q252 (fun r255 h253 z254 => ?_)
    refine z_aload_n C dL_text_356 0 rfl ?_
    refine z_iload_n C dL_text_357 2 rfl ?_
    refine z_iload_n C dL_text_358 3 rfl ?_
    refine z_callSp C zs_L_57 [.ref a0, .int x2, .int x3] (fun l D tc b0 r h => m_L_paper l D tc ro b0 h) dL_text_359 rfl rfl (Nat.le_of_ble_eq_true rfl) (by decide) (by decide) q252 (fun v256 => ?_)
    refine z_chk (fun q257 => ?_)
    refine z_cVr C zc_L_79 [.int v256] (fun l D tc b0 r h => m_J4_append_bf812 l D tc ro b0 h) dL_text_362 rfl rfl (Nat.le_of_ble_eq_true rfl) (by decide) (by decide) q257 (fun r260 h258 z259 => ?_)
    refine z_chk (fun q261 => ?_)
    refine z_cVr C zc_L_23 [] (fun l D tc b0 r h => m_J4_toString_0e30d l D tc ro b0 h) dL_text_365 rfl rfl (Nat.le_of_ble_eq_true rfl) (by decide) (by decide) q261 (fun r264 h262 z263 => ?_)
    refine z_astore_n (lv' := [(0, .ref a0), (1, .ref r264), (2, .int x2), (3, .int x3)]) C dL_text_368 (by decide) rfl ?_
    refine z_iincL C 3 (fun v265 => [(0, .ref a0), (1, .ref r264), (2, .int x2), (3, .int v265)]) dL_text_369 rfl zi_1 (by decide) (fun _ => rfl) (fun v265 => ?_)
    refine z_goto C 332 dL_text_372 (by decide) ?_
    exact ih _ _ _ _ _ _
noncomputable def b_L_text_251 (ro : Nat → Nat) (mc ms : Nat) (k401 : Nat → zHp → Nat → Nat → Nat → Option (Nat × zHp × Nat)) (a0 : Nat) (rec : Nat → Int32 → zHp → Nat → Nat → Nat → Option (Nat × zHp × Nat)) (a1 : Nat) (x2 : Int32) (h : zHp) (sz : Nat) (uc : Nat) (us : Nat) : Option (Nat × zHp × Nat) :=
  zchk (uc ≤ mc ∧ us ≤ ms) <| (f_L_boxes a0 h).bind fun v184 => if x2 < v184 then (zchk (uc + 1 ≤ mc ∧ us + 4 ≤ ms) <| zlet (zup h sz (.inr (9, [.null, .int 0, .int 0, .int 0]))) fun h186 => zchk ((uc + 1) + 1 ≤ mc ∧ (us + 4) + 16 ≤ ms) <| zb2 (f_J4_init_da8c8 1 16 sz h186 ((sz + 1))) fun h188 z189 => zchk (((uc + 1) + 1) + 1 ≤ mc ∧ ((us + 4) + 16) + 1300 ≤ ms) <| zb3 (f_J4_append_15ec4 1 1300 sz a1 h188 z189) fun r193 h191 z192 => zchk ((((uc + 1) + 1) + 1) + 1 ≤ mc ∧ (((us + 4) + 16) + 1300) + 1300 ≤ ms) <| zb3 (f_J4_append_15ec4 1 1300 r193 (ro 26) h191 z192) fun r197 h195 z196 => zchk (((((uc + 1) + 1) + 1) + 1) + 4 ≤ mc ∧ ((((us + 4) + 16) + 1300) + 1300) + 64 ≤ ms) <| zb3 (f_L_name ro 4 64 (3 : Int32) x2 h195 z196) fun r201 h199 z200 => zchk ((((((uc + 1) + 1) + 1) + 1) + 4) + 1 ≤ mc ∧ (((((us + 4) + 16) + 1300) + 1300) + 64) + 1300 ≤ ms) <| zb3 (f_J4_append_15ec4 1 1300 r197 r201 h199 z200) fun r205 h203 z204 => zchk (((((((uc + 1) + 1) + 1) + 1) + 4) + 1) + 1 ≤ mc ∧ ((((((us + 4) + 16) + 1300) + 1300) + 64) + 1300) + 1300 ≤ ms) <| zb3 (f_J4_append_15ec4 1 1300 r205 (ro 25) h203 z204) fun r209 h207 z208 => (f_L_wardOf a0 x2 h207).bind fun v210 => zchk ((((((((uc + 1) + 1) + 1) + 1) + 4) + 1) + 1) + 4 ≤ mc ∧ (((((((us + 4) + 16) + 1300) + 1300) + 64) + 1300) + 1300) + 64 ≤ ms) <| zb3 (f_L_name ro 4 64 (2 : Int32) v210 h207 z208) fun r214 h212 z213 => zchk (((((((((uc + 1) + 1) + 1) + 1) + 4) + 1) + 1) + 4) + 1 ≤ mc ∧ ((((((((us + 4) + 16) + 1300) + 1300) + 64) + 1300) + 1300) + 64) + 1300 ≤ ms) <| zb3 (f_J4_append_15ec4 1 1300 r209 r214 h212 z213) fun r218 h216 z217 => zchk ((((((((((uc + 1) + 1) + 1) + 1) + 4) + 1) + 1) + 4) + 1) + 1 ≤ mc ∧ (((((((((us + 4) + 16) + 1300) + 1300) + 64) + 1300) + 1300) + 64) + 1300) + 1300 ≤ ms) <| zb3 (f_J4_append_15ec4 1 1300 r218 (ro 25) h216 z217) fun r222 h220 z221 => (f_L_issued a0 x2 h220).bind fun v223 => zchk (((((((((((uc + 1) + 1) + 1) + 1) + 4) + 1) + 1) + 4) + 1) + 1) + 1 ≤ mc ∧ ((((((((((us + 4) + 16) + 1300) + 1300) + 64) + 1300) + 1300) + 64) + 1300) + 1300) + 1300 ≤ ms) <| zb3 (f_J4_append_bf812 ro 1 1300 r222 v223 h220 z221) fun r227 h225 z226 => zchk ((((((((((((uc + 1) + 1) + 1) + 1) + 4) + 1) + 1) + 4) + 1) + 1) + 1) + 1 ≤ mc ∧ (((((((((((us + 4) + 16) + 1300) + 1300) + 64) + 1300) + 1300) + 64) + 1300) + 1300) + 1300) + 1300 ≤ ms) <| zb3 (f_J4_append_15ec4 1 1300 r227 (ro 25) h225 z226) fun r231 h229 z230 => (f_L_seal a0 x2 h229).bind fun v232 => zchk (((((((((((((uc + 1) + 1) + 1) + 1) + 4) + 1) + 1) + 4) + 1) + 1) + 1) + 1) + 1 ≤ mc ∧ ((((((((((((us + 4) + 16) + 1300) + 1300) + 64) + 1300) + 1300) + 64) + 1300) + 1300) + 1300) + 1300) + 1300 ≤ ms) <| zb3 (f_J4_append_bf812 ro 1 1300 r231 v232 h229 z230) fun r236 h234 z235 => zchk ((((((((((((((uc + 1) + 1) + 1) + 1) + 4) + 1) + 1) + 4) + 1) + 1) + 1) + 1) + 1) + 2 ≤ mc ∧ (((((((((((((us + 4) + 16) + 1300) + 1300) + 64) + 1300) + 1300) + 64) + 1300) + 1300) + 1300) + 1300) + 1300) + 704 ≤ ms) <| zb3 (f_J4_toString_0e30d 2 704 r236 h234 z235) fun r240 h238 z239 => l_L_text_332 ro mc ms (fun p266 h267 z268 c269 u270 => zchk (c269 + 1 ≤ mc ∧ u270 + 4 ≤ ms) <| zlet (zup h267 z268 (.inr (9, [.null, .int 0, .int 0, .int 0]))) fun h272 => zchk ((c269 + 1) + 1 ≤ mc ∧ (u270 + 4) + 16 ≤ ms) <| zb2 (f_J4_init_da8c8 1 16 z268 h272 ((z268 + 1))) fun h274 z275 => zchk (((c269 + 1) + 1) + 1 ≤ mc ∧ ((u270 + 4) + 16) + 1300 ≤ ms) <| zb3 (f_J4_append_15ec4 1 1300 z268 p266 h274 z275) fun r279 h277 z278 => zchk ((((c269 + 1) + 1) + 1) + 1 ≤ mc ∧ (((u270 + 4) + 16) + 1300) + 1300 ≤ ms) <| zb3 (f_J4_append_15ec4 1 1300 r279 (ro 19) h277 z278) fun r283 h281 z282 => zchk (((((c269 + 1) + 1) + 1) + 1) + 2 ≤ mc ∧ ((((u270 + 4) + 16) + 1300) + 1300) + 704 ≤ ms) <| zb3 (f_J4_toString_0e30d 2 704 r283 h281 z282) fun r287 h285 z286 => zlet (x2 + (1 : Int32)) fun v288 => rec r287 v288 h285 z286 ((((((c269 + 1) + 1) + 1) + 1) + 2)) ((((((u270 + 4) + 16) + 1300) + 1300) + 704))) a0 x2 1000000 r240 (0 : Int32) h238 z239 (((((((((((((((uc + 1) + 1) + 1) + 1) + 4) + 1) + 1) + 4) + 1) + 1) + 1) + 1) + 1) + 2)) (((((((((((((((us + 4) + 16) + 1300) + 1300) + 64) + 1300) + 1300) + 64) + 1300) + 1300) + 1300) + 1300) + 1300) + 704))) else k401 a1 h sz uc us
noncomputable def l_L_text_251 (ro : Nat → Nat) (mc ms : Nat) (k401 : Nat → zHp → Nat → Nat → Nat → Option (Nat × zHp × Nat)) (a0 : Nat) (n : Nat) : Nat → Int32 → zHp → Nat → Nat → Nat → Option (Nat × zHp × Nat) :=
  Nat.rec (motive := fun _ => Nat → Int32 → zHp → Nat → Nat → Nat → Option (Nat × zHp × Nat)) (fun _ _ _ _ _ _ => none) (fun _ rec => b_L_text_251 ro mc ms k401 a0 rec) n
theorem l_L_text_251_s {ro : Nat → Nat} {mc ms : Nat} (k401 : Nat → zHp → Nat → Nat → Nat → Option (Nat × zHp × Nat)) (a0 : Nat) (n : Nat) (a1 : Nat) (x2 : Int32) (h : zHp) (sz : Nat) (uc : Nat) (us : Nat) : l_L_text_251 ro mc ms k401 a0 (n + 1) a1 x2 h sz uc us = b_L_text_251 ro mc ms k401 a0 (l_L_text_251 ro mc ms k401 a0 n) a1 x2 h sz uc us := rfl
set_option maxHeartbeats 4000000 in
set_option maxRecDepth 100000 in
theorem wl_L_text_251 {P : zX} {ro : Nat → Nat} {mc ms : Nat} (C : zC P cL_text RL (some (.object "java/lang/String")) 8 mc ms 4 ro) {a0 : Nat} {k401 : Nat → zHp → Nat → Nat → Nat → Option (Nat × zHp × Nat)} (hk401 : ∀ (a1 : Nat) (h : zHp) (sz : Nat) (uc : Nat) (us : Nat), zG P zoRA (k401 a1 h sz uc us) 401 [(0, .ref a0), (1, .ref a1)] [] h sz uc us) : ∀ (n : Nat) (a1 : Nat) (x2 : Int32) (h : zHp) (sz : Nat) (uc : Nat) (us : Nat), zG P zoRA (l_L_text_251 ro mc ms k401 a0 n a1 x2 h sz uc us) 251 [(0, .ref a0), (1, .ref a1), (2, .int x2)] [] h sz uc us := by
  intro n
  induction n with
  | zero =>
    intro a1 x2 h sz uc us
    show zG P zoRA none _ _ _ _ _ _ _
    exact z_none
  | succ n ih =>
    intro a1 x2 h sz uc us
    show zG P zoRA (b_L_text_251 ro mc ms k401 a0 (l_L_text_251 ro mc ms k401 a0 n) a1 x2 h sz uc us) _ _ _ _ _ _ _
    unfold b_L_text_251
    refine z_iload_n C dL_text_251 2 rfl ?_
    refine z_aload_n C dL_text_252 0 rfl ?_
    refine z_chk (fun q183 => ?_)
    refine z_callSp C zs_L_104 [.ref a0] (fun l D tc b0 r h => m_L_boxes l D tc ro b0 h) dL_text_253 rfl rfl (Nat.le_of_ble_eq_true rfl) (by decide) (by decide) q183 (fun v184 => ?_)
    refine z_icmp_ge C 401 dL_text_256 (by decide) ?_ ?_
    · refine z_chk (fun q185 => ?_)
      refine z_new C za_L_14 dL_text_259 q185 (fun h186 => ?_)
      refine z_dup C dL_text_262 rfl ?_
      refine z_chk (fun q187 => ?_)
      refine z_callI C (Or.inl zci_L_16) [] (fun l D tc b0 r h => m_J4_init_da8c8 l D tc ro b0 h) dL_text_263 rfl rfl (Nat.le_of_ble_eq_true rfl) (by decide) (by decide) q187 (fun h188 z189 => ?_)
      refine z_aload_n C dL_text_266 1 rfl ?_
      refine z_chk (fun q190 => ?_)
      refine z_cVr C zc_L_17 [.ref a1] (fun l D tc b0 r h => m_J4_append_15ec4 l D tc ro b0 h) dL_text_267 rfl rfl (Nat.le_of_ble_eq_true rfl) (by decide) (by decide) q190 (fun r193 h191 z192 => ?_)
      refine z_ldcS C 26 rfl dL_text_270 ?_
      refine z_chk (fun q194 => ?_)
      refine z_cVr C zc_L_17 [.ref (ro 26)] (fun l D tc b0 r h => m_J4_append_15ec4 l D tc ro b0 h) dL_text_272 rfl rfl (Nat.le_of_ble_eq_true rfl) (by decide) (by decide) q194 (fun r197 h195 z196 => ?_)
      refine z_iconst C dL_text_275 zi_3 ?_
      refine z_iload_n C dL_text_276 2 rfl ?_
      refine z_chk (fun q198 => ?_)
      refine z_cSr C zs_L_88 [.int (3 : Int32), .int x2] (fun l D tc b0 r h => m_L_name l D tc ro b0 h) dL_text_277 rfl rfl (Nat.le_of_ble_eq_true rfl) (by decide) (by decide) q198 (fun r201 h199 z200 => ?_)
      refine z_chk (fun q202 => ?_)
      refine z_cVr C zc_L_17 [.ref r201] (fun l D tc b0 r h => m_J4_append_15ec4 l D tc ro b0 h) dL_text_280 rfl rfl (Nat.le_of_ble_eq_true rfl) (by decide) (by decide) q202 (fun r205 h203 z204 => ?_)
      refine z_ldcS C 25 rfl dL_text_283 ?_
      refine z_chk (fun q206 => ?_)
      refine z_cVr C zc_L_17 [.ref (ro 25)] (fun l D tc b0 r h => m_J4_append_15ec4 l D tc ro b0 h) dL_text_285 rfl rfl (Nat.le_of_ble_eq_true rfl) (by decide) (by decide) q206 (fun r209 h207 z208 => ?_)
      refine z_iconst C dL_text_288 zi_2 ?_
      refine z_aload_n C dL_text_289 0 rfl ?_
      refine z_iload_n C dL_text_290 2 rfl ?_
      refine z_callSp C zs_L_109 [.ref a0, .int x2] (fun l D tc b0 r h => m_L_wardOf l D tc ro b0 h) dL_text_291 rfl rfl (Nat.le_of_ble_eq_true rfl) (by decide) (by decide) q206 (fun v210 => ?_)
      refine z_chk (fun q211 => ?_)
      refine z_cSr C zs_L_88 [.int (2 : Int32), .int v210] (fun l D tc b0 r h => m_L_name l D tc ro b0 h) dL_text_294 rfl rfl (Nat.le_of_ble_eq_true rfl) (by decide) (by decide) q211 (fun r214 h212 z213 => ?_)
      refine z_chk (fun q215 => ?_)
      refine z_cVr C zc_L_17 [.ref r214] (fun l D tc b0 r h => m_J4_append_15ec4 l D tc ro b0 h) dL_text_297 rfl rfl (Nat.le_of_ble_eq_true rfl) (by decide) (by decide) q215 (fun r218 h216 z217 => ?_)
      refine z_ldcS C 25 rfl dL_text_300 ?_
      refine z_chk (fun q219 => ?_)
      refine z_cVr C zc_L_17 [.ref (ro 25)] (fun l D tc b0 r h => m_J4_append_15ec4 l D tc ro b0 h) dL_text_302 rfl rfl (Nat.le_of_ble_eq_true rfl) (by decide) (by decide) q219 (fun r222 h220 z221 => ?_)
      refine z_aload_n C dL_text_305 0 rfl ?_
      refine z_iload_n C dL_text_306 2 rfl ?_
      refine z_callSp C zs_L_112 [.ref a0, .int x2] (fun l D tc b0 r h => m_L_issued l D tc ro b0 h) dL_text_307 rfl rfl (Nat.le_of_ble_eq_true rfl) (by decide) (by decide) q219 (fun v223 => ?_)
      refine z_chk (fun q224 => ?_)
      refine z_cVr C zc_L_79 [.int v223] (fun l D tc b0 r h => m_J4_append_bf812 l D tc ro b0 h) dL_text_310 rfl rfl (Nat.le_of_ble_eq_true rfl) (by decide) (by decide) q224 (fun r227 h225 z226 => ?_)
      refine z_ldcS C 25 rfl dL_text_313 ?_
      refine z_chk (fun q228 => ?_)
      refine z_cVr C zc_L_17 [.ref (ro 25)] (fun l D tc b0 r h => m_J4_append_15ec4 l D tc ro b0 h) dL_text_315 rfl rfl (Nat.le_of_ble_eq_true rfl) (by decide) (by decide) q228 (fun r231 h229 z230 => ?_)
      refine z_aload_n C dL_text_318 0 rfl ?_
      refine z_iload_n C dL_text_319 2 rfl ?_
      refine z_callSp C zs_L_115 [.ref a0, .int x2] (fun l D tc b0 r h => m_L_seal l D tc ro b0 h) dL_text_320 rfl rfl (Nat.le_of_ble_eq_true rfl) (by decide) (by decide) q228 (fun v232 => ?_)
      refine z_chk (fun q233 => ?_)
      refine z_cVr C zc_L_79 [.int v232] (fun l D tc b0 r h => m_J4_append_bf812 l D tc ro b0 h) dL_text_323 rfl rfl (Nat.le_of_ble_eq_true rfl) (by decide) (by decide) q233 (fun r236 h234 z235 => ?_)
      refine z_chk (fun q237 => ?_)
      refine z_cVr C zc_L_23 [] (fun l D tc b0 r h => m_J4_toString_0e30d l D tc ro b0 h) dL_text_326 rfl rfl (Nat.le_of_ble_eq_true rfl) (by decide) (by decide) q237 (fun r240 h238 z239 => ?_)
      refine z_astore_n (lv' := [(0, .ref a0), (1, .ref r240), (2, .int x2)]) C dL_text_329 (by decide) rfl ?_
      refine z_iconst C dL_text_330 zi_0 ?_
      refine z_istore_n (lv' := [(0, .ref a0), (1, .ref r240), (2, .int x2), (3, .int (0 : Int32))]) C dL_text_331 (by decide) rfl ?_
      refine wl_L_text_332 C (fun p266 h267 z268 c269 u270 => ?_) _ _ _ _ _ _ _
      refine z_chk (fun q271 => ?_)
      refine z_new C za_L_14 dL_text_375 q271 (fun h272 => ?_)
      refine z_dup C dL_text_378 rfl ?_
      refine z_chk (fun q273 => ?_)
      refine z_callI C (Or.inl zci_L_16) [] (fun l D tc b0 r h => m_J4_init_da8c8 l D tc ro b0 h) dL_text_379 rfl rfl (Nat.le_of_ble_eq_true rfl) (by decide) (by decide) q273 (fun h274 z275 => ?_)
      refine z_aload_n C dL_text_382 1 rfl ?_
      refine z_chk (fun q276 => ?_)
      refine z_cVr C zc_L_17 [.ref p266] (fun l D tc b0 r h => m_J4_append_15ec4 l D tc ro b0 h) dL_text_383 rfl rfl (Nat.le_of_ble_eq_true rfl) (by decide) (by decide) q276 (fun r279 h277 z278 => ?_)
      refine z_ldcS C 19 rfl dL_text_386 ?_
      refine z_chk (fun q280 => ?_)
      refine z_cVr C zc_L_17 [.ref (ro 19)] (fun l D tc b0 r h => m_J4_append_15ec4 l D tc ro b0 h) dL_text_388 rfl rfl (Nat.le_of_ble_eq_true rfl) (by decide) (by decide) q280 (fun r283 h281 z282 => ?_)
      refine z_chk (fun q284 => ?_)
      refine z_cVr C zc_L_23 [] (fun l D tc b0 r h => m_J4_toString_0e30d l D tc ro b0 h) dL_text_391 rfl rfl (Nat.le_of_ble_eq_true rfl) (by decide) (by decide) q284 (fun r287 h285 z286 => ?_)
      refine z_astore_n (lv' := [(0, .ref a0), (1, .ref r287), (2, .int x2)]) C dL_text_394 (by decide) rfl ?_
      refine z_iincL C 2 (fun v288 => [(0, .ref a0), (1, .ref r287), (2, .int v288)]) dL_text_395 rfl zi_1 (by decide) (fun _ => rfl) (fun v288 => ?_)
      refine z_goto C 251 dL_text_398 (by decide) ?_
      exact ih _ _ _ _ _ _
    exact z_sub [0, 1] rfl (hk401 _ _ _ _ _)
noncomputable def b_L_text_403 (ro : Nat → Nat) (mc ms : Nat) (k450 : Nat → zHp → Nat → Nat → Nat → Option (Nat × zHp × Nat)) (a0 : Nat) (rec : Nat → Int32 → zHp → Nat → Nat → Nat → Option (Nat × zHp × Nat)) (a1 : Nat) (x2 : Int32) (h : zHp) (sz : Nat) (uc : Nat) (us : Nat) : Option (Nat × zHp × Nat) :=
  zchk (uc ≤ mc ∧ us ≤ ms) <| (f_L_tables a0 h).bind fun v295 => if x2 < v295 then (zchk (uc + 1 ≤ mc ∧ us + 4 ≤ ms) <| zlet (zup h sz (.inr (9, [.null, .int 0, .int 0, .int 0]))) fun h297 => zchk ((uc + 1) + 1 ≤ mc ∧ (us + 4) + 16 ≤ ms) <| zb2 (f_J4_init_da8c8 1 16 sz h297 ((sz + 1))) fun h299 z300 => zchk (((uc + 1) + 1) + 1 ≤ mc ∧ ((us + 4) + 16) + 1300 ≤ ms) <| zb3 (f_J4_append_15ec4 1 1300 sz a1 h299 z300) fun r304 h302 z303 => zchk ((((uc + 1) + 1) + 1) + 1 ≤ mc ∧ (((us + 4) + 16) + 1300) + 1300 ≤ ms) <| zb3 (f_J4_append_15ec4 1 1300 r304 (ro 27) h302 z303) fun r308 h306 z307 => (f_L_slip a0 x2 h306).bind fun v309 => zchk (((((uc + 1) + 1) + 1) + 1) + 1 ≤ mc ∧ ((((us + 4) + 16) + 1300) + 1300) + 1300 ≤ ms) <| zb3 (f_J4_append_bf812 ro 1 1300 r308 v309 h306 z307) fun r313 h311 z312 => zchk ((((((uc + 1) + 1) + 1) + 1) + 1) + 1 ≤ mc ∧ (((((us + 4) + 16) + 1300) + 1300) + 1300) + 1300 ≤ ms) <| zb3 (f_J4_append_15ec4 1 1300 r313 (ro 19) h311 z312) fun r317 h315 z316 => zchk (((((((uc + 1) + 1) + 1) + 1) + 1) + 1) + 2 ≤ mc ∧ ((((((us + 4) + 16) + 1300) + 1300) + 1300) + 1300) + 704 ≤ ms) <| zb3 (f_J4_toString_0e30d 2 704 r317 h315 z316) fun r321 h319 z320 => zlet (x2 + (1 : Int32)) fun v322 => rec r321 v322 h319 z320 ((((((((uc + 1) + 1) + 1) + 1) + 1) + 1) + 2)) ((((((((us + 4) + 16) + 1300) + 1300) + 1300) + 1300) + 704))) else k450 a1 h sz uc us
noncomputable def l_L_text_403 (ro : Nat → Nat) (mc ms : Nat) (k450 : Nat → zHp → Nat → Nat → Nat → Option (Nat × zHp × Nat)) (a0 : Nat) (n : Nat) : Nat → Int32 → zHp → Nat → Nat → Nat → Option (Nat × zHp × Nat) :=
  Nat.rec (motive := fun _ => Nat → Int32 → zHp → Nat → Nat → Nat → Option (Nat × zHp × Nat)) (fun _ _ _ _ _ _ => none) (fun _ rec => b_L_text_403 ro mc ms k450 a0 rec) n
theorem l_L_text_403_s {ro : Nat → Nat} {mc ms : Nat} (k450 : Nat → zHp → Nat → Nat → Nat → Option (Nat × zHp × Nat)) (a0 : Nat) (n : Nat) (a1 : Nat) (x2 : Int32) (h : zHp) (sz : Nat) (uc : Nat) (us : Nat) : l_L_text_403 ro mc ms k450 a0 (n + 1) a1 x2 h sz uc us = b_L_text_403 ro mc ms k450 a0 (l_L_text_403 ro mc ms k450 a0 n) a1 x2 h sz uc us := rfl
set_option maxHeartbeats 4000000 in
set_option maxRecDepth 100000 in
theorem wl_L_text_403 {P : zX} {ro : Nat → Nat} {mc ms : Nat} (C : zC P cL_text RL (some (.object "java/lang/String")) 8 mc ms 4 ro) {a0 : Nat} {k450 : Nat → zHp → Nat → Nat → Nat → Option (Nat × zHp × Nat)} (hk450 : ∀ (a1 : Nat) (h : zHp) (sz : Nat) (uc : Nat) (us : Nat), zG P zoRA (k450 a1 h sz uc us) 450 [(1, .ref a1)] [] h sz uc us) : ∀ (n : Nat) (a1 : Nat) (x2 : Int32) (h : zHp) (sz : Nat) (uc : Nat) (us : Nat), zG P zoRA (l_L_text_403 ro mc ms k450 a0 n a1 x2 h sz uc us) 403 [(0, .ref a0), (1, .ref a1), (2, .int x2)] [] h sz uc us := by
  intro n
  induction n with
  | zero =>
    intro a1 x2 h sz uc us
    show zG P zoRA none _ _ _ _ _ _ _
    exact z_none
  | succ n ih =>
    intro a1 x2 h sz uc us
    show zG P zoRA (b_L_text_403 ro mc ms k450 a0 (l_L_text_403 ro mc ms k450 a0 n) a1 x2 h sz uc us) _ _ _ _ _ _ _
    unfold b_L_text_403
    refine z_iload_n C dL_text_403 2 rfl ?_
    refine z_aload_n C dL_text_404 0 rfl ?_
    refine z_chk (fun q294 => ?_)
    refine z_callSp C zs_L_118 [.ref a0] (fun l D tc b0 r h => m_L_tables l D tc ro b0 h) dL_text_405 rfl rfl (Nat.le_of_ble_eq_true rfl) (by decide) (by decide) q294 (fun v295 => ?_)
    refine z_icmp_ge C 450 dL_text_408 (by decide) ?_ ?_
    · refine z_chk (fun q296 => ?_)
      refine z_new C za_L_14 dL_text_411 q296 (fun h297 => ?_)
      refine z_dup C dL_text_414 rfl ?_
      refine z_chk (fun q298 => ?_)
      refine z_callI C (Or.inl zci_L_16) [] (fun l D tc b0 r h => m_J4_init_da8c8 l D tc ro b0 h) dL_text_415 rfl rfl (Nat.le_of_ble_eq_true rfl) (by decide) (by decide) q298 (fun h299 z300 => ?_)
      refine z_aload_n C dL_text_418 1 rfl ?_
      refine z_chk (fun q301 => ?_)
      refine z_cVr C zc_L_17 [.ref a1] (fun l D tc b0 r h => m_J4_append_15ec4 l D tc ro b0 h) dL_text_419 rfl rfl (Nat.le_of_ble_eq_true rfl) (by decide) (by decide) q301 (fun r304 h302 z303 => ?_)
      refine z_ldcS C 27 rfl dL_text_422 ?_
      refine z_chk (fun q305 => ?_)
      refine z_cVr C zc_L_17 [.ref (ro 27)] (fun l D tc b0 r h => m_J4_append_15ec4 l D tc ro b0 h) dL_text_424 rfl rfl (Nat.le_of_ble_eq_true rfl) (by decide) (by decide) q305 (fun r308 h306 z307 => ?_)
      refine z_aload_n C dL_text_427 0 rfl ?_
      refine z_iload_n C dL_text_428 2 rfl ?_
      refine z_callSp C zs_L_123 [.ref a0, .int x2] (fun l D tc b0 r h => m_L_slip l D tc ro b0 h) dL_text_429 rfl rfl (Nat.le_of_ble_eq_true rfl) (by decide) (by decide) q305 (fun v309 => ?_)
      refine z_chk (fun q310 => ?_)
      refine z_cVr C zc_L_79 [.int v309] (fun l D tc b0 r h => m_J4_append_bf812 l D tc ro b0 h) dL_text_432 rfl rfl (Nat.le_of_ble_eq_true rfl) (by decide) (by decide) q310 (fun r313 h311 z312 => ?_)
      refine z_ldcS C 19 rfl dL_text_435 ?_
      refine z_chk (fun q314 => ?_)
      refine z_cVr C zc_L_17 [.ref (ro 19)] (fun l D tc b0 r h => m_J4_append_15ec4 l D tc ro b0 h) dL_text_437 rfl rfl (Nat.le_of_ble_eq_true rfl) (by decide) (by decide) q314 (fun r317 h315 z316 => ?_)
      refine z_chk (fun q318 => ?_)
      refine z_cVr C zc_L_23 [] (fun l D tc b0 r h => m_J4_toString_0e30d l D tc ro b0 h) dL_text_440 rfl rfl (Nat.le_of_ble_eq_true rfl) (by decide) (by decide) q318 (fun r321 h319 z320 => ?_)
      refine z_astore_n (lv' := [(0, .ref a0), (1, .ref r321), (2, .int x2)]) C dL_text_443 (by decide) rfl ?_
      refine z_iincL C 2 (fun v322 => [(0, .ref a0), (1, .ref r321), (2, .int v322)]) dL_text_444 rfl zi_1 (by decide) (fun _ => rfl) (fun v322 => ?_)
      refine z_goto C 403 dL_text_447 (by decide) ?_
      exact ih _ _ _ _ _ _
    exact z_sub [1] rfl (hk450 _ _ _ _ _)
noncomputable def f_L_text (ro : Nat → Nat) (mc ms : Nat) (a0 : Nat) (hp : zHp) (sz : Nat) : Option (Nat × zHp × Nat) :=
  zchk (0 + 1 ≤ mc ∧ 0 + 4 ≤ ms) <| zlet (zup hp sz (.inr (9, [.null, .int 0, .int 0, .int 0]))) fun h2 => zchk ((0 + 1) + 1 ≤ mc ∧ (0 + 4) + 16 ≤ ms) <| zb2 (f_J4_init_da8c8 1 16 sz h2 ((sz + 1))) fun h4 z5 => zchk (((0 + 1) + 1) + 1 ≤ mc ∧ ((0 + 4) + 16) + 1300 ≤ ms) <| zb3 (f_J4_append_15ec4 1 1300 sz (ro 17) h4 z5) fun r9 h7 z8 => (f_L_setting a0 (0 : Int32) h7).bind fun v10 => zchk ((((0 + 1) + 1) + 1) + 1 ≤ mc ∧ (((0 + 4) + 16) + 1300) + 1300 ≤ ms) <| zb3 (f_J4_append_bf812 ro 1 1300 r9 v10 h7 z8) fun r14 h12 z13 => zchk (((((0 + 1) + 1) + 1) + 1) + 1 ≤ mc ∧ ((((0 + 4) + 16) + 1300) + 1300) + 1300 ≤ ms) <| zb3 (f_J4_append_15ec4 1 1300 r14 (ro 18) h12 z13) fun r18 h16 z17 => (f_L_setting a0 (1 : Int32) h16).bind fun v19 => zchk ((((((0 + 1) + 1) + 1) + 1) + 1) + 1 ≤ mc ∧ (((((0 + 4) + 16) + 1300) + 1300) + 1300) + 1300 ≤ ms) <| zb3 (f_J4_append_bf812 ro 1 1300 r18 v19 h16 z17) fun r23 h21 z22 => zchk (((((((0 + 1) + 1) + 1) + 1) + 1) + 1) + 1 ≤ mc ∧ ((((((0 + 4) + 16) + 1300) + 1300) + 1300) + 1300) + 1300 ≤ ms) <| zb3 (f_J4_append_15ec4 1 1300 r23 (ro 19) h21 z22) fun r27 h25 z26 => zchk ((((((((0 + 1) + 1) + 1) + 1) + 1) + 1) + 1) + 2 ≤ mc ∧ (((((((0 + 4) + 16) + 1300) + 1300) + 1300) + 1300) + 1300) + 704 ≤ ms) <| zb3 (f_J4_toString_0e30d 2 704 r27 h25 z26) fun r31 h29 z30 => l_L_text_44 ro mc ms (fun p64 h65 z66 c67 u68 => l_L_text_93 ro mc ms (fun p128 h129 z130 c131 u132 => l_L_text_185 ro mc ms (fun p178 h179 z180 c181 u182 => l_L_text_251 ro mc ms (fun p289 h290 z291 c292 u293 => l_L_text_403 ro mc ms (fun p323 h324 z325 c326 u327 => zchk (c326 ≤ mc ∧ u327 ≤ ms) <| some (p323, h324, z325)) a0 1000000 p289 (0 : Int32) h290 z291 c292 u293) a0 1000000 p178 (0 : Int32) h179 z180 c181 u182) a0 1000000 p128 (0 : Int32) h129 z130 c131 u132) a0 1000000 p64 (0 : Int32) h65 z66 c67 u68) a0 1000000 r31 (0 : Int32) h29 z30 (((((((((0 + 1) + 1) + 1) + 1) + 1) + 1) + 1) + 2)) (((((((((0 + 4) + 16) + 1300) + 1300) + 1300) + 1300) + 1300) + 704))
set_option maxHeartbeats 4000000 in
set_option maxRecDepth 100000 in
theorem m_L_text (l : Launch) (D : va_G) (tc : Nat → ClassId) (ro : Nat → Nat) (b0 : Nat) {mc ms : Nat} {a0 : Nat} {hp : zHp} {sz : Nat} {r : (Nat × zHp × Nat)} (h : f_L_text ro mc ms a0 hp sz = some r) : zM l yL_text cL_text 4 (some (.object "java/lang/String")) 8 mc ms [.ref a0] D tc ro b0 hp sz (zoRA r).1 (zoRA r).2.1 (zoRA r).2.2 := by
  refine z_start (o := zoRA) (lv := [(0, .ref a0)]) h (by decide +kernel) RL rfl rfl (Nat.le_of_ble_eq_true rfl) (fun P C => ?_)
  unfold f_L_text
  refine z_chk (fun q1 => ?_)
  refine z_new C za_L_14 dL_text_0 q1 (fun h2 => ?_)
  refine z_dup C dL_text_3 rfl ?_
  refine z_chk (fun q3 => ?_)
  refine z_callI C (Or.inl zci_L_16) [] (fun l D tc b0 r h => m_J4_init_da8c8 l D tc ro b0 h) dL_text_4 rfl rfl (Nat.le_of_ble_eq_true rfl) (by decide) (by decide) q3 (fun h4 z5 => ?_)
  refine z_ldcS C 17 rfl dL_text_7 ?_
  refine z_chk (fun q6 => ?_)
  refine z_cVr C zc_L_17 [.ref (ro 17)] (fun l D tc b0 r h => m_J4_append_15ec4 l D tc ro b0 h) dL_text_9 rfl rfl (Nat.le_of_ble_eq_true rfl) (by decide) (by decide) q6 (fun r9 h7 z8 => ?_)
  refine z_aload_n C dL_text_12 0 rfl ?_
  refine z_iconst C dL_text_13 zi_0 ?_
  refine z_callSp C zs_L_76 [.ref a0, .int (0 : Int32)] (fun l D tc b0 r h => m_L_setting l D tc ro b0 h) dL_text_14 rfl rfl (Nat.le_of_ble_eq_true rfl) (by decide) (by decide) q6 (fun v10 => ?_)
  refine z_chk (fun q11 => ?_)
  refine z_cVr C zc_L_79 [.int v10] (fun l D tc b0 r h => m_J4_append_bf812 l D tc ro b0 h) dL_text_17 rfl rfl (Nat.le_of_ble_eq_true rfl) (by decide) (by decide) q11 (fun r14 h12 z13 => ?_)
  refine z_ldcS C 18 rfl dL_text_20 ?_
  refine z_chk (fun q15 => ?_)
  refine z_cVr C zc_L_17 [.ref (ro 18)] (fun l D tc b0 r h => m_J4_append_15ec4 l D tc ro b0 h) dL_text_22 rfl rfl (Nat.le_of_ble_eq_true rfl) (by decide) (by decide) q15 (fun r18 h16 z17 => ?_)
  refine z_aload_n C dL_text_25 0 rfl ?_
  refine z_iconst C dL_text_26 zi_1 ?_
  refine z_callSp C zs_L_76 [.ref a0, .int (1 : Int32)] (fun l D tc b0 r h => m_L_setting l D tc ro b0 h) dL_text_27 rfl rfl (Nat.le_of_ble_eq_true rfl) (by decide) (by decide) q15 (fun v19 => ?_)
  refine z_chk (fun q20 => ?_)
  refine z_cVr C zc_L_79 [.int v19] (fun l D tc b0 r h => m_J4_append_bf812 l D tc ro b0 h) dL_text_30 rfl rfl (Nat.le_of_ble_eq_true rfl) (by decide) (by decide) q20 (fun r23 h21 z22 => ?_)
  refine z_ldcS C 19 rfl dL_text_33 ?_
  refine z_chk (fun q24 => ?_)
  refine z_cVr C zc_L_17 [.ref (ro 19)] (fun l D tc b0 r h => m_J4_append_15ec4 l D tc ro b0 h) dL_text_35 rfl rfl (Nat.le_of_ble_eq_true rfl) (by decide) (by decide) q24 (fun r27 h25 z26 => ?_)
  refine z_chk (fun q28 => ?_)
  refine z_cVr C zc_L_23 [] (fun l D tc b0 r h => m_J4_toString_0e30d l D tc ro b0 h) dL_text_38 rfl rfl (Nat.le_of_ble_eq_true rfl) (by decide) (by decide) q28 (fun r31 h29 z30 => ?_)
  refine z_astore_n (lv' := [(0, .ref a0), (1, .ref r31)]) C dL_text_41 (by decide) rfl ?_
  refine z_iconst C dL_text_42 zi_0 ?_
  refine z_istore_n (lv' := [(0, .ref a0), (1, .ref r31), (2, .int (0 : Int32))]) C dL_text_43 (by decide) rfl ?_
  refine wl_L_text_44 C (fun p64 h65 z66 c67 u68 => ?_) _ _ _ _ _ _ _
  refine z_iconst C dL_text_91 zi_0 ?_
  refine z_istore_n (lv' := [(0, .ref a0), (1, .ref p64), (2, .int (0 : Int32))]) C dL_text_92 (by decide) rfl ?_
  refine wl_L_text_93 C (fun p128 h129 z130 c131 u132 => ?_) _ _ _ _ _ _ _
  refine z_iconst C dL_text_183 zi_0 ?_
  refine z_istore_n (lv' := [(0, .ref a0), (1, .ref p128), (2, .int (0 : Int32))]) C dL_text_184 (by decide) rfl ?_
  refine wl_L_text_185 C (fun p178 h179 z180 c181 u182 => ?_) _ _ _ _ _ _ _
  refine z_iconst C dL_text_249 zi_0 ?_
  refine z_istore_n (lv' := [(0, .ref a0), (1, .ref p178), (2, .int (0 : Int32))]) C dL_text_250 (by decide) rfl ?_
  refine wl_L_text_251 C (fun p289 h290 z291 c292 u293 => ?_) _ _ _ _ _ _ _
  refine z_iconst C dL_text_401 zi_0 ?_
  refine z_istore_n (lv' := [(0, .ref a0), (1, .ref p289), (2, .int (0 : Int32))]) C dL_text_402 (by decide) rfl ?_
  refine wl_L_text_403 C (fun p323 h324 z325 c326 u327 => ?_) _ _ _ _ _ _ _
  refine z_aload_n C dL_text_450 0 rfl ?_
  refine z_chk (fun q328 => ?_)
  exact z_areturnA C (Or.inl ⟨_, rfl⟩) dL_text_451 q328
noncomputable def f_L_hall (ro : Nat → Nat) (mc ms : Nat) (a0 : Nat) (hp : zHp) (sz : Nat) : Option (Nat × zHp × Nat) :=
  zchk (0 + 1 ≤ mc ∧ 0 + 5 ≤ ms) <| zlet (zup hp sz (.inr (7, [.null, .null, .null, .null, .int 0]))) fun h2 => zchk ((0 + 1) + 636 ≤ mc ∧ (0 + 5) + 8121 ≤ ms) <| zb2 (f_X7_init 636 8121 sz h2 ((sz + 1))) fun h4 z5 => zchk (((0 + 1) + 636) + 6000 ≤ mc ∧ ((0 + 5) + 8121) + 800000 ≤ ms) <| zb3 (f_L_text ro 6000 800000 a0 h4 z5) fun r9 h7 z8 => zchk ((((0 + 1) + 636) + 6000) + 200 ≤ mc ∧ (((0 + 5) + 8121) + 800000) + 80000 ≤ ms) <| zb2 (f_L_put ro 200 80000 sz r9 h7 z8) fun h11 z12 => (f_J0_length_8abf5 r9 h11).bind fun v13 => zb2 (f_X7_load ro sz v13 h11) fun v14 h15 => (f_L_statements r9 h15).bind fun v16 => if v14 = v16 then (some (sz, h15, z12)) else none
set_option maxHeartbeats 4000000 in
set_option maxRecDepth 100000 in
theorem m_L_hall (l : Launch) (D : va_G) (tc : Nat → ClassId) (ro : Nat → Nat) (b0 : Nat) {mc ms : Nat} {a0 : Nat} {hp : zHp} {sz : Nat} {r : (Nat × zHp × Nat)} (h : f_L_hall ro mc ms a0 hp sz = some r) : zM l yL_hall cL_hall 3 (some (.object "CountHall")) 12 mc ms [.ref a0] D tc ro b0 hp sz (zoRA r).1 (zoRA r).2.1 (zoRA r).2.2 := by
  refine z_start (o := zoRA) (lv := [(0, .ref a0)]) h (by decide +kernel) RL rfl rfl (Nat.le_of_ble_eq_true rfl) (fun P C => ?_)
  unfold f_L_hall
  refine z_chk (fun q1 => ?_)
  refine z_new C za_L_32 dL_hall_0 q1 (fun h2 => ?_)
  refine z_dup C dL_hall_3 rfl ?_
  refine z_chk (fun q3 => ?_)
  refine z_callI C (Or.inl zci_L_126) [] (fun l D tc b0 r h => m_X7_init l D tc ro b0 h) dL_hall_4 rfl rfl (Nat.le_of_ble_eq_true rfl) (by decide) (by decide) q3 (fun h4 z5 => ?_)
  refine z_astore_n (lv' := [(0, .ref a0), (1, .ref sz)]) C dL_hall_7 (by decide) rfl ?_
  refine z_aload_n C dL_hall_8 0 rfl ?_
  refine z_chk (fun q6 => ?_)
  refine z_cSr C zs_L_127 [.ref a0] (fun l D tc b0 r h => m_L_text l D tc ro b0 h) dL_hall_9 rfl rfl (Nat.le_of_ble_eq_true rfl) (by decide) (by decide) q6 (fun r9 h7 z8 => ?_)
  refine z_astore_n (lv' := [(0, .ref a0), (1, .ref sz), (2, .ref r9)]) C dL_hall_12 (by decide) rfl ?_
  refine z_aload_n C dL_hall_13 1 rfl ?_
  refine z_aload_n C dL_hall_14 2 rfl ?_
  refine z_chk (fun q10 => ?_)
  refine z_cSv C zs_L_131 [.ref sz, .ref r9] (fun l D tc b0 r h => m_L_put l D tc ro b0 h) dL_hall_15 rfl rfl (Nat.le_of_ble_eq_true rfl) (by decide) (by decide) q10 (fun h11 z12 => ?_)
  refine z_aload_n C dL_hall_18 1 rfl ?_
  refine z_aload_n C dL_hall_19 2 rfl ?_
  refine z_callVp C zc_L_8 [] (fun l D tc b0 r h => m_J0_length_8abf5 l D tc ro b0 h) dL_hall_20 rfl rfl (Nat.le_of_ble_eq_true rfl) (by decide) (by decide) q10 (fun v13 => ?_)
  refine z_callVi C zc_L_135 [.int v13] (fun l D tc b0 r h => m_X7_load l D tc ro b0 h) dL_hall_23 rfl rfl (Nat.le_of_ble_eq_true rfl) (by decide) (by decide) q10 (fun v14 h15 => ?_)
  refine z_aload_n C dL_hall_26 2 rfl ?_
  refine z_callSp C zs_L_139 [.ref r9] (fun l D tc b0 r h => m_L_statements l D tc ro b0 h) dL_hall_27 rfl rfl (Nat.le_of_ble_eq_true rfl) (by decide) (by decide) q10 (fun v16 => ?_)
  refine z_icmp_ne C 37 dL_hall_30 (by decide) ?_ ?_
  · refine z_aload_n C dL_hall_33 1 rfl ?_
    refine z_goto C 38 dL_hall_34 (by decide) ?_
    exact z_areturnA C (Or.inl ⟨_, rfl⟩) dL_hall_38 q10
  exact z_none
noncomputable def j_L_changes_96 (a0 : Nat) (x2 : Int32) (h : zHp) : Option zHp :=
  zb2 (f_X7_bring a0 x2 h) fun v8 h9 => some h9
set_option maxHeartbeats 4000000 in
set_option maxRecDepth 100000 in
theorem wj_L_changes_96 {P : zX} {ro : Nat → Nat} {sz : Nat} (C : zC P cL_changes RL none 9 0 0 4 ro) {a0 : Nat} {x2 : Int32} {h : zHp}  : zG P (zoV sz) (j_L_changes_96 a0 x2 h) 96 [(0, .ref a0), (2, .int x2)] [] h sz 0 0 := by
  unfold j_L_changes_96
  refine z_aload_n C dL_changes_96 0 rfl ?_
  refine z_iload_n C dL_changes_97 1 rfl ?_
  refine z_callVi C zc_L_146 [.int x2] (fun l D tc b0 r h => m_X7_bring l D tc ro b0 h) dL_changes_98 rfl rfl (Nat.le_of_ble_eq_true rfl) (by decide) (by decide) ⟨Nat.le_of_ble_eq_true rfl, Nat.le_of_ble_eq_true rfl⟩ (fun v8 h9 => ?_)
  refine z_pop C dL_changes_101 rfl ?_
  refine z_goto C 235 dL_changes_102 (by decide) ?_
  exact z_return C dL_changes_235
noncomputable def j_L_changes_105 (a0 : Nat) (x2 : Int32) (x3 : Int32) (h : zHp) : Option zHp :=
  zb2 (f_X7_open a0 x2 x3 h) fun v13 h14 => some h14
set_option maxHeartbeats 4000000 in
set_option maxRecDepth 100000 in
theorem wj_L_changes_105 {P : zX} {ro : Nat → Nat} {sz : Nat} (C : zC P cL_changes RL none 9 0 0 4 ro) {a0 : Nat} {x2 : Int32} {x3 : Int32} {h : zHp}  : zG P (zoV sz) (j_L_changes_105 a0 x2 x3 h) 105 [(0, .ref a0), (2, .int x2), (3, .int x3)] [] h sz 0 0 := by
  unfold j_L_changes_105
  refine z_aload_n C dL_changes_105 0 rfl ?_
  refine z_iload_n C dL_changes_106 1 rfl ?_
  refine z_iload_n C dL_changes_107 2 rfl ?_
  refine z_callVi C zc_L_149 [.int x2, .int x3] (fun l D tc b0 r h => m_X7_open l D tc ro b0 h) dL_changes_108 rfl rfl (Nat.le_of_ble_eq_true rfl) (by decide) (by decide) ⟨Nat.le_of_ble_eq_true rfl, Nat.le_of_ble_eq_true rfl⟩ (fun v13 h14 => ?_)
  refine z_pop C dL_changes_111 rfl ?_
  refine z_goto C 235 dL_changes_112 (by decide) ?_
  exact z_return C dL_changes_235
noncomputable def j_L_changes_115 (a0 : Nat) (x3 : Int32) (h : zHp) : Option zHp :=
  zb2 (f_X7_countBox a0 x3 h) fun v17 h18 => some h18
set_option maxHeartbeats 4000000 in
set_option maxRecDepth 100000 in
theorem wj_L_changes_115 {P : zX} {ro : Nat → Nat} {sz : Nat} (C : zC P cL_changes RL none 9 0 0 4 ro) {a0 : Nat} {x3 : Int32} {h : zHp}  : zG P (zoV sz) (j_L_changes_115 a0 x3 h) 115 [(0, .ref a0), (3, .int x3)] [] h sz 0 0 := by
  unfold j_L_changes_115
  refine z_aload_n C dL_changes_115 0 rfl ?_
  refine z_iload_n C dL_changes_116 1 rfl ?_
  refine z_callVi C zc_L_152 [.int x3] (fun l D tc b0 r h => m_X7_countBox l D tc ro b0 h) dL_changes_117 rfl rfl (Nat.le_of_ble_eq_true rfl) (by decide) (by decide) ⟨Nat.le_of_ble_eq_true rfl, Nat.le_of_ble_eq_true rfl⟩ (fun v17 h18 => ?_)
  refine z_pop C dL_changes_120 rfl ?_
  refine z_goto C 235 dL_changes_121 (by decide) ?_
  exact z_return C dL_changes_235
noncomputable def f_L_changes (a0 : Nat) (x1 : Int32) (hp : zHp) : Option zHp :=
  (zdiv x1 (16 : Int32)).bind fun v1 => (f_X7_count a0 (3 : Int32) hp).bind fun v2 => (f_L_in v1 v2 hp).bind fun v3 => (zdiv x1 (256 : Int32)).bind fun v4 => (f_X7_count a0 (4 : Int32) hp).bind fun v5 => (f_L_in v4 v5 hp).bind fun v6 => (f_L_in x1 (16 : Int32) hp).bind fun v7 => if v7 = (0 : Int32) then (j_L_changes_96 a0 v3 hp) else if v7 = (1 : Int32) then (j_L_changes_96 a0 v3 hp) else if v7 = (2 : Int32) then (j_L_changes_96 a0 v3 hp) else if v7 = (3 : Int32) then (j_L_changes_105 a0 v3 v6 hp) else if v7 = (4 : Int32) then (j_L_changes_105 a0 v3 v6 hp) else if v7 = (5 : Int32) then (j_L_changes_115 a0 v6 hp) else if v7 = (6 : Int32) then (j_L_changes_115 a0 v6 hp) else if v7 = (7 : Int32) then (zb2 (f_X7_seal a0 v6 hp) fun v21 h22 => some h22) else if v7 = (8 : Int32) then ((zdiv x1 (256 : Int32)).bind fun v24 => (f_L_in v24 (2 : Int32) hp).bind fun v25 => if v25 = 0 then ((zdiv x1 (1024 : Int32)).bind fun v26 => (f_L_in v26 (900 : Int32) hp).bind fun v27 => zb2 (f_X7_tamper a0 v3 ((1 : Int32) + v27) hp) fun v28 h29 => some h29) else some hp) else if v7 = (9 : Int32) then (zb2 (f_X7_accept a0 v3 hp) fun v31 h32 => some h32) else if v7 = (10 : Int32) then (zb2 (f_X7_declare a0 hp) fun v34 h35 => some h35) else if v7 = (11 : Int32) then ((zdiv x1 (16 : Int32)).bind fun v37 => (f_L_in v37 (2 : Int32) hp).bind fun v38 => if v38 = 0 then ((zdiv x1 (64 : Int32)).bind fun v43 => (f_L_in v43 (51 : Int32) hp).bind fun v44 => zb2 (f_X7_setSetting a0 (0 : Int32) v44 hp) fun v45 h46 => some h46) else (zdiv x1 (64 : Int32)).bind fun v39 => (f_L_in v39 (5 : Int32) hp).bind fun v40 => zb2 (f_X7_setSetting a0 (1 : Int32) v40 hp) fun v41 h42 => some h42) else zb2 (f_X7_work a0 hp) fun v48 h49 => some h49
set_option maxHeartbeats 4000000 in
set_option maxRecDepth 100000 in
theorem m_L_changes (l : Launch) (D : va_G) (tc : Nat → ClassId) (ro : Nat → Nat) (b0 : Nat) {a0 : Nat} {x1 : Int32} {hp : zHp} {sz : Nat} {r : zHp} (h : f_L_changes a0 x1 hp = some r) : zM l yL_changes cL_changes 4 none 9 0 0 [.ref a0, .int x1] D tc ro b0 hp sz ((zoV sz) r).1 ((zoV sz) r).2.1 ((zoV sz) r).2.2 := by
  refine z_start (o := (zoV sz)) (lv := [(0, .ref a0), (1, .int x1)]) h (by decide +kernel) RL rfl rfl (Nat.le_of_ble_eq_true rfl) (fun P C => ?_)
  unfold f_L_changes
  refine z_iload_n C dL_changes_0 1 rfl ?_
  refine z_bipush C dL_changes_1 zbi_16 ?_
  refine z_idiv C dL_changes_3 (fun v1 => ?_)
  refine z_aload_n C dL_changes_4 0 rfl ?_
  refine z_iconst C dL_changes_5 zi_3 ?_
  refine z_callVp C zc_L_143 [.int (3 : Int32)] (fun l D tc b0 r h => m_X7_count l D tc ro b0 h) dL_changes_6 rfl rfl (Nat.le_of_ble_eq_true rfl) (by decide) (by decide) ⟨Nat.le_of_ble_eq_true rfl, Nat.le_of_ble_eq_true rfl⟩ (fun v2 => ?_)
  refine z_callSp C zs_L_43 [.int v1, .int v2] (fun l D tc b0 r h => m_L_in l D tc ro b0 h) dL_changes_9 rfl rfl (Nat.le_of_ble_eq_true rfl) (by decide) (by decide) ⟨Nat.le_of_ble_eq_true rfl, Nat.le_of_ble_eq_true rfl⟩ (fun v3 => ?_)
  refine z_istore_n (lv' := [(0, .ref a0), (1, .int x1), (2, .int v3)]) C dL_changes_12 (by decide) rfl ?_
  refine z_iload_n C dL_changes_13 1 rfl ?_
  refine z_sipush C dL_changes_14 zsi_256 ?_
  refine z_idiv C dL_changes_17 (fun v4 => ?_)
  refine z_aload_n C dL_changes_18 0 rfl ?_
  refine z_iconst C dL_changes_19 zi_4 ?_
  refine z_callVp C zc_L_143 [.int (4 : Int32)] (fun l D tc b0 r h => m_X7_count l D tc ro b0 h) dL_changes_20 rfl rfl (Nat.le_of_ble_eq_true rfl) (by decide) (by decide) ⟨Nat.le_of_ble_eq_true rfl, Nat.le_of_ble_eq_true rfl⟩ (fun v5 => ?_)
  refine z_callSp C zs_L_43 [.int v4, .int v5] (fun l D tc b0 r h => m_L_in l D tc ro b0 h) dL_changes_23 rfl rfl (Nat.le_of_ble_eq_true rfl) (by decide) (by decide) ⟨Nat.le_of_ble_eq_true rfl, Nat.le_of_ble_eq_true rfl⟩ (fun v6 => ?_)
  refine z_istore_n (lv' := [(0, .ref a0), (1, .int x1), (2, .int v3), (3, .int v6)]) C dL_changes_26 (by decide) rfl ?_
  refine z_iload_n C dL_changes_27 1 rfl ?_
  refine z_bipush C dL_changes_28 zbi_16 ?_
  refine z_callSp C zs_L_43 [.int x1, .int (16 : Int32)] (fun l D tc b0 r h => m_L_in l D tc ro b0 h) dL_changes_30 rfl rfl (Nat.le_of_ble_eq_true rfl) (by decide) (by decide) ⟨Nat.le_of_ble_eq_true rfl, Nat.le_of_ble_eq_true rfl⟩ (fun v7 => ?_)
  refine z_case (off := 63) C (0 : Int32) 96 dL_changes_33 (by decide) (by decide) (by decide) (by decide) ?_ (fun n10 => ?_)
  · exact z_sub [0, 2] rfl (wj_L_changes_96 C)
  refine z_case (off := 63) C (1 : Int32) 96 dL_changes_33 (by decide) (by decide) (by decide) (by decide) ?_ (fun n11 => ?_)
  · exact z_sub [0, 2] rfl (wj_L_changes_96 C)
  refine z_case (off := 63) C (2 : Int32) 96 dL_changes_33 (by decide) (by decide) (by decide) (by decide) ?_ (fun n12 => ?_)
  · exact z_sub [0, 2] rfl (wj_L_changes_96 C)
  refine z_case (off := 72) C (3 : Int32) 105 dL_changes_33 (by decide) (by decide) (by decide) (by decide) ?_ (fun n15 => ?_)
  · exact z_sub [0, 2, 3] rfl (wj_L_changes_105 C)
  refine z_case (off := 72) C (4 : Int32) 105 dL_changes_33 (by decide) (by decide) (by decide) (by decide) ?_ (fun n16 => ?_)
  · exact z_sub [0, 2, 3] rfl (wj_L_changes_105 C)
  refine z_case (off := 82) C (5 : Int32) 115 dL_changes_33 (by decide) (by decide) (by decide) (by decide) ?_ (fun n19 => ?_)
  · exact z_sub [0, 3] rfl (wj_L_changes_115 C)
  refine z_case (off := 82) C (6 : Int32) 115 dL_changes_33 (by decide) (by decide) (by decide) (by decide) ?_ (fun n20 => ?_)
  · exact z_sub [0, 3] rfl (wj_L_changes_115 C)
  refine z_case (off := 91) C (7 : Int32) 124 dL_changes_33 (by decide) (by decide) (by decide) (by decide) ?_ (fun n23 => ?_)
  · refine z_aload_n C dL_changes_124 0 rfl ?_
    refine z_iload_n C dL_changes_125 3 rfl ?_
    refine z_callVi C zc_L_155 [.int v6] (fun l D tc b0 r h => m_X7_seal l D tc ro b0 h) dL_changes_126 rfl rfl (Nat.le_of_ble_eq_true rfl) (by decide) (by decide) ⟨Nat.le_of_ble_eq_true rfl, Nat.le_of_ble_eq_true rfl⟩ (fun v21 h22 => ?_)
    refine z_pop C dL_changes_129 rfl ?_
    refine z_goto C 235 dL_changes_130 (by decide) ?_
    exact z_return C dL_changes_235
  refine z_case (off := 100) C (8 : Int32) 133 dL_changes_33 (by decide) (by decide) (by decide) (by decide) ?_ (fun n30 => ?_)
  · refine z_iload_n C dL_changes_133 1 rfl ?_
    refine z_sipush C dL_changes_134 zsi_256 ?_
    refine z_idiv C dL_changes_137 (fun v24 => ?_)
    refine z_iconst C dL_changes_138 zi_2 ?_
    refine z_callSp C zs_L_43 [.int v24, .int (2 : Int32)] (fun l D tc b0 r h => m_L_in l D tc ro b0 h) dL_changes_139 rfl rfl (Nat.le_of_ble_eq_true rfl) (by decide) (by decide) ⟨Nat.le_of_ble_eq_true rfl, Nat.le_of_ble_eq_true rfl⟩ (fun v25 => ?_)
    refine z_if_ne C 235 dL_changes_142 (by decide) ?_ ?_
    · refine z_aload_n C dL_changes_145 0 rfl ?_
      refine z_iload_n C dL_changes_146 2 rfl ?_
      refine z_iconst C dL_changes_147 zi_1 ?_
      refine z_iload_n C dL_changes_148 1 rfl ?_
      refine z_sipush C dL_changes_149 zsi_1024 ?_
      refine z_idiv C dL_changes_152 (fun v26 => ?_)
      refine z_sipush C dL_changes_153 zsi_900 ?_
      refine z_callSp C zs_L_43 [.int v26, .int (900 : Int32)] (fun l D tc b0 r h => m_L_in l D tc ro b0 h) dL_changes_156 rfl rfl (Nat.le_of_ble_eq_true rfl) (by decide) (by decide) ⟨Nat.le_of_ble_eq_true rfl, Nat.le_of_ble_eq_true rfl⟩ (fun v27 => ?_)
      refine z_iadd C dL_changes_159 ?_
      refine z_callVi C zc_L_157 [.int v3, .int ((1 : Int32) + v27)] (fun l D tc b0 r h => m_X7_tamper l D tc ro b0 h) dL_changes_160 rfl rfl (Nat.le_of_ble_eq_true rfl) (by decide) (by decide) ⟨Nat.le_of_ble_eq_true rfl, Nat.le_of_ble_eq_true rfl⟩ (fun v28 h29 => ?_)
      refine z_pop C dL_changes_163 rfl ?_
      refine z_goto C 235 dL_changes_164 (by decide) ?_
      exact z_return C dL_changes_235
    exact z_return C dL_changes_235
  refine z_case (off := 134) C (9 : Int32) 167 dL_changes_33 (by decide) (by decide) (by decide) (by decide) ?_ (fun n33 => ?_)
  · refine z_aload_n C dL_changes_167 0 rfl ?_
    refine z_iload_n C dL_changes_168 2 rfl ?_
    refine z_callVi C zc_L_160 [.int v3] (fun l D tc b0 r h => m_X7_accept l D tc ro b0 h) dL_changes_169 rfl rfl (Nat.le_of_ble_eq_true rfl) (by decide) (by decide) ⟨Nat.le_of_ble_eq_true rfl, Nat.le_of_ble_eq_true rfl⟩ (fun v31 h32 => ?_)
    refine z_pop C dL_changes_172 rfl ?_
    refine z_goto C 235 dL_changes_173 (by decide) ?_
    exact z_return C dL_changes_235
  refine z_case (off := 143) C (10 : Int32) 176 dL_changes_33 (by decide) (by decide) (by decide) (by decide) ?_ (fun n36 => ?_)
  · refine z_aload_n C dL_changes_176 0 rfl ?_
    refine z_callVi C zc_L_163 [] (fun l D tc b0 r h => m_X7_declare l D tc ro b0 h) dL_changes_177 rfl rfl (Nat.le_of_ble_eq_true rfl) (by decide) (by decide) ⟨Nat.le_of_ble_eq_true rfl, Nat.le_of_ble_eq_true rfl⟩ (fun v34 h35 => ?_)
    refine z_pop C dL_changes_180 rfl ?_
    refine z_goto C 235 dL_changes_181 (by decide) ?_
    exact z_return C dL_changes_235
  refine z_case (off := 151) C (11 : Int32) 184 dL_changes_33 (by decide) (by decide) (by decide) (by decide) ?_ (fun n47 => ?_)
  · refine z_iload_n C dL_changes_184 1 rfl ?_
    refine z_bipush C dL_changes_185 zbi_16 ?_
    refine z_idiv C dL_changes_187 (fun v37 => ?_)
    refine z_iconst C dL_changes_188 zi_2 ?_
    refine z_callSp C zs_L_43 [.int v37, .int (2 : Int32)] (fun l D tc b0 r h => m_L_in l D tc ro b0 h) dL_changes_189 rfl rfl (Nat.le_of_ble_eq_true rfl) (by decide) (by decide) ⟨Nat.le_of_ble_eq_true rfl, Nat.le_of_ble_eq_true rfl⟩ (fun v38 => ?_)
    refine z_if_ne C 213 dL_changes_192 (by decide) ?_ ?_
    · refine z_aload_n C dL_changes_195 0 rfl ?_
      refine z_iconst C dL_changes_196 zi_0 ?_
      refine z_iload_n C dL_changes_197 1 rfl ?_
      refine z_bipush C dL_changes_198 zbi_64 ?_
      refine z_idiv C dL_changes_200 (fun v43 => ?_)
      refine z_bipush C dL_changes_201 zbi_51 ?_
      refine z_callSp C zs_L_43 [.int v43, .int (51 : Int32)] (fun l D tc b0 r h => m_L_in l D tc ro b0 h) dL_changes_203 rfl rfl (Nat.le_of_ble_eq_true rfl) (by decide) (by decide) ⟨Nat.le_of_ble_eq_true rfl, Nat.le_of_ble_eq_true rfl⟩ (fun v44 => ?_)
      refine z_callVi C zc_L_166 [.int (0 : Int32), .int v44] (fun l D tc b0 r h => m_X7_setSetting l D tc ro b0 h) dL_changes_206 rfl rfl (Nat.le_of_ble_eq_true rfl) (by decide) (by decide) ⟨Nat.le_of_ble_eq_true rfl, Nat.le_of_ble_eq_true rfl⟩ (fun v45 h46 => ?_)
      refine z_pop C dL_changes_209 rfl ?_
      refine z_goto C 235 dL_changes_210 (by decide) ?_
      exact z_return C dL_changes_235
    refine z_aload_n C dL_changes_213 0 rfl ?_
    refine z_iconst C dL_changes_214 zi_1 ?_
    refine z_iload_n C dL_changes_215 1 rfl ?_
    refine z_bipush C dL_changes_216 zbi_64 ?_
    refine z_idiv C dL_changes_218 (fun v39 => ?_)
    refine z_iconst C dL_changes_219 zi_5 ?_
    refine z_callSp C zs_L_43 [.int v39, .int (5 : Int32)] (fun l D tc b0 r h => m_L_in l D tc ro b0 h) dL_changes_220 rfl rfl (Nat.le_of_ble_eq_true rfl) (by decide) (by decide) ⟨Nat.le_of_ble_eq_true rfl, Nat.le_of_ble_eq_true rfl⟩ (fun v40 => ?_)
    refine z_callVi C zc_L_166 [.int (1 : Int32), .int v40] (fun l D tc b0 r h => m_X7_setSetting l D tc ro b0 h) dL_changes_223 rfl rfl (Nat.le_of_ble_eq_true rfl) (by decide) (by decide) ⟨Nat.le_of_ble_eq_true rfl, Nat.le_of_ble_eq_true rfl⟩ (fun v41 h42 => ?_)
    refine z_pop C dL_changes_226 rfl ?_
    refine z_goto C 235 dL_changes_227 (by decide) ?_
    exact z_return C dL_changes_235
  refine z_dflt C 230 dL_changes_33 (by have t0 := lv_neT n10 (show (0 : Int32).toInt = 0 by decide); have t1 := lv_neT n11 (show (1 : Int32).toInt = 1 by decide); have t2 := lv_neT n12 (show (2 : Int32).toInt = 2 by decide); have t3 := lv_neT n15 (show (3 : Int32).toInt = 3 by decide); have t4 := lv_neT n16 (show (4 : Int32).toInt = 4 by decide); have t5 := lv_neT n19 (show (5 : Int32).toInt = 5 by decide); have t6 := lv_neT n20 (show (6 : Int32).toInt = 6 by decide); have t7 := lv_neT n23 (show (7 : Int32).toInt = 7 by decide); have t8 := lv_neT n30 (show (8 : Int32).toInt = 8 by decide); have t9 := lv_neT n33 (show (9 : Int32).toInt = 9 by decide); have t10 := lv_neT n36 (show (10 : Int32).toInt = 10 by decide); have t11 := lv_neT n47 (show (11 : Int32).toInt = 11 by decide); omega) (by decide) ?_
  refine z_aload_n C dL_changes_230 0 rfl ?_
  refine z_callVi C zc_L_169 [] (fun l D tc b0 r h => m_X7_work l D tc ro b0 h) dL_changes_231 rfl rfl (Nat.le_of_ble_eq_true rfl) (by decide) (by decide) ⟨Nat.le_of_ble_eq_true rfl, Nat.le_of_ble_eq_true rfl⟩ (fun v48 h49 => ?_)
  refine z_pop C dL_changes_234 rfl ?_
  exact z_return C dL_changes_235
noncomputable def j_L_slipped_76 (mc ms : Nat) (k87 : Int32 → zHp → Nat → Nat → Nat → Option (Nat × zHp × Nat)) (rec : Int32 → Int32 → zHp → Nat → Nat → Nat → Option (Nat × zHp × Nat)) (a0 : Nat) (x2 : Int32) (x3 : Int32) (a4 : Nat) (x5 : Int32) (x6 : Int32) (x7 : Int32) (x8 : Int32) (s0 : Nat) (s1 : Int32) (h : zHp) (sz : Nat) (uc : Nat) (us : Nat) : Option (Nat × zHp × Nat) :=
  (zaI h 0 s0 s1).bind fun v9 => (zsI h s0 s1 (v9 + (1 : Int32))).bind fun h10 => zlet (x8 + (1 : Int32)) fun v11 => rec x6 v11 h10 sz uc us
set_option maxHeartbeats 4000000 in
set_option maxRecDepth 100000 in
theorem wj_L_slipped_76 {P : zX} {ro : Nat → Nat} {mc ms : Nat} (C : zC P cL_slipped RL (some (.array .int)) 4 mc ms 9 ro) {a0 : Nat} {x2 : Int32} {x3 : Int32} {a4 : Nat} {x5 : Int32} {x6 : Int32} {x7 : Int32} {x8 : Int32} {s0 : Nat} {s1 : Int32} {h : zHp} {sz : Nat} {uc : Nat} {us : Nat} {k87 : Int32 → zHp → Nat → Nat → Nat → Option (Nat × zHp × Nat)} (hk87 : ∀ (x6 : Int32) (h : zHp) (sz : Nat) (uc : Nat) (us : Nat), zG P zoRA (k87 x6 h sz uc us) 87 [(0, .ref a0), (2, .int x2), (3, .int x3), (4, .ref a4), (5, .int x5), (6, .int x6), (7, .int x7)] [] h sz uc us) {rec : Int32 → Int32 → zHp → Nat → Nat → Nat → Option (Nat × zHp × Nat)} (hrec : ∀ (x6 : Int32) (x8 : Int32) (h : zHp) (sz : Nat) (uc : Nat) (us : Nat), zG P zoRA (rec x6 x8 h sz uc us) 35 [(0, .ref a0), (2, .int x2), (3, .int x3), (4, .ref a4), (5, .int x5), (6, .int x6), (7, .int x7), (8, .int x8)] [] h sz uc us) : zG P zoRA (j_L_slipped_76 mc ms k87 rec a0 x2 x3 a4 x5 x6 x7 x8 s0 s1 h sz uc us) 76 [(0, .ref a0), (2, .int x2), (3, .int x3), (4, .ref a4), (5, .int x5), (6, .int x6), (7, .int x7), (8, .int x8)] [.int s1, .ref s0] h sz uc us := by
  unfold j_L_slipped_76
  refine z_dup2 C dL_slipped_76 rfl rfl ?_
  refine z_iaload C dL_slipped_77 (fun v9 => ?_)
  refine z_iconst C dL_slipped_78 zi_1 ?_
  refine z_iadd C dL_slipped_79 ?_
  refine z_iastore C dL_slipped_80 (fun h10 => ?_)
  refine z_iincL C 7 (fun v11 => [(0, .ref a0), (2, .int x2), (3, .int x3), (4, .ref a4), (5, .int x5), (6, .int x6), (7, .int x7), (8, .int v11)]) dL_slipped_81 rfl zi_1 (by decide) (fun _ => rfl) (fun v11 => ?_)
  refine z_goto C 35 dL_slipped_84 (by decide) ?_
  exact hrec _ _ _ _ _ _
noncomputable def j_L_slipped_74 (mc ms : Nat) (k87 : Int32 → zHp → Nat → Nat → Nat → Option (Nat × zHp × Nat)) (rec : Int32 → Int32 → zHp → Nat → Nat → Nat → Option (Nat × zHp × Nat)) (a0 : Nat) (x2 : Int32) (x3 : Int32) (a4 : Nat) (x5 : Int32) (x6 : Int32) (x7 : Int32) (x8 : Int32) (s0 : Nat) (h : zHp) (sz : Nat) (uc : Nat) (us : Nat) : Option (Nat × zHp × Nat) :=
  j_L_slipped_76 mc ms k87 rec a0 x2 x3 a4 x5 x6 x7 x8 s0 x7 h sz uc us
set_option maxHeartbeats 4000000 in
set_option maxRecDepth 100000 in
theorem wj_L_slipped_74 {P : zX} {ro : Nat → Nat} {mc ms : Nat} (C : zC P cL_slipped RL (some (.array .int)) 4 mc ms 9 ro) {a0 : Nat} {x2 : Int32} {x3 : Int32} {a4 : Nat} {x5 : Int32} {x6 : Int32} {x7 : Int32} {x8 : Int32} {s0 : Nat} {h : zHp} {sz : Nat} {uc : Nat} {us : Nat} {k87 : Int32 → zHp → Nat → Nat → Nat → Option (Nat × zHp × Nat)} (hk87 : ∀ (x6 : Int32) (h : zHp) (sz : Nat) (uc : Nat) (us : Nat), zG P zoRA (k87 x6 h sz uc us) 87 [(0, .ref a0), (2, .int x2), (3, .int x3), (4, .ref a4), (5, .int x5), (6, .int x6), (7, .int x7)] [] h sz uc us) {rec : Int32 → Int32 → zHp → Nat → Nat → Nat → Option (Nat × zHp × Nat)} (hrec : ∀ (x6 : Int32) (x8 : Int32) (h : zHp) (sz : Nat) (uc : Nat) (us : Nat), zG P zoRA (rec x6 x8 h sz uc us) 35 [(0, .ref a0), (2, .int x2), (3, .int x3), (4, .ref a4), (5, .int x5), (6, .int x6), (7, .int x7), (8, .int x8)] [] h sz uc us) : zG P zoRA (j_L_slipped_74 mc ms k87 rec a0 x2 x3 a4 x5 x6 x7 x8 s0 h sz uc us) 74 [(0, .ref a0), (2, .int x2), (3, .int x3), (4, .ref a4), (5, .int x5), (6, .int x6), (7, .int x7), (8, .int x8)] [.ref s0] h sz uc us := by
  unfold j_L_slipped_74
  refine z_iload C dL_slipped_74 6 rfl ?_
  exact wj_L_slipped_76 C hk87 hrec
noncomputable def b_L_slipped_35 (mc ms : Nat) (k87 : Int32 → zHp → Nat → Nat → Nat → Option (Nat × zHp × Nat)) (a0 : Nat) (x2 : Int32) (x3 : Int32) (a4 : Nat) (x5 : Int32) (x7 : Int32) (rec : Int32 → Int32 → zHp → Nat → Nat → Nat → Option (Nat × zHp × Nat)) (x6 : Int32) (x8 : Int32) (h : zHp) (sz : Nat) (uc : Nat) (us : Nat) : Option (Nat × zHp × Nat) :=
  zchk (uc ≤ mc ∧ us ≤ ms) <| (f_X7_papers a0 x2 x7 h).bind fun v7 => if x8 < v7 then (zlet (x6 + (1 : Int32)) fun v8 => if 0 < x5 then ((zrem v8 x5).bind fun v12 => if v12 = 0 then ((zrem (x7 + (1 : Int32)) x3).bind fun v13 => j_L_slipped_76 mc ms k87 rec a0 x2 x3 a4 x5 v8 x7 x8 a4 v13 h sz uc us) else j_L_slipped_74 mc ms k87 rec a0 x2 x3 a4 x5 v8 x7 x8 a4 h sz uc us) else j_L_slipped_74 mc ms k87 rec a0 x2 x3 a4 x5 v8 x7 x8 a4 h sz uc us) else k87 x6 h sz uc us
noncomputable def l_L_slipped_35 (mc ms : Nat) (k87 : Int32 → zHp → Nat → Nat → Nat → Option (Nat × zHp × Nat)) (a0 : Nat) (x2 : Int32) (x3 : Int32) (a4 : Nat) (x5 : Int32) (x7 : Int32) (n : Nat) : Int32 → Int32 → zHp → Nat → Nat → Nat → Option (Nat × zHp × Nat) :=
  Nat.rec (motive := fun _ => Int32 → Int32 → zHp → Nat → Nat → Nat → Option (Nat × zHp × Nat)) (fun _ _ _ _ _ _ => none) (fun _ rec => b_L_slipped_35 mc ms k87 a0 x2 x3 a4 x5 x7 rec) n
theorem l_L_slipped_35_s {mc ms : Nat} (k87 : Int32 → zHp → Nat → Nat → Nat → Option (Nat × zHp × Nat)) (a0 : Nat) (x2 : Int32) (x3 : Int32) (a4 : Nat) (x5 : Int32) (x7 : Int32) (n : Nat) (x6 : Int32) (x8 : Int32) (h : zHp) (sz : Nat) (uc : Nat) (us : Nat) : l_L_slipped_35 mc ms k87 a0 x2 x3 a4 x5 x7 (n + 1) x6 x8 h sz uc us = b_L_slipped_35 mc ms k87 a0 x2 x3 a4 x5 x7 (l_L_slipped_35 mc ms k87 a0 x2 x3 a4 x5 x7 n) x6 x8 h sz uc us := rfl
set_option maxHeartbeats 4000000 in
set_option maxRecDepth 100000 in
theorem wl_L_slipped_35 {P : zX} {ro : Nat → Nat} {mc ms : Nat} (C : zC P cL_slipped RL (some (.array .int)) 4 mc ms 9 ro) {a0 : Nat} {x2 : Int32} {x3 : Int32} {a4 : Nat} {x5 : Int32} {x7 : Int32} {k87 : Int32 → zHp → Nat → Nat → Nat → Option (Nat × zHp × Nat)} (hk87 : ∀ (x6 : Int32) (h : zHp) (sz : Nat) (uc : Nat) (us : Nat), zG P zoRA (k87 x6 h sz uc us) 87 [(0, .ref a0), (2, .int x2), (3, .int x3), (4, .ref a4), (5, .int x5), (6, .int x6), (7, .int x7)] [] h sz uc us) : ∀ (n : Nat) (x6 : Int32) (x8 : Int32) (h : zHp) (sz : Nat) (uc : Nat) (us : Nat), zG P zoRA (l_L_slipped_35 mc ms k87 a0 x2 x3 a4 x5 x7 n x6 x8 h sz uc us) 35 [(0, .ref a0), (2, .int x2), (3, .int x3), (4, .ref a4), (5, .int x5), (6, .int x6), (7, .int x7), (8, .int x8)] [] h sz uc us := by
  intro n
  induction n with
  | zero =>
    intro x6 x8 h sz uc us
    show zG P zoRA none _ _ _ _ _ _ _
    exact z_none
  | succ n ih =>
    intro x6 x8 h sz uc us
    show zG P zoRA (b_L_slipped_35 mc ms k87 a0 x2 x3 a4 x5 x7 (l_L_slipped_35 mc ms k87 a0 x2 x3 a4 x5 x7 n) x6 x8 h sz uc us) _ _ _ _ _ _ _
    unfold b_L_slipped_35
    refine z_iload C dL_slipped_35 7 rfl ?_
    refine z_aload_n C dL_slipped_37 0 rfl ?_
    refine z_iload_n C dL_slipped_38 1 rfl ?_
    refine z_iload C dL_slipped_39 6 rfl ?_
    refine z_chk (fun q6 => ?_)
    refine z_callVp C zc_L_175 [.int x2, .int x7] (fun l D tc b0 r h => m_X7_papers l D tc ro b0 h) dL_slipped_41 rfl rfl (Nat.le_of_ble_eq_true rfl) (by decide) (by decide) q6 (fun v7 => ?_)
    refine z_icmp_ge C 87 dL_slipped_44 (by decide) ?_ ?_
    · refine z_iincL C 5 (fun v8 => [(0, .ref a0), (2, .int x2), (3, .int x3), (4, .ref a4), (5, .int x5), (6, .int v8), (7, .int x7), (8, .int x8)]) dL_slipped_47 rfl zi_1 (by decide) (fun _ => rfl) (fun v8 => ?_)
      refine z_aload C dL_slipped_50 3 rfl ?_
      refine z_iload C dL_slipped_52 4 rfl ?_
      refine z_if_le C 74 dL_slipped_54 (by decide) ?_ ?_
      · refine z_iload C dL_slipped_57 5 rfl ?_
        refine z_iload C dL_slipped_59 4 rfl ?_
        refine z_irem C dL_slipped_61 (fun v12 => ?_)
        refine z_if_ne C 74 dL_slipped_62 (by decide) ?_ ?_
        · refine z_iload C dL_slipped_65 6 rfl ?_
          refine z_iconst C dL_slipped_67 zi_1 ?_
          refine z_iadd C dL_slipped_68 ?_
          refine z_iload_n C dL_slipped_69 2 rfl ?_
          refine z_irem C dL_slipped_70 (fun v13 => ?_)
          refine z_goto C 76 dL_slipped_71 (by decide) ?_
          exact wj_L_slipped_76 C hk87 ih
        exact wj_L_slipped_74 C hk87 ih
      exact wj_L_slipped_74 C hk87 ih
    exact z_sub [0, 1, 2, 3, 4, 5, 6] rfl (hk87 _ _ _ _ _)
noncomputable def b_L_slipped_26 (mc ms : Nat) (k93 : zHp → Nat → Nat → Nat → Option (Nat × zHp × Nat)) (a0 : Nat) (x2 : Int32) (x3 : Int32) (a4 : Nat) (x5 : Int32) (rec : Int32 → Int32 → zHp → Nat → Nat → Nat → Option (Nat × zHp × Nat)) (x6 : Int32) (x7 : Int32) (h : zHp) (sz : Nat) (uc : Nat) (us : Nat) : Option (Nat × zHp × Nat) :=
  if x7 < x3 then (l_L_slipped_35 mc ms (fun p14 h15 z16 c17 u18 => zlet (x7 + (1 : Int32)) fun v19 => rec p14 v19 h15 z16 c17 u18) a0 x2 x3 a4 x5 x7 1000000 x6 (0 : Int32) h sz uc us) else k93 h sz uc us
noncomputable def l_L_slipped_26 (mc ms : Nat) (k93 : zHp → Nat → Nat → Nat → Option (Nat × zHp × Nat)) (a0 : Nat) (x2 : Int32) (x3 : Int32) (a4 : Nat) (x5 : Int32) (n : Nat) : Int32 → Int32 → zHp → Nat → Nat → Nat → Option (Nat × zHp × Nat) :=
  Nat.rec (motive := fun _ => Int32 → Int32 → zHp → Nat → Nat → Nat → Option (Nat × zHp × Nat)) (fun _ _ _ _ _ _ => none) (fun _ rec => b_L_slipped_26 mc ms k93 a0 x2 x3 a4 x5 rec) n
theorem l_L_slipped_26_s {mc ms : Nat} (k93 : zHp → Nat → Nat → Nat → Option (Nat × zHp × Nat)) (a0 : Nat) (x2 : Int32) (x3 : Int32) (a4 : Nat) (x5 : Int32) (n : Nat) (x6 : Int32) (x7 : Int32) (h : zHp) (sz : Nat) (uc : Nat) (us : Nat) : l_L_slipped_26 mc ms k93 a0 x2 x3 a4 x5 (n + 1) x6 x7 h sz uc us = b_L_slipped_26 mc ms k93 a0 x2 x3 a4 x5 (l_L_slipped_26 mc ms k93 a0 x2 x3 a4 x5 n) x6 x7 h sz uc us := rfl
set_option maxHeartbeats 4000000 in
set_option maxRecDepth 100000 in
theorem wl_L_slipped_26 {P : zX} {ro : Nat → Nat} {mc ms : Nat} (C : zC P cL_slipped RL (some (.array .int)) 4 mc ms 9 ro) {a0 : Nat} {x2 : Int32} {x3 : Int32} {a4 : Nat} {x5 : Int32} {k93 : zHp → Nat → Nat → Nat → Option (Nat × zHp × Nat)} (hk93 : ∀ (h : zHp) (sz : Nat) (uc : Nat) (us : Nat), zG P zoRA (k93 h sz uc us) 93 [(4, .ref a4)] [] h sz uc us) : ∀ (n : Nat) (x6 : Int32) (x7 : Int32) (h : zHp) (sz : Nat) (uc : Nat) (us : Nat), zG P zoRA (l_L_slipped_26 mc ms k93 a0 x2 x3 a4 x5 n x6 x7 h sz uc us) 26 [(0, .ref a0), (2, .int x2), (3, .int x3), (4, .ref a4), (5, .int x5), (6, .int x6), (7, .int x7)] [] h sz uc us := by
  intro n
  induction n with
  | zero =>
    intro x6 x7 h sz uc us
    show zG P zoRA none _ _ _ _ _ _ _
    exact z_none
  | succ n ih =>
    intro x6 x7 h sz uc us
    show zG P zoRA (b_L_slipped_26 mc ms k93 a0 x2 x3 a4 x5 (l_L_slipped_26 mc ms k93 a0 x2 x3 a4 x5 n) x6 x7 h sz uc us) _ _ _ _ _ _ _
    unfold b_L_slipped_26
    refine z_iload C dL_slipped_26 6 rfl ?_
    refine z_iload_n C dL_slipped_28 2 rfl ?_
    refine z_icmp_ge C 93 dL_slipped_29 (by decide) ?_ ?_
    · refine z_iconst C dL_slipped_32 zi_0 ?_
      refine z_istore (lv' := [(0, .ref a0), (2, .int x2), (3, .int x3), (4, .ref a4), (5, .int x5), (6, .int x6), (7, .int x7), (8, .int (0 : Int32))]) C dL_slipped_33 (by decide) rfl ?_
      refine wl_L_slipped_35 C (fun p14 h15 z16 c17 u18 => ?_) _ _ _ _ _ _ _
      refine z_iincL C 6 (fun v19 => [(0, .ref a0), (2, .int x2), (3, .int x3), (4, .ref a4), (5, .int x5), (6, .int p14), (7, .int v19)]) dL_slipped_87 rfl zi_1 (by decide) (fun _ => rfl) (fun v19 => ?_)
      refine z_goto C 26 dL_slipped_90 (by decide) ?_
      exact ih _ _ _ _ _ _
    exact z_sub [3] rfl (hk93 _ _ _ _)
noncomputable def f_L_slipped (mc ms : Nat) (a0 : Nat) (x1 : Int32) (x2 : Int32) (hp : zHp) (sz : Nat) : Option (Nat × zHp × Nat) :=
  (f_X7_count a0 (0 : Int32) hp).bind fun v1 => zlet (v1 + (1 : Int32)) fun v2 => zchk (¬ v2 < 0 ∧ v2.toNatClampNeg ≤ 60000 ∧ 0 + 1 ≤ mc ∧ 0 + v2.toNatClampNeg ≤ ms) <| zlet (zup hp sz (.inl (0, v2.toNatClampNeg, .inl (fun _ => 0)))) fun h4 => (f_X7_slipOf a0 x1 h4).bind fun v5 => l_L_slipped_26 mc ms (fun h20 z21 c22 u23 => zchk (c22 ≤ mc ∧ u23 ≤ ms) <| some (sz, h20, z21)) a0 x2 v2 sz v5 1000000 (0 : Int32) (0 : Int32) h4 ((sz + 1)) ((0 + 1)) ((0 + v2.toNatClampNeg))
set_option maxHeartbeats 4000000 in
set_option maxRecDepth 100000 in
theorem m_L_slipped (l : Launch) (D : va_G) (tc : Nat → ClassId) (ro : Nat → Nat) (b0 : Nat) {mc ms : Nat} {a0 : Nat} {x1 : Int32} {x2 : Int32} {hp : zHp} {sz : Nat} {r : (Nat × zHp × Nat)} (h : f_L_slipped mc ms a0 x1 x2 hp sz = some r) : zM l yL_slipped cL_slipped 9 (some (.array .int)) 4 mc ms [.ref a0, .int x1, .int x2] D tc ro b0 hp sz (zoRA r).1 (zoRA r).2.1 (zoRA r).2.2 := by
  refine z_start (o := zoRA) (lv := [(0, .ref a0), (1, .int x1), (2, .int x2)]) h (by decide +kernel) RL rfl rfl (Nat.le_of_ble_eq_true rfl) (fun P C => ?_)
  unfold f_L_slipped
  refine z_aload_n C dL_slipped_0 0 rfl ?_
  refine z_iconst C dL_slipped_1 zi_0 ?_
  refine z_callVp C zc_L_143 [.int (0 : Int32)] (fun l D tc b0 r h => m_X7_count l D tc ro b0 h) dL_slipped_2 rfl rfl (Nat.le_of_ble_eq_true rfl) (by decide) (by decide) ⟨Nat.zero_le _, Nat.zero_le _⟩ (fun v1 => ?_)
  refine z_iconst C dL_slipped_5 zi_1 ?_
  refine z_iadd C dL_slipped_6 ?_
  refine z_istore_nL C (fun v2 => [(0, .ref a0), (1, .int x1), (2, .int x2), (3, .int v2)]) dL_slipped_7 (by decide) (fun _ => rfl) (fun v2 => ?_)
  refine z_iload_n C dL_slipped_8 3 rfl ?_
  refine z_chk (fun q3 => ?_)
  refine z_newarr (t := 0) (ty := .int) (A := .inl (fun _ => 0)) C rfl (fun _ => rfl) (by decide) (fun _ _ h => h) (fun _ _ => rfl) zar_int dL_slipped_9 (by decide) q3 (fun h4 => ?_)
  refine z_astore (lv' := [(0, .ref a0), (1, .int x1), (2, .int x2), (3, .int v2), (4, .ref sz)]) C dL_slipped_11 (by decide) rfl ?_
  refine z_aload_n C dL_slipped_13 0 rfl ?_
  refine z_iload_n C dL_slipped_14 1 rfl ?_
  refine z_callVp C zc_L_172 [.int x1] (fun l D tc b0 r h => m_X7_slipOf l D tc ro b0 h) dL_slipped_15 rfl rfl (Nat.le_of_ble_eq_true rfl) (by decide) (by decide) ⟨q3.2.2.1, q3.2.2.2⟩ (fun v5 => ?_)
  refine z_istore (lv' := [(0, .ref a0), (1, .int x1), (2, .int x2), (3, .int v2), (4, .ref sz), (5, .int v5)]) C dL_slipped_18 (by decide) rfl ?_
  refine z_iconst C dL_slipped_20 zi_0 ?_
  refine z_istore (lv' := [(0, .ref a0), (1, .int x1), (2, .int x2), (3, .int v2), (4, .ref sz), (5, .int v5), (6, .int (0 : Int32))]) C dL_slipped_21 (by decide) rfl ?_
  refine z_iconst C dL_slipped_23 zi_0 ?_
  refine z_istore (lv' := [(0, .ref a0), (1, .int x1), (2, .int x2), (3, .int v2), (4, .ref sz), (5, .int v5), (6, .int (0 : Int32)), (7, .int (0 : Int32))]) C dL_slipped_24 (by decide) rfl ?_
  refine z_sub [0, 2, 3, 4, 5, 6, 7] rfl (wl_L_slipped_26 C (fun h20 z21 c22 u23 => ?_) _ _ _ _ _ _ _)
  refine z_aload C dL_slipped_93 0 rfl ?_
  refine z_chk (fun q24 => ?_)
  exact z_areturnA C (Or.inr ⟨_, rfl⟩) dL_slipped_95 q24
noncomputable def j_L_valid_86 (k95 : Int32 → Option Int32) (rec : Int32 → Int32 → Option Int32) (a0 : Nat) (x1 : Int32) (x2 : Int32) (x3 : Int32) (x4 : Int32) (x6 : Int32) (s0 : Int32) (s1 : Int32) (hp : zHp) : Option Int32 :=
  zlet (s0 &&& s1) fun v7 => zlet (x6 + (1 : Int32)) fun v8 => rec v7 v8
set_option maxHeartbeats 4000000 in
set_option maxRecDepth 100000 in
theorem wj_L_valid_86 {P : zX} {ro : Nat → Nat} {sz : Nat} (C : zC P cL_valid RL (some .int) 4 0 0 7 ro) {a0 : Nat} {x1 : Int32} {x2 : Int32} {x3 : Int32} {x4 : Int32} {x6 : Int32} {s0 : Int32} {s1 : Int32} {hp : zHp} {k95 : Int32 → Option Int32} (hk95 : ∀ (x5 : Int32), zG P (zoP sz hp) (k95 x5) 95 [(0, .ref a0), (1, .int x1), (2, .int x2), (3, .int x3), (4, .int x4), (5, .int x5)] [] hp sz 0 0) {rec : Int32 → Int32 → Option Int32} (hrec : ∀ (x5 : Int32) (x6 : Int32), zG P (zoP sz hp) (rec x5 x6) 49 [(0, .ref a0), (1, .int x1), (2, .int x2), (3, .int x3), (4, .int x4), (5, .int x5), (6, .int x6)] [] hp sz 0 0) : zG P (zoP sz hp) (j_L_valid_86 k95 rec a0 x1 x2 x3 x4 x6 s0 s1 hp) 86 [(0, .ref a0), (1, .int x1), (2, .int x2), (3, .int x3), (4, .int x4), (6, .int x6)] [.int s1, .int s0] hp sz 0 0 := by
  unfold j_L_valid_86
  refine z_iand C dL_valid_86 ?_
  refine z_istoreL C (fun v7 => [(0, .ref a0), (1, .int x1), (2, .int x2), (3, .int x3), (4, .int x4), (5, .int v7), (6, .int x6)]) dL_valid_87 (by decide) (fun _ => rfl) (fun v7 => ?_)
  refine z_iincL C 6 (fun v8 => [(0, .ref a0), (1, .int x1), (2, .int x2), (3, .int x3), (4, .int x4), (5, .int v7), (6, .int v8)]) dL_valid_89 rfl zi_1 (by decide) (fun _ => rfl) (fun v8 => ?_)
  refine z_goto C 49 dL_valid_92 (by decide) ?_
  exact hrec _ _
noncomputable def b_L_valid_49 (k95 : Int32 → Option Int32) (a0 : Nat) (x1 : Int32) (x2 : Int32) (x3 : Int32) (x4 : Int32) (hp : zHp) (rec : Int32 → Int32 → Option Int32) (x5 : Int32) (x6 : Int32) : Option Int32 :=
  (f_X7_count a0 (0 : Int32) hp).bind fun v4 => if v4 < x6 then (k95 x5) else (f_X7_counted a0 x1 x3 x6 hp).bind fun v5 => (f_X7_counted a0 x1 x4 x6 hp).bind fun v6 => if v5 = v6 then (j_L_valid_86 k95 rec a0 x1 x2 x3 x4 x6 x5 (1 : Int32) hp) else j_L_valid_86 k95 rec a0 x1 x2 x3 x4 x6 x5 (0 : Int32) hp
noncomputable def l_L_valid_49 (k95 : Int32 → Option Int32) (a0 : Nat) (x1 : Int32) (x2 : Int32) (x3 : Int32) (x4 : Int32) (hp : zHp) (n : Nat) : Int32 → Int32 → Option Int32 :=
  Nat.rec (motive := fun _ => Int32 → Int32 → Option Int32) (fun _ _ => none) (fun _ rec => b_L_valid_49 k95 a0 x1 x2 x3 x4 hp rec) n
theorem l_L_valid_49_s (k95 : Int32 → Option Int32) (a0 : Nat) (x1 : Int32) (x2 : Int32) (x3 : Int32) (x4 : Int32) (hp : zHp) (n : Nat) (x5 : Int32) (x6 : Int32) : l_L_valid_49 k95 a0 x1 x2 x3 x4 hp (n + 1) x5 x6 = b_L_valid_49 k95 a0 x1 x2 x3 x4 hp (l_L_valid_49 k95 a0 x1 x2 x3 x4 hp n) x5 x6 := rfl
set_option maxHeartbeats 4000000 in
set_option maxRecDepth 100000 in
theorem wl_L_valid_49 {P : zX} {ro : Nat → Nat} {sz : Nat} (C : zC P cL_valid RL (some .int) 4 0 0 7 ro) {a0 : Nat} {x1 : Int32} {x2 : Int32} {x3 : Int32} {x4 : Int32} {hp : zHp} {k95 : Int32 → Option Int32} (hk95 : ∀ (x5 : Int32), zG P (zoP sz hp) (k95 x5) 95 [(0, .ref a0), (1, .int x1), (2, .int x2), (3, .int x3), (4, .int x4), (5, .int x5)] [] hp sz 0 0) : ∀ (n : Nat) (x5 : Int32) (x6 : Int32), zG P (zoP sz hp) (l_L_valid_49 k95 a0 x1 x2 x3 x4 hp n x5 x6) 49 [(0, .ref a0), (1, .int x1), (2, .int x2), (3, .int x3), (4, .int x4), (5, .int x5), (6, .int x6)] [] hp sz 0 0 := by
  intro n
  induction n with
  | zero =>
    intro x5 x6
    show zG P (zoP sz hp) none _ _ _ _ _ _ _
    exact z_none
  | succ n ih =>
    intro x5 x6
    show zG P (zoP sz hp) (b_L_valid_49 k95 a0 x1 x2 x3 x4 hp (l_L_valid_49 k95 a0 x1 x2 x3 x4 hp n) x5 x6) _ _ _ _ _ _ _
    unfold b_L_valid_49
    refine z_iload C dL_valid_49 6 rfl ?_
    refine z_aload_n C dL_valid_51 0 rfl ?_
    refine z_iconst C dL_valid_52 zi_0 ?_
    refine z_callVp C zc_L_143 [.int (0 : Int32)] (fun l D tc b0 r h => m_X7_count l D tc ro b0 h) dL_valid_53 rfl rfl (Nat.le_of_ble_eq_true rfl) (by decide) (by decide) ⟨Nat.le_of_ble_eq_true rfl, Nat.le_of_ble_eq_true rfl⟩ (fun v4 => ?_)
    refine z_icmp_gt C 95 dL_valid_56 (by decide) ?_ ?_
    · exact z_sub [0, 1, 2, 3, 4, 5] rfl (hk95 _)
    refine z_iload C dL_valid_59 5 rfl ?_
    refine z_aload_n C dL_valid_61 0 rfl ?_
    refine z_iload_n C dL_valid_62 1 rfl ?_
    refine z_iload_n C dL_valid_63 3 rfl ?_
    refine z_iload C dL_valid_64 6 rfl ?_
    refine z_callVp C zc_L_183 [.int x1, .int x3, .int x6] (fun l D tc b0 r h => m_X7_counted l D tc ro b0 h) dL_valid_66 rfl rfl (Nat.le_of_ble_eq_true rfl) (by decide) (by decide) ⟨Nat.le_of_ble_eq_true rfl, Nat.le_of_ble_eq_true rfl⟩ (fun v5 => ?_)
    refine z_aload_n C dL_valid_69 0 rfl ?_
    refine z_iload_n C dL_valid_70 1 rfl ?_
    refine z_iload C dL_valid_71 4 rfl ?_
    refine z_iload C dL_valid_73 6 rfl ?_
    refine z_callVp C zc_L_183 [.int x1, .int x4, .int x6] (fun l D tc b0 r h => m_X7_counted l D tc ro b0 h) dL_valid_75 rfl rfl (Nat.le_of_ble_eq_true rfl) (by decide) (by decide) ⟨Nat.le_of_ble_eq_true rfl, Nat.le_of_ble_eq_true rfl⟩ (fun v6 => ?_)
    refine z_icmp_ne C 85 dL_valid_78 (by decide) ?_ ?_
    · refine z_iconst C dL_valid_81 zi_1 ?_
      refine z_goto C 86 dL_valid_82 (by decide) ?_
      exact z_sub [0, 1, 2, 3, 4, 6] rfl (wj_L_valid_86 C hk95 ih)
    refine z_iconst C dL_valid_85 zi_0 ?_
    exact z_sub [0, 1, 2, 3, 4, 6] rfl (wj_L_valid_86 C hk95 ih)
noncomputable def j_L_valid_44 (k100 : Option Int32) (k108 : Option Int32) (rec : Int32 → Option Int32) (a0 : Nat) (x1 : Int32) (x2 : Int32) (x3 : Int32) (x4 : Int32) (s0 : Int32) (hp : zHp) : Option Int32 :=
  l_L_valid_49 (fun p9 => if p9 = 0 then (zlet (x4 + (1 : Int32)) fun v10 => rec v10) else k100) a0 x1 x2 x3 x4 hp 1000000 s0 (0 : Int32)
set_option maxHeartbeats 4000000 in
set_option maxRecDepth 100000 in
theorem wj_L_valid_44 {P : zX} {ro : Nat → Nat} {sz : Nat} (C : zC P cL_valid RL (some .int) 4 0 0 7 ro) {a0 : Nat} {x1 : Int32} {x2 : Int32} {x3 : Int32} {x4 : Int32} {s0 : Int32} {hp : zHp} {k100 : Option Int32} (hk100 : zG P (zoP sz hp) (k100) 100 [(3, .int x3)] [] hp sz 0 0) {k108 : Option Int32} (hk108 : zG P (zoP sz hp) (k108) 108 [(0, .ref a0), (1, .int x1), (2, .int x2), (3, .int x3)] [] hp sz 0 0) {rec : Int32 → Option Int32} (hrec : ∀ (x4 : Int32), zG P (zoP sz hp) (rec x4) 17 [(0, .ref a0), (1, .int x1), (2, .int x2), (3, .int x3), (4, .int x4)] [] hp sz 0 0) : zG P (zoP sz hp) (j_L_valid_44 k100 k108 rec a0 x1 x2 x3 x4 s0 hp) 44 [(0, .ref a0), (1, .int x1), (2, .int x2), (3, .int x3), (4, .int x4)] [.int s0] hp sz 0 0 := by
  unfold j_L_valid_44
  refine z_istore (lv' := [(0, .ref a0), (1, .int x1), (2, .int x2), (3, .int x3), (4, .int x4), (5, .int s0)]) C dL_valid_44 (by decide) rfl ?_
  refine z_iconst C dL_valid_46 zi_0 ?_
  refine z_istore (lv' := [(0, .ref a0), (1, .int x1), (2, .int x2), (3, .int x3), (4, .int x4), (5, .int s0), (6, .int (0 : Int32))]) C dL_valid_47 (by decide) rfl ?_
  refine wl_L_valid_49 C (fun p9 => ?_) _ _ _
  refine z_iload C dL_valid_95 5 rfl ?_
  refine z_if_eq C 102 dL_valid_97 (by decide) ?_ ?_
  · refine z_iincL C 4 (fun v10 => [(0, .ref a0), (1, .int x1), (2, .int x2), (3, .int x3), (4, .int v10), (5, .int p9)]) dL_valid_102 rfl zi_1 (by decide) (fun _ => rfl) (fun v10 => ?_)
    refine z_goto C 17 dL_valid_105 (by decide) ?_
    exact z_sub [0, 1, 2, 3, 4] rfl (hrec _)
  exact z_sub [3] rfl (hk100)
noncomputable def b_L_valid_17 (k100 : Option Int32) (k108 : Option Int32) (a0 : Nat) (x1 : Int32) (x2 : Int32) (x3 : Int32) (hp : zHp) (rec : Int32 → Option Int32) (x4 : Int32) : Option Int32 :=
  if x4 < x2 then ((f_X7_countedAt a0 x1 x3 hp).bind fun v2 => (f_X7_countedAt a0 x1 x4 hp).bind fun v3 => if v2 = v3 then (j_L_valid_44 k100 k108 rec a0 x1 x2 x3 x4 (0 : Int32) hp) else j_L_valid_44 k100 k108 rec a0 x1 x2 x3 x4 (1 : Int32) hp) else k108
noncomputable def l_L_valid_17 (k100 : Option Int32) (k108 : Option Int32) (a0 : Nat) (x1 : Int32) (x2 : Int32) (x3 : Int32) (hp : zHp) (n : Nat) : Int32 → Option Int32 :=
  Nat.rec (motive := fun _ => Int32 → Option Int32) (fun _ => none) (fun _ rec => b_L_valid_17 k100 k108 a0 x1 x2 x3 hp rec) n
theorem l_L_valid_17_s (k100 : Option Int32) (k108 : Option Int32) (a0 : Nat) (x1 : Int32) (x2 : Int32) (x3 : Int32) (hp : zHp) (n : Nat) (x4 : Int32) : l_L_valid_17 k100 k108 a0 x1 x2 x3 hp (n + 1) x4 = b_L_valid_17 k100 k108 a0 x1 x2 x3 hp (l_L_valid_17 k100 k108 a0 x1 x2 x3 hp n) x4 := rfl
set_option maxHeartbeats 4000000 in
set_option maxRecDepth 100000 in
theorem wl_L_valid_17 {P : zX} {ro : Nat → Nat} {sz : Nat} (C : zC P cL_valid RL (some .int) 4 0 0 7 ro) {a0 : Nat} {x1 : Int32} {x2 : Int32} {x3 : Int32} {hp : zHp} {k100 : Option Int32} (hk100 : zG P (zoP sz hp) (k100) 100 [(3, .int x3)] [] hp sz 0 0) {k108 : Option Int32} (hk108 : zG P (zoP sz hp) (k108) 108 [(0, .ref a0), (1, .int x1), (2, .int x2), (3, .int x3)] [] hp sz 0 0) : ∀ (n : Nat) (x4 : Int32), zG P (zoP sz hp) (l_L_valid_17 k100 k108 a0 x1 x2 x3 hp n x4) 17 [(0, .ref a0), (1, .int x1), (2, .int x2), (3, .int x3), (4, .int x4)] [] hp sz 0 0 := by
  intro n
  induction n with
  | zero =>
    intro x4
    show zG P (zoP sz hp) none _ _ _ _ _ _ _
    exact z_none
  | succ n ih =>
    intro x4
    show zG P (zoP sz hp) (b_L_valid_17 k100 k108 a0 x1 x2 x3 hp (l_L_valid_17 k100 k108 a0 x1 x2 x3 hp n) x4) _ _ _ _ _ _ _
    unfold b_L_valid_17
    refine z_iload C dL_valid_17 4 rfl ?_
    refine z_iload_n C dL_valid_19 2 rfl ?_
    refine z_icmp_ge C 108 dL_valid_20 (by decide) ?_ ?_
    · refine z_aload_n C dL_valid_23 0 rfl ?_
      refine z_iload_n C dL_valid_24 1 rfl ?_
      refine z_iload_n C dL_valid_25 3 rfl ?_
      refine z_callVp C zc_L_180 [.int x1, .int x3] (fun l D tc b0 r h => m_X7_countedAt l D tc ro b0 h) dL_valid_26 rfl rfl (Nat.le_of_ble_eq_true rfl) (by decide) (by decide) ⟨Nat.le_of_ble_eq_true rfl, Nat.le_of_ble_eq_true rfl⟩ (fun v2 => ?_)
      refine z_aload_n C dL_valid_29 0 rfl ?_
      refine z_iload_n C dL_valid_30 1 rfl ?_
      refine z_iload C dL_valid_31 4 rfl ?_
      refine z_callVp C zc_L_180 [.int x1, .int x4] (fun l D tc b0 r h => m_X7_countedAt l D tc ro b0 h) dL_valid_33 rfl rfl (Nat.le_of_ble_eq_true rfl) (by decide) (by decide) ⟨Nat.le_of_ble_eq_true rfl, Nat.le_of_ble_eq_true rfl⟩ (fun v3 => ?_)
      refine z_icmp_eq C 43 dL_valid_36 (by decide) ?_ ?_
      · refine z_iconst C dL_valid_43 zi_0 ?_
        exact wj_L_valid_44 C hk100 hk108 ih
      refine z_iconst C dL_valid_39 zi_1 ?_
      refine z_goto C 44 dL_valid_40 (by decide) ?_
      exact wj_L_valid_44 C hk100 hk108 ih
    exact z_sub [0, 1, 2, 3] rfl (hk108)
noncomputable def b_L_valid_9 (k100 : Int32 → Option Int32) (k114 : Option Int32) (a0 : Nat) (x1 : Int32) (x2 : Int32) (hp : zHp) (rec : Int32 → Option Int32) (x3 : Int32) : Option Int32 :=
  if x3 < x2 then (l_L_valid_17 (k100 x3) (zlet (x3 + (1 : Int32)) fun v11 => rec v11) a0 x1 x2 x3 hp 1000000 (0 : Int32)) else k114
noncomputable def l_L_valid_9 (k100 : Int32 → Option Int32) (k114 : Option Int32) (a0 : Nat) (x1 : Int32) (x2 : Int32) (hp : zHp) (n : Nat) : Int32 → Option Int32 :=
  Nat.rec (motive := fun _ => Int32 → Option Int32) (fun _ => none) (fun _ rec => b_L_valid_9 k100 k114 a0 x1 x2 hp rec) n
theorem l_L_valid_9_s (k100 : Int32 → Option Int32) (k114 : Option Int32) (a0 : Nat) (x1 : Int32) (x2 : Int32) (hp : zHp) (n : Nat) (x3 : Int32) : l_L_valid_9 k100 k114 a0 x1 x2 hp (n + 1) x3 = b_L_valid_9 k100 k114 a0 x1 x2 hp (l_L_valid_9 k100 k114 a0 x1 x2 hp n) x3 := rfl
set_option maxHeartbeats 4000000 in
set_option maxRecDepth 100000 in
theorem wl_L_valid_9 {P : zX} {ro : Nat → Nat} {sz : Nat} (C : zC P cL_valid RL (some .int) 4 0 0 7 ro) {a0 : Nat} {x1 : Int32} {x2 : Int32} {hp : zHp} {k100 : Int32 → Option Int32} (hk100 : ∀ (x3 : Int32), zG P (zoP sz hp) (k100 x3) 100 [(3, .int x3)] [] hp sz 0 0) {k114 : Option Int32} (hk114 : zG P (zoP sz hp) (k114) 114 [(2, .int x2)] [] hp sz 0 0) : ∀ (n : Nat) (x3 : Int32), zG P (zoP sz hp) (l_L_valid_9 k100 k114 a0 x1 x2 hp n x3) 9 [(0, .ref a0), (1, .int x1), (2, .int x2), (3, .int x3)] [] hp sz 0 0 := by
  intro n
  induction n with
  | zero =>
    intro x3
    show zG P (zoP sz hp) none _ _ _ _ _ _ _
    exact z_none
  | succ n ih =>
    intro x3
    show zG P (zoP sz hp) (b_L_valid_9 k100 k114 a0 x1 x2 hp (l_L_valid_9 k100 k114 a0 x1 x2 hp n) x3) _ _ _ _ _ _ _
    unfold b_L_valid_9
    refine z_iload_n C dL_valid_9 3 rfl ?_
    refine z_iload_n C dL_valid_10 2 rfl ?_
    refine z_icmp_ge C 114 dL_valid_11 (by decide) ?_ ?_
    · refine z_iconst C dL_valid_14 zi_0 ?_
      refine z_istore (lv' := [(0, .ref a0), (1, .int x1), (2, .int x2), (3, .int x3), (4, .int (0 : Int32))]) C dL_valid_15 (by decide) rfl ?_
      refine wl_L_valid_17 C ?_ ?_ _ _
      · exact hk100 _
      refine z_iincL C 3 (fun v11 => [(0, .ref a0), (1, .int x1), (2, .int x2), (3, .int v11)]) dL_valid_108 rfl zi_1 (by decide) (fun _ => rfl) (fun v11 => ?_)
      refine z_goto C 9 dL_valid_111 (by decide) ?_
      exact ih _
    exact z_sub [2] rfl (hk114)
noncomputable def f_L_valid (a0 : Nat) (x1 : Int32) (hp : zHp) : Option Int32 :=
  (f_X7_boxProperty a0 x1 (3 : Int32) hp).bind fun v1 => l_L_valid_9 (fun p12 => some p12) (some (v1 - (1 : Int32))) a0 x1 v1 hp 1000000 (0 : Int32)
set_option maxHeartbeats 4000000 in
set_option maxRecDepth 100000 in
theorem m_L_valid (l : Launch) (D : va_G) (tc : Nat → ClassId) (ro : Nat → Nat) (b0 : Nat) {a0 : Nat} {x1 : Int32} {hp : zHp} {sz : Nat} {r : Int32} (h : f_L_valid a0 x1 hp = some r) : zM l yL_valid cL_valid 7 (some .int) 4 0 0 [.ref a0, .int x1] D tc ro b0 hp sz ((zoP sz hp) r).1 ((zoP sz hp) r).2.1 ((zoP sz hp) r).2.2 := by
  refine z_start (o := (zoP sz hp)) (lv := [(0, .ref a0), (1, .int x1)]) h (by decide +kernel) RL rfl rfl (Nat.le_of_ble_eq_true rfl) (fun P C => ?_)
  unfold f_L_valid
  refine z_aload_n C dL_valid_0 0 rfl ?_
  refine z_iload_n C dL_valid_1 1 rfl ?_
  refine z_iconst C dL_valid_2 zi_3 ?_
  refine z_callVp C zc_L_177 [.int x1, .int (3 : Int32)] (fun l D tc b0 r h => m_X7_boxProperty l D tc ro b0 h) dL_valid_3 rfl rfl (Nat.le_of_ble_eq_true rfl) (by decide) (by decide) ⟨Nat.le_of_ble_eq_true rfl, Nat.le_of_ble_eq_true rfl⟩ (fun v1 => ?_)
  refine z_istore_n (lv' := [(0, .ref a0), (1, .int x1), (2, .int v1)]) C dL_valid_6 (by decide) rfl ?_
  refine z_iconst C dL_valid_7 zi_0 ?_
  refine z_istore_n (lv' := [(0, .ref a0), (1, .int x1), (2, .int v1), (3, .int (0 : Int32))]) C dL_valid_8 (by decide) rfl ?_
  refine wl_L_valid_9 C (fun p12 => ?_) ?_ _ _
  · refine z_iload_n C dL_valid_100 0 rfl ?_
    exact z_ireturnP C dL_valid_101
  refine z_iload_n C dL_valid_114 0 rfl ?_
  refine z_iconst C dL_valid_115 zi_1 ?_
  refine z_isub C dL_valid_116 ?_
  exact z_ireturnP C dL_valid_117
noncomputable def j_L_isSure_88 (k97 : Int32 → Option Int32) (rec : Int32 → Int32 → Option Int32) (a0 : Nat) (x1 : Int32) (x2 : Int32) (x3 : Int32) (x4 : Int32) (x5 : Int32) (x7 : Int32) (s0 : Int32) (s1 : Int32) (hp : zHp) : Option Int32 :=
  zlet (s0 &&& s1) fun v8 => zlet (x7 + (1 : Int32)) fun v9 => rec v8 v9
set_option maxHeartbeats 4000000 in
set_option maxRecDepth 100000 in
theorem wj_L_isSure_88 {P : zX} {ro : Nat → Nat} {sz : Nat} (C : zC P cL_isSure RL (some .boolean) 5 0 0 8 ro) {a0 : Nat} {x1 : Int32} {x2 : Int32} {x3 : Int32} {x4 : Int32} {x5 : Int32} {x7 : Int32} {s0 : Int32} {s1 : Int32} {hp : zHp} {k97 : Int32 → Option Int32} (hk97 : ∀ (x6 : Int32), zG P (zoP sz hp) (k97 x6) 97 [(0, .ref a0), (1, .int x1), (2, .int x2), (3, .int x3), (4, .int x4), (5, .int x5), (6, .int x6)] [] hp sz 0 0) {rec : Int32 → Int32 → Option Int32} (hrec : ∀ (x6 : Int32) (x7 : Int32), zG P (zoP sz hp) (rec x6 x7) 51 [(0, .ref a0), (1, .int x1), (2, .int x2), (3, .int x3), (4, .int x4), (5, .int x5), (6, .int x6), (7, .int x7)] [] hp sz 0 0) : zG P (zoP sz hp) (j_L_isSure_88 k97 rec a0 x1 x2 x3 x4 x5 x7 s0 s1 hp) 88 [(0, .ref a0), (1, .int x1), (2, .int x2), (3, .int x3), (4, .int x4), (5, .int x5), (7, .int x7)] [.int s1, .int s0] hp sz 0 0 := by
  unfold j_L_isSure_88
  refine z_iand C dL_isSure_88 ?_
  refine z_istoreL C (fun v8 => [(0, .ref a0), (1, .int x1), (2, .int x2), (3, .int x3), (4, .int x4), (5, .int x5), (6, .int v8), (7, .int x7)]) dL_isSure_89 (by decide) (fun _ => rfl) (fun v8 => ?_)
  refine z_iincL C 7 (fun v9 => [(0, .ref a0), (1, .int x1), (2, .int x2), (3, .int x3), (4, .int x4), (5, .int x5), (6, .int v8), (7, .int v9)]) dL_isSure_91 rfl zi_1 (by decide) (fun _ => rfl) (fun v9 => ?_)
  refine z_goto C 51 dL_isSure_94 (by decide) ?_
  exact hrec _ _
noncomputable def b_L_isSure_51 (k97 : Int32 → Option Int32) (a0 : Nat) (x1 : Int32) (x2 : Int32) (x3 : Int32) (x4 : Int32) (x5 : Int32) (hp : zHp) (rec : Int32 → Int32 → Option Int32) (x6 : Int32) (x7 : Int32) : Option Int32 :=
  (f_X7_count a0 (0 : Int32) hp).bind fun v5 => if v5 < x7 then (k97 x6) else (f_X7_counted a0 x1 x3 x7 hp).bind fun v6 => (f_X7_counted a0 x1 x5 x7 hp).bind fun v7 => if v6 = v7 then (j_L_isSure_88 k97 rec a0 x1 x2 x3 x4 x5 x7 x6 (1 : Int32) hp) else j_L_isSure_88 k97 rec a0 x1 x2 x3 x4 x5 x7 x6 (0 : Int32) hp
noncomputable def l_L_isSure_51 (k97 : Int32 → Option Int32) (a0 : Nat) (x1 : Int32) (x2 : Int32) (x3 : Int32) (x4 : Int32) (x5 : Int32) (hp : zHp) (n : Nat) : Int32 → Int32 → Option Int32 :=
  Nat.rec (motive := fun _ => Int32 → Int32 → Option Int32) (fun _ _ => none) (fun _ rec => b_L_isSure_51 k97 a0 x1 x2 x3 x4 x5 hp rec) n
theorem l_L_isSure_51_s (k97 : Int32 → Option Int32) (a0 : Nat) (x1 : Int32) (x2 : Int32) (x3 : Int32) (x4 : Int32) (x5 : Int32) (hp : zHp) (n : Nat) (x6 : Int32) (x7 : Int32) : l_L_isSure_51 k97 a0 x1 x2 x3 x4 x5 hp (n + 1) x6 x7 = b_L_isSure_51 k97 a0 x1 x2 x3 x4 x5 hp (l_L_isSure_51 k97 a0 x1 x2 x3 x4 x5 hp n) x6 x7 := rfl
set_option maxHeartbeats 4000000 in
set_option maxRecDepth 100000 in
theorem wl_L_isSure_51 {P : zX} {ro : Nat → Nat} {sz : Nat} (C : zC P cL_isSure RL (some .boolean) 5 0 0 8 ro) {a0 : Nat} {x1 : Int32} {x2 : Int32} {x3 : Int32} {x4 : Int32} {x5 : Int32} {hp : zHp} {k97 : Int32 → Option Int32} (hk97 : ∀ (x6 : Int32), zG P (zoP sz hp) (k97 x6) 97 [(0, .ref a0), (1, .int x1), (2, .int x2), (3, .int x3), (4, .int x4), (5, .int x5), (6, .int x6)] [] hp sz 0 0) : ∀ (n : Nat) (x6 : Int32) (x7 : Int32), zG P (zoP sz hp) (l_L_isSure_51 k97 a0 x1 x2 x3 x4 x5 hp n x6 x7) 51 [(0, .ref a0), (1, .int x1), (2, .int x2), (3, .int x3), (4, .int x4), (5, .int x5), (6, .int x6), (7, .int x7)] [] hp sz 0 0 := by
  intro n
  induction n with
  | zero =>
    intro x6 x7
    show zG P (zoP sz hp) none _ _ _ _ _ _ _
    exact z_none
  | succ n ih =>
    intro x6 x7
    show zG P (zoP sz hp) (b_L_isSure_51 k97 a0 x1 x2 x3 x4 x5 hp (l_L_isSure_51 k97 a0 x1 x2 x3 x4 x5 hp n) x6 x7) _ _ _ _ _ _ _
    unfold b_L_isSure_51
    refine z_iload C dL_isSure_51 7 rfl ?_
    refine z_aload_n C dL_isSure_53 0 rfl ?_
    refine z_iconst C dL_isSure_54 zi_0 ?_
    refine z_callVp C zc_L_143 [.int (0 : Int32)] (fun l D tc b0 r h => m_X7_count l D tc ro b0 h) dL_isSure_55 rfl rfl (Nat.le_of_ble_eq_true rfl) (by decide) (by decide) ⟨Nat.le_of_ble_eq_true rfl, Nat.le_of_ble_eq_true rfl⟩ (fun v5 => ?_)
    refine z_icmp_gt C 97 dL_isSure_58 (by decide) ?_ ?_
    · exact z_sub [0, 1, 2, 3, 4, 5, 6] rfl (hk97 _)
    refine z_iload C dL_isSure_61 6 rfl ?_
    refine z_aload_n C dL_isSure_63 0 rfl ?_
    refine z_iload_n C dL_isSure_64 1 rfl ?_
    refine z_iload_n C dL_isSure_65 3 rfl ?_
    refine z_iload C dL_isSure_66 7 rfl ?_
    refine z_callVp C zc_L_183 [.int x1, .int x3, .int x7] (fun l D tc b0 r h => m_X7_counted l D tc ro b0 h) dL_isSure_68 rfl rfl (Nat.le_of_ble_eq_true rfl) (by decide) (by decide) ⟨Nat.le_of_ble_eq_true rfl, Nat.le_of_ble_eq_true rfl⟩ (fun v6 => ?_)
    refine z_aload_n C dL_isSure_71 0 rfl ?_
    refine z_iload_n C dL_isSure_72 1 rfl ?_
    refine z_iload C dL_isSure_73 5 rfl ?_
    refine z_iload C dL_isSure_75 7 rfl ?_
    refine z_callVp C zc_L_183 [.int x1, .int x5, .int x7] (fun l D tc b0 r h => m_X7_counted l D tc ro b0 h) dL_isSure_77 rfl rfl (Nat.le_of_ble_eq_true rfl) (by decide) (by decide) ⟨Nat.le_of_ble_eq_true rfl, Nat.le_of_ble_eq_true rfl⟩ (fun v7 => ?_)
    refine z_icmp_ne C 87 dL_isSure_80 (by decide) ?_ ?_
    · refine z_iconst C dL_isSure_83 zi_1 ?_
      refine z_goto C 88 dL_isSure_84 (by decide) ?_
      exact z_sub [0, 1, 2, 3, 4, 5, 7] rfl (wj_L_isSure_88 C hk97 ih)
    refine z_iconst C dL_isSure_87 zi_0 ?_
    exact z_sub [0, 1, 2, 3, 4, 5, 7] rfl (wj_L_isSure_88 C hk97 ih)
noncomputable def j_L_isSure_46 (k110 : Int32 → Option Int32) (rec : Int32 → Int32 → Option Int32) (a0 : Nat) (x1 : Int32) (x2 : Int32) (x3 : Int32) (x4 : Int32) (x5 : Int32) (s0 : Int32) (hp : zHp) : Option Int32 :=
  l_L_isSure_51 (fun p10 => zlet (x4 ||| p10) fun v11 => zlet (x5 + (1 : Int32)) fun v12 => rec v11 v12) a0 x1 x2 x3 x4 x5 hp 1000000 s0 (0 : Int32)
set_option maxHeartbeats 4000000 in
set_option maxRecDepth 100000 in
theorem wj_L_isSure_46 {P : zX} {ro : Nat → Nat} {sz : Nat} (C : zC P cL_isSure RL (some .boolean) 5 0 0 8 ro) {a0 : Nat} {x1 : Int32} {x2 : Int32} {x3 : Int32} {x4 : Int32} {x5 : Int32} {s0 : Int32} {hp : zHp} {k110 : Int32 → Option Int32} (hk110 : ∀ (x4 : Int32), zG P (zoP sz hp) (k110 x4) 110 [(4, .int x4)] [] hp sz 0 0) {rec : Int32 → Int32 → Option Int32} (hrec : ∀ (x4 : Int32) (x5 : Int32), zG P (zoP sz hp) (rec x4 x5) 19 [(0, .ref a0), (1, .int x1), (2, .int x2), (3, .int x3), (4, .int x4), (5, .int x5)] [] hp sz 0 0) : zG P (zoP sz hp) (j_L_isSure_46 k110 rec a0 x1 x2 x3 x4 x5 s0 hp) 46 [(0, .ref a0), (1, .int x1), (2, .int x2), (3, .int x3), (4, .int x4), (5, .int x5)] [.int s0] hp sz 0 0 := by
  unfold j_L_isSure_46
  refine z_istore (lv' := [(0, .ref a0), (1, .int x1), (2, .int x2), (3, .int x3), (4, .int x4), (5, .int x5), (6, .int s0)]) C dL_isSure_46 (by decide) rfl ?_
  refine z_iconst C dL_isSure_48 zi_0 ?_
  refine z_istore (lv' := [(0, .ref a0), (1, .int x1), (2, .int x2), (3, .int x3), (4, .int x4), (5, .int x5), (6, .int s0), (7, .int (0 : Int32))]) C dL_isSure_49 (by decide) rfl ?_
  refine wl_L_isSure_51 C (fun p10 => ?_) _ _ _
  refine z_iload C dL_isSure_97 4 rfl ?_
  refine z_iload C dL_isSure_99 6 rfl ?_
  refine z_ior C dL_isSure_101 ?_
  refine z_istoreL C (fun v11 => [(0, .ref a0), (1, .int x1), (2, .int x2), (3, .int x3), (4, .int v11), (5, .int x5), (6, .int p10)]) dL_isSure_102 (by decide) (fun _ => rfl) (fun v11 => ?_)
  refine z_iincL C 5 (fun v12 => [(0, .ref a0), (1, .int x1), (2, .int x2), (3, .int x3), (4, .int v11), (5, .int v12), (6, .int p10)]) dL_isSure_104 rfl zi_1 (by decide) (fun _ => rfl) (fun v12 => ?_)
  refine z_goto C 19 dL_isSure_107 (by decide) ?_
  exact z_sub [0, 1, 2, 3, 4, 5] rfl (hrec _ _)
noncomputable def b_L_isSure_19 (k110 : Int32 → Option Int32) (a0 : Nat) (x1 : Int32) (x2 : Int32) (x3 : Int32) (hp : zHp) (rec : Int32 → Int32 → Option Int32) (x4 : Int32) (x5 : Int32) : Option Int32 :=
  if x5 < x2 then ((f_X7_countedAt a0 x1 x3 hp).bind fun v3 => (f_X7_countedAt a0 x1 x5 hp).bind fun v4 => if v3 = v4 then (j_L_isSure_46 k110 rec a0 x1 x2 x3 x4 x5 (0 : Int32) hp) else j_L_isSure_46 k110 rec a0 x1 x2 x3 x4 x5 (1 : Int32) hp) else k110 x4
noncomputable def l_L_isSure_19 (k110 : Int32 → Option Int32) (a0 : Nat) (x1 : Int32) (x2 : Int32) (x3 : Int32) (hp : zHp) (n : Nat) : Int32 → Int32 → Option Int32 :=
  Nat.rec (motive := fun _ => Int32 → Int32 → Option Int32) (fun _ _ => none) (fun _ rec => b_L_isSure_19 k110 a0 x1 x2 x3 hp rec) n
theorem l_L_isSure_19_s (k110 : Int32 → Option Int32) (a0 : Nat) (x1 : Int32) (x2 : Int32) (x3 : Int32) (hp : zHp) (n : Nat) (x4 : Int32) (x5 : Int32) : l_L_isSure_19 k110 a0 x1 x2 x3 hp (n + 1) x4 x5 = b_L_isSure_19 k110 a0 x1 x2 x3 hp (l_L_isSure_19 k110 a0 x1 x2 x3 hp n) x4 x5 := rfl
set_option maxHeartbeats 4000000 in
set_option maxRecDepth 100000 in
theorem wl_L_isSure_19 {P : zX} {ro : Nat → Nat} {sz : Nat} (C : zC P cL_isSure RL (some .boolean) 5 0 0 8 ro) {a0 : Nat} {x1 : Int32} {x2 : Int32} {x3 : Int32} {hp : zHp} {k110 : Int32 → Option Int32} (hk110 : ∀ (x4 : Int32), zG P (zoP sz hp) (k110 x4) 110 [(4, .int x4)] [] hp sz 0 0) : ∀ (n : Nat) (x4 : Int32) (x5 : Int32), zG P (zoP sz hp) (l_L_isSure_19 k110 a0 x1 x2 x3 hp n x4 x5) 19 [(0, .ref a0), (1, .int x1), (2, .int x2), (3, .int x3), (4, .int x4), (5, .int x5)] [] hp sz 0 0 := by
  intro n
  induction n with
  | zero =>
    intro x4 x5
    show zG P (zoP sz hp) none _ _ _ _ _ _ _
    exact z_none
  | succ n ih =>
    intro x4 x5
    show zG P (zoP sz hp) (b_L_isSure_19 k110 a0 x1 x2 x3 hp (l_L_isSure_19 k110 a0 x1 x2 x3 hp n) x4 x5) _ _ _ _ _ _ _
    unfold b_L_isSure_19
    refine z_iload C dL_isSure_19 5 rfl ?_
    refine z_iload_n C dL_isSure_21 2 rfl ?_
    refine z_icmp_ge C 110 dL_isSure_22 (by decide) ?_ ?_
    · refine z_aload_n C dL_isSure_25 0 rfl ?_
      refine z_iload_n C dL_isSure_26 1 rfl ?_
      refine z_iload_n C dL_isSure_27 3 rfl ?_
      refine z_callVp C zc_L_180 [.int x1, .int x3] (fun l D tc b0 r h => m_X7_countedAt l D tc ro b0 h) dL_isSure_28 rfl rfl (Nat.le_of_ble_eq_true rfl) (by decide) (by decide) ⟨Nat.le_of_ble_eq_true rfl, Nat.le_of_ble_eq_true rfl⟩ (fun v3 => ?_)
      refine z_aload_n C dL_isSure_31 0 rfl ?_
      refine z_iload_n C dL_isSure_32 1 rfl ?_
      refine z_iload C dL_isSure_33 5 rfl ?_
      refine z_callVp C zc_L_180 [.int x1, .int x5] (fun l D tc b0 r h => m_X7_countedAt l D tc ro b0 h) dL_isSure_35 rfl rfl (Nat.le_of_ble_eq_true rfl) (by decide) (by decide) ⟨Nat.le_of_ble_eq_true rfl, Nat.le_of_ble_eq_true rfl⟩ (fun v4 => ?_)
      refine z_icmp_eq C 45 dL_isSure_38 (by decide) ?_ ?_
      · refine z_iconst C dL_isSure_45 zi_0 ?_
        exact wj_L_isSure_46 C hk110 ih
      refine z_iconst C dL_isSure_41 zi_1 ?_
      refine z_goto C 46 dL_isSure_42 (by decide) ?_
      exact wj_L_isSure_46 C hk110 ih
    exact z_sub [4] rfl (hk110 _)
noncomputable def f_L_isSure (a0 : Nat) (x1 : Int32) (hp : zHp) : Option Int32 :=
  (f_X7_boxProperty a0 x1 (3 : Int32) hp).bind fun v1 => (f_L_valid a0 x1 hp).bind fun v2 => l_L_isSure_19 (fun p13 => zrNp .boolean p13) a0 x1 v1 v2 hp 1000000 (0 : Int32) (0 : Int32)
set_option maxHeartbeats 4000000 in
set_option maxRecDepth 100000 in
theorem m_L_isSure (l : Launch) (D : va_G) (tc : Nat → ClassId) (ro : Nat → Nat) (b0 : Nat) {a0 : Nat} {x1 : Int32} {hp : zHp} {sz : Nat} {r : Int32} (h : f_L_isSure a0 x1 hp = some r) : zM l yL_isSure cL_isSure 8 (some .boolean) 5 0 0 [.ref a0, .int x1] D tc ro b0 hp sz ((zoP sz hp) r).1 ((zoP sz hp) r).2.1 ((zoP sz hp) r).2.2 := by
  refine z_start (o := (zoP sz hp)) (lv := [(0, .ref a0), (1, .int x1)]) h (by decide +kernel) RL rfl rfl (Nat.le_of_ble_eq_true rfl) (fun P C => ?_)
  unfold f_L_isSure
  refine z_aload_n C dL_isSure_0 0 rfl ?_
  refine z_iload_n C dL_isSure_1 1 rfl ?_
  refine z_iconst C dL_isSure_2 zi_3 ?_
  refine z_callVp C zc_L_177 [.int x1, .int (3 : Int32)] (fun l D tc b0 r h => m_X7_boxProperty l D tc ro b0 h) dL_isSure_3 rfl rfl (Nat.le_of_ble_eq_true rfl) (by decide) (by decide) ⟨Nat.le_of_ble_eq_true rfl, Nat.le_of_ble_eq_true rfl⟩ (fun v1 => ?_)
  refine z_istore_n (lv' := [(0, .ref a0), (1, .int x1), (2, .int v1)]) C dL_isSure_6 (by decide) rfl ?_
  refine z_aload_n C dL_isSure_7 0 rfl ?_
  refine z_iload_n C dL_isSure_8 1 rfl ?_
  refine z_callSp C zs_L_187 [.ref a0, .int x1] (fun l D tc b0 r h => m_L_valid l D tc ro b0 h) dL_isSure_9 rfl rfl (Nat.le_of_ble_eq_true rfl) (by decide) (by decide) ⟨Nat.le_of_ble_eq_true rfl, Nat.le_of_ble_eq_true rfl⟩ (fun v2 => ?_)
  refine z_istore_n (lv' := [(0, .ref a0), (1, .int x1), (2, .int v1), (3, .int v2)]) C dL_isSure_12 (by decide) rfl ?_
  refine z_iconst C dL_isSure_13 zi_0 ?_
  refine z_istore (lv' := [(0, .ref a0), (1, .int x1), (2, .int v1), (3, .int v2), (4, .int (0 : Int32))]) C dL_isSure_14 (by decide) rfl ?_
  refine z_iconst C dL_isSure_16 zi_0 ?_
  refine z_istore (lv' := [(0, .ref a0), (1, .int x1), (2, .int v1), (3, .int v2), (4, .int (0 : Int32)), (5, .int (0 : Int32))]) C dL_isSure_17 (by decide) rfl ?_
  refine wl_L_isSure_19 C (fun p13 => ?_) _ _ _
  refine z_iload C dL_isSure_110 0 rfl ?_
  exact z_nreturnP C (by simp) dL_isSure_112
