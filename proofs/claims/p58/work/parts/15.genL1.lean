noncomputable def j_L_isCounted_92 (mc ms : Nat) (k68 : zHp → Nat → Nat → Nat → Option (Int32 × zHp × Nat)) (k101 : Int32 → zHp → Nat → Nat → Nat → Option (Int32 × zHp × Nat)) (rec : Int32 → Int32 → zHp → Nat → Nat → Nat → Option (Int32 × zHp × Nat)) (a0 : Nat) (x1 : Int32) (x2 : Int32) (x3 : Int32) (x4 : Int32) (x5 : Int32) (x6 : Int32) (a7 : Nat) (x9 : Int32) (s0 : Int32) (s1 : Int32) (h : zHp) (sz : Nat) (uc : Nat) (us : Nat) : Option (Int32 × zHp × Nat) :=
  zlet (s0 &&& s1) fun v14 => zlet (x9 + (1 : Int32)) fun v15 => rec v14 v15 h sz uc us
set_option maxHeartbeats 4000000 in
set_option maxRecDepth 100000 in
theorem wj_L_isCounted_92 {P : zX} {ro : Nat → Nat} {mc ms : Nat} (C : zC P cL_isCounted RL (some .boolean) 6 mc ms 10 ro) {a0 : Nat} {x1 : Int32} {x2 : Int32} {x3 : Int32} {x4 : Int32} {x5 : Int32} {x6 : Int32} {a7 : Nat} {x9 : Int32} {s0 : Int32} {s1 : Int32} {h : zHp} {sz : Nat} {uc : Nat} {us : Nat} {k68 : zHp → Nat → Nat → Nat → Option (Int32 × zHp × Nat)} (hk68 : ∀ (h : zHp) (sz : Nat) (uc : Nat) (us : Nat), zG P zoIA (k68 h sz uc us) 68 [] [] h sz uc us) {k101 : Int32 → zHp → Nat → Nat → Nat → Option (Int32 × zHp × Nat)} (hk101 : ∀ (x8 : Int32) (h : zHp) (sz : Nat) (uc : Nat) (us : Nat), zG P zoIA (k101 x8 h sz uc us) 101 [(0, .ref a0), (1, .int x1), (2, .int x2), (3, .int x3), (4, .int x4), (5, .int x5), (6, .int x6), (8, .int x8)] [] h sz uc us) {rec : Int32 → Int32 → zHp → Nat → Nat → Nat → Option (Int32 × zHp × Nat)} (hrec : ∀ (x8 : Int32) (x9 : Int32) (h : zHp) (sz : Nat) (uc : Nat) (us : Nat), zG P zoIA (rec x8 x9 h sz uc us) 43 [(0, .ref a0), (1, .int x1), (2, .int x2), (3, .int x3), (4, .int x4), (5, .int x5), (6, .int x6), (7, .ref a7), (8, .int x8), (9, .int x9)] [] h sz uc us) : zG P zoIA (j_L_isCounted_92 mc ms k68 k101 rec a0 x1 x2 x3 x4 x5 x6 a7 x9 s0 s1 h sz uc us) 92 [(0, .ref a0), (1, .int x1), (2, .int x2), (3, .int x3), (4, .int x4), (5, .int x5), (6, .int x6), (7, .ref a7), (9, .int x9)] [.int s1, .int s0] h sz uc us := by
  unfold j_L_isCounted_92
  refine z_iand C dL_isCounted_92 ?_
  refine z_istoreL C (fun v14 => [(0, .ref a0), (1, .int x1), (2, .int x2), (3, .int x3), (4, .int x4), (5, .int x5), (6, .int x6), (7, .ref a7), (8, .int v14), (9, .int x9)]) dL_isCounted_93 (by decide) (fun _ => rfl) (fun v14 => ?_)
  refine z_iincL C 9 (fun v15 => [(0, .ref a0), (1, .int x1), (2, .int x2), (3, .int x3), (4, .int x4), (5, .int x5), (6, .int x6), (7, .ref a7), (8, .int v14), (9, .int v15)]) dL_isCounted_95 rfl zi_1 (by decide) (fun _ => rfl) (fun v15 => ?_)
  refine z_goto C 43 dL_isCounted_98 (by decide) ?_
  exact hrec _ _ _ _ _ _
noncomputable def b_L_isCounted_43 (mc ms : Nat) (k68 : zHp → Nat → Nat → Nat → Option (Int32 × zHp × Nat)) (k101 : Int32 → zHp → Nat → Nat → Nat → Option (Int32 × zHp × Nat)) (a0 : Nat) (x1 : Int32) (x2 : Int32) (x3 : Int32) (x4 : Int32) (x5 : Int32) (x6 : Int32) (a7 : Nat) (rec : Int32 → Int32 → zHp → Nat → Nat → Nat → Option (Int32 × zHp × Nat)) (x8 : Int32) (x9 : Int32) (h : zHp) (sz : Nat) (uc : Nat) (us : Nat) : Option (Int32 × zHp × Nat) :=
  (zlen h 0 a7).bind fun v8 => if x9 < v8 then (zchk (uc ≤ mc ∧ us ≤ ms) <| (f_X7_wouldCount a0 x6 x1 x9 h).bind fun v10 => (zaI h 0 a7 x9).bind fun v11 => if v10 = v11 then ((zaI h 0 a7 x9).bind fun v12 => (f_X7_papers a0 x1 x9 h).bind fun v13 => if v12 = v13 then (j_L_isCounted_92 mc ms k68 k101 rec a0 x1 x2 x3 x4 x5 x6 a7 x9 x8 (1 : Int32) h sz uc us) else j_L_isCounted_92 mc ms k68 k101 rec a0 x1 x2 x3 x4 x5 x6 a7 x9 x8 (0 : Int32) h sz uc us) else k68 h sz uc us) else k101 x8 h sz uc us
noncomputable def l_L_isCounted_43 (mc ms : Nat) (k68 : zHp → Nat → Nat → Nat → Option (Int32 × zHp × Nat)) (k101 : Int32 → zHp → Nat → Nat → Nat → Option (Int32 × zHp × Nat)) (a0 : Nat) (x1 : Int32) (x2 : Int32) (x3 : Int32) (x4 : Int32) (x5 : Int32) (x6 : Int32) (a7 : Nat) (n : Nat) : Int32 → Int32 → zHp → Nat → Nat → Nat → Option (Int32 × zHp × Nat) :=
  Nat.rec (motive := fun _ => Int32 → Int32 → zHp → Nat → Nat → Nat → Option (Int32 × zHp × Nat)) (fun _ _ _ _ _ _ => none) (fun _ rec => b_L_isCounted_43 mc ms k68 k101 a0 x1 x2 x3 x4 x5 x6 a7 rec) n
theorem l_L_isCounted_43_s {mc ms : Nat} (k68 : zHp → Nat → Nat → Nat → Option (Int32 × zHp × Nat)) (k101 : Int32 → zHp → Nat → Nat → Nat → Option (Int32 × zHp × Nat)) (a0 : Nat) (x1 : Int32) (x2 : Int32) (x3 : Int32) (x4 : Int32) (x5 : Int32) (x6 : Int32) (a7 : Nat) (n : Nat) (x8 : Int32) (x9 : Int32) (h : zHp) (sz : Nat) (uc : Nat) (us : Nat) : l_L_isCounted_43 mc ms k68 k101 a0 x1 x2 x3 x4 x5 x6 a7 (n + 1) x8 x9 h sz uc us = b_L_isCounted_43 mc ms k68 k101 a0 x1 x2 x3 x4 x5 x6 a7 (l_L_isCounted_43 mc ms k68 k101 a0 x1 x2 x3 x4 x5 x6 a7 n) x8 x9 h sz uc us := rfl
set_option maxHeartbeats 4000000 in
set_option maxRecDepth 100000 in
theorem wl_L_isCounted_43 {P : zX} {ro : Nat → Nat} {mc ms : Nat} (C : zC P cL_isCounted RL (some .boolean) 6 mc ms 10 ro) {a0 : Nat} {x1 : Int32} {x2 : Int32} {x3 : Int32} {x4 : Int32} {x5 : Int32} {x6 : Int32} {a7 : Nat} {k68 : zHp → Nat → Nat → Nat → Option (Int32 × zHp × Nat)} (hk68 : ∀ (h : zHp) (sz : Nat) (uc : Nat) (us : Nat), zG P zoIA (k68 h sz uc us) 68 [] [] h sz uc us) {k101 : Int32 → zHp → Nat → Nat → Nat → Option (Int32 × zHp × Nat)} (hk101 : ∀ (x8 : Int32) (h : zHp) (sz : Nat) (uc : Nat) (us : Nat), zG P zoIA (k101 x8 h sz uc us) 101 [(0, .ref a0), (1, .int x1), (2, .int x2), (3, .int x3), (4, .int x4), (5, .int x5), (6, .int x6), (8, .int x8)] [] h sz uc us) : ∀ (n : Nat) (x8 : Int32) (x9 : Int32) (h : zHp) (sz : Nat) (uc : Nat) (us : Nat), zG P zoIA (l_L_isCounted_43 mc ms k68 k101 a0 x1 x2 x3 x4 x5 x6 a7 n x8 x9 h sz uc us) 43 [(0, .ref a0), (1, .int x1), (2, .int x2), (3, .int x3), (4, .int x4), (5, .int x5), (6, .int x6), (7, .ref a7), (8, .int x8), (9, .int x9)] [] h sz uc us := by
  intro n
  induction n with
  | zero =>
    intro x8 x9 h sz uc us
    show zG P zoIA none _ _ _ _ _ _ _
    exact z_none
  | succ n ih =>
    intro x8 x9 h sz uc us
    show zG P zoIA (b_L_isCounted_43 mc ms k68 k101 a0 x1 x2 x3 x4 x5 x6 a7 (l_L_isCounted_43 mc ms k68 k101 a0 x1 x2 x3 x4 x5 x6 a7 n) x8 x9 h sz uc us) _ _ _ _ _ _ _
    unfold b_L_isCounted_43
    refine z_iload C dL_isCounted_43 9 rfl ?_
    refine z_aload C dL_isCounted_45 7 rfl ?_
    refine z_arraylength (t := 0) (ty := .int) C (fun _ => rfl) (by decide) dL_isCounted_47 (fun v8 => ?_)
    refine z_icmp_ge C 101 dL_isCounted_48 (by decide) ?_ ?_
    · refine z_aload_n C dL_isCounted_51 0 rfl ?_
      refine z_iload C dL_isCounted_52 6 rfl ?_
      refine z_iload_n C dL_isCounted_54 1 rfl ?_
      refine z_iload C dL_isCounted_55 9 rfl ?_
      refine z_chk (fun q9 => ?_)
      refine z_callVp C zc_L_195 [.int x6, .int x1, .int x9] (fun l D tc b0 r h => m_X7_wouldCount l D tc ro b0 h) dL_isCounted_57 rfl rfl (Nat.le_of_ble_eq_true rfl) (by decide) (by decide) q9 (fun v10 => ?_)
      refine z_aload C dL_isCounted_60 7 rfl ?_
      refine z_iload C dL_isCounted_62 9 rfl ?_
      refine z_iaload C dL_isCounted_64 (fun v11 => ?_)
      refine z_icmp_eq C 70 dL_isCounted_65 (by decide) ?_ ?_
      · refine z_iload C dL_isCounted_70 8 rfl ?_
        refine z_aload C dL_isCounted_72 7 rfl ?_
        refine z_iload C dL_isCounted_74 9 rfl ?_
        refine z_iaload C dL_isCounted_76 (fun v12 => ?_)
        refine z_aload_n C dL_isCounted_77 0 rfl ?_
        refine z_iload_n C dL_isCounted_78 1 rfl ?_
        refine z_iload C dL_isCounted_79 9 rfl ?_
        refine z_callVp C zc_L_175 [.int x1, .int x9] (fun l D tc b0 r h => m_X7_papers l D tc ro b0 h) dL_isCounted_81 rfl rfl (Nat.le_of_ble_eq_true rfl) (by decide) (by decide) q9 (fun v13 => ?_)
        refine z_icmp_ne C 91 dL_isCounted_84 (by decide) ?_ ?_
        · refine z_iconst C dL_isCounted_87 zi_1 ?_
          refine z_goto C 92 dL_isCounted_88 (by decide) ?_
          exact z_sub [0, 1, 2, 3, 4, 5, 6, 7, 9] rfl (wj_L_isCounted_92 C hk68 hk101 ih)
        refine z_iconst C dL_isCounted_91 zi_0 ?_
        exact z_sub [0, 1, 2, 3, 4, 5, 6, 7, 9] rfl (wj_L_isCounted_92 C hk68 hk101 ih)
      exact z_sub [] rfl (hk68 _ _ _ _)
    exact z_sub [0, 1, 2, 3, 4, 5, 6, 8] rfl (hk101 _ _ _ _ _)
noncomputable def j_L_isCounted_116 (mc ms : Nat) (k68 : zHp → Nat → Nat → Nat → Option (Int32 × zHp × Nat)) (k126 : Int32 → zHp → Nat → Nat → Nat → Option (Int32 × zHp × Nat)) (rec : Int32 → Int32 → zHp → Nat → Nat → Nat → Option (Int32 × zHp × Nat)) (a0 : Nat) (x1 : Int32) (x2 : Int32) (x3 : Int32) (x4 : Int32) (x5 : Int32) (x6 : Int32) (h : zHp) (sz : Nat) (uc : Nat) (us : Nat) : Option (Int32 × zHp × Nat) :=
  zlet (x6 + (1 : Int32)) fun v25 => rec x5 v25 h sz uc us
set_option maxHeartbeats 4000000 in
set_option maxRecDepth 100000 in
theorem wj_L_isCounted_116 {P : zX} {ro : Nat → Nat} {mc ms : Nat} (C : zC P cL_isCounted RL (some .boolean) 6 mc ms 10 ro) {a0 : Nat} {x1 : Int32} {x2 : Int32} {x3 : Int32} {x4 : Int32} {x5 : Int32} {x6 : Int32} {h : zHp} {sz : Nat} {uc : Nat} {us : Nat} {k68 : zHp → Nat → Nat → Nat → Option (Int32 × zHp × Nat)} (hk68 : ∀ (h : zHp) (sz : Nat) (uc : Nat) (us : Nat), zG P zoIA (k68 h sz uc us) 68 [] [] h sz uc us) {k126 : Int32 → zHp → Nat → Nat → Nat → Option (Int32 × zHp × Nat)} (hk126 : ∀ (x5 : Int32) (h : zHp) (sz : Nat) (uc : Nat) (us : Nat), zG P zoIA (k126 x5 h sz uc us) 126 [(0, .ref a0), (1, .int x1), (2, .int x2), (3, .int x3), (4, .int x4), (5, .int x5)] [] h sz uc us) {rec : Int32 → Int32 → zHp → Nat → Nat → Nat → Option (Int32 × zHp × Nat)} (hrec : ∀ (x5 : Int32) (x6 : Int32) (h : zHp) (sz : Nat) (uc : Nat) (us : Nat), zG P zoIA (rec x5 x6 h sz uc us) 18 [(0, .ref a0), (1, .int x1), (2, .int x2), (3, .int x3), (4, .int x4), (5, .int x5), (6, .int x6)] [] h sz uc us) : zG P zoIA (j_L_isCounted_116 mc ms k68 k126 rec a0 x1 x2 x3 x4 x5 x6 h sz uc us) 116 [(0, .ref a0), (1, .int x1), (2, .int x2), (3, .int x3), (4, .int x4), (5, .int x5), (6, .int x6)] [] h sz uc us := by
  unfold j_L_isCounted_116
  refine z_iload C dL_isCounted_116 5 rfl ?_
  refine z_istore (lv' := [(0, .ref a0), (1, .int x1), (2, .int x2), (3, .int x3), (4, .int x4), (5, .int x5), (6, .int x6)]) C dL_isCounted_118 (by decide) rfl ?_
  refine z_iincL C 6 (fun v25 => [(0, .ref a0), (1, .int x1), (2, .int x2), (3, .int x3), (4, .int x4), (5, .int x5), (6, .int v25)]) dL_isCounted_120 rfl zi_1 (by decide) (fun _ => rfl) (fun v25 => ?_)
  refine z_goto C 18 dL_isCounted_123 (by decide) ?_
  exact hrec _ _ _ _ _ _
noncomputable def b_L_isCounted_18 (mc ms : Nat) (k68 : zHp → Nat → Nat → Nat → Option (Int32 × zHp × Nat)) (k126 : Int32 → zHp → Nat → Nat → Nat → Option (Int32 × zHp × Nat)) (a0 : Nat) (x1 : Int32) (x2 : Int32) (x3 : Int32) (x4 : Int32) (rec : Int32 → Int32 → zHp → Nat → Nat → Nat → Option (Int32 × zHp × Nat)) (x5 : Int32) (x6 : Int32) (h : zHp) (sz : Nat) (uc : Nat) (us : Nat) : Option (Int32 × zHp × Nat) :=
  zchk (uc ≤ mc ∧ us ≤ ms) <| (f_X7_count a0 (4 : Int32) h).bind fun v3 => if x6 < v3 then (zchk (uc + 1 ≤ mc ∧ us + 6 ≤ ms) <| zb3 (f_L_slipped 1 6 a0 x6 x1 h sz) fun r7 h5 z6 => l_L_isCounted_43 mc ms (fun h16 z17 c18 u19 => k68 h16 z17 c18 u19) (fun p20 h21 z22 c23 u24 => if x5 < 0 then (if p20 = 0 then (j_L_isCounted_116 mc ms k68 k126 rec a0 x1 x2 x3 x4 x5 x6 h21 z22 c23 u24) else zlet (x6 + (1 : Int32)) fun v26 => rec x6 v26 h21 z22 c23 u24) else j_L_isCounted_116 mc ms k68 k126 rec a0 x1 x2 x3 x4 x5 x6 h21 z22 c23 u24) a0 x1 x2 x3 x4 x5 x6 r7 1000000 (1 : Int32) (0 : Int32) h5 z6 ((uc + 1)) ((us + 6))) else k126 x5 h sz uc us
noncomputable def l_L_isCounted_18 (mc ms : Nat) (k68 : zHp → Nat → Nat → Nat → Option (Int32 × zHp × Nat)) (k126 : Int32 → zHp → Nat → Nat → Nat → Option (Int32 × zHp × Nat)) (a0 : Nat) (x1 : Int32) (x2 : Int32) (x3 : Int32) (x4 : Int32) (n : Nat) : Int32 → Int32 → zHp → Nat → Nat → Nat → Option (Int32 × zHp × Nat) :=
  Nat.rec (motive := fun _ => Int32 → Int32 → zHp → Nat → Nat → Nat → Option (Int32 × zHp × Nat)) (fun _ _ _ _ _ _ => none) (fun _ rec => b_L_isCounted_18 mc ms k68 k126 a0 x1 x2 x3 x4 rec) n
theorem l_L_isCounted_18_s {mc ms : Nat} (k68 : zHp → Nat → Nat → Nat → Option (Int32 × zHp × Nat)) (k126 : Int32 → zHp → Nat → Nat → Nat → Option (Int32 × zHp × Nat)) (a0 : Nat) (x1 : Int32) (x2 : Int32) (x3 : Int32) (x4 : Int32) (n : Nat) (x5 : Int32) (x6 : Int32) (h : zHp) (sz : Nat) (uc : Nat) (us : Nat) : l_L_isCounted_18 mc ms k68 k126 a0 x1 x2 x3 x4 (n + 1) x5 x6 h sz uc us = b_L_isCounted_18 mc ms k68 k126 a0 x1 x2 x3 x4 (l_L_isCounted_18 mc ms k68 k126 a0 x1 x2 x3 x4 n) x5 x6 h sz uc us := rfl
set_option maxHeartbeats 4000000 in
set_option maxRecDepth 100000 in
theorem wl_L_isCounted_18 {P : zX} {ro : Nat → Nat} {mc ms : Nat} (C : zC P cL_isCounted RL (some .boolean) 6 mc ms 10 ro) {a0 : Nat} {x1 : Int32} {x2 : Int32} {x3 : Int32} {x4 : Int32} {k68 : zHp → Nat → Nat → Nat → Option (Int32 × zHp × Nat)} (hk68 : ∀ (h : zHp) (sz : Nat) (uc : Nat) (us : Nat), zG P zoIA (k68 h sz uc us) 68 [] [] h sz uc us) {k126 : Int32 → zHp → Nat → Nat → Nat → Option (Int32 × zHp × Nat)} (hk126 : ∀ (x5 : Int32) (h : zHp) (sz : Nat) (uc : Nat) (us : Nat), zG P zoIA (k126 x5 h sz uc us) 126 [(0, .ref a0), (1, .int x1), (2, .int x2), (3, .int x3), (4, .int x4), (5, .int x5)] [] h sz uc us) : ∀ (n : Nat) (x5 : Int32) (x6 : Int32) (h : zHp) (sz : Nat) (uc : Nat) (us : Nat), zG P zoIA (l_L_isCounted_18 mc ms k68 k126 a0 x1 x2 x3 x4 n x5 x6 h sz uc us) 18 [(0, .ref a0), (1, .int x1), (2, .int x2), (3, .int x3), (4, .int x4), (5, .int x5), (6, .int x6)] [] h sz uc us := by
  intro n
  induction n with
  | zero =>
    intro x5 x6 h sz uc us
    show zG P zoIA none _ _ _ _ _ _ _
    exact z_none
  | succ n ih =>
    intro x5 x6 h sz uc us
    show zG P zoIA (b_L_isCounted_18 mc ms k68 k126 a0 x1 x2 x3 x4 (l_L_isCounted_18 mc ms k68 k126 a0 x1 x2 x3 x4 n) x5 x6 h sz uc us) _ _ _ _ _ _ _
    unfold b_L_isCounted_18
    refine z_iload C dL_isCounted_18 6 rfl ?_
    refine z_aload_n C dL_isCounted_20 0 rfl ?_
    refine z_iconst C dL_isCounted_21 zi_4 ?_
    refine z_chk (fun q2 => ?_)
    refine z_callVp C zc_L_143 [.int (4 : Int32)] (fun l D tc b0 r h => m_X7_count l D tc ro b0 h) dL_isCounted_22 rfl rfl (Nat.le_of_ble_eq_true rfl) (by decide) (by decide) q2 (fun v3 => ?_)
    refine z_icmp_ge C 126 dL_isCounted_25 (by decide) ?_ ?_
    · refine z_aload_n C dL_isCounted_28 0 rfl ?_
      refine z_iload C dL_isCounted_29 6 rfl ?_
      refine z_iload_n C dL_isCounted_31 1 rfl ?_
      refine z_chk (fun q4 => ?_)
      refine z_cSr C zs_L_191 [.ref a0, .int x6, .int x1] (fun l D tc b0 r h => m_L_slipped l D tc ro b0 h) dL_isCounted_32 rfl rfl (Nat.le_of_ble_eq_true rfl) (by decide) (by decide) q4 (fun r7 h5 z6 => ?_)
      refine z_astore (lv' := [(0, .ref a0), (1, .int x1), (2, .int x2), (3, .int x3), (4, .int x4), (5, .int x5), (6, .int x6), (7, .ref r7)]) C dL_isCounted_35 (by decide) rfl ?_
      refine z_iconst C dL_isCounted_37 zi_1 ?_
      refine z_istore (lv' := [(0, .ref a0), (1, .int x1), (2, .int x2), (3, .int x3), (4, .int x4), (5, .int x5), (6, .int x6), (7, .ref r7), (8, .int (1 : Int32))]) C dL_isCounted_38 (by decide) rfl ?_
      refine z_iconst C dL_isCounted_40 zi_0 ?_
      refine z_istore (lv' := [(0, .ref a0), (1, .int x1), (2, .int x2), (3, .int x3), (4, .int x4), (5, .int x5), (6, .int x6), (7, .ref r7), (8, .int (1 : Int32)), (9, .int (0 : Int32))]) C dL_isCounted_41 (by decide) rfl ?_
      refine wl_L_isCounted_43 C (fun h16 z17 c18 u19 => ?_) (fun p20 h21 z22 c23 u24 => ?_) _ _ _ _ _ _ _
      · exact hk68 _ _ _ _
      refine z_iload C dL_isCounted_101 5 rfl ?_
      refine z_if_ge C 116 dL_isCounted_103 (by decide) ?_ ?_
      · refine z_iload C dL_isCounted_106 7 rfl ?_
        refine z_if_eq C 116 dL_isCounted_108 (by decide) ?_ ?_
        · exact z_sub [0, 1, 2, 3, 4, 5, 6] rfl (wj_L_isCounted_116 C hk68 hk126 ih)
        refine z_iload C dL_isCounted_111 6 rfl ?_
        refine z_goto C 118 dL_isCounted_113 (by decide) ?_
        refine z_istore (lv' := [(0, .ref a0), (1, .int x1), (2, .int x2), (3, .int x3), (4, .int x4), (5, .int x6), (6, .int x6), (8, .int p20)]) C dL_isCounted_118 (by decide) rfl ?_
        refine z_iincL C 6 (fun v26 => [(0, .ref a0), (1, .int x1), (2, .int x2), (3, .int x3), (4, .int x4), (5, .int x6), (6, .int v26), (8, .int p20)]) dL_isCounted_120 rfl zi_1 (by decide) (fun _ => rfl) (fun v26 => ?_)
        refine z_goto C 18 dL_isCounted_123 (by decide) ?_
        exact z_sub [0, 1, 2, 3, 4, 5, 6] rfl (ih _ _ _ _ _ _)
      exact z_sub [0, 1, 2, 3, 4, 5, 6] rfl (wj_L_isCounted_116 C hk68 hk126 ih)
    exact z_sub [0, 1, 2, 3, 4, 5] rfl (hk126 _ _ _ _ _)
noncomputable def b_L_isCounted_152 (mc ms : Nat) (k177 : zHp → Nat → Nat → Nat → Option (Int32 × zHp × Nat)) (k185 : zHp → Nat → Nat → Nat → Option (Int32 × zHp × Nat)) (a0 : Nat) (x1 : Int32) (x2 : Int32) (x3 : Int32) (x4 : Int32) (x5 : Int32) (x6 : Int32) (a7 : Nat) (rec : Int32 → zHp → Nat → Nat → Nat → Option (Int32 × zHp × Nat)) (x8 : Int32) (h : zHp) (sz : Nat) (uc : Nat) (us : Nat) : Option (Int32 × zHp × Nat) :=
  (zlen h 0 a7).bind fun v43 => if x8 < v43 then (zchk (uc ≤ mc ∧ us ≤ ms) <| (f_X7_counted a0 x1 x6 x8 h).bind fun v45 => (zaI h 0 a7 x8).bind fun v46 => if v45 = v46 then (zlet (x8 + (1 : Int32)) fun v47 => rec v47 h sz uc us) else k177 h sz uc us) else k185 h sz uc us
noncomputable def l_L_isCounted_152 (mc ms : Nat) (k177 : zHp → Nat → Nat → Nat → Option (Int32 × zHp × Nat)) (k185 : zHp → Nat → Nat → Nat → Option (Int32 × zHp × Nat)) (a0 : Nat) (x1 : Int32) (x2 : Int32) (x3 : Int32) (x4 : Int32) (x5 : Int32) (x6 : Int32) (a7 : Nat) (n : Nat) : Int32 → zHp → Nat → Nat → Nat → Option (Int32 × zHp × Nat) :=
  Nat.rec (motive := fun _ => Int32 → zHp → Nat → Nat → Nat → Option (Int32 × zHp × Nat)) (fun _ _ _ _ _ => none) (fun _ rec => b_L_isCounted_152 mc ms k177 k185 a0 x1 x2 x3 x4 x5 x6 a7 rec) n
theorem l_L_isCounted_152_s {mc ms : Nat} (k177 : zHp → Nat → Nat → Nat → Option (Int32 × zHp × Nat)) (k185 : zHp → Nat → Nat → Nat → Option (Int32 × zHp × Nat)) (a0 : Nat) (x1 : Int32) (x2 : Int32) (x3 : Int32) (x4 : Int32) (x5 : Int32) (x6 : Int32) (a7 : Nat) (n : Nat) (x8 : Int32) (h : zHp) (sz : Nat) (uc : Nat) (us : Nat) : l_L_isCounted_152 mc ms k177 k185 a0 x1 x2 x3 x4 x5 x6 a7 (n + 1) x8 h sz uc us = b_L_isCounted_152 mc ms k177 k185 a0 x1 x2 x3 x4 x5 x6 a7 (l_L_isCounted_152 mc ms k177 k185 a0 x1 x2 x3 x4 x5 x6 a7 n) x8 h sz uc us := rfl
set_option maxHeartbeats 4000000 in
set_option maxRecDepth 100000 in
theorem wl_L_isCounted_152 {P : zX} {ro : Nat → Nat} {mc ms : Nat} (C : zC P cL_isCounted RL (some .boolean) 6 mc ms 10 ro) {a0 : Nat} {x1 : Int32} {x2 : Int32} {x3 : Int32} {x4 : Int32} {x5 : Int32} {x6 : Int32} {a7 : Nat} {k177 : zHp → Nat → Nat → Nat → Option (Int32 × zHp × Nat)} (hk177 : ∀ (h : zHp) (sz : Nat) (uc : Nat) (us : Nat), zG P zoIA (k177 h sz uc us) 177 [] [] h sz uc us) {k185 : zHp → Nat → Nat → Nat → Option (Int32 × zHp × Nat)} (hk185 : ∀ (h : zHp) (sz : Nat) (uc : Nat) (us : Nat), zG P zoIA (k185 h sz uc us) 185 [(0, .ref a0), (1, .int x1), (2, .int x2), (3, .int x3), (4, .int x4), (5, .int x5), (6, .int x6)] [] h sz uc us) : ∀ (n : Nat) (x8 : Int32) (h : zHp) (sz : Nat) (uc : Nat) (us : Nat), zG P zoIA (l_L_isCounted_152 mc ms k177 k185 a0 x1 x2 x3 x4 x5 x6 a7 n x8 h sz uc us) 152 [(0, .ref a0), (1, .int x1), (2, .int x2), (3, .int x3), (4, .int x4), (5, .int x5), (6, .int x6), (7, .ref a7), (8, .int x8)] [] h sz uc us := by
  intro n
  induction n with
  | zero =>
    intro x8 h sz uc us
    show zG P zoIA none _ _ _ _ _ _ _
    exact z_none
  | succ n ih =>
    intro x8 h sz uc us
    show zG P zoIA (b_L_isCounted_152 mc ms k177 k185 a0 x1 x2 x3 x4 x5 x6 a7 (l_L_isCounted_152 mc ms k177 k185 a0 x1 x2 x3 x4 x5 x6 a7 n) x8 h sz uc us) _ _ _ _ _ _ _
    unfold b_L_isCounted_152
    refine z_iload C dL_isCounted_152 8 rfl ?_
    refine z_aload C dL_isCounted_154 7 rfl ?_
    refine z_arraylength (t := 0) (ty := .int) C (fun _ => rfl) (by decide) dL_isCounted_156 (fun v43 => ?_)
    refine z_icmp_ge C 185 dL_isCounted_157 (by decide) ?_ ?_
    · refine z_aload_n C dL_isCounted_160 0 rfl ?_
      refine z_iload_n C dL_isCounted_161 1 rfl ?_
      refine z_iload C dL_isCounted_162 6 rfl ?_
      refine z_iload C dL_isCounted_164 8 rfl ?_
      refine z_chk (fun q44 => ?_)
      refine z_callVp C zc_L_183 [.int x1, .int x6, .int x8] (fun l D tc b0 r h => m_X7_counted l D tc ro b0 h) dL_isCounted_166 rfl rfl (Nat.le_of_ble_eq_true rfl) (by decide) (by decide) q44 (fun v45 => ?_)
      refine z_aload C dL_isCounted_169 7 rfl ?_
      refine z_iload C dL_isCounted_171 8 rfl ?_
      refine z_iaload C dL_isCounted_173 (fun v46 => ?_)
      refine z_icmp_eq C 179 dL_isCounted_174 (by decide) ?_ ?_
      · refine z_iincL C 8 (fun v47 => [(0, .ref a0), (1, .int x1), (2, .int x2), (3, .int x3), (4, .int x4), (5, .int x5), (6, .int x6), (7, .ref a7), (8, .int v47)]) dL_isCounted_179 rfl zi_1 (by decide) (fun _ => rfl) (fun v47 => ?_)
        refine z_goto C 152 dL_isCounted_182 (by decide) ?_
        exact ih _ _ _ _ _
      exact z_sub [] rfl (hk177 _ _ _ _)
    exact z_sub [0, 1, 2, 3, 4, 5, 6] rfl (hk185 _ _ _ _)
noncomputable def b_L_isCounted_129 (mc ms : Nat) (k177 : zHp → Nat → Nat → Nat → Option (Int32 × zHp × Nat)) (k191 : zHp → Nat → Nat → Nat → Option (Int32 × zHp × Nat)) (a0 : Nat) (x1 : Int32) (x2 : Int32) (x3 : Int32) (x4 : Int32) (x5 : Int32) (rec : Int32 → zHp → Nat → Nat → Nat → Option (Int32 × zHp × Nat)) (x6 : Int32) (h : zHp) (sz : Nat) (uc : Nat) (us : Nat) : Option (Int32 × zHp × Nat) :=
  if x6 < x2 then (zchk (uc ≤ mc ∧ us ≤ ms) <| (f_X7_countedAt a0 x1 x6 h).bind fun v38 => zchk (uc + 1 ≤ mc ∧ us + 6 ≤ ms) <| zb3 (f_L_slipped 1 6 a0 v38 x1 h sz) fun r42 h40 z41 => l_L_isCounted_152 mc ms (fun h48 z49 c50 u51 => k177 h48 z49 c50 u51) (fun h52 z53 c54 u55 => zlet (x6 + (1 : Int32)) fun v56 => rec v56 h52 z53 c54 u55) a0 x1 x2 x3 x4 x5 x6 r42 1000000 (0 : Int32) h40 z41 ((uc + 1)) ((us + 6))) else k191 h sz uc us
noncomputable def l_L_isCounted_129 (mc ms : Nat) (k177 : zHp → Nat → Nat → Nat → Option (Int32 × zHp × Nat)) (k191 : zHp → Nat → Nat → Nat → Option (Int32 × zHp × Nat)) (a0 : Nat) (x1 : Int32) (x2 : Int32) (x3 : Int32) (x4 : Int32) (x5 : Int32) (n : Nat) : Int32 → zHp → Nat → Nat → Nat → Option (Int32 × zHp × Nat) :=
  Nat.rec (motive := fun _ => Int32 → zHp → Nat → Nat → Nat → Option (Int32 × zHp × Nat)) (fun _ _ _ _ _ => none) (fun _ rec => b_L_isCounted_129 mc ms k177 k191 a0 x1 x2 x3 x4 x5 rec) n
theorem l_L_isCounted_129_s {mc ms : Nat} (k177 : zHp → Nat → Nat → Nat → Option (Int32 × zHp × Nat)) (k191 : zHp → Nat → Nat → Nat → Option (Int32 × zHp × Nat)) (a0 : Nat) (x1 : Int32) (x2 : Int32) (x3 : Int32) (x4 : Int32) (x5 : Int32) (n : Nat) (x6 : Int32) (h : zHp) (sz : Nat) (uc : Nat) (us : Nat) : l_L_isCounted_129 mc ms k177 k191 a0 x1 x2 x3 x4 x5 (n + 1) x6 h sz uc us = b_L_isCounted_129 mc ms k177 k191 a0 x1 x2 x3 x4 x5 (l_L_isCounted_129 mc ms k177 k191 a0 x1 x2 x3 x4 x5 n) x6 h sz uc us := rfl
set_option maxHeartbeats 4000000 in
set_option maxRecDepth 100000 in
theorem wl_L_isCounted_129 {P : zX} {ro : Nat → Nat} {mc ms : Nat} (C : zC P cL_isCounted RL (some .boolean) 6 mc ms 10 ro) {a0 : Nat} {x1 : Int32} {x2 : Int32} {x3 : Int32} {x4 : Int32} {x5 : Int32} {k177 : zHp → Nat → Nat → Nat → Option (Int32 × zHp × Nat)} (hk177 : ∀ (h : zHp) (sz : Nat) (uc : Nat) (us : Nat), zG P zoIA (k177 h sz uc us) 177 [] [] h sz uc us) {k191 : zHp → Nat → Nat → Nat → Option (Int32 × zHp × Nat)} (hk191 : ∀ (h : zHp) (sz : Nat) (uc : Nat) (us : Nat), zG P zoIA (k191 h sz uc us) 191 [(0, .ref a0), (1, .int x1), (2, .int x2), (3, .int x3), (4, .int x4), (5, .int x5)] [] h sz uc us) : ∀ (n : Nat) (x6 : Int32) (h : zHp) (sz : Nat) (uc : Nat) (us : Nat), zG P zoIA (l_L_isCounted_129 mc ms k177 k191 a0 x1 x2 x3 x4 x5 n x6 h sz uc us) 129 [(0, .ref a0), (1, .int x1), (2, .int x2), (3, .int x3), (4, .int x4), (5, .int x5), (6, .int x6)] [] h sz uc us := by
  intro n
  induction n with
  | zero =>
    intro x6 h sz uc us
    show zG P zoIA none _ _ _ _ _ _ _
    exact z_none
  | succ n ih =>
    intro x6 h sz uc us
    show zG P zoIA (b_L_isCounted_129 mc ms k177 k191 a0 x1 x2 x3 x4 x5 (l_L_isCounted_129 mc ms k177 k191 a0 x1 x2 x3 x4 x5 n) x6 h sz uc us) _ _ _ _ _ _ _
    unfold b_L_isCounted_129
    refine z_iload C dL_isCounted_129 6 rfl ?_
    refine z_iload_n C dL_isCounted_131 2 rfl ?_
    refine z_icmp_ge C 191 dL_isCounted_132 (by decide) ?_ ?_
    · refine z_aload_n C dL_isCounted_135 0 rfl ?_
      refine z_aload_n C dL_isCounted_136 0 rfl ?_
      refine z_iload_n C dL_isCounted_137 1 rfl ?_
      refine z_iload C dL_isCounted_138 6 rfl ?_
      refine z_chk (fun q37 => ?_)
      refine z_callVp C zc_L_180 [.int x1, .int x6] (fun l D tc b0 r h => m_X7_countedAt l D tc ro b0 h) dL_isCounted_140 rfl rfl (Nat.le_of_ble_eq_true rfl) (by decide) (by decide) q37 (fun v38 => ?_)
      refine z_iload_n C dL_isCounted_143 1 rfl ?_
      refine z_chk (fun q39 => ?_)
      refine z_cSr C zs_L_191 [.ref a0, .int v38, .int x1] (fun l D tc b0 r h => m_L_slipped l D tc ro b0 h) dL_isCounted_144 rfl rfl (Nat.le_of_ble_eq_true rfl) (by decide) (by decide) q39 (fun r42 h40 z41 => ?_)
      refine z_astore (lv' := [(0, .ref a0), (1, .int x1), (2, .int x2), (3, .int x3), (4, .int x4), (5, .int x5), (6, .int x6), (7, .ref r42)]) C dL_isCounted_147 (by decide) rfl ?_
      refine z_iconst C dL_isCounted_149 zi_0 ?_
      refine z_istore (lv' := [(0, .ref a0), (1, .int x1), (2, .int x2), (3, .int x3), (4, .int x4), (5, .int x5), (6, .int x6), (7, .ref r42), (8, .int (0 : Int32))]) C dL_isCounted_150 (by decide) rfl ?_
      refine wl_L_isCounted_152 C (fun h48 z49 c50 u51 => ?_) (fun h52 z53 c54 u55 => ?_) _ _ _ _ _ _
      · exact hk177 _ _ _ _
      refine z_iincL C 6 (fun v56 => [(0, .ref a0), (1, .int x1), (2, .int x2), (3, .int x3), (4, .int x4), (5, .int x5), (6, .int v56)]) dL_isCounted_185 rfl zi_1 (by decide) (fun _ => rfl) (fun v56 => ?_)
      refine z_goto C 129 dL_isCounted_188 (by decide) ?_
      exact ih _ _ _ _ _
    exact z_sub [0, 1, 2, 3, 4, 5] rfl (hk191 _ _ _ _)
noncomputable def j_L_isCounted_251 (mc ms : Nat) (k238 : zHp → Nat → Nat → Nat → Option (Int32 × zHp × Nat)) (k271 : Int32 → Int32 → zHp → Nat → Nat → Nat → Option (Int32 × zHp × Nat)) (rec : Int32 → Int32 → Int32 → zHp → Nat → Nat → Nat → Option (Int32 × zHp × Nat)) (a0 : Nat) (x1 : Int32) (x2 : Int32) (x4 : Int32) (x5 : Int32) (x6 : Int32) (s0 : Int32) (s1 : Int32) (h : zHp) (sz : Nat) (uc : Nat) (us : Nat) : Option (Int32 × zHp × Nat) :=
  zlet (s0 + s1) fun v72 => zchk (uc ≤ mc ∧ us ≤ ms) <| (f_X7_papers a0 x1 x6 h).bind fun v74 => zlet (x4 + v74) fun v75 => zlet (x6 + (1 : Int32)) fun v76 => rec v72 v75 v76 h sz uc us
set_option maxHeartbeats 4000000 in
set_option maxRecDepth 100000 in
theorem wj_L_isCounted_251 {P : zX} {ro : Nat → Nat} {mc ms : Nat} (C : zC P cL_isCounted RL (some .boolean) 6 mc ms 10 ro) {a0 : Nat} {x1 : Int32} {x2 : Int32} {x4 : Int32} {x5 : Int32} {x6 : Int32} {s0 : Int32} {s1 : Int32} {h : zHp} {sz : Nat} {uc : Nat} {us : Nat} {k238 : zHp → Nat → Nat → Nat → Option (Int32 × zHp × Nat)} (hk238 : ∀ (h : zHp) (sz : Nat) (uc : Nat) (us : Nat), zG P zoIA (k238 h sz uc us) 238 [] [] h sz uc us) {k271 : Int32 → Int32 → zHp → Nat → Nat → Nat → Option (Int32 × zHp × Nat)} (hk271 : ∀ (x3 : Int32) (x4 : Int32) (h : zHp) (sz : Nat) (uc : Nat) (us : Nat), zG P zoIA (k271 x3 x4 h sz uc us) 271 [(0, .ref a0), (1, .int x1), (2, .int x2), (3, .int x3), (4, .int x4), (5, .int x5)] [] h sz uc us) {rec : Int32 → Int32 → Int32 → zHp → Nat → Nat → Nat → Option (Int32 × zHp × Nat)} (hrec : ∀ (x3 : Int32) (x4 : Int32) (x6 : Int32) (h : zHp) (sz : Nat) (uc : Nat) (us : Nat), zG P zoIA (rec x3 x4 x6 h sz uc us) 194 [(0, .ref a0), (1, .int x1), (2, .int x2), (3, .int x3), (4, .int x4), (5, .int x5), (6, .int x6)] [] h sz uc us) : zG P zoIA (j_L_isCounted_251 mc ms k238 k271 rec a0 x1 x2 x4 x5 x6 s0 s1 h sz uc us) 251 [(0, .ref a0), (1, .int x1), (2, .int x2), (4, .int x4), (5, .int x5), (6, .int x6)] [.int s1, .int s0] h sz uc us := by
  unfold j_L_isCounted_251
  refine z_iadd C dL_isCounted_251 ?_
  refine z_istore_nL C (fun v72 => [(0, .ref a0), (1, .int x1), (2, .int x2), (3, .int v72), (4, .int x4), (5, .int x5), (6, .int x6)]) dL_isCounted_252 (by decide) (fun _ => rfl) (fun v72 => ?_)
  refine z_iload C dL_isCounted_253 4 rfl ?_
  refine z_aload_n C dL_isCounted_255 0 rfl ?_
  refine z_iload_n C dL_isCounted_256 1 rfl ?_
  refine z_iload C dL_isCounted_257 6 rfl ?_
  refine z_chk (fun q73 => ?_)
  refine z_callVp C zc_L_175 [.int x1, .int x6] (fun l D tc b0 r h => m_X7_papers l D tc ro b0 h) dL_isCounted_259 rfl rfl (Nat.le_of_ble_eq_true rfl) (by decide) (by decide) q73 (fun v74 => ?_)
  refine z_iadd C dL_isCounted_262 ?_
  refine z_istoreL C (fun v75 => [(0, .ref a0), (1, .int x1), (2, .int x2), (3, .int v72), (4, .int v75), (5, .int x5), (6, .int x6)]) dL_isCounted_263 (by decide) (fun _ => rfl) (fun v75 => ?_)
  refine z_iincL C 6 (fun v76 => [(0, .ref a0), (1, .int x1), (2, .int x2), (3, .int v72), (4, .int v75), (5, .int x5), (6, .int v76)]) dL_isCounted_265 rfl zi_1 (by decide) (fun _ => rfl) (fun v76 => ?_)
  refine z_goto C 194 dL_isCounted_268 (by decide) ?_
  exact hrec _ _ _ _ _ _ _
noncomputable def j_L_isCounted_224 (mc ms : Nat) (k238 : zHp → Nat → Nat → Nat → Option (Int32 × zHp × Nat)) (k271 : Int32 → Int32 → zHp → Nat → Nat → Nat → Option (Int32 × zHp × Nat)) (rec : Int32 → Int32 → Int32 → zHp → Nat → Nat → Nat → Option (Int32 × zHp × Nat)) (a0 : Nat) (x1 : Int32) (x2 : Int32) (x3 : Int32) (x4 : Int32) (x5 : Int32) (x6 : Int32) (s0 : Int32) (h : zHp) (sz : Nat) (uc : Nat) (us : Nat) : Option (Int32 × zHp × Nat) :=
  zchk (uc ≤ mc ∧ us ≤ ms) <| (f_X7_result a0 x1 x6 h).bind fun v71 => if v71 = s0 then (if x2 = 0 then (j_L_isCounted_251 mc ms k238 k271 rec a0 x1 x2 x4 x5 x6 x3 (0 : Int32) h sz uc us) else j_L_isCounted_251 mc ms k238 k271 rec a0 x1 x2 x4 x5 x6 x3 s0 h sz uc us) else k238 h sz uc us
set_option maxHeartbeats 4000000 in
set_option maxRecDepth 100000 in
theorem wj_L_isCounted_224 {P : zX} {ro : Nat → Nat} {mc ms : Nat} (C : zC P cL_isCounted RL (some .boolean) 6 mc ms 10 ro) {a0 : Nat} {x1 : Int32} {x2 : Int32} {x3 : Int32} {x4 : Int32} {x5 : Int32} {x6 : Int32} {s0 : Int32} {h : zHp} {sz : Nat} {uc : Nat} {us : Nat} {k238 : zHp → Nat → Nat → Nat → Option (Int32 × zHp × Nat)} (hk238 : ∀ (h : zHp) (sz : Nat) (uc : Nat) (us : Nat), zG P zoIA (k238 h sz uc us) 238 [] [] h sz uc us) {k271 : Int32 → Int32 → zHp → Nat → Nat → Nat → Option (Int32 × zHp × Nat)} (hk271 : ∀ (x3 : Int32) (x4 : Int32) (h : zHp) (sz : Nat) (uc : Nat) (us : Nat), zG P zoIA (k271 x3 x4 h sz uc us) 271 [(0, .ref a0), (1, .int x1), (2, .int x2), (3, .int x3), (4, .int x4), (5, .int x5)] [] h sz uc us) {rec : Int32 → Int32 → Int32 → zHp → Nat → Nat → Nat → Option (Int32 × zHp × Nat)} (hrec : ∀ (x3 : Int32) (x4 : Int32) (x6 : Int32) (h : zHp) (sz : Nat) (uc : Nat) (us : Nat), zG P zoIA (rec x3 x4 x6 h sz uc us) 194 [(0, .ref a0), (1, .int x1), (2, .int x2), (3, .int x3), (4, .int x4), (5, .int x5), (6, .int x6)] [] h sz uc us) : zG P zoIA (j_L_isCounted_224 mc ms k238 k271 rec a0 x1 x2 x3 x4 x5 x6 s0 h sz uc us) 224 [(0, .ref a0), (1, .int x1), (2, .int x2), (3, .int x3), (4, .int x4), (5, .int x5), (6, .int x6)] [.int s0] h sz uc us := by
  unfold j_L_isCounted_224
  refine z_istore (lv' := [(0, .ref a0), (1, .int x1), (2, .int x2), (3, .int x3), (4, .int x4), (5, .int x5), (6, .int x6), (7, .int s0)]) C dL_isCounted_224 (by decide) rfl ?_
  refine z_aload_n C dL_isCounted_226 0 rfl ?_
  refine z_iload_n C dL_isCounted_227 1 rfl ?_
  refine z_iload C dL_isCounted_228 6 rfl ?_
  refine z_chk (fun q70 => ?_)
  refine z_callVp C zc_L_198 [.int x1, .int x6] (fun l D tc b0 r h => m_X7_result l D tc ro b0 h) dL_isCounted_230 rfl rfl (Nat.le_of_ble_eq_true rfl) (by decide) (by decide) q70 (fun v71 => ?_)
  refine z_iload C dL_isCounted_233 7 rfl ?_
  refine z_icmp_eq C 240 dL_isCounted_235 (by decide) ?_ ?_
  · refine z_iload_n C dL_isCounted_240 3 rfl ?_
    refine z_iload_n C dL_isCounted_241 2 rfl ?_
    refine z_if_ne C 249 dL_isCounted_242 (by decide) ?_ ?_
    · refine z_iconst C dL_isCounted_245 zi_0 ?_
      refine z_goto C 251 dL_isCounted_246 (by decide) ?_
      exact z_sub [0, 1, 2, 4, 5, 6] rfl (wj_L_isCounted_251 C hk238 hk271 hrec)
    refine z_iload C dL_isCounted_249 7 rfl ?_
    exact z_sub [0, 1, 2, 4, 5, 6] rfl (wj_L_isCounted_251 C hk238 hk271 hrec)
  exact z_sub [] rfl (hk238 _ _ _ _)
noncomputable def b_L_isCounted_194 (mc ms : Nat) (k238 : zHp → Nat → Nat → Nat → Option (Int32 × zHp × Nat)) (k271 : Int32 → Int32 → zHp → Nat → Nat → Nat → Option (Int32 × zHp × Nat)) (a0 : Nat) (x1 : Int32) (x2 : Int32) (x5 : Int32) (rec : Int32 → Int32 → Int32 → zHp → Nat → Nat → Nat → Option (Int32 × zHp × Nat)) (x3 : Int32) (x4 : Int32) (x6 : Int32) (h : zHp) (sz : Nat) (uc : Nat) (us : Nat) : Option (Int32 × zHp × Nat) :=
  zchk (uc ≤ mc ∧ us ≤ ms) <| (f_X7_count a0 (0 : Int32) h).bind fun v67 => if v67 < x6 then (k271 x3 x4 h sz uc us) else if x2 = 0 then (j_L_isCounted_224 mc ms k238 k271 rec a0 x1 x2 x3 x4 x5 x6 (-1 : Int32) h sz uc us) else (f_L_valid a0 x1 h).bind fun v68 => (f_X7_counted a0 x1 v68 x6 h).bind fun v69 => j_L_isCounted_224 mc ms k238 k271 rec a0 x1 x2 x3 x4 x5 x6 v69 h sz uc us
noncomputable def l_L_isCounted_194 (mc ms : Nat) (k238 : zHp → Nat → Nat → Nat → Option (Int32 × zHp × Nat)) (k271 : Int32 → Int32 → zHp → Nat → Nat → Nat → Option (Int32 × zHp × Nat)) (a0 : Nat) (x1 : Int32) (x2 : Int32) (x5 : Int32) (n : Nat) : Int32 → Int32 → Int32 → zHp → Nat → Nat → Nat → Option (Int32 × zHp × Nat) :=
  Nat.rec (motive := fun _ => Int32 → Int32 → Int32 → zHp → Nat → Nat → Nat → Option (Int32 × zHp × Nat)) (fun _ _ _ _ _ _ _ => none) (fun _ rec => b_L_isCounted_194 mc ms k238 k271 a0 x1 x2 x5 rec) n
theorem l_L_isCounted_194_s {mc ms : Nat} (k238 : zHp → Nat → Nat → Nat → Option (Int32 × zHp × Nat)) (k271 : Int32 → Int32 → zHp → Nat → Nat → Nat → Option (Int32 × zHp × Nat)) (a0 : Nat) (x1 : Int32) (x2 : Int32) (x5 : Int32) (n : Nat) (x3 : Int32) (x4 : Int32) (x6 : Int32) (h : zHp) (sz : Nat) (uc : Nat) (us : Nat) : l_L_isCounted_194 mc ms k238 k271 a0 x1 x2 x5 (n + 1) x3 x4 x6 h sz uc us = b_L_isCounted_194 mc ms k238 k271 a0 x1 x2 x5 (l_L_isCounted_194 mc ms k238 k271 a0 x1 x2 x5 n) x3 x4 x6 h sz uc us := rfl
set_option maxHeartbeats 4000000 in
set_option maxRecDepth 100000 in
theorem wl_L_isCounted_194 {P : zX} {ro : Nat → Nat} {mc ms : Nat} (C : zC P cL_isCounted RL (some .boolean) 6 mc ms 10 ro) {a0 : Nat} {x1 : Int32} {x2 : Int32} {x5 : Int32} {k238 : zHp → Nat → Nat → Nat → Option (Int32 × zHp × Nat)} (hk238 : ∀ (h : zHp) (sz : Nat) (uc : Nat) (us : Nat), zG P zoIA (k238 h sz uc us) 238 [] [] h sz uc us) {k271 : Int32 → Int32 → zHp → Nat → Nat → Nat → Option (Int32 × zHp × Nat)} (hk271 : ∀ (x3 : Int32) (x4 : Int32) (h : zHp) (sz : Nat) (uc : Nat) (us : Nat), zG P zoIA (k271 x3 x4 h sz uc us) 271 [(0, .ref a0), (1, .int x1), (2, .int x2), (3, .int x3), (4, .int x4), (5, .int x5)] [] h sz uc us) : ∀ (n : Nat) (x3 : Int32) (x4 : Int32) (x6 : Int32) (h : zHp) (sz : Nat) (uc : Nat) (us : Nat), zG P zoIA (l_L_isCounted_194 mc ms k238 k271 a0 x1 x2 x5 n x3 x4 x6 h sz uc us) 194 [(0, .ref a0), (1, .int x1), (2, .int x2), (3, .int x3), (4, .int x4), (5, .int x5), (6, .int x6)] [] h sz uc us := by
  intro n
  induction n with
  | zero =>
    intro x3 x4 x6 h sz uc us
    show zG P zoIA none _ _ _ _ _ _ _
    exact z_none
  | succ n ih =>
    intro x3 x4 x6 h sz uc us
    show zG P zoIA (b_L_isCounted_194 mc ms k238 k271 a0 x1 x2 x5 (l_L_isCounted_194 mc ms k238 k271 a0 x1 x2 x5 n) x3 x4 x6 h sz uc us) _ _ _ _ _ _ _
    unfold b_L_isCounted_194
    refine z_iload C dL_isCounted_194 6 rfl ?_
    refine z_aload_n C dL_isCounted_196 0 rfl ?_
    refine z_iconst C dL_isCounted_197 zi_0 ?_
    refine z_chk (fun q66 => ?_)
    refine z_callVp C zc_L_143 [.int (0 : Int32)] (fun l D tc b0 r h => m_X7_count l D tc ro b0 h) dL_isCounted_198 rfl rfl (Nat.le_of_ble_eq_true rfl) (by decide) (by decide) q66 (fun v67 => ?_)
    refine z_icmp_gt C 271 dL_isCounted_201 (by decide) ?_ ?_
    · exact z_sub [0, 1, 2, 3, 4, 5] rfl (hk271 _ _ _ _ _ _)
    refine z_iload_n C dL_isCounted_204 2 rfl ?_
    refine z_if_ne C 212 dL_isCounted_205 (by decide) ?_ ?_
    · refine z_iconst C dL_isCounted_208 zi_m1 ?_
      refine z_goto C 224 dL_isCounted_209 (by decide) ?_
      exact wj_L_isCounted_224 C hk238 hk271 ih
    refine z_aload_n C dL_isCounted_212 0 rfl ?_
    refine z_iload_n C dL_isCounted_213 1 rfl ?_
    refine z_aload_n C dL_isCounted_214 0 rfl ?_
    refine z_iload_n C dL_isCounted_215 1 rfl ?_
    refine z_callSp C zs_L_187 [.ref a0, .int x1] (fun l D tc b0 r h => m_L_valid l D tc ro b0 h) dL_isCounted_216 rfl rfl (Nat.le_of_ble_eq_true rfl) (by decide) (by decide) q66 (fun v68 => ?_)
    refine z_iload C dL_isCounted_219 6 rfl ?_
    refine z_callVp C zc_L_183 [.int x1, .int v68, .int x6] (fun l D tc b0 r h => m_X7_counted l D tc ro b0 h) dL_isCounted_221 rfl rfl (Nat.le_of_ble_eq_true rfl) (by decide) (by decide) q66 (fun v69 => ?_)
    exact wj_L_isCounted_224 C hk238 hk271 ih
noncomputable def j_L_isCounted_358 (mc ms : Nat) (a0 : Nat) (x1 : Int32) (x2 : Int32) (h : zHp) (sz : Nat) (uc : Nat) (us : Nat) : Option (Int32 × zHp × Nat) :=
  zchk (uc ≤ mc ∧ us ≤ ms) <| (f_X7_counted a0 x1 x2 (0 : Int32) h).bind fun v99 => if v99 = (-1 : Int32) then ((f_X7_countedAt a0 x1 (-1 : Int32) h).bind fun v100 => if v100 = (-1 : Int32) then (some ((1 : Int32), h, sz)) else some ((0 : Int32), h, sz)) else some ((0 : Int32), h, sz)
set_option maxHeartbeats 4000000 in
set_option maxRecDepth 100000 in
theorem wj_L_isCounted_358 {P : zX} {ro : Nat → Nat} {mc ms : Nat} (C : zC P cL_isCounted RL (some .boolean) 6 mc ms 10 ro) {a0 : Nat} {x1 : Int32} {x2 : Int32} {h : zHp} {sz : Nat} {uc : Nat} {us : Nat}  : zG P zoIA (j_L_isCounted_358 mc ms a0 x1 x2 h sz uc us) 358 [(0, .ref a0), (1, .int x1), (2, .int x2)] [] h sz uc us := by
  unfold j_L_isCounted_358
  refine z_aload_n C dL_isCounted_358 0 rfl ?_
  refine z_iload_n C dL_isCounted_359 1 rfl ?_
  refine z_iload_n C dL_isCounted_360 2 rfl ?_
  refine z_iconst C dL_isCounted_361 zi_0 ?_
  refine z_chk (fun q98 => ?_)
  refine z_callVp C zc_L_183 [.int x1, .int x2, .int (0 : Int32)] (fun l D tc b0 r h => m_X7_counted l D tc ro b0 h) dL_isCounted_362 rfl rfl (Nat.le_of_ble_eq_true rfl) (by decide) (by decide) q98 (fun v99 => ?_)
  refine z_iconst C dL_isCounted_365 zi_m1 ?_
  refine z_icmp_ne C 383 dL_isCounted_366 (by decide) ?_ ?_
  · refine z_aload_n C dL_isCounted_369 0 rfl ?_
    refine z_iload_n C dL_isCounted_370 1 rfl ?_
    refine z_iconst C dL_isCounted_371 zi_m1 ?_
    refine z_callVp C zc_L_180 [.int x1, .int (-1 : Int32)] (fun l D tc b0 r h => m_X7_countedAt l D tc ro b0 h) dL_isCounted_372 rfl rfl (Nat.le_of_ble_eq_true rfl) (by decide) (by decide) q98 (fun v100 => ?_)
    refine z_iconst C dL_isCounted_375 zi_m1 ?_
    refine z_icmp_ne C 383 dL_isCounted_376 (by decide) ?_ ?_
    · refine z_iconst C dL_isCounted_379 zi_1 ?_
      refine z_goto C 384 dL_isCounted_380 (by decide) ?_
      exact z_kreturnA C rfl dL_isCounted_384 q98
    refine z_iconst C dL_isCounted_383 zi_0 ?_
    exact z_kreturnA C rfl dL_isCounted_384 q98
  refine z_iconst C dL_isCounted_383 zi_0 ?_
  exact z_kreturnA C rfl dL_isCounted_384 q98
noncomputable def j_L_isCounted_345 (mc ms : Nat) (a0 : Nat) (x1 : Int32) (x2 : Int32) (x3 : Int32) (x4 : Int32) (s0 : Int32) (s1 : Int32) (h : zHp) (sz : Nat) (uc : Nat) (us : Nat) : Option (Int32 × zHp × Nat) :=
  if s0 = s1 then (if x2 = 0 then (j_L_isCounted_358 mc ms a0 x1 x2 h sz uc us) else if x3 = x4 then (j_L_isCounted_358 mc ms a0 x1 x2 h sz uc us) else zchk (uc ≤ mc ∧ us ≤ ms) <| some ((0 : Int32), h, sz)) else zchk (uc ≤ mc ∧ us ≤ ms) <| some ((0 : Int32), h, sz)
set_option maxHeartbeats 4000000 in
set_option maxRecDepth 100000 in
theorem wj_L_isCounted_345 {P : zX} {ro : Nat → Nat} {mc ms : Nat} (C : zC P cL_isCounted RL (some .boolean) 6 mc ms 10 ro) {a0 : Nat} {x1 : Int32} {x2 : Int32} {x3 : Int32} {x4 : Int32} {s0 : Int32} {s1 : Int32} {h : zHp} {sz : Nat} {uc : Nat} {us : Nat}  : zG P zoIA (j_L_isCounted_345 mc ms a0 x1 x2 x3 x4 s0 s1 h sz uc us) 345 [(0, .ref a0), (1, .int x1), (2, .int x2), (3, .int x3), (4, .int x4)] [.int s1, .int s0] h sz uc us := by
  unfold j_L_isCounted_345
  refine z_icmp_ne C 383 dL_isCounted_345 (by decide) ?_ ?_
  · refine z_iload_n C dL_isCounted_348 2 rfl ?_
    refine z_if_eq C 358 dL_isCounted_349 (by decide) ?_ ?_
    · exact z_sub [0, 1, 2] rfl (wj_L_isCounted_358 C)
    refine z_iload_n C dL_isCounted_352 3 rfl ?_
    refine z_iload C dL_isCounted_353 4 rfl ?_
    refine z_icmp_ne C 383 dL_isCounted_355 (by decide) ?_ ?_
    · exact z_sub [0, 1, 2] rfl (wj_L_isCounted_358 C)
    refine z_iconst C dL_isCounted_383 zi_0 ?_
    refine z_chk (fun q101 => ?_)
    exact z_kreturnA C rfl dL_isCounted_384 q101
  refine z_iconst C dL_isCounted_383 zi_0 ?_
  refine z_chk (fun q97 => ?_)
  exact z_kreturnA C rfl dL_isCounted_384 q97
noncomputable def j_L_isCounted_287 (mc ms : Nat) (a0 : Nat) (x1 : Int32) (x2 : Int32) (x3 : Int32) (x4 : Int32) (x5 : Int32) (s0 : Int32) (h : zHp) (sz : Nat) (uc : Nat) (us : Nat) : Option (Int32 × zHp × Nat) :=
  zchk (uc ≤ mc ∧ us ≤ ms) <| (f_X7_rightTable a0 x1 h).bind fun v91 => if v91 = x5 then ((f_X7_isConfirmed a0 x1 h).bind fun v92 => (f_L_isSure a0 x1 h).bind fun v93 => if v92 = v93 then ((f_X7_surplus a0 x1 h).bind fun v94 => if v94 = s0 then ((f_X7_isOff a0 x1 h).bind fun v95 => (f_X7_getSetting a0 (1 : Int32) h).bind fun v96 => if v96 < (zabs s0) then (j_L_isCounted_345 mc ms a0 x1 x2 x3 x4 v95 (1 : Int32) h sz uc us) else j_L_isCounted_345 mc ms a0 x1 x2 x3 x4 v95 (0 : Int32) h sz uc us) else some ((0 : Int32), h, sz)) else some ((0 : Int32), h, sz)) else some ((0 : Int32), h, sz)
set_option maxHeartbeats 4000000 in
set_option maxRecDepth 100000 in
theorem wj_L_isCounted_287 {P : zX} {ro : Nat → Nat} {mc ms : Nat} (C : zC P cL_isCounted RL (some .boolean) 6 mc ms 10 ro) {a0 : Nat} {x1 : Int32} {x2 : Int32} {x3 : Int32} {x4 : Int32} {x5 : Int32} {s0 : Int32} {h : zHp} {sz : Nat} {uc : Nat} {us : Nat}  : zG P zoIA (j_L_isCounted_287 mc ms a0 x1 x2 x3 x4 x5 s0 h sz uc us) 287 [(0, .ref a0), (1, .int x1), (2, .int x2), (3, .int x3), (4, .int x4), (5, .int x5)] [.int s0] h sz uc us := by
  unfold j_L_isCounted_287
  refine z_istore (lv' := [(0, .ref a0), (1, .int x1), (2, .int x2), (3, .int x3), (4, .int x4), (5, .int x5), (6, .int s0)]) C dL_isCounted_287 (by decide) rfl ?_
  refine z_aload_n C dL_isCounted_289 0 rfl ?_
  refine z_iload_n C dL_isCounted_290 1 rfl ?_
  refine z_chk (fun q90 => ?_)
  refine z_callVp C zc_L_201 [.int x1] (fun l D tc b0 r h => m_X7_rightTable l D tc ro b0 h) dL_isCounted_291 rfl rfl (Nat.le_of_ble_eq_true rfl) (by decide) (by decide) q90 (fun v91 => ?_)
  refine z_iload C dL_isCounted_294 5 rfl ?_
  refine z_icmp_ne C 383 dL_isCounted_296 (by decide) ?_ ?_
  · refine z_aload_n C dL_isCounted_299 0 rfl ?_
    refine z_iload_n C dL_isCounted_300 1 rfl ?_
    refine z_callVp C zc_L_204 [.int x1] (fun l D tc b0 r h => m_X7_isConfirmed l D tc ro b0 h) dL_isCounted_301 rfl rfl (Nat.le_of_ble_eq_true rfl) (by decide) (by decide) q90 (fun v92 => ?_)
    refine z_aload_n C dL_isCounted_304 0 rfl ?_
    refine z_iload_n C dL_isCounted_305 1 rfl ?_
    refine z_callSp C zs_L_208 [.ref a0, .int x1] (fun l D tc b0 r h => m_L_isSure l D tc ro b0 h) dL_isCounted_306 rfl rfl (Nat.le_of_ble_eq_true rfl) (by decide) (by decide) q90 (fun v93 => ?_)
    refine z_icmp_ne C 383 dL_isCounted_309 (by decide) ?_ ?_
    · refine z_aload_n C dL_isCounted_312 0 rfl ?_
      refine z_iload_n C dL_isCounted_313 1 rfl ?_
      refine z_callVp C zc_L_212 [.int x1] (fun l D tc b0 r h => m_X7_surplus l D tc ro b0 h) dL_isCounted_314 rfl rfl (Nat.le_of_ble_eq_true rfl) (by decide) (by decide) q90 (fun v94 => ?_)
      refine z_iload C dL_isCounted_317 6 rfl ?_
      refine z_icmp_ne C 383 dL_isCounted_319 (by decide) ?_ ?_
      · refine z_aload_n C dL_isCounted_322 0 rfl ?_
        refine z_iload_n C dL_isCounted_323 1 rfl ?_
        refine z_callVp C zc_L_215 [.int x1] (fun l D tc b0 r h => m_X7_isOff l D tc ro b0 h) dL_isCounted_324 rfl rfl (Nat.le_of_ble_eq_true rfl) (by decide) (by decide) q90 (fun v95 => ?_)
        refine z_iload C dL_isCounted_327 6 rfl ?_
        refine z_mabs C zm_L_218 dL_isCounted_329 (Nat.le_of_ble_eq_true rfl) (by decide) q90 ?_
        refine z_aload_n C dL_isCounted_332 0 rfl ?_
        refine z_iconst C dL_isCounted_333 zi_1 ?_
        refine z_callVp C zc_L_221 [.int (1 : Int32)] (fun l D tc b0 r h => m_X7_getSetting l D tc ro b0 h) dL_isCounted_334 rfl rfl (Nat.le_of_ble_eq_true rfl) (by decide) (by decide) q90 (fun v96 => ?_)
        refine z_icmp_le C 344 dL_isCounted_337 (by decide) ?_ ?_
        · refine z_iconst C dL_isCounted_340 zi_1 ?_
          refine z_goto C 345 dL_isCounted_341 (by decide) ?_
          exact z_sub [0, 1, 2, 3, 4] rfl (wj_L_isCounted_345 C)
        refine z_iconst C dL_isCounted_344 zi_0 ?_
        exact z_sub [0, 1, 2, 3, 4] rfl (wj_L_isCounted_345 C)
      refine z_iconst C dL_isCounted_383 zi_0 ?_
      exact z_kreturnA C rfl dL_isCounted_384 q90
    refine z_iconst C dL_isCounted_383 zi_0 ?_
    exact z_kreturnA C rfl dL_isCounted_384 q90
  refine z_iconst C dL_isCounted_383 zi_0 ?_
  exact z_kreturnA C rfl dL_isCounted_384 q90
noncomputable def f_L_isCounted (mc ms : Nat) (a0 : Nat) (x1 : Int32) (hp : zHp) (sz : Nat) : Option (Int32 × zHp × Nat) :=
  (f_X7_boxProperty a0 x1 (3 : Int32) hp).bind fun v1 => l_L_isCounted_18 mc ms (fun h27 z28 c29 u30 => zchk (c29 ≤ mc ∧ u30 ≤ ms) <| some ((0 : Int32), h27, z28)) (fun p32 h33 z34 c35 u36 => l_L_isCounted_129 mc ms (fun h57 z58 c59 u60 => zchk (c59 ≤ mc ∧ u60 ≤ ms) <| some ((0 : Int32), h57, z58)) (fun h62 z63 c64 u65 => l_L_isCounted_194 mc ms (fun h77 z78 c79 u80 => zchk (c79 ≤ mc ∧ u80 ≤ ms) <| some ((0 : Int32), h77, z78)) (fun p82 p83 h84 z85 c86 u87 => if v1 = 0 then (j_L_isCounted_287 mc ms a0 x1 v1 p82 p83 p32 (0 : Int32) h84 z85 c86 u87) else zchk (c86 ≤ mc ∧ u87 ≤ ms) <| (f_X7_boxProperty a0 x1 (1 : Int32) h84).bind fun v89 => j_L_isCounted_287 mc ms a0 x1 v1 p82 p83 p32 (p82 - v89) h84 z85 c86 u87) a0 x1 v1 p32 1000000 (0 : Int32) (0 : Int32) (0 : Int32) h62 z63 c64 u65) a0 x1 v1 (0 : Int32) (0 : Int32) p32 1000000 (0 : Int32) h33 z34 c35 u36) a0 x1 v1 (0 : Int32) (0 : Int32) 1000000 (-1 : Int32) (0 : Int32) hp sz 0 0
set_option maxHeartbeats 4000000 in
set_option maxRecDepth 100000 in
theorem m_L_isCounted (l : Launch) (D : va_G) (tc : Nat → ClassId) (ro : Nat → Nat) (b0 : Nat) {mc ms : Nat} {a0 : Nat} {x1 : Int32} {hp : zHp} {sz : Nat} {r : (Int32 × zHp × Nat)} (h : f_L_isCounted mc ms a0 x1 hp sz = some r) : zM l yL_isCounted cL_isCounted 10 (some .boolean) 6 mc ms [.ref a0, .int x1] D tc ro b0 hp sz (zoIA r).1 (zoIA r).2.1 (zoIA r).2.2 := by
  refine z_start (o := zoIA) (lv := [(0, .ref a0), (1, .int x1)]) h (by decide +kernel) RL rfl rfl (Nat.le_of_ble_eq_true rfl) (fun P C => ?_)
  unfold f_L_isCounted
  refine z_aload_n C dL_isCounted_0 0 rfl ?_
  refine z_iload_n C dL_isCounted_1 1 rfl ?_
  refine z_iconst C dL_isCounted_2 zi_3 ?_
  refine z_callVp C zc_L_177 [.int x1, .int (3 : Int32)] (fun l D tc b0 r h => m_X7_boxProperty l D tc ro b0 h) dL_isCounted_3 rfl rfl (Nat.le_of_ble_eq_true rfl) (by decide) (by decide) ⟨Nat.zero_le _, Nat.zero_le _⟩ (fun v1 => ?_)
  refine z_istore_n (lv' := [(0, .ref a0), (1, .int x1), (2, .int v1)]) C dL_isCounted_6 (by decide) rfl ?_
  refine z_iconst C dL_isCounted_7 zi_0 ?_
  refine z_istore_n (lv' := [(0, .ref a0), (1, .int x1), (2, .int v1), (3, .int (0 : Int32))]) C dL_isCounted_8 (by decide) rfl ?_
  refine z_iconst C dL_isCounted_9 zi_0 ?_
  refine z_istore (lv' := [(0, .ref a0), (1, .int x1), (2, .int v1), (3, .int (0 : Int32)), (4, .int (0 : Int32))]) C dL_isCounted_10 (by decide) rfl ?_
  refine z_iconst C dL_isCounted_12 zi_m1 ?_
  refine z_istore (lv' := [(0, .ref a0), (1, .int x1), (2, .int v1), (3, .int (0 : Int32)), (4, .int (0 : Int32)), (5, .int (-1 : Int32))]) C dL_isCounted_13 (by decide) rfl ?_
  refine z_iconst C dL_isCounted_15 zi_0 ?_
  refine z_istore (lv' := [(0, .ref a0), (1, .int x1), (2, .int v1), (3, .int (0 : Int32)), (4, .int (0 : Int32)), (5, .int (-1 : Int32)), (6, .int (0 : Int32))]) C dL_isCounted_16 (by decide) rfl ?_
  refine wl_L_isCounted_18 C (fun h27 z28 c29 u30 => ?_) (fun p32 h33 z34 c35 u36 => ?_) _ _ _ _ _ _ _
  · refine z_iconst C dL_isCounted_68 zi_0 ?_
    refine z_chk (fun q31 => ?_)
    exact z_kreturnA C rfl dL_isCounted_69 q31
  refine z_iconst C dL_isCounted_126 zi_0 ?_
  refine z_istore (lv' := [(0, .ref a0), (1, .int x1), (2, .int v1), (3, .int (0 : Int32)), (4, .int (0 : Int32)), (5, .int p32), (6, .int (0 : Int32))]) C dL_isCounted_127 (by decide) rfl ?_
  refine wl_L_isCounted_129 C (fun h57 z58 c59 u60 => ?_) (fun h62 z63 c64 u65 => ?_) _ _ _ _ _ _
  · refine z_iconst C dL_isCounted_177 zi_0 ?_
    refine z_chk (fun q61 => ?_)
    exact z_kreturnA C rfl dL_isCounted_178 q61
  refine z_iconst C dL_isCounted_191 zi_0 ?_
  refine z_istore (lv' := [(0, .ref a0), (1, .int x1), (2, .int v1), (3, .int (0 : Int32)), (4, .int (0 : Int32)), (5, .int p32), (6, .int (0 : Int32))]) C dL_isCounted_192 (by decide) rfl ?_
  refine wl_L_isCounted_194 C (fun h77 z78 c79 u80 => ?_) (fun p82 p83 h84 z85 c86 u87 => ?_) _ _ _ _ _ _ _ _
  · refine z_iconst C dL_isCounted_238 zi_0 ?_
    refine z_chk (fun q81 => ?_)
    exact z_kreturnA C rfl dL_isCounted_239 q81
  refine z_iload_n C dL_isCounted_271 2 rfl ?_
  refine z_if_ne C 279 dL_isCounted_272 (by decide) ?_ ?_
  · refine z_iconst C dL_isCounted_275 zi_0 ?_
    refine z_goto C 287 dL_isCounted_276 (by decide) ?_
    exact wj_L_isCounted_287 C
  refine z_iload_n C dL_isCounted_279 3 rfl ?_
  refine z_aload_n C dL_isCounted_280 0 rfl ?_
  refine z_iload_n C dL_isCounted_281 1 rfl ?_
  refine z_iconst C dL_isCounted_282 zi_1 ?_
  refine z_chk (fun q88 => ?_)
  refine z_callVp C zc_L_177 [.int x1, .int (1 : Int32)] (fun l D tc b0 r h => m_X7_boxProperty l D tc ro b0 h) dL_isCounted_283 rfl rfl (Nat.le_of_ble_eq_true rfl) (by decide) (by decide) q88 (fun v89 => ?_)
  refine z_isub C dL_isCounted_286 ?_
  exact wj_L_isCounted_287 C
noncomputable def b_L_isTold_144 (mc ms : Nat) (k176 : zHp → Nat → Nat → Nat → Option (Int32 × zHp × Nat)) (a0 : Nat) (x1 : Int32) (a2 : Nat) (x3 : Int32) (x4 : Int32) (x5 : Int32) (x6 : Int32) (x7 : Int32) (x8 : Int32) (rec : Int32 → zHp → Nat → Nat → Nat → Option (Int32 × zHp × Nat)) (x9 : Int32) (h : zHp) (sz : Nat) (uc : Nat) (us : Nat) : Option (Int32 × zHp × Nat) :=
  (zlen h 0 a2).bind fun v18 => if x9 < v18 then ((zaI h 0 a2 x9).bind fun v19 => zchk (uc ≤ mc ∧ us ≤ ms) <| (f_X7_result a0 x8 x9 h).bind fun v21 => (zsI h a2 x9 (v19 + (zmax (0 : Int32) v21))).bind fun h22 => zlet (x9 + (1 : Int32)) fun v23 => rec v23 h22 sz uc us) else k176 h sz uc us
noncomputable def l_L_isTold_144 (mc ms : Nat) (k176 : zHp → Nat → Nat → Nat → Option (Int32 × zHp × Nat)) (a0 : Nat) (x1 : Int32) (a2 : Nat) (x3 : Int32) (x4 : Int32) (x5 : Int32) (x6 : Int32) (x7 : Int32) (x8 : Int32) (n : Nat) : Int32 → zHp → Nat → Nat → Nat → Option (Int32 × zHp × Nat) :=
  Nat.rec (motive := fun _ => Int32 → zHp → Nat → Nat → Nat → Option (Int32 × zHp × Nat)) (fun _ _ _ _ _ => none) (fun _ rec => b_L_isTold_144 mc ms k176 a0 x1 a2 x3 x4 x5 x6 x7 x8 rec) n
theorem l_L_isTold_144_s {mc ms : Nat} (k176 : zHp → Nat → Nat → Nat → Option (Int32 × zHp × Nat)) (a0 : Nat) (x1 : Int32) (a2 : Nat) (x3 : Int32) (x4 : Int32) (x5 : Int32) (x6 : Int32) (x7 : Int32) (x8 : Int32) (n : Nat) (x9 : Int32) (h : zHp) (sz : Nat) (uc : Nat) (us : Nat) : l_L_isTold_144 mc ms k176 a0 x1 a2 x3 x4 x5 x6 x7 x8 (n + 1) x9 h sz uc us = b_L_isTold_144 mc ms k176 a0 x1 a2 x3 x4 x5 x6 x7 x8 (l_L_isTold_144 mc ms k176 a0 x1 a2 x3 x4 x5 x6 x7 x8 n) x9 h sz uc us := rfl
set_option maxHeartbeats 4000000 in
set_option maxRecDepth 100000 in
theorem wl_L_isTold_144 {P : zX} {ro : Nat → Nat} {mc ms : Nat} (C : zC P cL_isTold RL (some .boolean) 8 mc ms 15 ro) {a0 : Nat} {x1 : Int32} {a2 : Nat} {x3 : Int32} {x4 : Int32} {x5 : Int32} {x6 : Int32} {x7 : Int32} {x8 : Int32} {k176 : zHp → Nat → Nat → Nat → Option (Int32 × zHp × Nat)} (hk176 : ∀ (h : zHp) (sz : Nat) (uc : Nat) (us : Nat), zG P zoIA (k176 h sz uc us) 176 [(0, .ref a0), (1, .int x1), (2, .ref a2), (3, .int x3), (4, .int x4), (5, .int x5), (6, .int x6), (7, .int x7), (8, .int x8)] [] h sz uc us) : ∀ (n : Nat) (x9 : Int32) (h : zHp) (sz : Nat) (uc : Nat) (us : Nat), zG P zoIA (l_L_isTold_144 mc ms k176 a0 x1 a2 x3 x4 x5 x6 x7 x8 n x9 h sz uc us) 144 [(0, .ref a0), (1, .int x1), (2, .ref a2), (3, .int x3), (4, .int x4), (5, .int x5), (6, .int x6), (7, .int x7), (8, .int x8), (9, .int x9)] [] h sz uc us := by
  intro n
  induction n with
  | zero =>
    intro x9 h sz uc us
    show zG P zoIA none _ _ _ _ _ _ _
    exact z_none
  | succ n ih =>
    intro x9 h sz uc us
    show zG P zoIA (b_L_isTold_144 mc ms k176 a0 x1 a2 x3 x4 x5 x6 x7 x8 (l_L_isTold_144 mc ms k176 a0 x1 a2 x3 x4 x5 x6 x7 x8 n) x9 h sz uc us) _ _ _ _ _ _ _
    unfold b_L_isTold_144
    refine z_iload C dL_isTold_144 9 rfl ?_
    refine z_aload_n C dL_isTold_146 2 rfl ?_
    refine z_arraylength (t := 0) (ty := .int) C (fun _ => rfl) (by decide) dL_isTold_147 (fun v18 => ?_)
    refine z_icmp_ge C 176 dL_isTold_148 (by decide) ?_ ?_
    · refine z_aload_n C dL_isTold_151 2 rfl ?_
      refine z_iload C dL_isTold_152 9 rfl ?_
      refine z_dup2 C dL_isTold_154 rfl rfl ?_
      refine z_iaload C dL_isTold_155 (fun v19 => ?_)
      refine z_iconst C dL_isTold_156 zi_0 ?_
      refine z_aload_n C dL_isTold_157 0 rfl ?_
      refine z_iload C dL_isTold_158 8 rfl ?_
      refine z_iload C dL_isTold_160 9 rfl ?_
      refine z_chk (fun q20 => ?_)
      refine z_callVp C zc_L_198 [.int x8, .int x9] (fun l D tc b0 r h => m_X7_result l D tc ro b0 h) dL_isTold_162 rfl rfl (Nat.le_of_ble_eq_true rfl) (by decide) (by decide) q20 (fun v21 => ?_)
      refine z_mmax C zm_L_64 dL_isTold_165 (Nat.le_of_ble_eq_true rfl) (by decide) q20 ?_
      refine z_iadd C dL_isTold_168 ?_
      refine z_iastore C dL_isTold_169 (fun h22 => ?_)
      refine z_iincL C 9 (fun v23 => [(0, .ref a0), (1, .int x1), (2, .ref a2), (3, .int x3), (4, .int x4), (5, .int x5), (6, .int x6), (7, .int x7), (8, .int x8), (9, .int v23)]) dL_isTold_170 rfl zi_1 (by decide) (fun _ => rfl) (fun v23 => ?_)
      refine z_goto C 144 dL_isTold_173 (by decide) ?_
      exact ih _ _ _ _ _
    exact z_sub [0, 1, 2, 3, 4, 5, 6, 7, 8] rfl (hk176 _ _ _ _)
noncomputable def j_L_isTold_138 (mc ms : Nat) (k182 : Int32 → Int32 → Int32 → Int32 → Int32 → zHp → Nat → Nat → Nat → Option (Int32 × zHp × Nat)) (rec : Int32 → Int32 → Int32 → Int32 → Int32 → Int32 → zHp → Nat → Nat → Nat → Option (Int32 × zHp × Nat)) (a0 : Nat) (x1 : Int32) (a2 : Nat) (x3 : Int32) (x4 : Int32) (x5 : Int32) (x7 : Int32) (x8 : Int32) (s0 : Int32) (s1 : Int32) (h : zHp) (sz : Nat) (uc : Nat) (us : Nat) : Option (Int32 × zHp × Nat) :=
  zlet (s0 ||| s1) fun v17 => l_L_isTold_144 mc ms (fun h24 z25 c26 u27 => zlet (x8 + (1 : Int32)) fun v28 => rec x3 x4 x5 v17 x7 v28 h24 z25 c26 u27) a0 x1 a2 x3 x4 x5 v17 x7 x8 1000000 (0 : Int32) h sz uc us
set_option maxHeartbeats 4000000 in
set_option maxRecDepth 100000 in
theorem wj_L_isTold_138 {P : zX} {ro : Nat → Nat} {mc ms : Nat} (C : zC P cL_isTold RL (some .boolean) 8 mc ms 15 ro) {a0 : Nat} {x1 : Int32} {a2 : Nat} {x3 : Int32} {x4 : Int32} {x5 : Int32} {x7 : Int32} {x8 : Int32} {s0 : Int32} {s1 : Int32} {h : zHp} {sz : Nat} {uc : Nat} {us : Nat} {k182 : Int32 → Int32 → Int32 → Int32 → Int32 → zHp → Nat → Nat → Nat → Option (Int32 × zHp × Nat)} (hk182 : ∀ (x3 : Int32) (x4 : Int32) (x5 : Int32) (x6 : Int32) (x7 : Int32) (h : zHp) (sz : Nat) (uc : Nat) (us : Nat), zG P zoIA (k182 x3 x4 x5 x6 x7 h sz uc us) 182 [(0, .ref a0), (1, .int x1), (2, .ref a2), (3, .int x3), (4, .int x4), (5, .int x5), (6, .int x6), (7, .int x7)] [] h sz uc us) {rec : Int32 → Int32 → Int32 → Int32 → Int32 → Int32 → zHp → Nat → Nat → Nat → Option (Int32 × zHp × Nat)} (hrec : ∀ (x3 : Int32) (x4 : Int32) (x5 : Int32) (x6 : Int32) (x7 : Int32) (x8 : Int32) (h : zHp) (sz : Nat) (uc : Nat) (us : Nat), zG P zoIA (rec x3 x4 x5 x6 x7 x8 h sz uc us) 27 [(0, .ref a0), (1, .int x1), (2, .ref a2), (3, .int x3), (4, .int x4), (5, .int x5), (6, .int x6), (7, .int x7), (8, .int x8)] [] h sz uc us) : zG P zoIA (j_L_isTold_138 mc ms k182 rec a0 x1 a2 x3 x4 x5 x7 x8 s0 s1 h sz uc us) 138 [(0, .ref a0), (1, .int x1), (2, .ref a2), (3, .int x3), (4, .int x4), (5, .int x5), (7, .int x7), (8, .int x8)] [.int s1, .int s0] h sz uc us := by
  unfold j_L_isTold_138
  refine z_ior C dL_isTold_138 ?_
  refine z_istoreL C (fun v17 => [(0, .ref a0), (1, .int x1), (2, .ref a2), (3, .int x3), (4, .int x4), (5, .int x5), (6, .int v17), (7, .int x7), (8, .int x8)]) dL_isTold_139 (by decide) (fun _ => rfl) (fun v17 => ?_)
  refine z_iconst C dL_isTold_141 zi_0 ?_
  refine z_istore (lv' := [(0, .ref a0), (1, .int x1), (2, .ref a2), (3, .int x3), (4, .int x4), (5, .int x5), (6, .int v17), (7, .int x7), (8, .int x8), (9, .int (0 : Int32))]) C dL_isTold_142 (by decide) rfl ?_
  refine wl_L_isTold_144 C (fun h24 z25 c26 u27 => ?_) _ _ _ _ _ _
  refine z_iincL C 8 (fun v28 => [(0, .ref a0), (1, .int x1), (2, .ref a2), (3, .int x3), (4, .int x4), (5, .int x5), (6, .int v17), (7, .int x7), (8, .int v28)]) dL_isTold_176 rfl zi_1 (by decide) (fun _ => rfl) (fun v28 => ?_)
  refine z_goto C 27 dL_isTold_179 (by decide) ?_
  exact hrec _ _ _ _ _ _ _ _ _ _
noncomputable def j_L_isTold_119 (mc ms : Nat) (k182 : Int32 → Int32 → Int32 → Int32 → Int32 → zHp → Nat → Nat → Nat → Option (Int32 × zHp × Nat)) (rec : Int32 → Int32 → Int32 → Int32 → Int32 → Int32 → zHp → Nat → Nat → Nat → Option (Int32 × zHp × Nat)) (a0 : Nat) (x1 : Int32) (a2 : Nat) (x3 : Int32) (x4 : Int32) (x6 : Int32) (x7 : Int32) (x8 : Int32) (s0 : Int32) (s1 : Int32) (h : zHp) (sz : Nat) (uc : Nat) (us : Nat) : Option (Int32 × zHp × Nat) :=
  zlet (s0 ||| s1) fun v14 => zchk (uc ≤ mc ∧ us ≤ ms) <| (f_X7_isConfirmed a0 x8 h).bind fun v16 => if v16 = 0 then (j_L_isTold_138 mc ms k182 rec a0 x1 a2 x3 x4 v14 x7 x8 x6 (1 : Int32) h sz uc us) else j_L_isTold_138 mc ms k182 rec a0 x1 a2 x3 x4 v14 x7 x8 x6 (0 : Int32) h sz uc us
set_option maxHeartbeats 4000000 in
set_option maxRecDepth 100000 in
theorem wj_L_isTold_119 {P : zX} {ro : Nat → Nat} {mc ms : Nat} (C : zC P cL_isTold RL (some .boolean) 8 mc ms 15 ro) {a0 : Nat} {x1 : Int32} {a2 : Nat} {x3 : Int32} {x4 : Int32} {x6 : Int32} {x7 : Int32} {x8 : Int32} {s0 : Int32} {s1 : Int32} {h : zHp} {sz : Nat} {uc : Nat} {us : Nat} {k182 : Int32 → Int32 → Int32 → Int32 → Int32 → zHp → Nat → Nat → Nat → Option (Int32 × zHp × Nat)} (hk182 : ∀ (x3 : Int32) (x4 : Int32) (x5 : Int32) (x6 : Int32) (x7 : Int32) (h : zHp) (sz : Nat) (uc : Nat) (us : Nat), zG P zoIA (k182 x3 x4 x5 x6 x7 h sz uc us) 182 [(0, .ref a0), (1, .int x1), (2, .ref a2), (3, .int x3), (4, .int x4), (5, .int x5), (6, .int x6), (7, .int x7)] [] h sz uc us) {rec : Int32 → Int32 → Int32 → Int32 → Int32 → Int32 → zHp → Nat → Nat → Nat → Option (Int32 × zHp × Nat)} (hrec : ∀ (x3 : Int32) (x4 : Int32) (x5 : Int32) (x6 : Int32) (x7 : Int32) (x8 : Int32) (h : zHp) (sz : Nat) (uc : Nat) (us : Nat), zG P zoIA (rec x3 x4 x5 x6 x7 x8 h sz uc us) 27 [(0, .ref a0), (1, .int x1), (2, .ref a2), (3, .int x3), (4, .int x4), (5, .int x5), (6, .int x6), (7, .int x7), (8, .int x8)] [] h sz uc us) : zG P zoIA (j_L_isTold_119 mc ms k182 rec a0 x1 a2 x3 x4 x6 x7 x8 s0 s1 h sz uc us) 119 [(0, .ref a0), (1, .int x1), (2, .ref a2), (3, .int x3), (4, .int x4), (6, .int x6), (7, .int x7), (8, .int x8)] [.int s1, .int s0] h sz uc us := by
  unfold j_L_isTold_119
  refine z_ior C dL_isTold_119 ?_
  refine z_istoreL C (fun v14 => [(0, .ref a0), (1, .int x1), (2, .ref a2), (3, .int x3), (4, .int x4), (5, .int v14), (6, .int x6), (7, .int x7), (8, .int x8)]) dL_isTold_120 (by decide) (fun _ => rfl) (fun v14 => ?_)
  refine z_iload C dL_isTold_122 6 rfl ?_
  refine z_aload_n C dL_isTold_124 0 rfl ?_
  refine z_iload C dL_isTold_125 8 rfl ?_
  refine z_chk (fun q15 => ?_)
  refine z_callVp C zc_L_204 [.int x8] (fun l D tc b0 r h => m_X7_isConfirmed l D tc ro b0 h) dL_isTold_127 rfl rfl (Nat.le_of_ble_eq_true rfl) (by decide) (by decide) q15 (fun v16 => ?_)
  refine z_if_ne C 137 dL_isTold_130 (by decide) ?_ ?_
  · refine z_iconst C dL_isTold_133 zi_1 ?_
    refine z_goto C 138 dL_isTold_134 (by decide) ?_
    exact z_sub [0, 1, 2, 3, 4, 5, 7, 8] rfl (wj_L_isTold_138 C hk182 hrec)
  refine z_iconst C dL_isTold_137 zi_0 ?_
  exact z_sub [0, 1, 2, 3, 4, 5, 7, 8] rfl (wj_L_isTold_138 C hk182 hrec)
noncomputable def j_L_isTold_118 (mc ms : Nat) (k182 : Int32 → Int32 → Int32 → Int32 → Int32 → zHp → Nat → Nat → Nat → Option (Int32 × zHp × Nat)) (rec : Int32 → Int32 → Int32 → Int32 → Int32 → Int32 → zHp → Nat → Nat → Nat → Option (Int32 × zHp × Nat)) (a0 : Nat) (x1 : Int32) (a2 : Nat) (x3 : Int32) (x4 : Int32) (x6 : Int32) (x7 : Int32) (x8 : Int32) (s0 : Int32) (h : zHp) (sz : Nat) (uc : Nat) (us : Nat) : Option (Int32 × zHp × Nat) :=
  j_L_isTold_119 mc ms k182 rec a0 x1 a2 x3 x4 x6 x7 x8 s0 (0 : Int32) h sz uc us
set_option maxHeartbeats 4000000 in
set_option maxRecDepth 100000 in
theorem wj_L_isTold_118 {P : zX} {ro : Nat → Nat} {mc ms : Nat} (C : zC P cL_isTold RL (some .boolean) 8 mc ms 15 ro) {a0 : Nat} {x1 : Int32} {a2 : Nat} {x3 : Int32} {x4 : Int32} {x6 : Int32} {x7 : Int32} {x8 : Int32} {s0 : Int32} {h : zHp} {sz : Nat} {uc : Nat} {us : Nat} {k182 : Int32 → Int32 → Int32 → Int32 → Int32 → zHp → Nat → Nat → Nat → Option (Int32 × zHp × Nat)} (hk182 : ∀ (x3 : Int32) (x4 : Int32) (x5 : Int32) (x6 : Int32) (x7 : Int32) (h : zHp) (sz : Nat) (uc : Nat) (us : Nat), zG P zoIA (k182 x3 x4 x5 x6 x7 h sz uc us) 182 [(0, .ref a0), (1, .int x1), (2, .ref a2), (3, .int x3), (4, .int x4), (5, .int x5), (6, .int x6), (7, .int x7)] [] h sz uc us) {rec : Int32 → Int32 → Int32 → Int32 → Int32 → Int32 → zHp → Nat → Nat → Nat → Option (Int32 × zHp × Nat)} (hrec : ∀ (x3 : Int32) (x4 : Int32) (x5 : Int32) (x6 : Int32) (x7 : Int32) (x8 : Int32) (h : zHp) (sz : Nat) (uc : Nat) (us : Nat), zG P zoIA (rec x3 x4 x5 x6 x7 x8 h sz uc us) 27 [(0, .ref a0), (1, .int x1), (2, .ref a2), (3, .int x3), (4, .int x4), (5, .int x5), (6, .int x6), (7, .int x7), (8, .int x8)] [] h sz uc us) : zG P zoIA (j_L_isTold_118 mc ms k182 rec a0 x1 a2 x3 x4 x6 x7 x8 s0 h sz uc us) 118 [(0, .ref a0), (1, .int x1), (2, .ref a2), (3, .int x3), (4, .int x4), (6, .int x6), (7, .int x7), (8, .int x8)] [.int s0] h sz uc us := by
  unfold j_L_isTold_118
  refine z_iconst C dL_isTold_118 zi_0 ?_
  exact wj_L_isTold_119 C hk182 hrec
noncomputable def j_L_isTold_91 (mc ms : Nat) (k182 : Int32 → Int32 → Int32 → Int32 → Int32 → zHp → Nat → Nat → Nat → Option (Int32 × zHp × Nat)) (rec : Int32 → Int32 → Int32 → Int32 → Int32 → Int32 → zHp → Nat → Nat → Nat → Option (Int32 × zHp × Nat)) (a0 : Nat) (x1 : Int32) (a2 : Nat) (x3 : Int32) (x5 : Int32) (x6 : Int32) (x7 : Int32) (x8 : Int32) (s0 : Int32) (s1 : Int32) (h : zHp) (sz : Nat) (uc : Nat) (us : Nat) : Option (Int32 × zHp × Nat) :=
  zlet (s0 ||| s1) fun v11 => zchk (uc ≤ mc ∧ us ≤ ms) <| (f_X7_isOff a0 x8 h).bind fun v13 => if v13 = 0 then (j_L_isTold_118 mc ms k182 rec a0 x1 a2 x3 v11 x6 x7 x8 x5 h sz uc us) else (f_X7_isConfirmed a0 x8 h).bind fun v29 => if v29 = 0 then (j_L_isTold_119 mc ms k182 rec a0 x1 a2 x3 v11 x6 x7 x8 x5 (1 : Int32) h sz uc us) else j_L_isTold_118 mc ms k182 rec a0 x1 a2 x3 v11 x6 x7 x8 x5 h sz uc us
set_option maxHeartbeats 4000000 in
set_option maxRecDepth 100000 in
theorem wj_L_isTold_91 {P : zX} {ro : Nat → Nat} {mc ms : Nat} (C : zC P cL_isTold RL (some .boolean) 8 mc ms 15 ro) {a0 : Nat} {x1 : Int32} {a2 : Nat} {x3 : Int32} {x5 : Int32} {x6 : Int32} {x7 : Int32} {x8 : Int32} {s0 : Int32} {s1 : Int32} {h : zHp} {sz : Nat} {uc : Nat} {us : Nat} {k182 : Int32 → Int32 → Int32 → Int32 → Int32 → zHp → Nat → Nat → Nat → Option (Int32 × zHp × Nat)} (hk182 : ∀ (x3 : Int32) (x4 : Int32) (x5 : Int32) (x6 : Int32) (x7 : Int32) (h : zHp) (sz : Nat) (uc : Nat) (us : Nat), zG P zoIA (k182 x3 x4 x5 x6 x7 h sz uc us) 182 [(0, .ref a0), (1, .int x1), (2, .ref a2), (3, .int x3), (4, .int x4), (5, .int x5), (6, .int x6), (7, .int x7)] [] h sz uc us) {rec : Int32 → Int32 → Int32 → Int32 → Int32 → Int32 → zHp → Nat → Nat → Nat → Option (Int32 × zHp × Nat)} (hrec : ∀ (x3 : Int32) (x4 : Int32) (x5 : Int32) (x6 : Int32) (x7 : Int32) (x8 : Int32) (h : zHp) (sz : Nat) (uc : Nat) (us : Nat), zG P zoIA (rec x3 x4 x5 x6 x7 x8 h sz uc us) 27 [(0, .ref a0), (1, .int x1), (2, .ref a2), (3, .int x3), (4, .int x4), (5, .int x5), (6, .int x6), (7, .int x7), (8, .int x8)] [] h sz uc us) : zG P zoIA (j_L_isTold_91 mc ms k182 rec a0 x1 a2 x3 x5 x6 x7 x8 s0 s1 h sz uc us) 91 [(0, .ref a0), (1, .int x1), (2, .ref a2), (3, .int x3), (5, .int x5), (6, .int x6), (7, .int x7), (8, .int x8)] [.int s1, .int s0] h sz uc us := by
  unfold j_L_isTold_91
  refine z_ior C dL_isTold_91 ?_
  refine z_istoreL C (fun v11 => [(0, .ref a0), (1, .int x1), (2, .ref a2), (3, .int x3), (4, .int v11), (5, .int x5), (6, .int x6), (7, .int x7), (8, .int x8)]) dL_isTold_92 (by decide) (fun _ => rfl) (fun v11 => ?_)
  refine z_iload C dL_isTold_94 5 rfl ?_
  refine z_aload_n C dL_isTold_96 0 rfl ?_
  refine z_iload C dL_isTold_97 8 rfl ?_
  refine z_chk (fun q12 => ?_)
  refine z_callVp C zc_L_215 [.int x8] (fun l D tc b0 r h => m_X7_isOff l D tc ro b0 h) dL_isTold_99 rfl rfl (Nat.le_of_ble_eq_true rfl) (by decide) (by decide) q12 (fun v13 => ?_)
  refine z_if_eq C 118 dL_isTold_102 (by decide) ?_ ?_
  · exact z_sub [0, 1, 2, 3, 4, 6, 7, 8] rfl (wj_L_isTold_118 C hk182 hrec)
  refine z_aload_n C dL_isTold_105 0 rfl ?_
  refine z_iload C dL_isTold_106 8 rfl ?_
  refine z_callVp C zc_L_204 [.int x8] (fun l D tc b0 r h => m_X7_isConfirmed l D tc ro b0 h) dL_isTold_108 rfl rfl (Nat.le_of_ble_eq_true rfl) (by decide) (by decide) q12 (fun v29 => ?_)
  refine z_if_ne C 118 dL_isTold_111 (by decide) ?_ ?_
  · refine z_iconst C dL_isTold_114 zi_1 ?_
    refine z_goto C 119 dL_isTold_115 (by decide) ?_
    exact z_sub [0, 1, 2, 3, 4, 6, 7, 8] rfl (wj_L_isTold_119 C hk182 hrec)
  exact z_sub [0, 1, 2, 3, 4, 6, 7, 8] rfl (wj_L_isTold_118 C hk182 hrec)
noncomputable def j_L_isTold_70 (mc ms : Nat) (k182 : Int32 → Int32 → Int32 → Int32 → Int32 → zHp → Nat → Nat → Nat → Option (Int32 × zHp × Nat)) (rec : Int32 → Int32 → Int32 → Int32 → Int32 → Int32 → zHp → Nat → Nat → Nat → Option (Int32 × zHp × Nat)) (a0 : Nat) (x1 : Int32) (a2 : Nat) (x3 : Int32) (x4 : Int32) (x5 : Int32) (x6 : Int32) (x8 : Int32) (s0 : Int32) (s1 : Int32) (h : zHp) (sz : Nat) (uc : Nat) (us : Nat) : Option (Int32 × zHp × Nat) :=
  zlet (s0 ||| s1) fun v8 => zchk (uc ≤ mc ∧ us ≤ ms) <| (f_X7_placeOf a0 x8 h).bind fun v10 => if v10 = (-4 : Int32) then (j_L_isTold_91 mc ms k182 rec a0 x1 a2 x3 x5 x6 v8 x8 x4 (0 : Int32) h sz uc us) else j_L_isTold_91 mc ms k182 rec a0 x1 a2 x3 x5 x6 v8 x8 x4 (1 : Int32) h sz uc us
set_option maxHeartbeats 4000000 in
set_option maxRecDepth 100000 in
theorem wj_L_isTold_70 {P : zX} {ro : Nat → Nat} {mc ms : Nat} (C : zC P cL_isTold RL (some .boolean) 8 mc ms 15 ro) {a0 : Nat} {x1 : Int32} {a2 : Nat} {x3 : Int32} {x4 : Int32} {x5 : Int32} {x6 : Int32} {x8 : Int32} {s0 : Int32} {s1 : Int32} {h : zHp} {sz : Nat} {uc : Nat} {us : Nat} {k182 : Int32 → Int32 → Int32 → Int32 → Int32 → zHp → Nat → Nat → Nat → Option (Int32 × zHp × Nat)} (hk182 : ∀ (x3 : Int32) (x4 : Int32) (x5 : Int32) (x6 : Int32) (x7 : Int32) (h : zHp) (sz : Nat) (uc : Nat) (us : Nat), zG P zoIA (k182 x3 x4 x5 x6 x7 h sz uc us) 182 [(0, .ref a0), (1, .int x1), (2, .ref a2), (3, .int x3), (4, .int x4), (5, .int x5), (6, .int x6), (7, .int x7)] [] h sz uc us) {rec : Int32 → Int32 → Int32 → Int32 → Int32 → Int32 → zHp → Nat → Nat → Nat → Option (Int32 × zHp × Nat)} (hrec : ∀ (x3 : Int32) (x4 : Int32) (x5 : Int32) (x6 : Int32) (x7 : Int32) (x8 : Int32) (h : zHp) (sz : Nat) (uc : Nat) (us : Nat), zG P zoIA (rec x3 x4 x5 x6 x7 x8 h sz uc us) 27 [(0, .ref a0), (1, .int x1), (2, .ref a2), (3, .int x3), (4, .int x4), (5, .int x5), (6, .int x6), (7, .int x7), (8, .int x8)] [] h sz uc us) : zG P zoIA (j_L_isTold_70 mc ms k182 rec a0 x1 a2 x3 x4 x5 x6 x8 s0 s1 h sz uc us) 70 [(0, .ref a0), (1, .int x1), (2, .ref a2), (3, .int x3), (4, .int x4), (5, .int x5), (6, .int x6), (8, .int x8)] [.int s1, .int s0] h sz uc us := by
  unfold j_L_isTold_70
  refine z_ior C dL_isTold_70 ?_
  refine z_istoreL C (fun v8 => [(0, .ref a0), (1, .int x1), (2, .ref a2), (3, .int x3), (4, .int x4), (5, .int x5), (6, .int x6), (7, .int v8), (8, .int x8)]) dL_isTold_71 (by decide) (fun _ => rfl) (fun v8 => ?_)
  refine z_iload C dL_isTold_73 4 rfl ?_
  refine z_aload_n C dL_isTold_75 0 rfl ?_
  refine z_iload C dL_isTold_76 8 rfl ?_
  refine z_chk (fun q9 => ?_)
  refine z_callVp C zc_L_224 [.int x8] (fun l D tc b0 r h => m_X7_placeOf l D tc ro b0 h) dL_isTold_78 rfl rfl (Nat.le_of_ble_eq_true rfl) (by decide) (by decide) q9 (fun v10 => ?_)
  refine z_bipush C dL_isTold_81 zbi_m4 ?_
  refine z_icmp_eq C 90 dL_isTold_83 (by decide) ?_ ?_
  · refine z_iconst C dL_isTold_90 zi_0 ?_
    exact z_sub [0, 1, 2, 3, 5, 6, 7, 8] rfl (wj_L_isTold_91 C hk182 hrec)
  refine z_iconst C dL_isTold_86 zi_1 ?_
  refine z_goto C 91 dL_isTold_87 (by decide) ?_
  exact z_sub [0, 1, 2, 3, 5, 6, 7, 8] rfl (wj_L_isTold_91 C hk182 hrec)
noncomputable def b_L_isTold_27 (mc ms : Nat) (k182 : Int32 → Int32 → Int32 → Int32 → Int32 → zHp → Nat → Nat → Nat → Option (Int32 × zHp × Nat)) (a0 : Nat) (x1 : Int32) (a2 : Nat) (rec : Int32 → Int32 → Int32 → Int32 → Int32 → Int32 → zHp → Nat → Nat → Nat → Option (Int32 × zHp × Nat)) (x3 : Int32) (x4 : Int32) (x5 : Int32) (x6 : Int32) (x7 : Int32) (x8 : Int32) (h : zHp) (sz : Nat) (uc : Nat) (us : Nat) : Option (Int32 × zHp × Nat) :=
  zchk (uc ≤ mc ∧ us ≤ ms) <| (f_X7_count a0 (3 : Int32) h).bind fun v5 => if x8 < v5 then ((f_X7_boxProperty a0 x8 (0 : Int32) h).bind fun v6 => if v6 = x1 then ((f_X7_boxProperty a0 x8 (3 : Int32) h).bind fun v7 => if v7 = 0 then (j_L_isTold_70 mc ms k182 rec a0 x1 a2 (0 : Int32) x4 x5 x6 x8 x7 (1 : Int32) h sz uc us) else j_L_isTold_70 mc ms k182 rec a0 x1 a2 (0 : Int32) x4 x5 x6 x8 x7 (0 : Int32) h sz uc us) else zlet (x8 + (1 : Int32)) fun v30 => rec x3 x4 x5 x6 x7 v30 h sz uc us) else k182 x3 x4 x5 x6 x7 h sz uc us
noncomputable def l_L_isTold_27 (mc ms : Nat) (k182 : Int32 → Int32 → Int32 → Int32 → Int32 → zHp → Nat → Nat → Nat → Option (Int32 × zHp × Nat)) (a0 : Nat) (x1 : Int32) (a2 : Nat) (n : Nat) : Int32 → Int32 → Int32 → Int32 → Int32 → Int32 → zHp → Nat → Nat → Nat → Option (Int32 × zHp × Nat) :=
  Nat.rec (motive := fun _ => Int32 → Int32 → Int32 → Int32 → Int32 → Int32 → zHp → Nat → Nat → Nat → Option (Int32 × zHp × Nat)) (fun _ _ _ _ _ _ _ _ _ _ => none) (fun _ rec => b_L_isTold_27 mc ms k182 a0 x1 a2 rec) n
theorem l_L_isTold_27_s {mc ms : Nat} (k182 : Int32 → Int32 → Int32 → Int32 → Int32 → zHp → Nat → Nat → Nat → Option (Int32 × zHp × Nat)) (a0 : Nat) (x1 : Int32) (a2 : Nat) (n : Nat) (x3 : Int32) (x4 : Int32) (x5 : Int32) (x6 : Int32) (x7 : Int32) (x8 : Int32) (h : zHp) (sz : Nat) (uc : Nat) (us : Nat) : l_L_isTold_27 mc ms k182 a0 x1 a2 (n + 1) x3 x4 x5 x6 x7 x8 h sz uc us = b_L_isTold_27 mc ms k182 a0 x1 a2 (l_L_isTold_27 mc ms k182 a0 x1 a2 n) x3 x4 x5 x6 x7 x8 h sz uc us := rfl
set_option maxHeartbeats 4000000 in
set_option maxRecDepth 100000 in
theorem wl_L_isTold_27 {P : zX} {ro : Nat → Nat} {mc ms : Nat} (C : zC P cL_isTold RL (some .boolean) 8 mc ms 15 ro) {a0 : Nat} {x1 : Int32} {a2 : Nat} {k182 : Int32 → Int32 → Int32 → Int32 → Int32 → zHp → Nat → Nat → Nat → Option (Int32 × zHp × Nat)} (hk182 : ∀ (x3 : Int32) (x4 : Int32) (x5 : Int32) (x6 : Int32) (x7 : Int32) (h : zHp) (sz : Nat) (uc : Nat) (us : Nat), zG P zoIA (k182 x3 x4 x5 x6 x7 h sz uc us) 182 [(0, .ref a0), (1, .int x1), (2, .ref a2), (3, .int x3), (4, .int x4), (5, .int x5), (6, .int x6), (7, .int x7)] [] h sz uc us) : ∀ (n : Nat) (x3 : Int32) (x4 : Int32) (x5 : Int32) (x6 : Int32) (x7 : Int32) (x8 : Int32) (h : zHp) (sz : Nat) (uc : Nat) (us : Nat), zG P zoIA (l_L_isTold_27 mc ms k182 a0 x1 a2 n x3 x4 x5 x6 x7 x8 h sz uc us) 27 [(0, .ref a0), (1, .int x1), (2, .ref a2), (3, .int x3), (4, .int x4), (5, .int x5), (6, .int x6), (7, .int x7), (8, .int x8)] [] h sz uc us := by
  intro n
  induction n with
  | zero =>
    intro x3 x4 x5 x6 x7 x8 h sz uc us
    show zG P zoIA none _ _ _ _ _ _ _
    exact z_none
  | succ n ih =>
    intro x3 x4 x5 x6 x7 x8 h sz uc us
    show zG P zoIA (b_L_isTold_27 mc ms k182 a0 x1 a2 (l_L_isTold_27 mc ms k182 a0 x1 a2 n) x3 x4 x5 x6 x7 x8 h sz uc us) _ _ _ _ _ _ _
    unfold b_L_isTold_27
    refine z_iload C dL_isTold_27 8 rfl ?_
    refine z_aload_n C dL_isTold_29 0 rfl ?_
    refine z_iconst C dL_isTold_30 zi_3 ?_
    refine z_chk (fun q4 => ?_)
    refine z_callVp C zc_L_143 [.int (3 : Int32)] (fun l D tc b0 r h => m_X7_count l D tc ro b0 h) dL_isTold_31 rfl rfl (Nat.le_of_ble_eq_true rfl) (by decide) (by decide) q4 (fun v5 => ?_)
    refine z_icmp_ge C 182 dL_isTold_34 (by decide) ?_ ?_
    · refine z_aload_n C dL_isTold_37 0 rfl ?_
      refine z_iload C dL_isTold_38 8 rfl ?_
      refine z_iconst C dL_isTold_40 zi_0 ?_
      refine z_callVp C zc_L_177 [.int x8, .int (0 : Int32)] (fun l D tc b0 r h => m_X7_boxProperty l D tc ro b0 h) dL_isTold_41 rfl rfl (Nat.le_of_ble_eq_true rfl) (by decide) (by decide) q4 (fun v6 => ?_)
      refine z_iload_n C dL_isTold_44 1 rfl ?_
      refine z_icmp_eq C 51 dL_isTold_45 (by decide) ?_ ?_
      · refine z_iconst C dL_isTold_51 zi_0 ?_
        refine z_istore_n (lv' := [(0, .ref a0), (1, .int x1), (2, .ref a2), (3, .int (0 : Int32)), (4, .int x4), (5, .int x5), (6, .int x6), (7, .int x7), (8, .int x8)]) C dL_isTold_52 (by decide) rfl ?_
        refine z_iload C dL_isTold_53 7 rfl ?_
        refine z_aload_n C dL_isTold_55 0 rfl ?_
        refine z_iload C dL_isTold_56 8 rfl ?_
        refine z_iconst C dL_isTold_58 zi_3 ?_
        refine z_callVp C zc_L_177 [.int x8, .int (3 : Int32)] (fun l D tc b0 r h => m_X7_boxProperty l D tc ro b0 h) dL_isTold_59 rfl rfl (Nat.le_of_ble_eq_true rfl) (by decide) (by decide) q4 (fun v7 => ?_)
        refine z_if_ne C 69 dL_isTold_62 (by decide) ?_ ?_
        · refine z_iconst C dL_isTold_65 zi_1 ?_
          refine z_goto C 70 dL_isTold_66 (by decide) ?_
          exact z_sub [0, 1, 2, 3, 4, 5, 6, 8] rfl (wj_L_isTold_70 C hk182 ih)
        refine z_iconst C dL_isTold_69 zi_0 ?_
        exact z_sub [0, 1, 2, 3, 4, 5, 6, 8] rfl (wj_L_isTold_70 C hk182 ih)
      refine z_goto C 176 dL_isTold_48 (by decide) ?_
      refine z_iincL C 8 (fun v30 => [(0, .ref a0), (1, .int x1), (2, .ref a2), (3, .int x3), (4, .int x4), (5, .int x5), (6, .int x6), (7, .int x7), (8, .int v30)]) dL_isTold_176 rfl zi_1 (by decide) (fun _ => rfl) (fun v30 => ?_)
      refine z_goto C 27 dL_isTold_179 (by decide) ?_
      exact ih _ _ _ _ _ _ _ _ _ _
    exact z_sub [0, 1, 2, 3, 4, 5, 6, 7] rfl (hk182 _ _ _ _ _ _ _ _ _)
noncomputable def j_L_isTold_258 (mc ms : Nat) (k212 : zHp → Nat → Nat → Nat → Option (Int32 × zHp × Nat)) (k268 : Int32 → Int32 → zHp → Nat → Nat → Nat → Option (Int32 × zHp × Nat)) (rec : Int32 → Int32 → Int32 → zHp → Nat → Nat → Nat → Option (Int32 × zHp × Nat)) (a0 : Nat) (x1 : Int32) (a2 : Nat) (x3 : Int32) (x4 : Int32) (x5 : Int32) (x6 : Int32) (x7 : Int32) (x8 : Int32) (x10 : Int32) (h : zHp) (sz : Nat) (uc : Nat) (us : Nat) : Option (Int32 × zHp × Nat) :=
  zlet (x10 + (1 : Int32)) fun v49 => rec x8 x10 v49 h sz uc us
set_option maxHeartbeats 4000000 in
set_option maxRecDepth 100000 in
theorem wj_L_isTold_258 {P : zX} {ro : Nat → Nat} {mc ms : Nat} (C : zC P cL_isTold RL (some .boolean) 8 mc ms 15 ro) {a0 : Nat} {x1 : Int32} {a2 : Nat} {x3 : Int32} {x4 : Int32} {x5 : Int32} {x6 : Int32} {x7 : Int32} {x8 : Int32} {x10 : Int32} {h : zHp} {sz : Nat} {uc : Nat} {us : Nat} {k212 : zHp → Nat → Nat → Nat → Option (Int32 × zHp × Nat)} (hk212 : ∀ (h : zHp) (sz : Nat) (uc : Nat) (us : Nat), zG P zoIA (k212 h sz uc us) 212 [] [] h sz uc us) {k268 : Int32 → Int32 → zHp → Nat → Nat → Nat → Option (Int32 × zHp × Nat)} (hk268 : ∀ (x8 : Int32) (x9 : Int32) (h : zHp) (sz : Nat) (uc : Nat) (us : Nat), zG P zoIA (k268 x8 x9 h sz uc us) 268 [(0, .ref a0), (1, .int x1), (2, .ref a2), (3, .int x3), (4, .int x4), (5, .int x5), (6, .int x6), (7, .int x7), (8, .int x8), (9, .int x9)] [] h sz uc us) {rec : Int32 → Int32 → Int32 → zHp → Nat → Nat → Nat → Option (Int32 × zHp × Nat)} (hrec : ∀ (x8 : Int32) (x9 : Int32) (x10 : Int32) (h : zHp) (sz : Nat) (uc : Nat) (us : Nat), zG P zoIA (rec x8 x9 x10 h sz uc us) 191 [(0, .ref a0), (1, .int x1), (2, .ref a2), (3, .int x3), (4, .int x4), (5, .int x5), (6, .int x6), (7, .int x7), (8, .int x8), (9, .int x9), (10, .int x10)] [] h sz uc us) : zG P zoIA (j_L_isTold_258 mc ms k212 k268 rec a0 x1 a2 x3 x4 x5 x6 x7 x8 x10 h sz uc us) 258 [(0, .ref a0), (1, .int x1), (2, .ref a2), (3, .int x3), (4, .int x4), (5, .int x5), (6, .int x6), (7, .int x7), (8, .int x8), (10, .int x10)] [] h sz uc us := by
  unfold j_L_isTold_258
  refine z_iload C dL_isTold_258 9 rfl ?_
  refine z_istore (lv' := [(0, .ref a0), (1, .int x1), (2, .ref a2), (3, .int x3), (4, .int x4), (5, .int x5), (6, .int x6), (7, .int x7), (8, .int x8), (9, .int x10), (10, .int x10)]) C dL_isTold_260 (by decide) rfl ?_
  refine z_iincL C 10 (fun v49 => [(0, .ref a0), (1, .int x1), (2, .ref a2), (3, .int x3), (4, .int x4), (5, .int x5), (6, .int x6), (7, .int x7), (8, .int x8), (9, .int x10), (10, .int v49)]) dL_isTold_262 rfl zi_1 (by decide) (fun _ => rfl) (fun v49 => ?_)
  refine z_goto C 191 dL_isTold_265 (by decide) ?_
  exact hrec _ _ _ _ _ _ _
noncomputable def b_L_isTold_191 (mc ms : Nat) (k212 : zHp → Nat → Nat → Nat → Option (Int32 × zHp × Nat)) (k268 : Int32 → Int32 → zHp → Nat → Nat → Nat → Option (Int32 × zHp × Nat)) (a0 : Nat) (x1 : Int32) (a2 : Nat) (x3 : Int32) (x4 : Int32) (x5 : Int32) (x6 : Int32) (x7 : Int32) (rec : Int32 → Int32 → Int32 → zHp → Nat → Nat → Nat → Option (Int32 × zHp × Nat)) (x8 : Int32) (x9 : Int32) (x10 : Int32) (h : zHp) (sz : Nat) (uc : Nat) (us : Nat) : Option (Int32 × zHp × Nat) :=
  (zlen h 0 a2).bind fun v40 => if x10 < v40 then (zchk (uc ≤ mc ∧ us ≤ ms) <| (f_X7_wardVotes a0 x1 x10 h).bind fun v42 => (zaI h 0 a2 x10).bind fun v43 => if v42 = v43 then ((zlen h 0 a2).bind fun v44 => if x10 = (v44 - (1 : Int32)) then (zlet (x10 + (1 : Int32)) fun v53 => rec x8 x9 v53 h sz uc us) else (zaI h 0 a2 x10).bind fun v45 => zlet (x8 + v45) fun v46 => (zaI h 0 a2 x10).bind fun v47 => if 0 < v47 then (if x9 < 0 then (j_L_isTold_258 mc ms k212 k268 rec a0 x1 a2 x3 x4 x5 x6 x7 v46 x10 h sz uc us) else (zaI h 0 a2 x10).bind fun v50 => (zaI h 0 a2 x9).bind fun v51 => if v51 < v50 then (j_L_isTold_258 mc ms k212 k268 rec a0 x1 a2 x3 x4 x5 x6 x7 v46 x10 h sz uc us) else zlet (x10 + (1 : Int32)) fun v52 => rec v46 x9 v52 h sz uc us) else zlet (x10 + (1 : Int32)) fun v48 => rec v46 x9 v48 h sz uc us) else k212 h sz uc us) else k268 x8 x9 h sz uc us
noncomputable def l_L_isTold_191 (mc ms : Nat) (k212 : zHp → Nat → Nat → Nat → Option (Int32 × zHp × Nat)) (k268 : Int32 → Int32 → zHp → Nat → Nat → Nat → Option (Int32 × zHp × Nat)) (a0 : Nat) (x1 : Int32) (a2 : Nat) (x3 : Int32) (x4 : Int32) (x5 : Int32) (x6 : Int32) (x7 : Int32) (n : Nat) : Int32 → Int32 → Int32 → zHp → Nat → Nat → Nat → Option (Int32 × zHp × Nat) :=
  Nat.rec (motive := fun _ => Int32 → Int32 → Int32 → zHp → Nat → Nat → Nat → Option (Int32 × zHp × Nat)) (fun _ _ _ _ _ _ _ => none) (fun _ rec => b_L_isTold_191 mc ms k212 k268 a0 x1 a2 x3 x4 x5 x6 x7 rec) n
theorem l_L_isTold_191_s {mc ms : Nat} (k212 : zHp → Nat → Nat → Nat → Option (Int32 × zHp × Nat)) (k268 : Int32 → Int32 → zHp → Nat → Nat → Nat → Option (Int32 × zHp × Nat)) (a0 : Nat) (x1 : Int32) (a2 : Nat) (x3 : Int32) (x4 : Int32) (x5 : Int32) (x6 : Int32) (x7 : Int32) (n : Nat) (x8 : Int32) (x9 : Int32) (x10 : Int32) (h : zHp) (sz : Nat) (uc : Nat) (us : Nat) : l_L_isTold_191 mc ms k212 k268 a0 x1 a2 x3 x4 x5 x6 x7 (n + 1) x8 x9 x10 h sz uc us = b_L_isTold_191 mc ms k212 k268 a0 x1 a2 x3 x4 x5 x6 x7 (l_L_isTold_191 mc ms k212 k268 a0 x1 a2 x3 x4 x5 x6 x7 n) x8 x9 x10 h sz uc us := rfl
set_option maxHeartbeats 4000000 in
set_option maxRecDepth 100000 in
theorem wl_L_isTold_191 {P : zX} {ro : Nat → Nat} {mc ms : Nat} (C : zC P cL_isTold RL (some .boolean) 8 mc ms 15 ro) {a0 : Nat} {x1 : Int32} {a2 : Nat} {x3 : Int32} {x4 : Int32} {x5 : Int32} {x6 : Int32} {x7 : Int32} {k212 : zHp → Nat → Nat → Nat → Option (Int32 × zHp × Nat)} (hk212 : ∀ (h : zHp) (sz : Nat) (uc : Nat) (us : Nat), zG P zoIA (k212 h sz uc us) 212 [] [] h sz uc us) {k268 : Int32 → Int32 → zHp → Nat → Nat → Nat → Option (Int32 × zHp × Nat)} (hk268 : ∀ (x8 : Int32) (x9 : Int32) (h : zHp) (sz : Nat) (uc : Nat) (us : Nat), zG P zoIA (k268 x8 x9 h sz uc us) 268 [(0, .ref a0), (1, .int x1), (2, .ref a2), (3, .int x3), (4, .int x4), (5, .int x5), (6, .int x6), (7, .int x7), (8, .int x8), (9, .int x9)] [] h sz uc us) : ∀ (n : Nat) (x8 : Int32) (x9 : Int32) (x10 : Int32) (h : zHp) (sz : Nat) (uc : Nat) (us : Nat), zG P zoIA (l_L_isTold_191 mc ms k212 k268 a0 x1 a2 x3 x4 x5 x6 x7 n x8 x9 x10 h sz uc us) 191 [(0, .ref a0), (1, .int x1), (2, .ref a2), (3, .int x3), (4, .int x4), (5, .int x5), (6, .int x6), (7, .int x7), (8, .int x8), (9, .int x9), (10, .int x10)] [] h sz uc us := by
  intro n
  induction n with
  | zero =>
    intro x8 x9 x10 h sz uc us
    show zG P zoIA none _ _ _ _ _ _ _
    exact z_none
  | succ n ih =>
    intro x8 x9 x10 h sz uc us
    show zG P zoIA (b_L_isTold_191 mc ms k212 k268 a0 x1 a2 x3 x4 x5 x6 x7 (l_L_isTold_191 mc ms k212 k268 a0 x1 a2 x3 x4 x5 x6 x7 n) x8 x9 x10 h sz uc us) _ _ _ _ _ _ _
    unfold b_L_isTold_191
    refine z_iload C dL_isTold_191 10 rfl ?_
    refine z_aload_n C dL_isTold_193 2 rfl ?_
    refine z_arraylength (t := 0) (ty := .int) C (fun _ => rfl) (by decide) dL_isTold_194 (fun v40 => ?_)
    refine z_icmp_ge C 268 dL_isTold_195 (by decide) ?_ ?_
    · refine z_aload_n C dL_isTold_198 0 rfl ?_
      refine z_iload_n C dL_isTold_199 1 rfl ?_
      refine z_iload C dL_isTold_200 10 rfl ?_
      refine z_chk (fun q41 => ?_)
      refine z_callVp C zc_L_227 [.int x1, .int x10] (fun l D tc b0 r h => m_X7_wardVotes l D tc ro b0 h) dL_isTold_202 rfl rfl (Nat.le_of_ble_eq_true rfl) (by decide) (by decide) q41 (fun v42 => ?_)
      refine z_aload_n C dL_isTold_205 2 rfl ?_
      refine z_iload C dL_isTold_206 10 rfl ?_
      refine z_iaload C dL_isTold_208 (fun v43 => ?_)
      refine z_icmp_eq C 214 dL_isTold_209 (by decide) ?_ ?_
      · refine z_iload C dL_isTold_214 10 rfl ?_
        refine z_aload_n C dL_isTold_216 2 rfl ?_
        refine z_arraylength (t := 0) (ty := .int) C (fun _ => rfl) (by decide) dL_isTold_217 (fun v44 => ?_)
        refine z_iconst C dL_isTold_218 zi_1 ?_
        refine z_isub C dL_isTold_219 ?_
        refine z_icmp_ne C 226 dL_isTold_220 (by decide) ?_ ?_
        · refine z_goto C 262 dL_isTold_223 (by decide) ?_
          refine z_iincL C 10 (fun v53 => [(0, .ref a0), (1, .int x1), (2, .ref a2), (3, .int x3), (4, .int x4), (5, .int x5), (6, .int x6), (7, .int x7), (8, .int x8), (9, .int x9), (10, .int v53)]) dL_isTold_262 rfl zi_1 (by decide) (fun _ => rfl) (fun v53 => ?_)
          refine z_goto C 191 dL_isTold_265 (by decide) ?_
          exact ih _ _ _ _ _ _ _
        refine z_iload C dL_isTold_226 8 rfl ?_
        refine z_aload_n C dL_isTold_228 2 rfl ?_
        refine z_iload C dL_isTold_229 10 rfl ?_
        refine z_iaload C dL_isTold_231 (fun v45 => ?_)
        refine z_iadd C dL_isTold_232 ?_
        refine z_istoreL C (fun v46 => [(0, .ref a0), (1, .int x1), (2, .ref a2), (3, .int x3), (4, .int x4), (5, .int x5), (6, .int x6), (7, .int x7), (8, .int v46), (9, .int x9), (10, .int x10)]) dL_isTold_233 (by decide) (fun _ => rfl) (fun v46 => ?_)
        refine z_aload_n C dL_isTold_235 2 rfl ?_
        refine z_iload C dL_isTold_236 10 rfl ?_
        refine z_iaload C dL_isTold_238 (fun v47 => ?_)
        refine z_if_le C 262 dL_isTold_239 (by decide) ?_ ?_
        · refine z_iload C dL_isTold_242 9 rfl ?_
          refine z_if_lt C 258 dL_isTold_244 (by decide) ?_ ?_
          · exact z_sub [0, 1, 2, 3, 4, 5, 6, 7, 8, 10] rfl (wj_L_isTold_258 C hk212 hk268 ih)
          refine z_aload_n C dL_isTold_247 2 rfl ?_
          refine z_iload C dL_isTold_248 10 rfl ?_
          refine z_iaload C dL_isTold_250 (fun v50 => ?_)
          refine z_aload_n C dL_isTold_251 2 rfl ?_
          refine z_iload C dL_isTold_252 9 rfl ?_
          refine z_iaload C dL_isTold_254 (fun v51 => ?_)
          refine z_icmp_le C 262 dL_isTold_255 (by decide) ?_ ?_
          · exact z_sub [0, 1, 2, 3, 4, 5, 6, 7, 8, 10] rfl (wj_L_isTold_258 C hk212 hk268 ih)
          refine z_iincL C 10 (fun v52 => [(0, .ref a0), (1, .int x1), (2, .ref a2), (3, .int x3), (4, .int x4), (5, .int x5), (6, .int x6), (7, .int x7), (8, .int v46), (9, .int x9), (10, .int v52)]) dL_isTold_262 rfl zi_1 (by decide) (fun _ => rfl) (fun v52 => ?_)
          refine z_goto C 191 dL_isTold_265 (by decide) ?_
          exact ih _ _ _ _ _ _ _
        refine z_iincL C 10 (fun v48 => [(0, .ref a0), (1, .int x1), (2, .ref a2), (3, .int x3), (4, .int x4), (5, .int x5), (6, .int x6), (7, .int x7), (8, .int v46), (9, .int x9), (10, .int v48)]) dL_isTold_262 rfl zi_1 (by decide) (fun _ => rfl) (fun v48 => ?_)
        refine z_goto C 191 dL_isTold_265 (by decide) ?_
        exact ih _ _ _ _ _ _ _
      exact z_sub [] rfl (hk212 _ _ _ _)
    exact z_sub [0, 1, 2, 3, 4, 5, 6, 7, 8, 9] rfl (hk268 _ _ _ _ _ _)
noncomputable def b_L_isTold_274 (mc ms : Nat) (k307 : Int32 → zHp → Nat → Nat → Nat → Option (Int32 × zHp × Nat)) (a0 : Nat) (x1 : Int32) (a2 : Nat) (x3 : Int32) (x4 : Int32) (x5 : Int32) (x6 : Int32) (x7 : Int32) (x8 : Int32) (x9 : Int32) (rec : Int32 → Int32 → zHp → Nat → Nat → Nat → Option (Int32 × zHp × Nat)) (x10 : Int32) (x11 : Int32) (h : zHp) (sz : Nat) (uc : Nat) (us : Nat) : Option (Int32 × zHp × Nat) :=
  (zlen h 0 a2).bind fun v65 => if x11 < (v65 - (1 : Int32)) then (if x11 = x9 then (zlet (x11 + (1 : Int32)) fun v66 => rec x10 v66 h sz uc us) else (zaI h 0 a2 x11).bind fun v67 => zchk (uc ≤ mc ∧ us ≤ ms) <| zlet (zmax x10 v67) fun v69 => zlet (x11 + (1 : Int32)) fun v70 => rec v69 v70 h sz uc us) else k307 x10 h sz uc us
noncomputable def l_L_isTold_274 (mc ms : Nat) (k307 : Int32 → zHp → Nat → Nat → Nat → Option (Int32 × zHp × Nat)) (a0 : Nat) (x1 : Int32) (a2 : Nat) (x3 : Int32) (x4 : Int32) (x5 : Int32) (x6 : Int32) (x7 : Int32) (x8 : Int32) (x9 : Int32) (n : Nat) : Int32 → Int32 → zHp → Nat → Nat → Nat → Option (Int32 × zHp × Nat) :=
  Nat.rec (motive := fun _ => Int32 → Int32 → zHp → Nat → Nat → Nat → Option (Int32 × zHp × Nat)) (fun _ _ _ _ _ _ => none) (fun _ rec => b_L_isTold_274 mc ms k307 a0 x1 a2 x3 x4 x5 x6 x7 x8 x9 rec) n
theorem l_L_isTold_274_s {mc ms : Nat} (k307 : Int32 → zHp → Nat → Nat → Nat → Option (Int32 × zHp × Nat)) (a0 : Nat) (x1 : Int32) (a2 : Nat) (x3 : Int32) (x4 : Int32) (x5 : Int32) (x6 : Int32) (x7 : Int32) (x8 : Int32) (x9 : Int32) (n : Nat) (x10 : Int32) (x11 : Int32) (h : zHp) (sz : Nat) (uc : Nat) (us : Nat) : l_L_isTold_274 mc ms k307 a0 x1 a2 x3 x4 x5 x6 x7 x8 x9 (n + 1) x10 x11 h sz uc us = b_L_isTold_274 mc ms k307 a0 x1 a2 x3 x4 x5 x6 x7 x8 x9 (l_L_isTold_274 mc ms k307 a0 x1 a2 x3 x4 x5 x6 x7 x8 x9 n) x10 x11 h sz uc us := rfl
set_option maxHeartbeats 4000000 in
set_option maxRecDepth 100000 in
theorem wl_L_isTold_274 {P : zX} {ro : Nat → Nat} {mc ms : Nat} (C : zC P cL_isTold RL (some .boolean) 8 mc ms 15 ro) {a0 : Nat} {x1 : Int32} {a2 : Nat} {x3 : Int32} {x4 : Int32} {x5 : Int32} {x6 : Int32} {x7 : Int32} {x8 : Int32} {x9 : Int32} {k307 : Int32 → zHp → Nat → Nat → Nat → Option (Int32 × zHp × Nat)} (hk307 : ∀ (x10 : Int32) (h : zHp) (sz : Nat) (uc : Nat) (us : Nat), zG P zoIA (k307 x10 h sz uc us) 307 [(0, .ref a0), (1, .int x1), (2, .ref a2), (3, .int x3), (4, .int x4), (5, .int x5), (6, .int x6), (7, .int x7), (8, .int x8), (9, .int x9), (10, .int x10)] [] h sz uc us) : ∀ (n : Nat) (x10 : Int32) (x11 : Int32) (h : zHp) (sz : Nat) (uc : Nat) (us : Nat), zG P zoIA (l_L_isTold_274 mc ms k307 a0 x1 a2 x3 x4 x5 x6 x7 x8 x9 n x10 x11 h sz uc us) 274 [(0, .ref a0), (1, .int x1), (2, .ref a2), (3, .int x3), (4, .int x4), (5, .int x5), (6, .int x6), (7, .int x7), (8, .int x8), (9, .int x9), (10, .int x10), (11, .int x11)] [] h sz uc us := by
  intro n
  induction n with
  | zero =>
    intro x10 x11 h sz uc us
    show zG P zoIA none _ _ _ _ _ _ _
    exact z_none
  | succ n ih =>
    intro x10 x11 h sz uc us
    show zG P zoIA (b_L_isTold_274 mc ms k307 a0 x1 a2 x3 x4 x5 x6 x7 x8 x9 (l_L_isTold_274 mc ms k307 a0 x1 a2 x3 x4 x5 x6 x7 x8 x9 n) x10 x11 h sz uc us) _ _ _ _ _ _ _
    unfold b_L_isTold_274
    refine z_iload C dL_isTold_274 11 rfl ?_
    refine z_aload_n C dL_isTold_276 2 rfl ?_
    refine z_arraylength (t := 0) (ty := .int) C (fun _ => rfl) (by decide) dL_isTold_277 (fun v65 => ?_)
    refine z_iconst C dL_isTold_278 zi_1 ?_
    refine z_isub C dL_isTold_279 ?_
    refine z_icmp_ge C 307 dL_isTold_280 (by decide) ?_ ?_
    · refine z_iload C dL_isTold_283 11 rfl ?_
      refine z_iload C dL_isTold_285 9 rfl ?_
      refine z_icmp_eq C 301 dL_isTold_287 (by decide) ?_ ?_
      · refine z_iincL C 11 (fun v66 => [(0, .ref a0), (1, .int x1), (2, .ref a2), (3, .int x3), (4, .int x4), (5, .int x5), (6, .int x6), (7, .int x7), (8, .int x8), (9, .int x9), (10, .int x10), (11, .int v66)]) dL_isTold_301 rfl zi_1 (by decide) (fun _ => rfl) (fun v66 => ?_)
        refine z_goto C 274 dL_isTold_304 (by decide) ?_
        exact ih _ _ _ _ _ _
      refine z_iload C dL_isTold_290 10 rfl ?_
      refine z_aload_n C dL_isTold_292 2 rfl ?_
      refine z_iload C dL_isTold_293 11 rfl ?_
      refine z_iaload C dL_isTold_295 (fun v67 => ?_)
      refine z_chk (fun q68 => ?_)
      refine z_mmax C zm_L_64 dL_isTold_296 (Nat.le_of_ble_eq_true rfl) (by decide) q68 ?_
      refine z_istoreL C (fun v69 => [(0, .ref a0), (1, .int x1), (2, .ref a2), (3, .int x3), (4, .int x4), (5, .int x5), (6, .int x6), (7, .int x7), (8, .int x8), (9, .int x9), (10, .int v69), (11, .int x11)]) dL_isTold_299 (by decide) (fun _ => rfl) (fun v69 => ?_)
      refine z_iincL C 11 (fun v70 => [(0, .ref a0), (1, .int x1), (2, .ref a2), (3, .int x3), (4, .int x4), (5, .int x5), (6, .int x6), (7, .int x7), (8, .int x8), (9, .int x9), (10, .int v69), (11, .int v70)]) dL_isTold_301 rfl zi_1 (by decide) (fun _ => rfl) (fun v70 => ?_)
      refine z_goto C 274 dL_isTold_304 (by decide) ?_
      exact ih _ _ _ _ _ _
    exact z_sub [0, 1, 2, 3, 4, 5, 6, 7, 8, 9, 10] rfl (hk307 _ _ _ _ _)
noncomputable def j_L_isTold_385 (mc ms : Nat) (k394 : Int32 → zHp → Nat → Nat → Nat → Option (Int32 × zHp × Nat)) (rec : Int32 → Int32 → zHp → Nat → Nat → Nat → Option (Int32 × zHp × Nat)) (a0 : Nat) (x1 : Int32) (x3 : Int32) (x4 : Int32) (x5 : Int32) (x6 : Int32) (x7 : Int32) (x9 : Int32) (x11 : Int32) (x12 : Int32) (x14 : Int32) (s0 : Int32) (s1 : Int32) (h : zHp) (sz : Nat) (uc : Nat) (us : Nat) : Option (Int32 × zHp × Nat) :=
  zlet (s0 ||| s1) fun v80 => zlet (x14 + (1 : Int32)) fun v81 => rec v80 v81 h sz uc us
set_option maxHeartbeats 4000000 in
set_option maxRecDepth 100000 in
theorem wj_L_isTold_385 {P : zX} {ro : Nat → Nat} {mc ms : Nat} (C : zC P cL_isTold RL (some .boolean) 8 mc ms 15 ro) {a0 : Nat} {x1 : Int32} {x3 : Int32} {x4 : Int32} {x5 : Int32} {x6 : Int32} {x7 : Int32} {x9 : Int32} {x11 : Int32} {x12 : Int32} {x14 : Int32} {s0 : Int32} {s1 : Int32} {h : zHp} {sz : Nat} {uc : Nat} {us : Nat} {k394 : Int32 → zHp → Nat → Nat → Nat → Option (Int32 × zHp × Nat)} (hk394 : ∀ (x13 : Int32) (h : zHp) (sz : Nat) (uc : Nat) (us : Nat), zG P zoIA (k394 x13 h sz uc us) 394 [(0, .ref a0), (1, .int x1), (3, .int x3), (4, .int x4), (5, .int x5), (6, .int x6), (7, .int x7), (9, .int x9), (11, .int x11), (12, .int x12), (13, .int x13)] [] h sz uc us) {rec : Int32 → Int32 → zHp → Nat → Nat → Nat → Option (Int32 × zHp × Nat)} (hrec : ∀ (x13 : Int32) (x14 : Int32) (h : zHp) (sz : Nat) (uc : Nat) (us : Nat), zG P zoIA (rec x13 x14 h sz uc us) 359 [(0, .ref a0), (1, .int x1), (3, .int x3), (4, .int x4), (5, .int x5), (6, .int x6), (7, .int x7), (9, .int x9), (11, .int x11), (12, .int x12), (13, .int x13), (14, .int x14)] [] h sz uc us) : zG P zoIA (j_L_isTold_385 mc ms k394 rec a0 x1 x3 x4 x5 x6 x7 x9 x11 x12 x14 s0 s1 h sz uc us) 385 [(0, .ref a0), (1, .int x1), (3, .int x3), (4, .int x4), (5, .int x5), (6, .int x6), (7, .int x7), (9, .int x9), (11, .int x11), (12, .int x12), (14, .int x14)] [.int s1, .int s0] h sz uc us := by
  unfold j_L_isTold_385
  refine z_ior C dL_isTold_385 ?_
  refine z_istoreL C (fun v80 => [(0, .ref a0), (1, .int x1), (3, .int x3), (4, .int x4), (5, .int x5), (6, .int x6), (7, .int x7), (9, .int x9), (11, .int x11), (12, .int x12), (13, .int v80), (14, .int x14)]) dL_isTold_386 (by decide) (fun _ => rfl) (fun v80 => ?_)
  refine z_iincL C 11 (fun v81 => [(0, .ref a0), (1, .int x1), (3, .int x3), (4, .int x4), (5, .int x5), (6, .int x6), (7, .int x7), (9, .int x9), (11, .int x11), (12, .int x12), (13, .int v80), (14, .int v81)]) dL_isTold_388 rfl zi_1 (by decide) (fun _ => rfl) (fun v81 => ?_)
  refine z_goto C 359 dL_isTold_391 (by decide) ?_
  exact hrec _ _ _ _ _ _
noncomputable def b_L_isTold_359 (mc ms : Nat) (k394 : Int32 → zHp → Nat → Nat → Nat → Option (Int32 × zHp × Nat)) (a0 : Nat) (x1 : Int32) (x3 : Int32) (x4 : Int32) (x5 : Int32) (x6 : Int32) (x7 : Int32) (x9 : Int32) (x11 : Int32) (x12 : Int32) (rec : Int32 → Int32 → zHp → Nat → Nat → Nat → Option (Int32 × zHp × Nat)) (x13 : Int32) (x14 : Int32) (h : zHp) (sz : Nat) (uc : Nat) (us : Nat) : Option (Int32 × zHp × Nat) :=
  zchk (uc ≤ mc ∧ us ≤ ms) <| (f_X7_declaredCount a0 h).bind fun v78 => if x14 < v78 then ((f_X7_declared a0 x14 h).bind fun v79 => if v79 = x1 then (j_L_isTold_385 mc ms k394 rec a0 x1 x3 x4 x5 x6 x7 x9 x11 x12 x14 x13 (1 : Int32) h sz uc us) else j_L_isTold_385 mc ms k394 rec a0 x1 x3 x4 x5 x6 x7 x9 x11 x12 x14 x13 (0 : Int32) h sz uc us) else k394 x13 h sz uc us
noncomputable def l_L_isTold_359 (mc ms : Nat) (k394 : Int32 → zHp → Nat → Nat → Nat → Option (Int32 × zHp × Nat)) (a0 : Nat) (x1 : Int32) (x3 : Int32) (x4 : Int32) (x5 : Int32) (x6 : Int32) (x7 : Int32) (x9 : Int32) (x11 : Int32) (x12 : Int32) (n : Nat) : Int32 → Int32 → zHp → Nat → Nat → Nat → Option (Int32 × zHp × Nat) :=
  Nat.rec (motive := fun _ => Int32 → Int32 → zHp → Nat → Nat → Nat → Option (Int32 × zHp × Nat)) (fun _ _ _ _ _ _ => none) (fun _ rec => b_L_isTold_359 mc ms k394 a0 x1 x3 x4 x5 x6 x7 x9 x11 x12 rec) n
theorem l_L_isTold_359_s {mc ms : Nat} (k394 : Int32 → zHp → Nat → Nat → Nat → Option (Int32 × zHp × Nat)) (a0 : Nat) (x1 : Int32) (x3 : Int32) (x4 : Int32) (x5 : Int32) (x6 : Int32) (x7 : Int32) (x9 : Int32) (x11 : Int32) (x12 : Int32) (n : Nat) (x13 : Int32) (x14 : Int32) (h : zHp) (sz : Nat) (uc : Nat) (us : Nat) : l_L_isTold_359 mc ms k394 a0 x1 x3 x4 x5 x6 x7 x9 x11 x12 (n + 1) x13 x14 h sz uc us = b_L_isTold_359 mc ms k394 a0 x1 x3 x4 x5 x6 x7 x9 x11 x12 (l_L_isTold_359 mc ms k394 a0 x1 x3 x4 x5 x6 x7 x9 x11 x12 n) x13 x14 h sz uc us := rfl
set_option maxHeartbeats 4000000 in
set_option maxRecDepth 100000 in
theorem wl_L_isTold_359 {P : zX} {ro : Nat → Nat} {mc ms : Nat} (C : zC P cL_isTold RL (some .boolean) 8 mc ms 15 ro) {a0 : Nat} {x1 : Int32} {x3 : Int32} {x4 : Int32} {x5 : Int32} {x6 : Int32} {x7 : Int32} {x9 : Int32} {x11 : Int32} {x12 : Int32} {k394 : Int32 → zHp → Nat → Nat → Nat → Option (Int32 × zHp × Nat)} (hk394 : ∀ (x13 : Int32) (h : zHp) (sz : Nat) (uc : Nat) (us : Nat), zG P zoIA (k394 x13 h sz uc us) 394 [(0, .ref a0), (1, .int x1), (3, .int x3), (4, .int x4), (5, .int x5), (6, .int x6), (7, .int x7), (9, .int x9), (11, .int x11), (12, .int x12), (13, .int x13)] [] h sz uc us) : ∀ (n : Nat) (x13 : Int32) (x14 : Int32) (h : zHp) (sz : Nat) (uc : Nat) (us : Nat), zG P zoIA (l_L_isTold_359 mc ms k394 a0 x1 x3 x4 x5 x6 x7 x9 x11 x12 n x13 x14 h sz uc us) 359 [(0, .ref a0), (1, .int x1), (3, .int x3), (4, .int x4), (5, .int x5), (6, .int x6), (7, .int x7), (9, .int x9), (11, .int x11), (12, .int x12), (13, .int x13), (14, .int x14)] [] h sz uc us := by
  intro n
  induction n with
  | zero =>
    intro x13 x14 h sz uc us
    show zG P zoIA none _ _ _ _ _ _ _
    exact z_none
  | succ n ih =>
    intro x13 x14 h sz uc us
    show zG P zoIA (b_L_isTold_359 mc ms k394 a0 x1 x3 x4 x5 x6 x7 x9 x11 x12 (l_L_isTold_359 mc ms k394 a0 x1 x3 x4 x5 x6 x7 x9 x11 x12 n) x13 x14 h sz uc us) _ _ _ _ _ _ _
    unfold b_L_isTold_359
    refine z_iload C dL_isTold_359 11 rfl ?_
    refine z_aload_n C dL_isTold_361 0 rfl ?_
    refine z_chk (fun q77 => ?_)
    refine z_callVp C zc_L_230 [] (fun l D tc b0 r h => m_X7_declaredCount l D tc ro b0 h) dL_isTold_362 rfl rfl (Nat.le_of_ble_eq_true rfl) (by decide) (by decide) q77 (fun v78 => ?_)
    refine z_icmp_ge C 394 dL_isTold_365 (by decide) ?_ ?_
    · refine z_iload C dL_isTold_368 10 rfl ?_
      refine z_aload_n C dL_isTold_370 0 rfl ?_
      refine z_iload C dL_isTold_371 11 rfl ?_
      refine z_callVp C zc_L_233 [.int x14] (fun l D tc b0 r h => m_X7_declared l D tc ro b0 h) dL_isTold_373 rfl rfl (Nat.le_of_ble_eq_true rfl) (by decide) (by decide) q77 (fun v79 => ?_)
      refine z_iload_n C dL_isTold_376 1 rfl ?_
      refine z_icmp_ne C 384 dL_isTold_377 (by decide) ?_ ?_
      · refine z_iconst C dL_isTold_380 zi_1 ?_
        refine z_goto C 385 dL_isTold_381 (by decide) ?_
        exact z_sub [0, 1, 2, 3, 4, 5, 6, 7, 8, 9, 11] rfl (wj_L_isTold_385 C hk394 ih)
      refine z_iconst C dL_isTold_384 zi_0 ?_
      exact z_sub [0, 1, 2, 3, 4, 5, 6, 7, 8, 9, 11] rfl (wj_L_isTold_385 C hk394 ih)
    exact z_sub [0, 1, 2, 3, 4, 5, 6, 7, 8, 9, 10] rfl (hk394 _ _ _ _ _)
noncomputable def j_L_isTold_449 (mc ms : Nat) (a0 : Nat) (x1 : Int32) (x9 : Int32) (x11 : Int32) (x12 : Int32) (s0 : Int32) (h : zHp) (sz : Nat) (uc : Nat) (us : Nat) : Option (Int32 × zHp × Nat) :=
  zchk (uc ≤ mc ∧ us ≤ ms) <| (f_X7_leader a0 x1 h).bind fun v88 => if v88 = x9 then ((f_X7_margin a0 x1 h).bind fun v89 => if v89 = x11 then ((f_X7_isClose a0 x1 h).bind fun v90 => if v90 = x12 then ((f_X7_whyNot a0 x1 h).bind fun v91 => if v91 = s0 then (some ((1 : Int32), h, sz)) else some ((0 : Int32), h, sz)) else some ((0 : Int32), h, sz)) else some ((0 : Int32), h, sz)) else some ((0 : Int32), h, sz)
set_option maxHeartbeats 4000000 in
set_option maxRecDepth 100000 in
theorem wj_L_isTold_449 {P : zX} {ro : Nat → Nat} {mc ms : Nat} (C : zC P cL_isTold RL (some .boolean) 8 mc ms 15 ro) {a0 : Nat} {x1 : Int32} {x9 : Int32} {x11 : Int32} {x12 : Int32} {s0 : Int32} {h : zHp} {sz : Nat} {uc : Nat} {us : Nat}  : zG P zoIA (j_L_isTold_449 mc ms a0 x1 x9 x11 x12 s0 h sz uc us) 449 [(0, .ref a0), (1, .int x1), (9, .int x9), (11, .int x11), (12, .int x12)] [.int s0] h sz uc us := by
  unfold j_L_isTold_449
  refine z_istore (lv' := [(0, .ref a0), (1, .int x1), (9, .int x9), (11, .int x11), (12, .int x12), (14, .int s0)]) C dL_isTold_449 (by decide) rfl ?_
  refine z_aload_n C dL_isTold_451 0 rfl ?_
  refine z_iload_n C dL_isTold_452 1 rfl ?_
  refine z_chk (fun q87 => ?_)
  refine z_callVp C zc_L_236 [.int x1] (fun l D tc b0 r h => m_X7_leader l D tc ro b0 h) dL_isTold_453 rfl rfl (Nat.le_of_ble_eq_true rfl) (by decide) (by decide) q87 (fun v88 => ?_)
  refine z_iload C dL_isTold_456 2 rfl ?_
  refine z_icmp_ne C 495 dL_isTold_458 (by decide) ?_ ?_
  · refine z_aload_n C dL_isTold_461 0 rfl ?_
    refine z_iload_n C dL_isTold_462 1 rfl ?_
    refine z_callVp C zc_L_239 [.int x1] (fun l D tc b0 r h => m_X7_margin l D tc ro b0 h) dL_isTold_463 rfl rfl (Nat.le_of_ble_eq_true rfl) (by decide) (by decide) q87 (fun v89 => ?_)
    refine z_iload C dL_isTold_466 3 rfl ?_
    refine z_icmp_ne C 495 dL_isTold_468 (by decide) ?_ ?_
    · refine z_aload_n C dL_isTold_471 0 rfl ?_
      refine z_iload_n C dL_isTold_472 1 rfl ?_
      refine z_callVp C zc_L_242 [.int x1] (fun l D tc b0 r h => m_X7_isClose l D tc ro b0 h) dL_isTold_473 rfl rfl (Nat.le_of_ble_eq_true rfl) (by decide) (by decide) q87 (fun v90 => ?_)
      refine z_iload C dL_isTold_476 4 rfl ?_
      refine z_icmp_ne C 495 dL_isTold_478 (by decide) ?_ ?_
      · refine z_aload_n C dL_isTold_481 0 rfl ?_
        refine z_iload_n C dL_isTold_482 1 rfl ?_
        refine z_callVp C zc_L_245 [.int x1] (fun l D tc b0 r h => m_X7_whyNot l D tc ro b0 h) dL_isTold_483 rfl rfl (Nat.le_of_ble_eq_true rfl) (by decide) (by decide) q87 (fun v91 => ?_)
        refine z_iload C dL_isTold_486 5 rfl ?_
        refine z_icmp_ne C 495 dL_isTold_488 (by decide) ?_ ?_
        · refine z_iconst C dL_isTold_491 zi_1 ?_
          refine z_goto C 496 dL_isTold_492 (by decide) ?_
          exact z_kreturnA C rfl dL_isTold_496 q87
        refine z_iconst C dL_isTold_495 zi_0 ?_
        exact z_kreturnA C rfl dL_isTold_496 q87
      refine z_iconst C dL_isTold_495 zi_0 ?_
      exact z_kreturnA C rfl dL_isTold_496 q87
    refine z_iconst C dL_isTold_495 zi_0 ?_
    exact z_kreturnA C rfl dL_isTold_496 q87
  refine z_iconst C dL_isTold_495 zi_0 ?_
  exact z_kreturnA C rfl dL_isTold_496 q87
noncomputable def j_L_isTold_448 (mc ms : Nat) (a0 : Nat) (x1 : Int32) (x9 : Int32) (x11 : Int32) (x12 : Int32) (h : zHp) (sz : Nat) (uc : Nat) (us : Nat) : Option (Int32 × zHp × Nat) :=
  j_L_isTold_449 mc ms a0 x1 x9 x11 x12 (0 : Int32) h sz uc us
set_option maxHeartbeats 4000000 in
set_option maxRecDepth 100000 in
theorem wj_L_isTold_448 {P : zX} {ro : Nat → Nat} {mc ms : Nat} (C : zC P cL_isTold RL (some .boolean) 8 mc ms 15 ro) {a0 : Nat} {x1 : Int32} {x9 : Int32} {x11 : Int32} {x12 : Int32} {h : zHp} {sz : Nat} {uc : Nat} {us : Nat}  : zG P zoIA (j_L_isTold_448 mc ms a0 x1 x9 x11 x12 h sz uc us) 448 [(0, .ref a0), (1, .int x1), (9, .int x9), (11, .int x11), (12, .int x12)] [] h sz uc us := by
  unfold j_L_isTold_448
  refine z_iconst C dL_isTold_448 zi_0 ?_
  exact wj_L_isTold_449 C
noncomputable def j_L_isTold_351 (mc ms : Nat) (a0 : Nat) (x1 : Int32) (x3 : Int32) (x4 : Int32) (x5 : Int32) (x6 : Int32) (x7 : Int32) (x9 : Int32) (x11 : Int32) (s0 : Int32) (h : zHp) (sz : Nat) (uc : Nat) (us : Nat) : Option (Int32 × zHp × Nat) :=
  l_L_isTold_359 mc ms (fun p82 h83 z84 c85 u86 => if p82 = 0 then (if x3 = 0 then (if x7 = 0 then (if x4 = 0 then (if x5 = 0 then (if s0 = 0 then (j_L_isTold_448 mc ms a0 x1 x9 x11 s0 h83 z84 c85 u86) else if x6 = 0 then (j_L_isTold_448 mc ms a0 x1 x9 x11 s0 h83 z84 c85 u86) else j_L_isTold_449 mc ms a0 x1 x9 x11 s0 (5 : Int32) h83 z84 c85 u86) else j_L_isTold_449 mc ms a0 x1 x9 x11 s0 (4 : Int32) h83 z84 c85 u86) else j_L_isTold_449 mc ms a0 x1 x9 x11 s0 (3 : Int32) h83 z84 c85 u86) else j_L_isTold_449 mc ms a0 x1 x9 x11 s0 (2 : Int32) h83 z84 c85 u86) else j_L_isTold_449 mc ms a0 x1 x9 x11 s0 (2 : Int32) h83 z84 c85 u86) else j_L_isTold_449 mc ms a0 x1 x9 x11 s0 (1 : Int32) h83 z84 c85 u86) a0 x1 x3 x4 x5 x6 x7 x9 x11 s0 1000000 (0 : Int32) (0 : Int32) h sz uc us
set_option maxHeartbeats 4000000 in
set_option maxRecDepth 100000 in
theorem wj_L_isTold_351 {P : zX} {ro : Nat → Nat} {mc ms : Nat} (C : zC P cL_isTold RL (some .boolean) 8 mc ms 15 ro) {a0 : Nat} {x1 : Int32} {x3 : Int32} {x4 : Int32} {x5 : Int32} {x6 : Int32} {x7 : Int32} {x9 : Int32} {x11 : Int32} {s0 : Int32} {h : zHp} {sz : Nat} {uc : Nat} {us : Nat}  : zG P zoIA (j_L_isTold_351 mc ms a0 x1 x3 x4 x5 x6 x7 x9 x11 s0 h sz uc us) 351 [(0, .ref a0), (1, .int x1), (3, .int x3), (4, .int x4), (5, .int x5), (6, .int x6), (7, .int x7), (9, .int x9), (11, .int x11)] [.int s0] h sz uc us := by
  unfold j_L_isTold_351
  refine z_istore (lv' := [(0, .ref a0), (1, .int x1), (3, .int x3), (4, .int x4), (5, .int x5), (6, .int x6), (7, .int x7), (9, .int x9), (11, .int x11), (12, .int s0)]) C dL_isTold_351 (by decide) rfl ?_
  refine z_iconst C dL_isTold_353 zi_0 ?_
  refine z_istore (lv' := [(0, .ref a0), (1, .int x1), (3, .int x3), (4, .int x4), (5, .int x5), (6, .int x6), (7, .int x7), (9, .int x9), (11, .int x11), (12, .int s0), (13, .int (0 : Int32))]) C dL_isTold_354 (by decide) rfl ?_
  refine z_iconst C dL_isTold_356 zi_0 ?_
  refine z_istore (lv' := [(0, .ref a0), (1, .int x1), (3, .int x3), (4, .int x4), (5, .int x5), (6, .int x6), (7, .int x7), (9, .int x9), (11, .int x11), (12, .int s0), (13, .int (0 : Int32)), (14, .int (0 : Int32))]) C dL_isTold_357 (by decide) rfl ?_
  refine wl_L_isTold_359 C (fun p82 h83 z84 c85 u86 => ?_) _ _ _ _ _ _ _
  refine z_iload C dL_isTold_394 10 rfl ?_
  refine z_if_eq C 403 dL_isTold_396 (by decide) ?_ ?_
  · refine z_iload_n C dL_isTold_403 2 rfl ?_
    refine z_if_ne C 412 dL_isTold_404 (by decide) ?_ ?_
    · refine z_iload C dL_isTold_407 6 rfl ?_
      refine z_if_eq C 416 dL_isTold_409 (by decide) ?_ ?_
      · refine z_iload C dL_isTold_416 3 rfl ?_
        refine z_if_eq C 425 dL_isTold_418 (by decide) ?_ ?_
        · refine z_iload C dL_isTold_425 4 rfl ?_
          refine z_if_eq C 434 dL_isTold_427 (by decide) ?_ ?_
          · refine z_iload C dL_isTold_434 9 rfl ?_
            refine z_if_eq C 448 dL_isTold_436 (by decide) ?_ ?_
            · exact z_sub [0, 1, 7, 8, 9] rfl (wj_L_isTold_448 C)
            refine z_iload C dL_isTold_439 5 rfl ?_
            refine z_if_eq C 448 dL_isTold_441 (by decide) ?_ ?_
            · exact z_sub [0, 1, 7, 8, 9] rfl (wj_L_isTold_448 C)
            refine z_iconst C dL_isTold_444 zi_5 ?_
            refine z_goto C 449 dL_isTold_445 (by decide) ?_
            exact z_sub [0, 1, 7, 8, 9] rfl (wj_L_isTold_449 C)
          refine z_iconst C dL_isTold_430 zi_4 ?_
          refine z_goto C 449 dL_isTold_431 (by decide) ?_
          exact z_sub [0, 1, 7, 8, 9] rfl (wj_L_isTold_449 C)
        refine z_iconst C dL_isTold_421 zi_3 ?_
        refine z_goto C 449 dL_isTold_422 (by decide) ?_
        exact z_sub [0, 1, 7, 8, 9] rfl (wj_L_isTold_449 C)
      refine z_iconst C dL_isTold_412 zi_2 ?_
      refine z_goto C 449 dL_isTold_413 (by decide) ?_
      exact z_sub [0, 1, 7, 8, 9] rfl (wj_L_isTold_449 C)
    refine z_iconst C dL_isTold_412 zi_2 ?_
    refine z_goto C 449 dL_isTold_413 (by decide) ?_
    exact z_sub [0, 1, 7, 8, 9] rfl (wj_L_isTold_449 C)
  refine z_iconst C dL_isTold_399 zi_1 ?_
  refine z_goto C 449 dL_isTold_400 (by decide) ?_
  exact z_sub [0, 1, 7, 8, 9] rfl (wj_L_isTold_449 C)
noncomputable def j_L_isTold_350 (mc ms : Nat) (a0 : Nat) (x1 : Int32) (x3 : Int32) (x4 : Int32) (x5 : Int32) (x6 : Int32) (x7 : Int32) (x9 : Int32) (x11 : Int32) (h : zHp) (sz : Nat) (uc : Nat) (us : Nat) : Option (Int32 × zHp × Nat) :=
  j_L_isTold_351 mc ms a0 x1 x3 x4 x5 x6 x7 x9 x11 (0 : Int32) h sz uc us
set_option maxHeartbeats 4000000 in
set_option maxRecDepth 100000 in
theorem wj_L_isTold_350 {P : zX} {ro : Nat → Nat} {mc ms : Nat} (C : zC P cL_isTold RL (some .boolean) 8 mc ms 15 ro) {a0 : Nat} {x1 : Int32} {x3 : Int32} {x4 : Int32} {x5 : Int32} {x6 : Int32} {x7 : Int32} {x9 : Int32} {x11 : Int32} {h : zHp} {sz : Nat} {uc : Nat} {us : Nat}  : zG P zoIA (j_L_isTold_350 mc ms a0 x1 x3 x4 x5 x6 x7 x9 x11 h sz uc us) 350 [(0, .ref a0), (1, .int x1), (3, .int x3), (4, .int x4), (5, .int x5), (6, .int x6), (7, .int x7), (9, .int x9), (11, .int x11)] [] h sz uc us := by
  unfold j_L_isTold_350
  refine z_iconst C dL_isTold_350 zi_0 ?_
  exact wj_L_isTold_351 C
noncomputable def j_L_isTold_323 (mc ms : Nat) (a0 : Nat) (x1 : Int32) (x3 : Int32) (x4 : Int32) (x5 : Int32) (x6 : Int32) (x7 : Int32) (x8 : Int32) (x9 : Int32) (s0 : Int32) (h : zHp) (sz : Nat) (uc : Nat) (us : Nat) : Option (Int32 × zHp × Nat) :=
  if 0 < x8 then (zchk (uc ≤ mc ∧ us ≤ ms) <| (f_X7_getSetting a0 (0 : Int32) h).bind fun v93 => if (v93 * x8) < (s0 * (100 : Int32)) then (j_L_isTold_350 mc ms a0 x1 x3 x4 x5 x6 x7 x9 s0 h sz uc us) else j_L_isTold_351 mc ms a0 x1 x3 x4 x5 x6 x7 x9 s0 (1 : Int32) h sz uc us) else j_L_isTold_350 mc ms a0 x1 x3 x4 x5 x6 x7 x9 s0 h sz uc us
set_option maxHeartbeats 4000000 in
set_option maxRecDepth 100000 in
theorem wj_L_isTold_323 {P : zX} {ro : Nat → Nat} {mc ms : Nat} (C : zC P cL_isTold RL (some .boolean) 8 mc ms 15 ro) {a0 : Nat} {x1 : Int32} {x3 : Int32} {x4 : Int32} {x5 : Int32} {x6 : Int32} {x7 : Int32} {x8 : Int32} {x9 : Int32} {s0 : Int32} {h : zHp} {sz : Nat} {uc : Nat} {us : Nat}  : zG P zoIA (j_L_isTold_323 mc ms a0 x1 x3 x4 x5 x6 x7 x8 x9 s0 h sz uc us) 323 [(0, .ref a0), (1, .int x1), (3, .int x3), (4, .int x4), (5, .int x5), (6, .int x6), (7, .int x7), (8, .int x8), (9, .int x9)] [.int s0] h sz uc us := by
  unfold j_L_isTold_323
  refine z_istore (lv' := [(0, .ref a0), (1, .int x1), (3, .int x3), (4, .int x4), (5, .int x5), (6, .int x6), (7, .int x7), (8, .int x8), (9, .int x9), (11, .int s0)]) C dL_isTold_323 (by decide) rfl ?_
  refine z_iload C dL_isTold_325 7 rfl ?_
  refine z_if_le C 350 dL_isTold_327 (by decide) ?_ ?_
  · refine z_iload C dL_isTold_330 9 rfl ?_
    refine z_bipush C dL_isTold_332 zbi_100 ?_
    refine z_imul C dL_isTold_334 ?_
    refine z_aload_n C dL_isTold_335 0 rfl ?_
    refine z_iconst C dL_isTold_336 zi_0 ?_
    refine z_chk (fun q92 => ?_)
    refine z_callVp C zc_L_221 [.int (0 : Int32)] (fun l D tc b0 r h => m_X7_getSetting l D tc ro b0 h) dL_isTold_337 rfl rfl (Nat.le_of_ble_eq_true rfl) (by decide) (by decide) q92 (fun v93 => ?_)
    refine z_iload C dL_isTold_340 7 rfl ?_
    refine z_imul C dL_isTold_342 ?_
    refine z_icmp_gt C 350 dL_isTold_343 (by decide) ?_ ?_
    · exact z_sub [0, 1, 2, 3, 4, 5, 6, 8, 9] rfl (wj_L_isTold_350 C)
    refine z_iconst C dL_isTold_346 zi_1 ?_
    refine z_goto C 351 dL_isTold_347 (by decide) ?_
    exact z_sub [0, 1, 2, 3, 4, 5, 6, 8, 9] rfl (wj_L_isTold_351 C)
  exact z_sub [0, 1, 2, 3, 4, 5, 6, 8, 9] rfl (wj_L_isTold_350 C)
noncomputable def f_L_isTold (mc ms : Nat) (a0 : Nat) (x1 : Int32) (hp : zHp) (sz : Nat) : Option (Int32 × zHp × Nat) :=
  (f_X7_count a0 (0 : Int32) hp).bind fun v1 => zchk (¬ (v1 + (1 : Int32)) < 0 ∧ (v1 + (1 : Int32)).toNatClampNeg ≤ 60000 ∧ 0 + 1 ≤ mc ∧ 0 + (v1 + (1 : Int32)).toNatClampNeg ≤ ms) <| zlet (zup hp sz (.inl (0, (v1 + (1 : Int32)).toNatClampNeg, .inl (fun _ => 0)))) fun h3 => l_L_isTold_27 mc ms (fun p31 p32 p33 p34 p35 h36 z37 c38 u39 => l_L_isTold_191 mc ms (fun h54 z55 c56 u57 => zchk (c56 ≤ mc ∧ u57 ≤ ms) <| some ((0 : Int32), h54, z55)) (fun p59 p60 h61 z62 c63 u64 => l_L_isTold_274 mc ms (fun p71 h72 z73 c74 u75 => if p60 < 0 then (j_L_isTold_323 mc ms a0 x1 p31 p32 p33 p34 p35 p59 p60 (0 : Int32) h72 z73 c74 u75) else (zaI h72 0 sz p60).bind fun v76 => j_L_isTold_323 mc ms a0 x1 p31 p32 p33 p34 p35 p59 p60 (v76 - p71) h72 z73 c74 u75) a0 x1 sz p31 p32 p33 p34 p35 p59 p60 1000000 (0 : Int32) (0 : Int32) h61 z62 c63 u64) a0 x1 sz p31 p32 p33 p34 p35 1000000 (0 : Int32) (-1 : Int32) (0 : Int32) h36 z37 c38 u39) a0 x1 sz 1000000 (1 : Int32) (0 : Int32) (0 : Int32) (0 : Int32) (0 : Int32) (0 : Int32) h3 ((sz + 1)) ((0 + 1)) ((0 + (v1 + (1 : Int32)).toNatClampNeg))
set_option maxHeartbeats 4000000 in
set_option maxRecDepth 100000 in
theorem m_L_isTold (l : Launch) (D : va_G) (tc : Nat → ClassId) (ro : Nat → Nat) (b0 : Nat) {mc ms : Nat} {a0 : Nat} {x1 : Int32} {hp : zHp} {sz : Nat} {r : (Int32 × zHp × Nat)} (h : f_L_isTold mc ms a0 x1 hp sz = some r) : zM l yL_isTold cL_isTold 15 (some .boolean) 8 mc ms [.ref a0, .int x1] D tc ro b0 hp sz (zoIA r).1 (zoIA r).2.1 (zoIA r).2.2 := by
  refine z_start (o := zoIA) (lv := [(0, .ref a0), (1, .int x1)]) h (by decide +kernel) RL rfl rfl (Nat.le_of_ble_eq_true rfl) (fun P C => ?_)
  unfold f_L_isTold
  refine z_aload_n C dL_isTold_0 0 rfl ?_
  refine z_iconst C dL_isTold_1 zi_0 ?_
  refine z_callVp C zc_L_143 [.int (0 : Int32)] (fun l D tc b0 r h => m_X7_count l D tc ro b0 h) dL_isTold_2 rfl rfl (Nat.le_of_ble_eq_true rfl) (by decide) (by decide) ⟨Nat.zero_le _, Nat.zero_le _⟩ (fun v1 => ?_)
  refine z_iconst C dL_isTold_5 zi_1 ?_
  refine z_iadd C dL_isTold_6 ?_
  refine z_chk (fun q2 => ?_)
  refine z_newarr (t := 0) (ty := .int) (A := .inl (fun _ => 0)) C rfl (fun _ => rfl) (by decide) (fun _ _ h => h) (fun _ _ => rfl) zar_int dL_isTold_7 (by decide) q2 (fun h3 => ?_)
  refine z_astore_n (lv' := [(0, .ref a0), (1, .int x1), (2, .ref sz)]) C dL_isTold_9 (by decide) rfl ?_
  refine z_iconst C dL_isTold_10 zi_1 ?_
  refine z_istore_n (lv' := [(0, .ref a0), (1, .int x1), (2, .ref sz), (3, .int (1 : Int32))]) C dL_isTold_11 (by decide) rfl ?_
  refine z_iconst C dL_isTold_12 zi_0 ?_
  refine z_istore (lv' := [(0, .ref a0), (1, .int x1), (2, .ref sz), (3, .int (1 : Int32)), (4, .int (0 : Int32))]) C dL_isTold_13 (by decide) rfl ?_
  refine z_iconst C dL_isTold_15 zi_0 ?_
  refine z_istore (lv' := [(0, .ref a0), (1, .int x1), (2, .ref sz), (3, .int (1 : Int32)), (4, .int (0 : Int32)), (5, .int (0 : Int32))]) C dL_isTold_16 (by decide) rfl ?_
  refine z_iconst C dL_isTold_18 zi_0 ?_
  refine z_istore (lv' := [(0, .ref a0), (1, .int x1), (2, .ref sz), (3, .int (1 : Int32)), (4, .int (0 : Int32)), (5, .int (0 : Int32)), (6, .int (0 : Int32))]) C dL_isTold_19 (by decide) rfl ?_
  refine z_iconst C dL_isTold_21 zi_0 ?_
  refine z_istore (lv' := [(0, .ref a0), (1, .int x1), (2, .ref sz), (3, .int (1 : Int32)), (4, .int (0 : Int32)), (5, .int (0 : Int32)), (6, .int (0 : Int32)), (7, .int (0 : Int32))]) C dL_isTold_22 (by decide) rfl ?_
  refine z_iconst C dL_isTold_24 zi_0 ?_
  refine z_istore (lv' := [(0, .ref a0), (1, .int x1), (2, .ref sz), (3, .int (1 : Int32)), (4, .int (0 : Int32)), (5, .int (0 : Int32)), (6, .int (0 : Int32)), (7, .int (0 : Int32)), (8, .int (0 : Int32))]) C dL_isTold_25 (by decide) rfl ?_
  refine wl_L_isTold_27 C (fun p31 p32 p33 p34 p35 h36 z37 c38 u39 => ?_) _ _ _ _ _ _ _ _ _ _ _
  refine z_iconst C dL_isTold_182 zi_0 ?_
  refine z_istore (lv' := [(0, .ref a0), (1, .int x1), (2, .ref sz), (3, .int p31), (4, .int p32), (5, .int p33), (6, .int p34), (7, .int p35), (8, .int (0 : Int32))]) C dL_isTold_183 (by decide) rfl ?_
  refine z_iconst C dL_isTold_185 zi_m1 ?_
  refine z_istore (lv' := [(0, .ref a0), (1, .int x1), (2, .ref sz), (3, .int p31), (4, .int p32), (5, .int p33), (6, .int p34), (7, .int p35), (8, .int (0 : Int32)), (9, .int (-1 : Int32))]) C dL_isTold_186 (by decide) rfl ?_
  refine z_iconst C dL_isTold_188 zi_0 ?_
  refine z_istore (lv' := [(0, .ref a0), (1, .int x1), (2, .ref sz), (3, .int p31), (4, .int p32), (5, .int p33), (6, .int p34), (7, .int p35), (8, .int (0 : Int32)), (9, .int (-1 : Int32)), (10, .int (0 : Int32))]) C dL_isTold_189 (by decide) rfl ?_
  refine wl_L_isTold_191 C (fun h54 z55 c56 u57 => ?_) (fun p59 p60 h61 z62 c63 u64 => ?_) _ _ _ _ _ _ _ _
  · refine z_iconst C dL_isTold_212 zi_0 ?_
    refine z_chk (fun q58 => ?_)
    exact z_kreturnA C rfl dL_isTold_213 q58
  refine z_iconst C dL_isTold_268 zi_0 ?_
  refine z_istore (lv' := [(0, .ref a0), (1, .int x1), (2, .ref sz), (3, .int p31), (4, .int p32), (5, .int p33), (6, .int p34), (7, .int p35), (8, .int p59), (9, .int p60), (10, .int (0 : Int32))]) C dL_isTold_269 (by decide) rfl ?_
  refine z_iconst C dL_isTold_271 zi_0 ?_
  refine z_istore (lv' := [(0, .ref a0), (1, .int x1), (2, .ref sz), (3, .int p31), (4, .int p32), (5, .int p33), (6, .int p34), (7, .int p35), (8, .int p59), (9, .int p60), (10, .int (0 : Int32)), (11, .int (0 : Int32))]) C dL_isTold_272 (by decide) rfl ?_
  refine wl_L_isTold_274 C (fun p71 h72 z73 c74 u75 => ?_) _ _ _ _ _ _ _
  refine z_iload C dL_isTold_307 9 rfl ?_
  refine z_if_ge C 316 dL_isTold_309 (by decide) ?_ ?_
  · refine z_iconst C dL_isTold_312 zi_0 ?_
    refine z_goto C 323 dL_isTold_313 (by decide) ?_
    exact z_sub [0, 1, 3, 4, 5, 6, 7, 8, 9] rfl (wj_L_isTold_323 C)
  refine z_aload_n C dL_isTold_316 2 rfl ?_
  refine z_iload C dL_isTold_317 9 rfl ?_
  refine z_iaload C dL_isTold_319 (fun v76 => ?_)
  refine z_iload C dL_isTold_320 10 rfl ?_
  refine z_isub C dL_isTold_322 ?_
  exact z_sub [0, 1, 3, 4, 5, 6, 7, 8, 9] rfl (wj_L_isTold_323 C)
