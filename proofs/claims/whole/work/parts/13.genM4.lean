noncomputable def j_X8_work_44 (k62 : zHp → Option (Int32 × zHp)) (rec : Int32 → zHp → Option (Int32 × zHp)) (a0 : Nat) (x1 : Int32) (x2 : Int32) (s0 : Int32) (h : zHp) : Option (Int32 × zHp) :=
  if s0 = (-1 : Int32) then (zlet (x2 + (1 : Int32)) fun v6 => rec v6 h) else (f_X8_opens a0 s0 x2 h).bind fun h7 => zlet (x2 + (1 : Int32)) fun v8 => rec v8 h7
set_option maxHeartbeats 4000000 in
set_option maxRecDepth 100000 in
theorem wj_X8_work_44 {P : zX} {ro : Nat → Nat} {sz : Nat} (C : zC P cX8_work RX8 (some .int) 12 0 0 5 ro) {a0 : Nat} {x1 : Int32} {x2 : Int32} {s0 : Int32} {h : zHp} {k62 : zHp → Option (Int32 × zHp)} (hk62 : ∀ (h : zHp), zG P (zoI sz) (k62 h) 62 [(0, .ref a0)] [] h sz 0 0) {rec : Int32 → zHp → Option (Int32 × zHp)} (hrec : ∀ (x2 : Int32) (h : zHp), zG P (zoI sz) (rec x2 h) 16 [(0, .ref a0), (1, .int x1), (2, .int x2)] [] h sz 0 0) : zG P (zoI sz) (j_X8_work_44 k62 rec a0 x1 x2 s0 h) 44 [(0, .ref a0), (1, .int x1), (2, .int x2)] [.int s0] h sz 0 0 := by
  unfold j_X8_work_44
  refine z_istore_n (lv' := [(0, .ref a0), (1, .int x1), (2, .int x2), (3, .int s0)]) C dX8_work_44 (by decide) rfl ?_
  refine z_iload_n C dX8_work_45 3 rfl ?_
  refine z_iconst C dX8_work_46 zi_m1 ?_
  refine z_icmp_eq C 56 dX8_work_47 (by decide) ?_ ?_
  · refine z_iincL C 2 (fun v6 => [(0, .ref a0), (1, .int x1), (2, .int v6), (3, .int s0)]) dX8_work_56 rfl zi_1 (by decide) (fun _ => rfl) (fun v6 => ?_)
    refine z_goto C 16 dX8_work_59 (by decide) ?_
    exact z_sub [0, 1, 2] rfl (hrec _ _)
  refine z_aload_n C dX8_work_50 0 rfl ?_
  refine z_iload_n C dX8_work_51 3 rfl ?_
  refine z_iload_n C dX8_work_52 2 rfl ?_
  refine z_callVv C zc_X8_313 [.int s0, .int x2] (fun l D tc b0 r h => m_X8_opens l D tc ro b0 h) dX8_work_53 rfl rfl (Nat.le_of_ble_eq_true rfl) (by decide) (by decide) ⟨Nat.le_of_ble_eq_true rfl, Nat.le_of_ble_eq_true rfl⟩ (fun h7 => ?_)
  refine z_iincL C 2 (fun v8 => [(0, .ref a0), (1, .int x1), (2, .int v8), (3, .int s0)]) dX8_work_56 rfl zi_1 (by decide) (fun _ => rfl) (fun v8 => ?_)
  refine z_goto C 16 dX8_work_59 (by decide) ?_
  exact z_sub [0, 1, 2] rfl (hrec _ _)
noncomputable def b_X8_work_16 (k62 : zHp → Option (Int32 × zHp)) (a0 : Nat) (x1 : Int32) (rec : Int32 → zHp → Option (Int32 × zHp)) (x2 : Int32) (h : zHp) : Option (Int32 × zHp) :=
  (f_X8_many a0 (4 : Int32) h).bind fun v4 => if x2 < v4 then ((f_X8_boxOn a0 x2 h).bind fun v5 => if v5 = (-1 : Int32) then ((f_X8_toOpen a0 x1 x2 h).bind fun v9 => j_X8_work_44 k62 rec a0 x1 x2 v9 h) else j_X8_work_44 k62 rec a0 x1 x2 (-1 : Int32) h) else k62 h
noncomputable def l_X8_work_16 (k62 : zHp → Option (Int32 × zHp)) (a0 : Nat) (x1 : Int32) (n : Nat) : Int32 → zHp → Option (Int32 × zHp) :=
  Nat.rec (motive := fun _ => Int32 → zHp → Option (Int32 × zHp)) (fun _ _ => none) (fun _ rec => b_X8_work_16 k62 a0 x1 rec) n
theorem l_X8_work_16_s (k62 : zHp → Option (Int32 × zHp)) (a0 : Nat) (x1 : Int32) (n : Nat) (x2 : Int32) (h : zHp) : l_X8_work_16 k62 a0 x1 (n + 1) x2 h = b_X8_work_16 k62 a0 x1 (l_X8_work_16 k62 a0 x1 n) x2 h := rfl
set_option maxHeartbeats 4000000 in
set_option maxRecDepth 100000 in
theorem wl_X8_work_16 {P : zX} {ro : Nat → Nat} {sz : Nat} (C : zC P cX8_work RX8 (some .int) 12 0 0 5 ro) {a0 : Nat} {x1 : Int32} {k62 : zHp → Option (Int32 × zHp)} (hk62 : ∀ (h : zHp), zG P (zoI sz) (k62 h) 62 [(0, .ref a0)] [] h sz 0 0) : ∀ (n : Nat) (x2 : Int32) (h : zHp), zG P (zoI sz) (l_X8_work_16 k62 a0 x1 n x2 h) 16 [(0, .ref a0), (1, .int x1), (2, .int x2)] [] h sz 0 0 := by
  intro n
  induction n with
  | zero =>
    intro x2 h
    show zG P (zoI sz) none _ _ _ _ _ _ _
    exact z_none
  | succ n ih =>
    intro x2 h
    show zG P (zoI sz) (b_X8_work_16 k62 a0 x1 (l_X8_work_16 k62 a0 x1 n) x2 h) _ _ _ _ _ _ _
    unfold b_X8_work_16
    refine z_iload_n C dX8_work_16 2 rfl ?_
    refine z_aload_n C dX8_work_17 0 rfl ?_
    refine z_iconst C dX8_work_18 zi_4 ?_
    refine z_callVp C zc_X8_44 [.int (4 : Int32)] (fun l D tc b0 r h => m_X8_many l D tc ro b0 h) dX8_work_19 rfl rfl (Nat.le_of_ble_eq_true rfl) (by decide) (by decide) ⟨Nat.le_of_ble_eq_true rfl, Nat.le_of_ble_eq_true rfl⟩ (fun v4 => ?_)
    refine z_icmp_ge C 62 dX8_work_22 (by decide) ?_ ?_
    · refine z_aload_n C dX8_work_25 0 rfl ?_
      refine z_iload_n C dX8_work_26 2 rfl ?_
      refine z_callVp C zc_X8_268 [.int x2] (fun l D tc b0 r h => m_X8_boxOn l D tc ro b0 h) dX8_work_27 rfl rfl (Nat.le_of_ble_eq_true rfl) (by decide) (by decide) ⟨Nat.le_of_ble_eq_true rfl, Nat.le_of_ble_eq_true rfl⟩ (fun v5 => ?_)
      refine z_iconst C dX8_work_30 zi_m1 ?_
      refine z_icmp_ne C 43 dX8_work_31 (by decide) ?_ ?_
      · refine z_aload_n C dX8_work_34 0 rfl ?_
        refine z_iload_n C dX8_work_35 1 rfl ?_
        refine z_iload_n C dX8_work_36 2 rfl ?_
        refine z_callVp C zc_X8_329 [.int x1, .int x2] (fun l D tc b0 r h => m_X8_toOpen l D tc ro b0 h) dX8_work_37 rfl rfl (Nat.le_of_ble_eq_true rfl) (by decide) (by decide) ⟨Nat.le_of_ble_eq_true rfl, Nat.le_of_ble_eq_true rfl⟩ (fun v9 => ?_)
        refine z_goto C 44 dX8_work_40 (by decide) ?_
        exact wj_X8_work_44 C hk62 ih
      refine z_iconst C dX8_work_43 zi_m1 ?_
      exact wj_X8_work_44 C hk62 ih
    exact z_sub [0] rfl (hk62 _)
noncomputable def j_X8_work_112 (k136 : Int32 → zHp → Option (Int32 × zHp)) (rec : Int32 → Int32 → zHp → Option (Int32 × zHp)) (a0 : Nat) (x2 : Int32) (x3 : Int32) (x4 : Int32) (h : zHp) : Option (Int32 × zHp) :=
  (f_X8_of a0 x4 (2 : Int32) h).bind fun v14 => if v14 < (12 : Int32) then ((f_X8_seals a0 x4 h).bind fun h16 => zlet (x3 + (1 : Int32)) fun v17 => rec x2 v17 h16) else zlet (x3 + (1 : Int32)) fun v15 => rec x2 v15 h
set_option maxHeartbeats 4000000 in
set_option maxRecDepth 100000 in
theorem wj_X8_work_112 {P : zX} {ro : Nat → Nat} {sz : Nat} (C : zC P cX8_work RX8 (some .int) 12 0 0 5 ro) {a0 : Nat} {x2 : Int32} {x3 : Int32} {x4 : Int32} {h : zHp} {k136 : Int32 → zHp → Option (Int32 × zHp)} (hk136 : ∀ (x2 : Int32) (h : zHp), zG P (zoI sz) (k136 x2 h) 136 [(2, .int x2)] [] h sz 0 0) {rec : Int32 → Int32 → zHp → Option (Int32 × zHp)} (hrec : ∀ (x2 : Int32) (x3 : Int32) (h : zHp), zG P (zoI sz) (rec x2 x3 h) 66 [(0, .ref a0), (2, .int x2), (3, .int x3)] [] h sz 0 0) : zG P (zoI sz) (j_X8_work_112 k136 rec a0 x2 x3 x4 h) 112 [(0, .ref a0), (2, .int x2), (3, .int x3), (4, .int x4)] [] h sz 0 0 := by
  unfold j_X8_work_112
  refine z_aload_n C dX8_work_112 0 rfl ?_
  refine z_iload C dX8_work_113 3 rfl ?_
  refine z_iconst C dX8_work_115 zi_2 ?_
  refine z_callVp C zc_X8_48 [.int x4, .int (2 : Int32)] (fun l D tc b0 r h => m_X8_of l D tc ro b0 h) dX8_work_116 rfl rfl (Nat.le_of_ble_eq_true rfl) (by decide) (by decide) ⟨Nat.le_of_ble_eq_true rfl, Nat.le_of_ble_eq_true rfl⟩ (fun v14 => ?_)
  refine z_bipush C dX8_work_119 zbi_12 ?_
  refine z_icmp_ge C 130 dX8_work_121 (by decide) ?_ ?_
  · refine z_aload_n C dX8_work_124 0 rfl ?_
    refine z_iload C dX8_work_125 3 rfl ?_
    refine z_callVv C zc_X8_323 [.int x4] (fun l D tc b0 r h => m_X8_seals l D tc ro b0 h) dX8_work_127 rfl rfl (Nat.le_of_ble_eq_true rfl) (by decide) (by decide) ⟨Nat.le_of_ble_eq_true rfl, Nat.le_of_ble_eq_true rfl⟩ (fun h16 => ?_)
    refine z_iincL C 2 (fun v17 => [(0, .ref a0), (2, .int x2), (3, .int v17), (4, .int x4)]) dX8_work_130 rfl zi_1 (by decide) (fun _ => rfl) (fun v17 => ?_)
    refine z_goto C 66 dX8_work_133 (by decide) ?_
    exact z_sub [0, 1, 2] rfl (hrec _ _ _)
  refine z_iincL C 2 (fun v15 => [(0, .ref a0), (2, .int x2), (3, .int v15), (4, .int x4)]) dX8_work_130 rfl zi_1 (by decide) (fun _ => rfl) (fun v15 => ?_)
  refine z_goto C 66 dX8_work_133 (by decide) ?_
  exact z_sub [0, 1, 2] rfl (hrec _ _ _)
noncomputable def b_X8_work_66 (k136 : Int32 → zHp → Option (Int32 × zHp)) (a0 : Nat) (rec : Int32 → Int32 → zHp → Option (Int32 × zHp)) (x2 : Int32) (x3 : Int32) (h : zHp) : Option (Int32 × zHp) :=
  (f_X8_many a0 (4 : Int32) h).bind fun v11 => if x3 < v11 then ((f_X8_boxOn a0 x3 h).bind fun v12 => if v12 = (-1 : Int32) then (zlet (x3 + (1 : Int32)) fun v20 => rec x2 v20 h) else (f_X8_of a0 v12 (3 : Int32) h).bind fun v13 => if v13 < (4 : Int32) then ((f_X8_counts a0 v12 x3 h).bind fun h18 => zlet (x2 + (1 : Int32)) fun v19 => j_X8_work_112 k136 rec a0 v19 x3 v12 h18) else j_X8_work_112 k136 rec a0 x2 x3 v12 h) else k136 x2 h
noncomputable def l_X8_work_66 (k136 : Int32 → zHp → Option (Int32 × zHp)) (a0 : Nat) (n : Nat) : Int32 → Int32 → zHp → Option (Int32 × zHp) :=
  Nat.rec (motive := fun _ => Int32 → Int32 → zHp → Option (Int32 × zHp)) (fun _ _ _ => none) (fun _ rec => b_X8_work_66 k136 a0 rec) n
theorem l_X8_work_66_s (k136 : Int32 → zHp → Option (Int32 × zHp)) (a0 : Nat) (n : Nat) (x2 : Int32) (x3 : Int32) (h : zHp) : l_X8_work_66 k136 a0 (n + 1) x2 x3 h = b_X8_work_66 k136 a0 (l_X8_work_66 k136 a0 n) x2 x3 h := rfl
set_option maxHeartbeats 4000000 in
set_option maxRecDepth 100000 in
theorem wl_X8_work_66 {P : zX} {ro : Nat → Nat} {sz : Nat} (C : zC P cX8_work RX8 (some .int) 12 0 0 5 ro) {a0 : Nat} {k136 : Int32 → zHp → Option (Int32 × zHp)} (hk136 : ∀ (x2 : Int32) (h : zHp), zG P (zoI sz) (k136 x2 h) 136 [(2, .int x2)] [] h sz 0 0) : ∀ (n : Nat) (x2 : Int32) (x3 : Int32) (h : zHp), zG P (zoI sz) (l_X8_work_66 k136 a0 n x2 x3 h) 66 [(0, .ref a0), (2, .int x2), (3, .int x3)] [] h sz 0 0 := by
  intro n
  induction n with
  | zero =>
    intro x2 x3 h
    show zG P (zoI sz) none _ _ _ _ _ _ _
    exact z_none
  | succ n ih =>
    intro x2 x3 h
    show zG P (zoI sz) (b_X8_work_66 k136 a0 (l_X8_work_66 k136 a0 n) x2 x3 h) _ _ _ _ _ _ _
    unfold b_X8_work_66
    refine z_iload_n C dX8_work_66 2 rfl ?_
    refine z_aload_n C dX8_work_67 0 rfl ?_
    refine z_iconst C dX8_work_68 zi_4 ?_
    refine z_callVp C zc_X8_44 [.int (4 : Int32)] (fun l D tc b0 r h => m_X8_many l D tc ro b0 h) dX8_work_69 rfl rfl (Nat.le_of_ble_eq_true rfl) (by decide) (by decide) ⟨Nat.le_of_ble_eq_true rfl, Nat.le_of_ble_eq_true rfl⟩ (fun v11 => ?_)
    refine z_icmp_ge C 136 dX8_work_72 (by decide) ?_ ?_
    · refine z_aload_n C dX8_work_75 0 rfl ?_
      refine z_iload_n C dX8_work_76 2 rfl ?_
      refine z_callVp C zc_X8_268 [.int x3] (fun l D tc b0 r h => m_X8_boxOn l D tc ro b0 h) dX8_work_77 rfl rfl (Nat.le_of_ble_eq_true rfl) (by decide) (by decide) ⟨Nat.le_of_ble_eq_true rfl, Nat.le_of_ble_eq_true rfl⟩ (fun v12 => ?_)
      refine z_istore (lv' := [(0, .ref a0), (2, .int x2), (3, .int x3), (4, .int v12)]) C dX8_work_80 (by decide) rfl ?_
      refine z_iload C dX8_work_82 3 rfl ?_
      refine z_iconst C dX8_work_84 zi_m1 ?_
      refine z_icmp_ne C 91 dX8_work_85 (by decide) ?_ ?_
      · refine z_goto C 130 dX8_work_88 (by decide) ?_
        refine z_iincL C 2 (fun v20 => [(0, .ref a0), (2, .int x2), (3, .int v20), (4, .int v12)]) dX8_work_130 rfl zi_1 (by decide) (fun _ => rfl) (fun v20 => ?_)
        refine z_goto C 66 dX8_work_133 (by decide) ?_
        exact z_sub [0, 1, 2] rfl (ih _ _ _)
      refine z_aload_n C dX8_work_91 0 rfl ?_
      refine z_iload C dX8_work_92 3 rfl ?_
      refine z_iconst C dX8_work_94 zi_3 ?_
      refine z_callVp C zc_X8_48 [.int v12, .int (3 : Int32)] (fun l D tc b0 r h => m_X8_of l D tc ro b0 h) dX8_work_95 rfl rfl (Nat.le_of_ble_eq_true rfl) (by decide) (by decide) ⟨Nat.le_of_ble_eq_true rfl, Nat.le_of_ble_eq_true rfl⟩ (fun v13 => ?_)
      refine z_iconst C dX8_work_98 zi_4 ?_
      refine z_icmp_ge C 112 dX8_work_99 (by decide) ?_ ?_
      · refine z_aload_n C dX8_work_102 0 rfl ?_
        refine z_iload C dX8_work_103 3 rfl ?_
        refine z_iload_n C dX8_work_105 2 rfl ?_
        refine z_callVv C zc_X8_317 [.int v12, .int x3] (fun l D tc b0 r h => m_X8_counts l D tc ro b0 h) dX8_work_106 rfl rfl (Nat.le_of_ble_eq_true rfl) (by decide) (by decide) ⟨Nat.le_of_ble_eq_true rfl, Nat.le_of_ble_eq_true rfl⟩ (fun h18 => ?_)
        refine z_iincL C 1 (fun v19 => [(0, .ref a0), (2, .int v19), (3, .int x3), (4, .int v12)]) dX8_work_109 rfl zi_1 (by decide) (fun _ => rfl) (fun v19 => ?_)
        exact wj_X8_work_112 C hk136 ih
      exact wj_X8_work_112 C hk136 ih
    exact z_sub [1] rfl (hk136 _ _)
noncomputable def f_X8_work (a0 : Nat) (hp : zHp) : Option (Int32 × zHp) :=
  (zis hp a0 8).bind fun _ => (zpV hp a0 8 0 (.int (0 : Int32))).bind fun h1 => (f_X8_keeps a0 h1).bind fun h2 => (f_X8_due a0 h2).bind fun v3 => l_X8_work_16 (fun h10 => l_X8_work_66 (fun p21 h22 => some (p21, h22)) a0 1000000 (0 : Int32) (0 : Int32) h10) a0 v3 1000000 (0 : Int32) h2
set_option maxHeartbeats 4000000 in
set_option maxRecDepth 100000 in
theorem m_X8_work (l : Launch) (D : va_G) (tc : Nat → ClassId) (ro : Nat → Nat) (b0 : Nat) {a0 : Nat} {hp : zHp} {sz : Nat} {r : (Int32 × zHp)} (h : f_X8_work a0 hp = some r) : zis hp a0 8 = some () ∧ zM l yX8_work cX8_work 5 (some .int) 12 0 0 [.ref a0] D tc ro b0 hp sz ((zoI sz) r).1 ((zoI sz) r).2.1 ((zoI sz) r).2.2 := by
  refine ⟨?_, z_start (o := (zoI sz)) (lv := [(0, .ref a0)]) h (by decide +kernel) RX8 rfl rfl (Nat.le_of_ble_eq_true rfl) (fun P C => ?_)⟩
  · unfold f_X8_work at h
    cases hc : zis hp a0 8 with
    | none => rw [hc] at h; cases h
    | some u => rfl
  unfold f_X8_work
  refine z_is ?_
  refine z_aload_n C dX8_work_0 0 rfl ?_
  refine z_iconst C dX8_work_1 zi_0 ?_
  refine z_putI C zp_X8_38 dX8_work_2 (fun h1 => ?_)
  refine z_aload_n C dX8_work_5 0 rfl ?_
  refine z_callVv C zc_X8_307 [] (fun l D tc b0 r h => m_X8_keeps l D tc ro b0 h) dX8_work_6 rfl rfl (Nat.le_of_ble_eq_true rfl) (by decide) (by decide) ⟨Nat.le_of_ble_eq_true rfl, Nat.le_of_ble_eq_true rfl⟩ (fun h2 => ?_)
  refine z_aload_n C dX8_work_9 0 rfl ?_
  refine z_callVp C zc_X8_277 [] (fun l D tc b0 r h => m_X8_due l D tc ro b0 h) dX8_work_10 rfl rfl (Nat.le_of_ble_eq_true rfl) (by decide) (by decide) ⟨Nat.le_of_ble_eq_true rfl, Nat.le_of_ble_eq_true rfl⟩ (fun v3 => ?_)
  refine z_istore_n (lv' := [(0, .ref a0), (1, .int v3)]) C dX8_work_13 (by decide) rfl ?_
  refine z_iconst C dX8_work_14 zi_0 ?_
  refine z_istore_n (lv' := [(0, .ref a0), (1, .int v3), (2, .int (0 : Int32))]) C dX8_work_15 (by decide) rfl ?_
  refine wl_X8_work_16 C (fun h10 => ?_) _ _ _
  refine z_iconst C dX8_work_62 zi_0 ?_
  refine z_istore_n (lv' := [(0, .ref a0), (2, .int (0 : Int32))]) C dX8_work_63 (by decide) rfl ?_
  refine z_iconst C dX8_work_64 zi_0 ?_
  refine z_istore_n (lv' := [(0, .ref a0), (2, .int (0 : Int32)), (3, .int (0 : Int32))]) C dX8_work_65 (by decide) rfl ?_
  refine wl_X8_work_66 C (fun p21 h22 => ?_) _ _ _ _
  refine z_iload_n C dX8_work_136 0 rfl ?_
  exact z_ireturn C dX8_work_137
noncomputable def f_X8_setSetting (a0 : Nat) (x1 : Int32) (x2 : Int32) (hp : zHp) : Option (Int32 × zHp) :=
  (zis hp a0 8).bind fun _ => (zpV hp a0 8 0 (.int (0 : Int32))).bind fun h1 => (f_X8_isSetting x1 h1).bind fun v2 => if v2 = 0 then (some ((-2 : Int32), h1)) else if x2 < 0 then (some ((-2 : Int32), h1)) else (f_X8_top x1 h1).bind fun v3 => if v3 < x2 then (some ((-2 : Int32), h1)) else (f_X8_keeps a0 h1).bind fun h4 => (zgR h4 a0 8 5).bind fun r5 => (zaI h4 0 r5 ((0 : Int32) + x1)).bind fun v6 => (zgR h4 a0 8 5).bind fun r7 => (zsI h4 r7 ((0 : Int32) + x1) x2).bind fun h8 => some (v6, h8)
set_option maxHeartbeats 4000000 in
set_option maxRecDepth 100000 in
theorem m_X8_setSetting (l : Launch) (D : va_G) (tc : Nat → ClassId) (ro : Nat → Nat) (b0 : Nat) {a0 : Nat} {x1 : Int32} {x2 : Int32} {hp : zHp} {sz : Nat} {r : (Int32 × zHp)} (h : f_X8_setSetting a0 x1 x2 hp = some r) : zis hp a0 8 = some () ∧ zM l yX8_setSetting cX8_setSetting 4 (some .int) 2 0 0 [.ref a0, .int x1, .int x2] D tc ro b0 hp sz ((zoI sz) r).1 ((zoI sz) r).2.1 ((zoI sz) r).2.2 := by
  refine ⟨?_, z_start (o := (zoI sz)) (lv := [(0, .ref a0), (1, .int x1), (2, .int x2)]) h (by decide +kernel) RX8 rfl rfl (Nat.le_of_ble_eq_true rfl) (fun P C => ?_)⟩
  · unfold f_X8_setSetting at h
    cases hc : zis hp a0 8 with
    | none => rw [hc] at h; cases h
    | some u => rfl
  unfold f_X8_setSetting
  refine z_is ?_
  refine z_aload_n C dX8_setSetting_0 0 rfl ?_
  refine z_iconst C dX8_setSetting_1 zi_0 ?_
  refine z_putI C zp_X8_38 dX8_setSetting_2 (fun h1 => ?_)
  refine z_iload_n C dX8_setSetting_5 1 rfl ?_
  refine z_callSp C zs_X8_252 [.int x1] (fun l D tc b0 r h => m_X8_isSetting l D tc ro b0 h) dX8_setSetting_6 rfl rfl (Nat.le_of_ble_eq_true rfl) (by decide) (by decide) ⟨Nat.le_of_ble_eq_true rfl, Nat.le_of_ble_eq_true rfl⟩ (fun v2 => ?_)
  refine z_if_eq C 24 dX8_setSetting_9 (by decide) ?_ ?_
  · refine z_bipush C dX8_setSetting_24 zbi_m2 ?_
    exact z_ireturn C dX8_setSetting_26
  refine z_iload_n C dX8_setSetting_12 2 rfl ?_
  refine z_if_lt C 24 dX8_setSetting_13 (by decide) ?_ ?_
  · refine z_bipush C dX8_setSetting_24 zbi_m2 ?_
    exact z_ireturn C dX8_setSetting_26
  refine z_iload_n C dX8_setSetting_16 2 rfl ?_
  refine z_iload_n C dX8_setSetting_17 1 rfl ?_
  refine z_callSp C zs_X8_218 [.int x1] (fun l D tc b0 r h => m_X8_top l D tc ro b0 h) dX8_setSetting_18 rfl rfl (Nat.le_of_ble_eq_true rfl) (by decide) (by decide) ⟨Nat.le_of_ble_eq_true rfl, Nat.le_of_ble_eq_true rfl⟩ (fun v3 => ?_)
  refine z_icmp_le C 27 dX8_setSetting_21 (by decide) ?_ ?_
  · refine z_bipush C dX8_setSetting_24 zbi_m2 ?_
    exact z_ireturn C dX8_setSetting_26
  refine z_aload_n C dX8_setSetting_27 0 rfl ?_
  refine z_callVv C zc_X8_307 [] (fun l D tc b0 r h => m_X8_keeps l D tc ro b0 h) dX8_setSetting_28 rfl rfl (Nat.le_of_ble_eq_true rfl) (by decide) (by decide) ⟨Nat.le_of_ble_eq_true rfl, Nat.le_of_ble_eq_true rfl⟩ (fun h4 => ?_)
  refine z_aload_n C dX8_setSetting_31 0 rfl ?_
  refine z_getR C zf_X8_19 dX8_setSetting_32 (fun r5 => ?_)
  refine z_iconst C dX8_setSetting_35 zi_0 ?_
  refine z_iload_n C dX8_setSetting_36 1 rfl ?_
  refine z_iadd C dX8_setSetting_37 ?_
  refine z_iaload C dX8_setSetting_38 (fun v6 => ?_)
  refine z_istore_n (lv' := [(0, .ref a0), (1, .int x1), (2, .int x2), (3, .int v6)]) C dX8_setSetting_39 (by decide) rfl ?_
  refine z_aload_n C dX8_setSetting_40 0 rfl ?_
  refine z_getR C zf_X8_19 dX8_setSetting_41 (fun r7 => ?_)
  refine z_iconst C dX8_setSetting_44 zi_0 ?_
  refine z_iload_n C dX8_setSetting_45 1 rfl ?_
  refine z_iadd C dX8_setSetting_46 ?_
  refine z_iload_n C dX8_setSetting_47 2 rfl ?_
  refine z_iastore C dX8_setSetting_48 (fun h8 => ?_)
  refine z_iload_n C dX8_setSetting_49 3 rfl ?_
  exact z_ireturn C dX8_setSetting_50
noncomputable def f_X8_writes (a0 : Nat) (x1 : Int32) (hp : zHp) : Option zHp :=
  (zis hp a0 8).bind fun _ => (zgR hp a0 8 19).bind fun r1 => (zgI hp a0 8 20).bind fun v2 => (zsI hp r1 v2 x1).bind fun h3 => (zgI h3 a0 8 20).bind fun v4 => (zpV h3 a0 8 20 (.int (v4 + (1 : Int32)))).bind fun h5 => some h5
set_option maxHeartbeats 4000000 in
set_option maxRecDepth 100000 in
theorem m_X8_writes (l : Launch) (D : va_G) (tc : Nat → ClassId) (ro : Nat → Nat) (b0 : Nat) {a0 : Nat} {x1 : Int32} {hp : zHp} {sz : Nat} {r : zHp} (h : f_X8_writes a0 x1 hp = some r) : zis hp a0 8 = some () ∧ zM l yX8_writes cX8_writes 2 none 1 0 0 [.ref a0, .int x1] D tc ro b0 hp sz ((zoV sz) r).1 ((zoV sz) r).2.1 ((zoV sz) r).2.2 := by
  refine ⟨?_, z_start (o := (zoV sz)) (lv := [(0, .ref a0), (1, .int x1)]) h (by decide +kernel) RX8 rfl rfl (Nat.le_of_ble_eq_true rfl) (fun P C => ?_)⟩
  · unfold f_X8_writes at h
    cases hc : zis hp a0 8 with
    | none => rw [hc] at h; cases h
    | some u => rfl
  unfold f_X8_writes
  refine z_is ?_
  refine z_aload_n C dX8_writes_0 0 rfl ?_
  refine z_getR C zf_X8_32 dX8_writes_1 (fun r1 => ?_)
  refine z_aload_n C dX8_writes_4 0 rfl ?_
  refine z_getI C zf_X8_332 dX8_writes_5 (fun v2 => ?_)
  refine z_iload_n C dX8_writes_8 1 rfl ?_
  refine z_iastore C dX8_writes_9 (fun h3 => ?_)
  refine z_aload_n C dX8_writes_10 0 rfl ?_
  refine z_dup C dX8_writes_11 rfl ?_
  refine z_getI C zf_X8_332 dX8_writes_12 (fun v4 => ?_)
  refine z_iconst C dX8_writes_15 zi_1 ?_
  refine z_iadd C dX8_writes_16 ?_
  refine z_putI C zp_X8_332 dX8_writes_17 (fun h5 => ?_)
  exact z_return C dX8_writes_20
noncomputable def b_X8_writesName_2 (k33 : zHp → Option zHp) (a0 : Nat) (x1 : Int32) (rec : Int32 → zHp → Option zHp) (x2 : Int32) (h : zHp) : Option zHp :=
  if x2 < 0 then (k33 h) else zlet ((x1 >>> (((5 : Int32) * x2) &&& 31)) &&& (31 : Int32)) fun v1 => if 0 < v1 then ((f_X8_writes a0 ((96 : Int32) + v1) h).bind fun h3 => zlet (x2 + (-1 : Int32)) fun v4 => rec v4 h3) else zlet (x2 + (-1 : Int32)) fun v2 => rec v2 h
noncomputable def l_X8_writesName_2 (k33 : zHp → Option zHp) (a0 : Nat) (x1 : Int32) (n : Nat) : Int32 → zHp → Option zHp :=
  Nat.rec (motive := fun _ => Int32 → zHp → Option zHp) (fun _ _ => none) (fun _ rec => b_X8_writesName_2 k33 a0 x1 rec) n
theorem l_X8_writesName_2_s (k33 : zHp → Option zHp) (a0 : Nat) (x1 : Int32) (n : Nat) (x2 : Int32) (h : zHp) : l_X8_writesName_2 k33 a0 x1 (n + 1) x2 h = b_X8_writesName_2 k33 a0 x1 (l_X8_writesName_2 k33 a0 x1 n) x2 h := rfl
set_option maxHeartbeats 4000000 in
set_option maxRecDepth 100000 in
theorem wl_X8_writesName_2 {P : zX} {ro : Nat → Nat} {sz : Nat} (C : zC P cX8_writesName RX8 none 2 0 0 4 ro) {a0 : Nat} {x1 : Int32} {k33 : zHp → Option zHp} (hk33 : ∀ (h : zHp), zG P (zoV sz) (k33 h) 33 [] [] h sz 0 0) : ∀ (n : Nat) (x2 : Int32) (h : zHp), zG P (zoV sz) (l_X8_writesName_2 k33 a0 x1 n x2 h) 2 [(0, .ref a0), (1, .int x1), (2, .int x2)] [] h sz 0 0 := by
  intro n
  induction n with
  | zero =>
    intro x2 h
    show zG P (zoV sz) none _ _ _ _ _ _ _
    exact z_none
  | succ n ih =>
    intro x2 h
    show zG P (zoV sz) (b_X8_writesName_2 k33 a0 x1 (l_X8_writesName_2 k33 a0 x1 n) x2 h) _ _ _ _ _ _ _
    unfold b_X8_writesName_2
    refine z_iload_n C dX8_writesName_2 2 rfl ?_
    refine z_if_lt C 33 dX8_writesName_3 (by decide) ?_ ?_
    · exact z_sub [] rfl (hk33 _)
    refine z_iload_n C dX8_writesName_6 1 rfl ?_
    refine z_iconst C dX8_writesName_7 zi_5 ?_
    refine z_iload_n C dX8_writesName_8 2 rfl ?_
    refine z_imul C dX8_writesName_9 ?_
    refine z_ishr C dX8_writesName_10 ?_
    refine z_bipush C dX8_writesName_11 zbi_31 ?_
    refine z_iand C dX8_writesName_13 ?_
    refine z_istore_nL C (fun v1 => [(0, .ref a0), (1, .int x1), (2, .int x2), (3, .int v1)]) dX8_writesName_14 (by decide) (fun _ => rfl) (fun v1 => ?_)
    refine z_iload_n C dX8_writesName_15 3 rfl ?_
    refine z_if_le C 27 dX8_writesName_16 (by decide) ?_ ?_
    · refine z_aload_n C dX8_writesName_19 0 rfl ?_
      refine z_bipush C dX8_writesName_20 zbi_96 ?_
      refine z_iload_n C dX8_writesName_22 3 rfl ?_
      refine z_iadd C dX8_writesName_23 ?_
      refine z_callVv C zc_X8_335 [.int ((96 : Int32) + v1)] (fun l D tc b0 r h => m_X8_writes l D tc ro b0 h) dX8_writesName_24 rfl rfl (Nat.le_of_ble_eq_true rfl) (by decide) (by decide) ⟨Nat.le_of_ble_eq_true rfl, Nat.le_of_ble_eq_true rfl⟩ (fun h3 => ?_)
      refine z_iincL C 2 (fun v4 => [(0, .ref a0), (1, .int x1), (2, .int v4), (3, .int v1)]) dX8_writesName_27 rfl zi_m1 (by decide) (fun _ => rfl) (fun v4 => ?_)
      refine z_goto C 2 dX8_writesName_30 (by decide) ?_
      exact z_sub [0, 1, 2] rfl (ih _ _)
    refine z_iincL C 2 (fun v2 => [(0, .ref a0), (1, .int x1), (2, .int v2), (3, .int v1)]) dX8_writesName_27 rfl zi_m1 (by decide) (fun _ => rfl) (fun v2 => ?_)
    refine z_goto C 2 dX8_writesName_30 (by decide) ?_
    exact z_sub [0, 1, 2] rfl (ih _ _)
noncomputable def f_X8_writesName (a0 : Nat) (x1 : Int32) (hp : zHp) : Option zHp :=
  (zis hp a0 8).bind fun _ => l_X8_writesName_2 (fun h5 => some h5) a0 x1 1000000 (5 : Int32) hp
set_option maxHeartbeats 4000000 in
set_option maxRecDepth 100000 in
theorem m_X8_writesName (l : Launch) (D : va_G) (tc : Nat → ClassId) (ro : Nat → Nat) (b0 : Nat) {a0 : Nat} {x1 : Int32} {hp : zHp} {sz : Nat} {r : zHp} (h : f_X8_writesName a0 x1 hp = some r) : zis hp a0 8 = some () ∧ zM l yX8_writesName cX8_writesName 4 none 2 0 0 [.ref a0, .int x1] D tc ro b0 hp sz ((zoV sz) r).1 ((zoV sz) r).2.1 ((zoV sz) r).2.2 := by
  refine ⟨?_, z_start (o := (zoV sz)) (lv := [(0, .ref a0), (1, .int x1)]) h (by decide +kernel) RX8 rfl rfl (Nat.le_of_ble_eq_true rfl) (fun P C => ?_)⟩
  · unfold f_X8_writesName at h
    cases hc : zis hp a0 8 with
    | none => rw [hc] at h; cases h
    | some u => rfl
  unfold f_X8_writesName
  refine z_is ?_
  refine z_iconst C dX8_writesName_0 zi_5 ?_
  refine z_istore_n (lv' := [(0, .ref a0), (1, .int x1), (2, .int (5 : Int32))]) C dX8_writesName_1 (by decide) rfl ?_
  refine wl_X8_writesName_2 C (fun h5 => ?_) _ _ _
  exact z_return C dX8_writesName_33
noncomputable def b_X8_writesNumber_2 (k18 : Int32 → Option zHp) (a0 : Nat) (x1 : Int32) (h : zHp) (rec : Int32 → Option zHp) (x2 : Int32) : Option zHp :=
  (zdiv x1 x2).bind fun v1 => if (9 : Int32) < v1 then (zlet (x2 * (10 : Int32)) fun v2 => rec v2) else k18 x2
noncomputable def l_X8_writesNumber_2 (k18 : Int32 → Option zHp) (a0 : Nat) (x1 : Int32) (h : zHp) (n : Nat) : Int32 → Option zHp :=
  Nat.rec (motive := fun _ => Int32 → Option zHp) (fun _ => none) (fun _ rec => b_X8_writesNumber_2 k18 a0 x1 h rec) n
theorem l_X8_writesNumber_2_s (k18 : Int32 → Option zHp) (a0 : Nat) (x1 : Int32) (h : zHp) (n : Nat) (x2 : Int32) : l_X8_writesNumber_2 k18 a0 x1 h (n + 1) x2 = b_X8_writesNumber_2 k18 a0 x1 h (l_X8_writesNumber_2 k18 a0 x1 h n) x2 := rfl
set_option maxHeartbeats 4000000 in
set_option maxRecDepth 100000 in
theorem wl_X8_writesNumber_2 {P : zX} {ro : Nat → Nat} {sz : Nat} (C : zC P cX8_writesNumber RX8 none 2 0 0 3 ro) {a0 : Nat} {x1 : Int32} {h : zHp} {k18 : Int32 → Option zHp} (hk18 : ∀ (x2 : Int32), zG P (zoV sz) (k18 x2) 18 [(0, .ref a0), (1, .int x1), (2, .int x2)] [] h sz 0 0) : ∀ (n : Nat) (x2 : Int32), zG P (zoV sz) (l_X8_writesNumber_2 k18 a0 x1 h n x2) 2 [(0, .ref a0), (1, .int x1), (2, .int x2)] [] h sz 0 0 := by
  intro n
  induction n with
  | zero =>
    intro x2
    show zG P (zoV sz) none _ _ _ _ _ _ _
    exact z_none
  | succ n ih =>
    intro x2
    show zG P (zoV sz) (b_X8_writesNumber_2 k18 a0 x1 h (l_X8_writesNumber_2 k18 a0 x1 h n) x2) _ _ _ _ _ _ _
    unfold b_X8_writesNumber_2
    refine z_iload_n C dX8_writesNumber_2 1 rfl ?_
    refine z_iload_n C dX8_writesNumber_3 2 rfl ?_
    refine z_idiv C dX8_writesNumber_4 (fun v1 => ?_)
    refine z_bipush C dX8_writesNumber_5 zbi_9 ?_
    refine z_icmp_le C 18 dX8_writesNumber_7 (by decide) ?_ ?_
    · refine z_iload_n C dX8_writesNumber_10 2 rfl ?_
      refine z_bipush C dX8_writesNumber_11 zbi_10 ?_
      refine z_imul C dX8_writesNumber_13 ?_
      refine z_istore_nL C (fun v2 => [(0, .ref a0), (1, .int x1), (2, .int v2)]) dX8_writesNumber_14 (by decide) (fun _ => rfl) (fun v2 => ?_)
      refine z_goto C 2 dX8_writesNumber_15 (by decide) ?_
      exact ih _
    exact hk18 _
noncomputable def b_X8_writesNumber_18 (k43 : zHp → Option zHp) (a0 : Nat) (x1 : Int32) (rec : Int32 → zHp → Option zHp) (x2 : Int32) (h : zHp) : Option zHp :=
  if 0 < x2 then ((zdiv x1 x2).bind fun v4 => (zrem v4 (10 : Int32)).bind fun v5 => (f_X8_writes a0 ((48 : Int32) + v5) h).bind fun h6 => (zdiv x2 (10 : Int32)).bind fun v7 => rec v7 h6) else k43 h
noncomputable def l_X8_writesNumber_18 (k43 : zHp → Option zHp) (a0 : Nat) (x1 : Int32) (n : Nat) : Int32 → zHp → Option zHp :=
  Nat.rec (motive := fun _ => Int32 → zHp → Option zHp) (fun _ _ => none) (fun _ rec => b_X8_writesNumber_18 k43 a0 x1 rec) n
theorem l_X8_writesNumber_18_s (k43 : zHp → Option zHp) (a0 : Nat) (x1 : Int32) (n : Nat) (x2 : Int32) (h : zHp) : l_X8_writesNumber_18 k43 a0 x1 (n + 1) x2 h = b_X8_writesNumber_18 k43 a0 x1 (l_X8_writesNumber_18 k43 a0 x1 n) x2 h := rfl
set_option maxHeartbeats 4000000 in
set_option maxRecDepth 100000 in
theorem wl_X8_writesNumber_18 {P : zX} {ro : Nat → Nat} {sz : Nat} (C : zC P cX8_writesNumber RX8 none 2 0 0 3 ro) {a0 : Nat} {x1 : Int32} {k43 : zHp → Option zHp} (hk43 : ∀ (h : zHp), zG P (zoV sz) (k43 h) 43 [] [] h sz 0 0) : ∀ (n : Nat) (x2 : Int32) (h : zHp), zG P (zoV sz) (l_X8_writesNumber_18 k43 a0 x1 n x2 h) 18 [(0, .ref a0), (1, .int x1), (2, .int x2)] [] h sz 0 0 := by
  intro n
  induction n with
  | zero =>
    intro x2 h
    show zG P (zoV sz) none _ _ _ _ _ _ _
    exact z_none
  | succ n ih =>
    intro x2 h
    show zG P (zoV sz) (b_X8_writesNumber_18 k43 a0 x1 (l_X8_writesNumber_18 k43 a0 x1 n) x2 h) _ _ _ _ _ _ _
    unfold b_X8_writesNumber_18
    refine z_iload_n C dX8_writesNumber_18 2 rfl ?_
    refine z_if_le C 43 dX8_writesNumber_19 (by decide) ?_ ?_
    · refine z_aload_n C dX8_writesNumber_22 0 rfl ?_
      refine z_bipush C dX8_writesNumber_23 zbi_48 ?_
      refine z_iload_n C dX8_writesNumber_25 1 rfl ?_
      refine z_iload_n C dX8_writesNumber_26 2 rfl ?_
      refine z_idiv C dX8_writesNumber_27 (fun v4 => ?_)
      refine z_bipush C dX8_writesNumber_28 zbi_10 ?_
      refine z_irem C dX8_writesNumber_30 (fun v5 => ?_)
      refine z_iadd C dX8_writesNumber_31 ?_
      refine z_callVv C zc_X8_335 [.int ((48 : Int32) + v5)] (fun l D tc b0 r h => m_X8_writes l D tc ro b0 h) dX8_writesNumber_32 rfl rfl (Nat.le_of_ble_eq_true rfl) (by decide) (by decide) ⟨Nat.le_of_ble_eq_true rfl, Nat.le_of_ble_eq_true rfl⟩ (fun h6 => ?_)
      refine z_iload_n C dX8_writesNumber_35 2 rfl ?_
      refine z_bipush C dX8_writesNumber_36 zbi_10 ?_
      refine z_idiv C dX8_writesNumber_38 (fun v7 => ?_)
      refine z_istore_n (lv' := [(0, .ref a0), (1, .int x1), (2, .int v7)]) C dX8_writesNumber_39 (by decide) rfl ?_
      refine z_goto C 18 dX8_writesNumber_40 (by decide) ?_
      exact ih _ _
    exact z_sub [] rfl (hk43 _)
noncomputable def f_X8_writesNumber (a0 : Nat) (x1 : Int32) (hp : zHp) : Option zHp :=
  (zis hp a0 8).bind fun _ => l_X8_writesNumber_2 (fun p3 => l_X8_writesNumber_18 (fun h8 => some h8) a0 x1 1000000 p3 hp) a0 x1 hp 1000000 (1 : Int32)
set_option maxHeartbeats 4000000 in
set_option maxRecDepth 100000 in
theorem m_X8_writesNumber (l : Launch) (D : va_G) (tc : Nat → ClassId) (ro : Nat → Nat) (b0 : Nat) {a0 : Nat} {x1 : Int32} {hp : zHp} {sz : Nat} {r : zHp} (h : f_X8_writesNumber a0 x1 hp = some r) : zis hp a0 8 = some () ∧ zM l yX8_writesNumber cX8_writesNumber 3 none 2 0 0 [.ref a0, .int x1] D tc ro b0 hp sz ((zoV sz) r).1 ((zoV sz) r).2.1 ((zoV sz) r).2.2 := by
  refine ⟨?_, z_start (o := (zoV sz)) (lv := [(0, .ref a0), (1, .int x1)]) h (by decide +kernel) RX8 rfl rfl (Nat.le_of_ble_eq_true rfl) (fun P C => ?_)⟩
  · unfold f_X8_writesNumber at h
    cases hc : zis hp a0 8 with
    | none => rw [hc] at h; cases h
    | some u => rfl
  unfold f_X8_writesNumber
  refine z_is ?_
  refine z_iconst C dX8_writesNumber_0 zi_1 ?_
  refine z_istore_n (lv' := [(0, .ref a0), (1, .int x1), (2, .int (1 : Int32))]) C dX8_writesNumber_1 (by decide) rfl ?_
  refine wl_X8_writesNumber_2 C (fun p3 => ?_) _ _
  refine wl_X8_writesNumber_18 C (fun h8 => ?_) _ _ _
  exact z_return C dX8_writesNumber_43
noncomputable def b_X8_write_37 (k89 : zHp → Option (Int32 × zHp)) (a0 : Nat) (x1 : Int32) (rec : Int32 → zHp → Option (Int32 × zHp)) (x2 : Int32) (h : zHp) : Option (Int32 × zHp) :=
  (f_X8_many a0 (0 : Int32) h).bind fun v9 => if x2 < v9 then ((f_X8_writes a0 (32 : Int32) h).bind fun h10 => (zgR h10 a0 8 3).bind fun r11 => (f_X8_nameAt (0 : Int32) h10).bind fun v12 => (zaI h10 0 r11 (v12 + x2)).bind fun v13 => (f_X8_writesName a0 v13 h10).bind fun h14 => (f_X8_writes a0 (61 : Int32) h14).bind fun h15 => (f_X8_votes a0 x1 x2 h15).bind fun v16 => (f_X8_writesNumber a0 v16 h15).bind fun h17 => zlet (x2 + (1 : Int32)) fun v18 => rec v18 h17) else k89 h
noncomputable def l_X8_write_37 (k89 : zHp → Option (Int32 × zHp)) (a0 : Nat) (x1 : Int32) (n : Nat) : Int32 → zHp → Option (Int32 × zHp) :=
  Nat.rec (motive := fun _ => Int32 → zHp → Option (Int32 × zHp)) (fun _ _ => none) (fun _ rec => b_X8_write_37 k89 a0 x1 rec) n
theorem l_X8_write_37_s (k89 : zHp → Option (Int32 × zHp)) (a0 : Nat) (x1 : Int32) (n : Nat) (x2 : Int32) (h : zHp) : l_X8_write_37 k89 a0 x1 (n + 1) x2 h = b_X8_write_37 k89 a0 x1 (l_X8_write_37 k89 a0 x1 n) x2 h := rfl
set_option maxHeartbeats 4000000 in
set_option maxRecDepth 100000 in
theorem wl_X8_write_37 {P : zX} {ro : Nat → Nat} {sz : Nat} (C : zC P cX8_write RX8 (some .int) 7 0 0 3 ro) {a0 : Nat} {x1 : Int32} {k89 : zHp → Option (Int32 × zHp)} (hk89 : ∀ (h : zHp), zG P (zoI sz) (k89 h) 89 [(0, .ref a0), (1, .int x1)] [] h sz 0 0) : ∀ (n : Nat) (x2 : Int32) (h : zHp), zG P (zoI sz) (l_X8_write_37 k89 a0 x1 n x2 h) 37 [(0, .ref a0), (1, .int x1), (2, .int x2)] [] h sz 0 0 := by
  intro n
  induction n with
  | zero =>
    intro x2 h
    show zG P (zoI sz) none _ _ _ _ _ _ _
    exact z_none
  | succ n ih =>
    intro x2 h
    show zG P (zoI sz) (b_X8_write_37 k89 a0 x1 (l_X8_write_37 k89 a0 x1 n) x2 h) _ _ _ _ _ _ _
    unfold b_X8_write_37
    refine z_iload_n C dX8_write_37 2 rfl ?_
    refine z_aload_n C dX8_write_38 0 rfl ?_
    refine z_iconst C dX8_write_39 zi_0 ?_
    refine z_callVp C zc_X8_44 [.int (0 : Int32)] (fun l D tc b0 r h => m_X8_many l D tc ro b0 h) dX8_write_40 rfl rfl (Nat.le_of_ble_eq_true rfl) (by decide) (by decide) ⟨Nat.le_of_ble_eq_true rfl, Nat.le_of_ble_eq_true rfl⟩ (fun v9 => ?_)
    refine z_icmp_ge C 89 dX8_write_43 (by decide) ?_ ?_
    · refine z_aload_n C dX8_write_46 0 rfl ?_
      refine z_bipush C dX8_write_47 zbi_32 ?_
      refine z_callVv C zc_X8_335 [.int (32 : Int32)] (fun l D tc b0 r h => m_X8_writes l D tc ro b0 h) dX8_write_49 rfl rfl (Nat.le_of_ble_eq_true rfl) (by decide) (by decide) ⟨Nat.le_of_ble_eq_true rfl, Nat.le_of_ble_eq_true rfl⟩ (fun h10 => ?_)
      refine z_aload_n C dX8_write_52 0 rfl ?_
      refine z_aload_n C dX8_write_53 0 rfl ?_
      refine z_getR C zf_X8_13 dX8_write_54 (fun r11 => ?_)
      refine z_iconst C dX8_write_57 zi_0 ?_
      refine z_callSp C zs_X8_190 [.int (0 : Int32)] (fun l D tc b0 r h => m_X8_nameAt l D tc ro b0 h) dX8_write_58 rfl rfl (Nat.le_of_ble_eq_true rfl) (by decide) (by decide) ⟨Nat.le_of_ble_eq_true rfl, Nat.le_of_ble_eq_true rfl⟩ (fun v12 => ?_)
      refine z_iload_n C dX8_write_61 2 rfl ?_
      refine z_iadd C dX8_write_62 ?_
      refine z_iaload C dX8_write_63 (fun v13 => ?_)
      refine z_callVv C zc_X8_338 [.int v13] (fun l D tc b0 r h => m_X8_writesName l D tc ro b0 h) dX8_write_64 rfl rfl (Nat.le_of_ble_eq_true rfl) (by decide) (by decide) ⟨Nat.le_of_ble_eq_true rfl, Nat.le_of_ble_eq_true rfl⟩ (fun h14 => ?_)
      refine z_aload_n C dX8_write_67 0 rfl ?_
      refine z_bipush C dX8_write_68 zbi_61 ?_
      refine z_callVv C zc_X8_335 [.int (61 : Int32)] (fun l D tc b0 r h => m_X8_writes l D tc ro b0 h) dX8_write_70 rfl rfl (Nat.le_of_ble_eq_true rfl) (by decide) (by decide) ⟨Nat.le_of_ble_eq_true rfl, Nat.le_of_ble_eq_true rfl⟩ (fun h15 => ?_)
      refine z_aload_n C dX8_write_73 0 rfl ?_
      refine z_aload_n C dX8_write_74 0 rfl ?_
      refine z_iload_n C dX8_write_75 1 rfl ?_
      refine z_iload_n C dX8_write_76 2 rfl ?_
      refine z_callVp C zc_X8_91 [.int x1, .int x2] (fun l D tc b0 r h => m_X8_votes l D tc ro b0 h) dX8_write_77 rfl rfl (Nat.le_of_ble_eq_true rfl) (by decide) (by decide) ⟨Nat.le_of_ble_eq_true rfl, Nat.le_of_ble_eq_true rfl⟩ (fun v16 => ?_)
      refine z_callVv C zc_X8_341 [.int v16] (fun l D tc b0 r h => m_X8_writesNumber l D tc ro b0 h) dX8_write_80 rfl rfl (Nat.le_of_ble_eq_true rfl) (by decide) (by decide) ⟨Nat.le_of_ble_eq_true rfl, Nat.le_of_ble_eq_true rfl⟩ (fun h17 => ?_)
      refine z_iincL C 2 (fun v18 => [(0, .ref a0), (1, .int x1), (2, .int v18)]) dX8_write_83 rfl zi_1 (by decide) (fun _ => rfl) (fun v18 => ?_)
      refine z_goto C 37 dX8_write_86 (by decide) ?_
      exact ih _ _
    exact z_sub [0, 1] rfl (hk89 _)
noncomputable def f_X8_write (a0 : Nat) (x1 : Int32) (hp : zHp) : Option (Int32 × zHp) :=
  (zis hp a0 8).bind fun _ => (f_X8_is a0 (2 : Int32) x1 hp).bind fun v1 => zb2 (f_X8_checks a0 v1 hp) fun v2 h3 => if v2 = 0 then (some ((0 : Int32), h3)) else (zpV h3 a0 8 20 (.int (0 : Int32))).bind fun h4 => (zgR h4 a0 8 3).bind fun r5 => (f_X8_nameAt (2 : Int32) h4).bind fun v6 => (zaI h4 0 r5 (v6 + x1)).bind fun v7 => (f_X8_writesName a0 v7 h4).bind fun h8 => l_X8_write_37 (fun h19 => (f_X8_isDeclared a0 x1 h19).bind fun v20 => if v20 = 0 then ((zgI h19 a0 8 20).bind fun v21 => some (v21, h19)) else (f_X8_writes a0 (32 : Int32) h19).bind fun h22 => (f_X8_writes a0 (33 : Int32) h22).bind fun h23 => (zgI h23 a0 8 20).bind fun v24 => some (v24, h23)) a0 x1 1000000 (0 : Int32) h8
set_option maxHeartbeats 4000000 in
set_option maxRecDepth 100000 in
theorem m_X8_write (l : Launch) (D : va_G) (tc : Nat → ClassId) (ro : Nat → Nat) (b0 : Nat) {a0 : Nat} {x1 : Int32} {hp : zHp} {sz : Nat} {r : (Int32 × zHp)} (h : f_X8_write a0 x1 hp = some r) : zis hp a0 8 = some () ∧ zM l yX8_write cX8_write 3 (some .int) 7 0 0 [.ref a0, .int x1] D tc ro b0 hp sz ((zoI sz) r).1 ((zoI sz) r).2.1 ((zoI sz) r).2.2 := by
  refine ⟨?_, z_start (o := (zoI sz)) (lv := [(0, .ref a0), (1, .int x1)]) h (by decide +kernel) RX8 rfl rfl (Nat.le_of_ble_eq_true rfl) (fun P C => ?_)⟩
  · unfold f_X8_write at h
    cases hc : zis hp a0 8 with
    | none => rw [hc] at h; cases h
    | some u => rfl
  unfold f_X8_write
  refine z_is ?_
  refine z_aload_n C dX8_write_0 0 rfl ?_
  refine z_aload_n C dX8_write_1 0 rfl ?_
  refine z_iconst C dX8_write_2 zi_2 ?_
  refine z_iload_n C dX8_write_3 1 rfl ?_
  refine z_callVp C zc_X8_255 [.int (2 : Int32), .int x1] (fun l D tc b0 r h => m_X8_is l D tc ro b0 h) dX8_write_4 rfl rfl (Nat.le_of_ble_eq_true rfl) (by decide) (by decide) ⟨Nat.le_of_ble_eq_true rfl, Nat.le_of_ble_eq_true rfl⟩ (fun v1 => ?_)
  refine z_callVi C zc_X8_258 [.int v1] (fun l D tc b0 r h => m_X8_checks l D tc ro b0 h) dX8_write_7 rfl rfl (Nat.le_of_ble_eq_true rfl) (by decide) (by decide) ⟨Nat.le_of_ble_eq_true rfl, Nat.le_of_ble_eq_true rfl⟩ (fun v2 h3 => ?_)
  refine z_if_ne C 15 dX8_write_10 (by decide) ?_ ?_
  · refine z_iconst C dX8_write_13 zi_0 ?_
    exact z_ireturn C dX8_write_14
  refine z_aload_n C dX8_write_15 0 rfl ?_
  refine z_iconst C dX8_write_16 zi_0 ?_
  refine z_putI C zp_X8_332 dX8_write_17 (fun h4 => ?_)
  refine z_aload_n C dX8_write_20 0 rfl ?_
  refine z_aload_n C dX8_write_21 0 rfl ?_
  refine z_getR C zf_X8_13 dX8_write_22 (fun r5 => ?_)
  refine z_iconst C dX8_write_25 zi_2 ?_
  refine z_callSp C zs_X8_190 [.int (2 : Int32)] (fun l D tc b0 r h => m_X8_nameAt l D tc ro b0 h) dX8_write_26 rfl rfl (Nat.le_of_ble_eq_true rfl) (by decide) (by decide) ⟨Nat.le_of_ble_eq_true rfl, Nat.le_of_ble_eq_true rfl⟩ (fun v6 => ?_)
  refine z_iload_n C dX8_write_29 1 rfl ?_
  refine z_iadd C dX8_write_30 ?_
  refine z_iaload C dX8_write_31 (fun v7 => ?_)
  refine z_callVv C zc_X8_338 [.int v7] (fun l D tc b0 r h => m_X8_writesName l D tc ro b0 h) dX8_write_32 rfl rfl (Nat.le_of_ble_eq_true rfl) (by decide) (by decide) ⟨Nat.le_of_ble_eq_true rfl, Nat.le_of_ble_eq_true rfl⟩ (fun h8 => ?_)
  refine z_iconst C dX8_write_35 zi_0 ?_
  refine z_istore_n (lv' := [(0, .ref a0), (1, .int x1), (2, .int (0 : Int32))]) C dX8_write_36 (by decide) rfl ?_
  refine wl_X8_write_37 C (fun h19 => ?_) _ _ _
  refine z_aload_n C dX8_write_89 0 rfl ?_
  refine z_iload_n C dX8_write_90 1 rfl ?_
  refine z_callVp C zc_X8_109 [.int x1] (fun l D tc b0 r h => m_X8_isDeclared l D tc ro b0 h) dX8_write_91 rfl rfl (Nat.le_of_ble_eq_true rfl) (by decide) (by decide) ⟨Nat.le_of_ble_eq_true rfl, Nat.le_of_ble_eq_true rfl⟩ (fun v20 => ?_)
  refine z_if_eq C 109 dX8_write_94 (by decide) ?_ ?_
  · refine z_aload_n C dX8_write_109 0 rfl ?_
    refine z_getI C zf_X8_332 dX8_write_110 (fun v21 => ?_)
    exact z_ireturn C dX8_write_113
  refine z_aload_n C dX8_write_97 0 rfl ?_
  refine z_bipush C dX8_write_98 zbi_32 ?_
  refine z_callVv C zc_X8_335 [.int (32 : Int32)] (fun l D tc b0 r h => m_X8_writes l D tc ro b0 h) dX8_write_100 rfl rfl (Nat.le_of_ble_eq_true rfl) (by decide) (by decide) ⟨Nat.le_of_ble_eq_true rfl, Nat.le_of_ble_eq_true rfl⟩ (fun h22 => ?_)
  refine z_aload_n C dX8_write_103 0 rfl ?_
  refine z_bipush C dX8_write_104 zbi_33 ?_
  refine z_callVv C zc_X8_335 [.int (33 : Int32)] (fun l D tc b0 r h => m_X8_writes l D tc ro b0 h) dX8_write_106 rfl rfl (Nat.le_of_ble_eq_true rfl) (by decide) (by decide) ⟨Nat.le_of_ble_eq_true rfl, Nat.le_of_ble_eq_true rfl⟩ (fun h23 => ?_)
  refine z_aload_n C dX8_write_109 0 rfl ?_
  refine z_getI C zf_X8_332 dX8_write_110 (fun v24 => ?_)
  exact z_ireturn C dX8_write_113
noncomputable def f_X8_outputAt (a0 : Nat) (x1 : Int32) (hp : zHp) : Option (Int32 × zHp) :=
  (zis hp a0 8).bind fun _ => (zpV hp a0 8 0 (.int (0 : Int32))).bind fun h1 => if x1 < 0 then (some ((-1 : Int32), h1)) else (zgI h1 a0 8 20).bind fun v2 => if x1 < v2 then ((zgR h1 a0 8 19).bind fun r3 => (zaI h1 0 r3 x1).bind fun v4 => some (v4, h1)) else some ((-1 : Int32), h1)
set_option maxHeartbeats 4000000 in
set_option maxRecDepth 100000 in
theorem m_X8_outputAt (l : Launch) (D : va_G) (tc : Nat → ClassId) (ro : Nat → Nat) (b0 : Nat) {a0 : Nat} {x1 : Int32} {hp : zHp} {sz : Nat} {r : (Int32 × zHp)} (h : f_X8_outputAt a0 x1 hp = some r) : zis hp a0 8 = some () ∧ zM l yX8_outputAt cX8_outputAt 2 (some .int) 1 0 0 [.ref a0, .int x1] D tc ro b0 hp sz ((zoI sz) r).1 ((zoI sz) r).2.1 ((zoI sz) r).2.2 := by
  refine ⟨?_, z_start (o := (zoI sz)) (lv := [(0, .ref a0), (1, .int x1)]) h (by decide +kernel) RX8 rfl rfl (Nat.le_of_ble_eq_true rfl) (fun P C => ?_)⟩
  · unfold f_X8_outputAt at h
    cases hc : zis hp a0 8 with
    | none => rw [hc] at h; cases h
    | some u => rfl
  unfold f_X8_outputAt
  refine z_is ?_
  refine z_aload_n C dX8_outputAt_0 0 rfl ?_
  refine z_iconst C dX8_outputAt_1 zi_0 ?_
  refine z_putI C zp_X8_38 dX8_outputAt_2 (fun h1 => ?_)
  refine z_iload_n C dX8_outputAt_5 1 rfl ?_
  refine z_if_lt C 17 dX8_outputAt_6 (by decide) ?_ ?_
  · refine z_iconst C dX8_outputAt_17 zi_m1 ?_
    refine z_goto C 27 dX8_outputAt_18 (by decide) ?_
    exact z_ireturn C dX8_outputAt_27
  refine z_iload_n C dX8_outputAt_9 1 rfl ?_
  refine z_aload_n C dX8_outputAt_10 0 rfl ?_
  refine z_getI C zf_X8_332 dX8_outputAt_11 (fun v2 => ?_)
  refine z_icmp_lt C 21 dX8_outputAt_14 (by decide) ?_ ?_
  · refine z_aload_n C dX8_outputAt_21 0 rfl ?_
    refine z_getR C zf_X8_32 dX8_outputAt_22 (fun r3 => ?_)
    refine z_iload_n C dX8_outputAt_25 1 rfl ?_
    refine z_iaload C dX8_outputAt_26 (fun v4 => ?_)
    exact z_ireturn C dX8_outputAt_27
  refine z_iconst C dX8_outputAt_17 zi_m1 ?_
  refine z_goto C 27 dX8_outputAt_18 (by decide) ?_
  exact z_ireturn C dX8_outputAt_27
