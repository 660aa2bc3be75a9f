noncomputable def b_X1_isWardClose_4 (k32 : Int32 → Option Int32) (a0 : Nat) (x1 : Int32) (hp : zHp) (rec : Int32 → Int32 → Option Int32) (x2 : Int32) (x3 : Int32) : Option Int32 :=
  (zgR hp a0 1 0).bind fun r1 => (zgR hp r1 5 0).bind fun r2 => (zaI hp 0 r2 (0 : Int32)).bind fun v3 => if x3 < v3 then ((f_X1_foundInWard a0 x1 x3 hp).bind fun v4 => zlet (x2 + v4) fun v5 => zlet (x3 + (1 : Int32)) fun v6 => rec v5 v6) else k32 x2
noncomputable def l_X1_isWardClose_4 (k32 : Int32 → Option Int32) (a0 : Nat) (x1 : Int32) (hp : zHp) (n : Nat) : Int32 → Int32 → Option Int32 :=
  Nat.rec (motive := fun _ => Int32 → Int32 → Option Int32) (fun _ _ => none) (fun _ rec => b_X1_isWardClose_4 k32 a0 x1 hp rec) n
theorem l_X1_isWardClose_4_s (k32 : Int32 → Option Int32) (a0 : Nat) (x1 : Int32) (hp : zHp) (n : Nat) (x2 : Int32) (x3 : Int32) : l_X1_isWardClose_4 k32 a0 x1 hp (n + 1) x2 x3 = b_X1_isWardClose_4 k32 a0 x1 hp (l_X1_isWardClose_4 k32 a0 x1 hp n) x2 x3 := rfl
set_option maxHeartbeats 4000000 in
set_option maxRecDepth 100000 in
theorem wl_X1_isWardClose_4 {P : zX} {ro : Nat → Nat} {sz : Nat} (C : zC P cX1_isWardClose RX1 (some .boolean) 5 0 0 4 ro) {a0 : Nat} {x1 : Int32} {hp : zHp} {k32 : Int32 → Option Int32} (hk32 : ∀ (x2 : Int32), zG P (zoP sz hp) (k32 x2) 32 [(0, .ref a0), (1, .int x1), (2, .int x2)] [] hp sz 0 0) : ∀ (n : Nat) (x2 : Int32) (x3 : Int32), zG P (zoP sz hp) (l_X1_isWardClose_4 k32 a0 x1 hp n x2 x3) 4 [(0, .ref a0), (1, .int x1), (2, .int x2), (3, .int x3)] [] hp sz 0 0 := by
  intro n
  induction n with
  | zero =>
    intro x2 x3
    show zG P (zoP sz hp) none _ _ _ _ _ _ _
    exact z_none
  | succ n ih =>
    intro x2 x3
    show zG P (zoP sz hp) (b_X1_isWardClose_4 k32 a0 x1 hp (l_X1_isWardClose_4 k32 a0 x1 hp n) x2 x3) _ _ _ _ _ _ _
    unfold b_X1_isWardClose_4
    refine z_iload_n C dX1_isWardClose_4 3 rfl ?_
    refine z_aload_n C dX1_isWardClose_5 0 rfl ?_
    refine z_getR C zf_X1_12 dX1_isWardClose_6 (fun r1 => ?_)
    refine z_getR C zf_X1_29 dX1_isWardClose_9 (fun r2 => ?_)
    refine z_iconst C dX1_isWardClose_12 zi_0 ?_
    refine z_iaload C dX1_isWardClose_13 (fun v3 => ?_)
    refine z_icmp_ge C 32 dX1_isWardClose_14 (by decide) ?_ ?_
    · refine z_iload_n C dX1_isWardClose_17 2 rfl ?_
      refine z_aload_n C dX1_isWardClose_18 0 rfl ?_
      refine z_iload_n C dX1_isWardClose_19 1 rfl ?_
      refine z_iload_n C dX1_isWardClose_20 3 rfl ?_
      refine z_callVp C zc_X1_141 [.int x1, .int x3] (fun l D tc b0 r h => m_X1_foundInWard l D tc ro b0 h) dX1_isWardClose_21 rfl rfl (Nat.le_of_ble_eq_true rfl) (by decide) (by decide) ⟨Nat.le_of_ble_eq_true rfl, Nat.le_of_ble_eq_true rfl⟩ (fun v4 => ?_)
      refine z_iadd C dX1_isWardClose_24 ?_
      refine z_istore_nL C (fun v5 => [(0, .ref a0), (1, .int x1), (2, .int v5), (3, .int x3)]) dX1_isWardClose_25 (by decide) (fun _ => rfl) (fun v5 => ?_)
      refine z_iincL C 3 (fun v6 => [(0, .ref a0), (1, .int x1), (2, .int v5), (3, .int v6)]) dX1_isWardClose_26 rfl zi_1 (by decide) (fun _ => rfl) (fun v6 => ?_)
      refine z_goto C 4 dX1_isWardClose_29 (by decide) ?_
      exact ih _ _
    exact z_sub [0, 1, 2] rfl (hk32 _)
noncomputable def f_X1_isWardClose (a0 : Nat) (x1 : Int32) (hp : zHp) : Option Int32 :=
  (zis hp a0 1).bind fun _ => l_X1_isWardClose_4 (fun p7 => if 0 < p7 then ((f_X1_lead a0 x1 hp).bind fun v8 => (zgR hp a0 1 1).bind fun r9 => (zgR hp r9 6 1).bind fun r10 => (zaI hp 0 r10 (0 : Int32)).bind fun v11 => if (v11 * p7) < (v8 * (100 : Int32)) then (some (0 : Int32)) else some (1 : Int32)) else some (0 : Int32)) a0 x1 hp 1000000 (0 : Int32) (0 : Int32)
set_option maxHeartbeats 4000000 in
set_option maxRecDepth 100000 in
theorem m_X1_isWardClose (l : Launch) (D : va_G) (tc : Nat → ClassId) (ro : Nat → Nat) (b0 : Nat) {a0 : Nat} {x1 : Int32} {hp : zHp} {sz : Nat} {r : Int32} (h : f_X1_isWardClose a0 x1 hp = some r) : zis hp a0 1 = some () ∧ zM l yX1_isWardClose cX1_isWardClose 4 (some .boolean) 5 0 0 [.ref a0, .int x1] D tc ro b0 hp sz ((zoP sz hp) r).1 ((zoP sz hp) r).2.1 ((zoP sz hp) r).2.2 := by
  refine ⟨?_, z_start (o := (zoP sz hp)) (lv := [(0, .ref a0), (1, .int x1)]) h (by decide +kernel) RX1 rfl rfl (Nat.le_of_ble_eq_true rfl) (fun P C => ?_)⟩
  · unfold f_X1_isWardClose at h
    cases hc : zis hp a0 1 with
    | none => rw [hc] at h; cases h
    | some u => rfl
  unfold f_X1_isWardClose
  refine z_is ?_
  refine z_iconst C dX1_isWardClose_0 zi_0 ?_
  refine z_istore_n (lv' := [(0, .ref a0), (1, .int x1), (2, .int (0 : Int32))]) C dX1_isWardClose_1 (by decide) rfl ?_
  refine z_iconst C dX1_isWardClose_2 zi_0 ?_
  refine z_istore_n (lv' := [(0, .ref a0), (1, .int x1), (2, .int (0 : Int32)), (3, .int (0 : Int32))]) C dX1_isWardClose_3 (by decide) rfl ?_
  refine wl_X1_isWardClose_4 C (fun p7 => ?_) _ _ _
  refine z_iload_n C dX1_isWardClose_32 2 rfl ?_
  refine z_if_le C 62 dX1_isWardClose_33 (by decide) ?_ ?_
  · refine z_aload_n C dX1_isWardClose_36 0 rfl ?_
    refine z_iload_n C dX1_isWardClose_37 1 rfl ?_
    refine z_callVp C zc_X1_150 [.int x1] (fun l D tc b0 r h => m_X1_lead l D tc ro b0 h) dX1_isWardClose_38 rfl rfl (Nat.le_of_ble_eq_true rfl) (by decide) (by decide) ⟨Nat.le_of_ble_eq_true rfl, Nat.le_of_ble_eq_true rfl⟩ (fun v8 => ?_)
    refine z_bipush C dX1_isWardClose_41 zbi_100 ?_
    refine z_imul C dX1_isWardClose_43 ?_
    refine z_aload_n C dX1_isWardClose_44 0 rfl ?_
    refine z_getR C zf_X1_21 dX1_isWardClose_45 (fun r9 => ?_)
    refine z_getR C zf_X1_107 dX1_isWardClose_48 (fun r10 => ?_)
    refine z_iconst C dX1_isWardClose_51 zi_0 ?_
    refine z_iaload C dX1_isWardClose_52 (fun v11 => ?_)
    refine z_iload_n C dX1_isWardClose_53 2 rfl ?_
    refine z_imul C dX1_isWardClose_54 ?_
    refine z_icmp_gt C 62 dX1_isWardClose_55 (by decide) ?_ ?_
    · refine z_iconst C dX1_isWardClose_62 zi_0 ?_
      exact z_kreturnP C rfl dX1_isWardClose_63
    refine z_iconst C dX1_isWardClose_58 zi_1 ?_
    refine z_goto C 63 dX1_isWardClose_59 (by decide) ?_
    exact z_kreturnP C rfl dX1_isWardClose_63
  refine z_iconst C dX1_isWardClose_62 zi_0 ?_
  exact z_kreturnP C rfl dX1_isWardClose_63
noncomputable def b_X1_isWardDeclared_2 (k26 : Option Int32) (k34 : Option Int32) (a0 : Nat) (x1 : Int32) (hp : zHp) (rec : Int32 → Option Int32) (x2 : Int32) : Option Int32 :=
  (zgR hp a0 1 1).bind fun r1 => (zgI hp r1 6 3).bind fun v2 => if x2 < v2 then ((zgR hp a0 1 1).bind fun r3 => (zgR hp r3 6 2).bind fun r4 => (zaI hp 0 r4 x2).bind fun v5 => if v5 = x1 then (k26) else zlet (x2 + (1 : Int32)) fun v6 => rec v6) else k34
noncomputable def l_X1_isWardDeclared_2 (k26 : Option Int32) (k34 : Option Int32) (a0 : Nat) (x1 : Int32) (hp : zHp) (n : Nat) : Int32 → Option Int32 :=
  Nat.rec (motive := fun _ => Int32 → Option Int32) (fun _ => none) (fun _ rec => b_X1_isWardDeclared_2 k26 k34 a0 x1 hp rec) n
theorem l_X1_isWardDeclared_2_s (k26 : Option Int32) (k34 : Option Int32) (a0 : Nat) (x1 : Int32) (hp : zHp) (n : Nat) (x2 : Int32) : l_X1_isWardDeclared_2 k26 k34 a0 x1 hp (n + 1) x2 = b_X1_isWardDeclared_2 k26 k34 a0 x1 hp (l_X1_isWardDeclared_2 k26 k34 a0 x1 hp n) x2 := rfl
set_option maxHeartbeats 4000000 in
set_option maxRecDepth 100000 in
theorem wl_X1_isWardDeclared_2 {P : zX} {ro : Nat → Nat} {sz : Nat} (C : zC P cX1_isWardDeclared RX1 (some .boolean) 1 0 0 3 ro) {a0 : Nat} {x1 : Int32} {hp : zHp} {k26 : Option Int32} (hk26 : zG P (zoP sz hp) (k26) 26 [] [] hp sz 0 0) {k34 : Option Int32} (hk34 : zG P (zoP sz hp) (k34) 34 [] [] hp sz 0 0) : ∀ (n : Nat) (x2 : Int32), zG P (zoP sz hp) (l_X1_isWardDeclared_2 k26 k34 a0 x1 hp n x2) 2 [(0, .ref a0), (1, .int x1), (2, .int x2)] [] hp sz 0 0 := by
  intro n
  induction n with
  | zero =>
    intro x2
    show zG P (zoP sz hp) none _ _ _ _ _ _ _
    exact z_none
  | succ n ih =>
    intro x2
    show zG P (zoP sz hp) (b_X1_isWardDeclared_2 k26 k34 a0 x1 hp (l_X1_isWardDeclared_2 k26 k34 a0 x1 hp n) x2) _ _ _ _ _ _ _
    unfold b_X1_isWardDeclared_2
    refine z_iload_n C dX1_isWardDeclared_2 2 rfl ?_
    refine z_aload_n C dX1_isWardDeclared_3 0 rfl ?_
    refine z_getR C zf_X1_21 dX1_isWardDeclared_4 (fun r1 => ?_)
    refine z_getI C zf_X1_153 dX1_isWardDeclared_7 (fun v2 => ?_)
    refine z_icmp_ge C 34 dX1_isWardDeclared_10 (by decide) ?_ ?_
    · refine z_aload_n C dX1_isWardDeclared_13 0 rfl ?_
      refine z_getR C zf_X1_21 dX1_isWardDeclared_14 (fun r3 => ?_)
      refine z_getR C zf_X1_156 dX1_isWardDeclared_17 (fun r4 => ?_)
      refine z_iload_n C dX1_isWardDeclared_20 2 rfl ?_
      refine z_iaload C dX1_isWardDeclared_21 (fun v5 => ?_)
      refine z_iload_n C dX1_isWardDeclared_22 1 rfl ?_
      refine z_icmp_ne C 28 dX1_isWardDeclared_23 (by decide) ?_ ?_
      · exact z_sub [] rfl (hk26)
      refine z_iincL C 2 (fun v6 => [(0, .ref a0), (1, .int x1), (2, .int v6)]) dX1_isWardDeclared_28 rfl zi_1 (by decide) (fun _ => rfl) (fun v6 => ?_)
      refine z_goto C 2 dX1_isWardDeclared_31 (by decide) ?_
      exact ih _
    exact z_sub [] rfl (hk34)
noncomputable def f_X1_isWardDeclared (a0 : Nat) (x1 : Int32) (hp : zHp) : Option Int32 :=
  (zis hp a0 1).bind fun _ => l_X1_isWardDeclared_2 (some (1 : Int32)) (some (0 : Int32)) a0 x1 hp 1000000 (0 : Int32)
set_option maxHeartbeats 4000000 in
set_option maxRecDepth 100000 in
theorem m_X1_isWardDeclared (l : Launch) (D : va_G) (tc : Nat → ClassId) (ro : Nat → Nat) (b0 : Nat) {a0 : Nat} {x1 : Int32} {hp : zHp} {sz : Nat} {r : Int32} (h : f_X1_isWardDeclared a0 x1 hp = some r) : zis hp a0 1 = some () ∧ zM l yX1_isWardDeclared cX1_isWardDeclared 3 (some .boolean) 1 0 0 [.ref a0, .int x1] D tc ro b0 hp sz ((zoP sz hp) r).1 ((zoP sz hp) r).2.1 ((zoP sz hp) r).2.2 := by
  refine ⟨?_, z_start (o := (zoP sz hp)) (lv := [(0, .ref a0), (1, .int x1)]) h (by decide +kernel) RX1 rfl rfl (Nat.le_of_ble_eq_true rfl) (fun P C => ?_)⟩
  · unfold f_X1_isWardDeclared at h
    cases hc : zis hp a0 1 with
    | none => rw [hc] at h; cases h
    | some u => rfl
  unfold f_X1_isWardDeclared
  refine z_is ?_
  refine z_iconst C dX1_isWardDeclared_0 zi_0 ?_
  refine z_istore_n (lv' := [(0, .ref a0), (1, .int x1), (2, .int (0 : Int32))]) C dX1_isWardDeclared_1 (by decide) rfl ?_
  refine wl_X1_isWardDeclared_2 C ?_ ?_ _ _
  · refine z_iconst C dX1_isWardDeclared_26 zi_1 ?_
    exact z_kreturnP C rfl dX1_isWardDeclared_27
  refine z_iconst C dX1_isWardDeclared_34 zi_0 ?_
  exact z_kreturnP C rfl dX1_isWardDeclared_35
noncomputable def j_X1_reasonAgainst_146 (k155 : Int32 → Int32 → Int32 → Int32 → Int32 → Option Int32) (rec : Int32 → Int32 → Int32 → Int32 → Int32 → Int32 → Option Int32) (a0 : Nat) (x1 : Int32) (x2 : Int32) (x3 : Int32) (x4 : Int32) (x5 : Int32) (x7 : Int32) (s0 : Int32) (s1 : Int32) (hp : zHp) : Option Int32 :=
  zlet (s0 ||| s1) fun v19 => zlet (x7 + (1 : Int32)) fun v20 => rec x2 x3 x4 x5 v19 v20
set_option maxHeartbeats 4000000 in
set_option maxRecDepth 100000 in
theorem wj_X1_reasonAgainst_146 {P : zX} {ro : Nat → Nat} {sz : Nat} (C : zC P cX1_reasonAgainst RX1 (some .int) 6 0 0 9 ro) {a0 : Nat} {x1 : Int32} {x2 : Int32} {x3 : Int32} {x4 : Int32} {x5 : Int32} {x7 : Int32} {s0 : Int32} {s1 : Int32} {hp : zHp} {k155 : Int32 → Int32 → Int32 → Int32 → Int32 → Option Int32} (hk155 : ∀ (x2 : Int32) (x3 : Int32) (x4 : Int32) (x5 : Int32) (x6 : Int32), zG P (zoP sz hp) (k155 x2 x3 x4 x5 x6) 155 [(0, .ref a0), (1, .int x1), (2, .int x2), (3, .int x3), (4, .int x4), (5, .int x5), (6, .int x6)] [] hp sz 0 0) {rec : Int32 → Int32 → Int32 → Int32 → Int32 → Int32 → Option Int32} (hrec : ∀ (x2 : Int32) (x3 : Int32) (x4 : Int32) (x5 : Int32) (x6 : Int32) (x7 : Int32), zG P (zoP sz hp) (rec x2 x3 x4 x5 x6 x7) 26 [(0, .ref a0), (1, .int x1), (2, .int x2), (3, .int x3), (4, .int x4), (5, .int x5), (6, .int x6), (7, .int x7)] [] hp sz 0 0) : zG P (zoP sz hp) (j_X1_reasonAgainst_146 k155 rec a0 x1 x2 x3 x4 x5 x7 s0 s1 hp) 146 [(0, .ref a0), (1, .int x1), (2, .int x2), (3, .int x3), (4, .int x4), (5, .int x5), (7, .int x7)] [.int s1, .int s0] hp sz 0 0 := by
  unfold j_X1_reasonAgainst_146
  refine z_ior C dX1_reasonAgainst_146 ?_
  refine z_istoreL C (fun v19 => [(0, .ref a0), (1, .int x1), (2, .int x2), (3, .int x3), (4, .int x4), (5, .int x5), (6, .int v19), (7, .int x7)]) dX1_reasonAgainst_147 (by decide) (fun _ => rfl) (fun v19 => ?_)
  refine z_iincL C 7 (fun v20 => [(0, .ref a0), (1, .int x1), (2, .int x2), (3, .int x3), (4, .int x4), (5, .int x5), (6, .int v19), (7, .int v20)]) dX1_reasonAgainst_149 rfl zi_1 (by decide) (fun _ => rfl) (fun v20 => ?_)
  refine z_goto C 26 dX1_reasonAgainst_152 (by decide) ?_
  exact hrec _ _ _ _ _ _
noncomputable def j_X1_reasonAgainst_128 (k155 : Int32 → Int32 → Int32 → Int32 → Int32 → Option Int32) (rec : Int32 → Int32 → Int32 → Int32 → Int32 → Int32 → Option Int32) (a0 : Nat) (x1 : Int32) (x2 : Int32) (x3 : Int32) (x4 : Int32) (x6 : Int32) (x7 : Int32) (a8 : Nat) (s0 : Int32) (s1 : Int32) (hp : zHp) : Option Int32 :=
  zlet (s0 ||| s1) fun v17 => (zgI hp a8 0 5).bind fun v18 => if v18 = 0 then (j_X1_reasonAgainst_146 k155 rec a0 x1 x2 x3 x4 v17 x7 x6 (1 : Int32) hp) else j_X1_reasonAgainst_146 k155 rec a0 x1 x2 x3 x4 v17 x7 x6 (0 : Int32) hp
set_option maxHeartbeats 4000000 in
set_option maxRecDepth 100000 in
theorem wj_X1_reasonAgainst_128 {P : zX} {ro : Nat → Nat} {sz : Nat} (C : zC P cX1_reasonAgainst RX1 (some .int) 6 0 0 9 ro) {a0 : Nat} {x1 : Int32} {x2 : Int32} {x3 : Int32} {x4 : Int32} {x6 : Int32} {x7 : Int32} {a8 : Nat} {s0 : Int32} {s1 : Int32} {hp : zHp} {k155 : Int32 → Int32 → Int32 → Int32 → Int32 → Option Int32} (hk155 : ∀ (x2 : Int32) (x3 : Int32) (x4 : Int32) (x5 : Int32) (x6 : Int32), zG P (zoP sz hp) (k155 x2 x3 x4 x5 x6) 155 [(0, .ref a0), (1, .int x1), (2, .int x2), (3, .int x3), (4, .int x4), (5, .int x5), (6, .int x6)] [] hp sz 0 0) {rec : Int32 → Int32 → Int32 → Int32 → Int32 → Int32 → Option Int32} (hrec : ∀ (x2 : Int32) (x3 : Int32) (x4 : Int32) (x5 : Int32) (x6 : Int32) (x7 : Int32), zG P (zoP sz hp) (rec x2 x3 x4 x5 x6 x7) 26 [(0, .ref a0), (1, .int x1), (2, .int x2), (3, .int x3), (4, .int x4), (5, .int x5), (6, .int x6), (7, .int x7)] [] hp sz 0 0) : zG P (zoP sz hp) (j_X1_reasonAgainst_128 k155 rec a0 x1 x2 x3 x4 x6 x7 a8 s0 s1 hp) 128 [(0, .ref a0), (1, .int x1), (2, .int x2), (3, .int x3), (4, .int x4), (6, .int x6), (7, .int x7), (8, .ref a8)] [.int s1, .int s0] hp sz 0 0 := by
  unfold j_X1_reasonAgainst_128
  refine z_ior C dX1_reasonAgainst_128 ?_
  refine z_istoreL C (fun v17 => [(0, .ref a0), (1, .int x1), (2, .int x2), (3, .int x3), (4, .int x4), (5, .int v17), (6, .int x6), (7, .int x7), (8, .ref a8)]) dX1_reasonAgainst_129 (by decide) (fun _ => rfl) (fun v17 => ?_)
  refine z_iload C dX1_reasonAgainst_131 6 rfl ?_
  refine z_aload C dX1_reasonAgainst_133 8 rfl ?_
  refine z_getI C zf_X1_121 dX1_reasonAgainst_135 (fun v18 => ?_)
  refine z_if_ne C 145 dX1_reasonAgainst_138 (by decide) ?_ ?_
  · refine z_iconst C dX1_reasonAgainst_141 zi_1 ?_
    refine z_goto C 146 dX1_reasonAgainst_142 (by decide) ?_
    exact z_sub [0, 1, 2, 3, 4, 5, 7] rfl (wj_X1_reasonAgainst_146 C hk155 hrec)
  refine z_iconst C dX1_reasonAgainst_145 zi_0 ?_
  exact z_sub [0, 1, 2, 3, 4, 5, 7] rfl (wj_X1_reasonAgainst_146 C hk155 hrec)
noncomputable def j_X1_reasonAgainst_127 (k155 : Int32 → Int32 → Int32 → Int32 → Int32 → Option Int32) (rec : Int32 → Int32 → Int32 → Int32 → Int32 → Int32 → Option Int32) (a0 : Nat) (x1 : Int32) (x2 : Int32) (x3 : Int32) (x4 : Int32) (x6 : Int32) (x7 : Int32) (a8 : Nat) (s0 : Int32) (hp : zHp) : Option Int32 :=
  j_X1_reasonAgainst_128 k155 rec a0 x1 x2 x3 x4 x6 x7 a8 s0 (0 : Int32) hp
set_option maxHeartbeats 4000000 in
set_option maxRecDepth 100000 in
theorem wj_X1_reasonAgainst_127 {P : zX} {ro : Nat → Nat} {sz : Nat} (C : zC P cX1_reasonAgainst RX1 (some .int) 6 0 0 9 ro) {a0 : Nat} {x1 : Int32} {x2 : Int32} {x3 : Int32} {x4 : Int32} {x6 : Int32} {x7 : Int32} {a8 : Nat} {s0 : Int32} {hp : zHp} {k155 : Int32 → Int32 → Int32 → Int32 → Int32 → Option Int32} (hk155 : ∀ (x2 : Int32) (x3 : Int32) (x4 : Int32) (x5 : Int32) (x6 : Int32), zG P (zoP sz hp) (k155 x2 x3 x4 x5 x6) 155 [(0, .ref a0), (1, .int x1), (2, .int x2), (3, .int x3), (4, .int x4), (5, .int x5), (6, .int x6)] [] hp sz 0 0) {rec : Int32 → Int32 → Int32 → Int32 → Int32 → Int32 → Option Int32} (hrec : ∀ (x2 : Int32) (x3 : Int32) (x4 : Int32) (x5 : Int32) (x6 : Int32) (x7 : Int32), zG P (zoP sz hp) (rec x2 x3 x4 x5 x6 x7) 26 [(0, .ref a0), (1, .int x1), (2, .int x2), (3, .int x3), (4, .int x4), (5, .int x5), (6, .int x6), (7, .int x7)] [] hp sz 0 0) : zG P (zoP sz hp) (j_X1_reasonAgainst_127 k155 rec a0 x1 x2 x3 x4 x6 x7 a8 s0 hp) 127 [(0, .ref a0), (1, .int x1), (2, .int x2), (3, .int x3), (4, .int x4), (6, .int x6), (7, .int x7), (8, .ref a8)] [.int s0] hp sz 0 0 := by
  unfold j_X1_reasonAgainst_127
  refine z_iconst C dX1_reasonAgainst_127 zi_0 ?_
  exact wj_X1_reasonAgainst_128 C hk155 hrec
noncomputable def j_X1_reasonAgainst_101 (k155 : Int32 → Int32 → Int32 → Int32 → Int32 → Option Int32) (rec : Int32 → Int32 → Int32 → Int32 → Int32 → Int32 → Option Int32) (a0 : Nat) (x1 : Int32) (x2 : Int32) (x3 : Int32) (x5 : Int32) (x6 : Int32) (x7 : Int32) (a8 : Nat) (s0 : Int32) (s1 : Int32) (hp : zHp) : Option Int32 :=
  zlet (s0 ||| s1) fun v15 => (f_X1_isBoxOff a0 x7 hp).bind fun v16 => if v16 = 0 then (j_X1_reasonAgainst_127 k155 rec a0 x1 x2 x3 v15 x6 x7 a8 x5 hp) else (zgI hp a8 0 5).bind fun v21 => if v21 = 0 then (j_X1_reasonAgainst_128 k155 rec a0 x1 x2 x3 v15 x6 x7 a8 x5 (1 : Int32) hp) else j_X1_reasonAgainst_127 k155 rec a0 x1 x2 x3 v15 x6 x7 a8 x5 hp
set_option maxHeartbeats 4000000 in
set_option maxRecDepth 100000 in
theorem wj_X1_reasonAgainst_101 {P : zX} {ro : Nat → Nat} {sz : Nat} (C : zC P cX1_reasonAgainst RX1 (some .int) 6 0 0 9 ro) {a0 : Nat} {x1 : Int32} {x2 : Int32} {x3 : Int32} {x5 : Int32} {x6 : Int32} {x7 : Int32} {a8 : Nat} {s0 : Int32} {s1 : Int32} {hp : zHp} {k155 : Int32 → Int32 → Int32 → Int32 → Int32 → Option Int32} (hk155 : ∀ (x2 : Int32) (x3 : Int32) (x4 : Int32) (x5 : Int32) (x6 : Int32), zG P (zoP sz hp) (k155 x2 x3 x4 x5 x6) 155 [(0, .ref a0), (1, .int x1), (2, .int x2), (3, .int x3), (4, .int x4), (5, .int x5), (6, .int x6)] [] hp sz 0 0) {rec : Int32 → Int32 → Int32 → Int32 → Int32 → Int32 → Option Int32} (hrec : ∀ (x2 : Int32) (x3 : Int32) (x4 : Int32) (x5 : Int32) (x6 : Int32) (x7 : Int32), zG P (zoP sz hp) (rec x2 x3 x4 x5 x6 x7) 26 [(0, .ref a0), (1, .int x1), (2, .int x2), (3, .int x3), (4, .int x4), (5, .int x5), (6, .int x6), (7, .int x7)] [] hp sz 0 0) : zG P (zoP sz hp) (j_X1_reasonAgainst_101 k155 rec a0 x1 x2 x3 x5 x6 x7 a8 s0 s1 hp) 101 [(0, .ref a0), (1, .int x1), (2, .int x2), (3, .int x3), (5, .int x5), (6, .int x6), (7, .int x7), (8, .ref a8)] [.int s1, .int s0] hp sz 0 0 := by
  unfold j_X1_reasonAgainst_101
  refine z_ior C dX1_reasonAgainst_101 ?_
  refine z_istoreL C (fun v15 => [(0, .ref a0), (1, .int x1), (2, .int x2), (3, .int x3), (4, .int v15), (5, .int x5), (6, .int x6), (7, .int x7), (8, .ref a8)]) dX1_reasonAgainst_102 (by decide) (fun _ => rfl) (fun v15 => ?_)
  refine z_iload C dX1_reasonAgainst_104 5 rfl ?_
  refine z_aload_n C dX1_reasonAgainst_106 0 rfl ?_
  refine z_iload C dX1_reasonAgainst_107 7 rfl ?_
  refine z_callVp C zc_X1_162 [.int x7] (fun l D tc b0 r h => m_X1_isBoxOff l D tc ro b0 h) dX1_reasonAgainst_109 rfl rfl (Nat.le_of_ble_eq_true rfl) (by decide) (by decide) ⟨Nat.le_of_ble_eq_true rfl, Nat.le_of_ble_eq_true rfl⟩ (fun v16 => ?_)
  refine z_if_eq C 127 dX1_reasonAgainst_112 (by decide) ?_ ?_
  · exact z_sub [0, 1, 2, 3, 4, 6, 7, 8] rfl (wj_X1_reasonAgainst_127 C hk155 hrec)
  refine z_aload C dX1_reasonAgainst_115 8 rfl ?_
  refine z_getI C zf_X1_121 dX1_reasonAgainst_117 (fun v21 => ?_)
  refine z_if_ne C 127 dX1_reasonAgainst_120 (by decide) ?_ ?_
  · refine z_iconst C dX1_reasonAgainst_123 zi_1 ?_
    refine z_goto C 128 dX1_reasonAgainst_124 (by decide) ?_
    exact z_sub [0, 1, 2, 3, 4, 6, 7, 8] rfl (wj_X1_reasonAgainst_128 C hk155 hrec)
  exact z_sub [0, 1, 2, 3, 4, 6, 7, 8] rfl (wj_X1_reasonAgainst_127 C hk155 hrec)
noncomputable def j_X1_reasonAgainst_82 (k155 : Int32 → Int32 → Int32 → Int32 → Int32 → Option Int32) (rec : Int32 → Int32 → Int32 → Int32 → Int32 → Int32 → Option Int32) (a0 : Nat) (x1 : Int32) (x2 : Int32) (x4 : Int32) (x5 : Int32) (x6 : Int32) (x7 : Int32) (a8 : Nat) (s0 : Int32) (s1 : Int32) (hp : zHp) : Option Int32 :=
  zlet (s0 ||| s1) fun v13 => (zgI hp a8 0 0).bind fun v14 => if v14 = (-4 : Int32) then (j_X1_reasonAgainst_101 k155 rec a0 x1 x2 v13 x5 x6 x7 a8 x4 (0 : Int32) hp) else j_X1_reasonAgainst_101 k155 rec a0 x1 x2 v13 x5 x6 x7 a8 x4 (1 : Int32) hp
set_option maxHeartbeats 4000000 in
set_option maxRecDepth 100000 in
theorem wj_X1_reasonAgainst_82 {P : zX} {ro : Nat → Nat} {sz : Nat} (C : zC P cX1_reasonAgainst RX1 (some .int) 6 0 0 9 ro) {a0 : Nat} {x1 : Int32} {x2 : Int32} {x4 : Int32} {x5 : Int32} {x6 : Int32} {x7 : Int32} {a8 : Nat} {s0 : Int32} {s1 : Int32} {hp : zHp} {k155 : Int32 → Int32 → Int32 → Int32 → Int32 → Option Int32} (hk155 : ∀ (x2 : Int32) (x3 : Int32) (x4 : Int32) (x5 : Int32) (x6 : Int32), zG P (zoP sz hp) (k155 x2 x3 x4 x5 x6) 155 [(0, .ref a0), (1, .int x1), (2, .int x2), (3, .int x3), (4, .int x4), (5, .int x5), (6, .int x6)] [] hp sz 0 0) {rec : Int32 → Int32 → Int32 → Int32 → Int32 → Int32 → Option Int32} (hrec : ∀ (x2 : Int32) (x3 : Int32) (x4 : Int32) (x5 : Int32) (x6 : Int32) (x7 : Int32), zG P (zoP sz hp) (rec x2 x3 x4 x5 x6 x7) 26 [(0, .ref a0), (1, .int x1), (2, .int x2), (3, .int x3), (4, .int x4), (5, .int x5), (6, .int x6), (7, .int x7)] [] hp sz 0 0) : zG P (zoP sz hp) (j_X1_reasonAgainst_82 k155 rec a0 x1 x2 x4 x5 x6 x7 a8 s0 s1 hp) 82 [(0, .ref a0), (1, .int x1), (2, .int x2), (4, .int x4), (5, .int x5), (6, .int x6), (7, .int x7), (8, .ref a8)] [.int s1, .int s0] hp sz 0 0 := by
  unfold j_X1_reasonAgainst_82
  refine z_ior C dX1_reasonAgainst_82 ?_
  refine z_istore_nL C (fun v13 => [(0, .ref a0), (1, .int x1), (2, .int x2), (3, .int v13), (4, .int x4), (5, .int x5), (6, .int x6), (7, .int x7), (8, .ref a8)]) dX1_reasonAgainst_83 (by decide) (fun _ => rfl) (fun v13 => ?_)
  refine z_iload C dX1_reasonAgainst_84 4 rfl ?_
  refine z_aload C dX1_reasonAgainst_86 8 rfl ?_
  refine z_getI C zf_X1_37 dX1_reasonAgainst_88 (fun v14 => ?_)
  refine z_bipush C dX1_reasonAgainst_91 zbi_m4 ?_
  refine z_icmp_eq C 100 dX1_reasonAgainst_93 (by decide) ?_ ?_
  · refine z_iconst C dX1_reasonAgainst_100 zi_0 ?_
    exact z_sub [0, 1, 2, 3, 5, 6, 7, 8] rfl (wj_X1_reasonAgainst_101 C hk155 hrec)
  refine z_iconst C dX1_reasonAgainst_96 zi_1 ?_
  refine z_goto C 101 dX1_reasonAgainst_97 (by decide) ?_
  exact z_sub [0, 1, 2, 3, 5, 6, 7, 8] rfl (wj_X1_reasonAgainst_101 C hk155 hrec)
noncomputable def b_X1_reasonAgainst_26 (k155 : Int32 → Int32 → Int32 → Int32 → Int32 → Option Int32) (a0 : Nat) (x1 : Int32) (hp : zHp) (rec : Int32 → Int32 → Int32 → Int32 → Int32 → Int32 → Option Int32) (x2 : Int32) (x3 : Int32) (x4 : Int32) (x5 : Int32) (x6 : Int32) (x7 : Int32) : Option Int32 :=
  (zgR hp a0 1 0).bind fun r2 => (zgR hp r2 5 0).bind fun r3 => (zaI hp 0 r3 (3 : Int32)).bind fun v4 => if x7 < v4 then ((zgR hp a0 1 0).bind fun r5 => (zgR hp r5 5 4).bind fun r6 => (zaI hp 0 r6 x7).bind fun v7 => if v7 = x1 then ((zgR hp a0 1 1).bind fun r9 => (zgR hp r9 6 0).bind fun r10 => (zaR hp 3 r10 x7).bind fun r11 => (zgI hp r11 0 3).bind fun v12 => if v12 = 0 then (j_X1_reasonAgainst_82 k155 rec a0 x1 (0 : Int32) x4 x5 x6 x7 r11 x3 (1 : Int32) hp) else j_X1_reasonAgainst_82 k155 rec a0 x1 (0 : Int32) x4 x5 x6 x7 r11 x3 (0 : Int32) hp) else zlet (x7 + (1 : Int32)) fun v8 => rec x2 x3 x4 x5 x6 v8) else k155 x2 x3 x4 x5 x6
noncomputable def l_X1_reasonAgainst_26 (k155 : Int32 → Int32 → Int32 → Int32 → Int32 → Option Int32) (a0 : Nat) (x1 : Int32) (hp : zHp) (n : Nat) : Int32 → Int32 → Int32 → Int32 → Int32 → Int32 → Option Int32 :=
  Nat.rec (motive := fun _ => Int32 → Int32 → Int32 → Int32 → Int32 → Int32 → Option Int32) (fun _ _ _ _ _ _ => none) (fun _ rec => b_X1_reasonAgainst_26 k155 a0 x1 hp rec) n
theorem l_X1_reasonAgainst_26_s (k155 : Int32 → Int32 → Int32 → Int32 → Int32 → Option Int32) (a0 : Nat) (x1 : Int32) (hp : zHp) (n : Nat) (x2 : Int32) (x3 : Int32) (x4 : Int32) (x5 : Int32) (x6 : Int32) (x7 : Int32) : l_X1_reasonAgainst_26 k155 a0 x1 hp (n + 1) x2 x3 x4 x5 x6 x7 = b_X1_reasonAgainst_26 k155 a0 x1 hp (l_X1_reasonAgainst_26 k155 a0 x1 hp n) x2 x3 x4 x5 x6 x7 := rfl
set_option maxHeartbeats 4000000 in
set_option maxRecDepth 100000 in
theorem wl_X1_reasonAgainst_26 {P : zX} {ro : Nat → Nat} {sz : Nat} (C : zC P cX1_reasonAgainst RX1 (some .int) 6 0 0 9 ro) {a0 : Nat} {x1 : Int32} {hp : zHp} {k155 : Int32 → Int32 → Int32 → Int32 → Int32 → Option Int32} (hk155 : ∀ (x2 : Int32) (x3 : Int32) (x4 : Int32) (x5 : Int32) (x6 : Int32), zG P (zoP sz hp) (k155 x2 x3 x4 x5 x6) 155 [(0, .ref a0), (1, .int x1), (2, .int x2), (3, .int x3), (4, .int x4), (5, .int x5), (6, .int x6)] [] hp sz 0 0) : ∀ (n : Nat) (x2 : Int32) (x3 : Int32) (x4 : Int32) (x5 : Int32) (x6 : Int32) (x7 : Int32), zG P (zoP sz hp) (l_X1_reasonAgainst_26 k155 a0 x1 hp n x2 x3 x4 x5 x6 x7) 26 [(0, .ref a0), (1, .int x1), (2, .int x2), (3, .int x3), (4, .int x4), (5, .int x5), (6, .int x6), (7, .int x7)] [] hp sz 0 0 := by
  intro n
  induction n with
  | zero =>
    intro x2 x3 x4 x5 x6 x7
    show zG P (zoP sz hp) none _ _ _ _ _ _ _
    exact z_none
  | succ n ih =>
    intro x2 x3 x4 x5 x6 x7
    show zG P (zoP sz hp) (b_X1_reasonAgainst_26 k155 a0 x1 hp (l_X1_reasonAgainst_26 k155 a0 x1 hp n) x2 x3 x4 x5 x6 x7) _ _ _ _ _ _ _
    unfold b_X1_reasonAgainst_26
    refine z_iload C dX1_reasonAgainst_26 7 rfl ?_
    refine z_aload_n C dX1_reasonAgainst_28 0 rfl ?_
    refine z_getR C zf_X1_12 dX1_reasonAgainst_29 (fun r2 => ?_)
    refine z_getR C zf_X1_29 dX1_reasonAgainst_32 (fun r3 => ?_)
    refine z_iconst C dX1_reasonAgainst_35 zi_3 ?_
    refine z_iaload C dX1_reasonAgainst_36 (fun v4 => ?_)
    refine z_icmp_ge C 155 dX1_reasonAgainst_37 (by decide) ?_ ?_
    · refine z_aload_n C dX1_reasonAgainst_40 0 rfl ?_
      refine z_getR C zf_X1_12 dX1_reasonAgainst_41 (fun r5 => ?_)
      refine z_getR C zf_X1_138 dX1_reasonAgainst_44 (fun r6 => ?_)
      refine z_iload C dX1_reasonAgainst_47 7 rfl ?_
      refine z_iaload C dX1_reasonAgainst_49 (fun v7 => ?_)
      refine z_iload_n C dX1_reasonAgainst_50 1 rfl ?_
      refine z_icmp_ne C 149 dX1_reasonAgainst_51 (by decide) ?_ ?_
      · refine z_aload_n C dX1_reasonAgainst_54 0 rfl ?_
        refine z_getR C zf_X1_21 dX1_reasonAgainst_55 (fun r9 => ?_)
        refine z_getR C zf_X1_33 dX1_reasonAgainst_58 (fun r10 => ?_)
        refine z_iload C dX1_reasonAgainst_61 7 rfl ?_
        refine z_aaload (t := 3) (ty := .object "CountHall$Box") C (fun _ => rfl) rfl (by decide) dX1_reasonAgainst_63 (fun r11 => ?_)
        refine z_astore (lv' := [(0, .ref a0), (1, .int x1), (2, .int x2), (3, .int x3), (4, .int x4), (5, .int x5), (6, .int x6), (7, .int x7), (8, .ref r11)]) C dX1_reasonAgainst_64 (by decide) rfl ?_
        refine z_iconst C dX1_reasonAgainst_66 zi_0 ?_
        refine z_istore_n (lv' := [(0, .ref a0), (1, .int x1), (2, .int (0 : Int32)), (3, .int x3), (4, .int x4), (5, .int x5), (6, .int x6), (7, .int x7), (8, .ref r11)]) C dX1_reasonAgainst_67 (by decide) rfl ?_
        refine z_iload_n C dX1_reasonAgainst_68 3 rfl ?_
        refine z_aload C dX1_reasonAgainst_69 8 rfl ?_
        refine z_getI C zf_X1_43 dX1_reasonAgainst_71 (fun v12 => ?_)
        refine z_if_ne C 81 dX1_reasonAgainst_74 (by decide) ?_ ?_
        · refine z_iconst C dX1_reasonAgainst_77 zi_1 ?_
          refine z_goto C 82 dX1_reasonAgainst_78 (by decide) ?_
          exact z_sub [0, 1, 2, 4, 5, 6, 7, 8] rfl (wj_X1_reasonAgainst_82 C hk155 ih)
        refine z_iconst C dX1_reasonAgainst_81 zi_0 ?_
        exact z_sub [0, 1, 2, 4, 5, 6, 7, 8] rfl (wj_X1_reasonAgainst_82 C hk155 ih)
      refine z_iincL C 7 (fun v8 => [(0, .ref a0), (1, .int x1), (2, .int x2), (3, .int x3), (4, .int x4), (5, .int x5), (6, .int x6), (7, .int v8)]) dX1_reasonAgainst_149 rfl zi_1 (by decide) (fun _ => rfl) (fun v8 => ?_)
      refine z_goto C 26 dX1_reasonAgainst_152 (by decide) ?_
      exact ih _ _ _ _ _ _
    exact z_sub [0, 1, 2, 3, 4, 5, 6] rfl (hk155 _ _ _ _ _)
noncomputable def f_X1_reasonAgainst (a0 : Nat) (x1 : Int32) (hp : zHp) : Option Int32 :=
  (zis hp a0 1).bind fun _ => (f_X1_isWardDeclared a0 x1 hp).bind fun v1 => if v1 = 0 then (l_X1_reasonAgainst_26 (fun p22 p23 p24 p25 p26 => if p22 = 0 then (if p23 = 0 then (if p24 = 0 then (if p25 = 0 then (if p26 = 0 then (some (0 : Int32)) else (f_X1_isWardClose a0 x1 hp).bind fun v27 => if v27 = 0 then (some (0 : Int32)) else some (5 : Int32)) else some (4 : Int32)) else some (3 : Int32)) else some (2 : Int32)) else some (2 : Int32)) a0 x1 hp 1000000 (1 : Int32) (0 : Int32) (0 : Int32) (0 : Int32) (0 : Int32) (0 : Int32)) else some (1 : Int32)
set_option maxHeartbeats 4000000 in
set_option maxRecDepth 100000 in
theorem m_X1_reasonAgainst (l : Launch) (D : va_G) (tc : Nat → ClassId) (ro : Nat → Nat) (b0 : Nat) {a0 : Nat} {x1 : Int32} {hp : zHp} {sz : Nat} {r : Int32} (h : f_X1_reasonAgainst a0 x1 hp = some r) : zis hp a0 1 = some () ∧ zM l yX1_reasonAgainst cX1_reasonAgainst 9 (some .int) 6 0 0 [.ref a0, .int x1] D tc ro b0 hp sz ((zoP sz hp) r).1 ((zoP sz hp) r).2.1 ((zoP sz hp) r).2.2 := by
  refine ⟨?_, z_start (o := (zoP sz hp)) (lv := [(0, .ref a0), (1, .int x1)]) h (by decide +kernel) RX1 rfl rfl (Nat.le_of_ble_eq_true rfl) (fun P C => ?_)⟩
  · unfold f_X1_reasonAgainst at h
    cases hc : zis hp a0 1 with
    | none => rw [hc] at h; cases h
    | some u => rfl
  unfold f_X1_reasonAgainst
  refine z_is ?_
  refine z_aload_n C dX1_reasonAgainst_0 0 rfl ?_
  refine z_iload_n C dX1_reasonAgainst_1 1 rfl ?_
  refine z_callVp C zc_X1_159 [.int x1] (fun l D tc b0 r h => m_X1_isWardDeclared l D tc ro b0 h) dX1_reasonAgainst_2 rfl rfl (Nat.le_of_ble_eq_true rfl) (by decide) (by decide) ⟨Nat.le_of_ble_eq_true rfl, Nat.le_of_ble_eq_true rfl⟩ (fun v1 => ?_)
  refine z_if_eq C 10 dX1_reasonAgainst_5 (by decide) ?_ ?_
  · refine z_iconst C dX1_reasonAgainst_10 zi_1 ?_
    refine z_istore_n (lv' := [(0, .ref a0), (1, .int x1), (2, .int (1 : Int32))]) C dX1_reasonAgainst_11 (by decide) rfl ?_
    refine z_iconst C dX1_reasonAgainst_12 zi_0 ?_
    refine z_istore_n (lv' := [(0, .ref a0), (1, .int x1), (2, .int (1 : Int32)), (3, .int (0 : Int32))]) C dX1_reasonAgainst_13 (by decide) rfl ?_
    refine z_iconst C dX1_reasonAgainst_14 zi_0 ?_
    refine z_istore (lv' := [(0, .ref a0), (1, .int x1), (2, .int (1 : Int32)), (3, .int (0 : Int32)), (4, .int (0 : Int32))]) C dX1_reasonAgainst_15 (by decide) rfl ?_
    refine z_iconst C dX1_reasonAgainst_17 zi_0 ?_
    refine z_istore (lv' := [(0, .ref a0), (1, .int x1), (2, .int (1 : Int32)), (3, .int (0 : Int32)), (4, .int (0 : Int32)), (5, .int (0 : Int32))]) C dX1_reasonAgainst_18 (by decide) rfl ?_
    refine z_iconst C dX1_reasonAgainst_20 zi_0 ?_
    refine z_istore (lv' := [(0, .ref a0), (1, .int x1), (2, .int (1 : Int32)), (3, .int (0 : Int32)), (4, .int (0 : Int32)), (5, .int (0 : Int32)), (6, .int (0 : Int32))]) C dX1_reasonAgainst_21 (by decide) rfl ?_
    refine z_iconst C dX1_reasonAgainst_23 zi_0 ?_
    refine z_istore (lv' := [(0, .ref a0), (1, .int x1), (2, .int (1 : Int32)), (3, .int (0 : Int32)), (4, .int (0 : Int32)), (5, .int (0 : Int32)), (6, .int (0 : Int32)), (7, .int (0 : Int32))]) C dX1_reasonAgainst_24 (by decide) rfl ?_
    refine wl_X1_reasonAgainst_26 C (fun p22 p23 p24 p25 p26 => ?_) _ _ _ _ _ _ _
    refine z_iload_n C dX1_reasonAgainst_155 2 rfl ?_
    refine z_if_ne C 163 dX1_reasonAgainst_156 (by decide) ?_ ?_
    · refine z_iload_n C dX1_reasonAgainst_159 3 rfl ?_
      refine z_if_eq C 165 dX1_reasonAgainst_160 (by decide) ?_ ?_
      · refine z_iload C dX1_reasonAgainst_165 4 rfl ?_
        refine z_if_eq C 172 dX1_reasonAgainst_167 (by decide) ?_ ?_
        · refine z_iload C dX1_reasonAgainst_172 5 rfl ?_
          refine z_if_eq C 179 dX1_reasonAgainst_174 (by decide) ?_ ?_
          · refine z_iload C dX1_reasonAgainst_179 6 rfl ?_
            refine z_if_eq C 196 dX1_reasonAgainst_181 (by decide) ?_ ?_
            · refine z_iconst C dX1_reasonAgainst_196 zi_0 ?_
              exact z_ireturnP C dX1_reasonAgainst_197
            refine z_aload_n C dX1_reasonAgainst_184 0 rfl ?_
            refine z_iload_n C dX1_reasonAgainst_185 1 rfl ?_
            refine z_callVp C zc_X1_165 [.int x1] (fun l D tc b0 r h => m_X1_isWardClose l D tc ro b0 h) dX1_reasonAgainst_186 rfl rfl (Nat.le_of_ble_eq_true rfl) (by decide) (by decide) ⟨Nat.le_of_ble_eq_true rfl, Nat.le_of_ble_eq_true rfl⟩ (fun v27 => ?_)
            refine z_if_eq C 196 dX1_reasonAgainst_189 (by decide) ?_ ?_
            · refine z_iconst C dX1_reasonAgainst_196 zi_0 ?_
              exact z_ireturnP C dX1_reasonAgainst_197
            refine z_iconst C dX1_reasonAgainst_192 zi_5 ?_
            refine z_goto C 197 dX1_reasonAgainst_193 (by decide) ?_
            exact z_ireturnP C dX1_reasonAgainst_197
          refine z_iconst C dX1_reasonAgainst_177 zi_4 ?_
          exact z_ireturnP C dX1_reasonAgainst_178
        refine z_iconst C dX1_reasonAgainst_170 zi_3 ?_
        exact z_ireturnP C dX1_reasonAgainst_171
      refine z_iconst C dX1_reasonAgainst_163 zi_2 ?_
      exact z_ireturnP C dX1_reasonAgainst_164
    refine z_iconst C dX1_reasonAgainst_163 zi_2 ?_
    exact z_ireturnP C dX1_reasonAgainst_164
  refine z_iconst C dX1_reasonAgainst_8 zi_1 ?_
  exact z_ireturnP C dX1_reasonAgainst_9
noncomputable def f_X1_mustBeCounted (a0 : Nat) (x1 : Int32) (hp : zHp) : Option Int32 :=
  (zis hp a0 1).bind fun _ => (zgR hp a0 1 1).bind fun r1 => (zgR hp r1 6 0).bind fun r2 => (zaR hp 3 r2 x1).bind fun r3 => (zgR hp a0 1 0).bind fun r4 => (zgR hp r4 5 4).bind fun r5 => (zaI hp 0 r5 x1).bind fun v6 => (zgI hp r3 0 5).bind fun v7 => if v7 = 0 then ((f_X1_isWardDeclared a0 v6 hp).bind fun v8 => if v8 = 0 then ((zgI hp r3 0 3).bind fun v9 => if v9 = 0 then (some (1 : Int32)) else (f_X1_isBoxOff a0 x1 hp).bind fun v10 => if v10 = 0 then ((f_X1_isWardClose a0 v6 hp).bind fun v11 => if v11 = 0 then (some (0 : Int32)) else some (1 : Int32)) else some (1 : Int32)) else some (0 : Int32)) else some (0 : Int32)
set_option maxHeartbeats 4000000 in
set_option maxRecDepth 100000 in
theorem m_X1_mustBeCounted (l : Launch) (D : va_G) (tc : Nat → ClassId) (ro : Nat → Nat) (b0 : Nat) {a0 : Nat} {x1 : Int32} {hp : zHp} {sz : Nat} {r : Int32} (h : f_X1_mustBeCounted a0 x1 hp = some r) : zis hp a0 1 = some () ∧ zM l yX1_mustBeCounted cX1_mustBeCounted 4 (some .boolean) 6 0 0 [.ref a0, .int x1] D tc ro b0 hp sz ((zoP sz hp) r).1 ((zoP sz hp) r).2.1 ((zoP sz hp) r).2.2 := by
  refine ⟨?_, z_start (o := (zoP sz hp)) (lv := [(0, .ref a0), (1, .int x1)]) h (by decide +kernel) RX1 rfl rfl (Nat.le_of_ble_eq_true rfl) (fun P C => ?_)⟩
  · unfold f_X1_mustBeCounted at h
    cases hc : zis hp a0 1 with
    | none => rw [hc] at h; cases h
    | some u => rfl
  unfold f_X1_mustBeCounted
  refine z_is ?_
  refine z_aload_n C dX1_mustBeCounted_0 0 rfl ?_
  refine z_getR C zf_X1_21 dX1_mustBeCounted_1 (fun r1 => ?_)
  refine z_getR C zf_X1_33 dX1_mustBeCounted_4 (fun r2 => ?_)
  refine z_iload_n C dX1_mustBeCounted_7 1 rfl ?_
  refine z_aaload (t := 3) (ty := .object "CountHall$Box") C (fun _ => rfl) rfl (by decide) dX1_mustBeCounted_8 (fun r3 => ?_)
  refine z_astore_n (lv' := [(0, .ref a0), (1, .int x1), (2, .ref r3)]) C dX1_mustBeCounted_9 (by decide) rfl ?_
  refine z_aload_n C dX1_mustBeCounted_10 0 rfl ?_
  refine z_getR C zf_X1_12 dX1_mustBeCounted_11 (fun r4 => ?_)
  refine z_getR C zf_X1_138 dX1_mustBeCounted_14 (fun r5 => ?_)
  refine z_iload_n C dX1_mustBeCounted_17 1 rfl ?_
  refine z_iaload C dX1_mustBeCounted_18 (fun v6 => ?_)
  refine z_istore_n (lv' := [(0, .ref a0), (1, .int x1), (2, .ref r3), (3, .int v6)]) C dX1_mustBeCounted_19 (by decide) rfl ?_
  refine z_aload_n C dX1_mustBeCounted_20 2 rfl ?_
  refine z_getI C zf_X1_121 dX1_mustBeCounted_21 (fun v7 => ?_)
  refine z_if_ne C 35 dX1_mustBeCounted_24 (by decide) ?_ ?_
  · refine z_aload_n C dX1_mustBeCounted_27 0 rfl ?_
    refine z_iload_n C dX1_mustBeCounted_28 3 rfl ?_
    refine z_callVp C zc_X1_159 [.int v6] (fun l D tc b0 r h => m_X1_isWardDeclared l D tc ro b0 h) dX1_mustBeCounted_29 rfl rfl (Nat.le_of_ble_eq_true rfl) (by decide) (by decide) ⟨Nat.le_of_ble_eq_true rfl, Nat.le_of_ble_eq_true rfl⟩ (fun v8 => ?_)
    refine z_if_eq C 37 dX1_mustBeCounted_32 (by decide) ?_ ?_
    · refine z_aload_n C dX1_mustBeCounted_37 2 rfl ?_
      refine z_getI C zf_X1_43 dX1_mustBeCounted_38 (fun v9 => ?_)
      refine z_if_eq C 60 dX1_mustBeCounted_41 (by decide) ?_ ?_
      · refine z_iconst C dX1_mustBeCounted_60 zi_1 ?_
        refine z_goto C 65 dX1_mustBeCounted_61 (by decide) ?_
        exact z_kreturnP C rfl dX1_mustBeCounted_65
      refine z_aload_n C dX1_mustBeCounted_44 0 rfl ?_
      refine z_iload_n C dX1_mustBeCounted_45 1 rfl ?_
      refine z_callVp C zc_X1_162 [.int x1] (fun l D tc b0 r h => m_X1_isBoxOff l D tc ro b0 h) dX1_mustBeCounted_46 rfl rfl (Nat.le_of_ble_eq_true rfl) (by decide) (by decide) ⟨Nat.le_of_ble_eq_true rfl, Nat.le_of_ble_eq_true rfl⟩ (fun v10 => ?_)
      refine z_if_ne C 60 dX1_mustBeCounted_49 (by decide) ?_ ?_
      · refine z_aload_n C dX1_mustBeCounted_52 0 rfl ?_
        refine z_iload_n C dX1_mustBeCounted_53 3 rfl ?_
        refine z_callVp C zc_X1_165 [.int v6] (fun l D tc b0 r h => m_X1_isWardClose l D tc ro b0 h) dX1_mustBeCounted_54 rfl rfl (Nat.le_of_ble_eq_true rfl) (by decide) (by decide) ⟨Nat.le_of_ble_eq_true rfl, Nat.le_of_ble_eq_true rfl⟩ (fun v11 => ?_)
        refine z_if_eq C 64 dX1_mustBeCounted_57 (by decide) ?_ ?_
        · refine z_iconst C dX1_mustBeCounted_64 zi_0 ?_
          exact z_kreturnP C rfl dX1_mustBeCounted_65
        refine z_iconst C dX1_mustBeCounted_60 zi_1 ?_
        refine z_goto C 65 dX1_mustBeCounted_61 (by decide) ?_
        exact z_kreturnP C rfl dX1_mustBeCounted_65
      refine z_iconst C dX1_mustBeCounted_60 zi_1 ?_
      refine z_goto C 65 dX1_mustBeCounted_61 (by decide) ?_
      exact z_kreturnP C rfl dX1_mustBeCounted_65
    refine z_iconst C dX1_mustBeCounted_35 zi_0 ?_
    exact z_kreturnP C rfl dX1_mustBeCounted_36
  refine z_iconst C dX1_mustBeCounted_35 zi_0 ?_
  exact z_kreturnP C rfl dX1_mustBeCounted_36
noncomputable def b_X1_boxesToCount_4 (k37 : Int32 → Option Int32) (a0 : Nat) (hp : zHp) (rec : Int32 → Int32 → Option Int32) (x1 : Int32) (x2 : Int32) : Option Int32 :=
  (zgR hp a0 1 0).bind fun r1 => (zgR hp r1 5 0).bind fun r2 => (zaI hp 0 r2 (3 : Int32)).bind fun v3 => if x2 < v3 then ((f_X1_mustBeCounted a0 x2 hp).bind fun v4 => if v4 = 0 then (zlet (x2 + (1 : Int32)) fun v5 => rec x1 v5) else zlet (x1 ||| ((1 : Int32) <<< (x2 &&& 31))) fun v6 => zlet (x2 + (1 : Int32)) fun v7 => rec v6 v7) else k37 x1
noncomputable def l_X1_boxesToCount_4 (k37 : Int32 → Option Int32) (a0 : Nat) (hp : zHp) (n : Nat) : Int32 → Int32 → Option Int32 :=
  Nat.rec (motive := fun _ => Int32 → Int32 → Option Int32) (fun _ _ => none) (fun _ rec => b_X1_boxesToCount_4 k37 a0 hp rec) n
theorem l_X1_boxesToCount_4_s (k37 : Int32 → Option Int32) (a0 : Nat) (hp : zHp) (n : Nat) (x1 : Int32) (x2 : Int32) : l_X1_boxesToCount_4 k37 a0 hp (n + 1) x1 x2 = b_X1_boxesToCount_4 k37 a0 hp (l_X1_boxesToCount_4 k37 a0 hp n) x1 x2 := rfl
set_option maxHeartbeats 4000000 in
set_option maxRecDepth 100000 in
theorem wl_X1_boxesToCount_4 {P : zX} {ro : Nat → Nat} {sz : Nat} (C : zC P cX1_boxesToCount RX1 (some .int) 7 0 0 3 ro) {a0 : Nat} {hp : zHp} {k37 : Int32 → Option Int32} (hk37 : ∀ (x1 : Int32), zG P (zoP sz hp) (k37 x1) 37 [(1, .int x1)] [] hp sz 0 0) : ∀ (n : Nat) (x1 : Int32) (x2 : Int32), zG P (zoP sz hp) (l_X1_boxesToCount_4 k37 a0 hp n x1 x2) 4 [(0, .ref a0), (1, .int x1), (2, .int x2)] [] hp sz 0 0 := by
  intro n
  induction n with
  | zero =>
    intro x1 x2
    show zG P (zoP sz hp) none _ _ _ _ _ _ _
    exact z_none
  | succ n ih =>
    intro x1 x2
    show zG P (zoP sz hp) (b_X1_boxesToCount_4 k37 a0 hp (l_X1_boxesToCount_4 k37 a0 hp n) x1 x2) _ _ _ _ _ _ _
    unfold b_X1_boxesToCount_4
    refine z_iload_n C dX1_boxesToCount_4 2 rfl ?_
    refine z_aload_n C dX1_boxesToCount_5 0 rfl ?_
    refine z_getR C zf_X1_12 dX1_boxesToCount_6 (fun r1 => ?_)
    refine z_getR C zf_X1_29 dX1_boxesToCount_9 (fun r2 => ?_)
    refine z_iconst C dX1_boxesToCount_12 zi_3 ?_
    refine z_iaload C dX1_boxesToCount_13 (fun v3 => ?_)
    refine z_icmp_ge C 37 dX1_boxesToCount_14 (by decide) ?_ ?_
    · refine z_aload_n C dX1_boxesToCount_17 0 rfl ?_
      refine z_iload_n C dX1_boxesToCount_18 2 rfl ?_
      refine z_callVp C zc_X1_168 [.int x2] (fun l D tc b0 r h => m_X1_mustBeCounted l D tc ro b0 h) dX1_boxesToCount_19 rfl rfl (Nat.le_of_ble_eq_true rfl) (by decide) (by decide) ⟨Nat.le_of_ble_eq_true rfl, Nat.le_of_ble_eq_true rfl⟩ (fun v4 => ?_)
      refine z_if_eq C 31 dX1_boxesToCount_22 (by decide) ?_ ?_
      · refine z_iincL C 2 (fun v5 => [(0, .ref a0), (1, .int x1), (2, .int v5)]) dX1_boxesToCount_31 rfl zi_1 (by decide) (fun _ => rfl) (fun v5 => ?_)
        refine z_goto C 4 dX1_boxesToCount_34 (by decide) ?_
        exact ih _ _
      refine z_iload_n C dX1_boxesToCount_25 1 rfl ?_
      refine z_iconst C dX1_boxesToCount_26 zi_1 ?_
      refine z_iload_n C dX1_boxesToCount_27 2 rfl ?_
      refine z_ishl C dX1_boxesToCount_28 ?_
      refine z_ior C dX1_boxesToCount_29 ?_
      refine z_istore_nL C (fun v6 => [(0, .ref a0), (1, .int v6), (2, .int x2)]) dX1_boxesToCount_30 (by decide) (fun _ => rfl) (fun v6 => ?_)
      refine z_iincL C 2 (fun v7 => [(0, .ref a0), (1, .int v6), (2, .int v7)]) dX1_boxesToCount_31 rfl zi_1 (by decide) (fun _ => rfl) (fun v7 => ?_)
      refine z_goto C 4 dX1_boxesToCount_34 (by decide) ?_
      exact ih _ _
    exact z_sub [1] rfl (hk37 _)
noncomputable def f_X1_boxesToCount (a0 : Nat) (hp : zHp) : Option Int32 :=
  (zis hp a0 1).bind fun _ => l_X1_boxesToCount_4 (fun p8 => some p8) a0 hp 1000000 (0 : Int32) (0 : Int32)
set_option maxHeartbeats 4000000 in
set_option maxRecDepth 100000 in
theorem m_X1_boxesToCount (l : Launch) (D : va_G) (tc : Nat → ClassId) (ro : Nat → Nat) (b0 : Nat) {a0 : Nat} {hp : zHp} {sz : Nat} {r : Int32} (h : f_X1_boxesToCount a0 hp = some r) : zis hp a0 1 = some () ∧ zM l yX1_boxesToCount cX1_boxesToCount 3 (some .int) 7 0 0 [.ref a0] D tc ro b0 hp sz ((zoP sz hp) r).1 ((zoP sz hp) r).2.1 ((zoP sz hp) r).2.2 := by
  refine ⟨?_, z_start (o := (zoP sz hp)) (lv := [(0, .ref a0)]) h (by decide +kernel) RX1 rfl rfl (Nat.le_of_ble_eq_true rfl) (fun P C => ?_)⟩
  · unfold f_X1_boxesToCount at h
    cases hc : zis hp a0 1 with
    | none => rw [hc] at h; cases h
    | some u => rfl
  unfold f_X1_boxesToCount
  refine z_is ?_
  refine z_iconst C dX1_boxesToCount_0 zi_0 ?_
  refine z_istore_n (lv' := [(0, .ref a0), (1, .int (0 : Int32))]) C dX1_boxesToCount_1 (by decide) rfl ?_
  refine z_iconst C dX1_boxesToCount_2 zi_0 ?_
  refine z_istore_n (lv' := [(0, .ref a0), (1, .int (0 : Int32)), (2, .int (0 : Int32))]) C dX1_boxesToCount_3 (by decide) rfl ?_
  refine wl_X1_boxesToCount_4 C (fun p8 => ?_) _ _ _
  refine z_iload_n C dX1_boxesToCount_37 0 rfl ?_
  exact z_ireturnP C dX1_boxesToCount_38
noncomputable def b_X1_foundInAll_4 (k30 : Int32 → Option Int32) (a0 : Nat) (x1 : Int32) (hp : zHp) (rec : Int32 → Int32 → Option Int32) (x2 : Int32) (x3 : Int32) : Option Int32 :=
  (zgR hp a0 1 0).bind fun r1 => (f_X5_piles r1 hp).bind fun v2 => if x3 < v2 then ((f_X1_foundInWard a0 x1 x3 hp).bind fun v3 => zlet (x2 + v3) fun v4 => zlet (x3 + (1 : Int32)) fun v5 => rec v4 v5) else k30 x2
noncomputable def l_X1_foundInAll_4 (k30 : Int32 → Option Int32) (a0 : Nat) (x1 : Int32) (hp : zHp) (n : Nat) : Int32 → Int32 → Option Int32 :=
  Nat.rec (motive := fun _ => Int32 → Int32 → Option Int32) (fun _ _ => none) (fun _ rec => b_X1_foundInAll_4 k30 a0 x1 hp rec) n
theorem l_X1_foundInAll_4_s (k30 : Int32 → Option Int32) (a0 : Nat) (x1 : Int32) (hp : zHp) (n : Nat) (x2 : Int32) (x3 : Int32) : l_X1_foundInAll_4 k30 a0 x1 hp (n + 1) x2 x3 = b_X1_foundInAll_4 k30 a0 x1 hp (l_X1_foundInAll_4 k30 a0 x1 hp n) x2 x3 := rfl
set_option maxHeartbeats 4000000 in
set_option maxRecDepth 100000 in
theorem wl_X1_foundInAll_4 {P : zX} {ro : Nat → Nat} {sz : Nat} (C : zC P cX1_foundInAll RX1 (some .int) 4 0 0 4 ro) {a0 : Nat} {x1 : Int32} {hp : zHp} {k30 : Int32 → Option Int32} (hk30 : ∀ (x2 : Int32), zG P (zoP sz hp) (k30 x2) 30 [(2, .int x2)] [] hp sz 0 0) : ∀ (n : Nat) (x2 : Int32) (x3 : Int32), zG P (zoP sz hp) (l_X1_foundInAll_4 k30 a0 x1 hp n x2 x3) 4 [(0, .ref a0), (1, .int x1), (2, .int x2), (3, .int x3)] [] hp sz 0 0 := by
  intro n
  induction n with
  | zero =>
    intro x2 x3
    show zG P (zoP sz hp) none _ _ _ _ _ _ _
    exact z_none
  | succ n ih =>
    intro x2 x3
    show zG P (zoP sz hp) (b_X1_foundInAll_4 k30 a0 x1 hp (l_X1_foundInAll_4 k30 a0 x1 hp n) x2 x3) _ _ _ _ _ _ _
    unfold b_X1_foundInAll_4
    refine z_iload_n C dX1_foundInAll_4 3 rfl ?_
    refine z_aload_n C dX1_foundInAll_5 0 rfl ?_
    refine z_getR C zf_X1_12 dX1_foundInAll_6 (fun r1 => ?_)
    refine z_callVp C zc_X1_49 [] (fun l D tc b0 r h => m_X5_piles l D tc ro b0 h) dX1_foundInAll_9 rfl rfl (Nat.le_of_ble_eq_true rfl) (by decide) (by decide) ⟨Nat.le_of_ble_eq_true rfl, Nat.le_of_ble_eq_true rfl⟩ (fun v2 => ?_)
    refine z_icmp_ge C 30 dX1_foundInAll_12 (by decide) ?_ ?_
    · refine z_iload_n C dX1_foundInAll_15 2 rfl ?_
      refine z_aload_n C dX1_foundInAll_16 0 rfl ?_
      refine z_iload_n C dX1_foundInAll_17 1 rfl ?_
      refine z_iload_n C dX1_foundInAll_18 3 rfl ?_
      refine z_callVp C zc_X1_141 [.int x1, .int x3] (fun l D tc b0 r h => m_X1_foundInWard l D tc ro b0 h) dX1_foundInAll_19 rfl rfl (Nat.le_of_ble_eq_true rfl) (by decide) (by decide) ⟨Nat.le_of_ble_eq_true rfl, Nat.le_of_ble_eq_true rfl⟩ (fun v3 => ?_)
      refine z_iadd C dX1_foundInAll_22 ?_
      refine z_istore_nL C (fun v4 => [(0, .ref a0), (1, .int x1), (2, .int v4), (3, .int x3)]) dX1_foundInAll_23 (by decide) (fun _ => rfl) (fun v4 => ?_)
      refine z_iincL C 3 (fun v5 => [(0, .ref a0), (1, .int x1), (2, .int v4), (3, .int v5)]) dX1_foundInAll_24 rfl zi_1 (by decide) (fun _ => rfl) (fun v5 => ?_)
      refine z_goto C 4 dX1_foundInAll_27 (by decide) ?_
      exact ih _ _
    exact z_sub [2] rfl (hk30 _)
noncomputable def f_X1_foundInAll (a0 : Nat) (x1 : Int32) (hp : zHp) : Option Int32 :=
  (zis hp a0 1).bind fun _ => l_X1_foundInAll_4 (fun p6 => some p6) a0 x1 hp 1000000 (0 : Int32) (0 : Int32)
set_option maxHeartbeats 4000000 in
set_option maxRecDepth 100000 in
theorem m_X1_foundInAll (l : Launch) (D : va_G) (tc : Nat → ClassId) (ro : Nat → Nat) (b0 : Nat) {a0 : Nat} {x1 : Int32} {hp : zHp} {sz : Nat} {r : Int32} (h : f_X1_foundInAll a0 x1 hp = some r) : zis hp a0 1 = some () ∧ zM l yX1_foundInAll cX1_foundInAll 4 (some .int) 4 0 0 [.ref a0, .int x1] D tc ro b0 hp sz ((zoP sz hp) r).1 ((zoP sz hp) r).2.1 ((zoP sz hp) r).2.2 := by
  refine ⟨?_, z_start (o := (zoP sz hp)) (lv := [(0, .ref a0), (1, .int x1)]) h (by decide +kernel) RX1 rfl rfl (Nat.le_of_ble_eq_true rfl) (fun P C => ?_)⟩
  · unfold f_X1_foundInAll at h
    cases hc : zis hp a0 1 with
    | none => rw [hc] at h; cases h
    | some u => rfl
  unfold f_X1_foundInAll
  refine z_is ?_
  refine z_iconst C dX1_foundInAll_0 zi_0 ?_
  refine z_istore_n (lv' := [(0, .ref a0), (1, .int x1), (2, .int (0 : Int32))]) C dX1_foundInAll_1 (by decide) rfl ?_
  refine z_iconst C dX1_foundInAll_2 zi_0 ?_
  refine z_istore_n (lv' := [(0, .ref a0), (1, .int x1), (2, .int (0 : Int32)), (3, .int (0 : Int32))]) C dX1_foundInAll_3 (by decide) rfl ?_
  refine wl_X1_foundInAll_4 C (fun p6 => ?_) _ _ _
  refine z_iload_n C dX1_foundInAll_30 0 rfl ?_
  exact z_ireturnP C dX1_foundInAll_31
noncomputable def j_X1_nextReady_37 (k56 : Int32 → Option Int32) (rec : Int32 → Int32 → Int32 → Option Int32) (a0 : Nat) (x1 : Int32) (x2 : Int32) (x3 : Int32) (x4 : Int32) (hp : zHp) : Option Int32 :=
  (f_X1_reasonAgainst a0 x3 hp).bind fun v5 => if v5 = 0 then (zlet (x3 + (1 : Int32)) fun v7 => rec x3 x4 v7) else zlet (x3 + (1 : Int32)) fun v6 => rec x1 x2 v6
set_option maxHeartbeats 4000000 in
set_option maxRecDepth 100000 in
theorem wj_X1_nextReady_37 {P : zX} {ro : Nat → Nat} {sz : Nat} (C : zC P cX1_nextReady RX1 (some .int) 7 0 0 5 ro) {a0 : Nat} {x1 : Int32} {x2 : Int32} {x3 : Int32} {x4 : Int32} {hp : zHp} {k56 : Int32 → Option Int32} (hk56 : ∀ (x1 : Int32), zG P (zoP sz hp) (k56 x1) 56 [(1, .int x1)] [] hp sz 0 0) {rec : Int32 → Int32 → Int32 → Option Int32} (hrec : ∀ (x1 : Int32) (x2 : Int32) (x3 : Int32), zG P (zoP sz hp) (rec x1 x2 x3) 6 [(0, .ref a0), (1, .int x1), (2, .int x2), (3, .int x3)] [] hp sz 0 0) : zG P (zoP sz hp) (j_X1_nextReady_37 k56 rec a0 x1 x2 x3 x4 hp) 37 [(0, .ref a0), (1, .int x1), (2, .int x2), (3, .int x3), (4, .int x4)] [] hp sz 0 0 := by
  unfold j_X1_nextReady_37
  refine z_aload_n C dX1_nextReady_37 0 rfl ?_
  refine z_iload_n C dX1_nextReady_38 3 rfl ?_
  refine z_callVp C zc_X1_174 [.int x3] (fun l D tc b0 r h => m_X1_reasonAgainst l D tc ro b0 h) dX1_nextReady_39 rfl rfl (Nat.le_of_ble_eq_true rfl) (by decide) (by decide) ⟨Nat.le_of_ble_eq_true rfl, Nat.le_of_ble_eq_true rfl⟩ (fun v5 => ?_)
  refine z_if_ne C 50 dX1_nextReady_42 (by decide) ?_ ?_
  · refine z_iload_n C dX1_nextReady_45 3 rfl ?_
    refine z_istore_n (lv' := [(0, .ref a0), (1, .int x3), (2, .int x2), (3, .int x3), (4, .int x4)]) C dX1_nextReady_46 (by decide) rfl ?_
    refine z_iload C dX1_nextReady_47 4 rfl ?_
    refine z_istore_n (lv' := [(0, .ref a0), (1, .int x3), (2, .int x4), (3, .int x3), (4, .int x4)]) C dX1_nextReady_49 (by decide) rfl ?_
    refine z_iincL C 3 (fun v7 => [(0, .ref a0), (1, .int x3), (2, .int x4), (3, .int v7), (4, .int x4)]) dX1_nextReady_50 rfl zi_1 (by decide) (fun _ => rfl) (fun v7 => ?_)
    refine z_goto C 6 dX1_nextReady_53 (by decide) ?_
    exact z_sub [0, 1, 2, 3] rfl (hrec _ _ _)
  refine z_iincL C 3 (fun v6 => [(0, .ref a0), (1, .int x1), (2, .int x2), (3, .int v6), (4, .int x4)]) dX1_nextReady_50 rfl zi_1 (by decide) (fun _ => rfl) (fun v6 => ?_)
  refine z_goto C 6 dX1_nextReady_53 (by decide) ?_
  exact z_sub [0, 1, 2, 3] rfl (hrec _ _ _)
noncomputable def b_X1_nextReady_6 (k56 : Int32 → Option Int32) (a0 : Nat) (hp : zHp) (rec : Int32 → Int32 → Int32 → Option Int32) (x1 : Int32) (x2 : Int32) (x3 : Int32) : Option Int32 :=
  (zgR hp a0 1 0).bind fun r1 => (zgR hp r1 5 0).bind fun r2 => (zaI hp 0 r2 (2 : Int32)).bind fun v3 => if x3 < v3 then ((f_X1_foundInAll a0 x3 hp).bind fun v4 => if x1 = (-1 : Int32) then (j_X1_nextReady_37 k56 rec a0 x1 x2 x3 v4 hp) else if v4 < x2 then (j_X1_nextReady_37 k56 rec a0 x1 x2 x3 v4 hp) else zlet (x3 + (1 : Int32)) fun v8 => rec x1 x2 v8) else k56 x1
noncomputable def l_X1_nextReady_6 (k56 : Int32 → Option Int32) (a0 : Nat) (hp : zHp) (n : Nat) : Int32 → Int32 → Int32 → Option Int32 :=
  Nat.rec (motive := fun _ => Int32 → Int32 → Int32 → Option Int32) (fun _ _ _ => none) (fun _ rec => b_X1_nextReady_6 k56 a0 hp rec) n
theorem l_X1_nextReady_6_s (k56 : Int32 → Option Int32) (a0 : Nat) (hp : zHp) (n : Nat) (x1 : Int32) (x2 : Int32) (x3 : Int32) : l_X1_nextReady_6 k56 a0 hp (n + 1) x1 x2 x3 = b_X1_nextReady_6 k56 a0 hp (l_X1_nextReady_6 k56 a0 hp n) x1 x2 x3 := rfl
set_option maxHeartbeats 4000000 in
set_option maxRecDepth 100000 in
theorem wl_X1_nextReady_6 {P : zX} {ro : Nat → Nat} {sz : Nat} (C : zC P cX1_nextReady RX1 (some .int) 7 0 0 5 ro) {a0 : Nat} {hp : zHp} {k56 : Int32 → Option Int32} (hk56 : ∀ (x1 : Int32), zG P (zoP sz hp) (k56 x1) 56 [(1, .int x1)] [] hp sz 0 0) : ∀ (n : Nat) (x1 : Int32) (x2 : Int32) (x3 : Int32), zG P (zoP sz hp) (l_X1_nextReady_6 k56 a0 hp n x1 x2 x3) 6 [(0, .ref a0), (1, .int x1), (2, .int x2), (3, .int x3)] [] hp sz 0 0 := by
  intro n
  induction n with
  | zero =>
    intro x1 x2 x3
    show zG P (zoP sz hp) none _ _ _ _ _ _ _
    exact z_none
  | succ n ih =>
    intro x1 x2 x3
    show zG P (zoP sz hp) (b_X1_nextReady_6 k56 a0 hp (l_X1_nextReady_6 k56 a0 hp n) x1 x2 x3) _ _ _ _ _ _ _
    unfold b_X1_nextReady_6
    refine z_iload_n C dX1_nextReady_6 3 rfl ?_
    refine z_aload_n C dX1_nextReady_7 0 rfl ?_
    refine z_getR C zf_X1_12 dX1_nextReady_8 (fun r1 => ?_)
    refine z_getR C zf_X1_29 dX1_nextReady_11 (fun r2 => ?_)
    refine z_iconst C dX1_nextReady_14 zi_2 ?_
    refine z_iaload C dX1_nextReady_15 (fun v3 => ?_)
    refine z_icmp_ge C 56 dX1_nextReady_16 (by decide) ?_ ?_
    · refine z_aload_n C dX1_nextReady_19 0 rfl ?_
      refine z_iload_n C dX1_nextReady_20 3 rfl ?_
      refine z_callVp C zc_X1_171 [.int x3] (fun l D tc b0 r h => m_X1_foundInAll l D tc ro b0 h) dX1_nextReady_21 rfl rfl (Nat.le_of_ble_eq_true rfl) (by decide) (by decide) ⟨Nat.le_of_ble_eq_true rfl, Nat.le_of_ble_eq_true rfl⟩ (fun v4 => ?_)
      refine z_istore (lv' := [(0, .ref a0), (1, .int x1), (2, .int x2), (3, .int x3), (4, .int v4)]) C dX1_nextReady_24 (by decide) rfl ?_
      refine z_iload_n C dX1_nextReady_26 1 rfl ?_
      refine z_iconst C dX1_nextReady_27 zi_m1 ?_
      refine z_icmp_eq C 37 dX1_nextReady_28 (by decide) ?_ ?_
      · exact wj_X1_nextReady_37 C hk56 ih
      refine z_iload C dX1_nextReady_31 4 rfl ?_
      refine z_iload_n C dX1_nextReady_33 2 rfl ?_
      refine z_icmp_ge C 50 dX1_nextReady_34 (by decide) ?_ ?_
      · exact wj_X1_nextReady_37 C hk56 ih
      refine z_iincL C 3 (fun v8 => [(0, .ref a0), (1, .int x1), (2, .int x2), (3, .int v8), (4, .int v4)]) dX1_nextReady_50 rfl zi_1 (by decide) (fun _ => rfl) (fun v8 => ?_)
      refine z_goto C 6 dX1_nextReady_53 (by decide) ?_
      exact z_sub [0, 1, 2, 3] rfl (ih _ _ _)
    exact z_sub [1] rfl (hk56 _)
noncomputable def f_X1_nextReady (a0 : Nat) (hp : zHp) : Option Int32 :=
  (zis hp a0 1).bind fun _ => l_X1_nextReady_6 (fun p9 => some p9) a0 hp 1000000 (-1 : Int32) (0 : Int32) (0 : Int32)
set_option maxHeartbeats 4000000 in
set_option maxRecDepth 100000 in
theorem m_X1_nextReady (l : Launch) (D : va_G) (tc : Nat → ClassId) (ro : Nat → Nat) (b0 : Nat) {a0 : Nat} {hp : zHp} {sz : Nat} {r : Int32} (h : f_X1_nextReady a0 hp = some r) : zis hp a0 1 = some () ∧ zM l yX1_nextReady cX1_nextReady 5 (some .int) 7 0 0 [.ref a0] D tc ro b0 hp sz ((zoP sz hp) r).1 ((zoP sz hp) r).2.1 ((zoP sz hp) r).2.2 := by
  refine ⟨?_, z_start (o := (zoP sz hp)) (lv := [(0, .ref a0)]) h (by decide +kernel) RX1 rfl rfl (Nat.le_of_ble_eq_true rfl) (fun P C => ?_)⟩
  · unfold f_X1_nextReady at h
    cases hc : zis hp a0 1 with
    | none => rw [hc] at h; cases h
    | some u => rfl
  unfold f_X1_nextReady
  refine z_is ?_
  refine z_iconst C dX1_nextReady_0 zi_m1 ?_
  refine z_istore_n (lv' := [(0, .ref a0), (1, .int (-1 : Int32))]) C dX1_nextReady_1 (by decide) rfl ?_
  refine z_iconst C dX1_nextReady_2 zi_0 ?_
  refine z_istore_n (lv' := [(0, .ref a0), (1, .int (-1 : Int32)), (2, .int (0 : Int32))]) C dX1_nextReady_3 (by decide) rfl ?_
  refine z_iconst C dX1_nextReady_4 zi_0 ?_
  refine z_istore_n (lv' := [(0, .ref a0), (1, .int (-1 : Int32)), (2, .int (0 : Int32)), (3, .int (0 : Int32))]) C dX1_nextReady_5 (by decide) rfl ?_
  refine wl_X1_nextReady_6 C (fun p9 => ?_) _ _ _ _
  refine z_iload_n C dX1_nextReady_56 0 rfl ?_
  exact z_ireturnP C dX1_nextReady_57
noncomputable def b_X2_init_15 (mc ms : Nat) (k40 : zHp → Nat → Nat → Nat → Option (zHp × Nat)) (a0 : Nat) (rec : Int32 → zHp → Nat → Nat → Nat → Option (zHp × Nat)) (x1 : Int32) (h : zHp) (sz : Nat) (uc : Nat) (us : Nat) : Option (zHp × Nat) :=
  if x1 < (10 : Int32) then ((zgR h a0 2 0).bind fun r4 => zchk (uc + 1 ≤ mc ∧ us + 5 ≤ ms) <| zlet (zup h sz (.inr (6, [.null, .null, .null, .int 0, .int 0]))) fun h6 => zchk ((uc + 1) + 51 ≤ mc ∧ (us + 5) + 608 ≤ ms) <| zb2 (f_X6_init 51 608 sz h6 ((sz + 1))) fun h8 z9 => (zsR h8 4 6 r4 x1 sz).bind fun h10 => zlet (x1 + (1 : Int32)) fun v11 => rec v11 h10 z9 (((uc + 1) + 51)) (((us + 5) + 608))) else k40 h sz uc us
noncomputable def l_X2_init_15 (mc ms : Nat) (k40 : zHp → Nat → Nat → Nat → Option (zHp × Nat)) (a0 : Nat) (n : Nat) : Int32 → zHp → Nat → Nat → Nat → Option (zHp × Nat) :=
  Nat.rec (motive := fun _ => Int32 → zHp → Nat → Nat → Nat → Option (zHp × Nat)) (fun _ _ _ _ _ => none) (fun _ rec => b_X2_init_15 mc ms k40 a0 rec) n
theorem l_X2_init_15_s {mc ms : Nat} (k40 : zHp → Nat → Nat → Nat → Option (zHp × Nat)) (a0 : Nat) (n : Nat) (x1 : Int32) (h : zHp) (sz : Nat) (uc : Nat) (us : Nat) : l_X2_init_15 mc ms k40 a0 (n + 1) x1 h sz uc us = b_X2_init_15 mc ms k40 a0 (l_X2_init_15 mc ms k40 a0 n) x1 h sz uc us := rfl
set_option maxHeartbeats 4000000 in
set_option maxRecDepth 100000 in
theorem wl_X2_init_15 {P : zX} {ro : Nat → Nat} {mc ms : Nat} (C : zC P cX2_init RX2 none 3 mc ms 2 ro) {a0 : Nat} {k40 : zHp → Nat → Nat → Nat → Option (zHp × Nat)} (hk40 : ∀ (h : zHp) (sz : Nat) (uc : Nat) (us : Nat), zG P zoVA (k40 h sz uc us) 40 [] [] h sz uc us) : ∀ (n : Nat) (x1 : Int32) (h : zHp) (sz : Nat) (uc : Nat) (us : Nat), zG P zoVA (l_X2_init_15 mc ms k40 a0 n x1 h sz uc us) 15 [(0, .ref a0), (1, .int x1)] [] h sz uc us := by
  intro n
  induction n with
  | zero =>
    intro x1 h sz uc us
    show zG P zoVA none _ _ _ _ _ _ _
    exact z_none
  | succ n ih =>
    intro x1 h sz uc us
    show zG P zoVA (b_X2_init_15 mc ms k40 a0 (l_X2_init_15 mc ms k40 a0 n) x1 h sz uc us) _ _ _ _ _ _ _
    unfold b_X2_init_15
    refine z_iload_n C dX2_init_15 1 rfl ?_
    refine z_bipush C dX2_init_16 zbi_10 ?_
    refine z_icmp_ge C 40 dX2_init_18 (by decide) ?_ ?_
    · refine z_aload_n C dX2_init_21 0 rfl ?_
      refine z_getR C zf_X2_11 dX2_init_22 (fun r4 => ?_)
      refine z_iload_n C dX2_init_25 1 rfl ?_
      refine z_chk (fun q5 => ?_)
      refine z_new C za_X2_9 dX2_init_26 q5 (fun h6 => ?_)
      refine z_dup C dX2_init_29 rfl ?_
      refine z_chk (fun q7 => ?_)
      refine z_callI C (Or.inl zci_X2_17) [] (fun l D tc b0 r h => m_X6_init l D tc ro b0 h) dX2_init_30 rfl rfl (Nat.le_of_ble_eq_true rfl) (by decide) (by decide) q7 (fun h8 z9 => ?_)
      refine z_aastore (t := 4) (ci := 6) (r0 := (RX6, TX6, 5)) C (fun _ => rfl) rfl (by decide) (by decide) dX2_init_33 (fun h10 => ?_)
      refine z_iincL C 1 (fun v11 => [(0, .ref a0), (1, .int v11)]) dX2_init_34 rfl zi_1 (by decide) (fun _ => rfl) (fun v11 => ?_)
      refine z_goto C 15 dX2_init_37 (by decide) ?_
      exact ih _ _ _ _ _
    exact z_sub [] rfl (hk40 _ _ _ _)
noncomputable def f_X2_init (mc ms : Nat) (a0 : Nat) (hp : zHp) (sz : Nat) : Option (zHp × Nat) :=
  zchk (¬ (10 : Int32) < 0 ∧ (10 : Int32).toNatClampNeg ≤ 60000 ∧ 0 + 1 ≤ mc ∧ 0 + (10 : Int32).toNatClampNeg ≤ ms) <| zlet (zup hp sz (.inl (4, (10 : Int32).toNatClampNeg, .inr (.inr (.inr (.inr (fun _ => none))))))) fun h2 => (zpV h2 a0 2 0 (.ref sz)).bind fun h3 => l_X2_init_15 mc ms (fun h12 z13 c14 u15 => zchk (c14 ≤ mc ∧ u15 ≤ ms) <| some (h12, z13)) a0 1000000 (0 : Int32) h3 ((sz + 1)) ((0 + 1)) ((0 + (10 : Int32).toNatClampNeg))
set_option maxHeartbeats 4000000 in
set_option maxRecDepth 100000 in
theorem m_X2_init (l : Launch) (D : va_G) (tc : Nat → ClassId) (ro : Nat → Nat) (b0 : Nat) {mc ms : Nat} {a0 : Nat} {hp : zHp} {sz : Nat} {r : (zHp × Nat)} (h : f_X2_init mc ms a0 hp sz = some r) : zM l yX2_init cX2_init 2 none 3 mc ms [.ref a0] D tc ro b0 hp sz (zoVA r).1 (zoVA r).2.1 (zoVA r).2.2 := by
  refine z_startI (o := zoVA) (lv := [(0, .ref a0)]) h (by decide +kernel) RX2 rfl rfl rfl (Nat.le_of_ble_eq_true rfl) (fun P C CI => ?_)
  unfold f_X2_init
  refine z_aload_n C dX2_init_0 0 rfl ?_
  refine z_objInit C zo_X2_3 dX2_init_1 (by decide) (Nat.le_of_ble_eq_true rfl) ?_
  refine z_aload_n C dX2_init_4 0 rfl ?_
  refine z_bipush C dX2_init_5 zbi_10 ?_
  refine z_chk (fun q1 => ?_)
  refine z_anewarr (t := 4) (Cn := "CountHall$State") C (fun _ => rfl) (by decide) zal_X2_9 (fun _ h => h.2.1) dX2_init_7 q1 (fun h2 => ?_)
  refine z_putF C CI zpf_X2_11 rfl rfl dX2_init_10 (fun h3 => ?_)
  refine z_iconst C dX2_init_13 zi_0 ?_
  refine z_istore_n (lv' := [(0, .ref a0), (1, .int (0 : Int32))]) C dX2_init_14 (by decide) rfl ?_
  refine wl_X2_init_15 C (fun h12 z13 c14 u15 => ?_) _ _ _ _ _ _
  refine z_chk (fun q16 => ?_)
  exact z_returnA C dX2_init_40 q16
noncomputable def b_X2_forgetOldest_9 (k35 : zHp → Option zHp) (a0 : Nat) (a1 : Nat) (rec : Int32 → zHp → Option zHp) (x2 : Int32) (h : zHp) : Option zHp :=
  if x2 < (10 : Int32) then ((zgR h a0 2 0).bind fun r3 => (zgR h a0 2 0).bind fun r4 => (zaR h 4 r4 x2).bind fun r5 => (zsR h 4 6 r3 (x2 - (1 : Int32)) r5).bind fun h6 => zlet (x2 + (1 : Int32)) fun v7 => rec v7 h6) else k35 h
noncomputable def l_X2_forgetOldest_9 (k35 : zHp → Option zHp) (a0 : Nat) (a1 : Nat) (n : Nat) : Int32 → zHp → Option zHp :=
  Nat.rec (motive := fun _ => Int32 → zHp → Option zHp) (fun _ _ => none) (fun _ rec => b_X2_forgetOldest_9 k35 a0 a1 rec) n
theorem l_X2_forgetOldest_9_s (k35 : zHp → Option zHp) (a0 : Nat) (a1 : Nat) (n : Nat) (x2 : Int32) (h : zHp) : l_X2_forgetOldest_9 k35 a0 a1 (n + 1) x2 h = b_X2_forgetOldest_9 k35 a0 a1 (l_X2_forgetOldest_9 k35 a0 a1 n) x2 h := rfl
set_option maxHeartbeats 4000000 in
set_option maxRecDepth 100000 in
theorem wl_X2_forgetOldest_9 {P : zX} {ro : Nat → Nat} {sz : Nat} (C : zC P cX2_forgetOldest RX2 none 1 0 0 3 ro) {a0 : Nat} {a1 : Nat} {k35 : zHp → Option zHp} (hk35 : ∀ (h : zHp), zG P (zoV sz) (k35 h) 35 [(0, .ref a0), (1, .ref a1)] [] h sz 0 0) : ∀ (n : Nat) (x2 : Int32) (h : zHp), zG P (zoV sz) (l_X2_forgetOldest_9 k35 a0 a1 n x2 h) 9 [(0, .ref a0), (1, .ref a1), (2, .int x2)] [] h sz 0 0 := by
  intro n
  induction n with
  | zero =>
    intro x2 h
    show zG P (zoV sz) none _ _ _ _ _ _ _
    exact z_none
  | succ n ih =>
    intro x2 h
    show zG P (zoV sz) (b_X2_forgetOldest_9 k35 a0 a1 (l_X2_forgetOldest_9 k35 a0 a1 n) x2 h) _ _ _ _ _ _ _
    unfold b_X2_forgetOldest_9
    refine z_iload_n C dX2_forgetOldest_9 2 rfl ?_
    refine z_bipush C dX2_forgetOldest_10 zbi_10 ?_
    refine z_icmp_ge C 35 dX2_forgetOldest_12 (by decide) ?_ ?_
    · refine z_aload_n C dX2_forgetOldest_15 0 rfl ?_
      refine z_getR C zf_X2_11 dX2_forgetOldest_16 (fun r3 => ?_)
      refine z_iload_n C dX2_forgetOldest_19 2 rfl ?_
      refine z_iconst C dX2_forgetOldest_20 zi_1 ?_
      refine z_isub C dX2_forgetOldest_21 ?_
      refine z_aload_n C dX2_forgetOldest_22 0 rfl ?_
      refine z_getR C zf_X2_11 dX2_forgetOldest_23 (fun r4 => ?_)
      refine z_iload_n C dX2_forgetOldest_26 2 rfl ?_
      refine z_aaload (t := 4) (ty := .object "CountHall$State") C (fun _ => rfl) rfl (by decide) dX2_forgetOldest_27 (fun r5 => ?_)
      refine z_aastore (t := 4) (ci := 6) (r0 := (RX6, TX6, 5)) C (fun _ => rfl) rfl (by decide) (by decide) dX2_forgetOldest_28 (fun h6 => ?_)
      refine z_iincL C 2 (fun v7 => [(0, .ref a0), (1, .ref a1), (2, .int v7)]) dX2_forgetOldest_29 rfl zi_1 (by decide) (fun _ => rfl) (fun v7 => ?_)
      refine z_goto C 9 dX2_forgetOldest_32 (by decide) ?_
      exact ih _ _
    exact z_sub [0, 1] rfl (hk35 _)
noncomputable def f_X2_forgetOldest (a0 : Nat) (hp : zHp) : Option zHp :=
  (zis hp a0 2).bind fun _ => (zgR hp a0 2 0).bind fun r1 => (zaR hp 4 r1 (0 : Int32)).bind fun r2 => l_X2_forgetOldest_9 (fun h8 => (zgR h8 a0 2 0).bind fun r9 => (zsR h8 4 6 r9 (9 : Int32) r2).bind fun h10 => (zgI h10 a0 2 1).bind fun v11 => (zpV h10 a0 2 1 (.int (v11 - (1 : Int32)))).bind fun h12 => some h12) a0 r2 1000000 (1 : Int32) hp
set_option maxHeartbeats 4000000 in
set_option maxRecDepth 100000 in
theorem m_X2_forgetOldest (l : Launch) (D : va_G) (tc : Nat → ClassId) (ro : Nat → Nat) (b0 : Nat) {a0 : Nat} {hp : zHp} {sz : Nat} {r : zHp} (h : f_X2_forgetOldest a0 hp = some r) : zis hp a0 2 = some () ∧ zM l yX2_forgetOldest cX2_forgetOldest 3 none 1 0 0 [.ref a0] D tc ro b0 hp sz ((zoV sz) r).1 ((zoV sz) r).2.1 ((zoV sz) r).2.2 := by
  refine ⟨?_, z_start (o := (zoV sz)) (lv := [(0, .ref a0)]) h (by decide +kernel) RX2 rfl rfl (Nat.le_of_ble_eq_true rfl) (fun P C => ?_)⟩
  · unfold f_X2_forgetOldest at h
    cases hc : zis hp a0 2 with
    | none => rw [hc] at h; cases h
    | some u => rfl
  unfold f_X2_forgetOldest
  refine z_is ?_
  refine z_aload_n C dX2_forgetOldest_0 0 rfl ?_
  refine z_getR C zf_X2_11 dX2_forgetOldest_1 (fun r1 => ?_)
  refine z_iconst C dX2_forgetOldest_4 zi_0 ?_
  refine z_aaload (t := 4) (ty := .object "CountHall$State") C (fun _ => rfl) rfl (by decide) dX2_forgetOldest_5 (fun r2 => ?_)
  refine z_astore_n (lv' := [(0, .ref a0), (1, .ref r2)]) C dX2_forgetOldest_6 (by decide) rfl ?_
  refine z_iconst C dX2_forgetOldest_7 zi_1 ?_
  refine z_istore_n (lv' := [(0, .ref a0), (1, .ref r2), (2, .int (1 : Int32))]) C dX2_forgetOldest_8 (by decide) rfl ?_
  refine wl_X2_forgetOldest_9 C (fun h8 => ?_) _ _ _
  refine z_aload_n C dX2_forgetOldest_35 0 rfl ?_
  refine z_getR C zf_X2_11 dX2_forgetOldest_36 (fun r9 => ?_)
  refine z_bipush C dX2_forgetOldest_39 zbi_9 ?_
  refine z_aload_n C dX2_forgetOldest_41 1 rfl ?_
  refine z_aastore (t := 4) (ci := 6) (r0 := (RX6, TX6, 5)) C (fun _ => rfl) rfl (by decide) (by decide) dX2_forgetOldest_42 (fun h10 => ?_)
  refine z_aload_n C dX2_forgetOldest_43 0 rfl ?_
  refine z_dup C dX2_forgetOldest_44 rfl ?_
  refine z_getI C zf_X2_18 dX2_forgetOldest_45 (fun v11 => ?_)
  refine z_iconst C dX2_forgetOldest_48 zi_1 ?_
  refine z_isub C dX2_forgetOldest_49 ?_
  refine z_putI C zp_X2_18 dX2_forgetOldest_50 (fun h12 => ?_)
  exact z_return C dX2_forgetOldest_53
noncomputable def b_X6_copyFrom_2 (k29 : zHp → Option zHp) (a0 : Nat) (a1 : Nat) (rec : Int32 → zHp → Option zHp) (x2 : Int32) (h : zHp) : Option zHp :=
  if x2 < (12 : Int32) then ((zgR h a0 6 0).bind fun r1 => (zaR h 3 r1 x2).bind fun r2 => (zgR h a1 6 0).bind fun r3 => (zaR h 3 r3 x2).bind fun r4 => (f_X0_copyFrom r2 r4 h).bind fun h5 => zlet (x2 + (1 : Int32)) fun v6 => rec v6 h5) else k29 h
noncomputable def l_X6_copyFrom_2 (k29 : zHp → Option zHp) (a0 : Nat) (a1 : Nat) (n : Nat) : Int32 → zHp → Option zHp :=
  Nat.rec (motive := fun _ => Int32 → zHp → Option zHp) (fun _ _ => none) (fun _ rec => b_X6_copyFrom_2 k29 a0 a1 rec) n
theorem l_X6_copyFrom_2_s (k29 : zHp → Option zHp) (a0 : Nat) (a1 : Nat) (n : Nat) (x2 : Int32) (h : zHp) : l_X6_copyFrom_2 k29 a0 a1 (n + 1) x2 h = b_X6_copyFrom_2 k29 a0 a1 (l_X6_copyFrom_2 k29 a0 a1 n) x2 h := rfl
set_option maxHeartbeats 4000000 in
set_option maxRecDepth 100000 in
theorem wl_X6_copyFrom_2 {P : zX} {ro : Nat → Nat} {sz : Nat} (C : zC P cX6_copyFrom RX6 none 2 0 0 3 ro) {a0 : Nat} {a1 : Nat} {k29 : zHp → Option zHp} (hk29 : ∀ (h : zHp), zG P (zoV sz) (k29 h) 29 [(0, .ref a0), (1, .ref a1)] [] h sz 0 0) : ∀ (n : Nat) (x2 : Int32) (h : zHp), zG P (zoV sz) (l_X6_copyFrom_2 k29 a0 a1 n x2 h) 2 [(0, .ref a0), (1, .ref a1), (2, .int x2)] [] h sz 0 0 := by
  intro n
  induction n with
  | zero =>
    intro x2 h
    show zG P (zoV sz) none _ _ _ _ _ _ _
    exact z_none
  | succ n ih =>
    intro x2 h
    show zG P (zoV sz) (b_X6_copyFrom_2 k29 a0 a1 (l_X6_copyFrom_2 k29 a0 a1 n) x2 h) _ _ _ _ _ _ _
    unfold b_X6_copyFrom_2
    refine z_iload_n C dX6_copyFrom_2 2 rfl ?_
    refine z_bipush C dX6_copyFrom_3 zbi_12 ?_
    refine z_icmp_ge C 29 dX6_copyFrom_5 (by decide) ?_ ?_
    · refine z_aload_n C dX6_copyFrom_8 0 rfl ?_
      refine z_getR C zf_X6_11 dX6_copyFrom_9 (fun r1 => ?_)
      refine z_iload_n C dX6_copyFrom_12 2 rfl ?_
      refine z_aaload (t := 3) (ty := .object "CountHall$Box") C (fun _ => rfl) rfl (by decide) dX6_copyFrom_13 (fun r2 => ?_)
      refine z_aload_n C dX6_copyFrom_14 1 rfl ?_
      refine z_getR C zf_X6_11 dX6_copyFrom_15 (fun r3 => ?_)
      refine z_iload_n C dX6_copyFrom_18 2 rfl ?_
      refine z_aaload (t := 3) (ty := .object "CountHall$Box") C (fun _ => rfl) rfl (by decide) dX6_copyFrom_19 (fun r4 => ?_)
      refine z_callVv C zc_X6_51 [.ref r4] (fun l D tc b0 r h => m_X0_copyFrom l D tc ro b0 h) dX6_copyFrom_20 rfl rfl (Nat.le_of_ble_eq_true rfl) (by decide) (by decide) ⟨Nat.le_of_ble_eq_true rfl, Nat.le_of_ble_eq_true rfl⟩ (fun h5 => ?_)
      refine z_iincL C 2 (fun v6 => [(0, .ref a0), (1, .ref a1), (2, .int v6)]) dX6_copyFrom_23 rfl zi_1 (by decide) (fun _ => rfl) (fun v6 => ?_)
      refine z_goto C 2 dX6_copyFrom_26 (by decide) ?_
      exact ih _ _
    exact z_sub [0, 1] rfl (hk29 _)
noncomputable def f_X6_copyFrom (a0 : Nat) (a1 : Nat) (hp : zHp) : Option zHp :=
  (zis hp a0 6).bind fun _ => l_X6_copyFrom_2 (fun h7 => (zgR h7 a1 6 1).bind fun r8 => (zgR h7 a0 6 1).bind fun r9 => (zcpI h7 r8 (0 : Int32) r9 (0 : Int32) (2 : Int32)).bind fun h10 => (zgR h10 a1 6 2).bind fun r11 => (zgR h10 a0 6 2).bind fun r12 => (zcpI h10 r11 (0 : Int32) r12 (0 : Int32) (6 : Int32)).bind fun h13 => (zgI h13 a1 6 3).bind fun v14 => (zpV h13 a0 6 3 (.int v14)).bind fun h15 => (zgI h15 a1 6 4).bind fun v16 => (zpV h15 a0 6 4 (.int v16)).bind fun h17 => some h17) a0 a1 1000000 (0 : Int32) hp
set_option maxHeartbeats 4000000 in
set_option maxRecDepth 100000 in
theorem m_X6_copyFrom (l : Launch) (D : va_G) (tc : Nat → ClassId) (ro : Nat → Nat) (b0 : Nat) {a0 : Nat} {a1 : Nat} {hp : zHp} {sz : Nat} {r : zHp} (h : f_X6_copyFrom a0 a1 hp = some r) : zis hp a0 6 = some () ∧ zM l yX6_copyFrom cX6_copyFrom 3 none 2 0 0 [.ref a0, .ref a1] D tc ro b0 hp sz ((zoV sz) r).1 ((zoV sz) r).2.1 ((zoV sz) r).2.2 := by
  refine ⟨?_, z_start (o := (zoV sz)) (lv := [(0, .ref a0), (1, .ref a1)]) h (by decide +kernel) RX6 rfl rfl (Nat.le_of_ble_eq_true rfl) (fun P C => ?_)⟩
  · unfold f_X6_copyFrom at h
    cases hc : zis hp a0 6 with
    | none => rw [hc] at h; cases h
    | some u => rfl
  unfold f_X6_copyFrom
  refine z_is ?_
  refine z_iconst C dX6_copyFrom_0 zi_0 ?_
  refine z_istore_n (lv' := [(0, .ref a0), (1, .ref a1), (2, .int (0 : Int32))]) C dX6_copyFrom_1 (by decide) rfl ?_
  refine wl_X6_copyFrom_2 C (fun h7 => ?_) _ _ _
  refine z_aload_n C dX6_copyFrom_29 1 rfl ?_
  refine z_getR C zf_X6_17 dX6_copyFrom_30 (fun r8 => ?_)
  refine z_iconst C dX6_copyFrom_33 zi_0 ?_
  refine z_aload_n C dX6_copyFrom_34 0 rfl ?_
  refine z_getR C zf_X6_17 dX6_copyFrom_35 (fun r9 => ?_)
  refine z_iconst C dX6_copyFrom_38 zi_0 ?_
  refine z_iconst C dX6_copyFrom_39 zi_2 ?_
  refine z_copyI C zy_X6_42 dX6_copyFrom_40 (Nat.le_of_ble_eq_true rfl) (by decide) (fun h10 => ?_)
  refine z_aload_n C dX6_copyFrom_43 1 rfl ?_
  refine z_getR C zf_X6_21 dX6_copyFrom_44 (fun r11 => ?_)
  refine z_iconst C dX6_copyFrom_47 zi_0 ?_
  refine z_aload_n C dX6_copyFrom_48 0 rfl ?_
  refine z_getR C zf_X6_21 dX6_copyFrom_49 (fun r12 => ?_)
  refine z_iconst C dX6_copyFrom_52 zi_0 ?_
  refine z_bipush C dX6_copyFrom_53 zbi_6 ?_
  refine z_copyI C zy_X6_42 dX6_copyFrom_55 (Nat.le_of_ble_eq_true rfl) (by decide) (fun h13 => ?_)
  refine z_aload_n C dX6_copyFrom_58 0 rfl ?_
  refine z_aload_n C dX6_copyFrom_59 1 rfl ?_
  refine z_getI C zf_X6_48 dX6_copyFrom_60 (fun v14 => ?_)
  refine z_putI C zp_X6_48 dX6_copyFrom_63 (fun h15 => ?_)
  refine z_aload_n C dX6_copyFrom_66 0 rfl ?_
  refine z_aload_n C dX6_copyFrom_67 1 rfl ?_
  refine z_getI C zf_X6_25 dX6_copyFrom_68 (fun v16 => ?_)
  refine z_putI C zp_X6_25 dX6_copyFrom_71 (fun h17 => ?_)
  exact z_return C dX6_copyFrom_74
noncomputable def j_X2_keep_13 (a0 : Nat) (a1 : Nat) (h : zHp) : Option zHp :=
  (zgR h a0 2 0).bind fun r2 => (zgI h a0 2 1).bind fun v3 => (zaR h 4 r2 v3).bind fun r4 => (f_X6_copyFrom r4 a1 h).bind fun h5 => (zgI h5 a0 2 1).bind fun v6 => (zpV h5 a0 2 1 (.int (v6 + (1 : Int32)))).bind fun h7 => some h7
set_option maxHeartbeats 4000000 in
set_option maxRecDepth 100000 in
theorem wj_X2_keep_13 {P : zX} {ro : Nat → Nat} {sz : Nat} (C : zC P cX2_keep RX2 none 3 0 0 2 ro) {a0 : Nat} {a1 : Nat} {h : zHp}  : zG P (zoV sz) (j_X2_keep_13 a0 a1 h) 13 [(0, .ref a0), (1, .ref a1)] [] h sz 0 0 := by
  unfold j_X2_keep_13
  refine z_aload_n C dX2_keep_13 0 rfl ?_
  refine z_getR C zf_X2_11 dX2_keep_14 (fun r2 => ?_)
  refine z_aload_n C dX2_keep_17 0 rfl ?_
  refine z_getI C zf_X2_18 dX2_keep_18 (fun v3 => ?_)
  refine z_aaload (t := 4) (ty := .object "CountHall$State") C (fun _ => rfl) rfl (by decide) dX2_keep_21 (fun r4 => ?_)
  refine z_aload_n C dX2_keep_22 1 rfl ?_
  refine z_callVv C zc_X2_25 [.ref a1] (fun l D tc b0 r h => m_X6_copyFrom l D tc ro b0 h) dX2_keep_23 rfl rfl (Nat.le_of_ble_eq_true rfl) (by decide) (by decide) ⟨Nat.le_of_ble_eq_true rfl, Nat.le_of_ble_eq_true rfl⟩ (fun h5 => ?_)
  refine z_aload_n C dX2_keep_26 0 rfl ?_
  refine z_dup C dX2_keep_27 rfl ?_
  refine z_getI C zf_X2_18 dX2_keep_28 (fun v6 => ?_)
  refine z_iconst C dX2_keep_31 zi_1 ?_
  refine z_iadd C dX2_keep_32 ?_
  refine z_putI C zp_X2_18 dX2_keep_33 (fun h7 => ?_)
  exact z_return C dX2_keep_36
noncomputable def f_X2_keep (a0 : Nat) (a1 : Nat) (hp : zHp) : Option zHp :=
  (zis hp a0 2).bind fun _ => (zgI hp a0 2 1).bind fun v1 => if v1 = (10 : Int32) then ((f_X2_forgetOldest a0 hp).bind fun h8 => j_X2_keep_13 a0 a1 h8) else j_X2_keep_13 a0 a1 hp
set_option maxHeartbeats 4000000 in
set_option maxRecDepth 100000 in
theorem m_X2_keep (l : Launch) (D : va_G) (tc : Nat → ClassId) (ro : Nat → Nat) (b0 : Nat) {a0 : Nat} {a1 : Nat} {hp : zHp} {sz : Nat} {r : zHp} (h : f_X2_keep a0 a1 hp = some r) : zis hp a0 2 = some () ∧ zM l yX2_keep cX2_keep 2 none 3 0 0 [.ref a0, .ref a1] D tc ro b0 hp sz ((zoV sz) r).1 ((zoV sz) r).2.1 ((zoV sz) r).2.2 := by
  refine ⟨?_, z_start (o := (zoV sz)) (lv := [(0, .ref a0), (1, .ref a1)]) h (by decide +kernel) RX2 rfl rfl (Nat.le_of_ble_eq_true rfl) (fun P C => ?_)⟩
  · unfold f_X2_keep at h
    cases hc : zis hp a0 2 with
    | none => rw [hc] at h; cases h
    | some u => rfl
  unfold f_X2_keep
  refine z_is ?_
  refine z_aload_n C dX2_keep_0 0 rfl ?_
  refine z_getI C zf_X2_18 dX2_keep_1 (fun v1 => ?_)
  refine z_bipush C dX2_keep_4 zbi_10 ?_
  refine z_icmp_ne C 13 dX2_keep_6 (by decide) ?_ ?_
  · refine z_aload_n C dX2_keep_9 0 rfl ?_
    refine z_callVv C zc_X2_22 [] (fun l D tc b0 r h => m_X2_forgetOldest l D tc ro b0 h) dX2_keep_10 rfl rfl (Nat.le_of_ble_eq_true rfl) (by decide) (by decide) ⟨Nat.le_of_ble_eq_true rfl, Nat.le_of_ble_eq_true rfl⟩ (fun h8 => ?_)
    exact wj_X2_keep_13 C
  exact wj_X2_keep_13 C
noncomputable def f_X3_init (mc ms : Nat) (a0 : Nat) (hp : zHp) (sz : Nat) : Option (zHp × Nat) :=
  zchk (¬ (900 : Int32) < 0 ∧ (900 : Int32).toNatClampNeg ≤ 60000 ∧ 0 + 1 ≤ mc ∧ 0 + (900 : Int32).toNatClampNeg ≤ ms) <| zlet (zup hp sz (.inl (1, (900 : Int32).toNatClampNeg, .inl (fun _ => 0)))) fun h2 => (zpV h2 a0 3 0 (.ref sz)).bind fun h3 => some (h3, (sz + 1))
set_option maxHeartbeats 4000000 in
set_option maxRecDepth 100000 in
theorem m_X3_init (l : Launch) (D : va_G) (tc : Nat → ClassId) (ro : Nat → Nat) (b0 : Nat) {mc ms : Nat} {a0 : Nat} {hp : zHp} {sz : Nat} {r : (zHp × Nat)} (h : f_X3_init mc ms a0 hp sz = some r) : zM l yX3_init cX3_init 1 none 1 mc ms [.ref a0] D tc ro b0 hp sz (zoVA r).1 (zoVA r).2.1 (zoVA r).2.2 := by
  refine z_startI (o := zoVA) (lv := [(0, .ref a0)]) h (by decide +kernel) RX3 rfl rfl rfl (Nat.le_of_ble_eq_true rfl) (fun P C CI => ?_)
  unfold f_X3_init
  refine z_aload_n C dX3_init_0 0 rfl ?_
  refine z_objInit C zo_X3_3 dX3_init_1 (by decide) (Nat.le_of_ble_eq_true rfl) ?_
  refine z_aload_n C dX3_init_4 0 rfl ?_
  refine z_sipush C dX3_init_5 zsi_900 ?_
  refine z_chk (fun q1 => ?_)
  refine z_newarr (t := 1) (ty := .byte) (A := .inl (fun _ => 0)) C rfl (fun _ => rfl) (by decide) (fun _ _ h => h) (fun _ _ => rfl) zar_byte dX3_init_8 (by decide) q1 (fun h2 => ?_)
  refine z_putF C CI zpf_X3_9 rfl rfl dX3_init_10 (fun h3 => ?_)
  exact z_returnA C dX3_init_13 ⟨q1.2.2.1, q1.2.2.2⟩
noncomputable def b_X3_append_3 (k46 : zHp → Option zHp) (a0 : Nat) (x1 : Int32) (rec : Int32 → zHp → Option zHp) (x2 : Int32) (h : zHp) : Option zHp :=
  if x2 < 0 then (k46 h) else (zgI h a0 3 1).bind fun v1 => if v1 < (900 : Int32) then ((zgR h a0 3 0).bind fun r3 => (zgI h a0 3 1).bind fun v4 => (zsB h r3 v4 ((x1 >>> (x2 &&& 31)).toInt8.toInt32)).bind fun h5 => (zgI h5 a0 3 1).bind fun v6 => (zpV h5 a0 3 1 (.int (v6 + (1 : Int32)))).bind fun h7 => zlet (x2 + (-8 : Int32)) fun v8 => rec v8 h7) else zlet (x2 + (-8 : Int32)) fun v2 => rec v2 h
noncomputable def l_X3_append_3 (k46 : zHp → Option zHp) (a0 : Nat) (x1 : Int32) (n : Nat) : Int32 → zHp → Option zHp :=
  Nat.rec (motive := fun _ => Int32 → zHp → Option zHp) (fun _ _ => none) (fun _ rec => b_X3_append_3 k46 a0 x1 rec) n
theorem l_X3_append_3_s (k46 : zHp → Option zHp) (a0 : Nat) (x1 : Int32) (n : Nat) (x2 : Int32) (h : zHp) : l_X3_append_3 k46 a0 x1 (n + 1) x2 h = b_X3_append_3 k46 a0 x1 (l_X3_append_3 k46 a0 x1 n) x2 h := rfl
set_option maxHeartbeats 4000000 in
set_option maxRecDepth 100000 in
theorem wl_X3_append_3 {P : zX} {ro : Nat → Nat} {sz : Nat} (C : zC P cX3_append RX3 none 1 0 0 3 ro) {a0 : Nat} {x1 : Int32} {k46 : zHp → Option zHp} (hk46 : ∀ (h : zHp), zG P (zoV sz) (k46 h) 46 [] [] h sz 0 0) : ∀ (n : Nat) (x2 : Int32) (h : zHp), zG P (zoV sz) (l_X3_append_3 k46 a0 x1 n x2 h) 3 [(0, .ref a0), (1, .int x1), (2, .int x2)] [] h sz 0 0 := by
  intro n
  induction n with
  | zero =>
    intro x2 h
    show zG P (zoV sz) none _ _ _ _ _ _ _
    exact z_none
  | succ n ih =>
    intro x2 h
    show zG P (zoV sz) (b_X3_append_3 k46 a0 x1 (l_X3_append_3 k46 a0 x1 n) x2 h) _ _ _ _ _ _ _
    unfold b_X3_append_3
    refine z_iload_n C dX3_append_3 2 rfl ?_
    refine z_if_lt C 46 dX3_append_4 (by decide) ?_ ?_
    · exact z_sub [] rfl (hk46 _)
    refine z_aload_n C dX3_append_7 0 rfl ?_
    refine z_getI C zf_X3_15 dX3_append_8 (fun v1 => ?_)
    refine z_sipush C dX3_append_11 zsi_900 ?_
    refine z_icmp_ge C 40 dX3_append_14 (by decide) ?_ ?_
    · refine z_aload_n C dX3_append_17 0 rfl ?_
      refine z_getR C zf_X3_9 dX3_append_18 (fun r3 => ?_)
      refine z_aload_n C dX3_append_21 0 rfl ?_
      refine z_getI C zf_X3_15 dX3_append_22 (fun v4 => ?_)
      refine z_iload_n C dX3_append_25 1 rfl ?_
      refine z_iload_n C dX3_append_26 2 rfl ?_
      refine z_ishr C dX3_append_27 ?_
      refine z_i2b C dX3_append_28 ?_
      refine z_bastore C dX3_append_29 (fun h5 => ?_)
      refine z_aload_n C dX3_append_30 0 rfl ?_
      refine z_dup C dX3_append_31 rfl ?_
      refine z_getI C zf_X3_15 dX3_append_32 (fun v6 => ?_)
      refine z_iconst C dX3_append_35 zi_1 ?_
      refine z_iadd C dX3_append_36 ?_
      refine z_putI C zp_X3_15 dX3_append_37 (fun h7 => ?_)
      refine z_iincL C 2 (fun v8 => [(0, .ref a0), (1, .int x1), (2, .int v8)]) dX3_append_40 rfl zi_m8 (by decide) (fun _ => rfl) (fun v8 => ?_)
      refine z_goto C 3 dX3_append_43 (by decide) ?_
      exact ih _ _
    refine z_iincL C 2 (fun v2 => [(0, .ref a0), (1, .int x1), (2, .int v2)]) dX3_append_40 rfl zi_m8 (by decide) (fun _ => rfl) (fun v2 => ?_)
    refine z_goto C 3 dX3_append_43 (by decide) ?_
    exact ih _ _
noncomputable def f_X3_append (a0 : Nat) (x1 : Int32) (hp : zHp) : Option zHp :=
  (zis hp a0 3).bind fun _ => l_X3_append_3 (fun h9 => some h9) a0 x1 1000000 (24 : Int32) hp
set_option maxHeartbeats 4000000 in
set_option maxRecDepth 100000 in
theorem m_X3_append (l : Launch) (D : va_G) (tc : Nat → ClassId) (ro : Nat → Nat) (b0 : Nat) {a0 : Nat} {x1 : Int32} {hp : zHp} {sz : Nat} {r : zHp} (h : f_X3_append a0 x1 hp = some r) : zis hp a0 3 = some () ∧ zM l yX3_append cX3_append 3 none 1 0 0 [.ref a0, .int x1] D tc ro b0 hp sz ((zoV sz) r).1 ((zoV sz) r).2.1 ((zoV sz) r).2.2 := by
  refine ⟨?_, z_start (o := (zoV sz)) (lv := [(0, .ref a0), (1, .int x1)]) h (by decide +kernel) RX3 rfl rfl (Nat.le_of_ble_eq_true rfl) (fun P C => ?_)⟩
  · unfold f_X3_append at h
    cases hc : zis hp a0 3 with
    | none => rw [hc] at h; cases h
    | some u => rfl
  unfold f_X3_append
  refine z_is ?_
  refine z_bipush C dX3_append_0 zbi_24 ?_
  refine z_istore_n (lv' := [(0, .ref a0), (1, .int x1), (2, .int (24 : Int32))]) C dX3_append_2 (by decide) rfl ?_
  refine wl_X3_append_3 C (fun h9 => ?_) _ _ _
  exact z_return C dX3_append_46
noncomputable def f_X3_isBlank (x0 : Int32) (hp : zHp) : Option Int32 :=
  if x0 = (32 : Int32) then (some (1 : Int32)) else if x0 = (10 : Int32) then (some (1 : Int32)) else some (0 : Int32)
set_option maxHeartbeats 4000000 in
set_option maxRecDepth 100000 in
theorem m_X3_isBlank (l : Launch) (D : va_G) (tc : Nat → ClassId) (ro : Nat → Nat) (b0 : Nat) {x0 : Int32} {hp : zHp} {sz : Nat} {r : Int32} (h : f_X3_isBlank x0 hp = some r) : zM l yX3_isBlank cX3_isBlank 1 (some .boolean) 1 0 0 [.int x0] D tc ro b0 hp sz ((zoP sz hp) r).1 ((zoP sz hp) r).2.1 ((zoP sz hp) r).2.2 := by
  refine z_start (o := (zoP sz hp)) (lv := [(0, .int x0)]) h (by decide +kernel) RX3 rfl rfl (Nat.le_of_ble_eq_true rfl) (fun P C => ?_)
  unfold f_X3_isBlank
  refine z_iload_n C dX3_isBlank_0 0 rfl ?_
  refine z_bipush C dX3_isBlank_1 zbi_32 ?_
  refine z_icmp_eq C 12 dX3_isBlank_3 (by decide) ?_ ?_
  · refine z_iconst C dX3_isBlank_12 zi_1 ?_
    refine z_goto C 17 dX3_isBlank_13 (by decide) ?_
    exact z_kreturnP C rfl dX3_isBlank_17
  refine z_iload_n C dX3_isBlank_6 0 rfl ?_
  refine z_bipush C dX3_isBlank_7 zbi_10 ?_
  refine z_icmp_ne C 16 dX3_isBlank_9 (by decide) ?_ ?_
  · refine z_iconst C dX3_isBlank_12 zi_1 ?_
    refine z_goto C 17 dX3_isBlank_13 (by decide) ?_
    exact z_kreturnP C rfl dX3_isBlank_17
  refine z_iconst C dX3_isBlank_16 zi_0 ?_
  exact z_kreturnP C rfl dX3_isBlank_17
noncomputable def j_X3_kindOf_28 (x0 : Int32) (hp : zHp) : Option Int32 :=
  if x0 = (59 : Int32) then (some (3 : Int32)) else some (4 : Int32)
set_option maxHeartbeats 4000000 in
set_option maxRecDepth 100000 in
theorem wj_X3_kindOf_28 {P : zX} {ro : Nat → Nat} {sz : Nat} (C : zC P cX3_kindOf RX3 (some .int) 1 0 0 1 ro) {x0 : Int32} {hp : zHp}  : zG P (zoP sz hp) (j_X3_kindOf_28 x0 hp) 28 [(0, .int x0)] [] hp sz 0 0 := by
  unfold j_X3_kindOf_28
  refine z_iload_n C dX3_kindOf_28 0 rfl ?_
  refine z_bipush C dX3_kindOf_29 zbi_59 ?_
  refine z_icmp_ne C 38 dX3_kindOf_31 (by decide) ?_ ?_
  · refine z_iconst C dX3_kindOf_34 zi_3 ?_
    refine z_goto C 39 dX3_kindOf_35 (by decide) ?_
    exact z_ireturnP C dX3_kindOf_39
  refine z_iconst C dX3_kindOf_38 zi_4 ?_
  exact z_ireturnP C dX3_kindOf_39
noncomputable def j_X3_kindOf_14 (x0 : Int32) (hp : zHp) : Option Int32 :=
  if x0 < (48 : Int32) then (j_X3_kindOf_28 x0 hp) else if (57 : Int32) < x0 then (j_X3_kindOf_28 x0 hp) else some (2 : Int32)
set_option maxHeartbeats 4000000 in
set_option maxRecDepth 100000 in
theorem wj_X3_kindOf_14 {P : zX} {ro : Nat → Nat} {sz : Nat} (C : zC P cX3_kindOf RX3 (some .int) 1 0 0 1 ro) {x0 : Int32} {hp : zHp}  : zG P (zoP sz hp) (j_X3_kindOf_14 x0 hp) 14 [(0, .int x0)] [] hp sz 0 0 := by
  unfold j_X3_kindOf_14
  refine z_iload_n C dX3_kindOf_14 0 rfl ?_
  refine z_bipush C dX3_kindOf_15 zbi_48 ?_
  refine z_icmp_lt C 28 dX3_kindOf_17 (by decide) ?_ ?_
  · exact wj_X3_kindOf_28 C
  refine z_iload_n C dX3_kindOf_20 0 rfl ?_
  refine z_bipush C dX3_kindOf_21 zbi_57 ?_
  refine z_icmp_gt C 28 dX3_kindOf_23 (by decide) ?_ ?_
  · exact wj_X3_kindOf_28 C
  refine z_iconst C dX3_kindOf_26 zi_2 ?_
  exact z_ireturnP C dX3_kindOf_27
noncomputable def f_X3_kindOf (x0 : Int32) (hp : zHp) : Option Int32 :=
  if x0 < (97 : Int32) then (j_X3_kindOf_14 x0 hp) else if (122 : Int32) < x0 then (j_X3_kindOf_14 x0 hp) else some (1 : Int32)
set_option maxHeartbeats 4000000 in
set_option maxRecDepth 100000 in
theorem m_X3_kindOf (l : Launch) (D : va_G) (tc : Nat → ClassId) (ro : Nat → Nat) (b0 : Nat) {x0 : Int32} {hp : zHp} {sz : Nat} {r : Int32} (h : f_X3_kindOf x0 hp = some r) : zM l yX3_kindOf cX3_kindOf 1 (some .int) 1 0 0 [.int x0] D tc ro b0 hp sz ((zoP sz hp) r).1 ((zoP sz hp) r).2.1 ((zoP sz hp) r).2.2 := by
  refine z_start (o := (zoP sz hp)) (lv := [(0, .int x0)]) h (by decide +kernel) RX3 rfl rfl (Nat.le_of_ble_eq_true rfl) (fun P C => ?_)
  unfold f_X3_kindOf
  refine z_iload_n C dX3_kindOf_0 0 rfl ?_
  refine z_bipush C dX3_kindOf_1 zbi_97 ?_
  refine z_icmp_lt C 14 dX3_kindOf_3 (by decide) ?_ ?_
  · exact wj_X3_kindOf_14 C
  refine z_iload_n C dX3_kindOf_6 0 rfl ?_
  refine z_bipush C dX3_kindOf_7 zbi_122 ?_
  refine z_icmp_gt C 14 dX3_kindOf_9 (by decide) ?_ ?_
  · exact wj_X3_kindOf_14 C
  refine z_iconst C dX3_kindOf_12 zi_1 ?_
  exact z_ireturnP C dX3_kindOf_13
noncomputable def b_X3_next_8 (k47 : zHp → Option zHp) (a0 : Nat) (rec : zHp → Option zHp) (h : zHp) : Option zHp :=
  (zgI h a0 3 4).bind fun v3 => (zgI h a0 3 2).bind fun v4 => if v3 < v4 then ((zgR h a0 3 0).bind fun r5 => (zgI h a0 3 4).bind fun v6 => (zaI h 1 r5 v6).bind fun v7 => (f_X3_isBlank v7 h).bind fun v8 => if v8 = 0 then (k47 h) else (zgI h a0 3 4).bind fun v9 => (zpV h a0 3 4 (.int (v9 + (1 : Int32)))).bind fun h10 => rec h10) else k47 h
noncomputable def l_X3_next_8 (k47 : zHp → Option zHp) (a0 : Nat) (n : Nat) : zHp → Option zHp :=
  Nat.rec (motive := fun _ => zHp → Option zHp) (fun _ => none) (fun _ rec => b_X3_next_8 k47 a0 rec) n
theorem l_X3_next_8_s (k47 : zHp → Option zHp) (a0 : Nat) (n : Nat) (h : zHp) : l_X3_next_8 k47 a0 (n + 1) h = b_X3_next_8 k47 a0 (l_X3_next_8 k47 a0 n) h := rfl
set_option maxHeartbeats 4000000 in
set_option maxRecDepth 100000 in
theorem wl_X3_next_8 {P : zX} {ro : Nat → Nat} {sz : Nat} (C : zC P cX3_next RX3 none 2 0 0 2 ro) {a0 : Nat} {k47 : zHp → Option zHp} (hk47 : ∀ (h : zHp), zG P (zoV sz) (k47 h) 47 [(0, .ref a0)] [] h sz 0 0) : ∀ (n : Nat) (h : zHp), zG P (zoV sz) (l_X3_next_8 k47 a0 n h) 8 [(0, .ref a0)] [] h sz 0 0 := by
  intro n
  induction n with
  | zero =>
    intro h
    show zG P (zoV sz) none _ _ _ _ _ _ _
    exact z_none
  | succ n ih =>
    intro h
    show zG P (zoV sz) (b_X3_next_8 k47 a0 (l_X3_next_8 k47 a0 n) h) _ _ _ _ _ _ _
    unfold b_X3_next_8
    refine z_aload_n C dX3_next_8 0 rfl ?_
    refine z_getI C zf_X3_34 dX3_next_9 (fun v3 => ?_)
    refine z_aload_n C dX3_next_12 0 rfl ?_
    refine z_getI C zf_X3_25 dX3_next_13 (fun v4 => ?_)
    refine z_icmp_ge C 47 dX3_next_16 (by decide) ?_ ?_
    · refine z_aload_n C dX3_next_19 0 rfl ?_
      refine z_getR C zf_X3_9 dX3_next_20 (fun r5 => ?_)
      refine z_aload_n C dX3_next_23 0 rfl ?_
      refine z_getI C zf_X3_34 dX3_next_24 (fun v6 => ?_)
      refine z_baload C dX3_next_27 (fun v7 => ?_)
      refine z_callSp C zs_X3_37 [.int v7] (fun l D tc b0 r h => m_X3_isBlank l D tc ro b0 h) dX3_next_28 rfl rfl (Nat.le_of_ble_eq_true rfl) (by decide) (by decide) ⟨Nat.le_of_ble_eq_true rfl, Nat.le_of_ble_eq_true rfl⟩ (fun v8 => ?_)
      refine z_if_eq C 47 dX3_next_31 (by decide) ?_ ?_
      · exact hk47 _
      refine z_aload_n C dX3_next_34 0 rfl ?_
      refine z_dup C dX3_next_35 rfl ?_
      refine z_getI C zf_X3_34 dX3_next_36 (fun v9 => ?_)
      refine z_iconst C dX3_next_39 zi_1 ?_
      refine z_iadd C dX3_next_40 ?_
      refine z_putI C zp_X3_34 dX3_next_41 (fun h10 => ?_)
      refine z_goto C 8 dX3_next_44 (by decide) ?_
      exact ih _
    exact hk47 _
noncomputable def b_X3_next_124 (k171 : zHp → Option zHp) (a0 : Nat) (x1 : Int32) (rec : zHp → Option zHp) (h : zHp) : Option zHp :=
  if x1 = 0 then (k171 h) else (zgI h a0 3 5).bind fun v19 => (zgI h a0 3 2).bind fun v20 => if v19 < v20 then ((zgR h a0 3 0).bind fun r21 => (zgI h a0 3 5).bind fun v22 => (zaI h 1 r21 v22).bind fun v23 => (f_X3_kindOf v23 h).bind fun v24 => (zgI h a0 3 3).bind fun v25 => if v24 = v25 then ((zgI h a0 3 5).bind fun v26 => (zpV h a0 3 5 (.int (v26 + (1 : Int32)))).bind fun h27 => rec h27) else k171 h) else k171 h
noncomputable def l_X3_next_124 (k171 : zHp → Option zHp) (a0 : Nat) (x1 : Int32) (n : Nat) : zHp → Option zHp :=
  Nat.rec (motive := fun _ => zHp → Option zHp) (fun _ => none) (fun _ rec => b_X3_next_124 k171 a0 x1 rec) n
theorem l_X3_next_124_s (k171 : zHp → Option zHp) (a0 : Nat) (x1 : Int32) (n : Nat) (h : zHp) : l_X3_next_124 k171 a0 x1 (n + 1) h = b_X3_next_124 k171 a0 x1 (l_X3_next_124 k171 a0 x1 n) h := rfl
set_option maxHeartbeats 4000000 in
set_option maxRecDepth 100000 in
theorem wl_X3_next_124 {P : zX} {ro : Nat → Nat} {sz : Nat} (C : zC P cX3_next RX3 none 2 0 0 2 ro) {a0 : Nat} {x1 : Int32} {k171 : zHp → Option zHp} (hk171 : ∀ (h : zHp), zG P (zoV sz) (k171 h) 171 [] [] h sz 0 0) : ∀ (n : Nat) (h : zHp), zG P (zoV sz) (l_X3_next_124 k171 a0 x1 n h) 124 [(0, .ref a0), (1, .int x1)] [] h sz 0 0 := by
  intro n
  induction n with
  | zero =>
    intro h
    show zG P (zoV sz) none _ _ _ _ _ _ _
    exact z_none
  | succ n ih =>
    intro h
    show zG P (zoV sz) (b_X3_next_124 k171 a0 x1 (l_X3_next_124 k171 a0 x1 n) h) _ _ _ _ _ _ _
    unfold b_X3_next_124
    refine z_iload_n C dX3_next_124 1 rfl ?_
    refine z_if_eq C 171 dX3_next_125 (by decide) ?_ ?_
    · exact z_sub [] rfl (hk171 _)
    refine z_aload_n C dX3_next_128 0 rfl ?_
    refine z_getI C zf_X3_28 dX3_next_129 (fun v19 => ?_)
    refine z_aload_n C dX3_next_132 0 rfl ?_
    refine z_getI C zf_X3_25 dX3_next_133 (fun v20 => ?_)
    refine z_icmp_ge C 171 dX3_next_136 (by decide) ?_ ?_
    · refine z_aload_n C dX3_next_139 0 rfl ?_
      refine z_getR C zf_X3_9 dX3_next_140 (fun r21 => ?_)
      refine z_aload_n C dX3_next_143 0 rfl ?_
      refine z_getI C zf_X3_28 dX3_next_144 (fun v22 => ?_)
      refine z_baload C dX3_next_147 (fun v23 => ?_)
      refine z_callSp C zs_X3_41 [.int v23] (fun l D tc b0 r h => m_X3_kindOf l D tc ro b0 h) dX3_next_148 rfl rfl (Nat.le_of_ble_eq_true rfl) (by decide) (by decide) ⟨Nat.le_of_ble_eq_true rfl, Nat.le_of_ble_eq_true rfl⟩ (fun v24 => ?_)
      refine z_aload_n C dX3_next_151 0 rfl ?_
      refine z_getI C zf_X3_45 dX3_next_152 (fun v25 => ?_)
      refine z_icmp_ne C 171 dX3_next_155 (by decide) ?_ ?_
      · refine z_aload_n C dX3_next_158 0 rfl ?_
        refine z_dup C dX3_next_159 rfl ?_
        refine z_getI C zf_X3_28 dX3_next_160 (fun v26 => ?_)
        refine z_iconst C dX3_next_163 zi_1 ?_
        refine z_iadd C dX3_next_164 ?_
        refine z_putI C zp_X3_28 dX3_next_165 (fun h27 => ?_)
        refine z_goto C 124 dX3_next_168 (by decide) ?_
        exact ih _
      exact z_sub [] rfl (hk171 _)
    exact z_sub [] rfl (hk171 _)
noncomputable def j_X3_next_99 (a0 : Nat) (s0 : Nat) (s1 : Int32) (h : zHp) : Option zHp :=
  (zpV h s0 3 5 (.int s1)).bind fun h17 => (zgI h17 a0 3 3).bind fun v18 => if v18 = (1 : Int32) then (l_X3_next_124 (fun h28 => some h28) a0 (1 : Int32) 1000000 h17) else (zgI h17 a0 3 3).bind fun v29 => if v29 = (2 : Int32) then (l_X3_next_124 (fun h31 => some h31) a0 (1 : Int32) 1000000 h17) else l_X3_next_124 (fun h30 => some h30) a0 (0 : Int32) 1000000 h17
set_option maxHeartbeats 4000000 in
set_option maxRecDepth 100000 in
theorem wj_X3_next_99 {P : zX} {ro : Nat → Nat} {sz : Nat} (C : zC P cX3_next RX3 none 2 0 0 2 ro) {a0 : Nat} {s0 : Nat} {s1 : Int32} {h : zHp}  : zG P (zoV sz) (j_X3_next_99 a0 s0 s1 h) 99 [(0, .ref a0)] [.int s1, .ref s0] h sz 0 0 := by
  unfold j_X3_next_99
  refine z_putI C zp_X3_28 dX3_next_99 (fun h17 => ?_)
  refine z_aload_n C dX3_next_102 0 rfl ?_
  refine z_getI C zf_X3_45 dX3_next_103 (fun v18 => ?_)
  refine z_iconst C dX3_next_106 zi_1 ?_
  refine z_icmp_eq C 118 dX3_next_107 (by decide) ?_ ?_
  · refine z_iconst C dX3_next_118 zi_1 ?_
    refine z_goto C 123 dX3_next_119 (by decide) ?_
    refine z_istore_n (lv' := [(0, .ref a0), (1, .int (1 : Int32))]) C dX3_next_123 (by decide) rfl ?_
    refine wl_X3_next_124 C (fun h28 => ?_) _ _
    exact z_return C dX3_next_171
  refine z_aload_n C dX3_next_110 0 rfl ?_
  refine z_getI C zf_X3_45 dX3_next_111 (fun v29 => ?_)
  refine z_iconst C dX3_next_114 zi_2 ?_
  refine z_icmp_ne C 122 dX3_next_115 (by decide) ?_ ?_
  · refine z_iconst C dX3_next_118 zi_1 ?_
    refine z_goto C 123 dX3_next_119 (by decide) ?_
    refine z_istore_n (lv' := [(0, .ref a0), (1, .int (1 : Int32))]) C dX3_next_123 (by decide) rfl ?_
    refine wl_X3_next_124 C (fun h31 => ?_) _ _
    exact z_return C dX3_next_171
  refine z_iconst C dX3_next_122 zi_0 ?_
  refine z_istore_n (lv' := [(0, .ref a0), (1, .int (0 : Int32))]) C dX3_next_123 (by decide) rfl ?_
  refine wl_X3_next_124 C (fun h30 => ?_) _ _
  exact z_return C dX3_next_171
noncomputable def j_X3_next_75 (a0 : Nat) (s0 : Nat) (s1 : Int32) (h : zHp) : Option zHp :=
  (zpV h s0 3 3 (.int s1)).bind fun h14 => (zgI h14 a0 3 3).bind fun v15 => if v15 = 0 then ((zgI h14 a0 3 4).bind fun v32 => j_X3_next_99 a0 a0 v32 h14) else (zgI h14 a0 3 4).bind fun v16 => j_X3_next_99 a0 a0 (v16 + (1 : Int32)) h14
set_option maxHeartbeats 4000000 in
set_option maxRecDepth 100000 in
theorem wj_X3_next_75 {P : zX} {ro : Nat → Nat} {sz : Nat} (C : zC P cX3_next RX3 none 2 0 0 2 ro) {a0 : Nat} {s0 : Nat} {s1 : Int32} {h : zHp}  : zG P (zoV sz) (j_X3_next_75 a0 s0 s1 h) 75 [(0, .ref a0)] [.int s1, .ref s0] h sz 0 0 := by
  unfold j_X3_next_75
  refine z_putI C zp_X3_45 dX3_next_75 (fun h14 => ?_)
  refine z_aload_n C dX3_next_78 0 rfl ?_
  refine z_aload_n C dX3_next_79 0 rfl ?_
  refine z_getI C zf_X3_45 dX3_next_80 (fun v15 => ?_)
  refine z_if_ne C 93 dX3_next_83 (by decide) ?_ ?_
  · refine z_aload_n C dX3_next_86 0 rfl ?_
    refine z_getI C zf_X3_34 dX3_next_87 (fun v32 => ?_)
    refine z_goto C 99 dX3_next_90 (by decide) ?_
    exact wj_X3_next_99 C
  refine z_aload_n C dX3_next_93 0 rfl ?_
  refine z_getI C zf_X3_34 dX3_next_94 (fun v16 => ?_)
  refine z_iconst C dX3_next_97 zi_1 ?_
  refine z_iadd C dX3_next_98 ?_
  exact wj_X3_next_99 C
noncomputable def f_X3_next (a0 : Nat) (hp : zHp) : Option zHp :=
  (zis hp a0 3).bind fun _ => (zgI hp a0 3 5).bind fun v1 => (zpV hp a0 3 4 (.int v1)).bind fun h2 => l_X3_next_8 (fun h11 => (zgI h11 a0 3 4).bind fun v12 => (zgI h11 a0 3 2).bind fun v13 => if v12 < v13 then ((zgR h11 a0 3 0).bind fun r33 => (zgI h11 a0 3 4).bind fun v34 => (zaI h11 1 r33 v34).bind fun v35 => (f_X3_kindOf v35 h11).bind fun v36 => j_X3_next_75 a0 a0 v36 h11) else j_X3_next_75 a0 a0 (0 : Int32) h11) a0 1000000 h2
set_option maxHeartbeats 4000000 in
set_option maxRecDepth 100000 in
theorem m_X3_next (l : Launch) (D : va_G) (tc : Nat → ClassId) (ro : Nat → Nat) (b0 : Nat) {a0 : Nat} {hp : zHp} {sz : Nat} {r : zHp} (h : f_X3_next a0 hp = some r) : zis hp a0 3 = some () ∧ zM l yX3_next cX3_next 2 none 2 0 0 [.ref a0] D tc ro b0 hp sz ((zoV sz) r).1 ((zoV sz) r).2.1 ((zoV sz) r).2.2 := by
  refine ⟨?_, z_start (o := (zoV sz)) (lv := [(0, .ref a0)]) h (by decide +kernel) RX3 rfl rfl (Nat.le_of_ble_eq_true rfl) (fun P C => ?_)⟩
  · unfold f_X3_next at h
    cases hc : zis hp a0 3 with
    | none => rw [hc] at h; cases h
    | some u => rfl
  unfold f_X3_next
  refine z_is ?_
  refine z_aload_n C dX3_next_0 0 rfl ?_
  refine z_aload_n C dX3_next_1 0 rfl ?_
  refine z_getI C zf_X3_28 dX3_next_2 (fun v1 => ?_)
  refine z_putI C zp_X3_34 dX3_next_5 (fun h2 => ?_)
  refine wl_X3_next_8 C (fun h11 => ?_) _ _
  refine z_aload_n C dX3_next_47 0 rfl ?_
  refine z_aload_n C dX3_next_48 0 rfl ?_
  refine z_getI C zf_X3_34 dX3_next_49 (fun v12 => ?_)
  refine z_aload_n C dX3_next_52 0 rfl ?_
  refine z_getI C zf_X3_25 dX3_next_53 (fun v13 => ?_)
  refine z_icmp_ge C 74 dX3_next_56 (by decide) ?_ ?_
  · refine z_aload_n C dX3_next_59 0 rfl ?_
    refine z_getR C zf_X3_9 dX3_next_60 (fun r33 => ?_)
    refine z_aload_n C dX3_next_63 0 rfl ?_
    refine z_getI C zf_X3_34 dX3_next_64 (fun v34 => ?_)
    refine z_baload C dX3_next_67 (fun v35 => ?_)
    refine z_callSp C zs_X3_41 [.int v35] (fun l D tc b0 r h => m_X3_kindOf l D tc ro b0 h) dX3_next_68 rfl rfl (Nat.le_of_ble_eq_true rfl) (by decide) (by decide) ⟨Nat.le_of_ble_eq_true rfl, Nat.le_of_ble_eq_true rfl⟩ (fun v36 => ?_)
    refine z_goto C 75 dX3_next_71 (by decide) ?_
    exact wj_X3_next_75 C
  refine z_iconst C dX3_next_74 zi_0 ?_
  exact wj_X3_next_75 C
noncomputable def f_X3_beginText (a0 : Nat) (x1 : Int32) (hp : zHp) : Option zHp :=
  (zis hp a0 3).bind fun _ => (zpV hp a0 3 2 (.int (zmin x1 (900 : Int32)))).bind fun h1 => (zpV h1 a0 3 1 (.int (0 : Int32))).bind fun h2 => (zpV h2 a0 3 5 (.int (0 : Int32))).bind fun h3 => (f_X3_next a0 h3).bind fun h4 => some h4
set_option maxHeartbeats 4000000 in
set_option maxRecDepth 100000 in
theorem m_X3_beginText (l : Launch) (D : va_G) (tc : Nat → ClassId) (ro : Nat → Nat) (b0 : Nat) {a0 : Nat} {x1 : Int32} {hp : zHp} {sz : Nat} {r : zHp} (h : f_X3_beginText a0 x1 hp = some r) : zis hp a0 3 = some () ∧ zM l yX3_beginText cX3_beginText 2 none 3 0 0 [.ref a0, .int x1] D tc ro b0 hp sz ((zoV sz) r).1 ((zoV sz) r).2.1 ((zoV sz) r).2.2 := by
  refine ⟨?_, z_start (o := (zoV sz)) (lv := [(0, .ref a0), (1, .int x1)]) h (by decide +kernel) RX3 rfl rfl (Nat.le_of_ble_eq_true rfl) (fun P C => ?_)⟩
  · unfold f_X3_beginText at h
    cases hc : zis hp a0 3 with
    | none => rw [hc] at h; cases h
    | some u => rfl
  unfold f_X3_beginText
  refine z_is ?_
  refine z_aload_n C dX3_beginText_0 0 rfl ?_
  refine z_iload_n C dX3_beginText_1 1 rfl ?_
  refine z_sipush C dX3_beginText_2 zsi_900 ?_
  refine z_mmin C zm_X3_19 dX3_beginText_5 (Nat.le_of_ble_eq_true rfl) (by decide) ⟨Nat.le_of_ble_eq_true rfl, Nat.le_of_ble_eq_true rfl⟩ ?_
  refine z_putI C zp_X3_25 dX3_beginText_8 (fun h1 => ?_)
  refine z_aload_n C dX3_beginText_11 0 rfl ?_
  refine z_iconst C dX3_beginText_12 zi_0 ?_
  refine z_putI C zp_X3_15 dX3_beginText_13 (fun h2 => ?_)
  refine z_aload_n C dX3_beginText_16 0 rfl ?_
  refine z_iconst C dX3_beginText_17 zi_0 ?_
  refine z_putI C zp_X3_28 dX3_beginText_18 (fun h3 => ?_)
  refine z_aload_n C dX3_beginText_21 0 rfl ?_
  refine z_callVv C zc_X3_31 [] (fun l D tc b0 r h => m_X3_next l D tc ro b0 h) dX3_beginText_22 rfl rfl (Nat.le_of_ble_eq_true rfl) (by decide) (by decide) ⟨Nat.le_of_ble_eq_true rfl, Nat.le_of_ble_eq_true rfl⟩ (fun h4 => ?_)
  exact z_return C dX3_beginText_25
noncomputable def b_X3_spells_28 (k55 : Option Int32) (k63 : Option Int32) (a0 : Nat) (a1 : Nat) (hp : zHp) (rec : Int32 → Option Int32) (x2 : Int32) : Option Int32 :=
  (f_J0_length_8abf5 a1 hp).bind fun v5 => if x2 < v5 then ((zgR hp a0 3 0).bind fun r6 => (zgI hp a0 3 4).bind fun v7 => (zaI hp 1 r6 (v7 + x2)).bind fun v8 => (f_J0_charAt_5068e a1 x2 hp).bind fun v9 => if v8 = v9 then (zlet (x2 + (1 : Int32)) fun v10 => rec v10) else k55) else k63
noncomputable def l_X3_spells_28 (k55 : Option Int32) (k63 : Option Int32) (a0 : Nat) (a1 : Nat) (hp : zHp) (n : Nat) : Int32 → Option Int32 :=
  Nat.rec (motive := fun _ => Int32 → Option Int32) (fun _ => none) (fun _ rec => b_X3_spells_28 k55 k63 a0 a1 hp rec) n
theorem l_X3_spells_28_s (k55 : Option Int32) (k63 : Option Int32) (a0 : Nat) (a1 : Nat) (hp : zHp) (n : Nat) (x2 : Int32) : l_X3_spells_28 k55 k63 a0 a1 hp (n + 1) x2 = b_X3_spells_28 k55 k63 a0 a1 hp (l_X3_spells_28 k55 k63 a0 a1 hp n) x2 := rfl
set_option maxHeartbeats 4000000 in
set_option maxRecDepth 100000 in
theorem wl_X3_spells_28 {P : zX} {ro : Nat → Nat} {sz : Nat} (C : zC P cX3_spells RX3 (some .boolean) 5 0 0 3 ro) {a0 : Nat} {a1 : Nat} {hp : zHp} {k55 : Option Int32} (hk55 : zG P (zoP sz hp) (k55) 55 [] [] hp sz 0 0) {k63 : Option Int32} (hk63 : zG P (zoP sz hp) (k63) 63 [] [] hp sz 0 0) : ∀ (n : Nat) (x2 : Int32), zG P (zoP sz hp) (l_X3_spells_28 k55 k63 a0 a1 hp n x2) 28 [(0, .ref a0), (1, .ref a1), (2, .int x2)] [] hp sz 0 0 := by
  intro n
  induction n with
  | zero =>
    intro x2
    show zG P (zoP sz hp) none _ _ _ _ _ _ _
    exact z_none
  | succ n ih =>
    intro x2
    show zG P (zoP sz hp) (b_X3_spells_28 k55 k63 a0 a1 hp (l_X3_spells_28 k55 k63 a0 a1 hp n) x2) _ _ _ _ _ _ _
    unfold b_X3_spells_28
    refine z_iload_n C dX3_spells_28 2 rfl ?_
    refine z_aload_n C dX3_spells_29 1 rfl ?_
    refine z_callVp C zc_X3_48 [] (fun l D tc b0 r h => m_J0_length_8abf5 l D tc ro b0 h) dX3_spells_30 rfl rfl (Nat.le_of_ble_eq_true rfl) (by decide) (by decide) ⟨Nat.le_of_ble_eq_true rfl, Nat.le_of_ble_eq_true rfl⟩ (fun v5 => ?_)
    refine z_icmp_ge C 63 dX3_spells_33 (by decide) ?_ ?_
    · refine z_aload_n C dX3_spells_36 0 rfl ?_
      refine z_getR C zf_X3_9 dX3_spells_37 (fun r6 => ?_)
      refine z_aload_n C dX3_spells_40 0 rfl ?_
      refine z_getI C zf_X3_34 dX3_spells_41 (fun v7 => ?_)
      refine z_iload_n C dX3_spells_44 2 rfl ?_
      refine z_iadd C dX3_spells_45 ?_
      refine z_baload C dX3_spells_46 (fun v8 => ?_)
      refine z_aload_n C dX3_spells_47 1 rfl ?_
      refine z_iload_n C dX3_spells_48 2 rfl ?_
      refine z_callVp C zc_X3_53 [.int x2] (fun l D tc b0 r h => m_J0_charAt_5068e l D tc ro b0 h) dX3_spells_49 rfl rfl (Nat.le_of_ble_eq_true rfl) (by decide) (by decide) ⟨Nat.le_of_ble_eq_true rfl, Nat.le_of_ble_eq_true rfl⟩ (fun v9 => ?_)
      refine z_icmp_eq C 57 dX3_spells_52 (by decide) ?_ ?_
      · refine z_iincL C 2 (fun v10 => [(0, .ref a0), (1, .ref a1), (2, .int v10)]) dX3_spells_57 rfl zi_1 (by decide) (fun _ => rfl) (fun v10 => ?_)
        refine z_goto C 28 dX3_spells_60 (by decide) ?_
        exact ih _
      exact z_sub [] rfl (hk55)
    exact z_sub [] rfl (hk63)
noncomputable def f_X3_spells (a0 : Nat) (a1 : Nat) (hp : zHp) : Option Int32 :=
  (zis hp a0 3).bind fun _ => (zgI hp a0 3 3).bind fun v1 => if v1 = (1 : Int32) then ((zgI hp a0 3 5).bind fun v2 => (zgI hp a0 3 4).bind fun v3 => (f_J0_length_8abf5 a1 hp).bind fun v4 => if (v2 - v3) = v4 then (l_X3_spells_28 (some (0 : Int32)) (some (1 : Int32)) a0 a1 hp 1000000 (0 : Int32)) else some (0 : Int32)) else some (0 : Int32)
set_option maxHeartbeats 4000000 in
set_option maxRecDepth 100000 in
theorem m_X3_spells (l : Launch) (D : va_G) (tc : Nat → ClassId) (ro : Nat → Nat) (b0 : Nat) {a0 : Nat} {a1 : Nat} {hp : zHp} {sz : Nat} {r : Int32} (h : f_X3_spells a0 a1 hp = some r) : zis hp a0 3 = some () ∧ zM l yX3_spells cX3_spells 3 (some .boolean) 5 0 0 [.ref a0, .ref a1] D tc ro b0 hp sz ((zoP sz hp) r).1 ((zoP sz hp) r).2.1 ((zoP sz hp) r).2.2 := by
  refine ⟨?_, z_start (o := (zoP sz hp)) (lv := [(0, .ref a0), (1, .ref a1)]) h (by decide +kernel) RX3 rfl rfl (Nat.le_of_ble_eq_true rfl) (fun P C => ?_)⟩
  · unfold f_X3_spells at h
    cases hc : zis hp a0 3 with
    | none => rw [hc] at h; cases h
    | some u => rfl
  unfold f_X3_spells
  refine z_is ?_
  refine z_aload_n C dX3_spells_0 0 rfl ?_
  refine z_getI C zf_X3_45 dX3_spells_1 (fun v1 => ?_)
  refine z_iconst C dX3_spells_4 zi_1 ?_
  refine z_icmp_ne C 24 dX3_spells_5 (by decide) ?_ ?_
  · refine z_aload_n C dX3_spells_8 0 rfl ?_
    refine z_getI C zf_X3_28 dX3_spells_9 (fun v2 => ?_)
    refine z_aload_n C dX3_spells_12 0 rfl ?_
    refine z_getI C zf_X3_34 dX3_spells_13 (fun v3 => ?_)
    refine z_isub C dX3_spells_16 ?_
    refine z_aload_n C dX3_spells_17 1 rfl ?_
    refine z_callVp C zc_X3_48 [] (fun l D tc b0 r h => m_J0_length_8abf5 l D tc ro b0 h) dX3_spells_18 rfl rfl (Nat.le_of_ble_eq_true rfl) (by decide) (by decide) ⟨Nat.le_of_ble_eq_true rfl, Nat.le_of_ble_eq_true rfl⟩ (fun v4 => ?_)
    refine z_icmp_eq C 26 dX3_spells_21 (by decide) ?_ ?_
    · refine z_iconst C dX3_spells_26 zi_0 ?_
      refine z_istore_n (lv' := [(0, .ref a0), (1, .ref a1), (2, .int (0 : Int32))]) C dX3_spells_27 (by decide) rfl ?_
      refine wl_X3_spells_28 C ?_ ?_ _ _
      · refine z_iconst C dX3_spells_55 zi_0 ?_
        exact z_kreturnP C rfl dX3_spells_56
      refine z_iconst C dX3_spells_63 zi_1 ?_
      exact z_kreturnP C rfl dX3_spells_64
    refine z_iconst C dX3_spells_24 zi_0 ?_
    exact z_kreturnP C rfl dX3_spells_25
  refine z_iconst C dX3_spells_24 zi_0 ?_
  exact z_kreturnP C rfl dX3_spells_25
noncomputable def j_X3_isName_74 (ro : Nat → Nat) (a0 : Nat) (s0 : Int32) (hp : zHp) : Option Int32 :=
  if s0 = 0 then ((f_X3_spells a0 (ro 6) hp).bind fun v5 => if v5 = 0 then ((f_X3_spells a0 (ro 7) hp).bind fun v6 => if v6 = 0 then (some (1 : Int32)) else some (0 : Int32)) else some (0 : Int32)) else some (0 : Int32)
set_option maxHeartbeats 4000000 in
set_option maxRecDepth 100000 in
theorem wj_X3_isName_74 {P : zX} {ro : Nat → Nat} {sz : Nat} (C : zC P cX3_isName RX3 (some .boolean) 6 0 0 2 ro) {a0 : Nat} {s0 : Int32} {hp : zHp}  : zG P (zoP sz hp) (j_X3_isName_74 ro a0 s0 hp) 74 [(0, .ref a0)] [.int s0] hp sz 0 0 := by
  unfold j_X3_isName_74
  refine z_istore_n (lv' := [(0, .ref a0), (1, .int s0)]) C dX3_isName_74 (by decide) rfl ?_
  refine z_iload_n C dX3_isName_75 1 rfl ?_
  refine z_if_ne C 101 dX3_isName_76 (by decide) ?_ ?_
  · refine z_aload_n C dX3_isName_79 0 rfl ?_
    refine z_ldcS C 6 rfl dX3_isName_80 ?_
    refine z_callVp C zc_X3_59 [.ref (ro 6)] (fun l D tc b0 r h => m_X3_spells l D tc ro b0 h) dX3_isName_82 rfl rfl (Nat.le_of_ble_eq_true rfl) (by decide) (by decide) ⟨Nat.le_of_ble_eq_true rfl, Nat.le_of_ble_eq_true rfl⟩ (fun v5 => ?_)
    refine z_if_ne C 101 dX3_isName_85 (by decide) ?_ ?_
    · refine z_aload_n C dX3_isName_88 0 rfl ?_
      refine z_ldcS C 7 rfl dX3_isName_89 ?_
      refine z_callVp C zc_X3_59 [.ref (ro 7)] (fun l D tc b0 r h => m_X3_spells l D tc ro b0 h) dX3_isName_91 rfl rfl (Nat.le_of_ble_eq_true rfl) (by decide) (by decide) ⟨Nat.le_of_ble_eq_true rfl, Nat.le_of_ble_eq_true rfl⟩ (fun v6 => ?_)
      refine z_if_ne C 101 dX3_isName_94 (by decide) ?_ ?_
      · refine z_iconst C dX3_isName_97 zi_1 ?_
        refine z_goto C 102 dX3_isName_98 (by decide) ?_
        exact z_kreturnP C rfl dX3_isName_102
      refine z_iconst C dX3_isName_101 zi_0 ?_
      exact z_kreturnP C rfl dX3_isName_102
    refine z_iconst C dX3_isName_101 zi_0 ?_
    exact z_kreturnP C rfl dX3_isName_102
  refine z_iconst C dX3_isName_101 zi_0 ?_
  exact z_kreturnP C rfl dX3_isName_102
noncomputable def f_X3_isName (ro : Nat → Nat) (a0 : Nat) (hp : zHp) : Option Int32 :=
  (zis hp a0 3).bind fun _ => (zgI hp a0 3 3).bind fun v1 => if v1 = (1 : Int32) then ((zgI hp a0 3 5).bind fun v2 => (zgI hp a0 3 4).bind fun v3 => if (6 : Int32) < (v2 - v3) then (some (0 : Int32)) else (f_X3_spells a0 (ro 1) hp).bind fun v4 => if v4 = 0 then ((f_X3_spells a0 (ro 2) hp).bind fun v7 => if v7 = 0 then ((f_X3_spells a0 (ro 3) hp).bind fun v8 => if v8 = 0 then ((f_X3_spells a0 (ro 4) hp).bind fun v9 => if v9 = 0 then ((f_X3_spells a0 (ro 5) hp).bind fun v10 => if v10 = 0 then (j_X3_isName_74 ro a0 (0 : Int32) hp) else j_X3_isName_74 ro a0 (1 : Int32) hp) else j_X3_isName_74 ro a0 (1 : Int32) hp) else j_X3_isName_74 ro a0 (1 : Int32) hp) else j_X3_isName_74 ro a0 (1 : Int32) hp) else j_X3_isName_74 ro a0 (1 : Int32) hp) else some (0 : Int32)
set_option maxHeartbeats 4000000 in
set_option maxRecDepth 100000 in
theorem m_X3_isName (l : Launch) (D : va_G) (tc : Nat → ClassId) (ro : Nat → Nat) (b0 : Nat) {a0 : Nat} {hp : zHp} {sz : Nat} {r : Int32} (h : f_X3_isName ro a0 hp = some r) : zis hp a0 3 = some () ∧ zM l yX3_isName cX3_isName 2 (some .boolean) 6 0 0 [.ref a0] D tc ro b0 hp sz ((zoP sz hp) r).1 ((zoP sz hp) r).2.1 ((zoP sz hp) r).2.2 := by
  refine ⟨?_, z_start (o := (zoP sz hp)) (lv := [(0, .ref a0)]) h (by decide +kernel) RX3 rfl rfl (Nat.le_of_ble_eq_true rfl) (fun P C => ?_)⟩
  · unfold f_X3_isName at h
    cases hc : zis hp a0 3 with
    | none => rw [hc] at h; cases h
    | some u => rfl
  unfold f_X3_isName
  refine z_is ?_
  refine z_aload_n C dX3_isName_0 0 rfl ?_
  refine z_getI C zf_X3_45 dX3_isName_1 (fun v1 => ?_)
  refine z_iconst C dX3_isName_4 zi_1 ?_
  refine z_icmp_ne C 22 dX3_isName_5 (by decide) ?_ ?_
  · refine z_aload_n C dX3_isName_8 0 rfl ?_
    refine z_getI C zf_X3_28 dX3_isName_9 (fun v2 => ?_)
    refine z_aload_n C dX3_isName_12 0 rfl ?_
    refine z_getI C zf_X3_34 dX3_isName_13 (fun v3 => ?_)
    refine z_isub C dX3_isName_16 ?_
    refine z_bipush C dX3_isName_17 zbi_6 ?_
    refine z_icmp_le C 24 dX3_isName_19 (by decide) ?_ ?_
    · refine z_iconst C dX3_isName_22 zi_0 ?_
      exact z_kreturnP C rfl dX3_isName_23
    refine z_aload_n C dX3_isName_24 0 rfl ?_
    refine z_ldcS C 1 rfl dX3_isName_25 ?_
    refine z_callVp C zc_X3_59 [.ref (ro 1)] (fun l D tc b0 r h => m_X3_spells l D tc ro b0 h) dX3_isName_27 rfl rfl (Nat.le_of_ble_eq_true rfl) (by decide) (by decide) ⟨Nat.le_of_ble_eq_true rfl, Nat.le_of_ble_eq_true rfl⟩ (fun v4 => ?_)
    refine z_if_ne C 69 dX3_isName_30 (by decide) ?_ ?_
    · refine z_aload_n C dX3_isName_33 0 rfl ?_
      refine z_ldcS C 2 rfl dX3_isName_34 ?_
      refine z_callVp C zc_X3_59 [.ref (ro 2)] (fun l D tc b0 r h => m_X3_spells l D tc ro b0 h) dX3_isName_36 rfl rfl (Nat.le_of_ble_eq_true rfl) (by decide) (by decide) ⟨Nat.le_of_ble_eq_true rfl, Nat.le_of_ble_eq_true rfl⟩ (fun v7 => ?_)
      refine z_if_ne C 69 dX3_isName_39 (by decide) ?_ ?_
      · refine z_aload_n C dX3_isName_42 0 rfl ?_
        refine z_ldcS C 3 rfl dX3_isName_43 ?_
        refine z_callVp C zc_X3_59 [.ref (ro 3)] (fun l D tc b0 r h => m_X3_spells l D tc ro b0 h) dX3_isName_45 rfl rfl (Nat.le_of_ble_eq_true rfl) (by decide) (by decide) ⟨Nat.le_of_ble_eq_true rfl, Nat.le_of_ble_eq_true rfl⟩ (fun v8 => ?_)
        refine z_if_ne C 69 dX3_isName_48 (by decide) ?_ ?_
        · refine z_aload_n C dX3_isName_51 0 rfl ?_
          refine z_ldcS C 4 rfl dX3_isName_52 ?_
          refine z_callVp C zc_X3_59 [.ref (ro 4)] (fun l D tc b0 r h => m_X3_spells l D tc ro b0 h) dX3_isName_54 rfl rfl (Nat.le_of_ble_eq_true rfl) (by decide) (by decide) ⟨Nat.le_of_ble_eq_true rfl, Nat.le_of_ble_eq_true rfl⟩ (fun v9 => ?_)
          refine z_if_ne C 69 dX3_isName_57 (by decide) ?_ ?_
          · refine z_aload_n C dX3_isName_60 0 rfl ?_
            refine z_ldcS C 5 rfl dX3_isName_61 ?_
            refine z_callVp C zc_X3_59 [.ref (ro 5)] (fun l D tc b0 r h => m_X3_spells l D tc ro b0 h) dX3_isName_63 rfl rfl (Nat.le_of_ble_eq_true rfl) (by decide) (by decide) ⟨Nat.le_of_ble_eq_true rfl, Nat.le_of_ble_eq_true rfl⟩ (fun v10 => ?_)
            refine z_if_eq C 73 dX3_isName_66 (by decide) ?_ ?_
            · refine z_iconst C dX3_isName_73 zi_0 ?_
              exact wj_X3_isName_74 C
            refine z_iconst C dX3_isName_69 zi_1 ?_
            refine z_goto C 74 dX3_isName_70 (by decide) ?_
            exact wj_X3_isName_74 C
          refine z_iconst C dX3_isName_69 zi_1 ?_
          refine z_goto C 74 dX3_isName_70 (by decide) ?_
          exact wj_X3_isName_74 C
        refine z_iconst C dX3_isName_69 zi_1 ?_
        refine z_goto C 74 dX3_isName_70 (by decide) ?_
        exact wj_X3_isName_74 C
      refine z_iconst C dX3_isName_69 zi_1 ?_
      refine z_goto C 74 dX3_isName_70 (by decide) ?_
      exact wj_X3_isName_74 C
    refine z_iconst C dX3_isName_69 zi_1 ?_
    refine z_goto C 74 dX3_isName_70 (by decide) ?_
    exact wj_X3_isName_74 C
  refine z_iconst C dX3_isName_22 zi_0 ?_
  exact z_kreturnP C rfl dX3_isName_23
noncomputable def j_X3_packed_43 (k56 : Int32 → Option Int32) (rec : Int32 → Int32 → Option Int32) (a0 : Nat) (x1 : Int32) (x2 : Int32) (s0 : Int32) (hp : zHp) : Option Int32 :=
  zlet ((x1 <<< ((5 : Int32) &&& 31)) ||| s0) fun v3 => zlet (x2 + (1 : Int32)) fun v4 => rec v3 v4
set_option maxHeartbeats 4000000 in
set_option maxRecDepth 100000 in
theorem wj_X3_packed_43 {P : zX} {ro : Nat → Nat} {sz : Nat} (C : zC P cX3_packed RX3 (some .int) 1 0 0 4 ro) {a0 : Nat} {x1 : Int32} {x2 : Int32} {s0 : Int32} {hp : zHp} {k56 : Int32 → Option Int32} (hk56 : ∀ (x1 : Int32), zG P (zoP sz hp) (k56 x1) 56 [(1, .int x1)] [] hp sz 0 0) {rec : Int32 → Int32 → Option Int32} (hrec : ∀ (x1 : Int32) (x2 : Int32), zG P (zoP sz hp) (rec x1 x2) 4 [(0, .ref a0), (1, .int x1), (2, .int x2)] [] hp sz 0 0) : zG P (zoP sz hp) (j_X3_packed_43 k56 rec a0 x1 x2 s0 hp) 43 [(0, .ref a0), (1, .int x1), (2, .int x2)] [.int s0] hp sz 0 0 := by
  unfold j_X3_packed_43
  refine z_istore_n (lv' := [(0, .ref a0), (1, .int x1), (2, .int x2), (3, .int s0)]) C dX3_packed_43 (by decide) rfl ?_
  refine z_iload_n C dX3_packed_44 1 rfl ?_
  refine z_iconst C dX3_packed_45 zi_5 ?_
  refine z_ishl C dX3_packed_46 ?_
  refine z_iload_n C dX3_packed_47 3 rfl ?_
  refine z_ior C dX3_packed_48 ?_
  refine z_istore_nL C (fun v3 => [(0, .ref a0), (1, .int v3), (2, .int x2), (3, .int s0)]) dX3_packed_49 (by decide) (fun _ => rfl) (fun v3 => ?_)
  refine z_iincL C 2 (fun v4 => [(0, .ref a0), (1, .int v3), (2, .int v4), (3, .int s0)]) dX3_packed_50 rfl zi_1 (by decide) (fun _ => rfl) (fun v4 => ?_)
  refine z_goto C 4 dX3_packed_53 (by decide) ?_
  exact z_sub [0, 1, 2] rfl (hrec _ _)
noncomputable def b_X3_packed_4 (k56 : Int32 → Option Int32) (a0 : Nat) (hp : zHp) (rec : Int32 → Int32 → Option Int32) (x1 : Int32) (x2 : Int32) : Option Int32 :=
  if x2 < (6 : Int32) then ((zgI hp a0 3 4).bind fun v1 => (zgI hp a0 3 5).bind fun v2 => if (v1 + x2) < v2 then ((zgR hp a0 3 0).bind fun r5 => (zgI hp a0 3 4).bind fun v6 => (zaI hp 1 r5 (v6 + x2)).bind fun v7 => j_X3_packed_43 k56 rec a0 x1 x2 ((v7 - (97 : Int32)) + (1 : Int32)) hp) else j_X3_packed_43 k56 rec a0 x1 x2 (0 : Int32) hp) else k56 x1
noncomputable def l_X3_packed_4 (k56 : Int32 → Option Int32) (a0 : Nat) (hp : zHp) (n : Nat) : Int32 → Int32 → Option Int32 :=
  Nat.rec (motive := fun _ => Int32 → Int32 → Option Int32) (fun _ _ => none) (fun _ rec => b_X3_packed_4 k56 a0 hp rec) n
theorem l_X3_packed_4_s (k56 : Int32 → Option Int32) (a0 : Nat) (hp : zHp) (n : Nat) (x1 : Int32) (x2 : Int32) : l_X3_packed_4 k56 a0 hp (n + 1) x1 x2 = b_X3_packed_4 k56 a0 hp (l_X3_packed_4 k56 a0 hp n) x1 x2 := rfl
set_option maxHeartbeats 4000000 in
set_option maxRecDepth 100000 in
theorem wl_X3_packed_4 {P : zX} {ro : Nat → Nat} {sz : Nat} (C : zC P cX3_packed RX3 (some .int) 1 0 0 4 ro) {a0 : Nat} {hp : zHp} {k56 : Int32 → Option Int32} (hk56 : ∀ (x1 : Int32), zG P (zoP sz hp) (k56 x1) 56 [(1, .int x1)] [] hp sz 0 0) : ∀ (n : Nat) (x1 : Int32) (x2 : Int32), zG P (zoP sz hp) (l_X3_packed_4 k56 a0 hp n x1 x2) 4 [(0, .ref a0), (1, .int x1), (2, .int x2)] [] hp sz 0 0 := by
  intro n
  induction n with
  | zero =>
    intro x1 x2
    show zG P (zoP sz hp) none _ _ _ _ _ _ _
    exact z_none
  | succ n ih =>
    intro x1 x2
    show zG P (zoP sz hp) (b_X3_packed_4 k56 a0 hp (l_X3_packed_4 k56 a0 hp n) x1 x2) _ _ _ _ _ _ _
    unfold b_X3_packed_4
    refine z_iload_n C dX3_packed_4 2 rfl ?_
    refine z_bipush C dX3_packed_5 zbi_6 ?_
    refine z_icmp_ge C 56 dX3_packed_7 (by decide) ?_ ?_
    · refine z_aload_n C dX3_packed_10 0 rfl ?_
      refine z_getI C zf_X3_34 dX3_packed_11 (fun v1 => ?_)
      refine z_iload_n C dX3_packed_14 2 rfl ?_
      refine z_iadd C dX3_packed_15 ?_
      refine z_aload_n C dX3_packed_16 0 rfl ?_
      refine z_getI C zf_X3_28 dX3_packed_17 (fun v2 => ?_)
      refine z_icmp_ge C 42 dX3_packed_20 (by decide) ?_ ?_
      · refine z_aload_n C dX3_packed_23 0 rfl ?_
        refine z_getR C zf_X3_9 dX3_packed_24 (fun r5 => ?_)
        refine z_aload_n C dX3_packed_27 0 rfl ?_
        refine z_getI C zf_X3_34 dX3_packed_28 (fun v6 => ?_)
        refine z_iload_n C dX3_packed_31 2 rfl ?_
        refine z_iadd C dX3_packed_32 ?_
        refine z_baload C dX3_packed_33 (fun v7 => ?_)
        refine z_bipush C dX3_packed_34 zbi_97 ?_
        refine z_isub C dX3_packed_36 ?_
        refine z_iconst C dX3_packed_37 zi_1 ?_
        refine z_iadd C dX3_packed_38 ?_
        refine z_goto C 43 dX3_packed_39 (by decide) ?_
        exact wj_X3_packed_43 C hk56 ih
      refine z_iconst C dX3_packed_42 zi_0 ?_
      exact wj_X3_packed_43 C hk56 ih
    exact z_sub [1] rfl (hk56 _)
noncomputable def f_X3_packed (a0 : Nat) (hp : zHp) : Option Int32 :=
  (zis hp a0 3).bind fun _ => l_X3_packed_4 (fun p8 => some p8) a0 hp 1000000 (0 : Int32) (0 : Int32)
set_option maxHeartbeats 4000000 in
set_option maxRecDepth 100000 in
theorem m_X3_packed (l : Launch) (D : va_G) (tc : Nat → ClassId) (ro : Nat → Nat) (b0 : Nat) {a0 : Nat} {hp : zHp} {sz : Nat} {r : Int32} (h : f_X3_packed a0 hp = some r) : zis hp a0 3 = some () ∧ zM l yX3_packed cX3_packed 4 (some .int) 1 0 0 [.ref a0] D tc ro b0 hp sz ((zoP sz hp) r).1 ((zoP sz hp) r).2.1 ((zoP sz hp) r).2.2 := by
  refine ⟨?_, z_start (o := (zoP sz hp)) (lv := [(0, .ref a0)]) h (by decide +kernel) RX3 rfl rfl (Nat.le_of_ble_eq_true rfl) (fun P C => ?_)⟩
  · unfold f_X3_packed at h
    cases hc : zis hp a0 3 with
    | none => rw [hc] at h; cases h
    | some u => rfl
  unfold f_X3_packed
  refine z_is ?_
  refine z_iconst C dX3_packed_0 zi_0 ?_
  refine z_istore_n (lv' := [(0, .ref a0), (1, .int (0 : Int32))]) C dX3_packed_1 (by decide) rfl ?_
  refine z_iconst C dX3_packed_2 zi_0 ?_
  refine z_istore_n (lv' := [(0, .ref a0), (1, .int (0 : Int32)), (2, .int (0 : Int32))]) C dX3_packed_3 (by decide) rfl ?_
  refine wl_X3_packed_4 C (fun p8 => ?_) _ _ _
  refine z_iload_n C dX3_packed_56 0 rfl ?_
  exact z_ireturnP C dX3_packed_57
noncomputable def b_X3_value_7 (k41 : Int32 → Option Int32) (a0 : Nat) (hp : zHp) (rec : Int32 → Int32 → Option Int32) (x1 : Int32) (x2 : Int32) : Option Int32 :=
  (zgI hp a0 3 5).bind fun v2 => if x2 < v2 then ((zgR hp a0 3 0).bind fun r3 => (zaI hp 1 r3 x2).bind fun v4 => zlet (zmin (((x1 * (10 : Int32)) + v4) - (48 : Int32)) (99999 : Int32)) fun v5 => zlet (x2 + (1 : Int32)) fun v6 => rec v5 v6) else k41 x1
noncomputable def l_X3_value_7 (k41 : Int32 → Option Int32) (a0 : Nat) (hp : zHp) (n : Nat) : Int32 → Int32 → Option Int32 :=
  Nat.rec (motive := fun _ => Int32 → Int32 → Option Int32) (fun _ _ => none) (fun _ rec => b_X3_value_7 k41 a0 hp rec) n
theorem l_X3_value_7_s (k41 : Int32 → Option Int32) (a0 : Nat) (hp : zHp) (n : Nat) (x1 : Int32) (x2 : Int32) : l_X3_value_7 k41 a0 hp (n + 1) x1 x2 = b_X3_value_7 k41 a0 hp (l_X3_value_7 k41 a0 hp n) x1 x2 := rfl
set_option maxHeartbeats 4000000 in
set_option maxRecDepth 100000 in
theorem wl_X3_value_7 {P : zX} {ro : Nat → Nat} {sz : Nat} (C : zC P cX3_value RX3 (some .int) 1 0 0 3 ro) {a0 : Nat} {hp : zHp} {k41 : Int32 → Option Int32} (hk41 : ∀ (x1 : Int32), zG P (zoP sz hp) (k41 x1) 41 [(1, .int x1)] [] hp sz 0 0) : ∀ (n : Nat) (x1 : Int32) (x2 : Int32), zG P (zoP sz hp) (l_X3_value_7 k41 a0 hp n x1 x2) 7 [(0, .ref a0), (1, .int x1), (2, .int x2)] [] hp sz 0 0 := by
  intro n
  induction n with
  | zero =>
    intro x1 x2
    show zG P (zoP sz hp) none _ _ _ _ _ _ _
    exact z_none
  | succ n ih =>
    intro x1 x2
    show zG P (zoP sz hp) (b_X3_value_7 k41 a0 hp (l_X3_value_7 k41 a0 hp n) x1 x2) _ _ _ _ _ _ _
    unfold b_X3_value_7
    refine z_iload_n C dX3_value_7 2 rfl ?_
    refine z_aload_n C dX3_value_8 0 rfl ?_
    refine z_getI C zf_X3_28 dX3_value_9 (fun v2 => ?_)
    refine z_icmp_ge C 41 dX3_value_12 (by decide) ?_ ?_
    · refine z_iload_n C dX3_value_15 1 rfl ?_
      refine z_bipush C dX3_value_16 zbi_10 ?_
      refine z_imul C dX3_value_18 ?_
      refine z_aload_n C dX3_value_19 0 rfl ?_
      refine z_getR C zf_X3_9 dX3_value_20 (fun r3 => ?_)
      refine z_iload_n C dX3_value_23 2 rfl ?_
      refine z_baload C dX3_value_24 (fun v4 => ?_)
      refine z_iadd C dX3_value_25 ?_
      refine z_bipush C dX3_value_26 zbi_48 ?_
      refine z_isub C dX3_value_28 ?_
      refine z_ldcI C zk_X3_75 dX3_value_29 ?_
      refine z_mmin C zm_X3_19 dX3_value_31 (Nat.le_of_ble_eq_true rfl) (by decide) ⟨Nat.le_of_ble_eq_true rfl, Nat.le_of_ble_eq_true rfl⟩ ?_
      refine z_istore_nL C (fun v5 => [(0, .ref a0), (1, .int v5), (2, .int x2)]) dX3_value_34 (by decide) (fun _ => rfl) (fun v5 => ?_)
      refine z_iincL C 2 (fun v6 => [(0, .ref a0), (1, .int v5), (2, .int v6)]) dX3_value_35 rfl zi_1 (by decide) (fun _ => rfl) (fun v6 => ?_)
      refine z_goto C 7 dX3_value_38 (by decide) ?_
      exact ih _ _
    exact z_sub [1] rfl (hk41 _)
noncomputable def f_X3_value (a0 : Nat) (hp : zHp) : Option Int32 :=
  (zis hp a0 3).bind fun _ => (zgI hp a0 3 4).bind fun v1 => l_X3_value_7 (fun p7 => some p7) a0 hp 1000000 (0 : Int32) v1
set_option maxHeartbeats 4000000 in
set_option maxRecDepth 100000 in
theorem m_X3_value (l : Launch) (D : va_G) (tc : Nat → ClassId) (ro : Nat → Nat) (b0 : Nat) {a0 : Nat} {hp : zHp} {sz : Nat} {r : Int32} (h : f_X3_value a0 hp = some r) : zis hp a0 3 = some () ∧ zM l yX3_value cX3_value 3 (some .int) 1 0 0 [.ref a0] D tc ro b0 hp sz ((zoP sz hp) r).1 ((zoP sz hp) r).2.1 ((zoP sz hp) r).2.2 := by
  refine ⟨?_, z_start (o := (zoP sz hp)) (lv := [(0, .ref a0)]) h (by decide +kernel) RX3 rfl rfl (Nat.le_of_ble_eq_true rfl) (fun P C => ?_)⟩
  · unfold f_X3_value at h
    cases hc : zis hp a0 3 with
    | none => rw [hc] at h; cases h
    | some u => rfl
  unfold f_X3_value
  refine z_is ?_
  refine z_iconst C dX3_value_0 zi_0 ?_
  refine z_istore_n (lv' := [(0, .ref a0), (1, .int (0 : Int32))]) C dX3_value_1 (by decide) rfl ?_
  refine z_aload_n C dX3_value_2 0 rfl ?_
  refine z_getI C zf_X3_34 dX3_value_3 (fun v1 => ?_)
  refine z_istore_n (lv' := [(0, .ref a0), (1, .int (0 : Int32)), (2, .int v1)]) C dX3_value_6 (by decide) rfl ?_
  refine wl_X3_value_7 C (fun p7 => ?_) _ _ _
  refine z_iload_n C dX3_value_41 0 rfl ?_
  exact z_ireturnP C dX3_value_42
noncomputable def f_X4_init (mc ms : Nat) (a0 : Nat) (hp : zHp) (sz : Nat) : Option (zHp × Nat) :=
  zchk (0 + 1 ≤ mc ∧ 0 + 6 ≤ ms) <| zlet (zup hp sz (.inr (3, [.null, .int 0, .int 0, .int 0, .int 0, .int 0]))) fun h2 => zchk ((0 + 1) + 1 ≤ mc ∧ (0 + 6) + 900 ≤ ms) <| zb2 (f_X3_init 1 900 sz h2 ((sz + 1))) fun h4 z5 => (zpV h4 a0 4 0 (.ref sz)).bind fun h6 => zchk (((0 + 1) + 1) + 1 ≤ mc ∧ ((0 + 6) + 900) + 10 ≤ ms) <| zlet (zup h6 z5 (.inr (5, [.null, .null, .null, .null, .null, .null, .null, .null, .null, .null]))) fun h8 => zchk ((((0 + 1) + 1) + 1) + 27 ≤ mc ∧ (((0 + 6) + 900) + 10) + 207 ≤ ms) <| zb2 (f_X5_init 27 207 z5 h8 ((z5 + 1))) fun h10 z11 => (zpV h10 a0 4 1 (.ref z5)).bind fun h12 => (zpV h12 a0 4 3 (.int (-1 : Int32))).bind fun h13 => some (h13, z11)
set_option maxHeartbeats 4000000 in
set_option maxRecDepth 100000 in
theorem m_X4_init (l : Launch) (D : va_G) (tc : Nat → ClassId) (ro : Nat → Nat) (b0 : Nat) {mc ms : Nat} {a0 : Nat} {hp : zHp} {sz : Nat} {r : (zHp × Nat)} (h : f_X4_init mc ms a0 hp sz = some r) : zM l yX4_init cX4_init 1 none 2 mc ms [.ref a0] D tc ro b0 hp sz (zoVA r).1 (zoVA r).2.1 (zoVA r).2.2 := by
  refine z_startI (o := zoVA) (lv := [(0, .ref a0)]) h (by decide +kernel) RX4 rfl rfl rfl (Nat.le_of_ble_eq_true rfl) (fun P C CI => ?_)
  unfold f_X4_init
  refine z_aload_n C dX4_init_0 0 rfl ?_
  refine z_objInit C zo_X4_3 dX4_init_1 (by decide) (Nat.le_of_ble_eq_true rfl) ?_
  refine z_aload_n C dX4_init_4 0 rfl ?_
  refine z_chk (fun q1 => ?_)
  refine z_new C za_X4_9 dX4_init_5 q1 (fun h2 => ?_)
  refine z_dup C dX4_init_8 rfl ?_
  refine z_chk (fun q3 => ?_)
  refine z_callI C (Or.inr ⟨_, zci_X4_11⟩) [] (fun l D tc b0 r h => m_X3_init l D tc ro b0 h) dX4_init_9 rfl rfl (Nat.le_of_ble_eq_true rfl) (by decide) (by decide) q3 (fun h4 z5 => ?_)
  refine z_putF C CI zpf_X4_12 rfl rfl dX4_init_12 (fun h6 => ?_)
  refine z_aload_n C dX4_init_15 0 rfl ?_
  refine z_chk (fun q7 => ?_)
  refine z_new C za_X4_18 dX4_init_16 q7 (fun h8 => ?_)
  refine z_dup C dX4_init_19 rfl ?_
  refine z_chk (fun q9 => ?_)
  refine z_callI C (Or.inr ⟨_, zci_X4_20⟩) [] (fun l D tc b0 r h => m_X5_init l D tc ro b0 h) dX4_init_20 rfl rfl (Nat.le_of_ble_eq_true rfl) (by decide) (by decide) q9 (fun h10 z11 => ?_)
  refine z_putR C zp_X4_21 rfl rfl dX4_init_23 (fun h12 => ?_)
  refine z_aload_n C dX4_init_26 0 rfl ?_
  refine z_iconst C dX4_init_27 zi_m1 ?_
  refine z_putI C zp_X4_25 dX4_init_28 (fun h13 => ?_)
  exact z_returnA C dX4_init_31 q9
noncomputable def f_X4_exchange (a0 : Nat) (a1 : Nat) (hp : zHp) : Option (Nat × zHp) :=
  (zis hp a0 4).bind fun _ => (zgR hp a0 4 1).bind fun r1 => (zpV hp a0 4 1 (.ref a1)).bind fun h2 => some (r1, h2)
set_option maxHeartbeats 4000000 in
set_option maxRecDepth 100000 in
theorem m_X4_exchange (l : Launch) (D : va_G) (tc : Nat → ClassId) (ro : Nat → Nat) (b0 : Nat) {a0 : Nat} {a1 : Nat} {hp : zHp} {sz : Nat} {r : (Nat × zHp)} (h : f_X4_exchange a0 a1 hp = some r) : zis hp a0 4 = some () ∧ zM l yX4_exchange cX4_exchange 3 (some (.object "CountHall$Plan")) 1 0 0 [.ref a0, .ref a1] D tc ro b0 hp sz ((zoR sz) r).1 ((zoR sz) r).2.1 ((zoR sz) r).2.2 := by
  refine ⟨?_, z_start (o := (zoR sz)) (lv := [(0, .ref a0), (1, .ref a1)]) h (by decide +kernel) RX4 rfl rfl (Nat.le_of_ble_eq_true rfl) (fun P C => ?_)⟩
  · unfold f_X4_exchange at h
    cases hc : zis hp a0 4 with
    | none => rw [hc] at h; cases h
    | some u => rfl
  unfold f_X4_exchange
  refine z_is ?_
  refine z_aload_n C dX4_exchange_0 0 rfl ?_
  refine z_getR C zf_X4_21 dX4_exchange_1 (fun r1 => ?_)
  refine z_astore_n (lv' := [(0, .ref a0), (1, .ref a1), (2, .ref r1)]) C dX4_exchange_4 (by decide) rfl ?_
  refine z_aload_n C dX4_exchange_5 0 rfl ?_
  refine z_aload_n C dX4_exchange_6 1 rfl ?_
  refine z_putR C zp_X4_21 rfl rfl dX4_exchange_7 (fun h2 => ?_)
  refine z_aload_n C dX4_exchange_10 2 rfl ?_
  exact z_areturn C (Or.inl ⟨_, rfl⟩) dX4_exchange_11
noncomputable def b_X5_clear_2 (k20 : zHp → Option zHp) (a0 : Nat) (rec : Int32 → zHp → Option zHp) (x1 : Int32) (h : zHp) : Option zHp :=
  if x1 < (5 : Int32) then ((zgR h a0 5 0).bind fun r1 => (zsI h r1 x1 (0 : Int32)).bind fun h2 => zlet (x1 + (1 : Int32)) fun v3 => rec v3 h2) else k20 h
noncomputable def l_X5_clear_2 (k20 : zHp → Option zHp) (a0 : Nat) (n : Nat) : Int32 → zHp → Option zHp :=
  Nat.rec (motive := fun _ => Int32 → zHp → Option zHp) (fun _ _ => none) (fun _ rec => b_X5_clear_2 k20 a0 rec) n
theorem l_X5_clear_2_s (k20 : zHp → Option zHp) (a0 : Nat) (n : Nat) (x1 : Int32) (h : zHp) : l_X5_clear_2 k20 a0 (n + 1) x1 h = b_X5_clear_2 k20 a0 (l_X5_clear_2 k20 a0 n) x1 h := rfl
set_option maxHeartbeats 4000000 in
set_option maxRecDepth 100000 in
theorem wl_X5_clear_2 {P : zX} {ro : Nat → Nat} {sz : Nat} (C : zC P cX5_clear RX5 none 1 0 0 2 ro) {a0 : Nat} {k20 : zHp → Option zHp} (hk20 : ∀ (h : zHp), zG P (zoV sz) (k20 h) 20 [(0, .ref a0)] [] h sz 0 0) : ∀ (n : Nat) (x1 : Int32) (h : zHp), zG P (zoV sz) (l_X5_clear_2 k20 a0 n x1 h) 2 [(0, .ref a0), (1, .int x1)] [] h sz 0 0 := by
  intro n
  induction n with
  | zero =>
    intro x1 h
    show zG P (zoV sz) none _ _ _ _ _ _ _
    exact z_none
  | succ n ih =>
    intro x1 h
    show zG P (zoV sz) (b_X5_clear_2 k20 a0 (l_X5_clear_2 k20 a0 n) x1 h) _ _ _ _ _ _ _
    unfold b_X5_clear_2
    refine z_iload_n C dX5_clear_2 1 rfl ?_
    refine z_iconst C dX5_clear_3 zi_5 ?_
    refine z_icmp_ge C 20 dX5_clear_4 (by decide) ?_ ?_
    · refine z_aload_n C dX5_clear_7 0 rfl ?_
      refine z_getR C zf_X5_9 dX5_clear_8 (fun r1 => ?_)
      refine z_iload_n C dX5_clear_11 1 rfl ?_
      refine z_iconst C dX5_clear_12 zi_0 ?_
      refine z_iastore C dX5_clear_13 (fun h2 => ?_)
      refine z_iincL C 1 (fun v3 => [(0, .ref a0), (1, .int v3)]) dX5_clear_14 rfl zi_1 (by decide) (fun _ => rfl) (fun v3 => ?_)
      refine z_goto C 2 dX5_clear_17 (by decide) ?_
      exact ih _ _
    exact z_sub [0] rfl (hk20 _)
noncomputable def f_X5_clear (a0 : Nat) (hp : zHp) : Option zHp :=
  (zis hp a0 5).bind fun _ => l_X5_clear_2 (fun h4 => (zgR h4 a0 5 9).bind fun r5 => (zsI h4 r5 (0 : Int32) (5 : Int32)).bind fun h6 => (zgR h6 a0 5 9).bind fun r7 => (zsI h6 r7 (1 : Int32) (0 : Int32)).bind fun h8 => some h8) a0 1000000 (0 : Int32) hp
set_option maxHeartbeats 4000000 in
set_option maxRecDepth 100000 in
theorem m_X5_clear (l : Launch) (D : va_G) (tc : Nat → ClassId) (ro : Nat → Nat) (b0 : Nat) {a0 : Nat} {hp : zHp} {sz : Nat} {r : zHp} (h : f_X5_clear a0 hp = some r) : zis hp a0 5 = some () ∧ zM l yX5_clear cX5_clear 2 none 1 0 0 [.ref a0] D tc ro b0 hp sz ((zoV sz) r).1 ((zoV sz) r).2.1 ((zoV sz) r).2.2 := by
  refine ⟨?_, z_start (o := (zoV sz)) (lv := [(0, .ref a0)]) h (by decide +kernel) RX5 rfl rfl (Nat.le_of_ble_eq_true rfl) (fun P C => ?_)⟩
  · unfold f_X5_clear at h
    cases hc : zis hp a0 5 with
    | none => rw [hc] at h; cases h
    | some u => rfl
  unfold f_X5_clear
  refine z_is ?_
  refine z_iconst C dX5_clear_0 zi_0 ?_
  refine z_istore_n (lv' := [(0, .ref a0), (1, .int (0 : Int32))]) C dX5_clear_1 (by decide) rfl ?_
  refine wl_X5_clear_2 C (fun h4 => ?_) _ _ _
  refine z_aload_n C dX5_clear_20 0 rfl ?_
  refine z_getR C zf_X5_41 dX5_clear_21 (fun r5 => ?_)
  refine z_iconst C dX5_clear_24 zi_0 ?_
  refine z_iconst C dX5_clear_25 zi_5 ?_
  refine z_iastore C dX5_clear_26 (fun h6 => ?_)
  refine z_aload_n C dX5_clear_27 0 rfl ?_
  refine z_getR C zf_X5_41 dX5_clear_28 (fun r7 => ?_)
  refine z_iconst C dX5_clear_31 zi_1 ?_
  refine z_iconst C dX5_clear_32 zi_0 ?_
  refine z_iastore C dX5_clear_33 (fun h8 => ?_)
  exact z_return C dX5_clear_34
noncomputable def f_X4_beginThing (a0 : Nat) (x1 : Int32) (x2 : Int32) (hp : zHp) : Option (Int32 × zHp) :=
  (zis hp a0 4).bind fun _ => (zgR hp a0 4 1).bind fun r1 => (zgR hp r1 5 0).bind fun r2 => (zaI hp 0 r2 x1).bind fun v3 => if v3 < x2 then ((zgR hp a0 4 0).bind fun r4 => (f_X3_next r4 hp).bind fun h5 => some ((0 : Int32), h5)) else some ((-15 : Int32), hp)
set_option maxHeartbeats 4000000 in
set_option maxRecDepth 100000 in
theorem m_X4_beginThing (l : Launch) (D : va_G) (tc : Nat → ClassId) (ro : Nat → Nat) (b0 : Nat) {a0 : Nat} {x1 : Int32} {x2 : Int32} {hp : zHp} {sz : Nat} {r : (Int32 × zHp)} (h : f_X4_beginThing a0 x1 x2 hp = some r) : zis hp a0 4 = some () ∧ zM l yX4_beginThing cX4_beginThing 3 (some .int) 3 0 0 [.ref a0, .int x1, .int x2] D tc ro b0 hp sz ((zoI sz) r).1 ((zoI sz) r).2.1 ((zoI sz) r).2.2 := by
  refine ⟨?_, z_start (o := (zoI sz)) (lv := [(0, .ref a0), (1, .int x1), (2, .int x2)]) h (by decide +kernel) RX4 rfl rfl (Nat.le_of_ble_eq_true rfl) (fun P C => ?_)⟩
  · unfold f_X4_beginThing at h
    cases hc : zis hp a0 4 with
    | none => rw [hc] at h; cases h
    | some u => rfl
  unfold f_X4_beginThing
  refine z_is ?_
  refine z_aload_n C dX4_beginThing_0 0 rfl ?_
  refine z_getR C zf_X4_21 dX4_beginThing_1 (fun r1 => ?_)
  refine z_getR C zf_X4_89 dX4_beginThing_4 (fun r2 => ?_)
  refine z_iload_n C dX4_beginThing_7 1 rfl ?_
  refine z_iaload C dX4_beginThing_8 (fun v3 => ?_)
  refine z_iload_n C dX4_beginThing_9 2 rfl ?_
  refine z_icmp_lt C 16 dX4_beginThing_10 (by decide) ?_ ?_
  · refine z_aload_n C dX4_beginThing_16 0 rfl ?_
    refine z_getR C zf_X4_12 dX4_beginThing_17 (fun r4 => ?_)
    refine z_callVv C zc_X4_52 [] (fun l D tc b0 r h => m_X3_next l D tc ro b0 h) dX4_beginThing_20 rfl rfl (Nat.le_of_ble_eq_true rfl) (by decide) (by decide) ⟨Nat.le_of_ble_eq_true rfl, Nat.le_of_ble_eq_true rfl⟩ (fun h5 => ?_)
    refine z_iconst C dX4_beginThing_23 zi_0 ?_
    exact z_ireturn C dX4_beginThing_24
  refine z_bipush C dX4_beginThing_13 zbi_m15 ?_
  exact z_ireturn C dX4_beginThing_15
noncomputable def b_X5_find_2 (k24 : Int32 → Option Int32) (k32 : Option Int32) (a0 : Nat) (x1 : Int32) (x2 : Int32) (hp : zHp) (rec : Int32 → Option Int32) (x3 : Int32) : Option Int32 :=
  (zgR hp a0 5 0).bind fun r1 => (zaI hp 0 r1 x1).bind fun v2 => if x3 < v2 then ((zgR hp a0 5 1).bind fun r3 => (zaR hp 5 r3 x1).bind fun r4 => (zaI hp 0 r4 x3).bind fun v5 => if v5 = x2 then (k24 x3) else zlet (x3 + (1 : Int32)) fun v6 => rec v6) else k32
noncomputable def l_X5_find_2 (k24 : Int32 → Option Int32) (k32 : Option Int32) (a0 : Nat) (x1 : Int32) (x2 : Int32) (hp : zHp) (n : Nat) : Int32 → Option Int32 :=
  Nat.rec (motive := fun _ => Int32 → Option Int32) (fun _ => none) (fun _ rec => b_X5_find_2 k24 k32 a0 x1 x2 hp rec) n
theorem l_X5_find_2_s (k24 : Int32 → Option Int32) (k32 : Option Int32) (a0 : Nat) (x1 : Int32) (x2 : Int32) (hp : zHp) (n : Nat) (x3 : Int32) : l_X5_find_2 k24 k32 a0 x1 x2 hp (n + 1) x3 = b_X5_find_2 k24 k32 a0 x1 x2 hp (l_X5_find_2 k24 k32 a0 x1 x2 hp n) x3 := rfl
set_option maxHeartbeats 4000000 in
set_option maxRecDepth 100000 in
theorem wl_X5_find_2 {P : zX} {ro : Nat → Nat} {sz : Nat} (C : zC P cX5_find RX5 (some .int) 1 0 0 4 ro) {a0 : Nat} {x1 : Int32} {x2 : Int32} {hp : zHp} {k24 : Int32 → Option Int32} (hk24 : ∀ (x3 : Int32), zG P (zoP sz hp) (k24 x3) 24 [(3, .int x3)] [] hp sz 0 0) {k32 : Option Int32} (hk32 : zG P (zoP sz hp) (k32) 32 [] [] hp sz 0 0) : ∀ (n : Nat) (x3 : Int32), zG P (zoP sz hp) (l_X5_find_2 k24 k32 a0 x1 x2 hp n x3) 2 [(0, .ref a0), (1, .int x1), (2, .int x2), (3, .int x3)] [] hp sz 0 0 := by
  intro n
  induction n with
  | zero =>
    intro x3
    show zG P (zoP sz hp) none _ _ _ _ _ _ _
    exact z_none
  | succ n ih =>
    intro x3
    show zG P (zoP sz hp) (b_X5_find_2 k24 k32 a0 x1 x2 hp (l_X5_find_2 k24 k32 a0 x1 x2 hp n) x3) _ _ _ _ _ _ _
    unfold b_X5_find_2
    refine z_iload_n C dX5_find_2 3 rfl ?_
    refine z_aload_n C dX5_find_3 0 rfl ?_
    refine z_getR C zf_X5_9 dX5_find_4 (fun r1 => ?_)
    refine z_iload_n C dX5_find_7 1 rfl ?_
    refine z_iaload C dX5_find_8 (fun v2 => ?_)
    refine z_icmp_ge C 32 dX5_find_9 (by decide) ?_ ?_
    · refine z_aload_n C dX5_find_12 0 rfl ?_
      refine z_getR C zf_X5_17 dX5_find_13 (fun r3 => ?_)
      refine z_iload_n C dX5_find_16 1 rfl ?_
      refine z_aaload (t := 5) (ty := .array .int) C (fun _ => rfl) rfl (by decide) dX5_find_17 (fun r4 => ?_)
      refine z_iload_n C dX5_find_18 3 rfl ?_
      refine z_iaload C dX5_find_19 (fun v5 => ?_)
      refine z_iload_n C dX5_find_20 2 rfl ?_
      refine z_icmp_ne C 26 dX5_find_21 (by decide) ?_ ?_
      · exact z_sub [3] rfl (hk24 _)
      refine z_iincL C 3 (fun v6 => [(0, .ref a0), (1, .int x1), (2, .int x2), (3, .int v6)]) dX5_find_26 rfl zi_1 (by decide) (fun _ => rfl) (fun v6 => ?_)
      refine z_goto C 2 dX5_find_29 (by decide) ?_
      exact ih _
    exact z_sub [] rfl (hk32)
noncomputable def f_X5_find (a0 : Nat) (x1 : Int32) (x2 : Int32) (hp : zHp) : Option Int32 :=
  (zis hp a0 5).bind fun _ => l_X5_find_2 (fun p7 => some p7) (some (-1 : Int32)) a0 x1 x2 hp 1000000 (0 : Int32)
set_option maxHeartbeats 4000000 in
set_option maxRecDepth 100000 in
theorem m_X5_find (l : Launch) (D : va_G) (tc : Nat → ClassId) (ro : Nat → Nat) (b0 : Nat) {a0 : Nat} {x1 : Int32} {x2 : Int32} {hp : zHp} {sz : Nat} {r : Int32} (h : f_X5_find a0 x1 x2 hp = some r) : zis hp a0 5 = some () ∧ zM l yX5_find cX5_find 4 (some .int) 1 0 0 [.ref a0, .int x1, .int x2] D tc ro b0 hp sz ((zoP sz hp) r).1 ((zoP sz hp) r).2.1 ((zoP sz hp) r).2.2 := by
  refine ⟨?_, z_start (o := (zoP sz hp)) (lv := [(0, .ref a0), (1, .int x1), (2, .int x2)]) h (by decide +kernel) RX5 rfl rfl (Nat.le_of_ble_eq_true rfl) (fun P C => ?_)⟩
  · unfold f_X5_find at h
    cases hc : zis hp a0 5 with
    | none => rw [hc] at h; cases h
    | some u => rfl
  unfold f_X5_find
  refine z_is ?_
  refine z_iconst C dX5_find_0 zi_0 ?_
  refine z_istore_n (lv' := [(0, .ref a0), (1, .int x1), (2, .int x2), (3, .int (0 : Int32))]) C dX5_find_1 (by decide) rfl ?_
  refine wl_X5_find_2 C (fun p7 => ?_) ?_ _ _
  · refine z_iload_n C dX5_find_24 0 rfl ?_
    exact z_ireturnP C dX5_find_25
  refine z_iconst C dX5_find_32 zi_m1 ?_
  exact z_ireturnP C dX5_find_33
noncomputable def f_X4_readNewName (ro : Nat → Nat) (a0 : Nat) (x1 : Int32) (x2 : Int32) (hp : zHp) : Option (Int32 × zHp) :=
  (zis hp a0 4).bind fun _ => zb2 (f_X4_beginThing a0 x1 x2 hp) fun v1 h2 => if v1 < 0 then (some (v1, h2)) else (zgR h2 a0 4 0).bind fun r3 => (f_X3_isName ro r3 h2).bind fun v4 => if v4 = 0 then (some ((-11 : Int32), h2)) else (zgR h2 a0 4 0).bind fun r5 => (f_X3_packed r5 h2).bind fun v6 => (zgR h2 a0 4 1).bind fun r7 => (f_X5_find r7 x1 v6 h2).bind fun v8 => if v8 = (-1 : Int32) then ((zgR h2 a0 4 0).bind fun r9 => (f_X3_next r9 h2).bind fun h10 => some (v6, h10)) else some ((-14 : Int32), h2)
set_option maxHeartbeats 4000000 in
set_option maxRecDepth 100000 in
theorem m_X4_readNewName (l : Launch) (D : va_G) (tc : Nat → ClassId) (ro : Nat → Nat) (b0 : Nat) {a0 : Nat} {x1 : Int32} {x2 : Int32} {hp : zHp} {sz : Nat} {r : (Int32 × zHp)} (h : f_X4_readNewName ro a0 x1 x2 hp = some r) : zis hp a0 4 = some () ∧ zM l yX4_readNewName cX4_readNewName 5 (some .int) 7 0 0 [.ref a0, .int x1, .int x2] D tc ro b0 hp sz ((zoI sz) r).1 ((zoI sz) r).2.1 ((zoI sz) r).2.2 := by
  refine ⟨?_, z_start (o := (zoI sz)) (lv := [(0, .ref a0), (1, .int x1), (2, .int x2)]) h (by decide +kernel) RX4 rfl rfl (Nat.le_of_ble_eq_true rfl) (fun P C => ?_)⟩
  · unfold f_X4_readNewName at h
    cases hc : zis hp a0 4 with
    | none => rw [hc] at h; cases h
    | some u => rfl
  unfold f_X4_readNewName
  refine z_is ?_
  refine z_aload_n C dX4_readNewName_0 0 rfl ?_
  refine z_iload_n C dX4_readNewName_1 1 rfl ?_
  refine z_iload_n C dX4_readNewName_2 2 rfl ?_
  refine z_callVi C zc_X4_134 [.int x1, .int x2] (fun l D tc b0 r h => m_X4_beginThing l D tc ro b0 h) dX4_readNewName_3 rfl rfl (Nat.le_of_ble_eq_true rfl) (by decide) (by decide) ⟨Nat.le_of_ble_eq_true rfl, Nat.le_of_ble_eq_true rfl⟩ (fun v1 h2 => ?_)
  refine z_istore_n (lv' := [(0, .ref a0), (1, .int x1), (2, .int x2), (3, .int v1)]) C dX4_readNewName_6 (by decide) rfl ?_
  refine z_iload_n C dX4_readNewName_7 3 rfl ?_
  refine z_if_ge C 13 dX4_readNewName_8 (by decide) ?_ ?_
  · refine z_iload_n C dX4_readNewName_11 3 rfl ?_
    exact z_ireturn C dX4_readNewName_12
  refine z_aload_n C dX4_readNewName_13 0 rfl ?_
  refine z_getR C zf_X4_12 dX4_readNewName_14 (fun r3 => ?_)
  refine z_callVp C zc_X4_150 [] (fun l D tc b0 r h => m_X3_isName l D tc ro b0 h) dX4_readNewName_17 rfl rfl (Nat.le_of_ble_eq_true rfl) (by decide) (by decide) ⟨Nat.le_of_ble_eq_true rfl, Nat.le_of_ble_eq_true rfl⟩ (fun v4 => ?_)
  refine z_if_ne C 26 dX4_readNewName_20 (by decide) ?_ ?_
  · refine z_bipush C dX4_readNewName_23 zbi_m11 ?_
    exact z_ireturn C dX4_readNewName_25
  refine z_aload_n C dX4_readNewName_26 0 rfl ?_
  refine z_getR C zf_X4_12 dX4_readNewName_27 (fun r5 => ?_)
  refine z_callVp C zc_X4_154 [] (fun l D tc b0 r h => m_X3_packed l D tc ro b0 h) dX4_readNewName_30 rfl rfl (Nat.le_of_ble_eq_true rfl) (by decide) (by decide) ⟨Nat.le_of_ble_eq_true rfl, Nat.le_of_ble_eq_true rfl⟩ (fun v6 => ?_)
  refine z_istore (lv' := [(0, .ref a0), (1, .int x1), (2, .int x2), (3, .int v1), (4, .int v6)]) C dX4_readNewName_33 (by decide) rfl ?_
  refine z_aload_n C dX4_readNewName_35 0 rfl ?_
  refine z_getR C zf_X4_21 dX4_readNewName_36 (fun r7 => ?_)
  refine z_iload_n C dX4_readNewName_39 1 rfl ?_
  refine z_iload C dX4_readNewName_40 4 rfl ?_
  refine z_callVp C zc_X4_157 [.int x1, .int v6] (fun l D tc b0 r h => m_X5_find l D tc ro b0 h) dX4_readNewName_42 rfl rfl (Nat.le_of_ble_eq_true rfl) (by decide) (by decide) ⟨Nat.le_of_ble_eq_true rfl, Nat.le_of_ble_eq_true rfl⟩ (fun v8 => ?_)
  refine z_iconst C dX4_readNewName_45 zi_m1 ?_
  refine z_icmp_eq C 52 dX4_readNewName_46 (by decide) ?_ ?_
  · refine z_aload_n C dX4_readNewName_52 0 rfl ?_
    refine z_getR C zf_X4_12 dX4_readNewName_53 (fun r9 => ?_)
    refine z_callVv C zc_X4_52 [] (fun l D tc b0 r h => m_X3_next l D tc ro b0 h) dX4_readNewName_56 rfl rfl (Nat.le_of_ble_eq_true rfl) (by decide) (by decide) ⟨Nat.le_of_ble_eq_true rfl, Nat.le_of_ble_eq_true rfl⟩ (fun h10 => ?_)
    refine z_iload C dX4_readNewName_59 4 rfl ?_
    exact z_ireturn C dX4_readNewName_61
  refine z_bipush C dX4_readNewName_49 zbi_m14 ?_
  exact z_ireturn C dX4_readNewName_51
noncomputable def f_X4_add (a0 : Nat) (x1 : Int32) (x2 : Int32) (hp : zHp) : Option (Int32 × zHp) :=
  (zis hp a0 4).bind fun _ => (zgR hp a0 4 1).bind fun r1 => (zgR hp r1 5 1).bind fun r2 => (zaR hp 5 r2 x1).bind fun r3 => (zgR hp a0 4 1).bind fun r4 => (zgR hp r4 5 0).bind fun r5 => (zaI hp 0 r5 x1).bind fun v6 => (zsI hp r3 v6 x2).bind fun h7 => (zgR h7 a0 4 1).bind fun r8 => (zgR h7 r8 5 0).bind fun r9 => (zaI h7 0 r9 x1).bind fun v10 => (zsI h7 r9 x1 (v10 + (1 : Int32))).bind fun h11 => some ((0 : Int32), h11)
set_option maxHeartbeats 4000000 in
set_option maxRecDepth 100000 in
theorem m_X4_add (l : Launch) (D : va_G) (tc : Nat → ClassId) (ro : Nat → Nat) (b0 : Nat) {a0 : Nat} {x1 : Int32} {x2 : Int32} {hp : zHp} {sz : Nat} {r : (Int32 × zHp)} (h : f_X4_add a0 x1 x2 hp = some r) : zis hp a0 4 = some () ∧ zM l yX4_add cX4_add 3 (some .int) 1 0 0 [.ref a0, .int x1, .int x2] D tc ro b0 hp sz ((zoI sz) r).1 ((zoI sz) r).2.1 ((zoI sz) r).2.2 := by
  refine ⟨?_, z_start (o := (zoI sz)) (lv := [(0, .ref a0), (1, .int x1), (2, .int x2)]) h (by decide +kernel) RX4 rfl rfl (Nat.le_of_ble_eq_true rfl) (fun P C => ?_)⟩
  · unfold f_X4_add at h
    cases hc : zis hp a0 4 with
    | none => rw [hc] at h; cases h
    | some u => rfl
  unfold f_X4_add
  refine z_is ?_
  refine z_aload_n C dX4_add_0 0 rfl ?_
  refine z_getR C zf_X4_21 dX4_add_1 (fun r1 => ?_)
  refine z_getR C zf_X4_163 dX4_add_4 (fun r2 => ?_)
  refine z_iload_n C dX4_add_7 1 rfl ?_
  refine z_aaload (t := 5) (ty := .array .int) C (fun _ => rfl) rfl (by decide) dX4_add_8 (fun r3 => ?_)
  refine z_aload_n C dX4_add_9 0 rfl ?_
  refine z_getR C zf_X4_21 dX4_add_10 (fun r4 => ?_)
  refine z_getR C zf_X4_89 dX4_add_13 (fun r5 => ?_)
  refine z_iload_n C dX4_add_16 1 rfl ?_
  refine z_iaload C dX4_add_17 (fun v6 => ?_)
  refine z_iload_n C dX4_add_18 2 rfl ?_
  refine z_iastore C dX4_add_19 (fun h7 => ?_)
  refine z_aload_n C dX4_add_20 0 rfl ?_
  refine z_getR C zf_X4_21 dX4_add_21 (fun r8 => ?_)
  refine z_getR C zf_X4_89 dX4_add_24 (fun r9 => ?_)
  refine z_iload_n C dX4_add_27 1 rfl ?_
  refine z_dup2 C dX4_add_28 rfl rfl ?_
  refine z_iaload C dX4_add_29 (fun v10 => ?_)
  refine z_iconst C dX4_add_30 zi_1 ?_
  refine z_iadd C dX4_add_31 ?_
  refine z_iastore C dX4_add_32 (fun h11 => ?_)
  refine z_iconst C dX4_add_33 zi_0 ?_
  exact z_ireturn C dX4_add_34
noncomputable def f_X4_readParty (ro : Nat → Nat) (a0 : Nat) (hp : zHp) : Option (Int32 × zHp) :=
  (zis hp a0 4).bind fun _ => (zgR hp a0 4 1).bind fun r1 => (zgR hp r1 5 0).bind fun r2 => (zaI hp 0 r2 (3 : Int32)).bind fun v3 => if 0 < v3 then (some ((-11 : Int32), hp)) else zb2 (f_X4_readNewName ro a0 (0 : Int32) (5 : Int32) hp) fun v4 h5 => if v4 < 0 then (some (v4, h5)) else zb2 (f_X4_add a0 (0 : Int32) v4 h5) fun v6 h7 => some (v6, h7)
set_option maxHeartbeats 4000000 in
set_option maxRecDepth 100000 in
theorem m_X4_readParty (l : Launch) (D : va_G) (tc : Nat → ClassId) (ro : Nat → Nat) (b0 : Nat) {a0 : Nat} {hp : zHp} {sz : Nat} {r : (Int32 × zHp)} (h : f_X4_readParty ro a0 hp = some r) : zis hp a0 4 = some () ∧ zM l yX4_readParty cX4_readParty 2 (some .int) 8 0 0 [.ref a0] D tc ro b0 hp sz ((zoI sz) r).1 ((zoI sz) r).2.1 ((zoI sz) r).2.2 := by
  refine ⟨?_, z_start (o := (zoI sz)) (lv := [(0, .ref a0)]) h (by decide +kernel) RX4 rfl rfl (Nat.le_of_ble_eq_true rfl) (fun P C => ?_)⟩
  · unfold f_X4_readParty at h
    cases hc : zis hp a0 4 with
    | none => rw [hc] at h; cases h
    | some u => rfl
  unfold f_X4_readParty
  refine z_is ?_
  refine z_aload_n C dX4_readParty_0 0 rfl ?_
  refine z_getR C zf_X4_21 dX4_readParty_1 (fun r1 => ?_)
  refine z_getR C zf_X4_89 dX4_readParty_4 (fun r2 => ?_)
  refine z_iconst C dX4_readParty_7 zi_3 ?_
  refine z_iaload C dX4_readParty_8 (fun v3 => ?_)
  refine z_if_le C 15 dX4_readParty_9 (by decide) ?_ ?_
  · refine z_bipush C dX4_readParty_12 zbi_m11 ?_
    exact z_ireturn C dX4_readParty_14
  refine z_aload_n C dX4_readParty_15 0 rfl ?_
  refine z_iconst C dX4_readParty_16 zi_0 ?_
  refine z_iconst C dX4_readParty_17 zi_5 ?_
  refine z_callVi C zc_X4_93 [.int (0 : Int32), .int (5 : Int32)] (fun l D tc b0 r h => m_X4_readNewName l D tc ro b0 h) dX4_readParty_18 rfl rfl (Nat.le_of_ble_eq_true rfl) (by decide) (by decide) ⟨Nat.le_of_ble_eq_true rfl, Nat.le_of_ble_eq_true rfl⟩ (fun v4 h5 => ?_)
  refine z_istore_n (lv' := [(0, .ref a0), (1, .int v4)]) C dX4_readParty_21 (by decide) rfl ?_
  refine z_iload_n C dX4_readParty_22 1 rfl ?_
  refine z_if_ge C 30 dX4_readParty_23 (by decide) ?_ ?_
  · refine z_iload_n C dX4_readParty_26 1 rfl ?_
    refine z_goto C 36 dX4_readParty_27 (by decide) ?_
    exact z_ireturn C dX4_readParty_36
  refine z_aload_n C dX4_readParty_30 0 rfl ?_
  refine z_iconst C dX4_readParty_31 zi_0 ?_
  refine z_iload_n C dX4_readParty_32 1 rfl ?_
  refine z_callVi C zc_X4_97 [.int (0 : Int32), .int v4] (fun l D tc b0 r h => m_X4_add l D tc ro b0 h) dX4_readParty_33 rfl rfl (Nat.le_of_ble_eq_true rfl) (by decide) (by decide) ⟨Nat.le_of_ble_eq_true rfl, Nat.le_of_ble_eq_true rfl⟩ (fun v6 h7 => ?_)
  exact z_ireturn C dX4_readParty_36
