noncomputable def b_X8_isIn_2 (k12 : Option Int32) (k27 : Option Int32) (a0 : Nat) (x2 : Int32) (hp : zHp) (rec : Int32 → Option Int32) (x3 : Int32) : Option Int32 :=
  if x3 = (-1 : Int32) then (k27) else if x3 = x2 then (k12) else (zgR hp a0 8 3).bind fun r1 => (zaI hp 0 r1 ((33 : Int32) + x3)).bind fun v2 => rec v2
noncomputable def l_X8_isIn_2 (k12 : Option Int32) (k27 : Option Int32) (a0 : Nat) (x2 : Int32) (hp : zHp) (n : Nat) : Int32 → Option Int32 :=
  Nat.rec (motive := fun _ => Int32 → Option Int32) (fun _ => none) (fun _ rec => b_X8_isIn_2 k12 k27 a0 x2 hp rec) n
theorem l_X8_isIn_2_s (k12 : Option Int32) (k27 : Option Int32) (a0 : Nat) (x2 : Int32) (hp : zHp) (n : Nat) (x3 : Int32) : l_X8_isIn_2 k12 k27 a0 x2 hp (n + 1) x3 = b_X8_isIn_2 k12 k27 a0 x2 hp (l_X8_isIn_2 k12 k27 a0 x2 hp n) x3 := rfl
set_option maxHeartbeats 4000000 in
set_option maxRecDepth 100000 in
theorem wl_X8_isIn_2 {P : zX} {ro : Nat → Nat} {sz : Nat} (C : zC P cX8_isIn RX8 (some .boolean) 1 0 0 4 ro) {a0 : Nat} {x2 : Int32} {hp : zHp} {k12 : Option Int32} (hk12 : zG P (zoP sz hp) (k12) 12 [] [] hp sz 0 0) {k27 : Option Int32} (hk27 : zG P (zoP sz hp) (k27) 27 [] [] hp sz 0 0) : ∀ (n : Nat) (x3 : Int32), zG P (zoP sz hp) (l_X8_isIn_2 k12 k27 a0 x2 hp n x3) 2 [(0, .ref a0), (2, .int x2), (3, .int x3)] [] hp sz 0 0 := by
  intro n
  induction n with
  | zero =>
    intro x3
    show zG P (zoP sz hp) none _ _ _ _ _ _ _
    exact z_none
  | succ n ih =>
    intro x3
    show zG P (zoP sz hp) (b_X8_isIn_2 k12 k27 a0 x2 hp (l_X8_isIn_2 k12 k27 a0 x2 hp n) x3) _ _ _ _ _ _ _
    unfold b_X8_isIn_2
    refine z_iload_n C dX8_isIn_2 2 rfl ?_
    refine z_iconst C dX8_isIn_3 zi_m1 ?_
    refine z_icmp_eq C 27 dX8_isIn_4 (by decide) ?_ ?_
    · exact z_sub [] rfl (hk27)
    refine z_iload_n C dX8_isIn_7 2 rfl ?_
    refine z_iload_n C dX8_isIn_8 1 rfl ?_
    refine z_icmp_ne C 14 dX8_isIn_9 (by decide) ?_ ?_
    · exact z_sub [] rfl (hk12)
    refine z_aload_n C dX8_isIn_14 0 rfl ?_
    refine z_getR C zf_X8_13 dX8_isIn_15 (fun r1 => ?_)
    refine z_bipush C dX8_isIn_18 zbi_33 ?_
    refine z_iload_n C dX8_isIn_20 2 rfl ?_
    refine z_iadd C dX8_isIn_21 ?_
    refine z_iaload C dX8_isIn_22 (fun v2 => ?_)
    refine z_istore_n (lv' := [(0, .ref a0), (2, .int x2), (3, .int v2)]) C dX8_isIn_23 (by decide) rfl ?_
    refine z_goto C 2 dX8_isIn_24 (by decide) ?_
    exact ih _
noncomputable def f_X8_isIn (a0 : Nat) (x1 : Int32) (x2 : Int32) (hp : zHp) : Option Int32 :=
  (zis hp a0 8).bind fun _ => l_X8_isIn_2 (some (1 : Int32)) (some (0 : Int32)) a0 x2 hp 1000000 x1
set_option maxHeartbeats 4000000 in
set_option maxRecDepth 100000 in
theorem m_X8_isIn (l : Launch) (D : va_G) (tc : Nat → ClassId) (ro : Nat → Nat) (b0 : Nat) {a0 : Nat} {x1 : Int32} {x2 : Int32} {hp : zHp} {sz : Nat} {r : Int32} (h : f_X8_isIn a0 x1 x2 hp = some r) : zis hp a0 8 = some () ∧ zM l yX8_isIn cX8_isIn 4 (some .boolean) 1 0 0 [.ref a0, .int x1, .int x2] D tc ro b0 hp sz ((zoP sz hp) r).1 ((zoP sz hp) r).2.1 ((zoP sz hp) r).2.2 := by
  refine ⟨?_, z_start (o := (zoP sz hp)) (lv := [(0, .ref a0), (1, .int x1), (2, .int x2)]) h (by decide +kernel) RX8 rfl rfl (Nat.le_of_ble_eq_true rfl) (fun P C => ?_)⟩
  · unfold f_X8_isIn at h
    cases hc : zis hp a0 8 with
    | none => rw [hc] at h; cases h
    | some u => rfl
  unfold f_X8_isIn
  refine z_is ?_
  refine z_iload_n C dX8_isIn_0 1 rfl ?_
  refine z_istore_n (lv' := [(0, .ref a0), (1, .int x1), (2, .int x2), (3, .int x1)]) C dX8_isIn_1 (by decide) rfl ?_
  refine z_sub [0, 2, 3] rfl (wl_X8_isIn_2 C ?_ ?_ _ _)
  · refine z_iconst C dX8_isIn_12 zi_1 ?_
    exact z_kreturnP C rfl dX8_isIn_13
  refine z_iconst C dX8_isIn_27 zi_0 ?_
  exact z_kreturnP C rfl dX8_isIn_28
noncomputable def f_X8_isWardIn (a0 : Nat) (x1 : Int32) (x2 : Int32) (hp : zHp) : Option Int32 :=
  (zis hp a0 8).bind fun _ => (zgR hp a0 8 3).bind fun r1 => (zaI hp 0 r1 ((38 : Int32) + x1)).bind fun v2 => (f_X8_isIn a0 v2 x2 hp).bind fun v3 => zrNp .boolean v3
set_option maxHeartbeats 4000000 in
set_option maxRecDepth 100000 in
theorem m_X8_isWardIn (l : Launch) (D : va_G) (tc : Nat → ClassId) (ro : Nat → Nat) (b0 : Nat) {a0 : Nat} {x1 : Int32} {x2 : Int32} {hp : zHp} {sz : Nat} {r : Int32} (h : f_X8_isWardIn a0 x1 x2 hp = some r) : zis hp a0 8 = some () ∧ zM l yX8_isWardIn cX8_isWardIn 3 (some .boolean) 2 0 0 [.ref a0, .int x1, .int x2] D tc ro b0 hp sz ((zoP sz hp) r).1 ((zoP sz hp) r).2.1 ((zoP sz hp) r).2.2 := by
  refine ⟨?_, z_start (o := (zoP sz hp)) (lv := [(0, .ref a0), (1, .int x1), (2, .int x2)]) h (by decide +kernel) RX8 rfl rfl (Nat.le_of_ble_eq_true rfl) (fun P C => ?_)⟩
  · unfold f_X8_isWardIn at h
    cases hc : zis hp a0 8 with
    | none => rw [hc] at h; cases h
    | some u => rfl
  unfold f_X8_isWardIn
  refine z_is ?_
  refine z_aload_n C dX8_isWardIn_0 0 rfl ?_
  refine z_aload_n C dX8_isWardIn_1 0 rfl ?_
  refine z_getR C zf_X8_13 dX8_isWardIn_2 (fun r1 => ?_)
  refine z_bipush C dX8_isWardIn_5 zbi_38 ?_
  refine z_iload_n C dX8_isWardIn_7 1 rfl ?_
  refine z_iadd C dX8_isWardIn_8 ?_
  refine z_iaload C dX8_isWardIn_9 (fun v2 => ?_)
  refine z_iload_n C dX8_isWardIn_10 2 rfl ?_
  refine z_callVp C zc_X8_129 [.int v2, .int x2] (fun l D tc b0 r h => m_X8_isIn l D tc ro b0 h) dX8_isWardIn_11 rfl rfl (Nat.le_of_ble_eq_true rfl) (by decide) (by decide) ⟨Nat.le_of_ble_eq_true rfl, Nat.le_of_ble_eq_true rfl⟩ (fun v3 => ?_)
  exact z_nreturnP C (by simp) dX8_isWardIn_14
noncomputable def j_X8_seats_50 (k58 : Int32 → Option Int32) (rec : Int32 → Int32 → Option Int32) (a0 : Nat) (x1 : Int32) (x2 : Int32) (x4 : Int32) (s0 : Int32) (s1 : Int32) (hp : zHp) : Option Int32 :=
  zlet (s0 + s1) fun v3 => zlet (x4 + (1 : Int32)) fun v4 => rec v3 v4
set_option maxHeartbeats 4000000 in
set_option maxRecDepth 100000 in
theorem wj_X8_seats_50 {P : zX} {ro : Nat → Nat} {sz : Nat} (C : zC P cX8_seats RX8 (some .int) 8 0 0 5 ro) {a0 : Nat} {x1 : Int32} {x2 : Int32} {x4 : Int32} {s0 : Int32} {s1 : Int32} {hp : zHp} {k58 : Int32 → Option Int32} (hk58 : ∀ (x3 : Int32), zG P (zoP sz hp) (k58 x3) 58 [(3, .int x3)] [] hp sz 0 0) {rec : Int32 → Int32 → Option Int32} (hrec : ∀ (x3 : Int32) (x4 : Int32), zG P (zoP sz hp) (rec x3 x4) 5 [(0, .ref a0), (1, .int x1), (2, .int x2), (3, .int x3), (4, .int x4)] [] hp sz 0 0) : zG P (zoP sz hp) (j_X8_seats_50 k58 rec a0 x1 x2 x4 s0 s1 hp) 50 [(0, .ref a0), (1, .int x1), (2, .int x2), (4, .int x4)] [.int s1, .int s0] hp sz 0 0 := by
  unfold j_X8_seats_50
  refine z_iadd C dX8_seats_50 ?_
  refine z_istore_nL C (fun v3 => [(0, .ref a0), (1, .int x1), (2, .int x2), (3, .int v3), (4, .int x4)]) dX8_seats_51 (by decide) (fun _ => rfl) (fun v3 => ?_)
  refine z_iincL C 4 (fun v4 => [(0, .ref a0), (1, .int x1), (2, .int x2), (3, .int v3), (4, .int v4)]) dX8_seats_52 rfl zi_1 (by decide) (fun _ => rfl) (fun v4 => ?_)
  refine z_goto C 5 dX8_seats_55 (by decide) ?_
  exact hrec _ _
noncomputable def j_X8_seats_49 (k58 : Int32 → Option Int32) (rec : Int32 → Int32 → Option Int32) (a0 : Nat) (x1 : Int32) (x2 : Int32) (x4 : Int32) (s0 : Int32) (hp : zHp) : Option Int32 :=
  j_X8_seats_50 k58 rec a0 x1 x2 x4 s0 (0 : Int32) hp
set_option maxHeartbeats 4000000 in
set_option maxRecDepth 100000 in
theorem wj_X8_seats_49 {P : zX} {ro : Nat → Nat} {sz : Nat} (C : zC P cX8_seats RX8 (some .int) 8 0 0 5 ro) {a0 : Nat} {x1 : Int32} {x2 : Int32} {x4 : Int32} {s0 : Int32} {hp : zHp} {k58 : Int32 → Option Int32} (hk58 : ∀ (x3 : Int32), zG P (zoP sz hp) (k58 x3) 58 [(3, .int x3)] [] hp sz 0 0) {rec : Int32 → Int32 → Option Int32} (hrec : ∀ (x3 : Int32) (x4 : Int32), zG P (zoP sz hp) (rec x3 x4) 5 [(0, .ref a0), (1, .int x1), (2, .int x2), (3, .int x3), (4, .int x4)] [] hp sz 0 0) : zG P (zoP sz hp) (j_X8_seats_49 k58 rec a0 x1 x2 x4 s0 hp) 49 [(0, .ref a0), (1, .int x1), (2, .int x2), (4, .int x4)] [.int s0] hp sz 0 0 := by
  unfold j_X8_seats_49
  refine z_iconst C dX8_seats_49 zi_0 ?_
  exact wj_X8_seats_50 C hk58 hrec
noncomputable def b_X8_seats_5 (k58 : Int32 → Option Int32) (a0 : Nat) (x1 : Int32) (x2 : Int32) (hp : zHp) (rec : Int32 → Int32 → Option Int32) (x3 : Int32) (x4 : Int32) : Option Int32 :=
  (f_X8_many a0 (2 : Int32) hp).bind fun v1 => if x4 < v1 then ((f_X8_isWardIn a0 x4 x1 hp).bind fun v2 => if v2 = 0 then (j_X8_seats_49 k58 rec a0 x1 x2 x4 x3 hp) else (f_X8_isDeclared a0 x4 hp).bind fun v5 => if v5 = 0 then (j_X8_seats_49 k58 rec a0 x1 x2 x4 x3 hp) else (f_X8_first a0 x4 hp).bind fun v6 => if v6 = x2 then (j_X8_seats_50 k58 rec a0 x1 x2 x4 x3 (1 : Int32) hp) else j_X8_seats_49 k58 rec a0 x1 x2 x4 x3 hp) else k58 x3
noncomputable def l_X8_seats_5 (k58 : Int32 → Option Int32) (a0 : Nat) (x1 : Int32) (x2 : Int32) (hp : zHp) (n : Nat) : Int32 → Int32 → Option Int32 :=
  Nat.rec (motive := fun _ => Int32 → Int32 → Option Int32) (fun _ _ => none) (fun _ rec => b_X8_seats_5 k58 a0 x1 x2 hp rec) n
theorem l_X8_seats_5_s (k58 : Int32 → Option Int32) (a0 : Nat) (x1 : Int32) (x2 : Int32) (hp : zHp) (n : Nat) (x3 : Int32) (x4 : Int32) : l_X8_seats_5 k58 a0 x1 x2 hp (n + 1) x3 x4 = b_X8_seats_5 k58 a0 x1 x2 hp (l_X8_seats_5 k58 a0 x1 x2 hp n) x3 x4 := rfl
set_option maxHeartbeats 4000000 in
set_option maxRecDepth 100000 in
theorem wl_X8_seats_5 {P : zX} {ro : Nat → Nat} {sz : Nat} (C : zC P cX8_seats RX8 (some .int) 8 0 0 5 ro) {a0 : Nat} {x1 : Int32} {x2 : Int32} {hp : zHp} {k58 : Int32 → Option Int32} (hk58 : ∀ (x3 : Int32), zG P (zoP sz hp) (k58 x3) 58 [(3, .int x3)] [] hp sz 0 0) : ∀ (n : Nat) (x3 : Int32) (x4 : Int32), zG P (zoP sz hp) (l_X8_seats_5 k58 a0 x1 x2 hp n x3 x4) 5 [(0, .ref a0), (1, .int x1), (2, .int x2), (3, .int x3), (4, .int x4)] [] hp sz 0 0 := by
  intro n
  induction n with
  | zero =>
    intro x3 x4
    show zG P (zoP sz hp) none _ _ _ _ _ _ _
    exact z_none
  | succ n ih =>
    intro x3 x4
    show zG P (zoP sz hp) (b_X8_seats_5 k58 a0 x1 x2 hp (l_X8_seats_5 k58 a0 x1 x2 hp n) x3 x4) _ _ _ _ _ _ _
    unfold b_X8_seats_5
    refine z_iload C dX8_seats_5 4 rfl ?_
    refine z_aload_n C dX8_seats_7 0 rfl ?_
    refine z_iconst C dX8_seats_8 zi_2 ?_
    refine z_callVp C zc_X8_44 [.int (2 : Int32)] (fun l D tc b0 r h => m_X8_many l D tc ro b0 h) dX8_seats_9 rfl rfl (Nat.le_of_ble_eq_true rfl) (by decide) (by decide) ⟨Nat.le_of_ble_eq_true rfl, Nat.le_of_ble_eq_true rfl⟩ (fun v1 => ?_)
    refine z_icmp_ge C 58 dX8_seats_12 (by decide) ?_ ?_
    · refine z_iload_n C dX8_seats_15 3 rfl ?_
      refine z_aload_n C dX8_seats_16 0 rfl ?_
      refine z_iload C dX8_seats_17 4 rfl ?_
      refine z_iload_n C dX8_seats_19 1 rfl ?_
      refine z_callVp C zc_X8_132 [.int x4, .int x1] (fun l D tc b0 r h => m_X8_isWardIn l D tc ro b0 h) dX8_seats_20 rfl rfl (Nat.le_of_ble_eq_true rfl) (by decide) (by decide) ⟨Nat.le_of_ble_eq_true rfl, Nat.le_of_ble_eq_true rfl⟩ (fun v2 => ?_)
      refine z_if_eq C 49 dX8_seats_23 (by decide) ?_ ?_
      · exact z_sub [0, 1, 2, 4] rfl (wj_X8_seats_49 C hk58 ih)
      refine z_aload_n C dX8_seats_26 0 rfl ?_
      refine z_iload C dX8_seats_27 4 rfl ?_
      refine z_callVp C zc_X8_109 [.int x4] (fun l D tc b0 r h => m_X8_isDeclared l D tc ro b0 h) dX8_seats_29 rfl rfl (Nat.le_of_ble_eq_true rfl) (by decide) (by decide) ⟨Nat.le_of_ble_eq_true rfl, Nat.le_of_ble_eq_true rfl⟩ (fun v5 => ?_)
      refine z_if_eq C 49 dX8_seats_32 (by decide) ?_ ?_
      · exact z_sub [0, 1, 2, 4] rfl (wj_X8_seats_49 C hk58 ih)
      refine z_aload_n C dX8_seats_35 0 rfl ?_
      refine z_iload C dX8_seats_36 4 rfl ?_
      refine z_callVp C zc_X8_97 [.int x4] (fun l D tc b0 r h => m_X8_first l D tc ro b0 h) dX8_seats_38 rfl rfl (Nat.le_of_ble_eq_true rfl) (by decide) (by decide) ⟨Nat.le_of_ble_eq_true rfl, Nat.le_of_ble_eq_true rfl⟩ (fun v6 => ?_)
      refine z_iload_n C dX8_seats_41 2 rfl ?_
      refine z_icmp_ne C 49 dX8_seats_42 (by decide) ?_ ?_
      · refine z_iconst C dX8_seats_45 zi_1 ?_
        refine z_goto C 50 dX8_seats_46 (by decide) ?_
        exact z_sub [0, 1, 2, 4] rfl (wj_X8_seats_50 C hk58 ih)
      exact z_sub [0, 1, 2, 4] rfl (wj_X8_seats_49 C hk58 ih)
    exact z_sub [3] rfl (hk58 _)
noncomputable def f_X8_seats (a0 : Nat) (x1 : Int32) (x2 : Int32) (hp : zHp) : Option Int32 :=
  (zis hp a0 8).bind fun _ => l_X8_seats_5 (fun p7 => some p7) a0 x1 x2 hp 1000000 (0 : Int32) (0 : Int32)
set_option maxHeartbeats 4000000 in
set_option maxRecDepth 100000 in
theorem m_X8_seats (l : Launch) (D : va_G) (tc : Nat → ClassId) (ro : Nat → Nat) (b0 : Nat) {a0 : Nat} {x1 : Int32} {x2 : Int32} {hp : zHp} {sz : Nat} {r : Int32} (h : f_X8_seats a0 x1 x2 hp = some r) : zis hp a0 8 = some () ∧ zM l yX8_seats cX8_seats 5 (some .int) 8 0 0 [.ref a0, .int x1, .int x2] D tc ro b0 hp sz ((zoP sz hp) r).1 ((zoP sz hp) r).2.1 ((zoP sz hp) r).2.2 := by
  refine ⟨?_, z_start (o := (zoP sz hp)) (lv := [(0, .ref a0), (1, .int x1), (2, .int x2)]) h (by decide +kernel) RX8 rfl rfl (Nat.le_of_ble_eq_true rfl) (fun P C => ?_)⟩
  · unfold f_X8_seats at h
    cases hc : zis hp a0 8 with
    | none => rw [hc] at h; cases h
    | some u => rfl
  unfold f_X8_seats
  refine z_is ?_
  refine z_iconst C dX8_seats_0 zi_0 ?_
  refine z_istore_n (lv' := [(0, .ref a0), (1, .int x1), (2, .int x2), (3, .int (0 : Int32))]) C dX8_seats_1 (by decide) rfl ?_
  refine z_iconst C dX8_seats_2 zi_0 ?_
  refine z_istore (lv' := [(0, .ref a0), (1, .int x1), (2, .int x2), (3, .int (0 : Int32)), (4, .int (0 : Int32))]) C dX8_seats_3 (by decide) rfl ?_
  refine wl_X8_seats_5 C (fun p7 => ?_) _ _ _
  refine z_iload_n C dX8_seats_58 0 rfl ?_
  exact z_ireturnP C dX8_seats_59
noncomputable def j_X8_undeclared_36 (k44 : Int32 → Option Int32) (rec : Int32 → Int32 → Option Int32) (a0 : Nat) (x1 : Int32) (x3 : Int32) (s0 : Int32) (s1 : Int32) (hp : zHp) : Option Int32 :=
  zlet (s0 + s1) fun v3 => zlet (x3 + (1 : Int32)) fun v4 => rec v3 v4
set_option maxHeartbeats 4000000 in
set_option maxRecDepth 100000 in
theorem wj_X8_undeclared_36 {P : zX} {ro : Nat → Nat} {sz : Nat} (C : zC P cX8_undeclared RX8 (some .int) 3 0 0 4 ro) {a0 : Nat} {x1 : Int32} {x3 : Int32} {s0 : Int32} {s1 : Int32} {hp : zHp} {k44 : Int32 → Option Int32} (hk44 : ∀ (x2 : Int32), zG P (zoP sz hp) (k44 x2) 44 [(2, .int x2)] [] hp sz 0 0) {rec : Int32 → Int32 → Option Int32} (hrec : ∀ (x2 : Int32) (x3 : Int32), zG P (zoP sz hp) (rec x2 x3) 4 [(0, .ref a0), (1, .int x1), (2, .int x2), (3, .int x3)] [] hp sz 0 0) : zG P (zoP sz hp) (j_X8_undeclared_36 k44 rec a0 x1 x3 s0 s1 hp) 36 [(0, .ref a0), (1, .int x1), (3, .int x3)] [.int s1, .int s0] hp sz 0 0 := by
  unfold j_X8_undeclared_36
  refine z_iadd C dX8_undeclared_36 ?_
  refine z_istore_nL C (fun v3 => [(0, .ref a0), (1, .int x1), (2, .int v3), (3, .int x3)]) dX8_undeclared_37 (by decide) (fun _ => rfl) (fun v3 => ?_)
  refine z_iincL C 3 (fun v4 => [(0, .ref a0), (1, .int x1), (2, .int v3), (3, .int v4)]) dX8_undeclared_38 rfl zi_1 (by decide) (fun _ => rfl) (fun v4 => ?_)
  refine z_goto C 4 dX8_undeclared_41 (by decide) ?_
  exact hrec _ _
noncomputable def j_X8_undeclared_35 (k44 : Int32 → Option Int32) (rec : Int32 → Int32 → Option Int32) (a0 : Nat) (x1 : Int32) (x3 : Int32) (s0 : Int32) (hp : zHp) : Option Int32 :=
  j_X8_undeclared_36 k44 rec a0 x1 x3 s0 (0 : Int32) hp
set_option maxHeartbeats 4000000 in
set_option maxRecDepth 100000 in
theorem wj_X8_undeclared_35 {P : zX} {ro : Nat → Nat} {sz : Nat} (C : zC P cX8_undeclared RX8 (some .int) 3 0 0 4 ro) {a0 : Nat} {x1 : Int32} {x3 : Int32} {s0 : Int32} {hp : zHp} {k44 : Int32 → Option Int32} (hk44 : ∀ (x2 : Int32), zG P (zoP sz hp) (k44 x2) 44 [(2, .int x2)] [] hp sz 0 0) {rec : Int32 → Int32 → Option Int32} (hrec : ∀ (x2 : Int32) (x3 : Int32), zG P (zoP sz hp) (rec x2 x3) 4 [(0, .ref a0), (1, .int x1), (2, .int x2), (3, .int x3)] [] hp sz 0 0) : zG P (zoP sz hp) (j_X8_undeclared_35 k44 rec a0 x1 x3 s0 hp) 35 [(0, .ref a0), (1, .int x1), (3, .int x3)] [.int s0] hp sz 0 0 := by
  unfold j_X8_undeclared_35
  refine z_iconst C dX8_undeclared_35 zi_0 ?_
  exact wj_X8_undeclared_36 C hk44 hrec
noncomputable def b_X8_undeclared_4 (k44 : Int32 → Option Int32) (a0 : Nat) (x1 : Int32) (hp : zHp) (rec : Int32 → Int32 → Option Int32) (x2 : Int32) (x3 : Int32) : Option Int32 :=
  (f_X8_many a0 (2 : Int32) hp).bind fun v1 => if x3 < v1 then ((f_X8_isWardIn a0 x3 x1 hp).bind fun v2 => if v2 = 0 then (j_X8_undeclared_35 k44 rec a0 x1 x3 x2 hp) else (f_X8_isDeclared a0 x3 hp).bind fun v5 => if v5 = 0 then (j_X8_undeclared_36 k44 rec a0 x1 x3 x2 (1 : Int32) hp) else j_X8_undeclared_35 k44 rec a0 x1 x3 x2 hp) else k44 x2
noncomputable def l_X8_undeclared_4 (k44 : Int32 → Option Int32) (a0 : Nat) (x1 : Int32) (hp : zHp) (n : Nat) : Int32 → Int32 → Option Int32 :=
  Nat.rec (motive := fun _ => Int32 → Int32 → Option Int32) (fun _ _ => none) (fun _ rec => b_X8_undeclared_4 k44 a0 x1 hp rec) n
theorem l_X8_undeclared_4_s (k44 : Int32 → Option Int32) (a0 : Nat) (x1 : Int32) (hp : zHp) (n : Nat) (x2 : Int32) (x3 : Int32) : l_X8_undeclared_4 k44 a0 x1 hp (n + 1) x2 x3 = b_X8_undeclared_4 k44 a0 x1 hp (l_X8_undeclared_4 k44 a0 x1 hp n) x2 x3 := rfl
set_option maxHeartbeats 4000000 in
set_option maxRecDepth 100000 in
theorem wl_X8_undeclared_4 {P : zX} {ro : Nat → Nat} {sz : Nat} (C : zC P cX8_undeclared RX8 (some .int) 3 0 0 4 ro) {a0 : Nat} {x1 : Int32} {hp : zHp} {k44 : Int32 → Option Int32} (hk44 : ∀ (x2 : Int32), zG P (zoP sz hp) (k44 x2) 44 [(2, .int x2)] [] hp sz 0 0) : ∀ (n : Nat) (x2 : Int32) (x3 : Int32), zG P (zoP sz hp) (l_X8_undeclared_4 k44 a0 x1 hp n x2 x3) 4 [(0, .ref a0), (1, .int x1), (2, .int x2), (3, .int x3)] [] hp sz 0 0 := by
  intro n
  induction n with
  | zero =>
    intro x2 x3
    show zG P (zoP sz hp) none _ _ _ _ _ _ _
    exact z_none
  | succ n ih =>
    intro x2 x3
    show zG P (zoP sz hp) (b_X8_undeclared_4 k44 a0 x1 hp (l_X8_undeclared_4 k44 a0 x1 hp n) x2 x3) _ _ _ _ _ _ _
    unfold b_X8_undeclared_4
    refine z_iload_n C dX8_undeclared_4 3 rfl ?_
    refine z_aload_n C dX8_undeclared_5 0 rfl ?_
    refine z_iconst C dX8_undeclared_6 zi_2 ?_
    refine z_callVp C zc_X8_44 [.int (2 : Int32)] (fun l D tc b0 r h => m_X8_many l D tc ro b0 h) dX8_undeclared_7 rfl rfl (Nat.le_of_ble_eq_true rfl) (by decide) (by decide) ⟨Nat.le_of_ble_eq_true rfl, Nat.le_of_ble_eq_true rfl⟩ (fun v1 => ?_)
    refine z_icmp_ge C 44 dX8_undeclared_10 (by decide) ?_ ?_
    · refine z_iload_n C dX8_undeclared_13 2 rfl ?_
      refine z_aload_n C dX8_undeclared_14 0 rfl ?_
      refine z_iload_n C dX8_undeclared_15 3 rfl ?_
      refine z_iload_n C dX8_undeclared_16 1 rfl ?_
      refine z_callVp C zc_X8_132 [.int x3, .int x1] (fun l D tc b0 r h => m_X8_isWardIn l D tc ro b0 h) dX8_undeclared_17 rfl rfl (Nat.le_of_ble_eq_true rfl) (by decide) (by decide) ⟨Nat.le_of_ble_eq_true rfl, Nat.le_of_ble_eq_true rfl⟩ (fun v2 => ?_)
      refine z_if_eq C 35 dX8_undeclared_20 (by decide) ?_ ?_
      · exact z_sub [0, 1, 3] rfl (wj_X8_undeclared_35 C hk44 ih)
      refine z_aload_n C dX8_undeclared_23 0 rfl ?_
      refine z_iload_n C dX8_undeclared_24 3 rfl ?_
      refine z_callVp C zc_X8_109 [.int x3] (fun l D tc b0 r h => m_X8_isDeclared l D tc ro b0 h) dX8_undeclared_25 rfl rfl (Nat.le_of_ble_eq_true rfl) (by decide) (by decide) ⟨Nat.le_of_ble_eq_true rfl, Nat.le_of_ble_eq_true rfl⟩ (fun v5 => ?_)
      refine z_if_ne C 35 dX8_undeclared_28 (by decide) ?_ ?_
      · refine z_iconst C dX8_undeclared_31 zi_1 ?_
        refine z_goto C 36 dX8_undeclared_32 (by decide) ?_
        exact z_sub [0, 1, 3] rfl (wj_X8_undeclared_36 C hk44 ih)
      exact z_sub [0, 1, 3] rfl (wj_X8_undeclared_35 C hk44 ih)
    exact z_sub [2] rfl (hk44 _)
noncomputable def f_X8_undeclared (a0 : Nat) (x1 : Int32) (hp : zHp) : Option Int32 :=
  (zis hp a0 8).bind fun _ => l_X8_undeclared_4 (fun p6 => some p6) a0 x1 hp 1000000 (0 : Int32) (0 : Int32)
set_option maxHeartbeats 4000000 in
set_option maxRecDepth 100000 in
theorem m_X8_undeclared (l : Launch) (D : va_G) (tc : Nat → ClassId) (ro : Nat → Nat) (b0 : Nat) {a0 : Nat} {x1 : Int32} {hp : zHp} {sz : Nat} {r : Int32} (h : f_X8_undeclared a0 x1 hp = some r) : zis hp a0 8 = some () ∧ zM l yX8_undeclared cX8_undeclared 4 (some .int) 3 0 0 [.ref a0, .int x1] D tc ro b0 hp sz ((zoP sz hp) r).1 ((zoP sz hp) r).2.1 ((zoP sz hp) r).2.2 := by
  refine ⟨?_, z_start (o := (zoP sz hp)) (lv := [(0, .ref a0), (1, .int x1)]) h (by decide +kernel) RX8 rfl rfl (Nat.le_of_ble_eq_true rfl) (fun P C => ?_)⟩
  · unfold f_X8_undeclared at h
    cases hc : zis hp a0 8 with
    | none => rw [hc] at h; cases h
    | some u => rfl
  unfold f_X8_undeclared
  refine z_is ?_
  refine z_iconst C dX8_undeclared_0 zi_0 ?_
  refine z_istore_n (lv' := [(0, .ref a0), (1, .int x1), (2, .int (0 : Int32))]) C dX8_undeclared_1 (by decide) rfl ?_
  refine z_iconst C dX8_undeclared_2 zi_0 ?_
  refine z_istore_n (lv' := [(0, .ref a0), (1, .int x1), (2, .int (0 : Int32)), (3, .int (0 : Int32))]) C dX8_undeclared_3 (by decide) rfl ?_
  refine wl_X8_undeclared_4 C (fun p6 => ?_) _ _ _
  refine z_iload_n C dX8_undeclared_44 0 rfl ?_
  exact z_ireturnP C dX8_undeclared_45
noncomputable def f_X8_here (a0 : Nat) (hp : zHp) : Option Int32 :=
  (zis hp a0 8).bind fun _ => (zgI hp a0 8 10).bind fun v1 => (zgI hp a0 8 9).bind fun v2 => if v1 < v2 then ((zgR hp a0 8 1).bind fun r3 => (zgI hp a0 8 10).bind fun v4 => (zaI hp 0 r3 v4).bind fun v5 => some v5) else some (-1 : Int32)
set_option maxHeartbeats 4000000 in
set_option maxRecDepth 100000 in
theorem m_X8_here (l : Launch) (D : va_G) (tc : Nat → ClassId) (ro : Nat → Nat) (b0 : Nat) {a0 : Nat} {hp : zHp} {sz : Nat} {r : Int32} (h : f_X8_here a0 hp = some r) : zis hp a0 8 = some () ∧ zM l yX8_here cX8_here 1 (some .int) 1 0 0 [.ref a0] D tc ro b0 hp sz ((zoP sz hp) r).1 ((zoP sz hp) r).2.1 ((zoP sz hp) r).2.2 := by
  refine ⟨?_, z_start (o := (zoP sz hp)) (lv := [(0, .ref a0)]) h (by decide +kernel) RX8 rfl rfl (Nat.le_of_ble_eq_true rfl) (fun P C => ?_)⟩
  · unfold f_X8_here at h
    cases hc : zis hp a0 8 with
    | none => rw [hc] at h; cases h
    | some u => rfl
  unfold f_X8_here
  refine z_is ?_
  refine z_aload_n C dX8_here_0 0 rfl ?_
  refine z_getI C zf_X8_135 dX8_here_1 (fun v1 => ?_)
  refine z_aload_n C dX8_here_4 0 rfl ?_
  refine z_getI C zf_X8_138 dX8_here_5 (fun v2 => ?_)
  refine z_icmp_ge C 23 dX8_here_8 (by decide) ?_ ?_
  · refine z_aload_n C dX8_here_11 0 rfl ?_
    refine z_getR C zf_X8_7 dX8_here_12 (fun r3 => ?_)
    refine z_aload_n C dX8_here_15 0 rfl ?_
    refine z_getI C zf_X8_135 dX8_here_16 (fun v4 => ?_)
    refine z_iaload C dX8_here_19 (fun v5 => ?_)
    refine z_goto C 24 dX8_here_20 (by decide) ?_
    exact z_ireturnP C dX8_here_24
  refine z_iconst C dX8_here_23 zi_m1 ?_
  exact z_ireturnP C dX8_here_24
noncomputable def f_X8_isSmall (x0 : Int32) (hp : zHp) : Option Int32 :=
  if x0 < (97 : Int32) then (some (0 : Int32)) else if (122 : Int32) < x0 then (some (0 : Int32)) else some (1 : Int32)
set_option maxHeartbeats 4000000 in
set_option maxRecDepth 100000 in
theorem m_X8_isSmall (l : Launch) (D : va_G) (tc : Nat → ClassId) (ro : Nat → Nat) (b0 : Nat) {x0 : Int32} {hp : zHp} {sz : Nat} {r : Int32} (h : f_X8_isSmall x0 hp = some r) : zM l yX8_isSmall cX8_isSmall 1 (some .boolean) 1 0 0 [.int x0] D tc ro b0 hp sz ((zoP sz hp) r).1 ((zoP sz hp) r).2.1 ((zoP sz hp) r).2.2 := by
  refine z_start (o := (zoP sz hp)) (lv := [(0, .int x0)]) h (by decide +kernel) RX8 rfl rfl (Nat.le_of_ble_eq_true rfl) (fun P C => ?_)
  unfold f_X8_isSmall
  refine z_iload_n C dX8_isSmall_0 0 rfl ?_
  refine z_bipush C dX8_isSmall_1 zbi_97 ?_
  refine z_icmp_lt C 16 dX8_isSmall_3 (by decide) ?_ ?_
  · refine z_iconst C dX8_isSmall_16 zi_0 ?_
    exact z_kreturnP C rfl dX8_isSmall_17
  refine z_iload_n C dX8_isSmall_6 0 rfl ?_
  refine z_bipush C dX8_isSmall_7 zbi_122 ?_
  refine z_icmp_gt C 16 dX8_isSmall_9 (by decide) ?_ ?_
  · refine z_iconst C dX8_isSmall_16 zi_0 ?_
    exact z_kreturnP C rfl dX8_isSmall_17
  refine z_iconst C dX8_isSmall_12 zi_1 ?_
  refine z_goto C 17 dX8_isSmall_13 (by decide) ?_
  exact z_kreturnP C rfl dX8_isSmall_17
noncomputable def f_X8_isDigit (x0 : Int32) (hp : zHp) : Option Int32 :=
  if x0 < (48 : Int32) then (some (0 : Int32)) else if (57 : Int32) < x0 then (some (0 : Int32)) else some (1 : Int32)
set_option maxHeartbeats 4000000 in
set_option maxRecDepth 100000 in
theorem m_X8_isDigit (l : Launch) (D : va_G) (tc : Nat → ClassId) (ro : Nat → Nat) (b0 : Nat) {x0 : Int32} {hp : zHp} {sz : Nat} {r : Int32} (h : f_X8_isDigit x0 hp = some r) : zM l yX8_isDigit cX8_isDigit 1 (some .boolean) 1 0 0 [.int x0] D tc ro b0 hp sz ((zoP sz hp) r).1 ((zoP sz hp) r).2.1 ((zoP sz hp) r).2.2 := by
  refine z_start (o := (zoP sz hp)) (lv := [(0, .int x0)]) h (by decide +kernel) RX8 rfl rfl (Nat.le_of_ble_eq_true rfl) (fun P C => ?_)
  unfold f_X8_isDigit
  refine z_iload_n C dX8_isDigit_0 0 rfl ?_
  refine z_bipush C dX8_isDigit_1 zbi_48 ?_
  refine z_icmp_lt C 16 dX8_isDigit_3 (by decide) ?_ ?_
  · refine z_iconst C dX8_isDigit_16 zi_0 ?_
    exact z_kreturnP C rfl dX8_isDigit_17
  refine z_iload_n C dX8_isDigit_6 0 rfl ?_
  refine z_bipush C dX8_isDigit_7 zbi_57 ?_
  refine z_icmp_gt C 16 dX8_isDigit_9 (by decide) ?_ ?_
  · refine z_iconst C dX8_isDigit_16 zi_0 ?_
    exact z_kreturnP C rfl dX8_isDigit_17
  refine z_iconst C dX8_isDigit_12 zi_1 ?_
  refine z_goto C 17 dX8_isDigit_13 (by decide) ?_
  exact z_kreturnP C rfl dX8_isDigit_17
noncomputable def j_X8_next_18 (k31 : zHp → Option zHp) (rec : zHp → Option zHp) (a0 : Nat) (h : zHp) : Option zHp :=
  (zgI h a0 8 10).bind fun v2 => (zpV h a0 8 10 (.int (v2 + (1 : Int32)))).bind fun h3 => rec h3
set_option maxHeartbeats 4000000 in
set_option maxRecDepth 100000 in
theorem wj_X8_next_18 {P : zX} {ro : Nat → Nat} {sz : Nat} (C : zC P cX8_next RX8 none 2 0 0 2 ro) {a0 : Nat} {h : zHp} {k31 : zHp → Option zHp} (hk31 : ∀ (h : zHp), zG P (zoV sz) (k31 h) 31 [(0, .ref a0)] [] h sz 0 0) {rec : zHp → Option zHp} (hrec : ∀ (h : zHp), zG P (zoV sz) (rec h) 0 [(0, .ref a0)] [] h sz 0 0) : zG P (zoV sz) (j_X8_next_18 k31 rec a0 h) 18 [(0, .ref a0)] [] h sz 0 0 := by
  unfold j_X8_next_18
  refine z_aload_n C dX8_next_18 0 rfl ?_
  refine z_dup C dX8_next_19 rfl ?_
  refine z_getI C zf_X8_135 dX8_next_20 (fun v2 => ?_)
  refine z_iconst C dX8_next_23 zi_1 ?_
  refine z_iadd C dX8_next_24 ?_
  refine z_putI C zp_X8_135 dX8_next_25 (fun h3 => ?_)
  refine z_goto C 0 dX8_next_28 (by decide) ?_
  exact hrec _
noncomputable def b_X8_next_0 (k31 : zHp → Option zHp) (a0 : Nat) (rec : zHp → Option zHp) (h : zHp) : Option zHp :=
  (f_X8_here a0 h).bind fun v1 => if v1 = (10 : Int32) then (j_X8_next_18 k31 rec a0 h) else (f_X8_here a0 h).bind fun v4 => if v4 = (32 : Int32) then (j_X8_next_18 k31 rec a0 h) else k31 h
noncomputable def l_X8_next_0 (k31 : zHp → Option zHp) (a0 : Nat) (n : Nat) : zHp → Option zHp :=
  Nat.rec (motive := fun _ => zHp → Option zHp) (fun _ => none) (fun _ rec => b_X8_next_0 k31 a0 rec) n
theorem l_X8_next_0_s (k31 : zHp → Option zHp) (a0 : Nat) (n : Nat) (h : zHp) : l_X8_next_0 k31 a0 (n + 1) h = b_X8_next_0 k31 a0 (l_X8_next_0 k31 a0 n) h := rfl
set_option maxHeartbeats 4000000 in
set_option maxRecDepth 100000 in
theorem wl_X8_next_0 {P : zX} {ro : Nat → Nat} {sz : Nat} (C : zC P cX8_next RX8 none 2 0 0 2 ro) {a0 : Nat} {k31 : zHp → Option zHp} (hk31 : ∀ (h : zHp), zG P (zoV sz) (k31 h) 31 [(0, .ref a0)] [] h sz 0 0) : ∀ (n : Nat) (h : zHp), zG P (zoV sz) (l_X8_next_0 k31 a0 n h) 0 [(0, .ref a0)] [] h sz 0 0 := by
  intro n
  induction n with
  | zero =>
    intro h
    show zG P (zoV sz) none _ _ _ _ _ _ _
    exact z_none
  | succ n ih =>
    intro h
    show zG P (zoV sz) (b_X8_next_0 k31 a0 (l_X8_next_0 k31 a0 n) h) _ _ _ _ _ _ _
    unfold b_X8_next_0
    refine z_aload_n C dX8_next_0 0 rfl ?_
    refine z_callVp C zc_X8_141 [] (fun l D tc b0 r h => m_X8_here l D tc ro b0 h) dX8_next_1 rfl rfl (Nat.le_of_ble_eq_true rfl) (by decide) (by decide) ⟨Nat.le_of_ble_eq_true rfl, Nat.le_of_ble_eq_true rfl⟩ (fun v1 => ?_)
    refine z_bipush C dX8_next_4 zbi_10 ?_
    refine z_icmp_eq C 18 dX8_next_6 (by decide) ?_ ?_
    · exact wj_X8_next_18 C hk31 ih
    refine z_aload_n C dX8_next_9 0 rfl ?_
    refine z_callVp C zc_X8_141 [] (fun l D tc b0 r h => m_X8_here l D tc ro b0 h) dX8_next_10 rfl rfl (Nat.le_of_ble_eq_true rfl) (by decide) (by decide) ⟨Nat.le_of_ble_eq_true rfl, Nat.le_of_ble_eq_true rfl⟩ (fun v4 => ?_)
    refine z_bipush C dX8_next_13 zbi_32 ?_
    refine z_icmp_ne C 31 dX8_next_15 (by decide) ?_ ?_
    · exact wj_X8_next_18 C hk31 ih
    exact hk31 _
noncomputable def j_X8_next_182 (a0 : Nat) (s0 : Nat) (s1 : Int32) (h : zHp) : Option zHp :=
  (zpV h s0 8 12 (.int s1)).bind fun h11 => (zgI h11 a0 8 10).bind fun v12 => (zpV h11 a0 8 10 (.int (v12 + (1 : Int32)))).bind fun h13 => some h13
set_option maxHeartbeats 4000000 in
set_option maxRecDepth 100000 in
theorem wj_X8_next_182 {P : zX} {ro : Nat → Nat} {sz : Nat} (C : zC P cX8_next RX8 none 2 0 0 2 ro) {a0 : Nat} {s0 : Nat} {s1 : Int32} {h : zHp}  : zG P (zoV sz) (j_X8_next_182 a0 s0 s1 h) 182 [(0, .ref a0)] [.int s1, .ref s0] h sz 0 0 := by
  unfold j_X8_next_182
  refine z_putI C zp_X8_147 dX8_next_182 (fun h11 => ?_)
  refine z_aload_n C dX8_next_185 0 rfl ?_
  refine z_dup C dX8_next_186 rfl ?_
  refine z_getI C zf_X8_135 dX8_next_187 (fun v12 => ?_)
  refine z_iconst C dX8_next_190 zi_1 ?_
  refine z_iadd C dX8_next_191 ?_
  refine z_putI C zp_X8_135 dX8_next_192 (fun h13 => ?_)
  exact z_return C dX8_next_195
noncomputable def j_X8_next_154 (k195 : zHp → Option zHp) (rec : zHp → Option zHp) (a0 : Nat) (s0 : Nat) (s1 : Int32) (h : zHp) : Option zHp :=
  (zpV h s0 8 13 (.int s1)).bind fun h21 => (zgI h21 a0 8 10).bind fun v22 => (zpV h21 a0 8 10 (.int (v22 + (1 : Int32)))).bind fun h23 => rec h23
set_option maxHeartbeats 4000000 in
set_option maxRecDepth 100000 in
theorem wj_X8_next_154 {P : zX} {ro : Nat → Nat} {sz : Nat} (C : zC P cX8_next RX8 none 2 0 0 2 ro) {a0 : Nat} {s0 : Nat} {s1 : Int32} {h : zHp} {k195 : zHp → Option zHp} (hk195 : ∀ (h : zHp), zG P (zoV sz) (k195 h) 195 [] [] h sz 0 0) {rec : zHp → Option zHp} (hrec : ∀ (h : zHp), zG P (zoV sz) (rec h) 112 [(0, .ref a0)] [] h sz 0 0) : zG P (zoV sz) (j_X8_next_154 k195 rec a0 s0 s1 h) 154 [(0, .ref a0)] [.int s1, .ref s0] h sz 0 0 := by
  unfold j_X8_next_154
  refine z_putI C zp_X8_156 dX8_next_154 (fun h21 => ?_)
  refine z_aload_n C dX8_next_157 0 rfl ?_
  refine z_dup C dX8_next_158 rfl ?_
  refine z_getI C zf_X8_135 dX8_next_159 (fun v22 => ?_)
  refine z_iconst C dX8_next_162 zi_1 ?_
  refine z_iadd C dX8_next_163 ?_
  refine z_putI C zp_X8_135 dX8_next_164 (fun h23 => ?_)
  refine z_goto C 112 dX8_next_167 (by decide) ?_
  exact hrec _
noncomputable def b_X8_next_112 (k195 : zHp → Option zHp) (a0 : Nat) (rec : zHp → Option zHp) (h : zHp) : Option zHp :=
  (f_X8_here a0 h).bind fun v16 => (f_X8_isDigit v16 h).bind fun v17 => if v17 = 0 then (k195 h) else (zgI h a0 8 13).bind fun v18 => if (100000 : Int32) < v18 then ((zgI h a0 8 13).bind fun v24 => j_X8_next_154 k195 rec a0 a0 v24 h) else (zgI h a0 8 13).bind fun v19 => (f_X8_here a0 h).bind fun v20 => j_X8_next_154 k195 rec a0 a0 ((((10 : Int32) * v19) + v20) - (48 : Int32)) h
noncomputable def l_X8_next_112 (k195 : zHp → Option zHp) (a0 : Nat) (n : Nat) : zHp → Option zHp :=
  Nat.rec (motive := fun _ => zHp → Option zHp) (fun _ => none) (fun _ rec => b_X8_next_112 k195 a0 rec) n
theorem l_X8_next_112_s (k195 : zHp → Option zHp) (a0 : Nat) (n : Nat) (h : zHp) : l_X8_next_112 k195 a0 (n + 1) h = b_X8_next_112 k195 a0 (l_X8_next_112 k195 a0 n) h := rfl
set_option maxHeartbeats 4000000 in
set_option maxRecDepth 100000 in
theorem wl_X8_next_112 {P : zX} {ro : Nat → Nat} {sz : Nat} (C : zC P cX8_next RX8 none 2 0 0 2 ro) {a0 : Nat} {k195 : zHp → Option zHp} (hk195 : ∀ (h : zHp), zG P (zoV sz) (k195 h) 195 [] [] h sz 0 0) : ∀ (n : Nat) (h : zHp), zG P (zoV sz) (l_X8_next_112 k195 a0 n h) 112 [(0, .ref a0)] [] h sz 0 0 := by
  intro n
  induction n with
  | zero =>
    intro h
    show zG P (zoV sz) none _ _ _ _ _ _ _
    exact z_none
  | succ n ih =>
    intro h
    show zG P (zoV sz) (b_X8_next_112 k195 a0 (l_X8_next_112 k195 a0 n) h) _ _ _ _ _ _ _
    unfold b_X8_next_112
    refine z_aload_n C dX8_next_112 0 rfl ?_
    refine z_callVp C zc_X8_141 [] (fun l D tc b0 r h => m_X8_here l D tc ro b0 h) dX8_next_113 rfl rfl (Nat.le_of_ble_eq_true rfl) (by decide) (by decide) ⟨Nat.le_of_ble_eq_true rfl, Nat.le_of_ble_eq_true rfl⟩ (fun v16 => ?_)
    refine z_callSp C zs_X8_153 [.int v16] (fun l D tc b0 r h => m_X8_isDigit l D tc ro b0 h) dX8_next_116 rfl rfl (Nat.le_of_ble_eq_true rfl) (by decide) (by decide) ⟨Nat.le_of_ble_eq_true rfl, Nat.le_of_ble_eq_true rfl⟩ (fun v17 => ?_)
    refine z_if_eq C 195 dX8_next_119 (by decide) ?_ ?_
    · exact z_sub [] rfl (hk195 _)
    refine z_aload_n C dX8_next_122 0 rfl ?_
    refine z_aload_n C dX8_next_123 0 rfl ?_
    refine z_getI C zf_X8_156 dX8_next_124 (fun v18 => ?_)
    refine z_ldcI C zk_X8_122 dX8_next_127 ?_
    refine z_icmp_le C 139 dX8_next_129 (by decide) ?_ ?_
    · refine z_aload_n C dX8_next_132 0 rfl ?_
      refine z_getI C zf_X8_156 dX8_next_133 (fun v24 => ?_)
      refine z_goto C 154 dX8_next_136 (by decide) ?_
      exact wj_X8_next_154 C hk195 ih
    refine z_bipush C dX8_next_139 zbi_10 ?_
    refine z_aload_n C dX8_next_141 0 rfl ?_
    refine z_getI C zf_X8_156 dX8_next_142 (fun v19 => ?_)
    refine z_imul C dX8_next_145 ?_
    refine z_aload_n C dX8_next_146 0 rfl ?_
    refine z_callVp C zc_X8_141 [] (fun l D tc b0 r h => m_X8_here l D tc ro b0 h) dX8_next_147 rfl rfl (Nat.le_of_ble_eq_true rfl) (by decide) (by decide) ⟨Nat.le_of_ble_eq_true rfl, Nat.le_of_ble_eq_true rfl⟩ (fun v20 => ?_)
    refine z_iadd C dX8_next_150 ?_
    refine z_bipush C dX8_next_151 zbi_48 ?_
    refine z_isub C dX8_next_153 ?_
    exact wj_X8_next_154 C hk195 ih
noncomputable def b_X8_next_64 (k87 : zHp → Option zHp) (a0 : Nat) (rec : zHp → Option zHp) (h : zHp) : Option zHp :=
  (f_X8_here a0 h).bind fun v26 => (f_X8_isSmall v26 h).bind fun v27 => if v27 = 0 then (k87 h) else (zgI h a0 8 10).bind fun v28 => (zpV h a0 8 10 (.int (v28 + (1 : Int32)))).bind fun h29 => rec h29
noncomputable def l_X8_next_64 (k87 : zHp → Option zHp) (a0 : Nat) (n : Nat) : zHp → Option zHp :=
  Nat.rec (motive := fun _ => zHp → Option zHp) (fun _ => none) (fun _ rec => b_X8_next_64 k87 a0 rec) n
theorem l_X8_next_64_s (k87 : zHp → Option zHp) (a0 : Nat) (n : Nat) (h : zHp) : l_X8_next_64 k87 a0 (n + 1) h = b_X8_next_64 k87 a0 (l_X8_next_64 k87 a0 n) h := rfl
set_option maxHeartbeats 4000000 in
set_option maxRecDepth 100000 in
theorem wl_X8_next_64 {P : zX} {ro : Nat → Nat} {sz : Nat} (C : zC P cX8_next RX8 none 2 0 0 2 ro) {a0 : Nat} {k87 : zHp → Option zHp} (hk87 : ∀ (h : zHp), zG P (zoV sz) (k87 h) 87 [(0, .ref a0)] [] h sz 0 0) : ∀ (n : Nat) (h : zHp), zG P (zoV sz) (l_X8_next_64 k87 a0 n h) 64 [(0, .ref a0)] [] h sz 0 0 := by
  intro n
  induction n with
  | zero =>
    intro h
    show zG P (zoV sz) none _ _ _ _ _ _ _
    exact z_none
  | succ n ih =>
    intro h
    show zG P (zoV sz) (b_X8_next_64 k87 a0 (l_X8_next_64 k87 a0 n) h) _ _ _ _ _ _ _
    unfold b_X8_next_64
    refine z_aload_n C dX8_next_64 0 rfl ?_
    refine z_callVp C zc_X8_141 [] (fun l D tc b0 r h => m_X8_here l D tc ro b0 h) dX8_next_65 rfl rfl (Nat.le_of_ble_eq_true rfl) (by decide) (by decide) ⟨Nat.le_of_ble_eq_true rfl, Nat.le_of_ble_eq_true rfl⟩ (fun v26 => ?_)
    refine z_callSp C zs_X8_150 [.int v26] (fun l D tc b0 r h => m_X8_isSmall l D tc ro b0 h) dX8_next_68 rfl rfl (Nat.le_of_ble_eq_true rfl) (by decide) (by decide) ⟨Nat.le_of_ble_eq_true rfl, Nat.le_of_ble_eq_true rfl⟩ (fun v27 => ?_)
    refine z_if_eq C 87 dX8_next_71 (by decide) ?_ ?_
    · exact hk87 _
    refine z_aload_n C dX8_next_74 0 rfl ?_
    refine z_dup C dX8_next_75 rfl ?_
    refine z_getI C zf_X8_135 dX8_next_76 (fun v28 => ?_)
    refine z_iconst C dX8_next_79 zi_1 ?_
    refine z_iadd C dX8_next_80 ?_
    refine z_putI C zp_X8_135 dX8_next_81 (fun h29 => ?_)
    refine z_goto C 64 dX8_next_84 (by decide) ?_
    exact ih _
noncomputable def f_X8_next (a0 : Nat) (hp : zHp) : Option zHp :=
  (zis hp a0 8).bind fun _ => l_X8_next_0 (fun h5 => (zgI h5 a0 8 10).bind fun v6 => (zpV h5 a0 8 11 (.int v6)).bind fun h7 => (f_X8_here a0 h7).bind fun v8 => if v8 = (-1 : Int32) then ((zpV h7 a0 8 12 (.int (3 : Int32))).bind fun h32 => some h32) else (f_X8_isSmall v8 h7).bind fun v9 => if v9 = 0 then ((f_X8_isDigit v8 h7).bind fun v10 => if v10 = 0 then (if v8 = (59 : Int32) then (j_X8_next_182 a0 a0 (2 : Int32) h7) else j_X8_next_182 a0 a0 (4 : Int32) h7) else (zpV h7 a0 8 12 (.int (1 : Int32))).bind fun h14 => (zpV h14 a0 8 13 (.int (0 : Int32))).bind fun h15 => l_X8_next_112 (fun h25 => some h25) a0 1000000 h15) else l_X8_next_64 (fun h30 => (zpV h30 a0 8 12 (.int (0 : Int32))).bind fun h31 => some h31) a0 1000000 h7) a0 1000000 hp
set_option maxHeartbeats 4000000 in
set_option maxRecDepth 100000 in
theorem m_X8_next (l : Launch) (D : va_G) (tc : Nat → ClassId) (ro : Nat → Nat) (b0 : Nat) {a0 : Nat} {hp : zHp} {sz : Nat} {r : zHp} (h : f_X8_next a0 hp = some r) : zis hp a0 8 = some () ∧ zM l yX8_next cX8_next 2 none 2 0 0 [.ref a0] D tc ro b0 hp sz ((zoV sz) r).1 ((zoV sz) r).2.1 ((zoV sz) r).2.2 := by
  refine ⟨?_, z_start (o := (zoV sz)) (lv := [(0, .ref a0)]) h (by decide +kernel) RX8 rfl rfl (Nat.le_of_ble_eq_true rfl) (fun P C => ?_)⟩
  · unfold f_X8_next at h
    cases hc : zis hp a0 8 with
    | none => rw [hc] at h; cases h
    | some u => rfl
  unfold f_X8_next
  refine z_is ?_
  refine wl_X8_next_0 C (fun h5 => ?_) _ _
  refine z_aload_n C dX8_next_31 0 rfl ?_
  refine z_aload_n C dX8_next_32 0 rfl ?_
  refine z_getI C zf_X8_135 dX8_next_33 (fun v6 => ?_)
  refine z_putI C zp_X8_144 dX8_next_36 (fun h7 => ?_)
  refine z_aload_n C dX8_next_39 0 rfl ?_
  refine z_callVp C zc_X8_141 [] (fun l D tc b0 r h => m_X8_here l D tc ro b0 h) dX8_next_40 rfl rfl (Nat.le_of_ble_eq_true rfl) (by decide) (by decide) ⟨Nat.le_of_ble_eq_true rfl, Nat.le_of_ble_eq_true rfl⟩ (fun v8 => ?_)
  refine z_istore_n (lv' := [(0, .ref a0), (1, .int v8)]) C dX8_next_43 (by decide) rfl ?_
  refine z_iload_n C dX8_next_44 1 rfl ?_
  refine z_iconst C dX8_next_45 zi_m1 ?_
  refine z_icmp_ne C 57 dX8_next_46 (by decide) ?_ ?_
  · refine z_aload_n C dX8_next_49 0 rfl ?_
    refine z_iconst C dX8_next_50 zi_3 ?_
    refine z_putI C zp_X8_147 dX8_next_51 (fun h32 => ?_)
    refine z_goto C 195 dX8_next_54 (by decide) ?_
    exact z_return C dX8_next_195
  refine z_iload_n C dX8_next_57 1 rfl ?_
  refine z_callSp C zs_X8_150 [.int v8] (fun l D tc b0 r h => m_X8_isSmall l D tc ro b0 h) dX8_next_58 rfl rfl (Nat.le_of_ble_eq_true rfl) (by decide) (by decide) ⟨Nat.le_of_ble_eq_true rfl, Nat.le_of_ble_eq_true rfl⟩ (fun v9 => ?_)
  refine z_if_eq C 95 dX8_next_61 (by decide) ?_ ?_
  · refine z_iload_n C dX8_next_95 1 rfl ?_
    refine z_callSp C zs_X8_153 [.int v8] (fun l D tc b0 r h => m_X8_isDigit l D tc ro b0 h) dX8_next_96 rfl rfl (Nat.le_of_ble_eq_true rfl) (by decide) (by decide) ⟨Nat.le_of_ble_eq_true rfl, Nat.le_of_ble_eq_true rfl⟩ (fun v10 => ?_)
    refine z_if_eq C 170 dX8_next_99 (by decide) ?_ ?_
    · refine z_aload_n C dX8_next_170 0 rfl ?_
      refine z_iload_n C dX8_next_171 1 rfl ?_
      refine z_bipush C dX8_next_172 zbi_59 ?_
      refine z_icmp_ne C 181 dX8_next_174 (by decide) ?_ ?_
      · refine z_iconst C dX8_next_177 zi_2 ?_
        refine z_goto C 182 dX8_next_178 (by decide) ?_
        exact z_sub [0] rfl (wj_X8_next_182 C)
      refine z_iconst C dX8_next_181 zi_4 ?_
      exact z_sub [0] rfl (wj_X8_next_182 C)
    refine z_aload_n C dX8_next_102 0 rfl ?_
    refine z_iconst C dX8_next_103 zi_1 ?_
    refine z_putI C zp_X8_147 dX8_next_104 (fun h14 => ?_)
    refine z_aload_n C dX8_next_107 0 rfl ?_
    refine z_iconst C dX8_next_108 zi_0 ?_
    refine z_putI C zp_X8_156 dX8_next_109 (fun h15 => ?_)
    refine z_sub [0] rfl (wl_X8_next_112 C (fun h25 => ?_) _ _)
    exact z_return C dX8_next_195
  refine z_sub [0] rfl (wl_X8_next_64 C (fun h30 => ?_) _ _)
  refine z_aload_n C dX8_next_87 0 rfl ?_
  refine z_iconst C dX8_next_88 zi_0 ?_
  refine z_putI C zp_X8_147 dX8_next_89 (fun h31 => ?_)
  refine z_goto C 195 dX8_next_92 (by decide) ?_
  exact z_return C dX8_next_195
noncomputable def b_X8_wordOf_22 (k78 : Int32 → Option Int32) (a0 : Nat) (a1 : Nat) (x2 : Int32) (x3 : Int32) (hp : zHp) (rec : Int32 → Option Int32) (x4 : Int32) : Option Int32 :=
  (f_J0_charAt_5068e a1 (x3 + x4) hp).bind fun v3 => if v3 = (32 : Int32) then (k78 x4) else (zgI hp a0 8 11).bind fun v4 => (zgI hp a0 8 10).bind fun v5 => if (v4 + x4) < v5 then ((zgR hp a0 8 1).bind fun r6 => (zgI hp a0 8 11).bind fun v7 => (zaI hp 0 r6 (v7 + x4)).bind fun v8 => (f_J0_charAt_5068e a1 (x3 + x4) hp).bind fun v9 => if v8 = v9 then (zlet (x4 + (1 : Int32)) fun v10 => rec v10) else k78 x4) else k78 x4
noncomputable def l_X8_wordOf_22 (k78 : Int32 → Option Int32) (a0 : Nat) (a1 : Nat) (x2 : Int32) (x3 : Int32) (hp : zHp) (n : Nat) : Int32 → Option Int32 :=
  Nat.rec (motive := fun _ => Int32 → Option Int32) (fun _ => none) (fun _ rec => b_X8_wordOf_22 k78 a0 a1 x2 x3 hp rec) n
theorem l_X8_wordOf_22_s (k78 : Int32 → Option Int32) (a0 : Nat) (a1 : Nat) (x2 : Int32) (x3 : Int32) (hp : zHp) (n : Nat) (x4 : Int32) : l_X8_wordOf_22 k78 a0 a1 x2 x3 hp (n + 1) x4 = b_X8_wordOf_22 k78 a0 a1 x2 x3 hp (l_X8_wordOf_22 k78 a0 a1 x2 x3 hp n) x4 := rfl
set_option maxHeartbeats 4000000 in
set_option maxRecDepth 100000 in
theorem wl_X8_wordOf_22 {P : zX} {ro : Nat → Nat} {sz : Nat} (C : zC P cX8_wordOf RX8 (some .int) 5 0 0 5 ro) {a0 : Nat} {a1 : Nat} {x2 : Int32} {x3 : Int32} {hp : zHp} {k78 : Int32 → Option Int32} (hk78 : ∀ (x4 : Int32), zG P (zoP sz hp) (k78 x4) 78 [(0, .ref a0), (1, .ref a1), (2, .int x2), (3, .int x3), (4, .int x4)] [] hp sz 0 0) : ∀ (n : Nat) (x4 : Int32), zG P (zoP sz hp) (l_X8_wordOf_22 k78 a0 a1 x2 x3 hp n x4) 22 [(0, .ref a0), (1, .ref a1), (2, .int x2), (3, .int x3), (4, .int x4)] [] hp sz 0 0 := by
  intro n
  induction n with
  | zero =>
    intro x4
    show zG P (zoP sz hp) none _ _ _ _ _ _ _
    exact z_none
  | succ n ih =>
    intro x4
    show zG P (zoP sz hp) (b_X8_wordOf_22 k78 a0 a1 x2 x3 hp (l_X8_wordOf_22 k78 a0 a1 x2 x3 hp n) x4) _ _ _ _ _ _ _
    unfold b_X8_wordOf_22
    refine z_aload_n C dX8_wordOf_22 1 rfl ?_
    refine z_iload_n C dX8_wordOf_23 3 rfl ?_
    refine z_iload C dX8_wordOf_24 4 rfl ?_
    refine z_iadd C dX8_wordOf_26 ?_
    refine z_callVp C zc_X8_164 [.int (x3 + x4)] (fun l D tc b0 r h => m_J0_charAt_5068e l D tc ro b0 h) dX8_wordOf_27 rfl rfl (Nat.le_of_ble_eq_true rfl) (by decide) (by decide) ⟨Nat.le_of_ble_eq_true rfl, Nat.le_of_ble_eq_true rfl⟩ (fun v3 => ?_)
    refine z_bipush C dX8_wordOf_30 zbi_32 ?_
    refine z_icmp_eq C 78 dX8_wordOf_32 (by decide) ?_ ?_
    · exact hk78 _
    refine z_aload_n C dX8_wordOf_35 0 rfl ?_
    refine z_getI C zf_X8_144 dX8_wordOf_36 (fun v4 => ?_)
    refine z_iload C dX8_wordOf_39 4 rfl ?_
    refine z_iadd C dX8_wordOf_41 ?_
    refine z_aload_n C dX8_wordOf_42 0 rfl ?_
    refine z_getI C zf_X8_135 dX8_wordOf_43 (fun v5 => ?_)
    refine z_icmp_ge C 78 dX8_wordOf_46 (by decide) ?_ ?_
    · refine z_aload_n C dX8_wordOf_49 0 rfl ?_
      refine z_getR C zf_X8_7 dX8_wordOf_50 (fun r6 => ?_)
      refine z_aload_n C dX8_wordOf_53 0 rfl ?_
      refine z_getI C zf_X8_144 dX8_wordOf_54 (fun v7 => ?_)
      refine z_iload C dX8_wordOf_57 4 rfl ?_
      refine z_iadd C dX8_wordOf_59 ?_
      refine z_iaload C dX8_wordOf_60 (fun v8 => ?_)
      refine z_aload_n C dX8_wordOf_61 1 rfl ?_
      refine z_iload_n C dX8_wordOf_62 3 rfl ?_
      refine z_iload C dX8_wordOf_63 4 rfl ?_
      refine z_iadd C dX8_wordOf_65 ?_
      refine z_callVp C zc_X8_164 [.int (x3 + x4)] (fun l D tc b0 r h => m_J0_charAt_5068e l D tc ro b0 h) dX8_wordOf_66 rfl rfl (Nat.le_of_ble_eq_true rfl) (by decide) (by decide) ⟨Nat.le_of_ble_eq_true rfl, Nat.le_of_ble_eq_true rfl⟩ (fun v9 => ?_)
      refine z_icmp_ne C 78 dX8_wordOf_69 (by decide) ?_ ?_
      · refine z_iincL C 4 (fun v10 => [(0, .ref a0), (1, .ref a1), (2, .int x2), (3, .int x3), (4, .int v10)]) dX8_wordOf_72 rfl zi_1 (by decide) (fun _ => rfl) (fun v10 => ?_)
        refine z_goto C 22 dX8_wordOf_75 (by decide) ?_
        exact ih _
      exact hk78 _
    exact hk78 _
noncomputable def b_X8_wordOf_107 (k123 : Int32 → Option Int32) (a0 : Nat) (a1 : Nat) (x2 : Int32) (hp : zHp) (rec : Int32 → Option Int32) (x3 : Int32) : Option Int32 :=
  (f_J0_charAt_5068e a1 x3 hp).bind fun v13 => if v13 = (32 : Int32) then (k123 x3) else zlet (x3 + (1 : Int32)) fun v14 => rec v14
noncomputable def l_X8_wordOf_107 (k123 : Int32 → Option Int32) (a0 : Nat) (a1 : Nat) (x2 : Int32) (hp : zHp) (n : Nat) : Int32 → Option Int32 :=
  Nat.rec (motive := fun _ => Int32 → Option Int32) (fun _ => none) (fun _ rec => b_X8_wordOf_107 k123 a0 a1 x2 hp rec) n
theorem l_X8_wordOf_107_s (k123 : Int32 → Option Int32) (a0 : Nat) (a1 : Nat) (x2 : Int32) (hp : zHp) (n : Nat) (x3 : Int32) : l_X8_wordOf_107 k123 a0 a1 x2 hp (n + 1) x3 = b_X8_wordOf_107 k123 a0 a1 x2 hp (l_X8_wordOf_107 k123 a0 a1 x2 hp n) x3 := rfl
set_option maxHeartbeats 4000000 in
set_option maxRecDepth 100000 in
theorem wl_X8_wordOf_107 {P : zX} {ro : Nat → Nat} {sz : Nat} (C : zC P cX8_wordOf RX8 (some .int) 5 0 0 5 ro) {a0 : Nat} {a1 : Nat} {x2 : Int32} {hp : zHp} {k123 : Int32 → Option Int32} (hk123 : ∀ (x3 : Int32), zG P (zoP sz hp) (k123 x3) 123 [(0, .ref a0), (1, .ref a1), (2, .int x2), (3, .int x3)] [] hp sz 0 0) : ∀ (n : Nat) (x3 : Int32), zG P (zoP sz hp) (l_X8_wordOf_107 k123 a0 a1 x2 hp n x3) 107 [(0, .ref a0), (1, .ref a1), (2, .int x2), (3, .int x3)] [] hp sz 0 0 := by
  intro n
  induction n with
  | zero =>
    intro x3
    show zG P (zoP sz hp) none _ _ _ _ _ _ _
    exact z_none
  | succ n ih =>
    intro x3
    show zG P (zoP sz hp) (b_X8_wordOf_107 k123 a0 a1 x2 hp (l_X8_wordOf_107 k123 a0 a1 x2 hp n) x3) _ _ _ _ _ _ _
    unfold b_X8_wordOf_107
    refine z_aload_n C dX8_wordOf_107 1 rfl ?_
    refine z_iload_n C dX8_wordOf_108 3 rfl ?_
    refine z_callVp C zc_X8_164 [.int x3] (fun l D tc b0 r h => m_J0_charAt_5068e l D tc ro b0 h) dX8_wordOf_109 rfl rfl (Nat.le_of_ble_eq_true rfl) (by decide) (by decide) ⟨Nat.le_of_ble_eq_true rfl, Nat.le_of_ble_eq_true rfl⟩ (fun v13 => ?_)
    refine z_bipush C dX8_wordOf_112 zbi_32 ?_
    refine z_icmp_eq C 123 dX8_wordOf_114 (by decide) ?_ ?_
    · exact hk123 _
    refine z_iincL C 3 (fun v14 => [(0, .ref a0), (1, .ref a1), (2, .int x2), (3, .int v14)]) dX8_wordOf_117 rfl zi_1 (by decide) (fun _ => rfl) (fun v14 => ?_)
    refine z_goto C 107 dX8_wordOf_120 (by decide) ?_
    exact ih _
noncomputable def j_X8_wordOf_107 (k105 : Int32 → Option Int32) (k132 : Option Int32) (rec : Int32 → Int32 → Option Int32) (a0 : Nat) (a1 : Nat) (x2 : Int32) (x3 : Int32) (hp : zHp) : Option Int32 :=
  l_X8_wordOf_107 (fun p15 => zlet (p15 + (1 : Int32)) fun v16 => zlet (x2 + (1 : Int32)) fun v17 => rec v17 v16) a0 a1 x2 hp 1000000 x3
set_option maxHeartbeats 4000000 in
set_option maxRecDepth 100000 in
theorem wj_X8_wordOf_107 {P : zX} {ro : Nat → Nat} {sz : Nat} (C : zC P cX8_wordOf RX8 (some .int) 5 0 0 5 ro) {a0 : Nat} {a1 : Nat} {x2 : Int32} {x3 : Int32} {hp : zHp} {k105 : Int32 → Option Int32} (hk105 : ∀ (x2 : Int32), zG P (zoP sz hp) (k105 x2) 105 [(2, .int x2)] [] hp sz 0 0) {k132 : Option Int32} (hk132 : zG P (zoP sz hp) (k132) 132 [] [] hp sz 0 0) {rec : Int32 → Int32 → Option Int32} (hrec : ∀ (x2 : Int32) (x3 : Int32), zG P (zoP sz hp) (rec x2 x3) 4 [(0, .ref a0), (1, .ref a1), (2, .int x2), (3, .int x3)] [] hp sz 0 0) : zG P (zoP sz hp) (j_X8_wordOf_107 k105 k132 rec a0 a1 x2 x3 hp) 107 [(0, .ref a0), (1, .ref a1), (2, .int x2), (3, .int x3)] [] hp sz 0 0 := by
  unfold j_X8_wordOf_107
  refine wl_X8_wordOf_107 C (fun p15 => ?_) _ _
  refine z_iincL C 3 (fun v16 => [(0, .ref a0), (1, .ref a1), (2, .int x2), (3, .int v16)]) dX8_wordOf_123 rfl zi_1 (by decide) (fun _ => rfl) (fun v16 => ?_)
  refine z_iincL C 2 (fun v17 => [(0, .ref a0), (1, .ref a1), (2, .int v17), (3, .int v16)]) dX8_wordOf_126 rfl zi_1 (by decide) (fun _ => rfl) (fun v17 => ?_)
  refine z_goto C 4 dX8_wordOf_129 (by decide) ?_
  exact hrec _ _
noncomputable def b_X8_wordOf_4 (k105 : Int32 → Option Int32) (k132 : Option Int32) (a0 : Nat) (a1 : Nat) (hp : zHp) (rec : Int32 → Int32 → Option Int32) (x2 : Int32) (x3 : Int32) : Option Int32 :=
  (zgI hp a0 8 12).bind fun v1 => if v1 = 0 then ((f_J0_length_8abf5 a1 hp).bind fun v2 => if x3 < v2 then (l_X8_wordOf_22 (fun p11 => (f_J0_charAt_5068e a1 (x3 + p11) hp).bind fun v12 => if v12 = (32 : Int32) then ((zgI hp a0 8 11).bind fun v18 => (zgI hp a0 8 10).bind fun v19 => if (v18 + p11) = v19 then (k105 x2) else j_X8_wordOf_107 k105 k132 rec a0 a1 x2 x3 hp) else j_X8_wordOf_107 k105 k132 rec a0 a1 x2 x3 hp) a0 a1 x2 x3 hp 1000000 (0 : Int32)) else k132) else k132
noncomputable def l_X8_wordOf_4 (k105 : Int32 → Option Int32) (k132 : Option Int32) (a0 : Nat) (a1 : Nat) (hp : zHp) (n : Nat) : Int32 → Int32 → Option Int32 :=
  Nat.rec (motive := fun _ => Int32 → Int32 → Option Int32) (fun _ _ => none) (fun _ rec => b_X8_wordOf_4 k105 k132 a0 a1 hp rec) n
theorem l_X8_wordOf_4_s (k105 : Int32 → Option Int32) (k132 : Option Int32) (a0 : Nat) (a1 : Nat) (hp : zHp) (n : Nat) (x2 : Int32) (x3 : Int32) : l_X8_wordOf_4 k105 k132 a0 a1 hp (n + 1) x2 x3 = b_X8_wordOf_4 k105 k132 a0 a1 hp (l_X8_wordOf_4 k105 k132 a0 a1 hp n) x2 x3 := rfl
set_option maxHeartbeats 4000000 in
set_option maxRecDepth 100000 in
theorem wl_X8_wordOf_4 {P : zX} {ro : Nat → Nat} {sz : Nat} (C : zC P cX8_wordOf RX8 (some .int) 5 0 0 5 ro) {a0 : Nat} {a1 : Nat} {hp : zHp} {k105 : Int32 → Option Int32} (hk105 : ∀ (x2 : Int32), zG P (zoP sz hp) (k105 x2) 105 [(2, .int x2)] [] hp sz 0 0) {k132 : Option Int32} (hk132 : zG P (zoP sz hp) (k132) 132 [] [] hp sz 0 0) : ∀ (n : Nat) (x2 : Int32) (x3 : Int32), zG P (zoP sz hp) (l_X8_wordOf_4 k105 k132 a0 a1 hp n x2 x3) 4 [(0, .ref a0), (1, .ref a1), (2, .int x2), (3, .int x3)] [] hp sz 0 0 := by
  intro n
  induction n with
  | zero =>
    intro x2 x3
    show zG P (zoP sz hp) none _ _ _ _ _ _ _
    exact z_none
  | succ n ih =>
    intro x2 x3
    show zG P (zoP sz hp) (b_X8_wordOf_4 k105 k132 a0 a1 hp (l_X8_wordOf_4 k105 k132 a0 a1 hp n) x2 x3) _ _ _ _ _ _ _
    unfold b_X8_wordOf_4
    refine z_aload_n C dX8_wordOf_4 0 rfl ?_
    refine z_getI C zf_X8_147 dX8_wordOf_5 (fun v1 => ?_)
    refine z_if_ne C 132 dX8_wordOf_8 (by decide) ?_ ?_
    · refine z_iload_n C dX8_wordOf_11 3 rfl ?_
      refine z_aload_n C dX8_wordOf_12 1 rfl ?_
      refine z_callVp C zc_X8_159 [] (fun l D tc b0 r h => m_J0_length_8abf5 l D tc ro b0 h) dX8_wordOf_13 rfl rfl (Nat.le_of_ble_eq_true rfl) (by decide) (by decide) ⟨Nat.le_of_ble_eq_true rfl, Nat.le_of_ble_eq_true rfl⟩ (fun v2 => ?_)
      refine z_icmp_ge C 132 dX8_wordOf_16 (by decide) ?_ ?_
      · refine z_iconst C dX8_wordOf_19 zi_0 ?_
        refine z_istore (lv' := [(0, .ref a0), (1, .ref a1), (2, .int x2), (3, .int x3), (4, .int (0 : Int32))]) C dX8_wordOf_20 (by decide) rfl ?_
        refine wl_X8_wordOf_22 C (fun p11 => ?_) _ _
        refine z_aload_n C dX8_wordOf_78 1 rfl ?_
        refine z_iload_n C dX8_wordOf_79 3 rfl ?_
        refine z_iload C dX8_wordOf_80 4 rfl ?_
        refine z_iadd C dX8_wordOf_82 ?_
        refine z_callVp C zc_X8_164 [.int (x3 + p11)] (fun l D tc b0 r h => m_J0_charAt_5068e l D tc ro b0 h) dX8_wordOf_83 rfl rfl (Nat.le_of_ble_eq_true rfl) (by decide) (by decide) ⟨Nat.le_of_ble_eq_true rfl, Nat.le_of_ble_eq_true rfl⟩ (fun v12 => ?_)
        refine z_bipush C dX8_wordOf_86 zbi_32 ?_
        refine z_icmp_ne C 107 dX8_wordOf_88 (by decide) ?_ ?_
        · refine z_aload_n C dX8_wordOf_91 0 rfl ?_
          refine z_getI C zf_X8_144 dX8_wordOf_92 (fun v18 => ?_)
          refine z_iload C dX8_wordOf_95 4 rfl ?_
          refine z_iadd C dX8_wordOf_97 ?_
          refine z_aload_n C dX8_wordOf_98 0 rfl ?_
          refine z_getI C zf_X8_135 dX8_wordOf_99 (fun v19 => ?_)
          refine z_icmp_ne C 107 dX8_wordOf_102 (by decide) ?_ ?_
          · exact z_sub [2] rfl (hk105 _)
          exact z_sub [0, 1, 2, 3] rfl (wj_X8_wordOf_107 C hk105 hk132 ih)
        exact z_sub [0, 1, 2, 3] rfl (wj_X8_wordOf_107 C hk105 hk132 ih)
      exact z_sub [] rfl (hk132)
    exact z_sub [] rfl (hk132)
noncomputable def f_X8_wordOf (a0 : Nat) (a1 : Nat) (hp : zHp) : Option Int32 :=
  (zis hp a0 8).bind fun _ => l_X8_wordOf_4 (fun p20 => some p20) (some (-1 : Int32)) a0 a1 hp 1000000 (0 : Int32) (0 : Int32)
set_option maxHeartbeats 4000000 in
set_option maxRecDepth 100000 in
theorem m_X8_wordOf (l : Launch) (D : va_G) (tc : Nat → ClassId) (ro : Nat → Nat) (b0 : Nat) {a0 : Nat} {a1 : Nat} {hp : zHp} {sz : Nat} {r : Int32} (h : f_X8_wordOf a0 a1 hp = some r) : zis hp a0 8 = some () ∧ zM l yX8_wordOf cX8_wordOf 5 (some .int) 5 0 0 [.ref a0, .ref a1] D tc ro b0 hp sz ((zoP sz hp) r).1 ((zoP sz hp) r).2.1 ((zoP sz hp) r).2.2 := by
  refine ⟨?_, z_start (o := (zoP sz hp)) (lv := [(0, .ref a0), (1, .ref a1)]) h (by decide +kernel) RX8 rfl rfl (Nat.le_of_ble_eq_true rfl) (fun P C => ?_)⟩
  · unfold f_X8_wordOf at h
    cases hc : zis hp a0 8 with
    | none => rw [hc] at h; cases h
    | some u => rfl
  unfold f_X8_wordOf
  refine z_is ?_
  refine z_iconst C dX8_wordOf_0 zi_0 ?_
  refine z_istore_n (lv' := [(0, .ref a0), (1, .ref a1), (2, .int (0 : Int32))]) C dX8_wordOf_1 (by decide) rfl ?_
  refine z_iconst C dX8_wordOf_2 zi_0 ?_
  refine z_istore_n (lv' := [(0, .ref a0), (1, .ref a1), (2, .int (0 : Int32)), (3, .int (0 : Int32))]) C dX8_wordOf_3 (by decide) rfl ?_
  refine wl_X8_wordOf_4 C (fun p20 => ?_) ?_ _ _ _
  · refine z_iload_n C dX8_wordOf_105 0 rfl ?_
    exact z_ireturnP C dX8_wordOf_106
  refine z_iconst C dX8_wordOf_132 zi_m1 ?_
  exact z_ireturnP C dX8_wordOf_133
noncomputable def f_X8_failsIf (a0 : Nat) (x1 : Int32) (x2 : Int32) (hp : zHp) : Option zHp :=
  (zis hp a0 8).bind fun _ => (zgI hp a0 8 14).bind fun v1 => if v1 = 0 then (if x1 = 0 then (some hp) else (zpV hp a0 8 14 (.int x2)).bind fun h2 => (zgI h2 a0 8 11).bind fun v3 => (zpV h2 a0 8 15 (.int v3)).bind fun h4 => some h4) else some hp
set_option maxHeartbeats 4000000 in
set_option maxRecDepth 100000 in
theorem m_X8_failsIf (l : Launch) (D : va_G) (tc : Nat → ClassId) (ro : Nat → Nat) (b0 : Nat) {a0 : Nat} {x1 : Int32} {x2 : Int32} {hp : zHp} {sz : Nat} {r : zHp} (h : f_X8_failsIf a0 x1 x2 hp = some r) : zis hp a0 8 = some () ∧ zM l yX8_failsIf cX8_failsIf 3 none 1 0 0 [.ref a0, .int x1, .int x2] D tc ro b0 hp sz ((zoV sz) r).1 ((zoV sz) r).2.1 ((zoV sz) r).2.2 := by
  refine ⟨?_, z_start (o := (zoV sz)) (lv := [(0, .ref a0), (1, .int x1), (2, .int x2)]) h (by decide +kernel) RX8 rfl rfl (Nat.le_of_ble_eq_true rfl) (fun P C => ?_)⟩
  · unfold f_X8_failsIf at h
    cases hc : zis hp a0 8 with
    | none => rw [hc] at h; cases h
    | some u => rfl
  unfold f_X8_failsIf
  refine z_is ?_
  refine z_aload_n C dX8_failsIf_0 0 rfl ?_
  refine z_getI C zf_X8_168 dX8_failsIf_1 (fun v1 => ?_)
  refine z_if_ne C 11 dX8_failsIf_4 (by decide) ?_ ?_
  · refine z_iload_n C dX8_failsIf_7 1 rfl ?_
    refine z_if_ne C 12 dX8_failsIf_8 (by decide) ?_ ?_
    · exact z_return C dX8_failsIf_11
    refine z_aload_n C dX8_failsIf_12 0 rfl ?_
    refine z_iload_n C dX8_failsIf_13 2 rfl ?_
    refine z_putI C zp_X8_168 dX8_failsIf_14 (fun h2 => ?_)
    refine z_aload_n C dX8_failsIf_17 0 rfl ?_
    refine z_aload_n C dX8_failsIf_18 0 rfl ?_
    refine z_getI C zf_X8_144 dX8_failsIf_19 (fun v3 => ?_)
    refine z_putI C zp_X8_171 dX8_failsIf_22 (fun h4 => ?_)
    exact z_return C dX8_failsIf_25
  exact z_return C dX8_failsIf_11
noncomputable def f_X8_goOn (a0 : Nat) (hp : zHp) : Option zHp :=
  (zis hp a0 8).bind fun _ => (zgI hp a0 8 14).bind fun v1 => if v1 = 0 then ((f_X8_next a0 hp).bind fun h2 => some h2) else some hp
set_option maxHeartbeats 4000000 in
set_option maxRecDepth 100000 in
theorem m_X8_goOn (l : Launch) (D : va_G) (tc : Nat → ClassId) (ro : Nat → Nat) (b0 : Nat) {a0 : Nat} {hp : zHp} {sz : Nat} {r : zHp} (h : f_X8_goOn a0 hp = some r) : zis hp a0 8 = some () ∧ zM l yX8_goOn cX8_goOn 1 none 3 0 0 [.ref a0] D tc ro b0 hp sz ((zoV sz) r).1 ((zoV sz) r).2.1 ((zoV sz) r).2.2 := by
  refine ⟨?_, z_start (o := (zoV sz)) (lv := [(0, .ref a0)]) h (by decide +kernel) RX8 rfl rfl (Nat.le_of_ble_eq_true rfl) (fun P C => ?_)⟩
  · unfold f_X8_goOn at h
    cases hc : zis hp a0 8 with
    | none => rw [hc] at h; cases h
    | some u => rfl
  unfold f_X8_goOn
  refine z_is ?_
  refine z_aload_n C dX8_goOn_0 0 rfl ?_
  refine z_getI C zf_X8_168 dX8_goOn_1 (fun v1 => ?_)
  refine z_if_ne C 11 dX8_goOn_4 (by decide) ?_ ?_
  · refine z_aload_n C dX8_goOn_7 0 rfl ?_
    refine z_callVv C zc_X8_174 [] (fun l D tc b0 r h => m_X8_next l D tc ro b0 h) dX8_goOn_8 rfl rfl (Nat.le_of_ble_eq_true rfl) (by decide) (by decide) ⟨Nat.le_of_ble_eq_true rfl, Nat.le_of_ble_eq_true rfl⟩ (fun h2 => ?_)
    exact z_return C dX8_goOn_11
  exact z_return C dX8_goOn_11
noncomputable def j_X8_integer_61 (a0 : Nat) (s0 : Int32) (h : zHp) : Option (Int32 × zHp) :=
  (f_X8_goOn a0 h).bind fun h6 => some (s0, h6)
set_option maxHeartbeats 4000000 in
set_option maxRecDepth 100000 in
theorem wj_X8_integer_61 {P : zX} {ro : Nat → Nat} {sz : Nat} (C : zC P cX8_integer RX8 (some .int) 4 0 0 4 ro) {a0 : Nat} {s0 : Int32} {h : zHp}  : zG P (zoI sz) (j_X8_integer_61 a0 s0 h) 61 [(0, .ref a0)] [.int s0] h sz 0 0 := by
  unfold j_X8_integer_61
  refine z_istore_n (lv' := [(0, .ref a0), (3, .int s0)]) C dX8_integer_61 (by decide) rfl ?_
  refine z_aload_n C dX8_integer_62 0 rfl ?_
  refine z_callVv C zc_X8_181 [] (fun l D tc b0 r h => m_X8_goOn l D tc ro b0 h) dX8_integer_63 rfl rfl (Nat.le_of_ble_eq_true rfl) (by decide) (by decide) ⟨Nat.le_of_ble_eq_true rfl, Nat.le_of_ble_eq_true rfl⟩ (fun h6 => ?_)
  refine z_iload_n C dX8_integer_66 1 rfl ?_
  exact z_ireturn C dX8_integer_67
noncomputable def j_X8_integer_41 (a0 : Nat) (x1 : Int32) (s0 : Nat) (s1 : Int32) (h : zHp) : Option (Int32 × zHp) :=
  (f_X8_failsIf s0 s1 (-12 : Int32) h).bind fun h4 => (zgI h4 a0 8 14).bind fun v5 => if v5 = 0 then ((zgI h4 a0 8 13).bind fun v7 => j_X8_integer_61 a0 v7 h4) else j_X8_integer_61 a0 x1 h4
set_option maxHeartbeats 4000000 in
set_option maxRecDepth 100000 in
theorem wj_X8_integer_41 {P : zX} {ro : Nat → Nat} {sz : Nat} (C : zC P cX8_integer RX8 (some .int) 4 0 0 4 ro) {a0 : Nat} {x1 : Int32} {s0 : Nat} {s1 : Int32} {h : zHp}  : zG P (zoI sz) (j_X8_integer_41 a0 x1 s0 s1 h) 41 [(0, .ref a0), (1, .int x1)] [.int s1, .ref s0] h sz 0 0 := by
  unfold j_X8_integer_41
  refine z_bipush C dX8_integer_41 zbi_m12 ?_
  refine z_callVv C zc_X8_177 [.int s1, .int (-12 : Int32)] (fun l D tc b0 r h => m_X8_failsIf l D tc ro b0 h) dX8_integer_43 rfl rfl (Nat.le_of_ble_eq_true rfl) (by decide) (by decide) ⟨Nat.le_of_ble_eq_true rfl, Nat.le_of_ble_eq_true rfl⟩ (fun h4 => ?_)
  refine z_aload_n C dX8_integer_46 0 rfl ?_
  refine z_getI C zf_X8_168 dX8_integer_47 (fun v5 => ?_)
  refine z_if_ne C 60 dX8_integer_50 (by decide) ?_ ?_
  · refine z_aload_n C dX8_integer_53 0 rfl ?_
    refine z_getI C zf_X8_156 dX8_integer_54 (fun v7 => ?_)
    refine z_goto C 61 dX8_integer_57 (by decide) ?_
    exact z_sub [0] rfl (wj_X8_integer_61 C)
  refine z_iload_n C dX8_integer_60 1 rfl ?_
  exact z_sub [0] rfl (wj_X8_integer_61 C)
noncomputable def j_X8_integer_14 (a0 : Nat) (x1 : Int32) (x2 : Int32) (s0 : Nat) (s1 : Int32) (h : zHp) : Option (Int32 × zHp) :=
  (f_X8_failsIf s0 s1 (-11 : Int32) h).bind fun h2 => (zgI h2 a0 8 13).bind fun v3 => if v3 < x1 then (j_X8_integer_41 a0 x1 a0 (1 : Int32) h2) else (zgI h2 a0 8 13).bind fun v8 => if x2 < v8 then (j_X8_integer_41 a0 x1 a0 (1 : Int32) h2) else j_X8_integer_41 a0 x1 a0 (0 : Int32) h2
set_option maxHeartbeats 4000000 in
set_option maxRecDepth 100000 in
theorem wj_X8_integer_14 {P : zX} {ro : Nat → Nat} {sz : Nat} (C : zC P cX8_integer RX8 (some .int) 4 0 0 4 ro) {a0 : Nat} {x1 : Int32} {x2 : Int32} {s0 : Nat} {s1 : Int32} {h : zHp}  : zG P (zoI sz) (j_X8_integer_14 a0 x1 x2 s0 s1 h) 14 [(0, .ref a0), (1, .int x1), (2, .int x2)] [.int s1, .ref s0] h sz 0 0 := by
  unfold j_X8_integer_14
  refine z_bipush C dX8_integer_14 zbi_m11 ?_
  refine z_callVv C zc_X8_177 [.int s1, .int (-11 : Int32)] (fun l D tc b0 r h => m_X8_failsIf l D tc ro b0 h) dX8_integer_16 rfl rfl (Nat.le_of_ble_eq_true rfl) (by decide) (by decide) ⟨Nat.le_of_ble_eq_true rfl, Nat.le_of_ble_eq_true rfl⟩ (fun h2 => ?_)
  refine z_aload_n C dX8_integer_19 0 rfl ?_
  refine z_aload_n C dX8_integer_20 0 rfl ?_
  refine z_getI C zf_X8_156 dX8_integer_21 (fun v3 => ?_)
  refine z_iload_n C dX8_integer_24 1 rfl ?_
  refine z_icmp_lt C 36 dX8_integer_25 (by decide) ?_ ?_
  · refine z_iconst C dX8_integer_36 zi_1 ?_
    refine z_goto C 41 dX8_integer_37 (by decide) ?_
    exact z_sub [0, 1] rfl (wj_X8_integer_41 C)
  refine z_aload_n C dX8_integer_28 0 rfl ?_
  refine z_getI C zf_X8_156 dX8_integer_29 (fun v8 => ?_)
  refine z_iload_n C dX8_integer_32 2 rfl ?_
  refine z_icmp_le C 40 dX8_integer_33 (by decide) ?_ ?_
  · refine z_iconst C dX8_integer_36 zi_1 ?_
    refine z_goto C 41 dX8_integer_37 (by decide) ?_
    exact z_sub [0, 1] rfl (wj_X8_integer_41 C)
  refine z_iconst C dX8_integer_40 zi_0 ?_
  exact z_sub [0, 1] rfl (wj_X8_integer_41 C)
noncomputable def f_X8_integer (a0 : Nat) (x1 : Int32) (x2 : Int32) (hp : zHp) : Option (Int32 × zHp) :=
  (zis hp a0 8).bind fun _ => (zgI hp a0 8 12).bind fun v1 => if v1 = (1 : Int32) then (j_X8_integer_14 a0 x1 x2 a0 (0 : Int32) hp) else j_X8_integer_14 a0 x1 x2 a0 (1 : Int32) hp
set_option maxHeartbeats 4000000 in
set_option maxRecDepth 100000 in
theorem m_X8_integer (l : Launch) (D : va_G) (tc : Nat → ClassId) (ro : Nat → Nat) (b0 : Nat) {a0 : Nat} {x1 : Int32} {x2 : Int32} {hp : zHp} {sz : Nat} {r : (Int32 × zHp)} (h : f_X8_integer a0 x1 x2 hp = some r) : zis hp a0 8 = some () ∧ zM l yX8_integer cX8_integer 4 (some .int) 4 0 0 [.ref a0, .int x1, .int x2] D tc ro b0 hp sz ((zoI sz) r).1 ((zoI sz) r).2.1 ((zoI sz) r).2.2 := by
  refine ⟨?_, z_start (o := (zoI sz)) (lv := [(0, .ref a0), (1, .int x1), (2, .int x2)]) h (by decide +kernel) RX8 rfl rfl (Nat.le_of_ble_eq_true rfl) (fun P C => ?_)⟩
  · unfold f_X8_integer at h
    cases hc : zis hp a0 8 with
    | none => rw [hc] at h; cases h
    | some u => rfl
  unfold f_X8_integer
  refine z_is ?_
  refine z_aload_n C dX8_integer_0 0 rfl ?_
  refine z_aload_n C dX8_integer_1 0 rfl ?_
  refine z_getI C zf_X8_147 dX8_integer_2 (fun v1 => ?_)
  refine z_iconst C dX8_integer_5 zi_1 ?_
  refine z_icmp_eq C 13 dX8_integer_6 (by decide) ?_ ?_
  · refine z_iconst C dX8_integer_13 zi_0 ?_
    exact wj_X8_integer_14 C
  refine z_iconst C dX8_integer_9 zi_1 ?_
  refine z_goto C 14 dX8_integer_10 (by decide) ?_
  exact wj_X8_integer_14 C
noncomputable def j_X8_nameHere_95 (ro : Nat → Nat) (k103 : Int32 → Option (Int32 × zHp)) (rec : Int32 → Int32 → Option (Int32 × zHp)) (a0 : Nat) (x2 : Int32) (s0 : Int32) (s1 : Int32) (h : zHp) : Option (Int32 × zHp) :=
  zlet (s0 ||| s1) fun v6 => zlet (x2 + (1 : Int32)) fun v7 => rec v6 v7
set_option maxHeartbeats 4000000 in
set_option maxRecDepth 100000 in
theorem wj_X8_nameHere_95 {P : zX} {ro : Nat → Nat} {sz : Nat} (C : zC P cX8_nameHere RX8 (some .int) 6 0 0 3 ro) {a0 : Nat} {x2 : Int32} {s0 : Int32} {s1 : Int32} {h : zHp} {k103 : Int32 → Option (Int32 × zHp)} (hk103 : ∀ (x1 : Int32), zG P (zoI sz) (k103 x1) 103 [(1, .int x1)] [] h sz 0 0) {rec : Int32 → Int32 → Option (Int32 × zHp)} (hrec : ∀ (x1 : Int32) (x2 : Int32), zG P (zoI sz) (rec x1 x2) 46 [(0, .ref a0), (1, .int x1), (2, .int x2)] [] h sz 0 0) : zG P (zoI sz) (j_X8_nameHere_95 ro k103 rec a0 x2 s0 s1 h) 95 [(0, .ref a0), (2, .int x2)] [.int s1, .int s0] h sz 0 0 := by
  unfold j_X8_nameHere_95
  refine z_ior C dX8_nameHere_95 ?_
  refine z_istore_nL C (fun v6 => [(0, .ref a0), (1, .int v6), (2, .int x2)]) dX8_nameHere_96 (by decide) (fun _ => rfl) (fun v6 => ?_)
  refine z_iincL C 2 (fun v7 => [(0, .ref a0), (1, .int v6), (2, .int v7)]) dX8_nameHere_97 rfl zi_1 (by decide) (fun _ => rfl) (fun v7 => ?_)
  refine z_goto C 46 dX8_nameHere_100 (by decide) ?_
  exact hrec _ _
noncomputable def b_X8_nameHere_46 (ro : Nat → Nat) (k103 : Int32 → Option (Int32 × zHp)) (a0 : Nat) (h : zHp) (rec : Int32 → Int32 → Option (Int32 × zHp)) (x1 : Int32) (x2 : Int32) : Option (Int32 × zHp) :=
  if x2 < (6 : Int32) then ((zgI h a0 8 14).bind fun v3 => if v3 = 0 then ((zgI h a0 8 11).bind fun v4 => (zgI h a0 8 10).bind fun v5 => if (v4 + x2) < v5 then ((zgR h a0 8 1).bind fun r8 => (zgI h a0 8 11).bind fun v9 => (zaI h 0 r8 (v9 + x2)).bind fun v10 => j_X8_nameHere_95 ro k103 rec a0 x2 (x1 <<< ((5 : Int32) &&& 31)) ((v10 - (97 : Int32)) + (1 : Int32)) h) else j_X8_nameHere_95 ro k103 rec a0 x2 (x1 <<< ((5 : Int32) &&& 31)) (0 : Int32) h) else k103 x1) else k103 x1
noncomputable def l_X8_nameHere_46 (ro : Nat → Nat) (k103 : Int32 → Option (Int32 × zHp)) (a0 : Nat) (h : zHp) (n : Nat) : Int32 → Int32 → Option (Int32 × zHp) :=
  Nat.rec (motive := fun _ => Int32 → Int32 → Option (Int32 × zHp)) (fun _ _ => none) (fun _ rec => b_X8_nameHere_46 ro k103 a0 h rec) n
theorem l_X8_nameHere_46_s {ro : Nat → Nat} (k103 : Int32 → Option (Int32 × zHp)) (a0 : Nat) (h : zHp) (n : Nat) (x1 : Int32) (x2 : Int32) : l_X8_nameHere_46 ro k103 a0 h (n + 1) x1 x2 = b_X8_nameHere_46 ro k103 a0 h (l_X8_nameHere_46 ro k103 a0 h n) x1 x2 := rfl
set_option maxHeartbeats 4000000 in
set_option maxRecDepth 100000 in
theorem wl_X8_nameHere_46 {P : zX} {ro : Nat → Nat} {sz : Nat} (C : zC P cX8_nameHere RX8 (some .int) 6 0 0 3 ro) {a0 : Nat} {h : zHp} {k103 : Int32 → Option (Int32 × zHp)} (hk103 : ∀ (x1 : Int32), zG P (zoI sz) (k103 x1) 103 [(1, .int x1)] [] h sz 0 0) : ∀ (n : Nat) (x1 : Int32) (x2 : Int32), zG P (zoI sz) (l_X8_nameHere_46 ro k103 a0 h n x1 x2) 46 [(0, .ref a0), (1, .int x1), (2, .int x2)] [] h sz 0 0 := by
  intro n
  induction n with
  | zero =>
    intro x1 x2
    show zG P (zoI sz) none _ _ _ _ _ _ _
    exact z_none
  | succ n ih =>
    intro x1 x2
    show zG P (zoI sz) (b_X8_nameHere_46 ro k103 a0 h (l_X8_nameHere_46 ro k103 a0 h n) x1 x2) _ _ _ _ _ _ _
    unfold b_X8_nameHere_46
    refine z_iload_n C dX8_nameHere_46 2 rfl ?_
    refine z_bipush C dX8_nameHere_47 zbi_6 ?_
    refine z_icmp_ge C 103 dX8_nameHere_49 (by decide) ?_ ?_
    · refine z_aload_n C dX8_nameHere_52 0 rfl ?_
      refine z_getI C zf_X8_168 dX8_nameHere_53 (fun v3 => ?_)
      refine z_if_ne C 103 dX8_nameHere_56 (by decide) ?_ ?_
      · refine z_iload_n C dX8_nameHere_59 1 rfl ?_
        refine z_iconst C dX8_nameHere_60 zi_5 ?_
        refine z_ishl C dX8_nameHere_61 ?_
        refine z_aload_n C dX8_nameHere_62 0 rfl ?_
        refine z_getI C zf_X8_144 dX8_nameHere_63 (fun v4 => ?_)
        refine z_iload_n C dX8_nameHere_66 2 rfl ?_
        refine z_iadd C dX8_nameHere_67 ?_
        refine z_aload_n C dX8_nameHere_68 0 rfl ?_
        refine z_getI C zf_X8_135 dX8_nameHere_69 (fun v5 => ?_)
        refine z_icmp_ge C 94 dX8_nameHere_72 (by decide) ?_ ?_
        · refine z_aload_n C dX8_nameHere_75 0 rfl ?_
          refine z_getR C zf_X8_7 dX8_nameHere_76 (fun r8 => ?_)
          refine z_aload_n C dX8_nameHere_79 0 rfl ?_
          refine z_getI C zf_X8_144 dX8_nameHere_80 (fun v9 => ?_)
          refine z_iload_n C dX8_nameHere_83 2 rfl ?_
          refine z_iadd C dX8_nameHere_84 ?_
          refine z_iaload C dX8_nameHere_85 (fun v10 => ?_)
          refine z_bipush C dX8_nameHere_86 zbi_97 ?_
          refine z_isub C dX8_nameHere_88 ?_
          refine z_iconst C dX8_nameHere_89 zi_1 ?_
          refine z_iadd C dX8_nameHere_90 ?_
          refine z_goto C 95 dX8_nameHere_91 (by decide) ?_
          exact z_sub [0, 2] rfl (wj_X8_nameHere_95 C hk103 ih)
        refine z_iconst C dX8_nameHere_94 zi_0 ?_
        exact z_sub [0, 2] rfl (wj_X8_nameHere_95 C hk103 ih)
      exact z_sub [1] rfl (hk103 _)
    exact z_sub [1] rfl (hk103 _)
noncomputable def j_X8_nameHere_37 (ro : Nat → Nat) (a0 : Nat) (s0 : Nat) (s1 : Int32) (h : zHp) : Option (Int32 × zHp) :=
  (f_X8_failsIf s0 s1 (-11 : Int32) h).bind fun h2 => l_X8_nameHere_46 ro (fun p11 => some (p11, h2)) a0 h2 1000000 (0 : Int32) (0 : Int32)
set_option maxHeartbeats 4000000 in
set_option maxRecDepth 100000 in
theorem wj_X8_nameHere_37 {P : zX} {ro : Nat → Nat} {sz : Nat} (C : zC P cX8_nameHere RX8 (some .int) 6 0 0 3 ro) {a0 : Nat} {s0 : Nat} {s1 : Int32} {h : zHp}  : zG P (zoI sz) (j_X8_nameHere_37 ro a0 s0 s1 h) 37 [(0, .ref a0)] [.int s1, .ref s0] h sz 0 0 := by
  unfold j_X8_nameHere_37
  refine z_bipush C dX8_nameHere_37 zbi_m11 ?_
  refine z_callVv C zc_X8_177 [.int s1, .int (-11 : Int32)] (fun l D tc b0 r h => m_X8_failsIf l D tc ro b0 h) dX8_nameHere_39 rfl rfl (Nat.le_of_ble_eq_true rfl) (by decide) (by decide) ⟨Nat.le_of_ble_eq_true rfl, Nat.le_of_ble_eq_true rfl⟩ (fun h2 => ?_)
  refine z_iconst C dX8_nameHere_42 zi_0 ?_
  refine z_istore_n (lv' := [(0, .ref a0), (1, .int (0 : Int32))]) C dX8_nameHere_43 (by decide) rfl ?_
  refine z_iconst C dX8_nameHere_44 zi_0 ?_
  refine z_istore_n (lv' := [(0, .ref a0), (1, .int (0 : Int32)), (2, .int (0 : Int32))]) C dX8_nameHere_45 (by decide) rfl ?_
  refine wl_X8_nameHere_46 C (fun p11 => ?_) _ _ _
  refine z_iload_n C dX8_nameHere_103 0 rfl ?_
  exact z_ireturn C dX8_nameHere_104
noncomputable def f_X8_nameHere (ro : Nat → Nat) (a0 : Nat) (hp : zHp) : Option (Int32 × zHp) :=
  (zis hp a0 8).bind fun _ => (zgI hp a0 8 12).bind fun v1 => if v1 = 0 then ((zgI hp a0 8 10).bind fun v12 => (zgI hp a0 8 11).bind fun v13 => if (6 : Int32) < (v12 - v13) then (j_X8_nameHere_37 ro a0 a0 (1 : Int32) hp) else (f_X8_wordOf a0 (ro 18) hp).bind fun v14 => if v14 = (-1 : Int32) then (j_X8_nameHere_37 ro a0 a0 (0 : Int32) hp) else j_X8_nameHere_37 ro a0 a0 (1 : Int32) hp) else j_X8_nameHere_37 ro a0 a0 (1 : Int32) hp
set_option maxHeartbeats 4000000 in
set_option maxRecDepth 100000 in
theorem m_X8_nameHere (l : Launch) (D : va_G) (tc : Nat → ClassId) (ro : Nat → Nat) (b0 : Nat) {a0 : Nat} {hp : zHp} {sz : Nat} {r : (Int32 × zHp)} (h : f_X8_nameHere ro a0 hp = some r) : zis hp a0 8 = some () ∧ zM l yX8_nameHere cX8_nameHere 3 (some .int) 6 0 0 [.ref a0] D tc ro b0 hp sz ((zoI sz) r).1 ((zoI sz) r).2.1 ((zoI sz) r).2.2 := by
  refine ⟨?_, z_start (o := (zoI sz)) (lv := [(0, .ref a0)]) h (by decide +kernel) RX8 rfl rfl (Nat.le_of_ble_eq_true rfl) (fun P C => ?_)⟩
  · unfold f_X8_nameHere at h
    cases hc : zis hp a0 8 with
    | none => rw [hc] at h; cases h
    | some u => rfl
  unfold f_X8_nameHere
  refine z_is ?_
  refine z_aload_n C dX8_nameHere_0 0 rfl ?_
  refine z_aload_n C dX8_nameHere_1 0 rfl ?_
  refine z_getI C zf_X8_147 dX8_nameHere_2 (fun v1 => ?_)
  refine z_if_ne C 32 dX8_nameHere_5 (by decide) ?_ ?_
  · refine z_aload_n C dX8_nameHere_8 0 rfl ?_
    refine z_getI C zf_X8_135 dX8_nameHere_9 (fun v12 => ?_)
    refine z_aload_n C dX8_nameHere_12 0 rfl ?_
    refine z_getI C zf_X8_144 dX8_nameHere_13 (fun v13 => ?_)
    refine z_isub C dX8_nameHere_16 ?_
    refine z_bipush C dX8_nameHere_17 zbi_6 ?_
    refine z_icmp_gt C 32 dX8_nameHere_19 (by decide) ?_ ?_
    · refine z_iconst C dX8_nameHere_32 zi_1 ?_
      refine z_goto C 37 dX8_nameHere_33 (by decide) ?_
      exact wj_X8_nameHere_37 C
    refine z_aload_n C dX8_nameHere_22 0 rfl ?_
    refine z_ldcS C 18 rfl dX8_nameHere_23 ?_
    refine z_callVp C zc_X8_186 [.ref (ro 18)] (fun l D tc b0 r h => m_X8_wordOf l D tc ro b0 h) dX8_nameHere_25 rfl rfl (Nat.le_of_ble_eq_true rfl) (by decide) (by decide) ⟨Nat.le_of_ble_eq_true rfl, Nat.le_of_ble_eq_true rfl⟩ (fun v14 => ?_)
    refine z_iconst C dX8_nameHere_28 zi_m1 ?_
    refine z_icmp_eq C 36 dX8_nameHere_29 (by decide) ?_ ?_
    · refine z_iconst C dX8_nameHere_36 zi_0 ?_
      exact wj_X8_nameHere_37 C
    refine z_iconst C dX8_nameHere_32 zi_1 ?_
    refine z_goto C 37 dX8_nameHere_33 (by decide) ?_
    exact wj_X8_nameHere_37 C
  refine z_iconst C dX8_nameHere_32 zi_1 ?_
  refine z_goto C 37 dX8_nameHere_33 (by decide) ?_
  exact wj_X8_nameHere_37 C
noncomputable def f_X8_nameAt (x0 : Int32) (hp : zHp) : Option Int32 :=
  if x0 = 0 then (some (5 : Int32)) else if x0 = (1 : Int32) then (some (10 : Int32)) else if x0 = (2 : Int32) then (some (15 : Int32)) else some (21 : Int32)
set_option maxHeartbeats 4000000 in
set_option maxRecDepth 100000 in
theorem m_X8_nameAt (l : Launch) (D : va_G) (tc : Nat → ClassId) (ro : Nat → Nat) (b0 : Nat) {x0 : Int32} {hp : zHp} {sz : Nat} {r : Int32} (h : f_X8_nameAt x0 hp = some r) : zM l yX8_nameAt cX8_nameAt 1 (some .int) 1 0 0 [.int x0] D tc ro b0 hp sz ((zoP sz hp) r).1 ((zoP sz hp) r).2.1 ((zoP sz hp) r).2.2 := by
  refine z_start (o := (zoP sz hp)) (lv := [(0, .int x0)]) h (by decide +kernel) RX8 rfl rfl (Nat.le_of_ble_eq_true rfl) (fun P C => ?_)
  unfold f_X8_nameAt
  refine z_iload_n C dX8_nameAt_0 0 rfl ?_
  refine z_if_ne C 8 dX8_nameAt_1 (by decide) ?_ ?_
  · refine z_iconst C dX8_nameAt_4 zi_5 ?_
    refine z_goto C 30 dX8_nameAt_5 (by decide) ?_
    exact z_ireturnP C dX8_nameAt_30
  refine z_iload_n C dX8_nameAt_8 0 rfl ?_
  refine z_iconst C dX8_nameAt_9 zi_1 ?_
  refine z_icmp_ne C 18 dX8_nameAt_10 (by decide) ?_ ?_
  · refine z_bipush C dX8_nameAt_13 zbi_10 ?_
    refine z_goto C 30 dX8_nameAt_15 (by decide) ?_
    exact z_ireturnP C dX8_nameAt_30
  refine z_iload_n C dX8_nameAt_18 0 rfl ?_
  refine z_iconst C dX8_nameAt_19 zi_2 ?_
  refine z_icmp_ne C 28 dX8_nameAt_20 (by decide) ?_ ?_
  · refine z_bipush C dX8_nameAt_23 zbi_15 ?_
    refine z_goto C 30 dX8_nameAt_25 (by decide) ?_
    exact z_ireturnP C dX8_nameAt_30
  refine z_bipush C dX8_nameAt_28 zbi_21 ?_
  exact z_ireturnP C dX8_nameAt_30
noncomputable def b_X8_nameFound_2 (k26 : Int32 → Option Int32) (k34 : Option Int32) (a0 : Nat) (x1 : Int32) (x2 : Int32) (hp : zHp) (rec : Int32 → Option Int32) (x3 : Int32) : Option Int32 :=
  (f_X8_many a0 x1 hp).bind fun v1 => if x3 < v1 then ((zgR hp a0 8 3).bind fun r2 => (f_X8_nameAt x1 hp).bind fun v3 => (zaI hp 0 r2 (v3 + x3)).bind fun v4 => if v4 = x2 then (k26 x3) else zlet (x3 + (1 : Int32)) fun v5 => rec v5) else k34
noncomputable def l_X8_nameFound_2 (k26 : Int32 → Option Int32) (k34 : Option Int32) (a0 : Nat) (x1 : Int32) (x2 : Int32) (hp : zHp) (n : Nat) : Int32 → Option Int32 :=
  Nat.rec (motive := fun _ => Int32 → Option Int32) (fun _ => none) (fun _ rec => b_X8_nameFound_2 k26 k34 a0 x1 x2 hp rec) n
theorem l_X8_nameFound_2_s (k26 : Int32 → Option Int32) (k34 : Option Int32) (a0 : Nat) (x1 : Int32) (x2 : Int32) (hp : zHp) (n : Nat) (x3 : Int32) : l_X8_nameFound_2 k26 k34 a0 x1 x2 hp (n + 1) x3 = b_X8_nameFound_2 k26 k34 a0 x1 x2 hp (l_X8_nameFound_2 k26 k34 a0 x1 x2 hp n) x3 := rfl
set_option maxHeartbeats 4000000 in
set_option maxRecDepth 100000 in
theorem wl_X8_nameFound_2 {P : zX} {ro : Nat → Nat} {sz : Nat} (C : zC P cX8_nameFound RX8 (some .int) 2 0 0 4 ro) {a0 : Nat} {x1 : Int32} {x2 : Int32} {hp : zHp} {k26 : Int32 → Option Int32} (hk26 : ∀ (x3 : Int32), zG P (zoP sz hp) (k26 x3) 26 [(3, .int x3)] [] hp sz 0 0) {k34 : Option Int32} (hk34 : zG P (zoP sz hp) (k34) 34 [] [] hp sz 0 0) : ∀ (n : Nat) (x3 : Int32), zG P (zoP sz hp) (l_X8_nameFound_2 k26 k34 a0 x1 x2 hp n x3) 2 [(0, .ref a0), (1, .int x1), (2, .int x2), (3, .int x3)] [] hp sz 0 0 := by
  intro n
  induction n with
  | zero =>
    intro x3
    show zG P (zoP sz hp) none _ _ _ _ _ _ _
    exact z_none
  | succ n ih =>
    intro x3
    show zG P (zoP sz hp) (b_X8_nameFound_2 k26 k34 a0 x1 x2 hp (l_X8_nameFound_2 k26 k34 a0 x1 x2 hp n) x3) _ _ _ _ _ _ _
    unfold b_X8_nameFound_2
    refine z_iload_n C dX8_nameFound_2 3 rfl ?_
    refine z_aload_n C dX8_nameFound_3 0 rfl ?_
    refine z_iload_n C dX8_nameFound_4 1 rfl ?_
    refine z_callVp C zc_X8_44 [.int x1] (fun l D tc b0 r h => m_X8_many l D tc ro b0 h) dX8_nameFound_5 rfl rfl (Nat.le_of_ble_eq_true rfl) (by decide) (by decide) ⟨Nat.le_of_ble_eq_true rfl, Nat.le_of_ble_eq_true rfl⟩ (fun v1 => ?_)
    refine z_icmp_ge C 34 dX8_nameFound_8 (by decide) ?_ ?_
    · refine z_aload_n C dX8_nameFound_11 0 rfl ?_
      refine z_getR C zf_X8_13 dX8_nameFound_12 (fun r2 => ?_)
      refine z_iload_n C dX8_nameFound_15 1 rfl ?_
      refine z_callSp C zs_X8_190 [.int x1] (fun l D tc b0 r h => m_X8_nameAt l D tc ro b0 h) dX8_nameFound_16 rfl rfl (Nat.le_of_ble_eq_true rfl) (by decide) (by decide) ⟨Nat.le_of_ble_eq_true rfl, Nat.le_of_ble_eq_true rfl⟩ (fun v3 => ?_)
      refine z_iload_n C dX8_nameFound_19 3 rfl ?_
      refine z_iadd C dX8_nameFound_20 ?_
      refine z_iaload C dX8_nameFound_21 (fun v4 => ?_)
      refine z_iload_n C dX8_nameFound_22 2 rfl ?_
      refine z_icmp_ne C 28 dX8_nameFound_23 (by decide) ?_ ?_
      · exact z_sub [3] rfl (hk26 _)
      refine z_iincL C 3 (fun v5 => [(0, .ref a0), (1, .int x1), (2, .int x2), (3, .int v5)]) dX8_nameFound_28 rfl zi_1 (by decide) (fun _ => rfl) (fun v5 => ?_)
      refine z_goto C 2 dX8_nameFound_31 (by decide) ?_
      exact ih _
    exact z_sub [] rfl (hk34)
noncomputable def f_X8_nameFound (a0 : Nat) (x1 : Int32) (x2 : Int32) (hp : zHp) : Option Int32 :=
  (zis hp a0 8).bind fun _ => l_X8_nameFound_2 (fun p6 => some p6) (some (-1 : Int32)) a0 x1 x2 hp 1000000 (0 : Int32)
set_option maxHeartbeats 4000000 in
set_option maxRecDepth 100000 in
theorem m_X8_nameFound (l : Launch) (D : va_G) (tc : Nat → ClassId) (ro : Nat → Nat) (b0 : Nat) {a0 : Nat} {x1 : Int32} {x2 : Int32} {hp : zHp} {sz : Nat} {r : Int32} (h : f_X8_nameFound a0 x1 x2 hp = some r) : zis hp a0 8 = some () ∧ zM l yX8_nameFound cX8_nameFound 4 (some .int) 2 0 0 [.ref a0, .int x1, .int x2] D tc ro b0 hp sz ((zoP sz hp) r).1 ((zoP sz hp) r).2.1 ((zoP sz hp) r).2.2 := by
  refine ⟨?_, z_start (o := (zoP sz hp)) (lv := [(0, .ref a0), (1, .int x1), (2, .int x2)]) h (by decide +kernel) RX8 rfl rfl (Nat.le_of_ble_eq_true rfl) (fun P C => ?_)⟩
  · unfold f_X8_nameFound at h
    cases hc : zis hp a0 8 with
    | none => rw [hc] at h; cases h
    | some u => rfl
  unfold f_X8_nameFound
  refine z_is ?_
  refine z_iconst C dX8_nameFound_0 zi_0 ?_
  refine z_istore_n (lv' := [(0, .ref a0), (1, .int x1), (2, .int x2), (3, .int (0 : Int32))]) C dX8_nameFound_1 (by decide) rfl ?_
  refine wl_X8_nameFound_2 C (fun p6 => ?_) ?_ _ _
  · refine z_iload_n C dX8_nameFound_26 0 rfl ?_
    exact z_ireturnP C dX8_nameFound_27
  refine z_iconst C dX8_nameFound_34 zi_m1 ?_
  exact z_ireturnP C dX8_nameFound_35
noncomputable def j_X8_newName_56 (ro : Nat → Nat) (a0 : Nat) (h : zHp) : Option zHp :=
  (f_X8_goOn a0 h).bind fun h6 => some h6
set_option maxHeartbeats 4000000 in
set_option maxRecDepth 100000 in
theorem wj_X8_newName_56 {P : zX} {ro : Nat → Nat} {sz : Nat} (C : zC P cX8_newName RX8 none 7 0 0 3 ro) {a0 : Nat} {h : zHp}  : zG P (zoV sz) (j_X8_newName_56 ro a0 h) 56 [(0, .ref a0)] [] h sz 0 0 := by
  unfold j_X8_newName_56
  refine z_aload_n C dX8_newName_56 0 rfl ?_
  refine z_callVv C zc_X8_181 [] (fun l D tc b0 r h => m_X8_goOn l D tc ro b0 h) dX8_newName_57 rfl rfl (Nat.le_of_ble_eq_true rfl) (by decide) (by decide) ⟨Nat.le_of_ble_eq_true rfl, Nat.le_of_ble_eq_true rfl⟩ (fun h6 => ?_)
  exact z_return C dX8_newName_60
noncomputable def j_X8_newName_28 (ro : Nat → Nat) (a0 : Nat) (x1 : Int32) (x2 : Int32) (s0 : Nat) (s1 : Int32) (h : zHp) : Option zHp :=
  (f_X8_failsIf s0 s1 (-14 : Int32) h).bind fun h4 => (zgI h4 a0 8 14).bind fun v5 => if v5 = 0 then ((zgR h4 a0 8 3).bind fun r7 => (f_X8_nameAt x1 h4).bind fun v8 => (f_X8_many a0 x1 h4).bind fun v9 => (zsI h4 r7 (v8 + v9) x2).bind fun h10 => j_X8_newName_56 ro a0 h10) else j_X8_newName_56 ro a0 h4
set_option maxHeartbeats 4000000 in
set_option maxRecDepth 100000 in
theorem wj_X8_newName_28 {P : zX} {ro : Nat → Nat} {sz : Nat} (C : zC P cX8_newName RX8 none 7 0 0 3 ro) {a0 : Nat} {x1 : Int32} {x2 : Int32} {s0 : Nat} {s1 : Int32} {h : zHp}  : zG P (zoV sz) (j_X8_newName_28 ro a0 x1 x2 s0 s1 h) 28 [(0, .ref a0), (1, .int x1), (2, .int x2)] [.int s1, .ref s0] h sz 0 0 := by
  unfold j_X8_newName_28
  refine z_bipush C dX8_newName_28 zbi_m14 ?_
  refine z_callVv C zc_X8_177 [.int s1, .int (-14 : Int32)] (fun l D tc b0 r h => m_X8_failsIf l D tc ro b0 h) dX8_newName_30 rfl rfl (Nat.le_of_ble_eq_true rfl) (by decide) (by decide) ⟨Nat.le_of_ble_eq_true rfl, Nat.le_of_ble_eq_true rfl⟩ (fun h4 => ?_)
  refine z_aload_n C dX8_newName_33 0 rfl ?_
  refine z_getI C zf_X8_168 dX8_newName_34 (fun v5 => ?_)
  refine z_if_ne C 56 dX8_newName_37 (by decide) ?_ ?_
  · refine z_aload_n C dX8_newName_40 0 rfl ?_
    refine z_getR C zf_X8_13 dX8_newName_41 (fun r7 => ?_)
    refine z_iload_n C dX8_newName_44 1 rfl ?_
    refine z_callSp C zs_X8_190 [.int x1] (fun l D tc b0 r h => m_X8_nameAt l D tc ro b0 h) dX8_newName_45 rfl rfl (Nat.le_of_ble_eq_true rfl) (by decide) (by decide) ⟨Nat.le_of_ble_eq_true rfl, Nat.le_of_ble_eq_true rfl⟩ (fun v8 => ?_)
    refine z_aload_n C dX8_newName_48 0 rfl ?_
    refine z_iload_n C dX8_newName_49 1 rfl ?_
    refine z_callVp C zc_X8_44 [.int x1] (fun l D tc b0 r h => m_X8_many l D tc ro b0 h) dX8_newName_50 rfl rfl (Nat.le_of_ble_eq_true rfl) (by decide) (by decide) ⟨Nat.le_of_ble_eq_true rfl, Nat.le_of_ble_eq_true rfl⟩ (fun v9 => ?_)
    refine z_iadd C dX8_newName_53 ?_
    refine z_iload_n C dX8_newName_54 2 rfl ?_
    refine z_iastore C dX8_newName_55 (fun h10 => ?_)
    exact z_sub [0] rfl (wj_X8_newName_56 C)
  exact z_sub [0] rfl (wj_X8_newName_56 C)
noncomputable def j_X8_newName_27 (ro : Nat → Nat) (a0 : Nat) (x1 : Int32) (x2 : Int32) (s0 : Nat) (h : zHp) : Option zHp :=
  j_X8_newName_28 ro a0 x1 x2 s0 (0 : Int32) h
set_option maxHeartbeats 4000000 in
set_option maxRecDepth 100000 in
theorem wj_X8_newName_27 {P : zX} {ro : Nat → Nat} {sz : Nat} (C : zC P cX8_newName RX8 none 7 0 0 3 ro) {a0 : Nat} {x1 : Int32} {x2 : Int32} {s0 : Nat} {h : zHp}  : zG P (zoV sz) (j_X8_newName_27 ro a0 x1 x2 s0 h) 27 [(0, .ref a0), (1, .int x1), (2, .int x2)] [.ref s0] h sz 0 0 := by
  unfold j_X8_newName_27
  refine z_iconst C dX8_newName_27 zi_0 ?_
  exact wj_X8_newName_28 C
noncomputable def f_X8_newName (ro : Nat → Nat) (a0 : Nat) (x1 : Int32) (hp : zHp) : Option zHp :=
  (zis hp a0 8).bind fun _ => zb2 (f_X8_nameHere ro a0 hp) fun v1 h2 => (zgI h2 a0 8 14).bind fun v3 => if v3 = 0 then ((f_X8_nameFound a0 x1 v1 h2).bind fun v11 => if v11 = (-1 : Int32) then (j_X8_newName_27 ro a0 x1 v1 a0 h2) else j_X8_newName_28 ro a0 x1 v1 a0 (1 : Int32) h2) else j_X8_newName_27 ro a0 x1 v1 a0 h2
set_option maxHeartbeats 4000000 in
set_option maxRecDepth 100000 in
theorem m_X8_newName (l : Launch) (D : va_G) (tc : Nat → ClassId) (ro : Nat → Nat) (b0 : Nat) {a0 : Nat} {x1 : Int32} {hp : zHp} {sz : Nat} {r : zHp} (h : f_X8_newName ro a0 x1 hp = some r) : zis hp a0 8 = some () ∧ zM l yX8_newName cX8_newName 3 none 7 0 0 [.ref a0, .int x1] D tc ro b0 hp sz ((zoV sz) r).1 ((zoV sz) r).2.1 ((zoV sz) r).2.2 := by
  refine ⟨?_, z_start (o := (zoV sz)) (lv := [(0, .ref a0), (1, .int x1)]) h (by decide +kernel) RX8 rfl rfl (Nat.le_of_ble_eq_true rfl) (fun P C => ?_)⟩
  · unfold f_X8_newName at h
    cases hc : zis hp a0 8 with
    | none => rw [hc] at h; cases h
    | some u => rfl
  unfold f_X8_newName
  refine z_is ?_
  refine z_aload_n C dX8_newName_0 0 rfl ?_
  refine z_callVi C zc_X8_193 [] (fun l D tc b0 r h => m_X8_nameHere l D tc ro b0 h) dX8_newName_1 rfl rfl (Nat.le_of_ble_eq_true rfl) (by decide) (by decide) ⟨Nat.le_of_ble_eq_true rfl, Nat.le_of_ble_eq_true rfl⟩ (fun v1 h2 => ?_)
  refine z_istore_n (lv' := [(0, .ref a0), (1, .int x1), (2, .int v1)]) C dX8_newName_4 (by decide) rfl ?_
  refine z_aload_n C dX8_newName_5 0 rfl ?_
  refine z_aload_n C dX8_newName_6 0 rfl ?_
  refine z_getI C zf_X8_168 dX8_newName_7 (fun v3 => ?_)
  refine z_if_ne C 27 dX8_newName_10 (by decide) ?_ ?_
  · refine z_aload_n C dX8_newName_13 0 rfl ?_
    refine z_iload_n C dX8_newName_14 1 rfl ?_
    refine z_iload_n C dX8_newName_15 2 rfl ?_
    refine z_callVp C zc_X8_196 [.int x1, .int v1] (fun l D tc b0 r h => m_X8_nameFound l D tc ro b0 h) dX8_newName_16 rfl rfl (Nat.le_of_ble_eq_true rfl) (by decide) (by decide) ⟨Nat.le_of_ble_eq_true rfl, Nat.le_of_ble_eq_true rfl⟩ (fun v11 => ?_)
    refine z_iconst C dX8_newName_19 zi_m1 ?_
    refine z_icmp_eq C 27 dX8_newName_20 (by decide) ?_ ?_
    · exact wj_X8_newName_27 C
    refine z_iconst C dX8_newName_23 zi_1 ?_
    refine z_goto C 28 dX8_newName_24 (by decide) ?_
    exact wj_X8_newName_28 C
  exact wj_X8_newName_27 C
noncomputable def j_X8_thing_34 (ro : Nat → Nat) (a0 : Nat) (x3 : Int32) (s0 : Nat) (s1 : Int32) (h : zHp) : Option (Int32 × zHp) :=
  (f_X8_failsIf s0 s1 (-13 : Int32) h).bind fun h4 => (f_X8_goOn a0 h4).bind fun h5 => (zgI h5 a0 8 14).bind fun v6 => if v6 = 0 then (some (x3, h5)) else some ((0 : Int32), h5)
set_option maxHeartbeats 4000000 in
set_option maxRecDepth 100000 in
theorem wj_X8_thing_34 {P : zX} {ro : Nat → Nat} {sz : Nat} (C : zC P cX8_thing RX8 (some .int) 7 0 0 4 ro) {a0 : Nat} {x3 : Int32} {s0 : Nat} {s1 : Int32} {h : zHp}  : zG P (zoI sz) (j_X8_thing_34 ro a0 x3 s0 s1 h) 34 [(0, .ref a0), (3, .int x3)] [.int s1, .ref s0] h sz 0 0 := by
  unfold j_X8_thing_34
  refine z_bipush C dX8_thing_34 zbi_m13 ?_
  refine z_callVv C zc_X8_177 [.int s1, .int (-13 : Int32)] (fun l D tc b0 r h => m_X8_failsIf l D tc ro b0 h) dX8_thing_36 rfl rfl (Nat.le_of_ble_eq_true rfl) (by decide) (by decide) ⟨Nat.le_of_ble_eq_true rfl, Nat.le_of_ble_eq_true rfl⟩ (fun h4 => ?_)
  refine z_aload_n C dX8_thing_39 0 rfl ?_
  refine z_callVv C zc_X8_181 [] (fun l D tc b0 r h => m_X8_goOn l D tc ro b0 h) dX8_thing_40 rfl rfl (Nat.le_of_ble_eq_true rfl) (by decide) (by decide) ⟨Nat.le_of_ble_eq_true rfl, Nat.le_of_ble_eq_true rfl⟩ (fun h5 => ?_)
  refine z_aload_n C dX8_thing_43 0 rfl ?_
  refine z_getI C zf_X8_168 dX8_thing_44 (fun v6 => ?_)
  refine z_if_ne C 54 dX8_thing_47 (by decide) ?_ ?_
  · refine z_iload_n C dX8_thing_50 1 rfl ?_
    refine z_goto C 55 dX8_thing_51 (by decide) ?_
    exact z_ireturn C dX8_thing_55
  refine z_iconst C dX8_thing_54 zi_0 ?_
  exact z_ireturn C dX8_thing_55
noncomputable def j_X8_thing_22 (ro : Nat → Nat) (a0 : Nat) (s0 : Int32) (h : zHp) : Option (Int32 × zHp) :=
  if s0 = (-1 : Int32) then (j_X8_thing_34 ro a0 s0 a0 (1 : Int32) h) else j_X8_thing_34 ro a0 s0 a0 (0 : Int32) h
set_option maxHeartbeats 4000000 in
set_option maxRecDepth 100000 in
theorem wj_X8_thing_22 {P : zX} {ro : Nat → Nat} {sz : Nat} (C : zC P cX8_thing RX8 (some .int) 7 0 0 4 ro) {a0 : Nat} {s0 : Int32} {h : zHp}  : zG P (zoI sz) (j_X8_thing_22 ro a0 s0 h) 22 [(0, .ref a0)] [.int s0] h sz 0 0 := by
  unfold j_X8_thing_22
  refine z_istore_n (lv' := [(0, .ref a0), (3, .int s0)]) C dX8_thing_22 (by decide) rfl ?_
  refine z_aload_n C dX8_thing_23 0 rfl ?_
  refine z_iload_n C dX8_thing_24 1 rfl ?_
  refine z_iconst C dX8_thing_25 zi_m1 ?_
  refine z_icmp_ne C 33 dX8_thing_26 (by decide) ?_ ?_
  · refine z_iconst C dX8_thing_29 zi_1 ?_
    refine z_goto C 34 dX8_thing_30 (by decide) ?_
    exact wj_X8_thing_34 C
  refine z_iconst C dX8_thing_33 zi_0 ?_
  exact wj_X8_thing_34 C
noncomputable def f_X8_thing (ro : Nat → Nat) (a0 : Nat) (x1 : Int32) (hp : zHp) : Option (Int32 × zHp) :=
  (zis hp a0 8).bind fun _ => zb2 (f_X8_nameHere ro a0 hp) fun v1 h2 => (zgI h2 a0 8 14).bind fun v3 => if v3 = 0 then ((f_X8_nameFound a0 x1 v1 h2).bind fun v7 => j_X8_thing_22 ro a0 v7 h2) else j_X8_thing_22 ro a0 (0 : Int32) h2
set_option maxHeartbeats 4000000 in
set_option maxRecDepth 100000 in
theorem m_X8_thing (l : Launch) (D : va_G) (tc : Nat → ClassId) (ro : Nat → Nat) (b0 : Nat) {a0 : Nat} {x1 : Int32} {hp : zHp} {sz : Nat} {r : (Int32 × zHp)} (h : f_X8_thing ro a0 x1 hp = some r) : zis hp a0 8 = some () ∧ zM l yX8_thing cX8_thing 4 (some .int) 7 0 0 [.ref a0, .int x1] D tc ro b0 hp sz ((zoI sz) r).1 ((zoI sz) r).2.1 ((zoI sz) r).2.2 := by
  refine ⟨?_, z_start (o := (zoI sz)) (lv := [(0, .ref a0), (1, .int x1)]) h (by decide +kernel) RX8 rfl rfl (Nat.le_of_ble_eq_true rfl) (fun P C => ?_)⟩
  · unfold f_X8_thing at h
    cases hc : zis hp a0 8 with
    | none => rw [hc] at h; cases h
    | some u => rfl
  unfold f_X8_thing
  refine z_is ?_
  refine z_aload_n C dX8_thing_0 0 rfl ?_
  refine z_callVi C zc_X8_193 [] (fun l D tc b0 r h => m_X8_nameHere l D tc ro b0 h) dX8_thing_1 rfl rfl (Nat.le_of_ble_eq_true rfl) (by decide) (by decide) ⟨Nat.le_of_ble_eq_true rfl, Nat.le_of_ble_eq_true rfl⟩ (fun v1 h2 => ?_)
  refine z_istore_n (lv' := [(0, .ref a0), (1, .int x1), (2, .int v1)]) C dX8_thing_4 (by decide) rfl ?_
  refine z_aload_n C dX8_thing_5 0 rfl ?_
  refine z_getI C zf_X8_168 dX8_thing_6 (fun v3 => ?_)
  refine z_if_ne C 21 dX8_thing_9 (by decide) ?_ ?_
  · refine z_aload_n C dX8_thing_12 0 rfl ?_
    refine z_iload_n C dX8_thing_13 1 rfl ?_
    refine z_iload_n C dX8_thing_14 2 rfl ?_
    refine z_callVp C zc_X8_196 [.int x1, .int v1] (fun l D tc b0 r h => m_X8_nameFound l D tc ro b0 h) dX8_thing_15 rfl rfl (Nat.le_of_ble_eq_true rfl) (by decide) (by decide) ⟨Nat.le_of_ble_eq_true rfl, Nat.le_of_ble_eq_true rfl⟩ (fun v7 => ?_)
    refine z_goto C 22 dX8_thing_18 (by decide) ?_
    exact z_sub [0] rfl (wj_X8_thing_22 C)
  refine z_iconst C dX8_thing_21 zi_0 ?_
  exact z_sub [0] rfl (wj_X8_thing_22 C)
noncomputable def j_X8_readParty_34 (ro : Nat → Nat) (a0 : Nat) (s0 : Nat) (s1 : Int32) (h : zHp) : Option zHp :=
  (f_X8_failsIf s0 s1 (-15 : Int32) h).bind fun h4 => (f_X8_goOn a0 h4).bind fun h5 => (f_X8_newName ro a0 (0 : Int32) h5).bind fun h6 => some h6
set_option maxHeartbeats 4000000 in
set_option maxRecDepth 100000 in
theorem wj_X8_readParty_34 {P : zX} {ro : Nat → Nat} {sz : Nat} (C : zC P cX8_readParty RX8 none 8 0 0 1 ro) {a0 : Nat} {s0 : Nat} {s1 : Int32} {h : zHp}  : zG P (zoV sz) (j_X8_readParty_34 ro a0 s0 s1 h) 34 [(0, .ref a0)] [.int s1, .ref s0] h sz 0 0 := by
  unfold j_X8_readParty_34
  refine z_bipush C dX8_readParty_34 zbi_m15 ?_
  refine z_callVv C zc_X8_177 [.int s1, .int (-15 : Int32)] (fun l D tc b0 r h => m_X8_failsIf l D tc ro b0 h) dX8_readParty_36 rfl rfl (Nat.le_of_ble_eq_true rfl) (by decide) (by decide) ⟨Nat.le_of_ble_eq_true rfl, Nat.le_of_ble_eq_true rfl⟩ (fun h4 => ?_)
  refine z_aload_n C dX8_readParty_39 0 rfl ?_
  refine z_callVv C zc_X8_181 [] (fun l D tc b0 r h => m_X8_goOn l D tc ro b0 h) dX8_readParty_40 rfl rfl (Nat.le_of_ble_eq_true rfl) (by decide) (by decide) ⟨Nat.le_of_ble_eq_true rfl, Nat.le_of_ble_eq_true rfl⟩ (fun h5 => ?_)
  refine z_aload_n C dX8_readParty_43 0 rfl ?_
  refine z_iconst C dX8_readParty_44 zi_0 ?_
  refine z_callVv C zc_X8_199 [.int (0 : Int32)] (fun l D tc b0 r h => m_X8_newName l D tc ro b0 h) dX8_readParty_45 rfl rfl (Nat.le_of_ble_eq_true rfl) (by decide) (by decide) ⟨Nat.le_of_ble_eq_true rfl, Nat.le_of_ble_eq_true rfl⟩ (fun h6 => ?_)
  exact z_return C dX8_readParty_48
noncomputable def j_X8_readParty_14 (ro : Nat → Nat) (a0 : Nat) (s0 : Nat) (s1 : Int32) (h : zHp) : Option zHp :=
  (f_X8_failsIf s0 s1 (-11 : Int32) h).bind fun h2 => (f_X8_many a0 (0 : Int32) h2).bind fun v3 => if v3 = (5 : Int32) then (j_X8_readParty_34 ro a0 a0 (1 : Int32) h2) else j_X8_readParty_34 ro a0 a0 (0 : Int32) h2
set_option maxHeartbeats 4000000 in
set_option maxRecDepth 100000 in
theorem wj_X8_readParty_14 {P : zX} {ro : Nat → Nat} {sz : Nat} (C : zC P cX8_readParty RX8 none 8 0 0 1 ro) {a0 : Nat} {s0 : Nat} {s1 : Int32} {h : zHp}  : zG P (zoV sz) (j_X8_readParty_14 ro a0 s0 s1 h) 14 [(0, .ref a0)] [.int s1, .ref s0] h sz 0 0 := by
  unfold j_X8_readParty_14
  refine z_bipush C dX8_readParty_14 zbi_m11 ?_
  refine z_callVv C zc_X8_177 [.int s1, .int (-11 : Int32)] (fun l D tc b0 r h => m_X8_failsIf l D tc ro b0 h) dX8_readParty_16 rfl rfl (Nat.le_of_ble_eq_true rfl) (by decide) (by decide) ⟨Nat.le_of_ble_eq_true rfl, Nat.le_of_ble_eq_true rfl⟩ (fun h2 => ?_)
  refine z_aload_n C dX8_readParty_19 0 rfl ?_
  refine z_aload_n C dX8_readParty_20 0 rfl ?_
  refine z_iconst C dX8_readParty_21 zi_0 ?_
  refine z_callVp C zc_X8_44 [.int (0 : Int32)] (fun l D tc b0 r h => m_X8_many l D tc ro b0 h) dX8_readParty_22 rfl rfl (Nat.le_of_ble_eq_true rfl) (by decide) (by decide) ⟨Nat.le_of_ble_eq_true rfl, Nat.le_of_ble_eq_true rfl⟩ (fun v3 => ?_)
  refine z_iconst C dX8_readParty_25 zi_5 ?_
  refine z_icmp_ne C 33 dX8_readParty_26 (by decide) ?_ ?_
  · refine z_iconst C dX8_readParty_29 zi_1 ?_
    refine z_goto C 34 dX8_readParty_30 (by decide) ?_
    exact wj_X8_readParty_34 C
  refine z_iconst C dX8_readParty_33 zi_0 ?_
  exact wj_X8_readParty_34 C
noncomputable def f_X8_readParty (ro : Nat → Nat) (a0 : Nat) (hp : zHp) : Option zHp :=
  (zis hp a0 8).bind fun _ => (f_X8_many a0 (3 : Int32) hp).bind fun v1 => if 0 < v1 then (j_X8_readParty_14 ro a0 a0 (1 : Int32) hp) else j_X8_readParty_14 ro a0 a0 (0 : Int32) hp
set_option maxHeartbeats 4000000 in
set_option maxRecDepth 100000 in
theorem m_X8_readParty (l : Launch) (D : va_G) (tc : Nat → ClassId) (ro : Nat → Nat) (b0 : Nat) {a0 : Nat} {hp : zHp} {sz : Nat} {r : zHp} (h : f_X8_readParty ro a0 hp = some r) : zis hp a0 8 = some () ∧ zM l yX8_readParty cX8_readParty 1 none 8 0 0 [.ref a0] D tc ro b0 hp sz ((zoV sz) r).1 ((zoV sz) r).2.1 ((zoV sz) r).2.2 := by
  refine ⟨?_, z_start (o := (zoV sz)) (lv := [(0, .ref a0)]) h (by decide +kernel) RX8 rfl rfl (Nat.le_of_ble_eq_true rfl) (fun P C => ?_)⟩
  · unfold f_X8_readParty at h
    cases hc : zis hp a0 8 with
    | none => rw [hc] at h; cases h
    | some u => rfl
  unfold f_X8_readParty
  refine z_is ?_
  refine z_aload_n C dX8_readParty_0 0 rfl ?_
  refine z_aload_n C dX8_readParty_1 0 rfl ?_
  refine z_iconst C dX8_readParty_2 zi_3 ?_
  refine z_callVp C zc_X8_44 [.int (3 : Int32)] (fun l D tc b0 r h => m_X8_many l D tc ro b0 h) dX8_readParty_3 rfl rfl (Nat.le_of_ble_eq_true rfl) (by decide) (by decide) ⟨Nat.le_of_ble_eq_true rfl, Nat.le_of_ble_eq_true rfl⟩ (fun v1 => ?_)
  refine z_if_le C 13 dX8_readParty_6 (by decide) ?_ ?_
  · refine z_iconst C dX8_readParty_9 zi_1 ?_
    refine z_goto C 14 dX8_readParty_10 (by decide) ?_
    exact wj_X8_readParty_14 C
  refine z_iconst C dX8_readParty_13 zi_0 ?_
  exact wj_X8_readParty_14 C
noncomputable def j_X8_readRegion_58 (ro : Nat → Nat) (a0 : Nat) (x1 : Int32) (h : zHp) : Option zHp :=
  (zgI h a0 8 14).bind fun v6 => if v6 = 0 then ((zgR h a0 8 3).bind fun r7 => (f_X8_many a0 (1 : Int32) h).bind fun v8 => (zsI h r7 ((33 : Int32) + v8) x1).bind fun h9 => some h9) else some h
set_option maxHeartbeats 4000000 in
set_option maxRecDepth 100000 in
theorem wj_X8_readRegion_58 {P : zX} {ro : Nat → Nat} {sz : Nat} (C : zC P cX8_readRegion RX8 none 8 0 0 2 ro) {a0 : Nat} {x1 : Int32} {h : zHp}  : zG P (zoV sz) (j_X8_readRegion_58 ro a0 x1 h) 58 [(0, .ref a0), (1, .int x1)] [] h sz 0 0 := by
  unfold j_X8_readRegion_58
  refine z_aload_n C dX8_readRegion_58 0 rfl ?_
  refine z_getI C zf_X8_168 dX8_readRegion_59 (fun v6 => ?_)
  refine z_if_ne C 79 dX8_readRegion_62 (by decide) ?_ ?_
  · refine z_aload_n C dX8_readRegion_65 0 rfl ?_
    refine z_getR C zf_X8_13 dX8_readRegion_66 (fun r7 => ?_)
    refine z_bipush C dX8_readRegion_69 zbi_33 ?_
    refine z_aload_n C dX8_readRegion_71 0 rfl ?_
    refine z_iconst C dX8_readRegion_72 zi_1 ?_
    refine z_callVp C zc_X8_44 [.int (1 : Int32)] (fun l D tc b0 r h => m_X8_many l D tc ro b0 h) dX8_readRegion_73 rfl rfl (Nat.le_of_ble_eq_true rfl) (by decide) (by decide) ⟨Nat.le_of_ble_eq_true rfl, Nat.le_of_ble_eq_true rfl⟩ (fun v8 => ?_)
    refine z_iadd C dX8_readRegion_76 ?_
    refine z_iload_n C dX8_readRegion_77 1 rfl ?_
    refine z_iastore C dX8_readRegion_78 (fun h9 => ?_)
    exact z_return C dX8_readRegion_79
  exact z_return C dX8_readRegion_79
noncomputable def j_X8_readRegion_15 (ro : Nat → Nat) (a0 : Nat) (s0 : Nat) (s1 : Int32) (h : zHp) : Option zHp :=
  (f_X8_failsIf s0 s1 (-15 : Int32) h).bind fun h2 => (f_X8_goOn a0 h2).bind fun h3 => (f_X8_newName ro a0 (1 : Int32) h3).bind fun h4 => (zgI h4 a0 8 14).bind fun v5 => if v5 = 0 then ((f_X8_wordOf a0 (ro 18) h4).bind fun v10 => if v10 = (2 : Int32) then ((f_X8_next a0 h4).bind fun h11 => zb2 (f_X8_thing ro a0 (1 : Int32) h11) fun v12 h13 => j_X8_readRegion_58 ro a0 v12 h13) else j_X8_readRegion_58 ro a0 (-1 : Int32) h4) else j_X8_readRegion_58 ro a0 (-1 : Int32) h4
set_option maxHeartbeats 4000000 in
set_option maxRecDepth 100000 in
theorem wj_X8_readRegion_15 {P : zX} {ro : Nat → Nat} {sz : Nat} (C : zC P cX8_readRegion RX8 none 8 0 0 2 ro) {a0 : Nat} {s0 : Nat} {s1 : Int32} {h : zHp}  : zG P (zoV sz) (j_X8_readRegion_15 ro a0 s0 s1 h) 15 [(0, .ref a0)] [.int s1, .ref s0] h sz 0 0 := by
  unfold j_X8_readRegion_15
  refine z_bipush C dX8_readRegion_15 zbi_m15 ?_
  refine z_callVv C zc_X8_177 [.int s1, .int (-15 : Int32)] (fun l D tc b0 r h => m_X8_failsIf l D tc ro b0 h) dX8_readRegion_17 rfl rfl (Nat.le_of_ble_eq_true rfl) (by decide) (by decide) ⟨Nat.le_of_ble_eq_true rfl, Nat.le_of_ble_eq_true rfl⟩ (fun h2 => ?_)
  refine z_aload_n C dX8_readRegion_20 0 rfl ?_
  refine z_callVv C zc_X8_181 [] (fun l D tc b0 r h => m_X8_goOn l D tc ro b0 h) dX8_readRegion_21 rfl rfl (Nat.le_of_ble_eq_true rfl) (by decide) (by decide) ⟨Nat.le_of_ble_eq_true rfl, Nat.le_of_ble_eq_true rfl⟩ (fun h3 => ?_)
  refine z_aload_n C dX8_readRegion_24 0 rfl ?_
  refine z_iconst C dX8_readRegion_25 zi_1 ?_
  refine z_callVv C zc_X8_199 [.int (1 : Int32)] (fun l D tc b0 r h => m_X8_newName l D tc ro b0 h) dX8_readRegion_26 rfl rfl (Nat.le_of_ble_eq_true rfl) (by decide) (by decide) ⟨Nat.le_of_ble_eq_true rfl, Nat.le_of_ble_eq_true rfl⟩ (fun h4 => ?_)
  refine z_iconst C dX8_readRegion_29 zi_m1 ?_
  refine z_istore_n (lv' := [(0, .ref a0), (1, .int (-1 : Int32))]) C dX8_readRegion_30 (by decide) rfl ?_
  refine z_aload_n C dX8_readRegion_31 0 rfl ?_
  refine z_getI C zf_X8_168 dX8_readRegion_32 (fun v5 => ?_)
  refine z_if_ne C 58 dX8_readRegion_35 (by decide) ?_ ?_
  · refine z_aload_n C dX8_readRegion_38 0 rfl ?_
    refine z_ldcS C 18 rfl dX8_readRegion_39 ?_
    refine z_callVp C zc_X8_186 [.ref (ro 18)] (fun l D tc b0 r h => m_X8_wordOf l D tc ro b0 h) dX8_readRegion_41 rfl rfl (Nat.le_of_ble_eq_true rfl) (by decide) (by decide) ⟨Nat.le_of_ble_eq_true rfl, Nat.le_of_ble_eq_true rfl⟩ (fun v10 => ?_)
    refine z_iconst C dX8_readRegion_44 zi_2 ?_
    refine z_icmp_ne C 58 dX8_readRegion_45 (by decide) ?_ ?_
    · refine z_aload_n C dX8_readRegion_48 0 rfl ?_
      refine z_callVv C zc_X8_174 [] (fun l D tc b0 r h => m_X8_next l D tc ro b0 h) dX8_readRegion_49 rfl rfl (Nat.le_of_ble_eq_true rfl) (by decide) (by decide) ⟨Nat.le_of_ble_eq_true rfl, Nat.le_of_ble_eq_true rfl⟩ (fun h11 => ?_)
      refine z_aload_n C dX8_readRegion_52 0 rfl ?_
      refine z_iconst C dX8_readRegion_53 zi_1 ?_
      refine z_callVi C zc_X8_203 [.int (1 : Int32)] (fun l D tc b0 r h => m_X8_thing l D tc ro b0 h) dX8_readRegion_54 rfl rfl (Nat.le_of_ble_eq_true rfl) (by decide) (by decide) ⟨Nat.le_of_ble_eq_true rfl, Nat.le_of_ble_eq_true rfl⟩ (fun v12 h13 => ?_)
      refine z_istore_n (lv' := [(0, .ref a0), (1, .int v12)]) C dX8_readRegion_57 (by decide) rfl ?_
      exact wj_X8_readRegion_58 C
    exact wj_X8_readRegion_58 C
  exact wj_X8_readRegion_58 C
noncomputable def f_X8_readRegion (ro : Nat → Nat) (a0 : Nat) (hp : zHp) : Option zHp :=
  (zis hp a0 8).bind fun _ => (f_X8_many a0 (1 : Int32) hp).bind fun v1 => if v1 = (5 : Int32) then (j_X8_readRegion_15 ro a0 a0 (1 : Int32) hp) else j_X8_readRegion_15 ro a0 a0 (0 : Int32) hp
set_option maxHeartbeats 4000000 in
set_option maxRecDepth 100000 in
theorem m_X8_readRegion (l : Launch) (D : va_G) (tc : Nat → ClassId) (ro : Nat → Nat) (b0 : Nat) {a0 : Nat} {hp : zHp} {sz : Nat} {r : zHp} (h : f_X8_readRegion ro a0 hp = some r) : zis hp a0 8 = some () ∧ zM l yX8_readRegion cX8_readRegion 2 none 8 0 0 [.ref a0] D tc ro b0 hp sz ((zoV sz) r).1 ((zoV sz) r).2.1 ((zoV sz) r).2.2 := by
  refine ⟨?_, z_start (o := (zoV sz)) (lv := [(0, .ref a0)]) h (by decide +kernel) RX8 rfl rfl (Nat.le_of_ble_eq_true rfl) (fun P C => ?_)⟩
  · unfold f_X8_readRegion at h
    cases hc : zis hp a0 8 with
    | none => rw [hc] at h; cases h
    | some u => rfl
  unfold f_X8_readRegion
  refine z_is ?_
  refine z_aload_n C dX8_readRegion_0 0 rfl ?_
  refine z_aload_n C dX8_readRegion_1 0 rfl ?_
  refine z_iconst C dX8_readRegion_2 zi_1 ?_
  refine z_callVp C zc_X8_44 [.int (1 : Int32)] (fun l D tc b0 r h => m_X8_many l D tc ro b0 h) dX8_readRegion_3 rfl rfl (Nat.le_of_ble_eq_true rfl) (by decide) (by decide) ⟨Nat.le_of_ble_eq_true rfl, Nat.le_of_ble_eq_true rfl⟩ (fun v1 => ?_)
  refine z_iconst C dX8_readRegion_6 zi_5 ?_
  refine z_icmp_ne C 14 dX8_readRegion_7 (by decide) ?_ ?_
  · refine z_iconst C dX8_readRegion_10 zi_1 ?_
    refine z_goto C 15 dX8_readRegion_11 (by decide) ?_
    exact wj_X8_readRegion_15 C
  refine z_iconst C dX8_readRegion_14 zi_0 ?_
  exact wj_X8_readRegion_15 C
noncomputable def j_X8_readWard_16 (ro : Nat → Nat) (a0 : Nat) (s0 : Nat) (s1 : Int32) (h : zHp) : Option zHp :=
  (f_X8_failsIf s0 s1 (-15 : Int32) h).bind fun h2 => (f_X8_goOn a0 h2).bind fun h3 => (f_X8_newName ro a0 (2 : Int32) h3).bind fun h4 => zb2 (f_X8_thing ro a0 (1 : Int32) h4) fun v5 h6 => (zgI h6 a0 8 14).bind fun v7 => if v7 = 0 then ((zgR h6 a0 8 3).bind fun r8 => (f_X8_many a0 (2 : Int32) h6).bind fun v9 => (zsI h6 r8 ((38 : Int32) + v9) v5).bind fun h10 => some h10) else some h6
set_option maxHeartbeats 4000000 in
set_option maxRecDepth 100000 in
theorem wj_X8_readWard_16 {P : zX} {ro : Nat → Nat} {sz : Nat} (C : zC P cX8_readWard RX8 none 8 0 0 2 ro) {a0 : Nat} {s0 : Nat} {s1 : Int32} {h : zHp}  : zG P (zoV sz) (j_X8_readWard_16 ro a0 s0 s1 h) 16 [(0, .ref a0)] [.int s1, .ref s0] h sz 0 0 := by
  unfold j_X8_readWard_16
  refine z_bipush C dX8_readWard_16 zbi_m15 ?_
  refine z_callVv C zc_X8_177 [.int s1, .int (-15 : Int32)] (fun l D tc b0 r h => m_X8_failsIf l D tc ro b0 h) dX8_readWard_18 rfl rfl (Nat.le_of_ble_eq_true rfl) (by decide) (by decide) ⟨Nat.le_of_ble_eq_true rfl, Nat.le_of_ble_eq_true rfl⟩ (fun h2 => ?_)
  refine z_aload_n C dX8_readWard_21 0 rfl ?_
  refine z_callVv C zc_X8_181 [] (fun l D tc b0 r h => m_X8_goOn l D tc ro b0 h) dX8_readWard_22 rfl rfl (Nat.le_of_ble_eq_true rfl) (by decide) (by decide) ⟨Nat.le_of_ble_eq_true rfl, Nat.le_of_ble_eq_true rfl⟩ (fun h3 => ?_)
  refine z_aload_n C dX8_readWard_25 0 rfl ?_
  refine z_iconst C dX8_readWard_26 zi_2 ?_
  refine z_callVv C zc_X8_199 [.int (2 : Int32)] (fun l D tc b0 r h => m_X8_newName l D tc ro b0 h) dX8_readWard_27 rfl rfl (Nat.le_of_ble_eq_true rfl) (by decide) (by decide) ⟨Nat.le_of_ble_eq_true rfl, Nat.le_of_ble_eq_true rfl⟩ (fun h4 => ?_)
  refine z_aload_n C dX8_readWard_30 0 rfl ?_
  refine z_iconst C dX8_readWard_31 zi_1 ?_
  refine z_callVi C zc_X8_203 [.int (1 : Int32)] (fun l D tc b0 r h => m_X8_thing l D tc ro b0 h) dX8_readWard_32 rfl rfl (Nat.le_of_ble_eq_true rfl) (by decide) (by decide) ⟨Nat.le_of_ble_eq_true rfl, Nat.le_of_ble_eq_true rfl⟩ (fun v5 h6 => ?_)
  refine z_istore_n (lv' := [(0, .ref a0), (1, .int v5)]) C dX8_readWard_35 (by decide) rfl ?_
  refine z_aload_n C dX8_readWard_36 0 rfl ?_
  refine z_getI C zf_X8_168 dX8_readWard_37 (fun v7 => ?_)
  refine z_if_ne C 57 dX8_readWard_40 (by decide) ?_ ?_
  · refine z_aload_n C dX8_readWard_43 0 rfl ?_
    refine z_getR C zf_X8_13 dX8_readWard_44 (fun r8 => ?_)
    refine z_bipush C dX8_readWard_47 zbi_38 ?_
    refine z_aload_n C dX8_readWard_49 0 rfl ?_
    refine z_iconst C dX8_readWard_50 zi_2 ?_
    refine z_callVp C zc_X8_44 [.int (2 : Int32)] (fun l D tc b0 r h => m_X8_many l D tc ro b0 h) dX8_readWard_51 rfl rfl (Nat.le_of_ble_eq_true rfl) (by decide) (by decide) ⟨Nat.le_of_ble_eq_true rfl, Nat.le_of_ble_eq_true rfl⟩ (fun v9 => ?_)
    refine z_iadd C dX8_readWard_54 ?_
    refine z_iload_n C dX8_readWard_55 1 rfl ?_
    refine z_iastore C dX8_readWard_56 (fun h10 => ?_)
    exact z_return C dX8_readWard_57
  exact z_return C dX8_readWard_57
noncomputable def f_X8_readWard (ro : Nat → Nat) (a0 : Nat) (hp : zHp) : Option zHp :=
  (zis hp a0 8).bind fun _ => (f_X8_many a0 (2 : Int32) hp).bind fun v1 => if v1 = (6 : Int32) then (j_X8_readWard_16 ro a0 a0 (1 : Int32) hp) else j_X8_readWard_16 ro a0 a0 (0 : Int32) hp
set_option maxHeartbeats 4000000 in
set_option maxRecDepth 100000 in
theorem m_X8_readWard (l : Launch) (D : va_G) (tc : Nat → ClassId) (ro : Nat → Nat) (b0 : Nat) {a0 : Nat} {hp : zHp} {sz : Nat} {r : zHp} (h : f_X8_readWard ro a0 hp = some r) : zis hp a0 8 = some () ∧ zM l yX8_readWard cX8_readWard 2 none 8 0 0 [.ref a0] D tc ro b0 hp sz ((zoV sz) r).1 ((zoV sz) r).2.1 ((zoV sz) r).2.2 := by
  refine ⟨?_, z_start (o := (zoV sz)) (lv := [(0, .ref a0)]) h (by decide +kernel) RX8 rfl rfl (Nat.le_of_ble_eq_true rfl) (fun P C => ?_)⟩
  · unfold f_X8_readWard at h
    cases hc : zis hp a0 8 with
    | none => rw [hc] at h; cases h
    | some u => rfl
  unfold f_X8_readWard
  refine z_is ?_
  refine z_aload_n C dX8_readWard_0 0 rfl ?_
  refine z_aload_n C dX8_readWard_1 0 rfl ?_
  refine z_iconst C dX8_readWard_2 zi_2 ?_
  refine z_callVp C zc_X8_44 [.int (2 : Int32)] (fun l D tc b0 r h => m_X8_many l D tc ro b0 h) dX8_readWard_3 rfl rfl (Nat.le_of_ble_eq_true rfl) (by decide) (by decide) ⟨Nat.le_of_ble_eq_true rfl, Nat.le_of_ble_eq_true rfl⟩ (fun v1 => ?_)
  refine z_bipush C dX8_readWard_6 zbi_6 ?_
  refine z_icmp_ne C 15 dX8_readWard_8 (by decide) ?_ ?_
  · refine z_iconst C dX8_readWard_11 zi_1 ?_
    refine z_goto C 16 dX8_readWard_12 (by decide) ?_
    exact wj_X8_readWard_16 C
  refine z_iconst C dX8_readWard_15 zi_0 ?_
  exact wj_X8_readWard_16 C
noncomputable def b_X8_readBox_60 (ro : Nat → Nat) (k105 : zHp → Option zHp) (a0 : Nat) (x1 : Int32) (x2 : Int32) (x3 : Int32) (x4 : Int32) (rec : Int32 → zHp → Option zHp) (x5 : Int32) (h : zHp) : Option zHp :=
  (f_X8_piles a0 h).bind fun v11 => if x5 < v11 then ((zgI h a0 8 14).bind fun v12 => if v12 = 0 then ((zgR h a0 8 3).bind fun r13 => zb2 (f_X8_integer a0 (0 : Int32) (300 : Int32) h) fun v14 h15 => (zsI h15 r13 (((68 : Int32) + ((6 : Int32) * x1)) + x5) v14).bind fun h16 => zlet (x5 + (1 : Int32)) fun v17 => rec v17 h16) else k105 h) else k105 h
noncomputable def l_X8_readBox_60 (ro : Nat → Nat) (k105 : zHp → Option zHp) (a0 : Nat) (x1 : Int32) (x2 : Int32) (x3 : Int32) (x4 : Int32) (n : Nat) : Int32 → zHp → Option zHp :=
  Nat.rec (motive := fun _ => Int32 → zHp → Option zHp) (fun _ _ => none) (fun _ rec => b_X8_readBox_60 ro k105 a0 x1 x2 x3 x4 rec) n
theorem l_X8_readBox_60_s {ro : Nat → Nat} (k105 : zHp → Option zHp) (a0 : Nat) (x1 : Int32) (x2 : Int32) (x3 : Int32) (x4 : Int32) (n : Nat) (x5 : Int32) (h : zHp) : l_X8_readBox_60 ro k105 a0 x1 x2 x3 x4 (n + 1) x5 h = b_X8_readBox_60 ro k105 a0 x1 x2 x3 x4 (l_X8_readBox_60 ro k105 a0 x1 x2 x3 x4 n) x5 h := rfl
set_option maxHeartbeats 4000000 in
set_option maxRecDepth 100000 in
theorem wl_X8_readBox_60 {P : zX} {ro : Nat → Nat} {sz : Nat} (C : zC P cX8_readBox RX8 none 8 0 0 6 ro) {a0 : Nat} {x1 : Int32} {x2 : Int32} {x3 : Int32} {x4 : Int32} {k105 : zHp → Option zHp} (hk105 : ∀ (h : zHp), zG P (zoV sz) (k105 h) 105 [(0, .ref a0), (1, .int x1), (2, .int x2), (3, .int x3), (4, .int x4)] [] h sz 0 0) : ∀ (n : Nat) (x5 : Int32) (h : zHp), zG P (zoV sz) (l_X8_readBox_60 ro k105 a0 x1 x2 x3 x4 n x5 h) 60 [(0, .ref a0), (1, .int x1), (2, .int x2), (3, .int x3), (4, .int x4), (5, .int x5)] [] h sz 0 0 := by
  intro n
  induction n with
  | zero =>
    intro x5 h
    show zG P (zoV sz) none _ _ _ _ _ _ _
    exact z_none
  | succ n ih =>
    intro x5 h
    show zG P (zoV sz) (b_X8_readBox_60 ro k105 a0 x1 x2 x3 x4 (l_X8_readBox_60 ro k105 a0 x1 x2 x3 x4 n) x5 h) _ _ _ _ _ _ _
    unfold b_X8_readBox_60
    refine z_iload C dX8_readBox_60 5 rfl ?_
    refine z_aload_n C dX8_readBox_62 0 rfl ?_
    refine z_callVp C zc_X8_59 [] (fun l D tc b0 r h => m_X8_piles l D tc ro b0 h) dX8_readBox_63 rfl rfl (Nat.le_of_ble_eq_true rfl) (by decide) (by decide) ⟨Nat.le_of_ble_eq_true rfl, Nat.le_of_ble_eq_true rfl⟩ (fun v11 => ?_)
    refine z_icmp_ge C 105 dX8_readBox_66 (by decide) ?_ ?_
    · refine z_aload_n C dX8_readBox_69 0 rfl ?_
      refine z_getI C zf_X8_168 dX8_readBox_70 (fun v12 => ?_)
      refine z_if_ne C 105 dX8_readBox_73 (by decide) ?_ ?_
      · refine z_aload_n C dX8_readBox_76 0 rfl ?_
        refine z_getR C zf_X8_13 dX8_readBox_77 (fun r13 => ?_)
        refine z_bipush C dX8_readBox_80 zbi_68 ?_
        refine z_bipush C dX8_readBox_82 zbi_6 ?_
        refine z_iload_n C dX8_readBox_84 1 rfl ?_
        refine z_imul C dX8_readBox_85 ?_
        refine z_iadd C dX8_readBox_86 ?_
        refine z_iload C dX8_readBox_87 5 rfl ?_
        refine z_iadd C dX8_readBox_89 ?_
        refine z_aload_n C dX8_readBox_90 0 rfl ?_
        refine z_iconst C dX8_readBox_91 zi_0 ?_
        refine z_sipush C dX8_readBox_92 zsi_300 ?_
        refine z_callVi C zc_X8_206 [.int (0 : Int32), .int (300 : Int32)] (fun l D tc b0 r h => m_X8_integer l D tc ro b0 h) dX8_readBox_95 rfl rfl (Nat.le_of_ble_eq_true rfl) (by decide) (by decide) ⟨Nat.le_of_ble_eq_true rfl, Nat.le_of_ble_eq_true rfl⟩ (fun v14 h15 => ?_)
        refine z_iastore C dX8_readBox_98 (fun h16 => ?_)
        refine z_iincL C 5 (fun v17 => [(0, .ref a0), (1, .int x1), (2, .int x2), (3, .int x3), (4, .int x4), (5, .int v17)]) dX8_readBox_99 rfl zi_1 (by decide) (fun _ => rfl) (fun v17 => ?_)
        refine z_goto C 60 dX8_readBox_102 (by decide) ?_
        exact ih _ _
      exact z_sub [0, 1, 2, 3, 4] rfl (hk105 _)
    exact z_sub [0, 1, 2, 3, 4] rfl (hk105 _)
noncomputable def j_X8_readBox_18 (ro : Nat → Nat) (a0 : Nat) (x1 : Int32) (s0 : Nat) (s1 : Int32) (h : zHp) : Option zHp :=
  (f_X8_failsIf s0 s1 (-15 : Int32) h).bind fun h2 => (f_X8_goOn a0 h2).bind fun h3 => (f_X8_newName ro a0 (3 : Int32) h3).bind fun h4 => zb2 (f_X8_thing ro a0 (2 : Int32) h4) fun v5 h6 => zb2 (f_X8_integer a0 (0 : Int32) (999 : Int32) h6) fun v7 h8 => zb2 (f_X8_integer a0 (1 : Int32) (9999 : Int32) h8) fun v9 h10 => l_X8_readBox_60 ro (fun h18 => (zgI h18 a0 8 14).bind fun v19 => if v19 = 0 then ((zgR h18 a0 8 3).bind fun r20 => (zsI h18 r20 ((44 : Int32) + x1) v5).bind fun h21 => (zgR h21 a0 8 3).bind fun r22 => (zsI h21 r22 ((56 : Int32) + x1) v7).bind fun h23 => (f_X8_sets a0 x1 (0 : Int32) (-3 : Int32) h23).bind fun h24 => (f_X8_sets a0 x1 (1 : Int32) v9 h24).bind fun h25 => (f_X8_sets a0 x1 (2 : Int32) (1 : Int32) h25).bind fun h26 => (f_X8_sets a0 x1 (4 : Int32) v9 h26).bind fun h27 => some h27) else some h18) a0 x1 v5 v7 v9 1000000 (0 : Int32) h10
set_option maxHeartbeats 4000000 in
set_option maxRecDepth 100000 in
theorem wj_X8_readBox_18 {P : zX} {ro : Nat → Nat} {sz : Nat} (C : zC P cX8_readBox RX8 none 8 0 0 6 ro) {a0 : Nat} {x1 : Int32} {s0 : Nat} {s1 : Int32} {h : zHp}  : zG P (zoV sz) (j_X8_readBox_18 ro a0 x1 s0 s1 h) 18 [(0, .ref a0), (1, .int x1)] [.int s1, .ref s0] h sz 0 0 := by
  unfold j_X8_readBox_18
  refine z_bipush C dX8_readBox_18 zbi_m15 ?_
  refine z_callVv C zc_X8_177 [.int s1, .int (-15 : Int32)] (fun l D tc b0 r h => m_X8_failsIf l D tc ro b0 h) dX8_readBox_20 rfl rfl (Nat.le_of_ble_eq_true rfl) (by decide) (by decide) ⟨Nat.le_of_ble_eq_true rfl, Nat.le_of_ble_eq_true rfl⟩ (fun h2 => ?_)
  refine z_aload_n C dX8_readBox_23 0 rfl ?_
  refine z_callVv C zc_X8_181 [] (fun l D tc b0 r h => m_X8_goOn l D tc ro b0 h) dX8_readBox_24 rfl rfl (Nat.le_of_ble_eq_true rfl) (by decide) (by decide) ⟨Nat.le_of_ble_eq_true rfl, Nat.le_of_ble_eq_true rfl⟩ (fun h3 => ?_)
  refine z_aload_n C dX8_readBox_27 0 rfl ?_
  refine z_iconst C dX8_readBox_28 zi_3 ?_
  refine z_callVv C zc_X8_199 [.int (3 : Int32)] (fun l D tc b0 r h => m_X8_newName l D tc ro b0 h) dX8_readBox_29 rfl rfl (Nat.le_of_ble_eq_true rfl) (by decide) (by decide) ⟨Nat.le_of_ble_eq_true rfl, Nat.le_of_ble_eq_true rfl⟩ (fun h4 => ?_)
  refine z_aload_n C dX8_readBox_32 0 rfl ?_
  refine z_iconst C dX8_readBox_33 zi_2 ?_
  refine z_callVi C zc_X8_203 [.int (2 : Int32)] (fun l D tc b0 r h => m_X8_thing l D tc ro b0 h) dX8_readBox_34 rfl rfl (Nat.le_of_ble_eq_true rfl) (by decide) (by decide) ⟨Nat.le_of_ble_eq_true rfl, Nat.le_of_ble_eq_true rfl⟩ (fun v5 h6 => ?_)
  refine z_istore_n (lv' := [(0, .ref a0), (1, .int x1), (2, .int v5)]) C dX8_readBox_37 (by decide) rfl ?_
  refine z_aload_n C dX8_readBox_38 0 rfl ?_
  refine z_iconst C dX8_readBox_39 zi_0 ?_
  refine z_sipush C dX8_readBox_40 zsi_999 ?_
  refine z_callVi C zc_X8_206 [.int (0 : Int32), .int (999 : Int32)] (fun l D tc b0 r h => m_X8_integer l D tc ro b0 h) dX8_readBox_43 rfl rfl (Nat.le_of_ble_eq_true rfl) (by decide) (by decide) ⟨Nat.le_of_ble_eq_true rfl, Nat.le_of_ble_eq_true rfl⟩ (fun v7 h8 => ?_)
  refine z_istore_n (lv' := [(0, .ref a0), (1, .int x1), (2, .int v5), (3, .int v7)]) C dX8_readBox_46 (by decide) rfl ?_
  refine z_aload_n C dX8_readBox_47 0 rfl ?_
  refine z_iconst C dX8_readBox_48 zi_1 ?_
  refine z_sipush C dX8_readBox_49 zsi_9999 ?_
  refine z_callVi C zc_X8_206 [.int (1 : Int32), .int (9999 : Int32)] (fun l D tc b0 r h => m_X8_integer l D tc ro b0 h) dX8_readBox_52 rfl rfl (Nat.le_of_ble_eq_true rfl) (by decide) (by decide) ⟨Nat.le_of_ble_eq_true rfl, Nat.le_of_ble_eq_true rfl⟩ (fun v9 h10 => ?_)
  refine z_istore (lv' := [(0, .ref a0), (1, .int x1), (2, .int v5), (3, .int v7), (4, .int v9)]) C dX8_readBox_55 (by decide) rfl ?_
  refine z_iconst C dX8_readBox_57 zi_0 ?_
  refine z_istore (lv' := [(0, .ref a0), (1, .int x1), (2, .int v5), (3, .int v7), (4, .int v9), (5, .int (0 : Int32))]) C dX8_readBox_58 (by decide) rfl ?_
  refine wl_X8_readBox_60 C (fun h18 => ?_) _ _ _
  refine z_aload_n C dX8_readBox_105 0 rfl ?_
  refine z_getI C zf_X8_168 dX8_readBox_106 (fun v19 => ?_)
  refine z_if_eq C 113 dX8_readBox_109 (by decide) ?_ ?_
  · refine z_aload_n C dX8_readBox_113 0 rfl ?_
    refine z_getR C zf_X8_13 dX8_readBox_114 (fun r20 => ?_)
    refine z_bipush C dX8_readBox_117 zbi_44 ?_
    refine z_iload_n C dX8_readBox_119 1 rfl ?_
    refine z_iadd C dX8_readBox_120 ?_
    refine z_iload_n C dX8_readBox_121 2 rfl ?_
    refine z_iastore C dX8_readBox_122 (fun h21 => ?_)
    refine z_aload_n C dX8_readBox_123 0 rfl ?_
    refine z_getR C zf_X8_13 dX8_readBox_124 (fun r22 => ?_)
    refine z_bipush C dX8_readBox_127 zbi_56 ?_
    refine z_iload_n C dX8_readBox_129 1 rfl ?_
    refine z_iadd C dX8_readBox_130 ?_
    refine z_iload_n C dX8_readBox_131 3 rfl ?_
    refine z_iastore C dX8_readBox_132 (fun h23 => ?_)
    refine z_aload_n C dX8_readBox_133 0 rfl ?_
    refine z_iload_n C dX8_readBox_134 1 rfl ?_
    refine z_iconst C dX8_readBox_135 zi_0 ?_
    refine z_bipush C dX8_readBox_136 zbi_m3 ?_
    refine z_callVv C zc_X8_209 [.int x1, .int (0 : Int32), .int (-3 : Int32)] (fun l D tc b0 r h => m_X8_sets l D tc ro b0 h) dX8_readBox_138 rfl rfl (Nat.le_of_ble_eq_true rfl) (by decide) (by decide) ⟨Nat.le_of_ble_eq_true rfl, Nat.le_of_ble_eq_true rfl⟩ (fun h24 => ?_)
    refine z_aload_n C dX8_readBox_141 0 rfl ?_
    refine z_iload_n C dX8_readBox_142 1 rfl ?_
    refine z_iconst C dX8_readBox_143 zi_1 ?_
    refine z_iload C dX8_readBox_144 4 rfl ?_
    refine z_callVv C zc_X8_209 [.int x1, .int (1 : Int32), .int v9] (fun l D tc b0 r h => m_X8_sets l D tc ro b0 h) dX8_readBox_146 rfl rfl (Nat.le_of_ble_eq_true rfl) (by decide) (by decide) ⟨Nat.le_of_ble_eq_true rfl, Nat.le_of_ble_eq_true rfl⟩ (fun h25 => ?_)
    refine z_aload_n C dX8_readBox_149 0 rfl ?_
    refine z_iload_n C dX8_readBox_150 1 rfl ?_
    refine z_iconst C dX8_readBox_151 zi_2 ?_
    refine z_iconst C dX8_readBox_152 zi_1 ?_
    refine z_callVv C zc_X8_209 [.int x1, .int (2 : Int32), .int (1 : Int32)] (fun l D tc b0 r h => m_X8_sets l D tc ro b0 h) dX8_readBox_153 rfl rfl (Nat.le_of_ble_eq_true rfl) (by decide) (by decide) ⟨Nat.le_of_ble_eq_true rfl, Nat.le_of_ble_eq_true rfl⟩ (fun h26 => ?_)
    refine z_aload_n C dX8_readBox_156 0 rfl ?_
    refine z_iload_n C dX8_readBox_157 1 rfl ?_
    refine z_iconst C dX8_readBox_158 zi_4 ?_
    refine z_iload C dX8_readBox_159 4 rfl ?_
    refine z_callVv C zc_X8_209 [.int x1, .int (4 : Int32), .int v9] (fun l D tc b0 r h => m_X8_sets l D tc ro b0 h) dX8_readBox_161 rfl rfl (Nat.le_of_ble_eq_true rfl) (by decide) (by decide) ⟨Nat.le_of_ble_eq_true rfl, Nat.le_of_ble_eq_true rfl⟩ (fun h27 => ?_)
    exact z_return C dX8_readBox_164
  exact z_return C dX8_readBox_112
noncomputable def f_X8_readBox (ro : Nat → Nat) (a0 : Nat) (hp : zHp) : Option zHp :=
  (zis hp a0 8).bind fun _ => (f_X8_many a0 (3 : Int32) hp).bind fun v1 => if v1 = (12 : Int32) then (j_X8_readBox_18 ro a0 v1 a0 (1 : Int32) hp) else j_X8_readBox_18 ro a0 v1 a0 (0 : Int32) hp
set_option maxHeartbeats 4000000 in
set_option maxRecDepth 100000 in
theorem m_X8_readBox (l : Launch) (D : va_G) (tc : Nat → ClassId) (ro : Nat → Nat) (b0 : Nat) {a0 : Nat} {hp : zHp} {sz : Nat} {r : zHp} (h : f_X8_readBox ro a0 hp = some r) : zis hp a0 8 = some () ∧ zM l yX8_readBox cX8_readBox 6 none 8 0 0 [.ref a0] D tc ro b0 hp sz ((zoV sz) r).1 ((zoV sz) r).2.1 ((zoV sz) r).2.2 := by
  refine ⟨?_, z_start (o := (zoV sz)) (lv := [(0, .ref a0)]) h (by decide +kernel) RX8 rfl rfl (Nat.le_of_ble_eq_true rfl) (fun P C => ?_)⟩
  · unfold f_X8_readBox at h
    cases hc : zis hp a0 8 with
    | none => rw [hc] at h; cases h
    | some u => rfl
  unfold f_X8_readBox
  refine z_is ?_
  refine z_aload_n C dX8_readBox_0 0 rfl ?_
  refine z_iconst C dX8_readBox_1 zi_3 ?_
  refine z_callVp C zc_X8_44 [.int (3 : Int32)] (fun l D tc b0 r h => m_X8_many l D tc ro b0 h) dX8_readBox_2 rfl rfl (Nat.le_of_ble_eq_true rfl) (by decide) (by decide) ⟨Nat.le_of_ble_eq_true rfl, Nat.le_of_ble_eq_true rfl⟩ (fun v1 => ?_)
  refine z_istore_n (lv' := [(0, .ref a0), (1, .int v1)]) C dX8_readBox_5 (by decide) rfl ?_
  refine z_aload_n C dX8_readBox_6 0 rfl ?_
  refine z_iload_n C dX8_readBox_7 1 rfl ?_
  refine z_bipush C dX8_readBox_8 zbi_12 ?_
  refine z_icmp_ne C 17 dX8_readBox_10 (by decide) ?_ ?_
  · refine z_iconst C dX8_readBox_13 zi_1 ?_
    refine z_goto C 18 dX8_readBox_14 (by decide) ?_
    exact wj_X8_readBox_18 C
  refine z_iconst C dX8_readBox_17 zi_0 ?_
  exact wj_X8_readBox_18 C
noncomputable def j_X8_readTable_15 (a0 : Nat) (s0 : Nat) (s1 : Int32) (h : zHp) : Option zHp :=
  (f_X8_failsIf s0 s1 (-15 : Int32) h).bind fun h2 => (f_X8_goOn a0 h2).bind fun h3 => zb2 (f_X8_integer a0 (0 : Int32) (99 : Int32) h3) fun v4 h5 => (zgI h5 a0 8 14).bind fun v6 => if v6 = 0 then ((zgR h5 a0 8 3).bind fun r7 => (f_X8_many a0 (4 : Int32) h5).bind fun v8 => (zsI h5 r7 ((140 : Int32) + v8) v4).bind fun h9 => some h9) else some h5
set_option maxHeartbeats 4000000 in
set_option maxRecDepth 100000 in
theorem wj_X8_readTable_15 {P : zX} {ro : Nat → Nat} {sz : Nat} (C : zC P cX8_readTable RX8 none 5 0 0 2 ro) {a0 : Nat} {s0 : Nat} {s1 : Int32} {h : zHp}  : zG P (zoV sz) (j_X8_readTable_15 a0 s0 s1 h) 15 [(0, .ref a0)] [.int s1, .ref s0] h sz 0 0 := by
  unfold j_X8_readTable_15
  refine z_bipush C dX8_readTable_15 zbi_m15 ?_
  refine z_callVv C zc_X8_177 [.int s1, .int (-15 : Int32)] (fun l D tc b0 r h => m_X8_failsIf l D tc ro b0 h) dX8_readTable_17 rfl rfl (Nat.le_of_ble_eq_true rfl) (by decide) (by decide) ⟨Nat.le_of_ble_eq_true rfl, Nat.le_of_ble_eq_true rfl⟩ (fun h2 => ?_)
  refine z_aload_n C dX8_readTable_20 0 rfl ?_
  refine z_callVv C zc_X8_181 [] (fun l D tc b0 r h => m_X8_goOn l D tc ro b0 h) dX8_readTable_21 rfl rfl (Nat.le_of_ble_eq_true rfl) (by decide) (by decide) ⟨Nat.le_of_ble_eq_true rfl, Nat.le_of_ble_eq_true rfl⟩ (fun h3 => ?_)
  refine z_aload_n C dX8_readTable_24 0 rfl ?_
  refine z_iconst C dX8_readTable_25 zi_0 ?_
  refine z_bipush C dX8_readTable_26 zbi_99 ?_
  refine z_callVi C zc_X8_206 [.int (0 : Int32), .int (99 : Int32)] (fun l D tc b0 r h => m_X8_integer l D tc ro b0 h) dX8_readTable_28 rfl rfl (Nat.le_of_ble_eq_true rfl) (by decide) (by decide) ⟨Nat.le_of_ble_eq_true rfl, Nat.le_of_ble_eq_true rfl⟩ (fun v4 h5 => ?_)
  refine z_istore_n (lv' := [(0, .ref a0), (1, .int v4)]) C dX8_readTable_31 (by decide) rfl ?_
  refine z_aload_n C dX8_readTable_32 0 rfl ?_
  refine z_getI C zf_X8_168 dX8_readTable_33 (fun v6 => ?_)
  refine z_if_ne C 54 dX8_readTable_36 (by decide) ?_ ?_
  · refine z_aload_n C dX8_readTable_39 0 rfl ?_
    refine z_getR C zf_X8_13 dX8_readTable_40 (fun r7 => ?_)
    refine z_sipush C dX8_readTable_43 zsi_140 ?_
    refine z_aload_n C dX8_readTable_46 0 rfl ?_
    refine z_iconst C dX8_readTable_47 zi_4 ?_
    refine z_callVp C zc_X8_44 [.int (4 : Int32)] (fun l D tc b0 r h => m_X8_many l D tc ro b0 h) dX8_readTable_48 rfl rfl (Nat.le_of_ble_eq_true rfl) (by decide) (by decide) ⟨Nat.le_of_ble_eq_true rfl, Nat.le_of_ble_eq_true rfl⟩ (fun v8 => ?_)
    refine z_iadd C dX8_readTable_51 ?_
    refine z_iload_n C dX8_readTable_52 1 rfl ?_
    refine z_iastore C dX8_readTable_53 (fun h9 => ?_)
    exact z_return C dX8_readTable_54
  exact z_return C dX8_readTable_54
noncomputable def f_X8_readTable (a0 : Nat) (hp : zHp) : Option zHp :=
  (zis hp a0 8).bind fun _ => (f_X8_many a0 (4 : Int32) hp).bind fun v1 => if v1 = (4 : Int32) then (j_X8_readTable_15 a0 a0 (1 : Int32) hp) else j_X8_readTable_15 a0 a0 (0 : Int32) hp
set_option maxHeartbeats 4000000 in
set_option maxRecDepth 100000 in
theorem m_X8_readTable (l : Launch) (D : va_G) (tc : Nat → ClassId) (ro : Nat → Nat) (b0 : Nat) {a0 : Nat} {hp : zHp} {sz : Nat} {r : zHp} (h : f_X8_readTable a0 hp = some r) : zis hp a0 8 = some () ∧ zM l yX8_readTable cX8_readTable 2 none 5 0 0 [.ref a0] D tc ro b0 hp sz ((zoV sz) r).1 ((zoV sz) r).2.1 ((zoV sz) r).2.2 := by
  refine ⟨?_, z_start (o := (zoV sz)) (lv := [(0, .ref a0)]) h (by decide +kernel) RX8 rfl rfl (Nat.le_of_ble_eq_true rfl) (fun P C => ?_)⟩
  · unfold f_X8_readTable at h
    cases hc : zis hp a0 8 with
    | none => rw [hc] at h; cases h
    | some u => rfl
  unfold f_X8_readTable
  refine z_is ?_
  refine z_aload_n C dX8_readTable_0 0 rfl ?_
  refine z_aload_n C dX8_readTable_1 0 rfl ?_
  refine z_iconst C dX8_readTable_2 zi_4 ?_
  refine z_callVp C zc_X8_44 [.int (4 : Int32)] (fun l D tc b0 r h => m_X8_many l D tc ro b0 h) dX8_readTable_3 rfl rfl (Nat.le_of_ble_eq_true rfl) (by decide) (by decide) ⟨Nat.le_of_ble_eq_true rfl, Nat.le_of_ble_eq_true rfl⟩ (fun v1 => ?_)
  refine z_iconst C dX8_readTable_6 zi_4 ?_
  refine z_icmp_ne C 14 dX8_readTable_7 (by decide) ?_ ?_
  · refine z_iconst C dX8_readTable_10 zi_1 ?_
    refine z_goto C 15 dX8_readTable_11 (by decide) ?_
    exact wj_X8_readTable_15 C
  refine z_iconst C dX8_readTable_14 zi_0 ?_
  exact wj_X8_readTable_15 C
noncomputable def f_X8_top (x0 : Int32) (hp : zHp) : Option Int32 :=
  if x0 = 0 then (some (50 : Int32)) else some (9 : Int32)
set_option maxHeartbeats 4000000 in
set_option maxRecDepth 100000 in
theorem m_X8_top (l : Launch) (D : va_G) (tc : Nat → ClassId) (ro : Nat → Nat) (b0 : Nat) {x0 : Int32} {hp : zHp} {sz : Nat} {r : Int32} (h : f_X8_top x0 hp = some r) : zM l yX8_top cX8_top 1 (some .int) 1 0 0 [.int x0] D tc ro b0 hp sz ((zoP sz hp) r).1 ((zoP sz hp) r).2.1 ((zoP sz hp) r).2.2 := by
  refine z_start (o := (zoP sz hp)) (lv := [(0, .int x0)]) h (by decide +kernel) RX8 rfl rfl (Nat.le_of_ble_eq_true rfl) (fun P C => ?_)
  unfold f_X8_top
  refine z_iload_n C dX8_top_0 0 rfl ?_
  refine z_if_ne C 9 dX8_top_1 (by decide) ?_ ?_
  · refine z_bipush C dX8_top_4 zbi_50 ?_
    refine z_goto C 11 dX8_top_6 (by decide) ?_
    exact z_ireturnP C dX8_top_11
  refine z_bipush C dX8_top_9 zbi_9 ?_
  exact z_ireturnP C dX8_top_11
noncomputable def j_X8_readSetting_58 (ro : Nat → Nat) (a0 : Nat) (x1 : Int32) (s0 : Nat) (s1 : Int32) (h : zHp) : Option zHp :=
  (f_X8_failsIf s0 s1 (-14 : Int32) h).bind fun h6 => (zgI h6 a0 8 18).bind fun v7 => (zpV h6 a0 8 18 (.int (v7 ||| ((1 : Int32) <<< (x1 &&& 31))))).bind fun h8 => (f_X8_goOn a0 h8).bind fun h9 => (f_X8_top x1 h9).bind fun v10 => zb2 (f_X8_integer a0 (0 : Int32) v10 h9) fun v11 h12 => (zgI h12 a0 8 14).bind fun v13 => if v13 = 0 then ((zgR h12 a0 8 5).bind fun r14 => (zsI h12 r14 ((0 : Int32) + x1) v11).bind fun h15 => some h15) else some h12
set_option maxHeartbeats 4000000 in
set_option maxRecDepth 100000 in
theorem wj_X8_readSetting_58 {P : zX} {ro : Nat → Nat} {sz : Nat} (C : zC P cX8_readSetting RX8 none 6 0 0 3 ro) {a0 : Nat} {x1 : Int32} {s0 : Nat} {s1 : Int32} {h : zHp}  : zG P (zoV sz) (j_X8_readSetting_58 ro a0 x1 s0 s1 h) 58 [(0, .ref a0), (1, .int x1)] [.int s1, .ref s0] h sz 0 0 := by
  unfold j_X8_readSetting_58
  refine z_bipush C dX8_readSetting_58 zbi_m14 ?_
  refine z_callVv C zc_X8_177 [.int s1, .int (-14 : Int32)] (fun l D tc b0 r h => m_X8_failsIf l D tc ro b0 h) dX8_readSetting_60 rfl rfl (Nat.le_of_ble_eq_true rfl) (by decide) (by decide) ⟨Nat.le_of_ble_eq_true rfl, Nat.le_of_ble_eq_true rfl⟩ (fun h6 => ?_)
  refine z_aload_n C dX8_readSetting_63 0 rfl ?_
  refine z_dup C dX8_readSetting_64 rfl ?_
  refine z_getI C zf_X8_215 dX8_readSetting_65 (fun v7 => ?_)
  refine z_iconst C dX8_readSetting_68 zi_1 ?_
  refine z_iload_n C dX8_readSetting_69 1 rfl ?_
  refine z_ishl C dX8_readSetting_70 ?_
  refine z_ior C dX8_readSetting_71 ?_
  refine z_putI C zp_X8_215 dX8_readSetting_72 (fun h8 => ?_)
  refine z_aload_n C dX8_readSetting_75 0 rfl ?_
  refine z_callVv C zc_X8_181 [] (fun l D tc b0 r h => m_X8_goOn l D tc ro b0 h) dX8_readSetting_76 rfl rfl (Nat.le_of_ble_eq_true rfl) (by decide) (by decide) ⟨Nat.le_of_ble_eq_true rfl, Nat.le_of_ble_eq_true rfl⟩ (fun h9 => ?_)
  refine z_aload_n C dX8_readSetting_79 0 rfl ?_
  refine z_iconst C dX8_readSetting_80 zi_0 ?_
  refine z_iload_n C dX8_readSetting_81 1 rfl ?_
  refine z_callSp C zs_X8_218 [.int x1] (fun l D tc b0 r h => m_X8_top l D tc ro b0 h) dX8_readSetting_82 rfl rfl (Nat.le_of_ble_eq_true rfl) (by decide) (by decide) ⟨Nat.le_of_ble_eq_true rfl, Nat.le_of_ble_eq_true rfl⟩ (fun v10 => ?_)
  refine z_callVi C zc_X8_206 [.int (0 : Int32), .int v10] (fun l D tc b0 r h => m_X8_integer l D tc ro b0 h) dX8_readSetting_85 rfl rfl (Nat.le_of_ble_eq_true rfl) (by decide) (by decide) ⟨Nat.le_of_ble_eq_true rfl, Nat.le_of_ble_eq_true rfl⟩ (fun v11 h12 => ?_)
  refine z_istore_n (lv' := [(0, .ref a0), (1, .int x1), (2, .int v11)]) C dX8_readSetting_88 (by decide) rfl ?_
  refine z_aload_n C dX8_readSetting_89 0 rfl ?_
  refine z_getI C zf_X8_168 dX8_readSetting_90 (fun v13 => ?_)
  refine z_if_ne C 105 dX8_readSetting_93 (by decide) ?_ ?_
  · refine z_aload_n C dX8_readSetting_96 0 rfl ?_
    refine z_getR C zf_X8_19 dX8_readSetting_97 (fun r14 => ?_)
    refine z_iconst C dX8_readSetting_100 zi_0 ?_
    refine z_iload_n C dX8_readSetting_101 1 rfl ?_
    refine z_iadd C dX8_readSetting_102 ?_
    refine z_iload_n C dX8_readSetting_103 2 rfl ?_
    refine z_iastore C dX8_readSetting_104 (fun h15 => ?_)
    exact z_return C dX8_readSetting_105
  exact z_return C dX8_readSetting_105
noncomputable def j_X8_readSetting_39 (ro : Nat → Nat) (a0 : Nat) (s0 : Int32) (h : zHp) : Option zHp :=
  (zgI h a0 8 18).bind fun v5 => if ((v5 >>> (s0 &&& 31)) &&& (1 : Int32)) = (1 : Int32) then (j_X8_readSetting_58 ro a0 s0 a0 (1 : Int32) h) else j_X8_readSetting_58 ro a0 s0 a0 (0 : Int32) h
set_option maxHeartbeats 4000000 in
set_option maxRecDepth 100000 in
theorem wj_X8_readSetting_39 {P : zX} {ro : Nat → Nat} {sz : Nat} (C : zC P cX8_readSetting RX8 none 6 0 0 3 ro) {a0 : Nat} {s0 : Int32} {h : zHp}  : zG P (zoV sz) (j_X8_readSetting_39 ro a0 s0 h) 39 [(0, .ref a0)] [.int s0] h sz 0 0 := by
  unfold j_X8_readSetting_39
  refine z_istore_n (lv' := [(0, .ref a0), (1, .int s0)]) C dX8_readSetting_39 (by decide) rfl ?_
  refine z_aload_n C dX8_readSetting_40 0 rfl ?_
  refine z_aload_n C dX8_readSetting_41 0 rfl ?_
  refine z_getI C zf_X8_215 dX8_readSetting_42 (fun v5 => ?_)
  refine z_iload_n C dX8_readSetting_45 1 rfl ?_
  refine z_ishr C dX8_readSetting_46 ?_
  refine z_iconst C dX8_readSetting_47 zi_1 ?_
  refine z_iand C dX8_readSetting_48 ?_
  refine z_iconst C dX8_readSetting_49 zi_1 ?_
  refine z_icmp_ne C 57 dX8_readSetting_50 (by decide) ?_ ?_
  · refine z_iconst C dX8_readSetting_53 zi_1 ?_
    refine z_goto C 58 dX8_readSetting_54 (by decide) ?_
    exact wj_X8_readSetting_58 C
  refine z_iconst C dX8_readSetting_57 zi_0 ?_
  exact wj_X8_readSetting_58 C
noncomputable def j_X8_readSetting_22 (ro : Nat → Nat) (a0 : Nat) (x1 : Int32) (s0 : Nat) (s1 : Int32) (h : zHp) : Option zHp :=
  (f_X8_failsIf s0 s1 (-11 : Int32) h).bind fun h3 => (zgI h3 a0 8 14).bind fun v4 => if v4 = 0 then (j_X8_readSetting_39 ro a0 x1 h3) else j_X8_readSetting_39 ro a0 (0 : Int32) h3
set_option maxHeartbeats 4000000 in
set_option maxRecDepth 100000 in
theorem wj_X8_readSetting_22 {P : zX} {ro : Nat → Nat} {sz : Nat} (C : zC P cX8_readSetting RX8 none 6 0 0 3 ro) {a0 : Nat} {x1 : Int32} {s0 : Nat} {s1 : Int32} {h : zHp}  : zG P (zoV sz) (j_X8_readSetting_22 ro a0 x1 s0 s1 h) 22 [(0, .ref a0), (1, .int x1)] [.int s1, .ref s0] h sz 0 0 := by
  unfold j_X8_readSetting_22
  refine z_bipush C dX8_readSetting_22 zbi_m11 ?_
  refine z_callVv C zc_X8_177 [.int s1, .int (-11 : Int32)] (fun l D tc b0 r h => m_X8_failsIf l D tc ro b0 h) dX8_readSetting_24 rfl rfl (Nat.le_of_ble_eq_true rfl) (by decide) (by decide) ⟨Nat.le_of_ble_eq_true rfl, Nat.le_of_ble_eq_true rfl⟩ (fun h3 => ?_)
  refine z_aload_n C dX8_readSetting_27 0 rfl ?_
  refine z_getI C zf_X8_168 dX8_readSetting_28 (fun v4 => ?_)
  refine z_if_ne C 38 dX8_readSetting_31 (by decide) ?_ ?_
  · refine z_iload_n C dX8_readSetting_34 1 rfl ?_
    refine z_goto C 39 dX8_readSetting_35 (by decide) ?_
    exact z_sub [0] rfl (wj_X8_readSetting_39 C)
  refine z_iconst C dX8_readSetting_38 zi_0 ?_
  exact z_sub [0] rfl (wj_X8_readSetting_39 C)
noncomputable def f_X8_readSetting (ro : Nat → Nat) (a0 : Nat) (hp : zHp) : Option zHp :=
  (zis hp a0 8).bind fun _ => (f_X8_goOn a0 hp).bind fun h1 => (f_X8_wordOf a0 (ro 19) h1).bind fun v2 => if v2 = (-1 : Int32) then (j_X8_readSetting_22 ro a0 v2 a0 (1 : Int32) h1) else j_X8_readSetting_22 ro a0 v2 a0 (0 : Int32) h1
set_option maxHeartbeats 4000000 in
set_option maxRecDepth 100000 in
theorem m_X8_readSetting (l : Launch) (D : va_G) (tc : Nat → ClassId) (ro : Nat → Nat) (b0 : Nat) {a0 : Nat} {hp : zHp} {sz : Nat} {r : zHp} (h : f_X8_readSetting ro a0 hp = some r) : zis hp a0 8 = some () ∧ zM l yX8_readSetting cX8_readSetting 3 none 6 0 0 [.ref a0] D tc ro b0 hp sz ((zoV sz) r).1 ((zoV sz) r).2.1 ((zoV sz) r).2.2 := by
  refine ⟨?_, z_start (o := (zoV sz)) (lv := [(0, .ref a0)]) h (by decide +kernel) RX8 rfl rfl (Nat.le_of_ble_eq_true rfl) (fun P C => ?_)⟩
  · unfold f_X8_readSetting at h
    cases hc : zis hp a0 8 with
    | none => rw [hc] at h; cases h
    | some u => rfl
  unfold f_X8_readSetting
  refine z_is ?_
  refine z_aload_n C dX8_readSetting_0 0 rfl ?_
  refine z_callVv C zc_X8_181 [] (fun l D tc b0 r h => m_X8_goOn l D tc ro b0 h) dX8_readSetting_1 rfl rfl (Nat.le_of_ble_eq_true rfl) (by decide) (by decide) ⟨Nat.le_of_ble_eq_true rfl, Nat.le_of_ble_eq_true rfl⟩ (fun h1 => ?_)
  refine z_aload_n C dX8_readSetting_4 0 rfl ?_
  refine z_ldcS C 19 rfl dX8_readSetting_5 ?_
  refine z_callVp C zc_X8_186 [.ref (ro 19)] (fun l D tc b0 r h => m_X8_wordOf l D tc ro b0 h) dX8_readSetting_7 rfl rfl (Nat.le_of_ble_eq_true rfl) (by decide) (by decide) ⟨Nat.le_of_ble_eq_true rfl, Nat.le_of_ble_eq_true rfl⟩ (fun v2 => ?_)
  refine z_istore_n (lv' := [(0, .ref a0), (1, .int v2)]) C dX8_readSetting_10 (by decide) rfl ?_
  refine z_aload_n C dX8_readSetting_11 0 rfl ?_
  refine z_iload_n C dX8_readSetting_12 1 rfl ?_
  refine z_iconst C dX8_readSetting_13 zi_m1 ?_
  refine z_icmp_ne C 21 dX8_readSetting_14 (by decide) ?_ ?_
  · refine z_iconst C dX8_readSetting_17 zi_1 ?_
    refine z_goto C 22 dX8_readSetting_18 (by decide) ?_
    exact wj_X8_readSetting_22 C
  refine z_iconst C dX8_readSetting_21 zi_0 ?_
  exact wj_X8_readSetting_22 C
noncomputable def j_X8_readStatement_154 (ro : Nat → Nat) (a0 : Nat) (h : zHp) : Option zHp :=
  (f_X8_goOn a0 h).bind fun h6 => (zgI h6 a0 8 17).bind fun v7 => (zpV h6 a0 8 17 (.int (v7 + (1 : Int32)))).bind fun h8 => some h8
set_option maxHeartbeats 4000000 in
set_option maxRecDepth 100000 in
theorem wj_X8_readStatement_154 {P : zX} {ro : Nat → Nat} {sz : Nat} (C : zC P cX8_readStatement RX8 none 9 0 0 2 ro) {a0 : Nat} {h : zHp}  : zG P (zoV sz) (j_X8_readStatement_154 ro a0 h) 154 [(0, .ref a0)] [] h sz 0 0 := by
  unfold j_X8_readStatement_154
  refine z_aload_n C dX8_readStatement_154 0 rfl ?_
  refine z_callVv C zc_X8_181 [] (fun l D tc b0 r h => m_X8_goOn l D tc ro b0 h) dX8_readStatement_155 rfl rfl (Nat.le_of_ble_eq_true rfl) (by decide) (by decide) ⟨Nat.le_of_ble_eq_true rfl, Nat.le_of_ble_eq_true rfl⟩ (fun h6 => ?_)
  refine z_aload_n C dX8_readStatement_158 0 rfl ?_
  refine z_dup C dX8_readStatement_159 rfl ?_
  refine z_getI C zf_X8_239 dX8_readStatement_160 (fun v7 => ?_)
  refine z_iconst C dX8_readStatement_163 zi_1 ?_
  refine z_iadd C dX8_readStatement_164 ?_
  refine z_putI C zp_X8_239 dX8_readStatement_165 (fun h8 => ?_)
  exact z_return C dX8_readStatement_168
noncomputable def j_X8_readStatement_125 (ro : Nat → Nat) (a0 : Nat) (x1 : Int32) (s0 : Nat) (s1 : Int32) (h : zHp) : Option zHp :=
  (f_X8_failsIf s0 s1 (-11 : Int32) h).bind fun h4 => (zgI h4 a0 8 14).bind fun v5 => if v5 = 0 then (if x1 = (-1 : Int32) then (j_X8_readStatement_154 ro a0 h4) else (zgR h4 a0 8 3).bind fun r9 => zlet ((0 : Int32) + x1) fun v10 => (zaI h4 0 r9 v10).bind fun v11 => (zsI h4 r9 v10 (v11 + (1 : Int32))).bind fun h12 => j_X8_readStatement_154 ro a0 h12) else j_X8_readStatement_154 ro a0 h4
set_option maxHeartbeats 4000000 in
set_option maxRecDepth 100000 in
theorem wj_X8_readStatement_125 {P : zX} {ro : Nat → Nat} {sz : Nat} (C : zC P cX8_readStatement RX8 none 9 0 0 2 ro) {a0 : Nat} {x1 : Int32} {s0 : Nat} {s1 : Int32} {h : zHp}  : zG P (zoV sz) (j_X8_readStatement_125 ro a0 x1 s0 s1 h) 125 [(0, .ref a0), (1, .int x1)] [.int s1, .ref s0] h sz 0 0 := by
  unfold j_X8_readStatement_125
  refine z_bipush C dX8_readStatement_125 zbi_m11 ?_
  refine z_callVv C zc_X8_177 [.int s1, .int (-11 : Int32)] (fun l D tc b0 r h => m_X8_failsIf l D tc ro b0 h) dX8_readStatement_127 rfl rfl (Nat.le_of_ble_eq_true rfl) (by decide) (by decide) ⟨Nat.le_of_ble_eq_true rfl, Nat.le_of_ble_eq_true rfl⟩ (fun h4 => ?_)
  refine z_aload_n C dX8_readStatement_130 0 rfl ?_
  refine z_getI C zf_X8_168 dX8_readStatement_131 (fun v5 => ?_)
  refine z_if_ne C 154 dX8_readStatement_134 (by decide) ?_ ?_
  · refine z_iload_n C dX8_readStatement_137 1 rfl ?_
    refine z_iconst C dX8_readStatement_138 zi_m1 ?_
    refine z_icmp_eq C 154 dX8_readStatement_139 (by decide) ?_ ?_
    · exact z_sub [0] rfl (wj_X8_readStatement_154 C)
    refine z_aload_n C dX8_readStatement_142 0 rfl ?_
    refine z_getR C zf_X8_13 dX8_readStatement_143 (fun r9 => ?_)
    refine z_iconst C dX8_readStatement_146 zi_0 ?_
    refine z_iload_n C dX8_readStatement_147 1 rfl ?_
    refine z_iadd C dX8_readStatement_148 ?_
    refine z_top (fun v10 => ?_)
    refine z_dup2 C dX8_readStatement_149 rfl rfl ?_
    refine z_iaload C dX8_readStatement_150 (fun v11 => ?_)
    refine z_iconst C dX8_readStatement_151 zi_1 ?_
    refine z_iadd C dX8_readStatement_152 ?_
    refine z_iastore C dX8_readStatement_153 (fun h12 => ?_)
    exact z_sub [0] rfl (wj_X8_readStatement_154 C)
  exact z_sub [0] rfl (wj_X8_readStatement_154 C)
noncomputable def j_X8_readStatement_111 (ro : Nat → Nat) (a0 : Nat) (x1 : Int32) (h : zHp) : Option zHp :=
  (zgI h a0 8 12).bind fun v3 => if v3 = (2 : Int32) then (j_X8_readStatement_125 ro a0 x1 a0 (0 : Int32) h) else j_X8_readStatement_125 ro a0 x1 a0 (1 : Int32) h
set_option maxHeartbeats 4000000 in
set_option maxRecDepth 100000 in
theorem wj_X8_readStatement_111 {P : zX} {ro : Nat → Nat} {sz : Nat} (C : zC P cX8_readStatement RX8 none 9 0 0 2 ro) {a0 : Nat} {x1 : Int32} {h : zHp}  : zG P (zoV sz) (j_X8_readStatement_111 ro a0 x1 h) 111 [(0, .ref a0), (1, .int x1)] [] h sz 0 0 := by
  unfold j_X8_readStatement_111
  refine z_aload_n C dX8_readStatement_111 0 rfl ?_
  refine z_aload_n C dX8_readStatement_112 0 rfl ?_
  refine z_getI C zf_X8_147 dX8_readStatement_113 (fun v3 => ?_)
  refine z_iconst C dX8_readStatement_116 zi_2 ?_
  refine z_icmp_eq C 124 dX8_readStatement_117 (by decide) ?_ ?_
  · refine z_iconst C dX8_readStatement_124 zi_0 ?_
    exact wj_X8_readStatement_125 C
  refine z_iconst C dX8_readStatement_120 zi_1 ?_
  refine z_goto C 125 dX8_readStatement_121 (by decide) ?_
  exact wj_X8_readStatement_125 C
noncomputable def j_X8_readStatement_104 (ro : Nat → Nat) (a0 : Nat) (x1 : Int32) (h : zHp) : Option zHp :=
  (f_X8_failsIf a0 (1 : Int32) (-11 : Int32) h).bind fun h16 => j_X8_readStatement_111 ro a0 x1 h16
set_option maxHeartbeats 4000000 in
set_option maxRecDepth 100000 in
theorem wj_X8_readStatement_104 {P : zX} {ro : Nat → Nat} {sz : Nat} (C : zC P cX8_readStatement RX8 none 9 0 0 2 ro) {a0 : Nat} {x1 : Int32} {h : zHp}  : zG P (zoV sz) (j_X8_readStatement_104 ro a0 x1 h) 104 [(0, .ref a0), (1, .int x1)] [] h sz 0 0 := by
  unfold j_X8_readStatement_104
  refine z_aload_n C dX8_readStatement_104 0 rfl ?_
  refine z_iconst C dX8_readStatement_105 zi_1 ?_
  refine z_bipush C dX8_readStatement_106 zbi_m11 ?_
  refine z_callVv C zc_X8_177 [.int (1 : Int32), .int (-11 : Int32)] (fun l D tc b0 r h => m_X8_failsIf l D tc ro b0 h) dX8_readStatement_108 rfl rfl (Nat.le_of_ble_eq_true rfl) (by decide) (by decide) ⟨Nat.le_of_ble_eq_true rfl, Nat.le_of_ble_eq_true rfl⟩ (fun h16 => ?_)
  exact wj_X8_readStatement_111 C
noncomputable def f_X8_readStatement (ro : Nat → Nat) (a0 : Nat) (hp : zHp) : Option zHp :=
  (zis hp a0 8).bind fun _ => (f_X8_wordOf a0 (ro 18) hp).bind fun v1 => if v1 = (0 : Int32) then ((f_X8_readParty ro a0 hp).bind fun h2 => j_X8_readStatement_111 ro a0 (0 : Int32) h2) else if v1 = (1 : Int32) then ((f_X8_readRegion ro a0 hp).bind fun h14 => j_X8_readStatement_111 ro a0 (1 : Int32) h14) else if v1 = (2 : Int32) then (j_X8_readStatement_104 ro a0 (-1 : Int32) hp) else if v1 = (3 : Int32) then ((f_X8_readWard ro a0 hp).bind fun h18 => j_X8_readStatement_111 ro a0 (2 : Int32) h18) else if v1 = (4 : Int32) then ((f_X8_readBox ro a0 hp).bind fun h20 => j_X8_readStatement_111 ro a0 (3 : Int32) h20) else if v1 = (5 : Int32) then ((f_X8_readTable a0 hp).bind fun h22 => j_X8_readStatement_111 ro a0 (4 : Int32) h22) else if v1 = (6 : Int32) then ((f_X8_readSetting ro a0 hp).bind fun h24 => j_X8_readStatement_111 ro a0 (-1 : Int32) h24) else j_X8_readStatement_104 ro a0 (-1 : Int32) hp
set_option maxHeartbeats 4000000 in
set_option maxRecDepth 100000 in
theorem m_X8_readStatement (l : Launch) (D : va_G) (tc : Nat → ClassId) (ro : Nat → Nat) (b0 : Nat) {a0 : Nat} {hp : zHp} {sz : Nat} {r : zHp} (h : f_X8_readStatement ro a0 hp = some r) : zis hp a0 8 = some () ∧ zM l yX8_readStatement cX8_readStatement 2 none 9 0 0 [.ref a0] D tc ro b0 hp sz ((zoV sz) r).1 ((zoV sz) r).2.1 ((zoV sz) r).2.2 := by
  refine ⟨?_, z_start (o := (zoV sz)) (lv := [(0, .ref a0)]) h (by decide +kernel) RX8 rfl rfl (Nat.le_of_ble_eq_true rfl) (fun P C => ?_)⟩
  · unfold f_X8_readStatement at h
    cases hc : zis hp a0 8 with
    | none => rw [hc] at h; cases h
    | some u => rfl
  unfold f_X8_readStatement
  refine z_is ?_
  refine z_iconst C dX8_readStatement_0 zi_m1 ?_
  refine z_istore_n (lv' := [(0, .ref a0), (1, .int (-1 : Int32))]) C dX8_readStatement_1 (by decide) rfl ?_
  refine z_aload_n C dX8_readStatement_2 0 rfl ?_
  refine z_ldcS C 18 rfl dX8_readStatement_3 ?_
  refine z_callVp C zc_X8_186 [.ref (ro 18)] (fun l D tc b0 r h => m_X8_wordOf l D tc ro b0 h) dX8_readStatement_5 rfl rfl (Nat.le_of_ble_eq_true rfl) (by decide) (by decide) ⟨Nat.le_of_ble_eq_true rfl, Nat.le_of_ble_eq_true rfl⟩ (fun v1 => ?_)
  refine z_case (off := 44) C (0 : Int32) 52 dX8_readStatement_8 (by decide) (by decide) (by decide) (by decide) ?_ (fun n13 => ?_)
  · refine z_iconst C dX8_readStatement_52 zi_0 ?_
    refine z_istore_n (lv' := [(0, .ref a0), (1, .int (0 : Int32))]) C dX8_readStatement_53 (by decide) rfl ?_
    refine z_aload_n C dX8_readStatement_54 0 rfl ?_
    refine z_callVv C zc_X8_221 [] (fun l D tc b0 r h => m_X8_readParty l D tc ro b0 h) dX8_readStatement_55 rfl rfl (Nat.le_of_ble_eq_true rfl) (by decide) (by decide) ⟨Nat.le_of_ble_eq_true rfl, Nat.le_of_ble_eq_true rfl⟩ (fun h2 => ?_)
    refine z_goto C 111 dX8_readStatement_58 (by decide) ?_
    exact wj_X8_readStatement_111 C
  refine z_case (off := 53) C (1 : Int32) 61 dX8_readStatement_8 (by decide) (by decide) (by decide) (by decide) ?_ (fun n15 => ?_)
  · refine z_iconst C dX8_readStatement_61 zi_1 ?_
    refine z_istore_n (lv' := [(0, .ref a0), (1, .int (1 : Int32))]) C dX8_readStatement_62 (by decide) rfl ?_
    refine z_aload_n C dX8_readStatement_63 0 rfl ?_
    refine z_callVv C zc_X8_224 [] (fun l D tc b0 r h => m_X8_readRegion l D tc ro b0 h) dX8_readStatement_64 rfl rfl (Nat.le_of_ble_eq_true rfl) (by decide) (by decide) ⟨Nat.le_of_ble_eq_true rfl, Nat.le_of_ble_eq_true rfl⟩ (fun h14 => ?_)
    refine z_goto C 111 dX8_readStatement_67 (by decide) ?_
    exact wj_X8_readStatement_111 C
  refine z_case (off := 96) C (2 : Int32) 104 dX8_readStatement_8 (by decide) (by decide) (by decide) (by decide) ?_ (fun n17 => ?_)
  · exact wj_X8_readStatement_104 C
  refine z_case (off := 62) C (3 : Int32) 70 dX8_readStatement_8 (by decide) (by decide) (by decide) (by decide) ?_ (fun n19 => ?_)
  · refine z_iconst C dX8_readStatement_70 zi_2 ?_
    refine z_istore_n (lv' := [(0, .ref a0), (1, .int (2 : Int32))]) C dX8_readStatement_71 (by decide) rfl ?_
    refine z_aload_n C dX8_readStatement_72 0 rfl ?_
    refine z_callVv C zc_X8_227 [] (fun l D tc b0 r h => m_X8_readWard l D tc ro b0 h) dX8_readStatement_73 rfl rfl (Nat.le_of_ble_eq_true rfl) (by decide) (by decide) ⟨Nat.le_of_ble_eq_true rfl, Nat.le_of_ble_eq_true rfl⟩ (fun h18 => ?_)
    refine z_goto C 111 dX8_readStatement_76 (by decide) ?_
    exact wj_X8_readStatement_111 C
  refine z_case (off := 71) C (4 : Int32) 79 dX8_readStatement_8 (by decide) (by decide) (by decide) (by decide) ?_ (fun n21 => ?_)
  · refine z_iconst C dX8_readStatement_79 zi_3 ?_
    refine z_istore_n (lv' := [(0, .ref a0), (1, .int (3 : Int32))]) C dX8_readStatement_80 (by decide) rfl ?_
    refine z_aload_n C dX8_readStatement_81 0 rfl ?_
    refine z_callVv C zc_X8_230 [] (fun l D tc b0 r h => m_X8_readBox l D tc ro b0 h) dX8_readStatement_82 rfl rfl (Nat.le_of_ble_eq_true rfl) (by decide) (by decide) ⟨Nat.le_of_ble_eq_true rfl, Nat.le_of_ble_eq_true rfl⟩ (fun h20 => ?_)
    refine z_goto C 111 dX8_readStatement_85 (by decide) ?_
    exact wj_X8_readStatement_111 C
  refine z_case (off := 80) C (5 : Int32) 88 dX8_readStatement_8 (by decide) (by decide) (by decide) (by decide) ?_ (fun n23 => ?_)
  · refine z_iconst C dX8_readStatement_88 zi_4 ?_
    refine z_istore_n (lv' := [(0, .ref a0), (1, .int (4 : Int32))]) C dX8_readStatement_89 (by decide) rfl ?_
    refine z_aload_n C dX8_readStatement_90 0 rfl ?_
    refine z_callVv C zc_X8_233 [] (fun l D tc b0 r h => m_X8_readTable l D tc ro b0 h) dX8_readStatement_91 rfl rfl (Nat.le_of_ble_eq_true rfl) (by decide) (by decide) ⟨Nat.le_of_ble_eq_true rfl, Nat.le_of_ble_eq_true rfl⟩ (fun h22 => ?_)
    refine z_goto C 111 dX8_readStatement_94 (by decide) ?_
    exact wj_X8_readStatement_111 C
  refine z_case (off := 89) C (6 : Int32) 97 dX8_readStatement_8 (by decide) (by decide) (by decide) (by decide) ?_ (fun n25 => ?_)
  · refine z_aload_n C dX8_readStatement_97 0 rfl ?_
    refine z_callVv C zc_X8_236 [] (fun l D tc b0 r h => m_X8_readSetting l D tc ro b0 h) dX8_readStatement_98 rfl rfl (Nat.le_of_ble_eq_true rfl) (by decide) (by decide) ⟨Nat.le_of_ble_eq_true rfl, Nat.le_of_ble_eq_true rfl⟩ (fun h24 => ?_)
    refine z_goto C 111 dX8_readStatement_101 (by decide) ?_
    exact wj_X8_readStatement_111 C
  refine z_dflt C 104 dX8_readStatement_8 (by have t0 := lv_neT n13 (show (0 : Int32).toInt = 0 by decide); have t1 := lv_neT n15 (show (1 : Int32).toInt = 1 by decide); have t2 := lv_neT n17 (show (2 : Int32).toInt = 2 by decide); have t3 := lv_neT n19 (show (3 : Int32).toInt = 3 by decide); have t4 := lv_neT n21 (show (4 : Int32).toInt = 4 by decide); have t5 := lv_neT n23 (show (5 : Int32).toInt = 5 by decide); have t6 := lv_neT n25 (show (6 : Int32).toInt = 6 by decide); omega) (by decide) ?_
  exact wj_X8_readStatement_104 C
