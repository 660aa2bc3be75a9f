/-! what is read at the start, given once; the law's start, up to its loop -/
section P95
variable {args : Array Value} {s : State}
theorem zRO_start (hts : ∀ w ∈ lw_tbl, w.before args s = true) (hN : ∀ w ∈ NW, w.before args s = true) : ∃ ro : Nat → Nat, zRO s.heap.size ro s s.heap ∧ wSts (hp0 s.heap.size s) s.heap.size ro ∧ wDT (hp0 s.heap.size s) ro ∧ ro 30 < s.heap.size ∧ ro 31 < s.heap.size := by
  have hA : ∀ a : Nat, a < s.heap.size → ¬ (fun q : Nat => s.heap.size ≤ q) a := fun a h => Nat.not_le.mpr h
  have hO : sOrd s := by
    obtain ⟨c, k, f1, f2, f3, -⟩ := Cond.instantiable_spec (zIn (w := Cond.instantiable "java/lang/String" 4) hts 1412 (by decide +kernel))
    exact ⟨c, k, f1, f2, f3⟩
  have h0 : ∀ i : Nat, ∃ q : Nat × Nat, i < 20 → (sT i).eval args s none [] s = some (.ref q.1) ∧ sAt s (fun q => s.heap.size ≤ q) (sBy.getD i []) q.1 q.2 := by
    intro i
    by_cases hi : i < 20
    · obtain ⟨q, h⟩ := strW_of (sLn i hi) (fun w hw => hN w (sNW i hi w hw)) hA
      exact ⟨q, fun _ => h⟩
    · exact ⟨(0, 0), fun h => absurd h hi⟩
  obtain ⟨ad, had⟩ := Classical.axiomOfChoice h0
  obtain ⟨d1, e1, T1⟩ := va_Tof (tm := .static "java/lang/Integer" "DigitOnes" "[B") (ty := .byte) (N := 100) (f := fun j => .int (Int32.ofNat (48 + j % 10))) (A := fun q => s.heap.size ≤ q) (by decide) (hN (.arrayOf (.static "java/lang/Integer" "DigitOnes" "[B") .byte) (by decide +kernel)) (va_eqt (hN (Cond.eq (.length (.static "java/lang/Integer" "DigitOnes" "[B")) (.int (Int32.ofNat 100))) (by decide +kernel))) (fun j hj => va_eqt (hN _ (dOn j hj))) hA
  obtain ⟨d2, e2, T2⟩ := va_Tof (tm := .static "java/lang/Integer" "DigitTens" "[B") (ty := .byte) (N := 100) (f := fun j => .int (Int32.ofNat (48 + j / 10))) (A := fun q => s.heap.size ≤ q) (by decide) (hN (.arrayOf (.static "java/lang/Integer" "DigitTens" "[B") .byte) (by decide +kernel)) (va_eqt (hN (Cond.eq (.length (.static "java/lang/Integer" "DigitTens" "[B")) (.int (Int32.ofNat 100))) (by decide +kernel))) (fun j hj => va_eqt (hN _ (dTe j hj))) hA
  obtain ⟨ro, hro, h30, h31⟩ : ∃ ro : Nat → Nat, (∀ i, i < 20 → ro i = (ad i).1) ∧ ro 30 = d1 ∧ ro 31 = d2 := ⟨fun i => if i < 20 then (ad i).1 else if i = 30 then d1 else d2, fun i hi => if_pos hi, rfl, rfl⟩
  have hS : ∀ (i : Nat) (l : List Nat), i < 20 → sBy.getD i [] = l → l.length < 2147483648 → wTxc (hp0 s.heap.size s) s.heap.size (ro i) l := fun i l hi e hl => by
    rw [hro i hi]
    have := (had i hi).2
    rw [e] at this
    exact hp0_S hO this hl
  have L0 := zIn (w := Cond.initialized "java/lang/Integer") hts 125 (by decide +kernel)
  refine ⟨ro, ⟨va_Zof (hts (.laysStatic "java/lang/String" "COMPACT_STRINGS" "Z") (by decide +kernel)) (hts (.initialized "java/lang/String") (by decide +kernel)) (va_eqi (hN (Cond.eq (.static "java/lang/String" "COMPACT_STRINGS" "Z") (.int 1)) (by decide +kernel))) hA, fun i q hq => ?_, va_Zqof (hts (.laysStatic "jdk/internal/util/Preconditions" "SIOOBE_FORMATTER" "Ljava/util/function/BiFunction;") (by decide +kernel)) (hts (.initialized "jdk/internal/util/Preconditions") (by decide +kernel)) (hN (.isRef (.static "jdk/internal/util/Preconditions" "SIOOBE_FORMATTER" "Ljava/util/function/BiFunction;")) (by decide +kernel)) hA, fun w hw => va_Nw.of ((by decide +kernel : ∀ w ∈ zNwL, w.onTables = true) w hw) (hts w ((by decide +kernel : ∀ w ∈ zNwL, w ∈ lw_tbl) w hw)),
      vx_Zqof (hts (.laysStatic Bundle.tN "UNASSIGNED_STACK" Bundle.steD) (by decide +kernel)) (hts (.initialized Bundle.tN) (by decide +kernel)) (hN (.isRef (.static Bundle.tN "UNASSIGNED_STACK" Bundle.steD)) (by decide +kernel)) hA,
      vx_Zqof (hts (.laysStatic Bundle.tN "SUPPRESSED_SENTINEL" Bundle.listD) (by decide +kernel)) (hts (.initialized Bundle.tN) (by decide +kernel)) (hN (.isRef (.static Bundle.tN "SUPPRESSED_SENTINEL" Bundle.listD)) (by decide +kernel)) hA,
      ⟨va_AO.of (hts (.arrayOver (.object "CountHall$Box")) (by decide +kernel)), va_AO.of (hts (.arrayOver (.object "CountHall$State")) (by decide +kernel)), va_AOA.of (hts (.arrayOver (.array .int)) (by decide +kernel))⟩,
      va_Zref (hts (.laysStatic "java/lang/Integer" "DigitOnes" "[B") (by decide +kernel)) L0 (by rw [h30]; exact e1) hA, va_Zref (hts (.laysStatic "java/lang/Integer" "DigitTens" "[B") (by decide +kernel)) L0 (by rw [h31]; exact e2) hA⟩,
    ⟨⟨hS 0 _ (by decide) rfl (by decide), hS 1 _ (by decide) rfl (by decide), hS 2 _ (by decide) rfl (by decide), hS 3 _ (by decide) rfl (by decide), hS 4 _ (by decide) rfl (by decide), hS 5 _ (by decide) rfl (by decide), hS 6 _ (by decide) rfl (by decide), hS 7 _ (by decide) rfl (by decide)⟩,
      ⟨hS 8 _ (by decide) rfl (by decide), hS 9 _ (by decide) rfl (by decide), hS 10 _ (by decide) rfl (by decide), hS 11 _ (by decide) rfl (by decide), hS 12 _ (by decide) rfl (by decide), hS 13 _ (by decide) rfl (by decide), hS 14 _ (by decide) rfl (by decide), hS 15 _ (by decide) rfl (by decide)⟩,
      hS 17 _ (by decide) rfl (by decide), hS 18 _ (by decide) rfl (by decide), hS 19 _ (by decide) rfl (by decide)⟩,
    ?_, ?_, ?_⟩
  · have hi : i < 20 := (List.getElem?_eq_some_iff.mp hq).1
    rw [hro i hi]
    have he := (had i hi).1
    have et : sT i = .string q.1 q.2.1 := by unfold sT; rw [hq]
    rw [et] at he
    exact vk_R.of (hts _ (sRf q (List.mem_of_getElem? hq))) he
  · unfold wDT
    rw [h30, h31]
    exact ⟨hp0_T T1 (by decide), hp0_T T2 (by decide)⟩
  · rw [h30]; exact Nat.not_le.mp (va_T.out T1)
  · rw [h31]; exact Nat.not_le.mp (va_T.out T2)
end P95
section P95b
variable {P : zX} {Qf : Unit → State → Prop} {pc : Nat} {lv : List (Nat × Value)} {stk : List Value} {hp : zHp} {sz uc us : Nat} {cc : ByteArray} {own : String} {ret : Option FieldType} {ht mc ms nn : Nat} {ro ro0 : Nat → Nat}
theorem y_callI {h0 : zHp} {z0 : Nat} {Fc : Option (zHp × Nat)} (hF : Fc = some (h0, z0)) (C : zC P cc own ret ht mc ms nn ro0) {idx n narg a htY mcY msY : Nat} {y : MethodName} {cy : ByteArray} {stk0 : List Value} (hw : zCI own idx y cy n narg ∨ ∃ host, zCIN own idx y cy n narg host) (As : List Value)
    (hM : ∀ (l : Launch) (D : va_G) (tc : Nat → ClassId) (b0 : Nat) (r : zHp × Nat), Fc = some r → zM l y cy n none htY mcY msY (.ref a :: As) D tc ro0 b0 hp sz none r.1 r.2)
    (hd : decode cc pc = .ok (.invokespecial idx, 3)) (hn : As.length = narg) (hst : stk0 = As.reverse ++ .ref a :: stk) (hcat : (stk.map fun v => v.category).sum ≤ 8) (hh : htY + 1 ≤ ht) (hnl : n ≤ 21) (hcells : uc + mcY ≤ mc ∧ us + msY ≤ ms)
    (k : zGq P Qf (some ()) (pc + 3) lv stk h0 z0 (uc + mcY) (us + msY)) : zGq P Qf (some ()) pc lv stk0 hp sz uc us := by
  have H := z_callI (kk := fun h z => zpk (h0, z0) (h, z)) C hw As hM hd hn hst hcat hh hnl hcells (fun h z => z_at (Qf := Qf) (fun e => by cases e; exact k))
  rw [hF] at H
  have e : zb2 (some (h0, z0)) (fun h z => zpk (h0, z0) (h, z)) = some () := zpk_self _
  rw [e] at H
  exact H
theorem za_L_8 : zAW RL 8 7 [.null, .null, .null, .null, .int 0] := ⟨RX7, TX7, 5, tyX7, by decide, rfl, rfl, zu_X7, tyX7_ok, (fun j hj => by rcases (show j = 0 ∨ j = 1 ∨ j = 2 ∨ j = 3 ∨ j = 4 by omega) with rfl | rfl | rfl | rfl | rfl <;> rfl), zGT_in 127 (by decide +kernel) rfl, zGT_in 128 (by decide +kernel) rfl, zGT_in 101 (by decide +kernel) rfl⟩
theorem za_L_109 : zAW RL 109 8 f21 := ⟨RX8, TX8, 21, tyX8, by decide, rfl, rfl, zu_X8, tyX8_ok, (fun j hj => by rcases (show j = 0 ∨ j = 1 ∨ j = 2 ∨ j = 3 ∨ j = 4 ∨ j = 5 ∨ j = 6 ∨ j = 7 ∨ j = 8 ∨ j = 9 ∨ j = 10 ∨ j = 11 ∨ j = 12 ∨ j = 13 ∨ j = 14 ∨ j = 15 ∨ j = 16 ∨ j = 17 ∨ j = 18 ∨ j = 19 ∨ j = 20 by omega) with rfl | rfl | rfl | rfl | rfl | rfl | rfl | rfl | rfl | rfl | rfl | rfl | rfl | rfl | rfl | rfl | rfl | rfl | rfl | rfl | rfl <;> rfl), zGT_in 1521 (by decide +kernel) rfl, zGT_in 1522 (by decide +kernel) rfl, zGT_in 113 (by decide +kernel) rfl⟩
theorem zci_L_108 : zCI RL 108 yX7_init cX7_init 1 0 := ⟨zGT_in 129 (by decide +kernel) rfl, zGT_in 130 (by decide +kernel) rfl, zGT_in 101 (by decide +kernel) rfl, zGT_in 131 (by decide +kernel) rfl, by decide +kernel, by decide +kernel, by decide +kernel, by decide +kernel⟩
theorem zci_L_111 : zCI RL 111 yX8_init cX8_init 1 0 := ⟨zGT_in 1523 (by decide +kernel) rfl, zGT_in 1524 (by decide +kernel) rfl, zGT_in 113 (by decide +kernel) rfl, zGT_in 1525 (by decide +kernel) rfl, by decide +kernel, by decide +kernel, by decide +kernel, by decide +kernel⟩
theorem zar_long : Cond.arrayClass .long ∈ zGT := zGT_in 2128 (by decide +kernel) rfl
/-- the world as the law's loop begins -/
theorem JW_0 {c b n : Nat} {xs : Nat → Int32} {h1 h2 : zHp} {F : Nat → Int32} {S : Nat → Nat → Int32} (hs : hp b = some (.inl (10, n, .inl xs))) (hbc : b < c) (St : wSts hp c ro) (Dt : wDT hp ro) (h30 : ro 30 < c ∧ ro 31 < c)
    (f1 : ∀ i, i < c → h1 i = hp i) (w1 : wW h1 c (c + 33) (-1) (fun _ => 0) N0 (fun i => i) 0 (fun _ _ => 0)) (w2 : wCL h1 c (c + 33)) (w3 : wIn h1 (c + 2) (fun _ => 0) (fun _ => 0)) (w4 : wSB h1 (c + 635) (c + 636) 16 0 (fun _ => 0))
    (f2 : ∀ i, i < c + 637 → h2 i = h1 i) (r1 : wMF h2 (c + 637) F S) (r2 : F 0 = 0 ∧ F 2 = 0 ∧ F 8 = 0 ∧ F 16 = -1 ∧ F 20 = 0) (r3 : S 2 = fun _ => 0) (r4 : S 4 = N0) : JW (zup h2 (c + 645) (.inl (2, 1, .inr (.inl (fun _ => 0))))) c b n xs ro (c + 646) := by
  have f12 : ∀ i, i < c → h2 i = hp i := fun i hi => (f2 i (by omega)).trans (f1 i hi)
  have e0 : lW [] = fun _ => (0 : Int32) := rfl
  have J1 : JC h1 c ro (c + 646) (c + 33) (-1) (fun _ => 0) N0 (fun i => i) 0 (fun _ _ => 0) (fun _ => 0) 0 16 [] := ⟨w1, w2, ⟨_, _, w3, rfl, fun j hj => absurd hj (Nat.not_lt_zero j)⟩, ⟨c + 636, by rw [e0]; exact w4, by omega, Or.inl rfl, ⟨by decide, by decide⟩, by omega, by omega, fun j hj => absurd hj (Nat.not_lt_zero j)⟩, sts_fr St f1, wDT_lo Dt h30 f1, h30, ⟨Nat.zero_le _, fun j hj => absurd hj (Nat.not_lt_zero j)⟩, Nat.zero_le _⟩
  have zn : ∀ k, 538 ≤ k → N0 k = 0 := fun k hk => by unfold N0; rw [if_neg (by omega), if_neg (by omega)]
  have J2 : JR h2 c (-1) (fun _ => 0) N0 0 (fun _ _ => 0) (fun _ => 0) 0 [] F S := ⟨r1, ⟨r2.2.1, r2.2.2.1, r2.2.2.2.1, r2.2.2.2.2⟩, ⟨r3, r4⟩, fun j hj => absurd hj (Nat.not_lt_zero j), fun j hj => absurd hj (Nat.not_lt_zero j), fun j hj => absurd hj (Nat.not_lt_zero j), ⟨fun k hk => by rw [r3], fun k hk => by rw [r4]; exact zn k hk⟩⟩
  have J1' : JC h2 c ro (c + 646) (c + 33) (-1) (fun _ => 0) N0 (fun i => i) 0 (fun _ _ => 0) (fun _ => 0) 0 16 [] := by
    obtain ⟨j1, ⟨⟨sg, ee, k1⟩, R', k2⟩, ⟨I, Bt, j4, j5⟩, j6, j7, j8, j9, j10, j11⟩ := J1
    have hd : oth c (c + 33) = c + 4 ∨ oth c (c + 33) = c + 33 := by unfold oth; split <;> omega
    obtain ⟨bs, ⟨⟨m, x1⟩, g, x2, x3⟩, y2, y3, y4, y5, y6, y7⟩ := j6
    exact ⟨wW_fr j1 (fun a ha => f2 a (by have := j1.2.1; omega)), ⟨⟨sg, ee, by unfold wLd; rw [f2 _ (by omega)]; exact k1⟩, R', wP_fr k2 (fun i i1 i2 => f2 i (by omega))⟩, ⟨I, Bt, in_fr j4 (fun i i1 i2 => f2 i (by omega)), j5⟩, ⟨c + 636, by
      obtain ⟨⟨m, x1⟩, g, x2, x3⟩ := w4
      rw [e0]
      exact ⟨⟨m, by rw [f2 _ (by omega)]; exact x1⟩, g, by rw [f2 _ (by omega)]; exact x2, x3⟩, by omega, Or.inl rfl, ⟨by decide, by decide⟩, by omega, by omega, fun j hj => absurd hj (Nat.not_lt_zero j)⟩, sts_fr j7 (fun i hi => f2 i (by omega)), wDT_lo j8 j9 (fun i hi => f2 i (by omega)), j9, j10, j11⟩
  exact ⟨⟨c + 33, -1, fun _ => 0, N0, fun i => i, 0, fun _ _ => 0, fun _ => 0, 0, 16, [], F, S, JC_fr J1' (fun i hi => zup_ne (by omega)), JR_fr J2 (fun i i1 i2 => zup_ne (by omega))⟩, ⟨_, zup_eq _ _ _⟩, by rw [zup_ne (by omega), f12 b hbc]; exact hs, hbc⟩
set_option maxHeartbeats 4000000 in
set_option maxRecDepth 100000 in
theorem l_start (C : zC P cL_law RL (some .boolean) 20 601024 7293034 7 ro) (hl0 : (match P with | (_, l, _) => l.stackTraces) = false) {b n c : Nat} {xs : Nat → Int32} (hs : hp b = some (.inl (10, n, .inl xs))) (hbc : b < c) (hn : n ≤ 3072) (St : wSts hp c ro) (Dt : wDT hp ro) (h30 : ro 30 < c ∧ ro 31 < c)
    (K : ∀ hp sz uc us i, uc ≤ 601024 → us ≤ 7293034 → zGq P Qf (some ()) 2780 (lvL b c i) [] hp sz uc us) : zGq P Qf (some ()) 0 [(0, .ref b)] [] hp c 0 0 := by
  obtain ⟨h1, e1, w1, w2, w3, w4, f1⟩ := I7 (hp := zup hp c (.inr (7, [.null, .null, .null, .null, .int 0]))) (c := c) (mc := 636) (ms := 8200) (Ps := fun _ _ => 0) (zup_eq _ _ _) (Nat.le_refl _) (Nat.le_refl _)
  obtain ⟨h2, F, S, e2, r1, r2, r3, r4, f2⟩ := I8 (hp := zup h1 (c + 637) (.inr (8, f21))) (x := c + 637) (mc := 7) (ms := 7744) (zup_eq _ _ _) (Nat.le_refl _) (Nat.le_refl _)
  have J := JW_0 (h1 := h1) (h2 := h2) hs hbc St Dt h30 (fun i hi => by rw [f1 i (by omega), zup_ne (by omega)]) w1 w2 w3 w4 (fun i hi => by rw [f2 i (by omega), zup_ne (by omega)]) r1 r2 r3 r4
  refine z_pkl (x := zup hp c (.inr (7, [.null, .null, .null, .null, .int 0]))) (z_new (f := zpk _) C za_L_8 dL_law_0 ⟨Nat.le_of_ble_eq_true rfl, Nat.le_of_ble_eq_true rfl⟩ (fun h => z_at (fun e => ?_)))
  subst e
  refine z_dup C dL_law_3 rfl ?_
  refine y_callI e1 C (Or.inl zci_L_108) [] (fun l D tc b0 r h => m_X7_init l D tc ro b0 h) dL_law_4 rfl rfl (Nat.le_of_ble_eq_true rfl) (by decide) (by decide) ⟨Nat.le_of_ble_eq_true rfl, Nat.le_of_ble_eq_true rfl⟩ ?_
  refine z_astore_n (lv' := [(0, .ref b), (1, .ref c)]) C dL_law_7 (by decide) rfl ?_
  refine z_pkl (x := zup h1 (c + 637) (.inr (8, f21))) (z_new (f := zpk _) C za_L_109 dL_law_8 ⟨Nat.le_of_ble_eq_true rfl, Nat.le_of_ble_eq_true rfl⟩ (fun h => z_at (fun e => ?_)))
  subst e
  refine z_dup C dL_law_11 rfl ?_
  refine y_callI e2 C (Or.inl zci_L_111) [] (fun l D tc b0 r h => m_X8_init l D tc ro b0 h) dL_law_12 rfl rfl (Nat.le_of_ble_eq_true rfl) (by decide) (by decide) ⟨Nat.le_of_ble_eq_true rfl, Nat.le_of_ble_eq_true rfl⟩ ?_
  refine z_astore_n (lv' := [(0, .ref b), (1, .ref c), (2, .ref (c + 637))]) C dL_law_15 (by decide) rfl ?_
  refine z_iconst C dL_law_16 zi_1 ?_
  refine z_pkl (x := zup h2 (c + 637 + 8) (.inl (2, (1 : Int32).toNatClampNeg, .inr (.inl (fun _ => 0))))) (z_newarr (f := zpk _) (t := 2) (ty := .long) (A := .inr (.inl (fun _ => 0))) C rfl (fun _ => rfl) (by decide) (fun _ _ h => h) (fun _ _ => rfl) zar_long dL_law_17 (by decide) ⟨by decide, by decide, Nat.le_of_ble_eq_true rfl, Nat.le_of_ble_eq_true rfl⟩ (fun h => z_at (fun e => ?_)))
  subst e
  refine z_astore_n (lv' := [(0, .ref b), (1, .ref c), (2, .ref (c + 637)), (3, .ref (c + 645))]) C dL_law_19 (by decide) rfl ?_
  refine z_iconst (v := Int32.ofNat 0) C dL_law_20 (by decide +kernel) ?_
  refine z_istore (lv' := lvL b c (Int32.ofNat 0)) C dL_law_21 (by decide) rfl ?_
  refine z_widen 700 20000 (Nat.le_of_ble_eq_true rfl) (Nat.le_of_ble_eq_true rfl) ?_
  exact l_loop C hl0 hn K 512 0 _ (c + 646) 700 20000 (by omega) (Nat.zero_le _) (Nat.le_of_ble_eq_true rfl) (Nat.le_of_ble_eq_true rfl) J
end P95b
