/-! what is read at the start, given once -/
section P99f
variable {args : Array Value} {s : State}
theorem zRO_start (hts : ∀ w ∈ lw_tbl, w.before args s = true) (hN : ∀ w ∈ NW, w.before args s = true) : ∃ ro : Nat → Nat, zRO s.heap.size ro s s.heap ∧ wSts (hp0 s.heap.size s) s.heap.size ro ∧ wDT (hp0 s.heap.size s) ro ∧ ro 30 < s.heap.size ∧ ro 31 < s.heap.size := by
  have hA : ∀ a : Nat, a < s.heap.size → ¬ (fun q : Nat => s.heap.size ≤ q) a := fun a h => Nat.not_le.mpr h
  have hO : sOrd s := by
    obtain ⟨c, k, f1, f2, f3, -⟩ := Cond.instantiable_spec (zIn (w := Cond.instantiable "java/lang/String" 4) hts 501 (by decide +kernel))
    exact ⟨c, k, f1, f2, f3⟩
  have h0 : ∀ i : Nat, ∃ q : Nat × Nat, i < 28 → (sT i).eval args s none [] s = some (.ref q.1) ∧ sAt s (fun q => s.heap.size ≤ q) (sBy.getD i []) q.1 q.2 := by
    intro i
    by_cases hi : i < 28
    · obtain ⟨q, h⟩ := strW_of (sLn i hi) (fun w hw => hN w (sNW i hi w hw)) hA
      exact ⟨q, fun _ => h⟩
    · exact ⟨(0, 0), fun h => absurd h hi⟩
  obtain ⟨ad, had⟩ := Classical.axiomOfChoice h0
  obtain ⟨d1, e1, T1⟩ := va_Tof (tm := .static "java/lang/Integer" "DigitOnes" "[B") (ty := .byte) (N := 100) (f := fun j => .int (Int32.ofNat (48 + j % 10))) (A := fun q => s.heap.size ≤ q) (by decide) (hN (.arrayOf (.static "java/lang/Integer" "DigitOnes" "[B") .byte) (by decide +kernel)) (va_eqt (hN (Cond.eq (.length (.static "java/lang/Integer" "DigitOnes" "[B")) (.int (Int32.ofNat 100))) (by decide +kernel))) (fun j hj => va_eqt (hN _ (dOn j hj))) hA
  obtain ⟨d2, e2, T2⟩ := va_Tof (tm := .static "java/lang/Integer" "DigitTens" "[B") (ty := .byte) (N := 100) (f := fun j => .int (Int32.ofNat (48 + j / 10))) (A := fun q => s.heap.size ≤ q) (by decide) (hN (.arrayOf (.static "java/lang/Integer" "DigitTens" "[B") .byte) (by decide +kernel)) (va_eqt (hN (Cond.eq (.length (.static "java/lang/Integer" "DigitTens" "[B")) (.int (Int32.ofNat 100))) (by decide +kernel))) (fun j hj => va_eqt (hN _ (dTe j hj))) hA
  obtain ⟨ro, hro, h30, h31⟩ : ∃ ro : Nat → Nat, (∀ i, i < 28 → ro i = (ad i).1) ∧ ro 30 = d1 ∧ ro 31 = d2 := ⟨fun i => if i < 28 then (ad i).1 else if i = 30 then d1 else d2, fun i hi => if_pos hi, rfl, rfl⟩
  have hS : ∀ (i : Nat) (l : List Nat), i < 28 → sBy.getD i [] = l → l.length < 2147483648 → wTxc (hp0 s.heap.size s) s.heap.size (ro i) l := fun i l hi e hl => by
    rw [hro i hi]
    have := (had i hi).2
    rw [e] at this
    exact hp0_S hO this hl
  have L0 := zIn (w := Cond.initialized "java/lang/Integer") hts 42 (by decide +kernel)
  refine ⟨ro, ⟨va_Zof (hts (.laysStatic "java/lang/String" "COMPACT_STRINGS" "Z") (by decide +kernel)) (hts (.initialized "java/lang/String") (by decide +kernel)) (va_eqi (hN (Cond.eq (.static "java/lang/String" "COMPACT_STRINGS" "Z") (.int 1)) (by decide +kernel))) hA, fun i q hq => ?_, va_Zqof (hts (.laysStatic "jdk/internal/util/Preconditions" "SIOOBE_FORMATTER" "Ljava/util/function/BiFunction;") (by decide +kernel)) (hts (.initialized "jdk/internal/util/Preconditions") (by decide +kernel)) (hN (.isRef (.static "jdk/internal/util/Preconditions" "SIOOBE_FORMATTER" "Ljava/util/function/BiFunction;")) (by decide +kernel)) hA, fun w hw => va_Nw.of ((by decide +kernel : ∀ w ∈ zNwL, w.onTables = true) w hw) (hts w ((by decide +kernel : ∀ w ∈ zNwL, w ∈ lw_tbl) w hw)),
      vx_Zqof (hts (.laysStatic Bundle.tN "UNASSIGNED_STACK" Bundle.steD) (by decide +kernel)) (hts (.initialized Bundle.tN) (by decide +kernel)) (hN (.isRef (.static Bundle.tN "UNASSIGNED_STACK" Bundle.steD)) (by decide +kernel)) hA,
      vx_Zqof (hts (.laysStatic Bundle.tN "SUPPRESSED_SENTINEL" Bundle.listD) (by decide +kernel)) (hts (.initialized Bundle.tN) (by decide +kernel)) (hN (.isRef (.static Bundle.tN "SUPPRESSED_SENTINEL" Bundle.listD)) (by decide +kernel)) hA,
      ⟨va_AO.of (hts (.arrayOver (.object "CountHall$Box")) (by decide +kernel)), va_AO.of (hts (.arrayOver (.object "CountHall$State")) (by decide +kernel)), va_AOA.of (hts (.arrayOver (.array .int)) (by decide +kernel))⟩,
      va_Zref (hts (.laysStatic "java/lang/Integer" "DigitOnes" "[B") (by decide +kernel)) L0 (by rw [h30]; exact e1) hA, va_Zref (hts (.laysStatic "java/lang/Integer" "DigitTens" "[B") (by decide +kernel)) L0 (by rw [h31]; exact e2) hA⟩,
    ⟨⟨hS 0 _ (by decide) rfl (by decide), hS 1 _ (by decide) rfl (by decide), hS 2 _ (by decide) rfl (by decide), hS 3 _ (by decide) rfl (by decide), hS 4 _ (by decide) rfl (by decide), hS 5 _ (by decide) rfl (by decide), hS 6 _ (by decide) rfl (by decide), hS 7 _ (by decide) rfl (by decide)⟩,
      ⟨hS 8 _ (by decide) rfl (by decide), hS 9 _ (by decide) rfl (by decide), hS 10 _ (by decide) rfl (by decide), hS 11 _ (by decide) rfl (by decide), hS 12 _ (by decide) rfl (by decide), hS 13 _ (by decide) rfl (by decide), hS 14 _ (by decide) rfl (by decide), hS 15 _ (by decide) rfl (by decide)⟩,
      fun i hi => hS (17 + i) _ (by omega) (sBy_l i hi).1 (sBy_l i hi).2⟩,
    ?_, ?_, ?_⟩
  · have hi : i < 28 := (List.getElem?_eq_some_iff.mp hq).1
    rw [hro i hi]
    have he := (had i hi).1
    have et : sT i = .string q.1 q.2.1 := by unfold sT; rw [hq]
    rw [et] at he
    exact vk_R.of (hts _ (sRf q (List.mem_of_getElem? hq))) he
  · unfold wDT
    rw [h30, h31]
    exact ⟨hp0_T T1 (by decide), hp0_T T2 (by decide)⟩
  · rw [h30]; exact Nat.not_le.mp (va_T.out T1)
  · rw [h31]; exact Nat.not_le.mp (va_T.out T2)
end P99f
