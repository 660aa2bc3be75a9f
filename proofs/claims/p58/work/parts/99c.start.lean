/-! what the Statement gives of the start: words, classes, String constants, digits; the heap that they picture -/
section P99c
variable {args : Array Value} {s : State} {A : Nat → Prop} {b0 : Nat}
theorem zGT_start (hts : ∀ w ∈ lw_tbl, w.before args s = true) : ∀ w ∈ zGT, w.before args s = true := by
  intro w h
  rcases List.mem_append.mp h with h | h
  · exact hts w (List.mem_filter.mp h).1
  · have hsel : (Cond.selects "java/lang/StringBuilder" (⟨"java/lang/AbstractStringBuilder", "getValue", "()[B"⟩ : MethodName) (⟨"java/lang/AbstractStringBuilder", "getValue", "()[B"⟩ : MethodName)).before args s = true := hts _ (by decide +kernel)
    simp only [zSel, List.mem_cons, List.not_mem_nil, or_false] at h
    rcases h with rfl | rfl | rfl | rfl
    · exact z_selUp ⟨by decide +kernel, by decide +kernel⟩ hsel rfl (hts (.privateMethod yJ5_newCapacity_0f7a4) (by decide +kernel)) (hts (.instanceMethod yJ5_newCapacity_0f7a4) (by decide +kernel))
    · exact z_selUp ⟨by decide +kernel, by decide +kernel⟩ hsel rfl (hts (.privateMethod yJ5_ensureCapacityInternal_d00df) (by decide +kernel)) (hts (.instanceMethod yJ5_ensureCapacityInternal_d00df) (by decide +kernel))
    · exact z_selUp ⟨by decide +kernel, by decide +kernel⟩ hsel rfl (hts (.privateMethod yJ5_inflateIfNeededFor_a7421) (by decide +kernel)) (hts (.instanceMethod yJ5_inflateIfNeededFor_a7421) (by decide +kernel))
    · exact z_selUp ⟨by decide +kernel, by decide +kernel⟩ hsel rfl (hts (.privateMethod yJ5_putStringAt_47b60) (by decide +kernel)) (hts (.instanceMethod yJ5_putStringAt_47b60) (by decide +kernel))
/-! classes and array classes -/
theorem zArrC {t : FieldType} (h : (Cond.arrayClass t).before args s = true) : ∃ cA, ArrOfT s cA t ∧ s.vm.findClass ("[" ++ t.toString) = some cA := by
  obtain ⟨c, k, comp, f1, f2, f3⟩ := Cond.arrayClass_spec h
  exact ⟨c, fun n z => ⟨fun k h => (by cases h), k, f2, comp, f3⟩, f1⟩
theorem zArrO {C : String} (h : (Cond.arrayOver (.object C)).before args s = true) : ∃ cA, ArrOfT s cA (.object C) ∧ va_RA s cA (.object C) := by
  obtain ⟨comp, c, k, g1, g2, g3, g4, g5⟩ := Cond.arrayOver_spec h
  exact ⟨c, fun n z => ⟨fun k h => (by cases h), k, g3, comp, g4⟩, k, comp, g3, g4, g1, g5⟩
theorem zArrA {t : FieldType} (h : (Cond.arrayOver (.array t)).before args s = true) : ∃ cA, ArrOfT s cA (.array t) ∧ s.vm.findClass ("[" ++ (FieldType.array t).toString) = some cA := by
  obtain ⟨comp, c, k, g1, g2, g3, g4, g5⟩ := Jvm.Stand.arrayOver_specB h
  exact ⟨c, fun n z => ⟨fun k h => (by cases h), k, g3, comp, g4⟩, g5⟩
theorem zIn {w : Cond} (hts : ∀ w ∈ lw_tbl, w.before args s = true) (i : Nat) (h : lw_tbl[i]? = some w) : w.before args s = true := hts _ (List.mem_of_getElem? h)
theorem zK_start (hts : ∀ w ∈ lw_tbl, w.before args s = true) (hg : ∀ w ∈ zGT, w.before args s = true) : ∃ (D : va_G) (tc : Nat → ClassId), va_K D zCl (zTy tc) s := by
  obtain ⟨c0, i0, k0⟩ := u_known (C := RX0) (T := TX0) (N := 9) (n := 9) hg zu_X0 (zIn hts 192 (by decide +kernel))
  obtain ⟨c1, i1, k1⟩ := u_known (C := RX1) (T := TX1) (N := 2) (n := 2) hg zu_X1 (zIn hts 177 (by decide +kernel))
  obtain ⟨c2, i2, k2⟩ := u_known (C := RX2) (T := TX2) (N := 2) (n := 2) hg zu_X2 (zIn hts 273 (by decide +kernel))
  obtain ⟨c3, i3, k3⟩ := u_known (C := RX3) (T := TX3) (N := 6) (n := 6) hg zu_X3 (zIn hts 72 (by decide +kernel))
  obtain ⟨c4, i4, k4⟩ := u_known (C := RX4) (T := TX4) (N := 4) (n := 4) hg zu_X4 (zIn hts 66 (by decide +kernel))
  obtain ⟨c5, i5, k5⟩ := u_known (C := RX5) (T := TX5) (N := 10) (n := 10) hg zu_X5 (zIn hts 101 (by decide +kernel))
  obtain ⟨c6, i6, k6⟩ := u_known (C := RX6) (T := TX6) (N := 5) (n := 5) hg zu_X6 (zIn hts 185 (by decide +kernel))
  obtain ⟨c7, i7, k7⟩ := u_known (C := RX7) (T := TX7) (N := 5) (n := 5) hg zu_X7 (zIn hts 58 (by decide +kernel))
  obtain ⟨c8, i8, k8⟩ := u_known (C := RJ0) (T := TJ0) (N := 4) (n := 4) hg zu_J0 (zIn hts 501 (by decide +kernel))
  obtain ⟨c9, i9, k9⟩ := u_known (C := RJ4) (T := TJ4) (N := 4) (n := 4) hg zu_J4 (zIn hts 290 (by decide +kernel))
  obtain ⟨t0, a0, r0⟩ := zArrC (t := .int) (zIn hts 160 (by decide +kernel))
  obtain ⟨t1, a1, r1⟩ := zArrC (t := .byte) (zIn hts 99 (by decide +kernel))
  obtain ⟨t3, a3, r3⟩ := zArrO (C := "CountHall$Box") (zIn hts 191 (by decide +kernel))
  obtain ⟨t4, a4, r4⟩ := zArrO (C := "CountHall$State") (zIn hts 279 (by decide +kernel))
  obtain ⟨t5, a5, r5⟩ := zArrA (t := .int) (zIn hts 107 (by decide +kernel))
  refine ⟨(fun k => ([c0, c1, c2, c3, c4, c5, c6, c7, c8, c9] : List ClassId).getD k c0, fun k => ([i0, i1, i2, i3, i4, i5, i6, i7, i8, i9] : List (Nat → Nat)).getD k i0), fun k => ([t0, t1, t0, t3, t4, t5] : List ClassId).getD k t0, fun k q hq => ?_, fun k q hq => ?_⟩
  · match k, hq with
    | 0, hq => have e : ((RX0, TX0, 9) : vw_C) = q := Option.some.inj hq; subst e; exact k0
    | 1, hq => have e : ((RX1, TX1, 2) : vw_C) = q := Option.some.inj hq; subst e; exact k1
    | 2, hq => have e : ((RX2, TX2, 2) : vw_C) = q := Option.some.inj hq; subst e; exact k2
    | 3, hq => have e : ((RX3, TX3, 6) : vw_C) = q := Option.some.inj hq; subst e; exact k3
    | 4, hq => have e : ((RX4, TX4, 4) : vw_C) = q := Option.some.inj hq; subst e; exact k4
    | 5, hq => have e : ((RX5, TX5, 10) : vw_C) = q := Option.some.inj hq; subst e; exact k5
    | 6, hq => have e : ((RX6, TX6, 5) : vw_C) = q := Option.some.inj hq; subst e; exact k6
    | 7, hq => have e : ((RX7, TX7, 5) : vw_C) = q := Option.some.inj hq; subst e; exact k7
    | 8, hq => have e : ((RJ0, TJ0, 4) : vw_C) = q := Option.some.inj hq; subst e; exact k8
    | 9, hq => have e : ((RJ4, TJ4, 4) : vw_C) = q := Option.some.inj hq; subst e; exact k9
    | k + 10, hq => exact absurd (List.getElem?_eq_some_iff.mp hq).1 (show ¬ k + 10 < 10 by omega)
  · match k, hq with
    | 0, hq => have e : ((t0, .int) : ClassId × FieldType) = q := Option.some.inj hq; subst e; exact ⟨a0, r0⟩
    | 1, hq => have e : ((t1, .byte) : ClassId × FieldType) = q := Option.some.inj hq; subst e; exact ⟨a1, r1⟩
    | 2, hq => have e : ((t0, .int) : ClassId × FieldType) = q := Option.some.inj hq; subst e; exact ⟨a0, r0⟩
    | 3, hq => have e : ((t3, .object "CountHall$Box") : ClassId × FieldType) = q := Option.some.inj hq; subst e; exact ⟨a3, r3⟩
    | 4, hq => have e : ((t4, .object "CountHall$State") : ClassId × FieldType) = q := Option.some.inj hq; subst e; exact ⟨a4, r4⟩
    | 5, hq => have e : ((t5, .array .int) : ClassId × FieldType) = q := Option.some.inj hq; subst e; exact ⟨a5, r5⟩
    | k + 6, hq => exact absurd (List.getElem?_eq_some_iff.mp hq).1 (show ¬ k + 6 < 6 by omega)
end P99c
