/-! String constants and digits, as the Statement tells them -/
section P99d
variable {args : Array Value} {s : State} {A : Nat → Prop} {b0 : Nat}
def NW : List Cond := flatC (Jvm.Cond.and given_1 narrow_1)
def strW (t : Term) (l : List Nat) : List Cond := [Cond.exactly t "java/lang/String", Cond.eq (.field t "java/lang/String" "coder" "B") (.int 0), Cond.arrayOf (.field t "java/lang/String" "value" "[B") .byte, Cond.eq (.length (.field t "java/lang/String" "value" "[B")) (.int (Int32.ofNat l.length))] ++ (List.range l.length).map (fun j => Cond.eq (.elem (.field t "java/lang/String" "value" "[B") (.int (Int32.ofNat j))) (.int (Int32.ofNat (l.getD j 0))))
/-- a String at a with the bytes l -/
def sAt (s : State) (A : Nat → Prop) (l : List Nat) (a v : Nat) : Prop := va_O "java/lang/String" a A s s.heap ∧ va_OF "java/lang/String" "coder" "B" (.int 0) a A s s.heap ∧ va_OF "java/lang/String" "value" "[B" (.ref v) a A s s.heap ∧ va_T .byte v l.length (fun j => .int (Int32.ofNat (l.getD j 0))) A s s.heap
theorem strW_of {t : Term} {l : List Nat} (hl : l.length < 2 ^ 31) (h : ∀ w ∈ strW t l, w.before args s = true) (hA : ∀ a : Nat, a < s.heap.size → ¬ A a) : ∃ q : Nat × Nat, t.eval args s none [] s = some (.ref q.1) ∧ sAt s A l q.1 q.2 := by
  have hex : (Cond.exactly t "java/lang/String").before args s = true := h _ (List.mem_append_left _ (List.mem_of_getElem? (i := 0) rfl))
  have hco := h (Cond.eq (.field t "java/lang/String" "coder" "B") (.int 0)) (List.mem_append_left _ (List.mem_of_getElem? (i := 1) rfl))
  have har := h (Cond.arrayOf (.field t "java/lang/String" "value" "[B") .byte) (List.mem_append_left _ (List.mem_of_getElem? (i := 2) rfl))
  have hle := h (Cond.eq (.length (.field t "java/lang/String" "value" "[B")) (.int (Int32.ofNat l.length))) (List.mem_append_left _ (List.mem_of_getElem? (i := 3) rfl))
  have hel : ∀ j : Nat, j < l.length → (Cond.eq (.elem (.field t "java/lang/String" "value" "[B") (.int (Int32.ofNat j))) (.int (Int32.ofNat (l.getD j 0)))).before args s = true := fun j hj => h _ (List.mem_append_right _ (List.mem_map.mpr ⟨j, List.mem_range.mpr hj, rfl⟩))
  obtain ⟨a, c, cA, kA, q1, -⟩ := Cond.exactly_spec (args := args) (first := s) (o := none) (s := s) (idx := []) (t := t) (cls := "java/lang/String") hex
  obtain ⟨v, hv, hT⟩ := va_Tof (f := fun j => .int (Int32.ofNat (l.getD j 0))) (A := A) hl har (va_eqt hle) (fun j hj => va_eqt (hel j hj)) hA
  exact ⟨(a, v), q1, va_Oof hex q1 hA, vk_OFof q1 (va_eqt hco) hA, vk_OFof q1 hv hA, hT⟩
def sT (i : Nat) : Term := match zStr[i]? with
  | some q => .string q.1 q.2.1
  | none => .int 0
def sBy : List (List Nat) := [wPa, wPa, wRe, wWa, wBo, wTa, wI, wSe, wRe, wI, wWa, wBo, wTa, wSe, wTr, wTo, [110, 111, 32, 115, 117, 99, 104, 32, 116, 104, 105, 110, 103], lwS 0, lwS 1, lwS 2, lwS 3, lwS 4, lwS 5, lwS 6, lwS 7, lwS 8, lwS 9, lwS 10]
set_option maxRecDepth 100000 in
theorem sN_0 : (NW.drop 344).take 9 = strW (.string "CountHall$Loader" 55) wPa := by decide +kernel
set_option maxRecDepth 100000 in
theorem sN_1 : (NW.drop 353).take 9 = strW (.string "CountHall$Input" 57) wPa := by decide +kernel
set_option maxRecDepth 100000 in
theorem sN_2 : (NW.drop 363).take 10 = strW (.string "CountHall$Input" 63) wRe := by decide +kernel
set_option maxRecDepth 100000 in
theorem sN_3 : (NW.drop 373).take 8 = strW (.string "CountHall$Input" 65) wWa := by decide +kernel
set_option maxRecDepth 100000 in
theorem sN_4 : (NW.drop 381).take 7 = strW (.string "CountHall$Input" 67) wBo := by decide +kernel
set_option maxRecDepth 100000 in
theorem sN_5 : (NW.drop 388).take 9 = strW (.string "CountHall$Input" 69) wTa := by decide +kernel
set_option maxRecDepth 100000 in
theorem sN_6 : (NW.drop 397).take 6 = strW (.string "CountHall$Input" 71) wI := by decide +kernel
set_option maxRecDepth 100000 in
theorem sN_7 : (NW.drop 403).take 7 = strW (.string "CountHall$Input" 73) wSe := by decide +kernel
set_option maxRecDepth 100000 in
theorem sN_8 : (NW.drop 410).take 10 = strW (.string "CountHall$Loader" 64) wRe := by decide +kernel
set_option maxRecDepth 100000 in
theorem sN_9 : (NW.drop 421).take 6 = strW (.string "CountHall$Loader" 100) wI := by decide +kernel
set_option maxRecDepth 100000 in
theorem sN_10 : (NW.drop 428).take 8 = strW (.string "CountHall$Loader" 69) wWa := by decide +kernel
set_option maxRecDepth 100000 in
theorem sN_11 : (NW.drop 437).take 7 = strW (.string "CountHall$Loader" 74) wBo := by decide +kernel
set_option maxRecDepth 100000 in
theorem sN_12 : (NW.drop 445).take 9 = strW (.string "CountHall$Loader" 79) wTa := by decide +kernel
set_option maxRecDepth 100000 in
theorem sN_13 : (NW.drop 455).take 7 = strW (.string "CountHall$Loader" 84) wSe := by decide +kernel
set_option maxRecDepth 100000 in
theorem sN_14 : (NW.drop 463).take 11 = strW (.string "CountHall$Loader" 140) wTr := by decide +kernel
set_option maxRecDepth 100000 in
theorem sN_15 : (NW.drop 474).take 13 = strW (.string "CountHall$Loader" 142) wTo := by decide +kernel
set_option maxRecDepth 100000 in
theorem sN_16 : (NW.drop 487).take 17 = strW (.string "CountHall" 308) [110, 111, 32, 115, 117, 99, 104, 32, 116, 104, 105, 110, 103] := by decide +kernel
set_option maxRecDepth 100000 in
theorem sN_17 : (NW.drop 239).take 16 = strW (.string "CountHallLaw" 74) (lwS 0) := by decide +kernel
set_option maxRecDepth 100000 in
theorem sN_18 : (NW.drop 255).take 19 = strW (.string "CountHallLaw" 82) (lwS 1) := by decide +kernel
set_option maxRecDepth 100000 in
theorem sN_19 : (NW.drop 274).take 5 = strW (.string "CountHallLaw" 84) (lwS 2) := by decide +kernel
set_option maxRecDepth 100000 in
theorem sN_20 : (NW.drop 279).take 10 = strW (.string "CountHallLaw" 86) (lwS 3) := by decide +kernel
set_option maxRecDepth 100000 in
theorem sN_21 : (NW.drop 289).take 4 = strW (.string "CountHallLaw" 69) (lwS 4) := by decide +kernel
set_option maxRecDepth 100000 in
theorem sN_22 : (NW.drop 293).take 11 = strW (.string "CountHallLaw" 92) (lwS 5) := by decide +kernel
set_option maxRecDepth 100000 in
theorem sN_23 : (NW.drop 304).take 8 = strW (.string "CountHallLaw" 97) (lwS 6) := by decide +kernel
set_option maxRecDepth 100000 in
theorem sN_24 : (NW.drop 312).take 9 = strW (.string "CountHallLaw" 99) (lwS 7) := by decide +kernel
set_option maxRecDepth 100000 in
theorem sN_25 : (NW.drop 321).take 5 = strW (.string "CountHallLaw" 21) (lwS 8) := by decide +kernel
set_option maxRecDepth 100000 in
theorem sN_26 : (NW.drop 326).take 8 = strW (.string "CountHallLaw" 107) (lwS 9) := by decide +kernel
set_option maxRecDepth 100000 in
theorem sN_27 : (NW.drop 334).take 10 = strW (.string "CountHallLaw" 121) (lwS 10) := by decide +kernel
theorem slice_in {L W : List Cond} {k m : Nat} (h : (L.drop k).take m = W) : ∀ w ∈ W, w ∈ L := fun w hw => List.mem_of_mem_drop (List.mem_of_mem_take (by rw [h]; exact hw))
theorem sNW (i : Nat) (hi : i < 28) : ∀ w ∈ strW (sT i) (sBy.getD i []), w ∈ NW := by
  match i, hi with
    | 0, _ => exact slice_in sN_0
    | 1, _ => exact slice_in sN_1
    | 2, _ => exact slice_in sN_2
    | 3, _ => exact slice_in sN_3
    | 4, _ => exact slice_in sN_4
    | 5, _ => exact slice_in sN_5
    | 6, _ => exact slice_in sN_6
    | 7, _ => exact slice_in sN_7
    | 8, _ => exact slice_in sN_8
    | 9, _ => exact slice_in sN_9
    | 10, _ => exact slice_in sN_10
    | 11, _ => exact slice_in sN_11
    | 12, _ => exact slice_in sN_12
    | 13, _ => exact slice_in sN_13
    | 14, _ => exact slice_in sN_14
    | 15, _ => exact slice_in sN_15
    | 16, _ => exact slice_in sN_16
    | 17, _ => exact slice_in sN_17
    | 18, _ => exact slice_in sN_18
    | 19, _ => exact slice_in sN_19
    | 20, _ => exact slice_in sN_20
    | 21, _ => exact slice_in sN_21
    | 22, _ => exact slice_in sN_22
    | 23, _ => exact slice_in sN_23
    | 24, _ => exact slice_in sN_24
    | 25, _ => exact slice_in sN_25
    | 26, _ => exact slice_in sN_26
    | 27, _ => exact slice_in sN_27
    | i + 28, hi => omega
theorem sBy_l : ∀ i, i < 11 → sBy.getD (17 + i) [] = lwS i ∧ (lwS i).length < 2147483648 := by decide +kernel
theorem sLn : ∀ i, i < 28 → (sBy.getD i []).length < 2 ^ 31 := by decide +kernel
theorem sRf : ∀ q ∈ zStr, Cond.stringRef q.1 q.2.1 q.2.2 ∈ lw_tbl := by decide +kernel
set_option maxRecDepth 100000 in
theorem dOs : (NW.drop 12).take 100 = (List.range 100).map (fun j => Cond.eq (.elem (.static "java/lang/Integer" "DigitOnes" "[B") (.int (Int32.ofNat j))) (.int (Int32.ofNat (48 + j % 10)))) := by decide +kernel
set_option maxRecDepth 100000 in
theorem dTs : (NW.drop 115).take 100 = (List.range 100).map (fun j => Cond.eq (.elem (.static "java/lang/Integer" "DigitTens" "[B") (.int (Int32.ofNat j))) (.int (Int32.ofNat (48 + j / 10)))) := by decide +kernel
theorem dOn (j : Nat) (hj : j < 100) : Cond.eq (.elem (.static "java/lang/Integer" "DigitOnes" "[B") (.int (Int32.ofNat j))) (.int (Int32.ofNat (48 + j % 10))) ∈ NW := slice_in dOs _ (List.mem_map.mpr ⟨j, List.mem_range.mpr hj, rfl⟩)
theorem dTe (j : Nat) (hj : j < 100) : Cond.eq (.elem (.static "java/lang/Integer" "DigitTens" "[B") (.int (Int32.ofNat j))) (.int (Int32.ofNat (48 + j / 10))) ∈ NW := slice_in dTs _ (List.mem_map.mpr ⟨j, List.mem_range.mpr hj, rfl⟩)
end P99d
