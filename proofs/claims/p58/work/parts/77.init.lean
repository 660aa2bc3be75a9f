/-! PURE: the last two readers; a new box, a new state -/
section P77
variable {hp h hp' : zHp} {a b c p q sz u mc ms : Nat} {T N : Nat → Int32} {v ea : Int32} {σ : Nat → Nat} {Ps : Nat → Nat → Int32}
def nu : List Value := [.int 0, .int 0, .int 0, .int 0, .int 0, .int 0, .null, .null, .null]
theorem I0 (X : hp a = some (.inr (0, [.int 0, .int 0, .int 0, .int 0, .int 0, .int 0, .null, .null, .null]))) : ∃ h, f_X0_init 3 40 a hp (a + 1) = some (h, a + 4) ∧ wBx h a (fun _ _ => 0) ∧ zfr hp h a 4 := by
  obtain ⟨H1, r1⟩ : ∃ H, zup hp (a + 1) (.inl (0, 12, .inl (fun _ => 0))) = H := ⟨_, rfl⟩
  have x1 : H1 a = some (.inr (0, [.int 0, .int 0, .int 0, .int 0, .int 0, .int 0, .null, .null, .null])) := by rw [← r1, zup_ne (by omega)]; exact X
  have p1 := po_V x1 (show 6 < 9 by decide) (.ref (a + 1))
  obtain ⟨H2, r2⟩ : ∃ H, zup H1 a (.inr (0, [.int 0, .int 0, .int 0, .int 0, .int 0, .int 0, .ref (a + 1), .null, .null])) = H := ⟨_, rfl⟩
  have p1' : zpV H1 a 0 6 (.ref (a + 1)) = some H2 := by rw [← r2]; exact p1
  obtain ⟨H3, r3⟩ : ∃ H, zup H2 (a + 1 + 1) (.inl (0, 4, .inl (fun _ => 0))) = H := ⟨_, rfl⟩
  have x3 : H3 a = some (.inr (0, [.int 0, .int 0, .int 0, .int 0, .int 0, .int 0, .ref (a + 1), .null, .null])) := by rw [← r3, zup_ne (by omega), ← r2]; exact zup_eq _ _ _
  have p3 := po_V x3 (show 7 < 9 by decide) (.ref (a + 1 + 1))
  obtain ⟨H4, r4⟩ : ∃ H, zup H3 a (.inr (0, [.int 0, .int 0, .int 0, .int 0, .int 0, .int 0, .ref (a + 1), .ref (a + 1 + 1), .null])) = H := ⟨_, rfl⟩
  have p3' : zpV H3 a 0 7 (.ref (a + 1 + 1)) = some H4 := by rw [← r4]; exact p3
  obtain ⟨H5, r5⟩ : ∃ H, zup H4 (a + 1 + 1 + 1) (.inl (0, 24, .inl (fun _ => 0))) = H := ⟨_, rfl⟩
  have x5 : H5 a = some (.inr (0, [.int 0, .int 0, .int 0, .int 0, .int 0, .int 0, .ref (a + 1), .ref (a + 1 + 1), .null])) := by rw [← r5, zup_ne (by omega), ← r4]; exact zup_eq _ _ _
  have p5 := po_V x5 (show 8 < 9 by decide) (.ref (a + 1 + 1 + 1))
  obtain ⟨H6, r6⟩ : ∃ H, zup H5 a (.inr (0, [.int 0, .int 0, .int 0, .int 0, .int 0, .int 0, .ref (a + 1), .ref (a + 1 + 1), .ref (a + 1 + 1 + 1)])) = H := ⟨_, rfl⟩
  have p5' : zpV H5 a 0 8 (.ref (a + 1 + 1 + 1)) = some H6 := by rw [← r6]; exact p5
  have fr : ∀ i, i ≠ a → H6 i = if i = a + 3 then some (.inl (0, 24, .inl (fun _ => 0))) else if i = a + 2 then some (.inl (0, 4, .inl (fun _ => 0))) else if i = a + 1 then some (.inl (0, 12, .inl (fun _ => 0))) else hp i := fun i hi => by
    rw [← r6, zup_ne hi, ← r5]
    by_cases i3 : i = a + 3
    · rw [if_pos i3, i3]; exact zup_eq _ _ _
    · rw [zup_ne (by omega), if_neg i3, ← r4, zup_ne hi, ← r3]
      by_cases i2 : i = a + 2
      · rw [if_pos i2, i2]; exact zup_eq _ _ _
      · rw [zup_ne (by omega), if_neg i2, ← r2, zup_ne hi, ← r1]
        by_cases i1 : i = a + 1
        · rw [if_pos i1, i1]; exact zup_eq _ _ _
        · rw [zup_ne i1, if_neg i1]
  refine ⟨H6, ?_, ⟨by rw [← r6]; exact zup_eq _ _ _, fun j hj1 hj2 => ?_, Or.inl rfl⟩, fun i hi => by rw [fr i (by omega), if_neg (by omega), if_neg (by omega), if_neg (by omega)]⟩
  · unfold f_X0_init zchk zlet
    rw [if_pos (by decide)]
    dsimp only
    rw [show zup hp (a + 1) (.inl (0, (12 : Int32).toNatClampNeg, .inl (fun _ => 0))) = H1 from r1, p1', Option.bind_some, if_pos (by decide)]
    rw [show zup H2 (a + 1 + 1) (.inl (0, (4 : Int32).toNatClampNeg, .inl (fun _ => 0))) = H3 from r3, p3', Option.bind_some, if_pos (by decide)]
    rw [show zup H4 (a + 1 + 1 + 1) (.inl (0, (24 : Int32).toNatClampNeg, .inl (fun _ => 0))) = H5 from r5, p5', Option.bind_some]
  · rw [fr _ (by omega)]
    rcases (show j = 1 ∨ j = 2 ∨ j = 3 by omega) with rfl | rfl | rfl
    · rw [if_neg (by omega), if_neg (by omega), if_pos rfl]; rfl
    · rw [if_neg (by omega), if_pos rfl]; rfl
    · rw [if_pos rfl]; rfl
end P77

