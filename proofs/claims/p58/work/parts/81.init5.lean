/-! PURE: a new hall, loader, and the class, new -/
section P81
variable {hp h hp' : zHp} {a b c p q sz u mc ms : Nat} {Ps : Nat → Nat → Int32}
def z10 : List Value := [.null, .null, .null, .null, .null, .null, .null, .null, .null, .null]
theorem I4 (X : hp (c + 1) = some (.inr (4, [.null, .null, .int 0, .int 0]))) : ∃ h, f_X4_init 30 1123 (c + 1) hp (c + 1 + 1) = some (h, c + 32) ∧ wLd h c (c + 4) 0 (-1) ∧ wIn h (c + 2) (fun _ => 0) (fun _ => 0) ∧ (∃ R, wP h (c + 4) R) ∧ zfr hp h (c + 1) 31 := by
  obtain ⟨G1, g1⟩ : ∃ G, zup hp (c + 2) (.inr (3, [.null, .int 0, .int 0, .int 0, .int 0, .int 0])) = G := ⟨_, rfl⟩
  obtain ⟨H1, e1, w1, f1⟩ := I3 (hp := G1) (a := c + 2) (by rw [← g1]; exact zup_eq _ _ _)
  have b1 : ∀ i, i < c + 2 ∨ c + 4 ≤ i → H1 i = hp i := fun i hi => by rw [f1 i (by omega), ← g1, zup_ne (by omega)]
  have p2 := po_V (show H1 (c + 1) = some (.inr (4, [.null, .null, .int 0, .int 0])) by rw [b1 _ (by omega)]; exact X) (show 0 < 4 by decide) (.ref (c + 2))
  obtain ⟨H2, g2⟩ : ∃ G, zup H1 (c + 1) (.inr (4, [.ref (c + 2), .null, .int 0, .int 0])) = G := ⟨_, rfl⟩
  have p2' : zpV H1 (c + 1) 4 0 (.ref (c + 2)) = some H2 := by rw [← g2]; exact p2
  obtain ⟨G3, g3⟩ : ∃ G, zup H2 (c + 4) (.inr (5, [.null, .null, .null, .null, .null, .null, .null, .null, .null, .null])) = G := ⟨_, rfl⟩
  obtain ⟨H3, R, e3, w3, -, f3⟩ := I5 (hp := G3) (a := c + 4) (by rw [← g3]; exact zup_eq _ _ _)
  have b3 : ∀ i, i < c + 4 ∨ c + 32 ≤ i → H3 i = H2 i := fun i hi => by rw [f3 i (by omega), ← g3, zup_ne (by omega)]
  have p4 := po_V (show H3 (c + 1) = some (.inr (4, [.ref (c + 2), .null, .int 0, .int 0])) by rw [b3 _ (by omega), ← g2]; exact zup_eq _ _ _) (show 1 < 4 by decide) (.ref (c + 4))
  obtain ⟨H4, g4⟩ : ∃ G, zup H3 (c + 1) (.inr (4, [.ref (c + 2), .ref (c + 4), .int 0, .int 0])) = G := ⟨_, rfl⟩
  have p4' : zpV H3 (c + 1) 4 1 (.ref (c + 4)) = some H4 := by rw [← g4]; exact p4
  have p5 := po_V (show H4 (c + 1) = some (.inr (4, [.ref (c + 2), .ref (c + 4), .int 0, .int 0])) by rw [← g4]; exact zup_eq _ _ _) (show 3 < 4 by decide) (.int (-1))
  obtain ⟨H5, g5⟩ : ∃ G, zup H4 (c + 1) (.inr (4, [.ref (c + 2), .ref (c + 4), .int 0, .int (-1)])) = G := ⟨_, rfl⟩
  have p5' : zpV H4 (c + 1) 4 3 (.int (-1)) = some H5 := by rw [← g5]; exact p5
  have b5 : ∀ i, i ≠ c + 1 → H5 i = H3 i := fun i hi => by rw [← g5, zup_ne hi, ← g4, zup_ne hi]
  refine ⟨H5, ?_, by unfold wLd; rw [← g5]; exact zup_eq _ _ _, in_fr w1 (fun i i1 i2 => by rw [b5 i (by omega), b3 i (by omega), ← g2, zup_ne (by omega)]), ⟨R, wP_fr w3 (fun i i1 i2 => b5 i (by omega))⟩, fun i hi => by rw [b5 i (by omega), b3 i (by omega), ← g2, zup_ne (by omega), b1 i (by omega)]⟩
  unfold f_X4_init zchk zlet
  rw [if_pos (by decide)]
  dsimp only
  rw [show zup hp (c + 1 + 1) (.inr (3, [.null, .int 0, .int 0, .int 0, .int 0, .int 0])) = G1 from g1, if_pos (by decide), show f_X3_init 1 900 (c + 1 + 1) G1 (c + 1 + 1 + 1) = some (H1, c + 4) from e1, zb2_some, show zpV H1 (c + 1) 4 0 (.ref (c + 1 + 1)) = some H2 from p2', Option.bind_some, if_pos (by decide)]
  rw [g3, if_pos (by decide), e3, zb2_some, p4', Option.bind_some, p5', Option.bind_some]
theorem I1 (X : hp a = some (.inr (1, [.null, .null]))) : ∃ h, f_X1_init 80 830 a hp (a + 1) = some (h, a + 81) ∧ wH h a (a + 1) (a + 29) (fun _ => 0) N0 ∧ zfr hp h a 81 := by
  obtain ⟨G1, g1⟩ : ∃ G, zup hp (a + 1) (.inr (5, [.null, .null, .null, .null, .null, .null, .null, .null, .null, .null])) = G := ⟨_, rfl⟩
  obtain ⟨H1, R, e1, w1, r1, f1⟩ := I5 (hp := G1) (a := a + 1) (by rw [← g1]; exact zup_eq _ _ _)
  have b1 : ∀ i, i < a + 1 ∨ a + 29 ≤ i → H1 i = hp i := fun i hi => by rw [f1 i (by omega), ← g1, zup_ne (by omega)]
  have p2 := po_V (show H1 a = some (.inr (1, [.null, .null])) by rw [b1 _ (by omega)]; exact X) (show 0 < 2 by decide) (.ref (a + 1))
  obtain ⟨H2, g2⟩ : ∃ G, zup H1 a (.inr (1, [.ref (a + 1), .null])) = G := ⟨_, rfl⟩
  have p2' : zpV H1 a 1 0 (.ref (a + 1)) = some H2 := by rw [← g2]; exact p2
  obtain ⟨G3, g3⟩ : ∃ G, zup H2 (a + 29) (.inr (6, [.null, .null, .null, .int 0, .int 0])) = G := ⟨_, rfl⟩
  obtain ⟨H3, G, e3, w3, ⟨s1, s2, s3, s4⟩, f3⟩ := I6 (hp := G3) (a := a + 29) (by rw [← g3]; exact zup_eq _ _ _)
  have b3 : ∀ i, i < a + 29 ∨ a + 81 ≤ i → H3 i = H2 i := fun i hi => by rw [f3 i (by omega), ← g3, zup_ne (by omega)]
  have p4 := po_V (show H3 a = some (.inr (1, [.ref (a + 1), .null])) by rw [b3 _ (by omega), ← g2]; exact zup_eq _ _ _) (show 1 < 2 by decide) (.ref (a + 29))
  obtain ⟨H4, g4⟩ : ∃ G, zup H3 a (.inr (1, [.ref (a + 1), .ref (a + 29)])) = G := ⟨_, rfl⟩
  have p4' : zpV H3 a 1 1 (.ref (a + 29)) = some H4 := by rw [← g4]; exact p4
  have x4 : H4 a = some (.inr (1, [.ref (a + 1), .ref (a + 29)])) := by rw [← g4]; exact zup_eq _ _ _
  have b4 : ∀ i, i ≠ a → H4 i = H3 i := fun i hi => by rw [← g4, zup_ne hi]
  have P4 : wP H4 (a + 1) R := wP_fr w1 (fun i i1 i2 => by rw [b4 i (by omega), b3 i (by omega), ← g2, zup_ne (by omega)])
  have S4 : wSt H4 (a + 29) G := st_fr w3 (fun i i1 i2 => b4 i (by omega))
  have rP0 : rP (fun _ => 0) R := ⟨fun s hs => r1 1 s, fun s k hs hk => absurd hk (Nat.not_lt_zero k), fun r hr => absurd hr (Nat.not_lt_zero r), fun r hr => absurd hr (Nat.not_lt_zero r), fun r hr => absurd hr (Nat.not_lt_zero r), fun r p hr => absurd hr (Nat.not_lt_zero r), fun r hr => absurd hr (Nat.not_lt_zero r)⟩
  have sP0 : sP (fun _ => 0) := ⟨fun s hs => rfl, by decide, fun r hr => absurd hr (Nat.not_lt_zero r), fun r hr => absurd hr (Nat.not_lt_zero r), fun r hr => absurd hr (Nat.not_lt_zero r), fun r hr => absurd hr (Nat.not_lt_zero r), fun r p hr => absurd hr (Nat.not_lt_zero r)⟩
  have S5 : rS (fun _ => 0) N0 G := ⟨fun i hi => by
    rcases (show i = 0 ∨ i = 1 by omega) with rfl | rfl
    · exact s1
    · exact s2, s3, s4, fun k hk => absurd hk (Nat.not_lt_zero k), fun b hb => absurd hb (Nat.not_lt_zero b)⟩
  refine ⟨H4, ?_, ⟨x4, ⟨R, P4, rP0⟩, ⟨G, S4, S5⟩, PI_sI (v := 0) (a := 0) PI_0 sP0⟩, fun i hi => by rw [b4 i (by omega), b3 i (by omega), ← g2, zup_ne (by omega), b1 i (by omega)]⟩
  unfold f_X1_init zchk zlet
  rw [if_pos (by decide)]
  dsimp only
  rw [g1, if_pos (by decide), e1, zb2_some, p2', Option.bind_some, if_pos (by decide)]
  rw [show a + 1 + 28 = a + 29 by omega, g3, if_pos (by decide), e3, zb2_some, p4', Option.bind_some]
end P81

