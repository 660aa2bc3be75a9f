/-! PURE: the class, new -/
section P82
variable {hp h hp' : zHp} {a b c p q sz u mc ms : Nat} {Ps : Nat → Nat → Int32}
theorem I7 (X : hp c = some (.inr (7, [.null, .null, .null, .null, .int 0]))) (hm : 636 ≤ mc) (hs : 8121 ≤ ms) : ∃ h, f_X7_init mc ms c hp (c + 1) = some (h, c + 637) ∧ wW h c (c + 33) (-1) (fun _ => 0) N0 (fun i => i) 0 Ps ∧ wCL h c (c + 33) ∧ wIn h (c + 2) (fun _ => 0) (fun _ => 0) ∧ wSB h (c + 635) (c + 636) 16 0 (fun _ => 0) ∧ zfr hp h c 637 := by
  obtain ⟨G1, g1⟩ : ∃ G, zup hp (c + 1) (.inr (4, [.null, .null, .int 0, .int 0])) = G := ⟨_, rfl⟩
  obtain ⟨H1, e1, w1, w1', ⟨R, w1''⟩, f1⟩ := I4 (hp := G1) (c := c) (by rw [← g1]; exact zup_eq _ _ _)
  have b1 : ∀ i, i < c + 1 ∨ c + 32 ≤ i → H1 i = hp i := fun i hi => by rw [f1 i (by omega), ← g1, zup_ne (by omega)]
  have p2 := po_V (show H1 c = some (.inr (7, [.null, .null, .null, .null, .int 0])) by rw [b1 _ (by omega)]; exact X) (show 0 < 5 by decide) (.ref (c + 1))
  obtain ⟨H2, g2⟩ : ∃ G, zup H1 c (.inr (7, [.ref (c + 1), .null, .null, .null, .int 0])) = G := ⟨_, rfl⟩
  have p2' : zpV H1 c 7 0 (.ref (c + 1)) = some H2 := by rw [← g2]; exact p2
  obtain ⟨G3, g3⟩ : ∃ G, zup H2 (c + 32) (.inr (1, [.null, .null])) = G := ⟨_, rfl⟩
  obtain ⟨H3, e3, w3, f3⟩ := I1 (hp := G3) (a := c + 32) (by rw [← g3]; exact zup_eq _ _ _)
  have b3 : ∀ i, i < c + 32 ∨ c + 113 ≤ i → H3 i = H2 i := fun i hi => by rw [f3 i (by omega), ← g3, zup_ne (by omega)]
  have p4 := po_V (show H3 c = some (.inr (7, [.ref (c + 1), .null, .null, .null, .int 0])) by rw [b3 _ (by omega), ← g2]; exact zup_eq _ _ _) (show 1 < 5 by decide) (.ref (c + 32))
  obtain ⟨H4, g4⟩ : ∃ G, zup H3 c (.inr (7, [.ref (c + 1), .ref (c + 32), .null, .null, .int 0])) = G := ⟨_, rfl⟩
  have p4' : zpV H3 c 7 1 (.ref (c + 32)) = some H4 := by rw [← g4]; exact p4
  obtain ⟨G5, g5⟩ : ∃ G, zup H4 (c + 113) (.inr (2, [.null, .int 0])) = G := ⟨_, rfl⟩
  obtain ⟨H5, e5, w5, f5⟩ := I2 (hp := G5) (a := c + 113) (by rw [← g5]; exact zup_eq _ _ _)
  have b5 : ∀ i, i < c + 113 ∨ c + 635 ≤ i → H5 i = H4 i := fun i hi => by rw [f5 i (by omega), ← g5, zup_ne (by omega)]
  have p6 := po_V (show H5 c = some (.inr (7, [.ref (c + 1), .ref (c + 32), .null, .null, .int 0])) by rw [b5 _ (by omega), ← g4]; exact zup_eq _ _ _) (show 2 < 5 by decide) (.ref (c + 113))
  obtain ⟨H6, g6⟩ : ∃ G, zup H5 c (.inr (7, [.ref (c + 1), .ref (c + 32), .ref (c + 113), .null, .int 0])) = G := ⟨_, rfl⟩
  have p6' : zpV H5 c 7 2 (.ref (c + 113)) = some H6 := by rw [← g6]; exact p6
  obtain ⟨G7, g7⟩ : ∃ G, zup H6 (c + 635) (.inr (9, [.null, .int 0, .int 0, .int 0])) = G := ⟨_, rfl⟩
  obtain ⟨H7, e7, w7, f7⟩ := I9 (hp := G7) (a := c + 635) (by rw [← g7]; exact zup_eq _ _ _)
  have b7 : ∀ i, i < c + 635 ∨ c + 637 ≤ i → H7 i = H6 i := fun i hi => by rw [f7 i (by omega), ← g7, zup_ne (by omega)]
  have p8 := po_V (show H7 c = some (.inr (7, [.ref (c + 1), .ref (c + 32), .ref (c + 113), .null, .int 0])) by rw [b7 _ (by omega), ← g6]; exact zup_eq _ _ _) (show 3 < 5 by decide) (.ref (c + 635))
  obtain ⟨H8, g8⟩ : ∃ G, zup H7 c (.inr (7, [.ref (c + 1), .ref (c + 32), .ref (c + 113), .ref (c + 635), .int 0])) = G := ⟨_, rfl⟩
  have p8' : zpV H7 c 7 3 (.ref (c + 635)) = some H8 := by rw [← g8]; exact p8
  have p9 := po_V (show H8 c = some (.inr (7, [.ref (c + 1), .ref (c + 32), .ref (c + 113), .ref (c + 635), .int 0])) by rw [← g8]; exact zup_eq _ _ _) (show 4 < 5 by decide) (.int (-1))
  obtain ⟨H9, g9⟩ : ∃ G, zup H8 c (.inr (7, [.ref (c + 1), .ref (c + 32), .ref (c + 113), .ref (c + 635), .int (-1)])) = G := ⟨_, rfl⟩
  have p9' : zpV H8 c 7 4 (.int (-1)) = some H9 := by rw [← g9]; exact p9
  have b9 : ∀ i, i ≠ c → H9 i = H7 i := fun i hi => by rw [← g9, zup_ne hi, ← g8, zup_ne hi]
  have c5 : ∀ i, i ≠ c → i < c + 635 → H9 i = H5 i := fun i hi h2 => by rw [b9 i hi, b7 i (by omega), ← g6, zup_ne hi]
  have c3 : ∀ i, i ≠ c → i < c + 113 → H9 i = H3 i := fun i hi h2 => by rw [c5 i hi (by omega), b5 i (by omega), ← g4, zup_ne hi]
  have c1 : ∀ i, i ≠ c → i < c + 32 → H9 i = H1 i := fun i hi h2 => by rw [c3 i hi (by omega), b3 i (by omega), ← g2, zup_ne hi]
  obtain ⟨y1, y2, y3, y4⟩ := w3
  have ho : oth c (c + 33) = c + 4 := by unfold oth; rw [if_neg (by omega)]
  refine ⟨H9, ?_, ⟨⟨by rw [← g9]; exact zup_eq _ _ _, by rw [c3 _ (by omega) (by omega)]; exact y1, pl_fr y2 (fun i i1 i2 => c3 i (by omega) (by omega)), ss_fr y3 (fun i i1 i2 => c3 i (by omega) (by omega)), y4⟩, Or.inr rfl, by decide, hi_fr w5 (fun i i1 i2 => c5 i (by omega) (by omega)), fun i hi => absurd hi (Nat.not_lt_zero i)⟩, ⟨⟨0, -1, by rw [ho]; unfold wLd; rw [c1 _ (by omega) (by omega)]; exact w1⟩, R, by rw [ho]; exact wP_fr w1'' (fun i i1 i2 => c1 i (by omega) (by omega))⟩, in_fr w1' (fun i i1 i2 => c1 i (by omega) (by omega)), ?_, fun i hi => ?_⟩
  · unfold f_X7_init zchk zlet
    rw [if_pos ⟨by omega, by omega⟩]
    dsimp only
    rw [g1, if_pos ⟨by omega, by omega⟩, e1, zb2_some, p2', Option.bind_some, if_pos ⟨by omega, by omega⟩]
    rw [g3, if_pos ⟨by omega, by omega⟩, e3, zb2_some, p4', Option.bind_some, if_pos ⟨by omega, by omega⟩]
    rw [show c + 32 + 81 = c + 113 by omega, g5, if_pos ⟨by omega, by omega⟩, e5, zb2_some, p6', Option.bind_some, if_pos ⟨by omega, by omega⟩]
    rw [show c + 113 + 522 = c + 635 by omega, g7, if_pos ⟨by omega, by omega⟩, e7, zb2_some, p8', Option.bind_some, p9', Option.bind_some]
  · obtain ⟨⟨m, z1⟩, f, z2, z3, z4, z5⟩ := w7
    exact ⟨⟨m, by rw [b9 _ (by omega)]; exact z1⟩, f, by rw [b9 _ (by omega)]; exact z2, z3, z4, z5⟩
  · rw [b9 i (by omega), b7 i (by omega), ← g6, zup_ne (by omega), b5 i (by omega), ← g4, zup_ne (by omega), b3 i (by omega), ← g2, zup_ne (by omega), b1 i (by omega)]
end P82

