/-! PURE: a new plan -/
section P80
variable {hp h hp' H1 : zHp} {a b c p q sz u mc ms k lo hi : Nat} {fs : List Value} {v : Value}
theorem nx (x : hp a = some (.inr (5, fs))) (hf : ∀ i, ¬ (lo ≤ i ∧ i < hi) → H1 i = hp i) (ha : a < lo) (hk : k < fs.length) (v : Value) : ∃ H2, zpV H1 a 5 k v = some H2 ∧ H2 a = some (.inr (5, fs.set k v)) ∧ (∀ i, i ≠ a → H2 i = H1 i) ∧ ∀ i, i ≠ a → ¬ (lo ≤ i ∧ i < hi) → H2 i = hp i := by
  have x1 : H1 a = some (.inr (5, fs)) := by rw [hf a (by omega)]; exact x
  exact ⟨_, po_V x1 hk v, zup_eq _ _ _, fun i hi => zup_ne hi, fun i hi h2 => by rw [zup_ne hi]; exact hf i h2⟩
theorem zup_f {z : Nat} {ob : zOb} : ∀ i, ¬ (z ≤ i ∧ i < z + 1) → zup hp z ob i = hp i := fun i hi => zup_ne (by omega)
theorem zmna_f {z n m : Nat} : ∀ i, ¬ (z ≤ i ∧ i < z + 1 + n) → zmna hp z n m i = hp i := fun i hi => by
  unfold zmna
  rw [if_neg (by omega), if_neg (by omega)]
theorem zmna_0 {z n m : Nat} : zmna hp z n m z = some (.inl (5, n, .inr (.inr (.inr (.inr (fun i => if i < n then some (z + 1 + i) else none)))))) := by
  unfold zmna
  rw [if_pos rfl]
theorem zmna_1 {z n m i : Nat} (hi : i < n) : zmna hp z n m (z + 1 + i) = some (.inl (0, m, .inl (fun _ => 0))) := by
  unfold zmna
  rw [if_neg (by omega), if_pos ⟨by omega, by omega⟩]
theorem I5 (X : hp a = some (.inr (5, [.null, .null, .null, .null, .null, .null, .null, .null, .null, .null]))) : ∃ h R, f_X5_init 27 207 a hp (a + 1) = some (h, a + 28) ∧ wP h a R ∧ (∀ j k, R j k = 0) ∧ zfr hp h a 28 := by
  obtain ⟨G1, g1⟩ : ∃ G, zup hp (a + 1) (.inl (0, 5, .inl (fun _ => 0))) = G := ⟨_, rfl⟩
  have fg1 : ∀ i, ¬ (a + 1 ≤ i ∧ i < a + 1 + 1) → G1 i = hp i := by rw [← g1]; exact zup_f
  obtain ⟨H1, e1, x1, k1, f1⟩ := nx X fg1 (by omega) (show 0 < 10 by decide) (.ref (a + 1))
  obtain ⟨G2, g2⟩ : ∃ G, zmna H1 (a + 2) 5 12 = G := ⟨_, rfl⟩
  have fg2 : ∀ i, ¬ (a + 2 ≤ i ∧ i < a + 2 + 1 + 5) → G2 i = H1 i := by rw [← g2]; exact zmna_f
  obtain ⟨H2, e2, x2, k2, f2⟩ := nx x1 fg2 (by omega) (show 1 < 10 by decide) (.ref (a + 2))
  obtain ⟨G3, g3⟩ : ∃ G, zup H2 (a + 8) (.inl (0, 5, .inl (fun _ => 0))) = G := ⟨_, rfl⟩
  have fg3 : ∀ i, ¬ (a + 8 ≤ i ∧ i < a + 8 + 1) → G3 i = H2 i := by rw [← g3]; exact zup_f
  obtain ⟨H3, e3, x3, k3, f3⟩ := nx x2 fg3 (by omega) (show 2 < 10 by decide) (.ref (a + 8))
  obtain ⟨G4, g4⟩ : ∃ G, zup H3 (a + 9) (.inl (0, 6, .inl (fun _ => 0))) = G := ⟨_, rfl⟩
  have fg4 : ∀ i, ¬ (a + 9 ≤ i ∧ i < a + 9 + 1) → G4 i = H3 i := by rw [← g4]; exact zup_f
  obtain ⟨H4, e4, x4, k4, f4⟩ := nx x3 fg4 (by omega) (show 3 < 10 by decide) (.ref (a + 9))
  obtain ⟨G5, g5⟩ : ∃ G, zup H4 (a + 10) (.inl (0, 12, .inl (fun _ => 0))) = G := ⟨_, rfl⟩
  have fg5 : ∀ i, ¬ (a + 10 ≤ i ∧ i < a + 10 + 1) → G5 i = H4 i := by rw [← g5]; exact zup_f
  obtain ⟨H5, e5, x5, k5, f5⟩ := nx x4 fg5 (by omega) (show 4 < 10 by decide) (.ref (a + 10))
  obtain ⟨G6, g6⟩ : ∃ G, zup H5 (a + 11) (.inl (0, 12, .inl (fun _ => 0))) = G := ⟨_, rfl⟩
  have fg6 : ∀ i, ¬ (a + 11 ≤ i ∧ i < a + 11 + 1) → G6 i = H5 i := by rw [← g6]; exact zup_f
  obtain ⟨H6, e6, x6, k6, f6⟩ := nx x5 fg6 (by omega) (show 5 < 10 by decide) (.ref (a + 11))
  obtain ⟨G7, g7⟩ : ∃ G, zup H6 (a + 12) (.inl (0, 12, .inl (fun _ => 0))) = G := ⟨_, rfl⟩
  have fg7 : ∀ i, ¬ (a + 12 ≤ i ∧ i < a + 12 + 1) → G7 i = H6 i := by rw [← g7]; exact zup_f
  obtain ⟨H7, e7, x7, k7, f7⟩ := nx x6 fg7 (by omega) (show 6 < 10 by decide) (.ref (a + 12))
  obtain ⟨G8, g8⟩ : ∃ G, zmna H7 (a + 13) 12 6 = G := ⟨_, rfl⟩
  have fg8 : ∀ i, ¬ (a + 13 ≤ i ∧ i < a + 13 + 1 + 12) → G8 i = H7 i := by rw [← g8]; exact zmna_f
  obtain ⟨H8, e8, x8, k8, f8⟩ := nx x7 fg8 (by omega) (show 7 < 10 by decide) (.ref (a + 13))
  obtain ⟨G9, g9⟩ : ∃ G, zup H8 (a + 26) (.inl (0, 4, .inl (fun _ => 0))) = G := ⟨_, rfl⟩
  have fg9 : ∀ i, ¬ (a + 26 ≤ i ∧ i < a + 26 + 1) → G9 i = H8 i := by rw [← g9]; exact zup_f
  obtain ⟨H9, e9, x9, k9, f9⟩ := nx x8 fg9 (by omega) (show 8 < 10 by decide) (.ref (a + 26))
  obtain ⟨G10, g10⟩ : ∃ G, zup H9 (a + 27) (.inl (0, 2, .inl (fun _ => 0))) = G := ⟨_, rfl⟩
  have fg10 : ∀ i, ¬ (a + 27 ≤ i ∧ i < a + 27 + 1) → G10 i = H9 i := by rw [← g10]; exact zup_f
  obtain ⟨H10, e10, x10, k10, f10⟩ := nx x9 fg10 (by omega) (show 9 < 10 by decide) (.ref (a + 27))
  have P : wP H10 a (fun _ _ => 0) := by
    refine ⟨x10, ⟨_, by rw [f10 _ (by omega) (by omega), f9 _ (by omega) (by omega), f8 _ (by omega) (by omega), f7 _ (by omega) (by omega), f6 _ (by omega) (by omega), f5 _ (by omega) (by omega), f4 _ (by omega) (by omega), f3 _ (by omega) (by omega), k2 _ (by omega), ← g2]; exact zmna_0, fun i hi => ?_⟩, ⟨_, by rw [f10 _ (by omega) (by omega), f9 _ (by omega) (by omega), k8 _ (by omega), ← g8]; exact zmna_0, fun i hi => ?_⟩, fun j hj => ?_⟩
    · rw [if_pos hi]
    · rw [if_pos hi]
    · have hj2 : j = 1 ∨ (3 ≤ j ∧ j ≤ 7) ∨ j = 8 ∨ j = 9 ∨ j = 10 ∨ j = 11 ∨ j = 12 ∨ (14 ≤ j ∧ j ≤ 25) ∨ j = 26 ∨ j = 27 := by unfold pCell at hj; omega
      rcases hj2 with rfl | hj3 | rfl | rfl | rfl | rfl | rfl | hj3 | rfl | rfl
      · rw [f10 _ (by omega) (by omega), f9 _ (by omega) (by omega), f8 _ (by omega) (by omega), f7 _ (by omega) (by omega), f6 _ (by omega) (by omega), f5 _ (by omega) (by omega), f4 _ (by omega) (by omega), f3 _ (by omega) (by omega), f2 _ (by omega) (by omega), k1 _ (by omega), ← g1]; exact zup_eq _ _ _
      · obtain ⟨i, rfl⟩ : ∃ i, j = 3 + i := ⟨j - 3, by omega⟩
        rw [show a + (3 + i) = a + 2 + 1 + i by omega, f10 _ (by omega) (by omega), f9 _ (by omega) (by omega), f8 _ (by omega) (by omega), f7 _ (by omega) (by omega), f6 _ (by omega) (by omega), f5 _ (by omega) (by omega), f4 _ (by omega) (by omega), f3 _ (by omega) (by omega), k2 _ (by omega), ← g2, zmna_1 (by omega)]
        rcases (show i = 0 ∨ i = 1 ∨ i = 2 ∨ i = 3 ∨ i = 4 by omega) with rfl | rfl | rfl | rfl | rfl <;> rfl
      · rw [f10 _ (by omega) (by omega), f9 _ (by omega) (by omega), f8 _ (by omega) (by omega), f7 _ (by omega) (by omega), f6 _ (by omega) (by omega), f5 _ (by omega) (by omega), f4 _ (by omega) (by omega), k3 _ (by omega), ← g3]; exact zup_eq _ _ _
      · rw [f10 _ (by omega) (by omega), f9 _ (by omega) (by omega), f8 _ (by omega) (by omega), f7 _ (by omega) (by omega), f6 _ (by omega) (by omega), f5 _ (by omega) (by omega), k4 _ (by omega), ← g4]; exact zup_eq _ _ _
      · rw [f10 _ (by omega) (by omega), f9 _ (by omega) (by omega), f8 _ (by omega) (by omega), f7 _ (by omega) (by omega), f6 _ (by omega) (by omega), k5 _ (by omega), ← g5]; exact zup_eq _ _ _
      · rw [f10 _ (by omega) (by omega), f9 _ (by omega) (by omega), f8 _ (by omega) (by omega), f7 _ (by omega) (by omega), k6 _ (by omega), ← g6]; exact zup_eq _ _ _
      · rw [f10 _ (by omega) (by omega), f9 _ (by omega) (by omega), f8 _ (by omega) (by omega), k7 _ (by omega), ← g7]; exact zup_eq _ _ _
      · obtain ⟨i, rfl⟩ : ∃ i, j = 14 + i := ⟨j - 14, by omega⟩
        rw [show a + (14 + i) = a + 13 + 1 + i by omega, f10 _ (by omega) (by omega), f9 _ (by omega) (by omega), k8 _ (by omega), ← g8, zmna_1 (by omega)]
        have : pLen (14 + i) = 6 := by unfold pLen; rw [if_neg (by omega), if_neg (by omega), if_neg (by omega), if_pos (by omega)]
        rw [this]
      · rw [f10 _ (by omega) (by omega), k9 _ (by omega), ← g9]; exact zup_eq _ _ _
      · rw [k10 _ (by omega), ← g10]; exact zup_eq _ _ _
  refine ⟨H10, _, ?_, P, fun _ _ => rfl, fun i hi => by rw [f10 i (by omega) (by omega), f9 i (by omega) (by omega), f8 i (by omega) (by omega), f7 i (by omega) (by omega), f6 i (by omega) (by omega), f5 i (by omega) (by omega), f4 i (by omega) (by omega), f3 i (by omega) (by omega), f2 i (by omega) (by omega), f1 i (by omega) (by omega)]⟩
  have n5 : (5 : Int32).toNatClampNeg = 5 := rfl
  have n12 : (12 : Int32).toNatClampNeg = 12 := rfl
  have n6 : (6 : Int32).toNatClampNeg = 6 := rfl
  have n4 : (4 : Int32).toNatClampNeg = 4 := rfl
  have n2 : (2 : Int32).toNatClampNeg = 2 := rfl
  unfold f_X5_init zchk zlet
  simp only [n5, n12, n6, n4, n2, Nat.add_assoc, Nat.reduceAdd, Nat.reduceMul]
  rw [if_pos (by decide), g1, e1, Option.bind_some]
  rw [if_pos (by decide), g2, e2, Option.bind_some]
  rw [if_pos (by decide), g3, e3, Option.bind_some]
  rw [if_pos (by decide), g4, e4, Option.bind_some]
  rw [if_pos (by decide), g5, e5, Option.bind_some]
  rw [if_pos (by decide), g6, e6, Option.bind_some]
  rw [if_pos (by decide), g7, e7, Option.bind_some]
  rw [if_pos (by decide), g8, e8, Option.bind_some]
  rw [if_pos (by decide), g9, e9, Option.bind_some]
  rw [if_pos (by decide), g10, e10, Option.bind_some]
end P80

