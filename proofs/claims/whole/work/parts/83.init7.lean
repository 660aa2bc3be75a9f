/-! PURE: the reference, new -/
section P83
variable {hp h hp' H1 : zHp} {x k z mc ms : Nat} {fs : List Value} {v : Value} {ob : zOb}
def f21 : List Value := [.int 0, .null, .int 0, .null, .null, .null, .null, .null, .int 0, .int 0, .int 0, .int 0, .int 0, .int 0, .int 0, .int 0, .int 0, .int 0, .int 0, .null, .int 0]
theorem nx8 (X : hp x = some (.inr (8, fs))) (hz : z ≠ x) (hk : k < fs.length) (v : Value) : ∃ H2, zpV (zup hp z ob) x 8 k v = some H2 ∧ H2 x = some (.inr (8, fs.set k v)) ∧ H2 z = some ob ∧ ∀ i, i ≠ x → i ≠ z → H2 i = hp i := by
  have x1 : zup hp z ob x = some (.inr (8, fs)) := by rw [zup_ne (fun q => hz q.symm)]; exact X
  exact ⟨_, po_V x1 hk v, zup_eq _ _ _, by rw [zup_ne hz]; exact zup_eq _ _ _, fun i h1 h2 => by rw [zup_ne h1, zup_ne h2]⟩
theorem nx8f (X : hp x = some (.inr (8, fs))) (hk : k < fs.length) (v : Value) : ∃ H2, zpV hp x 8 k v = some H2 ∧ H2 x = some (.inr (8, fs.set k v)) ∧ ∀ i, i ≠ x → H2 i = hp i := ⟨_, po_V X hk v, zup_eq _ _ _, fun i h1 => zup_ne h1⟩
theorem I8 (X : hp x = some (.inr (8, f21))) (hm : 7 ≤ mc) (hs : 7744 ≤ ms) : ∃ h F S, f_X8_init mc ms x hp (x + 1) = some (h, x + 8) ∧ wMF h x F S ∧ (F 0 = 0 ∧ F 2 = 0 ∧ F 8 = 0 ∧ F 16 = -1 ∧ F 20 = 0) ∧ S 2 = (fun _ => 0) ∧ S 4 = N0 ∧ zfr hp h x 8 := by
  obtain ⟨H1, e1, x1, c1, k1⟩ := nx8 (z := x + 1) (ob := .inl (0, 900, .inl (fun _ => 0))) X (by omega) (show 1 < 21 by decide) (.ref (x + 1))
  obtain ⟨H2, e2, x2, c2, k2⟩ := nx8 (z := x + 2) (ob := .inl (0, 144, .inl (fun _ => 0))) x1 (by omega) (show 3 < 21 by decide) (.ref (x + 2))
  obtain ⟨H3, e3, x3, c3, k3⟩ := nx8 (z := x + 3) (ob := .inl (0, 144, .inl (fun _ => 0))) x2 (by omega) (show 4 < 21 by decide) (.ref (x + 3))
  obtain ⟨H4, e4, x4, c4, k4⟩ := nx8 (z := x + 4) (ob := .inl (0, 538, .inl (fun _ => 0))) x3 (by omega) (show 5 < 21 by decide) (.ref (x + 4))
  obtain ⟨H5, e5, x5, c5, k5⟩ := nx8 (z := x + 5) (ob := .inl (0, 538, .inl (fun _ => 0))) x4 (by omega) (show 6 < 21 by decide) (.ref (x + 5))
  obtain ⟨H6, e6, x6, c6, k6⟩ := nx8 (z := x + 6) (ob := .inl (0, 5380, .inl (fun _ => 0))) x5 (by omega) (show 7 < 21 by decide) (.ref (x + 6))
  obtain ⟨H7, e7, x7, k7⟩ := nx8f x6 (show 16 < 21 by decide) (.int (-1))
  obtain ⟨H8, e8, x8, c8, k8⟩ := nx8 (z := x + 7) (ob := .inl (0, 100, .inl (fun _ => 0))) x7 (by omega) (show 19 < 21 by decide) (.ref (x + 7))
  have W : wMF H8 x (fun k => if k = 16 then -1 else 0) (fun _ _ => 0) := by
    refine ⟨x8, fun j h1 h7 => ?_⟩
    rcases (show j = 1 ∨ j = 2 ∨ j = 3 ∨ j = 4 ∨ j = 5 ∨ j = 6 ∨ j = 7 by omega) with rfl | rfl | rfl | rfl | rfl | rfl | rfl
    · rw [k8 _ (by omega) (by omega), k7 _ (by omega), k6 _ (by omega) (by omega), k5 _ (by omega) (by omega), k4 _ (by omega) (by omega), k3 _ (by omega) (by omega), k2 _ (by omega) (by omega)]; exact c1
    · rw [k8 _ (by omega) (by omega), k7 _ (by omega), k6 _ (by omega) (by omega), k5 _ (by omega) (by omega), k4 _ (by omega) (by omega), k3 _ (by omega) (by omega)]; exact c2
    · rw [k8 _ (by omega) (by omega), k7 _ (by omega), k6 _ (by omega) (by omega), k5 _ (by omega) (by omega), k4 _ (by omega) (by omega)]; exact c3
    · rw [k8 _ (by omega) (by omega), k7 _ (by omega), k6 _ (by omega) (by omega), k5 _ (by omega) (by omega)]; exact c4
    · rw [k8 _ (by omega) (by omega), k7 _ (by omega), k6 _ (by omega) (by omega)]; exact c5
    · rw [k8 _ (by omega) (by omega), k7 _ (by omega)]; exact c6
    · exact c8
  obtain ⟨h, eh, W2, f2⟩ := M_newHall W ⟨fun _ _ => rfl, fun _ _ => rfl⟩
  refine ⟨h, _, _, ?_, W2, ⟨rfl, rfl, rfl, rfl, rfl⟩, by rw [g1_ne _ _ (by decide), g1_self], by rw [g1_self], zfr_tr (fun i hi => by rw [k8 i (by omega) (by omega), k7 i (by omega), k6 i (by omega) (by omega), k5 i (by omega) (by omega), k4 i (by omega) (by omega), k3 i (by omega) (by omega), k2 i (by omega) (by omega), k1 i (by omega) (by omega)]) f2⟩
  have n900 : (900 : Int32).toNatClampNeg = 900 := rfl
  have n144 : (144 : Int32).toNatClampNeg = 144 := rfl
  have n538 : (538 : Int32).toNatClampNeg = 538 := rfl
  have n5380 : (5380 : Int32).toNatClampNeg = 5380 := rfl
  have n100 : (100 : Int32).toNatClampNeg = 100 := rfl
  unfold f_X8_init zchk zlet
  simp only [n900, n144, n538, n5380, n100, Nat.add_assoc, Nat.reduceAdd]
  rw [if_pos ⟨by decide, by omega, by omega, by omega⟩, e1, Option.bind_some]
  rw [if_pos ⟨by decide, by omega, by omega, by omega⟩, e2, Option.bind_some]
  rw [if_pos ⟨by decide, by omega, by omega, by omega⟩, e3, Option.bind_some]
  rw [if_pos ⟨by decide, by omega, by omega, by omega⟩, e4, Option.bind_some]
  rw [if_pos ⟨by decide, by omega, by omega, by omega⟩, e5, Option.bind_some]
  rw [if_pos ⟨by decide, by omega, by omega, by omega⟩, e6, Option.bind_some]
  rw [e7, Option.bind_some]
  rw [if_pos ⟨by decide, by omega, by omega, by omega⟩, e8, Option.bind_some]
  rw [eh, Option.bind_some]
end P83
