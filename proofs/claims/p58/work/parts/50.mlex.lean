/-! PURE: the reference's tokens -/
section P50
variable {hp h hp' : zHp} {x a c L i : Nat} {S : Nat → Nat → Int32} {F I Bt : Nat → Int32} {β : Nat → Nat}
def rT (k : Nat) : Int32 := if k = 0 then 3 else if k = 1 then 0 else if k = 2 then 1 else if k = 3 then 2 else 4
/-- the reference's number, digit by digit -/
def rvl (β : Nat → Nat) (s : Nat) : Nat → Nat
  | 0 => 0
  | k + 1 => if 100000 < rvl β s k then rvl β s k else 10 * rvl β s k + β (s + k) - 48
theorem dig_in {n : Nat} (h : dig n = true) : 48 ≤ n ∧ n ≤ 57 := by
  unfold dig at h
  simpa using h
theorem sml_in {n : Nat} (h : sml n = true) : 97 ≤ n ∧ n ≤ 122 := by
  unfold sml at h
  simpa using h
theorem rvl_le {β : Nat → Nat} {s : Nat} : ∀ k, (∀ j, j < k → dig (β (s + j)) = true) → rvl β s k ≤ 1000009
  | 0, _ => by show (0 : Nat) ≤ _; omega
  | k + 1, h => by
    have ih := rvl_le k (fun j hj => h j (by omega))
    have hd := dig_in (h k (by omega))
    unfold rvl
    split <;> omega
def rBy (S : Nat → Nat → Int32) (β : Nat → Nat) (L : Nat) : Prop := L ≤ 900 ∧ ∀ j, j < L → S 1 j = Int32.ofNat (β j) ∧ β j < 256
theorem q_F (W : wMF hp x F S) {k : Nat} (hk : k = 0 ∨ k = 2 ∨ (8 ≤ k ∧ k ≤ 18) ∨ k = 20) : zgI hp x 8 k = some (F k) := by
  refine po_I W.1 ?_
  rcases hk with rfl | rfl | ⟨h1, h2⟩ | rfl
  · rfl
  · rfl
  · rcases (show k = 8 ∨ k = 9 ∨ k = 10 ∨ k = 11 ∨ k = 12 ∨ k = 13 ∨ k = 14 ∨ k = 15 ∨ k = 16 ∨ k = 17 ∨ k = 18 by omega) with rfl | rfl | rfl | rfl | rfl | rfl | rfl | rfl | rfl | rfl | rfl <;> rfl
  · rfl
theorem q_by (W : wMF hp x F S) : zgR hp x 8 1 = some (x + 1) := po_R W.1 rfl
def kS (v : Int32) : Int32 := if v < 97 then 0 else if 122 < v then 0 else 1
def kD (v : Int32) : Int32 := if v < 48 then 0 else if 57 < v then 0 else 1
theorem kS_n {n : Nat} (h : n < 256) : kS (Int32.ofNat n) = zb (sml n) := by
  have t : ∀ n, n < 256 → kS (Int32.ofNat n) = zb (sml n) := by decide +kernel
  exact t n h
theorem kD_n {n : Nat} (h : n < 256) : kD (Int32.ofNat n) = zb (dig n) := by
  have t : ∀ n, n < 256 → kD (Int32.ofNat n) = zb (dig n) := by decide +kernel
  exact t n h
/-- the reference's token -/
def rTok (F : Nat → Int32) (β : Nat → Nat) (L i : Nat) : Prop := F 9 = Int32.ofNat L ∧ F 10 = Int32.ofNat (tE β L i) ∧ F 11 = Int32.ofNat (tS β L i) ∧ F 12 = rT (tK β L i) ∧ (tK β L i = 2 → F 13 = Int32.ofNat (rvl β (tS β L i) (tE β L i - tS β L i)))
end P50

