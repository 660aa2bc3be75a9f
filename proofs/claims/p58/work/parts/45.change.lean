/-! PURE: public methods that change the state: class and reference alike -/
section P45
variable {hp h hp' : zHp} {x a a' q b u c p hl t : Nat} {ea : Int32} {S : Nat → Nat → Int32} {F T N N' R : Nat → Int32} {σ : Nat → Nat} {Ps : Nat → Nat → Int32}
theorem k_has3 (K : wK hp c (c + 1) hl (c + 113) (c + 635) p q ea T N) (y : Int32) : f_X5_has p 3 y hp = some (zb (inr y (sN T 3))) := c_has K.2.2.1 (s := 3) (by decide) y
theorem k_has4 (K : wK hp c (c + 1) hl (c + 113) (c + 635) p q ea T N) (y : Int32) : f_X5_has p 4 y hp = some (zb (inr y (sN T 4))) := c_has K.2.2.1 (s := 4) (by decide) y
theorem nB_z (hb : b < 12) (z : ∀ k, 538 ≤ k → N k = 0) : ∀ k, 538 ≤ k → nB N b R k = 0 := fun k hk => by rw [nB_hi hb hk]; exact z k hk
theorem wW_set' (W : wW h c p ea T N σ u Ps) {h0 h' : zHp} (f0 : zfr h0 h (c + 61) 574) (f : zfr h h' (c + 61) 52) (X : wSS h' (c + 61) T N') (I : sI T N') : wW h' c p ea T N' σ u Ps ∧ zfr h0 h' (c + 61) 574 := ⟨wW_set W f X I, zfr_tr f0 (zfr_wide f (by omega) (by omega))⟩
theorem e_in {k n : Nat} (hk : k < n) (hn : n < 2147483648) : (zb (inr (Int32.ofNat k) n) = 0) = False := by rw [inr_T hk hn]; exact eq_false (by decide)
theorem e_out {y : Int32} {n : Nat} (h : inr y n = false) : (zb (inr y n) = 0) = True := by rw [h]; exact eq_true rfl
theorem pn_12 {k : Nat} (hk : k ≤ 12) : (Int32.ofNat k < 12) = (k < 12) := pn_lt (n := 12) (by omega) (by decide)
theorem pn_12e {k : Nat} (hk : k ≤ 12) : (Int32.ofNat k = 12) = (k = 12) := pn_inj (n := 12) (by omega) (by decide)
theorem pn_4 {k : Nat} (hk : k ≤ 12) : (Int32.ofNat k < 4) = (k < 4) := pn_lt (n := 4) (by omega) (by decide)
theorem pn_4e {k : Nat} (hk : k ≤ 12) : (Int32.ofNat k = 4) = (k = 4) := pn_inj (n := 4) (by omega) (by decide)
/-- the box at a table, or none -/
theorem zoi_nm (I : sI T N) (y : Int32) : (sOn T N y = none ∧ zoi (sOn T N y) = -1) ∨ ∃ b, b < sN T 3 ∧ sOn T N y = some b ∧ zoi (sOn T N y) = Int32.ofNat b ∧ sF N b 0 = y := by
  cases h : sOn T N y with
  | none => exact Or.inl ⟨rfl, rfl⟩
  | some b =>
    have := zff_some h
    exact Or.inr ⟨b, by omega, rfl, rfl, of_decide_eq_true this.2.2.1⟩
end P45

