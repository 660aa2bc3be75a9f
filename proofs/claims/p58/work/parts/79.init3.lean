/-! PURE: a new history, input, StringBuilder -/
section P79
variable {hp h hp' : zHp} {a b c p q sz u mc ms : Nat}
def wHn (hp : zHp) (a i : Nat) : Prop := hp a = some (.inr (2, [.ref (a + 1), .int 0])) ∧ (∃ f : Nat → Option Nat, hp (a + 1) = some (.inl (4, 10, .inr (.inr (.inr (.inr f))))) ∧ ∀ j, j < i → f j = some (a + 2 + 52 * j)) ∧ ∀ j, j < i → ∃ G, wSt hp (a + 2 + 52 * j) G
theorem I2_loop {K : zHp → Nat → Nat → Nat → Option (zHp × Nat)} : ∀ (d i mm : Nat) (hp : zHp), i + d = 10 → d < mm → wHn hp a i → ∃ h, l_X2_init_15 521 6140 K a mm (Int32.ofNat i) hp (a + 2 + 52 * i) (1 + 52 * i) (10 + 613 * i) = K h (a + 522) 521 6140 ∧ wHn h a 10 ∧ zfr hp h a 522
  | 0, i, mm, hp, hi, hm, X => by
    obtain ⟨mm, rfl⟩ : ∃ q, mm = q + 1 := ⟨mm - 1, by omega⟩
    have e : i = 10 := by omega
    subst e
    refine ⟨hp, ?_, X, zfr_rf⟩
    rw [l_X2_init_15_s]
    unfold b_X2_init_15
    rw [if_neg (by decide)]
  | d + 1, i, mm, hp, hi, hm, X => by
    obtain ⟨mm, rfl⟩ : ∃ q, mm = q + 1 := ⟨mm - 1, by omega⟩
    obtain ⟨x1, ⟨f, x2, x3⟩, x6⟩ := X
    obtain ⟨z, hz⟩ : ∃ z, a + 2 + 52 * i = z := ⟨_, rfl⟩
    obtain ⟨H1, r1⟩ : ∃ H, zup hp z (.inr (6, [.null, .null, .null, .int 0, .int 0])) = H := ⟨_, rfl⟩
    obtain ⟨H2, G, e2, Y2, -, f2⟩ := I6 (hp := H1) (a := z) (by rw [← r1]; exact zup_eq _ _ _)
    have fr2 : ∀ k, k < z ∨ z + 52 ≤ k → H2 k = hp k := fun k hk => by rw [f2 k hk, ← r1, zup_ne (by omega)]
    have A2 : H2 (a + 1) = some (.inl (4, 10, .inr (.inr (.inr (.inr f))))) := by rw [fr2 _ (by omega)]; exact x2
    have B2 := Y2.1
    obtain ⟨H3, r3⟩ : ∃ H, zup H2 (a + 1) (.inl (4, 10, .inr (.inr (.inr (.inr (va_up f i (some z))))))) = H := ⟨_, rfl⟩
    have e3 : zsR H2 4 6 (a + 1) (Int32.ofNat i) z = some H3 := by
      unfold zsR
      rw [A2, B2]
      dsimp only
      rw [pn_nat (by omega), if_pos ⟨rfl, rfl, fun q => q.elim (fun q => pn_neg (by omega) q) (fun q => by omega)⟩, r3]
    have fr3 : ∀ k, (k < z ∨ z + 52 ≤ k) → k ≠ a + 1 → H3 k = hp k := fun k hk h1 => by rw [← r3, zup_ne h1]; exact fr2 k hk
    have X3 : wHn H3 a (i + 1) := by
      refine ⟨by rw [fr3 _ (by omega) (by omega)]; exact x1, ⟨va_up f i (some z), by rw [← r3]; exact zup_eq _ _ _, fun j hj => ?_⟩, fun j hj => ?_⟩
      · unfold va_up
        by_cases e : j = i
        · rw [if_pos e, ← hz, e]
        · rw [if_neg e]; exact x3 j (by omega)
      · by_cases e : j = i
        · subst e
          rw [hz]
          exact ⟨G, st_fr Y2 (fun k k1 k2 => by rw [← r3, zup_ne (by omega)])⟩
        · obtain ⟨G', g⟩ := x6 j (by omega)
          exact ⟨G', st_fr g (fun k k1 k2 => fr3 k (by omega) (by omega))⟩
    obtain ⟨h', i1, i2, i3⟩ := I2_loop (K := K) d (i + 1) mm H3 (by omega) (by omega) X3
    refine ⟨h', ?_, i2, zfr_tr (fun k hk => fr3 k (by omega) (by omega)) i3⟩
    have l12 : Int32.ofNat i < 10 := by rw [show (10 : Int32) = Int32.ofNat 10 from rfl, pn_lt (by omega) (by decide)]; omega
    rw [← i1, l_X2_init_15_s]
    unfold b_X2_init_15
    rw [if_pos l12, show zgR hp a 2 0 = some (a + 1) from po_R x1 rfl, Option.bind_some, hz]
    unfold zchk zlet zb2
    rw [if_pos ⟨by omega, by omega⟩]
    dsimp only
    rw [r1, if_pos ⟨by omega, by omega⟩, e2, Option.bind_some]
    dsimp only
    rw [e3, Option.bind_some, pn_succ]
    rw [show a + 2 + 52 * (i + 1) = z + 52 by omega, show 1 + 52 * (i + 1) = 1 + 52 * i + 1 + 51 by omega, show 10 + 613 * (i + 1) = 10 + 613 * i + 5 + 608 by omega]
theorem I2 (X : hp a = some (.inr (2, [.null, .int 0]))) : ∃ h, f_X2_init 521 6140 a hp (a + 1) = some (h, a + 522) ∧ wHi h a (fun i => i) 0 ∧ zfr hp h a 522 := by
  obtain ⟨H1, r1⟩ : ∃ H, zup hp (a + 1) (.inl (4, 10, .inr (.inr (.inr (.inr (fun _ => none)))))) = H := ⟨_, rfl⟩
  have x1 : H1 a = some (.inr (2, [.null, .int 0])) := by rw [← r1, zup_ne (by omega)]; exact X
  have p1 := po_V x1 (show 0 < 2 by decide) (.ref (a + 1))
  obtain ⟨H2, r2⟩ : ∃ H, zup H1 a (.inr (2, [.ref (a + 1), .int 0])) = H := ⟨_, rfl⟩
  have p1' : zpV H1 a 2 0 (.ref (a + 1)) = some H2 := by rw [← r2]; exact p1
  have S0 : wHn H2 a 0 := ⟨by rw [← r2]; exact zup_eq _ _ _, ⟨fun _ => none, by rw [← r2, zup_ne (by omega), ← r1]; exact zup_eq _ _ _, fun j hj => absurd hj (Nat.not_lt_zero j)⟩, fun j hj => absurd hj (Nat.not_lt_zero j)⟩
  obtain ⟨MM, hMM⟩ : ∃ MM : Nat, MM = 1000000 := ⟨_, rfl⟩
  obtain ⟨h7, e7, ⟨y1, ⟨f, y2, y3⟩, y6⟩, f7⟩ := I2_loop (K := fun h12 z13 c14 u15 => zchk (c14 ≤ 521 ∧ u15 ≤ 6140) <| some (h12, z13)) 10 0 MM H2 rfl (by omega) S0
  refine ⟨h7, ?_, ⟨y1, ⟨f, y2, fun i hi => y3 i hi⟩, fun i hi => hi, fun i j _ _ e => e, y6⟩, zfr_tr (fun i hi => by rw [← r2, zup_ne (by omega), ← r1, zup_ne (by omega)]) f7⟩
  unfold f_X2_init
  rw [← hMM]
  unfold zchk zlet
  rw [if_pos (by decide)]
  dsimp only
  rw [show zup hp (a + 1) (.inl (4, (10 : Int32).toNatClampNeg, .inr (.inr (.inr (.inr (fun _ => none)))))) = H1 from r1, p1', Option.bind_some]
  refine Eq.trans ?_ (e7.trans ?_)
  · rfl
  · unfold zchk
    rw [if_pos ⟨by omega, by omega⟩]
theorem I3 (X : hp a = some (.inr (3, [.null, .int 0, .int 0, .int 0, .int 0, .int 0]))) : ∃ h, f_X3_init 1 900 a hp (a + 1) = some (h, a + 2) ∧ wIn h a (fun _ => 0) (fun _ => 0) ∧ zfr hp h a 2 := by
  obtain ⟨H1, r1⟩ : ∃ H, zup hp (a + 1) (.inl (1, 900, .inl (fun _ => 0))) = H := ⟨_, rfl⟩
  have x1 : H1 a = some (.inr (3, [.null, .int 0, .int 0, .int 0, .int 0, .int 0])) := by rw [← r1, zup_ne (by omega)]; exact X
  have p1 := po_V x1 (show 0 < 6 by decide) (.ref (a + 1))
  obtain ⟨H2, r2⟩ : ∃ H, zup H1 a (.inr (3, [.ref (a + 1), .int 0, .int 0, .int 0, .int 0, .int 0])) = H := ⟨_, rfl⟩
  have p1' : zpV H1 a 3 0 (.ref (a + 1)) = some H2 := by rw [← r2]; exact p1
  refine ⟨H2, ?_, ⟨by rw [← r2]; exact zup_eq _ _ _, by rw [← r2, zup_ne (by omega), ← r1]; exact zup_eq _ _ _⟩, fun i hi => by rw [← r2, zup_ne (by omega), ← r1, zup_ne (by omega)]⟩
  unfold f_X3_init zchk zlet
  rw [if_pos (by decide)]
  dsimp only
  rw [show zup hp (a + 1) (.inl (1, (900 : Int32).toNatClampNeg, .inl (fun _ => 0))) = H1 from r1, p1', Option.bind_some]
theorem I9 (X : hp a = some (.inr (9, [.null, .int 0, .int 0, .int 0]))) : ∃ h, f_J4_init_da8c8 1 16 a hp (a + 1) = some (h, a + 2) ∧ wSB h a (a + 1) 16 0 (fun _ => 0) ∧ zfr hp h a 2 := by
  obtain ⟨H1, r1⟩ : ∃ H, zup hp (a + 1) (.inl (1, 16, .inl (fun _ => 0))) = H := ⟨_, rfl⟩
  have x1 : H1 a = some (.inr (9, [.null, .int 0, .int 0, .int 0])) := by rw [← r1, zup_ne (by omega)]; exact X
  have p1 := po_V x1 (show 0 < 4 by decide) (.ref (a + 1))
  obtain ⟨H2, r2⟩ : ∃ H, zup H1 a (.inr (9, [.ref (a + 1), .int 0, .int 0, .int 0])) = H := ⟨_, rfl⟩
  have p1' : zpV H1 a 9 0 (.ref (a + 1)) = some H2 := by rw [← r2]; exact p1
  have x2 : H2 a = some (.inr (9, [.ref (a + 1), .int 0, .int 0, .int 0])) := by rw [← r2]; exact zup_eq _ _ _
  have p2 := po_V x2 (show 1 < 4 by decide) (.int 0)
  obtain ⟨H3, r3⟩ : ∃ H, zup H2 a (.inr (9, [.ref (a + 1), .int 0, .int 0, .int 0])) = H := ⟨_, rfl⟩
  have p2' : zpB H2 a 9 1 0 = some H3 := by
    unfold zpB
    rw [if_pos (by decide), ← r3]; exact p2
  refine ⟨H3, ?_, ⟨⟨0, by rw [← r3]; exact zup_eq _ _ _⟩, fun _ => 0, by rw [← r3, zup_ne (by omega), ← r2, zup_ne (by omega), ← r1]; exact zup_eq _ _ _, by omega, fun j hj => absurd hj (Nat.not_lt_zero j), fun _ _ => bfit_0⟩, fun i hi => by rw [← r3, zup_ne (by omega), ← r2, zup_ne (by omega), ← r1, zup_ne (by omega)]⟩
  have q1 : f_J5_init_d00df 1 16 a 16 hp (a + 1) = some (H3, a + 2) := by
    unfold f_J5_init_d00df zchk zlet
    rw [if_neg (by decide), if_pos (by decide)]
    dsimp only
    rw [show zup hp (a + 1) (.inl (1, (16 : Int32).toNatClampNeg, .inl (fun _ => 0))) = H1 from r1, p1', Option.bind_some, p2', Option.bind_some]
  unfold f_J4_init_da8c8 zchk
  rw [if_pos (by decide), q1, zb2_some]
end P79

