/-! PURE: a new state -/
section P78
variable {hp h hp' : zHp} {a b c p q sz u : Nat}
def sObj (a : Nat) : List Value := [.ref (a + 1), .ref (a + 2), .ref (a + 3), .int 0, .int 0]
/-- a state with its first i boxes -/
def wSn (hp : zHp) (a i : Nat) : Prop := hp a = some (.inr (6, sObj a)) ∧ (∃ f : Nat → Option Nat, hp (a + 1) = some (.inl (3, 12, .inr (.inr (.inr (.inr f))))) ∧ ∀ j, j < i → f j = some (a + 4 + 4 * j)) ∧ hp (a + 2) = some (.inl (0, 2, .inl (fun _ => 0))) ∧ hp (a + 3) = some (.inl (0, 6, .inl (fun _ => 0))) ∧ ∀ j, j < i → wBx hp (a + 4 + 4 * j) (fun _ _ => 0)
theorem I6_loop {K : zHp → Nat → Nat → Nat → Option (zHp × Nat)} : ∀ (d i mm : Nat) (hp : zHp), i + d = 12 → d < mm → wSn hp a i → ∃ h, l_X6_init_30 51 608 K a mm (Int32.ofNat i) hp (a + 4 + 4 * i) (3 + 4 * i) (20 + 49 * i) = K h (a + 52) 51 608 ∧ wSn h a 12 ∧ zfr hp h a 52
  | 0, i, mm, hp, hi, hm, X => by
    obtain ⟨mm, rfl⟩ : ∃ q, mm = q + 1 := ⟨mm - 1, by omega⟩
    have e : i = 12 := by omega
    subst e
    refine ⟨hp, ?_, X, zfr_rf⟩
    rw [l_X6_init_30_s]
    unfold b_X6_init_30
    rw [if_neg (by decide)]
  | d + 1, i, mm, hp, hi, hm, X => by
    obtain ⟨mm, rfl⟩ : ∃ q, mm = q + 1 := ⟨mm - 1, by omega⟩
    obtain ⟨x1, ⟨f, x2, x3⟩, x4, x5, x6⟩ := X
    obtain ⟨z, hz⟩ : ∃ z, a + 4 + 4 * i = z := ⟨_, rfl⟩
    obtain ⟨H1, r1⟩ : ∃ H, zup hp z (.inr (0, [.int 0, .int 0, .int 0, .int 0, .int 0, .int 0, .null, .null, .null])) = H := ⟨_, rfl⟩
    obtain ⟨H2, e2, Y2, f2⟩ := I0 (hp := H1) (a := z) (by rw [← r1]; exact zup_eq _ _ _)
    have fr2 : ∀ k, k < z ∨ z + 4 ≤ k → H2 k = hp k := fun k hk => by rw [f2 k hk, ← r1, zup_ne (by omega)]
    have A2 : H2 (a + 1) = some (.inl (3, 12, .inr (.inr (.inr (.inr f))))) := by rw [fr2 _ (by omega)]; exact x2
    have B2 : H2 z = some (.inr (0, zBf z (fun _ => 0))) := Y2.1
    obtain ⟨H3, r3⟩ : ∃ H, zup H2 (a + 1) (.inl (3, 12, .inr (.inr (.inr (.inr (va_up f i (some z))))))) = H := ⟨_, rfl⟩
    have e3 : zsR H2 3 0 (a + 1) (Int32.ofNat i) z = some H3 := by
      unfold zsR
      rw [A2, B2]
      dsimp only
      rw [pn_nat (by omega), if_pos ⟨rfl, rfl, fun q => q.elim (fun q => pn_neg (by omega) q) (fun q => by omega)⟩, r3]
    have fr3 : ∀ k, (k < z ∨ z + 4 ≤ k) → k ≠ a + 1 → H3 k = hp k := fun k hk h1 => by rw [← r3, zup_ne h1]; exact fr2 k hk
    have X3 : wSn H3 a (i + 1) := by
      refine ⟨by rw [fr3 _ (by omega) (by omega)]; exact x1, ⟨va_up f i (some z), by rw [← r3]; exact zup_eq _ _ _, fun j hj => ?_⟩, by rw [fr3 _ (by omega) (by omega)]; exact x4, by rw [fr3 _ (by omega) (by omega)]; exact x5, fun j hj => ?_⟩
      · unfold va_up
        by_cases e : j = i
        · rw [if_pos e, ← hz, e]
        · rw [if_neg e]; exact x3 j (by omega)
      · by_cases e : j = i
        · subst e
          rw [hz]
          exact bx_fr Y2 (fun k k1 k2 => by rw [← r3, zup_ne (by omega)])
        · exact bx_fr (x6 j (by omega)) (fun k k1 k2 => fr3 k (by omega) (by omega))
    obtain ⟨h', i1, i2, i3⟩ := I6_loop (K := K) d (i + 1) mm H3 (by omega) (by omega) X3
    refine ⟨h', ?_, i2, zfr_tr (fun k hk => fr3 k (by omega) (by omega)) i3⟩
    have l12 : Int32.ofNat i < 12 := by rw [show (12 : Int32) = Int32.ofNat 12 from rfl, pn_lt (by omega) (by decide)]; omega
    rw [← i1, l_X6_init_30_s]
    unfold b_X6_init_30
    rw [if_pos l12, show zgR hp a 6 0 = some (a + 1) from po_R x1 rfl, Option.bind_some, hz]
    unfold zchk zlet zb2
    rw [if_pos ⟨by omega, by omega⟩]
    dsimp only
    rw [r1, if_pos ⟨by omega, by omega⟩, e2, Option.bind_some]
    dsimp only
    rw [e3, Option.bind_some, pn_succ]
    congr 1 <;> omega
theorem I6 (X : hp a = some (.inr (6, [.null, .null, .null, .int 0, .int 0]))) : ∃ h G, f_X6_init 51 608 a hp (a + 1) = some (h, a + 52) ∧ wSt h a G ∧ (G 12 0 0 = 5 ∧ G 12 0 1 = 0 ∧ G 12 2 3 = 0 ∧ G 12 2 4 = 5000) ∧ zfr hp h a 52 := by
  obtain ⟨H1, r1⟩ : ∃ H, zup hp (a + 1) (.inl (3, 12, .inr (.inr (.inr (.inr (fun _ => none)))))) = H := ⟨_, rfl⟩
  have x1 : H1 a = some (.inr (6, [.null, .null, .null, .int 0, .int 0])) := by rw [← r1, zup_ne (by omega)]; exact X
  have p1 := po_V x1 (show 0 < 5 by decide) (.ref (a + 1))
  obtain ⟨H2, r2⟩ : ∃ H, zup H1 a (.inr (6, [.ref (a + 1), .null, .null, .int 0, .int 0])) = H := ⟨_, rfl⟩
  have p1' : zpV H1 a 6 0 (.ref (a + 1)) = some H2 := by rw [← r2]; exact p1
  obtain ⟨H3, r3⟩ : ∃ H, zup H2 (a + 1 + 1) (.inl (0, 2, .inl (fun _ => 0))) = H := ⟨_, rfl⟩
  have x3 : H3 a = some (.inr (6, [.ref (a + 1), .null, .null, .int 0, .int 0])) := by rw [← r3, zup_ne (by omega), ← r2]; exact zup_eq _ _ _
  have p3 := po_V x3 (show 1 < 5 by decide) (.ref (a + 1 + 1))
  obtain ⟨H4, r4⟩ : ∃ H, zup H3 a (.inr (6, [.ref (a + 1), .ref (a + 1 + 1), .null, .int 0, .int 0])) = H := ⟨_, rfl⟩
  have p3' : zpV H3 a 6 1 (.ref (a + 1 + 1)) = some H4 := by rw [← r4]; exact p3
  obtain ⟨H5, r5⟩ : ∃ H, zup H4 (a + 1 + 1 + 1) (.inl (0, 6, .inl (fun _ => 0))) = H := ⟨_, rfl⟩
  have x5 : H5 a = some (.inr (6, [.ref (a + 1), .ref (a + 1 + 1), .null, .int 0, .int 0])) := by rw [← r5, zup_ne (by omega), ← r4]; exact zup_eq _ _ _
  have p5 := po_V x5 (show 2 < 5 by decide) (.ref (a + 1 + 1 + 1))
  obtain ⟨H6, r6⟩ : ∃ H, zup H5 a (.inr (6, sObj a)) = H := ⟨_, rfl⟩
  have p5' : zpV H5 a 6 2 (.ref (a + 1 + 1 + 1)) = some H6 := by rw [← r6]; exact p5
  have fr : ∀ i, i ≠ a → H6 i = if i = a + 3 then some (.inl (0, 6, .inl (fun _ => 0))) else if i = a + 2 then some (.inl (0, 2, .inl (fun _ => 0))) else if i = a + 1 then some (.inl (3, 12, .inr (.inr (.inr (.inr (fun _ => none)))))) else hp i := fun i hi => by
    rw [← r6, zup_ne hi, ← r5]
    by_cases i3 : i = a + 3
    · rw [if_pos i3, i3]; exact zup_eq _ _ _
    · rw [zup_ne (by omega), if_neg i3, ← r4, zup_ne hi, ← r3]
      by_cases i2 : i = a + 2
      · rw [if_pos i2, i2]; exact zup_eq _ _ _
      · rw [zup_ne (by omega), if_neg i2, ← r2, zup_ne hi, ← r1]
        by_cases i1 : i = a + 1
        · rw [if_pos i1, i1]; exact zup_eq _ _ _
        · rw [zup_ne i1, if_neg i1]
  have S0 : wSn H6 a 0 := ⟨by rw [← r6]; exact zup_eq _ _ _, ⟨fun _ => none, by rw [fr _ (by omega), if_neg (by omega), if_neg (by omega), if_pos rfl], fun j hj => absurd hj (Nat.not_lt_zero j)⟩, by rw [fr _ (by omega), if_neg (by omega), if_pos rfl], by rw [fr _ (by omega), if_pos rfl], fun j hj => absurd hj (Nat.not_lt_zero j)⟩
  obtain ⟨MM, hMM⟩ : ∃ MM : Nat, MM = 1000000 := ⟨_, rfl⟩
  obtain ⟨h7, e7, ⟨y1, ⟨f, y2, y3⟩, y4, y5, y6⟩, f7⟩ := I6_loop (K := fun h18 z19 c20 u21 => (zgR h18 a 6 1).bind fun r22 => (zsI h18 r22 (0 : Int32) (5 : Int32)).bind fun h23 => (zgR h23 a 6 1).bind fun r24 => (zsI h23 r24 (1 : Int32) (0 : Int32)).bind fun h25 => (zpV h25 a 6 4 (.int (5000 : Int32))).bind fun h26 => zchk (c20 ≤ 51 ∧ u21 ≤ 608) <| some (h26, z19)) 12 0 MM H6 rfl (by omega) S0
  have Y7 : wSt h7 a (fun _ _ _ => 0) := ⟨y1, ⟨f, y2, y3⟩, y4, y5, y6⟩
  obtain ⟨h8, e8, X8, f8⟩ := st_setA Y7 (j := 0) (k := 0) (by decide) (by decide) 5
  obtain ⟨h9, e9, X9, f9⟩ := st_setA X8 (j := 0) (k := 1) (by decide) (by decide) 0
  obtain ⟨h10, e10, X10, f10⟩ := st_setF X9 (k := 4) (Or.inr rfl) 5000
  refine ⟨h10, _, ?_, X10, ?_, zfr_tr (zfr_tr (zfr_tr (zfr_tr (fun i hi => by rw [fr i (by omega), if_neg (by omega), if_neg (by omega), if_neg (by omega)]) f7) f8) f9) f10⟩
  rotate_left
  · refine ⟨?_, ?_, ?_, ?_⟩ <;> simp [g1_self, w2_at]
  unfold f_X6_init
  rw [← hMM]
  unfold zchk zlet
  rw [if_pos (by decide)]
  dsimp only
  rw [show zup hp (a + 1) (.inl (3, (12 : Int32).toNatClampNeg, .inr (.inr (.inr (.inr (fun _ => none)))))) = H1 from r1, p1', Option.bind_some, if_pos (by decide)]
  rw [show zup H2 (a + 1 + 1) (.inl (0, (2 : Int32).toNatClampNeg, .inl (fun _ => 0))) = H3 from r3, p3', Option.bind_some, if_pos (by decide)]
  rw [show zup H4 (a + 1 + 1 + 1) (.inl (0, (6 : Int32).toNatClampNeg, .inl (fun _ => 0))) = H5 from r5, p5', Option.bind_some]
  refine Eq.trans ?_ (e7.trans ?_)
  · rfl
  · simp only [st_set Y7, show zsI h7 (a + 2) 0 5 = some h8 from e8, st_set X8, show zsI h8 (a + 2) 1 0 = some h9 from e9, e10, Option.bind_some]
    unfold zchk
    rw [if_pos ⟨by omega, by omega⟩]
end P78

