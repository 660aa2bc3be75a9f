/-! PURE: the class's StringBuilder -/
section P67
variable {hp h hp' : zHp} {a bs cap cnt sz mc ms k : Nat} {W W' : Nat → Int32} {v : Int32}
def bfit (v : Int32) : Prop := fits .byte (.int v) = true
theorem bfit_i8 (x : Int32) : bfit x.toInt8.toInt32 := by
  have h : ∀ y : Int8, bfit y.toInt32 := fun y => by
    unfold bfit fits
    have h1 := Int8.le_toInt y
    have h2 := Int8.toInt_lt y
    have e := Int8.toInt_toInt32 y
    rw [Bool.and_eq_true, decide_eq_true_eq, decide_eq_true_eq, Int32.le_iff_toInt_le, Int32.le_iff_toInt_le, e]
    exact ⟨by show (-128 : Int) ≤ _; omega, by show _ ≤ (127 : Int); omega⟩
  exact h _
theorem bfit_0 : bfit 0 := by unfold bfit; decide
theorem i8_lo {n : Nat} (h : n < 128) : (Int32.ofNat n).toInt8.toInt32 = Int32.ofNat n := by
  have t : ∀ n, n < 128 → (Int32.ofNat n).toInt8.toInt32 = Int32.ofNat n := by decide +kernel
  exact t n h
def wSB (hp : zHp) (a bs cap cnt : Nat) (W : Nat → Int32) : Prop := (∃ m, hp a = some (.inr (9, [.ref bs, .int 0, .int m, .int (Int32.ofNat cnt)]))) ∧ ∃ f, hp bs = some (.inl (1, cap, .inl f)) ∧ cnt ≤ cap ∧ (∀ j, j < cnt → f j = W j) ∧ ∀ j, j < cap → bfit (f j)
theorem sb_is (X : wSB hp a bs cap cnt W) : zis hp a 9 = some () := let ⟨⟨_, h⟩, _⟩ := X; po_is h
theorem sb_v (X : wSB hp a bs cap cnt W) : zgR hp a 9 0 = some bs := let ⟨⟨_, h⟩, _⟩ := X; po_R h rfl
theorem sb_co (X : wSB hp a bs cap cnt W) : zgI hp a 9 1 = some 0 := let ⟨⟨_, h⟩, _⟩ := X; po_I h rfl
theorem sb_n (X : wSB hp a bs cap cnt W) : zgI hp a 9 3 = some (Int32.ofNat cnt) := let ⟨⟨_, h⟩, _⟩ := X; po_I h rfl
theorem sb_len (X : wSB hp a bs cap cnt W) : zlen hp 1 bs = some (Int32.ofNat cap) := by
  obtain ⟨-, f, h, -⟩ := X
  unfold zlen
  rw [h]
  rfl
theorem sb_need (X : wSB hp a bs cap cnt W) (hc : cnt ≤ 1000) (k : Nat) : zneed hp a k = if cnt + k ≤ cap then (0, 0) else (1, 2 * cap + 2 + cnt + k) := by
  have h1 := sb_v X
  have h2 := sb_n X
  obtain ⟨-, f, h, -⟩ := X
  unfold zneed
  rw [h1, h2]
  dsimp only
  rw [h]
  dsimp only
  rw [pn_nat (by omega)]
theorem sh_z : (0 : Int32) &&& 31 = 0 := by decide
theorem shr0 (y : Int32) : y >>> ((0 : Int32) &&& 31) = y := by rw [sh_z]; exact Int32.shiftRight_zero
theorem shl0 (y : Int32) : y <<< ((0 : Int32) &&& 31) = y := by rw [sh_z]; exact Int32.shiftLeft_zero
theorem sub_no {m n : Nat} (hm : m ≤ n) (hn : n < 2147483648) : ¬ (0 : Int32) < Int32.ofNat m - Int32.ofNat n := by
  intro q
  have e : Int32.ofNat m - Int32.ofNat n + Int32.ofNat n = Int32.ofNat m := Int32.sub_add_cancel _ _
  obtain ⟨t, ht, hlt⟩ := pn_pos (x := Int32.ofNat m - Int32.ofNat n) (fun z => Int32.lt_irrefl (Int32.lt_trans q z))
  rw [ht] at e q
  have q0 : 0 < t := by rw [pn_0lt hlt] at q; exact q
  rw [ixa] at e
  have e2 : (Int32.ofNat (t + n)).toBitVec = (Int32.ofNat m).toBitVec := by rw [e]
  have e3 : (t + n) % 2 ^ 32 = m % 2 ^ 32 := by
    have := congrArg BitVec.toNat e2
    exact this
  omega
theorem sub_yes {m n : Nat} (hm : n < m) (hn : m < 2147483648) : (0 : Int32) < Int32.ofNat m - Int32.ofNat n := by
  rw [subN (by omega), pn_0lt (by omega)]
  omega
/-- where the bytes are after k more are wanted -/
def grown (cap cnt k sz bs : Nat) (bs' cap' sz' : Nat) : Prop := (cnt + k ≤ cap ∧ bs' = bs ∧ cap' = cap ∧ sz' = sz) ∨ (cap < cnt + k ∧ bs' = sz ∧ cap' = cap + max (cnt + k - cap) (cap + 2) ∧ sz' = sz + 1)
theorem B_ens (X : wSB hp a bs cap cnt W) (hk : k ≤ 1000) (hc : cnt ≤ 1000) (hcap : cap ≤ 3000) (ha : a < sz) (hb : bs < sz) (hab : a ≠ bs) (hm : cnt + k ≤ cap ∨ (1 ≤ mc ∧ (2 * cap + 2 ≤ ms ∧ cnt + k ≤ ms))) : ∃ h bs' cap' sz', f_J5_ensureCapacityInternal_d00df mc ms a (Int32.ofNat (cnt + k)) hp sz = some (h, sz') ∧ wSB h a bs' cap' cnt W ∧ grown cap cnt k sz bs bs' cap' sz' ∧ ∀ i, i < sz → i ≠ a → h i = hp i := by
  simp only [f_J5_ensureCapacityInternal_d00df, sb_is X, sb_v X, sb_len X, sb_co X, zlet, shr0, Option.bind_some]
  by_cases q : cnt + k ≤ cap
  · rw [if_neg (sub_no q (by omega))]
    exact ⟨hp, bs, cap, sz, rfl, X, Or.inl ⟨q, rfl, rfl, rfl⟩, fun _ _ _ => rfl⟩
  · rw [if_pos (sub_yes (by omega) (by omega))]
    obtain ⟨m1, m2⟩ := hm.resolve_left q
    obtain ⟨n', hn'⟩ : ∃ n', cap + max (cnt + k - cap) (cap + 2) = n' := ⟨_, rfl⟩
    have hn2 : n' ≤ 2 * cap + 2 + cnt + k ∧ cap < n' := by omega
    have nl : f_J8_newLength_cabcc (Int32.ofNat cap) (Int32.ofNat (cnt + k) - Int32.ofNat cap) (Int32.ofNat cap + ((2 : Int32) <<< ((0 : Int32) &&& 31))) hp = some (Int32.ofNat n') := by
      have e2 : Int32.ofNat cap + 2 = Int32.ofNat (cap + 2) := ixa cap 2
      have em : zmax (Int32.ofNat (cnt + k - cap)) (Int32.ofNat (cap + 2)) = Int32.ofNat (max (cnt + k - cap) (cap + 2)) := by
        unfold zmax
        by_cases c1 : cnt + k - cap < cap + 2
        · rw [if_pos (by rw [pn_lt (by omega) (by omega)]; exact c1), Nat.max_eq_right (by omega)]
        · rw [if_neg (by rw [pn_lt (by omega) (by omega)]; exact c1), Nat.max_eq_left (by omega)]
      simp only [f_J8_newLength_cabcc, shl0, subN (show cap ≤ cnt + k by omega), e2, em, ixa, hn', zlet]
      rw [if_pos (by rw [pn_0lt (by omega)]; omega), if_neg (by rw [show (2147483639 : Int32) = Int32.ofNat 2147483639 from rfl, pn_lt (by decide) (by omega)]; omega)]
    have nc : f_J5_newCapacity_0f7a4 a (Int32.ofNat (cnt + k)) hp = some (Int32.ofNat n') := by
      simp only [f_J5_newCapacity_0f7a4, sb_is X, sb_v X, sb_len X, sb_co X, zlet, shl0, shr0, nl, Option.bind_some]
      have hne : ¬ Int32.ofNat n' = 2147483647 := by
        rw [show (2147483647 : Int32) = Int32.ofNat 2147483647 from rfl, pn_inj (by omega) (by decide)]
        omega
      have nl' := nl
      rw [show ((2 : Int32) <<< ((0 : Int32) &&& 31)) = 2 from shl0 2] at nl'
      simp only [nl', Option.bind_some, hne, if_false]
    obtain ⟨⟨mm, X1⟩, f, X2, X3, X4, X5⟩ := X
    have XX : wSB hp a bs cap cnt W := ⟨⟨mm, X1⟩, f, X2, X3, X4, X5⟩
    have hcopy : ∃ h1 g, f_J7_copyOf_9075b mc ms bs (Int32.ofNat n') hp sz = some (sz, h1, sz + 1) ∧ h1 sz = some (.inl (1, n', .inl g)) ∧ (∀ j, j < cap → g j = f j) ∧ (∀ j, cap ≤ j → g j = 0) ∧ ∀ i, i ≠ sz → h1 i = hp i := by
      have z1 : zup hp sz (.inl (1, n', .inl (fun _ => 0))) bs = some (.inl (1, cap, .inl f)) := by rw [zup_ne (by omega)]; exact X2
      have ne : ¬ Int32.ofNat n' = Int32.ofNat cap := by rw [pn_inj (by omega) (by omega)]; omega
      have em : zmin (Int32.ofNat cap) (Int32.ofNat n') = Int32.ofNat cap := by
        unfold zmin
        rw [if_neg (by rw [pn_lt (by omega) (by omega)]; omega)]
      refine ⟨zup (zup hp sz (.inl (1, n', .inl (fun _ => 0)))) sz (.inl (1, n', .inl (va_cpy f (fun _ => 0) 0 0 cap))), va_cpy f (fun _ => 0) 0 0 cap, ?_, zup_eq _ _ _, fun j hj => ?_, fun j hj => ?_, fun i hi => by rw [zup_ne hi, zup_ne hi]⟩
      · unfold f_J7_copyOf_9075b
        rw [sb_len XX, Option.bind_some, if_neg ne]
        unfold zchk
        rw [if_pos ⟨pn_neg (by omega), by rw [pn_nat (by omega)]; omega, by omega, by rw [pn_nat (by omega)]; omega⟩]
        unfold zlet
        rw [pn_nat (by omega)]
        have l1 : zlen (zup hp sz (.inl (1, n', .inl (fun _ => 0)))) 1 bs = some (Int32.ofNat cap) := by
          unfold zlen
          rw [z1]
          rfl
        dsimp only
        rw [l1, Option.bind_some, em]
        have cb : zcpB (zup hp sz (.inl (1, n', .inl (fun _ => 0)))) bs 0 sz 0 (Int32.ofNat cap) = some (zup (zup hp sz (.inl (1, n', .inl (fun _ => 0)))) sz (.inl (1, n', .inl (va_cpy f (fun _ => 0) 0 0 cap)))) := by
          unfold zcpB
          rw [z1, zup_eq]
          dsimp only
          rw [pn_nat (by omega), if_pos ⟨Or.inl rfl, rfl, by decide, by decide, pn_neg (by omega), by show 0 + cap ≤ cap; omega, by show 0 + cap ≤ n'; omega, fun i hi => by show fits .byte (.int (f (0 + i))) = true; rw [Nat.zero_add]; exact X5 i hi⟩]
          rfl
        rw [cb, Option.bind_some]
      · unfold va_cpy
        rw [if_pos ⟨by omega, by omega⟩]
        congr 1
        omega
      · unfold va_cpy
        rw [if_neg (by omega)]
    obtain ⟨h1, g, c1, c2, c3, c4, c5⟩ := hcopy
    have Y1 : h1 a = some (.inr (9, [.ref bs, .int 0, .int mm, .int (Int32.ofNat cnt)])) := by rw [c5 a (by omega)]; exact X1
    have p1 := po_V Y1 (show 0 < 4 by decide) (.ref sz)
    refine ⟨zup h1 a (.inr (9, [.ref sz, .int 0, .int mm, .int (Int32.ofNat cnt)])), sz, n', sz + 1, ?_, ⟨⟨mm, zup_eq _ _ _⟩, g, by rw [zup_ne (by omega)]; exact c2, by omega, fun j hj => by rw [c3 j (by omega)]; exact X4 j hj, fun j hj => ?_⟩, Or.inr ⟨by omega, rfl, hn'.symm, rfl⟩, fun i hi hia => by rw [zup_ne hia, c5 i (by omega)]⟩
    · simp only [nc, shl0, Option.bind_some]
      unfold zchk
      rw [if_pos ⟨by omega, by omega⟩, c1]
      show ((zpV h1 a 9 0 (.ref sz)).bind fun h12 => some (h12, sz + 1)) = _
      rw [p1]
      rfl
    · by_cases q2 : j < cap
      · rw [c3 j q2]; exact X5 j q2
      · rw [c4 j (by omega)]; exact bfit_0
end P67

