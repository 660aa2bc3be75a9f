/-! PURE: a number is appended -/
section P69
variable {hp h hp' : zHp} {a bs cap cnt sz mc ms k r : Nat} {ro : Nat → Nat} {W W' : Nat → Int32} {v : Int32}
theorem nums_t : ∀ p, p < 73 → ∀ q, q < 100 →
    (decide ((-100 : Int32) < -(Int32.ofNat (100 * p + q))) = decide (100 * p + q < 100)) ∧ (-(Int32.ofNat (100 * p + q))) / 100 = -(Int32.ofNat p) ∧ (-(Int32.ofNat p)) * 100 - (-(Int32.ofNat (100 * p + q))) = Int32.ofNat q ∧
    (decide (-(Int32.ofNat (100 * p + q)) < (-9 : Int32)) = decide (9 < 100 * p + q)) ∧ (decide ((-10 : Int32) < -(Int32.ofNat (100 * p + q))) = decide (100 * p + q < 10)) ∧ (decide ((10 * (-10) : Int32) < -(Int32.ofNat (100 * p + q))) = decide (100 * p + q < 100)) ∧ (decide ((10 * (10 * (-10)) : Int32) < -(Int32.ofNat (100 * p + q))) = decide (100 * p + q < 1000)) ∧ (decide ((10 * (10 * (10 * (-10))) : Int32) < -(Int32.ofNat (100 * p + q))) = true) := by
  decide +kernel
theorem dec_eq {p q : Prop} [Decidable p] [Decidable q] (h : decide p = decide q) : p = q := propext ⟨fun z => of_decide_eq_true (h ▸ decide_eq_true z), fun z => of_decide_eq_true (h.symm ▸ decide_eq_true z)⟩
/-- the digits, as they are written -/
def dl (n : Nat) : List Nat := if n < 10 then [48 + n] else if n < 100 then [48 + n / 10, 48 + n % 10] else if n < 1000 then [48 + n / 100, 48 + n % 100 / 10, 48 + n % 10] else [48 + n / 1000, 48 + n / 100 % 10, 48 + n % 100 / 10, 48 + n % 10]
theorem dl_len (n : Nat) : (dl n).length ≤ 4 ∧ 1 ≤ (dl n).length := by unfold dl; (repeat' split) <;> simp
theorem n_size {n : Nat} (hn : n < 7300) : f_J6_stringSize_0f7a4 (Int32.ofNat n) hp = some (Int32.ofNat (dl n).length) := by
  obtain ⟨-, -, -, -, t1, t2, t3, t4⟩ := nums_t (n / 100) (by omega) (n % 100) (by omega)
  have e : 100 * (n / 100) + n % 100 = n := Nat.div_add_mod n 100
  rw [e] at t1 t2 t3 t4
  have t1 := dec_eq t1
  have t2 := dec_eq t2
  have t3 := dec_eq t3
  have t4 := of_decide_eq_true t4
  simp only [f_J6_stringSize_0f7a4, pn_neg (show n < 2147483648 by omega), if_false, zlet, j_J6_stringSize_0f7a4_11]
  unfold dl
  by_cases c1 : n < 10
  · simp only [l_J6_stringSize_0f7a4_16_s (n := 999999), b_J6_stringSize_0f7a4_16, show (1 : Int32) < 10 by decide, if_true, t1, c1]
    rfl
  · by_cases c2 : n < 100
    · simp only [l_J6_stringSize_0f7a4_16_s (n := 999999), l_J6_stringSize_0f7a4_16_s (n := 999998), b_J6_stringSize_0f7a4_16, show (1 : Int32) < 10 by decide, show (1 + 1 : Int32) < 10 by decide, if_true, t1, c1, if_false, zlet, t2, c2]
      rfl
    · by_cases c3 : n < 1000
      · simp only [l_J6_stringSize_0f7a4_16_s (n := 999999), l_J6_stringSize_0f7a4_16_s (n := 999998), l_J6_stringSize_0f7a4_16_s (n := 999997), b_J6_stringSize_0f7a4_16, show (1 : Int32) < 10 by decide, show (1 + 1 : Int32) < 10 by decide, show (1 + 1 + 1 : Int32) < 10 by decide, if_true, t1, c1, if_false, zlet, t2, c2, t3, c3]
        rfl
      · simp only [l_J6_stringSize_0f7a4_16_s (n := 999999), l_J6_stringSize_0f7a4_16_s (n := 999998), l_J6_stringSize_0f7a4_16_s (n := 999997), l_J6_stringSize_0f7a4_16_s (n := 999996), b_J6_stringSize_0f7a4_16, show (1 : Int32) < 10 by decide, show (1 + 1 : Int32) < 10 by decide, show (1 + 1 + 1 : Int32) < 10 by decide, show (1 + 1 + 1 + 1 : Int32) < 10 by decide, if_true, t1, c1, if_false, zlet, t2, c2, t3, c3, t4]
        rfl
/-- the tables of digits -/
def wDT (hp : zHp) (ro : Nat → Nat) : Prop := (∃ f, hp (ro 30) = some (.inl (11, 100, .inl f)) ∧ ∀ k, k < 100 → f k = Int32.ofNat (48 + k % 10)) ∧ ∃ f, hp (ro 31) = some (.inl (11, 100, .inl f)) ∧ ∀ k, k < 100 → f k = Int32.ofNat (48 + k / 10)
theorem dt_1 (X : wDT hp ro) (hk : k < 100) : zaI hp 1 (ro 30) (Int32.ofNat k) = some (Int32.ofNat (48 + k % 10)) := by
  obtain ⟨⟨f, h1, h2⟩, -⟩ := X
  rw [pa_rd h1 (Or.inr rfl) hk (by decide), h2 k hk]
theorem dt_2 (X : wDT hp ro) (hk : k < 100) : zaI hp 1 (ro 31) (Int32.ofNat k) = some (Int32.ofNat (48 + k / 10)) := by
  obtain ⟨-, f, h1, h2⟩ := X
  rw [pa_rd h1 (Or.inr rfl) hk (by decide), h2 k hk]
/-- one byte into the row of bytes at bs -/
def oneB (hp : zHp) (bs : Nat) (cap : Nat) (f : Nat → Int32) : Prop := hp bs = some (.inl (1, cap, .inl f))
theorem oneB_w {f : Nat → Int32} (X : oneB hp bs cap f) (T : wDT hp ro) (hk : k < cap) (hcap : cap < 2147483648) {n : Nat} (hn : n < 128) : ∃ h, zsB hp bs (Int32.ofNat k) (Int32.ofNat n) = some h ∧ oneB h bs cap (upd f k (Int32.ofNat n)) ∧ wDT h ro ∧ ∀ i, i ≠ bs → h i = hp i := by
  have e := pa_wrB X hk hcap (Int32.ofNat n)
  rw [i8_lo hn] at e
  have nb : ∀ f', hp bs ≠ some (.inl (11, 100, .inl f')) := fun f' q => by
    unfold oneB at X
    rw [X] at q
    injection q with q
    injection q with q
    injection q with q q2
    cases q
  refine ⟨_, e, zup_eq _ _ _, ?_, fun i hi => zup_ne hi⟩
  obtain ⟨⟨f1, h1, h2⟩, f3, h3, h4⟩ := T
  exact ⟨⟨f1, by rw [zup_ne (fun q => nb f1 (by rw [← q]; exact h1))]; exact h1, h2⟩, f3, by rw [zup_ne (fun q => nb f3 (by rw [← q]; exact h3))]; exact h3, h4⟩
theorem pred_n {n : Nat} (h : 0 < n) : Int32.ofNat n + -1 = Int32.ofNat (n - 1) := by
  obtain ⟨m, rfl⟩ : ∃ m, n = m + 1 := ⟨n - 1, by omega⟩
  rw [← Int32.sub_eq_add_neg, is1]
  rfl
end P69

