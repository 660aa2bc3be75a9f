/-! PURE: names are written -/
section P72
variable {hp h hp' : zHp} {a bs cap cnt sz mc ms k r c x B0 : Nat} {ro : Nat → Nat} {W W' f F0 F : Nat → Int32} {S0 S : Nat → Nat → Int32} {v : Int32} {l m : List Nat}
theorem and_31 (v : Int32) : ∃ n, n < 32 ∧ v &&& 31 = Int32.ofNat n := by
  have hlt : (v.toBitVec &&& 31).toNat < 32 := by
    rw [BitVec.toNat_and]
    exact Nat.lt_of_le_of_lt Nat.and_le_right (by decide)
  refine ⟨(v.toBitVec &&& 31).toNat, hlt, ?_⟩
  rw [← Int32.toBitVec_inj, Int32.toBitVec_and]
  refine BitVec.eq_of_toNat_eq ?_
  show _ = (BitVec.ofNat 32 (v.toBitVec &&& 31).toNat).toNat
  rw [BitVec.toNat_ofNat, Nat.mod_eq_of_lt (by omega)]
  rfl
def gq (v : Int32) (k : Nat) : Nat := ((v >>> (Int32.ofNat (5 * k) &&& 31)) &&& 31).toNatClampNeg
theorem gq_is (v : Int32) (k : Nat) : (v >>> (Int32.ofNat (5 * k) &&& 31)) &&& 31 = Int32.ofNat (gq v k) ∧ gq v k < 32 := by
  obtain ⟨n, h1, h2⟩ := and_31 (v >>> (Int32.ofNat (5 * k) &&& 31))
  unfold gq
  rw [h2, pn_nat (by omega)]
  exact ⟨rfl, h1⟩
/-- the letters of a packed name, the last k of them -/
def nmL (v : Int32) : Nat → List Nat
  | 0 => []
  | k + 1 => (if gq v k = 0 then [] else [96 + gq v k]) ++ nmL v k
theorem nmL_len (v : Int32) : ∀ k, (nmL v k).length ≤ k
  | 0 => Nat.le_refl _
  | k + 1 => by
    have := nmL_len v k
    unfold nmL
    rw [List.length_append]
    split
    · show 0 + _ ≤ _; omega
    · show 1 + _ ≤ _; omega
theorem wn_idx (hk : k < 6) : ((5 : Int32) - Int32.ofNat (6 - (k + 1))) * 5 = Int32.ofNat (5 * k) := by
  rcases (show k = 0 ∨ k = 1 ∨ k = 2 ∨ k = 3 ∨ k = 4 ∨ k = 5 by omega) with rfl | rfl | rfl | rfl | rfl | rfl <;> decide
theorem wn_ch {g : Nat} (hg : g < 32) : (((((97 : Int32) + Int32.ofNat g) - 1).toUInt32 % 65536).toInt32) = Int32.ofNat (96 + g) := by
  have t : ∀ g, g < 32 → (((((97 : Int32) + Int32.ofNat g) - 1).toUInt32 % 65536).toInt32) = Int32.ofNat (96 + g) := by decide +kernel
  exact t g hg
theorem zgR_c {i : Nat} (e : h a = hp a) (cc : Nat) : zgR h a cc i = zgR hp a cc i := by unfold zgR; rw [e]
theorem nd_step {len r : Nat} (h16 : 16 ≤ cap) (hl : len ≤ cap) (hr : r + 1 ≤ 11) : (nd cap len 1).1 + (nd (gc cap len 1) (len + 1) r).1 ≤ (nd cap len (r + 1)).1 ∧ (nd cap len 1).2 + (nd (gc cap len 1) (len + 1) r).2 ≤ (nd cap len (r + 1)).2 := by
  unfold nd gc
  by_cases q : len + 1 ≤ cap
  · rw [if_pos q, if_pos q]
    by_cases q2 : len + (r + 1) ≤ cap
    · rw [if_pos (by omega), if_pos q2]; exact ⟨Nat.le_refl _, Nat.le_refl _⟩
    · rw [if_neg (by omega), if_neg q2]
      exact ⟨Nat.le_refl _, by show 0 + (2 * cap + 2 + (len + 1) + r) ≤ 2 * cap + 2 + len + (r + 1); omega⟩
  · rw [if_neg q, if_neg q, if_pos (by omega), if_neg (by omega)]
    exact ⟨Nat.le_refl _, by show 2 * cap + 2 + len + 1 + 0 ≤ 2 * cap + 2 + len + (r + 1); omega⟩
theorem sbC_cap (X : sbC B0 hp a sz cap l) : 16 ≤ cap ∧ l.length ≤ cap ∧ cap ≤ 160 := by
  obtain ⟨bs, X1, x2, x3, x4, -⟩ := X
  obtain ⟨-, f, -, h, -⟩ := X1
  exact ⟨x4.1, h, x4.2⟩
theorem A_letters (hca : c < B0 ∧ c ≠ a ∧ c ≠ a + 1) {K : zHp → Nat → Nat → Nat → Option (zHp × Nat)} {v : Int32} : ∀ (r mm : Nat) (hp : zHp) (sz uc us cap : Nat) (l : List Nat), r ≤ 6 → r < mm → sbC B0 hp a sz cap l → l.length + r ≤ 80 → zgR hp c 7 3 = some a → uc + (nd cap l.length r).1 ≤ mc → us + (nd cap l.length r).2 ≤ ms →
    ∃ h' sz' uc' us' cap', l_X7_writeName_18 mc ms K c v mm (Int32.ofNat (6 - r)) hp sz uc us = K h' sz' uc' us' ∧ sbC B0 h' a sz' cap' (l ++ nmL v r) ∧ sz ≤ sz' ∧ fB B0 a hp h' ∧ uc' ≤ mc ∧ us' ≤ ms
  | 0, mm, hp, sz, uc, us, cap, l, _, hm, X, _, _, h1, h2 => by
    obtain ⟨mm, rfl⟩ : ∃ q, mm = q + 1 := ⟨mm - 1, by omega⟩
    refine ⟨hp, sz, uc, us, cap, ?_, by show sbC B0 hp a sz cap (l ++ []); rw [List.append_nil]; exact X, Nat.le_refl _, fB_rf, by omega, by omega⟩
    rw [l_X7_writeName_18_s]
    unfold b_X7_writeName_18
    rw [if_neg (by decide)]
  | r + 1, mm, hp, sz, uc, us, cap, l, hr, hm, X, hl, hg, h1, h2 => by
    obtain ⟨mm, rfl⟩ : ∃ q, mm = q + 1 := ⟨mm - 1, by omega⟩
    have hc := sbC_cap X
    have ns := nd_step (cap := cap) (len := l.length) (r := r) hc.1 hc.2.1 (by omega)
    obtain ⟨e1, e2⟩ := gq_is v r
    have l6 : Int32.ofNat (6 - (r + 1)) < 6 := by rw [show (6 : Int32) = Int32.ofNat 6 from rfl, pn_lt (by omega) (by decide)]; omega
    rw [l_X7_writeName_18_s]
    unfold b_X7_writeName_18
    rw [if_pos l6, wn_idx (by omega), e1]
    unfold zlet
    dsimp only
    have es : Int32.ofNat (6 - (r + 1)) + 1 = Int32.ofNat (6 - r) := by rw [pn_succ]; congr 1; omega
    by_cases q : gq v r = 0
    · rw [if_pos (by rw [q]; rfl), es]
      have nl := nd_le (cap := cap) (len := l.length) (show r ≤ r + 1 by omega)
      obtain ⟨h', sz', uc', us', cap', i1, i2, i3, i4, i5, i6⟩ := A_letters hca r mm hp sz uc us cap l (by omega) (by omega) X (by omega) hg (by omega) (by omega)
      refine ⟨h', sz', uc', us', cap', i1, ?_, i3, i4, i5, i6⟩
      unfold nmL
      rw [if_pos q, List.nil_append]
      exact i2
    · rw [if_neg (by rw [pn_eq0 (by omega)]; exact q), hg, Option.bind_some, sbC_need X (by omega)]
      obtain ⟨h1', sz1, g1, X1, g3, g4⟩ := A_app X (by omega) (n := 96 + gq v r) (by omega) (mc := (nd cap l.length 1).1) (ms := (nd cap l.length 1).2) (Nat.le_refl _) (Nat.le_refl _)
      have hg1 : zgR h1' c 7 3 = some a := by rw [zgR_c (g4 c hca.1 hca.2.1 hca.2.2)]; exact hg
      unfold zchk
      rw [if_pos ⟨by omega, by omega⟩, wn_ch e2, g1]
      obtain ⟨h', sz', uc', us', cap', i1, i2, i3, i4, i5, i6⟩ := A_letters hca (K := K) (v := v) r mm h1' sz1 (uc + (nd cap l.length 1).1) (us + (nd cap l.length 1).2) (gc cap l.length 1) (l ++ [96 + gq v r]) (by omega) (by omega) X1 (by rw [List.length_append]; show l.length + 1 + r ≤ 80; omega) hg1 (by rw [List.length_append]; show uc + _ + (nd (gc cap l.length 1) (l.length + 1) r).1 ≤ mc; omega) (by rw [List.length_append]; show us + _ + (nd (gc cap l.length 1) (l.length + 1) r).2 ≤ ms; omega)
      refine ⟨h', sz', uc', us', cap', ?_, ?_, by omega, fB_tr g4 i4, i5, i6⟩
      · rw [es]
        exact i1
      · unfold nmL
        rw [if_neg q, ← List.append_assoc]
        exact i2
end P72
