/-! PURE: a number is appended, whole -/
section P70
variable {hp h hp' : zHp} {a bs cap cnt sz mc ms k r : Nat} {ro : Nat → Nat} {W W' f : Nat → Int32} {v : Int32}
theorem nums {n : Nat} (hn : n < 7300) : (((-100 : Int32) < -(Int32.ofNat n)) = (n < 100)) ∧ (-(Int32.ofNat n)) / 100 = -(Int32.ofNat (n / 100)) ∧ (-(Int32.ofNat (n / 100))) * 100 - (-(Int32.ofNat n)) = Int32.ofNat (n % 100) ∧ ((-(Int32.ofNat n) < (-9 : Int32)) = (9 < n)) := by
  obtain ⟨t1, t2, t3, t4, -⟩ := nums_t (n / 100) (by omega) (n % 100) (by omega)
  have e : 100 * (n / 100) + n % 100 = n := Nat.div_add_mod n 100
  rw [e] at t1 t2 t3 t4
  exact ⟨dec_eq t1, t2, t3, dec_eq t4⟩
def kLst (ro : Nat → Nat) (bs : Nat) (p9 p10 : Int32) (h11 : zHp) : Option (Int32 × zHp) := zlet (p10 + (-1 : Int32)) fun v12 => (zaI h11 1 (ro 30) (-p9)).bind fun v13 => (zsB h11 bs v12 v13).bind fun h14 => if p9 < (-9 : Int32) then (zlet (v12 + (-1 : Int32)) fun v17 => (zaI h14 1 (ro 31) (-p9)).bind fun v18 => (zsB h14 bs v17 v18).bind fun h19 => j_X104 v17 h19) else j_X104 v12 h14
where j_X104 (v : Int32) (h : zHp) : Option (Int32 × zHp) := some (v, h)
theorem k_last (X : oneB hp bs cap f) (T : wDT hp ro) {m : Nat} (hm : m < 100) (hc : cnt + 2 ≤ cap ∨ (m < 10 ∧ cnt + 1 ≤ cap)) (hcap : cap < 2147483648) : ∃ h f' pos, kLst ro bs (-(Int32.ofNat m)) (Int32.ofNat (cnt + (if m < 10 then 1 else 2))) hp = some (pos, h) ∧ oneB h bs cap f' ∧ (∀ j, f' j = if m < 10 then (if j = cnt then Int32.ofNat (48 + m) else f j) else (if j = cnt then Int32.ofNat (48 + m / 10) else if j = cnt + 1 then Int32.ofNat (48 + m % 10) else f j)) ∧ ∀ i, i ≠ bs → h i = hp i := by
  obtain ⟨-, -, -, n4⟩ := nums (n := m) (by omega)
  unfold kLst
  unfold zlet
  dsimp only
  rw [Int32.neg_neg, dt_1 T hm, Option.bind_some]
  by_cases q : m < 10
  · rw [if_pos q]
    obtain ⟨h1, e1, X1, T1, f1⟩ := oneB_w X T (k := cnt) (by omega) hcap (n := 48 + m % 10) (by omega)
    rw [pred_n (by omega), show cnt + 1 - 1 = cnt by omega, e1, Option.bind_some, if_neg (by rw [n4]; omega)]
    refine ⟨h1, _, _, rfl, X1, fun j => ?_, f1⟩
    rw [if_pos q, zU, show m % 10 = m by omega]
  · rw [if_neg q]
    obtain ⟨h1, e1, X1, T1, f1⟩ := oneB_w X T (k := cnt + 1) (by omega) hcap (n := 48 + m % 10) (by omega)
    obtain ⟨h2, e2, X2, T2, f2⟩ := oneB_w X1 T1 (k := cnt) (by omega) hcap (n := 48 + m / 10) (by omega)
    rw [pred_n (by omega), show cnt + 2 - 1 = cnt + 1 by omega, e1, Option.bind_some, if_pos (by rw [n4]; omega), pred_n (by omega), show cnt + 1 - 1 = cnt by omega, dt_2 T1 hm, Option.bind_some, e2, Option.bind_some]
    refine ⟨h2, _, _, rfl, X2, fun j => ?_, fun i hi => by rw [f2 i hi, f1 i hi]⟩
    rw [if_neg q, zU, zU]
theorem n_chars (X : oneB hp bs cap f) (T : wDT hp ro) {n : Nat} (hn : n < 7300) (hc : cnt + (dl n).length ≤ cap) (hcap : cap < 2147483648) : ∃ h f' pos, f_J6_getChars_ba4f3 ro (Int32.ofNat n) (Int32.ofNat (cnt + (dl n).length)) bs hp = some (pos, h) ∧ oneB h bs cap f' ∧ (∀ j, f' j = if cnt ≤ j ∧ j < cnt + (dl n).length then Int32.ofNat ((dl n).getD (j - cnt) 0) else f j) ∧ ∀ i, i ≠ bs → h i = hp i := by
  obtain ⟨n1, n2, n3, n4⟩ := nums hn
  have pre : f_J6_getChars_ba4f3 ro (Int32.ofNat n) (Int32.ofNat (cnt + (dl n).length)) bs hp = l_J6_getChars_ba4f3_22 ro (kLst ro bs) bs 0 1000000 (-(Int32.ofNat n)) (Int32.ofNat (cnt + (dl n).length)) hp := by
    unfold f_J6_getChars_ba4f3
    rw [if_neg (pn_neg (by omega))]
    unfold j_J6_getChars_ba4f3_12
    rw [if_pos rfl]
    unfold zlet j_J6_getChars_ba4f3_22
    congr 1
  rw [pre]
  have kk : ∀ (K : Int32 → Int32 → zHp → Option (Int32 × zHp)) (m : Nat) (y : Int32) (p : Int32) (hh : zHp), (-100 : Int32) < y → l_J6_getChars_ba4f3_22 ro K bs 0 (m + 1) y p hh = K y p hh := fun K m y p hh hy => by
    rw [l_J6_getChars_ba4f3_22_s]
    unfold b_J6_getChars_ba4f3_22
    rw [if_pos hy]
  obtain ⟨mm, hmm⟩ : ∃ mm, 1000000 = mm + 1 + 1 := ⟨999998, rfl⟩
  rw [hmm]
  by_cases q : n < 100
  · rw [kk _ _ _ _ _ (by rw [n1]; exact q)]
    have hl : (dl n).length = if n < 10 then 1 else 2 := by
      unfold dl
      by_cases c : n < 10
      · rw [if_pos c, if_pos c]; rfl
      · rw [if_neg c, if_pos q, if_neg c]; rfl
    rw [hl] at hc ⊢
    obtain ⟨h1, f1, pos, e1, X1, g1, fr⟩ := k_last X T (cnt := cnt) q (by by_cases c : n < 10; right; rw [if_pos c] at hc; exact ⟨c, hc⟩; left; rw [if_neg c] at hc; exact hc) hcap
    refine ⟨h1, f1, pos, e1, X1, fun j => ?_, fr⟩
    rw [g1]
    unfold dl
    by_cases c : n < 10
    · rw [if_pos c, if_pos c, if_pos c]
      by_cases e : j = cnt
      · rw [if_pos e, if_pos ⟨by omega, by omega⟩, e, Nat.sub_self]; rfl
      · rw [if_neg e, if_neg (by omega)]
    · rw [if_neg c, if_neg c, if_neg c, if_pos q]
      by_cases e : j = cnt
      · rw [if_pos e, if_pos ⟨by omega, by omega⟩, e, Nat.sub_self]; rfl
      · rw [if_neg e]
        by_cases e2 : j = cnt + 1
        · rw [if_pos e2, if_pos ⟨by omega, by omega⟩, e2, show cnt + 1 - cnt = 1 by omega]; rfl
        · rw [if_neg e2, if_neg (by omega)]
  · rw [l_J6_getChars_ba4f3_22_s]
    unfold b_J6_getChars_ba4f3_22
    rw [if_neg (by rw [n1]; exact q)]
    have hd : zdiv (-(Int32.ofNat n)) 100 = some (-(Int32.ofNat (n / 100))) := by
      unfold zdiv
      rw [if_neg (by decide), n2]
    have hl : (dl n).length = (if n / 100 < 10 then 1 else 2) + 2 := by
      unfold dl
      rw [if_neg (by omega), if_neg q]
      by_cases c : n < 1000
      · rw [if_pos c, if_pos (by omega)]; rfl
      · rw [if_neg c, if_neg (by omega)]; rfl
    obtain ⟨u, hu⟩ : ∃ u, (if n / 100 < 10 then 1 else 2) = u := ⟨_, rfl⟩
    rw [hu] at hl
    rw [hl] at hc ⊢
    obtain ⟨h1, e1, X1, T1, f1⟩ := oneB_w X T (k := cnt + u + 1) (by omega) hcap (n := 48 + n % 100 % 10) (by omega)
    obtain ⟨h2, e2, X2, T2, f2⟩ := oneB_w X1 T1 (k := cnt + u) (by omega) hcap (n := 48 + n % 100 / 10) (by omega)
    have hm100 : n / 100 < 100 := by omega
    obtain ⟨h3, f3, pos, e3, X3, g3, fr3⟩ := k_last X2 T2 (cnt := cnt) hm100 (by by_cases c : n / 100 < 10; right; rw [if_pos c] at hu; exact ⟨c, by omega⟩; left; rw [if_neg c] at hu; omega) hcap
    rw [hu] at e3
    obtain ⟨m1, -, -, -⟩ := nums (n := n / 100) (by omega)
    refine ⟨h3, f3, pos, ?_, X3, fun j => ?_, fun i hi => by rw [fr3 i hi, f2 i hi, f1 i hi]⟩
    · rw [hd, Option.bind_some]
      unfold zlet
      dsimp only
      rw [n3, pred_n (by omega), show cnt + (u + 2) - 1 = cnt + u + 1 by omega, dt_1 T (by omega), Option.bind_some, e1, Option.bind_some, pred_n (by omega), show cnt + u + 1 - 1 = cnt + u by omega, dt_2 T1 (by omega), Option.bind_some, e2, Option.bind_some, kk _ _ _ _ _ (by rw [m1]; omega)]
      exact e3
    · rw [g3, zU, zU]
      unfold dl
      rw [if_neg (show ¬ n < 10 by omega), if_neg q]
      by_cases c : n < 1000
      · have u1 : u = 1 := by rw [← hu, if_pos (by omega)]
        subst u1
        rw [if_pos (show n / 100 < 10 by omega), if_pos c]
        by_cases e : j = cnt
        · rw [if_pos e, if_pos ⟨by omega, by omega⟩, e, Nat.sub_self]; rfl
        · rw [if_neg e]
          by_cases e2 : j = cnt + 1
          · rw [if_pos e2, if_pos ⟨by omega, by omega⟩, e2, show cnt + 1 - cnt = 1 by omega]; rfl
          · rw [if_neg e2]
            by_cases e3 : j = cnt + 1 + 1
            · rw [if_pos e3, if_pos ⟨by omega, by omega⟩, e3, show cnt + 1 + 1 - cnt = 2 by omega, show n % 100 % 10 = n % 10 by omega]; rfl
            · rw [if_neg e3, if_neg (by omega)]
      · have u1 : u = 2 := by rw [← hu, if_neg (by omega)]
        subst u1
        rw [if_neg (show ¬ n / 100 < 10 by omega), if_neg c]
        by_cases e : j = cnt
        · rw [if_pos e, if_pos ⟨by omega, by omega⟩, e, Nat.sub_self, show n / 100 / 10 = n / 1000 by omega]; rfl
        · rw [if_neg e]
          by_cases e2 : j = cnt + 1
          · rw [if_pos e2, if_pos ⟨by omega, by omega⟩, e2, show cnt + 1 - cnt = 1 by omega]; rfl
          · rw [if_neg e2]
            by_cases e3 : j = cnt + 2
            · rw [if_pos e3, if_pos ⟨by omega, by omega⟩, e3, show cnt + 2 - cnt = 2 by omega]; rfl
            · rw [if_neg e3]
              by_cases e4 : j = cnt + 2 + 1
              · rw [if_pos e4, if_pos ⟨by omega, by omega⟩, e4, show cnt + 2 + 1 - cnt = 3 by omega, show n % 100 % 10 = n % 10 by omega]; rfl
              · rw [if_neg e4, if_neg (by omega)]
end P70

