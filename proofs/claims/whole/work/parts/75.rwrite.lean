/-! PURE: the reference's write -/
section P75
variable {hp h hp' : zHp} {k r c x s i w u n : Nat} {F0 F T N : Nat → Int32} {S0 S : Nat → Nat → Int32} {v y : Int32} {l m : List Nat}
def MW (x : Nat) (F0 : Nat → Int32) (S0 : Nat → Nat → Int32) (h : zHp) (l : List Nat) : Prop := ∃ F S, wMF h x F S ∧ F 20 = Int32.ofNat l.length ∧ (∀ j, j < l.length → S 7 j = lW l j) ∧ (∀ k, k ≠ 20 → F k = F0 k) ∧ ∀ j, j ≠ 7 → S j = S0 j
theorem M_writes (X : MW x F0 S0 hp l) (hl : l.length < 100) {y : Int32} (hy : y = Int32.ofNat n) : ∃ h, f_X8_writes x y hp = some h ∧ MW x F0 S0 h (l ++ [n]) ∧ zfr hp h x 8 := by
  subst hy
  obtain ⟨F, S, W, a1, a2, a3, a4⟩ := X
  obtain ⟨h1, e1, W1, f1⟩ := wMF_arr W (j := 7) (k := l.length) (by decide) (by decide) (show l.length < 100 from hl) (Int32.ofNat n)
  obtain ⟨h2, e2, W2, f2⟩ := wMF_fld W1 (k := 20) (by omega) (Int32.ofNat (l.length + 1))
  refine ⟨h2, ?_, ⟨_, _, W2, ?_, fun j hj => ?_, fun k hk => ?_, fun j hj => ?_⟩, zfr_tr f1 f2⟩
  · have r20 : zgI hp x 8 20 = some (Int32.ofNat l.length) := (q_F W (by omega)).trans (congrArg some a1)
    have r20' : zgI h1 x 8 20 = some (Int32.ofNat l.length) := (q_F W1 (by omega)).trans (congrArg some a1)
    have r19 : zgR hp x 8 19 = some (x + 7) := po_R W.1 rfl
    simp only [f_X8_writes, wm_is (wMF_M W), r19, r20, e1, r20', pn_succ, e2, Option.bind_some]
  · rw [upd_self, List.length_append]; rfl
  · rw [w2_self, zU]
    rw [List.length_append] at hj
    have hj' : j < l.length + 1 := hj
    show _ = Int32.ofNat ((l ++ [n]).getD j 0)
    rw [getD_app]
    by_cases q : j = l.length
    · rw [if_pos q, if_neg (by omega), q, Nat.sub_self]; rfl
    · rw [if_neg q, if_pos (by omega)]
      exact a2 j (by omega)
  · rw [upd_ne _ _ hk]; exact a3 k hk
  · rw [w2_ne _ _ hj]; exact a4 j hj
theorem M_letters {v : Int32} {K : zHp → Option zHp} : ∀ (r mm : Nat) (hp : zHp) (l : List Nat) (y : Int32), r ≤ 6 → r < mm → MW x F0 S0 hp l → l.length + r ≤ 100 → (y = if r = 0 then -1 else Int32.ofNat (r - 1)) →
    ∃ h, l_X8_writesName_2 K x v mm y hp = K h ∧ MW x F0 S0 h (l ++ nmL v r) ∧ zfr hp h x 8
  | 0, mm, hp, l, y, _, hm, X, _, hy => by
    obtain ⟨mm, rfl⟩ : ∃ q, mm = q + 1 := ⟨mm - 1, by omega⟩
    refine ⟨hp, ?_, by show MW x F0 S0 hp (l ++ []); rw [List.append_nil]; exact X, zfr_rf⟩
    rw [l_X8_writesName_2_s, hy]
    unfold b_X8_writesName_2
    rw [if_pos (by decide)]
  | r + 1, mm, hp, l, y, hr, hm, X, hl, hy => by
    obtain ⟨mm, rfl⟩ : ∃ q, mm = q + 1 := ⟨mm - 1, by omega⟩
    have hy' : y = Int32.ofNat r := by rw [hy, if_neg (by omega)]; rfl
    subst hy'
    obtain ⟨e1, e2⟩ := gq_is v r
    have im5 : (5 : Int32) * Int32.ofNat r = Int32.ofNat (5 * r) := (Int32.ofNat_mul 5 r).symm
    have es : Int32.ofNat r + -1 = if r = 0 then -1 else Int32.ofNat (r - 1) := by
      by_cases q : r = 0
      · rw [if_pos q, q]; rfl
      · rw [if_neg q, pred_n (by omega)]
    rw [l_X8_writesName_2_s]
    unfold b_X8_writesName_2
    rw [if_neg (pn_neg (by omega)), im5, e1]
    unfold zlet
    dsimp only
    by_cases q : gq v r = 0
    · rw [if_neg (by rw [pn_0lt (by omega)]; omega)]
      obtain ⟨h1, g1, X1, f1⟩ := M_letters (v := v) (K := K) r mm hp l _ (by omega) (by omega) X (by omega) es
      refine ⟨h1, g1, ?_, f1⟩
      unfold nmL
      rw [if_pos q, List.nil_append]
      exact X1
    · rw [if_pos (by rw [pn_0lt (by omega)]; omega)]
      obtain ⟨h1, g1, X1, f1⟩ := M_writes X (by omega) (n := 96 + gq v r) (y := 96 + Int32.ofNat (gq v r)) (ixa 96 _)
      obtain ⟨h2, g2, X2, f2⟩ := M_letters (v := v) (K := K) r mm h1 (l ++ [96 + gq v r]) _ (by omega) (by omega) X1 (by rw [List.length_append]; show l.length + 1 + r ≤ 100; omega) es
      refine ⟨h2, ?_, ?_, zfr_tr f1 f2⟩
      · rw [g1, Option.bind_some]; exact g2
      · unfold nmL
        rw [if_neg q, ← List.append_assoc]
        exact X2
theorem MW_is (X : MW x F0 S0 hp l) : zis hp x 8 = some () := let ⟨_, _, W, _⟩ := X; wm_is (wMF_M W)
theorem M_name (X : MW x F0 S0 hp l) (hl : l.length + 6 ≤ 100) (v : Int32) : ∃ h, f_X8_writesName x v hp = some h ∧ MW x F0 S0 h (l ++ nmL v 6) ∧ zfr hp h x 8 := by
  obtain ⟨h, g, X1, f⟩ := M_letters (v := v) (K := fun h5 => some h5) 6 1000000 hp l 5 (by omega) (by decide) X hl rfl
  refine ⟨h, ?_, X1, f⟩
  unfold f_X8_writesName
  rw [MW_is X, Option.bind_some]
  exact g
theorem divs_t : ∀ p, p < 73 → ∀ q, q < 100 → (Int32.ofNat (100 * p + q)) / 1 = Int32.ofNat (100 * p + q) ∧ (Int32.ofNat (100 * p + q)) / 10 = Int32.ofNat ((100 * p + q) / 10) ∧ (Int32.ofNat (100 * p + q)) / 100 = Int32.ofNat p ∧ (Int32.ofNat (100 * p + q)) / 1000 = Int32.ofNat (p / 10) := by
  decide +kernel
theorem divs (hn : n < 7300) : zdiv (Int32.ofNat n) 1 = some (Int32.ofNat n) ∧ zdiv (Int32.ofNat n) 10 = some (Int32.ofNat (n / 10)) ∧ zdiv (Int32.ofNat n) 100 = some (Int32.ofNat (n / 100)) ∧ zdiv (Int32.ofNat n) 1000 = some (Int32.ofNat (n / 1000)) ∧ zrem (Int32.ofNat n) 10 = some (Int32.ofNat (n % 10)) := by
  obtain ⟨t1, t2, t3, t4⟩ := divs_t (n / 100) (by omega) (n % 100) (by omega)
  have e : 100 * (n / 100) + n % 100 = n := Nat.div_add_mod n 100
  rw [e] at t1 t2 t3 t4
  rw [show n / 100 / 10 = n / 1000 by omega] at t4
  unfold zdiv zrem
  rw [if_neg (by decide), if_neg (by decide), if_neg (by decide), if_neg (by decide), if_neg (by decide), t1, t2, t3, t4]
  refine ⟨rfl, rfl, rfl, rfl, ?_⟩
  have : Int32.ofNat (n / 10) * 10 = Int32.ofNat (n / 10 * 10) := (Int32.ofNat_mul (n / 10) 10).symm
  rw [this, subN (by omega)]
  congr 2
  omega
theorem M_digit (X : MW x F0 S0 hp l) (hl : l.length < 100) {d : Nat} : ∃ h, f_X8_writes x (48 + Int32.ofNat d) hp = some h ∧ MW x F0 S0 h (l ++ [48 + d]) ∧ zfr hp h x 8 := M_writes X hl (ixa 48 d)
theorem M_num (X : MW x F0 S0 hp l) (hl : l.length + 4 ≤ 100) (hn : n < 7300) : ∃ h, f_X8_writesNumber x (Int32.ofNat n) hp = some h ∧ MW x F0 S0 h (l ++ dl n) ∧ zfr hp h x 8 := by
  obtain ⟨d1, d2, d3, d4, d5⟩ := divs hn
  obtain ⟨-, -, -, -, m10⟩ := divs (n := n / 10) (by omega)
  obtain ⟨-, -, -, -, m100⟩ := divs (n := n / 100) (by omega)
  obtain ⟨-, -, -, -, m1000⟩ := divs (n := n / 1000) (by omega)
  have nine : ∀ m, m < 7300 → ((9 : Int32) < Int32.ofNat m) = (9 < m) := fun m hm => pn_lt (i := 9) (by decide) (by omega)
  obtain ⟨q, hq⟩ : ∃ q, 1000000 = q + 1 + 1 + 1 + 1 + 1 := ⟨999995, rfl⟩
  have z1 : zdiv 1 10 = some 0 := rfl
  have z10 : zdiv 10 10 = some 1 := rfl
  have z100 : zdiv 100 10 = some 10 := rfl
  have z1000 : zdiv 1000 10 = some 100 := rfl
  have T1 : (1 : Int32) * 10 = 10 := rfl
  have T2 : (10 : Int32) * 10 = 100 := rfl
  have T3 : (100 : Int32) * 10 = 1000 := rfl
  unfold f_X8_writesNumber
  rw [MW_is X, Option.bind_some, hq]
  unfold dl
  by_cases c1 : n < 10
  · rw [if_pos c1]
    obtain ⟨h1, g1, X1, f1⟩ := M_digit X (by omega) (d := n % 10)
    refine ⟨h1, ?_, by rw [show n % 10 = n by omega] at X1; exact X1, f1⟩
    simp only [l_X8_writesNumber_2_s, b_X8_writesNumber_2, d1, nine n hn, show ¬ 9 < n by omega, if_false, l_X8_writesNumber_18_s, b_X8_writesNumber_18, show (0 : Int32) < 1 by decide, if_true, d5, g1, z1, Int32.lt_irrefl, Option.bind_some]
  · by_cases c2 : n < 100
    · rw [if_neg c1, if_pos c2]
      obtain ⟨h1, g1, X1, f1⟩ := M_digit X (by omega) (d := n / 10 % 10)
      obtain ⟨h2, g2, X2, f2⟩ := M_digit X1 (by rw [List.length_append]; show _ + 1 < 100; omega) (d := n % 10)
      refine ⟨h2, ?_, by rw [show n / 10 % 10 = n / 10 by omega, List.append_assoc] at X2; exact X2, zfr_tr f1 f2⟩
      simp only [l_X8_writesNumber_2_s, b_X8_writesNumber_2, d1, nine n hn, show 9 < n by omega, if_true, zlet, T1, d2, nine (n / 10) (by omega), show ¬ 9 < n / 10 by omega, if_false, l_X8_writesNumber_18_s, b_X8_writesNumber_18, show (0 : Int32) < 10 by decide, show (0 : Int32) < 1 by decide, m10, g1, z10, d5, g2, z1, Int32.lt_irrefl, Option.bind_some]
    · by_cases c3 : n < 1000
      · rw [if_neg c1, if_neg c2, if_pos c3]
        obtain ⟨h1, g1, X1, f1⟩ := M_digit X (by omega) (d := n / 100 % 10)
        obtain ⟨h2, g2, X2, f2⟩ := M_digit X1 (by rw [List.length_append]; show _ + 1 < 100; omega) (d := n / 10 % 10)
        obtain ⟨h3, g3, X3, f3⟩ := M_digit X2 (by rw [List.length_append, List.length_append]; show _ + 1 + 1 < 100; omega) (d := n % 10)
        refine ⟨h3, ?_, by rw [show n / 100 % 10 = n / 100 by omega, show n / 10 % 10 = n % 100 / 10 by omega, List.append_assoc, List.append_assoc] at X3; exact X3, zfr_tr f1 (zfr_tr f2 f3)⟩
        simp only [l_X8_writesNumber_2_s, b_X8_writesNumber_2, d1, nine n hn, show 9 < n by omega, if_true, zlet, T1, d2, nine (n / 10) (by omega), show 9 < n / 10 by omega, T2, d3, nine (n / 100) (by omega), show ¬ 9 < n / 100 by omega, if_false, l_X8_writesNumber_18_s, b_X8_writesNumber_18, show (0 : Int32) < 100 by decide, show (0 : Int32) < 10 by decide, show (0 : Int32) < 1 by decide, m100, g1, z100, m10, g2, z10, d5, g3, z1, Int32.lt_irrefl, Option.bind_some]
      · rw [if_neg c1, if_neg c2, if_neg c3]
        obtain ⟨h1, g1, X1, f1⟩ := M_digit X (by omega) (d := n / 1000 % 10)
        obtain ⟨h2, g2, X2, f2⟩ := M_digit X1 (by rw [List.length_append]; show _ + 1 < 100; omega) (d := n / 100 % 10)
        obtain ⟨h3, g3, X3, f3⟩ := M_digit X2 (by rw [List.length_append, List.length_append]; show _ + 1 + 1 < 100; omega) (d := n / 10 % 10)
        obtain ⟨h4, g4, X4, f4⟩ := M_digit X3 (by rw [List.length_append, List.length_append, List.length_append]; show _ + 1 + 1 + 1 < 100; omega) (d := n % 10)
        refine ⟨h4, ?_, by rw [show n / 1000 % 10 = n / 1000 by omega, show n / 10 % 10 = n % 100 / 10 by omega, List.append_assoc, List.append_assoc, List.append_assoc] at X4; exact X4, zfr_tr f1 (zfr_tr f2 (zfr_tr f3 f4))⟩
        simp only [l_X8_writesNumber_2_s, b_X8_writesNumber_2, d1, nine n hn, show 9 < n by omega, if_true, zlet, T1, d2, nine (n / 10) (by omega), show 9 < n / 10 by omega, T2, d3, nine (n / 100) (by omega), show 9 < n / 100 by omega, T3, d4, nine (n / 1000) (by omega), show ¬ 9 < n / 1000 by omega, if_false, l_X8_writesNumber_18_s, b_X8_writesNumber_18, show (0 : Int32) < 1000 by decide, show (0 : Int32) < 100 by decide, show (0 : Int32) < 10 by decide, show (0 : Int32) < 1 by decide, m1000, g1, z1000, m100, g2, z100, m10, g3, z10, d5, g4, z1, Int32.lt_irrefl, Option.bind_some]
end P75
