/-! PURE: the law's text: its length, its statements, and that it is made -/
section P98
variable {hp0 hp h : zHp} {a b c r d k n s sz z B0 mc ms uc us M x0 p u i : Nat} {ro : Nat → Nat} {xs : Nat → Int32} {l m : List Nat} {D : Nat → Nat → Nat → Nat}
def n59 : List Nat → Nat
  | [] => 0
  | x :: r => (if x = 59 then 1 else 0) + n59 r
theorem n59_app (l m : List Nat) : n59 (l ++ m) = n59 l + n59 m := by
  induction l with
  | nil => exact (Nat.zero_add _).symm
  | cons x r ih =>
    show (if x = 59 then 1 else 0) + n59 (r ++ m) = (if x = 59 then 1 else 0) + n59 r + n59 m
    rw [ih, Nat.add_assoc]
theorem n59_take (l : List Nat) (k : Nat) (hk : k < l.length) : n59 (l.take (k + 1)) = n59 (l.take k) + (if l.getD k 0 = 59 then 1 else 0) := by
  induction l generalizing k with
  | nil => exact absurd hk (Nat.not_lt_zero k)
  | cons x r ih =>
    cases k with
    | zero =>
      show (if x = 59 then 1 else 0) + n59 [] = 0 + (if x = 59 then 1 else 0)
      show (if x = 59 then 1 else 0) + 0 = _
      omega
    | succ k =>
      have := ih k (by simpa using hk)
      show (if x = 59 then 1 else 0) + n59 (r.take (k + 1)) = (if x = 59 then 1 else 0) + n59 (r.take k) + (if r.getD k 0 = 59 then 1 else 0)
      rw [this, Nat.add_assoc]
theorem dl_59 (hn : n < 1000) : (dl n).length ≤ 3 ∧ n59 (dl n) = 0 := by
  unfold dl
  by_cases q1 : n < 10
  · rw [if_pos q1]
    refine ⟨by show 1 ≤ 3; omega, ?_⟩
    show (if 48 + n = 59 then 1 else 0) + 0 = 0
    rw [if_neg (by omega)]
  · rw [if_neg q1]
    by_cases q2 : n < 100
    · rw [if_pos q2]
      refine ⟨by show 2 ≤ 3; omega, ?_⟩
      show (if 48 + n / 10 = 59 then 1 else 0) + ((if 48 + n % 10 = 59 then 1 else 0) + 0) = 0
      rw [if_neg (by omega), if_neg (by omega)]
    · rw [if_neg q2, if_pos hn]
      refine ⟨by show 3 ≤ 3; omega, ?_⟩
      show (if 48 + n / 100 = 59 then 1 else 0) + ((if 48 + n % 100 / 10 = 59 then 1 else 0) + ((if 48 + n % 10 = 59 then 1 else 0) + 0)) = 0
      rw [if_neg (by omega), if_neg (by omega), if_neg (by omega)]
theorem cat_le (f : Nat → List Nat) (B : Nat) (hf : ∀ k, (f k).length ≤ B) : ∀ n, (cat f n).length ≤ B * n := by
  intro n
  induction n with
  | zero => exact Nat.zero_le _
  | succ n ih =>
    show (cat f n ++ f n).length ≤ _
    rw [List.length_append, Nat.mul_succ]
    have := hf n
    omega
theorem cat_59 (f : Nat → List Nat) (hf : ∀ k, n59 (f k) = 1) : ∀ n, n59 (cat f n) = n := by
  intro n
  induction n with
  | zero => rfl
  | succ n ih =>
    show n59 (cat f n ++ f n) = _
    rw [n59_app, hf, ih]
theorem pap_59 (f : Nat → Nat) (hf : ∀ p, f p < 1000) (r : List Nat) : ∀ d p, (papL f d p r).length ≤ 4 * d + r.length ∧ n59 (papL f d p r) = n59 r := by
  intro d
  induction d with
  | zero => exact fun p => ⟨by show r.length ≤ _; omega, rfl⟩
  | succ d ih =>
    intro p
    obtain ⟨i1, i2⟩ := ih (p + 1)
    obtain ⟨d1, d2⟩ := dl_59 (hf p)
    constructor
    · show (dl (f p) ++ papL f d (p + 1) r).length + 1 ≤ _
      rw [List.length_append]
      omega
    · show 0 + n59 (dl (f p) ++ papL f d (p + 1) r) = _
      rw [n59_app, d2, i2]
      omega
theorem n59_c (x : Nat) (r : List Nat) (h : ¬ x = 59) : n59 (x :: r) = n59 r := by
  show (if x = 59 then 1 else 0) + n59 r = _
  rw [if_neg h, Nat.zero_add]
theorem nm_59 (s k : Nat) (hs : s < 4) (hk : k < 8) : n59 (nmB s k) = 0 := by
  show (if 112 + s = 59 then 1 else 0) + ((if 97 + k = 59 then 1 else 0) + 0) = 0
  rw [if_neg (by omega), if_neg (by omega)]
theorem nm_59' (s k : Nat) : n59 (nmB s k) = 0 := by
  show (if 112 + s = 59 then 1 else 0) + ((if 97 + k = 59 then 1 else 0) + 0) = 0
  rw [if_neg (by omega), if_neg (by omega)]
theorem w_59 : n59 wPa = 0 ∧ n59 wRe = 0 ∧ n59 wI = 0 ∧ n59 wWa = 0 ∧ n59 wBo = 0 ∧ n59 wTa = 0 ∧ n59 wSe = 0 ∧ n59 wTr = 0 ∧ n59 wTo = 0 ∧ n59 [59] = 1 := by decide
theorem w_len : wPa.length = 5 ∧ wRe.length = 6 ∧ wI.length = 2 ∧ wWa.length = 4 ∧ wBo.length = 3 ∧ wTa.length = 5 ∧ wSe.length = 3 ∧ wTr.length = 7 ∧ wTo.length = 9 := by decide
theorem t_all (o : okD D) : ((∀ k, (tP D k).length ≤ 9 ∧ n59 (tP D k) = 1) ∧ (∀ k, (tR D k).length ≤ 16 ∧ n59 (tR D k) = 1) ∧ (∀ k, (tV D k).length ≤ 11 ∧ n59 (tV D k) = 1) ∧ (∀ k, (tB D k).length ≤ 38 ∧ n59 (tB D k) = 1) ∧ ∀ k, (tT D k).length ≤ 10 ∧ n59 (tT D k) = 1) ∧ (cat (tH D) 2).length ≤ 34 ∧ n59 (cat (tH D) 2) = 2 := by
  obtain ⟨⟨p1, p2⟩, ⟨r1, r2⟩, ⟨w1, w2⟩, ⟨bb1, bb2⟩, ⟨tt1, tt2⟩, ⟨gg0, gg1⟩, o2, o3, o4, o5, o6, o7, o8⟩ := o
  obtain ⟨v1, v2, v3, v4, v5, v6, v7, v8, v9, v10⟩ := w_59
  obtain ⟨u1, u2, u3, u4, u5, u6, u7, u8, u9⟩ := w_len
  have c32 : ∀ r : List Nat, n59 (32 :: r) = n59 r := fun r => n59_c 32 r (by decide)
  have l1 : ([59] : List Nat).length = 1 := rfl
  refine ⟨⟨fun k => ?_, fun k => ?_, fun k => ?_, fun k => ?_, fun k => ?_⟩, ?_⟩
  · unfold tP
    constructor <;> simp only [List.length_append, List.length_cons, nm_len, n59_app, c32, nm_59', v1, v10, u1, l1, List.length_nil] <;> omega
  · unfold tR
    split <;> constructor <;> simp only [List.length_append, List.length_cons, nm_len, n59_app, c32, nm_59', v2, v3, v10, u2, u3, l1, List.length_nil] <;> omega
  · unfold tV
    constructor <;> simp only [List.length_append, List.length_cons, nm_len, n59_app, c32, nm_59', v4, v10, u4, l1, List.length_nil] <;> omega
  · unfold tB
    obtain ⟨q1, q2⟩ := dl_59 (show D 5 k 0 < 1000 by have := o5 k; omega)
    obtain ⟨q3, q4⟩ := dl_59 (show D 6 k 0 < 1000 by have := o6 k; omega)
    obtain ⟨q5, q6⟩ := pap_59 (D 7 k) (fun p => by have := o7 k p; omega) [59] (cP D + 1) 0
    rw [l1] at q5
    constructor <;> simp only [List.length_append, List.length_cons, nm_len, n59_app, c32, nm_59', v5, v10, u5, l1, List.length_nil, q2, q4, q6] <;> omega
  · unfold tT
    obtain ⟨q1, q2⟩ := dl_59 (show D 8 k 0 < 1000 by have := o8 k; omega)
    constructor <;> simp only [List.length_append, List.length_cons, n59_app, c32, v6, v10, u6, l1, List.length_nil, q2] <;> omega
  · obtain ⟨q1, q2⟩ := dl_59 (show D 1 0 0 < 1000 by omega)
    obtain ⟨q3, q4⟩ := dl_59 (show D 1 1 0 < 1000 by omega)
    rw [show cat (tH D) 2 = ([] ++ tH D 0) ++ tH D 1 from rfl]
    unfold tH
    rw [if_pos rfl, if_neg (by decide)]
    constructor <;> simp only [List.length_append, List.length_cons, List.length_nil, n59_app, c32, v7, v8, v9, v10, u7, u8, u9, l1, q2, q4, show n59 [] = 0 from rfl] <;> omega
theorem tAll_59 (o : okD D) : (tAll D).length ≤ 500 ∧ n59 (tAll D) = 2 + cP D + cR D + cW D + cB D + cT D := by
  obtain ⟨⟨hP, hR, hV, hBx, hT⟩, hH, nH⟩ := t_all o
  obtain ⟨⟨p1, p2⟩, ⟨r1, r2⟩, ⟨w1, w2⟩, ⟨bb1, bb2⟩, ⟨tt1, tt2⟩, -⟩ := o
  have e1 := cat_le (tP D) 9 (fun k => (hP k).1) (cP D)
  have e2 := cat_le (tR D) 16 (fun k => (hR k).1) (cR D)
  have e3 := cat_le (tV D) 11 (fun k => (hV k).1) (cW D)
  have e4 := cat_le (tB D) 38 (fun k => (hBx k).1) (cB D)
  have e5 := cat_le (tT D) 10 (fun k => (hT k).1) (cT D)
  unfold tAll
  simp only [List.length_append, n59_app, nH, cat_59 _ (fun k => (hP k).2), cat_59 _ (fun k => (hR k).2), cat_59 _ (fun k => (hV k).2), cat_59 _ (fun k => (hBx k).2), cat_59 _ (fun k => (hT k).2)]
  omega
set_option maxHeartbeats 2000000 in
/-- the text is made -/
theorem L_text (TW0 : TW c ro s n xs hp0) (hLF : ∀ h, sc h s n xs → LF D s h) (o : okD D) (hB : c ≤ B0) (q2 : B0 ≤ z) (F : ∀ i, i < B0 → h i = hp0 i) :
    ∃ r h' z', f_L_text ro 6000 800000 s h z = some (r, h', z') ∧ Q hp0 B0 r h' z' (tAll D) := by
  obtain ⟨⟨hP, hR, hV, hBx, hT⟩, hH, nH⟩ := t_all o
  obtain ⟨⟨p1, p2⟩, ⟨r1, r2⟩, ⟨w1, w2⟩, ⟨bb1, bb2⟩, ⟨tt1, tt2⟩, ⟨gg0, gg1⟩, o2, o3, o4, o5, o6, o7, o8⟩ := id o
  obtain ⟨n0, n1, n2, n3, n4, n5, n6, n7, n8, n9, n10⟩ := lw_len
  obtain ⟨d00, -⟩ := dl_59 (show D 1 0 0 < 1000 by omega)
  obtain ⟨d01, -⟩ := dl_59 (show D 1 1 0 < 1000 by omega)
  obtain ⟨h1, e1, X1, f1⟩ := X_new h z
  have F2 : ∀ i, i < B0 → h1 i = hp0 i := fun i hi => by rw [f1 i (by omega), F i hi]
  obtain ⟨q3, v3, w3, S3⟩ := T_c TW0 hB F2 (i := 0) (j := 17) (by decide) rfl
  obtain ⟨h4, z4, t4, k4, e4, X4, g4, -, b4, f4⟩ := X_str (mc := 1) (ms := 1300) (sz := (z + 2)) X1 (by omega) (r := ro 17) S3 (by simp only [List.length_append, List.length_nil, lw_len, nm_len]; omega) ⟨by omega, by omega, Or.inl ⟨by omega, by omega⟩⟩ (Or.inr ⟨Nat.le_refl _, by decide⟩)
  have F5 : ∀ i, i < B0 → h4 i = hp0 i := fun i hi => by rw [f4 i (by omega), F2 i hi]
  obtain ⟨h6, z6, t6, k6, e6, X6, g6, b6, f6⟩ := X_int (ro := ro) (n := D 1 0 0) (mc := 1) (ms := 1300) (sz := z4) X4 (by omega) (T_d TW0 hB F5) ⟨by have := TW0.2.2.2.1; omega, by have := TW0.2.2.2.2.1; omega⟩ (show D 1 0 0 < 1000 by omega) (by simp only [List.length_append, List.length_nil, lw_len, nm_len]; omega) ⟨Nat.le_refl _, by decide⟩
  have F7 : ∀ i, i < B0 → h6 i = hp0 i := fun i hi => by rw [f6 i (by omega), F5 i hi]
  obtain ⟨q8, v8, w8, S8⟩ := T_c TW0 hB F7 (i := 1) (j := 18) (by decide) rfl
  obtain ⟨h9, z9, t9, k9, e9, X9, g9, -, b9, f9⟩ := X_str (mc := 1) (ms := 1300) (sz := z6) X6 (by omega) (r := ro 18) S8 (by simp only [List.length_append, List.length_nil, lw_len, nm_len]; omega) ⟨by omega, by omega, Or.inl ⟨by omega, by omega⟩⟩ (Or.inr ⟨Nat.le_refl _, by decide⟩)
  have F10 : ∀ i, i < B0 → h9 i = hp0 i := fun i hi => by rw [f9 i (by omega), F7 i hi]
  obtain ⟨h11, z11, t11, k11, e11, X11, g11, b11, f11⟩ := X_int (ro := ro) (n := D 1 1 0) (mc := 1) (ms := 1300) (sz := z9) X9 (by omega) (T_d TW0 hB F10) ⟨by have := TW0.2.2.2.1; omega, by have := TW0.2.2.2.2.1; omega⟩ (show D 1 1 0 < 1000 by omega) (by simp only [List.length_append, List.length_nil, lw_len, nm_len]; omega) ⟨Nat.le_refl _, by decide⟩
  have F12 : ∀ i, i < B0 → h11 i = hp0 i := fun i hi => by rw [f11 i (by omega), F10 i hi]
  obtain ⟨q13, v13, w13, S13⟩ := T_c TW0 hB F12 (i := 2) (j := 19) (by decide) rfl
  obtain ⟨h14, z14, t14, k14, e14, X14, g14, -, b14, f14⟩ := X_str (mc := 1) (ms := 1300) (sz := z11) X11 (by omega) (r := ro 19) S13 (by simp only [List.length_append, List.length_nil, lw_len, nm_len]; omega) ⟨by omega, by omega, Or.inl ⟨by omega, by omega⟩⟩ (Or.inr ⟨Nat.le_refl _, by decide⟩)
  have F15 : ∀ i, i < B0 → h14 i = hp0 i := fun i hi => by rw [f14 i (by omega), F12 i hi]
  obtain ⟨h16, e16, S16, f16⟩ := X_toS (mc := 2) (ms := 704) (sz := z14) X14 (by omega) ⟨Nat.le_refl _, (by simp only [List.length_append, List.length_nil, lw_len, nm_len]; omega)⟩
  have F17 : ∀ i, i < B0 → h16 i = hp0 i := fun i hi => by rw [f16 i (by omega), F15 i hi]
  have Q0 : Q hp0 B0 z14 h16 (z14 + 2) (cat (tH D) 2) := ⟨by rw [← q_H]; exact S16, Nat.le_refl _, by omega, F17⟩
  obtain ⟨⟨r1, h10, z10, c1, u1⟩, ⟨Q1, cc1, uu1⟩, e44⟩ := T_44 (mc := 6000) (ms := 800000) (uc := ((((((((0 + 1) + 1) + 1) + 1) + 1) + 1) + 1) + 2)) (us := ((((((((0 + 4) + 16) + 1300) + 1300) + 1300) + 1300) + 1300) + 704)) (M := 1000000) TW0 hLF o hB Q0 (fun k hk => by
    have := cat_le (tP D) 9 (fun k => (hP k).1) (k + 1)
    rw [List.length_append]
    omega) (by omega) (by omega)
  dsimp only at Q1 cc1 uu1 e44
  have L1 : (cat (tH D) 2 ++ cat (tP D) (cP D)).length ≤ 34 + 36 := by
    have := cat_le (tP D) 9 (fun k => (hP k).1) (cP D)
    rw [List.length_append]
    omega
  generalize hx1 : cat (tH D) 2 ++ cat (tP D) (cP D) = x1 at Q1 L1
  obtain ⟨⟨r2, h20, z20, c2, u2⟩, ⟨Q2, cc2, uu2⟩, e93⟩ := T_93 (mc := 6000) (ms := 800000) (uc := c1) (us := u1) (M := 1000000) TW0 hLF o hB Q1 (fun k hk => by
    have := cat_le (tR D) 16 (fun k => (hR k).1) (k + 1)
    rw [List.length_append]
    omega) (by omega) (by omega)
  dsimp only at Q2 cc2 uu2 e93
  have L2 : (x1 ++ cat (tR D) (cR D)).length ≤ 70 + 64 := by
    have := cat_le (tR D) 16 (fun k => (hR k).1) (cR D)
    rw [List.length_append]
    omega
  generalize hx2 : x1 ++ cat (tR D) (cR D) = x2 at Q2 L2
  obtain ⟨⟨r3, h30, z30, c3, u3⟩, ⟨Q3, cc3, uu3⟩, e185⟩ := T_185 (mc := 6000) (ms := 800000) (uc := c2) (us := u2) (M := 1000000) TW0 hLF o hB Q2 (fun k hk => by
    have := cat_le (tV D) 11 (fun k => (hV k).1) (k + 1)
    rw [List.length_append]
    omega) (by omega) (by omega)
  dsimp only at Q3 cc3 uu3 e185
  have L3 : (x2 ++ cat (tV D) (cW D)).length ≤ 134 + 44 := by
    have := cat_le (tV D) 11 (fun k => (hV k).1) (cW D)
    rw [List.length_append]
    omega
  generalize hx3 : x2 ++ cat (tV D) (cW D) = x3 at Q3 L3
  obtain ⟨⟨r4, h40, z40, c4, u4⟩, ⟨Q4, cc4, uu4⟩, e251⟩ := T_251 (mc := 6000) (ms := 800000) (uc := c3) (us := u3) (M := 1000000) TW0 hLF o hB Q3 (fun k hk => by
    have := cat_le (tB D) 38 (fun k => (hBx k).1) (k + 1)
    rw [List.length_append]
    omega) (by omega) (by omega)
  dsimp only at Q4 cc4 uu4 e251
  have L4 : (x3 ++ cat (tB D) (cB D)).length ≤ 178 + 266 := by
    have := cat_le (tB D) 38 (fun k => (hBx k).1) (cB D)
    rw [List.length_append]
    omega
  generalize hx4 : x3 ++ cat (tB D) (cB D) = x4 at Q4 L4
  obtain ⟨⟨r5, h50, z50, c5, u5⟩, ⟨Q5, cc5, uu5⟩, e403⟩ := T_403 (mc := 6000) (ms := 800000) (uc := c4) (us := u4) (M := 1000000) TW0 hLF o hB Q4 (fun k hk => by
    have := cat_le (tT D) 10 (fun k => (hT k).1) (k + 1)
    rw [List.length_append]
    omega) (by omega) (by omega)
  dsimp only at Q5 cc5 uu5 e403
  have L5 : (x4 ++ cat (tT D) (cT D)).length ≤ 444 + 40 := by
    have := cat_le (tT D) 10 (fun k => (hT k).1) (cT D)
    rw [List.length_append]
    omega
  refine ⟨r5, h50, z50, ?_, ?_⟩
  · unfold f_L_text
    rw [zchk_t ⟨by omega, by omega⟩, zlet_eq, zchk_t ⟨by omega, by omega⟩, e1, zb2_some, zchk_t ⟨by omega, by omega⟩, e4, zb3_some]
    rw [(hLF _ (T_s TW0 hB F5)).2.2.2.2.2.1.1, Option.bind_some, zchk_t ⟨by omega, by omega⟩, e6, zb3_some, zchk_t ⟨by omega, by omega⟩, e9, zb3_some]
    rw [(hLF _ (T_s TW0 hB F10)).2.2.2.2.2.1.2, Option.bind_some, zchk_t ⟨by omega, by omega⟩, e11, zb3_some, zchk_t ⟨by omega, by omega⟩, e14, zb3_some]
    rw [zchk_t ⟨by omega, by omega⟩, e16, zb3_some]
    rw [e44, e93, e185, e251, e403, zchk_t ⟨by omega, by omega⟩]
  · rw [show tAll D = x4 ++ cat (tT D) (cT D) from by
      rw [← hx4, ← hx3, ← hx2, ← hx1]
      unfold tAll
      simp only [List.append_assoc]]
    exact Q5
end P98
