/-! PURE: the law makes its text -/
section P94
variable {hp0 h : zHp} {a b c r k n s sz z B0 mc ms uc us M : Nat} {ro : Nat → Nat} {xs : Nat → Int32} {l : List Nat} {D : Nat → Nat → Nat → Nat}
theorem zlet_eq {α β : Type} (a : α) (k : α → Option β) : zlet a k = k a := rfl
/-- the constants of the law's text, below c -/
def TW (c : Nat) (ro : Nat → Nat) (s n : Nat) (xs : Nat → Int32) (h : zHp) : Prop := (∀ i, i < 11 → wTxc h c (ro (17 + i)) (lwS i)) ∧ wDT h ro ∧ sc h s n xs ∧ ro 30 < c ∧ ro 31 < c ∧ s < c
theorem lw_len : (lwS 0).length = 12 ∧ (lwS 1).length = 15 ∧ (lwS 2).length = 1 ∧ (lwS 3).length = 6 ∧ (lwS 4).length = 0 ∧ (lwS 5).length = 7 ∧ (lwS 6).length = 4 ∧ (lwS 7).length = 5 ∧ (lwS 8).length = 1 ∧ (lwS 9).length = 4 ∧ (lwS 10).length = 6 := by decide
theorem nm_len (s k : Nat) : (nmB s k).length = 2 := rfl
theorem lwS_ok : ∀ i, i < 11 → (lwS i).length ≤ 15 ∧ ∀ k, k < (lwS i).length → (lwS i).getD k 0 < 128 := by decide
theorem T_c (TW0 : TW c ro s n xs hp0) (hB : c ≤ B0) (F : ∀ i, i < B0 → h i = hp0 i) {i j : Nat} (hi : i < 11) (hj : j = 17 + i) : ro j < c ∧ ∃ v, v < c ∧ sS h (ro j) v (lwS i) := by
  subst hj
  obtain ⟨e1, e2⟩ := lwS_ok i hi
  exact sS_c (txc_fr (TW0.1 i hi) (fun a ha => F a (by omega))) ⟨by omega, e2⟩ (by omega)
theorem T_e (TW0 : TW c ro s n xs hp0) (hB : c ≤ B0) (F : ∀ i, i < B0 → h i = hp0 i) : wTxc h c (ro 21) [] := txc_fr (TW0.1 4 (by decide)) (fun a ha => F a (by omega))
theorem T_d (TW0 : TW c ro s n xs hp0) (hB : c ≤ B0) (F : ∀ i, i < B0 → h i = hp0 i) : wDT h ro := by
  obtain ⟨-, ⟨⟨t1, t2, t3⟩, t4, t5, t6⟩, -, h1, h2, -⟩ := TW0
  exact ⟨⟨t1, by rw [F _ (by omega)]; exact t2, t3⟩, t4, by rw [F _ (by omega)]; exact t5, t6⟩
theorem T_s (TW0 : TW c ro s n xs hp0) (hB : c ≤ B0) (F : ∀ i, i < B0 → h i = hp0 i) : sc h s n xs := by
  have := TW0.2.2.2.2.2
  unfold sc
  rw [F s (by omega)]
  exact TW0.2.2.1
/-- the text so far, at r -/
def Q (hp0 : zHp) (B0 : Nat) (r : Nat) (h : zHp) (z : Nat) (l : List Nat) : Prop := sS h r (r + 1) l ∧ r + 2 ≤ z ∧ B0 ≤ r ∧ ∀ i, i < B0 → h i = hp0 i
abbrev TS : Type := Nat × zHp × Nat × Nat × Nat
theorem q_P (lk : List Nat) (k : Nat) : [] ++ lk ++ lwS 3 ++ nmB 0 k ++ lwS 2 = lk ++ tP D k := by
  rw [show lwS 3 = wPa ++ [32] from rfl, show lwS 2 = [59] from rfl]
  unfold tP
  simp only [List.append_assoc, List.cons_append, List.nil_append]
theorem q_R0 (lk : List Nat) (k : Nat) (h : D 2 k 0 = 0) : [] ++ lk ++ lwS 5 ++ nmB 1 k ++ lwS 4 ++ lwS 2 = lk ++ tR D k := by
  rw [show lwS 5 = wRe ++ [32] from rfl, show lwS 2 = [59] from rfl, show lwS 4 = [] from rfl]
  unfold tR
  rw [if_pos h]
  simp only [List.append_assoc, List.cons_append, List.nil_append]
theorem q_R1 (lk : List Nat) (k : Nat) (h : ¬ D 2 k 0 = 0) : [] ++ lk ++ lwS 5 ++ nmB 1 k ++ ([] ++ lwS 6 ++ nmB 1 (D 2 k 0 - 1)) ++ lwS 2 = lk ++ tR D k := by
  rw [show lwS 5 = wRe ++ [32] from rfl, show lwS 2 = [59] from rfl, show lwS 6 = 32 :: (wI ++ [32]) from rfl]
  unfold tR
  rw [if_neg h]
  simp only [List.append_assoc, List.cons_append, List.nil_append]
theorem q_W (lk : List Nat) (k : Nat) : [] ++ lk ++ lwS 7 ++ nmB 2 k ++ lwS 8 ++ nmB 1 (D 3 k 0) ++ lwS 2 = lk ++ tV D k := by
  rw [show lwS 7 = wWa ++ [32] from rfl, show lwS 2 = [59] from rfl, show lwS 8 = [32] from rfl]
  unfold tV
  simp only [List.append_assoc, List.cons_append, List.nil_append]
theorem q_T (lk : List Nat) (k : Nat) : [] ++ lk ++ lwS 10 ++ dl (D 8 k 0) ++ lwS 2 = lk ++ tT D k := by
  rw [show lwS 10 = wTa ++ [32] from rfl, show lwS 2 = [59] from rfl]
  unfold tT
  simp only [List.append_assoc, List.cons_append, List.nil_append]
def pp (D : Nat → Nat → Nat → Nat) (kb p : Nat) : List Nat := 32 :: dl (D 7 kb p)
theorem papL_cat (f : Nat → Nat) (r : List Nat) : ∀ d p, papL f d p r = catR (fun p => 32 :: dl (f p)) d p ++ r
  | 0, p => rfl
  | d + 1, p => by
    show 32 :: (dl (f p) ++ papL f d (p + 1) r) = ((32 :: dl (f p)) ++ catR (fun p => 32 :: dl (f p)) d (p + 1)) ++ r
    rw [papL_cat f r d (p + 1)]
    simp only [List.append_assoc, List.cons_append]
theorem q_pp (lk : List Nat) (kb k : Nat) : [] ++ lk ++ lwS 8 ++ dl (D 7 kb k) = lk ++ pp D kb k := by
  rw [show lwS 8 = [32] from rfl]
  unfold pp
  simp only [List.append_assoc, List.cons_append, List.nil_append]
theorem q_B (lk : List Nat) (k : Nat) : [] ++ ([] ++ lk ++ lwS 9 ++ nmB 3 k ++ lwS 8 ++ nmB 2 (D 4 k 0) ++ lwS 8 ++ dl (D 5 k 0) ++ lwS 8 ++ dl (D 6 k 0) ++ cat (pp D k) (cP D + 1)) ++ lwS 2 = lk ++ tB D k := by
  rw [show lwS 9 = wBo ++ [32] from rfl, show lwS 2 = [59] from rfl, show lwS 8 = [32] from rfl, cat_0]
  unfold tB
  rw [papL_cat]
  show _ = lk ++ (wBo ++ 32 :: (nmB 3 k ++ 32 :: (nmB 2 (D 4 k 0) ++ 32 :: (dl (D 5 k 0) ++ 32 :: (dl (D 6 k 0) ++ (catR (pp D k) (cP D + 1) 0 ++ [59]))))))
  simp only [List.append_assoc, List.cons_append, List.nil_append]
theorem q_H (D : Nat → Nat → Nat → Nat) : [] ++ lwS 0 ++ dl (D 1 0 0) ++ lwS 1 ++ dl (D 1 1 0) ++ lwS 2 = cat (tH D) 2 := by
  rw [show lwS 0 = wSe ++ 32 :: (wTr ++ [32]) from rfl, show lwS 2 = [59] from rfl, show lwS 1 = 59 :: (wSe ++ 32 :: (wTo ++ [32])) from rfl]
  show _ = ([] ++ tH D 0) ++ tH D 1
  unfold tH
  simp only [List.append_assoc, List.cons_append, List.nil_append, if_true, if_neg (show ¬ (1 : Nat) = 0 by decide)]
set_option maxHeartbeats 2000000 in
theorem T_44 (TW0 : TW c ro s n xs hp0) (hLF : ∀ h, sc h s n xs → LF D s h) (o : okD D) (hB : c ≤ B0) (Q0 : Q hp0 B0 r h z l) (hl : ∀ k, k < cP D → (l ++ cat (tP D) (k + 1)).length ≤ 500) (hr : uc + 12 * (cP D) ≤ mc ∧ us + 5988 * (cP D) ≤ ms) (hM : cP D < M) :
    ∃ t : TS, (Q hp0 B0 t.1 t.2.1 t.2.2.1 (l ++ cat (tP D) (cP D)) ∧ t.2.2.2.1 ≤ uc + 12 * (cP D) ∧ t.2.2.2.2 ≤ us + 5988 * (cP D)) ∧ ∀ K, l_L_text_44 ro mc ms K s M r 0 h z uc us = K t.1 t.2.1 t.2.2.1 t.2.2.2.1 t.2.2.2.2 := by
  obtain ⟨⟨p1, p2⟩, ⟨r1, r2⟩, ⟨w1, w2⟩, ⟨bb1, bb2⟩, ⟨tt1, tt2⟩, ⟨gg0, gg1⟩, o2, o3, o4, o5, o6, o7, o8⟩ := id o
  obtain ⟨n0, n1, n2, n3, n4, n5, n6, n7, n8, n9, n10⟩ := lw_len
  refine zXK (L := fun K m i (t : TS) => l_L_text_44 ro mc ms K s m t.1 (Int32.ofNat i) t.2.1 t.2.2.1 t.2.2.2.1 t.2.2.2.2) (cP D) (fun i (t : TS) => Q hp0 B0 t.1 t.2.1 t.2.2.1 (l ++ cat (tP D) i) ∧ t.2.2.2.1 ≤ uc + 12 * i ∧ t.2.2.2.2 ≤ us + 5988 * i) (s0 := (r, h, z, uc, us)) ⟨by rw [show cat (tP D) 0 = [] from rfl, List.append_nil]; exact Q0, by show uc ≤ uc + 12 * 0; omega, by show us ≤ us + 5988 * 0; omega⟩ (fun k t hk J => ?_) (K := fun K t => K t.1 t.2.1 t.2.2.1 t.2.2.2.1 t.2.2.2.2) (fun t J K m => ?_) hM
  · obtain ⟨r, h, z, uc1, us1⟩ := t
    obtain ⟨⟨S, q1, q2, F⟩, j2, j3⟩ := J
    dsimp only at S q1 q2 F j2 j3
    have hlk := hl k hk
    rw [show cat (tP D) (k + 1) = cat (tP D) k ++ (tP D) k from rfl, ← List.append_assoc] at hlk
    obtain ⟨lk, hlk0⟩ : ∃ lk, l ++ cat (tP D) k = lk := ⟨_, rfl⟩
    rw [hlk0] at S hlk
    have hU : 12 * (k + 1) ≤ 12 * (cP D) ∧ 5988 * (k + 1) ≤ 5988 * (cP D) := ⟨Nat.mul_le_mul_left _ hk, Nat.mul_le_mul_left _ hk⟩
    rw [← q_P lk k] at hlk
    simp only [List.length_append, List.length_nil, lw_len, nm_len] at hlk
    obtain ⟨h1, e1, X1, f1⟩ := X_new h z
    have F2 : ∀ i, i < B0 → h1 i = hp0 i := fun i hi => by rw [f1 i (by omega), F i hi]
    obtain ⟨h3, z3, t3, k3, e3, X3, g3, -, b3, f3⟩ := X_str (mc := 1) (ms := 1300) (sz := (z + 2)) X1 (by omega) (sS_fr S (f1 r (by omega)) (f1 (r + 1) (by omega))) (by simp only [List.length_append, List.length_nil, lw_len, nm_len]; omega) ⟨by omega, by omega, Or.inl ⟨by omega, by omega⟩⟩ (Or.inr ⟨Nat.le_refl _, by decide⟩)
    have F4 : ∀ i, i < B0 → h3 i = hp0 i := fun i hi => by rw [f3 i (by omega), F2 i hi]
    obtain ⟨q5, v5, w5, S5⟩ := T_c TW0 hB F4 (i := 3) (j := 20) (by decide) rfl
    obtain ⟨h6, z6, t6, k6, e6, X6, g6, -, b6, f6⟩ := X_str (mc := 1) (ms := 1300) (sz := z3) X3 (by omega) (r := ro 20) S5 (by simp only [List.length_append, List.length_nil, lw_len, nm_len]; omega) ⟨by omega, by omega, Or.inl ⟨by omega, by omega⟩⟩ (Or.inr ⟨Nat.le_refl _, by decide⟩)
    have F7 : ∀ i, i < B0 → h6 i = hp0 i := fun i hi => by rw [f6 i (by omega), F4 i hi]
    obtain ⟨h8, r8, z8, e8, S8, b8, f8⟩ := L_name (s := 0) (k := k) (T_e TW0 hB F7) (show c ≤ z6 by omega) (by decide) (show k < 8 by omega)
    have e8 : f_L_name ro 4 64 0 (Int32.ofNat (k)) h6 z6 = some (r8, h8, z8) := e8
    have X9 := X_fr X6 (h := h8) (fun i h1 h2 => f8 i (by omega))
    have F10 : ∀ i, i < B0 → h8 i = hp0 i := fun i hi => by rw [f8 i (by omega), F7 i hi]
    obtain ⟨h11, z11, t11, k11, e11, X11, g11, -, b11, f11⟩ := X_str (mc := 1) (ms := 1300) (sz := z8) X9 (by omega) S8 (by simp only [List.length_append, List.length_nil, lw_len, nm_len]; omega) ⟨by omega, by omega, Or.inr ⟨by omega, by omega⟩⟩ (Or.inr ⟨Nat.le_refl _, by decide⟩)
    have F12 : ∀ i, i < B0 → h11 i = hp0 i := fun i hi => by rw [f11 i (by omega), F10 i hi]
    obtain ⟨q13, v13, w13, S13⟩ := T_c TW0 hB F12 (i := 2) (j := 19) (by decide) rfl
    obtain ⟨h14, z14, t14, k14, e14, X14, g14, -, b14, f14⟩ := X_str (mc := 1) (ms := 1300) (sz := z11) X11 (by omega) (r := ro 19) S13 (by simp only [List.length_append, List.length_nil, lw_len, nm_len]; omega) ⟨by omega, by omega, Or.inl ⟨by omega, by omega⟩⟩ (Or.inr ⟨Nat.le_refl _, by decide⟩)
    have F15 : ∀ i, i < B0 → h14 i = hp0 i := fun i hi => by rw [f14 i (by omega), F12 i hi]
    obtain ⟨h16, e16, S16, f16⟩ := X_toS (mc := 2) (ms := 704) (sz := z14) X14 (by omega) ⟨Nat.le_refl _, (by simp only [List.length_append, List.length_nil, lw_len, nm_len]; omega)⟩
    have F17 : ∀ i, i < B0 → h16 i = hp0 i := fun i hi => by rw [f16 i (by omega), F15 i hi]
    refine ⟨(z14, h16, (z14 + 2), ((((((((uc1 + 1) + 1) + 1) + 1) + 4) + 1) + 1) + 2), ((((((((us1 + 4) + 16) + 1300) + 1300) + 64) + 1300) + 1300) + 704)), ⟨⟨?_, Nat.le_refl _, by show B0 ≤ z14; omega, F17⟩, by show ((((((((uc1 + 1) + 1) + 1) + 1) + 4) + 1) + 1) + 2) ≤ uc + 12 * (k + 1); omega, by show ((((((((us1 + 4) + 16) + 1300) + 1300) + 64) + 1300) + 1300) + 704) ≤ us + 5988 * (k + 1); omega⟩, fun K m => ?_⟩
    · rw [show cat (tP D) (k + 1) = cat (tP D) k ++ (tP D) k from rfl, ← List.append_assoc, hlk0, ← q_P lk k]
      exact S16
    · show l_L_text_44 ro mc ms K s (m + 1) r (Int32.ofNat k) h z uc1 us1 = l_L_text_44 ro mc ms K s m z14 (Int32.ofNat (k + 1)) h16 (z14 + 2) ((((((((uc1 + 1) + 1) + 1) + 1) + 4) + 1) + 1) + 2) ((((((((us1 + 4) + 16) + 1300) + 1300) + 64) + 1300) + 1300) + 704)
      rw [l_L_text_44_s]
      unfold b_L_text_44
      rw [zchk_t ⟨by omega, by omega⟩, (hLF _ (T_s TW0 hB F)).1, Option.bind_some, if_pos (by rw [pn_lt (by omega) (by omega)]; exact hk)]
      rw [zchk_t ⟨by omega, by omega⟩, zlet_eq, zchk_t ⟨by omega, by omega⟩, e1, zb2_some, zchk_t ⟨by omega, by omega⟩, e3, zb3_some]
      rw [zchk_t ⟨by omega, by omega⟩, e6, zb3_some, zchk_t ⟨by omega, by omega⟩, e8, zb3_some, zchk_t ⟨by omega, by omega⟩, e11]
      rw [zb3_some, zchk_t ⟨by omega, by omega⟩, e14, zb3_some, zchk_t ⟨by omega, by omega⟩, e16, zb3_some]
      rw [zlet_eq, pn_succ]
  · obtain ⟨r, h, z, uc1, us1⟩ := t
    obtain ⟨⟨S, q1, q2, F⟩, j2, j3⟩ := J
    dsimp only at S q1 q2 F j2 j3
    show l_L_text_44 ro mc ms K s (m + 1) r (Int32.ofNat (cP D)) h z uc1 us1 = K r h z uc1 us1
    rw [l_L_text_44_s]
    unfold b_L_text_44
    rw [zchk_t ⟨by omega, by omega⟩, (hLF _ (T_s TW0 hB F)).1, Option.bind_some, if_neg Int32.lt_irrefl]
set_option maxHeartbeats 2000000 in
theorem T_93 (TW0 : TW c ro s n xs hp0) (hLF : ∀ h, sc h s n xs → LF D s h) (o : okD D) (hB : c ≤ B0) (Q0 : Q hp0 B0 r h z l) (hl : ∀ k, k < cR D → (l ++ cat (tR D) (k + 1)).length ≤ 500) (hr : uc + 23 * (cR D) ≤ mc ∧ us + 10676 * (cR D) ≤ ms) (hM : cR D < M) :
    ∃ t : TS, (Q hp0 B0 t.1 t.2.1 t.2.2.1 (l ++ cat (tR D) (cR D)) ∧ t.2.2.2.1 ≤ uc + 23 * (cR D) ∧ t.2.2.2.2 ≤ us + 10676 * (cR D)) ∧ ∀ K, l_L_text_93 ro mc ms K s M r 0 h z uc us = K t.1 t.2.1 t.2.2.1 t.2.2.2.1 t.2.2.2.2 := by
  obtain ⟨⟨p1, p2⟩, ⟨r1, r2⟩, ⟨w1, w2⟩, ⟨bb1, bb2⟩, ⟨tt1, tt2⟩, ⟨gg0, gg1⟩, o2, o3, o4, o5, o6, o7, o8⟩ := id o
  obtain ⟨n0, n1, n2, n3, n4, n5, n6, n7, n8, n9, n10⟩ := lw_len
  refine zXK (L := fun K m i (t : TS) => l_L_text_93 ro mc ms K s m t.1 (Int32.ofNat i) t.2.1 t.2.2.1 t.2.2.2.1 t.2.2.2.2) (cR D) (fun i (t : TS) => Q hp0 B0 t.1 t.2.1 t.2.2.1 (l ++ cat (tR D) i) ∧ t.2.2.2.1 ≤ uc + 23 * i ∧ t.2.2.2.2 ≤ us + 10676 * i) (s0 := (r, h, z, uc, us)) ⟨by rw [show cat (tR D) 0 = [] from rfl, List.append_nil]; exact Q0, by show uc ≤ uc + 23 * 0; omega, by show us ≤ us + 10676 * 0; omega⟩ (fun k t hk J => ?_) (K := fun K t => K t.1 t.2.1 t.2.2.1 t.2.2.2.1 t.2.2.2.2) (fun t J K m => ?_) hM
  · obtain ⟨r, h, z, uc1, us1⟩ := t
    obtain ⟨⟨S, q1, q2, F⟩, j2, j3⟩ := J
    dsimp only at S q1 q2 F j2 j3
    have hlk := hl k hk
    rw [show cat (tR D) (k + 1) = cat (tR D) k ++ (tR D) k from rfl, ← List.append_assoc] at hlk
    obtain ⟨lk, hlk0⟩ : ∃ lk, l ++ cat (tR D) k = lk := ⟨_, rfl⟩
    rw [hlk0] at S hlk
    have hU : 23 * (k + 1) ≤ 23 * (cR D) ∧ 10676 * (k + 1) ≤ 10676 * (cR D) := ⟨Nat.mul_le_mul_left _ hk, Nat.mul_le_mul_left _ hk⟩
    have LFk := fun h (q : sc h s n xs) => (hLF h q).2.2.2.2.2.2 k (by omega)
    have hd2 := o2 k
    by_cases h0 : D 2 k 0 = 0
    · rw [← q_R0 lk k h0] at hlk
      simp only [List.length_append, List.length_nil, lw_len, nm_len] at hlk
      obtain ⟨h1, e1, X1, f1⟩ := X_new h z
      have F2 : ∀ i, i < B0 → h1 i = hp0 i := fun i hi => by rw [f1 i (by omega), F i hi]
      obtain ⟨h3, z3, t3, k3, e3, X3, g3, -, b3, f3⟩ := X_str (mc := 1) (ms := 1300) (sz := (z + 2)) X1 (by omega) (sS_fr S (f1 r (by omega)) (f1 (r + 1) (by omega))) (by simp only [List.length_append, List.length_nil, lw_len, nm_len]; omega) ⟨by omega, by omega, Or.inl ⟨by omega, by omega⟩⟩ (Or.inr ⟨Nat.le_refl _, by decide⟩)
      have F4 : ∀ i, i < B0 → h3 i = hp0 i := fun i hi => by rw [f3 i (by omega), F2 i hi]
      obtain ⟨q5, v5, w5, S5⟩ := T_c TW0 hB F4 (i := 5) (j := 22) (by decide) rfl
      obtain ⟨h6, z6, t6, k6, e6, X6, g6, -, b6, f6⟩ := X_str (mc := 1) (ms := 1300) (sz := z3) X3 (by omega) (r := ro 22) S5 (by simp only [List.length_append, List.length_nil, lw_len, nm_len]; omega) ⟨by omega, by omega, Or.inl ⟨by omega, by omega⟩⟩ (Or.inr ⟨Nat.le_refl _, by decide⟩)
      have F7 : ∀ i, i < B0 → h6 i = hp0 i := fun i hi => by rw [f6 i (by omega), F4 i hi]
      obtain ⟨h8, r8, z8, e8, S8, b8, f8⟩ := L_name (s := 1) (k := k) (T_e TW0 hB F7) (show c ≤ z6 by omega) (by decide) (show k < 8 by omega)
      have e8 : f_L_name ro 4 64 1 (Int32.ofNat (k)) h6 z6 = some (r8, h8, z8) := e8
      have X9 := X_fr X6 (h := h8) (fun i h1 h2 => f8 i (by omega))
      have F10 : ∀ i, i < B0 → h8 i = hp0 i := fun i hi => by rw [f8 i (by omega), F7 i hi]
      obtain ⟨h11, z11, t11, k11, e11, X11, g11, -, b11, f11⟩ := X_str (mc := 1) (ms := 1300) (sz := z8) X9 (by omega) S8 (by simp only [List.length_append, List.length_nil, lw_len, nm_len]; omega) ⟨by omega, by omega, Or.inr ⟨by omega, by omega⟩⟩ (Or.inr ⟨Nat.le_refl _, by decide⟩)
      have F12 : ∀ i, i < B0 → h11 i = hp0 i := fun i hi => by rw [f11 i (by omega), F10 i hi]
      obtain ⟨q13, v13, w13, S13⟩ := T_c TW0 hB F12 (i := 4) (j := 21) (by decide) rfl
      obtain ⟨h14, z14, t14, k14, e14, X14, g14, -, b14, f14⟩ := X_str (mc := 1) (ms := 1300) (sz := z11) X11 (by omega) (r := ro 21) S13 (by simp only [List.length_append, List.length_nil, lw_len, nm_len]; omega) ⟨by omega, by omega, Or.inl ⟨by omega, by omega⟩⟩ (Or.inr ⟨Nat.le_refl _, by decide⟩)
      have F15 : ∀ i, i < B0 → h14 i = hp0 i := fun i hi => by rw [f14 i (by omega), F12 i hi]
      obtain ⟨q16, v16, w16, S16⟩ := T_c TW0 hB F15 (i := 2) (j := 19) (by decide) rfl
      obtain ⟨h17, z17, t17, k17, e17, X17, g17, -, b17, f17⟩ := X_str (mc := 1) (ms := 1300) (sz := z14) X14 (by omega) (r := ro 19) S16 (by simp only [List.length_append, List.length_nil, lw_len, nm_len]; omega) ⟨by omega, by omega, Or.inl ⟨by omega, by omega⟩⟩ (Or.inr ⟨Nat.le_refl _, by decide⟩)
      have F18 : ∀ i, i < B0 → h17 i = hp0 i := fun i hi => by rw [f17 i (by omega), F15 i hi]
      obtain ⟨h19, e19, S19, f19⟩ := X_toS (mc := 2) (ms := 704) (sz := z17) X17 (by omega) ⟨Nat.le_refl _, (by simp only [List.length_append, List.length_nil, lw_len, nm_len]; omega)⟩
      have F20 : ∀ i, i < B0 → h19 i = hp0 i := fun i hi => by rw [f19 i (by omega), F18 i hi]
      refine ⟨(z17, h19, (z17 + 2), (((((((((uc1 + 1) + 1) + 1) + 1) + 4) + 1) + 1) + 1) + 2), (((((((((us1 + 4) + 16) + 1300) + 1300) + 64) + 1300) + 1300) + 1300) + 704)), ⟨⟨?_, Nat.le_refl _, by show B0 ≤ z17; omega, F20⟩, by show (((((((((uc1 + 1) + 1) + 1) + 1) + 4) + 1) + 1) + 1) + 2) ≤ uc + 23 * (k + 1); omega, by show (((((((((us1 + 4) + 16) + 1300) + 1300) + 64) + 1300) + 1300) + 1300) + 704) ≤ us + 10676 * (k + 1); omega⟩, fun K m => ?_⟩
      · rw [show cat (tR D) (k + 1) = cat (tR D) k ++ (tR D) k from rfl, ← List.append_assoc, hlk0, ← q_R0 lk k h0]
        exact S19
      · show l_L_text_93 ro mc ms K s (m + 1) r (Int32.ofNat k) h z uc1 us1 = l_L_text_93 ro mc ms K s m z17 (Int32.ofNat (k + 1)) h19 (z17 + 2) (((((((((uc1 + 1) + 1) + 1) + 1) + 4) + 1) + 1) + 1) + 2) (((((((((us1 + 4) + 16) + 1300) + 1300) + 64) + 1300) + 1300) + 1300) + 704)
        rw [l_L_text_93_s]
        unfold b_L_text_93
        rw [zchk_t ⟨by omega, by omega⟩, (hLF _ (T_s TW0 hB F)).2.1, Option.bind_some, if_pos (by rw [pn_lt (by omega) (by omega)]; exact hk)]
        rw [zchk_t ⟨by omega, by omega⟩, zlet_eq, zchk_t ⟨by omega, by omega⟩, e1, zb2_some, zchk_t ⟨by omega, by omega⟩, e3, zb3_some]
        rw [zchk_t ⟨by omega, by omega⟩, e6, zb3_some, zchk_t ⟨by omega, by omega⟩, e8, zb3_some, zchk_t ⟨by omega, by omega⟩, e11]
        rw [zb3_some, (LFk _ (T_s TW0 hB F12)).1, Option.bind_some, if_pos h0, if_pos (show (-1 : Int32) < 0 by decide), show ∀ k183 rec x2 s0 s1 h sz uc us, j_L_text_165 ro mc ms k183 rec s x2 s0 s1 h sz uc us = (zchk (uc + 1 ≤ mc ∧ us + 1300 ≤ ms) <| zb3 (f_J4_append_15ec4 1 1300 s0 s1 h sz) fun r118 h116 z117 => zchk ((uc + 1) + 1 ≤ mc ∧ (us + 1300) + 1300 ≤ ms) <| zb3 (f_J4_append_15ec4 1 1300 r118 (ro 19) h116 z117) fun r122 h120 z121 => zchk (((uc + 1) + 1) + 2 ≤ mc ∧ ((us + 1300) + 1300) + 704 ≤ ms) <| zb3 (f_J4_toString_0e30d 2 704 r122 h120 z121) fun r126 h124 z125 => zlet (x2 + (1 : Int32)) fun v127 => rec r126 v127 h124 z125 ((((uc + 1) + 1) + 2)) ((((us + 1300) + 1300) + 704))) from fun _ _ _ _ _ _ _ _ _ => rfl, zchk_t ⟨by omega, by omega⟩, e14]
        rw [zb3_some, zchk_t ⟨by omega, by omega⟩, e17, zb3_some, zchk_t ⟨by omega, by omega⟩, e19, zb3_some]
        rw [zlet_eq, pn_succ]
    · rw [← q_R1 lk k h0] at hlk
      simp only [List.length_append, List.length_nil, lw_len, nm_len] at hlk
      obtain ⟨h1, e1, X1, f1⟩ := X_new h z
      have F2 : ∀ i, i < B0 → h1 i = hp0 i := fun i hi => by rw [f1 i (by omega), F i hi]
      obtain ⟨h3, z3, t3, k3, e3, X3, g3, -, b3, f3⟩ := X_str (mc := 1) (ms := 1300) (sz := (z + 2)) X1 (by omega) (sS_fr S (f1 r (by omega)) (f1 (r + 1) (by omega))) (by simp only [List.length_append, List.length_nil, lw_len, nm_len]; omega) ⟨by omega, by omega, Or.inl ⟨by omega, by omega⟩⟩ (Or.inr ⟨Nat.le_refl _, by decide⟩)
      have F4 : ∀ i, i < B0 → h3 i = hp0 i := fun i hi => by rw [f3 i (by omega), F2 i hi]
      obtain ⟨q5, v5, w5, S5⟩ := T_c TW0 hB F4 (i := 5) (j := 22) (by decide) rfl
      obtain ⟨h6, z6, t6, k6, e6, X6, g6, -, b6, f6⟩ := X_str (mc := 1) (ms := 1300) (sz := z3) X3 (by omega) (r := ro 22) S5 (by simp only [List.length_append, List.length_nil, lw_len, nm_len]; omega) ⟨by omega, by omega, Or.inl ⟨by omega, by omega⟩⟩ (Or.inr ⟨Nat.le_refl _, by decide⟩)
      have F7 : ∀ i, i < B0 → h6 i = hp0 i := fun i hi => by rw [f6 i (by omega), F4 i hi]
      obtain ⟨h8, r8, z8, e8, S8, b8, f8⟩ := L_name (s := 1) (k := k) (T_e TW0 hB F7) (show c ≤ z6 by omega) (by decide) (show k < 8 by omega)
      have e8 : f_L_name ro 4 64 1 (Int32.ofNat (k)) h6 z6 = some (r8, h8, z8) := e8
      have X9 := X_fr X6 (h := h8) (fun i h1 h2 => f8 i (by omega))
      have F10 : ∀ i, i < B0 → h8 i = hp0 i := fun i hi => by rw [f8 i (by omega), F7 i hi]
      obtain ⟨h11, z11, t11, k11, e11, X11, g11, -, b11, f11⟩ := X_str (mc := 1) (ms := 1300) (sz := z8) X9 (by omega) S8 (by simp only [List.length_append, List.length_nil, lw_len, nm_len]; omega) ⟨by omega, by omega, Or.inr ⟨by omega, by omega⟩⟩ (Or.inr ⟨Nat.le_refl _, by decide⟩)
      have F12 : ∀ i, i < B0 → h11 i = hp0 i := fun i hi => by rw [f11 i (by omega), F10 i hi]
      obtain ⟨h13, e13, X13, f13⟩ := X_new h11 z11
      have F14 : ∀ i, i < B0 → h13 i = hp0 i := fun i hi => by rw [f13 i (by omega), F12 i hi]
      have X15 := X_fr X11 (h := h13) (fun i h1 h2 => f13 i (by omega))
      obtain ⟨q16, v16, w16, S16⟩ := T_c TW0 hB F14 (i := 6) (j := 23) (by decide) rfl
      obtain ⟨h17, z17, t17, k17, e17, X17, g17, -, b17, f17⟩ := X_str (mc := 1) (ms := 1300) (sz := (z11 + 2)) X13 (by omega) (r := ro 23) S16 (by simp only [List.length_append, List.length_nil, lw_len, nm_len]; omega) ⟨by omega, by omega, Or.inl ⟨by omega, by omega⟩⟩ (Or.inr ⟨Nat.le_refl _, by decide⟩)
      have F18 : ∀ i, i < B0 → h17 i = hp0 i := fun i hi => by rw [f17 i (by omega), F14 i hi]
      have X19 := X_fr X15 (h := h17) (fun i h1 h2 => f17 i (by omega))
      obtain ⟨h20, r20, z20, e20, S20, b20, f20⟩ := L_name (s := 1) (k := D 2 k 0 - 1) (T_e TW0 hB F18) (show c ≤ z17 by omega) (by decide) (show D 2 k 0 - 1 < 8 by omega)
      have e20 : f_L_name ro 4 64 1 (Int32.ofNat (D 2 k 0 - 1)) h17 z17 = some (r20, h20, z20) := e20
      have X21 := X_fr X19 (h := h20) (fun i h1 h2 => f20 i (by omega))
      have X22 := X_fr X17 (h := h20) (fun i h1 h2 => f20 i (by omega))
      have F23 : ∀ i, i < B0 → h20 i = hp0 i := fun i hi => by rw [f20 i (by omega), F18 i hi]
      obtain ⟨h24, z24, t24, k24, e24, X24, g24, -, b24, f24⟩ := X_str (mc := 1) (ms := 1300) (sz := z20) X22 (by omega) S20 (by simp only [List.length_append, List.length_nil, lw_len, nm_len]; omega) ⟨by omega, by omega, Or.inr ⟨by omega, by omega⟩⟩ (Or.inr ⟨Nat.le_refl _, by decide⟩)
      have F25 : ∀ i, i < B0 → h24 i = hp0 i := fun i hi => by rw [f24 i (by omega), F23 i hi]
      have X26 := X_fr X21 (h := h24) (fun i h1 h2 => f24 i (by omega))
      obtain ⟨h27, e27, S27, f27⟩ := X_toS (mc := 2) (ms := 704) (sz := z24) X24 (by omega) ⟨Nat.le_refl _, (by simp only [List.length_append, List.length_nil, lw_len, nm_len]; omega)⟩
      have X28 := X_fr X26 (h := h27) (fun i h1 h2 => f27 i (by omega))
      have F29 : ∀ i, i < B0 → h27 i = hp0 i := fun i hi => by rw [f27 i (by omega), F25 i hi]
      obtain ⟨h30, z30, t30, k30, e30, X30, g30, -, b30, f30⟩ := X_str (mc := 1) (ms := 1300) (sz := (z24 + 2)) X28 (by omega) S27 (by simp only [List.length_append, List.length_nil, lw_len, nm_len]; omega) ⟨by omega, by omega, Or.inr ⟨by omega, by omega⟩⟩ (Or.inr ⟨Nat.le_refl _, by decide⟩)
      have F31 : ∀ i, i < B0 → h30 i = hp0 i := fun i hi => by rw [f30 i (by omega), F29 i hi]
      obtain ⟨q32, v32, w32, S32⟩ := T_c TW0 hB F31 (i := 2) (j := 19) (by decide) rfl
      obtain ⟨h33, z33, t33, k33, e33, X33, g33, -, b33, f33⟩ := X_str (mc := 1) (ms := 1300) (sz := z30) X30 (by omega) (r := ro 19) S32 (by simp only [List.length_append, List.length_nil, lw_len, nm_len]; omega) ⟨by omega, by omega, Or.inl ⟨by omega, by omega⟩⟩ (Or.inr ⟨Nat.le_refl _, by decide⟩)
      have F34 : ∀ i, i < B0 → h33 i = hp0 i := fun i hi => by rw [f33 i (by omega), F31 i hi]
      obtain ⟨h35, e35, S35, f35⟩ := X_toS (mc := 2) (ms := 704) (sz := z33) X33 (by omega) ⟨Nat.le_refl _, (by simp only [List.length_append, List.length_nil, lw_len, nm_len]; omega)⟩
      have F36 : ∀ i, i < B0 → h35 i = hp0 i := fun i hi => by rw [f35 i (by omega), F34 i hi]
      refine ⟨(z33, h35, (z33 + 2), (((((((((((((((uc1 + 1) + 1) + 1) + 1) + 4) + 1) + 1) + 1) + 1) + 4) + 1) + 2) + 1) + 1) + 2), (((((((((((((((us1 + 4) + 16) + 1300) + 1300) + 64) + 1300) + 4) + 16) + 1300) + 64) + 1300) + 704) + 1300) + 1300) + 704)), ⟨⟨?_, Nat.le_refl _, by show B0 ≤ z33; omega, F36⟩, by show (((((((((((((((uc1 + 1) + 1) + 1) + 1) + 4) + 1) + 1) + 1) + 1) + 4) + 1) + 2) + 1) + 1) + 2) ≤ uc + 23 * (k + 1); omega, by show (((((((((((((((us1 + 4) + 16) + 1300) + 1300) + 64) + 1300) + 4) + 16) + 1300) + 64) + 1300) + 704) + 1300) + 1300) + 704) ≤ us + 10676 * (k + 1); omega⟩, fun K m => ?_⟩
      · rw [show cat (tR D) (k + 1) = cat (tR D) k ++ (tR D) k from rfl, ← List.append_assoc, hlk0, ← q_R1 lk k h0]
        exact S35
      · show l_L_text_93 ro mc ms K s (m + 1) r (Int32.ofNat k) h z uc1 us1 = l_L_text_93 ro mc ms K s m z33 (Int32.ofNat (k + 1)) h35 (z33 + 2) (((((((((((((((uc1 + 1) + 1) + 1) + 1) + 4) + 1) + 1) + 1) + 1) + 4) + 1) + 2) + 1) + 1) + 2) (((((((((((((((us1 + 4) + 16) + 1300) + 1300) + 64) + 1300) + 4) + 16) + 1300) + 64) + 1300) + 704) + 1300) + 1300) + 704)
        rw [l_L_text_93_s]
        unfold b_L_text_93
        rw [zchk_t ⟨by omega, by omega⟩, (hLF _ (T_s TW0 hB F)).2.1, Option.bind_some, if_pos (by rw [pn_lt (by omega) (by omega)]; exact hk)]
        rw [zchk_t ⟨by omega, by omega⟩, zlet_eq, zchk_t ⟨by omega, by omega⟩, e1, zb2_some, zchk_t ⟨by omega, by omega⟩, e3, zb3_some]
        rw [zchk_t ⟨by omega, by omega⟩, e6, zb3_some, zchk_t ⟨by omega, by omega⟩, e8, zb3_some, zchk_t ⟨by omega, by omega⟩, e11]
        rw [zb3_some, (LFk _ (T_s TW0 hB F12)).1, Option.bind_some, if_neg h0, if_neg (pn_neg (show D 2 k 0 - 1 < 2147483648 by omega)), zchk_t ⟨by omega, by omega⟩, zlet_eq, zchk_t ⟨by omega, by omega⟩]
        rw [e13, zb2_some, zchk_t ⟨by omega, by omega⟩, e17, zb3_some, (LFk _ (T_s TW0 hB F18)).1, Option.bind_some, if_neg h0]
        rw [zchk_t ⟨by omega, by omega⟩, e20, zb3_some, zchk_t ⟨by omega, by omega⟩, e24, zb3_some, zchk_t ⟨by omega, by omega⟩, e27]
        rw [zb3_some, show ∀ k183 rec x2 s0 s1 h sz uc us, j_L_text_165 ro mc ms k183 rec s x2 s0 s1 h sz uc us = (zchk (uc + 1 ≤ mc ∧ us + 1300 ≤ ms) <| zb3 (f_J4_append_15ec4 1 1300 s0 s1 h sz) fun r118 h116 z117 => zchk ((uc + 1) + 1 ≤ mc ∧ (us + 1300) + 1300 ≤ ms) <| zb3 (f_J4_append_15ec4 1 1300 r118 (ro 19) h116 z117) fun r122 h120 z121 => zchk (((uc + 1) + 1) + 2 ≤ mc ∧ ((us + 1300) + 1300) + 704 ≤ ms) <| zb3 (f_J4_toString_0e30d 2 704 r122 h120 z121) fun r126 h124 z125 => zlet (x2 + (1 : Int32)) fun v127 => rec r126 v127 h124 z125 ((((uc + 1) + 1) + 2)) ((((us + 1300) + 1300) + 704))) from fun _ _ _ _ _ _ _ _ _ => rfl, zchk_t ⟨by omega, by omega⟩, e30, zb3_some, zchk_t ⟨by omega, by omega⟩, e33, zb3_some]
        rw [zchk_t ⟨by omega, by omega⟩, e35, zb3_some]
        rw [zlet_eq, pn_succ]
  · obtain ⟨r, h, z, uc1, us1⟩ := t
    obtain ⟨⟨S, q1, q2, F⟩, j2, j3⟩ := J
    dsimp only at S q1 q2 F j2 j3
    show l_L_text_93 ro mc ms K s (m + 1) r (Int32.ofNat (cR D)) h z uc1 us1 = K r h z uc1 us1
    rw [l_L_text_93_s]
    unfold b_L_text_93
    rw [zchk_t ⟨by omega, by omega⟩, (hLF _ (T_s TW0 hB F)).2.1, Option.bind_some, if_neg Int32.lt_irrefl]
set_option maxHeartbeats 2000000 in
theorem T_185 (TW0 : TW c ro s n xs hp0) (hLF : ∀ h, sc h s n xs → LF D s h) (o : okD D) (hB : c ≤ B0) (Q0 : Q hp0 B0 r h z l) (hl : ∀ k, k < cW D → (l ++ cat (tV D) (k + 1)).length ≤ 500) (hr : uc + 18 * (cW D) ≤ mc ∧ us + 8652 * (cW D) ≤ ms) (hM : cW D < M) :
    ∃ t : TS, (Q hp0 B0 t.1 t.2.1 t.2.2.1 (l ++ cat (tV D) (cW D)) ∧ t.2.2.2.1 ≤ uc + 18 * (cW D) ∧ t.2.2.2.2 ≤ us + 8652 * (cW D)) ∧ ∀ K, l_L_text_185 ro mc ms K s M r 0 h z uc us = K t.1 t.2.1 t.2.2.1 t.2.2.2.1 t.2.2.2.2 := by
  obtain ⟨⟨p1, p2⟩, ⟨r1, r2⟩, ⟨w1, w2⟩, ⟨bb1, bb2⟩, ⟨tt1, tt2⟩, ⟨gg0, gg1⟩, o2, o3, o4, o5, o6, o7, o8⟩ := id o
  obtain ⟨n0, n1, n2, n3, n4, n5, n6, n7, n8, n9, n10⟩ := lw_len
  refine zXK (L := fun K m i (t : TS) => l_L_text_185 ro mc ms K s m t.1 (Int32.ofNat i) t.2.1 t.2.2.1 t.2.2.2.1 t.2.2.2.2) (cW D) (fun i (t : TS) => Q hp0 B0 t.1 t.2.1 t.2.2.1 (l ++ cat (tV D) i) ∧ t.2.2.2.1 ≤ uc + 18 * i ∧ t.2.2.2.2 ≤ us + 8652 * i) (s0 := (r, h, z, uc, us)) ⟨by rw [show cat (tV D) 0 = [] from rfl, List.append_nil]; exact Q0, by show uc ≤ uc + 18 * 0; omega, by show us ≤ us + 8652 * 0; omega⟩ (fun k t hk J => ?_) (K := fun K t => K t.1 t.2.1 t.2.2.1 t.2.2.2.1 t.2.2.2.2) (fun t J K m => ?_) hM
  · obtain ⟨r, h, z, uc1, us1⟩ := t
    obtain ⟨⟨S, q1, q2, F⟩, j2, j3⟩ := J
    dsimp only at S q1 q2 F j2 j3
    have hlk := hl k hk
    rw [show cat (tV D) (k + 1) = cat (tV D) k ++ (tV D) k from rfl, ← List.append_assoc] at hlk
    obtain ⟨lk, hlk0⟩ : ∃ lk, l ++ cat (tV D) k = lk := ⟨_, rfl⟩
    rw [hlk0] at S hlk
    have hU : 18 * (k + 1) ≤ 18 * (cW D) ∧ 8652 * (k + 1) ≤ 8652 * (cW D) := ⟨Nat.mul_le_mul_left _ hk, Nat.mul_le_mul_left _ hk⟩
    have LFk := fun h (q : sc h s n xs) => (hLF h q).2.2.2.2.2.2 k (by omega)
    have hd3 := o3 k
    rw [← q_W lk k] at hlk
    simp only [List.length_append, List.length_nil, lw_len, nm_len] at hlk
    obtain ⟨h1, e1, X1, f1⟩ := X_new h z
    have F2 : ∀ i, i < B0 → h1 i = hp0 i := fun i hi => by rw [f1 i (by omega), F i hi]
    obtain ⟨h3, z3, t3, k3, e3, X3, g3, -, b3, f3⟩ := X_str (mc := 1) (ms := 1300) (sz := (z + 2)) X1 (by omega) (sS_fr S (f1 r (by omega)) (f1 (r + 1) (by omega))) (by simp only [List.length_append, List.length_nil, lw_len, nm_len]; omega) ⟨by omega, by omega, Or.inl ⟨by omega, by omega⟩⟩ (Or.inr ⟨Nat.le_refl _, by decide⟩)
    have F4 : ∀ i, i < B0 → h3 i = hp0 i := fun i hi => by rw [f3 i (by omega), F2 i hi]
    obtain ⟨q5, v5, w5, S5⟩ := T_c TW0 hB F4 (i := 7) (j := 24) (by decide) rfl
    obtain ⟨h6, z6, t6, k6, e6, X6, g6, -, b6, f6⟩ := X_str (mc := 1) (ms := 1300) (sz := z3) X3 (by omega) (r := ro 24) S5 (by simp only [List.length_append, List.length_nil, lw_len, nm_len]; omega) ⟨by omega, by omega, Or.inl ⟨by omega, by omega⟩⟩ (Or.inr ⟨Nat.le_refl _, by decide⟩)
    have F7 : ∀ i, i < B0 → h6 i = hp0 i := fun i hi => by rw [f6 i (by omega), F4 i hi]
    obtain ⟨h8, r8, z8, e8, S8, b8, f8⟩ := L_name (s := 2) (k := k) (T_e TW0 hB F7) (show c ≤ z6 by omega) (by decide) (show k < 8 by omega)
    have e8 : f_L_name ro 4 64 2 (Int32.ofNat (k)) h6 z6 = some (r8, h8, z8) := e8
    have X9 := X_fr X6 (h := h8) (fun i h1 h2 => f8 i (by omega))
    have F10 : ∀ i, i < B0 → h8 i = hp0 i := fun i hi => by rw [f8 i (by omega), F7 i hi]
    obtain ⟨h11, z11, t11, k11, e11, X11, g11, -, b11, f11⟩ := X_str (mc := 1) (ms := 1300) (sz := z8) X9 (by omega) S8 (by simp only [List.length_append, List.length_nil, lw_len, nm_len]; omega) ⟨by omega, by omega, Or.inr ⟨by omega, by omega⟩⟩ (Or.inr ⟨Nat.le_refl _, by decide⟩)
    have F12 : ∀ i, i < B0 → h11 i = hp0 i := fun i hi => by rw [f11 i (by omega), F10 i hi]
    obtain ⟨q13, v13, w13, S13⟩ := T_c TW0 hB F12 (i := 8) (j := 25) (by decide) rfl
    obtain ⟨h14, z14, t14, k14, e14, X14, g14, -, b14, f14⟩ := X_str (mc := 1) (ms := 1300) (sz := z11) X11 (by omega) (r := ro 25) S13 (by simp only [List.length_append, List.length_nil, lw_len, nm_len]; omega) ⟨by omega, by omega, Or.inl ⟨by omega, by omega⟩⟩ (Or.inr ⟨Nat.le_refl _, by decide⟩)
    have F15 : ∀ i, i < B0 → h14 i = hp0 i := fun i hi => by rw [f14 i (by omega), F12 i hi]
    obtain ⟨h16, r16, z16, e16, S16, b16, f16⟩ := L_name (s := 1) (k := D 3 k 0) (T_e TW0 hB F15) (show c ≤ z14 by omega) (by decide) (show D 3 k 0 < 8 by omega)
    have e16 : f_L_name ro 4 64 1 (Int32.ofNat (D 3 k 0)) h14 z14 = some (r16, h16, z16) := e16
    have X17 := X_fr X14 (h := h16) (fun i h1 h2 => f16 i (by omega))
    have F18 : ∀ i, i < B0 → h16 i = hp0 i := fun i hi => by rw [f16 i (by omega), F15 i hi]
    obtain ⟨h19, z19, t19, k19, e19, X19, g19, -, b19, f19⟩ := X_str (mc := 1) (ms := 1300) (sz := z16) X17 (by omega) S16 (by simp only [List.length_append, List.length_nil, lw_len, nm_len]; omega) ⟨by omega, by omega, Or.inr ⟨by omega, by omega⟩⟩ (Or.inr ⟨Nat.le_refl _, by decide⟩)
    have F20 : ∀ i, i < B0 → h19 i = hp0 i := fun i hi => by rw [f19 i (by omega), F18 i hi]
    obtain ⟨q21, v21, w21, S21⟩ := T_c TW0 hB F20 (i := 2) (j := 19) (by decide) rfl
    obtain ⟨h22, z22, t22, k22, e22, X22, g22, -, b22, f22⟩ := X_str (mc := 1) (ms := 1300) (sz := z19) X19 (by omega) (r := ro 19) S21 (by simp only [List.length_append, List.length_nil, lw_len, nm_len]; omega) ⟨by omega, by omega, Or.inl ⟨by omega, by omega⟩⟩ (Or.inr ⟨Nat.le_refl _, by decide⟩)
    have F23 : ∀ i, i < B0 → h22 i = hp0 i := fun i hi => by rw [f22 i (by omega), F20 i hi]
    obtain ⟨h24, e24, S24, f24⟩ := X_toS (mc := 2) (ms := 704) (sz := z22) X22 (by omega) ⟨Nat.le_refl _, (by simp only [List.length_append, List.length_nil, lw_len, nm_len]; omega)⟩
    have F25 : ∀ i, i < B0 → h24 i = hp0 i := fun i hi => by rw [f24 i (by omega), F23 i hi]
    refine ⟨(z22, h24, (z22 + 2), (((((((((((uc1 + 1) + 1) + 1) + 1) + 4) + 1) + 1) + 4) + 1) + 1) + 2), (((((((((((us1 + 4) + 16) + 1300) + 1300) + 64) + 1300) + 1300) + 64) + 1300) + 1300) + 704)), ⟨⟨?_, Nat.le_refl _, by show B0 ≤ z22; omega, F25⟩, by show (((((((((((uc1 + 1) + 1) + 1) + 1) + 4) + 1) + 1) + 4) + 1) + 1) + 2) ≤ uc + 18 * (k + 1); omega, by show (((((((((((us1 + 4) + 16) + 1300) + 1300) + 64) + 1300) + 1300) + 64) + 1300) + 1300) + 704) ≤ us + 8652 * (k + 1); omega⟩, fun K m => ?_⟩
    · rw [show cat (tV D) (k + 1) = cat (tV D) k ++ (tV D) k from rfl, ← List.append_assoc, hlk0, ← q_W lk k]
      exact S24
    · show l_L_text_185 ro mc ms K s (m + 1) r (Int32.ofNat k) h z uc1 us1 = l_L_text_185 ro mc ms K s m z22 (Int32.ofNat (k + 1)) h24 (z22 + 2) (((((((((((uc1 + 1) + 1) + 1) + 1) + 4) + 1) + 1) + 4) + 1) + 1) + 2) (((((((((((us1 + 4) + 16) + 1300) + 1300) + 64) + 1300) + 1300) + 64) + 1300) + 1300) + 704)
      rw [l_L_text_185_s]
      unfold b_L_text_185
      rw [zchk_t ⟨by omega, by omega⟩, (hLF _ (T_s TW0 hB F)).2.2.1, Option.bind_some, if_pos (by rw [pn_lt (by omega) (by omega)]; exact hk)]
      rw [zchk_t ⟨by omega, by omega⟩, zlet_eq, zchk_t ⟨by omega, by omega⟩, e1, zb2_some, zchk_t ⟨by omega, by omega⟩, e3, zb3_some]
      rw [zchk_t ⟨by omega, by omega⟩, e6, zb3_some, zchk_t ⟨by omega, by omega⟩, e8, zb3_some, zchk_t ⟨by omega, by omega⟩, e11]
      rw [zb3_some, zchk_t ⟨by omega, by omega⟩, e14, zb3_some, (LFk _ (T_s TW0 hB F15)).2.1, Option.bind_some, zchk_t ⟨by omega, by omega⟩, e16]
      rw [zb3_some, zchk_t ⟨by omega, by omega⟩, e19, zb3_some, zchk_t ⟨by omega, by omega⟩, e22, zb3_some, zchk_t ⟨by omega, by omega⟩]
      rw [e24, zb3_some]
      rw [zlet_eq, pn_succ]
  · obtain ⟨r, h, z, uc1, us1⟩ := t
    obtain ⟨⟨S, q1, q2, F⟩, j2, j3⟩ := J
    dsimp only at S q1 q2 F j2 j3
    show l_L_text_185 ro mc ms K s (m + 1) r (Int32.ofNat (cW D)) h z uc1 us1 = K r h z uc1 us1
    rw [l_L_text_185_s]
    unfold b_L_text_185
    rw [zchk_t ⟨by omega, by omega⟩, (hLF _ (T_s TW0 hB F)).2.2.1, Option.bind_some, if_neg Int32.lt_irrefl]
set_option maxHeartbeats 2000000 in
theorem T_332 (TW0 : TW c ro s n xs hp0) (hLF : ∀ h, sc h s n xs → LF D s h) (o : okD D) (hB : c ≤ B0) (Q0 : Q hp0 B0 r h z l) {kb : Nat} (hkb : kb < 8) (hl : ∀ k, k < cP D + 1 → (l ++ cat (pp D kb) (k + 1)).length ≤ 500) (hr : uc + 7 * (cP D + 1) ≤ mc ∧ us + 4624 * (cP D + 1) ≤ ms) (hM : cP D + 1 < M) :
    ∃ t : TS, (Q hp0 B0 t.1 t.2.1 t.2.2.1 (l ++ cat (pp D kb) (cP D + 1)) ∧ t.2.2.2.1 ≤ uc + 7 * (cP D + 1) ∧ t.2.2.2.2 ≤ us + 4624 * (cP D + 1)) ∧ ∀ K, l_L_text_332 ro mc ms K s (Int32.ofNat kb) M r 0 h z uc us = K t.1 t.2.1 t.2.2.1 t.2.2.2.1 t.2.2.2.2 := by
  obtain ⟨⟨p1, p2⟩, ⟨r1, r2⟩, ⟨w1, w2⟩, ⟨bb1, bb2⟩, ⟨tt1, tt2⟩, ⟨gg0, gg1⟩, o2, o3, o4, o5, o6, o7, o8⟩ := id o
  obtain ⟨n0, n1, n2, n3, n4, n5, n6, n7, n8, n9, n10⟩ := lw_len
  refine zXK (L := fun K m i (t : TS) => l_L_text_332 ro mc ms K s (Int32.ofNat kb) m t.1 (Int32.ofNat i) t.2.1 t.2.2.1 t.2.2.2.1 t.2.2.2.2) (cP D + 1) (fun i (t : TS) => Q hp0 B0 t.1 t.2.1 t.2.2.1 (l ++ cat (pp D kb) i) ∧ t.2.2.2.1 ≤ uc + 7 * i ∧ t.2.2.2.2 ≤ us + 4624 * i) (s0 := (r, h, z, uc, us)) ⟨by rw [show cat (pp D kb) 0 = [] from rfl, List.append_nil]; exact Q0, by show uc ≤ uc + 7 * 0; omega, by show us ≤ us + 4624 * 0; omega⟩ (fun k t hk J => ?_) (K := fun K t => K t.1 t.2.1 t.2.2.1 t.2.2.2.1 t.2.2.2.2) (fun t J K m => ?_) hM
  · obtain ⟨r, h, z, uc1, us1⟩ := t
    obtain ⟨⟨S, q1, q2, F⟩, j2, j3⟩ := J
    dsimp only at S q1 q2 F j2 j3
    have hlk := hl k hk
    rw [show cat (pp D kb) (k + 1) = cat (pp D kb) k ++ (pp D kb) k from rfl, ← List.append_assoc] at hlk
    obtain ⟨lk, hlk0⟩ : ∃ lk, l ++ cat (pp D kb) k = lk := ⟨_, rfl⟩
    rw [hlk0] at S hlk
    have hU : 7 * (k + 1) ≤ 7 * (cP D + 1) ∧ 4624 * (k + 1) ≤ 4624 * (cP D + 1) := ⟨Nat.mul_le_mul_left _ hk, Nat.mul_le_mul_left _ hk⟩
    have hd7 := o7 kb k
    rw [← q_pp lk kb k] at hlk
    simp only [List.length_append, List.length_nil, lw_len, nm_len] at hlk
    obtain ⟨h1, e1, X1, f1⟩ := X_new h z
    have F2 : ∀ i, i < B0 → h1 i = hp0 i := fun i hi => by rw [f1 i (by omega), F i hi]
    obtain ⟨h3, z3, t3, k3, e3, X3, g3, -, b3, f3⟩ := X_str (mc := 1) (ms := 1300) (sz := (z + 2)) X1 (by omega) (sS_fr S (f1 r (by omega)) (f1 (r + 1) (by omega))) (by simp only [List.length_append, List.length_nil, lw_len, nm_len]; omega) ⟨by omega, by omega, Or.inl ⟨by omega, by omega⟩⟩ (Or.inr ⟨Nat.le_refl _, by decide⟩)
    have F4 : ∀ i, i < B0 → h3 i = hp0 i := fun i hi => by rw [f3 i (by omega), F2 i hi]
    obtain ⟨q5, v5, w5, S5⟩ := T_c TW0 hB F4 (i := 8) (j := 25) (by decide) rfl
    obtain ⟨h6, z6, t6, k6, e6, X6, g6, -, b6, f6⟩ := X_str (mc := 1) (ms := 1300) (sz := z3) X3 (by omega) (r := ro 25) S5 (by simp only [List.length_append, List.length_nil, lw_len, nm_len]; omega) ⟨by omega, by omega, Or.inl ⟨by omega, by omega⟩⟩ (Or.inr ⟨Nat.le_refl _, by decide⟩)
    have F7 : ∀ i, i < B0 → h6 i = hp0 i := fun i hi => by rw [f6 i (by omega), F4 i hi]
    obtain ⟨h8, z8, t8, k8, e8, X8, g8, b8, f8⟩ := X_int (ro := ro) (n := D 7 kb k) (mc := 1) (ms := 1300) (sz := z6) X6 (by omega) (T_d TW0 hB F7) ⟨by have := TW0.2.2.2.1; omega, by have := TW0.2.2.2.2.1; omega⟩ (show D 7 kb k < 1000 by omega) (by simp only [List.length_append, List.length_nil, lw_len, nm_len]; omega) ⟨Nat.le_refl _, by decide⟩
    have F9 : ∀ i, i < B0 → h8 i = hp0 i := fun i hi => by rw [f8 i (by omega), F7 i hi]
    obtain ⟨h10, e10, S10, f10⟩ := X_toS (mc := 2) (ms := 704) (sz := z8) X8 (by omega) ⟨Nat.le_refl _, (by simp only [List.length_append, List.length_nil, lw_len, nm_len]; omega)⟩
    have F11 : ∀ i, i < B0 → h10 i = hp0 i := fun i hi => by rw [f10 i (by omega), F9 i hi]
    refine ⟨(z8, h10, (z8 + 2), ((((((uc1 + 1) + 1) + 1) + 1) + 1) + 2), ((((((us1 + 4) + 16) + 1300) + 1300) + 1300) + 704)), ⟨⟨?_, Nat.le_refl _, by show B0 ≤ z8; omega, F11⟩, by show ((((((uc1 + 1) + 1) + 1) + 1) + 1) + 2) ≤ uc + 7 * (k + 1); omega, by show ((((((us1 + 4) + 16) + 1300) + 1300) + 1300) + 704) ≤ us + 4624 * (k + 1); omega⟩, fun K m => ?_⟩
    · rw [show cat (pp D kb) (k + 1) = cat (pp D kb) k ++ (pp D kb) k from rfl, ← List.append_assoc, hlk0, ← q_pp lk kb k]
      exact S10
    · show l_L_text_332 ro mc ms K s (Int32.ofNat kb) (m + 1) r (Int32.ofNat k) h z uc1 us1 = l_L_text_332 ro mc ms K s (Int32.ofNat kb) m z8 (Int32.ofNat (k + 1)) h10 (z8 + 2) ((((((uc1 + 1) + 1) + 1) + 1) + 1) + 2) ((((((us1 + 4) + 16) + 1300) + 1300) + 1300) + 704)
      rw [l_L_text_332_s]
      unfold b_L_text_332
      rw [zchk_t ⟨by omega, by omega⟩, (hLF _ (T_s TW0 hB F)).1, Option.bind_some, if_neg (by rw [pn_lt (by omega) (by omega)]; omega)]
      rw [zchk_t ⟨by omega, by omega⟩, zlet_eq, zchk_t ⟨by omega, by omega⟩, e1, zb2_some, zchk_t ⟨by omega, by omega⟩, e3, zb3_some]
      rw [zchk_t ⟨by omega, by omega⟩, e6, zb3_some, ((hLF _ (T_s TW0 hB F7)).2.2.2.2.2.2 kb hkb).2.2.2.2.2.1 k, Option.bind_some, zchk_t ⟨by omega, by omega⟩, e8, zb3_some]
      rw [zchk_t ⟨by omega, by omega⟩, e10, zb3_some]
      rw [zlet_eq, pn_succ]
  · obtain ⟨r, h, z, uc1, us1⟩ := t
    obtain ⟨⟨S, q1, q2, F⟩, j2, j3⟩ := J
    dsimp only at S q1 q2 F j2 j3
    show l_L_text_332 ro mc ms K s (Int32.ofNat kb) (m + 1) r (Int32.ofNat (cP D + 1)) h z uc1 us1 = K r h z uc1 us1
    rw [l_L_text_332_s]
    unfold b_L_text_332
    rw [zchk_t ⟨by omega, by omega⟩, (hLF _ (T_s TW0 hB F)).1, Option.bind_some, if_pos (by rw [pn_lt (by omega) (by omega)]; omega)]
theorem cat_len (f : Nat → List Nat) (i : Nat) : ∀ n, i ≤ n → (cat f i).length ≤ (cat f n).length
  | 0, h => by rw [show i = 0 by omega]; exact Nat.le_refl _
  | n + 1, h => by
    by_cases e : i = n + 1
    · rw [e]; exact Nat.le_refl _
    · have := cat_len f i n (by omega)
      show _ ≤ (cat f n ++ f n).length
      rw [List.length_append]
      omega
set_option maxHeartbeats 2000000 in
theorem T_251 (TW0 : TW c ro s n xs hp0) (hLF : ∀ h, sc h s n xs → LF D s h) (o : okD D) (hB : c ≤ B0) (Q0 : Q hp0 B0 r h z l) (hl : ∀ k, k < cB D → (l ++ cat (tB D) (k + 1)).length ≤ 500) (hr : uc + 62 * (cB D) ≤ mc ∧ us + 39696 * (cB D) ≤ ms) (hM : cB D < M) :
    ∃ t : TS, (Q hp0 B0 t.1 t.2.1 t.2.2.1 (l ++ cat (tB D) (cB D)) ∧ t.2.2.2.1 ≤ uc + 62 * (cB D) ∧ t.2.2.2.2 ≤ us + 39696 * (cB D)) ∧ ∀ K, l_L_text_251 ro mc ms K s M r 0 h z uc us = K t.1 t.2.1 t.2.2.1 t.2.2.2.1 t.2.2.2.2 := by
  obtain ⟨⟨p1, p2⟩, ⟨r1, r2⟩, ⟨w1, w2⟩, ⟨bb1, bb2⟩, ⟨tt1, tt2⟩, ⟨gg0, gg1⟩, o2, o3, o4, o5, o6, o7, o8⟩ := id o
  obtain ⟨n0, n1, n2, n3, n4, n5, n6, n7, n8, n9, n10⟩ := lw_len
  refine zXK (L := fun K m i (t : TS) => l_L_text_251 ro mc ms K s m t.1 (Int32.ofNat i) t.2.1 t.2.2.1 t.2.2.2.1 t.2.2.2.2) (cB D) (fun i (t : TS) => Q hp0 B0 t.1 t.2.1 t.2.2.1 (l ++ cat (tB D) i) ∧ t.2.2.2.1 ≤ uc + 62 * i ∧ t.2.2.2.2 ≤ us + 39696 * i) (s0 := (r, h, z, uc, us)) ⟨by rw [show cat (tB D) 0 = [] from rfl, List.append_nil]; exact Q0, by show uc ≤ uc + 62 * 0; omega, by show us ≤ us + 39696 * 0; omega⟩ (fun k t hk J => ?_) (K := fun K t => K t.1 t.2.1 t.2.2.1 t.2.2.2.1 t.2.2.2.2) (fun t J K m => ?_) hM
  · obtain ⟨r, h, z, uc1, us1⟩ := t
    obtain ⟨⟨S, q1, q2, F⟩, j2, j3⟩ := J
    dsimp only at S q1 q2 F j2 j3
    have hlk := hl k hk
    rw [show cat (tB D) (k + 1) = cat (tB D) k ++ (tB D) k from rfl, ← List.append_assoc] at hlk
    obtain ⟨lk, hlk0⟩ : ∃ lk, l ++ cat (tB D) k = lk := ⟨_, rfl⟩
    rw [hlk0] at S hlk
    have hU : 62 * (k + 1) ≤ 62 * (cB D) ∧ 39696 * (k + 1) ≤ 39696 * (cB D) := ⟨Nat.mul_le_mul_left _ hk, Nat.mul_le_mul_left _ hk⟩
    have LFk := fun h (q : sc h s n xs) => (hLF h q).2.2.2.2.2.2 k (by omega)
    have hd4 := o4 k
    have hd5 := o5 k
    have hd6 := o6 k
    rw [← q_B lk k] at hlk
    simp only [List.length_append, List.length_nil, lw_len, nm_len] at hlk
    obtain ⟨h1, e1, X1, f1⟩ := X_new h z
    have F2 : ∀ i, i < B0 → h1 i = hp0 i := fun i hi => by rw [f1 i (by omega), F i hi]
    obtain ⟨h3, z3, t3, k3, e3, X3, g3, -, b3, f3⟩ := X_str (mc := 1) (ms := 1300) (sz := (z + 2)) X1 (by omega) (sS_fr S (f1 r (by omega)) (f1 (r + 1) (by omega))) (by simp only [List.length_append, List.length_nil, lw_len, nm_len]; omega) ⟨by omega, by omega, Or.inl ⟨by omega, by omega⟩⟩ (Or.inr ⟨Nat.le_refl _, by decide⟩)
    have F4 : ∀ i, i < B0 → h3 i = hp0 i := fun i hi => by rw [f3 i (by omega), F2 i hi]
    obtain ⟨q5, v5, w5, S5⟩ := T_c TW0 hB F4 (i := 9) (j := 26) (by decide) rfl
    obtain ⟨h6, z6, t6, k6, e6, X6, g6, -, b6, f6⟩ := X_str (mc := 1) (ms := 1300) (sz := z3) X3 (by omega) (r := ro 26) S5 (by simp only [List.length_append, List.length_nil, lw_len, nm_len]; omega) ⟨by omega, by omega, Or.inl ⟨by omega, by omega⟩⟩ (Or.inr ⟨Nat.le_refl _, by decide⟩)
    have F7 : ∀ i, i < B0 → h6 i = hp0 i := fun i hi => by rw [f6 i (by omega), F4 i hi]
    obtain ⟨h8, r8, z8, e8, S8, b8, f8⟩ := L_name (s := 3) (k := k) (T_e TW0 hB F7) (show c ≤ z6 by omega) (by decide) (show k < 8 by omega)
    have e8 : f_L_name ro 4 64 3 (Int32.ofNat (k)) h6 z6 = some (r8, h8, z8) := e8
    have X9 := X_fr X6 (h := h8) (fun i h1 h2 => f8 i (by omega))
    have F10 : ∀ i, i < B0 → h8 i = hp0 i := fun i hi => by rw [f8 i (by omega), F7 i hi]
    obtain ⟨h11, z11, t11, k11, e11, X11, g11, -, b11, f11⟩ := X_str (mc := 1) (ms := 1300) (sz := z8) X9 (by omega) S8 (by simp only [List.length_append, List.length_nil, lw_len, nm_len]; omega) ⟨by omega, by omega, Or.inr ⟨by omega, by omega⟩⟩ (Or.inr ⟨Nat.le_refl _, by decide⟩)
    have F12 : ∀ i, i < B0 → h11 i = hp0 i := fun i hi => by rw [f11 i (by omega), F10 i hi]
    obtain ⟨q13, v13, w13, S13⟩ := T_c TW0 hB F12 (i := 8) (j := 25) (by decide) rfl
    obtain ⟨h14, z14, t14, k14, e14, X14, g14, -, b14, f14⟩ := X_str (mc := 1) (ms := 1300) (sz := z11) X11 (by omega) (r := ro 25) S13 (by simp only [List.length_append, List.length_nil, lw_len, nm_len]; omega) ⟨by omega, by omega, Or.inl ⟨by omega, by omega⟩⟩ (Or.inr ⟨Nat.le_refl _, by decide⟩)
    have F15 : ∀ i, i < B0 → h14 i = hp0 i := fun i hi => by rw [f14 i (by omega), F12 i hi]
    obtain ⟨h16, r16, z16, e16, S16, b16, f16⟩ := L_name (s := 2) (k := D 4 k 0) (T_e TW0 hB F15) (show c ≤ z14 by omega) (by decide) (show D 4 k 0 < 8 by omega)
    have e16 : f_L_name ro 4 64 2 (Int32.ofNat (D 4 k 0)) h14 z14 = some (r16, h16, z16) := e16
    have X17 := X_fr X14 (h := h16) (fun i h1 h2 => f16 i (by omega))
    have F18 : ∀ i, i < B0 → h16 i = hp0 i := fun i hi => by rw [f16 i (by omega), F15 i hi]
    obtain ⟨h19, z19, t19, k19, e19, X19, g19, -, b19, f19⟩ := X_str (mc := 1) (ms := 1300) (sz := z16) X17 (by omega) S16 (by simp only [List.length_append, List.length_nil, lw_len, nm_len]; omega) ⟨by omega, by omega, Or.inr ⟨by omega, by omega⟩⟩ (Or.inr ⟨Nat.le_refl _, by decide⟩)
    have F20 : ∀ i, i < B0 → h19 i = hp0 i := fun i hi => by rw [f19 i (by omega), F18 i hi]
    obtain ⟨q21, v21, w21, S21⟩ := T_c TW0 hB F20 (i := 8) (j := 25) (by decide) rfl
    obtain ⟨h22, z22, t22, k22, e22, X22, g22, -, b22, f22⟩ := X_str (mc := 1) (ms := 1300) (sz := z19) X19 (by omega) (r := ro 25) S21 (by simp only [List.length_append, List.length_nil, lw_len, nm_len]; omega) ⟨by omega, by omega, Or.inl ⟨by omega, by omega⟩⟩ (Or.inr ⟨Nat.le_refl _, by decide⟩)
    have F23 : ∀ i, i < B0 → h22 i = hp0 i := fun i hi => by rw [f22 i (by omega), F20 i hi]
    obtain ⟨h24, z24, t24, k24, e24, X24, g24, b24, f24⟩ := X_int (ro := ro) (n := D 5 k 0) (mc := 1) (ms := 1300) (sz := z22) X22 (by omega) (T_d TW0 hB F23) ⟨by have := TW0.2.2.2.1; omega, by have := TW0.2.2.2.2.1; omega⟩ (show D 5 k 0 < 1000 by omega) (by simp only [List.length_append, List.length_nil, lw_len, nm_len]; omega) ⟨Nat.le_refl _, by decide⟩
    have F25 : ∀ i, i < B0 → h24 i = hp0 i := fun i hi => by rw [f24 i (by omega), F23 i hi]
    obtain ⟨q26, v26, w26, S26⟩ := T_c TW0 hB F25 (i := 8) (j := 25) (by decide) rfl
    obtain ⟨h27, z27, t27, k27, e27, X27, g27, -, b27, f27⟩ := X_str (mc := 1) (ms := 1300) (sz := z24) X24 (by omega) (r := ro 25) S26 (by simp only [List.length_append, List.length_nil, lw_len, nm_len]; omega) ⟨by omega, by omega, Or.inl ⟨by omega, by omega⟩⟩ (Or.inr ⟨Nat.le_refl _, by decide⟩)
    have F28 : ∀ i, i < B0 → h27 i = hp0 i := fun i hi => by rw [f27 i (by omega), F25 i hi]
    obtain ⟨h29, z29, t29, k29, e29, X29, g29, b29, f29⟩ := X_int (ro := ro) (n := D 6 k 0) (mc := 1) (ms := 1300) (sz := z27) X27 (by omega) (T_d TW0 hB F28) ⟨by have := TW0.2.2.2.1; omega, by have := TW0.2.2.2.2.1; omega⟩ (show D 6 k 0 < 1000 by omega) (by simp only [List.length_append, List.length_nil, lw_len, nm_len]; omega) ⟨Nat.le_refl _, by decide⟩
    have F30 : ∀ i, i < B0 → h29 i = hp0 i := fun i hi => by rw [f29 i (by omega), F28 i hi]
    obtain ⟨h31, e31, S31, f31⟩ := X_toS (mc := 2) (ms := 704) (sz := z29) X29 (by omega) ⟨Nat.le_refl _, (by simp only [List.length_append, List.length_nil, lw_len, nm_len]; omega)⟩
    have F32 : ∀ i, i < B0 → h31 i = hp0 i := fun i hi => by rw [f31 i (by omega), F30 i hi]
    have Q2 : Q hp0 B0 z29 h31 (z29 + 2) (((((((((([] ++ lk) ++ lwS 9) ++ nmB 3 (k)) ++ lwS 8) ++ nmB 2 (D 4 k 0)) ++ lwS 8) ++ dl (D 5 k 0)) ++ lwS 8) ++ dl (D 6 k 0))) := ⟨S31, Nat.le_refl _, by omega, F32⟩
    have hlp : ∀ j, j < cP D + 1 → ((((((((((([] ++ lk) ++ lwS 9) ++ nmB 3 (k)) ++ lwS 8) ++ nmB 2 (D 4 k 0)) ++ lwS 8) ++ dl (D 5 k 0)) ++ lwS 8) ++ dl (D 6 k 0))) ++ cat (pp D k) (j + 1)).length ≤ 500 := fun j hj => by
      have e1 := cat_len (pp D k) (j + 1) (cP D + 1) (by omega)
      simp only [List.length_append, List.length_nil, lw_len, nm_len]
      omega
    obtain ⟨t9, ⟨Q9, u9, v9⟩, e332⟩ := T_332 (mc := mc) (ms := ms) (uc := ((((((((((((((uc1 + 1) + 1) + 1) + 1) + 4) + 1) + 1) + 4) + 1) + 1) + 1) + 1) + 1) + 2)) (us := ((((((((((((((us1 + 4) + 16) + 1300) + 1300) + 64) + 1300) + 1300) + 64) + 1300) + 1300) + 1300) + 1300) + 1300) + 704)) (M := 1000000) TW0 hLF o hB Q2 (show k < 8 by omega) hlp (by omega) (by omega)
    obtain ⟨r9, h9, z9, uc9, us9⟩ := t9
    obtain ⟨S9, q91, q92, F9⟩ := Q9
    dsimp only at S9 q91 q92 F9 u9 v9 e332
    obtain ⟨h101, e101, X101, f101⟩ := X_new h9 z9
    have F102 : ∀ i, i < B0 → h101 i = hp0 i := fun i hi => by rw [f101 i (by omega), F9 i hi]
    obtain ⟨h103, z103, t103, k103, e103, X103, g103, -, b103, f103⟩ := X_str (mc := 1) (ms := 1300) (sz := (z9 + 2)) X101 (by omega) (sS_fr S9 (f101 r9 (by omega)) (f101 (r9 + 1) (by omega))) (by simp only [List.length_append, List.length_nil, lw_len, nm_len]; omega) ⟨by omega, by omega, Or.inl ⟨by omega, by omega⟩⟩ (Or.inr ⟨Nat.le_refl _, by decide⟩)
    have F104 : ∀ i, i < B0 → h103 i = hp0 i := fun i hi => by rw [f103 i (by omega), F102 i hi]
    obtain ⟨q105, v105, w105, S105⟩ := T_c TW0 hB F104 (i := 2) (j := 19) (by decide) rfl
    obtain ⟨h106, z106, t106, k106, e106, X106, g106, -, b106, f106⟩ := X_str (mc := 1) (ms := 1300) (sz := z103) X103 (by omega) (r := ro 19) S105 (by simp only [List.length_append, List.length_nil, lw_len, nm_len]; omega) ⟨by omega, by omega, Or.inl ⟨by omega, by omega⟩⟩ (Or.inr ⟨Nat.le_refl _, by decide⟩)
    have F107 : ∀ i, i < B0 → h106 i = hp0 i := fun i hi => by rw [f106 i (by omega), F104 i hi]
    obtain ⟨h108, e108, S108, f108⟩ := X_toS (mc := 2) (ms := 704) (sz := z106) X106 (by omega) ⟨Nat.le_refl _, (by simp only [List.length_append, List.length_nil, lw_len, nm_len]; omega)⟩
    have F109 : ∀ i, i < B0 → h108 i = hp0 i := fun i hi => by rw [f108 i (by omega), F107 i hi]
    refine ⟨(z106, h108, (z106 + 2), (((((uc9 + 1) + 1) + 1) + 1) + 2), (((((us9 + 4) + 16) + 1300) + 1300) + 704)), ⟨⟨?_, Nat.le_refl _, by show B0 ≤ z106; omega, F109⟩, by show (((((uc9 + 1) + 1) + 1) + 1) + 2) ≤ uc + 62 * (k + 1); omega, by show (((((us9 + 4) + 16) + 1300) + 1300) + 704) ≤ us + 39696 * (k + 1); omega⟩, fun K m => ?_⟩
    · rw [show cat (tB D) (k + 1) = cat (tB D) k ++ (tB D) k from rfl, ← List.append_assoc, hlk0, ← q_B lk k]
      exact S108
    · show l_L_text_251 ro mc ms K s (m + 1) r (Int32.ofNat k) h z uc1 us1 = l_L_text_251 ro mc ms K s m z106 (Int32.ofNat (k + 1)) h108 (z106 + 2) (((((uc9 + 1) + 1) + 1) + 1) + 2) (((((us9 + 4) + 16) + 1300) + 1300) + 704)
      rw [l_L_text_251_s]
      unfold b_L_text_251
      rw [zchk_t ⟨by omega, by omega⟩, (hLF _ (T_s TW0 hB F)).2.2.2.1, Option.bind_some, if_pos (by rw [pn_lt (by omega) (by omega)]; exact hk)]
      rw [zchk_t ⟨by omega, by omega⟩, zlet_eq, zchk_t ⟨by omega, by omega⟩, e1, zb2_some, zchk_t ⟨by omega, by omega⟩, e3, zb3_some]
      rw [zchk_t ⟨by omega, by omega⟩, e6, zb3_some, zchk_t ⟨by omega, by omega⟩, e8, zb3_some, zchk_t ⟨by omega, by omega⟩, e11]
      rw [zb3_some, zchk_t ⟨by omega, by omega⟩, e14, zb3_some, (LFk _ (T_s TW0 hB F15)).2.2.1, Option.bind_some, zchk_t ⟨by omega, by omega⟩, e16]
      rw [zb3_some, zchk_t ⟨by omega, by omega⟩, e19, zb3_some, zchk_t ⟨by omega, by omega⟩, e22, zb3_some, (LFk _ (T_s TW0 hB F23)).2.2.2.1]
      rw [Option.bind_some, zchk_t ⟨by omega, by omega⟩, e24, zb3_some, zchk_t ⟨by omega, by omega⟩, e27, zb3_some, (LFk _ (T_s TW0 hB F28)).2.2.2.2.1]
      rw [Option.bind_some, zchk_t ⟨by omega, by omega⟩, e29, zb3_some, zchk_t ⟨by omega, by omega⟩, e31, zb3_some]
      rw [e332]
      rw [zchk_t ⟨by omega, by omega⟩, zlet_eq, zchk_t ⟨by omega, by omega⟩, e101, zb2_some, zchk_t ⟨by omega, by omega⟩, e103, zb3_some]
      rw [zchk_t ⟨by omega, by omega⟩, e106, zb3_some, zchk_t ⟨by omega, by omega⟩, e108, zb3_some]
      rw [zlet_eq, pn_succ]
  · obtain ⟨r, h, z, uc1, us1⟩ := t
    obtain ⟨⟨S, q1, q2, F⟩, j2, j3⟩ := J
    dsimp only at S q1 q2 F j2 j3
    show l_L_text_251 ro mc ms K s (m + 1) r (Int32.ofNat (cB D)) h z uc1 us1 = K r h z uc1 us1
    rw [l_L_text_251_s]
    unfold b_L_text_251
    rw [zchk_t ⟨by omega, by omega⟩, (hLF _ (T_s TW0 hB F)).2.2.2.1, Option.bind_some, if_neg Int32.lt_irrefl]
set_option maxHeartbeats 2000000 in
theorem T_403 (TW0 : TW c ro s n xs hp0) (hLF : ∀ h, sc h s n xs → LF D s h) (o : okD D) (hB : c ≤ B0) (Q0 : Q hp0 B0 r h z l) (hl : ∀ k, k < cT D → (l ++ cat (tT D) (k + 1)).length ≤ 500) (hr : uc + 8 * (cT D) ≤ mc ∧ us + 5924 * (cT D) ≤ ms) (hM : cT D < M) :
    ∃ t : TS, (Q hp0 B0 t.1 t.2.1 t.2.2.1 (l ++ cat (tT D) (cT D)) ∧ t.2.2.2.1 ≤ uc + 8 * (cT D) ∧ t.2.2.2.2 ≤ us + 5924 * (cT D)) ∧ ∀ K, l_L_text_403 ro mc ms K s M r 0 h z uc us = K t.1 t.2.1 t.2.2.1 t.2.2.2.1 t.2.2.2.2 := by
  obtain ⟨⟨p1, p2⟩, ⟨r1, r2⟩, ⟨w1, w2⟩, ⟨bb1, bb2⟩, ⟨tt1, tt2⟩, ⟨gg0, gg1⟩, o2, o3, o4, o5, o6, o7, o8⟩ := id o
  obtain ⟨n0, n1, n2, n3, n4, n5, n6, n7, n8, n9, n10⟩ := lw_len
  refine zXK (L := fun K m i (t : TS) => l_L_text_403 ro mc ms K s m t.1 (Int32.ofNat i) t.2.1 t.2.2.1 t.2.2.2.1 t.2.2.2.2) (cT D) (fun i (t : TS) => Q hp0 B0 t.1 t.2.1 t.2.2.1 (l ++ cat (tT D) i) ∧ t.2.2.2.1 ≤ uc + 8 * i ∧ t.2.2.2.2 ≤ us + 5924 * i) (s0 := (r, h, z, uc, us)) ⟨by rw [show cat (tT D) 0 = [] from rfl, List.append_nil]; exact Q0, by show uc ≤ uc + 8 * 0; omega, by show us ≤ us + 5924 * 0; omega⟩ (fun k t hk J => ?_) (K := fun K t => K t.1 t.2.1 t.2.2.1 t.2.2.2.1 t.2.2.2.2) (fun t J K m => ?_) hM
  · obtain ⟨r, h, z, uc1, us1⟩ := t
    obtain ⟨⟨S, q1, q2, F⟩, j2, j3⟩ := J
    dsimp only at S q1 q2 F j2 j3
    have hlk := hl k hk
    rw [show cat (tT D) (k + 1) = cat (tT D) k ++ (tT D) k from rfl, ← List.append_assoc] at hlk
    obtain ⟨lk, hlk0⟩ : ∃ lk, l ++ cat (tT D) k = lk := ⟨_, rfl⟩
    rw [hlk0] at S hlk
    have hU : 8 * (k + 1) ≤ 8 * (cT D) ∧ 5924 * (k + 1) ≤ 5924 * (cT D) := ⟨Nat.mul_le_mul_left _ hk, Nat.mul_le_mul_left _ hk⟩
    have LFk := fun h (q : sc h s n xs) => (hLF h q).2.2.2.2.2.2 k (by omega)
    have hd8 := o8 k
    rw [← q_T lk k] at hlk
    simp only [List.length_append, List.length_nil, lw_len, nm_len] at hlk
    obtain ⟨h1, e1, X1, f1⟩ := X_new h z
    have F2 : ∀ i, i < B0 → h1 i = hp0 i := fun i hi => by rw [f1 i (by omega), F i hi]
    obtain ⟨h3, z3, t3, k3, e3, X3, g3, -, b3, f3⟩ := X_str (mc := 1) (ms := 1300) (sz := (z + 2)) X1 (by omega) (sS_fr S (f1 r (by omega)) (f1 (r + 1) (by omega))) (by simp only [List.length_append, List.length_nil, lw_len, nm_len]; omega) ⟨by omega, by omega, Or.inl ⟨by omega, by omega⟩⟩ (Or.inr ⟨Nat.le_refl _, by decide⟩)
    have F4 : ∀ i, i < B0 → h3 i = hp0 i := fun i hi => by rw [f3 i (by omega), F2 i hi]
    obtain ⟨q5, v5, w5, S5⟩ := T_c TW0 hB F4 (i := 10) (j := 27) (by decide) rfl
    obtain ⟨h6, z6, t6, k6, e6, X6, g6, -, b6, f6⟩ := X_str (mc := 1) (ms := 1300) (sz := z3) X3 (by omega) (r := ro 27) S5 (by simp only [List.length_append, List.length_nil, lw_len, nm_len]; omega) ⟨by omega, by omega, Or.inl ⟨by omega, by omega⟩⟩ (Or.inr ⟨Nat.le_refl _, by decide⟩)
    have F7 : ∀ i, i < B0 → h6 i = hp0 i := fun i hi => by rw [f6 i (by omega), F4 i hi]
    obtain ⟨h8, z8, t8, k8, e8, X8, g8, b8, f8⟩ := X_int (ro := ro) (n := D 8 k 0) (mc := 1) (ms := 1300) (sz := z6) X6 (by omega) (T_d TW0 hB F7) ⟨by have := TW0.2.2.2.1; omega, by have := TW0.2.2.2.2.1; omega⟩ (show D 8 k 0 < 1000 by omega) (by simp only [List.length_append, List.length_nil, lw_len, nm_len]; omega) ⟨Nat.le_refl _, by decide⟩
    have F9 : ∀ i, i < B0 → h8 i = hp0 i := fun i hi => by rw [f8 i (by omega), F7 i hi]
    obtain ⟨q10, v10, w10, S10⟩ := T_c TW0 hB F9 (i := 2) (j := 19) (by decide) rfl
    obtain ⟨h11, z11, t11, k11, e11, X11, g11, -, b11, f11⟩ := X_str (mc := 1) (ms := 1300) (sz := z8) X8 (by omega) (r := ro 19) S10 (by simp only [List.length_append, List.length_nil, lw_len, nm_len]; omega) ⟨by omega, by omega, Or.inl ⟨by omega, by omega⟩⟩ (Or.inr ⟨Nat.le_refl _, by decide⟩)
    have F12 : ∀ i, i < B0 → h11 i = hp0 i := fun i hi => by rw [f11 i (by omega), F9 i hi]
    obtain ⟨h13, e13, S13, f13⟩ := X_toS (mc := 2) (ms := 704) (sz := z11) X11 (by omega) ⟨Nat.le_refl _, (by simp only [List.length_append, List.length_nil, lw_len, nm_len]; omega)⟩
    have F14 : ∀ i, i < B0 → h13 i = hp0 i := fun i hi => by rw [f13 i (by omega), F12 i hi]
    refine ⟨(z11, h13, (z11 + 2), (((((((uc1 + 1) + 1) + 1) + 1) + 1) + 1) + 2), (((((((us1 + 4) + 16) + 1300) + 1300) + 1300) + 1300) + 704)), ⟨⟨?_, Nat.le_refl _, by show B0 ≤ z11; omega, F14⟩, by show (((((((uc1 + 1) + 1) + 1) + 1) + 1) + 1) + 2) ≤ uc + 8 * (k + 1); omega, by show (((((((us1 + 4) + 16) + 1300) + 1300) + 1300) + 1300) + 704) ≤ us + 5924 * (k + 1); omega⟩, fun K m => ?_⟩
    · rw [show cat (tT D) (k + 1) = cat (tT D) k ++ (tT D) k from rfl, ← List.append_assoc, hlk0, ← q_T lk k]
      exact S13
    · show l_L_text_403 ro mc ms K s (m + 1) r (Int32.ofNat k) h z uc1 us1 = l_L_text_403 ro mc ms K s m z11 (Int32.ofNat (k + 1)) h13 (z11 + 2) (((((((uc1 + 1) + 1) + 1) + 1) + 1) + 1) + 2) (((((((us1 + 4) + 16) + 1300) + 1300) + 1300) + 1300) + 704)
      rw [l_L_text_403_s]
      unfold b_L_text_403
      rw [zchk_t ⟨by omega, by omega⟩, (hLF _ (T_s TW0 hB F)).2.2.2.2.1, Option.bind_some, if_pos (by rw [pn_lt (by omega) (by omega)]; exact hk)]
      rw [zchk_t ⟨by omega, by omega⟩, zlet_eq, zchk_t ⟨by omega, by omega⟩, e1, zb2_some, zchk_t ⟨by omega, by omega⟩, e3, zb3_some]
      rw [zchk_t ⟨by omega, by omega⟩, e6, zb3_some, (LFk _ (T_s TW0 hB F7)).2.2.2.2.2.2, Option.bind_some, zchk_t ⟨by omega, by omega⟩, e8, zb3_some]
      rw [zchk_t ⟨by omega, by omega⟩, e11, zb3_some, zchk_t ⟨by omega, by omega⟩, e13, zb3_some]
      rw [zlet_eq, pn_succ]
  · obtain ⟨r, h, z, uc1, us1⟩ := t
    obtain ⟨⟨S, q1, q2, F⟩, j2, j3⟩ := J
    dsimp only at S q1 q2 F j2 j3
    show l_L_text_403 ro mc ms K s (m + 1) r (Int32.ofNat (cT D)) h z uc1 us1 = K r h z uc1 us1
    rw [l_L_text_403_s]
    unfold b_L_text_403
    rw [zchk_t ⟨by omega, by omega⟩, (hLF _ (T_s TW0 hB F)).2.2.2.2.1, Option.bind_some, if_neg Int32.lt_irrefl]
end P94
