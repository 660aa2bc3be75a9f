/-! PURE: the reference's write, whole; outputAt -/
section P76
variable {hp h hp' : zHp} {k r c x s i w u n : Nat} {F0 F T N : Nat → Int32} {S0 S : Nat → Nat → Int32} {v y : Int32} {l m : List Nat}
theorem MW_M (X : MW x F0 S0 hp l) : ∃ S, wM hp x S ∧ S 2 = S0 2 ∧ S 4 = S0 4 := by
  obtain ⟨F, S, W, a1, a2, a3, a4⟩ := X
  exact ⟨S, ⟨F, W⟩, a4 2 (by decide), a4 4 (by decide)⟩
theorem MW_20 (X : MW x F0 S0 hp l) : zgI hp x 8 20 = some (Int32.ofNat l.length) := by
  obtain ⟨F, S, W, a1, -⟩ := X
  exact (q_F W (by omega)).trans (congrArg some a1)
theorem MW_many (X : MW x F0 S0 hp l) (I : sI (S0 2) (S0 4)) : f_X8_many x 0 hp = some (Int32.ofNat (sN (S0 2) 0)) := by
  obtain ⟨S, W, e2, e4⟩ := MW_M X
  have := q_many0 W (by rw [e2, e4]; exact I)
  rw [e2] at this
  exact this
theorem MW_told (X : MW x F0 S0 hp l) {k : Nat} (hk : k < 144) : zaI hp 0 (x + 2) (Int32.ofNat k) = some (S0 2 k) := by
  obtain ⟨S, W, e2, e4⟩ := MW_M X
  rw [wm_told W hk, e2]
theorem MW_T (X : MW x F0 S0 hp l) : zgR hp x 8 3 = some (x + 2) := let ⟨_, W, _⟩ := MW_M X; wm_T W
theorem MW_votes (X : MW x F0 S0 hp l) (I : sI (S0 2) (S0 4)) (hk : k < sPi (S0 2)) (w : Int32) : f_X8_votes x w (Int32.ofNat k) hp = some (sVo (S0 2) (S0 4) w k) := by
  obtain ⟨S, W, e2, e4⟩ := MW_M X
  have := q_votes W (by rw [e2, e4]; exact I) (by rw [e2]; exact hk) w
  rw [e2, e4] at this
  exact this
theorem MW_decl (X : MW x F0 S0 hp l) (I : sI (S0 2) (S0 4)) (w : Int32) : f_X8_isDeclared x w hp = some (zb (sDecl (S0 4) w)) := by
  obtain ⟨S, W, e2, e4⟩ := MW_M X
  have := p_isDecl W (by rw [e2, e4]; exact I) w
  rw [e4] at this
  exact this
theorem M_parties (I : sI (S0 2) (S0 4)) {K : zHp → Option (Int32 × zHp)} {L0 : List Nat} (hL0 : L0.length ≤ 6) : ∀ (d i mm : Nat) (hp : zHp), i + d = sN (S0 2) 0 → d < mm → MW x F0 S0 hp (L0 ++ wrP (S0 2) (S0 4) v i) →
    ∃ h, l_X8_write_37 K x v mm (Int32.ofNat i) hp = K h ∧ MW x F0 S0 h (L0 ++ wrP (S0 2) (S0 4) v (sN (S0 2) 0)) ∧ zfr hp h x 8
  | 0, i, mm, hp, hi, hm, X => by
    obtain ⟨mm, rfl⟩ : ∃ q, mm = q + 1 := ⟨mm - 1, by omega⟩
    have e : i = sN (S0 2) 0 := by omega
    subst e
    refine ⟨hp, ?_, X, zfr_rf⟩
    rw [l_X8_write_37_s]
    unfold b_X8_write_37
    rw [MW_many X I, Option.bind_some, if_neg Int32.lt_irrefl]
  | d + 1, i, mm, hp, hi, hm, X => by
    obtain ⟨mm, rfl⟩ : ∃ q, mm = q + 1 := ⟨mm - 1, by omega⟩
    have h05 := sI_0 I
    have hlen : (L0 ++ wrP (S0 2) (S0 4) v i).length ≤ 6 + 12 * i := by
      have := wrP_len (S0 2) (S0 4) v i
      rw [List.length_append]
      omega
    obtain ⟨l0, el0⟩ : ∃ l0, L0 ++ wrP (S0 2) (S0 4) v i = l0 := ⟨_, rfl⟩
    rw [el0] at X hlen
    obtain ⟨h1, e1, X1, f1⟩ := M_writes X (by omega) (n := 32) (y := 32) rfl
    have len1 : (l0 ++ [32]).length = l0.length + 1 := by rw [List.length_append]; rfl
    obtain ⟨h2, e2, X2, f2⟩ := M_name X1 (by omega) (S0 2 (5 + i))
    have len2 : ((l0 ++ [32]) ++ nmL (S0 2 (5 + i)) 6).length ≤ l0.length + 7 := by
      have := nmL_len (S0 2 (5 + i)) 6
      rw [List.length_append]
      omega
    obtain ⟨h3, e3, X3, f3⟩ := M_writes X2 (by omega) (n := 61) (y := 61) rfl
    have len3 : (((l0 ++ [32]) ++ nmL (S0 2 (5 + i)) 6) ++ [61]).length ≤ l0.length + 8 := by
      rw [List.length_append]
      show _ + 1 ≤ _
      omega
    have hk : i < sPi (S0 2) := by unfold sPi; omega
    obtain ⟨v1, v2⟩ := vt_is I hk v
    have hv := MW_votes X3 I hk v
    rw [v1] at hv
    obtain ⟨h4, e4, X4, f4⟩ := M_num X3 (by omega) (n := vt (S0 2) (S0 4) v i) (by omega)
    have X4' : MW x F0 S0 h4 (L0 ++ wrP (S0 2) (S0 4) v (i + 1)) := by
      have e : L0 ++ wrP (S0 2) (S0 4) v (i + 1) = (((l0 ++ [32]) ++ nmL (S0 2 (5 + i)) 6) ++ [61]) ++ dl (vt (S0 2) (S0 4) v i) := by
        rw [← el0]
        rw [show wrP (S0 2) (S0 4) v (i + 1) = wrP (S0 2) (S0 4) v i ++ ([32] ++ (nmL (S0 2 (5 + i)) 6 ++ ([61] ++ dl (vt (S0 2) (S0 4) v i)))) from rfl]
        simp only [List.append_assoc]
      rw [e]
      exact X4
    obtain ⟨h', i1, i2, i3⟩ := M_parties I (K := K) hL0 d (i + 1) mm h4 (by omega) (by omega) X4'
    refine ⟨h', ?_, i2, zfr_tr f1 (zfr_tr f2 (zfr_tr f3 (zfr_tr f4 i3)))⟩
    rw [← i1]
    have ilt : Int32.ofNat i < Int32.ofNat (sN (S0 2) 0) := by rw [pn_lt (by omega) (by omega)]; omega
    have na : f_X8_nameAt 0 h1 = some 5 := rfl
    have rd : zaI h1 0 (x + 2) (5 + Int32.ofNat i) = some (S0 2 (5 + i)) := by
      rw [ix5]
      exact MW_told X1 (by omega)
    rw [l_X8_write_37_s]
    unfold b_X8_write_37
    rw [MW_many X I, Option.bind_some, if_pos ilt, e1, Option.bind_some, MW_T X1, Option.bind_some, na, Option.bind_some, rd, Option.bind_some, e2, Option.bind_some, e3, Option.bind_some, hv, Option.bind_some, e4, Option.bind_some]
    unfold zlet
    rw [pn_succ]
theorem R_writeBad (W : wMF hp x F S) (I : sI (S 2) (S 4)) (y : Int32) (hy : inr y (sN (S 2) 2) = false) : f_X8_write x y hp = some (0, zth hp x F 1) := by
  unfold f_X8_write
  rw [wm_is (wMF_M W), Option.bind_some, q_is2 (wMF_M W) I, hy, Option.bind_some, show f_X8_checks x (zb false) hp = some (0, zth hp x F 1) from q_chk0 W, zb2_some, if_pos rfl]
theorem R_write (W : wMF hp x F S) (I : sI (S 2) (S 4)) (hw : w < sN (S 2) 2) : ∃ h F' S', f_X8_write x (Int32.ofNat w) hp = some (Int32.ofNat (wrL (S 2) (S 4) w).length, h) ∧ wMF h x F' S' ∧ F' 0 = 0 ∧ F' 20 = Int32.ofNat (wrL (S 2) (S 4) w).length ∧ (∀ j, j < (wrL (S 2) (S 4) w).length → S' 7 j = lW (wrL (S 2) (S 4) w) j) ∧ (∀ k, k ≠ 0 → k ≠ 20 → F' k = F k) ∧ (∀ j, j ≠ 7 → S' j = S j) ∧ zfr hp h x 8 := by
  have h05 := sI_0 I
  have h26 := sI_2 I
  have W1 := wMF_th W 0
  obtain ⟨h2, e2, W2, f2⟩ := wMF_fld W1 (k := 20) (by omega) 0
  have X2 : MW x (upd F 0 0) S h2 [] := ⟨_, S, W2, by rw [upd_self]; rfl, fun j hj => absurd hj (Nat.not_lt_zero j), fun k hk => upd_ne _ _ hk, fun _ _ => rfl⟩
  obtain ⟨h3, e3, X3, f3⟩ := M_name X2 (by show 0 + 6 ≤ 100; omega) (S 2 (15 + w))
  rw [List.nil_append] at X3
  have X3' : MW x (upd F 0 0) S h3 (nmL (S 2 (15 + w)) 6 ++ wrP (S 2) (S 4) (Int32.ofNat w) 0) := by
    show MW x (upd F 0 0) S h3 (nmL (S 2 (15 + w)) 6 ++ [])
    rw [List.append_nil]
    exact X3
  generalize hK : (fun h19 : zHp => (f_X8_isDeclared x (Int32.ofNat w) h19).bind fun v20 => if v20 = 0 then ((zgI h19 x 8 20).bind fun v21 => some (v21, h19)) else (f_X8_writes x (32 : Int32) h19).bind fun h22 => (f_X8_writes x (33 : Int32) h22).bind fun h23 => (zgI h23 x 8 20).bind fun v24 => some (v24, h23)) = K
  obtain ⟨MM, hMM⟩ : ∃ MM : Nat, MM = 1000000 := ⟨_, rfl⟩
  obtain ⟨h4, e4, X4, f4⟩ := M_parties I (K := K) (nmL_len (S 2 (15 + w)) 6) (sN (S 2) 0) 0 MM h3 (by omega) (by omega) X3'
  have f04 : zfr hp h4 x 8 := zfr_tr zfr_th (zfr_tr f2 (zfr_tr f3 f4))
  have rd : zaI h2 0 (x + 2) (15 + Int32.ofNat w) = some (S 2 (15 + w)) := by
    rw [show (15 : Int32) + Int32.ofNat w = Int32.ofNat (15 + w) from ixa 15 w]
    exact MW_told X2 (by omega)
  have pre : f_X8_write x (Int32.ofNat w) hp = K h4 := by
    rw [← e4]
    unfold f_X8_write
    rw [← hMM, wm_is (wMF_M W), Option.bind_some, q_is2 (wMF_M W) I, inr_T hw (by omega), Option.bind_some, show f_X8_checks x (zb true) hp = some (1, zth hp x F 0) from q_chk1 W, zb2_some, if_neg (by decide), e2, Option.bind_some, MW_T X2, Option.bind_some, show f_X8_nameAt 2 h2 = some 15 from rfl, Option.bind_some, rd, Option.bind_some, e3, Option.bind_some, ← hK]
    rfl
  rw [pre, ← hK]
  dsimp only
  rw [MW_decl X4 I, Option.bind_some]
  have hlen : (nmL (S 2 (15 + w)) 6 ++ wrP (S 2) (S 4) (Int32.ofNat w) (sN (S 2) 0)).length ≤ 66 := by
    have h1 := wrP_len (S 2) (S 4) (Int32.ofNat w) (sN (S 2) 0)
    have h2 := nmL_len (S 2 (15 + w)) 6
    rw [List.length_append]
    omega
  have fin : ∀ {h : zHp} {ll : List Nat}, MW x (upd F 0 0) S h ll → ∃ F' S', wMF h x F' S' ∧ F' 0 = 0 ∧ F' 20 = Int32.ofNat ll.length ∧ (∀ j, j < ll.length → S' 7 j = lW ll j) ∧ (∀ k, k ≠ 0 → k ≠ 20 → F' k = F k) ∧ ∀ j, j ≠ 7 → S' j = S j := fun {h ll} X => by
    obtain ⟨F', S', w1, w2, w3, w4, w5⟩ := X
    exact ⟨F', S', w1, by rw [w4 0 (by decide), upd_self], w2, w3, fun k k0 k20 => by rw [w4 k k20, upd_ne _ _ k0], w5⟩
  by_cases hd : sDecl (S 4) (Int32.ofNat w) = true
  · have ew : wrL (S 2) (S 4) w = (nmL (S 2 (15 + w)) 6 ++ wrP (S 2) (S 4) (Int32.ofNat w) (sN (S 2) 0)) ++ [32, 33] := by unfold wrL; rw [if_pos hd]
    obtain ⟨h5, e5, X5, f5⟩ := M_writes X4 (by omega) (n := 32) (y := 32) rfl
    obtain ⟨h6, e6, X6, f6⟩ := M_writes X5 (by rw [List.length_append]; show _ + 1 < 100; omega) (n := 33) (y := 33) rfl
    rw [List.append_assoc] at X6
    have X6' : MW x (upd F 0 0) S h6 (wrL (S 2) (S 4) w) := by rw [ew]; exact X6
    obtain ⟨F', S', w1, w2, w3, w4, w5, w6⟩ := fin X6'
    refine ⟨h6, F', S', ?_, w1, w2, w3, w4, w5, w6, zfr_tr f04 (zfr_tr f5 f6)⟩
    rw [hd, if_neg (by decide), e5, Option.bind_some, e6, Option.bind_some, MW_20 X6', Option.bind_some]
  · have hd' : sDecl (S 4) (Int32.ofNat w) = false := by simpa using hd
    have ew : wrL (S 2) (S 4) w = nmL (S 2 (15 + w)) 6 ++ wrP (S 2) (S 4) (Int32.ofNat w) (sN (S 2) 0) := by unfold wrL; rw [if_neg hd, List.append_nil]
    have X4' : MW x (upd F 0 0) S h4 (wrL (S 2) (S 4) w) := by rw [ew]; exact X4
    obtain ⟨F', S', w1, w2, w3, w4, w5, w6⟩ := fin X4'
    refine ⟨h4, F', S', ?_, w1, w2, w3, w4, w5, w6, f04⟩
    rw [hd', if_pos (show zb false = 0 from rfl), MW_20 X4', Option.bind_some]
theorem R_outputAt (W : wMF hp x F S) (h20 : F 20 = Int32.ofNat l.length) (hl : l.length ≤ 68) (h7 : ∀ j, j < l.length → S 7 j = lW l j) (y : Int32) : f_X8_outputAt x y hp = some (outAt l y, zth hp x F 0) := by
  have W1 := wMF_th W 0
  unfold f_X8_outputAt outAt
  rw [wm_is (wMF_M W), Option.bind_some, q_th W, Option.bind_some]
  by_cases q : y < 0
  · have e : inr y l.length = false := by
      cases hq : inr y l.length with
      | false => rfl
      | true =>
        exfalso
        unfold inr at hq
        simp [q] at hq
    rw [if_pos q, e, if_neg (by decide)]
  · obtain ⟨n, hn, hn2⟩ := pn_pos q
    subst hn
    have r20 : zgI (zth hp x F 0) x 8 20 = some (Int32.ofNat l.length) := (q_F W1 (by omega)).trans (congrArg some ((upd_ne F 0 (show 20 ≠ 0 by decide)).trans h20))
    have r19 : zgR (zth hp x F 0) x 8 19 = some (x + 7) := po_R W1.1 rfl
    rw [if_neg q, r20, Option.bind_some, pn_nat hn2]
    by_cases c1 : n < l.length
    · rw [if_pos (by rw [pn_lt hn2 (by omega)]; exact c1), inr_T c1 (by omega), if_pos rfl, r19, Option.bind_some, wMF_rd W1 (j := 7) (by decide) (by decide) (show n < 100 by omega), h7 n c1, Option.bind_some]
    · have e : inr (Int32.ofNat n) l.length = false := by
        cases hq : inr (Int32.ofNat n) l.length with
        | false => rfl
        | true =>
          exfalso
          unfold inr at hq
          simp [pn_lt hn2 (show l.length < 2147483648 by omega)] at hq
          omega
      rw [if_neg (by rw [pn_lt hn2 (by omega)]; exact c1), e, if_neg (by decide)]
theorem R_errorPosition (W : wMF hp x F S) : f_X8_errorPosition x hp = some (F 16, zth hp x F 0) := by
  unfold f_X8_errorPosition
  rw [wm_is (wMF_M W), Option.bind_some, q_th W, Option.bind_some, (q_F (wMF_th W 0) (k := 16) (by omega)), Option.bind_some, upd_ne _ _ (by decide)]
theorem R_undoCount (W : wMF hp x F S) : f_X8_undoCount x hp = some (F 8, zth hp x F 0) := by
  unfold f_X8_undoCount
  rw [wm_is (wMF_M W), Option.bind_some, q_th W, Option.bind_some, (q_F (wMF_th W 0) (k := 8) (by omega)), Option.bind_some, upd_ne _ _ (by decide)]
end P76
