/-! PURE: the class's loader: a box, a setting, a statement -/
section P55
variable {w : Bool} {hp h hp' : zHp} {x a c d L i j k : Nat} {ro : Nat → Nat} {β : Nat → Nat} {st st' : PSt} {R : Nat → Nat → Int32} {T N N' : Nat → Int32} {v : Int32}
theorem LW_N (W : LW hp c d ro β L st) (h1 : ∀ b, b < sN st.1 3 → sF N' b 1 = sF st.2.1 b 1) (h2 : ∀ k, k < 2 → N' k = st.2.1 k) : LW hp c d ro β L (putN st N') := by
  obtain ⟨w1, w2, w3, ⟨R, r1, r2, r3, r4⟩, w5, w6⟩ := W
  exact ⟨w1, w2, w3, ⟨R, r1, r2, fun b hb => by rw [r3 b hb]; exact (h1 b hb).symm, fun k hk => by rw [r4 k hk]; exact (h2 k hk).symm⟩, w5, w6⟩
theorem nNew_row (N : Nat → Int32) (b : Nat) (v : Int32) {q : Nat} (hq : q < 44) : sF (nNew N b v) b q = upd (upd (upd (upd (sF N b) 0 (-3)) 1 v) 2 1) 4 v q := nB_same hq
theorem nNew_ne (N : Nat → Int32) {b b' : Nat} (v : Int32) {q : Nat} (hb : b' ≠ b) (hq : q < 44) : sF (nNew N b v) b' q = sF N b' q := nB_ne hb hq
theorem C_box (W : LW hp c d ro β L st) (hd : c + 4 ≤ d) : cImp true c d ro β L hp (f_X4_readBox ro (c + 1) hp) (pb (pBox β L st) (fun _ st => .inr (0, incr 3 st))) := by
  unfold pBox
  rw [pb_assoc]
  simp only [f_X4_readBox, LW_is W, Option.bind_some]
  refine cImp_b (cImp_up (C_newName W hd (s := 3) (by decide) rfl rfl)) (fun v st1 h1 e1 hv W1 f1 => ?_)
  obtain ⟨t1, t2, t3, t4⟩ := pHead_T (by decide) e1
  rw [pb_assoc]
  refine cImp_b (cImp_up (C_known W1 hd (s := 2) (by decide) rfl)) (fun w st2 h2 e2 hw W2 f2 => ?_)
  obtain ⟨u2, wk, wl, we⟩ := pThing_st e2
  rw [pb_assoc]
  refine cImp_b (cImp_up (C_int W2 hd (lo := 0) (hi := 999) (by decide) (by decide) rfl rfl)) (fun y st3 h3 e3 hy W3 f3 => ?_)
  obtain ⟨u3, -⟩ := pInt_st e3
  rw [pb_assoc]
  refine cImp_b (cImp_up (C_int W3 hd (lo := 1) (hi := 9999) (by decide) (by decide) rfl rfl)) (fun z st4 h4 e4 hz W4 f4 => ?_)
  obtain ⟨u4, -⟩ := pInt_st e4
  have a1 : st4.1 = st1.1 := by rw [u4, u3, u2]; rfl
  have hm : sN st4.1 3 < 12 := by rw [a1]; exact t2
  have hb := sP_bd (LW_P W4)
  obtain ⟨n3, hn3⟩ : ∃ n, sN st4.1 3 = n := ⟨_, rfl⟩
  obtain ⟨h5, g5, W5, f5, r5, n5, -⟩ := LW_wr W4 hd (j := 10) (k := n3) (by unfold hidR; omega) (by show _ < 12; omega) w
  obtain ⟨h6, g6, W6, f6, r6, n6, -⟩ := LW_wr W5 hd (j := 11) (k := n3) (by unfold hidR; omega) (by show _ < 12; omega) y
  obtain ⟨h7, g7, W7, f7, r7, n7, -⟩ := LW_wr W6 hd (j := 12) (k := n3) (by unfold hidR; omega) (by show _ < 12; omega) z
  have P := C_papers (ro := ro) (β := β) (L := L) (c := c) (d := d) hd (n3 := n3) (w := w) (y := y) (z := z) (sPi st4.1) 0 1000000 st4 h7 hn3 (by omega) (by omega) (by omega) W7 ⟨by rw [zaI_c (n7 _ (by omega)), zaI_c (n6 _ (by omega))]; exact r5, by rw [zaI_c (n7 _ (by omega))]; exact r6, r7, fun q hq => absurd hq (Nat.not_lt_zero q)⟩
  have ff : lfr true c d h4 h7 := lfr_tr (lfr_tr f5 f6) f7
  have pre : ∀ K : Int32 → zHp → Option (Int32 × zHp), ((zgR h4 (c + 1) 4 1).bind fun r9 => (zgR h4 r9 5 0).bind fun r10 => (zaI h4 0 r10 (3 : Int32)).bind fun v11 => (zgR h4 (c + 1) 4 1).bind fun r12 => (zgR h4 r12 5 4).bind fun r13 => (zsI h4 r13 v11 w).bind fun h14 => (zgR h14 (c + 1) 4 1).bind fun r15 => (zgR h14 r15 5 5).bind fun r16 => (zsI h14 r16 v11 y).bind fun h17 => (zgR h17 (c + 1) 4 1).bind fun r18 => (zgR h17 r18 5 6).bind fun r19 => (zsI h17 r19 v11 z).bind fun h20 => zb2 (f_X4_readPapers (c + 1) v11 h20) K) = zb2 (l_X4_readPapers_2 (fun p10 h11 => some (p10, h11)) (fun h12 => some ((0 : Int32), h12)) (c + 1) (Int32.ofNat n3) 1000000 (Int32.ofNat 0) h7) K := fun K => by
    have seals : ∀ {hh : zHp} {TT : Nat → Int32}, wPl hh d TT → zgR hh d 5 6 = some (d + 12) := fun {_ _} hh => let ⟨_, q, _⟩ := hh; po_R q.1 rfl
    simp (disch := omega) only [LW_dr W4, c_num (LW_pl W4), c_n3 (LW_pl W4), hn3, c_wards (LW_pl W4), g5, LW_dr W5, c_issued (LW_pl W5), g6, LW_dr W6, seals (LW_pl W6), g7, f_X4_readPapers, LW_is W7, Option.bind_some]
    rfl
  rw [pre, pb_assoc, hn3]
  rcases hr : pPap β L n3 (sPi st4.1) 0 st4 with ⟨er, j⟩ | ⟨v', st8⟩
  · rw [hr] at P
    obtain ⟨h8, i1, i2, i3, i4⟩ := P
    refine ⟨h8, ?_, i2, i3, lfr_tr ff i4⟩
    rw [i1, zb2_some, if_pos i2]
  · rw [hr] at P
    obtain ⟨h8, i1, W8, i3, ⟨B1, B2, B3, B4⟩, i5, i6⟩ := P
    rw [i1, zb2_some, if_neg (by decide)]
    refine cImp_fr (lfr_tr ff i3) ?_
    show cImp true c d ro β L h8 _ (.inr (0, incr 3 (putN (put (put st8 (44 + sN st8.1 3) w) (56 + sN st8.1 3) y) (nNew st8.2.1 (sN st8.1 3) z))))
    have hn : ∀ s, s < 5 → sN st8.1 s = sN st4.1 s := fun s hs => by unfold sN; rw [i5 s (by omega)]
    have h83 : sN st8.1 3 = n3 := by rw [hn 3 (by decide)]; exact hn3
    rw [h83]
    have W9 := LW_put (k := 44 + n3) W8 (by unfold hid; right; right; right; left; exact ⟨by rw [h83], by omega⟩) w
    have e9 : ∀ s, s < 5 → sN (put st8 (44 + n3) w).1 s = sN st8.1 s := fun s hs => by
      unfold sN
      show (upd st8.1 _ w s).toNatClampNeg = _
      rw [upd_ne _ _ (by omega)]
    have W10 := LW_put (k := 56 + n3) W9 (by unfold hid; right; right; right; right; left; exact ⟨by rw [e9 3 (by decide), h83], by rw [e9 3 (by decide)]; omega⟩) y
    have e10 : ∀ s, s < 5 → sN (put (put st8 (44 + n3) w) (56 + n3) y).1 s = sN st8.1 s := fun s hs => by
      rw [← e9 s hs]
      unfold sN
      show (upd (upd st8.1 (44 + n3) w) _ y s).toNatClampNeg = (upd st8.1 (44 + n3) w s).toNatClampNeg
      rw [upd_ne _ _ (by omega)]
    have W11 := LW_N (N' := nNew st8.2.1 n3 z) W10 (fun b hb => by
      rw [e10 3 (by decide), h83] at hb
      exact nNew_ne _ _ (by omega) (by decide)) (fun k hk => nB_lo (by omega))
    obtain ⟨st11, hst⟩ : ∃ s, putN (put (put st8 (44 + n3) w) (56 + n3) y) (nNew st8.2.1 n3 z) = s := ⟨_, rfl⟩
    have s1 : st11.1 = upd (upd st8.1 (44 + n3) w) (56 + n3) y := by rw [← hst]; rfl
    have s2 : st11.2.1 = nNew st8.2.1 n3 z := by rw [← hst]; rfl
    have e11 : ∀ s, s < 5 → sN st11.1 s = sN st8.1 s := fun s hs => by rw [← hst]; exact e10 s hs
    have p11 : sPi st11.1 = sPi st4.1 := by unfold sPi; rw [e11 0 (by decide), hn 0 (by decide)]
    have pp : ∀ p, sPap st11.1 n3 p = sPap st8.1 n3 p := fun p => by
      unfold sPap
      rw [s1, upd_ne _ _ (by omega), upd_ne _ _ (by omega)]
    rw [hst] at W11 ⊢
    have nm : st11.1 (zno 3 + sN st11.1 3) = v := by
      rw [e11 3 (by decide), h83, s1, upd_ne _ _ (by show 21 + n3 ≠ _; omega), upd_ne _ _ (by show 21 + n3 ≠ _; omega), i5 _ (by show 21 + n3 < _; omega), a1, ← t1, ← a1, hn3]
    have HX : ∀ h, zaI h 0 (d + (3 + 3)) (Int32.ofNat (sN st11.1 3)) = some v → (∀ a, a ≠ d + (3 + 3) → h a = h8 a) → HF h d st11.1 st11.2.1 3 := by
      intro h r n
      refine ⟨fun _ => r.trans (congrArg some nm.symm), fun q => absurd q (by decide), fun q => absurd q (by decide), fun q => absurd q (by decide), fun _ => ⟨⟨?_, ?_⟩, ?_, ?_, fun p hp => ⟨?_, ?_⟩⟩, fun q => absurd q (by decide)⟩
      · rw [e11 3 (by decide), h83, zaI_c (n _ (by omega)), s1, upd_ne _ _ (by omega), upd_self]; exact B1
      · rw [e11 3 (by decide), h83, e11 2 (by decide), hn 2 (by decide), a1, s1, upd_ne _ _ (by omega), upd_self]
        exact ⟨wk, wl, we⟩
      · rw [e11 3 (by decide), h83, zaI_c (n _ (by omega)), s1, upd_self]; exact B2
      · rw [e11 3 (by decide), h83, zaI_c (n _ (by omega)), s2, nNew_row _ _ _ (by decide)]
        exact B3
      · rw [p11] at hp
        rw [e11 3 (by decide), h83, zaI_c (n _ (by omega)), pp]
        exact (B4 p hp).1
      · rw [p11] at hp
        rw [e11 3 (by decide), h83, pp]
        exact (B4 p hp).2
    obtain ⟨h12, g12, W12, f12⟩ := C_add W11 hd (s := 3) (by decide) (by rw [e11 3 (by decide), h83]; show n3 < 12; omega) (x1 := 3) rfl nm HX
    exact ⟨h12, by rw [g12]; rfl, by decide, W12, f12⟩
/-! a setting -/
theorem LW_setting (W : LW hp c d ro β L st) (hd : c + 4 ≤ d) {k : Nat} (hk : k < 2) (v sg : Int32) : ∃ h h', zpV hp (c + 1) 4 2 (.int sg) = some h ∧ zgR h (c + 1) 4 1 = some d ∧ zgR h d 5 9 = some (d + 27) ∧ zsI h (d + 27) (Int32.ofNat k) v = some h' ∧ LW h' c d ro β L (st.1, upd st.2.1 k v, sg, st.2.2.2) ∧ lfr true c d hp h' := by
  obtain ⟨⟨ee, w1⟩, ⟨I, Bt, w2', w3, w4, w5⟩, w6, ⟨R, w7, ⟨r1, r2, r3, r4, r5, r6, r7⟩, r8, r9⟩, w9, w10⟩ := W
  have g1 := po_V w1 (show 2 < 4 by decide) (.int sg)
  obtain ⟨h1, eh1⟩ : ∃ h1, zup hp (c + 1) (.inr (4, [.ref (c + 2), .ref d, .int sg, .int (-1)])) = h1 := ⟨_, rfl⟩
  have f1 : ∀ a, a ≠ c + 1 → h1 a = hp a := fun a ha => by rw [← eh1]; exact zup_ne ha
  have l1 : wLd h1 c d sg (-1) := by unfold wLd; rw [← eh1]; exact zup_eq _ _ _
  have P1 : wP h1 d R := wP_fr w7 (fun i i1 i2 => f1 i (by omega))
  obtain ⟨h2, e2, W2, f2⟩ := wP_wr P1 (j := 27) (k := k) (by unfold pCell; omega) (show _ < 2 from hk) v
  refine ⟨h1, h2, by rw [← eh1]; exact g1, ld_dr l1, po_R P1.1 rfl, e2, ⟨⟨ee, by unfold wLd; rw [f2 (c + 1) (by omega)]; exact l1⟩, ⟨I, Bt, ⟨by rw [f2 (c + 2) (by omega), f1 _ (by omega)]; exact w2'.1, by rw [f2 (c + 3) (by omega), f1 _ (by omega)]; exact w2'.2⟩, w3, w4, w5⟩, w6, ⟨_, W2, ⟨fun s hs => ?_, fun s l hs hl => ?_, fun r hr => ?_, fun q hq => ?_, fun b hb' => ?_, fun b p hb' hp => ?_, fun t ht => ?_⟩, fun b hb' => ?_, fun l hl => ?_⟩, w9, sts_fr w10 (fun a ha => by rw [f2 a (by omega), f1 a (by omega)])⟩, fun a ha => by
    have : a ≠ c + 1 ∧ a ≠ d + 27 := by rcases ha with q | ⟨q1, q2 | q2⟩; omega; cases q2; omega
    rw [f2 a this.2, f1 a this.1]⟩
  · rw [w2_o _ _ (by omega)]; exact r1 s hs
  · rw [w2_o _ _ (by omega)]; exact r2 s l hs hl
  · rw [w2_o _ _ (by omega)]; exact r3 r hr
  · rw [w2_o _ _ (by omega)]; exact r4 q hq
  · rw [w2_o _ _ (by omega), w2_o _ _ (by omega)]; exact r5 b hb'
  · have h3 := w9.2.1
    have hb2 : b < sN st.1 3 := hb'
    rw [w2_o _ _ (by omega)]; exact r6 b p hb' hp
  · rw [w2_o _ _ (by omega)]; exact r7 t ht
  · show w2 R 27 k v 12 b = sF (upd st.2.1 k v) b 1
    rw [w2_o _ _ (by omega)]
    unfold sF
    rw [upd_ne _ _ (by omega)]
    exact r8 b hb'
  · show w2 R 27 k v 27 l = upd st.2.1 k v l
    rw [w2_at]
    by_cases e : l = k
    · rw [if_pos ⟨rfl, e⟩, e, upd_self]
    · rw [if_neg (fun q => e q.2), upd_ne _ _ e]
      exact r9 l hl
theorem C_setK (W : LW hp c d ro β L st) (hd : c + 4 ≤ d) {k : Nat} (hk : k < 2) {y : Int32} (hy : y = Int32.ofNat k) : cImp true c d ro β L hp (j_X4_readSetting_51 ro (c + 1) y hp) (pSetK β L k st) := by
  subst hy
  unfold pSetK
  simp only [j_X4_readSetting_51, LW_sg W, Option.bind_some]
  have hg : (gBit st.2.2.1 k = true) = (((st.2.2.1 >>> (Int32.ofNat k &&& 31)) &&& 1) = 1) := by
    unfold gBit
    exact propext ⟨of_decide_eq_true, fun h => decide_eq_true h⟩
  by_cases q : gBit st.2.2.1 k = true
  · have q' := q
    rw [hg] at q'
    rw [if_pos q', if_pos q]
    exact cImp_err W (by decide) rfl
  · have q' := q
    rw [hg] at q'
    rw [if_neg q', if_neg q]
    obtain ⟨h1, g1, W1, f1⟩ := LW_next W hd
    have hm : f_X7_mostOf (Int32.ofNat k) h1 = some (Int32.ofNat (if k = 0 then 50 else 9)) := by
      rcases (show k = 0 ∨ k = 1 by omega) with rfl | rfl <;> rfl
    simp only [LW_in W, g1, hm, Option.bind_some]
    refine cImp_fr (lfr_up f1) (cImp_b (cImp_up (C_int W1 hd (lo := 0) (hi := if k = 0 then 50 else 9) (by decide) (by split <;> decide) rfl rfl)) (fun v st2 h2 e2 hv W2 f2 => ?_))
    obtain ⟨h3, h4, i1, i2, i3, i4, W3, f3⟩ := LW_setting W2 hd hk v (st2.2.2.1 ||| ((1 : Int32) <<< (Int32.ofNat k &&& 31)))
    refine ⟨h4, ?_, by decide, W3, f3⟩
    simp only [LW_sg W2, i1, i2, i3, i4, Option.bind_some]
theorem C_set (W : LW hp c d ro β L st) (hd : c + 4 ≤ d) : cImp true c d ro β L hp (f_X4_readSetting ro (c + 1) hp) (pSet β L st) := by
  obtain ⟨h1, g1, W1, f1⟩ := LW_next W hd
  obtain ⟨-, ⟨b0, b1, b2, b3, b4, b5, b6, b7⟩, -⟩ := LW_st W1
  have s1 := LW_spells W1 b6 b_Tr
  have s2 := LW_spells W1 b7 b_To
  simp only [f_X4_readSetting, LW_is W, LW_in W, g1, LW_in W1, s1, s2, j_X4_readSetting_34, Option.bind_some]
  refine cImp_fr (lfr_up f1) ?_
  show cImp true c d ro β L h1 _ (if sWs2 β L (adv β L st).2.2.2 = -1 then .inl (-11, (adv β L st).2.2.2) else pSetK β L (if sWs2 β L (adv β L st).2.2.2 = 0 then 0 else 1) (adv β L st))
  unfold sWs2
  by_cases k1 : tK β L (adv β L st).2.2.2 = 1
  · simp only [k1, decide_true, Bool.true_and, if_true]
    by_cases m1 : mt β (tS β L (adv β L st).2.2.2) (tE β L (adv β L st).2.2.2) wTr = true
    · rw [m1, if_pos rfl, if_neg (by decide), if_neg (by decide), if_neg (by decide), if_pos rfl]
      exact C_setK W1 hd (k := 0) (by decide) rfl
    · rw [if_neg m1]
      have m1' : mt β (tS β L (adv β L st).2.2.2) (tE β L (adv β L st).2.2.2) wTr = false := by simpa using m1
      rw [m1', if_pos (by decide)]
      by_cases m2 : mt β (tS β L (adv β L st).2.2.2) (tE β L (adv β L st).2.2.2) wTo = true
      · rw [m2, if_neg (by decide), if_pos (by decide), if_pos rfl, if_neg (by decide), if_neg (by decide)]
        exact C_setK W1 hd (k := 1) (by decide) rfl
      · have m2' : mt β (tS β L (adv β L st).2.2.2) (tE β L (adv β L st).2.2.2) wTo = false := by simpa using m2
        rw [m2', if_pos (by decide), if_pos (by decide)]
        exact cImp_err W1 (by decide) rfl
  · rw [if_neg k1, if_pos rfl, decide_eq_false k1, Bool.false_and, Bool.false_and, if_pos (by decide), if_pos (by decide)]
    exact cImp_err W1 (by decide) rfl
theorem mt_len {s e : Nat} {l l' : List Nat} (h : mt β s e l = true) (hl : l'.length ≠ l.length) : mt β s e l' = false := by
  unfold mt at h ⊢
  rw [Bool.and_eq_true] at h
  have := of_decide_eq_true h.1
  rw [decide_eq_false (by omega), Bool.false_and]
theorem C_decl (W : LW hp c d ro β L st) (hd : c + 4 ≤ d) : cImp true c d ro β L hp (f_X4_readDeclaration ro (c + 1) hp) (pDecl β L st) := by
  obtain ⟨⟨a0, a1, -⟩, ⟨b0, b1, b2, b3, b4, b5, b6, b7⟩, -⟩ := LW_st W
  simp only [f_X4_readDeclaration, zb2_id, LW_is W, LW_in W, LW_spells W a0 b_Pa, LW_spells W b0 b_Re, LW_spells W b2 b_Wa, LW_spells W b3 b_Bo, LW_spells W b4 b_Ta, LW_spells W b5 b_Se, Option.bind_some, zb_0]
  unfold pDecl sWd
  by_cases k1 : tK β L st.2.2.2 = 1
  · simp only [k1, decide_true, Bool.true_and, if_true]
    by_cases m0 : mt β (tS β L st.2.2.2) (tE β L st.2.2.2) wPa = true
    · simp only [m0, if_true, Bool.true_eq_false, if_false]
      exact C_party W hd
    · have m0' : mt β (tS β L st.2.2.2) (tE β L st.2.2.2) wPa = false := by simpa using m0
      by_cases m1 : mt β (tS β L st.2.2.2) (tE β L st.2.2.2) wRe = true
      · simp only [m0', m1, if_true, Bool.true_eq_false, Bool.false_eq_true, if_false]
        rw [if_neg (by decide)]
        exact C_region W hd
      · have m1' : mt β (tS β L st.2.2.2) (tE β L st.2.2.2) wRe = false := by simpa using m1
        by_cases m2 : mt β (tS β L st.2.2.2) (tE β L st.2.2.2) wI = true
        · have z3 := mt_len (l' := wWa) m2 (by decide)
          have z4 := mt_len (l' := wBo) m2 (by decide)
          have z5 := mt_len (l' := wTa) m2 (by decide)
          have z6 := mt_len (l' := wSe) m2 (by decide)
          simp only [m0', m1', m2, z3, z4, z5, z6, if_true, Bool.true_eq_false, Bool.false_eq_true, if_false]
          rw [if_neg (by decide), if_neg (by decide), if_neg (by decide), if_neg (by decide), if_neg (by decide), if_neg (by decide)]
          exact cImp_err W (by decide) rfl
        · have m2' : mt β (tS β L st.2.2.2) (tE β L st.2.2.2) wI = false := by simpa using m2
          by_cases m3 : mt β (tS β L st.2.2.2) (tE β L st.2.2.2) wWa = true
          · simp only [m0', m1', m2', m3, if_true, Bool.true_eq_false, Bool.false_eq_true, if_false]
            rw [if_neg (by decide), if_neg (by decide)]
            exact C_ward W hd
          · have m3' : mt β (tS β L st.2.2.2) (tE β L st.2.2.2) wWa = false := by simpa using m3
            by_cases m4 : mt β (tS β L st.2.2.2) (tE β L st.2.2.2) wBo = true
            · simp only [m0', m1', m2', m3', m4, if_true, Bool.true_eq_false, Bool.false_eq_true, if_false]
              rw [if_neg (by decide), if_neg (by decide), if_neg (by decide)]
              exact C_box W hd
            · have m4' : mt β (tS β L st.2.2.2) (tE β L st.2.2.2) wBo = false := by simpa using m4
              by_cases m5 : mt β (tS β L st.2.2.2) (tE β L st.2.2.2) wTa = true
              · simp only [m0', m1', m2', m3', m4', m5, if_true, Bool.true_eq_false, Bool.false_eq_true, if_false]
                rw [if_neg (by decide), if_neg (by decide), if_neg (by decide), if_neg (by decide)]
                exact C_table W hd
              · have m5' : mt β (tS β L st.2.2.2) (tE β L st.2.2.2) wTa = false := by simpa using m5
                by_cases m6 : mt β (tS β L st.2.2.2) (tE β L st.2.2.2) wSe = true
                · simp only [m0', m1', m2', m3', m4', m5', m6, if_true, Bool.true_eq_false, Bool.false_eq_true, if_false]
                  rw [if_neg (by decide), if_neg (by decide), if_neg (by decide), if_neg (by decide), if_neg (by decide)]
                  exact C_set W hd
                · have m6' : mt β (tS β L st.2.2.2) (tE β L st.2.2.2) wSe = false := by simpa using m6
                  simp only [m0', m1', m2', m3', m4', m5', m6', if_true, Bool.false_eq_true, if_false]
                  rw [if_neg (by decide), if_neg (by decide), if_neg (by decide), if_neg (by decide), if_neg (by decide), if_neg (by decide)]
                  exact cImp_err W (by decide) rfl
  · simp only [decide_eq_false k1, Bool.false_and, if_true, if_neg k1]
    rw [if_neg (by decide), if_neg (by decide), if_neg (by decide), if_neg (by decide), if_neg (by decide), if_neg (by decide)]
    exact cImp_err W (by decide) rfl
end P55

