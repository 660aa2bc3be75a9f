/-! PURE: the class's loader: a statement -/
section P54
variable {w : Bool} {hp h hp' : zHp} {x a c d L i j k : Nat} {ro : Nat → Nat} {β : Nat → Nat} {st st' : PSt} {R : Nat → Nat → Int32} {T N : Nat → Int32} {v : Int32}
theorem pb_assoc (r : PR) (f g : Int32 → PSt → PR) : pb (pb r f) g = pb r (fun v st => pb (f v st) g) := by
  rcases r with e | ⟨v, st⟩ <;> rfl
theorem zaI_c (e : h a = hp a) (t : Nat) (y : Int32) : zaI h t a y = zaI hp t a y := by unfold zaI; rw [e]
theorem pHead_T {s most : Nat} (hs : s < 4) (h : pHead β L s most st = .inr (v, st')) : st'.1 (zno s + sN st'.1 s) = v ∧ sN st'.1 s < most ∧ (∀ s', s' < 5 → sN st'.1 s' = sN st.1 s') ∧ st'.2.1 = st.2.1 := by
  obtain ⟨e, q⟩ := pHead_st h
  have hz := zno_in s hs
  have hn : ∀ s', s' < 5 → sN st'.1 s' = sN st.1 s' := fun s' hs' => by
    rw [e]
    unfold sN
    show (upd st.1 _ v s').toNatClampNeg = _
    rw [upd_ne _ _ (by omega)]
  refine ⟨?_, by rw [hn s (by omega)]; exact q, hn, by rw [e]; rfl⟩
  rw [hn s (by omega), e]
  exact upd_self _ _ _
theorem C_add (W : LW hp c d ro β L st) (hd : c + 4 ≤ d) {s : Nat} (hs : s < 4) (hm : sN st.1 s < smx s) {x1 : Int32} (e1 : x1 = Int32.ofNat s) (hv : st.1 (zno s + sN st.1 s) = v)
    (X : ∀ h, zaI h 0 (d + (3 + s)) (Int32.ofNat (sN st.1 s)) = some v → (∀ a, a ≠ d + (3 + s) → h a = hp a) → HF h d st.1 st.2.1 s) : ∃ h, f_X4_add (c + 1) x1 v hp = some (0, h) ∧ LW h c d ro β L (incr s st) ∧ lfr true c d hp h := by
  subst e1
  have hb := sI_b (sP_I (LW_P W)) (s := s) (by omega)
  have pl := LW_pl W
  have hm5 : sN st.1 s < smx5 s := by unfold smx5; rw [if_neg (by omega)]; exact hm
  obtain ⟨h1, g1, W1, f1, r1, n1, -⟩ := LW_wr W hd (j := 3 + s) (k := sN st.1 s) (Or.inl ⟨s, hs, rfl, rfl⟩) (by unfold smx at hm; unfold pLen; rcases (show s = 0 ∨ s = 1 ∨ s = 2 ∨ s = 3 by omega) with rfl | rfl | rfl | rfl <;> simp at hm ⊢ <;> omega) v
  obtain ⟨h2, g2, W2, f2⟩ := LW_num W1 hd (by omega) hm5 (X h1 r1 n1)
  refine ⟨h2, ?_, W2, lfr_tr f1 f2⟩
  rw [← Nat.add_assoc] at g1
  simp (disch := omega) only [f_X4_add, LW_is W, LW_dr W, c_names pl, c_namesR pl, c_num pl, c_n pl, g1, LW_dr W1, c_num (LW_pl W1), c_n (LW_pl W1), g2, Option.bind_some]
theorem C_party (W : LW hp c d ro β L st) (hd : c + 4 ≤ d) : cImp true c d ro β L hp (f_X4_readParty ro (c + 1) hp) (pb (pParty β L st) (fun _ st => .inr (0, incr 0 st))) := by
  have hb := sP_bd (LW_P W)
  unfold pParty
  simp (disch := omega) only [f_X4_readParty, LW_is W, LW_dr W, c_num (LW_pl W), c_n3 (LW_pl W), Option.bind_some, pn_0lt]
  by_cases q : 0 < sN st.1 3
  · rw [if_pos q, if_pos q]
    exact cImp_err W (by decide) rfl
  · rw [if_neg q, if_neg q]
    refine cImp_b (cImp_up (C_newName W hd (s := 0) (by decide) rfl rfl)) (fun v st' h e hv W' f' => ?_)
    obtain ⟨t1, t2, t3, t4⟩ := pHead_T (by decide) e
    obtain ⟨h2, g2, W2, f2⟩ := C_add W' hd (s := 0) (by decide) t2 (x1 := 0) rfl t1 (fun h r n => ⟨fun _ => r.trans (congrArg some t1.symm), fun _ => by rw [t3 3 (by decide)]; omega, fun q => absurd q (by decide), fun q => absurd q (by decide), fun q => absurd q (by decide), fun q => absurd q (by decide)⟩)
    exact ⟨h2, by rw [g2]; rfl, by decide, W2, f2⟩
theorem C_regEnd (W : LW hp c d ro β L st) (hd : c + 4 ≤ d) (hm : sN st.1 1 < 5) (hv : st.1 (10 + sN st.1 1) = v) {y : Int32} (hy : y = -1 ∨ ∃ q, q < sN st.1 1 ∧ y = Int32.ofNat q) : cImp true c d ro β L hp (j_X4_readRegion_46 ro (c + 1) v y hp) (.inr (0, incr 1 (put st (33 + sN st.1 1) y))) := by
  have hb := sP_bd (LW_P W)
  obtain ⟨h1, g1, W1, f1, r1, n1, -⟩ := LW_wr W hd (j := 8) (k := sN st.1 1) (Or.inr (Or.inl ⟨rfl, rfl⟩)) (by show _ < 5; omega) y
  have W2 := LW_put (k := 33 + sN st.1 1) W1 (Or.inr (Or.inl ⟨rfl, hm⟩)) y
  have hn : ∀ s', s' < 5 → sN (put st (33 + sN st.1 1) y).1 s' = sN st.1 s' := fun s' hs' => by
    unfold sN
    show (upd st.1 _ y s').toNatClampNeg = _
    rw [upd_ne _ _ (by omega)]
  have hu : (put st (33 + sN st.1 1) y).1 (33 + sN (put st (33 + sN st.1 1) y).1 1) = y := by
    rw [hn 1 (by decide)]
    exact upd_self _ _ _
  have hw : (put st (33 + sN st.1 1) y).1 (10 + sN (put st (33 + sN st.1 1) y).1 1) = v := by
    rw [hn 1 (by decide)]
    exact (upd_ne _ _ (by omega)).trans hv
  obtain ⟨h2, g2, W3, f3⟩ := C_add W2 hd (s := 1) (by decide) (by rw [hn 1 (by decide)]; exact hm) (x1 := 1) rfl hw (fun h r n => ⟨fun _ => r.trans (congrArg some hw.symm), fun q => absurd q (by decide), fun _ => ⟨by rw [zaI_c (n (d + 8) (by omega)), hu, hn 1 (by decide)]; exact r1, by rw [hu, hn 1 (by decide)]; exact hy⟩, fun q => absurd q (by decide), fun q => absurd q (by decide), fun q => absurd q (by decide)⟩)
  refine ⟨h2, ?_, by decide, W3, lfr_tr f1 f3⟩
  simp (disch := omega) only [j_X4_readRegion_46, LW_dr W, c_around (LW_pl W), c_num (LW_pl W), c_n1 (LW_pl W), g1, g2, zb2_some, Option.bind_some]
theorem LW_in2 (W : LW hp c d ro β L st) : f_X3_spells (c + 2) (ro 9) hp = some (zb (decide (sWd β L st.2.2.2 = 2))) := by
  obtain ⟨a, ⟨a0, a1, a2⟩, b⟩ := LW_st W
  rw [LW_spells W a1 b_I]
  congr 2
  unfold sWd
  by_cases k1 : tK β L st.2.2.2 = 1
  · rw [if_pos k1, decide_eq_true k1, Bool.true_and]
    by_cases m : mt β (tS β L st.2.2.2) (tE β L st.2.2.2) wI = true
    · have hl : tE β L st.2.2.2 - tS β L st.2.2.2 = 2 := by
        unfold mt at m
        rw [Bool.and_eq_true] at m
        exact of_decide_eq_true m.1
      have z : ∀ l : List Nat, l.length ≠ 2 → ¬ mt β (tS β L st.2.2.2) (tE β L st.2.2.2) l = true := fun l hl2 q => by
        unfold mt at q
        rw [Bool.and_eq_true] at q
        exact hl2 ((of_decide_eq_true q.1).symm.trans hl)
      rw [m, if_neg (z wPa (by decide)), if_neg (z wRe (by decide)), if_pos rfl, decide_eq_true rfl]
    · rw [if_neg m]
      have m' : mt β (tS β L st.2.2.2) (tE β L st.2.2.2) wI = false := by simpa using m
      rw [m']
      symm
      apply decide_eq_false
      (repeat' split) <;> decide
  · rw [if_neg k1, decide_eq_false k1, Bool.false_and]
    rfl
theorem C_region (W : LW hp c d ro β L st) (hd : c + 4 ≤ d) : cImp true c d ro β L hp (f_X4_readRegion ro (c + 1) hp) (pb (pRegion β L st) (fun _ st => .inr (0, incr 1 st))) := by
  unfold pRegion
  rw [pb_assoc]
  simp only [f_X4_readRegion, LW_is W, Option.bind_some]
  refine cImp_b (cImp_up (C_newName W hd (s := 1) (by decide) rfl rfl)) (fun v st' h e hv W' f' => ?_)
  obtain ⟨t1, t2, t3, t4⟩ := pHead_T (by decide) e
  simp only [LW_in W', LW_in2 W', Option.bind_some, zb_0, decide_eq_false_iff_not]
  by_cases q : sWd β L st'.2.2.2 = 2
  · rw [if_neg (fun n => n q), if_pos q]
    obtain ⟨h1, g1, W1, f1⟩ := LW_next W' hd
    rw [g1]
    rw [pb_assoc]
    refine cImp_fr (lfr_up f1) (cImp_b (cImp_up (C_known W1 hd (s := 1) (by decide) rfl)) (fun y st2 h2 e2 hy W2 f2 => ?_))
    obtain ⟨u1, k, u2, u3⟩ := pThing_st e2
    have a1 : st2.1 = st'.1 := by rw [u1]; rfl
    exact C_regEnd W2 hd (by rw [a1]; exact t2) (by rw [a1]; exact t1) (Or.inr ⟨k, by rw [a1]; exact u2, u3⟩)
  · rw [if_pos q, if_neg q]
    exact C_regEnd W' hd t2 t1 (Or.inl rfl)
theorem C_ward (W : LW hp c d ro β L st) (hd : c + 4 ≤ d) : cImp true c d ro β L hp (f_X4_readWard ro (c + 1) hp) (pb (pWard β L st) (fun _ st => .inr (0, incr 2 st))) := by
  unfold pWard
  rw [pb_assoc]
  simp only [f_X4_readWard, LW_is W, Option.bind_some]
  refine cImp_b (cImp_up (C_newName W hd (s := 2) (by decide) rfl rfl)) (fun v st' h e hv W' f' => ?_)
  obtain ⟨t1, t2, t3, t4⟩ := pHead_T (by decide) e
  rw [pb_assoc]
  refine cImp_b (cImp_up (C_known W' hd (s := 1) (by decide) rfl)) (fun y st2 h2 e2 hy W2 f2 => ?_)
  obtain ⟨u1, k, u2, u3⟩ := pThing_st e2
  have a1 : st2.1 = st'.1 := by rw [u1]; rfl
  have a2 : st2.2.1 = st'.2.1 := by rw [u1]; rfl
  have hm : sN st2.1 2 < 6 := by rw [a1]; exact t2
  have hb := sP_bd (LW_P W2)
  obtain ⟨h3, g3, W3, f3, r3, n3, -⟩ := LW_wr W2 hd (j := 9) (k := sN st2.1 2) (Or.inr (Or.inr (Or.inl ⟨rfl, rfl⟩))) (by show _ < 6; omega) y
  have W4 := LW_put (k := 38 + sN st2.1 2) W3 (Or.inr (Or.inr (Or.inl ⟨rfl, hm⟩))) y
  have hn : ∀ s', s' < 5 → sN (put st2 (38 + sN st2.1 2) y).1 s' = sN st2.1 s' := fun s' hs' => by
    unfold sN
    show (upd st2.1 _ y s').toNatClampNeg = _
    rw [upd_ne _ _ (by omega)]
  have hu : (put st2 (38 + sN st2.1 2) y).1 (38 + sN (put st2 (38 + sN st2.1 2) y).1 2) = y := by
    rw [hn 2 (by decide)]
    exact upd_self _ _ _
  have hw : (put st2 (38 + sN st2.1 2) y).1 (15 + sN (put st2 (38 + sN st2.1 2) y).1 2) = v := by
    rw [hn 2 (by decide)]
    exact (upd_ne _ _ (by omega)).trans (by rw [a1]; exact t1)
  obtain ⟨h5, g5, W5, f5⟩ := C_add W4 hd (s := 2) (by decide) (by rw [hn 2 (by decide)]; exact hm) (x1 := 2) rfl hw (fun h r n => ⟨fun _ => r.trans (congrArg some hw.symm), fun q => absurd q (by decide), fun q => absurd q (by decide), fun _ => ⟨by rw [zaI_c (n (d + 9) (by omega)), hu, hn 2 (by decide)]; exact r3, by rw [hu, hn 1 (by decide)]; exact ⟨k, by rw [a1]; exact u2, u3⟩⟩, fun q => absurd q (by decide), fun q => absurd q (by decide)⟩)
  refine ⟨h5, ?_, by decide, W5, lfr_tr f3 f5⟩
  simp (disch := omega) only [LW_dr W2, c_regions (LW_pl W2), c_num (LW_pl W2), c_n2 (LW_pl W2), g3, g5, zb2_some, Option.bind_some]
theorem C_table (W : LW hp c d ro β L st) (hd : c + 4 ≤ d) : cImp true c d ro β L hp (f_X4_readTable (c + 1) hp) (pb (pTable β L st) (fun _ st => .inr (0, incr 4 st))) := by
  unfold pTable
  rw [pb_assoc]
  simp only [f_X4_readTable, LW_is W, Option.bind_some]
  refine cImp_b (cImp_up (C_begin W hd (s := 4) (most := 4) (by decide) (by decide) rfl rfl)) (fun v st' h e hv W' f' => ?_)
  have e' : st' = adv β L st ∧ sN st.1 4 < 4 := by
    unfold pBegin at e
    split at e
    · cases e
      exact ⟨rfl, by assumption⟩
    · cases e
  rw [pb_assoc]
  refine cImp_b (cImp_up (C_int W' hd (lo := 0) (hi := 99) (by decide) (by decide) rfl rfl)) (fun y st2 h2 e2 hy W2 f2 => ?_)
  obtain ⟨u1, u2, u3, u4⟩ := pInt_st e2
  have a1 : st2.1 = st.1 := by rw [u1, e'.1]; rfl
  have hm : sN st2.1 4 < 4 := by rw [a1]; exact e'.2
  have hb := sP_bd (LW_P W2)
  obtain ⟨h3, g3, W3, f3, r3, n3, -⟩ := LW_wr W2 hd (j := 26) (k := sN st2.1 4) (by unfold hidR; omega) (by show _ < 4; omega) y
  have W4 := LW_put (k := 140 + sN st2.1 4) W3 (by unfold hid; right; right; right; right; right; right; exact ⟨rfl, hm⟩) y
  have hn : ∀ s', s' < 5 → sN (put st2 (140 + sN st2.1 4) y).1 s' = sN st2.1 s' := fun s' hs' => by
    unfold sN
    show (upd st2.1 _ y s').toNatClampNeg = _
    rw [upd_ne _ _ (by omega)]
  have hu : (put st2 (140 + sN st2.1 4) y).1 (140 + sN (put st2 (140 + sN st2.1 4) y).1 4) = y := by
    rw [hn 4 (by decide)]
    exact upd_self _ _ _
  obtain ⟨h5, g5, W5, f5⟩ := LW_num W4 hd (s := 4) (by decide) (by rw [hn 4 (by decide)]; exact hm) ⟨fun q => absurd q (by decide), fun q => absurd q (by decide), fun q => absurd q (by decide), fun q => absurd q (by decide), fun q => absurd q (by decide), fun _ => ⟨by rw [hu, hn 4 (by decide)]; exact r3, by rw [hu]; exact ⟨_, u4, u2⟩⟩⟩
  rw [hn 4 (by decide)] at g5
  refine ⟨h5, ?_, by decide, W5, lfr_tr f3 f5⟩
  have g5' : zsI h3 (d + 1) 4 (Int32.ofNat (sN st2.1 4) + 1) = some h5 := g5
  simp (disch := omega) only [LW_dr W2, c_slips (LW_pl W2), c_num (LW_pl W2), c_n4 (LW_pl W2), g3, LW_dr W3, c_num (LW_pl W3), c_n4 (LW_pl W3), g5', zb2_some, Option.bind_some]
/-! a box -/
/-- what a box that is read holds so far -/
def BF (hp : zHp) (d : Nat) (T : Nat → Int32) (n3 : Nat) (w y z : Int32) (p : Nat) : Prop := zaI hp 0 (d + 10) (Int32.ofNat n3) = some w ∧ zaI hp 0 (d + 11) (Int32.ofNat n3) = some y ∧ zaI hp 0 (d + 12) (Int32.ofNat n3) = some z ∧ ∀ q, q < p → zaI hp 0 (d + (14 + n3)) (Int32.ofNat q) = some (sPap T n3 q) ∧ ∃ m, m ≤ 300 ∧ sPap T n3 q = Int32.ofNat m
theorem C_papers (hd : c + 4 ≤ d) {n3 : Nat} {w y z : Int32} : ∀ (e p m : Nat) (st : PSt) (hp : zHp), sN st.1 3 = n3 → n3 < 12 → p + e = sPi st.1 → e < m → LW hp c d ro β L st → BF hp d st.1 n3 w y z p →
    match pPap β L n3 e p st with
    | .inl (er, j) => ∃ h, l_X4_readPapers_2 (fun p10 h11 => some (p10, h11)) (fun h12 => some ((0 : Int32), h12)) (c + 1) (Int32.ofNat n3) m (Int32.ofNat p) hp = some (er, h) ∧ er < 0 ∧ LE h c d β L j ∧ lfr true c d hp h
    | .inr (_, st') => ∃ h, l_X4_readPapers_2 (fun p10 h11 => some (p10, h11)) (fun h12 => some ((0 : Int32), h12)) (c + 1) (Int32.ofNat n3) m (Int32.ofNat p) hp = some (0, h) ∧ LW h c d ro β L st' ∧ lfr true c d hp h ∧ BF h d st'.1 n3 w y z (sPi st.1) ∧ (∀ i, i < 68 → st'.1 i = st.1 i) ∧ st'.2.1 = st.2.1 := by
  intro e
  induction e with
  | zero =>
    intro p m st hp h3 h12 hpe hm W B
    obtain ⟨m, rfl⟩ : ∃ q, m = q + 1 := ⟨m - 1, by omega⟩
    have hb := sP_bd (LW_P W)
    have hp' : p = sPi st.1 := by omega
    subst hp'
    refine ⟨hp, ?_, W, lfr_rf, B, fun _ _ => rfl, rfl⟩
    simp (disch := omega) only [l_X4_readPapers_2_s, b_X4_readPapers_2, LW_dr W, c_piles (LW_pl W), Int32.lt_irrefl, if_false, Option.bind_some]
  | succ e ih =>
    intro p m st hp h3 h12 hpe hm W B
    obtain ⟨m, rfl⟩ : ∃ q, m = q + 1 := ⟨m - 1, by omega⟩
    have hb := sP_bd (LW_P W)
    have C := C_int W hd (lo := 0) (hi := 300) (by decide) (by decide) (x1 := 0) (x2 := 300) rfl rfl
    simp (disch := omega) only [l_X4_readPapers_2_s, b_X4_readPapers_2, LW_dr W, c_piles (LW_pl W), pn_lt, show p < sPi st.1 by omega, if_true, Option.bind_some]
    unfold pPap
    rcases hr : pInt β L 0 300 st with ⟨er, j⟩ | ⟨v, st1⟩
    · rw [hr] at C
      obtain ⟨h1, g1, g2, g3, f1⟩ := C
      refine ⟨h1, ?_, g2, g3, lfr_up f1⟩
      rw [g1, zb2_some, if_pos g2]
    · rw [hr] at C
      obtain ⟨h1, g1, g2, W1, f1⟩ := C
      obtain ⟨u1, u2, u3, u4⟩ := pInt_st hr
      have a1 : st1.1 = st.1 := by rw [u1]; rfl
      have a2 : st1.2.1 = st.2.1 := by rw [u1]; rfl
      have fz : ∀ a, c + 4 ≤ a → h1 a = hp a := fun a ha => f1 a (Or.inr ⟨ha, Or.inl rfl⟩)
      have B1 : BF h1 d st1.1 n3 w y z p := by
        rw [a1]
        exact ⟨by rw [zaI_c (fz _ (by omega))]; exact B.1, by rw [zaI_c (fz _ (by omega))]; exact B.2.1, by rw [zaI_c (fz _ (by omega))]; exact B.2.2.1, fun q hq => by rw [zaI_c (fz _ (by omega))]; exact B.2.2.2 q hq⟩
      have h3' : sN st1.1 3 = n3 := by rw [a1]; exact h3
      have pl6 : pLen (14 + n3) = 6 := by unfold pLen; rw [if_neg (by omega), if_neg (by omega), if_neg (by omega), if_pos (by omega)]
      obtain ⟨h2, e2, W2, f2, r2, n2, o2⟩ := LW_wr W1 hd (j := 14 + n3) (k := p) (by unfold hidR; omega) (by rw [pl6]; omega) v
      have W3 := LW_put (k := 68 + 6 * n3 + p) W2 (by unfold hid; right; right; right; right; right; left; exact ⟨p, by omega, by rw [h3'], by omega⟩) v
      have hn : ∀ i, i < 68 → (put st1 (68 + 6 * n3 + p) v).1 i = st.1 i := fun i hi => by
        show upd st1.1 _ v i = _
        rw [upd_ne _ _ (by omega), a1]
      have hnn : ∀ s, s < 5 → sN (put st1 (68 + 6 * n3 + p) v).1 s = sN st.1 s := fun s hs => by unfold sN; rw [hn s (by omega)]
      have hpi : sPi (put st1 (68 + 6 * n3 + p) v).1 = sPi st.1 := by unfold sPi; rw [hnn 0 (by decide)]
      have I := ih (p + 1) m (put st1 (68 + 6 * n3 + p) v) h2 (by rw [hnn 3 (by decide)]; exact h3) h12 (by rw [hpi]; omega) (by omega) W3 ⟨by rw [zaI_c (n2 _ (by omega))]; exact B1.1, by rw [zaI_c (n2 _ (by omega))]; exact B1.2.1, by rw [zaI_c (n2 _ (by omega))]; exact B1.2.2.1, fun q hq => by
        by_cases e : q = p
        · subst e
          have eu : sPap (put st1 (68 + 6 * n3 + q) v).1 n3 q = v := upd_self _ _ _
          rw [eu]
          exact ⟨r2, _, u4, u2⟩
        · have hq' : q < p := by omega
          have eu : sPap (put st1 (68 + 6 * n3 + p) v).1 n3 q = sPap st1.1 n3 q := upd_ne _ _ (by omega)
          rw [eu]
          exact ⟨o2 q _ e (by rw [pl6]; omega) (B1.2.2.2 q hq').1, (B1.2.2.2 q hq').2⟩⟩
      have el : l_X4_readPapers_2 (fun p10 h11 => some (p10, h11)) (fun h12 => some ((0 : Int32), h12)) (c + 1) (Int32.ofNat n3) m (Int32.ofNat (p + 1)) h2 = (zb2 (f_X4_readInteger (c + 1) 0 300 hp) fun v3 h4 => if v3 < 0 then some (v3, h4) else (zgR h4 (c + 1) 4 1).bind fun r5 => (zgR h4 r5 5 7).bind fun r6 => (zaR h4 5 r6 (Int32.ofNat n3)).bind fun r7 => (zsI h4 r7 (Int32.ofNat p) v3).bind fun h8 => zlet (Int32.ofNat p + (1 : Int32)) fun v9 => l_X4_readPapers_2 (fun p10 h11 => some (p10, h11)) (fun h12 => some ((0 : Int32), h12)) (c + 1) (Int32.ofNat n3) m v9 h8) := by
        rw [← Nat.add_assoc] at e2
        rw [g1, zb2_some, if_neg g2]
        simp (disch := omega) only [LW_dr W1, c_papers (LW_pl W1), c_papersR (LW_pl W1), e2, zlet, pn_succ, Option.bind_some]
      rw [← el]
      show match pPap β L n3 e (p + 1) (put st1 (68 + 6 * n3 + p) v) with | .inl (er, j) => _ | .inr (_, st') => _
      have ff : lfr true c d hp h2 := lfr_tr (lfr_up f1) f2
      rcases hr2 : pPap β L n3 e (p + 1) (put st1 (68 + 6 * n3 + p) v) with ⟨er, j⟩ | ⟨v', st2⟩
      · rw [hr2] at I
        obtain ⟨h5, i1, i2, i3, i4⟩ := I
        exact ⟨h5, i1, i2, i3, lfr_tr ff i4⟩
      · rw [hr2] at I
        obtain ⟨h5, i1, i2, i3, i4, i5, i6⟩ := I
        rw [hpi] at i4
        exact ⟨h5, i1, i2, lfr_tr ff i3, i4, fun i hi => (i5 i hi).trans (hn i hi), i6.trans a2⟩
end P54

