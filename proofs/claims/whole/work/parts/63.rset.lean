/-! PURE: the reference's reader: a setting, a statement, a text -/
section P63
variable {hb h hp hp' : zHp} {x c L i j k s : Nat} {ro : Nat → Nat} {β : Nat → Nat} {S0 S : Nat → Nat → Int32} {F0 F T N : Nat → Int32} {st : PSt} {r : PR} {n v y z e : Int32}
theorem RX_F18 (X : RX hb x β L S0 F0 n h r) : ∃ q, zgI h x 8 18 = some q ∧ ∀ v st, r = .inr (v, st) → q = st.2.2.1 := by
  obtain ⟨F, S, i, C, c⟩ := RX_C X
  exact ⟨_, RC_F C (by decide), fun v st hr => (c v st hr).2.2.2.1⟩
theorem R_sg (X : RX hb x β L S0 F0 n h r) (v : Int32) : ∃ h', zpV h x 8 18 (.int v) = some h' ∧ RX hb x β L S0 F0 n h' (pb r (fun y st => .inr (y, (st.1, st.2.1, v, st.2.2.2)))) := by
  rcases r with ⟨er, j⟩ | ⟨y, st⟩
  · obtain ⟨F, S, i, C, c1, c2, c3⟩ := X
    obtain ⟨h1, e1, C1⟩ := RC_fld C (k := 18) (by omega) v
    exact ⟨h1, e1, _, S, i, C1, by rw [upd_ne _ _ (by decide)]; exact c1, c2, by rw [upd_ne _ _ (by decide)]; exact c3⟩
  · obtain ⟨F, S, C, c1, c2, c3, c4, c5, c6⟩ := X
    obtain ⟨h1, e1, C1⟩ := RC_fld C (k := 18) (by omega) v
    exact ⟨h1, e1, _, S, C1, c1, c2, upd_self _ _ _, by rw [upd_ne _ _ (by decide)]; exact c4, by rw [upd_ne _ _ (by decide)]; exact c5, c6⟩
/-- after an error: the rest of a setting -/
theorem R_setE (b : rBy S0 β L) (X : RX hb x β L S0 F0 n hp (.inl (e, j))) (y : Int32) : ∃ h, j_X8_readSetting_58 ro x 0 x y hp = some h ∧ RX hb x β L S0 F0 n h (.inl (e, j)) := by
  obtain ⟨h1, g1, X1⟩ := R_fails X (fun _ => true) (y := y) (e := -14) (fun v st hr => by cases hr) (by decide)
  obtain ⟨q, hq, -⟩ := RX_F18 X1
  obtain ⟨h2, g2, X2⟩ := R_sg X1 (q ||| ((1 : Int32) <<< ((0 : Int32) &&& 31)))
  obtain ⟨h3, g3, X3⟩ := R_goOn b X2
  obtain ⟨v4, h4, g4, X4, -⟩ := R_int b X3 (lo := 0) (hi := 50) (by decide) (by decide) (x1 := 0) (x2 := 50) rfl rfl
  obtain ⟨a1, a2⟩ := RX_er (show RX hb x β L S0 F0 n h4 (.inl (e, j)) from X4)
  refine ⟨h4, ?_, X4⟩
  simp only [j_X8_readSetting_58, g1, hq, g2, g3, show f_X8_top 0 h3 = some 50 from rfl, g4, zb2_some, a1, a2, if_false, Option.bind_some]
theorem R_setK (b : rBy S0 β L) (X : RX hb x β L S0 F0 n hp (.inr (v, st))) (hk : k < 2) {y : Int32} (hy : y = Int32.ofNat k) : ∃ h, j_X8_readSetting_39 ro x y hp = some h ∧ RX hb x β L S0 F0 n h (pSetK β L k st) := by
  subst hy
  obtain ⟨q, hq, hqe⟩ := RX_F18 X
  have hq2 := hqe v st rfl
  subst hq2
  have hg : (gBit st.2.2.1 k = true) = (((st.2.2.1 >>> (Int32.ofNat k &&& 31)) &&& 1) = 1) := by
    unfold gBit
    exact propext ⟨of_decide_eq_true, fun h => decide_eq_true h⟩
  have pre : j_X8_readSetting_39 ro x (Int32.ofNat k) hp = j_X8_readSetting_58 ro x (Int32.ofNat k) x (zb (gBit st.2.2.1 k)) hp := by
    simp only [j_X8_readSetting_39, hq, Option.bind_some]
    by_cases q : gBit st.2.2.1 k = true
    · have q' := q
      rw [hg] at q'
      rw [if_pos q', q]; rfl
    · have q' := q
      rw [hg] at q'
      rw [if_neg q', show gBit st.2.2.1 k = false by simpa using q]; rfl
  obtain ⟨h1, g1, X1⟩ := R_fails X (fun st => gBit st.2.2.1 k) (y := zb (gBit st.2.2.1 k)) (e := -14) (fun v st hr => by cases hr; rfl) (by decide)
  obtain ⟨q1, hq1, hq1e⟩ := RX_F18 X1
  obtain ⟨h2, g2, X2⟩ := R_sg X1 (q1 ||| ((1 : Int32) <<< (Int32.ofNat k &&& 31)))
  obtain ⟨h3, g3, X3⟩ := R_goOn b X2
  obtain ⟨v4, h4, g4, X4, hv4⟩ := R_int b X3 (lo := 0) (hi := if k = 0 then 50 else 9) (by decide) (by split <;> decide) (x1 := 0) (x2 := Int32.ofNat (if k = 0 then 50 else 9)) rfl rfl
  have ht : f_X8_top (Int32.ofNat k) h3 = some (Int32.ofNat (if k = 0 then 50 else 9)) := by
    rcases (show k = 0 ∨ k = 1 by omega) with rfl | rfl <;> rfl
  rw [pre]
  simp only [j_X8_readSetting_58, g1, hq1, g2, g3, ht, g4, zb2_some, Option.bind_some]
  unfold pSetK
  by_cases gb : gBit st.2.2.1 k = true
  · have X5 : RX hb x β L S0 F0 n h4 (.inl (-14, st.2.2.2)) := RX_eq X4 (by
      show pb (pb (pb (if gBit st.2.2.1 k = true then .inl (-14, st.2.2.2) else .inr (v, st)) _) _) _ = _
      rw [if_pos gb]; rfl)
    obtain ⟨a1, a2⟩ := RX_er X5
    rw [if_pos gb]
    refine ⟨h4, ?_, X5⟩
    simp only [a1, a2, if_false, Option.bind_some]
  · have eq1 : q1 = st.2.2.1 := hq1e v st (by
      show (if gBit st.2.2.1 k = true then .inl (-14, st.2.2.2) else .inr (v, st)) = (.inr (v, st) : PR)
      rw [if_neg gb])
    rw [if_neg gb]
    have er4 : pb (pb (pb (pb (.inr (v, st)) (fun v st => if gBit st.2.2.1 k = true then .inl (-14, st.2.2.2) else .inr (v, st))) (fun y st => .inr (y, (st.1, st.2.1, q1 ||| ((1 : Int32) <<< (Int32.ofNat k &&& 31)), st.2.2.2)))) (fun v st => .inr (v, adv β L st))) (fun _ st => pInt β L 0 (if k = 0 then 50 else 9) st) = pInt β L 0 (if k = 0 then 50 else 9) (adv β L (st.1, st.2.1, gSet st.2.2.1 k, st.2.2.2)) := by
      show pb (pb (pb (if gBit st.2.2.1 k = true then .inl (-14, st.2.2.2) else .inr (v, st)) _) _) _ = _
      rw [if_neg gb, eq1]; rfl
    have X4' : RX hb x β L S0 F0 n h4 (pInt β L 0 (if k = 0 then 50 else 9) (adv β L (st.1, st.2.1, gSet st.2.2.1 k, st.2.2.2))) := RX_eq X4 er4
    have sp : pb (pInt β L 0 (if k = 0 then 50 else 9) (adv β L st)) (fun v st => .inr (0, (st.1, upd st.2.1 k v, gSet st.2.2.1 k, st.2.2.2))) = pb (pInt β L 0 (if k = 0 then 50 else 9) (adv β L (st.1, st.2.1, gSet st.2.2.1 k, st.2.2.2))) (fun v st => .inr (0, putN st (upd st.2.1 k v))) := by
      unfold pInt
      show pb (if tK β L (tE β L st.2.2.2) = 2 then (if sCv β L (tE β L st.2.2.2) < 0 then .inl (-12, tE β L st.2.2.2) else if (if k = 0 then 50 else 9) < sCv β L (tE β L st.2.2.2) then .inl (-12, tE β L st.2.2.2) else .inr (Int32.ofNat (sCv β L (tE β L st.2.2.2)), adv β L (adv β L st))) else .inl (-11, tE β L st.2.2.2)) _ = pb (if tK β L (tE β L st.2.2.2) = 2 then (if sCv β L (tE β L st.2.2.2) < 0 then .inl (-12, tE β L st.2.2.2) else if (if k = 0 then 50 else 9) < sCv β L (tE β L st.2.2.2) then .inl (-12, tE β L st.2.2.2) else .inr (Int32.ofNat (sCv β L (tE β L st.2.2.2)), adv β L (adv β L (st.1, st.2.1, gSet st.2.2.1 k, st.2.2.2)))) else .inl (-11, tE β L st.2.2.2)) _
      by_cases k2 : tK β L (tE β L st.2.2.2) = 2
      · rw [if_pos k2, if_pos k2]
        by_cases c1 : sCv β L (tE β L st.2.2.2) < 0
        · omega
        · rw [if_neg c1, if_neg c1]
          by_cases c2 : (if k = 0 then 50 else 9) < sCv β L (tE β L st.2.2.2)
          · rw [if_pos c2, if_pos c2]; rfl
          · rw [if_neg c2, if_neg c2]; rfl
      · rw [if_neg k2, if_neg k2]; rfl
    rw [sp]
    rcases hr : pInt β L 0 (if k = 0 then 50 else 9) (adv β L (st.1, st.2.1, gSet st.2.2.1 k, st.2.2.2)) with ⟨er, j⟩ | ⟨v', st'⟩
    · rw [hr] at X4'
      obtain ⟨a1, a2⟩ := RX_er X4'
      refine ⟨h4, ?_, X4'⟩
      simp only [a1, a2, if_false, Option.bind_some]
    · rw [hr] at X4'
      have hvv := hv4 v' st' (er4.trans hr)
      subst hvv
      obtain ⟨h5, g5, X5⟩ := R_putN X4' (k := k) (by omega) v4 0
      refine ⟨h5, ?_, X5⟩
      simp only [RX_ok X4', if_true, RX_N X4', ix0, g5, Option.bind_some]
theorem R_set (b : rBy S0 β L) (X : RX hb x β L S0 F0 n hp (.inr (v, st))) (Y : wSts hb c ro) (hc : c ≤ x) : ∃ h, f_X8_readSetting ro x hp = some h ∧ RX hb x β L S0 F0 n h (pSet β L st) := by
  obtain ⟨h1, g1, X1⟩ := R_goOn b X
  have X1' : RX hb x β L S0 F0 n h1 (.inr (v, adv β L st)) := X1
  have X1'' := X1'
  obtain ⟨F, S, C, -⟩ := X1''
  obtain ⟨-, -, -, -, y19⟩ := RC_sts C Y hc
  have hw : f_X8_wordOf x (ro 19) h1 = some (sWs2 β L (tE β L st.2.2.2)) := m_wordS C.1 (RC_by C b) C.2.2.1 C.2.2.2.1 (txc y19)
  have pre : f_X8_readSetting ro x hp = j_X8_readSetting_22 ro x (sWs2 β L (tE β L st.2.2.2)) x (zb (decide (sWs2 β L (tE β L st.2.2.2) = -1))) h1 := by
    simp only [f_X8_readSetting, RX_is X, g1, hw, Option.bind_some]
    by_cases q : sWs2 β L (tE β L st.2.2.2) = -1
    · rw [if_pos q, decide_eq_true q]; rfl
    · rw [if_neg q, decide_eq_false q]; rfl
  obtain ⟨h2, g2, X2⟩ := R_fails X1' (fun st => decide (sWs2 β L st.2.2.2 = -1)) (y := zb (decide (sWs2 β L (tE β L st.2.2.2) = -1))) (e := -11) (fun v st hr => by cases hr; rfl) (by decide)
  have X2' : RX hb x β L S0 F0 n h2 (if decide (sWs2 β L (tE β L st.2.2.2) = -1) = true then .inl (-11, tE β L st.2.2.2) else .inr (v, adv β L st)) := X2
  rw [pre]
  simp only [j_X8_readSetting_22, g2, Option.bind_some]
  unfold pSet
  by_cases q : sWs2 β L (tE β L st.2.2.2) = -1
  · rw [if_pos (decide_eq_true q)] at X2'
    rw [if_pos q]
    obtain ⟨a1, a2⟩ := RX_er X2'
    simp only [a1, a2, if_false, Option.bind_some]
    obtain ⟨q8, hq8, -⟩ := RX_F18 X2'
    simp only [j_X8_readSetting_39, hq8, Option.bind_some]
    by_cases c1 : ((q8 >>> ((0 : Int32) &&& 31)) &&& 1) = 1
    · rw [if_pos c1]; exact R_setE b X2' 1
    · rw [if_neg c1]; exact R_setE b X2' 0
  · rw [if_neg (by simpa using q)] at X2'
    rw [if_neg q]
    simp only [RX_ok X2', if_true, Option.bind_some]
    have hw2 : sWs2 β L (tE β L st.2.2.2) = 0 ∨ sWs2 β L (tE β L st.2.2.2) = 1 := by
      unfold sWs2 at q ⊢
      split
      · split
        · exact Or.inl rfl
        · split
          · exact Or.inr rfl
          · rename_i k1 m1 m2
            rw [if_pos k1, if_neg m1, if_neg m2] at q
            exact absurd rfl q
      · rename_i k1
        rw [if_neg k1] at q
        exact absurd rfl q
    rcases hw2 with e0 | e1
    · rw [if_pos e0]
      exact R_setK b X2' (by decide) e0
    · rw [if_neg (by rw [e1]; decide)]
      exact R_setK b X2' (by decide) e1
/-! the end of a statement -/
theorem R_cnt (X : RX hb x β L S0 F0 n hp r) : ∃ v h, zgI hp x 8 17 = some v ∧ zpV hp x 8 17 (.int (v + 1)) = some h ∧ RX hb x β L S0 F0 (n + 1) h r := by
  rcases r with ⟨er, j⟩ | ⟨y, st⟩
  · obtain ⟨F, S, i, C, c1, c2, c3⟩ := X
    obtain ⟨h1, e1, C1⟩ := RC_fld C (k := 17) (by omega) (F 17 + 1)
    exact ⟨F 17, h1, RC_F C (by decide), e1, _, S, i, C1, by rw [upd_ne _ _ (by decide)]; exact c1, c2, by rw [upd_ne _ _ (by decide)]; exact c3⟩
  · obtain ⟨F, S, C, c1, c2, c3, c4, c5, c6⟩ := X
    obtain ⟨h1, e1, C1⟩ := RC_fld C (k := 17) (by omega) (F 17 + 1)
    exact ⟨F 17, h1, RC_F C (by decide), e1, _, S, C1, c1, c2, by rw [upd_ne _ _ (by decide)]; exact c3, by rw [upd_ne _ _ (by decide)]; exact c4, by rw [upd_self, c5], c6⟩
theorem R_154 (b : rBy S0 β L) (X : RX hb x β L S0 F0 n hp r) : ∃ h, j_X8_readStatement_154 ro x hp = some h ∧ RX hb x β L S0 F0 (n + 1) h (pb r (fun v st => .inr (v, adv β L st))) := by
  obtain ⟨h1, g1, X1⟩ := R_goOn b X
  obtain ⟨v2, h2, g2, g3, X2⟩ := R_cnt X1
  refine ⟨h2, ?_, X2⟩
  simp only [j_X8_readStatement_154, g1, g2, g3, Option.bind_some]
/-- the sort that grows; none: 5 -/
def inc5 (s : Nat) (st : PSt) : PSt := if s < 5 then incr s st else st
theorem R_111 (b : rBy S0 β L) (X : RX hb x β L S0 F0 n hp r) {y : Int32} (hy : (s < 5 ∧ y = Int32.ofNat s) ∨ (5 ≤ s ∧ y = -1)) (hq : ∀ v st, r = .inr (v, st) → s < 5 → sN st.1 s < smx5 s) : ∃ h, j_X8_readStatement_111 ro x y hp = some h ∧ RX hb x β L S0 F0 (n + 1) h (pb (pb r (fun _ st => .inr (0, inc5 s st))) (fun _ st => pSemi β L st)) := by
  obtain ⟨F, S, i, C, c1⟩ := RX_C X
  have hk := tK_le β L i
  have pre : j_X8_readStatement_111 ro x y hp = j_X8_readStatement_125 ro x y x (zb (!decide (tK β L i = 3))) hp := by
    simp only [j_X8_readStatement_111, RC_F C (k := 12) (by decide), C.2.2.1.2.2.2.1, rT_2 hk, Option.bind_some]
    by_cases q : tK β L i = 3
    · rw [if_pos q, decide_eq_true q]; rfl
    · rw [if_neg q, decide_eq_false q]; rfl
  obtain ⟨h1, g1, X1⟩ := R_fails X (fun st => !decide (tK β L st.2.2.2 = 3)) (y := zb (!decide (tK β L i = 3))) (e := -11) (fun v st hr => by rw [(c1 v st hr).1]) (by decide)
  rw [pre]
  simp only [j_X8_readStatement_125, g1, Option.bind_some]
  have E : ∀ {e : Int32} {j : Nat}, RX hb x β L S0 F0 n h1 (.inl (e, j)) → ∃ h, ((zgI h1 x 8 14).bind fun v5 => if v5 = 0 then (if y = (-1 : Int32) then (j_X8_readStatement_154 ro x h1) else (zgR h1 x 8 3).bind fun r9 => zlet ((0 : Int32) + y) fun v10 => (zaI h1 0 r9 v10).bind fun v11 => (zsI h1 r9 v10 (v11 + (1 : Int32))).bind fun h12 => j_X8_readStatement_154 ro x h12) else j_X8_readStatement_154 ro x h1) = some h ∧ RX hb x β L S0 F0 (n + 1) h (.inl (e, j)) := fun {e j} X2 => by
    obtain ⟨a1, a2⟩ := RX_er X2
    obtain ⟨h3, g3, X3⟩ := R_154 (ro := ro) b X2
    refine ⟨h3, ?_, X3⟩
    simp only [a1, a2, if_false, g3, Option.bind_some]
  rcases r with ⟨er, j⟩ | ⟨v', st⟩
  · exact E X1
  · have X1' : RX hb x β L S0 F0 n h1 (if (!decide (tK β L st.2.2.2 = 3)) = true then .inl (-11, st.2.2.2) else .inr (v', st)) := X1
    have hpl : (inc5 s st).2.2.2 = st.2.2.2 := by unfold inc5; split <;> rfl
    show ∃ h, _ ∧ RX hb x β L S0 F0 (n + 1) h (pSemi β L (inc5 s st))
    unfold pSemi
    rw [hpl]
    by_cases k3 : tK β L st.2.2.2 = 3
    · rw [if_neg (by rw [decide_eq_true k3]; decide)] at X1'
      rw [if_pos k3]
      have a0 := RX_ok X1'
      simp only [a0, if_true, Option.bind_some]
      rcases hy with ⟨h5, ey⟩ | ⟨h5, ey⟩
      · subst ey
        have X1'' := X1'
        obtain ⟨F1, S1, C1, d1, d2, d3, d4, d5, d6⟩ := X1'
        have hm := hq v' st rfl h5
        have hle := sQ_b d6 h5
        rw [if_neg (by rw [pn_ne1 (by omega)]; exact not_false)]
        have rd : zaI h1 0 (x + 2) (Int32.ofNat s) = some (Int32.ofNat (sN st.1 s)) := by
          rw [wm_told (wMF_M C1.1) (show s < 144 by omega), d1, d6.1 s h5]
        obtain ⟨h2, g2, C2⟩ := RC_arr C1 (j := 2) (k := s) (Or.inl rfl) (show s < 144 by omega) (Int32.ofNat (sN st.1 s) + 1)
        have X2 : RX hb x β L S0 F0 n h2 (.inr (0, incr s st)) := ⟨F1, _, C2, by rw [w2_self, d1, pn_succ]; rfl, by rw [w2_ne _ _ (by decide)]; exact d2, d3, d4, d5, sQ_incr d6 h5 hm⟩
        obtain ⟨h3, g3, X3⟩ := R_154 (ro := ro) b X2
        refine ⟨h3, ?_, RX_eq X3 ?_⟩
        · simp only [RX_T X1'', zlet, ix0, rd, g2, g3, Option.bind_some]
        · unfold inc5
          rw [if_pos h5]
          rfl
      · rw [if_pos ey]
        obtain ⟨h3, g3, X3⟩ := R_154 (ro := ro) b (RX_v X1' 0)
        refine ⟨h3, g3, RX_eq X3 ?_⟩
        unfold inc5
        rw [if_neg (by omega)]
        rfl
    · rw [if_pos (by rw [decide_eq_false k3]; rfl)] at X1'
      rw [if_neg k3]
      exact E X1'
end P63
