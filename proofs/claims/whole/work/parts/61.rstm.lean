/-! PURE: the reference's reader: statements -/
section P61
variable {hb h hp hp' : zHp} {x c L i j k s : Nat} {ro : Nat → Nat} {β : Nat → Nat} {S0 S : Nat → Nat → Int32} {F0 F T N : Nat → Int32} {st : PSt} {r : PR} {n v y z e : Int32}
theorem sQ_incr (Q : sQ T) (hs : s < 5) (hm : sN T s < smx5 s) : sQ (upd T s (Int32.ofNat (sN T s + 1))) := by
  have hb := sQ_b Q hs
  have hn := incr_n (T := T) (s := s) (by omega)
  obtain ⟨q, b0, b1, b2, b3, b4⟩ := Q
  refine ⟨fun s' hs' => ?_, ?_⟩
  · rw [hn s' hs']
    by_cases e : s' = s
    · rw [if_pos e, e, upd_self]
    · rw [if_neg e, upd_ne _ _ e]; exact q s' hs'
  · rw [hn 0 (by decide), hn 1 (by decide), hn 2 (by decide), hn 3 (by decide), hn 4 (by decide)]
    have hmx : sN T s < (if s = 4 then 4 else if s = 2 then 6 else if s = 3 then 12 else 5) := hm
    rcases (show s = 0 ∨ s = 1 ∨ s = 2 ∨ s = 3 ∨ s = 4 by omega) with rfl | rfl | rfl | rfl | rfl <;> simp at hmx ⊢ <;> omega
theorem RX_eq {r' : PR} (X : RX hb x β L S0 F0 n h r) (e : r = r') : RX hb x β L S0 F0 n h r' := e ▸ X
theorem RX_1 (X : RX hb x β L S0 F0 n h (.inr (v, st))) : ∃ F S, RC hb x β L S0 F0 h F S st.2.2.2 ∧ S 2 = st.1 ∧ sQ st.1 := let ⟨F, S, C, a, _, _, _, _, q⟩ := X; ⟨F, S, C, a, q⟩
theorem RX_many (X : RX hb x β L S0 F0 n h (.inr (v, st))) (hs : s < 5) : f_X8_many x (Int32.ofNat s) h = some (Int32.ofNat (sN st.1 s)) := by
  obtain ⟨F, S, C, a, q⟩ := RX_1 X
  have := m_many C (by rw [a]; exact q) hs
  rw [a] at this
  exact this
theorem RX_manyX (X : RX hb x β L S0 F0 n h r) (hs : s < 5) : ∃ m, f_X8_many x (Int32.ofNat s) h = some m := by
  obtain ⟨F, S, i, C, -⟩ := RX_C X
  exact ⟨_, p_many (wMF_M C.1) rfl hs⟩
theorem RX_is (X : RX hb x β L S0 F0 n h r) : zis h x 8 = some () := let ⟨_, _, _, C, _⟩ := RX_C X; RC_is C
theorem RX_T (X : RX hb x β L S0 F0 n h r) : zgR h x 8 3 = some (x + 2) := let ⟨_, _, _, C, _⟩ := RX_C X; RC_T C
theorem RX_N (X : RX hb x β L S0 F0 n h r) : zgR h x 8 5 = some (x + 4) := let ⟨_, _, _, C, _⟩ := RX_C X; RC_N C
theorem R_next (b : rBy S0 β L) (X : RX hb x β L S0 F0 n hp (.inr (v, st))) : ∃ h, f_X8_next x hp = some h ∧ RX hb x β L S0 F0 n h (.inr (v, adv β L st)) := by
  obtain ⟨h, e, X1⟩ := R_goOn b X
  refine ⟨h, ?_, X1⟩
  simp only [f_X8_goOn, RX_is X, RX_ok X, if_true, Option.bind_some] at e
  cases hh : f_X8_next x hp with
  | none => rw [hh] at e; cases e
  | some q => rw [hh] at e; exact e
theorem R_head (b : rBy S0 β L) (X : RX hb x β L S0 F0 n hp r) (Y : wSts hb c ro) (hc : c ≤ x) (hs : s < 4) (hy : ∀ v st, r = .inr (v, st) → y = zb (decide (¬ sN st.1 s < smx s))) : ∃ h2 h3 h4, f_X8_failsIf x y (-15) hp = some h2 ∧ f_X8_goOn x h2 = some h3 ∧ f_X8_newName ro x (Int32.ofNat s) h3 = some h4 ∧ RX hb x β L S0 F0 n h4 (pb r (fun _ st => pHead β L s (smx s) st)) := by
  obtain ⟨h2, g2, X2⟩ := R_fails X (fun st => decide (¬ sN st.1 s < smx s)) hy (e := -15) (by decide)
  obtain ⟨h3, g3, X3⟩ := R_goOn b X2
  obtain ⟨h4, g4, X4⟩ := R_newName b X3 Y hc hs
  refine ⟨h2, h3, h4, g2, g3, g4, RX_eq X4 ?_⟩
  rcases r with e | ⟨v, st⟩
  · rfl
  · show pb (pb (if decide (¬ sN st.1 s < smx s) = true then .inl (-15, st.2.2.2) else .inr (v, st)) (fun v st => .inr (v, adv β L st))) (fun _ st => pNew β L s st) = pb (pBegin β L s (smx s) st) (fun _ st => pNew β L s st)
    unfold pBegin
    by_cases q : sN st.1 s < smx s
    · rw [if_pos q, if_neg (by simpa using q)]; rfl
    · rw [if_neg q, if_pos (by simpa using q)]; rfl
theorem R_store (X : RX hb x β L S0 F0 n h r) (hv : ∀ v' st', r = .inr (v', st') → v = v') {a : Nat} (hs : s < 5) (h5 : 5 ≤ a) (ha : ∀ v st, r = .inr (v, st) → a + sN st.1 s < 144) : ∃ h', ((zgI h x 8 14).bind fun v6 => if v6 = 0 then ((zgR h x 8 3).bind fun r7 => (f_X8_many x (Int32.ofNat s) h).bind fun v8 => (zsI h r7 (Int32.ofNat a + v8) v).bind fun h9 => some h9) else some h) = some h' ∧ RX hb x β L S0 F0 n h' (pb r (fun k st => .inr (0, put st (a + sN st.1 s) k))) := by
  rcases r with ⟨er, j⟩ | ⟨v', st⟩
  · obtain ⟨a1, a2⟩ := RX_er X
    refine ⟨h, ?_, X⟩
    simp only [a1, a2, if_false, Option.bind_some]
  · have := hv v' st rfl
    subst this
    obtain ⟨h1, g1, X1⟩ := R_put X (k := a + sN st.1 s) (by omega) (ha v st rfl) v 0
    refine ⟨h1, ?_, X1⟩
    simp only [RX_ok X, if_true, RX_T X, RX_many X hs, ixa, g1, Option.bind_some]
theorem R_party (b : rBy S0 β L) (X : RX hb x β L S0 F0 n hp (.inr (v, st))) (Y : wSts hb c ro) (hc : c ≤ x) : ∃ h, f_X8_readParty ro x hp = some h ∧ RX hb x β L S0 F0 n h (pParty β L st) := by
  obtain ⟨-, -, -, -, q⟩ := RX_1 X
  have q3 := sQ_b q (s := 3) (by decide)
  have m3 : f_X8_many x 3 hp = some (Int32.ofNat (sN st.1 3)) := RX_many X (s := 3) (by decide)
  have pre : f_X8_readParty ro x hp = j_X8_readParty_14 ro x x (zb (decide (0 < sN st.1 3))) hp := by
    simp (disch := omega) only [f_X8_readParty, RX_is X, m3, Option.bind_some, pn_0lt]
    by_cases q : 0 < sN st.1 3
    · rw [if_pos q, decide_eq_true q]; rfl
    · rw [if_neg q, decide_eq_false q]; rfl
  obtain ⟨h1, g1, X1⟩ := R_fails X (fun st => decide (0 < sN st.1 3)) (y := zb (decide (0 < sN st.1 3))) (e := -11) (fun v st hr => by cases hr; rfl) (by decide)
  have X1' : RX hb x β L S0 F0 n h1 (if decide (0 < sN st.1 3) = true then .inl (-11, st.2.2.2) else .inr (v, st)) := X1
  obtain ⟨m, hm⟩ : ∃ m, f_X8_many x 0 h1 = some m := RX_manyX X1 (s := 0) (by decide)
  obtain ⟨y, hy⟩ : ∃ y : Int32, (if m = 5 then (1 : Int32) else 0) = y := ⟨_, rfl⟩
  have pre2 : j_X8_readParty_14 ro x x (zb (decide (0 < sN st.1 3))) hp = j_X8_readParty_34 ro x x y h1 := by
    simp only [j_X8_readParty_14, g1, hm, Option.bind_some]
    rw [← hy]
    by_cases q : m = 5
    · rw [if_pos q, if_pos q]
    · rw [if_neg q, if_neg q]
  obtain ⟨h2, h3, h4, e2, e3, e4, X4⟩ := R_head b X1' Y hc (s := 0) (by decide) (y := y) (fun v' st' hr => by
    have hst : st' = st := by
      split at hr
      · cases hr
      · cases hr; rfl
    subst hst
    rw [hr] at X1'
    have hm2 : f_X8_many x 0 h1 = some (Int32.ofNat (sN st'.1 0)) := RX_many X1' (s := 0) (by decide)
    rw [hm] at hm2
    rw [← hy, some_in hm2]
    have h05 := q.2.1
    have n5 : (Int32.ofNat (sN st'.1 0) = 5) = (sN st'.1 0 = 5) := pn_inj (n := 5) (by omega) (by decide)
    simp only [n5]
    show _ = zb (decide (¬ sN st'.1 0 < 5))
    by_cases c5 : sN st'.1 0 = 5
    · rw [if_pos c5, decide_eq_true (by omega)]; rfl
    · rw [if_neg c5, decide_eq_false (by omega)]; rfl)
  refine ⟨h4, ?_, RX_eq X4 ?_⟩
  · rw [pre, pre2]
    simp only [j_X8_readParty_34, e2, e3, show f_X8_newName ro x 0 h3 = some h4 from e4, Option.bind_some]
  · unfold pParty
    by_cases q : 0 < sN st.1 3
    · rw [if_pos q, if_pos (decide_eq_true q)]; rfl
    · rw [if_neg q, if_neg (by simpa using q)]; rfl
/-- the flag of a full sort -/
theorem full_y (X : RX hb x β L S0 F0 n hp (.inr (v, st))) (hs : s < 4) {y : Int32} (hy : y = if Int32.ofNat (sN st.1 s) = Int32.ofNat (smx s) then 1 else 0) : ∀ v' st', (.inr (v, st) : PR) = .inr (v', st') → y = zb (decide (¬ sN st'.1 s < smx s)) := fun v' st' hr => by
  cases hr
  obtain ⟨-, -, -, -, q⟩ := RX_1 X
  have hb := sQ_b q (s := s) (by omega)
  have hle : sN st.1 s ≤ smx s := by
    obtain ⟨-, b0, b1, b2, b3, b4⟩ := q
    unfold smx
    rcases (show s = 0 ∨ s = 1 ∨ s = 2 ∨ s = 3 by omega) with rfl | rfl | rfl | rfl <;> simp <;> omega
  have hmx : smx s < 100 := by unfold smx; (repeat' split) <;> decide
  have nn : (Int32.ofNat (sN st.1 s) = Int32.ofNat (smx s)) = (sN st.1 s = smx s) := pn_inj (by omega) (by omega)
  rw [hy]
  simp only [nn]
  by_cases c5 : sN st.1 s = smx s
  · rw [if_pos c5, decide_eq_true (by omega)]; rfl
  · rw [if_neg c5, decide_eq_false (by omega)]; rfl
theorem R_region (b : rBy S0 β L) (X : RX hb x β L S0 F0 n hp (.inr (v, st))) (Y : wSts hb c ro) (hc : c ≤ x) : ∃ h, f_X8_readRegion ro x hp = some h ∧ RX hb x β L S0 F0 n h (pRegion β L st) := by
  obtain ⟨-, -, -, -, q⟩ := RX_1 X
  have m1 : f_X8_many x 1 hp = some (Int32.ofNat (sN st.1 1)) := RX_many X (s := 1) (by decide)
  obtain ⟨y, hy⟩ : ∃ y : Int32, y = if Int32.ofNat (sN st.1 1) = Int32.ofNat (smx 1) then 1 else 0 := ⟨_, rfl⟩
  have pre : f_X8_readRegion ro x hp = j_X8_readRegion_15 ro x x y hp := by
    simp only [f_X8_readRegion, RX_is X, m1, Option.bind_some]
    rw [hy]
    show (if Int32.ofNat (sN st.1 1) = 5 then _ else _) = j_X8_readRegion_15 ro x x (if Int32.ofNat (sN st.1 1) = 5 then 1 else 0) hp
    by_cases q : Int32.ofNat (sN st.1 1) = 5
    · rw [if_pos q, if_pos q]
    · rw [if_neg q, if_neg q]
  obtain ⟨h2, h3, h4, e2, e3, e4, X4⟩ := R_head b X Y hc (s := 1) (by decide) (y := y) (full_y X (by decide) hy)
  rw [pre]
  simp only [j_X8_readRegion_15, e2, e3, show f_X8_newName ro x 1 h3 = some h4 from e4, Option.bind_some]
  have X4' : RX hb x β L S0 F0 n h4 (pHead β L 1 5 st) := X4
  unfold pRegion
  have ST : ∀ {h : zHp} {r : PR} {v : Int32}, RX hb x β L S0 F0 n h r → (∀ v' st', r = .inr (v', st') → v = v') → ∃ h', j_X8_readRegion_58 ro x v h = some h' ∧ RX hb x β L S0 F0 n h' (pb r (fun k st => .inr (0, put st (33 + sN st.1 1) k))) := fun {h r v} X hv => R_store X hv (a := 33) (s := 1) (by decide) (by decide) (fun v st hr => by
    rw [hr] at X
    obtain ⟨-, -, -, -, q⟩ := RX_1 X
    have := sQ_b q (s := 1) (by decide)
    omega)
  rcases hr : pHead β L 1 5 st with ⟨er, j⟩ | ⟨v', st1⟩
  · rw [hr] at X4'
    obtain ⟨a1, a2⟩ := RX_er X4'
    simp only [a1, a2, if_false, Option.bind_some]
    exact ST X4' (fun v' st' hr => by cases hr)
  · rw [hr] at X4'
    have X5 := X4'
    obtain ⟨F, S, C, -⟩ := X5
    obtain ⟨-, -, -, y18, -⟩ := RC_sts C Y hc
    simp only [RX_ok X4', if_true, m_wordK C.1 (RC_by C b) C.2.2.1 C.2.2.2.1 (txc y18), Option.bind_some]
    show ∃ h, _ ∧ RX hb x β L S0 F0 n h (if sWd β L st1.2.2.2 = 2 then pb (pThing β L 1 (adv β L st1)) (fun k st => .inr (0, put st (33 + sN st.1 1) k)) else .inr (0, put st1 (33 + sN st1.1 1) (-1)))
    by_cases q2 : sWd β L st1.2.2.2 = 2
    · rw [if_pos q2, if_pos q2]
      obtain ⟨h5, g5, X6⟩ := R_next b X4'
      obtain ⟨v7, h7, g7, X7, hv7⟩ := R_thing b X6 Y hc (s := 1) (by decide)
      simp only [g5, show f_X8_thing ro x 1 h5 = some (v7, h7) from g7, zb2_some, Option.bind_some]
      exact ST X7 hv7
    · rw [if_neg q2, if_neg q2]
      exact ST (RX_v X4' (-1)) (fun v' st' hr => by cases hr; rfl)
theorem R_ward (b : rBy S0 β L) (X : RX hb x β L S0 F0 n hp (.inr (v, st))) (Y : wSts hb c ro) (hc : c ≤ x) : ∃ h, f_X8_readWard ro x hp = some h ∧ RX hb x β L S0 F0 n h (pWard β L st) := by
  have m1 : f_X8_many x 2 hp = some (Int32.ofNat (sN st.1 2)) := RX_many X (s := 2) (by decide)
  obtain ⟨y, hy⟩ : ∃ y : Int32, y = if Int32.ofNat (sN st.1 2) = Int32.ofNat (smx 2) then 1 else 0 := ⟨_, rfl⟩
  have pre : f_X8_readWard ro x hp = j_X8_readWard_16 ro x x y hp := by
    simp only [f_X8_readWard, RX_is X, m1, Option.bind_some]
    rw [hy]
    show (if Int32.ofNat (sN st.1 2) = 6 then _ else _) = j_X8_readWard_16 ro x x (if Int32.ofNat (sN st.1 2) = 6 then 1 else 0) hp
    by_cases q : Int32.ofNat (sN st.1 2) = 6
    · rw [if_pos q, if_pos q]
    · rw [if_neg q, if_neg q]
  obtain ⟨h2, h3, h4, e2, e3, e4, X4⟩ := R_head b X Y hc (s := 2) (by decide) (y := y) (full_y X (by decide) hy)
  obtain ⟨v7, h7, g7, X7, hv7⟩ := R_thing b X4 Y hc (s := 1) (by decide)
  obtain ⟨h8, g8, X8⟩ := R_store X7 hv7 (a := 38) (s := 2) (by decide) (by decide) (fun v st hr => by
    rw [hr] at X7
    obtain ⟨-, -, -, -, q⟩ := RX_1 X7
    have := sQ_b q (s := 2) (by decide)
    omega)
  refine ⟨h8, ?_, RX_eq X8 ?_⟩
  · rw [pre]
    simp only [j_X8_readWard_16, e2, e3, show f_X8_newName ro x 2 h3 = some h4 from e4, show f_X8_thing ro x 1 h4 = some (v7, h7) from g7, zb2_some, Option.bind_some]
    exact g8
  · unfold pWard
    show pb (pb (pHead β L 2 6 st) (fun _ st => pThing β L 1 st)) _ = _
    rw [pb_assoc]
theorem R_table (b : rBy S0 β L) (X : RX hb x β L S0 F0 n hp (.inr (v, st))) : ∃ h, f_X8_readTable x hp = some h ∧ RX hb x β L S0 F0 n h (pTable β L st) := by
  obtain ⟨-, -, -, -, q⟩ := RX_1 X
  have h4 := q.2.2.2.2.2
  have m1 : f_X8_many x 4 hp = some (Int32.ofNat (sN st.1 4)) := RX_many X (s := 4) (by decide)
  have n4 : (Int32.ofNat (sN st.1 4) = 4) = (sN st.1 4 = 4) := pn_inj (n := 4) (by omega) (by decide)
  have pre : f_X8_readTable x hp = j_X8_readTable_15 x x (zb (decide (¬ sN st.1 4 < 4))) hp := by
    simp only [f_X8_readTable, RX_is X, m1, n4, Option.bind_some]
    by_cases q : sN st.1 4 = 4
    · rw [if_pos q, decide_eq_true (by omega)]; rfl
    · rw [if_neg q, decide_eq_false (by omega)]; rfl
  obtain ⟨h2, g2, X2⟩ := R_fails X (fun st => decide (¬ sN st.1 4 < 4)) (y := zb (decide (¬ sN st.1 4 < 4))) (fun v st hr => by cases hr; rfl) (e := -15) (by decide)
  obtain ⟨h3, g3, X3⟩ := R_goOn b X2
  have X3' : RX hb x β L S0 F0 n h3 (pBegin β L 4 4 st) := by
    by_cases q : sN st.1 4 < 4
    · have X3'' : RX hb x β L S0 F0 n h3 (.inr (v, adv β L st)) := RX_eq X3 (by
        show pb (if decide (¬ sN st.1 4 < 4) = true then .inl (-15, st.2.2.2) else .inr (v, st)) (fun v st => .inr (v, adv β L st)) = _
        rw [if_neg (by simpa using q)]; rfl)
      unfold pBegin
      rw [if_pos q]
      exact RX_v X3'' 0
    · refine RX_eq X3 ?_
      show pb (if decide (¬ sN st.1 4 < 4) = true then .inl (-15, st.2.2.2) else .inr (v, st)) (fun v st => .inr (v, adv β L st)) = _
      unfold pBegin
      rw [if_neg q, if_pos (by simpa using q)]; rfl
  obtain ⟨v7, h7, g7, X7, hv7⟩ := R_int b X3' (lo := 0) (hi := 99) (by decide) (by decide) (x1 := 0) (x2 := 99) rfl rfl
  obtain ⟨h8, g8, X8⟩ := R_store X7 hv7 (a := 140) (s := 4) (by decide) (by decide) (fun v st' hr => by
    obtain ⟨v1, st1, k1, k2⟩ := pb_inr hr
    obtain ⟨u1, -⟩ := pInt_st k2
    unfold pBegin at k1
    split at k1
    · rename_i hm
      cases k1
      rw [u1]
      show 140 + sN st.1 4 < 144
      omega
    · cases k1)
  refine ⟨h8, ?_, RX_eq X8 ?_⟩
  · rw [pre]
    simp only [j_X8_readTable_15, g2, g3, g7, zb2_some, Option.bind_some]
    exact g8
  · unfold pTable
    rw [pb_assoc]
end P61
