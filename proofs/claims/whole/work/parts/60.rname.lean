/-! PURE: the reference's reader: names -/
section P60
variable {hb h hp hp' : zHp} {x c L i j k s : Nat} {ro : Nat → Nat} {β : Nat → Nat} {S0 S : Nat → Nat → Int32} {F0 F T : Nat → Int32} {st : PSt} {r : PR} {n v y e : Int32}
def pName (β : Nat → Nat) (L : Nat) (st : PSt) : PR := if isNm β L st.2.2.2 = true then .inr (sPk β L st.2.2.2, st) else .inl (-11, st.2.2.2)
theorem R_nameHere (b : rBy S0 β L) (X : RX hb x β L S0 F0 n hp r) (Y : wSts hb c ro) (hc : c ≤ x) : RV hb x β L S0 F0 n (f_X8_nameHere ro x hp) (pb r (fun _ st => pName β L st)) := by
  obtain ⟨F, S, i, C, c1⟩ := RX_C X
  have hk := tK_le β L i
  have hs := tS_in (β := β) C.2.2.2.1
  have he := tE_in (β := β) C.2.2.2.1
  have b1 := b.1
  obtain ⟨-, -, -, y18, -⟩ := RC_sts C Y hc
  have pre : f_X8_nameHere ro x hp = j_X8_nameHere_37 ro x x (zb (!isNm β L i)) hp := by
    simp only [f_X8_nameHere, RC_is C, RC_F C (k := 12) (by decide), RC_F C (k := 10) (by decide), RC_F C (k := 11) (by decide), C.2.2.1.2.2.2.1, C.2.2.1.2.1, C.2.2.1.2.2.1, rT_0 hk, subN he.1, Option.bind_some, m_wordK C.1 (RC_by C b) C.2.2.1 C.2.2.2.1 (txc y18)]
    unfold isNm
    by_cases k1 : tK β L i = 1
    · rw [if_pos k1, decide_eq_true k1, Bool.true_and]
      have l6 : ((6 : Int32) < Int32.ofNat (tE β L i - tS β L i)) = (6 < tE β L i - tS β L i) := pn_lt (i := 6) (by decide) (by omega)
      by_cases c6 : 6 < tE β L i - tS β L i
      · rw [if_pos (by rw [l6]; exact c6), decide_eq_false (show ¬ tE β L i - tS β L i ≤ 6 by omega)]; rfl
      · rw [if_neg (by rw [l6]; exact c6), decide_eq_true (show tE β L i - tS β L i ≤ 6 by omega), Bool.true_and]
        by_cases w : sWd β L i = -1
        · rw [if_pos w, decide_eq_true w]; rfl
        · rw [if_neg w, decide_eq_false w]; rfl
    · rw [if_neg k1, decide_eq_false k1]; rfl
  rw [pre]
  obtain ⟨h1, g1, X1⟩ := R_fails X (fun st => !isNm β L st.2.2.2) (y := zb (!isNm β L i)) (e := -11) (fun v st hr => by rw [(c1 v st hr).1]) (by decide)
  simp only [j_X8_nameHere_37, g1, Option.bind_some]
  have E : ∀ {h2 : zHp} {e : Int32} {j : Nat} (K : Int32 → Option (Int32 × zHp)), RX hb x β L S0 F0 n h2 (.inl (e, j)) → l_X8_nameHere_46 ro K x h2 1000000 0 0 = K 0 := fun {h2 e j} K X2 => by
    obtain ⟨a1, a2⟩ := RX_er X2
    simp only [l_X8_nameHere_46_s (n := 999999), b_X8_nameHere_46, show (0 : Int32) < 6 by decide, if_true, a1, a2, if_false, Option.bind_some]
  rcases r with ⟨er, j⟩ | ⟨v, st⟩
  · exact ⟨0, h1, E _ X1, X1, fun v' st' hr => by cases hr⟩
  · have X1' : RX hb x β L S0 F0 n h1 (if (!isNm β L st.2.2.2) = true then .inl (-11, st.2.2.2) else .inr (v, st)) := X1
    show RV hb x β L S0 F0 n _ (pName β L st)
    unfold pName
    by_cases q : isNm β L st.2.2.2 = true
    · rw [if_neg (by rw [q]; decide)] at X1'
      rw [if_pos q]
      have a0 := RX_ok X1'
      have X1'' := X1'
      obtain ⟨F1, S1, C1, -⟩ := X1'
      have k1 := isNm_1 q
      have he1 := tE_in (β := β) C1.2.2.2.1
      refine ⟨sPk β L st.2.2.2, h1, ?_, X1'', fun v' st' hr => by cases hr; rfl⟩
      refine zFA (n := 6) (pkI β (tS β L st.2.2.2) (tE β L st.2.2.2)) _ (by decide) (fun m j hj => ?_) (fun m => ?_)
      · have l6 : Int32.ofNat j < 6 := by rw [show (6 : Int32) = Int32.ofNat 6 from rfl, pn_lt (by omega) (by decide)]; exact hj
        simp (disch := omega) only [l_X8_nameHere_46_s, b_X8_nameHere_46, l6, if_true, a0, RC_F C1 (k := 11) (by decide), RC_F C1 (k := 10) (by decide), C1.2.2.1.2.1, C1.2.2.1.2.2.1, ixa, pn_lt, j_X8_nameHere_95, zlet, pn_succ, pkI, Option.bind_some]
        by_cases q2 : tS β L st.2.2.2 + j < tE β L st.2.2.2
        · obtain ⟨b2, b3⟩ := (RC_by C1 b).2 (tS β L st.2.2.2 + j) (by omega)
          simp only [q2, if_true, q_by C1.1, wMF_rd C1.1 (j := 1) (by decide) (by decide) (show tS β L st.2.2.2 + j < 900 by omega), b2, Option.bind_some]
        · simp only [q2, if_false]
      · simp only [l_X8_nameHere_46_s, b_X8_nameHere_46, show ¬ Int32.ofNat 6 < 6 by decide, if_false]
        rfl
    · rw [if_pos (by simpa using q)] at X1'
      rw [if_neg q]
      exact ⟨0, h1, E _ X1', X1', fun v' st' hr => by cases hr⟩
theorem m_nameAt (hs : s < 4) : f_X8_nameAt (Int32.ofNat s) hp = some (Int32.ofNat (zno s)) := by
  rcases (show s = 0 ∨ s = 1 ∨ s = 2 ∨ s = 3 by omega) with rfl | rfl | rfl | rfl <;> rfl
theorem m_many (C : RC hb x β L S0 F0 hp F S i) (Q : sQ (S 2)) (hs : s < 5) : f_X8_many x (Int32.ofNat s) hp = some (Int32.ofNat (sN (S 2) s)) := (p_many (wMF_M C.1) rfl hs).trans (congrArg some (Q.1 s hs))
theorem m_nameFound (C : RC hb x β L S0 F0 hp F S i) (Q : sQ (S 2)) (hs : s < 4) (y : Int32) : f_X8_nameFound x (Int32.ofNat s) y hp = some (zoi (fnd (S 2) s y)) := by
  have hb := sQ_b Q (s := s) (by omega)
  have hz := zno_in s hs
  simp only [f_X8_nameFound, RC_is C, Option.bind_some]
  refine (zF (n := sN (S 2) s) (fun k => decide (S 2 (zno s + k) = y)) (fun k => some (Int32.ofNat k)) (some (-1)) (by omega) (fun m i hi => ?_) (fun m => ?_)).trans ?_
  · simp (disch := omega) only [l_X8_nameFound_2_s, b_X8_nameFound_2, m_many C Q, pn_lt, hi, if_true, RC_T C, m_nameAt hs, ixa, wm_told (wMF_M C.1), zlet, pn_succ, decide_eq_true_eq, Option.bind_some]
  · simp (disch := omega) only [l_X8_nameFound_2_s, b_X8_nameFound_2, m_many C Q, Int32.lt_irrefl, if_false, Option.bind_some]
  · unfold fnd zoi
    cases zff (fun k => decide (S 2 (zno s + k) = y)) (sN (S 2) s) 0 <;> rfl
theorem sQ_n (Q : sQ T) {s : Nat} (hs : s < 4) : zno s + sN T s < 144 ∧ 5 ≤ zno s := by
  have := sQ_b Q (s := s) (by omega)
  have := zno_in s hs
  omega
/-- a number of T is set -/
theorem R_put (X : RX hb x β L S0 F0 n hp (.inr (v, st))) {k : Nat} (h5 : 5 ≤ k) (hk : k < 144) (y z : Int32) : ∃ h, zsI hp (x + 2) (Int32.ofNat k) y = some h ∧ RX hb x β L S0 F0 n h (.inr (z, put st k y)) := by
  obtain ⟨F, S, C, c1, c2, c3, c4, c5, c6⟩ := X
  obtain ⟨h1, e1, C1⟩ := RC_arr C (j := 2) (k := k) (Or.inl rfl) hk y
  exact ⟨h1, e1, F, _, C1, by rw [w2_self, c1]; rfl, by rw [w2_ne _ _ (by decide)]; exact c2, c3, c4, c5, sQ_put c6 h5 y⟩
theorem R_nn (b : rBy S0 β L) (X : RX hb x β L S0 F0 n hp r) (hs : s < 4) (g : PSt → Bool) (hy : ∀ v st, r = .inr (v, st) → y = zb (g st)) (hv : ∀ v' st', r = .inr (v', st') → v = v') : ∃ h, j_X8_newName_28 ro x (Int32.ofNat s) v x y hp = some h ∧ RX hb x β L S0 F0 n h (pb r (fun v st => if g st = true then .inl (-14, st.2.2.2) else .inr (v, adv β L (put st (zno s + sN st.1 s) v)))) := by
  obtain ⟨h1, g1, X1⟩ := R_fails X g hy (e := -14) (by decide)
  have E : ∀ {e : Int32} {j : Nat}, RX hb x β L S0 F0 n h1 (.inl (e, j)) → ∃ h, j_X8_newName_28 ro x (Int32.ofNat s) v x y hp = some h ∧ RX hb x β L S0 F0 n h (.inl (e, j)) := fun {e j} X2 => by
    obtain ⟨a1, a2⟩ := RX_er X2
    obtain ⟨h2, g2, X3⟩ := R_goOn b X2
    refine ⟨h2, ?_, X3⟩
    simp only [j_X8_newName_28, g1, a1, a2, if_false, j_X8_newName_56, g2, Option.bind_some]
  rcases r with ⟨er, j⟩ | ⟨v', st⟩
  · exact E X1
  · have X1' : RX hb x β L S0 F0 n h1 (if g st = true then .inl (-14, st.2.2.2) else .inr (v', st)) := X1
    show ∃ h, _ ∧ RX hb x β L S0 F0 n h (if g st = true then .inl (-14, st.2.2.2) else .inr (v', adv β L (put st (zno s + sN st.1 s) v')))
    by_cases q : g st = true
    · rw [if_pos q] at X1' ⊢
      exact E X1'
    · rw [if_neg q] at X1' ⊢
      have hv' := hv v' st rfl
      subst hv'
      have a1 := RX_ok X1'
      have X1'' := X1'
      obtain ⟨F1, S1, C1, d1, d2, d3, d4, d5, d6⟩ := X1'
      have hn := sQ_n d6 hs
      obtain ⟨h2, g2, X2⟩ := R_put X1'' (k := zno s + sN st.1 s) (by omega) hn.1 v v
      obtain ⟨h3, g3, X3⟩ := R_goOn b X2
      refine ⟨h3, ?_, X3⟩
      have hm : f_X8_many x (Int32.ofNat s) h1 = some (Int32.ofNat (sN st.1 s)) := by
        have := m_many C1 (by rw [d1]; exact d6) (s := s) (by omega)
        rw [d1] at this
        exact this
      simp only [j_X8_newName_28, g1, a1, if_true, RC_T C1, m_nameAt hs, hm, ixa, g2, j_X8_newName_56, g3, Option.bind_some]
theorem zoi_is (o : Option Nat) (ho : ∀ k, o = some k → k < 2147483648) : (zoi o = -1 ∧ o.isSome = false) ∨ (¬ zoi o = -1 ∧ o.isSome = true) := by
  cases o with
  | none => exact Or.inl ⟨rfl, rfl⟩
  | some k =>
    refine Or.inr ⟨?_, rfl⟩
    show ¬ Int32.ofNat k = -1
    rw [pn_ne1 (ho k rfl)]
    exact not_false
theorem R_newName (b : rBy S0 β L) (X : RX hb x β L S0 F0 n hp r) (Y : wSts hb c ro) (hc : c ≤ x) (hs : s < 4) : ∃ h, f_X8_newName ro x (Int32.ofNat s) hp = some h ∧ RX hb x β L S0 F0 n h (pb r (fun _ st => pNew β L s st)) := by
  obtain ⟨v1, h1, g1, X1, hv⟩ := R_nameHere b X Y hc
  obtain ⟨F, S, i, C, -⟩ := RX_C X
  simp only [f_X8_newName, RC_is C, g1, zb2_some, Option.bind_some]
  rcases r with ⟨er, j⟩ | ⟨v', st⟩
  · obtain ⟨a1, a2⟩ := RX_er X1
    simp only [a1, a2, if_false, Option.bind_some, j_X8_newName_27]
    exact R_nn b X1 hs (fun _ => false) (fun v st hr => by cases hr) hv
  · show ∃ h, _ ∧ RX hb x β L S0 F0 n h (pNew β L s st)
    have X1' : RX hb x β L S0 F0 n h1 (pName β L st) := X1
    have hv' : ∀ v' st', pName β L st = .inr (v', st') → v1 = v' := hv
    unfold pName at X1' hv'
    unfold pNew
    by_cases q : isNm β L st.2.2.2 = true
    · rw [if_pos q] at X1' hv' ⊢
      have hv2 := hv' _ _ rfl
      subst hv2
      have a1 := RX_ok X1'
      have X1'' := X1'
      obtain ⟨F1, S1, C1, d1, d2, d3, d4, d5, d6⟩ := X1'
      have hf := m_nameFound C1 (by rw [d1]; exact d6) hs (sPk β L st.2.2.2)
      rw [d1] at hf
      simp only [a1, if_true, hf, Option.bind_some, j_X8_newName_27]
      have hb2 := sQ_b d6 (s := s) (by omega)
      rcases zoi_is (fnd st.1 s (sPk β L st.2.2.2)) (fun k hk => by have := fnd_lt hk; omega) with ⟨z1, z2⟩ | ⟨z1, z2⟩
      · rw [if_pos z1]
        exact R_nn b X1'' hs (fun st => (fnd st.1 s (sPk β L st.2.2.2)).isSome) (fun v st hr => by cases hr; rw [z2]; rfl) (fun v' st' hr => by cases hr; rfl)
      · rw [if_neg z1]
        exact R_nn b X1'' hs (fun st => (fnd st.1 s (sPk β L st.2.2.2)).isSome) (fun v st hr => by cases hr; rw [z2]; rfl) (fun v' st' hr => by cases hr; rfl)
    · rw [if_neg q] at X1' ⊢
      obtain ⟨a1, a2⟩ := RX_er X1'
      simp only [a1, a2, if_false, Option.bind_some, j_X8_newName_27]
      exact R_nn b X1' hs (fun _ => false) (fun v st hr => by cases hr) (fun v' st' hr => by cases hr)
theorem R_th (b : rBy S0 β L) (X : RX hb x β L S0 F0 n hp r) {z : Int32} (o : PSt → Option Nat) (hy : ∀ v st, r = .inr (v, st) → z = zoi (o st) ∧ ∀ k, o st = some k → k < 2147483648) : RV hb x β L S0 F0 n (j_X8_thing_22 ro x z hp) (pb r (fun _ st => match o st with
    | none => .inl (-13, st.2.2.2)
    | some k => .inr (Int32.ofNat k, adv β L st))) := by
  obtain ⟨y, hyy⟩ : ∃ y : Int32, (if z = -1 then (1 : Int32) else 0) = y := ⟨_, rfl⟩
  have pre : j_X8_thing_22 ro x z hp = j_X8_thing_34 ro x z x y hp := by
    rw [← hyy]
    unfold j_X8_thing_22
    by_cases q : z = -1
    · rw [if_pos q, if_pos q]
    · rw [if_neg q, if_neg q]
  obtain ⟨h1, g1, X1⟩ := R_fails X (fun st => !(o st).isSome) (y := y) (e := -13) (fun v st hr => by
    obtain ⟨h1, h2⟩ := hy v st hr
    rw [← hyy, h1]
    rcases zoi_is (o st) h2 with ⟨z1, z2⟩ | ⟨z1, z2⟩
    · rw [if_pos z1, z2]; rfl
    · rw [if_neg z1, z2]; rfl) (by decide)
  obtain ⟨h2, g2, X2⟩ := R_goOn b X1
  rw [pre]
  simp only [j_X8_thing_34, g1, g2, Option.bind_some]
  have E : ∀ {e : Int32} {j : Nat}, RX hb x β L S0 F0 n h2 (.inl (e, j)) → RV hb x β L S0 F0 n ((zgI h2 x 8 14).bind fun v6 => if v6 = 0 then (some (z, h2)) else some ((0 : Int32), h2)) (.inl (e, j)) := fun {e j} X2 => by
    obtain ⟨a1, a2⟩ := RX_er X2
    simp only [a1, a2, if_false, Option.bind_some]
    exact ⟨0, h2, rfl, X2, fun v' st' hr => by cases hr⟩
  rcases r with ⟨er, j⟩ | ⟨v', st⟩
  · exact E X2
  · have X2' : RX hb x β L S0 F0 n h2 (pb (if (!(o st).isSome) = true then .inl (-13, st.2.2.2) else .inr (v', st)) (fun v st => .inr (v, adv β L st))) := X2
    show RV hb x β L S0 F0 n _ (match o st with
      | none => .inl (-13, st.2.2.2)
      | some k => .inr (Int32.ofNat k, adv β L st))
    obtain ⟨hz, -⟩ := hy v' st rfl
    cases ho : o st with
    | none =>
      rw [ho] at X2'
      exact E X2'
    | some k =>
      rw [ho] at X2' hz
      have X3 : RX hb x β L S0 F0 n h2 (.inr (v', adv β L st)) := X2'
      have a1 := RX_ok X3
      simp only [a1, if_true, Option.bind_some]
      exact ⟨z, h2, rfl, RX_v X3 _, fun v' st' hr => by cases hr; exact hz⟩
theorem R_thing (b : rBy S0 β L) (X : RX hb x β L S0 F0 n hp r) (Y : wSts hb c ro) (hc : c ≤ x) (hs : s < 4) : RV hb x β L S0 F0 n (f_X8_thing ro x (Int32.ofNat s) hp) (pb r (fun _ st => pThing β L s st)) := by
  obtain ⟨v1, h1, g1, X1, hv⟩ := R_nameHere b X Y hc
  obtain ⟨F, S, i, C, -⟩ := RX_C X
  simp only [f_X8_thing, RC_is C, g1, zb2_some, Option.bind_some]
  rcases r with ⟨er, j⟩ | ⟨v', st⟩
  · obtain ⟨a1, a2⟩ := RX_er X1
    simp only [a1, a2, if_false, Option.bind_some]
    exact R_th b X1 (fun _ => none) (fun v st hr => by cases hr)
  · show RV hb x β L S0 F0 n _ (pThing β L s st)
    have X1' : RX hb x β L S0 F0 n h1 (pName β L st) := X1
    have hv' : ∀ v' st', pName β L st = .inr (v', st') → v1 = v' := hv
    unfold pName at X1' hv'
    unfold pThing
    by_cases q : isNm β L st.2.2.2 = true
    · rw [if_pos q] at X1' hv' ⊢
      have hv2 := hv' _ _ rfl
      subst hv2
      have a1 := RX_ok X1'
      have X1'' := X1'
      obtain ⟨F1, S1, C1, d1, d2, d3, d4, d5, d6⟩ := X1'
      have hf := m_nameFound C1 (by rw [d1]; exact d6) hs (sPk β L st.2.2.2)
      rw [d1] at hf
      simp only [a1, if_true, hf, Option.bind_some]
      have hb2 := sQ_b d6 (s := s) (by omega)
      exact R_th b X1'' (fun st => fnd st.1 s (sPk β L st.2.2.2)) (fun v st hr => by cases hr; exact ⟨rfl, fun k hk => by have := fnd_lt hk; omega⟩)
    · rw [if_neg q] at X1' ⊢
      obtain ⟨a1, a2⟩ := RX_er X1'
      simp only [a1, a2, if_false, Option.bind_some]
      exact R_th b X1' (fun _ => none) (fun v st hr => by cases hr)
end P60
