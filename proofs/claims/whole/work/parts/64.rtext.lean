/-! PURE: the reference's reader: a text -/
section P64
variable {hb h hp hp' : zHp} {x c L i j k s fl : Nat} {ro : Nat → Nat} {β : Nat → Nat} {S0 S : Nat → Nat → Int32} {F0 F T N : Nat → Int32} {st st' : PSt} {r : PR} {n v y z e : Int32}
theorem sN_put {k : Nat} (hk : 5 ≤ k) (hs : s < 5) : sN (put st k v).1 s = sN st.1 s := by
  unfold sN
  show (upd st.1 k v s).toNatClampNeg = _
  rw [upd_ne _ _ (by omega)]
theorem pParty_n (e : pParty β L st = .inr (v, st')) : sN st'.1 0 < 5 := by
  unfold pParty at e
  split at e
  · cases e
  · exact (pHead_T (by decide) e).2.1
theorem pRegion_n (e : pRegion β L st = .inr (v, st')) : sN st'.1 1 < 5 := by
  unfold pRegion at e
  obtain ⟨v2, st2, g1, g2⟩ := pb_inr e
  obtain ⟨t1, t2, t3, t4⟩ := pHead_T (by decide) g1
  split at g2
  · obtain ⟨v3, st3, k1, k2⟩ := pb_inr g2
    obtain ⟨u1, -⟩ := pThing_st k1
    cases k2
    rw [sN_put (by omega) (by decide), show st3.1 = st2.1 by rw [u1]; rfl]
    exact t2
  · cases g2
    rw [sN_put (by omega) (by decide)]
    exact t2
theorem pWard_n (e : pWard β L st = .inr (v, st')) : sN st'.1 2 < 6 := by
  unfold pWard at e
  obtain ⟨v2, st2, g1, g2⟩ := pb_inr e
  obtain ⟨t1, t2, t3, t4⟩ := pHead_T (by decide) g1
  obtain ⟨v3, st3, k1, k2⟩ := pb_inr g2
  obtain ⟨u1, -⟩ := pThing_st k1
  cases k2
  rw [sN_put (by omega) (by decide), show st3.1 = st2.1 by rw [u1]; rfl]
  exact t2
theorem pTable_n (e : pTable β L st = .inr (v, st')) : sN st'.1 4 < 4 := by
  unfold pTable at e
  obtain ⟨v2, st2, g1, g2⟩ := pb_inr e
  obtain ⟨v3, st3, k1, k2⟩ := pb_inr g2
  obtain ⟨u1, -⟩ := pInt_st k1
  cases k2
  unfold pBegin at g1
  split at g1
  · rename_i hm
    cases g1
    rw [sN_put (by omega) (by decide), show st3.1 = st.1 by rw [u1]; rfl]
    exact hm
  · cases g1
theorem pBox_n (h0 : sN st.1 0 ≤ 5) (e : pBox β L st = .inr (v, st')) : sN st'.1 3 < 12 := by
  unfold pBox at e
  obtain ⟨v2, st2, g1, h1⟩ := pb_inr e
  obtain ⟨t1, t2, t3, t4⟩ := pHead_T (by decide) g1
  obtain ⟨v3, st3, k3, h1⟩ := pb_inr h1
  obtain ⟨u3, -⟩ := pThing_st k3
  obtain ⟨v4, st4, k4, h1⟩ := pb_inr h1
  obtain ⟨u4, -⟩ := pInt_st k4
  obtain ⟨v5, st5, k5, h1⟩ := pb_inr h1
  obtain ⟨u5, -⟩ := pInt_st k5
  obtain ⟨v6, st6, k6, h1⟩ := pb_inr h1
  cases h1
  have a5 : st5.1 = st2.1 := by rw [u5, u4, u3]; rfl
  have h5 : sN st5.1 3 < 12 := by rw [a5]; exact t2
  have hpi : sPi st5.1 ≤ 6 := zpi (by rw [a5, t3 0 (by decide)]; exact h0)
  obtain ⟨q1, q2⟩ := pPap_st h5 _ _ _ _ _ (by omega) k6
  show sN (put (put st6 (44 + sN st6.1 3) v3) (56 + sN st6.1 3) v4).1 3 < 12
  rw [sN_put (by omega) (by decide), sN_put (by omega) (by decide)]
  unfold sN
  rw [q1 3 (by omega)]
  exact h5
theorem pb_0 (r : PR) (k : PSt → PR) : pb (pb r (fun _ st => .inr (0, st))) (fun _ st => k st) = pb r (fun _ st => k st) := by
  rcases r with e | ⟨v, st⟩ <;> rfl
theorem R_stm (b : rBy S0 β L) (X : RX hb x β L S0 F0 n hp (.inr (v, st))) (Y : wSts hb c ro) (hc : c ≤ x) : ∃ h, f_X8_readStatement ro x hp = some h ∧ RX hb x β L S0 F0 (n + 1) h (pStm β L st) := by
  have X' := X
  obtain ⟨F, S, C, -, -, -, -, -, sq⟩ := X'
  obtain ⟨-, -, -, y18, -⟩ := RC_sts C Y hc
  have hw : f_X8_wordOf x (ro 18) hp = some (sWd β L st.2.2.2) := m_wordK C.1 (RC_by C b) C.2.2.1 C.2.2.2.1 (txc y18)
  simp only [f_X8_readStatement, RX_is X, hw, Option.bind_some]
  have E : ∃ h, j_X8_readStatement_104 ro x (-1) hp = some h ∧ RX hb x β L S0 F0 (n + 1) h (.inl (-11, st.2.2.2)) := by
    obtain ⟨h1, g1, X1⟩ := R_fails X (fun _ => true) (y := 1) (e := -11) (fun v st hr => rfl) (by decide)
    have X1' : RX hb x β L S0 F0 n h1 (.inl (-11, st.2.2.2)) := X1
    obtain ⟨h2, g2, X2⟩ := R_111 (ro := ro) b X1' (s := 5) (y := -1) (Or.inr ⟨by decide, rfl⟩) (fun v st hr => by cases hr)
    refine ⟨h2, ?_, X2⟩
    simp only [j_X8_readStatement_104, g1, g2, Option.bind_some]
  unfold pStm pDecl
  by_cases w0 : sWd β L st.2.2.2 = 0
  · rw [if_pos w0, if_pos w0]
    obtain ⟨h1, g1, X1⟩ := R_party b X Y hc
    obtain ⟨h2, g2, X2⟩ := R_111 (ro := ro) b X1 (s := 0) (y := 0) (Or.inl ⟨by decide, rfl⟩) (fun v st hr _ => pParty_n hr)
    exact ⟨h2, by rw [g1]; exact g2, X2⟩
  · rw [if_neg w0, if_neg w0]
    by_cases w1 : sWd β L st.2.2.2 = 1
    · rw [if_pos w1, if_pos w1]
      obtain ⟨h1, g1, X1⟩ := R_region b X Y hc
      obtain ⟨h2, g2, X2⟩ := R_111 (ro := ro) b X1 (s := 1) (y := 1) (Or.inl ⟨by decide, rfl⟩) (fun v st hr _ => pRegion_n hr)
      exact ⟨h2, by rw [g1]; exact g2, X2⟩
    · rw [if_neg w1, if_neg w1]
      by_cases w2 : sWd β L st.2.2.2 = 2
      · rw [if_pos w2, if_neg (by rw [w2]; decide), if_neg (by rw [w2]; decide), if_neg (by rw [w2]; decide), if_neg (by rw [w2]; decide)]
        exact E
      · rw [if_neg w2]
        by_cases w3 : sWd β L st.2.2.2 = 3
        · rw [if_pos w3, if_pos w3]
          obtain ⟨h1, g1, X1⟩ := R_ward b X Y hc
          obtain ⟨h2, g2, X2⟩ := R_111 (ro := ro) b X1 (s := 2) (y := 2) (Or.inl ⟨by decide, rfl⟩) (fun v st hr _ => pWard_n hr)
          exact ⟨h2, by rw [g1]; exact g2, X2⟩
        · rw [if_neg w3, if_neg w3]
          by_cases w4 : sWd β L st.2.2.2 = 4
          · rw [if_pos w4, if_pos w4]
            obtain ⟨h1, g1, X1⟩ := R_box b X Y hc
            obtain ⟨h2, g2, X2⟩ := R_111 (ro := ro) b X1 (s := 3) (y := 3) (Or.inl ⟨by decide, rfl⟩) (fun v st hr _ => pBox_n sq.2.1 hr)
            exact ⟨h2, by rw [g1]; exact g2, X2⟩
          · rw [if_neg w4, if_neg w4]
            by_cases w5 : sWd β L st.2.2.2 = 5
            · rw [if_pos w5, if_pos w5]
              obtain ⟨h1, g1, X1⟩ := R_table b X
              obtain ⟨h2, g2, X2⟩ := R_111 (ro := ro) b X1 (s := 4) (y := 4) (Or.inl ⟨by decide, rfl⟩) (fun v st hr _ => pTable_n hr)
              exact ⟨h2, by rw [g1]; exact g2, X2⟩
            · rw [if_neg w5, if_neg w5]
              by_cases w6 : sWd β L st.2.2.2 = 6
              · rw [if_pos w6, if_pos w6]
                obtain ⟨h1, g1, X1⟩ := R_set b X Y hc
                obtain ⟨h2, g2, X2⟩ := R_111 (ro := ro) b X1 (s := 5) (y := -1) (Or.inr ⟨by decide, rfl⟩) (fun v st hr h => absurd h (by decide))
                exact ⟨h2, by rw [g1]; exact g2, RX_eq X2 (pb_0 _ _)⟩
              · rw [if_neg w6, if_neg w6]
                exact E
theorem R_loop (b : rBy S0 β L) (Y : wSts hb c ro) (hc : c ≤ x) {K : zHp → Option (Int32 × zHp)} : ∀ (f m n : Nat) (v : Int32) (st : PSt) (hp : zHp), L - st.2.2.2 < f → f ≤ m → RX hb x β L S0 F0 (Int32.ofNat n) hp (.inr (v, st)) →
    match pAll β L f st with
    | .inl (e, j) => ∃ h, l_X8_load_75 ro K x m hp = K h ∧ RX hb x β L S0 F0 0 h (.inl (e, j))
    | .inr (q, st') => ∃ h, l_X8_load_75 ro K x m hp = K h ∧ RX hb x β L S0 F0 (Int32.ofNat (n + q)) h (.inr (0, st')) := by
  intro f
  induction f with
  | zero => intro m n v st hp h1 h2 X; omega
  | succ f ih =>
    intro m n v st hp h1 h2 X
    obtain ⟨m, rfl⟩ : ∃ q, m = q + 1 := ⟨m - 1, by omega⟩
    have X' := X
    obtain ⟨F, S, C, -⟩ := X'
    have hk := tK_le β L st.2.2.2
    have hpl := C.2.2.2.1
    have h12 : zgI hp x 8 12 = some (rT (tK β L st.2.2.2)) := (RC_F C (by decide)).trans (congrArg some C.2.2.1.2.2.2.1)
    unfold pAll
    simp only [l_X8_load_75_s, b_X8_load_75, RX_ok X, if_true, h12, rT_3 hk, Option.bind_some]
    by_cases k0 : tK β L st.2.2.2 = 0
    · rw [if_pos k0, if_pos k0]
      exact ⟨hp, rfl, RX_v X 0⟩
    · rw [if_neg k0, if_neg k0]
      obtain ⟨h3, g3, X3⟩ := R_stm b X Y hc
      rw [g3, Option.bind_some]
      rcases hr : pStm β L st with ⟨e, j⟩ | ⟨w, st1⟩
      · rw [hr] at X3
        obtain ⟨a1, a2⟩ := RX_er X3
        obtain ⟨m, rfl⟩ : ∃ q, m = q + 1 := ⟨m - 1, by
          by_cases q0 : L - st.2.2.2 = 0
          · exfalso
            have : tK β L st.2.2.2 = 0 := by
              have := tS_in (β := β) hpl
              unfold tK
              rw [if_neg (by omega)]
            exact k0 this
          · omega⟩
        refine ⟨h3, ?_, X3⟩
        simp only [l_X8_load_75_s, b_X8_load_75, a1, a2, if_false, Option.bind_some]
      · rw [hr] at X3
        rw [pn_succ] at X3
        have hlt := pStm_lt hpl hr
        have I := ih m (n + 1) w st1 h3 (by omega) (by omega) X3
        show match (match pAll β L f st1 with | .inl e => Sum.inl e | .inr (n, st'') => Sum.inr (n + 1, st'')) with | .inl (e, j) => _ | .inr (_, st') => _
        rcases hr2 : pAll β L f st1 with ⟨e, j⟩ | ⟨q, st2⟩
        · rw [hr2] at I
          exact I
        · rw [hr2] at I
          obtain ⟨h4, i1, i2⟩ := I
          exact ⟨h4, i1, by rw [show n + (q + 1) = n + 1 + q by omega]; exact i2⟩
end P64
