/-! PURE: the reference's reader: a box, a setting, a statement -/
section P62
variable {hb h hp hp' : zHp} {x c L i j k s : Nat} {ro : Nat → Nat} {β : Nat → Nat} {S0 S : Nat → Nat → Int32} {F0 F T N : Nat → Int32} {st : PSt} {r : PR} {n v y z e : Int32}
theorem R_putE (X : RX hb x β L S0 F0 n hp (.inl (e, j))) {k : Nat} (hk : k < 144) (y : Int32) : ∃ h, zsI hp (x + 2) (Int32.ofNat k) y = some h ∧ RX hb x β L S0 F0 n h (.inl (e, j)) := by
  obtain ⟨F, S, i, C, c1, c2, c3⟩ := X
  obtain ⟨h1, e1, C1⟩ := RC_arr C (j := 2) (k := k) (Or.inl rfl) hk y
  exact ⟨h1, e1, F, _, i, C1, c1, c2, c3⟩
theorem R_putN (X : RX hb x β L S0 F0 n hp (.inr (v, st))) {k : Nat} (hk : k < 538) (y z : Int32) : ∃ h, zsI hp (x + 4) (Int32.ofNat k) y = some h ∧ RX hb x β L S0 F0 n h (.inr (z, putN st (upd st.2.1 k y))) := by
  obtain ⟨F, S, C, c1, c2, c3, c4, c5, c6⟩ := X
  obtain ⟨h1, e1, C1⟩ := RC_arr C (j := 4) (k := k) (Or.inr rfl) hk y
  exact ⟨h1, e1, F, _, C1, by rw [w2_ne _ _ (by decide)]; exact c1, by rw [w2_self, c2]; rfl, c3, c4, c5, c6⟩
theorem rx_piles (X : RX hb x β L S0 F0 n hp r) : ∃ m, f_X8_piles x hp = some m := by
  obtain ⟨m, hm⟩ := RX_manyX X (s := 0) (by decide)
  refine ⟨m + 1, ?_⟩
  simp only [f_X8_piles, RX_is X, show f_X8_many x 0 hp = some m from hm, Option.bind_some]
theorem rx_pilesN (X : RX hb x β L S0 F0 n hp (.inr (v, st))) : f_X8_piles x hp = some (Int32.ofNat (sPi st.1)) := by
  simp only [f_X8_piles, RX_is X, show f_X8_many x 0 hp = some (Int32.ofNat (sN st.1 0)) from RX_many X (s := 0) (by decide), pn_succ, Option.bind_some]
  rfl
theorem R_boxE {K : zHp → Option zHp} {x1 x2 x3 x4 x5 : Int32} {m : Nat} (X : RX hb x β L S0 F0 n hp (.inl (e, j))) (hm : 0 < m) : l_X8_readBox_60 ro K x x1 x2 x3 x4 m x5 hp = K hp := by
  obtain ⟨m, rfl⟩ : ∃ q, m = q + 1 := ⟨m - 1, by omega⟩
  obtain ⟨q, hq⟩ := rx_piles X
  obtain ⟨a1, a2⟩ := RX_er X
  simp only [l_X8_readBox_60_s, b_X8_readBox_60, hq, a1, a2, if_false, Option.bind_some]
  split <;> rfl
theorem R_papers (b : rBy S0 β L) {K : zHp → Option zHp} {x2 x3 x4 : Int32} {n3 : Nat} (h12 : n3 < 12) : ∀ (e p m : Nat) (v : Int32) (st : PSt) (hp : zHp), p + e = sPi st.1 → e < m → RX hb x β L S0 F0 n hp (.inr (v, st)) →
    ∃ h, l_X8_readBox_60 ro K x (Int32.ofNat n3) x2 x3 x4 m (Int32.ofNat p) hp = K h ∧ RX hb x β L S0 F0 n h (pPap β L n3 e p st) := by
  intro e
  induction e with
  | zero =>
    intro p m v st hp hpe hm X
    obtain ⟨m, rfl⟩ : ∃ q, m = q + 1 := ⟨m - 1, by omega⟩
    have hp' : p = sPi st.1 := by omega
    subst hp'
    refine ⟨hp, ?_, RX_v X 0⟩
    simp only [l_X8_readBox_60_s, b_X8_readBox_60, rx_pilesN X, Int32.lt_irrefl, if_false, Option.bind_some]
  | succ e ih =>
    intro p m v st hp hpe hm X
    obtain ⟨m, rfl⟩ : ∃ q, m = q + 1 := ⟨m - 1, by omega⟩
    obtain ⟨-, -, -, -, q⟩ := RX_1 X
    have h0 := q.2.1
    have hpi : sPi st.1 ≤ 6 := zpi h0
    obtain ⟨v7, h7, g7, X7, hv7⟩ := R_int b X (lo := 0) (hi := 300) (by decide) (by decide) (x1 := 0) (x2 := 300) rfl rfl
    have X7' : RX hb x β L S0 F0 n h7 (pInt β L 0 300 st) := X7
    have hv7' : ∀ v' st', pInt β L 0 300 st = .inr (v', st') → v7 = v' := hv7
    have i68 : (68 : Int32) + Int32.ofNat (6 * n3) + Int32.ofNat p = Int32.ofNat (68 + 6 * n3 + p) := by rw [ix68, ixa]
    simp (disch := omega) only [l_X8_readBox_60_s, b_X8_readBox_60, rx_pilesN X, pn_lt, show p < sPi st.1 by omega, if_true, RX_ok X, RX_T X, g7, zb2_some, im6, i68, Option.bind_some]
    unfold pPap
    rcases hr : pInt β L 0 300 st with ⟨er, j⟩ | ⟨v', st1⟩
    · rw [hr] at X7'
      obtain ⟨h8, g8, X8⟩ := R_putE X7' (k := 68 + 6 * n3 + p) (by omega) v7
      obtain ⟨m, rfl⟩ : ∃ q, m = q + 1 := ⟨m - 1, by omega⟩
      refine ⟨h8, ?_, X8⟩
      simp only [g8, zlet, Option.bind_some]
      exact R_boxE X8 (by omega)
    · rw [hr] at X7'
      have hvv := hv7' _ _ hr
      subst hvv
      obtain ⟨u1, -⟩ := pInt_st hr
      have a1 : st1.1 = st.1 := by rw [u1]; rfl
      obtain ⟨h8, g8, X8⟩ := R_put X7' (k := 68 + 6 * n3 + p) (by omega) (by omega) v7 0
      have hpi2 : sPi (put st1 (68 + 6 * n3 + p) v7).1 = sPi st.1 := by
        unfold sPi sN
        show (upd st1.1 _ v7 0).toNatClampNeg + 1 = _
        rw [upd_ne _ _ (by omega), a1]
      obtain ⟨h9, g9, X9⟩ := ih (p + 1) m 0 _ h8 (by rw [hpi2]; omega) (by omega) X8
      refine ⟨h9, ?_, X9⟩
      simp only [g8, zlet, pn_succ, Option.bind_some]
      exact g9
theorem nNew_u (N : Nat → Int32) (b : Nat) (v : Int32) : nNew N b v = upd (upd (upd (upd N (10 + 44 * b + 0) (-3)) (10 + 44 * b + 1) v) (10 + 44 * b + 2) 1) (10 + 44 * b + 4) v := by
  unfold nNew
  rw [← upd_nB (by decide), ← upd_nB (by decide), ← upd_nB (by decide), ← upd_nB (by decide), nB_self]
theorem R_box (b : rBy S0 β L) (X : RX hb x β L S0 F0 n hp (.inr (v, st))) (Y : wSts hb c ro) (hc : c ≤ x) : ∃ h, f_X8_readBox ro x hp = some h ∧ RX hb x β L S0 F0 n h (pBox β L st) := by
  have m1 : f_X8_many x 3 hp = some (Int32.ofNat (sN st.1 3)) := RX_many X (s := 3) (by decide)
  obtain ⟨y, hy⟩ : ∃ y : Int32, y = if Int32.ofNat (sN st.1 3) = Int32.ofNat (smx 3) then 1 else 0 := ⟨_, rfl⟩
  have pre : f_X8_readBox ro x hp = j_X8_readBox_18 ro x (Int32.ofNat (sN st.1 3)) x y hp := by
    simp only [f_X8_readBox, RX_is X, m1, Option.bind_some]
    rw [hy]
    show (if Int32.ofNat (sN st.1 3) = 12 then _ else _) = j_X8_readBox_18 ro x _ x (if Int32.ofNat (sN st.1 3) = 12 then 1 else 0) hp
    by_cases q : Int32.ofNat (sN st.1 3) = 12
    · rw [if_pos q, if_pos q]
    · rw [if_neg q, if_neg q]
  obtain ⟨h2, h3, h4, e2, e3, e4, X4⟩ := R_head b X Y hc (s := 3) (by decide) (y := y) (full_y X (by decide) hy)
  obtain ⟨v5, h5, g5, X5, hv5⟩ := R_thing b X4 Y hc (s := 2) (by decide)
  obtain ⟨v6, h6, g6, X6, hv6⟩ := R_int b X5 (lo := 0) (hi := 999) (by decide) (by decide) (x1 := 0) (x2 := 999) rfl rfl
  obtain ⟨v7, h7, g7, X7, hv7⟩ := R_int b X6 (lo := 1) (hi := 9999) (by decide) (by decide) (x1 := 1) (x2 := 9999) rfl rfl
  rw [pre]
  unfold j_X8_readBox_18
  rw [e2, Option.bind_some, e3, Option.bind_some, show f_X8_newName ro x 3 h3 = some h4 from e4, Option.bind_some, show f_X8_thing ro x 2 h4 = some (v5, h5) from g5, zb2_some, g6, zb2_some, g7, zb2_some]
  generalize hK : (fun h18 : zHp => (zgI h18 x 8 14).bind fun v19 => if v19 = 0 then ((zgR h18 x 8 3).bind fun r20 => (zsI h18 r20 ((44 : Int32) + Int32.ofNat (sN st.1 3)) v5).bind fun h21 => (zgR h21 x 8 3).bind fun r22 => (zsI h21 r22 ((56 : Int32) + Int32.ofNat (sN st.1 3)) v6).bind fun h23 => (f_X8_sets x (Int32.ofNat (sN st.1 3)) (0 : Int32) (-3 : Int32) h23).bind fun h24 => (f_X8_sets x (Int32.ofNat (sN st.1 3)) (1 : Int32) v7 h24).bind fun h25 => (f_X8_sets x (Int32.ofNat (sN st.1 3)) (2 : Int32) (1 : Int32) h25).bind fun h26 => (f_X8_sets x (Int32.ofNat (sN st.1 3)) (4 : Int32) v7 h26).bind fun h27 => some h27) else some h18) = K
  have E : ∀ {hh : zHp} {e : Int32} {j : Nat}, RX hb x β L S0 F0 n hh (.inl (e, j)) → K hh = some hh := fun {hh e j} XX => by
    obtain ⟨a1, a2⟩ := RX_er XX
    rw [← hK]
    simp only [a1, a2, if_false, Option.bind_some]
  have X7' : RX hb x β L S0 F0 n h7 (pb (pb (pb (pHead β L 3 12 st) (fun _ st => pThing β L 2 st)) (fun _ st => pInt β L 0 999 st)) (fun _ st => pInt β L 1 9999 st)) := X7
  unfold pBox
  rcases r1 : pHead β L 3 12 st with ⟨er, j⟩ | ⟨w1, st1⟩
  · rw [r1] at X7'
    exact ⟨h7, by rw [R_boxE (show RX hb x β L S0 F0 n h7 (.inl (er, j)) from X7') (by decide)]; exact E X7', X7'⟩
  · rw [r1] at X7'
    rcases r2 : pThing β L 2 st1 with ⟨er, j⟩ | ⟨w2, st2⟩
    · have X8 : RX hb x β L S0 F0 n h7 (.inl (er, j)) := RX_eq X7' (by show pb (pb (pThing β L 2 st1) _) _ = _; rw [r2]; rfl)
      refine ⟨h7, by rw [R_boxE X8 (by decide)]; exact E X8, RX_eq X8 ?_⟩
      show _ = pb (pThing β L 2 st1) _
      rw [r2]; rfl
    · have ev5 : v5 = w2 := hv5 w2 st2 (by show pb (pHead β L 3 12 st) _ = _; rw [r1]; exact r2)
      rcases r3 : pInt β L 0 999 st2 with ⟨er, j⟩ | ⟨w3, st3⟩
      · have X8 : RX hb x β L S0 F0 n h7 (.inl (er, j)) := RX_eq X7' (by show pb (pb (pThing β L 2 st1) _) _ = _; rw [r2]; show pb (pInt β L 0 999 st2) _ = _; rw [r3]; rfl)
        refine ⟨h7, by rw [R_boxE X8 (by decide)]; exact E X8, RX_eq X8 ?_⟩
        show _ = pb (pThing β L 2 st1) _
        rw [r2]
        show _ = pb (pInt β L 0 999 st2) _
        rw [r3]; rfl
      · have ev6 : v6 = w3 := hv6 w3 st3 (by show pb (pb (pHead β L 3 12 st) _) _ = _; rw [r1]; show pb (pThing β L 2 st1) _ = _; rw [r2]; exact r3)
        rcases r4 : pInt β L 1 9999 st3 with ⟨er, j⟩ | ⟨w4, st4⟩
        · have X8 : RX hb x β L S0 F0 n h7 (.inl (er, j)) := RX_eq X7' (by show pb (pb (pThing β L 2 st1) _) _ = _; rw [r2]; show pb (pInt β L 0 999 st2) _ = _; rw [r3]; exact r4)
          refine ⟨h7, by rw [R_boxE X8 (by decide)]; exact E X8, RX_eq X8 ?_⟩
          show _ = pb (pThing β L 2 st1) _
          rw [r2]
          show _ = pb (pInt β L 0 999 st2) _
          rw [r3]
          show _ = pb (pInt β L 1 9999 st3) _
          rw [r4]; rfl
        · have ev7 : v7 = w4 := hv7 w4 st4 (by show pb (pb (pb (pHead β L 3 12 st) _) _) _ = _; rw [r1]; show pb (pb (pThing β L 2 st1) _) _ = _; rw [r2]; show pb (pInt β L 0 999 st2) _ = _; rw [r3]; exact r4)
          have X8 : RX hb x β L S0 F0 n h7 (.inr (w4, st4)) := RX_eq X7' (by show pb (pb (pThing β L 2 st1) _) _ = _; rw [r2]; show pb (pInt β L 0 999 st2) _ = _; rw [r3]; exact r4)
          obtain ⟨t1, t2, t3, t4⟩ := pHead_T (by decide) r1
          obtain ⟨u2, -⟩ := pThing_st r2
          obtain ⟨u3, -⟩ := pInt_st r3
          obtain ⟨u4, -⟩ := pInt_st r4
          have a1 : st4.1 = st1.1 := by rw [u4, u3, u2]; rfl
          have hn3 : sN st.1 3 = sN st4.1 3 := by rw [a1, t3 3 (by decide)]
          have h12 : sN st4.1 3 < 12 := by rw [a1]; exact t2
          have hpi : sPi st4.1 ≤ 6 := by
            obtain ⟨-, -, -, -, q⟩ := RX_1 X8
            exact zpi q.2.1
          show ∃ h, _ ∧ RX hb x β L S0 F0 n h (pb (pThing β L 2 st1) _)
          rw [r2]
          show ∃ h, _ ∧ RX hb x β L S0 F0 n h (pb (pInt β L 0 999 st2) _)
          rw [r3]
          show ∃ h, _ ∧ RX hb x β L S0 F0 n h (pb (pInt β L 1 9999 st3) _)
          rw [r4]
          show ∃ h, _ ∧ RX hb x β L S0 F0 n h (pb (pPap β L (sN st4.1 3) (sPi st4.1) 0 st4) _)
          subst ev5
          subst ev6
          subst ev7
          rw [hn3] at hK ⊢
          obtain ⟨n3, en3⟩ : ∃ m, sN st4.1 3 = m := ⟨_, rfl⟩
          rw [en3] at hK h12 ⊢
          obtain ⟨h8, g8, X9⟩ := R_papers b (ro := ro) (K := K) (x2 := v5) (x3 := v6) (x4 := v7) h12 (sPi st4.1) 0 1000000 v7 st4 h7 (by omega) (by omega) X8
          rw [show (0 : Int32) = Int32.ofNat 0 from rfl, g8]
          rcases r5 : pPap β L n3 (sPi st4.1) 0 st4 with ⟨er, j⟩ | ⟨w5, st5⟩
          · rw [r5] at X9
            exact ⟨h8, E X9, X9⟩
          · rw [r5] at X9
            have hst5 := (pPap_st h12 _ _ _ _ _ (by omega) r5).1
            have h53 : sN st5.1 3 = n3 := by
              unfold sN
              rw [hst5 3 (by omega)]
              exact en3
            obtain ⟨i1, k1, Y1⟩ := R_put X9 (k := 44 + n3) (by omega) (by omega) v5 0
            obtain ⟨i2, k2, Y2⟩ := R_put Y1 (k := 56 + n3) (by omega) (by omega) v6 0
            obtain ⟨i3, k3, Y3⟩ := R_putN Y2 (k := 10 + 44 * n3 + 0) (by omega) (-3) 0
            obtain ⟨i4, k4, Y4⟩ := R_putN Y3 (k := 10 + 44 * n3 + 1) (by omega) v7 0
            obtain ⟨i5, k5, Y5⟩ := R_putN Y4 (k := 10 + 44 * n3 + 2) (by omega) 1 0
            obtain ⟨i6, k6, Y6⟩ := R_putN Y5 (k := 10 + 44 * n3 + 4) (by omega) v7 0
            refine ⟨i6, ?_, RX_eq Y6 ?_⟩
            · rw [← hK]
              have s3 : ∀ {hh h' : zHp} {r : PR} {w : Nat} {u z : Int32}, RX hb x β L S0 F0 n hh r → z = Int32.ofNat w → zsI hh (x + 4) (Int32.ofNat (10 + 44 * n3 + w)) u = some h' → f_X8_sets x (Int32.ofNat n3) z u hh = some h' := fun {hh h' r w u z} XX hz e => by
                subst hz
                simp only [f_X8_sets, RX_is XX, RX_N XX, im44, ix10, ixa, e, Option.bind_some]
              simp only [RX_ok X9, if_true, RX_T X9, ix44, ix56, k1, RX_T Y1, k2, s3 (w := 0) (z := 0) Y2 rfl k3, s3 (w := 1) (z := 1) Y3 rfl k4, s3 (w := 2) (z := 2) Y4 rfl k5, s3 (w := 4) (z := 4) Y5 rfl k6, Option.bind_some]
            · show (.inr (0, putN (put (put st5 (44 + n3) v5) (56 + n3) v6) _) : PR) = .inr (0, putN (put (put st5 (44 + sN st5.1 3) v5) (56 + sN st5.1 3) v6) (nNew st5.2.1 (sN st5.1 3) v7))
              rw [h53, nNew_u]
              rfl
end P62
