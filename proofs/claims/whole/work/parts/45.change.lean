/-! PURE: public methods that change the state: class and reference alike -/
section P45
variable {hp h hp' : zHp} {x a a' q b u c p hl t : Nat} {ea : Int32} {S : Nat → Nat → Int32} {F T N N' R : Nat → Int32} {σ : Nat → Nat} {Ps : Nat → Nat → Int32}
/-- a change, or none: class and reference -/
def zPM (fc : zHp → Option (Int32 × zHp)) (fr : zHp → Option (Int32 × zHp)) (hp : zHp) (c p : Nat) (ea : Int32) (x : Nat) (F : Nat → Int32) (S : Nat → Nat → Int32) (u : Nat) : Prop :=
  (∃ v, fc hp = some (v, hp) ∧ ∀ h, wMF h x F S → fr h = some (v, zth h x F 0)) ∨
  ∃ v N', (∃ h σ', fc hp = some (v, h) ∧ zfr hp h (c + 61) 574 ∧ wW h c p ea (S 2) N' σ' (uK u) (hKeep u (S 4) (rowOf (S 6)))) ∧ (∀ k, 538 ≤ k → N' k = 0) ∧
    ∀ h, wMF h x F S → ∃ h' P, fr h = some (v, h') ∧ wMF h' x (upd (upd F 0 0) 8 (Int32.ofNat (uK u))) (g1 (g1 S 6 P) 4 N') ∧ zfr h h' x 8 ∧ ∀ i, i < uK u → rowOf P i = hKeep u (S 4) (rowOf (S 6)) i
theorem rK (w : wMF h x F S) (hu : F 8 = Int32.ofNat u) (h10 : u ≤ 10) (z4 : ∀ k, 538 ≤ k → S 4 k = 0) : ∃ h1 P, f_X8_keeps x (zth h x F 0) = some h1 ∧ wMF h1 x (upd (upd F 0 0) 8 (Int32.ofNat (uK u))) (g1 (g1 S 6 P) 4 (S 4)) ∧ zfr h h1 x 8 ∧ ∀ i, i < uK u → rowOf P i = hKeep u (S 4) (rowOf (S 6)) i := by
  obtain ⟨h1, P, e, W, f, g⟩ := m_keeps (wMF_th w 0) (u := u) (by rw [zU, if_neg (by decide), hu]) h10 z4
  refine ⟨h1, P, e, ?_, zfr_tr zfr_th f, g⟩
  have e4 : g1 S 6 P 4 = S 4 := g1_ne _ _ (by decide)
  rw [← e4, g1_id]
  exact W
theorem k_has3 (K : wK hp c (c + 1) hl (c + 113) (c + 635) p q ea T N) (y : Int32) : f_X5_has p 3 y hp = some (zb (inr y (sN T 3))) := c_has K.2.2.1 (s := 3) (by decide) y
theorem k_has4 (K : wK hp c (c + 1) hl (c + 113) (c + 635) p q ea T N) (y : Int32) : f_X5_has p 4 y hp = some (zb (inr y (sN T 4))) := c_has K.2.2.1 (s := 4) (by decide) y
theorem nB_z (hb : b < 12) (z : ∀ k, 538 ≤ k → N k = 0) : ∀ k, 538 ≤ k → nB N b R k = 0 := fun k hk => by rw [nB_hi hb hk]; exact z k hk
theorem rr_2 {P : Nat → Int32} (W : wMF hp x F (g1 (g1 S 6 P) 4 N)) : rr hp x (S 2) N := ⟨_, ⟨F, W⟩, by rw [g1_ne _ _ (by decide), g1_ne _ _ (by decide)], g1_self _ _ _⟩
theorem wW_set' (W : wW h c p ea T N σ u Ps) {h0 h' : zHp} (f0 : zfr h0 h (c + 61) 574) (f : zfr h h' (c + 61) 52) (X : wSS h' (c + 61) T N') (I : sI T N') : wW h' c p ea T N' σ u Ps ∧ zfr h0 h' (c + 61) 574 := ⟨wW_set W f X I, zfr_tr f0 (zfr_wide f (by omega) (by omega))⟩
theorem e_in {k n : Nat} (hk : k < n) (hn : n < 2147483648) : (zb (inr (Int32.ofNat k) n) = 0) = False := by rw [inr_T hk hn]; exact eq_false (by decide)
theorem e_out {y : Int32} {n : Nat} (h : inr y n = false) : (zb (inr y n) = 0) = True := by rw [h]; exact eq_true rfl
theorem c_bring (W : wW hp c p ea (S 2) (S 4) σ u (rowOf (S 6))) (hu : F 8 = Int32.ofNat u) (z4 : ∀ k, 538 ≤ k → S 4 k = 0) (y : Int32) : zPM (fun h => f_X7_bring c y h) (fun h => f_X8_bring x y h) hp c p ea x F S u := by
  have K := W.1
  have I := hh_I K.2
  have hd := sI_bd I
  rcases inr_cases y (n := sN (S 2) 3) (by omega) with ⟨k, hk, rfl⟩ | hout
  · have ei := e_in hk (by omega)
    by_cases e0 : sF (S 4) k 0 = -3
    · obtain ⟨h1, σ', e1, f1, W1⟩ := wW_keep W
      obtain ⟨h2, e2, Y2, I2, f2⟩ := S_place W1.1.2.2.2.1 I hk (-4)
      obtain ⟨W2, f12⟩ := wW_set' W1 (zfr_wide (lo' := c + 61) (n' := 574) f1 (by omega) (by omega)) f2 Y2 I2
      refine Or.inr ⟨sInH (S 2) (nP (S 4) k (-4)), nP (S 4) k (-4), ⟨h2, σ', ?_, f12, W2⟩, nB_z (by omega) z4, fun h w => ?_⟩
      · have K1 := W1.1
        have K2 := W2.1
        simp (disch := omega) only [f_X7_bring, k_is K, k_hl K, hh_p K.2, k_has3 K, ei, if_false, hh_q K.2, hs_bx K.2, hs_box K.2, k_place K.2, e0, if_true, k_hi K, e1, k_hl K1, hh_q K1.2, hs_bx K1.2, hs_box K1.2, e2, k_hl K2, H_inHall K2.2, Option.bind_some]
      · obtain ⟨h3, P, e3, W3, f3, g3⟩ := rK w hu W.2.2.1 z4
        obtain ⟨h4, e4, W4, f4⟩ := m_sets W3 (b := k) (by omega) (w := 0) (by decide) (i := 0) rfl (-4)
        refine ⟨h4, P, ?_, W4, zfr_tr f3 f4, g3⟩
        have r1 := rr_of (wMF_th w 0)
        simp (disch := omega) only [f_X8_bring, wm_is (wMF_M w), q_th w, m_is3 r1 I, ei, if_false, m_of0 r1, e0, if_true, e3, e4, m_inHall (rr_2 W4) I2, Option.bind_some]
        rfl
    · refine Or.inl ⟨-6, ?_, fun h w => ?_⟩
      · simp (disch := omega) only [f_X7_bring, k_is K, k_hl K, hh_p K.2, k_has3 K, ei, if_false, hh_q K.2, hs_bx K.2, hs_box K.2, k_place K.2, e0, Option.bind_some]
      · have r1 := rr_of (wMF_th w 0)
        simp (disch := omega) only [f_X8_bring, wm_is (wMF_M w), q_th w, m_is3 r1 I, ei, if_false, m_of0 r1, e0, Option.bind_some]
  · have ei := e_out hout
    refine Or.inl ⟨-1, ?_, fun h w => ?_⟩
    · simp only [f_X7_bring, k_is K, k_hl K, hh_p K.2, k_has3 K, ei, if_true, Option.bind_some]
    · have r1 := rr_of (wMF_th w 0)
      simp only [f_X8_bring, wm_is (wMF_M w), q_th w, m_is3 r1 I, ei, if_true, Option.bind_some]
theorem c_tamper (W : wW hp c p ea (S 2) (S 4) σ u (rowOf (S 6))) (hu : F 8 = Int32.ofNat u) (z4 : ∀ k, 538 ≤ k → S 4 k = 0) (y v : Int32) : zPM (fun h => f_X7_tamper c y v h) (fun h => f_X8_tamper x y v h) hp c p ea x F S u := by
  have K := W.1
  have I := hh_I K.2
  have hd := sI_bd I
  rcases inr_cases y (n := sN (S 2) 3) (by omega) with ⟨k, hk, rfl⟩ | hout
  · have ei := e_in hk (by omega)
    by_cases e1 : v < 1
    · refine Or.inl ⟨-2, ?_, fun h w => ?_⟩
      · simp only [f_X7_tamper, k_is K, k_hl K, hh_p K.2, k_has3 K, ei, if_false, e1, if_true, Option.bind_some]
      · have r1 := rr_of (wMF_th w 0)
        simp only [f_X8_tamper, wm_is (wMF_M w), q_th w, m_is3 r1 I, ei, if_false, e1, if_true, Option.bind_some]
    · by_cases e2 : 9999 < v
      · refine Or.inl ⟨-2, ?_, fun h w => ?_⟩
        · simp only [f_X7_tamper, k_is K, k_hl K, hh_p K.2, k_has3 K, ei, if_false, e1, e2, if_true, Option.bind_some]
        · have r1 := rr_of (wMF_th w 0)
          simp only [f_X8_tamper, wm_is (wMF_M w), q_th w, m_is3 r1 I, ei, if_false, e1, e2, if_true, Option.bind_some]
      · cases e3 : sAtT (S 4) k with
        | true =>
          have e3' : (zb true = 0) = False := eq_false (by decide)
          refine Or.inl ⟨-6, ?_, fun h w => ?_⟩
          · simp (disch := omega) only [f_X7_tamper, k_is K, k_hl K, hh_p K.2, k_has3 K, ei, if_false, e1, e2, hh_q K.2, hs_bx K.2, hs_box K.2, k_isAt K.2, e3, e3', Option.bind_some]
          · have r1 := rr_of (wMF_th w 0)
            simp (disch := omega) only [f_X8_tamper, wm_is (wMF_M w), q_th w, m_is3 r1 I, ei, if_false, e1, e2, m_isAt r1, e3, e3', Option.bind_some]
        | false =>
          have e3' : (zb false = 0) = True := eq_true rfl
          obtain ⟨h1, σ', g1', f1, W1⟩ := wW_keep W
          obtain ⟨h2, g2, Y2, I2, f2⟩ := S_seal W1.1.2.2.2.1 I hk v
          obtain ⟨W2, f12⟩ := wW_set' W1 (zfr_wide (lo' := c + 61) (n' := 574) f1 (by omega) (by omega)) f2 Y2 I2
          refine Or.inr ⟨sF (S 4) k 1, nL (S 4) k v, ⟨h2, σ', ?_, f12, W2⟩, nB_z (by omega) z4, fun h w => ?_⟩
          · have K1 := W1.1
            simp (disch := omega) only [f_X7_tamper, k_is K, k_hl K, hh_p K.2, k_has3 K, ei, if_false, e1, e2, hh_q K.2, hs_bx K.2, hs_box K.2, k_isAt K.2, e3, e3', if_true, k_hi K, g1', k_seal K1.2, g2, Option.bind_some]
          · obtain ⟨h3, P, g3, W3, f3, r3⟩ := rK w hu W.2.2.1 z4
            obtain ⟨h4, g4, W4, f4⟩ := m_sets W3 (b := k) (by omega) (w := 1) (by decide) (i := 1) rfl v
            refine ⟨h4, P, ?_, W4, zfr_tr f3 f4, r3⟩
            have r1 := rr_of (wMF_th w 0)
            simp (disch := omega) only [f_X8_tamper, wm_is (wMF_M w), q_th w, m_is3 r1 I, ei, if_false, e1, e2, m_isAt r1, e3, e3', if_true, g3, m_of1 (rr_2 W3), g4, Option.bind_some]
  · have ei := e_out hout
    refine Or.inl ⟨-1, ?_, fun h w => ?_⟩
    · simp only [f_X7_tamper, k_is K, k_hl K, hh_p K.2, k_has3 K, ei, if_true, Option.bind_some]
    · have r1 := rr_of (wMF_th w 0)
      simp only [f_X8_tamper, wm_is (wMF_M w), q_th w, m_is3 r1 I, ei, if_true, Option.bind_some]
theorem pn_12 {k : Nat} (hk : k ≤ 12) : (Int32.ofNat k < 12) = (k < 12) := pn_lt (n := 12) (by omega) (by decide)
theorem pn_12e {k : Nat} (hk : k ≤ 12) : (Int32.ofNat k = 12) = (k = 12) := pn_inj (n := 12) (by omega) (by decide)
theorem pn_4 {k : Nat} (hk : k ≤ 12) : (Int32.ofNat k < 4) = (k < 4) := pn_lt (n := 4) (by omega) (by decide)
theorem pn_4e {k : Nat} (hk : k ≤ 12) : (Int32.ofNat k = 4) = (k = 4) := pn_inj (n := 4) (by omega) (by decide)
theorem c_accept (W : wW hp c p ea (S 2) (S 4) σ u (rowOf (S 6))) (hu : F 8 = Int32.ofNat u) (z4 : ∀ k, 538 ≤ k → S 4 k = 0) (y : Int32) : zPM (fun h => f_X7_accept c y h) (fun h => f_X8_accept x y h) hp c p ea x F S u := by
  have K := W.1
  have I := hh_I K.2
  have hd := sI_bd I
  have t0 : (zb true = 0) = False := eq_false (by decide)
  have f0 : (zb false = 0) = True := eq_true rfl
  rcases inr_cases y (n := sN (S 2) 3) (by omega) with ⟨k, hk, rfl⟩ | hout
  · have ei := e_in hk (by omega)
    have hE := sI_e I hk
    cases e3 : sAtT (S 4) k with
    | true =>
      refine Or.inl ⟨-6, ?_, fun h w => ?_⟩
      · simp (disch := omega) only [f_X7_accept, k_is K, k_hl K, hh_p K.2, k_has3 K, ei, if_false, hh_q K.2, hs_bx K.2, hs_box K.2, k_isAt K.2, e3, t0, Option.bind_some]
      · have r1 := rr_of (wMF_th w 0)
        simp (disch := omega) only [f_X8_accept, wm_is (wMF_M w), q_th w, m_is3 r1 I, ei, if_false, m_isAt r1, e3, t0, Option.bind_some]
    | false =>
      cases e4 : sGood (S 4) k with
      | true =>
        refine Or.inl ⟨-6, ?_, fun h w => ?_⟩
        · simp (disch := omega) only [f_X7_accept, k_is K, k_hl K, hh_p K.2, k_has3 K, ei, if_false, hh_q K.2, hs_bx K.2, hs_box K.2, k_isAt K.2, k_good K.2, e3, e4, t0, f0, if_true, Option.bind_some]
        · have r1 := rr_of (wMF_th w 0)
          simp (disch := omega) only [f_X8_accept, wm_is (wMF_M w), q_th w, m_is3 r1 I, ei, if_false, m_isAt r1, m_isGood r1 I, e3, e4, t0, f0, if_true, Option.bind_some]
      | false =>
        by_cases e5 : sE (S 4) k = 12
        · have e5' : ¬ sE (S 4) k < 12 := by omega
          refine Or.inl ⟨-5, ?_, fun h w => ?_⟩
          · simp (disch := omega) only [f_X7_accept, k_is K, k_hl K, hh_p K.2, k_has3 K, ei, if_false, hh_q K.2, hs_bx K.2, hs_box K.2, k_isAt K.2, k_good K.2, e3, e4, t0, f0, if_true, k_ent K.2, pn_12, e5', Option.bind_some]
          · have r1 := rr_of (wMF_th w 0)
            simp (disch := omega) only [f_X8_accept, wm_is (wMF_M w), q_th w, m_is3 r1 I, ei, if_false, m_isAt r1, m_isGood r1 I, e3, e4, t0, f0, if_true, m_of2 r1 I, pn_12e, e5, Option.bind_some]
        · have e5' : sE (S 4) k < 12 := by omega
          obtain ⟨h1, σ', g1', f1, W1⟩ := wW_keep W
          obtain ⟨h2, g2, Y2, I2, f2⟩ := S_enter W1.1.2.2.2.1 I hk e5' (sF (S 4) k 1)
          obtain ⟨W2, f12⟩ := wW_set' W1 (zfr_wide (lo' := c + 61) (n' := 574) f1 (by omega) (by omega)) f2 Y2 I2
          have eE : sE (nE (S 4) k (sF (S 4) k 1)) k = sE (S 4) k + 1 := by
            have e : sF (nE (S 4) k (sF (S 4) k 1)) k 2 = Int32.ofNat (sE (S 4) k + 1) := by unfold nE; rw [nB_same (by decide)]; rfl
            unfold sE at *
            rw [e, pn_nat (by omega)]
          refine Or.inr ⟨Int32.ofNat (sE (nE (S 4) k (sF (S 4) k 1)) k), nE (S 4) k (sF (S 4) k 1), ⟨h2, σ', ?_, f12, W2⟩, nB_z (by omega) z4, fun h w => ?_⟩
          · have K1 := W1.1
            have K2 := W2.1
            simp (disch := omega) only [f_X7_accept, k_is K, k_hl K, hh_p K.2, k_has3 K, ei, if_false, hh_q K.2, hs_bx K.2, hs_box K.2, k_isAt K.2, k_good K.2, e3, e4, t0, f0, if_true, k_ent K.2, pn_12, e5', k_hi K, g1', k_seal K1.2, g2, k_ent K2.2, Option.bind_some]
          · obtain ⟨h3, P, g3, W3, f3, r3⟩ := rK w hu W.2.2.1 z4
            obtain ⟨h4, g4, W4, f4⟩ := m_enters W3 (b := k) (by rw [g1_ne _ _ (by decide)]; exact I) (by rw [g1_ne _ _ (by decide)]; exact hk) e5' (sF (S 4) k 1)
            refine ⟨h4, P, ?_, W4, zfr_tr f3 f4, r3⟩
            have r1 := rr_of (wMF_th w 0)
            simp (disch := omega) only [f_X8_accept, wm_is (wMF_M w), q_th w, m_is3 r1 I, ei, if_false, m_isAt r1, m_isGood r1 I, e3, e4, t0, f0, if_true, m_of2 r1 I, pn_12e, e5, g3, m_of1 (rr_2 W3), g4, m_of2 (rr_2 W4) I2, Option.bind_some]
  · have ei := e_out hout
    refine Or.inl ⟨-1, ?_, fun h w => ?_⟩
    · simp only [f_X7_accept, k_is K, k_hl K, hh_p K.2, k_has3 K, ei, if_true, Option.bind_some]
    · have r1 := rr_of (wMF_th w 0)
      simp only [f_X8_accept, wm_is (wMF_M w), q_th w, m_is3 r1 I, ei, if_true, Option.bind_some]
/-- the box at a table, or none -/
theorem zoi_nm (I : sI T N) (y : Int32) : (sOn T N y = none ∧ zoi (sOn T N y) = -1) ∨ ∃ b, b < sN T 3 ∧ sOn T N y = some b ∧ zoi (sOn T N y) = Int32.ofNat b ∧ sF N b 0 = y := by
  cases h : sOn T N y with
  | none => exact Or.inl ⟨rfl, rfl⟩
  | some b =>
    have := zff_some h
    exact Or.inr ⟨b, by omega, rfl, rfl, of_decide_eq_true this.2.2.1⟩
theorem c_seal (W : wW hp c p ea (S 2) (S 4) σ u (rowOf (S 6))) (hu : F 8 = Int32.ofNat u) (z4 : ∀ k, 538 ≤ k → S 4 k = 0) (y : Int32) : zPM (fun h => f_X7_seal c y h) (fun h => f_X8_seal x y h) hp c p ea x F S u := by
  have K := W.1
  have I := hh_I K.2
  have hd := sI_bd I
  rcases inr_cases y (n := sN (S 2) 4) (by omega) with ⟨t, ht, rfl⟩ | hout
  · have ei := e_in ht (by omega)
    rcases zoi_nm I (Int32.ofNat t) with ⟨-, ez⟩ | ⟨k, hk, -, ez, -⟩
    · refine Or.inl ⟨-6, ?_, fun h w => ?_⟩
      · simp only [f_X7_seal, k_is K, k_hl K, hh_p K.2, k_has4 K, ei, if_false, H_boxOn K.2, ez, if_true, Option.bind_some]
      · have r1 := rr_of (wMF_th w 0)
        simp only [f_X8_seal, wm_is (wMF_M w), q_th w, m_is4 r1 I, ei, if_false, m_boxOn r1 I, ez, if_true, Option.bind_some]
    · have en : (Int32.ofNat k = -1) = False := pn_ne1 (by omega)
      have hE := sI_e I hk
      by_cases e5 : sE (S 4) k = 12
      · have e5' : ¬ sE (S 4) k < 12 := by omega
        refine Or.inl ⟨-5, ?_, fun h w => ?_⟩
        · simp (disch := omega) only [f_X7_seal, k_is K, k_hl K, hh_p K.2, k_has4 K, ei, if_false, H_boxOn K.2, ez, en, hh_q K.2, hs_bx K.2, hs_box K.2, k_ent K.2, pn_12, e5', Option.bind_some]
        · have r1 := rr_of (wMF_th w 0)
          simp (disch := omega) only [f_X8_seal, wm_is (wMF_M w), q_th w, m_is4 r1 I, ei, if_false, m_boxOn r1 I, ez, en, m_of2 r1 I, pn_12e, e5, if_true, Option.bind_some]
      · have e5' : sE (S 4) k < 12 := by omega
        obtain ⟨h1, σ', g1', f1, W1⟩ := wW_keep W
        obtain ⟨h2, g2, Y2, I2, f2⟩ := S_sealUp W1.1.2.2.2.1 I hk e5'
        obtain ⟨W2, f12⟩ := wW_set' W1 (zfr_wide (lo' := c + 61) (n' := 574) f1 (by omega) (by omega)) f2 Y2 I2
        refine Or.inr ⟨sF (nS (S 4) k) k 1, nS (S 4) k, ⟨h2, σ', ?_, f12, W2⟩, fun j hj => ?_, fun h w => ?_⟩
        · have K1 := W1.1
          have K2 := W2.1
          simp (disch := omega) only [f_X7_seal, k_is K, k_hl K, hh_p K.2, k_has4 K, ei, if_false, H_boxOn K.2, ez, en, hh_q K.2, hs_bx K.2, hs_box K.2, k_ent K.2, pn_12, e5', if_true, k_hi K, g1', k_hl K1, hh_q K1.2, g2, k_hl K2, hh_q K2.2, hs_bx K2.2, hs_box K2.2, k_seal K2.2, Option.bind_some]
        · unfold nS
          rw [zU, if_neg (by omega)]
          exact nB_z (by omega) z4 j hj
        · obtain ⟨h3, P, g3, W3, f3, r3⟩ := rK w hu W.2.2.1 z4
          obtain ⟨h4, g4, W4, f4⟩ := m_seals W3 (b := k) (by rw [g1_ne _ _ (by decide)]; exact I) (by rw [g1_ne _ _ (by decide)]; exact hk) e5'
          refine ⟨h4, P, ?_, W4, zfr_tr f3 f4, r3⟩
          have r1 := rr_of (wMF_th w 0)
          simp (disch := omega) only [f_X8_seal, wm_is (wMF_M w), q_th w, m_is4 r1 I, ei, if_false, m_boxOn r1 I, ez, en, m_of2 r1 I, pn_12e, e5, g3, g4, m_of1 (rr_2 W4), Option.bind_some]
  · have ei := e_out hout
    refine Or.inl ⟨-1, ?_, fun h w => ?_⟩
    · simp only [f_X7_seal, k_is K, k_hl K, hh_p K.2, k_has4 K, ei, if_true, Option.bind_some]
    · have r1 := rr_of (wMF_th w 0)
      simp only [f_X8_seal, wm_is (wMF_M w), q_th w, m_is4 r1 I, ei, if_true, Option.bind_some]
theorem c_countBox (W : wW hp c p ea (S 2) (S 4) σ u (rowOf (S 6))) (hu : F 8 = Int32.ofNat u) (z4 : ∀ k, 538 ≤ k → S 4 k = 0) (y : Int32) : zPM (fun h => f_X7_countBox c y h) (fun h => f_X8_countBox x y h) hp c p ea x F S u := by
  have K := W.1
  have I := hh_I K.2
  have hd := sI_bd I
  rcases inr_cases y (n := sN (S 2) 4) (by omega) with ⟨t, ht, rfl⟩ | hout
  · have ei := e_in ht (by omega)
    rcases zoi_nm I (Int32.ofNat t) with ⟨-, ez⟩ | ⟨k, hk, -, ez, -⟩
    · refine Or.inl ⟨-6, ?_, fun h w => ?_⟩
      · simp only [f_X7_countBox, k_is K, k_hl K, hh_p K.2, k_has4 K, ei, if_false, H_boxOn K.2, ez, if_true, Option.bind_some]
      · have r1 := rr_of (wMF_th w 0)
        simp only [f_X8_countBox, wm_is (wMF_M w), q_th w, m_is4 r1 I, ei, if_false, m_boxOn r1 I, ez, if_true, Option.bind_some]
    · have en : (Int32.ofNat k = -1) = False := pn_ne1 (by omega)
      have hC := sI_c I hk
      by_cases e5 : sC (S 4) k = 4
      · have e5' : ¬ sC (S 4) k < 4 := by omega
        refine Or.inl ⟨-5, ?_, fun h w => ?_⟩
        · simp (disch := omega) only [f_X7_countBox, k_is K, k_hl K, hh_p K.2, k_has4 K, ei, if_false, H_boxOn K.2, ez, en, hh_q K.2, hs_bx K.2, hs_box K.2, k_cnt K.2, pn_4, e5', Option.bind_some]
        · have r1 := rr_of (wMF_th w 0)
          simp (disch := omega) only [f_X8_countBox, wm_is (wMF_M w), q_th w, m_is4 r1 I, ei, if_false, m_boxOn r1 I, ez, en, m_of3 r1 I, pn_4e, e5, if_true, Option.bind_some]
      · have e5' : sC (S 4) k < 4 := by omega
        obtain ⟨h1, σ', g1', f1, W1⟩ := wW_keep W
        obtain ⟨h2, g2, Y2, I2, f2⟩ := S_count W1.1.2 hk ht e5' (by omega) (by have := W.2.1; omega)
        obtain ⟨W2, f12⟩ := wW_set' W1 (zfr_wide (lo' := c + 61) (n' := 574) f1 (by omega) (by omega)) f2 Y2 I2
        refine Or.inr ⟨Int32.ofNat (sC (nC (S 2) (S 4) k t) k), nC (S 2) (S 4) k t, ⟨h2, σ', ?_, f12, W2⟩, nB_z (by omega) z4, fun h w => ?_⟩
        · have K1 := W1.1
          have K2 := W2.1
          simp (disch := omega) only [f_X7_countBox, k_is K, k_hl K, hh_p K.2, k_has4 K, ei, if_false, H_boxOn K.2, ez, en, hh_q K.2, hs_bx K.2, hs_box K.2, k_cnt K.2, pn_4, e5', if_true, k_hi K, g1', k_hl K1, g2, k_hl K2, hh_q K2.2, hs_bx K2.2, hs_box K2.2, k_cnt K2.2, Option.bind_some]
        · obtain ⟨h3, P, g3, W3, f3, r3⟩ := rK w hu W.2.2.1 z4
          obtain ⟨h4, g4, W4, f4⟩ := m_counts W3 (b := k) (t := t) (by rw [g1_ne _ _ (by decide)]; exact I) (by rw [g1_ne _ _ (by decide)]; exact hk) (by rw [g1_ne _ _ (by decide)]; exact ht) e5'
          rw [show g1 S 6 P 2 = S 2 from g1_ne _ _ (by decide)] at W4
          refine ⟨h4, P, ?_, W4, zfr_tr f3 f4, r3⟩
          have r1 := rr_of (wMF_th w 0)
          simp (disch := omega) only [f_X8_countBox, wm_is (wMF_M w), q_th w, m_is4 r1 I, ei, if_false, m_boxOn r1 I, ez, en, m_of3 r1 I, pn_4e, e5, g3, g4, m_of3 (rr_2 W4) I2, Option.bind_some]
  · have ei := e_out hout
    refine Or.inl ⟨-1, ?_, fun h w => ?_⟩
    · simp only [f_X7_countBox, k_is K, k_hl K, hh_p K.2, k_has4 K, ei, if_true, Option.bind_some]
    · have r1 := rr_of (wMF_th w 0)
      simp only [f_X8_countBox, wm_is (wMF_M w), q_th w, m_is4 r1 I, ei, if_true, Option.bind_some]
end P45
