/-! PURE: the class's changes; the counts of a box stay what its tables find -/
section P47b
variable {hp h hp' : zHp} {x a a' q b u c p hl t k : Nat} {ea : Int32} {T N N' R : Nat → Int32} {σ : Nat → Nat} {Ps : Nat → Nat → Int32} {fc : zHp → Option (Int32 × zHp)}
/-- each count was made at a table, and found what that table finds -/
def sG (T N : Nat → Int32) : Prop := ∀ b, b < sN T 3 → ∀ c, c < sC N b → ∃ t, t < sN T 4 ∧ sF N b (16 + c) = Int32.ofNat t ∧ ∀ p, p < sPi T → sFd N b c p = sFi T t b p
theorem sG_of (I : sI T N) (G : sG T N) (e : ∀ b, b < sN T 3 → sF N' b 3 = sF N b 3 ∧ ∀ w, 16 ≤ w → w < 44 → sF N' b w = sF N b w) : sG T N' := fun b hb c hc => by
  obtain ⟨e3, e16⟩ := e b hb
  rw [sC_row e3] at hc
  obtain ⟨t, h1, h2, h3⟩ := G b hb c hc
  have h4 := sI_c I hb
  have hd := sI_bd I
  refine ⟨t, h1, by rw [e16 (16 + c) (by omega) (by omega)]; exact h2, fun p hp => ?_⟩
  show sF N' b (20 + 6 * c + p) = _
  rw [e16 _ (by omega) (by omega)]
  exact h3 p hp
theorem sG_nB (I : sI T N) (G : sG T N) (e3 : R 3 = sF N k 3) (e16 : ∀ w, 16 ≤ w → w < 44 → R w = sF N k w) : sG T (nB N k R) := sG_of I G fun b hb => by
  by_cases q : b = k
  · subst q
    exact ⟨by rw [nB_same (by decide)]; exact e3, fun w h1 h2 => by rw [nB_same h2]; exact e16 w h1 h2⟩
  · exact ⟨by rw [nB_ne q (by decide)], fun w h1 h2 => by rw [nB_ne q h2]⟩
theorem sG_lo (I : sI T N) (G : sG T N) (e : ∀ k, 10 ≤ k → N' k = N k) : sG T N' := sG_of I G fun b _ => ⟨e _ (by omega), fun w _ _ => e _ (by omega)⟩
theorem sG_P (I : sI T N) (G : sG T N) (hk : k < sN T 3) {v : Int32} : sG T (nP N k v) := sG_nB I G (by rw [zU, if_neg (by decide)]) (fun w h1 h2 => by rw [zU, if_neg (by omega)])
theorem sG_L (I : sI T N) (G : sG T N) (hk : k < sN T 3) {v : Int32} : sG T (nL N k v) := sG_nB I G (by rw [zU, if_neg (by decide)]) (fun w h1 h2 => by rw [zU, if_neg (by omega)])
theorem sG_O (I : sI T N) (G : sG T N) (hk : k < sN T 3) {v : Int32} : sG T (nO N k v) := sG_nB I G (by rw [zU, if_neg (by decide), zU, if_neg (by decide)]) (fun w h1 h2 => by rw [zU, if_neg (by omega), zU, if_neg (by omega)])
theorem sG_E (I : sI T N) (G : sG T N) (hk : k < sN T 3) (h12 : sE N k < 12) {v : Int32} : sG T (nE N k v) := sG_nB I G (by rw [zU, if_neg (by decide), zU, if_neg (by omega)]) (fun w h1 h2 => by rw [zU, if_neg (by omega), zU, if_neg (by omega)])
theorem sG_S (I : sI T N) (G : sG T N) (hk : k < sN T 3) (h12 : sE N k < 12) : sG T (nS N k) := by
  refine sG_of I G fun b hb => ?_
  have e : ∀ w, w < 44 → sF (nS N k) b w = sF (nB N k (upd (upd (upd (upd (sF N k) (4 + sE N k) (N 2)) 2 (Int32.ofNat (sE N k + 1))) 1 (N 2)) 0 (-4))) b w := fun w hw => by
    unfold nS sF
    rw [zU, if_neg (by omega)]
  by_cases q : b = k
  · subst q
    refine ⟨?_, fun w h1 h2 => ?_⟩
    · rw [e 3 (by decide), nB_same (by decide), zU, if_neg (by decide), zU, if_neg (by decide), zU, if_neg (by decide), zU, if_neg (by omega)]
    · rw [e w h2, nB_same h2, zU, if_neg (by omega), zU, if_neg (by omega), zU, if_neg (by omega), zU, if_neg (by omega)]
  · exact ⟨by rw [e 3 (by decide), nB_ne q (by decide)], fun w h1 h2 => by rw [e w h2, nB_ne q h2]⟩
theorem sG_D (I : sI T N) (G : sG T N) {w : Int32} (h6 : sD N < 7) : sG T (nD N w) := sG_lo I G (fun j hj => by unfold nD; rw [zU, if_neg (by omega), zU, if_neg (by omega)])
theorem sG_U (I : sI T N) (G : sG T N) {i : Nat} (hi : i < 2) {v : Int32} : sG T (upd N i v) := sG_lo I G (fun j hj => by rw [zU, if_neg (by omega)])
theorem sG_C (I : sI T N) (G : sG T N) (hk : k < sN T 3) (ht : t < sN T 4) (h4 : sC N k < 4) : sG T (nC T N k t) := fun b hb c hc => by
  have hd := sI_bd I
  by_cases q : b = k
  · subst q
    have e : ∀ w, w < 44 → sF (nC T N b t) b w = rC T N b t w := fun w hw => nB_same hw
    have e3 : sC (nC T N b t) b = sC N b + 1 := by
      have : sF (nC T N b t) b 3 = Int32.ofNat (sC N b + 1) := by rw [e 3 (by decide)]; rfl
      unfold sC at *
      rw [this, pn_nat (by omega)]
    rw [e3] at hc
    by_cases hn : c = sC N b
    · subst hn
      refine ⟨t, ht, ?_, fun p hp => ?_⟩
      · rw [e _ (by omega)]
        unfold rC
        rw [if_neg (by omega), if_pos rfl]
      · show sF _ b (20 + 6 * sC N b + p) = _
        rw [e _ (by omega)]
        unfold rC
        rw [if_neg (by omega), if_neg (by omega), if_pos (by omega)]
        congr 1
        omega
    · obtain ⟨t', h1, h2, h3⟩ := G b hb c (by omega)
      refine ⟨t', h1, ?_, fun p hp => ?_⟩
      · rw [e _ (by omega), ← h2]
        unfold rC
        rw [if_neg (by omega), if_neg (by omega), if_neg (by omega)]
      · rw [← h3 p hp]
        show sF _ b (20 + 6 * c + p) = sF N b (20 + 6 * c + p)
        rw [e _ (by omega)]
        unfold rC
        rw [if_neg (by omega), if_neg (by omega), if_neg (by omega)]
  · have e : ∀ w, w < 44 → sF (nC T N k t) b w = sF N b w := fun w hw => nB_ne q hw
    have e3 : sC (nC T N k t) b = sC N b := sC_row (e 3 (by decide))
    rw [e3] at hc
    have h9 := sI_c I hb
    obtain ⟨t', h1, h2, h3⟩ := G b hb c hc
    refine ⟨t', h1, by rw [e _ (by omega)]; exact h2, fun p hp => ?_⟩
    rw [← h3 p hp]
    exact e _ (by omega)
/-- a change, or none -/
def zPC (fc : zHp → Option (Int32 × zHp)) (hp : zHp) (c p : Nat) (ea : Int32) (T N : Nat → Int32) : Prop := ∃ (v : Int32) (h : zHp) (N' : Nat → Int32) (σ' : Nat → Nat) (u' : Nat) (Ps' : Nat → Nat → Int32), fc hp = some (v, h) ∧ zfr hp h (c + 61) 574 ∧ wW h c p ea T N' σ' u' Ps' ∧ sG T N'
theorem zPC_no (W : wW hp c p ea T N σ u Ps) (G : sG T N) {v : Int32} (e : fc hp = some (v, hp)) : zPC fc hp c p ea T N := ⟨v, hp, N, σ, u, Ps, e, zfr_rf, W, G⟩
theorem zPC_yes {v : Int32} (e : fc hp = some (v, h)) (f : zfr hp h (c + 61) 574) (W : wW h c p ea T N' σ u Ps) (G : sG T N') : zPC fc hp c p ea T N := ⟨v, h, N', σ, u, Ps, e, f, W, G⟩
theorem e_bring (W : wW hp c p ea T N σ u Ps) (G : sG T N) (y : Int32) : zPC (fun h => f_X7_bring c y h) hp c p ea T N := by
  have K := W.1
  have I := hh_I K.2
  have hd := sI_bd I
  rcases inr_cases y (n := sN T 3) (by omega) with ⟨k, hk, rfl⟩ | hout
  · have ei := e_in hk (by omega)
    by_cases e0 : sF N k 0 = -3
    · obtain ⟨h1, σ', e1, f1, W1⟩ := wW_keep W
      obtain ⟨h2, e2, Y2, I2, f2⟩ := S_place W1.1.2.2.2.1 I hk (-4)
      obtain ⟨W2, f12⟩ := wW_set' W1 (zfr_wide (lo' := c + 61) (n' := 574) f1 (by omega) (by omega)) f2 Y2 I2
      refine zPC_yes (v := sInH T (nP N k (-4))) ?_ f12 W2 (sG_P I G hk)
      · have K1 := W1.1
        have K2 := W2.1
        simp (disch := omega) only [f_X7_bring, k_is K, k_hl K, hh_p K.2, k_has3 K, ei, if_false, hh_q K.2, hs_bx K.2, hs_box K.2, k_place K.2, e0, if_true, k_hi K, e1, k_hl K1, hh_q K1.2, hs_bx K1.2, hs_box K1.2, e2, k_hl K2, H_inHall K2.2, Option.bind_some]
    · refine zPC_no W G (v := -6) ?_
      · simp (disch := omega) only [f_X7_bring, k_is K, k_hl K, hh_p K.2, k_has3 K, ei, if_false, hh_q K.2, hs_bx K.2, hs_box K.2, k_place K.2, e0, Option.bind_some]
  · have ei := e_out hout
    refine zPC_no W G (v := -1) ?_
    · simp only [f_X7_bring, k_is K, k_hl K, hh_p K.2, k_has3 K, ei, if_true, Option.bind_some]
theorem e_tamper (W : wW hp c p ea T N σ u Ps) (G : sG T N) (y v : Int32) : zPC (fun h => f_X7_tamper c y v h) hp c p ea T N := by
  have K := W.1
  have I := hh_I K.2
  have hd := sI_bd I
  rcases inr_cases y (n := sN T 3) (by omega) with ⟨k, hk, rfl⟩ | hout
  · have ei := e_in hk (by omega)
    by_cases e1 : v < 1
    · refine zPC_no W G (v := -2) ?_
      · simp only [f_X7_tamper, k_is K, k_hl K, hh_p K.2, k_has3 K, ei, if_false, e1, if_true, Option.bind_some]
    · by_cases e2 : 9999 < v
      · refine zPC_no W G (v := -2) ?_
        · simp only [f_X7_tamper, k_is K, k_hl K, hh_p K.2, k_has3 K, ei, if_false, e1, e2, if_true, Option.bind_some]
      · cases e3 : sAtT N k with
        | true =>
          have e3' : (zb true = 0) = False := eq_false (by decide)
          refine zPC_no W G (v := -6) ?_
          · simp (disch := omega) only [f_X7_tamper, k_is K, k_hl K, hh_p K.2, k_has3 K, ei, if_false, e1, e2, hh_q K.2, hs_bx K.2, hs_box K.2, k_isAt K.2, e3, e3', Option.bind_some]
        | false =>
          have e3' : (zb false = 0) = True := eq_true rfl
          obtain ⟨h1, σ', g1', f1, W1⟩ := wW_keep W
          obtain ⟨h2, g2, Y2, I2, f2⟩ := S_seal W1.1.2.2.2.1 I hk v
          obtain ⟨W2, f12⟩ := wW_set' W1 (zfr_wide (lo' := c + 61) (n' := 574) f1 (by omega) (by omega)) f2 Y2 I2
          refine zPC_yes (v := sF N k 1) ?_ f12 W2 (sG_L I G hk)
          · have K1 := W1.1
            simp (disch := omega) only [f_X7_tamper, k_is K, k_hl K, hh_p K.2, k_has3 K, ei, if_false, e1, e2, hh_q K.2, hs_bx K.2, hs_box K.2, k_isAt K.2, e3, e3', if_true, k_hi K, g1', k_seal K1.2, g2, Option.bind_some]
  · have ei := e_out hout
    refine zPC_no W G (v := -1) ?_
    · simp only [f_X7_tamper, k_is K, k_hl K, hh_p K.2, k_has3 K, ei, if_true, Option.bind_some]
theorem e_accept (W : wW hp c p ea T N σ u Ps) (G : sG T N) (y : Int32) : zPC (fun h => f_X7_accept c y h) hp c p ea T N := by
  have K := W.1
  have I := hh_I K.2
  have hd := sI_bd I
  have t0 : (zb true = 0) = False := eq_false (by decide)
  have f0 : (zb false = 0) = True := eq_true rfl
  rcases inr_cases y (n := sN T 3) (by omega) with ⟨k, hk, rfl⟩ | hout
  · have ei := e_in hk (by omega)
    have hE := sI_e I hk
    cases e3 : sAtT N k with
    | true =>
      refine zPC_no W G (v := -6) ?_
      · simp (disch := omega) only [f_X7_accept, k_is K, k_hl K, hh_p K.2, k_has3 K, ei, if_false, hh_q K.2, hs_bx K.2, hs_box K.2, k_isAt K.2, e3, t0, Option.bind_some]
    | false =>
      cases e4 : sGood N k with
      | true =>
        refine zPC_no W G (v := -6) ?_
        · simp (disch := omega) only [f_X7_accept, k_is K, k_hl K, hh_p K.2, k_has3 K, ei, if_false, hh_q K.2, hs_bx K.2, hs_box K.2, k_isAt K.2, k_good K.2, e3, e4, t0, f0, if_true, Option.bind_some]
      | false =>
        by_cases e5 : sE N k = 12
        · have e5' : ¬ sE N k < 12 := by omega
          refine zPC_no W G (v := -5) ?_
          · simp (disch := omega) only [f_X7_accept, k_is K, k_hl K, hh_p K.2, k_has3 K, ei, if_false, hh_q K.2, hs_bx K.2, hs_box K.2, k_isAt K.2, k_good K.2, e3, e4, t0, f0, if_true, k_ent K.2, pn_12, e5', Option.bind_some]
        · have e5' : sE N k < 12 := by omega
          obtain ⟨h1, σ', g1', f1, W1⟩ := wW_keep W
          obtain ⟨h2, g2, Y2, I2, f2⟩ := S_enter W1.1.2.2.2.1 I hk e5' (sF N k 1)
          obtain ⟨W2, f12⟩ := wW_set' W1 (zfr_wide (lo' := c + 61) (n' := 574) f1 (by omega) (by omega)) f2 Y2 I2
          have eE : sE (nE N k (sF N k 1)) k = sE N k + 1 := by
            have e : sF (nE N k (sF N k 1)) k 2 = Int32.ofNat (sE N k + 1) := by unfold nE; rw [nB_same (by decide)]; rfl
            unfold sE at *
            rw [e, pn_nat (by omega)]
          refine zPC_yes (v := Int32.ofNat (sE (nE N k (sF N k 1)) k)) ?_ f12 W2 (sG_E I G hk e5')
          · have K1 := W1.1
            have K2 := W2.1
            simp (disch := omega) only [f_X7_accept, k_is K, k_hl K, hh_p K.2, k_has3 K, ei, if_false, hh_q K.2, hs_bx K.2, hs_box K.2, k_isAt K.2, k_good K.2, e3, e4, t0, f0, if_true, k_ent K.2, pn_12, e5', k_hi K, g1', k_seal K1.2, g2, k_ent K2.2, Option.bind_some]
  · have ei := e_out hout
    refine zPC_no W G (v := -1) ?_
    · simp only [f_X7_accept, k_is K, k_hl K, hh_p K.2, k_has3 K, ei, if_true, Option.bind_some]
theorem e_seal (W : wW hp c p ea T N σ u Ps) (G : sG T N) (y : Int32) : zPC (fun h => f_X7_seal c y h) hp c p ea T N := by
  have K := W.1
  have I := hh_I K.2
  have hd := sI_bd I
  rcases inr_cases y (n := sN T 4) (by omega) with ⟨t, ht, rfl⟩ | hout
  · have ei := e_in ht (by omega)
    rcases zoi_nm I (Int32.ofNat t) with ⟨-, ez⟩ | ⟨k, hk, -, ez, -⟩
    · refine zPC_no W G (v := -6) ?_
      · simp only [f_X7_seal, k_is K, k_hl K, hh_p K.2, k_has4 K, ei, if_false, H_boxOn K.2, ez, if_true, Option.bind_some]
    · have en : (Int32.ofNat k = -1) = False := pn_ne1 (by omega)
      have hE := sI_e I hk
      by_cases e5 : sE N k = 12
      · have e5' : ¬ sE N k < 12 := by omega
        refine zPC_no W G (v := -5) ?_
        · simp (disch := omega) only [f_X7_seal, k_is K, k_hl K, hh_p K.2, k_has4 K, ei, if_false, H_boxOn K.2, ez, en, hh_q K.2, hs_bx K.2, hs_box K.2, k_ent K.2, pn_12, e5', Option.bind_some]
      · have e5' : sE N k < 12 := by omega
        obtain ⟨h1, σ', g1', f1, W1⟩ := wW_keep W
        obtain ⟨h2, g2, Y2, I2, f2⟩ := S_sealUp W1.1.2.2.2.1 I hk e5'
        obtain ⟨W2, f12⟩ := wW_set' W1 (zfr_wide (lo' := c + 61) (n' := 574) f1 (by omega) (by omega)) f2 Y2 I2
        refine zPC_yes (v := sF (nS N k) k 1) ?_ f12 W2 (sG_S I G hk e5')
        · have K1 := W1.1
          have K2 := W2.1
          simp (disch := omega) only [f_X7_seal, k_is K, k_hl K, hh_p K.2, k_has4 K, ei, if_false, H_boxOn K.2, ez, en, hh_q K.2, hs_bx K.2, hs_box K.2, k_ent K.2, pn_12, e5', if_true, k_hi K, g1', k_hl K1, hh_q K1.2, g2, k_hl K2, hh_q K2.2, hs_bx K2.2, hs_box K2.2, k_seal K2.2, Option.bind_some]
  · have ei := e_out hout
    refine zPC_no W G (v := -1) ?_
    · simp only [f_X7_seal, k_is K, k_hl K, hh_p K.2, k_has4 K, ei, if_true, Option.bind_some]
theorem e_countBox (W : wW hp c p ea T N σ u Ps) (G : sG T N) (y : Int32) : zPC (fun h => f_X7_countBox c y h) hp c p ea T N := by
  have K := W.1
  have I := hh_I K.2
  have hd := sI_bd I
  rcases inr_cases y (n := sN T 4) (by omega) with ⟨t, ht, rfl⟩ | hout
  · have ei := e_in ht (by omega)
    rcases zoi_nm I (Int32.ofNat t) with ⟨-, ez⟩ | ⟨k, hk, -, ez, -⟩
    · refine zPC_no W G (v := -6) ?_
      · simp only [f_X7_countBox, k_is K, k_hl K, hh_p K.2, k_has4 K, ei, if_false, H_boxOn K.2, ez, if_true, Option.bind_some]
    · have en : (Int32.ofNat k = -1) = False := pn_ne1 (by omega)
      have hC := sI_c I hk
      by_cases e5 : sC N k = 4
      · have e5' : ¬ sC N k < 4 := by omega
        refine zPC_no W G (v := -5) ?_
        · simp (disch := omega) only [f_X7_countBox, k_is K, k_hl K, hh_p K.2, k_has4 K, ei, if_false, H_boxOn K.2, ez, en, hh_q K.2, hs_bx K.2, hs_box K.2, k_cnt K.2, pn_4, e5', Option.bind_some]
      · have e5' : sC N k < 4 := by omega
        obtain ⟨h1, σ', g1', f1, W1⟩ := wW_keep W
        obtain ⟨h2, g2, Y2, I2, f2⟩ := S_count W1.1.2 hk ht e5' (by omega) (by have := W.2.1; omega)
        obtain ⟨W2, f12⟩ := wW_set' W1 (zfr_wide (lo' := c + 61) (n' := 574) f1 (by omega) (by omega)) f2 Y2 I2
        refine zPC_yes (v := Int32.ofNat (sC (nC T N k t) k)) ?_ f12 W2 (sG_C I G hk ht e5')
        · have K1 := W1.1
          have K2 := W2.1
          simp (disch := omega) only [f_X7_countBox, k_is K, k_hl K, hh_p K.2, k_has4 K, ei, if_false, H_boxOn K.2, ez, en, hh_q K.2, hs_bx K.2, hs_box K.2, k_cnt K.2, pn_4, e5', if_true, k_hi K, g1', k_hl K1, g2, k_hl K2, hh_q K2.2, hs_bx K2.2, hs_box K2.2, k_cnt K2.2, Option.bind_some]
  · have ei := e_out hout
    refine zPC_no W G (v := -1) ?_
    · simp only [f_X7_countBox, k_is K, k_hl K, hh_p K.2, k_has4 K, ei, if_true, Option.bind_some]
theorem e_open (W : wW hp c p ea T N σ u Ps) (G : sG T N) (y v : Int32) : zPC (fun h => f_X7_open c y v h) hp c p ea T N := by
  have K := W.1
  have I := hh_I K.2
  have hd := sI_bd I
  have t0 : (zb true = 0) = False := eq_false (by decide)
  have f0 : (zb false = 0) = True := eq_true rfl
  have o0 : ((1 : Int32) = 0) = False := eq_false (by decide)
  rcases inr_cases y (n := sN T 3) (by omega) with ⟨k, hk, rfl⟩ | hout
  · have ei := e_in hk (by omega)
    rcases inr_cases v (n := sN T 4) (by omega) with ⟨t, ht, rfl⟩ | hout2
    · have et := e_in ht (by omega)
      by_cases e0 : sF N k 0 = -4
      · rcases zoi_nm I (Int32.ofNat t) with ⟨-, ez⟩ | ⟨j, hj, -, ez, -⟩
        · cases e1 : sDecl N (T (44 + k)) with
          | true =>
            refine zPC_no W G (v := -6) ?_
            · simp (disch := omega) only [f_X7_open, j_X7_open_70, j_X7_open_71, k_is K, k_hl K, hh_p K.2, k_has3 K, k_has4 K, ei, et, if_false, hh_q K.2, hs_bx K.2, hs_box K.2, k_place K.2, e0, if_true, H_boxOn K.2, ez, o0, c_wards K.2.2.1, c_wardsA K.2.2.1 I, H_decl K.2, e1, t0, Option.bind_some]
          | false =>
            cases e2 : sGood N k with
            | false =>
              refine zPC_no W G (v := -7) ?_
              · simp (disch := omega) only [f_X7_open, j_X7_open_70, j_X7_open_71, k_is K, k_hl K, hh_p K.2, k_has3 K, k_has4 K, ei, et, if_false, hh_q K.2, hs_bx K.2, hs_box K.2, k_place K.2, e0, if_true, H_boxOn K.2, ez, o0, c_wards K.2.2.1, c_wardsA K.2.2.1 I, H_decl K.2, e1, k_good K.2, e2, f0, Option.bind_some]
            | true =>
              obtain ⟨h1, σ', g1', f1, W1⟩ := wW_keep W
              obtain ⟨h2, g2, Y2, I2, f2⟩ := S_open W1.1.2.2.2.1 I hk (Int32.ofNat t)
              obtain ⟨W2, f12⟩ := wW_set' W1 (zfr_wide (lo' := c + 61) (n' := 574) f1 (by omega) (by omega)) f2 Y2 I2
              refine zPC_yes (v := sF N k 1) ?_ f12 W2 (sG_O I G hk)
              · simp (disch := omega) only [f_X7_open, j_X7_open_70, j_X7_open_71, k_is K, k_hl K, k_hi K, hh_p K.2, k_has3 K, k_has4 K, ei, et, if_false, hh_q K.2, hs_bx K.2, hs_box K.2, k_place K.2, e0, if_true, H_boxOn K.2, ez, o0, c_wards K.2.2.1, c_wardsA K.2.2.1 I, H_decl K.2, e1, k_good K.2, e2, t0, f0, g1', g2, zb2_some, Option.bind_some]
        · have en : (Int32.ofNat j = -1) = False := pn_ne1 (by omega)
          refine zPC_no W G (v := -6) ?_
          · simp (disch := omega) only [f_X7_open, j_X7_open_70, j_X7_open_71, k_is K, k_hl K, hh_p K.2, k_has3 K, k_has4 K, ei, et, if_false, hh_q K.2, hs_bx K.2, hs_box K.2, k_place K.2, e0, if_true, H_boxOn K.2, ez, en, Option.bind_some]
      · refine zPC_no W G (v := -6) ?_
        · simp (disch := omega) only [f_X7_open, j_X7_open_70, j_X7_open_71, k_is K, k_hl K, hh_p K.2, k_has3 K, k_has4 K, ei, et, if_false, hh_q K.2, hs_bx K.2, hs_box K.2, k_place K.2, e0, if_true, Option.bind_some]
    · have et := e_out hout2
      refine zPC_no W G (v := -1) ?_
      · simp only [f_X7_open, k_is K, k_hl K, hh_p K.2, k_has3 K, k_has4 K, ei, et, if_true, if_false, Option.bind_some]
  · have ei := e_out hout
    refine zPC_no W G (v := -1) ?_
    · simp only [f_X7_open, k_is K, k_hl K, hh_p K.2, k_has3 K, ei, if_true, Option.bind_some]
theorem e_declare (W : wW hp c p ea T N σ u Ps) (G : sG T N) : zPC (fun h => f_X7_declare c h) hp c p ea T N := by
  have K := W.1
  have I := hh_I K.2
  have hd := sI_bd I
  rcases sCm_or T N (sN T 2) with e | ⟨w, hw, e, ea0⟩
  · have e' : sCome T N = -1 := e
    refine zPC_no W G (v := -1) ?_
    · simp only [f_X7_declare, k_is K, k_hl K, H_next K.2, e', if_true, Option.bind_some]
  · have e' : sCome T N = Int32.ofNat w := e
    have en : (Int32.ofNat w = -1) = False := pn_ne1 (by omega)
    have hn := sAga_0 ea0
    have h6 := sD_room I hw hn
    obtain ⟨h1, σ', g1', f1, W1⟩ := wW_keep W
    obtain ⟨h2, g2, Y2, I2, f2⟩ := S_decl W1.1.2.2.2.1 I hw hn
    obtain ⟨W2, f12⟩ := wW_set' W1 (zfr_wide (lo' := c + 61) (n' := 574) f1 (by omega) (by omega)) f2 Y2 I2
    refine zPC_yes (v := Int32.ofNat w) ?_ f12 W2 (sG_D I G (by omega))
    · have K1 := W1.1
      simp only [f_X7_declare, k_is K, k_hl K, H_next K.2, e', en, if_false, k_hi K, hh_q K.2, g1', k_hl K1, hh_q K1.2, g2, Option.bind_some]
theorem e_setSetting (W : wW hp c p ea T N σ u Ps) (G : sG T N) (y v : Int32) : zPC (fun h => f_X7_setSetting c y v h) hp c p ea T N := by
  have K := W.1
  have I := hh_I K.2
  have hd := sI_bd I
  have o0 : ((1 : Int32) = 0) = False := eq_false (by decide)
  have key : ∀ i, i < 2 → y = Int32.ofNat i → zPC (fun h => f_X7_setSetting c y v h) hp c p ea T N := fun i hi hy => by
    have s7 : ∀ h, f_X7_isSetting y h = some 1 := fun h => by rcases (show i = 0 ∨ i = 1 by omega) with rfl | rfl <;> subst hy <;> rfl
    obtain ⟨top, t7⟩ : ∃ top : Int32, (∀ h, f_X7_mostOf y h = some top) := by
      rcases (show i = 0 ∨ i = 1 by omega) with rfl | rfl
      · subst hy; exact ⟨50, fun _ => rfl⟩
      · subst hy; exact ⟨9, fun _ => rfl⟩
    by_cases e1 : v < 0
    · refine zPC_no W G (v := -2) ?_
      · simp only [f_X7_setSetting, k_is K, s7, o0, if_false, e1, if_true, Option.bind_some]
    · by_cases e2 : top < v
      · refine zPC_no W G (v := -2) ?_
        · simp only [f_X7_setSetting, k_is K, s7, t7, o0, if_false, e1, e2, if_true, Option.bind_some]
      · obtain ⟨h1, σ', g1', f1, W1⟩ := wW_keep W
        obtain ⟨h2, g2, Y2, I2, f2⟩ := S_set W1.1.2.2.2.1 I hi v
        obtain ⟨W2, f12⟩ := wW_set' W1 (zfr_wide (lo' := c + 61) (n' := 574) f1 (by omega) (by omega)) f2 Y2 I2
        have K1 := W1.1
        have rd : zaI h1 0 (c + 61 + 2) y = some (N i) := by
          rcases (show i = 0 ∨ i = 1 by omega) with rfl | rfl
          · subst hy; exact hs_s0 K1.2
          · subst hy; exact hs_s1 K1.2
        refine zPC_yes (v := N i) ?_ f12 W2 (sG_U I G hi)
        · simp only [f_X7_setSetting, k_is K, s7, t7, o0, if_false, e1, e2, k_hi K, k_hl K, hh_q K.2, g1', k_hl K1, hh_q K1.2, hs_set K1.2, rd, Option.bind_some]
          rw [hy, g2]
          rfl
  by_cases h0 : y = 0
  · exact key 0 (by decide) h0
  · by_cases h1 : y = 1
    · exact key 1 (by decide) h1
    · refine zPC_no W G (v := -2) ?_
      · simp only [f_X7_setSetting, f_X7_isSetting, k_is K, h0, h1, if_false, if_true, Option.bind_some]
theorem sG_wF (I : sI T N) (G : sG T N) (due : Int32) : ∀ t, sG T (wF T due N t)
  | 0 => G
  | t + 1 => by
    have ih := sG_wF I G due t
    have Ii := sI_wF I due t
    rw [wF_s]
    split
    · cases ho : sOpn T (wF T due N t) due (Int32.ofNat t) with
      | none => exact ih
      | some b => exact sG_O Ii ih (sOpn_lt ho)
    · exact ih
theorem sG_wG (I : sI T N) (G : sG T N) : ∀ t, t ≤ sN T 4 → sG T (wG T N t).1
  | 0, _ => G
  | t + 1, h => by
    have ih := sG_wG I G t (by omega)
    have Ii := sI_wG I t (by omega)
    rw [wG_s]
    cases ho : sOn T (wG T N t).1 (Int32.ofNat t) with
    | none => exact ih
    | some b =>
      have hb := sOn_lt ho
      show sG T (nW2 (nW1 T (wG T N t).1 b t) b)
      have G1 : sG T (nW1 T (wG T N t).1 b t) := by
        unfold nW1
        split
        · next h4 => exact sG_C Ii ih hb (by omega) h4
        · exact ih
      have I1 := sI_nW1 Ii hb (show t < sN T 4 by omega)
      unfold nW2
      split
      · next h12 => exact sG_S I1 G1 hb h12
      · exact G1
theorem e_work (W : wW hp c p ea T N σ u Ps) (G : sG T N) : zPC (fun h => f_X7_work c h) hp c p ea T N := by
  have K := W.1
  have I := hh_I K.2
  have hd := sI_bd I
  let due := sDue T N
  obtain ⟨h1, σ', g1', f1, W1⟩ := wW_keep W
  obtain ⟨h2, g2, W2, f2⟩ := C_fill W1 due
  have f12 : zfr hp h2 (c + 61) 574 := zfr_tr (zfr_wide f1 (by omega) (by omega)) f2
  have I2 := sI_wF I due (sN T 4)
  obtain ⟨h3, ⟨W3, f3⟩, g3⟩ := zFHA (l := l_X7_work_32 (fun p18 h19 => some (p18, h19)) c) (hp := h2) (n := sN T 4) (m := 1000000) (k := fun h => some ((wG T (wF T due N (sN T 4)) (sN T 4)).2, h)) (fun i => (wG T (wF T due N (sN T 4)) i).2) (fun i h => wW h c p ea T (wG T (wF T due N (sN T 4)) i).1 σ' (uK u) (hKeep u N Ps) ∧ zfr hp h (c + 61) 574) (by omega) ⟨W2, f12⟩ (fun i h hi ⟨Z, f⟩ => by
      have H := Z.1.2
      rw [wG_s]
      rcases C_cas Z hi with ⟨en, e⟩ | ⟨b, hb, en, h', e, Z', f'⟩
      · rw [en]
        refine ⟨h, ⟨Z, f⟩, fun m => ?_⟩
        simp (disch := omega) only [l_X7_work_32_s, b_X7_work_32, k_hl Z.1, hh_p H, c_num H.2.1, c_n4 H.2.1, pn_lt, hi, if_true, e, zb2_some, Option.bind_some, zlet, pn_succ, Int32.add_zero]
      · rw [en]
        refine ⟨h', ⟨Z', zfr_tr f f'⟩, fun m => ?_⟩
        simp (disch := omega) only [l_X7_work_32_s, b_X7_work_32, k_hl Z.1, hh_p H, c_num H.2.1, c_n4 H.2.1, pn_lt, hi, if_true, e, zb2_some, Option.bind_some, zlet, pn_succ]) (fun h ⟨Z, f⟩ m => by
      simp only [l_X7_work_32_s, b_X7_work_32, k_hl Z.1, hh_p Z.1.2, c_num Z.1.2.2.1, c_n4 Z.1.2.2.1, Int32.lt_irrefl, if_false, Option.bind_some])
  refine zPC_yes (v := (wG T (wF T due N (sN T 4)) (sN T 4)).2) ?_ f3 W3 (sG_wG I2 (sG_wF I G due _) _ (Nat.le_refl _))
  simp only [f_X7_work, k_is K, k_hi K, k_hl K, hh_q K.2, g1', k_hl W1.1, H_due W1.1.2, Option.bind_some]
  rw [show f_X1_fillTables (c + 32) (sDue T N) h1 = some h2 from g2, Option.bind_some]
  exact g3
end P47b
