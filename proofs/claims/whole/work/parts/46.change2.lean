/-! PURE: open, declare, setSetting, undo, work: class and reference alike -/
section P46
variable {hp h hp' : zHp} {x a a' q b u c p hl t : Nat} {ea : Int32} {S : Nat → Nat → Int32} {F T N N' R : Nat → Int32} {σ : Nat → Nat} {Ps : Nat → Nat → Int32}
theorem c_open (W : wW hp c p ea (S 2) (S 4) σ u (rowOf (S 6))) (hu : F 8 = Int32.ofNat u) (z4 : ∀ k, 538 ≤ k → S 4 k = 0) (y v : Int32) : zPM (fun h => f_X7_open c y v h) (fun h => f_X8_open x y v h) hp c p ea x F S u := by
  have K := W.1
  have I := hh_I K.2
  have hd := sI_bd I
  have t0 : (zb true = 0) = False := eq_false (by decide)
  have f0 : (zb false = 0) = True := eq_true rfl
  have o0 : ((1 : Int32) = 0) = False := eq_false (by decide)
  rcases inr_cases y (n := sN (S 2) 3) (by omega) with ⟨k, hk, rfl⟩ | hout
  · have ei := e_in hk (by omega)
    rcases inr_cases v (n := sN (S 2) 4) (by omega) with ⟨t, ht, rfl⟩ | hout2
    · have et := e_in ht (by omega)
      by_cases e0 : sF (S 4) k 0 = -4
      · rcases zoi_nm I (Int32.ofNat t) with ⟨-, ez⟩ | ⟨j, hj, -, ez, -⟩
        · cases e1 : sDecl (S 4) (S 2 (44 + k)) with
          | true =>
            refine Or.inl ⟨-6, ?_, fun h w => ?_⟩
            · simp (disch := omega) only [f_X7_open, j_X7_open_70, j_X7_open_71, k_is K, k_hl K, hh_p K.2, k_has3 K, k_has4 K, ei, et, if_false, hh_q K.2, hs_bx K.2, hs_box K.2, k_place K.2, e0, if_true, H_boxOn K.2, ez, o0, c_wards K.2.2.1, c_wardsA K.2.2.1 I, H_decl K.2, e1, t0, Option.bind_some]
            · have r1 := rr_of (wMF_th w 0)
              simp (disch := omega) only [f_X8_open, wm_is (wMF_M w), q_th w, m_is3 r1 I, m_is4 r1 I, ei, et, if_false, m_of0 r1, e0, if_true, m_boxOn r1 I, ez, m_T r1, ix44, m_told r1, m_isDecl r1 I, e1, t0, Option.bind_some]
          | false =>
            cases e2 : sGood (S 4) k with
            | false =>
              refine Or.inl ⟨-7, ?_, fun h w => ?_⟩
              · simp (disch := omega) only [f_X7_open, j_X7_open_70, j_X7_open_71, k_is K, k_hl K, hh_p K.2, k_has3 K, k_has4 K, ei, et, if_false, hh_q K.2, hs_bx K.2, hs_box K.2, k_place K.2, e0, if_true, H_boxOn K.2, ez, o0, c_wards K.2.2.1, c_wardsA K.2.2.1 I, H_decl K.2, e1, k_good K.2, e2, f0, Option.bind_some]
              · have r1 := rr_of (wMF_th w 0)
                simp (disch := omega) only [f_X8_open, wm_is (wMF_M w), q_th w, m_is3 r1 I, m_is4 r1 I, ei, et, if_false, m_of0 r1, e0, if_true, m_boxOn r1 I, ez, m_T r1, ix44, m_told r1, m_isDecl r1 I, e1, m_isGood r1 I, e2, f0, Option.bind_some]
            | true =>
              obtain ⟨h1, σ', g1', f1, W1⟩ := wW_keep W
              obtain ⟨h2, g2, Y2, I2, f2⟩ := S_open W1.1.2.2.2.1 I hk (Int32.ofNat t)
              obtain ⟨W2, f12⟩ := wW_set' W1 (zfr_wide (lo' := c + 61) (n' := 574) f1 (by omega) (by omega)) f2 Y2 I2
              refine Or.inr ⟨sF (S 4) k 1, nO (S 4) k (Int32.ofNat t), ⟨h2, σ', ?_, f12, W2⟩, nB_z (by omega) z4, fun h w => ?_⟩
              · simp (disch := omega) only [f_X7_open, j_X7_open_70, j_X7_open_71, k_is K, k_hl K, k_hi K, hh_p K.2, k_has3 K, k_has4 K, ei, et, if_false, hh_q K.2, hs_bx K.2, hs_box K.2, k_place K.2, e0, if_true, H_boxOn K.2, ez, o0, c_wards K.2.2.1, c_wardsA K.2.2.1 I, H_decl K.2, e1, k_good K.2, e2, t0, f0, g1', g2, zb2_some, Option.bind_some]
              · obtain ⟨h3, P, g3, W3, f3, r3⟩ := rK w hu W.2.2.1 z4
                obtain ⟨h4, g4, W4, f4⟩ := m_opens W3 (b := k) (by omega) (Int32.ofNat t)
                refine ⟨h4, P, ?_, W4, zfr_tr f3 f4, r3⟩
                have r1 := rr_of (wMF_th w 0)
                simp (disch := omega) only [f_X8_open, wm_is (wMF_M w), q_th w, m_is3 r1 I, m_is4 r1 I, ei, et, if_false, m_of0 r1, e0, if_true, m_boxOn r1 I, ez, m_T r1, ix44, m_told r1, m_isDecl r1 I, e1, m_isGood r1 I, e2, t0, f0, g3, m_of1 (rr_2 W3), g4, Option.bind_some]
        · have en : (Int32.ofNat j = -1) = False := pn_ne1 (by omega)
          refine Or.inl ⟨-6, ?_, fun h w => ?_⟩
          · simp (disch := omega) only [f_X7_open, j_X7_open_70, j_X7_open_71, k_is K, k_hl K, hh_p K.2, k_has3 K, k_has4 K, ei, et, if_false, hh_q K.2, hs_bx K.2, hs_box K.2, k_place K.2, e0, if_true, H_boxOn K.2, ez, en, Option.bind_some]
          · have r1 := rr_of (wMF_th w 0)
            simp (disch := omega) only [f_X8_open, wm_is (wMF_M w), q_th w, m_is3 r1 I, m_is4 r1 I, ei, et, if_false, m_of0 r1, e0, if_true, m_boxOn r1 I, ez, en, Option.bind_some]
      · refine Or.inl ⟨-6, ?_, fun h w => ?_⟩
        · simp (disch := omega) only [f_X7_open, j_X7_open_70, j_X7_open_71, k_is K, k_hl K, hh_p K.2, k_has3 K, k_has4 K, ei, et, if_false, hh_q K.2, hs_bx K.2, hs_box K.2, k_place K.2, e0, if_true, Option.bind_some]
        · have r1 := rr_of (wMF_th w 0)
          simp (disch := omega) only [f_X8_open, wm_is (wMF_M w), q_th w, m_is3 r1 I, m_is4 r1 I, ei, et, if_false, m_of0 r1, e0, Option.bind_some]
    · have et := e_out hout2
      refine Or.inl ⟨-1, ?_, fun h w => ?_⟩
      · simp only [f_X7_open, k_is K, k_hl K, hh_p K.2, k_has3 K, k_has4 K, ei, et, if_true, if_false, Option.bind_some]
      · have r1 := rr_of (wMF_th w 0)
        simp only [f_X8_open, wm_is (wMF_M w), q_th w, m_is3 r1 I, m_is4 r1 I, ei, et, if_true, if_false, Option.bind_some]
  · have ei := e_out hout
    refine Or.inl ⟨-1, ?_, fun h w => ?_⟩
    · simp only [f_X7_open, k_is K, k_hl K, hh_p K.2, k_has3 K, ei, if_true, Option.bind_some]
    · have r1 := rr_of (wMF_th w 0)
      simp only [f_X8_open, wm_is (wMF_M w), q_th w, m_is3 r1 I, ei, if_true, Option.bind_some]
theorem sCm_or (T N : Nat → Int32) : ∀ n, (sCm T N n).1 = -1 ∨ ∃ w, w < n ∧ (sCm T N n).1 = Int32.ofNat w ∧ sAga T N (Int32.ofNat w) = 0
  | 0 => Or.inl rfl
  | n + 1 => by
    unfold sCm
    split
    · next h => exact Or.inr ⟨n, by omega, rfl, h.1⟩
    · rcases sCm_or T N n with h | ⟨w, h1, h2, h3⟩
      · exact Or.inl h
      · exact Or.inr ⟨w, by omega, h2, h3⟩
theorem sAga_0 {w : Int32} (h : sAga T N w = 0) : sDecl N w = false := by
  cases hk : sDecl N w with
  | false => rfl
  | true =>
    unfold sAga at h
    rw [hk, if_pos rfl] at h
    exact absurd h (by decide)
theorem m_declare (W : wMF hp x F (g1 S 4 N)) (I : sI (S 2) N) (h6 : sD N < 6) (v : Int32) : ∃ h h', (zgR hp x 8 5 = some (x + 4) ∧ zaI hp 0 (x + 4) 9 = some (Int32.ofNat (sD N)) ∧ zsI hp (x + 4) (3 + Int32.ofNat (sD N)) v = some h ∧ zgR h x 8 5 = some (x + 4) ∧ zaI h 0 (x + 4) 9 = some (Int32.ofNat (sD N)) ∧ zsI h (x + 4) 9 (Int32.ofNat (sD N + 1)) = some h') ∧ wMF h' x F (g1 S 4 (nD N v)) ∧ zfr hp h' x 8 := by
  obtain ⟨h1, e1, W1, f1⟩ := m_nowW W (k := 3 + sD N) (by omega) v
  obtain ⟨h2, e2, W2, f2⟩ := m_nowW W1 (k := 9) (by decide) (Int32.ofNat (sD N + 1))
  have n1 : zaI h1 0 (x + 4) 9 = some (Int32.ofNat (sD N)) := by
    refine (m_now (rr_g W1) (k := 9) (by decide)).trans (congrArg some ?_)
    rw [zU, if_neg (by omega)]
    exact (sI_d I).1
  exact ⟨h1, h2, ⟨m_N (rr_g W), m_now9 (rr_g W) I, by rw [ix3]; exact e1, m_N (rr_g W1), n1, e2⟩, W2, zfr_tr f1 f2⟩
theorem c_declare (W : wW hp c p ea (S 2) (S 4) σ u (rowOf (S 6))) (hu : F 8 = Int32.ofNat u) (z4 : ∀ k, 538 ≤ k → S 4 k = 0) : zPM (fun h => f_X7_declare c h) (fun h => f_X8_declare x h) hp c p ea x F S u := by
  have K := W.1
  have I := hh_I K.2
  have hd := sI_bd I
  rcases sCm_or (S 2) (S 4) (sN (S 2) 2) with e | ⟨w, hw, e, ea0⟩
  · have e' : sCome (S 2) (S 4) = -1 := e
    refine Or.inl ⟨-1, ?_, fun h w => ?_⟩
    · simp only [f_X7_declare, k_is K, k_hl K, H_next K.2, e', if_true, Option.bind_some]
    · have r1 := rr_of (wMF_th w 0)
      simp only [f_X8_declare, wm_is (wMF_M w), q_th w, m_comes r1 I, e', if_true, Option.bind_some]
  · have e' : sCome (S 2) (S 4) = Int32.ofNat w := e
    have en : (Int32.ofNat w = -1) = False := pn_ne1 (by omega)
    have hn := sAga_0 ea0
    have h6 := sD_room I hw hn
    obtain ⟨h1, σ', g1', f1, W1⟩ := wW_keep W
    obtain ⟨h2, g2, Y2, I2, f2⟩ := S_decl W1.1.2.2.2.1 I hw hn
    obtain ⟨W2, f12⟩ := wW_set' W1 (zfr_wide (lo' := c + 61) (n' := 574) f1 (by omega) (by omega)) f2 Y2 I2
    refine Or.inr ⟨Int32.ofNat w, nD (S 4) (Int32.ofNat w), ⟨h2, σ', ?_, f12, W2⟩, fun k hk => ?_, fun h w' => ?_⟩
    · have K1 := W1.1
      simp only [f_X7_declare, k_is K, k_hl K, H_next K.2, e', en, if_false, k_hi K, hh_q K.2, g1', k_hl K1, hh_q K1.2, g2, Option.bind_some]
    · unfold nD
      rw [zU, if_neg (by omega), zU, if_neg (by omega)]
      exact z4 k hk
    · obtain ⟨h3, P, g3, W3, f3, r3⟩ := rK w' hu W.2.2.1 z4
      obtain ⟨h4, h5, ⟨a1, a2, a3, a4, a5, a6⟩, W5, f5⟩ := m_declare W3 (by rw [g1_ne _ _ (by decide)]; exact I) h6 (Int32.ofNat w)
      refine ⟨h5, P, ?_, W5, zfr_tr f3 f5, r3⟩
      have r1 := rr_of (wMF_th w' 0)
      simp only [f_X8_declare, wm_is (wMF_M w'), q_th w', m_comes r1 I, e', en, if_false, g3, a1, a2, a3, a4, a5, pn_succ, a6, Option.bind_some]
theorem c_setSetting (W : wW hp c p ea (S 2) (S 4) σ u (rowOf (S 6))) (hu : F 8 = Int32.ofNat u) (z4 : ∀ k, 538 ≤ k → S 4 k = 0) (y v : Int32) : zPM (fun h => f_X7_setSetting c y v h) (fun h => f_X8_setSetting x y v h) hp c p ea x F S u := by
  have K := W.1
  have I := hh_I K.2
  have hd := sI_bd I
  have o0 : ((1 : Int32) = 0) = False := eq_false (by decide)
  have key : ∀ i, i < 2 → y = Int32.ofNat i → zPM (fun h => f_X7_setSetting c y v h) (fun h => f_X8_setSetting x y v h) hp c p ea x F S u := fun i hi hy => by
    have s7 : ∀ h, f_X7_isSetting y h = some 1 := fun h => by rcases (show i = 0 ∨ i = 1 by omega) with rfl | rfl <;> subst hy <;> rfl
    have s8 : ∀ h, f_X8_isSetting y h = some 1 := fun h => by rcases (show i = 0 ∨ i = 1 by omega) with rfl | rfl <;> subst hy <;> rfl
    obtain ⟨top, t7, t8⟩ : ∃ top : Int32, (∀ h, f_X7_mostOf y h = some top) ∧ ∀ h, f_X8_top y h = some top := by
      rcases (show i = 0 ∨ i = 1 by omega) with rfl | rfl
      · subst hy; exact ⟨50, fun _ => rfl, fun _ => rfl⟩
      · subst hy; exact ⟨9, fun _ => rfl, fun _ => rfl⟩
    by_cases e1 : v < 0
    · refine Or.inl ⟨-2, ?_, fun h w => ?_⟩
      · simp only [f_X7_setSetting, k_is K, s7, o0, if_false, e1, if_true, Option.bind_some]
      · simp only [f_X8_setSetting, wm_is (wMF_M w), q_th w, s8, o0, if_false, e1, if_true, Option.bind_some]
    · by_cases e2 : top < v
      · refine Or.inl ⟨-2, ?_, fun h w => ?_⟩
        · simp only [f_X7_setSetting, k_is K, s7, t7, o0, if_false, e1, e2, if_true, Option.bind_some]
        · simp only [f_X8_setSetting, wm_is (wMF_M w), q_th w, s8, t8, o0, if_false, e1, e2, if_true, Option.bind_some]
      · obtain ⟨h1, σ', g1', f1, W1⟩ := wW_keep W
        obtain ⟨h2, g2, Y2, I2, f2⟩ := S_set W1.1.2.2.2.1 I hi v
        obtain ⟨W2, f12⟩ := wW_set' W1 (zfr_wide (lo' := c + 61) (n' := 574) f1 (by omega) (by omega)) f2 Y2 I2
        have K1 := W1.1
        have rd : zaI h1 0 (c + 61 + 2) y = some (S 4 i) := by
          rcases (show i = 0 ∨ i = 1 by omega) with rfl | rfl
          · subst hy; exact hs_s0 K1.2
          · subst hy; exact hs_s1 K1.2
        refine Or.inr ⟨S 4 i, upd (S 4) i v, ⟨h2, σ', ?_, f12, W2⟩, fun k hk => ?_, fun h w => ?_⟩
        · simp only [f_X7_setSetting, k_is K, s7, t7, o0, if_false, e1, e2, k_hi K, k_hl K, hh_q K.2, g1', k_hl K1, hh_q K1.2, hs_set K1.2, rd, Option.bind_some]
          rw [hy, g2]
          rfl
        · rw [zU, if_neg (by omega)]
          exact z4 k hk
        · obtain ⟨h3, P, g3, W3, f3, r3⟩ := rK w hu W.2.2.1 z4
          obtain ⟨h4, g4, W4, f4⟩ := m_nowW W3 (k := i) (by omega) v
          refine ⟨h4, P, ?_, W4, zfr_tr f3 f4, r3⟩
          simp only [f_X8_setSetting, wm_is (wMF_M w), q_th w, s8, t8, o0, if_false, e1, e2, g3, m_N (rr_2 W3), Int32.zero_add, Option.bind_some]
          rw [hy, m_now (rr_2 W3) (show i < 538 by omega), g4]
          rfl
  by_cases h0 : y = 0
  · exact key 0 (by decide) h0
  · by_cases h1 : y = 1
    · exact key 1 (by decide) h1
    · refine Or.inl ⟨-2, ?_, fun h w => ?_⟩
      · simp only [f_X7_setSetting, f_X7_isSetting, k_is K, h0, h1, if_false, if_true, Option.bind_some]
      · simp only [f_X8_setSetting, f_X8_isSetting, wm_is (wMF_M w), q_th w, h0, h1, if_false, if_true, Option.bind_some]
theorem c_undo0 (W : wW hp c p ea (S 2) (S 4) σ 0 Ps) (hu : F 8 = Int32.ofNat 0) : f_X7_undo c hp = some (-1, hp) ∧ ∀ h, wMF h x F S → f_X8_undo x h = some (-1, zth h x F 0) := by
  have K := W.1
  refine ⟨?_, fun h w => ?_⟩
  · simp only [f_X7_undo, k_is K, k_hi K, hi_u W.2.2.2.1, show Int32.ofNat 0 = 0 from rfl, if_true, Option.bind_some]
  · have hu1 : upd F 0 0 8 = Int32.ofNat 0 := by rw [zU, if_neg (by decide), hu]
    simp only [f_X8_undo, wm_is (wMF_M w), q_th w, zMf_8 (wMF_th w 0) hu1, show Int32.ofNat 0 = 0 from rfl, if_true, Option.bind_some]
theorem c_undo (W : wW hp c p ea (S 2) (S 4) σ u (rowOf (S 6))) (h0 : 0 < u) : ∃ h, f_X7_undo c hp = some (Int32.ofNat (u - 1), h) ∧ zfr hp h (c + 61) 574 ∧ wW h c p ea (S 2) (rowOf (S 6) (u - 1)) σ (u - 1) (rowOf (S 6)) := by
  obtain ⟨K, hpp, hu, X, Z⟩ := W
  obtain ⟨G, g, s⟩ := K.2.2.2.1
  obtain ⟨h1, e1, X1, Y1, f1, Z1⟩ := hi_give X hu h0 g (Z (u - 1) (by omega)).1 (by omega) (fun i hi => (Z i hi).2)
  have ne : ¬ Int32.ofNat u = 0 := by rw [pn_eq0 (by omega)]; omega
  have I1 := (Z (u - 1) (by omega)).1
  have K1 := wK_st K hpp (fun i hi => f1 i (by omega) (by omega)) Y1 I1
  refine ⟨h1, ?_, fun k hk => f1 k (by omega) (by omega), K1, hpp, by omega, X1, fun i hi => ⟨(Z i (by omega)).1, Z1 i hi⟩⟩
  simp only [f_X7_undo, k_is K, k_hi K, hi_u X, ne, if_false, k_hl K, hh_q K.2, e1, k_hi K1, hi_u X1, Option.bind_some]
/-! work -/
def wF (T : Nat → Int32) (due : Int32) (N : Nat → Int32) : Nat → Nat → Int32
  | 0 => N
  | t + 1 => if (sOn T (wF T due N t) (Int32.ofNat t)).isNone = true then (match sOpn T (wF T due N t) due (Int32.ofNat t) with | some b => nO (wF T due N t) b (Int32.ofNat t) | none => wF T due N t) else wF T due N t
def nW1 (T N : Nat → Int32) (b t : Nat) : Nat → Int32 := if sC N b < 4 then nC T N b t else N
def nW2 (N : Nat → Int32) (b : Nat) : Nat → Int32 := if sE N b < 12 then nS N b else N
def wG (T : Nat → Int32) (N : Nat → Int32) : Nat → (Nat → Int32) × Int32
  | 0 => (N, 0)
  | t + 1 => match sOn T (wG T N t).1 (Int32.ofNat t) with
    | none => wG T N t
    | some b => (nW2 (nW1 T (wG T N t).1 b t) b, (wG T N t).2 + (if sC (wG T N t).1 b < 4 then 1 else 0))
theorem zFHA {R A : Type} {l : Nat → A → Int32 → zHp → Option R} {n m : Nat} (st : Nat → A) (J : Nat → zHp → Prop) (hm : n < m) (h0 : J 0 hp)
    (hs : ∀ i h, i < n → J i h → ∃ h', J (i + 1) h' ∧ ∀ m, l (m + 1) (st i) (Int32.ofNat i) h = l m (st (i + 1)) (Int32.ofNat (i + 1)) h') {k : zHp → Option R} (he : ∀ h, J n h → ∀ m, l (m + 1) (st n) (Int32.ofNat n) h = k h) : ∃ h, J n h ∧ l m (st 0) 0 hp = k h := by
  have H : ∀ d i m hp, i + d = n → d < m → J i hp → ∃ h, J n h ∧ l m (st i) (Int32.ofNat i) hp = k h := by
    intro d
    induction d with
    | zero =>
      intro i m hp hi hm hJ
      obtain ⟨m, rfl⟩ : ∃ q, m = q + 1 := ⟨m - 1, by omega⟩
      have e : i = n := by omega
      subst e
      exact ⟨hp, hJ, he hp hJ m⟩
    | succ d ih =>
      intro i m hp hi hm hJ
      obtain ⟨m, rfl⟩ : ∃ q, m = q + 1 := ⟨m - 1, by omega⟩
      obtain ⟨h', J', e⟩ := hs i hp (by omega) hJ
      rw [e m]
      exact ih (i + 1) m h' (by omega) (by omega) J'
  exact H n 0 m hp (by omega) hm h0
theorem sOpn_lt {due y : Int32} {b : Nat} (h : sOpn T N due y = some b) : b < sN T 3 := zff_lt h
theorem sOn_lt {y : Int32} {b : Nat} (h : sOn T N y = some b) : b < sN T 3 := zff_lt h
/-- one table filled, in both -/
theorem wF_s (T : Nat → Int32) (due : Int32) (N : Nat → Int32) (t : Nat) : wF T due N (t + 1) = if (sOn T (wF T due N t) (Int32.ofNat t)).isNone = true then (match sOpn T (wF T due N t) due (Int32.ofNat t) with | some b => nO (wF T due N t) b (Int32.ofNat t) | none => wF T due N t) else wF T due N t := rfl
theorem C_fill (W : wW hp c p ea T N σ u Ps) (due : Int32) : ∃ h, f_X1_fillTables (c + 32) due hp = some h ∧ wW h c p ea T (wF T due N (sN T 4)) σ u Ps ∧ zfr hp h (c + 61) 574 := by
  have hd := sI_bd (hh_I W.1.2)
  simp only [f_X1_fillTables, hh_is W.1.2, Option.bind_some]
  obtain ⟨h1, ⟨W1, f1⟩, e1⟩ := zFH (l := l_X1_fillTables_2 (fun h13 => some h13) (c + 32) due) (hp := hp) (n := sN T 4) (m := 1000000) (k := fun h => some h) (fun i h => wW h c p ea T (wF T due N i) σ u Ps ∧ zfr hp h (c + 61) 574) (by omega) ⟨W, zfr_rf⟩ (fun i h hi ⟨Z, f⟩ => by
      have H := Z.1.2
      have I := hh_I H
      rw [wF_s]
      rcases zoi_nm I (Int32.ofNat i) with ⟨en, ez⟩ | ⟨k, hk, en, ez, -⟩
      · rw [en, if_pos (show (none : Option Nat).isNone = true from rfl)]
        cases ho : sOpn T (wF T due N i) due (Int32.ofNat i) with
        | none =>
          refine ⟨h, ⟨Z, f⟩, fun m => ?_⟩
          simp (disch := omega) only [l_X1_fillTables_2_s, b_X1_fillTables_2, j_X1_fillTables_34, hh_p H, c_num H.2.1, c_n4 H.2.1, pn_lt, hi, if_true, H_boxOn H, ez, H_boxFor H, ho, show zoi none = -1 from rfl, Option.bind_some, zlet, pn_succ]
        | some b =>
          have hb := sOpn_lt ho
          obtain ⟨h2, e2, Y2, I2, f2⟩ := S_open H.2.2.1 I hb (Int32.ofNat i)
          obtain ⟨W2, f12⟩ := wW_set' Z f f2 Y2 I2
          refine ⟨h2, ⟨W2, f12⟩, fun m => ?_⟩
          have eb : (Int32.ofNat b = -1) = False := pn_ne1 (by omega)
          simp (disch := omega) only [l_X1_fillTables_2_s, b_X1_fillTables_2, j_X1_fillTables_34, hh_p H, hh_q H, hs_bx H, hs_box H, c_num H.2.1, c_n4 H.2.1, pn_lt, hi, if_true, if_false, H_boxOn H, ez, H_boxFor H, ho, show zoi (some b) = Int32.ofNat b from rfl, eb, e2, zb2_some, Option.bind_some, zlet, pn_succ]
      · rw [en, if_neg (by simp)]
        refine ⟨h, ⟨Z, f⟩, fun m => ?_⟩
        have eb : (Int32.ofNat k = -1) = False := pn_ne1 (by omega)
        simp (disch := omega) only [l_X1_fillTables_2_s, b_X1_fillTables_2, j_X1_fillTables_34, hh_p H, c_num H.2.1, c_n4 H.2.1, pn_lt, hi, if_true, if_false, H_boxOn H, ez, eb, Option.bind_some, zlet, pn_succ]) (fun h ⟨Z, f⟩ m => by
      simp only [l_X1_fillTables_2_s, b_X1_fillTables_2, hh_p Z.1.2, c_num Z.1.2.2.1, c_n4 Z.1.2.2.1, Int32.lt_irrefl, if_false, Option.bind_some])
  exact ⟨h1, e1, W1, f1⟩
theorem C_full {b : Nat} (H : wH hp hl p q T N) (hb : b < sN T 3) (hC : ¬ sC N b < 4) (y : Int32) : f_X1_addCount hl (Int32.ofNat b) y hp = some hp := by
  have hd := sI_bd (hh_I H)
  have hc := sI_c (hh_I H) hb
  simp (disch := omega) only [f_X1_addCount, hh_is H, hh_q H, hs_bx H, hs_box H, k_cnt H, pn_4, hC, if_false, Option.bind_some]
theorem sI_nW1 (I : sI T N) (hb : b < sN T 3) (ht : t < sN T 4) : sI T (nW1 T N b t) := by
  unfold nW1
  split
  · next h => exact sI_box I (sIb_cnt I hb ht h)
  · exact I
theorem sC_nW (I : sI T N) (hb : b < sN T 3) (ht : t < sN T 4) : sC (nW2 (nW1 T N b t) b) b = if sC N b < 4 then sC N b + 1 else sC N b := by
  have hc := sI_c I hb
  have h1 : sC (nW1 T N b t) b = if sC N b < 4 then sC N b + 1 else sC N b := by
    unfold nW1
    split
    · have e3 : sF (nC T N b t) b 3 = Int32.ofNat (sC N b + 1) := by unfold nC; rw [nB_same (by decide)]; rfl
      unfold sC at *
      rw [e3, pn_nat (by omega)]
    · rfl
  rw [← h1]
  unfold nW2
  split
  · refine sC_row ?_
    have he := sI_e (sI_nW1 I hb ht) hb
    unfold nS sF
    rw [zU, if_neg (by omega), show nB _ b _ (10 + 44 * b + 3) = sF (nB (nW1 T N b t) b _) b 3 from rfl, nB_same (by decide), zU, if_neg (by omega), zU, if_neg (by omega), zU, if_neg (by omega), zU, if_neg (by omega)]
  · rfl
theorem C_cas (W : wW hp c p ea T N σ u Ps) {t : Nat} (ht : t < sN T 4) : (sOn T N (Int32.ofNat t) = none ∧ f_X1_countAndSeal (c + 32) (Int32.ofNat t) hp = some (0, hp)) ∨
    ∃ b, b < sN T 3 ∧ sOn T N (Int32.ofNat t) = some b ∧ ∃ h, f_X1_countAndSeal (c + 32) (Int32.ofNat t) hp = some (if sC N b < 4 then 1 else 0, h) ∧ wW h c p ea T (nW2 (nW1 T N b t) b) σ u Ps ∧ zfr hp h (c + 61) 574 := by
  have H := W.1.2
  have I := hh_I H
  have hd := sI_bd I
  rcases zoi_nm I (Int32.ofNat t) with ⟨en, ez⟩ | ⟨b, hb, en, ez, -⟩
  · refine Or.inl ⟨en, ?_⟩
    simp only [f_X1_countAndSeal, hh_is H, H_boxOn H, ez, if_true, Option.bind_some]
  · have eb : (Int32.ofNat b = -1) = False := pn_ne1 (by omega)
    refine Or.inr ⟨b, hb, en, ?_⟩
    have hc := sI_c I hb
    obtain ⟨h1, e1, W1, f1⟩ : ∃ h, f_X1_addCount (c + 32) (Int32.ofNat b) (Int32.ofNat t) hp = some h ∧ wW h c p ea T (nW1 T N b t) σ u Ps ∧ zfr hp h (c + 61) 574 := by
      unfold nW1
      by_cases h4 : sC N b < 4
      · rw [if_pos h4]
        obtain ⟨h1, e1, Y1, I1, f1⟩ := S_count H hb ht h4 (by omega) (by have := W.2.1; omega)
        obtain ⟨W1, g⟩ := wW_set' W zfr_rf f1 Y1 I1
        exact ⟨h1, e1, W1, g⟩
      · rw [if_neg h4]
        exact ⟨hp, C_full H hb h4 _, W, zfr_rf⟩
    have H1 := W1.1.2
    have I1 := hh_I H1
    have he := sI_e I1 hb
    obtain ⟨h2, e2, W2, f2⟩ : ∃ h2, (if sE (nW1 T N b t) b < 12 then (f_X6_sealUp (c + 61) (Int32.ofNat b) h1) else some h1) = some h2 ∧ wW h2 c p ea T (nW2 (nW1 T N b t) b) σ u Ps ∧ zfr hp h2 (c + 61) 574 := by
      unfold nW2
      by_cases h12 : sE (nW1 T N b t) b < 12
      · rw [if_pos h12, if_pos h12]
        obtain ⟨h2, e2, Y2, I2, f2⟩ := S_sealUp H1.2.2.1 I1 hb h12
        obtain ⟨W2, g⟩ := wW_set' W1 f1 f2 Y2 I2
        exact ⟨h2, e2, W2, g⟩
      · rw [if_neg h12, if_neg h12]
        exact ⟨h1, rfl, W1, f1⟩
    refine ⟨h2, ?_, W2, f2⟩
    have H2 := W2.1.2
    have last : (zgI h2 (c + 61 + 4 + 4 * b) 0 3).bind (fun v8 => some (v8 - Int32.ofNat (sC N b), h2)) = some ((if sC N b < 4 then 1 else 0 : Int32), h2) := by
      rw [k_cnt H2 hb, Option.bind_some, sC_nW I hb ht]
      by_cases h4 : sC N b < 4
      · rw [if_pos h4, if_pos h4, ← pn_succ, Int32.add_comm, Int32.add_sub_cancel]
      · rw [if_neg h4, if_neg h4, Int32.sub_self]
    simp (disch := omega) only [f_X1_countAndSeal, j_X1_countAndSeal_52, hh_is H, hh_q H, H_boxOn H, ez, eb, if_false, hs_bx H, hs_box H, k_cnt H, e1, k_ent H1, pn_12, hh_q H1, Option.bind_some]
    by_cases h12 : sE (nW1 T N b t) b < 12
    · rw [if_pos h12] at e2 ⊢
      rw [e2, Option.bind_some]
      exact last
    · rw [if_neg h12] at e2 ⊢
      cases e2
      exact last
end P46
