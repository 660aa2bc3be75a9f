/-! PURE: work, class and reference alike -/
section P47
variable {hp h hp' : zHp} {x a a' q b u c p hl t : Nat} {ea : Int32} {S : Nat → Nat → Int32} {F T N N' R : Nat → Int32} {σ : Nat → Nat} {Ps : Nat → Nat → Int32}
theorem sI_nO (I : sI T N) (hb : b < sN T 3) (y : Int32) : sI T (nO N b y) := by
  have hd := sI_bd I
  have he := (sI_row I hb).2.1
  have h16 : ∀ w, 2 ≤ w → upd (upd (sF N b) 0 y) 1 0 w = sF N b w := fun w w1 => by rw [zU, if_neg (by omega), zU, if_neg (by omega)]
  exact sI_box I (sIb_of (E' := sE N b) (sI_row I hb) (by omega) (fun w w1 w2 => h16 w (by omega)) (h16 3 (by decide)) (by rw [h16 2 (by decide)]; exact he.1) he.2.2 he.2.1)
theorem sI_nS (I : sI T N) (hb : b < sN T 3) (hE : sE N b < 12) : sI T (nS N b) := by
  have hd := sI_bd I
  have he := (sI_row I hb).2.1
  have i1 : sIb T (nB N b (upd (upd (upd (upd (sF N b) (4 + sE N b) (N 2)) 2 (Int32.ofNat (sE N b + 1))) 1 (N 2)) 0 (-4))) b := sIb_of (E' := sE N b + 1) (sI_row I hb) (by omega) (fun w w1 w2 => by rw [zU, if_neg (by omega), zU, if_neg (by omega), zU, if_neg (by omega), zU, if_neg (by omega)]) (by rw [zU, if_neg (by omega), zU, if_neg (by omega), zU, if_neg (by omega), zU, if_neg (by omega)]) rfl (by omega) (by omega)
  exact sI_lo10 (sI_box I i1) (fun k hk => by unfold nS; rw [zU, if_neg (by omega)])
theorem sI_nW2 (I : sI T N) (hb : b < sN T 3) : sI T (nW2 N b) := by
  unfold nW2
  split
  · next h => exact sI_nS I hb h
  · exact I
theorem sI_wF (I : sI T N) (due : Int32) : ∀ t, sI T (wF T due N t)
  | 0 => I
  | t + 1 => by
    have ih := sI_wF I due t
    rw [wF_s]
    split
    · cases ho : sOpn T (wF T due N t) due (Int32.ofNat t) with
      | none => exact ih
      | some b => exact sI_nO ih (sOpn_lt ho) _
    · exact ih
theorem wG_s (T N : Nat → Int32) (t : Nat) : wG T N (t + 1) = match sOn T (wG T N t).1 (Int32.ofNat t) with
    | none => wG T N t
    | some b => (nW2 (nW1 T (wG T N t).1 b t) b, (wG T N t).2 + (if sC (wG T N t).1 b < 4 then 1 else 0)) := rfl
theorem sI_wG (I : sI T N) : ∀ t, t ≤ sN T 4 → sI T (wG T N t).1
  | 0, _ => I
  | t + 1, h => by
    have ih := sI_wG I t (by omega)
    rw [wG_s]
    cases ho : sOn T (wG T N t).1 (Int32.ofNat t) with
    | none => exact ih
    | some b => exact sI_nW2 (sI_nW1 ih (sOn_lt ho) (by omega)) (sOn_lt ho)
theorem z_nS (hb : b < 12) (z : ∀ k, 538 ≤ k → N k = 0) : ∀ k, 538 ≤ k → nS N b k = 0 := fun k hk => by
  unfold nS
  rw [zU, if_neg (by omega)]
  exact nB_z hb z k hk
theorem z_wF (I : sI T N) (due : Int32) (z : ∀ k, 538 ≤ k → N k = 0) : ∀ t, ∀ k, 538 ≤ k → wF T due N t k = 0
  | 0 => z
  | t + 1 => by
    have hd := sI_bd I
    have ih := z_wF I due z t
    rw [wF_s]
    split
    · cases ho : sOpn T (wF T due N t) due (Int32.ofNat t) with
      | none => exact ih
      | some b => exact nB_z (by have := sOpn_lt ho; omega) ih
    · exact ih
theorem z_wG (I : sI T N) (z : ∀ k, 538 ≤ k → N k = 0) : ∀ t, ∀ k, 538 ≤ k → (wG T N t).1 k = 0
  | 0 => z
  | t + 1 => by
    have hd := sI_bd I
    have ih := z_wG I z t
    rw [wG_s]
    cases ho : sOn T (wG T N t).1 (Int32.ofNat t) with
    | none => exact ih
    | some b =>
      have hb := sOn_lt ho
      show ∀ k, 538 ≤ k → nW2 (nW1 T (wG T N t).1 b t) b k = 0
      have h1 : ∀ k, 538 ≤ k → nW1 T (wG T N t).1 b t k = 0 := by
        unfold nW1
        split
        · exact nB_z (by omega) ih
        · exact ih
      unfold nW2
      split
      · exact z_nS (by omega) h1
      · exact h1
theorem m_fill (W : wMF hp x F (g1 S 4 N)) (I : sI (S 2) N) (due : Int32) (K : zHp → Option (Int32 × zHp)) : ∃ h, (wMF h x F (g1 S 4 (wF (S 2) due N (sN (S 2) 4))) ∧ zfr hp h x 8) ∧ l_X8_work_16 K x due 1000000 0 hp = K h := by
  have hd := sI_bd I
  refine zFH (l := l_X8_work_16 K x due) (hp := hp) (n := sN (S 2) 4) (m := 1000000) (k := K) (fun i h => wMF h x F (g1 S 4 (wF (S 2) due N i)) ∧ zfr hp h x 8) (by omega) ⟨W, zfr_rf⟩ (fun i h hi ⟨Z, f⟩ => ?_) (fun h ⟨Z, f⟩ m => ?_)
  · have Ii := sI_wF I due i
    have r := rr_g Z
    rw [wF_s]
    rcases zoi_nm Ii (Int32.ofNat i) with ⟨en, ez⟩ | ⟨k, hk, en, ez, -⟩
    · rw [en, if_pos (show (none : Option Nat).isNone = true from rfl)]
      cases ho : sOpn (S 2) (wF (S 2) due N i) due (Int32.ofNat i) with
      | none =>
        refine ⟨h, ⟨Z, f⟩, fun m => ?_⟩
        simp (disch := omega) only [l_X8_work_16_s, b_X8_work_16, j_X8_work_44, m_many4 r Ii, pn_lt, hi, if_true, m_boxOn r Ii, ez, m_toOpen r Ii, ho, show zoi none = -1 from rfl, Option.bind_some, zlet, pn_succ]
      | some b =>
        have hb := sOpn_lt ho
        obtain ⟨h2, e2, W2, f2⟩ := m_opens Z (b := b) (by omega) (Int32.ofNat i)
        refine ⟨h2, ⟨W2, zfr_tr f f2⟩, fun m => ?_⟩
        have eb : (Int32.ofNat b = -1) = False := pn_ne1 (by omega)
        simp (disch := omega) only [l_X8_work_16_s, b_X8_work_16, j_X8_work_44, m_many4 r Ii, pn_lt, hi, if_true, if_false, m_boxOn r Ii, ez, m_toOpen r Ii, ho, show zoi (some b) = Int32.ofNat b from rfl, eb, e2, Option.bind_some, zlet, pn_succ]
    · rw [en, if_neg (by simp)]
      refine ⟨h, ⟨Z, f⟩, fun m => ?_⟩
      have eb : (Int32.ofNat k = -1) = False := pn_ne1 (by omega)
      simp (disch := omega) only [l_X8_work_16_s, b_X8_work_16, j_X8_work_44, m_many4 r Ii, pn_lt, hi, if_true, if_false, m_boxOn r Ii, ez, eb, Option.bind_some, zlet, pn_succ]
  · simp only [l_X8_work_16_s, b_X8_work_16, m_many4 (rr_g Z) (sI_wF I due _), Int32.lt_irrefl, if_false, Option.bind_some]
theorem m_cas (W : wMF hp x F (g1 S 4 N)) (I : sI (S 2) N) (K : Int32 → zHp → Option (Int32 × zHp)) : ∃ h, (wMF h x F (g1 S 4 (wG (S 2) N (sN (S 2) 4)).1) ∧ zfr hp h x 8) ∧ l_X8_work_66 K x 1000000 0 0 hp = K (wG (S 2) N (sN (S 2) 4)).2 h := by
  have hd := sI_bd I
  refine zFHA (l := l_X8_work_66 K x) (hp := hp) (n := sN (S 2) 4) (m := 1000000) (k := fun h => K (wG (S 2) N (sN (S 2) 4)).2 h) (fun i => (wG (S 2) N i).2) (fun i h => wMF h x F (g1 S 4 (wG (S 2) N i).1) ∧ zfr hp h x 8) (by omega) ⟨W, zfr_rf⟩ (fun i h hi ⟨Z, f⟩ => ?_) (fun h ⟨Z, f⟩ m => ?_)
  · have Ii := sI_wG I i (by omega)
    have r := rr_g Z
    rw [wG_s]
    rcases zoi_nm Ii (Int32.ofNat i) with ⟨en, ez⟩ | ⟨b, hb, en, ez, -⟩
    · rw [en]
      refine ⟨h, ⟨Z, f⟩, fun m => ?_⟩
      simp (disch := omega) only [l_X8_work_66_s, b_X8_work_66, m_many4 r Ii, pn_lt, hi, if_true, m_boxOn r Ii, ez, Option.bind_some, zlet, pn_succ]
    · rw [en]
      have eb : (Int32.ofNat b = -1) = False := pn_ne1 (by omega)
      have hc := sI_c Ii hb
      obtain ⟨h1, e1, W1, f1⟩ : ∃ h1, (if sC (wG (S 2) N i).1 b < 4 then f_X8_counts x (Int32.ofNat b) (Int32.ofNat i) h else some h) = some h1 ∧ wMF h1 x F (g1 S 4 (nW1 (S 2) (wG (S 2) N i).1 b i)) ∧ zfr hp h1 x 8 := by
        unfold nW1
        by_cases h4 : sC (wG (S 2) N i).1 b < 4
        · rw [if_pos h4, if_pos h4]
          obtain ⟨h1, e1, W1, f1⟩ := m_counts Z Ii hb hi h4
          exact ⟨h1, e1, W1, zfr_tr f f1⟩
        · rw [if_neg h4, if_neg h4]
          exact ⟨h, rfl, Z, f⟩
      have I1 := sI_nW1 Ii hb hi
      have r1 := rr_g W1
      have he := sI_e I1 hb
      obtain ⟨h2, e2, W2, f2⟩ : ∃ h2, (if sE (nW1 (S 2) (wG (S 2) N i).1 b i) b < 12 then f_X8_seals x (Int32.ofNat b) h1 else some h1) = some h2 ∧ wMF h2 x F (g1 S 4 (nW2 (nW1 (S 2) (wG (S 2) N i).1 b i) b)) ∧ zfr hp h2 x 8 := by
        unfold nW2
        by_cases h12 : sE (nW1 (S 2) (wG (S 2) N i).1 b i) b < 12
        · rw [if_pos h12, if_pos h12]
          obtain ⟨h2, e2, W2, f2⟩ := m_seals W1 I1 hb h12
          exact ⟨h2, e2, W2, zfr_tr f1 f2⟩
        · rw [if_neg h12, if_neg h12]
          exact ⟨h1, rfl, W1, f1⟩
      refine ⟨h2, ⟨W2, f2⟩, fun m => ?_⟩
      have tail : ∀ z : Int32, j_X8_work_112 K (l_X8_work_66 K x m) x z (Int32.ofNat i) (Int32.ofNat b) h1 = l_X8_work_66 K x m z (Int32.ofNat (i + 1)) h2 := fun z => by
        simp (disch := omega) only [j_X8_work_112, m_of2 r1 I1, pn_12, Option.bind_some, zlet, pn_succ]
        by_cases h12 : sE (nW1 (S 2) (wG (S 2) N i).1 b i) b < 12
        · rw [if_pos h12] at e2 ⊢
          rw [e2, Option.bind_some]
        · rw [if_neg h12] at e2 ⊢
          cases e2
          rfl
      simp (disch := omega) only [l_X8_work_66_s, b_X8_work_66, m_many4 r Ii, pn_lt, hi, if_true, if_false, m_boxOn r Ii, ez, eb, m_of3 r Ii, pn_4, Option.bind_some, zlet]
      by_cases h4 : sC (wG (S 2) N i).1 b < 4
      · rw [if_pos h4] at e1 ⊢
        rw [if_pos h4, e1, Option.bind_some]
        exact tail _
      · rw [if_neg h4] at e1 ⊢
        rw [if_neg h4, Int32.add_zero]
        cases e1
        exact tail _
  · simp only [l_X8_work_66_s, b_X8_work_66, m_many4 (rr_g Z) (sI_wG I _ (Nat.le_refl _)), Int32.lt_irrefl, if_false, Option.bind_some]
theorem c_work (W : wW hp c p ea (S 2) (S 4) σ u (rowOf (S 6))) (hu : F 8 = Int32.ofNat u) (z4 : ∀ k, 538 ≤ k → S 4 k = 0) : zPM (fun h => f_X7_work c h) (fun h => f_X8_work x h) hp c p ea x F S u := by
  have K := W.1
  have I := hh_I K.2
  have hd := sI_bd I
  let due := sDue (S 2) (S 4)
  obtain ⟨h1, σ', g1', f1, W1⟩ := wW_keep W
  obtain ⟨h2, g2, W2, f2⟩ := C_fill W1 due
  have f12 : zfr hp h2 (c + 61) 574 := zfr_tr (zfr_wide f1 (by omega) (by omega)) f2
  have I2 := sI_wF I due (sN (S 2) 4)
  obtain ⟨h3, ⟨W3, f3⟩, g3⟩ := zFHA (l := l_X7_work_32 (fun p18 h19 => some (p18, h19)) c) (hp := h2) (n := sN (S 2) 4) (m := 1000000) (k := fun h => some ((wG (S 2) (wF (S 2) due (S 4) (sN (S 2) 4)) (sN (S 2) 4)).2, h)) (fun i => (wG (S 2) (wF (S 2) due (S 4) (sN (S 2) 4)) i).2) (fun i h => wW h c p ea (S 2) (wG (S 2) (wF (S 2) due (S 4) (sN (S 2) 4)) i).1 σ' (uK u) (hKeep u (S 4) (rowOf (S 6))) ∧ zfr hp h (c + 61) 574) (by omega) ⟨W2, f12⟩ (fun i h hi ⟨Z, f⟩ => by
      have H := Z.1.2
      rw [wG_s]
      rcases C_cas Z hi with ⟨en, e⟩ | ⟨b, hb, en, h', e, Z', f'⟩
      · rw [en]
        refine ⟨h, ⟨Z, f⟩, fun m => ?_⟩
        simp (disch := omega) only [l_X7_work_32_s, b_X7_work_32, k_hl Z.1, hh_p H, c_num H.2.1, c_n4 H.2.1, pn_lt, hi, if_true, e, zb2_some, Option.bind_some, zlet, pn_succ, Int32.add_zero]
      · rw [en]
        refine ⟨h', ⟨Z', zfr_tr f f'⟩, fun m => ?_⟩
        simp (disch := omega) only [l_X7_work_32_s, b_X7_work_32, k_hl Z.1, hh_p H, c_num H.2.1, c_n4 H.2.1, pn_lt, hi, if_true, e, zb2_some, Option.bind_some, zlet, pn_succ]) (fun h ⟨Z, f⟩ m => by
      simp only [l_X7_work_32_s, b_X7_work_32, k_hl Z.1, hh_p Z.1.2, c_num Z.1.2.2.1, c_n4 Z.1.2.2.1, Int32.lt_irrefl, if_false, Option.bind_some])
  refine Or.inr ⟨(wG (S 2) (wF (S 2) due (S 4) (sN (S 2) 4)) (sN (S 2) 4)).2, (wG (S 2) (wF (S 2) due (S 4) (sN (S 2) 4)) (sN (S 2) 4)).1, ⟨h3, σ', ?_, f3, W3⟩, z_wG I2 (z_wF I due z4 _) _, fun h w => ?_⟩
  · simp only [f_X7_work, k_is K, k_hi K, k_hl K, hh_q K.2, g1', k_hl W1.1, H_due W1.1.2, Option.bind_some]
    rw [show f_X1_fillTables (c + 32) (sDue (S 2) (S 4)) h1 = some h2 from g2, Option.bind_some]
    exact g3
  · obtain ⟨h4, P, g4, W4, f4, r4⟩ := rK w hu W.2.2.1 z4
    have eT : g1 S 6 P 2 = S 2 := g1_ne _ _ (by decide)
    generalize hK : (fun h10 : zHp => l_X8_work_66 (fun p21 h22 => some (p21, h22)) x 1000000 0 0 h10) = KK
    obtain ⟨h5, ⟨W5, f5⟩, g5⟩ := m_fill W4 (by rw [eT]; exact I) due KK
    obtain ⟨h6, ⟨W6, f6⟩, g6⟩ := m_cas W5 (by rw [eT]; exact I2) (fun p21 h22 => some (p21, h22))
    rw [eT] at W6 g6
    refine ⟨h6, P, ?_, W6, zfr_tr f4 (zfr_tr f5 f6), r4⟩
    simp only [f_X8_work, wm_is (wMF_M w), q_th w, g4, m_due (rr_2 W4) I, Option.bind_some]
    rw [hK, show sDue (S 2) (S 4) = due from rfl, g5, ← hK]
    exact g6
end P47
