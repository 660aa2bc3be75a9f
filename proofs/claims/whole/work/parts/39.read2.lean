/-! PURE: public readers, the rest -/
section P39
variable {hp : zHp} {c ld hl hi sb p q x a b : Nat} {ea : Int32} {T N F : Nat → Int32} {S : Nat → Nat → Int32}
/-- one demand: class and reference -/
theorem r_demand {s : Nat} {y : Int32} {fc : zHp → Option (Option Int32)} {fr : zHp → Option (Int32 × zHp)} {gc : Option (Option Int32)} {gr : zHp → Option (Int32 × zHp)} (hs : sN (S 2) s ≤ 12)
    (hc : fc hp = zbx (if inr y (sN (S 2) s) = true then some (some ()) else some none) (fun _ => gc))
    (hr : ∀ h F, wMF h x F S → fr h = zb2 (f_X8_checks x (zb (inr y (sN (S 2) s))) h) (fun v h3 => if v = 0 then some (0, h3) else gr h3))
    (hin : ∀ k, k < sN (S 2) s → y = Int32.ofNat k → ∃ v, gc = some (some v) ∧ ∀ h, wM h x S → gr h = some (v, h)) : zPR fc fr hp x S := by
  rcases inr_cases y (n := sN (S 2) s) (by omega) with ⟨k, hk, rfl⟩ | hout
  · have ek := inr_T hk (by omega)
    obtain ⟨v, h1, h2⟩ := hin k hk rfl
    refine Or.inr ⟨v, ?_, fun h F w => ?_⟩
    · rw [hc, ek, if_pos rfl, h1]; rfl
    · rw [hr h F w, ek, zb_t, q_chk1 w, zb2_some, if_neg (by decide)]
      exact h2 _ (wMF_M (wMF_th w 0))
  · refine Or.inl ⟨?_, 0, fun h F w => ?_⟩
    · rw [hc, hout, if_neg (by decide)]; rfl
    · rw [hr h F w, hout, zb_f, q_chk0 w, zb2_some, if_pos rfl]
def sWs (T : Nat → Int32) (r : Int32) : Int32 := sOr (fun w => sWin T w r) (sN T 2)
theorem r_wardsIn (K : wK hp c ld hl hi sb p q ea (S 2) (S 4)) (y1 : Int32) : zPR (fun h => f_X7_wardsIn c y1 h) (fun h => f_X8_wardsIn x y1 h) hp x S := by
  have I := hh_I K.2
  have hd := sI_bd I
  refine r_demand (s := 1) (y := y1) (gc := some (some (sWs (S 2) y1))) (gr := fun h => l_X8_wardsIn_19 (fun p8 => some (p8, h)) x y1 h 1000000 0 0) (by omega) ?_ (fun h F w => ?_) (fun k hk e => ⟨_, rfl, fun h w => ?_⟩)
  · simp only [f_X7_wardsIn, k_is K, Option.bind_some, k_dem1 K]
    refine congrArg _ (funext fun _ => ?_)
    refine zFA (n := sN (S 2) 2) (sOr (fun w => sWin (S 2) w y1)) _ (by omega) (fun m i hi => ?_) (fun m => ?_)
    · simp (disch := omega) only [l_X7_wardsIn_10_s, b_X7_wardsIn_10, k_hl K, hh_p K.2, c_num K.2.2.1, c_n2 K.2.2.1, c_isWardIn K.2.2.1 I, Option.bind_some, pn_lt, hi, if_true, zlet, pn_succ, zb_0, sOr]
      by_cases e9 : sWin (S 2) i y1 = true
      · simp [e9]
      · simp [e9]
    · simp (disch := omega) only [l_X7_wardsIn_10_s, b_X7_wardsIn_10, k_hl K, hh_p K.2, c_num K.2.2.1, c_n2 K.2.2.1, Option.bind_some, Int32.lt_irrefl, if_false]
      rfl
  · simp only [f_X8_wardsIn, wm_is (wMF_M w), q_is1 (wMF_M w) I, Option.bind_some]
  · refine zFA (n := sN (S 2) 2) (sOr (fun w => sWin (S 2) w y1)) _ (by omega) (fun m i hi => ?_) (fun m => ?_)
    · simp (disch := omega) only [l_X8_wardsIn_19_s, b_X8_wardsIn_19, j_X8_wardsIn_45, q_many2 w I, q_isWardIn w I, Option.bind_some, pn_lt, hi, if_true, zlet, pn_succ, zb_0, sOr]
      by_cases e9 : sWin (S 2) i y1 = true
      · simp [e9]
      · simp [e9]
    · simp (disch := omega) only [l_X8_wardsIn_19_s, b_X8_wardsIn_19, q_many2 w I, Option.bind_some, Int32.lt_irrefl, if_false]
      rfl
/-- the depth: both count the regions outward -/
theorem q_dep (h : wM hp x S) (I : sI (S 2) (S 4)) (K : Int32 → Option (Int32 × zHp)) : ∀ r m d e, r < sN (S 2) 1 → r + 1 < m → r + 1 < d → l_X8_depthOf_27 K x hp m (Int32.ofNat e) (Int32.ofNat r) = K (Int32.ofNat (e + sDep (S 2) d (Int32.ofNat r))) := by
  intro r
  induction r using Nat.strongRecOn with
  | ind r ih =>
    intro m d e hr hm hd
    obtain ⟨m, rfl⟩ : ∃ k, m = k + 1 := ⟨m - 1, by omega⟩
    obtain ⟨d, rfl⟩ : ∃ k, d = k + 1 := ⟨d - 1, by omega⟩
    have hb := sI_bd I
    simp (disch := omega) only [l_X8_depthOf_27_s, b_X8_depthOf_27, sDep, pn_ne1, if_false, wm_T h, ix33, wm_told h, Option.bind_some, pn_nat, zlet, pn_succ]
    rcases sI_r I hr with e1 | ⟨k, hk, e1⟩
    · rw [e1]
      obtain ⟨m, rfl⟩ : ∃ k, m = k + 1 := ⟨m - 1, by omega⟩
      obtain ⟨d, rfl⟩ : ∃ k, d = k + 1 := ⟨d - 1, by omega⟩
      simp only [l_X8_depthOf_27_s, b_X8_depthOf_27, sDep, if_true, Nat.zero_add]
    · rw [e1, ih k hk m d (e + 1) (by omega) (by omega) (by omega), show e + 1 + sDep (S 2) d (Int32.ofNat k) = e + (sDep (S 2) d (Int32.ofNat k) + 1) by omega]
theorem c_dep (h : wPl hp p T) (I : sI T N) (K : Int32 → Option Int32) : ∀ r m d e, r < sN T 1 → r + 1 < m → r + 1 < d → r + e ≤ 4 → l_X5_regionsAround_9 K p hp m (Int32.ofNat e) (Int32.ofNat r) = K (Int32.ofNat (e + sDep T d (Int32.ofNat r))) := by
  intro r
  induction r using Nat.strongRecOn with
  | ind r ih =>
    intro m d e hr hm hd he
    obtain ⟨m, rfl⟩ : ∃ k, m = k + 1 := ⟨m - 1, by omega⟩
    obtain ⟨d, rfl⟩ : ∃ k, d = k + 1 := ⟨d - 1, by omega⟩
    have hb := sI_bd I
    have e5 : Int32.ofNat e < 5 := by
      rw [show (5 : Int32) = Int32.ofNat 5 from rfl, pn_lt (by omega) (by decide)]
      omega
    simp (disch := omega) only [l_X5_regionsAround_9_s, b_X5_regionsAround_9, e5, if_true, c_hasP h I, hr, sDep, pn_ne1, if_false, c_around h, c_aroundA h I, Option.bind_some, pn_nat, zlet, pn_succ, show ¬ (1 : Int32) = 0 by decide]
    obtain ⟨m, rfl⟩ : ∃ k, m = k + 1 := ⟨m - 1, by omega⟩
    obtain ⟨d, rfl⟩ : ∃ k, d = k + 1 := ⟨d - 1, by omega⟩
    rcases sI_r I hr with e1 | ⟨k, hk, e1⟩
    · rw [e1]
      simp only [l_X5_regionsAround_9_s, b_X5_regionsAround_9, sDep, c_hasM h, Option.bind_some, if_true, Nat.zero_add, ite_self]
    · rw [e1, ih k hk (m + 1) (d + 1) (e + 1) (by omega) (by omega) (by omega) (by omega), show e + 1 + sDep T (d + 1) (Int32.ofNat k) = e + (sDep T (d + 1) (Int32.ofNat k) + 1) by omega]
theorem r_depthOf (K : wK hp c ld hl hi sb p q ea (S 2) (S 4)) (y1 : Int32) : zPR (fun h => f_X7_depthOf c y1 h) (fun h => f_X8_depthOf x y1 h) hp x S := by
  have I := hh_I K.2
  have hd := sI_bd I
  refine r_demand (s := 1) (y := y1) (gc := (f_X5_regionsAround p y1 hp).bind fun v4 => some (some v4)) (gr := fun h => (zgR h x 8 3).bind fun r4 => (zaI h 0 r4 (33 + y1)).bind fun v5 => l_X8_depthOf_27 (fun p9 => some (p9, h)) x h 1000000 0 v5) (by omega) ?_ (fun h F w => ?_) (fun k hk e => ?_)
  · simp only [f_X7_depthOf, k_is K, k_hl K, hh_p K.2, Option.bind_some, k_dem1 K]
  · simp only [f_X8_depthOf, wm_is (wMF_M w), q_is1 (wMF_M w) I, Option.bind_some]
  · subst e
    simp (disch := omega) only [f_X5_regionsAround, c_is5 K.2.2.1, c_around K.2.2.1, c_aroundA K.2.2.1 I, Option.bind_some]
    rcases sI_r I hk with e1 | ⟨j, hj, e1⟩
    · refine ⟨0, ?_, fun h w => ?_⟩
      · rw [e1, (l_X5_regionsAround_9_s (n := 999999) ..)]
        simp only [b_X5_regionsAround_9, c_hasM K.2.2.1, Option.bind_some, if_true, ite_self]
      · simp (disch := omega) only [wm_T w, ix33, wm_told w, Option.bind_some, e1]
        rw [(l_X8_depthOf_27_s (n := 999999) ..)]
        simp only [b_X8_depthOf_27, if_true]
    · refine ⟨Int32.ofNat (0 + sDep (S 2) 6 (Int32.ofNat j)), ?_, fun h w => ?_⟩
      · rw [e1]
        have := c_dep K.2.2.1 I (fun p7 => some p7) j 1000000 6 0 (by omega) (by omega) (by omega) (by omega)
        exact congrArg (fun o : Option Int32 => o.bind fun v4 => some (some v4)) this
      · simp (disch := omega) only [wm_T w, ix33, wm_told w, Option.bind_some, e1]
        exact q_dep w I (fun p9 => some (p9, h)) j 1000000 6 0 (by omega) (by omega) (by omega)
def sRt (T : Nat → Int32) (b : Nat) : Option Nat := zff (fun t => sSame T (sFi T t b) (sPap T b)) (sN T 4) 0
theorem sSame_any (T : Nat → Int32) (f g : Nat → Int32) : sSame T f g = !zany (fun k => !decide (f k = g k)) (sPi T) := by
  unfold sSame zany
  cases zff (fun k => !decide (f k = g k)) (sPi T) 0 <;> rfl
theorem r_rightTable (K : wK hp c ld hl hi sb p q ea (S 2) (S 4)) (y1 : Int32) : zPR (fun h => f_X7_rightTable c y1 h) (fun h => f_X8_rightTable x y1 h) hp x S := by
  have I := hh_I K.2
  have hd := sI_bd I
  refine r_demand (s := 3) (y := y1) (gc := l_X7_rightTable_8 (fun p10 => some (some p10)) (some (some (-1))) c y1 hp 1000000 0) (gr := fun h => l_X8_rightTable_17 (fun p12 => some (p12, h)) (some (-1, h)) x y1 h 1000000 0) (by omega) ?_ (fun h F w => ?_) (fun k hk e => ⟨zoi (sRt (S 2) k), ?_, fun h w => ?_⟩)
  · simp only [f_X7_rightTable, k_is K, Option.bind_some, k_dem3 K]
  · simp only [f_X8_rightTable, wm_is (wMF_M w), q_is3 (wMF_M w) I, Option.bind_some]
  · subst e
    refine (zF (n := sN (S 2) 4) (fun t => sSame (S 2) (sFi (S 2) t k) (sPap (S 2) k)) (fun t => some (some (Int32.ofNat t))) (some (some (-1))) (by omega) (fun m i hi => ?_) (fun m => ?_)).trans ?_
    · simp (disch := omega) only [l_X7_rightTable_8_s, b_X7_rightTable_8, k_hl K, hh_p K.2, c_num K.2.2.1, c_n4 K.2.2.1, c_truth K.2.2.1 I, Option.bind_some, pn_lt, hi, if_true, zlet, pn_succ, zb_0, ite_bf]
    · simp (disch := omega) only [l_X7_rightTable_8_s, b_X7_rightTable_8, k_hl K, hh_p K.2, c_num K.2.2.1, c_n4 K.2.2.1, Option.bind_some, Int32.lt_irrefl, if_false]
    · unfold sRt zoi
      cases zff (fun t => sSame (S 2) (sFi (S 2) t k) (sPap (S 2) k)) (sN (S 2) 4) 0 <;> rfl
  · subst e
    refine (zF (n := sN (S 2) 4) (fun t => sSame (S 2) (sFi (S 2) t k) (sPap (S 2) k)) (fun t => some (Int32.ofNat t, h)) (some (-1, h)) (by omega) (fun m i hi => ?_) (fun m => ?_)).trans ?_
    · simp (disch := omega) only [l_X8_rightTable_17_s, b_X8_rightTable_17, q_many4 w I, Option.bind_some, pn_lt, hi, if_true, pn_succ]
      refine (zFA (n := sPi (S 2)) (fun j => zb (!zany (fun k' => !decide (sFi (S 2) i k k' = sPap (S 2) k k')) j)) (if sSame (S 2) (sFi (S 2) i k) (sPap (S 2) k) = true then some (Int32.ofNat i, h) else l_X8_rightTable_17 (fun p12 => some (p12, h)) (some (-1, h)) x (Int32.ofNat k) h m (Int32.ofNat (i + 1))) (by omega) (fun m' j hj => ?_) (fun m' => ?_))
      · simp (disch := omega) only [l_X8_rightTable_31_s, b_X8_rightTable_31, j_X8_rightTable_66, p_piles w I, p_finds w I, p_paper w, Option.bind_some, pn_lt, hj, if_true, zlet, pn_succ, zb_0, zany_s]
        generalize zany (fun k' => !decide (sFi (S 2) i k k' = sPap (S 2) k k')) j = z
        cases z
        · by_cases e2 : sFi (S 2) i k j = sPap (S 2) k j
          · simp [e2, zb]
          · simp [e2, zb]
        · simp [zb]
      · simp (disch := omega) only [l_X8_rightTable_31_s, b_X8_rightTable_31, p_piles w I, Option.bind_some, Int32.lt_irrefl, if_false, zlet, pn_succ, zb_0, sSame_any, ite_bf]
    · simp (disch := omega) only [l_X8_rightTable_17_s, b_X8_rightTable_17, q_many4 w I, Option.bind_some, Int32.lt_irrefl, if_false]
    · unfold sRt zoi
      cases zff (fun t => sSame (S 2) (sFi (S 2) t k) (sPap (S 2) k)) (sN (S 2) 4) 0 <;> rfl
def sCnA (T : Nat → Int32) (r : Int32) : Int32 := sCnt (fun w => sWin T w r) (sN T 2)
theorem sCnt_small (f : Nat → Bool) : ∀ n, ∃ r, r ≤ n ∧ sCnt f n = Int32.ofNat r ∧ (r = 0 ↔ zany f n = false)
  | 0 => ⟨0, by omega, rfl, by constructor <;> intro _ <;> rfl⟩
  | n + 1 => by
    obtain ⟨r, h1, h2, h3⟩ := sCnt_small f n
    show ∃ r, r ≤ n + 1 ∧ sCnt f n + (if f n = true then 1 else 0) = Int32.ofNat r ∧ (r = 0 ↔ zany f (n + 1) = false)
    rw [zany_s, h2]
    cases f n with
    | true => exact ⟨r + 1, by omega, by rw [if_pos rfl, pn_succ], by simp⟩
    | false => exact ⟨r, by omega, by rw [if_neg (by decide), Int32.add_zero], by simpa using h3⟩
/-- a region is declared: some ward lies in it, and none that isn't declared -/
def sRD (T N : Nat → Int32) (r : Int32) : Bool := decide (0 < sCnA T r) && decide (sUnd T N r = 0)
theorem sRD_eq {T N : Nat → Int32} (I : sI T N) (r : Int32) : sRD T N r = (decide (0 < sCnt (fun w => sWin T w r && (sDecl N (Int32.ofNat w) == true)) (sN T 2)) && decide (sUnd T N r = 0)) := by
  have hd := sI_bd I
  unfold sRD
  by_cases h0 : sUnd T N r = 0
  · rw [decide_eq_true h0, Bool.and_true, Bool.and_true]
    refine congrArg (fun z : Int32 => decide (0 < z)) ?_
    unfold sCnA
    rw [sCnt_eq, sCnt_eq]
    refine zsum_congr (fun w hw => ?_)
    obtain ⟨u, h1, h2, h3⟩ := sCnt_small (fun w => sWin T w r && !sDecl N (Int32.ofNat w)) (sN T 2)
    have h4 : sUnd T N r = Int32.ofNat u := h2
    rw [h4, pn_eq0 (by omega)] at h0
    have h5 := h3.mp h0
    cases hw1 : sWin T w r with
    | false => rfl
    | true =>
      cases hw2 : sDecl N (Int32.ofNat w) with
      | true => rfl
      | false =>
        have : zany (fun w => sWin T w r && !sDecl N (Int32.ofNat w)) (sN T 2) = true := zany_iff.mpr ⟨w, hw, by simp [hw1, hw2]⟩
        rw [h5] at this
        cases this
  · rw [decide_eq_false h0, Bool.and_false, Bool.and_false]
theorem r_isRegionDeclared (K : wK hp c ld hl hi sb p q ea (S 2) (S 4)) (y1 : Int32) : zPR (fun h => f_X7_isRegionDeclared c y1 h) (fun h => f_X8_isRegionDeclared x y1 h) hp x S := by
  have I := hh_I K.2
  have hd := sI_bd I
  refine r_demand (s := 1) (y := y1) (gc := some (some (zb (sRD (S 2) (S 4) y1)))) (gr := fun h => l_X8_isRegionDeclared_19 (fun p8 => if 0 < p8 then ((f_X8_undeclared x y1 h).bind fun v9 => if v9 = 0 then some (1, h) else some (0, h)) else some (0, h)) x y1 h 1000000 0 0) (by omega) ?_ (fun h F w => ?_) (fun k hk e => ⟨_, rfl, fun h w => ?_⟩)
  · simp only [f_X7_isRegionDeclared, k_is K, k_hl K, Option.bind_some, k_dem1 K, H_und K.2, show f_X1_wardsWithin hl y1 1 hp = some (sCnt (fun w => sWin (S 2) w y1 && (sDecl (S 4) (Int32.ofNat w) == true)) (sN (S 2) 2)) from H_within K.2 y1 true, sRD_eq I]
    refine congrArg _ (funext fun _ => ?_)
    by_cases e1 : 0 < sCnt (fun w => sWin (S 2) w y1 && (sDecl (S 4) (Int32.ofNat w) == true)) (sN (S 2) 2)
    · rw [if_pos e1, decide_eq_true e1]
      by_cases e2 : sUnd (S 2) (S 4) y1 = 0
      · rw [if_pos e2, decide_eq_true e2]; rfl
      · rw [if_neg e2, decide_eq_false e2]; rfl
    · rw [if_neg e1, decide_eq_false e1]; rfl
  · simp only [f_X8_isRegionDeclared, wm_is (wMF_M w), q_is1 (wMF_M w) I, Option.bind_some]
  · refine zFA (n := sN (S 2) 2) (sCnt (fun w => sWin (S 2) w y1)) _ (by omega) (fun m i hi => ?_) (fun m => ?_)
    · simp (disch := omega) only [l_X8_isRegionDeclared_19_s, b_X8_isRegionDeclared_19, j_X8_isRegionDeclared_43, q_many2 w I, q_isWardIn w I, Option.bind_some, pn_lt, hi, if_true, zlet, pn_succ, zb_0, sCnt]
      by_cases e1 : sWin (S 2) i y1 = true
      · simp [e1]
      · simp [e1]
    · simp (disch := omega) only [l_X8_isRegionDeclared_19_s, b_X8_isRegionDeclared_19, q_many2 w I, q_und w I, Option.bind_some, Int32.lt_irrefl, if_false]
      show (if 0 < sCnA (S 2) y1 then _ else _) = _
      unfold sRD
      by_cases e1 : 0 < sCnA (S 2) y1
      · rw [if_pos e1, decide_eq_true e1]
        by_cases e2 : sUnd (S 2) (S 4) y1 = 0
        · rw [if_pos e2, decide_eq_true e2]; rfl
        · rw [if_neg e2, decide_eq_false e2]; rfl
      · rw [if_neg e1, decide_eq_false e1]; rfl
theorem r_regionVotes (K : wK hp c ld hl hi sb p q ea (S 2) (S 4)) (y1 y2 : Int32) : zPR (fun h => f_X7_regionVotes c y1 y2 h) (fun h => f_X8_regionVotes x y1 y2 h) hp x S := by
  have I := hh_I K.2
  have hd := sI_bd I
  refine r_demand (s := 1) (y := y1) (gc := if inr y2 (sN (S 2) 0) = true then (f_X1_votesWithin hl y1 y2 hp).bind fun v6 => some (some v6) else some (some (-2))) (gr := fun h => if inr y2 (sN (S 2) 0) = true then l_X8_regionVotes_32 (fun p11 => some (p11, h)) x y1 y2 h 1000000 0 0 else some (-2, h)) (by omega) ?_ (fun h F w => ?_) (fun k hk e => ?_)
  · simp only [f_X7_regionVotes, k_is K, k_hl K, hh_p K.2, Option.bind_some, k_dem1 K, show ∀ y, f_X5_has p 0 y hp = some (zb (inr y (sN (S 2) 0))) from fun y => c_has K.2.2.1 (s := 0) (by decide) y, zb_0, ite_bf]
  · simp only [f_X8_regionVotes, wm_is (wMF_M w), q_is1 (wMF_M w) I, Option.bind_some]
    cases inr y1 (sN (S 2) 1) with
    | true =>
      rw [zb_t, q_chk1 w, zb2_some, zb2_some, if_neg (by decide), if_neg (by decide), q_is0 (wMF_M (wMF_th w 0)) I, Option.bind_some]
      simp only [zb_0, ite_bf]
    | false => rw [zb_f, q_chk0 w, zb2_some, zb2_some, if_pos rfl, if_pos rfl]
  · rcases inr_cases y2 (n := sN (S 2) 0) (by omega) with ⟨j, hj, rfl⟩ | hj
    · have ej := inr_T hj (by omega)
      refine ⟨sRV (S 2) (S 4) y1 j, ?_, fun h w => ?_⟩
      · rw [ej, if_pos rfl, H_votesW K.2 (by omega)]; rfl
      · rw [ej, if_pos rfl]
        refine zFA (n := sN (S 2) 2) (zsum (fun w => if (sWin (S 2) w y1 && sDecl (S 4) (Int32.ofNat w)) = true then sVo (S 2) (S 4) (Int32.ofNat w) j else 0)) _ (by omega) (fun m i hi => ?_) (fun m => ?_)
        · simp (disch := omega) only [l_X8_regionVotes_32_s, b_X8_regionVotes_32, j_X8_regionVotes_72, j_X8_regionVotes_73, q_many2 w I, q_isWardIn w I, p_isDecl w I, q_votes w I, Option.bind_some, pn_lt, hi, if_true, zlet, pn_succ, zb_0, zsum_s]
          by_cases e1 : sWin (S 2) i y1 = true
          · by_cases e2 : sDecl (S 4) (Int32.ofNat i) = true
            · simp [e1, e2]
            · simp [e1, e2]
          · simp [e1]
        · simp (disch := omega) only [l_X8_regionVotes_32_s, b_X8_regionVotes_32, q_many2 w I, Option.bind_some, Int32.lt_irrefl, if_false]
          rfl
    · exact ⟨-2, by rw [hj, if_neg (by decide)], fun h w => by rw [hj, if_neg (by decide)]⟩
theorem r_isDecided (K : wK hp c ld hl hi sb p q ea (S 2) (S 4)) (y1 : Int32) : zPR (fun h => f_X7_isDecided c y1 h) (fun h => f_X8_isDecided x y1 h) hp x S := by
  have I := hh_I K.2
  have hd := sI_bd I
  refine r_demand (s := 1) (y := y1) (gc := l_X7_isDecided_8 (some (some 1)) (some (some 0)) c y1 hp 1000000 0) (gr := fun h => l_X8_isDecided_17 (some (1, h)) (some (0, h)) x y1 h 1000000 0) (by omega) ?_ (fun h F w => ?_) (fun k hk e => ⟨zb (zany (fun k => sBey (S 2) (S 4) y1 (Int32.ofNat k)) (sN (S 2) 0)), ?_, fun h w => ?_⟩)
  · simp only [f_X7_isDecided, k_is K, Option.bind_some, k_dem1 K]
  · simp only [f_X8_isDecided, wm_is (wMF_M w), q_is1 (wMF_M w) I, Option.bind_some]
  · refine (zFC (n := sN (S 2) 0) (fun k => sBey (S 2) (S 4) y1 (Int32.ofNat k)) (some (some 1)) (some (some 0)) (by omega) (fun m i hi => ?_) (fun m => ?_)).trans ?_
    · simp (disch := omega) only [l_X7_isDecided_8_s, b_X7_isDecided_8, k_hl K, hh_p K.2, c_num K.2.2.1, c_n0 K.2.2.1, H_cannot K.2, Option.bind_some, pn_lt, hi, if_true, zlet, pn_succ, zb_0, ite_bf]
    · simp (disch := omega) only [l_X7_isDecided_8_s, b_X7_isDecided_8, k_hl K, hh_p K.2, c_num K.2.2.1, c_n0 K.2.2.1, Option.bind_some, Int32.lt_irrefl, if_false]
    · show (if zany _ _ = true then _ else _) = _
      cases zany (fun k => sBey (S 2) (S 4) y1 (Int32.ofNat k)) (sN (S 2) 0) <;> rfl
  · refine (zFC (n := sN (S 2) 0) (fun k => sBey (S 2) (S 4) y1 (Int32.ofNat k)) (some (1, h)) (some (0, h)) (by omega) (fun m i hi => ?_) (fun m => ?_)).trans ?_
    · simp (disch := omega) only [l_X8_isDecided_17_s, b_X8_isDecided_17, q_many0 w I, q_bey w I, Option.bind_some, pn_lt, hi, if_true, zlet, pn_succ, zb_0, ite_bf]
    · simp (disch := omega) only [l_X8_isDecided_17_s, b_X8_isDecided_17, q_many0 w I, Option.bind_some, Int32.lt_irrefl, if_false]
    · show (if zany _ _ = true then _ else _) = _
      cases zany (fun k => sBey (S 2) (S 4) y1 (Int32.ofNat k)) (sN (S 2) 0) <;> rfl
/-! those that don't throw -/
theorem r_count (K : wK hp c ld hl hi sb p q ea (S 2) (S 4)) (y1 : Int32) : zPP (fun h => f_X7_count c y1 h) (fun h => f_X8_count x y1 h) hp x S := by
  have I := hh_I K.2
  by_cases h0 : y1 < 0
  · refine ⟨-2, ?_, fun h F w => ?_⟩
    · simp only [f_X7_count, k_is K, Option.bind_some, h0, if_true]
    · simp only [f_X8_count, wm_is (wMF_M w), q_th w, Option.bind_some, h0, if_true]
  · by_cases h1 : 4 < y1
    · refine ⟨-2, ?_, fun h F w => ?_⟩
      · simp only [f_X7_count, k_is K, Option.bind_some, h0, h1, if_true, if_false]
      · simp only [f_X8_count, wm_is (wMF_M w), q_th w, Option.bind_some, h0, h1, if_true, if_false]
    · obtain ⟨s, rfl, hs⟩ := pn_pos h0
      have hs5 : s < 5 := by
        rw [show (4 : Int32) = Int32.ofNat 4 from rfl, pn_lt (by decide) hs] at h1
        omega
      refine ⟨Int32.ofNat (sN (S 2) s), ?_, fun h F w => ?_⟩
      · simp (disch := omega) only [f_X7_count, k_is K, k_hl K, hh_p K.2, c_num K.2.2.1, c_n K.2.2.1, Option.bind_some, h0, h1, if_false]
      · have W := wMF_M (wMF_th w 0)
        simp only [f_X8_count, wm_is (wMF_M w), q_th w, Option.bind_some, h0, h1, if_false, p_manyN W I s rfl hs5]
theorem r_named (K : wK hp c ld hl hi sb p q ea (S 2) (S 4)) (y1 y2 : Int32) : zPP (fun h => f_X7_named c y1 y2 h) (fun h => f_X8_named x y1 y2 h) hp x S := by
  have I := hh_I K.2
  by_cases h0 : y1 < 0
  · refine ⟨-2, ?_, fun h F w => ?_⟩
    · simp only [f_X7_named, k_is K, Option.bind_some, h0, if_true]
    · simp only [f_X8_named, wm_is (wMF_M w), q_th w, Option.bind_some, h0, if_true]
  · by_cases h1 : 3 < y1
    · refine ⟨-2, ?_, fun h F w => ?_⟩
      · simp only [f_X7_named, k_is K, Option.bind_some, h0, h1, if_true, if_false]
      · simp only [f_X8_named, wm_is (wMF_M w), q_th w, Option.bind_some, h0, h1, if_true, if_false]
    · obtain ⟨s, rfl, hs⟩ := pn_pos h0
      have hs5 : s < 4 := by
        rw [show (3 : Int32) = Int32.ofNat 3 from rfl, pn_lt (by decide) hs] at h1
        omega
      refine ⟨zoi (zff (fun k => decide (S 2 (zno s + k) = y2)) (sN (S 2) s) 0), ?_, fun h F w => ?_⟩
      · simp only [f_X7_named, k_is K, k_hl K, hh_p K.2, c_find K.2.2.1 I hs5, Option.bind_some, h0, h1, if_false]
      · have W := wMF_M (wMF_th w 0)
        simp only [f_X8_named, wm_is (wMF_M w), q_th w, Option.bind_some, h0, h1, if_false, q_nameFound W I hs5]
theorem wm_now0 (h : wM hp x S) : zaI hp 0 (x + 4) 0 = some (S 4 0) := wm_now h (k := 0) (by decide)
theorem wm_now1 (h : wM hp x S) : zaI hp 0 (x + 4) 1 = some (S 4 1) := wm_now h (k := 1) (by decide)
theorem wm_now2 (h : wM hp x S) : zaI hp 0 (x + 4) 2 = some (S 4 2) := wm_now h (k := 2) (by decide)
theorem wm_now9 (h : wM hp x S) (I : sI (S 2) (S 4)) : zaI hp 0 (x + 4) 9 = some (Int32.ofNat (sD (S 4))) := (wm_now h (k := 9) (by decide)).trans (congrArg some (sI_d I).1)
theorem r_getSetting (K : wK hp c ld hl hi sb p q ea (S 2) (S 4)) (y1 : Int32) : zPP (fun h => f_X7_getSetting c y1 h) (fun h => f_X8_getSetting x y1 h) hp x S := by
  by_cases h0 : y1 = 0
  · subst h0
    refine ⟨S 4 0, ?_, fun h F w => ?_⟩
    · simp only [f_X7_getSetting, f_X7_isSetting, k_is K, k_hl K, hh_q K.2, hs_set K.2, hs_s0 K.2, Option.bind_some, if_true, show ¬ (1 : Int32) = 0 by decide, if_false]
    · have W := wMF_M (wMF_th w 0)
      simp only [f_X8_getSetting, f_X8_isSetting, wm_is (wMF_M w), q_th w, wm_N W, Int32.zero_add, wm_now0 W, Option.bind_some, if_true, show ¬ (1 : Int32) = 0 by decide, if_false]
  · by_cases h1 : y1 = 1
    · subst h1
      refine ⟨S 4 1, ?_, fun h F w => ?_⟩
      · simp only [f_X7_getSetting, f_X7_isSetting, k_is K, k_hl K, hh_q K.2, hs_set K.2, hs_s1 K.2, Option.bind_some, if_true, show ¬ (1 : Int32) = 0 by decide, if_false]
      · have W := wMF_M (wMF_th w 0)
        simp only [f_X8_getSetting, f_X8_isSetting, wm_is (wMF_M w), q_th w, wm_N W, Int32.zero_add, wm_now1 W, Option.bind_some, if_true, show ¬ (1 : Int32) = 0 by decide, if_false]
    · refine ⟨-2, ?_, fun h F w => ?_⟩
      · simp only [f_X7_getSetting, f_X7_isSetting, k_is K, h0, h1, Option.bind_some, if_true, if_false]
      · simp only [f_X8_getSetting, f_X8_isSetting, wm_is (wMF_M w), q_th w, h0, h1, Option.bind_some, if_true, if_false]
theorem r_toCount (K : wK hp c ld hl hi sb p q ea (S 2) (S 4)) : zPP (fun h => f_X7_toCount c h) (fun h => f_X8_toCount x h) hp x S :=
  ⟨sDue (S 2) (S 4), by simp only [f_X7_toCount, k_is K, k_hl K, H_due K.2, Option.bind_some], fun h F w => by
    simp only [f_X8_toCount, wm_is (wMF_M w), q_th w, q_due (wMF_M (wMF_th w 0)) (hh_I K.2), Option.bind_some]⟩
theorem r_nextWard (K : wK hp c ld hl hi sb p q ea (S 2) (S 4)) : zPP (fun h => f_X7_nextWard c h) (fun h => f_X8_nextWard x h) hp x S :=
  ⟨sCome (S 2) (S 4), by simp only [f_X7_nextWard, k_is K, k_hl K, H_next K.2, Option.bind_some], fun h F w => by
    simp only [f_X8_nextWard, wm_is (wMF_M w), q_th w, q_comes (wMF_M (wMF_th w 0)) (hh_I K.2), Option.bind_some]⟩
theorem r_declaredCount (K : wK hp c ld hl hi sb p q ea (S 2) (S 4)) : zPP (fun h => f_X7_declaredCount c h) (fun h => f_X8_declaredCount x h) hp x S :=
  ⟨Int32.ofNat (sD (S 4)), by simp only [f_X7_declaredCount, k_is K, k_hl K, hh_q K.2, hs_dw K.2, Option.bind_some], fun h F w => by
    have W := wMF_M (wMF_th w 0)
    simp only [f_X8_declaredCount, wm_is (wMF_M w), q_th w, wm_N W, wm_now9 W (hh_I K.2), Option.bind_some]⟩
theorem r_declared (K : wK hp c ld hl hi sb p q ea (S 2) (S 4)) (y1 : Int32) : zPP (fun h => f_X7_declared c y1 h) (fun h => f_X8_declared x y1 h) hp x S := by
  have I := hh_I K.2
  have hd := sI_d I
  by_cases h0 : y1 < 0
  · exact ⟨-1, by simp only [f_X7_declared, k_is K, h0, if_true, Option.bind_some], fun h F w => by simp only [f_X8_declared, wm_is (wMF_M w), q_th w, h0, if_true, Option.bind_some]⟩
  · by_cases h1 : y1 < Int32.ofNat (sD (S 4))
    · obtain ⟨k, rfl, hk⟩ := pn_in (by omega) h0 h1
      refine ⟨S 4 (3 + k), ?_, fun h F w => ?_⟩
      · simp (disch := omega) only [f_X7_declared, k_is K, k_hl K, hh_q K.2, hs_dw K.2, hs_ord K.2, hs_oA K.2, h0, h1, if_true, if_false, Option.bind_some]
      · have W := wMF_M (wMF_th w 0)
        simp (disch := omega) only [f_X8_declared, wm_is (wMF_M w), q_th w, wm_N W, wm_now9 W I, h0, h1, if_true, if_false, Option.bind_some, ix3, wm_now W]
    · refine ⟨-1, ?_, fun h F w => ?_⟩
      · simp only [f_X7_declared, k_is K, k_hl K, hh_q K.2, hs_dw K.2, h0, h1, if_false, Option.bind_some]
      · have W := wMF_M (wMF_th w 0)
        simp only [f_X8_declared, wm_is (wMF_M w), q_th w, wm_N W, wm_now9 W I, h0, h1, if_false, Option.bind_some]
theorem r_misplaced (K : wK hp c ld hl hi sb p q ea (S 2) (S 4)) : zPP (fun h => f_X7_misplaced c h) (fun h => f_X8_misplaced x h) hp x S := by
  have I := hh_I K.2
  have hd := sI_bd I
  refine ⟨zsum (sDif (S 2) (S 4)) (sN (S 2) 3) / 2, ?_, fun h F w => ?_⟩
  · simp only [f_X7_misplaced, k_is K, Option.bind_some]
    refine zFA (n := sN (S 2) 3) (zsum (sDif (S 2) (S 4))) _ (by omega) (fun m i hi => ?_) (fun m => ?_)
    · simp (disch := omega) only [l_X7_misplaced_4_s, b_X7_misplaced_4, k_hl K, hh_p K.2, c_num K.2.2.1, c_n3 K.2.2.1, H_diff K.2, Option.bind_some, pn_lt, hi, if_true, zlet, pn_succ, zsum_s]
    · simp (disch := omega) only [l_X7_misplaced_4_s, b_X7_misplaced_4, k_hl K, hh_p K.2, c_num K.2.2.1, c_n3 K.2.2.1, Option.bind_some, Int32.lt_irrefl, if_false, zdiv, show ¬ (2 : Int32) = 0 by decide]
  · have W := wMF_M (wMF_th w 0)
    simp only [f_X8_misplaced, wm_is (wMF_M w), q_th w, Option.bind_some]
    refine zFA (n := sN (S 2) 3) (zsum (sDif (S 2) (S 4))) _ (by omega) (fun m i hi => ?_) (fun m => ?_)
    · have hc := sI_c I hi
      simp (disch := omega) only [l_X8_misplaced_9_s, b_X8_misplaced_9, q_many3 W I, Option.bind_some, pn_lt, hi, if_true, pn_succ, zsum_s]
      by_cases e0 : sC (S 4) i = 0
      · have hp0 : 0 < sPi (S 2) := by omega
        refine zFAe (n := 0) (fun _ => zsum (sDif (S 2) (S 4)) i) _ rfl (by omega) (fun m' j hj => absurd hj (Nat.not_lt_zero j)) (fun m' => ?_)
        simp (disch := omega) only [l_X8_misplaced_20_s, b_X8_misplaced_20, p_piles W I, q_wasC W I, e0, Nat.lt_irrefl, decide_false, zb_f, pn_lt, hp0, if_true, Option.bind_some, zlet, pn_succ, sDif, Int32.add_zero]
      · have e1 : 0 < sC (S 4) i := by omega
        refine zFAe (n := sPi (S 2)) (fun j => zsum (sDif (S 2) (S 4)) i + zsum (fun k => zabs (sVal (S 2) (S 4) i k - sPap (S 2) i k)) j) _ (Int32.add_zero _) (by omega) (fun m' j hj => ?_) (fun m' => ?_)
        · simp (disch := omega) only [l_X8_misplaced_20_s, b_X8_misplaced_20, p_piles W I, q_wasC W I, e1, decide_true, zb_t, show ¬ (1 : Int32) = 0 by decide, if_false, q_valid W I, p_paper W, Option.bind_some, pn_lt, hj, if_true, zlet, pn_succ, zsum_s, Int32.add_assoc]
        · simp (disch := omega) only [l_X8_misplaced_20_s, b_X8_misplaced_20, p_piles W I, Option.bind_some, Int32.lt_irrefl, if_false, zlet, pn_succ, sDif, e0]
    · simp (disch := omega) only [l_X8_misplaced_9_s, b_X8_misplaced_9, q_many3 W I, Option.bind_some, Int32.lt_irrefl, if_false, zdiv, show ¬ (2 : Int32) = 0 by decide]
theorem r_worstTable (K : wK hp c ld hl hi sb p q ea (S 2) (S 4)) : zPP (fun h => f_X7_worstTable c h) (fun h => f_X8_worstTable x h) hp x S := by
  have I := hh_I K.2
  have hd := sI_bd I
  refine ⟨(sBM (fun t => sWC (S 2) (S 4) (Int32.ofNat t)) (sN (S 2) 4)).1, ?_, fun h F w => ?_⟩
  · simp only [f_X7_worstTable, k_is K, Option.bind_some]
    refine zFB (n := sN (S 2) 4) (fun i => (sBM (fun t => sWC (S 2) (S 4) (Int32.ofNat t)) i).1) (fun i => (sBM (fun t => sWC (S 2) (S 4) (Int32.ofNat t)) i).2) _ (by omega) (fun m i hi => ?_) (fun m => ?_)
    · simp (disch := omega) only [l_X7_worstTable_6_s, b_X7_worstTable_6, k_hl K, hh_p K.2, c_num K.2.2.1, c_n4 K.2.2.1, H_wrongAt K.2, Option.bind_some, pn_lt, hi, if_true, zlet, pn_succ, sBM, zmax]
      by_cases e : (sBM (fun t => sWC (S 2) (S 4) (Int32.ofNat t)) i).2 < sWC (S 2) (S 4) (Int32.ofNat i)
      · simp only [e, if_true]
      · simp only [e, if_false]
    · simp (disch := omega) only [l_X7_worstTable_6_s, b_X7_worstTable_6, k_hl K, hh_p K.2, c_num K.2.2.1, c_n4 K.2.2.1, Option.bind_some, Int32.lt_irrefl, if_false]
  · have W := wMF_M (wMF_th w 0)
    simp only [f_X8_worstTable, wm_is (wMF_M w), q_th w, Option.bind_some]
    refine zFB (n := sN (S 2) 4) (fun i => (sBM (fun t => sWC (S 2) (S 4) (Int32.ofNat t)) i).1) (fun i => (sBM (fun t => sWC (S 2) (S 4) (Int32.ofNat t)) i).2) _ (by omega) (fun m i hi => ?_) (fun m => ?_)
    · simp (disch := omega) only [l_X8_worstTable_11_s, b_X8_worstTable_11, q_many4 W I, Option.bind_some, pn_lt, hi, if_true, pn_succ]
      refine zFA (n := sN (S 2) 3) (zsum (fun b => sWB (S 2) (S 4) (Int32.ofNat i) b)) _ (by omega) (fun m' b hb => ?_) (fun m' => ?_)
      · have hcc := sI_c I hb
        simp (disch := omega) only [l_X8_worstTable_26_s, b_X8_worstTable_26, q_many3 W I, Option.bind_some, pn_lt, hb, if_true, pn_succ, zsum_s]
        refine zFAe (n := sC (S 4) b) (fun j => zsum (fun b => sWB (S 2) (S 4) (Int32.ofNat i) b) b + zsum (fun c => if (decide (sF (S 4) b (16 + c) = Int32.ofNat i) && sWr (S 2) (S 4) b c) = true then 1 else 0) j) _ (Int32.add_zero _) (by omega) (fun m'' j hj => ?_) (fun m'' => ?_)
        · simp (disch := omega) only [l_X8_worstTable_39_s, b_X8_worstTable_39, j_X8_worstTable_83, j_X8_worstTable_84, q_of3 W I, ix16, q_of W, q_isWrong W I, Option.bind_some, pn_lt, hj, if_true, zlet, pn_succ, zsum_s, zb_0]
          by_cases e : sF (S 4) b (16 + j) = Int32.ofNat i
          · by_cases e2 : sWr (S 2) (S 4) b j = true
            · simp [e, e2, Int32.add_assoc]
            · simp [e, e2, Int32.add_assoc]
          · simp [e, Int32.add_assoc]
        · simp (disch := omega) only [l_X8_worstTable_39_s, b_X8_worstTable_39, q_of3 W I, Option.bind_some, Int32.lt_irrefl, if_false, zlet, zsum_s, sWB, pn_succ]
      · simp (disch := omega) only [l_X8_worstTable_26_s, b_X8_worstTable_26, j_X8_worstTable_110, q_many3 W I, Option.bind_some, Int32.lt_irrefl, if_false, zlet, pn_succ, sBM]
        show (if (sBM (fun t => sWC (S 2) (S 4) (Int32.ofNat t)) i).2 < sWC (S 2) (S 4) (Int32.ofNat i) then _ else _) = _
        by_cases e : (sBM (fun t => sWC (S 2) (S 4) (Int32.ofNat t)) i).2 < sWC (S 2) (S 4) (Int32.ofNat i)
        · rw [if_pos e, if_pos e]; rfl
        · rw [if_neg e, if_neg e]; rfl
    · simp (disch := omega) only [l_X8_worstTable_11_s, b_X8_worstTable_11, q_many4 W I, Option.bind_some, Int32.lt_irrefl, if_false]
end P39
