/-! PURE: the public methods that only read: class and reference answer alike -/
section P38
def inr (y : Int32) (n : Nat) : Bool := !decide (y < 0) && decide (y < Int32.ofNat n)
theorem inr_T {k n : Nat} (hk : k < n) (hn : n < 2147483648) : inr (Int32.ofNat k) n = true := by
  unfold inr
  simp (disch := omega) [pn_negF, pn_lt, hk]
theorem inr_cases (y : Int32) {n : Nat} (hn : n < 2147483648) : (∃ k, k < n ∧ y = Int32.ofNat k) ∨ inr y n = false := by
  by_cases h0 : y < 0
  · exact Or.inr (by unfold inr; simp [h0])
  · by_cases h1 : y < Int32.ofNat n
    · obtain ⟨k, e, hk⟩ := pn_in hn h0 h1
      exact Or.inl ⟨k, hk, e⟩
    · exact Or.inr (by unfold inr; simp [h1])
/-- the reference with its field 'thrown' set -/
def zth (hp : zHp) (x : Nat) (F : Nat → Int32) (v : Int32) : zHp := zup hp x (.inr (8, zMf x (upd F 0 v)))
variable {hp : zHp} {c ld hl hi sb p q x a b : Nat} {ea : Int32} {T N F : Nat → Int32} {S : Nat → Nat → Int32}
theorem wMF_th (h : wMF hp x F S) (v : Int32) : wMF (zth hp x F v) x (upd F 0 v) S := by
  refine ⟨zup_eq _ _ _, fun j h1 h2 => ?_⟩
  rw [show zth hp x F v (x + j) = hp (x + j) from zup_ne (by omega)]
  exact h.2 j h1 h2
theorem wMF_M (h : wMF hp x F S) : wM hp x S := ⟨F, h⟩
theorem q_th (h : wMF hp x F S) (v : Int32) : zpV hp x 8 0 (.int v) = some (zth hp x F v) := by
  rw [po_V h.1 (show 0 < 21 by decide)]
  rfl
theorem q_thr (h : wMF hp x F S) : f_X8_thrown x hp = some (F 0) := by
  simp only [f_X8_thrown, wm_is (wMF_M h), Option.bind_some]
  rw [show zgI hp x 8 0 = some (F 0) from po_I h.1 rfl]
  rfl
theorem q_thr' (h : wMF hp x F S) (v : Int32) : f_X8_thrown x (zth hp x F v) = some v := by
  rw [q_thr (wMF_th h v)]
  rfl
theorem q_chk1 (h : wMF hp x F S) : f_X8_checks x 1 hp = some (1, zth hp x F 0) := by
  simp only [f_X8_checks, wm_is (wMF_M h), Option.bind_some, q_th h]
  rfl
theorem q_chk0 (h : wMF hp x F S) : f_X8_checks x 0 hp = some (0, zth hp x F 1) := by
  simp only [f_X8_checks, wm_is (wMF_M h), Option.bind_some, q_th h]
  rfl
theorem q_is0 (h : wM hp x S) (I : sI (S 2) (S 4)) (y : Int32) : f_X8_is x 0 y hp = some (zb (inr y (sN (S 2) 0))) := by
  simp only [f_X8_is, wm_is h, Option.bind_some, q_many0 h I, ite_some_zbP]
  unfold inr
  by_cases e : y < 0
  · simp [e, zb]
  · simp [e]
theorem q_is1 (h : wM hp x S) (I : sI (S 2) (S 4)) (y : Int32) : f_X8_is x 1 y hp = some (zb (inr y (sN (S 2) 1))) := by
  simp only [f_X8_is, wm_is h, Option.bind_some, q_many1 h I, ite_some_zbP]
  unfold inr
  by_cases e : y < 0
  · simp [e, zb]
  · simp [e]
theorem q_is2 (h : wM hp x S) (I : sI (S 2) (S 4)) (y : Int32) : f_X8_is x 2 y hp = some (zb (inr y (sN (S 2) 2))) := by
  simp only [f_X8_is, wm_is h, Option.bind_some, q_many2 h I, ite_some_zbP]
  unfold inr
  by_cases e : y < 0
  · simp [e, zb]
  · simp [e]
theorem q_is3 (h : wM hp x S) (I : sI (S 2) (S 4)) (y : Int32) : f_X8_is x 3 y hp = some (zb (inr y (sN (S 2) 3))) := by
  simp only [f_X8_is, wm_is h, Option.bind_some, q_many3 h I, ite_some_zbP]
  unfold inr
  by_cases e : y < 0
  · simp [e, zb]
  · simp [e]
theorem q_is4 (h : wM hp x S) (I : sI (S 2) (S 4)) (y : Int32) : f_X8_is x 4 y hp = some (zb (inr y (sN (S 2) 4))) := by
  simp only [f_X8_is, wm_is h, Option.bind_some, q_many4 h I, ite_some_zbP]
  unfold inr
  by_cases e : y < 0
  · simp [e, zb]
  · simp [e]
theorem q_isPile (h : wM hp x S) (I : sI (S 2) (S 4)) (y : Int32) : f_X8_isPile x y hp = some (zb (inr y (sPi (S 2)))) := by
  simp only [f_X8_isPile, wm_is h, Option.bind_some, p_piles h I, ite_some_zbP]
  unfold inr
  by_cases e : y < 0
  · simp [e, zb]
  · simp [e]
theorem c_hasPile (h : wPl hp p T) (y : Int32) : f_X5_hasPile p y hp = some (zb (inr y (sPi T))) := by
  simp only [f_X5_hasPile, c_is5 h, Option.bind_some, c_piles h, ite_some_zbP]
  unfold inr
  by_cases e : y < 0
  · simp [e, zb]
  · simp [e]
theorem zb2_some {α β γ : Type} (a : α) (b : β) (k : α → β → Option γ) : zb2 (some (a, b)) k = k a b := rfl
theorem zbx_some {α β : Type} (a : α) (k : α → Option (Option β)) : zbx (some (some a)) k = k a := rfl
theorem zbx_none {α β : Type} (k : α → Option (Option β)) : zbx (some none) k = some none := rfl
theorem zrNp_b (b : Bool) : zrNp .boolean (zb b) = some (zb b) := by cases b <;> rfl
/-- the class's own object, and its hall -/
def wK (hp : zHp) (c ld hl hi sb p q : Nat) (ea : Int32) (T N : Nat → Int32) : Prop := hp c = some (.inr (7, [.ref ld, .ref hl, .ref hi, .ref sb, .int ea])) ∧ wH hp hl p q T N
theorem k_is (K : wK hp c ld hl hi sb p q ea T N) : zis hp c 7 = some () := po_is K.1
theorem k_hl (K : wK hp c ld hl hi sb p q ea T N) : zgR hp c 7 1 = some hl := po_R K.1 rfl
theorem k_hi (K : wK hp c ld hl hi sb p q ea T N) : zgR hp c 7 2 = some hi := po_R K.1 rfl
theorem k_ld (K : wK hp c ld hl hi sb p q ea T N) : zgR hp c 7 0 = some ld := po_R K.1 rfl
theorem k_sb (K : wK hp c ld hl hi sb p q ea T N) : zgR hp c 7 3 = some sb := po_R K.1 rfl
theorem k_ea (K : wK hp c ld hl hi sb p q ea T N) : zgI hp c 7 4 = some ea := po_I K.1 rfl
theorem k_dem1 (K : wK hp c ld hl hi sb p q ea T N) (y : Int32) : f_X7_demand c 1 y hp = if inr y (sN T 1) = true then some (some ()) else some none := by
  simp only [f_X7_demand, k_is K, k_hl K, hh_p K.2, Option.bind_some, show f_X5_has p 1 y hp = some (zb (inr y (sN T 1))) from c_has K.2.2.1 (s := 1) (by decide) y, zb_0, ite_bf]
theorem k_dem2 (K : wK hp c ld hl hi sb p q ea T N) (y : Int32) : f_X7_demand c 2 y hp = if inr y (sN T 2) = true then some (some ()) else some none := by
  simp only [f_X7_demand, k_is K, k_hl K, hh_p K.2, Option.bind_some, show f_X5_has p 2 y hp = some (zb (inr y (sN T 2))) from c_has K.2.2.1 (s := 2) (by decide) y, zb_0, ite_bf]
theorem k_dem3 (K : wK hp c ld hl hi sb p q ea T N) (y : Int32) : f_X7_demand c 3 y hp = if inr y (sN T 3) = true then some (some ()) else some none := by
  simp only [f_X7_demand, k_is K, k_hl K, hh_p K.2, Option.bind_some, show f_X5_has p 3 y hp = some (zb (inr y (sN T 3))) from c_has K.2.2.1 (s := 3) (by decide) y, zb_0, ite_bf]
theorem k_dem4 (K : wK hp c ld hl hi sb p q ea T N) (y : Int32) : f_X7_demand c 4 y hp = if inr y (sN T 4) = true then some (some ()) else some none := by
  simp only [f_X7_demand, k_is K, k_hl K, hh_p K.2, Option.bind_some, show f_X5_has p 4 y hp = some (zb (inr y (sN T 4))) from c_has K.2.2.1 (s := 4) (by decide) y, zb_0, ite_bf]
/-- a method that throws or reads: class and reference -/
def zPR (fc : zHp → Option (Option Int32)) (fr : zHp → Option (Int32 × zHp)) (hp : zHp) (x : Nat) (S : Nat → Nat → Int32) : Prop :=
  (fc hp = some none ∧ ∃ b, ∀ h F, wMF h x F S → fr h = some (b, zth h x F 1)) ∨ ∃ v, fc hp = some (some v) ∧ ∀ h F, wMF h x F S → fr h = some (v, zth h x F 0)
/-- a method that only reads -/
def zPP (fc : zHp → Option Int32) (fr : zHp → Option (Int32 × zHp)) (hp : zHp) (x : Nat) (S : Nat → Nat → Int32) : Prop := ∃ v, fc hp = some v ∧ ∀ h F, wMF h x F S → fr h = some (v, zth h x F 0)
theorem q_nameFound (h : wM hp x S) (I : sI (S 2) (S 4)) {s : Nat} (hs : s < 4) (y : Int32) : f_X8_nameFound x (Int32.ofNat s) y hp = some (zoi (zff (fun k => decide (S 2 (zno s + k) = y)) (sN (S 2) s) 0)) := by
  have hd := sI_bd I
  have hb := sI_b I (s := s) (by omega)
  have e5 : f_X8_nameAt (Int32.ofNat s) hp = some (Int32.ofNat (zno s)) := by
    rcases (show s = 0 ∨ s = 1 ∨ s = 2 ∨ s = 3 by omega) with rfl | rfl | rfl | rfl <;> rfl
  have em : f_X8_many x (Int32.ofNat s) hp = some (Int32.ofNat (sN (S 2) s)) := p_manyN h I s rfl (by omega)
  have hz : zno s + sN (S 2) s ≤ 144 := by
    rcases (show s = 0 ∨ s = 1 ∨ s = 2 ∨ s = 3 by omega) with rfl | rfl | rfl | rfl <;> simp only [zno] <;> simp <;> omega
  simp only [f_X8_nameFound, wm_is h, Option.bind_some]
  refine (zF (n := sN (S 2) s) (fun k => decide (S 2 (zno s + k) = y)) (fun k => some (Int32.ofNat k)) (some (-1)) (by omega) (fun m i hi => ?_) (fun m => ?_)).trans ?_
  · simp (disch := omega) only [l_X8_nameFound_2_s, b_X8_nameFound_2, em, e5, wm_T h, ixa, wm_told h, Option.bind_some, pn_lt, hi, if_true, zlet, pn_succ, decide_eq_true_eq]
  · simp (disch := omega) only [l_X8_nameFound_2_s, b_X8_nameFound_2, em, Option.bind_some, Int32.lt_irrefl, if_false]
  · unfold zoi
    cases zff (fun k => decide (S 2 (zno s + k) = y)) (sN (S 2) s) 0 <;> rfl
theorem c_find (h : wPl hp p T) (I : sI T N) {s : Nat} (hs : s < 4) (y : Int32) : f_X5_find p (Int32.ofNat s) y hp = some (zoi (zff (fun k => decide (T (zno s + k) = y)) (sN T s) 0)) := by
  have hb := sI_b I (s := s) (by omega)
  simp only [f_X5_find, c_is5 h, Option.bind_some]
  refine (zF (n := sN T s) (fun k => decide (T (zno s + k) = y)) (fun k => some (Int32.ofNat k)) (some (-1)) (by omega) (fun m i hi => ?_) (fun m => ?_)).trans ?_
  · simp (disch := omega) only [l_X5_find_2_s, b_X5_find_2, c_num h, c_n h, c_names h, c_namesR h, c_namesA h I, Option.bind_some, pn_lt, hi, if_true, zlet, pn_succ, decide_eq_true_eq]
  · simp (disch := omega) only [l_X5_find_2_s, b_X5_find_2, c_num h, c_n h, Option.bind_some, Int32.lt_irrefl, if_false]
  · unfold zoi
    cases zff (fun k => decide (T (zno s + k) = y)) (sN T s) 0 <;> rfl
theorem c_truth (h : wPl hp p T) (I : sI T N) {t b : Nat} (ht : t < sN T 4) (hb : b < sN T 3) : f_X5_wouldFindTruth p (Int32.ofNat t) (Int32.ofNat b) hp = some (zb (sSame T (sFi T t b) (sPap T b))) := by
  have hd := sI_bd I
  simp only [f_X5_wouldFindTruth, c_is5 h, Option.bind_some]
  refine (zFC (n := sPi T) (fun k => !decide (sFi T t b k = sPap T b k)) (some 0) (some 1) (by omega) (fun m i hi => ?_) (fun m => ?_)).trans ?_
  · simp (disch := omega) only [l_X5_wouldFindTruth_2_s, b_X5_wouldFindTruth_2, c_piles h, c_wouldFind h I, c_papers h, c_papersR h, c_papersA h I, Option.bind_some, pn_lt, hi, if_true, zlet, pn_succ]
    by_cases e : sFi T t b i = sPap T b i
    · simp [e]
    · simp [e]
  · simp (disch := omega) only [l_X5_wouldFindTruth_2_s, b_X5_wouldFindTruth_2, c_piles h, Option.bind_some, Int32.lt_irrefl, if_false]
  · unfold sSame
    cases zff (fun k => !decide (sFi T t b k = sPap T b k)) (sPi T) 0 <;> rfl

theorem ite_zbp (b : Bool) (h : zHp) : (if b = true then some ((1 : Int32), h) else some (0, h)) = some (zb b, h) := by cases b <;> rfl
theorem zCfp (o : Option Nat) (h : zHp) : (if o.isNone = true then some ((0 : Int32), h) else some (1, h)) = some (zb o.isSome, h) := by cases o <;> rfl
theorem r_regionAround (K : wK hp c ld hl hi sb p q ea (S 2) (S 4)) (y1 : Int32) : zPR (fun h => f_X7_regionAround c y1 h) (fun h => f_X8_regionAround x y1 h) hp x S := by
  have I := hh_I K.2
  have hd := sI_bd I
  rcases inr_cases y1 (n := sN (S 2) 1) (by omega) with ⟨k, hk, rfl⟩ | hout
  · have ek := inr_T hk (by omega)
    refine Or.inr ⟨(S 2 (33 + k)), ?_, fun h F w => ?_⟩
    · simp (disch := omega) only [f_X7_regionAround, k_dem1 K, ek, k_is K, k_hl K, hh_p K.2, hh_q K.2, zbx_some, zbx_none, Option.bind_some, zb_0, ite_bf, if_true, if_false, Bool.false_eq_true, zrNp_b, c_around K.2.2.1, c_aroundA K.2.2.1 I]
    · have W := wMF_M (wMF_th w 0)
      have hq : f_X8_is x 1 (Int32.ofNat k) h = some 1 := by rw [q_is1 (wMF_M w) I, ek]; rfl
      simp (disch := omega) only [f_X8_regionAround, hq, wm_is (wMF_M w), zb2_some, Option.bind_some, zb_t, zb_f, zb_0, q_chk1 w, q_chk0 w, if_true, if_false, ite_bf, Bool.false_eq_true, show ¬ (1 : Int32) = 0 by decide, wm_T W, ix33, wm_told W]
  · refine Or.inl ⟨?_, 0, fun h F w => ?_⟩
    · simp only [f_X7_regionAround, k_dem1 K, hout, k_is K, k_hl K, hh_p K.2, hh_q K.2, zbx_some, zbx_none, Option.bind_some, zb_0, ite_bf, if_true, if_false, Bool.false_eq_true, zrNp_b]
    · have hq : f_X8_is x 1 y1 h = some 0 := by rw [q_is1 (wMF_M w) I, hout]; rfl
      simp only [f_X8_regionAround, hq, wm_is (wMF_M w), zb2_some, Option.bind_some, zb_t, zb_f, zb_0, q_chk1 w, q_chk0 w, if_true, if_false, ite_bf, Bool.false_eq_true, show ¬ (1 : Int32) = 0 by decide]
theorem r_regionOf (K : wK hp c ld hl hi sb p q ea (S 2) (S 4)) (y1 : Int32) : zPR (fun h => f_X7_regionOf c y1 h) (fun h => f_X8_regionOf x y1 h) hp x S := by
  have I := hh_I K.2
  have hd := sI_bd I
  rcases inr_cases y1 (n := sN (S 2) 2) (by omega) with ⟨k, hk, rfl⟩ | hout
  · have ek := inr_T hk (by omega)
    refine Or.inr ⟨(S 2 (38 + k)), ?_, fun h F w => ?_⟩
    · simp (disch := omega) only [f_X7_regionOf, k_dem2 K, ek, k_is K, k_hl K, hh_p K.2, hh_q K.2, zbx_some, zbx_none, Option.bind_some, zb_0, ite_bf, if_true, if_false, Bool.false_eq_true, zrNp_b, c_regions K.2.2.1, c_regionsA K.2.2.1 I]
    · have W := wMF_M (wMF_th w 0)
      have hq : f_X8_is x 2 (Int32.ofNat k) h = some 1 := by rw [q_is2 (wMF_M w) I, ek]; rfl
      simp (disch := omega) only [f_X8_regionOf, hq, wm_is (wMF_M w), zb2_some, Option.bind_some, zb_t, zb_f, zb_0, q_chk1 w, q_chk0 w, if_true, if_false, ite_bf, Bool.false_eq_true, show ¬ (1 : Int32) = 0 by decide, wm_T W, ix38, wm_told W]
  · refine Or.inl ⟨?_, 0, fun h F w => ?_⟩
    · simp only [f_X7_regionOf, k_dem2 K, hout, k_is K, k_hl K, hh_p K.2, hh_q K.2, zbx_some, zbx_none, Option.bind_some, zb_0, ite_bf, if_true, if_false, Bool.false_eq_true, zrNp_b]
    · have hq : f_X8_is x 2 y1 h = some 0 := by rw [q_is2 (wMF_M w) I, hout]; rfl
      simp only [f_X8_regionOf, hq, wm_is (wMF_M w), zb2_some, Option.bind_some, zb_t, zb_f, zb_0, q_chk1 w, q_chk0 w, if_true, if_false, ite_bf, Bool.false_eq_true, show ¬ (1 : Int32) = 0 by decide]
theorem r_placeOf (K : wK hp c ld hl hi sb p q ea (S 2) (S 4)) (y1 : Int32) : zPR (fun h => f_X7_placeOf c y1 h) (fun h => f_X8_placeOf x y1 h) hp x S := by
  have I := hh_I K.2
  have hd := sI_bd I
  rcases inr_cases y1 (n := sN (S 2) 3) (by omega) with ⟨k, hk, rfl⟩ | hout
  · have ek := inr_T hk (by omega)
    refine Or.inr ⟨(sF (S 4) k 0), ?_, fun h F w => ?_⟩
    · simp (disch := omega) only [f_X7_placeOf, k_dem3 K, ek, k_is K, k_hl K, hh_p K.2, hh_q K.2, zbx_some, zbx_none, Option.bind_some, zb_0, ite_bf, if_true, if_false, Bool.false_eq_true, zrNp_b, hs_bx K.2, hs_box K.2, k_place K.2]
    · have W := wMF_M (wMF_th w 0)
      have hq : f_X8_is x 3 (Int32.ofNat k) h = some 1 := by rw [q_is3 (wMF_M w) I, ek]; rfl
      simp (disch := omega) only [f_X8_placeOf, hq, wm_is (wMF_M w), zb2_some, Option.bind_some, zb_t, zb_f, zb_0, q_chk1 w, q_chk0 w, if_true, if_false, ite_bf, Bool.false_eq_true, show ¬ (1 : Int32) = 0 by decide, q_of0 W]
  · refine Or.inl ⟨?_, 0, fun h F w => ?_⟩
    · simp only [f_X7_placeOf, k_dem3 K, hout, k_is K, k_hl K, hh_p K.2, hh_q K.2, zbx_some, zbx_none, Option.bind_some, zb_0, ite_bf, if_true, if_false, Bool.false_eq_true, zrNp_b]
    · have hq : f_X8_is x 3 y1 h = some 0 := by rw [q_is3 (wMF_M w) I, hout]; rfl
      simp only [f_X8_placeOf, hq, wm_is (wMF_M w), zb2_some, Option.bind_some, zb_t, zb_f, zb_0, q_chk1 w, q_chk0 w, if_true, if_false, ite_bf, Bool.false_eq_true, show ¬ (1 : Int32) = 0 by decide]
theorem r_papers (K : wK hp c ld hl hi sb p q ea (S 2) (S 4)) (y1 y2 : Int32) : zPR (fun h => f_X7_papers c y1 y2 h) (fun h => f_X8_papers x y1 y2 h) hp x S := by
  have I := hh_I K.2
  have hd := sI_bd I
  rcases inr_cases y1 (n := sN (S 2) 3) (by omega) with ⟨k, hk, rfl⟩ | hout
  · have ek := inr_T hk (by omega)
    rcases inr_cases y2 (n := sPi (S 2)) (by omega) with ⟨j, hj, rfl⟩ | hj
    · have ej := inr_T hj (by omega)
      refine Or.inr ⟨(sPap (S 2) k j), ?_, fun h F w => ?_⟩
      · simp (disch := omega) only [f_X7_papers, k_dem3 K, ek, k_is K, k_hl K, hh_p K.2, hh_q K.2, zbx_some, zbx_none, Option.bind_some, zb_0, ite_bf, if_true, if_false, Bool.false_eq_true, zrNp_b, c_hasPile K.2.2.1, c_papers K.2.2.1, c_papersR K.2.2.1, c_papersA K.2.2.1 I, ej]
      · have W := wMF_M (wMF_th w 0)
        have hq : f_X8_is x 3 (Int32.ofNat k) h = some 1 := by rw [q_is3 (wMF_M w) I, ek]; rfl
        simp (disch := omega) only [f_X8_papers, hq, wm_is (wMF_M w), zb2_some, Option.bind_some, zb_t, zb_f, zb_0, q_chk1 w, q_chk0 w, if_true, if_false, ite_bf, Bool.false_eq_true, show ¬ (1 : Int32) = 0 by decide, q_isPile W I, p_paper W, ej]
    · refine Or.inr ⟨(-2), ?_, fun h F w => ?_⟩
      · simp (disch := omega) only [f_X7_papers, k_dem3 K, ek, k_is K, k_hl K, hh_p K.2, hh_q K.2, zbx_some, zbx_none, Option.bind_some, zb_0, ite_bf, if_true, if_false, Bool.false_eq_true, zrNp_b, c_hasPile K.2.2.1, c_papers K.2.2.1, c_papersR K.2.2.1, c_papersA K.2.2.1 I, hj]
      · have W := wMF_M (wMF_th w 0)
        have hq : f_X8_is x 3 (Int32.ofNat k) h = some 1 := by rw [q_is3 (wMF_M w) I, ek]; rfl
        simp (disch := omega) only [f_X8_papers, hq, wm_is (wMF_M w), zb2_some, Option.bind_some, zb_t, zb_f, zb_0, q_chk1 w, q_chk0 w, if_true, if_false, ite_bf, Bool.false_eq_true, show ¬ (1 : Int32) = 0 by decide, q_isPile W I, p_paper W, hj]
  · refine Or.inl ⟨?_, 0, fun h F w => ?_⟩
    · simp only [f_X7_papers, k_dem3 K, hout, k_is K, k_hl K, hh_p K.2, hh_q K.2, zbx_some, zbx_none, Option.bind_some, zb_0, ite_bf, if_true, if_false, Bool.false_eq_true, zrNp_b]
    · have hq : f_X8_is x 3 y1 h = some 0 := by rw [q_is3 (wMF_M w) I, hout]; rfl
      simp only [f_X8_papers, hq, wm_is (wMF_M w), zb2_some, Option.bind_some, zb_t, zb_f, zb_0, q_chk1 w, q_chk0 w, if_true, if_false, ite_bf, Bool.false_eq_true, show ¬ (1 : Int32) = 0 by decide]
theorem r_isSealGood (K : wK hp c ld hl hi sb p q ea (S 2) (S 4)) (y1 : Int32) : zPR (fun h => f_X7_isSealGood c y1 h) (fun h => f_X8_isSealGood x y1 h) hp x S := by
  have I := hh_I K.2
  have hd := sI_bd I
  rcases inr_cases y1 (n := sN (S 2) 3) (by omega) with ⟨k, hk, rfl⟩ | hout
  · have ek := inr_T hk (by omega)
    refine Or.inr ⟨(zb (sGood (S 4) k)), ?_, fun h F w => ?_⟩
    · simp (disch := omega) only [f_X7_isSealGood, k_dem3 K, ek, k_is K, k_hl K, hh_p K.2, hh_q K.2, zbx_some, zbx_none, Option.bind_some, zb_0, ite_bf, if_true, if_false, Bool.false_eq_true, zrNp_b, hs_bx K.2, hs_box K.2, k_good K.2]
    · have W := wMF_M (wMF_th w 0)
      have hq : f_X8_is x 3 (Int32.ofNat k) h = some 1 := by rw [q_is3 (wMF_M w) I, ek]; rfl
      simp (disch := omega) only [f_X8_isSealGood, hq, wm_is (wMF_M w), zb2_some, Option.bind_some, zb_t, zb_f, zb_0, q_chk1 w, q_chk0 w, if_true, if_false, ite_bf, Bool.false_eq_true, show ¬ (1 : Int32) = 0 by decide, p_isGood W I, ite_zbp]
  · refine Or.inl ⟨?_, 0, fun h F w => ?_⟩
    · simp only [f_X7_isSealGood, k_dem3 K, hout, k_is K, k_hl K, hh_p K.2, hh_q K.2, zbx_some, zbx_none, Option.bind_some, zb_0, ite_bf, if_true, if_false, Bool.false_eq_true, zrNp_b]
    · have hq : f_X8_is x 3 y1 h = some 0 := by rw [q_is3 (wMF_M w) I, hout]; rfl
      simp only [f_X8_isSealGood, hq, wm_is (wMF_M w), zb2_some, Option.bind_some, zb_t, zb_f, zb_0, q_chk1 w, q_chk0 w, if_true, if_false, ite_bf, Bool.false_eq_true, show ¬ (1 : Int32) = 0 by decide]
theorem r_ledgerSize (K : wK hp c ld hl hi sb p q ea (S 2) (S 4)) (y1 : Int32) : zPR (fun h => f_X7_ledgerSize c y1 h) (fun h => f_X8_ledgerSize x y1 h) hp x S := by
  have I := hh_I K.2
  have hd := sI_bd I
  rcases inr_cases y1 (n := sN (S 2) 3) (by omega) with ⟨k, hk, rfl⟩ | hout
  · have ek := inr_T hk (by omega)
    refine Or.inr ⟨(Int32.ofNat (sE (S 4) k)), ?_, fun h F w => ?_⟩
    · simp (disch := omega) only [f_X7_ledgerSize, k_dem3 K, ek, k_is K, k_hl K, hh_p K.2, hh_q K.2, zbx_some, zbx_none, Option.bind_some, zb_0, ite_bf, if_true, if_false, Bool.false_eq_true, zrNp_b, hs_bx K.2, hs_box K.2, k_ent K.2]
    · have W := wMF_M (wMF_th w 0)
      have hq : f_X8_is x 3 (Int32.ofNat k) h = some 1 := by rw [q_is3 (wMF_M w) I, ek]; rfl
      simp (disch := omega) only [f_X8_ledgerSize, hq, wm_is (wMF_M w), zb2_some, Option.bind_some, zb_t, zb_f, zb_0, q_chk1 w, q_chk0 w, if_true, if_false, ite_bf, Bool.false_eq_true, show ¬ (1 : Int32) = 0 by decide, q_of2 W I]
  · refine Or.inl ⟨?_, 0, fun h F w => ?_⟩
    · simp only [f_X7_ledgerSize, k_dem3 K, hout, k_is K, k_hl K, hh_p K.2, hh_q K.2, zbx_some, zbx_none, Option.bind_some, zb_0, ite_bf, if_true, if_false, Bool.false_eq_true, zrNp_b]
    · have hq : f_X8_is x 3 y1 h = some 0 := by rw [q_is3 (wMF_M w) I, hout]; rfl
      simp only [f_X8_ledgerSize, hq, wm_is (wMF_M w), zb2_some, Option.bind_some, zb_t, zb_f, zb_0, q_chk1 w, q_chk0 w, if_true, if_false, ite_bf, Bool.false_eq_true, show ¬ (1 : Int32) = 0 by decide]
theorem r_boxAt (K : wK hp c ld hl hi sb p q ea (S 2) (S 4)) (y1 : Int32) : zPR (fun h => f_X7_boxAt c y1 h) (fun h => f_X8_boxAt x y1 h) hp x S := by
  have I := hh_I K.2
  have hd := sI_bd I
  rcases inr_cases y1 (n := sN (S 2) 4) (by omega) with ⟨k, hk, rfl⟩ | hout
  · have ek := inr_T hk (by omega)
    refine Or.inr ⟨(zoi (sOn (S 2) (S 4) (Int32.ofNat k))), ?_, fun h F w => ?_⟩
    · simp (disch := omega) only [f_X7_boxAt, k_dem4 K, ek, k_is K, k_hl K, hh_p K.2, hh_q K.2, zbx_some, zbx_none, Option.bind_some, zb_0, ite_bf, if_true, if_false, Bool.false_eq_true, zrNp_b, H_boxOn K.2]
    · have W := wMF_M (wMF_th w 0)
      have hq : f_X8_is x 4 (Int32.ofNat k) h = some 1 := by rw [q_is4 (wMF_M w) I, ek]; rfl
      simp (disch := omega) only [f_X8_boxAt, hq, wm_is (wMF_M w), zb2_some, Option.bind_some, zb_t, zb_f, zb_0, q_chk1 w, q_chk0 w, if_true, if_false, ite_bf, Bool.false_eq_true, show ¬ (1 : Int32) = 0 by decide, p_boxOn W I]
  · refine Or.inl ⟨?_, 0, fun h F w => ?_⟩
    · simp only [f_X7_boxAt, k_dem4 K, hout, k_is K, k_hl K, hh_p K.2, hh_q K.2, zbx_some, zbx_none, Option.bind_some, zb_0, ite_bf, if_true, if_false, Bool.false_eq_true, zrNp_b]
    · have hq : f_X8_is x 4 y1 h = some 0 := by rw [q_is4 (wMF_M w) I, hout]; rfl
      simp only [f_X8_boxAt, hq, wm_is (wMF_M w), zb2_some, Option.bind_some, zb_t, zb_f, zb_0, q_chk1 w, q_chk0 w, if_true, if_false, ite_bf, Bool.false_eq_true, show ¬ (1 : Int32) = 0 by decide]
theorem r_slipOf (K : wK hp c ld hl hi sb p q ea (S 2) (S 4)) (y1 : Int32) : zPR (fun h => f_X7_slipOf c y1 h) (fun h => f_X8_slipOf x y1 h) hp x S := by
  have I := hh_I K.2
  have hd := sI_bd I
  rcases inr_cases y1 (n := sN (S 2) 4) (by omega) with ⟨k, hk, rfl⟩ | hout
  · have ek := inr_T hk (by omega)
    refine Or.inr ⟨(S 2 (140 + k)), ?_, fun h F w => ?_⟩
    · simp (disch := omega) only [f_X7_slipOf, k_dem4 K, ek, k_is K, k_hl K, hh_p K.2, hh_q K.2, zbx_some, zbx_none, Option.bind_some, zb_0, ite_bf, if_true, if_false, Bool.false_eq_true, zrNp_b, c_slips K.2.2.1, c_slipsA K.2.2.1 I]
    · have W := wMF_M (wMF_th w 0)
      have hq : f_X8_is x 4 (Int32.ofNat k) h = some 1 := by rw [q_is4 (wMF_M w) I, ek]; rfl
      simp (disch := omega) only [f_X8_slipOf, hq, wm_is (wMF_M w), zb2_some, Option.bind_some, zb_t, zb_f, zb_0, q_chk1 w, q_chk0 w, if_true, if_false, ite_bf, Bool.false_eq_true, show ¬ (1 : Int32) = 0 by decide, wm_T W, ix140, wm_told W]
  · refine Or.inl ⟨?_, 0, fun h F w => ?_⟩
    · simp only [f_X7_slipOf, k_dem4 K, hout, k_is K, k_hl K, hh_p K.2, hh_q K.2, zbx_some, zbx_none, Option.bind_some, zb_0, ite_bf, if_true, if_false, Bool.false_eq_true, zrNp_b]
    · have hq : f_X8_is x 4 y1 h = some 0 := by rw [q_is4 (wMF_M w) I, hout]; rfl
      simp only [f_X8_slipOf, hq, wm_is (wMF_M w), zb2_some, Option.bind_some, zb_t, zb_f, zb_0, q_chk1 w, q_chk0 w, if_true, if_false, ite_bf, Bool.false_eq_true, show ¬ (1 : Int32) = 0 by decide]
theorem r_isConfirmed (K : wK hp c ld hl hi sb p q ea (S 2) (S 4)) (y1 : Int32) : zPR (fun h => f_X7_isConfirmed c y1 h) (fun h => f_X8_isConfirmed x y1 h) hp x S := by
  have I := hh_I K.2
  have hd := sI_bd I
  rcases inr_cases y1 (n := sN (S 2) 3) (by omega) with ⟨k, hk, rfl⟩ | hout
  · have ek := inr_T hk (by omega)
    refine Or.inr ⟨(zb (sCf (S 2) (S 4) k).isSome), ?_, fun h F w => ?_⟩
    · simp (disch := omega) only [f_X7_isConfirmed, k_dem3 K, ek, k_is K, k_hl K, hh_p K.2, hh_q K.2, zbx_some, zbx_none, Option.bind_some, zb_0, ite_bf, if_true, if_false, Bool.false_eq_true, zrNp_b, hs_bx K.2, hs_box K.2, k_conf K.2]
    · have W := wMF_M (wMF_th w 0)
      have hq : f_X8_is x 3 (Int32.ofNat k) h = some 1 := by rw [q_is3 (wMF_M w) I, ek]; rfl
      simp (disch := omega) only [f_X8_isConfirmed, hq, wm_is (wMF_M w), zb2_some, Option.bind_some, zb_t, zb_f, zb_0, q_chk1 w, q_chk0 w, if_true, if_false, ite_bf, Bool.false_eq_true, show ¬ (1 : Int32) = 0 by decide, p_conf W I, zoi_m1 I hk, zCfp]
  · refine Or.inl ⟨?_, 0, fun h F w => ?_⟩
    · simp only [f_X7_isConfirmed, k_dem3 K, hout, k_is K, k_hl K, hh_p K.2, hh_q K.2, zbx_some, zbx_none, Option.bind_some, zb_0, ite_bf, if_true, if_false, Bool.false_eq_true, zrNp_b]
    · have hq : f_X8_is x 3 y1 h = some 0 := by rw [q_is3 (wMF_M w) I, hout]; rfl
      simp only [f_X8_isConfirmed, hq, wm_is (wMF_M w), zb2_some, Option.bind_some, zb_t, zb_f, zb_0, q_chk1 w, q_chk0 w, if_true, if_false, ite_bf, Bool.false_eq_true, show ¬ (1 : Int32) = 0 by decide]
theorem r_surplus (K : wK hp c ld hl hi sb p q ea (S 2) (S 4)) (y1 : Int32) : zPR (fun h => f_X7_surplus c y1 h) (fun h => f_X8_surplus x y1 h) hp x S := by
  have I := hh_I K.2
  have hd := sI_bd I
  rcases inr_cases y1 (n := sN (S 2) 3) (by omega) with ⟨k, hk, rfl⟩ | hout
  · have ek := inr_T hk (by omega)
    refine Or.inr ⟨(sMore (S 2) (S 4) k), ?_, fun h F w => ?_⟩
    · simp (disch := omega) only [f_X7_surplus, k_dem3 K, ek, k_is K, k_hl K, hh_p K.2, hh_q K.2, zbx_some, zbx_none, Option.bind_some, zb_0, ite_bf, if_true, if_false, Bool.false_eq_true, zrNp_b, H_more K.2]
    · have W := wMF_M (wMF_th w 0)
      have hq : f_X8_is x 3 (Int32.ofNat k) h = some 1 := by rw [q_is3 (wMF_M w) I, ek]; rfl
      simp (disch := omega) only [f_X8_surplus, hq, wm_is (wMF_M w), zb2_some, Option.bind_some, zb_t, zb_f, zb_0, q_chk1 w, q_chk0 w, if_true, if_false, ite_bf, Bool.false_eq_true, show ¬ (1 : Int32) = 0 by decide, q_more W I]
  · refine Or.inl ⟨?_, 0, fun h F w => ?_⟩
    · simp only [f_X7_surplus, k_dem3 K, hout, k_is K, k_hl K, hh_p K.2, hh_q K.2, zbx_some, zbx_none, Option.bind_some, zb_0, ite_bf, if_true, if_false, Bool.false_eq_true, zrNp_b]
    · have hq : f_X8_is x 3 y1 h = some 0 := by rw [q_is3 (wMF_M w) I, hout]; rfl
      simp only [f_X8_surplus, hq, wm_is (wMF_M w), zb2_some, Option.bind_some, zb_t, zb_f, zb_0, q_chk1 w, q_chk0 w, if_true, if_false, ite_bf, Bool.false_eq_true, show ¬ (1 : Int32) = 0 by decide]
theorem r_isOff (K : wK hp c ld hl hi sb p q ea (S 2) (S 4)) (y1 : Int32) : zPR (fun h => f_X7_isOff c y1 h) (fun h => f_X8_isOff x y1 h) hp x S := by
  have I := hh_I K.2
  have hd := sI_bd I
  rcases inr_cases y1 (n := sN (S 2) 3) (by omega) with ⟨k, hk, rfl⟩ | hout
  · have ek := inr_T hk (by omega)
    refine Or.inr ⟨(zb (sOff (S 2) (S 4) k)), ?_, fun h F w => ?_⟩
    · simp (disch := omega) only [f_X7_isOff, k_dem3 K, ek, k_is K, k_hl K, hh_p K.2, hh_q K.2, zbx_some, zbx_none, Option.bind_some, zb_0, ite_bf, if_true, if_false, Bool.false_eq_true, zrNp_b, H_off K.2]
    · have W := wMF_M (wMF_th w 0)
      have hq : f_X8_is x 3 (Int32.ofNat k) h = some 1 := by rw [q_is3 (wMF_M w) I, ek]; rfl
      simp (disch := omega) only [f_X8_isOff, hq, wm_is (wMF_M w), zb2_some, Option.bind_some, zb_t, zb_f, zb_0, q_chk1 w, q_chk0 w, if_true, if_false, ite_bf, Bool.false_eq_true, show ¬ (1 : Int32) = 0 by decide, q_differs W I, ite_zbp]
  · refine Or.inl ⟨?_, 0, fun h F w => ?_⟩
    · simp only [f_X7_isOff, k_dem3 K, hout, k_is K, k_hl K, hh_p K.2, hh_q K.2, zbx_some, zbx_none, Option.bind_some, zb_0, ite_bf, if_true, if_false, Bool.false_eq_true, zrNp_b]
    · have hq : f_X8_is x 3 y1 h = some 0 := by rw [q_is3 (wMF_M w) I, hout]; rfl
      simp only [f_X8_isOff, hq, wm_is (wMF_M w), zb2_some, Option.bind_some, zb_t, zb_f, zb_0, q_chk1 w, q_chk0 w, if_true, if_false, ite_bf, Bool.false_eq_true, show ¬ (1 : Int32) = 0 by decide]
theorem r_leader (K : wK hp c ld hl hi sb p q ea (S 2) (S 4)) (y1 : Int32) : zPR (fun h => f_X7_leader c y1 h) (fun h => f_X8_leader x y1 h) hp x S := by
  have I := hh_I K.2
  have hd := sI_bd I
  rcases inr_cases y1 (n := sN (S 2) 2) (by omega) with ⟨k, hk, rfl⟩ | hout
  · have ek := inr_T hk (by omega)
    refine Or.inr ⟨(sFst (S 2) (S 4) (Int32.ofNat k)), ?_, fun h F w => ?_⟩
    · simp (disch := omega) only [f_X7_leader, k_dem2 K, ek, k_is K, k_hl K, hh_p K.2, hh_q K.2, zbx_some, zbx_none, Option.bind_some, zb_0, ite_bf, if_true, if_false, Bool.false_eq_true, zrNp_b, H_ahead K.2]
    · have W := wMF_M (wMF_th w 0)
      have hq : f_X8_is x 2 (Int32.ofNat k) h = some 1 := by rw [q_is2 (wMF_M w) I, ek]; rfl
      simp (disch := omega) only [f_X8_leader, hq, wm_is (wMF_M w), zb2_some, Option.bind_some, zb_t, zb_f, zb_0, q_chk1 w, q_chk0 w, if_true, if_false, ite_bf, Bool.false_eq_true, show ¬ (1 : Int32) = 0 by decide, q_first W I]
  · refine Or.inl ⟨?_, 0, fun h F w => ?_⟩
    · simp only [f_X7_leader, k_dem2 K, hout, k_is K, k_hl K, hh_p K.2, hh_q K.2, zbx_some, zbx_none, Option.bind_some, zb_0, ite_bf, if_true, if_false, Bool.false_eq_true, zrNp_b]
    · have hq : f_X8_is x 2 y1 h = some 0 := by rw [q_is2 (wMF_M w) I, hout]; rfl
      simp only [f_X8_leader, hq, wm_is (wMF_M w), zb2_some, Option.bind_some, zb_t, zb_f, zb_0, q_chk1 w, q_chk0 w, if_true, if_false, ite_bf, Bool.false_eq_true, show ¬ (1 : Int32) = 0 by decide]
theorem r_margin (K : wK hp c ld hl hi sb p q ea (S 2) (S 4)) (y1 : Int32) : zPR (fun h => f_X7_margin c y1 h) (fun h => f_X8_margin x y1 h) hp x S := by
  have I := hh_I K.2
  have hd := sI_bd I
  rcases inr_cases y1 (n := sN (S 2) 2) (by omega) with ⟨k, hk, rfl⟩ | hout
  · have ek := inr_T hk (by omega)
    refine Or.inr ⟨(sMar (S 2) (S 4) (Int32.ofNat k)), ?_, fun h F w => ?_⟩
    · simp (disch := omega) only [f_X7_margin, k_dem2 K, ek, k_is K, k_hl K, hh_p K.2, hh_q K.2, zbx_some, zbx_none, Option.bind_some, zb_0, ite_bf, if_true, if_false, Bool.false_eq_true, zrNp_b, H_lead K.2]
    · have W := wMF_M (wMF_th w 0)
      have hq : f_X8_is x 2 (Int32.ofNat k) h = some 1 := by rw [q_is2 (wMF_M w) I, ek]; rfl
      simp (disch := omega) only [f_X8_margin, hq, wm_is (wMF_M w), zb2_some, Option.bind_some, zb_t, zb_f, zb_0, q_chk1 w, q_chk0 w, if_true, if_false, ite_bf, Bool.false_eq_true, show ¬ (1 : Int32) = 0 by decide, q_marginOf W I]
  · refine Or.inl ⟨?_, 0, fun h F w => ?_⟩
    · simp only [f_X7_margin, k_dem2 K, hout, k_is K, k_hl K, hh_p K.2, hh_q K.2, zbx_some, zbx_none, Option.bind_some, zb_0, ite_bf, if_true, if_false, Bool.false_eq_true, zrNp_b]
    · have hq : f_X8_is x 2 y1 h = some 0 := by rw [q_is2 (wMF_M w) I, hout]; rfl
      simp only [f_X8_margin, hq, wm_is (wMF_M w), zb2_some, Option.bind_some, zb_t, zb_f, zb_0, q_chk1 w, q_chk0 w, if_true, if_false, ite_bf, Bool.false_eq_true, show ¬ (1 : Int32) = 0 by decide]
theorem r_isClose (K : wK hp c ld hl hi sb p q ea (S 2) (S 4)) (y1 : Int32) : zPR (fun h => f_X7_isClose c y1 h) (fun h => f_X8_isClose x y1 h) hp x S := by
  have I := hh_I K.2
  have hd := sI_bd I
  rcases inr_cases y1 (n := sN (S 2) 2) (by omega) with ⟨k, hk, rfl⟩ | hout
  · have ek := inr_T hk (by omega)
    refine Or.inr ⟨(zb (sNear (S 2) (S 4) (Int32.ofNat k))), ?_, fun h F w => ?_⟩
    · simp (disch := omega) only [f_X7_isClose, k_dem2 K, ek, k_is K, k_hl K, hh_p K.2, hh_q K.2, zbx_some, zbx_none, Option.bind_some, zb_0, ite_bf, if_true, if_false, Bool.false_eq_true, zrNp_b, H_close K.2]
    · have W := wMF_M (wMF_th w 0)
      have hq : f_X8_is x 2 (Int32.ofNat k) h = some 1 := by rw [q_is2 (wMF_M w) I, ek]; rfl
      simp (disch := omega) only [f_X8_isClose, hq, wm_is (wMF_M w), zb2_some, Option.bind_some, zb_t, zb_f, zb_0, q_chk1 w, q_chk0 w, if_true, if_false, ite_bf, Bool.false_eq_true, show ¬ (1 : Int32) = 0 by decide, q_isNear W I, ite_zbp]
  · refine Or.inl ⟨?_, 0, fun h F w => ?_⟩
    · simp only [f_X7_isClose, k_dem2 K, hout, k_is K, k_hl K, hh_p K.2, hh_q K.2, zbx_some, zbx_none, Option.bind_some, zb_0, ite_bf, if_true, if_false, Bool.false_eq_true, zrNp_b]
    · have hq : f_X8_is x 2 y1 h = some 0 := by rw [q_is2 (wMF_M w) I, hout]; rfl
      simp only [f_X8_isClose, hq, wm_is (wMF_M w), zb2_some, Option.bind_some, zb_t, zb_f, zb_0, q_chk1 w, q_chk0 w, if_true, if_false, ite_bf, Bool.false_eq_true, show ¬ (1 : Int32) = 0 by decide]
theorem r_whyNot (K : wK hp c ld hl hi sb p q ea (S 2) (S 4)) (y1 : Int32) : zPR (fun h => f_X7_whyNot c y1 h) (fun h => f_X8_whyNot x y1 h) hp x S := by
  have I := hh_I K.2
  have hd := sI_bd I
  rcases inr_cases y1 (n := sN (S 2) 2) (by omega) with ⟨k, hk, rfl⟩ | hout
  · have ek := inr_T hk (by omega)
    refine Or.inr ⟨(sAga (S 2) (S 4) (Int32.ofNat k)), ?_, fun h F w => ?_⟩
    · simp (disch := omega) only [f_X7_whyNot, k_dem2 K, ek, k_is K, k_hl K, hh_p K.2, hh_q K.2, zbx_some, zbx_none, Option.bind_some, zb_0, ite_bf, if_true, if_false, Bool.false_eq_true, zrNp_b, H_reason K.2]
    · have W := wMF_M (wMF_th w 0)
      have hq : f_X8_is x 2 (Int32.ofNat k) h = some 1 := by rw [q_is2 (wMF_M w) I, ek]; rfl
      simp (disch := omega) only [f_X8_whyNot, hq, wm_is (wMF_M w), zb2_some, Option.bind_some, zb_t, zb_f, zb_0, q_chk1 w, q_chk0 w, if_true, if_false, ite_bf, Bool.false_eq_true, show ¬ (1 : Int32) = 0 by decide, q_against W I]
  · refine Or.inl ⟨?_, 0, fun h F w => ?_⟩
    · simp only [f_X7_whyNot, k_dem2 K, hout, k_is K, k_hl K, hh_p K.2, hh_q K.2, zbx_some, zbx_none, Option.bind_some, zb_0, ite_bf, if_true, if_false, Bool.false_eq_true, zrNp_b]
    · have hq : f_X8_is x 2 y1 h = some 0 := by rw [q_is2 (wMF_M w) I, hout]; rfl
      simp only [f_X8_whyNot, hq, wm_is (wMF_M w), zb2_some, Option.bind_some, zb_t, zb_f, zb_0, q_chk1 w, q_chk0 w, if_true, if_false, ite_bf, Bool.false_eq_true, show ¬ (1 : Int32) = 0 by decide]
theorem r_wardVotes (K : wK hp c ld hl hi sb p q ea (S 2) (S 4)) (y1 y2 : Int32) : zPR (fun h => f_X7_wardVotes c y1 y2 h) (fun h => f_X8_wardVotes x y1 y2 h) hp x S := by
  have I := hh_I K.2
  have hd := sI_bd I
  rcases inr_cases y1 (n := sN (S 2) 2) (by omega) with ⟨k, hk, rfl⟩ | hout
  · have ek := inr_T hk (by omega)
    rcases inr_cases y2 (n := sPi (S 2)) (by omega) with ⟨j, hj, rfl⟩ | hj
    · have ej := inr_T hj (by omega)
      refine Or.inr ⟨(sVo (S 2) (S 4) (Int32.ofNat k) j), ?_, fun h F w => ?_⟩
      · simp (disch := omega) only [f_X7_wardVotes, k_dem2 K, ek, k_is K, k_hl K, hh_p K.2, hh_q K.2, zbx_some, zbx_none, Option.bind_some, zb_0, ite_bf, if_true, if_false, Bool.false_eq_true, zrNp_b, c_hasPile K.2.2.1, H_votes K.2, ej]
      · have W := wMF_M (wMF_th w 0)
        have hq : f_X8_is x 2 (Int32.ofNat k) h = some 1 := by rw [q_is2 (wMF_M w) I, ek]; rfl
        simp (disch := omega) only [f_X8_wardVotes, hq, wm_is (wMF_M w), zb2_some, Option.bind_some, zb_t, zb_f, zb_0, q_chk1 w, q_chk0 w, if_true, if_false, ite_bf, Bool.false_eq_true, show ¬ (1 : Int32) = 0 by decide, q_isPile W I, q_votes W I, ej]
    · refine Or.inr ⟨(-2), ?_, fun h F w => ?_⟩
      · simp (disch := omega) only [f_X7_wardVotes, k_dem2 K, ek, k_is K, k_hl K, hh_p K.2, hh_q K.2, zbx_some, zbx_none, Option.bind_some, zb_0, ite_bf, if_true, if_false, Bool.false_eq_true, zrNp_b, c_hasPile K.2.2.1, H_votes K.2, hj]
      · have W := wMF_M (wMF_th w 0)
        have hq : f_X8_is x 2 (Int32.ofNat k) h = some 1 := by rw [q_is2 (wMF_M w) I, ek]; rfl
        simp (disch := omega) only [f_X8_wardVotes, hq, wm_is (wMF_M w), zb2_some, Option.bind_some, zb_t, zb_f, zb_0, q_chk1 w, q_chk0 w, if_true, if_false, ite_bf, Bool.false_eq_true, show ¬ (1 : Int32) = 0 by decide, q_isPile W I, q_votes W I, hj]
  · refine Or.inl ⟨?_, 0, fun h F w => ?_⟩
    · simp only [f_X7_wardVotes, k_dem2 K, hout, k_is K, k_hl K, hh_p K.2, hh_q K.2, zbx_some, zbx_none, Option.bind_some, zb_0, ite_bf, if_true, if_false, Bool.false_eq_true, zrNp_b]
    · have hq : f_X8_is x 2 y1 h = some 0 := by rw [q_is2 (wMF_M w) I, hout]; rfl
      simp only [f_X8_wardVotes, hq, wm_is (wMF_M w), zb2_some, Option.bind_some, zb_t, zb_f, zb_0, q_chk1 w, q_chk0 w, if_true, if_false, ite_bf, Bool.false_eq_true, show ¬ (1 : Int32) = 0 by decide]
theorem r_regionSeats (K : wK hp c ld hl hi sb p q ea (S 2) (S 4)) (y1 y2 : Int32) : zPR (fun h => f_X7_regionSeats c y1 y2 h) (fun h => f_X8_regionSeats x y1 y2 h) hp x S := by
  have I := hh_I K.2
  have hd := sI_bd I
  rcases inr_cases y1 (n := sN (S 2) 1) (by omega) with ⟨k, hk, rfl⟩ | hout
  · have ek := inr_T hk (by omega)
    rcases inr_cases y2 (n := sN (S 2) 0) (by omega) with ⟨j, hj, rfl⟩ | hj
    · have ej := inr_T hj (by omega)
      refine Or.inr ⟨(sSeat (S 2) (S 4) (Int32.ofNat k) (Int32.ofNat j)), ?_, fun h F w => ?_⟩
      · simp (disch := omega) only [f_X7_regionSeats, k_dem1 K, ek, k_is K, k_hl K, hh_p K.2, hh_q K.2, zbx_some, zbx_none, Option.bind_some, zb_0, ite_bf, if_true, if_false, Bool.false_eq_true, zrNp_b, show ∀ y, f_X5_has p 0 y hp = some (zb (inr y (sN (S 2) 0))) from fun y => c_has K.2.2.1 (s := 0) (by decide) y, H_seats K.2, ej]
      · have W := wMF_M (wMF_th w 0)
        have hq : f_X8_is x 1 (Int32.ofNat k) h = some 1 := by rw [q_is1 (wMF_M w) I, ek]; rfl
        simp (disch := omega) only [f_X8_regionSeats, hq, wm_is (wMF_M w), zb2_some, Option.bind_some, zb_t, zb_f, zb_0, q_chk1 w, q_chk0 w, if_true, if_false, ite_bf, Bool.false_eq_true, show ¬ (1 : Int32) = 0 by decide, q_is0 W I, q_seats W I, ej]
    · refine Or.inr ⟨(-2), ?_, fun h F w => ?_⟩
      · simp (disch := omega) only [f_X7_regionSeats, k_dem1 K, ek, k_is K, k_hl K, hh_p K.2, hh_q K.2, zbx_some, zbx_none, Option.bind_some, zb_0, ite_bf, if_true, if_false, Bool.false_eq_true, zrNp_b, show ∀ y, f_X5_has p 0 y hp = some (zb (inr y (sN (S 2) 0))) from fun y => c_has K.2.2.1 (s := 0) (by decide) y, H_seats K.2, hj]
      · have W := wMF_M (wMF_th w 0)
        have hq : f_X8_is x 1 (Int32.ofNat k) h = some 1 := by rw [q_is1 (wMF_M w) I, ek]; rfl
        simp (disch := omega) only [f_X8_regionSeats, hq, wm_is (wMF_M w), zb2_some, Option.bind_some, zb_t, zb_f, zb_0, q_chk1 w, q_chk0 w, if_true, if_false, ite_bf, Bool.false_eq_true, show ¬ (1 : Int32) = 0 by decide, q_is0 W I, q_seats W I, hj]
  · refine Or.inl ⟨?_, 0, fun h F w => ?_⟩
    · simp only [f_X7_regionSeats, k_dem1 K, hout, k_is K, k_hl K, hh_p K.2, hh_q K.2, zbx_some, zbx_none, Option.bind_some, zb_0, ite_bf, if_true, if_false, Bool.false_eq_true, zrNp_b]
    · have hq : f_X8_is x 1 y1 h = some 0 := by rw [q_is1 (wMF_M w) I, hout]; rfl
      simp only [f_X8_regionSeats, hq, wm_is (wMF_M w), zb2_some, Option.bind_some, zb_t, zb_f, zb_0, q_chk1 w, q_chk0 w, if_true, if_false, ite_bf, Bool.false_eq_true, show ¬ (1 : Int32) = 0 by decide]
theorem x_hasI (X : wX hp a T N b) (I : sI T N) (hb : b < sN T 3) (y : Int32) : f_X0_hasCount a y hp = some (zb (inr y (sC N b))) := by
  simp only [f_X0_hasCount, x_is X, x_cnt X, Option.bind_some, ite_some_zbP]
  unfold inr
  by_cases e : y < 0
  · simp [e, zb]
  · simp [e]
theorem k_hasI (H : wH hp hl p q T N) {b : Nat} (hb : b < sN T 3) (y : Int32) : f_X0_hasCount (q + 4 + 4 * b) y hp = some (zb (inr y (sC N b))) := x_hasI (hs_X H hb) (hh_I H) hb y
theorem q_isCount (h : wM hp x S) (I : sI (S 2) (S 4)) {b : Nat} (hb : b < sN (S 2) 3) (y : Int32) : f_X8_isCount x (Int32.ofNat b) y hp = some (zb (inr y (sC (S 4) b))) := by
  simp only [f_X8_isCount, wm_is h, q_of3 h I hb, Option.bind_some, ite_some_zbP]
  unfold inr
  by_cases e : y < 0
  · simp [e, zb]
  · simp [e]
theorem r_countedAt (K : wK hp c ld hl hi sb p q ea (S 2) (S 4)) (y1 y2 : Int32) : zPR (fun h => f_X7_countedAt c y1 y2 h) (fun h => f_X8_countedAt x y1 y2 h) hp x S := by
  have I := hh_I K.2
  have hd := sI_bd I
  rcases inr_cases y1 (n := sN (S 2) 3) (by omega) with ⟨k, hk, rfl⟩ | hout
  · have ek := inr_T hk (by omega)
    have hc : ∀ {α : Type} (g : Unit → Option (Option α)), zbx (f_X7_demand c 3 (Int32.ofNat k) hp) g = g () := fun g => by rw [k_dem3 K, ek]; rfl
    have hq : ∀ h F, wMF h x F S → f_X8_is x 3 (Int32.ofNat k) h = some 1 := fun h F w => by rw [q_is3 (wMF_M w) I, ek]; rfl
    have hcc := sI_c I hk
    rcases inr_cases y2 (n := sC (S 4) k) (by omega) with ⟨j, hj, rfl⟩ | hj
    · have ej := inr_T hj (by omega)
      refine Or.inr ⟨(sF (S 4) k (16 + j)), ?_, fun h F w => ?_⟩
      · simp (disch := omega) only [f_X7_countedAt, k_is K, k_hl K, hh_p K.2, hh_q K.2, hc, Option.bind_some, zb_0, ite_bf, if_true, if_false, Bool.false_eq_true, zrNp_b, hs_bx K.2, hs_box K.2, k_hasI K.2, ej, k_tab K.2, k_tabA K.2]
      · have W := wMF_M (wMF_th w 0)
        simp (disch := omega) only [f_X8_countedAt, hq h F w, wm_is (wMF_M w), zb2_some, Option.bind_some, zb_t, zb_f, zb_0, q_chk1 w, q_chk0 w, if_true, if_false, ite_bf, Bool.false_eq_true, show ¬ (1 : Int32) = 0 by decide, q_isCount W I, ej, ix16, q_of W]
    · refine Or.inr ⟨(-1), ?_, fun h F w => ?_⟩
      · simp (disch := omega) only [f_X7_countedAt, k_is K, k_hl K, hh_p K.2, hh_q K.2, hc, Option.bind_some, zb_0, ite_bf, if_true, if_false, Bool.false_eq_true, zrNp_b, hs_bx K.2, hs_box K.2, k_hasI K.2, hj]
      · have W := wMF_M (wMF_th w 0)
        simp (disch := omega) only [f_X8_countedAt, hq h F w, wm_is (wMF_M w), zb2_some, Option.bind_some, zb_t, zb_f, zb_0, q_chk1 w, q_chk0 w, if_true, if_false, ite_bf, Bool.false_eq_true, show ¬ (1 : Int32) = 0 by decide, q_isCount W I, hj]
  · refine Or.inl ⟨?_, 0, fun h F w => ?_⟩
    · simp only [f_X7_countedAt, k_dem3 K, hout, k_is K, k_hl K, hh_p K.2, hh_q K.2, zbx_some, zbx_none, Option.bind_some, zb_0, ite_bf, if_true, if_false, Bool.false_eq_true, zrNp_b]
    · have hq : f_X8_is x 3 y1 h = some 0 := by rw [q_is3 (wMF_M w) I, hout]; rfl
      simp only [f_X8_countedAt, hq, wm_is (wMF_M w), zb2_some, Option.bind_some, zb_t, zb_f, zb_0, q_chk1 w, q_chk0 w, if_true, if_false, ite_bf, Bool.false_eq_true, show ¬ (1 : Int32) = 0 by decide]
theorem r_counted (K : wK hp c ld hl hi sb p q ea (S 2) (S 4)) (y1 y2 y3 : Int32) : zPR (fun h => f_X7_counted c y1 y2 y3 h) (fun h => f_X8_counted x y1 y2 y3 h) hp x S := by
  have I := hh_I K.2
  have hd := sI_bd I
  rcases inr_cases y1 (n := sN (S 2) 3) (by omega) with ⟨k, hk, rfl⟩ | hout
  · have ek := inr_T hk (by omega)
    have hc : ∀ {α : Type} (g : Unit → Option (Option α)), zbx (f_X7_demand c 3 (Int32.ofNat k) hp) g = g () := fun g => by rw [k_dem3 K, ek]; rfl
    have hq : ∀ h F, wMF h x F S → f_X8_is x 3 (Int32.ofNat k) h = some 1 := fun h F w => by rw [q_is3 (wMF_M w) I, ek]; rfl
    have hcc := sI_c I hk
    rcases inr_cases y2 (n := sC (S 4) k) (by omega) with ⟨j, hj, rfl⟩ | hj
    · have ej := inr_T hj (by omega)
      rcases inr_cases y3 (n := sPi (S 2)) (by omega) with ⟨i, hi, rfl⟩ | hi
      · have ei := inr_T hi (by omega)
        refine Or.inr ⟨(sFd (S 4) k j i), ?_, fun h F w => ?_⟩
        · simp (disch := omega) only [f_X7_counted, k_is K, k_hl K, hh_p K.2, hh_q K.2, hc, Option.bind_some, zb_0, ite_bf, if_true, if_false, Bool.false_eq_true, zrNp_b, hs_bx K.2, hs_box K.2, k_hasI K.2, ej, c_hasPile K.2.2.1, ei, k_foundBy K.2]
        · have W := wMF_M (wMF_th w 0)
          simp (disch := omega) only [f_X8_counted, hq h F w, wm_is (wMF_M w), zb2_some, Option.bind_some, zb_t, zb_f, zb_0, q_chk1 w, q_chk0 w, if_true, if_false, ite_bf, Bool.false_eq_true, show ¬ (1 : Int32) = 0 by decide, q_isCount W I, ej, q_isPile W I, ei, p_found W]
      · refine Or.inr ⟨(-2), ?_, fun h F w => ?_⟩
        · simp (disch := omega) only [f_X7_counted, k_is K, k_hl K, hh_p K.2, hh_q K.2, hc, Option.bind_some, zb_0, ite_bf, if_true, if_false, Bool.false_eq_true, zrNp_b, hs_bx K.2, hs_box K.2, k_hasI K.2, ej, c_hasPile K.2.2.1, hi]
        · have W := wMF_M (wMF_th w 0)
          simp (disch := omega) only [f_X8_counted, hq h F w, wm_is (wMF_M w), zb2_some, Option.bind_some, zb_t, zb_f, zb_0, q_chk1 w, q_chk0 w, if_true, if_false, ite_bf, Bool.false_eq_true, show ¬ (1 : Int32) = 0 by decide, q_isCount W I, ej, q_isPile W I, hi]
    · refine Or.inr ⟨(-1), ?_, fun h F w => ?_⟩
      · simp (disch := omega) only [f_X7_counted, k_is K, k_hl K, hh_p K.2, hh_q K.2, hc, Option.bind_some, zb_0, ite_bf, if_true, if_false, Bool.false_eq_true, zrNp_b, hs_bx K.2, hs_box K.2, k_hasI K.2, hj]
      · have W := wMF_M (wMF_th w 0)
        simp (disch := omega) only [f_X8_counted, hq h F w, wm_is (wMF_M w), zb2_some, Option.bind_some, zb_t, zb_f, zb_0, q_chk1 w, q_chk0 w, if_true, if_false, ite_bf, Bool.false_eq_true, show ¬ (1 : Int32) = 0 by decide, q_isCount W I, hj]
  · refine Or.inl ⟨?_, 0, fun h F w => ?_⟩
    · simp only [f_X7_counted, k_dem3 K, hout, k_is K, k_hl K, hh_p K.2, hh_q K.2, zbx_some, zbx_none, Option.bind_some, zb_0, ite_bf, if_true, if_false, Bool.false_eq_true, zrNp_b]
    · have hq : f_X8_is x 3 y1 h = some 0 := by rw [q_is3 (wMF_M w) I, hout]; rfl
      simp only [f_X8_counted, hq, wm_is (wMF_M w), zb2_some, Option.bind_some, zb_t, zb_f, zb_0, q_chk1 w, q_chk0 w, if_true, if_false, ite_bf, Bool.false_eq_true, show ¬ (1 : Int32) = 0 by decide]
theorem r_result (K : wK hp c ld hl hi sb p q ea (S 2) (S 4)) (y1 y2 : Int32) : zPR (fun h => f_X7_result c y1 y2 h) (fun h => f_X8_result x y1 y2 h) hp x S := by
  have I := hh_I K.2
  have hd := sI_bd I
  rcases inr_cases y1 (n := sN (S 2) 3) (by omega) with ⟨k, hk, rfl⟩ | hout
  · have ek := inr_T hk (by omega)
    have hc : ∀ {α : Type} (g : Unit → Option (Option α)), zbx (f_X7_demand c 3 (Int32.ofNat k) hp) g = g () := fun g => by rw [k_dem3 K, ek]; rfl
    have hq : ∀ h F, wMF h x F S → f_X8_is x 3 (Int32.ofNat k) h = some 1 := fun h F w => by rw [q_is3 (wMF_M w) I, ek]; rfl
    have hcc := sI_c I hk
    by_cases e0 : sC (S 4) k = 0
    · refine Or.inr ⟨(-1), ?_, fun h F w => ?_⟩
      · simp (disch := omega) only [f_X7_result, k_is K, k_hl K, hh_p K.2, hh_q K.2, hc, Option.bind_some, zb_0, ite_bf, if_true, if_false, Bool.false_eq_true, zrNp_b, hs_bx K.2, hs_box K.2, k_cnt K.2, pn_eq0, e0]
      · have W := wMF_M (wMF_th w 0)
        simp (disch := omega) only [f_X8_result, hq h F w, wm_is (wMF_M w), zb2_some, Option.bind_some, zb_t, zb_f, zb_0, q_chk1 w, q_chk0 w, if_true, if_false, ite_bf, Bool.false_eq_true, show ¬ (1 : Int32) = 0 by decide, q_wasC W I, e0, Nat.lt_irrefl, decide_false]
    · have e1 : 0 < sC (S 4) k := by omega
      rcases inr_cases y2 (n := sPi (S 2)) (by omega) with ⟨j, hj, rfl⟩ | hj
      · have ej := inr_T hj (by omega)
        refine Or.inr ⟨(sVal (S 2) (S 4) k j), ?_, fun h F w => ?_⟩
        · simp (disch := omega) only [f_X7_result, k_is K, k_hl K, hh_p K.2, hh_q K.2, hc, Option.bind_some, zb_0, ite_bf, if_true, if_false, Bool.false_eq_true, zrNp_b, hs_bx K.2, hs_box K.2, k_cnt K.2, pn_eq0, e0, c_hasPile K.2.2.1, ej, k_valid K.2]
        · have W := wMF_M (wMF_th w 0)
          simp (disch := omega) only [f_X8_result, hq h F w, wm_is (wMF_M w), zb2_some, Option.bind_some, zb_t, zb_f, zb_0, q_chk1 w, q_chk0 w, if_true, if_false, ite_bf, Bool.false_eq_true, show ¬ (1 : Int32) = 0 by decide, q_wasC W I, e1, decide_true, q_isPile W I, ej, q_valid W I]
      · refine Or.inr ⟨(-2), ?_, fun h F w => ?_⟩
        · simp (disch := omega) only [f_X7_result, k_is K, k_hl K, hh_p K.2, hh_q K.2, hc, Option.bind_some, zb_0, ite_bf, if_true, if_false, Bool.false_eq_true, zrNp_b, hs_bx K.2, hs_box K.2, k_cnt K.2, pn_eq0, e0, c_hasPile K.2.2.1, hj]
        · have W := wMF_M (wMF_th w 0)
          simp (disch := omega) only [f_X8_result, hq h F w, wm_is (wMF_M w), zb2_some, Option.bind_some, zb_t, zb_f, zb_0, q_chk1 w, q_chk0 w, if_true, if_false, ite_bf, Bool.false_eq_true, show ¬ (1 : Int32) = 0 by decide, q_wasC W I, e1, decide_true, q_isPile W I, hj]
  · refine Or.inl ⟨?_, 0, fun h F w => ?_⟩
    · simp only [f_X7_result, k_dem3 K, hout, k_is K, k_hl K, hh_p K.2, hh_q K.2, zbx_some, zbx_none, Option.bind_some, zb_0, ite_bf, if_true, if_false, Bool.false_eq_true, zrNp_b]
    · have hq : f_X8_is x 3 y1 h = some 0 := by rw [q_is3 (wMF_M w) I, hout]; rfl
      simp only [f_X8_result, hq, wm_is (wMF_M w), zb2_some, Option.bind_some, zb_t, zb_f, zb_0, q_chk1 w, q_chk0 w, if_true, if_false, ite_bf, Bool.false_eq_true, show ¬ (1 : Int32) = 0 by decide]
theorem r_ledger (K : wK hp c ld hl hi sb p q ea (S 2) (S 4)) (y1 y2 : Int32) : zPR (fun h => f_X7_ledger c y1 y2 h) (fun h => f_X8_ledger x y1 y2 h) hp x S := by
  have I := hh_I K.2
  have hd := sI_bd I
  rcases inr_cases y1 (n := sN (S 2) 3) (by omega) with ⟨k, hk, rfl⟩ | hout
  · have ek := inr_T hk (by omega)
    have hc : ∀ {α : Type} (g : Unit → Option (Option α)), zbx (f_X7_demand c 3 (Int32.ofNat k) hp) g = g () := fun g => by rw [k_dem3 K, ek]; rfl
    have hq : ∀ h F, wMF h x F S → f_X8_is x 3 (Int32.ofNat k) h = some 1 := fun h F w => by rw [q_is3 (wMF_M w) I, ek]; rfl
    have hee := sI_e I hk
    rcases inr_cases y2 (n := sE (S 4) k) (by omega) with ⟨j, hj, rfl⟩ | hj
    · refine Or.inr ⟨(sF (S 4) k (4 + j)), ?_, fun h F w => ?_⟩
      · simp (disch := omega) only [f_X7_ledger, k_is K, k_hl K, hh_p K.2, hh_q K.2, hc, Option.bind_some, zb_0, ite_bf, if_true, if_false, Bool.false_eq_true, zrNp_b, hs_bx K.2, hs_box K.2, pn_negF, k_ent K.2, pn_lt, hj, k_led K.2, k_ledA K.2]
      · have W := wMF_M (wMF_th w 0)
        simp (disch := omega) only [f_X8_ledger, hq h F w, wm_is (wMF_M w), zb2_some, Option.bind_some, zb_t, zb_f, zb_0, q_chk1 w, q_chk0 w, if_true, if_false, ite_bf, Bool.false_eq_true, show ¬ (1 : Int32) = 0 by decide, pn_negF, q_of2 W I, pn_lt, hj, ix4, q_of W]
    · have e2 : ¬ y2 < 0 → ¬ y2 < Int32.ofNat (sE (S 4) k) := fun h0 h1 => by unfold inr at hj; simp [h0, h1] at hj
      by_cases h0 : y2 < 0
      · refine Or.inr ⟨(-1), ?_, fun h F w => ?_⟩
        · simp (disch := omega) only [f_X7_ledger, k_is K, k_hl K, hh_p K.2, hh_q K.2, hc, Option.bind_some, zb_0, ite_bf, if_true, if_false, Bool.false_eq_true, zrNp_b, hs_bx K.2, hs_box K.2, h0]
        · have W := wMF_M (wMF_th w 0)
          simp (disch := omega) only [f_X8_ledger, hq h F w, wm_is (wMF_M w), zb2_some, Option.bind_some, zb_t, zb_f, zb_0, q_chk1 w, q_chk0 w, if_true, if_false, ite_bf, Bool.false_eq_true, show ¬ (1 : Int32) = 0 by decide, h0]
      · have h1 := e2 h0
        refine Or.inr ⟨(-1), ?_, fun h F w => ?_⟩
        · simp (disch := omega) only [f_X7_ledger, k_is K, k_hl K, hh_p K.2, hh_q K.2, hc, Option.bind_some, zb_0, ite_bf, if_true, if_false, Bool.false_eq_true, zrNp_b, hs_bx K.2, hs_box K.2, h0, k_ent K.2, h1]
        · have W := wMF_M (wMF_th w 0)
          simp (disch := omega) only [f_X8_ledger, hq h F w, wm_is (wMF_M w), zb2_some, Option.bind_some, zb_t, zb_f, zb_0, q_chk1 w, q_chk0 w, if_true, if_false, ite_bf, Bool.false_eq_true, show ¬ (1 : Int32) = 0 by decide, h0, q_of2 W I, h1]
  · refine Or.inl ⟨?_, 0, fun h F w => ?_⟩
    · simp only [f_X7_ledger, k_dem3 K, hout, k_is K, k_hl K, hh_p K.2, hh_q K.2, zbx_some, zbx_none, Option.bind_some, zb_0, ite_bf, if_true, if_false, Bool.false_eq_true, zrNp_b]
    · have hq : f_X8_is x 3 y1 h = some 0 := by rw [q_is3 (wMF_M w) I, hout]; rfl
      simp only [f_X8_ledger, hq, wm_is (wMF_M w), zb2_some, Option.bind_some, zb_t, zb_f, zb_0, q_chk1 w, q_chk0 w, if_true, if_false, ite_bf, Bool.false_eq_true, show ¬ (1 : Int32) = 0 by decide]
theorem r_boxProperty (K : wK hp c ld hl hi sb p q ea (S 2) (S 4)) (y1 y2 : Int32) : zPR (fun h => f_X7_boxProperty c y1 y2 h) (fun h => f_X8_boxProperty x y1 y2 h) hp x S := by
  have I := hh_I K.2
  have hd := sI_bd I
  rcases inr_cases y1 (n := sN (S 2) 3) (by omega) with ⟨k, hk, rfl⟩ | hout
  · have ek := inr_T hk (by omega)
    have hc : ∀ {α : Type} (g : Unit → Option (Option α)), zbx (f_X7_demand c 3 (Int32.ofNat k) hp) g = g () := fun g => by rw [k_dem3 K, ek]; rfl
    have hq : ∀ h F, wMF h x F S → f_X8_is x 3 (Int32.ofNat k) h = some 1 := fun h F w => by rw [q_is3 (wMF_M w) I, ek]; rfl
    by_cases h0 : y2 = 0
    · refine Or.inr ⟨(S 2 (44 + k)), ?_, fun h F w => ?_⟩
      · simp (disch := omega) only [f_X7_boxProperty, k_is K, k_hl K, hh_p K.2, hh_q K.2, hc, Option.bind_some, zb_0, ite_bf, if_true, if_false, Bool.false_eq_true, zrNp_b, hs_bx K.2, hs_box K.2, h0, c_wards K.2.2.1, c_wardsA K.2.2.1 I]
      · have W := wMF_M (wMF_th w 0)
        simp (disch := omega) only [f_X8_boxProperty, hq h F w, wm_is (wMF_M w), zb2_some, Option.bind_some, zb_t, zb_f, zb_0, q_chk1 w, q_chk0 w, if_true, if_false, ite_bf, Bool.false_eq_true, show ¬ (1 : Int32) = 0 by decide, h0, wm_T W, ix44, wm_told W]
    · by_cases h1 : y2 = 1
      · refine Or.inr ⟨(S 2 (56 + k)), ?_, fun h F w => ?_⟩
        · simp (disch := omega) only [f_X7_boxProperty, k_is K, k_hl K, hh_p K.2, hh_q K.2, hc, Option.bind_some, zb_0, ite_bf, if_true, if_false, Bool.false_eq_true, zrNp_b, hs_bx K.2, hs_box K.2, h0, h1, c_issued K.2.2.1, c_issuedA K.2.2.1 I, show ¬ (1 : Int32) = 0 by decide]
        · have W := wMF_M (wMF_th w 0)
          simp (disch := omega) only [f_X8_boxProperty, hq h F w, wm_is (wMF_M w), zb2_some, Option.bind_some, zb_t, zb_f, zb_0, q_chk1 w, q_chk0 w, if_true, if_false, ite_bf, Bool.false_eq_true, show ¬ (1 : Int32) = 0 by decide, h0, h1, wm_T W, ix56, wm_told W]
      · by_cases h2 : y2 = 2
        · refine Or.inr ⟨(sF (S 4) k 1), ?_, fun h F w => ?_⟩
          · simp (disch := omega) only [f_X7_boxProperty, k_is K, k_hl K, hh_p K.2, hh_q K.2, hc, Option.bind_some, zb_0, ite_bf, if_true, if_false, Bool.false_eq_true, zrNp_b, hs_bx K.2, hs_box K.2, h0, h1, h2, k_seal K.2, show ¬ (2 : Int32) = 0 by decide, show ¬ (2 : Int32) = 1 by decide]
          · have W := wMF_M (wMF_th w 0)
            simp (disch := omega) only [f_X8_boxProperty, hq h F w, wm_is (wMF_M w), zb2_some, Option.bind_some, zb_t, zb_f, zb_0, q_chk1 w, q_chk0 w, if_true, if_false, ite_bf, Bool.false_eq_true, show ¬ (1 : Int32) = 0 by decide, h0, h1, h2, q_of1 W, show ¬ (2 : Int32) = 0 by decide, show ¬ (2 : Int32) = 1 by decide]
        · by_cases h3 : y2 = 3
          · refine Or.inr ⟨(Int32.ofNat (sC (S 4) k)), ?_, fun h F w => ?_⟩
            · simp (disch := omega) only [f_X7_boxProperty, k_is K, k_hl K, hh_p K.2, hh_q K.2, hc, Option.bind_some, zb_0, ite_bf, if_true, if_false, Bool.false_eq_true, zrNp_b, hs_bx K.2, hs_box K.2, h0, h1, h2, h3, k_cnt K.2, show ¬ (3 : Int32) = 0 by decide, show ¬ (3 : Int32) = 1 by decide, show ¬ (3 : Int32) = 2 by decide]
            · have W := wMF_M (wMF_th w 0)
              simp (disch := omega) only [f_X8_boxProperty, hq h F w, wm_is (wMF_M w), zb2_some, Option.bind_some, zb_t, zb_f, zb_0, q_chk1 w, q_chk0 w, if_true, if_false, ite_bf, Bool.false_eq_true, show ¬ (1 : Int32) = 0 by decide, h0, h1, h2, h3, q_of3 W I, show ¬ (3 : Int32) = 0 by decide, show ¬ (3 : Int32) = 1 by decide, show ¬ (3 : Int32) = 2 by decide]
          · refine Or.inr ⟨(-2), ?_, fun h F w => ?_⟩
            · simp (disch := omega) only [f_X7_boxProperty, k_is K, k_hl K, hh_p K.2, hh_q K.2, hc, Option.bind_some, zb_0, ite_bf, if_true, if_false, Bool.false_eq_true, zrNp_b, hs_bx K.2, hs_box K.2, h0, h1, h2, h3]
            · have W := wMF_M (wMF_th w 0)
              simp (disch := omega) only [f_X8_boxProperty, hq h F w, wm_is (wMF_M w), zb2_some, Option.bind_some, zb_t, zb_f, zb_0, q_chk1 w, q_chk0 w, if_true, if_false, ite_bf, Bool.false_eq_true, show ¬ (1 : Int32) = 0 by decide, h0, h1, h2, h3]
  · refine Or.inl ⟨?_, 0, fun h F w => ?_⟩
    · simp only [f_X7_boxProperty, k_dem3 K, hout, k_is K, k_hl K, hh_p K.2, hh_q K.2, zbx_some, zbx_none, Option.bind_some, zb_0, ite_bf, if_true, if_false, Bool.false_eq_true, zrNp_b]
    · have hq : f_X8_is x 3 y1 h = some 0 := by rw [q_is3 (wMF_M w) I, hout]; rfl
      simp only [f_X8_boxProperty, hq, wm_is (wMF_M w), zb2_some, Option.bind_some, zb_t, zb_f, zb_0, q_chk1 w, q_chk0 w, if_true, if_false, ite_bf, Bool.false_eq_true, show ¬ (1 : Int32) = 0 by decide]
theorem r_wouldCount (K : wK hp c ld hl hi sb p q ea (S 2) (S 4)) (y1 y2 y3 : Int32) : zPR (fun h => f_X7_wouldCount c y1 y2 y3 h) (fun h => f_X8_wouldCount x y1 y2 y3 h) hp x S := by
  have I := hh_I K.2
  have hd := sI_bd I
  rcases inr_cases y1 (n := sN (S 2) 4) (by omega) with ⟨t, ht, rfl⟩ | hout
  · have et := inr_T ht (by omega)
    rcases inr_cases y2 (n := sN (S 2) 3) (by omega) with ⟨k, hk, rfl⟩ | hout
    · have ek := inr_T hk (by omega)
      have hq4 : ∀ h F, wMF h x F S → f_X8_is x 4 (Int32.ofNat t) h = some 1 := fun h F w => by rw [q_is4 (wMF_M w) I, et]; rfl
      have hq3 : ∀ h F, wMF h x F S → f_X8_is x 3 (Int32.ofNat k) h = some 1 := fun h F w => by rw [q_is3 (wMF_M w) I, ek]; rfl
      rcases inr_cases y3 (n := sPi (S 2)) (by omega) with ⟨j, hj, rfl⟩ | hj
      · have ej := inr_T hj (by omega)
        refine Or.inr ⟨sFi (S 2) t k j, ?_, fun h F w => ?_⟩
        · simp (disch := omega) only [f_X7_wouldCount, k_dem3 K, k_dem4 K, et, ek, ej, c_hasPile K.2.2.1, c_wouldFind K.2.2.1 I, k_is K, k_hl K, hh_p K.2, hh_q K.2, zbx_some, zbx_none, Option.bind_some, zb_0, ite_bf, if_true, if_false, Bool.false_eq_true, zrNp_b]
        · have W := wMF_M (wMF_th w 0)
          simp (disch := omega) only [f_X8_wouldCount, j_X8_wouldCount_23, j_X8_wouldCount_24, hq3 h F w, hq4 h F w, q_isPile W I, ej, p_finds W I, wm_is (wMF_M w), zb2_some, Option.bind_some, zb_t, zb_f, zb_0, q_chk1 w, q_chk0 w, if_true, if_false, ite_bf, Bool.false_eq_true, show ¬ (1 : Int32) = 0 by decide]
      · refine Or.inr ⟨-2, ?_, fun h F w => ?_⟩
        · simp (disch := omega) only [f_X7_wouldCount, k_dem3 K, k_dem4 K, et, ek, hj, c_hasPile K.2.2.1, k_is K, k_hl K, hh_p K.2, hh_q K.2, zbx_some, zbx_none, Option.bind_some, zb_0, ite_bf, if_true, if_false, Bool.false_eq_true, zrNp_b]
        · have W := wMF_M (wMF_th w 0)
          simp (disch := omega) only [f_X8_wouldCount, j_X8_wouldCount_23, j_X8_wouldCount_24, hq3 h F w, hq4 h F w, q_isPile W I, hj, wm_is (wMF_M w), zb2_some, Option.bind_some, zb_t, zb_f, zb_0, q_chk1 w, q_chk0 w, if_true, if_false, ite_bf, Bool.false_eq_true, show ¬ (1 : Int32) = 0 by decide]
    · refine Or.inl ⟨?_, 0, fun h F w => ?_⟩
      · simp only [f_X7_wouldCount, k_dem3 K, k_dem4 K, et, hout, k_is K, k_hl K, hh_p K.2, hh_q K.2, zbx_some, zbx_none, Option.bind_some, zb_0, ite_bf, if_true, if_false, Bool.false_eq_true, zrNp_b]
      · have hq4 : f_X8_is x 4 (Int32.ofNat t) h = some 1 := by rw [q_is4 (wMF_M w) I, et]; rfl
        have hq3 : f_X8_is x 3 y2 h = some 0 := by rw [q_is3 (wMF_M w) I, hout]; rfl
        simp only [f_X8_wouldCount, j_X8_wouldCount_23, j_X8_wouldCount_24, hq3, hq4, wm_is (wMF_M w), zb2_some, Option.bind_some, zb_t, zb_f, zb_0, q_chk1 w, q_chk0 w, if_true, if_false, ite_bf, Bool.false_eq_true, show ¬ (1 : Int32) = 0 by decide]
  · refine Or.inl ⟨?_, 0, fun h F w => ?_⟩
    · simp only [f_X7_wouldCount, k_dem4 K, hout, k_is K, k_hl K, hh_p K.2, hh_q K.2, zbx_some, zbx_none, Option.bind_some, zb_0, ite_bf, if_true, if_false, Bool.false_eq_true, zrNp_b]
    · have hq : f_X8_is x 4 y1 h = some 0 := by rw [q_is4 (wMF_M w) I, hout]; rfl
      simp only [f_X8_wouldCount, j_X8_wouldCount_23, j_X8_wouldCount_24, hq, wm_is (wMF_M w), zb2_some, Option.bind_some, zb_t, zb_f, zb_0, q_chk1 w, q_chk0 w, if_true, if_false, ite_bf, Bool.false_eq_true, show ¬ (1 : Int32) = 0 by decide]
theorem r_countsLeft (K : wK hp c ld hl hi sb p q ea (S 2) (S 4)) (y1 : Int32) : zPR (fun h => f_X7_countsLeft c y1 h) (fun h => f_X8_countsLeft x y1 h) hp x S := by
  have I := hh_I K.2
  have hd := sI_bd I
  rcases inr_cases y1 (n := sN (S 2) 3) (by omega) with ⟨k, hk, rfl⟩ | hout
  · have ek := inr_T hk (by omega)
    have hc : ∀ {α : Type} (g : Unit → Option (Option α)), zbx (f_X7_demand c 3 (Int32.ofNat k) hp) g = g () := fun g => by rw [k_dem3 K, ek]; rfl
    have hq : ∀ h F, wMF h x F S → f_X8_is x 3 (Int32.ofNat k) h = some 1 := fun h F w => by rw [q_is3 (wMF_M w) I, ek]; rfl
    have hcc := sI_c I hk
    have e4 : ∀ k, k < 1000 → (Int32.ofNat k < 4) = (k < 4) := fun k hk => pn_lt (n := 4) (by omega) (by decide)
    have e4' : ∀ k, k < 1000 → ((4 : Int32) < Int32.ofNat k) = (4 < k) := fun k hk => pn_lt (i := 4) (by decide) (by omega)
    have e2 : Int32.ofNat (sC (S 4) k) + 2 = Int32.ofNat (sC (S 4) k + 2) := (Int32.ofNat_add _ 2).symm
    refine Or.inr ⟨(sLeft (S 2) (S 4) k), ?_, fun h F w => ?_⟩
    · simp (disch := omega) only [f_X7_countsLeft, k_is K, k_hl K, hh_p K.2, hh_q K.2, hc, Option.bind_some, zb_0, ite_bf, if_true, if_false, Bool.false_eq_true, zrNp_b, hs_bx K.2, hs_box K.2, H_left K.2]
    · have W := wMF_M (wMF_th w 0)
      simp (disch := omega) only [f_X8_countsLeft, hq h F w, wm_is (wMF_M w), zb2_some, Option.bind_some, zb_t, zb_f, zb_0, q_chk1 w, q_chk0 w, if_true, if_false, ite_bf, Bool.false_eq_true, show ¬ (1 : Int32) = 0 by decide, p_conf W I, zoi_m1 I hk, q_of3 W I, q_one W I, q_two W I, j_X8_countsLeft_48, e4, e4', e2]
      unfold sLeft
      have en : (sCf (S 2) (S 4) k).isNone = !(sCf (S 2) (S 4) k).isSome := by cases sCf (S 2) (S 4) k <;> rfl
      rw [en]
      cases (sCf (S 2) (S 4) k).isSome
      · cases sOne (S 2) (S 4) k
        · cases sTwo (S 2) k
          · simp
          · by_cases h2 : sC (S 4) k + 2 ≤ 4
            · simp [h2, show ¬ 4 < sC (S 4) k + 2 by omega, show sC (S 4) k < 4 by omega]
            · simp [h2, show 4 < sC (S 4) k + 2 by omega]
        · by_cases h1 : sC (S 4) k < 4
          · simp [h1]
          · simp [h1, show 4 < sC (S 4) k + 2 by omega, show ¬ sC (S 4) k + 2 ≤ 4 by omega]
      · simp
  · refine Or.inl ⟨?_, 0, fun h F w => ?_⟩
    · simp only [f_X7_countsLeft, k_dem3 K, hout, k_is K, k_hl K, hh_p K.2, hh_q K.2, zbx_some, zbx_none, Option.bind_some, zb_0, ite_bf, if_true, if_false, Bool.false_eq_true, zrNp_b]
    · have hq : f_X8_is x 3 y1 h = some 0 := by rw [q_is3 (wMF_M w) I, hout]; rfl
      simp only [f_X8_countsLeft, hq, wm_is (wMF_M w), zb2_some, Option.bind_some, zb_t, zb_f, zb_0, q_chk1 w, q_chk0 w, if_true, if_false, ite_bf, Bool.false_eq_true, show ¬ (1 : Int32) = 0 by decide]
end P38
