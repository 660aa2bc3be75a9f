/-! PURE: the class's hall, on: votes, margins, reasons, the next ward -/
section P36
variable {hp : zHp} {hl p q b : Nat} {T N : Nat → Int32}
theorem H_votes (H : wH hp hl p q T N) {k : Nat} (hk : k < sPi T) (w : Int32) : f_X1_foundInWard hl w (Int32.ofNat k) hp = some (sVo T N w k) := by
  have hd := sI_bd (hh_I H)
  simp only [f_X1_foundInWard, hh_is H, Option.bind_some]
  refine zFA (n := sN T 3) (zsum (fun b => if T (44 + b) = w then sVal T N b k else 0)) _ (by omega) (fun m i hi => ?_) (fun m => ?_)
  · simp (disch := omega) only [l_X1_foundInWard_5_s, b_X1_foundInWard_5, hh_p H, hh_q H, c_num H.2.1, c_n3 H.2.1, c_wards H.2.1, c_wardsA H.2.1 (hh_I H), hs_bx H, hs_box H, k_valid H, Option.bind_some, pn_lt, hi, if_true, zlet, pn_succ, zsum_s]
    by_cases e : T (44 + i) = w
    · rw [if_pos e, if_pos e]
    · rw [if_neg e, if_neg e, Int32.add_zero]
  · simp (disch := omega) only [l_X1_foundInWard_5_s, b_X1_foundInWard_5, hh_p H, c_num H.2.1, c_n3 H.2.1, Option.bind_some, Int32.lt_irrefl, if_false]
    rfl
theorem H_ahead (H : wH hp hl p q T N) (w : Int32) : f_X1_partyAhead hl w hp = some (sFst T N w) := by
  have hd := sI_bd (hh_I H)
  simp only [f_X1_partyAhead, hh_is H, Option.bind_some]
  refine zFB (n := sN T 0) (fun i => (sBM (sVo T N w) i).1) (fun i => (sBM (sVo T N w) i).2) _ (by omega) (fun m i hi => ?_) (fun m => ?_)
  · simp (disch := omega) only [l_X1_partyAhead_7_s, b_X1_partyAhead_7, hh_p H, c_num H.2.1, c_n0 H.2.1, H_votes H, Option.bind_some, pn_lt, hi, if_true, zlet, pn_succ, sBM, zmax]
    by_cases e : (sBM (sVo T N w) i).2 < sVo T N w i
    · rw [if_pos e, if_pos e, if_pos e]
    · rw [if_neg e, if_neg e, if_neg e]
  · simp (disch := omega) only [l_X1_partyAhead_7_s, b_X1_partyAhead_7, hh_p H, c_num H.2.1, c_n0 H.2.1, Option.bind_some, Int32.lt_irrefl, if_false]
    rfl
/-- the second, as the class keeps it -/
def sSec (f : Nat → Int32) : Nat → Int32
  | 0 => 0
  | n + 1 => zmax (sSec f n) (zmin (f n) (sBM f n).2)
theorem zmax_eq (x y : Int32) : zmax x y = if x < y then y else x := rfl
theorem sM2_all (f : Nat → Int32) (r : Int32) : ∀ n, (∀ k, k < n → ¬ Int32.ofNat k = r) → sM2 f r n = (sBM f n).2
  | 0, _ => rfl
  | n + 1, h => by
    show (if Int32.ofNat n = r then sM2 f r n else zmax (sM2 f r n) (f n)) = zmax (sBM f n).2 (f n)
    rw [if_neg (h n (by omega)), sM2_all f r n (fun k hk => h k (by omega))]
theorem sSec_le (f : Nat → Int32) : ∀ n, sSec f n ≤ (sBM f n).2
  | 0 => Int32.le_refl 0
  | n + 1 => by
    have ih := sSec_le f n
    show zmax (sSec f n) (zmin (f n) (sBM f n).2) ≤ zmax (sBM f n).2 (f n)
    unfold zmax zmin
    repeat' split
    all_goals first | omega | skip
    all_goals simp only [Int32.lt_iff_toInt_lt, Int32.le_iff_toInt_le, Int32.not_lt] at *
    all_goals omega
theorem sSec_eq (f : Nat → Int32) : ∀ n, n < 2147483648 → ((sBM f n).1 = -1 → (sBM f n).2 = 0 ∧ sSec f n = 0) ∧ (∀ k, k < n → (sBM f n).1 = Int32.ofNat k → (sBM f n).2 = f k ∧ sSec f n = sM2 f (Int32.ofNat k) n)
  | 0, _ => ⟨fun _ => ⟨rfl, rfl⟩, fun k hk => by omega⟩
  | n + 1, hn => by
    obtain ⟨ih1, ih2⟩ := sSec_eq f n (by omega)
    have hle := sSec_le f n
    have hb1 : (sBM f (n + 1)).1 = if (sBM f n).2 < f n then Int32.ofNat n else (sBM f n).1 := rfl
    have hb2 : (sBM f (n + 1)).2 = zmax (sBM f n).2 (f n) := rfl
    have hs : sSec f (n + 1) = zmax (sSec f n) (zmin (f n) (sBM f n).2) := rfl
    have hm : ∀ r, sM2 f r (n + 1) = if Int32.ofNat n = r then sM2 f r n else zmax (sM2 f r n) (f n) := fun r => rfl
    rw [hb1, hb2, hs]
    by_cases c : (sBM f n).2 < f n
    · rw [if_pos c]
      refine ⟨fun e => ?_, fun k hk e => ?_⟩
      · rw [pn_ne1 (by omega)] at e
        exact e.elim
      · rw [pn_inj (by omega) (by omega)] at e
        subst e
        rw [hm, if_pos rfl, sM2_all f _ n (fun k hk => by rw [pn_inj (by omega) (by omega)]; omega)]
        refine ⟨by unfold zmax; rw [if_pos c], ?_⟩
        have c2 : ¬ f n < (sBM f n).2 := by rw [Int32.lt_iff_toInt_lt] at *; omega
        have c2' : zmin (f n) (sBM f n).2 = (sBM f n).2 := by unfold zmin; rw [if_pos c]
        rw [c2']
        unfold zmax
        split
        · rfl
        · next h => exact Int32.le_antisymm hle (Int32.not_lt.mp h)
    · rw [if_neg c]
      have c2 : zmin (f n) (sBM f n).2 = f n := by unfold zmin; rw [if_neg c]
      have c3 : zmax (sBM f n).2 (f n) = (sBM f n).2 := by unfold zmax; rw [if_neg c]
      rw [c2, c3]
      refine ⟨fun e => ?_, fun k hk e => ?_⟩
      · obtain ⟨e1, e2⟩ := ih1 e
        refine ⟨e1, ?_⟩
        rw [e2]
        rw [e1] at c
        unfold zmax
        rw [if_neg c]
      · have hk2 : k < n := by
          rcases sBM_i f n with e' | ⟨j, hj, e'⟩
          · rw [e', eq_comm, pn_ne1 (by omega)] at e
            exact e.elim
          · rw [e', pn_inj (by omega) (by omega)] at e
            omega
        obtain ⟨e1, e2⟩ := ih2 k hk2 e
        refine ⟨e1, ?_⟩
        rw [hm, if_neg (by rw [pn_inj (by omega) (by omega)]; omega), ← e2]
theorem H_lead (H : wH hp hl p q T N) (w : Int32) : f_X1_lead hl w hp = some (sMar T N w) := by
  have hd := sI_bd (hh_I H)
  simp only [f_X1_lead, hh_is H, Option.bind_some]
  refine (zFB (n := sN T 0) (fun i => (sBM (sVo T N w) i).2) (fun i => sSec (sVo T N w) i) (some ((sBM (sVo T N w) (sN T 0)).2 - sSec (sVo T N w) (sN T 0))) (by omega) (fun m i hi => ?_) (fun m => ?_)).trans ?_
  · simp (disch := omega) only [l_X1_lead_7_s, b_X1_lead_7, hh_p H, c_num H.2.1, c_n0 H.2.1, H_votes H, Option.bind_some, pn_lt, hi, if_true, zlet, pn_succ, sBM, sSec]
  · simp (disch := omega) only [l_X1_lead_7_s, b_X1_lead_7, hh_p H, c_num H.2.1, c_n0 H.2.1, Option.bind_some, Int32.lt_irrefl, if_false]
  · obtain ⟨h1, h2⟩ := sSec_eq (sVo T N w) (sN T 0) (by omega)
    unfold sMar
    by_cases e : sFst T N w = -1
    · rw [if_pos e]
      obtain ⟨e1, e2⟩ := h1 e
      rw [e1, e2]
      rfl
    · rw [if_neg e]
      obtain ⟨k, hk, e'⟩ : ∃ k, k < sN T 0 ∧ sFst T N w = Int32.ofNat k := (sBM_i _ _).resolve_left e
      obtain ⟨e1, e2⟩ := h2 k hk e'
      rw [e1, e2, e', pn_nat (by omega)]
theorem H_close (H : wH hp hl p q T N) (w : Int32) : f_X1_isWardClose hl w hp = some (zb (sNear T N w)) := by
  have hd := sI_bd (hh_I H)
  simp only [f_X1_isWardClose, hh_is H, Option.bind_some]
  refine (zFA (n := sN T 0) (zsum (fun k => sVo T N w k)) (if 0 < sAll T N w then (if N 0 * sAll T N w < sMar T N w * 100 then some 0 else some 1) else some 0) (by omega) (fun m i hi => ?_) (fun m => ?_)).trans ?_
  · simp (disch := omega) only [l_X1_isWardClose_4_s, b_X1_isWardClose_4, hh_p H, c_num H.2.1, c_n0 H.2.1, H_votes H, Option.bind_some, pn_lt, hi, if_true, zlet, pn_succ, zsum_s]
  · simp (disch := omega) only [l_X1_isWardClose_4_s, b_X1_isWardClose_4, hh_p H, hh_q H, c_num H.2.1, c_n0 H.2.1, H_lead H, hs_set H, hs_s0 H, Option.bind_some, Int32.lt_irrefl, if_false]
    rfl
  · unfold sNear
    rw [Int32.mul_comm (sMar T N w) 100]
    by_cases e : 0 < sAll T N w
    · rw [if_pos e, decide_eq_true e, ite_some_zbP']; rfl
    · rw [if_neg e, decide_eq_false e]; rfl
theorem H_decl (H : wH hp hl p q T N) (w : Int32) : f_X1_isWardDeclared hl w hp = some (zb (sDecl N w)) := by
  have hd := sI_d (hh_I H)
  simp only [f_X1_isWardDeclared, hh_is H, Option.bind_some]
  refine (zFC (n := sD N) (fun k => decide (N (3 + k) = w)) _ _ (by omega) (fun m i hi => ?_) (fun m => ?_)).trans (ite_some_zb _)
  · simp (disch := omega) only [l_X1_isWardDeclared_2_s, b_X1_isWardDeclared_2, hh_q H, hs_dw H, hs_ord H, hs_oA H, Option.bind_some, pn_lt, hi, if_true, zlet, pn_succ, decide_eq_true_eq]
  · simp (disch := omega) only [l_X1_isWardDeclared_2_s, b_X1_isWardDeclared_2, hh_q H, hs_dw H, Option.bind_some, Int32.lt_irrefl, if_false]
theorem zFE {R A1 A2 A3 A4 A5 : Type} {l : Nat → A1 → A2 → A3 → A4 → A5 → Int32 → Option R} {n m : Nat} (s1 : Nat → A1) (s2 : Nat → A2) (s3 : Nat → A3) (s4 : Nat → A4) (s5 : Nat → A5) (res : Option R) (hm : n < m)
    (hs : ∀ m i, i < n → l (m + 1) (s1 i) (s2 i) (s3 i) (s4 i) (s5 i) (Int32.ofNat i) = l m (s1 (i + 1)) (s2 (i + 1)) (s3 (i + 1)) (s4 (i + 1)) (s5 (i + 1)) (Int32.ofNat (i + 1))) (he : ∀ m, l (m + 1) (s1 n) (s2 n) (s3 n) (s4 n) (s5 n) (Int32.ofNat n) = res) : l m (s1 0) (s2 0) (s3 0) (s4 0) (s5 0) 0 = res :=
  zloop (A := A1 × A2 × A3 × A4 × A5 × Int32) (fun m a => l m a.1 a.2.1 a.2.2.1 a.2.2.2.1 a.2.2.2.2.1 a.2.2.2.2.2) n (fun i => (s1 i, s2 i, s3 i, s4 i, s5 i, Int32.ofNat i)) res (fun m i hi => hs m i hi) (fun m => he m) m hm
def sZ (T N : Nat → Int32) (w : Int32) (c : Nat) (b : Nat) : Bool := decide (T (44 + b) = w) && (if c = 0 then true else if c = 1 then decide (sC N b = 0) else if c = 2 then !decide (sF N b 0 = -4) else if c = 3 then ((sCf T N b).isNone && sOff T N b) else (sCf T N b).isNone)
theorem H_reasonL (H : wH hp hl p q T N) (w : Int32) (K : Int32 → Int32 → Int32 → Int32 → Int32 → Option Int32) : l_X1_reasonAgainst_26 K hl w hp 1000000 1 0 0 0 0 0 = K (zb (!zany (sZ T N w 0) (sN T 3))) (zb (zany (sZ T N w 1) (sN T 3))) (zb (zany (sZ T N w 2) (sN T 3))) (zb (zany (sZ T N w 3) (sN T 3))) (zb (zany (sZ T N w 4) (sN T 3))) := by
  have hd := sI_bd (hh_I H)
  refine zFE (n := sN T 3) (fun i => zb (!zany (sZ T N w 0) i)) (fun i => zb (zany (sZ T N w 1) i)) (fun i => zb (zany (sZ T N w 2) i)) (fun i => zb (zany (sZ T N w 3) i)) (fun i => zb (zany (sZ T N w 4) i)) _ (by omega) (fun m i hi => ?_) (fun m => ?_)
  · have hc := sI_c (hh_I H) hi
    have en : (sCf T N i).isNone = !(sCf T N i).isSome := by cases sCf T N i <;> rfl
    have o0 : ∀ z : Bool, zb z ||| 0 = zb z := fun z => by cases z <;> decide
    have o1 : ∀ z : Bool, zb z ||| 1 = 1 := fun z => by cases z <;> decide
    have o10 : ((1 : Int32) = 0) = False := eq_false (by decide)
    simp (disch := omega) only [l_X1_reasonAgainst_26_s, b_X1_reasonAgainst_26, hh_p H, hh_q H, c_num H.2.1, c_n3 H.2.1, c_wards H.2.1, c_wardsA H.2.1 (hh_I H), hs_bx H, hs_box H, k_cnt H, Option.bind_some, pn_lt, hi, if_true, pn_succ, zany_s, pn_eq0, zlet]
    by_cases e : T (44 + i) = w
    · have z0 : sZ T N w 0 i = true := by unfold sZ; rw [decide_eq_true e]; rfl
      have z1 : sZ T N w 1 i = decide (sC N i = 0) := by unfold sZ; rw [decide_eq_true e]; rfl
      have z2 : sZ T N w 2 i = !decide (sF N i 0 = -4) := by unfold sZ; rw [decide_eq_true e]; rfl
      have z3 : sZ T N w 3 i = (!(sCf T N i).isSome && sOff T N i) := by unfold sZ; rw [decide_eq_true e, en]; rfl
      have z4 : sZ T N w 4 i = !(sCf T N i).isSome := by unfold sZ; rw [decide_eq_true e, en]; rfl
      rw [if_pos e, z0, z1, z2, z3, z4]
      by_cases e1 : sC N i = 0 <;> by_cases e2 : sF N i 0 = -4 <;> cases e3 : sOff T N i <;> cases e4 : (sCf T N i).isSome <;>
        simp (disch := omega) only [e1, e2, e3, e4, ↓reduceIte, j_X1_reasonAgainst_82, j_X1_reasonAgainst_101, j_X1_reasonAgainst_127, j_X1_reasonAgainst_128, j_X1_reasonAgainst_146, k_place H, k_conf H, H_off H, Option.bind_some, zb_0, zlet, pn_succ, o0, o1, o10, decide_true, decide_false, Bool.not_true, Bool.not_false, Bool.or_true, Bool.or_false, Bool.and_true, Bool.and_false, Bool.true_and, Bool.false_and, zb_t, zb_f, Bool.true_eq_false]
    · have zz : ∀ c, sZ T N w c i = false := fun c => by unfold sZ; rw [decide_eq_false e]; rfl
      rw [if_neg e]
      simp only [zz, Bool.or_false]
  · simp (disch := omega) only [l_X1_reasonAgainst_26_s, b_X1_reasonAgainst_26, hh_p H, c_num H.2.1, c_n3 H.2.1, Option.bind_some, Int32.lt_irrefl, if_false]
theorem H_reason (H : wH hp hl p q T N) (w : Int32) : f_X1_reasonAgainst hl w hp = some (sAga T N w) := by
  simp only [f_X1_reasonAgainst, hh_is H, Option.bind_some, H_decl H, zb_0, H_reasonL H, H_close H]
  have hs : sAga T N w = if sDecl N w then 1 else if !zany (sZ T N w 0) (sN T 3) || zany (sZ T N w 1) (sN T 3) then 2 else if zany (sZ T N w 2) (sN T 3) then 3 else if zany (sZ T N w 3) (sN T 3) then 4 else if sNear T N w && zany (sZ T N w 4) (sN T 3) then 5 else 0 := rfl
  rw [hs]
  cases sDecl N w
  · cases zany (sZ T N w 0) (sN T 3)
    · rfl
    · cases zany (sZ T N w 1) (sN T 3)
      · cases zany (sZ T N w 2) (sN T 3)
        · cases zany (sZ T N w 3) (sN T 3)
          · cases zany (sZ T N w 4) (sN T 3) <;> cases sNear T N w <;> rfl
          · rfl
        · rfl
      · rfl
  · rfl
theorem H_must (H : wH hp hl p q T N) {b : Nat} (hb : b < sN T 3) : f_X1_mustBeCounted hl (Int32.ofNat b) hp = some (zb (sMust T N b)) := by
  have hd := sI_bd (hh_I H)
  have hc := sI_c (hh_I H) hb
  have en : (sCf T N b).isNone = !(sCf T N b).isSome := by cases sCf T N b <;> rfl
  simp (disch := omega) only [f_X1_mustBeCounted, hh_is H, hh_p H, hh_q H, c_wards H.2.1, c_wardsA H.2.1 (hh_I H), hs_bx H, hs_box H, k_conf H, k_cnt H, H_decl H, H_off H, H_close H, Option.bind_some, zb_0, pn_eq0]
  unfold sMust
  rw [en]
  by_cases e : sC N b = 0
  · have e2 : (sCf T N b).isSome = false := by
      cases hk : sCf T N b with
      | none => rfl
      | some k => have := sCf_lt hk; omega
    rw [e2]
    cases sDecl N (T (44 + b)) <;> simp [e, zb]
  · cases (sCf T N b).isSome <;> cases sDecl N (T (44 + b)) <;> cases sOff T N b <;> cases sNear T N (T (44 + b)) <;> simp [e, zb]
theorem H_due (H : wH hp hl p q T N) : f_X1_boxesToCount hl hp = some (sDue T N) := by
  have hd := sI_bd (hh_I H)
  simp only [f_X1_boxesToCount, hh_is H, Option.bind_some]
  refine zFA (n := sN T 3) (sOr (sMust T N)) _ (by omega) (fun m i hi => ?_) (fun m => ?_)
  · simp (disch := omega) only [l_X1_boxesToCount_4_s, b_X1_boxesToCount_4, hh_p H, c_num H.2.1, c_n3 H.2.1, H_must H, Option.bind_some, pn_lt, hi, if_true, zlet, pn_succ, zb_0, sOr]
    cases sMust T N i
    · simp
    · simp
  · simp (disch := omega) only [l_X1_boxesToCount_4_s, b_X1_boxesToCount_4, hh_p H, c_num H.2.1, c_n3 H.2.1, Option.bind_some, Int32.lt_irrefl, if_false]
    rfl
theorem H_all (H : wH hp hl p q T N) (w : Int32) : f_X1_foundInAll hl w hp = some (sAll T N w + sVo T N w (sN T 0)) := by
  have hd := sI_bd (hh_I H)
  simp only [f_X1_foundInAll, hh_is H, Option.bind_some]
  refine zFA (n := sPi T) (zsum (fun k => sVo T N w k)) _ (by omega) (fun m i hi => ?_) (fun m => ?_)
  · simp (disch := omega) only [l_X1_foundInAll_4_s, b_X1_foundInAll_4, hh_p H, c_piles H.2.1, H_votes H, Option.bind_some, pn_lt, hi, if_true, zlet, pn_succ, zsum_s]
  · simp (disch := omega) only [l_X1_foundInAll_4_s, b_X1_foundInAll_4, hh_p H, c_piles H.2.1, Option.bind_some, Int32.lt_irrefl, if_false]
    rfl
/-! small numbers -/
theorem zsum_small {f : Nat → Int32} {B : Nat} : ∀ {n : Nat}, n * B < 2147483648 → (∀ k, k < n → ∃ r, r ≤ B ∧ f k = Int32.ofNat r) → ∃ r, r ≤ n * B ∧ zsum f n = Int32.ofNat r
  | 0, _, _ => ⟨0, by omega, rfl⟩
  | n + 1, hn, h => by
    have e : (n + 1) * B = n * B + B := Nat.succ_mul n B
    obtain ⟨r, h1, h2⟩ := zsum_small (f := f) (n := n) (by omega) (fun k hk => h k (by omega))
    obtain ⟨s, g1, g2⟩ := h n (by omega)
    exact ⟨r + s, by omega, by rw [zsum_s, h2, g2, ixa]⟩
theorem sVal_small {T N : Nat → Int32} (I : sI T N) {b k : Nat} (hb : b < sN T 3) (hk : k < sPi T) : ∃ r, r ≤ 600 ∧ sVal T N b k = Int32.ofNat r := by
  unfold sVal
  by_cases e : sC N b = 0
  · rw [if_pos e]
    exact ⟨0, by omega, rfl⟩
  · rw [if_neg e]
    obtain ⟨r, h1, h2⟩ := sI_f I hb (sVi_lt (T := T) e) hk
    exact ⟨r, h2, h1⟩
theorem sVo_small {T N : Nat → Int32} (I : sI T N) {k : Nat} (hk : k < sPi T) (w : Int32) : ∃ r, r ≤ 7200 ∧ sVo T N w k = Int32.ofNat r := by
  have hd := sI_bd I
  have h600 : sN T 3 * 600 ≤ 12 * 600 := Nat.mul_le_mul_right 600 (by omega)
  obtain ⟨r, h1, h2⟩ := zsum_small (f := fun b => if T (44 + b) = w then sVal T N b k else 0) (B := 600) (n := sN T 3) (by omega) (fun b hb => by
    by_cases e : T (44 + b) = w
    · rw [if_pos e]; exact sVal_small I hb hk
    · rw [if_neg e]; exact ⟨0, by omega, rfl⟩)
  exact ⟨r, by omega, h2⟩
theorem sAV_small {T N : Nat → Int32} (I : sI T N) (w : Int32) : ∃ r, r ≤ 43200 ∧ sAll T N w + sVo T N w (sN T 0) = Int32.ofNat r := by
  have hd := sI_bd I
  have h600 : sPi T * 7200 ≤ 6 * 7200 := Nat.mul_le_mul_right 7200 (by omega)
  obtain ⟨r, h1, h2⟩ := zsum_small (f := fun k => sVo T N w k) (B := 7200) (n := sPi T) (by omega) (fun k hk => sVo_small I hk w)
  exact ⟨r, by omega, h2⟩
theorem H_next (H : wH hp hl p q T N) : f_X1_nextReady hl hp = some (sCome T N) := by
  have hd := sI_bd (hh_I H)
  simp only [f_X1_nextReady, hh_is H, Option.bind_some]
  have hX : ∀ i, i < 100 → (sCm T N i).1 = -1 → (sCm T N i).2 = 100000 := fun i => by
    induction i with
    | zero => intro _ _; rfl
    | succ i ih =>
      intro hi
      unfold sCm
      split
      · intro e
        rw [show (Int32.ofNat i, sAll T N (Int32.ofNat i) + sVo T N (Int32.ofNat i) (sN T 0)).1 = Int32.ofNat i from rfl, pn_ne1 (by omega)] at e
        exact e.elim
      · exact ih (by omega)
  refine zFB (n := sN T 2) (fun i => (sCm T N i).1) (fun i => if (sCm T N i).1 = -1 then 0 else (sCm T N i).2) _ (by omega) (fun m i hi => ?_) (fun m => ?_)
  · obtain ⟨r, hr, er⟩ := sAV_small (hh_I H) (Int32.ofNat i)
    have hbig : Int32.ofNat r < 100000 := by
      rw [show (100000 : Int32) = Int32.ofNat 100000 from rfl, pn_lt (by omega) (by decide)]
      omega
    simp (disch := omega) only [l_X1_nextReady_6_s, b_X1_nextReady_6, j_X1_nextReady_37, hh_p H, c_num H.2.1, c_n2 H.2.1, H_all H, H_reason H, Option.bind_some, pn_lt, hi, if_true, zlet, pn_succ, sCm, er]
    by_cases e1 : (sCm T N i).1 = -1
    · rw [hX i (by omega) e1]
      by_cases e2 : sAga T N (Int32.ofNat i) = 0
      · simp (disch := omega) [e1, e2, hbig, pn_ne1]
      · simp [e1, e2]
    · by_cases e2 : sAga T N (Int32.ofNat i) = 0
      · by_cases e3 : Int32.ofNat r < (sCm T N i).2
        · simp (disch := omega) [e1, e2, e3, pn_ne1]
        · simp [e1, e2, e3]
      · simp [e1, e2]
  · simp (disch := omega) only [l_X1_nextReady_6_s, b_X1_nextReady_6, hh_p H, c_num H.2.1, c_n2 H.2.1, Option.bind_some, Int32.lt_irrefl, if_false]
    rfl
end P36

