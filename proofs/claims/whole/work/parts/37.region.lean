/-! PURE: regions; the sums over declared wards; the reference's last readers -/
section P37
variable {hp : zHp} {hl p q b x : Nat} {T N : Nat → Int32} {S : Nat → Nat → Int32}
theorem zrNb (b : Bool) : zrNp .boolean (zb b) = some (zb b) := by cases b <;> rfl
/-! the reference -/
theorem q_isInA (h : wM hp x S) (I : sI (S 2) (S 4)) (o : Int32) : ∀ r m d, r < sN (S 2) 1 → r + 1 < m → r + 1 < d → l_X8_isIn_2 (some 1) (some 0) x o hp m (Int32.ofNat r) = some (zb (sIn (S 2) d (Int32.ofNat r) o)) := by
  intro r
  induction r using Nat.strongRecOn with
  | ind r ih =>
    intro m d hr hm hd
    obtain ⟨m, rfl⟩ : ∃ k, m = k + 1 := ⟨m - 1, by omega⟩
    obtain ⟨d, rfl⟩ : ∃ k, d = k + 1 := ⟨d - 1, by omega⟩
    have hb := sI_bd I
    simp (disch := omega) only [l_X8_isIn_2_s, b_X8_isIn_2, sIn, pn_ne1, if_false, wm_T h, ix33, wm_told h, Option.bind_some, pn_nat]
    by_cases e : Int32.ofNat r = o
    · rw [if_pos e, if_pos e]; rfl
    · rw [if_neg e, if_neg e]
      rcases sI_r I hr with e1 | ⟨k, hk, e1⟩
      · rw [e1]
        obtain ⟨m, rfl⟩ : ∃ k, m = k + 1 := ⟨m - 1, by omega⟩
        obtain ⟨d, rfl⟩ : ∃ k, d = k + 1 := ⟨d - 1, by omega⟩
        rfl
      · rw [e1]
        exact ih k hk m d (by omega) (by omega) (by omega)
theorem q_isWardIn (h : wM hp x S) (I : sI (S 2) (S 4)) {w : Nat} (hw : w < sN (S 2) 2) (o : Int32) : f_X8_isWardIn x (Int32.ofNat w) o hp = some (zb (sWin (S 2) w o)) := by
  have hb := sI_bd I
  obtain ⟨r, hr, e⟩ := sI_w I hw
  simp (disch := omega) only [f_X8_isWardIn, wm_is h, wm_T h, ix38, wm_told h, Option.bind_some, f_X8_isIn, e, q_isInA h I o r 1000000 6 hr (by omega) (by omega)]
  rw [zrNb]
  unfold sWin
  rw [e]
def sSt (T N : Nat → Int32) (r : Int32) (g : Nat → Bool) : Int32 := zsum (fun w => if (sWin T w r && (sDecl N (Int32.ofNat w) && g w)) = true then 1 else 0) (sN T 2)
theorem sCnt_eq (f : Nat → Bool) : ∀ n, sCnt f n = zsum (fun k => if f k = true then 1 else 0) n
  | 0 => rfl
  | n + 1 => by show sCnt f n + _ = zsum _ n + _; rw [sCnt_eq f n]
theorem q_seats (h : wM hp x S) (I : sI (S 2) (S 4)) (r y : Int32) : f_X8_seats x r y hp = some (sSeat (S 2) (S 4) r y) := by
  have hd := sI_bd I
  simp only [f_X8_seats, wm_is h, Option.bind_some]
  refine zFA (n := sN (S 2) 2) (sCnt (fun w => sWin (S 2) w r && (sDecl (S 4) (Int32.ofNat w) && decide (sFst (S 2) (S 4) (Int32.ofNat w) = y)))) _ (by omega) (fun m i hi => ?_) (fun m => ?_)
  · simp (disch := omega) only [l_X8_seats_5_s, b_X8_seats_5, j_X8_seats_49, j_X8_seats_50, q_many2 h I, q_isWardIn h I, p_isDecl h I, q_first h I, Option.bind_some, pn_lt, hi, if_true, zlet, pn_succ, zb_0, sCnt]
    by_cases q1 : sWin (S 2) i r = true
    · by_cases q2 : sDecl (S 4) (Int32.ofNat i) = true
      · by_cases e : sFst (S 2) (S 4) (Int32.ofNat i) = y
        · simp [q1, q2, e]
        · simp [q1, q2, e]
      · simp [q1, q2]
    · simp [q1]
  · simp (disch := omega) only [l_X8_seats_5_s, b_X8_seats_5, q_many2 h I, Option.bind_some, Int32.lt_irrefl, if_false]
    rfl
theorem q_und (h : wM hp x S) (I : sI (S 2) (S 4)) (r : Int32) : f_X8_undeclared x r hp = some (sUnd (S 2) (S 4) r) := by
  have hd := sI_bd I
  simp only [f_X8_undeclared, wm_is h, Option.bind_some]
  refine zFA (n := sN (S 2) 2) (sCnt (fun w => sWin (S 2) w r && !sDecl (S 4) (Int32.ofNat w))) _ (by omega) (fun m i hi => ?_) (fun m => ?_)
  · simp (disch := omega) only [l_X8_undeclared_4_s, b_X8_undeclared_4, j_X8_undeclared_35, j_X8_undeclared_36, q_many2 h I, q_isWardIn h I, p_isDecl h I, Option.bind_some, pn_lt, hi, if_true, zlet, pn_succ, zb_0, sCnt]
    by_cases q1 : sWin (S 2) i r = true
    · by_cases q2 : sDecl (S 4) (Int32.ofNat i) = true
      · simp [q1, q2]
      · simp [q1, q2]
    · simp [q1]
  · simp (disch := omega) only [l_X8_undeclared_4_s, b_X8_undeclared_4, q_many2 h I, Option.bind_some, Int32.lt_irrefl, if_false]
    rfl
def sBey (T N : Nat → Int32) (r y : Int32) : Bool := !zany (fun k => !decide (Int32.ofNat k = y) && !decide (sSeat T N r (Int32.ofNat k) + sUnd T N r < sSeat T N r y)) (sN T 0)
theorem q_bey (h : wM hp x S) (I : sI (S 2) (S 4)) (r y : Int32) : f_X8_isBeyond x r y hp = some (zb (sBey (S 2) (S 4) r y)) := by
  have hd := sI_bd I
  simp only [f_X8_isBeyond, wm_is h, Option.bind_some]
  refine (zFC (n := sN (S 2) 0) (fun k => !decide (Int32.ofNat k = y) && !decide (sSeat (S 2) (S 4) r (Int32.ofNat k) + sUnd (S 2) (S 4) r < sSeat (S 2) (S 4) r y)) _ _ (by omega) (fun m i hi => ?_) (fun m => ?_)).trans (ite_some_zb' _)
  · simp (disch := omega) only [l_X8_isBeyond_2_s, b_X8_isBeyond_2, q_many0 h I, q_seats h I, q_und h I, Option.bind_some, pn_lt, hi, if_true, zlet, pn_succ]
    by_cases e : Int32.ofNat i = y
    · simp [e]
    · by_cases e2 : sSeat (S 2) (S 4) r (Int32.ofNat i) + sUnd (S 2) (S 4) r < sSeat (S 2) (S 4) r y
      · simp [e, e2]
      · simp [e, e2]
  · simp (disch := omega) only [l_X8_isBeyond_2_s, b_X8_isBeyond_2, q_many0 h I, Option.bind_some, Int32.lt_irrefl, if_false]
theorem q_wouldAgree (h : wM hp x S) (I : sI (S 2) (S 4)) {t b c : Nat} (ht : t < sN (S 2) 4) (hb : b < sN (S 2) 3) (hc : c < sC (S 4) b) : f_X8_wouldAgree x (Int32.ofNat t) (Int32.ofNat b) (Int32.ofNat c) hp = some (zb (sRep (S 2) (S 4) b t c)) := by
  have hd := sI_bd I
  have hc2 := sI_c I hb
  simp (disch := omega) only [f_X8_wouldAgree, wm_is h, Option.bind_some, ix16, q_of h]
  unfold sRep
  by_cases q : sF (S 4) b (16 + c) = Int32.ofNat t
  · rw [if_pos q, decide_eq_true q]; rfl
  · rw [if_neg q, decide_eq_false q]
    refine (zFC (n := sPi (S 2)) (fun k => !decide (sFi (S 2) t b k = sFd (S 4) b c k)) (some 0) (some 1) (by omega) (fun m i hi => ?_) (fun m => ?_)).trans ?_
    · simp (disch := omega) only [l_X8_wouldAgree_18_s, b_X8_wouldAgree_18, p_piles h I, p_finds h I, p_found h, Option.bind_some, pn_lt, hi, if_true, zlet, pn_succ]
      by_cases e : sFi (S 2) t b i = sFd (S 4) b c i
      · simp [e]
      · simp [e]
    · simp (disch := omega) only [l_X8_wouldAgree_18_s, b_X8_wouldAgree_18, p_piles h I, Option.bind_some, Int32.lt_irrefl, if_false]
    · unfold sSame
      cases zff (fun k => !decide (sFi (S 2) t b k = sFd (S 4) b c k)) (sPi (S 2)) 0 <;> rfl
theorem q_findAlike (h : wM hp x S) (I : sI (S 2) (S 4)) {t b u : Nat} (ht : t < sN (S 2) 4) (hb : b < sN (S 2) 3) (hu : u < sN (S 2) 4) : f_X8_findAlike x (Int32.ofNat t) (Int32.ofNat u) (Int32.ofNat b) hp = some (zb (sAlk (S 2) b t u)) := by
  have hd := sI_bd I
  simp (disch := omega) only [f_X8_findAlike, wm_is h, Option.bind_some]
  refine (zFC (n := sPi (S 2)) (fun k => !decide (sFi (S 2) t b k = sFi (S 2) u b k)) (some 0) (some 1) (by omega) (fun m i hi => ?_) (fun m => ?_)).trans ?_
  · simp (disch := omega) only [l_X8_findAlike_3_s, b_X8_findAlike_3, p_piles h I, p_finds h I, Option.bind_some, pn_lt, hi, if_true, zlet, pn_succ]
    by_cases e : sFi (S 2) t b i = sFi (S 2) u b i
    · simp [e]
    · simp [e]
  · simp (disch := omega) only [l_X8_findAlike_3_s, b_X8_findAlike_3, p_piles h I, Option.bind_some, Int32.lt_irrefl, if_false]
  · unfold sAlk sSame
    cases zff (fun k => !decide (sFi (S 2) t b k = sFi (S 2) u b k)) (sPi (S 2)) 0 <;> rfl
theorem q_one (h : wM hp x S) (I : sI (S 2) (S 4)) {b : Nat} (hb : b < sN (S 2) 3) : f_X8_isOneEnough x (Int32.ofNat b) hp = some (zb (sOne (S 2) (S 4) b)) := by
  have hd := sI_bd I
  have hc := sI_c I hb
  simp only [f_X8_isOneEnough, wm_is h, Option.bind_some]
  refine (zFC (n := sN (S 2) 4) (fun t => zany (fun c => sRep (S 2) (S 4) b t c) (sC (S 4) b)) _ _ (by omega) (fun m i hi => ?_) (fun m => ?_)).trans (ite_some_zb _)
  · simp (disch := omega) only [l_X8_isOneEnough_2_s, b_X8_isOneEnough_2, q_many4 h I, Option.bind_some, pn_lt, hi, if_true]
    refine zFC (n := sC (S 4) b) (fun c => sRep (S 2) (S 4) b i c) _ _ (by omega) (fun m j hj => ?_) (fun m => ?_)
    · simp (disch := omega) only [l_X8_isOneEnough_13_s, b_X8_isOneEnough_13, q_of3 h I, q_wouldAgree h I, Option.bind_some, pn_lt, hj, if_true, zlet, pn_succ, zb_0, ite_bf]
    · simp (disch := omega) only [l_X8_isOneEnough_13_s, b_X8_isOneEnough_13, q_of3 h I, Option.bind_some, Int32.lt_irrefl, if_false, zlet, pn_succ]
  · simp (disch := omega) only [l_X8_isOneEnough_2_s, b_X8_isOneEnough_2, q_many4 h I, Option.bind_some, Int32.lt_irrefl, if_false]
theorem q_two (h : wM hp x S) (I : sI (S 2) (S 4)) {b : Nat} (hb : b < sN (S 2) 3) : f_X8_areTwoEnough x (Int32.ofNat b) hp = some (zb (sTwo (S 2) b)) := by
  have hd := sI_bd I
  simp only [f_X8_areTwoEnough, wm_is h, Option.bind_some]
  refine (zFC (n := sN (S 2) 4) (fun t => zany (fun u => sAlk (S 2) b t u) t) _ _ (by omega) (fun m i hi => ?_) (fun m => ?_)).trans (ite_some_zb _)
  · simp (disch := omega) only [l_X8_areTwoEnough_2_s, b_X8_areTwoEnough_2, q_many4 h I, Option.bind_some, pn_lt, hi, if_true]
    refine zFC (n := i) (fun u => sAlk (S 2) b i u) _ _ (by omega) (fun m j hj => ?_) (fun m => ?_)
    · simp (disch := omega) only [l_X8_areTwoEnough_13_s, b_X8_areTwoEnough_13, q_findAlike h I, Option.bind_some, pn_lt, hj, if_true, zlet, pn_succ, zb_0, ite_bf]
    · simp (disch := omega) only [l_X8_areTwoEnough_13_s, b_X8_areTwoEnough_13, Option.bind_some, Int32.lt_irrefl, if_false, zlet, pn_succ]
  · simp (disch := omega) only [l_X8_areTwoEnough_2_s, b_X8_areTwoEnough_2, q_many4 h I, Option.bind_some, Int32.lt_irrefl, if_false]
theorem q_isWrong (h : wM hp x S) (I : sI (S 2) (S 4)) {b c : Nat} (hb : b < sN (S 2) 3) (hc : c < sC (S 4) b) : f_X8_isWrong x (Int32.ofNat b) (Int32.ofNat c) hp = some (zb (sWr (S 2) (S 4) b c)) := by
  have hd := sI_bd I
  have hc2 := sI_c I hb
  simp only [f_X8_isWrong, wm_is h, Option.bind_some]
  refine (zFC (n := sPi (S 2)) (fun k => !decide (sFd (S 4) b c k = sPap (S 2) b k)) _ _ (by omega) (fun m i hi => ?_) (fun m => ?_)).trans (ite_some_zb _)
  · simp (disch := omega) only [l_X8_isWrong_2_s, b_X8_isWrong_2, p_piles h I, p_found h, p_paper h, Option.bind_some, pn_lt, hi, if_true, zlet, pn_succ]
    by_cases e : sFd (S 4) b c i = sPap (S 2) b i
    · simp [e]
    · simp [e]
  · simp (disch := omega) only [l_X8_isWrong_2_s, b_X8_isWrong_2, p_piles h I, Option.bind_some, Int32.lt_irrefl, if_false]
theorem q_inHall (h : wM hp x S) (I : sI (S 2) (S 4)) : f_X8_inHall x hp = some (sInH (S 2) (S 4)) := by
  have hd := sI_bd I
  simp only [f_X8_inHall, wm_is h, Option.bind_some]
  refine zFA (n := sN (S 2) 3) (zsum (fun b => if sF (S 4) b 0 = -4 then 1 else 0)) _ (by omega) (fun m i hi => ?_) (fun m => ?_)
  · simp (disch := omega) only [l_X8_inHall_4_s, b_X8_inHall_4, j_X8_inHall_30, q_many3 h I, q_of0 h, Option.bind_some, pn_lt, hi, if_true, zlet, pn_succ, zsum_s]
    by_cases e : sF (S 4) i 0 = -4
    · rw [if_pos e, if_pos e]
    · rw [if_neg e, if_neg e]
  · simp (disch := omega) only [l_X8_inHall_4_s, b_X8_inHall_4, q_many3 h I, Option.bind_some, Int32.lt_irrefl, if_false]
    rfl
theorem q_was (h : wM hp x S) (I : sI (S 2) (S 4)) {b : Nat} (hb : b < sN (S 2) 3) (t : Int32) : f_X8_wasCountedAt x (Int32.ofNat b) t hp = some (zb (sWas (S 4) b t)) := by
  have hd := sI_bd I
  have hc := sI_c I hb
  simp only [f_X8_wasCountedAt, wm_is h, Option.bind_some]
  refine (zFC (n := sC (S 4) b) (fun c => decide (sF (S 4) b (16 + c) = t)) _ _ (by omega) (fun m i hi => ?_) (fun m => ?_)).trans (ite_some_zb _)
  · simp (disch := omega) only [l_X8_wasCountedAt_2_s, b_X8_wasCountedAt_2, q_of3 h I, ix16, q_of h, Option.bind_some, pn_lt, hi, if_true, zlet, pn_succ, decide_eq_true_eq]
  · simp (disch := omega) only [l_X8_wasCountedAt_2_s, b_X8_wasCountedAt_2, q_of3 h I, Option.bind_some, Int32.lt_irrefl, if_false]
def sBit (due : Int32) (b : Nat) : Bool := decide ((due >>> (Int32.ofNat b &&& 31)) &&& 1 = 1)
def sOpn (T N : Nat → Int32) (due : Int32) (t : Int32) : Option Nat := zff (fun b => sBit due b && (decide (sF N b 0 = -4) && (sGood N b && !sWas N b t))) (sN T 3) 0
theorem q_toOpen (h : wM hp x S) (I : sI (S 2) (S 4)) (due t : Int32) : f_X8_toOpen x due t hp = some (zoi (sOpn (S 2) (S 4) due t)) := by
  have hd := sI_bd I
  simp only [f_X8_toOpen, wm_is h, Option.bind_some]
  refine (zF (n := sN (S 2) 3) (fun b => sBit due b && (decide (sF (S 4) b 0 = -4) && (sGood (S 4) b && !sWas (S 4) b t))) (fun k => some (Int32.ofNat k)) (some (-1)) (by omega) (fun m i hi => ?_) (fun m => ?_)).trans ?_
  · simp (disch := omega) only [l_X8_toOpen_2_s, b_X8_toOpen_2, q_many3 h I, q_of0 h, p_isGood h I, q_was h I, Option.bind_some, pn_lt, hi, if_true, zlet, pn_succ, zb_0, sBit]
    by_cases e : (due >>> (Int32.ofNat i &&& 31)) &&& 1 = 1
    · by_cases e2 : sF (S 4) i 0 = -4
      · cases sGood (S 4) i
        · simp [e, e2]
        · cases sWas (S 4) i t <;> simp [e, e2]
      · simp [e, e2]
    · simp [e]
  · simp (disch := omega) only [l_X8_toOpen_2_s, b_X8_toOpen_2, q_many3 h I, Option.bind_some, Int32.lt_irrefl, if_false]
  · unfold sOpn zoi
    cases zff (fun b => sBit due b && (decide (sF (S 4) b 0 = -4) && (sGood (S 4) b && !sWas (S 4) b t))) (sN (S 2) 3) 0 <;> rfl
/-! the class -/
theorem c_has (h : wPl hp p T) {s : Nat} (hs : s < 5) (y : Int32) : f_X5_has p (Int32.ofNat s) y hp = some (zb (!decide (y < 0) && decide (y < Int32.ofNat (sN T s)))) := by
  simp (disch := omega) only [f_X5_has, c_is5 h, c_num h, c_n h, Option.bind_some, ite_some_zbP]
  by_cases e : y < 0
  · simp [e, zb]
  · simp [e]
theorem c_has1 (h : wPl hp p T) (y : Int32) : f_X5_has p 1 y hp = some (zb (!decide (y < 0) && decide (y < Int32.ofNat (sN T 1)))) := c_has h (s := 1) (by decide) y
theorem c_hasP (h : wPl hp p T) (I : sI T N) {r : Nat} (hr : r < sN T 1) : f_X5_has p 1 (Int32.ofNat r) hp = some 1 := by
  have hd := sI_bd I
  rw [c_has1 h]
  simp (disch := omega) [pn_negF, pn_lt, hr, zb]
theorem c_hasM (h : wPl hp p T) : f_X5_has p 1 (-1) hp = some 0 := by
  rw [c_has1 h]
  rfl
theorem c_isInA (h : wPl hp p T) (I : sI T N) (o : Int32) : ∀ r m st d, r < sN T 1 → r + 1 < m → r + st ≤ 4 → r + 1 < d → l_X5_isWardIn_10 (some 1) (some 0) p o hp m (Int32.ofNat r) (Int32.ofNat st) = some (zb (sIn T d (Int32.ofNat r) o)) := by
  intro r
  induction r using Nat.strongRecOn with
  | ind r ih =>
    intro m st d hr hm hst hd
    obtain ⟨m, rfl⟩ : ∃ k, m = k + 1 := ⟨m - 1, by omega⟩
    obtain ⟨d, rfl⟩ : ∃ k, d = k + 1 := ⟨d - 1, by omega⟩
    have hb := sI_bd I
    have e5 : Int32.ofNat st < 5 := by
      rw [show (5 : Int32) = Int32.ofNat 5 from rfl, pn_lt (by omega) (by decide)]
      omega
    simp (disch := omega) only [l_X5_isWardIn_10_s, b_X5_isWardIn_10, e5, if_true, c_hasP h I, hr, Option.bind_some, sIn, pn_ne1, if_false, c_around h, c_aroundA h I, zlet, pn_succ, pn_nat, show ¬ (1 : Int32) = 0 by decide]
    by_cases e : Int32.ofNat r = o
    · rw [if_pos e, if_pos e]; rfl
    · rw [if_neg e, if_neg e]
      obtain ⟨m, rfl⟩ : ∃ k, m = k + 1 := ⟨m - 1, by omega⟩
      obtain ⟨d, rfl⟩ : ∃ k, d = k + 1 := ⟨d - 1, by omega⟩
      rcases sI_r I hr with e1 | ⟨k, hk, e1⟩
      · rw [e1]
        simp (disch := omega) only [l_X5_isWardIn_10_s, b_X5_isWardIn_10, c_hasM h, Option.bind_some, if_true, ite_self]
        rfl
      · rw [e1]
        exact ih k hk (m + 1) (st + 1) (d + 1) (by omega) (by omega) (by omega) (by omega)
theorem c_isWardIn (h : wPl hp p T) (I : sI T N) {w : Nat} (hw : w < sN T 2) (o : Int32) : f_X5_isWardIn p (Int32.ofNat w) o hp = some (zb (sWin T w o)) := by
  have hb := sI_bd I
  obtain ⟨r, hr, e⟩ := sI_w I hw
  simp (disch := omega) only [f_X5_isWardIn, c_is5 h, c_regions h, c_regionsA h I, Option.bind_some, e]
  unfold sWin
  rw [e]
  exact c_isInA h I o r 1000000 0 6 hr (by omega) (by omega) (by omega)
/-! sums over the declared wards -/
def sO (N : Nat → Int32) (k : Nat) : Nat := (N (3 + k)).toNatClampNeg
theorem sI_o {T N : Nat → Int32} (I : sI T N) {k : Nat} (hk : k < sD N) : sO N k < sN T 2 ∧ N (3 + k) = Int32.ofNat (sO N k) := by
  have hd := sI_bd I
  obtain ⟨w, h1, h2⟩ := I.2.2.2.1.2.2.1 k hk
  unfold sO
  rw [h2, pn_nat (by omega)]
  exact ⟨h1, rfl⟩
theorem sI_inj {T N : Nat → Int32} (I : sI T N) {i j : Nat} (hi : i < sD N) (hj : j < sD N) (e : sO N i = sO N j) : i = j := by
  have h1 := (sI_o I hi).2
  have h2 := (sI_o I hj).2
  rw [← e, ← h1] at h2
  rcases Nat.lt_trichotomy i j with c | c | c
  · exact (I.2.2.2.1.2.2.2 i j c hj h2.symm).elim
  · exact c
  · exact (I.2.2.2.1.2.2.2 j i c hi h2).elim
theorem sDecl_iff {T N : Nat → Int32} (I : sI T N) {w : Nat} (hw : w < sN T 2) : sDecl N (Int32.ofNat w) = true ↔ ∃ k, k < sD N ∧ sO N k = w := by
  have hd := sI_bd I
  unfold sDecl
  rw [zffk_iff]
  constructor
  · rintro ⟨k, -, h2, h3⟩
    have h2' : k < sD N := by omega
    obtain ⟨h4, h5⟩ := sI_o I h2'
    rw [h5] at h3
    have h6 := of_decide_eq_true h3
    rw [pn_inj (by omega) (by omega)] at h6
    exact ⟨k, h2', h6⟩
  · rintro ⟨k, h2, h3⟩
    exact ⟨k, by omega, by omega, decide_eq_true (by rw [(sI_o I h2).2, h3])⟩
theorem zsum_one (f : Nat → Int32) (a : Nat) : ∀ n, a < n → zsum (fun w => if w = a then f w else 0) n = f a
  | 0, h => by omega
  | n + 1, h => by
    rw [zsum_s]
    by_cases e : n = a
    · subst e
      rw [if_pos rfl]
      have : ∀ m, m ≤ n → zsum (fun w => if w = n then f w else 0) m = 0 := by
        intro m
        induction m with
        | zero => intro _; rfl
        | succ m ih =>
          intro hm
          rw [zsum_s, ih (by omega), if_neg (by omega), Int32.add_zero]
      rw [this n (Nat.le_refl n), Int32.zero_add]
    · rw [zsum_one f a n (by omega), if_neg e, Int32.add_zero]
theorem zsum_add (f g : Nat → Int32) : ∀ n, zsum (fun w => f w + g w) n = zsum f n + zsum g n
  | 0 => by show (0 : Int32) = 0 + 0; rw [Int32.add_zero]
  | n + 1 => by
    rw [zsum_s, zsum_s, zsum_s, zsum_add f g n]
    generalize zsum f n = a
    generalize zsum g n = c
    rw [Int32.add_assoc, Int32.add_assoc, ← Int32.add_assoc c, Int32.add_comm c (f n), Int32.add_assoc (f n)]
/-- over distinct places o 0 .. o (D-1) under n, or over all under n that are among them: the same -/
theorem zsum_places (o : Nat → Nat) (n : Nat) (f : Nat → Int32) : ∀ D, (∀ k, k < D → o k < n) → (∀ i j, i < D → j < D → o i = o j → i = j) → zsum (fun k => f (o k)) D = zsum (fun w => if zany (fun k => decide (o k = w)) D = true then f w else 0) n
  | 0, _, _ => by
    have : ∀ m, (0 : Int32) = zsum (fun w => if zany (fun k => decide (o k = w)) 0 = true then f w else 0) m := by
      intro m
      induction m with
      | zero => rfl
      | succ m ih =>
        rw [zsum_s, ← ih]
        rfl
    exact this n
  | D + 1, h1, h2 => by
    rw [zsum_s, zsum_places o n f D (fun k hk => h1 k (by omega)) (fun i j hi hj => h2 i j (by omega) (by omega)), ← zsum_one f (o D) n (h1 D (by omega)), ← zsum_add]
    refine zsum_congr (fun w hw => ?_)
    rw [zany_s]
    by_cases e : o D = w
    · have : zany (fun k => decide (o k = w)) D = false := by
        cases hz : zany (fun k => decide (o k = w)) D with
        | false => rfl
        | true =>
          obtain ⟨k, hk, e2⟩ := zany_iff.mp hz
          have := h2 k D (by omega) (by omega) ((of_decide_eq_true e2).trans e.symm)
          omega
      rw [this, decide_eq_true e]
      simp [e, Int32.zero_add]
    · have e' : ¬ w = o D := fun r => e r.symm
      simp [e, e', Int32.add_zero]
theorem zsum_decl {T N : Nat → Int32} (I : sI T N) (f : Nat → Int32) : zsum (fun k => f (sO N k)) (sD N) = zsum (fun w => if sDecl N (Int32.ofNat w) = true then f w else 0) (sN T 2) := by
  rw [zsum_places (sO N) (sN T 2) f (sD N) (fun k hk => (sI_o I hk).1) (fun i j hi hj e => sI_inj I hi hj e)]
  refine zsum_congr (fun w hw => ?_)
  rw [b_ext (a := zany (fun k => decide (sO N k = w)) (sD N)) (b := sDecl N (Int32.ofNat w))]
  rw [zany_iff, sDecl_iff I hw]
  exact ⟨fun ⟨k, h1, h2⟩ => ⟨k, h1, of_decide_eq_true h2⟩, fun ⟨k, h1, h2⟩ => ⟨k, h1, decide_eq_true h2⟩⟩
def sRV (T N : Nat → Int32) (r : Int32) (k : Nat) : Int32 := zsum (fun w => if (sWin T w r && sDecl N (Int32.ofNat w)) = true then sVo T N (Int32.ofNat w) k else 0) (sN T 2)
theorem H_votesW (H : wH hp hl p q T N) {k : Nat} (hk : k < sPi T) (r : Int32) : f_X1_votesWithin hl r (Int32.ofNat k) hp = some (sRV T N r k) := by
  have hd := sI_d (hh_I H)
  simp only [f_X1_votesWithin, hh_is H, Option.bind_some]
  refine (zFA (n := sD N) (zsum (fun j => if sWin T (sO N j) r = true then sVo T N (Int32.ofNat (sO N j)) k else 0)) (some (zsum (fun j => if sWin T (sO N j) r = true then sVo T N (Int32.ofNat (sO N j)) k else 0) (sD N))) (by omega) (fun m i hi => ?_) (fun m => ?_)).trans ?_
  · obtain ⟨h1, h2⟩ := sI_o (hh_I H) hi
    simp (disch := omega) only [l_X1_votesWithin_5_s, b_X1_votesWithin_5, hh_p H, hh_q H, hs_dw H, hs_ord H, hs_oA H, h2, c_isWardIn H.2.1 (hh_I H), H_votes H, Option.bind_some, pn_lt, hi, if_true, zlet, pn_succ, zsum_s, zb_0]
    cases sWin T (sO N i) r
    · simp [Int32.add_zero]
    · simp
  · simp (disch := omega) only [l_X1_votesWithin_5_s, b_X1_votesWithin_5, hh_q H, hs_dw H, Option.bind_some, Int32.lt_irrefl, if_false]
  · refine congrArg some ((zsum_decl (hh_I H) (fun w => if sWin T w r = true then sVo T N (Int32.ofNat w) k else 0)).trans (zsum_congr (fun w hw => ?_)))
    cases sWin T w r <;> cases sDecl N (Int32.ofNat w) <;> rfl
theorem H_seats (H : wH hp hl p q T N) (r y : Int32) : f_X1_seatsWithin hl r y hp = some (sSeat T N r y) := by
  have hd := sI_d (hh_I H)
  simp only [f_X1_seatsWithin, hh_is H, Option.bind_some]
  refine (zFA (n := sD N) (zsum (fun j => if (sWin T (sO N j) r && decide (sFst T N (Int32.ofNat (sO N j)) = y)) = true then 1 else 0)) (some (zsum (fun j => if (sWin T (sO N j) r && decide (sFst T N (Int32.ofNat (sO N j)) = y)) = true then 1 else 0) (sD N))) (by omega) (fun m i hi => ?_) (fun m => ?_)).trans ?_
  · obtain ⟨h1, h2⟩ := sI_o (hh_I H) hi
    simp (disch := omega) only [l_X1_seatsWithin_5_s, b_X1_seatsWithin_5, hh_p H, hh_q H, hs_dw H, hs_ord H, hs_oA H, h2, c_isWardIn H.2.1 (hh_I H), H_ahead H, Option.bind_some, pn_lt, hi, if_true, zlet, pn_succ, zsum_s, zb_0]
    cases sWin T (sO N i) r
    · simp [Int32.add_zero]
    · by_cases e : sFst T N (Int32.ofNat (sO N i)) = y
      · simp [e]
      · simp [e, Int32.add_zero]
  · simp (disch := omega) only [l_X1_seatsWithin_5_s, b_X1_seatsWithin_5, hh_q H, hs_dw H, Option.bind_some, Int32.lt_irrefl, if_false]
  · unfold sSeat
    rw [sCnt_eq]
    refine congrArg some ((zsum_decl (hh_I H) (fun w => if (sWin T w r && decide (sFst T N (Int32.ofNat w) = y)) = true then 1 else 0)).trans (zsum_congr (fun w hw => ?_)))
    cases sWin T w r <;> cases sDecl N (Int32.ofNat w) <;> cases decide (sFst T N (Int32.ofNat w) = y) <;> rfl
theorem H_within (H : wH hp hl p q T N) (r : Int32) (d : Bool) : f_X1_wardsWithin hl r (zb d) hp = some (sCnt (fun w => sWin T w r && (sDecl N (Int32.ofNat w) == d)) (sN T 2)) := by
  have hd := sI_bd (hh_I H)
  simp only [f_X1_wardsWithin, hh_is H, Option.bind_some]
  refine zFA (n := sN T 2) (sCnt (fun w => sWin T w r && (sDecl N (Int32.ofNat w) == d))) _ (by omega) (fun m i hi => ?_) (fun m => ?_)
  · have ezb : (zb (sDecl N (Int32.ofNat i)) = zb d) = ((sDecl N (Int32.ofNat i) == d) = true) := by
      cases sDecl N (Int32.ofNat i) <;> cases d <;> simp [zb] <;> decide
    simp (disch := omega) only [l_X1_wardsWithin_5_s, b_X1_wardsWithin_5, hh_p H, c_num H.2.1, c_n2 H.2.1, c_isWardIn H.2.1 (hh_I H), H_decl H, Option.bind_some, pn_lt, hi, if_true, zlet, pn_succ, zb_0, sCnt, ezb]
    by_cases q1 : sWin T i r = true
    · by_cases q2 : (sDecl N (Int32.ofNat i) == d) = true
      · simp [q1, q2]
      · simp [q1, q2, Int32.add_zero]
    · simp [q1, Int32.add_zero]
  · simp (disch := omega) only [l_X1_wardsWithin_5_s, b_X1_wardsWithin_5, hh_p H, c_num H.2.1, c_n2 H.2.1, Option.bind_some, Int32.lt_irrefl, if_false]
theorem H_und (H : wH hp hl p q T N) (r : Int32) : f_X1_wardsWithin hl r 0 hp = some (sUnd T N r) := by
  rw [show (0 : Int32) = zb false from rfl, H_within H r false]
  unfold sUnd
  refine congrArg (fun f => some (sCnt f (sN T 2))) (funext fun w => ?_)
  cases sDecl N (Int32.ofNat w) <;> rfl
theorem H_cannot (H : wH hp hl p q T N) (r y : Int32) : f_X1_cannotBeCaught hl r y hp = some (zb (sBey T N r y)) := by
  have hd := sI_bd (hh_I H)
  simp only [f_X1_cannotBeCaught, hh_is H, Option.bind_some, H_seats H, H_und H]
  refine (zFC (n := sN T 0) (fun k => !decide (Int32.ofNat k = y) && !decide (sSeat T N r (Int32.ofNat k) + sUnd T N r < sSeat T N r y)) _ _ (by omega) (fun m i hi => ?_) (fun m => ?_)).trans (ite_some_zb' _)
  · simp (disch := omega) only [l_X1_cannotBeCaught_18_s, b_X1_cannotBeCaught_18, hh_p H, c_num H.2.1, c_n0 H.2.1, H_seats H, Option.bind_some, pn_lt, hi, if_true, zlet, pn_succ]
    by_cases e : Int32.ofNat i = y
    · simp [e]
    · by_cases e2 : sSeat T N r (Int32.ofNat i) + sUnd T N r < sSeat T N r y
      · simp [e, e2]
      · simp [e, e2]
  · simp (disch := omega) only [l_X1_cannotBeCaught_18_s, b_X1_cannotBeCaught_18, hh_p H, c_num H.2.1, c_n0 H.2.1, Option.bind_some, Int32.lt_irrefl, if_false]
theorem H_boxFor (H : wH hp hl p q T N) (t due : Int32) : f_X1_boxFor hl t due hp = some (zoi (sOpn T N due t)) := by
  have hd := sI_bd (hh_I H)
  simp only [f_X1_boxFor, hh_is H, Option.bind_some]
  refine (zF (n := sN T 3) (fun b => sBit due b && (decide (sF N b 0 = -4) && (sGood N b && !sWas N b t))) (fun k => some (Int32.ofNat k)) (some (-1)) (by omega) (fun m i hi => ?_) (fun m => ?_)).trans ?_
  · simp (disch := omega) only [l_X1_boxFor_2_s, b_X1_boxFor_2, j_X1_boxFor_48, j_X1_boxFor_49, hh_p H, hh_q H, c_num H.2.1, c_n3 H.2.1, hs_bx H, hs_box H, k_place H, k_good H, k_was H, Option.bind_some, pn_lt, hi, if_true, zlet, pn_succ, zb_0, sBit, show ¬ (1 : Int32) = 0 by decide, if_false]
    by_cases e : (due >>> (Int32.ofNat i &&& 31)) &&& 1 = 1
    · by_cases e2 : sF N i 0 = -4
      · cases sWas N i t
        · cases sGood N i <;> simp [e, e2]
        · simp [e, e2]
      · cases sWas N i t <;> simp [e, e2]
    · simp [e]
  · simp (disch := omega) only [l_X1_boxFor_2_s, b_X1_boxFor_2, hh_p H, c_num H.2.1, c_n3 H.2.1, Option.bind_some, Int32.lt_irrefl, if_false]
  · unfold sOpn zoi
    cases zff (fun b => sBit due b && (decide (sF N b 0 = -4) && (sGood N b && !sWas N b t))) (sN T 3) 0 <;> rfl
end P37
