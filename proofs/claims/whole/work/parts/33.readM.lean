/-! PURE: loops in a shape that the rewriter can use; the reference's readers, on -/
section P33
theorem zF {R : Type} {l : Nat → Int32 → Option R} {n m : Nat} (p : Nat → Bool) (ex : Nat → Option R) (res : Option R) (hm : n < m)
    (hs : ∀ m i, i < n → l (m + 1) (Int32.ofNat i) = if p i = true then ex i else l m (Int32.ofNat (i + 1))) (he : ∀ m, l (m + 1) (Int32.ofNat n) = res) : l m 0 = (match zff p n 0 with | some k => ex k | none => res) :=
  zloopF (fun m a => l m a) n (fun i => Int32.ofNat i) p ex res (fun m i hi hq => by rw [hs m i hi, hq]; rfl) (fun m i hi hq => by rw [hs m i hi, if_pos hq]) he m hm
theorem zFC {R : Type} {l : Nat → Int32 → Option R} {n m : Nat} (p : Nat → Bool) (ex : Option R) (res : Option R) (hm : n < m)
    (hs : ∀ m i, i < n → l (m + 1) (Int32.ofNat i) = if p i = true then ex else l m (Int32.ofNat (i + 1))) (he : ∀ m, l (m + 1) (Int32.ofNat n) = res) : l m 0 = if (zff p n 0).isSome = true then ex else res := by
  rw [zF p (fun _ => ex) res hm hs he]
  cases zff p n 0 <;> rfl
theorem zFA {R A : Type} {l : Nat → A → Int32 → Option R} {n m : Nat} (st : Nat → A) (res : Option R) (hm : n < m)
    (hs : ∀ m i, i < n → l (m + 1) (st i) (Int32.ofNat i) = l m (st (i + 1)) (Int32.ofNat (i + 1))) (he : ∀ m, l (m + 1) (st n) (Int32.ofNat n) = res) : l m (st 0) 0 = res :=
  zloop (A := A × Int32) (fun m a => l m a.1 a.2) n (fun i => (st i, Int32.ofNat i)) res (fun m i hi => hs m i hi) (fun m => he m) m hm
theorem zFB {R A A' : Type} {l : Nat → A → A' → Int32 → Option R} {n m : Nat} (st : Nat → A) (st' : Nat → A') (res : Option R) (hm : n < m)
    (hs : ∀ m i, i < n → l (m + 1) (st i) (st' i) (Int32.ofNat i) = l m (st (i + 1)) (st' (i + 1)) (Int32.ofNat (i + 1))) (he : ∀ m, l (m + 1) (st n) (st' n) (Int32.ofNat n) = res) : l m (st 0) (st' 0) 0 = res :=
  zloop (A := A × A' × Int32) (fun m a => l m a.1 a.2.1 a.2.2) n (fun i => (st i, st' i, Int32.ofNat i)) res (fun m i hi => hs m i hi) (fun m => he m) m hm
/-- a loop over a counter that starts at k -/
theorem zFCk {R : Type} {l : Nat → Int32 → Option R} {k n m : Nat} (hk : k ≤ n) (p : Nat → Bool) (ex : Option R) (res : Option R) (hm : n < m)
    (hs : ∀ m i, k ≤ i → i < n → l (m + 1) (Int32.ofNat i) = if p i = true then ex else l m (Int32.ofNat (i + 1))) (he : ∀ m, l (m + 1) (Int32.ofNat n) = res) : l m (Int32.ofNat k) = if (zff p (n - k) k).isSome = true then ex else res := by
  have H : ∀ d i m, i + d = n → k ≤ i → d < m → l m (Int32.ofNat i) = if (zff p d i).isSome = true then ex else res := by
    intro d
    induction d with
    | zero =>
      intro i m hi hki hm
      obtain ⟨m, rfl⟩ : ∃ q, m = q + 1 := ⟨m - 1, by omega⟩
      have e : i = n := by omega
      subst e
      exact he m
    | succ d ih =>
      intro i m hi hki hm
      obtain ⟨m, rfl⟩ : ∃ q, m = q + 1 := ⟨m - 1, by omega⟩
      rw [hs m i hki (by omega)]
      unfold zff
      cases hp : p i with
      | true => rfl
      | false => exact ih (i + 1) m (by omega) (by omega) (by omega)
  exact H (n - k) k m (by omega) (Nat.le_refl k) (by omega)
theorem zsum_s (f : Nat → Int32) (n : Nat) : zsum f (n + 1) = zsum f n + f n := rfl
theorem ite_bf {α : Type} (b : Bool) (A B : α) : (if b = false then A else B) = (if b = true then B else A) := by cases b <;> rfl
theorem ite_and2 {α : Type} (a b : Prop) [Decidable a] [Decidable b] (A B : α) : (if a ∧ b then A else B) = (if a then (if b then A else B) else B) := by
  by_cases h1 : a
  · by_cases h2 : b
    · rw [if_pos ⟨h1, h2⟩, if_pos h1, if_pos h2]
    · rw [if_neg (fun q => h2 q.2), if_pos h1, if_neg h2]
  · rw [if_neg (fun q => h1 q.1), if_neg h1]
theorem ite_or2 {α : Type} (a b : Prop) [Decidable a] [Decidable b] (A B : α) : (if a ∨ b then A else B) = (if a then A else (if b then A else B)) := by
  by_cases h1 : a
  · rw [if_pos (Or.inl h1), if_pos h1]
  · by_cases h2 : b
    · rw [if_pos (Or.inr h2), if_neg h1, if_pos h2]
    · rw [if_neg (fun q => q.elim h1 h2), if_neg h1, if_neg h2]
theorem ite_some_zb (b : Bool) : (if b = true then some (1 : Int32) else some 0) = some (zb b) := by cases b <;> rfl
theorem ite_some_zb' (b : Bool) : (if b = true then some (0 : Int32) else some 1) = some (zb (!b)) := by cases b <;> rfl
theorem ite_some_zbP (p : Prop) [Decidable p] : (if p then some (1 : Int32) else some 0) = some (zb (decide p)) := by
  by_cases h : p
  · rw [if_pos h, decide_eq_true h]; rfl
  · rw [if_neg h, decide_eq_false h]; rfl
theorem ite_some_zbP' (p : Prop) [Decidable p] : (if p then some (0 : Int32) else some 1) = some (zb (!decide p)) := by
  by_cases h : p
  · rw [if_pos h, decide_eq_true h]; rfl
  · rw [if_neg h, decide_eq_false h]; rfl
theorem zoi_ne1 (o : Option Nat) (ho : ∀ k, o = some k → k < 2147483648) : (zoi o = -1) = (o = none) := by
  cases o with
  | none => simp [zoi]
  | some k =>
    have := pn_ne1 (ho k rfl)
    show (Int32.ofNat k = -1) = _
    rw [this]
    simp
theorem zff_lt {p : Nat → Bool} {n k : Nat} (h : zff p n 0 = some k) : k < n := by
  have := zff_some h
  omega
theorem pn_0lt {n : Nat} (hn : n < 2147483648) : ((0 : Int32) < Int32.ofNat n) = (0 < n) := pn_lt (i := 0) (by decide) hn
theorem pn_eq0 {n : Nat} (hn : n < 2147483648) : (Int32.ofNat n = 0) = (n = 0) := pn_inj (n := 0) hn (by decide)
theorem pn_negF {k : Nat} (h : k < 2147483648) : (Int32.ofNat k < 0) = False := eq_false (pn_neg h)
theorem zlet_b {α β : Type} (e : α) (k : α → Option β) : zlet e k = k e := rfl
variable {hp : zHp} {x : Nat} {S : Nat → Nat → Int32}
theorem sI_bd {T N : Nat → Int32} (I : sI T N) : sN T 0 ≤ 5 ∧ sN T 1 ≤ 5 ∧ sN T 2 ≤ 6 ∧ sN T 3 ≤ 12 ∧ sN T 4 ≤ 4 ∧ sPi T = sN T 0 + 1 := ⟨sI_0 I, sI_1 I, sI_2 I, sI_3 I, sI_4 I, rfl⟩
theorem q_of2 (h : wM hp x S) (I : sI (S 2) (S 4)) {b : Nat} (hb : b < sN (S 2) 3) : f_X8_of x (Int32.ofNat b) 2 hp = some (Int32.ofNat (sE (S 4) b)) := by
  have := sI_bd I
  exact (p_of h (w := 2) rfl (by omega) (by decide)).trans (congrArg some (sI_e I hb).1)
theorem q_of3 (h : wM hp x S) (I : sI (S 2) (S 4)) {b : Nat} (hb : b < sN (S 2) 3) : f_X8_of x (Int32.ofNat b) 3 hp = some (Int32.ofNat (sC (S 4) b)) := by
  have := sI_bd I
  exact (p_of h (w := 3) rfl (by omega) (by decide)).trans (congrArg some (sI_c I hb).1)
theorem q_wasC (h : wM hp x S) (I : sI (S 2) (S 4)) {b : Nat} (hb : b < sN (S 2) 3) : f_X8_wasCounted x (Int32.ofNat b) hp = some (zb (decide (0 < sC (S 4) b))) := by
  have hc := sI_c I hb
  simp (disch := omega) only [f_X8_wasCounted, wm_is h, Option.bind_some, q_of3 h I, hb, pn_0lt, ite_some_zbP]
theorem sCf_lt {T N : Nat → Int32} {b k : Nat} (h : sCf T N b = some k) : k < sC N b := zff_lt h
theorem q_valid (h : wM hp x S) (I : sI (S 2) (S 4)) {b p : Nat} (hb : b < sN (S 2) 3) (hp' : p < sPi (S 2)) : f_X8_valid x (Int32.ofNat b) (Int32.ofNat p) hp = some (sVal (S 2) (S 4) b p) := by
  have hd := sI_bd I
  have hc := sI_c I hb
  simp (disch := omega) only [f_X8_valid, wm_is h, Option.bind_some, q_wasC h I, hb, zb_0, decide_eq_false_iff_not, p_conf h I, q_of3 h I]
  unfold sVal sVi
  by_cases q : sC (S 4) b = 0
  · rw [if_pos (by omega), if_pos q]
  · rw [if_neg (by omega), if_neg q]
    cases hk : sCf (S 2) (S 4) b with
    | none =>
      obtain ⟨c, hc2⟩ : ∃ c, sC (S 4) b = c + 1 := ⟨sC (S 4) b - 1, by omega⟩
      rw [if_pos (show zoi none = -1 from rfl), hc2, is1]
      simp (disch := omega) only [j_X8_valid_35, p_found h, Option.bind_some]
      rfl
    | some k =>
      have := sCf_lt hk
      rw [if_neg (show ¬ zoi (some k) = -1 by show ¬ Int32.ofNat k = -1; rw [pn_ne1 (by omega)]; exact not_false)]
      show j_X8_valid_35 _ _ _ (Int32.ofNat k) _ = _
      simp (disch := omega) only [j_X8_valid_35, p_found h, Option.bind_some]
theorem q_more (h : wM hp x S) (I : sI (S 2) (S 4)) {b : Nat} (hb : b < sN (S 2) 3) : f_X8_more x (Int32.ofNat b) hp = some (sMore (S 2) (S 4) b) := by
  have hd := sI_bd I
  simp only [f_X8_more, wm_is h, Option.bind_some]
  refine zFA (n := sPi (S 2)) (zsum (fun p => sVal (S 2) (S 4) b p)) _ (by omega) (fun m i hi => ?_) (fun m => ?_)
  · simp (disch := omega) only [l_X8_more_4_s, b_X8_more_4, p_piles h I, Option.bind_some, pn_lt, hi, if_true, q_valid h I, zlet, pn_succ, zsum_s]
  · simp (disch := omega) only [l_X8_more_4_s, b_X8_more_4, p_piles h I, Option.bind_some, Int32.lt_irrefl, if_false, q_wasC h I, hb, zb_0, decide_eq_false_iff_not, wm_T h, ix56, wm_told h]
    unfold sMore
    by_cases q : sC (S 4) b = 0
    · rw [if_pos (by omega), if_pos q]
    · rw [if_neg (by omega), if_neg q]
theorem q_differs (h : wM hp x S) (I : sI (S 2) (S 4)) {b : Nat} (hb : b < sN (S 2) 3) : f_X8_differs x (Int32.ofNat b) hp = some (zb (sOff (S 2) (S 4) b)) := by
  have e1 : zaI hp 0 (x + 4) 1 = some (S 4 1) := wm_now h (k := 1) (by decide)
  simp (disch := omega) only [f_X8_differs, wm_is h, Option.bind_some, q_more h I, hb, wm_N h, e1, ite_some_zbP]
  rfl
theorem q_votes (h : wM hp x S) (I : sI (S 2) (S 4)) {p : Nat} (hp' : p < sPi (S 2)) (w : Int32) : f_X8_votes x w (Int32.ofNat p) hp = some (sVo (S 2) (S 4) w p) := by
  have hd := sI_bd I
  simp only [f_X8_votes, wm_is h, Option.bind_some]
  refine zFA (n := sN (S 2) 3) (zsum (fun b => if S 2 (44 + b) = w then sVal (S 2) (S 4) b p else 0)) _ (by omega) (fun m i hi => ?_) (fun m => ?_)
  · simp (disch := omega) only [l_X8_votes_5_s, b_X8_votes_5, j_X8_votes_41, q_many3 h I, Option.bind_some, pn_lt, hi, if_true, wm_T h, ix44, wm_told h, q_valid h I, zlet, pn_succ, zsum_s]
    by_cases q : S 2 (44 + i) = w
    · rw [if_pos q, if_pos q]
    · rw [if_neg q, if_neg q]
  · simp (disch := omega) only [l_X8_votes_5_s, b_X8_votes_5, q_many3 h I, Option.bind_some, Int32.lt_irrefl, if_false]
    rfl
theorem q_allVotes (h : wM hp x S) (I : sI (S 2) (S 4)) (w : Int32) : f_X8_allVotes x w hp = some (sAll (S 2) (S 4) w) := by
  have hd := sI_bd I
  simp only [f_X8_allVotes, wm_is h, Option.bind_some]
  refine zFA (n := sN (S 2) 0) (zsum (fun p => sVo (S 2) (S 4) w p)) _ (by omega) (fun m i hi => ?_) (fun m => ?_)
  · simp (disch := omega) only [l_X8_allVotes_4_s, b_X8_allVotes_4, q_many0 h I, Option.bind_some, pn_lt, hi, if_true, q_votes h I, zlet, pn_succ, zsum_s]
  · simp (disch := omega) only [l_X8_allVotes_4_s, b_X8_allVotes_4, q_many0 h I, Option.bind_some, Int32.lt_irrefl, if_false]
    rfl
theorem q_first (h : wM hp x S) (I : sI (S 2) (S 4)) (w : Int32) : f_X8_first x w hp = some (sFst (S 2) (S 4) w) := by
  have hd := sI_bd I
  simp only [f_X8_first, wm_is h, Option.bind_some]
  refine zFB (n := sN (S 2) 0) (fun i => (sBM (sVo (S 2) (S 4) w) i).1) (fun i => (sBM (sVo (S 2) (S 4) w) i).2) _ (by omega) (fun m i hi => ?_) (fun m => ?_)
  · simp (disch := omega) only [l_X8_first_7_s, b_X8_first_7, j_X8_first_38, q_many0 h I, Option.bind_some, pn_lt, hi, if_true, q_votes h I, zlet, pn_succ, sBM]
    by_cases q : (sBM (sVo (S 2) (S 4) w) i).2 < sVo (S 2) (S 4) w i
    · rw [if_pos q, if_pos q]
    · rw [if_neg q, if_neg q]
  · simp (disch := omega) only [l_X8_first_7_s, b_X8_first_7, q_many0 h I, Option.bind_some, Int32.lt_irrefl, if_false]
    rfl
theorem sBM_i (f : Nat → Int32) : ∀ n, (sBM f n).1 = -1 ∨ ∃ k, k < n ∧ (sBM f n).1 = Int32.ofNat k
  | 0 => Or.inl rfl
  | n + 1 => by
    show (if (sBM f n).2 < f n then Int32.ofNat n else (sBM f n).1) = -1 ∨ ∃ k, k < n + 1 ∧ (if (sBM f n).2 < f n then Int32.ofNat n else (sBM f n).1) = Int32.ofNat k
    by_cases q : (sBM f n).2 < f n
    · rw [if_pos q]
      exact Or.inr ⟨n, by omega, rfl⟩
    · rw [if_neg q]
      rcases sBM_i f n with e | ⟨k, hk, e⟩
      · exact Or.inl e
      · exact Or.inr ⟨k, by omega, e⟩
theorem q_marginOf (h : wM hp x S) (I : sI (S 2) (S 4)) (w : Int32) : f_X8_marginOf x w hp = some (sMar (S 2) (S 4) w) := by
  have hd := sI_bd I
  simp only [f_X8_marginOf, wm_is h, Option.bind_some, q_first h I]
  unfold sMar
  by_cases q : sFst (S 2) (S 4) w = -1
  · rw [if_pos q, if_pos q]
  · rw [if_neg q, if_neg q]
    obtain ⟨k, hk, e⟩ : ∃ k, k < sN (S 2) 0 ∧ sFst (S 2) (S 4) w = Int32.ofNat k := (sBM_i _ _).resolve_left q
    rw [e]
    refine zFA (n := sN (S 2) 0) (sM2 (sVo (S 2) (S 4) w) (Int32.ofNat k)) _ (by omega) (fun m i hi => ?_) (fun m => ?_)
    · simp (disch := omega) only [l_X8_marginOf_18_s, b_X8_marginOf_18, q_many0 h I, Option.bind_some, pn_lt, hi, if_true, q_votes h I, zlet, pn_succ, sM2]
      by_cases q2 : Int32.ofNat i = Int32.ofNat k
      · rw [if_pos q2, if_pos q2]
      · rw [if_neg q2, if_neg q2]
    · simp (disch := omega) only [l_X8_marginOf_18_s, b_X8_marginOf_18, q_many0 h I, Option.bind_some, Int32.lt_irrefl, if_false, q_votes h I, pn_nat]
theorem q_isNear (h : wM hp x S) (I : sI (S 2) (S 4)) (w : Int32) : f_X8_isNear x w hp = some (zb (sNear (S 2) (S 4) w)) := by
  have e0 : zaI hp 0 (x + 4) 0 = some (S 4 0) := wm_now h (k := 0) (by decide)
  simp only [f_X8_isNear, wm_is h, Option.bind_some, q_allVotes h I, q_marginOf h I, wm_N h, e0]
  unfold sNear
  by_cases q : 0 < sAll (S 2) (S 4) w
  · rw [if_pos q, decide_eq_true q, ite_some_zbP']; rfl
  · rw [if_neg q, decide_eq_false q]; rfl
theorem q_hasBox0 (h : wM hp x S) (I : sI (S 2) (S 4)) (w : Int32) : f_X8_hasBox x w 0 hp = some (zb (sHas (S 2) w (fun b => decide (sC (S 4) b = 0)))) := by
  have hd := sI_bd I
  simp only [f_X8_hasBox, wm_is h, Option.bind_some]
  refine (zFC (n := sN (S 2) 3) (fun b => decide (S 2 (44 + b) = w) && decide (sC (S 4) b = 0)) _ _ (by omega) (fun m i hi => ?_) (fun m => ?_)).trans (ite_some_zb _)
  · have hc := sI_c I hi
    simp (disch := omega) only [l_X8_hasBox_2_s, b_X8_hasBox_2, j_X8_hasBox_41, j_X8_hasBox_115, q_many3 h I, Option.bind_some, pn_lt, hi, if_true, wm_T h, ix44, wm_told h, p_conf h I, q_wasC h I, zlet, pn_succ, zb_0, decide_eq_false_iff_not, Bool.and_eq_true, decide_eq_true_eq, ite_and2]
    by_cases q : S 2 (44 + i) = w
    · rw [if_pos q, if_pos q]
      by_cases q2 : sC (S 4) i = 0
      · simp [q2]
      · simp [q2, show 0 < sC (S 4) i by omega]
    · rw [if_neg q, if_neg q]
  · simp (disch := omega) only [l_X8_hasBox_2_s, b_X8_hasBox_2, q_many3 h I, Option.bind_some, Int32.lt_irrefl, if_false]
theorem q_hasBox1 (h : wM hp x S) (I : sI (S 2) (S 4)) (w : Int32) : f_X8_hasBox x w 1 hp = some (zb (sHas (S 2) w (fun b => !decide (sF (S 4) b 0 = -4)))) := by
  have hd := sI_bd I
  have e1 : ¬ (1 : Int32) = 0 := by decide
  simp only [f_X8_hasBox, wm_is h, Option.bind_some]
  refine (zFC (n := sN (S 2) 3) (fun b => decide (S 2 (44 + b) = w) && !decide (sF (S 4) b 0 = -4)) _ _ (by omega) (fun m i hi => ?_) (fun m => ?_)).trans (ite_some_zb _)
  · simp (disch := omega) only [l_X8_hasBox_2_s, b_X8_hasBox_2, j_X8_hasBox_41, j_X8_hasBox_115, e1, if_false, q_many3 h I, Option.bind_some, pn_lt, hi, if_true, wm_T h, ix44, wm_told h, p_conf h I, q_of0 h, zlet, pn_succ, zb_0, Bool.and_eq_true, decide_eq_true_eq, ite_and2]
    by_cases q : S 2 (44 + i) = w
    · rw [if_pos q, if_pos q]
      by_cases q2 : sF (S 4) i 0 = -4
      · simp [q2]
      · simp [q2]
    · rw [if_neg q, if_neg q]
  · simp (disch := omega) only [l_X8_hasBox_2_s, b_X8_hasBox_2, q_many3 h I, Option.bind_some, Int32.lt_irrefl, if_false]
theorem zoi_m1 {T N : Nat → Int32} (I : sI T N) {b : Nat} (hb : b < sN T 3) : (zoi (sCf T N b) = -1) = ((sCf T N b).isNone = true) := by
  have hc := sI_c I hb
  cases hk : sCf T N b with
  | none => simp [zoi]
  | some k =>
    have := sCf_lt hk
    show (Int32.ofNat k = -1) = _
    rw [pn_ne1 (by omega)]
    simp
theorem q_hasBox2 (h : wM hp x S) (I : sI (S 2) (S 4)) (w : Int32) : f_X8_hasBox x w 2 hp = some (zb (sHas (S 2) w (fun b => (sCf (S 2) (S 4) b).isNone && sOff (S 2) (S 4) b))) := by
  have hd := sI_bd I
  have e1 : ¬ (2 : Int32) = 0 := by decide
  have e2 : ¬ (2 : Int32) = 1 := by decide
  have e3 : ¬ (1 : Int32) = 0 := by decide
  simp only [f_X8_hasBox, wm_is h, Option.bind_some]
  refine (zFC (n := sN (S 2) 3) (fun b => decide (S 2 (44 + b) = w) && ((sCf (S 2) (S 4) b).isNone && sOff (S 2) (S 4) b)) _ _ (by omega) (fun m i hi => ?_) (fun m => ?_)).trans (ite_some_zb _)
  · simp (disch := omega) only [l_X8_hasBox_2_s, b_X8_hasBox_2, j_X8_hasBox_41, j_X8_hasBox_115, e1, e2, e3, if_false, q_many3 h I, Option.bind_some, pn_lt, hi, if_true, wm_T h, ix44, wm_told h, p_conf h I, zoi_m1 I hi, q_differs h I, zlet, pn_succ, zb_0, ite_bf, Bool.and_eq_true, decide_eq_true_eq, ite_and2]
  · simp (disch := omega) only [l_X8_hasBox_2_s, b_X8_hasBox_2, q_many3 h I, Option.bind_some, Int32.lt_irrefl, if_false]
theorem q_hasBox3 (h : wM hp x S) (I : sI (S 2) (S 4)) (w : Int32) : f_X8_hasBox x w 3 hp = some (zb (sHas (S 2) w (fun b => (sCf (S 2) (S 4) b).isNone))) := by
  have hd := sI_bd I
  have e1 : ¬ (3 : Int32) = 0 := by decide
  have e2 : ¬ (3 : Int32) = 1 := by decide
  have e4 : ¬ (3 : Int32) = 2 := by decide
  have e3 : ¬ (1 : Int32) = 0 := by decide
  simp only [f_X8_hasBox, wm_is h, Option.bind_some]
  refine (zFC (n := sN (S 2) 3) (fun b => decide (S 2 (44 + b) = w) && (sCf (S 2) (S 4) b).isNone) _ _ (by omega) (fun m i hi => ?_) (fun m => ?_)).trans (ite_some_zb _)
  · simp (disch := omega) only [l_X8_hasBox_2_s, b_X8_hasBox_2, j_X8_hasBox_41, j_X8_hasBox_115, e1, e2, e3, e4, if_false, q_many3 h I, Option.bind_some, pn_lt, hi, if_true, wm_T h, ix44, wm_told h, p_conf h I, zoi_m1 I hi, zlet, pn_succ, Bool.and_eq_true, decide_eq_true_eq, ite_and2]
  · simp (disch := omega) only [l_X8_hasBox_2_s, b_X8_hasBox_2, q_many3 h I, Option.bind_some, Int32.lt_irrefl, if_false]
theorem q_noBox (h : wM hp x S) (I : sI (S 2) (S 4)) (w : Int32) : f_X8_isWithoutBox x w hp = some (zb (!sHas (S 2) w (fun _ => true))) := by
  have hd := sI_bd I
  simp only [f_X8_isWithoutBox, wm_is h, Option.bind_some]
  refine (zFC (n := sN (S 2) 3) (fun b => decide (S 2 (44 + b) = w) && true) _ _ (by omega) (fun m i hi => ?_) (fun m => ?_)).trans (ite_some_zb' _)
  · simp (disch := omega) only [l_X8_isWithoutBox_2_s, b_X8_isWithoutBox_2, q_many3 h I, Option.bind_some, pn_lt, hi, if_true, wm_T h, ix44, wm_told h, zlet, pn_succ, Bool.and_true, decide_eq_true_eq]
  · simp (disch := omega) only [l_X8_isWithoutBox_2_s, b_X8_isWithoutBox_2, q_many3 h I, Option.bind_some, Int32.lt_irrefl, if_false]
theorem q_against (h : wM hp x S) (I : sI (S 2) (S 4)) (w : Int32) : f_X8_against x w hp = some (sAga (S 2) (S 4) w) := by
  simp only [f_X8_against, wm_is h, Option.bind_some, p_isDecl h I, q_noBox h I, q_hasBox0 h I, q_hasBox1 h I, q_hasBox2 h I, q_hasBox3 h I, q_isNear h I, zb_0]
  unfold sAga
  cases sDecl (S 4) w
  · cases sHas (S 2) w (fun _ => true)
    · rfl
    · cases sHas (S 2) w (fun b => decide (sC (S 4) b = 0))
      · cases sHas (S 2) w (fun b => !decide (sF (S 4) b 0 = -4))
        · cases sHas (S 2) w (fun b => (sCf (S 2) (S 4) b).isNone && sOff (S 2) (S 4) b)
          · cases sNear (S 2) (S 4) w
            · rfl
            · cases sHas (S 2) w (fun b => (sCf (S 2) (S 4) b).isNone) <;> rfl
          · rfl
        · rfl
      · rfl
  · rfl
theorem q_comes (h : wM hp x S) (I : sI (S 2) (S 4)) : f_X8_comes x hp = some (sCome (S 2) (S 4)) := by
  have hd := sI_bd I
  simp only [f_X8_comes, wm_is h, Option.bind_some]
  refine zFB (n := sN (S 2) 2) (fun i => (sCm (S 2) (S 4) i).1) (fun i => (sCm (S 2) (S 4) i).2) _ (by omega) (fun m i hi => ?_) (fun m => ?_)
  · simp (disch := omega) only [l_X8_comes_7_s, b_X8_comes_7, q_many2 h I, q_many0 h I, Option.bind_some, pn_lt, hi, if_true, q_votes h I, q_allVotes h I, q_against h I, zlet, pn_succ, sCm, ite_and2]
    by_cases q : sAga (S 2) (S 4) (Int32.ofNat i) = 0
    · simp only [q, if_true, true_and]
      by_cases q2 : sAll (S 2) (S 4) (Int32.ofNat i) + sVo (S 2) (S 4) (Int32.ofNat i) (sN (S 2) 0) < (sCm (S 2) (S 4) i).2
      · simp only [q2, if_true]
      · simp only [q2, if_false]
    · simp only [q, if_false, false_and]
  · simp (disch := omega) only [l_X8_comes_7_s, b_X8_comes_7, q_many2 h I, Option.bind_some, Int32.lt_irrefl, if_false]
    rfl
theorem q_must (h : wM hp x S) (I : sI (S 2) (S 4)) {b : Nat} (hb : b < sN (S 2) 3) : f_X8_mustBeCounted x (Int32.ofNat b) hp = some (zb (sMust (S 2) (S 4) b)) := by
  have hd := sI_bd I
  have hc := sI_c I hb
  simp (disch := omega) only [f_X8_mustBeCounted, wm_is h, Option.bind_some, wm_T h, ix44, wm_told h, p_isDecl h I, q_wasC h I, hb, p_conf h I, zoi_m1 I hb, q_differs h I, q_isNear h I, zb_0, decide_eq_false_iff_not]
  unfold sMust
  cases sDecl (S 4) (S 2 (44 + b))
  · by_cases q : sC (S 4) b = 0
    · simp [q, zb]
    · cases (sCf (S 2) (S 4) b).isNone
      · simp [q, zb, show 0 < sC (S 4) b by omega]
      · cases sOff (S 2) (S 4) b
        · cases sNear (S 2) (S 4) (S 2 (44 + b)) <;> simp [q, zb, show 0 < sC (S 4) b by omega]
        · simp [q, zb, show 0 < sC (S 4) b by omega]
  · rfl
theorem q_due (h : wM hp x S) (I : sI (S 2) (S 4)) : f_X8_due x hp = some (sDue (S 2) (S 4)) := by
  have hd := sI_bd I
  simp only [f_X8_due, wm_is h, Option.bind_some]
  refine zFA (n := sN (S 2) 3) (sOr (sMust (S 2) (S 4))) _ (by omega) (fun m i hi => ?_) (fun m => ?_)
  · simp (disch := omega) only [l_X8_due_4_s, b_X8_due_4, j_X8_due_29, q_many3 h I, Option.bind_some, pn_lt, hi, if_true, q_must h I, zb_0, zlet, pn_succ, sOr]
    cases sMust (S 2) (S 4) i <;> rfl
  · simp (disch := omega) only [l_X8_due_4_s, b_X8_due_4, q_many3 h I, Option.bind_some, Int32.lt_irrefl, if_false]
    rfl
end P33
