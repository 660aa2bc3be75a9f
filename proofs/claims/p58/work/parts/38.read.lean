/-! PURE: the public methods that only read: class and reference answer alike -/
section P38
def inr (y : Int32) (n : Nat) : Bool := !decide (y < 0) && decide (y < Int32.ofNat n)
theorem inr_T {k n : Nat} (hk : k < n) (hn : n < 2147483648) : inr (Int32.ofNat k) n = true := by
  unfold inr
  simp (disch := omega) [pn_negF, pn_lt, hk]
theorem inr_cases (y : Int32) {n : Nat} (hn : n < 2147483648) : (∃ k, k < n ∧ y = Int32.ofNat k) ∨ inr y n = false := by
  by_cases h0 : y < 0
  · exact Or.inr (by unfold inr; simp [h0])
  · by_cases h1 : y < Int32.ofNat n
    · obtain ⟨k, e, hk⟩ := pn_in hn h0 h1
      exact Or.inl ⟨k, hk, e⟩
    · exact Or.inr (by unfold inr; simp [h1])
/-- the reference with its field 'thrown' set -/
def zth (hp : zHp) (x : Nat) (F : Nat → Int32) (v : Int32) : zHp := zup hp x (.inr (8, zMf x (upd F 0 v)))
variable {hp : zHp} {c ld hl hi sb p q x a b : Nat} {ea : Int32} {T N F : Nat → Int32} {S : Nat → Nat → Int32}
theorem wMF_th (h : wMF hp x F S) (v : Int32) : wMF (zth hp x F v) x (upd F 0 v) S := by
  refine ⟨zup_eq _ _ _, fun j h1 h2 => ?_⟩
  rw [show zth hp x F v (x + j) = hp (x + j) from zup_ne (by omega)]
  exact h.2 j h1 h2
theorem wMF_M (h : wMF hp x F S) : wM hp x S := ⟨F, h⟩
theorem q_th (h : wMF hp x F S) (v : Int32) : zpV hp x 8 0 (.int v) = some (zth hp x F v) := by
  rw [po_V h.1 (show 0 < 21 by decide)]
  rfl
theorem c_hasPile (h : wPl hp p T) (y : Int32) : f_X5_hasPile p y hp = some (zb (inr y (sPi T))) := by
  simp only [f_X5_hasPile, c_is5 h, Option.bind_some, c_piles h, ite_some_zbP]
  unfold inr
  by_cases e : y < 0
  · simp [e, zb]
  · simp [e]
theorem zb2_some {α β γ : Type} (a : α) (b : β) (k : α → β → Option γ) : zb2 (some (a, b)) k = k a b := rfl
theorem zrNp_b (b : Bool) : zrNp .boolean (zb b) = some (zb b) := by cases b <;> rfl
/-- the class's own object, and its hall -/
def wK (hp : zHp) (c ld hl hi sb p q : Nat) (ea : Int32) (T N : Nat → Int32) : Prop := hp c = some (.inr (7, [.ref ld, .ref hl, .ref hi, .ref sb, .int ea])) ∧ wH hp hl p q T N
theorem k_is (K : wK hp c ld hl hi sb p q ea T N) : zis hp c 7 = some () := po_is K.1
theorem k_hl (K : wK hp c ld hl hi sb p q ea T N) : zgR hp c 7 1 = some hl := po_R K.1 rfl
theorem k_hi (K : wK hp c ld hl hi sb p q ea T N) : zgR hp c 7 2 = some hi := po_R K.1 rfl
theorem k_ld (K : wK hp c ld hl hi sb p q ea T N) : zgR hp c 7 0 = some ld := po_R K.1 rfl
theorem k_sb (K : wK hp c ld hl hi sb p q ea T N) : zgR hp c 7 3 = some sb := po_R K.1 rfl
theorem k_ea (K : wK hp c ld hl hi sb p q ea T N) : zgI hp c 7 4 = some ea := po_I K.1 rfl
theorem c_find (h : wPl hp p T) (I : sI T N) {s : Nat} (hs : s < 4) (y : Int32) : f_X5_find p (Int32.ofNat s) y hp = some (zoi (zff (fun k => decide (T (zno s + k) = y)) (sN T s) 0)) := by
  have hb := sI_b I (s := s) (by omega)
  simp only [f_X5_find, c_is5 h, Option.bind_some]
  refine (zF (n := sN T s) (fun k => decide (T (zno s + k) = y)) (fun k => some (Int32.ofNat k)) (some (-1)) (by omega) (fun m i hi => ?_) (fun m => ?_)).trans ?_
  · simp (disch := omega) only [l_X5_find_2_s, b_X5_find_2, c_num h, c_n h, c_names h, c_namesR h, c_namesA h I, Option.bind_some, pn_lt, hi, if_true, zlet, pn_succ, decide_eq_true_eq]
  · simp (disch := omega) only [l_X5_find_2_s, b_X5_find_2, c_num h, c_n h, Option.bind_some, Int32.lt_irrefl, if_false]
  · unfold zoi
    cases zff (fun k => decide (T (zno s + k) = y)) (sN T s) 0 <;> rfl
theorem c_truth (h : wPl hp p T) (I : sI T N) {t b : Nat} (ht : t < sN T 4) (hb : b < sN T 3) : f_X5_wouldFindTruth p (Int32.ofNat t) (Int32.ofNat b) hp = some (zb (sSame T (sFi T t b) (sPap T b))) := by
  have hd := sI_bd I
  simp only [f_X5_wouldFindTruth, c_is5 h, Option.bind_some]
  refine (zFC (n := sPi T) (fun k => !decide (sFi T t b k = sPap T b k)) (some 0) (some 1) (by omega) (fun m i hi => ?_) (fun m => ?_)).trans ?_
  · simp (disch := omega) only [l_X5_wouldFindTruth_2_s, b_X5_wouldFindTruth_2, c_piles h, c_wouldFind h I, c_papers h, c_papersR h, c_papersA h I, Option.bind_some, pn_lt, hi, if_true, zlet, pn_succ]
    by_cases e : sFi T t b i = sPap T b i
    · simp [e]
    · simp [e]
  · simp (disch := omega) only [l_X5_wouldFindTruth_2_s, b_X5_wouldFindTruth_2, c_piles h, Option.bind_some, Int32.lt_irrefl, if_false]
  · unfold sSame
    cases zff (fun k => !decide (sFi T t b k = sPap T b k)) (sPi T) 0 <;> rfl

theorem ite_zbp (b : Bool) (h : zHp) : (if b = true then some ((1 : Int32), h) else some (0, h)) = some (zb b, h) := by cases b <;> rfl
theorem zCfp (o : Option Nat) (h : zHp) : (if o.isNone = true then some ((0 : Int32), h) else some (1, h)) = some (zb o.isSome, h) := by cases o <;> rfl
theorem x_hasI (X : wX hp a T N b) (I : sI T N) (hb : b < sN T 3) (y : Int32) : f_X0_hasCount a y hp = some (zb (inr y (sC N b))) := by
  simp only [f_X0_hasCount, x_is X, x_cnt X, Option.bind_some, ite_some_zbP]
  unfold inr
  by_cases e : y < 0
  · simp [e, zb]
  · simp [e]
theorem k_hasI (H : wH hp hl p q T N) {b : Nat} (hb : b < sN T 3) (y : Int32) : f_X0_hasCount (q + 4 + 4 * b) y hp = some (zb (inr y (sC N b))) := x_hasI (hs_X H hb) (hh_I H) hb y
end P38

