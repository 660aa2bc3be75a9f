/-! PURE: the class's cells: plan, box, state, hall; what they say in the words of part 31; readers of a box and a plan -/
section P34
def pLen (j : Nat) : Nat := if j = 1 then 5 else if j = 8 then 5 else if j = 9 then 6 else if 14 ≤ j ∧ j ≤ 25 then 6 else if j = 26 then 4 else if j = 27 then 2 else 12
def pCell (j : Nat) : Prop := j = 1 ∨ (3 ≤ j ∧ j ≤ 12) ∨ (14 ≤ j ∧ j ≤ 27)
/-- a plan at p, its 28 cells; R: the rows by their places -/
def wP (hp : zHp) (p : Nat) (R : Nat → Nat → Int32) : Prop :=
  hp p = some (.inr (5, [.ref (p + 1), .ref (p + 2), .ref (p + 8), .ref (p + 9), .ref (p + 10), .ref (p + 11), .ref (p + 12), .ref (p + 13), .ref (p + 26), .ref (p + 27)])) ∧
  (∃ f : Nat → Option Nat, hp (p + 2) = some (.inl (5, 5, .inr (.inr (.inr (.inr f))))) ∧ ∀ i, i < 5 → f i = some (p + 3 + i)) ∧
  (∃ f : Nat → Option Nat, hp (p + 13) = some (.inl (5, 12, .inr (.inr (.inr (.inr f))))) ∧ ∀ i, i < 12 → f i = some (p + 14 + i)) ∧
  ∀ j, pCell j → hp (p + j) = some (.inl (0, pLen j, .inl (R j)))
def bLen (j : Nat) : Nat := if j = 1 then 12 else if j = 2 then 4 else 24
def zBf (a : Nat) (v : Nat → Int32) : List Value := [.int (v 0), .int (v 1), .int (v 2), .int (v 3), .int (v 4), .int (v 5), .ref (a + 1), .ref (a + 2), .ref (a + 3)]
/-- a box at a, its 4 cells -/
def wBx (hp : zHp) (a : Nat) (B : Nat → Nat → Int32) : Prop := hp a = some (.inr (0, zBf a (B 0))) ∧ (∀ j, 1 ≤ j → j ≤ 3 → hp (a + j) = some (.inl (0, bLen j, .inl (B j)))) ∧ (B 0 5 = 0 ∨ B 0 5 = 1)
/-- a state at q, its 52 cells; G i the box i, G 12 0 the settings, G 12 1 the order, G 12 2 the fields -/
def wSt (hp : zHp) (q : Nat) (G : Nat → Nat → Nat → Int32) : Prop :=
  hp q = some (.inr (6, [.ref (q + 1), .ref (q + 2), .ref (q + 3), .int (G 12 2 3), .int (G 12 2 4)])) ∧
  (∃ f : Nat → Option Nat, hp (q + 1) = some (.inl (3, 12, .inr (.inr (.inr (.inr f))))) ∧ ∀ i, i < 12 → f i = some (q + 4 + 4 * i)) ∧
  hp (q + 2) = some (.inl (0, 2, .inl (G 12 0))) ∧ hp (q + 3) = some (.inl (0, 6, .inl (G 12 1))) ∧
  ∀ i, i < 12 → wBx hp (q + 4 + 4 * i) (G i)
/-- where the names of a sort begin -/
def zno (s : Nat) : Nat := if s = 0 then 5 else if s = 1 then 10 else if s = 2 then 15 else 21
def rP (T : Nat → Int32) (R : Nat → Nat → Int32) : Prop :=
  (∀ s, s < 5 → R 1 s = Int32.ofNat (sN T s)) ∧ (∀ s k, s < 4 → k < sN T s → R (3 + s) k = T (zno s + k)) ∧ (∀ r, r < sN T 1 → R 8 r = T (33 + r)) ∧ (∀ w, w < sN T 2 → R 9 w = T (38 + w)) ∧
  (∀ b, b < sN T 3 → R 10 b = T (44 + b) ∧ R 11 b = T (56 + b)) ∧ (∀ b p, b < sN T 3 → p < sPi T → R (14 + b) p = sPap T b p) ∧ (∀ t, t < sN T 4 → R 26 t = T (140 + t))
def rBx (T N : Nat → Int32) (b : Nat) (B : Nat → Nat → Int32) : Prop :=
  (B 0 0 = sF N b 0 ∧ B 0 1 = sF N b 1 ∧ B 0 2 = Int32.ofNat (sE N b) ∧ B 0 3 = Int32.ofNat (sC N b) ∧ B 0 4 = (if sC N b = 0 then -1 else Int32.ofNat (sVi T N b)) ∧ B 0 5 = zb (sCf T N b).isSome) ∧
  (∀ e, e < sE N b → B 1 e = sF N b (4 + e)) ∧ (∀ c, c < sC N b → B 2 c = sF N b (16 + c)) ∧ ∀ c p, c < sC N b → p < sPi T → B 3 (6 * c + p) = sFd N b c p
def rS (T N : Nat → Int32) (G : Nat → Nat → Nat → Int32) : Prop :=
  (∀ i, i < 2 → G 12 0 i = N i) ∧ G 12 2 3 = Int32.ofNat (sD N) ∧ G 12 2 4 = N 2 ∧ (∀ k, k < sD N → G 12 1 k = N (3 + k)) ∧ ∀ b, b < sN T 3 → rBx T N b (G b)
def wPl (hp : zHp) (p : Nat) (T : Nat → Int32) : Prop := ∃ R, wP hp p R ∧ rP T R
def wX (hp : zHp) (a : Nat) (T N : Nat → Int32) (b : Nat) : Prop := ∃ B, wBx hp a B ∧ rBx T N b B
def wSS (hp : zHp) (q : Nat) (T N : Nat → Int32) : Prop := ∃ G, wSt hp q G ∧ rS T N G
/-- a hall at hl, with its plan at p and its state at q -/
def wH (hp : zHp) (hl p q : Nat) (T N : Nat → Int32) : Prop := hp hl = some (.inr (1, [.ref p, .ref q])) ∧ wPl hp p T ∧ wSS hp q T N ∧ sI T N
variable {hp : zHp} {hl p q a b : Nat} {T N : Nat → Int32}
/-! a plan -/
theorem c_is5 (h : wPl hp p T) : zis hp p 5 = some () := let ⟨_, h, _⟩ := h; po_is h.1
theorem c_num (h : wPl hp p T) : zgR hp p 5 0 = some (p + 1) := let ⟨_, h, _⟩ := h; po_R h.1 rfl
theorem c_names (h : wPl hp p T) : zgR hp p 5 1 = some (p + 2) := let ⟨_, h, _⟩ := h; po_R h.1 rfl
theorem c_around (h : wPl hp p T) : zgR hp p 5 2 = some (p + 8) := let ⟨_, h, _⟩ := h; po_R h.1 rfl
theorem c_regions (h : wPl hp p T) : zgR hp p 5 3 = some (p + 9) := let ⟨_, h, _⟩ := h; po_R h.1 rfl
theorem c_wards (h : wPl hp p T) : zgR hp p 5 4 = some (p + 10) := let ⟨_, h, _⟩ := h; po_R h.1 rfl
theorem c_issued (h : wPl hp p T) : zgR hp p 5 5 = some (p + 11) := let ⟨_, h, _⟩ := h; po_R h.1 rfl
theorem c_papers (h : wPl hp p T) : zgR hp p 5 7 = some (p + 13) := let ⟨_, h, _⟩ := h; po_R h.1 rfl
theorem c_slips (h : wPl hp p T) : zgR hp p 5 8 = some (p + 26) := let ⟨_, h, _⟩ := h; po_R h.1 rfl
theorem wP_rd {R : Nat → Nat → Int32} (h : wP hp p R) {j k : Nat} (hj : pCell j) (hk : k < pLen j) : zaI hp 0 (p + j) (Int32.ofNat k) = some (R j k) := pa_rd (h.2.2.2 j hj) (Or.inl rfl) hk (by unfold pLen; (repeat' split) <;> decide)
theorem c_n (h : wPl hp p T) {s : Nat} (hs : s < 5) : zaI hp 0 (p + 1) (Int32.ofNat s) = some (Int32.ofNat (sN T s)) := by
  obtain ⟨R, h, r⟩ := h
  rw [wP_rd h (j := 1) (Or.inl rfl) hs, r.1 s hs]
theorem c_n0 (h : wPl hp p T) : zaI hp 0 (p + 1) 0 = some (Int32.ofNat (sN T 0)) := c_n h (s := 0) (by decide)
theorem c_n1 (h : wPl hp p T) : zaI hp 0 (p + 1) 1 = some (Int32.ofNat (sN T 1)) := c_n h (s := 1) (by decide)
theorem c_n2 (h : wPl hp p T) : zaI hp 0 (p + 1) 2 = some (Int32.ofNat (sN T 2)) := c_n h (s := 2) (by decide)
theorem c_n3 (h : wPl hp p T) : zaI hp 0 (p + 1) 3 = some (Int32.ofNat (sN T 3)) := c_n h (s := 3) (by decide)
theorem c_n4 (h : wPl hp p T) : zaI hp 0 (p + 1) 4 = some (Int32.ofNat (sN T 4)) := c_n h (s := 4) (by decide)
theorem c_aroundA (h : wPl hp p T) (I : sI T N) {r : Nat} (hr : r < sN T 1) : zaI hp 0 (p + 8) (Int32.ofNat r) = some (T (33 + r)) := by
  have := sI_bd I
  obtain ⟨R, h, e⟩ := h
  rw [wP_rd h (j := 8) (by unfold pCell; omega) (by show r < 5; omega), e.2.2.1 r hr]
theorem c_regionsA (h : wPl hp p T) (I : sI T N) {w : Nat} (hw : w < sN T 2) : zaI hp 0 (p + 9) (Int32.ofNat w) = some (T (38 + w)) := by
  have := sI_bd I
  obtain ⟨R, h, e⟩ := h
  rw [wP_rd h (j := 9) (by unfold pCell; omega) (by show w < 6; omega), e.2.2.2.1 w hw]
theorem c_wardsA (h : wPl hp p T) (I : sI T N) {b : Nat} (hb : b < sN T 3) : zaI hp 0 (p + 10) (Int32.ofNat b) = some (T (44 + b)) := by
  have := sI_bd I
  obtain ⟨R, h, e⟩ := h
  rw [wP_rd h (j := 10) (by unfold pCell; omega) (by show b < 12; omega), (e.2.2.2.2.1 b hb).1]
theorem c_issuedA (h : wPl hp p T) (I : sI T N) {b : Nat} (hb : b < sN T 3) : zaI hp 0 (p + 11) (Int32.ofNat b) = some (T (56 + b)) := by
  have := sI_bd I
  obtain ⟨R, h, e⟩ := h
  rw [wP_rd h (j := 11) (by unfold pCell; omega) (by show b < 12; omega), (e.2.2.2.2.1 b hb).2]
theorem c_slipsA (h : wPl hp p T) (I : sI T N) {t : Nat} (ht : t < sN T 4) : zaI hp 0 (p + 26) (Int32.ofNat t) = some (T (140 + t)) := by
  have := sI_bd I
  obtain ⟨R, h, e⟩ := h
  rw [wP_rd h (j := 26) (by unfold pCell; omega) (by show t < 4; omega), e.2.2.2.2.2.2 t ht]
theorem c_papersR (h : wPl hp p T) {b : Nat} (hb : b < 12) : zaR hp 5 (p + 13) (Int32.ofNat b) = some (p + 14 + b) := by
  obtain ⟨R, h, -⟩ := h
  obtain ⟨f, h1, h2⟩ := h.2.2.1
  exact pa_rdR h1 hb (by decide) (h2 b hb)
theorem c_papersA (h : wPl hp p T) (I : sI T N) {b k : Nat} (hb : b < sN T 3) (hk : k < sPi T) : zaI hp 0 (p + 14 + b) (Int32.ofNat k) = some (sPap T b k) := by
  have := sI_bd I
  obtain ⟨R, h, e⟩ := h
  have h1 := wP_rd h (j := 14 + b) (k := k) (by unfold pCell; omega) (by unfold pLen; rw [if_neg (by omega), if_neg (by omega), if_neg (by omega), if_pos (by omega)]; omega)
  rw [Nat.add_assoc, h1, e.2.2.2.2.2.1 b k hb hk]
theorem c_namesR (h : wPl hp p T) {s : Nat} (hs : s < 5) : zaR hp 5 (p + 2) (Int32.ofNat s) = some (p + 3 + s) := by
  obtain ⟨R, h, -⟩ := h
  obtain ⟨f, h1, h2⟩ := h.2.1
  exact pa_rdR h1 hs (by decide) (h2 s hs)
theorem c_namesA (h : wPl hp p T) (I : sI T N) {s k : Nat} (hs : s < 4) (hk : k < sN T s) : zaI hp 0 (p + 3 + s) (Int32.ofNat k) = some (T (zno s + k)) := by
  have := sI_b I (s := s) (by omega)
  obtain ⟨R, h, e⟩ := h
  have h1 := wP_rd h (j := 3 + s) (k := k) (by unfold pCell; omega) (by unfold pLen; rw [if_neg (by omega), if_neg (by omega), if_neg (by omega), if_neg (by omega), if_neg (by omega), if_neg (by omega)]; omega)
  rw [Nat.add_assoc, h1, e.2.1 s k hs hk]
theorem c_piles (h : wPl hp p T) : f_X5_piles p hp = some (Int32.ofNat (sPi T)) := by
  simp only [f_X5_piles, c_is5 h, c_num h, c_n0 h, Option.bind_some, pn_succ]
  rfl
theorem c_slipped (h : wPl hp p T) (I : sI T N) {b k s : Nat} (hb : b < sN T 3) (hk : k < sPi T) (hs : s < 100) : f_X5_slipped p (Int32.ofNat b) (Int32.ofNat k) (Int32.ofNat s) hp = some (sSl T (Int32.ofNat s) b k) := by
  have hd := sI_bd I
  simp (disch := omega) only [f_X5_slipped, c_is5 h, Option.bind_some, pn_0lt]
  unfold sSl
  simp (disch := omega) only [pn_eq0]
  by_cases q : s = 0
  · rw [if_neg (by omega), if_pos q]
  · rw [if_pos (by omega), if_neg q]
    refine zFA (n := k) (zsum (fun k => sPap T b k)) _ (by omega) (fun m i hi => ?_) (fun m => ?_)
    · simp (disch := omega) only [l_X5_slipped_12_s, b_X5_slipped_12, pn_lt, hi, if_true, c_papers h, c_papersR h, c_papersA h I, Option.bind_some, zlet, pn_succ, zsum_s]
    · have e0 : ¬ Int32.ofNat s = 0 := by rw [pn_eq0 (by omega)]; exact q
      simp (disch := omega) only [l_X5_slipped_12_s, b_X5_slipped_12, Int32.lt_irrefl, if_false, c_papers h, c_papersR h, c_papersA h I, Option.bind_some, zdiv, e0]
      rfl
theorem c_wouldFind (h : wPl hp p T) (I : sI T N) {t b k : Nat} (ht : t < sN T 4) (hb : b < sN T 3) (hk : k < sPi T) : f_X5_wouldFind p (Int32.ofNat t) (Int32.ofNat b) (Int32.ofNat k) hp = some (sFi T t b k) := by
  have hd := sI_bd I
  obtain ⟨s, hs, es⟩ := sI_s I ht
  have J : ∀ o, o < sPi T → j_X5_wouldFind_24 p (Int32.ofNat b) (Int32.ofNat k) (Int32.ofNat s) (Int32.ofNat o) hp = some (sPap T b k - sSl T (Int32.ofNat s) b k + sSl T (Int32.ofNat s) b o) := fun o ho => by
    simp (disch := omega) only [j_X5_wouldFind_24, c_papers h, c_papersR h, c_papersA h I, c_slipped h I, Option.bind_some]
  simp (disch := omega) only [f_X5_wouldFind, c_is5 h, c_slips h, c_slipsA h I, Option.bind_some, es, c_piles h]
  unfold sFi
  rw [es]
  rcases Nat.eq_zero_or_pos k with rfl | hpos
  · rw [if_pos (show Int32.ofNat 0 = 0 from rfl), if_pos rfl]
    unfold sPi
    rw [is1]
    exact J _ (by omega)
  · obtain ⟨r, rfl⟩ : ∃ r, k = r + 1 := ⟨k - 1, by omega⟩
    rw [if_neg (by rw [pn_eq0 (by omega)]; omega), if_neg (by omega), is1]
    exact J _ (by omega)
/-! a box -/
theorem x_is (X : wX hp a T N b) : zis hp a 0 = some () := let ⟨_, h, _⟩ := X; po_is h.1
theorem x_place (X : wX hp a T N b) : zgI hp a 0 0 = some (sF N b 0) := by
  obtain ⟨B, h, r⟩ := X
  rw [← r.1.1]
  exact po_I h.1 rfl
theorem x_seal (X : wX hp a T N b) : zgI hp a 0 1 = some (sF N b 1) := by
  obtain ⟨B, h, r⟩ := X
  rw [← r.1.2.1]
  exact po_I h.1 rfl
theorem x_ent (X : wX hp a T N b) : zgI hp a 0 2 = some (Int32.ofNat (sE N b)) := by
  obtain ⟨B, h, r⟩ := X
  rw [← r.1.2.2.1]
  exact po_I h.1 rfl
theorem x_cnt (X : wX hp a T N b) : zgI hp a 0 3 = some (Int32.ofNat (sC N b)) := by
  obtain ⟨B, h, r⟩ := X
  rw [← r.1.2.2.2.1]
  exact po_I h.1 rfl
theorem x_val (X : wX hp a T N b) : zgI hp a 0 4 = some (if sC N b = 0 then -1 else Int32.ofNat (sVi T N b)) := by
  obtain ⟨B, h, r⟩ := X
  rw [← r.1.2.2.2.2.1]
  exact po_I h.1 rfl
theorem x_conf (X : wX hp a T N b) : zgI hp a 0 5 = some (zb (sCf T N b).isSome) := by
  obtain ⟨B, h, r⟩ := X
  rw [← r.1.2.2.2.2.2]
  exact po_I h.1 rfl
theorem x_led (X : wX hp a T N b) : zgR hp a 0 6 = some (a + 1) := let ⟨_, h, _⟩ := X; po_R h.1 rfl
theorem x_tab (X : wX hp a T N b) : zgR hp a 0 7 = some (a + 2) := let ⟨_, h, _⟩ := X; po_R h.1 rfl
theorem x_fnd (X : wX hp a T N b) : zgR hp a 0 8 = some (a + 3) := let ⟨_, h, _⟩ := X; po_R h.1 rfl
theorem x_ledA (X : wX hp a T N b) (I : sI T N) (hb : b < sN T 3) {e : Nat} (he : e < sE N b) : zaI hp 0 (a + 1) (Int32.ofNat e) = some (sF N b (4 + e)) := by
  have := sI_e I hb
  obtain ⟨B, h, r⟩ := X
  rw [← r.2.1 e he]
  exact pa_rd (h.2.1 1 (by decide) (by decide)) (Or.inl rfl) (by show e < 12; omega) (by decide)
theorem x_tabA (X : wX hp a T N b) (I : sI T N) (hb : b < sN T 3) {c : Nat} (hc : c < sC N b) : zaI hp 0 (a + 2) (Int32.ofNat c) = some (sF N b (16 + c)) := by
  have := sI_c I hb
  obtain ⟨B, h, r⟩ := X
  rw [← r.2.2.1 c hc]
  exact pa_rd (h.2.1 2 (by decide) (by decide)) (Or.inl rfl) (by show c < 4; omega) (by decide)
theorem x_fndA (X : wX hp a T N b) (I : sI T N) (hb : b < sN T 3) {c k : Nat} (hc : c < sC N b) (hk : k < sPi T) : zaI hp 0 (a + 3) (Int32.ofNat (6 * c + k)) = some (sFd N b c k) := by
  have := sI_c I hb
  have := sI_bd I
  obtain ⟨B, h, r⟩ := X
  rw [← r.2.2.2 c k hc hk]
  exact pa_rd (h.2.1 3 (by decide) (by decide)) (Or.inl rfl) (by show 6 * c + k < 24; omega) (by decide)
theorem im6' (k : Nat) : Int32.ofNat k * (6 : Int32) = Int32.ofNat (6 * k) := by rw [Int32.mul_comm, im6]
theorem x_isAt (X : wX hp a T N b) : f_X0_isAtTable a hp = some (zb (sAtT N b)) := by
  simp only [f_X0_isAtTable, x_is X, x_place X, Option.bind_some, ite_some_zbP']
  rfl
theorem x_good (X : wX hp a T N b) (I : sI T N) (hb : b < sN T 3) : f_X0_bearsGoodSeal a hp = some (zb (sGood N b)) := by
  have he := sI_e I hb
  obtain ⟨e, ee⟩ : ∃ e, sE N b = e + 1 := ⟨sE N b - 1, by omega⟩
  simp (disch := omega) only [f_X0_bearsGoodSeal, x_is X, x_isAt X, x_ent X, x_led X, x_seal X, Option.bind_some, pn_0lt, zb_0, ee, is1, x_ledA X I hb]
  unfold sGood
  rw [if_pos (show 0 < e + 1 by omega), ee]
  cases sAtT N b
  · rw [if_pos rfl, ite_some_zbP]
    show some (zb (decide (sF N b (4 + e) = sF N b 1))) = some (zb (decide (sF N b 1 = sF N b (4 + e))))
    by_cases q : sF N b (4 + e) = sF N b 1
    · rw [decide_eq_true q, decide_eq_true q.symm]
    · rw [decide_eq_false q, decide_eq_false (fun r => q r.symm)]
  · rfl
theorem x_foundBy (X : wX hp a T N b) (I : sI T N) (hb : b < sN T 3) {c k : Nat} (hc : c < sC N b) (hk : k < sPi T) : f_X0_foundBy a (Int32.ofNat c) (Int32.ofNat k) hp = some (sFd N b c k) := by
  simp (disch := omega) only [f_X0_foundBy, x_is X, x_fnd X, im6', ixa, x_fndA X I hb, Option.bind_some]
theorem x_has (X : wX hp a T N b) (I : sI T N) (hb : b < sN T 3) {c : Nat} (hc : c < 2147483648) : f_X0_hasCount a (Int32.ofNat c) hp = some (zb (decide (c < sC N b))) := by
  have := sI_c I hb
  simp (disch := omega) only [f_X0_hasCount, x_is X, x_cnt X, Option.bind_some, pn_negF, if_false, pn_lt, ite_some_zbP]
theorem sVi_lt {T N : Nat → Int32} {b : Nat} (h : ¬ sC N b = 0) : sVi T N b < sC N b := by
  unfold sVi
  cases hk : sCf T N b with
  | none => show sC N b - 1 < sC N b; omega
  | some k => exact sCf_lt hk
theorem x_valid (X : wX hp a T N b) (I : sI T N) (hb : b < sN T 3) {k : Nat} (hk : k < sPi T) : f_X0_foundValidly a (Int32.ofNat k) hp = some (sVal T N b k) := by
  have := sI_c I hb
  simp (disch := omega) only [f_X0_foundValidly, x_is X, x_val X, Option.bind_some]
  unfold sVal
  by_cases q : sC N b = 0
  · rw [if_pos q, if_pos q]
    have e : f_X0_hasCount a (-1) hp = some 0 := by
      simp only [f_X0_hasCount, x_is X, Option.bind_some]
      rfl
    rw [e]
    rfl
  · have hv := sVi_lt (T := T) q
    rw [if_neg q, if_neg q]
    simp (disch := omega) only [x_has X I hb, x_foundBy X I hb, Option.bind_some, zb_0, hv, decide_true]
    rfl
/-- whether a box was counted at a table -/
def sWas (N : Nat → Int32) (b : Nat) (t : Int32) : Bool := (zff (fun c => decide (sF N b (16 + c) = t)) (sC N b) 0).isSome
theorem x_was (X : wX hp a T N b) (I : sI T N) (hb : b < sN T 3) (t : Int32) : f_X0_wasCountedAt a t hp = some (zb (sWas N b t)) := by
  have := sI_c I hb
  simp only [f_X0_wasCountedAt, x_is X, Option.bind_some]
  refine (zFC (n := sC N b) (fun c => decide (sF N b (16 + c) = t)) _ _ (by omega) (fun m i hi => ?_) (fun m => ?_)).trans (ite_some_zb _)
  · simp (disch := omega) only [l_X0_wasCountedAt_2_s, b_X0_wasCountedAt_2, x_cnt X, x_tab X, x_tabA X I hb, Option.bind_some, pn_lt, hi, if_true, zlet, pn_succ, decide_eq_true_eq]
  · simp (disch := omega) only [l_X0_wasCountedAt_2_s, b_X0_wasCountedAt_2, x_cnt X, Option.bind_some, Int32.lt_irrefl, if_false]
end P34

