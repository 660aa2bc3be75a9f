/-! PURE: the reference's cells, and what its reading methods answer -/
section P32
def zLen (j : Nat) : Nat := if j = 1 then 900 else if j = 2 ∨ j = 3 then 144 else if j = 4 ∨ j = 5 then 538 else if j = 6 then 5380 else 100
def zMf (x : Nat) (v : Nat → Int32) : List Value := [.int (v 0), .ref (x + 1), .int (v 2), .ref (x + 2), .ref (x + 3), .ref (x + 4), .ref (x + 5), .ref (x + 6), .int (v 8), .int (v 9), .int (v 10), .int (v 11), .int (v 12), .int (v 13), .int (v 14), .int (v 15), .int (v 16), .int (v 17), .int (v 18), .ref (x + 7), .int (v 20)]
/-- the reference at x: its fields F, and the numbers S: S 1 the bytes, S 2 told, S 3 toldBefore, S 4 now, S 5 before, S 6 past, S 7 written -/
def wMF (hp : zHp) (x : Nat) (F : Nat → Int32) (S : Nat → Nat → Int32) : Prop := hp x = some (.inr (8, zMf x F)) ∧ ∀ j, 1 ≤ j → j ≤ 7 → hp (x + j) = some (.inl (0, zLen j, .inl (S j)))
def wM (hp : zHp) (x : Nat) (S : Nat → Nat → Int32) : Prop := ∃ F, wMF hp x F S
variable {hp : zHp} {x : Nat} {S : Nat → Nat → Int32}
theorem wm_is (h : wM hp x S) : zis hp x 8 = some () := let ⟨_, h⟩ := h; po_is h.1
theorem wm_B (h : wM hp x S) : zgR hp x 8 1 = some (x + 1) := let ⟨_, h⟩ := h; po_R h.1 rfl
theorem wm_T (h : wM hp x S) : zgR hp x 8 3 = some (x + 2) := let ⟨_, h⟩ := h; po_R h.1 rfl
theorem wm_N (h : wM hp x S) : zgR hp x 8 5 = some (x + 4) := let ⟨_, h⟩ := h; po_R h.1 rfl
theorem wm_bytes (h : wM hp x S) {k : Nat} (hk : k < 900) : zaI hp 0 (x + 1) (Int32.ofNat k) = some (S 1 k) := let ⟨_, h⟩ := h; pa_rd (h.2 1 (by decide) (by decide)) (Or.inl rfl) hk (by decide)
theorem wm_told (h : wM hp x S) {k : Nat} (hk : k < 144) : zaI hp 0 (x + 2) (Int32.ofNat k) = some (S 2 k) := let ⟨_, h⟩ := h; pa_rd (h.2 2 (by decide) (by decide)) (Or.inl rfl) hk (by decide)
theorem wm_now (h : wM hp x S) {k : Nat} (hk : k < 538) : zaI hp 0 (x + 4) (Int32.ofNat k) = some (S 4 k) := let ⟨_, h⟩ := h; pa_rd (h.2 4 (by decide) (by decide)) (Or.inl rfl) hk (by decide)
theorem ix0 (k : Nat) : (0 : Int32) + Int32.ofNat k = Int32.ofNat k := by rw [Int32.zero_add]
theorem ixa (i k : Nat) : Int32.ofNat i + Int32.ofNat k = Int32.ofNat (i + k) := (Int32.ofNat_add i k).symm
theorem ix3 (k : Nat) : (3 : Int32) + Int32.ofNat k = Int32.ofNat (3 + k) := ixa 3 k
theorem ix4 (k : Nat) : (4 : Int32) + Int32.ofNat k = Int32.ofNat (4 + k) := ixa 4 k
theorem ix5 (k : Nat) : (5 : Int32) + Int32.ofNat k = Int32.ofNat (5 + k) := ixa 5 k
theorem ix10 (k : Nat) : (10 : Int32) + Int32.ofNat k = Int32.ofNat (10 + k) := ixa 10 k
theorem ix16 (k : Nat) : (16 : Int32) + Int32.ofNat k = Int32.ofNat (16 + k) := ixa 16 k
theorem ix20 (k : Nat) : (20 : Int32) + Int32.ofNat k = Int32.ofNat (20 + k) := ixa 20 k
theorem ix33 (k : Nat) : (33 : Int32) + Int32.ofNat k = Int32.ofNat (33 + k) := ixa 33 k
theorem ix38 (k : Nat) : (38 : Int32) + Int32.ofNat k = Int32.ofNat (38 + k) := ixa 38 k
theorem ix44 (k : Nat) : (44 : Int32) + Int32.ofNat k = Int32.ofNat (44 + k) := ixa 44 k
theorem ix56 (k : Nat) : (56 : Int32) + Int32.ofNat k = Int32.ofNat (56 + k) := ixa 56 k
theorem ix68 (k : Nat) : (68 : Int32) + Int32.ofNat k = Int32.ofNat (68 + k) := ixa 68 k
theorem ix140 (k : Nat) : (140 : Int32) + Int32.ofNat k = Int32.ofNat (140 + k) := ixa 140 k
theorem im44 (k : Nat) : (44 : Int32) * Int32.ofNat k = Int32.ofNat (44 * k) := (Int32.ofNat_mul 44 k).symm
theorem im6 (k : Nat) : (6 : Int32) * Int32.ofNat k = Int32.ofNat (6 * k) := (Int32.ofNat_mul 6 k).symm
theorem is1 (k : Nat) : Int32.ofNat (k + 1) - 1 = Int32.ofNat k := by
  rw [← pn_succ]
  exact Int32.add_sub_cancel _ _
/-! loops over a counter -/
theorem zfor {R : Type} (b : (Int32 → Option R) → Int32 → Option R) (l : Nat → Int32 → Option R) (hl : ∀ m a, l (m + 1) a = b (l m) a) (n : Nat) (p : Nat → Bool) (ex : Nat → Option R) (res : Option R)
    (B1 : ∀ rec i, i < n → b rec (Int32.ofNat i) = if p i = true then ex i else rec (Int32.ofNat (i + 1))) (B2 : ∀ rec, b rec (Int32.ofNat n) = res) : ∀ m, n < m → l m (Int32.ofNat 0) = (match zff p n 0 with | some k => ex k | none => res) :=
  zloopF (fun m a => l m a) n (fun i => Int32.ofNat i) p ex res (fun m i hi hq => by rw [hl, B1 _ i hi, hq]; rfl) (fun m i hi hq => by rw [hl, B1 _ i hi, if_pos hq]) (fun m => by rw [hl, B2])
/-- .. whose exits don't name the counter -/
theorem zforC {R : Type} (b : (Int32 → Option R) → Int32 → Option R) (l : Nat → Int32 → Option R) (hl : ∀ m a, l (m + 1) a = b (l m) a) (n : Nat) (p : Nat → Bool) (ex res : Option R)
    (B1 : ∀ rec i, i < n → b rec (Int32.ofNat i) = if p i = true then ex else rec (Int32.ofNat (i + 1))) (B2 : ∀ rec, b rec (Int32.ofNat n) = res) {m : Nat} (hm : n < m) : l m (Int32.ofNat 0) = if (zff p n 0).isSome = true then ex else res := by
  rw [zfor b l hl n p (fun _ => ex) res B1 B2 m hm]
  cases zff p n 0 <;> rfl
theorem zforA {R A : Type} (b : (A → Int32 → Option R) → A → Int32 → Option R) (l : Nat → A → Int32 → Option R) (hl : ∀ m a c, l (m + 1) a c = b (l m) a c) (n : Nat) (st : Nat → A) (k : A → Option R)
    (B1 : ∀ rec i, i < n → b rec (st i) (Int32.ofNat i) = rec (st (i + 1)) (Int32.ofNat (i + 1))) (B2 : ∀ rec, b rec (st n) (Int32.ofNat n) = k (st n)) {m : Nat} (hm : n < m) : l m (st 0) (Int32.ofNat 0) = k (st n) :=
  zloop (A := A × Int32) (fun m a => l m a.1 a.2) n (fun i => (st i, Int32.ofNat i)) (k (st n)) (fun m i hi => by show l (m + 1) (st i) (Int32.ofNat i) = _; rw [hl, B1 _ i hi]) (fun m => by show l (m + 1) (st n) (Int32.ofNat n) = _; rw [hl, B2]) m hm
theorem zforB {R A A' : Type} (b : (A → A' → Int32 → Option R) → A → A' → Int32 → Option R) (l : Nat → A → A' → Int32 → Option R) (hl : ∀ m a a' c, l (m + 1) a a' c = b (l m) a a' c) (n : Nat) (st : Nat → A) (st' : Nat → A') (k : A → A' → Option R)
    (B1 : ∀ rec i, i < n → b rec (st i) (st' i) (Int32.ofNat i) = rec (st (i + 1)) (st' (i + 1)) (Int32.ofNat (i + 1))) (B2 : ∀ rec, b rec (st n) (st' n) (Int32.ofNat n) = k (st n) (st' n)) {m : Nat} (hm : n < m) : l m (st 0) (st' 0) (Int32.ofNat 0) = k (st n) (st' n) :=
  zloop (A := A × A' × Int32) (fun m a => l m a.1 a.2.1 a.2.2) n (fun i => (st i, st' i, Int32.ofNat i)) (k (st n) (st' n)) (fun m i hi => by show l (m + 1) (st i) (st' i) (Int32.ofNat i) = _; rw [hl, B1 _ i hi]) (fun m => by show l (m + 1) (st n) (st' n) (Int32.ofNat n) = _; rw [hl, B2]) m hm
/-! what always holds of the state -/
def sI (T N : Nat → Int32) : Prop := (∀ s, s < 5 → T s = Int32.ofNat (sN T s)) ∧ (sN T 0 ≤ 5 ∧ sN T 1 ≤ 5 ∧ sN T 2 ≤ 6 ∧ sN T 3 ≤ 12 ∧ sN T 4 ≤ 4) ∧
  (∀ b, b < sN T 3 → (sF N b 3 = Int32.ofNat (sC N b) ∧ sC N b ≤ 4) ∧ (sF N b 2 = Int32.ofNat (sE N b) ∧ 1 ≤ sE N b ∧ sE N b ≤ 12) ∧ (∀ c p, c < sC N b → p < sPi T → ∃ q, sFd N b c p = Int32.ofNat q ∧ q ≤ 600)) ∧
  (N 9 = Int32.ofNat (sD N) ∧ sD N ≤ 6 ∧ (∀ k, k < sD N → ∃ w, w < sN T 2 ∧ N (3 + k) = Int32.ofNat w) ∧ (∀ i j, i < j → j < sD N → N (3 + i) ≠ N (3 + j))) ∧
  (∀ r, r < sN T 1 → T (33 + r) = -1 ∨ ∃ q, q < r ∧ T (33 + r) = Int32.ofNat q) ∧ (∀ w, w < sN T 2 → ∃ r, r < sN T 1 ∧ T (38 + w) = Int32.ofNat r) ∧ (∀ b, b < sN T 3 → ∃ w, w < sN T 2 ∧ T (44 + b) = Int32.ofNat w) ∧
  (∀ t, t < sN T 4 → ∃ q, q ≤ 99 ∧ T (140 + t) = Int32.ofNat q) ∧ (∀ b p, b < sN T 3 → p < sPi T → ∃ q, q ≤ 300 ∧ sPap T b p = Int32.ofNat q)
theorem sI_n {T N : Nat → Int32} (I : sI T N) {s : Nat} (hs : s < 5) : T s = Int32.ofNat (sN T s) := I.1 s hs
theorem sI_b {T N : Nat → Int32} (I : sI T N) {s : Nat} (hs : s < 5) : sN T s ≤ 12 := by
  obtain ⟨-, ⟨h0, h1, h2, h3, h4⟩, -⟩ := I
  rcases (show s = 0 ∨ s = 1 ∨ s = 2 ∨ s = 3 ∨ s = 4 by omega) with rfl | rfl | rfl | rfl | rfl <;> omega
theorem p_many (h : wM hp x S) {i : Int32} {s : Nat} (hi : i = Int32.ofNat s) (hs : s < 5) : f_X8_many x i hp = some (S 2 s) := by
  subst hi
  simp only [f_X8_many, wm_is h, wm_T h, Option.bind_some, ix0, wm_told h (show s < 144 by omega)]
theorem p_piles (h : wM hp x S) (I : sI (S 2) (S 4)) : f_X8_piles x hp = some (Int32.ofNat (sPi (S 2))) := by
  simp only [f_X8_piles, wm_is h, Option.bind_some, show f_X8_many x 0 hp = some (S 2 0) from p_many h (s := 0) rfl (by decide), sI_n I (s := 0) (by decide), pn_succ]
  rfl
theorem p_of (h : wM hp x S) {b w : Nat} {i : Int32} (hi : i = Int32.ofNat w) (hb : b < 12) (hw : w < 44) : f_X8_of x (Int32.ofNat b) i hp = some (sF (S 4) b w) := by
  subst hi
  simp only [f_X8_of, wm_is h, wm_N h, Option.bind_some, im44, ix10, ixa, wm_now h (show 10 + 44 * b + w < 538 by omega)]
  rfl
theorem p_paper (h : wM hp x S) {b p : Nat} (hb : b < 12) (hp' : p < 6) : f_X8_paper x (Int32.ofNat b) (Int32.ofNat p) hp = some (sPap (S 2) b p) := by
  simp only [f_X8_paper, wm_is h, wm_T h, Option.bind_some, im6, ix68, ixa, wm_told h (show 68 + 6 * b + p < 144 by omega)]
  rfl
theorem p_found (h : wM hp x S) {b c p : Nat} (hb : b < 12) (hc : c < 4) (hp' : p < 6) : f_X8_found x (Int32.ofNat b) (Int32.ofNat c) (Int32.ofNat p) hp = some (sFd (S 4) b c p) := by
  simp only [f_X8_found, wm_is h, Option.bind_some, im6, ix20, ixa, p_of h (b := b) (w := 20 + 6 * c + p) rfl hb (by omega)]
  rfl
theorem sI_c {T N : Nat → Int32} (I : sI T N) {b : Nat} (hb : b < sN T 3) : sF N b 3 = Int32.ofNat (sC N b) ∧ sC N b ≤ 4 := (I.2.2.1 b hb).1
theorem sI_e {T N : Nat → Int32} (I : sI T N) {b : Nat} (hb : b < sN T 3) : sF N b 2 = Int32.ofNat (sE N b) ∧ 1 ≤ sE N b ∧ sE N b ≤ 12 := (I.2.2.1 b hb).2.1
theorem sI_f {T N : Nat → Int32} (I : sI T N) {b c p : Nat} (hb : b < sN T 3) (hc : c < sC N b) (hp' : p < sPi T) : ∃ q, sFd N b c p = Int32.ofNat q ∧ q ≤ 600 := (I.2.2.1 b hb).2.2 c p hc hp'
theorem sI_d {T N : Nat → Int32} (I : sI T N) : N 9 = Int32.ofNat (sD N) ∧ sD N ≤ 6 := ⟨I.2.2.2.1.1, I.2.2.2.1.2.1⟩
theorem sI_r {T N : Nat → Int32} (I : sI T N) {r : Nat} (hr : r < sN T 1) : T (33 + r) = -1 ∨ ∃ q, q < r ∧ T (33 + r) = Int32.ofNat q := I.2.2.2.2.1 r hr
theorem sI_w {T N : Nat → Int32} (I : sI T N) {w : Nat} (hw : w < sN T 2) : ∃ r, r < sN T 1 ∧ T (38 + w) = Int32.ofNat r := I.2.2.2.2.2.1 w hw
theorem sI_bw {T N : Nat → Int32} (I : sI T N) {b : Nat} (hb : b < sN T 3) : ∃ w, w < sN T 2 ∧ T (44 + b) = Int32.ofNat w := I.2.2.2.2.2.2.1 b hb
theorem sI_s {T N : Nat → Int32} (I : sI T N) {t : Nat} (ht : t < sN T 4) : ∃ q, q ≤ 99 ∧ T (140 + t) = Int32.ofNat q := I.2.2.2.2.2.2.2.1 t ht
theorem sI_p {T N : Nat → Int32} (I : sI T N) {b p : Nat} (hb : b < sN T 3) (hp' : p < sPi T) : ∃ q, q ≤ 300 ∧ sPap T b p = Int32.ofNat q := I.2.2.2.2.2.2.2.2 b p hb hp'
theorem sI_3 {T N : Nat → Int32} (I : sI T N) : sN T 3 ≤ 12 := I.2.1.2.2.2.1
theorem sI_0 {T N : Nat → Int32} (I : sI T N) : sN T 0 ≤ 5 := I.2.1.1
theorem sI_1 {T N : Nat → Int32} (I : sI T N) : sN T 1 ≤ 5 := I.2.1.2.1
theorem sI_2 {T N : Nat → Int32} (I : sI T N) : sN T 2 ≤ 6 := I.2.1.2.2.1
theorem sI_4 {T N : Nat → Int32} (I : sI T N) : sN T 4 ≤ 4 := I.2.1.2.2.2.2
theorem zpi {T : Nat → Int32} (h : sN T 0 ≤ 5) : sPi T ≤ 6 := by unfold sPi; omega
/-- many of a sort, as the loops ask -/
theorem p_manyN (h : wM hp x S) (I : sI (S 2) (S 4)) {i : Int32} (s : Nat) (hi : i = Int32.ofNat s) (hs : s < 5) : f_X8_many x i hp = some (Int32.ofNat (sN (S 2) s)) := by
  rw [p_many h hi hs, sI_n I hs]
theorem q_many0 (h : wM hp x S) (I : sI (S 2) (S 4)) : f_X8_many x 0 hp = some (Int32.ofNat (sN (S 2) 0)) := p_manyN h I 0 rfl (by decide)
theorem q_many1 (h : wM hp x S) (I : sI (S 2) (S 4)) : f_X8_many x 1 hp = some (Int32.ofNat (sN (S 2) 1)) := p_manyN h I 1 rfl (by decide)
theorem q_many2 (h : wM hp x S) (I : sI (S 2) (S 4)) : f_X8_many x 2 hp = some (Int32.ofNat (sN (S 2) 2)) := p_manyN h I 2 rfl (by decide)
theorem q_many3 (h : wM hp x S) (I : sI (S 2) (S 4)) : f_X8_many x 3 hp = some (Int32.ofNat (sN (S 2) 3)) := p_manyN h I 3 rfl (by decide)
theorem q_many4 (h : wM hp x S) (I : sI (S 2) (S 4)) : f_X8_many x 4 hp = some (Int32.ofNat (sN (S 2) 4)) := p_manyN h I 4 rfl (by decide)
theorem q_of (h : wM hp x S) {b w : Nat} (hb : b < 12) (hw : w < 44) : f_X8_of x (Int32.ofNat b) (Int32.ofNat w) hp = some (sF (S 4) b w) := p_of h rfl hb hw
theorem q_of0 (h : wM hp x S) {b : Nat} (hb : b < 12) : f_X8_of x (Int32.ofNat b) 0 hp = some (sF (S 4) b 0) := p_of h (w := 0) rfl hb (by decide)
theorem q_of1 (h : wM hp x S) {b : Nat} (hb : b < 12) : f_X8_of x (Int32.ofNat b) 1 hp = some (sF (S 4) b 1) := p_of h (w := 1) rfl hb (by decide)
theorem p_isDecl (h : wM hp x S) (I : sI (S 2) (S 4)) (w : Int32) : f_X8_isDeclared x w hp = some (zb (sDecl (S 4) w)) := by
  have hd := sI_d I
  have e9 : zaI hp 0 (x + 4) 9 = some (S 4 9) := wm_now h (k := 9) (by decide)
  simp only [f_X8_isDeclared, wm_is h, Option.bind_some]
  refine (zforC (b_X8_isDeclared_2 (some (1 : Int32)) (some (0 : Int32)) x w hp) (l_X8_isDeclared_2 (some (1 : Int32)) (some (0 : Int32)) x w hp) (fun _ _ => rfl) (sD (S 4)) (fun k => decide (S 4 (3 + k) = w)) (some 1) (some 0) (fun rec i hi => ?_) (fun rec => ?_) (by omega)).trans ?_
  · simp only [b_X8_isDeclared_2, wm_N h, Option.bind_some, e9, hd.1, pn_lt (show i < 2147483648 by omega) (show sD (S 4) < 2147483648 by omega), ix3, wm_now h (show 3 + i < 538 by omega), zlet, pn_succ, decide_eq_true_eq, hi, if_true]
  · simp only [b_X8_isDeclared_2, wm_N h, Option.bind_some, e9, hd.1, pn_lt (show sD (S 4) < 2147483648 by omega) (show sD (S 4) < 2147483648 by omega), Nat.lt_irrefl, if_false]
  · unfold sDecl
    cases (zff (fun k => decide (S 4 (3 + k) = w)) (sD (S 4)) 0).isSome <;> rfl
theorem p_isAtT (h : wM hp x S) {b : Nat} (hb : b < 12) : f_X8_isAtTable x (Int32.ofNat b) hp = some (zb (sAtT (S 4) b)) := by
  simp only [f_X8_isAtTable, wm_is h, Option.bind_some, q_of0 h hb]
  unfold sAtT
  by_cases q : sF (S 4) b 0 < 0
  · rw [if_pos q, decide_eq_true q]; rfl
  · rw [if_neg q, decide_eq_false q]; rfl
theorem p_isGood (h : wM hp x S) (I : sI (S 2) (S 4)) {b : Nat} (hb : b < sN (S 2) 3) : f_X8_isGood x (Int32.ofNat b) hp = some (zb (sGood (S 4) b)) := by
  have h3 := sI_3 I
  obtain ⟨e1, e2, e3⟩ := sI_e I hb
  obtain ⟨q, hq⟩ : ∃ q, sE (S 4) b = q + 1 := ⟨sE (S 4) b - 1, by omega⟩
  have e4 : (4 : Int32) + Int32.ofNat (q + 1) - 1 = Int32.ofNat (4 + q) := by
    rw [ix4, show 4 + (q + 1) = (4 + q) + 1 by omega, is1]
  simp only [f_X8_isGood, wm_is h, Option.bind_some, p_isAtT h (show b < 12 by omega), q_of1 h (show b < 12 by omega), show f_X8_of x (Int32.ofNat b) 2 hp = some (sF (S 4) b 2) from p_of h (b := b) (w := 2) rfl (show b < 12 by omega) (by decide), e1, hq, e4, q_of h (show b < 12 by omega) (show 4 + q < 44 by omega), zb_0]
  unfold sGood
  rw [hq]
  cases sAtT (S 4) b
  · by_cases q1 : sF (S 4) b 1 = sF (S 4) b (4 + q)
    · simp [q1, zb]
    · simp [q1, zb]
  · rfl
theorem p_boxOn (h : wM hp x S) (I : sI (S 2) (S 4)) (t : Int32) : f_X8_boxOn x t hp = some (zoi (sOn (S 2) (S 4) t)) := by
  have h3 := sI_3 I
  simp only [f_X8_boxOn, wm_is h, Option.bind_some]
  refine (zfor (b_X8_boxOn_2 (fun p4 => some p4) (some (-1 : Int32)) x t hp) (l_X8_boxOn_2 (fun p4 => some p4) (some (-1 : Int32)) x t hp) (fun _ _ => rfl) (sN (S 2) 3) (fun b => decide (sF (S 4) b 0 = t)) (fun k => some (Int32.ofNat k)) (some (-1)) (fun rec i hi => ?_) (fun rec => ?_) 1000000 (by omega)).trans ?_
  · simp only [b_X8_boxOn_2, q_many3 h I, Option.bind_some, pn_lt (show i < 2147483648 by omega) (show sN (S 2) 3 < 2147483648 by omega), q_of0 h (show i < 12 by omega), zlet, pn_succ, decide_eq_true_eq, hi, if_true]
  · simp only [b_X8_boxOn_2, q_many3 h I, Option.bind_some, pn_lt (show sN (S 2) 3 < 2147483648 by omega) (show sN (S 2) 3 < 2147483648 by omega), Nat.lt_irrefl, if_false]
  · unfold sOn zoi
    cases zff (fun b => decide (sF (S 4) b 0 = t)) (sN (S 2) 3) 0 <;> rfl
theorem p_slips (h : wM hp x S) {b p : Nat} {slip : Int32} (hb : b < 12) (hp' : p < 6) : f_X8_slips x slip (Int32.ofNat b) (Int32.ofNat p) hp = some (sSl (S 2) slip b p) := by
  simp only [f_X8_slips, wm_is h, Option.bind_some]
  unfold sSl
  by_cases q : slip = 0
  · rw [if_pos q, if_pos q]
  · rw [if_neg q, if_neg q]
    refine (zforA (b_X8_slips_12 _ x slip (Int32.ofNat b) (Int32.ofNat p) hp) (l_X8_slips_12 _ x slip (Int32.ofNat b) (Int32.ofNat p) hp) (fun _ _ _ => rfl) p (fun i => sAh (S 2) b i) (fun v => some ((v + sPap (S 2) b p) / slip - v / slip)) (fun rec i hi => ?_) (fun rec => ?_) (by omega)).trans rfl
    · simp only [b_X8_slips_12, pn_lt (show i < 2147483648 by omega) (show p < 2147483648 by omega), p_paper h hb (show i < 6 by omega), Option.bind_some, zlet, pn_succ, hi, if_true]
      rfl
    · simp only [b_X8_slips_12, Int32.lt_irrefl, if_false, p_paper h hb hp', Option.bind_some, zdiv, if_neg q]
theorem p_finds (h : wM hp x S) (I : sI (S 2) (S 4)) {t b p : Nat} (ht : t < 4) (hb : b < 12) (hp' : p < sPi (S 2)) : f_X8_finds x (Int32.ofNat t) (Int32.ofNat b) (Int32.ofNat p) hp = some (sFi (S 2) t b p) := by
  have h0 := sI_0 I
  have h6 := zpi h0
  have J : ∀ o, o < 6 → j_X8_finds_28 x (Int32.ofNat b) (Int32.ofNat p) (S 2 (140 + t)) (Int32.ofNat o) hp = some (sPap (S 2) b p - sSl (S 2) (S 2 (140 + t)) b p + sSl (S 2) (S 2 (140 + t)) b o) := fun o ho => by
    simp only [j_X8_finds_28, p_paper h hb (show p < 6 by omega), p_slips h hb (show p < 6 by omega), p_slips h hb ho, Option.bind_some]
  simp only [f_X8_finds, wm_is h, wm_T h, Option.bind_some, ix140, wm_told h (show 140 + t < 144 by omega), p_piles h I]
  unfold sFi
  rcases Nat.eq_zero_or_pos p with rfl | hpos
  · rw [if_pos (show Int32.ofNat 0 = 0 from rfl), if_pos rfl]
    unfold sPi
    rw [is1]
    exact J _ (by omega)
  · obtain ⟨r, rfl⟩ : ∃ r, p = r + 1 := ⟨p - 1, by omega⟩
    have ne : ¬ Int32.ofNat (r + 1) = 0 := by
      rw [show (0 : Int32) = Int32.ofNat 0 from rfl, pn_inj (by omega) (by decide)]
      omega
    rw [if_neg ne, if_neg (by omega), is1]
    exact J _ (by omega)
/-- the loop 'all the same' -/
theorem p_agree (h : wM hp x S) (I : sI (S 2) (S 4)) {b i j : Nat} (hb : b < 12) (hi : i < 4) (hj : j < 4) : f_X8_agree x (Int32.ofNat b) (Int32.ofNat i) (Int32.ofNat j) hp = some (zb (sAgr (S 2) (S 4) b i j)) := by
  have h6 := zpi (sI_0 I)
  simp only [f_X8_agree, wm_is h, Option.bind_some, ix16, q_of h hb (show 16 + i < 44 by omega), q_of h hb (show 16 + j < 44 by omega)]
  unfold sAgr
  by_cases q : sF (S 4) b (16 + i) = sF (S 4) b (16 + j)
  · rw [if_pos q, decide_eq_true q]; rfl
  · rw [if_neg q, decide_eq_false q]
    refine (zforC (b_X8_agree_26 (some (0 : Int32)) (some (1 : Int32)) x (Int32.ofNat b) (Int32.ofNat i) (Int32.ofNat j) hp) (l_X8_agree_26 (some (0 : Int32)) (some (1 : Int32)) x (Int32.ofNat b) (Int32.ofNat i) (Int32.ofNat j) hp) (fun _ _ => rfl) (sPi (S 2)) (fun p => !decide (sFd (S 4) b i p = sFd (S 4) b j p)) (some 0) (some 1) (fun rec k hk => ?_) (fun rec => ?_) (by omega)).trans ?_
    · simp only [b_X8_agree_26, p_piles h I, Option.bind_some, pn_lt (show k < 2147483648 by omega) (show sPi (S 2) < 2147483648 by omega), p_found h hb hi (show k < 6 by omega), p_found h hb hj (show k < 6 by omega), zlet, pn_succ, hk, if_true]
      by_cases e : sFd (S 4) b i k = sFd (S 4) b j k
      · simp [e]
      · simp [e]
    · simp only [b_X8_agree_26, p_piles h I, Option.bind_some, Int32.lt_irrefl, if_false]
    · unfold sSame
      cases zff (fun p => !decide (sFd (S 4) b i p = sFd (S 4) b j p)) (sPi (S 2)) 0 <;> rfl
theorem p_conf (h : wM hp x S) (I : sI (S 2) (S 4)) {b : Nat} (hb : b < sN (S 2) 3) : f_X8_confirmed x (Int32.ofNat b) hp = some (zoi (sCf (S 2) (S 4) b)) := by
  have h3 := sI_3 I
  obtain ⟨c1, c2⟩ := sI_c I hb
  have ec : f_X8_of x (Int32.ofNat b) 3 hp = some (Int32.ofNat (sC (S 4) b)) := (p_of h (b := b) (w := 3) rfl (by omega) (by decide)).trans (congrArg some c1)
  have inner : ∀ (k1 k2 : Option Int32) (i : Nat), i < sC (S 4) b → l_X8_confirmed_14 k1 k2 x (Int32.ofNat b) (Int32.ofNat i) hp 1000000 (0 : Int32) = if (zff (fun j => sAgr (S 2) (S 4) b i j) (sC (S 4) b) 0).isSome = true then k1 else k2 := fun k1 k2 i hi =>
    zforC (b_X8_confirmed_14 k1 k2 x (Int32.ofNat b) (Int32.ofNat i) hp) (l_X8_confirmed_14 k1 k2 x (Int32.ofNat b) (Int32.ofNat i) hp) (fun _ _ => rfl) (sC (S 4) b) _ k1 k2 (fun rec j hj => by
      simp only [b_X8_confirmed_14, ec, Option.bind_some, pn_lt (show j < 2147483648 by omega) (show sC (S 4) b < 2147483648 by omega), p_agree h I (show b < 12 by omega) (show i < 4 by omega) (show j < 4 by omega), zb_0, zlet, pn_succ, hj, if_true]
      cases sAgr (S 2) (S 4) b i j <;> rfl) (fun rec => by
      simp only [b_X8_confirmed_14, ec, Option.bind_some, Int32.lt_irrefl, if_false]) (by omega)
  simp only [f_X8_confirmed, wm_is h, Option.bind_some]
  refine (zfor (b_X8_confirmed_2 (fun p6 => some p6) (some (-1 : Int32)) x (Int32.ofNat b) hp) (l_X8_confirmed_2 (fun p6 => some p6) (some (-1 : Int32)) x (Int32.ofNat b) hp) (fun _ _ => rfl) (sC (S 4) b) (fun i => (zff (fun j => sAgr (S 2) (S 4) b i j) (sC (S 4) b) 0).isSome) (fun k => some (Int32.ofNat k)) (some (-1)) (fun rec i hi => ?_) (fun rec => ?_) 1000000 (by omega)).trans ?_
  · simp only [b_X8_confirmed_2, ec, Option.bind_some, pn_lt (show i < 2147483648 by omega) (show sC (S 4) b < 2147483648 by omega), inner _ _ i hi, zlet, pn_succ, hi, if_true]
  · simp only [b_X8_confirmed_2, ec, Option.bind_some, Int32.lt_irrefl, if_false]
  · unfold sCf zoi
    cases zff (fun i => (zff (fun j => sAgr (S 2) (S 4) b i j) (sC (S 4) b) 0).isSome) (sC (S 4) b) 0 <;> rfl
end P32
