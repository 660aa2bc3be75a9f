/-! PURE: the reference's cells, and what its reading methods answer -/
section P32
def zLen (j : Nat) : Nat := if j = 1 then 900 else if j = 2 ∨ j = 3 then 144 else if j = 4 ∨ j = 5 then 538 else if j = 6 then 5380 else 100
def zMf (x : Nat) (v : Nat → Int32) : List Value := [.int (v 0), .ref (x + 1), .int (v 2), .ref (x + 2), .ref (x + 3), .ref (x + 4), .ref (x + 5), .ref (x + 6), .int (v 8), .int (v 9), .int (v 10), .int (v 11), .int (v 12), .int (v 13), .int (v 14), .int (v 15), .int (v 16), .int (v 17), .int (v 18), .ref (x + 7), .int (v 20)]
/-- the reference at x, with the numbers S: S 0 its fields, S 1 the bytes, S 2 told, S 3 toldBefore, S 4 now, S 5 before, S 6 past, S 7 written -/
def wM (hp : zHp) (x : Nat) (S : Nat → Nat → Int32) : Prop := hp x = some (.inr (8, zMf x (S 0))) ∧ ∀ j, 1 ≤ j → j ≤ 7 → hp (x + j) = some (.inl (0, zLen j, .inl (S j)))
variable {hp : zHp} {x : Nat} {S : Nat → Nat → Int32}
theorem wm_is (h : wM hp x S) : zis hp x 8 = some () := po_is h.1
theorem wm_B (h : wM hp x S) : zgR hp x 8 1 = some (x + 1) := po_R h.1 rfl
theorem wm_T (h : wM hp x S) : zgR hp x 8 3 = some (x + 2) := po_R h.1 rfl
theorem wm_N (h : wM hp x S) : zgR hp x 8 5 = some (x + 4) := po_R h.1 rfl
theorem wm_bytes (h : wM hp x S) {k : Nat} (hk : k < 900) : zaI hp 0 (x + 1) (Int32.ofNat k) = some (S 1 k) := pa_rd (h.2 1 (by decide) (by decide)) (Or.inl rfl) hk (by decide)
theorem wm_told (h : wM hp x S) {k : Nat} (hk : k < 144) : zaI hp 0 (x + 2) (Int32.ofNat k) = some (S 2 k) := pa_rd (h.2 2 (by decide) (by decide)) (Or.inl rfl) hk (by decide)
theorem wm_now (h : wM hp x S) {k : Nat} (hk : k < 538) : zaI hp 0 (x + 4) (Int32.ofNat k) = some (S 4 k) := pa_rd (h.2 4 (by decide) (by decide)) (Or.inl rfl) hk (by decide)
theorem ix0 (k : Nat) : (0 : Int32) + Int32.ofNat k = Int32.ofNat k := by rw [Int32.zero_add]
theorem ixa (i k : Nat) : Int32.ofNat i + Int32.ofNat k = Int32.ofNat (i + k) := (Int32.ofNat_add i k).symm
theorem ix3 (k : Nat) : (3 : Int32) + Int32.ofNat k = Int32.ofNat (3 + k) := ixa 3 k
theorem ix4 (k : Nat) : (4 : Int32) + Int32.ofNat k = Int32.ofNat (4 + k) := ixa 4 k
theorem ix5 (k : Nat) : (5 : Int32) + Int32.ofNat k = Int32.ofNat (5 + k) := ixa 5 k
theorem ix10 (k : Nat) : (10 : Int32) + Int32.ofNat k = Int32.ofNat (10 + k) := ixa 10 k
theorem ix16 (k : Nat) : (16 : Int32) + Int32.ofNat k = Int32.ofNat (16 + k) := ixa 16 k
theorem ix20 (k : Nat) : (20 : Int32) + Int32.ofNat k = Int32.ofNat (20 + k) := ixa 20 k
theorem ix33 (k : Nat) : (33 : Int32) + Int32.ofNat k = Int32.ofNat (33 + k) := ixa 33 k
theorem ix38 (k : Nat) : (38 : Int32) + Int32.ofNat k = Int32.ofNat (38 + k) := ixa 38 k
theorem ix44 (k : Nat) : (44 : Int32) + Int32.ofNat k = Int32.ofNat (44 + k) := ixa 44 k
theorem ix56 (k : Nat) : (56 : Int32) + Int32.ofNat k = Int32.ofNat (56 + k) := ixa 56 k
theorem ix68 (k : Nat) : (68 : Int32) + Int32.ofNat k = Int32.ofNat (68 + k) := ixa 68 k
theorem ix140 (k : Nat) : (140 : Int32) + Int32.ofNat k = Int32.ofNat (140 + k) := ixa 140 k
theorem im44 (k : Nat) : (44 : Int32) * Int32.ofNat k = Int32.ofNat (44 * k) := (Int32.ofNat_mul 44 k).symm
theorem im6 (k : Nat) : (6 : Int32) * Int32.ofNat k = Int32.ofNat (6 * k) := (Int32.ofNat_mul 6 k).symm
theorem is1 (k : Nat) : Int32.ofNat (k + 1) - 1 = Int32.ofNat k := by
  rw [← pn_succ]
  exact Int32.add_sub_cancel _ _
/-! loops over a counter -/
theorem zfor {R : Type} (b : (Int32 → Option R) → Int32 → Option R) (l : Nat → Int32 → Option R) (hl : ∀ m a, l (m + 1) a = b (l m) a) (n : Nat) (p : Nat → Bool) (ex : Nat → Option R) (res : Option R)
    (B : ∀ rec i, i ≤ n → b rec (Int32.ofNat i) = if i < n then (if p i = true then ex i else rec (Int32.ofNat (i + 1))) else res) : ∀ m, n < m → l m (Int32.ofNat 0) = (match zff p n 0 with | some k => ex k | none => res) :=
  zloopF (fun m a => l m a) n (fun i => Int32.ofNat i) p ex res (fun m i hi hq => by rw [hl, B _ i (by omega), if_pos hi, hq]; rfl) (fun m i hi hq => by rw [hl, B _ i (by omega), if_pos hi, if_pos hq]) (fun m => by rw [hl, B _ n (Nat.le_refl n), if_neg (Nat.lt_irrefl n)])
theorem zforA {R A : Type} (b : (A → Int32 → Option R) → A → Int32 → Option R) (l : Nat → A → Int32 → Option R) (hl : ∀ m a c, l (m + 1) a c = b (l m) a c) (n : Nat) (st : Nat → A) (k : A → Option R)
    (B : ∀ rec i, i ≤ n → b rec (st i) (Int32.ofNat i) = if i < n then rec (st (i + 1)) (Int32.ofNat (i + 1)) else k (st i)) : ∀ m, n < m → l m (st 0) (Int32.ofNat 0) = k (st n) :=
  zloop (A := A × Int32) (fun m a => l m a.1 a.2) n (fun i => (st i, Int32.ofNat i)) (k (st n)) (fun m i hi => by show l (m + 1) (st i) (Int32.ofNat i) = _; rw [hl, B _ i (by omega), if_pos hi]) (fun m => by show l (m + 1) (st n) (Int32.ofNat n) = _; rw [hl, B _ n (Nat.le_refl n), if_neg (Nat.lt_irrefl n)])
theorem zforB {R A A' : Type} (b : (A → A' → Int32 → Option R) → A → A' → Int32 → Option R) (l : Nat → A → A' → Int32 → Option R) (hl : ∀ m a a' c, l (m + 1) a a' c = b (l m) a a' c) (n : Nat) (st : Nat → A) (st' : Nat → A') (k : A → A' → Option R)
    (B : ∀ rec i, i ≤ n → b rec (st i) (st' i) (Int32.ofNat i) = if i < n then rec (st (i + 1)) (st' (i + 1)) (Int32.ofNat (i + 1)) else k (st i) (st' i)) : ∀ m, n < m → l m (st 0) (st' 0) (Int32.ofNat 0) = k (st n) (st' n) :=
  zloop (A := A × A' × Int32) (fun m a => l m a.1 a.2.1 a.2.2) n (fun i => (st i, st' i, Int32.ofNat i)) (k (st n) (st' n)) (fun m i hi => by show l (m + 1) (st i) (st' i) (Int32.ofNat i) = _; rw [hl, B _ i (by omega), if_pos hi]) (fun m => by show l (m + 1) (st n) (st' n) (Int32.ofNat n) = _; rw [hl, B _ n (Nat.le_refl n), if_neg (Nat.lt_irrefl n)])
/-! what always holds of the state -/
def sI (T N : Nat → Int32) : Prop := (∀ s, s < 5 → T s = Int32.ofNat (sN T s)) ∧ (sN T 0 ≤ 5 ∧ sN T 1 ≤ 5 ∧ sN T 2 ≤ 6 ∧ sN T 3 ≤ 12 ∧ sN T 4 ≤ 4) ∧
  (∀ b, b < sN T 3 → (sF N b 3 = Int32.ofNat (sC N b) ∧ sC N b ≤ 4) ∧ (sF N b 2 = Int32.ofNat (sE N b) ∧ 1 ≤ sE N b ∧ sE N b ≤ 12) ∧ (∀ c p, c < sC N b → p < sPi T → ∃ q, sFd N b c p = Int32.ofNat q ∧ q ≤ 600)) ∧
  (N 9 = Int32.ofNat (sD N) ∧ sD N ≤ 6 ∧ (∀ k, k < sD N → ∃ w, w < sN T 2 ∧ N (3 + k) = Int32.ofNat w) ∧ (∀ i j, i < j → j < sD N → N (3 + i) ≠ N (3 + j))) ∧
  (∀ r, r < sN T 1 → T (33 + r) = -1 ∨ ∃ q, q < r ∧ T (33 + r) = Int32.ofNat q) ∧ (∀ w, w < sN T 2 → ∃ r, r < sN T 1 ∧ T (38 + w) = Int32.ofNat r) ∧ (∀ b, b < sN T 3 → ∃ w, w < sN T 2 ∧ T (44 + b) = Int32.ofNat w) ∧
  (∀ t, t < sN T 4 → ∃ q, q ≤ 99 ∧ T (140 + t) = Int32.ofNat q) ∧ (∀ b p, b < sN T 3 → p < sPi T → ∃ q, q ≤ 300 ∧ sPap T b p = Int32.ofNat q)
theorem sI_n {T N : Nat → Int32} (I : sI T N) {s : Nat} (hs : s < 5) : T s = Int32.ofNat (sN T s) := I.1 s hs
theorem sI_b {T N : Nat → Int32} (I : sI T N) {s : Nat} (hs : s < 5) : sN T s ≤ 12 := by
  obtain ⟨-, ⟨h0, h1, h2, h3, h4⟩, -⟩ := I
  rcases (show s = 0 ∨ s = 1 ∨ s = 2 ∨ s = 3 ∨ s = 4 by omega) with rfl | rfl | rfl | rfl | rfl <;> omega
theorem p_many (h : wM hp x S) {i : Int32} {s : Nat} (hi : i = Int32.ofNat s) (hs : s < 5) : f_X8_many x i hp = some (S 2 s) := by
  subst hi
  simp only [f_X8_many, wm_is h, wm_T h, Option.bind_some, ix0, wm_told h (show s < 144 by omega)]
theorem p_piles (h : wM hp x S) (I : sI (S 2) (S 4)) : f_X8_piles x hp = some (Int32.ofNat (sPi (S 2))) := by
  simp only [f_X8_piles, wm_is h, Option.bind_some, p_many h (s := 0) rfl (by decide), sI_n I (s := 0) (by decide), pn_succ]
  rfl
theorem p_of (h : wM hp x S) {b w : Nat} {i : Int32} (hi : i = Int32.ofNat w) (hb : b < 12) (hw : w < 44) : f_X8_of x (Int32.ofNat b) i hp = some (sF (S 4) b w) := by
  subst hi
  simp only [f_X8_of, wm_is h, wm_N h, Option.bind_some, im44, ix10, ixa, wm_now h (show 10 + 44 * b + w < 538 by omega)]
  rfl
theorem p_paper (h : wM hp x S) {b p : Nat} (hb : b < 12) (hp' : p < 6) : f_X8_paper x (Int32.ofNat b) (Int32.ofNat p) hp = some (sPap (S 2) b p) := by
  simp only [f_X8_paper, wm_is h, wm_T h, Option.bind_some, im6, ix68, ixa, wm_told h (show 68 + 6 * b + p < 144 by omega)]
  rfl
theorem p_found (h : wM hp x S) {b c p : Nat} (hb : b < 12) (hc : c < 4) (hp' : p < 6) : f_X8_found x (Int32.ofNat b) (Int32.ofNat c) (Int32.ofNat p) hp = some (sFd (S 4) b c p) := by
  simp only [f_X8_found, wm_is h, Option.bind_some, im6, ix20, ixa, p_of h (b := b) (w := 20 + 6 * c + p) rfl hb (by omega)]
  rfl
theorem p_isDecl (h : wM hp x S) (I : sI (S 2) (S 4)) (w : Int32) : f_X8_isDeclared x w hp = some (zb (sDecl (S 4) w)) := by
  have hd := I.2.2.2.1
  have L := zfor (b_X8_isDeclared_2 (some (1 : Int32)) (some (0 : Int32)) x w hp) (l_X8_isDeclared_2 (some (1 : Int32)) (some (0 : Int32)) x w hp) (fun _ _ => rfl) (sD (S 4)) (fun k => decide (S 4 (3 + k) = w)) (fun _ => some 1) (some 0) (fun rec i hi => by
    have e9 : zaI hp 0 (x + 4) 9 = some (S 4 9) := wm_now h (k := 9) (by decide)
    simp only [b_X8_isDeclared_2, wm_N h, Option.bind_some, e9, hd.1, pn_lt (show i < 2147483648 by omega) (show sD (S 4) < 2147483648 by omega), ix3, wm_now h (show 3 + i < 538 by omega), zlet, pn_succ, decide_eq_true_eq]) 1000000 (by omega)
  simp only [f_X8_isDeclared, wm_is h, Option.bind_some]
  refine L.trans ?_
  unfold sDecl
  cases zff (fun k => decide (S 4 (3 + k) = w)) (sD (S 4)) 0 <;> rfl
end P32
