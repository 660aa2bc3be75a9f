/-! PURE: the reference's cells, and what its reading methods answer -/
section P32
def zLen (j : Nat) : Nat := if j = 1 then 900 else if j = 2 ∨ j = 3 then 144 else if j = 4 ∨ j = 5 then 538 else if j = 6 then 5380 else 100
def zMf (x : Nat) (v : Nat → Int32) : List Value := [.int (v 0), .ref (x + 1), .int (v 2), .ref (x + 2), .ref (x + 3), .ref (x + 4), .ref (x + 5), .ref (x + 6), .int (v 8), .int (v 9), .int (v 10), .int (v 11), .int (v 12), .int (v 13), .int (v 14), .int (v 15), .int (v 16), .int (v 17), .int (v 18), .ref (x + 7), .int (v 20)]
/-- the reference at x: its fields F, and the numbers S: S 1 the bytes, S 2 told, S 3 toldBefore, S 4 now, S 5 before, S 6 past, S 7 written -/
def wMF (hp : zHp) (x : Nat) (F : Nat → Int32) (S : Nat → Nat → Int32) : Prop := hp x = some (.inr (8, zMf x F)) ∧ ∀ j, 1 ≤ j → j ≤ 7 → hp (x + j) = some (.inl (0, zLen j, .inl (S j)))
def wM (hp : zHp) (x : Nat) (S : Nat → Nat → Int32) : Prop := ∃ F, wMF hp x F S
variable {hp : zHp} {x : Nat} {S : Nat → Nat → Int32}
theorem wm_is (h : wM hp x S) : zis hp x 8 = some () := let ⟨_, h⟩ := h; po_is h.1
theorem wm_B (h : wM hp x S) : zgR hp x 8 1 = some (x + 1) := let ⟨_, h⟩ := h; po_R h.1 rfl
theorem wm_T (h : wM hp x S) : zgR hp x 8 3 = some (x + 2) := let ⟨_, h⟩ := h; po_R h.1 rfl
theorem wm_N (h : wM hp x S) : zgR hp x 8 5 = some (x + 4) := let ⟨_, h⟩ := h; po_R h.1 rfl
theorem wm_bytes (h : wM hp x S) {k : Nat} (hk : k < 900) : zaI hp 0 (x + 1) (Int32.ofNat k) = some (S 1 k) := let ⟨_, h⟩ := h; pa_rd (h.2 1 (by decide) (by decide)) (Or.inl rfl) hk (by decide)
theorem wm_told (h : wM hp x S) {k : Nat} (hk : k < 144) : zaI hp 0 (x + 2) (Int32.ofNat k) = some (S 2 k) := let ⟨_, h⟩ := h; pa_rd (h.2 2 (by decide) (by decide)) (Or.inl rfl) hk (by decide)
theorem wm_now (h : wM hp x S) {k : Nat} (hk : k < 538) : zaI hp 0 (x + 4) (Int32.ofNat k) = some (S 4 k) := let ⟨_, h⟩ := h; pa_rd (h.2 4 (by decide) (by decide)) (Or.inl rfl) hk (by decide)
theorem ix0 (k : Nat) : (0 : Int32) + Int32.ofNat k = Int32.ofNat k := by rw [Int32.zero_add]
theorem ixa (i k : Nat) : Int32.ofNat i + Int32.ofNat k = Int32.ofNat (i + k) := (Int32.ofNat_add i k).symm
theorem ix3 (k : Nat) : (3 : Int32) + Int32.ofNat k = Int32.ofNat (3 + k) := ixa 3 k
theorem ix4 (k : Nat) : (4 : Int32) + Int32.ofNat k = Int32.ofNat (4 + k) := ixa 4 k
theorem ix5 (k : Nat) : (5 : Int32) + Int32.ofNat k = Int32.ofNat (5 + k) := ixa 5 k
theorem ix10 (k : Nat) : (10 : Int32) + Int32.ofNat k = Int32.ofNat (10 + k) := ixa 10 k
theorem ix16 (k : Nat) : (16 : Int32) + Int32.ofNat k = Int32.ofNat (16 + k) := ixa 16 k
theorem ix20 (k : Nat) : (20 : Int32) + Int32.ofNat k = Int32.ofNat (20 + k) := ixa 20 k
theorem ix33 (k : Nat) : (33 : Int32) + Int32.ofNat k = Int32.ofNat (33 + k) := ixa 33 k
theorem ix38 (k : Nat) : (38 : Int32) + Int32.ofNat k = Int32.ofNat (38 + k) := ixa 38 k
theorem ix44 (k : Nat) : (44 : Int32) + Int32.ofNat k = Int32.ofNat (44 + k) := ixa 44 k
theorem ix56 (k : Nat) : (56 : Int32) + Int32.ofNat k = Int32.ofNat (56 + k) := ixa 56 k
theorem ix68 (k : Nat) : (68 : Int32) + Int32.ofNat k = Int32.ofNat (68 + k) := ixa 68 k
theorem ix140 (k : Nat) : (140 : Int32) + Int32.ofNat k = Int32.ofNat (140 + k) := ixa 140 k
theorem im44 (k : Nat) : (44 : Int32) * Int32.ofNat k = Int32.ofNat (44 * k) := (Int32.ofNat_mul 44 k).symm
theorem im6 (k : Nat) : (6 : Int32) * Int32.ofNat k = Int32.ofNat (6 * k) := (Int32.ofNat_mul 6 k).symm
theorem is1 (k : Nat) : Int32.ofNat (k + 1) - 1 = Int32.ofNat k := by
  rw [← pn_succ]
  exact Int32.add_sub_cancel _ _
/-! loops over a counter -/
theorem zfor {R : Type} (b : (Int32 → Option R) → Int32 → Option R) (l : Nat → Int32 → Option R) (hl : ∀ m a, l (m + 1) a = b (l m) a) (n : Nat) (p : Nat → Bool) (ex : Nat → Option R) (res : Option R)
    (B1 : ∀ rec i, i < n → b rec (Int32.ofNat i) = if p i = true then ex i else rec (Int32.ofNat (i + 1))) (B2 : ∀ rec, b rec (Int32.ofNat n) = res) : ∀ m, n < m → l m (Int32.ofNat 0) = (match zff p n 0 with | some k => ex k | none => res) :=
  zloopF (fun m a => l m a) n (fun i => Int32.ofNat i) p ex res (fun m i hi hq => by rw [hl, B1 _ i hi, hq]; rfl) (fun m i hi hq => by rw [hl, B1 _ i hi, if_pos hq]) (fun m => by rw [hl, B2])
/-- .. whose exits don't name the counter -/
theorem zforC {R : Type} (b : (Int32 → Option R) → Int32 → Option R) (l : Nat → Int32 → Option R) (hl : ∀ m a, l (m + 1) a = b (l m) a) (n : Nat) (p : Nat → Bool) (ex res : Option R)
    (B1 : ∀ rec i, i < n → b rec (Int32.ofNat i) = if p i = true then ex else rec (Int32.ofNat (i + 1))) (B2 : ∀ rec, b rec (Int32.ofNat n) = res) {m : Nat} (hm : n < m) : l m (Int32.ofNat 0) = if (zff p n 0).isSome = true then ex else res := by
  rw [zfor b l hl n p (fun _ => ex) res B1 B2 m hm]
  cases zff p n 0 <;> rfl
theorem zforA {R A : Type} (b : (A → Int32 → Option R) → A → Int32 → Option R) (l : Nat → A → Int32 → Option R) (hl : ∀ m a c, l (m + 1) a c = b (l m) a c) (n : Nat) (st : Nat → A) (k : A → Option R)
    (B1 : ∀ rec i, i < n → b rec (st i) (Int32.ofNat i) = rec (st (i + 1)) (Int32.ofNat (i + 1))) (B2 : ∀ rec, b rec (st n) (Int32.ofNat n) = k (st n)) {m : Nat} (hm : n < m) : l m (st 0) (Int32.ofNat 0) = k (st n) :=
  zloop (A := A × Int32) (fun m a => l m a.1 a.2) n (fun i => (st i, Int32.ofNat i)) (k (st n)) (fun m i hi => by show l (m + 1) (st i) (Int32.ofNat i) = _; rw [hl, B1 _ i hi]) (fun m => by show l (m + 1) (st n) (Int32.ofNat n) = _; rw [hl, B2]) m hm
theorem zforB {R A A' : Type} (b : (A → A' → Int32 → Option R) → A → A' → Int32 → Option R) (l : Nat → A → A' → Int32 → Option R) (hl : ∀ m a a' c, l (m + 1) a a' c = b (l m) a a' c) (n : Nat) (st : Nat → A) (st' : Nat → A') (k : A → A' → Option R)
    (B1 : ∀ rec i, i < n → b rec (st i) (st' i) (Int32.ofNat i) = rec (st (i + 1)) (st' (i + 1)) (Int32.ofNat (i + 1))) (B2 : ∀ rec, b rec (st n) (st' n) (Int32.ofNat n) = k (st n) (st' n)) {m : Nat} (hm : n < m) : l m (st 0) (st' 0) (Int32.ofNat 0) = k (st n) (st' n) :=
  zloop (A := A × A' × Int32) (fun m a => l m a.1 a.2.1 a.2.2) n (fun i => (st i, st' i, Int32.ofNat i)) (k (st n) (st' n)) (fun m i hi => by show l (m + 1) (st i) (st' i) (Int32.ofNat i) = _; rw [hl, B1 _ i hi]) (fun m => by show l (m + 1) (st n) (st' n) (Int32.ofNat n) = _; rw [hl, B2]) m hm
/-! what always holds of the state -/
def sI (T N : Nat → Int32) : Prop := (∀ s, s < 5 → T s = Int32.ofNat (sN T s)) ∧ (sN T 0 ≤ 5 ∧ sN T 1 ≤ 5 ∧ sN T 2 ≤ 6 ∧ sN T 3 ≤ 12 ∧ sN T 4 ≤ 4) ∧
  (∀ b, b < sN T 3 → (sF N b 3 = Int32.ofNat (sC N b) ∧ sC N b ≤ 4) ∧ (sF N b 2 = Int32.ofNat (sE N b) ∧ 1 ≤ sE N b ∧ sE N b ≤ 12) ∧ (∀ c p, c < sC N b → p < sPi T → ∃ q, sFd N b c p = Int32.ofNat q ∧ q ≤ 600)) ∧
  (N 9 = Int32.ofNat (sD N) ∧ sD N ≤ 6 ∧ (∀ k, k < sD N → ∃ w, w < sN T 2 ∧ N (3 + k) = Int32.ofNat w) ∧ (∀ i j, i < j → j < sD N → N (3 + i) ≠ N (3 + j))) ∧
  (∀ r, r < sN T 1 → T (33 + r) = -1 ∨ ∃ q, q < r ∧ T (33 + r) = Int32.ofNat q) ∧ (∀ w, w < sN T 2 → ∃ r, r < sN T 1 ∧ T (38 + w) = Int32.ofNat r) ∧ (∀ b, b < sN T 3 → ∃ w, w < sN T 2 ∧ T (44 + b) = Int32.ofNat w) ∧
  (∀ t, t < sN T 4 → ∃ q, q ≤ 99 ∧ T (140 + t) = Int32.ofNat q) ∧ (∀ b p, b < sN T 3 → p < sPi T → ∃ q, q ≤ 300 ∧ sPap T b p = Int32.ofNat q)
theorem sI_n {T N : Nat → Int32} (I : sI T N) {s : Nat} (hs : s < 5) : T s = Int32.ofNat (sN T s) := I.1 s hs
theorem sI_b {T N : Nat → Int32} (I : sI T N) {s : Nat} (hs : s < 5) : sN T s ≤ 12 := by
  obtain ⟨-, ⟨h0, h1, h2, h3, h4⟩, -⟩ := I
  rcases (show s = 0 ∨ s = 1 ∨ s = 2 ∨ s = 3 ∨ s = 4 by omega) with rfl | rfl | rfl | rfl | rfl <;> omega
theorem sI_c {T N : Nat → Int32} (I : sI T N) {b : Nat} (hb : b < sN T 3) : sF N b 3 = Int32.ofNat (sC N b) ∧ sC N b ≤ 4 := (I.2.2.1 b hb).1
theorem sI_e {T N : Nat → Int32} (I : sI T N) {b : Nat} (hb : b < sN T 3) : sF N b 2 = Int32.ofNat (sE N b) ∧ 1 ≤ sE N b ∧ sE N b ≤ 12 := (I.2.2.1 b hb).2.1
theorem sI_f {T N : Nat → Int32} (I : sI T N) {b c p : Nat} (hb : b < sN T 3) (hc : c < sC N b) (hp' : p < sPi T) : ∃ q, sFd N b c p = Int32.ofNat q ∧ q ≤ 600 := (I.2.2.1 b hb).2.2 c p hc hp'
theorem sI_d {T N : Nat → Int32} (I : sI T N) : N 9 = Int32.ofNat (sD N) ∧ sD N ≤ 6 := ⟨I.2.2.2.1.1, I.2.2.2.1.2.1⟩
theorem sI_r {T N : Nat → Int32} (I : sI T N) {r : Nat} (hr : r < sN T 1) : T (33 + r) = -1 ∨ ∃ q, q < r ∧ T (33 + r) = Int32.ofNat q := I.2.2.2.2.1 r hr
theorem sI_w {T N : Nat → Int32} (I : sI T N) {w : Nat} (hw : w < sN T 2) : ∃ r, r < sN T 1 ∧ T (38 + w) = Int32.ofNat r := I.2.2.2.2.2.1 w hw
theorem sI_bw {T N : Nat → Int32} (I : sI T N) {b : Nat} (hb : b < sN T 3) : ∃ w, w < sN T 2 ∧ T (44 + b) = Int32.ofNat w := I.2.2.2.2.2.2.1 b hb
theorem sI_s {T N : Nat → Int32} (I : sI T N) {t : Nat} (ht : t < sN T 4) : ∃ q, q ≤ 99 ∧ T (140 + t) = Int32.ofNat q := I.2.2.2.2.2.2.2.1 t ht
theorem sI_p {T N : Nat → Int32} (I : sI T N) {b p : Nat} (hb : b < sN T 3) (hp' : p < sPi T) : ∃ q, q ≤ 300 ∧ sPap T b p = Int32.ofNat q := I.2.2.2.2.2.2.2.2 b p hb hp'
theorem sI_3 {T N : Nat → Int32} (I : sI T N) : sN T 3 ≤ 12 := I.2.1.2.2.2.1
theorem sI_0 {T N : Nat → Int32} (I : sI T N) : sN T 0 ≤ 5 := I.2.1.1
theorem sI_1 {T N : Nat → Int32} (I : sI T N) : sN T 1 ≤ 5 := I.2.1.2.1
theorem sI_2 {T N : Nat → Int32} (I : sI T N) : sN T 2 ≤ 6 := I.2.1.2.2.1
theorem sI_4 {T N : Nat → Int32} (I : sI T N) : sN T 4 ≤ 4 := I.2.1.2.2.2.2
theorem zpi {T : Nat → Int32} (h : sN T 0 ≤ 5) : sPi T ≤ 6 := by unfold sPi; omega
end P32

