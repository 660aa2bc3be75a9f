/-! PURE: writing: rows of numbers, boxes, states -/
section P40
def zfr (hp h : zHp) (lo n : Nat) : Prop := ∀ a, a < lo ∨ lo + n ≤ a → h a = hp a
theorem zfr_rf {hp : zHp} {lo n : Nat} : zfr hp hp lo n := fun _ _ => rfl
theorem zfr_tr {hp h1 h2 : zHp} {lo n : Nat} (a : zfr hp h1 lo n) (b : zfr h1 h2 lo n) : zfr hp h2 lo n := fun x hx => (b x hx).trans (a x hx)
theorem zfr_up {hp : zHp} {a lo n : Nat} {o : zOb} (h1 : lo ≤ a) (h2 : a < lo + n) : zfr hp (zup hp a o) lo n := fun x hx => zup_ne (by omega)
theorem zfr_wide {hp h : zHp} {lo n lo' n' : Nat} (a : zfr hp h lo n) (h1 : lo' ≤ lo) (h2 : lo + n ≤ lo' + n') : zfr hp h lo' n' := fun x hx => a x (by omega)
/-- one number of many rows -/
def w2 (B : Nat → Nat → Int32) (j k : Nat) (v : Int32) : Nat → Nat → Int32 := fun a => if a = j then upd (B a) k v else B a
theorem w2_self (B : Nat → Nat → Int32) (j k : Nat) (v : Int32) : w2 B j k v j = upd (B j) k v := by unfold w2; rw [if_pos rfl]
theorem w2_ne (B : Nat → Nat → Int32) {j k i : Nat} (v : Int32) (h : i ≠ j) : w2 B j k v i = B i := by unfold w2; rw [if_neg h]
theorem upd_self (f : Nat → Int32) (k : Nat) (v : Int32) : upd f k v k = v := by unfold upd; rw [if_pos rfl]
theorem upd_ne (f : Nat → Int32) {k j : Nat} (v : Int32) (h : j ≠ k) : upd f k v j = f j := by unfold upd; rw [if_neg h]
def g1 {α : Type} (G : Nat → α) (b : Nat) (B : α) : Nat → α := fun i => if i = b then B else G i
theorem g1_self {α : Type} (G : Nat → α) (b : Nat) (B : α) : g1 G b B b = B := if_pos rfl
theorem g1_ne {α : Type} (G : Nat → α) {b i : Nat} (B : α) (h : i ≠ b) : g1 G b B i = G i := if_neg h
/-! the reference's writes -/
variable {hp h hp' : zHp} {x a a' q b : Nat} {S : Nat → Nat → Int32} {F T N : Nat → Int32}
theorem wMF_arr (W : wMF hp x F S) {j k : Nat} (h1 : 1 ≤ j) (h2 : j ≤ 7) (hk : k < zLen j) (v : Int32) : ∃ h, zsI hp (x + j) (Int32.ofNat k) v = some h ∧ wMF h x F (w2 S j k v) ∧ zfr hp h x 8 := by
  refine ⟨_, pa_wr (W.2 j h1 h2) hk (by unfold zLen; (repeat' split) <;> decide) v, ⟨?_, fun i hi1 hi2 => ?_⟩, zfr_up (by omega) (by omega)⟩
  · rw [zup_ne (by omega)]; exact W.1
  · by_cases e : i = j
    · subst e
      rw [zup_eq, w2_self]
    · rw [zup_ne (by omega), w2_ne _ _ e]
      exact W.2 i hi1 hi2
theorem zMf_set {k : Nat} (hk : k = 0 ∨ k = 2 ∨ (8 ≤ k ∧ k ≤ 18) ∨ k = 20) (v : Int32) : (zMf x F).set k (.int v) = zMf x (upd F k v) := by
  rcases hk with rfl | rfl | ⟨h1, h2⟩ | rfl
  · rfl
  · rfl
  · rcases (show k = 8 ∨ k = 9 ∨ k = 10 ∨ k = 11 ∨ k = 12 ∨ k = 13 ∨ k = 14 ∨ k = 15 ∨ k = 16 ∨ k = 17 ∨ k = 18 by omega) with rfl | rfl | rfl | rfl | rfl | rfl | rfl | rfl | rfl | rfl | rfl <;> rfl
  · rfl
theorem wMF_fld (W : wMF hp x F S) {k : Nat} (hk : k = 0 ∨ k = 2 ∨ (8 ≤ k ∧ k ≤ 18) ∨ k = 20) (v : Int32) : ∃ h, zpV hp x 8 k (.int v) = some h ∧ wMF h x (upd F k v) S ∧ zfr hp h x 8 := by
  refine ⟨_, po_V W.1 (by show k < 21; omega) _, ⟨?_, fun i hi1 hi2 => ?_⟩, zfr_up (by omega) (by omega)⟩
  · rw [zup_eq, zMf_set hk]
  · rw [zup_ne (by omega)]
    exact W.2 i hi1 hi2
theorem zfr_th {v : Int32} : zfr hp (zth hp x F v) x 8 := zfr_up (by omega) (by omega)
theorem wMF_fr (W : wMF hp x F S) (f : ∀ a, x ≤ a → a < x + 8 → h a = hp a) : wMF h x F S := by
  refine ⟨?_, fun i hi1 hi2 => ?_⟩
  · rw [f x (by omega) (by omega)]; exact W.1
  · rw [f (x + i) (by omega) (by omega)]; exact W.2 i hi1 hi2
/-! a box's writes -/
variable {B B' : Nat → Nat → Int32} {G G' : Nat → Nat → Nat → Int32}
theorem zBf_set {k : Nat} (hk : k < 6) (v : Nat → Int32) (y : Int32) : (zBf a v).set k (.int y) = zBf a (upd v k y) := by
  rcases (show k = 0 ∨ k = 1 ∨ k = 2 ∨ k = 3 ∨ k = 4 ∨ k = 5 by omega) with rfl | rfl | rfl | rfl | rfl | rfl <;> rfl
theorem bx_fr (X : wBx hp a B) (f : ∀ i, a ≤ i → i < a + 4 → h i = hp i) : wBx h a B := by
  refine ⟨?_, fun i hi1 hi2 => ?_, X.2.2⟩
  · rw [f a (by omega) (by omega)]; exact X.1
  · rw [f (a + i) (by omega) (by omega)]; exact X.2.1 i hi1 hi2
theorem bx_I (X : wBx hp a B) {k : Nat} (hk : k < 6) : zgI hp a 0 k = some (B 0 k) := by
  refine po_I X.1 ?_
  rcases (show k = 0 ∨ k = 1 ∨ k = 2 ∨ k = 3 ∨ k = 4 ∨ k = 5 by omega) with rfl | rfl | rfl | rfl | rfl | rfl <;> rfl
theorem bx_is (X : wBx hp a B) : zis hp a 0 = some () := po_is X.1
theorem bx_R1 (X : wBx hp a B) : zgR hp a 0 6 = some (a + 1) := po_R X.1 rfl
theorem bx_R2 (X : wBx hp a B) : zgR hp a 0 7 = some (a + 2) := po_R X.1 rfl
theorem bx_R3 (X : wBx hp a B) : zgR hp a 0 8 = some (a + 3) := po_R X.1 rfl
theorem bx_setI (X : wBx hp a B) {k : Nat} (hk : k < 5) (v : Int32) : ∃ h, zpV hp a 0 k (.int v) = some h ∧ wBx h a (w2 B 0 k v) ∧ zfr hp h a 4 := by
  refine ⟨_, po_V X.1 (by show k < 9; omega) _, ⟨?_, fun i hi1 hi2 => ?_, ?_⟩, zfr_up (by omega) (by omega)⟩
  · rw [zup_eq, zBf_set (by omega), w2_self]
  · rw [zup_ne (by omega), w2_ne _ _ (by omega)]
    exact X.2.1 i hi1 hi2
  · rw [w2_self, upd_ne _ _ (by omega)]
    exact X.2.2
theorem bx_setZ (X : wBx hp a B) {v : Int32} (hv : v = 0 ∨ v = 1) : ∃ h, zpZ hp a 0 5 v = some h ∧ wBx h a (w2 B 0 5 v) ∧ zfr hp h a 4 := by
  refine ⟨_, ?_, ⟨?_, fun i hi1 hi2 => ?_, ?_⟩, zfr_up (a := a) (o := .inr (0, (zBf a (B 0)).set 5 (.int v))) (by omega) (by omega)⟩
  · unfold zpZ
    rw [if_pos hv]
    exact po_V X.1 (show 5 < 9 by decide) _
  · rw [zup_eq, zBf_set (by omega), w2_self]
  · rw [zup_ne (by omega), w2_ne _ _ (by omega)]
    exact X.2.1 i hi1 hi2
  · rw [w2_self, upd_self]
    exact hv
theorem bx_setA (X : wBx hp a B) {j k : Nat} (h1 : 1 ≤ j) (h2 : j ≤ 3) (hk : k < bLen j) (v : Int32) : ∃ h, zsI hp (a + j) (Int32.ofNat k) v = some h ∧ wBx h a (w2 B j k v) ∧ zfr hp h a 4 := by
  refine ⟨_, pa_wr (X.2.1 j h1 h2) hk (by unfold bLen; (repeat' split) <;> decide) v, ⟨?_, fun i hi1 hi2 => ?_, ?_⟩, zfr_up (by omega) (by omega)⟩
  · rw [zup_ne (by omega), w2_ne _ _ (by omega)]; exact X.1
  · by_cases e : i = j
    · subst e
      rw [zup_eq, w2_self]
    · rw [zup_ne (by omega), w2_ne _ _ e]
      exact X.2.1 i hi1 hi2
  · rw [w2_ne _ _ (by omega)]
    exact X.2.2
/-- a row copied whole -/
theorem zcp_all {a0 a1 n : Nat} {f g : Nat → Int32} (h0 : hp a0 = some (.inl (0, n, .inl f))) (h1 : hp a1 = some (.inl (0, n, .inl g))) (hn : n < 1000) : ∃ g', zcpI hp a0 0 a1 0 (Int32.ofNat n) = some (zup hp a1 (.inl (0, n, .inl g'))) ∧ ∀ k, k < n → g' k = f k := by
  refine ⟨va_cpy f g 0 0 n, ?_, fun k hk => ?_⟩
  · unfold zcpI
    rw [h0, h1]
    dsimp only
    rw [pn_nat (by omega), if_pos ⟨rfl, rfl, by decide, by decide, pn_neg (by omega), by show 0 + n ≤ n; omega, by show 0 + n ≤ n; omega⟩]
    rfl
  · unfold va_cpy
    rw [if_pos ⟨by omega, by omega⟩]
    congr 1
    omega
theorem bx_cpA (X : wBx hp a B) (X' : wBx hp a' B') {j : Nat} (h1 : 1 ≤ j) (h2 : j ≤ 3) (v : Int32) (hv : v = Int32.ofNat (bLen j)) : ∃ h B'', zcpI hp (a' + j) 0 (a + j) 0 v = some h ∧ wBx h a B'' ∧ (∀ k, k < bLen j → B'' j k = B' j k) ∧ (∀ i, i ≠ j → B'' i = B i) ∧ zfr hp h a 4 := by
  obtain ⟨g, e1, e2⟩ := zcp_all (X'.2.1 j h1 h2) (X.2.1 j h1 h2) (by unfold bLen; (repeat' split) <;> decide)
  refine ⟨_, g1 B j g, by rw [hv]; exact e1, ⟨?_, fun i hi1 hi2 => ?_, ?_⟩, fun k hk => ?_, fun i hi => g1_ne _ _ hi, zfr_up (by omega) (by omega)⟩
  · rw [zup_ne (by omega), g1_ne _ _ (by omega)]; exact X.1
  · by_cases e : i = j
    · subst e
      rw [zup_eq, g1_self]
    · rw [zup_ne (by omega), g1_ne _ _ e]
      exact X.2.1 i hi1 hi2
  · rw [g1_ne _ _ (by omega)]; exact X.2.2
  · rw [g1_self]; exact e2 k hk
theorem bx_copy (X : wBx hp a B) (X' : wBx hp a' B') (hd : a + 4 ≤ a' ∨ a' + 4 ≤ a) : ∃ h B'', f_X0_copyFrom a a' hp = some h ∧ wBx h a B'' ∧ (∀ k, k < 6 → B'' 0 k = B' 0 k) ∧ (∀ j k, 1 ≤ j → j ≤ 3 → k < bLen j → B'' j k = B' j k) ∧ zfr hp h a 4 := by
  have Y : ∀ {h : zHp}, zfr hp h a 4 → wBx h a' B' := fun {h} f => bx_fr X' (fun i h1 h2 => f i (by omega))
  obtain ⟨h1, e1, X1, f1⟩ := bx_setI X (k := 0) (by decide) (B' 0 0)
  obtain ⟨h2, e2, X2, f2'⟩ := bx_setI X1 (k := 1) (by decide) (B' 0 1)
  have f2 := zfr_tr f1 f2'
  obtain ⟨h3, e3, X3, f3'⟩ := bx_setI X2 (k := 2) (by decide) (B' 0 2)
  have f3 := zfr_tr f2 f3'
  obtain ⟨h4, e4, X4, f4'⟩ := bx_setI X3 (k := 3) (by decide) (B' 0 3)
  have f4 := zfr_tr f3 f4'
  obtain ⟨h5, e5, X5, f5'⟩ := bx_setI X4 (k := 4) (by decide) (B' 0 4)
  have f5 := zfr_tr f4 f5'
  obtain ⟨h6, e6, X6, f6'⟩ := bx_setZ X5 X'.2.2
  have f6 := zfr_tr f5 f6'
  obtain ⟨h7, B7, e7, X7, g7, k7, f7'⟩ := bx_cpA X6 (Y f6) (j := 1) (by decide) (by decide) 12 rfl
  have f7 := zfr_tr f6 f7'
  obtain ⟨h8, B8, e8, X8, g8, k8, f8'⟩ := bx_cpA X7 (Y f7) (j := 2) (by decide) (by decide) 4 rfl
  have f8 := zfr_tr f7 f8'
  obtain ⟨h9, B9, e9, X9, g9, k9, f9'⟩ := bx_cpA X8 (Y f8) (j := 3) (by decide) (by decide) 24 rfl
  have f9 := zfr_tr f8 f9'
  refine ⟨h9, B9, ?_, X9, fun k hk => ?_, fun j k hj1 hj2 hk => ?_, f9⟩
  · simp only [f_X0_copyFrom, bx_is X, bx_I X' (k := 0) (by decide), bx_I (Y f1) (k := 1) (by decide), bx_I (Y f2) (k := 2) (by decide), bx_I (Y f3) (k := 3) (by decide), bx_I (Y f4) (k := 4) (by decide), bx_I (Y f5) (k := 5) (by decide), e1, e2, e3, e4, e5, e6, bx_R1 X6, bx_R1 (Y f6), e7, bx_R2 X7, bx_R2 (Y f7), e8, bx_R3 X8, bx_R3 (Y f8), e9, Option.bind_some]
  · rw [k9 0 (by decide), k8 0 (by decide), k7 0 (by decide)]
    rcases (show k = 0 ∨ k = 1 ∨ k = 2 ∨ k = 3 ∨ k = 4 ∨ k = 5 by omega) with rfl | rfl | rfl | rfl | rfl | rfl <;> rfl
  · rcases (show j = 1 ∨ j = 2 ∨ j = 3 by omega) with rfl | rfl | rfl
    · rw [k9 1 (by decide), k8 1 (by decide)]; exact g7 k hk
    · rw [k9 2 (by decide)]; exact g8 k hk
    · exact g9 k hk
/-! a state's writes -/
theorem st_fr (X : wSt hp q G) (f : ∀ i, q ≤ i → i < q + 52 → h i = hp i) : wSt h q G := by
  obtain ⟨h1, ⟨g, h2, h3⟩, h4, h5, h6⟩ := X
  refine ⟨?_, ⟨g, ?_, h3⟩, ?_, ?_, fun i hi => bx_fr (h6 i hi) (fun k k1 k2 => f k (by omega) (by omega))⟩
  · rw [f q (by omega) (by omega)]; exact h1
  · rw [f (q + 1) (by omega) (by omega)]; exact h2
  · rw [f (q + 2) (by omega) (by omega)]; exact h4
  · rw [f (q + 3) (by omega) (by omega)]; exact h5
theorem st_box (X : wSt hp q G) {b : Nat} (hb : b < 12) (Y : wBx h (q + 4 + 4 * b) B) (f : zfr hp h (q + 4 + 4 * b) 4) : wSt h q (g1 G b B) ∧ zfr hp h q 52 := by
  obtain ⟨h1, ⟨g, h2, h3⟩, h4, h5, h6⟩ := X
  refine ⟨⟨?_, ⟨g, ?_, h3⟩, ?_, ?_, fun i hi => ?_⟩, zfr_wide f (by omega) (by omega)⟩
  · rw [f q (by omega), g1_ne _ _ (by omega)]; exact h1
  · rw [f (q + 1) (by omega)]; exact h2
  · rw [f (q + 2) (by omega), g1_ne _ _ (by omega)]; exact h4
  · rw [f (q + 3) (by omega), g1_ne _ _ (by omega)]; exact h5
  · by_cases e : i = b
    · subst e
      rw [g1_self]; exact Y
    · rw [g1_ne _ _ e]
      exact bx_fr (h6 i hi) (fun k k1 k2 => f k (by omega))
/-- the settings (0) and the order (1) -/
theorem st_setA (X : wSt hp q G) {j k : Nat} (hj : j < 2) (hk : k < (if j = 0 then 2 else 6)) (v : Int32) : ∃ h, zsI hp (q + 2 + j) (Int32.ofNat k) v = some h ∧ wSt h q (g1 G 12 (w2 (G 12) j k v)) ∧ zfr hp h q 52 := by
  obtain ⟨h1, ⟨g, h2, h3⟩, h4, h5, h6⟩ := X
  rcases (show j = 0 ∨ j = 1 by omega) with rfl | rfl
  · refine ⟨_, pa_wr h4 hk (by decide) v, ⟨?_, ⟨g, ?_, h3⟩, ?_, ?_, fun i hi => ?_⟩, zfr_up (by omega) (by omega)⟩
    · rw [zup_ne (by omega), g1_self]; exact h1
    · rw [zup_ne (by omega)]; exact h2
    · rw [zup_eq, g1_self]; rfl
    · rw [zup_ne (by omega), g1_self]; exact h5
    · rw [g1_ne _ _ (by omega)]
      exact bx_fr (h6 i hi) (fun k k1 k2 => zup_ne (by omega))
  · refine ⟨_, pa_wr h5 hk (by decide) v, ⟨?_, ⟨g, ?_, h3⟩, ?_, ?_, fun i hi => ?_⟩, zfr_up (by omega) (by omega)⟩
    · rw [zup_ne (by omega), g1_self]; exact h1
    · rw [zup_ne (by omega)]; exact h2
    · rw [zup_ne (by omega), g1_self]; exact h4
    · rw [zup_eq, g1_self]; rfl
    · rw [g1_ne _ _ (by omega)]
      exact bx_fr (h6 i hi) (fun k k1 k2 => zup_ne (by omega))
/-- declaredWards (3), nextSeal (4) -/
theorem st_setF (X : wSt hp q G) {k : Nat} (hk : k = 3 ∨ k = 4) (v : Int32) : ∃ h, zpV hp q 6 k (.int v) = some h ∧ wSt h q (g1 G 12 (w2 (G 12) 2 k v)) ∧ zfr hp h q 52 := by
  obtain ⟨h1, ⟨g, h2, h3⟩, h4, h5, h6⟩ := X
  refine ⟨_, po_V h1 (by show k < 5; omega) _, ⟨?_, ⟨g, ?_, h3⟩, ?_, ?_, fun i hi => ?_⟩, zfr_up (by omega) (by omega)⟩
  · rw [zup_eq, g1_self]
    rcases hk with rfl | rfl <;> rfl
  · rw [zup_ne (by omega)]; exact h2
  · rw [zup_ne (by omega), g1_self]; exact h4
  · rw [zup_ne (by omega), g1_self]; exact h5
  · rw [g1_ne _ _ (by omega)]
    exact bx_fr (h6 i hi) (fun k k1 k2 => zup_ne (by omega))
theorem st_is (X : wSt hp q G) : zis hp q 6 = some () := po_is X.1
theorem st_bx (X : wSt hp q G) : zgR hp q 6 0 = some (q + 1) := po_R X.1 rfl
theorem st_set (X : wSt hp q G) : zgR hp q 6 1 = some (q + 2) := po_R X.1 rfl
theorem st_ord (X : wSt hp q G) : zgR hp q 6 2 = some (q + 3) := po_R X.1 rfl
theorem st_dw (X : wSt hp q G) : zgI hp q 6 3 = some (G 12 2 3) := po_I X.1 rfl
theorem st_nx (X : wSt hp q G) : zgI hp q 6 4 = some (G 12 2 4) := po_I X.1 rfl
theorem st_B (X : wSt hp q G) {i : Nat} (hi : i < 12) : zaR hp 3 (q + 1) (Int32.ofNat i) = some (q + 4 + 4 * i) := by
  obtain ⟨f, h1, h2⟩ := X.2.1
  exact pa_rdR h1 hi (by decide) (h2 i hi)
/-- two states say the same where it counts -/
def gEq (G G' : Nat → Nat → Nat → Int32) : Prop := (∀ i k, i < 12 → k < 6 → G' i 0 k = G i 0 k) ∧ (∀ i j k, i < 12 → 1 ≤ j → j ≤ 3 → k < bLen j → G' i j k = G i j k) ∧ (∀ k, k < 2 → G' 12 0 k = G 12 0 k) ∧ (∀ k, k < 6 → G' 12 1 k = G 12 1 k) ∧ G' 12 2 3 = G 12 2 3 ∧ G' 12 2 4 = G 12 2 4
/-- a loop over a heap -/
theorem zFH {R : Type} {l : Nat → Int32 → zHp → Option R} {n m : Nat} (J : Nat → zHp → Prop) (hm : n < m) (h0 : J 0 hp)
    (hs : ∀ i h, i < n → J i h → ∃ h', J (i + 1) h' ∧ ∀ m, l (m + 1) (Int32.ofNat i) h = l m (Int32.ofNat (i + 1)) h') {k : zHp → Option R} (he : ∀ h, J n h → ∀ m, l (m + 1) (Int32.ofNat n) h = k h) : ∃ h, J n h ∧ l m 0 hp = k h := by
  have H : ∀ d i m hp, i + d = n → d < m → J i hp → ∃ h, J n h ∧ l m (Int32.ofNat i) hp = k h := by
    intro d
    induction d with
    | zero =>
      intro i m hp hi hm hJ
      obtain ⟨m, rfl⟩ : ∃ q, m = q + 1 := ⟨m - 1, by omega⟩
      have e : i = n := by omega
      subst e
      exact ⟨hp, hJ, he hp hJ m⟩
    | succ d ih =>
      intro i m hp hi hm hJ
      obtain ⟨m, rfl⟩ : ∃ q, m = q + 1 := ⟨m - 1, by omega⟩
      obtain ⟨h', J', e⟩ := hs i hp (by omega) hJ
      rw [e m]
      exact ih (i + 1) m h' (by omega) (by omega) J'
  exact H n 0 m hp (by omega) hm h0
theorem st_cpA {q' : Nat} (X : wSt hp q G) (X' : wSt hp q' G') {j : Nat} (hj : j < 2) (v : Int32) (hv : v = Int32.ofNat (if j = 0 then 2 else 6)) : ∃ h g, zcpI hp (q' + 2 + j) 0 (q + 2 + j) 0 v = some h ∧ wSt h q (g1 G 12 (g1 (G 12) j g)) ∧ (∀ k, k < (if j = 0 then 2 else 6) → g k = G' 12 j k) ∧ zfr hp h q 52 := by
  obtain ⟨h1, ⟨g, h2, h3⟩, h4, h5, h6⟩ := X
  rcases (show j = 0 ∨ j = 1 by omega) with rfl | rfl
  · obtain ⟨g', e1, e2⟩ := zcp_all X'.2.2.1 h4 (by decide)
    refine ⟨_, g', by rw [hv]; exact e1, ⟨?_, ⟨g, ?_, h3⟩, ?_, ?_, fun i hi => ?_⟩, fun k hk => e2 k hk, zfr_up (by omega) (by omega)⟩
    · rw [zup_ne (by omega), g1_self]; exact h1
    · rw [zup_ne (by omega)]; exact h2
    · rw [zup_eq, g1_self]; rfl
    · rw [zup_ne (by omega), g1_self]; exact h5
    · rw [g1_ne _ _ (by omega)]
      exact bx_fr (h6 i hi) (fun k k1 k2 => zup_ne (by omega))
  · obtain ⟨g', e1, e2⟩ := zcp_all X'.2.2.2.1 h5 (by decide)
    refine ⟨_, g', by rw [hv]; exact e1, ⟨?_, ⟨g, ?_, h3⟩, ?_, ?_, fun i hi => ?_⟩, fun k hk => e2 k hk, zfr_up (by omega) (by omega)⟩
    · rw [zup_ne (by omega), g1_self]; exact h1
    · rw [zup_ne (by omega)]; exact h2
    · rw [zup_ne (by omega), g1_self]; exact h4
    · rw [zup_eq, g1_self]; rfl
    · rw [g1_ne _ _ (by omega)]
      exact bx_fr (h6 i hi) (fun k k1 k2 => zup_ne (by omega))
theorem st_copyL {q' : Nat} (X : wSt hp q G) (X' : wSt hp q' G') (hd : q + 52 ≤ q' ∨ q' + 52 ≤ q) (K : zHp → Option zHp) : ∃ h, (∃ G'', wSt h q G'' ∧ (∀ j k, j < 12 → k < 6 → G'' j 0 k = G' j 0 k) ∧ (∀ i' j k, i' < 12 → 1 ≤ j → j ≤ 3 → k < bLen j → G'' i' j k = G' i' j k) ∧ zfr hp h q 52) ∧ l_X6_copyFrom_2 K q q' 1000000 0 hp = K h := by
  have Y : ∀ {h : zHp}, zfr hp h q 52 → wSt h q' G' := fun {h} f => st_fr X' (fun i h1 h2 => f i (by omega))
  refine zFH (l := l_X6_copyFrom_2 K q q') (hp := hp) (n := 12) (m := 1000000) (k := K) (fun i h => ∃ G'', wSt h q G'' ∧ (∀ j k, j < i → k < 6 → G'' j 0 k = G' j 0 k) ∧ (∀ i' j k, i' < i → 1 ≤ j → j ≤ 3 → k < bLen j → G'' i' j k = G' i' j k) ∧ zfr hp h q 52) (by decide) ⟨G, X, fun j k h => absurd h (Nat.not_lt_zero j), fun i' j k h => absurd h (Nat.not_lt_zero i'), zfr_rf⟩ (fun i h hi ⟨G'', Z, z1, z2, f⟩ => ?_) (fun h _ m => ?_)
  · obtain ⟨h', B'', e, X'', y1, y2, f'⟩ := bx_copy (Z.2.2.2.2 i hi) ((Y f).2.2.2.2 i hi) (by omega)
    obtain ⟨Z', f''⟩ := st_box Z hi X'' f'
    refine ⟨h', ⟨g1 G'' i B'', Z', fun j k hj hk => ?_, fun i' j k hi' hj1 hj2 hk => ?_, zfr_tr f f''⟩, fun m => ?_⟩
    · by_cases c : j = i
      · subst c; rw [g1_self]; exact y1 k hk
      · rw [g1_ne _ _ c]; exact z1 j k (by omega) hk
    · by_cases c : i' = i
      · subst c; rw [g1_self]; exact y2 j k hj1 hj2 hk
      · rw [g1_ne _ _ c]; exact z2 i' j k (by omega) hj1 hj2 hk
    · have e12 : Int32.ofNat i < 12 := by
        rw [show (12 : Int32) = Int32.ofNat 12 from rfl, pn_lt (by omega) (by decide)]
        exact hi
      simp only [l_X6_copyFrom_2_s, b_X6_copyFrom_2, e12, if_true, st_bx Z, st_B Z hi, st_bx (Y f), st_B (Y f) hi, e, Option.bind_some, zlet, pn_succ]
  · simp only [l_X6_copyFrom_2_s, b_X6_copyFrom_2, show ¬ Int32.ofNat 12 < 12 by decide, if_false]
theorem st_copy {q' : Nat} (X : wSt hp q G) (X' : wSt hp q' G') (hd : q + 52 ≤ q' ∨ q' + 52 ≤ q) : ∃ h G'', f_X6_copyFrom q q' hp = some h ∧ wSt h q G'' ∧ gEq G' G'' ∧ zfr hp h q 52 := by
  have Y : ∀ {h : zHp}, zfr hp h q 52 → wSt h q' G' := fun {h} f => st_fr X' (fun i h1 h2 => f i (by omega))
  simp only [f_X6_copyFrom, st_is X, Option.bind_some]
  generalize hK : (fun h7 : zHp => (zgR h7 q' 6 1).bind fun r8 => (zgR h7 q 6 1).bind fun r9 => (zcpI h7 r8 0 r9 0 2).bind fun h10 => (zgR h10 q' 6 2).bind fun r11 => (zgR h10 q 6 2).bind fun r12 => (zcpI h10 r11 0 r12 0 6).bind fun h13 => (zgI h13 q' 6 3).bind fun v14 => (zpV h13 q 6 3 (.int v14)).bind fun h15 => (zgI h15 q' 6 4).bind fun v16 => (zpV h15 q 6 4 (.int v16)).bind fun h17 => some h17) = K
  obtain ⟨h1, ⟨G1, X1, a1, a2, f1⟩, e1⟩ := st_copyL X X' hd K
  obtain ⟨h2, g2, e2, X2, a3, f2'⟩ := st_cpA X1 (Y f1) (j := 0) (by decide) 2 rfl
  have f2 := zfr_tr f1 f2'
  obtain ⟨h3, g3, e3, X3, a4, f3'⟩ := st_cpA X2 (Y f2) (j := 1) (by decide) 6 rfl
  have f3 := zfr_tr f2 f3'
  obtain ⟨h4, e4, X4, f4'⟩ := st_setF X3 (k := 3) (Or.inl rfl) (G' 12 2 3)
  have f4 := zfr_tr f3 f4'
  obtain ⟨h5, e5, X5, f5'⟩ := st_setF X4 (k := 4) (Or.inr rfl) (G' 12 2 4)
  have f5 := zfr_tr f4 f5'
  refine ⟨h5, _, ?_, X5, ⟨fun i k hi hk => ?_, fun i j k hi hj1 hj2 hk => ?_, fun k hk => ?_, fun k hk => ?_, ?_, ?_⟩, f5⟩
  · rw [e1, ← hK]
    simp only [st_set X1, st_set (Y f1), show zcpI h1 (q' + 2) 0 (q + 2) 0 2 = some h2 from e2, st_ord X2, st_ord (Y f2), show zcpI h2 (q' + 3) 0 (q + 3) 0 6 = some h3 from e3, st_dw (Y f3), e4, st_nx (Y f4), e5, Option.bind_some]
  · rw [g1_ne _ _ (by omega), g1_ne _ _ (by omega), g1_ne _ _ (by omega), g1_ne _ _ (by omega)]; exact a1 i k hi hk
  · rw [g1_ne _ _ (by omega), g1_ne _ _ (by omega), g1_ne _ _ (by omega), g1_ne _ _ (by omega)]; exact a2 i j k hi hj1 hj2 hk
  · exact a3 k hk
  · exact a4 k hk
  · rfl
  · rfl
end P40

