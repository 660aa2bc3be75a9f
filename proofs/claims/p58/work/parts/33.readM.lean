/-! PURE: loops in a shape that the rewriter can use; the reference's readers, on -/
section P33
theorem zF {R : Type} {l : Nat → Int32 → Option R} {n m : Nat} (p : Nat → Bool) (ex : Nat → Option R) (res : Option R) (hm : n < m)
    (hs : ∀ m i, i < n → l (m + 1) (Int32.ofNat i) = if p i = true then ex i else l m (Int32.ofNat (i + 1))) (he : ∀ m, l (m + 1) (Int32.ofNat n) = res) : l m 0 = (match zff p n 0 with | some k => ex k | none => res) :=
  zloopF (fun m a => l m a) n (fun i => Int32.ofNat i) p ex res (fun m i hi hq => by rw [hs m i hi, hq]; rfl) (fun m i hi hq => by rw [hs m i hi, if_pos hq]) he m hm
theorem zFC {R : Type} {l : Nat → Int32 → Option R} {n m : Nat} (p : Nat → Bool) (ex : Option R) (res : Option R) (hm : n < m)
    (hs : ∀ m i, i < n → l (m + 1) (Int32.ofNat i) = if p i = true then ex else l m (Int32.ofNat (i + 1))) (he : ∀ m, l (m + 1) (Int32.ofNat n) = res) : l m 0 = if (zff p n 0).isSome = true then ex else res := by
  rw [zF p (fun _ => ex) res hm hs he]
  cases zff p n 0 <;> rfl
theorem zFA {R A : Type} {l : Nat → A → Int32 → Option R} {n m : Nat} (st : Nat → A) (res : Option R) (hm : n < m)
    (hs : ∀ m i, i < n → l (m + 1) (st i) (Int32.ofNat i) = l m (st (i + 1)) (Int32.ofNat (i + 1))) (he : ∀ m, l (m + 1) (st n) (Int32.ofNat n) = res) : l m (st 0) 0 = res :=
  zloop (A := A × Int32) (fun m a => l m a.1 a.2) n (fun i => (st i, Int32.ofNat i)) res (fun m i hi => hs m i hi) (fun m => he m) m hm
theorem zFB {R A A' : Type} {l : Nat → A → A' → Int32 → Option R} {n m : Nat} (st : Nat → A) (st' : Nat → A') (res : Option R) (hm : n < m)
    (hs : ∀ m i, i < n → l (m + 1) (st i) (st' i) (Int32.ofNat i) = l m (st (i + 1)) (st' (i + 1)) (Int32.ofNat (i + 1))) (he : ∀ m, l (m + 1) (st n) (st' n) (Int32.ofNat n) = res) : l m (st 0) (st' 0) 0 = res :=
  zloop (A := A × A' × Int32) (fun m a => l m a.1 a.2.1 a.2.2) n (fun i => (st i, st' i, Int32.ofNat i)) res (fun m i hi => hs m i hi) (fun m => he m) m hm
/-- a loop over a counter that starts at k -/
theorem zFCk {R : Type} {l : Nat → Int32 → Option R} {k n m : Nat} (hk : k ≤ n) (p : Nat → Bool) (ex : Option R) (res : Option R) (hm : n < m)
    (hs : ∀ m i, k ≤ i → i < n → l (m + 1) (Int32.ofNat i) = if p i = true then ex else l m (Int32.ofNat (i + 1))) (he : ∀ m, l (m + 1) (Int32.ofNat n) = res) : l m (Int32.ofNat k) = if (zff p (n - k) k).isSome = true then ex else res := by
  have H : ∀ d i m, i + d = n → k ≤ i → d < m → l m (Int32.ofNat i) = if (zff p d i).isSome = true then ex else res := by
    intro d
    induction d with
    | zero =>
      intro i m hi hki hm
      obtain ⟨m, rfl⟩ : ∃ q, m = q + 1 := ⟨m - 1, by omega⟩
      have e : i = n := by omega
      subst e
      exact he m
    | succ d ih =>
      intro i m hi hki hm
      obtain ⟨m, rfl⟩ : ∃ q, m = q + 1 := ⟨m - 1, by omega⟩
      rw [hs m i hki (by omega)]
      unfold zff
      cases hp : p i with
      | true => rfl
      | false => exact ih (i + 1) m (by omega) (by omega) (by omega)
  exact H (n - k) k m (by omega) (Nat.le_refl k) (by omega)
theorem zsum_s (f : Nat → Int32) (n : Nat) : zsum f (n + 1) = zsum f n + f n := rfl
theorem ite_bf {α : Type} (b : Bool) (A B : α) : (if b = false then A else B) = (if b = true then B else A) := by cases b <;> rfl
theorem ite_and2 {α : Type} (a b : Prop) [Decidable a] [Decidable b] (A B : α) : (if a ∧ b then A else B) = (if a then (if b then A else B) else B) := by
  by_cases h1 : a
  · by_cases h2 : b
    · rw [if_pos ⟨h1, h2⟩, if_pos h1, if_pos h2]
    · rw [if_neg (fun q => h2 q.2), if_pos h1, if_neg h2]
  · rw [if_neg (fun q => h1 q.1), if_neg h1]
theorem ite_or2 {α : Type} (a b : Prop) [Decidable a] [Decidable b] (A B : α) : (if a ∨ b then A else B) = (if a then A else (if b then A else B)) := by
  by_cases h1 : a
  · rw [if_pos (Or.inl h1), if_pos h1]
  · by_cases h2 : b
    · rw [if_pos (Or.inr h2), if_neg h1, if_pos h2]
    · rw [if_neg (fun q => q.elim h1 h2), if_neg h1, if_neg h2]
theorem ite_some_zb (b : Bool) : (if b = true then some (1 : Int32) else some 0) = some (zb b) := by cases b <;> rfl
theorem ite_some_zb' (b : Bool) : (if b = true then some (0 : Int32) else some 1) = some (zb (!b)) := by cases b <;> rfl
theorem ite_some_zbP (p : Prop) [Decidable p] : (if p then some (1 : Int32) else some 0) = some (zb (decide p)) := by
  by_cases h : p
  · rw [if_pos h, decide_eq_true h]; rfl
  · rw [if_neg h, decide_eq_false h]; rfl
theorem ite_some_zbP' (p : Prop) [Decidable p] : (if p then some (0 : Int32) else some 1) = some (zb (!decide p)) := by
  by_cases h : p
  · rw [if_pos h, decide_eq_true h]; rfl
  · rw [if_neg h, decide_eq_false h]; rfl
theorem zoi_ne1 (o : Option Nat) (ho : ∀ k, o = some k → k < 2147483648) : (zoi o = -1) = (o = none) := by
  cases o with
  | none => simp [zoi]
  | some k =>
    have := pn_ne1 (ho k rfl)
    show (Int32.ofNat k = -1) = _
    rw [this]
    simp
theorem zff_lt {p : Nat → Bool} {n k : Nat} (h : zff p n 0 = some k) : k < n := by
  have := zff_some h
  omega
theorem pn_0lt {n : Nat} (hn : n < 2147483648) : ((0 : Int32) < Int32.ofNat n) = (0 < n) := pn_lt (i := 0) (by decide) hn
theorem pn_eq0 {n : Nat} (hn : n < 2147483648) : (Int32.ofNat n = 0) = (n = 0) := pn_inj (n := 0) hn (by decide)
theorem pn_negF {k : Nat} (h : k < 2147483648) : (Int32.ofNat k < 0) = False := eq_false (pn_neg h)
theorem zlet_b {α β : Type} (e : α) (k : α → Option β) : zlet e k = k e := rfl
variable {hp : zHp} {x : Nat} {S : Nat → Nat → Int32}
theorem sI_bd {T N : Nat → Int32} (I : sI T N) : sN T 0 ≤ 5 ∧ sN T 1 ≤ 5 ∧ sN T 2 ≤ 6 ∧ sN T 3 ≤ 12 ∧ sN T 4 ≤ 4 ∧ sPi T = sN T 0 + 1 := ⟨sI_0 I, sI_1 I, sI_2 I, sI_3 I, sI_4 I, rfl⟩
theorem sCf_lt {T N : Nat → Int32} {b k : Nat} (h : sCf T N b = some k) : k < sC N b := zff_lt h
theorem sBM_i (f : Nat → Int32) : ∀ n, (sBM f n).1 = -1 ∨ ∃ k, k < n ∧ (sBM f n).1 = Int32.ofNat k
  | 0 => Or.inl rfl
  | n + 1 => by
    show (if (sBM f n).2 < f n then Int32.ofNat n else (sBM f n).1) = -1 ∨ ∃ k, k < n + 1 ∧ (if (sBM f n).2 < f n then Int32.ofNat n else (sBM f n).1) = Int32.ofNat k
    by_cases q : (sBM f n).2 < f n
    · rw [if_pos q]
      exact Or.inr ⟨n, by omega, rfl⟩
    · rw [if_neg q]
      rcases sBM_i f n with e | ⟨k, hk, e⟩
      · exact Or.inl e
      · exact Or.inr ⟨k, by omega, e⟩
theorem zoi_m1 {T N : Nat → Int32} (I : sI T N) {b : Nat} (hb : b < sN T 3) : (zoi (sCf T N b) = -1) = ((sCf T N b).isNone = true) := by
  have hc := sI_c I hb
  cases hk : sCf T N b with
  | none => simp [zoi]
  | some k =>
    have := sCf_lt hk
    show (Int32.ofNat k = -1) = _
    rw [pn_ne1 (by omega)]
    simp
end P33

