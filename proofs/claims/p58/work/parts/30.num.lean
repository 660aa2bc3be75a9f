/-! PURE: numbers, loops, arrays -/
section P30
theorem pn_nat {k : Nat} (h : k < 2147483648) : (Int32.ofNat k).toNatClampNeg = k := Int32.toNatClampNeg_ofNat_of_lt h
theorem pn_neg {k : Nat} (h : k < 2147483648) : ¬ Int32.ofNat k < 0 := by
  intro q
  have := (Int32.ofNat_lt_iff_lt (a := k) (b := 0) h (by decide)).mp q
  omega
theorem pn_lt {i n : Nat} (hi : i < 2147483648) (hn : n < 2147483648) : (Int32.ofNat i < Int32.ofNat n) = (i < n) := propext (Int32.ofNat_lt_iff_lt hi hn)
theorem pn_le {i n : Nat} (hi : i < 2147483648) (hn : n < 2147483648) : (Int32.ofNat i ≤ Int32.ofNat n) = (i ≤ n) := propext (Int32.ofNat_le_iff_le hi hn)
theorem pn_inj {i n : Nat} (hi : i < 2147483648) (hn : n < 2147483648) : (Int32.ofNat i = Int32.ofNat n) = (i = n) := by
  refine propext ⟨fun e => ?_, fun e => by rw [e]⟩
  have := congrArg Int32.toNatClampNeg e
  rw [pn_nat hi, pn_nat hn] at this
  exact this
theorem pn_ne1 {k : Nat} (h : k < 2147483648) : (Int32.ofNat k = -1) = False := by
  refine propext ⟨fun e => ?_, fun e => e.elim⟩
  have h1 := pn_neg h
  rw [e] at h1
  exact h1 (by decide)
theorem pn_succ (k : Nat) : Int32.ofNat k + 1 = Int32.ofNat (k + 1) := (Int32.ofNat_add k 1).symm
theorem pn_pos {x : Int32} (h : ¬ x < 0) : ∃ k, x = Int32.ofNat k ∧ k < 2147483648 := ⟨x.toNatClampNeg, (Int32.ofNat_toNatClampNeg x (Int32.not_lt.mp h)).symm, Int32.toNatClampNeg_lt x⟩
/-- an index that passed the test is a small number -/
theorem pn_in {x : Int32} {n : Nat} (hn : n < 2147483648) (h0 : ¬ x < 0) (h1 : x < Int32.ofNat n) : ∃ k, x = Int32.ofNat k ∧ k < n := by
  obtain ⟨k, rfl, hk⟩ := pn_pos h0
  exact ⟨k, rfl, by rw [pn_lt hk hn] at h1; exact h1⟩
/-! loops -/
theorem zloop {A R : Type} (L : Nat → A → Option R) (n : Nat) (st : Nat → A) (res : Option R) (hs : ∀ m i, i < n → L (m + 1) (st i) = L m (st (i + 1))) (he : ∀ m, L (m + 1) (st n) = res) : ∀ m, n < m → L m (st 0) = res := by
  have H : ∀ d i m, i + d = n → d < m → L m (st i) = res := by
    intro d
    induction d with
    | zero =>
      intro i m hi hm
      obtain ⟨m, rfl⟩ : ∃ q, m = q + 1 := ⟨m - 1, by omega⟩
      have e : i = n := by omega
      subst e
      exact he m
    | succ d ih =>
      intro i m hi hm
      obtain ⟨m, rfl⟩ : ∃ q, m = q + 1 := ⟨m - 1, by omega⟩
      rw [hs m i (by omega)]
      exact ih (i + 1) m (by omega) (by omega)
  intro m hm
  exact H n 0 m (by omega) hm
/-- the first i, from i on, d of them, with p -/
def zff (p : Nat → Bool) : Nat → Nat → Option Nat
  | 0, _ => none
  | d + 1, i => if p i then some i else zff p d (i + 1)
theorem zloopF {A R : Type} (L : Nat → A → Option R) (n : Nat) (st : Nat → A) (p : Nat → Bool) (ex : Nat → Option R) (res : Option R) (hs : ∀ m i, i < n → p i = false → L (m + 1) (st i) = L m (st (i + 1))) (hx : ∀ m i, i < n → p i = true → L (m + 1) (st i) = ex i) (he : ∀ m, L (m + 1) (st n) = res) : ∀ m, n < m → L m (st 0) = (match zff p n 0 with | some k => ex k | none => res) := by
  have H : ∀ d i m, i + d = n → d < m → L m (st i) = (match zff p d i with | some k => ex k | none => res) := by
    intro d
    induction d with
    | zero =>
      intro i m hi hm
      obtain ⟨m, rfl⟩ : ∃ q, m = q + 1 := ⟨m - 1, by omega⟩
      have e : i = n := by omega
      subst e
      exact he m
    | succ d ih =>
      intro i m hi hm
      obtain ⟨m, rfl⟩ : ∃ q, m = q + 1 := ⟨m - 1, by omega⟩
      unfold zff
      cases hp : p i with
      | true =>
        rw [hx m i (by omega) hp]
        rfl
      | false =>
        rw [hs m i (by omega) hp]
        exact ih (i + 1) m (by omega) (by omega)
  intro m hm
  exact H n 0 m (by omega) hm
theorem zff_congr {p q : Nat → Bool} : ∀ {d i : Nat}, (∀ k, i ≤ k → k < i + d → p k = q k) → zff p d i = zff q d i := by
  intro d
  induction d with
  | zero => intro i _; rfl
  | succ d ih =>
    intro i h
    unfold zff
    rw [h i (by omega) (by omega), ih (fun k h1 h2 => h k (by omega) (by omega))]
theorem zff_some {p : Nat → Bool} : ∀ {d i k : Nat}, zff p d i = some k → i ≤ k ∧ k < i + d ∧ p k = true ∧ ∀ j, i ≤ j → j < k → p j = false := by
  intro d
  induction d with
  | zero => intro i k h; cases h
  | succ d ih =>
    intro i k h
    unfold zff at h
    cases hp : p i with
    | true =>
      rw [hp] at h
      cases h
      exact ⟨by omega, by omega, hp, fun j h1 h2 => by omega⟩
    | false =>
      rw [hp] at h
      obtain ⟨h1, h2, h3, h4⟩ := ih h
      refine ⟨by omega, by omega, h3, fun j g1 g2 => ?_⟩
      rcases Nat.eq_or_lt_of_le g1 with e | e
      · rw [← e]; exact hp
      · exact h4 j e g2
theorem zff_none {p : Nat → Bool} : ∀ {d i : Nat}, zff p d i = none → ∀ j, i ≤ j → j < i + d → p j = false := by
  intro d
  induction d with
  | zero => intro i _ j h1 h2; omega
  | succ d ih =>
    intro i h j h1 h2
    unfold zff at h
    cases hp : p i with
    | true => rw [hp] at h; cases h
    | false =>
      rw [hp] at h
      rcases Nat.eq_or_lt_of_le h1 with e | e
      · rw [← e]; exact hp
      · exact ih h j e (by omega)
theorem zff_none_of {p : Nat → Bool} : ∀ {d i : Nat}, (∀ j, i ≤ j → j < i + d → p j = false) → zff p d i = none := by
  intro d
  induction d with
  | zero => intro i _; rfl
  | succ d ih =>
    intro i h
    unfold zff
    rw [h i (by omega) (by omega)]
    exact ih (fun j h1 h2 => h j (by omega) (by omega))
theorem zff_some_of {p : Nat → Bool} {d i k : Nat} (h1 : i ≤ k) (h2 : k < i + d) (h3 : p k = true) (h4 : ∀ j, i ≤ j → j < k → p j = false) : zff p d i = some k := by
  cases h : zff p d i with
  | none =>
    rw [zff_none h k h1 h2] at h3
    cases h3
  | some q =>
    obtain ⟨g1, g2, g3, g4⟩ := zff_some h
    rcases Nat.lt_trichotomy q k with e | e | e
    · rw [h4 q g1 e] at g3; cases g3
    · rw [e]
    · rw [g4 k h1 e] at h3; cases h3
/-- an index or -1 -/
def zoi (o : Option Nat) : Int32 := match o with
  | none => -1
  | some k => Int32.ofNat k
def zb (b : Bool) : Int32 := if b then 1 else 0
theorem zb_t : zb true = 1 := rfl
theorem zb_f : zb false = 0 := rfl
theorem zb_0 (b : Bool) : (zb b = 0) = (b = false) := by cases b <;> simp [zb] <;> decide
/-- f 0 + .. + f (n-1), from the left -/
def zsum (f : Nat → Int32) : Nat → Int32
  | 0 => 0
  | n + 1 => zsum f n + f n
theorem zsum_congr {f g : Nat → Int32} : ∀ {n : Nat}, (∀ k, k < n → f k = g k) → zsum f n = zsum g n := by
  intro n
  induction n with
  | zero => intro _; rfl
  | succ n ih =>
    intro h
    show zsum f n + f n = zsum g n + g n
    rw [ih (fun k hk => h k (by omega)), h n (by omega)]
/-! arrays -/
theorem pa_rd {hp : zHp} {a t t' n k : Nat} {f : Nat → Int32} (h : hp a = some (.inl (t', n, .inl f))) (ht : t' = t ∨ t' = t + 10) (hk : k < n) (hn : n < 2147483648) : zaI hp t a (Int32.ofNat k) = some (f k) := by
  unfold zaI
  rw [h]
  dsimp only
  rw [pn_nat (by omega), if_pos ⟨ht, fun q => q.elim (fun q => pn_neg (by omega) q) (fun q => by omega)⟩]
theorem pa_wr {hp : zHp} {a n k : Nat} {f : Nat → Int32} (h : hp a = some (.inl (0, n, .inl f))) (hk : k < n) (hn : n < 2147483648) (x : Int32) : zsI hp a (Int32.ofNat k) x = some (zup hp a (.inl (0, n, .inl (upd f k x)))) := by
  unfold zsI
  rw [h]
  dsimp only
  rw [pn_nat (by omega), if_pos ⟨rfl, fun q => q.elim (fun q => pn_neg (by omega) q) (fun q => by omega)⟩]
theorem pa_wrB {hp : zHp} {a n k : Nat} {f : Nat → Int32} (h : hp a = some (.inl (1, n, .inl f))) (hk : k < n) (hn : n < 2147483648) (x : Int32) : zsB hp a (Int32.ofNat k) x = some (zup hp a (.inl (1, n, .inl (upd f k x.toInt8.toInt32)))) := by
  unfold zsB
  rw [h]
  dsimp only
  rw [pn_nat (by omega), if_pos ⟨rfl, fun q => q.elim (fun q => pn_neg (by omega) q) (fun q => by omega)⟩]
theorem pa_rdR {hp : zHp} {a t n k v : Nat} {f : Nat → Option Nat} (h : hp a = some (.inl (t, n, .inr (.inr (.inr (.inr f)))))) (hk : k < n) (hn : n < 2147483648) (hv : f k = some v) : zaR hp t a (Int32.ofNat k) = some v := by
  unfold zaR
  rw [h]
  dsimp only
  rw [pn_nat (by omega), if_pos ⟨rfl, fun q => q.elim (fun q => pn_neg (by omega) q) (fun q => by omega)⟩, hv]
theorem po_is {hp : zHp} {a c : Nat} {fs : List Value} (h : hp a = some (.inr (c, fs))) : zis hp a c = some () := by
  unfold zis
  rw [h]
  dsimp only
  rw [if_pos rfl]
theorem po_I {hp : zHp} {a c k : Nat} {fs : List Value} {x : Int32} (h : hp a = some (.inr (c, fs))) (hk : fs[k]? = some (.int x)) : zgI hp a c k = some x := by
  unfold zgI
  rw [h]
  dsimp only
  rw [if_pos rfl, hk]
theorem po_R {hp : zHp} {a c k x : Nat} {fs : List Value} (h : hp a = some (.inr (c, fs))) (hk : fs[k]? = some (.ref x)) : zgR hp a c k = some x := by
  unfold zgR
  rw [h]
  dsimp only
  rw [if_pos rfl, hk]
theorem po_V {hp : zHp} {a c k : Nat} {fs : List Value} (h : hp a = some (.inr (c, fs))) (hk : k < fs.length) (v : Value) : zpV hp a c k v = some (zup hp a (.inr (c, fs.set k v))) := by
  unfold zpV
  rw [h]
  dsimp only
  rw [if_pos ⟨rfl, hk⟩]
theorem zup_eq (hp : zHp) (a : Nat) (o : zOb) : zup hp a o a = some o := by
  unfold zup
  rw [if_pos rfl]
theorem zup_ne {hp : zHp} {a b : Nat} {o : zOb} (h : b ≠ a) : zup hp a o b = hp b := by
  unfold zup
  rw [if_neg h]
end P30

