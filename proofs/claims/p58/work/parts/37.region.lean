/-! PURE: regions; the sums over declared wards; the reference's last readers -/
section P37
variable {hp : zHp} {hl p q b x : Nat} {T N : Nat → Int32} {S : Nat → Nat → Int32}
theorem zrNb (b : Bool) : zrNp .boolean (zb b) = some (zb b) := by cases b <;> rfl
/-! the reference -/
def sSt (T N : Nat → Int32) (r : Int32) (g : Nat → Bool) : Int32 := zsum (fun w => if (sWin T w r && (sDecl N (Int32.ofNat w) && g w)) = true then 1 else 0) (sN T 2)
theorem sCnt_eq (f : Nat → Bool) : ∀ n, sCnt f n = zsum (fun k => if f k = true then 1 else 0) n
  | 0 => rfl
  | n + 1 => by show sCnt f n + _ = zsum _ n + _; rw [sCnt_eq f n]
def sBey (T N : Nat → Int32) (r y : Int32) : Bool := !zany (fun k => !decide (Int32.ofNat k = y) && !decide (sSeat T N r (Int32.ofNat k) + sUnd T N r < sSeat T N r y)) (sN T 0)
def sBit (due : Int32) (b : Nat) : Bool := decide ((due >>> (Int32.ofNat b &&& 31)) &&& 1 = 1)
def sOpn (T N : Nat → Int32) (due : Int32) (t : Int32) : Option Nat := zff (fun b => sBit due b && (decide (sF N b 0 = -4) && (sGood N b && !sWas N b t))) (sN T 3) 0
/-! the class -/
theorem c_has (h : wPl hp p T) {s : Nat} (hs : s < 5) (y : Int32) : f_X5_has p (Int32.ofNat s) y hp = some (zb (!decide (y < 0) && decide (y < Int32.ofNat (sN T s)))) := by
  simp (disch := omega) only [f_X5_has, c_is5 h, c_num h, c_n h, Option.bind_some, ite_some_zbP]
  by_cases e : y < 0
  · simp [e, zb]
  · simp [e]
theorem c_has1 (h : wPl hp p T) (y : Int32) : f_X5_has p 1 y hp = some (zb (!decide (y < 0) && decide (y < Int32.ofNat (sN T 1)))) := c_has h (s := 1) (by decide) y
theorem c_hasP (h : wPl hp p T) (I : sI T N) {r : Nat} (hr : r < sN T 1) : f_X5_has p 1 (Int32.ofNat r) hp = some 1 := by
  have hd := sI_bd I
  rw [c_has1 h]
  simp (disch := omega) [pn_negF, pn_lt, hr, zb]
theorem c_hasM (h : wPl hp p T) : f_X5_has p 1 (-1) hp = some 0 := by
  rw [c_has1 h]
  rfl
/-! sums over the declared wards -/
def sO (N : Nat → Int32) (k : Nat) : Nat := (N (3 + k)).toNatClampNeg
theorem sI_o {T N : Nat → Int32} (I : sI T N) {k : Nat} (hk : k < sD N) : sO N k < sN T 2 ∧ N (3 + k) = Int32.ofNat (sO N k) := by
  have hd := sI_bd I
  obtain ⟨w, h1, h2⟩ := I.2.2.2.1.2.2.1 k hk
  unfold sO
  rw [h2, pn_nat (by omega)]
  exact ⟨h1, rfl⟩
theorem sI_inj {T N : Nat → Int32} (I : sI T N) {i j : Nat} (hi : i < sD N) (hj : j < sD N) (e : sO N i = sO N j) : i = j := by
  have h1 := (sI_o I hi).2
  have h2 := (sI_o I hj).2
  rw [← e, ← h1] at h2
  rcases Nat.lt_trichotomy i j with c | c | c
  · exact (I.2.2.2.1.2.2.2 i j c hj h2.symm).elim
  · exact c
  · exact (I.2.2.2.1.2.2.2 j i c hi h2).elim
theorem sDecl_iff {T N : Nat → Int32} (I : sI T N) {w : Nat} (hw : w < sN T 2) : sDecl N (Int32.ofNat w) = true ↔ ∃ k, k < sD N ∧ sO N k = w := by
  have hd := sI_bd I
  unfold sDecl
  rw [zffk_iff]
  constructor
  · rintro ⟨k, -, h2, h3⟩
    have h2' : k < sD N := by omega
    obtain ⟨h4, h5⟩ := sI_o I h2'
    rw [h5] at h3
    have h6 := of_decide_eq_true h3
    rw [pn_inj (by omega) (by omega)] at h6
    exact ⟨k, h2', h6⟩
  · rintro ⟨k, h2, h3⟩
    exact ⟨k, by omega, by omega, decide_eq_true (by rw [(sI_o I h2).2, h3])⟩
theorem zsum_one (f : Nat → Int32) (a : Nat) : ∀ n, a < n → zsum (fun w => if w = a then f w else 0) n = f a
  | 0, h => by omega
  | n + 1, h => by
    rw [zsum_s]
    by_cases e : n = a
    · subst e
      rw [if_pos rfl]
      have : ∀ m, m ≤ n → zsum (fun w => if w = n then f w else 0) m = 0 := by
        intro m
        induction m with
        | zero => intro _; rfl
        | succ m ih =>
          intro hm
          rw [zsum_s, ih (by omega), if_neg (by omega), Int32.add_zero]
      rw [this n (Nat.le_refl n), Int32.zero_add]
    · rw [zsum_one f a n (by omega), if_neg e, Int32.add_zero]
theorem zsum_add (f g : Nat → Int32) : ∀ n, zsum (fun w => f w + g w) n = zsum f n + zsum g n
  | 0 => by show (0 : Int32) = 0 + 0; rw [Int32.add_zero]
  | n + 1 => by
    rw [zsum_s, zsum_s, zsum_s, zsum_add f g n]
    generalize zsum f n = a
    generalize zsum g n = c
    rw [Int32.add_assoc, Int32.add_assoc, ← Int32.add_assoc c, Int32.add_comm c (f n), Int32.add_assoc (f n)]
/-- over distinct places o 0 .. o (D-1) under n, or over all under n that are among them: the same -/
theorem zsum_places (o : Nat → Nat) (n : Nat) (f : Nat → Int32) : ∀ D, (∀ k, k < D → o k < n) → (∀ i j, i < D → j < D → o i = o j → i = j) → zsum (fun k => f (o k)) D = zsum (fun w => if zany (fun k => decide (o k = w)) D = true then f w else 0) n
  | 0, _, _ => by
    have : ∀ m, (0 : Int32) = zsum (fun w => if zany (fun k => decide (o k = w)) 0 = true then f w else 0) m := by
      intro m
      induction m with
      | zero => rfl
      | succ m ih =>
        rw [zsum_s, ← ih]
        rfl
    exact this n
  | D + 1, h1, h2 => by
    rw [zsum_s, zsum_places o n f D (fun k hk => h1 k (by omega)) (fun i j hi hj => h2 i j (by omega) (by omega)), ← zsum_one f (o D) n (h1 D (by omega)), ← zsum_add]
    refine zsum_congr (fun w hw => ?_)
    rw [zany_s]
    by_cases e : o D = w
    · have : zany (fun k => decide (o k = w)) D = false := by
        cases hz : zany (fun k => decide (o k = w)) D with
        | false => rfl
        | true =>
          obtain ⟨k, hk, e2⟩ := zany_iff.mp hz
          have := h2 k D (by omega) (by omega) ((of_decide_eq_true e2).trans e.symm)
          omega
      rw [this, decide_eq_true e]
      simp [e, Int32.zero_add]
    · have e' : ¬ w = o D := fun r => e r.symm
      simp [e, e', Int32.add_zero]
theorem zsum_decl {T N : Nat → Int32} (I : sI T N) (f : Nat → Int32) : zsum (fun k => f (sO N k)) (sD N) = zsum (fun w => if sDecl N (Int32.ofNat w) = true then f w else 0) (sN T 2) := by
  rw [zsum_places (sO N) (sN T 2) f (sD N) (fun k hk => (sI_o I hk).1) (fun i j hi hj e => sI_inj I hi hj e)]
  refine zsum_congr (fun w hw => ?_)
  rw [b_ext (a := zany (fun k => decide (sO N k = w)) (sD N)) (b := sDecl N (Int32.ofNat w))]
  rw [zany_iff, sDecl_iff I hw]
  exact ⟨fun ⟨k, h1, h2⟩ => ⟨k, h1, of_decide_eq_true h2⟩, fun ⟨k, h1, h2⟩ => ⟨k, h1, decide_eq_true h2⟩⟩
def sRV (T N : Nat → Int32) (r : Int32) (k : Nat) : Int32 := zsum (fun w => if (sWin T w r && sDecl N (Int32.ofNat w)) = true then sVo T N (Int32.ofNat w) k else 0) (sN T 2)
theorem H_boxFor (H : wH hp hl p q T N) (t due : Int32) : f_X1_boxFor hl t due hp = some (zoi (sOpn T N due t)) := by
  have hd := sI_bd (hh_I H)
  simp only [f_X1_boxFor, hh_is H, Option.bind_some]
  refine (zF (n := sN T 3) (fun b => sBit due b && (decide (sF N b 0 = -4) && (sGood N b && !sWas N b t))) (fun k => some (Int32.ofNat k)) (some (-1)) (by omega) (fun m i hi => ?_) (fun m => ?_)).trans ?_
  · simp (disch := omega) only [l_X1_boxFor_2_s, b_X1_boxFor_2, j_X1_boxFor_48, j_X1_boxFor_49, hh_p H, hh_q H, c_num H.2.1, c_n3 H.2.1, hs_bx H, hs_box H, k_place H, k_good H, k_was H, Option.bind_some, pn_lt, hi, if_true, zlet, pn_succ, zb_0, sBit, show ¬ (1 : Int32) = 0 by decide, if_false]
    by_cases e : (due >>> (Int32.ofNat i &&& 31)) &&& 1 = 1
    · by_cases e2 : sF N i 0 = -4
      · cases sWas N i t
        · cases sGood N i <;> simp [e, e2]
        · simp [e, e2]
      · cases sWas N i t <;> simp [e, e2]
    · simp [e]
  · simp (disch := omega) only [l_X1_boxFor_2_s, b_X1_boxFor_2, hh_p H, c_num H.2.1, c_n3 H.2.1, Option.bind_some, Int32.lt_irrefl, if_false]
  · unfold sOpn zoi
    cases zff (fun b => sBit due b && (decide (sF N b 0 = -4) && (sGood N b && !sWas N b t))) (sN T 3) 0 <;> rfl
end P37

