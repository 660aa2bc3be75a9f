/-! PURE: what the class's hall answers, in the words of part 31 -/
section P35
theorem zFAe {R A : Type} {l : Nat → A → Int32 → Option R} {n m : Nat} {a0 : A} (st : Nat → A) (res : Option R) (h0 : st 0 = a0) (hm : n < m)
    (hs : ∀ m i, i < n → l (m + 1) (st i) (Int32.ofNat i) = l m (st (i + 1)) (Int32.ofNat (i + 1))) (he : ∀ m, l (m + 1) (st n) (Int32.ofNat n) = res) : l m a0 0 = res := by
  rw [← h0]
  exact zFA st res hm hs he
def zany (q : Nat → Bool) (n : Nat) : Bool := (zff q n 0).isSome
theorem zff_snoc (q : Nat → Bool) : ∀ d i, zff q (d + 1) i = (match zff q d i with | some k => some k | none => if q (i + d) = true then some (i + d) else none)
  | 0, i => by
    show (if q i = true then some i else none) = _
    rfl
  | d + 1, i => by
    show (if q i = true then some i else zff q (d + 1) (i + 1)) = (match (if q i = true then some i else zff q d (i + 1)) with | some k => some k | none => if q (i + (d + 1)) = true then some (i + (d + 1)) else none)
    cases q i with
    | true => rfl
    | false =>
      show zff q (d + 1) (i + 1) = (match zff q d (i + 1) with | some k => some k | none => if q (i + (d + 1)) = true then some (i + (d + 1)) else none)
      rw [zff_snoc q d (i + 1), show i + 1 + d = i + (d + 1) by omega]
theorem zany_s (q : Nat → Bool) (n : Nat) : zany q (n + 1) = (zany q n || q n) := by
  unfold zany
  rw [zff_snoc, Nat.zero_add]
  cases zff q n 0 with
  | some k => rfl
  | none => cases q n <;> rfl
theorem zffk_iff {q : Nat → Bool} {d i : Nat} : (zff q d i).isSome = true ↔ ∃ k, i ≤ k ∧ k < i + d ∧ q k = true := by
  cases h : zff q d i with
  | some k =>
    obtain ⟨h1, h2, h3, -⟩ := zff_some h
    exact ⟨fun _ => ⟨k, h1, h2, h3⟩, fun _ => rfl⟩
  | none =>
    refine ⟨fun r => (Bool.noConfusion r), fun ⟨k, h1, h2, h3⟩ => ?_⟩
    rw [zff_none h k h1 h2] at h3
    exact Bool.noConfusion h3
theorem zany_iff {q : Nat → Bool} {n : Nat} : zany q n = true ↔ ∃ k, k < n ∧ q k = true := by
  unfold zany
  rw [zffk_iff]
  exact ⟨fun ⟨k, _, h2, h3⟩ => ⟨k, by omega, h3⟩, fun ⟨k, h2, h3⟩ => ⟨k, by omega, by omega, h3⟩⟩
theorem b_ext {a b : Bool} (h : a = true ↔ b = true) : a = b := by
  cases a <;> cases b <;> simp at h ⊢
theorem zany_congr {p q : Nat → Bool} {n : Nat} (h : ∀ k, k < n → p k = q k) : zany p n = zany q n := by
  unfold zany
  rw [zff_congr (fun k _ h2 => h k (by omega))]
theorem zb_or (a b : Bool) : zb a ||| zb b = zb (a || b) := by cases a <;> cases b <;> decide
variable {hp : zHp} {hl p q b : Nat} {T N : Nat → Int32}
theorem hh_is (H : wH hp hl p q T N) : zis hp hl 1 = some () := po_is H.1
theorem hh_p (H : wH hp hl p q T N) : zgR hp hl 1 0 = some p := po_R H.1 rfl
theorem hh_q (H : wH hp hl p q T N) : zgR hp hl 1 1 = some q := po_R H.1 rfl
theorem hh_pl (H : wH hp hl p q T N) : wPl hp p T := H.2.1
theorem hh_I (H : wH hp hl p q T N) : sI T N := H.2.2.2
theorem hs_is (H : wH hp hl p q T N) : zis hp q 6 = some () := let ⟨_, h, _⟩ := H.2.2.1; po_is h.1
theorem hs_bx (H : wH hp hl p q T N) : zgR hp q 6 0 = some (q + 1) := let ⟨_, h, _⟩ := H.2.2.1; po_R h.1 rfl
theorem hs_set (H : wH hp hl p q T N) : zgR hp q 6 1 = some (q + 2) := let ⟨_, h, _⟩ := H.2.2.1; po_R h.1 rfl
theorem hs_ord (H : wH hp hl p q T N) : zgR hp q 6 2 = some (q + 3) := let ⟨_, h, _⟩ := H.2.2.1; po_R h.1 rfl
theorem hs_dw (H : wH hp hl p q T N) : zgI hp q 6 3 = some (Int32.ofNat (sD N)) := by
  obtain ⟨G, h, r⟩ := H.2.2.1
  rw [← r.2.1]
  exact po_I h.1 rfl
theorem hs_nx (H : wH hp hl p q T N) : zgI hp q 6 4 = some (N 2) := by
  obtain ⟨G, h, r⟩ := H.2.2.1
  rw [← r.2.2.1]
  exact po_I h.1 rfl
theorem hs_box (H : wH hp hl p q T N) {b : Nat} (hb : b < 12) : zaR hp 3 (q + 1) (Int32.ofNat b) = some (q + 4 + 4 * b) := by
  obtain ⟨G, h, -⟩ := H.2.2.1
  obtain ⟨f, h1, h2⟩ := h.2.1
  exact pa_rdR h1 hb (by decide) (h2 b hb)
theorem hs_X (H : wH hp hl p q T N) {b : Nat} (hb : b < sN T 3) : wX hp (q + 4 + 4 * b) T N b := by
  have := sI_bd (hh_I H)
  obtain ⟨G, h, r⟩ := H.2.2.1
  exact ⟨_, h.2.2.2.2 b (by omega), r.2.2.2.2 b hb⟩
theorem hs_s0 (H : wH hp hl p q T N) : zaI hp 0 (q + 2) 0 = some (N 0) := by
  obtain ⟨G, h, r⟩ := H.2.2.1
  rw [← r.1 0 (by decide)]
  exact pa_rd (k := 0) h.2.2.1 (Or.inl rfl) (by decide) (by decide)
theorem hs_s1 (H : wH hp hl p q T N) : zaI hp 0 (q + 2) 1 = some (N 1) := by
  obtain ⟨G, h, r⟩ := H.2.2.1
  rw [← r.1 1 (by decide)]
  exact pa_rd (k := 1) h.2.2.1 (Or.inl rfl) (by decide) (by decide)
theorem hs_oA (H : wH hp hl p q T N) {k : Nat} (hk : k < sD N) : zaI hp 0 (q + 3) (Int32.ofNat k) = some (N (3 + k)) := by
  have := (sI_d (hh_I H)).2
  obtain ⟨G, h, r⟩ := H.2.2.1
  rw [← r.2.2.2.1 k hk]
  exact pa_rd h.2.2.2.1 (Or.inl rfl) (by omega) (by decide)
theorem k_place (H : wH hp hl p q T N) {b : Nat} (hb : b < sN T 3) : zgI hp (q + 4 + 4 * b) 0 0 = some (sF N b 0) := x_place (hs_X H hb)
theorem k_seal (H : wH hp hl p q T N) {b : Nat} (hb : b < sN T 3) : zgI hp (q + 4 + 4 * b) 0 1 = some (sF N b 1) := x_seal (hs_X H hb)
theorem k_ent (H : wH hp hl p q T N) {b : Nat} (hb : b < sN T 3) : zgI hp (q + 4 + 4 * b) 0 2 = some (Int32.ofNat (sE N b)) := x_ent (hs_X H hb)
theorem k_cnt (H : wH hp hl p q T N) {b : Nat} (hb : b < sN T 3) : zgI hp (q + 4 + 4 * b) 0 3 = some (Int32.ofNat (sC N b)) := x_cnt (hs_X H hb)
theorem k_conf (H : wH hp hl p q T N) {b : Nat} (hb : b < sN T 3) : zgI hp (q + 4 + 4 * b) 0 5 = some (zb (sCf T N b).isSome) := x_conf (hs_X H hb)
theorem k_tab (H : wH hp hl p q T N) {b : Nat} (hb : b < sN T 3) : zgR hp (q + 4 + 4 * b) 0 7 = some (q + 4 + 4 * b + 2) := x_tab (hs_X H hb)
theorem k_led (H : wH hp hl p q T N) {b : Nat} (hb : b < sN T 3) : zgR hp (q + 4 + 4 * b) 0 6 = some (q + 4 + 4 * b + 1) := x_led (hs_X H hb)
theorem k_tabA (H : wH hp hl p q T N) {b c : Nat} (hb : b < sN T 3) (hc : c < sC N b) : zaI hp 0 (q + 4 + 4 * b + 2) (Int32.ofNat c) = some (sF N b (16 + c)) := x_tabA (hs_X H hb) (hh_I H) hb hc
theorem k_ledA (H : wH hp hl p q T N) {b c : Nat} (hb : b < sN T 3) (hc : c < sE N b) : zaI hp 0 (q + 4 + 4 * b + 1) (Int32.ofNat c) = some (sF N b (4 + c)) := x_ledA (hs_X H hb) (hh_I H) hb hc
theorem k_valid (H : wH hp hl p q T N) {b k : Nat} (hb : b < sN T 3) (hk : k < sPi T) : f_X0_foundValidly (q + 4 + 4 * b) (Int32.ofNat k) hp = some (sVal T N b k) := x_valid (hs_X H hb) (hh_I H) hb hk
theorem k_foundBy (H : wH hp hl p q T N) {b c k : Nat} (hb : b < sN T 3) (hc : c < sC N b) (hk : k < sPi T) : f_X0_foundBy (q + 4 + 4 * b) (Int32.ofNat c) (Int32.ofNat k) hp = some (sFd N b c k) := x_foundBy (hs_X H hb) (hh_I H) hb hc hk
theorem k_good (H : wH hp hl p q T N) {b : Nat} (hb : b < sN T 3) : f_X0_bearsGoodSeal (q + 4 + 4 * b) hp = some (zb (sGood N b)) := x_good (hs_X H hb) (hh_I H) hb
theorem k_isAt (H : wH hp hl p q T N) {b : Nat} (hb : b < sN T 3) : f_X0_isAtTable (q + 4 + 4 * b) hp = some (zb (sAtT N b)) := x_isAt (hs_X H hb)
theorem k_was (H : wH hp hl p q T N) {b : Nat} (hb : b < sN T 3) (t : Int32) : f_X0_wasCountedAt (q + 4 + 4 * b) t hp = some (zb (sWas N b t)) := x_was (hs_X H hb) (hh_I H) hb t
/-! the hall -/
theorem H_boxOn (H : wH hp hl p q T N) (t : Int32) : f_X1_boxOn hl t hp = some (zoi (sOn T N t)) := by
  have hd := sI_bd (hh_I H)
  simp only [f_X1_boxOn, hh_is H, Option.bind_some]
  refine (zF (n := sN T 3) (fun b => decide (sF N b 0 = t)) (fun k => some (Int32.ofNat k)) (some (-1)) (by omega) (fun m i hi => ?_) (fun m => ?_)).trans ?_
  · simp (disch := omega) only [l_X1_boxOn_2_s, b_X1_boxOn_2, hh_p H, hh_q H, c_num H.2.1, c_n3 H.2.1, hs_bx H, hs_box H, k_place H, Option.bind_some, pn_lt, hi, if_true, zlet, pn_succ, decide_eq_true_eq]
  · simp (disch := omega) only [l_X1_boxOn_2_s, b_X1_boxOn_2, hh_p H, c_num H.2.1, c_n3 H.2.1, Option.bind_some, Int32.lt_irrefl, if_false]
  · unfold sOn zoi
    cases zff (fun b => decide (sF N b 0 = t)) (sN T 3) 0 <;> rfl
def sInH (T N : Nat → Int32) : Int32 := zsum (fun b => if sF N b 0 = -4 then 1 else 0) (sN T 3)
theorem H_inHall (H : wH hp hl p q T N) : f_X1_boxesInHall hl hp = some (sInH T N) := by
  have hd := sI_bd (hh_I H)
  simp only [f_X1_boxesInHall, hh_is H, Option.bind_some]
  refine zFA (n := sN T 3) (zsum (fun b => if sF N b 0 = -4 then 1 else 0)) _ (by omega) (fun m i hi => ?_) (fun m => ?_)
  · simp (disch := omega) only [l_X1_boxesInHall_4_s, b_X1_boxesInHall_4, hh_p H, hh_q H, c_num H.2.1, c_n3 H.2.1, hs_bx H, hs_box H, k_place H, Option.bind_some, pn_lt, hi, if_true, zlet, pn_succ, zsum_s]
    by_cases e : sF N i 0 = -4
    · rw [if_pos e, if_pos e]
    · rw [if_neg e, if_neg e, Int32.add_zero]
  · simp (disch := omega) only [l_X1_boxesInHall_4_s, b_X1_boxesInHall_4, hh_p H, c_num H.2.1, c_n3 H.2.1, Option.bind_some, Int32.lt_irrefl, if_false]
    rfl
theorem H_more (H : wH hp hl p q T N) {b : Nat} (hb : b < sN T 3) : f_X1_papersTooMany hl (Int32.ofNat b) hp = some (sMore T N b) := by
  have hd := sI_bd (hh_I H)
  have hc := sI_c (hh_I H) hb
  simp (disch := omega) only [f_X1_papersTooMany, hh_is H, hh_q H, hs_bx H, hs_box H, k_cnt H, Option.bind_some, pn_eq0]
  unfold sMore
  by_cases e : sC N b = 0
  · rw [if_pos e, if_pos e]
  · rw [if_neg e, if_neg e]
    refine zFA (n := sPi T) (zsum (fun k => sVal T N b k)) _ (by omega) (fun m i hi => ?_) (fun m => ?_)
    · simp (disch := omega) only [l_X1_papersTooMany_24_s, b_X1_papersTooMany_24, hh_p H, c_piles H.2.1, k_valid H, Option.bind_some, pn_lt, hi, if_true, zlet, pn_succ, zsum_s]
    · simp (disch := omega) only [l_X1_papersTooMany_24_s, b_X1_papersTooMany_24, hh_p H, c_piles H.2.1, c_issued H.2.1, c_issuedA H.2.1 (hh_I H), Option.bind_some, Int32.lt_irrefl, if_false]
theorem H_off (H : wH hp hl p q T N) {b : Nat} (hb : b < sN T 3) : f_X1_isBoxOff hl (Int32.ofNat b) hp = some (zb (sOff T N b)) := by
  simp (disch := omega) only [f_X1_isBoxOff, hh_is H, hh_q H, H_more H, hs_set H, hs_s1 H, Option.bind_some, ite_some_zbP]
  rfl
def sDif (T N : Nat → Int32) (b : Nat) : Int32 := if sC N b = 0 then 0 else zsum (fun k => zabs (sVal T N b k - sPap T b k)) (sPi T)
def sWr (T N : Nat → Int32) (b c : Nat) : Bool := zany (fun k => !decide (sFd N b c k = sPap T b k)) (sPi T)
def sWB (T N : Nat → Int32) (t : Int32) (b : Nat) : Int32 := zsum (fun c => if (decide (sF N b (16 + c) = t) && sWr T N b c) = true then 1 else 0) (sC N b)
def sWC (T N : Nat → Int32) (t : Int32) : Int32 := zsum (fun b => sWB T N t b) (sN T 3)
def sRep (T N : Nat → Int32) (b t c : Nat) : Bool := !decide (sF N b (16 + c) = Int32.ofNat t) && sSame T (sFi T t b) (sFd N b c)
def sOne (T N : Nat → Int32) (b : Nat) : Bool := zany (fun t => zany (fun c => sRep T N b t c) (sC N b)) (sN T 4)
def sAlk (T : Nat → Int32) (b t u : Nat) : Bool := sSame T (sFi T t b) (sFi T u b)
theorem sAlk_comm (T : Nat → Int32) (b t u : Nat) : sAlk T b t u = sAlk T b u t := by
  unfold sAlk sSame
  rw [zff_congr (q := fun p => !decide (sFi T u b p = sFi T t b p)) (fun k _ _ => ?_)]
  by_cases e : sFi T t b k = sFi T u b k
  · rw [decide_eq_true e, decide_eq_true e.symm]
  · rw [decide_eq_false e, decide_eq_false (fun r => e r.symm)]
def sTwo (T : Nat → Int32) (b : Nat) : Bool := zany (fun t => zany (fun u => sAlk T b t u) t) (sN T 4)
def sLeft (T N : Nat → Int32) (b : Nat) : Int32 := if (sCf T N b).isSome = true then 0 else if sC N b < 4 ∧ sOne T N b = true then 1 else if sC N b + 2 ≤ 4 ∧ sTwo T b = true then 2 else -1
end P35

