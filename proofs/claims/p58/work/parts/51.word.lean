/-! PURE: words, names, numbers of a text, in both -/
section P51
variable {hp h hp' : zHp} {x a c L i r : Nat} {S : Nat → Nat → Int32} {F I Bt : Nat → Int32} {β : Nat → Nat} {l w : List Nat}
/-- a text, Latin-1, its characters under 128 -/
def wTx (hp : zHp) (r : Nat) (l : List Nat) : Prop := ∃ (v : Nat) (f : Nat → Int32), hp r = some (.inr (20, [.ref v, .int 0])) ∧ (hp v = some (.inl (11, l.length, .inl f)) ∨ hp v = some (.inl (1, l.length, .inl f))) ∧ ∀ k, k < l.length → f k = Int32.ofNat (l.getD k 0)
def l128 (l : List Nat) : Prop := l.length < 1000 ∧ ∀ k, k < l.length → l.getD k 0 < 128
theorem tx_coder {v : Nat} (h : hp r = some (.inr (20, [.ref v, .int 0]))) : f_J0_coder_7d493 r hp = some 0 := by
  simp only [f_J0_coder_7d493, po_is h, show ¬ (1 : Int32) = 0 by decide, if_false, show zgI hp r 20 1 = some 0 from po_I h rfl, Option.bind_some]
  rfl
theorem tx_len (X : wTx hp r l) (b : l128 l) : f_J0_length_8abf5 r hp = some (Int32.ofNat l.length) := by
  obtain ⟨v, f, h1, h2, h3⟩ := X
  have e : zlen hp 1 v = some (Int32.ofNat l.length) := by
    unfold zlen
    rcases h2 with h2 | h2
    · rw [h2]; rfl
    · rw [h2]; rfl
  simp only [f_J0_length_8abf5, po_is h1, show zgR hp r 20 0 = some v from po_R h1 rfl, e, tx_coder h1, Option.bind_some]
  rw [show (0 : Int32) &&& 31 = 0 by decide, Int32.shiftRight_zero]
theorem zrc_n {n : Nat} (h : n < 128) : zrNp .char (Int32.ofNat n) = some (Int32.ofNat n) := by
  have t : ∀ n, n < 128 → zrNp .char (Int32.ofNat n) = some (Int32.ofNat n) := by decide +kernel
  exact t n h
theorem z255_n {n : Nat} (h : n < 128) : (((Int32.ofNat n &&& 255).toUInt32 % 65536).toInt32) = Int32.ofNat n := by
  have t : ∀ n, n < 128 → (((Int32.ofNat n &&& 255).toUInt32 % 65536).toInt32) = Int32.ofNat n := by decide +kernel
  exact t n h
theorem tx_at (X : wTx hp r l) (b : l128 l) {k : Nat} (hk : k < l.length) : f_J0_charAt_5068e r (Int32.ofNat k) hp = some (Int32.ofNat (l.getD k 0)) := by
  obtain ⟨v, f, h1, h2, h3⟩ := X
  have b1 := b.1
  have e : zlen hp 1 v = some (Int32.ofNat l.length) := by
    unfold zlen
    rcases h2 with h2 | h2
    · rw [h2]; rfl
    · rw [h2]; rfl
  have e2 : zaI hp 1 v (Int32.ofNat k) = some (Int32.ofNat (l.getD k 0)) := by
    rcases h2 with h2 | h2
    · rw [pa_rd h2 (Or.inr rfl) hk (by omega), h3 k hk]
    · rw [pa_rd h2 (Or.inl rfl) hk (by omega), h3 k hk]
  simp (disch := omega) only [f_J0_charAt_5068e, f_J0_isLatin1_aae02, f_J1_charAt_3b067, f_J0_checkIndex_df160, f_J3_checkIndex_8e157, po_is h1, show ¬ (1 : Int32) = 0 by decide, if_false, show zgI hp r 20 1 = some 0 from po_I h1 rfl, if_true, show zgR hp r 20 0 = some v from po_R h1 rfl, e, pn_negF, pn_lt, hk, e2, z255_n (b.2 k hk), zrc_n (b.2 k hk), Option.bind_some]
/-- the token is this word -/
def mt (β : Nat → Nat) (s e : Nat) (w : List Nat) : Bool := decide (e - s = w.length) && !zany (fun j => !decide (β (s + j) = w.getD j 0)) w.length
theorem o32 : (Int32.ofNat 32 = 32) = True := eq_true rfl
theorem subN {m n : Nat} (h : n ≤ m) : Int32.ofNat m - Int32.ofNat n = Int32.ofNat (m - n) := (Int32.ofNat_sub _ _ h).symm
theorem c_spells (W : wIn hp a I Bt) (b : inBy Bt β L) (t : inT I β L i) (hi : i ≤ L) (X : wTx hp r w) (bw : l128 w) : f_X3_spells a r hp = some (zb (decide (tK β L i = 1) && mt β (tS β L i) (tE β L i) w)) := by
  obtain ⟨t2, t3, t4, t5⟩ := t
  have b1 := b.1
  have hk := tK_le β L i
  have hs := tS_in (β := β) hi
  have he := tE_in (β := β) hi
  have hw := bw.1
  have n1 : (Int32.ofNat (tK β L i) = 1) = (tK β L i = 1) := pn_inj (n := 1) (by omega) (by decide)
  simp only [f_X3_spells, in_is W, in_I W (k := 3) (by decide) (by decide), t3, n1, Option.bind_some]
  by_cases k1 : tK β L i = 1
  · rw [if_pos k1, decide_eq_true k1, Bool.true_and]
    simp only [in_I W (k := 5) (by decide) (by decide), t5, in_I W (k := 4) (by decide) (by decide), t4, tx_len X bw, subN he.1, Option.bind_some]
    have n2 : (Int32.ofNat (tE β L i - tS β L i) = Int32.ofNat w.length) = (tE β L i - tS β L i = w.length) := pn_inj (by omega) (by omega)
    unfold mt
    by_cases c : tE β L i - tS β L i = w.length
    · rw [if_pos (by rw [n2]; exact c), decide_eq_true c, Bool.true_and]
      refine (zFC (n := w.length) (fun j => !decide (β (tS β L i + j) = w.getD j 0)) (some 0) (some 1) (by omega) (fun m j hj => ?_) (fun m => ?_)).trans (ite_some_zb' _)
      · obtain ⟨b2, b3⟩ := b.2 (tS β L i + j) (by omega)
        have hsm := sml_in (tW hi k1 (show tS β L i ≤ tS β L i + j by omega) (by omega))
        have hw2 := bw.2 j hj
        have n3 : (Int32.ofNat (β (tS β L i + j)) = Int32.ofNat (w.getD j 0)) = (β (tS β L i + j) = w.getD j 0) := pn_inj (by omega) (by omega)
        simp (disch := omega) only [l_X3_spells_28_s, b_X3_spells_28, tx_len X bw, pn_lt, hj, if_true, in_by W, in_I W (k := 4) (by decide) (by decide), t4, ixa, in_rd W (show tS β L i + j < 900 by omega), b2, sxn_lo (show β (tS β L i + j) < 128 by omega), tx_at X bw hj, n3, Option.bind_some, zlet, pn_succ]
        by_cases e : β (tS β L i + j) = w.getD j 0
        · rw [if_pos e, decide_eq_true e]; rfl
        · rw [if_neg e, decide_eq_false e]; rfl
      · simp only [l_X3_spells_28_s, b_X3_spells_28, tx_len X bw, Int32.lt_irrefl, if_false, Option.bind_some]
    · rw [if_neg (by rw [n2]; exact c), decide_eq_false c, Bool.false_and]; rfl
  · rw [if_neg k1, decide_eq_false k1, Bool.false_and]; rfl
/-! the reference's words of a row -/
def wPa : List Nat := [112, 97, 114, 116, 121]
def wRe : List Nat := [114, 101, 103, 105, 111, 110]
def wI : List Nat := [105, 110]
def wWa : List Nat := [119, 97, 114, 100]
def wBo : List Nat := [98, 111, 120]
def wTa : List Nat := [116, 97, 98, 108, 101]
def wSe : List Nat := [115, 101, 116]
def wTr : List Nat := [116, 114, 105, 103, 103, 101, 114]
def wTo : List Nat := [116, 111, 108, 101, 114, 97, 110, 99, 101]
def wKept : List Nat := wPa ++ [32] ++ wRe ++ [32] ++ wI ++ [32] ++ wWa ++ [32] ++ wBo ++ [32] ++ wTa ++ [32] ++ wSe ++ [32]
def wSets : List Nat := wTr ++ [32] ++ wTo ++ [32]
theorem l128_of {l : List Nat} (h1 : l.length < 1000) (h2 : ∀ k, k < l.length → l.getD k 0 < 128) : l128 l := ⟨h1, h2⟩
theorem b_Pa : l128 wPa := l128_of (by decide) (by decide)
theorem b_Re : l128 wRe := l128_of (by decide) (by decide)
theorem b_I : l128 wI := l128_of (by decide) (by decide)
theorem b_Wa : l128 wWa := l128_of (by decide) (by decide)
theorem b_Bo : l128 wBo := l128_of (by decide) (by decide)
theorem b_Ta : l128 wTa := l128_of (by decide) (by decide)
theorem b_Se : l128 wSe := l128_of (by decide) (by decide)
theorem b_Tr : l128 wTr := l128_of (by decide) (by decide)
theorem b_To : l128 wTo := l128_of (by decide) (by decide)
theorem b_Kept : l128 wKept := l128_of (by decide +kernel) (by decide +kernel)
theorem b_Sets : l128 wSets := l128_of (by decide +kernel) (by decide +kernel)
/-- which word stands here, of the kept ones: -1 none -/
def sWd (β : Nat → Nat) (L i : Nat) : Int32 := if tK β L i = 1 then (if mt β (tS β L i) (tE β L i) wPa = true then 0 else if mt β (tS β L i) (tE β L i) wRe = true then 1 else if mt β (tS β L i) (tE β L i) wI = true then 2 else if mt β (tS β L i) (tE β L i) wWa = true then 3 else if mt β (tS β L i) (tE β L i) wBo = true then 4 else if mt β (tS β L i) (tE β L i) wTa = true then 5 else if mt β (tS β L i) (tE β L i) wSe = true then 6 else -1) else -1
def sWs2 (β : Nat → Nat) (L i : Nat) : Int32 := if tK β L i = 1 then (if mt β (tS β L i) (tE β L i) wTr = true then 0 else if mt β (tS β L i) (tE β L i) wTo = true then 1 else -1) else -1
theorem rT_0 {k : Nat} (h : k ≤ 4) : (rT k = 0) = (k = 1) := by
  rcases (show k = 0 ∨ k = 1 ∨ k = 2 ∨ k = 3 ∨ k = 4 by omega) with rfl | rfl | rfl | rfl | rfl <;> decide
/-! names -/
def isNm (β : Nat → Nat) (L i : Nat) : Bool := decide (tK β L i = 1) && (decide (tE β L i - tS β L i ≤ 6) && decide (sWd β L i = -1))
theorem c_isName {ro : Nat → Nat} (W : wIn hp a I Bt) (b : inBy Bt β L) (t : inT I β L i) (hi : i ≤ L) (X1 : wTx hp (ro 1) wPa) (X2 : wTx hp (ro 2) wRe) (X3 : wTx hp (ro 3) wWa) (X4 : wTx hp (ro 4) wBo) (X5 : wTx hp (ro 5) wTa) (X6 : wTx hp (ro 6) wI) (X7 : wTx hp (ro 7) wSe) : f_X3_isName ro a hp = some (zb (isNm β L i)) := by
  have hk := tK_le β L i
  have hs := tS_in (β := β) hi
  have he := tE_in (β := β) hi
  have b1 := b.1
  have n1 : (Int32.ofNat (tK β L i) = 1) = (tK β L i = 1) := pn_inj (n := 1) (by omega) (by decide)
  have n6 : ((6 : Int32) < Int32.ofNat (tE β L i - tS β L i)) = (6 < tE β L i - tS β L i) := pn_lt (i := 6) (by decide) (by omega)
  simp only [f_X3_isName, in_is W, in_I W (k := 3) (by decide) (by decide), in_I W (k := 4) (by decide) (by decide), in_I W (k := 5) (by decide) (by decide), t.2.1, t.2.2.1, t.2.2.2, n1, subN he.1, n6, c_spells W b t hi X1 b_Pa, c_spells W b t hi X2 b_Re, c_spells W b t hi X3 b_Wa, c_spells W b t hi X4 b_Bo, c_spells W b t hi X5 b_Ta, j_X3_isName_74, c_spells W b t hi X6 b_I, c_spells W b t hi X7 b_Se, zb_0, Option.bind_some]
  unfold isNm
  by_cases k1 : tK β L i = 1
  · rw [if_pos k1]
    unfold sWd
    rw [if_pos k1, decide_eq_true k1]
    simp only [Bool.true_and]
    by_cases c6 : 6 < tE β L i - tS β L i
    · rw [if_pos c6, decide_eq_false (show ¬ tE β L i - tS β L i ≤ 6 by omega)]; rfl
    · rw [if_neg c6, decide_eq_true (show tE β L i - tS β L i ≤ 6 by omega)]
      cases mt β (tS β L i) (tE β L i) wPa <;> cases mt β (tS β L i) (tE β L i) wRe <;> cases mt β (tS β L i) (tE β L i) wI <;> cases mt β (tS β L i) (tE β L i) wWa <;> cases mt β (tS β L i) (tE β L i) wBo <;> cases mt β (tS β L i) (tE β L i) wTa <;> cases mt β (tS β L i) (tE β L i) wSe <;> rfl
  · rw [if_neg k1, decide_eq_false k1]; rfl
/-- a name, packed, letter by letter -/
def pkI (β : Nat → Nat) (s e : Nat) : Nat → Int32
  | 0 => 0
  | k + 1 => (pkI β s e k <<< ((5 : Int32) &&& 31)) ||| (if s + k < e then Int32.ofNat (β (s + k)) - 97 + 1 else 0)
def sPk (β : Nat → Nat) (L i : Nat) : Int32 := pkI β (tS β L i) (tE β L i) 6
theorem shl5 {n g : Nat} (hn : n < 33554432) (hg : g < 32) : (Int32.ofNat n <<< ((5 : Int32) &&& 31)) ||| Int32.ofNat g = Int32.ofNat (n * 32 + g) := by
  rw [show (5 : Int32) &&& 31 = 5 by decide, ← Int32.toBitVec_inj, Int32.toBitVec_or, Int32.toBitVec_shiftLeft]
  refine BitVec.eq_of_toNat_eq ?_
  rw [BitVec.toNat_or]
  have e5 : ((5 : Int32).toBitVec.smod 32) = 5#32 := by decide
  rw [e5]
  show (BitVec.ofNat 32 n <<< 5#32).toNat ||| (BitVec.ofNat 32 g).toNat = (BitVec.ofNat 32 (n * 32 + g)).toNat
  rw [BitVec.shiftLeft_eq', BitVec.toNat_shiftLeft]
  simp only [BitVec.toNat_ofNat]
  rw [Nat.mod_eq_of_lt (show n < 2 ^ 32 by omega), Nat.mod_eq_of_lt (show g < 2 ^ 32 by omega), Nat.mod_eq_of_lt (show n * 32 + g < 2 ^ 32 by omega)]
  show (n <<< 5) % 2 ^ 32 ||| g = _
  rw [Nat.shiftLeft_eq, Nat.mod_eq_of_lt (show n * 2 ^ 5 < 2 ^ 32 by omega)]
  have := Nat.shiftLeft_add_eq_or_of_lt (b := g) (i := 5) (by omega) n
  rw [Nat.shiftLeft_eq] at this
  rw [← this]
theorem pkI_nat {s e : Nat} (h : ∀ j, s ≤ j → j < e → sml (β j) = true) : ∀ k, k ≤ 6 → ∃ n, n < 32 ^ k ∧ pkI β s e k = Int32.ofNat n
  | 0, _ => ⟨0, by decide, rfl⟩
  | k + 1, hk => by
    obtain ⟨n, h1, h2⟩ := pkI_nat h k (by omega)
    have hn : n < 33554432 := Nat.lt_of_lt_of_le h1 (by
      have : 32 ^ k ≤ 32 ^ 5 := Nat.pow_le_pow_right (by decide) (by omega)
      exact this)
    obtain ⟨g, g1, g2⟩ : ∃ g, g < 32 ∧ (if s + k < e then Int32.ofNat (β (s + k)) - 97 + 1 else 0) = Int32.ofNat g := by
      by_cases q : s + k < e
      · have hs := sml_in (h (s + k) (by omega) q)
        refine ⟨β (s + k) - 97 + 1, by omega, ?_⟩
        rw [if_pos q, show (97 : Int32) = Int32.ofNat 97 from rfl, ← Int32.ofNat_sub _ _ (by omega), pn_succ]
      · exact ⟨0, by decide, by rw [if_neg q]; rfl⟩
    refine ⟨n * 32 + g, ?_, ?_⟩
    · rw [Nat.pow_succ]
      omega
    · show (pkI β s e k <<< ((5 : Int32) &&& 31)) ||| (if s + k < e then Int32.ofNat (β (s + k)) - 97 + 1 else 0) = _
      rw [g2, h2, shl5 hn g1]
theorem sPk_nat (hi : i ≤ L) (k1 : tK β L i = 1) : ∃ n, n < 1073741824 ∧ sPk β L i = Int32.ofNat n := by
  obtain ⟨n, h1, h2⟩ := pkI_nat (β := β) (s := tS β L i) (e := tE β L i) (fun j h1 h2 => tW hi k1 h1 h2) 6 (by decide)
  exact ⟨n, h1, h2⟩
theorem c_packed (W : wIn hp a I Bt) (b : inBy Bt β L) (t : inT I β L i) (hi : i ≤ L) (k1 : tK β L i = 1) : f_X3_packed a hp = some (sPk β L i) := by
  have b1 := b.1
  have he := tE_in (β := β) hi
  simp only [f_X3_packed, in_is W, Option.bind_some]
  refine zFA (n := 6) (pkI β (tS β L i) (tE β L i)) _ (by decide) (fun m j hj => ?_) (fun m => ?_)
  · have l6 : Int32.ofNat j < 6 := by rw [show (6 : Int32) = Int32.ofNat 6 from rfl, pn_lt (by omega) (by decide)]; exact hj
    simp (disch := omega) only [l_X3_packed_4_s, b_X3_packed_4, l6, if_true, in_I W (k := 4) (by decide) (by decide), in_I W (k := 5) (by decide) (by decide), t.2.2.1, t.2.2.2, ixa, pn_lt, j_X3_packed_43, zlet, pn_succ, pkI, Option.bind_some]
    by_cases q : tS β L i + j < tE β L i
    · obtain ⟨b2, b3⟩ := b.2 (tS β L i + j) (by omega)
      have hsm := sml_in (tW hi k1 (show tS β L i ≤ tS β L i + j by omega) q)
      simp only [q, if_true, in_by W, in_rd W (show tS β L i + j < 900 by omega), b2, sxn_lo (show β (tS β L i + j) < 128 by omega), Option.bind_some]
    · simp only [q, if_false]
  · simp only [l_X3_packed_4_s, b_X3_packed_4, show ¬ Int32.ofNat 6 < 6 by decide, if_false]
    rfl
/-! numbers -/
def cvl (β : Nat → Nat) (s : Nat) : Nat → Nat
  | 0 => 0
  | k + 1 => min (cvl β s k * 10 + β (s + k) - 48) 99999
theorem cvl_le (s : Nat) : ∀ k, cvl β s k ≤ 99999
  | 0 => by show (0 : Nat) ≤ _; omega
  | k + 1 => Nat.min_le_right _ _
theorem cvl_rvl {s : Nat} : ∀ k, (∀ j, j < k → dig (β (s + j)) = true) → (cvl β s k = rvl β s k ∧ cvl β s k < 99999) ∨ (cvl β s k = 99999 ∧ 99999 ≤ rvl β s k)
  | 0, _ => Or.inl ⟨rfl, by show (0 : Nat) < _; omega⟩
  | k + 1, h => by
    have ih := cvl_rvl k (fun j hj => h j (by omega))
    have hd := dig_in (h k (by omega))
    show (min (cvl β s k * 10 + β (s + k) - 48) 99999 = (if 100000 < rvl β s k then rvl β s k else 10 * rvl β s k + β (s + k) - 48) ∧ min (cvl β s k * 10 + β (s + k) - 48) 99999 < 99999) ∨ (min (cvl β s k * 10 + β (s + k) - 48) 99999 = 99999 ∧ 99999 ≤ (if 100000 < rvl β s k then rvl β s k else 10 * rvl β s k + β (s + k) - 48))
    rcases ih with ⟨h1, h2⟩ | ⟨h1, h2⟩
    · rw [← h1, if_neg (by omega)]
      omega
    · rw [h1]
      split <;> omega
def sCv (β : Nat → Nat) (L i : Nat) : Nat := cvl β (tS β L i) (tE β L i - tS β L i)
theorem c_value (W : wIn hp a I Bt) (b : inBy Bt β L) (t : inT I β L i) (hi : i ≤ L) (k2 : tK β L i = 2) : f_X3_value a hp = some (Int32.ofNat (sCv β L i)) := by
  have b1 := b.1
  have he := tE_in (β := β) hi
  simp only [f_X3_value, in_is W, in_I W (k := 4) (by decide) (by decide), t.2.2.1, Option.bind_some]
  have H : ∀ d k m, k + d = tE β L i - tS β L i → d < m → l_X3_value_7 (fun p7 => some p7) a hp m (Int32.ofNat (cvl β (tS β L i) k)) (Int32.ofNat (tS β L i + k)) = some (Int32.ofNat (sCv β L i)) := by
    intro d
    induction d with
    | zero =>
      intro k m hk hm
      obtain ⟨m, rfl⟩ : ∃ q, m = q + 1 := ⟨m - 1, by omega⟩
      have ek : k = tE β L i - tS β L i := by omega
      subst ek
      simp (disch := omega) only [l_X3_value_7_s, b_X3_value_7, in_I W (k := 5) (by decide) (by decide), t.2.2.2, pn_lt, show ¬ tS β L i + (tE β L i - tS β L i) < tE β L i by omega, if_false, Option.bind_some]
      rfl
    | succ d ih =>
      intro k m hk hm
      obtain ⟨m, rfl⟩ : ∃ q, m = q + 1 := ⟨m - 1, by omega⟩
      obtain ⟨b2, b3⟩ := b.2 (tS β L i + k) (by omega)
      have hd := dig_in (tD hi k2 (show tS β L i ≤ tS β L i + k by omega) (by omega))
      have hc := cvl_le (β := β) (tS β L i) k
      have ev : zmin (Int32.ofNat (cvl β (tS β L i) k) * 10 + Int32.ofNat (β (tS β L i + k)) - 48) 99999 = Int32.ofNat (cvl β (tS β L i) (k + 1)) := by
        show _ = Int32.ofNat (min (cvl β (tS β L i) k * 10 + β (tS β L i + k) - 48) 99999)
        rw [show (10 : Int32) = Int32.ofNat 10 from rfl, ← Int32.ofNat_mul, ixa, show (48 : Int32) = Int32.ofNat 48 from rfl, ← Int32.ofNat_sub _ _ (by omega), show (99999 : Int32) = Int32.ofNat 99999 from rfl]
        unfold zmin
        simp (disch := omega) only [pn_lt]
        by_cases q : 99999 < cvl β (tS β L i) k * 10 + β (tS β L i + k) - 48
        · rw [if_pos q, Nat.min_eq_right (by omega)]
        · rw [if_neg q, Nat.min_eq_left (by omega)]
      simp (disch := omega) only [l_X3_value_7_s, b_X3_value_7, in_I W (k := 5) (by decide) (by decide), t.2.2.2, pn_lt, show tS β L i + k < tE β L i by omega, if_true, in_by W, in_rd W (show tS β L i + k < 900 by omega), b2, sxn_lo (show β (tS β L i + k) < 128 by omega), ev, Option.bind_some, zlet, pn_succ]
      exact ih (k + 1) m (by omega) (by omega)
  have := H (tE β L i - tS β L i) 0 1000000 (by omega) (by omega)
  exact this
end P51

