/-! PURE: the language, as a reader of both: states (T, N, settings given, place of the token); an error: code and place -/
section P52
abbrev PSt : Type := (Nat → Int32) × (Nat → Int32) × Int32 × Nat
abbrev PR : Type := (Int32 × Nat) ⊕ (Int32 × PSt)
def pb (r : PR) (k : Int32 → PSt → PR) : PR := match r with
  | .inl e => .inl e
  | .inr (v, st) => k v st
def adv (β : Nat → Nat) (L : Nat) (st : PSt) : PSt := (st.1, st.2.1, st.2.2.1, tE β L st.2.2.2)
def pInt (β : Nat → Nat) (L lo hi : Nat) (st : PSt) : PR := if tK β L st.2.2.2 = 2 then (if sCv β L st.2.2.2 < lo then .inl (-12, st.2.2.2) else if hi < sCv β L st.2.2.2 then .inl (-12, st.2.2.2) else .inr (Int32.ofNat (sCv β L st.2.2.2), adv β L st)) else .inl (-11, st.2.2.2)
def fnd (T : Nat → Int32) (s : Nat) (nm : Int32) : Option Nat := zff (fun k => decide (T (zno s + k) = nm)) (sN T s) 0
def put (st : PSt) (k : Nat) (v : Int32) : PSt := (upd st.1 k v, st.2)
/-- a new name of a sort -/
def pNew (β : Nat → Nat) (L s : Nat) (st : PSt) : PR := if isNm β L st.2.2.2 = true then (if (fnd st.1 s (sPk β L st.2.2.2)).isSome = true then .inl (-14, st.2.2.2) else .inr (sPk β L st.2.2.2, adv β L (put st (zno s + sN st.1 s) (sPk β L st.2.2.2)))) else .inl (-11, st.2.2.2)
/-- a known thing of a sort -/
def pThing (β : Nat → Nat) (L s : Nat) (st : PSt) : PR := if isNm β L st.2.2.2 = true then (match fnd st.1 s (sPk β L st.2.2.2) with
  | none => .inl (-13, st.2.2.2)
  | some k => .inr (Int32.ofNat k, adv β L st)) else .inl (-11, st.2.2.2)
/-- the count of a sort, then its first word -/
def pBegin (β : Nat → Nat) (L s most : Nat) (st : PSt) : PR := if sN st.1 s < most then .inr (0, adv β L st) else .inl (-15, st.2.2.2)
def pHead (β : Nat → Nat) (L s most : Nat) (st : PSt) : PR := pb (pBegin β L s most st) (fun _ st => pNew β L s st)
def incr (s : Nat) (st : PSt) : PSt := put st s (Int32.ofNat (sN st.1 s + 1))
def pParty (β : Nat → Nat) (L : Nat) (st : PSt) : PR := if 0 < sN st.1 3 then .inl (-11, st.2.2.2) else pHead β L 0 5 st
def pRegion (β : Nat → Nat) (L : Nat) (st : PSt) : PR := pb (pHead β L 1 5 st) (fun _ st => if sWd β L st.2.2.2 = 2 then pb (pThing β L 1 (adv β L st)) (fun k st => .inr (0, put st (33 + sN st.1 1) k)) else .inr (0, put st (33 + sN st.1 1) (-1)))
def pWard (β : Nat → Nat) (L : Nat) (st : PSt) : PR := pb (pHead β L 2 6 st) (fun _ st => pb (pThing β L 1 st) (fun k st => .inr (0, put st (38 + sN st.1 2) k)))
/-- papers of box b, from pile p on, d of them -/
def pPap (β : Nat → Nat) (L b : Nat) : Nat → Nat → PSt → PR
  | 0, _, st => .inr (0, st)
  | d + 1, p, st => pb (pInt β L 0 300 st) (fun v st => pPap β L b d (p + 1) (put st (68 + 6 * b + p) v))
def putN (st : PSt) (N : Nat → Int32) : PSt := (st.1, N, st.2.2)
/-- a new box's row -/
def nNew (N : Nat → Int32) (b : Nat) (v : Int32) : Nat → Int32 := nB N b (upd (upd (upd (upd (sF N b) 0 (-3)) 1 v) 2 1) 4 v)
def pBox (β : Nat → Nat) (L : Nat) (st : PSt) : PR := pb (pHead β L 3 12 st) (fun _ st => pb (pThing β L 2 st) (fun w st => pb (pInt β L 0 999 st) (fun y st => pb (pInt β L 1 9999 st) (fun z st => pb (pPap β L (sN st.1 3) (sPi st.1) 0 st) (fun _ st => .inr (0, putN (put (put st (44 + sN st.1 3) w) (56 + sN st.1 3) y) (nNew st.2.1 (sN st.1 3) z)))))))
def pTable (β : Nat → Nat) (L : Nat) (st : PSt) : PR := pb (pBegin β L 4 4 st) (fun _ st => pb (pInt β L 0 99 st) (fun v st => .inr (0, put st (140 + sN st.1 4) v)))
def gBit (sg : Int32) (k : Nat) : Bool := decide ((sg >>> (Int32.ofNat k &&& 31)) &&& 1 = 1)
def gSet (sg : Int32) (k : Nat) : Int32 := sg ||| ((1 : Int32) <<< (Int32.ofNat k &&& 31))
def pSetK (β : Nat → Nat) (L k : Nat) (st : PSt) : PR := if gBit st.2.2.1 k = true then .inl (-14, st.2.2.2) else pb (pInt β L 0 (if k = 0 then 50 else 9) (adv β L st)) (fun v st => .inr (0, (st.1, upd st.2.1 k v, gSet st.2.2.1 k, st.2.2.2)))
def pSet (β : Nat → Nat) (L : Nat) (st : PSt) : PR := if sWs2 β L (tE β L st.2.2.2) = -1 then .inl (-11, tE β L st.2.2.2) else pSetK β L (if sWs2 β L (tE β L st.2.2.2) = 0 then 0 else 1) (adv β L st)
def pSemi (β : Nat → Nat) (L : Nat) (st : PSt) : PR := if tK β L st.2.2.2 = 3 then .inr (0, adv β L st) else .inl (-11, st.2.2.2)
/-- what a statement declares: the sort, 5 none -/
def pDecl (β : Nat → Nat) (L : Nat) (st : PSt) : PR := if sWd β L st.2.2.2 = 0 then pb (pParty β L st) (fun _ st => .inr (0, incr 0 st)) else if sWd β L st.2.2.2 = 1 then pb (pRegion β L st) (fun _ st => .inr (0, incr 1 st)) else if sWd β L st.2.2.2 = 3 then pb (pWard β L st) (fun _ st => .inr (0, incr 2 st)) else if sWd β L st.2.2.2 = 4 then pb (pBox β L st) (fun _ st => .inr (0, incr 3 st)) else if sWd β L st.2.2.2 = 5 then pb (pTable β L st) (fun _ st => .inr (0, incr 4 st)) else if sWd β L st.2.2.2 = 6 then pSet β L st else .inl (-11, st.2.2.2)
def pStm (β : Nat → Nat) (L : Nat) (st : PSt) : PR := pb (pDecl β L st) (fun _ st => pSemi β L st)
/-! what always holds of a plan that is read -/
def sP (T : Nat → Int32) : Prop := (∀ s, s < 5 → T s = Int32.ofNat (sN T s)) ∧ (sN T 0 ≤ 5 ∧ sN T 1 ≤ 5 ∧ sN T 2 ≤ 6 ∧ sN T 3 ≤ 12 ∧ sN T 4 ≤ 4) ∧
  (∀ r, r < sN T 1 → T (33 + r) = -1 ∨ ∃ q, q < r ∧ T (33 + r) = Int32.ofNat q) ∧ (∀ w, w < sN T 2 → ∃ r, r < sN T 1 ∧ T (38 + w) = Int32.ofNat r) ∧ (∀ b, b < sN T 3 → ∃ w, w < sN T 2 ∧ T (44 + b) = Int32.ofNat w) ∧
  (∀ t, t < sN T 4 → ∃ q, q ≤ 99 ∧ T (140 + t) = Int32.ofNat q) ∧ (∀ b p, b < sN T 3 → p < sPi T → ∃ q, q ≤ 300 ∧ sPap T b p = Int32.ofNat q)
/-- a state of new boxes -/
def nFr : Nat → Int32 := fun k => if k % 44 = 12 then 1 else 0
theorem nFr_row (b w : Nat) (hw : w < 44) : sF nFr b w = if w = 2 then 1 else 0 := by
  unfold sF nFr
  by_cases q : w = 2
  · subst q; rw [if_pos (by omega), if_pos rfl]
  · rw [if_neg (by omega), if_neg q]
theorem sP_I {T : Nat → Int32} (P : sP T) : sI T nFr := by
  refine ⟨P.1, P.2.1, fun b hb => ?_, ⟨by decide, by decide, fun k hk => ?_, fun i j h1 h2 => ?_⟩, P.2.2⟩
  · have hc : sC nFr b = 0 := by unfold sC; rw [nFr_row b 3 (by decide)]; rfl
    have he : sE nFr b = 1 := by unfold sE; rw [nFr_row b 2 (by decide)]; rfl
    rw [hc, he]
    exact ⟨⟨by rw [nFr_row b 3 (by decide)]; rfl, by decide⟩, ⟨by rw [nFr_row b 2 (by decide)]; rfl, by decide, by decide⟩, fun c p h => absurd h (Nat.not_lt_zero c)⟩
  · have hD : sD nFr = 0 := by decide
    rw [hD] at hk; exact absurd hk (Nat.not_lt_zero k)
  · have hD : sD nFr = 0 := by decide
    rw [hD] at h2; exact absurd h2 (Nat.not_lt_zero j)
theorem sP_bd {T : Nat → Int32} (P : sP T) : sN T 0 ≤ 5 ∧ sN T 1 ≤ 5 ∧ sN T 2 ≤ 6 ∧ sN T 3 ≤ 12 ∧ sN T 4 ≤ 4 ∧ sPi T = sN T 0 + 1 := sI_bd (sP_I P)
/-! the class's loader -/
/-- the texts of the pools, below c -/
def wTxc (hp : zHp) (c r : Nat) (l : List Nat) : Prop := r < c ∧ ∃ (v : Nat) (f : Nat → Int32), v < c ∧ hp r = some (.inr (20, [.ref v, .int 0])) ∧ hp v = some (.inl (11, l.length, .inl f)) ∧ ∀ k, k < l.length → f k = Int32.ofNat (l.getD k 0)
theorem txc {hp : zHp} {c r : Nat} {l : List Nat} (X : wTxc hp c r l) : wTx hp r l := by
  obtain ⟨-, v, f, -, h1, h2, h3⟩ := X
  exact ⟨v, f, h1, Or.inl h2, h3⟩
theorem txc_fr {hp h : zHp} {c r : Nat} {l : List Nat} (X : wTxc hp c r l) (f : ∀ a, a < c → h a = hp a) : wTxc h c r l := by
  obtain ⟨h0, v, g, hv, h1, h2, h3⟩ := X
  exact ⟨h0, v, g, hv, by rw [f r h0]; exact h1, by rw [f v hv]; exact h2, h3⟩
def wEx : List Nat := [32, 33]
def lwS (i : Nat) : List Nat := match i with
  | 0 => [115, 101, 116, 32, 116, 114, 105, 103, 103, 101, 114, 32]
  | 1 => [59, 115, 101, 116, 32, 116, 111, 108, 101, 114, 97, 110, 99, 101, 32]
  | 2 => [59]
  | 3 => [112, 97, 114, 116, 121, 32]
  | 4 => []
  | 5 => [114, 101, 103, 105, 111, 110, 32]
  | 6 => [32, 105, 110, 32]
  | 7 => [119, 97, 114, 100, 32]
  | 8 => [32]
  | 9 => [98, 111, 120, 32]
  | _ => [116, 97, 98, 108, 101, 32]
def wSts (hp : zHp) (c : Nat) (ro : Nat → Nat) : Prop :=
  (wTxc hp c (ro 0) wPa ∧ wTxc hp c (ro 1) wPa ∧ wTxc hp c (ro 2) wRe ∧ wTxc hp c (ro 3) wWa ∧ wTxc hp c (ro 4) wBo ∧ wTxc hp c (ro 5) wTa ∧ wTxc hp c (ro 6) wI ∧ wTxc hp c (ro 7) wSe) ∧
  (wTxc hp c (ro 8) wRe ∧ wTxc hp c (ro 9) wI ∧ wTxc hp c (ro 10) wWa ∧ wTxc hp c (ro 11) wBo ∧ wTxc hp c (ro 12) wTa ∧ wTxc hp c (ro 13) wSe ∧ wTxc hp c (ro 14) wTr ∧ wTxc hp c (ro 15) wTo) ∧
  ∀ i, i < 11 → wTxc hp c (ro (17 + i)) (lwS i)
theorem sts_fr {hp h : zHp} {c : Nat} {ro : Nat → Nat} (X : wSts hp c ro) (f : ∀ a, a < c → h a = hp a) : wSts h c ro := by
  obtain ⟨⟨a0, a1, a2, a3, a4, a5, a6, a7⟩, ⟨b0, b1, b2, b3, b4, b5, b6, b7⟩, c1⟩ := X
  exact ⟨⟨txc_fr a0 f, txc_fr a1 f, txc_fr a2 f, txc_fr a3 f, txc_fr a4 f, txc_fr a5 f, txc_fr a6 f, txc_fr a7 f⟩, ⟨txc_fr b0 f, txc_fr b1 f, txc_fr b2 f, txc_fr b3 f, txc_fr b4 f, txc_fr b5 f, txc_fr b6 f, txc_fr b7 f⟩, fun i hi => txc_fr (c1 i hi) f⟩
/-- the draft says T, and N's seals and settings -/
def wDr (hp : zHp) (d : Nat) (T N : Nat → Int32) : Prop := ∃ R, wP hp d R ∧ rP T R ∧ (∀ b, b < sN T 3 → R 12 b = sF N b 1) ∧ ∀ k, k < 2 → R 27 k = N k
def LW (hp : zHp) (c d : Nat) (ro : Nat → Nat) (β : Nat → Nat) (L : Nat) (st : PSt) : Prop :=
  (∃ _ee : Int32, wLd hp c d st.2.2.1 (-1)) ∧ (∃ I Bt, wIn hp (c + 2) I Bt ∧ inBy Bt β L ∧ inT I β L st.2.2.2 ∧ I 1 = 0) ∧ st.2.2.2 ≤ L ∧ wDr hp d st.1 st.2.1 ∧ sP st.1 ∧ wSts hp c ro
/-- behind an error at the token of place j -/
def LE (hp : zHp) (c d : Nat) (β : Nat → Nat) (L j : Nat) : Prop := (∃ sg, ∃ _ee : Int32, wLd hp c d sg (-1)) ∧ (∃ I Bt, wIn hp (c + 2) I Bt ∧ I 1 = 0 ∧ I 4 = Int32.ofNat (tS β L j)) ∧ ∃ R, wP hp d R
/-- cells that the loader may write -/
def lfr (w : Bool) (c d : Nat) (hp h : zHp) : Prop := ∀ a, (a < c + 1 ∨ (c + 4 ≤ a ∧ (w = false ∨ a < d ∨ d + 28 ≤ a))) → h a = hp a
theorem lfr_rf {w : Bool} {c d : Nat} {hp : zHp} : lfr w c d hp hp := fun _ _ => rfl
theorem lfr_up {w : Bool} {c d : Nat} {hp h : zHp} (a : lfr false c d hp h) : lfr w c d hp h := fun x hx => a x (by rcases hx with q | ⟨q, -⟩; exact Or.inl q; exact Or.inr ⟨q, Or.inl rfl⟩)
theorem lfr_tr {w : Bool} {c d : Nat} {hp h1 h2 : zHp} (a : lfr w c d hp h1) (b : lfr w c d h1 h2) : lfr w c d hp h2 := fun x hx => (b x hx).trans (a x hx)
def cImp (w : Bool) (c d : Nat) (ro : Nat → Nat) (β : Nat → Nat) (L : Nat) (hp : zHp) (m : Option (Int32 × zHp)) (r : PR) : Prop := match r with
  | .inl (e, j) => ∃ h, m = some (e, h) ∧ e < 0 ∧ LE h c d β L j ∧ lfr w c d hp h
  | .inr (v, st) => ∃ h, m = some (v, h) ∧ ¬ v < 0 ∧ LW h c d ro β L st ∧ lfr w c d hp h
variable {w : Bool} {hp h hp' : zHp} {x a c d L i : Nat} {ro : Nat → Nat} {β : Nat → Nat} {st : PSt}
theorem LW_E (W : LW hp c d ro β L st) : LE hp c d β L st.2.2.2 := by
  obtain ⟨⟨ee, w1⟩, ⟨I, Bt, w2, w3, w4, w5⟩, w6, ⟨R, w7, -⟩, -⟩ := W
  exact ⟨⟨_, ee, w1⟩, ⟨I, Bt, w2, w5, w4.2.2.1⟩, ⟨R, w7⟩⟩
theorem cImp_err {e : Int32} (W : LW hp c d ro β L st) (he : e < 0) {m : Option (Int32 × zHp)} (hm : m = some (e, hp)) : cImp w c d ro β L hp m (.inl (e, st.2.2.2)) := ⟨hp, hm, he, LW_E W, lfr_rf⟩
theorem cImp_fr {hp0 : zHp} {m : Option (Int32 × zHp)} {r : PR} (f : lfr w c d hp0 hp) (X : cImp w c d ro β L hp m r) : cImp w c d ro β L hp0 m r := by
  rcases r with ⟨e, j⟩ | ⟨v, st⟩
  · obtain ⟨h, h1, h2, h3, h4⟩ := X
    exact ⟨h, h1, h2, h3, lfr_tr f h4⟩
  · obtain ⟨h, h1, h2, h3, h4⟩ := X
    exact ⟨h, h1, h2, h3, lfr_tr f h4⟩
theorem cImp_b {m : Option (Int32 × zHp)} {r : PR} {k : Int32 → PSt → PR} {kk : Int32 → zHp → Option (Int32 × zHp)} (X : cImp w c d ro β L hp m r) (Y : ∀ v st h, r = .inr (v, st) → ¬ v < 0 → LW h c d ro β L st → lfr w c d hp h → cImp w c d ro β L h (kk v h) (k v st)) : cImp w c d ro β L hp (zb2 m (fun v h => if v < 0 then some (v, h) else kk v h)) (pb r k) := by
  rcases r with ⟨e, j⟩ | ⟨v, st⟩
  · obtain ⟨h, h1, h2, h3, h4⟩ := X
    refine ⟨h, ?_, h2, h3, h4⟩
    rw [h1, zb2_some, if_pos h2]
  · obtain ⟨h, h1, h2, h3, h4⟩ := X
    have := cImp_fr h4 (Y v st h rfl h2 h3 h4)
    rw [h1, zb2_some, if_neg h2]
    exact this
theorem cImp_up {m : Option (Int32 × zHp)} {r : PR} (X : cImp false c d ro β L hp m r) : cImp w c d ro β L hp m r := by
  rcases r with ⟨e, j⟩ | ⟨v, st⟩
  · obtain ⟨h, h1, h2, h3, h4⟩ := X
    exact ⟨h, h1, h2, h3, lfr_up h4⟩
  · obtain ⟨h, h1, h2, h3, h4⟩ := X
    exact ⟨h, h1, h2, h3, lfr_up h4⟩
/-- the last of a chain, its answer handed on -/
theorem zb2_id (m : Option (Int32 × zHp)) : zb2 m (fun v h => some (v, h)) = m := by
  unfold zb2
  cases m <;> rfl
theorem ld_is {sg ee : Int32} (h : wLd hp c d sg ee) : zis hp (c + 1) 4 = some () := po_is h
theorem ld_in {sg ee : Int32} (h : wLd hp c d sg ee) : zgR hp (c + 1) 4 0 = some (c + 2) := po_R h rfl
theorem ld_dr {sg ee : Int32} (h : wLd hp c d sg ee) : zgR hp (c + 1) 4 1 = some d := po_R h rfl
theorem LW_is (W : LW hp c d ro β L st) : zis hp (c + 1) 4 = some () := let ⟨⟨_, w⟩, _⟩ := W; ld_is w
theorem LW_in (W : LW hp c d ro β L st) : zgR hp (c + 1) 4 0 = some (c + 2) := let ⟨⟨_, w⟩, _⟩ := W; ld_in w
theorem LW_dr (W : LW hp c d ro β L st) : zgR hp (c + 1) 4 1 = some d := let ⟨⟨_, w⟩, _⟩ := W; ld_dr w
theorem LW_sg (W : LW hp c d ro β L st) : zgI hp (c + 1) 4 2 = some st.2.2.1 := let ⟨⟨_, w⟩, _⟩ := W; po_I w rfl
theorem LW_pl (W : LW hp c d ro β L st) : wPl hp d st.1 := let ⟨_, _, _, ⟨R, h1, h2, _⟩, _⟩ := W; ⟨R, h1, h2⟩
theorem LW_P (W : LW hp c d ro β L st) : sP st.1 := W.2.2.2.2.1
theorem LW_st (W : LW hp c d ro β L st) : wSts hp c ro := W.2.2.2.2.2
theorem LW_kind (W : LW hp c d ro β L st) : zgI hp (c + 2) 3 3 = some (Int32.ofNat (tK β L st.2.2.2)) := by
  obtain ⟨-, ⟨I, Bt, w2, w3, w4, w5⟩, -⟩ := W
  exact (in_I w2 (by decide) (by decide)).trans (congrArg some w4.2.1)
theorem LW_spells (W : LW hp c d ro β L st) {r : Nat} {w : List Nat} (X : wTxc hp c r w) (bw : l128 w) : f_X3_spells (c + 2) r hp = some (zb (decide (tK β L st.2.2.2 = 1) && mt β (tS β L st.2.2.2) (tE β L st.2.2.2) w)) := by
  obtain ⟨-, ⟨I, Bt, w2, w3, w4, w5⟩, w6, -⟩ := W
  exact c_spells w2 w3 w4 w6 (txc X) bw
theorem LW_isName (W : LW hp c d ro β L st) : f_X3_isName ro (c + 2) hp = some (zb (isNm β L st.2.2.2)) := by
  obtain ⟨-, ⟨I, Bt, w2, w3, w4, w5⟩, w6, -, -, ⟨a0, a1, a2, a3, a4, a5, a6, a7⟩, -⟩ := W
  exact c_isName w2 w3 w4 w6 (txc a1) (txc a2) (txc a3) (txc a4) (txc a5) (txc a6) (txc a7)
theorem isNm_1 {i : Nat} (h : isNm β L i = true) : tK β L i = 1 := by
  unfold isNm at h
  rw [Bool.and_eq_true] at h
  exact of_decide_eq_true h.1
theorem LW_packed (W : LW hp c d ro β L st) (h : isNm β L st.2.2.2 = true) : f_X3_packed (c + 2) hp = some (sPk β L st.2.2.2) := by
  obtain ⟨-, ⟨I, Bt, w2, w3, w4, w5⟩, w6, -⟩ := W
  exact c_packed w2 w3 w4 w6 (isNm_1 h)
theorem LW_value (W : LW hp c d ro β L st) (h : tK β L st.2.2.2 = 2) : f_X3_value (c + 2) hp = some (Int32.ofNat (sCv β L st.2.2.2)) := by
  obtain ⟨-, ⟨I, Bt, w2, w3, w4, w5⟩, w6, -⟩ := W
  exact c_value w2 w3 w4 w6 h
theorem LW_find (W : LW hp c d ro β L st) {s : Nat} (hs : s < 4) (y : Int32) : f_X5_find d (Int32.ofNat s) y hp = some (zoi (fnd st.1 s y)) := c_find (LW_pl W) (sP_I (LW_P W)) hs y
theorem wP_fr {R : Nat → Nat → Int32} (X : wP hp d R) (f : ∀ i, d ≤ i → i < d + 28 → h i = hp i) : wP h d R := by
  obtain ⟨h1, ⟨g2, h2, h3⟩, ⟨g4, h4, h5⟩, h6⟩ := X
  refine ⟨?_, ⟨g2, ?_, h3⟩, ⟨g4, ?_, h5⟩, fun j hj => ?_⟩
  · rw [f d (by omega) (by omega)]; exact h1
  · rw [f (d + 2) (by omega) (by omega)]; exact h2
  · rw [f (d + 13) (by omega) (by omega)]; exact h4
  · rw [f (d + j) (by omega) (by unfold pCell at hj; omega)]; exact h6 j hj
/-- one token on -/
theorem LW_next (W : LW hp c d ro β L st) (hd : c + 4 ≤ d) : ∃ h, f_X3_next (c + 2) hp = some h ∧ LW h c d ro β L (adv β L st) ∧ lfr false c d hp h := by
  obtain ⟨⟨ee, w1⟩, ⟨I, Bt, w2, w3, w4, w5⟩, w6, ⟨R, w7, w8⟩, w9, w10⟩ := W
  have he := tE_in (β := β) w6
  obtain ⟨h1, I1, e1, W1, t1, i1, f1⟩ := c_next w2 w3 w4.1 w4.2.2.2 he.2.1
  refine ⟨h1, e1, ⟨⟨ee, by unfold wLd; rw [f1 (c + 1) (by omega)]; exact w1⟩, ⟨I1, Bt, W1, w3, t1, by rw [i1, w5]⟩, he.2.1, ⟨R, wP_fr w7 (fun i i1 i2 => f1 i (by omega)), w8⟩, w9, sts_fr w10 (fun a ha => f1 a (by omega))⟩, fun a ha => f1 a (by omega)⟩
theorem C_int (W : LW hp c d ro β L st) (hd : c + 4 ≤ d) {lo hi : Nat} (hl : lo < 10000) (hh : hi < 10000) {x1 x2 : Int32} (e1 : x1 = Int32.ofNat lo) (e2 : x2 = Int32.ofNat hi) : cImp false c d ro β L hp (f_X4_readInteger (c + 1) x1 x2 hp) (pInt β L lo hi st) := by
  subst e1
  subst e2
  have hv := cvl_le (β := β) (tS β L st.2.2.2) (tE β L st.2.2.2 - tS β L st.2.2.2)
  have hk := tK_le β L st.2.2.2
  have n2 : (Int32.ofNat (tK β L st.2.2.2) = 2) = (tK β L st.2.2.2 = 2) := pn_inj (n := 2) (by omega) (by decide)
  have hv' : sCv β L st.2.2.2 ≤ 99999 := hv
  unfold pInt
  simp only [f_X4_readInteger, LW_is W, LW_in W, LW_kind W, n2, Option.bind_some]
  by_cases k2 : tK β L st.2.2.2 = 2
  · rw [if_pos k2, if_pos k2]
    simp (disch := omega) only [LW_value W k2, pn_lt, Option.bind_some]
    by_cases q1 : sCv β L st.2.2.2 < lo
    · rw [if_pos q1, if_pos q1]
      exact cImp_err W (by decide) rfl
    · rw [if_neg q1, if_neg q1]
      by_cases q2 : hi < sCv β L st.2.2.2
      · rw [if_pos q2, if_pos q2]
        exact cImp_err W (by decide) rfl
      · rw [if_neg q2, if_neg q2]
        obtain ⟨h1, e1, W1, f1⟩ := LW_next W hd
        exact ⟨h1, by rw [e1]; rfl, pn_neg (by omega), W1, f1⟩
  · rw [if_neg k2, if_neg k2]
    exact cImp_err W (by decide) rfl
/-- numbers that don't show may change -/
theorem wDr_T {T T' N : Nat → Int32} (X : wDr hp d T N) (h0 : ∀ s, s < 5 → T' s = T s) (h1 : ∀ s k, s < 4 → k < sN T s → T' (zno s + k) = T (zno s + k)) (h2 : ∀ r, r < sN T 1 → T' (33 + r) = T (33 + r)) (h3 : ∀ w, w < sN T 2 → T' (38 + w) = T (38 + w)) (h4 : ∀ b, b < sN T 3 → T' (44 + b) = T (44 + b) ∧ T' (56 + b) = T (56 + b)) (h5 : ∀ b p, b < sN T 3 → p < sPi T → T' (68 + 6 * b + p) = T (68 + 6 * b + p)) (h6 : ∀ t, t < sN T 4 → T' (140 + t) = T (140 + t)) : wDr hp d T' N := by
  have hn : ∀ s, s < 5 → sN T' s = sN T s := fun s hs => by unfold sN; rw [h0 s hs]
  have hp' : sPi T' = sPi T := by unfold sPi; rw [hn 0 (by decide)]
  obtain ⟨R, r0, ⟨r1, r2, r3, r4, r5, r6, r7⟩, r8, r9⟩ := X
  refine ⟨R, r0, ⟨fun s hs => by rw [hn s hs]; exact r1 s hs, fun s k hs hk => ?_, fun r hr => ?_, fun w hw => ?_, fun b hb => ?_, fun b p hb hp => ?_, fun t ht => ?_⟩, fun b hb => ?_, r9⟩
  · rw [hn s (by omega)] at hk
    rw [h1 s k hs hk]; exact r2 s k hs hk
  · rw [hn 1 (by decide)] at hr
    rw [h2 r hr]; exact r3 r hr
  · rw [hn 2 (by decide)] at hw
    rw [h3 w hw]; exact r4 w hw
  · rw [hn 3 (by decide)] at hb
    rw [(h4 b hb).1, (h4 b hb).2]; exact r5 b hb
  · rw [hn 3 (by decide)] at hb
    rw [hp'] at hp
    show R (14 + b) p = T' (68 + 6 * b + p)
    rw [h5 b p hb hp]; exact r6 b p hb hp
  · rw [hn 4 (by decide)] at ht
    rw [h6 t ht]; exact r7 t ht
  · rw [hn 3 (by decide)] at hb
    exact r8 b hb
theorem sP_T {T T' : Nat → Int32} (P : sP T) (h0 : ∀ s, s < 5 → T' s = T s) (h2 : ∀ r, r < sN T 1 → T' (33 + r) = T (33 + r)) (h3 : ∀ w, w < sN T 2 → T' (38 + w) = T (38 + w)) (h4 : ∀ b, b < sN T 3 → T' (44 + b) = T (44 + b)) (h5 : ∀ b p, b < sN T 3 → p < sPi T → T' (68 + 6 * b + p) = T (68 + 6 * b + p)) (h6 : ∀ t, t < sN T 4 → T' (140 + t) = T (140 + t)) : sP T' := by
  have hn : ∀ s, s < 5 → sN T' s = sN T s := fun s hs => by unfold sN; rw [h0 s hs]
  have hp' : sPi T' = sPi T := by unfold sPi; rw [hn 0 (by decide)]
  obtain ⟨p0, p1, p2, p3, p4, p5, p6⟩ := P
  refine ⟨fun s hs => by rw [h0 s hs, hn s hs]; exact p0 s hs, by rw [hn 0 (by decide), hn 1 (by decide), hn 2 (by decide), hn 3 (by decide), hn 4 (by decide)]; exact p1, fun r hr => ?_, fun w hw => ?_, fun b hb => ?_, fun t ht => ?_, fun b p hb hp => ?_⟩
  · rw [hn 1 (by decide)] at hr
    rw [h2 r hr]; exact p2 r hr
  · rw [hn 2 (by decide)] at hw
    rw [h3 w hw, hn 1 (by decide)]; exact p3 w hw
  · rw [hn 3 (by decide)] at hb
    rw [h4 b hb, hn 2 (by decide)]; exact p4 b hb
  · rw [hn 4 (by decide)] at ht
    rw [h6 t ht]; exact p5 t ht
  · rw [hn 3 (by decide)] at hb
    rw [hp'] at hp
    show ∃ q, q ≤ 300 ∧ T' (68 + 6 * b + p) = _
    rw [h5 b p hb hp]; exact p6 b p hb hp
/-- places that don't show yet -/
def hid (T : Nat → Int32) (k : Nat) : Prop := (∃ s, s < 4 ∧ k = zno s + sN T s ∧ sN T s < (if s = 2 then 6 else if s = 3 then 12 else 5)) ∨ (k = 33 + sN T 1 ∧ sN T 1 < 5) ∨ (k = 38 + sN T 2 ∧ sN T 2 < 6) ∨ (k = 44 + sN T 3 ∧ sN T 3 < 12) ∨ (k = 56 + sN T 3 ∧ sN T 3 < 12) ∨ (∃ p, p < 6 ∧ k = 68 + 6 * sN T 3 + p ∧ sN T 3 < 12) ∨ (k = 140 + sN T 4 ∧ sN T 4 < 4)
theorem zno_in (s : Nat) (hs : s < 4) : (s = 0 ∧ zno s = 5) ∨ (s = 1 ∧ zno s = 10) ∨ (s = 2 ∧ zno s = 15) ∨ (s = 3 ∧ zno s = 21) := by
  rcases (show s = 0 ∨ s = 1 ∨ s = 2 ∨ s = 3 by omega) with rfl | rfl | rfl | rfl <;> decide
theorem hid_at {T : Nat → Int32} {k : Nat} (b : sN T 0 ≤ 5 ∧ sN T 1 ≤ 5 ∧ sN T 2 ≤ 6 ∧ sN T 3 ≤ 12 ∧ sN T 4 ≤ 4 ∧ sPi T = sN T 0 + 1) (h : hid T k) : (∀ s, s < 5 → s ≠ k) ∧ (∀ s j, s < 4 → j < sN T s → zno s + j ≠ k) ∧ (∀ r, r < sN T 1 → 33 + r ≠ k) ∧ (∀ w, w < sN T 2 → 38 + w ≠ k) ∧ (∀ b, b < sN T 3 → 44 + b ≠ k ∧ 56 + b ≠ k) ∧ (∀ b p, b < sN T 3 → p < sPi T → 68 + 6 * b + p ≠ k) ∧ (∀ t, t < sN T 4 → 140 + t ≠ k) := by
  obtain ⟨b0, b1, b2, b3, b4, b5⟩ := b
  have key : (∀ s j, s < 4 → j < sN T s → zno s + j ≠ k) ∧ 5 ≤ k ∧ (k < 33 ∨ (k = 33 + sN T 1 ∧ sN T 1 < 5) ∨ (k = 38 + sN T 2 ∧ sN T 2 < 6) ∨ (k = 44 + sN T 3 ∧ sN T 3 < 12) ∨ (k = 56 + sN T 3 ∧ sN T 3 < 12) ∨ (68 + 6 * sN T 3 ≤ k ∧ k < 74 + 6 * sN T 3 ∧ sN T 3 < 12) ∨ (k = 140 + sN T 4)) := by
    rcases h with ⟨s', hs', rfl, hm⟩ | ⟨rfl, hm⟩ | ⟨rfl, hm⟩ | ⟨rfl, hm⟩ | ⟨rfl, hm⟩ | ⟨p, hp, rfl, hm⟩ | ⟨rfl, hm⟩
    · have hz := zno_in s' hs'
      refine ⟨fun s j hs hj => ?_, by omega, Or.inl ?_⟩
      · have hz2 := zno_in s hs
        rcases hz with ⟨rfl, e1⟩ | ⟨rfl, e1⟩ | ⟨rfl, e1⟩ | ⟨rfl, e1⟩ <;> rcases hz2 with ⟨rfl, e2⟩ | ⟨rfl, e2⟩ | ⟨rfl, e2⟩ | ⟨rfl, e2⟩ <;> simp at hm <;> omega
      · rcases hz with ⟨rfl, e1⟩ | ⟨rfl, e1⟩ | ⟨rfl, e1⟩ | ⟨rfl, e1⟩ <;> simp at hm <;> omega
    all_goals
      refine ⟨fun s j hs hj => ?_, by omega, by omega⟩
      rcases zno_in s hs with ⟨rfl, e2⟩ | ⟨rfl, e2⟩ | ⟨rfl, e2⟩ | ⟨rfl, e2⟩ <;> omega
  obtain ⟨k1, k2, k3⟩ := key
  exact ⟨fun s hs => by omega, k1, fun r hr => by omega, fun w hw => by omega, fun b hb => by omega, fun b p hb hp => by omega, fun t ht => by omega⟩
theorem LW_put (W : LW hp c d ro β L st) {k : Nat} (hk : hid st.1 k) (v : Int32) : LW hp c d ro β L (put st k v) := by
  have hb := sP_bd (LW_P W)
  obtain ⟨q0, q1, q2, q3, q4, q5, q6⟩ := hid_at hb hk
  obtain ⟨w1, w2, w3, w4, w5, w6⟩ := W
  have e : ∀ j, j ≠ k → upd st.1 k v j = st.1 j := fun j hj => by rw [zU, if_neg hj]
  exact ⟨w1, w2, w3, wDr_T w4 (fun s hs => e s (q0 s hs)) (fun s j hs hj => e _ (q1 s j hs hj)) (fun r hr => e _ (q2 r hr)) (fun w hw => e _ (q3 w hw)) (fun b hb => ⟨e _ (q4 b hb).1, e _ (q4 b hb).2⟩) (fun b p hb hp => e _ (q5 b p hb hp)) (fun t ht => e _ (q6 t ht)), sP_T w5 (fun s hs => e s (q0 s hs)) (fun r hr => e _ (q2 r hr)) (fun w hw => e _ (q3 w hw)) (fun b hb => e _ (q4 b hb).1) (fun b p hb hp => e _ (q5 b p hb hp)) (fun t ht => e _ (q6 t ht)), w6⟩
def smx (s : Nat) : Nat := if s = 2 then 6 else if s = 3 then 12 else 5
theorem C_begin (W : LW hp c d ro β L st) (hd : c + 4 ≤ d) {s most : Nat} (hs : s < 5) (hm : most < 100) {x1 x2 : Int32} (e1 : x1 = Int32.ofNat s) (e2 : x2 = Int32.ofNat most) : cImp false c d ro β L hp (f_X4_beginThing (c + 1) x1 x2 hp) (pBegin β L s most st) := by
  subst e1
  subst e2
  have hb := sI_b (sP_I (LW_P W)) hs
  unfold pBegin
  simp (disch := omega) only [f_X4_beginThing, LW_is W, LW_dr W, c_num (LW_pl W), c_n (LW_pl W), pn_lt, LW_in W, Option.bind_some]
  by_cases q : sN st.1 s < most
  · rw [if_pos q, if_pos q]
    obtain ⟨h1, e1, W1, f1⟩ := LW_next W hd
    exact ⟨h1, by rw [e1]; rfl, by decide, W1, f1⟩
  · rw [if_neg q, if_neg q]
    exact cImp_err W (by decide) rfl
theorem zoi_some {o : Option Nat} (ho : ∀ k, o = some k → k < 2147483648) : (zoi o = -1) = (o.isNone = true) := by
  cases o with
  | none => exact propext ⟨fun _ => rfl, fun _ => rfl⟩
  | some k =>
    show (Int32.ofNat k = -1) = _
    rw [pn_ne1 (ho k rfl)]
    exact propext ⟨fun h => h.elim, fun h => by simp at h⟩
theorem fnd_lt {T : Nat → Int32} {s k : Nat} {y : Int32} (h : fnd T s y = some k) : k < sN T s := zff_lt h
theorem C_newName (W : LW hp c d ro β L st) (hd : c + 4 ≤ d) {s : Nat} (hs : s < 4) {x1 x2 : Int32} (e1 : x1 = Int32.ofNat s) (e2 : x2 = Int32.ofNat (smx s)) : cImp false c d ro β L hp (f_X4_readNewName ro (c + 1) x1 x2 hp) (pHead β L s (smx s) st) := by
  have hsm : smx s < 100 := by unfold smx; (repeat' split) <;> decide
  simp only [f_X4_readNewName, LW_is W, Option.bind_some]
  unfold pHead
  have B := C_begin W hd (s := s) (most := smx s) (by omega) hsm e1 e2
  subst e1
  unfold pBegin at B ⊢
  by_cases q : sN st.1 s < smx s
  · rw [if_pos q] at B ⊢
    obtain ⟨h1, g1, g2, W1, f1⟩ := B
    rw [g1, zb2_some, if_neg g2]
    refine cImp_fr f1 ?_
    show cImp false c d ro β L h1 _ (pNew β L s (adv β L st))
    unfold pNew
    have hb := sI_b (sP_I (LW_P W1)) (s := s) (by omega)
    simp only [LW_in W1, LW_isName W1, zb_0, Option.bind_some]
    by_cases n : isNm β L (adv β L st).2.2.2 = true
    · rw [if_neg (by rw [n]; decide), if_pos n]
      have zf := zoi_some (o := fnd (adv β L st).1 s (sPk β L (adv β L st).2.2.2)) (fun k hk => by have := fnd_lt hk; omega)
      simp only [LW_packed W1 n, LW_dr W1, LW_find W1 hs, zf, Option.bind_some]
      have hn : ((fnd (adv β L st).1 s (sPk β L (adv β L st).2.2.2)).isNone = true) = ((fnd (adv β L st).1 s (sPk β L (adv β L st).2.2.2)).isSome = false) := by
        cases fnd (adv β L st).1 s (sPk β L (adv β L st).2.2.2) <;> simp
      by_cases f : (fnd (adv β L st).1 s (sPk β L (adv β L st).2.2.2)).isSome = true
      · rw [if_neg (by rw [hn, f]; decide), if_pos f]
        exact cImp_err W1 (by decide) rfl
      · rw [if_pos (by rw [hn]; simpa using f), if_neg f]
        obtain ⟨h2, e2, W2, f2⟩ := LW_next W1 hd
        obtain ⟨nn, hnn, enn⟩ := sPk_nat (β := β) (L := L) (i := (adv β L st).2.2.2) W1.2.2.1 (isNm_1 n)
        refine ⟨h2, by rw [e2]; rfl, by rw [enn]; exact pn_neg (by omega), LW_put (k := zno s + sN st.1 s) W2 (Or.inl ⟨s, hs, rfl, ?_⟩) _, f2⟩
        unfold smx at q
        exact q
    · rw [if_pos (by simpa using n), if_neg n]
      exact cImp_err W1 (by decide) rfl
  · rw [if_neg q] at B ⊢
    obtain ⟨h1, g1, g2, g3, f1⟩ := B
    refine ⟨h1, ?_, g2, g3, f1⟩
    rw [g1, zb2_some, if_pos g2]
theorem C_known (W : LW hp c d ro β L st) (hd : c + 4 ≤ d) {s : Nat} (hs : s < 4) {x1 : Int32} (e1 : x1 = Int32.ofNat s) : cImp false c d ro β L hp (f_X4_readKnownName ro (c + 1) x1 hp) (pThing β L s st) := by
  subst e1
  unfold pThing
  have hb := sI_b (sP_I (LW_P W)) (s := s) (by omega)
  simp only [f_X4_readKnownName, LW_is W, LW_in W, LW_isName W, zb_0, Option.bind_some]
  by_cases n : isNm β L st.2.2.2 = true
  · rw [if_neg (by rw [n]; decide), if_pos n]
    simp only [LW_packed W n, LW_dr W, LW_find W hs, Option.bind_some]
    cases hf : fnd st.1 s (sPk β L st.2.2.2) with
    | none =>
      rw [if_pos (show zoi none = -1 from rfl)]
      exact cImp_err W (by decide) rfl
    | some k =>
      have hk := fnd_lt hf
      rw [if_neg (show ¬ zoi (some k) = -1 by show ¬ Int32.ofNat k = -1; rw [pn_ne1 (by omega)]; exact not_false)]
      obtain ⟨h2, e2, W2, f2⟩ := LW_next W hd
      exact ⟨h2, by rw [e2]; rfl, pn_neg (by omega), W2, f2⟩
  · rw [if_pos (by simpa using n), if_neg n]
    exact cImp_err W (by decide) rfl
theorem C_semi (W : LW hp c d ro β L st) (hd : c + 4 ≤ d) : cImp false c d ro β L hp (f_X4_readSemicolon (c + 1) hp) (pSemi β L st) := by
  have hk := tK_le β L st.2.2.2
  have n3 : (Int32.ofNat (tK β L st.2.2.2) = 3) = (tK β L st.2.2.2 = 3) := pn_inj (n := 3) (by omega) (by decide)
  unfold pSemi
  simp only [f_X4_readSemicolon, LW_is W, LW_in W, LW_kind W, n3, Option.bind_some]
  by_cases q : tK β L st.2.2.2 = 3
  · rw [if_pos q, if_pos q]
    obtain ⟨h2, e2, W2, f2⟩ := LW_next W hd
    exact ⟨h2, by rw [e2]; rfl, by decide, W2, f2⟩
  · rw [if_neg q, if_neg q]
    exact cImp_err W (by decide) rfl
end P52

