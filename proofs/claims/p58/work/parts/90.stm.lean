/-! PURE: the statements that the law writes are read -/
section P90
variable {β : Nat → Nat} {L i k n s x y z lo hi most : Nat} {l m r w sp : List Nat} {st st' : PSt} {A : Nat → Nat} {sg : Int32}
def bnd (s : Nat) : Nat := if s = 0 then 5 else if s = 1 then 5 else if s = 2 then 6 else 8
/-- how many of each sort, and their names -/
def ZI (A : Nat → Nat) (sg : Int32) (st : PSt) : Prop := (∀ s, s < 5 → sN st.1 s = A s) ∧ (∀ s, s < 4 → A s ≤ bnd s) ∧ (∀ s k, s < 4 → k < A s → st.1 (zno s + k) = nmV s k) ∧ st.2.2.1 = sg ∧ A 4 ≤ 4
def ZJ (A : Nat → Nat) (s : Nat) (sg : Int32) (st : PSt) : Prop := ZI A sg st ∧ st.1 (zno s + A s) = nmV s (A s) ∧ A s < bnd s
def aInc (A : Nat → Nat) (s : Nat) : Nat → Nat := fun q => if q = s then A s + 1 else A q
theorem zno_iB {s k : Nat} (hs : s < 4) (hk : k < bnd s) : 5 ≤ zno s + k ∧ zno s + k < 33 := by
  rcases (show s = 0 ∨ s = 1 ∨ s = 2 ∨ s = 3 by omega) with rfl | rfl | rfl | rfl
  · have h : k < 5 := hk
    show 5 ≤ 5 + k ∧ 5 + k < 33
    omega
  · have h : k < 5 := hk
    show 5 ≤ 10 + k ∧ 10 + k < 33
    omega
  · have h : k < 6 := hk
    show 5 ≤ 15 + k ∧ 15 + k < 33
    omega
  · have h : k < 8 := hk
    show 5 ≤ 21 + k ∧ 21 + k < 33
    omega
theorem zno_ne {s k s' k' : Nat} (hs : s < 4) (hk : k < bnd s) (hs' : s' < 4) (hk' : k' < bnd s') (h : s ≠ s' ∨ k ≠ k') : zno s + k ≠ zno s' + k' := by
  have e0 : zno 0 = 5 := rfl
  have e1 : zno 1 = 10 := rfl
  have e2 : zno 2 = 15 := rfl
  have e3 : zno 3 = 21 := rfl
  have b0 : bnd 0 = 5 := rfl
  have b1 : bnd 1 = 5 := rfl
  have b2 : bnd 2 = 6 := rfl
  have b3 : bnd 3 = 8 := rfl
  rcases (show s = 0 ∨ s = 1 ∨ s = 2 ∨ s = 3 by omega) with rfl | rfl | rfl | rfl <;> rcases (show s' = 0 ∨ s' = 1 ∨ s' = 2 ∨ s' = 3 by omega) with rfl | rfl | rfl | rfl <;> omega
theorem bnd_8 {s : Nat} : bnd s ≤ 8 := by unfold bnd; (repeat' split) <;> omega
theorem sN_upd {T : Nat → Int32} {j : Nat} (v : Int32) (h : s ≠ j) : sN (upd T j v) s = sN T s := by
  unfold sN
  rw [zU, if_neg h]
theorem ZI_adv (Z : ZI A sg st) : ZI A sg (adv β L st) := Z
theorem ZJ_adv (Z : ZJ A s sg st) : ZJ A s sg (adv β L st) := Z
theorem ZI_put (Z : ZI A sg st) {j : Nat} (hj : 33 ≤ j) (v : Int32) : ZI A sg (put st j v) := by
  obtain ⟨z1, z2, z3, z4⟩ := Z
  refine ⟨fun s hs => ?_, z2, fun s k hs hk => ?_, z4⟩
  · show sN (upd st.1 j v) s = A s
    rw [sN_upd v (by omega)]
    exact z1 s hs
  · show upd st.1 j v (zno s + k) = nmV s k
    have := zno_iB hs (show k < bnd s by have := z2 s hs; omega)
    rw [zU, if_neg (by omega)]
    exact z3 s k hs hk
theorem ZJ_put (Z : ZJ A s sg st) (hs : s < 4) {j : Nat} (hj : 33 ≤ j) (v : Int32) : ZJ A s sg (put st j v) := by
  refine ⟨ZI_put Z.1 hj v, ?_, Z.2.2⟩
  have := zno_iB hs Z.2.2
  show upd st.1 j v (zno s + A s) = nmV s (A s)
  rw [zU, if_neg (by omega)]
  exact Z.2.1
theorem ZI_name (Z : ZI A sg st) (hs : s < 4) (hb : A s < bnd s) : ZJ A s sg (put st (zno s + A s) (nmV s (A s))) := by
  obtain ⟨z1, z2, z3, z4⟩ := Z
  have h5 := zno_iB hs hb
  refine ⟨⟨fun q hq => ?_, z2, fun s' k hs' hk => ?_, z4⟩, ?_, hb⟩
  · show sN (upd st.1 _ _) q = A q
    rw [sN_upd _ (by omega)]
    exact z1 q hq
  · show upd st.1 (zno s + A s) _ (zno s' + k) = nmV s' k
    have h2 := z2 s' hs'
    rw [zU, if_neg (zno_ne hs' (by omega) hs hb (by by_cases e : s' = s; right; subst e; omega; left; exact e))]
    exact z3 s' k hs' hk
  · show upd st.1 (zno s + A s) _ (zno s + A s) = _
    rw [zU, if_pos rfl]
theorem ZJ_incr (Z : ZJ A s sg st) (hs : s < 4) : ZI (aInc A s) sg (incr s st) := by
  obtain ⟨⟨z1, z2, z3, z4, z5⟩, z6, z7⟩ := Z
  have h8 := bnd_8 (s := s)
  refine ⟨fun q hq => ?_, fun q hq => ?_, fun s' k hs' hk => ?_, z4, ?_⟩
  · show sN (upd st.1 s (Int32.ofNat (sN st.1 s + 1))) q = aInc A s q
    unfold aInc
    by_cases e : q = s
    · rw [if_pos e, e]
      unfold sN
      rw [zU, if_pos rfl]
      have := z1 s (by omega)
      unfold sN at this
      rw [this, pn_nat (by omega)]
    · rw [if_neg e, sN_upd _ e]
      exact z1 q hq
  · unfold aInc
    by_cases e : q = s
    · rw [if_pos e, e]; omega
    · rw [if_neg e]; exact z2 q hq
  · show upd st.1 s _ (zno s' + k) = nmV s' k
    unfold aInc at hk
    have h2 := z2 s' hs'
    by_cases e : s' = s
    · rw [if_pos e] at hk
      subst e
      have h5 := zno_iB hs' (show k < bnd s' by omega)
      rw [zU, if_neg (by omega)]
      by_cases e2 : k = A s'
      · rw [e2]; exact z6
      · exact z3 s' k hs' (by omega)
    · rw [if_neg e] at hk
      have h5 := zno_iB hs' (show k < bnd s' by omega)
      rw [zU, if_neg (by omega)]
      exact z3 s' k hs' hk
  · unfold aInc
    rw [if_neg (by omega)]
    exact z5
theorem ZI_inc4 (Z : ZI A sg st) (h4 : A 4 < 4) : ZI (aInc A 4) sg (incr 4 st) := by
  obtain ⟨z1, z2, z3, z4, z5⟩ := Z
  refine ⟨fun q hq => ?_, fun q hq => ?_, fun s' k hs' hk => ?_, z4, ?_⟩
  · show sN (upd st.1 4 (Int32.ofNat (sN st.1 4 + 1))) q = aInc A 4 q
    unfold aInc
    by_cases e : q = 4
    · rw [if_pos e, e]
      unfold sN
      rw [zU, if_pos rfl]
      have := z1 4 (by omega)
      unfold sN at this
      rw [this, pn_nat (by omega)]
    · rw [if_neg e, sN_upd _ e]
      exact z1 q hq
  · unfold aInc
    rw [if_neg (by omega)]
    exact z2 q hq
  · show upd st.1 4 _ (zno s' + k) = nmV s' k
    unfold aInc at hk
    rw [if_neg (by omega)] at hk
    have h2 := z2 s' hs'
    have h5 := zno_iB hs' (show k < bnd s' by omega)
    rw [zU, if_neg (by omega)]
    exact z3 s' k hs' hk
  · unfold aInc
    rw [if_pos rfl]
    omega
/-! tokens -/
theorem isNm_ok (hsp : spB sp) (hx : stp x) (X : rL β L i (sp ++ (nmB s k ++ x :: r))) (hs : s < 4) (hk : k < 8) : isNm β L i = true ∧ sPk β L i = nmV s k ∧ rL β L (tE β L i) (x :: r) := by
  obtain ⟨h1, h2, -⟩ := nm_ok s hs k hk
  obtain ⟨e1, e2, e3, Y⟩ := tok_w hsp hx X (show 0 < 2 by decide) h2
  have Y' : rL β L (tS β L i) (nmB s k ++ x :: r) := by rw [e1]; exact Y
  have he : tE β L i = tS β L i + (nmB s k).length := by rw [e3, e1]
  refine ⟨?_, ?_, ?_⟩
  · unfold isNm
    rw [sWd_L e2 Y' he, h1, decide_eq_true e2, he, decide_eq_true (show tS β L i + (nmB s k).length - tS β L i ≤ 6 by show tS β L i + 2 - tS β L i ≤ 6; omega)]
    rfl
  · unfold sPk
    rw [pkI_W Y' he]
    rfl
  · rw [e3]
    exact rL_app Y
theorem fnd_some (Z : ZI A sg st) (hs : s < 4) (hk : k < A s) : fnd st.1 s (nmV s k) = some k := by
  obtain ⟨z1, z2, z3, z4⟩ := Z
  have h2 := z2 s hs
  have h8 := bnd_8 (s := s)
  unfold fnd
  rw [z1 s (by omega)]
  refine zff_some_of (Nat.zero_le _) (by omega) (decide_eq_true (z3 s k hs hk)) (fun j _ hj => decide_eq_false (fun e => ?_))
  rw [z3 s j hs (by omega)] at e
  have := (nm_ok s hs j (by omega)).2.2 k (by omega) e
  omega
theorem fnd_none (Z : ZI A sg st) (hs : s < 4) (hb : A s < bnd s) : fnd st.1 s (nmV s (A s)) = none := by
  obtain ⟨z1, z2, z3, z4⟩ := Z
  have h8 := bnd_8 (s := s)
  unfold fnd
  rw [z1 s (by omega)]
  refine zff_none_of (fun j _ hj => decide_eq_false (fun e => ?_))
  rw [z3 s j hs (by omega)] at e
  have := (nm_ok s hs j (by omega)).2.2 (A s) (by omega) e
  omega
theorem pInt_ok (hsp : spB sp) (hx : stp x) (X : rL β L st.2.2.2 (sp ++ (dl n ++ x :: r))) (hn : n < 1000) (h1 : lo ≤ n) (h2 : n ≤ hi) : pInt β L lo hi st = .inr (Int32.ofNat n, adv β L st) ∧ rL β L (adv β L st).2.2.2 (x :: r) := by
  obtain ⟨⟨d1, -⟩, d2, d3⟩ := dl_ok n hn
  obtain ⟨e1, e2, e3, Y⟩ := tok_d hsp hx X d1 d2
  have ev : sCv β L st.2.2.2 = n := by
    unfold sCv
    rw [e3, e1, show st.2.2.2 + sp.length + (dl n).length - (st.2.2.2 + sp.length) = (dl n).length by omega, cvl_W Y _ (Nat.le_refl _), d3]
  refine ⟨?_, ?_⟩
  · unfold pInt
    rw [if_pos e2, ev, if_neg (by omega), if_neg (by omega)]
  · show rL β L (tE β L st.2.2.2) (x :: r)
    rw [e3]
    exact rL_app Y
theorem pThing_ok (hsp : spB sp) (hx : stp x) (X : rL β L st.2.2.2 (sp ++ (nmB s k ++ x :: r))) (Z : ZI A sg st) (hs : s < 4) (hk : k < A s) : pThing β L s st = .inr (Int32.ofNat k, adv β L st) ∧ rL β L (adv β L st).2.2.2 (x :: r) := by
  have h2 := Z.2.1 s hs
  have h8 := bnd_8 (s := s)
  obtain ⟨e1, e2, Y⟩ := isNm_ok hsp hx X hs (by omega)
  refine ⟨?_, Y⟩
  unfold pThing
  rw [if_pos e1, e2, fnd_some Z hs hk]
theorem pNew_ok (hsp : spB sp) (hx : stp x) (X : rL β L st.2.2.2 (sp ++ (nmB s (A s) ++ x :: r))) (Z : ZI A sg st) (hs : s < 4) (hb : A s < bnd s) : ∃ st', pNew β L s st = .inr (nmV s (A s), st') ∧ ZJ A s sg st' ∧ rL β L st'.2.2.2 (x :: r) := by
  have h8 := bnd_8 (s := s)
  obtain ⟨e1, e2, Y⟩ := isNm_ok hsp hx X hs (by omega)
  refine ⟨adv β L (put st (zno s + A s) (nmV s (A s))), ?_, ZI_name Z hs hb, Y⟩
  unfold pNew
  rw [if_pos e1, e2, fnd_none Z hs hb, Z.1 s (by omega)]
  rfl
/-- a statement's first word -/
theorem word_ok (X : rL β L st.2.2.2 (w ++ 32 :: r)) (hw : 0 < w.length) (hs : ∀ j, j < w.length → sml (w.getD j 0) = true) : sWd β L st.2.2.2 = wdL w ∧ rL β L (adv β L st).2.2.2 (32 :: r) := by
  obtain ⟨e1, e2, e3, Y⟩ := tok_w (sp := []) (Or.inl rfl) (Or.inl rfl) X hw hs
  have e1 : tS β L st.2.2.2 = st.2.2.2 := e1
  have e3 : tE β L st.2.2.2 = st.2.2.2 + w.length := e3
  have Y : rL β L st.2.2.2 (w ++ 32 :: r) := Y
  refine ⟨sWd_L (r := 32 :: r) e2 (by rw [e1]; exact Y) (by rw [e3, e1]), ?_⟩
  show rL β L (tE β L st.2.2.2) (32 :: r)
  rw [e3]
  exact rL_app Y
theorem pHead_ok (hx : stp x) (X : rL β L st.2.2.2 (w ++ 32 :: (nmB s (A s) ++ x :: r))) (hw : 0 < w.length) (hsm : ∀ j, j < w.length → sml (w.getD j 0) = true) (Z : ZI A sg st) (hs : s < 4) (hb : A s < bnd s) (hm : A s < most) : ∃ st', pHead β L s most st = .inr (nmV s (A s), st') ∧ ZJ A s sg st' ∧ rL β L st'.2.2.2 (x :: r) := by
  obtain ⟨-, Y⟩ := word_ok X hw hsm
  obtain ⟨st', e, z, Y'⟩ := pNew_ok (sp := [32]) (st := adv β L st) (Or.inr rfl) hx Y (ZI_adv Z) hs hb
  refine ⟨st', ?_, z, Y'⟩
  unfold pHead pBegin
  rw [Z.1 s (by omega), if_pos hm]
  exact e
theorem semi_ok (X : rL β L st.2.2.2 (59 :: r)) : pSemi β L st = .inr (0, adv β L st) ∧ rL β L (adv β L st).2.2.2 r := by
  obtain ⟨e1, e2, e3, Y⟩ := tok_s X
  refine ⟨?_, ?_⟩
  · unfold pSemi
    rw [if_pos e2]
  · show rL β L (tE β L st.2.2.2) r
    rw [e3]
    exact Y
theorem stm_of {v : Int32} {st1 : PSt} (e : pDecl β L st = .inr (v, st1)) (X : rL β L st1.2.2.2 (59 :: r)) (Z : ZI A sg st1) : ∃ st', pStm β L st = .inr (0, st') ∧ ZI A sg st' ∧ rL β L st'.2.2.2 r := by
  obtain ⟨e2, Y⟩ := semi_ok X
  refine ⟨adv β L st1, ?_, ZI_adv Z, Y⟩
  unfold pStm
  rw [e]
  exact e2
theorem sml_Pa : ∀ j, j < wPa.length → sml (wPa.getD j 0) = true := by decide
theorem sml_Re : ∀ j, j < wRe.length → sml (wRe.getD j 0) = true := by decide
theorem sml_I : ∀ j, j < wI.length → sml (wI.getD j 0) = true := by decide
theorem sml_Wa : ∀ j, j < wWa.length → sml (wWa.getD j 0) = true := by decide
theorem sml_Bo : ∀ j, j < wBo.length → sml (wBo.getD j 0) = true := by decide
theorem sml_Ta : ∀ j, j < wTa.length → sml (wTa.getD j 0) = true := by decide
theorem sml_Se : ∀ j, j < wSe.length → sml (wSe.getD j 0) = true := by decide
theorem sml_Tr : ∀ j, j < wTr.length → sml (wTr.getD j 0) = true := by decide
theorem sml_To : ∀ j, j < wTo.length → sml (wTo.getD j 0) = true := by decide
theorem rd_party (X : rL β L st.2.2.2 (wPa ++ 32 :: (nmB 0 (A 0) ++ 59 :: r))) (Z : ZI A sg st) (h0 : A 0 < 5) (h3 : A 3 = 0) : ∃ st', pStm β L st = .inr (0, st') ∧ ZI (aInc A 0) sg st' ∧ rL β L st'.2.2.2 r := by
  have ew := (word_ok X (by decide) sml_Pa).1
  obtain ⟨st1, e, z, Y⟩ := pHead_ok (most := 5) (Or.inr rfl) X (by decide) sml_Pa Z (by decide) h0 h0
  refine stm_of (v := 0) (st1 := incr 0 st1) ?_ Y (ZJ_incr z (by decide))
  unfold pDecl
  rw [ew, if_pos (by decide)]
  unfold pParty
  rw [Z.1 3 (by decide), h3, if_neg (by decide), e]
  rfl
theorem rd_region0 (X : rL β L st.2.2.2 (wRe ++ 32 :: (nmB 1 (A 1) ++ 59 :: r))) (Z : ZI A sg st) (h1 : A 1 < 5) : ∃ st', pStm β L st = .inr (0, st') ∧ ZI (aInc A 1) sg st' ∧ rL β L st'.2.2.2 r := by
  have ew := (word_ok X (by decide) sml_Re).1
  obtain ⟨st1, e, z, Y⟩ := pHead_ok (most := 5) (Or.inr rfl) X (by decide) sml_Re Z (by decide) h1 h1
  have z2 := ZJ_put z (by decide) (j := 33 + sN st1.1 1) (by omega) (-1)
  refine stm_of (v := 0) (st1 := incr 1 (put st1 (33 + sN st1.1 1) (-1))) ?_ Y (ZJ_incr z2 (by decide))
  obtain ⟨-, ek, -, -⟩ := tok_s Y
  unfold pDecl
  rw [ew, if_neg (by decide), if_pos (by decide)]
  unfold pRegion
  rw [e]
  show pb (if sWd β L st1.2.2.2 = 2 then _ else _) _ = _
  rw [if_neg (by unfold sWd; rw [ek, if_neg (by decide)]; decide)]
  rfl
theorem rd_region1 (X : rL β L st.2.2.2 (wRe ++ 32 :: (nmB 1 (A 1) ++ 32 :: (wI ++ 32 :: (nmB 1 k ++ 59 :: r))))) (Z : ZI A sg st) (h1 : A 1 < 5) (hk : k < A 1) : ∃ st', pStm β L st = .inr (0, st') ∧ ZI (aInc A 1) sg st' ∧ rL β L st'.2.2.2 r := by
  have ew := (word_ok X (by decide) sml_Re).1
  obtain ⟨st1, e, z, Y⟩ := pHead_ok (most := 5) (Or.inl rfl) X (by decide) sml_Re Z (by decide) h1 h1
  obtain ⟨e1, e2, e3, Y1⟩ := tok_w (sp := [32]) (Or.inr rfl) (Or.inl rfl) Y (show 0 < wI.length by decide) sml_I
  have e4 : sWd β L st1.2.2.2 = 2 := (sWd_L e2 (by rw [e1]; exact Y1) (by rw [e3, e1])).trans (by decide)
  have Y2 : rL β L (adv β L st1).2.2.2 (32 :: (nmB 1 k ++ 59 :: r)) := by
    show rL β L (tE β L st1.2.2.2) _
    rw [e3]
    exact rL_app Y1
  obtain ⟨e5, Y3⟩ := pThing_ok (sp := [32]) (st := adv β L st1) (Or.inr rfl) (Or.inr rfl) Y2 (ZI_adv z.1) (by decide) hk
  have z2 := ZJ_put (ZJ_adv (β := β) (L := L) (ZJ_adv (β := β) (L := L) z)) (by decide) (j := 33 + sN (adv β L (adv β L st1)).1 1) (by omega) (Int32.ofNat k)
  refine stm_of (v := 0) (st1 := incr 1 (put (adv β L (adv β L st1)) (33 + sN (adv β L (adv β L st1)).1 1) (Int32.ofNat k))) ?_ Y3 (ZJ_incr z2 (by decide))
  unfold pDecl
  rw [ew, if_neg (by decide), if_pos (by decide)]
  unfold pRegion
  rw [e]
  show pb (if sWd β L st1.2.2.2 = 2 then _ else _) _ = _
  rw [if_pos e4, e5]
  rfl
theorem rd_ward (X : rL β L st.2.2.2 (wWa ++ 32 :: (nmB 2 (A 2) ++ 32 :: (nmB 1 k ++ 59 :: r)))) (Z : ZI A sg st) (h2 : A 2 < 6) (hk : k < A 1) : ∃ st', pStm β L st = .inr (0, st') ∧ ZI (aInc A 2) sg st' ∧ rL β L st'.2.2.2 r := by
  have ew := (word_ok X (by decide) sml_Wa).1
  obtain ⟨st1, e, z, Y⟩ := pHead_ok (most := 6) (Or.inl rfl) X (by decide) sml_Wa Z (by decide) h2 h2
  obtain ⟨e5, Y3⟩ := pThing_ok (sp := [32]) (st := st1) (Or.inr rfl) (Or.inr rfl) Y z.1 (by decide) hk
  have z2 := ZJ_put (ZJ_adv (β := β) (L := L) z) (by decide) (j := 38 + sN (adv β L st1).1 2) (by omega) (Int32.ofNat k)
  refine stm_of (v := 0) (st1 := incr 2 (put (adv β L st1) (38 + sN (adv β L st1).1 2) (Int32.ofNat k))) ?_ Y3 (ZJ_incr z2 (by decide))
  unfold pDecl
  rw [ew, if_neg (by decide), if_neg (by decide), if_pos (by decide)]
  unfold pWard
  rw [e]
  show pb (pb (pThing β L 1 st1) _) _ = _
  rw [e5]
  rfl
/-- the papers of a box, from pile p on, d of them -/
def papL (f : Nat → Nat) : Nat → Nat → List Nat → List Nat
  | 0, _, r => r
  | d + 1, p, r => 32 :: (dl (f p) ++ papL f d (p + 1) r)
theorem papL_x (f : Nat → Nat) (d p : Nat) (r : List Nat) : ∃ x t, papL f d p (59 :: r) = x :: t ∧ stp x := by
  cases d with
  | zero => exact ⟨59, r, rfl, Or.inr rfl⟩
  | succ d => exact ⟨32, _, rfl, Or.inl rfl⟩
theorem pap_ok {f : Nat → Nat} {b : Nat} (hf : ∀ p, f p ≤ 300) : ∀ (d p : Nat) (st : PSt), ZJ A 3 sg st → rL β L st.2.2.2 (papL f d p (59 :: r)) → ∃ st', pPap β L b d p st = .inr (0, st') ∧ ZJ A 3 sg st' ∧ rL β L st'.2.2.2 (59 :: r)
  | 0, p, st, Z, X => ⟨st, rfl, Z, X⟩
  | d + 1, p, st, Z, X => by
    obtain ⟨x, t, ex, hx⟩ := papL_x f d (p + 1) r
    have X' : rL β L st.2.2.2 ([32] ++ (dl (f p) ++ x :: t)) := by rw [← ex]; exact X
    have hp := hf p
    obtain ⟨e1, Y⟩ := pInt_ok (lo := 0) (hi := 300) (Or.inr rfl) hx X' (by omega) (Nat.zero_le _) hp
    rw [← ex] at Y
    obtain ⟨st', e2, z, Y'⟩ := pap_ok (b := b) hf d (p + 1) (put (adv β L st) (68 + 6 * b + p) (Int32.ofNat (f p))) (ZJ_put (ZJ_adv Z) (by decide) (by omega) _) Y
    refine ⟨st', ?_, z, Y'⟩
    show pb (pInt β L 0 300 st) _ = _
    rw [e1]
    exact e2
theorem rd_box {f : Nat → Nat} (hf : ∀ p, f p ≤ 300) (hy : y ≤ 999) (hz : 1 ≤ z ∧ z ≤ 999) (X : rL β L st.2.2.2 (wBo ++ 32 :: (nmB 3 (A 3) ++ 32 :: (nmB 2 k ++ 32 :: (dl y ++ 32 :: (dl z ++ papL f (A 0 + 1) 0 (59 :: r))))))) (Z : ZI A sg st) (h3 : A 3 < 8) (hk : k < A 2) : ∃ st', pStm β L st = .inr (0, st') ∧ ZI (aInc A 3) sg st' ∧ rL β L st'.2.2.2 r := by
  have ew := (word_ok X (by decide) sml_Bo).1
  obtain ⟨st1, e1, z1, Y1⟩ := pHead_ok (most := 12) (Or.inl rfl) X (by decide) sml_Bo Z (by decide) h3 (by omega)
  obtain ⟨e2, Y2⟩ := pThing_ok (sp := [32]) (st := st1) (Or.inr rfl) (Or.inl rfl) Y1 z1.1 (by decide) hk
  obtain ⟨e3, Y3⟩ := pInt_ok (sp := [32]) (lo := 0) (hi := 999) (Or.inr rfl) (Or.inl rfl) Y2 (by omega) (Nat.zero_le _) hy
  obtain ⟨x, t, ex, hx⟩ := papL_x f (A 0 + 1) 0 r
  rw [ex] at Y3
  obtain ⟨e4, Y4⟩ := pInt_ok (sp := [32]) (lo := 1) (hi := 9999) (Or.inr rfl) hx Y3 (by omega) hz.1 (by omega)
  rw [← ex] at Y4
  have z4 : ZJ A 3 sg (adv β L (adv β L (adv β L st1))) := z1
  obtain ⟨st5, e5, z5, Y5⟩ := pap_ok (b := sN (adv β L (adv β L (adv β L st1))).1 3) hf (A 0 + 1) 0 _ z4 Y4
  have hpi : sPi (adv β L (adv β L (adv β L st1))).1 = A 0 + 1 := by
    unfold sPi
    rw [z4.1.1 0 (by decide)]
  have z6 := ZJ_put (ZJ_put z5 (by decide) (j := 44 + sN st5.1 3) (by omega) (Int32.ofNat k)) (by decide) (j := 56 + sN st5.1 3) (by omega) (Int32.ofNat y)
  have hfin : pBox β L st = .inr (0, putN (put (put st5 (44 + sN st5.1 3) (Int32.ofNat k)) (56 + sN st5.1 3) (Int32.ofNat y)) (nNew st5.2.1 (sN st5.1 3) (Int32.ofNat z))) := by
    unfold pBox
    rw [e1]
    show pb (pThing β L 2 st1) _ = _
    rw [e2]
    show pb (pInt β L 0 999 (adv β L st1)) _ = _
    rw [e3]
    show pb (pInt β L 1 9999 (adv β L (adv β L st1))) _ = _
    rw [e4]
    show pb (pPap β L (sN (adv β L (adv β L (adv β L st1))).1 3) (sPi (adv β L (adv β L (adv β L st1))).1) 0 (adv β L (adv β L (adv β L st1)))) _ = _
    rw [hpi, e5]
    rfl
  refine stm_of (v := 0) (st1 := incr 3 (putN (put (put st5 (44 + sN st5.1 3) (Int32.ofNat k)) (56 + sN st5.1 3) (Int32.ofNat y)) (nNew st5.2.1 (sN st5.1 3) (Int32.ofNat z)))) ?_ Y5 (ZJ_incr (st := putN (put (put st5 (44 + sN st5.1 3) (Int32.ofNat k)) (56 + sN st5.1 3) (Int32.ofNat y)) (nNew st5.2.1 (sN st5.1 3) (Int32.ofNat z))) z6 (by decide))
  unfold pDecl
  rw [ew, if_neg (by decide), if_neg (by decide), if_neg (by decide), if_pos (by decide), hfin]
  rfl
theorem rd_table (hn : n ≤ 99) (X : rL β L st.2.2.2 (wTa ++ 32 :: (dl n ++ 59 :: r))) (Z : ZI A sg st) (h4 : A 4 < 4) : ∃ st', pStm β L st = .inr (0, st') ∧ ZI (aInc A 4) sg st' ∧ rL β L st'.2.2.2 r := by
  obtain ⟨ew, Y⟩ := word_ok X (by decide) sml_Ta
  obtain ⟨e3, Y3⟩ := pInt_ok (sp := [32]) (lo := 0) (hi := 99) (Or.inr rfl) (Or.inr rfl) Y (by omega) (Nat.zero_le _) hn
  have z2 : ZI A sg (put (adv β L (adv β L st)) (140 + sN (adv β L (adv β L st)).1 4) (Int32.ofNat n)) := ZI_put Z (by omega) _
  refine stm_of (v := 0) (st1 := incr 4 (put (adv β L (adv β L st)) (140 + sN (adv β L (adv β L st)).1 4) (Int32.ofNat n))) ?_ Y3 (ZI_inc4 z2 h4)
  unfold pDecl
  rw [ew, if_neg (by decide), if_neg (by decide), if_neg (by decide), if_neg (by decide), if_pos (by decide)]
  unfold pTable pBegin
  rw [Z.1 4 (by decide), if_pos h4]
  show pb (pb (pInt β L 0 99 (adv β L st)) _) _ = _
  rw [e3]
  rfl
theorem rd_set {g : Nat} (hg : (w = wTr ∧ g = 0) ∨ (w = wTo ∧ g = 1)) (hn : n ≤ (if g = 0 then 50 else 9)) (X : rL β L st.2.2.2 (wSe ++ 32 :: (w ++ 32 :: (dl n ++ 59 :: r)))) (Z : ZI A sg st) (hb : gBit sg g = false) : ∃ st', pStm β L st = .inr (0, st') ∧ ZI A (gSet sg g) st' ∧ rL β L st'.2.2.2 r := by
  obtain ⟨ew, Y⟩ := word_ok X (by decide) sml_Se
  have h0 : 0 < w.length := by rcases hg with ⟨rfl, -⟩ | ⟨rfl, -⟩ <;> decide
  have hsm : ∀ j, j < w.length → sml (w.getD j 0) = true := by rcases hg with ⟨rfl, -⟩ | ⟨rfl, -⟩; exact sml_Tr; exact sml_To
  have hn50 : n ≤ 50 := by split at hn <;> omega
  obtain ⟨e1, e2, e3, Y1⟩ := tok_w (sp := [32]) (Or.inr rfl) (Or.inl rfl) Y h0 hsm
  have e4 : sWs2 β L (tE β L st.2.2.2) = ws2L w := sWs2_L e2 (by rw [show tS β L (tE β L st.2.2.2) = _ from e1]; exact Y1) (e3.trans (by rw [show tS β L (tE β L st.2.2.2) = _ from e1]))
  have Y2 : rL β L (adv β L (adv β L st)).2.2.2 (32 :: (dl n ++ 59 :: r)) := by
    show rL β L (tE β L (adv β L st).2.2.2) _
    rw [e3]
    exact rL_app Y1
  obtain ⟨e5, Y3⟩ := pInt_ok (sp := [32]) (st := adv β L (adv β L st)) (lo := 0) (hi := if g = 0 then 50 else 9) (Or.inr rfl) (Or.inr rfl) Y2 (by omega) (Nat.zero_le _) hn
  have ez : sWs2 β L (tE β L st.2.2.2) = Int32.ofNat g := by
    rw [e4]
    rcases hg with ⟨rfl, rfl⟩ | ⟨rfl, rfl⟩ <;> decide
  have hgl : g < 2 := by rcases hg with ⟨-, rfl⟩ | ⟨-, rfl⟩ <;> decide
  have eg : (if Int32.ofNat g = 0 then 0 else 1) = g := by
    rcases hg with ⟨-, rfl⟩ | ⟨-, rfl⟩ <;> decide
  obtain ⟨z1, z2, z3, z4, z5⟩ := Z
  have zf : ZI A (gSet sg g) ((adv β L (adv β L (adv β L st))).1, upd (adv β L (adv β L (adv β L st))).2.1 g (Int32.ofNat n), gSet (adv β L (adv β L (adv β L st))).2.2.1 g, (adv β L (adv β L (adv β L st))).2.2.2) := ⟨z1, z2, z3, by show gSet st.2.2.1 g = _; rw [z4], z5⟩
  refine stm_of (v := 0) (st1 := ((adv β L (adv β L (adv β L st))).1, upd (adv β L (adv β L (adv β L st))).2.1 g (Int32.ofNat n), gSet (adv β L (adv β L (adv β L st))).2.2.1 g, (adv β L (adv β L (adv β L st))).2.2.2)) ?_ Y3 zf
  unfold pDecl
  rw [ew, if_neg (by decide), if_neg (by decide), if_neg (by decide), if_neg (by decide), if_neg (by decide), if_pos (by decide)]
  unfold pSet
  rw [ez, if_neg (by rw [pn_ne1 (by omega)]; exact id), eg]
  unfold pSetK
  rw [if_neg (by show ¬ gBit st.2.2.1 g = true; rw [z4, hb]; decide), e5]
  rfl
end P90
