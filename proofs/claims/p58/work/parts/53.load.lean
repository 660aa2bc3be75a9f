/-! PURE: the class's loader: statements -/
section P53
variable {w : Bool} {hp h hp' : zHp} {x a c d L i j k : Nat} {ro : Nat → Nat} {β : Nat → Nat} {st st' : PSt} {R : Nat → Nat → Int32} {T N : Nat → Int32} {v : Int32}
theorem pb_inr {r : PR} {k : Int32 → PSt → PR} {z : Int32 × PSt} (h : pb r k = .inr z) : ∃ v st, r = .inr (v, st) ∧ k v st = .inr z := by
  rcases r with e | ⟨v, st⟩
  · cases h
  · exact ⟨v, st, rfl, h⟩
theorem pInt_st {lo hi : Nat} (h : pInt β L lo hi st = .inr (v, st')) : st' = adv β L st ∧ v = Int32.ofNat (sCv β L st.2.2.2) ∧ lo ≤ sCv β L st.2.2.2 ∧ sCv β L st.2.2.2 ≤ hi := by
  unfold pInt at h
  split at h
  · split at h
    · cases h
    · split at h
      · cases h
      · cases h
        exact ⟨rfl, rfl, by omega, by omega⟩
  · cases h
theorem pThing_st {s : Nat} (h : pThing β L s st = .inr (v, st')) : st' = adv β L st ∧ ∃ k, k < sN st.1 s ∧ v = Int32.ofNat k := by
  unfold pThing at h
  split at h
  · split at h
    · cases h
    · rename_i k hk
      cases h
      exact ⟨rfl, k, fnd_lt hk, rfl⟩
  · cases h
theorem pHead_st {s most : Nat} (h : pHead β L s most st = .inr (v, st')) : st' = adv β L (adv β L (put st (zno s + sN st.1 s) v)) ∧ sN st.1 s < most := by
  unfold pHead at h
  obtain ⟨v1, st1, h1, h2⟩ := pb_inr h
  unfold pBegin at h1
  split at h1
  · rename_i q
    cases h1
    unfold pNew at h2
    split at h2
    · split at h2
      · cases h2
      · cases h2
        exact ⟨rfl, q⟩
    · cases h2
  · cases h1
/-! writes into the draft -/
theorem wP_wr (X : wP hp d R) (hj : pCell j) (hk : k < pLen j) (v : Int32) : ∃ h, zsI hp (d + j) (Int32.ofNat k) v = some h ∧ wP h d (w2 R j k v) ∧ ∀ a, a ≠ d + j → h a = hp a := by
  have n0 : j ≠ 0 ∧ j ≠ 2 ∧ j ≠ 13 := by unfold pCell at hj; omega
  refine ⟨_, pa_wr (X.2.2.2 j hj) hk (by unfold pLen; (repeat' split) <;> decide) v, ⟨?_, ?_, ?_, fun i hi => ?_⟩, fun a ha => zup_ne ha⟩
  · rw [zup_ne (by omega)]; exact X.1
  · obtain ⟨f, h1, h2⟩ := X.2.1
    exact ⟨f, by rw [zup_ne (by omega)]; exact h1, h2⟩
  · obtain ⟨f, h1, h2⟩ := X.2.2.1
    exact ⟨f, by rw [zup_ne (by omega)]; exact h1, h2⟩
  · by_cases e : i = j
    · subst e
      rw [zup_eq, w2_self]
    · rw [zup_ne (by omega), w2_ne _ _ e]
      exact X.2.2.2 i hi
theorem wP_un {R' : Nat → Nat → Int32} (X : wP hp d R) (Y : wP hp d R') (hj : pCell j) : R j = R' j := by
  have h1 := X.2.2.2 j hj
  rw [Y.2.2.2 j hj] at h1
  injection h1 with h1
  injection h1 with h1
  injection h1 with h1 h2
  injection h2 with h2 h3
  injection h3 with h3
  exact h3.symm
theorem w2_at (R : Nat → Nat → Int32) (j k : Nat) (v : Int32) (i l : Nat) : w2 R j k v i l = if i = j ∧ l = k then v else R i l := by
  unfold w2 upd
  by_cases e : i = j
  · by_cases f : l = k
    · rw [if_pos e, if_pos f, if_pos ⟨e, f⟩]
    · rw [if_pos e, if_neg f, if_neg (fun q => f q.2)]
  · rw [if_neg e, if_neg (fun q => e q.1)]
theorem w2_o (R : Nat → Nat → Int32) {j k i l : Nat} (v : Int32) (h : i ≠ j ∨ l ≠ k) : w2 R j k v i l = R i l := by
  rw [w2_at, if_neg (by omega)]
/-- a place of the draft that doesn't show yet -/
def hidR (T : Nat → Int32) (j k : Nat) : Prop := (∃ s, s < 4 ∧ j = 3 + s ∧ k = sN T s) ∨ (j = 8 ∧ k = sN T 1) ∨ (j = 9 ∧ k = sN T 2) ∨ ((j = 10 ∨ j = 11 ∨ j = 12) ∧ k = sN T 3) ∨ (j = 14 + sN T 3 ∧ sN T 3 < 12) ∨ (j = 26 ∧ k = sN T 4)
/-- .. and its place is there -/
theorem LW_wr (W : LW hp c d ro β L st) (hd : c + 4 ≤ d) (hj : hidR st.1 j k) (hk : k < pLen j) (v : Int32) : ∃ h, zsI hp (d + j) (Int32.ofNat k) v = some h ∧ LW h c d ro β L st ∧ lfr true c d hp h ∧ zaI h 0 (d + j) (Int32.ofNat k) = some v ∧ (∀ a, a ≠ d + j → h a = hp a) ∧ ∀ l x, l ≠ k → l < pLen j → zaI hp 0 (d + j) (Int32.ofNat l) = some x → zaI h 0 (d + j) (Int32.ofNat l) = some x := by
  have hb := sP_bd (LW_P W)
  obtain ⟨⟨ee, w1⟩, ⟨I, Bt, w2', w3, w4, w5⟩, w6, ⟨R, w7, ⟨r1, r2, r3, r4, r5, r6, r7⟩, r8, r9⟩, w9, w10⟩ := W
  have hc : pCell j := by
    unfold pCell
    rcases hj with ⟨s, h1, h2, h3⟩ | h | h | h | h | h <;> omega
  have hcl := hc
  unfold pCell at hcl
  have hj' : (j = 3 ∧ k = sN st.1 0) ∨ (j = 4 ∧ k = sN st.1 1) ∨ (j = 5 ∧ k = sN st.1 2) ∨ (j = 6 ∧ k = sN st.1 3) ∨ (j = 8 ∧ k = sN st.1 1) ∨ (j = 9 ∧ k = sN st.1 2) ∨ ((j = 10 ∨ j = 11 ∨ j = 12) ∧ k = sN st.1 3) ∨ (j = 14 + sN st.1 3 ∧ sN st.1 3 < 12) ∨ (j = 26 ∧ k = sN st.1 4) := by
    rcases hj with ⟨s, h1, h2, h3⟩ | h | h | h | h | h
    · rcases (show s = 0 ∨ s = 1 ∨ s = 2 ∨ s = 3 by omega) with rfl | rfl | rfl | rfl <;> omega
    all_goals omega
  obtain ⟨h, e1, W1, f1⟩ := wP_wr w7 hc hk v
  refine ⟨h, e1, ⟨⟨ee, by unfold wLd; rw [f1 (c + 1) (by omega)]; exact w1⟩, ⟨I, Bt, ⟨by rw [f1 (c + 2) (by omega)]; exact w2'.1, by rw [f1 (c + 3) (by omega)]; exact w2'.2⟩, w3, w4, w5⟩, w6, ⟨_, W1, ⟨fun s hs => ?_, fun s l hs hl => ?_, fun r hr => ?_, fun q hq => ?_, fun b hb' => ?_, fun b p hb' hp => ?_, fun t ht => ?_⟩, fun b hb' => ?_, fun l hl => ?_⟩, w9, sts_fr w10 (fun a ha => f1 a (by omega))⟩, fun a ha => f1 a (by rcases ha with q | ⟨q1, q2 | q2⟩; omega; cases q2; omega), ?_, f1, fun l x hl hl2 hx => ?_⟩
  · rw [w2_o _ _ (by omega)]; exact r1 s hs
  · rw [w2_o _ _ (by rcases (show s = 0 ∨ s = 1 ∨ s = 2 ∨ s = 3 by omega) with rfl | rfl | rfl | rfl <;> omega)]; exact r2 s l hs hl
  · rw [w2_o _ _ (by omega)]; exact r3 r hr
  · rw [w2_o _ _ (by omega)]; exact r4 q hq
  · rw [w2_o _ _ (by omega), w2_o _ _ (by omega)]; exact r5 b hb'
  · rw [w2_o _ _ (by omega)]; exact r6 b p hb' hp
  · rw [w2_o _ _ (by omega)]; exact r7 t ht
  · rw [w2_o _ _ (by omega)]; exact r8 b hb'
  · rw [w2_o _ _ (by omega)]; exact r9 l hl
  · rw [wP_rd W1 hc hk, w2_at, if_pos ⟨rfl, rfl⟩]
  · rw [wP_rd W1 hc hl2, w2_o _ _ (Or.inr hl), ← wP_rd w7 hc hl2]; exact hx
/-- the hidden thing of sort s is what T says -/
def HF (hp : zHp) (d : Nat) (T N : Nat → Int32) (s : Nat) : Prop := (s < 4 → zaI hp 0 (d + (3 + s)) (Int32.ofNat (sN T s)) = some (T (zno s + sN T s))) ∧ (s = 0 → sN T 3 = 0) ∧
  (s = 1 → zaI hp 0 (d + 8) (Int32.ofNat (sN T 1)) = some (T (33 + sN T 1)) ∧ (T (33 + sN T 1) = -1 ∨ ∃ q, q < sN T 1 ∧ T (33 + sN T 1) = Int32.ofNat q)) ∧
  (s = 2 → zaI hp 0 (d + 9) (Int32.ofNat (sN T 2)) = some (T (38 + sN T 2)) ∧ ∃ r, r < sN T 1 ∧ T (38 + sN T 2) = Int32.ofNat r) ∧
  (s = 3 → (zaI hp 0 (d + 10) (Int32.ofNat (sN T 3)) = some (T (44 + sN T 3)) ∧ ∃ q, q < sN T 2 ∧ T (44 + sN T 3) = Int32.ofNat q) ∧ zaI hp 0 (d + 11) (Int32.ofNat (sN T 3)) = some (T (56 + sN T 3)) ∧ zaI hp 0 (d + 12) (Int32.ofNat (sN T 3)) = some (sF N (sN T 3) 1) ∧
    ∀ p, p < sPi T → zaI hp 0 (d + (14 + sN T 3)) (Int32.ofNat p) = some (sPap T (sN T 3) p) ∧ ∃ q, q ≤ 300 ∧ sPap T (sN T 3) p = Int32.ofNat q) ∧
  (s = 4 → zaI hp 0 (d + 26) (Int32.ofNat (sN T 4)) = some (T (140 + sN T 4)) ∧ ∃ q, q ≤ 99 ∧ T (140 + sN T 4) = Int32.ofNat q)
def smx5 (s : Nat) : Nat := if s = 4 then 4 else smx s
theorem incr_n {T : Nat → Int32} {s : Nat} (hb : sN T s < 100) (s' : Nat) (hs : s' < 5) : sN (upd T s (Int32.ofNat (sN T s + 1))) s' = if s' = s then sN T s + 1 else sN T s' := by
  unfold sN
  by_cases e : s' = s
  · subst e
    rw [upd_self, if_pos rfl]
    exact pn_nat (by unfold sN at hb; omega)
  · rw [upd_ne _ _ e, if_neg e]
theorem some_in {α : Type} {a b : α} (h : some a = some b) : a = b := by injection h
theorem LW_num (W : LW hp c d ro β L st) (hd : c + 4 ≤ d) {s : Nat} (hs : s < 5) (hm : sN st.1 s < smx5 s) (X : HF hp d st.1 st.2.1 s) : ∃ h, zsI hp (d + 1) (Int32.ofNat s) (Int32.ofNat (sN st.1 s) + 1) = some h ∧ LW h c d ro β L (incr s st) ∧ lfr true c d hp h := by
  have hb := sP_bd (LW_P W)
  obtain ⟨⟨ee, w1⟩, ⟨I, Bt, w2', w3, w4, w5⟩, w6, ⟨R, w7, ⟨r1, r2, r3, r4, r5, r6, r7⟩, r8, r9⟩, ⟨p0, p1, p2, p3, p4, p5, p6⟩, w10⟩ := W
  obtain ⟨x0, x1, x2, x3, x4, x5⟩ := X
  obtain ⟨h, e1, W1, f1⟩ := wP_wr w7 (j := 1) (k := s) (Or.inl rfl) hs (Int32.ofNat (sN st.1 s) + 1)
  have rd : ∀ {j k : Nat} {y : Int32}, pCell j → k < pLen j → zaI hp 0 (d + j) (Int32.ofNat k) = some y → R j k = y := fun hj hk hy => some_in ((wP_rd w7 hj hk).symm.trans hy)
  have hx5 : sN st.1 s < 100 := by
    rcases (show s = 0 ∨ s = 1 ∨ s = 2 ∨ s = 3 ∨ s = 4 by omega) with rfl | rfl | rfl | rfl | rfl <;> omega
  have hn := incr_n hx5
  have ht : ∀ i, 5 ≤ i → upd st.1 s (Int32.ofNat (sN st.1 s + 1)) i = st.1 i := fun i hi => upd_ne _ _ (by omega)
  have hmx : sN st.1 s < (if s = 4 then 4 else if s = 2 then 6 else if s = 3 then 12 else 5) := hm
  have hpi : sPi (upd st.1 s (Int32.ofNat (sN st.1 s + 1))) = if s = 0 then sPi st.1 + 1 else sPi st.1 := by
    unfold sPi
    rw [hn 0 (by decide)]
    by_cases e : s = 0
    · rw [if_pos e.symm, if_pos e, e]
    · rw [if_neg (fun q => e q.symm), if_neg e]
  refine ⟨h, e1, ⟨⟨ee, by unfold wLd; rw [f1 (c + 1) (by omega)]; exact w1⟩, ⟨I, Bt, ⟨by rw [f1 (c + 2) (by omega)]; exact w2'.1, by rw [f1 (c + 3) (by omega)]; exact w2'.2⟩, w3, w4, w5⟩, w6, ⟨_, W1, ⟨fun s' hs' => ?_, fun s' l hs' hl => ?_, fun r hr => ?_, fun q hq => ?_, fun b hb' => ?_, fun b p hb' hp => ?_, fun t ht' => ?_⟩, fun b hb' => ?_, fun l hl => ?_⟩, ?_, sts_fr w10 (fun a ha => f1 a (by omega))⟩, fun a ha => f1 a (by rcases ha with q | ⟨q1, q2 | q2⟩; omega; cases q2; omega)⟩
  · show _ = Int32.ofNat (sN (upd st.1 s (Int32.ofNat (sN st.1 s + 1))) s')
    rw [w2_at, hn s' hs', pn_succ]
    by_cases e : s' = s
    · rw [if_pos ⟨rfl, e⟩, if_pos e]
    · rw [if_neg (fun q => e q.2), if_neg e]
      exact r1 s' hs'
  · have hl' : l < sN (upd st.1 s (Int32.ofNat (sN st.1 s + 1))) s' := hl
    show w2 R 1 s _ (3 + s') l = upd st.1 s (Int32.ofNat (sN st.1 s + 1)) (zno s' + l)
    rw [hn s' (by omega)] at hl'
    rw [w2_o _ _ (by omega), ht _ (by have := zno_in s' hs'; omega)]
    by_cases e : s' = s ∧ l = sN st.1 s
    · obtain ⟨rfl, rfl⟩ := e
      exact rd (by unfold pCell; omega) (by unfold pLen; rcases (show s' = 0 ∨ s' = 1 ∨ s' = 2 ∨ s' = 3 by omega) with rfl | rfl | rfl | rfl <;> simp at hmx ⊢ <;> omega) (x0 hs')
    · refine r2 s' l hs' ?_
      by_cases e1 : s' = s
      · rw [if_pos e1] at hl'
        subst e1
        omega
      · rw [if_neg e1] at hl'
        exact hl'
  · have hr' : r < sN (upd st.1 s (Int32.ofNat (sN st.1 s + 1))) 1 := hr
    show w2 R 1 s _ 8 r = upd st.1 s (Int32.ofNat (sN st.1 s + 1)) (33 + r)
    rw [hn 1 (by decide)] at hr'
    rw [w2_o _ _ (by omega), ht _ (by omega)]
    by_cases e : s = 1 ∧ r = sN st.1 1
    · obtain ⟨rfl, rfl⟩ := e
      exact rd (by unfold pCell; omega) (by simp at hmx; show _ < 5; omega) (x2 rfl).1
    · refine r3 r ?_
      by_cases e1 : 1 = s
      · rw [if_pos e1] at hr'
        subst e1
        omega
      · rw [if_neg e1] at hr'
        exact hr'
  · have hr' : q < sN (upd st.1 s (Int32.ofNat (sN st.1 s + 1))) 2 := hq
    show w2 R 1 s _ 9 q = upd st.1 s (Int32.ofNat (sN st.1 s + 1)) (38 + q)
    rw [hn 2 (by decide)] at hr'
    rw [w2_o _ _ (by omega), ht _ (by omega)]
    by_cases e : s = 2 ∧ q = sN st.1 2
    · obtain ⟨rfl, rfl⟩ := e
      exact rd (by unfold pCell; omega) (by simp at hmx; show _ < 6; omega) (x3 rfl).1
    · refine r4 q ?_
      by_cases e1 : 2 = s
      · rw [if_pos e1] at hr'
        subst e1
        omega
      · rw [if_neg e1] at hr'
        exact hr'
  · have hr' : b < sN (upd st.1 s (Int32.ofNat (sN st.1 s + 1))) 3 := hb'
    show w2 R 1 s _ 10 b = upd st.1 s (Int32.ofNat (sN st.1 s + 1)) (44 + b) ∧ w2 R 1 s _ 11 b = upd st.1 s (Int32.ofNat (sN st.1 s + 1)) (56 + b)
    rw [hn 3 (by decide)] at hr'
    rw [w2_o _ _ (by omega), w2_o _ _ (by omega), ht _ (by omega), ht _ (by omega)]
    by_cases e : s = 3 ∧ b = sN st.1 3
    · obtain ⟨rfl, rfl⟩ := e
      have X := x4 rfl
      simp at hmx
      exact ⟨rd (by unfold pCell; omega) (by show _ < 12; omega) X.1.1, rd (by unfold pCell; omega) (by show _ < 12; omega) X.2.1⟩
    · refine r5 b ?_
      by_cases e1 : 3 = s
      · rw [if_pos e1] at hr'
        subst e1
        omega
      · rw [if_neg e1] at hr'
        exact hr'
  · have hr' : b < sN (upd st.1 s (Int32.ofNat (sN st.1 s + 1))) 3 := hb'
    have hp1 : p < sPi (upd st.1 s (Int32.ofNat (sN st.1 s + 1))) := hp
    show w2 R 1 s _ (14 + b) p = upd st.1 s (Int32.ofNat (sN st.1 s + 1)) (68 + 6 * b + p)
    rw [hn 3 (by decide)] at hr'
    rw [hpi] at hp1
    rw [w2_o _ _ (by omega), ht _ (by omega)]
    by_cases e : s = 3 ∧ b = sN st.1 3
    · obtain ⟨rfl, rfl⟩ := e
      simp at hmx hp1
      exact rd (by unfold pCell; omega) (by unfold pLen; rw [if_neg (by omega), if_neg (by omega), if_neg (by omega), if_pos (by omega)]; omega) ((x4 rfl).2.2.2 p hp1).1
    · have hb2 : b < sN st.1 3 := by
        by_cases e1 : 3 = s
        · rw [if_pos e1] at hr'
          subst e1
          omega
        · rw [if_neg e1] at hr'
          exact hr'
      refine r6 b p hb2 ?_
      by_cases e1 : s = 0
      · have := x1 e1
        omega
      · rw [if_neg e1] at hp1
        exact hp1
  · have hr' : t < sN (upd st.1 s (Int32.ofNat (sN st.1 s + 1))) 4 := ht'
    show w2 R 1 s _ 26 t = upd st.1 s (Int32.ofNat (sN st.1 s + 1)) (140 + t)
    rw [hn 4 (by decide)] at hr'
    rw [w2_o _ _ (by omega), ht _ (by omega)]
    by_cases e : s = 4 ∧ t = sN st.1 4
    · obtain ⟨rfl, rfl⟩ := e
      exact rd (by unfold pCell; omega) (by simp at hmx; show _ < 4; omega) (x5 rfl).1
    · refine r7 t ?_
      by_cases e1 : 4 = s
      · rw [if_pos e1] at hr'
        subst e1
        omega
      · rw [if_neg e1] at hr'
        exact hr'
  · have hr' : b < sN (upd st.1 s (Int32.ofNat (sN st.1 s + 1))) 3 := hb'
    show w2 R 1 s _ 12 b = sF st.2.1 b 1
    rw [hn 3 (by decide)] at hr'
    rw [w2_o _ _ (by omega)]
    by_cases e : s = 3 ∧ b = sN st.1 3
    · obtain ⟨rfl, rfl⟩ := e
      simp at hmx
      exact rd (by unfold pCell; omega) (by show _ < 12; omega) (x4 rfl).2.2.1
    · refine r8 b ?_
      by_cases e1 : 3 = s
      · rw [if_pos e1] at hr'
        subst e1
        omega
      · rw [if_neg e1] at hr'
        exact hr'
  · rw [w2_o _ _ (by omega)]; exact r9 l hl
  · show sP (upd st.1 s (Int32.ofNat (sN st.1 s + 1)))
    refine ⟨fun s' hs' => ?_, ?_, fun r hr' => ?_, fun q hr' => ?_, fun b hr' => ?_, fun t hr' => ?_, fun b p hr' hp1 => ?_⟩
    · rw [hn s' hs']
      by_cases e : s' = s
      · rw [if_pos e, e, upd_self]
      · rw [if_neg e, upd_ne _ _ e]; exact p0 s' hs'
    · rw [hn 0 (by decide), hn 1 (by decide), hn 2 (by decide), hn 3 (by decide), hn 4 (by decide)]
      rcases (show s = 0 ∨ s = 1 ∨ s = 2 ∨ s = 3 ∨ s = 4 by omega) with rfl | rfl | rfl | rfl | rfl <;> simp at hmx ⊢ <;> omega
    · rw [hn 1 (by decide)] at hr'
      rw [ht _ (by omega)]
      by_cases e : s = 1 ∧ r = sN st.1 1
      · obtain ⟨rfl, rfl⟩ := e
        exact (x2 rfl).2
      · refine p2 r ?_
        by_cases e1 : 1 = s
        · rw [if_pos e1] at hr'
          subst e1
          omega
        · rw [if_neg e1] at hr'
          exact hr'
    · rw [hn 2 (by decide)] at hr'
      rw [ht _ (by omega), hn 1 (by decide)]
      have K : ∃ r, r < sN st.1 1 ∧ st.1 (38 + q) = Int32.ofNat r := by
        by_cases e : s = 2 ∧ q = sN st.1 2
        · obtain ⟨rfl, rfl⟩ := e
          exact (x3 rfl).2
        · refine p3 q ?_
          by_cases e1 : 2 = s
          · rw [if_pos e1] at hr'
            subst e1
            omega
          · rw [if_neg e1] at hr'
            exact hr'
      obtain ⟨r, k1, k2⟩ := K
      exact ⟨r, by split <;> (try subst s) <;> omega, k2⟩
    · rw [hn 3 (by decide)] at hr'
      rw [ht _ (by omega), hn 2 (by decide)]
      have K : ∃ r, r < sN st.1 2 ∧ st.1 (44 + b) = Int32.ofNat r := by
        by_cases e : s = 3 ∧ b = sN st.1 3
        · obtain ⟨rfl, rfl⟩ := e
          exact (x4 rfl).1.2
        · refine p4 b ?_
          by_cases e1 : 3 = s
          · rw [if_pos e1] at hr'
            subst e1
            omega
          · rw [if_neg e1] at hr'
            exact hr'
      obtain ⟨r, k1, k2⟩ := K
      exact ⟨r, by split <;> (try subst s) <;> omega, k2⟩
    · rw [hn 4 (by decide)] at hr'
      rw [ht _ (by omega)]
      by_cases e : s = 4 ∧ t = sN st.1 4
      · obtain ⟨rfl, rfl⟩ := e
        exact (x5 rfl).2
      · refine p5 t ?_
        by_cases e1 : 4 = s
        · rw [if_pos e1] at hr'
          subst e1
          omega
        · rw [if_neg e1] at hr'
          exact hr'
    · rw [hn 3 (by decide)] at hr'
      rw [hpi] at hp1
      show ∃ q, q ≤ 300 ∧ upd st.1 s (Int32.ofNat (sN st.1 s + 1)) (68 + 6 * b + p) = _
      rw [ht _ (by omega)]
      by_cases e : s = 3 ∧ b = sN st.1 3
      · obtain ⟨rfl, rfl⟩ := e
        simp at hp1
        exact ((x4 rfl).2.2.2 p hp1).2
      · have hb2 : b < sN st.1 3 := by
          by_cases e1 : 3 = s
          · rw [if_pos e1] at hr'
            subst e1
            omega
          · rw [if_neg e1] at hr'
            exact hr'
        refine p6 b p hb2 ?_
        by_cases e1 : s = 0
        · have := x1 e1
          omega
        · rw [if_neg e1] at hp1
          exact hp1
end P53

