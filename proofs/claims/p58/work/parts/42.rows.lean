/-! PURE: rows of a box: what changes keep -/
section P42
variable {hp h hp' : zHp} {x a a' q b u c p hl : Nat} {ea : Int32} {S B B' : Nat → Nat → Int32} {F T N N' R : Nat → Int32} {G G' : Nat → Nat → Nat → Int32}
/-- the row of box b replaced -/
def nB (N : Nat → Int32) (b : Nat) (R : Nat → Int32) : Nat → Int32 := fun k => if 10 + 44 * b ≤ k ∧ k < 54 + 44 * b then R (k - (10 + 44 * b)) else N k
theorem nB_same {w : Nat} (hw : w < 44) : sF (nB N b R) b w = R w := by
  unfold sF nB
  rw [if_pos (by omega)]
  congr 1
  omega
theorem nB_ne {b' w : Nat} (hb : b' ≠ b) (hw : w < 44) : sF (nB N b R) b' w = sF N b' w := by
  unfold sF nB
  rw [if_neg (by omega)]
theorem nB_lo {k : Nat} (hk : k < 10) : nB N b R k = N k := by unfold nB; rw [if_neg (by omega)]
theorem nB_hi {k : Nat} (hb : b < 12) (hk : 538 ≤ k) : nB N b R k = N k := by unfold nB; rw [if_neg (by omega)]
theorem nB_self : nB N b (sF N b) = N := by
  funext k
  unfold nB sF
  split
  · congr 1; omega
  · rfl
theorem nB_at (N : Nat → Int32) (b : Nat) (R : Nat → Int32) (k : Nat) : nB N b R k = if 10 + 44 * b ≤ k ∧ k < 54 + 44 * b then R (k - (10 + 44 * b)) else N k := rfl
theorem zU (f : Nat → Int32) (k j : Nat) (v : Int32) : upd f k v j = if j = k then v else f j := rfl
theorem upd_nB {w : Nat} (hw : w < 44) (v : Int32) : upd (nB N b R) (10 + 44 * b + w) v = nB N b (upd R w v) := by
  funext k
  rw [zU, nB_at, nB_at, zU]
  by_cases e : k = 10 + 44 * b + w
  · rw [if_pos e, if_pos (by omega), if_pos (by omega)]
  · rw [if_neg e]
    by_cases e2 : 10 + 44 * b ≤ k ∧ k < 54 + 44 * b
    · rw [if_pos e2, if_pos e2, if_neg (by omega)]
    · rw [if_neg e2, if_neg e2]
theorem upd_N {w : Nat} (hw : w < 44) (v : Int32) : upd N (10 + 44 * b + w) v = nB N b (upd (sF N b) w v) := by
  rw [← upd_nB hw, nB_self]
theorem nB_congr {R R' : Nat → Int32} (h : ∀ w, w < 44 → R w = R' w) : nB N b R = nB N b R' := by
  funext k
  unfold nB
  split
  · exact h _ (by omega)
  · rfl
def rowEq (N N' : Nat → Int32) (b : Nat) : Prop := ∀ w, w < 44 → sF N' b w = sF N b w
def sIb (T N : Nat → Int32) (b : Nat) : Prop := (sF N b 3 = Int32.ofNat (sC N b) ∧ sC N b ≤ 4) ∧ (sF N b 2 = Int32.ofNat (sE N b) ∧ 1 ≤ sE N b ∧ sE N b ≤ 12) ∧ (∀ c p, c < sC N b → p < sPi T → ∃ q, sFd N b c p = Int32.ofNat q ∧ q ≤ 600)
theorem sI_row {T N : Nat → Int32} (I : sI T N) {b : Nat} (hb : b < sN T 3) : sIb T N b := I.2.2.1 b hb
theorem sC_row (e : sF N' b 3 = sF N b 3) : sC N' b = sC N b := by unfold sC; rw [e]
theorem sE_row (e : sF N' b 2 = sF N b 2) : sE N' b = sE N b := by unfold sE; rw [e]
theorem sIb_congr (e : rowEq N N' b) (h6 : sPi T ≤ 6) (I : sIb T N b) : sIb T N' b := by
  obtain ⟨⟨i1, i2⟩, ⟨i3, i4, i5⟩, i6⟩ := I
  have ec := sC_row (e 3 (by decide))
  have ee := sE_row (e 2 (by decide))
  refine ⟨⟨by rw [e 3 (by decide), ec, i1], by omega⟩, ⟨by rw [e 2 (by decide), ee, i3], by omega, by omega⟩, fun c p hc hp => ?_⟩
  rw [ec] at hc
  obtain ⟨r, h1, h2⟩ := i6 c p hc hp
  refine ⟨r, ?_, h2⟩
  rw [← h1]
  exact e _ (by omega)
theorem sI_mk (I : sI T N) (h1 : ∀ b, b < sN T 3 → sIb T N' b) (h2 : N' 9 = Int32.ofNat (sD N') ∧ sD N' ≤ 6 ∧ (∀ k, k < sD N' → ∃ w, w < sN T 2 ∧ N' (3 + k) = Int32.ofNat w) ∧ (∀ i j, i < j → j < sD N' → N' (3 + i) ≠ N' (3 + j))) : sI T N' :=
  ⟨I.1, I.2.1, h1, h2, I.2.2.2.2⟩
theorem sI_lo (I : sI T N) (h1 : ∀ b, b < sN T 3 → sIb T N' b) (h2 : ∀ k, 3 ≤ k → k < 10 → N' k = N k) : sI T N' := by
  refine sI_mk I h1 ?_
  have hd := sI_d I
  have e9 := h2 9 (by decide) (by decide)
  have eD : sD N' = sD N := by unfold sD; rw [e9]
  rw [eD]
  refine ⟨by rw [e9]; exact hd.1, hd.2, fun k hk => ?_, fun i j hij hj => ?_⟩
  · rw [h2 (3 + k) (by omega) (by omega)]
    exact I.2.2.2.1.2.2.1 k hk
  · rw [h2 (3 + i) (by omega) (by omega), h2 (3 + j) (by omega) (by omega)]
    exact I.2.2.2.1.2.2.2 i j hij hj
theorem sI_box (I : sI T N) (hR : sIb T (nB N b R) b) : sI T (nB N b R) := by
  have hd := sI_bd I
  refine sI_lo I (fun b' hb' => ?_) (fun k h1 h2 => nB_lo h2)
  by_cases e : b' = b
  · subst e; exact hR
  · exact sIb_congr (fun w hw => nB_ne e hw) (by omega) (sI_row I hb')
theorem sCf_rows (e3 : sF N' b 3 = sF N b 3) (e : ∀ w, 16 ≤ w → w < 44 → sF N' b w = sF N b w) (hc : sC N b ≤ 4) (h6 : sPi T ≤ 6) : sCf T N' b = sCf T N b := by
  have ec := sC_row e3
  unfold sCf
  rw [ec]
  refine zff_congr (fun i _ hi => ?_)
  rw [zff_congr (q := fun j => sAgr T N b i j) (fun j _ hj => ?_)]
  unfold sAgr sSame
  rw [e (16 + i) (by omega) (by omega), e (16 + j) (by omega) (by omega)]
  rw [zff_congr (q := fun p => !decide (sFd N b i p = sFd N b j p)) (fun p _ hp => ?_)]
  unfold sFd
  rw [e (20 + 6 * i + p) (by omega) (by omega), e (20 + 6 * j + p) (by omega) (by omega)]
theorem sVi_rows (ec : sC N' b = sC N b) (e : sCf T N' b = sCf T N b) : sVi T N' b = sVi T N b := by unfold sVi; rw [e, ec]
theorem rBx_congr (e : rowEq N N' b) (I : sIb T N b) (h6 : sPi T ≤ 6) (r : rBx T N b B) : rBx T N' b B := by
  have ec := sC_row (e 3 (by decide))
  have ee := sE_row (e 2 (by decide))
  have ef : sCf T N' b = sCf T N b := sCf_rows (e 3 (by decide)) (fun w _ h2 => e w h2) I.1.2 h6
  have ev := sVi_rows (T := T) ec ef
  obtain ⟨⟨b1, b2, b3, b4, b5, b6⟩, b7, b8, b9⟩ := r
  have i2 := I.1.2
  have i5 := I.2.1.2.2
  refine ⟨⟨by rw [b1, e 0 (by decide)], by rw [b2, e 1 (by decide)], by rw [b3, ee], by rw [b4, ec], by rw [b5, ec, ev], by rw [b6, ef]⟩, fun k hk => ?_, fun c hc => ?_, fun c p hc hp => ?_⟩
  · rw [ee] at hk
    rw [b7 k hk, e (4 + k) (by omega)]
  · rw [ec] at hc
    rw [b8 c hc, e (16 + c) (by omega)]
  · rw [ec] at hc
    rw [b9 c p hc hp]
    exact (e (20 + 6 * c + p) (by omega)).symm
/-- place, seal and ledger may change; the counts stay -/
theorem rBx_of {E' : Nat} (I : sIb T N b) (h6 : sPi T ≤ 6) (r : rBx T N b B) (h16 : ∀ w, 16 ≤ w → w < 44 → R w = sF N b w) (h3 : R 3 = sF N b 3) (h2 : R 2 = Int32.ofNat E') (hE : E' ≤ 12)
    (c0 : B' 0 0 = R 0) (c1 : B' 0 1 = R 1) (c2 : B' 0 2 = Int32.ofNat E') (c3 : B' 0 3 = B 0 3) (c4 : B' 0 4 = B 0 4) (c5 : B' 0 5 = B 0 5) (cl : ∀ e, e < E' → B' 1 e = R (4 + e)) (ct : B' 2 = B 2) (cf : B' 3 = B 3) : rBx T (nB N b R) b B' := by
  have e3 : sF (nB N b R) b 3 = sF N b 3 := by rw [nB_same (by decide), h3]
  have e16 : ∀ w, 16 ≤ w → w < 44 → sF (nB N b R) b w = sF N b w := fun w w1 w2 => by rw [nB_same w2, h16 w w1 w2]
  have ec := sC_row e3
  have ee : sE (nB N b R) b = E' := by unfold sE; rw [nB_same (by decide), h2, pn_nat (by omega)]
  have ef : sCf T (nB N b R) b = sCf T N b := sCf_rows e3 e16 I.1.2 h6
  have ev := sVi_rows (T := T) ec ef
  obtain ⟨⟨b1, b2, b3, b4, b5, b6⟩, b7, b8, b9⟩ := r
  have i2 := I.1.2
  refine ⟨⟨by rw [c0, nB_same (by decide)], by rw [c1, nB_same (by decide)], by rw [c2, ee], by rw [c3, b4, ec], by rw [c4, b5, ec, ev], by rw [c5, b6, ef]⟩, fun k hk => ?_, fun c hc => ?_, fun c p hc hp => ?_⟩
  · rw [ee] at hk
    rw [cl k hk, nB_same (by omega)]
  · rw [ec] at hc
    rw [ct, b8 c hc, e16 (16 + c) (by omega) (by omega)]
  · rw [ec] at hc
    rw [cf, b9 c p hc hp]
    exact (e16 (20 + 6 * c + p) (by omega) (by omega)).symm
theorem sIb_of {E' : Nat} (I : sIb T N b) (h6 : sPi T ≤ 6) (h16 : ∀ w, 16 ≤ w → w < 44 → R w = sF N b w) (h3 : R 3 = sF N b 3) (h2 : R 2 = Int32.ofNat E') (hE : E' ≤ 12) (hE1 : 1 ≤ E') : sIb T (nB N b R) b := by
  have e3 : sF (nB N b R) b 3 = sF N b 3 := by rw [nB_same (by decide), h3]
  have ec := sC_row e3
  have ee : sE (nB N b R) b = E' := by unfold sE; rw [nB_same (by decide), h2, pn_nat (by omega)]
  obtain ⟨⟨i1, i2⟩, ⟨i3, i4, i5⟩, i6⟩ := I
  refine ⟨⟨by rw [e3, ec, i1], by omega⟩, ⟨by rw [nB_same (by decide), ee, h2], by omega, by omega⟩, fun c p hc hp => ?_⟩
  rw [ec] at hc
  obtain ⟨r, h1, h2⟩ := i6 c p hc hp
  refine ⟨r, ?_, h2⟩
  rw [← h1]
  unfold sFd
  rw [nB_same (by omega), h16 _ (by omega) (by omega)]
/-- a box replaced in a state -/
theorem wSS_box (Y : wSS hp q T N) (I : sI T N) (hb : b < sN T 3) (X : wBx h (q + 4 + 4 * b) B) (r : rBx T (nB N b R) b B) (f : zfr hp h (q + 4 + 4 * b) 4) : wSS h q T (nB N b R) ∧ zfr hp h q 52 := by
  have hd := sI_bd I
  obtain ⟨G, g, s⟩ := Y
  obtain ⟨g', f'⟩ := st_box g (by omega) X f
  refine ⟨⟨_, g', ⟨fun i hi => ?_, ?_, ?_, fun k hk => ?_, fun b' hb' => ?_⟩⟩, f'⟩
  · rw [g1_ne _ _ (by omega), nB_lo (by omega)]; exact s.1 i hi
  · have eD : sD (nB N b R) = sD N := by unfold sD; rw [nB_lo (by decide)]
    rw [g1_ne _ _ (by omega), eD]; exact s.2.1
  · rw [g1_ne _ _ (by omega), nB_lo (by decide)]; exact s.2.2.1
  · have eD : sD (nB N b R) = sD N := by unfold sD; rw [nB_lo (by decide)]
    rw [eD] at hk
    have := (sI_d I).2
    rw [g1_ne _ _ (by omega), nB_lo (by omega)]; exact s.2.2.2.1 k hk
  · by_cases e : b' = b
    · subst e; rw [g1_self]; exact r
    · rw [g1_ne _ _ e]
      exact rBx_congr (fun w hw => nB_ne e hw) (sI_row I hb') (by omega) (s.2.2.2.2 b' hb')
theorem ss_box (Y : wSS hp q T N) (I : sI T N) (hb : b < sN T 3) : ∃ B, wBx hp (q + 4 + 4 * b) B ∧ rBx T N b B := by
  have hd := sI_bd I
  obtain ⟨G, g, s⟩ := Y
  exact ⟨_, g.2.2.2.2 b (by omega), s.2.2.2.2 b hb⟩
/-! the changes -/
def nP (N : Nat → Int32) (b : Nat) (v : Int32) : Nat → Int32 := nB N b (upd (sF N b) 0 v)
def nL (N : Nat → Int32) (b : Nat) (v : Int32) : Nat → Int32 := nB N b (upd (sF N b) 1 v)
def nO (N : Nat → Int32) (b : Nat) (t : Int32) : Nat → Int32 := nB N b (upd (upd (sF N b) 0 t) 1 0)
def nE (N : Nat → Int32) (b : Nat) (v : Int32) : Nat → Int32 := nB N b (upd (upd (sF N b) (4 + sE N b) v) 2 (Int32.ofNat (sE N b + 1)))
def nS (N : Nat → Int32) (b : Nat) : Nat → Int32 := upd (nB N b (upd (upd (upd (upd (sF N b) (4 + sE N b) (N 2)) 2 (Int32.ofNat (sE N b + 1))) 1 (N 2)) 0 (-4))) 2 (N 2 + 1)
theorem S_place (Y : wSS hp q T N) (I : sI T N) (hb : b < sN T 3) (v : Int32) : ∃ h, zpV hp (q + 4 + 4 * b) 0 0 (.int v) = some h ∧ wSS h q T (nP N b v) ∧ sI T (nP N b v) ∧ zfr hp h q 52 := by
  have hd := sI_bd I
  obtain ⟨B, X, r⟩ := ss_box Y I hb
  obtain ⟨h, e, X', f⟩ := bx_setI X (k := 0) (by decide) v
  have he := (sI_row I hb).2.1
  have i1 : sIb T (nP N b v) b := sIb_of (E' := sE N b) (sI_row I hb) (by omega) (fun w w1 w2 => by rw [zU, if_neg (by omega)]) (by rw [zU, if_neg (by omega)]) (by rw [zU, if_neg (by omega)]; exact he.1) he.2.2 he.2.1
  obtain ⟨Y', f'⟩ := wSS_box (R := upd (sF N b) 0 v) Y I hb X' (rBx_of (E' := sE N b) (sI_row I hb) (by omega) r (fun w w1 w2 => by rw [zU, if_neg (by omega)]) (by rw [zU, if_neg (by omega)]) (by rw [zU, if_neg (by omega)]; exact he.1) he.2.2 rfl r.1.2.1 r.1.2.2.1 rfl rfl rfl (fun e he => by rw [zU, if_neg (by omega)]; exact r.2.1 e he) rfl rfl) f
  exact ⟨h, e, Y', sI_box I i1, f'⟩
theorem S_seal (Y : wSS hp q T N) (I : sI T N) (hb : b < sN T 3) (v : Int32) : ∃ h, zpV hp (q + 4 + 4 * b) 0 1 (.int v) = some h ∧ wSS h q T (nL N b v) ∧ sI T (nL N b v) ∧ zfr hp h q 52 := by
  have hd := sI_bd I
  obtain ⟨B, X, r⟩ := ss_box Y I hb
  obtain ⟨h, e, X', f⟩ := bx_setI X (k := 1) (by decide) v
  have he := (sI_row I hb).2.1
  have i1 : sIb T (nL N b v) b := sIb_of (E' := sE N b) (sI_row I hb) (by omega) (fun w w1 w2 => by rw [zU, if_neg (by omega)]) (by rw [zU, if_neg (by omega)]) (by rw [zU, if_neg (by omega)]; exact he.1) he.2.2 he.2.1
  obtain ⟨Y', f'⟩ := wSS_box (R := upd (sF N b) 1 v) Y I hb X' (rBx_of (E' := sE N b) (sI_row I hb) (by omega) r (fun w w1 w2 => by rw [zU, if_neg (by omega)]) (by rw [zU, if_neg (by omega)]) (by rw [zU, if_neg (by omega)]; exact he.1) he.2.2 r.1.1 rfl r.1.2.2.1 rfl rfl rfl (fun e he => by rw [zU, if_neg (by omega)]; exact r.2.1 e he) rfl rfl) f
  exact ⟨h, e, Y', sI_box I i1, f'⟩
theorem S_open (Y : wSS hp q T N) (I : sI T N) (hb : b < sN T 3) (t : Int32) : ∃ h, f_X0_openOn (q + 4 + 4 * b) t hp = some (sF N b 1, h) ∧ wSS h q T (nO N b t) ∧ sI T (nO N b t) ∧ zfr hp h q 52 := by
  have hd := sI_bd I
  obtain ⟨B, X, r⟩ := ss_box Y I hb
  obtain ⟨h1, e1, X1, f1⟩ := bx_setI X (k := 1) (by decide) 0
  obtain ⟨h2, e2, X2, f2⟩ := bx_setI X1 (k := 0) (by decide) t
  have he := (sI_row I hb).2.1
  have h16 : ∀ w, 2 ≤ w → upd (upd (sF N b) 0 t) 1 0 w = sF N b w := fun w w1 => by rw [zU, if_neg (by omega), zU, if_neg (by omega)]
  have i1 : sIb T (nO N b t) b := sIb_of (E' := sE N b) (sI_row I hb) (by omega) (fun w w1 w2 => h16 w (by omega)) (h16 3 (by decide)) (by rw [h16 2 (by decide)]; exact he.1) he.2.2 he.2.1
  obtain ⟨Y', f'⟩ := wSS_box (R := upd (upd (sF N b) 0 t) 1 0) Y I hb X2 (rBx_of (E' := sE N b) (sI_row I hb) (by omega) r (fun w w1 w2 => h16 w (by omega)) (h16 3 (by decide)) (by rw [h16 2 (by decide)]; exact he.1) he.2.2 rfl rfl r.1.2.2.1 rfl rfl rfl (fun e he => by rw [h16 _ (by omega)]; exact r.2.1 e he) rfl rfl) (zfr_tr f1 f2)
  refine ⟨h2, ?_, Y', sI_box I i1, f'⟩
  simp only [f_X0_openOn, bx_is X, show zgI hp (q + 4 + 4 * b) 0 1 = some (sF N b 1) from (bx_I X (by decide)).trans (congrArg some r.1.2.1), e1, e2, Option.bind_some]
theorem bx_enter (X : wBx hp a B) {E : Nat} (e : B 0 2 = Int32.ofNat E) (hE : E < 12) (v : Int32) : ∃ h, f_X0_enter a v hp = some h ∧ wBx h a (w2 (w2 B 1 E v) 0 2 (Int32.ofNat (E + 1))) ∧ zfr hp h a 4 := by
  obtain ⟨h1, e1, X1, f1⟩ := bx_setA X (j := 1) (k := E) (by decide) (by decide) hE v
  obtain ⟨h2, e2, X2, f2⟩ := bx_setI X1 (k := 2) (by decide) (Int32.ofNat (E + 1))
  have e12 : Int32.ofNat E < 12 := by
    rw [show (12 : Int32) = Int32.ofNat 12 from rfl, pn_lt (by omega) (by decide)]
    exact hE
  refine ⟨h2, ?_, X2, zfr_tr f1 f2⟩
  simp only [f_X0_enter, bx_is X, show zgI hp a 0 2 = some (Int32.ofNat E) from (bx_I X (by decide)).trans (congrArg some e), e12, if_true, bx_R1 X, e1, show zgI h1 a 0 2 = some (Int32.ofNat E) from (bx_I X1 (by decide)).trans (congrArg some e), pn_succ, e2, Option.bind_some]
theorem S_enter (Y : wSS hp q T N) (I : sI T N) (hb : b < sN T 3) (hE : sE N b < 12) (v : Int32) : ∃ h, f_X0_enter (q + 4 + 4 * b) v hp = some h ∧ wSS h q T (nE N b v) ∧ sI T (nE N b v) ∧ zfr hp h q 52 := by
  have hd := sI_bd I
  obtain ⟨B, X, r⟩ := ss_box Y I hb
  obtain ⟨h1, e1, X1, f1⟩ := bx_enter X r.1.2.2.1 hE v
  have he := (sI_row I hb).2.1
  have g16 : ∀ w, 16 ≤ w → w < 44 → upd (upd (sF N b) (4 + sE N b) v) 2 (Int32.ofNat (sE N b + 1)) w = sF N b w := fun w w1 w2 => by rw [zU, if_neg (by omega), zU, if_neg (by omega)]
  have g3 : upd (upd (sF N b) (4 + sE N b) v) 2 (Int32.ofNat (sE N b + 1)) 3 = sF N b 3 := by rw [zU, if_neg (by omega), zU, if_neg (by omega)]
  have i1 : sIb T (nE N b v) b := sIb_of (E' := sE N b + 1) (sI_row I hb) (by omega) g16 g3 rfl (by omega) (by omega)
  obtain ⟨Y', f'⟩ := wSS_box (R := upd (upd (sF N b) (4 + sE N b) v) 2 (Int32.ofNat (sE N b + 1))) Y I hb X1 (rBx_of (E' := sE N b + 1) (sI_row I hb) (by omega) r g16 g3 rfl (by omega) (by rw [zU, if_neg (by omega), zU, if_neg (by omega)]; exact r.1.1) (by rw [zU, if_neg (by omega), zU, if_neg (by omega)]; exact r.1.2.1) rfl rfl rfl rfl (fun e he => by
    rw [w2_ne _ _ (by decide), w2_self, zU, zU, zU, if_neg (show ¬ 4 + e = 2 by omega)]
    by_cases c : e = sE N b
    · rw [if_pos c, if_pos (by omega)]
    · rw [if_neg c, if_neg (by omega)]; exact r.2.1 e (by omega)) rfl rfl) f1
  exact ⟨h1, e1, Y', sI_box I i1, f'⟩
/-- a change of a number below 10 -/
theorem wSS_lo (I : sI T N) (g : wSt h q G') (s : rS T N G) (hb : ∀ b, b < 12 → G' b = G b) (hk : ∀ k, 10 ≤ k → N' k = N k) (h0 : ∀ i, i < 2 → G' 12 0 i = N' i) (h3 : G' 12 2 3 = Int32.ofNat (sD N')) (h4 : G' 12 2 4 = N' 2) (h1 : ∀ k, k < sD N' → G' 12 1 k = N' (3 + k)) : wSS h q T N' := by
  have hd := sI_bd I
  refine ⟨G', g, h0, h3, h4, h1, fun b hb' => ?_⟩
  rw [hb b (by omega)]
  exact rBx_congr (fun w hw => hk _ (by omega)) (sI_row I hb') (by omega) (s.2.2.2.2 b hb')
theorem sI_lo10 (I : sI T N) (h1 : ∀ k, 3 ≤ k → N' k = N k) : sI T N' := by
  have hd := sI_bd I
  exact sI_lo I (fun b hb => sIb_congr (fun w hw => h1 _ (by omega)) (by omega) (sI_row I hb)) (fun k k1 k2 => h1 k k1)
theorem S_set (Y : wSS hp q T N) (I : sI T N) {i : Nat} (hi : i < 2) (v : Int32) : ∃ h, zsI hp (q + 2) (Int32.ofNat i) v = some h ∧ wSS h q T (upd N i v) ∧ sI T (upd N i v) ∧ zfr hp h q 52 := by
  obtain ⟨G, g, s⟩ := Y
  obtain ⟨h, e, g', f⟩ := st_setA g (j := 0) (k := i) (by decide) hi v
  have hD : sD (upd N i v) = sD N := by unfold sD; rw [zU, if_neg (by omega)]
  refine ⟨h, e, wSS_lo I g' s (fun b hb => g1_ne _ _ (by omega)) (fun k hk => by rw [zU, if_neg (by omega)]) (fun j hj => ?_) ?_ ?_ (fun k hk => ?_), sI_lo10 I (fun k hk => by rw [zU, if_neg (by omega)]), f⟩
  · rw [g1_self, w2_self, zU, zU]
    by_cases c : j = i
    · rw [if_pos c, if_pos c]
    · rw [if_neg c, if_neg c]; exact s.1 j hj
  · rw [g1_self, w2_ne _ _ (by decide), hD]; exact s.2.1
  · rw [g1_self, w2_ne _ _ (by decide), zU, if_neg (by omega)]; exact s.2.2.1
  · rw [hD] at hk
    rw [g1_self, w2_ne _ _ (by decide), zU, if_neg (by omega)]; exact s.2.2.2.1 k hk
theorem S_nx (Y : wSS hp q T N) (I : sI T N) (v : Int32) : ∃ h, zpV hp q 6 4 (.int v) = some h ∧ wSS h q T (upd N 2 v) ∧ sI T (upd N 2 v) ∧ zfr hp h q 52 := by
  obtain ⟨G, g, s⟩ := Y
  obtain ⟨h, e, g', f⟩ := st_setF g (k := 4) (Or.inr rfl) v
  have hD : sD (upd N 2 v) = sD N := by unfold sD; rw [zU, if_neg (by omega)]
  refine ⟨h, e, wSS_lo I g' s (fun b hb => g1_ne _ _ (by omega)) (fun k hk => by rw [zU, if_neg (by omega)]) (fun j hj => ?_) ?_ ?_ (fun k hk => ?_), sI_lo10 I (fun k hk => by rw [zU, if_neg (by omega)]), f⟩
  · rw [g1_self, w2_ne _ _ (by decide), zU, if_neg (by omega)]; exact s.1 j hj
  · rw [g1_self, w2_self, zU, if_neg (by decide), hD]; exact s.2.1
  · rw [g1_self, w2_self, zU, if_pos rfl, zU, if_pos rfl]
  · rw [hD] at hk
    rw [g1_self, w2_ne _ _ (by decide), zU, if_neg (by omega)]; exact s.2.2.2.1 k hk
theorem ss_nx (Y : wSS hp q T N) : zgI hp q 6 4 = some (N 2) := by
  obtain ⟨G, h, r⟩ := Y
  rw [← r.2.2.1]
  exact po_I h.1 rfl
theorem ss_B (Y : wSS hp q T N) {b : Nat} (hb : b < 12) : zaR hp 3 (q + 1) (Int32.ofNat b) = some (q + 4 + 4 * b) := by
  obtain ⟨G, h, -⟩ := Y
  exact st_B h hb
theorem ss_is (Y : wSS hp q T N) : zis hp q 6 = some () := let ⟨_, h, _⟩ := Y; st_is h
theorem ss_bx (Y : wSS hp q T N) : zgR hp q 6 0 = some (q + 1) := let ⟨_, h, _⟩ := Y; st_bx h
theorem S_sealUp (Y : wSS hp q T N) (I : sI T N) (hb : b < sN T 3) (hE : sE N b < 12) : ∃ h, f_X6_sealUp q (Int32.ofNat b) hp = some h ∧ wSS h q T (nS N b) ∧ sI T (nS N b) ∧ zfr hp h q 52 := by
  have hd := sI_bd I
  obtain ⟨B, X, r⟩ := ss_box Y I hb
  obtain ⟨h1, e1, X1, f1⟩ := bx_setI X (k := 1) (by decide) (N 2)
  obtain ⟨h2, e2, X2, f2⟩ := bx_enter X1 (E := sE N b) r.1.2.2.1 hE (N 2)
  obtain ⟨h3, e3, X3, f3⟩ := bx_setI X2 (k := 0) (by decide) (-4)
  have he := (sI_row I hb).2.1
  have f13 := zfr_tr (zfr_tr f1 f2) f3
  let R : Nat → Int32 := upd (upd (upd (upd (sF N b) (4 + sE N b) (N 2)) 2 (Int32.ofNat (sE N b + 1))) 1 (N 2)) 0 (-4)
  have g16 : ∀ w, 16 ≤ w → w < 44 → R w = sF N b w := fun w w1 w2 => by
    show upd (upd (upd (upd (sF N b) (4 + sE N b) (N 2)) 2 (Int32.ofNat (sE N b + 1))) 1 (N 2)) 0 (-4) w = _
    rw [zU, if_neg (by omega), zU, if_neg (by omega), zU, if_neg (by omega), zU, if_neg (by omega)]
  have g3 : R 3 = sF N b 3 := by
    show upd (upd (upd (upd (sF N b) (4 + sE N b) (N 2)) 2 (Int32.ofNat (sE N b + 1))) 1 (N 2)) 0 (-4) 3 = _
    rw [zU, if_neg (by omega), zU, if_neg (by omega), zU, if_neg (by omega), zU, if_neg (by omega)]
  have i1 : sIb T (nB N b R) b := sIb_of (E' := sE N b + 1) (sI_row I hb) (by omega) g16 g3 rfl (by omega) (by omega)
  obtain ⟨Y3, f3'⟩ := wSS_box (R := R) Y I hb X3 (rBx_of (E' := sE N b + 1) (sI_row I hb) (by omega) r g16 g3 rfl (by omega) rfl rfl rfl rfl rfl rfl (fun e he => by
    rw [w2_ne _ _ (by decide), w2_ne _ _ (by decide), w2_self, w2_ne _ _ (by decide)]
    have hR : R (4 + e) = if 4 + e = 4 + sE N b then N 2 else sF N b (4 + e) := by
      show upd (upd (upd (upd (sF N b) (4 + sE N b) (N 2)) 2 (Int32.ofNat (sE N b + 1))) 1 (N 2)) 0 (-4) (4 + e) = _
      rw [zU, if_neg (by omega), zU, if_neg (by omega), zU, if_neg (by omega), zU]
    rw [hR, zU]
    by_cases c : e = sE N b
    · rw [if_pos c, if_pos (by omega)]
    · rw [if_neg c, if_neg (by omega)]; exact r.2.1 e (by omega)) rfl rfl) f13
  have I3 := sI_box I i1
  obtain ⟨h4, e4, Y4, I4, f4⟩ := S_nx Y3 I3 (N 2 + 1)
  refine ⟨h4, ?_, Y4, I4, zfr_tr f3' f4⟩
  have n1 : zgI h1 q 6 4 = some (N 2) := by
    obtain ⟨G, g, s⟩ := Y
    rw [← s.2.2.1]
    exact po_I (by rw [f1 q (by omega)]; exact g.1) rfl
  have n3 : zgI h3 q 6 4 = some (N 2) := (ss_nx Y3).trans (congrArg some (nB_lo (by decide)))
  simp only [f_X6_sealUp, ss_is Y, ss_bx Y, ss_B Y (show b < 12 by omega), ss_nx Y, e1, n1, e2, e3, n3, e4, Option.bind_some]
end P42

