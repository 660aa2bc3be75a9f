/-! PURE: a count: what a table finds is a small number; the class chooses the valid count -/
section P43
variable {hp h hp' : zHp} {x a a' q b u c p hl t : Nat} {ea : Int32} {S B B' : Nat → Nat → Int32} {F T N N' R : Nat → Int32} {G G' : Nat → Nat → Nat → Int32}
theorem sAh_small (I : sI T N) (hb : b < sN T 3) : ∀ k, k ≤ sPi T → ∃ r, r ≤ k * 300 ∧ sAh T b k = Int32.ofNat r := fun k hk => by
  have hd := sI_bd I
  have h300 : k * 300 ≤ 6 * 300 := Nat.mul_le_mul_right 300 (by omega)
  exact zsum_small (f := fun k => sPap T b k) (B := 300) (n := k) (by omega) (fun j hj => by
    obtain ⟨r, h1, h2⟩ := sI_p I hb (show j < sPi T by omega)
    exact ⟨r, h1, h2⟩)
theorem sSl_small (I : sI T N) (hb : b < sN T 3) {k s : Nat} (hk : k < sPi T) (hs : s < 100) : ∃ r w, sSl T (Int32.ofNat s) b k = Int32.ofNat r ∧ r ≤ w ∧ w ≤ 300 ∧ sPap T b k = Int32.ofNat w := by
  have hd := sI_bd I
  obtain ⟨w, w1, w2⟩ := sI_p I hb hk
  obtain ⟨r, r1, r2⟩ := sAh_small I hb k (by omega)
  have h300 : k * 300 ≤ 6 * 300 := Nat.mul_le_mul_right 300 (by omega)
  unfold sSl
  by_cases q : s = 0
  · subst q
    exact ⟨0, w, by rw [if_pos (show Int32.ofNat 0 = 0 from rfl)]; rfl, by omega, w1, w2⟩
  · have hle : (r + w) / s ≤ r / s + w := by
      have h1 : r + w < (r / s + w + 1) * s := by
        have h2 : r < (r / s + 1) * s := by
          have := Nat.lt_mul_div_succ r (show 0 < s by omega)
          rw [Nat.mul_comm]; exact this
        have h3 : w ≤ w * s := Nat.le_mul_of_pos_right w (by omega)
        rw [show r / s + w + 1 = (r / s + 1) + w by omega, Nat.add_mul]
        omega
      have := (Nat.div_lt_iff_lt_mul (show 0 < s by omega)).mpr h1
      omega
    have hge : r / s ≤ (r + w) / s := Nat.div_le_div_right (by omega)
    refine ⟨(r + w) / s - r / s, w, ?_, by omega, w1, w2⟩
    rw [if_neg (by rw [pn_eq0 (by omega)]; exact q), r2, w2, ixa, Int32.ofNat_sub _ _ hge, Int32.ofNat_div (by omega) (by omega), Int32.ofNat_div (by omega) (by omega)]
theorem sFi_small (I : sI T N) (ht : t < sN T 4) (hb : b < sN T 3) {k : Nat} (hk : k < sPi T) : ∃ r, sFi T t b k = Int32.ofNat r ∧ r ≤ 600 := by
  have hd := sI_bd I
  obtain ⟨s, hs, es⟩ := sI_s I ht
  unfold sFi
  rw [es]
  obtain ⟨r1, w1, e1, l1, b1, p1⟩ := sSl_small I hb hk (show s < 100 by omega)
  obtain ⟨r2, w2, e2, l2, b2, p2⟩ := sSl_small I hb (k := if k = 0 then sN T 0 else k - 1) (by split <;> omega) (show s < 100 by omega)
  refine ⟨w1 - r1 + r2, ?_, by omega⟩
  rw [e1, e2, p1, ← Int32.ofNat_sub _ _ l1, ixa]
/-- the row of box b after a count at table t -/
def rC (T N : Nat → Int32) (b t : Nat) : Nat → Int32 := fun w => if w = 3 then Int32.ofNat (sC N b + 1) else if w = 16 + sC N b then Int32.ofNat t else if 20 + 6 * sC N b ≤ w ∧ w < 20 + 6 * sC N b + sPi T then sFi T t b (w - (20 + 6 * sC N b)) else sF N b w
def nC (T N : Nat → Int32) (b t : Nat) : Nat → Int32 := nB N b (rC T N b t)
theorem rC_lo {w : Nat} (hw : w < 3 ∨ (3 < w ∧ w < 16)) : rC T N b t w = sF N b w := by
  unfold rC
  rw [if_neg (by omega), if_neg (by omega), if_neg (by omega)]
theorem sIb_cnt (I : sI T N) (hb : b < sN T 3) (ht : t < sN T 4) (hC : sC N b < 4) : sIb T (nC T N b t) b := by
  have hd := sI_bd I
  obtain ⟨⟨i1, i2⟩, ⟨i3, i4, i5⟩, i6⟩ := sI_row I hb
  have e3 : sF (nC T N b t) b 3 = Int32.ofNat (sC N b + 1) := by
    unfold nC; rw [nB_same (by decide)]; rfl
  have ec : sC (nC T N b t) b = sC N b + 1 := by unfold sC; rw [e3, pn_nat (by omega)]; rfl
  have e2 : sF (nC T N b t) b 2 = sF N b 2 := by
    unfold nC; rw [nB_same (by decide), rC_lo (by omega)]
  have ee := sE_row e2
  refine ⟨⟨by rw [e3, ec], by omega⟩, ⟨by rw [e2, ee, i3], by omega, by omega⟩, fun c p hc hp => ?_⟩
  rw [ec] at hc
  unfold sFd nC
  rw [nB_same (by omega)]
  unfold rC
  rw [if_neg (by omega), if_neg (by omega)]
  by_cases e : c = sC N b
  · subst e
    rw [if_pos (by omega), show 20 + 6 * sC N b + p - (20 + 6 * sC N b) = p by omega]
    exact sFi_small I ht hb hp
  · rw [if_neg (by omega)]
    exact i6 c p (by omega) hp
/-! the class chooses -/
def rB0 (T N : Nat → Int32) (b : Nat) (B : Nat → Nat → Int32) : Prop := (B 0 0 = sF N b 0 ∧ B 0 1 = sF N b 1 ∧ B 0 2 = Int32.ofNat (sE N b) ∧ B 0 3 = Int32.ofNat (sC N b)) ∧
  (∀ e, e < sE N b → B 1 e = sF N b (4 + e)) ∧ (∀ c, c < sC N b → B 2 c = sF N b (16 + c)) ∧ ∀ c p, c < sC N b → p < sPi T → B 3 (6 * c + p) = sFd N b c p
theorem y_cnt (X : wBx hp a B) (r : rB0 T N b B) : zgI hp a 0 3 = some (Int32.ofNat (sC N b)) := (bx_I X (by decide)).trans (congrArg some r.1.2.2.2)
theorem y_tabA (X : wBx hp a B) (r : rB0 T N b B) (I : sIb T N b) {c : Nat} (hc : c < sC N b) : zaI hp 0 (a + 2) (Int32.ofNat c) = some (sF N b (16 + c)) := by
  have := I.1.2
  rw [← r.2.2.1 c hc]
  exact pa_rd (X.2.1 2 (by decide) (by decide)) (Or.inl rfl) (by show c < 4; omega) (by decide)
theorem y_foundBy (X : wBx hp a B) (r : rB0 T N b B) (I : sIb T N b) (h6 : sPi T ≤ 6) {c k : Nat} (hc : c < sC N b) (hk : k < sPi T) : f_X0_foundBy a (Int32.ofNat c) (Int32.ofNat k) hp = some (sFd N b c k) := by
  have := I.1.2
  have e : zaI hp 0 (a + 3) (Int32.ofNat (6 * c + k)) = some (sFd N b c k) := by
    rw [← r.2.2.2 c k hc hk]
    exact pa_rd (X.2.1 3 (by decide) (by decide)) (Or.inl rfl) (by show 6 * c + k < 24; omega) (by decide)
  simp only [f_X0_foundBy, bx_is X, bx_R3 X, im6', ixa, e, Option.bind_some]
theorem y_agree (X : wBx hp a B) (r : rB0 T N b B) (I : sIb T N b) (h6 : sPi T ≤ 6) {c o : Nat} (hc : c < sC N b) (ho : o < sC N b) : f_X0_agree a (Int32.ofNat c) (Int32.ofNat o) (Int32.ofNat (sPi T)) hp = some (zb (sAgr T N b c o)) := by
  simp (disch := omega) only [f_X0_agree, bx_is X, bx_R2 X, y_tabA X r I, Option.bind_some]
  refine (zFC (n := sPi T) (fun k => !decide (sFd N b c k = sFd N b o k)) (some 0) (some (zb (!decide (sF N b (16 + c) = sF N b (16 + o))))) (by omega) (fun m i hi => ?_) (fun m => ?_)).trans ?_
  · simp (disch := omega) only [l_X0_agree_3_s, b_X0_agree_3, y_foundBy X r I h6, Option.bind_some, pn_lt, hi, if_true, zlet, pn_succ]
    by_cases e : sFd N b c i = sFd N b o i
    · simp [e]
    · simp [e]
  · simp only [l_X0_agree_3_s, b_X0_agree_3, Int32.lt_irrefl, if_false, ite_some_zbP']
  · unfold sAgr sSame
    cases zff (fun k => !decide (sFd N b c k = sFd N b o k)) (sPi T) 0 <;> cases decide (sF N b (16 + c) = sF N b (16 + o)) <;> rfl
def sRepA (T N : Nat → Int32) (b c : Nat) : Bool := (zff (fun j => sAgr T N b c j) (sC N b - (c + 1)) (c + 1)).isSome
theorem y_rep (X : wBx hp a B) (r : rB0 T N b B) (I : sIb T N b) (h6 : sPi T ≤ 6) {c : Nat} (hc : c < sC N b) : f_X0_isRepeatedAfter a (Int32.ofNat c) (Int32.ofNat (sPi T)) hp = some (zb (sRepA T N b c)) := by
  have := I.1.2
  simp only [f_X0_isRepeatedAfter, bx_is X, Option.bind_some, zlet, pn_succ]
  refine (zFCk (n := sC N b) (by omega) (fun j => sAgr T N b c j) (some 1) (some 0) (by omega) (fun m j hj hj2 => ?_) (fun m => ?_)).trans (ite_some_zb _)
  · simp (disch := omega) only [l_X0_isRepeatedAfter_4_s, b_X0_isRepeatedAfter_4, y_cnt X r, y_agree X r I h6, Option.bind_some, pn_lt, hj2, if_true, zlet, pn_succ, zb_0, ite_bf]
  · simp only [l_X0_isRepeatedAfter_4_s, b_X0_isRepeatedAfter_4, y_cnt X r, Option.bind_some, Int32.lt_irrefl, if_false]
theorem sAgr_comm (T N : Nat → Int32) (b i j : Nat) : sAgr T N b i j = sAgr T N b j i := by
  unfold sAgr sSame
  rw [zff_congr (q := fun p => !decide (sFd N b j p = sFd N b i p)) (fun k _ _ => ?_)]
  · congr 1
    by_cases e : sF N b (16 + i) = sF N b (16 + j)
    · rw [decide_eq_true e, decide_eq_true e.symm]
    · rw [decide_eq_false e, decide_eq_false (fun r => e r.symm)]
  · by_cases e : sFd N b i k = sFd N b j k
    · rw [decide_eq_true e, decide_eq_true e.symm]
    · rw [decide_eq_false e, decide_eq_false (fun r => e r.symm)]
theorem sAgr_self (T N : Nat → Int32) (b i : Nat) : sAgr T N b i i = false := by
  unfold sAgr
  rw [decide_eq_true rfl]
  rfl
theorem sRepA_eq (T N : Nat → Int32) (b : Nat) : zff (sRepA T N b) (sC N b) 0 = sCf T N b := by
  have A : ∀ c, sRepA T N b c = true → (zff (fun j => sAgr T N b c j) (sC N b) 0).isSome = true := fun c h => by
    unfold sRepA at h
    rw [zffk_iff] at h ⊢
    obtain ⟨k, h1, h2, h3⟩ := h
    exact ⟨k, by omega, by omega, h3⟩
  unfold sCf
  cases hk : zff (fun i => (zff (fun j => sAgr T N b i j) (sC N b) 0).isSome) (sC N b) 0 with
  | none =>
    refine zff_none_of (fun j h1 h2 => ?_)
    have := zff_none hk j h1 h2
    cases hj : sRepA T N b j with
    | false => rfl
    | true => rw [A j hj] at this; cases this
  | some k =>
    obtain ⟨h1, h2, h3, h4⟩ := zff_some hk
    rw [zffk_iff] at h3
    obtain ⟨j, g1, g2, g3⟩ := h3
    have hjk : k < j := by
      rcases Nat.lt_trichotomy j k with c | c | c
      · have := h4 j (by omega) c
        have h5 : (zff (fun i => sAgr T N b j i) (sC N b) 0).isSome = true := zffk_iff.mpr ⟨k, by omega, by omega, by rw [sAgr_comm]; exact g3⟩
        rw [h5] at this; cases this
      · subst c; rw [sAgr_self] at g3; cases g3
      · exact c
    refine zff_some_of h1 h2 (by unfold sRepA; rw [zffk_iff]; exact ⟨j, by omega, by omega, g3⟩) (fun i i1 i2 => ?_)
    have := h4 i i1 i2
    cases hj : sRepA T N b i with
    | false => rfl
    | true => rw [A i hj] at this; cases this
/-- a search whose find needs one turn more -/
theorem zFs {R : Type} {l : Nat → Int32 → Option R} {n m : Nat} (p : Nat → Bool) (ex : Nat → Option R) (res : Option R) (hm : n + 1 < m)
    (hs : ∀ m i, i < n → l (m + 2) (Int32.ofNat i) = if p i = true then ex i else l (m + 1) (Int32.ofNat (i + 1))) (he : ∀ m, l (m + 1) (Int32.ofNat n) = res) : l m 0 = (match zff p n 0 with | some k => ex k | none => res) := by
  have H : ∀ d i m, i + d = n → d + 1 < m → l m (Int32.ofNat i) = (match zff p d i with | some k => ex k | none => res) := by
    intro d
    induction d with
    | zero =>
      intro i m hi hm
      obtain ⟨m, rfl⟩ : ∃ q, m = q + 1 := ⟨m - 1, by omega⟩
      have e : i = n := by omega
      subst e
      exact he m
    | succ d ih =>
      intro i m hi hm
      obtain ⟨m, rfl⟩ : ∃ q, m = q + 2 := ⟨m - 2, by omega⟩
      rw [hs m i (by omega)]
      unfold zff
      cases p i with
      | true => rfl
      | false => exact ih (i + 1) (m + 1) (by omega) (by omega)
  exact H n 0 m (by omega) hm
theorem rB0_w {k : Nat} {v : Int32} (hk : k = 4 ∨ k = 5) (r : rB0 T N b B) : rB0 T N b (w2 B 0 k v) := by
  obtain ⟨⟨r1, r2, r3, r4⟩, r5, r6, r7⟩ := r
  refine ⟨⟨?_, ?_, ?_, ?_⟩, r5, r6, r7⟩
  · rw [w2_self, zU, if_neg (by omega)]; exact r1
  · rw [w2_self, zU, if_neg (by omega)]; exact r2
  · rw [w2_self, zU, if_neg (by omega)]; exact r3
  · rw [w2_self, zU, if_neg (by omega)]; exact r4
theorem y_choose (X : wBx hp a B) (r : rB0 T N b B) (I : sIb T N b) (h6 : sPi T ≤ 6) (h0 : ¬ sC N b = 0) : ∃ h B', f_X0_chooseValid a (Int32.ofNat (sPi T)) hp = some h ∧ wBx h a B' ∧ rBx T N b B' ∧ zfr hp h a 4 := by
  have hC := I.1.2
  obtain ⟨c, hc⟩ : ∃ c, sC N b = c + 1 := ⟨sC N b - 1, by omega⟩
  obtain ⟨h1, e1, X1, f1⟩ := bx_setI X (k := 4) (by decide) (Int32.ofNat c)
  obtain ⟨h2, e2, X2, f2⟩ := bx_setZ X1 (v := 0) (Or.inl rfl)
  have r2 := rB0_w (v := 0) (Or.inr rfl) (rB0_w (v := Int32.ofNat c) (k := 4) (Or.inl rfl) r)
  have n5 : zgI h2 a 0 5 = some 0 := bx_I X2 (k := 5) (by decide)
  have run : ∀ k, k < sC N b → ∃ h, (∃ B', wBx h a B' ∧ rB0 T N b B' ∧ B' 0 4 = Int32.ofNat k ∧ B' 0 5 = 1 ∧ zfr h2 h a 4) ∧ (zpV h2 a 0 4 (.int (Int32.ofNat k))).bind (fun h8 => (zpZ h8 a 0 5 1).bind (fun h9 => some h9)) = some h := fun k hk => by
    obtain ⟨h3, e3, X3, f3⟩ := bx_setI X2 (k := 4) (by decide) (Int32.ofNat k)
    obtain ⟨h4, e4, X4, f4⟩ := bx_setZ X3 (v := 1) (Or.inr rfl)
    refine ⟨h4, ⟨_, X4, rB0_w (Or.inr rfl) (rB0_w (Or.inl rfl) r2), rfl, rfl, zfr_tr f3 f4⟩, ?_⟩
    rw [e3, Option.bind_some, e4, Option.bind_some]
  have loop : l_X0_chooseValid_17 (fun h11 => some h11) a (Int32.ofNat (sPi T)) 1000000 0 h2 = (match zff (sRepA T N b) (sC N b) 0 with | some k => (zpV h2 a 0 4 (.int (Int32.ofNat k))).bind (fun h8 => (zpZ h8 a 0 5 1).bind (fun h9 => some h9)) | none => some h2) := by
    refine zFs (l := fun m i => l_X0_chooseValid_17 (fun h11 => some h11) a (Int32.ofNat (sPi T)) m i h2) (sRepA T N b) _ _ (by omega) (fun m i hi => ?_) (fun m => ?_)
    · simp (disch := omega) only [l_X0_chooseValid_17_s, b_X0_chooseValid_17, y_cnt X2 r2, n5, y_rep X2 r2 I h6, Option.bind_some, pn_lt, hi, if_true, zb_0, ite_bf, zlet, pn_succ]
      by_cases e : sRepA T N b i = true
      · rw [if_pos e, if_pos e]
        obtain ⟨h3, e3, X3, f3⟩ := bx_setI X2 (k := 4) (by decide) (Int32.ofNat i)
        obtain ⟨h4, e4, X4, f4⟩ := bx_setZ X3 (v := 1) (Or.inr rfl)
        have r4 := rB0_w (v := 1) (Or.inr rfl) (rB0_w (v := Int32.ofNat i) (k := 4) (Or.inl rfl) r2)
        rw [e3, Option.bind_some, Option.bind_some, e4, Option.bind_some, Option.bind_some]
        simp only [y_cnt X4 r4, show zgI h4 a 0 5 = some 1 from bx_I X4 (k := 5) (by decide), Option.bind_some, show ¬ (1 : Int32) = 0 by decide, if_false, ite_self]
      · rw [if_neg e, if_neg e]
    · simp only [l_X0_chooseValid_17_s, b_X0_chooseValid_17, y_cnt X2 r2, Option.bind_some, Int32.lt_irrefl, if_false]
  have start : f_X0_chooseValid a (Int32.ofNat (sPi T)) hp = l_X0_chooseValid_17 (fun h11 => some h11) a (Int32.ofNat (sPi T)) 1000000 0 h2 := by
    simp only [f_X0_chooseValid, bx_is X, y_cnt X r, Option.bind_some, hc, is1, e1, e2]
  rw [start, loop, sRepA_eq]
  cases hk : sCf T N b with
  | none =>
    refine ⟨h2, _, rfl, X2, ⟨⟨r2.1.1, r2.1.2.1, r2.1.2.2.1, r2.1.2.2.2, ?_, ?_⟩, r2.2⟩, zfr_tr f1 f2⟩
    · rw [if_neg h0]
      unfold sVi
      rw [hk, hc]
      rfl
    · rw [hk]; rfl
  | some k =>
    have := sCf_lt hk
    obtain ⟨h3, ⟨B3, X3, r3, v1, v2, f3⟩, e3⟩ := run k this
    refine ⟨h3, B3, e3, X3, ⟨⟨r3.1.1, r3.1.2.1, r3.1.2.2.1, r3.1.2.2.2, ?_, ?_⟩, r3.2⟩, zfr_tr (zfr_tr f1 f2) f3⟩
    · rw [v1, if_neg h0]
      unfold sVi
      rw [hk]
    · rw [v2, hk]; rfl
theorem S_count (H : wH hp hl p q T N) (hb : b < sN T 3) (ht : t < sN T 4) (hC : sC N b < 4) (d1 : hl < q ∨ q + 52 ≤ hl) (d2 : p + 28 ≤ q ∨ q + 52 ≤ p) : ∃ h, f_X1_addCount hl (Int32.ofNat b) (Int32.ofNat t) hp = some h ∧ wSS h q T (nC T N b t) ∧ sI T (nC T N b t) ∧ zfr hp h q 52 := by
  have I := hh_I H
  have hd := sI_bd I
  have I1 := sIb_cnt I hb ht hC
  obtain ⟨B, X, r⟩ := ss_box H.2.2.1 I hb
  have nb : nC T N b t = nB N b (rC T N b t) := rfl
  have e3 : sF (nC T N b t) b 3 = Int32.ofNat (sC N b + 1) := by rw [nb, nB_same (by decide)]; rfl
  have ec : sC (nC T N b t) b = sC N b + 1 := by unfold sC; rw [e3, pn_nat (by omega)]; rfl
  have ee : sE (nC T N b t) b = sE N b := by
    refine sE_row ?_
    rw [nb, nB_same (by decide), rC_lo (by omega)]
  obtain ⟨h1, e1, X1, f1⟩ := bx_setA X (j := 2) (k := sC N b) (by decide) (by decide) hC (Int32.ofNat t)
  have hle : q + 4 + 4 * b + 4 ≤ q + 52 := by omega
  have PL : ∀ {h : zHp}, zfr hp h (q + 4 + 4 * b) 4 → wPl h p T := fun {h} f => pl_fr H.2.1 (fun i i1 i2 => f i (by omega))
  have HL : ∀ {h : zHp}, zfr hp h (q + 4 + 4 * b) 4 → zgR h hl 1 0 = some p := fun {h} f => po_R (by rw [f hl (by omega)]; exact H.1) rfl
  generalize hK : (fun h14 : zHp => (zgI h14 (q + 4 + 4 * b) 0 3).bind fun v15 => (zpV h14 (q + 4 + 4 * b) 0 3 (.int (v15 + 1))).bind fun h16 => (zgR h16 hl 1 0).bind fun r17 => (f_X5_piles r17 h16).bind fun v18 => (f_X0_chooseValid (q + 4 + 4 * b) v18 h16).bind fun h19 => some h19) = K
  obtain ⟨h2, ⟨B2, X2, k0, k1, k2, k3, f2⟩, e2⟩ := zFH (l := l_X1_addCount_34 K hl (Int32.ofNat b) (Int32.ofNat t) (q + 4 + 4 * b) (Int32.ofNat (sC N b))) (hp := h1) (n := sPi T) (m := 1000000) (k := K) (fun i h => ∃ B', wBx h (q + 4 + 4 * b) B' ∧ B' 0 = B 0 ∧ B' 1 = B 1 ∧ B' 2 = upd (B 2) (sC N b) (Int32.ofNat t) ∧ (∀ k, B' 3 k = if 6 * sC N b ≤ k ∧ k < 6 * sC N b + i then sFi T t b (k - 6 * sC N b) else B 3 k) ∧ zfr hp h (q + 4 + 4 * b) 4) (by omega) ⟨_, X1, rfl, rfl, rfl, fun k => by rw [if_neg (by omega)]; rfl, f1⟩ (fun i h hi ⟨B', Z, z0, z1, z2, z3, f⟩ => by
      obtain ⟨h', e', Z', f'⟩ := bx_setA Z (j := 3) (k := 6 * sC N b + i) (by decide) (by decide) (by show 6 * sC N b + i < 24; omega) (sFi T t b i)
      refine ⟨h', ⟨_, Z', z0, z1, z2, fun k => ?_, zfr_tr f f'⟩, fun m => ?_⟩
      · rw [w2_self, zU]
        by_cases c : k = 6 * sC N b + i
        · rw [if_pos c, if_pos (by omega)]
          congr 1
          omega
        · rw [if_neg c, z3 k]
          by_cases c2 : 6 * sC N b ≤ k ∧ k < 6 * sC N b + i
          · rw [if_pos c2, if_pos (by omega)]
          · rw [if_neg c2, if_neg (by omega)]
      · simp (disch := omega) only [l_X1_addCount_34_s, b_X1_addCount_34, HL f, c_piles (PL f), pn_lt, hi, if_true, bx_R3 Z, c_wouldFind (PL f) I, im6', ixa, e', Option.bind_some, zlet, pn_succ]) (fun h ⟨B', Z, z0, z1, z2, z3, f⟩ m => by
      simp only [l_X1_addCount_34_s, b_X1_addCount_34, HL f, c_piles (PL f), Option.bind_some, Int32.lt_irrefl, if_false])
  obtain ⟨h3, e3', X3, f3⟩ := bx_setI X2 (k := 3) (by decide) (Int32.ofNat (sC N b + 1))
  have f13 := zfr_tr f2 f3
  have r3 : rB0 T (nC T N b t) b (w2 B2 0 3 (Int32.ofNat (sC N b + 1))) := by
    refine ⟨⟨?_, ?_, ?_, ?_⟩, fun e he => ?_, fun c hc => ?_, fun c k hc hk => ?_⟩
    · rw [w2_self, zU, if_neg (by decide), k0, nb, nB_same (by decide), rC_lo (by omega)]; exact r.1.1
    · rw [w2_self, zU, if_neg (by decide), k0, nb, nB_same (by decide), rC_lo (by omega)]; exact r.1.2.1
    · rw [w2_self, zU, if_neg (by decide), k0, ee]; exact r.1.2.2.1
    · rw [w2_self, zU, if_pos rfl, ec]
    · rw [ee] at he
      have := (sI_e I hb).2.2
      rw [w2_ne _ _ (by decide), k1, nb, nB_same (by omega), rC_lo (by omega)]
      exact r.2.1 e he
    · rw [ec] at hc
      rw [w2_ne _ _ (by decide), k2, nb, nB_same (by omega), zU]
      unfold rC
      rw [if_neg (show ¬ 16 + c = 3 by omega)]
      by_cases c2 : c = sC N b
      · rw [if_pos c2, if_pos (by omega)]
      · rw [if_neg c2, if_neg (by omega), if_neg (by omega)]
        exact r.2.2.1 c (by omega)
    · rw [ec] at hc
      rw [w2_ne _ _ (by decide), k3]
      have hR : sFd (nC T N b t) b c k = if c = sC N b then sFi T t b k else sFd N b c k := by
        unfold sFd
        rw [nb, nB_same (by omega)]
        unfold rC
        rw [if_neg (show ¬ 20 + 6 * c + k = 3 by omega), if_neg (show ¬ 20 + 6 * c + k = 16 + sC N b by omega)]
        by_cases c2 : c = sC N b
        · rw [if_pos (by omega), if_pos c2]
          congr 1
          omega
        · rw [if_neg (by omega), if_neg c2]
      rw [hR]
      by_cases c2 : c = sC N b
      · rw [if_pos (by omega), if_pos c2]
        congr 1
        omega
      · rw [if_neg (by omega), if_neg c2]
        exact r.2.2.2 c k (by omega) hk
  obtain ⟨h4, B4, e4, X4, r4, f4⟩ := y_choose X3 r3 I1 (by omega) (by omega)
  obtain ⟨Y', f'⟩ := wSS_box (R := rC T N b t) H.2.2.1 I hb X4 r4 (zfr_tr f13 f4)
  refine ⟨h4, ?_, Y', sI_box I I1, f'⟩
  have e4C : Int32.ofNat (sC N b) < 4 := by
    rw [show (4 : Int32) = Int32.ofNat 4 from rfl, pn_lt (by omega) (by decide)]
    exact hC
  simp (disch := omega) only [f_X1_addCount, hh_is H, hh_q H, hs_bx H, hs_box H, k_cnt H, e4C, if_true, k_tab H, e1, Option.bind_some]
  rw [hK, e2, ← hK]
  simp only [show zgI h2 (q + 4 + 4 * b) 0 3 = some (Int32.ofNat (sC N b)) from (bx_I X2 (by decide)).trans (by rw [k0]; exact congrArg some r.1.2.2.2.1), pn_succ, e3', HL f13, c_piles (PL f13), e4, Option.bind_some]
/-! a ward declared -/
def nD (N : Nat → Int32) (w : Int32) : Nat → Int32 := upd (upd N (3 + sD N) w) 9 (Int32.ofNat (sD N + 1))
theorem sD_room (I : sI T N) {w : Nat} (hw : w < sN T 2) (hn : sDecl N (Int32.ofNat w) = false) : sD N < 6 := by
  have hd := sI_bd I
  have hdd := sI_d I
  have h1 : zsum (fun _ => (1 : Int32)) (sD N + 1) = zsum (fun y => if zany (fun k => decide ((fun k => if k = sD N then w else sO N k) k = y)) (sD N + 1) = true then (1 : Int32) else 0) (sN T 2) := by
    refine zsum_places (fun k => if k = sD N then w else sO N k) (sN T 2) (fun _ => 1) (sD N + 1) (fun k hk => ?_) (fun i j hi hj e => ?_)
    · by_cases c : k = sD N
      · rw [if_pos c]; exact hw
      · rw [if_neg c]; exact (sI_o I (by omega)).1
    · have key : ∀ k, k < sD N → ¬ sO N k = w := fun k hk e' => by
        have := (sDecl_iff I hw).mpr ⟨k, hk, e'⟩
        rw [hn] at this; cases this
      by_cases c : i = sD N
      · by_cases c2 : j = sD N
        · omega
        · rw [if_pos c, if_neg c2] at e
          exact (key j (by omega) e.symm).elim
      · by_cases c2 : j = sD N
        · rw [if_neg c, if_pos c2] at e
          exact (key i (by omega) e).elim
        · rw [if_neg c, if_neg c2] at e
          exact sI_inj I (by omega) (by omega) e
  have h2 : ∀ n, zsum (fun _ => (1 : Int32)) n = Int32.ofNat n := by
    intro n
    induction n with
    | zero => rfl
    | succ n ih => rw [zsum_s, ih, pn_succ]
  rw [h2, ← sCnt_eq] at h1
  obtain ⟨r, h3, h4, -⟩ := sCnt_small (fun y => zany (fun k => decide ((fun k => if k = sD N then w else sO N k) k = y)) (sD N + 1)) (sN T 2)
  rw [h4, pn_inj (by omega) (by omega)] at h1
  omega
theorem S_decl (Y : wSS hp q T N) (I : sI T N) {w : Nat} (hw : w < sN T 2) (hn : sDecl N (Int32.ofNat w) = false) : ∃ h, f_X6_addDeclared q (Int32.ofNat w) hp = some h ∧ wSS h q T (nD N (Int32.ofNat w)) ∧ sI T (nD N (Int32.ofNat w)) ∧ zfr hp h q 52 := by
  have hd := sI_bd I
  have h6 := sD_room I hw hn
  have hdd := sI_d I
  obtain ⟨G, g, s⟩ := Y
  obtain ⟨h1, e1, g1', f1⟩ := st_setA g (j := 1) (k := sD N) (by decide) h6 (Int32.ofNat w)
  obtain ⟨h2, e2, g2', f2⟩ := st_setF g1' (k := 3) (Or.inl rfl) (Int32.ofNat (sD N + 1))
  have hD : sD (nD N (Int32.ofNat w)) = sD N + 1 := by unfold sD nD; rw [zU, if_pos rfl, pn_nat (by omega)]; rfl
  have hlo : ∀ k, k < 3 ∨ 10 ≤ k → nD N (Int32.ofNat w) k = N k := fun k hk => by unfold nD; rw [zU, if_neg (by omega), zU, if_neg (by omega)]
  have hin : ∀ k, k < sD N + 1 → nD N (Int32.ofNat w) (3 + k) = if k = sD N then Int32.ofNat w else N (3 + k) := fun k hk => by
    unfold nD
    rw [zU, if_neg (by omega), zU]
    by_cases c : k = sD N
    · rw [if_pos (by omega), if_pos c]
    · rw [if_neg (by omega), if_neg c]
  have I2 : sI T (nD N (Int32.ofNat w)) := by
    refine sI_mk I (fun b hb => sIb_congr (fun w hw => hlo _ (by omega)) (by omega) (sI_row I hb)) ?_
    rw [hD]
    have key : ∀ k, k < sD N → ¬ N (3 + k) = Int32.ofNat w := fun k hk e' => by
      rw [(sI_o I hk).2, pn_inj (by have := (sI_o I hk).1; omega) (by omega)] at e'
      have := (sDecl_iff I hw).mpr ⟨k, hk, e'⟩
      rw [hn] at this; cases this
    refine ⟨by unfold nD; rw [zU, if_pos rfl], by omega, fun k hk => ?_, fun i j hij hj => ?_⟩
    · rw [hin k hk]
      by_cases c : k = sD N
      · rw [if_pos c]; exact ⟨w, hw, rfl⟩
      · rw [if_neg c]; exact I.2.2.2.1.2.2.1 k (by omega)
    · rw [hin i (by omega), hin j hj, if_neg (by omega)]
      by_cases c : j = sD N
      · rw [if_pos c]; exact key i (by omega)
      · rw [if_neg c]; exact I.2.2.2.1.2.2.2 i j hij (by omega)
  refine ⟨h2, ?_, wSS_lo I g2' s (fun b hb => by rw [g1_ne _ _ (by omega), g1_ne _ _ (by omega)]) (fun k hk => hlo k (by omega)) (fun j hj => ?_) ?_ ?_ (fun k hk => ?_), I2, zfr_tr f1 f2⟩
  · have e6 : Int32.ofNat (sD N) < 6 := by
      rw [show (6 : Int32) = Int32.ofNat 6 from rfl, pn_lt (by omega) (by decide)]
      exact h6
    simp only [f_X6_addDeclared, st_is g, show zgI hp q 6 3 = some (Int32.ofNat (sD N)) from (st_dw g).trans (congrArg some s.2.1), e6, if_true, st_ord g, show zsI hp (q + 3) (Int32.ofNat (sD N)) (Int32.ofNat w) = some h1 from e1, show zgI h1 q 6 3 = some (Int32.ofNat (sD N)) from (st_dw g1').trans (congrArg some s.2.1), pn_succ, e2, Option.bind_some]
  · rw [hlo j (by omega)]; exact s.1 j hj
  · rw [hD]; rfl
  · rw [hlo 2 (by decide)]; exact s.2.2.1
  · rw [hD] at hk
    rw [hin k hk]
    show upd (G 12 1) (sD N) (Int32.ofNat w) k = _
    rw [zU]
    by_cases c : k = sD N
    · rw [if_pos c, if_pos c]
    · rw [if_neg c, if_neg c]; exact s.2.2.2.1 k (by omega)
end P43

