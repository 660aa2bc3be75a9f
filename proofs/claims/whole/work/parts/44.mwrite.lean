/-! PURE: the reference's writes -/
section P44
variable {hp h hp' : zHp} {x a a' q b u c p hl t : Nat} {S : Nat → Nat → Int32} {F T N N' R : Nat → Int32}
/-- the reference, its plan T and its state N -/
def rr (hp : zHp) (x : Nat) (T N : Nat → Int32) : Prop := ∃ S, wM hp x S ∧ S 2 = T ∧ S 4 = N
theorem rr_of (W : wMF hp x F S) : rr hp x (S 2) (S 4) := ⟨S, ⟨F, W⟩, rfl, rfl⟩
theorem rr_g (W : wMF hp x F (g1 S 4 N)) : rr hp x (S 2) N := ⟨_, ⟨F, W⟩, g1_ne _ _ (by decide), g1_self _ _ _⟩
theorem m_is (h : rr hp x T N) : zis hp x 8 = some () := by obtain ⟨S, h, rfl, rfl⟩ := h; exact wm_is h
theorem m_N (h : rr hp x T N) : zgR hp x 8 5 = some (x + 4) := by obtain ⟨S, h, rfl, rfl⟩ := h; exact wm_N h
theorem m_T (h : rr hp x T N) : zgR hp x 8 3 = some (x + 2) := by obtain ⟨S, h, rfl, rfl⟩ := h; exact wm_T h
theorem m_now (h : rr hp x T N) {k : Nat} (hk : k < 538) : zaI hp 0 (x + 4) (Int32.ofNat k) = some (N k) := by obtain ⟨S, h, rfl, rfl⟩ := h; exact wm_now h hk
theorem m_now2 (h : rr hp x T N) : zaI hp 0 (x + 4) 2 = some (N 2) := m_now h (k := 2) (by decide)
theorem m_now9 (h : rr hp x T N) (I : sI T N) : zaI hp 0 (x + 4) 9 = some (Int32.ofNat (sD N)) := (m_now h (k := 9) (by decide)).trans (congrArg some (sI_d I).1)
theorem m_told (h : rr hp x T N) {k : Nat} (hk : k < 144) : zaI hp 0 (x + 2) (Int32.ofNat k) = some (T k) := by obtain ⟨S, h, rfl, rfl⟩ := h; exact wm_told h hk
theorem m_of (h : rr hp x T N) {b w : Nat} (hb : b < 12) (hw : w < 44) : f_X8_of x (Int32.ofNat b) (Int32.ofNat w) hp = some (sF N b w) := by obtain ⟨S, h, rfl, rfl⟩ := h; exact q_of h hb hw
theorem m_of0 (h : rr hp x T N) {b : Nat} (hb : b < 12) : f_X8_of x (Int32.ofNat b) 0 hp = some (sF N b 0) := m_of h (w := 0) hb (by decide)
theorem m_of1 (h : rr hp x T N) {b : Nat} (hb : b < 12) : f_X8_of x (Int32.ofNat b) 1 hp = some (sF N b 1) := m_of h (w := 1) hb (by decide)
theorem m_of2 (h : rr hp x T N) (I : sI T N) {b : Nat} (hb : b < sN T 3) : f_X8_of x (Int32.ofNat b) 2 hp = some (Int32.ofNat (sE N b)) := by obtain ⟨S, h, rfl, rfl⟩ := h; exact q_of2 h I hb
theorem m_of3 (h : rr hp x T N) (I : sI T N) {b : Nat} (hb : b < sN T 3) : f_X8_of x (Int32.ofNat b) 3 hp = some (Int32.ofNat (sC N b)) := by obtain ⟨S, h, rfl, rfl⟩ := h; exact q_of3 h I hb
theorem m_many4 (h : rr hp x T N) (I : sI T N) : f_X8_many x 4 hp = some (Int32.ofNat (sN T 4)) := by obtain ⟨S, h, rfl, rfl⟩ := h; exact q_many4 h I
theorem m_piles (h : rr hp x T N) (I : sI T N) : f_X8_piles x hp = some (Int32.ofNat (sPi T)) := by obtain ⟨S, h, rfl, rfl⟩ := h; exact p_piles h I
theorem m_is3 (h : rr hp x T N) (I : sI T N) (y : Int32) : f_X8_is x 3 y hp = some (zb (inr y (sN T 3))) := by obtain ⟨S, h, rfl, rfl⟩ := h; exact q_is3 h I y
theorem m_is4 (h : rr hp x T N) (I : sI T N) (y : Int32) : f_X8_is x 4 y hp = some (zb (inr y (sN T 4))) := by obtain ⟨S, h, rfl, rfl⟩ := h; exact q_is4 h I y
theorem m_finds (h : rr hp x T N) (I : sI T N) {t b p : Nat} (ht : t < 4) (hb : b < 12) (hp' : p < sPi T) : f_X8_finds x (Int32.ofNat t) (Int32.ofNat b) (Int32.ofNat p) hp = some (sFi T t b p) := by obtain ⟨S, h, rfl, rfl⟩ := h; exact p_finds h I ht hb hp'
theorem m_boxOn (h : rr hp x T N) (I : sI T N) (t : Int32) : f_X8_boxOn x t hp = some (zoi (sOn T N t)) := by obtain ⟨S, h, rfl, rfl⟩ := h; exact p_boxOn h I t
theorem m_toOpen (h : rr hp x T N) (I : sI T N) (due t : Int32) : f_X8_toOpen x due t hp = some (zoi (sOpn T N due t)) := by obtain ⟨S, h, rfl, rfl⟩ := h; exact q_toOpen h I due t
theorem m_isGood (h : rr hp x T N) (I : sI T N) {b : Nat} (hb : b < sN T 3) : f_X8_isGood x (Int32.ofNat b) hp = some (zb (sGood N b)) := by obtain ⟨S, h, rfl, rfl⟩ := h; exact p_isGood h I hb
theorem m_isAt (h : rr hp x T N) {b : Nat} (hb : b < 12) : f_X8_isAtTable x (Int32.ofNat b) hp = some (zb (sAtT N b)) := by obtain ⟨S, h, rfl, rfl⟩ := h; exact p_isAtT h hb
theorem m_isDecl (h : rr hp x T N) (I : sI T N) (w : Int32) : f_X8_isDeclared x w hp = some (zb (sDecl N w)) := by obtain ⟨S, h, rfl, rfl⟩ := h; exact p_isDecl h I w
theorem m_due (h : rr hp x T N) (I : sI T N) : f_X8_due x hp = some (sDue T N) := by obtain ⟨S, h, rfl, rfl⟩ := h; exact q_due h I
theorem m_comes (h : rr hp x T N) (I : sI T N) : f_X8_comes x hp = some (sCome T N) := by obtain ⟨S, h, rfl, rfl⟩ := h; exact q_comes h I
theorem m_inHall (h : rr hp x T N) (I : sI T N) : f_X8_inHall x hp = some (sInH T N) := by obtain ⟨S, h, rfl, rfl⟩ := h; exact q_inHall h I
theorem w2_g1 (S : Nat → Nat → Int32) (j k : Nat) (v : Int32) : w2 S j k v = g1 S j (upd (S j) k v) := by
  funext i
  unfold w2 g1
  by_cases e : i = j
  · subst e; rw [if_pos rfl]
  · rw [if_neg e, if_neg e]
theorem g1_g1 {α : Type} (S : Nat → α) (j : Nat) (A B : α) : g1 (g1 S j A) j B = g1 S j B := by
  funext i
  unfold g1
  by_cases e : i = j
  · rw [if_pos e, if_pos e]
  · rw [if_neg e, if_neg e, if_neg e]
theorem g1_id {α : Type} (S : Nat → α) (j : Nat) : g1 S j (S j) = S := by
  funext i
  unfold g1
  by_cases e : i = j
  · rw [if_pos e, e]
  · rw [if_neg e]
theorem m_nowW (W : wMF hp x F (g1 S 4 N)) {k : Nat} (hk : k < 538) (v : Int32) : ∃ h, zsI hp (x + 4) (Int32.ofNat k) v = some h ∧ wMF h x F (g1 S 4 (upd N k v)) ∧ zfr hp h x 8 := by
  obtain ⟨h, e, W', f⟩ := wMF_arr W (j := 4) (k := k) (by decide) (by decide) hk v
  rw [w2_g1, g1_g1, g1_self] at W'
  exact ⟨h, e, W', f⟩
theorem m_sets (W : wMF hp x F (g1 S 4 N)) {b w : Nat} (hb : b < 12) (hw : w < 44) {i : Int32} (hi : i = Int32.ofNat w) (v : Int32) : ∃ h, f_X8_sets x (Int32.ofNat b) i v hp = some h ∧ wMF h x F (g1 S 4 (nB N b (upd (sF N b) w v))) ∧ zfr hp h x 8 := by
  obtain ⟨h, e, W', f⟩ := m_nowW W (k := 10 + 44 * b + w) (by omega) v
  rw [upd_N hw] at W'
  refine ⟨h, ?_, W', f⟩
  simp only [f_X8_sets, m_is (rr_g W), m_N (rr_g W), hi, im44, ix10, ixa, e, Option.bind_some]
theorem m_setsB (W : wMF hp x F (g1 S 4 (nB N b R))) {w : Nat} (hb : b < 12) (hw : w < 44) {i : Int32} (hi : i = Int32.ofNat w) (v : Int32) : ∃ h, f_X8_sets x (Int32.ofNat b) i v hp = some h ∧ wMF h x F (g1 S 4 (nB N b (upd R w v))) ∧ zfr hp h x 8 := by
  obtain ⟨h, e, W', f⟩ := m_nowW W (k := 10 + 44 * b + w) (by omega) v
  rw [upd_nB hw] at W'
  refine ⟨h, ?_, W', f⟩
  simp only [f_X8_sets, m_is (rr_g W), m_N (rr_g W), hi, im44, ix10, ixa, e, Option.bind_some]
theorem m_opens (W : wMF hp x F (g1 S 4 N)) {b : Nat} (hb : b < 12) (t : Int32) : ∃ h, f_X8_opens x (Int32.ofNat b) t hp = some h ∧ wMF h x F (g1 S 4 (nO N b t)) ∧ zfr hp h x 8 := by
  obtain ⟨h1, e1, W1, f1⟩ := m_sets W hb (w := 0) (by decide) (i := 0) rfl t
  obtain ⟨h2, e2, W2, f2⟩ := m_setsB W1 hb (w := 1) (by decide) (i := 1) rfl 0
  refine ⟨h2, ?_, W2, zfr_tr f1 f2⟩
  simp only [f_X8_opens, m_is (rr_g W), e1, e2, Option.bind_some]
theorem m_enters (W : wMF hp x F (g1 S 4 N)) (I : sI (S 2) N) {b : Nat} (hb : b < sN (S 2) 3) (hE : sE N b < 12) (v : Int32) : ∃ h, f_X8_enters x (Int32.ofNat b) v hp = some h ∧ wMF h x F (g1 S 4 (nE N b v)) ∧ zfr hp h x 8 := by
  have hd := sI_bd I
  obtain ⟨h1, e1, W1, f1⟩ := m_sets W (b := b) (by omega) (w := 4 + sE N b) (by omega) (i := 4 + Int32.ofNat (sE N b)) (ix4 _) v
  obtain ⟨h2, e2, W2, f2⟩ := m_setsB W1 (by omega) (w := 2) (by decide) (i := 2) rfl (Int32.ofNat (sE N b + 1))
  have n2 : f_X8_of x (Int32.ofNat b) 2 h1 = some (Int32.ofNat (sE N b)) := by
    refine (m_of (rr_g W1) (w := 2) (by omega) (by decide)).trans (congrArg some ?_)
    rw [nB_same (by decide), zU, if_neg (by omega)]
    exact (sI_e I hb).1
  refine ⟨h2, ?_, W2, zfr_tr f1 f2⟩
  simp (disch := omega) only [f_X8_enters, m_is (rr_g W), m_of2 (rr_g W) I, e1, n2, pn_succ, e2, Option.bind_some]
theorem m_seals (W : wMF hp x F (g1 S 4 N)) (I : sI (S 2) N) {b : Nat} (hb : b < sN (S 2) 3) (hE : sE N b < 12) : ∃ h, f_X8_seals x (Int32.ofNat b) hp = some h ∧ wMF h x F (g1 S 4 (nS N b)) ∧ zfr hp h x 8 := by
  have hd := sI_bd I
  obtain ⟨h1, e1, W1, f1⟩ := m_enters W I hb hE (N 2)
  have n1 : zaI h1 0 (x + 4) 2 = some (N 2) := (m_now2 (rr_g W1)).trans (congrArg some (nB_lo (by decide)))
  obtain ⟨h2, e2, W2, f2⟩ := m_setsB W1 (by omega) (w := 1) (by decide) (i := 1) rfl (N 2)
  obtain ⟨h3, e3, W3, f3⟩ := m_setsB W2 (by omega) (w := 0) (by decide) (i := 0) rfl (-4)
  have n3 : zaI h3 0 (x + 4) 2 = some (N 2) := (m_now2 (rr_g W3)).trans (congrArg some (nB_lo (by decide)))
  obtain ⟨h4, e4, W4, f4⟩ := m_nowW W3 (k := 2) (by decide) (N 2 + 1)
  refine ⟨h4, ?_, W4, zfr_tr (zfr_tr (zfr_tr f1 f2) f3) f4⟩
  simp only [f_X8_seals, m_is (rr_g W), m_N (rr_g W), m_now2 (rr_g W), e1, m_N (rr_g W1), n1, e2, e3, m_N (rr_g W3), n3, show zsI h3 (x + 4) 2 (N 2 + 1) = some h4 from e4, Option.bind_some]
theorem m_counts (W : wMF hp x F (g1 S 4 N)) (I : sI (S 2) N) {b t : Nat} (hb : b < sN (S 2) 3) (ht : t < sN (S 2) 4) (hC : sC N b < 4) : ∃ h, f_X8_counts x (Int32.ofNat b) (Int32.ofNat t) hp = some h ∧ wMF h x F (g1 S 4 (nC (S 2) N b t)) ∧ zfr hp h x 8 := by
  have hd := sI_bd I
  obtain ⟨h1, e1, W1, f1⟩ := m_sets W (b := b) (by omega) (w := 16 + sC N b) (by omega) (i := 16 + Int32.ofNat (sC N b)) (ix16 _) (Int32.ofNat t)
  let Ri : Nat → Nat → Int32 := fun i w => if w = 16 + sC N b then Int32.ofNat t else if 20 + 6 * sC N b ≤ w ∧ w < 20 + 6 * sC N b + i then sFi (S 2) t b (w - (20 + 6 * sC N b)) else sF N b w
  have I3 : ∀ i, sIb (S 2) (nB N b (Ri i)) b := fun i => by
    obtain ⟨⟨i1, i2⟩, ⟨i3, i4, i5⟩, i6⟩ := sI_row I hb
    have r : ∀ w, w < 16 → Ri i w = sF N b w := fun w hw => by
      show (if w = 16 + sC N b then Int32.ofNat t else if 20 + 6 * sC N b ≤ w ∧ w < 20 + 6 * sC N b + i then sFi (S 2) t b (w - (20 + 6 * sC N b)) else sF N b w) = _
      rw [if_neg (by omega), if_neg (by omega)]
    have e3 : sF (nB N b (Ri i)) b 3 = sF N b 3 := by rw [nB_same (by decide), r 3 (by decide)]
    have e2 : sF (nB N b (Ri i)) b 2 = sF N b 2 := by rw [nB_same (by decide), r 2 (by decide)]
    have ec := sC_row e3
    have ee := sE_row e2
    refine ⟨⟨by rw [e3, ec, i1], by omega⟩, ⟨by rw [e2, ee, i3], by omega, by omega⟩, fun c p hc hp => ?_⟩
    rw [ec] at hc
    obtain ⟨y, y1, y2⟩ := i6 c p hc hp
    refine ⟨y, ?_, y2⟩
    rw [← y1]
    unfold sFd
    rw [nB_same (by omega)]
    show (if 20 + 6 * c + p = 16 + sC N b then Int32.ofNat t else if 20 + 6 * sC N b ≤ 20 + 6 * c + p ∧ 20 + 6 * c + p < 20 + 6 * sC N b + i then sFi (S 2) t b (20 + 6 * c + p - (20 + 6 * sC N b)) else sF N b (20 + 6 * c + p)) = _
    rw [if_neg (by omega), if_neg (by omega)]
  generalize hK : (fun h7 : zHp => (f_X8_sets x (Int32.ofNat b) 3 (Int32.ofNat (sC N b) + 1) h7).bind fun h8 => some h8) = K
  obtain ⟨h2, ⟨W2, f2⟩, e2⟩ := zFH (l := l_X8_counts_20 K x (Int32.ofNat b) (Int32.ofNat t) (Int32.ofNat (sC N b))) (hp := h1) (n := sPi (S 2)) (m := 1000000) (k := K) (fun i h => wMF h x F (g1 S 4 (nB N b (Ri i))) ∧ zfr hp h x 8) (by omega) ⟨by
      rw [show nB N b (Ri 0) = nB N b (upd (sF N b) (16 + sC N b) (Int32.ofNat t)) from nB_congr (fun w hw => by
        show (if w = 16 + sC N b then Int32.ofNat t else if 20 + 6 * sC N b ≤ w ∧ w < 20 + 6 * sC N b + 0 then sFi (S 2) t b (w - (20 + 6 * sC N b)) else sF N b w) = _
        rw [zU]
        by_cases c : w = 16 + sC N b
        · rw [if_pos c, if_pos c]
        · rw [if_neg c, if_neg c, if_neg (by omega)])]
      exact W1, f1⟩ (fun i h hi ⟨Z, f⟩ => by
      obtain ⟨h', e', Z', f'⟩ := m_setsB Z (by omega) (w := 20 + 6 * sC N b + i) (by omega) (i := 20 + 6 * Int32.ofNat (sC N b) + Int32.ofNat i) (by rw [im6, ix20, ixa]) (sFi (S 2) t b i)
      refine ⟨h', ⟨?_, zfr_tr f f'⟩, fun m => ?_⟩
      · rw [show nB N b (Ri (i + 1)) = nB N b (upd (Ri i) (20 + 6 * sC N b + i) (sFi (S 2) t b i)) from nB_congr (fun w hw => by
          show (if w = 16 + sC N b then Int32.ofNat t else if 20 + 6 * sC N b ≤ w ∧ w < 20 + 6 * sC N b + (i + 1) then sFi (S 2) t b (w - (20 + 6 * sC N b)) else sF N b w) = _
          rw [zU]
          show _ = if w = 20 + 6 * sC N b + i then sFi (S 2) t b i else (if w = 16 + sC N b then Int32.ofNat t else if 20 + 6 * sC N b ≤ w ∧ w < 20 + 6 * sC N b + i then sFi (S 2) t b (w - (20 + 6 * sC N b)) else sF N b w)
          by_cases c : w = 20 + 6 * sC N b + i
          · rw [if_pos c, if_neg (by omega), if_pos (by omega)]
            congr 1
            omega
          · rw [if_neg c]
            by_cases c2 : w = 16 + sC N b
            · rw [if_pos c2, if_pos c2]
            · rw [if_neg c2, if_neg c2]
              by_cases c3 : 20 + 6 * sC N b ≤ w ∧ w < 20 + 6 * sC N b + i
              · rw [if_pos c3, if_pos (by omega)]
              · rw [if_neg c3, if_neg (by omega)])]
        exact Z'
      · have Ii := sI_box I (I3 i)
        simp (disch := omega) only [l_X8_counts_20_s, b_X8_counts_20, m_piles (rr_g Z) Ii, pn_lt, hi, if_true, m_finds (rr_g Z) Ii, e', Option.bind_some, zlet, pn_succ]) (fun h ⟨Z, f⟩ m => by
      simp only [l_X8_counts_20_s, b_X8_counts_20, m_piles (rr_g Z) (sI_box I (I3 _)), Option.bind_some, Int32.lt_irrefl, if_false])
  obtain ⟨h3, e3, W3, f3⟩ := m_setsB W2 (by omega) (w := 3) (by decide) (i := 3) rfl (Int32.ofNat (sC N b + 1))
  refine ⟨h3, ?_, ?_, zfr_tr f2 f3⟩
  · simp (disch := omega) only [f_X8_counts, m_is (rr_g W), m_of3 (rr_g W) I, e1, Option.bind_some]
    rw [hK, e2, ← hK]
    simp only [pn_succ, e3, Option.bind_some]
  · rw [show nC (S 2) N b t = nB N b (upd (Ri (sPi (S 2))) 3 (Int32.ofNat (sC N b + 1))) from nB_congr (fun w hw => by
      rw [zU]
      unfold rC
      by_cases c : w = 3
      · rw [if_pos c]
      · rw [if_neg c])]
    exact W3
/-! the rows kept -/
def rowOf (P : Nat → Int32) (i : Nat) : Nat → Int32 := fun k => if k < 538 then P (538 * i + k) else 0
theorem ofI538 (k : Nat) : (538 : Int32) * Int32.ofNat k = Int32.ofNat (538 * k) := (Int32.ofNat_mul 538 k).symm
theorem zMf_8 (W : wMF hp x F S) {u : Nat} (hu : F 8 = Int32.ofNat u) : zgI hp x 8 8 = some (Int32.ofNat u) := by
  rw [← hu]
  exact po_I W.1 rfl
theorem wMF_7 (W : wMF hp x F S) : zgR hp x 8 7 = some (x + 6) := po_R W.1 rfl
theorem wMF_5 (W : wMF hp x F S) : zgR hp x 8 5 = some (x + 4) := po_R W.1 rfl
theorem wMF_rd (W : wMF hp x F S) {j k : Nat} (h1 : 1 ≤ j) (h2 : j ≤ 7) (hk : k < zLen j) : zaI hp 0 (x + j) (Int32.ofNat k) = some (S j k) := pa_rd (W.2 j h1 h2) (Or.inl rfl) hk (by unfold zLen; (repeat' split) <;> decide)
theorem m_keepJ (W : wMF hp x F S) {u : Nat} (hu : F 8 = Int32.ofNat u) (h10 : u < 10) : ∃ h P, j_X8_keeps_52 x hp = some h ∧ wMF h x (upd F 8 (Int32.ofNat (u + 1))) (g1 S 6 P) ∧ zfr hp h x 8 ∧ ∀ k, P k = if 538 * u ≤ k ∧ k < 538 * u + 538 then S 4 (k - 538 * u) else S 6 k := by
  unfold j_X8_keeps_52
  generalize hK : (fun h8 : zHp => (zgI h8 x 8 8).bind fun v9 => (zpV h8 x 8 8 (.int (v9 + 1))).bind fun h10 => some h10) = K
  obtain ⟨h2, ⟨P, W2, g2, f2⟩, e2⟩ := zFH (l := l_X8_keeps_54 K x) (hp := hp) (n := 538) (m := 1000000) (k := K) (fun i h => ∃ P, wMF h x F (g1 S 6 P) ∧ (∀ k, P k = if 538 * u ≤ k ∧ k < 538 * u + i then S 4 (k - 538 * u) else S 6 k) ∧ zfr hp h x 8) (by decide) ⟨S 6, by rw [g1_id]; exact W, fun k => by rw [if_neg (by omega)], zfr_rf⟩ (fun i h hi ⟨P, Z, z, f⟩ => by
      obtain ⟨h', e', Z', f'⟩ := wMF_arr Z (j := 6) (k := 538 * u + i) (by decide) (by decide) (by show 538 * u + i < 5380; omega) (S 4 i)
      rw [w2_g1, g1_g1, g1_self] at Z'
      refine ⟨h', ⟨_, Z', fun k => ?_, zfr_tr f f'⟩, fun m => ?_⟩
      · rw [zU]
        by_cases c : k = 538 * u + i
        · rw [if_pos c, if_pos (by omega)]
          congr 1
          omega
        · rw [if_neg c, z k]
          by_cases c2 : 538 * u ≤ k ∧ k < 538 * u + i
          · rw [if_pos c2, if_pos (by omega)]
          · rw [if_neg c2, if_neg (by omega)]
      · have e538 : Int32.ofNat i < 538 := by
          rw [show (538 : Int32) = Int32.ofNat 538 from rfl, pn_lt (by omega) (by decide)]
          exact hi
        have e4 : zaI h 0 (x + 4) (Int32.ofNat i) = some (S 4 i) := by
          rw [wMF_rd Z (j := 4) (by decide) (by decide) hi, g1_ne _ _ (by decide)]
        simp only [l_X8_keeps_54_s, b_X8_keeps_54, e538, if_true, wMF_7 Z, zMf_8 Z hu, wMF_5 Z, e4, ofI538, ixa, e', Option.bind_some, zlet, pn_succ]) (fun h _ m => by
      simp only [l_X8_keeps_54_s, b_X8_keeps_54, show ¬ Int32.ofNat 538 < 538 by decide, if_false])
  obtain ⟨h3, e3, W3, f3⟩ := wMF_fld W2 (k := 8) (by omega) (Int32.ofNat (u + 1))
  refine ⟨h3, P, ?_, W3, zfr_tr f2 f3, g2⟩
  rw [e2, ← hK]
  simp only [zMf_8 W2 hu, pn_succ, e3, Option.bind_some]
theorem upd_upd (f : Nat → Int32) (k : Nat) (v w : Int32) : upd (upd f k v) k w = upd f k w := by
  funext j
  rw [zU, zU, zU]
  by_cases e : j = k
  · rw [if_pos e, if_pos e]
  · rw [if_neg e, if_neg e, if_neg e]
theorem m_keeps (W : wMF hp x F S) {u : Nat} (hu : F 8 = Int32.ofNat u) (h10 : u ≤ 10) (z4 : ∀ k, 538 ≤ k → S 4 k = 0) : ∃ h P, f_X8_keeps x hp = some h ∧ wMF h x (upd F 8 (Int32.ofNat (uK u))) (g1 S 6 P) ∧ zfr hp h x 8 ∧ ∀ i, i < uK u → rowOf P i = hKeep u (S 4) (rowOf (S 6)) i := by
  have fin : ∀ (S' : Nat → Nat → Int32) (P : Nat → Int32) (v : Nat), S' 4 = S 4 → (∀ k, P k = if 538 * v ≤ k ∧ k < 538 * v + 538 then S' 4 (k - 538 * v) else S' 6 k) → rowOf P v = S 4 := fun S' P v h1 h2 => by
    funext k
    unfold rowOf
    by_cases c : k < 538
    · rw [if_pos c, h2, if_pos (by omega), h1]
      congr 1
      omega
    · rw [if_neg c, z4 k (by omega)]
  by_cases e : u = 10
  · subst e
    simp only [f_X8_keeps, wm_is ⟨F, W⟩, zMf_8 W hu, Option.bind_some, show Int32.ofNat 10 = 10 from rfl, if_true]
    generalize hK : (fun h16 : zHp => (zgI h16 x 8 8).bind fun v17 => (zpV h16 x 8 8 (.int (v17 - 1))).bind fun h18 => j_X8_keeps_52 x h18) = K
    obtain ⟨h2, ⟨P, W2, g2, f2⟩, e2⟩ := zFHk (l := l_X8_keeps_13 K x) (hp := hp) (n := 5380) (m := 1000000) (k0 := 538) (k := K) (by decide) (fun i h => ∃ P, wMF h x F (g1 S 6 P) ∧ (∀ k, P k = if k + 538 < i then S 6 (k + 538) else S 6 k) ∧ zfr hp h x 8) (by decide) ⟨S 6, by rw [g1_id]; exact W, fun k => by rw [if_neg (by omega)], zfr_rf⟩ (fun i h hi1 hi ⟨P, Z, z, f⟩ => by
        obtain ⟨j, rfl⟩ : ∃ j, i = 538 + j := ⟨i - 538, by omega⟩
        obtain ⟨h', e', Z', f'⟩ := wMF_arr Z (j := 6) (k := j) (by decide) (by decide) (by show j < 5380; omega) (S 6 (538 + j))
        rw [w2_g1, g1_g1, g1_self] at Z'
        refine ⟨h', ⟨_, Z', fun k => ?_, zfr_tr f f'⟩, fun m => ?_⟩
        · rw [zU]
          by_cases c : k = j
          · rw [if_pos c, if_pos (by omega)]
            congr 1
            omega
          · rw [if_neg c, z k]
            by_cases c2 : k + 538 < 538 + j
            · rw [if_pos c2, if_pos (by omega)]
            · rw [if_neg c2, if_neg (by omega)]
        · have e538 : Int32.ofNat (538 + j) < 5380 := by
            rw [show (5380 : Int32) = Int32.ofNat 5380 from rfl, pn_lt (by omega) (by decide)]
            exact hi
          have e4 : zaI h 0 (x + 6) (Int32.ofNat (538 + j)) = some (S 6 (538 + j)) := by
            rw [wMF_rd Z (j := 6) (by decide) (by decide) (show 538 + j < 5380 from hi), g1_self, z, if_neg (by omega)]
          have es : Int32.ofNat (538 + j) - 538 = Int32.ofNat j := by
            rw [show (538 : Int32) = Int32.ofNat 538 from rfl, ← Int32.ofNat_sub _ _ (by omega), Nat.add_sub_cancel_left]
          simp only [l_X8_keeps_13_s, b_X8_keeps_13, e538, if_true, wMF_7 Z, e4, es, e', Option.bind_some, zlet, pn_succ]) (fun h _ m => by
        simp only [l_X8_keeps_13_s, b_X8_keeps_13, show ¬ Int32.ofNat 5380 < 5380 by decide, if_false])
    obtain ⟨h3, e3, W3, f3⟩ := wMF_fld W2 (k := 8) (by omega) (Int32.ofNat 9)
    obtain ⟨h4, P4, e4, W4, f4, g4⟩ := m_keepJ W3 (u := 9) (by rw [zU, if_pos rfl]) (by decide)
    rw [upd_upd, g1_g1] at W4
    refine ⟨h4, P4, ?_, W4, zfr_tr (zfr_tr f2 f3) f4, fun i hi => ?_⟩
    · rw [show (538 : Int32) = Int32.ofNat 538 from rfl, e2, ← hK]
      simp only [zMf_8 W2 hu, show Int32.ofNat 10 - 1 = Int32.ofNat 9 from rfl, e3, e4, Option.bind_some]
    · have hi' : i < 10 := hi
      unfold hKeep uK
      by_cases c : i = 9
      · subst c
        rw [if_pos rfl, if_pos rfl]
        exact fin (g1 S 6 P) P4 9 (g1_ne _ _ (by decide)) g4
      · rw [if_pos rfl, if_neg c, if_pos rfl]
        funext k
        unfold rowOf
        by_cases c2 : k < 538
        · rw [if_pos c2, if_pos c2, g4, if_neg (by omega), g1_self, g2, if_pos (by omega)]
          congr 1
          omega
        · rw [if_neg c2, if_neg c2]
  · have e10 : ¬ Int32.ofNat u = 10 := by
      rw [show (10 : Int32) = Int32.ofNat 10 from rfl, pn_inj (by omega) (by decide)]
      exact e
    obtain ⟨h4, P4, e4, W4, f4, g4⟩ := m_keepJ W hu (by omega)
    have hk : uK u = u + 1 := by unfold uK; rw [if_neg e]
    refine ⟨h4, P4, ?_, by rw [hk]; exact W4, f4, fun i hi => ?_⟩
    · simp only [f_X8_keeps, wm_is ⟨F, W⟩, zMf_8 W hu, Option.bind_some, e10, if_false, e4]
    · unfold hKeep
      rw [hk] at hi ⊢
      by_cases c : i = u
      · subst c
        rw [if_pos (by omega)]
        exact fin S P4 i rfl g4
      · rw [if_neg (by omega), if_neg e]
        funext k
        unfold rowOf
        by_cases c2 : k < 538
        · rw [if_pos c2, if_pos c2, g4, if_neg (by omega)]
        · rw [if_neg c2, if_neg c2]
theorem m_undo (W : wMF hp x F S) {u : Nat} (hu : F 8 = Int32.ofNat u) (h10 : u ≤ 10) (h0 : 0 < u) (z4 : ∀ k, 538 ≤ k → S 4 k = 0) : ∃ h F', f_X8_undo x hp = some (Int32.ofNat (u - 1), h) ∧ wMF h x F' (g1 S 4 (rowOf (S 6) (u - 1))) ∧ F' = upd (upd F 0 0) 8 (Int32.ofNat (u - 1)) ∧ zfr hp h x 8 := by
  obtain ⟨v, rfl⟩ : ∃ v, u = v + 1 := ⟨u - 1, by omega⟩
  rw [Nat.add_sub_cancel]
  have W1 := wMF_th W 0
  have hu1 : upd F 0 0 8 = Int32.ofNat (v + 1) := by rw [zU, if_neg (by decide), hu]
  obtain ⟨h2, e2, W2, f2⟩ := wMF_fld W1 (k := 8) (by omega) (Int32.ofNat v)
  have hu2 : upd (upd F 0 0) 8 (Int32.ofNat v) 8 = Int32.ofNat v := by rw [zU, if_pos rfl]
  have ne : ¬ Int32.ofNat (v + 1) = 0 := by rw [pn_eq0 (by omega)]; omega
  simp only [f_X8_undo, wm_is ⟨F, W⟩, q_th W, zMf_8 W1 hu1, ne, if_false, is1, e2, Option.bind_some]
  generalize hK : (fun h11 : zHp => (zgI h11 x 8 8).bind fun v12 => some (v12, h11)) = K
  obtain ⟨h3, ⟨P, W3, g3, f3⟩, e3⟩ := zFH (l := l_X8_undo_26 K x) (hp := h2) (n := 538) (m := 1000000) (k := K) (fun i h => ∃ P, wMF h x (upd (upd F 0 0) 8 (Int32.ofNat v)) (g1 S 4 P) ∧ (∀ k, P k = if k < i then S 6 (538 * v + k) else S 4 k) ∧ zfr hp h x 8) (by decide) ⟨S 4, by rw [g1_id]; exact W2, fun k => by rw [if_neg (by omega)], zfr_tr zfr_th f2⟩ (fun i h hi ⟨P, Z, z, f⟩ => by
      obtain ⟨h', e', Z', f'⟩ := wMF_arr Z (j := 4) (k := i) (by decide) (by decide) hi (S 6 (538 * v + i))
      rw [w2_g1, g1_g1, g1_self] at Z'
      refine ⟨h', ⟨_, Z', fun k => ?_, zfr_tr f f'⟩, fun m => ?_⟩
      · rw [zU]
        by_cases c : k = i
        · rw [if_pos c, if_pos (by omega), c]
        · rw [if_neg c, z k]
          by_cases c2 : k < i
          · rw [if_pos c2, if_pos (by omega)]
          · rw [if_neg c2, if_neg (by omega)]
      · have e538 : Int32.ofNat i < 538 := by
          rw [show (538 : Int32) = Int32.ofNat 538 from rfl, pn_lt (by omega) (by decide)]
          exact hi
        have e6 : zaI h 0 (x + 6) (Int32.ofNat (538 * v + i)) = some (S 6 (538 * v + i)) := by
          rw [wMF_rd Z (j := 6) (by decide) (by decide) (show 538 * v + i < 5380 by omega), g1_ne _ _ (by decide)]
        simp only [l_X8_undo_26_s, b_X8_undo_26, e538, if_true, wMF_5 Z, wMF_7 Z, zMf_8 Z hu2, ofI538, ixa, e6, e', Option.bind_some, zlet, pn_succ]) (fun h _ m => by
      simp only [l_X8_undo_26_s, b_X8_undo_26, show ¬ Int32.ofNat 538 < 538 by decide, if_false])
  refine ⟨h3, _, ?_, ?_, rfl, f3⟩
  · rw [e3, ← hK]
    simp only [zMf_8 W3 hu2, Option.bind_some]
  · have : rowOf (S 6) v = P := by
      funext k
      unfold rowOf
      rw [g3]
      by_cases c : k < 538
      · rw [if_pos c, if_pos c]
      · rw [if_neg c, if_neg c, z4 k (by omega)]
    rw [this]
    exact W3
end P44
