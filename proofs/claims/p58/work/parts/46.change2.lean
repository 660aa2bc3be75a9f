/-! PURE: open, declare, setSetting, undo, work: class and reference alike -/
section P46
variable {hp h hp' : zHp} {x a a' q b u c p hl t : Nat} {ea : Int32} {S : Nat → Nat → Int32} {F T N N' R : Nat → Int32} {σ : Nat → Nat} {Ps : Nat → Nat → Int32}
theorem sCm_or (T N : Nat → Int32) : ∀ n, (sCm T N n).1 = -1 ∨ ∃ w, w < n ∧ (sCm T N n).1 = Int32.ofNat w ∧ sAga T N (Int32.ofNat w) = 0
  | 0 => Or.inl rfl
  | n + 1 => by
    unfold sCm
    split
    · next h => exact Or.inr ⟨n, by omega, rfl, h.1⟩
    · rcases sCm_or T N n with h | ⟨w, h1, h2, h3⟩
      · exact Or.inl h
      · exact Or.inr ⟨w, by omega, h2, h3⟩
theorem sAga_0 {w : Int32} (h : sAga T N w = 0) : sDecl N w = false := by
  cases hk : sDecl N w with
  | false => rfl
  | true =>
    unfold sAga at h
    rw [hk, if_pos rfl] at h
    exact absurd h (by decide)
/-! work -/
def wF (T : Nat → Int32) (due : Int32) (N : Nat → Int32) : Nat → Nat → Int32
  | 0 => N
  | t + 1 => if (sOn T (wF T due N t) (Int32.ofNat t)).isNone = true then (match sOpn T (wF T due N t) due (Int32.ofNat t) with | some b => nO (wF T due N t) b (Int32.ofNat t) | none => wF T due N t) else wF T due N t
def nW1 (T N : Nat → Int32) (b t : Nat) : Nat → Int32 := if sC N b < 4 then nC T N b t else N
def nW2 (N : Nat → Int32) (b : Nat) : Nat → Int32 := if sE N b < 12 then nS N b else N
def wG (T : Nat → Int32) (N : Nat → Int32) : Nat → (Nat → Int32) × Int32
  | 0 => (N, 0)
  | t + 1 => match sOn T (wG T N t).1 (Int32.ofNat t) with
    | none => wG T N t
    | some b => (nW2 (nW1 T (wG T N t).1 b t) b, (wG T N t).2 + (if sC (wG T N t).1 b < 4 then 1 else 0))
theorem zFHA {R A : Type} {l : Nat → A → Int32 → zHp → Option R} {n m : Nat} (st : Nat → A) (J : Nat → zHp → Prop) (hm : n < m) (h0 : J 0 hp)
    (hs : ∀ i h, i < n → J i h → ∃ h', J (i + 1) h' ∧ ∀ m, l (m + 1) (st i) (Int32.ofNat i) h = l m (st (i + 1)) (Int32.ofNat (i + 1)) h') {k : zHp → Option R} (he : ∀ h, J n h → ∀ m, l (m + 1) (st n) (Int32.ofNat n) h = k h) : ∃ h, J n h ∧ l m (st 0) 0 hp = k h := by
  have H : ∀ d i m hp, i + d = n → d < m → J i hp → ∃ h, J n h ∧ l m (st i) (Int32.ofNat i) hp = k h := by
    intro d
    induction d with
    | zero =>
      intro i m hp hi hm hJ
      obtain ⟨m, rfl⟩ : ∃ q, m = q + 1 := ⟨m - 1, by omega⟩
      have e : i = n := by omega
      subst e
      exact ⟨hp, hJ, he hp hJ m⟩
    | succ d ih =>
      intro i m hp hi hm hJ
      obtain ⟨m, rfl⟩ : ∃ q, m = q + 1 := ⟨m - 1, by omega⟩
      obtain ⟨h', J', e⟩ := hs i hp (by omega) hJ
      rw [e m]
      exact ih (i + 1) m h' (by omega) (by omega) J'
  exact H n 0 m hp (by omega) hm h0
theorem sOpn_lt {due y : Int32} {b : Nat} (h : sOpn T N due y = some b) : b < sN T 3 := zff_lt h
theorem sOn_lt {y : Int32} {b : Nat} (h : sOn T N y = some b) : b < sN T 3 := zff_lt h
/-- one table filled, in both -/
theorem wF_s (T : Nat → Int32) (due : Int32) (N : Nat → Int32) (t : Nat) : wF T due N (t + 1) = if (sOn T (wF T due N t) (Int32.ofNat t)).isNone = true then (match sOpn T (wF T due N t) due (Int32.ofNat t) with | some b => nO (wF T due N t) b (Int32.ofNat t) | none => wF T due N t) else wF T due N t := rfl
theorem C_fill (W : wW hp c p ea T N σ u Ps) (due : Int32) : ∃ h, f_X1_fillTables (c + 32) due hp = some h ∧ wW h c p ea T (wF T due N (sN T 4)) σ u Ps ∧ zfr hp h (c + 61) 574 := by
  have hd := sI_bd (hh_I W.1.2)
  simp only [f_X1_fillTables, hh_is W.1.2, Option.bind_some]
  obtain ⟨h1, ⟨W1, f1⟩, e1⟩ := zFH (l := l_X1_fillTables_2 (fun h13 => some h13) (c + 32) due) (hp := hp) (n := sN T 4) (m := 1000000) (k := fun h => some h) (fun i h => wW h c p ea T (wF T due N i) σ u Ps ∧ zfr hp h (c + 61) 574) (by omega) ⟨W, zfr_rf⟩ (fun i h hi ⟨Z, f⟩ => by
      have H := Z.1.2
      have I := hh_I H
      rw [wF_s]
      rcases zoi_nm I (Int32.ofNat i) with ⟨en, ez⟩ | ⟨k, hk, en, ez, -⟩
      · rw [en, if_pos (show (none : Option Nat).isNone = true from rfl)]
        cases ho : sOpn T (wF T due N i) due (Int32.ofNat i) with
        | none =>
          refine ⟨h, ⟨Z, f⟩, fun m => ?_⟩
          simp (disch := omega) only [l_X1_fillTables_2_s, b_X1_fillTables_2, j_X1_fillTables_34, hh_p H, c_num H.2.1, c_n4 H.2.1, pn_lt, hi, if_true, H_boxOn H, ez, H_boxFor H, ho, show zoi none = -1 from rfl, Option.bind_some, zlet, pn_succ]
        | some b =>
          have hb := sOpn_lt ho
          obtain ⟨h2, e2, Y2, I2, f2⟩ := S_open H.2.2.1 I hb (Int32.ofNat i)
          obtain ⟨W2, f12⟩ := wW_set' Z f f2 Y2 I2
          refine ⟨h2, ⟨W2, f12⟩, fun m => ?_⟩
          have eb : (Int32.ofNat b = -1) = False := pn_ne1 (by omega)
          simp (disch := omega) only [l_X1_fillTables_2_s, b_X1_fillTables_2, j_X1_fillTables_34, hh_p H, hh_q H, hs_bx H, hs_box H, c_num H.2.1, c_n4 H.2.1, pn_lt, hi, if_true, if_false, H_boxOn H, ez, H_boxFor H, ho, show zoi (some b) = Int32.ofNat b from rfl, eb, e2, zb2_some, Option.bind_some, zlet, pn_succ]
      · rw [en, if_neg (by simp)]
        refine ⟨h, ⟨Z, f⟩, fun m => ?_⟩
        have eb : (Int32.ofNat k = -1) = False := pn_ne1 (by omega)
        simp (disch := omega) only [l_X1_fillTables_2_s, b_X1_fillTables_2, j_X1_fillTables_34, hh_p H, c_num H.2.1, c_n4 H.2.1, pn_lt, hi, if_true, if_false, H_boxOn H, ez, eb, Option.bind_some, zlet, pn_succ]) (fun h ⟨Z, f⟩ m => by
      simp only [l_X1_fillTables_2_s, b_X1_fillTables_2, hh_p Z.1.2, c_num Z.1.2.2.1, c_n4 Z.1.2.2.1, Int32.lt_irrefl, if_false, Option.bind_some])
  exact ⟨h1, e1, W1, f1⟩
theorem C_full {b : Nat} (H : wH hp hl p q T N) (hb : b < sN T 3) (hC : ¬ sC N b < 4) (y : Int32) : f_X1_addCount hl (Int32.ofNat b) y hp = some hp := by
  have hd := sI_bd (hh_I H)
  have hc := sI_c (hh_I H) hb
  simp (disch := omega) only [f_X1_addCount, hh_is H, hh_q H, hs_bx H, hs_box H, k_cnt H, pn_4, hC, if_false, Option.bind_some]
theorem sI_nW1 (I : sI T N) (hb : b < sN T 3) (ht : t < sN T 4) : sI T (nW1 T N b t) := by
  unfold nW1
  split
  · next h => exact sI_box I (sIb_cnt I hb ht h)
  · exact I
theorem sC_nW (I : sI T N) (hb : b < sN T 3) (ht : t < sN T 4) : sC (nW2 (nW1 T N b t) b) b = if sC N b < 4 then sC N b + 1 else sC N b := by
  have hc := sI_c I hb
  have h1 : sC (nW1 T N b t) b = if sC N b < 4 then sC N b + 1 else sC N b := by
    unfold nW1
    split
    · have e3 : sF (nC T N b t) b 3 = Int32.ofNat (sC N b + 1) := by unfold nC; rw [nB_same (by decide)]; rfl
      unfold sC at *
      rw [e3, pn_nat (by omega)]
    · rfl
  rw [← h1]
  unfold nW2
  split
  · refine sC_row ?_
    have he := sI_e (sI_nW1 I hb ht) hb
    unfold nS sF
    rw [zU, if_neg (by omega), show nB _ b _ (10 + 44 * b + 3) = sF (nB (nW1 T N b t) b _) b 3 from rfl, nB_same (by decide), zU, if_neg (by omega), zU, if_neg (by omega), zU, if_neg (by omega), zU, if_neg (by omega)]
  · rfl
theorem C_cas (W : wW hp c p ea T N σ u Ps) {t : Nat} (ht : t < sN T 4) : (sOn T N (Int32.ofNat t) = none ∧ f_X1_countAndSeal (c + 32) (Int32.ofNat t) hp = some (0, hp)) ∨
    ∃ b, b < sN T 3 ∧ sOn T N (Int32.ofNat t) = some b ∧ ∃ h, f_X1_countAndSeal (c + 32) (Int32.ofNat t) hp = some (if sC N b < 4 then 1 else 0, h) ∧ wW h c p ea T (nW2 (nW1 T N b t) b) σ u Ps ∧ zfr hp h (c + 61) 574 := by
  have H := W.1.2
  have I := hh_I H
  have hd := sI_bd I
  rcases zoi_nm I (Int32.ofNat t) with ⟨en, ez⟩ | ⟨b, hb, en, ez, -⟩
  · refine Or.inl ⟨en, ?_⟩
    simp only [f_X1_countAndSeal, hh_is H, H_boxOn H, ez, if_true, Option.bind_some]
  · have eb : (Int32.ofNat b = -1) = False := pn_ne1 (by omega)
    refine Or.inr ⟨b, hb, en, ?_⟩
    have hc := sI_c I hb
    obtain ⟨h1, e1, W1, f1⟩ : ∃ h, f_X1_addCount (c + 32) (Int32.ofNat b) (Int32.ofNat t) hp = some h ∧ wW h c p ea T (nW1 T N b t) σ u Ps ∧ zfr hp h (c + 61) 574 := by
      unfold nW1
      by_cases h4 : sC N b < 4
      · rw [if_pos h4]
        obtain ⟨h1, e1, Y1, I1, f1⟩ := S_count H hb ht h4 (by omega) (by have := W.2.1; omega)
        obtain ⟨W1, g⟩ := wW_set' W zfr_rf f1 Y1 I1
        exact ⟨h1, e1, W1, g⟩
      · rw [if_neg h4]
        exact ⟨hp, C_full H hb h4 _, W, zfr_rf⟩
    have H1 := W1.1.2
    have I1 := hh_I H1
    have he := sI_e I1 hb
    obtain ⟨h2, e2, W2, f2⟩ : ∃ h2, (if sE (nW1 T N b t) b < 12 then (f_X6_sealUp (c + 61) (Int32.ofNat b) h1) else some h1) = some h2 ∧ wW h2 c p ea T (nW2 (nW1 T N b t) b) σ u Ps ∧ zfr hp h2 (c + 61) 574 := by
      unfold nW2
      by_cases h12 : sE (nW1 T N b t) b < 12
      · rw [if_pos h12, if_pos h12]
        obtain ⟨h2, e2, Y2, I2, f2⟩ := S_sealUp H1.2.2.1 I1 hb h12
        obtain ⟨W2, g⟩ := wW_set' W1 f1 f2 Y2 I2
        exact ⟨h2, e2, W2, g⟩
      · rw [if_neg h12, if_neg h12]
        exact ⟨h1, rfl, W1, f1⟩
    refine ⟨h2, ?_, W2, f2⟩
    have H2 := W2.1.2
    have last : (zgI h2 (c + 61 + 4 + 4 * b) 0 3).bind (fun v8 => some (v8 - Int32.ofNat (sC N b), h2)) = some ((if sC N b < 4 then 1 else 0 : Int32), h2) := by
      rw [k_cnt H2 hb, Option.bind_some, sC_nW I hb ht]
      by_cases h4 : sC N b < 4
      · rw [if_pos h4, if_pos h4, ← pn_succ, Int32.add_comm, Int32.add_sub_cancel]
      · rw [if_neg h4, if_neg h4, Int32.sub_self]
    simp (disch := omega) only [f_X1_countAndSeal, j_X1_countAndSeal_52, hh_is H, hh_q H, H_boxOn H, ez, eb, if_false, hs_bx H, hs_box H, k_cnt H, e1, k_ent H1, pn_12, hh_q H1, Option.bind_some]
    by_cases h12 : sE (nW1 T N b t) b < 12
    · rw [if_pos h12] at e2 ⊢
      rw [e2, Option.bind_some]
      exact last
    · rw [if_neg h12] at e2 ⊢
      cases e2
      exact last
end P46

