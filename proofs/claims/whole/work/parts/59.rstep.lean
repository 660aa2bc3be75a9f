/-! PURE: the reference's reader: its steps, as the language has them; after an error nothing happens -/
section P59
variable {hb h hp hp' : zHp} {x c L i j k : Nat} {ro : Nat → Nat} {β : Nat → Nat} {S0 S : Nat → Nat → Int32} {F0 F T : Nat → Int32} {st : PSt} {r : PR} {n v y e : Int32}
def zz (S : Nat → Nat → Int32) : Prop := (∀ k, 144 ≤ k → S 2 k = 0) ∧ ∀ k, 538 ≤ k → S 4 k = 0
def RC (hb : zHp) (x : Nat) (β : Nat → Nat) (L : Nat) (S0 : Nat → Nat → Int32) (F0 : Nat → Int32) (h : zHp) (F : Nat → Int32) (S : Nat → Nat → Int32) (i : Nat) : Prop :=
  wMF h x F S ∧ ((∀ j, j ≠ 2 → j ≠ 4 → S j = S0 j) ∧ zz S) ∧ rTok F β L i ∧ i ≤ L ∧ (∀ k, k < 9 ∨ k = 16 ∨ 18 < k → F k = F0 k) ∧ zfr hb h x 8
def sQ (T : Nat → Int32) : Prop := (∀ s, s < 5 → T s = Int32.ofNat (sN T s)) ∧ (sN T 0 ≤ 5 ∧ sN T 1 ≤ 5 ∧ sN T 2 ≤ 6 ∧ sN T 3 ≤ 12 ∧ sN T 4 ≤ 4)
def RX (hb : zHp) (x : Nat) (β : Nat → Nat) (L : Nat) (S0 : Nat → Nat → Int32) (F0 : Nat → Int32) (n : Int32) (h : zHp) (r : PR) : Prop := match r with
  | .inl (e, j) => ∃ F S i, RC hb x β L S0 F0 h F S i ∧ F 14 = e ∧ e < 0 ∧ F 15 = Int32.ofNat (tS β L j)
  | .inr (_, st) => ∃ F S, RC hb x β L S0 F0 h F S st.2.2.2 ∧ S 2 = st.1 ∧ S 4 = st.2.1 ∧ F 18 = st.2.2.1 ∧ F 14 = 0 ∧ F 17 = n ∧ sQ st.1
theorem sQ_b (Q : sQ T) {s : Nat} (hs : s < 5) : sN T s ≤ 12 := by
  obtain ⟨-, h0, h1, h2, h3, h4⟩ := Q
  rcases (show s = 0 ∨ s = 1 ∨ s = 2 ∨ s = 3 ∨ s = 4 by omega) with rfl | rfl | rfl | rfl | rfl <;> omega
theorem sQ_put (Q : sQ T) {k : Nat} (hk : 5 ≤ k) (v : Int32) : sQ (upd T k v) := by
  have hn : ∀ s, s < 5 → sN (upd T k v) s = sN T s := fun s hs => by unfold sN; rw [upd_ne _ _ (by omega)]
  obtain ⟨q, b⟩ := Q
  exact ⟨fun s hs => by rw [hn s hs, upd_ne _ _ (by omega)]; exact q s hs, by rw [hn 0 (by decide), hn 1 (by decide), hn 2 (by decide), hn 3 (by decide), hn 4 (by decide)]; exact b⟩
theorem RC_fld (C : RC hb x β L S0 F0 h F S i) (hk : k = 14 ∨ k = 15 ∨ k = 17 ∨ k = 18) (v : Int32) : ∃ h', zpV h x 8 k (.int v) = some h' ∧ RC hb x β L S0 F0 h' (upd F k v) S i := by
  obtain ⟨c1, c2, c3, c4, c5, c6⟩ := C
  obtain ⟨h', e1, W1, f1⟩ := wMF_fld c1 (k := k) (by omega) v
  have u : ∀ l, l ≠ k → upd F k v l = F l := fun l hl => upd_ne _ _ hl
  exact ⟨h', e1, W1, c2, by unfold rTok; rw [u 9 (by omega), u 10 (by omega), u 11 (by omega), u 12 (by omega), u 13 (by omega)]; exact c3, c4, fun l hl => by rw [u l (by omega)]; exact c5 l hl, zfr_tr c6 f1⟩
theorem RC_arr (C : RC hb x β L S0 F0 h F S i) (hj : j = 2 ∨ j = 4) (hk : k < zLen j) (v : Int32) : ∃ h', zsI h (x + j) (Int32.ofNat k) v = some h' ∧ RC hb x β L S0 F0 h' F (w2 S j k v) i := by
  obtain ⟨c1, c2, c3, c4, c5, c6⟩ := C
  obtain ⟨h', e1, W1, f1⟩ := wMF_arr c1 (j := j) (by omega) (by omega) hk v
  refine ⟨h', e1, W1, ⟨fun l l1 l2 => by rw [w2_ne _ _ (by omega)]; exact c2.1 l l1 l2, fun l hl => ?_, fun l hl => ?_⟩, c3, c4, c5, zfr_tr c6 f1⟩
  · rcases hj with rfl | rfl
    · rw [w2_o _ _ (by have h1 : k < 144 := hk; omega)]; exact c2.2.1 l hl
    · rw [w2_o _ _ (by omega)]; exact c2.2.1 l hl
  · rcases hj with rfl | rfl
    · rw [w2_o _ _ (by omega)]; exact c2.2.2 l hl
    · rw [w2_o _ _ (by have h1 : k < 538 := hk; omega)]; exact c2.2.2 l hl
theorem RC_F (C : RC hb x β L S0 F0 h F S i) (hk : 8 ≤ k ∧ k ≤ 18) : zgI h x 8 k = some (F k) := q_F C.1 (by omega)
theorem RC_is (C : RC hb x β L S0 F0 h F S i) : zis h x 8 = some () := wm_is (wMF_M C.1)
theorem RC_T (C : RC hb x β L S0 F0 h F S i) : zgR h x 8 3 = some (x + 2) := wm_T (wMF_M C.1)
theorem RC_N (C : RC hb x β L S0 F0 h F S i) : zgR h x 8 5 = some (x + 4) := wm_N (wMF_M C.1)
theorem RC_by (C : RC hb x β L S0 F0 h F S i) (b : rBy S0 β L) : rBy S β L := ⟨b.1, fun j hj => by rw [C.2.1.1 1 (by decide) (by decide)]; exact b.2 j hj⟩
theorem RC_sts (C : RC hb x β L S0 F0 h F S i) (X : wSts hb c ro) (hc : c ≤ x) : wSts h c ro := sts_fr X (fun a ha => C.2.2.2.2.2 a (by omega))
theorem RX_C (X : RX hb x β L S0 F0 n h r) : ∃ F S i, RC hb x β L S0 F0 h F S i ∧ ∀ v st, r = .inr (v, st) → i = st.2.2.2 ∧ S 2 = st.1 ∧ S 4 = st.2.1 ∧ F 18 = st.2.2.1 ∧ F 14 = 0 ∧ F 17 = n ∧ sQ st.1 := by
  rcases r with ⟨e, j⟩ | ⟨v, st⟩
  · obtain ⟨F, S, i, C, -⟩ := X
    exact ⟨F, S, i, C, fun v st h => by cases h⟩
  · obtain ⟨F, S, C, q⟩ := X
    exact ⟨F, S, st.2.2.2, C, fun v' st' h => by cases h; exact ⟨rfl, q⟩⟩
theorem RX_v (X : RX hb x β L S0 F0 n h (.inr (v, st))) (y : Int32) : RX hb x β L S0 F0 n h (.inr (y, st)) := X
theorem R_fails (X : RX hb x β L S0 F0 n hp r) (g : PSt → Bool) (hy : ∀ v st, r = .inr (v, st) → y = zb (g st)) (he : e < 0) : ∃ h, f_X8_failsIf x y e hp = some h ∧ RX hb x β L S0 F0 n h (pb r (fun v st => if g st = true then .inl (e, st.2.2.2) else .inr (v, st))) := by
  rcases r with ⟨e', j⟩ | ⟨v, st⟩
  · have X' := X
    obtain ⟨F, S, i, C, c1, c2, c3⟩ := X
    refine ⟨hp, ?_, X'⟩
    simp only [f_X8_failsIf, RC_is C, RC_F C (k := 14) (by decide), c1, Option.bind_some]
    rw [if_neg (fun q => by rw [q] at c2; exact absurd c2 (by decide))]
  · have X' := X
    obtain ⟨F, S, C, c1, c2, c3, c4, c5, c6⟩ := X
    rw [hy v st rfl]
    simp only [f_X8_failsIf, RC_is C, RC_F C (k := 14) (by decide), c4, Option.bind_some, if_true, zb_0]
    by_cases q : g st = true
    · rw [if_neg (by rw [q]; decide)]
      obtain ⟨h1, e1, C1⟩ := RC_fld C (k := 14) (Or.inl rfl) e
      obtain ⟨h2, e2, C2⟩ := RC_fld C1 (k := 15) (Or.inr (Or.inl rfl)) (F 11)
      refine ⟨h2, ?_, ?_⟩
      · simp only [e1, (RC_F C1 (k := 11) (by decide)).trans (congrArg some (upd_ne F e (show 11 ≠ 14 by decide))), e2, Option.bind_some]
      · show RX hb x β L S0 F0 n h2 (if g st = true then .inl (e, st.2.2.2) else .inr (v, st))
        rw [if_pos q]
        exact ⟨_, S, st.2.2.2, C2, by rw [upd_ne _ _ (by decide), upd_self], he, by rw [upd_self]; exact C.2.2.1.2.2.1⟩
    · rw [if_pos (by simpa using q)]
      refine ⟨hp, rfl, ?_⟩
      show RX hb x β L S0 F0 n hp (if g st = true then .inl (e, st.2.2.2) else .inr (v, st))
      rw [if_neg q]
      exact X'
theorem R_goOn (b : rBy S0 β L) (X : RX hb x β L S0 F0 n hp r) : ∃ h, f_X8_goOn x hp = some h ∧ RX hb x β L S0 F0 n h (pb r (fun v st => .inr (v, adv β L st))) := by
  rcases r with ⟨e', j⟩ | ⟨v, st⟩
  · have X' := X
    obtain ⟨F, S, i, C, c1, c2, c3⟩ := X
    refine ⟨hp, ?_, X'⟩
    simp only [f_X8_goOn, RC_is C, RC_F C (k := 14) (by decide), c1, Option.bind_some]
    rw [if_neg (fun q => by rw [q] at c2; exact absurd c2 (by decide))]
  · obtain ⟨F, S, C, c1, c2, c3, c4, c5, c6⟩ := X
    have he := tE_in (β := β) C.2.2.2.1
    obtain ⟨h1, F1, e1, W1, t1, k1, f1⟩ := m_next C.1 (RC_by C b) C.2.2.1.1 C.2.2.1.2.1 he.2.1
    refine ⟨h1, ?_, F1, S, ⟨W1, C.2.1, t1, he.2.1, fun k hk => by rw [k1 k (by omega)]; exact C.2.2.2.2.1 k hk, zfr_tr C.2.2.2.2.2 f1⟩, c1, c2, by rw [k1 18 (by decide)]; exact c3, by rw [k1 14 (by decide)]; exact c4, by rw [k1 17 (by decide)]; exact c5, c6⟩
    simp only [f_X8_goOn, RC_is C, RC_F C (k := 14) (by decide), c4, Option.bind_some, if_true, e1]
theorem RX_er (X : RX hb x β L S0 F0 n h (.inl (e, j))) : zgI h x 8 14 = some e ∧ ¬ e = 0 := by
  obtain ⟨F, S, i, C, c1, c2, c3⟩ := X
  exact ⟨(RC_F C (by decide)).trans (congrArg some c1), fun q => by rw [q] at c2; exact absurd c2 (by decide)⟩
theorem RX_ok (X : RX hb x β L S0 F0 n h (.inr (v, st))) : zgI h x 8 14 = some 0 := by
  obtain ⟨F, S, C, c1, c2, c3, c4, c5, c6⟩ := X
  exact (RC_F C (by decide)).trans (congrArg some c4)
theorem rT_1 {k : Nat} (h : k ≤ 4) : (rT k = 1) = (k = 2) := by
  rcases (show k = 0 ∨ k = 1 ∨ k = 2 ∨ k = 3 ∨ k = 4 by omega) with rfl | rfl | rfl | rfl | rfl <;> decide
theorem rT_2 {k : Nat} (h : k ≤ 4) : (rT k = 2) = (k = 3) := by
  rcases (show k = 0 ∨ k = 1 ∨ k = 2 ∨ k = 3 ∨ k = 4 by omega) with rfl | rfl | rfl | rfl | rfl <;> decide
theorem rT_3 {k : Nat} (h : k ≤ 4) : (rT k = 3) = (k = 0) := by
  rcases (show k = 0 ∨ k = 1 ∨ k = 2 ∨ k = 3 ∨ k = 4 by omega) with rfl | rfl | rfl | rfl | rfl <;> decide
theorem tN_dig (hi : i ≤ L) (k2 : tK β L i = 2) : ∀ j, j < tE β L i - tS β L i → dig (β (tS β L i + j)) = true := fun j hj => tD hi k2 (by omega) (by omega)
/-- an answer with its world -/
def RV (hb : zHp) (x : Nat) (β : Nat → Nat) (L : Nat) (S0 : Nat → Nat → Int32) (F0 : Nat → Int32) (n : Int32) (m : Option (Int32 × zHp)) (r : PR) : Prop := ∃ v h, m = some (v, h) ∧ RX hb x β L S0 F0 n h r ∧ ∀ v' st', r = .inr (v', st') → v = v'
theorem R_int (b : rBy S0 β L) (X : RX hb x β L S0 F0 n hp r) {lo hi : Nat} (hl : lo < 10000) (hh : hi < 10000) {x1 x2 : Int32} (e1 : x1 = Int32.ofNat lo) (e2 : x2 = Int32.ofNat hi) : RV hb x β L S0 F0 n (f_X8_integer x x1 x2 hp) (pb r (fun _ st => pInt β L lo hi st)) := by
  subst e1
  subst e2
  obtain ⟨F, S, i, C, c1⟩ := RX_C X
  have hk := tK_le β L i
  have pre : f_X8_integer x (Int32.ofNat lo) (Int32.ofNat hi) hp = j_X8_integer_14 x (Int32.ofNat lo) (Int32.ofNat hi) x (zb (!decide (tK β L i = 2))) hp := by
    simp only [f_X8_integer, RC_is C, RC_F C (k := 12) (by decide), C.2.2.1.2.2.2.1, rT_1 hk, Option.bind_some]
    by_cases q : tK β L i = 2
    · rw [if_pos q, decide_eq_true q]; rfl
    · rw [if_neg q, decide_eq_false q]; rfl
  rw [pre]
  obtain ⟨h1, g1, X1⟩ := R_fails X (fun st => !decide (tK β L st.2.2.2 = 2)) (y := zb (!decide (tK β L i = 2))) (e := -11) (fun v st hr => by rw [(c1 v st hr).1]) (by decide)
  simp only [j_X8_integer_14, g1, Option.bind_some]
  -- what follows an error
  have E : ∀ {h2 : zHp} {e : Int32} {j : Nat}, RX hb x β L S0 F0 n h2 (.inl (e, j)) → ∀ y, ∃ h3, j_X8_integer_41 x (Int32.ofNat lo) x y h2 = some (Int32.ofNat lo, h3) ∧ RX hb x β L S0 F0 n h3 (.inl (e, j)) := fun {h2 e j} X2 y => by
    obtain ⟨h3, g3, X3⟩ := R_fails X2 (fun _ => true) (y := y) (e := -12) (fun v st hr => by cases hr) (by decide)
    obtain ⟨h4, g4, X4⟩ := R_goOn b X3
    obtain ⟨a1, a2⟩ := RX_er X3
    refine ⟨h4, ?_, X4⟩
    simp only [j_X8_integer_41, g3, a1, a2, if_false, j_X8_integer_61, g4, Option.bind_some]
  rcases r with ⟨er, j⟩ | ⟨v, st⟩
  · obtain ⟨F1, S1, i1, C1, -⟩ := RX_C X1
    simp only [RC_F C1 (k := 13) (by decide), Option.bind_some]
    by_cases q1 : F1 13 < Int32.ofNat lo
    · rw [if_pos q1]
      obtain ⟨h3, g3, X3⟩ := E X1 1
      exact ⟨Int32.ofNat lo, h3, g3, X3, fun v' st' hr => by cases hr⟩
    · rw [if_neg q1]
      by_cases q2 : Int32.ofNat hi < F1 13
      · rw [if_pos q2]
        obtain ⟨h3, g3, X3⟩ := E X1 1
        exact ⟨Int32.ofNat lo, h3, g3, X3, fun v' st' hr => by cases hr⟩
      · rw [if_neg q2]
        obtain ⟨h3, g3, X3⟩ := E X1 0
        exact ⟨Int32.ofNat lo, h3, g3, X3, fun v' st' hr => by cases hr⟩
  · have hi' := (c1 v st rfl).1
    subst hi'
    have X1' : RX hb x β L S0 F0 n h1 (if (!decide (tK β L st.2.2.2 = 2)) = true then .inl (-11, st.2.2.2) else .inr (v, st)) := X1
    show RV hb x β L S0 F0 n _ (pInt β L lo hi st)
    unfold pInt
    by_cases k2 : tK β L st.2.2.2 = 2
    · rw [if_neg (by rw [decide_eq_true k2]; decide)] at X1'
      rw [if_pos k2]
      have X1'' := X1'
      obtain ⟨F1, S1, C1, -⟩ := X1'
      have h13 := C1.2.2.1.2.2.2.2 k2
      have cr := cvl_rvl _ (tN_dig C1.2.2.2.1 k2)
      have rb := rvl_le _ (tN_dig C1.2.2.2.1 k2)
      obtain ⟨rv, erv⟩ : ∃ rv, rvl β (tS β L st.2.2.2) (tE β L st.2.2.2 - tS β L st.2.2.2) = rv := ⟨_, rfl⟩
      have cr' : (sCv β L st.2.2.2 = rv ∧ sCv β L st.2.2.2 < 99999) ∨ (sCv β L st.2.2.2 = 99999 ∧ 99999 ≤ rv) := by rw [← erv]; exact cr
      rw [erv] at h13 rb
      simp (disch := omega) only [RC_F C1 (k := 13) (by decide), h13, Option.bind_some, pn_lt]
      have K : ∀ (y : Bool), (y = true ↔ rv < lo ∨ hi < rv) → RV hb x β L S0 F0 n (j_X8_integer_41 x (Int32.ofNat lo) x (zb y) h1) (if sCv β L st.2.2.2 < lo then .inl (-12, st.2.2.2) else if hi < sCv β L st.2.2.2 then .inl (-12, st.2.2.2) else .inr (Int32.ofNat (sCv β L st.2.2.2), adv β L st)) := fun y hy => by
        obtain ⟨h3, g3, X3⟩ := R_fails X1'' (fun _ => y) (y := zb y) (e := -12) (fun v st hr => rfl) (by decide)
        have X3' : RX hb x β L S0 F0 n h3 (if y = true then .inl (-12, st.2.2.2) else .inr (v, st)) := X3
        obtain ⟨h4, g4, X4⟩ := R_goOn b X3'
        by_cases q : y = true
        · rw [if_pos q] at X3' X4
          have q' := hy.mp q
          obtain ⟨a1, a2⟩ := RX_er X3'
          have er : (if sCv β L st.2.2.2 < lo then (.inl (-12, st.2.2.2) : PR) else if hi < sCv β L st.2.2.2 then .inl (-12, st.2.2.2) else .inr (Int32.ofNat (sCv β L st.2.2.2), adv β L st)) = .inl (-12, st.2.2.2) := by
            by_cases q1 : sCv β L st.2.2.2 < lo
            · rw [if_pos q1]
            · rw [if_neg q1, if_pos (by omega)]
          rw [er]
          refine ⟨Int32.ofNat lo, h4, ?_, X4, fun v' st' hr => by cases hr⟩
          simp only [j_X8_integer_41, g3, a1, a2, if_false, j_X8_integer_61, g4, Option.bind_some]
        · rw [if_neg q] at X3' X4
          have q' : ¬ (rv < lo ∨ hi < rv) := fun z => q (hy.mpr z)
          have a1 := RX_ok X3'
          have es : sCv β L st.2.2.2 = rv := by omega
          rw [es, if_neg (by omega), if_neg (by omega)]
          obtain ⟨F3, S3, C3, -⟩ := X3'
          have h133 := C3.2.2.1.2.2.2.2 k2
          rw [erv] at h133
          refine ⟨Int32.ofNat rv, h4, ?_, X4, fun v' st' hr => by cases hr; rfl⟩
          simp only [j_X8_integer_41, g3, a1, if_true, RC_F C3 (k := 13) (by decide), h133, j_X8_integer_61, g4, Option.bind_some]
      by_cases q1 : rv < lo
      · rw [if_pos q1]
        exact K true ⟨fun _ => Or.inl q1, fun _ => rfl⟩
      · rw [if_neg q1]
        by_cases q2 : hi < rv
        · rw [if_pos q2]
          exact K true ⟨fun _ => Or.inr q2, fun _ => rfl⟩
        · rw [if_neg q2]
          exact K false ⟨(fun z => by cases z), (fun z => by omega)⟩
    · rw [if_pos (by rw [decide_eq_false k2]; rfl)] at X1'
      rw [if_neg k2]
      obtain ⟨F1, S1, i1, C1, -⟩ := RX_C X1'
      simp only [RC_F C1 (k := 13) (by decide), Option.bind_some]
      by_cases q1 : F1 13 < Int32.ofNat lo
      · rw [if_pos q1]
        obtain ⟨h3, g3, X3⟩ := E X1' 1
        exact ⟨Int32.ofNat lo, h3, g3, X3, fun v' st' hr => by cases hr⟩
      · rw [if_neg q1]
        by_cases q2 : Int32.ofNat hi < F1 13
        · rw [if_pos q2]
          obtain ⟨h3, g3, X3⟩ := E X1' 1
          exact ⟨Int32.ofNat lo, h3, g3, X3, fun v' st' hr => by cases hr⟩
        · rw [if_neg q2]
          obtain ⟨h3, g3, X3⟩ := E X1' 0
          exact ⟨Int32.ofNat lo, h3, g3, X3, fun v' st' hr => by cases hr⟩
end P59
