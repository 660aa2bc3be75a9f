/-! PURE: the class's loader: a text -/
section P56
variable {w : Bool} {hp h hp' : zHp} {x a c d L i j k : Nat} {ro : Nat → Nat} {β : Nat → Nat} {st st' : PSt} {R : Nat → Nat → Int32} {T N N' : Nat → Int32} {v : Int32}
/-! places go on -/
def mono (L : Nat) (st : PSt) (r : PR) : Prop := ∀ v st', r = .inr (v, st') → st.2.2.2 ≤ st'.2.2.2 ∧ st'.2.2.2 ≤ L
theorem mono_err {e : Int32 × Nat} : mono L st (.inl e) := fun _ _ h => by cases h
theorem mono_of (h1 : st.2.2.2 ≤ st'.2.2.2) (h2 : st'.2.2.2 ≤ L) {v : Int32} : mono L st (.inr (v, st')) := fun _ _ h => by cases h; exact ⟨h1, h2⟩
theorem mono_i {z : PSt} {v : Int32} (e : z.2.2.2 = st.2.2.2) (hL : st.2.2.2 ≤ L) : mono L st (.inr (v, z)) := fun _ _ h => by cases h; rw [e]; exact ⟨Nat.le_refl _, hL⟩
theorem mono_up {st1 : PSt} {r : PR} (e : st.2.2.2 ≤ st1.2.2.2) (m : mono L st1 r) : mono L st r := fun v st' h => ⟨Nat.le_trans e (m v st' h).1, (m v st' h).2⟩
theorem mono_b {r : PR} {k : Int32 → PSt → PR} (X : mono L st r) (Y : ∀ v st', st'.2.2.2 ≤ L → r = .inr (v, st') → mono L st' (k v st')) : mono L st (pb r k) := by
  intro v st2 h
  obtain ⟨v1, st1, h1, h2⟩ := pb_inr h
  obtain ⟨a1, a2⟩ := X _ _ h1
  obtain ⟨b1, b2⟩ := Y v1 st1 a2 h1 _ _ h2
  exact ⟨Nat.le_trans a1 b1, b2⟩
theorem adv_in (h : st.2.2.2 ≤ L) : st.2.2.2 ≤ (adv β L st).2.2.2 ∧ (adv β L st).2.2.2 ≤ L := by
  have h1 := tS_in (β := β) h
  have h2 := tE_in (β := β) h
  exact ⟨Nat.le_trans h1.1 h2.1, h2.2.1⟩
theorem m_Int {lo hi : Nat} (h : st.2.2.2 ≤ L) : mono L st (pInt β L lo hi st) := fun _ _ e => by rw [(pInt_st e).1]; exact adv_in h
theorem m_Thing {s : Nat} (h : st.2.2.2 ≤ L) : mono L st (pThing β L s st) := fun _ _ e => by rw [(pThing_st e).1]; exact adv_in h
theorem m_Head {s most : Nat} (h : st.2.2.2 ≤ L) : mono L st (pHead β L s most st) := fun _ _ e => by
  rw [(pHead_st e).1]
  have h1 := adv_in (β := β) h
  have h2 := adv_in (β := β) (st := adv β L (put st (zno s + sN st.1 s) ‹Int32›)) h1.2
  exact ⟨Nat.le_trans h1.1 h2.1, h2.2⟩
theorem m_Pap {b : Nat} : ∀ (e p : Nat) (st : PSt), st.2.2.2 ≤ L → mono L st (pPap β L b e p st)
  | 0, _, st, h => mono_of (Nat.le_refl _) h
  | e + 1, p, st, h => by
    unfold pPap
    exact mono_b (m_Int h) (fun v st' hL _ => m_Pap e (p + 1) (put st' (68 + 6 * b + p) v) hL)
theorem m_SetK {k : Nat} (h : st.2.2.2 ≤ L) : mono L st (pSetK β L k st) := by
  unfold pSetK
  by_cases q : gBit st.2.2.1 k = true
  · rw [if_pos q]; exact mono_err
  · rw [if_neg q]
    have h2 := adv_in (β := β) h
    exact mono_up h2.1 (mono_b (m_Int h2.2) (fun _ _ hL _ => mono_i rfl hL))
theorem m_Decl (h : st.2.2.2 ≤ L) : mono L st (pDecl β L st) := by
  unfold pDecl
  split
  · refine mono_b ?_ (fun _ _ hL _ => mono_i rfl hL)
    unfold pParty
    split
    · exact mono_err
    · exact m_Head h
  · split
    · refine mono_b ?_ (fun _ _ hL _ => mono_i rfl hL)
      unfold pRegion
      refine mono_b (m_Head h) (fun v st1 hL _ => ?_)
      split
      · have h1 := adv_in (β := β) hL
        exact mono_up h1.1 (mono_b (m_Thing h1.2) (fun _ _ hL _ => mono_i rfl hL))
      · exact mono_i rfl hL
    · split
      · refine mono_b ?_ (fun _ _ hL _ => mono_i rfl hL)
        unfold pWard
        exact mono_b (m_Head h) (fun v st1 hL _ => mono_b (m_Thing hL) (fun _ _ hL _ => mono_i rfl hL))
      · split
        · refine mono_b ?_ (fun _ _ hL _ => mono_i rfl hL)
          unfold pBox
          exact mono_b (m_Head h) (fun v st1 hL _ => mono_b (m_Thing hL) (fun _ _ hL _ => mono_b (m_Int hL) (fun _ _ hL _ => mono_b (m_Int hL) (fun _ _ hL _ => mono_b (m_Pap _ _ _ hL) (fun _ _ hL _ => mono_i rfl hL)))))
        · split
          · refine mono_b ?_ (fun _ _ hL _ => mono_i rfl hL)
            unfold pTable
            refine mono_b ?_ (fun v st1 hL _ => mono_b (m_Int hL) (fun _ _ hL _ => mono_i rfl hL))
            unfold pBegin
            split
            · exact mono_of (adv_in h).1 (adv_in h).2
            · exact mono_err
          · split
            · unfold pSet
              split
              · exact mono_err
              · have h1 := adv_in (β := β) h
                exact mono_up h1.1 (m_SetK h1.2)
            · exact mono_err
theorem pStm_lt (h : st.2.2.2 ≤ L) (e : pStm β L st = .inr (v, st')) : st.2.2.2 < st'.2.2.2 ∧ st'.2.2.2 ≤ L := by
  unfold pStm at e
  obtain ⟨v1, st1, h1, h2⟩ := pb_inr e
  obtain ⟨a1, a2⟩ := m_Decl h _ _ h1
  unfold pSemi at h2
  split at h2
  · rename_i q
    cases h2
    have b1 := tE_in (β := β) a2
    have b2 := tS_in (β := β) a2
    have b3 := b1.2.2 (by omega)
    exact ⟨by show _ < tE β L st1.2.2.2; omega, b1.2.1⟩
  · cases h2
/-- the statements of a text, at most f -/
def pAll (β : Nat → Nat) (L : Nat) : Nat → PSt → (Int32 × Nat) ⊕ (Nat × PSt)
  | 0, st => .inr (0, st)
  | f + 1, st => if tK β L st.2.2.2 = 0 then .inr (0, st) else match pStm β L st with
    | .inl e => .inl e
    | .inr (_, st') => match pAll β L f st' with
      | .inl e => .inl e
      | .inr (n, st'') => .inr (n + 1, st'')
theorem C_stm (W : LW hp c d ro β L st) (hd : c + 4 ≤ d) {k60 k79 rec : Int32 → zHp → Option (Int32 × zHp)} {x1 x2 : Int32} : match pStm β L st with
    | .inl (e, j) => ∃ h, (zb2 (f_X4_readDeclaration ro (c + 1) hp) fun v9 h10 => if v9 < 0 then (j_X4_readText_56 ro k60 k79 rec (c + 1) x1 x2 v9 h10) else zb2 (f_X4_readSemicolon (c + 1) h10) fun v12 h13 => j_X4_readText_56 ro k60 k79 rec (c + 1) x1 x2 v12 h13) = k60 e h ∧ e < 0 ∧ LE h c d β L j ∧ lfr true c d hp h
    | .inr (_, st') => ∃ h, (zb2 (f_X4_readDeclaration ro (c + 1) hp) fun v9 h10 => if v9 < 0 then (j_X4_readText_56 ro k60 k79 rec (c + 1) x1 x2 v9 h10) else zb2 (f_X4_readSemicolon (c + 1) h10) fun v12 h13 => j_X4_readText_56 ro k60 k79 rec (c + 1) x1 x2 v12 h13) = rec (x2 + 1) h ∧ LW h c d ro β L st' ∧ lfr true c d hp h := by
  have C := C_decl W hd
  unfold pStm
  rcases hr : pDecl β L st with ⟨e, j⟩ | ⟨v, st1⟩
  · rw [hr] at C
    obtain ⟨h, g1, g2, g3, f1⟩ := C
    refine ⟨h, ?_, g2, g3, f1⟩
    rw [g1, zb2_some, if_pos g2]
    unfold j_X4_readText_56
    rw [if_pos g2]
  · rw [hr] at C
    obtain ⟨h, g1, g2, W1, f1⟩ := C
    have C2 := C_semi W1 hd
    show match pSemi β L st1 with | .inl (e, j) => _ | .inr (_, st') => _
    rcases hr2 : pSemi β L st1 with ⟨e, j⟩ | ⟨v2, st2⟩
    · rw [hr2] at C2
      obtain ⟨h', i1, i2, i3, f2⟩ := C2
      refine ⟨h', ?_, i2, i3, lfr_tr f1 (lfr_up f2)⟩
      rw [g1, zb2_some, if_neg g2, i1, zb2_some]
      unfold j_X4_readText_56
      rw [if_pos i2]
    · rw [hr2] at C2
      obtain ⟨h', i1, i2, W2, f2⟩ := C2
      refine ⟨h', ?_, W2, lfr_tr f1 (lfr_up f2)⟩
      rw [g1, zb2_some, if_neg g2, i1, zb2_some]
      unfold j_X4_readText_56
      rw [if_neg i2]
      rfl
theorem C_loop (hd : c + 4 ≤ d) (hL : L ≤ 900) {k60 k79 : Int32 → zHp → Option (Int32 × zHp)} : ∀ (f n m : Nat) (st : PSt) (hp : zHp), n ≤ st.2.2.2 → L - st.2.2.2 < f → f ≤ m → LW hp c d ro β L st →
    match pAll β L f st with
    | .inl (e, j) => ∃ h, l_X4_readText_27 ro k60 k79 (c + 1) (Int32.ofNat L) m (Int32.ofNat n) hp = k60 e h ∧ e < 0 ∧ LE h c d β L j ∧ lfr true c d hp h
    | .inr (q, st') => ∃ h, l_X4_readText_27 ro k60 k79 (c + 1) (Int32.ofNat L) m (Int32.ofNat n) hp = k79 (Int32.ofNat (n + q)) h ∧ LW h c d ro β L st' ∧ lfr true c d hp h := by
  intro f
  induction f with
  | zero => intro n m st hp h1 h2 h3 W; omega
  | succ f ih =>
    intro n m st hp h1 h2 h3 W
    obtain ⟨m, rfl⟩ : ∃ q, m = q + 1 := ⟨m - 1, by omega⟩
    have hpl : st.2.2.2 ≤ L := W.2.2.1
    have hk := tK_le β L st.2.2.2
    unfold pAll
    simp (disch := omega) only [l_X4_readText_27_s, b_X4_readText_27, pn_lt, show ¬ L < n by omega, if_false, LW_in W, LW_kind W, Option.bind_some, pn_eq0]
    by_cases k0 : tK β L st.2.2.2 = 0
    · rw [if_pos k0, if_pos k0]
      exact ⟨hp, rfl, W, lfr_rf⟩
    · rw [if_neg k0, if_neg k0]
      have C := C_stm W hd (k60 := k60) (k79 := k79) (rec := l_X4_readText_27 ro k60 k79 (c + 1) (Int32.ofNat L) m) (x1 := Int32.ofNat L) (x2 := Int32.ofNat n)
      rcases hr : pStm β L st with ⟨e, j⟩ | ⟨v, st1⟩
      · rw [hr] at C
        exact C
      · rw [hr] at C
        obtain ⟨h, g1, W1, f1⟩ := C
        have hlt := pStm_lt hpl hr
        rw [g1, pn_succ]
        have I := ih (n + 1) m st1 h (by omega) (by omega) (by omega) W1
        show match (match pAll β L f st1 with | .inl e => Sum.inl e | .inr (n, st'') => Sum.inr (n + 1, st'')) with | .inl (e, j) => _ | .inr (_, st') => _
        rcases hr2 : pAll β L f st1 with ⟨e, j⟩ | ⟨q, st2⟩
        · rw [hr2] at I
          obtain ⟨h2, i1, i2, i3, i4⟩ := I
          exact ⟨h2, i1, i2, i3, lfr_tr f1 i4⟩
        · rw [hr2] at I
          obtain ⟨h2, i1, i2, i3⟩ := I
          refine ⟨h2, ?_, i2, lfr_tr f1 i3⟩
          rw [i1, show n + 1 + q = n + (q + 1) by omega]
/-! before a text -/
theorem fr_r {h1 h2 : zHp} {p : Nat → Prop} (f : ∀ a, p a → h2 a = h1 a) (a : Nat) (h : p a) : h2 a = h1 a := f a h
theorem wP_27 (X : wP hp d R) : zgR hp d 5 9 = some (d + 27) := po_R X.1 rfl
theorem wP_0 (X : wP hp d R) : zgR hp d 5 0 = some (d + 1) := po_R X.1 rfl
theorem wP_is (X : wP hp d R) : zis hp d 5 = some () := po_is X.1
theorem C_clear (X : wP hp d R) : ∃ h R', f_X5_clear d hp = some h ∧ wP h d R' ∧ (∀ s, s < 5 → R' 1 s = 0) ∧ R' 27 0 = 5 ∧ R' 27 1 = 0 ∧ ∀ a, a ≠ d + 1 → a ≠ d + 27 → h a = hp a := by
  simp only [f_X5_clear, wP_is X, Option.bind_some]
  generalize hK : (fun h4 : zHp => (zgR h4 d 5 9).bind fun r5 => (zsI h4 r5 (0 : Int32) (5 : Int32)).bind fun h6 => (zgR h6 d 5 9).bind fun r7 => (zsI h6 r7 (1 : Int32) (0 : Int32)).bind fun h8 => some h8) = K
  obtain ⟨h1, ⟨R1, X1, z1, f1⟩, e1⟩ := zFH (l := l_X5_clear_2 K d) (hp := hp) (n := 5) (m := 1000000) (k := K) (fun i h => ∃ R', wP h d R' ∧ (∀ s, s < i → R' 1 s = 0) ∧ ∀ a, a ≠ d + 1 → h a = hp a) (by decide) ⟨R, X, fun s hs => absurd hs (Nat.not_lt_zero s), fun _ _ => rfl⟩ (fun i h hi ⟨R', X', z, f⟩ => by
      obtain ⟨h', e', X2, f2⟩ := wP_wr X' (j := 1) (k := i) (Or.inl rfl) hi 0
      have ix : zaI h 0 (d + 1) (Int32.ofNat i) = some (R' 1 i) := wP_rd X' (Or.inl rfl) hi
      refine ⟨h', ⟨_, X2, fun s hs => ?_, fun a ha => by rw [f2 a ha, f a ha]⟩, fun m => ?_⟩
      · rw [w2_at]
        by_cases q : s = i
        · rw [if_pos ⟨rfl, q⟩]
        · rw [if_neg (fun z => q z.2)]
          exact z s (by omega)
      · have h5 : Int32.ofNat i < 5 := by
          rw [show (5 : Int32) = Int32.ofNat 5 from rfl, pn_lt (by omega) (by decide)]
          exact hi
        have h5' : i < 5 := hi
        simp (disch := omega) only [l_X5_clear_2_s, b_X5_clear_2, h5, h5', if_true, wP_0 X', e', Option.bind_some, zlet, pn_succ]) (fun h _ m => by
      simp only [l_X5_clear_2_s, b_X5_clear_2, show ¬ Int32.ofNat 5 < 5 by decide, if_false])
  rw [show (0 : Int32) = Int32.ofNat 0 from rfl] at e1
  obtain ⟨h2, e2, X2, f2⟩ := wP_wr X1 (j := 27) (k := 0) (by unfold pCell; omega) (show 0 < 2 by decide) 5
  obtain ⟨h3, e3, X3, f3⟩ := wP_wr X2 (j := 27) (k := 1) (by unfold pCell; omega) (show 1 < 2 by decide) 0
  refine ⟨h3, _, ?_, X3, fun s hs => ?_, ?_, ?_, fun a a1 a2 => by rw [f3 a a2, f2 a a2, f1 a a1]⟩
  · rw [show (0 : Int32) = Int32.ofNat 0 from rfl, e1, ← hK]
    simp only [wP_27 X1, show zsI h1 (d + 27) 0 5 = some h2 from e2, wP_27 X2, show zsI h2 (d + 27) 1 0 = some h3 from e3, Option.bind_some]
  · rw [w2_o _ _ (by omega), w2_o _ _ (by omega)]; exact z1 s hs
  · rw [w2_o _ _ (by omega), w2_at, if_pos ⟨rfl, rfl⟩]
  · rw [w2_at, if_pos ⟨rfl, rfl⟩]
end P56

