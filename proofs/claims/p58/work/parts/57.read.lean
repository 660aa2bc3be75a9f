/-! PURE: what a text that is read leaves; the class's readText -/
section P57
variable {w : Bool} {hp h hp' : zHp} {x a c d L i j k : Nat} {ro : Nat → Nat} {β : Nat → Nat} {st st' : PSt} {R : Nat → Nat → Int32} {T N N' I Bt : Nat → Int32} {v : Int32}
/-- of a hall that is being read -/
def PI (st : PSt) : Prop := (st.2.1 9 = 0 ∧ st.2.1 2 = 5000) ∧ (∀ b, b < 12 → sF st.2.1 b 3 = 0) ∧ (∀ b, b < sN st.1 3 → sF st.2.1 b 0 = -3 ∧ sF st.2.1 b 2 = 1 ∧ sF st.2.1 b 4 = sF st.2.1 b 1) ∧ (∀ k, 538 ≤ k → st.2.1 k = 0) ∧ (∀ k, 144 ≤ k → st.1 k = 0) ∧ sN st.1 0 ≤ 5 ∧ sN st.1 3 ≤ 12
theorem PI_put (P : PI st) {k : Nat} (h1 : 5 ≤ k) (h2 : k < 144) (v : Int32) : PI (put st k v) := by
  obtain ⟨p1, p2, p3, p4, p5, p6, p7⟩ := P
  have hn : ∀ s, s < 5 → sN (put st k v).1 s = sN st.1 s := fun s hs => by
    unfold sN
    show (upd st.1 k v s).toNatClampNeg = _
    rw [upd_ne _ _ (by omega)]
  exact ⟨p1, p2, fun b hb => p3 b (by rw [hn 3 (by decide)] at hb; exact hb), p4, fun j hj => (upd_ne _ _ (by omega)).trans (p5 j hj), by rw [hn 0 (by decide)]; exact p6, by rw [hn 3 (by decide)]; exact p7⟩
theorem PI_incr (P : PI st) {s : Nat} (hs : s < 5) (h3 : s ≠ 3) (hb : sN st.1 s < 100) (h0 : s = 0 → sN st.1 0 < 5) : PI (incr s st) := by
  obtain ⟨p1, p2, p3, p4, p5, p6, p7⟩ := P
  have hn := incr_n hb
  have e3 : sN (incr s st).1 3 = sN st.1 3 := by
    show sN (upd st.1 s (Int32.ofNat (sN st.1 s + 1))) 3 = _
    rw [hn 3 (by decide), if_neg (by omega)]
  refine ⟨p1, p2, fun b hb => p3 b (by rw [e3] at hb; exact hb), p4, fun j hj => (upd_ne _ _ (by omega)).trans (p5 j hj), ?_, by rw [e3]; exact p7⟩
  show sN (upd st.1 s (Int32.ofNat (sN st.1 s + 1))) 0 ≤ 5
  rw [hn 0 (by decide)]
  by_cases q : 0 = s
  · rw [if_pos q]
    have := h0 q.symm
    subst q
    omega
  · rw [if_neg q]; exact p6
theorem PI_box (P : PI st) (h3 : sN st.1 3 < 12) (z : Int32) : PI (incr 3 (putN st (nNew st.2.1 (sN st.1 3) z))) := by
  obtain ⟨p1, p2, p3, p4, p5, p6, p7⟩ := P
  have hn := incr_n (T := st.1) (s := 3) (by omega)
  have e3 : sN (incr 3 (putN st (nNew st.2.1 (sN st.1 3) z))).1 3 = sN st.1 3 + 1 := (hn 3 (by decide)).trans (if_pos rfl)
  have e0 : sN (incr 3 (putN st (nNew st.2.1 (sN st.1 3) z))).1 0 = sN st.1 0 := (hn 0 (by decide)).trans (if_neg (by decide))
  refine ⟨⟨(nB_lo (by decide)).trans p1.1, (nB_lo (by decide)).trans p1.2⟩, fun b hb => ?_, fun b hb => ?_, fun k hk => (nB_hi (by omega) hk).trans (p4 k hk), fun j hj => (upd_ne _ _ (by omega)).trans (p5 j hj), by rw [e0]; exact p6, by rw [e3]; omega⟩
  · show sF (nNew st.2.1 (sN st.1 3) z) b 3 = 0
    by_cases q : b = sN st.1 3
    · rw [q, nNew_row _ _ _ (by decide)]
      exact p2 (sN st.1 3) h3
    · rw [nNew_ne _ _ q (by decide)]
      exact p2 b hb
  · show sF (nNew st.2.1 (sN st.1 3) z) b 0 = -3 ∧ sF (nNew st.2.1 (sN st.1 3) z) b 2 = 1 ∧ sF (nNew st.2.1 (sN st.1 3) z) b 4 = sF (nNew st.2.1 (sN st.1 3) z) b 1
    rw [e3] at hb
    by_cases q : b = sN st.1 3
    · rw [q, nNew_row _ _ _ (by decide), nNew_row _ _ _ (by decide), nNew_row _ _ _ (by decide), nNew_row _ _ _ (by decide)]
      exact ⟨rfl, rfl, rfl⟩
    · rw [nNew_ne _ _ q (by decide), nNew_ne _ _ q (by decide), nNew_ne _ _ q (by decide), nNew_ne _ _ q (by decide)]
      exact p3 b (by omega)
theorem PI_set (P : PI st) {k : Nat} (hk : k < 2) (v sg : Int32) (pl : Nat) : PI (st.1, upd st.2.1 k v, sg, pl) := by
  obtain ⟨p1, p2, p3, p4, p5, p6, p7⟩ := P
  have e : ∀ b q, sF (upd st.2.1 k v) b q = sF st.2.1 b q := fun b q => by
    unfold sF
    rw [upd_ne _ _ (by omega)]
  exact ⟨⟨(upd_ne _ _ (by omega)).trans p1.1, (upd_ne _ _ (by omega)).trans p1.2⟩, fun b hb => (e b 3).trans (p2 b hb), fun b hb => by
    show sF (upd st.2.1 k v) b 0 = -3 ∧ sF (upd st.2.1 k v) b 2 = 1 ∧ sF (upd st.2.1 k v) b 4 = sF (upd st.2.1 k v) b 1
    rw [e, e, e, e]; exact p3 b hb, fun j hj => (upd_ne _ _ (by omega)).trans (p4 j hj), p5, p6, p7⟩
theorem PI_head {s : Nat} (hs : s < 4) (P : PI st) (e : pHead β L s (smx s) st = .inr (v, st')) : PI st' := by
  obtain ⟨q, hm⟩ := pHead_st e
  have hz := zno_in s hs
  have h := PI_put P (k := zno s + sN st.1 s) (by omega) (by unfold smx at hm; rcases hz with ⟨rfl, hz⟩ | ⟨rfl, hz⟩ | ⟨rfl, hz⟩ | ⟨rfl, hz⟩ <;> simp at hm <;> omega) v
  rw [q]
  exact h
theorem pPap_st {b : Nat} (hb : b < 12) : ∀ (e p : Nat) (st st' : PSt) (v : Int32), p + e ≤ 6 → pPap β L b e p st = .inr (v, st') → (∀ i, i < 68 ∨ 144 ≤ i → st'.1 i = st.1 i) ∧ st'.2.1 = st.2.1
  | 0, _, st, st', v, _, h => by cases h; exact ⟨fun _ _ => rfl, rfl⟩
  | e + 1, p, st, st', v, hp, h => by
    unfold pPap at h
    obtain ⟨v1, st1, h1, h2⟩ := pb_inr h
    obtain ⟨u1, -⟩ := pInt_st h1
    obtain ⟨i1, i2⟩ := pPap_st hb e (p + 1) _ _ _ (by omega) h2
    subst u1
    exact ⟨fun i hi => (i1 i hi).trans (upd_ne _ _ (by omega)), i2⟩
theorem PI_decl (P : PI st) (e : pDecl β L st = .inr (v, st')) : PI st' := by
  unfold pDecl at e
  split at e
  · obtain ⟨v1, st1, h1, h2⟩ := pb_inr e
    cases h2
    unfold pParty at h1
    split at h1
    · cases h1
    · obtain ⟨t1, t2, t3, t4⟩ := pHead_T (by decide) h1
      exact PI_incr (PI_head (s := 0) (by decide) P h1) (by decide) (by decide) (by omega) (fun _ => t2)
  · split at e
    · obtain ⟨v1, st1, h1, h2⟩ := pb_inr e
      cases h2
      unfold pRegion at h1
      obtain ⟨v2, st2, g1, g2⟩ := pb_inr h1
      have P2 := PI_head (s := 1) (by decide) P g1
      obtain ⟨t1, t2, t3, t4⟩ := pHead_T (by decide) g1
      split at g2
      · obtain ⟨v3, st3, k1, k2⟩ := pb_inr g2
        obtain ⟨u1, -⟩ := pThing_st k1
        cases k2
        have a1 : st3.1 = st2.1 := by rw [u1]; rfl
        have P3 : PI st3 := by rw [u1]; exact P2
        have h5 : sN st3.1 1 < 5 := by rw [a1]; exact t2
        refine PI_incr (PI_put P3 (k := 33 + sN st3.1 1) (by omega) (by omega) v3) (by decide) (by decide) ?_ (fun q => absurd q (by decide))
        show (upd st3.1 (33 + sN st3.1 1) v3 1).toNatClampNeg < 100
        rw [upd_ne _ _ (by omega)]
        show sN st3.1 1 < 100
        omega
      · cases g2
        refine PI_incr (PI_put P2 (k := 33 + sN st2.1 1) (by omega) (by omega) (-1)) (by decide) (by decide) ?_ (fun q => absurd q (by decide))
        show (upd st2.1 (33 + sN st2.1 1) (-1) 1).toNatClampNeg < 100
        rw [upd_ne _ _ (by omega)]
        show sN st2.1 1 < 100
        omega
    · split at e
      · obtain ⟨v1, st1, h1, h2⟩ := pb_inr e
        cases h2
        unfold pWard at h1
        obtain ⟨v2, st2, g1, g2⟩ := pb_inr h1
        have P2 := PI_head (s := 2) (by decide) P g1
        obtain ⟨t1, t2, t3, t4⟩ := pHead_T (by decide) g1
        obtain ⟨v3, st3, k1, k2⟩ := pb_inr g2
        obtain ⟨u1, -⟩ := pThing_st k1
        cases k2
        have a1 : st3.1 = st2.1 := by rw [u1]; rfl
        have P3 : PI st3 := by rw [u1]; exact P2
        have h5 : sN st3.1 2 < 6 := by rw [a1]; exact t2
        refine PI_incr (PI_put P3 (k := 38 + sN st3.1 2) (by omega) (by omega) v3) (by decide) (by decide) ?_ (fun q => absurd q (by decide))
        show (upd st3.1 (38 + sN st3.1 2) v3 2).toNatClampNeg < 100
        rw [upd_ne _ _ (by omega)]
        show sN st3.1 2 < 100
        omega
      · split at e
        · obtain ⟨v1, st1, h1, h2⟩ := pb_inr e
          cases h2
          unfold pBox at h1
          obtain ⟨v2, st2, g1, h1⟩ := pb_inr h1
          have P2 := PI_head (s := 3) (by decide) P g1
          obtain ⟨t1, t2, t3, t4⟩ := pHead_T (by decide) g1
          obtain ⟨v3, st3, k3, h1⟩ := pb_inr h1
          obtain ⟨u3, -⟩ := pThing_st k3
          obtain ⟨v4, st4, k4, h1⟩ := pb_inr h1
          obtain ⟨u4, -⟩ := pInt_st k4
          obtain ⟨v5, st5, k5, h1⟩ := pb_inr h1
          obtain ⟨u5, -⟩ := pInt_st k5
          obtain ⟨v6, st6, k6, h1⟩ := pb_inr h1
          cases h1
          have P5 : PI st5 := by rw [u5, u4, u3]; exact P2
          have a5 : st5.1 = st2.1 := by rw [u5, u4, u3]; rfl
          have h5 : sN st5.1 3 < 12 := by rw [a5]; exact t2
          have hpi : sPi st5.1 ≤ 6 := zpi P5.2.2.2.2.2.1
          obtain ⟨q1, q2⟩ := pPap_st h5 _ _ _ _ _ (by omega) k6
          have hn : ∀ s, s < 5 → sN st6.1 s = sN st5.1 s := fun s hs => by unfold sN; rw [q1 s (by omega)]
          have P6 : PI st6 := by
            obtain ⟨p1, p2, p3, p4, p5, p6, p7⟩ := P5
            exact ⟨by rw [q2]; exact p1, by rw [q2]; exact p2, by rw [q2, hn 3 (by decide)]; exact p3, by rw [q2]; exact p4, fun j hj => (q1 j (by omega)).trans (p5 j hj), by rw [hn 0 (by decide)]; exact p6, by rw [hn 3 (by decide)]; exact p7⟩
          have h6 : sN st6.1 3 < 12 := by rw [hn 3 (by decide)]; exact h5
          have P7 := PI_put (PI_put P6 (k := 44 + sN st6.1 3) (by omega) (by omega) v3) (k := 56 + sN st6.1 3) (by omega) (by omega) v4
          have e7 : sN (put (put st6 (44 + sN st6.1 3) v3) (56 + sN st6.1 3) v4).1 3 = sN st6.1 3 := by
            show (upd (upd st6.1 (44 + sN st6.1 3) v3) (56 + sN st6.1 3) v4 3).toNatClampNeg = _
            rw [upd_ne _ _ (by omega), upd_ne _ _ (by omega)]
            rfl
          have P8 := PI_box P7 (by rw [e7]; exact h6) v5
          rw [e7] at P8
          exact P8
        · split at e
          · obtain ⟨v1, st1, h1, h2⟩ := pb_inr e
            cases h2
            unfold pTable at h1
            obtain ⟨v2, st2, g1, g2⟩ := pb_inr h1
            obtain ⟨v3, st3, k1, k2⟩ := pb_inr g2
            obtain ⟨u1, -⟩ := pInt_st k1
            cases k2
            unfold pBegin at g1
            split at g1
            · rename_i hm
              cases g1
              subst u1
              have hm' : sN st.1 4 < 4 := hm
              refine PI_incr (PI_put P (k := 140 + sN st.1 4) (by omega) (by omega) v3) (by decide) (by decide) ?_ (fun q => absurd q (by decide))
              show (upd st.1 (140 + sN st.1 4) v3 4).toNatClampNeg < 100
              rw [upd_ne _ _ (by omega)]
              show sN st.1 4 < 100
              omega
            · cases g1
          · split at e
            · unfold pSet at e
              split at e
              · cases e
              · have S : ∀ {k : Nat} {st : PSt}, k < 2 → PI st → pSetK β L k st = .inr (v, st') → PI st' := fun {k st} hk P e => by
                  unfold pSetK at e
                  by_cases q : gBit st.2.2.1 k = true
                  · rw [if_pos q] at e; cases e
                  · rw [if_neg q] at e
                    obtain ⟨v1, st1, h1, h2⟩ := pb_inr e
                    obtain ⟨u1, -⟩ := pInt_st h1
                    subst u1
                    cases h2
                    exact PI_set P hk _ _ _
                have hk : (if sWs2 β L (tE β L st.2.2.2) = 0 then 0 else 1) < 2 := by split <;> decide
                exact S (st := adv β L st) hk P e
            · cases e
theorem PI_all : ∀ (f : Nat) (st st' : PSt) (n : Nat), PI st → pAll β L f st = .inr (n, st') → PI st' ∧ n ≤ f
  | 0, st, st', n, P, h => by cases h; exact ⟨P, Nat.le_refl _⟩
  | f + 1, st, st', n, P, h => by
    unfold pAll at h
    split at h
    · cases h; exact ⟨P, Nat.zero_le _⟩
    · split at h
      · cases h
      · rename_i v st1 hr
        unfold pStm at hr
        obtain ⟨v1, st2, h1, h2⟩ := pb_inr hr
        have P2 := PI_decl P h1
        have P1 : PI st1 := by
          unfold pSemi at h2
          split at h2
          · cases h2; exact P2
          · cases h2
        split at h
        · cases h
        · rename_i m st3 h3
          cases h
          obtain ⟨i1, i2⟩ := PI_all f st1 st' m P1 h3
          exact ⟨i1, by omega⟩
/-- at the start -/
def N0 : Nat → Int32 := fun k => if k = 0 then 5 else if k = 2 then 5000 else 0
def st0 : PSt := (fun _ => 0, N0, 0, 0)
theorem PI_0 : PI st0 := by
  refine ⟨⟨rfl, rfl⟩, fun b hb => ?_, fun b hb => absurd hb (Nat.not_lt_zero b), fun k hk => ?_, fun _ _ => rfl, by decide, by decide⟩
  · unfold sF
    rw [show st0.2.1 = N0 from rfl]
    unfold N0
    rw [if_neg (by omega), if_neg (by omega)]
  · show N0 _ = 0
    unfold N0
    rw [if_neg (by omega), if_neg (by omega)]
theorem C_beginText (W : wIn hp a I Bt) (b : inBy Bt β L) : ∃ h I', f_X3_beginText a (Int32.ofNat L) hp = some h ∧ wIn h a I' Bt ∧ inT I' β L 0 ∧ I' 1 = 0 ∧ zfr hp h a 1 := by
  have b1 := b.1
  obtain ⟨h1, e1, W1, f1⟩ := in_setF W (k := 2) (by decide) (by decide) (Int32.ofNat L)
  obtain ⟨h2, e2, W2, f2⟩ := in_setF W1 (k := 1) (by decide) (by decide) 0
  obtain ⟨h3, e3, W3, f3⟩ := in_setF W2 (k := 5) (by decide) (by decide) 0
  obtain ⟨h4, I4, e4, W4, t4, i4, f4⟩ := c_next (i := 0) W3 b (by rw [zU, if_neg (by decide), zU, if_neg (by decide), zU, if_pos rfl]) (by rw [zU, if_pos rfl]; rfl) (Nat.zero_le _)
  refine ⟨h4, I4, ?_, W4, t4, by rw [i4, zU, if_neg (by decide), zU, if_pos rfl], zfr_tr (zfr_tr f1 f2) (zfr_tr f3 f4)⟩
  have hm : zmin (Int32.ofNat L) 900 = Int32.ofNat L := by
    unfold zmin
    have q : ¬ (900 : Int32) < Int32.ofNat L := by
      rw [show (900 : Int32) = Int32.ofNat 900 from rfl, pn_lt (by decide) (by omega)]
      omega
    rw [if_neg q]
  simp only [f_X3_beginText, in_is W, hm, e1, e2, e3, e4, Option.bind_some]
theorem ld_set {sg ee : Int32} (X : wLd hp c d sg ee) (v : Int32) : (∃ h, zpV hp (c + 1) 4 2 (.int v) = some h ∧ wLd h c d v ee ∧ ∀ a, a ≠ c + 1 → h a = hp a) ∧ ∃ h, zpV hp (c + 1) 4 3 (.int v) = some h ∧ wLd h c d sg v ∧ ∀ a, a ≠ c + 1 → h a = hp a :=
  ⟨⟨_, po_V X (show 2 < 4 by decide) _, by unfold wLd; exact zup_eq _ _ _, fun a ha => zup_ne ha⟩, ⟨_, po_V X (show 3 < 4 by decide) _, by unfold wLd; exact zup_eq _ _ _, fun a ha => zup_ne ha⟩⟩
theorem C_readText {sg ee : Int32} (X1 : wLd hp c d sg ee) (X2 : wIn hp (c + 2) I Bt) (b : inBy Bt β L) (X3 : wP hp d R) (X4 : wSts hp c ro) (hd : c + 4 ≤ d) : match pAll β L 1000 st0 with
    | .inl (e, j) => ∃ h, f_X4_readText ro (c + 1) (Int32.ofNat L) hp = some (e, h) ∧ e < 0 ∧ (∃ sg, wLd h c d sg (Int32.ofNat (tS β L j))) ∧ (∃ I Bt, wIn h (c + 2) I Bt ∧ I 1 = 0) ∧ (∃ R, wP h d R) ∧ lfr true c d hp h
    | .inr (q, st') => ∃ h, f_X4_readText ro (c + 1) (Int32.ofNat L) hp = some (Int32.ofNat q, h) ∧ LW h c d ro β L st' ∧ lfr true c d hp h := by
  have b1 := b.1
  obtain ⟨h1, R1, e1, P1, r1, r2, r3, f1⟩ := C_clear X3
  have L1 : wLd h1 c d sg ee := by unfold wLd; rw [f1 _ (by omega) (by omega)]; exact X1
  obtain ⟨⟨h2, e2, L2, f2⟩, -⟩ := ld_set L1 0
  obtain ⟨-, ⟨h3, e3, L3, f3⟩⟩ := ld_set L2 (-1)
  have I3 : wIn h3 (c + 2) I Bt := in_fr X2 (fun i i1 i2 => by rw [f3 i (by omega), f2 i (by omega), f1 i (by omega) (by omega)])
  obtain ⟨h4, I4, e4, W4, t4, i4, f4⟩ := C_beginText I3 b
  have L4 : wLd h4 c d 0 (-1) := by unfold wLd; rw [f4 _ (by omega)]; exact L3
  have P4 : wP h4 d R1 := wP_fr P1 (fun i i1 i2 => by rw [f4 i (by omega), f3 i (by omega), f2 i (by omega)])
  have ff : lfr true c d hp h4 := fun a ha => by
    have : a ≠ c + 1 ∧ a ≠ c + 2 ∧ a ≠ d + 1 ∧ a ≠ d + 27 := by rcases ha with q | ⟨q1, q2 | q2⟩; omega; cases q2; omega
    rw [f4 a (by omega), f3 a this.1, f2 a this.1, f1 a this.2.2.1 this.2.2.2]
  have W : LW h4 c d ro β L st0 := by
    refine ⟨⟨0, L4⟩, ⟨I4, Bt, W4, b, t4, i4⟩, Nat.zero_le _, ⟨R1, P4, ⟨fun s hs => r1 s hs, fun s k hs hk => absurd hk (Nat.not_lt_zero k), fun r hr => absurd hr (Nat.not_lt_zero r), fun r hr => absurd hr (Nat.not_lt_zero r), fun r hr => absurd hr (Nat.not_lt_zero r), fun r p hr => absurd hr (Nat.not_lt_zero r), fun r hr => absurd hr (Nat.not_lt_zero r)⟩, fun r hr => absurd hr (Nat.not_lt_zero r), fun k hk => ?_⟩, ⟨fun s hs => rfl, by decide, fun r hr => absurd hr (Nat.not_lt_zero r), fun r hr => absurd hr (Nat.not_lt_zero r), fun r hr => absurd hr (Nat.not_lt_zero r), fun r hr => absurd hr (Nat.not_lt_zero r), fun r p hr => absurd hr (Nat.not_lt_zero r)⟩, sts_fr X4 (fun a ha => ff a (by omega))⟩
    rcases (show k = 0 ∨ k = 1 by omega) with rfl | rfl
    · exact r2
    · exact r3
  have C := C_loop hd b1 (k60 := fun p14 h15 => (zgR h15 (c + 1) 4 0).bind fun r16 => (zgI h15 r16 3 4).bind fun v17 => (zpV h15 (c + 1) 4 3 (.int v17)).bind fun h18 => some (p14, h18)) (k79 := fun p19 h20 => some (p19, h20)) 1000 0 1000000 st0 h4 (Nat.zero_le _) (by show L - 0 < 1000; omega) (by decide) W
  have pre : f_X4_readText ro (c + 1) (Int32.ofNat L) hp = l_X4_readText_27 ro (fun p14 h15 => (zgR h15 (c + 1) 4 0).bind fun r16 => (zgI h15 r16 3 4).bind fun v17 => (zpV h15 (c + 1) 4 3 (.int v17)).bind fun h18 => some (p14, h18)) (fun p19 h20 => some (p19, h20)) (c + 1) (Int32.ofNat L) 1000000 (Int32.ofNat 0) h4 := by
    simp only [f_X4_readText, ld_is X1, ld_dr X1, e1, e2, e3, ld_in L3, e4, Option.bind_some]
    rfl
  rw [pre]
  rcases hr : pAll β L 1000 st0 with ⟨e, j⟩ | ⟨q, st'⟩
  · rw [hr] at C
    obtain ⟨h5, g1, g2, ⟨⟨sg', _, g3⟩, ⟨I5, B5, g4, g5, g6⟩, R5, g7⟩, f5⟩ := C
    obtain ⟨-, ⟨h6, e6, L6, f6⟩⟩ := ld_set g3 (Int32.ofNat (tS β L j))
    refine ⟨h6, ?_, g2, ⟨sg', L6⟩, ⟨I5, B5, in_fr g4 (fun i i1 i2 => f6 i (by omega)), g5⟩, ⟨R5, wP_fr g7 (fun i i1 i2 => f6 i (by omega))⟩, lfr_tr ff (lfr_tr f5 (fun a ha => f6 a (by rcases ha with q | ⟨q1, q2⟩; omega; omega)))⟩
    rw [g1]
    simp only [ld_in g3, show zgI h5 (c + 2) 3 4 = some (Int32.ofNat (tS β L j)) from (in_I g4 (by decide) (by decide)).trans (congrArg some g6), e6, Option.bind_some]
  · rw [hr] at C
    obtain ⟨h5, g1, g2, f5⟩ := C
    exact ⟨h5, by rw [g1, Nat.zero_add], g2, lfr_tr ff f5⟩
end P57

