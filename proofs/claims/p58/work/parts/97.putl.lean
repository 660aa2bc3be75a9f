/-! PURE: the law feeds its text, row by row -/
section P97
variable {hp0 hp h : zHp} {a b c r d k n s sz z nb B0 mc ms uc us M x0 p u i hl hi sb : Nat} {ro : Nat → Nat} {xs : Nat → Int32} {l : List Nat} {ea sg ee : Int32} {T N I Bt : Nat → Int32} {σ : Nat → Nat} {Ps : Nat → Nat → Int32}
theorem sS_in (S : sS hp r (r + 1) l) (W : wIn hp (c + 2) I Bt) : r ≠ c + 2 ∧ r ≠ c + 3 ∧ r + 1 ≠ c + 2 ∧ r + 1 ≠ c + 3 := by
  obtain ⟨⟨e1, f, e2, -⟩, -⟩ := S
  obtain ⟨w1, w2⟩ := W
  have q1 : r ≠ c + 2 := fun e => by
    rw [e, w1] at e1
    injection e1 with e1
    injection e1 with e1
    exact absurd (show 3 = 20 from congrArg Prod.fst e1) (by decide)
  refine ⟨q1, fun e => ?_, fun e => ?_, fun e => q1 (by omega)⟩
  · rw [e, show c + 3 = c + 2 + 1 from rfl, w2] at e1
    injection e1 with e1
    injection e1
  · rw [e, w1] at e2
    rcases e2 with e2 | e2
    · injection e2 with e2
      injection e2
    · injection e2 with e2
      injection e2
set_option maxHeartbeats 1000000 in
theorem T_feed (hc : hp c = some (.inr (7, [.ref (c + 1), .ref hl, .ref hi, .ref sb, .int ea]))) (L : wLd hp c d sg ee) (W : wIn hp (c + 2) I Bt) (hI : I 1 = 0) (S : sS hp r (r + 1) l) (hr : r + 2 ≤ z) (hcz : c + 4 ≤ z) (hn : l.length = 20 * nb) (hcost : uc + nb ≤ mc ∧ us + 5 * nb ≤ ms) (hM : nb < M) :
    ∃ t : zHp × Nat × Nat × Nat, ((∃ I Bt, wIn t.1 (c + 2) I Bt ∧ I 1 = Int32.ofNat (20 * nb) ∧ ∀ j, j < 20 * nb → Bt j = sxn (l.getD j 0)) ∧ z ≤ t.2.1 ∧ (∀ a, a < z → a ≠ c + 2 → a ≠ c + 3 → t.1 a = hp a) ∧ t.2.2.1 ≤ uc + nb ∧ t.2.2.2 ≤ us + 5 * nb) ∧ ∀ K : zHp → Nat → Nat → Nat → Option (zHp × Nat), l_L_put_37 ro mc ms K c r M 0 hp z uc us = K t.1 t.2.1 t.2.2.1 t.2.2.2 := by
  obtain ⟨n1, n2, n3, n4⟩ := sS_in S W
  have h500 := S.2.2
  refine zXK (L := fun (K : zHp → Nat → Nat → Nat → Option (zHp × Nat)) m i (t : zHp × Nat × Nat × Nat) => l_L_put_37 ro mc ms K c r m (Int32.ofNat (20 * i)) t.1 t.2.1 t.2.2.1 t.2.2.2) nb (fun i (t : zHp × Nat × Nat × Nat) => (∃ I Bt, wIn t.1 (c + 2) I Bt ∧ I 1 = Int32.ofNat (20 * i) ∧ ∀ j, j < 20 * i → Bt j = sxn (l.getD j 0)) ∧ z ≤ t.2.1 ∧ (∀ a, a < z → a ≠ c + 2 → a ≠ c + 3 → t.1 a = hp a) ∧ t.2.2.1 ≤ uc + i ∧ t.2.2.2 ≤ us + 5 * i) (s0 := (hp, z, uc, us)) ⟨⟨I, Bt, W, hI, fun j hj => absurd hj (by omega)⟩, Nat.le_refl _, fun _ _ _ _ => rfl, by show uc ≤ uc + 0; omega, by show us ≤ us + 5 * 0; omega⟩ (fun i t hi J => ?_) (K := fun K t => K t.1 t.2.1 t.2.2.1 t.2.2.2) (fun t J K m => ?_) hM
  · obtain ⟨h, z1, uc1, us1⟩ := t
    obtain ⟨⟨I1, B1, W1, i1, b1⟩, j1, j2, j3, j4⟩ := J
    dsimp only at W1 j1 j2 j3 j4
    have e5 : (5 : Int32).toNatClampNeg = 5 := by decide
    have S1 : sS h r (r + 1) l := sS_fr S (j2 r (by omega) n1 n2) (j2 (r + 1) (by omega) n3 n4)
    have S2 : sS (zup h z1 (.inl (0, 5, .inl (fun _ => 0)))) r (r + 1) l := sS_fr S1 (zup_ne (by omega)) (zup_ne (by omega))
    obtain ⟨h2, ⟨fr, f, hf, hv⟩, eT⟩ := T_row (uc := uc1 + 1) (us := us1 + 5) (x0 := c) (sz := z1 + 1) (k := 20 * i) (mc := mc) (ms := ms) (ro := ro) S2 (show r + 2 ≤ z1 by omega) (by omega) (by omega) (zup_eq _ _ _) (show 20 < 1000000 by decide)
    have fr2 : ∀ a, a ≠ z1 → h2 a = h a := fun a ha => (fr a ha).trans (zup_ne ha)
    have W2 : wIn h2 (c + 2) I1 B1 := ⟨by rw [fr2 _ (by omega)]; exact W1.1, by rw [fr2 _ (by omega)]; exact W1.2⟩
    have hc2 : h2 c = _ := (fr2 c (by omega)).trans ((j2 c (by omega) (by omega) (by omega)).trans hc)
    have L2 : wLd h2 c d sg ee := (fr2 (c + 1) (by omega)).trans ((j2 (c + 1) (by omega) (by omega) (by omega)).trans L)
    obtain ⟨h3, I3, B3, e3, W3, i3, g3, f3⟩ := C_feed (ld := 0) hc2 L2 W2 i1 (by omega) (pk4 (l4 l (20 * i) 0)) (pk4 (l4 l (20 * i) 1)) (pk4 (l4 l (20 * i) 2)) (pk4 (l4 l (20 * i) 3)) (pk4 (l4 l (20 * i) 4))
    refine ⟨(h3, z1 + 1, uc1 + 1, us1 + 5), ⟨⟨I3, B3, W3, by rw [i3]; exact congrArg _ (by omega), fun j hj => ?_⟩, by show z ≤ z1 + 1; omega, fun a h1 h2 h3 => ?_, by show uc1 + 1 ≤ uc + (i + 1); omega, by show us1 + 5 ≤ us + 5 * (i + 1); omega⟩, fun K m => ?_⟩
    · rw [g3]
      by_cases q : 20 * i ≤ j
      · have h128 : ∀ j, l.getD j 0 < 128 := fun j => by
          by_cases q : j < l.length
          · exact S.2.1 j q
          · rw [List.getD_eq_getElem?_getD, List.getElem?_eq_none (by omega)]
            decide
        rw [if_pos ⟨q, by omega⟩, gv_pk l (20 * i) (by omega) h128, show 20 * i + (j - 20 * i) = j by omega]
      · rw [if_neg (fun e => q e.1), b1 j (by omega)]
    · show _ = hp a
      exact (f3 a (by omega)).trans ((fr2 a (by omega)).trans (j2 a h1 h2 h3))
    · show l_L_put_37 ro mc ms K c r (m + 1) (Int32.ofNat (20 * i)) h z1 uc1 us1 = l_L_put_37 ro mc ms K c r m (Int32.ofNat (20 * (i + 1))) h3 (z1 + 1) (uc1 + 1) (us1 + 5)
      have rd : ∀ j, j < 5 → zaI h2 0 z1 (Int32.ofNat j) = some (pk4 (l4 l (20 * i) j)) := fun j hj => (pa_rd hf (Or.inl rfl) hj (by decide)).trans (congrArg some (hv j hj))
      have lt : Int32.ofNat (20 * i) < Int32.ofNat l.length := by
        rw [pn_lt (by omega) (by omega)]
        omega
      rw [l_L_put_37_s]
      unfold b_L_put_37
      rw [zchk_t ⟨by omega, by omega⟩, tx_len (sS_tx S1) (sS_128 S1), Option.bind_some, if_pos lt, e5, zchk_t ⟨by decide, by decide, by omega, by omega⟩, zlet_eq, eT, show zaI h2 0 z1 (0 : Int32) = _ from rd 0 (by decide), Option.bind_some, show zaI h2 0 z1 (1 : Int32) = _ from rd 1 (by decide), Option.bind_some, show zaI h2 0 z1 (2 : Int32) = _ from rd 2 (by decide), Option.bind_some, show zaI h2 0 z1 (3 : Int32) = _ from rd 3 (by decide), Option.bind_some, show zaI h2 0 z1 (4 : Int32) = _ from rd 4 (by decide), Option.bind_some, zchk_t ⟨by omega, by omega⟩, e3, zb2_some, zlet_eq, show Int32.ofNat (20 * i) + 20 = Int32.ofNat (20 * i + 20) from ixa _ 20, show 20 * i + 20 = 20 * (i + 1) by omega]
  · obtain ⟨h, z1, uc1, us1⟩ := t
    obtain ⟨⟨I1, B1, W1, i1, b1⟩, j1, j2, j3, j4⟩ := J
    dsimp only at W1 j1 j2 j3 j4
    have S1 : sS h r (r + 1) l := sS_fr S (j2 r (by omega) n1 n2) (j2 (r + 1) (by omega) n3 n4)
    show l_L_put_37 ro mc ms K c r (m + 1) (Int32.ofNat (20 * nb)) h z1 uc1 us1 = K h z1 uc1 us1
    have lt : ¬ Int32.ofNat (20 * nb) < Int32.ofNat l.length := by
      rw [pn_lt (by omega) (by omega)]
      omega
    rw [l_L_put_37_s]
    unfold b_L_put_37
    rw [zchk_t ⟨by omega, by omega⟩, tx_len (sS_tx S1) (sS_128 S1), Option.bind_some, if_neg lt]
set_option maxHeartbeats 1000000 in
/-- the whole text is fed -/
theorem L_put {c0 : Nat} (TW0 : TW c0 ro s n xs hp0) (hB : c0 ≤ B0) (hcc : c + 4 ≤ B0) (F0 : ∀ i, i < B0 → h i = hp0 i) (hc : h c = some (.inr (7, [.ref (c + 1), .ref hl, .ref hi, .ref sb, .int ea]))) (L : wLd h c d sg ee) (W : wIn h (c + 2) I Bt) (hI : I 1 = 0) (S : sS h r (r + 1) l) (hr : r + 2 ≤ z) (hBz : B0 ≤ z) :
    ∃ h' z' fl I Bt, f_L_put ro 200 80000 c r h z = some (h', z') ∧ B0 ≤ z' ∧ l.length ≤ fl ∧ fl ≤ 500 ∧ wIn h' (c + 2) I Bt ∧ I 1 = Int32.ofNat fl ∧ (∀ j, j < l.length → Bt j = sxn (l.getD j 0)) ∧ ∀ a, a < B0 → a ≠ c + 2 → a ≠ c + 3 → h' a = hp0 a := by
  have h500 := S.2.2
  obtain ⟨d, hd, hd0, hd1, hd2⟩ : ∃ d, d < 20 ∧ (l.length + d) % 20 = 0 ∧ (∀ i, i < d → ¬ (l.length + i) % 20 = 0) ∧ l.length + d ≤ 500 := ⟨(20 - l.length % 20) % 20, by omega, by omega, fun i hi => by omega, by omega⟩
  obtain ⟨⟨r1, h1, z1, uc1, us1⟩, ⟨S1, q1, q2, F1, j2, j3⟩, e1⟩ := T_pad (d := d) (x0 := c) (mc := 200) (ms := 80000) (uc := 0) (us := 0) TW0 hB S hr hBz F0 hd0 hd1 hd2 (by omega) (show d < 1000000 by omega)
  dsimp only at S1 q1 q2 F1 j2 j3 e1
  have ln : (l ++ List.replicate d 32).length = 20 * ((l.length + d) / 20) := by
    rw [List.length_append, List.length_replicate]
    omega
  have fr : ∀ a, a < B0 → h1 a = h a := fun a ha => (F1 a ha).trans (F0 a ha).symm
  obtain ⟨⟨h2, z2, uc2, us2⟩, ⟨⟨I2, B2, W2, i2, b2⟩, k1, k2, k3, k4⟩, e2⟩ := T_feed (ro := ro) (mc := 200) (ms := 80000) (uc := uc1) (us := us1) ((fr c (by omega)).trans hc) (show wLd h1 c _ _ _ from (fr (c + 1) (by omega)).trans L) (show wIn h1 (c + 2) _ _ from ⟨(fr (c + 2) (by omega)).trans W.1, (fr (c + 2 + 1) (by omega)).trans W.2⟩) hI S1 q1 (by omega) ln (by omega) (show _ < 1000000 by omega)
  dsimp only at W2 k1 k2 k3 k4 e2
  refine ⟨h2, z2, _, I2, B2, ?_, ?_, ?_, ?_, W2, i2, fun j hj => ?_, fun a h1 h2 h3 => ?_⟩
  · unfold f_L_put
    rw [e1, e2, zchk_t ⟨by omega, by omega⟩]
  · exact Nat.le_trans q2 k1
  · omega
  · omega
  · rw [b2 j (by omega), getD_app2, if_pos hj]
  · exact (k2 a (by omega) h2 h3).trans (F1 a h1)
end P97
