/-! PURE: the reference's load, whole -/
section P66
variable {hb h hp hp' : zHp} {x c L i j k s fl : Nat} {ro : Nat → Nat} {β : Nat → Nat} {S0 S : Nat → Nat → Int32} {F0 F T N : Nat → Int32} {st st' : PSt} {r : PR} {n v y z e : Int32}
theorem cpR_back {m : Nat} {A B C : Nat → Int32} (hA : ∀ k, k < m → A k = C k) (hB : ∀ k, m ≤ k → B k = 0) (hC : ∀ k, m ≤ k → C k = 0) : cpR m A B = C := by
  funext k
  unfold cpR
  by_cases q : k < m
  · rw [if_pos q]; exact hA k q
  · rw [if_neg q, hB k (by omega), hC k (by omega)]
theorem R_load (W : wMF hp x F S) (zs : zz S) (h2 : F 2 = Int32.ofNat fl) (hfl : fl ≤ 900) (hL : L ≤ fl) (b : rBy S β L) (Y : wSts hp c ro) (hc : c ≤ x) : match pAll β L 1000 st0 with
    | .inl (e, j) => ∃ h F' S', f_X8_load ro x (Int32.ofNat L) hp = some (e, h) ∧ wMF h x F' S' ∧ (F' 0 = 0 ∧ F' 2 = 0 ∧ F' 16 = Int32.ofNat (tS β L j) ∧ F' 8 = F 8 ∧ F' 20 = F 20) ∧ (S' 2 = S 2 ∧ S' 4 = S 4 ∧ S' 6 = S 6 ∧ S' 7 = S 7) ∧ zz S' ∧ zfr hp h x 8
    | .inr (q, st') => ∃ h F' S', f_X8_load ro x (Int32.ofNat L) hp = some (Int32.ofNat q, h) ∧ wMF h x F' S' ∧ (F' 0 = 0 ∧ F' 2 = 0 ∧ F' 16 = -1 ∧ F' 8 = 0 ∧ F' 20 = F 20) ∧ (S' 2 = st'.1 ∧ S' 4 = st'.2.1 ∧ S' 6 = S 6 ∧ S' 7 = S 7) ∧ zz S' ∧ zfr hp h x 8 := by
  obtain ⟨h1, S1, F1, e1, X1, fk, f0, sa, s3, s5⟩ := R_pre W zs h2 hfl hL b
  have b1 : rBy S1 β L := ⟨b.1, fun j hj => by rw [sa 1 (by decide) (by decide) (by decide) (by decide)]; exact b.2 j hj⟩
  have bL := b.1
  generalize hK : (fun h19 : zHp => (zpV h19 x 8 2 (.int (0 : Int32))).bind fun h20 => (zgI h20 x 8 14).bind fun v21 => if v21 = 0 then (j_X8_load_118 ro x x (-1 : Int32) h20) else (zgI h20 x 8 15).bind fun v22 => j_X8_load_118 ro x x v22 h20) = K
  have pre : f_X8_load ro x (Int32.ofNat L) hp = l_X8_load_75 ro K x 1000000 h1 := by
    rw [← e1 (fun h15 => l_X8_load_75 ro K x 1000000 h15), ← hK]
    unfold f_X8_load
    rw [wm_is (wMF_M W), Option.bind_some]
  have I := R_loop b1 Y hc (K := K) 1000 1000000 0 0 st0 h1 (by show L - 0 < 1000; omega) (by decide) X1
  rw [pre]
  rcases hr : pAll β L 1000 st0 with ⟨e, j⟩ | ⟨q, st'⟩
  · rw [hr] at I
    obtain ⟨h3, g3, X3⟩ := I
    obtain ⟨F3, S3, i3, ⟨W3, ⟨so3, z3⟩, t3, l3, k3, f3⟩, c1, c2, c3⟩ := X3
    obtain ⟨h4, g4, W4, f4⟩ := wMF_fld W3 (k := 2) (by omega) 0
    obtain ⟨h5, g5, W5, f5⟩ := wMF_fld W4 (k := 16) (by omega) (Int32.ofNat (tS β L j))
    obtain ⟨h6, g6, W6, f6⟩ := M_copies W5 (a := 3) (d := 2) (by decide) (by decide) (by decide) (by decide) (by decide) (by decide)
    obtain ⟨h7, g7, W7, f7⟩ := M_copies W6 (a := 5) (d := 4) (by decide) (by decide) (by decide) (by decide) (by decide) (by decide)
    have m4 : ∀ {h : zHp} {F : Nat → Int32} {S : Nat → Nat → Int32}, wMF h x F S → zgR h x 8 4 = some (x + 3) := fun {h F S} W => po_R W.1 rfl
    have m6 : ∀ {h : zHp} {F : Nat → Int32} {S : Nat → Nat → Int32}, wMF h x F S → zgR h x 8 6 = some (x + 5) := fun {h F S} W => po_R W.1 rfl
    have ne : ¬ e = 0 := fun q => by rw [q] at c2; exact absurd c2 (by decide)
    have a14 : zgI h4 x 8 14 = some e := (q_F W4 (by omega)).trans (congrArg some ((upd_ne _ _ (by decide)).trans c1))
    have a15 : zgI h4 x 8 15 = some (Int32.ofNat (tS β L j)) := (q_F W4 (by omega)).trans (congrArg some ((upd_ne _ _ (by decide)).trans c3))
    have b14 : zgI h5 x 8 14 = some e := (q_F W5 (by omega)).trans (congrArg some ((upd_ne _ _ (by decide)).trans ((upd_ne _ _ (by decide)).trans c1)))
    have d14 : zgI h7 x 8 14 = some e := (q_F W7 (by omega)).trans (congrArg some ((upd_ne _ _ (by decide)).trans ((upd_ne _ _ (by decide)).trans c1)))
    have y2 : cpR (zLen 3) (S3 3) (S3 2) = S 2 := cpR_back (fun k hk => by rw [so3 3 (by decide) (by decide)]; exact s3 k hk) z3.1 zs.1
    have y4 : cpR (zLen 5) (g1 S3 2 (cpR (zLen 3) (S3 3) (S3 2)) 5) (g1 S3 2 (cpR (zLen 3) (S3 3) (S3 2)) 4) = S 4 := by
      rw [g1_ne _ _ (by decide), g1_ne _ _ (by decide)]
      exact cpR_back (fun k hk => by rw [so3 5 (by decide) (by decide)]; exact s5 k hk) z3.2 zs.2
    rw [y4, y2] at W7
    refine ⟨h7, _, _, ?_, W7, ⟨?_, ?_, upd_self _ _ _, ?_, ?_⟩, ⟨?_, g1_self _ _ _, ?_, ?_⟩, ⟨?_, ?_⟩, zfr_tr f3 (zfr_tr f4 (zfr_tr f5 (zfr_tr f6 f7)))⟩
    · rw [g3, ← hK]
      simp only [g4, a14, ne, if_false, a15, j_X8_load_118, g5, b14, m4 W5, wm_T (wMF_M W5), g6, m6 W6, wm_N (wMF_M W6), g7, d14, Option.bind_some]
    · rw [upd_ne _ _ (by decide), upd_ne _ _ (by decide), k3 0 (by decide), f0]
    · rw [upd_ne _ _ (by decide), upd_self]
    · rw [upd_ne _ _ (by decide), upd_ne _ _ (by decide), k3 8 (by decide), fk 8 (by decide) (by decide)]
    · rw [upd_ne _ _ (by decide), upd_ne _ _ (by decide), k3 20 (by decide), fk 20 (by decide) (by decide)]
    · rw [g1_ne _ _ (by decide), g1_self]
    · rw [g1_ne _ _ (by decide), g1_ne _ _ (by decide), so3 6 (by decide) (by decide), sa 6 (by decide) (by decide) (by decide) (by decide)]
    · rw [g1_ne _ _ (by decide), g1_ne _ _ (by decide), so3 7 (by decide) (by decide), sa 7 (by decide) (by decide) (by decide) (by decide)]
    · rw [g1_ne _ _ (by decide), g1_self]; exact zs.1
    · rw [g1_self]; exact zs.2
  · rw [hr] at I
    obtain ⟨h3, g3, X3⟩ := I
    obtain ⟨F3, S3, ⟨W3, ⟨so3, z3⟩, t3, l3, k3, f3⟩, c1, c2, c3, c4, c5, c6⟩ := X3
    obtain ⟨h4, g4, W4, f4⟩ := wMF_fld W3 (k := 2) (by omega) 0
    obtain ⟨h5, g5, W5, f5⟩ := wMF_fld W4 (k := 16) (by omega) (-1)
    obtain ⟨h6, g6, W6, f6⟩ := wMF_fld W5 (k := 8) (by omega) 0
    have a14 : zgI h4 x 8 14 = some 0 := (q_F W4 (by omega)).trans (congrArg some ((upd_ne _ _ (by decide)).trans c4))
    have b14 : zgI h5 x 8 14 = some 0 := (q_F W5 (by omega)).trans (congrArg some ((upd_ne _ _ (by decide)).trans ((upd_ne _ _ (by decide)).trans c4)))
    have d17 : zgI h6 x 8 17 = some (Int32.ofNat q) := (q_F W6 (by omega)).trans (congrArg some ((upd_ne _ _ (by decide)).trans ((upd_ne _ _ (by decide)).trans ((upd_ne _ _ (by decide)).trans (c5.trans (by rw [Nat.zero_add]))))))
    refine ⟨h6, _, S3, ?_, W6, ⟨?_, ?_, ?_, upd_self _ _ _, ?_⟩, ⟨c1, c2, ?_, ?_⟩, z3, zfr_tr f3 (zfr_tr f4 (zfr_tr f5 f6))⟩
    · rw [g3, ← hK]
      simp only [g4, a14, if_true, j_X8_load_118, g5, b14, g6, d17, Option.bind_some]
    · rw [upd_ne _ _ (by decide), upd_ne _ _ (by decide), upd_ne _ _ (by decide), k3 0 (by decide), f0]
    · rw [upd_ne _ _ (by decide), upd_ne _ _ (by decide), upd_self]
    · rw [upd_ne _ _ (by decide), upd_self]
    · rw [upd_ne _ _ (by decide), upd_ne _ _ (by decide), upd_ne _ _ (by decide), k3 20 (by decide), fk 20 (by decide) (by decide)]
    · rw [so3 6 (by decide) (by decide), sa 6 (by decide) (by decide) (by decide) (by decide)]
    · rw [so3 7 (by decide) (by decide), sa 7 (by decide) (by decide) (by decide) (by decide)]
end P66
