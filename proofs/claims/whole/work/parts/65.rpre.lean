/-! PURE: the reference's load -/
section P65
variable {hb h hp hp' : zHp} {x c L i j k s fl : Nat} {ro : Nat → Nat} {β : Nat → Nat} {S0 S : Nat → Nat → Int32} {F0 F T N : Nat → Int32} {st st' : PSt} {r : PR} {n v y z e : Int32}
def cpR (n : Nat) (A B : Nat → Int32) : Nat → Int32 := fun k => if k < n then A k else B k
theorem w_len (W : wMF hp x F S) {j : Nat} (h1 : 1 ≤ j) (h2 : j ≤ 7) : zlen hp 0 (x + j) = some (Int32.ofNat (zLen j)) := by
  unfold zlen
  rw [W.2 j h1 h2]
  rfl
theorem wMF_g {j : Nat} {A B : Nat → Int32} (W : wMF hp x F (g1 S j A)) (e : A = B) : wMF hp x F (g1 S j B) := e ▸ W
theorem M_copies (W : wMF hp x F S) {a d : Nat} (h1 : 1 ≤ a) (h2 : a ≤ 7) (h3 : 1 ≤ d) (h4 : d ≤ 7) (had : a ≠ d) (hl : zLen a ≤ zLen d) : ∃ h, f_X8_copies (x + a) (x + d) hp = some h ∧ wMF h x F (g1 S d (cpR (zLen a) (S a) (S d))) ∧ zfr hp h x 8 := by
  have hz : ∀ j, zLen j < 1000000 := fun j => by unfold zLen; (repeat' split) <;> decide
  have h9 := hz a
  obtain ⟨h, ⟨W1, f1⟩, e1⟩ := zFH (l := l_X8_copies_2 (fun h5 => some h5) (x + a) (x + d)) (hp := hp) (n := zLen a) (m := 1000000) (k := fun h5 => some h5) (fun i h => wMF h x F (g1 S d (cpR i (S a) (S d))) ∧ zfr hp h x 8) h9 ⟨wMF_g (B := cpR 0 (S a) (S d)) (by rw [g1_id]; exact W : wMF hp x F (g1 S d (S d))) (by funext k; unfold cpR; rw [if_neg (Nat.not_lt_zero k)]), zfr_rf⟩ (fun i h hi ⟨W1, f1⟩ => by
      obtain ⟨h', e', W2, f2⟩ := wMF_arr W1 (j := d) (k := i) h3 h4 (by omega) (S a i)
      refine ⟨h', ⟨?_, zfr_tr f1 f2⟩, fun m => ?_⟩
      · have : w2 (g1 S d (cpR i (S a) (S d))) d i (S a i) = g1 S d (cpR (i + 1) (S a) (S d)) := by
          funext l
          by_cases e : l = d
          · subst e
            rw [w2_self, g1_self, g1_self]
            funext q
            unfold cpR
            rw [zU]
            by_cases e2 : q = i
            · rw [if_pos e2, if_pos (by omega), e2]
            · rw [if_neg e2]
              by_cases e3 : q < i
              · rw [if_pos e3, if_pos (by omega)]
              · rw [if_neg e3, if_neg (by omega)]
          · rw [w2_ne _ _ e, g1_ne _ _ e, g1_ne _ _ e]
        rw [this] at W2
        exact W2
      · have rd : zaI h 0 (x + a) (Int32.ofNat i) = some (S a i) := by
          rw [wMF_rd W1 h1 h2 hi, g1_ne _ _ had]
        simp (disch := omega) only [l_X8_copies_2_s, b_X8_copies_2, w_len W1 h1 h2, pn_lt, hi, if_true, rd, e', zlet, pn_succ, Option.bind_some]) (fun h ⟨W1, f1⟩ m => by
      simp only [l_X8_copies_2_s, b_X8_copies_2, w_len W1 h1 h2, Int32.lt_irrefl, if_false, Option.bind_some])
  exact ⟨h, e1, W1, f1⟩
theorem cpR_all {n : Nat} {A B : Nat → Int32} (hA : ∀ k, n ≤ k → A k = 0) (hB : ∀ k, n ≤ k → B k = 0) : cpR n A B = A := by
  funext k
  unfold cpR
  by_cases q : k < n
  · rw [if_pos q]
  · rw [if_neg q, hA k (by omega), hB k (by omega)]
theorem M_zero (W : wMF hp x F S) {d : Nat} (h3 : 1 ≤ d) (h4 : d ≤ 7) {l : Nat → Int32 → zHp → Option zHp} {K : zHp → Option zHp} (hlt : zLen d < 1000000)
    (hs : ∀ m i h h', i < zLen d → wMF h x F (g1 S d (cpR i (fun _ => 0) (S d))) → zsI h (x + d) (Int32.ofNat i) 0 = some h' → l (m + 1) (Int32.ofNat i) h = l m (Int32.ofNat (i + 1)) h') (he : ∀ m h, l (m + 1) (Int32.ofNat (zLen d)) h = K h) : ∃ h, (wMF h x F (g1 S d (cpR (zLen d) (fun _ => 0) (S d))) ∧ zfr hp h x 8) ∧ l 1000000 0 hp = K h := by
  refine zFH (l := l) (hp := hp) (n := zLen d) (m := 1000000) (k := K) (fun i h => wMF h x F (g1 S d (cpR i (fun _ => 0) (S d))) ∧ zfr hp h x 8) hlt ⟨wMF_g (B := cpR 0 (fun _ => 0) (S d)) (by rw [g1_id]; exact W : wMF hp x F (g1 S d (S d))) (by funext k; unfold cpR; rw [if_neg (Nat.not_lt_zero k)]), zfr_rf⟩ (fun i h hi ⟨W1, f1⟩ => ?_) (fun h _ m => he m h)
  obtain ⟨h', e', W2, f2⟩ := wMF_arr W1 (j := d) (k := i) h3 h4 hi 0
  refine ⟨h', ⟨?_, zfr_tr f1 f2⟩, fun m => hs m i h h' hi W1 e'⟩
  have : w2 (g1 S d (cpR i (fun _ => 0) (S d))) d i 0 = g1 S d (cpR (i + 1) (fun _ => 0) (S d)) := by
    funext l
    by_cases e : l = d
    · subst e
      rw [w2_self, g1_self, g1_self]
      funext q
      unfold cpR
      rw [zU]
      by_cases e2 : q = i
      · rw [if_pos e2, if_pos (by omega)]
      · rw [if_neg e2]
        by_cases e3 : q < i
        · rw [if_pos e3, if_pos (by omega)]
        · rw [if_neg e3, if_neg (by omega)]
    · rw [w2_ne _ _ e, g1_ne _ _ e, g1_ne _ _ e]
  rw [this] at W2
  exact W2
theorem M_newHall (W : wMF hp x F S) (zs : zz S) : ∃ h, f_X8_newHall x hp = some h ∧ wMF h x F (g1 (g1 S 2 (fun _ => 0)) 4 N0) ∧ zfr hp h x 8 := by
  simp only [f_X8_newHall, wm_is (wMF_M W), Option.bind_some]
  generalize hK : (fun h8 : zHp => (zgR h8 x 8 5).bind fun r9 => (zsI h8 r9 (0 : Int32) (5 : Int32)).bind fun h10 => (zgR h10 x 8 5).bind fun r11 => (zsI h10 r11 (2 : Int32) (5000 : Int32)).bind fun h12 => some h12) = K
  have e0 : cpR 144 (fun _ => 0) (S 2) = fun _ => 0 := cpR_all (fun _ _ => rfl) zs.1
  obtain ⟨h1, ⟨W1, f1⟩, g1'⟩ := M_zero W (d := 2) (by decide) (by decide) (l := l_X8_newHall_2 (fun h4 => l_X8_newHall_24 K x 1000000 (0 : Int32) h4) x) (K := fun h4 => l_X8_newHall_24 K x 1000000 (0 : Int32) h4) (by decide) (fun m i h h' hi Wi e => by
      have hi' : i < 144 := hi
      have l144 : Int32.ofNat i < 144 := by rw [show (144 : Int32) = Int32.ofNat 144 from rfl, pn_lt (by omega) (by decide)]; exact hi'
      simp only [l_X8_newHall_2_s, b_X8_newHall_2, l144, if_true, wm_T (wMF_M Wi), e, zlet, pn_succ, Option.bind_some]) (fun m h => by
      rw [l_X8_newHall_2_s]
      unfold b_X8_newHall_2
      rw [if_neg (by decide)])
  have W1' : wMF h1 x F (g1 S 2 (fun _ => 0)) := wMF_g W1 e0
  have e1 : cpR 538 (fun _ => 0) (g1 S 2 (fun _ => 0) 4) = fun _ => 0 := cpR_all (fun _ _ => rfl) (fun k hk => by rw [g1_ne _ _ (by decide)]; exact zs.2 k hk)
  obtain ⟨h2, ⟨W2, f2⟩, g2⟩ := M_zero W1' (d := 4) (by decide) (by decide) (l := l_X8_newHall_24 K x) (K := K) (by decide) (fun m i h h' hi Wi e => by
      have hi' : i < 538 := hi
      have l538 : Int32.ofNat i < 538 := by rw [show (538 : Int32) = Int32.ofNat 538 from rfl, pn_lt (by omega) (by decide)]; exact hi'
      simp only [l_X8_newHall_24_s, b_X8_newHall_24, l538, if_true, wm_N (wMF_M Wi), e, zlet, pn_succ, Option.bind_some]) (fun m h => by
      rw [l_X8_newHall_24_s]
      unfold b_X8_newHall_24
      rw [if_neg (by decide)])
  have W2' : wMF h2 x F (g1 (g1 S 2 (fun _ => 0)) 4 (fun _ => 0)) := wMF_g W2 e1
  obtain ⟨h3, e3, W3, f3⟩ := wMF_arr W2' (j := 4) (k := 0) (by decide) (by decide) (by decide) 5
  obtain ⟨h4, e4, W4, f4⟩ := wMF_arr W3 (j := 4) (k := 2) (by decide) (by decide) (by decide) 5000
  refine ⟨h4, ?_, ?_, zfr_tr f1 (zfr_tr f2 (zfr_tr f3 f4))⟩
  · rw [g1', g2, ← hK]
    simp only [wm_N (wMF_M W2'), show zsI h2 (x + 4) 0 5 = some h3 from e3, wm_N (wMF_M W3), show zsI h3 (x + 4) 2 5000 = some h4 from e4, Option.bind_some]
  · have : w2 (w2 (g1 (g1 S 2 (fun _ => 0)) 4 (fun _ => 0)) 4 0 5) 4 2 5000 = g1 (g1 S 2 (fun _ => 0)) 4 N0 := by
      funext l
      by_cases e : l = 4
      · subst e
        rw [w2_self, w2_self, g1_self, g1_self]
        funext q
        rw [zU, zU]
        unfold N0
        by_cases q2 : q = 2
        · rw [if_pos q2, if_neg (by omega), if_pos q2]
        · rw [if_neg q2]
          by_cases q0 : q = 0
          · rw [if_pos q0, if_pos q0]
          · rw [if_neg q0, if_neg q0, if_neg q2]
      · rw [w2_ne _ _ e, w2_ne _ _ e, g1_ne _ _ e, g1_ne _ _ e]
    rw [this] at W4
    exact W4
theorem R_loadBad (W : wMF hp x F S) (h2 : F 2 = Int32.ofNat fl) (y : Int32) (hy : y < 0 ∨ Int32.ofNat fl < y) : ∃ h, f_X8_load ro x y hp = some (-2, h) ∧ wMF h x (upd F 0 0) S ∧ zfr hp h x 8 := by
  obtain ⟨h1, e1, W1, f1⟩ := wMF_fld W (k := 0) (Or.inl rfl) 0
  refine ⟨h1, ?_, W1, f1⟩
  simp only [f_X8_load, wm_is (wMF_M W), e1, Option.bind_some]
  by_cases q : y < 0
  · rw [if_pos q]
  · rw [if_neg q, (q_F W1 (k := 2) (by omega)).trans (congrArg some ((upd_ne F 0 (show 2 ≠ 0 by decide)).trans h2)), Option.bind_some, if_pos (hy.resolve_left q)]
/-- before the loop -/
theorem R_pre (W : wMF hp x F S) (zs : zz S) (h2 : F 2 = Int32.ofNat fl) (hfl : fl ≤ 900) (hL : L ≤ fl) (b : rBy S β L) : ∃ h S1 F1, (∀ K : zHp → Option (Int32 × zHp), ((zpV hp x 8 0 (.int (0 : Int32))).bind fun h1 => if Int32.ofNat L < 0 then (some ((-2 : Int32), h1)) else (zgI h1 x 8 2).bind fun v2 => if v2 < Int32.ofNat L then (some ((-2 : Int32), h1)) else (zgR h1 x 8 3).bind fun r3 => (zgR h1 x 8 4).bind fun r4 => (f_X8_copies r3 r4 h1).bind fun h5 => (zgR h5 x 8 5).bind fun r6 => (zgR h5 x 8 6).bind fun r7 => (f_X8_copies r6 r7 h5).bind fun h8 => (f_X8_newHall x h8).bind fun h9 => (zpV h9 x 8 9 (.int (Int32.ofNat L))).bind fun h10 => (zpV h10 x 8 10 (.int (0 : Int32))).bind fun h11 => (zpV h11 x 8 14 (.int (0 : Int32))).bind fun h12 => (zpV h12 x 8 17 (.int (0 : Int32))).bind fun h13 => (zpV h13 x 8 18 (.int (0 : Int32))).bind fun h14 => (f_X8_next x h14).bind fun h15 => K h15) = K h) ∧
    RX hp x β L S1 F1 0 h (.inr (0, st0)) ∧ (∀ k, k ≠ 0 → k < 9 ∨ k = 16 ∨ 18 < k → F1 k = F k) ∧ F1 0 = 0 ∧ (∀ j, j ≠ 2 → j ≠ 3 → j ≠ 4 → j ≠ 5 → S1 j = S j) ∧ (∀ k, k < 144 → S1 3 k = S 2 k) ∧ ∀ k, k < 538 → S1 5 k = S 4 k := by
  obtain ⟨h1, e1, W1, f1⟩ := wMF_fld W (k := 0) (Or.inl rfl) 0
  obtain ⟨h3, e3, W3, f3⟩ := M_copies W1 (a := 2) (d := 3) (by decide) (by decide) (by decide) (by decide) (by decide) (by decide)
  obtain ⟨h4, e4, W4, f4⟩ := M_copies W3 (a := 4) (d := 5) (by decide) (by decide) (by decide) (by decide) (by decide) (by decide)
  obtain ⟨h5, e5, W5, f5⟩ := M_newHall W4 ⟨fun k hk => by rw [g1_ne _ _ (by decide), g1_ne _ _ (by decide)]; exact zs.1 k hk, fun k hk => by rw [g1_ne _ _ (by decide), g1_ne _ _ (by decide)]; exact zs.2 k hk⟩
  obtain ⟨h6, e6, W6, f6⟩ := wMF_fld W5 (k := 9) (by omega) (Int32.ofNat L)
  obtain ⟨h7, e7, W7, f7⟩ := wMF_fld W6 (k := 10) (by omega) 0
  obtain ⟨h8, e8, W8, f8⟩ := wMF_fld W7 (k := 14) (by omega) 0
  obtain ⟨h9, e9, W9, f9⟩ := wMF_fld W8 (k := 17) (by omega) 0
  obtain ⟨h10, e10, W10, f10⟩ := wMF_fld W9 (k := 18) (by omega) 0
  have fa : zfr hp h10 x 8 := zfr_tr f1 (zfr_tr f3 (zfr_tr f4 (zfr_tr f5 (zfr_tr f6 (zfr_tr f7 (zfr_tr f8 (zfr_tr f9 f10)))))))
  obtain ⟨S1, eS⟩ : ∃ S1, g1 (g1 (g1 (g1 S 3 (cpR (zLen 2) (S 2) (S 3))) 5 (cpR (zLen 4) (g1 S 3 (cpR (zLen 2) (S 2) (S 3)) 4) (g1 S 3 (cpR (zLen 2) (S 2) (S 3)) 5))) 2 (fun _ => 0)) 4 N0 = S1 := ⟨_, rfl⟩
  obtain ⟨F1, eF⟩ : ∃ F1, upd (upd (upd (upd (upd (upd F 0 0) 9 (Int32.ofNat L)) 10 0) 14 0) 17 0) 18 0 = F1 := ⟨_, rfl⟩
  have sa : ∀ j, j ≠ 2 → j ≠ 3 → j ≠ 4 → j ≠ 5 → S1 j = S j := fun j j2 j3 j4 j5 => by rw [← eS, g1_ne _ _ j4, g1_ne _ _ j2, g1_ne _ _ j5, g1_ne _ _ j3]
  have fF : ∀ k, F1 k = if k = 18 then 0 else if k = 17 then 0 else if k = 14 then 0 else if k = 10 then 0 else if k = 9 then Int32.ofNat L else if k = 0 then 0 else F k := fun k => by rw [← eF, zU, zU, zU, zU, zU, zU]
  rw [eS] at W10
  rw [eF] at W10
  have b1 : rBy S1 β L := ⟨b.1, fun j hj => by rw [sa 1 (by decide) (by decide) (by decide) (by decide)]; exact b.2 j hj⟩
  obtain ⟨h11, F2, e11, W11, t11, k11, f11⟩ := m_next W10 b1 (by rw [fF]; simp) (i := 0) (by rw [fF]; simp) (Nat.zero_le _)
  refine ⟨h11, S1, F1, fun K => ?_, ⟨F2, S1, ⟨W11, ⟨fun _ _ _ => rfl, fun k hk => ?_, fun k hk => ?_⟩, t11, Nat.zero_le _, fun k hk => k11 k (by omega), zfr_tr fa f11⟩, ?_, ?_, ?_, ?_, ?_, ?_⟩, fun k hk hk2 => ?_, ?_, sa, fun k hk => ?_, fun k hk => ?_⟩
  · have hx : ¬ Int32.ofNat L < 0 := pn_neg (by omega)
    have m4 : ∀ {h : zHp} {F : Nat → Int32} {S : Nat → Nat → Int32}, wMF h x F S → zgR h x 8 4 = some (x + 3) := fun {h F S} W => po_R W.1 rfl
    have m6 : ∀ {h : zHp} {F : Nat → Int32} {S : Nat → Nat → Int32}, wMF h x F S → zgR h x 8 6 = some (x + 5) := fun {h F S} W => po_R W.1 rfl
    rw [e1, Option.bind_some, if_neg hx, (q_F W1 (k := 2) (by omega)).trans (congrArg some ((upd_ne F 0 (show 2 ≠ 0 by decide)).trans h2)), Option.bind_some, if_neg (by rw [pn_lt (by omega) (by omega)]; omega), wm_T (wMF_M W1), Option.bind_some, m4 W1, Option.bind_some, e3, Option.bind_some, wm_N (wMF_M W3), Option.bind_some, m6 W3, Option.bind_some, e4, Option.bind_some, e5, Option.bind_some, e6, Option.bind_some, e7, Option.bind_some, e8, Option.bind_some, e9, Option.bind_some, e10, Option.bind_some, e11, Option.bind_some]
  · rw [← eS, g1_ne _ _ (by decide), g1_self]
  · rw [← eS, g1_self]
    unfold N0
    rw [if_neg (by omega), if_neg (by omega)]
  · rw [← eS, g1_ne _ _ (by decide), g1_self]; rfl
  · rw [← eS, g1_self]; rfl
  · rw [k11 18 (by decide), fF]; simp; rfl
  · rw [k11 14 (by decide), fF]; simp
  · rw [k11 17 (by decide), fF]; simp
  · exact ⟨fun s hs => rfl, by decide⟩
  · rw [fF, if_neg (by omega), if_neg (by omega), if_neg (by omega), if_neg (by omega), if_neg (by omega), if_neg hk]
  · rw [fF]; simp
  · rw [← eS, g1_ne _ _ (by decide), g1_ne _ _ (by decide), g1_ne _ _ (by decide), g1_self]
    unfold cpR
    rw [if_pos (show k < zLen 2 from hk)]
  · rw [← eS, g1_ne _ _ (by decide), g1_ne _ _ (by decide), g1_self]
    unfold cpR
    rw [if_pos (show k < zLen 4 from hk), g1_ne _ _ (by decide)]
end P65
