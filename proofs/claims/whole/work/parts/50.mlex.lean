/-! PURE: the reference's tokens -/
section P50
variable {hp h hp' : zHp} {x a c L i : Nat} {S : Nat → Nat → Int32} {F I Bt : Nat → Int32} {β : Nat → Nat}
def rT (k : Nat) : Int32 := if k = 0 then 3 else if k = 1 then 0 else if k = 2 then 1 else if k = 3 then 2 else 4
/-- the reference's number, digit by digit -/
def rvl (β : Nat → Nat) (s : Nat) : Nat → Nat
  | 0 => 0
  | k + 1 => if 100000 < rvl β s k then rvl β s k else 10 * rvl β s k + β (s + k) - 48
theorem dig_in {n : Nat} (h : dig n = true) : 48 ≤ n ∧ n ≤ 57 := by
  unfold dig at h
  simpa using h
theorem sml_in {n : Nat} (h : sml n = true) : 97 ≤ n ∧ n ≤ 122 := by
  unfold sml at h
  simpa using h
theorem rvl_le {β : Nat → Nat} {s : Nat} : ∀ k, (∀ j, j < k → dig (β (s + j)) = true) → rvl β s k ≤ 1000009
  | 0, _ => by show (0 : Nat) ≤ _; omega
  | k + 1, h => by
    have ih := rvl_le k (fun j hj => h j (by omega))
    have hd := dig_in (h k (by omega))
    unfold rvl
    split <;> omega
def rBy (S : Nat → Nat → Int32) (β : Nat → Nat) (L : Nat) : Prop := L ≤ 900 ∧ ∀ j, j < L → S 1 j = Int32.ofNat (β j) ∧ β j < 256
theorem q_F (W : wMF hp x F S) {k : Nat} (hk : k = 0 ∨ k = 2 ∨ (8 ≤ k ∧ k ≤ 18) ∨ k = 20) : zgI hp x 8 k = some (F k) := by
  refine po_I W.1 ?_
  rcases hk with rfl | rfl | ⟨h1, h2⟩ | rfl
  · rfl
  · rfl
  · rcases (show k = 8 ∨ k = 9 ∨ k = 10 ∨ k = 11 ∨ k = 12 ∨ k = 13 ∨ k = 14 ∨ k = 15 ∨ k = 16 ∨ k = 17 ∨ k = 18 by omega) with rfl | rfl | rfl | rfl | rfl | rfl | rfl | rfl | rfl | rfl | rfl <;> rfl
  · rfl
theorem q_by (W : wMF hp x F S) : zgR hp x 8 1 = some (x + 1) := po_R W.1 rfl
theorem q_here (W : wMF hp x F S) (b : rBy S β L) (h9 : F 9 = Int32.ofNat L) {j : Nat} (h10 : F 10 = Int32.ofNat j) (hj : j ≤ L) : f_X8_here x hp = some (if j < L then Int32.ofNat (β j) else -1) := by
  have b1 := b.1
  simp (disch := omega) only [f_X8_here, wm_is (wMF_M W), q_F W (k := 9) (by omega), q_F W (k := 10) (by omega), h9, h10, pn_lt, Option.bind_some]
  by_cases q : j < L
  · rw [if_pos q, if_pos q]
    obtain ⟨b2, b3⟩ := b.2 j q
    simp only [q_by W, wMF_rd W (j := 1) (by decide) (by decide) (show j < 900 by omega), b2, Option.bind_some]
  · rw [if_neg q, if_neg q]
def kS (v : Int32) : Int32 := if v < 97 then 0 else if 122 < v then 0 else 1
def kD (v : Int32) : Int32 := if v < 48 then 0 else if 57 < v then 0 else 1
theorem isSmall_k (v : Int32) (hp : zHp) : f_X8_isSmall v hp = some (kS v) := by
  unfold f_X8_isSmall kS
  split
  · rfl
  · split <;> rfl
theorem isDigit_k (v : Int32) (hp : zHp) : f_X8_isDigit v hp = some (kD v) := by
  unfold f_X8_isDigit kD
  split
  · rfl
  · split <;> rfl
theorem kS_n {n : Nat} (h : n < 256) : kS (Int32.ofNat n) = zb (sml n) := by
  have t : ∀ n, n < 256 → kS (Int32.ofNat n) = zb (sml n) := by decide +kernel
  exact t n h
theorem kD_n {n : Nat} (h : n < 256) : kD (Int32.ofNat n) = zb (dig n) := by
  have t : ∀ n, n < 256 → kD (Int32.ofNat n) = zb (dig n) := by decide +kernel
  exact t n h
/-- the reference's token -/
def rTok (F : Nat → Int32) (β : Nat → Nat) (L i : Nat) : Prop := F 9 = Int32.ofNat L ∧ F 10 = Int32.ofNat (tE β L i) ∧ F 11 = Int32.ofNat (tS β L i) ∧ F 12 = rT (tK β L i) ∧ (tK β L i = 2 → F 13 = Int32.ofNat (rvl β (tS β L i) (tE β L i - tS β L i)))
theorem m_next (W : wMF hp x F S) (b : rBy S β L) (h9 : F 9 = Int32.ofNat L) (h10 : F 10 = Int32.ofNat i) (hi : i ≤ L) : ∃ h F', f_X8_next x hp = some h ∧ wMF h x F' S ∧ rTok F' β L i ∧ (∀ k, k < 10 ∨ 13 < k → F' k = F k) ∧ zfr hp h x 8 := by
  have b1 := b.1
  have hs := tS_in (β := β) hi
  simp only [f_X8_next, wm_is (wMF_M W), Option.bind_some]
  generalize hK : (fun h5 : zHp => (zgI h5 x 8 10).bind fun v6 => (zpV h5 x 8 11 (.int v6)).bind fun h7 => (f_X8_here x h7).bind fun v8 => if v8 = -1 then ((zpV h7 x 8 12 (.int 3)).bind fun h32 => some h32) else (f_X8_isSmall v8 h7).bind fun v9 => if v9 = 0 then ((f_X8_isDigit v8 h7).bind fun v10 => if v10 = 0 then (if v8 = 59 then (j_X8_next_182 x x 2 h7) else j_X8_next_182 x x 4 h7) else (zpV h7 x 8 12 (.int 1)).bind fun h14 => (zpV h14 x 8 13 (.int 0)).bind fun h15 => l_X8_next_112 (fun h25 => some h25) x 1000000 h15) else l_X8_next_64 (fun h30 => (zpV h30 x 8 12 (.int 0)).bind fun h31 => some h31) x 1000000 h7) = K
  obtain ⟨h1, ⟨F1, W1, z10, zo, f1⟩, e1⟩ := zFHw (l := l_X8_next_0 K x) (hp := hp) (k0 := i) (n := tS β L i) (m := 1000000) (k := K) hs.1 (fun j h => ∃ F', wMF h x F' S ∧ F' 10 = Int32.ofNat j ∧ (∀ k, k ≠ 10 → F' k = F k) ∧ zfr hp h x 8) (by omega) ⟨F, W, h10, fun _ _ => rfl, zfr_rf⟩ (fun j h hj1 hj2 ⟨F', Z, z10, zo, f⟩ => by
      obtain ⟨h', e', Z', f'⟩ := wMF_fld Z (k := 10) (by omega) (Int32.ofNat (j + 1))
      refine ⟨h', ⟨_, Z', by rw [zU, if_pos rfl], fun k hk => by rw [zU, if_neg hk]; exact zo k hk, zfr_tr f f'⟩, fun m => ?_⟩
      have hjL : j < L := by omega
      obtain ⟨b2, b3⟩ := b.2 j hjL
      have hc : blk (β j) = true := eo_run hi hj1 hj2
      have hh : f_X8_here x h = some (Int32.ofNat (β j)) := by rw [q_here Z b (by rw [zo 9 (by decide), h9]) z10 (by omega), if_pos hjL]
      have jj : j_X8_next_18 K (l_X8_next_0 K x m) x h = l_X8_next_0 K x m h' := by
        simp only [j_X8_next_18, q_F Z (k := 10) (by omega), z10, pn_succ, e', Option.bind_some]
      simp only [l_X8_next_0_s, b_X8_next_0, hh, Option.bind_some, jj]
      have h32 : (Int32.ofNat (β j) = 32) = (β j = 32) := pn_inj (n := 32) (by omega) (by decide)
      have h10 : (Int32.ofNat (β j) = 10) = (β j = 10) := pn_inj (n := 10) (by omega) (by decide)
      simp only [h32, h10]
      unfold blk at hc
      by_cases c1 : β j = 10
      · rw [if_pos c1]
      · rw [if_neg c1, if_pos (by simpa [c1] using hc)]) (fun h ⟨F', Z, z10, zo, f⟩ m => by
      have hh := q_here Z b (by rw [zo 9 (by decide), h9]) z10 hs.2
      by_cases q1 : tS β L i < L
      · obtain ⟨b2, b3⟩ := b.2 _ q1
        have hc : blk (β (tS β L i)) = false := eo_end hi q1
        rw [if_pos q1] at hh
        have h32 : (Int32.ofNat (β (tS β L i)) = 32) = (β (tS β L i) = 32) := pn_inj (n := 32) (by omega) (by decide)
        have h10 : (Int32.ofNat (β (tS β L i)) = 10) = (β (tS β L i) = 10) := pn_inj (n := 10) (by omega) (by decide)
        unfold blk at hc
        have c1 : ¬ β (tS β L i) = 10 := fun e => by rw [e] at hc; exact absurd hc (by decide)
        have c2 : ¬ β (tS β L i) = 32 := fun e => by rw [e] at hc; exact absurd hc (by decide)
        simp only [l_X8_next_0_s, b_X8_next_0, hh, Option.bind_some, h32, h10, c1, c2, if_false]
      · rw [if_neg q1] at hh
        simp only [l_X8_next_0_s, b_X8_next_0, hh, Option.bind_some, show ¬ (-1 : Int32) = 10 by decide, show ¬ (-1 : Int32) = 32 by decide, if_false])
  rw [e1, ← hK]
  obtain ⟨h2, e2, W2, f2⟩ := wMF_fld W1 (k := 11) (by omega) (Int32.ofNat (tS β L i))
  have g9 : upd F1 11 (Int32.ofNat (tS β L i)) 9 = Int32.ofNat L := by rw [zU, if_neg (by decide), zo 9 (by decide), h9]
  have g10 : upd F1 11 (Int32.ofNat (tS β L i)) 10 = Int32.ofNat (tS β L i) := by rw [zU, if_neg (by decide), z10]
  have hh := q_here W2 b g9 g10 hs.2
  have f12 := zfr_tr f1 f2
  have fin : ∀ (hq : zHp) (Fq : Nat → Int32), wMF hq x Fq S → Fq 10 = Int32.ofNat (tE β L i) → Fq 12 = rT (tK β L i) → (tK β L i = 2 → Fq 13 = Int32.ofNat (rvl β (tS β L i) (tE β L i - tS β L i))) → (∀ k, k ≠ 10 → k ≠ 12 → k ≠ 13 → Fq k = upd F1 11 (Int32.ofNat (tS β L i)) k) → zfr hp hq x 8 → ∃ h F', some hq = some h ∧ wMF h x F' S ∧ rTok F' β L i ∧ (∀ k, k < 10 ∨ 13 < k → F' k = F k) ∧ zfr hp h x 8 := fun hq Fq Z y10 y12 y13 yo f => by
    refine ⟨hq, Fq, rfl, Z, ⟨?_, y10, ?_, y12, y13⟩, fun k hk => ?_, f⟩
    · rw [yo 9 (by decide) (by decide) (by decide), g9]
    · rw [yo 11 (by decide) (by decide) (by decide), zU, if_pos rfl]
    · rw [yo k (by omega) (by omega) (by omega), zU, if_neg (by omega), zo k (by omega)]
  simp only [q_F W1 (k := 10) (by omega), z10, e2, hh, Option.bind_some]
  by_cases q1 : tS β L i < L
  · obtain ⟨b2, b3⟩ := b.2 _ q1
    have hk : tK β L i = cK (β (tS β L i)) := by unfold tK; rw [if_pos q1]
    have hkr := cK_in (β (tS β L i))
    rw [if_pos q1, if_neg (by rw [pn_ne1 (by omega)]; exact not_false)]
    simp only [isSmall_k, isDigit_k, kS_n b3, kD_n b3, Option.bind_some, zb_0]
    by_cases k1 : tK β L i = 1
    · have hsm := sml_of (hk.symm.trans k1)
      rw [hsm, if_neg (by decide)]
      have hE := tE_w k1
      have he := eo_in (q := sml) (β := β) hs.2
      obtain ⟨h6, ⟨F6, W6, y10, yo, f6⟩, e6⟩ := zFHw (l := l_X8_next_64 (fun h30 => (zpV h30 x 8 12 (.int 0)).bind fun h31 => some h31) x) (hp := h2) (k0 := tS β L i) (n := eo sml β L (tS β L i)) (m := 1000000) (k := fun h30 => (zpV h30 x 8 12 (.int 0)).bind fun h31 => some h31) he.1 (fun j h => ∃ F', wMF h x F' S ∧ F' 10 = Int32.ofNat j ∧ (∀ k, k ≠ 10 → F' k = upd F1 11 (Int32.ofNat (tS β L i)) k) ∧ zfr hp h x 8) (by omega) ⟨_, W2, g10, fun _ _ => rfl, f12⟩ (fun j h hj1 hj2 ⟨F', Z, y10, yo, f⟩ => by
          obtain ⟨h', e', Z', f'⟩ := wMF_fld Z (k := 10) (by omega) (Int32.ofNat (j + 1))
          refine ⟨h', ⟨_, Z', by rw [zU, if_pos rfl], fun k hk => by rw [zU, if_neg hk]; exact yo k hk, zfr_tr f f'⟩, fun m => ?_⟩
          have hjL : j < L := by omega
          obtain ⟨b4, b5⟩ := b.2 j hjL
          have hc := eo_run hs.2 hj1 hj2
          have hh : f_X8_here x h = some (Int32.ofNat (β j)) := by rw [q_here Z b (by rw [yo 9 (by decide), g9]) y10 (by omega), if_pos hjL]
          simp only [l_X8_next_64_s, b_X8_next_64, hh, isSmall_k, kS_n b5, hc, zb_t, show ¬ (1 : Int32) = 0 by decide, if_false, q_F Z (k := 10) (by omega), y10, pn_succ, e', Option.bind_some]) (fun h ⟨F', Z, y10, yo, f⟩ m => by
          have hh := q_here Z b (by rw [yo 9 (by decide), g9]) y10 he.2
          by_cases q2 : eo sml β L (tS β L i) < L
          · obtain ⟨b4, b5⟩ := b.2 _ q2
            have hc := eo_end hs.2 q2
            rw [if_pos q2] at hh
            simp only [l_X8_next_64_s, b_X8_next_64, hh, isSmall_k, kS_n b5, hc, zb_f, if_true, Option.bind_some]
          · rw [if_neg q2] at hh
            simp only [l_X8_next_64_s, b_X8_next_64, hh, isSmall_k, show kS (-1) = 0 by decide, if_true, Option.bind_some])
      rw [e6]
      obtain ⟨h7, e7, W7, f7⟩ := wMF_fld W6 (k := 12) (by omega) 0
      simp only [e7, Option.bind_some]
      exact fin h7 _ W7 (by rw [zU, if_neg (by decide), y10, hE]) (by rw [zU, if_pos rfl, k1]; rfl) (fun q => by omega) (fun k c1 c2 c3 => by rw [zU, if_neg c2, yo k c1]) (zfr_tr f6 f7)
    · have hns : sml (β (tS β L i)) = false := by
        cases hq : sml (β (tS β L i)) with
        | false => rfl
        | true => exfalso; apply k1; rw [hk]; unfold cK; rw [if_pos hq]
      rw [hns, if_pos rfl]
      by_cases k2 : tK β L i = 2
      · have hdg := (dig_of (hk.symm.trans k2)).1
        rw [hdg, if_neg (by decide)]
        have hE := tE_d k2
        have he := eo_in (q := dig) (β := β) hs.2
        obtain ⟨h3, e3, W3, f3⟩ := wMF_fld W2 (k := 12) (by omega) 1
        obtain ⟨h4, e4, W4, f4⟩ := wMF_fld W3 (k := 13) (by omega) 0
        simp only [e3, e4, Option.bind_some]
        have c13 : ∀ k, upd (upd (upd F1 11 (Int32.ofNat (tS β L i))) 12 1) 13 0 k = if k = 13 then 0 else if k = 12 then 1 else upd F1 11 (Int32.ofNat (tS β L i)) k := fun k => rfl
        obtain ⟨h6, ⟨F6, W6, y10, y13, yo, f6⟩, e6⟩ := zFHw (l := l_X8_next_112 (fun h25 => some h25) x) (hp := h4) (k0 := tS β L i) (n := eo dig β L (tS β L i)) (m := 1000000) (k := fun h25 => some h25) he.1 (fun j h => ∃ F', wMF h x F' S ∧ F' 10 = Int32.ofNat j ∧ F' 13 = Int32.ofNat (rvl β (tS β L i) (j - tS β L i)) ∧ (∀ k, k ≠ 10 → k ≠ 13 → F' k = upd (upd (upd F1 11 (Int32.ofNat (tS β L i))) 12 1) 13 0 k) ∧ zfr hp h x 8) (by omega) ⟨_, W4, by rw [c13, if_neg (by decide), if_neg (by decide), g10], by rw [c13, if_pos rfl, Nat.sub_self]; rfl, fun _ _ _ => rfl, zfr_tr (zfr_tr f12 f3) f4⟩ (fun j h hj1 hj2 ⟨F', Z, y10, y13, yo, f⟩ => by
            have hjL : j < L := by omega
            obtain ⟨b4, b5⟩ := b.2 j hjL
            have hc := eo_run hs.2 hj1 hj2
            have hd := dig_in hc
            have h9' : F' 9 = Int32.ofNat L := by rw [yo 9 (by decide) (by decide), c13, if_neg (by decide), if_neg (by decide), g9]
            have hh : f_X8_here x h = some (Int32.ofNat (β j)) := by rw [q_here Z b h9' y10 (by omega), if_pos hjL]
            have hv := rvl_le (β := β) (s := tS β L i) (j - tS β L i) (fun j' hj' => eo_run hs.2 (by omega) (by omega))
            have hs1 : rvl β (tS β L i) (j + 1 - tS β L i) = if 100000 < rvl β (tS β L i) (j - tS β L i) then rvl β (tS β L i) (j - tS β L i) else 10 * rvl β (tS β L i) (j - tS β L i) + β j - 48 := by
              rw [show j + 1 - tS β L i = (j - tS β L i) + 1 by omega]
              show (if 100000 < rvl β (tS β L i) (j - tS β L i) then rvl β (tS β L i) (j - tS β L i) else 10 * rvl β (tS β L i) (j - tS β L i) + β (tS β L i + (j - tS β L i)) - 48) = _
              rw [show tS β L i + (j - tS β L i) = j by omega]
            obtain ⟨h3, e3, Z3, f3⟩ := wMF_fld Z (k := 13) (by omega) (Int32.ofNat (rvl β (tS β L i) (j + 1 - tS β L i)))
            obtain ⟨h4, e4, Z4, f4⟩ := wMF_fld Z3 (k := 10) (by omega) (Int32.ofNat (j + 1))
            refine ⟨h4, ⟨_, Z4, by rw [zU, if_pos rfl], by rw [zU, if_neg (by decide), zU, if_pos rfl], fun k k1 k2 => by rw [zU, if_neg k1, zU, if_neg k2]; exact yo k k1 k2, zfr_tr (zfr_tr f f3) f4⟩, fun m => ?_⟩
            have body : ∀ v, v = Int32.ofNat (rvl β (tS β L i) (j + 1 - tS β L i)) → j_X8_next_154 (fun h25 => some h25) (l_X8_next_112 (fun h25 => some h25) x m) x x v h = l_X8_next_112 (fun h25 => some h25) x m h4 := fun v hv => by
              subst hv
              have i10 : zgI h3 x 8 10 = some (Int32.ofNat j) := by rw [q_F Z3 (k := 10) (by omega), zU, if_neg (by decide), y10]
              simp only [j_X8_next_154, e3, i10, pn_succ, e4, Option.bind_some]
            have h100 : ((100000 : Int32) < Int32.ofNat (rvl β (tS β L i) (j - tS β L i))) = (100000 < rvl β (tS β L i) (j - tS β L i)) := pn_lt (i := 100000) (by decide) (by omega)
            simp only [l_X8_next_112_s, b_X8_next_112, hh, isDigit_k, kD_n b5, hc, zb_t, show ¬ (1 : Int32) = 0 by decide, if_false, q_F Z (k := 13) (by omega), y13, h100, Option.bind_some]
            rw [hs1] at body
            by_cases q3 : 100000 < rvl β (tS β L i) (j - tS β L i)
            · rw [if_pos q3]
              exact body _ (by rw [if_pos q3])
            · rw [if_neg q3]
              refine body _ ?_
              rw [if_neg q3, show (10 : Int32) = Int32.ofNat 10 from rfl, ← Int32.ofNat_mul, ixa, show (48 : Int32) = Int32.ofNat 48 from rfl, ← Int32.ofNat_sub _ _ (by omega)]) (fun h ⟨F', Z, y10, y13, yo, f⟩ m => by
            have h9' : F' 9 = Int32.ofNat L := by rw [yo 9 (by decide) (by decide), c13, if_neg (by decide), if_neg (by decide), g9]
            have hh := q_here Z b h9' y10 he.2
            by_cases q2 : eo dig β L (tS β L i) < L
            · obtain ⟨b4, b5⟩ := b.2 _ q2
              have hc := eo_end hs.2 q2
              rw [if_pos q2] at hh
              simp only [l_X8_next_112_s, b_X8_next_112, hh, isDigit_k, kD_n b5, hc, zb_f, if_true, Option.bind_some]
            · rw [if_neg q2] at hh
              simp only [l_X8_next_112_s, b_X8_next_112, hh, isDigit_k, show kD (-1) = 0 by decide, if_true, Option.bind_some])
        rw [e6]
        exact fin h6 F6 W6 (by rw [y10, hE]) (by rw [yo 12 (by decide) (by decide), c13, if_neg (by decide), if_pos rfl, k2]; rfl) (fun _ => by rw [y13, hE]) (fun k c1 c2 c3 => by rw [yo k c1 c3, c13, if_neg c3, if_neg c2]) f6
      · have hnd : dig (β (tS β L i)) = false := by
          cases hq : dig (β (tS β L i)) with
          | false => rfl
          | true => exfalso; apply k2; rw [hk]; unfold cK; rw [if_neg (by rw [hns]; decide), if_pos hq]
        rw [hnd, if_pos rfl]
        have k34 : tK β L i = if β (tS β L i) = 59 then 3 else 4 := by rw [hk]; unfold cK; rw [if_neg (by rw [hns]; decide), if_neg (by rw [hnd]; decide)]
        have hE : tE β L i = tS β L i + 1 := by
          unfold tE
          rw [if_neg (by omega), if_neg k1, if_neg k2]
        have tail : ∀ v, v = rT (tK β L i) → ∃ h F', j_X8_next_182 x x v h2 = some h ∧ wMF h x F' S ∧ rTok F' β L i ∧ (∀ k, k < 10 ∨ 13 < k → F' k = F k) ∧ zfr hp h x 8 := fun v hv => by
          obtain ⟨h3, e3, W3, f3⟩ := wMF_fld W2 (k := 12) (by omega) v
          obtain ⟨h4, e4, W4, f4⟩ := wMF_fld W3 (k := 10) (by omega) (Int32.ofNat (tS β L i + 1))
          have i10 : zgI h3 x 8 10 = some (Int32.ofNat (tS β L i)) := by rw [q_F W3 (k := 10) (by omega), zU, if_neg (by decide), g10]
          have e : j_X8_next_182 x x v h2 = some h4 := by simp only [j_X8_next_182, e3, i10, pn_succ, e4, Option.bind_some]
          rw [e]
          exact fin h4 _ W4 (by rw [zU, if_pos rfl, hE]) (by rw [zU, if_neg (by decide), zU, if_pos rfl, hv]) (fun q => absurd q k2) (fun k c1 c2 c3 => by rw [zU, if_neg c1, zU, if_neg c2]) (zfr_tr (zfr_tr f12 f3) f4)
        have h59 : (Int32.ofNat (β (tS β L i)) = 59) = (β (tS β L i) = 59) := pn_inj (n := 59) (by omega) (by decide)
        by_cases c : Int32.ofNat (β (tS β L i)) = 59
        · have c' : β (tS β L i) = 59 := by rw [h59] at c; exact c
          rw [if_pos c]
          exact tail 2 (by rw [k34, if_pos c']; rfl)
        · have c' : ¬ β (tS β L i) = 59 := by rw [h59] at c; exact c
          rw [if_neg c]
          exact tail 4 (by rw [k34, if_neg c']; rfl)
  · rw [if_neg q1, if_pos rfl]
    have k0 : tK β L i = 0 := by unfold tK; rw [if_neg q1]
    have hE : tE β L i = tS β L i := by unfold tE; rw [if_pos k0]
    obtain ⟨h3, e3, W3, f3⟩ := wMF_fld W2 (k := 12) (by omega) 3
    simp only [e3, Option.bind_some]
    exact fin h3 _ W3 (by rw [zU, if_neg (by decide), g10, hE]) (by rw [zU, if_pos rfl, k0]; rfl) (fun q => by omega) (fun k c1 c2 c3 => by rw [zU, if_neg c2]) (zfr_tr f12 f3)
end P50
