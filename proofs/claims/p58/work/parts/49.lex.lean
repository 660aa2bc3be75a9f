/-! PURE: tokens -/
section P49
def blk (n : Nat) : Bool := decide (n = 32) || decide (n = 10)
def sml (n : Nat) : Bool := decide (97 ≤ n) && decide (n ≤ 122)
def dig (n : Nat) : Bool := decide (48 ≤ n) && decide (n ≤ 57)
def cK (n : Nat) : Nat := if sml n = true then 1 else if dig n = true then 2 else if n = 59 then 3 else 4
/-- where a run ends -/
def eo (q : Nat → Bool) (β : Nat → Nat) (L i : Nat) : Nat := match zff (fun j => !q (β j)) (L - i) i with
  | some k => k
  | none => L
theorem eo_in {q : Nat → Bool} {β : Nat → Nat} {L i : Nat} (h : i ≤ L) : i ≤ eo q β L i ∧ eo q β L i ≤ L := by
  unfold eo
  cases hk : zff (fun j => !q (β j)) (L - i) i with
  | none => exact ⟨h, Nat.le_refl L⟩
  | some k =>
    have := zff_some hk
    exact ⟨this.1, by show k ≤ L; omega⟩
theorem eo_run {q : Nat → Bool} {β : Nat → Nat} {L i j : Nat} (h : i ≤ L) (h1 : i ≤ j) (h2 : j < eo q β L i) : q (β j) = true := by
  unfold eo at h2
  cases hk : zff (fun j => !q (β j)) (L - i) i with
  | none =>
    rw [hk] at h2
    have := zff_none hk j h1 (by have : j < L := h2; omega)
    simpa using this
  | some k =>
    rw [hk] at h2
    have := (zff_some hk).2.2.2 j h1 h2
    simpa using this
theorem eo_end {q : Nat → Bool} {β : Nat → Nat} {L i : Nat} (h : i ≤ L) (h2 : eo q β L i < L) : q (β (eo q β L i)) = false := by
  unfold eo at h2 ⊢
  cases hk : zff (fun j => !q (β j)) (L - i) i with
  | none => rw [hk] at h2; exact absurd h2 (Nat.lt_irrefl L)
  | some k =>
    have := (zff_some hk).2.2.1
    simpa using this
theorem eo_step {q : Nat → Bool} {β : Nat → Nat} {L i : Nat} (h : i < L) (hq : q (β i) = true) : eo q β L i = eo q β L (i + 1) := by
  unfold eo
  obtain ⟨d, hd⟩ : ∃ d, L - i = d + 1 := ⟨L - i - 1, by omega⟩
  rw [hd, show L - (i + 1) = d by omega]
  show (match (if (!q (β i)) = true then some i else zff (fun j => !q (β j)) d (i + 1)) with | some k => k | none => L) = _
  rw [hq]
  rfl
def tS (β : Nat → Nat) (L i : Nat) : Nat := eo blk β L i
def tK (β : Nat → Nat) (L i : Nat) : Nat := if tS β L i < L then cK (β (tS β L i)) else 0
def tE (β : Nat → Nat) (L i : Nat) : Nat := if tK β L i = 0 then tS β L i else if tK β L i = 1 then eo sml β L (tS β L i + 1) else if tK β L i = 2 then eo dig β L (tS β L i + 1) else tS β L i + 1
theorem cK_in (n : Nat) : 1 ≤ cK n ∧ cK n ≤ 4 := by unfold cK; (repeat' split) <;> omega
theorem tS_in {β : Nat → Nat} {L i : Nat} (h : i ≤ L) : i ≤ tS β L i ∧ tS β L i ≤ L := eo_in h
theorem tK_le (β : Nat → Nat) (L i : Nat) : tK β L i ≤ 4 := by
  unfold tK
  split
  · exact (cK_in _).2
  · omega
theorem tK_ne {β : Nat → Nat} {L i : Nat} (h : tK β L i ≠ 0) : tS β L i < L ∧ tK β L i = cK (β (tS β L i)) := by
  unfold tK at h ⊢
  by_cases q : tS β L i < L
  · rw [if_pos q]; exact ⟨q, rfl⟩
  · rw [if_neg q] at h; exact absurd rfl h
theorem tE_in {β : Nat → Nat} {L i : Nat} (h : i ≤ L) : tS β L i ≤ tE β L i ∧ tE β L i ≤ L ∧ (tK β L i ≠ 0 → tS β L i < tE β L i) := by
  have hs := tS_in (β := β) h
  unfold tE
  by_cases k0 : tK β L i = 0
  · rw [if_pos k0]; exact ⟨Nat.le_refl _, hs.2, fun q => absurd k0 q⟩
  · have hl := (tK_ne k0).1
    rw [if_neg k0]
    split
    · have := eo_in (q := sml) (β := β) (L := L) (i := tS β L i + 1) (by omega)
      exact ⟨by omega, by omega, fun _ => by omega⟩
    · split
      · have := eo_in (q := dig) (β := β) (L := L) (i := tS β L i + 1) (by omega)
        exact ⟨by omega, by omega, fun _ => by omega⟩
      · exact ⟨by omega, by omega, fun _ => by omega⟩
theorem sml_of {n : Nat} (h : cK n = 1) : sml n = true := by
  unfold cK at h
  by_cases q : sml n = true
  · exact q
  · rw [if_neg q] at h
    split at h
    · cases h
    · split at h <;> cases h
theorem dig_of {n : Nat} (h : cK n = 2) : dig n = true ∧ sml n = false := by
  unfold cK at h
  by_cases q : sml n = true
  · rw [if_pos q] at h; cases h
  · rw [if_neg q] at h
    by_cases q2 : dig n = true
    · exact ⟨q2, by simpa using q⟩
    · rw [if_neg q2] at h
      split at h <;> cases h
theorem tE_w {β : Nat → Nat} {L i : Nat} (h : tK β L i = 1) : tE β L i = eo sml β L (tS β L i) := by
  obtain ⟨h1, h2⟩ := tK_ne (β := β) (L := L) (i := i) (by omega)
  unfold tE
  rw [if_neg (by omega), if_pos h, eo_step h1 (sml_of (by omega))]
theorem tE_d {β : Nat → Nat} {L i : Nat} (h : tK β L i = 2) : tE β L i = eo dig β L (tS β L i) := by
  obtain ⟨h1, h2⟩ := tK_ne (β := β) (L := L) (i := i) (by omega)
  unfold tE
  rw [if_neg (by omega), if_neg (by omega), if_pos h, eo_step h1 (dig_of (by omega)).1]
theorem tW {β : Nat → Nat} {L i j : Nat} (hi : i ≤ L) (h : tK β L i = 1) (h1 : tS β L i ≤ j) (h2 : j < tE β L i) : sml (β j) = true := by
  rw [tE_w h] at h2
  exact eo_run (tS_in hi).2 h1 h2
theorem tD {β : Nat → Nat} {L i j : Nat} (hi : i ≤ L) (h : tK β L i = 2) (h1 : tS β L i ≤ j) (h2 : j < tE β L i) : dig (β j) = true := by
  rw [tE_d h] at h2
  exact eo_run (tS_in hi).2 h1 h2
/-! bytes as Java has them -/
def sxn (n : Nat) : Int32 := sx (Int32.ofNat n)
theorem sxn_lo {n : Nat} (h : n < 128) : sxn n = Int32.ofNat n := by
  have : ∀ n, n < 128 → sxn n = Int32.ofNat n := by decide +kernel
  exact this n h
def kBl (v : Int32) : Int32 := if v = 32 then 1 else if v = 10 then 1 else 0
def kK2 (v : Int32) : Int32 := if v = 59 then 3 else 4
def kK1 (v : Int32) : Int32 := if v < 48 then kK2 v else if 57 < v then kK2 v else 2
def kK (v : Int32) : Int32 := if v < 97 then kK1 v else if 122 < v then kK1 v else 1
theorem isBlank_n {n : Nat} (h : n < 256) (hp : zHp) : f_X3_isBlank (sxn n) hp = some (zb (blk n)) := by
  have e : f_X3_isBlank (sxn n) hp = some (kBl (sxn n)) := by
    unfold f_X3_isBlank kBl
    split
    · rfl
    · split <;> rfl
  have t : ∀ n, n < 256 → kBl (sxn n) = zb (blk n) := by decide +kernel
  rw [e, t n h]
theorem kindOf_n {n : Nat} (h : n < 256) (hp : zHp) : f_X3_kindOf (sxn n) hp = some (Int32.ofNat (cK n)) := by
  have e2 : ∀ v, j_X3_kindOf_28 v hp = some (kK2 v) := fun v => by
    unfold j_X3_kindOf_28 kK2
    split <;> rfl
  have e1 : ∀ v, j_X3_kindOf_14 v hp = some (kK1 v) := fun v => by
    unfold j_X3_kindOf_14 kK1
    rw [e2]
    split
    · rfl
    · split <;> rfl
  have e : f_X3_kindOf (sxn n) hp = some (kK (sxn n)) := by
    unfold f_X3_kindOf kK
    rw [e1]
    split
    · rfl
    · split <;> rfl
  have t : ∀ n, n < 256 → kK (sxn n) = Int32.ofNat (cK n) := by decide +kernel
  rw [e, t n h]
/-- a loop over a heap alone, k0 .. n -/
theorem zFHw {R : Type} {l : Nat → zHp → Option R} {n m k0 : Nat} {hp : zHp} (hk : k0 ≤ n) (J : Nat → zHp → Prop) (hm : n < m) (h0 : J k0 hp)
    (hs : ∀ i h, k0 ≤ i → i < n → J i h → ∃ h', J (i + 1) h' ∧ ∀ m, l (m + 1) h = l m h') {k : zHp → Option R} (he : ∀ h, J n h → ∀ m, l (m + 1) h = k h) : ∃ h, J n h ∧ l m hp = k h := by
  have H : ∀ d i m hp, i + d = n → k0 ≤ i → d < m → J i hp → ∃ h, J n h ∧ l m hp = k h := by
    intro d
    induction d with
    | zero =>
      intro i m hp hi hki hm hJ
      obtain ⟨m, rfl⟩ : ∃ q, m = q + 1 := ⟨m - 1, by omega⟩
      have e : i = n := by omega
      subst e
      exact ⟨hp, hJ, he hp hJ m⟩
    | succ d ih =>
      intro i m hp hi hki hm hJ
      obtain ⟨m, rfl⟩ : ∃ q, m = q + 1 := ⟨m - 1, by omega⟩
      obtain ⟨h', J', e⟩ := hs i hp hki (by omega) hJ
      rw [e m]
      exact ih (i + 1) m h' (by omega) (by omega) (by omega) J'
  exact H (n - k0) k0 m hp (by omega) (Nat.le_refl _) (by omega) h0
variable {hp h hp' : zHp} {x a c L i : Nat} {S : Nat → Nat → Int32} {F I Bt : Nat → Int32} {β : Nat → Nat}
/-- the class's token -/
def inT (I : Nat → Int32) (β : Nat → Nat) (L i : Nat) : Prop := I 2 = Int32.ofNat L ∧ I 3 = Int32.ofNat (tK β L i) ∧ I 4 = Int32.ofNat (tS β L i) ∧ I 5 = Int32.ofNat (tE β L i)
def inBy (Bt : Nat → Int32) (β : Nat → Nat) (L : Nat) : Prop := L ≤ 900 ∧ ∀ j, j < L → Bt j = sxn (β j) ∧ β j < 256
theorem c_run (W : wIn hp a I Bt) (b : inBy Bt β L) (h2 : I 2 = Int32.ofNat L) {q : Nat → Bool} {k j0 : Nat} (hk : k = 1 ∨ k = 2) (hq : ∀ n, n < 256 → (cK n = k ↔ q n = true)) (h3 : I 3 = Int32.ofNat k) (h5 : I 5 = Int32.ofNat j0) (hj : j0 ≤ L) (K : zHp → Option zHp) : ∃ h, (∃ I', wIn h a I' Bt ∧ I' 5 = Int32.ofNat (eo q β L j0) ∧ (∀ k, k ≠ 5 → I' k = I k) ∧ zfr hp h a 1) ∧ l_X3_next_124 K a 1 1000000 hp = K h := by
  have he := eo_in (q := q) (β := β) hj
  have b1 := b.1
  refine zFHw (l := l_X3_next_124 K a 1) (hp := hp) (k0 := j0) (n := eo q β L j0) (m := 1000000) (k := K) he.1 (fun j h => ∃ I', wIn h a I' Bt ∧ I' 5 = Int32.ofNat j ∧ (∀ k, k ≠ 5 → I' k = I k) ∧ zfr hp h a 1) (by omega) ⟨I, W, h5, fun k _ => rfl, zfr_rf⟩ (fun j h hj1 hj2 ⟨I', Z, z5, zo, f⟩ => ?_) (fun h ⟨I', Z, z5, zo, f⟩ m => ?_)
  · obtain ⟨h', e', Z', f'⟩ := in_setF Z (k := 5) (by decide) (by decide) (Int32.ofNat (j + 1))
    refine ⟨h', ⟨_, Z', by rw [zU, if_pos rfl], fun k hk => by rw [zU, if_neg hk]; exact zo k hk, zfr_tr f f'⟩, fun m => ?_⟩
    have hjL : j < L := by omega
    obtain ⟨b2, b3⟩ := b.2 j hjL
    have hc : cK (β j) = k := (hq _ b3).mpr (eo_run hj hj1 hj2)
    simp (disch := omega) only [l_X3_next_124_s, b_X3_next_124, show ¬ (1 : Int32) = 0 by decide, if_false, in_I Z (k := 5) (by decide) (by decide), z5, in_I Z (k := 2) (by decide) (by decide), zo, h2, pn_lt, hjL, if_true, in_by Z, in_rd Z (show j < 900 by omega), b2, kindOf_n b3, in_I Z (k := 3) (by decide) (by decide), h3, hc, pn_succ, e', Option.bind_some]
  · by_cases q1 : eo q β L j0 < L
    · obtain ⟨b2, b3⟩ := b.2 _ q1
      have hc : ¬ cK (β (eo q β L j0)) = k := fun e => by
        have := (hq _ b3).mp e
        rw [eo_end hj q1] at this
        cases this
      have hcn : ¬ Int32.ofNat (cK (β (eo q β L j0))) = Int32.ofNat k := by
        have := cK_in (β (eo q β L j0))
        rw [pn_inj (by omega) (by omega)]
        exact hc
      simp (disch := omega) only [l_X3_next_124_s, b_X3_next_124, show ¬ (1 : Int32) = 0 by decide, if_false, in_I Z (k := 5) (by decide) (by decide), z5, in_I Z (k := 2) (by decide) (by decide), zo, h2, pn_lt, q1, if_true, in_by Z, in_rd Z (show eo q β L j0 < 900 by omega), b2, kindOf_n b3, in_I Z (k := 3) (by decide) (by decide), h3, hcn, Option.bind_some]
    · simp (disch := omega) only [l_X3_next_124_s, b_X3_next_124, show ¬ (1 : Int32) = 0 by decide, if_false, in_I Z (k := 5) (by decide) (by decide), z5, in_I Z (k := 2) (by decide) (by decide), zo, h2, pn_lt, q1, Option.bind_some]
theorem c_next (W : wIn hp a I Bt) (b : inBy Bt β L) (h2 : I 2 = Int32.ofNat L) (h5 : I 5 = Int32.ofNat i) (hi : i ≤ L) : ∃ h I', f_X3_next a hp = some h ∧ wIn h a I' Bt ∧ inT I' β L i ∧ I' 1 = I 1 ∧ zfr hp h a 1 := by
  have b1 := b.1
  have hs := tS_in (β := β) hi
  obtain ⟨h0, e0, W0, f0⟩ := in_setF W (k := 4) (by decide) (by decide) (Int32.ofNat i)
  simp only [f_X3_next, in_is W, in_I W (k := 5) (by decide) (by decide), h5, e0, Option.bind_some]
  generalize hK : (fun h11 : zHp => (zgI h11 a 3 4).bind fun v12 => (zgI h11 a 3 2).bind fun v13 => if v12 < v13 then ((zgR h11 a 3 0).bind fun r33 => (zgI h11 a 3 4).bind fun v34 => (zaI h11 1 r33 v34).bind fun v35 => (f_X3_kindOf v35 h11).bind fun v36 => j_X3_next_75 a a v36 h11) else j_X3_next_75 a a 0 h11) = K
  obtain ⟨h1, ⟨I1, W1, z4, zo, f1⟩, e1⟩ := zFHw (l := l_X3_next_8 K a) (hp := h0) (k0 := i) (n := tS β L i) (m := 1000000) (k := K) hs.1 (fun j h => ∃ I', wIn h a I' Bt ∧ I' 4 = Int32.ofNat j ∧ (∀ k, k ≠ 4 → I' k = I k) ∧ zfr hp h a 1) (by omega) ⟨_, W0, by rw [zU, if_pos rfl], fun k hk => by rw [zU, if_neg hk], f0⟩ (fun j h hj1 hj2 ⟨I', Z, z4, zo, f⟩ => by
      obtain ⟨h', e', Z', f'⟩ := in_setF Z (k := 4) (by decide) (by decide) (Int32.ofNat (j + 1))
      refine ⟨h', ⟨_, Z', by rw [zU, if_pos rfl], fun k hk => by rw [zU, if_neg hk]; exact zo k hk, zfr_tr f f'⟩, fun m => ?_⟩
      have hjL : j < L := by omega
      obtain ⟨b2, b3⟩ := b.2 j hjL
      have hc : blk (β j) = true := eo_run hi hj1 hj2
      simp (disch := omega) only [l_X3_next_8_s, b_X3_next_8, in_I Z (k := 4) (by decide) (by decide), z4, in_I Z (k := 2) (by decide) (by decide), zo, h2, pn_lt, hjL, if_true, in_by Z, in_rd Z (show j < 900 by omega), b2, isBlank_n b3, hc, zb_t, show ¬ (1 : Int32) = 0 by decide, if_false, pn_succ, e', Option.bind_some]) (fun h ⟨I', Z, z4, zo, f⟩ m => by
      by_cases q1 : tS β L i < L
      · obtain ⟨b2, b3⟩ := b.2 _ q1
        have hc : blk (β (tS β L i)) = false := eo_end hi q1
        simp (disch := omega) only [l_X3_next_8_s, b_X3_next_8, in_I Z (k := 4) (by decide) (by decide), z4, in_I Z (k := 2) (by decide) (by decide), zo, h2, pn_lt, q1, if_true, in_by Z, in_rd Z (show tS β L i < 900 by omega), b2, isBlank_n b3, hc, zb_f, Option.bind_some]
      · simp (disch := omega) only [l_X3_next_8_s, b_X3_next_8, in_I Z (k := 4) (by decide) (by decide), z4, in_I Z (k := 2) (by decide) (by decide), zo, h2, pn_lt, q1, if_false, Option.bind_some])
  rw [e1, ← hK]
  obtain ⟨h3, e3, W3, f3⟩ := in_setF W1 (k := 3) (by decide) (by decide) (Int32.ofNat (tK β L i))
  have step : (fun h11 : zHp => (zgI h11 a 3 4).bind fun v12 => (zgI h11 a 3 2).bind fun v13 => if v12 < v13 then ((zgR h11 a 3 0).bind fun r33 => (zgI h11 a 3 4).bind fun v34 => (zaI h11 1 r33 v34).bind fun v35 => (f_X3_kindOf v35 h11).bind fun v36 => j_X3_next_75 a a v36 h11) else j_X3_next_75 a a 0 h11) h1 = j_X3_next_75 a a (Int32.ofNat (tK β L i)) h1 := by
    by_cases q1 : tS β L i < L
    · obtain ⟨b2, b3⟩ := b.2 _ q1
      have hk : tK β L i = cK (β (tS β L i)) := by unfold tK; rw [if_pos q1]
      simp (disch := omega) only [in_I W1 (k := 4) (by decide) (by decide), z4, in_I W1 (k := 2) (by decide) (by decide), zo, h2, pn_lt, q1, if_true, in_by W1, in_rd W1 (show tS β L i < 900 by omega), b2, kindOf_n b3, hk, Option.bind_some]
    · have hk : tK β L i = 0 := by unfold tK; rw [if_neg q1]
      simp (disch := omega) only [in_I W1 (k := 4) (by decide) (by decide), z4, in_I W1 (k := 2) (by decide) (by decide), zo, h2, pn_lt, q1, if_false, hk, Option.bind_some]
      rfl
  rw [step]
  have hk4 := tK_le β L i
  have i33 : zgI h3 a 3 3 = some (Int32.ofNat (tK β L i)) := by rw [in_I W3 (k := 3) (by decide) (by decide), zU, if_pos rfl]
  have i34 : zgI h3 a 3 4 = some (Int32.ofNat (tS β L i)) := by rw [in_I W3 (k := 4) (by decide) (by decide), zU, if_neg (by decide), z4]
  have fin : ∀ (hq : zHp) (Iq : Nat → Int32), wIn hq a Iq Bt → Iq 5 = Int32.ofNat (tE β L i) → (∀ k, k ≠ 5 → Iq k = upd I1 3 (Int32.ofNat (tK β L i)) k) → zfr hp hq a 1 → ∃ h I', some hq = some h ∧ wIn h a I' Bt ∧ inT I' β L i ∧ I' 1 = I 1 ∧ zfr hp h a 1 := fun hq Iq Z z5 zz f => by
    refine ⟨hq, Iq, rfl, Z, ⟨?_, ?_, ?_, z5⟩, ?_, f⟩
    · rw [zz 2 (by decide), zU, if_neg (by decide), zo 2 (by decide), h2]
    · rw [zz 3 (by decide), zU, if_pos rfl]
    · rw [zz 4 (by decide), zU, if_neg (by decide), z4]
    · rw [zz 1 (by decide), zU, if_neg (by decide), zo 1 (by decide)]
  have f13 := zfr_tr f1 f3
  by_cases k0 : tK β L i = 0
  · obtain ⟨h5', e5, W5, f5⟩ := in_setF W3 (k := 5) (by decide) (by decide) (Int32.ofNat (tS β L i))
    have i53 : zgI h5' a 3 3 = some 0 := by rw [in_I W5 (k := 3) (by decide) (by decide), zU, if_neg (by decide), zU, if_pos rfl, k0]; rfl
    have run : j_X3_next_75 a a (Int32.ofNat (tK β L i)) h1 = some h5' := by
      simp only [j_X3_next_75, e3, i33, show (Int32.ofNat (tK β L i) = 0) = True from by rw [k0]; exact eq_true rfl, if_true, i34, j_X3_next_99, e5, i53, show ¬ (0 : Int32) = 1 by decide, show ¬ (0 : Int32) = 2 by decide, if_false, Option.bind_some]
      rw [l_X3_next_124_s (n := 999999)]
      simp only [b_X3_next_124, if_true]
    rw [run]
    have hE : tE β L i = tS β L i := by unfold tE; rw [if_pos k0]
    exact fin h5' _ W5 (by rw [zU, if_pos rfl, hE]) (fun k hk => by rw [zU, if_neg hk]) (zfr_tr f13 f5)
  · obtain ⟨hl, hk⟩ := tK_ne k0
    obtain ⟨h5', e5, W5, f5⟩ := in_setF W3 (k := 5) (by decide) (by decide) (Int32.ofNat (tS β L i + 1))
    have i53 : zgI h5' a 3 3 = some (Int32.ofNat (tK β L i)) := by rw [in_I W5 (k := 3) (by decide) (by decide), zU, if_neg (by decide), zU, if_pos rfl]
    have i52 : upd (upd I1 3 (Int32.ofNat (tK β L i))) 5 (Int32.ofNat (tS β L i + 1)) 2 = Int32.ofNat L := by rw [zU, if_neg (by decide), zU, if_neg (by decide), zo 2 (by decide), h2]
    have n0 : (Int32.ofNat (tK β L i) = 0) = False := by rw [pn_eq0 (by omega)]; exact eq_false k0
    have n1 : (Int32.ofNat (tK β L i) = 1) = (tK β L i = 1) := pn_inj (n := 1) (by omega) (by decide)
    have n2 : (Int32.ofNat (tK β L i) = 2) = (tK β L i = 2) := pn_inj (n := 2) (by omega) (by decide)
    have run : j_X3_next_75 a a (Int32.ofNat (tK β L i)) h1 = if tK β L i = 1 then l_X3_next_124 (fun h28 => some h28) a 1 1000000 h5' else if tK β L i = 2 then l_X3_next_124 (fun h31 => some h31) a 1 1000000 h5' else l_X3_next_124 (fun h30 => some h30) a 0 1000000 h5' := by
      simp only [j_X3_next_75, e3, i33, n0, if_false, i34, j_X3_next_99, pn_succ, e5, i53, n1, n2, Option.bind_some]
    rw [run]
    by_cases k1 : tK β L i = 1
    · rw [if_pos k1]
      obtain ⟨h6, ⟨I6, W6, z6, zo6, f6⟩, e6⟩ := c_run W5 b i52 (q := sml) (k := 1) (j0 := tS β L i + 1) (Or.inl rfl) (fun n hn => ⟨sml_of, fun q => by unfold cK; rw [if_pos q]⟩) (by rw [zU, if_neg (by decide), zU, if_pos rfl, k1]) (by rw [zU, if_pos rfl]) (by omega) (fun h28 => some h28)
      rw [e6]
      have hE : tE β L i = eo sml β L (tS β L i + 1) := by unfold tE; rw [if_neg k0, if_pos k1]
      exact fin h6 I6 W6 (by rw [hE]; exact z6) (fun k hk => by rw [zo6 k hk, zU, if_neg hk]) (zfr_tr (zfr_tr f13 f5) f6)
    · rw [if_neg k1]
      by_cases k2 : tK β L i = 2
      · rw [if_pos k2]
        obtain ⟨h6, ⟨I6, W6, z6, zo6, f6⟩, e6⟩ := c_run W5 b i52 (q := dig) (k := 2) (j0 := tS β L i + 1) (Or.inr rfl) (fun n hn => ⟨fun q => (dig_of q).1, fun q => by
          have : ∀ n, n < 256 → dig n = true → cK n = 2 := by decide +kernel
          exact this n hn q⟩) (by rw [zU, if_neg (by decide), zU, if_pos rfl, k2]) (by rw [zU, if_pos rfl]) (by omega) (fun h31 => some h31)
        rw [e6]
        have hE : tE β L i = eo dig β L (tS β L i + 1) := by unfold tE; rw [if_neg k0, if_neg k1, if_pos k2]
        exact fin h6 I6 W6 (by rw [hE]; exact z6) (fun k hk => by rw [zo6 k hk, zU, if_neg hk]) (zfr_tr (zfr_tr f13 f5) f6)
      · rw [if_neg k2]
        have run2 : l_X3_next_124 (fun h30 => some h30) a 0 1000000 h5' = some h5' := by
          rw [l_X3_next_124_s (n := 999999)]
          simp only [b_X3_next_124, if_true]
        rw [run2]
        have hE : tE β L i = tS β L i + 1 := by unfold tE; rw [if_neg k0, if_neg k1, if_neg k2]
        exact fin h5' _ W5 (by rw [zU, if_pos rfl, hE]) (fun k hk => by rw [zU, if_neg hk]) (zfr_tr f13 f5)
end P49

