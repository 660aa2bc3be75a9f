/-! PURE: the history: keep and giveBack; the class's world -/
section P41
variable {hp h hp' : zHp} {x a a' q b u c p : Nat} {ea : Int32} {S B B' : Nat → Nat → Int32} {F T N N' : Nat → Int32} {G G' : Nat → Nat → Nat → Int32} {σ : Nat → Nat} {Ps : Nat → Nat → Int32}
theorem rS_congr (I : sI T N) (e : gEq G G') (r : rS T N G) : rS T N G' := by
  have hd := sI_bd I
  obtain ⟨e1, e2, e3, e4, e5, e6⟩ := e
  obtain ⟨r1, r2, r3, r4, r5⟩ := r
  refine ⟨fun i hi => by rw [e3 i hi, r1 i hi], by rw [e5, r2], by rw [e6, r3], fun k hk => by rw [e4 k (by have := (sI_d I).2; omega), r4 k hk], fun b hb => ?_⟩
  obtain ⟨⟨b1, b2, b3, b4, b5, b6⟩, b7, b8, b9⟩ := r5 b hb
  have hb12 : b < 12 := by omega
  have hc := sI_c I hb
  have he := sI_e I hb
  refine ⟨⟨by rw [e1 b 0 hb12 (by decide), b1], by rw [e1 b 1 hb12 (by decide), b2], by rw [e1 b 2 hb12 (by decide), b3], by rw [e1 b 3 hb12 (by decide), b4], by rw [e1 b 4 hb12 (by decide), b5], by rw [e1 b 5 hb12 (by decide), b6]⟩, fun e h => ?_, fun c h => ?_, fun c p h h' => ?_⟩
  · rw [e2 b 1 e hb12 (by decide) (by decide) (by show e < 12; omega), b7 e h]
  · rw [e2 b 2 c hb12 (by decide) (by decide) (by show c < 4; omega), b8 c h]
  · rw [e2 b 3 (6 * c + p) hb12 (by decide) (by decide) (by show 6 * c + p < 24; omega), b9 c p h h']
theorem ss_fr (X : wSS hp q T N) (f : ∀ i, q ≤ i → i < q + 52 → h i = hp i) : wSS h q T N := let ⟨G, g, r⟩ := X; ⟨G, st_fr g f, r⟩
theorem ss_copy {q' : Nat} (X : wSt hp q G) (X' : wSS hp q' T N) (I : sI T N) (hd : q + 52 ≤ q' ∨ q' + 52 ≤ q) : ∃ h, f_X6_copyFrom q q' hp = some h ∧ wSS h q T N ∧ zfr hp h q 52 := by
  obtain ⟨G', g, r⟩ := X'
  obtain ⟨h, G'', e, X'', ge, f⟩ := st_copy X g hd
  exact ⟨h, e, ⟨G'', X'', rS_congr I ge r⟩, f⟩
/-- the history at a: its states at a + 2 + 52 i, in the order σ -/
def wHi (hp : zHp) (a : Nat) (σ : Nat → Nat) (u : Nat) : Prop :=
  hp a = some (.inr (2, [.ref (a + 1), .int (Int32.ofNat u)])) ∧ (∃ f : Nat → Option Nat, hp (a + 1) = some (.inl (4, 10, .inr (.inr (.inr (.inr f))))) ∧ ∀ i, i < 10 → f i = some (a + 2 + 52 * σ i)) ∧
  (∀ i, i < 10 → σ i < 10) ∧ (∀ i j, i < 10 → j < 10 → σ i = σ j → i = j) ∧ ∀ i, i < 10 → ∃ G, wSt hp (a + 2 + 52 * i) G
theorem hi_fr (X : wHi hp a σ u) (f : ∀ i, a ≤ i → i < a + 522 → h i = hp i) : wHi h a σ u := by
  obtain ⟨h1, ⟨g, h2, h3⟩, h4, h5, h6⟩ := X
  refine ⟨?_, ⟨g, ?_, h3⟩, h4, h5, fun i hi => ?_⟩
  · rw [f a (by omega) (by omega)]; exact h1
  · rw [f (a + 1) (by omega) (by omega)]; exact h2
  · obtain ⟨G, g⟩ := h6 i hi
    exact ⟨G, st_fr g (fun k k1 k2 => f k (by omega) (by omega))⟩
theorem hi_is (X : wHi hp a σ u) : zis hp a 2 = some () := po_is X.1
theorem hi_ar (X : wHi hp a σ u) : zgR hp a 2 0 = some (a + 1) := po_R X.1 rfl
theorem hi_u (X : wHi hp a σ u) : zgI hp a 2 1 = some (Int32.ofNat u) := po_I X.1 rfl
theorem hi_at (X : wHi hp a σ u) {i : Nat} (hi : i < 10) : zaR hp 4 (a + 1) (Int32.ofNat i) = some (a + 2 + 52 * σ i) := by
  obtain ⟨f, h1, h2⟩ := X.2.1
  exact pa_rdR h1 hi (by decide) (h2 i hi)
theorem hi_setU (X : wHi hp a σ u) (u' : Nat) : ∃ h, zpV hp a 2 1 (.int (Int32.ofNat u')) = some h ∧ wHi h a σ u' ∧ zfr hp h a 1 := by
  obtain ⟨h1, ⟨g, h2, h3⟩, h4, h5, h6⟩ := X
  refine ⟨_, po_V h1 (show 1 < 2 by decide) _, ⟨?_, ⟨g, ?_, h3⟩, h4, h5, fun i hi => ?_⟩, zfr_up (by omega) (by omega)⟩
  · rw [zup_eq]; rfl
  · rw [zup_ne (by omega)]; exact h2
  · obtain ⟨G, g⟩ := h6 i hi
    exact ⟨G, st_fr g (fun k k1 k2 => zup_ne (by omega))⟩
/-- a loop over a heap, from k on -/
theorem zFHk {R : Type} {l : Nat → Int32 → zHp → Option R} {n m k0 : Nat} (hk : k0 ≤ n) (J : Nat → zHp → Prop) (hm : n < m) (h0 : J k0 hp)
    (hs : ∀ i h, k0 ≤ i → i < n → J i h → ∃ h', J (i + 1) h' ∧ ∀ m, l (m + 1) (Int32.ofNat i) h = l m (Int32.ofNat (i + 1)) h') {k : zHp → Option R} (he : ∀ h, J n h → ∀ m, l (m + 1) (Int32.ofNat n) h = k h) : ∃ h, J n h ∧ l m (Int32.ofNat k0) hp = k h := by
  have H : ∀ d i m hp, i + d = n → k0 ≤ i → d < m → J i hp → ∃ h, J n h ∧ l m (Int32.ofNat i) hp = k h := by
    intro d
    induction d with
    | zero =>
      intro i m hp hi hki hm hJ
      obtain ⟨m, rfl⟩ : ∃ q, m = q + 1 := ⟨m - 1, by omega⟩
      have e : i = n := by omega
      subst e
      exact ⟨hp, hJ, he hp hJ m⟩
    | succ d ih =>
      intro i m hp hi hki hm hJ
      obtain ⟨m, rfl⟩ : ∃ q, m = q + 1 := ⟨m - 1, by omega⟩
      obtain ⟨h', J', e⟩ := hs i hp hki (by omega) hJ
      rw [e m]
      exact ih (i + 1) m h' (by omega) (by omega) (by omega) J'
  exact H (n - k0) k0 m hp (by omega) (Nat.le_refl _) (by omega) h0
/-- the array of states with one reference replaced -/
theorem hi_sR {f : Nat → Option Nat} {v : Nat} {fs : List Value} (h1 : hp (a + 1) = some (.inl (4, 10, .inr (.inr (.inr (.inr f)))))) (hv : hp v = some (.inr (6, fs))) {i : Nat} (hi : i < 10) : zsR hp 4 6 (a + 1) (Int32.ofNat i) v = some (zup hp (a + 1) (.inl (4, 10, .inr (.inr (.inr (.inr (va_up f i (some v)))))))) := by
  unfold zsR
  rw [h1, hv]
  dsimp only
  rw [pn_nat (by omega), if_pos ⟨rfl, rfl, fun q => q.elim (fun q => pn_neg (by omega) q) (fun q => by omega)⟩]
def sRot (σ : Nat → Nat) : Nat → Nat := fun i => if i = 9 then σ 0 else σ (i + 1)
theorem hi_forget (X : wHi hp a σ 10) : ∃ h, f_X2_forgetOldest a hp = some h ∧ wHi h a (sRot σ) 9 ∧ zfr hp h a 2 := by
  obtain ⟨h1, ⟨g, h2, h3⟩, h4, h5, h6⟩ := X
  have hst : ∀ i, i < 10 → ∀ h : zHp, zfr hp h (a + 1) 1 → ∃ fs, h (a + 2 + 52 * σ i) = some (.inr (6, fs)) := fun i hi h f => by
    obtain ⟨G, g⟩ := h6 (σ i) (h4 i hi)
    exact ⟨_, (f _ (by omega)).trans g.1⟩
  have X : wHi hp a σ 10 := ⟨h1, ⟨g, h2, h3⟩, h4, h5, h6⟩
  simp only [f_X2_forgetOldest, hi_is X, hi_ar X, show zaR hp 4 (a + 1) 0 = some (a + 2 + 52 * σ 0) from hi_at X (i := 0) (by decide), Option.bind_some]
  generalize hK : (fun h8 : zHp => (zgR h8 a 2 0).bind fun r9 => (zsR h8 4 6 r9 9 (a + 2 + 52 * σ 0)).bind fun h10 => (zgI h10 a 2 1).bind fun v11 => (zpV h10 a 2 1 (.int (v11 - 1))).bind fun h12 => some h12) = K
  obtain ⟨hb, ⟨fb, b1, b2, b3⟩, e⟩ := zFHk (l := l_X2_forgetOldest_9 K a (a + 2 + 52 * σ 0)) (hp := hp) (n := 10) (m := 1000000) (k0 := 1) (k := K) (by decide) (fun i h => ∃ f : Nat → Option Nat, h (a + 1) = some (.inl (4, 10, .inr (.inr (.inr (.inr f))))) ∧ (∀ j, j < 10 → f j = if j + 1 < i then some (a + 2 + 52 * σ (j + 1)) else some (a + 2 + 52 * σ j)) ∧ zfr hp h (a + 1) 1) (by decide) ⟨g, h2, fun j hj => by rw [if_neg (by omega)]; exact h3 j hj, zfr_rf⟩ (fun i h hi1 hi ⟨f, c1, c2, c3⟩ => by
      obtain ⟨fs, hfs⟩ := hst i hi h c3
      refine ⟨_, ⟨_, zup_eq _ _ _, fun j hj => ?_, zfr_tr c3 (zfr_up (a := a + 1) (o := .inl (4, 10, .inr (.inr (.inr (.inr (va_up f (i - 1) (some (a + 2 + 52 * σ i)))))))) (by omega) (by omega))⟩, fun m => ?_⟩
      · unfold va_up
        by_cases e : j = i - 1
        · rw [if_pos e, if_pos (by omega), show j + 1 = i by omega]
        · rw [if_neg e, c2 j hj]
          by_cases e2 : j + 1 < i
          · rw [if_pos e2, if_pos (by omega)]
          · rw [if_neg e2, if_neg (by omega)]
      · have e10 : Int32.ofNat i < 10 := by
          rw [show (10 : Int32) = Int32.ofNat 10 from rfl, pn_lt (by omega) (by decide)]
          exact hi
        have r0 : zgR h a 2 0 = some (a + 1) := by
          refine po_R (fs := [.ref (a + 1), .int (Int32.ofNat 10)]) ?_ rfl
          rw [c3 a (by omega)]; exact h1
        have r1 : zaR h 4 (a + 1) (Int32.ofNat i) = some (a + 2 + 52 * σ i) := pa_rdR c1 hi (by decide) (by rw [c2 i hi, if_neg (by omega)])
        obtain ⟨j, rfl⟩ : ∃ j, i = j + 1 := ⟨i - 1, by omega⟩
        simp only [l_X2_forgetOldest_9_s, b_X2_forgetOldest_9, e10, if_true, r0, r1, is1, hi_sR c1 hfs (i := j) (by omega), Option.bind_some, zlet, pn_succ, Nat.add_sub_cancel]) (fun h _ m => by
      simp only [l_X2_forgetOldest_9_s, b_X2_forgetOldest_9, show ¬ Int32.ofNat 10 < 10 by decide, if_false])
  rw [show (1 : Int32) = Int32.ofNat 1 from rfl, e, ← hK]
  obtain ⟨fs, hfs⟩ := hst 0 (by decide) hb b3
  have e0 : hb a = some (.inr (2, [.ref (a + 1), .int (Int32.ofNat 10)])) := by rw [b3 a (by omega)]; exact h1
  have e1 := hi_sR b1 hfs (i := 9) (by decide)
  generalize hh : zup hb (a + 1) (.inl (4, 10, .inr (.inr (.inr (.inr (va_up fb 9 (some (a + 2 + 52 * σ 0)))))))) = hc at e1
  have f2 : zfr hp hc (a + 1) 1 := zfr_tr b3 (by rw [← hh]; exact zfr_up (by omega) (by omega))
  have e2 : hc a = some (.inr (2, [.ref (a + 1), .int (Int32.ofNat 10)])) := by rw [f2 a (by omega)]; exact h1
  refine ⟨zup hc a (.inr (2, [.ref (a + 1), .int (Int32.ofNat 9)])), ?_, ⟨zup_eq _ _ _, ⟨va_up fb 9 (some (a + 2 + 52 * σ 0)), ?_, fun i hi => ?_⟩, fun i hi => ?_, fun i j hi hj e => ?_, fun i hi => ?_⟩, ?_⟩
  · simp only [show zgR hb a 2 0 = some (a + 1) from po_R e0 rfl, show zsR hb 4 6 (a + 1) 9 (a + 2 + 52 * σ 0) = some hc from e1, show zgI hc a 2 1 = some (Int32.ofNat 10) from po_I e2 rfl, po_V e2 (show 1 < 2 by decide), Option.bind_some]
    rfl
  · rw [zup_ne (by omega), ← hh]; exact zup_eq _ _ _
  · unfold va_up sRot
    by_cases e : i = 9
    · rw [if_pos e, if_pos e]
    · rw [if_neg e, if_neg e, b2 i hi, if_pos (by omega)]
  · unfold sRot
    by_cases e : i = 9
    · rw [if_pos e]; exact h4 0 (by decide)
    · rw [if_neg e]; exact h4 (i + 1) (by omega)
  · unfold sRot at e
    by_cases e1 : i = 9
    · by_cases e2 : j = 9
      · omega
      · rw [if_pos e1, if_neg e2] at e
        have := h5 0 (j + 1) (by decide) (by omega) e
        omega
    · by_cases e2 : j = 9
      · rw [if_neg e1, if_pos e2] at e
        have := h5 (i + 1) 0 (by omega) (by decide) e
        omega
      · rw [if_neg e1, if_neg e2] at e
        have := h5 (i + 1) (j + 1) (by omega) (by omega) e
        omega
  · obtain ⟨G, g⟩ := h6 i hi
    exact ⟨G, st_fr g (fun k k1 k2 => by rw [zup_ne (by omega), f2 k (by omega)])⟩
  · exact zfr_tr (zfr_wide f2 (by omega) (by omega)) (zfr_up (by omega) (by omega))
def uK (u : Nat) : Nat := if u = 10 then 10 else u + 1
/-- the rows kept, after one more -/
def hKeep (u : Nat) (N : Nat → Int32) (Ps : Nat → Nat → Int32) : Nat → Nat → Int32 := fun i => if i = uK u - 1 then N else if u = 10 then Ps (i + 1) else Ps i
theorem hi_put (X : wHi hp a σ u) (hu : u < 10) (Y : wSS hp q T N) (I : sI T N) (hq : q + 52 ≤ a ∨ a + 522 ≤ q) (Z : ∀ i, i < u → wSS hp (a + 2 + 52 * σ i) T (Ps i)) : ∃ h, j_X2_keep_13 a q hp = some h ∧ wHi h a σ (u + 1) ∧ zfr hp h a 522 ∧ wSS h (a + 2 + 52 * σ u) T N ∧ ∀ i, i < u → wSS h (a + 2 + 52 * σ i) T (Ps i) := by
  have hs := X.2.2.1
  have hj := X.2.2.2.1
  obtain ⟨G, g⟩ := X.2.2.2.2 (σ u) (hs u hu)
  have hsu := hs u hu
  obtain ⟨h1, e1, Y1, f1⟩ := ss_copy g Y I (by omega)
  have X1 : wHi h1 a σ u := by
    obtain ⟨x1, ⟨gg, x2, x3⟩, x4, x5, x6⟩ := X
    refine ⟨by rw [f1 a (by omega)]; exact x1, ⟨gg, by rw [f1 (a + 1) (by omega)]; exact x2, x3⟩, x4, x5, fun i hi => ?_⟩
    by_cases e : i = σ u
    · subst e
      obtain ⟨G', g', -⟩ := Y1
      exact ⟨G', g'⟩
    · obtain ⟨G', g'⟩ := x6 i hi
      exact ⟨G', st_fr g' (fun k k1 k2 => f1 k (by omega))⟩
  obtain ⟨h2, e2, X2, f2⟩ := hi_setU X1 (u + 1)
  refine ⟨h2, ?_, X2, zfr_tr (zfr_wide f1 (by omega) (by omega)) (zfr_wide f2 (by omega) (by omega)), ss_fr Y1 (fun k k1 k2 => f2 k (by omega)), fun i hi => ?_⟩
  · simp only [j_X2_keep_13, hi_ar X, hi_u X, hi_at X hu, e1, hi_u X1, pn_succ, e2, Option.bind_some]
  · have hsi := hs i (by omega)
    have hne : σ i ≠ σ u := fun e => by have := hj i u (by omega) hu e; omega
    exact ss_fr (Z i hi) (fun k k1 k2 => by rw [f2 k (by omega), f1 k (by omega)])
theorem hi_keep (X : wHi hp a σ u) (hu : u ≤ 10) (Y : wSS hp q T N) (I : sI T N) (hq : q + 52 ≤ a ∨ a + 522 ≤ q) (Z : ∀ i, i < u → wSS hp (a + 2 + 52 * σ i) T (Ps i)) : ∃ h σ', f_X2_keep a q hp = some h ∧ wHi h a σ' (uK u) ∧ zfr hp h a 522 ∧ ∀ i, i < uK u → wSS h (a + 2 + 52 * σ' i) T (hKeep u N Ps i) := by
  by_cases e : u = 10
  · subst e
    have hs := X.2.2.1
    obtain ⟨h1, e1, X1, f1⟩ := hi_forget X
    obtain ⟨h2, e2, X2, f2, Y2, Z2⟩ := hi_put (q := q) (T := T) (N := N) (Ps := fun i => Ps (i + 1)) X1 (by decide) (ss_fr Y (fun k k1 k2 => f1 k (by omega))) I hq (fun i hi => by
      have h9 : sRot σ i = σ (i + 1) := by unfold sRot; rw [if_neg (by omega)]
      rw [h9]
      exact ss_fr (Z (i + 1) (by omega)) (fun k k1 k2 => f1 k (by omega)))
    refine ⟨h2, sRot σ, ?_, X2, zfr_tr (zfr_wide f1 (by omega) (by omega)) f2, fun i hi => ?_⟩
    · simp only [f_X2_keep, hi_is X, hi_u X, Option.bind_some, show Int32.ofNat 10 = 10 from rfl, if_true, e1, e2]
    · have hi' : i < 10 := hi
      unfold hKeep uK
      by_cases c : i = 9
      · subst c
        exact Y2
      · rw [if_pos rfl, if_neg c, if_pos rfl]
        exact Z2 i (by omega)
  · obtain ⟨h2, e2, X2, f2, Y2, Z2⟩ := hi_put X (by omega) Y I hq Z
    have hk : uK u = u + 1 := by unfold uK; rw [if_neg e]
    refine ⟨h2, σ, ?_, by rw [hk]; exact X2, f2, fun i hi => ?_⟩
    · have e10 : ¬ Int32.ofNat u = 10 := by
        rw [show (10 : Int32) = Int32.ofNat 10 from rfl, pn_inj (by omega) (by decide)]
        exact e
      simp only [f_X2_keep, hi_is X, hi_u X, Option.bind_some, e10, if_false, e2]
    · unfold hKeep
      rw [hk] at hi ⊢
      by_cases c : i = u
      · subst c
        rw [if_pos (by omega)]
        exact Y2
      · rw [if_neg (by omega), if_neg e]
        exact Z2 i (by omega)
/-! the class's world -/
def wW (hp : zHp) (c p : Nat) (ea : Int32) (T N : Nat → Int32) (σ : Nat → Nat) (u : Nat) (Ps : Nat → Nat → Int32) : Prop :=
  wK hp c (c + 1) (c + 32) (c + 113) (c + 635) p (c + 61) ea T N ∧ (p = c + 4 ∨ p = c + 33) ∧ u ≤ 10 ∧ wHi hp (c + 113) σ u ∧ ∀ i, i < u → sI T (Ps i) ∧ wSS hp (c + 113 + 2 + 52 * σ i) T (Ps i)
theorem pl_fr (X : wPl hp p T) (f : ∀ i, p ≤ i → i < p + 28 → h i = hp i) : wPl h p T := by
  obtain ⟨R, ⟨h1, ⟨g2, h2, h3⟩, ⟨g4, h4, h5⟩, h6⟩, r⟩ := X
  refine ⟨R, ⟨?_, ⟨g2, ?_, h3⟩, ⟨g4, ?_, h5⟩, fun j hj => ?_⟩, r⟩
  · rw [f p (by omega) (by omega)]; exact h1
  · rw [f (p + 2) (by omega) (by omega)]; exact h2
  · rw [f (p + 13) (by omega) (by omega)]; exact h4
  · rw [f (p + j) (by omega) (by unfold pCell at hj; omega)]; exact h6 j hj
/-- a new state in the hall, the rest as it was -/
theorem wK_st (K : wK hp c (c + 1) (c + 32) (c + 113) (c + 635) p (c + 61) ea T N) (hpp : p = c + 4 ∨ p = c + 33) (f : ∀ i, i < c + 61 → h i = hp i) (X : wSS h (c + 61) T N') (I : sI T N') : wK h c (c + 1) (c + 32) (c + 113) (c + 635) p (c + 61) ea T N' :=
  ⟨by rw [f c (by omega)]; exact K.1, by rw [f (c + 32) (by omega)]; exact K.2.1, pl_fr K.2.2.1 (fun i h1 h2 => f i (by omega)), X, I⟩
/-- keep, then a change of the hall's state alone -/
theorem wW_keep (W : wW hp c p ea T N σ u Ps) : ∃ h σ', f_X2_keep (c + 113) (c + 61) hp = some h ∧ zfr hp h (c + 113) 522 ∧ wW h c p ea T N σ' (uK u) (hKeep u N Ps) := by
  obtain ⟨K, hpp, hu, X, Z⟩ := W
  obtain ⟨h1, σ', e1, X1, f1, Z1⟩ := hi_keep X hu K.2.2.2.1 (hh_I K.2) (by omega) (fun i hi => (Z i hi).2)
  refine ⟨h1, σ', e1, f1, wK_st K hpp (fun i hi => f1 i (by omega)) (ss_fr K.2.2.2.1 (fun i i1 i2 => f1 i (by omega))) (hh_I K.2), hpp, by unfold uK; split <;> omega, X1, fun i hi => ⟨?_, Z1 i hi⟩⟩
  unfold hKeep
  by_cases c : i = uK u - 1
  · rw [if_pos c]; exact hh_I K.2
  · rw [if_neg c]
    unfold uK at hi c
    by_cases e : u = 10
    · rw [if_pos e] at hi c ⊢; exact (Z (i + 1) (by omega)).1
    · rw [if_neg e] at hi c ⊢; exact (Z i (by omega)).1
theorem wW_set (W : wW hp c p ea T N σ u Ps) (f : zfr hp h (c + 61) 52) (X : wSS h (c + 61) T N') (I : sI T N') : wW h c p ea T N' σ u Ps := by
  obtain ⟨K, hpp, hu, X1, Z⟩ := W
  refine ⟨wK_st K hpp (fun i hi => f i (by omega)) X I, hpp, hu, hi_fr X1 (fun i i1 i2 => f i (by omega)), fun i hi => ⟨(Z i hi).1, ss_fr (Z i hi).2 (fun k k1 k2 => f k (by omega))⟩⟩
end P41

