/-! PURE: what holds between two calls as one world, and each kind of call over it -/
section P89
variable {hp h hp' : zHp} {c s n sz z p u fl cap : Nat} {ro : Nat → Nat} {xs : Nat → Int32} {ea v : Int32} {T N F : Nat → Int32} {S : Nat → Nat → Int32} {σ β : Nat → Nat} {Ps : Nat → Nat → Int32} {l : List Nat} {g : Nat → Int64}
/-- the class at c, the reference at c + 637, the law's array at c + 645, its script at s -/
def JW (hp : zHp) (c s n : Nat) (xs : Nat → Int32) (ro : Nat → Nat) (sz : Nat) : Prop :=
  (∃ (p : Nat) (ea : Int32) (T N : Nat → Int32) (σ : Nat → Nat) (u : Nat) (Ps : Nat → Nat → Int32) (β : Nat → Nat) (fl cap : Nat) (l : List Nat) (F : Nat → Int32) (S : Nat → Nat → Int32), JC hp c ro sz p ea T N σ u Ps β fl cap l ∧ JR hp c ea T N u Ps β fl l F S) ∧ (∃ g : Nat → Int64, hp (c + 645) = some (.inl (2, 1, .inr (.inl g)))) ∧ hp s = some (.inl (10, n, .inl xs)) ∧ s < c
theorem sbC_sz {B0 a : Nat} (X : sbC B0 hp a sz cap l) (hz : sz ≤ z) : sbC B0 hp a z cap l := by
  obtain ⟨bs, x1, x2, x3, x4, x5, x6, x7⟩ := X
  exact ⟨bs, x1, by omega, x3, x4, x5, by omega, x7⟩
theorem JC_sz (J : JC hp c ro sz p ea T N σ u Ps β fl cap l) (hz : sz ≤ z) : JC hp c ro z p ea T N σ u Ps β fl cap l := by
  obtain ⟨j1, j2, j3, j6, j7⟩ := J
  exact ⟨j1, j2, j3, sbC_sz j6 hz, j7⟩
theorem JW_sz (J : JW hp c s n xs ro sz) (hz : sz ≤ z) : JW hp c s n xs ro z := by
  obtain ⟨⟨p, ea, T, N, σ, u, Ps, β, fl, cap, l, F, S, a, b⟩, r⟩ := J
  exact ⟨⟨p, ea, T, N, σ, u, Ps, β, fl, cap, l, F, S, JC_sz a hz, b⟩, r⟩
theorem W_th (a : JC hp c ro sz p ea T N σ u Ps β fl cap l) (b : JR hp c ea T N u Ps β fl l F S) (hg : hp (c + 645) = some (.inl (2, 1, .inr (.inl g)))) (hs : hp s = some (.inl (10, n, .inl xs))) (hsc : s < c) (v : Int32) : JW (zth hp (c + 637) F v) c s n xs ro sz :=
  ⟨⟨p, ea, T, N, σ, u, Ps, β, fl, cap, l, _, S, JC_th a F v, JR_th b v⟩, ⟨g, by rw [show zth hp (c + 637) F v (c + 645) = hp (c + 645) from zup_ne (by omega)]; exact hg⟩, by rw [show zth hp (c + 637) F v s = hp s from zup_ne (by omega)]; exact hs, hsc⟩
/-- the law's array written -/
theorem W_out (a : JC hp c ro sz p ea T N σ u Ps β fl cap l) (b : JR hp c ea T N u Ps β fl l F S) (o : zOb) : JC (zup hp (c + 645) o) c ro sz p ea T N σ u Ps β fl cap l ∧ JR (zup hp (c + 645) o) c ea T N u Ps β fl l F S :=
  ⟨JC_fr a (fun i hi => zup_ne (by omega)), JR_fr b (fun i h1 h2 => zup_ne (by omega))⟩
theorem W_PP {fc : zHp → Option Int32} {fr : zHp → Option (Int32 × zHp)} (J : JW hp c s n xs ro sz) (M : ∀ (p : Nat) (ea : Int32) (S : Nat → Nat → Int32), wK hp c (c + 1) (c + 32) (c + 113) (c + 635) p (c + 61) ea (S 2) (S 4) → zPP fc fr hp (c + 637) S) : ∃ v h2, fc hp = some v ∧ fr hp = some (v, h2) ∧ JW h2 c s n xs ro sz := by
  obtain ⟨⟨p, ea, T, N, σ, u, Ps, β, fl, cap, l, F, S, a, b⟩, ⟨g, hg⟩, hs, hsc⟩ := J
  obtain ⟨e2, e4⟩ := b.2.2.1
  subst e2
  subst e4
  obtain ⟨v, m1, m2⟩ := M p ea S a.1.1
  exact ⟨v, _, m1, m2 hp F b.1, W_th a b hg hs hsc 0⟩
theorem W_PR {fc : zHp → Option (Option Int32)} {fr : zHp → Option (Int32 × zHp)} (g0 : Int32 → Int64) (J : JW hp c s n xs ro sz) (M : ∀ (p : Nat) (ea : Int32) (S : Nat → Nat → Int32), wK hp c (c + 1) (c + 32) (c + 113) (c + 635) p (c + 61) ea (S 2) (S 4) → zPR fc fr hp (c + 637) S) :
    ∃ (t : Option Int32) (kk b : Int32) (h1 h' h2 : zHp), fc hp = some t ∧ (∀ v, t = some v → zsL hp (c + 645) 0 (g0 v) = some h1) ∧ (∀ v h z, zRw t hp h1 sz v h z → sz ≤ z ∧ v = kk ∧ h = h') ∧ h' s = hp s ∧ fr h' = some (b, h2) ∧ f_X8_thrown (c + 637) h2 = some kk ∧ (kk = 1 ∨ (kk = 0 ∧ zaL h2 2 (c + 645) 0 = some (g0 b))) ∧ ∀ z, sz ≤ z → JW h2 c s n xs ro z := by
  obtain ⟨⟨p, ea, T, N, σ, u, Ps, β, fl, cap, l, F, S, a, b⟩, ⟨g, hg⟩, hs, hsc⟩ := J
  obtain ⟨e2, e4⟩ := b.2.2.1
  subst e2
  subst e4
  rcases M p ea S a.1.1 with ⟨m1, y, m2⟩ | ⟨v, m1, m2⟩
  · exact ⟨none, 1, y, hp, hp, _, m1, fun v e => (by cases e), fun v h z hz => ⟨hz.1, hz.2.1, hz.2.2⟩, rfl, m2 hp F b.1, q_thr' b.1 1, Or.inl rfl, fun z hz => JW_sz (W_th a b hg hs hsc 1) hz⟩
  · obtain ⟨hq, eq1⟩ : ∃ hq, hq = zup hp (c + 645) (.inl (2, 1, .inr (.inl (vp_updL g 0 (g0 v))))) := ⟨_, rfl⟩
    have hne : ∀ i, i ≠ c + 645 → hq i = hp i := fun i hi => by rw [eq1]; exact zup_ne hi
    have hg' : hq (c + 645) = some (.inl (2, 1, .inr (.inl (vp_updL g 0 (g0 v))))) := by rw [eq1]; exact zup_eq _ _ _
    have hs' : hq s = some (.inl (10, n, .inl xs)) := by rw [hne s (by omega)]; exact hs
    have a' : JC hq c ro sz p ea (S 2) (S 4) σ u Ps β fl cap l := JC_fr a (fun i hi => hne i (by omega))
    have b' : JR hq c ea (S 2) (S 4) u Ps β fl l F S := JR_fr b (fun i i1 i2 => hne i (by omega))
    have hg2 : zth hq (c + 637) F 0 (c + 645) = some (.inl (2, 1, .inr (.inl (vp_updL g 0 (g0 v))))) := by
      rw [show zth hq (c + 637) F 0 (c + 645) = hq (c + 645) from zup_ne (by omega)]; exact hg'
    have J2 := W_th a' b' hg' hs' hsc 0
    refine ⟨some v, 0, v, hq, hq, zth hq (c + 637) F 0, m1, fun v' e => ?_, fun v' h z hz => ⟨hz.1, hz.2.1, hz.2.2⟩, by rw [hs', hs], m2 _ F b'.1, q_thr' b'.1 0, Or.inr ⟨rfl, ?_⟩, fun z hz => JW_sz J2 hz⟩
    · cases e
      rw [eq1]
      unfold zsL
      rw [hg]
      exact if_pos ⟨rfl, by decide⟩
    · unfold zaL
      rw [hg2]
      exact (if_pos ⟨rfl, by decide⟩).trans (congrArg some (if_pos rfl))
theorem W_PM {fc fr : zHp → Option (Int32 × zHp)} (J : JW hp c s n xs ro sz) (M : ∀ (p : Nat) (ea : Int32) (σ : Nat → Nat) (u : Nat) (F : Nat → Int32) (S : Nat → Nat → Int32), wW hp c p ea (S 2) (S 4) σ u (rowOf (S 6)) → F 8 = Int32.ofNat u → (∀ k, 538 ≤ k → S 4 k = 0) → zPM fc fr hp c p ea (c + 637) F S u) : ∃ v h1 h2, fc hp = some (v, h1) ∧ fr h1 = some (v, h2) ∧ h1 s = hp s ∧ JW h2 c s n xs ro sz := by
  obtain ⟨⟨p, ea, T, N, σ, u, Ps, β, fl, cap, l, F, S, a, b⟩, ⟨g, hg⟩, hs, hsc⟩ := J
  obtain ⟨e2, e4⟩ := b.2.2.1
  subst e2
  subst e4
  have W := wW_Ps a.1 b.2.2.2.2.2.1
  obtain ⟨r, h1, h2, m1, m2, f, N', σ', u', Ps', F', S', a2, b2⟩ := J_PM a b (M p ea σ u F S W b.2.1.2.1 b.2.2.2.2.2.2.2)
  exact ⟨r, h1, h2, m1, m2, (f s (by omega)).1, ⟨p, ea, _, N', σ', u', Ps', β, fl, cap, l, F', S', a2, b2⟩, ⟨g, by rw [(f (c + 645) (by omega)).2]; exact hg⟩, by rw [(f s (by omega)).2]; exact hs, hsc⟩
theorem W_undo (J : JW hp c s n xs ro sz) : ∃ v h1 h2, f_X7_undo c hp = some (v, h1) ∧ f_X8_undo (c + 637) h1 = some (v, h2) ∧ h1 s = hp s ∧ JW h2 c s n xs ro sz := by
  obtain ⟨⟨p, ea, T, N, σ, u, Ps, β, fl, cap, l, F, S, a, b⟩, ⟨g, hg⟩, hs, hsc⟩ := J
  obtain ⟨e2, e4⟩ := b.2.2.1
  subst e2
  subst e4
  rcases Nat.eq_zero_or_pos u with e | h0
  · subst e
    obtain ⟨a1, a2⟩ := c_undo0 (x := c + 637) (F := F) (S := S) a.1 b.2.1.2.1
    exact ⟨-1, hp, _, a1, a2 hp b.1, rfl, W_th a b hg hs hsc 0⟩
  · have W := wW_Ps a.1 b.2.2.2.2.2.1
    have hu := W.2.2.1
    obtain ⟨h1, e1, f1, W1⟩ := c_undo W h0
    obtain ⟨j1, ⟨⟨sg, ee, k1⟩, R', k2⟩, ⟨I, Bt, j4, j5⟩, j6, j7, j8, j9, j10, j11⟩ := a
    obtain ⟨r1, ⟨r2, r3, r4, r5⟩, -, r8, r9, r10, r11⟩ := b
    have hd : oth c p = c + 4 ∨ oth c p = c + 33 := by unfold oth; split <;> omega
    have M1 : wMF h1 (c + 637) F S := wMF_fr r1 (fun a h1 h2 => f1 a (by omega))
    obtain ⟨h2, F', e2, M2, eF, f2⟩ := m_undo M1 r3 hu h0 r11.2
    subst eF
    have J1 : JC h1 c ro sz p ea (S 2) (rowOf (S 6) (u - 1)) σ (u - 1) (rowOf (S 6)) β fl cap l := ⟨W1, ⟨⟨sg, ee, by unfold wLd; rw [f1 _ (by omega)]; exact k1⟩, R', wP_fr k2 (fun i i1 i2 => f1 i (by omega))⟩, ⟨I, Bt, in_fr j4 (fun i i1 i2 => f1 i (by omega)), j5⟩, sbC_fr2 j6 (fun i hi => f1 i (by omega)), sts_fr j7 (fun i hi => f1 i (by omega)), wDT_lo j8 j9 (fun i hi => f1 i (by omega)), j9, j10, j11⟩
    have J2 : JR h2 c ea (S 2) (rowOf (S 6) (u - 1)) (u - 1) (rowOf (S 6)) β fl l (upd (upd F 0 0) 8 (Int32.ofNat (u - 1))) (g1 S 4 (rowOf (S 6) (u - 1))) := by
      refine ⟨M2, ⟨?_, upd_self _ _ _, ?_, ?_⟩, ⟨?_, g1_self _ _ _⟩, fun j hj => ?_, fun j hj => ?_, fun i hi => ?_, ⟨fun k hk => ?_, fun k hk => ?_⟩⟩
      · rw [upd_ne _ _ (by decide), upd_ne _ _ (by decide)]; exact r2
      · rw [upd_ne _ _ (by decide), upd_ne _ _ (by decide)]; exact r4
      · rw [upd_ne _ _ (by decide), upd_ne _ _ (by decide)]; exact r5
      · rw [g1_ne _ _ (by decide)]
      · rw [g1_ne _ _ (by decide)]; exact r8 j hj
      · rw [g1_ne _ _ (by decide)]; exact r9 j hj
      · rw [g1_ne _ _ (by decide)]
      · rw [g1_ne _ _ (by decide)]; exact r11.1 k hk
      · rw [g1_self]; unfold rowOf; exact if_neg (by omega)
    exact ⟨_, h1, h2, e1, e2, f1 s (by omega), ⟨p, ea, _, _, σ, u - 1, _, β, fl, cap, l, _, _, JC_fr J1 (fun i hi => f2 i (by omega)), J2⟩, ⟨g, by rw [f2 (c + 645) (by omega), f1 (c + 645) (by omega)]; exact hg⟩, by rw [f2 s (by omega), f1 s (by omega)]; exact hs, hsc⟩
theorem W_feed (J : JW hp c s n xs ro sz) (y1 y2 y3 y4 y5 : Int32) : ∃ v h1 h2, f_X7_feed c y1 y2 y3 y4 y5 hp = some (v, h1) ∧ f_X8_feed (c + 637) y1 y2 y3 y4 y5 h1 = some (v, h2) ∧ h1 s = hp s ∧ JW h2 c s n xs ro sz := by
  obtain ⟨⟨p, ea, T, N, σ, u, Ps, β, fl, cap, l, F, S, a, b⟩, ⟨g, hg⟩, hs, hsc⟩ := J
  obtain ⟨r, h1, h2, m1, m2, f, β', fl', F', S', a2, b2⟩ := J_feed a b y1 y2 y3 y4 y5
  exact ⟨r, h1, h2, m1, m2, (f s (by omega)).1, ⟨p, ea, T, N, σ, u, Ps, β', fl', cap, l, F', S', a2, b2⟩, ⟨g, by rw [(f (c + 645) (by omega)).2]; exact hg⟩, by rw [(f s (by omega)).2]; exact hs, hsc⟩
theorem W_load (J : JW hp c s n xs ro sz) (y : Int32) : ∃ v h1 h2, f_X7_load ro c y hp = some (v, h1) ∧ f_X8_load ro (c + 637) y h1 = some (v, h2) ∧ h1 s = hp s ∧ JW h2 c s n xs ro sz := by
  obtain ⟨⟨p, ea, T, N, σ, u, Ps, β, fl, cap, l, F, S, a, b⟩, ⟨g, hg⟩, hs, hsc⟩ := J
  obtain ⟨r, h1, h2, m1, m2, f, p', ea', T', N', u', fl', F', S', a2, b2⟩ := J_load a b y
  exact ⟨r, h1, h2, m1, m2, (f s (by omega)).1, ⟨p', ea', T', N', σ, u', Ps, β, fl', cap, l, F', S', a2, b2⟩, ⟨g, by rw [(f (c + 645) (by omega)).2]; exact hg⟩, by rw [(f s (by omega)).2]; exact hs, hsc⟩
theorem W_errorPosition (J : JW hp c s n xs ro sz) : ∃ v h2, f_X7_errorPosition c hp = some v ∧ f_X8_errorPosition (c + 637) hp = some (v, h2) ∧ JW h2 c s n xs ro sz := by
  obtain ⟨⟨p, ea, T, N, σ, u, Ps, β, fl, cap, l, F, S, a, b⟩, ⟨g, hg⟩, hs, hsc⟩ := J
  obtain ⟨m1, m2⟩ := J_errorPosition a b
  exact ⟨_, _, m1, m2, W_th a b hg hs hsc 0⟩
theorem W_undoCount (J : JW hp c s n xs ro sz) : ∃ v h2, f_X7_undoCount c hp = some v ∧ f_X8_undoCount (c + 637) hp = some (v, h2) ∧ JW h2 c s n xs ro sz := by
  obtain ⟨⟨p, ea, T, N, σ, u, Ps, β, fl, cap, l, F, S, a, b⟩, ⟨g, hg⟩, hs, hsc⟩ := J
  obtain ⟨m1, m2⟩ := J_undoCount a b
  exact ⟨_, _, m1, m2, W_th a b hg hs hsc 0⟩
theorem W_outputAt (J : JW hp c s n xs ro sz) (y : Int32) : ∃ v h2, f_X7_outputAt c y hp = some v ∧ f_X8_outputAt (c + 637) y hp = some (v, h2) ∧ JW h2 c s n xs ro sz := by
  obtain ⟨⟨p, ea, T, N, σ, u, Ps, β, fl, cap, l, F, S, a, b⟩, ⟨g, hg⟩, hs, hsc⟩ := J
  obtain ⟨m1, m2⟩ := J_outputAt a b y
  exact ⟨_, _, m1, m2, W_th a b hg hs hsc 0⟩
end P89
