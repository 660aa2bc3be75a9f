/-! PURE: the class's load -/
section P58
variable {hp h hp' : zHp} {x a b c p q d L fl u : Nat} {ro : Nat → Nat} {β : Nat → Nat} {st : PSt} {R : Nat → Nat → Int32} {T N T' N' I Bt : Nat → Int32} {v ea : Int32} {B : Nat → Nat → Int32} {G : Nat → Nat → Nat → Int32} {σ : Nat → Nat} {Ps : Nat → Nat → Int32}
/-- a box as it comes -/
def bNew (B : Nat → Nat → Int32) (v : Int32) : Prop := (B 0 0 = -3 ∧ B 0 1 = v ∧ B 0 2 = 1 ∧ B 0 3 = 0 ∧ B 0 4 = -1 ∧ B 0 5 = 0) ∧ B 1 0 = v
theorem bx_begin (X : wBx hp a B) (v : Int32) : ∃ h B', f_X0_begin a v hp = some h ∧ wBx h a B' ∧ bNew B' v ∧ zfr hp h a 4 := by
  obtain ⟨h1, e1, X1, f1⟩ := bx_setI X (k := 0) (by decide) (-3)
  obtain ⟨h2, e2, X2, f2⟩ := bx_setI X1 (k := 1) (by decide) v
  obtain ⟨h3, e3, X3, f3⟩ := bx_setI X2 (k := 2) (by decide) 0
  obtain ⟨h4, e4, X4, f4⟩ := bx_enter X3 (E := 0) (by rw [w2_at, if_pos ⟨rfl, rfl⟩]; rfl) (by decide) v
  obtain ⟨h5, e5, X5, f5⟩ := bx_setI X4 (k := 3) (by decide) 0
  obtain ⟨h6, e6, X6, f6⟩ := bx_setI X5 (k := 4) (by decide) (-1)
  obtain ⟨h7, e7, X7, f7⟩ := bx_setZ X6 (v := 0) (Or.inl rfl)
  refine ⟨h7, _, ?_, X7, ?_, zfr_tr f1 (zfr_tr f2 (zfr_tr f3 (zfr_tr f4 (zfr_tr f5 (zfr_tr f6 f7)))))⟩
  · simp only [f_X0_begin, bx_is X, e1, e2, e3, e4, e5, e6, e7, Option.bind_some]
  · unfold bNew
    simp [w2_at]
theorem bNew_r {B : Nat → Nat → Int32} (Y : bNew B (sF N b 1)) (h0 : sF N b 0 = -3) (h2 : sF N b 2 = 1) (h3 : sF N b 3 = 0) (h4 : sF N b 4 = sF N b 1) : rBx T N b B := by
  obtain ⟨⟨y0, y1, y2, y3, y4, y5⟩, y6⟩ := Y
  have hc : sC N b = 0 := by unfold sC; rw [h3]; rfl
  have he : sE N b = 1 := by unfold sE; rw [h2]; rfl
  have hf : sCf T N b = none := by unfold sCf; rw [hc]; rfl
  refine ⟨⟨by rw [y0, h0], y1, by rw [y2, he]; rfl, by rw [y3, hc]; rfl, by rw [y4, hc, if_pos rfl], by rw [y5, hf]; rfl⟩, fun e h => ?_, fun c h => ?_, fun c p h => ?_⟩
  · rw [he] at h
    have e0 : e = 0 := by omega
    subst e0
    rw [y6]
    exact h4.symm
  · rw [hc] at h; exact absurd h (Nat.not_lt_zero c)
  · rw [hc] at h; exact absurd h (Nat.not_lt_zero c)
theorem wP_12 (X : wP hp d R) : zgR hp d 5 6 = some (d + 12) := po_R X.1 rfl
/-- a state begins with a plan -/
theorem S_begin (X : wSt hp q G) (Y : wP hp d R) (r : rP T R) (hn : sN T 3 ≤ 12) (hd : d + 28 ≤ q) (r12 : ∀ b, b < sN T 3 → R 12 b = sF N b 1) (r27 : ∀ k, k < 2 → R 27 k = N k) (P : PI (T, N, v, a)) : ∃ h, f_X6_begin q d hp = some h ∧ wSS h q T N ∧ zfr hp h q 52 := by
  obtain ⟨⟨p9, p2'⟩, p2, p3, -⟩ := P
  have p9 : N 9 = 0 := p9
  have p2' : N 2 = 5000 := p2'
  have p2 : ∀ b, b < 12 → sF N b 3 = 0 := p2
  have p3 : ∀ b, b < sN T 3 → sF N b 0 = -3 ∧ sF N b 2 = 1 ∧ sF N b 4 = sF N b 1 := p3
  simp only [f_X6_begin, st_is X, Option.bind_some]
  generalize hK : (fun h9 : zHp => (zgR h9 d 5 9).bind fun r10 => (zgR h9 q 6 1).bind fun r11 => (zcpI h9 r10 (0 : Int32) r11 (0 : Int32) (2 : Int32)).bind fun h12 => (zpV h12 q 6 3 (.int (0 : Int32))).bind fun h13 => (zpV h13 q 6 4 (.int (5000 : Int32))).bind fun h14 => some h14) = K
  have n3 : ∀ {h : zHp}, wP h d R → zaI h 0 (d + 1) 3 = some (Int32.ofNat (sN T 3)) := fun {h} Y => (wP_rd Y (j := 1) (k := 3) (Or.inl rfl) (by decide)).trans (congrArg some (r.1 3 (by decide)))
  obtain ⟨h1, ⟨G1, X1, z1, f1⟩, e1⟩ := zFH (l := l_X6_begin_2 K q d) (hp := hp) (n := sN T 3) (m := 1000000) (k := K) (fun i h => ∃ G', wSt h q G' ∧ (∀ b, b < i → bNew (G' b) (sF N b 1)) ∧ zfr hp h q 52) (by omega) ⟨G, X, fun b hb => absurd hb (Nat.not_lt_zero b), zfr_rf⟩ (fun i h hi ⟨G', X', z, f⟩ => by
      have hi12 : i < 12 := by omega
      have Y' : wP h d R := wP_fr Y (fun k k1 k2 => f k (by omega))
      obtain ⟨h', B', e', Xb, nb, f'⟩ := bx_begin (X'.2.2.2.2 i hi12) (sF N i 1)
      obtain ⟨X2, f2⟩ := st_box X' hi12 Xb f'
      refine ⟨h', ⟨_, X2, fun b hb => ?_, zfr_tr f f2⟩, fun m => ?_⟩
      · by_cases e : b = i
        · subst e; rw [g1_self]; exact nb
        · rw [g1_ne _ _ e]; exact z b (by omega)
      · have r12' : zaI h 0 (d + 12) (Int32.ofNat i) = some (sF N i 1) := (wP_rd Y' (j := 12) (by unfold pCell; omega) (by show i < 12; omega)).trans (congrArg some (r12 i hi))
        simp (disch := omega) only [l_X6_begin_2_s, b_X6_begin_2, wP_0 Y', n3 Y', pn_lt, hi, if_true, st_bx X', st_B X' hi12, wP_12 Y', r12', e', Option.bind_some, zlet, pn_succ]) (fun h ⟨G', X', z, f⟩ m => by
      have Y' : wP h d R := wP_fr Y (fun k k1 k2 => f k (by omega))
      simp only [l_X6_begin_2_s, b_X6_begin_2, wP_0 Y', n3 Y', Int32.lt_irrefl, if_false, Option.bind_some])
  have Y1 : wP h1 d R := wP_fr Y (fun k k1 k2 => f1 k (by omega))
  obtain ⟨g, c1, c2⟩ := zcp_all (n := 2) (Y1.2.2.2 27 (by unfold pCell; omega)) X1.2.2.1 (by decide)
  have X2 : wSt (zup h1 (q + 2) (.inl (0, 2, .inl g))) q (g1 G1 12 (g1 (G1 12) 0 g)) := by
    obtain ⟨x1, ⟨ff, x2, x3⟩, x4, x5, x6⟩ := X1
    refine ⟨?_, ⟨ff, ?_, x3⟩, ?_, ?_, fun i hi => ?_⟩
    · rw [zup_ne (by omega), g1_self, g1_ne _ _ (by decide)]; exact x1
    · rw [zup_ne (by omega)]; exact x2
    · rw [zup_eq, g1_self, g1_self]
    · rw [zup_ne (by omega), g1_self, g1_ne _ _ (by decide)]; exact x5
    · rw [g1_ne _ _ (by omega)]
      exact bx_fr (x6 i hi) (fun k k1 k2 => zup_ne (by omega))
  obtain ⟨h3, e3, X3, f3⟩ := st_setF X2 (k := 3) (Or.inl rfl) 0
  obtain ⟨h4, e4, X4, f4⟩ := st_setF X3 (k := 4) (Or.inr rfl) 5000
  have hD : sD N = 0 := by unfold sD; rw [p9]; rfl
  refine ⟨h4, ?_, ⟨_, X4, ⟨fun i hi => ?_, ?_, ?_, fun k hk => ?_, fun b hb => ?_⟩⟩, zfr_tr f1 (zfr_tr (zfr_up (by omega) (by omega)) (zfr_tr f3 f4))⟩
  · rw [e1, ← hK]
    simp only [wP_27 Y1, st_set X1, show zcpI h1 (d + 27) 0 (q + 2) 0 2 = _ from c1, e3, e4, Option.bind_some]
  · rw [g1_self, w2_ne _ _ (by decide), g1_self, w2_ne _ _ (by decide), g1_self, g1_self, c2 i hi]
    exact r27 i hi
  · rw [g1_self, w2_at, if_neg (by decide), g1_self, w2_at, if_pos ⟨rfl, rfl⟩, hD]; rfl
  · rw [g1_self, w2_at, if_pos ⟨rfl, rfl⟩]
    exact p2'.symm
  · rw [hD] at hk; exact absurd hk (Nat.not_lt_zero k)
  · rw [g1_ne _ _ (by omega), g1_ne _ _ (by omega), g1_ne _ _ (by omega)]
    obtain ⟨q0, q2, q4⟩ := p3 b hb
    exact bNew_r (z1 b hb) q0 q2 (p2 b (by omega)) q4
theorem PI_sI (P : PI (T, N, v, a)) (S : sP T) : sI T N := by
  obtain ⟨⟨p9, p2'⟩, p2, p3, -⟩ := P
  have p9 : N 9 = 0 := p9
  have p2' : N 2 = 5000 := p2'
  have p2 : ∀ b, b < 12 → sF N b 3 = 0 := p2
  have p3 : ∀ b, b < sN T 3 → sF N b 0 = -3 ∧ sF N b 2 = 1 ∧ sF N b 4 = sF N b 1 := p3
  have hD : sD N = 0 := by unfold sD; rw [p9]; rfl
  refine ⟨S.1, S.2.1, fun b hb => ?_, ⟨by rw [hD, p9]; rfl, by rw [hD]; exact Nat.zero_le _, fun k hk => ?_, fun i j h1 h2 => ?_⟩, S.2.2⟩
  · have h12 : sN T 3 ≤ 12 := S.2.1.2.2.2.1
    have hc : sC N b = 0 := by unfold sC; rw [p2 b (by omega)]; rfl
    have he : sE N b = 1 := by unfold sE; rw [(p3 b hb).2.1]; rfl
    rw [hc, he]
    exact ⟨⟨p2 b (by omega), by decide⟩, ⟨(p3 b hb).2.1, by decide, by decide⟩, fun c p h => absurd h (Nat.not_lt_zero c)⟩
  · rw [hD] at hk; exact absurd hk (Nat.not_lt_zero k)
  · rw [hD] at h2; exact absurd h2 (Nat.not_lt_zero j)
/-- the other plan -/
def oth (c p : Nat) : Nat := if p = c + 4 then c + 33 else c + 4
def wCL (hp : zHp) (c p : Nat) : Prop := (∃ sg ee, wLd hp c (oth c p) sg ee) ∧ ∃ R, wP hp (oth c p) R
theorem wW_fr (W : wW hp c p ea T N σ u Ps) (f : ∀ a, a = c ∨ a = c + 32 ∨ (p ≤ a ∧ a < p + 28) ∨ (c + 61 ≤ a ∧ a < c + 635) → h a = hp a) : wW h c p ea T N σ u Ps := by
  obtain ⟨⟨K1, K2, K3, K4, K5⟩, hpp, hu, X1, Z⟩ := W
  exact ⟨⟨by rw [f c (by omega)]; exact K1, by rw [f (c + 32) (by omega)]; exact K2, pl_fr K3 (fun i i1 i2 => f i (by omega)), ss_fr K4 (fun i i1 i2 => f i (by omega)), K5⟩, hpp, hu, hi_fr X1 (fun i i1 i2 => f i (by omega)), fun i hi => ⟨(Z i hi).1, ss_fr (Z i hi).2 (fun k k1 k2 => f k (by have := X1.2.2.1 i (by omega); omega))⟩⟩
theorem wW_ea (W : wW hp c p ea T N σ u Ps) (v : Int32) : ∃ h, zpV hp c 7 4 (.int v) = some h ∧ wW h c p v T N σ u Ps ∧ ∀ a, a ≠ c → h a = hp a := by
  obtain ⟨⟨K1, K2, K3, K4, K5⟩, hpp, hu, X1, Z⟩ := W
  refine ⟨_, po_V K1 (show 4 < 5 by decide) _, ⟨⟨zup_eq _ _ _, ?_, pl_fr K3 (fun i i1 i2 => zup_ne (by omega)), ss_fr K4 (fun i i1 i2 => zup_ne (by omega)), K5⟩, hpp, hu, hi_fr X1 (fun i i1 i2 => zup_ne (by omega)), fun i hi => ⟨(Z i hi).1, ss_fr (Z i hi).2 (fun k k1 k2 => zup_ne (by omega))⟩⟩, fun a ha => zup_ne ha⟩
  rw [zup_ne (by omega)]; exact K2
theorem C_loadBad (W : wW hp c p ea T N σ u Ps) (CL : wCL hp c p) (X2 : wIn hp (c + 2) I Bt) (h1 : I 1 = Int32.ofNat fl) (y : Int32) (hy : y < 0 ∨ Int32.ofNat fl < y) : f_X7_load ro c y hp = some (-2, hp) := by
  obtain ⟨⟨sg, ee, L1⟩, -⟩ := CL
  simp only [f_X7_load, k_is W.1, Option.bind_some]
  by_cases q : y < 0
  · rw [if_pos q]
  · rw [if_neg q]
    simp only [k_ld W.1, ld_in L1, (in_I X2 (k := 1) (by decide) (by decide)).trans (congrArg some h1), Option.bind_some]
    rw [if_pos (hy.resolve_left q)]
theorem C_load (W : wW hp c p ea T N σ u Ps) (CL : wCL hp c p) (X2 : wIn hp (c + 2) I Bt) (h1 : I 1 = Int32.ofNat fl) (hfl : fl ≤ 900) (hL : L ≤ fl) (b : inBy Bt β L) (X4 : wSts hp c ro) : match pAll β L 1000 st0 with
    | .inl (e, j) => ∃ h, f_X7_load ro c (Int32.ofNat L) hp = some (e, h) ∧ wW h c p (Int32.ofNat (tS β L j)) T N σ u Ps ∧ wCL h c p ∧ (∃ I Bt, wIn h (c + 2) I Bt ∧ I 1 = 0) ∧ ∀ a, a < c ∨ c + 635 ≤ a → h a = hp a
    | .inr (q, st') => ∃ h, f_X7_load ro c (Int32.ofNat L) hp = some (Int32.ofNat q, h) ∧ wW h c (oth c p) (-1) st'.1 st'.2.1 σ 0 Ps ∧ wCL h c (oth c p) ∧ (∃ I Bt, wIn h (c + 2) I Bt ∧ I 1 = 0) ∧ ∀ a, a < c ∨ c + 635 ≤ a → h a = hp a := by
  obtain ⟨⟨sg, ee, L1⟩, R, P1⟩ := CL
  have hpp := W.2.1
  have hd : oth c p = c + 4 ∧ p = c + 33 ∨ oth c p = c + 33 ∧ p = c + 4 := by unfold oth; split <;> omega
  have hd2 : oth c (oth c p) = p := by
    rcases hd with ⟨e1, e2⟩ | ⟨e1, e2⟩
    · rw [e1]
      unfold oth
      rw [if_pos rfl]
      exact e2.symm
    · rw [e1]
      unfold oth
      rw [if_neg (by omega)]
      exact e2.symm
  obtain ⟨d, hdd⟩ : ∃ d, oth c p = d := ⟨_, rfl⟩
  have C := C_readText (β := β) (L := L) (ro := ro) L1 X2 b P1 X4 (by omega)
  unfold wCL
  rw [hd2]
  rw [hdd] at hd L1 P1 C ⊢
  have pre : f_X7_load ro c (Int32.ofNat L) hp = zb2 (f_X4_readText ro (c + 1) (Int32.ofNat L) hp) fun v5 h6 => (zgR h6 c 7 0).bind fun r7 => (zgI h6 r7 4 3).bind fun v8 => (zpV h6 c 7 4 (.int v8)).bind fun h9 => if v5 < 0 then (some (v5, h9)) else (zgR h9 c 7 1).bind fun r10 => (zgR h9 c 7 0).bind fun r11 => (zgR h9 c 7 1).bind fun r12 => (zgR h9 r12 1 0).bind fun r13 => zb2 (f_X4_exchange r11 r13 h9) fun r14 h15 => (f_X1_begin r10 r14 h15).bind fun h16 => (zgR h16 c 7 2).bind fun r17 => (zpV h16 r17 2 1 (.int (0 : Int32))).bind fun h18 => some (v5, h18) := by
    simp (disch := omega) only [f_X7_load, k_is W.1, k_ld W.1, ld_in L1, (in_I X2 (k := 1) (by decide) (by decide)).trans (congrArg some h1), Option.bind_some, pn_lt, pn_neg, if_false, show ¬ fl < L by omega]
  rw [pre]
  rcases hr : pAll β L 1000 st0 with ⟨e, j⟩ | ⟨n, st'⟩
  · rw [hr] at C
    obtain ⟨h2, g1, g2, ⟨sg2, g3⟩, ⟨I2, B2, g4, g5⟩, ⟨R2, g6⟩, f2⟩ := C
    have W2 : wW h2 c p ea T N σ u Ps := wW_fr W (fun a ha => f2 a (by omega))
    obtain ⟨h3, e3, W3, f3⟩ := wW_ea W2 (Int32.ofNat (tS β L j))
    refine ⟨h3, ?_, W3, ⟨⟨sg2, Int32.ofNat (tS β L j), ?_⟩, R2, wP_fr g6 (fun i i1 i2 => f3 i (by omega))⟩, ⟨I2, B2, in_fr g4 (fun i i1 i2 => f3 i (by omega)), g5⟩, fun a ha => by rw [f3 a (by omega), f2 a (by omega)]⟩
    · rw [g1, zb2_some]
      simp only [k_ld W2.1, show zgI h2 (c + 1) 4 3 = some (Int32.ofNat (tS β L j)) from po_I g3 rfl, e3, Option.bind_some]
      rw [if_pos g2]
    · unfold wLd
      rw [f3 _ (by omega)]
      exact g3
  · rw [hr] at C
    obtain ⟨h2, g1, ⟨⟨_, L2⟩, ⟨I2, B2, g4, -, -, g5⟩, -, ⟨R2, g6, g7, g8, g9⟩, S2, -⟩, f2⟩ := C
    have W2 : wW h2 c p ea T N σ u Ps := wW_fr W (fun a ha => f2 a (by omega))
    obtain ⟨h3, e3, W3, f3⟩ := wW_ea W2 (-1)
    obtain ⟨P', hn⟩ := PI_all 1000 st0 st' n PI_0 hr
    have PP : PI (st'.1, st'.2.1, st'.2.2.1, st'.2.2.2) := P'
    have II := PI_sI PP S2
    have hb := sI_bd II
    -- exchange
    have L3 : wLd h3 c d st'.2.2.1 (-1) := by unfold wLd; rw [f3 _ (by omega)]; exact L2
    have x4 := po_V L3 (show 1 < 4 by decide) (.ref p)
    obtain ⟨h4, eh4⟩ : ∃ h4, zup h3 (c + 1) (.inr (4, [.ref (c + 2), .ref p, .int st'.2.2.1, .int (-1)])) = h4 := ⟨_, rfl⟩
    have f4 : ∀ a, a ≠ c + 1 → h4 a = h3 a := fun a ha => by rw [← eh4]; exact zup_ne ha
    have L4 : wLd h4 c p st'.2.2.1 (-1) := by unfold wLd; rw [← eh4]; exact zup_eq _ _ _
    have x4' : zpV h3 (c + 1) 4 1 (.ref p) = some h4 := by rw [← eh4]; exact x4
    -- the hall
    have K3 : h4 (c + 32) = some (.inr (1, [.ref p, .ref (c + 61)])) := by rw [f4 _ (by omega)]; exact W3.1.2.1
    have x5 := po_V K3 (show 0 < 2 by decide) (.ref d)
    obtain ⟨h5, eh5⟩ : ∃ h5, zup h4 (c + 32) (.inr (1, [.ref d, .ref (c + 61)])) = h5 := ⟨_, rfl⟩
    have f5 : ∀ a, a ≠ c + 32 → h5 a = h4 a := fun a ha => by rw [← eh5]; exact zup_ne ha
    have x5' : zpV h4 (c + 32) 1 0 (.ref d) = some h5 := by rw [← eh5]; exact x5
    have K5 : h5 (c + 32) = some (.inr (1, [.ref d, .ref (c + 61)])) := by rw [← eh5]; exact zup_eq _ _ _
    have f35 : ∀ a, a ≠ c → a ≠ c + 1 → a ≠ c + 32 → h5 a = h2 a := fun a a1 a2 a3 => by rw [f5 a a3, f4 a a2, f3 a a1]
    obtain ⟨Gs, X5, -⟩ := ss_fr W2.1.2.2.2.1 (h := h5) (fun i i1 i2 => f35 i (by omega) (by omega) (by omega))
    have P5 : wP h5 d R2 := wP_fr g6 (fun i i1 i2 => f35 i (by omega) (by omega) (by omega))
    obtain ⟨h6, e6, Y6, f6⟩ := S_begin X5 P5 g7 (by omega) (by omega) g8 g9 PP
    have H6 : wHi h6 (c + 113) σ u := hi_fr W2.2.2.2.1 (fun i i1 i2 => by rw [f6 i (by omega), f35 i (by omega) (by omega) (by omega)])
    obtain ⟨h7, e7, X7, f7⟩ := hi_setU H6 0
    have f27 : ∀ a, a ≠ c → a ≠ c + 1 → a ≠ c + 32 → (a < c + 61 ∨ c + 114 ≤ a) → h7 a = h2 a := fun a a1 a2 a3 a4 => by rw [f7 a (by omega), f6 a (by omega), f35 a a1 a2 a3]
    refine ⟨h7, ?_, ⟨⟨?_, ?_, ⟨R2, wP_fr P5 (fun i i1 i2 => by rw [f7 i (by omega), f6 i (by omega)]), g7⟩, ss_fr Y6 (fun i i1 i2 => f7 i (by omega)), II⟩, by omega, by decide, X7, fun i hi => absurd hi (Nat.not_lt_zero i)⟩, ⟨⟨st'.2.2.1, -1, ?_⟩, ?_⟩, ⟨I2, B2, in_fr g4 (fun i i1 i2 => f27 i (by omega) (by omega) (by omega) (by omega)), g5⟩, fun a ha => by rw [f27 a (by omega) (by omega) (by omega) (by omega), f2 a (by omega)]⟩
    · rw [g1, zb2_some]
      simp only [k_ld W2.1, show zgI h2 (c + 1) 4 3 = some (-1) from po_I L2 rfl, e3, Option.bind_some]
      rw [if_neg (pn_neg (by omega))]
      simp only [k_hl W3.1, k_ld W3.1, show zgR h3 (c + 32) 1 0 = some p from po_R W3.1.2.1 rfl, f_X4_exchange, ld_is L3, ld_dr L3, x4', f_X1_begin, po_is K3, x5', show zgR h5 (c + 32) 1 1 = some (c + 61) from po_R K5 rfl, show zgR h5 (c + 32) 1 0 = some d from po_R K5 rfl, e6, zb2_some, Option.bind_some]
      have c6 : h6 c = some (.inr (7, [.ref (c + 1), .ref (c + 32), .ref (c + 113), .ref (c + 635), .int (-1)])) := by
        rw [f6 c (by omega), f5 c (by omega), f4 c (by omega)]
        exact W3.1.1
      simp only [show zgR h6 c 7 2 = some (c + 113) from po_R c6 rfl, show zpV h6 (c + 113) 2 1 (.int 0) = some h7 from e7, Option.bind_some]
    · rw [f7 c (by omega), f6 c (by omega), f5 c (by omega), f4 c (by omega)]
      exact W3.1.1
    · rw [f7 _ (by omega), f6 _ (by omega)]
      exact K5
    · unfold wLd
      rw [f7 _ (by omega), f6 _ (by omega), f5 _ (by omega)]
      exact L4
    · obtain ⟨Rp, rp, -⟩ := W2.1.2.2.1
      exact ⟨Rp, wP_fr rp (fun i i1 i2 => f27 i (by omega) (by omega) (by omega) (by omega))⟩
end P58

