/-! PURE: the law's text, as a list; what reading it leaves -/
section P91
variable {β : Nat → Nat} {L i k n s : Nat} {l m r w sp : List Nat} {st st' : PSt} {A : Nat → Nat} {sg : Int32} {D : Nat → Nat → Nat → Nat}
def cP (D : Nat → Nat → Nat → Nat) : Nat := D 0 0 0
def cR (D : Nat → Nat → Nat → Nat) : Nat := D 0 1 0
def cW (D : Nat → Nat → Nat → Nat) : Nat := D 0 2 0
def cB (D : Nat → Nat → Nat → Nat) : Nat := D 0 3 0
def cT (D : Nat → Nat → Nat → Nat) : Nat := D 0 4 0
/-- what the script says: counts; 1 settings, 2 around (0 none), 3 region of a ward, 4 ward of a box, 5 issued, 6 seal, 7 papers, 8 slips -/
def okD (D : Nat → Nat → Nat → Nat) : Prop := (1 ≤ cP D ∧ cP D ≤ 4) ∧ (1 ≤ cR D ∧ cR D ≤ 4) ∧ (1 ≤ cW D ∧ cW D ≤ 4) ∧ (1 ≤ cB D ∧ cB D ≤ 7) ∧ (1 ≤ cT D ∧ cT D ≤ 4) ∧ (D 1 0 0 ≤ 50 ∧ D 1 1 0 ≤ 9) ∧
  (∀ j, D 2 j 0 ≤ j) ∧ (∀ j, D 3 j 0 < cR D) ∧ (∀ j, D 4 j 0 < cW D) ∧ (∀ j, D 5 j 0 ≤ 999) ∧ (∀ j, 1 ≤ D 6 j 0 ∧ D 6 j 0 ≤ 999) ∧ (∀ j p, D 7 j p ≤ 300) ∧ ∀ j, D 8 j 0 ≤ 99
def tH (D : Nat → Nat → Nat → Nat) (g : Nat) : List Nat := wSe ++ 32 :: ((if g = 0 then wTr else wTo) ++ 32 :: (dl (D 1 g 0) ++ [59]))
def tP (_ : Nat → Nat → Nat → Nat) (k : Nat) : List Nat := wPa ++ 32 :: (nmB 0 k ++ [59])
def tR (D : Nat → Nat → Nat → Nat) (k : Nat) : List Nat := if D 2 k 0 = 0 then wRe ++ 32 :: (nmB 1 k ++ [59]) else wRe ++ 32 :: (nmB 1 k ++ 32 :: (wI ++ 32 :: (nmB 1 (D 2 k 0 - 1) ++ [59])))
def tV (D : Nat → Nat → Nat → Nat) (k : Nat) : List Nat := wWa ++ 32 :: (nmB 2 k ++ 32 :: (nmB 1 (D 3 k 0) ++ [59]))
def tB (D : Nat → Nat → Nat → Nat) (k : Nat) : List Nat := wBo ++ 32 :: (nmB 3 k ++ 32 :: (nmB 2 (D 4 k 0) ++ 32 :: (dl (D 5 k 0) ++ 32 :: (dl (D 6 k 0) ++ papL (D 7 k) (cP D + 1) 0 [59]))))
def tT (D : Nat → Nat → Nat → Nat) (k : Nat) : List Nat := wTa ++ 32 :: (dl (D 8 k 0) ++ [59])
def cat (f : Nat → List Nat) : Nat → List Nat
  | 0 => []
  | n + 1 => cat f n ++ f n
def catR (f : Nat → List Nat) : Nat → Nat → List Nat
  | 0, _ => []
  | d + 1, k => f k ++ catR f d (k + 1)
theorem cat_add (f : Nat → List Nat) (k : Nat) : ∀ d, cat f (k + d) = cat f k ++ catR f d k
  | 0 => by show cat f k = cat f k ++ []; rw [List.append_nil]
  | d + 1 => by
    have H : ∀ d k, catR f (d + 1) k = catR f d k ++ f (k + d) := by
      intro d
      induction d with
      | zero => intro k; show f k ++ [] = [] ++ f k; rw [List.append_nil, List.nil_append]
      | succ d ih =>
        intro k
        show f k ++ catR f (d + 1) (k + 1) = (f k ++ catR f d (k + 1)) ++ f (k + (d + 1))
        rw [ih (k + 1), List.append_assoc, show k + 1 + d = k + (d + 1) by omega]
    show cat f (k + d) ++ f (k + d) = _
    rw [cat_add f k d, H d k, List.append_assoc]
theorem cat_0 (f : Nat → List Nat) (n : Nat) : cat f n = catR f n 0 := by
  have := cat_add f 0 n
  rw [Nat.zero_add] at this
  exact this
def tAll (D : Nat → Nat → Nat → Nat) : List Nat := cat (tH D) 2 ++ (cat (tP D) (cP D) ++ (cat (tR D) (cR D) ++ (cat (tV D) (cW D) ++ (cat (tB D) (cB D) ++ cat (tT D) (cT D)))))
def vA (a b c d e : Nat) : Nat → Nat := fun q => if q = 0 then a else if q = 1 then b else if q = 2 then c else if q = 3 then d else if q = 4 then e else 0
theorem vA_0 (a b c d e : Nat) : aInc (vA a b c d e) 0 = vA (a + 1) b c d e := by
  funext q
  unfold aInc vA
  by_cases h : q = 0
  · rw [if_pos h, if_pos h]; rfl
  · rw [if_neg h, if_neg h, if_neg h]
theorem vA_1 (a b c d e : Nat) : aInc (vA a b c d e) 1 = vA a (b + 1) c d e := by
  funext q
  unfold aInc vA
  by_cases h : q = 1
  · subst h; rfl
  · rw [if_neg h, if_neg h, if_neg h]
theorem vA_2 (a b c d e : Nat) : aInc (vA a b c d e) 2 = vA a b (c + 1) d e := by
  funext q
  unfold aInc vA
  by_cases h : q = 2
  · subst h; rfl
  · rw [if_neg h, if_neg h, if_neg h]
theorem vA_3 (a b c d e : Nat) : aInc (vA a b c d e) 3 = vA a b c (d + 1) e := by
  funext q
  unfold aInc vA
  by_cases h : q = 3
  · subst h; rfl
  · rw [if_neg h, if_neg h, if_neg h]
theorem vA_4 (a b c d e : Nat) : aInc (vA a b c d e) 4 = vA a b c d (e + 1) := by
  funext q
  unfold aInc vA
  by_cases h : q = 4
  · subst h; rfl
  · rw [if_neg h, if_neg h, if_neg h]
theorem stm_ne {v : Int32} (e : pStm β L st = .inr (v, st')) : ¬ tK β L st.2.2.2 = 0 := fun h => by
  unfold pStm pDecl at e
  have ew : sWd β L st.2.2.2 = -1 := by unfold sWd; rw [h, if_neg (by decide)]
  rw [ew, if_neg (by decide), if_neg (by decide), if_neg (by decide), if_neg (by decide), if_neg (by decide), if_neg (by decide)] at e
  cases e
theorem pAll_s (F : Nat) (st : PSt) : pAll β L (F + 1) st = if tK β L st.2.2.2 = 0 then .inr (0, st) else match pStm β L st with
    | .inl e => .inl e
    | .inr (_, st') => match pAll β L F st' with
      | .inl e => .inl e
      | .inr (n, st'') => .inr (n + 1, st'') := rfl
theorem pAll_run (J : Nat → PSt → Prop) (f : Nat → List Nat) (n : Nat) (hs : ∀ k st r, k < n → J k st → rL β L st.2.2.2 (f k ++ r) → ∃ st', pStm β L st = .inr (0, st') ∧ J (k + 1) st' ∧ rL β L st'.2.2.2 r) : ∀ d k st r, k + d = n → J k st → rL β L st.2.2.2 (catR f d k ++ r) → ∃ st', J n st' ∧ rL β L st'.2.2.2 r ∧ ∀ F m s2, pAll β L F st' = .inr (m, s2) → pAll β L (F + d) st = .inr (m + d, s2)
  | 0, k, st, r, h, j, X => ⟨st, by have : k = n := h; subst this; exact j, X, fun F m s2 e => e⟩
  | d + 1, k, st, r, h, j, X => by
    have X' : rL β L st.2.2.2 (f k ++ (catR f d (k + 1) ++ r)) := by rw [← List.append_assoc]; exact X
    obtain ⟨st1, e1, j1, X1⟩ := hs k st _ (by omega) j X'
    obtain ⟨st2, j2, X2, H⟩ := pAll_run J f n hs d (k + 1) st1 r (by omega) j1 X1
    refine ⟨st2, j2, X2, fun F m s2 e => ?_⟩
    have e3 := H F m s2 e
    rw [show F + (d + 1) = (F + d) + 1 from rfl, pAll_s, if_neg (stm_ne e1), e1]
    dsimp only
    rw [e3]
    rfl
theorem rL_0 (hL : L = l.length) (h : ∀ j, j < L → β j = l.getD j 0) : rL β L 0 l := ⟨by omega, fun k hk => by rw [Nat.zero_add]; exact h k (by omega)⟩
theorem ZI_0 : ZI (vA 0 0 0 0 0) 0 st0 := ⟨fun s hs => by rcases (show s = 0 ∨ s = 1 ∨ s = 2 ∨ s = 3 ∨ s = 4 by omega) with rfl | rfl | rfl | rfl | rfl <;> rfl, fun s hs => by rcases (show s = 0 ∨ s = 1 ∨ s = 2 ∨ s = 3 by omega) with rfl | rfl | rfl | rfl <;> exact Nat.zero_le _, fun s k hs hk => by rcases (show s = 0 ∨ s = 1 ∨ s = 2 ∨ s = 3 by omega) with rfl | rfl | rfl | rfl <;> exact absurd hk (Nat.not_lt_zero k), rfl, Nat.zero_le _⟩
/-- the whole text -/
theorem all_ok (o : okD D) (X : rL β L 0 (tAll D)) : ∃ st', pAll β L 1000 st0 = .inr (2 + cP D + cR D + cW D + cB D + cT D, st') ∧ ∀ s, s < 5 → sN st'.1 s = vA (cP D) (cR D) (cW D) (cB D) (cT D) s := by
  obtain ⟨⟨p1, p2⟩, ⟨r1, r2⟩, ⟨w1, w2⟩, ⟨b1, b2⟩, ⟨t1, t2⟩, ⟨g0, g1⟩, h2, h3, h4, h5, h6, h7, h8⟩ := o
  unfold tAll at X
  rw [cat_0, cat_0, cat_0, cat_0, cat_0, cat_0] at X
  obtain ⟨s1, ⟨sg, z1⟩, X1, H1⟩ := pAll_run (fun k st => ∃ sg, ZI (vA 0 0 0 0 0) sg st ∧ (k = 0 → sg = 0) ∧ (k = 1 → sg = gSet 0 0)) (tH D) 2 (fun k st r hk ⟨sg, z, hb0, hb1⟩ Y => by
    have Y' : rL β L st.2.2.2 (wSe ++ 32 :: ((if k = 0 then wTr else wTo) ++ 32 :: (dl (D 1 k 0) ++ 59 :: r))) := by
      have e : tH D k ++ r = wSe ++ 32 :: ((if k = 0 then wTr else wTo) ++ 32 :: (dl (D 1 k 0) ++ 59 :: r)) := by unfold tH; simp only [List.append_assoc, List.cons_append, List.nil_append]
      rw [← e]; exact Y
    rcases (show k = 0 ∨ k = 1 by omega) with rfl | rfl
    · obtain ⟨st', e, z', Y2⟩ := rd_set (w := wTr) (g := 0) (n := D 1 0 0) (Or.inl ⟨rfl, rfl⟩) g0 Y' z (by rw [hb0 rfl]; decide)
      exact ⟨st', e, ⟨_, z', fun q => absurd q (by decide), fun _ => by rw [hb0 rfl]⟩, Y2⟩
    · obtain ⟨st', e, z', Y2⟩ := rd_set (w := wTo) (g := 1) (n := D 1 1 0) (Or.inr ⟨rfl, rfl⟩) g1 Y' z (by rw [hb1 rfl]; decide)
      exact ⟨st', e, ⟨_, z', fun q => absurd q (by decide), fun q => absurd q (by decide)⟩, Y2⟩) 2 0 st0 _ rfl ⟨0, ZI_0, fun _ => rfl, fun q => absurd q (by decide)⟩ X
  obtain ⟨s2, z2, X2, H2⟩ := pAll_run (fun k st => ZI (vA k 0 0 0 0) sg st) (tP D) (cP D) (fun k st r hk z Y => by
    have Y' : rL β L st.2.2.2 (wPa ++ 32 :: (nmB 0 (vA k 0 0 0 0 0) ++ 59 :: r)) := by
      have e : tP D k ++ r = wPa ++ 32 :: (nmB 0 k ++ 59 :: r) := by unfold tP; simp only [List.append_assoc, List.cons_append, List.nil_append]
      rw [e] at Y; exact Y
    obtain ⟨st', e, z', Y2⟩ := rd_party Y' z (show k < 5 by omega) rfl
    rw [vA_0] at z'
    exact ⟨st', e, z', Y2⟩) (cP D) 0 s1 _ (Nat.zero_add _) z1.1 X1
  obtain ⟨s3, z3, X3, H3⟩ := pAll_run (fun k st => ZI (vA (cP D) k 0 0 0) sg st) (tR D) (cR D) (fun k st r hk z Y => by
    unfold tR at Y
    by_cases q : D 2 k 0 = 0
    · rw [if_pos q] at Y
      have Y' : rL β L st.2.2.2 (wRe ++ 32 :: (nmB 1 (vA (cP D) k 0 0 0 1) ++ 59 :: r)) := by
        have e : (wRe ++ 32 :: (nmB 1 k ++ [59])) ++ r = wRe ++ 32 :: (nmB 1 k ++ 59 :: r) := by simp only [List.append_assoc, List.cons_append, List.nil_append]
        rw [e] at Y; exact Y
      obtain ⟨st', e, z', Y2⟩ := rd_region0 Y' z (show k < 5 by omega)
      rw [vA_1] at z'
      exact ⟨st', e, z', Y2⟩
    · rw [if_neg q] at Y
      have Y' : rL β L st.2.2.2 (wRe ++ 32 :: (nmB 1 (vA (cP D) k 0 0 0 1) ++ 32 :: (wI ++ 32 :: (nmB 1 (D 2 k 0 - 1) ++ 59 :: r)))) := by
        have e : (wRe ++ 32 :: (nmB 1 k ++ 32 :: (wI ++ 32 :: (nmB 1 (D 2 k 0 - 1) ++ [59])))) ++ r = wRe ++ 32 :: (nmB 1 k ++ 32 :: (wI ++ 32 :: (nmB 1 (D 2 k 0 - 1) ++ 59 :: r))) := by simp only [List.append_assoc, List.cons_append, List.nil_append]
        rw [e] at Y; exact Y
      have h2k := h2 k
      obtain ⟨st', e, z', Y2⟩ := rd_region1 Y' z (show k < 5 by omega) (show D 2 k 0 - 1 < k by omega)
      rw [vA_1] at z'
      exact ⟨st', e, z', Y2⟩) (cR D) 0 s2 _ (Nat.zero_add _) z2 X2
  obtain ⟨s4, z4, X4, H4⟩ := pAll_run (fun k st => ZI (vA (cP D) (cR D) k 0 0) sg st) (tV D) (cW D) (fun k st r hk z Y => by
    have Y' : rL β L st.2.2.2 (wWa ++ 32 :: (nmB 2 (vA (cP D) (cR D) k 0 0 2) ++ 32 :: (nmB 1 (D 3 k 0) ++ 59 :: r))) := by
      have e : tV D k ++ r = wWa ++ 32 :: (nmB 2 k ++ 32 :: (nmB 1 (D 3 k 0) ++ 59 :: r)) := by unfold tV; simp only [List.append_assoc, List.cons_append, List.nil_append]
      rw [e] at Y; exact Y
    obtain ⟨st', e, z', Y2⟩ := rd_ward Y' z (show k < 6 by omega) (h3 k)
    rw [vA_2] at z'
    exact ⟨st', e, z', Y2⟩) (cW D) 0 s3 _ (Nat.zero_add _) z3 X3
  have pe : ∀ (f : Nat → Nat) (d p : Nat) (r : List Nat), papL f d p [59] ++ r = papL f d p (59 :: r) := by
    intro f d
    induction d with
    | zero => intro p r; rfl
    | succ d ih =>
      intro p r
      show 32 :: ((dl (f p) ++ papL f d (p + 1) [59]) ++ r) = 32 :: (dl (f p) ++ papL f d (p + 1) (59 :: r))
      rw [List.append_assoc, ih]
  obtain ⟨s5, z5, X5, H5⟩ := pAll_run (fun k st => ZI (vA (cP D) (cR D) (cW D) k 0) sg st) (tB D) (cB D) (fun k st r hk z Y => by
    have Y' : rL β L st.2.2.2 (wBo ++ 32 :: (nmB 3 (vA (cP D) (cR D) (cW D) k 0 3) ++ 32 :: (nmB 2 (D 4 k 0) ++ 32 :: (dl (D 5 k 0) ++ 32 :: (dl (D 6 k 0) ++ papL (D 7 k) (vA (cP D) (cR D) (cW D) k 0 0 + 1) 0 (59 :: r)))))) := by
      have e : tB D k ++ r = wBo ++ 32 :: (nmB 3 k ++ 32 :: (nmB 2 (D 4 k 0) ++ 32 :: (dl (D 5 k 0) ++ 32 :: (dl (D 6 k 0) ++ papL (D 7 k) (cP D + 1) 0 (59 :: r))))) := by unfold tB; simp only [List.append_assoc, List.cons_append, List.nil_append, pe]
      rw [e] at Y; exact Y
    obtain ⟨st', e, z', Y2⟩ := rd_box (h7 k) (h5 k) (h6 k) Y' z (show k < 8 by omega) (h4 k)
    rw [vA_3] at z'
    exact ⟨st', e, z', Y2⟩) (cB D) 0 s4 _ (Nat.zero_add _) z4 X4
  rw [← List.append_nil (catR (tT D) (cT D) 0)] at X5
  obtain ⟨s6, z6, X6, H6⟩ := pAll_run (fun k st => ZI (vA (cP D) (cR D) (cW D) (cB D) k) sg st) (tT D) (cT D) (fun k st r hk z Y => by
    have Y' : rL β L st.2.2.2 (wTa ++ 32 :: (dl (D 8 k 0) ++ 59 :: r)) := by
      have e : tT D k ++ r = wTa ++ 32 :: (dl (D 8 k 0) ++ 59 :: r) := by unfold tT; simp only [List.append_assoc, List.cons_append, List.nil_append]
      rw [e] at Y; exact Y
    obtain ⟨st', e, z', Y2⟩ := rd_table (h8 k) Y' z (show k < 4 by omega)
    rw [vA_4] at z'
    exact ⟨st', e, z', Y2⟩) (cT D) 0 s5 _ (Nat.zero_add _) z5 X5
  have fin : ∀ F, pAll β L F s6 = .inr (0, s6) := fun F => by
    cases F with
    | zero => rfl
    | succ F =>
      rw [pAll_s, if_pos (tok_e X6)]
  have e := H1 _ _ _ (H2 _ _ _ (H3 _ _ _ (H4 _ _ _ (H5 _ _ _ (H6 _ _ _ (fin (1000 - (2 + cP D + cR D + cW D + cB D + cT D))))))))
  refine ⟨s6, ?_, z6.1⟩
  rw [show 1000 - (2 + cP D + cR D + cW D + cB D + cT D) + cT D + cB D + cW D + cR D + cP D + 2 = 1000 by omega] at e
  rw [e]
  congr 2
  omega
end P91
