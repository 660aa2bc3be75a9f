/-! the heap at the start: the script, the Strings and their bytes, the digits, each as the state has it -/
section P99e
variable {s : State} {b0 a : Nat} {D : va_G} {tc : Nat → ClassId}
def hpP (b0 : Nat) (s : State) (t a : Nat) (A : vp_A) : Prop := zRoA b0 s t a A s.heap ∧ A.1 < 2147483648
noncomputable def hp0 (b0 : Nat) (s : State) : zHp := fun a =>
  @dite _ (∃ A, hpP b0 s 0 a A) (Classical.propDecidable _) (fun h => some (.inl (10, Classical.choose h))) (fun _ =>
    @dite _ (∃ A, hpP b0 s 1 a A) (Classical.propDecidable _) (fun h => some (.inl (11, Classical.choose h))) (fun _ =>
      @dite _ (∃ fs, zRoS b0 s a fs s.heap) (Classical.propDecidable _) (fun h => some (.inr (20, Classical.choose h))) (fun _ => none)))
theorem hp0_0 (h : ∃ A, hpP b0 s 0 a A) : ∃ A, hp0 b0 s a = some (.inl (10, A)) ∧ hpP b0 s 0 a A := ⟨_, dif_pos h, Classical.choose_spec h⟩
theorem hp0_1 (n0 : ¬ ∃ A, hpP b0 s 0 a A) (h : ∃ A, hpP b0 s 1 a A) : ∃ A, hp0 b0 s a = some (.inl (11, A)) ∧ hpP b0 s 1 a A := ⟨_, (dif_neg n0).trans (dif_pos h), Classical.choose_spec h⟩
theorem hp0_2 (n0 : ¬ ∃ A, hpP b0 s 0 a A) (n1 : ¬ ∃ A, hpP b0 s 1 a A) (h : ∃ fs, zRoS b0 s a fs s.heap) : ∃ fs, hp0 b0 s a = some (.inr (20, fs)) ∧ zRoS b0 s a fs s.heap := ⟨_, (dif_neg n0).trans ((dif_neg n1).trans (dif_pos h)), Classical.choose_spec h⟩
theorem hp0_n (n0 : ¬ ∃ A, hpP b0 s 0 a A) (n1 : ¬ ∃ A, hpP b0 s 1 a A) (n2 : ¬ ∃ fs, zRoS b0 s a fs s.heap) : hp0 b0 s a = none := (dif_neg n0).trans ((dif_neg n1).trans (dif_neg n2))
theorem hp0_zI : zI D tc b0 s (hp0 b0 s) s.heap := by
  intro a o ha
  by_cases n0 : ∃ A, hpP b0 s 0 a A
  · obtain ⟨A, e, h, -⟩ := hp0_0 n0
    rw [e] at ha
    cases ha
    unfold zAt
    dsimp only
    rw [if_neg (by decide)]
    exact h
  · by_cases n1 : ∃ A, hpP b0 s 1 a A
    · obtain ⟨A, e, h, -⟩ := hp0_1 n0 n1
      rw [e] at ha
      cases ha
      unfold zAt
      dsimp only
      rw [if_neg (by decide)]
      exact h
    · by_cases n2 : ∃ fs, zRoS b0 s a fs s.heap
      · obtain ⟨fs, e, h⟩ := hp0_2 n0 n1 n2
        rw [e] at ha
        cases ha
        unfold zAt
        dsimp only
        rw [if_neg (by decide)]
        exact h
      · rw [hp0_n n0 n1 n2] at ha
        cases ha
/-- an array has one element type -/
theorem hp_01 {A B : vp_A} (h : zRoA b0 s 0 a A s.heap) (g : zRoA b0 s 1 a B s.heap) : False := by
  obtain ⟨f, -, cell, c1, ⟨-, k, c2, comp, c3⟩, -⟩ := h
  obtain ⟨f', -, cell', d1, ⟨-, k', d2, comp', d3⟩, -⟩ := g
  cases c1.symm.trans d1
  cases c2.symm.trans d2
  rw [if_pos rfl] at c3
  rw [if_neg (by decide)] at d3
  have := c3.symm.trans d3
  cases this
/-- the class of Strings is no array class -/
def sOrd (s : State) : Prop := ∃ (c : ClassId) (k : Class), s.vm.findClass "java/lang/String" = some c ∧ s.vm.classes[c]? = some k ∧ k.kind = .ordinary
theorem hp_sA {t : Nat} {A : vp_A} {fs : List Value} (hO : sOrd s) (h : zRoA b0 s t a A s.heap) (g : zRoS b0 s a fs s.heap) : False := by
  obtain ⟨f, -, cell, c1, ⟨-, k, c2, comp, c3⟩, -⟩ := h
  obtain ⟨v, -, ⟨cell', d1, d2, d3, -⟩, -⟩ := g
  obtain ⟨cS, kS, f1, f2, f3⟩ := hO
  cases c1.symm.trans d1
  cases f1.symm.trans d3
  cases c2.symm.trans f2
  rw [f3] at c3
  cases c3
/-- the script -/
theorem hp0_X {b L : Nat} {xs : Nat → Int32} (h : va_X b L xs s s.heap) (hL : L ≤ 260) (hb : ¬ b0 ≤ b) : ∃ f : Nat → Int32, hp0 b0 s b = some (.inl (10, L, .inl f)) := by
  obtain ⟨scr, h1, h2, h3, h4, h5⟩ := h
  have hX : ∃ A, hpP b0 s 0 b A := ⟨(L, .inl xs), ⟨xs, rfl, scr, h1, by rw [if_pos rfl]; exact h2, h3, Nat.le_of_eq h4.symm, by rw [h4], fun j hj => h5 j hj, hb⟩, by omega⟩
  obtain ⟨⟨N, B⟩, e, ⟨f, e2, cell, c1, c2, c3, c4, c5, c6, c7⟩, hN⟩ := hp0_0 hX
  cases c1.symm.trans h1
  have hNL : N = L := by
    have e5 : Int32.ofNat scr.slots.size = Int32.ofNat N := c5
    rw [h4] at e5
    rw [pn_inj (by omega) hN] at e5
    exact e5.symm
  refine ⟨f, ?_⟩
  rw [e]
  have e3 : B = .inl f := e2
  rw [e3, hNL]
/-- a byte array of the start -/
theorem hp0_T {v N : Nat} {g : Nat → Int32} (h : va_T .byte v N (fun j => .int (g j)) (fun q => b0 ≤ q) s s.heap) (hN : N < 2147483648) : ∃ f : Nat → Int32, hp0 b0 s v = some (.inl (11, N, .inl f)) ∧ ∀ k, k < N → f k = g k := by
  have hX : hpP b0 s 1 v (N, .inl g) := ⟨⟨g, rfl, by rw [if_neg (by decide)]; exact h⟩, hN⟩
  have n0 : ¬ ∃ A, hpP b0 s 0 v A := fun ⟨A, q, _⟩ => hp_01 q hX.1
  obtain ⟨cell', d1, d2, d3, d4, d5, d6, d7⟩ := h
  obtain ⟨⟨M, B⟩, e, ⟨f, e2, cell, c1, c2, c3, c4, c5, c6, c7⟩, hM⟩ := hp0_1 n0 ⟨_, hX⟩
  cases c1.symm.trans d1
  have hMN : M = N := by
    have e5 : Int32.ofNat M = Int32.ofNat N := c5.symm.trans d5
    rw [pn_inj hM hN] at e5
    exact e5
  subst hMN
  have e3 : B = .inl f := e2
  refine ⟨f, by rw [e, e3], fun k hk => ?_⟩
  have := (c6 k hk).symm.trans (d6 k hk)
  exact Value.int.inj (Option.some.inj this)
/-- a String of the start -/
theorem hp0_S {l : List Nat} {r v : Nat} (hO : sOrd s) (h : sAt s (fun q => b0 ≤ q) l r v) (hl : l.length < 2147483648) : wTxc (hp0 b0 s) b0 r l := by
  obtain ⟨h1, h2, h3, h4⟩ := h
  have hS : zRoS b0 s r [.ref v, .int 0] s.heap := by
    refine ⟨v, rfl, ?_, ?_, ?_⟩
    · obtain ⟨a1, a2, a3, a4, -⟩ := h1
      exact ⟨a1, a2, a3, a4, fun e => e rfl⟩
    · obtain ⟨cf, k, i, fd, cell, x1, x2, x3, x4, x5, -⟩ := h2
      exact ⟨cf, k, i, fd, cell, x1, x2, x3, x4, x5, fun e => e rfl⟩
    · obtain ⟨cf, k, i, fd, cell, x1, x2, x3, x4, x5, -⟩ := h3
      exact ⟨cf, k, i, fd, cell, x1, x2, x3, x4, x5, fun e => e rfl⟩
  have n0 : ¬ ∃ A, hpP b0 s 0 r A := fun ⟨A, q, _⟩ => hp_sA hO q hS
  have n1 : ¬ ∃ A, hpP b0 s 1 r A := fun ⟨A, q, _⟩ => hp_sA hO q hS
  obtain ⟨fs, e, v', e2, g1, g2, g3⟩ := hp0_2 n0 n1 ⟨_, hS⟩
  obtain ⟨f, e4, hf⟩ := hp0_T (g := fun j => Int32.ofNat (l.getD j 0)) h4 hl
  have hvv : v' = v := by
    obtain ⟨cf, k, i, fd, cell, x1, x2, x3, x4, x5, x6⟩ := g3
    obtain ⟨cf', k', i', fd', cell', y1, y2, y3, y4, y5, y6⟩ := h3
    cases x1.symm.trans y1
    cases x3.symm.trans y3
    have := x5.symm.trans y5
    exact Value.ref.inj (Option.some.inj this)
  obtain ⟨_, _, _, _, hr⟩ := h1
  obtain ⟨_, _, _, _, _, _, _, hv⟩ := h4
  refine ⟨Nat.not_le.mp hr, v, f, Nat.not_le.mp hv, by rw [e, e2, hvv], e4, hf⟩
end P99e
