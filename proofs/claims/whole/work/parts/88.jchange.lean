/-! PURE: a change, on both sides -/
section P88
variable {hp h hp' : zHp} {c p u fl cap sz : Nat} {ro : Nat → Nat} {ea v : Int32} {T N F F' : Nat → Int32} {S S' : Nat → Nat → Int32} {σ β : Nat → Nat} {Ps Ps' : Nat → Nat → Int32} {l : List Nat}
theorem wW_Ps (X : wW hp c p ea T N σ u Ps) (e : ∀ i, i < u → Ps i = Ps' i) : wW hp c p ea T N σ u Ps' := by
  obtain ⟨K, hpp, hu, X1, Z⟩ := X
  exact ⟨K, hpp, hu, X1, fun i hi => by rw [← e i hi]; exact Z i hi⟩
theorem J_PM {fc fr : zHp → Option (Int32 × zHp)} (J : JC hp c ro sz p ea T N σ u Ps β fl cap l) (R : JR hp c ea T N u Ps β fl l F S) (M : zPM fc fr hp c p ea (c + 637) F S u) : ∃ r h1 h2, fc hp = some (r, h1) ∧ fr h1 = some (r, h2) ∧ (∀ i, i < c ∨ c + 645 ≤ i → h1 i = hp i ∧ h2 i = hp i) ∧ ∃ N' σ' u' Ps' F' S', JC h2 c ro sz p ea T N' σ' u' Ps' β fl cap l ∧ JR h2 c ea T N' u' Ps' β fl l F' S' := by
  have J0 := J
  have R0 := R
  obtain ⟨j1, ⟨⟨sg, ee, k1⟩, R', k2⟩, ⟨I, Bt, j4, j5⟩, j6, j7, j8, j9, j10, j11⟩ := J
  obtain ⟨r1, ⟨r2, r3, r4, r5⟩, ⟨r6, r7⟩, r8, r9, r10, r11⟩ := R
  have hd : oth c p = c + 4 ∨ oth c p = c + 33 := by unfold oth; split <;> omega
  rcases M with ⟨r, m1, m2⟩ | ⟨r, N', ⟨h1, σ', m1, f1, w1⟩, zN, m2⟩
  · exact ⟨r, hp, _, m1, m2 hp r1, fun i hi => ⟨rfl, zup_ne (by omega)⟩, N, σ, u, Ps, _, S, JC_th J0 F 0, JR_th R0 0⟩
  · have W1 : wMF h1 (c + 637) F S := wMF_fr r1 (fun a h1 h2 => f1 a (by omega))
    obtain ⟨h2, P, e2, W2, f2, p2⟩ := m2 h1 W1
    rw [r6] at w1
    have J1 : JC h1 c ro sz p ea T N' σ' (uK u) (hKeep u (S 4) (rowOf (S 6))) β fl cap l := ⟨w1, ⟨⟨sg, ee, by unfold wLd; rw [f1 _ (by omega)]; exact k1⟩, R', wP_fr k2 (fun i i1 i2 => f1 i (by omega))⟩, ⟨I, Bt, in_fr j4 (fun i i1 i2 => f1 i (by omega)), j5⟩, sbC_fr2 j6 (fun i hi => f1 i (by omega)), sts_fr j7 (fun i hi => f1 i (by omega)), wDT_lo j8 j9 (fun i hi => f1 i (by omega)), j9, j10, j11⟩
    refine ⟨r, h1, h2, m1, e2, fun i hi => ⟨f1 i (by omega), by rw [f2 i (by omega), f1 i (by omega)]⟩, N', σ', uK u, _, _, _, JC_fr J1 (fun i hi => f2 i (by omega)), W2, ⟨?_, upd_self _ _ _, ?_, ?_⟩, ⟨?_, g1_self _ _ _⟩, fun j hj => ?_, fun j hj => ?_, fun i hi => ?_, ⟨fun k hk => ?_, fun k hk => ?_⟩⟩
    · rw [upd_ne _ _ (by decide), upd_ne _ _ (by decide)]; exact r2
    · rw [upd_ne _ _ (by decide), upd_ne _ _ (by decide)]; exact r4
    · rw [upd_ne _ _ (by decide), upd_ne _ _ (by decide)]; exact r5
    · rw [g1_ne _ _ (by decide), g1_ne _ _ (by decide)]; exact r6
    · rw [g1_ne _ _ (by decide), g1_ne _ _ (by decide)]; exact r8 j hj
    · rw [g1_ne _ _ (by decide), g1_ne _ _ (by decide)]; exact r9 j hj
    · rw [g1_ne _ _ (by decide), g1_self]; exact (p2 i hi).symm
    · rw [g1_ne _ _ (by decide), g1_ne _ _ (by decide)]; exact r11.1 k hk
    · rw [g1_self]; exact zN k hk
end P88
