/-! PURE: a load, on both sides -/
section P85
variable {hp h hp' : zHp} {c p u fl cap sz : Nat} {ro : Nat → Nat} {ea v : Int32} {T N F F' : Nat → Int32} {S S' : Nat → Nat → Int32} {σ β : Nat → Nat} {Ps : Nat → Nat → Int32} {l : List Nat}
theorem sbC_fr2 {B0 a : Nat} (X : sbC B0 hp a sz cap l) (f : ∀ i, a ≤ i → h i = hp i) : sbC B0 h a sz cap l := by
  obtain ⟨bs, ⟨⟨m, x1⟩, g, x2, x3⟩, y2, y3, y4, y5, y6, y7⟩ := X
  exact ⟨bs, ⟨⟨m, by rw [f a (by omega)]; exact x1⟩, g, by rw [f bs (by omega)]; exact x2, x3⟩, y2, y3, y4, y5, y6, y7⟩
theorem wDT_lo (X : wDT hp ro) (hro : ro 30 < c ∧ ro 31 < c) (f : ∀ i, i < c → h i = hp i) : wDT h ro := by
  obtain ⟨⟨t1, t2, t3⟩, t4, t5, t6⟩ := X
  exact ⟨⟨t1, by rw [f _ hro.1]; exact t2, t3⟩, t4, by rw [f _ hro.2]; exact t5, t6⟩
theorem J_load (J : JC hp c ro sz p ea T N σ u Ps β fl cap l) (R : JR hp c ea T N u Ps β fl l F S) (y : Int32) : ∃ r h1 h2, f_X7_load ro c y hp = some (r, h1) ∧ f_X8_load ro (c + 637) y h1 = some (r, h2) ∧ (∀ i, i < c ∨ c + 645 ≤ i → h1 i = hp i ∧ h2 i = hp i) ∧ ∃ p' ea' T' N' u' fl' F' S', JC h2 c ro sz p' ea' T' N' σ u' Ps β fl' cap l ∧ JR h2 c ea' T' N' u' Ps β fl' l F' S' := by
  have J0 := J
  obtain ⟨j1, j2, ⟨I, Bt, j4, j5, j5'⟩, j6, j7, j8, j9, ⟨j10, j10'⟩, j11⟩ := J
  obtain ⟨r1, ⟨r2, r3, r4, r5⟩, ⟨r6, r7⟩, r8, r9, r10, r11⟩ := R
  by_cases bad : y < 0 ∨ Int32.ofNat fl < y
  · obtain ⟨h2, e2, W2, f2⟩ := R_loadBad (ro := ro) r1 r2 y bad
    refine ⟨-2, hp, h2, C_loadBad j1 j2 j4 j5 y bad, e2, fun i hi => ⟨rfl, f2 i (by omega)⟩, p, ea, T, N, u, fl, _, S, JC_fr J0 (fun i hi => f2 i (by omega)), W2, ⟨?_, ?_, ?_, ?_⟩, ⟨r6, r7⟩, r8, r9, r10, r11⟩
    · rw [upd_ne _ _ (by decide)]; exact r2
    · rw [upd_ne _ _ (by decide)]; exact r3
    · rw [upd_ne _ _ (by decide)]; exact r4
    · rw [upd_ne _ _ (by decide)]; exact r5
  · obtain ⟨L, hL, hL2⟩ := pn_pos (x := y) (fun q => bad (Or.inl q))
    subst hL
    have hLf : L ≤ fl := by
      by_cases q : L ≤ fl
      · exact q
      · exact absurd (Or.inr (by rw [pn_lt (by omega) hL2]; omega)) bad
    have C := C_load (L := L) (β := β) (ro := ro) j1 j2 j4 j5 j10 hLf ⟨by omega, fun j hj => ⟨j5' j (by omega), j10' j (by omega)⟩⟩ j7
    have K : ∀ h1 : zHp, (∀ a, a < c ∨ c + 635 ≤ a → h1 a = hp a) → wMF h1 (c + 637) F S ∧ wSts h1 c ro ∧ wDT h1 ro ∧ sbC (c + 646) h1 (c + 635) sz cap l := fun h1 f1 => ⟨wMF_fr r1 (fun a h1 h2 => f1 a (by omega)), sts_fr j7 (fun a ha => f1 a (by omega)), wDT_lo j8 j9 (fun a ha => f1 a (by omega)), sbC_fr2 j6 (fun i hi => f1 i (by omega))⟩
    rcases hr : pAll β L 1000 st0 with ⟨e, j⟩ | ⟨q, st'⟩
    · rw [hr] at C
      obtain ⟨h1, e1, w1, w2, ⟨I', Bt', w3, w3'⟩, f1⟩ := C
      obtain ⟨k1, k2, k3, k4⟩ := K h1 f1
      have RL := R_load (L := L) (β := β) (ro := ro) (c := c) k1 r11 r2 j10 hLf ⟨by omega, fun j hj => ⟨r8 j (by omega), j10' j (by omega)⟩⟩ k2 (by omega)
      rw [hr] at RL
      obtain ⟨h2, F', S', e2, W2, ⟨a0, a2, a16, a8, a20⟩, ⟨s2, s4, s6, s7⟩, z', f2⟩ := RL
      have J1 : JC h1 c ro sz p (Int32.ofNat (tS β L j)) T N σ u Ps β 0 cap l := ⟨w1, w2, ⟨I', Bt', w3, w3', fun j hj => absurd hj (Nat.not_lt_zero j)⟩, k4, k2, k3, j9, ⟨Nat.zero_le _, fun j hj => absurd hj (Nat.not_lt_zero j)⟩, j11⟩
      exact ⟨e, h1, h2, e1, e2, fun i hi => ⟨f1 i (by omega), by rw [f2 i (by omega), f1 i (by omega)]⟩, p, _, T, N, u, 0, F', S', JC_fr J1 (fun i hi => f2 i (by omega)), W2, ⟨a2, a8.trans r3, a16, a20.trans r5⟩, ⟨s2.trans r6, s4.trans r7⟩, fun j hj => absurd hj (Nat.not_lt_zero j), fun j hj => by rw [s7]; exact r9 j hj, fun i hi => by rw [s6]; exact r10 i hi, z'⟩
    · rw [hr] at C
      obtain ⟨h1, e1, w1, w2, ⟨I', Bt', w3, w3'⟩, f1⟩ := C
      obtain ⟨k1, k2, k3, k4⟩ := K h1 f1
      have RL := R_load (L := L) (β := β) (ro := ro) (c := c) k1 r11 r2 j10 hLf ⟨by omega, fun j hj => ⟨r8 j (by omega), j10' j (by omega)⟩⟩ k2 (by omega)
      rw [hr] at RL
      obtain ⟨h2, F', S', e2, W2, ⟨a0, a2, a16, a8, a20⟩, ⟨s2, s4, s6, s7⟩, z', f2⟩ := RL
      have J1 : JC h1 c ro sz (oth c p) (-1) st'.1 st'.2.1 σ 0 Ps β 0 cap l := ⟨w1, w2, ⟨I', Bt', w3, w3', fun j hj => absurd hj (Nat.not_lt_zero j)⟩, k4, k2, k3, j9, ⟨Nat.zero_le _, fun j hj => absurd hj (Nat.not_lt_zero j)⟩, j11⟩
      exact ⟨Int32.ofNat q, h1, h2, e1, e2, fun i hi => ⟨f1 i (by omega), by rw [f2 i (by omega), f1 i (by omega)]⟩, oth c p, _, st'.1, st'.2.1, 0, 0, F', S', JC_fr J1 (fun i hi => f2 i (by omega)), W2, ⟨a2, a8, a16, a20.trans r5⟩, ⟨s2, s4⟩, fun j hj => absurd hj (Nat.not_lt_zero j), fun j hj => by rw [s7]; exact r9 j hj, fun i hi => absurd hi (Nat.not_lt_zero i), z'⟩
end P85
