/-! PURE: bytes fed, on both sides -/
section P87
variable {hp h hp' : zHp} {c p u fl cap sz : Nat} {ro : Nat → Nat} {ea v : Int32} {T N F F' : Nat → Int32} {S S' : Nat → Nat → Int32} {σ β : Nat → Nat} {Ps : Nat → Nat → Int32} {l : List Nat}
theorem J_feed (J : JC hp c ro sz p ea T N σ u Ps β fl cap l) (R : JR hp c ea T N u Ps β fl l F S) (y1 y2 y3 y4 y5 : Int32) : ∃ r h1 h2, f_X7_feed c y1 y2 y3 y4 y5 hp = some (r, h1) ∧ f_X8_feed (c + 637) y1 y2 y3 y4 y5 h1 = some (r, h2) ∧ (∀ i, i < c ∨ c + 645 ≤ i → h1 i = hp i ∧ h2 i = hp i) ∧ ∃ β' fl' F' S', JC h2 c ro sz p ea T N σ u Ps β' fl' cap l ∧ JR h2 c ea T N u Ps β' fl' l F' S' := by
  have J0 := J
  have R0 := R
  obtain ⟨j1, ⟨⟨sg, ee, k1⟩, R', k2⟩, ⟨I, Bt, j4, j5, j5'⟩, j6, j7, j8, j9, ⟨j10, j10'⟩, j11⟩ := J
  obtain ⟨r1, ⟨r2, r3, r4, r5⟩, ⟨r6, r7⟩, r8, r9, r10, r11⟩ := R
  have hd : oth c p = c + 4 ∨ oth c p = c + 33 := by unfold oth; split <;> omega
  by_cases q : fl + 20 ≤ 900
  · obtain ⟨h1, I', Bt', e1, w1, i1, b1, f1⟩ := C_feed (ld := 0) j1.1.1 k1 j4 j5 q y1 y2 y3 y4 y5
    have W1 : wMF h1 (c + 637) F S := wMF_fr r1 (fun a h1 h2 => f1 a (by omega))
    obtain ⟨h2, P, e2, W2, f2, p2⟩ := R_feed W1 r2 q y1 y2 y3 y4 y5
    have B0 : inB fl Bt (S 1) := fun j hj => ⟨by rw [j5' j hj, r8 j hj]; rfl, β j, j10' j hj, r8 j hj⟩
    have B1 := inB_feed B0 b1 p2
    have J1 : JC h1 c ro sz p ea T N σ u Ps (fun j => (P j).toNatClampNeg) (fl + 20) cap l := ⟨wW_fr j1 (fun a ha => f1 a (by have := j1.2.1; omega)), ⟨⟨sg, ee, by unfold wLd; rw [f1 _ (by omega)]; exact k1⟩, R', wP_fr k2 (fun i i1 i2 => f1 i (by omega))⟩, ⟨I', Bt', w1, i1, fun j hj => by
        obtain ⟨a1, n, a2, a3⟩ := B1 j hj
        rw [a1]
        show _ = sxn (P j).toNatClampNeg
        rw [a3, pn_nat (by omega)]; rfl⟩, sbC_fr2 j6 (fun i hi => f1 i (by omega)), sts_fr j7 (fun i hi => f1 i (by omega)), wDT_lo j8 j9 (fun i hi => f1 i (by omega)), j9, ⟨q, fun j hj => by
        obtain ⟨a1, n, a2, a3⟩ := B1 j hj
        show (P j).toNatClampNeg < 256
        rw [a3, pn_nat (by omega)]; exact a2⟩, j11⟩
    refine ⟨_, h1, h2, e1, e2, fun i hi => ⟨f1 i (by omega), by rw [f2 i (by omega), f1 i (by omega)]⟩, _, fl + 20, _, _, JC_fr J1 (fun i hi => f2 i (by omega)), W2, ⟨upd_self _ _ _, by rw [upd_ne _ _ (by decide), upd_ne _ _ (by decide)]; exact r3, by rw [upd_ne _ _ (by decide), upd_ne _ _ (by decide)]; exact r4, by rw [upd_ne _ _ (by decide), upd_ne _ _ (by decide)]; exact r5⟩, ⟨by rw [g1_ne _ _ (by decide)]; exact r6, by rw [g1_ne _ _ (by decide)]; exact r7⟩, fun j hj => ?_, fun j hj => by rw [g1_ne _ _ (by decide)]; exact r9 j hj, fun i hi => by rw [g1_ne _ _ (by decide)]; exact r10 i hi, ⟨fun k hk => by rw [g1_ne _ _ (by decide)]; exact r11.1 k hk, fun k hk => by rw [g1_ne _ _ (by decide)]; exact r11.2 k hk⟩⟩
    obtain ⟨a1, n, a2, a3⟩ := B1 j hj
    rw [g1_self]
    show P j = Int32.ofNat (P j).toNatClampNeg
    rw [a3, pn_nat (by omega)]
  · refine ⟨-5, hp, _, C_feedFull (ld := 0) j1.1.1 k1 j4 j5 j10 q y1 y2 y3 y4 y5, R_feedFull r1 r2 j10 q y1 y2 y3 y4 y5, fun i hi => ⟨rfl, zup_ne (by omega)⟩, β, fl, _, S, JC_th J0 F 0, JR_th R0 0⟩
end P87
