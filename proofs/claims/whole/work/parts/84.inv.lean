/-! PURE: what holds between two calls -/
section P84
variable {hp h hp' : zHp} {c p u fl cap sz : Nat} {ro : Nat → Nat} {ea v : Int32} {T N F F' : Nat → Int32} {S S' : Nat → Nat → Int32} {σ β : Nat → Nat} {Ps : Nat → Nat → Int32} {l : List Nat}
/-- the class's side -/
def JC (hp : zHp) (c : Nat) (ro : Nat → Nat) (sz p : Nat) (ea : Int32) (T N : Nat → Int32) (σ : Nat → Nat) (u : Nat) (Ps : Nat → Nat → Int32) (β : Nat → Nat) (fl cap : Nat) (l : List Nat) : Prop :=
  wW hp c p ea T N σ u Ps ∧ wCL hp c p ∧ (∃ I Bt, wIn hp (c + 2) I Bt ∧ I 1 = Int32.ofNat fl ∧ ∀ j, j < fl → Bt j = sxn (β j)) ∧ sbC (c + 646) hp (c + 635) sz cap l ∧ wSts hp c ro ∧ wDT hp ro ∧ (ro 30 < c ∧ ro 31 < c) ∧ (fl ≤ 900 ∧ ∀ j, j < fl → β j < 256) ∧ l.length ≤ 68
/-- the reference's side -/
def JR (hp : zHp) (c : Nat) (ea : Int32) (T N : Nat → Int32) (u : Nat) (Ps : Nat → Nat → Int32) (β : Nat → Nat) (fl : Nat) (l : List Nat) (F : Nat → Int32) (S : Nat → Nat → Int32) : Prop :=
  wMF hp (c + 637) F S ∧ (F 2 = Int32.ofNat fl ∧ F 8 = Int32.ofNat u ∧ F 16 = ea ∧ F 20 = Int32.ofNat l.length) ∧ (S 2 = T ∧ S 4 = N) ∧ (∀ j, j < fl → S 1 j = Int32.ofNat (β j)) ∧ (∀ j, j < l.length → S 7 j = lW l j) ∧ (∀ i, i < u → Ps i = rowOf (S 6) i) ∧ zz S
theorem sbC_fr {B0 a : Nat} (X : sbC B0 hp a sz cap l) (f : ∀ i, i ≤ a + 1 ∨ B0 ≤ i → h i = hp i) : sbC B0 h a sz cap l := by
  obtain ⟨bs, ⟨⟨m, x1⟩, g, x2, x3⟩, y2, y3, y4, y5, y6, y7⟩ := X
  exact ⟨bs, ⟨⟨m, by rw [f a (by omega)]; exact x1⟩, g, by rw [f bs (by omega)]; exact x2, x3⟩, y2, y3, y4, y5, y6, y7⟩
/-- the class's side bears what the reference writes -/
theorem JC_fr (J : JC hp c ro sz p ea T N σ u Ps β fl cap l) (f : ∀ i, i < c + 637 ∨ c + 646 ≤ i → h i = hp i) : JC h c ro sz p ea T N σ u Ps β fl cap l := by
  obtain ⟨j1, ⟨⟨sg, ee, j2⟩, R, j3⟩, ⟨I, Bt, j4, j5⟩, j6, j7, ⟨⟨t1, t2, t3⟩, t4, t5, t6⟩, j9, j10, j11⟩ := J
  have hd : oth c p = c + 4 ∨ oth c p = c + 33 := by unfold oth; split <;> omega
  exact ⟨wW_fr j1 (fun a ha => f a (by have := j1.2.1; omega)), ⟨⟨sg, ee, by unfold wLd; rw [f _ (by omega)]; exact j2⟩, R, wP_fr j3 (fun i i1 i2 => f i (by omega))⟩, ⟨I, Bt, in_fr j4 (fun i i1 i2 => f i (by omega)), j5⟩, sbC_fr j6 (fun i hi => f i (by omega)), sts_fr j7 (fun i hi => f i (by omega)), ⟨⟨t1, by rw [f _ (by omega)]; exact t2, t3⟩, t4, by rw [f _ (by omega)]; exact t5, t6⟩, j9, j10, j11⟩
/-- the reference's side bears what the class writes -/
theorem JR_fr (J : JR hp c ea T N u Ps β fl l F S) (f : ∀ i, c + 637 ≤ i → i < c + 645 → h i = hp i) : JR h c ea T N u Ps β fl l F S := by
  obtain ⟨j1, j2⟩ := J
  exact ⟨wMF_fr j1 (fun a h1 h2 => f a h1 (by omega)), j2⟩
/-- the reference notes that nothing, or something, was thrown -/
theorem JR_th (J : JR hp c ea T N u Ps β fl l F S) (v : Int32) : JR (zth hp (c + 637) F v) c ea T N u Ps β fl l (upd F 0 v) S := by
  obtain ⟨j1, ⟨a1, a2, a3, a4⟩, j3⟩ := J
  exact ⟨wMF_th j1 v, ⟨by rw [upd_ne _ _ (by decide)]; exact a1, by rw [upd_ne _ _ (by decide)]; exact a2, by rw [upd_ne _ _ (by decide)]; exact a3, by rw [upd_ne _ _ (by decide)]; exact a4⟩, j3⟩
theorem JC_th (J : JC hp c ro sz p ea T N σ u Ps β fl cap l) (F : Nat → Int32) (v : Int32) : JC (zth hp (c + 637) F v) c ro sz p ea T N σ u Ps β fl cap l := JC_fr J (fun i hi => zup_ne (by omega))
end P84
