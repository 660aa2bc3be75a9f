/-! PURE: a write, on both sides, and the readers of the fields -/
section P86
variable {hp h hp' : zHp} {c p u fl cap sz : Nat} {ro : Nat → Nat} {ea v : Int32} {T N F F' : Nat → Int32} {S S' : Nat → Nat → Int32} {σ β : Nat → Nat} {Ps : Nat → Nat → Int32} {l : List Nat}
theorem inr_ex {y : Int32} {n : Nat} (hn : n < 2147483648) (h : inr y n = true) : ∃ k, y = Int32.ofNat k ∧ k < n := by
  unfold inr at h
  rw [Bool.and_eq_true] at h
  have h1 : ¬ y < 0 := by simpa using h.1
  exact pn_in hn h1 (of_decide_eq_true h.2)
theorem J_writeBad (J : JC hp c ro sz p ea T N σ u Ps β fl cap l) (R : JR hp c ea T N u Ps β fl l F S) (y : Int32) (hy : inr y (sN T 2) = false) : f_X7_write ro 23 11300 c y hp sz = some none ∧ f_X8_write (c + 637) y hp = some (0, zth hp (c + 637) F 1) := by
  refine ⟨C_writeBad J.1 y hy, ?_⟩
  have I := hh_I J.1.1.2
  obtain ⟨r1, -, ⟨r6, r7⟩, -⟩ := R
  exact R_writeBad r1 (by rw [r6, r7]; exact I) y (by rw [r6]; exact hy)
theorem J_write (J : JC hp c ro sz p ea T N σ u Ps β fl cap l) (R : JR hp c ea T N u Ps β fl l F S) (y : Int32) (hy : inr y (sN T 2) = true) : ∃ r h1 sz' h2, f_X7_write ro 23 11300 c y hp sz = some (some (r, h1, sz')) ∧ f_X8_write (c + 637) y h1 = some (r, h2) ∧ sz ≤ sz' ∧ (∀ i, i < c ∨ i = c + 645 → h1 i = hp i ∧ h2 i = hp i) ∧ ∃ cap' l' F' S', F' 0 = 0 ∧ JC h2 c ro sz' p ea T N σ u Ps β fl cap' l' ∧ JR h2 c ea T N u Ps β fl l' F' S' := by
  obtain ⟨j1, j2, j3, j6, j7, j8, j9, j10, j11⟩ := J
  have I := hh_I j1.1.2
  have h26 := sI_2 I
  obtain ⟨w, ew, hw⟩ := inr_ex (by omega) hy
  subst ew
  obtain ⟨h1, sz', cap', e1, w1, w2, s1, f1⟩ := C_write j1 j6 j11 j8 j9 (by omega) j7.2.2.1 hw
  obtain ⟨r1, ⟨r2, r3, r4, r5⟩, ⟨r6, r7⟩, r8, r9, r10, r11⟩ := R
  have W1 : wMF h1 (c + 637) F S := wMF_fr r1 (fun a h1 h2 => f1 a (by omega) (by omega) (by omega))
  obtain ⟨h2, F', S', e2, W2, a0, a20, a7, ak, as, f2⟩ := R_write W1 (by rw [r6, r7]; exact I) (w := w) (by rw [r6]; exact hw)
  rw [r6, r7] at e2 a20 a7
  have hlen := wrL_len T N w (sI_0 I)
  obtain ⟨⟨sg, ee, k1⟩, R', k2⟩ := j2
  obtain ⟨I', Bt, k3, k4⟩ := j3
  have hd : oth c p = c + 4 ∨ oth c p = c + 33 := by unfold oth; split <;> omega
  have J1 : JC h1 c ro sz' p ea T N σ u Ps β fl cap' (wrL T N w) := ⟨w1, ⟨⟨sg, ee, by unfold wLd; rw [f1 _ (by omega) (by omega) (by omega)]; exact k1⟩, R', wP_fr k2 (fun i i1 i2 => f1 i (by omega) (by omega) (by omega))⟩, ⟨I', Bt, in_fr k3 (fun i i1 i2 => f1 i (by omega) (by omega) (by omega)), k4⟩, w2, sts_fr j7 (fun i hi => f1 i (by omega) (by omega) (by omega)), wDT_lo j8 j9 (fun i hi => f1 i (by omega) (by omega) (by omega)), j9, j10, hlen⟩
  refine ⟨_, h1, sz', h2, e1, e2, s1, fun i hi => ⟨f1 i (by omega) (by omega) (by omega), by rw [f2 i (by omega), f1 i (by omega) (by omega) (by omega)]⟩, cap', wrL T N w, F', S', a0, JC_fr J1 (fun i hi => f2 i (by omega)), W2, ⟨by rw [ak 2 (by decide) (by decide)]; exact r2, by rw [ak 8 (by decide) (by decide)]; exact r3, by rw [ak 16 (by decide) (by decide)]; exact r4, a20⟩, ⟨by rw [as 2 (by decide)]; exact r6, by rw [as 4 (by decide)]; exact r7⟩, fun j hj => by rw [as 1 (by decide)]; exact r8 j hj, a7, fun i hi => by rw [as 6 (by decide)]; exact r10 i hi, ⟨fun k hk => by rw [as 2 (by decide)]; exact r11.1 k hk, fun k hk => by rw [as 4 (by decide)]; exact r11.2 k hk⟩⟩
theorem J_outputAt (J : JC hp c ro sz p ea T N σ u Ps β fl cap l) (R : JR hp c ea T N u Ps β fl l F S) (y : Int32) : f_X7_outputAt c y hp = some (outAt l y) ∧ f_X8_outputAt (c + 637) y hp = some (outAt l y, zth hp (c + 637) F 0) := by
  obtain ⟨j1, j2, j3, j6, j7, j8, j9, j10, j11⟩ := J
  obtain ⟨r1, ⟨r2, r3, r4, r5⟩, ⟨r6, r7⟩, r8, r9, r10, r11⟩ := R
  exact ⟨C_outputAt j1 j6 j11 y, R_outputAt r1 r5 j11 r9 y⟩
theorem J_errorPosition (J : JC hp c ro sz p ea T N σ u Ps β fl cap l) (R : JR hp c ea T N u Ps β fl l F S) : f_X7_errorPosition c hp = some ea ∧ f_X8_errorPosition (c + 637) hp = some (ea, zth hp (c + 637) F 0) := by
  obtain ⟨r1, ⟨r2, r3, r4, r5⟩, -⟩ := R
  have := R_errorPosition r1
  rw [r4] at this
  exact ⟨C_errorPosition J.1, this⟩
theorem J_undoCount (J : JC hp c ro sz p ea T N σ u Ps β fl cap l) (R : JR hp c ea T N u Ps β fl l F S) : f_X7_undoCount c hp = some (Int32.ofNat u) ∧ f_X8_undoCount (c + 637) hp = some (Int32.ofNat u, zth hp (c + 637) F 0) := by
  obtain ⟨r1, ⟨r2, r3, r4, r5⟩, -⟩ := R
  have := R_undoCount r1
  rw [r3] at this
  exact ⟨C_undoCount J.1, this⟩
end P86
