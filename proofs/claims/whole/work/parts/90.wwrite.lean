/-! PURE: a write over the world; the law's wrapper of write once more, with the heap's size kept -/
section P90
variable {hp h hp' : zHp} {c s n sz z p u fl cap : Nat} {ro : Nat → Nat} {xs : Nat → Int32} {ea v : Int32} {T N F : Nat → Int32} {S : Nat → Nat → Int32} {σ β : Nat → Nat} {Ps : Nat → Nat → Int32} {l : List Nat} {g : Nat → Int64}
def zRw3 (t : Option (Int32 × zHp × Nat)) (hp h' : zHp) (sz : Nat) : Int32 → zHp → Nat → Prop := fun v h z => match t with
  | none => sz ≤ z ∧ v = 1 ∧ h = hp
  | some r => r.2.2 ≤ z ∧ v = 0 ∧ h = h'
theorem J_write2 (J : JC hp c ro sz p ea T N σ u Ps β fl cap l) (R : JR hp c ea T N u Ps β fl l F S) (y : Int32) (hy : inr y (sN T 2) = true) : ∃ r h1 sz', f_X7_write ro 23 11300 c y hp sz = some (some (r, h1, sz')) ∧ sz ≤ sz' ∧ (∀ i, i < c ∨ i = c + 645 → h1 i = hp i) ∧ ∀ o : zOb, ∃ h2, f_X8_write (c + 637) y (zup h1 (c + 645) o) = some (r, h2) ∧ (∀ i, i < c → h2 i = hp i) ∧ h2 (c + 645) = some o ∧ ∃ cap' l' F' S', F' 0 = 0 ∧ JC h2 c ro sz' p ea T N σ u Ps β fl cap' l' ∧ JR h2 c ea T N u Ps β fl l' F' S' := by
  obtain ⟨j1, j2, j3, j6, j7, j8, j9, j10, j11⟩ := J
  have I := hh_I j1.1.2
  have h26 := sI_2 I
  obtain ⟨w, ew, hw⟩ := inr_ex (by omega) hy
  subst ew
  obtain ⟨h1, sz', cap', e1, w1, w2, s1, f1⟩ := C_write j1 j6 j11 j8 j9 (by omega) j7.2.2.1 hw
  obtain ⟨r1, ⟨r2, r3, r4, r5⟩, ⟨r6, r7⟩, r8, r9, r10, r11⟩ := R
  have hlen := wrL_len T N w (sI_0 I)
  obtain ⟨⟨sg, ee, k1⟩, R', k2⟩ := j2
  obtain ⟨I', Bt, k3, k4⟩ := j3
  have hd : oth c p = c + 4 ∨ oth c p = c + 33 := by unfold oth; split <;> omega
  have J1 : JC h1 c ro sz' p ea T N σ u Ps β fl cap' (wrL T N w) := ⟨w1, ⟨⟨sg, ee, by unfold wLd; rw [f1 _ (by omega) (by omega) (by omega)]; exact k1⟩, R', wP_fr k2 (fun i i1 i2 => f1 i (by omega) (by omega) (by omega))⟩, ⟨I', Bt, in_fr k3 (fun i i1 i2 => f1 i (by omega) (by omega) (by omega)), k4⟩, w2, sts_fr j7 (fun i hi => f1 i (by omega) (by omega) (by omega)), wDT_lo j8 j9 (fun i hi => f1 i (by omega) (by omega) (by omega)), j9, j10, hlen⟩
  refine ⟨_, h1, sz', e1, s1, fun i hi => f1 i (by omega) (by omega) (by omega), fun o => ?_⟩
  have J1' := JC_fr (h := zup h1 (c + 645) o) J1 (fun i hi => zup_ne (by omega))
  have W1 : wMF (zup h1 (c + 645) o) (c + 637) F S := wMF_fr r1 (fun a h1 h2 => by rw [zup_ne (by omega)]; exact f1 a (by omega) (by omega) (by omega))
  obtain ⟨h2, F', S', e2, W2, a0, a20, a7, ak, as, f2⟩ := R_write W1 (by rw [r6, r7]; exact I) (w := w) (by rw [r6]; exact hw)
  rw [r6, r7] at e2 a20 a7
  refine ⟨h2, e2, fun i hi => by rw [f2 i (by omega), zup_ne (by omega)]; exact f1 i (by omega) (by omega) (by omega), by rw [f2 (c + 645) (by omega)]; exact zup_eq _ _ _, cap', wrL T N w, F', S', a0, JC_fr J1' (fun i hi => f2 i (by omega)), W2, ⟨by rw [ak 2 (by decide) (by decide)]; exact r2, by rw [ak 8 (by decide) (by decide)]; exact r3, by rw [ak 16 (by decide) (by decide)]; exact r4, a20⟩, ⟨by rw [as 2 (by decide)]; exact r6, by rw [as 4 (by decide)]; exact r7⟩, fun j hj => by rw [as 1 (by decide)]; exact r8 j hj, a7, fun i hi => by rw [as 6 (by decide)]; exact r10 i hi, ⟨fun k hk => by rw [as 2 (by decide)]; exact r11.1 k hk, fun k hk => by rw [as 4 (by decide)]; exact r11.2 k hk⟩⟩
theorem W_write (J : JW hp c s n xs ro sz) (y : Int32) :
    ∃ (t : Option (Int32 × zHp × Nat)) (kk b : Int32) (h1 h' h2 : zHp) (z0 : Nat), f_X7_write ro 23 11300 c y hp sz = some t ∧ (∀ v, t = some v → zsL v.2.1 (c + 645) 0 v.1.toInt64 = some h1) ∧ (∀ v h z, zRw3 t hp h1 sz v h z → z0 ≤ z ∧ v = kk ∧ h = h') ∧ h' s = hp s ∧ f_X8_write (c + 637) y h' = some (b, h2) ∧ f_X8_thrown (c + 637) h2 = some kk ∧ (kk = 1 ∨ (kk = 0 ∧ zaL h2 2 (c + 645) 0 = some b.toInt64)) ∧ ∀ z, z0 ≤ z → JW h2 c s n xs ro z := by
  obtain ⟨⟨p, ea, T, N, σ, u, Ps, β, fl, cap, l, F, S, a, b⟩, ⟨g, hg⟩, hs, hsc⟩ := J
  cases hy : inr y (sN T 2) with
  | false =>
    obtain ⟨m1, m2⟩ := J_writeBad a b y hy
    exact ⟨none, 1, 0, hp, hp, _, sz, m1, fun v e => (by cases e), fun v h z hz => hz, rfl, m2, q_thr' b.1 1, Or.inl rfl, fun z hz => JW_sz (W_th a b hg hs hsc 1) hz⟩
  | true =>
    obtain ⟨r, h1, sz', m1, m2, f1, K⟩ := J_write2 a b y hy
    have hg1 : h1 (c + 645) = some (.inl (2, 1, .inr (.inl g))) := by rw [f1 _ (Or.inr rfl)]; exact hg
    obtain ⟨h2, e2, f2, ho, cap', l', F', S', a0, J2, R2⟩ := K (.inl (2, 1, .inr (.inl (vp_updL g 0 r.toInt64))))
    refine ⟨some (r, h1, sz'), 0, r, zup h1 (c + 645) (.inl (2, 1, .inr (.inl (vp_updL g 0 r.toInt64)))), zup h1 (c + 645) (.inl (2, 1, .inr (.inl (vp_updL g 0 r.toInt64)))), h2, sz', m1, fun v e => ?_, fun v h z hz => hz, ?_, e2, ?_, Or.inr ⟨rfl, ?_⟩, fun z hz => JW_sz ⟨⟨p, ea, T, N, σ, u, Ps, β, fl, cap', l', F', S', J2, R2⟩, ⟨_, ho⟩, by rw [f2 s hsc]; exact hs, hsc⟩ hz⟩
    · cases e
      show zsL h1 (c + 645) 0 r.toInt64 = _
      unfold zsL
      rw [hg1]
      exact if_pos ⟨rfl, by decide⟩
    · rw [zup_ne (by omega), f1 s (Or.inl hsc)]
    · rw [q_thr R2.1, a0]
    · unfold zaL
      rw [ho]
      exact (if_pos ⟨rfl, by decide⟩).trans (congrArg some (if_pos rfl))
end P90
set_option maxHeartbeats 4000000 in
set_option maxRecDepth 100000 in
theorem we_write3 (l : Launch) (D : va_G) (tc : Nat → ClassId) (ro : Nat → Nat) (b0 : Nat) {mc ms a o : Nat} {x1 : Int32} {hp h' : zHp} {sz : Nat} (hl : l.stackTraces = false) {t : Option (Int32 × zHp × Nat)} (hF : f_X7_write ro mc ms a x1 hp sz = some t) (ho : ∀ v, t = some v → zsL v.2.1 o 0 v.1.toInt64 = some h') : zMe l yL_write cL_write 4 (some .int) [(0, 9, 12, 13)] 8 mc ms [.ref a, .int x1, .ref o] D tc ro b0 hp sz (zRw3 t hp h' sz) := by
  refine z_startE (lv := [(0, .ref a), (1, .int x1), (2, .ref o)]) hl (by decide +kernel) RL rfl rfl (Nat.le_of_ble_eq_true rfl) (fun P C CT => ?_)
  refine z_aload_n C dL_write_0 2 rfl ?_
  refine z_iconst C dL_write_1 zi_0 ?_
  refine z_aload_n C dL_write_2 0 rfl ?_
  refine z_iload_n C dL_write_3 1 rfl ?_
  refine y_callVC hF C CT rfl (by decide) zlk_L_13 zc_L_105 [.int x1] (fun l D tc b0 r hl h => m_X7_write l D tc ro b0 hl h) rfl rfl (Nat.le_of_ble_eq_true rfl) (by decide) (by decide) (by simp) dL_write_4 (fun v ev => ?_) (fun ev q z hz => ?_)
  · refine z_i2l C dL_write_7 ?_
    refine y_lastore C (ho v ev) dL_write_8 ?_
    refine z_goto C 15 dL_write_9 (by decide) ?_
    refine z_iconst C dL_write_15 zi_0 ?_
    exact y_ireturnE C (by rw [ev]; exact ⟨Nat.le_refl _, rfl, rfl⟩) (by simp) dL_write_16
  · refine z_astore_n (lv' := [(0, .ref a), (1, .int x1), (2, .ref o), (3, .ref q)]) C dL_write_12 (by decide) rfl ?_
    refine z_iconst C dL_write_13 zi_1 ?_
    exact y_ireturnE C (by rw [ev]; exact ⟨hz, rfl, rfl⟩) (by simp) dL_write_14
set_option maxHeartbeats 4000000 in
set_option maxRecDepth 100000 in
theorem lc_53w {P : zX} {Qf : Unit → State → Prop} {ro : Nat → Nat} (C : zC P cL_law RL (some .boolean) 20 601024 7293034 7 ro) (hl0 : (match P with | (_, l, _) => l.stackTraces) = false) {s xC xM o : Nat} {i : Int32} {p1 : Int32} {hp h' h1 h2 : zHp} {mc ms sz z0 uc us : Nat} {t : Option (Int32 × zHp × Nat)} {kk b : Int32} (e1 : ∀ h : zHp, h s = hp s → zaI h 0 s (i + 1) = some p1) (hF : f_X7_write ro mc ms xC p1 hp sz = some t) (ho : ∀ v, t = some v → zsL v.2.1 o 0 v.1.toInt64 = some h1) (hkk : ∀ v h z, zRw3 t hp h1 sz v h z → z0 ≤ z ∧ v = kk ∧ h = h') (hs : h' s = hp s) (hM : f_X8_write xM p1 h' = some (b, h2)) (hT : f_X8_thrown xM h2 = some kk) (hcmp : kk = 1 ∨ (kk = 0 ∧ zaL h2 2 o 0 = some b.toInt64)) (hcells : uc + mc ≤ 601024 ∧ us + ms ≤ 7293034) (k : ∀ z, z0 ≤ z → zGq P Qf (some ()) 2774 [(0, .ref s), (1, .ref xC), (2, .ref xM), (3, .ref o), (4, .int i)] [] h2 z (uc + mc) (us + ms)) : zGq P Qf (some ()) 2693 [(0, .ref s), (1, .ref xC), (2, .ref xM), (3, .ref o), (4, .int i)] [] hp sz uc us := by
  refine z_aload_n C dL_law_2693 1 rfl ?_
  refine z_aload_n C dL_law_2694 0 rfl ?_
  refine z_iload C dL_law_2695 4 rfl ?_
  refine z_iconst C dL_law_2697 zi_1 ?_
  refine z_iadd C dL_law_2698 ?_
  refine y_iaload C (e1 _ rfl) dL_law_2699 ?_
  refine z_aload_n C dL_law_2700 3 rfl ?_
  refine y_callE C ze_L_304 [.ref xC, .int p1, .ref o] (fun l D tc b0 hl => we_write3 l D tc ro b0 hl hF ho) hl0 rfl rfl (Nat.le_of_ble_eq_true rfl) (by decide) (by decide) hcells dL_law_2701 (fun v h z hR => ?_)
  obtain ⟨hz, hv9, hh9⟩ : z0 ≤ z ∧ v = kk ∧ h = h' := hkk v h z hR; subst v; subst h
  refine z_istore (lv' := [(0, .ref s), (1, .ref xC), (2, .ref xM), (3, .ref o), (4, .int i), (5, .int kk)]) C dL_law_2704 (by decide) rfl ?_
  refine z_aload_n C dL_law_2706 2 rfl ?_
  refine z_aload_n C dL_law_2707 0 rfl ?_
  refine z_iload C dL_law_2708 4 rfl ?_
  refine z_iconst C dL_law_2710 zi_1 ?_
  refine z_iadd C dL_law_2711 ?_
  refine y_iaload C (e1 _ hs) dL_law_2712 ?_
  refine y_callV (oc := (zoI z)) hM C zc_L_306 [.int p1] (fun l D tc b0 r h => m_X8_write l D tc ro b0 h) rfl rfl (Nat.le_of_ble_eq_true rfl) (by decide) (by decide) ⟨hcells.1, hcells.2⟩ dL_law_2713 ?_
  refine z_istore (lv' := [(0, .ref s), (1, .ref xC), (2, .ref xM), (3, .ref o), (4, .int i), (5, .int kk), (6, .int b)]) C dL_law_2716 (by decide) rfl ?_
  refine z_aload_n C dL_law_2718 2 rfl ?_
  refine y_callV (oc := (zoP z h2)) hT C zc_L_148 [] (fun l D tc b0 r h => m_X8_thrown l D tc ro b0 h) rfl rfl (Nat.le_of_ble_eq_true rfl) (by decide) (by decide) ⟨hcells.1, hcells.2⟩ dL_law_2719 ?_
  refine z_iload C dL_law_2722 5 rfl ?_
  refine y_ifT C 2729 rfl dL_law_2724 (by decide) ?_
  refine z_iload C dL_law_2729 5 rfl ?_
  have hend : zGq P Qf (some ()) 2746 [(0, .ref s), (1, .ref xC), (2, .ref xM), (3, .ref o), (4, .int i), (5, .int kk), (6, .int b)] [] h2 z (uc + mc) (us + ms) := by
    refine z_goto C 2774 dL_law_2746 (by decide) ?_
    exact z_sub [0, 1, 2, 3, 4] rfl (k z hz)
  rcases hcmp with ek | ⟨ek, hl⟩
  · refine y_ifneT C 2746 (by rw [ek]; decide) dL_law_2731 (by decide) hend
  refine y_ifneF C 2746 ek dL_law_2731 (by decide) ?_
  refine z_aload_n C dL_law_2734 3 rfl ?_
  refine z_iconst C dL_law_2735 zi_0 ?_
  refine y_laload C hl dL_law_2736 ?_
  refine z_iload C dL_law_2737 6 rfl ?_
  refine z_i2l C dL_law_2739 ?_
  refine y_lcmp C rfl dL_law_2740 ?_
  exact y_ifeqT C 2746 rfl dL_law_2741 (by decide) hend
