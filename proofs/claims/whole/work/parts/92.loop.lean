/-! the law's loop -/
section P92
variable {P : zX} {Qf : Unit → State → Prop} {ro : Nat → Nat} {s c n : Nat} {xs : Nat → Int32} {hp : zHp}
theorem zg_at (hs : hp s = some (.inl (10, n, .inl xs))) (hn : n ≤ 3072) {q : Nat} (hq : q < n) (h : zHp) (e : h s = hp s) : zaI h 0 s (Int32.ofNat q) = some (xs q) := pa_rd (t' := 10) (by rw [e]; exact hs) (Or.inr rfl) hq (by omega)
theorem zg_E (hs : hp s = some (.inl (10, n, .inl xs))) (hn : n ≤ 3072) {q : Nat} (hq : q + 6 ≤ n) : lE s hp (Int32.ofNat q) (xs (q + 1)) (xs (q + 2)) (xs (q + 3)) (xs (q + 4)) (xs (q + 5)) := by
  refine ⟨fun h e => ?_, fun h e => ?_, fun h e => ?_, fun h e => ?_, fun h e => ?_⟩
  · rw [show Int32.ofNat q + 1 = Int32.ofNat (q + 1) from (Int32.ofNat_add q 1).symm]; exact zg_at hs hn (by omega) h e
  · rw [show Int32.ofNat q + 2 = Int32.ofNat (q + 2) from (Int32.ofNat_add q 2).symm]; exact zg_at hs hn (by omega) h e
  · rw [show Int32.ofNat q + 3 = Int32.ofNat (q + 3) from (Int32.ofNat_add q 3).symm]; exact zg_at hs hn (by omega) h e
  · rw [show Int32.ofNat q + 4 = Int32.ofNat (q + 4) from (Int32.ofNat_add q 4).symm]; exact zg_at hs hn (by omega) h e
  · rw [show Int32.ofNat q + 5 = Int32.ofNat (q + 5) from (Int32.ofNat_add q 5).symm]; exact zg_at hs hn (by omega) h e
theorem zbl_6 : (Int8.ofInt 6).toInt32 = (6 : Int32) := by decide +kernel
theorem zbl_63 : (Int8.ofInt 63).toInt32 = (63 : Int32) := by decide +kernel
theorem zi_6 : Int32.ofInt 6 = (6 : Int32) := by decide +kernel
theorem zl_go {q n : Nat} (hn : n ≤ 3072) (hq : q + 6 ≤ n) : ¬ Int32.ofNat n - 6 < Int32.ofNat q := by
  obtain ⟨m, rfl⟩ : ∃ m, n = m + 6 := ⟨n - 6, by omega⟩
  rw [show Int32.ofNat (m + 6) - 6 = Int32.ofNat m by rw [show Int32.ofNat (m + 6) = Int32.ofNat m + 6 from Int32.ofNat_add m 6, Int32.add_sub_cancel], pn_lt (by omega) (by omega)]
  omega
theorem zl_end {q n : Nat} (hn : n ≤ 3072) (hq : n < q + 6) (hq2 : q ≤ n) : Int32.ofNat n - 6 < Int32.ofNat q := by
  by_cases h6 : 6 ≤ n
  · obtain ⟨m, rfl⟩ : ∃ m, n = m + 6 := ⟨n - 6, by omega⟩
    rw [show Int32.ofNat (m + 6) - 6 = Int32.ofNat m by rw [show Int32.ofNat (m + 6) = Int32.ofNat m + 6 from Int32.ofNat_add m 6, Int32.add_sub_cancel], pn_lt (by omega) (by omega)]
    omega
  · have K : ∀ n, n < 6 → ∀ q, q < 6 → Int32.ofNat n - 6 < Int32.ofNat q := by decide +kernel
    exact K n (by omega) q (by omega)
/-- no call is left -/
theorem l_exit (C : zC P cL_law RL (some .boolean) 20 601024 7293034 7 ro) (hn : n ≤ 3072) {q : Nat} (hq : n < q + 6) (hq2 : q ≤ n) {sz uc us : Nat} (J : JW hp c s n xs ro sz) (K : zGq P Qf (some ()) 2780 (lvL s c (Int32.ofNat q)) [] hp sz uc us) : zGq P Qf (some ()) 23 (lvL s c (Int32.ofNat q)) [] hp sz uc us := by
  have hs := J.2.2.1
  refine z_iload C dL_law_23 4 rfl ?_
  refine z_aload_n C dL_law_25 0 rfl ?_
  refine y_arraylength C (x := Int32.ofNat n) (by unfold zlen; rw [hs]; exact if_pos (Or.inr rfl)) dL_law_26 ?_
  refine z_bipush C dL_law_27 zbl_6 ?_
  refine z_isub C dL_law_29 ?_
  exact y_icmpgtT C 2780 (zl_end hn hq hq2) dL_law_30 (by decide) K
set_option maxHeartbeats 4000000 in
set_option maxRecDepth 100000 in
theorem l_loop (C : zC P cL_law RL (some .boolean) 20 601024 7293034 7 ro) (hl0 : (match P with | (_, l, _) => l.stackTraces) = false) (hn : n ≤ 3072) (K : ∀ hp sz uc us i, uc ≤ 601024 → us ≤ 7293034 → zGq P Qf (some ()) 2780 (lvL s c i) [] hp sz uc us) : ∀ (d q : Nat) (hp : zHp) (sz uc us : Nat), n < q + 6 * d + 6 → q ≤ n → uc + 23 * d ≤ 601024 → us + 11300 * d ≤ 7293034 → JW hp c s n xs ro sz → zGq P Qf (some ()) 23 (lvL s c (Int32.ofNat q)) [] hp sz uc us := by
  intro d
  induction d with
  | zero => exact fun q hp sz uc us h1 h2 h3 h4 J => l_exit C hn (by omega) h2 J (K _ _ _ _ _ (by omega) (by omega))
  | succ d ih =>
    intro q hp sz uc us h1 h2 h3 h4 J
    by_cases hq : q + 6 ≤ n
    · have hs := J.2.2.1
      refine z_iload C dL_law_23 4 rfl ?_
      refine z_aload_n C dL_law_25 0 rfl ?_
      refine y_arraylength C (x := Int32.ofNat n) (by unfold zlen; rw [hs]; exact if_pos (Or.inr rfl)) dL_law_26 ?_
      refine z_bipush C dL_law_27 zbl_6 ?_
      refine z_isub C dL_law_29 ?_
      refine y_icmpgtF C 2780 (zl_go hn hq) dL_law_30 (by decide) ?_
      refine z_aload_n C dL_law_33 0 rfl ?_
      refine z_iload C dL_law_34 4 rfl ?_
      refine y_iaload C (zg_at hs hn (by omega) hp rfl) dL_law_36 ?_
      refine z_bipush C dL_law_37 zbl_63 ?_
      refine z_iand C dL_law_39 ?_
      have b1 : uc + 23 ≤ 601024 := by omega
      have b2 : us + 11300 ≤ 7293034 := by omega
      refine l_switch C hl0 J (zg_E hs hn hq) ⟨b1, b2⟩ (fun h z J2 => ?_) _
      refine z_pkl (x := Int32.ofNat q + 6) (z_iincL C (f := zpk (Int32.ofNat q + 6)) 4 (fun y => lvL s c y) dL_law_2774 rfl zi_6 (by decide) (fun y => rfl) (fun y => z_at (fun e => ?_)))
      have e6 : y = Int32.ofNat (q + 6) := e.trans (Int32.ofNat_add q 6).symm
      subst e6
      exact z_goto C 23 dL_law_2777 (by decide) (ih (q + 6) h z _ _ (by omega) hq (by omega) (by omega) J2)
    · exact l_exit C hn (by omega) h2 J (K _ _ _ _ _ (by omega) (by omega))
end P92
