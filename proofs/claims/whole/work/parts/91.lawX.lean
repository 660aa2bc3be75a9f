/-! each case of the law over the world: from the case to the loop's end -/
section P91
/-- the script's ints behind i -/
def lE (s : Nat) (hp : zHp) (i p1 p2 p3 p4 p5 : Int32) : Prop := (∀ h : zHp, h s = hp s → zaI h 0 s (i + 1) = some p1) ∧ (∀ h : zHp, h s = hp s → zaI h 0 s (i + 2) = some p2) ∧ (∀ h : zHp, h s = hp s → zaI h 0 s (i + 3) = some p3) ∧ (∀ h : zHp, h s = hp s → zaI h 0 s (i + 4) = some p4) ∧ (∀ h : zHp, h s = hp s → zaI h 0 s (i + 5) = some p5)
abbrev lvL (s c : Nat) (i : Int32) : List (Nat × Value) := [(0, .ref s), (1, .ref c), (2, .ref (c + 637)), (3, .ref (c + 645)), (4, .int i)]
/-- at the loop's end the world stands -/
def lK (P : zX) (Qf : Unit → State → Prop) (c s n : Nat) (xs : Nat → Int32) (ro : Nat → Nat) (i : Int32) (uc us : Nat) : Prop := ∀ h z, JW h c s n xs ro z → zGq P Qf (some ()) 2774 (lvL s c i) [] h z uc us
variable {P : zX} {Qf : Unit → State → Prop} {ro : Nat → Nat} {s c n sz uc us : Nat} {xs : Nat → Int32} {i p1 p2 p3 p4 p5 : Int32} {hp : zHp}
theorem lx_0 (C : zC P cL_law RL (some .boolean) 20 601024 7293034 7 ro) (hl0 : (match P with | (_, l, _) => l.stackTraces) = false) (J : JW hp c s n xs ro sz) (E : lE s hp i p1 p2 p3 p4 p5) (hc : uc + 23 ≤ 601024 ∧ us + 11300 ≤ 7293034) (k : lK P Qf c s n xs ro i (uc + 23) (us + 11300)) : zGq P Qf (some ()) 276 (lvL s c i) [] hp sz uc us := by
  obtain ⟨v, h1, h2, a1, a2, a3, J2⟩ := W_feed J p1 p2 p3 p4 p5
  exact lc_0 C E.1 E.2.1 E.2.2.1 E.2.2.2.1 E.2.2.2.2 a1 a2 a3 rfl ⟨by omega, by omega⟩ (z_widen _ _ (by omega) (by omega) (k h2 sz J2))
theorem lx_1 (C : zC P cL_law RL (some .boolean) 20 601024 7293034 7 ro) (hl0 : (match P with | (_, l, _) => l.stackTraces) = false) (J : JW hp c s n xs ro sz) (E : lE s hp i p1 p2 p3 p4 p5) (hc : uc + 23 ≤ 601024 ∧ us + 11300 ≤ 7293034) (k : lK P Qf c s n xs ro i (uc + 23) (us + 11300)) : zGq P Qf (some ()) 349 (lvL s c i) [] hp sz uc us := by
  obtain ⟨v, h1, h2, a1, a2, a3, J2⟩ := W_load J p1
  exact lc_1 C E.1 a1 a2 a3 rfl ⟨by omega, by omega⟩ (z_widen _ _ (by omega) (by omega) (k h2 sz J2))
theorem lx_2 (C : zC P cL_law RL (some .boolean) 20 601024 7293034 7 ro) (hl0 : (match P with | (_, l, _) => l.stackTraces) = false) (J : JW hp c s n xs ro sz) (E : lE s hp i p1 p2 p3 p4 p5) (hc : uc + 23 ≤ 601024 ∧ us + 11300 ≤ 7293034) (k : lK P Qf c s n xs ro i (uc + 23) (us + 11300)) : zGq P Qf (some ()) 374 (lvL s c i) [] hp sz uc us := by
  obtain ⟨v, h2, a1, a2, J2⟩ := W_errorPosition J 
  exact lc_2 C  a1 a2 rfl ⟨by omega, by omega⟩ (z_widen _ _ (by omega) (by omega) (k h2 sz J2))
theorem lx_3 (C : zC P cL_law RL (some .boolean) 20 601024 7293034 7 ro) (hl0 : (match P with | (_, l, _) => l.stackTraces) = false) (J : JW hp c s n xs ro sz) (E : lE s hp i p1 p2 p3 p4 p5) (hc : uc + 23 ≤ 601024 ∧ us + 11300 ≤ 7293034) (k : lK P Qf c s n xs ro i (uc + 23) (us + 11300)) : zGq P Qf (some ()) 387 (lvL s c i) [] hp sz uc us := by
  obtain ⟨v, h2, a1, a2, J2⟩ := W_PP J (fun p ea S K => r_count K p1)
  exact lc_3 C E.1 a1 a2 rfl ⟨by omega, by omega⟩ (z_widen _ _ (by omega) (by omega) (k h2 sz J2))
theorem lx_4 (C : zC P cL_law RL (some .boolean) 20 601024 7293034 7 ro) (hl0 : (match P with | (_, l, _) => l.stackTraces) = false) (J : JW hp c s n xs ro sz) (E : lE s hp i p1 p2 p3 p4 p5) (hc : uc + 23 ≤ 601024 ∧ us + 11300 ≤ 7293034) (k : lK P Qf c s n xs ro i (uc + 23) (us + 11300)) : zGq P Qf (some ()) 412 (lvL s c i) [] hp sz uc us := by
  obtain ⟨v, h2, a1, a2, J2⟩ := W_undoCount J 
  exact lc_4 C  a1 a2 rfl ⟨by omega, by omega⟩ (z_widen _ _ (by omega) (by omega) (k h2 sz J2))
theorem lx_5 (C : zC P cL_law RL (some .boolean) 20 601024 7293034 7 ro) (hl0 : (match P with | (_, l, _) => l.stackTraces) = false) (J : JW hp c s n xs ro sz) (E : lE s hp i p1 p2 p3 p4 p5) (hc : uc + 23 ≤ 601024 ∧ us + 11300 ≤ 7293034) (k : lK P Qf c s n xs ro i (uc + 23) (us + 11300)) : zGq P Qf (some ()) 425 (lvL s c i) [] hp sz uc us := by
  obtain ⟨v, h2, a1, a2, J2⟩ := W_PP J (fun p ea S K => r_named K p1 p2)
  exact lc_5 C E.1 E.2.1 a1 a2 rfl ⟨by omega, by omega⟩ (z_widen _ _ (by omega) (by omega) (k h2 sz J2))
theorem lx_6 (C : zC P cL_law RL (some .boolean) 20 601024 7293034 7 ro) (hl0 : (match P with | (_, l, _) => l.stackTraces) = false) (J : JW hp c s n xs ro sz) (E : lE s hp i p1 p2 p3 p4 p5) (hc : uc + 23 ≤ 601024 ∧ us + 11300 ≤ 7293034) (k : lK P Qf c s n xs ro i (uc + 23) (us + 11300)) : zGq P Qf (some ()) 462 (lvL s c i) [] hp sz uc us := by
  obtain ⟨v, h2, a1, a2, J2⟩ := W_PP J (fun p ea S K => r_getSetting K p1)
  exact lc_6 C E.1 a1 a2 rfl ⟨by omega, by omega⟩ (z_widen _ _ (by omega) (by omega) (k h2 sz J2))
theorem lx_7 (C : zC P cL_law RL (some .boolean) 20 601024 7293034 7 ro) (hl0 : (match P with | (_, l, _) => l.stackTraces) = false) (J : JW hp c s n xs ro sz) (E : lE s hp i p1 p2 p3 p4 p5) (hc : uc + 23 ≤ 601024 ∧ us + 11300 ≤ 7293034) (k : lK P Qf c s n xs ro i (uc + 23) (us + 11300)) : zGq P Qf (some ()) 487 (lvL s c i) [] hp sz uc us := by
  obtain ⟨t, kk, b, h1, h', h2, a1, a2, a3, a4, a5, a6, a7, a8⟩ := W_PR (fun v => v.toInt64) J (fun p ea S K => r_regionAround K p1)
  exact lc_7 C hl0 E.1 a1 a2 a3 a4 a5 a6 a7 ⟨by omega, by omega⟩ (fun z hz => z_widen _ _ (by omega) (by omega) (k h2 z (a8 z hz)))
theorem lx_8 (C : zC P cL_law RL (some .boolean) 20 601024 7293034 7 ro) (hl0 : (match P with | (_, l, _) => l.stackTraces) = false) (J : JW hp c s n xs ro sz) (E : lE s hp i p1 p2 p3 p4 p5) (hc : uc + 23 ≤ 601024 ∧ us + 11300 ≤ 7293034) (k : lK P Qf c s n xs ro i (uc + 23) (us + 11300)) : zGq P Qf (some ()) 543 (lvL s c i) [] hp sz uc us := by
  obtain ⟨t, kk, b, h1, h', h2, a1, a2, a3, a4, a5, a6, a7, a8⟩ := W_PR (fun v => v.toInt64) J (fun p ea S K => r_regionOf K p1)
  exact lc_8 C hl0 E.1 a1 a2 a3 a4 a5 a6 a7 ⟨by omega, by omega⟩ (fun z hz => z_widen _ _ (by omega) (by omega) (k h2 z (a8 z hz)))
theorem lx_9 (C : zC P cL_law RL (some .boolean) 20 601024 7293034 7 ro) (hl0 : (match P with | (_, l, _) => l.stackTraces) = false) (J : JW hp c s n xs ro sz) (E : lE s hp i p1 p2 p3 p4 p5) (hc : uc + 23 ≤ 601024 ∧ us + 11300 ≤ 7293034) (k : lK P Qf c s n xs ro i (uc + 23) (us + 11300)) : zGq P Qf (some ()) 599 (lvL s c i) [] hp sz uc us := by
  obtain ⟨t, kk, b, h1, h', h2, a1, a2, a3, a4, a5, a6, a7, a8⟩ := W_PR (fun v => v.toInt64) J (fun p ea S K => r_wardsIn K p1)
  exact lc_9 C hl0 E.1 a1 a2 a3 a4 a5 a6 a7 ⟨by omega, by omega⟩ (fun z hz => z_widen _ _ (by omega) (by omega) (k h2 z (a8 z hz)))
theorem lx_10 (C : zC P cL_law RL (some .boolean) 20 601024 7293034 7 ro) (hl0 : (match P with | (_, l, _) => l.stackTraces) = false) (J : JW hp c s n xs ro sz) (E : lE s hp i p1 p2 p3 p4 p5) (hc : uc + 23 ≤ 601024 ∧ us + 11300 ≤ 7293034) (k : lK P Qf c s n xs ro i (uc + 23) (us + 11300)) : zGq P Qf (some ()) 655 (lvL s c i) [] hp sz uc us := by
  obtain ⟨t, kk, b, h1, h', h2, a1, a2, a3, a4, a5, a6, a7, a8⟩ := W_PR (fun v => v.toInt64) J (fun p ea S K => r_depthOf K p1)
  exact lc_10 C hl0 E.1 a1 a2 a3 a4 a5 a6 a7 ⟨by omega, by omega⟩ (fun z hz => z_widen _ _ (by omega) (by omega) (k h2 z (a8 z hz)))
theorem lx_11 (C : zC P cL_law RL (some .boolean) 20 601024 7293034 7 ro) (hl0 : (match P with | (_, l, _) => l.stackTraces) = false) (J : JW hp c s n xs ro sz) (E : lE s hp i p1 p2 p3 p4 p5) (hc : uc + 23 ≤ 601024 ∧ us + 11300 ≤ 7293034) (k : lK P Qf c s n xs ro i (uc + 23) (us + 11300)) : zGq P Qf (some ()) 711 (lvL s c i) [] hp sz uc us := by
  obtain ⟨t, kk, b, h1, h', h2, a1, a2, a3, a4, a5, a6, a7, a8⟩ := W_PR (fun v => v.toInt64) J (fun p ea S K => r_boxProperty K p1 p2)
  exact lc_11 C hl0 E.1 E.2.1 a1 a2 a3 a4 a5 a6 a7 ⟨by omega, by omega⟩ (fun z hz => z_widen _ _ (by omega) (by omega) (k h2 z (a8 z hz)))
theorem lx_12 (C : zC P cL_law RL (some .boolean) 20 601024 7293034 7 ro) (hl0 : (match P with | (_, l, _) => l.stackTraces) = false) (J : JW hp c s n xs ro sz) (E : lE s hp i p1 p2 p3 p4 p5) (hc : uc + 23 ≤ 601024 ∧ us + 11300 ≤ 7293034) (k : lK P Qf c s n xs ro i (uc + 23) (us + 11300)) : zGq P Qf (some ()) 779 (lvL s c i) [] hp sz uc us := by
  obtain ⟨t, kk, b, h1, h', h2, a1, a2, a3, a4, a5, a6, a7, a8⟩ := W_PR (fun v => v.toInt64) J (fun p ea S K => r_placeOf K p1)
  exact lc_12 C hl0 E.1 a1 a2 a3 a4 a5 a6 a7 ⟨by omega, by omega⟩ (fun z hz => z_widen _ _ (by omega) (by omega) (k h2 z (a8 z hz)))
theorem lx_13 (C : zC P cL_law RL (some .boolean) 20 601024 7293034 7 ro) (hl0 : (match P with | (_, l, _) => l.stackTraces) = false) (J : JW hp c s n xs ro sz) (E : lE s hp i p1 p2 p3 p4 p5) (hc : uc + 23 ≤ 601024 ∧ us + 11300 ≤ 7293034) (k : lK P Qf c s n xs ro i (uc + 23) (us + 11300)) : zGq P Qf (some ()) 835 (lvL s c i) [] hp sz uc us := by
  obtain ⟨t, kk, b, h1, h', h2, a1, a2, a3, a4, a5, a6, a7, a8⟩ := W_PR (fun v => v.toInt64) J (fun p ea S K => r_papers K p1 p2)
  exact lc_13 C hl0 E.1 E.2.1 a1 a2 a3 a4 a5 a6 a7 ⟨by omega, by omega⟩ (fun z hz => z_widen _ _ (by omega) (by omega) (k h2 z (a8 z hz)))
theorem lx_14 (C : zC P cL_law RL (some .boolean) 20 601024 7293034 7 ro) (hl0 : (match P with | (_, l, _) => l.stackTraces) = false) (J : JW hp c s n xs ro sz) (E : lE s hp i p1 p2 p3 p4 p5) (hc : uc + 23 ≤ 601024 ∧ us + 11300 ≤ 7293034) (k : lK P Qf c s n xs ro i (uc + 23) (us + 11300)) : zGq P Qf (some ()) 903 (lvL s c i) [] hp sz uc us := by
  obtain ⟨t, kk, b, h1, h', h2, a1, a2, a3, a4, a5, a6, a7, a8⟩ := W_PR (fun v => if v = 0 then 0 else 1) J (fun p ea S K => r_isSealGood K p1)
  exact lc_14 C hl0 E.1 a1 a2 a3 a4 a5 a6 a7 ⟨by omega, by omega⟩ (fun z hz => z_widen _ _ (by omega) (by omega) (k h2 z (a8 z hz)))
theorem lx_15 (C : zC P cL_law RL (some .boolean) 20 601024 7293034 7 ro) (hl0 : (match P with | (_, l, _) => l.stackTraces) = false) (J : JW hp c s n xs ro sz) (E : lE s hp i p1 p2 p3 p4 p5) (hc : uc + 23 ≤ 601024 ∧ us + 11300 ≤ 7293034) (k : lK P Qf c s n xs ro i (uc + 23) (us + 11300)) : zGq P Qf (some ()) 966 (lvL s c i) [] hp sz uc us := by
  obtain ⟨t, kk, b, h1, h', h2, a1, a2, a3, a4, a5, a6, a7, a8⟩ := W_PR (fun v => v.toInt64) J (fun p ea S K => r_ledgerSize K p1)
  exact lc_15 C hl0 E.1 a1 a2 a3 a4 a5 a6 a7 ⟨by omega, by omega⟩ (fun z hz => z_widen _ _ (by omega) (by omega) (k h2 z (a8 z hz)))
theorem lx_16 (C : zC P cL_law RL (some .boolean) 20 601024 7293034 7 ro) (hl0 : (match P with | (_, l, _) => l.stackTraces) = false) (J : JW hp c s n xs ro sz) (E : lE s hp i p1 p2 p3 p4 p5) (hc : uc + 23 ≤ 601024 ∧ us + 11300 ≤ 7293034) (k : lK P Qf c s n xs ro i (uc + 23) (us + 11300)) : zGq P Qf (some ()) 1022 (lvL s c i) [] hp sz uc us := by
  obtain ⟨t, kk, b, h1, h', h2, a1, a2, a3, a4, a5, a6, a7, a8⟩ := W_PR (fun v => v.toInt64) J (fun p ea S K => r_ledger K p1 p2)
  exact lc_16 C hl0 E.1 E.2.1 a1 a2 a3 a4 a5 a6 a7 ⟨by omega, by omega⟩ (fun z hz => z_widen _ _ (by omega) (by omega) (k h2 z (a8 z hz)))
theorem lx_17 (C : zC P cL_law RL (some .boolean) 20 601024 7293034 7 ro) (hl0 : (match P with | (_, l, _) => l.stackTraces) = false) (J : JW hp c s n xs ro sz) (E : lE s hp i p1 p2 p3 p4 p5) (hc : uc + 23 ≤ 601024 ∧ us + 11300 ≤ 7293034) (k : lK P Qf c s n xs ro i (uc + 23) (us + 11300)) : zGq P Qf (some ()) 1090 (lvL s c i) [] hp sz uc us := by
  obtain ⟨t, kk, b, h1, h', h2, a1, a2, a3, a4, a5, a6, a7, a8⟩ := W_PR (fun v => v.toInt64) J (fun p ea S K => r_boxAt K p1)
  exact lc_17 C hl0 E.1 a1 a2 a3 a4 a5 a6 a7 ⟨by omega, by omega⟩ (fun z hz => z_widen _ _ (by omega) (by omega) (k h2 z (a8 z hz)))
theorem lx_18 (C : zC P cL_law RL (some .boolean) 20 601024 7293034 7 ro) (hl0 : (match P with | (_, l, _) => l.stackTraces) = false) (J : JW hp c s n xs ro sz) (E : lE s hp i p1 p2 p3 p4 p5) (hc : uc + 23 ≤ 601024 ∧ us + 11300 ≤ 7293034) (k : lK P Qf c s n xs ro i (uc + 23) (us + 11300)) : zGq P Qf (some ()) 1146 (lvL s c i) [] hp sz uc us := by
  obtain ⟨t, kk, b, h1, h', h2, a1, a2, a3, a4, a5, a6, a7, a8⟩ := W_PR (fun v => v.toInt64) J (fun p ea S K => r_slipOf K p1)
  exact lc_18 C hl0 E.1 a1 a2 a3 a4 a5 a6 a7 ⟨by omega, by omega⟩ (fun z hz => z_widen _ _ (by omega) (by omega) (k h2 z (a8 z hz)))
theorem lx_19 (C : zC P cL_law RL (some .boolean) 20 601024 7293034 7 ro) (hl0 : (match P with | (_, l, _) => l.stackTraces) = false) (J : JW hp c s n xs ro sz) (E : lE s hp i p1 p2 p3 p4 p5) (hc : uc + 23 ≤ 601024 ∧ us + 11300 ≤ 7293034) (k : lK P Qf c s n xs ro i (uc + 23) (us + 11300)) : zGq P Qf (some ()) 1202 (lvL s c i) [] hp sz uc us := by
  obtain ⟨t, kk, b, h1, h', h2, a1, a2, a3, a4, a5, a6, a7, a8⟩ := W_PR (fun v => v.toInt64) J (fun p ea S K => r_counted K p1 p2 p3)
  exact lc_19 C hl0 E.1 E.2.1 E.2.2.1 a1 a2 a3 a4 a5 a6 a7 ⟨by omega, by omega⟩ (fun z hz => z_widen _ _ (by omega) (by omega) (k h2 z (a8 z hz)))
theorem lx_20 (C : zC P cL_law RL (some .boolean) 20 601024 7293034 7 ro) (hl0 : (match P with | (_, l, _) => l.stackTraces) = false) (J : JW hp c s n xs ro sz) (E : lE s hp i p1 p2 p3 p4 p5) (hc : uc + 23 ≤ 601024 ∧ us + 11300 ≤ 7293034) (k : lK P Qf c s n xs ro i (uc + 23) (us + 11300)) : zGq P Qf (some ()) 1282 (lvL s c i) [] hp sz uc us := by
  obtain ⟨t, kk, b, h1, h', h2, a1, a2, a3, a4, a5, a6, a7, a8⟩ := W_PR (fun v => v.toInt64) J (fun p ea S K => r_countedAt K p1 p2)
  exact lc_20 C hl0 E.1 E.2.1 a1 a2 a3 a4 a5 a6 a7 ⟨by omega, by omega⟩ (fun z hz => z_widen _ _ (by omega) (by omega) (k h2 z (a8 z hz)))
theorem lx_21 (C : zC P cL_law RL (some .boolean) 20 601024 7293034 7 ro) (hl0 : (match P with | (_, l, _) => l.stackTraces) = false) (J : JW hp c s n xs ro sz) (E : lE s hp i p1 p2 p3 p4 p5) (hc : uc + 23 ≤ 601024 ∧ us + 11300 ≤ 7293034) (k : lK P Qf c s n xs ro i (uc + 23) (us + 11300)) : zGq P Qf (some ()) 1350 (lvL s c i) [] hp sz uc us := by
  obtain ⟨t, kk, b, h1, h', h2, a1, a2, a3, a4, a5, a6, a7, a8⟩ := W_PR (fun v => v.toInt64) J (fun p ea S K => r_wouldCount K p1 p2 p3)
  exact lc_21 C hl0 E.1 E.2.1 E.2.2.1 a1 a2 a3 a4 a5 a6 a7 ⟨by omega, by omega⟩ (fun z hz => z_widen _ _ (by omega) (by omega) (k h2 z (a8 z hz)))
theorem lx_22 (C : zC P cL_law RL (some .boolean) 20 601024 7293034 7 ro) (hl0 : (match P with | (_, l, _) => l.stackTraces) = false) (J : JW hp c s n xs ro sz) (E : lE s hp i p1 p2 p3 p4 p5) (hc : uc + 23 ≤ 601024 ∧ us + 11300 ≤ 7293034) (k : lK P Qf c s n xs ro i (uc + 23) (us + 11300)) : zGq P Qf (some ()) 1430 (lvL s c i) [] hp sz uc us := by
  obtain ⟨t, kk, b, h1, h', h2, a1, a2, a3, a4, a5, a6, a7, a8⟩ := W_PR (fun v => if v = 0 then 0 else 1) J (fun p ea S K => r_isConfirmed K p1)
  exact lc_22 C hl0 E.1 a1 a2 a3 a4 a5 a6 a7 ⟨by omega, by omega⟩ (fun z hz => z_widen _ _ (by omega) (by omega) (k h2 z (a8 z hz)))
theorem lx_23 (C : zC P cL_law RL (some .boolean) 20 601024 7293034 7 ro) (hl0 : (match P with | (_, l, _) => l.stackTraces) = false) (J : JW hp c s n xs ro sz) (E : lE s hp i p1 p2 p3 p4 p5) (hc : uc + 23 ≤ 601024 ∧ us + 11300 ≤ 7293034) (k : lK P Qf c s n xs ro i (uc + 23) (us + 11300)) : zGq P Qf (some ()) 1493 (lvL s c i) [] hp sz uc us := by
  obtain ⟨t, kk, b, h1, h', h2, a1, a2, a3, a4, a5, a6, a7, a8⟩ := W_PR (fun v => v.toInt64) J (fun p ea S K => r_result K p1 p2)
  exact lc_23 C hl0 E.1 E.2.1 a1 a2 a3 a4 a5 a6 a7 ⟨by omega, by omega⟩ (fun z hz => z_widen _ _ (by omega) (by omega) (k h2 z (a8 z hz)))
theorem lx_24 (C : zC P cL_law RL (some .boolean) 20 601024 7293034 7 ro) (hl0 : (match P with | (_, l, _) => l.stackTraces) = false) (J : JW hp c s n xs ro sz) (E : lE s hp i p1 p2 p3 p4 p5) (hc : uc + 23 ≤ 601024 ∧ us + 11300 ≤ 7293034) (k : lK P Qf c s n xs ro i (uc + 23) (us + 11300)) : zGq P Qf (some ()) 1561 (lvL s c i) [] hp sz uc us := by
  obtain ⟨t, kk, b, h1, h', h2, a1, a2, a3, a4, a5, a6, a7, a8⟩ := W_PR (fun v => v.toInt64) J (fun p ea S K => r_surplus K p1)
  exact lc_24 C hl0 E.1 a1 a2 a3 a4 a5 a6 a7 ⟨by omega, by omega⟩ (fun z hz => z_widen _ _ (by omega) (by omega) (k h2 z (a8 z hz)))
theorem lx_25 (C : zC P cL_law RL (some .boolean) 20 601024 7293034 7 ro) (hl0 : (match P with | (_, l, _) => l.stackTraces) = false) (J : JW hp c s n xs ro sz) (E : lE s hp i p1 p2 p3 p4 p5) (hc : uc + 23 ≤ 601024 ∧ us + 11300 ≤ 7293034) (k : lK P Qf c s n xs ro i (uc + 23) (us + 11300)) : zGq P Qf (some ()) 1617 (lvL s c i) [] hp sz uc us := by
  obtain ⟨t, kk, b, h1, h', h2, a1, a2, a3, a4, a5, a6, a7, a8⟩ := W_PR (fun v => if v = 0 then 0 else 1) J (fun p ea S K => r_isOff K p1)
  exact lc_25 C hl0 E.1 a1 a2 a3 a4 a5 a6 a7 ⟨by omega, by omega⟩ (fun z hz => z_widen _ _ (by omega) (by omega) (k h2 z (a8 z hz)))
theorem lx_26 (C : zC P cL_law RL (some .boolean) 20 601024 7293034 7 ro) (hl0 : (match P with | (_, l, _) => l.stackTraces) = false) (J : JW hp c s n xs ro sz) (E : lE s hp i p1 p2 p3 p4 p5) (hc : uc + 23 ≤ 601024 ∧ us + 11300 ≤ 7293034) (k : lK P Qf c s n xs ro i (uc + 23) (us + 11300)) : zGq P Qf (some ()) 1680 (lvL s c i) [] hp sz uc us := by
  obtain ⟨t, kk, b, h1, h', h2, a1, a2, a3, a4, a5, a6, a7, a8⟩ := W_PR (fun v => v.toInt64) J (fun p ea S K => r_wardVotes K p1 p2)
  exact lc_26 C hl0 E.1 E.2.1 a1 a2 a3 a4 a5 a6 a7 ⟨by omega, by omega⟩ (fun z hz => z_widen _ _ (by omega) (by omega) (k h2 z (a8 z hz)))
theorem lx_27 (C : zC P cL_law RL (some .boolean) 20 601024 7293034 7 ro) (hl0 : (match P with | (_, l, _) => l.stackTraces) = false) (J : JW hp c s n xs ro sz) (E : lE s hp i p1 p2 p3 p4 p5) (hc : uc + 23 ≤ 601024 ∧ us + 11300 ≤ 7293034) (k : lK P Qf c s n xs ro i (uc + 23) (us + 11300)) : zGq P Qf (some ()) 1748 (lvL s c i) [] hp sz uc us := by
  obtain ⟨t, kk, b, h1, h', h2, a1, a2, a3, a4, a5, a6, a7, a8⟩ := W_PR (fun v => v.toInt64) J (fun p ea S K => r_leader K p1)
  exact lc_27 C hl0 E.1 a1 a2 a3 a4 a5 a6 a7 ⟨by omega, by omega⟩ (fun z hz => z_widen _ _ (by omega) (by omega) (k h2 z (a8 z hz)))
theorem lx_28 (C : zC P cL_law RL (some .boolean) 20 601024 7293034 7 ro) (hl0 : (match P with | (_, l, _) => l.stackTraces) = false) (J : JW hp c s n xs ro sz) (E : lE s hp i p1 p2 p3 p4 p5) (hc : uc + 23 ≤ 601024 ∧ us + 11300 ≤ 7293034) (k : lK P Qf c s n xs ro i (uc + 23) (us + 11300)) : zGq P Qf (some ()) 1804 (lvL s c i) [] hp sz uc us := by
  obtain ⟨t, kk, b, h1, h', h2, a1, a2, a3, a4, a5, a6, a7, a8⟩ := W_PR (fun v => v.toInt64) J (fun p ea S K => r_margin K p1)
  exact lc_28 C hl0 E.1 a1 a2 a3 a4 a5 a6 a7 ⟨by omega, by omega⟩ (fun z hz => z_widen _ _ (by omega) (by omega) (k h2 z (a8 z hz)))
theorem lx_29 (C : zC P cL_law RL (some .boolean) 20 601024 7293034 7 ro) (hl0 : (match P with | (_, l, _) => l.stackTraces) = false) (J : JW hp c s n xs ro sz) (E : lE s hp i p1 p2 p3 p4 p5) (hc : uc + 23 ≤ 601024 ∧ us + 11300 ≤ 7293034) (k : lK P Qf c s n xs ro i (uc + 23) (us + 11300)) : zGq P Qf (some ()) 1860 (lvL s c i) [] hp sz uc us := by
  obtain ⟨t, kk, b, h1, h', h2, a1, a2, a3, a4, a5, a6, a7, a8⟩ := W_PR (fun v => if v = 0 then 0 else 1) J (fun p ea S K => r_isClose K p1)
  exact lc_29 C hl0 E.1 a1 a2 a3 a4 a5 a6 a7 ⟨by omega, by omega⟩ (fun z hz => z_widen _ _ (by omega) (by omega) (k h2 z (a8 z hz)))
theorem lx_30 (C : zC P cL_law RL (some .boolean) 20 601024 7293034 7 ro) (hl0 : (match P with | (_, l, _) => l.stackTraces) = false) (J : JW hp c s n xs ro sz) (E : lE s hp i p1 p2 p3 p4 p5) (hc : uc + 23 ≤ 601024 ∧ us + 11300 ≤ 7293034) (k : lK P Qf c s n xs ro i (uc + 23) (us + 11300)) : zGq P Qf (some ()) 1923 (lvL s c i) [] hp sz uc us := by
  obtain ⟨t, kk, b, h1, h', h2, a1, a2, a3, a4, a5, a6, a7, a8⟩ := W_PR (fun v => v.toInt64) J (fun p ea S K => r_whyNot K p1)
  exact lc_30 C hl0 E.1 a1 a2 a3 a4 a5 a6 a7 ⟨by omega, by omega⟩ (fun z hz => z_widen _ _ (by omega) (by omega) (k h2 z (a8 z hz)))
theorem lx_31 (C : zC P cL_law RL (some .boolean) 20 601024 7293034 7 ro) (hl0 : (match P with | (_, l, _) => l.stackTraces) = false) (J : JW hp c s n xs ro sz) (E : lE s hp i p1 p2 p3 p4 p5) (hc : uc + 23 ≤ 601024 ∧ us + 11300 ≤ 7293034) (k : lK P Qf c s n xs ro i (uc + 23) (us + 11300)) : zGq P Qf (some ()) 1979 (lvL s c i) [] hp sz uc us := by
  obtain ⟨v, h2, a1, a2, J2⟩ := W_PP J (fun p ea S K => r_toCount K )
  exact lc_31 C  a1 a2 rfl ⟨by omega, by omega⟩ (z_widen _ _ (by omega) (by omega) (k h2 sz J2))
theorem lx_32 (C : zC P cL_law RL (some .boolean) 20 601024 7293034 7 ro) (hl0 : (match P with | (_, l, _) => l.stackTraces) = false) (J : JW hp c s n xs ro sz) (E : lE s hp i p1 p2 p3 p4 p5) (hc : uc + 23 ≤ 601024 ∧ us + 11300 ≤ 7293034) (k : lK P Qf c s n xs ro i (uc + 23) (us + 11300)) : zGq P Qf (some ()) 1992 (lvL s c i) [] hp sz uc us := by
  obtain ⟨t, kk, b, h1, h', h2, a1, a2, a3, a4, a5, a6, a7, a8⟩ := W_PR (fun v => v.toInt64) J (fun p ea S K => r_countsLeft K p1)
  exact lc_32 C hl0 E.1 a1 a2 a3 a4 a5 a6 a7 ⟨by omega, by omega⟩ (fun z hz => z_widen _ _ (by omega) (by omega) (k h2 z (a8 z hz)))
theorem lx_33 (C : zC P cL_law RL (some .boolean) 20 601024 7293034 7 ro) (hl0 : (match P with | (_, l, _) => l.stackTraces) = false) (J : JW hp c s n xs ro sz) (E : lE s hp i p1 p2 p3 p4 p5) (hc : uc + 23 ≤ 601024 ∧ us + 11300 ≤ 7293034) (k : lK P Qf c s n xs ro i (uc + 23) (us + 11300)) : zGq P Qf (some ()) 2048 (lvL s c i) [] hp sz uc us := by
  obtain ⟨t, kk, b, h1, h', h2, a1, a2, a3, a4, a5, a6, a7, a8⟩ := W_PR (fun v => v.toInt64) J (fun p ea S K => r_rightTable K p1)
  exact lc_33 C hl0 E.1 a1 a2 a3 a4 a5 a6 a7 ⟨by omega, by omega⟩ (fun z hz => z_widen _ _ (by omega) (by omega) (k h2 z (a8 z hz)))
theorem lx_34 (C : zC P cL_law RL (some .boolean) 20 601024 7293034 7 ro) (hl0 : (match P with | (_, l, _) => l.stackTraces) = false) (J : JW hp c s n xs ro sz) (E : lE s hp i p1 p2 p3 p4 p5) (hc : uc + 23 ≤ 601024 ∧ us + 11300 ≤ 7293034) (k : lK P Qf c s n xs ro i (uc + 23) (us + 11300)) : zGq P Qf (some ()) 2104 (lvL s c i) [] hp sz uc us := by
  obtain ⟨v, h2, a1, a2, J2⟩ := W_PP J (fun p ea S K => r_nextWard K )
  exact lc_34 C  a1 a2 rfl ⟨by omega, by omega⟩ (z_widen _ _ (by omega) (by omega) (k h2 sz J2))
theorem lx_35 (C : zC P cL_law RL (some .boolean) 20 601024 7293034 7 ro) (hl0 : (match P with | (_, l, _) => l.stackTraces) = false) (J : JW hp c s n xs ro sz) (E : lE s hp i p1 p2 p3 p4 p5) (hc : uc + 23 ≤ 601024 ∧ us + 11300 ≤ 7293034) (k : lK P Qf c s n xs ro i (uc + 23) (us + 11300)) : zGq P Qf (some ()) 2117 (lvL s c i) [] hp sz uc us := by
  obtain ⟨v, h2, a1, a2, J2⟩ := W_PP J (fun p ea S K => r_declaredCount K )
  exact lc_35 C  a1 a2 rfl ⟨by omega, by omega⟩ (z_widen _ _ (by omega) (by omega) (k h2 sz J2))
theorem lx_36 (C : zC P cL_law RL (some .boolean) 20 601024 7293034 7 ro) (hl0 : (match P with | (_, l, _) => l.stackTraces) = false) (J : JW hp c s n xs ro sz) (E : lE s hp i p1 p2 p3 p4 p5) (hc : uc + 23 ≤ 601024 ∧ us + 11300 ≤ 7293034) (k : lK P Qf c s n xs ro i (uc + 23) (us + 11300)) : zGq P Qf (some ()) 2130 (lvL s c i) [] hp sz uc us := by
  obtain ⟨v, h2, a1, a2, J2⟩ := W_PP J (fun p ea S K => r_declared K p1)
  exact lc_36 C E.1 a1 a2 rfl ⟨by omega, by omega⟩ (z_widen _ _ (by omega) (by omega) (k h2 sz J2))
theorem lx_37 (C : zC P cL_law RL (some .boolean) 20 601024 7293034 7 ro) (hl0 : (match P with | (_, l, _) => l.stackTraces) = false) (J : JW hp c s n xs ro sz) (E : lE s hp i p1 p2 p3 p4 p5) (hc : uc + 23 ≤ 601024 ∧ us + 11300 ≤ 7293034) (k : lK P Qf c s n xs ro i (uc + 23) (us + 11300)) : zGq P Qf (some ()) 2155 (lvL s c i) [] hp sz uc us := by
  obtain ⟨t, kk, b, h1, h', h2, a1, a2, a3, a4, a5, a6, a7, a8⟩ := W_PR (fun v => if v = 0 then 0 else 1) J (fun p ea S K => r_isRegionDeclared K p1)
  exact lc_37 C hl0 E.1 a1 a2 a3 a4 a5 a6 a7 ⟨by omega, by omega⟩ (fun z hz => z_widen _ _ (by omega) (by omega) (k h2 z (a8 z hz)))
theorem lx_38 (C : zC P cL_law RL (some .boolean) 20 601024 7293034 7 ro) (hl0 : (match P with | (_, l, _) => l.stackTraces) = false) (J : JW hp c s n xs ro sz) (E : lE s hp i p1 p2 p3 p4 p5) (hc : uc + 23 ≤ 601024 ∧ us + 11300 ≤ 7293034) (k : lK P Qf c s n xs ro i (uc + 23) (us + 11300)) : zGq P Qf (some ()) 2218 (lvL s c i) [] hp sz uc us := by
  obtain ⟨t, kk, b, h1, h', h2, a1, a2, a3, a4, a5, a6, a7, a8⟩ := W_PR (fun v => v.toInt64) J (fun p ea S K => r_regionVotes K p1 p2)
  exact lc_38 C hl0 E.1 E.2.1 a1 a2 a3 a4 a5 a6 a7 ⟨by omega, by omega⟩ (fun z hz => z_widen _ _ (by omega) (by omega) (k h2 z (a8 z hz)))
theorem lx_39 (C : zC P cL_law RL (some .boolean) 20 601024 7293034 7 ro) (hl0 : (match P with | (_, l, _) => l.stackTraces) = false) (J : JW hp c s n xs ro sz) (E : lE s hp i p1 p2 p3 p4 p5) (hc : uc + 23 ≤ 601024 ∧ us + 11300 ≤ 7293034) (k : lK P Qf c s n xs ro i (uc + 23) (us + 11300)) : zGq P Qf (some ()) 2286 (lvL s c i) [] hp sz uc us := by
  obtain ⟨t, kk, b, h1, h', h2, a1, a2, a3, a4, a5, a6, a7, a8⟩ := W_PR (fun v => v.toInt64) J (fun p ea S K => r_regionSeats K p1 p2)
  exact lc_39 C hl0 E.1 E.2.1 a1 a2 a3 a4 a5 a6 a7 ⟨by omega, by omega⟩ (fun z hz => z_widen _ _ (by omega) (by omega) (k h2 z (a8 z hz)))
theorem lx_40 (C : zC P cL_law RL (some .boolean) 20 601024 7293034 7 ro) (hl0 : (match P with | (_, l, _) => l.stackTraces) = false) (J : JW hp c s n xs ro sz) (E : lE s hp i p1 p2 p3 p4 p5) (hc : uc + 23 ≤ 601024 ∧ us + 11300 ≤ 7293034) (k : lK P Qf c s n xs ro i (uc + 23) (us + 11300)) : zGq P Qf (some ()) 2354 (lvL s c i) [] hp sz uc us := by
  obtain ⟨t, kk, b, h1, h', h2, a1, a2, a3, a4, a5, a6, a7, a8⟩ := W_PR (fun v => if v = 0 then 0 else 1) J (fun p ea S K => r_isDecided K p1)
  exact lc_40 C hl0 E.1 a1 a2 a3 a4 a5 a6 a7 ⟨by omega, by omega⟩ (fun z hz => z_widen _ _ (by omega) (by omega) (k h2 z (a8 z hz)))
theorem lx_41 (C : zC P cL_law RL (some .boolean) 20 601024 7293034 7 ro) (hl0 : (match P with | (_, l, _) => l.stackTraces) = false) (J : JW hp c s n xs ro sz) (E : lE s hp i p1 p2 p3 p4 p5) (hc : uc + 23 ≤ 601024 ∧ us + 11300 ≤ 7293034) (k : lK P Qf c s n xs ro i (uc + 23) (us + 11300)) : zGq P Qf (some ()) 2417 (lvL s c i) [] hp sz uc us := by
  obtain ⟨v, h2, a1, a2, J2⟩ := W_PP J (fun p ea S K => r_misplaced K )
  exact lc_41 C  a1 a2 rfl ⟨by omega, by omega⟩ (z_widen _ _ (by omega) (by omega) (k h2 sz J2))
theorem lx_42 (C : zC P cL_law RL (some .boolean) 20 601024 7293034 7 ro) (hl0 : (match P with | (_, l, _) => l.stackTraces) = false) (J : JW hp c s n xs ro sz) (E : lE s hp i p1 p2 p3 p4 p5) (hc : uc + 23 ≤ 601024 ∧ us + 11300 ≤ 7293034) (k : lK P Qf c s n xs ro i (uc + 23) (us + 11300)) : zGq P Qf (some ()) 2430 (lvL s c i) [] hp sz uc us := by
  obtain ⟨v, h2, a1, a2, J2⟩ := W_PP J (fun p ea S K => r_worstTable K )
  exact lc_42 C  a1 a2 rfl ⟨by omega, by omega⟩ (z_widen _ _ (by omega) (by omega) (k h2 sz J2))
theorem lx_43 (C : zC P cL_law RL (some .boolean) 20 601024 7293034 7 ro) (hl0 : (match P with | (_, l, _) => l.stackTraces) = false) (J : JW hp c s n xs ro sz) (E : lE s hp i p1 p2 p3 p4 p5) (hc : uc + 23 ≤ 601024 ∧ us + 11300 ≤ 7293034) (k : lK P Qf c s n xs ro i (uc + 23) (us + 11300)) : zGq P Qf (some ()) 2443 (lvL s c i) [] hp sz uc us := by
  obtain ⟨v, h1, h2, a1, a2, a3, J2⟩ := W_PM J (fun p ea σ u F S W hu z4 => c_bring W hu z4 p1)
  exact lc_43 C E.1 a1 a2 a3 rfl ⟨by omega, by omega⟩ (z_widen _ _ (by omega) (by omega) (k h2 sz J2))
theorem lx_44 (C : zC P cL_law RL (some .boolean) 20 601024 7293034 7 ro) (hl0 : (match P with | (_, l, _) => l.stackTraces) = false) (J : JW hp c s n xs ro sz) (E : lE s hp i p1 p2 p3 p4 p5) (hc : uc + 23 ≤ 601024 ∧ us + 11300 ≤ 7293034) (k : lK P Qf c s n xs ro i (uc + 23) (us + 11300)) : zGq P Qf (some ()) 2468 (lvL s c i) [] hp sz uc us := by
  obtain ⟨v, h1, h2, a1, a2, a3, J2⟩ := W_PM J (fun p ea σ u F S W hu z4 => c_open W hu z4 p1 p2)
  exact lc_44 C E.1 E.2.1 a1 a2 a3 rfl ⟨by omega, by omega⟩ (z_widen _ _ (by omega) (by omega) (k h2 sz J2))
theorem lx_45 (C : zC P cL_law RL (some .boolean) 20 601024 7293034 7 ro) (hl0 : (match P with | (_, l, _) => l.stackTraces) = false) (J : JW hp c s n xs ro sz) (E : lE s hp i p1 p2 p3 p4 p5) (hc : uc + 23 ≤ 601024 ∧ us + 11300 ≤ 7293034) (k : lK P Qf c s n xs ro i (uc + 23) (us + 11300)) : zGq P Qf (some ()) 2505 (lvL s c i) [] hp sz uc us := by
  obtain ⟨v, h1, h2, a1, a2, a3, J2⟩ := W_PM J (fun p ea σ u F S W hu z4 => c_countBox W hu z4 p1)
  exact lc_45 C E.1 a1 a2 a3 rfl ⟨by omega, by omega⟩ (z_widen _ _ (by omega) (by omega) (k h2 sz J2))
theorem lx_46 (C : zC P cL_law RL (some .boolean) 20 601024 7293034 7 ro) (hl0 : (match P with | (_, l, _) => l.stackTraces) = false) (J : JW hp c s n xs ro sz) (E : lE s hp i p1 p2 p3 p4 p5) (hc : uc + 23 ≤ 601024 ∧ us + 11300 ≤ 7293034) (k : lK P Qf c s n xs ro i (uc + 23) (us + 11300)) : zGq P Qf (some ()) 2530 (lvL s c i) [] hp sz uc us := by
  obtain ⟨v, h1, h2, a1, a2, a3, J2⟩ := W_PM J (fun p ea σ u F S W hu z4 => c_seal W hu z4 p1)
  exact lc_46 C E.1 a1 a2 a3 rfl ⟨by omega, by omega⟩ (z_widen _ _ (by omega) (by omega) (k h2 sz J2))
theorem lx_47 (C : zC P cL_law RL (some .boolean) 20 601024 7293034 7 ro) (hl0 : (match P with | (_, l, _) => l.stackTraces) = false) (J : JW hp c s n xs ro sz) (E : lE s hp i p1 p2 p3 p4 p5) (hc : uc + 23 ≤ 601024 ∧ us + 11300 ≤ 7293034) (k : lK P Qf c s n xs ro i (uc + 23) (us + 11300)) : zGq P Qf (some ()) 2555 (lvL s c i) [] hp sz uc us := by
  obtain ⟨v, h1, h2, a1, a2, a3, J2⟩ := W_PM J (fun p ea σ u F S W hu z4 => c_tamper W hu z4 p1 p2)
  exact lc_47 C E.1 E.2.1 a1 a2 a3 rfl ⟨by omega, by omega⟩ (z_widen _ _ (by omega) (by omega) (k h2 sz J2))
theorem lx_48 (C : zC P cL_law RL (some .boolean) 20 601024 7293034 7 ro) (hl0 : (match P with | (_, l, _) => l.stackTraces) = false) (J : JW hp c s n xs ro sz) (E : lE s hp i p1 p2 p3 p4 p5) (hc : uc + 23 ≤ 601024 ∧ us + 11300 ≤ 7293034) (k : lK P Qf c s n xs ro i (uc + 23) (us + 11300)) : zGq P Qf (some ()) 2592 (lvL s c i) [] hp sz uc us := by
  obtain ⟨v, h1, h2, a1, a2, a3, J2⟩ := W_PM J (fun p ea σ u F S W hu z4 => c_accept W hu z4 p1)
  exact lc_48 C E.1 a1 a2 a3 rfl ⟨by omega, by omega⟩ (z_widen _ _ (by omega) (by omega) (k h2 sz J2))
theorem lx_49 (C : zC P cL_law RL (some .boolean) 20 601024 7293034 7 ro) (hl0 : (match P with | (_, l, _) => l.stackTraces) = false) (J : JW hp c s n xs ro sz) (E : lE s hp i p1 p2 p3 p4 p5) (hc : uc + 23 ≤ 601024 ∧ us + 11300 ≤ 7293034) (k : lK P Qf c s n xs ro i (uc + 23) (us + 11300)) : zGq P Qf (some ()) 2617 (lvL s c i) [] hp sz uc us := by
  obtain ⟨v, h1, h2, a1, a2, a3, J2⟩ := W_PM J (fun p ea σ u F S W hu z4 => c_declare W hu z4 )
  exact lc_49 C  a1 a2 a3 rfl ⟨by omega, by omega⟩ (z_widen _ _ (by omega) (by omega) (k h2 sz J2))
theorem lx_50 (C : zC P cL_law RL (some .boolean) 20 601024 7293034 7 ro) (hl0 : (match P with | (_, l, _) => l.stackTraces) = false) (J : JW hp c s n xs ro sz) (E : lE s hp i p1 p2 p3 p4 p5) (hc : uc + 23 ≤ 601024 ∧ us + 11300 ≤ 7293034) (k : lK P Qf c s n xs ro i (uc + 23) (us + 11300)) : zGq P Qf (some ()) 2630 (lvL s c i) [] hp sz uc us := by
  obtain ⟨v, h1, h2, a1, a2, a3, J2⟩ := W_PM J (fun p ea σ u F S W hu z4 => c_work W hu z4 )
  exact lc_50 C  a1 a2 a3 rfl ⟨by omega, by omega⟩ (z_widen _ _ (by omega) (by omega) (k h2 sz J2))
theorem lx_51 (C : zC P cL_law RL (some .boolean) 20 601024 7293034 7 ro) (hl0 : (match P with | (_, l, _) => l.stackTraces) = false) (J : JW hp c s n xs ro sz) (E : lE s hp i p1 p2 p3 p4 p5) (hc : uc + 23 ≤ 601024 ∧ us + 11300 ≤ 7293034) (k : lK P Qf c s n xs ro i (uc + 23) (us + 11300)) : zGq P Qf (some ()) 2643 (lvL s c i) [] hp sz uc us := by
  obtain ⟨v, h1, h2, a1, a2, a3, J2⟩ := W_PM J (fun p ea σ u F S W hu z4 => c_setSetting W hu z4 p1 p2)
  exact lc_51 C E.1 E.2.1 a1 a2 a3 rfl ⟨by omega, by omega⟩ (z_widen _ _ (by omega) (by omega) (k h2 sz J2))
theorem lx_52 (C : zC P cL_law RL (some .boolean) 20 601024 7293034 7 ro) (hl0 : (match P with | (_, l, _) => l.stackTraces) = false) (J : JW hp c s n xs ro sz) (E : lE s hp i p1 p2 p3 p4 p5) (hc : uc + 23 ≤ 601024 ∧ us + 11300 ≤ 7293034) (k : lK P Qf c s n xs ro i (uc + 23) (us + 11300)) : zGq P Qf (some ()) 2680 (lvL s c i) [] hp sz uc us := by
  obtain ⟨v, h1, h2, a1, a2, a3, J2⟩ := W_undo J 
  exact lc_52 C  a1 a2 a3 rfl ⟨by omega, by omega⟩ (z_widen _ _ (by omega) (by omega) (k h2 sz J2))
theorem lx_53 (C : zC P cL_law RL (some .boolean) 20 601024 7293034 7 ro) (hl0 : (match P with | (_, l, _) => l.stackTraces) = false) (J : JW hp c s n xs ro sz) (E : lE s hp i p1 p2 p3 p4 p5) (hc : uc + 23 ≤ 601024 ∧ us + 11300 ≤ 7293034) (k : lK P Qf c s n xs ro i (uc + 23) (us + 11300)) : zGq P Qf (some ()) 2693 (lvL s c i) [] hp sz uc us := by
  obtain ⟨t, kk, b, h1, h', h2, z0, a1, a2, a3, a4, a5, a6, a7, a8⟩ := W_write J p1
  exact lc_53w C hl0 E.1 a1 a2 a3 a4 a5 a6 a7 ⟨by omega, by omega⟩ (fun z hz => k h2 z (a8 z hz))
theorem lx_54 (C : zC P cL_law RL (some .boolean) 20 601024 7293034 7 ro) (hl0 : (match P with | (_, l, _) => l.stackTraces) = false) (J : JW hp c s n xs ro sz) (E : lE s hp i p1 p2 p3 p4 p5) (hc : uc + 23 ≤ 601024 ∧ us + 11300 ≤ 7293034) (k : lK P Qf c s n xs ro i (uc + 23) (us + 11300)) : zGq P Qf (some ()) 2749 (lvL s c i) [] hp sz uc us := by
  obtain ⟨v, h2, a1, a2, J2⟩ := W_outputAt J p1
  exact lc_54 C E.1 a1 a2 rfl ⟨by omega, by omega⟩ (z_widen _ _ (by omega) (by omega) (k h2 sz J2))
set_option maxHeartbeats 4000000 in
set_option maxRecDepth 100000 in
theorem l_switch (C : zC P cL_law RL (some .boolean) 20 601024 7293034 7 ro) (hl0 : (match P with | (_, l, _) => l.stackTraces) = false) (J : JW hp c s n xs ro sz) (E : lE s hp i p1 p2 p3 p4 p5) (hc : uc + 23 ≤ 601024 ∧ us + 11300 ≤ 7293034) (k : lK P Qf c s n xs ro i (uc + 23) (us + 11300)) (x : Int32) : zGq P Qf (some ()) 40 (lvL s c i) [.int x] hp sz uc us := by
  by_cases n0 : x = 0
  · exact y_case C 0 276 n0 dL_law_40 (by decide) (by decide) rfl (by decide) (lx_0 C hl0 J E hc k)
  by_cases n1 : x = 1
  · exact y_case C 1 349 n1 dL_law_40 (by decide) (by decide) rfl (by decide) (lx_1 C hl0 J E hc k)
  by_cases n2 : x = 2
  · exact y_case C 2 374 n2 dL_law_40 (by decide) (by decide) rfl (by decide) (lx_2 C hl0 J E hc k)
  by_cases n3 : x = 3
  · exact y_case C 3 387 n3 dL_law_40 (by decide) (by decide) rfl (by decide) (lx_3 C hl0 J E hc k)
  by_cases n4 : x = 4
  · exact y_case C 4 412 n4 dL_law_40 (by decide) (by decide) rfl (by decide) (lx_4 C hl0 J E hc k)
  by_cases n5 : x = 5
  · exact y_case C 5 425 n5 dL_law_40 (by decide) (by decide) rfl (by decide) (lx_5 C hl0 J E hc k)
  by_cases n6 : x = 6
  · exact y_case C 6 462 n6 dL_law_40 (by decide) (by decide) rfl (by decide) (lx_6 C hl0 J E hc k)
  by_cases n7 : x = 7
  · exact y_case C 7 487 n7 dL_law_40 (by decide) (by decide) rfl (by decide) (lx_7 C hl0 J E hc k)
  by_cases n8 : x = 8
  · exact y_case C 8 543 n8 dL_law_40 (by decide) (by decide) rfl (by decide) (lx_8 C hl0 J E hc k)
  by_cases n9 : x = 9
  · exact y_case C 9 599 n9 dL_law_40 (by decide) (by decide) rfl (by decide) (lx_9 C hl0 J E hc k)
  by_cases n10 : x = 10
  · exact y_case C 10 655 n10 dL_law_40 (by decide) (by decide) rfl (by decide) (lx_10 C hl0 J E hc k)
  by_cases n11 : x = 11
  · exact y_case C 11 711 n11 dL_law_40 (by decide) (by decide) rfl (by decide) (lx_11 C hl0 J E hc k)
  by_cases n12 : x = 12
  · exact y_case C 12 779 n12 dL_law_40 (by decide) (by decide) rfl (by decide) (lx_12 C hl0 J E hc k)
  by_cases n13 : x = 13
  · exact y_case C 13 835 n13 dL_law_40 (by decide) (by decide) rfl (by decide) (lx_13 C hl0 J E hc k)
  by_cases n14 : x = 14
  · exact y_case C 14 903 n14 dL_law_40 (by decide) (by decide) rfl (by decide) (lx_14 C hl0 J E hc k)
  by_cases n15 : x = 15
  · exact y_case C 15 966 n15 dL_law_40 (by decide) (by decide) rfl (by decide) (lx_15 C hl0 J E hc k)
  by_cases n16 : x = 16
  · exact y_case C 16 1022 n16 dL_law_40 (by decide) (by decide) rfl (by decide) (lx_16 C hl0 J E hc k)
  by_cases n17 : x = 17
  · exact y_case C 17 1090 n17 dL_law_40 (by decide) (by decide) rfl (by decide) (lx_17 C hl0 J E hc k)
  by_cases n18 : x = 18
  · exact y_case C 18 1146 n18 dL_law_40 (by decide) (by decide) rfl (by decide) (lx_18 C hl0 J E hc k)
  by_cases n19 : x = 19
  · exact y_case C 19 1202 n19 dL_law_40 (by decide) (by decide) rfl (by decide) (lx_19 C hl0 J E hc k)
  by_cases n20 : x = 20
  · exact y_case C 20 1282 n20 dL_law_40 (by decide) (by decide) rfl (by decide) (lx_20 C hl0 J E hc k)
  by_cases n21 : x = 21
  · exact y_case C 21 1350 n21 dL_law_40 (by decide) (by decide) rfl (by decide) (lx_21 C hl0 J E hc k)
  by_cases n22 : x = 22
  · exact y_case C 22 1430 n22 dL_law_40 (by decide) (by decide) rfl (by decide) (lx_22 C hl0 J E hc k)
  by_cases n23 : x = 23
  · exact y_case C 23 1493 n23 dL_law_40 (by decide) (by decide) rfl (by decide) (lx_23 C hl0 J E hc k)
  by_cases n24 : x = 24
  · exact y_case C 24 1561 n24 dL_law_40 (by decide) (by decide) rfl (by decide) (lx_24 C hl0 J E hc k)
  by_cases n25 : x = 25
  · exact y_case C 25 1617 n25 dL_law_40 (by decide) (by decide) rfl (by decide) (lx_25 C hl0 J E hc k)
  by_cases n26 : x = 26
  · exact y_case C 26 1680 n26 dL_law_40 (by decide) (by decide) rfl (by decide) (lx_26 C hl0 J E hc k)
  by_cases n27 : x = 27
  · exact y_case C 27 1748 n27 dL_law_40 (by decide) (by decide) rfl (by decide) (lx_27 C hl0 J E hc k)
  by_cases n28 : x = 28
  · exact y_case C 28 1804 n28 dL_law_40 (by decide) (by decide) rfl (by decide) (lx_28 C hl0 J E hc k)
  by_cases n29 : x = 29
  · exact y_case C 29 1860 n29 dL_law_40 (by decide) (by decide) rfl (by decide) (lx_29 C hl0 J E hc k)
  by_cases n30 : x = 30
  · exact y_case C 30 1923 n30 dL_law_40 (by decide) (by decide) rfl (by decide) (lx_30 C hl0 J E hc k)
  by_cases n31 : x = 31
  · exact y_case C 31 1979 n31 dL_law_40 (by decide) (by decide) rfl (by decide) (lx_31 C hl0 J E hc k)
  by_cases n32 : x = 32
  · exact y_case C 32 1992 n32 dL_law_40 (by decide) (by decide) rfl (by decide) (lx_32 C hl0 J E hc k)
  by_cases n33 : x = 33
  · exact y_case C 33 2048 n33 dL_law_40 (by decide) (by decide) rfl (by decide) (lx_33 C hl0 J E hc k)
  by_cases n34 : x = 34
  · exact y_case C 34 2104 n34 dL_law_40 (by decide) (by decide) rfl (by decide) (lx_34 C hl0 J E hc k)
  by_cases n35 : x = 35
  · exact y_case C 35 2117 n35 dL_law_40 (by decide) (by decide) rfl (by decide) (lx_35 C hl0 J E hc k)
  by_cases n36 : x = 36
  · exact y_case C 36 2130 n36 dL_law_40 (by decide) (by decide) rfl (by decide) (lx_36 C hl0 J E hc k)
  by_cases n37 : x = 37
  · exact y_case C 37 2155 n37 dL_law_40 (by decide) (by decide) rfl (by decide) (lx_37 C hl0 J E hc k)
  by_cases n38 : x = 38
  · exact y_case C 38 2218 n38 dL_law_40 (by decide) (by decide) rfl (by decide) (lx_38 C hl0 J E hc k)
  by_cases n39 : x = 39
  · exact y_case C 39 2286 n39 dL_law_40 (by decide) (by decide) rfl (by decide) (lx_39 C hl0 J E hc k)
  by_cases n40 : x = 40
  · exact y_case C 40 2354 n40 dL_law_40 (by decide) (by decide) rfl (by decide) (lx_40 C hl0 J E hc k)
  by_cases n41 : x = 41
  · exact y_case C 41 2417 n41 dL_law_40 (by decide) (by decide) rfl (by decide) (lx_41 C hl0 J E hc k)
  by_cases n42 : x = 42
  · exact y_case C 42 2430 n42 dL_law_40 (by decide) (by decide) rfl (by decide) (lx_42 C hl0 J E hc k)
  by_cases n43 : x = 43
  · exact y_case C 43 2443 n43 dL_law_40 (by decide) (by decide) rfl (by decide) (lx_43 C hl0 J E hc k)
  by_cases n44 : x = 44
  · exact y_case C 44 2468 n44 dL_law_40 (by decide) (by decide) rfl (by decide) (lx_44 C hl0 J E hc k)
  by_cases n45 : x = 45
  · exact y_case C 45 2505 n45 dL_law_40 (by decide) (by decide) rfl (by decide) (lx_45 C hl0 J E hc k)
  by_cases n46 : x = 46
  · exact y_case C 46 2530 n46 dL_law_40 (by decide) (by decide) rfl (by decide) (lx_46 C hl0 J E hc k)
  by_cases n47 : x = 47
  · exact y_case C 47 2555 n47 dL_law_40 (by decide) (by decide) rfl (by decide) (lx_47 C hl0 J E hc k)
  by_cases n48 : x = 48
  · exact y_case C 48 2592 n48 dL_law_40 (by decide) (by decide) rfl (by decide) (lx_48 C hl0 J E hc k)
  by_cases n49 : x = 49
  · exact y_case C 49 2617 n49 dL_law_40 (by decide) (by decide) rfl (by decide) (lx_49 C hl0 J E hc k)
  by_cases n50 : x = 50
  · exact y_case C 50 2630 n50 dL_law_40 (by decide) (by decide) rfl (by decide) (lx_50 C hl0 J E hc k)
  by_cases n51 : x = 51
  · exact y_case C 51 2643 n51 dL_law_40 (by decide) (by decide) rfl (by decide) (lx_51 C hl0 J E hc k)
  by_cases n52 : x = 52
  · exact y_case C 52 2680 n52 dL_law_40 (by decide) (by decide) rfl (by decide) (lx_52 C hl0 J E hc k)
  by_cases n53 : x = 53
  · exact y_case C 53 2693 n53 dL_law_40 (by decide) (by decide) rfl (by decide) (lx_53 C hl0 J E hc k)
  by_cases n54 : x = 54
  · exact y_case C 54 2749 n54 dL_law_40 (by decide) (by decide) rfl (by decide) (lx_54 C hl0 J E hc k)
  refine z_dflt C 2774 dL_law_40 (Classical.byContradiction fun q => ?_) (by decide) (z_widen _ _ (by omega) (by omega) (k hp sz J))
  have h := (Int32.ofInt_toInt x).symm
  rcases (show x.toInt = 0 ∨ x.toInt = 1 ∨ x.toInt = 2 ∨ x.toInt = 3 ∨ x.toInt = 4 ∨ x.toInt = 5 ∨ x.toInt = 6 ∨ x.toInt = 7 ∨ x.toInt = 8 ∨ x.toInt = 9 ∨ x.toInt = 10 ∨ x.toInt = 11 ∨ x.toInt = 12 ∨ x.toInt = 13 ∨ x.toInt = 14 ∨ x.toInt = 15 ∨ x.toInt = 16 ∨ x.toInt = 17 ∨ x.toInt = 18 ∨ x.toInt = 19 ∨ x.toInt = 20 ∨ x.toInt = 21 ∨ x.toInt = 22 ∨ x.toInt = 23 ∨ x.toInt = 24 ∨ x.toInt = 25 ∨ x.toInt = 26 ∨ x.toInt = 27 ∨ x.toInt = 28 ∨ x.toInt = 29 ∨ x.toInt = 30 ∨ x.toInt = 31 ∨ x.toInt = 32 ∨ x.toInt = 33 ∨ x.toInt = 34 ∨ x.toInt = 35 ∨ x.toInt = 36 ∨ x.toInt = 37 ∨ x.toInt = 38 ∨ x.toInt = 39 ∨ x.toInt = 40 ∨ x.toInt = 41 ∨ x.toInt = 42 ∨ x.toInt = 43 ∨ x.toInt = 44 ∨ x.toInt = 45 ∨ x.toInt = 46 ∨ x.toInt = 47 ∨ x.toInt = 48 ∨ x.toInt = 49 ∨ x.toInt = 50 ∨ x.toInt = 51 ∨ x.toInt = 52 ∨ x.toInt = 53 ∨ x.toInt = 54 by omega) with e | e | e | e | e | e | e | e | e | e | e | e | e | e | e | e | e | e | e | e | e | e | e | e | e | e | e | e | e | e | e | e | e | e | e | e | e | e | e | e | e | e | e | e | e | e | e | e | e | e | e | e | e | e | e
  · exact n0 (h.trans (by rw [e] <;> decide +kernel))
  · exact n1 (h.trans (by rw [e] <;> decide +kernel))
  · exact n2 (h.trans (by rw [e] <;> decide +kernel))
  · exact n3 (h.trans (by rw [e] <;> decide +kernel))
  · exact n4 (h.trans (by rw [e] <;> decide +kernel))
  · exact n5 (h.trans (by rw [e] <;> decide +kernel))
  · exact n6 (h.trans (by rw [e] <;> decide +kernel))
  · exact n7 (h.trans (by rw [e] <;> decide +kernel))
  · exact n8 (h.trans (by rw [e] <;> decide +kernel))
  · exact n9 (h.trans (by rw [e] <;> decide +kernel))
  · exact n10 (h.trans (by rw [e] <;> decide +kernel))
  · exact n11 (h.trans (by rw [e] <;> decide +kernel))
  · exact n12 (h.trans (by rw [e] <;> decide +kernel))
  · exact n13 (h.trans (by rw [e] <;> decide +kernel))
  · exact n14 (h.trans (by rw [e] <;> decide +kernel))
  · exact n15 (h.trans (by rw [e] <;> decide +kernel))
  · exact n16 (h.trans (by rw [e] <;> decide +kernel))
  · exact n17 (h.trans (by rw [e] <;> decide +kernel))
  · exact n18 (h.trans (by rw [e] <;> decide +kernel))
  · exact n19 (h.trans (by rw [e] <;> decide +kernel))
  · exact n20 (h.trans (by rw [e] <;> decide +kernel))
  · exact n21 (h.trans (by rw [e] <;> decide +kernel))
  · exact n22 (h.trans (by rw [e] <;> decide +kernel))
  · exact n23 (h.trans (by rw [e] <;> decide +kernel))
  · exact n24 (h.trans (by rw [e] <;> decide +kernel))
  · exact n25 (h.trans (by rw [e] <;> decide +kernel))
  · exact n26 (h.trans (by rw [e] <;> decide +kernel))
  · exact n27 (h.trans (by rw [e] <;> decide +kernel))
  · exact n28 (h.trans (by rw [e] <;> decide +kernel))
  · exact n29 (h.trans (by rw [e] <;> decide +kernel))
  · exact n30 (h.trans (by rw [e] <;> decide +kernel))
  · exact n31 (h.trans (by rw [e] <;> decide +kernel))
  · exact n32 (h.trans (by rw [e] <;> decide +kernel))
  · exact n33 (h.trans (by rw [e] <;> decide +kernel))
  · exact n34 (h.trans (by rw [e] <;> decide +kernel))
  · exact n35 (h.trans (by rw [e] <;> decide +kernel))
  · exact n36 (h.trans (by rw [e] <;> decide +kernel))
  · exact n37 (h.trans (by rw [e] <;> decide +kernel))
  · exact n38 (h.trans (by rw [e] <;> decide +kernel))
  · exact n39 (h.trans (by rw [e] <;> decide +kernel))
  · exact n40 (h.trans (by rw [e] <;> decide +kernel))
  · exact n41 (h.trans (by rw [e] <;> decide +kernel))
  · exact n42 (h.trans (by rw [e] <;> decide +kernel))
  · exact n43 (h.trans (by rw [e] <;> decide +kernel))
  · exact n44 (h.trans (by rw [e] <;> decide +kernel))
  · exact n45 (h.trans (by rw [e] <;> decide +kernel))
  · exact n46 (h.trans (by rw [e] <;> decide +kernel))
  · exact n47 (h.trans (by rw [e] <;> decide +kernel))
  · exact n48 (h.trans (by rw [e] <;> decide +kernel))
  · exact n49 (h.trans (by rw [e] <;> decide +kernel))
  · exact n50 (h.trans (by rw [e] <;> decide +kernel))
  · exact n51 (h.trans (by rw [e] <;> decide +kernel))
  · exact n52 (h.trans (by rw [e] <;> decide +kernel))
  · exact n53 (h.trans (by rw [e] <;> decide +kernel))
  · exact n54 (h.trans (by rw [e] <;> decide +kernel))
end P91
