/-! PURE: the law's valid count, and whether it is sure -/
section P60
variable {hp : zHp} {c ld hl hi sb p q : Nat} {ea : Int32} {T N : Nat → Int32} {b i j k : Nat}
theorem zb_and1 (z : Bool) : zb z &&& 1 = zb z := by cases z <;> decide
theorem zb_and0 (z : Bool) : zb z &&& 0 = zb false := by cases z <;> decide
theorem v_p (K : wK hp c ld hl hi sb p q ea T N) (hb : b < sN T 3) (hi : i < sC N b) (hj : j < sC N b) {s0 : Int32} {s : Bool} (h0 : s0 = zb s) (n : Int32) (k95 : Int32 → Option Int32) : l_L_valid_49 k95 c (Int32.ofNat b) n (Int32.ofNat i) (Int32.ofNat j) hp 1000000 s0 0 = k95 (zb (s && sSame T (sFd N b i) (sFd N b j))) := by
  have I := hh_I K.2
  have hd := sI_bd I
  rw [sSame_any]
  refine zFAe (n := sPi T) (fun m => zb (s && !zany (fun k => !decide (sFd N b i k = sFd N b j k)) m)) _ (by rw [h0]; simp [zany, zff]) (by omega) (fun m k hk => ?_) (fun m => ?_)
  · have e0 : ¬ sN T 0 < k := by omega
    simp (disch := omega) only [l_L_valid_49_s, b_L_valid_49, j_L_valid_86, g_count0 K, Option.bind_some, pn_lt, e0, if_false, g_counted K hb hi hk, g_counted K hb hj hk, zlet, pn_succ, zany_s]
    by_cases e : sFd N b i k = sFd N b j k
    · rw [if_pos e, zb_and1]
      simp [e]
    · rw [if_neg e, zb_and0]
      simp [e]
  · have e0 : sN T 0 < sPi T := by omega
    simp (disch := omega) only [l_L_valid_49_s, b_L_valid_49, g_count0 K, Option.bind_some, pn_lt, e0, if_true]
theorem v_j (K : wK hp c ld hl hi sb p q ea T N) (hb : b < sN T 3) (hi : i < sC N b) (k100 k108 : Option Int32) : l_L_valid_17 k100 k108 c (Int32.ofNat b) (Int32.ofNat (sC N b)) (Int32.ofNat i) hp 1000000 0 = if (zff (fun j => sAgr T N b i j) (sC N b) 0).isSome = true then k100 else k108 := by
  have I := hh_I K.2
  have hc := sI_c I hb
  refine zFC (n := sC N b) (fun j => sAgr T N b i j) _ _ (by omega) (fun m j hj => ?_) (fun m => ?_)
  · simp (disch := omega) only [l_L_valid_17_s, b_L_valid_17, j_L_valid_44, g_countedAt K hb hi, g_countedAt K hb hj, pn_lt, hj, if_true, Option.bind_some]
    by_cases q : sF N b (16 + i) = sF N b (16 + j)
    · rw [if_pos q, v_p K hb hi hj (s0 := 0) (s := false) rfl]
      have eA : sAgr T N b i j = false := by
        unfold sAgr
        rw [decide_eq_true q]
        rfl
      simp only [eA, Bool.false_and, zb_0, eq_self, if_true, zlet, pn_succ, Bool.false_eq_true, if_false]
    · rw [if_neg q, v_p K hb hi hj (s0 := 1) (s := true) rfl]
      have eA : sAgr T N b i j = sSame T (sFd N b i) (sFd N b j) := by
        unfold sAgr
        rw [decide_eq_false q]
        rfl
      simp only [eA, zb_0, Bool.true_and, ite_bf, zlet, pn_succ]
  · simp (disch := omega) only [l_L_valid_17_s, b_L_valid_17, Int32.lt_irrefl, if_false]
theorem v_valid (K : wK hp c ld hl hi sb p q ea T N) (hb : b < sN T 3) : f_L_valid c (Int32.ofNat b) hp = some (if sC N b = 0 then -1 else Int32.ofNat (sVi T N b)) := by
  have I := hh_I K.2
  have hc := sI_c I hb
  simp only [f_L_valid, g_prop3 K hb, Option.bind_some]
  refine (zF (n := sC N b) (fun i => (zff (fun j => sAgr T N b i j) (sC N b) 0).isSome) (fun i => some (Int32.ofNat i)) (some (Int32.ofNat (sC N b) - 1)) (by omega) (fun m i hi => ?_) (fun m => ?_)).trans ?_
  · simp (disch := omega) only [l_L_valid_9_s, b_L_valid_9, pn_lt, hi, if_true, v_j K hb hi, zlet, pn_succ]
  · simp (disch := omega) only [l_L_valid_9_s, b_L_valid_9, Int32.lt_irrefl, if_false]
  · show (match sCf T N b with | some k => some (Int32.ofNat k) | none => some (Int32.ofNat (sC N b) - 1)) = _
    unfold sVi
    cases e : sCf T N b with
    | some k =>
      have := sCf_lt e
      rw [if_neg (by omega)]
    | none =>
      by_cases h0 : sC N b = 0
      · rw [if_pos h0, h0]
        rfl
      · rw [if_neg h0]
        obtain ⟨r, hr⟩ : ∃ r, sC N b = r + 1 := ⟨sC N b - 1, by omega⟩
        rw [hr, is1]
        rfl
theorem s_p (K : wK hp c ld hl hi sb p q ea T N) (hb : b < sN T 3) (hi : i < sC N b) (hj : j < sC N b) {s0 : Int32} {s : Bool} (h0 : s0 = zb s) (n is : Int32) (k97 : Int32 → Option Int32) : l_L_isSure_51 k97 c (Int32.ofNat b) n (Int32.ofNat i) is (Int32.ofNat j) hp 1000000 s0 0 = k97 (zb (s && sSame T (sFd N b i) (sFd N b j))) := by
  have I := hh_I K.2
  have hd := sI_bd I
  rw [sSame_any]
  refine zFAe (n := sPi T) (fun m => zb (s && !zany (fun k => !decide (sFd N b i k = sFd N b j k)) m)) _ (by rw [h0]; simp [zany, zff]) (by omega) (fun m k hk => ?_) (fun m => ?_)
  · have e0 : ¬ sN T 0 < k := by omega
    simp (disch := omega) only [l_L_isSure_51_s, b_L_isSure_51, j_L_isSure_88, g_count0 K, Option.bind_some, pn_lt, e0, if_false, g_counted K hb hi hk, g_counted K hb hj hk, zlet, pn_succ, zany_s]
    by_cases e : sFd N b i k = sFd N b j k
    · rw [if_pos e, zb_and1]
      simp [e]
    · rw [if_neg e, zb_and0]
      simp [e]
  · have e0 : sN T 0 < sPi T := by omega
    simp (disch := omega) only [l_L_isSure_51_s, b_L_isSure_51, g_count0 K, Option.bind_some, pn_lt, e0, if_true]
theorem s_sure (K : wK hp c ld hl hi sb p q ea T N) (hb : b < sN T 3) : f_L_isSure c (Int32.ofNat b) hp = some (zb (sCf T N b).isSome) := by
  have I := hh_I K.2
  have hc := sI_c I hb
  simp only [f_L_isSure, g_prop3 K hb, v_valid K hb, Option.bind_some]
  by_cases h0 : sC N b = 0
  · have e : sCf T N b = none := by
      unfold sCf
      rw [h0]
      rfl
    rw [if_pos h0, h0, e]
    simp only [l_L_isSure_19_s (n := 999999), b_L_isSure_19]
    rfl
  · rw [if_neg h0]
    have hv := sVi_lt (T := T) h0
    refine (zFAe (n := sC N b) (fun m => zb (zany (fun j => sAgr T N b (sVi T N b) j) m)) (zrNp .boolean (zb (zany (fun j => sAgr T N b (sVi T N b) j) (sC N b)))) rfl (by omega) (fun m j hj => ?_) (fun m => ?_)).trans ?_
    · simp (disch := omega) only [l_L_isSure_19_s, b_L_isSure_19, j_L_isSure_46, g_countedAt K hb hv, g_countedAt K hb hj, pn_lt, hj, if_true, Option.bind_some, zany_s]
      by_cases q : sF N b (16 + sVi T N b) = sF N b (16 + j)
      · rw [if_pos q, s_p K hb hv hj (s0 := 0) (s := false) rfl]
        have eA : sAgr T N b (sVi T N b) j = false := by
          unfold sAgr
          rw [decide_eq_true q]
          rfl
        simp only [eA, Bool.false_and, zlet, pn_succ, zb_or]
      · rw [if_neg q, s_p K hb hv hj (s0 := 1) (s := true) rfl]
        have eA : sAgr T N b (sVi T N b) j = sSame T (sFd N b (sVi T N b)) (sFd N b j) := by
          unfold sAgr
          rw [decide_eq_false q]
          rfl
        simp only [eA, Bool.true_and, zlet, pn_succ, zb_or]
    · simp (disch := omega) only [l_L_isSure_19_s, b_L_isSure_19, Int32.lt_irrefl, if_false]
    · rw [zrNp_b]
      congr 2
      show (zff (fun j => sAgr T N b (sVi T N b) j) (sC N b) 0).isSome = _
      unfold sVi
      cases e : sCf T N b with
      | some k => exact (zff_some e).2.2.1
      | none => exact zff_none e (sC N b - 1) (by omega) (by omega)
end P60
