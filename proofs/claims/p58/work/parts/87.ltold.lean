/-! PURE: the law's check of a ward holds in every state -/
section P63
variable {hp h hp' : zHp} {x a a' q b u c p hl t k n s r sz mc ms z uc us w : Nat} {ea : Int32} {T N N' R : Nat → Int32} {σ : Nat → Nat} {Ps : Nat → Nat → Int32}
theorem zmax_0n {r : Nat} (h : r < 2147483648) : zmax 0 (Int32.ofNat r) = Int32.ofNat r := by
  unfold zmax
  by_cases e : 0 < r
  · rw [if_pos (by rw [pn_0lt h]; exact e)]
  · have : r = 0 := by omega
    subst this
    rfl
/-- a box's valid count added to the votes -/
theorem t_row (W : wW hp c p ea T N σ u Ps) (hsz : c + 635 ≤ sz) (hb : b < sN T 3) {f : Nat → Int32} (fr : ∀ a, a ≠ sz → h a = hp a) (hf : h sz = some (.inl (0, sPi T, .inl f))) (hr : uc ≤ mc ∧ us ≤ ms) :
    ∃ h', ((∀ a, a ≠ sz → h' a = hp a) ∧ ∃ f', h' sz = some (.inl (0, sPi T, .inl f')) ∧ ∀ j, j < sPi T → f' j = f j + sVal T N b j) ∧ ∀ (K : zHp → Nat → Nat → Nat → Option (Int32 × zHp × Nat)) (x1 x3 x4 x5 x6 x7 : Int32), l_L_isTold_144 mc ms K c x1 sz x3 x4 x5 x6 x7 (Int32.ofNat b) 1000000 0 h z uc us = K h' z uc us := by
  have I := hh_I W.1.2
  have hd := sI_bd I
  have hC := sI_c I hb
  obtain ⟨h', ⟨fr', f', hf', hv'⟩, e⟩ := zXK (ι := (zHp → Nat → Nat → Nat → Option (Int32 × zHp × Nat)) × Int32 × Int32 × Int32 × Int32 × Int32 × Int32) (L := fun κ m i h => l_L_isTold_144 mc ms κ.1 c κ.2.1 sz κ.2.2.1 κ.2.2.2.1 κ.2.2.2.2.1 κ.2.2.2.2.2.1 κ.2.2.2.2.2.2 (Int32.ofNat b) m (Int32.ofNat i) h z uc us) (sPi T)
    (fun i h => (∀ a, a ≠ sz → h a = hp a) ∧ ∃ f', h sz = some (.inl (0, sPi T, .inl f')) ∧ ∀ j, j < sPi T → f' j = if j < i then f j + sVal T N b j else f j) (s0 := h) ⟨fr, f, hf, fun j hj => by rw [if_neg (by omega)]⟩
    (fun i h hi ⟨fr, f', hf, hv⟩ => by
      have W1 := wW_fr W (h := h) (fun a ha => fr a (by have := W.2.1; omega))
      have K1 := W1.1
      have er : ∃ v, f_X7_result c (Int32.ofNat b) (Int32.ofNat i) h = some v ∧ zmax 0 v = sVal T N b i := by
        by_cases h0 : sC N b = 0
        · exact ⟨-1, g_result0 K1 hb h0 _, by unfold sVal; rw [if_pos h0]; decide⟩
        · obtain ⟨r, h1, h2⟩ := sVal_small I hb hi
          exact ⟨_, g_result K1 hb h0 hi, by rw [h2]; exact zmax_0n (by omega)⟩
      obtain ⟨v, e1, e2⟩ := er
      have rd : zaI h 0 sz (Int32.ofNat i) = some (f i) := by rw [pa_rd hf (Or.inl rfl) hi (by omega), hv i hi, if_neg (by omega)]
      have wr : zsI h sz (Int32.ofNat i) (f i + zmax 0 v) = some (zup h sz (.inl (0, sPi T, .inl (upd f' i (f i + zmax 0 v))))) := pa_wr hf hi (by omega) _
      refine ⟨_, ⟨fun a ha => (zup_ne ha).trans (fr a ha), upd f' i (f i + zmax 0 v), zup_eq _ _ _, fun j hj => ?_⟩, fun κ m => ?_⟩
      · rw [zU]
        by_cases ej : j = i
        · rw [if_pos ej, if_pos (by omega), e2, ej]
        · rw [if_neg ej, hv j hj]
          by_cases e3 : j < i
          · rw [if_pos e3, if_pos (by omega)]
          · rw [if_neg e3, if_neg (by omega)]
      · simp (disch := omega) only [l_L_isTold_144_s, b_L_isTold_144, zlen0 hf, pn_lt, hi, if_true, rd, zchk_t hr, e1, wr, Option.bind_some, zlet, pn_succ])
    (K := fun κ h => κ.1 h z uc us)
    (fun h ⟨fr, f', hf, hv⟩ κ m => by
      simp (disch := omega) only [l_L_isTold_144_s, b_L_isTold_144, zlen0 hf, Int32.lt_irrefl, if_false, Option.bind_some]) (m := 1000000) (by omega)
  exact ⟨h', ⟨fr', f', hf', fun j hj => by rw [hv' j hj, if_pos hj]⟩, fun K x1 x3 x4 x5 x6 x7 => e (K, x1, x3, x4, x5, x6, x7)⟩
theorem zmul_comm' (x y : Int32) : x * y = y * x := Int32.mul_comm x y
set_option maxHeartbeats 4000000 in
/-- the boxes of the ward -/
theorem t_box (W : wW hp c p ea T N σ u Ps) (hsz : c + 635 ≤ sz) (wv : Int32) {f : Nat → Int32} (fr0 : ∀ a, a ≠ sz → h a = hp a) (hf0 : h sz = some (.inl (0, sPi T, .inl f))) (hv0 : ∀ j, j < sPi T → f j = 0) (hr : uc ≤ mc ∧ us ≤ ms) (K : Int32 → Int32 → Int32 → Int32 → Int32 → zHp → Nat → Nat → Nat → Option (Int32 × zHp × Nat)) :
    ∃ h', ((∀ a, a ≠ sz → h' a = hp a) ∧ ∃ f', h' sz = some (.inl (0, sPi T, .inl f')) ∧ ∀ j, j < sPi T → f' j = sVo T N wv j) ∧ l_L_isTold_27 mc ms K c wv sz 1000000 1 0 0 0 0 0 h z uc us = K (zb (!zany (sZ T N wv 0) (sN T 3))) (zb (zany (sZ T N wv 2) (sN T 3))) (zb (zany (sZ T N wv 3) (sN T 3))) (zb (zany (sZ T N wv 4) (sN T 3))) (zb (zany (sZ T N wv 1) (sN T 3))) h' z uc us := by
  have I := hh_I W.1.2
  have hd := sI_bd I
  refine zXL (L := fun m i h => l_L_isTold_27 mc ms K c wv sz m (zb (!zany (sZ T N wv 0) i)) (zb (zany (sZ T N wv 2) i)) (zb (zany (sZ T N wv 3) i)) (zb (zany (sZ T N wv 4) i)) (zb (zany (sZ T N wv 1) i)) (Int32.ofNat i) h z uc us) (sN T 3)
    (fun i h => (∀ a, a ≠ sz → h a = hp a) ∧ ∃ f', h sz = some (.inl (0, sPi T, .inl f')) ∧ ∀ j, j < sPi T → f' j = zsum (fun b => if T (44 + b) = wv then sVal T N b j else 0) i) (s0 := h) ⟨fr0, f, hf0, fun j hj => hv0 j hj⟩
    (fun i h hi ⟨fr, f', hf, hv⟩ => ?_)
    (K := fun h => K (zb (!zany (sZ T N wv 0) (sN T 3))) (zb (zany (sZ T N wv 2) (sN T 3))) (zb (zany (sZ T N wv 3) (sN T 3))) (zb (zany (sZ T N wv 4) (sN T 3))) (zb (zany (sZ T N wv 1) (sN T 3))) h z uc us)
    (fun h ⟨fr, f', hf, hv⟩ m => ?_) (m := 1000000) (by omega)
  · have W1 := wW_fr W (h := h) (fun a ha => fr a (by have := W.2.1; omega))
    have K1 := W1.1
    have hc := sI_c I hi
    have en : (sCf T N i).isNone = !(sCf T N i).isSome := by cases sCf T N i <;> rfl
    have o0 : ∀ z : Bool, zb z ||| 0 = zb z := fun z => by cases z <;> decide
    have o1 : ∀ z : Bool, zb z ||| 1 = 1 := fun z => by cases z <;> decide
    have o10 : ((1 : Int32) = 0) = False := eq_false (by decide)
    by_cases e : T (44 + i) = wv
    · have z0 : sZ T N wv 0 i = true := by unfold sZ; rw [decide_eq_true e]; rfl
      have z1 : sZ T N wv 1 i = decide (sC N i = 0) := by unfold sZ; rw [decide_eq_true e]; rfl
      have z2 : sZ T N wv 2 i = !decide (sF N i 0 = -4) := by unfold sZ; rw [decide_eq_true e]; rfl
      have z3 : sZ T N wv 3 i = (!(sCf T N i).isSome && sOff T N i) := by unfold sZ; rw [decide_eq_true e, en]; rfl
      have z4 : sZ T N wv 4 i = !(sCf T N i).isSome := by unfold sZ; rw [decide_eq_true e, en]; rfl
      obtain ⟨h', ⟨fr', f2, hf2, hv2⟩, er⟩ := t_row (mc := mc) (ms := ms) (z := z) W hsz hi fr hf hr
      refine ⟨h', ⟨fr', f2, hf2, fun j hj => ?_⟩, fun m => ?_⟩
      · rw [hv2 j hj, hv j hj]
        show _ = zsum _ i + (if T (44 + i) = wv then sVal T N i j else 0)
        rw [if_pos e]
      · simp (disch := omega) only [l_L_isTold_27_s, b_L_isTold_27, zchk_t hr, g_count3 K1, Option.bind_some, pn_lt, hi, if_true, g_prop0 K1 hi, e, g_prop3 K1 hi, pn_eq0, zany_s, z0, z1, z2, z3, z4]
        by_cases e1 : sC N i = 0 <;> by_cases e2 : sF N i 0 = -4 <;> cases e3 : sOff T N i <;> cases e4 : (sCf T N i).isSome <;>
          simp (disch := omega) only [e1, e2, e3, e4, ↓reduceIte, j_L_isTold_70, j_L_isTold_91, j_L_isTold_118, j_L_isTold_119, j_L_isTold_138, zchk_t hr, g_place K1 hi, g_conf K1 hi, g_off K1 hi, Option.bind_some, zb_0, zlet, pn_succ, o0, o1, o10, decide_true, decide_false, Bool.not_true, Bool.not_false, Bool.or_true, Bool.or_false, Bool.and_true, Bool.and_false, Bool.true_and, Bool.false_and, zb_t, zb_f, Bool.true_eq_false, er]
    · have zz : ∀ c, sZ T N wv c i = false := fun c => by unfold sZ; rw [decide_eq_false e]; rfl
      refine ⟨h, ⟨fr, f', hf, fun j hj => ?_⟩, fun m => ?_⟩
      · rw [hv j hj]
        show _ = zsum _ i + (if T (44 + i) = wv then sVal T N i j else 0)
        rw [if_neg e, Int32.add_zero]
      · simp (disch := omega) only [l_L_isTold_27_s, b_L_isTold_27, zchk_t hr, g_count3 K1, Option.bind_some, pn_lt, hi, if_true, if_false, g_prop0 K1 hi, e, zany_s, zz, Bool.or_false, zlet, pn_succ]
  · have W1 := wW_fr W (h := h) (fun a ha => fr a (by have := W.2.1; omega))
    simp (disch := omega) only [l_L_isTold_27_s, b_L_isTold_27, zchk_t hr, g_count3 W1.1, Option.bind_some, Int32.lt_irrefl, if_false]
theorem sBM_or (f : Nat → Int32) : ∀ n, (sBM f n).1 = -1 ∨ ∃ k, k < n ∧ (sBM f n).1 = Int32.ofNat k
  | 0 => Or.inl rfl
  | n + 1 => by
    show (if (sBM f n).2 < f n then Int32.ofNat n else (sBM f n).1) = -1 ∨ ∃ k, k < n + 1 ∧ (if (sBM f n).2 < f n then Int32.ofNat n else (sBM f n).1) = Int32.ofNat k
    split
    · exact Or.inr ⟨n, by omega, rfl⟩
    · rcases sBM_or f n with h | ⟨k, h1, h2⟩
      · exact Or.inl h
      · exact Or.inr ⟨k, by omega, h2⟩
theorem sBM_s (f : Nat → Int32) (n : Nat) : sBM f (n + 1) = (if (sBM f n).2 < f n then Int32.ofNat n else (sBM f n).1, zmax (sBM f n).2 (f n)) := rfl
theorem m1_neg : ((-1 : Int32) < 0) = True := eq_true (by decide)
/-- votes, all, the best -/
theorem t_best (W : wW h c p ea T N σ u Ps) (hw : w < sN T 2) {f : Nat → Int32} (hf : h r = some (.inl (0, sPi T, .inl f))) (hv : ∀ j, j < sPi T → f j = sVo T N (Int32.ofNat w) j) (hr : uc ≤ mc ∧ us ≤ ms) (k212 : zHp → Nat → Nat → Nat → Option (Int32 × zHp × Nat)) (k268 : Int32 → Int32 → zHp → Nat → Nat → Nat → Option (Int32 × zHp × Nat)) (x3 x4 x5 x6 x7 : Int32) :
    l_L_isTold_191 mc ms k212 k268 c (Int32.ofNat w) r x3 x4 x5 x6 x7 1000000 0 (-1) 0 h z uc us = k268 (sAll T N (Int32.ofNat w)) (sFst T N (Int32.ofNat w)) h z uc us := by
  have K := W.1
  have I := hh_I K.2
  have hd := sI_bd I
  refine (zFB (l := fun m a a' i => l_L_isTold_191 mc ms k212 k268 c (Int32.ofNat w) r x3 x4 x5 x6 x7 m a a' i h z uc us) (n := sPi T) (fun i => zsum (fun k => sVo T N (Int32.ofNat w) k) (min i (sN T 0))) (fun i => (sBM (sVo T N (Int32.ofNat w)) (min i (sN T 0))).1) (k268 (sAll T N (Int32.ofNat w)) (sFst T N (Int32.ofNat w)) h z uc us) (by omega) (fun m k hk => ?_) (fun m => ?_))
  · have rd : ∀ j, j < sPi T → zaI h 0 r (Int32.ofNat j) = some (sVo T N (Int32.ofNat w) j) := fun j hj => by rw [pa_rd hf (Or.inl rfl) hj (by omega), hv j hj]
    have el : Int32.ofNat (sPi T) - 1 = Int32.ofNat (sN T 0) := by rw [hd.2.2.2.2.2, is1]
    by_cases hn : k = sN T 0
    · rw [show min k (sN T 0) = sN T 0 by omega, show min (k + 1) (sN T 0) = sN T 0 by omega]
      have ek : (Int32.ofNat k = Int32.ofNat (sN T 0)) = True := by rw [hn]; exact eq_self _
      simp (disch := omega) only [l_L_isTold_191_s, b_L_isTold_191, zlen0 hf, pn_lt, hk, if_true, zchk_t hr, g_votes K hw hk, rd k hk, el, ek, Option.bind_some, zlet, pn_succ]
    · rw [show min k (sN T 0) = k by omega, show min (k + 1) (sN T 0) = k + 1 by omega, sBM_s]
      show _ = l_L_isTold_191 mc ms k212 k268 c (Int32.ofNat w) r x3 x4 x5 x6 x7 m (zsum (fun k => sVo T N (Int32.ofNat w) k) k + sVo T N (Int32.ofNat w) k) (if (sBM (sVo T N (Int32.ofNat w)) k).2 < sVo T N (Int32.ofNat w) k then Int32.ofNat k else (sBM (sVo T N (Int32.ofNat w)) k).1) (Int32.ofNat (k + 1)) h z uc us
      obtain ⟨vk, hvk, ek⟩ := sVo_small I hk (Int32.ofNat w)
      have hS := sSec_eq (sVo T N (Int32.ofNat w)) k (by omega)
      simp (disch := omega) only [l_L_isTold_191_s, b_L_isTold_191, j_L_isTold_258, zlen0 hf, pn_lt, hk, if_true, zchk_t hr, g_votes K hw hk, rd k hk, el, pn_inj, hn, if_false, Option.bind_some, zlet, pn_succ]
      rcases sBM_or (sVo T N (Int32.ofNat w)) k with e1 | ⟨j, hj, e1⟩
      · rw [e1, (hS.1 e1).1, if_pos (show (-1 : Int32) < 0 by decide)]
        by_cases q : 0 < sVo T N (Int32.ofNat w) k
        · rw [if_pos q, if_pos q]
        · rw [if_neg q, if_neg q]
      · have e2 := (hS.2 j hj e1).1
        obtain ⟨vj, hvj, ej⟩ := sVo_small I (show j < sPi T by omega) (Int32.ofNat w)
        rw [e1, e2, if_neg (pn_neg (show j < 2147483648 by omega)), rd j (by omega), Option.bind_some, ek, ej]
        simp (disch := omega) only [pn_0lt, pn_lt]
        by_cases q : 0 < vk
        · rw [if_pos q]
          by_cases q2 : vj < vk
          · rw [if_pos q2, if_pos q2]
          · rw [if_neg q2, if_neg q2]
        · rw [if_neg q, if_neg (by omega)]
  · rw [show min (sPi T) (sN T 0) = sN T 0 by omega]
    simp (disch := omega) only [l_L_isTold_191_s, b_L_isTold_191, zlen0 hf, Int32.lt_irrefl, if_false, Option.bind_some]
    rfl
/-- the second -/
theorem t_second (W : wW h c p ea T N σ u Ps) {f : Nat → Int32} (hf : h r = some (.inl (0, sPi T, .inl f))) (hv : ∀ j, j < sPi T → f j = sVo T N (Int32.ofNat w) j) (hr : uc ≤ mc ∧ us ≤ ms) (k307 : Int32 → zHp → Nat → Nat → Nat → Option (Int32 × zHp × Nat)) (x1 x3 x4 x5 x6 x7 x8 x9 : Int32) :
    l_L_isTold_274 mc ms k307 c x1 r x3 x4 x5 x6 x7 x8 x9 1000000 0 0 h z uc us = k307 (sM2 (sVo T N (Int32.ofNat w)) x9 (sN T 0)) h z uc us := by
  have hd := sI_bd (hh_I W.1.2)
  refine zFAe (l := fun m a i => l_L_isTold_274 mc ms k307 c x1 r x3 x4 x5 x6 x7 x8 x9 m a i h z uc us) (n := sN T 0) (fun m => sM2 (sVo T N (Int32.ofNat w)) x9 m) _ rfl (by omega) (fun m k hk => ?_) (fun m => ?_)
  · have rd : zaI h 0 r (Int32.ofNat k) = some (sVo T N (Int32.ofNat w) k) := by rw [pa_rd hf (Or.inl rfl) (by omega) (by omega), hv k (by omega)]
    have el : Int32.ofNat (sPi T) - 1 = Int32.ofNat (sN T 0) := by rw [hd.2.2.2.2.2, is1]
    show _ = l_L_isTold_274 mc ms k307 c x1 r x3 x4 x5 x6 x7 x8 x9 m (if Int32.ofNat k = x9 then sM2 (sVo T N (Int32.ofNat w)) x9 k else zmax (sM2 (sVo T N (Int32.ofNat w)) x9 k) (sVo T N (Int32.ofNat w) k)) (Int32.ofNat (k + 1)) h z uc us
    simp (disch := omega) only [l_L_isTold_274_s, b_L_isTold_274, zlen0 hf, el, pn_lt, hk, if_true, rd, zchk_t hr, Option.bind_some, zlet, pn_succ]
    by_cases q : Int32.ofNat k = x9
    · rw [if_pos q, if_pos q]
    · rw [if_neg q, if_neg q]
  · have el : Int32.ofNat (sPi T) - 1 = Int32.ofNat (sN T 0) := by rw [hd.2.2.2.2.2, is1]
    simp (disch := omega) only [l_L_isTold_274_s, b_L_isTold_274, zlen0 hf, el, Int32.lt_irrefl, if_false, Option.bind_some]
/-- whether the ward is declared -/
theorem t_decl (W : wW h c p ea T N σ u Ps) (hr : uc ≤ mc ∧ us ≤ ms) (k394 : Int32 → zHp → Nat → Nat → Nat → Option (Int32 × zHp × Nat)) (wv x3 x4 x5 x6 x7 x9 x11 x12 : Int32) :
    l_L_isTold_359 mc ms k394 c wv x3 x4 x5 x6 x7 x9 x11 x12 1000000 0 0 h z uc us = k394 (zb (sDecl N wv)) h z uc us := by
  have K := W.1
  have h6 := (sI_d (hh_I K.2)).2
  have o0 : ∀ z : Bool, zb z ||| 0 = zb z := fun z => by cases z <;> decide
  have o1 : ∀ z : Bool, zb z ||| 1 = 1 := fun z => by cases z <;> decide
  show _ = k394 (zb (zany (fun k => decide (N (3 + k) = wv)) (sD N))) h z uc us
  refine zFAe (l := fun m a i => l_L_isTold_359 mc ms k394 c wv x3 x4 x5 x6 x7 x9 x11 x12 m a i h z uc us) (n := sD N) (fun m => zb (zany (fun k => decide (N (3 + k) = wv)) m)) _ rfl (by omega) (fun m k hk => ?_) (fun m => ?_)
  · simp (disch := omega) only [l_L_isTold_359_s, b_L_isTold_359, j_L_isTold_385, zchk_t hr, g_dcount K, pn_lt, hk, if_true, g_decl K hk, Option.bind_some, zlet, pn_succ, zany_s]
    by_cases q : N (3 + k) = wv
    · rw [if_pos q, o1, decide_eq_true q, Bool.or_true]
      rfl
    · rw [if_neg q, o0, decide_eq_false q, Bool.or_false]
  · simp (disch := omega) only [l_L_isTold_359_s, b_L_isTold_359, zchk_t hr, g_dcount K, Int32.lt_irrefl, if_false, Option.bind_some]
theorem why_eq {α : Type} (F : Int32 → α) (d a0 a1 a2 a3 a4 s : Bool) : (if d = false then (if (!a0) = false then (if a1 = false then (if a2 = false then (if a3 = false then (if s = false then F 0 else if a4 = false then F 0 else F 5) else F 4) else F 3) else F 2) else F 2) else F 1) = F (if d then 1 else if !a0 || a1 then 2 else if a2 then 3 else if a3 then 4 else if s && a4 then 5 else 0) := by
  cases d <;> cases a0 <;> cases a1 <;> cases a2 <;> cases a3 <;> cases a4 <;> cases s <;> rfl
theorem t_449 (W : wW h c p ea T N σ u Ps) (hw : w < sN T 2) (hr : uc ≤ mc ∧ us ≤ ms) : j_L_isTold_449 mc ms c (Int32.ofNat w) (sFst T N (Int32.ofNat w)) (sMar T N (Int32.ofNat w)) (zb (sNear T N (Int32.ofNat w))) (sAga T N (Int32.ofNat w)) h z uc us = some (1, h, z) := by
  have K := W.1
  simp only [j_L_isTold_449, zchk_t hr, g_leader K hw, g_margin K hw, g_close K hw, g_why K hw, Option.bind_some, if_true]
theorem t_351 (W : wW h c p ea T N σ u Ps) (hw : w < sN T 2) (hr : uc ≤ mc ∧ us ≤ ms) : j_L_isTold_351 mc ms c (Int32.ofNat w) (zb (!zany (sZ T N (Int32.ofNat w) 0) (sN T 3))) (zb (zany (sZ T N (Int32.ofNat w) 2) (sN T 3))) (zb (zany (sZ T N (Int32.ofNat w) 3) (sN T 3))) (zb (zany (sZ T N (Int32.ofNat w) 4) (sN T 3))) (zb (zany (sZ T N (Int32.ofNat w) 1) (sN T 3))) (sFst T N (Int32.ofNat w)) (sMar T N (Int32.ofNat w)) (zb (sNear T N (Int32.ofNat w))) h z uc us = some (1, h, z) := by
  have hs : sAga T N (Int32.ofNat w) = if sDecl N (Int32.ofNat w) then 1 else if !zany (sZ T N (Int32.ofNat w) 0) (sN T 3) || zany (sZ T N (Int32.ofNat w) 1) (sN T 3) then 2 else if zany (sZ T N (Int32.ofNat w) 2) (sN T 3) then 3 else if zany (sZ T N (Int32.ofNat w) 3) (sN T 3) then 4 else if sNear T N (Int32.ofNat w) && zany (sZ T N (Int32.ofNat w) 4) (sN T 3) then 5 else 0 := rfl
  unfold j_L_isTold_351
  rw [t_decl W hr]
  simp only [zb_0, j_L_isTold_448]
  refine (why_eq (fun v => j_L_isTold_449 mc ms c (Int32.ofNat w) (sFst T N (Int32.ofNat w)) (sMar T N (Int32.ofNat w)) (zb (sNear T N (Int32.ofNat w))) v h z uc us) (sDecl N (Int32.ofNat w)) (zany (sZ T N (Int32.ofNat w) 0) (sN T 3)) (zany (sZ T N (Int32.ofNat w) 1) (sN T 3)) (zany (sZ T N (Int32.ofNat w) 2) (sN T 3)) (zany (sZ T N (Int32.ofNat w) 3) (sN T 3)) (zany (sZ T N (Int32.ofNat w) 4) (sN T 3)) (sNear T N (Int32.ofNat w))).trans ?_
  rw [← hs]
  exact t_449 W hw hr
theorem t_323 (W : wW h c p ea T N σ u Ps) (hw : w < sN T 2) (hr : uc ≤ mc ∧ us ≤ ms) : j_L_isTold_323 mc ms c (Int32.ofNat w) (zb (!zany (sZ T N (Int32.ofNat w) 0) (sN T 3))) (zb (zany (sZ T N (Int32.ofNat w) 2) (sN T 3))) (zb (zany (sZ T N (Int32.ofNat w) 3) (sN T 3))) (zb (zany (sZ T N (Int32.ofNat w) 4) (sN T 3))) (zb (zany (sZ T N (Int32.ofNat w) 1) (sN T 3))) (sAll T N (Int32.ofNat w)) (sFst T N (Int32.ofNat w)) (sMar T N (Int32.ofNat w)) h z uc us = some (1, h, z) := by
  have K := W.1
  have e := t_351 (z := z) W hw hr
  unfold j_L_isTold_323
  by_cases q1 : 0 < sAll T N (Int32.ofNat w)
  · rw [if_pos q1, zchk_t hr, g_set0 K, Option.bind_some]
    by_cases q2 : N 0 * sAll T N (Int32.ofNat w) < 100 * sMar T N (Int32.ofNat w)
    · rw [if_pos (by rw [Int32.mul_comm (sMar T N (Int32.ofNat w))]; exact q2)]
      have es : sNear T N (Int32.ofNat w) = false := by unfold sNear; rw [decide_eq_true q2, Bool.not_true, Bool.and_false]
      rw [es] at e
      exact e
    · rw [if_neg (by rw [Int32.mul_comm (sMar T N (Int32.ofNat w))]; exact q2)]
      have es : sNear T N (Int32.ofNat w) = true := by unfold sNear; rw [decide_eq_false q2, decide_eq_true q1]; rfl
      rw [es] at e
      exact e
  · rw [if_neg q1]
    have es : sNear T N (Int32.ofNat w) = false := by unfold sNear; rw [decide_eq_false q1, Bool.false_and]
    rw [es] at e
    exact e
theorem L_told (W : wW hp c p ea T N σ u Ps) (hsz : c + 635 ≤ sz) (hw : w < sN T 2) (hr : 1 ≤ mc ∧ 6 ≤ ms) : ∃ h, f_L_isTold mc ms c (Int32.ofNat w) hp sz = some (1, h, sz + 1) ∧ ∀ a, a < sz → h a = hp a := by
  have I := hh_I W.1.2
  have hd := sI_bd I
  obtain ⟨h0, eh0⟩ : ∃ h0, h0 = zup hp sz (.inl (0, sPi T, .inl (fun _ => 0))) := ⟨_, rfl⟩
  have fr0 : ∀ a, a ≠ sz → h0 a = hp a := fun a ha => by rw [eh0]; exact zup_ne ha
  have hf0 : h0 sz = some (.inl (0, sPi T, .inl (fun _ => 0))) := by rw [eh0]; exact zup_eq _ _ _
  have hr1 : 0 + 1 ≤ mc ∧ 0 + sPi T ≤ ms := by omega
  have hn0 : ¬ Int32.ofNat (sPi T) < 0 := pn_neg (by omega)
  have en : (Int32.ofNat (sPi T)).toNatClampNeg = sPi T := pn_nat (by omega)
  have e1 : Int32.ofNat (sN T 0) + 1 = Int32.ofNat (sPi T) := by rw [pn_succ, hd.2.2.2.2.2]
  simp only [f_L_isTold, g_count0 W.1, Option.bind_some, zlet, e1, en]
  rw [zchk_t ⟨hn0, by omega, hr1.1, hr1.2⟩, ← eh0]
  generalize hK : (fun (p31 p32 p33 p34 p35 : Int32) (h36 : zHp) (z37 c38 u39 : Nat) => l_L_isTold_191 mc ms _ _ c (Int32.ofNat w) sz p31 p32 p33 p34 p35 1000000 0 (-1) 0 h36 z37 c38 u39) = K
  obtain ⟨h', ⟨fr', f', hf', hv'⟩, e⟩ := t_box (mc := mc) (ms := ms) (z := sz + 1) (uc := 0 + 1) (us := 0 + sPi T) W hsz (Int32.ofNat w) fr0 hf0 (fun _ _ => rfl) hr1 K
  have W1 := wW_fr W (h := h') (fun a ha => fr' a (by have := W.2.1; omega))
  rw [e, ← hK]
  dsimp only
  rw [t_best W1 hw hf' hv' hr1]
  rw [t_second (w := w) W1 hf' hv' hr1]
  refine ⟨h', ?_, fun a ha => fr' a (by omega)⟩
  have e3 := t_323 W1 hw hr1 (z := sz + 1)
  have e4 : sFst T N (Int32.ofNat w) = (sBM (sVo T N (Int32.ofNat w)) (sN T 0)).1 := rfl
  rcases sBM_or (sVo T N (Int32.ofNat w)) (sN T 0) with e5 | ⟨j, hj, e5⟩
  · have e6 : sFst T N (Int32.ofNat w) = -1 := e5
    have e7 : sMar T N (Int32.ofNat w) = 0 := by unfold sMar; rw [if_pos e6]
    rw [e7] at e3
    rw [if_pos (by rw [e6]; decide)]
    exact e3
  · have e6 : sFst T N (Int32.ofNat w) = Int32.ofNat j := e5
    have e7 : sMar T N (Int32.ofNat w) = sVo T N (Int32.ofNat w) j - sM2 (sVo T N (Int32.ofNat w)) (sFst T N (Int32.ofNat w)) (sN T 0) := by
      unfold sMar
      rw [if_neg (by rw [e6, pn_ne1 (by omega)]; exact id), e6, pn_nat (by omega)]
    rw [e7] at e3
    rw [if_neg (by rw [e6]; exact pn_neg (by omega))]
    have rd : zaI h' 0 sz (sFst T N (Int32.ofNat w)) = some (sVo T N (Int32.ofNat w) j) := by rw [e6, pa_rd hf' (Or.inl rfl) (by omega) (by omega), hv' j (by omega)]
    rw [rd, Option.bind_some]
    exact e3
end P63
