/-! PURE: the law's check of a box holds in every state whose counts are what their tables find -/
section P62
variable {hp h hp' : zHp} {x a a' q b u c p hl t k n s r sz mc ms z uc us : Nat} {ea : Int32} {T N N' R : Nat → Int32} {σ : Nat → Nat} {Ps : Nat → Nat → Int32}
theorem zlen0 {hp : zHp} {a n : Nat} {A : (Nat → Int32) ⊕ (Nat → Int64) ⊕ (Nat → UInt32) ⊕ (Nat → UInt64) ⊕ (Nat → Option Nat)} (h : hp a = some (.inl (0, n, A))) : zlen hp 0 a = some (Int32.ofNat n) := by
  unfold zlen
  rw [h]
  exact if_pos (Or.inl rfl)
theorem zs0 : ∀ n, zsum (fun _ => 0) n = 0
  | 0 => rfl
  | n + 1 => by
    show zsum (fun _ => 0) n + 0 = 0
    rw [zs0 n]
    rfl
theorem zs_rW (T : Nat → Int32) (b s n : Nat) : ∀ m, m ≤ n + 1 → zsum (fun j => Int32.ofNat (rW T b s n m j)) (n + 1) = Int32.ofNat (aw T b m)
  | 0, _ => zs0 _
  | m + 1, hm => by
    have ih := zs_rW T b s n m (by omega)
    have hD := dD_le T b s m
    have e : ∀ j, j < n + 1 → Int32.ofNat (rW T b s n (m + 1) j) = Int32.ofNat (rW T b s n m j) + ((if j = m then Int32.ofNat (pw T b m - dD T b s m) else 0) + (if j = nxp n m then Int32.ofNat (dD T b s m) else 0)) := fun j _ => by
      rw [rW_s, show (if j = m then Int32.ofNat (pw T b m - dD T b s m) else 0) = Int32.ofNat (if j = m then pw T b m - dD T b s m else 0) by split <;> rfl, show (if j = nxp n m then Int32.ofNat (dD T b s m) else 0) = Int32.ofNat (if j = nxp n m then dD T b s m else 0) by split <;> rfl, ixa, ixa, Nat.add_assoc]
    rw [zsum_congr e, zsum_add, ih, zsum_add, zsum_one (fun _ => Int32.ofNat (pw T b m - dD T b s m)) m (n + 1) (by omega), zsum_one (fun _ => Int32.ofNat (dD T b s m)) (nxp n m) (n + 1) (by have := nxp_le (n := n) (p := m) (by omega); omega), ixa, ixa]
    congr 1
    show _ = aw T b m + pw T b m
    omega
theorem zs_sFi (I : sI T N) (ht : t < sN T 4) (hb : b < sN T 3) : zsum (fun k => sFi T t b k) (sPi T) = zsum (fun k => sPap T b k) (sPi T) := by
  have hd := sI_bd I
  obtain ⟨s, hs, es⟩ := sI_s I ht
  have h1 := zs_rW T b s (sN T 0) (sN T 0 + 1) (Nat.le_refl _)
  rw [zsum_congr (fun k hk => sFi_rW I ht hb hk es (by omega))]
  have h2 := sAh_aw I hb (sPi T) (Nat.le_refl _)
  unfold sAh at h2
  rw [h2, hd.2.2.2.2.2]
  exact h1
theorem inr_F {k n : Nat} (hk : n ≤ k) (hn : k < 2147483648) : inr (Int32.ofNat k) n = false := by
  unfold inr
  rw [decide_eq_false (p := Int32.ofNat k < Int32.ofNat n) (by rw [pn_lt hn (by omega)]; omega), Bool.and_false]
theorem inr_m1 (n : Nat) : inr (-1) n = false := rfl
/-- a row beside what the table would find, and the truth -/
theorem c_row (W : wW h c p ea T N σ u Ps) (ht : t < sN T 4) (hb : b < sN T 3) {f : Nat → Int32} (hf : h r = some (.inl (0, sPi T, .inl f))) (hv : ∀ k, k < sPi T → f k = sFi T t b k) (hr : uc ≤ mc ∧ us ≤ ms) (x2 x3 x4 x5 : Int32) (k68 : zHp → Nat → Nat → Nat → Option (Int32 × zHp × Nat)) (k101 : Int32 → zHp → Nat → Nat → Nat → Option (Int32 × zHp × Nat)) :
    l_L_isCounted_43 mc ms k68 k101 c (Int32.ofNat b) x2 x3 x4 x5 (Int32.ofNat t) r 1000000 1 0 h z uc us = k101 (zb (sSame T (sFi T t b) (sPap T b))) h z uc us := by
  have K := W.1
  have hd := sI_bd (hh_I K.2)
  rw [sSame_any]
  refine zFAe (l := fun m a i => l_L_isCounted_43 mc ms k68 k101 c (Int32.ofNat b) x2 x3 x4 x5 (Int32.ofNat t) r m a i h z uc us) (n := sPi T) (fun m => zb (!zany (fun k => !decide (sFi T t b k = sPap T b k)) m)) _ rfl (by omega) (fun m k hk => ?_) (fun m => ?_)
  · have rd : zaI h 0 r (Int32.ofNat k) = some (sFi T t b k) := by rw [pa_rd hf (Or.inl rfl) hk (by omega), hv k hk]
    simp (disch := omega) only [l_L_isCounted_43_s, b_L_isCounted_43, j_L_isCounted_92, zlen0 hf, pn_lt, hk, if_true, zchk_t hr, g_would K ht hb hk, rd, g_papers K hb hk, Option.bind_some, zlet, pn_succ, zany_s]
    by_cases e : sFi T t b k = sPap T b k
    · rw [if_pos e, zb_and1]
      simp [e]
    · rw [if_neg e, zb_and0]
      simp [e]
  · simp (disch := omega) only [l_L_isCounted_43_s, b_L_isCounted_43, zlen0 hf, Int32.lt_irrefl, if_false, Option.bind_some]
/-- the tables -/
theorem c_tabM (W : wW hp c p ea T N σ u Ps) (hsz : c + 635 ≤ sz) (hb : b < sN T 3) (hr : 8 ≤ mc ∧ 48 ≤ ms) (k68 : zHp → Nat → Nat → Nat → Option (Int32 × zHp × Nat)) (k126 : Int32 → zHp → Nat → Nat → Nat → Option (Int32 × zHp × Nat)) (x2 x3 x4 : Int32) {M : Nat} (hM : sN T 4 < M) :
    ∃ h, (∀ a, a < sz → h a = hp a) ∧ l_L_isCounted_18 mc ms k68 k126 c (Int32.ofNat b) x2 x3 x4 M (zoi none) (Int32.ofNat 0) hp (sz + 0) 0 (6 * 0) = k126 (zoi (sRt T b)) h (sz + sN T 4) (sN T 4) (6 * sN T 4) := by
  have I := hh_I W.1.2
  have hd := sI_bd I
  refine zXL (L := fun m i h => l_L_isCounted_18 mc ms k68 k126 c (Int32.ofNat b) x2 x3 x4 m (zoi (zff (fun t => sSame T (sFi T t b) (sPap T b)) i 0)) (Int32.ofNat i) h (sz + i) i (6 * i)) (sN T 4) (fun _ h => ∀ a, a < sz → h a = hp a) (fun _ _ => rfl) (fun i h hi fr => ?_) (K := fun h => k126 (zoi (sRt T b)) h (sz + sN T 4) (sN T 4) (6 * sN T 4)) (fun h fr m => ?_) hM
  · have W1 := wW_fr W (h := h) (fun a ha => fr a (by have := W.2.1; omega))
    obtain ⟨h', f, e, fr', hf, hv⟩ := L_slip (mc := 1) (ms := 6) W1 (sz := sz + i) (by omega) hi hb ⟨Nat.le_refl _, Nat.le_refl _⟩
    have W2 := wW_fr W1 (h := h') (fun a ha => fr' a (by have := W.2.1; omega))
    refine ⟨h', fun a ha => (fr' a (by omega)).trans (fr a ha), fun m => ?_⟩
    have r0 : i ≤ mc ∧ 6 * i ≤ ms := by omega
    have r1 : i + 1 ≤ mc ∧ 6 * i + 6 ≤ ms := by omega
    simp (disch := omega) only [l_L_isCounted_18_s, b_L_isCounted_18, zchk_t r0, g_count4 W1.1, Option.bind_some, pn_lt, hi, if_true, zchk_t r1]
    rw [e, zb3_some, c_row W2 hi hb hf hv r1]
    simp only [j_L_isCounted_116, zlet, pn_succ]
    rw [zff_snoc, Nat.zero_add]
    cases hz : zff (fun t => sSame T (sFi T t b) (sPap T b)) i 0 with
    | some k =>
      have hk := zff_lt hz
      simp only [zoi, pn_neg (show k < 2147483648 by omega), if_false]
      rfl
    | none =>
      simp only [zoi, show ((-1 : Int32) < 0) = True from eq_true (by decide), if_true, zb_0]
      cases sSame T (sFi T i b) (sPap T b) <;> rfl
  · have W1 := wW_fr W (h := h) (fun a ha => fr a (by have := W.2.1; omega))
    have r0 : sN T 4 ≤ mc ∧ 6 * sN T 4 ≤ ms := by omega
    simp (disch := omega) only [l_L_isCounted_18_s, b_L_isCounted_18, zchk_t r0, g_count4 W1.1, Option.bind_some, Int32.lt_irrefl, if_false]
    rfl
theorem c_tab (W : wW hp c p ea T N σ u Ps) (hsz : c + 635 ≤ sz) (hb : b < sN T 3) (hr : 8 ≤ mc ∧ 48 ≤ ms) (k68 : zHp → Nat → Nat → Nat → Option (Int32 × zHp × Nat)) (k126 : Int32 → zHp → Nat → Nat → Nat → Option (Int32 × zHp × Nat)) (x2 x3 x4 : Int32) :
    ∃ h, (∀ a, a < sz → h a = hp a) ∧ l_L_isCounted_18 mc ms k68 k126 c (Int32.ofNat b) x2 x3 x4 1000000 (-1) 0 hp sz 0 0 = k126 (zoi (sRt T b)) h (sz + sN T 4) (sN T 4) (6 * sN T 4) := by
  have hd := sI_bd (hh_I W.1.2)
  have hM : sN T 4 < 1000000 := by omega
  have e1 : zoi none = -1 := rfl
  have e2 : Int32.ofNat 0 = 0 := rfl
  obtain ⟨M, eM⟩ : ∃ M, M = 1000000 := ⟨_, rfl⟩
  rw [← eM] at hM ⊢
  have := c_tabM (M := M) W hsz hb hr k68 k126 x2 x3 x4 hM
  rw [e1, e2, Nat.add_zero, Nat.mul_zero] at this
  exact this
/-- a row beside a count -/
theorem c_cnt (W : wW h c p ea T N σ u Ps) (hb : b < sN T 3) (hk : k < sC N b) {f : Nat → Int32} (hf : h r = some (.inl (0, sPi T, .inl f))) (hv : ∀ j, j < sPi T → f j = sFd N b k j) (hr : uc ≤ mc ∧ us ≤ ms) (x2 x3 x4 x5 : Int32) (k177 k185 : zHp → Nat → Nat → Nat → Option (Int32 × zHp × Nat)) :
    l_L_isCounted_152 mc ms k177 k185 c (Int32.ofNat b) x2 x3 x4 x5 (Int32.ofNat k) r 1000000 0 h z uc us = k185 h z uc us := by
  have K := W.1
  have hd := sI_bd (hh_I K.2)
  refine zloop (fun m (i : Int32) => l_L_isCounted_152 mc ms k177 k185 c (Int32.ofNat b) x2 x3 x4 x5 (Int32.ofNat k) r m i h z uc us) (sPi T) (fun i => Int32.ofNat i) _ (fun m j hj => ?_) (fun m => ?_) 1000000 (by omega)
  · have rd : zaI h 0 r (Int32.ofNat j) = some (sFd N b k j) := by rw [pa_rd hf (Or.inl rfl) hj (by omega), hv j hj]
    simp (disch := omega) only [l_L_isCounted_152_s, b_L_isCounted_152, zlen0 hf, pn_lt, hj, if_true, zchk_t hr, g_counted K hb hk hj, rd, Option.bind_some, zlet, pn_succ]
  · simp (disch := omega) only [l_L_isCounted_152_s, b_L_isCounted_152, zlen0 hf, Int32.lt_irrefl, if_false, Option.bind_some]
/-- the counts -/
theorem c_cntsM (W : wW hp c p ea T N σ u Ps) (G : sG T N) (hsz : c + 635 ≤ sz) (hb : b < sN T 3) (hr : uc + 4 ≤ mc ∧ us + 24 ≤ ms) (k177 k191 : zHp → Nat → Nat → Nat → Option (Int32 × zHp × Nat)) (x3 x4 x5 : Int32) {M : Nat} (hM : sC N b < M) :
    ∃ h, (∀ a, a < sz → h a = hp a) ∧ l_L_isCounted_129 mc ms k177 k191 c (Int32.ofNat b) (Int32.ofNat (sC N b)) x3 x4 x5 M (Int32.ofNat 0) hp (sz + 0) (uc + 0) (us + 6 * 0) = k191 h (sz + sC N b) (uc + sC N b) (us + 6 * sC N b) := by
  have I := hh_I W.1.2
  have hd := sI_bd I
  have hC := sI_c I hb
  refine zXL (L := fun m i h => l_L_isCounted_129 mc ms k177 k191 c (Int32.ofNat b) (Int32.ofNat (sC N b)) x3 x4 x5 m (Int32.ofNat i) h (sz + i) (uc + i) (us + 6 * i)) (sC N b) (fun _ h => ∀ a, a < sz → h a = hp a) (fun _ _ => rfl) (fun i h hi fr => ?_) (K := fun h => k191 h (sz + sC N b) (uc + sC N b) (us + 6 * sC N b)) (fun h fr m => ?_) hM
  · have W1 := wW_fr W (h := h) (fun a ha => fr a (by have := W.2.1; omega))
    obtain ⟨t, ht, e16, e20⟩ := G b hb i hi
    obtain ⟨h', f, e, fr', hf, hv⟩ := L_slip (mc := 1) (ms := 6) W1 (sz := sz + i) (by omega) ht hb ⟨Nat.le_refl _, Nat.le_refl _⟩
    have W2 := wW_fr W1 (h := h') (fun a ha => fr' a (by have := W.2.1; omega))
    refine ⟨h', fun a ha => (fr' a (by omega)).trans (fr a ha), fun m => ?_⟩
    have r0 : uc + i ≤ mc ∧ us + 6 * i ≤ ms := by omega
    have r1 : uc + i + 1 ≤ mc ∧ us + 6 * i + 6 ≤ ms := by omega
    simp (disch := omega) only [l_L_isCounted_129_s, b_L_isCounted_129, pn_lt, hi, if_true, zchk_t r0, g_countedAt W1.1 hb hi, e16, Option.bind_some, zchk_t r1]
    rw [e, zb3_some, c_cnt W2 hb hi hf (fun j hj => (hv j hj).trans (e20 j hj).symm) r1]
    simp only [zlet, pn_succ]
    rfl
  · simp (disch := omega) only [l_L_isCounted_129_s, b_L_isCounted_129, Int32.lt_irrefl, if_false]
theorem c_cnts (W : wW hp c p ea T N σ u Ps) (G : sG T N) (hsz : c + 635 ≤ sz) (hb : b < sN T 3) (hr : uc + 4 ≤ mc ∧ us + 24 ≤ ms) (k177 k191 : zHp → Nat → Nat → Nat → Option (Int32 × zHp × Nat)) (x3 x4 x5 : Int32) :
    ∃ h, (∀ a, a < sz → h a = hp a) ∧ l_L_isCounted_129 mc ms k177 k191 c (Int32.ofNat b) (Int32.ofNat (sC N b)) x3 x4 x5 1000000 0 hp sz uc us = k191 h (sz + sC N b) (uc + sC N b) (us + 6 * sC N b) := by
  have hC := sI_c (hh_I W.1.2) hb
  have hM : sC N b < 1000000 := by omega
  have e2 : Int32.ofNat 0 = 0 := rfl
  obtain ⟨M, eM⟩ : ∃ M, M = 1000000 := ⟨_, rfl⟩
  rw [← eM] at hM ⊢
  have := c_cntsM (M := M) W G hsz hb hr k177 k191 x3 x4 x5 hM
  rw [e2, Nat.add_zero, Nat.mul_zero, Nat.add_zero, Nat.add_zero] at this
  exact this
/-- the results -/
theorem c_res (W : wW h c p ea T N σ u Ps) (hb : b < sN T 3) (hr : uc ≤ mc ∧ us ≤ ms) (k238 : zHp → Nat → Nat → Nat → Option (Int32 × zHp × Nat)) (k271 : Int32 → Int32 → zHp → Nat → Nat → Nat → Option (Int32 × zHp × Nat)) (x5 : Int32) :
    l_L_isCounted_194 mc ms k238 k271 c (Int32.ofNat b) (Int32.ofNat (sC N b)) x5 1000000 0 0 0 h z uc us = k271 (zsum (fun k => if sC N b = 0 then 0 else sFd N b (sVi T N b) k) (sPi T)) (zsum (fun k => sPap T b k) (sPi T)) h z uc us := by
  have K := W.1
  have I := hh_I K.2
  have hd := sI_bd I
  have hC := sI_c I hb
  refine zFB (l := fun m a a' i => l_L_isCounted_194 mc ms k238 k271 c (Int32.ofNat b) (Int32.ofNat (sC N b)) x5 m a a' i h z uc us) (n := sPi T) (fun i => zsum (fun k => if sC N b = 0 then 0 else sFd N b (sVi T N b) k) i) (fun i => zsum (fun k => sPap T b k) i) _ (by omega) (fun m k hk => ?_) (fun m => ?_)
  · have e0 : ¬ sN T 0 < k := by omega
    show _ = l_L_isCounted_194 mc ms k238 k271 c (Int32.ofNat b) (Int32.ofNat (sC N b)) x5 m (zsum (fun k => if sC N b = 0 then 0 else sFd N b (sVi T N b) k) k + (if sC N b = 0 then 0 else sFd N b (sVi T N b) k)) (zsum (fun k => sPap T b k) k + sPap T b k) (Int32.ofNat (k + 1)) h z uc us
    by_cases h0 : sC N b = 0
    · simp (disch := omega) only [l_L_isCounted_194_s, b_L_isCounted_194, j_L_isCounted_224, j_L_isCounted_251, zchk_t hr, g_count0 K, Option.bind_some, pn_lt, e0, if_false, pn_eq0, h0, if_true, g_result0 K hb h0, g_papers K hb hk, zlet, pn_succ]
    · have hv := sVi_lt (T := T) h0
      have ev : sVal T N b k = sFd N b (sVi T N b) k := if_neg h0
      simp (disch := omega) only [l_L_isCounted_194_s, b_L_isCounted_194, j_L_isCounted_224, j_L_isCounted_251, zchk_t hr, g_count0 K, Option.bind_some, pn_lt, e0, if_false, pn_eq0, h0, if_true, v_valid K hb, g_counted K hb hv hk, g_result K hb h0 hk, ev, g_papers K hb hk, zlet, pn_succ]
  · have e0 : sN T 0 < sPi T := by omega
    simp (disch := omega) only [l_L_isCounted_194_s, b_L_isCounted_194, zchk_t hr, g_count0 K, Option.bind_some, pn_lt, e0, if_true]
theorem c_358 (W : wW h c p ea T N σ u Ps) (hb : b < sN T 3) (hr : uc ≤ mc ∧ us ≤ ms) : j_L_isCounted_358 mc ms c (Int32.ofNat b) (Int32.ofNat (sC N b)) h z uc us = some (1, h, z) := by
  have K := W.1
  have hC := sI_c (hh_I K.2) hb
  simp (disch := omega) only [j_L_isCounted_358, zchk_t hr, g_countedX K hb (inr_F (Nat.le_refl (sC N b)) (by omega)), g_countedAtX K hb (inr_m1 (sC N b)), Option.bind_some, if_true]
/-- the last line -/
theorem c_287 (W : wW h c p ea T N σ u Ps) (G : sG T N) (hb : b < sN T 3) (hr : uc ≤ mc ∧ us ≤ ms) {s0 : Int32} (e0 : s0 = sMore T N b) : j_L_isCounted_287 mc ms c (Int32.ofNat b) (Int32.ofNat (sC N b)) (zsum (fun k => if sC N b = 0 then 0 else sFd N b (sVi T N b) k) (sPi T)) (zsum (fun k => sPap T b k) (sPi T)) (zoi (sRt T b)) s0 h z uc us = some (1, h, z) := by
  have K := W.1
  have I := hh_I K.2
  have hC := sI_c I hb
  subst e0
  have last : ∀ s1 : Int32, s1 = zb (sOff T N b) → j_L_isCounted_345 mc ms c (Int32.ofNat b) (Int32.ofNat (sC N b)) (zsum (fun k => if sC N b = 0 then 0 else sFd N b (sVi T N b) k) (sPi T)) (zsum (fun k => sPap T b k) (sPi T)) (zb (sOff T N b)) s1 h z uc us = some (1, h, z) := fun s1 e => by
    subst e
    simp (disch := omega) only [j_L_isCounted_345, if_true, pn_eq0, c_358 W hb hr]
    by_cases h0 : sC N b = 0
    · rw [if_pos h0]
    · rw [if_neg h0]
      obtain ⟨t, ht, -, e20⟩ := G b hb (sVi T N b) (sVi_lt (T := T) h0)
      have ez : zsum (fun k => if sC N b = 0 then 0 else sFd N b (sVi T N b) k) (sPi T) = zsum (fun k => sPap T b k) (sPi T) := by
        rw [← zs_sFi I ht hb]
        exact zsum_congr (fun k hk => by rw [if_neg h0]; exact e20 k hk)
      rw [if_pos ez]
  simp (disch := omega) only [j_L_isCounted_287, zchk_t hr, g_right K hb, g_conf K hb, s_sure K hb, g_surplus K hb, g_off K hb, g_set1 K, Option.bind_some, if_true]
  by_cases q : N 1 < zabs (sMore T N b)
  · rw [if_pos q]
    exact last 1 (by unfold sOff; rw [decide_eq_true q]; rfl)
  · rw [if_neg q]
    exact last 0 (by unfold sOff; rw [decide_eq_false q]; rfl)
theorem L_counted (W : wW hp c p ea T N σ u Ps) (G : sG T N) (hsz : c + 635 ≤ sz) (hb : b < sN T 3) (hr : 8 ≤ mc ∧ 48 ≤ ms) : ∃ h z, f_L_isCounted mc ms c (Int32.ofNat b) hp sz = some (1, h, z) ∧ (∀ a, a < sz → h a = hp a) ∧ sz ≤ z ∧ z ≤ sz + 8 := by
  have I := hh_I W.1.2
  have hd := sI_bd I
  have hC := sI_c I hb
  simp only [f_L_isCounted, g_prop3 W.1 hb, Option.bind_some]
  generalize hk126 : (fun (p32 : Int32) (h33 : zHp) (z34 c35 u36 : Nat) => l_L_isCounted_129 mc ms _ _ c (Int32.ofNat b) (Int32.ofNat (sC N b)) 0 0 p32 1000000 0 h33 z34 c35 u36) = k126
  obtain ⟨h1, fr1, e1⟩ := c_tab W hsz hb hr (fun h27 z28 c29 u30 => zchk (c29 ≤ mc ∧ u30 ≤ ms) (some ((0 : Int32), h27, z28))) k126 (Int32.ofNat (sC N b)) 0 0
  rw [e1, ← hk126]
  have W1 := wW_fr W (h := h1) (fun a ha => fr1 a (by have := W.2.1; omega))
  dsimp only
  generalize hk191 : (fun (h62 : zHp) (z63 c64 u65 : Nat) => l_L_isCounted_194 mc ms _ _ c (Int32.ofNat b) (Int32.ofNat (sC N b)) (zoi (sRt T b)) 1000000 0 0 0 h62 z63 c64 u65) = k191
  obtain ⟨h2, fr2, e2⟩ := c_cnts (mc := mc) (ms := ms) (uc := sN T 4) (us := 6 * sN T 4) W1 G (sz := sz + sN T 4) (by omega) hb (by omega) (fun h57 z58 c59 u60 => zchk (c59 ≤ mc ∧ u60 ≤ ms) (some ((0 : Int32), h57, z58))) k191 0 0 (zoi (sRt T b))
  rw [e2, ← hk191]
  have W2 := wW_fr W1 (h := h2) (fun a ha => fr2 a (by have := W.2.1; omega))
  have r2 : sN T 4 + sC N b ≤ mc ∧ 6 * sN T 4 + 6 * sC N b ≤ ms := by omega
  dsimp only
  rw [c_res W2 hb r2]
  refine ⟨h2, sz + sN T 4 + sC N b, ?_, fun a ha => (fr2 a (by omega)).trans (fr1 a ha), by omega, by omega⟩
  simp (disch := omega) only [pn_eq0]
  by_cases h0 : sC N b = 0
  · rw [if_pos h0]
    exact c_287 W2 G hb r2 (by unfold sMore; rw [if_pos h0])
  · rw [if_neg h0, zchk_t r2, g_prop1 W2.1 hb, Option.bind_some]
    refine c_287 W2 G hb r2 ?_
    unfold sMore
    rw [if_neg h0]
    congr 1
end P62
