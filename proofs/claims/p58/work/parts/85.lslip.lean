/-! PURE: what a slip makes of the truth, paper by paper, is what the class says a table would find -/
section P61
variable {hp h hp' : zHp} {x a a' q b u c p hl t k n s sz mc ms : Nat} {ea : Int32} {T N N' R : Nat → Int32} {σ : Nat → Nat} {Ps : Nat → Nat → Int32}
/-- a loop over a state that carries the heap -/
theorem zXL {R S : Type} (L : Nat → Nat → S → Option R) (n : Nat) (J : Nat → S → Prop) {s0 : S} (h0 : J 0 s0) (hs : ∀ i s, i < n → J i s → ∃ s', J (i + 1) s' ∧ ∀ m, L (m + 1) i s = L m (i + 1) s') {K : S → Option R} (he : ∀ s, J n s → ∀ m, L (m + 1) n s = K s) {m : Nat} (hm : n < m) : ∃ s, J n s ∧ L m 0 s0 = K s := by
  have H : ∀ d i m s0, i + d = n → d < m → J i s0 → ∃ s, J n s ∧ L m i s0 = K s := by
    intro d
    induction d with
    | zero =>
      intro i m s0 hi hm hJ
      obtain ⟨m, rfl⟩ : ∃ q, m = q + 1 := ⟨m - 1, by omega⟩
      have e : i = n := by omega
      subst e
      exact ⟨s0, hJ, he s0 hJ m⟩
    | succ d ih =>
      intro i m s0 hi hm hJ
      obtain ⟨m, rfl⟩ : ∃ q, m = q + 1 := ⟨m - 1, by omega⟩
      obtain ⟨s', J', e⟩ := hs i s0 (by omega) hJ
      rw [e m]
      exact ih (i + 1) m s' (by omega) (by omega) J'
  exact H n 0 m s0 (by omega) hm h0
/-- the same for a family of programs -/
theorem zXK {ι R S : Type} (L : ι → Nat → Nat → S → Option R) (n : Nat) (J : Nat → S → Prop) {s0 : S} (h0 : J 0 s0) (hs : ∀ i s, i < n → J i s → ∃ s', J (i + 1) s' ∧ ∀ κ m, L κ (m + 1) i s = L κ m (i + 1) s') {K : ι → S → Option R} (he : ∀ s, J n s → ∀ κ m, L κ (m + 1) n s = K κ s) {m : Nat} (hm : n < m) : ∃ s, J n s ∧ ∀ κ, L κ m 0 s0 = K κ s := by
  have H : ∀ d i m s0, i + d = n → d < m → J i s0 → ∃ s, J n s ∧ ∀ κ, L κ m i s0 = K κ s := by
    intro d
    induction d with
    | zero =>
      intro i m s0 hi hm hJ
      obtain ⟨m, rfl⟩ : ∃ q, m = q + 1 := ⟨m - 1, by omega⟩
      have e : i = n := by omega
      subst e
      exact ⟨s0, hJ, fun κ => he s0 hJ κ m⟩
    | succ d ih =>
      intro i m s0 hi hm hJ
      obtain ⟨m, rfl⟩ : ∃ q, m = q + 1 := ⟨m - 1, by omega⟩
      obtain ⟨s', J', e⟩ := hs i s0 (by omega) hJ
      obtain ⟨s2, J2, e2⟩ := ih (i + 1) m s' (by omega) (by omega) J'
      exact ⟨s2, J2, fun κ => (e κ m).trans (e2 κ)⟩
  exact H n 0 m s0 (by omega) hm h0
theorem zchk_t {β : Type} {c : Prop} [Decidable c] (h : c) (k : Option β) : zchk c k = k := if_pos h
theorem zb3_some {α β γ δ : Type} (a : α) (b : β) (c : γ) (k : α → β → γ → Option δ) : zb3 (some (a, b, c)) k = k a b c := rfl
theorem zrem_n {a s : Nat} (ha : a < 2147483648) (hs : 0 < s) (hs2 : s < 2147483648) : zrem (Int32.ofNat a) (Int32.ofNat s) = some (Int32.ofNat (a % s)) := by
  unfold zrem
  rw [if_neg (by rw [pn_eq0 hs2]; omega), ← Int32.ofNat_div ha hs2, ← Int32.ofNat_mul, ← Int32.ofNat_sub _ _ (Nat.div_mul_le_self a s)]
  have h := Nat.div_add_mod a s
  rw [Nat.mul_comm] at h
  rw [show a - a / s * s = a % s by omega]
def pw (T : Nat → Int32) (b k : Nat) : Nat := (sPap T b k).toNatClampNeg
def aw (T : Nat → Int32) (b : Nat) : Nat → Nat
  | 0 => 0
  | k + 1 => aw T b k + pw T b k
/-- how many of the k numbers behind a are multiples of s -/
def dM (s a : Nat) : Nat → Nat
  | 0 => 0
  | k + 1 => dM s a k + (if s ≠ 0 ∧ (a + k + 1) % s = 0 then 1 else 0)
theorem dM_s (s a k : Nat) : dM s a (k + 1) = dM s a k + (if s ≠ 0 ∧ (a + k + 1) % s = 0 then 1 else 0) := rfl
theorem dM_le (s a : Nat) : ∀ k, dM s a k ≤ k
  | 0 => Nat.le_refl 0
  | k + 1 => by
    have := dM_le s a k
    rw [dM_s]
    split <;> omega
theorem dM_0 (a : Nat) : ∀ k, dM 0 a k = 0
  | 0 => rfl
  | k + 1 => by
    rw [dM_s, dM_0 a k, if_neg (fun h => h.1 rfl)]
theorem div_s {s : Nat} (hs : 0 < s) (n : Nat) : (n + 1) / s = n / s + (if (n + 1) % s = 0 then 1 else 0) := by
  have h1 := Nat.div_add_mod n s
  have h3 := Nat.mod_lt n hs
  by_cases e : n % s + 1 = s
  · have e2 : n + 1 = s * (n / s + 1) := by rw [Nat.mul_add]; omega
    have e3 : (n + 1) % s = 0 := by rw [e2]; exact Nat.mul_mod_right s _
    rw [if_pos e3]
    generalize hd : n / s = d at e2
    rw [e2, Nat.mul_div_cancel_left _ hs]
  · have e2 : n + 1 = s * (n / s) + (n % s + 1) := by omega
    have e4 : n % s + 1 < s := by omega
    have e3 : (n + 1) % s = n % s + 1 := by
      generalize hr : n % s = r at e2 e4
      generalize hd : n / s = d at e2
      rw [e2, Nat.mul_add_mod, Nat.mod_eq_of_lt e4]
    rw [if_neg (by omega)]
    generalize hr : n % s = r at e2 e4
    generalize hd : n / s = d at e2
    rw [e2, Nat.mul_add_div hs, Nat.div_eq_of_lt e4]
theorem dM_div {s : Nat} (hs : 0 < s) (a : Nat) : ∀ k, a / s + dM s a k = (a + k) / s
  | 0 => rfl
  | k + 1 => by
    have ih := dM_div hs a k
    rw [dM_s, show a + (k + 1) = (a + k) + 1 by omega, div_s hs, ← ih]
    by_cases e : (a + k + 1) % s = 0
    · rw [if_pos e, if_pos ⟨by omega, e⟩]; omega
    · rw [if_neg e, if_neg (fun h => e h.2)]; omega
def nxp (n p : Nat) : Nat := if p = n then 0 else p + 1
theorem nxp_mod {n p : Nat} (h : p ≤ n) : (p + 1) % (n + 1) = nxp n p := by
  unfold nxp
  by_cases e : p = n
  · rw [if_pos e, e, Nat.mod_self]
  · rw [if_neg e, Nat.mod_eq_of_lt (by omega)]
theorem nxp_le {n p : Nat} (h : p ≤ n) : nxp n p ≤ n := by
  unfold nxp
  split <;> omega
def dD (T : Nat → Int32) (b s p : Nat) : Nat := dM s (aw T b p) (pw T b p)
theorem dD_le (T : Nat → Int32) (b s p : Nat) : dD T b s p ≤ pw T b p := dM_le _ _ _
def rW (T : Nat → Int32) (b s n : Nat) : Nat → Nat → Nat
  | 0, _ => 0
  | p + 1, j => rW T b s n p j + (if j = p then pw T b p - dD T b s p else 0) + (if j = nxp n p then dD T b s p else 0)
theorem rW_s (T : Nat → Int32) (b s n p j : Nat) : rW T b s n (p + 1) j = rW T b s n p j + (if j = p then pw T b p - dD T b s p else 0) + (if j = nxp n p then dD T b s p else 0) := rfl
theorem rW_eq (T : Nat → Int32) (b s n : Nat) : ∀ m, m ≤ n + 1 → ∀ j, j ≤ n → rW T b s n m j = (if j < m then pw T b j - dD T b s j else 0) + (if j = 0 then (if m = n + 1 then dD T b s n else 0) else if j - 1 < m then dD T b s (j - 1) else 0)
  | 0, _, j, hj => by
    show 0 = _
    rw [if_neg (by omega)]
    by_cases e : j = 0
    · rw [if_pos e, if_neg (by omega)]
    · rw [if_neg e, if_neg (by omega)]
  | m + 1, hm, j, hj => by
    rw [rW_s, rW_eq T b s n m (by omega) j hj]
    unfold nxp
    by_cases e : j = 0
    · subst e
      rw [if_pos rfl, if_pos rfl, if_neg (show ¬ m = n + 1 by omega), if_pos (show 0 < m + 1 by omega)]
      by_cases em : m = n
      · rw [if_pos em, if_pos rfl, if_pos (show m + 1 = n + 1 by omega)]
        by_cases e0 : (0 : Nat) = m
        · rw [if_pos e0, if_neg (show ¬ 0 < m by omega), ← e0, em.symm.trans e0.symm]
          omega
        · rw [if_neg e0, if_pos (show 0 < m by omega), em]
          omega
      · rw [if_neg em, if_neg (show ¬ 0 = m + 1 by omega), if_neg (show ¬ m + 1 = n + 1 by omega)]
        by_cases e0 : (0 : Nat) = m
        · rw [if_pos e0, if_neg (show ¬ 0 < m by omega), ← e0]
          omega
        · rw [if_neg e0, if_pos (show 0 < m by omega)]
    · obtain ⟨i, rfl⟩ : ∃ i, j = i + 1 := ⟨j - 1, by omega⟩
      rw [if_neg e, if_neg e, Nat.add_sub_cancel]
      have en : (if i + 1 = (if m = n then 0 else m + 1) then dD T b s m else 0) = (if i = m then dD T b s m else 0) := by
        by_cases e1 : m = n
        · rw [if_pos e1, if_neg (by omega), if_neg (by omega)]
        · rw [if_neg e1]
          by_cases e2 : i = m
          · rw [if_pos (by omega), if_pos e2]
          · rw [if_neg (by omega), if_neg e2]
      rw [en]
      have x1 : (if i + 1 < m then pw T b (i + 1) - dD T b s (i + 1) else 0) + (if i + 1 = m then pw T b m - dD T b s m else 0) = (if i + 1 < m + 1 then pw T b (i + 1) - dD T b s (i + 1) else 0) := by
        by_cases e1 : i + 1 = m
        · rw [if_neg (by omega), if_pos e1, if_pos (by omega), e1]; omega
        · rw [if_neg e1]
          by_cases e2 : i + 1 < m
          · rw [if_pos e2, if_pos (by omega)]
            rfl
          · rw [if_neg e2, if_neg (by omega)]
      have x2 : (if i < m then dD T b s i else 0) + (if i = m then dD T b s m else 0) = (if i < m + 1 then dD T b s i else 0) := by
        by_cases e1 : i = m
        · rw [if_neg (by omega), if_pos e1, if_pos (by omega), e1]; omega
        · rw [if_neg e1]
          by_cases e2 : i < m
          · rw [if_pos e2, if_pos (by omega)]
            rfl
          · rw [if_neg e2, if_neg (by omega)]
      omega
theorem pw_eq (I : sI T N) (hb : b < sN T 3) (hk : k < sPi T) : sPap T b k = Int32.ofNat (pw T b k) ∧ pw T b k ≤ 300 := by
  obtain ⟨q, h1, h2⟩ := sI_p I hb hk
  unfold pw
  rw [h2, pn_nat (by omega)]
  exact ⟨rfl, h1⟩
theorem aw_le (I : sI T N) (hb : b < sN T 3) : ∀ k, k ≤ sPi T → aw T b k ≤ k * 300
  | 0, _ => Nat.le_refl 0
  | k + 1, h => by
    have h1 := aw_le I hb k (by omega)
    have h2 := (pw_eq I hb (show k < sPi T by omega)).2
    show aw T b k + pw T b k ≤ _
    omega
theorem sAh_aw (I : sI T N) (hb : b < sN T 3) : ∀ k, k ≤ sPi T → sAh T b k = Int32.ofNat (aw T b k)
  | 0, _ => rfl
  | k + 1, h => by
    have h1 := sAh_aw I hb k (by omega)
    have h2 := (pw_eq I hb (show k < sPi T by omega)).1
    show sAh T b k + sPap T b k = Int32.ofNat (aw T b k + pw T b k)
    rw [h1, h2, ixa]
theorem sSl_dD (I : sI T N) (hb : b < sN T 3) (hk : k < sPi T) (hs : s < 100) : sSl T (Int32.ofNat s) b k = Int32.ofNat (dD T b s k) := by
  have hd := sI_bd I
  have h1 := sAh_aw I hb k (by omega)
  have h2 := (pw_eq I hb hk).1
  have h3 := (pw_eq I hb hk).2
  have h4 := aw_le I hb k (by omega)
  unfold sSl
  by_cases q : s = 0
  · subst q
    rw [if_pos (show Int32.ofNat 0 = 0 from rfl)]
    unfold dD
    rw [dM_0]
    rfl
  · have e := dM_div (s := s) (by omega) (aw T b k) (pw T b k)
    rw [if_neg (by rw [pn_eq0 (by omega)]; exact q), h1, h2, ixa, ← Int32.ofNat_div (by omega) (by omega), ← Int32.ofNat_div (by omega) (by omega), ← Int32.ofNat_sub _ _ (by omega)]
    congr 1
    unfold dD
    omega
theorem sFi_rW (I : sI T N) (ht : t < sN T 4) (hb : b < sN T 3) (hk : k < sPi T) (es : T (140 + t) = Int32.ofNat s) (hs : s < 100) : sFi T t b k = Int32.ofNat (rW T b s (sN T 0) (sPi T) k) := by
  have hd := sI_bd I
  have hD := dD_le T b s k
  unfold sFi
  rw [es, (pw_eq I hb hk).1, sSl_dD I hb hk hs, sSl_dD I hb (show (if k = 0 then sN T 0 else k - 1) < sPi T by split <;> omega) hs, ← Int32.ofNat_sub _ _ hD, ixa, hd.2.2.2.2.2, rW_eq T b s (sN T 0) (sN T 0 + 1) (Nat.le_refl _) k (by omega), if_pos (show k < sN T 0 + 1 by omega)]
  congr 1
  by_cases e : k = 0
  · rw [if_pos e, if_pos e, if_pos rfl]
  · rw [if_neg e, if_neg e, if_pos (by omega)]
theorem l_in (W : wW hp c p ea T N σ u Ps) (hsz : c + 635 ≤ sz) (hb : b < sN T 3) (hk : k < sPi T) (hs : s < 100) {f : Nat → Int32} (fr : ∀ a, a ≠ sz → h a = hp a) (hf : h sz = some (.inl (0, sN T 0 + 1, .inl f))) (hv : ∀ j, j ≤ sN T 0 → f j = Int32.ofNat (rW T b s (sN T 0) k j))
    {z uc us : Nat} (hr : uc ≤ mc ∧ us ≤ ms) :
    ∃ h', ((∀ a, a ≠ sz → h' a = hp a) ∧ ∃ f, h' sz = some (.inl (0, sN T 0 + 1, .inl f)) ∧ ∀ j, j ≤ sN T 0 → f j = Int32.ofNat (rW T b s (sN T 0) (k + 1) j)) ∧ ∀ K, l_L_slipped_35 mc ms K c (Int32.ofNat b) (Int32.ofNat (sN T 0 + 1)) sz (Int32.ofNat s) (Int32.ofNat k) 1000000 (Int32.ofNat (aw T b k)) 0 h z uc us = K (Int32.ofNat (aw T b (k + 1))) h' z uc us := by
  have I := hh_I W.1.2
  have hd := sI_bd I
  have hpp := W.2.1
  have ha := aw_le I hb k (by omega)
  obtain ⟨e1, e2⟩ := pw_eq I hb hk
  obtain ⟨h', ⟨fr', f', hf', hv'⟩, e⟩ := zXK (L := fun K m i h => l_L_slipped_35 mc ms K c (Int32.ofNat b) (Int32.ofNat (sN T 0 + 1)) sz (Int32.ofNat s) (Int32.ofNat k) m (Int32.ofNat (aw T b k + i)) (Int32.ofNat i) h z uc us) (pw T b k)
    (fun i h => (∀ a, a ≠ sz → h a = hp a) ∧ ∃ f, h sz = some (.inl (0, sN T 0 + 1, .inl f)) ∧ ∀ j, j ≤ sN T 0 → f j = Int32.ofNat (rW T b s (sN T 0) k j + (if j = k then i - dM s (aw T b k) i else 0) + (if j = nxp (sN T 0) k then dM s (aw T b k) i else 0))) (s0 := h)
    ⟨fr, f, hf, fun j hj => by
      rw [hv j hj]
      congr 1
      show _ = _ + (if j = k then 0 - 0 else 0) + (if j = nxp (sN T 0) k then 0 else 0)
      split <;> split <;> rfl⟩
    (fun i h hi ⟨fr, f, hf, hv⟩ => by
      have W1 := wW_fr W (h := h) (fun a ha => fr a (by omega))
      have hM := dM_le s (aw T b k) i
      have hnx := nxp_le (n := sN T 0) (p := k) (by omega)
      have wr : ∀ e, e ≤ sN T 0 → zsI h sz (Int32.ofNat e) (f e + 1) = some (zup h sz (.inl (0, sN T 0 + 1, .inl (upd f e (f e + 1))))) := fun e he => pa_wr hf (by omega) (by omega) _
      have rd : ∀ e, e ≤ sN T 0 → zaI h 0 sz (Int32.ofNat e) = some (f e) := fun e he => pa_rd hf (Or.inl rfl) (by omega) (by omega)
      have z0 : (0 : Int32) = Int32.ofNat 0 := rfl
      by_cases cd : s ≠ 0 ∧ (aw T b k + i + 1) % s = 0
      · refine ⟨zup h sz (.inl (0, sN T 0 + 1, .inl (upd f (nxp (sN T 0) k) (f (nxp (sN T 0) k) + 1)))), ⟨fun a ha => (zup_ne ha).trans (fr a ha), _, zup_eq _ _ _, fun j hj => ?_⟩, fun K m => ?_⟩
        · rw [zU, dM_s, if_pos cd]
          by_cases ej : j = nxp (sN T 0) k
          · rw [if_pos ej, show f (nxp (sN T 0) k) = f j by rw [ej], hv j hj, pn_succ, if_pos ej, if_pos ej]
            congr 1
            by_cases ek : j = k
            · rw [if_pos ek, if_pos ek]; omega
            · rw [if_neg ek, if_neg ek]; omega
          · rw [if_neg ej, hv j hj, if_neg ej, if_neg ej]
            congr 1
            by_cases ek : j = k
            · rw [if_pos ek, if_pos ek]; omega
            · rw [if_neg ek, if_neg ek]
        · have hs0 : 0 < s := by omega
          simp (disch := omega) only [l_L_slipped_35_s, b_L_slipped_35, j_L_slipped_76, zchk_t hr, g_papers W1.1 hb hk, e1, Option.bind_some, pn_lt, hi, if_true, zlet, pn_succ, pn_0lt, hs0, zrem_n, cd.2, show (Int32.ofNat 0 = 0) = True from eq_true rfl, nxp_mod, rd _ hnx, wr _ hnx]
          rfl
      · refine ⟨zup h sz (.inl (0, sN T 0 + 1, .inl (upd f k (f k + 1)))), ⟨fun a ha => (zup_ne ha).trans (fr a ha), _, zup_eq _ _ _, fun j hj => ?_⟩, fun K m => ?_⟩
        · rw [zU, dM_s, if_neg cd]
          by_cases ej : j = k
          · rw [if_pos ej, show f k = f j by rw [ej], hv j hj, pn_succ, if_pos ej, if_pos ej]
            congr 1
            by_cases ek : j = nxp (sN T 0) k
            · rw [if_pos ek, if_pos ek]; omega
            · rw [if_neg ek, if_neg ek]; omega
          · rw [if_neg ej, hv j hj, if_neg ej, if_neg ej]
            rfl
        · have hk' : k ≤ sN T 0 := by omega
          by_cases hs0 : 0 < s
          · have c2 : ¬ (aw T b k + i + 1) % s = 0 := fun q => cd ⟨by omega, q⟩
            have hlt := Nat.mod_lt (aw T b k + i + 1) hs0
            simp (disch := omega) only [l_L_slipped_35_s, b_L_slipped_35, j_L_slipped_74, j_L_slipped_76, zchk_t hr, g_papers W1.1 hb hk, e1, Option.bind_some, pn_lt, hi, if_true, if_false, zlet, pn_succ, pn_0lt, hs0, zrem_n, pn_eq0, c2, rd _ hk', wr _ hk']
            rfl
          · simp (disch := omega) only [l_L_slipped_35_s, b_L_slipped_35, j_L_slipped_74, j_L_slipped_76, zchk_t hr, g_papers W1.1 hb hk, e1, Option.bind_some, pn_lt, hi, if_true, if_false, zlet, pn_succ, pn_0lt, hs0, rd _ hk', wr _ hk']
            rfl)
    (K := fun K h => K (Int32.ofNat (aw T b k + pw T b k)) h z uc us)
    (fun h ⟨fr, f, hf, hv⟩ K m => by
      have W1 := wW_fr W (h := h) (fun a ha => fr a (by omega))
      simp (disch := omega) only [l_L_slipped_35_s, b_L_slipped_35, zchk_t hr, g_papers W1.1 hb hk, e1, Option.bind_some, Int32.lt_irrefl, if_false]) (m := 1000000) (by omega)
  exact ⟨h', ⟨fr', f', hf', fun j hj => by rw [hv' j hj, rW_s]; rfl⟩, e⟩
theorem L_slip (W : wW hp c p ea T N σ u Ps) (hsz : c + 635 ≤ sz) (ht : t < sN T 4) (hb : b < sN T 3) (hr : 1 ≤ mc ∧ 6 ≤ ms) : ∃ h f, f_L_slipped mc ms c (Int32.ofNat t) (Int32.ofNat b) hp sz = some (sz, h, sz + 1) ∧ (∀ a, a ≠ sz → h a = hp a) ∧ h sz = some (.inl (0, sPi T, .inl f)) ∧ ∀ k, k < sPi T → f k = sFi T t b k := by
  have I := hh_I W.1.2
  have hd := sI_bd I
  obtain ⟨s, hs, es⟩ := sI_s I ht
  obtain ⟨h0, eh0⟩ : ∃ h0, h0 = zup hp sz (.inl (0, sN T 0 + 1, .inl (fun _ => 0))) := ⟨_, rfl⟩
  have fr0 : ∀ a, a ≠ sz → h0 a = hp a := fun a ha => by rw [eh0]; exact zup_ne ha
  have W0 := wW_fr W (h := h0) (fun a ha => fr0 a (by have := W.2.1; omega))
  have hr1 : 0 + 1 ≤ mc ∧ 0 + (sN T 0 + 1) ≤ ms := by omega
  obtain ⟨h', ⟨fr', f', hf', hv'⟩, e⟩ := zXL (L := fun m i h => l_L_slipped_26 mc ms (fun h20 z21 c22 u23 => zchk (c22 ≤ mc ∧ u23 ≤ ms) <| some (sz, h20, z21)) c (Int32.ofNat b) (Int32.ofNat (sN T 0 + 1)) sz (Int32.ofNat s) m (Int32.ofNat (aw T b i)) (Int32.ofNat i) h (sz + 1) (0 + 1) (0 + (sN T 0 + 1))) (sN T 0 + 1)
    (fun i h => (∀ a, a ≠ sz → h a = hp a) ∧ ∃ f, h sz = some (.inl (0, sN T 0 + 1, .inl f)) ∧ ∀ j, j ≤ sN T 0 → f j = Int32.ofNat (rW T b s (sN T 0) i j)) (s0 := h0)
    ⟨fr0, fun _ => 0, by rw [eh0]; exact zup_eq _ _ _, fun j _ => rfl⟩
    (fun i h hi ⟨fr, f, hf, hv⟩ => by
      obtain ⟨h', J', e⟩ := l_in (mc := mc) (ms := ms) (z := sz + 1) W hsz hb (k := i) (by omega) (s := s) (by omega) fr hf hv hr1
      refine ⟨h', J', fun m => ?_⟩
      simp (disch := omega) only [l_L_slipped_26_s, b_L_slipped_26, pn_lt, hi, if_true, e, zlet, pn_succ])
    (K := fun h => some (sz, h, sz + 1))
    (fun h ⟨fr, f, hf, hv⟩ m => by
      simp (disch := omega) only [l_L_slipped_26_s, b_L_slipped_26, Int32.lt_irrefl, if_false, zchk_t hr1]) (m := 1000000) (by omega)
  refine ⟨h', f', ?_, fr', hf', fun k hk => ?_⟩
  · have hn0 : ¬ Int32.ofNat (sN T 0 + 1) < 0 := pn_neg (by omega)
    have en : (Int32.ofNat (sN T 0 + 1)).toNatClampNeg = sN T 0 + 1 := pn_nat (by omega)
    simp only [f_L_slipped, g_count0 W.1, Option.bind_some, zlet, pn_succ, en]
    rw [zchk_t ⟨hn0, by omega, hr1.1, hr1.2⟩, ← eh0, g_slip W0.1 ht, Option.bind_some, es]
    exact e
  · rw [hv' k (by omega), sFi_rW I ht hb hk es (by omega), hd.2.2.2.2.2]
end P61
