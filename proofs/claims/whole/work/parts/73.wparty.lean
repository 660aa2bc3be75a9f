/-! PURE: the class's write -/
section P73
variable {hp h hp' : zHp} {a bs cap cnt sz mc ms k r c p s i w B0 u : Nat} {ro : Nat → Nat} {W W' f F0 F T N : Nat → Int32} {v ea : Int32} {l m : List Nat} {σ : Nat → Nat} {Ps : Nat → Nat → Int32}
theorem wW_fB (X : wW hp c p ea T N σ u Ps) (f : fB B0 (c + 635) hp h) (hB : c + 636 < B0) : wW h c p ea T N σ u Ps := wW_fr X (fun a ha => f a (by have := X.2.1; omega) (by have := X.2.1; omega) (by have := X.2.1; omega))
theorem C_name (X : wW hp c p ea T N σ u Ps) (Y : sbC B0 hp (c + 635) sz cap l) (hl : l.length + 6 ≤ 80) (hs : s < 4) (hi : i < sN T s) {y : Int32} (hy : y = Int32.ofNat s) : ∃ h sz' cap', f_X7_writeName (nd cap l.length 6).1 (nd cap l.length 6).2 c y (Int32.ofNat i) hp sz = some (h, sz') ∧ sbC B0 h (c + 635) sz' cap' (l ++ nmL (T (zno s + i)) 6) ∧ sz ≤ sz' ∧ fB B0 (c + 635) hp h := by
  subst hy
  have Y' := Y
  obtain ⟨bs, -, -, -, -, y5, -⟩ := Y'
  have K := X.1
  have pl := K.2.2.1
  obtain ⟨h', sz', uc', us', cap', i1, i2, i3, i4, i5, i6⟩ := A_letters (c := c) (mc := (nd cap l.length 6).1) (ms := (nd cap l.length 6).2) (K := fun h14 z15 c16 u17 => zchk (c16 ≤ (nd cap l.length 6).1 ∧ u17 ≤ (nd cap l.length 6).2) <| some (h14, z15)) (v := T (zno s + i)) ⟨by omega, by omega, by omega⟩ 6 1000000 hp sz 0 0 cap l (by omega) (by decide) Y hl (k_sb K) (by omega) (by omega)
  refine ⟨h', sz', cap', ?_, i2, i3, i4⟩
  have rd : zaI hp 0 (p + 3 + s) (Int32.ofNat i) = some (T (zno s + i)) := c_namesA pl (hh_I K.2) hs hi
  unfold f_X7_writeName
  rw [k_is K, Option.bind_some, k_hl K, Option.bind_some, hh_p K.2, Option.bind_some, c_names pl, Option.bind_some, c_namesR pl (show s < 5 by omega), Option.bind_some, rd, Option.bind_some]
  refine i1.trans ?_
  unfold zchk
  rw [if_pos ⟨i5, i6⟩]
def vt (T N : Nat → Int32) (w : Int32) (n : Nat) : Nat := (sVo T N w n).toNatClampNeg
theorem vt_is (I : sI T N) (hk : k < sPi T) (w : Int32) : sVo T N w k = Int32.ofNat (vt T N w k) ∧ vt T N w k ≤ 7200 := by
  obtain ⟨r, h1, h2⟩ := sVo_small I hk w
  unfold vt
  rw [h2, pn_nat (by omega)]
  exact ⟨rfl, h1⟩
/-- what is written of the first n parties -/
def wrP (T N : Nat → Int32) (w : Int32) : Nat → List Nat
  | 0 => []
  | n + 1 => wrP T N w n ++ ([32] ++ (nmL (T (5 + n)) 6 ++ ([61] ++ dl (vt T N w n))))
theorem wrP_len (T N : Nat → Int32) (w : Int32) : ∀ n, (wrP T N w n).length ≤ 12 * n
  | 0 => Nat.le_refl _
  | n + 1 => by
    have h1 := wrP_len T N w n
    have h2 := nmL_len (T (5 + n)) 6
    have h3 := dl_len (vt T N w n)
    unfold wrP
    rw [List.length_append, List.length_append, List.length_append, List.length_append]
    show _ + (1 + (_ + (1 + _))) ≤ _
    omega
def wrL (T N : Nat → Int32) (w : Nat) : List Nat := (nmL (T (15 + w)) 6 ++ wrP T N (Int32.ofNat w) (sN T 0)) ++ (if sDecl N (Int32.ofNat w) = true then [32, 33] else [])
theorem wrL_len (T N : Nat → Int32) (w : Nat) (h : sN T 0 ≤ 5) : (wrL T N w).length ≤ 68 := by
  have h1 := wrP_len T N (Int32.ofNat w) (sN T 0)
  have h2 := nmL_len (T (15 + w)) 6
  unfold wrL
  rw [List.length_append, List.length_append]
  split
  · show _ + 2 ≤ _; omega
  · show _ + 0 ≤ _; omega
theorem nd_b {len : Nat} (h1 : cap ≤ 160) (h2 : len ≤ 80) (h3 : k ≤ 11) : (nd cap len k).1 ≤ 1 ∧ (nd cap len k).2 ≤ 413 := by
  unfold nd
  split
  · exact ⟨by show 0 ≤ 1; omega, by show 0 ≤ 413; omega⟩
  · exact ⟨Nat.le_refl _, by show 2 * cap + 2 + len + k ≤ 413; omega⟩
theorem zneedW_c (h1 : zgR hp c 7 3 = some a) (k : Nat) : zneedW hp c k = zneed hp a k := by
  unfold zneedW
  rw [h1]
/-- one party -/
theorem C_parties (hB : c + 636 < B0) (hro : ro 30 < c ∧ ro 31 < c) {KK : zHp → Nat → Nat → Nat → Option (Option (Int32 × zHp × Nat))} {L0 : List Nat} (hL0 : L0.length ≤ 6) : ∀ (d i mm : Nat) (hp : zHp) (sz uc us cap : Nat), i + d = sN T 0 → d < mm → wW hp c p ea T N σ u Ps → wDT hp ro → sbC B0 hp (c + 635) sz cap (L0 ++ wrP T N v i) → uc + 4 * d ≤ 22 → us + 413 * (4 * d) ≤ 10000 →
    ∃ h' sz' uc' us' cap', l_X7_write_22 ro 23 11300 KK c v mm (Int32.ofNat i) hp sz uc us = KK h' sz' uc' us' ∧ wW h' c p ea T N σ u Ps ∧ wDT h' ro ∧ sbC B0 h' (c + 635) sz' cap' (L0 ++ wrP T N v (sN T 0)) ∧ sz ≤ sz' ∧ fB B0 (c + 635) hp h' ∧ uc' ≤ 22 ∧ us' ≤ 10000
  | 0, i, mm, hp, sz, uc, us, cap, hi, hm, X, D, Y, b1, b2 => by
    obtain ⟨mm, rfl⟩ : ∃ q, mm = q + 1 := ⟨mm - 1, by omega⟩
    have e : i = sN T 0 := by omega
    subst e
    refine ⟨hp, sz, uc, us, cap, ?_, X, D, Y, Nat.le_refl _, fB_rf, by omega, by omega⟩
    have K := X.1
    rw [l_X7_write_22_s]
    unfold b_X7_write_22
    rw [k_hl K, Option.bind_some, hh_p K.2, Option.bind_some, c_num K.2.2.1, Option.bind_some, c_n0 K.2.2.1, Option.bind_some, if_neg Int32.lt_irrefl]
  | d + 1, i, mm, hp, sz, uc, us, cap, hi, hm, X, D, Y, b1, b2 => by
    obtain ⟨mm, rfl⟩ : ∃ q, mm = q + 1 := ⟨mm - 1, by omega⟩
    have K := X.1
    have I := hh_I K.2
    have h05 := sI_0 I
    have hlen : (L0 ++ wrP T N v i).length ≤ 6 + 12 * i := by
      have := wrP_len T N v i
      rw [List.length_append]
      omega
    have hDT : ∀ {h1 : zHp}, fB B0 (c + 635) hp h1 → wDT h1 ro := fun {h1} f => by
      obtain ⟨⟨t1, t2, t3⟩, t4, t5, t6⟩ := D
      exact ⟨⟨t1, by rw [f _ (by omega) (by omega) (by omega)]; exact t2, t3⟩, t4, by rw [f _ (by omega) (by omega) (by omega)]; exact t5, t6⟩
    obtain ⟨l0, el0⟩ : ∃ l0, L0 ++ wrP T N v i = l0 := ⟨_, rfl⟩
    rw [el0] at Y hlen
    have n0 := nd_b (cap := cap) (len := l0.length) (k := 1) (sbC_cap Y).2.2 (by omega) (by omega)
    -- the blank
    obtain ⟨h1, sz1, e1, Y1, s1, f1⟩ := A_app Y (by omega) (n := 32) (by decide) (mc := (nd cap l0.length 1).1) (ms := (nd cap l0.length 1).2) (Nat.le_refl _) (Nat.le_refl _)
    have X1 := wW_fB X f1 hB
    have len1 : (l0 ++ [32]).length = l0.length + 1 := by rw [List.length_append]; rfl
    have n1 := nd_b (cap := gc cap l0.length 1) (len := (l0 ++ [32]).length) (k := 6) (sbC_cap Y1).2.2 (by omega) (by omega)
    -- the name
    obtain ⟨h2, sz2, cap2, e2, Y2, s2, f2⟩ := C_name X1 Y1 (by omega) (s := 0) (i := i) (by decide) (by omega) (y := 0) rfl
    have X2 := wW_fB X1 f2 hB
    have len2 : ((l0 ++ [32]) ++ nmL (T (5 + i)) 6).length ≤ l0.length + 7 := by
      have := nmL_len (T (5 + i)) 6
      rw [List.length_append]
      omega
    have Y2' : sbC B0 h2 (c + 635) sz2 cap2 ((l0 ++ [32]) ++ nmL (T (5 + i)) 6) := Y2
    have n2 := nd_b (cap := cap2) (len := ((l0 ++ [32]) ++ nmL (T (5 + i)) 6).length) (k := 1) (sbC_cap Y2').2.2 (by omega) (by omega)
    -- the sign
    obtain ⟨h3, sz3, e3, Y3, s3, f3⟩ := A_app Y2' (by omega) (n := 61) (by decide) (mc := (nd cap2 ((l0 ++ [32]) ++ nmL (T (5 + i)) 6).length 1).1) (ms := (nd cap2 ((l0 ++ [32]) ++ nmL (T (5 + i)) 6).length 1).2) (Nat.le_refl _) (Nat.le_refl _)
    have X3 := wW_fB X2 f3 hB
    obtain ⟨l3, el3⟩ : ∃ l3, ((l0 ++ [32]) ++ nmL (T (5 + i)) 6) ++ [61] = l3 := ⟨_, rfl⟩
    rw [el3] at Y3
    have len3 : l3.length ≤ l0.length + 8 := by rw [← el3, List.length_append]; show _ + 1 ≤ _; omega
    obtain ⟨cap3, ecap3⟩ : ∃ q, gc cap2 ((l0 ++ [32]) ++ nmL (T (5 + i)) 6).length 1 = q := ⟨_, rfl⟩
    rw [ecap3] at Y3
    have n3 := nd_b (cap := cap3) (len := l3.length) (k := 11) (sbC_cap Y3).2.2 (by omega) (by omega)
    -- the votes
    have hk : i < sPi T := by unfold sPi; omega
    obtain ⟨v1, v2⟩ := vt_is I hk v
    have hv := H_votes X3.1.2 hk v
    rw [v1] at hv
    obtain ⟨h4, sz4, e4, Y4, s4, f4⟩ := A_int Y3 (hDT (fB_tr f1 (fB_tr f2 f3))) ⟨by omega, by omega, by omega, by omega⟩ (n := vt T N v i) (by omega) (by omega) (mc := (nd cap3 l3.length 11).1) (ms := (nd cap3 l3.length 11).2) (Nat.le_refl _) (Nat.le_refl _)
    have X4 := wW_fB X3 f4 hB
    have f04 : fB B0 (c + 635) hp h4 := fB_tr f1 (fB_tr f2 (fB_tr f3 f4))
    have Y4' : sbC B0 h4 (c + 635) sz4 (gc cap3 l3.length (dl (vt T N v i)).length) (L0 ++ wrP T N v (i + 1)) := by
      have e : L0 ++ wrP T N v (i + 1) = l3 ++ dl (vt T N v i) := by
        rw [← el3, ← el0]
        rw [show wrP T N v (i + 1) = wrP T N v i ++ ([32] ++ (nmL (T (5 + i)) 6 ++ ([61] ++ dl (vt T N v i)))) from rfl]
        simp only [List.append_assoc]
      rw [e]
      exact Y4
    obtain ⟨h', sz', uc', us', cap', i1, i2, i3, i4, i5, i6, i7, i8⟩ := C_parties hB hro (KK := KK) hL0 d (i + 1) mm h4 sz4 (uc + (nd cap l0.length 1).1 + (nd (gc cap l0.length 1) (l0 ++ [32]).length 6).1 + (nd cap2 ((l0 ++ [32]) ++ nmL (T (5 + i)) 6).length 1).1 + (nd cap3 l3.length 11).1) (us + (nd cap l0.length 1).2 + (nd (gc cap l0.length 1) (l0 ++ [32]).length 6).2 + (nd cap2 ((l0 ++ [32]) ++ nmL (T (5 + i)) 6).length 1).2 + (nd cap3 l3.length 11).2) _ (by omega) (by omega) X4 (hDT f04) Y4' (by omega) (by omega)
    refine ⟨h', sz', uc', us', cap', ?_, i2, i3, i4, by omega, fB_tr f04 i6, i7, i8⟩
    rw [← i1]
    have g1 := k_sb X1.1
    have g2 := k_sb X2.1
    have g3 := k_sb X3.1
    have ilt : Int32.ofNat i < Int32.ofNat (sN T 0) := by rw [pn_lt (by omega) (by omega)]; omega
    rw [l_X7_write_22_s]
    unfold b_X7_write_22
    rw [k_hl K, Option.bind_some, hh_p K.2, Option.bind_some, c_num K.2.2.1, Option.bind_some, c_n0 K.2.2.1, Option.bind_some, if_pos ilt, k_sb K, Option.bind_some, sbC_need Y (by omega)]
    unfold zchk zb3 zb2 zlet
    rw [if_pos ⟨by omega, by omega⟩, show (32 : Int32) = Int32.ofNat 32 from rfl, e1, Option.bind_some]
    dsimp only
    rw [zneedW_c g1, sbC_need Y1 (by omega), if_pos ⟨by omega, by omega⟩, e2, Option.bind_some]
    dsimp only
    rw [g2, Option.bind_some, sbC_need Y2' (by omega), if_pos ⟨by omega, by omega⟩, show (61 : Int32) = Int32.ofNat 61 from rfl, e3, Option.bind_some]
    dsimp only
    rw [g3, Option.bind_some, k_hl X3.1, Option.bind_some, hv, Option.bind_some, sbC_need Y3 (by omega), if_pos ⟨by omega, by omega⟩, e4, Option.bind_some]
    dsimp only
    rw [pn_succ]
end P73
