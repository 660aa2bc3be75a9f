/-! PURE: the class's write, whole; outputAt -/
section P74
variable {hp h hp' : zHp} {a bs cap cnt sz mc ms k r c p s i w B0 u : Nat} {ro : Nat → Nat} {W W' f F0 F T N : Nat → Int32} {v ea : Int32} {l m : List Nat} {σ : Nat → Nat} {Ps : Nat → Nat → Int32}
theorem wDT_fB (D : wDT hp ro) (hro : ro 30 < c ∧ ro 31 < c) (hB : c + 636 < B0) (f : fB B0 (c + 635) hp h) : wDT h ro := by
  obtain ⟨⟨t1, t2, t3⟩, t4, t5, t6⟩ := D
  exact ⟨⟨t1, by rw [f _ (by omega) (by omega) (by omega)]; exact t2, t3⟩, t4, by rw [f _ (by omega) (by omega) (by omega)]; exact t5, t6⟩
theorem C_writeBad (X : wW hp c p ea T N σ u Ps) (y : Int32) (hy : inr y (sN T 2) = false) : f_X7_write ro 23 11300 c y hp sz = some none := by
  unfold f_X7_write
  rw [k_is X.1, Option.bind_some]
  unfold zchk
  rw [if_pos ⟨by omega, by omega⟩, k_dem2 X.1, hy, if_neg (by decide)]
  rfl
theorem b_Ex : l128 wEx := l128_of (by decide) (by decide)
theorem C_write (X : wW hp c p ea T N σ u Ps) (Y : sbC B0 hp (c + 635) sz cap l) (hl : l.length ≤ 68) (D : wDT hp ro) (hro : ro 30 < c ∧ ro 31 < c) (hB : c + 636 < B0) (Z : wTxc hp c (ro 17) wEx) (hw : w < sN T 2) : ∃ h sz' cap', f_X7_write ro 23 11300 c (Int32.ofNat w) hp sz = some (some (Int32.ofNat (wrL T N w).length, h, sz')) ∧ wW h c p ea T N σ u Ps ∧ sbC B0 h (c + 635) sz' cap' (wrL T N w) ∧ sz ≤ sz' ∧ fB B0 (c + 635) hp h := by
  have K := X.1
  have I := hh_I K.2
  have h05 := sI_0 I
  have h26 := sI_2 I
  -- empty
  have Y' := Y
  obtain ⟨bs, Y1, y2, y3, y4, y5, y6, y7⟩ := Y'
  obtain ⟨h1, e1, Z1, f1'⟩ := B_set0 (sz := sz) Y1 (by omega) (by omega) (by omega)
  have f1 : fB B0 (c + 635) hp h1 := fun i _ h2 _ => f1' i h2
  have V1 : sbC B0 h1 (c + 635) sz cap [] := ⟨bs, wSB_W Z1 (fun j hj => absurd hj (Nat.not_lt_zero j)), y2, y3, y4, y5, y6, fun j hj => absurd hj (Nat.not_lt_zero j)⟩
  have X1 := wW_fB X f1 hB
  have n1 := nd_b (cap := cap) (len := ([] : List Nat).length) (k := 6) y4.2 (Nat.zero_le _) (by omega)
  -- the name
  obtain ⟨h2, sz2, cap2, e2, V2, s2, f2⟩ := C_name X1 V1 (by show 0 + 6 ≤ 80; omega) (s := 2) (i := w) (by decide) hw (y := 2) rfl
  have X2 := wW_fB X1 f2 hB
  have V2' : sbC B0 h2 (c + 635) sz2 cap2 (nmL (T (15 + w)) 6 ++ wrP T N (Int32.ofNat w) 0) := by
    show sbC B0 h2 (c + 635) sz2 cap2 (nmL (T (15 + w)) 6 ++ [])
    rw [List.append_nil]
    have V3 := V2
    rw [List.nil_append] at V3
    exact V3
  generalize hKK : (fun (h35 : zHp) (z36 c37 u38 : Nat) => (zgR h35 c 7 1).bind fun r39 => zchk (c37 ≤ 23 ∧ u38 ≤ 11300) <| (f_X1_isWardDeclared r39 (Int32.ofNat w) h35).bind fun v41 => if v41 = 0 then (j_X7_write_109 ro 23 11300 c h35 z36 c37 u38) else (zgR h35 c 7 3).bind fun r45 => zchk (c37 + (zneed h35 r45 2).1 ≤ 23 ∧ u38 + (zneed h35 r45 2).2 ≤ 11300) <| zb3 (f_J4_append_15ec4 (zneed h35 r45 2).1 (zneed h35 r45 2).2 r45 (ro 17) h35 z36) fun r49 h47 z48 => j_X7_write_109 ro 23 11300 c h47 z48 ((c37 + (zneed h35 r45 2).1)) ((u38 + (zneed h35 r45 2).2))) = KK
  have D2 := wDT_fB D hro hB (fB_tr f1 f2)
  obtain ⟨MM, hMM⟩ : ∃ MM : Nat, MM = 1000000 := ⟨_, rfl⟩
  obtain ⟨h3, sz3, uc3, us3, cap3, e3, X3, D3, V3, s3, f3, b1, b2⟩ := C_parties hB hro (KK := KK) (nmL_len (T (15 + w)) 6) (sN T 0) 0 MM h2 sz2 (0 + 1 + 0 + (nd cap 0 6).1) (0 + 6 + 0 + (nd cap 0 6).2) cap2 (by omega) (by omega) X2 D2 V2' (by have := n1.1; change (nd cap 0 6).1 ≤ 1 at this; omega) (by have := n1.2; change (nd cap 0 6).2 ≤ 413 at this; omega)
  have pre : f_X7_write ro 23 11300 c (Int32.ofNat w) hp sz = KK h3 sz3 uc3 us3 := by
    rw [← e3]
    unfold f_X7_write
    rw [← hMM, k_is K, Option.bind_some]
    unfold zchk
    rw [if_pos ⟨by omega, by omega⟩, k_dem2 K, inr_T hw (by omega), if_pos rfl]
    unfold zbx
    rw [Option.bind_some]
    dsimp only
    rw [k_sb K, Option.bind_some, if_pos ⟨by omega, by omega⟩, e1, zb2_some, zneedW_c (k_sb X1.1), sbC_need V1 (by show 0 ≤ 100; omega)]
    show (if 0 + 1 + 0 + (nd cap 0 6).1 ≤ 23 ∧ 0 + 6 + 0 + (nd cap 0 6).2 ≤ 11300 then _ else none) = _
    have q1 : (nd cap 0 6).1 ≤ 1 := n1.1
    have q2 : (nd cap 0 6).2 ≤ 413 := n1.2
    rw [if_pos ⟨by omega, by omega⟩, show f_X7_writeName (nd cap ([] : List Nat).length 6).1 (nd cap ([] : List Nat).length 6).2 c 2 (Int32.ofNat w) h1 sz = some (h2, sz2) from e2, zb2_some, ← hKK]
    rfl
  rw [pre, ← hKK]
  have K3 := X3.1
  dsimp only
  rw [k_hl K3, Option.bind_some]
  unfold zchk
  rw [if_pos ⟨by omega, by omega⟩, H_decl K3.2, Option.bind_some]
  have f03 := fB_tr f1 (fB_tr f2 f3)
  have fin : ∀ {h : zHp} {z : Nat} {cp : Nat} {ll : List Nat} {uc us : Nat}, wW h c p ea T N σ u Ps → sbC B0 h (c + 635) z cp ll → uc ≤ 23 → us ≤ 11300 → j_X7_write_109 ro 23 11300 c h z uc us = some (some (Int32.ofNat ll.length, h, z)) := fun {h z cp ll uc us} XX VV q1 q2 => by
    obtain ⟨bb, VV1, -⟩ := VV
    unfold j_X7_write_109
    rw [k_sb XX.1, Option.bind_some]
    unfold zchk
    rw [if_pos ⟨q1, q2⟩, B_length VV1, Option.bind_some]
  by_cases hd : sDecl N (Int32.ofNat w) = true
  · have hlen : (nmL (T (15 + w)) 6 ++ wrP T N (Int32.ofNat w) (sN T 0)).length ≤ 66 := by
      have h1 := wrP_len T N (Int32.ofNat w) (sN T 0)
      have h2 := nmL_len (T (15 + w)) 6
      rw [List.length_append]
      omega
    have n3 := nd_b (cap := cap3) (len := (nmL (T (15 + w)) 6 ++ wrP T N (Int32.ofNat w) (sN T 0)).length) (k := 2) (sbC_cap V3).2.2 (by omega) (by omega)
    have Z3 : wTxc h3 c (ro 17) wEx := txc_fr Z (fun a ha => f03 a (by omega) (by omega) (by omega))
    obtain ⟨zr, zv, zf, zv1, zh1, zh2, zh3⟩ := Z3
    obtain ⟨h4, sz4, e4, V4, s4, f4⟩ := A_str V3 (r := ro 17) (m := wEx) ⟨zv, zf, zh1, zh2, zh3⟩ b_Ex (by show _ + 2 ≤ 80; omega) (by decide) ⟨by omega, by omega⟩ (fun v' hv' => by
      rw [po_R zh1 (rfl : ([.ref zv, .int 0] : List Value)[0]? = some (.ref zv))] at hv'
      injection hv' with hv'
      omega) (mc := (nd cap3 (nmL (T (15 + w)) 6 ++ wrP T N (Int32.ofNat w) (sN T 0)).length 2).1) (ms := (nd cap3 (nmL (T (15 + w)) 6 ++ wrP T N (Int32.ofNat w) (sN T 0)).length 2).2) (Nat.le_refl _) (Nat.le_refl _)
    have X4 := wW_fB X3 f4 hB
    have ew : wrL T N w = (nmL (T (15 + w)) 6 ++ wrP T N (Int32.ofNat w) (sN T 0)) ++ wEx := by unfold wrL; rw [if_pos hd]; rfl
    refine ⟨h4, sz4, _, ?_, X4, by rw [ew]; exact V4, by omega, fB_tr f03 f4⟩
    rw [hd, if_neg (by decide), k_sb K3, Option.bind_some, sbC_need V3 (by omega), if_pos ⟨by omega, by omega⟩, e4]
    unfold zb3
    rw [Option.bind_some]
    dsimp only
    rw [fin X4 V4 (by omega) (by omega), ew]
  · have hd' : sDecl N (Int32.ofNat w) = false := by simpa using hd
    have ew : wrL T N w = nmL (T (15 + w)) 6 ++ wrP T N (Int32.ofNat w) (sN T 0) := by unfold wrL; rw [if_neg hd, List.append_nil]
    refine ⟨h3, sz3, cap3, ?_, X3, by rw [ew]; exact V3, by omega, f03⟩
    rw [hd', if_pos (show zb false = 0 from rfl), fin X3 V3 (by omega) (by omega), ew]
/-- a byte of the content, -1 behind it -/
def outAt (l : List Nat) (y : Int32) : Int32 := if inr y l.length = true then lW l y.toNatClampNeg else -1
theorem C_outputAt (X : wW hp c p ea T N σ u Ps) (Y : sbC B0 hp (c + 635) sz cap l) (hl : l.length ≤ 68) (y : Int32) : f_X7_outputAt c y hp = some (outAt l y) := by
  have K := X.1
  obtain ⟨bs, Y1, y2, y3, y4, y5, y6, y7⟩ := Y
  unfold f_X7_outputAt outAt
  rw [k_is K, Option.bind_some]
  by_cases q : y < 0
  · have e : inr y l.length = false := by
      cases hq : inr y l.length with
      | false => rfl
      | true =>
        exfalso
        unfold inr at hq
        simp [q] at hq
    rw [if_pos q, e, if_neg (by decide)]
  · rw [if_neg q, k_sb K, Option.bind_some, B_length Y1, Option.bind_some]
    obtain ⟨n, hn, hn2⟩ := pn_pos q
    subst hn
    rw [pn_nat hn2]
    by_cases c1 : n < l.length
    · rw [if_pos (by rw [pn_lt hn2 (by omega)]; exact c1), inr_T c1 (by omega), if_pos rfl, Option.bind_some, B_at Y1 (by omega) c1 (n := l.getD n 0) rfl (y7 n c1), Option.bind_some]
      rfl
    · have e : inr (Int32.ofNat n) l.length = false := by
        cases hq : inr (Int32.ofNat n) l.length with
        | false => rfl
        | true =>
          exfalso
          unfold inr at hq
          simp [pn_lt hn2 (show l.length < 2147483648 by omega)] at hq
          omega
      rw [if_neg (by rw [pn_lt hn2 (by omega)]; exact c1), e, if_neg (by decide)]
end P74
