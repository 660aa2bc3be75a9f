/-! PURE: the law's hall -/
section P99
variable {hp0 hp h : zHp} {a b c r d k n s sz z B0 mc ms : Nat} {ro : Nat → Nat} {xs : Nat → Int32} {l m : List Nat} {D : Nat → Nat → Nat → Nat}
theorem TW_fr (TW0 : TW c ro s n xs hp) (F : ∀ a, a < c → h a = hp a) : TW c ro s n xs h :=
  ⟨fun i hi => txc_fr (TW0.1 i hi) F, T_d TW0 (Nat.le_refl _) F, T_s TW0 (Nat.le_refl _) F, TW0.2.2.2⟩
theorem L_statements (S : sS h r (r + 1) l) : f_L_statements r h = some (Int32.ofNat (n59 l)) := by
  have h500 := S.2.2
  have h59 : ∀ k, k ≤ l.length → n59 (l.take k) ≤ k := fun k hk => by
    induction k with
    | zero => exact Nat.le_refl _
    | succ k ih =>
      rw [n59_take l k (by omega)]
      have := ih (by omega)
      split <;> omega
  unfold f_L_statements
  generalize hM : (1000000 : Nat) = M
  obtain ⟨x, ⟨e1, e2⟩, e⟩ := zXK (L := fun (K : Int32 → Option Int32) m i (x : Int32) => l_L_statements_4 K r h m x (Int32.ofNat i)) l.length (fun i x => x = Int32.ofNat (n59 (l.take i)) ∧ True) (s0 := 0) ⟨rfl, trivial⟩ (fun i x hi ⟨ex, _⟩ => by
      have hc : ¬ n59 (l.take i) ≥ 2147483647 := by have := h59 i (by omega); omega
      refine ⟨_, ⟨rfl, trivial⟩, fun K m => ?_⟩
      rw [l_L_statements_4_s, n59_take l i hi, ex]
      unfold b_L_statements_4 j_L_statements_28
      rw [tx_len (sS_tx S) (sS_128 S), Option.bind_some, if_pos (by rw [pn_lt (by omega) (by omega)]; exact hi), tx_at (sS_tx S) (sS_128 S) hi, Option.bind_some]
      have hb := S.2.1 i hi
      have e59 : (Int32.ofNat (l.getD i 0) = 59) = (l.getD i 0 = 59) := pn_inj (n := 59) (by omega) (by decide)
      by_cases q : l.getD i 0 = 59
      · rw [if_pos (e59.mpr q), if_pos q, zlet_eq, zlet_eq, pn_succ, pn_succ]
      · rw [if_neg (fun e => q (e59.mp e)), if_neg q, zlet_eq, zlet_eq, pn_succ]
        exact congrArg (fun x => l_L_statements_4 K r h m x (Int32.ofNat (i + 1))) (ixa _ 0))
    (K := fun K x => K x) (fun x ⟨ex, _⟩ K m => by
      rw [l_L_statements_4_s]
      unfold b_L_statements_4
      rw [tx_len (sS_tx S) (sS_128 S), Option.bind_some, if_neg Int32.lt_irrefl]) (m := M) (by omega)
  rw [show l_L_statements_4 (fun p5 => some p5) r h M 0 0 = some x from e (fun p5 => some p5), e1, List.take_length]
theorem C_load2 {p u q L fl : Nat} {ea : Int32} {T N I Bt : Nat → Int32} {σ : Nat → Nat} {Ps : Nat → Nat → Int32} {β : Nat → Nat} {st' : PSt} (W : wW hp c p ea T N σ u Ps) (CL : wCL hp c p) (X2 : wIn hp (c + 2) I Bt) (h1 : I 1 = Int32.ofNat fl) (hfl : fl ≤ 900) (hL : L ≤ fl) (b : inBy Bt β L) (X4 : wSts hp c ro) (e : pAll β L 1000 st0 = .inr (q, st')) : ∃ h, f_X7_load ro c (Int32.ofNat L) hp = some (Int32.ofNat q, h) ∧ wW h c (oth c p) (-1) st'.1 st'.2.1 σ 0 Ps ∧ ∀ a, a < c ∨ c + 635 ≤ a → h a = hp a := by
  have C := C_load W CL X2 h1 hfl hL b X4
  rw [e] at C
  obtain ⟨h15, e15, W15, -, -, f15⟩ := C
  exact ⟨h15, e15, W15, f15⟩
set_option maxHeartbeats 1000000 in
/-- what the hall is when the law has made it -/
theorem L_hall (hn : n < 2147483648) (X4 : wSts hp c ro) (TW0 : TW c ro s n xs hp) :
    ∃ h z p T N σ Ps, f_L_hall ro 7000 900000 s hp c = some (c, h, z) ∧ c + 635 ≤ z ∧ wW h c p (-1) T N σ 0 Ps ∧ sG T N ∧ 0 < sN T 3 ∧ 0 < sN T 4 ∧ ∀ a, a < c → h a = hp a := by
  obtain ⟨D, o, hLF⟩ := sc_D s n xs hn
  obtain ⟨h4, e4, W4, CL4, X4', -, f4⟩ := I7 (hp := zup hp c (.inr (7, [.null, .null, .null, .null, .int 0]))) (c := c) (mc := 636) (ms := 8121) (Ps := fun _ _ => 0) (zup_eq _ _ _) (by decide) (by decide)
  have F4 : ∀ a, a < c → h4 a = hp a := fun a ha => (f4 a (by omega)).trans (zup_ne (by omega))
  obtain ⟨r, h7, z8, e7, ⟨S7, q1, q2, F7⟩⟩ := L_text (z := c + 637) (B0 := c + 637) (TW_fr TW0 F4) hLF o (by omega) (Nat.le_refl _) (fun _ _ => rfl)
  have TW7 : TW c ro s n xs h7 := TW_fr TW0 (fun a ha => (F7 a (by omega)).trans (F4 a ha))
  obtain ⟨sg, ee, L4⟩ := CL4.1
  have W7 : wW h7 c (c + 33) (-1) (fun _ => 0) N0 (fun i => i) 0 (fun _ _ => 0) := wW_fr W4 (fun a ha => F7 a (by omega))
  obtain ⟨h11, z12, fl, I, Bt, e11, g1, g2, g3, W11, i11, b11, F11⟩ := L_put (c0 := c) (B0 := z8) TW7 (by omega) (by omega) (fun _ _ => rfl) W7.1.1 (show wLd h7 c _ _ _ from (F7 (c + 1) (by omega)).trans L4) (show wIn h7 (c + 2) (fun _ => 0) (fun _ => 0) from ⟨(F7 (c + 2) (by omega)).trans X4'.1, (F7 (c + 2 + 1) (by omega)).trans X4'.2⟩) rfl S7 q1 (Nat.le_refl _)
  have W11' := wW_fr (h := h11) W7 (fun a ha => F11 a (by omega) (by omega) (by omega))
  have S11 : sS h11 r (r + 1) (tAll D) := sS_fr S7 (F11 r (by omega) (by omega) (by omega)) (F11 (r + 1) (by omega) (by omega) (by omega))
  have CL11 : wCL h11 c (c + 33) := by
    obtain ⟨R, P⟩ := CL4.2
    have ho : oth c (c + 33) = c + 4 := by unfold oth; rw [if_neg (by omega)]
    unfold wCL
    rw [ho] at P L4 ⊢
    refine ⟨⟨sg, ee, ?_⟩, R, wP_fr P (fun i i1 i2 => (F11 i (by omega) (by omega) (by omega)).trans (F7 i (by omega)))⟩
    unfold wLd
    rw [F11 (c + 1) (by omega) (by omega) (by omega), F7 (c + 1) (by omega)]
    exact L4
  have F11c : ∀ a, a < c → h11 a = hp a := fun a ha => (F11 a (by omega) (by omega) (by omega)).trans ((F7 a (by omega)).trans (F4 a ha))
  obtain ⟨β, hβ⟩ : ∃ β : Nat → Nat, ∀ j, β j = (tAll D).getD j 0 := ⟨_, fun _ => rfl⟩
  obtain ⟨st', ea, hv⟩ := all_ok (β := β) (L := (tAll D).length) o (rL_0 rfl (fun j _ => hβ j))
  have hby : inBy Bt β (tAll D).length := ⟨by omega, fun j hj => by
    rw [hβ]
    exact ⟨b11 j hj, Nat.lt_trans (S7.2.1 j hj) (by decide)⟩⟩
  obtain ⟨h15, e15, W15, f15⟩ := C_load2 W11' CL11 W11 i11 (by omega) g2 hby (sts_fr X4 F11c) ea
  have S15 : sS h15 r (r + 1) (tAll D) := sS_fr S11 (f15 r (by omega)) (f15 (r + 1) (by omega))
  obtain ⟨P, -⟩ := PI_all 1000 st0 st' _ PI_0 ea
  obtain ⟨-, p2, -, -, -, p6, p7⟩ := P
  refine ⟨h15, z12, oth c (c + 33), st'.1, st'.2.1, fun i => i, fun _ _ => 0, ?_, by omega, W15, fun b hb k hk => ?_, ?_, ?_, fun a ha => (f15 a (by omega)).trans (F11c a ha)⟩
  · unfold f_L_hall
    rw [zchk_t ⟨by decide, by decide⟩, zlet_eq, zchk_t ⟨by decide, by decide⟩, e4, zb2_some, zchk_t ⟨by decide, by decide⟩, e7, zb3_some, zchk_t ⟨by decide, by decide⟩, e11, zb2_some, tx_len (sS_tx S11) (sS_128 S11), Option.bind_some, e15, zb2_some, L_statements S15, Option.bind_some, (tAll_59 o).2, if_pos rfl]
  · exfalso
    have : sC st'.2.1 b = 0 := by
      unfold sC
      rw [p2 b (by omega)]
      rfl
    omega
  · rw [hv 3 (by decide)]
    exact o.2.2.2.1.1
  · rw [hv 4 (by decide)]
    exact o.2.2.2.2.1.1
end P99
