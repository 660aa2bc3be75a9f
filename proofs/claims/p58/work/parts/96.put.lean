/-! PURE: the law feeds its text, padded with blanks -/
section P96
variable {hp0 hp h : zHp} {a b c d r k n s sz z B0 mc ms uc us M x0 p u i : Nat} {ro : Nat → Nat} {xs : Nat → Int32} {l : List Nat} {ea : Int32} {T N I Bt : Nat → Int32} {σ : Nat → Nat} {Ps : Nat → Nat → Int32}
theorem q_pad (lk : List Nat) : [] ++ lk ++ lwS 8 = lk ++ [32] := by
  rw [show lwS 8 = [32] from rfl]
  rfl
set_option maxHeartbeats 1000000 in
theorem T_pad (TW0 : TW c ro s n xs hp0) (hB : c ≤ B0) (S0 : sS h r (r + 1) l) (q10 : r + 2 ≤ z) (q20 : B0 ≤ z) (F0 : ∀ i, i < B0 → h i = hp0 i) (hd0 : (l.length + d) % 20 = 0) (hd1 : ∀ i, i < d → ¬ (l.length + i) % 20 = 0) (hl : l.length + d ≤ 500) (hr : uc + 6 * d ≤ mc ∧ us + 3324 * d ≤ ms) (hM : d < M) :
    ∃ t : TS, (sS t.2.1 t.1 (t.1 + 1) (l ++ List.replicate d 32) ∧ t.1 + 2 ≤ t.2.2.1 ∧ B0 ≤ t.2.2.1 ∧ (∀ i, i < B0 → t.2.1 i = hp0 i) ∧ t.2.2.2.1 ≤ uc + 6 * d ∧ t.2.2.2.2 ≤ us + 3324 * d) ∧ ∀ K : Nat → zHp → Nat → Nat → Nat → Option (zHp × Nat), l_L_put_2 ro mc ms K x0 M r h z uc us = K t.1 t.2.1 t.2.2.1 t.2.2.2.1 t.2.2.2.2 := by
  obtain ⟨n0, n1, n2, n3, n4, n5, n6, n7, n8, n9, n10⟩ := lw_len
  refine zXK (L := fun K m i (t : TS) => l_L_put_2 ro mc ms K x0 m t.1 t.2.1 t.2.2.1 t.2.2.2.1 t.2.2.2.2) d (fun i (t : TS) => sS t.2.1 t.1 (t.1 + 1) (l ++ List.replicate i 32) ∧ t.1 + 2 ≤ t.2.2.1 ∧ B0 ≤ t.2.2.1 ∧ (∀ i, i < B0 → t.2.1 i = hp0 i) ∧ t.2.2.2.1 ≤ uc + 6 * i ∧ t.2.2.2.2 ≤ us + 3324 * i) (s0 := (r, h, z, uc, us)) ⟨by rw [show List.replicate 0 32 = ([] : List Nat) from rfl, List.append_nil]; exact S0, q10, q20, F0, by show uc ≤ uc + 6 * 0; omega, by show us ≤ us + 3324 * 0; omega⟩ (fun k t hk J => ?_) (K := fun K t => K t.1 t.2.1 t.2.2.1 t.2.2.2.1 t.2.2.2.2) (fun t J K m => ?_) hM
  · obtain ⟨r, h, z, uc1, us1⟩ := t
    obtain ⟨S, q1, q2, F, j2, j3⟩ := J
    dsimp only at S q1 q2 F j2 j3
    obtain ⟨lk, hlk0⟩ : ∃ lk, l ++ List.replicate k 32 = lk := ⟨_, rfl⟩
    have hlen : lk.length = l.length + k := by rw [← hlk0, List.length_append, List.length_replicate]
    rw [hlk0] at S
    have hne := hd1 k hk
    obtain ⟨h1, e1, X1, f1⟩ := X_new h z
    have F2 : ∀ i, i < B0 → h1 i = hp0 i := fun i hi => by rw [f1 i (by omega), F i hi]
    obtain ⟨h3, z3, t3, k3, e3, X3, g3, -, b3, f3⟩ := X_str (mc := 1) (ms := 1300) (sz := (z + 2)) X1 (by omega) (sS_fr S (f1 r (by omega)) (f1 (r + 1) (by omega))) (by simp only [List.length_append, List.length_nil, lw_len, nm_len]; omega) ⟨by omega, by omega, Or.inl ⟨by omega, by omega⟩⟩ (Or.inr ⟨Nat.le_refl _, by decide⟩)
    have F4 : ∀ i, i < B0 → h3 i = hp0 i := fun i hi => by rw [f3 i (by omega), F2 i hi]
    obtain ⟨q5, v5, w5, S5⟩ := T_c TW0 hB F4 (i := 8) (j := 25) (by decide) rfl
    obtain ⟨h6, z6, t6, k6, e6, X6, g6, -, b6, f6⟩ := X_str (mc := 1) (ms := 1300) (sz := z3) X3 (by omega) (r := ro 25) S5 (by simp only [List.length_append, List.length_nil, lw_len, nm_len]; omega) ⟨by omega, by omega, Or.inl ⟨by omega, by omega⟩⟩ (Or.inr ⟨Nat.le_refl _, by decide⟩)
    have F7 : ∀ i, i < B0 → h6 i = hp0 i := fun i hi => by rw [f6 i (by omega), F4 i hi]
    obtain ⟨h8, e8, S8, f8⟩ := X_toS (mc := 2) (ms := 704) (sz := z6) X6 (by omega) ⟨Nat.le_refl _, (by simp only [List.length_append, List.length_nil, lw_len, nm_len]; omega)⟩
    have F9 : ∀ i, i < B0 → h8 i = hp0 i := fun i hi => by rw [f8 i (by omega), F7 i hi]
    have ez : ¬ Int32.ofNat ((l.length + k) % 20) = 0 := by
      rw [pn_eq0 (by omega)]
      exact hne
    refine ⟨(z6, h8, (z6 + 2), (((((uc1 + 1) + 1) + 1) + 1) + 2), (((((us1 + 4) + 16) + 1300) + 1300) + 704)), ⟨?_, Nat.le_refl _, by show B0 ≤ (z6 + 2); omega, F9, by show (((((uc1 + 1) + 1) + 1) + 1) + 2) ≤ uc + 6 * (k + 1); omega, by show (((((us1 + 4) + 16) + 1300) + 1300) + 704) ≤ us + 3324 * (k + 1); omega⟩, fun K m => ?_⟩
    · rw [List.replicate_succ', ← List.append_assoc, hlk0, ← q_pad lk]
      exact S8
    · show l_L_put_2 ro mc ms K x0 (m + 1) r h z uc1 us1 = l_L_put_2 ro mc ms K x0 m z6 h8 (z6 + 2) (((((uc1 + 1) + 1) + 1) + 1) + 2) (((((us1 + 4) + 16) + 1300) + 1300) + 704)
      rw [l_L_put_2_s]
      unfold b_L_put_2
      rw [zchk_t ⟨by omega, by omega⟩, tx_len (sS_tx S) (sS_128 S), Option.bind_some, hlen, show zrem (Int32.ofNat (l.length + k)) 20 = some (Int32.ofNat ((l.length + k) % 20)) from zrem_n (by omega) (by decide) (by decide), Option.bind_some, if_neg ez]
      rw [zchk_t ⟨by omega, by omega⟩, zlet_eq, zchk_t ⟨by omega, by omega⟩, e1, zb2_some, zchk_t ⟨by omega, by omega⟩, e3, zb3_some]
      rw [zchk_t ⟨by omega, by omega⟩, e6, zb3_some, zchk_t ⟨by omega, by omega⟩, e8, zb3_some]
  · obtain ⟨r, h, z, uc1, us1⟩ := t
    obtain ⟨S, q1, q2, F, j2, j3⟩ := J
    dsimp only at S q1 q2 F j2 j3
    show l_L_put_2 ro mc ms K x0 (m + 1) r h z uc1 us1 = K r h z uc1 us1
    rw [l_L_put_2_s]
    unfold b_L_put_2
    rw [zchk_t ⟨by omega, by omega⟩, tx_len (sS_tx S) (sS_128 S), Option.bind_some, List.length_append, List.length_replicate, show zrem (Int32.ofNat (l.length + d)) 20 = some (Int32.ofNat ((l.length + d) % 20)) from zrem_n (by omega) (by decide) (by decide), Option.bind_some, hd0, if_pos (show Int32.ofNat 0 = 0 from rfl)]
/-- the word of four bytes, byte by byte -/
def pkP (f : Nat → Nat) : Nat → Int32
  | 0 => 0
  | t + 1 => pkP f t ||| (Int32.ofNat (f t) <<< (((24 : Int32) - ((8 : Int32) * Int32.ofNat t)) &&& 31))
theorem pkP_4 (f : Nat → Nat) : pkP f 4 = pk4 f := by
  show (((0 ||| (Int32.ofNat (f 0) <<< (((24 : Int32) - ((8 : Int32) * Int32.ofNat 0)) &&& 31))) ||| (Int32.ofNat (f 1) <<< (((24 : Int32) - ((8 : Int32) * Int32.ofNat 1)) &&& 31))) ||| (Int32.ofNat (f 2) <<< (((24 : Int32) - ((8 : Int32) * Int32.ofNat 2)) &&& 31))) ||| (Int32.ofNat (f 3) <<< (((24 : Int32) - ((8 : Int32) * Int32.ofNat 3)) &&& 31)) = _
  rw [show (((24 : Int32) - ((8 : Int32) * Int32.ofNat 0)) &&& 31) = 24 by decide, show (((24 : Int32) - ((8 : Int32) * Int32.ofNat 1)) &&& 31) = 16 by decide, show (((24 : Int32) - ((8 : Int32) * Int32.ofNat 2)) &&& 31) = 8 by decide, show (((24 : Int32) - ((8 : Int32) * Int32.ofNat 3)) &&& 31) = 0 by decide]
  rfl
def l4 (l : List Nat) (k j : Nat) : Nat → Nat := fun t => l.getD (k + (4 * j + t)) 0
/-- one row of twenty bytes -/
theorem T_row (S : sS h r (r + 1) l) (hr : r + 2 ≤ z) (hk : k + 20 ≤ l.length) (hc : uc ≤ mc ∧ us ≤ ms) (hz : h z = some (.inl (0, 5, .inl (fun _ => 0)))) (hM : 20 < M) :
    ∃ h', ((∀ a, a ≠ z → h' a = h a) ∧ ∃ f, h' z = some (.inl (0, 5, .inl f)) ∧ ∀ j, j < 5 → f j = pk4 (l4 l k j)) ∧ ∀ K : zHp → Nat → Nat → Nat → Option (zHp × Nat), l_L_put_53 ro mc ms K x0 r (Int32.ofNat k) z M 0 h sz uc us = K h' sz uc us := by
  have hl := S.2.2
  obtain ⟨h', ⟨fr, f, hf, hv⟩, e⟩ := zXK (L := fun (K : zHp → Nat → Nat → Nat → Option (zHp × Nat)) m i h => l_L_put_53 ro mc ms K x0 r (Int32.ofNat k) z m (Int32.ofNat i) h sz uc us) 20 (fun i h' => (∀ a, a ≠ z → h' a = h a) ∧ ∃ f, h' z = some (.inl (0, 5, .inl f)) ∧ ∀ j, j < 5 → f j = pkP (l4 l k j) (min 4 (i - 4 * j))) (s0 := h) ⟨fun _ _ => rfl, _, hz, fun j hj => by rw [show min 4 (0 - 4 * j) = 0 by omega]; rfl⟩ (fun i h1 hi ⟨fr, f, hf, hv⟩ => by
      have S1 := sS_fr S (h := h1) (fr r (by omega)) (fr (r + 1) (by omega))
      have hj : i / 4 < 5 := by omega
      have e1 : zdiv (Int32.ofNat i) 4 = some (Int32.ofNat (i / 4)) := by
        unfold zdiv
        rw [if_neg (by decide)]
        exact congrArg some (Int32.ofNat_div (by omega) (by decide)).symm
      have e2 : zrem (Int32.ofNat i) 4 = some (Int32.ofNat (i % 4)) := zrem_n (by omega) (by decide) (by decide)
      have rd : zaI h1 0 z (Int32.ofNat (i / 4)) = some (f (i / 4)) := pa_rd hf (Or.inl rfl) hj (by decide)
      have wr := fun x => pa_wr (x := x) hf hj (by decide)
      refine ⟨_, ⟨fun a ha => (zup_ne ha).trans (fr a ha), upd f (i / 4) (pkP (l4 l k (i / 4)) (i % 4 + 1)), zup_eq _ _ _, fun j hj => ?_⟩, fun K m => ?_⟩
      · rw [zU]
        by_cases ej : j = i / 4
        · rw [if_pos ej, ej, show min 4 (i + 1 - 4 * (i / 4)) = i % 4 + 1 by omega]
        · rw [if_neg ej, hv j hj]
          by_cases e3 : j < i / 4
          · rw [show min 4 (i - 4 * j) = 4 by omega, show min 4 (i + 1 - 4 * j) = 4 by omega]
          · rw [show min 4 (i - 4 * j) = 0 by omega, show min 4 (i + 1 - 4 * j) = 0 by omega]
      · have ef : f (i / 4) = pkP (l4 l k (i / 4)) (i % 4) := by rw [hv _ hj, show min 4 (i - 4 * (i / 4)) = i % 4 by omega]
        have eb : l.getD (k + i) 0 = l4 l k (i / 4) (i % 4) := by
          unfold l4
          rw [show k + (4 * (i / 4) + i % 4) = k + i by omega]
        have p20 : Int32.ofNat i < 20 := by
          rw [show (20 : Int32) = Int32.ofNat 20 from rfl, pn_lt (by omega) (by decide)]
          exact hi
        rw [l_L_put_53_s]
        unfold b_L_put_53
        rw [if_pos p20, e1, Option.bind_some, rd, Option.bind_some, zchk_t hc, ixa, tx_at (sS_tx S1) (sS_128 S1) (show k + i < l.length by omega), Option.bind_some, e2, Option.bind_some, ef, eb]
        rw [show pkP (l4 l k (i / 4)) (i % 4) ||| Int32.ofNat (l4 l k (i / 4) (i % 4)) <<< (((24 : Int32) - ((8 : Int32) * Int32.ofNat (i % 4))) &&& 31) = pkP (l4 l k (i / 4)) (i % 4 + 1) from rfl, wr, Option.bind_some, zlet_eq, pn_succ])
    (K := fun K h => K h sz uc us) (fun h1 ⟨fr, f, hf, hv⟩ K m => by
      rw [l_L_put_53_s]
      unfold b_L_put_53
      rw [if_neg (by decide)]) (m := M) hM
  exact ⟨h', ⟨fr, f, hf, fun j hj => by rw [hv j hj, show min 4 (20 - 4 * j) = 4 by omega]; exact pkP_4 _⟩, e⟩
theorem gv_pk (l : List Nat) (k : Nat) {q : Nat} (hq : q < 20) (h128 : ∀ j, l.getD j 0 < 128) : sx (bv (gv (pk4 (l4 l k 0)) (pk4 (l4 l k 1)) (pk4 (l4 l k 2)) (pk4 (l4 l k 3)) (pk4 (l4 l k 4))) q) = sxn (l.getD (k + q) 0) := by
  have eg : gv (pk4 (l4 l k 0)) (pk4 (l4 l k 1)) (pk4 (l4 l k 2)) (pk4 (l4 l k 3)) (pk4 (l4 l k 4)) (q / 4) = pk4 (l4 l k (q / 4)) := by
    rcases (show q / 4 = 0 ∨ q / 4 = 1 ∨ q / 4 = 2 ∨ q / 4 = 3 ∨ q / 4 = 4 by omega) with e | e | e | e | e <;> rw [e] <;> rfl
  unfold bv
  rw [sx_255, eg, pk4_sx (f := l4 l k (q / 4)) (fun t _ => h128 _) (Nat.mod_lt _ (by decide))]
  unfold sxn l4
  rw [show k + (4 * (q / 4) + q % 4) = k + q by omega]
end P96
