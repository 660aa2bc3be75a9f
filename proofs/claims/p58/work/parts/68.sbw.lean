/-! PURE: the StringBuilder's writes -/
section P68
variable {hp h hp' : zHp} {a bs cap cnt sz mc ms k r : Nat} {W W' : Nat → Int32} {v : Int32}
theorem B_put (X : wSB hp a bs cap cnt W) (hab : a ≠ bs) (h1 : cnt < cap) {n : Nat} (hn : n < 128) : ∃ h h', zpV hp a 9 3 (.int (Int32.ofNat cnt + 1)) = some h ∧ zsB h bs (Int32.ofNat cnt) ((Int32.ofNat n).toInt8.toInt32) = some h' ∧ wSB h' a bs cap (cnt + 1) (upd W cnt (Int32.ofNat n)) ∧ (cap < 2147483648 → ∀ i, i ≠ a → i ≠ bs → h' i = hp i) ∨ 2147483648 ≤ cap := by
  by_cases hcap : cap < 2147483648
  · obtain ⟨⟨m, X1⟩, f, X2, X3, X4, X5⟩ := X
    have e1 := po_V X1 (show 3 < 4 by decide) (.int (Int32.ofNat cnt + 1))
    have Y2 : zup hp a (.inr (9, [.ref bs, .int 0, .int m, .int (Int32.ofNat cnt + 1)])) bs = some (.inl (1, cap, .inl f)) := by rw [zup_ne (by omega)]; exact X2
    have e2 := pa_wrB Y2 h1 hcap ((Int32.ofNat n).toInt8.toInt32)
    rw [i8_lo hn] at e2
    rw [i8_lo hn] at e2
    refine ⟨_, _, Or.inl ⟨e1, by rw [i8_lo hn]; exact e2, ⟨⟨m, ?_⟩, _, zup_eq _ _ _, h1, fun j hj => ?_, fun j hj => ?_⟩, fun _ i h1 h2 => by rw [zup_ne h2, zup_ne h1]⟩⟩
    · rw [zup_ne (by omega), zup_eq, pn_succ]
    · rw [zU, zU]
      by_cases e : j = cnt
      · rw [if_pos e, if_pos e]
      · rw [if_neg e, if_neg e]; exact X4 j (by omega)
    · rw [zU]
      by_cases e : j = cnt
      · rw [if_pos e, ← i8_lo hn]; exact bfit_i8 _
      · rw [if_neg e]; exact X5 j hj
  · exact ⟨hp, hp, Or.inr (by omega)⟩
theorem B_lat (X : wSB hp a bs cap cnt W) : f_J5_isLatin1_aae02 a hp = some 1 := by
  simp only [f_J5_isLatin1_aae02, sb_is X, sb_co X, show ¬ (1 : Int32) = 0 by decide, if_false, if_true, Option.bind_some]
theorem grown_ab {bs' cap' sz' : Nat} (g : grown cap cnt k sz bs bs' cap' sz') (ha : a < sz) (hab : a ≠ bs) : a ≠ bs' := by
  rcases g with ⟨-, e, -⟩ | ⟨-, e, -⟩ <;> omega
theorem grown_cap {bs' cap' sz' : Nat} (g : grown cap cnt k sz bs bs' cap' sz') : cnt + k ≤ cap' := by
  rcases g with ⟨h, -, e, -⟩ | ⟨h, -, e, -⟩ <;> omega
theorem B_app (X : wSB hp a bs cap cnt W) (hc : cnt ≤ 1000) (hcap : cap ≤ 3000) (ha : a < sz) (hb : bs < sz) (hab : a ≠ bs) (hm : cnt + 1 ≤ cap ∨ (1 ≤ mc ∧ (2 * cap + 2 ≤ ms ∧ cnt + 1 ≤ ms))) {n : Nat} (hn : n < 128) : ∃ h bs' cap' sz', f_J4_append_cf468 mc ms a (Int32.ofNat n) hp sz = some (a, h, sz') ∧ wSB h a bs' cap' (cnt + 1) (upd W cnt (Int32.ofNat n)) ∧ grown cap cnt 1 sz bs bs' cap' sz' ∧ ∀ i, i < sz → i ≠ a → i ≠ bs → h i = hp i := by
  obtain ⟨h1, bs', cap', sz', e1, X1, g1, f1⟩ := B_ens X (k := 1) (mc := mc) (ms := ms) (by decide) hc hcap ha hb hab hm
  have hc' := grown_cap g1
  have hcl : cap' ≤ 9000 := by rcases g1 with ⟨h, -, e, -⟩ | ⟨h, -, e, -⟩ <;> omega
  obtain ⟨h2, h3, Q⟩ := B_put X1 (grown_ab g1 ha hab) (by omega) hn
  obtain ⟨e2, e3, X3, f3⟩ := Q.resolve_right (by omega)
  refine ⟨h3, bs', cap', sz', ?_, X3, g1, fun i hi hia hib => ?_⟩
  · have ce : f_J1_canEncode_fc78d (Int32.ofNat n) h1 = some 1 := by
      unfold f_J1_canEncode_fc78d
      rw [if_neg (by rw [show (255 : Int32) = Int32.ofNat 255 from rfl, pn_lt (by decide) (by omega)]; omega)]
    have z0 : zchk (0 + mc ≤ mc ∧ 0 + ms ≤ ms) = fun (k : Option (Nat × zHp × Nat)) => k := by
      funext k
      unfold zchk
      rw [if_pos ⟨by omega, by omega⟩]
    simp only [f_J4_append_cf468, f_J5_append_3fe6f, sb_is X, sb_n X, z0, pn_succ, e1, zb2_some, B_lat X1, show ¬ (1 : Int32) = 0 by decide, if_false, ce, sb_v X1, sb_n X1, Option.bind_some]
    rw [pn_succ] at e2
    simp only [e2, e3, Option.bind_some]
    rfl
  · have hbs : i ≠ bs' := by rcases g1 with ⟨-, e, -⟩ | ⟨-, e, -⟩ <;> omega
    rw [f3 (by omega) i hia hbs, f1 i hi hia]
theorem B_length (X : wSB hp a bs cap cnt W) : f_J4_length_8abf5 a hp = some (Int32.ofNat cnt) := by
  simp only [f_J4_length_8abf5, f_J5_length_8abf5, sb_is X, sb_n X, Option.bind_some]
/-- a text is appended -/
theorem B_str (X : wSB hp a bs cap cnt W) (hc : cnt ≤ 1000) (hcap : cap ≤ 3000) (ha : a < sz) (hb : bs < sz) (hab : a ≠ bs) {l : List Nat} (T : wTx hp r l) (bl : l128 l) (hl : l.length ≤ 1000) (hr : r < sz ∧ r ≠ a) (hv : ∀ v, zgR hp r 20 0 = some v → v < sz ∧ v ≠ a ∧ v ≠ bs) (hm : cnt + l.length ≤ cap ∨ (1 ≤ mc ∧ (2 * cap + 2 ≤ ms ∧ cnt + l.length ≤ ms))) : ∃ h bs' cap' sz', f_J4_append_15ec4 mc ms a r hp sz = some (a, h, sz') ∧ wSB h a bs' cap' (cnt + l.length) (fun j => if j < cnt then W j else Int32.ofNat (l.getD (j - cnt) 0)) ∧ grown cap cnt l.length sz bs bs' cap' sz' ∧ ∀ i, i < sz → i ≠ a → i ≠ bs → h i = hp i := by
  obtain ⟨h1, bs', cap', sz', e1, X1, g1, f1⟩ := B_ens X (k := l.length) (mc := mc) (ms := ms) hl hc hcap ha hb hab hm
  have hc' := grown_cap g1
  have hcl : cap' ≤ 9000 := by rcases g1 with ⟨h, -, e, -⟩ | ⟨h, -, e, -⟩ <;> omega
  have hab' := grown_ab g1 ha hab
  have T' := T
  obtain ⟨v, t, t1, t2, t3⟩ := T
  obtain ⟨hv1, hv2, hv3⟩ := hv v (po_R t1 rfl)
  have s1 : h1 r = some (.inr (20, [.ref v, .int 0])) := by rw [f1 r hr.1 hr.2]; exact t1
  obtain ⟨tg, htg, t2⟩ : ∃ tg, (tg = 1 ∨ tg = 11) ∧ hp v = some (.inl (tg, l.length, .inl t)) := by
    rcases t2 with t2 | t2
    · exact ⟨11, Or.inr rfl, t2⟩
    · exact ⟨1, Or.inl rfl, t2⟩
  have s2 : h1 v = some (.inl (tg, l.length, .inl t)) := by rw [f1 v hv1 hv2]; exact t2
  have X1' := X1
  obtain ⟨⟨m, Y1⟩, f, Y2, Y3, Y4, Y5⟩ := X1'
  have vb : v ≠ bs' := by rcases g1 with ⟨-, e, -⟩ | ⟨-, e, -⟩ <;> omega
  have hf : ∀ i, i < l.length → t i = Int32.ofNat (l.getD i 0) ∧ bfit (t i) := fun i hi => ⟨t3 i hi, by rw [t3 i hi, ← i8_lo (bl.2 i hi)]; exact bfit_i8 _⟩
  obtain ⟨h2, eh2⟩ : ∃ h2, zup h1 bs' (.inl (1, cap', .inl (va_cpy t f 0 cnt l.length))) = h2 := ⟨_, rfl⟩
  have gb : zcpB h1 v 0 bs' (Int32.ofNat cnt) (Int32.ofNat l.length) = some h2 := by
    unfold zcpB
    rw [s2, Y2]
    dsimp only
    rw [pn_nat (by omega), pn_nat (by omega), if_pos ⟨htg, rfl, by decide, pn_neg (by omega), pn_neg (by omega), by show 0 + l.length ≤ l.length; omega, hc', fun i hi => by show fits .byte (.int (t (0 + i))) = true; rw [Nat.zero_add]; exact (hf i hi).2⟩, ← eh2]
    rfl
  have ps : f_J5_putStringAt_47b60 a (Int32.ofNat cnt) r h1 = some h2 := by
    have lv : zlen h1 1 v = some (Int32.ofNat l.length) := by
      unfold zlen
      rw [s2]
      exact if_pos (by omega)
    simp only [f_J5_putStringAt_47b60, f_J5_inflateIfNeededFor_a7421, f_J0_getBytes_840e7, sb_is X1, sb_co X1, sb_v X1, show ¬ (1 : Int32) = 0 by decide, if_false, tx_coder s1, if_true, po_is s1, show zgR h1 r 20 0 = some v from po_R s1 rfl, lv, shl0, gb, Option.bind_some]
  have Z1 : h2 a = some (.inr (9, [.ref bs', .int 0, .int m, .int (Int32.ofNat cnt)])) := by rw [← eh2, zup_ne hab']; exact Y1
  have e3 := po_V Z1 (show 3 < 4 by decide) (.int (Int32.ofNat (cnt + l.length)))
  refine ⟨zup h2 a (.inr (9, [.ref bs', .int 0, .int m, .int (Int32.ofNat (cnt + l.length))])), bs', cap', sz', ?_, ⟨⟨m, zup_eq _ _ _⟩, va_cpy t f 0 cnt l.length, ?_, hc', fun j hj => ?_, fun j hj => ?_⟩, g1, fun i hi hia hib => ?_⟩
  · have z0 : zchk (0 + mc ≤ mc ∧ 0 + ms ≤ ms) = fun (k : Option (Nat × zHp × Nat)) => k := by
      funext k
      unfold zchk
      rw [if_pos ⟨by omega, by omega⟩]
    simp only [f_J4_append_15ec4, f_J5_append_cf1ce, sb_is X, sb_n X, tx_len T' bl, z0, ixa, e1, zb2_some, sb_n X1, ps, show zgI h2 a 9 3 = some (Int32.ofNat cnt) from po_I Z1 rfl, e3, Option.bind_some]
    rfl
  · rw [zup_ne (fun q => hab' q.symm), ← eh2]; exact zup_eq _ _ _
  · unfold va_cpy
    dsimp only
    by_cases q : j < cnt
    · rw [if_neg (by omega), if_pos q]; exact Y4 j q
    · rw [if_pos ⟨by omega, by omega⟩, if_neg q, show 0 + (j - cnt) = j - cnt by omega]
      exact t3 _ (by omega)
  · unfold va_cpy
    by_cases q : cnt ≤ j ∧ j < cnt + l.length
    · rw [if_pos q, show 0 + (j - cnt) = j - cnt by omega]
      exact (hf _ (by omega)).2
    · rw [if_neg q]; exact Y5 j hj
  · have hbs : i ≠ bs' := by rcases g1 with ⟨-, e, -⟩ | ⟨-, e, -⟩ <;> omega
    rw [zup_ne hia, ← eh2, zup_ne hbs, f1 i hi hia]
end P68

