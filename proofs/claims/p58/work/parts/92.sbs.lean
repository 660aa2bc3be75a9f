/-! PURE: Strings that the law makes -/
section P92
variable {hp h hp' : zHp} {a b c r v k n s sz z top cap mc ms : Nat} {ro : Nat → Nat} {l m w : List Nat}
def lW (l : List Nat) : Nat → Int32 := fun j => Int32.ofNat (l.getD j 0)
/-- a StringBuilder of the law's at a, all of it below top -/
def sX (hp : zHp) (a top cap : Nat) (l : List Nat) : Prop := ∃ bs, wSB hp a bs cap l.length (lW l) ∧ a < bs ∧ bs < top ∧ (16 ≤ cap ∧ cap ≤ 1002) ∧ (∀ j, j < l.length → l.getD j 0 < 128) ∧ l.length ≤ 500
/-- a String at r, its bytes at v -/
def sS (hp : zHp) (r v : Nat) (l : List Nat) : Prop := (hp r = some (.inr (20, [.ref v, .int 0])) ∧ ∃ f : Nat → Int32, (hp v = some (.inl (11, l.length, .inl f)) ∨ hp v = some (.inl (1, l.length, .inl f))) ∧ ∀ k, k < l.length → f k = Int32.ofNat (l.getD k 0)) ∧ (∀ j, j < l.length → l.getD j 0 < 128) ∧ l.length ≤ 500
theorem sS_tx (S : sS hp r v l) : wTx hp r l := let ⟨⟨h1, f, h2, h3⟩, _⟩ := S; ⟨v, f, h1, h2, h3⟩
theorem sS_128 (S : sS hp r v l) : l128 l := ⟨by have := S.2.2; omega, S.2.1⟩
theorem sS_fr (S : sS hp r v l) (h1 : h r = hp r) (h2 : h v = hp v) : sS h r v l := by
  obtain ⟨⟨e1, f, e2, e3⟩, e4⟩ := S
  exact ⟨⟨by rw [h1]; exact e1, f, by rw [h2]; exact e2, e3⟩, e4⟩
theorem sS_c (X : wTxc hp c r l) (b : l128 l) (hl : l.length ≤ 500) : r < c ∧ ∃ v, v < c ∧ sS hp r v l := by
  obtain ⟨h0, v, f, hv, h1, h2, h3⟩ := X
  exact ⟨h0, v, hv, ⟨h1, f, Or.inl h2, h3⟩, b.2, hl⟩
theorem X_fr (X : sX hp a top cap l) (f : ∀ i, a ≤ i → i < top → h i = hp i) : sX h a top cap l := by
  obtain ⟨bs, ⟨⟨m, x1⟩, g, x2, x3⟩, x4, x5, x6⟩ := X
  exact ⟨bs, ⟨⟨m, by rw [f a (by omega) (by omega)]; exact x1⟩, g, by rw [f bs (by omega) (by omega)]; exact x2, x3⟩, x4, x5, x6⟩
theorem wSB_W {bs cnt : Nat} {W W' : Nat → Int32} (X : wSB hp a bs cap cnt W) (e : ∀ j, j < cnt → W j = W' j) : wSB hp a bs cap cnt W' := by
  obtain ⟨x1, f, x2, x3, x4, x5⟩ := X
  exact ⟨x1, f, x2, x3, fun j hj => by rw [x4 j hj, e j hj], x5⟩
theorem X_new (hp : zHp) (sz : Nat) : ∃ h, f_J4_init_da8c8 1 16 sz (zup hp sz (.inr (9, [.null, .int 0, .int 0, .int 0]))) (sz + 1) = some (h, sz + 2) ∧ sX h sz (sz + 2) 16 [] ∧ ∀ i, i < sz → h i = hp i := by
  obtain ⟨h, e, X, f⟩ := I9 (hp := zup hp sz (.inr (9, [.null, .int 0, .int 0, .int 0]))) (a := sz) (zup_eq _ _ _)
  exact ⟨h, e, ⟨sz + 1, wSB_W X (fun j hj => absurd hj (Nat.not_lt_zero j)), by omega, by omega, by omega, fun j hj => absurd hj (Nat.not_lt_zero j), Nat.zero_le _⟩, fun i hi => by rw [f i (by omega), zup_ne (by omega)]⟩
/-- what an append leaves -/
theorem X_of (X : sX hp a top cap l) (ht : top ≤ sz) (hm : ∀ j, j < m.length → m.getD j 0 < 128) (hl : l.length + m.length ≤ 500) {bs bs' cap' sz' : Nat} {W' : Nat → Int32} (hbs : a < bs ∧ bs < top) (Y : wSB h a bs' cap' (l.length + m.length) W') (hw : ∀ j, j < l.length + m.length → W' j = if j < l.length then lW l j else Int32.ofNat (m.getD (j - l.length) 0)) (g : grown cap l.length m.length sz bs bs' cap' sz') : sX h a (if sz' = sz then top else sz') cap' (l ++ m) ∧ (l.length + m.length ≤ cap → cap' = cap) ∧ sz ≤ sz' ∧ sz' ≤ sz + 1 := by
  obtain ⟨bs0, X1, x2, x3, x4, x5, x6⟩ := X
  have hc : 16 ≤ cap' ∧ cap' ≤ 1002 := by rcases g with ⟨g1, -, g2, -⟩ | ⟨g1, -, g2, -⟩ <;> omega
  refine ⟨⟨bs', ?_, ?_, ?_, hc, fun j hj => ?_, by rw [List.length_append]; exact hl⟩, fun q => ?_, ?_, ?_⟩
  · rw [List.length_append]
    refine wSB_W Y (fun j hj => ?_)
    rw [hw j hj]
    show _ = Int32.ofNat ((l ++ m).getD j 0)
    rw [getD_app2]
    by_cases q : j < l.length
    · rw [if_pos q, if_pos q]; rfl
    · rw [if_neg q, if_neg q]
  · rcases g with ⟨-, g1, -, g2⟩ | ⟨-, g1, -, g2⟩ <;> omega
  · rcases g with ⟨-, g1, -, g2⟩ | ⟨-, g1, -, g2⟩
    · rw [if_pos g2]; omega
    · rw [if_neg (by omega)]; omega
  · rw [List.length_append] at hj
    rw [getD_app2]
    by_cases q : j < l.length
    · rw [if_pos q]; exact x5 j q
    · rw [if_neg q]; exact hm _ (by omega)
  · rcases g with ⟨-, -, g2, -⟩ | ⟨g1, -, -, -⟩
    · exact g2
    · omega
  · rcases g with ⟨-, -, -, g2⟩ | ⟨-, -, -, g2⟩ <;> omega
  · rcases g with ⟨-, -, -, g2⟩ | ⟨-, -, -, g2⟩ <;> omega
theorem X_room (X : sX hp a top cap l) (hm : l.length + k ≤ cap ∨ (1 ≤ mc ∧ 1002 ≤ ms)) (hl : l.length + k ≤ 500) : l.length + k ≤ cap ∨ (1 ≤ mc ∧ (2 * cap + 2 ≤ ms ∧ l.length + k ≤ ms)) := by
  by_cases q : l.length + k ≤ cap
  · exact Or.inl q
  · exact Or.inr (by omega)
theorem X_str (X : sX hp a top cap l) (ht : top ≤ sz) (S : sS hp r v m) (hl : l.length + m.length ≤ 500) (hr : r < sz ∧ v < sz ∧ ((r < a ∧ v < a) ∨ (top ≤ r ∧ top ≤ v))) (hm : l.length + m.length ≤ cap ∨ (1 ≤ mc ∧ 1002 ≤ ms)) :
    ∃ h sz' top' cap', f_J4_append_15ec4 mc ms a r hp sz = some (a, h, sz') ∧ sX h a top' cap' (l ++ m) ∧ top' ≤ sz' ∧ (l.length + m.length ≤ cap → cap' = cap) ∧ (sz ≤ sz' ∧ sz' ≤ sz + 1) ∧ ∀ i, i < a → h i = hp i := by
  have X' := X
  obtain ⟨bs, X1, x2, x3, x4, x5, x6⟩ := X'
  obtain ⟨h, bs', cap', sz', e, Y, g, f⟩ := B_str (mc := mc) (ms := ms) X1 (by omega) (by omega) (show a < sz by omega) (show bs < sz by omega) (by omega) (sS_tx S) (sS_128 S) (by omega) ⟨hr.1, by omega⟩ (fun v' hv' => by
    have : v' = v := by
      have e1 : zgR hp r 20 0 = some v := po_R S.1.1 rfl
      rw [e1] at hv'
      exact (Option.some.inj hv').symm
    subst this
    exact ⟨hr.2.1, by omega, by omega⟩) (X_room X hm hl)
  obtain ⟨y1, y2, y3, y4⟩ := X_of X ht S.2.1 hl ⟨x2, x3⟩ Y (fun j hj => rfl) g
  exact ⟨h, sz', _, cap', e, y1, by split <;> omega, y2, ⟨y3, y4⟩, fun i hi => f i (by omega) (by omega) (by omega)⟩
theorem X_chr (X : sX hp a top cap l) (ht : top ≤ sz) (hn : n < 128) (hl : l.length + 1 ≤ 500) (hm : l.length + 1 ≤ cap ∨ (1 ≤ mc ∧ 1002 ≤ ms)) :
    ∃ h sz' top' cap', f_J4_append_cf468 mc ms a (Int32.ofNat n) hp sz = some (a, h, sz') ∧ sX h a top' cap' (l ++ [n]) ∧ top' ≤ sz' ∧ (l.length + 1 ≤ cap → cap' = cap) ∧ (sz ≤ sz' ∧ sz' ≤ sz + 1) ∧ ∀ i, i < a → h i = hp i := by
  have X' := X
  obtain ⟨bs, X1, x2, x3, x4, x5, x6⟩ := X'
  obtain ⟨h, bs', cap', sz', e, Y, g, f⟩ := B_app (mc := mc) (ms := ms) X1 (by omega) (by omega) (show a < sz by omega) (show bs < sz by omega) (by omega) (X_room X hm hl) hn
  obtain ⟨y1, y2, y3, y4⟩ := X_of (m := [n]) X ht (fun j hj => by
    have : j = 0 := by have : j < 1 := hj; omega
    subst this
    exact hn) hl ⟨x2, x3⟩ Y (fun j hj => by
    have hj' : j < l.length + 1 := hj
    rw [zU]
    by_cases q : j < l.length
    · rw [if_neg (by omega), if_pos q]
    · rw [if_pos (by omega), if_neg q, show j - l.length = 0 by omega]; rfl) g
  exact ⟨h, sz', _, cap', e, y1, by split <;> omega, y2, ⟨y3, y4⟩, fun i hi => f i (by omega) (by omega) (by omega)⟩
theorem X_int (X : sX hp a top cap l) (ht : top ≤ sz) (T : wDT hp ro) (hro : ro 30 < a ∧ ro 31 < a) (hn : n < 1000) (hl : l.length + (dl n).length ≤ 500) (hm : 1 ≤ mc ∧ 1002 ≤ ms) :
    ∃ h sz' top' cap', f_J4_append_bf812 ro mc ms a (Int32.ofNat n) hp sz = some (a, h, sz') ∧ sX h a top' cap' (l ++ dl n) ∧ top' ≤ sz' ∧ (sz ≤ sz' ∧ sz' ≤ sz + 1) ∧ ∀ i, i < a → h i = hp i := by
  have X' := X
  obtain ⟨bs, X1, x2, x3, x4, x5, x6⟩ := X'
  have hd := dl_len n
  have d128 : ∀ j, j < (dl n).length → (dl n).getD j 0 < 128 := fun j hj => by
    have := (dl_ok n hn).2.1 j hj
    unfold dig at this
    rw [Bool.and_eq_true, decide_eq_true_eq, decide_eq_true_eq] at this
    omega
  obtain ⟨g1, bs', cap', sz', e1, Y, g, fr⟩ := B_ens X1 (k := (dl n).length) (mc := mc) (ms := ms) (by omega) (by omega) (by omega) (show a < sz by omega) (show bs < sz by omega) (by omega) (X_room X (Or.inr hm) hl)
  have hc' := grown_cap g
  have hcl : cap' ≤ 9000 := by rcases g with ⟨h, -, e, -⟩ | ⟨h, -, e, -⟩ <;> omega
  have hab' := grown_ab g (show a < sz by omega) (show a ≠ bs by omega)
  have T1 : wDT g1 ro := by
    obtain ⟨⟨t1, t2, t3⟩, t4, t5, t6⟩ := T
    exact ⟨⟨t1, by rw [fr _ (by omega) (by omega)]; exact t2, t3⟩, t4, by rw [fr _ (by omega) (by omega)]; exact t5, t6⟩
  have Y' := Y
  obtain ⟨⟨mm, Y1⟩, f, Y2, Y3, Y4, Y5⟩ := Y'
  obtain ⟨g2, f', pos, e2, Z2, z3, z4⟩ := n_chars (show oneB g1 bs' cap' f from Y2) T1 (show n < 7300 by omega) hc' (by omega)
  have V1 : g2 a = some (.inr (9, [.ref bs', .int 0, .int mm, .int (Int32.ofNat l.length)])) := by rw [z4 a hab']; exact Y1
  have e3 := po_V V1 (show 3 < 4 by decide) (.int (Int32.ofNat (l.length + (dl n).length)))
  obtain ⟨y1, y2, y3, y4⟩ := X_of (h := zup g2 a (.inr (9, [.ref bs', .int 0, .int mm, .int (Int32.ofNat (l.length + (dl n).length))]))) (W' := f') X ht d128 hl ⟨x2, x3⟩ ⟨⟨mm, zup_eq _ _ _⟩, f', by rw [zup_ne (fun q => hab' q.symm)]; exact Z2, hc', fun j hj => rfl, fun j hj => by
    rw [z3 j]
    by_cases q : l.length ≤ j ∧ j < l.length + (dl n).length
    · rw [if_pos q, ← i8_lo (d128 _ (show j - l.length < (dl n).length by omega))]; exact bfit_i8 _
    · rw [if_neg q]; exact Y5 j hj⟩ (fun j hj => by
    rw [z3 j]
    by_cases q : j < l.length
    · rw [if_neg (by omega), if_pos q]; exact Y4 j q
    · rw [if_pos ⟨by omega, hj⟩, if_neg q]) g
  refine ⟨_, sz', _, cap', ?_, y1, by split <;> omega, ⟨y3, y4⟩, fun i hi => ?_⟩
  · have z0 : zchk (0 + mc ≤ mc ∧ 0 + ms ≤ ms) = fun (k : Option (Nat × zHp × Nat)) => k := by
      funext k
      unfold zchk
      rw [if_pos ⟨by omega, by omega⟩]
    have e3' : zpV g2 a 9 3 (.int (Int32.ofNat (l.length + (dl n).length))) = some (zup g2 a (.inr (9, [.ref bs', .int 0, .int mm, .int (Int32.ofNat (l.length + (dl n).length))]))) := e3
    simp only [f_J4_append_bf812, f_J5_append_c97b9, sb_is X1, sb_n X1, n_size (show n < 7300 by omega), zlet, ixa, z0, e1, zb2_some, B_lat Y, show ¬ (1 : Int32) = 0 by decide, if_false, sb_v Y, e2, j_J5_append_c97b9_48, e3', Option.bind_some]
    rfl
  · have hbs : i ≠ bs' := by rcases g with ⟨-, e, -⟩ | ⟨-, e, -⟩ <;> omega
    rw [zup_ne (by omega), z4 i hbs, fr i (by omega) (by omega)]
/-- the bytes of a new String -/
theorem X_cpr {bs cnt : Nat} {W : Nat → Int32} (X : wSB hp a bs cap cnt W) (hb : bs < sz) (hc : cap ≤ 3000) (hm : 1 ≤ mc ∧ cnt ≤ ms) : ∃ h f, f_J7_copyOfRange_39247 mc ms bs 0 (Int32.ofNat cnt) hp sz = some (sz, h, sz + 1) ∧ h sz = some (.inl (1, cnt, .inl f)) ∧ (∀ j, j < cnt → f j = W j) ∧ ∀ i, i ≠ sz → h i = hp i := by
  have hL := sb_len X
  obtain ⟨-, f, h1, h2, h3, h4⟩ := X
  unfold f_J7_copyOfRange_39247
  rw [if_pos rfl, hL, Option.bind_some]
  by_cases q : cnt = cap
  · subst q
    have en : (Int32.ofNat cnt).toNatClampNeg = cnt := pn_nat (by omega)
    have ec : zcln hp bs sz = some (zup hp sz (.inl (1, cnt, .inl f))) := by
      unfold zcln
      rw [h1]
      dsimp only
      rw [if_pos ⟨rfl, by omega, h4⟩]
    rw [if_pos rfl, Option.bind_some, zchk_t ⟨by omega, by rw [en]; omega⟩, ec, Option.bind_some]
    exact ⟨_, f, rfl, zup_eq _ _ _, h3, fun i hi => zup_ne hi⟩
  · rw [if_neg (by rw [pn_inj (by omega) (by omega)]; exact q)]
    unfold j_J7_copyOfRange_39247_10
    rw [zchk_t ⟨by omega, by omega⟩]
    unfold f_J7_copyOfRangeByte_39247 f_J7_checkLength_df160
    have e0 : Int32.ofNat cnt - 0 = Int32.ofNat cnt := Int32.sub_zero _
    have en : (Int32.ofNat cnt).toNatClampNeg = cnt := pn_nat (by omega)
    have l1 : zlen (zup hp sz (.inl (1, cnt, .inl (fun _ => 0)))) 1 bs = some (Int32.ofNat cap) := by
      unfold zlen
      rw [zup_ne (by omega), h1]
      rfl
    have em : zmin (Int32.ofNat cap - 0) (Int32.ofNat cnt) = Int32.ofNat cnt := by
      unfold zmin
      rw [Int32.sub_zero, if_pos (by rw [pn_lt (by omega) (by omega)]; omega)]
    have cb : zcpB (zup hp sz (.inl (1, cnt, .inl (fun _ => 0)))) bs 0 sz 0 (Int32.ofNat cnt) = some (zup (zup hp sz (.inl (1, cnt, .inl (fun _ => 0)))) sz (.inl (1, cnt, .inl (va_cpy f (fun _ => 0) 0 0 cnt)))) := by
      unfold zcpB
      rw [zup_ne (show bs ≠ sz by omega), h1, zup_eq]
      dsimp only
      rw [pn_nat (by omega), if_pos ⟨Or.inl rfl, rfl, by decide, by decide, pn_neg (by omega), by show 0 + cnt ≤ cap; omega, by show 0 + cnt ≤ cnt; omega, fun i hi => by show fits .byte (.int (f (0 + i))) = true; rw [Nat.zero_add]; exact h4 i (by omega)⟩]
      rfl
    refine ⟨zup (zup hp sz (.inl (1, cnt, .inl (fun _ => 0)))) sz (.inl (1, cnt, .inl (va_cpy f (fun _ => 0) 0 0 cnt))), va_cpy f (fun _ => 0) 0 0 cnt, ?_, zup_eq _ _ _, fun j hj => ?_, fun i hi => by rw [zup_ne hi, zup_ne hi]⟩
    · rw [if_neg (pn_neg (by omega)), Option.bind_some]
      unfold zlet
      dsimp only
      rw [e0, en, zchk_t ⟨pn_neg (by omega), by omega, by omega, by omega⟩, l1, Option.bind_some, em, cb, Option.bind_some]
      rfl
    · unfold va_cpy
      rw [if_pos ⟨by omega, by omega⟩, show 0 + (j - 0) = j by omega]
      exact h3 j hj
theorem X_toS (X : sX hp a top cap l) (ht : top ≤ sz) (hm : 2 ≤ mc ∧ l.length + 4 ≤ ms) : ∃ h, f_J4_toString_0e30d mc ms a hp sz = some (sz, h, sz + 2) ∧ sS h sz (sz + 1) l ∧ ∀ i, i < sz → h i = hp i := by
  obtain ⟨bs, X1, x2, x3, x4, x5, x6⟩ := X
  obtain ⟨h2, e2⟩ : ∃ h2, h2 = zup hp sz (.inr (8, [.null, .int 0, .int 0, .int 0])) := ⟨_, rfl⟩
  have f2 : ∀ i, i ≠ sz → h2 i = hp i := fun i hi => by rw [e2]; exact zup_ne hi
  have s2 : h2 sz = some (.inr (8, [.null, .int 0, .int 0, .int 0])) := by rw [e2]; exact zup_eq _ _ _
  obtain ⟨h7, e7⟩ : ∃ h7, h7 = zup h2 sz (.inr (8, [.null, .int 0, .int 0, .int 0])) := ⟨_, rfl⟩
  have p7 : zpV h2 sz 8 1 (.int 0) = some h7 := by rw [e7]; exact po_V s2 (show 1 < 4 by decide) (.int 0)
  have f7 : ∀ i, i ≠ sz → h7 i = hp i := fun i hi => by rw [e7, zup_ne hi, f2 i hi]
  have X2 : wSB h2 a bs cap l.length (lW l) := by
    obtain ⟨⟨m, y1⟩, g, y2, y3⟩ := X1
    exact ⟨⟨m, by rw [f2 a (by omega)]; exact y1⟩, g, by rw [f2 bs (by omega)]; exact y2, y3⟩
  have X7 : wSB h7 a bs cap l.length (lW l) := by
    obtain ⟨⟨m, y1⟩, g, y2, y3⟩ := X1
    exact ⟨⟨m, by rw [f7 a (by omega)]; exact y1⟩, g, by rw [f7 bs (by omega)]; exact y2, y3⟩
  obtain ⟨h9, f, e9, v9, w9, f9⟩ := X_cpr (mc := mc - 1) (ms := ms - 4) X7 (show bs < sz + 1 by omega) (by omega) (by omega)
  have s9 : h9 sz = some (.inr (8, [.null, .int 0, .int 0, .int 0])) := by rw [f9 sz (by omega), e7]; exact zup_eq _ _ _
  have p9 := po_V s9 (show 0 < 4 by decide) (.ref (sz + 1))
  obtain ⟨h12, e12⟩ : ∃ h12, h12 = zup h9 sz (.inr (8, [.ref (sz + 1), .int 0, .int 0, .int 0])) := ⟨_, rfl⟩
  have p12 : zpV h9 sz 8 0 (.ref (sz + 1)) = some h12 := by rw [e12]; exact p9
  have s12 : h12 sz = some (.inr (8, [.ref (sz + 1), .int 0, .int 0, .int 0])) := by rw [e12]; exact zup_eq _ _ _
  have zf : zfrz h12 sz = some (zup h12 sz (.inr (20, [.ref (sz + 1), .int 0]))) := by
    unfold zfrz
    rw [s12]
    exact if_pos ⟨rfl, rfl⟩
  refine ⟨zup h12 sz (.inr (20, [.ref (sz + 1), .int 0])), ?_, ⟨⟨zup_eq _ _ _, f, Or.inr ?_, w9⟩, x5, x6⟩, fun i hi => ?_⟩
  · unfold f_J4_toString_0e30d zlet
    rw [sb_is X1, Option.bind_some, zchk_t ⟨by omega, by omega⟩, ← e2]
    dsimp only
    rw [zchk_t ⟨by omega, by omega⟩]
    unfold f_J0_init_81219
    rw [zchk_t ⟨by omega, by omega⟩]
    unfold f_J0_init_db425
    rw [zchk_t ⟨by omega, by omega⟩]
    unfold f_J5_getValue_6d5f1
    rw [sb_is X2, Option.bind_some, sb_v X2, Option.bind_some, zb3_some, B_length X2, Option.bind_some, B_lat X2, Option.bind_some, if_neg (by decide), p7, Option.bind_some, zchk_t ⟨by omega, by omega⟩, e9, zb3_some, p12, Option.bind_some, zb2_some, zb2_some, zf, Option.bind_some]
  · rw [zup_ne (by omega), e12, zup_ne (by omega)]
    exact v9
  · rw [zup_ne (by omega), e12, zup_ne (by omega), f9 i (by omega), f7 i (by omega)]
theorem chr_ok : ∀ s, s < 4 → ∀ k, k < 8 → ((((112 : Int32) + Int32.ofNat s).toUInt32 % 65536).toInt32) = Int32.ofNat (112 + s) ∧ ((((97 : Int32) + Int32.ofNat k).toUInt32 % 65536).toInt32) = Int32.ofNat (97 + k) := by decide +kernel
/-- the name of a thing -/
theorem L_name (E : wTxc hp c (ro 21) []) (hc : c ≤ sz) (hs : s < 4) (hk : k < 8) : ∃ h r z', f_L_name ro 4 64 (Int32.ofNat s) (Int32.ofNat k) hp sz = some (r, h, z') ∧ sS h r (r + 1) (nmB s k) ∧ (sz ≤ r ∧ z' = r + 2) ∧ ∀ i, i < sz → h i = hp i := by
  obtain ⟨c1, c2⟩ := chr_ok s hs k hk
  obtain ⟨h1, e1, X1, f1⟩ := X_new hp sz
  obtain ⟨r0, v0, q0, S0⟩ := sS_c E ⟨by decide, fun k h => absurd h (Nat.not_lt_zero k)⟩ (Nat.zero_le _)
  have S1 := sS_fr S0 (f1 _ (by omega)) (f1 _ (by omega))
  obtain ⟨h2, z2, t2, k2, e2, X2, g2, y2, b2, f2⟩ := X_str (mc := 0) (ms := 0) X1 (Nat.le_refl _) S1 (by decide) ⟨by omega, by omega, Or.inl ⟨by omega, by omega⟩⟩ (Or.inl (by decide))
  have k2e : k2 = 16 := y2 (by decide)
  subst k2e
  obtain ⟨h3, z3, t3, k3, e3, X3, g3, y3, b3, f3⟩ := X_chr (n := 112 + s) (mc := 0) (ms := 0) X2 g2 (by omega) (by decide) (Or.inl (by decide))
  have k3e : k3 = 16 := y3 (by decide)
  subst k3e
  obtain ⟨h4, z4, t4, k4, e4, X4, g4, y4, b4, f4⟩ := X_chr (n := 97 + k) (mc := 0) (ms := 0) X3 g3 (by omega) (show 1 + 1 ≤ 500 by decide) (Or.inl (show 1 + 1 ≤ 16 by decide))
  obtain ⟨h5, e5, S5, f5⟩ := X_toS (mc := 2) (ms := 8) X4 g4 ⟨Nat.le_refl _, show 2 + 4 ≤ 8 by decide⟩
  refine ⟨h5, z4, z4 + 2, ?_, S5, ⟨by omega, rfl⟩, fun i hi => by rw [f5 i (by omega), f4 i (by omega), f3 i (by omega), f2 i (by omega), f1 i (by omega)]⟩
  unfold f_L_name zlet
  rw [zchk_t ⟨by decide, by decide⟩]
  dsimp only
  rw [zchk_t ⟨by decide, by decide⟩, e1, zb2_some, zchk_t ⟨by decide, by decide⟩, e2, zb3_some, zchk_t ⟨by decide, by decide⟩, c1, e3, zb3_some, zchk_t ⟨by decide, by decide⟩, c2, e4, zb3_some, zchk_t ⟨by decide, by decide⟩, e5, zb3_some]
end P92
