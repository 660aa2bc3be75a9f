/-! PURE: the StringBuilder's content as a list of bytes; names -/
section P71
variable {hp h hp' : zHp} {a bs cap cnt sz mc ms k r c B0 : Nat} {ro : Nat → Nat} {W W' f : Nat → Int32} {v : Int32} {l m : List Nat}
def lW (l : List Nat) : Nat → Int32 := fun j => Int32.ofNat (l.getD j 0)
def sbC (B0 : Nat) (hp : zHp) (a sz cap : Nat) (l : List Nat) : Prop := ∃ bs, wSB hp a bs cap l.length (lW l) ∧ bs < sz ∧ (bs = a + 1 ∨ B0 ≤ bs) ∧ (16 ≤ cap ∧ cap ≤ 160) ∧ a + 1 < B0 ∧ B0 ≤ sz ∧ ∀ j, j < l.length → l.getD j 0 < 128
def fB (B0 a : Nat) (hp h : zHp) : Prop := ∀ i, i < B0 → i ≠ a → i ≠ a + 1 → h i = hp i
theorem fB_rf : fB B0 a hp hp := fun _ _ _ _ => rfl
theorem fB_tr {h1 : zHp} (x : fB B0 a hp h1) (y : fB B0 a h1 h) : fB B0 a hp h := fun i h1 h2 h3 => (y i h1 h2 h3).trans (x i h1 h2 h3)
def nd (cap len k : Nat) : Nat × Nat := if len + k ≤ cap then (0, 0) else (1, 2 * cap + 2 + len + k)
def gc (cap len k : Nat) : Nat := if len + k ≤ cap then cap else 2 * cap + 2
theorem sbC_need (X : sbC B0 hp a sz cap l) (hl : l.length ≤ 100) (k : Nat) : zneed hp a k = nd cap l.length k := by
  obtain ⟨bs, X1, -⟩ := X
  exact sb_need X1 hl k
theorem wSB_W {W W' : Nat → Int32} (X : wSB hp a bs cap cnt W) (e : ∀ j, j < cnt → W j = W' j) : wSB hp a bs cap cnt W' := by
  obtain ⟨x1, f, x2, x3, x4, x5⟩ := X
  exact ⟨x1, f, x2, x3, fun j hj => by rw [x4 j hj, e j hj], x5⟩
theorem getD_app {j : Nat} : (l ++ m).getD j 0 = if j < l.length then l.getD j 0 else m.getD (j - l.length) 0 := by
  rw [List.getD_eq_getElem?_getD, List.getElem?_append]
  by_cases q : j < l.length
  · rw [if_pos q, if_pos q, List.getD_eq_getElem?_getD]
  · rw [if_neg q, if_neg q, List.getD_eq_getElem?_getD]
theorem sbC_app (X : sbC B0 hp a sz cap l) (hm : ∀ j, j < m.length → m.getD j 0 < 128) (hl : l.length + m.length ≤ 80) (hk : m.length ≤ 11) {bs bs' cap' sz' : Nat} {W' : Nat → Int32} (Y : wSB h a bs' cap' (l.length + m.length) W') (hw : ∀ j, j < l.length + m.length → W' j = if j < l.length then lW l j else Int32.ofNat (m.getD (j - l.length) 0)) (g : grown cap l.length m.length sz bs bs' cap' sz') (hbs : wSB hp a bs cap l.length (lW l) ∧ bs < sz ∧ (bs = a + 1 ∨ B0 ≤ bs)) (fr : ∀ i, i < sz → i ≠ a → i ≠ bs → h i = hp i) : sbC B0 h a sz' (gc cap l.length m.length) (l ++ m) ∧ sz ≤ sz' ∧ fB B0 a hp h := by
  obtain ⟨bs0, X1, x2, x3, x4, x5, x6, x7⟩ := X
  have hcl := X1.2
  obtain ⟨f0, -, hle, -⟩ := hcl
  have hg : cap' = gc cap l.length m.length := by
    unfold gc
    rcases g with ⟨g1, -, g2, -⟩ | ⟨g1, -, g2, -⟩
    · rw [if_pos g1, g2]
    · rw [if_neg (by omega), g2]
      omega
  have hc2 : 16 ≤ gc cap l.length m.length ∧ gc cap l.length m.length ≤ 160 := by
    unfold gc
    split <;> omega
  refine ⟨⟨bs', ?_, ?_, ?_, hc2, x5, ?_, fun j hj => ?_⟩, ?_, fun i h1 h2 h3 => fr i (by omega) h2 (by omega)⟩
  · rw [← hg, List.length_append]
    refine wSB_W Y (fun j hj => ?_)
    rw [hw j hj]
    show _ = Int32.ofNat ((l ++ m).getD j 0)
    rw [getD_app]
    by_cases q : j < l.length
    · rw [if_pos q, if_pos q]; rfl
    · rw [if_neg q, if_neg q]
  · rcases g with ⟨-, g1, -, g2⟩ | ⟨-, g1, -, g2⟩ <;> omega
  · rcases g with ⟨-, g1, -, g2⟩ | ⟨-, g1, -, g2⟩ <;> omega
  · rcases g with ⟨-, g1, -, g2⟩ | ⟨-, g1, -, g2⟩ <;> omega
  · rw [List.length_append] at hj
    rw [getD_app]
    by_cases q : j < l.length
    · rw [if_pos q]; exact x7 j q
    · rw [if_neg q]; exact hm _ (by omega)
  · rcases g with ⟨-, g1, -, g2⟩ | ⟨-, g1, -, g2⟩ <;> omega
theorem nd_or {len : Nat} (h1 : (nd cap len k).1 ≤ mc) (h2 : (nd cap len k).2 ≤ ms) : len + k ≤ cap ∨ (1 ≤ mc ∧ 2 * cap + 2 + len + k ≤ ms) := by
  unfold nd at h1 h2
  by_cases q : len + k ≤ cap
  · exact Or.inl q
  · rw [if_neg q] at h1 h2
    exact Or.inr ⟨h1, h2⟩
theorem A_app (X : sbC B0 hp a sz cap l) (hl : l.length + 1 ≤ 80) {n : Nat} (hn : n < 128) (h1 : (nd cap l.length 1).1 ≤ mc) (h2 : (nd cap l.length 1).2 ≤ ms) : ∃ h sz', f_J4_append_cf468 mc ms a (Int32.ofNat n) hp sz = some (a, h, sz') ∧ sbC B0 h a sz' (gc cap l.length 1) (l ++ [n]) ∧ sz ≤ sz' ∧ fB B0 a hp h := by
  have X' := X
  obtain ⟨bs, X1, x2, x3, x4, x5, x6, x7⟩ := X'
  obtain ⟨h, bs', cap', sz', e1, Y, g, fr⟩ := B_app X1 (by omega) (by omega) (show a < sz by omega) x2 (by omega) (nd_or h1 h2) hn
  exact ⟨h, sz', e1, sbC_app (m := [n]) X (fun j hj => by
    have : j = 0 := by have : j < 1 := hj; omega
    subst this; exact hn) hl (show 1 ≤ 11 by decide) Y (fun j hj => by
    have hj' : j < l.length + 1 := hj
    rw [zU]
    by_cases q : j < l.length
    · rw [if_neg (by omega), if_pos q]
    · rw [if_pos (by omega), if_neg q, show j - l.length = 0 by omega]; rfl) g ⟨X1, x2, x3⟩ fr⟩
theorem A_str (X : sbC B0 hp a sz cap l) (T : wTx hp r m) (bl : l128 m) (hl : l.length + m.length ≤ 80) (hk : m.length ≤ 11) (hr : r < B0 ∧ r ≠ a) (hv : ∀ v, zgR hp r 20 0 = some v → v < B0 ∧ v ≠ a) (h1 : (nd cap l.length m.length).1 ≤ mc) (h2 : (nd cap l.length m.length).2 ≤ ms) : ∃ h sz', f_J4_append_15ec4 mc ms a r hp sz = some (a, h, sz') ∧ sbC B0 h a sz' (gc cap l.length m.length) (l ++ m) ∧ sz ≤ sz' ∧ fB B0 a hp h := by
  have X' := X
  obtain ⟨bs, X1, x2, x3, x4, x5, x6, x7⟩ := X'
  obtain ⟨h, bs', cap', sz', e1, Y, g, fr⟩ := B_str X1 (by omega) (by omega) (show a < sz by omega) x2 (by omega) T bl (by omega) ⟨by omega, hr.2⟩ (fun v hv' => ⟨by have := (hv v hv').1; omega, (hv v hv').2⟩) (nd_or h1 h2)
  exact ⟨h, sz', e1, sbC_app X bl.2 hl hk Y (fun j hj => rfl) g ⟨X1, x2, x3⟩ fr⟩
theorem dl_128 {n : Nat} (hn : n < 7300) : ∀ j, j < (dl n).length → (dl n).getD j 0 < 128 := by
  intro j hj
  have h4 := (dl_len n).1
  unfold dl at hj ⊢
  by_cases c1 : n < 10
  · rw [if_pos c1] at hj ⊢
    have : j = 0 := by have : j < 1 := hj; omega
    subst this; show 48 + n < 128; omega
  · by_cases c2 : n < 100
    · rw [if_neg c1, if_pos c2] at hj ⊢
      have : j < 2 := hj
      rcases (show j = 0 ∨ j = 1 by omega) with rfl | rfl
      · show 48 + n / 10 < 128; omega
      · show 48 + n % 10 < 128; omega
    · by_cases c3 : n < 1000
      · rw [if_neg c1, if_neg c2, if_pos c3] at hj ⊢
        have : j < 3 := hj
        rcases (show j = 0 ∨ j = 1 ∨ j = 2 by omega) with rfl | rfl | rfl
        · show 48 + n / 100 < 128; omega
        · show 48 + n % 100 / 10 < 128; omega
        · show 48 + n % 10 < 128; omega
      · rw [if_neg c1, if_neg c2, if_neg c3] at hj ⊢
        have : j < 4 := hj
        rcases (show j = 0 ∨ j = 1 ∨ j = 2 ∨ j = 3 by omega) with rfl | rfl | rfl | rfl
        · show 48 + n / 1000 < 128; omega
        · show 48 + n / 100 % 10 < 128; omega
        · show 48 + n % 100 / 10 < 128; omega
        · show 48 + n % 10 < 128; omega
theorem bfit_n {n : Nat} (h : n < 128) : bfit (Int32.ofNat n) := by rw [← i8_lo h]; exact bfit_i8 _
theorem nd_le {len k k' : Nat} (h : k ≤ k') : (nd cap len k).1 ≤ (nd cap len k').1 ∧ (nd cap len k).2 ≤ (nd cap len k').2 := by
  unfold nd
  by_cases q : len + k ≤ cap
  · rw [if_pos q]; exact ⟨Nat.zero_le _, Nat.zero_le _⟩
  · rw [if_neg q, if_neg (by omega)]
    exact ⟨Nat.le_refl _, by show 2 * cap + 2 + len + k ≤ 2 * cap + 2 + len + k'; omega⟩
theorem A_int (X : sbC B0 hp a sz cap l) (T : wDT hp ro) (hro : ro 30 < B0 ∧ ro 31 < B0 ∧ ro 30 ≠ a ∧ ro 31 ≠ a) {n : Nat} (hn : n < 7300) (hl : l.length + 4 ≤ 80) (h1 : (nd cap l.length 11).1 ≤ mc) (h2 : (nd cap l.length 11).2 ≤ ms) : ∃ h sz', f_J4_append_bf812 ro mc ms a (Int32.ofNat n) hp sz = some (a, h, sz') ∧ sbC B0 h a sz' (gc cap l.length (dl n).length) (l ++ dl n) ∧ sz ≤ sz' ∧ fB B0 a hp h := by
  have X' := X
  obtain ⟨bs, X1, x2, x3, x4, x5, x6, x7⟩ := X'
  have hd := dl_len n
  have nl := nd_le (cap := cap) (len := l.length) (show (dl n).length ≤ 11 by omega)
  obtain ⟨g1, bs', cap', sz', e1, Y, g, fr⟩ := B_ens X1 (k := (dl n).length) (mc := mc) (ms := ms) (by omega) (by omega) (by omega) (show a < sz by omega) x2 (by omega) (nd_or (by omega) (by omega))
  have hc' := grown_cap g
  have hcl : cap' ≤ 1000 := by rcases g with ⟨h, -, e, -⟩ | ⟨h, -, e, -⟩ <;> omega
  have hab' := grown_ab g (show a < sz by omega) (show a ≠ bs by omega)
  have T1 : wDT g1 ro := by
    obtain ⟨⟨t1, t2, t3⟩, t4, t5, t6⟩ := T
    exact ⟨⟨t1, by rw [fr _ (by omega) hro.2.2.1]; exact t2, t3⟩, t4, by rw [fr _ (by omega) hro.2.2.2]; exact t5, t6⟩
  have Y' := Y
  obtain ⟨⟨mm, Y1⟩, f, Y2, Y3, Y4, Y5⟩ := Y'
  obtain ⟨g2, f', pos, e2, Z2, z3, z4⟩ := n_chars (show oneB g1 bs' cap' f from Y2) T1 hn hc' (by omega)
  have V1 : g2 a = some (.inr (9, [.ref bs', .int 0, .int mm, .int (Int32.ofNat l.length)])) := by rw [z4 a hab']; exact Y1
  have e3 := po_V V1 (show 3 < 4 by decide) (.int (Int32.ofNat (l.length + (dl n).length)))
  refine ⟨zup g2 a (.inr (9, [.ref bs', .int 0, .int mm, .int (Int32.ofNat (l.length + (dl n).length))])), sz', ?_, sbC_app (bs := bs) (bs' := bs') (cap' := cap') (W' := f') X (dl_128 hn) (by omega) (by omega) ⟨⟨mm, zup_eq _ _ _⟩, f', by rw [zup_ne (fun q => hab' q.symm)]; exact Z2, hc', fun j hj => rfl, fun j hj => ?_⟩ (fun j hj => ?_) g ⟨X1, x2, x3⟩ (fun i hi hia hib => ?_)⟩
  · have z0 : zchk (0 + mc ≤ mc ∧ 0 + ms ≤ ms) = fun (k : Option (Nat × zHp × Nat)) => k := by
      funext k
      unfold zchk
      rw [if_pos ⟨by omega, by omega⟩]
    have e3' : zpV g2 a 9 3 (.int (Int32.ofNat (l.length + (dl n).length))) = some (zup g2 a (.inr (9, [.ref bs', .int 0, .int mm, .int (Int32.ofNat (l.length + (dl n).length))]))) := e3
    simp only [f_J4_append_bf812, f_J5_append_c97b9, sb_is X1, sb_n X1, n_size hn, zlet, ixa, z0, e1, zb2_some, B_lat Y, show ¬ (1 : Int32) = 0 by decide, if_false, sb_v Y, e2, j_J5_append_c97b9_48, e3', Option.bind_some]
    rfl
  · rw [z3 j]
    by_cases q : l.length ≤ j ∧ j < l.length + (dl n).length
    · rw [if_pos q]; exact bfit_n (dl_128 hn _ (by omega))
    · rw [if_neg q]; exact Y5 j hj
  · rw [z3 j]
    by_cases q : j < l.length
    · rw [if_neg (by omega), if_pos q]; exact Y4 j q
    · rw [if_pos ⟨by omega, hj⟩, if_neg q]
  · have hbs : i ≠ bs' := by rcases g with ⟨-, e, -⟩ | ⟨-, e, -⟩ <;> omega
    rw [zup_ne hia, z4 i hbs, fr i hi hia]
end P71
