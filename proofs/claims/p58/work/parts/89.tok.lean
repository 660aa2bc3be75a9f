/-! PURE: tokens of a text that is known as a list -/
section P89
variable {β : Nat → Nat} {L i : Nat} {l m r w sp : List Nat} {st : PSt}
theorem getD_app2 {j : Nat} : (l ++ m).getD j 0 = if j < l.length then l.getD j 0 else m.getD (j - l.length) 0 := by
  rw [List.getD_eq_getElem?_getD, List.getElem?_append]
  by_cases q : j < l.length
  · rw [if_pos q, if_pos q, List.getD_eq_getElem?_getD]
  · rw [if_neg q, if_neg q, List.getD_eq_getElem?_getD]
/-- from i on the text is r -/
def rL (β : Nat → Nat) (L i : Nat) (r : List Nat) : Prop := L = i + r.length ∧ ∀ k, k < r.length → β (i + k) = r.getD k 0
theorem rL_app (X : rL β L i (w ++ r)) : rL β L (i + w.length) r := by
  obtain ⟨h1, h2⟩ := X
  rw [List.length_append] at h1 h2
  refine ⟨by omega, fun k hk => ?_⟩
  have := h2 (w.length + k) (by omega)
  rw [getD_app2, if_neg (by omega), show w.length + k - w.length = k by omega] at this
  rw [Nat.add_assoc]
  exact this
theorem rL_at (X : rL β L i (w ++ r)) {k : Nat} (hk : k < w.length) : β (i + k) = w.getD k 0 ∧ i + k < L := by
  obtain ⟨h1, h2⟩ := X
  rw [List.length_append] at h1 h2
  have := h2 k (by omega)
  rw [getD_app2, if_pos hk] at this
  exact ⟨this, by omega⟩
theorem eo_of {q : Nat → Bool} {e : Nat} (h1 : i ≤ e) (h2 : e ≤ L) (run : ∀ j, i ≤ j → j < e → q (β j) = true) (fin : e = L ∨ q (β e) = false) : eo q β L i = e := by
  have h := eo_in (q := q) (β := β) (L := L) (i := i) (by omega)
  rcases Nat.lt_trichotomy (eo q β L i) e with c | c | c
  · have h3 := eo_end (q := q) (β := β) (L := L) (i := i) (by omega) (by omega)
    rw [run _ h.1 c] at h3
    cases h3
  · exact c
  · rcases fin with e1 | e2
    · omega
    · have h3 := eo_run (q := q) (β := β) (L := L) (i := i) (j := e) (by omega) h1 c
      rw [e2] at h3
      cases h3
theorem sml_nb {n : Nat} (h : sml n = true) : blk n = false := by
  unfold sml at h
  unfold blk
  rw [Bool.and_eq_true, decide_eq_true_eq, decide_eq_true_eq] at h
  rw [decide_eq_false (by omega), decide_eq_false (by omega)]
  rfl
theorem dig_nb {n : Nat} (h : dig n = true) : blk n = false := by
  unfold dig at h
  unfold blk
  rw [Bool.and_eq_true, decide_eq_true_eq, decide_eq_true_eq] at h
  rw [decide_eq_false (by omega), decide_eq_false (by omega)]
  rfl
theorem cK_sml {n : Nat} (h : sml n = true) : cK n = 1 := by
  unfold cK
  rw [if_pos h]
theorem cK_dig {n : Nat} (h : dig n = true) : cK n = 2 := by
  have h2 := h
  unfold dig at h2
  rw [Bool.and_eq_true, decide_eq_true_eq, decide_eq_true_eq] at h2
  have h3 : sml n = false := by
    unfold sml
    rw [decide_eq_false (by omega)]
    rfl
  unfold cK
  rw [h3, if_neg (by decide), if_pos h]
def spB (sp : List Nat) : Prop := sp = [] ∨ sp = [32]
theorem spB_run (hsp : spB sp) (X : rL β L i (sp ++ r)) : ∀ j, i ≤ j → j < i + sp.length → blk (β j) = true := fun j h1 h2 => by
  obtain ⟨e, -⟩ := rL_at X (k := j - i) (by omega)
  rw [show i + (j - i) = j by omega] at e
  rw [e]
  rcases hsp with rfl | rfl
  · exact absurd h2 (by show ¬ j < i + 0; omega)
  · have : j - i = 0 := by have : j < i + 1 := h2; omega
    rw [this]
    rfl
theorem tS_of (hsp : spB sp) (X : rL β L i (sp ++ r)) (h0 : 0 < r.length) (hb : blk (r.getD 0 0) = false) : tS β L i = i + sp.length ∧ tS β L i < L := by
  have Y := rL_app X
  have hL := Y.1
  have e0 := Y.2 0 h0
  rw [Nat.add_zero] at e0
  have e : tS β L i = i + sp.length := eo_of (by omega) (by omega) (spB_run hsp X) (Or.inr (by rw [e0]; exact hb))
  exact ⟨e, by omega⟩
/-- a stop: a blank or a semicolon -/
def stp (x : Nat) : Prop := x = 32 ∨ x = 59
theorem tok_w {x : Nat} (hsp : spB sp) (hx : stp x) (X : rL β L i (sp ++ (w ++ x :: r))) (hw : 0 < w.length) (hs : ∀ k, k < w.length → sml (w.getD k 0) = true) : tS β L i = i + sp.length ∧ tK β L i = 1 ∧ tE β L i = i + sp.length + w.length ∧ rL β L (i + sp.length) (w ++ x :: r) := by
  have Y := rL_app X
  have g0 : (w ++ x :: r).getD 0 0 = w.getD 0 0 := by rw [getD_app2, if_pos hw]
  have hl : (w ++ x :: r).length = w.length + (r.length + 1) := by rw [List.length_append]; rfl
  obtain ⟨e1, e2⟩ := tS_of hsp X (by rw [hl]; omega) (by rw [g0]; exact sml_nb (hs 0 hw))
  have b0 := (rL_at Y hw).1
  rw [Nat.add_zero] at b0
  have ek : tK β L i = 1 := by
    unfold tK
    rw [if_pos e2, e1, b0, cK_sml (hs 0 hw)]
  refine ⟨e1, ek, ?_, Y⟩
  have hL := Y.1
  rw [hl] at hL
  unfold tE
  rw [ek, if_neg (by decide), if_pos rfl, e1]
  refine eo_of (by omega) (by omega) (fun j h1 h2 => ?_) (Or.inr ?_)
  · obtain ⟨e, -⟩ := rL_at Y (k := j - (i + sp.length)) (by omega)
    rw [show i + sp.length + (j - (i + sp.length)) = j by omega] at e
    rw [e]
    exact hs _ (by omega)
  · have Z := (rL_app Y).2 0 (by show 0 < r.length + 1; omega)
    rw [Nat.add_zero] at Z
    rw [Z]
    show sml x = false
    rcases hx with rfl | rfl <;> rfl
theorem tok_d {x : Nat} (hsp : spB sp) (hx : stp x) (X : rL β L i (sp ++ (w ++ x :: r))) (hw : 0 < w.length) (hs : ∀ k, k < w.length → dig (w.getD k 0) = true) : tS β L i = i + sp.length ∧ tK β L i = 2 ∧ tE β L i = i + sp.length + w.length ∧ rL β L (i + sp.length) (w ++ x :: r) := by
  have Y := rL_app X
  have g0 : (w ++ x :: r).getD 0 0 = w.getD 0 0 := by rw [getD_app2, if_pos hw]
  have hl : (w ++ x :: r).length = w.length + (r.length + 1) := by rw [List.length_append]; rfl
  obtain ⟨e1, e2⟩ := tS_of hsp X (by rw [hl]; omega) (by rw [g0]; exact dig_nb (hs 0 hw))
  have b0 := (rL_at Y hw).1
  rw [Nat.add_zero] at b0
  have ek : tK β L i = 2 := by
    unfold tK
    rw [if_pos e2, e1, b0, cK_dig (hs 0 hw)]
  refine ⟨e1, ek, ?_, Y⟩
  have hL := Y.1
  rw [hl] at hL
  unfold tE
  rw [ek, if_neg (by decide), if_neg (by decide), if_pos rfl, e1]
  refine eo_of (by omega) (by omega) (fun j h1 h2 => ?_) (Or.inr ?_)
  · obtain ⟨e, -⟩ := rL_at Y (k := j - (i + sp.length)) (by omega)
    rw [show i + sp.length + (j - (i + sp.length)) = j by omega] at e
    rw [e]
    exact hs _ (by omega)
  · have Z := (rL_app Y).2 0 (by show 0 < r.length + 1; omega)
    rw [Nat.add_zero] at Z
    rw [Z]
    show dig x = false
    rcases hx with rfl | rfl <;> rfl
theorem tok_s (X : rL β L i (59 :: r)) : tS β L i = i ∧ tK β L i = 3 ∧ tE β L i = i + 1 ∧ rL β L (i + 1) r := by
  obtain ⟨e1, e2⟩ := tS_of (sp := []) (Or.inl rfl) X (by show 0 < r.length + 1; omega) rfl
  have e1 : tS β L i = i := e1
  have b0 := X.2 0 (by show 0 < r.length + 1; omega)
  rw [Nat.add_zero] at b0
  have ek : tK β L i = 3 := by
    unfold tK
    rw [if_pos e2, e1, b0]
    rfl
  refine ⟨e1, ek, ?_, rL_app (w := [59]) X⟩
  unfold tE
  rw [ek, if_neg (by decide), if_neg (by decide), if_neg (by decide), e1]
theorem tok_e (X : rL β L i []) : tK β L i = 0 := by
  have h := X.1
  have e : tS β L i = L := eo_of (by have : L = i + 0 := h; omega) (Nat.le_refl L) (fun j h1 h2 => by have : L = i + 0 := h; omega) (Or.inl rfl)
  unfold tK
  rw [e, if_neg (Nat.lt_irrefl L)]
/-! words, names, numbers of a list -/
def mtL (w v : List Nat) : Bool := decide (w.length = v.length) && !zany (fun j => !decide (w.getD j 0 = v.getD j 0)) v.length
theorem mt_L {s e : Nat} (Y : rL β L s (w ++ r)) (he : e = s + w.length) (v : List Nat) : mt β s e v = mtL w v := by
  unfold mt mtL
  rw [he, show s + w.length - s = w.length by omega]
  by_cases q : w.length = v.length
  · rw [zany_congr (q := fun j => !decide (w.getD j 0 = v.getD j 0)) (fun k hk => by rw [(rL_at Y (k := k) (by omega)).1])]
  · rw [decide_eq_false q, Bool.false_and, Bool.false_and]
def wdL (w : List Nat) : Int32 := if mtL w wPa = true then 0 else if mtL w wRe = true then 1 else if mtL w wI = true then 2 else if mtL w wWa = true then 3 else if mtL w wBo = true then 4 else if mtL w wTa = true then 5 else if mtL w wSe = true then 6 else -1
def ws2L (w : List Nat) : Int32 := if mtL w wTr = true then 0 else if mtL w wTo = true then 1 else -1
theorem sWd_L (ek : tK β L i = 1) (Y : rL β L (tS β L i) (w ++ r)) (he : tE β L i = tS β L i + w.length) : sWd β L i = wdL w := by
  unfold sWd wdL
  rw [if_pos ek]
  simp only [mt_L Y he]
theorem sWs2_L (ek : tK β L i = 1) (Y : rL β L (tS β L i) (w ++ r)) (he : tE β L i = tS β L i + w.length) : sWs2 β L i = ws2L w := by
  unfold sWs2 ws2L
  rw [if_pos ek]
  simp only [mt_L Y he]
def pkW (w : List Nat) : Nat → Int32
  | 0 => 0
  | k + 1 => (pkW w k <<< ((5 : Int32) &&& 31)) ||| (if k < w.length then Int32.ofNat (w.getD k 0) - 97 + 1 else 0)
theorem pkI_W {s e : Nat} (Y : rL β L s (w ++ r)) (he : e = s + w.length) : ∀ k, pkI β s e k = pkW w k
  | 0 => rfl
  | k + 1 => by
    show (pkI β s e k <<< ((5 : Int32) &&& 31)) ||| (if s + k < e then Int32.ofNat (β (s + k)) - 97 + 1 else 0) = (pkW w k <<< ((5 : Int32) &&& 31)) ||| (if k < w.length then Int32.ofNat (w.getD k 0) - 97 + 1 else 0)
    rw [pkI_W Y he k]
    by_cases q : k < w.length
    · rw [if_pos q, if_pos (by omega), (rL_at Y q).1]
    · rw [if_neg q, if_neg (by omega)]
def cvW (w : List Nat) : Nat → Nat
  | 0 => 0
  | k + 1 => min (cvW w k * 10 + w.getD k 0 - 48) 99999
theorem cvl_W {s : Nat} (Y : rL β L s (w ++ r)) : ∀ k, k ≤ w.length → cvl β s k = cvW w k
  | 0, _ => rfl
  | k + 1, h => by
    show min (cvl β s k * 10 + β (s + k) - 48) 99999 = min (cvW w k * 10 + w.getD k 0 - 48) 99999
    rw [cvl_W Y k (by omega), (rL_at Y (k := k) (by omega)).1]
/-- the name of the thing k of a sort s -/
def nmB (s k : Nat) : List Nat := [112 + s, 97 + k]
def nmV (s k : Nat) : Int32 := pkW (nmB s k) 6
theorem nm_ok : ∀ s, s < 4 → ∀ k, k < 8 → wdL (nmB s k) = -1 ∧ (∀ j, j < 2 → sml ((nmB s k).getD j 0) = true) ∧ ∀ k', k' < 8 → nmV s k = nmV s k' → k = k' := by decide +kernel
theorem dl_ok : ∀ n, n < 1000 → (0 < (dl n).length ∧ (dl n).length ≤ 3) ∧ (∀ j, j < (dl n).length → dig ((dl n).getD j 0) = true) ∧ cvW (dl n) (dl n).length = n := by decide +kernel
end P89
