/-! PURE: work, class and reference alike -/
section P47
variable {hp h hp' : zHp} {x a a' q b u c p hl t : Nat} {ea : Int32} {S : Nat → Nat → Int32} {F T N N' R : Nat → Int32} {σ : Nat → Nat} {Ps : Nat → Nat → Int32}
theorem sI_nO (I : sI T N) (hb : b < sN T 3) (y : Int32) : sI T (nO N b y) := by
  have hd := sI_bd I
  have he := (sI_row I hb).2.1
  have h16 : ∀ w, 2 ≤ w → upd (upd (sF N b) 0 y) 1 0 w = sF N b w := fun w w1 => by rw [zU, if_neg (by omega), zU, if_neg (by omega)]
  exact sI_box I (sIb_of (E' := sE N b) (sI_row I hb) (by omega) (fun w w1 w2 => h16 w (by omega)) (h16 3 (by decide)) (by rw [h16 2 (by decide)]; exact he.1) he.2.2 he.2.1)
theorem sI_nS (I : sI T N) (hb : b < sN T 3) (hE : sE N b < 12) : sI T (nS N b) := by
  have hd := sI_bd I
  have he := (sI_row I hb).2.1
  have i1 : sIb T (nB N b (upd (upd (upd (upd (sF N b) (4 + sE N b) (N 2)) 2 (Int32.ofNat (sE N b + 1))) 1 (N 2)) 0 (-4))) b := sIb_of (E' := sE N b + 1) (sI_row I hb) (by omega) (fun w w1 w2 => by rw [zU, if_neg (by omega), zU, if_neg (by omega), zU, if_neg (by omega), zU, if_neg (by omega)]) (by rw [zU, if_neg (by omega), zU, if_neg (by omega), zU, if_neg (by omega), zU, if_neg (by omega)]) rfl (by omega) (by omega)
  exact sI_lo10 (sI_box I i1) (fun k hk => by unfold nS; rw [zU, if_neg (by omega)])
theorem sI_nW2 (I : sI T N) (hb : b < sN T 3) : sI T (nW2 N b) := by
  unfold nW2
  split
  · next h => exact sI_nS I hb h
  · exact I
theorem sI_wF (I : sI T N) (due : Int32) : ∀ t, sI T (wF T due N t)
  | 0 => I
  | t + 1 => by
    have ih := sI_wF I due t
    rw [wF_s]
    split
    · cases ho : sOpn T (wF T due N t) due (Int32.ofNat t) with
      | none => exact ih
      | some b => exact sI_nO ih (sOpn_lt ho) _
    · exact ih
theorem wG_s (T N : Nat → Int32) (t : Nat) : wG T N (t + 1) = match sOn T (wG T N t).1 (Int32.ofNat t) with
    | none => wG T N t
    | some b => (nW2 (nW1 T (wG T N t).1 b t) b, (wG T N t).2 + (if sC (wG T N t).1 b < 4 then 1 else 0)) := rfl
theorem sI_wG (I : sI T N) : ∀ t, t ≤ sN T 4 → sI T (wG T N t).1
  | 0, _ => I
  | t + 1, h => by
    have ih := sI_wG I t (by omega)
    rw [wG_s]
    cases ho : sOn T (wG T N t).1 (Int32.ofNat t) with
    | none => exact ih
    | some b => exact sI_nW2 (sI_nW1 ih (sOn_lt ho) (by omega)) (sOn_lt ho)
theorem z_nS (hb : b < 12) (z : ∀ k, 538 ≤ k → N k = 0) : ∀ k, 538 ≤ k → nS N b k = 0 := fun k hk => by
  unfold nS
  rw [zU, if_neg (by omega)]
  exact nB_z hb z k hk
theorem z_wF (I : sI T N) (due : Int32) (z : ∀ k, 538 ≤ k → N k = 0) : ∀ t, ∀ k, 538 ≤ k → wF T due N t k = 0
  | 0 => z
  | t + 1 => by
    have hd := sI_bd I
    have ih := z_wF I due z t
    rw [wF_s]
    split
    · cases ho : sOpn T (wF T due N t) due (Int32.ofNat t) with
      | none => exact ih
      | some b => exact nB_z (by have := sOpn_lt ho; omega) ih
    · exact ih
theorem z_wG (I : sI T N) (z : ∀ k, 538 ≤ k → N k = 0) : ∀ t, ∀ k, 538 ≤ k → (wG T N t).1 k = 0
  | 0 => z
  | t + 1 => by
    have hd := sI_bd I
    have ih := z_wG I z t
    rw [wG_s]
    cases ho : sOn T (wG T N t).1 (Int32.ofNat t) with
    | none => exact ih
    | some b =>
      have hb := sOn_lt ho
      show ∀ k, 538 ≤ k → nW2 (nW1 T (wG T N t).1 b t) b k = 0
      have h1 : ∀ k, 538 ≤ k → nW1 T (wG T N t).1 b t k = 0 := by
        unfold nW1
        split
        · exact nB_z (by omega) ih
        · exact ih
      unfold nW2
      split
      · exact z_nS (by omega) h1
      · exact h1
end P47

