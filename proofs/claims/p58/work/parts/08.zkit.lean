/-! ZKIT: an abstract heap (address -> object), pure programs over it (Option), and the judgement zG: 'whatever the pure program F answers, the machine from here comes to'. Every row is an instruction. -/
section ZK
abbrev zOb : Type := (Nat × vp_A) ⊕ (Nat × List Value)
abbrev zHp : Type := Nat → Option zOb
def zCl : List vw_C := [(RX0, TX0, 9), (RX1, TX1, 2), (RX2, TX2, 2), (RX3, TX3, 6), (RX4, TX4, 4), (RX5, TX5, 10), (RX6, TX6, 5), (RX7, TX7, 5), (RJ0, TJ0, 4), (RJ4, TJ4, 4)]
def zTy (tc : Nat → ClassId) : List (ClassId × FieldType) := [(tc 0, .int), (tc 1, .byte), (tc 2, .int), (tc 3, .object "CountHall$Box"), (tc 4, .object "CountHall$State"), (tc 5, .array .int)]
/-- private methods of the super class, selected in a StringBuilder: not words of the tables, but they follow (z_selUp) -/
def zSel : List Cond := [Cond.selects "java/lang/StringBuilder" yJ5_newCapacity_0f7a4 yJ5_newCapacity_0f7a4, Cond.selects "java/lang/StringBuilder" yJ5_ensureCapacityInternal_d00df yJ5_ensureCapacityInternal_d00df, Cond.selects "java/lang/StringBuilder" yJ5_inflateIfNeededFor_a7421 yJ5_inflateIfNeededFor_a7421, Cond.selects "java/lang/StringBuilder" yJ5_putStringAt_47b60 yJ5_putStringAt_47b60]
theorem zSel_good : ∀ w ∈ zSel, goodWord w = true := by
  intro w h
  simp only [zSel, List.mem_cons, List.not_mem_nil, or_false] at h
  rcases h with rfl | rfl | rfl | rfl <;> rfl
def zGT : List Cond := lw_tbl.filter goodWord ++ zSel
theorem zGT_of {w : Cond} (h : w ∈ lw_tbl) (hg : goodWord w = true) : w ∈ zGT := List.mem_append_left _ (List.mem_filter.mpr ⟨h, hg⟩)
theorem zGT_sel {w : Cond} (i : Nat) (h : zSel[i]? = some w) : w ∈ zGT := List.mem_append_right _ (List.mem_of_getElem? h)
theorem zGT_word {w : Cond} (h : w ∈ zGT) : goodWord w = true := (List.mem_append.mp h).elim (fun h => (List.mem_filter.mp h).2) (zSel_good w)
def zup (hp : zHp) (a : Nat) (o : zOb) : zHp := fun q => if q = a then some o else hp q
/-- a cell that nobody writes: an int or byte array; a String -/
def zRoA (b0 : Nat) (s : State) (t a : Nat) (A : vp_A) (H : Heap) : Prop := ∃ f : Nat → Int32, A.2 = .inl f ∧ va_T (if t = 0 then .int else .byte) a A.1 (fun j => .int (f j)) (fun q => b0 ≤ q) s H
def zRoS (b0 : Nat) (s : State) (a : Nat) (fs : List Value) (H : Heap) : Prop := ∃ v : Nat, fs = [.ref v, .int 0] ∧ va_O "java/lang/String" a (fun q => q ≠ a) s H ∧ va_OF "java/lang/String" "coder" "B" (.int 0) a (fun q => q ≠ a) s H ∧ va_OF "java/lang/String" "value" "[B" (.ref v) a (fun q => q ≠ a) s H
def zAt (D : va_G) (tc : Nat → ClassId) (b0 : Nat) (s : State) (a : Nat) (o : zOb) (H : Heap) : Prop := match o with
  | .inl (t, A) => if t < 10 then b0 ≤ a ∧ H[a]? = some (vp_cell (tc t) A) else zRoA b0 s (t - 10) a A H
  | .inr (c, fs) => if c < 20 then b0 ≤ a ∧ ∃ r : vw_C, zCl[c]? = some r ∧ t_OB a (D.1 c) r.2.2 (D.2 c) H (vp_V fs) else zRoS b0 s a fs H
def zI (D : va_G) (tc : Nat → ClassId) (b0 : Nat) (s : State) (hp : zHp) (H : Heap) : Prop := ∀ a o, hp a = some o → zAt D tc b0 s a o H
/-- the String constants: whose pool, which entry, the text -/
def zStr : List (String × Nat × String) := [("CountHall$Loader", 55, "party"), ("CountHall$Input", 57, "party"), ("CountHall$Input", 63, "region"), ("CountHall$Input", 65, "ward"), ("CountHall$Input", 67, "box"), ("CountHall$Input", 69, "table"), ("CountHall$Input", 71, "in"), ("CountHall$Input", 73, "set"), ("CountHall$Loader", 64, "region"), ("CountHall$Loader", 100, "in"), ("CountHall$Loader", 69, "ward"), ("CountHall$Loader", 74, "box"), ("CountHall$Loader", 79, "table"), ("CountHall$Loader", 84, "set"), ("CountHall$Loader", 140, "trigger"), ("CountHall$Loader", 142, "tolerance"), ("CountHall", 308, "no such thing"), ("CountHallLaw", 74, "set trigger "), ("CountHallLaw", 82, ";set tolerance "), ("CountHallLaw", 84, ";"), ("CountHallLaw", 86, "party "), ("CountHallLaw", 69, ""), ("CountHallLaw", 92, "region "), ("CountHallLaw", 97, " in "), ("CountHallLaw", 99, "ward "), ("CountHallLaw", 21, " "), ("CountHallLaw", 107, "box "), ("CountHallLaw", 121, "table ")]
/-- words of the tables that a call doesn't hand on by itself -/
def zNwL : List Cond := [.castable "[B" "java/lang/Cloneable", .castable "java/lang/IndexOutOfBoundsException" "java/lang/IndexOutOfBoundsException", .declares ⟨"java/lang/RuntimeException", "<init>", "(Ljava/lang/String;)V"⟩, .declares ⟨"java/lang/Exception", "<init>", "(Ljava/lang/String;)V"⟩, .declares ⟨"java/lang/Throwable", "<init>", "(Ljava/lang/String;)V"⟩, .declares ⟨"java/lang/RuntimeException", "<init>", "()V"⟩, .declares ⟨"java/lang/Exception", "<init>", "()V"⟩, .declares ⟨"java/lang/Throwable", "<init>", "()V"⟩, .methodLinkNest "CountHall" 11 ⟨"CountHall$Loader", "<init>", "()V"⟩ "CountHall", .methodLinkNest "CountHall$Loader" 11 ⟨"CountHall$Input", "<init>", "()V"⟩ "CountHall", .methodLinkNest "CountHall$Loader" 20 ⟨"CountHall$Plan", "<init>", "()V"⟩ "CountHall", .methodLinkNest "CountHall" 18 ⟨"CountHall$Hall", "<init>", "()V"⟩ "CountHall", .methodLinkNest "CountHall$Hall" 11 ⟨"CountHall$Plan", "<init>", "()V"⟩ "CountHall", .methodLinkNest "CountHall$State" 24 ⟨"CountHall$Box", "<init>", "()V"⟩ "CountHall", .methodLinkNest "CountHall$Loader" 144 ⟨"CountHall", "mostOf", "(I)I"⟩ "CountHall"]
theorem va_AOA.moved {ty : FieldType} {u U : State} (hvm : u.vm.Alike U.vm) (h : va_AOA ty u) : va_AOA ty U := Jvm.Stand.arrayOver_alikeB hvm h
def zAO (U : State) : Prop := va_AO "CountHall$Box" U ∧ va_AO "CountHall$State" U ∧ va_AOA .int U
theorem zAO.moved {u U : State} (hvm : u.vm.Alike U.vm) (h : zAO u) : zAO U := ⟨h.1.moved hvm, h.2.1.moved hvm, h.2.2.moved hvm⟩
theorem zNwL_warm {s U : State} (hW : s.WarmedH U.vm) (h : ∀ w ∈ zNwL, va_Nw w s) : ∀ w ∈ zNwL, va_Nw w U := by
  intro w hw
  have h1 := h w hw
  simp only [zNwL, List.mem_cons, List.not_mem_nil, or_false] at hw
  rcases hw with rfl | rfl | rfl | rfl | rfl | rfl | rfl | rfl | rfl | rfl | rfl | rfl | rfl | rfl | rfl
  · exact va_Nw.warmC hW h1
  · exact va_Nw.warmC hW h1
  · exact va_Nw.warmD hW h1
  · exact va_Nw.warmD hW h1
  · exact va_Nw.warmD hW h1
  · exact va_Nw.warmD hW h1
  · exact va_Nw.warmD hW h1
  · exact va_Nw.warmD hW h1
  · exact va_Nw.warmM hW h1
  · exact va_Nw.warmM hW h1
  · exact va_Nw.warmM hW h1
  · exact va_Nw.warmM hW h1
  · exact va_Nw.warmM hW h1
  · exact va_Nw.warmM hW h1
  · exact va_Nw.warmM hW h1
theorem zNwL_same {s U : State} (hv : s.vm = U.vm) (h : ∀ w ∈ zNwL, va_Nw w s) : ∀ w ∈ zNwL, va_Nw w U := by
  intro w hw
  have h1 := h w hw
  exact va_Nw.same ((by decide +kernel : ∀ w ∈ zNwL, w.onTables = true) w hw) hv h1
/-- what is read of statics and constants: given once, never written -/
def zRO (b0 : Nat) (ro : Nat → Nat) (U : State) (H : Heap) : Prop := va_Z "java/lang/String" "COMPACT_STRINGS" "Z" (.int 1) (fun q => b0 ≤ q) U H ∧ (∀ (i : Nat) (q : String × Nat × String), zStr[i]? = some q → vk_R q.1 q.2.1 q.2.2 (ro i) U) ∧ va_Zq "jdk/internal/util/Preconditions" "SIOOBE_FORMATTER" "Ljava/util/function/BiFunction;" (fun q => b0 ≤ q) U H ∧ (∀ w ∈ zNwL, va_Nw w U) ∧ vx_Zq Bundle.tN "UNASSIGNED_STACK" Bundle.steD (fun q => b0 ≤ q) U H ∧ vx_Zq Bundle.tN "SUPPRESSED_SENTINEL" Bundle.listD (fun q => b0 ≤ q) U H ∧ zAO U ∧ va_Z "java/lang/Integer" "DigitOnes" "[B" (.ref (ro 30)) (fun q => b0 ≤ q) U H ∧ va_Z "java/lang/Integer" "DigitTens" "[B" (.ref (ro 31)) (fun q => b0 ≤ q) U H
theorem zRO.moved {b0 : Nat} {ro : Nat → Nat} {u U : State} {H : Heap} (hW : u.WarmedH U.vm) (h : zRO b0 ro u H) : zRO b0 ro U H := by
  obtain ⟨h1, h2, h3, h4, h5, h6, h7, h8, h9⟩ := h
  exact ⟨va_Z.moved hW.alike h1, fun i q hq => (h2 i q hq).warm hW, h3.elim (fun q => Or.inl (va_Z.moved hW.alike q)) (fun ⟨t, q⟩ => Or.inr ⟨t, va_Z.moved hW.alike q⟩), zNwL_warm hW h4, h5.moved hW.alike, h6.moved hW.alike, h7.moved hW.alike, va_Z.moved hW.alike h8, va_Z.moved hW.alike h9⟩
theorem zRO.same {b0 : Nat} {ro : Nat → Nat} {u U : State} {H : Heap} (hv : U.vm = u.vm) (h : zRO b0 ro u H) : zRO b0 ro U H := by
  have hW : u.vm.Alike U.vm := by rw [hv]; exact Vm.Alike.refl u.vm
  obtain ⟨h1, h2, h3, h4, h5, h6, h7, h8, h9⟩ := h
  exact ⟨va_Z.moved hW h1, fun i q hq => (h2 i q hq).same hv, h3.elim (fun q => Or.inl (va_Z.moved hW q)) (fun ⟨t, q⟩ => Or.inr ⟨t, va_Z.moved hW q⟩), zNwL_same hv.symm h4, h5.moved hW, h6.moved hW, h7.moved hW, va_Z.moved hW h8, va_Z.moved hW h9⟩
theorem zRO.kept {b0 : Nat} {ro : Nat → Nat} {U : State} {H H1 : Heap} (h : zRO b0 ro U H) (hq : ∀ a : Nat, a < H.size → ¬ b0 ≤ a → H1[a]? = H[a]?) : zRO b0 ro U H1 := by
  obtain ⟨h1, h2, h3, h4, h5, h6, h7, h8, h9⟩ := h
  exact ⟨va_Z.kept h1 hq, h2, h3.elim (fun q => Or.inl (va_Z.kept q hq)) (fun ⟨t, q⟩ => Or.inr ⟨t, va_Z.kept q hq⟩), h4, h5.kept hq, h6.kept hq, h7, va_Z.kept h8 hq, va_Z.kept h9 hq⟩
theorem zRoA.moved {b0 t a : Nat} {A : vp_A} {u U : State} {H : Heap} (hvm : u.vm.Alike U.vm) (h : zRoA b0 u t a A H) : zRoA b0 U t a A H := by
  obtain ⟨f, h1, h2⟩ := h
  exact ⟨f, h1, h2.moved hvm⟩
theorem zRoS.moved {b0 a : Nat} {fs : List Value} {u U : State} {H : Heap} (hvm : u.vm.Alike U.vm) (h : zRoS b0 u a fs H) : zRoS b0 U a fs H := by
  obtain ⟨v, h1, h2, h3, h4⟩ := h
  exact ⟨v, h1, h2.moved hvm, h3.moved hvm, h4.moved hvm⟩
theorem zAt.moved {D : va_G} {tc : Nat → ClassId} {b0 a : Nat} {o : zOb} {u U : State} {H : Heap} (hvm : u.vm.Alike U.vm) (h : zAt D tc b0 u a o H) : zAt D tc b0 U a o H := by
  obtain ⟨t, A⟩ | ⟨c, fs⟩ := o
  · unfold zAt at h ⊢
    dsimp only at h ⊢
    split
    · next q => rw [if_pos q] at h; exact h
    · next q => rw [if_neg q] at h; exact h.moved hvm
  · unfold zAt at h ⊢
    dsimp only at h ⊢
    split
    · next q => rw [if_pos q] at h; exact h
    · next q => rw [if_neg q] at h; exact h.moved hvm
theorem zI.moved {D : va_G} {tc : Nat → ClassId} {b0 : Nat} {hp : zHp} {u U : State} {H : Heap} (hvm : u.vm.Alike U.vm) (h : zI D tc b0 u hp H) : zI D tc b0 U hp H := fun a o q => (h a o q).moved hvm
theorem zAt.kept {D : va_G} {tc : Nat → ClassId} {b0 a w : Nat} {o : zOb} {s : State} {H H1 : Heap} (h : zAt D tc b0 s a o H) (hw : b0 ≤ w) (oq : ∀ q : Nat, q ≠ w → H1[q]? = H[q]?) (ha : a ≠ w) : zAt D tc b0 s a o H1 := by
  have hq : ∀ q : Nat, q < H.size → ¬ b0 ≤ q → H1[q]? = H[q]? := fun q _ h2 => oq q (fun e => h2 (by rw [e]; exact hw))
  obtain ⟨t, A⟩ | ⟨c, fs⟩ := o
  · unfold zAt at h ⊢
    dsimp only at h ⊢
    split
    · next q => rw [if_pos q] at h; exact ⟨h.1, by rw [oq a ha]; exact h.2⟩
    · next q =>
      rw [if_neg q] at h
      obtain ⟨f, h1, h2⟩ := h
      exact ⟨f, h1, h2.kept hq⟩
  · unfold zAt at h ⊢
    dsimp only at h ⊢
    split
    · next q =>
      rw [if_pos q] at h
      obtain ⟨h0, r, h1, h2⟩ := h
      exact ⟨h0, r, h1, h2.kept (oq a ha)⟩
    · next q =>
      rw [if_neg q] at h
      obtain ⟨v, h1, h2, h3, h4⟩ := h
      have hs : ∀ q : Nat, q < H.size → ¬ q ≠ a → H1[q]? = H[q]? := fun q _ h2 => by rw [Classical.not_not.mp h2]; exact oq a ha
      exact ⟨v, h1, h2.kept hs, h3.kept hs, h4.kept hs⟩
/-- more heap: what was there stays -/
theorem zAt.grown {D : va_G} {tc : Nat → ClassId} {b0 a : Nat} {o : zOb} {s : State} {H H1 : Heap} (h : zAt D tc b0 s a o H) (hq : ∀ q : Nat, q < H.size → H1[q]? = H[q]?) : zAt D tc b0 s a o H1 := by
  have hq2 : ∀ q : Nat, q < H.size → ¬ b0 ≤ q → H1[q]? = H[q]? := fun q h1 _ => hq q h1
  obtain ⟨t, A⟩ | ⟨c, fs⟩ := o
  · unfold zAt at h ⊢
    dsimp only at h ⊢
    split
    · next q => rw [if_pos q] at h; exact ⟨h.1, by rw [hq a (Array.getElem?_eq_some_iff.mp h.2).1]; exact h.2⟩
    · next q =>
      rw [if_neg q] at h
      obtain ⟨f, h1, h2⟩ := h
      exact ⟨f, h1, h2.kept hq2⟩
  · unfold zAt at h ⊢
    dsimp only at h ⊢
    split
    · next q =>
      rw [if_pos q] at h
      obtain ⟨h0, r, h1, h2⟩ := h
      have hl : a < H.size := by
        obtain ⟨cell, g1, -⟩ := h2
        exact (Array.getElem?_eq_some_iff.mp g1).1
      exact ⟨h0, r, h1, h2.kept (hq a hl)⟩
    · next q =>
      rw [if_neg q] at h
      obtain ⟨v, h1, h2, h3, h4⟩ := h
      have hs : ∀ q : Nat, q < H.size → ¬ q ≠ a → H1[q]? = H[q]? := fun q h1 _ => hq q h1
      exact ⟨v, h1, h2.kept hs, h3.kept hs, h4.kept hs⟩
theorem zI.set {D : va_G} {tc : Nat → ClassId} {b0 w : Nat} {o : zOb} {hp : zHp} {s : State} {H H1 : Heap} (h : zI D tc b0 s hp H) (hw : b0 ≤ w) (oq : ∀ q : Nat, q ≠ w → H1[q]? = H[q]?) (he : zAt D tc b0 s w o H1) : zI D tc b0 s (zup hp w o) H1 := by
  intro a e ha
  unfold zup at ha
  split at ha
  · next q => cases ha; rw [q]; exact he
  · next q => exact (h a e ha).kept hw oq q
/-! pure reads and writes -/
def zis (hp : zHp) (a c : Nat) : Option Unit := match hp a with
  | some (.inr (c', _)) => if c' = c then some () else none
  | _ => none
def zgI (hp : zHp) (a c k : Nat) : Option Int32 := match hp a with
  | some (.inr (c', fs)) => if c' = c then (match fs[k]? with | some (.int x) => some x | _ => none) else none
  | _ => none
def zgR (hp : zHp) (a c k : Nat) : Option Nat := match hp a with
  | some (.inr (c', fs)) => if c' = c then (match fs[k]? with | some (.ref x) => some x | _ => none) else none
  | _ => none
def zpV (hp : zHp) (a c k : Nat) (v : Value) : Option zHp := match hp a with
  | some (.inr (c', fs)) => if c' = c ∧ k < fs.length then some (zup hp a (.inr (c', fs.set k v))) else none
  | _ => none
/-- a boolean field keeps 0 or 1 -/
def zpZ (hp : zHp) (a c k : Nat) (x : Int32) : Option zHp := if x = 0 ∨ x = 1 then zpV hp a c k (.int x) else none
def zaI (hp : zHp) (t a : Nat) (i : Int32) : Option Int32 := match hp a with
  | some (.inl (t', n, .inl f)) => if (t' = t ∨ t' = t + 10) ∧ ¬ (i < 0 ∨ n ≤ i.toNatClampNeg) then some (f i.toNatClampNeg) else none
  | _ => none
def zaR (hp : zHp) (t a : Nat) (i : Int32) : Option Nat := match hp a with
  | some (.inl (t', n, .inr (.inr (.inr (.inr f))))) => if t' = t ∧ ¬ (i < 0 ∨ n ≤ i.toNatClampNeg) then f i.toNatClampNeg else none
  | _ => none
def zaL (hp : zHp) (t a : Nat) (i : Int32) : Option Int64 := match hp a with
  | some (.inl (t', n, .inr (.inl f))) => if t' = t ∧ ¬ (i < 0 ∨ n ≤ i.toNatClampNeg) then some (f i.toNatClampNeg) else none
  | _ => none
def zsI (hp : zHp) (a : Nat) (i x : Int32) : Option zHp := match hp a with
  | some (.inl (t', n, .inl f)) => if t' = 0 ∧ ¬ (i < 0 ∨ n ≤ i.toNatClampNeg) then some (zup hp a (.inl (t', n, .inl (upd f i.toNatClampNeg x)))) else none
  | _ => none
def zsB (hp : zHp) (a : Nat) (i x : Int32) : Option zHp := match hp a with
  | some (.inl (t', n, .inl f)) => if t' = 1 ∧ ¬ (i < 0 ∨ n ≤ i.toNatClampNeg) then some (zup hp a (.inl (t', n, .inl (upd f i.toNatClampNeg (x.toInt8.toInt32))))) else none
  | _ => none
def zsL (hp : zHp) (a : Nat) (i : Int32) (x : Int64) : Option zHp := match hp a with
  | some (.inl (t', n, .inr (.inl f))) => if t' = 2 ∧ ¬ (i < 0 ∨ n ≤ i.toNatClampNeg) then some (zup hp a (.inl (t', n, .inr (.inl (vp_updL f i.toNatClampNeg x))))) else none
  | _ => none
/-- a reference stored: the array of tag t keeps objects of class c -/
def zsR (hp : zHp) (t c a : Nat) (i : Int32) (v : Nat) : Option zHp := match hp a, hp v with
  | some (.inl (t', n, .inr (.inr (.inr (.inr f))))), some (.inr (c', _)) => if t' = t ∧ c' = c ∧ ¬ (i < 0 ∨ n ≤ i.toNatClampNeg) then some (zup hp a (.inl (t', n, .inr (.inr (.inr (.inr (va_up f i.toNatClampNeg (some v)))))))) else none
  | _, _ => none
def zlen (hp : zHp) (t a : Nat) : Option Int32 := match hp a with
  | some (.inl (t', n, _)) => if t' = t ∨ t' = t + 10 then some (Int32.ofNat n) else none
  | _ => none
/-- System.arraycopy of int arrays -/
def zcpI (hp : zHp) (a0 : Nat) (sp : Int32) (a : Nat) (dp n : Int32) : Option zHp := match hp a0, hp a with
  | some (.inl (t0, n0, .inl f)), some (.inl (t1, n1, .inl g)) => if t0 = 0 ∧ t1 = 0 ∧ ¬ sp < 0 ∧ ¬ dp < 0 ∧ ¬ n < 0 ∧ sp.toNatClampNeg + n.toNatClampNeg ≤ n0 ∧ dp.toNatClampNeg + n.toNatClampNeg ≤ n1 then some (zup hp a (.inl (t1, n1, .inl (va_cpy f g sp.toNatClampNeg dp.toNatClampNeg n.toNatClampNeg)))) else none
  | _, _ => none
def zlet {α β : Type} (e : α) (k : α → Option β) : Option β := k e
def zb2 {α β γ : Type} (m : Option (α × β)) (k : α → β → Option γ) : Option γ := m.bind fun r => k r.1 r.2
def zdiv (x y : Int32) : Option Int32 := if y = 0 then none else some (x / y)
def zrem (x y : Int32) : Option Int32 := if y = 0 then none else some (x - x / y * y)
/-- an answer of a small type -/
def zrN {β : Type} (ty : FieldType) (x : Int32) (h : β) : Option (Int32 × β) := if vp_nar ty x = x then some (x, h) else none
/-! the machine's part of a judgement -/
abbrev zX : Type := Program × Launch × Env × Room × State × MethodId × Array Value × List Frame × Method × Code × va_G × (Nat → ClassId) × (Nat → Nat) × Nat × Nat × Nat × Nat
def zC (P : zX) (cc : ByteArray) (own : String) (ret : Option FieldType) (ht mc ms nn : Nat) (ro0 : Nat → Nat) : Prop := match P with
  | (p, _, _, R, s, m, args, _, meth, c, D, tc, ro, b0, mc', ms', nL) => CallFix p m c cc nL s args zGT own ∧ meth.sig.returnType = ret ∧ meth.locks = false ∧ va_K D zCl (zTy tc) s ∧ zRO b0 ro s s.heap ∧ b0 ≤ s.heap.size ∧ R = { frames := ht, cells := mc, slots := ms, locals := 40 * ht } ∧ mc' = mc ∧ ms' = ms ∧ nL = nn ∧ ro = ro0
def zQ (D : va_G) (tc : Nat → ClassId) (b0 : Nat) (v : Option Value) (hp' : zHp) (sz' : Nat) : Array Value → State → Outcome → State → Prop := fun _ st oc t => oc = .returned v ∧ t.heap.size = sz' ∧ zI D tc b0 t hp' t.heap ∧ va_F (fun q => b0 ≤ q) st t
def zW (D : va_G) (tc : Nat → ClassId) (ro : Nat → Nat) (b0 : Nat) (hp : zHp) (sz : Nat) (U : State) : Prop := U.heap.size = sz ∧ zI D tc b0 U hp U.heap ∧ va_K D zCl (zTy tc) U ∧ zRO b0 ro U U.heap ∧ b0 ≤ sz
def zM (l : Launch) (y : MethodName) (cc : ByteArray) (n : Nat) (ret : Option FieldType) (ht mc ms : Nat) (As : List Value) (D : va_G) (tc : Nat → ClassId) (ro : Nat → Nat) (b0 : Nat) (hp : zHp) (sz : Nat) (v : Option Value) (hp' : zHp) (sz' : Nat) : Prop :=
  Met l y (Cond.code y cc n ret :: zGT) { frames := ht, cells := mc, slots := ms, locals := 40 * ht } (va_Pc As (zW D tc ro b0 hp sz)) (zQ D tc b0 v hp' sz') mc ms (fun q => b0 ≤ q)
/-- from here, with the heap hp, the pure program F (what is left of it) tells where the machine comes to -/
def zGq {ρ : Type} (P : zX) (Qf : ρ → State → Prop) (F : Option ρ) (pc : Nat) (lv : List (Nat × Value)) (stk : List Value) (hp : zHp) (sz uc us : Nat) : Prop := match P with
  | (p, l, e, R, s, m, args, below, meth, c, D, tc, _, b0, _, _, nL) => ∀ r : ρ, F = some r → ∀ (H : Heap) (locs : List Loc) (ls : Array Slot), H.size = sz → zI D tc b0 s hp H → va_S (fun q => b0 ≤ q) s.heap H locs → lv_has ls nL lv → W p l e R s m args below meth c H locs uc us (Qf r) (F0 m pc ls stk)
def zEnd {ρ : Type} (P : zX) (o : ρ → Option Value × zHp × Nat) (r : ρ) : State → Prop := match P with
  | (_, _, _, _, s, _, args, below, _, _, D, tc, _, b0, mc, ms, _) => MQ below (zQ D tc b0 (o r).1 (o r).2.1 (o r).2.2) args s mc ms (fun q => b0 ≤ q)
abbrev zG {ρ : Type} (P : zX) (o : ρ → Option Value × zHp × Nat) (F : Option ρ) (pc : Nat) (lv : List (Nat × Value)) (stk : List Value) (hp : zHp) (sz uc us : Nat) : Prop := zGq P (zEnd P o) F pc lv stk hp sz uc us
def zoI (sz : Nat) : Int32 × zHp → Option Value × zHp × Nat := fun r => (some (.int r.1), r.2, sz)
def zoV (sz : Nat) : zHp → Option Value × zHp × Nat := fun r => (none, r, sz)
def zoR (sz : Nat) : Nat × zHp → Option Value × zHp × Nat := fun r => (some (.ref r.1), r.2, sz)
/-- answers of methods that only read -/
def zoP (sz : Nat) (hp : zHp) : Int32 → Option Value × zHp × Nat := fun x => (some (.int x), hp, sz)
def zoPR (sz : Nat) (hp : zHp) : Nat → Option Value × zHp × Nat := fun x => (some (.ref x), hp, sz)
def zoPU (sz : Nat) (hp : zHp) : Unit → Option Value × zHp × Nat := fun _ => (none, hp, sz)
def zrNp (ty : FieldType) (x : Int32) : Option Int32 := if vp_nar ty x = x then some x else none
def zmax (x y : Int32) : Int32 := if x < y then y else x
def zmin (x y : Int32) : Int32 := if y < x then y else x
def zabs (x : Int32) : Int32 := if 0 ≤ x then x else 0 - x
def zushr (x y : Int32) : Int32 := (x.toUInt32 >>> (y.toUInt32 &&& Int32.toUInt32 31)).toInt32
/-! locals, in order -/
def zin (i : Nat) (v : Value) : List (Nat × Value) → List (Nat × Value)
  | [] => [(i, v)]
  | q :: t => if i < q.1 then (i, v) :: q :: t else q :: zin i v t
theorem zin_mem {i : Nat} {v : Value} {q : Nat × Value} : ∀ {l : List (Nat × Value)}, q ∈ zin i v l → q ∈ (i, v) :: l
  | [], h => h
  | p :: t, h => by
    unfold zin at h
    split at h
    · exact h
    · rcases List.mem_cons.mp h with e | h
      · exact List.mem_cons_of_mem _ (by rw [e]; exact List.mem_cons_self)
      · rcases List.mem_cons.mp (zin_mem h) with e | h
        · rw [e]; exact List.mem_cons_self
        · exact List.mem_cons_of_mem _ (List.mem_cons_of_mem _ h)
def zst (lv : List (Nat × Value)) (i : Nat) (v : Value) : List (Nat × Value) := zin i v (lv.filter (fun q => !(q.1 == i) && !(q.1 + 1 == i && q.2.category == 2)))
theorem zst_has {ls : Array Slot} {nL i : Nat} {v : Value} {lv : List (Nat × Value)} (h : lv_has ls nL ((i, v) :: lv.filter (fun q => !(q.1 == i) && !(q.1 + 1 == i && q.2.category == 2)))) : lv_has ls nL (zst lv i v) := ⟨h.1, h.2.1, fun q hq => h.2.2 q (zin_mem hq)⟩
end ZK
