/-! what makes cells: the programs carry the heap's size and what has been used of the room (cells uc, slots us); 'zchk' asks whether the room holds -/
section ZA
variable {ρ : Type} {P : zX} {Qf : ρ → State → Prop} {F : Option ρ} {pc : Nat} {lv : List (Nat × Value)} {stk : List Value} {hp : zHp} {sz uc us : Nat} {cc : ByteArray} {own : String} {ret : Option FieldType} {ht mc ms nn : Nat} {ro0 : Nat → Nat}
def zchk {β : Type} (c : Prop) [Decidable c] (k : Option β) : Option β := if c then k else none
theorem z_chk {c : Prop} [Decidable c] (k : c → zGq P Qf F pc lv stk hp sz uc us) : zGq P Qf (zchk c F) pc lv stk hp sz uc us := by
  unfold zchk
  split
  · next h => exact k h
  · exact z_none
def zCi (P : zX) : Prop := match P with
  | (_, _, _, _, _, _, _, _, meth, _) => meth.name = "<init>"
/-- a new cell, the next one -/
theorem zI.push {D : va_G} {tc : Nat → ClassId} {b0 : Nat} {o : zOb} {hp : zHp} {s : State} {H H1 : Heap} (h : zI D tc b0 s hp H) (oq : ∀ q : Nat, q < H.size → H1[q]? = H[q]?) (he : zAt D tc b0 s H.size o H1) : zI D tc b0 s (zup hp H.size o) H1 := by
  intro a e ha
  unfold zup at ha
  split at ha
  · next q => cases ha; rw [q]; exact he
  · next q => exact (h a e ha).grown oq
def zAW (own : String) (idx ci : Nat) (fs : List Value) : Prop := ∃ (Cn : String) (T : u_T) (N : Nat) (ty : Nat → FieldType), ci < 20 ∧ zCl[ci]? = some (Cn, T, N) ∧ fs.length = N ∧ (∀ w ∈ u_ws Cn T N, w ∈ zGT) ∧ (∀ k, k < N → parseFieldDescriptor (T k).2.2.1 = some (ty k)) ∧ (∀ j, j < N → defaultValue (ty j) = vp_V fs j) ∧ Cond.classLink own idx Cn ∈ zGT ∧ Cond.instantiable Cn N ∈ zGT ∧ Cond.initialized Cn ∈ zGT
theorem z_new (C : zC P cc own ret ht mc ms nn ro0) {idx ci : Nat} {fs : List Value} {f : zHp → Option ρ} (hw : zAW own idx ci fs) (hd : decode cc pc = .ok (.new idx, 3)) (hc : uc + 1 ≤ mc ∧ us + fs.length ≤ ms)
    (kk : ∀ h, zGq P Qf (f h) (pc + 3) lv (.ref sz :: stk) h (sz + 1) (uc + 1) (us + fs.length)) : zGq P Qf (zlet (zup hp sz (.inr (ci, fs))) f) pc lv stk hp sz uc us := by
  obtain ⟨p, l, e, R, s, m, args, below, meth, c, D, tc, ro, b0, mc', ms', nL⟩ := P
  obtain ⟨⟨hx, hb, hml, hown, hts⟩, hret, hlocks, hK, hRO, hb0, hR, hmc, hms, hnn, hro⟩ := C
  subst hnn
  subst hro
  intro r hr H locs ls h1 h2 h3 h4
  obtain ⟨Cn, T, N, ty, hci, hcl, hN, hin, hty, hfs, w1, w2, w3⟩ := hw
  subst hN
  have hKn := hK.1 ci _ hcl
  refine W.newcK hx hb hown (hts _ w1) (hts _ w2) (hts _ w3) rfl hd (by rw [hR]; exact hc.1) (by rw [hR]; exact hc.2) hKn.2.1 h1 fun H1 kC hkC e1 z1 o1 => ?_
  have hr' : f (zup hp sz (.inr (ci, fs))) = some r := hr
  rw [← h1] at e1 z1 o1
  have hz9 : zAt D tc b0 s H.size (.inr (ci, fs)) H1 := by
    unfold zAt
    dsimp only
    rw [if_pos hci]
    exact ⟨Nat.le_trans hb0 h3.1, _, hcl, (u_born ty hts hin hKn hkC e1 hty).to hfs⟩
  exact kk _ r hr' H1 locs ls (by rw [z1, h1]) (by rw [← h1]; exact h2.push o1 hz9) ⟨Nat.le_trans h3.1 (by omega), fun x g1 g2 => (o1 x (Nat.lt_of_lt_of_le g1 h3.1)).trans (h3.2.1 x g1 g2), h3.2.2⟩ h4
theorem z_newarr (C : zC P cc own ret ht mc ms nn ro0) {t : Nat} {ty : FieldType} {atype : ArrayType} {n : Int32} {A : (Nat → Int32) ⊕ (Nat → Int64) ⊕ (Nat → UInt32) ⊕ (Nat → UInt64) ⊕ (Nat → Option Nat)} {f : zHp → Option ρ} (hty : newarray.typeOf atype = ty) (htt : ∀ tc, (zTy tc)[t]? = some (tc t, ty)) (ht10 : t < 10) (hra : ∀ (U : State) (cA : ClassId), va_RA U cA ty → U.vm.findClass ("[" ++ ty.toString) = some cA) (hA : ∀ (cA : ClassId) (N : Nat), vp_cell cA (N, A) = arrV cA N (fun _ => defaultValue ty)) (harr : Cond.arrayClass ty ∈ zGT) (hd : decode cc pc = .ok (.newarray atype, 2)) (hbt : componentBytes ty ≤ 8) (hc : ¬ n < 0 ∧ n.toNatClampNeg ≤ 60000 ∧ uc + 1 ≤ mc ∧ us + n.toNatClampNeg ≤ ms)
    (kk : ∀ h, zGq P Qf (f h) (pc + 2) lv (.ref sz :: stk) h (sz + 1) (uc + 1) (us + n.toNatClampNeg)) : zGq P Qf (zlet (zup hp sz (.inl (t, n.toNatClampNeg, A))) f) pc lv (.int n :: stk) hp sz uc us := by
  obtain ⟨p, l, e, R, s, m, args, below, meth, c, D, tc, ro, b0, mc', ms', nL⟩ := P
  obtain ⟨⟨hx, hb, hml, hown, hts⟩, hret, hlocks, hK, hRO, hb0, hR, hmc, hms, hnn, hro⟩ := C
  subst hnn
  subst hro
  subst hty
  intro r hr H locs ls h1 h2 h3 h4
  have hr' : f (zup hp sz (.inl (t, n.toNatClampNeg, A))) = some r := hr
  have hby : n.toNatClampNeg * componentBytes (newarray.typeOf atype) ≤ 536870912 := Nat.le_trans (Nat.mul_le_mul hc.2.1 hbt) (by decide)
  refine va_newaK hx hb (hts _ harr) rfl hd rfl hc.1 rfl hby (by rw [hR]; exact hc.2.2.1) (by rw [hR]; exact hc.2.2.2) h1 fun H1 cA e1 z1 o1 hAr hNm => ?_
  have hcA : cA = tc t := Option.some.inj (hNm.symm.trans (hra s _ (hK.2 t _ (htt tc)).2))
  subst hcA
  rw [← h1] at e1 z1 o1
  have hz9 : zAt D tc b0 s H.size (.inl (t, n.toNatClampNeg, A)) H1 := by
    unfold zAt
    dsimp only
    rw [if_pos ht10]
    exact ⟨Nat.le_trans hb0 h3.1, by rw [e1, hA]⟩
  exact kk _ r hr' H1 locs ls (by rw [z1, h1]) (by rw [← h1]; exact h2.push o1 hz9) ⟨Nat.le_trans h3.1 (by omega), fun x g1 g2 => (o1 x (Nat.lt_of_lt_of_le g1 h3.1)).trans (h3.2.1 x g1 g2), h3.2.2⟩ h4
theorem z_anewarr (C : zC P cc own ret ht mc ms nn ro0) {t idx : Nat} {Cn : String} {n : Int32} {f : zHp → Option ρ} (htt : ∀ tc, (zTy tc)[t]? = some (tc t, .object Cn)) (ht10 : t < 10) (hl : Cond.classLink own idx Cn ∈ zGT) (hover : ∀ U, zAO U → va_AO Cn U) (hd : decode cc pc = .ok (.anewarray idx, 3)) (hc : ¬ n < 0 ∧ n.toNatClampNeg ≤ 60000 ∧ uc + 1 ≤ mc ∧ us + n.toNatClampNeg ≤ ms)
    (kk : ∀ h, zGq P Qf (f h) (pc + 3) lv (.ref sz :: stk) h (sz + 1) (uc + 1) (us + n.toNatClampNeg)) : zGq P Qf (zlet (zup hp sz (.inl (t, n.toNatClampNeg, .inr (.inr (.inr (.inr (fun _ => none))))))) f) pc lv (.int n :: stk) hp sz uc us := by
  obtain ⟨p, l, e, R, s, m, args, below, meth, c, D, tc, ro, b0, mc', ms', nL⟩ := P
  obtain ⟨⟨hx, hb, hml, hown, hts⟩, hret, hlocks, hK, hRO, hb0, hR, hmc, hms, hnn, hro⟩ := C
  subst hnn
  subst hro
  intro r hr H locs ls h1 h2 h3 h4
  have hr' : f (zup hp sz (.inl (t, n.toNatClampNeg, .inr (.inr (.inr (.inr (fun _ => none))))))) = some r := hr
  refine W.anew hx hb hown (hts _ hl) (va_AO.use (hover s hRO.2.2.2.2.2.2.1)) rfl hd rfl hc.1 (by omega) (by rw [hR]; exact hc.2.2.1) (by rw [hR]; exact hc.2.2.2) fun cA kA comp f1 f2 f3 f4 => ?_
  have hcA : cA = tc t := by
    obtain ⟨kA', comp', g1, g2, g3, g4⟩ := (hK.2 t _ (htt tc)).2
    have e4 : s.vm.findClass ("[" ++ (FieldType.object Cn).toString) = some cA := by first | exact f4 | exact f1
    exact Option.some.inj (e4.symm.trans g4)
  subst hcA
  generalize hH1 : H.push ({ cls := tc t, slots := Array.replicate n.toNatClampNeg .null, vm := .none } : Cell) = H1
  have z1 : H1.size = H.size + 1 := by rw [← hH1, Array.size_push]
  have e1 : H1[H.size]? = some (arrV (tc t) n.toNatClampNeg (fun _ => .null)) := by rw [← hH1, Array.getElem?_push_size, ← arrV_new]
  have o1 : ∀ q : Nat, q < H.size → H1[q]? = H[q]? := fun q hq => by rw [← hH1, Array.getElem?_push, if_neg (Nat.ne_of_lt hq)]
  have hz9 : zAt D tc b0 s H.size (.inl (t, n.toNatClampNeg, .inr (.inr (.inr (.inr (fun _ => none)))))) H1 := by
    unfold zAt
    dsimp only
    rw [if_pos ht10]
    exact ⟨Nat.le_trans hb0 h3.1, by rw [e1, vp_cell_q]; rfl⟩
  have hk9 := kk _ r hr' H1 locs ls (by rw [z1, h1]) (by rw [← h1]; exact h2.push o1 hz9) ⟨Nat.le_trans h3.1 (by omega), fun x g1 g2 => (o1 x (Nat.lt_of_lt_of_le g1 h3.1)).trans (h3.2.1 x g1 g2), h3.2.2⟩ h4
  rw [← h1] at hk9
  exact hk9
/-- new int[n][k]: the outer array, and its rows behind it -/
def zmna (hp : zHp) (sz N K : Nat) : zHp := fun q => if q = sz then some (.inl (5, N, .inr (.inr (.inr (.inr (fun i => if i < N then some (sz + 1 + i) else none)))))) else if sz < q ∧ q < sz + 1 + N then some (.inl (0, K, .inl (fun _ => 0))) else hp q
theorem z_mna (C : zC P cc own ret ht mc ms nn ro0) {idx : Nat} {n k : Int32} {f : zHp → Option ρ} (hl : Cond.classLink own idx ("[" ++ (FieldType.array .int).toString) ∈ zGT) (harr : Cond.arrayClass .int ∈ zGT) (hd : decode cc pc = .ok (.multianewarray idx 2, 4)) (hc : ¬ n < 0 ∧ ¬ k < 0 ∧ n.toNatClampNeg ≤ 60000 ∧ k.toNatClampNeg ≤ 60000 ∧ uc + (1 + n.toNatClampNeg) ≤ mc ∧ us + (n.toNatClampNeg + n.toNatClampNeg * k.toNatClampNeg) ≤ ms)
    (kk : ∀ h, zGq P Qf (f h) (pc + 4) lv (.ref sz :: stk) h (sz + 1 + n.toNatClampNeg) (uc + 1 + n.toNatClampNeg) (us + n.toNatClampNeg + n.toNatClampNeg * k.toNatClampNeg)) : zGq P Qf (zlet (zmna hp sz n.toNatClampNeg k.toNatClampNeg) f) pc lv (.int k :: .int n :: stk) hp sz uc us := by
  obtain ⟨p, l, e, R, s, m, args, below, meth, c, D, tc, ro, b0, mc', ms', nL⟩ := P
  obtain ⟨⟨hx, hb, hml, hown, hts⟩, hret, hlocks, hK, hRO, hb0, hR, hmc, hms, hnn, hro⟩ := C
  subst hnn
  subst hro
  intro r hr H locs ls h1 h2 h3 h4
  have hr' : f (zmna hp sz n.toNatClampNeg k.toNatClampNeg) = some r := hr
  intro T hT Xs
  obtain ⟨vm₁, cA, comp, -, fA, fC, hO, -, X', step⟩ := Xs.multianewarray2F hx hown (hts _ hl) (va_AOA.use hRO.2.2.2.2.2.2.1.2.2) (hts _ harr) (g := F0 m pc ls (.int k :: .int n :: stk)) rfl (by rw [hb]; exact hd) rfl hc.1 hc.2.1 (by have := hc.2.2.1; omega) (by show _ * 4 ≤ _; have := hc.2.2.2.1; omega) (by have := hc.2.2.2.1; omega) rfl rfl (by rw [hR]; exact hc.2.2.2.2.1) (by rw [hR]; exact hc.2.2.2.2.2)
  have ec : some comp = some (tc 0) := by
    have g := (hK.2 0 (tc 0, .int) rfl).2
    exact fC.symm.trans g
  cases ec
  have ecA : some cA = some (tc 5) := by
    have g := (hK.2 5 (tc 5, .array .int) rfl).2
    exact fA.symm.trans g
  cases ecA
  generalize hF : Jvm.Free.Multi.fill (T.setVm vm₁) (tc 5) (tc 0) n.toNatClampNeg k.toNatClampNeg (defaultValue .int) n.toNatClampNeg = F at X' step
  have hTh : (T.setVm vm₁).heap = H := hT
  obtain ⟨f1, f2, -, -⟩ := Jvm.Free.Multi.fill_facts (T.setVm vm₁) (tc 5) (tc 0) n.toNatClampNeg k.toNatClampNeg (defaultValue .int) n.toNatClampNeg
  rw [hF, hTh] at f1 f2
  have hold : ∀ x : Nat, x < H.size → F.heap[x]? = H[x]? := fun x hx => by
    have := Jvm.Free.Multi.fill_old (T.setVm vm₁) (tc 5) (tc 0) n.toNatClampNeg k.toNatClampNeg (defaultValue .int) (a := x) (by rw [hTh]; exact hx) n.toNatClampNeg
    rw [hF, hTh] at this
    exact this
  have hrow : ∀ j : Nat, j < n.toNatClampNeg → F.heap[H.size + 1 + j]? = some (vp_cell (tc 0) (k.toNatClampNeg, .inl (fun _ => 0))) := fun j hj => by
    have := Jvm.Free.Multi.fill_inner (T.setVm vm₁) (tc 5) (tc 0) n.toNatClampNeg k.toNatClampNeg (defaultValue .int) n.toNatClampNeg j hj
    rw [hF, hTh] at this
    rw [this, vp_cell_i, ← arrV_new]
    rfl
  have hout : Jvm.Free.Multi.outerC (tc 5) n.toNatClampNeg H.size n.toNatClampNeg = vp_cell (tc 5) (n.toNatClampNeg, .inr (.inr (.inr (.inr (fun i => if i < n.toNatClampNeg then some (H.size + 1 + i) else none))))) := by
    rw [vp_cell_q]
    exact vr_outer (tc 5) n.toNatClampNeg H.size n.toNatClampNeg
  rw [hout] at f2
  have hI : zI D tc b0 s (zmna hp sz n.toNatClampNeg k.toNatClampNeg) F.heap := by
    intro a o ha
    unfold zmna at ha
    split at ha
    · next q =>
      cases ha
      unfold zAt
      dsimp only
      rw [if_pos (by decide), q, ← h1]
      exact ⟨Nat.le_trans hb0 h3.1, f2⟩
    · split at ha
      · next q1 q =>
        cases ha
        unfold zAt
        dsimp only
        rw [if_pos (by decide)]
        obtain ⟨j, rfl⟩ : ∃ j, a = H.size + 1 + j := ⟨a - (H.size + 1), by omega⟩
        exact ⟨by have := Nat.le_trans hb0 h3.1; omega, hrow j (by omega)⟩
      · exact (h2 a o ha).grown hold
  obtain ⟨t, a1, b1⟩ := kk _ r hr' F.heap locs ls (by rw [f1, h1]) hI ⟨by rw [f1]; have := h3.1; omega, fun x g1 g2 => (hold x (Nat.lt_of_lt_of_le g1 h3.1)).trans (h3.2.1 x g1 g2), h3.2.2⟩ h4 F rfl X'
  refine ⟨t, step t ?_, b1⟩
  have e : T.heap.size = sz := by rw [hT, h1]
  rw [e]
  exact a1
/-- a final field, in a constructor -/
def zPF (own : String) (idx ci k : Nat) (ty : FieldType) : Prop := ∃ (C : String) (T : u_T) (N : Nat) (ty0 : Nat → FieldType), (ci < 20 ∧ zCl[ci]? = some (C, T, N) ∧ k < N ∧ (∀ w ∈ u_ws C T N, w ∈ zGT) ∧ Cond.fieldLink own idx (T k).1 (T k).2.1 (T k).2.2.1 ∈ zGT) ∧ (∀ k, k < N → parseFieldDescriptor (T k).2.2.1 = some (ty0 k)) ∧ (∀ a, a < N → ∀ b, b < N → a ≠ b → (T a).2.1 ≠ (T b).2.1) ∧ (T k).2.2.2 = true ∧ (T k).1 = own ∧ parseFieldDescriptor (T k).2.2.1 = some ty
theorem z_putF (C : zC P cc own ret ht mc ms nn ro0) (CI : zCi P) {idx ci k a : Nat} {ty : FieldType} (hw : zPF own idx ci k ty) {v : Value} {f : zHp → Option ρ} (hn : narrow ty v = v) (hfit : fits ty v = true) (hd : decode cc pc = .ok (.putfield idx, 3))
    (kk : ∀ h, zGq P Qf (f h) (pc + 3) lv stk h sz uc us) : zGq P Qf ((zpV hp a ci k v).bind f) pc lv (v :: .ref a :: stk) hp sz uc us := by
  obtain ⟨p, l, e, R, s, m, args, below, meth, c, D, tc, ro, b0, mc', ms', nL⟩ := P
  obtain ⟨⟨hx, hb, hml, hown, hts⟩, hret, hlocks, hK, hRO, hb0, hR, hmc, hms, hnn, hro⟩ := C
  subst hnn
  subst hro
  intro r hr H locs ls h1 h2 h3 h4
  obtain ⟨Cn, T, N, ty0, ⟨hci, hcl, hkN, hin, hlk⟩, hty, hnm, hfin, hdecl, hdd⟩ := hw
  unfold zpV at hr
  split at hr
  · next c' fs hc =>
    split at hr
    · next q =>
      obtain ⟨rfl, hlen⟩ := q
      have hz := h2 a _ hc
      unfold zAt at hz
      dsimp only at hz
      rw [if_pos hci] at hz
      obtain ⟨hba, r0, e1, cell, q1, q2, q3, q4⟩ := hz
      have hr0 : r0 = (Cn, T, N) := Option.some.inj (e1.symm.trans hcl)
      subst hr0
      have hap := va_apart (own := own) hts hin ty0 hty hnm hK hcl
      obtain ⟨hS, hfc, kC, hkC, hkind⟩ := hK.1 c' _ hcl
      obtain ⟨cf, kf, fi, fd, hi, hsl⟩ := hS k hkN
      have hlay := hts _ (hin _ (u_in_lay hkN))
      unfold u_lay at hlay
      rw [if_pos hfin] at hlay
      have hst := (u_facts hfc hkC (u_lays hts hin hkN) hi).1
      have hcf : m.cls = cf := by
        obtain ⟨_, _, c', _, _, _, -, -, hf', -, -, -, hown2, -⟩ := Cond.laysFinal_spec hlay
        have e1 : c' = cf := by have := hi.symm.trans hf'; simp at this; exact this.1.symm
        rw [hdecl] at hown2
        rw [← e1]; exact Option.some.inj (hown.symm.trans hown2)
      have h6 := u_fits hfc hkC hkind (Or.inr hlay) hi hdd hn hfit
      refine W.putFinK hx hb hown (hts _ hlk) hi hst hcf CI (by rw [q2]; exact h6) q1 q3 (by rw [hsl]; exact k2_hasslot (q4 k hkN)) rfl rfl hd fun H' e1' e2' e3' => ?_
      rw [hsl] at e1' ⊢
      have hr' : f (zup hp a (.inr (c', fs.set k v))) = some r := hr
      refine kk _ r hr' H' _ ls (e2'.trans h1) (h2.set hba e3' ?_) (h3.put e2' e3' hba) h4
      unfold zAt
      dsimp only
      rw [if_pos hci]
      exact ⟨hba, _, hcl, t_OB.to (V := updV (vp_V fs) k v) ⟨_, e1', q2, q3, t_set q4 hap hkN v⟩ (fun j _ => vp_updV_set hlen v j)⟩
    · cases hr
  · cases hr
def zOI (own : String) (idx : Nat) : Prop := Cond.methodLink own idx objectInit ∈ zGT ∧ Cond.instanceMethod objectInit ∈ zGT ∧ Cond.code objectInit ⟨#[0xb1]⟩ 1 none ∈ zGT
theorem z_objInit (C : zC P cc own ret ht mc ms nn ro0) {idx a : Nat} (hw : zOI own idx) (hd : decode cc pc = .ok (.invokespecial idx, 3)) (hh : 1 ≤ ht) (hcat : (stk.map fun v => v.category).sum ≤ 8)
    (k : zGq P Qf F (pc + 3) lv stk hp sz uc us) : zGq P Qf F pc lv (.ref a :: stk) hp sz uc us := by
  obtain ⟨p, l, e, R, s, m, args, below, meth, c, D, tc, ro, b0, mc', ms', nL⟩ := P
  obtain ⟨⟨hx, hb, hml, hown, hts⟩, hret, hlocks, hK, hRO, hb0, hR, hmc, hms, hnn, hro⟩ := C
  subst hnn
  subst hro
  intro r hr H locs ls h1 h2 h3 h4
  refine W.objInit hx hb hown (hts _ hw.1) (hts _ hw.2.1) (hts _ hw.2.2) rfl (by rw [hml]; exact h4.1) rfl hd (by rw [hR]; exact hh) (by rw [hR]; show 2 * 0 + _ + 12 ≤ 40 * ht; omega) ?_
  exact k r hr H locs ls h1 h2 h3 h4
def zoVA : zHp × Nat → Option Value × zHp × Nat := fun r => (none, r.1, r.2)
theorem z_startI {o : ρ → Option Value × zHp × Nat} {l : Launch} {y : MethodName} {n : Nat} {As : List Value} {D : va_G} {tc : Nat → ClassId} {ro : Nat → Nat} {b0 : Nat} {r : ρ} (hr : F = some r) (hy : plainName y.cls = true) (own : String) (hown : y.cls = own) (hy1 : y.name = "<init>") (hlv : lv_args 0 As = lv) (hn : (lg_sl As).length ≤ n) (body : ∀ P : zX, zC P cc own ret ht mc ms n ro → zCi P → zGq P (zEnd P o) F 0 lv [] hp sz 0 0) :
    zM l y cc n ret ht mc ms As D tc ro b0 hp sz (o r).1 (o r).2.1 (o r).2.2 := by
  unfold zM
  refine Met.ofW (cc := cc) (maxL := n) (ret := ret) hy rfl ?_
  intro p e s m args below meth c s₁ B hml hv
  obtain ⟨rfl, hsz, hI, hK, hRO, hb0⟩ := hv
  have hts0 := atoms_spec (ws := Cond.code y cc n ret :: zGT) B.pre
  have hts : ∀ w ∈ zGT, w.before As.toArray s = true := fun w h => hts0 w (List.mem_cons_of_mem _ h)
  have hown2 : s.vm.findClass own = some m.cls := by rw [← hown]; exact findClass_of_methodNamed B.named
  have C0 : zC (p, l, e, (headSpec (Cond.code y cc n ret :: zGT) { frames := ht, cells := mc, slots := ms, locals := 40 * ht }).room, s, m, As.toArray, below, meth, c, D, tc, ro, b0, mc, ms, n) cc own ret ht mc ms n ro :=
    ⟨⟨B.exec, B.bytes, hml, hown2, hts⟩, B.returns, B.notSynchronized, hK, hRO, by rw [hsz]; exact hb0, rfl, rfl, rfl, rfl, rfl⟩
  have hl := lv_entry As (n := n) hn
  rw [lg_entry_eq]
  rw [hlv] at hl
  exact body _ C0 ((name_of_methodNamed B.named B.method).1.trans hy1) r hr s.heap [] _ hsz hI va_S.rf hl
theorem z_returnA {h : zHp} (C : zC P cc own none ht mc ms nn ro0) (hd : decode cc pc = .ok (.return_, 1)) (hc : uc ≤ mc ∧ us ≤ ms) : zGq P (zEnd P zoVA) (some (h, sz)) pc lv [] h sz uc us := by
  obtain ⟨p, l, e, R, s, m, args, below, meth, c, D, tc, ro, b0, mc', ms', nL⟩ := P
  obtain ⟨⟨hx, hb, hml, hown, hts⟩, hret, hlocks, hK, hRO, hb0, hR, hmc, hms, hnn, hro⟩ := C
  subst hnn
  subst hro
  subst hmc
  subst hms
  intro r hr H locs ls h1 h2 h3 h4
  cases hr
  refine W.widen hc.1 hc.2 ?_
  exact W.vret hx hb hret (fun t ht hW => ⟨rfl, by rw [ht]; exact h1, by rw [ht]; exact h2.moved hW.alike, h3.F ht⟩) h3.2.2 hd
/-- a constructor's call -/
def zCI (own : String) (idx : Nat) (y : MethodName) (cy : ByteArray) (n narg : Nat) : Prop := Cond.methodLink own idx y ∈ zGT ∧ Cond.instanceMethod y ∈ zGT ∧ Cond.initialized y.cls ∈ zGT ∧ Cond.code y cy n none ∈ zGT ∧ y.name = "<init>" ∧ y.cls ≠ "java/lang/invoke/MethodHandle" ∧ y.cls ≠ "java/lang/invoke/VarHandle" ∧ (parseMethodDescriptor y.desc).map (fun d => d.parameters.length) = some narg
def zCIN (own : String) (idx : Nat) (y : MethodName) (cy : ByteArray) (n narg : Nat) (host : String) : Prop := Cond.methodLinkNest own idx y host ∈ zNwL ∧ Cond.instanceMethod y ∈ zGT ∧ Cond.initialized y.cls ∈ zGT ∧ Cond.code y cy n none ∈ zGT ∧ y.name = "<init>" ∧ y.cls ≠ "java/lang/invoke/MethodHandle" ∧ y.cls ≠ "java/lang/invoke/VarHandle" ∧ (parseMethodDescriptor y.desc).map (fun d => d.parameters.length) = some narg
theorem z_callI {Fc : Option (zHp × Nat)} {kk : zHp → Nat → Option ρ} (C : zC P cc own ret ht mc ms nn ro0) {idx n narg a htY mcY msY : Nat} {y : MethodName} {cy : ByteArray} {stk0 : List Value} (hw : zCI own idx y cy n narg ∨ ∃ host, zCIN own idx y cy n narg host) (As : List Value)
    (hM : ∀ (l : Launch) (D : va_G) (tc : Nat → ClassId) (b0 : Nat) (r : zHp × Nat), Fc = some r → zM l y cy n none htY mcY msY (.ref a :: As) D tc ro0 b0 hp sz none r.1 r.2)
    (hd : decode cc pc = .ok (.invokespecial idx, 3)) (hn : As.length = narg) (hst : stk0 = As.reverse ++ .ref a :: stk) (hcat : (stk.map fun v => v.category).sum ≤ 8) (hh : htY + 1 ≤ ht) (hnl : n ≤ 21) (hcells : uc + mcY ≤ mc ∧ us + msY ≤ ms)
    (k : ∀ h z, zGq P Qf (kk h z) (pc + 3) lv stk h z (uc + mcY) (us + msY)) : zGq P Qf (zb2 Fc kk) pc lv stk0 hp sz uc us := by
  cases hF : Fc with
  | none =>
    obtain ⟨p, l, e, R, s, m, args, below, meth, c, D, tc, ro, b0, mc', ms', nL⟩ := P
    intro r hr
    cases hr
  | some rc =>
    have k := k rc.1 rc.2
    obtain ⟨p, l, e, R, s, m, args, below, meth, c, D, tc, ro, b0, mc', ms', nL⟩ := P
    obtain ⟨⟨hx, hb, hml, hown, hts⟩, hret, hlocks, hK, hRO, hb0, hR, hmc, hms, hnn, hro⟩ := C
    subst hnn
    subst hro
    intro r hr H locs ls h1 h2 h3 h4
    have hMet := hM l D tc b0 rc hF
    have hr' : kk rc.1 rc.2 = some r := hr
    have hpre : PreS s H (va_Pc (.ref a :: As) (zW D tc ro b0 hp sz)) (.ref a :: As) := by
      refine ⟨zBlind, fun U hU hW => ⟨rfl, by rw [hU]; exact h1, by rw [hU]; exact h2.moved hW.alike, va_K.moved hW.alike hK, ?_, ?_⟩⟩
      · rw [hU]
        exact (hRO.kept (fun q g1 g2 => h3.2.1 q g1 g2)).moved hW
      · rw [← h1]
        exact Nat.le_trans hb0 h3.1
    have hroom : htY + 1 ≤ R.frames ∧ 8 + (n + 11) + 40 * htY ≤ R.locals := by
      rw [hR]
      refine ⟨hh, ?_⟩
      show 8 + (n + 11) + 40 * htY ≤ 40 * ht
      omega
    have hcl : uc + mcY ≤ R.cells ∧ us + msY ≤ R.slots := by rw [hR]; exact hcells
    rcases hw with ⟨w1, w2, w3, w4, hy0, hy1, hy2, hy3⟩ | ⟨host, w1, w2, w3, w4, hy0, hy1, hy2, hy3⟩
    · have hG : GoodIn zGT (Cond.code y cy n none :: zGT) := fun w hw => zGT_good w ((List.mem_cons.mp hw).elim (fun e => by rw [e]; exact w4) id)
      exact z_back (va_runI (Ts := zGT) (own := own) (b := a) (As := As) (rest := stk) ⟨hx, hb, hml, hown, hts⟩ hMet (cwI narg hts hG rfl rfl rfl (hts _ w3) (hts _ w1) (hts _ w2) hy0 ⟨hy1, hy2, hy3⟩ hroom) hpre rfl hn h4.1 hst (lv_room hcat) hd hcl) h3 (fun H1 locs1 g1 g2 g3 => k r hr' H1 locs1 ls g1 g2 g3 h4)
    · have hG : GoodIn zGT (Cond.code y cy n none :: zGT) := fun w hw => zGT_good w ((List.mem_cons.mp hw).elim (fun e => by rw [e]; exact w4) id)
      exact z_back (va_runIN (Ts := zGT) (own := own) (b := a) (As := As) (rest := stk) ⟨hx, hb, hml, hown, hts⟩ hMet ⟨va_cnB narg hts hG rfl rfl rfl (hRO.2.2.2.1 _ w1) (hts _ w3) ⟨hy1, hy2, hy3⟩ hroom, hy0, hts _ w2⟩ hpre rfl hn h4.1 hst (lv_room hcat) hd hcl) h3 (fun H1 locs1 g1 g2 g3 => k r hr' H1 locs1 ls g1 g2 g3 h4)
end ZA

