/-! rows for Strings that are made: null, clone of a byte array, a String's last touch; small answers of what makes cells; a call that the StringBuilder overrides -/
section ZST
variable {ρ : Type} {P : zX} {Qf : ρ → State → Prop} {F : Option ρ} {pc : Nat} {lv : List (Nat × Value)} {stk : List Value} {hp : zHp} {sz uc us : Nat} {cc : ByteArray} {own : String} {ret : Option FieldType} {ht mc ms nn : Nat} {ro0 : Nat → Nat}
theorem z_kreturnA {ty : FieldType} {x : Int32} (C : zC P cc own (some ty) ht mc ms nn ro0) (hn : narrow ty (.int x) = .int x) (hd : decode cc pc = .ok (.ireturn, 1)) (hc : uc ≤ mc ∧ us ≤ ms) : zGq P (zEnd P zoIA) (some (x, hp, sz)) pc lv [.int x] hp sz uc us := by
  obtain ⟨p, l, e, R, s, m, args, below, meth, c, D, tc, ro, b0, mc', ms', nL⟩ := P
  obtain ⟨⟨hx, hb, hml, hown, hts⟩, hret, hlocks, hK, hRO, hb0, hR, hmc, hms, hnn, hro⟩ := C
  subst hnn
  subst hro
  subst hmc
  subst hms
  intro r hr H locs ls h1 h2 h3 h4
  cases hr
  refine W.widen hc.1 hc.2 ?_
  exact W.zret hx hb hret hn (fun t ht hW => ⟨rfl, by rw [ht]; exact h1, by rw [ht]; exact h2.moved hW.alike, h3.F ht⟩) h3.2.2 hd
theorem z_nreturnA {ty : FieldType} {x : Int32} (C : zC P cc own (some ty) ht mc ms nn ro0) (hty : ty = .boolean ∨ ty = .byte ∨ ty = .char) (hd : decode cc pc = .ok (.ireturn, 1)) (hc : uc ≤ mc ∧ us ≤ ms) : zGq P (zEnd P zoIA) ((zrNp ty x).bind fun x => some (x, hp, sz)) pc lv [.int x] hp sz uc us := by
  by_cases q : vp_nar ty x = x
  · have hn : narrow ty (.int x) = .int x := by
      rcases hty with rfl | rfl | rfl
      · exact congrArg Value.int q
      · exact congrArg Value.int q
      · exact congrArg Value.int q
    have e : zrNp ty x = some x := if_pos q
    rw [e]
    exact z_kreturnA C hn hd hc
  · have e : zrNp ty x = none := if_neg q
    rw [e]
    exact z_none
theorem z_aconst_null (C : zC P cc own ret ht mc ms nn ro0) (hd : decode cc pc = .ok (.aconst_null, 1))
    (k : zGq P Qf F (pc + 1) lv (.null :: stk) hp sz uc us) : zGq P Qf F pc lv stk hp sz uc us := by
  obtain ⟨p, l, e, R, s, m, args, below, meth, c, D, tc, ro, b0, mc', ms', nL⟩ := P
  obtain ⟨⟨hx, hb, hml, hown, hts⟩, hret, hlocks, hK, hRO, hb0, hR, hmc, hms, hnn, hro⟩ := C
  subst hnn
  subst hro
  intro r hr H locs ls h1 h2 h3 h4
  exact lv_null hx hb hd (k r hr H locs ls h1 h2 h3 h4)
/-- a copy of a byte array -/
def zcln (hp : zHp) (a sz : Nat) : Option zHp := match hp a with
  | some (.inl (t, n, .inl f)) => if t = 1 ∧ n ≤ 60000 ∧ (∀ i, i < n → fits .byte (.int (f i)) = true) then some (zup hp sz (.inl (1, n, .inl f))) else none
  | _ => none
theorem zcln_spec {hp h : zHp} {a sz : Nat} (e : zcln hp a sz = some h) : ∃ n f, hp a = some (.inl (1, n, .inl f)) ∧ n ≤ 60000 ∧ (∀ i, i < n → fits .byte (.int (f i)) = true) ∧ h = zup hp sz (.inl (1, n, .inl f)) := by
  unfold zcln at e
  split at e
  · next t n f hc =>
    split at e
    · next q =>
      obtain ⟨rfl, q1, q2⟩ := q
      cases e
      exact ⟨n, f, hc, q1, q2, rfl⟩
    · cases e
  · cases e
def zcN : MethodName := ⟨"java/lang/Object", "clone", "()Ljava/lang/Object;"⟩
def zKL (own : String) (idx ix : Nat) : Prop := Cond.methodLink own idx ⟨"[B", "clone", "()Ljava/lang/Object;"⟩ ∈ zGT ∧ Cond.sameMethod "[B" "java/lang/Object" "clone" "()Ljava/lang/Object;" ∈ zGT ∧ Cond.native ⟨"java/lang/Object", "clone", "()Ljava/lang/Object;"⟩ ∈ zGT ∧ Cond.instanceMethod ⟨"java/lang/Object", "clone", "()Ljava/lang/Object;"⟩ ∈ zGT ∧ Cond.selects "[B" ⟨"[B", "clone", "()Ljava/lang/Object;"⟩ ⟨"java/lang/Object", "clone", "()Ljava/lang/Object;"⟩ ∈ zGT ∧ Cond.classLink own ix "[B" ∈ zGT
theorem zlen_n {hp : zHp} {a n : Nat} {A : (Nat → Int32) ⊕ (Nat → Int64) ⊕ (Nat → UInt32) ⊕ (Nat → UInt64) ⊕ (Nat → Option Nat)} (h : hp a = some (.inl (1, n, A))) : zlen hp 1 a = some (Int32.ofNat n) := by
  unfold zlen
  rw [h]
  exact if_pos (Or.inl rfl)
theorem z_cloneB (C : zC P cc own ret (ht + 1) mc ms nn ro0) {idx ix a : Nat} {f : Int32 → zHp → Option ρ} (hw : zKL own idx ix) (hd : decode cc pc = .ok (.invokevirtual idx, 3)) (hd2 : decode cc (pc + 3) = .ok (.checkcast ix, 3))
    (kk : ∀ {v : Int32}, (uc + 1 ≤ mc ∧ us + v.toNatClampNeg ≤ ms) → ∀ h, zGq P Qf (f v h) (pc + 6) lv [.ref sz] h (sz + 1) (uc + 1) (us + v.toNatClampNeg)) : zGq P Qf ((zlen hp 1 a).bind fun v => zchk (uc + 1 ≤ mc ∧ us + v.toNatClampNeg ≤ ms) ((zcln hp a sz).bind (f v))) pc lv [.ref a] hp sz uc us := by
  cases hL : zcln hp a sz with
  | none =>
    cases hv : zlen hp 1 a with
    | none => exact z_none
    | some v =>
      show zGq P Qf (zchk _ _) pc lv [.ref a] hp sz uc us
      exact z_chk (fun _ => z_none)
  | some hh =>
    obtain ⟨n, g0, hc1', hn6, hfit, rfl⟩ := zcln_spec hL
    rw [zlen_n hc1']
    show zGq P Qf (zchk (uc + 1 ≤ mc ∧ us + (Int32.ofNat n).toNatClampNeg ≤ ms) (f (Int32.ofNat n) (zup hp sz (.inl (1, n, .inl g0))))) pc lv [.ref a] hp sz uc us
    refine z_chk (fun q => ?_)
    have k := kk q (zup hp sz (.inl (1, n, .inl g0)))
    have en : (Int32.ofNat n).toNatClampNeg = n := by
      rw [Int32.toNatClampNeg, Int32.toInt_ofNat_of_lt (by omega)]
      exact Int.toNat_natCast n
    rw [en] at k q
    obtain ⟨p, l, e, R, s, m, args, below, meth, c, D, tc, ro, b0, mc', ms', nL⟩ := P
    obtain ⟨⟨hx, hb, hml, hown, hts⟩, hret, hlocks, hK, hRO, hb0, hR, hmc, hms, hnn, hro⟩ := C
    subst hnn
    subst hro
    intro r hr H locs ls h1 h2 h3 h4
    obtain ⟨w1, w2, w3, w4, w5, w6⟩ := hw
    have hz1 := h2 a _ hc1'
    unfold zAt at hz1
    dsimp only at hz1
    rw [if_pos (by decide)] at hz1
    have hc1 : H[a]? = some (vp_cell (tc 1) (n, .inl g0)) := hz1.2
    obtain ⟨hs6, k0, hk0, cm0, hkk0⟩ := (hK.2 1 (tc 1, .byte) rfl).1 n (fun j => .int (g0 j))
    have hfB : s.vm.findClass "[B" = some (tc 1) := (hK.2 1 (tc 1, .byte) rfl).2
    obtain ⟨c0, t0, f1, f2, f3⟩ := Cond.castable_spec (va_Nw.use (A := args) rfl (hRO.2.2.2.1 (.castable "[B" "java/lang/Cloneable") (by decide +kernel)))
    have ec : c0 = tc 1 := Option.some.inj (f1.symm.trans hfB)
    subst ec
    intro T hT X
    have hld : s.vm.clonesLoader (vp_cell (tc 1) (n, .inl g0)).cls = false := Vm.clonesLoader_of_array hk0 hkk0
    obtain ⟨vm1, X1, st1⟩ := X.cloneArray hx hown (hts _ w1) (hts _ w2) (hts _ w3) (hts _ w4) (hts _ w5) (a := a) (cell := vp_cell (tc 1) (n, .inl g0)) (cC := t0) (by rw [hT]; exact hc1) (fun _ h => by cases h) (fun h => by cases h) f1 f2 f3
      (fun i v hv => by
        have hi : i < n := by
          have := (Array.getElem?_eq_some_iff.mp hv).1
          have e2 : (vp_cell (tc 1) (n, .inl g0)).slots.size = n := arrV_size _ _ _
          omega
        have e3 : (vp_cell (tc 1) (n, .inl g0)).slots[i]? = some (.int (g0 i)) := arrV_read _ _ hi
        have e4 : v = .int (g0 i) := Option.some.inj (hv.symm.trans e3)
        obtain ⟨k0', hk0', hek⟩ := X.warmed.alike.2.2 _ _ hk0
        have hkind' : k0'.kind = .array cm0 .byte := by rw [hek]; exact hkk0
        rw [e4]
        simp only [State.fitsSlot, State.slotType?]
        rw [show T.vm.classes[(vp_cell (tc 1) (n, .inl g0)).cls]? = some k0' from hk0']
        simp only [Option.bind_eq_bind, Option.bind_some, hkind']
        exact hfit i hi)
      (g := F0 m pc ls [.ref a]) rfl (by rw [hml]; exact h4.1) (rest := []) rfl (by rw [hb]; exact hd) (by rw [hR]; show 1 ≤ ht + 1; omega) (by rw [hR]; show 2 * 0 + 0 + 14 ≤ 40 * (ht + 1); omega) (by rw [hR]; exact q.1) (by rw [hR]; show us + (arrV (tc 1) n (fun j => .int (g0 j))).slots.size ≤ ms; rw [arrV_size]; exact q.2) hld
    have es : (vp_cell (tc 1) (n, .inl g0)).slots.size = n := arrV_size _ _ _
    rw [es] at X1
    generalize hT1 : (T.setVm vm1).pushCell ({ cls := (vp_cell (tc 1) (n, .inl g0)).cls, slots := (vp_cell (tc 1) (n, .inl g0)).slots } : Cell) = T1 at X1 st1
    have hheap : T1.heap = H.push (vp_cell (tc 1) (n, .inl g0)) := by rw [← hT1, ← hT]; rfl
    have e1 : T1.heap[H.size]? = some (vp_cell (tc 1) (n, .inl g0)) := by rw [hheap, Array.getElem?_push_size]
    obtain ⟨vm2, X2, st2⟩ := X1.checkcastYes hx hown (hts _ w6) (a := H.size) (cell := vp_cell (tc 1) (n, .inl g0)) (cT := tc 1) e1 rfl hfB (va_asg _ _) (g := F0 m (pc + 3) ls [.ref H.size]) rfl rfl (by rw [hb]; exact hd2)
    have o1 : ∀ x : Nat, x < H.size → T1.heap[x]? = H[x]? := fun x hx' => by rw [hheap, Array.getElem?_push, if_neg (Nat.ne_of_lt hx')]
    have hz9 : zAt D tc b0 s H.size (.inl (1, n, .inl g0)) T1.heap := by
      unfold zAt
      dsimp only
      rw [if_pos (by decide)]
      exact ⟨Nat.le_trans hb0 h3.1, e1⟩
    obtain ⟨t, a1, b1⟩ := k r hr T1.heap locs ls (by rw [hheap, Array.size_push, h1]) (by rw [← h1]; exact h2.push o1 hz9) ⟨by rw [hheap, Array.size_push]; exact Nat.le_trans h3.1 (by omega), fun x g1 g2 => (o1 x (Nat.lt_of_lt_of_le g1 h3.1)).trans (h3.2.1 x g1 g2), h3.2.2⟩ h4 (T1.setVm vm2) rfl X2
    refine ⟨t, st1 t ?_, b1⟩
    have e5 : T.heap.size = H.size := by rw [hT]
    rw [e5]
    refine st2 t ?_
    rw [h1]
    exact a1
/-- a String under construction, its last touch -/
def zfrz (hp : zHp) (a : Nat) : Option zHp := match hp a with
  | some (.inr (c, [.ref v, .int y, _, _])) => if c = 8 ∧ y = 0 then some (zup hp a (.inr (20, [.ref v, .int 0]))) else none
  | _ => none
theorem zu_J0' : ∀ w ∈ u_ws RJ0 TJ0 4, w ∈ zGT := fun w h => zGT_of ((by decide +kernel : ∀ w ∈ u_ws RJ0 TJ0 4, w ∈ lw_tbl) w h) ((by decide +kernel : ∀ w ∈ u_ws RJ0 TJ0 4, goodWord w = true) w h)
theorem z_frz (C : zC P cc own ret ht mc ms nn ro0) {a : Nat} {f : zHp → Option ρ} (kk : ∀ h, zGq P Qf (f h) pc lv stk h sz uc us) : zGq P Qf ((zfrz hp a).bind f) pc lv stk hp sz uc us := by
  obtain ⟨p, l, e, R, s, m, args, below, meth, c, D, tc, ro, b0, mc', ms', nL⟩ := P
  obtain ⟨⟨hx, hb, hml, hown, hts⟩, hret, hlocks, hK, hRO, hb0, hR, hmc, hms, hnn, hro⟩ := C
  subst hnn
  subst hro
  intro r hr H locs ls h1 h2 h3 h4
  unfold zfrz at hr
  split at hr
  · next cq v y z1 z2 hc =>
    split at hr
    · next q =>
      obtain ⟨rfl, rfl⟩ := q
      have hr' : f (zup hp a (.inr (20, [.ref v, .int 0]))) = some r := hr
      have hz := h2 a _ hc
      unfold zAt at hz
      dsimp only at hz
      rw [if_pos (by decide)] at hz
      obtain ⟨hba, r0, e1, cell, q1, q2, q3, q4⟩ := hz
      have hr0 : r0 = (RJ0, TJ0, 4) := Option.some.inj (e1.symm.trans rfl)
      subst hr0
      obtain ⟨hS, hfc, kC, hkC, hkind⟩ := hK.1 8 (RJ0, TJ0, 4) rfl
      have hfd : ∀ k, k < 4 → ∀ w, cell.slots[D.2 8 k]? = some w → va_OF (TJ0 k).1 (TJ0 k).2.1 (TJ0 k).2.2.1 w a (fun q => q ≠ a) s H := fun k hk w hw => by
        obtain ⟨cf, kf, fi, fd, hi, hsl⟩ := hS k hk
        have hst := (u_facts hfc hkC (u_lays hts zu_J0' hk) hi).1
        exact ⟨cf, kf, fi, fd, cell, hi, hst, q1, (fun h => by rw [q3] at h; cases h), by rw [hsl]; exact hw, fun h => h rfl⟩
      have hI : zI D tc b0 s (zup hp a (.inr (20, [.ref v, .int 0]))) H := by
        intro x o ho
        unfold zup at ho
        split at ho
        · next qx =>
          cases ho
          subst qx
          unfold zAt
          dsimp only
          rw [if_neg (by decide)]
          exact ⟨v, rfl, ⟨cell, q1, by rw [q3]; rfl, by rw [q2]; exact hfc, fun h => h rfl⟩, hfd 1 (by decide) _ (q4 1 (by decide)), hfd 0 (by decide) _ (q4 0 (by decide))⟩
        · exact h2 x o ho
      exact kk _ r hr' H locs ls h1 hI h3 h4
    · cases hr
  · cases hr
/-- a call of x of the class above that selects the StringBuilder's own y -/
def zCW (own : String) (idx : Nat) (x : MethodName) (cx : ByteArray) (nx : Nat) (retX : Option FieldType) (y : MethodName) (cy : ByteArray) (n : Nat) (ret : Option FieldType) (narg : Nat) : Prop := Cond.methodLink own idx x ∈ zGT ∧ Cond.sameMethod x.cls x.cls x.name x.desc ∈ zGT ∧ Cond.instanceMethod x ∈ zGT ∧ Cond.code x cx nx retX ∈ zGT ∧ Cond.instanceMethod y ∈ zGT ∧ Cond.initialized y.cls ∈ zGT ∧ Cond.code y cy n ret ∈ zGT ∧ Cond.selects zSB x y ∈ zGT ∧ x.cls ≠ "java/lang/invoke/MethodHandle" ∧ x.cls ≠ "java/lang/invoke/VarHandle" ∧ (parseMethodDescriptor x.desc).map (fun d => d.parameters.length) = some narg
theorem z_callW {ρc : Type} {oc : ρc → Option Value × zHp × Nat} {Fc : Option ρc} {kk : ρc → Option ρ} (C : zC P cc own ret ht mc ms nn ro0) {idx n nx narg a htY mcY msY : Nat} {x y : MethodName} {cx cy : ByteArray} {retX retY : Option FieldType} {stk0 : List Value} (hw : zCW own idx x cx nx retX y cy n retY narg) (As : List Value)
    (hM : ∀ (l : Launch) (D : va_G) (tc : Nat → ClassId) (b0 : Nat) (r : ρc), Fc = some r → zis hp a 9 = some () ∧ zM l y cy n retY htY mcY msY (.ref a :: As) D tc ro0 b0 hp sz (oc r).1 (oc r).2.1 (oc r).2.2)
    (hn : As.length = narg) (hst : stk0 = As.reverse ++ .ref a :: stk) (hcat : (stk.map fun v => v.category).sum ≤ 8) (hh : htY + 1 ≤ ht) (hnl : n ≤ 21) (hcells : uc + mcY ≤ mc ∧ us + msY ≤ ms) (hd : decode cc pc = .ok (.invokevirtual idx, 3))
    (k : ∀ r, zGq P Qf (kk r) (pc + 3) lv ((oc r).1.toList ++ stk) (oc r).2.1 (oc r).2.2 (uc + mcY) (us + msY)) : zGq P Qf (Fc.bind kk) pc lv stk0 hp sz uc us := by
  cases hF : Fc with
  | none =>
    obtain ⟨p, l, e, R, s, m, args, below, meth, c, D, tc, ro, b0, mc', ms', nL⟩ := P
    intro r hr
    cases hr
  | some rc =>
    have k := k rc
    obtain ⟨p, l, e, R, s, m, args, below, meth, c, D, tc, ro, b0, mc', ms', nL⟩ := P
    obtain ⟨⟨hx, hb, hml, hown, hts⟩, hret, hlocks, hK, hRO, hb0, hR, hmc, hms, hnn, hro⟩ := C
    subst hnn
    subst hro
    intro r hr H locs ls h1 h2 h3 h4
    obtain ⟨hz, hMet⟩ := hM l D tc b0 rc hF
    obtain ⟨w1, w2, w3, w4, w5, w6, w7, w8, hy1, hy2, hy3⟩ := hw
    have hr' : kk rc = some r := hr
    have hG : GoodIn zGT (Cond.code y cy n retY :: zGT) := fun w hw => zGT_good w ((List.mem_cons.mp hw).elim (fun e => by rw [e]; exact w7) id)
    have hlen : ∀ sig, parseMethodDescriptor x.desc = some sig → narg = sig.parameters.length := fun sig h => by
      have h9 := hy3
      rw [h] at h9
      exact (Option.some.inj h9).symm
    refine z_back (va_runU (Ts := zGT) (own := own) (C := zSB) (owner := x.cls) (x := x) (y := y) (b := a) (As := As) (rest := stk) ⟨hx, hb, hml, hown, hts⟩ hMet ⟨⟨rfl, rfl, ?_, ?_, pay_in hts hG, List.mem_cons_self⟩, hts _ w7, hts _ w6, ⟨hy1, hy2⟩, hlen, hts _ w1, hts _ w2, va_Decl.of (hts _ w3) (hts _ w4), hts _ w8, hts _ w5⟩ ⟨zBlind, ?_, fun U hU hW => ⟨rfl, by rw [hU]; exact h1, by rw [hU]; exact h2.moved hW.alike, va_K.moved hW.alike hK, ?_, ?_⟩⟩ rfl hn h4.1 hst (lv_room hcat) hd ?_) h3 (fun H1 locs1 g1 g2 g3 => k r hr' H1 locs1 ls g1 g2 g3 h4)
    · rw [hR]
      exact hh
    · rw [hR]
      show 8 + (n + 11) + 40 * htY ≤ 40 * ht
      omega
    · unfold zis at hz
      split at hz
      · next c' fs hc =>
        split at hz
        · next q =>
          subst q
          have hz2 := h2 a _ hc
          unfold zAt at hz2
          dsimp only at hz2
          rw [if_pos (by decide)] at hz2
          obtain ⟨hba, r0, e1, cell, g1, g2, g3, -⟩ := hz2
          have hr0 : r0 = (RJ4, TJ4, 4) := Option.some.inj (e1.symm.trans rfl)
          subst hr0
          exact ⟨cell, g1, by rw [g3]; rfl, by rw [g2]; exact (hK.1 9 (RJ4, TJ4, 4) rfl).2.1⟩
        · cases hz
      · cases hz
    · rw [hU]
      exact (hRO.kept (fun q g1 g2 => h3.2.1 q g1 g2)).moved hW
    · rw [← h1]
      exact Nat.le_trans hb0 h3.1
    · rw [hR]
      exact hcells
theorem z_cWp {Fc : Option (Int32)} {kk : Int32 → Option ρ} (C : zC P cc own ret ht mc ms nn ro0) {idx n nx narg a htY mcY msY : Nat} {x y : MethodName} {cx cy : ByteArray} {retX retY : Option FieldType} {stk0 : List Value} (hw : zCW own idx x cx nx retX y cy n retY narg) (As : List Value)
    (hM : ∀ (l : Launch) (D : va_G) (tc : Nat → ClassId) (b0 : Nat) (r : Int32), Fc = some r → zis hp a 9 = some () ∧ zM l y cy n retY htY mcY msY (.ref a :: As) D tc ro0 b0 hp sz ((zoP sz hp) r).1 ((zoP sz hp) r).2.1 ((zoP sz hp) r).2.2)
    (hd : decode cc pc = .ok (.invokevirtual idx, 3)) (hn : As.length = narg) (hst : stk0 = As.reverse ++ .ref a :: stk) (hcat : (stk.map fun v => v.category).sum ≤ 8) (hh : htY + 1 ≤ ht) (hnl : n ≤ 21) (hcells : uc + mcY ≤ mc ∧ us + msY ≤ ms)
    (k : ∀ x, zGq P Qf (kk x) (pc + 3) lv (.int x :: stk) hp sz (uc + mcY) (us + msY)) : zGq P Qf (Fc.bind kk) pc lv stk0 hp sz uc us :=
  z_callW (oc := (zoP sz hp)) C hw As hM hn hst hcat hh hnl hcells hd (fun r => k r)
end ZST
