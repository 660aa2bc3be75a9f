/-! calls of inherited methods on a StringBuilder (its own class's number is 9), calls of super's methods -/
section ZU
variable {ρ : Type} {P : zX} {Qf : ρ → State → Prop} {F : Option ρ} {pc : Nat} {lv : List (Nat × Value)} {stk : List Value} {hp : zHp} {sz uc us : Nat} {cc : ByteArray} {own : String} {ret : Option FieldType} {ht mc ms nn : Nat} {ro0 : Nat → Nat}
theorem z_selUp {C : String} {y z w : MethodName} {s : State} {args : Array Value} (hy : y.cls ≠ "java/lang/invoke/MethodHandle" ∧ y.cls ≠ "java/lang/invoke/VarHandle") (hs : (Cond.selects C z w).before args s = true) (hzw : w.cls = y.cls) (hpriv : (Cond.privateMethod y).before args s = true) (hinst : (Cond.instanceMethod y).before args s = true) :
    (Cond.selects C y y).before args s = true := by
  obtain ⟨mk, methM, hnamed, hmethM, -, -⟩ := Cond.instanceMethod_spec hinst
  have hfound : s.methodFound? y.cls y.name y.desc = some mk := State.methodFound?_of_named hnamed hy
  have hfc := findClass_of_methodNamed hnamed
  simp only [Cond.before, Cond.holds, Cond.value] at hs
  cases hc : s.vm.findClass C with
  | none => simp [hc] at hs
  | some c =>
    cases hf : s.methodFound? z.cls z.name z.desc with
    | none => simp [hc, hf] at hs
    | some r =>
      cases hn : s.methodNamed? w with
      | none => simp [hc, hf, hn] at hs
      | some mw =>
        have hfw := findClass_of_methodNamed hn
        rw [hzw] at hfw
        have hcls : mw.cls = mk.cls := Option.some.inj (hfw.symm.trans hfc)
        simp only [hc, hf, hn] at hs
        have hsel : selectMethod {} s.vm c mk = .method mk := selectMethod_private hmethM (Cond.privateMethod_at hpriv mk methM hnamed hmethM)
        simp only [Cond.before, Cond.holds, Cond.value, hc, hfound, hnamed, hsel]
        cases hq : selectMethod {} s.vm c r with
        | method m' => 
          rw [hq] at hs
          simp at hs
          rw [hcls] at hs
          simp [hs.2]
        | _ => rw [hq] at hs; simp at hs
def zSB : String := "java/lang/StringBuilder"
/-- what the tables say for a call of y of the class above, by invokevirtual on a StringBuilder -/
def zCU (own : String) (idx : Nat) (y : MethodName) (cy : ByteArray) (n : Nat) (ret : Option FieldType) (narg : Nat) : Prop := Cond.methodLink own idx y ∈ zGT ∧ Cond.sameMethod y.cls y.cls y.name y.desc ∈ zGT ∧ Cond.instanceMethod y ∈ zGT ∧ Cond.initialized y.cls ∈ zGT ∧ Cond.code y cy n ret ∈ zGT ∧ (Cond.selects zSB y y ∈ zGT ∨ (Cond.privateMethod y ∈ zGT ∧ ∃ z w, Cond.selects zSB z w ∈ zGT ∧ w.cls = y.cls)) ∧ y.cls ≠ "java/lang/invoke/MethodHandle" ∧ y.cls ≠ "java/lang/invoke/VarHandle" ∧ (parseMethodDescriptor y.desc).map (fun d => d.parameters.length) = some narg
theorem z_callU {ρc : Type} {oc : ρc → Option Value × zHp × Nat} {Fc : Option ρc} {kk : ρc → Option ρ} (C : zC P cc own ret ht mc ms nn ro0) {idx n narg a htY mcY msY : Nat} {y : MethodName} {cy : ByteArray} {retY : Option FieldType} {stk0 : List Value} (hw : zCU own idx y cy n retY narg) (As : List Value)
    (hM : ∀ (l : Launch) (D : va_G) (tc : Nat → ClassId) (b0 : Nat) (r : ρc), Fc = some r → zis hp a 9 = some () ∧ zM l y cy n retY htY mcY msY (.ref a :: As) D tc ro0 b0 hp sz (oc r).1 (oc r).2.1 (oc r).2.2)
    (hn : As.length = narg) (hst : stk0 = As.reverse ++ .ref a :: stk) (hcat : (stk.map fun v => v.category).sum ≤ 8) (hh : htY + 1 ≤ ht) (hnl : n ≤ 21) (hcells : uc + mcY ≤ mc ∧ us + msY ≤ ms) (hd : decode cc pc = .ok (.invokevirtual idx, 3))
    (k : ∀ r, zGq P Qf (kk r) (pc + 3) lv ((oc r).1.toList ++ stk) (oc r).2.1 (oc r).2.2 (uc + mcY) (us + msY)) : zGq P Qf (Fc.bind kk) pc lv stk0 hp sz uc us := by
  cases hF : Fc with
  | none =>
    obtain ⟨p, l, e, R, s, m, args, below, meth, c, D, tc, ro, b0, mc', ms', nL⟩ := P
    intro r hr
    cases hr
  | some rc =>
    have k := k rc
    obtain ⟨p, l, e, R, s, m, args, below, meth, c, D, tc, ro, b0, mc', ms', nL⟩ := P
    obtain ⟨⟨hx, hb, hml, hown, hts⟩, hret, hlocks, hK, hRO, hb0, hR, hmc, hms, hnn, hro⟩ := C
    subst hnn
    subst hro
    intro r hr H locs ls h1 h2 h3 h4
    obtain ⟨hz, hMet⟩ := hM l D tc b0 rc hF
    obtain ⟨w1, w2, w3, w4, w5, w6, hy1, hy2, hy3⟩ := hw
    have hr' : kk rc = some r := hr
    have hG : GoodIn zGT (Cond.code y cy n retY :: zGT) := fun w hw => zGT_good w ((List.mem_cons.mp hw).elim (fun e => by rw [e]; exact w5) id)
    have hsel : (Cond.selects zSB y y).before args s = true := by
      rcases w6 with w6 | ⟨w6, z, w, w7, w8⟩
      · exact hts _ w6
      · exact z_selUp ⟨hy1, hy2⟩ (hts _ w7) w8 (hts _ w6) (hts _ w3)
    have hlen : ∀ sig, parseMethodDescriptor y.desc = some sig → narg = sig.parameters.length := fun sig h => by
      have h9 := hy3
      rw [h] at h9
      exact (Option.some.inj h9).symm
    refine z_back (va_runU (Ts := zGT) (own := own) (C := zSB) (owner := y.cls) (x := y) (y := y) (b := a) (As := As) (rest := stk) ⟨hx, hb, hml, hown, hts⟩ hMet ⟨⟨rfl, rfl, ?_, ?_, pay_in hts hG, List.mem_cons_self⟩, hts _ w5, hts _ w4, ⟨hy1, hy2⟩, hlen, hts _ w1, hts _ w2, va_Decl.of (hts _ w3) (hts _ w5), hsel, hts _ w3⟩ ⟨zBlind, ?_, fun U hU hW => ⟨rfl, by rw [hU]; exact h1, by rw [hU]; exact h2.moved hW.alike, va_K.moved hW.alike hK, ?_, ?_⟩⟩ rfl hn h4.1 hst (lv_room hcat) hd ?_) h3 (fun H1 locs1 g1 g2 g3 => k r hr' H1 locs1 ls g1 g2 g3 h4)
    · rw [hR]
      exact hh
    · rw [hR]
      show 8 + (n + 11) + 40 * htY ≤ 40 * ht
      omega
    · unfold zis at hz
      split at hz
      · next c' fs hc =>
        split at hz
        · next q =>
          subst q
          have hz2 := h2 a _ hc
          unfold zAt at hz2
          dsimp only at hz2
          rw [if_pos (by decide)] at hz2
          obtain ⟨hba, r0, e1, cell, g1, g2, g3, -⟩ := hz2
          have hr0 : r0 = (RJ4, TJ4, 4) := Option.some.inj (e1.symm.trans rfl)
          subst hr0
          exact ⟨cell, g1, by rw [g3]; rfl, by rw [g2]; exact (hK.1 9 (RJ4, TJ4, 4) rfl).2.1⟩
        · cases hz
      · cases hz
    · rw [hU]
      exact (hRO.kept (fun q g1 g2 => h3.2.1 q g1 g2)).moved hW
    · rw [← h1]
      exact Nat.le_trans hb0 h3.1
    · rw [hR]
      exact hcells
/-- super's method, from a StringBuilder's own -/
def zCUS (own : String) (idx : Nat) (y : MethodName) (cy : ByteArray) (n : Nat) (ret : Option FieldType) (narg : Nat) : Prop := (∀ w ∈ va_wsSU own idx y [Cond.code y cy n ret], w ∈ zGT) ∧ y.name ≠ "<init>" ∧ (parseMethodDescriptor y.desc).map (fun d => d.parameters.length) = some narg
theorem z_callSU {ρc : Type} {oc : ρc → Option Value × zHp × Nat} {Fc : Option ρc} {kk : ρc → Option ρ} (C : zC P cc own ret ht mc ms nn ro0) {idx n narg a htY mcY msY : Nat} {y : MethodName} {cy : ByteArray} {retY : Option FieldType} {stk0 : List Value} (hw : zCUS own idx y cy n retY narg) (As : List Value)
    (hM : ∀ (l : Launch) (D : va_G) (tc : Nat → ClassId) (b0 : Nat) (r : ρc), Fc = some r → zis hp a 9 = some () ∧ zM l y cy n retY htY mcY msY (.ref a :: As) D tc ro0 b0 hp sz (oc r).1 (oc r).2.1 (oc r).2.2)
    (hn : As.length = narg) (hst : stk0 = As.reverse ++ .ref a :: stk) (hcat : (stk.map fun v => v.category).sum ≤ 8) (hh : htY + 1 ≤ ht) (hnl : n ≤ 21) (hcells : uc + mcY ≤ mc ∧ us + msY ≤ ms) (hd : decode cc pc = .ok (.invokespecial idx, 3))
    (k : ∀ r, zGq P Qf (kk r) (pc + 3) lv ((oc r).1.toList ++ stk) (oc r).2.1 (oc r).2.2 (uc + mcY) (us + msY)) : zGq P Qf (Fc.bind kk) pc lv stk0 hp sz uc us := by
  cases hF : Fc with
  | none =>
    obtain ⟨p, l, e, R, s, m, args, below, meth, c, D, tc, ro, b0, mc', ms', nL⟩ := P
    intro r hr
    cases hr
  | some rc =>
    have k := k rc
    obtain ⟨p, l, e, R, s, m, args, below, meth, c, D, tc, ro, b0, mc', ms', nL⟩ := P
    obtain ⟨⟨hx, hb, hml, hown, hts⟩, hret, hlocks, hK, hRO, hb0, hR, hmc, hms, hnn, hro⟩ := C
    subst hnn
    subst hro
    intro r hr H locs ls h1 h2 h3 h4
    obtain ⟨hz, hMet⟩ := hM l D tc b0 rc hF
    obtain ⟨hws, hy1, hy3⟩ := hw
    have hr' : kk rc = some r := hr
    have hcls := (hK.1 9 (RJ4, TJ4, 4) rfl).2
    refine z_back (va_runSU (Ts := zGT) (own := own) (C := zSB) (b := a) (As := As) (rest := stk) hcls ⟨hx, hb, hml, hown, hts⟩ hMet (va_cwSU narg hts (fun w hw => ?_) rfl rfl rfl ⟨hy1, hy3⟩ ?_) ⟨zBlind, ?_, fun U hU hW => ⟨rfl, by rw [hU]; exact h1, by rw [hU]; exact h2.moved hW.alike, va_K.moved hW.alike hK, ?_, ?_⟩⟩ rfl hn h4.1 hst (lv_room hcat) hd ?_) h3 (fun H1 locs1 g1 g2 g3 => k r hr' H1 locs1 ls g1 g2 g3 h4)
    · refine zGT_good w ?_
      simp only [va_wsSU, List.mem_append] at hw hws
      rcases hw with hw | hw
      · exact hws w (Or.inl hw)
      · rcases List.mem_cons.mp hw with e | hw
        · exact hws w (Or.inr (by rw [e]; exact List.mem_cons_self))
        · exact hw
    · rw [hR]
      refine ⟨hh, ?_⟩
      show 8 + (n + 11) + 40 * htY ≤ 40 * ht
      omega
    · unfold zis at hz
      split at hz
      · next c' fs hc =>
        split at hz
        · next q =>
          subst q
          have hz2 := h2 a _ hc
          unfold zAt at hz2
          dsimp only at hz2
          rw [if_pos (by decide)] at hz2
          obtain ⟨hba, r0, e1, cell, g1, g2, g3, -⟩ := hz2
          have hr0 : r0 = (RJ4, TJ4, 4) := Option.some.inj (e1.symm.trans rfl)
          subst hr0
          exact ⟨cell, g1, by rw [g3]; rfl, by rw [g2]; exact hcls.1⟩
        · cases hz
      · cases hz
    · rw [hU]
      exact (hRO.kept (fun q g1 g2 => h3.2.1 q g1 g2)).moved hW
    · rw [← h1]
      exact Nat.le_trans hb0 h3.1
    · rw [hR]
      exact hcells
def zoRA : Nat × zHp × Nat → Option Value × zHp × Nat := fun r => (some (.ref r.1), r.2.1, r.2.2)
def zoIA : Int32 × zHp × Nat → Option Value × zHp × Nat := fun r => (some (.int r.1), r.2.1, r.2.2)
def zb3 {α β γ δ : Type} (m : Option (α × β × γ)) (k : α → β → γ → Option δ) : Option δ := m.bind fun r => k r.1 r.2.1 r.2.2
theorem z_areturnA {a : Nat} {rt : FieldType} (C : zC P cc own (some rt) ht mc ms nn ro0) (hrt : (∃ n, rt = .object n) ∨ ∃ t, rt = .array t) (hd : decode cc pc = .ok (.areturn, 1)) (hc : uc ≤ mc ∧ us ≤ ms) : zGq P (zEnd P zoRA) (some (a, hp, sz)) pc lv [.ref a] hp sz uc us := by
  obtain ⟨p, l, e, R, s, m, args, below, meth, c, D, tc, ro, b0, mc', ms', nL⟩ := P
  obtain ⟨⟨hx, hb, hml, hown, hts⟩, hret, hlocks, hK, hRO, hb0, hR, hmc, hms, hnn, hro⟩ := C
  subst hnn
  subst hro
  subst hmc
  subst hms
  intro r hr H locs ls h1 h2 h3 h4
  cases hr
  refine W.widen hc.1 hc.2 ?_
  exact W.aret hx hb hret hrt (Or.inr ⟨a, rfl⟩) (fun t ht hW => ⟨rfl, by rw [ht]; exact h1, by rw [ht]; exact h2.moved hW.alike, h3.F ht⟩) h3.2.2 hd
theorem z_ireturnA {x : Int32} (C : zC P cc own (some .int) ht mc ms nn ro0) (hd : decode cc pc = .ok (.ireturn, 1)) (hc : uc ≤ mc ∧ us ≤ ms) : zGq P (zEnd P zoIA) (some (x, hp, sz)) pc lv [.int x] hp sz uc us := by
  obtain ⟨p, l, e, R, s, m, args, below, meth, c, D, tc, ro, b0, mc', ms', nL⟩ := P
  obtain ⟨⟨hx, hb, hml, hown, hts⟩, hret, hlocks, hK, hRO, hb0, hR, hmc, hms, hnn, hro⟩ := C
  subst hnn
  subst hro
  subst hmc
  subst hms
  intro r hr H locs ls h1 h2 h3 h4
  cases hr
  refine W.widen hc.1 hc.2 ?_
  exact W.iret hx hb hret (fun t ht hW => ⟨rfl, by rw [ht]; exact h1, by rw [ht]; exact h2.moved hW.alike, h3.F ht⟩) h3.2.2 hd
/-- a StringBuilder's need of room for k more characters -/
def zneed (hp : zHp) (b : Nat) (k : Nat) : Nat × Nat := match zgR hp b 9 0, zgI hp b 9 3 with
  | some v, some c => match hp v with
    | some (.inl (_, n, _)) => if c.toNatClampNeg + k ≤ n then (0, 0) else (1, 2 * n + 2 + c.toNatClampNeg + k)
    | _ => (0, 0)
  | _, _ => (0, 0)
def zneedW (hp : zHp) (a : Nat) (k : Nat) : Nat × Nat := match zgR hp a 7 3 with
  | some b => zneed hp b k
  | none => (0, 0)
end ZU

