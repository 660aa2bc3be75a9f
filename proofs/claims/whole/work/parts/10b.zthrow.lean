/-! methods that return or throw an IndexOutOfBoundsException: their programs answer 'some none' where they throw -/
section ZX
variable {ρ : Type} {P : zX} {o : ρ → Option Value × zHp × Nat} {pc : Nat} {lv : List (Nat × Value)} {stk : List Value} {hp hx : zHp} {sz uc us : Nat} {cc : ByteArray} {own : String} {ret : Option FieldType} {ht mc ms nn : Nat} {ro0 : Nat → Nat}
def zIO : String := "java/lang/IndexOutOfBoundsException"
def zbx {α β : Type} (m : Option (Option α)) (k : α → Option (Option β)) : Option (Option β) := m.bind fun t => match t with
  | none => some none
  | some x => k x
def zQX (D : va_G) (tc : Nat → ClassId) (b0 : Nat) (o : ρ → Option Value × zHp × Nat) : Option ρ → Array Value → State → Outcome → State → Prop := fun r => match r with
  | none => fun _ _ _ _ => False
  | some x => zQ D tc b0 (o x).1 (o x).2.1 (o x).2.2
def zXX (D : va_G) (tc : Nat → ClassId) (b0 : Nat) (hx : zHp) : Option ρ → String → State → State → Prop := fun r => match r with
  | none => fun E st t => E = zIO ∧ zI D tc b0 t hx t.heap ∧ va_F (fun q => b0 ≤ q) st t
  | some _ => fun _ _ _ => False
def zEndX (P : zX) (o : ρ → Option Value × zHp × Nat) (hx : zHp) (r : Option ρ) : State → Prop := match P with
  | (_, _, _, _, s, _, args, below, _, _, D, tc, _, b0, mc, ms, _) => vx_MQ below (zQX D tc b0 o r) (zXX D tc b0 hx r) args s mc ms (fun q => b0 ≤ q)
def zCx (P : zX) : Prop := match P with
  | (_, l, _, _, _, _, _, _, _, c, _) => l.stackTraces = false ∧ ∀ x ∈ c.exceptionTable.toList, False
def zMx (l : Launch) (y : MethodName) (cc : ByteArray) (n : Nat) (ret : Option FieldType) (ht mc ms : Nat) (As : List Value) (D : va_G) (tc : Nat → ClassId) (ro : Nat → Nat) (b0 : Nat) (hp : zHp) (sz : Nat) (o : ρ → Option Value × zHp × Nat) (hx : zHp) (r : Option ρ) : Prop :=
  vx_Met l y (Cond.code y cc n ret :: zGT) { frames := ht, cells := mc, slots := ms, locals := 40 * ht } (va_Pc As (zW D tc ro b0 hp sz)) (zQX D tc b0 o r) (zXX D tc b0 hx r) mc ms (fun q => b0 ≤ q)
theorem z_startX {l : Launch} {y : MethodName} {n : Nat} {As : List Value} {D : va_G} {tc : Nat → ClassId} {ro : Nat → Nat} {b0 : Nat} {F : Option (Option ρ)} {r : Option ρ} (hl0 : l.stackTraces = false) (hr : F = some r) (hy : plainName y.cls = true) (own : String) (hown : y.cls = own) (hlv : lv_args 0 As = lv) (hn : (lg_sl As).length ≤ n) (body : ∀ P : zX, zC P cc own ret ht mc ms n ro → zCx P → zGq P (zEndX P o hx) F 0 lv [] hp sz 0 0) :
    zMx l y cc n ret ht mc ms As D tc ro b0 hp sz o hx r := by
  unfold zMx
  refine vx_ofW (cc := cc) (maxL := n) (ret := ret) hy rfl ?_
  intro p e s m args below meth c s₁ B hml hex hv
  obtain ⟨rfl, hsz, hI, hK, hRO, hb0⟩ := hv
  have hts0 := atoms_spec (ws := Cond.code y cc n ret :: zGT) B.pre
  have hts : ∀ w ∈ zGT, w.before As.toArray s = true := fun w h => hts0 w (List.mem_cons_of_mem _ h)
  have hown2 : s.vm.findClass own = some m.cls := by rw [← hown]; exact findClass_of_methodNamed B.named
  have C0 : zC (p, l, e, (headSpec (Cond.code y cc n ret :: zGT) { frames := ht, cells := mc, slots := ms, locals := 40 * ht }).room, s, m, As.toArray, below, meth, c, D, tc, ro, b0, mc, ms, n) cc own ret ht mc ms n ro :=
    ⟨⟨B.exec, B.bytes, hml, hown2, hts⟩, B.returns, B.notSynchronized, hK, hRO, by rw [hsz]; exact hb0, rfl, rfl, rfl, rfl, rfl⟩
  have hlv0 := lv_entry As (n := n) hn
  rw [lg_entry_eq]
  rw [hlv] at hlv0
  exact body _ C0 ⟨hl0, hex⟩ r hr s.heap [] _ hsz hI va_S.rf hlv0
theorem z_toX {x : ρ} (k : zGq P (zEnd P o) (some x) pc lv stk hp sz uc us) : zGq P (zEndX P o hx) (some (some x)) pc lv stk hp sz uc us := by
  obtain ⟨p, l, e, R, s, m, args, below, meth, c, D, tc, ro, b0, mc', ms', nL⟩ := P
  intro r hr H locs ls h1 h2 h3 h4
  cases hr
  exact vx_ret (k x rfl H locs ls h1 h2 h3 h4)
theorem z_toXo {F : Option ρ} (k : zGq P (zEnd P o) F pc lv stk hp sz uc us) : zGq P (zEndX P o hx) (F.bind fun x => some (some x)) pc lv stk hp sz uc us := by
  cases F with
  | none => exact z_none
  | some x => exact z_toX k
theorem z_widen {ρ' : Type} {Qf : ρ' → State → Prop} {F : Option ρ'} (uc' us' : Nat) (h1 : uc ≤ uc') (h2 : us ≤ us') (k : zGq P Qf F pc lv stk hp sz uc' us') : zGq P Qf F pc lv stk hp sz uc us := by
  obtain ⟨p, l, e, R, s, m, args, below, meth, c, D, tc, ro, b0, mc', ms', nL⟩ := P
  intro r hr H locs ls g1 g2 g3 g4
  exact W.widen h1 h2 (k r hr H locs ls g1 g2 g3 g4)
theorem z_callVX {ρc : Type} {oc : ρc → Option Value × zHp × Nat} {Fc : Option (Option ρc)} {kk : ρc → Option (Option ρ)} (C : zC P cc own ret ht mc ms nn ro0) (CX : zCx P) {idx n ci narg a htY mcY msY : Nat} {y : MethodName} {cy : ByteArray} {retY : Option FieldType} {stk0 : List Value} (hw : zCV own idx y cy n retY ci narg) (As : List Value)
    (hM : ∀ (l : Launch) (D : va_G) (tc : Nat → ClassId) (b0 : Nat) (r : Option ρc), l.stackTraces = false → Fc = some r → zis hp a ci = some () ∧ zMx l y cy n retY htY mcY msY (.ref a :: As) D tc ro0 b0 hp sz oc hx r)
    (hn : As.length = narg) (hst : stk0 = As.reverse ++ .ref a :: stk) (hcat : (stk.map fun v => v.category).sum ≤ 8) (hh : htY + 1 ≤ ht) (hnl : n ≤ 21) (hcells : uc + mcY ≤ mc ∧ us + msY ≤ ms) (hd : decode cc pc = .ok (.invokevirtual idx, 3))
    (k : ∀ r, zGq P (zEndX P o hx) (kk r) (pc + 3) lv ((oc r).1.toList ++ stk) (oc r).2.1 (oc r).2.2 (uc + mcY) (us + msY)) : zGq P (zEndX P o hx) (zbx Fc kk) pc lv stk0 hp sz uc us := by
  cases hF : Fc with
  | none =>
    obtain ⟨p, l, e, R, s, m, args, below, meth, c, D, tc, ro, b0, mc', ms', nL⟩ := P
    intro r hr
    cases hr
  | some rc =>
    obtain ⟨p, l, e, R, s, m, args, below, meth, c, D, tc, ro, b0, mc', ms', nL⟩ := P
    obtain ⟨⟨hxx, hb, hml, hown, hts⟩, hret, hlocks, hK, hRO, hb0, hR, hmc, hms, hnn, hro⟩ := C
    obtain ⟨hl0, htab⟩ := CX
    subst hnn
    subst hro
    subst hmc
    subst hms
    intro r hr H locs ls h1 h2 h3 h4
    obtain ⟨hz, hMet⟩ := hM l D tc b0 rc hl0 hF
    obtain ⟨Cn, hci, hws, hyc, hy1, hy2, hy3⟩ := hw
    have run := vx_runV (l := l) (e := e) (R := R) (below := below) (meth := meth) (locs := locs) (cells := uc) (slots := us) (Ts := zGT) (own := own) (C := Cn) (b := a) (As := As) (rest := stk) (g := F0 m pc ls stk0) (p := p) (c := c) (H := H) ⟨hxx, hb, hml, hown, hts⟩ hMet (cwV narg hts (fun w hw => ?_) rfl rfl rfl ⟨hyc, hy1, hy2, hy3⟩ ?_) ⟨zBlind, ?_, fun U hU hW => ⟨rfl, by rw [hU]; exact h1, by rw [hU]; exact h2.moved hW.alike, va_K.moved hW.alike hK, ?_, ?_⟩⟩ rfl hn h4.1 hst (lv_room hcat) hd ?_
    · intro T hT X
      rcases run T hT X with ⟨v, st₀, t, T', L, h0, X', hL, e1, e2, hq, st⟩ | ⟨q9, st₀, t, T', L, E, ce, h0, X', hL, e1, e2, hq, hce, hcv, hcc, st⟩
      · cases rc with
        | none => exact hq.elim
        | some x =>
          obtain ⟨hq1, hq2, hq3, hq4, hq5⟩ := hq
          cases hq1
          have hr' : kk x = some r := hr
          rw [h0] at hq4 hq5
          have hal : s.vm.Alike t.vm := by rw [← e2]; exact X'.warmed.alike
          obtain ⟨t2, a1, b1⟩ := k x r hr' T'.heap (locs ++ L) ls (by rw [e1]; exact hq2) (by rw [e1]; exact hq3.moved hal.symm)
            ⟨Nat.le_trans h3.1 (by rw [e1]; exact hq4), fun q g1 g2 => by rw [e1, hq5 q (Nat.lt_of_lt_of_le g1 h3.1) g2]; exact h3.2.1 q g1 g2, fun q hq => by
              rcases List.mem_append.mp hq with h | h
              · exact h3.2.2 q h
              · exact hL q h⟩ h4 T' rfl X'
          exact ⟨t2, st t2 a1, b1⟩
      · cases rc with
        | some x => exact hq.elim
        | none =>
          obtain ⟨rfl, hq3, hq4, hq5⟩ := hq
          cases hr
          rw [h0] at hq4 hq5
          have hal : s.vm.Alike t.vm := by rw [← e2]; exact X'.warmed.alike
          have hout := vx_out (p := p) (l := l) (e := e) (R := R) (s := s) (m := m) (args := args) (below := below) (meth := meth) (c := c) (H := T'.heap) (locs := locs ++ L) (cells := uc + mcY) (slots := us + msY) (ls := ls) (rest := stk) (free := fun q => b0 ≤ q) (Qc := zQX D tc b0 o none) (XC := zXX D tc b0 hx (none : Option ρ)) (pc := pc) (E := zIO) (ce := ce) (q := q9) (mc := mc') (ms := ms') (fun x hx => (htab x hx).elim) hlocks (by rw [e1]; exact hce) hcv hcc (fun t2 ht2 hal2 => ⟨rfl, by rw [ht2, e1]; exact (hq3.moved hal.symm).moved hal2, ⟨by rw [ht2]; exact Nat.le_trans h3.1 (by rw [e1]; exact hq4), fun q g1 g2 => by rw [ht2, e1, hq5 q (Nat.lt_of_lt_of_le g1 h3.1) g2]; exact h3.2.1 q g1 g2⟩⟩) (fun q hq => by
              rcases List.mem_append.mp hq with h | h
              · exact h3.2.2 q h
              · exact hL q h) hcells.1 hcells.2
          obtain ⟨t2, a1, b1⟩ := hout T' rfl X'
          exact ⟨t2, Steps.trans st a1, b1⟩
    · refine zGT_good w ?_
      simp only [wsV, List.mem_append] at hw hws
      rcases hw with hw | hw
      · exact hws w (Or.inl hw)
      · rcases List.mem_cons.mp hw with e | hw
        · exact hws w (Or.inr (by rw [e]; exact List.mem_cons_self))
        · exact hw
    · rw [hR]
      refine ⟨hh, ?_⟩
      show 8 + (n + 11) + 40 * htY ≤ 40 * ht
      omega
    · unfold zis at hz
      split at hz
      · next c' fs hc =>
        split at hz
        · next q =>
          subst q
          have hz2 := h2 a _ hc
          unfold zAt at hz2
          dsimp only at hz2
          rcases hci with ⟨hci, T0, N, hcl⟩ | ⟨rfl, rfl⟩
          · rw [if_pos hci] at hz2
            obtain ⟨hba, r0, e1, cell, g1, g2, g3, -⟩ := hz2
            have hr0 : r0 = (Cn, T0, N) := Option.some.inj (e1.symm.trans hcl)
            subst hr0
            exact ⟨cell, g1, by rw [g3]; rfl, by rw [g2]; exact (hK.1 c' _ hcl).2.1⟩
          · rw [if_neg (by decide)] at hz2
            obtain ⟨w2, -, ⟨cell, g1, g2, g3, -⟩, -⟩ := hz2
            exact ⟨cell, g1, g2, g3⟩
        · cases hz
      · cases hz
    · rw [hU]
      exact (hRO.kept (fun q g1 g2 => h3.2.1 q g1 g2)).moved hW
    · rw [← h1]
      exact Nat.le_trans hb0 h3.1
    · rw [hR]
      exact hcells
/-- throw new IndexOutOfBoundsException(text), the text's entry a wide one -/
theorem z_throwW (C : zC P cc own ret ht mc ms nn ro0) (CX : zCx P) {ik is ic : Nat} {tx : String} (i : Nat) (hstr : zStr[i]? = some (own, is, tx))
    (hk : Cond.classLink own ik zIO ∈ zGT) (hini : Cond.initialized zIO ∈ zGT)
    (hat1 : ∀ w ∈ (vx_atS own ic zIO ["java/lang/RuntimeException", "java/lang/Exception"]).filter goodWord, w ∈ zGT)
    (hat2 : ∀ w ∈ (vx_atS own ic zIO ["java/lang/RuntimeException", "java/lang/Exception"]).filter (fun w => !goodWord w), w ∈ zNwL)
    (hgood : ∀ w ∈ Cond.classLink own ik zIO :: Cond.initialized zIO :: vx_atS own ic zIO ["java/lang/RuntimeException", "java/lang/Exception"], vx_ot w = true)
    (d0 : decode cc pc = .ok (.new ik, 3)) (d3 : decode cc (pc + 3) = .ok (.dup, 1)) (d4 : decode cc (pc + 4) = .ok (.ldc_w is, 3)) (d7 : decode cc (pc + 7) = .ok (.invokespecial ic, 3)) (d10 : decode cc (pc + 10) = .ok (.athrow, 1))
    (hcat : (stk.map fun v => v.category).sum ≤ 8) (hh : 6 ≤ ht) (hc : uc + 1 ≤ mc) (hs : us + 6 ≤ ms) : zGq P (zEndX P o hp) (some none) pc lv stk hp sz uc us := by
  obtain ⟨p, l, e, R, s, m, args, below, meth, c, D, tc, ro, b0, mc', ms', nL⟩ := P
  obtain ⟨⟨hxx, hb, hml, hown, hts⟩, hret, hlocks, hK, hRO, hb0, hR, hmc, hms, hnn, hro⟩ := C
  obtain ⟨hl0, htab⟩ := CX
  subst hnn
  subst hro
  subst hmc
  subst hms
  intro r hr H locs ls h1 h2 h3 h4
  cases hr
  refine vx_throwSW (own := own) (cls := zIO) (text := tx) (names := ["java/lang/RuntimeException", "java/lang/Exception"]) (ik := ik) (is := is) (ic := ic) (sa := ro i) (A := fun q => b0 ≤ q) hxx hb hl0 hown (by decide +kernel) (by decide +kernel) (hts _ hk) (hts _ hini) (hRO.2.1 i _ hstr) (vx_hat (B := zNwL) (fun w hw => hts w (hat1 w hw)) hat2 (fun w hw => va_Nw.use ((by decide +kernel : ∀ w ∈ zNwL, w.onTables = true) w hw) (hRO.2.2.2.1 w hw))) hgood hRO.2.2.2.2.1 hRO.2.2.2.2.2.1 h3 (by rw [hml]; exact h4.1) d0 d3 d4 d7 d10 (fun x hx => (htab x hx).elim) ?_ ?_ ?_ ?_ hlocks ?_ h3.2.2 hc hs
  · rw [hR]
    show 2 + 3 < ht
    omega
  · rw [hR]
    show _ + (13 * (2 + 1) + 43) ≤ 40 * ht
    omega
  · rw [hR]
    exact hc
  · rw [hR]
    exact hs
  · intro t hal hsz hkp
    refine ⟨rfl, ?_, ⟨Nat.le_trans h3.1 hsz, fun q g1 g2 => (hkp q (Nat.lt_of_lt_of_le g1 h3.1)).trans (h3.2.1 q g1 g2)⟩⟩
    refine zI.moved hal ?_
    intro a o' ho
    have hz := h2 a o' ho
    refine hz.grown ?_
    intro q hq
    exact hkp q hq
theorem z_callVXp {Fc : Option (Option Int32)} {kk : Int32 → Option (Option ρ)} (C : zC P cc own ret ht mc ms nn ro0) (CX : zCx P) {idx n ci narg a htY mcY msY : Nat} {y : MethodName} {cy : ByteArray} {retY : Option FieldType} {stk0 : List Value} (hw : zCV own idx y cy n retY ci narg) (As : List Value)
    (hM : ∀ (l : Launch) (D : va_G) (tc : Nat → ClassId) (b0 : Nat) (r : Option Int32), l.stackTraces = false → Fc = some r → zis hp a ci = some () ∧ zMx l y cy n retY htY mcY msY (.ref a :: As) D tc ro0 b0 hp sz (zoP sz hp) hp r)
    (hd : decode cc pc = .ok (.invokevirtual idx, 3)) (hn : As.length = narg) (hst : stk0 = As.reverse ++ .ref a :: stk) (hcat : (stk.map fun v => v.category).sum ≤ 8) (hh : htY + 1 ≤ ht) (hnl : n ≤ 21) (hcells : uc + mcY ≤ mc ∧ us + msY ≤ ms)
    (k : ∀ x, zGq P (zEndX P o hp) (kk x) (pc + 3) lv (.int x :: stk) hp sz (uc + mcY) (us + msY)) : zGq P (zEndX P o hp) (zbx Fc kk) pc lv stk0 hp sz uc us :=
  z_callVX (oc := zoP sz hp) C CX hw As hM hn hst hcat hh hnl hcells hd (fun r => k r)
theorem z_callVXu {Fc : Option (Option Unit)} {kk : Unit → Option (Option ρ)} (C : zC P cc own ret ht mc ms nn ro0) (CX : zCx P) {idx n ci narg a htY mcY msY : Nat} {y : MethodName} {cy : ByteArray} {retY : Option FieldType} {stk0 : List Value} (hw : zCV own idx y cy n retY ci narg) (As : List Value)
    (hM : ∀ (l : Launch) (D : va_G) (tc : Nat → ClassId) (b0 : Nat) (r : Option Unit), l.stackTraces = false → Fc = some r → zis hp a ci = some () ∧ zMx l y cy n retY htY mcY msY (.ref a :: As) D tc ro0 b0 hp sz (zoPU sz hp) hp r)
    (hd : decode cc pc = .ok (.invokevirtual idx, 3)) (hn : As.length = narg) (hst : stk0 = As.reverse ++ .ref a :: stk) (hcat : (stk.map fun v => v.category).sum ≤ 8) (hh : htY + 1 ≤ ht) (hnl : n ≤ 21) (hcells : uc + mcY ≤ mc ∧ us + msY ≤ ms)
    (k : ∀ x, zGq P (zEndX P o hp) (kk x) (pc + 3) lv stk hp sz (uc + mcY) (us + msY)) : zGq P (zEndX P o hp) (zbx Fc kk) pc lv stk0 hp sz uc us :=
  z_callVX (oc := zoPU sz hp) C CX hw As hM hn hst hcat hh hnl hcells hd (fun r => k r)
end ZX
