section ZL
variable {ρ : Type} {P : zX} {o : ρ → Option Value × zHp × Nat} {Qf : ρ → State → Prop} {F : Option ρ} {pc : Nat} {lv : List (Nat × Value)} {stk : List Value} {hp : zHp} {sz uc us : Nat} {cc : ByteArray} {own : String} {ret : Option FieldType} {ht mc ms nn : Nat} {ro0 : Nat → Nat}
theorem zGT_good : ∀ w ∈ zGT, w ∈ zGT ∧ ((w.onTables && w.keeps) = true ∨ ∃ ty, w = .arrayClass ty) := fun w h => ⟨h, good_of_word (zGT_word h)⟩
theorem zGT_in {w : Cond} (i : Nat) (h : lw_tbl[i]? = some w) (hg : goodWord w = true) : w ∈ zGT := zGT_of (List.mem_of_getElem? h) hg
theorem zGoodCons {ws : List Cond} (h : ∀ w ∈ ws, w ∈ zGT) : GoodIn zGT (ws ++ zGT) := fun w hw => zGT_good w ((List.mem_append.mp hw).elim (h w) id)
theorem zBlind {As : List Value} {D : va_G} {tc : Nat → ClassId} {ro : Nat → Nat} {b0 : Nat} {sz : Nat} {hp : zHp} : FrameBlind (va_Pc As (zW D tc ro b0 hp sz)) := by
  intro a U g mk q
  obtain ⟨q0, q1, q2, q3, q4, q5⟩ := q
  exact ⟨q0, q1, zI.moved (u := U) (U := U.calling g mk a) (Vm.Alike.refl U.vm) q2, va_K.moved (u := U) (U := U.calling g mk a) (Vm.Alike.refl U.vm) q3, zRO.same (u := U) (U := U.calling g mk a) rfl q4, q5⟩
/-- a method's start -/
theorem z_start {l : Launch} {y : MethodName} {n : Nat} {As : List Value} {D : va_G} {tc : Nat → ClassId} {ro : Nat → Nat} {b0 : Nat} {r : ρ} (hr : F = some r) (hy : plainName y.cls = true) (own : String) (hown : y.cls = own) (hlv : lv_args 0 As = lv) (hn : (lg_sl As).length ≤ n) (body : ∀ P : zX, zC P cc own ret ht mc ms n ro → zG P o F 0 lv [] hp sz 0 0) :
    zM l y cc n ret ht mc ms As D tc ro b0 hp sz (o r).1 (o r).2.1 (o r).2.2 := by
  unfold zM
  refine Met.ofW (cc := cc) (maxL := n) (ret := ret) hy rfl ?_
  intro p e s m args below meth c s₁ B hml hv
  obtain ⟨rfl, hsz, hI, hK, hRO, hb0⟩ := hv
  have hts0 := atoms_spec (ws := Cond.code y cc n ret :: zGT) B.pre
  have hts : ∀ w ∈ zGT, w.before As.toArray s = true := fun w h => hts0 w (List.mem_cons_of_mem _ h)
  have hown2 : s.vm.findClass own = some m.cls := by rw [← hown]; exact findClass_of_methodNamed B.named
  have C0 : zC (p, l, e, (headSpec (Cond.code y cc n ret :: zGT) { frames := ht, cells := mc, slots := ms, locals := 40 * ht }).room, s, m, As.toArray, below, meth, c, D, tc, ro, b0, mc, ms, n) cc own ret ht mc ms n ro :=
    ⟨⟨B.exec, B.bytes, hml, hown2, hts⟩, B.returns, B.notSynchronized, hK, hRO, by rw [hsz]; exact hb0, rfl, rfl, rfl, rfl, rfl⟩
  have hl := lv_entry As (n := n) hn
  rw [lg_entry_eq]
  rw [hlv] at hl
  exact body _ C0 r hr s.heap [] _ hsz hI va_S.rf hl
/-- what a call of an instance method needs of the tables -/
def zCV (own : String) (idx : Nat) (y : MethodName) (cy : ByteArray) (n : Nat) (ret : Option FieldType) (ci narg : Nat) : Prop := ∃ C : String, ((ci < 20 ∧ ∃ (T : u_T) (N : Nat), zCl[ci]? = some (C, T, N)) ∨ (ci = 20 ∧ C = "java/lang/String")) ∧ (∀ w ∈ wsV own idx C y [Cond.code y cy n ret], w ∈ zGT) ∧ y.cls = C ∧ y.cls ≠ "java/lang/invoke/MethodHandle" ∧ y.cls ≠ "java/lang/invoke/VarHandle" ∧ (parseMethodDescriptor y.desc).map (fun d => d.parameters.length) = some narg
def zCS (own : String) (idx : Nat) (y : MethodName) (cy : ByteArray) (n : Nat) (ret : Option FieldType) (narg : Nat) : Prop := (∀ w ∈ va_wsS own idx y [Cond.code y cy n ret], w ∈ zGT) ∧ y.cls ≠ "java/lang/invoke/MethodHandle" ∧ y.cls ≠ "java/lang/invoke/VarHandle" ∧ (parseMethodDescriptor y.desc).map (fun d => d.parameters.length) = some narg
theorem zV5 {own : String} {idx : Nat} {C : String} {y : MethodName} {w5 : Cond} (h1 : Cond.methodLink own idx y ∈ zGT) (h2 : Cond.instanceMethod y ∈ zGT) (h3 : Cond.selects C y y ∈ zGT) (h4 : Cond.initialized C ∈ zGT) (h5 : w5 ∈ zGT) : ∀ w ∈ wsV own idx C y [w5], w ∈ zGT := by
  intro w h
  simp only [wsV, List.cons_append, List.nil_append, List.mem_cons, List.not_mem_nil, or_false] at h
  rcases h with rfl | rfl | rfl | rfl | rfl <;> assumption
theorem zS4 {own : String} {idx : Nat} {y : MethodName} {w5 : Cond} (h1 : Cond.methodLink own idx y ∈ zGT) (h2 : Cond.static y ∈ zGT) (h3 : Cond.initialized y.cls ∈ zGT) (h5 : w5 ∈ zGT) : ∀ w ∈ va_wsS own idx y [w5], w ∈ zGT := by
  intro w h
  simp only [va_wsS, List.cons_append, List.nil_append, List.mem_cons, List.not_mem_nil, or_false] at h
  rcases h with rfl | rfl | rfl | rfl <;> assumption
theorem z_back {p : Program} {l : Launch} {e : Env} {R : Room} {s : State} {m : MethodId} {args : Array Value} {below : List Frame} {meth : Method} {c : Code} {H : Heap} {locs : List Loc} {Q : State → Prop} {D : va_G} {tc : Nat → ClassId} {b0 mcY msY sz' : Nat} {v : Option Value} {hp' : zHp} {aa : Array Value} {st0 : List Value} {ls : Array Slot}
    (run : va_Run p l e R s m args below meth c H locs uc us mcY msY (F0 m pc ls st0) stk (zQ D tc b0 v hp' sz' aa) (fun q => b0 ≤ q)) (h3 : va_S (fun q => b0 ≤ q) s.heap H locs)
    (kk : ∀ (H1 : Heap) (locs1 : List Loc), H1.size = sz' → zI D tc b0 s hp' H1 → va_S (fun q => b0 ≤ q) s.heap H1 locs1 → W p l e R s m args below meth c H1 locs1 (uc + mcY) (us + msY) Q (F0 m (pc + 3) ls (v.toList ++ stk))) : W p l e R s m args below meth c H locs uc us Q (F0 m pc ls st0) := by
  intro T hT X
  obtain ⟨v', st₀, t, T', L, h0, X', hL, e1, e2, ⟨hq1, hq2, hq3, hq4, hq5⟩, st⟩ := run T hT X
  cases hq1
  rw [h0] at hq4 hq5
  have hal : s.vm.Alike t.vm := by rw [← e2]; exact X'.warmed.alike
  obtain ⟨t2, a1, b1⟩ := kk T'.heap (locs ++ L) (by rw [e1]; exact hq2) (by rw [e1]; exact hq3.moved hal.symm)
    ⟨Nat.le_trans h3.1 (by rw [e1]; exact hq4), fun q g1 g2 => by rw [e1, hq5 q (Nat.lt_of_lt_of_le g1 h3.1) g2]; exact h3.2.1 q g1 g2, fun q hq => by
      rcases List.mem_append.mp hq with h | h
      · exact h3.2.2 q h
      · exact hL q h⟩ T' rfl X'
  exact ⟨t2, st t2 a1, b1⟩
theorem z_callV {ρc : Type} {oc : ρc → Option Value × zHp × Nat} {Fc : Option ρc} {kk : ρc → Option ρ} (C : zC P cc own ret ht mc ms nn ro0) {idx n ci narg a htY mcY msY : Nat} {y : MethodName} {cy : ByteArray} {retY : Option FieldType} {stk0 : List Value} (hw : zCV own idx y cy n retY ci narg) (As : List Value)
    (hM : ∀ (l : Launch) (D : va_G) (tc : Nat → ClassId) (b0 : Nat) (r : ρc), Fc = some r → zis hp a ci = some () ∧ zM l y cy n retY htY mcY msY (.ref a :: As) D tc ro0 b0 hp sz (oc r).1 (oc r).2.1 (oc r).2.2)
    (hn : As.length = narg) (hst : stk0 = As.reverse ++ .ref a :: stk) (hcat : (stk.map fun v => v.category).sum ≤ 8) (hh : htY + 1 ≤ ht) (hnl : n ≤ 21) (hcells : uc + mcY ≤ mc ∧ us + msY ≤ ms) (hd : decode cc pc = .ok (.invokevirtual idx, 3))
    (k : ∀ r, zGq P Qf (kk r) (pc + 3) lv ((oc r).1.toList ++ stk) (oc r).2.1 (oc r).2.2 (uc + mcY) (us + msY)) : zGq P Qf (Fc.bind kk) pc lv stk0 hp sz uc us := by
  cases hF : Fc with
  | none => 
    obtain ⟨p, l, e, R, s, m, args, below, meth, c, D, tc, ro, b0, mc', ms', nL⟩ := P
    intro r hr
    cases hr
  | some rc =>
    have k := k rc
    obtain ⟨p, l, e, R, s, m, args, below, meth, c, D, tc, ro, b0, mc', ms', nL⟩ := P
    obtain ⟨⟨hx, hb, hml, hown, hts⟩, hret, hlocks, hK, hRO, hb0, hR, hmc, hms, hnn, hro⟩ := C
    subst hnn
    subst hro
    intro r hr H locs ls h1 h2 h3 h4
    obtain ⟨hz, hMet⟩ := hM l D tc b0 rc hF
    obtain ⟨Cn, hci, hws, hyc, hy1, hy2, hy3⟩ := hw
    have hr' : kk rc = some r := hr
    refine z_back (va_runV (Ts := zGT) (own := own) (C := Cn) (b := a) (As := As) (rest := stk) ⟨hx, hb, hml, hown, hts⟩ hMet (cwV narg hts (fun w hw => ?_) rfl rfl rfl ⟨hyc, hy1, hy2, hy3⟩ ?_) ⟨zBlind, ?_, fun U hU hW => ⟨rfl, by rw [hU]; exact h1, by rw [hU]; exact h2.moved hW.alike, va_K.moved hW.alike hK, ?_, ?_⟩⟩ rfl hn h4.1 hst (lv_room hcat) hd ?_) h3 (fun H1 locs1 g1 g2 g3 => k r hr' H1 locs1 ls g1 g2 g3 h4)
    · refine zGT_good w ?_
      simp only [wsV, List.mem_append] at hw hws
      rcases hw with hw | hw
      · exact hws w (Or.inl hw)
      · rcases List.mem_cons.mp hw with e | hw
        · exact hws w (Or.inr (by rw [e]; exact List.mem_cons_self))
        · exact hw
    · rw [hR]
      refine ⟨hh, ?_⟩
      show 8 + (n + 11) + 40 * htY ≤ 40 * ht
      omega
    · unfold zis at hz
      split at hz
      · next c' fs hc =>
        split at hz
        · next q =>
          subst q
          have hz2 := h2 a _ hc
          unfold zAt at hz2
          dsimp only at hz2
          rcases hci with ⟨hci, T0, N, hcl⟩ | ⟨rfl, rfl⟩
          · rw [if_pos hci] at hz2
            obtain ⟨hba, r0, e1, cell, g1, g2, g3, -⟩ := hz2
            have hr0 : r0 = (Cn, T0, N) := Option.some.inj (e1.symm.trans hcl)
            subst hr0
            exact ⟨cell, g1, by rw [g3]; rfl, by rw [g2]; exact (hK.1 c' _ hcl).2.1⟩
          · rw [if_neg (by decide)] at hz2
            obtain ⟨w2, -, ⟨cell, g1, g2, g3, -⟩, -⟩ := hz2
            exact ⟨cell, g1, g2, g3⟩
        · cases hz
      · cases hz
    · rw [hU]
      exact (hRO.kept (fun q g1 g2 => h3.2.1 q g1 g2)).moved hW
    · rw [← h1]
      exact Nat.le_trans hb0 h3.1
    · rw [hR]
      exact hcells
theorem z_callS {ρc : Type} {oc : ρc → Option Value × zHp × Nat} {Fc : Option ρc} {kk : ρc → Option ρ} (C : zC P cc own ret ht mc ms nn ro0) {idx n narg htY mcY msY : Nat} {y : MethodName} {cy : ByteArray} {retY : Option FieldType} {stk0 : List Value} (hw : zCS own idx y cy n retY narg) (As : List Value)
    (hM : ∀ (l : Launch) (D : va_G) (tc : Nat → ClassId) (b0 : Nat) (r : ρc), Fc = some r → zM l y cy n retY htY mcY msY As D tc ro0 b0 hp sz (oc r).1 (oc r).2.1 (oc r).2.2)
    (hn : As.length = narg) (hst : stk0 = As.reverse ++ stk) (hcat : (stk.map fun v => v.category).sum ≤ 8) (hh : htY + 1 ≤ ht) (hnl : n ≤ 21) (hcells : uc + mcY ≤ mc ∧ us + msY ≤ ms) (hd : decode cc pc = .ok (.invokestatic idx, 3))
    (k : ∀ r, zGq P Qf (kk r) (pc + 3) lv ((oc r).1.toList ++ stk) (oc r).2.1 (oc r).2.2 (uc + mcY) (us + msY)) : zGq P Qf (Fc.bind kk) pc lv stk0 hp sz uc us := by
  cases hF : Fc with
  | none => 
    obtain ⟨p, l, e, R, s, m, args, below, meth, c, D, tc, ro, b0, mc', ms', nL⟩ := P
    intro r hr
    cases hr
  | some rc =>
    have k := k rc
    obtain ⟨p, l, e, R, s, m, args, below, meth, c, D, tc, ro, b0, mc', ms', nL⟩ := P
    obtain ⟨⟨hx, hb, hml, hown, hts⟩, hret, hlocks, hK, hRO, hb0, hR, hmc, hms, hnn, hro⟩ := C
    subst hnn
    subst hro
    intro r hr H locs ls h1 h2 h3 h4
    have hMet := hM l D tc b0 rc hF
    obtain ⟨hws, hy1, hy2, hy3⟩ := hw
    have hr' : kk rc = some r := hr
    refine z_back (va_runS (Ts := zGT) (own := own) (As := As) (rest := stk) ⟨hx, hb, hml, hown, hts⟩ hMet (va_cwS narg hts (fun w hw => ?_) rfl rfl rfl ⟨hy1, hy2, hy3⟩ ?_) ⟨zBlind, fun U hU hW => ⟨rfl, by rw [hU]; exact h1, by rw [hU]; exact h2.moved hW.alike, va_K.moved hW.alike hK, ?_, ?_⟩⟩ rfl hn h4.1 hst (lv_room hcat) hd ?_) h3 (fun H1 locs1 g1 g2 g3 => k r hr' H1 locs1 ls g1 g2 g3 h4)
    · refine zGT_good w ?_
      simp only [va_wsS, List.mem_append] at hw hws
      rcases hw with hw | hw
      · exact hws w (Or.inl hw)
      · rcases List.mem_cons.mp hw with e | hw
        · exact hws w (Or.inr (by rw [e]; exact List.mem_cons_self))
        · exact hw
    · rw [hR]
      refine ⟨hh, ?_⟩
      show 8 + (n + 11) + 40 * htY ≤ 40 * ht
      omega
    · rw [hU]
      exact (hRO.kept (fun q g1 g2 => h3.2.1 q g1 g2)).moved hW
    · rw [← h1]
      exact Nat.le_trans hb0 h3.1
    · rw [hR]
      exact hcells
/-! callees that make nothing, by their answers -/
theorem z_callVi {Fc : Option (Int32 × zHp)} {kk : Int32 → zHp → Option ρ} (C : zC P cc own ret ht mc ms nn ro0) {idx n ci narg a htY : Nat} {y : MethodName} {cy : ByteArray} {retY : Option FieldType} {stk0 : List Value} (hw : zCV own idx y cy n retY ci narg) (As : List Value)
    (hM : ∀ (l : Launch) (D : va_G) (tc : Nat → ClassId) (b0 : Nat) (r : Int32 × zHp), Fc = some r → zis hp a ci = some () ∧ zM l y cy n retY htY 0 0 (.ref a :: As) D tc ro0 b0 hp sz (zoI sz r).1 (zoI sz r).2.1 (zoI sz r).2.2)
    (hd : decode cc pc = .ok (.invokevirtual idx, 3)) (hn : As.length = narg) (hst : stk0 = As.reverse ++ .ref a :: stk) (hcat : (stk.map fun v => v.category).sum ≤ 8) (hh : htY + 1 ≤ ht) (hnl : n ≤ 21) (hcells : uc ≤ mc ∧ us ≤ ms)
    (k : ∀ x h, zGq P Qf (kk x h) (pc + 3) lv (.int x :: stk) h sz uc us) : zGq P Qf (zb2 Fc kk) pc lv stk0 hp sz uc us :=
  z_callV (oc := zoI sz) (kk := fun r => kk r.1 r.2) C hw As hM hn hst hcat hh hnl hcells hd (fun r => k r.1 r.2)
theorem z_callVr {Fc : Option (Nat × zHp)} {kk : Nat → zHp → Option ρ} (C : zC P cc own ret ht mc ms nn ro0) {idx n ci narg a htY : Nat} {y : MethodName} {cy : ByteArray} {retY : Option FieldType} {stk0 : List Value} (hw : zCV own idx y cy n retY ci narg) (As : List Value)
    (hM : ∀ (l : Launch) (D : va_G) (tc : Nat → ClassId) (b0 : Nat) (r : Nat × zHp), Fc = some r → zis hp a ci = some () ∧ zM l y cy n retY htY 0 0 (.ref a :: As) D tc ro0 b0 hp sz (zoR sz r).1 (zoR sz r).2.1 (zoR sz r).2.2)
    (hd : decode cc pc = .ok (.invokevirtual idx, 3)) (hn : As.length = narg) (hst : stk0 = As.reverse ++ .ref a :: stk) (hcat : (stk.map fun v => v.category).sum ≤ 8) (hh : htY + 1 ≤ ht) (hnl : n ≤ 21) (hcells : uc ≤ mc ∧ us ≤ ms)
    (k : ∀ x h, zGq P Qf (kk x h) (pc + 3) lv (.ref x :: stk) h sz uc us) : zGq P Qf (zb2 Fc kk) pc lv stk0 hp sz uc us :=
  z_callV (oc := zoR sz) (kk := fun r => kk r.1 r.2) C hw As hM hn hst hcat hh hnl hcells hd (fun r => k r.1 r.2)
theorem z_callVv {Fc : Option zHp} {kk : zHp → Option ρ} (C : zC P cc own ret ht mc ms nn ro0) {idx n ci narg a htY : Nat} {y : MethodName} {cy : ByteArray} {retY : Option FieldType} {stk0 : List Value} (hw : zCV own idx y cy n retY ci narg) (As : List Value)
    (hM : ∀ (l : Launch) (D : va_G) (tc : Nat → ClassId) (b0 : Nat) (r : zHp), Fc = some r → zis hp a ci = some () ∧ zM l y cy n retY htY 0 0 (.ref a :: As) D tc ro0 b0 hp sz (zoV sz r).1 (zoV sz r).2.1 (zoV sz r).2.2)
    (hd : decode cc pc = .ok (.invokevirtual idx, 3)) (hn : As.length = narg) (hst : stk0 = As.reverse ++ .ref a :: stk) (hcat : (stk.map fun v => v.category).sum ≤ 8) (hh : htY + 1 ≤ ht) (hnl : n ≤ 21) (hcells : uc ≤ mc ∧ us ≤ ms)
    (k : ∀ h, zGq P Qf (kk h) (pc + 3) lv stk h sz uc us) : zGq P Qf (Fc.bind kk) pc lv stk0 hp sz uc us :=
  z_callV (oc := zoV sz) C hw As hM hn hst hcat hh hnl hcells hd (fun r => k r)
theorem z_callSi {Fc : Option (Int32 × zHp)} {kk : Int32 → zHp → Option ρ} (C : zC P cc own ret ht mc ms nn ro0) {idx n narg htY : Nat} {y : MethodName} {cy : ByteArray} {retY : Option FieldType} {stk0 : List Value} (hw : zCS own idx y cy n retY narg) (As : List Value)
    (hM : ∀ (l : Launch) (D : va_G) (tc : Nat → ClassId) (b0 : Nat) (r : Int32 × zHp), Fc = some r → zM l y cy n retY htY 0 0 As D tc ro0 b0 hp sz (zoI sz r).1 (zoI sz r).2.1 (zoI sz r).2.2)
    (hd : decode cc pc = .ok (.invokestatic idx, 3)) (hn : As.length = narg) (hst : stk0 = As.reverse ++ stk) (hcat : (stk.map fun v => v.category).sum ≤ 8) (hh : htY + 1 ≤ ht) (hnl : n ≤ 21) (hcells : uc ≤ mc ∧ us ≤ ms)
    (k : ∀ x h, zGq P Qf (kk x h) (pc + 3) lv (.int x :: stk) h sz uc us) : zGq P Qf (zb2 Fc kk) pc lv stk0 hp sz uc us :=
  z_callS (oc := zoI sz) (kk := fun r => kk r.1 r.2) C hw As hM hn hst hcat hh hnl hcells hd (fun r => k r.1 r.2)
theorem z_callSv {Fc : Option zHp} {kk : zHp → Option ρ} (C : zC P cc own ret ht mc ms nn ro0) {idx n narg htY : Nat} {y : MethodName} {cy : ByteArray} {retY : Option FieldType} {stk0 : List Value} (hw : zCS own idx y cy n retY narg) (As : List Value)
    (hM : ∀ (l : Launch) (D : va_G) (tc : Nat → ClassId) (b0 : Nat) (r : zHp), Fc = some r → zM l y cy n retY htY 0 0 As D tc ro0 b0 hp sz (zoV sz r).1 (zoV sz r).2.1 (zoV sz r).2.2)
    (hd : decode cc pc = .ok (.invokestatic idx, 3)) (hn : As.length = narg) (hst : stk0 = As.reverse ++ stk) (hcat : (stk.map fun v => v.category).sum ≤ 8) (hh : htY + 1 ≤ ht) (hnl : n ≤ 21) (hcells : uc ≤ mc ∧ us ≤ ms)
    (k : ∀ h, zGq P Qf (kk h) (pc + 3) lv stk h sz uc us) : zGq P Qf (Fc.bind kk) pc lv stk0 hp sz uc us :=
  z_callS (oc := zoV sz) C hw As hM hn hst hcat hh hnl hcells hd (fun r => k r)
theorem z_callVp {Fc : Option Int32} {kk : Int32 → Option ρ} (C : zC P cc own ret ht mc ms nn ro0) {idx n ci narg a htY : Nat} {y : MethodName} {cy : ByteArray} {retY : Option FieldType} {stk0 : List Value} (hw : zCV own idx y cy n retY ci narg) (As : List Value)
    (hM : ∀ (l : Launch) (D : va_G) (tc : Nat → ClassId) (b0 : Nat) (r : Int32), Fc = some r → zis hp a ci = some () ∧ zM l y cy n retY htY 0 0 (.ref a :: As) D tc ro0 b0 hp sz (zoP sz hp r).1 (zoP sz hp r).2.1 (zoP sz hp r).2.2)
    (hd : decode cc pc = .ok (.invokevirtual idx, 3)) (hn : As.length = narg) (hst : stk0 = As.reverse ++ .ref a :: stk) (hcat : (stk.map fun v => v.category).sum ≤ 8) (hh : htY + 1 ≤ ht) (hnl : n ≤ 21) (hcells : uc ≤ mc ∧ us ≤ ms)
    (k : ∀ x, zGq P Qf (kk x) (pc + 3) lv (.int x :: stk) hp sz uc us) : zGq P Qf (Fc.bind kk) pc lv stk0 hp sz uc us :=
  z_callV (oc := zoP sz hp) C hw As hM hn hst hcat hh hnl hcells hd (fun r => k r)
theorem z_callVpr {Fc : Option Nat} {kk : Nat → Option ρ} (C : zC P cc own ret ht mc ms nn ro0) {idx n ci narg a htY : Nat} {y : MethodName} {cy : ByteArray} {retY : Option FieldType} {stk0 : List Value} (hw : zCV own idx y cy n retY ci narg) (As : List Value)
    (hM : ∀ (l : Launch) (D : va_G) (tc : Nat → ClassId) (b0 : Nat) (r : Nat), Fc = some r → zis hp a ci = some () ∧ zM l y cy n retY htY 0 0 (.ref a :: As) D tc ro0 b0 hp sz (zoPR sz hp r).1 (zoPR sz hp r).2.1 (zoPR sz hp r).2.2)
    (hd : decode cc pc = .ok (.invokevirtual idx, 3)) (hn : As.length = narg) (hst : stk0 = As.reverse ++ .ref a :: stk) (hcat : (stk.map fun v => v.category).sum ≤ 8) (hh : htY + 1 ≤ ht) (hnl : n ≤ 21) (hcells : uc ≤ mc ∧ us ≤ ms)
    (k : ∀ x, zGq P Qf (kk x) (pc + 3) lv (.ref x :: stk) hp sz uc us) : zGq P Qf (Fc.bind kk) pc lv stk0 hp sz uc us :=
  z_callV (oc := zoPR sz hp) C hw As hM hn hst hcat hh hnl hcells hd (fun r => k r)
theorem z_callSp {Fc : Option Int32} {kk : Int32 → Option ρ} (C : zC P cc own ret ht mc ms nn ro0) {idx n narg htY : Nat} {y : MethodName} {cy : ByteArray} {retY : Option FieldType} {stk0 : List Value} (hw : zCS own idx y cy n retY narg) (As : List Value)
    (hM : ∀ (l : Launch) (D : va_G) (tc : Nat → ClassId) (b0 : Nat) (r : Int32), Fc = some r → zM l y cy n retY htY 0 0 As D tc ro0 b0 hp sz (zoP sz hp r).1 (zoP sz hp r).2.1 (zoP sz hp r).2.2)
    (hd : decode cc pc = .ok (.invokestatic idx, 3)) (hn : As.length = narg) (hst : stk0 = As.reverse ++ stk) (hcat : (stk.map fun v => v.category).sum ≤ 8) (hh : htY + 1 ≤ ht) (hnl : n ≤ 21) (hcells : uc ≤ mc ∧ us ≤ ms)
    (k : ∀ x, zGq P Qf (kk x) (pc + 3) lv (.int x :: stk) hp sz uc us) : zGq P Qf (Fc.bind kk) pc lv stk0 hp sz uc us :=
  z_callS (oc := zoP sz hp) C hw As hM hn hst hcat hh hnl hcells hd (fun r => k r)
theorem z_callSpu {Fc : Option Unit} {kk : Unit → Option ρ} (C : zC P cc own ret ht mc ms nn ro0) {idx n narg htY : Nat} {y : MethodName} {cy : ByteArray} {retY : Option FieldType} {stk0 : List Value} (hw : zCS own idx y cy n retY narg) (As : List Value)
    (hM : ∀ (l : Launch) (D : va_G) (tc : Nat → ClassId) (b0 : Nat) (r : Unit), Fc = some r → zM l y cy n retY htY 0 0 As D tc ro0 b0 hp sz (zoPU sz hp r).1 (zoPU sz hp r).2.1 (zoPU sz hp r).2.2)
    (hd : decode cc pc = .ok (.invokestatic idx, 3)) (hn : As.length = narg) (hst : stk0 = As.reverse ++ stk) (hcat : (stk.map fun v => v.category).sum ≤ 8) (hh : htY + 1 ≤ ht) (hnl : n ≤ 21) (hcells : uc ≤ mc ∧ us ≤ ms)
    (k : ∀ x, zGq P Qf (kk x) (pc + 3) lv stk hp sz uc us) : zGq P Qf (Fc.bind kk) pc lv stk0 hp sz uc us :=
  z_callS (oc := zoPU sz hp) C hw As hM hn hst hcat hh hnl hcells hd (fun r => k r)
theorem z_callVpu {Fc : Option Unit} {kk : Unit → Option ρ} (C : zC P cc own ret ht mc ms nn ro0) {idx n ci narg a htY : Nat} {y : MethodName} {cy : ByteArray} {retY : Option FieldType} {stk0 : List Value} (hw : zCV own idx y cy n retY ci narg) (As : List Value)
    (hM : ∀ (l : Launch) (D : va_G) (tc : Nat → ClassId) (b0 : Nat) (r : Unit), Fc = some r → zis hp a ci = some () ∧ zM l y cy n retY htY 0 0 (.ref a :: As) D tc ro0 b0 hp sz (zoPU sz hp r).1 (zoPU sz hp r).2.1 (zoPU sz hp r).2.2)
    (hd : decode cc pc = .ok (.invokevirtual idx, 3)) (hn : As.length = narg) (hst : stk0 = As.reverse ++ .ref a :: stk) (hcat : (stk.map fun v => v.category).sum ≤ 8) (hh : htY + 1 ≤ ht) (hnl : n ≤ 21) (hcells : uc ≤ mc ∧ us ≤ ms)
    (k : ∀ x, zGq P Qf (kk x) (pc + 3) lv stk hp sz uc us) : zGq P Qf (Fc.bind kk) pc lv stk0 hp sz uc us :=
  z_callV (oc := zoPU sz hp) C hw As hM hn hst hcat hh hnl hcells hd (fun r => k r)
/-! a static method of a nest mate -/
def zNS (own : String) (idx : Nat) (y : MethodName) (cy : ByteArray) (n : Nat) (ret : Option FieldType) (narg : Nat) (host : String) : Prop := Cond.methodLinkNest own idx y host ∈ zNwL ∧ Cond.static y ∈ zGT ∧ Cond.initialized y.cls ∈ zGT ∧ Cond.code y cy n ret ∈ zGT ∧ y.cls ≠ "java/lang/invoke/MethodHandle" ∧ y.cls ≠ "java/lang/invoke/VarHandle" ∧ (parseMethodDescriptor y.desc).map (fun d => d.parameters.length) = some narg
theorem z_callN {ρc : Type} {oc : ρc → Option Value × zHp × Nat} {Fc : Option ρc} {kk : ρc → Option ρ} (C : zC P cc own ret ht mc ms nn ro0) {idx n narg htY mcY msY : Nat} {y : MethodName} {cy : ByteArray} {retY : Option FieldType} {host : String} {stk0 : List Value} (hw : zNS own idx y cy n retY narg host) (As : List Value)
    (hM : ∀ (l : Launch) (D : va_G) (tc : Nat → ClassId) (b0 : Nat) (r : ρc), Fc = some r → zM l y cy n retY htY mcY msY As D tc ro0 b0 hp sz (oc r).1 (oc r).2.1 (oc r).2.2)
    (hn : As.length = narg) (hst : stk0 = As.reverse ++ stk) (hcat : (stk.map fun v => v.category).sum ≤ 8) (hh : htY + 1 ≤ ht) (hnl : n ≤ 21) (hcells : uc + mcY ≤ mc ∧ us + msY ≤ ms) (hd : decode cc pc = .ok (.invokestatic idx, 3))
    (k : ∀ r, zGq P Qf (kk r) (pc + 3) lv ((oc r).1.toList ++ stk) (oc r).2.1 (oc r).2.2 (uc + mcY) (us + msY)) : zGq P Qf (Fc.bind kk) pc lv stk0 hp sz uc us := by
  cases hF : Fc with
  | none => 
    obtain ⟨p, l, e, R, s, m, args, below, meth, c, D, tc, ro, b0, mc', ms', nL⟩ := P
    intro r hr
    cases hr
  | some rc =>
    have k := k rc
    obtain ⟨p, l, e, R, s, m, args, below, meth, c, D, tc, ro, b0, mc', ms', nL⟩ := P
    obtain ⟨⟨hx, hb, hml, hown, hts⟩, hret, hlocks, hK, hRO, hb0, hR, hmc, hms, hnn, hro⟩ := C
    subst hnn
    subst hro
    intro r hr H locs ls h1 h2 h3 h4
    have hMet := hM l D tc b0 rc hF
    obtain ⟨hw1, hw2, hw3, hw4, hy1, hy2, hy3⟩ := hw
    have hr' : kk rc = some r := hr
    refine z_back (va_runSN (Ts := zGT) (own := own) (As := As) (rest := stk) ⟨hx, hb, hml, hown, hts⟩ hMet ⟨va_cnB narg hts (fun w hw => ?_) rfl rfl rfl (hRO.2.2.2.1 _ hw1) (hts _ hw3) ⟨hy1, hy2, hy3⟩ ?_, hts _ hw2, trivial⟩ ⟨zBlind, fun U hU hW => ⟨rfl, by rw [hU]; exact h1, by rw [hU]; exact h2.moved hW.alike, va_K.moved hW.alike hK, ?_, ?_⟩⟩ rfl hn h4.1 hst (lv_room hcat) hd ?_) h3 (fun H1 locs1 g1 g2 g3 => k r hr' H1 locs1 ls g1 g2 g3 h4)
    · refine zGT_good w ?_
      rcases List.mem_cons.mp hw with e | hw
      · rw [e]; exact hw4
      · exact hw
    · rw [hR]
      refine ⟨hh, ?_⟩
      show 8 + (n + 11) + 40 * htY ≤ 40 * ht
      omega
    · rw [hU]
      exact (hRO.kept (fun q g1 g2 => h3.2.1 q g1 g2)).moved hW
    · rw [← h1]
      exact Nat.le_trans hb0 h3.1
    · rw [hR]
      exact hcells
theorem z_callNp {Fc : Option Int32} {kk : Int32 → Option ρ} (C : zC P cc own ret ht mc ms nn ro0) {idx n narg htY : Nat} {y : MethodName} {cy : ByteArray} {retY : Option FieldType} {host : String} {stk0 : List Value} (hw : zNS own idx y cy n retY narg host) (As : List Value)
    (hM : ∀ (l : Launch) (D : va_G) (tc : Nat → ClassId) (b0 : Nat) (r : Int32), Fc = some r → zM l y cy n retY htY 0 0 As D tc ro0 b0 hp sz (zoP sz hp r).1 (zoP sz hp r).2.1 (zoP sz hp r).2.2)
    (hd : decode cc pc = .ok (.invokestatic idx, 3)) (hn : As.length = narg) (hst : stk0 = As.reverse ++ stk) (hcat : (stk.map fun v => v.category).sum ≤ 8) (hh : htY + 1 ≤ ht) (hnl : n ≤ 21) (hcells : uc ≤ mc ∧ us ≤ ms)
    (k : ∀ x, zGq P Qf (kk x) (pc + 3) lv (.int x :: stk) hp sz uc us) : zGq P Qf (Fc.bind kk) pc lv stk0 hp sz uc us :=
  z_callN (oc := zoP sz hp) C hw As hM hn hst hcat hh hnl hcells hd (fun r => k r)
end ZL

