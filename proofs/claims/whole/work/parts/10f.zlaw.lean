/-! the law: programs that are known to answer; wrappers that catch; what is left of the heap's size is unknown after a throw -/
section ZQ
variable {P : zX} {Qf : Unit → State → Prop} {pc : Nat} {lv : List (Nat × Value)} {stk : List Value} {hp hx : zHp} {sz uc us : Nat} {cc : ByteArray} {own : String} {ret : Option FieldType} {ht mc ms nn : Nat} {ro0 : Nat → Nat}
noncomputable def zpk {α : Type} (x y : α) : Option Unit := @ite _ (y = x) (Classical.propDecidable _) (some ()) none
theorem zpk_self {α : Type} (x : α) : zpk x x = some () := by
  unfold zpk
  rw [if_pos rfl]
theorem z_pk {α : Type} {m : Option α} {x : α} (hm : m = some x) (k : zGq P Qf (m.bind (zpk x)) pc lv stk hp sz uc us) : zGq P Qf (some ()) pc lv stk hp sz uc us := by
  rw [hm] at k
  have h : (some x).bind (zpk x) = some () := zpk_self x
  rw [h] at k
  exact k
theorem z_pkl {α : Type} {x : α} (k : zGq P Qf (zlet x (zpk x)) pc lv stk hp sz uc us) : zGq P Qf (some ()) pc lv stk hp sz uc us := by
  have h : zlet x (zpk x) = some () := zpk_self x
  rw [h] at k
  exact k
theorem z_at {α : Type} {x y : α} (k : y = x → zGq P Qf (some ()) pc lv stk hp sz uc us) : zGq P Qf (zpk x y) pc lv stk hp sz uc us := by
  unfold zpk
  by_cases h : y = x
  · rw [if_pos h]
    exact k h
  · rw [if_neg h]
    exact z_none
theorem y_iaload (C : zC P cc own ret ht mc ms nn ro0) {a : Nat} {i x : Int32} (hm : zaI hp 0 a i = some x) (hd : decode cc pc = .ok (.iaload, 1)) (k : zGq P Qf (some ()) (pc + 1) lv (.int x :: stk) hp sz uc us) : zGq P Qf (some ()) pc lv (.int i :: .ref a :: stk) hp sz uc us :=
  z_pk hm (z_iaload C hd (fun y => z_at (fun e => by rw [e]; exact k)))
theorem y_laload (C : zC P cc own ret ht mc ms nn ro0) {a : Nat} {i : Int32} {x : Int64} (hm : zaL hp 2 a i = some x) (hd : decode cc pc = .ok (.laload, 1)) (k : zGq P Qf (some ()) (pc + 1) lv (.long x :: stk) hp sz uc us) : zGq P Qf (some ()) pc lv (.int i :: .ref a :: stk) hp sz uc us :=
  z_pk hm (z_laload C hd (fun y => z_at (fun e => by rw [e]; exact k)))
theorem y_lastore (C : zC P cc own ret ht mc ms nn ro0) {a : Nat} {i : Int32} {x : Int64} {h : zHp} (hm : zsL hp a i x = some h) (hd : decode cc pc = .ok (.lastore, 1)) (k : zGq P Qf (some ()) (pc + 1) lv stk h sz uc us) : zGq P Qf (some ()) pc lv (.long x :: .int i :: .ref a :: stk) hp sz uc us :=
  z_pk hm (z_lastore C hd (fun y => z_at (fun e => by rw [e]; exact k)))
theorem y_arraylength (C : zC P cc own ret ht mc ms nn ro0) {a : Nat} {x : Int32} (hm : zlen hp 0 a = some x) (hd : decode cc pc = .ok (.arraylength, 1)) (k : zGq P Qf (some ()) (pc + 1) lv (.int x :: stk) hp sz uc us) : zGq P Qf (some ()) pc lv (.ref a :: stk) hp sz uc us :=
  z_pk hm (z_arraylength (t := 0) (ty := .int) C (fun _ => rfl) (by decide) hd (fun y => z_at (fun e => by rw [e]; exact k)))
theorem y_lcmp (C : zC P cc own ret ht mc ms nn ro0) {x y : Int64} (e : y = x) (hd : decode cc pc = .ok (.lcmp, 1)) (k : zGq P Qf (some ()) (pc + 1) lv (.int 0 :: stk) hp sz uc us) : zGq P Qf (some ()) pc lv (.long y :: .long x :: stk) hp sz uc us := by
  subst e
  obtain ⟨p, l, e, R, s, m, args, below, meth, c, D, tc, ro, b0, mc', ms', nL⟩ := P
  obtain ⟨⟨hx, hb, hml, hown, hts⟩, hret, hlocks, hK, hRO, hb0, hR, hmc, hms, hnn, hro⟩ := C
  intro r hr H locs ls h1 h2 h3 h4 T hT X
  obtain ⟨t, a1, b1⟩ := k r hr H locs ls h1 h2 h3 h4 T hT X
  refine ⟨t, ?_, b1⟩
  jvm_step X.here [X.here.top, hx, hb, hd, gt_iff_lt, Int64.lt_irrefl]
  exact a1
theorem y_ifT (C : zC P cc own ret ht mc ms nn ro0) {x y : Int32} {off : Int} (tgt : Nat) (e : x = y) (hd : decode cc pc = .ok (.if_icmp .eq off, 3)) (htg : (pc : Int) + off = (tgt : Int)) (k : zGq P Qf (some ()) tgt lv stk hp sz uc us) : zGq P Qf (some ()) pc lv (.int y :: .int x :: stk) hp sz uc us := by
  have h := z_icmp_eq (x := x) (y := y) (lv := lv) (stk := stk) (A := some ()) (B := (none : Option Unit)) C tgt hd htg k (z_none)
  rw [if_pos e] at h
  exact h
theorem y_ifeqT (C : zC P cc own ret ht mc ms nn ro0) {x : Int32} {off : Int} (tgt : Nat) (e : x = 0) (hd : decode cc pc = .ok (.ifCond .eq off, 3)) (htg : (pc : Int) + off = (tgt : Int)) (k : zGq P Qf (some ()) tgt lv stk hp sz uc us) : zGq P Qf (some ()) pc lv (.int x :: stk) hp sz uc us := by
  have h := z_if_eq (x := x) (lv := lv) (stk := stk) (A := some ()) (B := (none : Option Unit)) C tgt hd htg k (z_none)
  rw [if_pos e] at h
  exact h
theorem y_ifeqF (C : zC P cc own ret ht mc ms nn ro0) {x : Int32} {off : Int} (tgt : Nat) (e : ¬ x = 0) (hd : decode cc pc = .ok (.ifCond .eq off, 3)) (htg : (pc : Int) + off = (tgt : Int)) (k : zGq P Qf (some ()) (pc + 3) lv stk hp sz uc us) : zGq P Qf (some ()) pc lv (.int x :: stk) hp sz uc us := by
  have h := z_if_eq (x := x) (lv := lv) (stk := stk) (A := (none : Option Unit)) (B := some ()) C tgt hd htg (z_none) k
  rw [if_neg e] at h
  exact h
theorem y_ifneT (C : zC P cc own ret ht mc ms nn ro0) {x : Int32} {off : Int} (tgt : Nat) (e : ¬ x = 0) (hd : decode cc pc = .ok (.ifCond .ne off, 3)) (htg : (pc : Int) + off = (tgt : Int)) (k : zGq P Qf (some ()) tgt lv stk hp sz uc us) : zGq P Qf (some ()) pc lv (.int x :: stk) hp sz uc us := by
  have h := z_if_ne (x := x) (lv := lv) (stk := stk) (A := (none : Option Unit)) (B := some ()) C tgt hd htg (z_none) k
  rw [if_neg e] at h
  exact h
theorem y_ifneF (C : zC P cc own ret ht mc ms nn ro0) {x : Int32} {off : Int} (tgt : Nat) (e : x = 0) (hd : decode cc pc = .ok (.ifCond .ne off, 3)) (htg : (pc : Int) + off = (tgt : Int)) (k : zGq P Qf (some ()) (pc + 3) lv stk hp sz uc us) : zGq P Qf (some ()) pc lv (.int x :: stk) hp sz uc us := by
  have h := z_if_ne (x := x) (lv := lv) (stk := stk) (A := some ()) (B := (none : Option Unit)) C tgt hd htg k (z_none)
  rw [if_pos e] at h
  exact h
theorem y_icmpgtT (C : zC P cc own ret ht mc ms nn ro0) {x y : Int32} {off : Int} (tgt : Nat) (e : y < x) (hd : decode cc pc = .ok (.if_icmp .gt off, 3)) (htg : (pc : Int) + off = (tgt : Int)) (k : zGq P Qf (some ()) tgt lv stk hp sz uc us) : zGq P Qf (some ()) pc lv (.int y :: .int x :: stk) hp sz uc us := by
  have h := z_icmp_gt (x := x) (y := y) (lv := lv) (stk := stk) (A := some ()) (B := (none : Option Unit)) C tgt hd htg k (z_none)
  rw [if_pos e] at h
  exact h
theorem y_icmpgtF (C : zC P cc own ret ht mc ms nn ro0) {x y : Int32} {off : Int} (tgt : Nat) (e : ¬ y < x) (hd : decode cc pc = .ok (.if_icmp .gt off, 3)) (htg : (pc : Int) + off = (tgt : Int)) (k : zGq P Qf (some ()) (pc + 3) lv stk hp sz uc us) : zGq P Qf (some ()) pc lv (.int y :: .int x :: stk) hp sz uc us := by
  have h := z_icmp_gt (x := x) (y := y) (lv := lv) (stk := stk) (A := (none : Option Unit)) (B := some ()) C tgt hd htg (z_none) k
  rw [if_neg e] at h
  exact h
theorem y_case (C : zC P cc own ret ht mc ms nn ro0) {dflt lo hi off : Int} {offs : Array Int} {len : Nat} {x : Int32} (v : Int32) (tgt : Nat) (e : x = v) (hd : decode cc pc = .ok (.tableswitch dflt lo hi offs, len)) (h1 : ¬ v.toInt < lo) (h2 : ¬ hi < v.toInt) (ho : offs[(v.toInt - lo).toNat]? = some off) (htg : (pc : Int) + off = (tgt : Int)) (k : zGq P Qf (some ()) tgt lv stk hp sz uc us) : zGq P Qf (some ()) pc lv (.int x :: stk) hp sz uc us := by
  have h := z_case (x := x) (lv := lv) (stk := stk) (A := some ()) (B := (none : Option Unit)) C v tgt hd h1 h2 ho htg k (fun _ => z_none)
  rw [if_pos e] at h
  exact h
theorem y_callV {ρc : Type} {oc : ρc → Option Value × zHp × Nat} {Fc : Option ρc} {x : ρc} (hF : Fc = some x) (C : zC P cc own ret ht mc ms nn ro0) {idx n ci narg a htY mcY msY : Nat} {y : MethodName} {cy : ByteArray} {retY : Option FieldType} {stk0 : List Value} (hw : zCV own idx y cy n retY ci narg) (As : List Value)
    (hM : ∀ (l : Launch) (D : va_G) (tc : Nat → ClassId) (b0 : Nat) (r : ρc), Fc = some r → zis hp a ci = some () ∧ zM l y cy n retY htY mcY msY (.ref a :: As) D tc ro0 b0 hp sz (oc r).1 (oc r).2.1 (oc r).2.2)
    (hn : As.length = narg) (hst : stk0 = As.reverse ++ .ref a :: stk) (hcat : (stk.map fun v => v.category).sum ≤ 8) (hh : htY + 1 ≤ ht) (hnl : n ≤ 21) (hcells : uc + mcY ≤ mc ∧ us + msY ≤ ms) (hd : decode cc pc = .ok (.invokevirtual idx, 3))
    (k : zGq P Qf (some ()) (pc + 3) lv ((oc x).1.toList ++ stk) (oc x).2.1 (oc x).2.2 (uc + mcY) (us + msY)) : zGq P Qf (some ()) pc lv stk0 hp sz uc us :=
  z_pk hF (z_callV (oc := oc) C hw As hM hn hst hcat hh hnl hcells hd (fun r => z_at (fun e => by rw [e]; exact k)))
/-! wrappers -/
def zQe (D : va_G) (tc : Nat → ClassId) (b0 : Nat) (R : Int32 → zHp → Nat → Prop) : Array Value → State → Outcome → State → Prop := fun _ st oc t => ∃ (v : Int32) (hp' : zHp) (sz' : Nat), R v hp' sz' ∧ oc = .returned (some (.int v)) ∧ t.heap.size = sz' ∧ zI D tc b0 t hp' t.heap ∧ va_F (fun q => b0 ≤ q) st t
def zMe (l : Launch) (y : MethodName) (cc : ByteArray) (n : Nat) (ret : Option FieldType) (hh : List (Nat × Nat × Nat × Nat)) (ht mc ms : Nat) (As : List Value) (D : va_G) (tc : Nat → ClassId) (ro : Nat → Nat) (b0 : Nat) (hp : zHp) (sz : Nat) (R : Int32 → zHp → Nat → Prop) : Prop :=
  Met l y (Cond.codeWith y cc n ret hh :: zGT) { frames := ht, cells := mc, slots := ms, locals := 40 * ht } (va_Pc As (zW D tc ro b0 hp sz)) (zQe D tc b0 R) mc ms (fun q => b0 ≤ q)
def zEndE (P : zX) (R : Int32 → zHp → Nat → Prop) (_ : Unit) : State → Prop := match P with
  | (_, _, _, _, s, _, args, below, _, _, D, tc, _, b0, mc, ms, _) => MQ below (zQe D tc b0 R) args s mc ms (fun q => b0 ≤ q)
def zCt (P : zX) (hh : List (Nat × Nat × Nat × Nat)) : Prop := match P with
  | (_, l, _, _, _, _, _, _, _, c, _) => l.stackTraces = false ∧ c.exceptionTable.toList = tableOf hh
theorem z_startE {l : Launch} {y : MethodName} {n : Nat} {hh : List (Nat × Nat × Nat × Nat)} {As : List Value} {D : va_G} {tc : Nat → ClassId} {ro : Nat → Nat} {b0 : Nat} {R : Int32 → zHp → Nat → Prop} (hl0 : l.stackTraces = false) (hy : plainName y.cls = true) (own : String) (hown : y.cls = own) (hlv : lv_args 0 As = lv) (hn : (lg_sl As).length ≤ n) (body : ∀ P : zX, zC P cc own ret ht mc ms n ro → zCt P hh → zGq P (zEndE P R) (some ()) 0 lv [] hp sz 0 0) :
    zMe l y cc n ret hh ht mc ms As D tc ro b0 hp sz R := by
  unfold zMe
  refine va_MetW (cc := cc) (maxL := n) (ret := ret) (hh := hh) hy rfl ?_
  intro p e s m args below meth c s₁ B hml hv
  obtain ⟨rfl, hsz, hI, hK, hRO, hb0⟩ := hv
  have hts0 := atoms_spec (ws := Cond.codeWith y cc n ret hh :: zGT) B.pre
  have hts : ∀ w ∈ zGT, w.before As.toArray s = true := fun w h => hts0 w (List.mem_cons_of_mem _ h)
  have hown2 : s.vm.findClass own = some m.cls := by rw [← hown]; exact findClass_of_methodNamed B.named
  have C0 : zC (p, l, e, (headSpec (Cond.codeWith y cc n ret hh :: zGT) { frames := ht, cells := mc, slots := ms, locals := 40 * ht }).room, s, m, As.toArray, below, meth, c, D, tc, ro, b0, mc, ms, n) cc own ret ht mc ms n ro :=
    ⟨⟨B.exec, B.bytes, hml, hown2, hts⟩, B.returns, B.notSynchronized, hK, hRO, by rw [hsz]; exact hb0, rfl, rfl, rfl, rfl, rfl⟩
  have hl := lv_entry As (n := n) hn
  rw [lg_entry_eq]
  rw [hlv] at hl
  exact body _ C0 ⟨hl0, vx_table (x := y) B (hts0 _ List.mem_cons_self)⟩ () rfl s.heap [] _ hsz hI va_S.rf hl
theorem y_ireturnE {x : Int32} {R : Int32 → zHp → Nat → Prop} (C : zC P cc own (some .int) ht mc ms nn ro0) (hR0 : R x hp sz) (hcells : uc ≤ mc ∧ us ≤ ms) (hd : decode cc pc = .ok (.ireturn, 1)) : zGq P (zEndE P R) (some ()) pc lv [.int x] hp sz uc us := by
  refine z_widen mc ms hcells.1 hcells.2 ?_
  obtain ⟨p, l, e, R', s, m, args, below, meth, c, D, tc, ro, b0, mc', ms', nL⟩ := P
  obtain ⟨⟨hx, hb, hml, hown, hts⟩, hret, hlocks, hK, hRO, hb0, hR, hmc, hms, hnn, hro⟩ := C
  subst hnn
  subst hro
  intro r hr H locs ls h1 h2 h3 h4
  subst hmc
  subst hms
  exact W.iret hx hb hret (fun t ht hW => ⟨x, hp, sz, hR0, rfl, by rw [ht]; exact h1, by rw [ht]; exact h2.moved hW.alike, h3.F ht⟩) h3.2.2 hd
/-- a call that may throw; the throw is caught at hpc -/
theorem y_callVC {ρc : Type} {oc : ρc → Option Value × zHp × Nat} {Fc : Option (Option ρc)} {rc : Option ρc} (hF : Fc = some rc) (C : zC P cc own ret ht mc ms nn ro0) {fr to hpc ct : Nat} (CT : zCt P [(fr, to, hpc, ct)]) (hin : covers ⟨fr, to, hpc, ct⟩ pc = true) (hct : ct ≠ 0) (hlk : Cond.classLink own ct zIO ∈ zGT)
    {idx n ci narg a htY mcY msY : Nat} {y : MethodName} {cy : ByteArray} {retY : Option FieldType} {stk0 : List Value} (hw : zCV own idx y cy n retY ci narg) (As : List Value)
    (hM : ∀ (l : Launch) (D : va_G) (tc : Nat → ClassId) (b0 : Nat) (r : Option ρc), l.stackTraces = false → Fc = some r → zis hp a ci = some () ∧ zMx l y cy n retY htY mcY msY (.ref a :: As) D tc ro0 b0 hp sz oc hx r)
    (hn : As.length = narg) (hst : stk0 = As.reverse ++ .ref a :: stk) (hcat : (stk.map fun v => v.category).sum ≤ 8) (hh : htY + 1 ≤ ht) (hnl : n ≤ 21) (hcells : uc + mcY ≤ mc ∧ us + msY ≤ ms) (hd : decode cc pc = .ok (.invokevirtual idx, 3))
    (k : ∀ r, rc = some r → zGq P Qf (some ()) (pc + 3) lv ((oc r).1.toList ++ stk) (oc r).2.1 (oc r).2.2 (uc + mcY) (us + msY))
    (kx : rc = none → ∀ q sz', sz ≤ sz' → zGq P Qf (some ()) hpc lv [.ref q] hx sz' (uc + mcY) (us + msY)) : zGq P Qf (some ()) pc lv stk0 hp sz uc us := by
  obtain ⟨p, l, e, R, s, m, args, below, meth, c, D, tc, ro, b0, mc', ms', nL⟩ := P
  obtain ⟨⟨hxx, hb, hml, hown, hts⟩, hret, hlocks, hK, hRO, hb0, hR, hmc, hms, hnn, hro⟩ := C
  obtain ⟨hl0, htab⟩ := CT
  subst hnn
  subst hro
  subst hmc
  subst hms
  intro r hr H locs ls h1 h2 h3 h4
  obtain ⟨hz, hMet⟩ := hM l D tc b0 rc hl0 hF
  obtain ⟨Cn, hci, hws, hyc, hy1, hy2, hy3⟩ := hw
  have run := vx_runV (l := l) (e := e) (R := R) (below := below) (meth := meth) (locs := locs) (cells := uc) (slots := us) (Ts := zGT) (own := own) (C := Cn) (b := a) (As := As) (rest := stk) (g := F0 m pc ls stk0) (p := p) (c := c) (H := H) ⟨hxx, hb, hml, hown, hts⟩ hMet (cwV narg hts (fun w hw => ?_) rfl rfl rfl ⟨hyc, hy1, hy2, hy3⟩ ?_) ⟨zBlind, ?_, fun U hU hW => ⟨rfl, by rw [hU]; exact h1, by rw [hU]; exact h2.moved hW.alike, va_K.moved hW.alike hK, ?_, ?_⟩⟩ rfl hn h4.1 hst (lv_room hcat) hd ?_
  · intro T hT X
    rcases run T hT X with ⟨v, st₀, t, T', L, h0, X', hL, e1, e2, hq, st⟩ | ⟨q9, st₀, t, T', L, E, ce, h0, X', hL, e1, e2, hq, hce, hcv, hcc, st⟩
    · cases rc with
      | none => exact hq.elim
      | some x =>
        obtain ⟨hq1, hq2, hq3, hq4, hq5⟩ := hq
        cases hq1
        rw [h0] at hq4 hq5
        have hal : s.vm.Alike t.vm := by rw [← e2]; exact X'.warmed.alike
        obtain ⟨t2, a1, b1⟩ := k x rfl r hr T'.heap (locs ++ L) ls (by rw [e1]; exact hq2) (by rw [e1]; exact hq3.moved hal.symm)
          ⟨Nat.le_trans h3.1 (by rw [e1]; exact hq4), fun q g1 g2 => by rw [e1, hq5 q (Nat.lt_of_lt_of_le g1 h3.1) g2]; exact h3.2.1 q g1 g2, fun q hq => by
            rcases List.mem_append.mp hq with h | h
            · exact h3.2.2 q h
            · exact hL q h⟩ h4 T' rfl X'
        exact ⟨t2, st t2 a1, b1⟩
    · cases rc with
      | some x => exact hq.elim
      | none =>
        obtain ⟨rfl, hq3, hq4, hq5⟩ := hq
        rw [h0] at hq4 hq5
        have hal : s.vm.Alike t.vm := by rw [← e2]; exact X'.warmed.alike
        have hcast : (Cond.castable zIO zIO).before args s = true := va_Nw.use rfl (hRO.2.2.2.1 _ (by decide +kernel))
        have kk := kx rfl q9 T'.heap.size (by rw [← h1, e1]; exact hq4) r hr T'.heap (locs ++ L) ls rfl (by rw [e1]; exact hq3.moved hal.symm)
          ⟨Nat.le_trans h3.1 (by rw [e1]; exact hq4), fun q g1 g2 => by rw [e1, hq5 q (Nat.lt_of_lt_of_le g1 h3.1) g2]; exact h3.2.1 q g1 g2, fun q hq => by
            rcases List.mem_append.mp hq with h | h
            · exact h3.2.2 q h
            · exact hL q h⟩ h4
        have hout := vx_catch (p := p) (l := l) (e := e) (R := R) (s := s) (m := m) (args := args) (below := below) (meth := meth) (c := c) (H := T'.heap) (locs := locs ++ L) (cells := uc + mcY) (slots := us + msY) (ls := ls) (rest := stk) (pc := pc) (name := zIO) (E := zIO) (ce := ce) (q := q9) hown [] ⟨fr, to, hpc, ct⟩ [] htab (fun z hz => by cases hz) hin hct (hts _ hlk) hcast (by rw [e1]; exact hce) hcv hcc kk
        obtain ⟨t2, a1, b1⟩ := hout T' rfl X'
        exact ⟨t2, Steps.trans st a1, b1⟩
  · refine zGT_good w ?_
    simp only [wsV, List.mem_append] at hw hws
    rcases hw with hw | hw
    · exact hws w (Or.inl hw)
    · rcases List.mem_cons.mp hw with e | hw
      · exact hws w (Or.inr (by rw [e]; exact List.mem_cons_self))
      · exact hw
  · rw [hR]
    refine ⟨hh, ?_⟩
    show 8 + (n + 11) + 40 * htY ≤ 40 * ht
    omega
  · unfold zis at hz
    split at hz
    · next c' fs hc =>
      split at hz
      · next q =>
        subst q
        have hz2 := h2 a _ hc
        unfold zAt at hz2
        dsimp only at hz2
        rcases hci with ⟨hci, T0, N, hcl⟩ | ⟨rfl, rfl⟩
        · rw [if_pos hci] at hz2
          obtain ⟨hba, r0, e1, cell, g1, g2, g3, -⟩ := hz2
          have hr0 : r0 = (Cn, T0, N) := Option.some.inj (e1.symm.trans hcl)
          subst hr0
          exact ⟨cell, g1, by rw [g3]; rfl, by rw [g2]; exact (hK.1 c' _ hcl).2.1⟩
        · rw [if_neg (by decide)] at hz2
          obtain ⟨w2, -, ⟨cell, g1, g2, g3, -⟩, -⟩ := hz2
          exact ⟨cell, g1, g2, g3⟩
      · cases hz
    · cases hz
  · rw [hU]
    exact (hRO.kept (fun q g1 g2 => h3.2.1 q g1 g2)).moved hW
  · rw [← h1]
    exact Nat.le_trans hb0 h3.1
  · rw [hR]
    exact hcells
/-- a wrapper called -/
def zCE (own : String) (idx : Nat) (y : MethodName) (cy : ByteArray) (n : Nat) (ret : Option FieldType) (hh : List (Nat × Nat × Nat × Nat)) (narg : Nat) : Prop := (∀ w ∈ va_wsS own idx y [Cond.codeWith y cy n ret hh], w ∈ zGT) ∧ y.cls ≠ "java/lang/invoke/MethodHandle" ∧ y.cls ≠ "java/lang/invoke/VarHandle" ∧ (parseMethodDescriptor y.desc).map (fun d => d.parameters.length) = some narg
theorem y_callE {R0 : Int32 → zHp → Nat → Prop} {hh : List (Nat × Nat × Nat × Nat)} (C : zC P cc own ret ht mc ms nn ro0) {idx n narg htY mcY msY : Nat} {y : MethodName} {cy : ByteArray} {retY : Option FieldType} {stk0 : List Value} (hw : zCE own idx y cy n retY hh narg) (As : List Value)
    (hM : ∀ (l : Launch) (D : va_G) (tc : Nat → ClassId) (b0 : Nat), l.stackTraces = false → zMe l y cy n retY hh htY mcY msY As D tc ro0 b0 hp sz R0) (hl0 : (match P with | (_, l, _) => l.stackTraces) = false)
    (hn : As.length = narg) (hst : stk0 = As.reverse ++ stk) (hcat : (stk.map fun v => v.category).sum ≤ 8) (hht : htY + 1 ≤ ht) (hnl : n ≤ 21) (hcells : uc + mcY ≤ mc ∧ us + msY ≤ ms) (hd : decode cc pc = .ok (.invokestatic idx, 3))
    (k : ∀ v h z, R0 v h z → zGq P Qf (some ()) (pc + 3) lv (.int v :: stk) h z (uc + mcY) (us + msY)) : zGq P Qf (some ()) pc lv stk0 hp sz uc us := by
  obtain ⟨p, l, e, R, s, m, args, below, meth, c, D, tc, ro, b0, mc', ms', nL⟩ := P
  obtain ⟨⟨hx, hb, hml, hown, hts⟩, hret, hlocks, hK, hRO, hb0, hR, hmc, hms, hnn, hro⟩ := C
  subst hnn
  subst hro
  intro r hr H locs ls h1 h2 h3 h4
  have hMet := hM l D tc b0 hl0
  obtain ⟨hws, hy1, hy2, hy3⟩ := hw
  have run := vx_runSW (l := l) (e := e) (R := R) (below := below) (meth := meth) (locs := locs) (cells := uc) (slots := us) (Ts := zGT) (own := own) (As := As) (rest := stk) (g := F0 m pc ls stk0) (p := p) (c := c) (H := H) ⟨hx, hb, hml, hown, hts⟩ hMet (vx_cwSW narg hts (fun w hw => ?_) rfl rfl rfl ⟨hy1, hy2, hy3⟩ ?_) ⟨zBlind, fun U hU hW => ⟨rfl, by rw [hU]; exact h1, by rw [hU]; exact h2.moved hW.alike, va_K.moved hW.alike hK, ?_, ?_⟩⟩ rfl hn h4.1 hst (lv_room hcat) hd ?_
  · intro T hT X
    obtain ⟨v', st₀, t, T', L, h0, X', hL, e1, e2, ⟨v, hp', sz', hR0, hq1, hq2, hq3, hq4, hq5⟩, st⟩ := run T hT X
    cases hq1
    rw [h0] at hq4 hq5
    have hal : s.vm.Alike t.vm := by rw [← e2]; exact X'.warmed.alike
    obtain ⟨t2, a1, b1⟩ := k v hp' sz' hR0 r hr T'.heap (locs ++ L) ls (by rw [e1]; exact hq2) (by rw [e1]; exact hq3.moved hal.symm)
      ⟨Nat.le_trans h3.1 (by rw [e1]; exact hq4), fun q g1 g2 => by rw [e1, hq5 q (Nat.lt_of_lt_of_le g1 h3.1) g2]; exact h3.2.1 q g1 g2, fun q hq => by
        rcases List.mem_append.mp hq with h | h
        · exact h3.2.2 q h
        · exact hL q h⟩ h4 T' rfl X'
    exact ⟨t2, st t2 a1, b1⟩
  · refine zGT_good w ?_
    simp only [va_wsS, List.mem_append] at hw hws
    rcases hw with hw | hw
    · exact hws w (Or.inl hw)
    · rcases List.mem_cons.mp hw with e | hw
      · exact hws w (Or.inr (by rw [e]; exact List.mem_cons_self))
      · exact hw
  · rw [hR]
    refine ⟨hht, ?_⟩
    show 8 + (n + 11) + 40 * htY ≤ 40 * ht
    omega
  · rw [hU]
    exact (hRO.kept (fun q g1 g2 => h3.2.1 q g1 g2)).moved hW
  · rw [← h1]
    exact Nat.le_trans hb0 h3.1
  · rw [hR]
    exact hcells
end ZQ
