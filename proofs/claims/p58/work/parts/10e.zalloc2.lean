/-! calls of methods that may make cells, by their answers; byte arrays copied -/
section ZV
variable {ρ : Type} {P : zX} {Qf : ρ → State → Prop} {F : Option ρ} {pc : Nat} {lv : List (Nat × Value)} {stk : List Value} {hp : zHp} {sz uc us : Nat} {cc : ByteArray} {own : String} {ret : Option FieldType} {ht mc ms nn : Nat} {ro0 : Nat → Nat}

theorem z_cVv {Fc : Option (zHp × Nat)} {kk : zHp → Nat → Option ρ} (C : zC P cc own ret ht mc ms nn ro0) {idx n ci narg a htY mcY msY : Nat} {y : MethodName} {cy : ByteArray} {retY : Option FieldType} {stk0 : List Value} (hw : zCV own idx y cy n retY ci narg) (As : List Value)
    (hM : ∀ (l : Launch) (D : va_G) (tc : Nat → ClassId) (b0 : Nat) (r : zHp × Nat), Fc = some r → zis hp a ci = some () ∧ zM l y cy n retY htY mcY msY (.ref a :: As) D tc ro0 b0 hp sz (zoVA r).1 (zoVA r).2.1 (zoVA r).2.2)
    (hd : decode cc pc = .ok (.invokevirtual idx, 3)) (hn : As.length = narg) (hst : stk0 = As.reverse ++ .ref a :: stk) (hcat : (stk.map fun v => v.category).sum ≤ 8) (hh : htY + 1 ≤ ht) (hnl : n ≤ 21) (hcells : uc + mcY ≤ mc ∧ us + msY ≤ ms)
    (k : ∀ h z, zGq P Qf (kk h z) (pc + 3) lv stk h z (uc + mcY) (us + msY)) : zGq P Qf (zb2 Fc kk) pc lv stk0 hp sz uc us :=
  z_callV (oc := zoVA) (kk := fun r => kk r.1 r.2) C hw As hM hn hst hcat hh hnl hcells hd (fun r => k r.1 r.2)

theorem z_cVr {Fc : Option (Nat × zHp × Nat)} {kk : Nat → zHp → Nat → Option ρ} (C : zC P cc own ret ht mc ms nn ro0) {idx n ci narg a htY mcY msY : Nat} {y : MethodName} {cy : ByteArray} {retY : Option FieldType} {stk0 : List Value} (hw : zCV own idx y cy n retY ci narg) (As : List Value)
    (hM : ∀ (l : Launch) (D : va_G) (tc : Nat → ClassId) (b0 : Nat) (r : Nat × zHp × Nat), Fc = some r → zis hp a ci = some () ∧ zM l y cy n retY htY mcY msY (.ref a :: As) D tc ro0 b0 hp sz (zoRA r).1 (zoRA r).2.1 (zoRA r).2.2)
    (hd : decode cc pc = .ok (.invokevirtual idx, 3)) (hn : As.length = narg) (hst : stk0 = As.reverse ++ .ref a :: stk) (hcat : (stk.map fun v => v.category).sum ≤ 8) (hh : htY + 1 ≤ ht) (hnl : n ≤ 21) (hcells : uc + mcY ≤ mc ∧ us + msY ≤ ms)
    (k : ∀ x h z, zGq P Qf (kk x h z) (pc + 3) lv (.ref x :: stk) h z (uc + mcY) (us + msY)) : zGq P Qf (zb3 Fc kk) pc lv stk0 hp sz uc us :=
  z_callV (oc := zoRA) (kk := fun r => kk r.1 r.2.1 r.2.2) C hw As hM hn hst hcat hh hnl hcells hd (fun r => k r.1 r.2.1 r.2.2)

theorem z_cVi {Fc : Option (Int32 × zHp × Nat)} {kk : Int32 → zHp → Nat → Option ρ} (C : zC P cc own ret ht mc ms nn ro0) {idx n ci narg a htY mcY msY : Nat} {y : MethodName} {cy : ByteArray} {retY : Option FieldType} {stk0 : List Value} (hw : zCV own idx y cy n retY ci narg) (As : List Value)
    (hM : ∀ (l : Launch) (D : va_G) (tc : Nat → ClassId) (b0 : Nat) (r : Int32 × zHp × Nat), Fc = some r → zis hp a ci = some () ∧ zM l y cy n retY htY mcY msY (.ref a :: As) D tc ro0 b0 hp sz (zoIA r).1 (zoIA r).2.1 (zoIA r).2.2)
    (hd : decode cc pc = .ok (.invokevirtual idx, 3)) (hn : As.length = narg) (hst : stk0 = As.reverse ++ .ref a :: stk) (hcat : (stk.map fun v => v.category).sum ≤ 8) (hh : htY + 1 ≤ ht) (hnl : n ≤ 21) (hcells : uc + mcY ≤ mc ∧ us + msY ≤ ms)
    (k : ∀ x h z, zGq P Qf (kk x h z) (pc + 3) lv (.int x :: stk) h z (uc + mcY) (us + msY)) : zGq P Qf (zb3 Fc kk) pc lv stk0 hp sz uc us :=
  z_callV (oc := zoIA) (kk := fun r => kk r.1 r.2.1 r.2.2) C hw As hM hn hst hcat hh hnl hcells hd (fun r => k r.1 r.2.1 r.2.2)

theorem z_cVp {Fc : Option (Int32)} {kk : Int32 → Option ρ} (C : zC P cc own ret ht mc ms nn ro0) {idx n ci narg a htY mcY msY : Nat} {y : MethodName} {cy : ByteArray} {retY : Option FieldType} {stk0 : List Value} (hw : zCV own idx y cy n retY ci narg) (As : List Value)
    (hM : ∀ (l : Launch) (D : va_G) (tc : Nat → ClassId) (b0 : Nat) (r : Int32), Fc = some r → zis hp a ci = some () ∧ zM l y cy n retY htY mcY msY (.ref a :: As) D tc ro0 b0 hp sz ((zoP sz hp) r).1 ((zoP sz hp) r).2.1 ((zoP sz hp) r).2.2)
    (hd : decode cc pc = .ok (.invokevirtual idx, 3)) (hn : As.length = narg) (hst : stk0 = As.reverse ++ .ref a :: stk) (hcat : (stk.map fun v => v.category).sum ≤ 8) (hh : htY + 1 ≤ ht) (hnl : n ≤ 21) (hcells : uc + mcY ≤ mc ∧ us + msY ≤ ms)
    (k : ∀ x, zGq P Qf (kk x) (pc + 3) lv (.int x :: stk) hp sz (uc + mcY) (us + msY)) : zGq P Qf (Fc.bind kk) pc lv stk0 hp sz uc us :=
  z_callV (oc := (zoP sz hp)) C hw As hM hn hst hcat hh hnl hcells hd (fun r => k r)

theorem z_cVu {Fc : Option (Unit)} {kk : Unit → Option ρ} (C : zC P cc own ret ht mc ms nn ro0) {idx n ci narg a htY mcY msY : Nat} {y : MethodName} {cy : ByteArray} {retY : Option FieldType} {stk0 : List Value} (hw : zCV own idx y cy n retY ci narg) (As : List Value)
    (hM : ∀ (l : Launch) (D : va_G) (tc : Nat → ClassId) (b0 : Nat) (r : Unit), Fc = some r → zis hp a ci = some () ∧ zM l y cy n retY htY mcY msY (.ref a :: As) D tc ro0 b0 hp sz ((zoPU sz hp) r).1 ((zoPU sz hp) r).2.1 ((zoPU sz hp) r).2.2)
    (hd : decode cc pc = .ok (.invokevirtual idx, 3)) (hn : As.length = narg) (hst : stk0 = As.reverse ++ .ref a :: stk) (hcat : (stk.map fun v => v.category).sum ≤ 8) (hh : htY + 1 ≤ ht) (hnl : n ≤ 21) (hcells : uc + mcY ≤ mc ∧ us + msY ≤ ms)
    (k : ∀ x, zGq P Qf (kk x) (pc + 3) lv stk hp sz (uc + mcY) (us + msY)) : zGq P Qf (Fc.bind kk) pc lv stk0 hp sz uc us :=
  z_callV (oc := (zoPU sz hp)) C hw As hM hn hst hcat hh hnl hcells hd (fun r => k r)

theorem z_cVn {Fc : Option (zHp)} {kk : zHp → Option ρ} (C : zC P cc own ret ht mc ms nn ro0) {idx n ci narg a htY mcY msY : Nat} {y : MethodName} {cy : ByteArray} {retY : Option FieldType} {stk0 : List Value} (hw : zCV own idx y cy n retY ci narg) (As : List Value)
    (hM : ∀ (l : Launch) (D : va_G) (tc : Nat → ClassId) (b0 : Nat) (r : zHp), Fc = some r → zis hp a ci = some () ∧ zM l y cy n retY htY mcY msY (.ref a :: As) D tc ro0 b0 hp sz ((zoV sz) r).1 ((zoV sz) r).2.1 ((zoV sz) r).2.2)
    (hd : decode cc pc = .ok (.invokevirtual idx, 3)) (hn : As.length = narg) (hst : stk0 = As.reverse ++ .ref a :: stk) (hcat : (stk.map fun v => v.category).sum ≤ 8) (hh : htY + 1 ≤ ht) (hnl : n ≤ 21) (hcells : uc + mcY ≤ mc ∧ us + msY ≤ ms)
    (k : ∀ h, zGq P Qf (kk h) (pc + 3) lv stk h sz (uc + mcY) (us + msY)) : zGq P Qf (Fc.bind kk) pc lv stk0 hp sz uc us :=
  z_callV (oc := (zoV sz)) C hw As hM hn hst hcat hh hnl hcells hd (fun r => k r)

theorem z_cUv {Fc : Option (zHp × Nat)} {kk : zHp → Nat → Option ρ} (C : zC P cc own ret ht mc ms nn ro0) {idx n narg a htY mcY msY : Nat} {y : MethodName} {cy : ByteArray} {retY : Option FieldType} {stk0 : List Value} (hw : zCU own idx y cy n retY narg) (As : List Value)
    (hM : ∀ (l : Launch) (D : va_G) (tc : Nat → ClassId) (b0 : Nat) (r : zHp × Nat), Fc = some r → zis hp a 9 = some () ∧ zM l y cy n retY htY mcY msY (.ref a :: As) D tc ro0 b0 hp sz (zoVA r).1 (zoVA r).2.1 (zoVA r).2.2)
    (hd : decode cc pc = .ok (.invokevirtual idx, 3)) (hn : As.length = narg) (hst : stk0 = As.reverse ++ .ref a :: stk) (hcat : (stk.map fun v => v.category).sum ≤ 8) (hh : htY + 1 ≤ ht) (hnl : n ≤ 21) (hcells : uc + mcY ≤ mc ∧ us + msY ≤ ms)
    (k : ∀ h z, zGq P Qf (kk h z) (pc + 3) lv stk h z (uc + mcY) (us + msY)) : zGq P Qf (zb2 Fc kk) pc lv stk0 hp sz uc us :=
  z_callU (oc := zoVA) (kk := fun r => kk r.1 r.2) C hw As hM hn hst hcat hh hnl hcells hd (fun r => k r.1 r.2)

theorem z_cUr {Fc : Option (Nat × zHp × Nat)} {kk : Nat → zHp → Nat → Option ρ} (C : zC P cc own ret ht mc ms nn ro0) {idx n narg a htY mcY msY : Nat} {y : MethodName} {cy : ByteArray} {retY : Option FieldType} {stk0 : List Value} (hw : zCU own idx y cy n retY narg) (As : List Value)
    (hM : ∀ (l : Launch) (D : va_G) (tc : Nat → ClassId) (b0 : Nat) (r : Nat × zHp × Nat), Fc = some r → zis hp a 9 = some () ∧ zM l y cy n retY htY mcY msY (.ref a :: As) D tc ro0 b0 hp sz (zoRA r).1 (zoRA r).2.1 (zoRA r).2.2)
    (hd : decode cc pc = .ok (.invokevirtual idx, 3)) (hn : As.length = narg) (hst : stk0 = As.reverse ++ .ref a :: stk) (hcat : (stk.map fun v => v.category).sum ≤ 8) (hh : htY + 1 ≤ ht) (hnl : n ≤ 21) (hcells : uc + mcY ≤ mc ∧ us + msY ≤ ms)
    (k : ∀ x h z, zGq P Qf (kk x h z) (pc + 3) lv (.ref x :: stk) h z (uc + mcY) (us + msY)) : zGq P Qf (zb3 Fc kk) pc lv stk0 hp sz uc us :=
  z_callU (oc := zoRA) (kk := fun r => kk r.1 r.2.1 r.2.2) C hw As hM hn hst hcat hh hnl hcells hd (fun r => k r.1 r.2.1 r.2.2)

theorem z_cUi {Fc : Option (Int32 × zHp × Nat)} {kk : Int32 → zHp → Nat → Option ρ} (C : zC P cc own ret ht mc ms nn ro0) {idx n narg a htY mcY msY : Nat} {y : MethodName} {cy : ByteArray} {retY : Option FieldType} {stk0 : List Value} (hw : zCU own idx y cy n retY narg) (As : List Value)
    (hM : ∀ (l : Launch) (D : va_G) (tc : Nat → ClassId) (b0 : Nat) (r : Int32 × zHp × Nat), Fc = some r → zis hp a 9 = some () ∧ zM l y cy n retY htY mcY msY (.ref a :: As) D tc ro0 b0 hp sz (zoIA r).1 (zoIA r).2.1 (zoIA r).2.2)
    (hd : decode cc pc = .ok (.invokevirtual idx, 3)) (hn : As.length = narg) (hst : stk0 = As.reverse ++ .ref a :: stk) (hcat : (stk.map fun v => v.category).sum ≤ 8) (hh : htY + 1 ≤ ht) (hnl : n ≤ 21) (hcells : uc + mcY ≤ mc ∧ us + msY ≤ ms)
    (k : ∀ x h z, zGq P Qf (kk x h z) (pc + 3) lv (.int x :: stk) h z (uc + mcY) (us + msY)) : zGq P Qf (zb3 Fc kk) pc lv stk0 hp sz uc us :=
  z_callU (oc := zoIA) (kk := fun r => kk r.1 r.2.1 r.2.2) C hw As hM hn hst hcat hh hnl hcells hd (fun r => k r.1 r.2.1 r.2.2)

theorem z_cUp {Fc : Option (Int32)} {kk : Int32 → Option ρ} (C : zC P cc own ret ht mc ms nn ro0) {idx n narg a htY mcY msY : Nat} {y : MethodName} {cy : ByteArray} {retY : Option FieldType} {stk0 : List Value} (hw : zCU own idx y cy n retY narg) (As : List Value)
    (hM : ∀ (l : Launch) (D : va_G) (tc : Nat → ClassId) (b0 : Nat) (r : Int32), Fc = some r → zis hp a 9 = some () ∧ zM l y cy n retY htY mcY msY (.ref a :: As) D tc ro0 b0 hp sz ((zoP sz hp) r).1 ((zoP sz hp) r).2.1 ((zoP sz hp) r).2.2)
    (hd : decode cc pc = .ok (.invokevirtual idx, 3)) (hn : As.length = narg) (hst : stk0 = As.reverse ++ .ref a :: stk) (hcat : (stk.map fun v => v.category).sum ≤ 8) (hh : htY + 1 ≤ ht) (hnl : n ≤ 21) (hcells : uc + mcY ≤ mc ∧ us + msY ≤ ms)
    (k : ∀ x, zGq P Qf (kk x) (pc + 3) lv (.int x :: stk) hp sz (uc + mcY) (us + msY)) : zGq P Qf (Fc.bind kk) pc lv stk0 hp sz uc us :=
  z_callU (oc := (zoP sz hp)) C hw As hM hn hst hcat hh hnl hcells hd (fun r => k r)

theorem z_cUu {Fc : Option (Unit)} {kk : Unit → Option ρ} (C : zC P cc own ret ht mc ms nn ro0) {idx n narg a htY mcY msY : Nat} {y : MethodName} {cy : ByteArray} {retY : Option FieldType} {stk0 : List Value} (hw : zCU own idx y cy n retY narg) (As : List Value)
    (hM : ∀ (l : Launch) (D : va_G) (tc : Nat → ClassId) (b0 : Nat) (r : Unit), Fc = some r → zis hp a 9 = some () ∧ zM l y cy n retY htY mcY msY (.ref a :: As) D tc ro0 b0 hp sz ((zoPU sz hp) r).1 ((zoPU sz hp) r).2.1 ((zoPU sz hp) r).2.2)
    (hd : decode cc pc = .ok (.invokevirtual idx, 3)) (hn : As.length = narg) (hst : stk0 = As.reverse ++ .ref a :: stk) (hcat : (stk.map fun v => v.category).sum ≤ 8) (hh : htY + 1 ≤ ht) (hnl : n ≤ 21) (hcells : uc + mcY ≤ mc ∧ us + msY ≤ ms)
    (k : ∀ x, zGq P Qf (kk x) (pc + 3) lv stk hp sz (uc + mcY) (us + msY)) : zGq P Qf (Fc.bind kk) pc lv stk0 hp sz uc us :=
  z_callU (oc := (zoPU sz hp)) C hw As hM hn hst hcat hh hnl hcells hd (fun r => k r)

theorem z_cUn {Fc : Option (zHp)} {kk : zHp → Option ρ} (C : zC P cc own ret ht mc ms nn ro0) {idx n narg a htY mcY msY : Nat} {y : MethodName} {cy : ByteArray} {retY : Option FieldType} {stk0 : List Value} (hw : zCU own idx y cy n retY narg) (As : List Value)
    (hM : ∀ (l : Launch) (D : va_G) (tc : Nat → ClassId) (b0 : Nat) (r : zHp), Fc = some r → zis hp a 9 = some () ∧ zM l y cy n retY htY mcY msY (.ref a :: As) D tc ro0 b0 hp sz ((zoV sz) r).1 ((zoV sz) r).2.1 ((zoV sz) r).2.2)
    (hd : decode cc pc = .ok (.invokevirtual idx, 3)) (hn : As.length = narg) (hst : stk0 = As.reverse ++ .ref a :: stk) (hcat : (stk.map fun v => v.category).sum ≤ 8) (hh : htY + 1 ≤ ht) (hnl : n ≤ 21) (hcells : uc + mcY ≤ mc ∧ us + msY ≤ ms)
    (k : ∀ h, zGq P Qf (kk h) (pc + 3) lv stk h sz (uc + mcY) (us + msY)) : zGq P Qf (Fc.bind kk) pc lv stk0 hp sz uc us :=
  z_callU (oc := (zoV sz)) C hw As hM hn hst hcat hh hnl hcells hd (fun r => k r)

theorem z_cSUv {Fc : Option (zHp × Nat)} {kk : zHp → Nat → Option ρ} (C : zC P cc own ret ht mc ms nn ro0) {idx n narg a htY mcY msY : Nat} {y : MethodName} {cy : ByteArray} {retY : Option FieldType} {stk0 : List Value} (hw : zCUS own idx y cy n retY narg) (As : List Value)
    (hM : ∀ (l : Launch) (D : va_G) (tc : Nat → ClassId) (b0 : Nat) (r : zHp × Nat), Fc = some r → zis hp a 9 = some () ∧ zM l y cy n retY htY mcY msY (.ref a :: As) D tc ro0 b0 hp sz (zoVA r).1 (zoVA r).2.1 (zoVA r).2.2)
    (hd : decode cc pc = .ok (.invokespecial idx, 3)) (hn : As.length = narg) (hst : stk0 = As.reverse ++ .ref a :: stk) (hcat : (stk.map fun v => v.category).sum ≤ 8) (hh : htY + 1 ≤ ht) (hnl : n ≤ 21) (hcells : uc + mcY ≤ mc ∧ us + msY ≤ ms)
    (k : ∀ h z, zGq P Qf (kk h z) (pc + 3) lv stk h z (uc + mcY) (us + msY)) : zGq P Qf (zb2 Fc kk) pc lv stk0 hp sz uc us :=
  z_callSU (oc := zoVA) (kk := fun r => kk r.1 r.2) C hw As hM hn hst hcat hh hnl hcells hd (fun r => k r.1 r.2)

theorem z_cSUr {Fc : Option (Nat × zHp × Nat)} {kk : Nat → zHp → Nat → Option ρ} (C : zC P cc own ret ht mc ms nn ro0) {idx n narg a htY mcY msY : Nat} {y : MethodName} {cy : ByteArray} {retY : Option FieldType} {stk0 : List Value} (hw : zCUS own idx y cy n retY narg) (As : List Value)
    (hM : ∀ (l : Launch) (D : va_G) (tc : Nat → ClassId) (b0 : Nat) (r : Nat × zHp × Nat), Fc = some r → zis hp a 9 = some () ∧ zM l y cy n retY htY mcY msY (.ref a :: As) D tc ro0 b0 hp sz (zoRA r).1 (zoRA r).2.1 (zoRA r).2.2)
    (hd : decode cc pc = .ok (.invokespecial idx, 3)) (hn : As.length = narg) (hst : stk0 = As.reverse ++ .ref a :: stk) (hcat : (stk.map fun v => v.category).sum ≤ 8) (hh : htY + 1 ≤ ht) (hnl : n ≤ 21) (hcells : uc + mcY ≤ mc ∧ us + msY ≤ ms)
    (k : ∀ x h z, zGq P Qf (kk x h z) (pc + 3) lv (.ref x :: stk) h z (uc + mcY) (us + msY)) : zGq P Qf (zb3 Fc kk) pc lv stk0 hp sz uc us :=
  z_callSU (oc := zoRA) (kk := fun r => kk r.1 r.2.1 r.2.2) C hw As hM hn hst hcat hh hnl hcells hd (fun r => k r.1 r.2.1 r.2.2)

theorem z_cSUi {Fc : Option (Int32 × zHp × Nat)} {kk : Int32 → zHp → Nat → Option ρ} (C : zC P cc own ret ht mc ms nn ro0) {idx n narg a htY mcY msY : Nat} {y : MethodName} {cy : ByteArray} {retY : Option FieldType} {stk0 : List Value} (hw : zCUS own idx y cy n retY narg) (As : List Value)
    (hM : ∀ (l : Launch) (D : va_G) (tc : Nat → ClassId) (b0 : Nat) (r : Int32 × zHp × Nat), Fc = some r → zis hp a 9 = some () ∧ zM l y cy n retY htY mcY msY (.ref a :: As) D tc ro0 b0 hp sz (zoIA r).1 (zoIA r).2.1 (zoIA r).2.2)
    (hd : decode cc pc = .ok (.invokespecial idx, 3)) (hn : As.length = narg) (hst : stk0 = As.reverse ++ .ref a :: stk) (hcat : (stk.map fun v => v.category).sum ≤ 8) (hh : htY + 1 ≤ ht) (hnl : n ≤ 21) (hcells : uc + mcY ≤ mc ∧ us + msY ≤ ms)
    (k : ∀ x h z, zGq P Qf (kk x h z) (pc + 3) lv (.int x :: stk) h z (uc + mcY) (us + msY)) : zGq P Qf (zb3 Fc kk) pc lv stk0 hp sz uc us :=
  z_callSU (oc := zoIA) (kk := fun r => kk r.1 r.2.1 r.2.2) C hw As hM hn hst hcat hh hnl hcells hd (fun r => k r.1 r.2.1 r.2.2)

theorem z_cSUp {Fc : Option (Int32)} {kk : Int32 → Option ρ} (C : zC P cc own ret ht mc ms nn ro0) {idx n narg a htY mcY msY : Nat} {y : MethodName} {cy : ByteArray} {retY : Option FieldType} {stk0 : List Value} (hw : zCUS own idx y cy n retY narg) (As : List Value)
    (hM : ∀ (l : Launch) (D : va_G) (tc : Nat → ClassId) (b0 : Nat) (r : Int32), Fc = some r → zis hp a 9 = some () ∧ zM l y cy n retY htY mcY msY (.ref a :: As) D tc ro0 b0 hp sz ((zoP sz hp) r).1 ((zoP sz hp) r).2.1 ((zoP sz hp) r).2.2)
    (hd : decode cc pc = .ok (.invokespecial idx, 3)) (hn : As.length = narg) (hst : stk0 = As.reverse ++ .ref a :: stk) (hcat : (stk.map fun v => v.category).sum ≤ 8) (hh : htY + 1 ≤ ht) (hnl : n ≤ 21) (hcells : uc + mcY ≤ mc ∧ us + msY ≤ ms)
    (k : ∀ x, zGq P Qf (kk x) (pc + 3) lv (.int x :: stk) hp sz (uc + mcY) (us + msY)) : zGq P Qf (Fc.bind kk) pc lv stk0 hp sz uc us :=
  z_callSU (oc := (zoP sz hp)) C hw As hM hn hst hcat hh hnl hcells hd (fun r => k r)

theorem z_cSUu {Fc : Option (Unit)} {kk : Unit → Option ρ} (C : zC P cc own ret ht mc ms nn ro0) {idx n narg a htY mcY msY : Nat} {y : MethodName} {cy : ByteArray} {retY : Option FieldType} {stk0 : List Value} (hw : zCUS own idx y cy n retY narg) (As : List Value)
    (hM : ∀ (l : Launch) (D : va_G) (tc : Nat → ClassId) (b0 : Nat) (r : Unit), Fc = some r → zis hp a 9 = some () ∧ zM l y cy n retY htY mcY msY (.ref a :: As) D tc ro0 b0 hp sz ((zoPU sz hp) r).1 ((zoPU sz hp) r).2.1 ((zoPU sz hp) r).2.2)
    (hd : decode cc pc = .ok (.invokespecial idx, 3)) (hn : As.length = narg) (hst : stk0 = As.reverse ++ .ref a :: stk) (hcat : (stk.map fun v => v.category).sum ≤ 8) (hh : htY + 1 ≤ ht) (hnl : n ≤ 21) (hcells : uc + mcY ≤ mc ∧ us + msY ≤ ms)
    (k : ∀ x, zGq P Qf (kk x) (pc + 3) lv stk hp sz (uc + mcY) (us + msY)) : zGq P Qf (Fc.bind kk) pc lv stk0 hp sz uc us :=
  z_callSU (oc := (zoPU sz hp)) C hw As hM hn hst hcat hh hnl hcells hd (fun r => k r)

theorem z_cSUn {Fc : Option (zHp)} {kk : zHp → Option ρ} (C : zC P cc own ret ht mc ms nn ro0) {idx n narg a htY mcY msY : Nat} {y : MethodName} {cy : ByteArray} {retY : Option FieldType} {stk0 : List Value} (hw : zCUS own idx y cy n retY narg) (As : List Value)
    (hM : ∀ (l : Launch) (D : va_G) (tc : Nat → ClassId) (b0 : Nat) (r : zHp), Fc = some r → zis hp a 9 = some () ∧ zM l y cy n retY htY mcY msY (.ref a :: As) D tc ro0 b0 hp sz ((zoV sz) r).1 ((zoV sz) r).2.1 ((zoV sz) r).2.2)
    (hd : decode cc pc = .ok (.invokespecial idx, 3)) (hn : As.length = narg) (hst : stk0 = As.reverse ++ .ref a :: stk) (hcat : (stk.map fun v => v.category).sum ≤ 8) (hh : htY + 1 ≤ ht) (hnl : n ≤ 21) (hcells : uc + mcY ≤ mc ∧ us + msY ≤ ms)
    (k : ∀ h, zGq P Qf (kk h) (pc + 3) lv stk h sz (uc + mcY) (us + msY)) : zGq P Qf (Fc.bind kk) pc lv stk0 hp sz uc us :=
  z_callSU (oc := (zoV sz)) C hw As hM hn hst hcat hh hnl hcells hd (fun r => k r)

theorem z_cSv {Fc : Option (zHp × Nat)} {kk : zHp → Nat → Option ρ} (C : zC P cc own ret ht mc ms nn ro0) {idx n narg htY mcY msY : Nat} {y : MethodName} {cy : ByteArray} {retY : Option FieldType} {stk0 : List Value} (hw : zCS own idx y cy n retY narg) (As : List Value)
    (hM : ∀ (l : Launch) (D : va_G) (tc : Nat → ClassId) (b0 : Nat) (r : zHp × Nat), Fc = some r → zM l y cy n retY htY mcY msY As D tc ro0 b0 hp sz (zoVA r).1 (zoVA r).2.1 (zoVA r).2.2)
    (hd : decode cc pc = .ok (.invokestatic idx, 3)) (hn : As.length = narg) (hst : stk0 = As.reverse ++ stk) (hcat : (stk.map fun v => v.category).sum ≤ 8) (hh : htY + 1 ≤ ht) (hnl : n ≤ 21) (hcells : uc + mcY ≤ mc ∧ us + msY ≤ ms)
    (k : ∀ h z, zGq P Qf (kk h z) (pc + 3) lv stk h z (uc + mcY) (us + msY)) : zGq P Qf (zb2 Fc kk) pc lv stk0 hp sz uc us :=
  z_callS (oc := zoVA) (kk := fun r => kk r.1 r.2) C hw As hM hn hst hcat hh hnl hcells hd (fun r => k r.1 r.2)

theorem z_cSr {Fc : Option (Nat × zHp × Nat)} {kk : Nat → zHp → Nat → Option ρ} (C : zC P cc own ret ht mc ms nn ro0) {idx n narg htY mcY msY : Nat} {y : MethodName} {cy : ByteArray} {retY : Option FieldType} {stk0 : List Value} (hw : zCS own idx y cy n retY narg) (As : List Value)
    (hM : ∀ (l : Launch) (D : va_G) (tc : Nat → ClassId) (b0 : Nat) (r : Nat × zHp × Nat), Fc = some r → zM l y cy n retY htY mcY msY As D tc ro0 b0 hp sz (zoRA r).1 (zoRA r).2.1 (zoRA r).2.2)
    (hd : decode cc pc = .ok (.invokestatic idx, 3)) (hn : As.length = narg) (hst : stk0 = As.reverse ++ stk) (hcat : (stk.map fun v => v.category).sum ≤ 8) (hh : htY + 1 ≤ ht) (hnl : n ≤ 21) (hcells : uc + mcY ≤ mc ∧ us + msY ≤ ms)
    (k : ∀ x h z, zGq P Qf (kk x h z) (pc + 3) lv (.ref x :: stk) h z (uc + mcY) (us + msY)) : zGq P Qf (zb3 Fc kk) pc lv stk0 hp sz uc us :=
  z_callS (oc := zoRA) (kk := fun r => kk r.1 r.2.1 r.2.2) C hw As hM hn hst hcat hh hnl hcells hd (fun r => k r.1 r.2.1 r.2.2)

theorem z_cSi {Fc : Option (Int32 × zHp × Nat)} {kk : Int32 → zHp → Nat → Option ρ} (C : zC P cc own ret ht mc ms nn ro0) {idx n narg htY mcY msY : Nat} {y : MethodName} {cy : ByteArray} {retY : Option FieldType} {stk0 : List Value} (hw : zCS own idx y cy n retY narg) (As : List Value)
    (hM : ∀ (l : Launch) (D : va_G) (tc : Nat → ClassId) (b0 : Nat) (r : Int32 × zHp × Nat), Fc = some r → zM l y cy n retY htY mcY msY As D tc ro0 b0 hp sz (zoIA r).1 (zoIA r).2.1 (zoIA r).2.2)
    (hd : decode cc pc = .ok (.invokestatic idx, 3)) (hn : As.length = narg) (hst : stk0 = As.reverse ++ stk) (hcat : (stk.map fun v => v.category).sum ≤ 8) (hh : htY + 1 ≤ ht) (hnl : n ≤ 21) (hcells : uc + mcY ≤ mc ∧ us + msY ≤ ms)
    (k : ∀ x h z, zGq P Qf (kk x h z) (pc + 3) lv (.int x :: stk) h z (uc + mcY) (us + msY)) : zGq P Qf (zb3 Fc kk) pc lv stk0 hp sz uc us :=
  z_callS (oc := zoIA) (kk := fun r => kk r.1 r.2.1 r.2.2) C hw As hM hn hst hcat hh hnl hcells hd (fun r => k r.1 r.2.1 r.2.2)

theorem z_cSp {Fc : Option (Int32)} {kk : Int32 → Option ρ} (C : zC P cc own ret ht mc ms nn ro0) {idx n narg htY mcY msY : Nat} {y : MethodName} {cy : ByteArray} {retY : Option FieldType} {stk0 : List Value} (hw : zCS own idx y cy n retY narg) (As : List Value)
    (hM : ∀ (l : Launch) (D : va_G) (tc : Nat → ClassId) (b0 : Nat) (r : Int32), Fc = some r → zM l y cy n retY htY mcY msY As D tc ro0 b0 hp sz ((zoP sz hp) r).1 ((zoP sz hp) r).2.1 ((zoP sz hp) r).2.2)
    (hd : decode cc pc = .ok (.invokestatic idx, 3)) (hn : As.length = narg) (hst : stk0 = As.reverse ++ stk) (hcat : (stk.map fun v => v.category).sum ≤ 8) (hh : htY + 1 ≤ ht) (hnl : n ≤ 21) (hcells : uc + mcY ≤ mc ∧ us + msY ≤ ms)
    (k : ∀ x, zGq P Qf (kk x) (pc + 3) lv (.int x :: stk) hp sz (uc + mcY) (us + msY)) : zGq P Qf (Fc.bind kk) pc lv stk0 hp sz uc us :=
  z_callS (oc := (zoP sz hp)) C hw As hM hn hst hcat hh hnl hcells hd (fun r => k r)

theorem z_cSu {Fc : Option (Unit)} {kk : Unit → Option ρ} (C : zC P cc own ret ht mc ms nn ro0) {idx n narg htY mcY msY : Nat} {y : MethodName} {cy : ByteArray} {retY : Option FieldType} {stk0 : List Value} (hw : zCS own idx y cy n retY narg) (As : List Value)
    (hM : ∀ (l : Launch) (D : va_G) (tc : Nat → ClassId) (b0 : Nat) (r : Unit), Fc = some r → zM l y cy n retY htY mcY msY As D tc ro0 b0 hp sz ((zoPU sz hp) r).1 ((zoPU sz hp) r).2.1 ((zoPU sz hp) r).2.2)
    (hd : decode cc pc = .ok (.invokestatic idx, 3)) (hn : As.length = narg) (hst : stk0 = As.reverse ++ stk) (hcat : (stk.map fun v => v.category).sum ≤ 8) (hh : htY + 1 ≤ ht) (hnl : n ≤ 21) (hcells : uc + mcY ≤ mc ∧ us + msY ≤ ms)
    (k : ∀ x, zGq P Qf (kk x) (pc + 3) lv stk hp sz (uc + mcY) (us + msY)) : zGq P Qf (Fc.bind kk) pc lv stk0 hp sz uc us :=
  z_callS (oc := (zoPU sz hp)) C hw As hM hn hst hcat hh hnl hcells hd (fun r => k r)

theorem z_cSn {Fc : Option (zHp)} {kk : zHp → Option ρ} (C : zC P cc own ret ht mc ms nn ro0) {idx n narg htY mcY msY : Nat} {y : MethodName} {cy : ByteArray} {retY : Option FieldType} {stk0 : List Value} (hw : zCS own idx y cy n retY narg) (As : List Value)
    (hM : ∀ (l : Launch) (D : va_G) (tc : Nat → ClassId) (b0 : Nat) (r : zHp), Fc = some r → zM l y cy n retY htY mcY msY As D tc ro0 b0 hp sz ((zoV sz) r).1 ((zoV sz) r).2.1 ((zoV sz) r).2.2)
    (hd : decode cc pc = .ok (.invokestatic idx, 3)) (hn : As.length = narg) (hst : stk0 = As.reverse ++ stk) (hcat : (stk.map fun v => v.category).sum ≤ 8) (hh : htY + 1 ≤ ht) (hnl : n ≤ 21) (hcells : uc + mcY ≤ mc ∧ us + msY ≤ ms)
    (k : ∀ h, zGq P Qf (kk h) (pc + 3) lv stk h sz (uc + mcY) (us + msY)) : zGq P Qf (Fc.bind kk) pc lv stk0 hp sz uc us :=
  z_callS (oc := (zoV sz)) C hw As hM hn hst hcat hh hnl hcells hd (fun r => k r)

/-- System.arraycopy of byte arrays; the first may be one that is only read -/
def zcpB (hp : zHp) (a0 : Nat) (sp : Int32) (a : Nat) (dp n : Int32) : Option zHp := match hp a0, hp a with
  | some (.inl (t0, n0, .inl f)), some (.inl (t1, n1, .inl g)) => if (t0 = 1 ∨ t0 = 11) ∧ t1 = 1 ∧ ¬ sp < 0 ∧ ¬ dp < 0 ∧ ¬ n < 0 ∧ sp.toNatClampNeg + n.toNatClampNeg ≤ n0 ∧ dp.toNatClampNeg + n.toNatClampNeg ≤ n1 ∧ ∀ i, i < n.toNatClampNeg → fits .byte (.int (f (sp.toNatClampNeg + i))) = true then some (zup hp a (.inl (t1, n1, .inl (va_cpy f g sp.toNatClampNeg dp.toNatClampNeg n.toNatClampNeg)))) else none
  | _, _ => none
theorem z_copyB (C : zC P cc own ret ht mc ms nn ro0) {idx a0 a : Nat} {sp dp n : Int32} {f : zHp → Option ρ} (hw : zYW own idx) (hd : decode cc pc = .ok (.invokestatic idx, 3)) (hcat : (stk.map fun v => v.category).sum ≤ 8) (hh : 1 ≤ ht)
    (kk : ∀ h, zGq P Qf (f h) (pc + 3) lv stk h sz uc us) : zGq P Qf ((zcpB hp a0 sp a dp n).bind f) pc lv (.int n :: .int dp :: .ref a :: .int sp :: .ref a0 :: stk) hp sz uc us := by
  obtain ⟨p, l, e, R, s, m, args, below, meth, c, D, tc, ro, b0, mc', ms', nL⟩ := P
  obtain ⟨⟨hx, hb, hml, hown, hts⟩, hret, hlocks, hK, hRO, hb0, hR, hmc, hms, hnn, hro⟩ := C
  subst hnn
  subst hro
  intro r hr H locs ls h1 h2 h3 h4
  obtain ⟨w1, w2, w3, w4⟩ := hw
  unfold zcpB at hr
  split at hr
  · next t0 n0 f0 t1 n1 g0 hc0' hc1' =>
    split at hr
    · next q =>
      obtain ⟨q0, rfl, q1, q2, q3, q4, q5, q6⟩ := q
      have hr' : f (zup hp a (.inl (1, n1, .inl (va_cpy f0 g0 sp.toNatClampNeg dp.toNatClampNeg n.toNatClampNeg)))) = some r := hr
      have hz0 := h2 a0 _ hc0'
      have hz1 := h2 a _ hc1'
      unfold zAt at hz0 hz1
      dsimp only at hz0 hz1
      rw [if_pos (by decide)] at hz1
      have hc1 : H[a]? = some (vp_cell (tc 1) (n1, .inl g0)) := hz1.2
      have hsrc : ∃ scr : Cell, H[a0]? = some scr ∧ s.isArrayOf scr .byte ∧ scr.vm ≠ .unknown ∧ n0 ≤ scr.slots.size ∧ ∀ j : Nat, j < n0 → scr.slots[j]? = some (.int (f0 j)) := by
        rcases q0 with rfl | rfl
        · rw [if_pos (by decide)] at hz0
          refine ⟨_, hz0.2, (hK.2 1 (tc 1, .byte) rfl).1 n0 (fun j => .int (f0 j)), (fun q => by cases q), ?_, fun j hj => ?_⟩
          · show n0 ≤ (arrV _ _ _).slots.size
            rw [arrV_size]
            exact Nat.le_refl _
          · show (arrV _ _ _).slots[_]? = _
            rw [arrV_read _ _ hj]
        · rw [if_neg (by decide)] at hz0
          obtain ⟨g', e1, cell, c1, c2, c3, c4, -, c6, -⟩ := hz0
          cases e1
          exact ⟨cell, c1, c2, c3, c4, c6⟩
      obtain ⟨scr, hc0, hs2, hs3, hs4, hs5⟩ := hsrc
      have hnf : nativeFrameWords "java/lang/System" "arraycopy" 5 + 11 ≤ 32 := by decide +kernel
      have nnz : ∀ z : Int32, ¬ z < 0 → z.toInt = (z.toNatClampNeg : Int) := by
        intro z hz
        have hz0 : (0 : Int) ≤ z.toInt := by
          have := Int32.not_lt.mp hz
          simpa using Int32.le_iff_toInt_le.mp this
        show z.toInt = ((z.toInt.toNat : Nat) : Int)
        omega
      intro T hT X
      obtain ⟨hs6, k0, hk0, cm0, hkk0⟩ := hs2
      obtain ⟨-, k1, hk1, cm1, hkk1⟩ := (hK.2 1 (tc 1, .byte) rfl).1 n1 (fun j => .int (g0 j))
      obtain ⟨vm', X', step⟩ := X.arraycopy hx hown (hts _ w1) (hts _ w2) (hts _ w3) (hts _ w4) (src := a0) (dst := a) (cs := scr) (cd := vp_cell (tc 1) (n1, .inl g0)) (srcPos := sp) (destPos := dp) (n := n) (by rw [hT]; exact hc0) (by rw [hT]; exact hc1)
        hs6 (fun _ h => by cases h) hs3 (fun h => by cases h) hk0 hk1 hkk0 hkk1 (by simp [refKind]) q1 q2 q3
        (by rw [nnz sp q1, nnz n q3]; omega)
        (by rw [nnz dp q2, nnz n q3]; show ¬ _ > ((arrV (tc 1) n1 (fun j => .int (g0 j))).slots.size : Int); rw [arrV_size]; omega)
        (fun vm₁ _ i hi => by
          have e : scr.slots.getD (sp.toNatClampNeg + i) .null = .int (f0 (sp.toNatClampNeg + i)) := by
            rw [Array.getD_eq_getD_getElem?, hs5 _ (by omega)]
            rfl
          refine ⟨?_, ?_⟩
          · rw [e]
            exact q6 i hi
          · rw [e]
            exact trivial)
        (g := F0 m pc ls (.int n :: .int dp :: .ref a :: .int sp :: .ref a0 :: stk)) rfl (by rw [hml]; exact h4.1) (rest := stk) rfl (by rw [hb]; exact hd) (by rw [hR]; exact hh) (by rw [hR]; show 2 * 0 + _ + (nativeFrameWords "java/lang/System" "arraycopy" 5 + 11) ≤ 40 * ht; omega)
      have e1 : copied scr (vp_cell (tc 1) (n1, .inl g0)) sp dp n = vp_cell (tc 1) (n1, .inl (va_cpy f0 g0 sp.toNatClampNeg dp.toNatClampNeg n.toNatClampNeg)) := va_copiedX (fun z => .int z) scr (tc 1) f0 g0 hs5 q4
      rw [e1] at X' step
      have hl : a < H.size := (Array.getElem?_eq_some_iff.mp hc1).1
      have hheap : ((T.setVm vm').setCell a (vp_cell (tc 1) (n1, .inl (va_cpy f0 g0 sp.toNatClampNeg dp.toNatClampNeg n.toNatClampNeg)))).heap = H.setIfInBounds a (vp_cell (tc 1) (n1, .inl (va_cpy f0 g0 sp.toNatClampNeg dp.toNatClampNeg n.toNatClampNeg))) := by rw [← hT]; rfl
      have oq : ∀ q : Nat, q ≠ a → (H.setIfInBounds a (vp_cell (tc 1) (n1, .inl (va_cpy f0 g0 sp.toNatClampNeg dp.toNatClampNeg n.toNatClampNeg))))[q]? = H[q]? := fun q hq => by simp [Array.getElem?_setIfInBounds, Ne.symm hq]
      obtain ⟨t, a1, b1⟩ := kk _ r hr' (H.setIfInBounds a (vp_cell (tc 1) (n1, .inl (va_cpy f0 g0 sp.toNatClampNeg dp.toNatClampNeg n.toNatClampNeg)))) _ ls (by simp; exact h1) (h2.set hz1.1 oq (by
          unfold zAt
          dsimp only
          rw [if_pos (by decide)]
          exact ⟨hz1.1, by simp [Array.getElem?_setIfInBounds, hl]⟩)) ⟨by simp; exact h3.1, fun q g1 g2 => by
          rw [oq q (fun e => g2 (by rw [e]; exact hz1.1))]
          exact h3.2.1 q g1 g2, fun q hq => by
          rcases List.mem_append.mp hq with h | h
          · exact h3.2.2 q h
          · obtain ⟨z, -, hz⟩ := List.mem_map.mp h
            rw [← hz]
            exact hz1.1⟩ h4 _ hheap X'
      exact ⟨t, step t a1, b1⟩
    · cases hr
  · cases hr
/-- a byte field -/
def zpB (hp : zHp) (a c k : Nat) (x : Int32) : Option zHp := if vp_nar .byte x = x ∧ fits .byte (.int x) = true then zpV hp a c k (.int x) else none
theorem z_putB (C : zC P cc own ret ht mc ms nn ro0) {idx ci k a : Nat} {x : Int32} {f : zHp → Option ρ} (hw : zPW own idx ci k .byte) (hd : decode cc pc = .ok (.putfield idx, 3))
    (kk : ∀ h, zGq P Qf (f h) (pc + 3) lv stk h sz uc us) : zGq P Qf ((zpB hp a ci k x).bind f) pc lv (.int x :: .ref a :: stk) hp sz uc us := by
  unfold zpB
  split
  · next q => exact zW_put C hw (congrArg Value.int q.1) q.2 hd kk
  · exact z_none
theorem zU6 {own : String} {idx : Nat} {y : MethodName} {w5 : Cond} (h1 : Cond.methodLink own idx y ∈ zGT) (h2 : Cond.sameMethod y.cls y.cls y.name y.desc ∈ zGT) (h3 : Cond.superclass own y.cls ∈ zGT) (h4 : Cond.instanceMethod y ∈ zGT) (h5 : Cond.initialized y.cls ∈ zGT) (h6 : w5 ∈ zGT) : ∀ w ∈ va_wsSU own idx y [w5], w ∈ zGT := by
  intro w h
  simp only [va_wsSU, List.cons_append, List.nil_append, List.mem_cons, List.not_mem_nil, or_false] at h
  rcases h with rfl | rfl | rfl | rfl | rfl | rfl <;> assumption
end ZV

