/-! the law's walk -/
section P99b
variable {P : zX} {Qf : Unit → State → Prop} {pc : Nat} {lv : List (Nat × Value)} {stk : List Value} {hp h hp' : zHp} {b c k n s sz z uc us : Nat} {cc : ByteArray} {own : String} {ret : Option FieldType} {ht mc ms nn : Nat} {ro ro0 : Nat → Nat} {xs T : Nat → Int32}
noncomputable def zpk {α : Type} (x y : α) : Option Unit := @ite _ (y = x) (Classical.propDecidable _) (some ()) none
theorem zpk_self {α : Type} (x : α) : zpk x x = some () := by
  unfold zpk
  rw [if_pos rfl]
theorem z_pk {α : Type} {m : Option α} {x : α} (hm : m = some x) (k : zGq P Qf (m.bind (zpk x)) pc lv stk hp sz uc us) : zGq P Qf (some ()) pc lv stk hp sz uc us := by
  rw [hm] at k
  have h : (some x).bind (zpk x) = some () := zpk_self x
  rw [h] at k
  exact k
theorem z_pkl {α : Type} {x : α} (k : zGq P Qf (zlet x (zpk x)) pc lv stk hp sz uc us) : zGq P Qf (some ()) pc lv stk hp sz uc us := by
  have h : zlet x (zpk x) = some () := zpk_self x
  rw [h] at k
  exact k
theorem z_at {α : Type} {x y : α} (k : y = x → zGq P Qf (some ()) pc lv stk hp sz uc us) : zGq P Qf (zpk x y) pc lv stk hp sz uc us := by
  unfold zpk
  by_cases h : y = x
  · rw [if_pos h]
    exact k h
  · rw [if_neg h]
    exact z_none
theorem y_ifneT (C : zC P cc own ret ht mc ms nn ro0) {x : Int32} {off : Int} (tgt : Nat) (e : ¬ x = 0) (hd : decode cc pc = .ok (.ifCond .ne off, 3)) (htg : (pc : Int) + off = (tgt : Int)) (k : zGq P Qf (some ()) tgt lv stk hp sz uc us) : zGq P Qf (some ()) pc lv (.int x :: stk) hp sz uc us := by
  have h := z_if_ne (x := x) (lv := lv) (stk := stk) (A := (none : Option Unit)) (B := some ()) C tgt hd htg (z_none) k
  rw [if_neg e] at h
  exact h
theorem y_geT (C : zC P cc own ret ht mc ms nn ro0) {x y : Int32} {off : Int} (tgt : Nat) (e : ¬ x < y) (hd : decode cc pc = .ok (.if_icmp .ge off, 3)) (htg : (pc : Int) + off = (tgt : Int)) (k : zGq P Qf (some ()) tgt lv stk hp sz uc us) : zGq P Qf (some ()) pc lv (.int y :: .int x :: stk) hp sz uc us := by
  have h := z_icmp_ge (x := x) (y := y) (lv := lv) (stk := stk) (A := (none : Option Unit)) (B := some ()) C tgt hd htg (z_none) k
  rw [if_neg e] at h
  exact h
theorem y_geF (C : zC P cc own ret ht mc ms nn ro0) {x y : Int32} {off : Int} (tgt : Nat) (e : x < y) (hd : decode cc pc = .ok (.if_icmp .ge off, 3)) (htg : (pc : Int) + off = (tgt : Int)) (k : zGq P Qf (some ()) (pc + 3) lv stk hp sz uc us) : zGq P Qf (some ()) pc lv (.int y :: .int x :: stk) hp sz uc us := by
  have h := z_icmp_ge (x := x) (y := y) (lv := lv) (stk := stk) (A := some ()) (B := (none : Option Unit)) C tgt hd htg k (z_none)
  rw [if_pos e] at h
  exact h
theorem y_callV {ρc : Type} {oc : ρc → Option Value × zHp × Nat} {Fc : Option ρc} {x : ρc} (hF : Fc = some x) (C : zC P cc own ret ht mc ms nn ro0) {idx n ci narg a htY mcY msY : Nat} {y : MethodName} {cy : ByteArray} {retY : Option FieldType} {stk0 : List Value} (hw : zCV own idx y cy n retY ci narg) (As : List Value)
    (hM : ∀ (l : Launch) (D : va_G) (tc : Nat → ClassId) (b0 : Nat) (r : ρc), Fc = some r → zis hp a ci = some () ∧ zM l y cy n retY htY mcY msY (.ref a :: As) D tc ro0 b0 hp sz (oc r).1 (oc r).2.1 (oc r).2.2)
    (hn : As.length = narg) (hst : stk0 = As.reverse ++ .ref a :: stk) (hcat : (stk.map fun v => v.category).sum ≤ 8) (hh : htY + 1 ≤ ht) (hnl : n ≤ 21) (hcells : uc + mcY ≤ mc ∧ us + msY ≤ ms) (hd : decode cc pc = .ok (.invokevirtual idx, 3))
    (k : zGq P Qf (some ()) (pc + 3) lv ((oc x).1.toList ++ stk) (oc x).2.1 (oc x).2.2 (uc + mcY) (us + msY)) : zGq P Qf (some ()) pc lv stk0 hp sz uc us :=
  z_pk hF (z_callV (oc := oc) C hw As hM hn hst hcat hh hnl hcells hd (fun r => z_at (fun e => by rw [e]; exact k)))
theorem y_callS {ρc : Type} {oc : ρc → Option Value × zHp × Nat} {Fc : Option ρc} {x : ρc} (hF : Fc = some x) (C : zC P cc own ret ht mc ms nn ro0) {idx n narg htY mcY msY : Nat} {y : MethodName} {cy : ByteArray} {retY : Option FieldType} {stk0 : List Value} (hw : zCS own idx y cy n retY narg) (As : List Value)
    (hM : ∀ (l : Launch) (D : va_G) (tc : Nat → ClassId) (b0 : Nat) (r : ρc), Fc = some r → zM l y cy n retY htY mcY msY As D tc ro0 b0 hp sz (oc r).1 (oc r).2.1 (oc r).2.2)
    (hn : As.length = narg) (hst : stk0 = As.reverse ++ stk) (hcat : (stk.map fun v => v.category).sum ≤ 8) (hh : htY + 1 ≤ ht) (hnl : n ≤ 21) (hcells : uc + mcY ≤ mc ∧ us + msY ≤ ms) (hd : decode cc pc = .ok (.invokestatic idx, 3))
    (k : zGq P Qf (some ()) (pc + 3) lv ((oc x).1.toList ++ stk) (oc x).2.1 (oc x).2.2 (uc + mcY) (us + msY)) : zGq P Qf (some ()) pc lv stk0 hp sz uc us :=
  z_pk hF (z_callS (oc := oc) C hw As hM hn hst hcat hh hnl hcells hd (fun r => z_at (fun e => by rw [e]; exact k)))
theorem zs_L_248 : zCS RL 248 yL_hall cL_hall 3 (some (.object "CountHall")) 1 := by
  refine ⟨?_, by decide +kernel, by decide +kernel, by decide +kernel⟩
  exact zS4 (zGT_in 54 (by decide +kernel) rfl) (zGT_in 55 (by decide +kernel) rfl) (zGT_in 23 (by decide +kernel) rfl) (zGT_in 56 (by decide +kernel) rfl)
theorem zs_L_252 : zCS RL 252 yL_isCounted cL_isCounted 10 (some .boolean) 2 := by
  refine ⟨?_, by decide +kernel, by decide +kernel, by decide +kernel⟩
  exact zS4 (zGT_in 1015 (by decide +kernel) rfl) (zGT_in 1016 (by decide +kernel) rfl) (zGT_in 23 (by decide +kernel) rfl) (zGT_in 1017 (by decide +kernel) rfl)
theorem zs_L_255 : zCS RL 255 yL_isTold cL_isTold 15 (some .boolean) 2 := by
  refine ⟨?_, by decide +kernel, by decide +kernel, by decide +kernel⟩
  exact zS4 (zGT_in 1160 (by decide +kernel) rfl) (zGT_in 1161 (by decide +kernel) rfl) (zGT_in 23 (by decide +kernel) rfl) (zGT_in 1162 (by decide +kernel) rfl)
theorem zs_L_258 : zCS RL 258 yL_changes cL_changes 4 none 2 := by
  refine ⟨?_, by decide +kernel, by decide +kernel, by decide +kernel⟩
  exact zS4 (zGT_in 811 (by decide +kernel) rfl) (zGT_in 812 (by decide +kernel) rfl) (zGT_in 23 (by decide +kernel) rfl) (zGT_in 813 (by decide +kernel) rfl)
theorem zbl_26 : (Int8.ofInt 26).toInt32 = (26 : Int32) := by decide +kernel
theorem zbl_12 : (Int8.ofInt 12).toInt32 = (12 : Int32) := by decide +kernel
theorem zil_0 : Int32.ofInt 0 = (0 : Int32) := by decide +kernel
theorem zil_1 : Int32.ofInt 1 = (1 : Int32) := by decide +kernel
theorem zil_2 : Int32.ofInt 2 = (2 : Int32) := by decide +kernel
theorem zil_3 : Int32.ofInt 3 = (3 : Int32) := by decide +kernel
/-- what holds between two changes -/
def JL (b c n : Nat) (xs T : Nat → Int32) (hp : zHp) (sz : Nat) : Prop := (∃ p N σ u Ps, wW hp c p (-1) T N σ u Ps ∧ sG T N) ∧ (0 < sN T 3 ∧ 0 < sN T 4) ∧ sc hp b n xs ∧ b < c ∧ c + 635 ≤ sz
theorem JL_fr (J : JL b c n xs T hp sz) (f : ∀ a, a < sz → h a = hp a) (hz : sz ≤ z) : JL b c n xs T h z := by
  obtain ⟨⟨p, N, σ, u, Ps, W, G⟩, j2, j3, j4, j5⟩ := J
  have hp2 := W.2.1
  refine ⟨⟨p, N, σ, u, Ps, wW_fr W (fun a ha => f a (by omega)), G⟩, j2, ?_, j4, by omega⟩
  unfold sc
  rw [f b (by omega)]
  exact j3
def L5 (b c : Nat) (step x i : Int32) : List (Nat × Value) := [(0, .ref b), (1, .ref c), (2, .int step), (3, .int x), (4, .int i)]
def L3 (b c : Nat) (step : Int32) : List (Nat × Value) := [(0, .ref b), (1, .ref c), (2, .int step)]
abbrev zCLaw (P : zX) (ro : Nat → Nat) : Prop := zC P cL_law RL (some .boolean) 14 600086 7301442 5 ro
theorem sN_lt (J : JL b c n xs T hp sz) : sN T 3 < 2147483648 ∧ sN T 2 < 2147483648 := by
  obtain ⟨⟨p, N, σ, u, Ps, W, G⟩, -⟩ := J
  have := (hh_I W.1.2).2.1
  omega
set_option maxHeartbeats 1000000 in
theorem l_boxes (C : zCLaw P ro) {step x : Int32} {U V : Nat} (hU : U ≤ 600086) (hV : V ≤ 7301442) (K : ∀ i hp sz uc us, JL b c n xs T hp sz → uc ≤ U → us ≤ V → zGq P Qf (some ()) 58 (L5 b c step x i) [] hp sz uc us) : ∀ d q hp sz uc us, q + d = sN T 3 → uc + 8 * d ≤ U → us + 48 * d ≤ V → JL b c n xs T hp sz → zGq P Qf (some ()) 31 (L5 b c step x (Int32.ofNat q)) [] hp sz uc us := by
  intro d
  induction d with
  | zero =>
    intro q hp sz uc us h1 h2 h3 J
    obtain ⟨b1, b2⟩ := sN_lt J
    obtain ⟨⟨p, N, σ, u, Ps, W, G⟩, -⟩ := id J
    refine z_iload C dL_law_31 4 rfl ?_
    refine z_aload_n C dL_law_33 1 rfl ?_
    refine z_iconst C dL_law_34 zil_3 ?_
    refine y_callV (oc := zoP sz hp) (g_count3 W.1) C zc_L_143 [.int 3] (fun l D tc b0 r h => m_X7_count l D tc ro b0 h) rfl rfl (Nat.le_of_ble_eq_true rfl) (by decide) (by decide) ⟨by omega, by omega⟩ dL_law_35 ?_
    exact y_geT C 58 (by rw [pn_lt (by omega) (by omega)]; omega) dL_law_38 (by decide) (K _ hp sz uc us J (by omega) (by omega))
  | succ d ih =>
    intro q hp sz uc us h1 h2 h3 J
    obtain ⟨b1, b2⟩ := sN_lt J
    obtain ⟨⟨p, N, σ, u, Ps, W, G⟩, -, -, -, hsz⟩ := id J
    obtain ⟨h, z, e, fr, z1, z2⟩ := L_counted (mc := 8) (ms := 48) W G hsz (show q < sN T 3 by omega) ⟨by decide, by decide⟩
    refine z_iload C dL_law_31 4 rfl ?_
    refine z_aload_n C dL_law_33 1 rfl ?_
    refine z_iconst C dL_law_34 zil_3 ?_
    refine y_callV (oc := zoP sz hp) (g_count3 W.1) C zc_L_143 [.int 3] (fun l D tc b0 r h => m_X7_count l D tc ro b0 h) rfl rfl (Nat.le_of_ble_eq_true rfl) (by decide) (by decide) ⟨by omega, by omega⟩ dL_law_35 ?_
    refine y_geF C 58 (by rw [pn_lt (by omega) (by omega)]; omega) dL_law_38 (by decide) ?_
    refine z_aload_n C dL_law_41 1 rfl ?_
    refine z_iload C dL_law_42 4 rfl ?_
    refine y_callS (oc := zoIA) e C zs_L_252 [.ref c, .int (Int32.ofNat q)] (fun l D tc b0 r h => m_L_isCounted l D tc ro b0 h) rfl rfl (Nat.le_of_ble_eq_true rfl) (by decide) (by decide) ⟨by omega, by omega⟩ dL_law_44 ?_
    refine y_ifneT C (x := 1) 52 (by decide) dL_law_47 (by decide) ?_
    refine z_pkl (x := Int32.ofNat q + 1) (z_iincL C (f := zpk (Int32.ofNat q + 1)) 4 (fun y => L5 b c step x y) dL_law_52 rfl zil_1 (by decide) (fun y => rfl) (fun y => z_at (fun e => ?_)))
    have e6 : y = Int32.ofNat (q + 1) := e.trans (Int32.ofNat_add q 1).symm
    subst e6
    exact z_goto C 31 dL_law_55 (by decide) (ih (q + 1) h z _ _ (by omega) (by omega) (by omega) (JL_fr J fr z1))
set_option maxHeartbeats 1000000 in
theorem l_wards (C : zCLaw P ro) {step x : Int32} {U V : Nat} (hU : U ≤ 600086) (hV : V ≤ 7301442) (K : ∀ i hp sz uc us, JL b c n xs T hp sz → uc ≤ U → us ≤ V → zGq P Qf (some ()) 88 (L5 b c step x i) [] hp sz uc us) : ∀ d q hp sz uc us, q + d = sN T 2 → uc + 1 * d ≤ U → us + 6 * d ≤ V → JL b c n xs T hp sz → zGq P Qf (some ()) 61 (L5 b c step x (Int32.ofNat q)) [] hp sz uc us := by
  intro d
  induction d with
  | zero =>
    intro q hp sz uc us h1 h2 h3 J
    obtain ⟨b1, b2⟩ := sN_lt J
    obtain ⟨⟨p, N, σ, u, Ps, W, G⟩, -⟩ := id J
    refine z_iload C dL_law_61 4 rfl ?_
    refine z_aload_n C dL_law_63 1 rfl ?_
    refine z_iconst C dL_law_64 zil_2 ?_
    refine y_callV (oc := zoP sz hp) (g_count2 W.1) C zc_L_143 [.int 2] (fun l D tc b0 r h => m_X7_count l D tc ro b0 h) rfl rfl (Nat.le_of_ble_eq_true rfl) (by decide) (by decide) ⟨by omega, by omega⟩ dL_law_65 ?_
    exact y_geT C 88 (by rw [pn_lt (by omega) (by omega)]; omega) dL_law_68 (by decide) (K _ hp sz uc us J (by omega) (by omega))
  | succ d ih =>
    intro q hp sz uc us h1 h2 h3 J
    obtain ⟨b1, b2⟩ := sN_lt J
    obtain ⟨⟨p, N, σ, u, Ps, W, G⟩, -, -, -, hsz⟩ := id J
    obtain ⟨h, e, fr⟩ := L_told (mc := 1) (ms := 6) W hsz (show q < sN T 2 by omega) ⟨by decide, by decide⟩
    refine z_iload C dL_law_61 4 rfl ?_
    refine z_aload_n C dL_law_63 1 rfl ?_
    refine z_iconst C dL_law_64 zil_2 ?_
    refine y_callV (oc := zoP sz hp) (g_count2 W.1) C zc_L_143 [.int 2] (fun l D tc b0 r h => m_X7_count l D tc ro b0 h) rfl rfl (Nat.le_of_ble_eq_true rfl) (by decide) (by decide) ⟨by omega, by omega⟩ dL_law_65 ?_
    refine y_geF C 88 (by rw [pn_lt (by omega) (by omega)]; omega) dL_law_68 (by decide) ?_
    refine z_aload_n C dL_law_71 1 rfl ?_
    refine z_iload C dL_law_72 4 rfl ?_
    refine y_callS (oc := zoIA) e C zs_L_255 [.ref c, .int (Int32.ofNat q)] (fun l D tc b0 r h => m_L_isTold l D tc ro b0 h) rfl rfl (Nat.le_of_ble_eq_true rfl) (by decide) (by decide) ⟨by omega, by omega⟩ dL_law_74 ?_
    refine y_ifneT C (x := 1) 82 (by decide) dL_law_77 (by decide) ?_
    refine z_pkl (x := Int32.ofNat q + 1) (z_iincL C (f := zpk (Int32.ofNat q + 1)) 4 (fun y => L5 b c step x y) dL_law_82 rfl zil_1 (by decide) (fun y => rfl) (fun y => z_at (fun e => ?_)))
    have e6 : y = Int32.ofNat (q + 1) := e.trans (Int32.ofNat_add q 1).symm
    subst e6
    exact z_goto C 61 dL_law_85 (by decide) (ih (q + 1) h _ _ _ (by omega) (by omega) (by omega) (JL_fr J fr (Nat.le_succ _)))
set_option maxHeartbeats 1000000 in
set_option maxRecDepth 100000 in
theorem l_steps (C : zCLaw P ro) (hn : n < 2147483648) (K : ∀ lv hp sz uc us, uc ≤ 600086 → us ≤ 7301442 → zGq P Qf (some ()) 99 lv [] hp sz uc us) : ∀ d k hp sz uc us, k + d = 26 → uc + 110 * d ≤ 600086 → us + 700 * d ≤ 7301442 → JL b c n xs T hp sz → zGq P Qf (some ()) 13 (L3 b c (Int32.ofNat k)) [] hp sz uc us := by
  intro d
  induction d with
  | zero =>
    intro k hp sz uc us h1 h2 h3 J
    refine z_iload_n C dL_law_13 2 rfl ?_
    refine z_bipush C dL_law_14 zbl_26 ?_
    have hk : k = 26 := h1
    exact y_geT C 99 (by rw [hk]; decide) dL_law_16 (by decide) (K _ hp sz uc us (by omega) (by omega))
  | succ d ih =>
    intro k hp sz uc us h1 h2 h3 J
    have J0 := J
    obtain ⟨-, -, hs, -⟩ := J0
    have hT : sN T 3 ≤ 12 ∧ sN T 2 ≤ 6 := by
      obtain ⟨⟨p, N, σ, u, Ps, W, G⟩, -⟩ := J
      have := (hh_I W.1.2).2.1
      omega
    refine z_iload_n C dL_law_13 2 rfl ?_
    refine z_bipush C dL_law_14 zbl_26 ?_
    refine y_geF C 99 (by rw [show (26 : Int32) = Int32.ofNat 26 from rfl, pn_lt (by omega) (by decide)]; omega) dL_law_16 (by decide) ?_
    refine z_aload_n C dL_law_19 0 rfl ?_
    refine z_bipush C dL_law_20 zbl_12 ?_
    refine z_iload_n C dL_law_22 2 rfl ?_
    refine z_iadd C dL_law_23 ?_
    have ec : f_L_cell b ((12 : Int32) + Int32.ofNat k) hp = some (cv n xs (12 + k)) := by
      rw [show (12 : Int32) + Int32.ofNat k = Int32.ofNat (12 + k) from ixa 12 k]
      exact cell_ok hn hs (by omega)
    refine y_callS (oc := zoP sz hp) ec C zs_L_37 [.ref b, .int ((12 : Int32) + Int32.ofNat k)] (fun l D tc b0 r h => m_L_cell l D tc ro b0 h) rfl rfl (Nat.le_of_ble_eq_true rfl) (by decide) (by decide) ⟨by omega, by omega⟩ dL_law_24 ?_
    refine z_istore_n (x := cv n xs (12 + k)) (lv' := [(0, .ref b), (1, .ref c), (2, .int (Int32.ofNat k)), (3, .int (cv n xs (12 + k)))]) C dL_law_27 (by decide) rfl ?_
    refine z_iconst C dL_law_28 (v := Int32.ofNat 0) zil_0 ?_
    refine z_istore (lv' := L5 b c (Int32.ofNat k) (cv n xs (12 + k)) (Int32.ofNat 0)) C dL_law_29 (by decide) rfl ?_
    refine l_boxes C (U := uc + 96) (V := us + 576) (by omega) (by omega) (fun i hp sz uc1 us1 J hu hv => ?_) (sN T 3) 0 hp sz uc us (by omega) (by omega) (by omega) J
    refine z_iconst C dL_law_58 (v := Int32.ofNat 0) zil_0 ?_
    refine z_istore (lv' := L5 b c (Int32.ofNat k) (cv n xs (12 + k)) (Int32.ofNat 0)) C dL_law_59 (by decide) rfl ?_
    refine l_wards C (U := uc + 102) (V := us + 612) (by omega) (by omega) (fun i hp sz uc2 us2 J hu2 hv2 => ?_) (sN T 2) 0 hp sz uc1 us1 (by omega) (by omega) (by omega) J
    obtain ⟨⟨p, N, σ, u, Ps, W, G⟩, ⟨g3, g4⟩, hs, hb, hsz⟩ := J
    obtain ⟨h, N', σ', u', Ps', e, fr, W', G'⟩ := L_changes W G g3 g4 (cv n xs (12 + k))
    have J' : JL b c n xs T h sz := ⟨⟨p, N', σ', u', Ps', W', G'⟩, ⟨g3, g4⟩, by unfold sc; rw [fr b (by omega)]; exact hs, hb, hsz⟩
    refine z_aload_n C dL_law_88 1 rfl ?_
    refine z_iload_n C dL_law_89 3 rfl ?_
    refine y_callS (oc := zoV sz) e C zs_L_258 [.ref c, .int (cv n xs (12 + k))] (fun l D tc b0 r h => m_L_changes l D tc ro b0 h) rfl rfl (Nat.le_of_ble_eq_true rfl) (by decide) (by decide) ⟨by omega, by omega⟩ dL_law_90 ?_
    refine z_pkl (x := Int32.ofNat k + 1) (z_iincL C (f := zpk (Int32.ofNat k + 1)) 2 (fun y => L5 b c y (cv n xs (12 + k)) i) dL_law_93 rfl zil_1 (by decide) (fun y => rfl) (fun y => z_at (fun e => ?_)))
    have e6 : y = Int32.ofNat (k + 1) := e.trans (Int32.ofNat_add k 1).symm
    subst e6
    refine z_goto C 13 dL_law_96 (by decide) ?_
    exact z_sub [0, 1, 2] rfl (ih (k + 1) h sz _ _ (by omega) (by omega) (by omega) J')
set_option maxHeartbeats 1000000 in
set_option maxRecDepth 100000 in
/-- from the start -/
theorem l_start (C : zCLaw P ro) (hn : n < 2147483648) (K : ∀ lv hp sz uc us, uc ≤ 600086 → us ≤ 7301442 → zGq P Qf (some ()) 99 lv [] hp sz uc us) (X4 : wSts hp c ro) (TW0 : TW c ro b n xs hp) : zGq P Qf (some ()) 0 [(0, .ref b)] [] hp c 0 0 := by
  obtain ⟨h, z, p, T, N, σ, Ps, e, hz, W, G, g3, g4, fr⟩ := L_hall hn X4 TW0
  have hb := TW0.2.2.2.2.2
  have J : JL b c n xs T h z := ⟨⟨p, N, σ, 0, Ps, W, G⟩, ⟨g3, g4⟩, by unfold sc; rw [fr b hb]; exact TW0.2.2.1, hb, hz⟩
  refine z_aload_n C dL_law_0 0 rfl ?_
  refine y_callS (oc := zoRA) e C zs_L_248 [.ref b] (fun l D tc b0 r h => m_L_hall l D tc ro b0 h) rfl rfl (Nat.le_of_ble_eq_true rfl) (by decide) (by decide) ⟨by decide, by decide⟩ dL_law_1 ?_
  refine z_astore_n (x := c) (lv' := [(0, .ref b), (1, .ref c)]) C dL_law_4 (by decide) rfl ?_
  refine z_aload_n C dL_law_5 1 rfl ?_
  refine z_ifnonnull C 11 dL_law_6 (by decide) ?_
  refine z_iconst C dL_law_11 (v := Int32.ofNat 0) zil_0 ?_
  refine z_istore_n (lv' := L3 b c (Int32.ofNat 0)) C dL_law_12 (by decide) rfl ?_
  exact l_steps C hn K 26 0 h z _ _ (by omega) (by omega) (by omega) J
end P99b
