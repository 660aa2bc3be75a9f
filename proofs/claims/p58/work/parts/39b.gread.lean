/-! PURE: the public readers of the class at places that there are -/
section P38b
variable {hp : zHp} {c ld hl hi sb p q : Nat} {ea : Int32} {T N : Nat → Int32} {b w t k j s : Nat}
theorem g_dem2 (K : wK hp c ld hl hi sb p q ea T N) (hk : k < sN T 2) : f_X7_demand c 2 (Int32.ofNat k) hp = some () := by
  have hd := sI_bd (hh_I K.2)
  simp only [f_X7_demand, k_is K, k_hl K, hh_p K.2, Option.bind_some, show f_X5_has p 2 (Int32.ofNat k) hp = some (zb (inr (Int32.ofNat k) (sN T 2))) from c_has K.2.2.1 (s := 2) (by decide) _, inr_T hk (show sN T 2 < 2147483648 by omega), zb_0, Bool.true_eq_false, if_false]
theorem g_dem3 (K : wK hp c ld hl hi sb p q ea T N) (hk : k < sN T 3) : f_X7_demand c 3 (Int32.ofNat k) hp = some () := by
  have hd := sI_bd (hh_I K.2)
  simp only [f_X7_demand, k_is K, k_hl K, hh_p K.2, Option.bind_some, show f_X5_has p 3 (Int32.ofNat k) hp = some (zb (inr (Int32.ofNat k) (sN T 3))) from c_has K.2.2.1 (s := 3) (by decide) _, inr_T hk (show sN T 3 < 2147483648 by omega), zb_0, Bool.true_eq_false, if_false]
theorem g_dem4 (K : wK hp c ld hl hi sb p q ea T N) (hk : k < sN T 4) : f_X7_demand c 4 (Int32.ofNat k) hp = some () := by
  have hd := sI_bd (hh_I K.2)
  simp only [f_X7_demand, k_is K, k_hl K, hh_p K.2, Option.bind_some, show f_X5_has p 4 (Int32.ofNat k) hp = some (zb (inr (Int32.ofNat k) (sN T 4))) from c_has K.2.2.1 (s := 4) (by decide) _, inr_T hk (show sN T 4 < 2147483648 by omega), zb_0, Bool.true_eq_false, if_false]
theorem g_prop0 (K : wK hp c ld hl hi sb p q ea T N) (hb : b < sN T 3) : f_X7_boxProperty c (Int32.ofNat b) 0 hp = some (T (44 + b)) := by
  have I := hh_I K.2
  have hd := sI_bd I
  simp (disch := omega) only [f_X7_boxProperty, k_is K, k_hl K, hh_p K.2, hh_q K.2, Option.bind_some, zb_0, ite_bf, if_true, if_false, Bool.false_eq_true, Bool.true_eq_false, zrNp_b, g_dem3 K hb, c_wards K.2.2.1, c_wardsA K.2.2.1 I]
theorem g_prop1 (K : wK hp c ld hl hi sb p q ea T N) (hb : b < sN T 3) : f_X7_boxProperty c (Int32.ofNat b) 1 hp = some (T (56 + b)) := by
  have I := hh_I K.2
  have hd := sI_bd I
  simp (disch := omega) only [f_X7_boxProperty, k_is K, k_hl K, hh_p K.2, hh_q K.2, Option.bind_some, zb_0, ite_bf, if_true, if_false, Bool.false_eq_true, Bool.true_eq_false, zrNp_b, g_dem3 K hb, c_issued K.2.2.1, c_issuedA K.2.2.1 I, show ¬ (1 : Int32) = 0 by decide]
theorem g_prop3 (K : wK hp c ld hl hi sb p q ea T N) (hb : b < sN T 3) : f_X7_boxProperty c (Int32.ofNat b) 3 hp = some (Int32.ofNat (sC N b)) := by
  have I := hh_I K.2
  have hd := sI_bd I
  simp (disch := omega) only [f_X7_boxProperty, k_is K, k_hl K, hh_p K.2, hh_q K.2, Option.bind_some, zb_0, ite_bf, if_true, if_false, Bool.false_eq_true, Bool.true_eq_false, zrNp_b, g_dem3 K hb, hs_bx K.2, hs_box K.2, k_cnt K.2, show ¬ (3 : Int32) = 0 by decide, show ¬ (3 : Int32) = 1 by decide, show ¬ (3 : Int32) = 2 by decide]
theorem g_place (K : wK hp c ld hl hi sb p q ea T N) (hb : b < sN T 3) : f_X7_placeOf c (Int32.ofNat b) hp = some (sF N b 0) := by
  have I := hh_I K.2
  have hd := sI_bd I
  simp (disch := omega) only [f_X7_placeOf, k_is K, k_hl K, hh_p K.2, hh_q K.2, Option.bind_some, zb_0, ite_bf, if_true, if_false, Bool.false_eq_true, Bool.true_eq_false, zrNp_b, g_dem3 K hb, hs_bx K.2, hs_box K.2, k_place K.2]
theorem g_papers (K : wK hp c ld hl hi sb p q ea T N) (hb : b < sN T 3) (hk : k < sPi T) : f_X7_papers c (Int32.ofNat b) (Int32.ofNat k) hp = some (sPap T b k) := by
  have I := hh_I K.2
  have hd := sI_bd I
  have ek := inr_T hk (show sPi T < 2147483648 by omega)
  simp (disch := omega) only [f_X7_papers, k_is K, k_hl K, hh_p K.2, hh_q K.2, Option.bind_some, zb_0, ite_bf, if_true, if_false, Bool.false_eq_true, Bool.true_eq_false, zrNp_b, g_dem3 K hb, c_hasPile K.2.2.1, ek, c_papers K.2.2.1, c_papersR K.2.2.1, c_papersA K.2.2.1 I]
theorem g_slip (K : wK hp c ld hl hi sb p q ea T N) (ht : t < sN T 4) : f_X7_slipOf c (Int32.ofNat t) hp = some (T (140 + t)) := by
  have I := hh_I K.2
  have hd := sI_bd I
  simp (disch := omega) only [f_X7_slipOf, k_is K, k_hl K, hh_p K.2, hh_q K.2, Option.bind_some, zb_0, ite_bf, if_true, if_false, Bool.false_eq_true, Bool.true_eq_false, zrNp_b, g_dem4 K ht, c_slips K.2.2.1, c_slipsA K.2.2.1 I]
theorem g_counted (K : wK hp c ld hl hi sb p q ea T N) (hb : b < sN T 3) (hj : j < sC N b) (hk : k < sPi T) : f_X7_counted c (Int32.ofNat b) (Int32.ofNat j) (Int32.ofNat k) hp = some (sFd N b j k) := by
  have I := hh_I K.2
  have hd := sI_bd I
  have ek := inr_T hk (show sPi T < 2147483648 by omega)
  have hc := sI_c I hb
  have ej := inr_T hj (show sC N b < 2147483648 by omega)
  simp (disch := omega) only [f_X7_counted, k_is K, k_hl K, hh_p K.2, hh_q K.2, Option.bind_some, zb_0, ite_bf, if_true, if_false, Bool.false_eq_true, Bool.true_eq_false, zrNp_b, g_dem3 K hb, hs_bx K.2, hs_box K.2, k_hasI K.2, ej, c_hasPile K.2.2.1, ek, k_foundBy K.2]
theorem g_countedX (K : wK hp c ld hl hi sb p q ea T N) (hb : b < sN T 3) {y : Int32} (hy : inr y (sC N b) = false) (z : Int32) : f_X7_counted c (Int32.ofNat b) y z hp = some (-1) := by
  have I := hh_I K.2
  have hd := sI_bd I
  simp (disch := omega) only [f_X7_counted, k_is K, k_hl K, hh_p K.2, hh_q K.2, Option.bind_some, zb_0, ite_bf, if_true, if_false, Bool.false_eq_true, Bool.true_eq_false, zrNp_b, g_dem3 K hb, hs_bx K.2, hs_box K.2, k_hasI K.2, hy]
theorem g_countedAt (K : wK hp c ld hl hi sb p q ea T N) (hb : b < sN T 3) (hj : j < sC N b) : f_X7_countedAt c (Int32.ofNat b) (Int32.ofNat j) hp = some (sF N b (16 + j)) := by
  have I := hh_I K.2
  have hd := sI_bd I
  have hc := sI_c I hb
  have ej := inr_T hj (show sC N b < 2147483648 by omega)
  simp (disch := omega) only [f_X7_countedAt, k_is K, k_hl K, hh_p K.2, hh_q K.2, Option.bind_some, zb_0, ite_bf, if_true, if_false, Bool.false_eq_true, Bool.true_eq_false, zrNp_b, g_dem3 K hb, hs_bx K.2, hs_box K.2, k_hasI K.2, ej, k_tab K.2, k_tabA K.2]
theorem g_countedAtX (K : wK hp c ld hl hi sb p q ea T N) (hb : b < sN T 3) {y : Int32} (hy : inr y (sC N b) = false) : f_X7_countedAt c (Int32.ofNat b) y hp = some (-1) := by
  have I := hh_I K.2
  have hd := sI_bd I
  simp (disch := omega) only [f_X7_countedAt, k_is K, k_hl K, hh_p K.2, hh_q K.2, Option.bind_some, zb_0, ite_bf, if_true, if_false, Bool.false_eq_true, Bool.true_eq_false, zrNp_b, g_dem3 K hb, hs_bx K.2, hs_box K.2, k_hasI K.2, hy]
theorem g_would (K : wK hp c ld hl hi sb p q ea T N) (ht : t < sN T 4) (hb : b < sN T 3) (hk : k < sPi T) : f_X7_wouldCount c (Int32.ofNat t) (Int32.ofNat b) (Int32.ofNat k) hp = some (sFi T t b k) := by
  have I := hh_I K.2
  have hd := sI_bd I
  have ek := inr_T hk (show sPi T < 2147483648 by omega)
  simp (disch := omega) only [f_X7_wouldCount, k_is K, k_hl K, hh_p K.2, hh_q K.2, Option.bind_some, zb_0, ite_bf, if_true, if_false, Bool.false_eq_true, Bool.true_eq_false, zrNp_b, g_dem4 K ht, g_dem3 K hb, c_hasPile K.2.2.1, ek, c_wouldFind K.2.2.1 I]
theorem g_conf (K : wK hp c ld hl hi sb p q ea T N) (hb : b < sN T 3) : f_X7_isConfirmed c (Int32.ofNat b) hp = some (zb (sCf T N b).isSome) := by
  have I := hh_I K.2
  have hd := sI_bd I
  simp (disch := omega) only [f_X7_isConfirmed, k_is K, k_hl K, hh_p K.2, hh_q K.2, Option.bind_some, zb_0, ite_bf, if_true, if_false, Bool.false_eq_true, Bool.true_eq_false, zrNp_b, g_dem3 K hb, hs_bx K.2, hs_box K.2, k_conf K.2]
theorem g_result0 (K : wK hp c ld hl hi sb p q ea T N) (hb : b < sN T 3) (h0 : sC N b = 0) (y : Int32) : f_X7_result c (Int32.ofNat b) y hp = some (-1) := by
  have I := hh_I K.2
  have hd := sI_bd I
  simp (disch := omega) only [f_X7_result, k_is K, k_hl K, hh_p K.2, hh_q K.2, Option.bind_some, zb_0, ite_bf, if_true, if_false, Bool.false_eq_true, Bool.true_eq_false, zrNp_b, g_dem3 K hb, hs_bx K.2, hs_box K.2, k_cnt K.2, pn_eq0, h0]
theorem g_result (K : wK hp c ld hl hi sb p q ea T N) (hb : b < sN T 3) (h0 : ¬ sC N b = 0) (hk : k < sPi T) : f_X7_result c (Int32.ofNat b) (Int32.ofNat k) hp = some (sVal T N b k) := by
  have I := hh_I K.2
  have hd := sI_bd I
  have ek := inr_T hk (show sPi T < 2147483648 by omega)
  have hc := sI_c I hb
  simp (disch := omega) only [f_X7_result, k_is K, k_hl K, hh_p K.2, hh_q K.2, Option.bind_some, zb_0, ite_bf, if_true, if_false, Bool.false_eq_true, Bool.true_eq_false, zrNp_b, g_dem3 K hb, hs_bx K.2, hs_box K.2, k_cnt K.2, pn_eq0, h0, c_hasPile K.2.2.1, ek, k_valid K.2]
theorem g_surplus (K : wK hp c ld hl hi sb p q ea T N) (hb : b < sN T 3) : f_X7_surplus c (Int32.ofNat b) hp = some (sMore T N b) := by
  have I := hh_I K.2
  have hd := sI_bd I
  simp (disch := omega) only [f_X7_surplus, k_is K, k_hl K, hh_p K.2, hh_q K.2, Option.bind_some, zb_0, ite_bf, if_true, if_false, Bool.false_eq_true, Bool.true_eq_false, zrNp_b, g_dem3 K hb, H_more K.2]
theorem g_off (K : wK hp c ld hl hi sb p q ea T N) (hb : b < sN T 3) : f_X7_isOff c (Int32.ofNat b) hp = some (zb (sOff T N b)) := by
  have I := hh_I K.2
  have hd := sI_bd I
  simp (disch := omega) only [f_X7_isOff, k_is K, k_hl K, hh_p K.2, hh_q K.2, Option.bind_some, zb_0, ite_bf, if_true, if_false, Bool.false_eq_true, Bool.true_eq_false, zrNp_b, g_dem3 K hb, H_off K.2]
theorem g_votes (K : wK hp c ld hl hi sb p q ea T N) (hw : w < sN T 2) (hk : k < sPi T) : f_X7_wardVotes c (Int32.ofNat w) (Int32.ofNat k) hp = some (sVo T N (Int32.ofNat w) k) := by
  have I := hh_I K.2
  have hd := sI_bd I
  have ek := inr_T hk (show sPi T < 2147483648 by omega)
  simp (disch := omega) only [f_X7_wardVotes, k_is K, k_hl K, hh_p K.2, hh_q K.2, Option.bind_some, zb_0, ite_bf, if_true, if_false, Bool.false_eq_true, Bool.true_eq_false, zrNp_b, g_dem2 K hw, c_hasPile K.2.2.1, ek, H_votes K.2]
theorem g_leader (K : wK hp c ld hl hi sb p q ea T N) (hw : w < sN T 2) : f_X7_leader c (Int32.ofNat w) hp = some (sFst T N (Int32.ofNat w)) := by
  have I := hh_I K.2
  have hd := sI_bd I
  simp (disch := omega) only [f_X7_leader, k_is K, k_hl K, hh_p K.2, hh_q K.2, Option.bind_some, zb_0, ite_bf, if_true, if_false, Bool.false_eq_true, Bool.true_eq_false, zrNp_b, g_dem2 K hw, H_ahead K.2]
theorem g_margin (K : wK hp c ld hl hi sb p q ea T N) (hw : w < sN T 2) : f_X7_margin c (Int32.ofNat w) hp = some (sMar T N (Int32.ofNat w)) := by
  have I := hh_I K.2
  have hd := sI_bd I
  simp (disch := omega) only [f_X7_margin, k_is K, k_hl K, hh_p K.2, hh_q K.2, Option.bind_some, zb_0, ite_bf, if_true, if_false, Bool.false_eq_true, Bool.true_eq_false, zrNp_b, g_dem2 K hw, H_lead K.2]
theorem g_close (K : wK hp c ld hl hi sb p q ea T N) (hw : w < sN T 2) : f_X7_isClose c (Int32.ofNat w) hp = some (zb (sNear T N (Int32.ofNat w))) := by
  have I := hh_I K.2
  have hd := sI_bd I
  simp (disch := omega) only [f_X7_isClose, k_is K, k_hl K, hh_p K.2, hh_q K.2, Option.bind_some, zb_0, ite_bf, if_true, if_false, Bool.false_eq_true, Bool.true_eq_false, zrNp_b, g_dem2 K hw, H_close K.2]
theorem g_why (K : wK hp c ld hl hi sb p q ea T N) (hw : w < sN T 2) : f_X7_whyNot c (Int32.ofNat w) hp = some (sAga T N (Int32.ofNat w)) := by
  have I := hh_I K.2
  have hd := sI_bd I
  simp (disch := omega) only [f_X7_whyNot, k_is K, k_hl K, hh_p K.2, hh_q K.2, Option.bind_some, zb_0, ite_bf, if_true, if_false, Bool.false_eq_true, Bool.true_eq_false, zrNp_b, g_dem2 K hw, H_reason K.2]
theorem g_count0 (K : wK hp c ld hl hi sb p q ea T N)  : f_X7_count c 0 hp = some (Int32.ofNat (sN T 0)) := by
  have I := hh_I K.2
  have hd := sI_bd I
  simp (disch := omega) only [f_X7_count, k_is K, k_hl K, hh_p K.2, hh_q K.2, Option.bind_some, zb_0, ite_bf, if_true, if_false, Bool.false_eq_true, Bool.true_eq_false, zrNp_b, c_num K.2.2.1, c_n0 K.2.2.1, show ¬ (0 : Int32) < 0 by decide, show ¬ (4 : Int32) < 0 by decide]
theorem g_count1 (K : wK hp c ld hl hi sb p q ea T N)  : f_X7_count c 1 hp = some (Int32.ofNat (sN T 1)) := by
  have I := hh_I K.2
  have hd := sI_bd I
  simp (disch := omega) only [f_X7_count, k_is K, k_hl K, hh_p K.2, hh_q K.2, Option.bind_some, zb_0, ite_bf, if_true, if_false, Bool.false_eq_true, Bool.true_eq_false, zrNp_b, c_num K.2.2.1, c_n1 K.2.2.1, show ¬ (1 : Int32) < 0 by decide, show ¬ (4 : Int32) < 1 by decide]
theorem g_count2 (K : wK hp c ld hl hi sb p q ea T N)  : f_X7_count c 2 hp = some (Int32.ofNat (sN T 2)) := by
  have I := hh_I K.2
  have hd := sI_bd I
  simp (disch := omega) only [f_X7_count, k_is K, k_hl K, hh_p K.2, hh_q K.2, Option.bind_some, zb_0, ite_bf, if_true, if_false, Bool.false_eq_true, Bool.true_eq_false, zrNp_b, c_num K.2.2.1, c_n2 K.2.2.1, show ¬ (2 : Int32) < 0 by decide, show ¬ (4 : Int32) < 2 by decide]
theorem g_count3 (K : wK hp c ld hl hi sb p q ea T N)  : f_X7_count c 3 hp = some (Int32.ofNat (sN T 3)) := by
  have I := hh_I K.2
  have hd := sI_bd I
  simp (disch := omega) only [f_X7_count, k_is K, k_hl K, hh_p K.2, hh_q K.2, Option.bind_some, zb_0, ite_bf, if_true, if_false, Bool.false_eq_true, Bool.true_eq_false, zrNp_b, c_num K.2.2.1, c_n3 K.2.2.1, show ¬ (3 : Int32) < 0 by decide, show ¬ (4 : Int32) < 3 by decide]
theorem g_count4 (K : wK hp c ld hl hi sb p q ea T N)  : f_X7_count c 4 hp = some (Int32.ofNat (sN T 4)) := by
  have I := hh_I K.2
  have hd := sI_bd I
  simp (disch := omega) only [f_X7_count, k_is K, k_hl K, hh_p K.2, hh_q K.2, Option.bind_some, zb_0, ite_bf, if_true, if_false, Bool.false_eq_true, Bool.true_eq_false, zrNp_b, c_num K.2.2.1, c_n4 K.2.2.1, show ¬ (4 : Int32) < 0 by decide, show ¬ (4 : Int32) < 4 by decide]
theorem g_set0 (K : wK hp c ld hl hi sb p q ea T N)  : f_X7_getSetting c 0 hp = some (N 0) := by
  have I := hh_I K.2
  have hd := sI_bd I
  simp (disch := omega) only [f_X7_getSetting, k_is K, k_hl K, hh_p K.2, hh_q K.2, Option.bind_some, zb_0, ite_bf, if_true, if_false, Bool.false_eq_true, Bool.true_eq_false, zrNp_b, hs_set K.2, hs_s0 K.2, show f_X7_isSetting 0 hp = some 1 from rfl, show ¬ (1 : Int32) = 0 by decide]
theorem g_set1 (K : wK hp c ld hl hi sb p q ea T N)  : f_X7_getSetting c 1 hp = some (N 1) := by
  have I := hh_I K.2
  have hd := sI_bd I
  simp (disch := omega) only [f_X7_getSetting, k_is K, k_hl K, hh_p K.2, hh_q K.2, Option.bind_some, zb_0, ite_bf, if_true, if_false, Bool.false_eq_true, Bool.true_eq_false, zrNp_b, hs_set K.2, hs_s1 K.2, show f_X7_isSetting 1 hp = some 1 from rfl, show ¬ (1 : Int32) = 0 by decide]
theorem g_dcount (K : wK hp c ld hl hi sb p q ea T N)  : f_X7_declaredCount c hp = some (Int32.ofNat (sD N)) := by
  have I := hh_I K.2
  have hd := sI_bd I
  simp (disch := omega) only [f_X7_declaredCount, k_is K, k_hl K, hh_p K.2, hh_q K.2, Option.bind_some, zb_0, ite_bf, if_true, if_false, Bool.false_eq_true, Bool.true_eq_false, zrNp_b, hs_dw K.2]
theorem g_decl (K : wK hp c ld hl hi sb p q ea T N) (hk : k < sD N) : f_X7_declared c (Int32.ofNat k) hp = some (N (3 + k)) := by
  have I := hh_I K.2
  have hd := sI_bd I
  have h6 := (sI_d I).2
  simp (disch := omega) only [f_X7_declared, k_is K, k_hl K, hh_p K.2, hh_q K.2, Option.bind_some, zb_0, ite_bf, if_true, if_false, Bool.false_eq_true, Bool.true_eq_false, zrNp_b, hs_dw K.2, hs_ord K.2, hs_oA K.2, pn_negF, pn_lt, hk]
theorem g_right (K : wK hp c ld hl hi sb p q ea T N) (hb : b < sN T 3) : f_X7_rightTable c (Int32.ofNat b) hp = some (zoi (sRt T b)) := by
  have I := hh_I K.2
  have hd := sI_bd I
  simp only [f_X7_rightTable, k_is K, Option.bind_some, g_dem3 K hb]
  refine (zF (n := sN T 4) (fun t => sSame T (sFi T t b) (sPap T b)) (fun t => some (Int32.ofNat t)) (some (-1)) (by omega) (fun m i hi => ?_) (fun m => ?_)).trans ?_
  · simp (disch := omega) only [l_X7_rightTable_8_s, b_X7_rightTable_8, k_hl K, hh_p K.2, c_num K.2.2.1, c_n4 K.2.2.1, c_truth K.2.2.1 I, Option.bind_some, pn_lt, hi, if_true, zlet, pn_succ, zb_0, ite_bf]
  · simp (disch := omega) only [l_X7_rightTable_8_s, b_X7_rightTable_8, k_hl K, hh_p K.2, c_num K.2.2.1, c_n4 K.2.2.1, Option.bind_some, Int32.lt_irrefl, if_false]
  · unfold sRt zoi
    cases zff (fun t => sSame T (sFi T t b) (sPap T b)) (sN T 4) 0 <;> rfl
end P38b
