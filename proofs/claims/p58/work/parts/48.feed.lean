/-! PURE: feed: bytes in both -/
section P48
variable {hp h hp' : zHp} {x a c u fl : Nat} {S : Nat → Nat → Int32} {F I Bt : Nat → Int32}
/-- an input at a: its fields I 1 .. I 5, its bytes -/
def wIn (hp : zHp) (a : Nat) (I Bt : Nat → Int32) : Prop := hp a = some (.inr (3, [.ref (a + 1), .int (I 1), .int (I 2), .int (I 3), .int (I 4), .int (I 5)])) ∧ hp (a + 1) = some (.inl (1, 900, .inl Bt))
theorem in_is (W : wIn hp a I Bt) : zis hp a 3 = some () := po_is W.1
theorem in_by (W : wIn hp a I Bt) : zgR hp a 3 0 = some (a + 1) := po_R W.1 rfl
theorem in_I (W : wIn hp a I Bt) {k : Nat} (h1 : 1 ≤ k) (h5 : k ≤ 5) : zgI hp a 3 k = some (I k) := by
  refine po_I W.1 ?_
  rcases (show k = 1 ∨ k = 2 ∨ k = 3 ∨ k = 4 ∨ k = 5 by omega) with rfl | rfl | rfl | rfl | rfl <;> rfl
theorem in_rd (W : wIn hp a I Bt) {k : Nat} (hk : k < 900) : zaI hp 1 (a + 1) (Int32.ofNat k) = some (Bt k) := pa_rd W.2 (Or.inl rfl) hk (by decide)
theorem in_fr (W : wIn hp a I Bt) (f : ∀ i, a ≤ i → i < a + 2 → h i = hp i) : wIn h a I Bt := ⟨by rw [f a (by omega) (by omega)]; exact W.1, by rw [f (a + 1) (by omega) (by omega)]; exact W.2⟩
theorem in_setF (W : wIn hp a I Bt) {k : Nat} (h1 : 1 ≤ k) (h5 : k ≤ 5) (v : Int32) : ∃ h, zpV hp a 3 k (.int v) = some h ∧ wIn h a (upd I k v) Bt ∧ zfr hp h a 1 := by
  refine ⟨_, po_V W.1 (by show k < 6; omega) _, ⟨?_, ?_⟩, zfr_up (by omega) (by omega)⟩
  · rw [zup_eq]
    rcases (show k = 1 ∨ k = 2 ∨ k = 3 ∨ k = 4 ∨ k = 5 by omega) with rfl | rfl | rfl | rfl | rfl <;> rfl
  · rw [zup_ne (by omega)]; exact W.2
theorem in_setB (W : wIn hp a I Bt) {k : Nat} (hk : k < 900) (v : Int32) : ∃ h, zsB hp (a + 1) (Int32.ofNat k) v = some h ∧ wIn h a I (upd Bt k v.toInt8.toInt32) ∧ zfr hp h a 2 := by
  refine ⟨_, pa_wrB W.2 hk (by decide) v, ⟨?_, zup_eq _ _ _⟩, zfr_up (by omega) (by omega)⟩
  rw [zup_ne (by omega)]; exact W.1
/-- a byte, as Java has it -/
def sx (v : Int32) : Int32 := v.toInt8.toInt32
theorem sx_sx (v : Int32) : sx (sx v) = sx v := by unfold sx; rw [Int8.toInt8_toInt32]
theorem sx_255 (v : Int32) : sx (v &&& 255) = sx v := by
  unfold sx
  rw [Int32.toInt8_and, show (255 : Int32).toInt8 = -1 by decide, Int8.and_neg_one]
theorem and_255 (v : Int32) : ∃ n, n < 256 ∧ v &&& 255 = Int32.ofNat n := by
  have hlt : (v.toBitVec &&& 255).toNat < 256 := by
    rw [BitVec.toNat_and]
    exact Nat.lt_of_le_of_lt Nat.and_le_right (by decide)
  refine ⟨(v.toBitVec &&& 255).toNat, hlt, ?_⟩
  rw [← Int32.toBitVec_inj, Int32.toBitVec_and]
  refine BitVec.eq_of_toNat_eq ?_
  show _ = (BitVec.ofNat 32 (v.toBitVec &&& 255).toNat).toNat
  rw [BitVec.toNat_ofNat, Nat.mod_eq_of_lt (by omega)]
  rfl
theorem one_byte (W : wIn hp a I Bt) {k : Nat} (hI : I 1 = Int32.ofNat k) (hk : k < 900) (v : Int32) : ∃ h h', zsB hp (a + 1) (Int32.ofNat k) (sx v) = some h ∧ zgI h a 3 1 = some (Int32.ofNat k) ∧ zpV h a 3 1 (.int (Int32.ofNat (k + 1))) = some h' ∧ wIn h' a (upd I 1 (Int32.ofNat (k + 1))) (upd Bt k (sx v)) ∧ zfr hp h' a 2 := by
  obtain ⟨h1, e1, W1, f1⟩ := in_setB W hk (sx v)
  obtain ⟨h2, e2, W2, f2⟩ := in_setF W1 (k := 1) (by decide) (by decide) (Int32.ofNat (k + 1))
  rw [show (sx v).toInt8.toInt32 = sx v from sx_sx v] at W2
  exact ⟨h1, h2, e1, (in_I W1 (k := 1) (by decide) (by decide)).trans (congrArg some hI), e2, W2, zfr_tr f1 (zfr_wide f2 (by omega) (by omega))⟩
def sh (r : Nat) : Int32 := if r = 0 then 24 else if r = 1 then 16 else if r = 2 then 8 else 0
/-- the q-th of the bytes fed -/
def bv (g : Nat → Int32) (q : Nat) : Int32 := (g (q / 4)) >>> (sh (q % 4)) &&& 255
theorem c_append (W : wIn hp a I Bt) {k : Nat} (hI : I 1 = Int32.ofNat k) (hk : k + 4 ≤ 900) (v : Int32) (K : zHp → Option zHp) (m : Nat) : ∃ h I' Bt', l_X3_append_3 K a v (m + 5) 24 hp = K h ∧ wIn h a I' Bt' ∧ I' 1 = Int32.ofNat (k + 4) ∧ (∀ j, Bt' j = if k ≤ j ∧ j < k + 4 then sx (v >>> sh (j - k)) else Bt j) ∧ zfr hp h a 2 := by
  obtain ⟨h1, h1', a1, a2, a3, W1, f1⟩ := one_byte W hI (by omega) (v >>> sh 0)
  obtain ⟨h2, h2', b1, b2, b3, W2, f2⟩ := one_byte W1 (k := k + 1) (by rw [zU, if_pos rfl]) (by omega) (v >>> sh 1)
  obtain ⟨h3, h3', c1, c2, c3, W3, f3⟩ := one_byte W2 (k := k + 1 + 1) (by rw [zU, if_pos rfl]) (by omega) (v >>> sh 2)
  obtain ⟨h4, h4', d1, d2, d3, W4, f4⟩ := one_byte W3 (k := k + 1 + 1 + 1) (by rw [zU, if_pos rfl]) (by omega) (v >>> sh 3)
  have e900 : ∀ k, k < 900 → Int32.ofNat k < 900 := fun k hk => by
    rw [show (900 : Int32) = Int32.ofNat 900 from rfl, pn_lt (by omega) (by decide)]
    exact hk
  have g0 := (in_I W (k := 1) (by decide) (by decide)).trans (congrArg some hI)
  have g1 := in_I W1 (k := 1) (by decide) (by decide)
  have g2 := in_I W2 (k := 1) (by decide) (by decide)
  have g3 := in_I W3 (k := 1) (by decide) (by decide)
  rw [zU, if_pos rfl] at g1 g2 g3
  refine ⟨h4', _, _, ?_, W4, by rw [zU, if_pos rfl], fun j => ?_, zfr_tr (zfr_tr (zfr_tr f1 f2) f3) f4⟩
  · rw [show (24 : Int32) = 24 from rfl, l_X3_append_3_s]
    simp only [b_X3_append_3, show ¬ (24 : Int32) < 0 by decide, if_false, g0, e900 k (by omega), if_true, in_by W, show zsB hp (a + 1) (Int32.ofNat k) ((v >>> ((24 : Int32) &&& 31)).toInt8.toInt32) = some h1 from a1, a2, pn_succ, a3, Option.bind_some, zlet, show (24 : Int32) + -8 = 16 by decide]
    rw [l_X3_append_3_s]
    simp only [b_X3_append_3, show ¬ (16 : Int32) < 0 by decide, if_false, g1, e900 (k + 1) (by omega), if_true, in_by W1, show zsB h1' (a + 1) (Int32.ofNat (k + 1)) ((v >>> ((16 : Int32) &&& 31)).toInt8.toInt32) = some h2 from b1, b2, pn_succ, b3, Option.bind_some, zlet, show (16 : Int32) + -8 = 8 by decide]
    rw [l_X3_append_3_s]
    simp only [b_X3_append_3, show ¬ (8 : Int32) < 0 by decide, if_false, g2, e900 (k + 1 + 1) (by omega), if_true, in_by W2, show zsB h2' (a + 1) (Int32.ofNat (k + 1 + 1)) ((v >>> ((8 : Int32) &&& 31)).toInt8.toInt32) = some h3 from c1, c2, pn_succ, c3, Option.bind_some, zlet, show (8 : Int32) + -8 = 0 by decide]
    rw [l_X3_append_3_s]
    simp only [b_X3_append_3, show ¬ (0 : Int32) < 0 by decide, if_false, g3, e900 (k + 1 + 1 + 1) (by omega), if_true, in_by W3, show zsB h3' (a + 1) (Int32.ofNat (k + 1 + 1 + 1)) ((v >>> ((0 : Int32) &&& 31)).toInt8.toInt32) = some h4 from d1, d2, pn_succ, d3, Option.bind_some, zlet, show (0 : Int32) + -8 = -8 by decide]
    rw [l_X3_append_3_s]
    simp only [b_X3_append_3, show (-8 : Int32) < 0 by decide, if_true]
  · rw [zU, zU, zU, zU]
    by_cases q3 : j = k + 1 + 1 + 1
    · rw [if_pos q3, if_pos (by omega), show j - k = 3 by omega]
    · rw [if_neg q3]
      by_cases q2 : j = k + 1 + 1
      · rw [if_pos q2, if_pos (by omega), show j - k = 2 by omega]
      · rw [if_neg q2]
        by_cases q1 : j = k + 1
        · rw [if_pos q1, if_pos (by omega), show j - k = 1 by omega]
        · rw [if_neg q1]
          by_cases q0 : j = k
          · rw [if_pos q0, if_pos (by omega), show j - k = 0 by omega]
          · rw [if_neg q0, if_neg (by omega)]
theorem c_app (W : wIn hp a I Bt) {k : Nat} (hI : I 1 = Int32.ofNat k) (hk : k + 4 ≤ 900) (v : Int32) : ∃ h I' Bt', f_X3_append a v hp = some h ∧ wIn h a I' Bt' ∧ I' 1 = Int32.ofNat (k + 4) ∧ (∀ j, Bt' j = if k ≤ j ∧ j < k + 4 then sx (v >>> sh (j - k)) else Bt j) ∧ zfr hp h a 2 := by
  obtain ⟨h, I', Bt', e, r⟩ := c_append W hI hk v (fun h9 => some h9) 999995
  refine ⟨h, I', Bt', ?_, r⟩
  simp only [f_X3_append, in_is W, Option.bind_some]
  exact e
def gv (y1 y2 y3 y4 y5 : Int32) (q : Nat) : Int32 := if q = 0 then y1 else if q = 1 then y2 else if q = 2 then y3 else if q = 3 then y4 else y5
/-- the class's loader -/
def wLd (hp : zHp) (c d : Nat) (sg ee : Int32) : Prop := hp (c + 1) = some (.inr (4, [.ref (c + 2), .ref d, .int sg, .int ee]))
theorem C_feed {ld hl hi sb d : Nat} {ea sg ee : Int32} (hc : hp c = some (.inr (7, [.ref (c + 1), .ref hl, .ref hi, .ref sb, .int ea]))) (L : wLd hp c d sg ee) (W : wIn hp (c + 2) I Bt) (hI : I 1 = Int32.ofNat fl) (hk : fl + 20 ≤ 900) (y1 y2 y3 y4 y5 : Int32) : ∃ h I' Bt', f_X7_feed c y1 y2 y3 y4 y5 hp = some (Int32.ofNat (fl + 20), h) ∧ wIn h (c + 2) I' Bt' ∧ I' 1 = Int32.ofNat (fl + 20) ∧ (∀ j, Bt' j = if fl ≤ j ∧ j < fl + 20 then sx (bv (gv y1 y2 y3 y4 y5) (j - fl)) else Bt j) ∧ zfr hp h (c + 2) 2 := by
  obtain ⟨h1, I1, B1, e1, W1, i1, g1, f1⟩ := c_app W hI (by omega) y1
  obtain ⟨h2, I2, B2, e2, W2, i2, g2, f2⟩ := c_app W1 i1 (by omega) y2
  obtain ⟨h3, I3, B3, e3, W3, i3, g3, f3⟩ := c_app W2 i2 (by omega) y3
  obtain ⟨h4, I4, B4, e4, W4, i4, g4, f4⟩ := c_app W3 i3 (by omega) y4
  obtain ⟨h5, I5, B5, e5, W5, i5, g5, f5⟩ := c_app W4 i4 (by omega) y5
  refine ⟨h5, I5, B5, ?_, W5, i5, fun j => ?_, zfr_tr (zfr_tr (zfr_tr (zfr_tr f1 f2) f3) f4) f5⟩
  · have n900 : ¬ (900 : Int32) < Int32.ofNat fl + 20 := by
      rw [show Int32.ofNat fl + 20 = Int32.ofNat (fl + 20) from ixa fl 20, show (900 : Int32) = Int32.ofNat 900 from rfl, pn_lt (by decide) (by omega)]
      omega
    simp only [f_X7_feed, po_is hc, show zgR hp c 7 0 = some (c + 1) from po_R hc rfl, show zgR hp (c + 1) 4 0 = some (c + 2) from po_R L rfl, show zgI hp (c + 2) 3 1 = some (Int32.ofNat fl) from (in_I W (by decide) (by decide)).trans (congrArg some hI), n900, if_false, e1, e2, e3, e4, e5, show zgI h5 (c + 2) 3 1 = some (Int32.ofNat (fl + 20)) from (in_I W5 (by decide) (by decide)).trans (congrArg some i5), Option.bind_some]
  · have key : ∀ (i q : Nat) (v : Int32), i < 4 → gv y1 y2 y3 y4 y5 q = v → sx (v >>> sh i) = sx (bv (gv y1 y2 y3 y4 y5) (4 * q + i)) := fun i q v hi hv => by
      unfold bv
      rw [sx_255, show (4 * q + i) / 4 = q by omega, show (4 * q + i) % 4 = i by omega, hv]
    rw [g5]
    by_cases q5 : fl + 4 + 4 + 4 + 4 ≤ j ∧ j < fl + 4 + 4 + 4 + 4 + 4
    · rw [if_pos q5, if_pos (by omega), key (j - (fl + 4 + 4 + 4 + 4)) 4 y5 (by omega) rfl]
      congr 2
      omega
    · rw [if_neg q5, g4]
      by_cases q4 : fl + 4 + 4 + 4 ≤ j ∧ j < fl + 4 + 4 + 4 + 4
      · rw [if_pos q4, if_pos (by omega), key (j - (fl + 4 + 4 + 4)) 3 y4 (by omega) rfl]
        congr 2
        omega
      · rw [if_neg q4, g3]
        by_cases q3 : fl + 4 + 4 ≤ j ∧ j < fl + 4 + 4 + 4
        · rw [if_pos q3, if_pos (by omega), key (j - (fl + 4 + 4)) 2 y3 (by omega) rfl]
          congr 2
          omega
        · rw [if_neg q3, g2]
          by_cases q2 : fl + 4 ≤ j ∧ j < fl + 4 + 4
          · rw [if_pos q2, if_pos (by omega), key (j - (fl + 4)) 1 y2 (by omega) rfl]
            congr 2
            omega
          · rw [if_neg q2, g1]
            by_cases q1 : fl ≤ j ∧ j < fl + 4
            · rw [if_pos q1, if_pos (by omega), key (j - fl) 0 y1 (by omega) rfl]
              congr 2
              omega
            · rw [if_neg q1, if_neg (by omega)]
theorem C_feedFull {ld hl hi sb d : Nat} {ea sg ee : Int32} (hc : hp c = some (.inr (7, [.ref (c + 1), .ref hl, .ref hi, .ref sb, .int ea]))) (L : wLd hp c d sg ee) (W : wIn hp (c + 2) I Bt) (hI : I 1 = Int32.ofNat fl) (hk : fl ≤ 900) (hk2 : ¬ fl + 20 ≤ 900) (y1 y2 y3 y4 y5 : Int32) : f_X7_feed c y1 y2 y3 y4 y5 hp = some (-5, hp) := by
  have n900 : (900 : Int32) < Int32.ofNat fl + 20 := by
    rw [show Int32.ofNat fl + 20 = Int32.ofNat (fl + 20) from ixa fl 20, show (900 : Int32) = Int32.ofNat 900 from rfl, pn_lt (by decide) (by omega)]
    omega
  simp only [f_X7_feed, po_is hc, show zgR hp c 7 0 = some (c + 1) from po_R hc rfl, show zgR hp (c + 1) 4 0 = some (c + 2) from po_R L rfl, show zgI hp (c + 2) 3 1 = some (Int32.ofNat fl) from (in_I W (by decide) (by decide)).trans (congrArg some hI), n900, if_true, Option.bind_some]
/-! the reference -/
/-- the bytes fed, in both -/
def inB (fl : Nat) (Bt P : Nat → Int32) : Prop := ∀ j, j < fl → Bt j = sx (P j) ∧ ∃ n, n < 256 ∧ P j = Int32.ofNat n
theorem inB_feed {Bt' P P' : Nat → Int32} {g : Nat → Int32} (b : inB fl Bt P) (h1 : ∀ j, Bt' j = if fl ≤ j ∧ j < fl + 20 then sx (bv g (j - fl)) else Bt j) (h2 : ∀ j, P' j = if fl ≤ j ∧ j < fl + 20 then bv g (j - fl) else P j) : inB (fl + 20) Bt' P' := fun j hj => by
  rw [h1, h2]
  by_cases q : fl ≤ j ∧ j < fl + 20
  · rw [if_pos q, if_pos q]
    exact ⟨rfl, and_255 _⟩
  · rw [if_neg q, if_neg q]
    exact b j (by omega)
end P48

