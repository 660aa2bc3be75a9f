/-! PURE: the law's change keeps the world -/
section P88
variable {hp h hp' : zHp} {x a a' q b u c p hl t k n s r sz mc ms z uc us w : Nat} {ea : Int32} {T N N' R : Nat → Int32} {σ : Nat → Nat} {Ps : Nat → Nat → Int32}
theorem and_nn (x : Int32) : ¬ (x &&& 2147483647) < 0 := by
  intro q
  have h1 := Int32.lt_iff_toInt_lt.mp q
  have h2 : (x &&& 2147483647).toBitVec.msb = false := by
    rw [Int32.toBitVec_and, BitVec.msb_and, show (2147483647 : Int32).toBitVec.msb = false by decide, Bool.and_false]
  have h3 : (x &&& 2147483647).toInt = ((x &&& 2147483647).toBitVec.toNat : Int) := by
    show BitVec.toInt _ = _
    rw [BitVec.toInt_eq_msb_cond, h2]
    rfl
  have h4 : (0 : Int32).toInt = 0 := rfl
  omega
theorem in_n {m : Nat} (hm : 0 < m) (hm2 : m < 2147483648) (x : Int32) : ∃ k, k < m ∧ ∀ hp, f_L_in x (Int32.ofNat m) hp = some (Int32.ofNat k) := by
  obtain ⟨n, hn, hn2⟩ := pn_pos (and_nn x)
  refine ⟨n % m, Nat.mod_lt _ hm, fun hp => ?_⟩
  unfold f_L_in
  rw [hn, zrem_n hn2 hm hm2]
  rfl
/-- what a change leaves -/
def zCH (m : Option zHp) (hp : zHp) (c p : Nat) (ea : Int32) (T : Nat → Int32) : Prop := ∃ (h : zHp) (N' : Nat → Int32) (σ' : Nat → Nat) (u' : Nat) (Ps' : Nat → Nat → Int32), m = some h ∧ zfr hp h (c + 61) 574 ∧ wW h c p ea T N' σ' u' Ps' ∧ sG T N'
theorem zCH_of {fc : zHp → Option (Int32 × zHp)} (X : zPC fc hp c p ea T N) : zCH (zb2 (fc hp) fun _ h => some h) hp c p ea T := by
  obtain ⟨v, h, N', σ', u', Ps', e, f, W, G⟩ := X
  exact ⟨h, N', σ', u', Ps', by rw [e]; rfl, f, W, G⟩
theorem zCH_id (W : wW hp c p ea T N σ u Ps) (G : sG T N) : zCH (some hp) hp c p ea T := ⟨hp, N, σ, u, Ps, rfl, zfr_rf, W, G⟩
theorem zCH_ite {q : Prop} [Decidable q] {m m' : Option zHp} (A : zCH m hp c p ea T) (B : zCH m' hp c p ea T) : zCH (if q then m else m') hp c p ea T := by
  split
  · exact A
  · exact B
theorem L_changes (W : wW hp c p ea T N σ u Ps) (G : sG T N) (h3 : 0 < sN T 3) (h4 : 0 < sN T 4) (x : Int32) : zCH (f_L_changes c x hp) hp c p ea T := by
  have I := hh_I W.1.2
  have hd := sI_bd I
  have dv : ∀ (y d : Int32), d ≠ 0 → zdiv y d = some (y / d) := fun y d h => if_neg h
  obtain ⟨b, -, eb⟩ := in_n (m := sN T 3) h3 (by omega) (x / 16)
  obtain ⟨t, -, et⟩ := in_n (m := sN T 4) h4 (by omega) (x / 256)
  obtain ⟨k, -, ek⟩ := in_n (m := 16) (by decide) (by decide) x
  obtain ⟨k1, -, e1⟩ := in_n (m := 2) (by decide) (by decide) (x / 256)
  obtain ⟨k2, -, e2⟩ := in_n (m := 900) (by decide) (by decide) (x / 1024)
  obtain ⟨k3, -, e3⟩ := in_n (m := 2) (by decide) (by decide) (x / 16)
  obtain ⟨k4, -, e4⟩ := in_n (m := 51) (by decide) (by decide) (x / 64)
  obtain ⟨k5, -, e5⟩ := in_n (m := 5) (by decide) (by decide) (x / 64)
  have ek : f_L_in x 16 hp = some (Int32.ofNat k) := ek hp
  have e1 : f_L_in (x / 256) 2 hp = some (Int32.ofNat k1) := e1 hp
  have e2 : f_L_in (x / 1024) 900 hp = some (Int32.ofNat k2) := e2 hp
  have e3 : f_L_in (x / 16) 2 hp = some (Int32.ofNat k3) := e3 hp
  have e4 : f_L_in (x / 64) 51 hp = some (Int32.ofNat k4) := e4 hp
  have e5 : f_L_in (x / 64) 5 hp = some (Int32.ofNat k5) := e5 hp
  have jB : zCH (j_L_changes_96 c (Int32.ofNat b) hp) hp c p ea T := by
    unfold j_L_changes_96
    exact zCH_of (e_bring W G _)
  have jO : zCH (j_L_changes_105 c (Int32.ofNat b) (Int32.ofNat t) hp) hp c p ea T := by
    unfold j_L_changes_105
    exact zCH_of (e_open W G _ _)
  have jC : zCH (j_L_changes_115 c (Int32.ofNat t) hp) hp c p ea T := by
    unfold j_L_changes_115
    exact zCH_of (e_countBox W G _)
  unfold f_L_changes
  rw [dv x 16 (by decide), Option.bind_some, g_count3 W.1, Option.bind_some, eb, Option.bind_some, dv x 256 (by decide), Option.bind_some, g_count4 W.1, Option.bind_some, et, Option.bind_some, ek, Option.bind_some]
  refine zCH_ite jB (zCH_ite jB (zCH_ite jB (zCH_ite jO (zCH_ite jO (zCH_ite jC (zCH_ite jC (zCH_ite (zCH_of (e_seal W G _)) (zCH_ite ?_ (zCH_ite (zCH_of (e_accept W G _)) (zCH_ite (zCH_of (e_declare W G)) (zCH_ite ?_ (zCH_of (e_work W G)))))))))))))
  · rw [Option.bind_some, e1, Option.bind_some]
    refine zCH_ite ?_ (zCH_id W G)
    rw [dv x 1024 (by decide), Option.bind_some, e2, Option.bind_some]
    exact zCH_of (e_tamper W G _ _)
  · rw [Option.bind_some, e3, Option.bind_some]
    refine zCH_ite ?_ ?_
    · rw [dv x 64 (by decide), Option.bind_some, e4, Option.bind_some]
      exact zCH_of (e_setSetting W G _ _)
    · rw [dv x 64 (by decide), Option.bind_some, e5, Option.bind_some]
      exact zCH_of (e_setSetting W G _ _)
end P88
