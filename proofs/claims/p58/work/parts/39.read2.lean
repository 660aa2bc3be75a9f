/-! PURE: public readers, the rest -/
section P39
variable {hp : zHp} {c ld hl hi sb p q x a b : Nat} {ea : Int32} {T N F : Nat → Int32} {S : Nat → Nat → Int32}
def sWs (T : Nat → Int32) (r : Int32) : Int32 := sOr (fun w => sWin T w r) (sN T 2)
def sRt (T : Nat → Int32) (b : Nat) : Option Nat := zff (fun t => sSame T (sFi T t b) (sPap T b)) (sN T 4) 0
theorem sSame_any (T : Nat → Int32) (f g : Nat → Int32) : sSame T f g = !zany (fun k => !decide (f k = g k)) (sPi T) := by
  unfold sSame zany
  cases zff (fun k => !decide (f k = g k)) (sPi T) 0 <;> rfl
def sCnA (T : Nat → Int32) (r : Int32) : Int32 := sCnt (fun w => sWin T w r) (sN T 2)
theorem sCnt_small (f : Nat → Bool) : ∀ n, ∃ r, r ≤ n ∧ sCnt f n = Int32.ofNat r ∧ (r = 0 ↔ zany f n = false)
  | 0 => ⟨0, by omega, rfl, by constructor <;> intro _ <;> rfl⟩
  | n + 1 => by
    obtain ⟨r, h1, h2, h3⟩ := sCnt_small f n
    show ∃ r, r ≤ n + 1 ∧ sCnt f n + (if f n = true then 1 else 0) = Int32.ofNat r ∧ (r = 0 ↔ zany f (n + 1) = false)
    rw [zany_s, h2]
    cases f n with
    | true => exact ⟨r + 1, by omega, by rw [if_pos rfl, pn_succ], by simp⟩
    | false => exact ⟨r, by omega, by rw [if_neg (by decide), Int32.add_zero], by simpa using h3⟩
/-- a region is declared: some ward lies in it, and none that isn't declared -/
def sRD (T N : Nat → Int32) (r : Int32) : Bool := decide (0 < sCnA T r) && decide (sUnd T N r = 0)
theorem sRD_eq {T N : Nat → Int32} (I : sI T N) (r : Int32) : sRD T N r = (decide (0 < sCnt (fun w => sWin T w r && (sDecl N (Int32.ofNat w) == true)) (sN T 2)) && decide (sUnd T N r = 0)) := by
  have hd := sI_bd I
  unfold sRD
  by_cases h0 : sUnd T N r = 0
  · rw [decide_eq_true h0, Bool.and_true, Bool.and_true]
    refine congrArg (fun z : Int32 => decide (0 < z)) ?_
    unfold sCnA
    rw [sCnt_eq, sCnt_eq]
    refine zsum_congr (fun w hw => ?_)
    obtain ⟨u, h1, h2, h3⟩ := sCnt_small (fun w => sWin T w r && !sDecl N (Int32.ofNat w)) (sN T 2)
    have h4 : sUnd T N r = Int32.ofNat u := h2
    rw [h4, pn_eq0 (by omega)] at h0
    have h5 := h3.mp h0
    cases hw1 : sWin T w r with
    | false => rfl
    | true =>
      cases hw2 : sDecl N (Int32.ofNat w) with
      | true => rfl
      | false =>
        have : zany (fun w => sWin T w r && !sDecl N (Int32.ofNat w)) (sN T 2) = true := zany_iff.mpr ⟨w, hw, by simp [hw1, hw2]⟩
        rw [h5] at this
        cases this
  · rw [decide_eq_false h0, Bool.and_false, Bool.and_false]
/-! those that don't throw -/
theorem wm_now0 (h : wM hp x S) : zaI hp 0 (x + 4) 0 = some (S 4 0) := wm_now h (k := 0) (by decide)
theorem wm_now1 (h : wM hp x S) : zaI hp 0 (x + 4) 1 = some (S 4 1) := wm_now h (k := 1) (by decide)
theorem wm_now2 (h : wM hp x S) : zaI hp 0 (x + 4) 2 = some (S 4 2) := wm_now h (k := 2) (by decide)
theorem wm_now9 (h : wM hp x S) (I : sI (S 2) (S 4)) : zaI hp 0 (x + 4) 9 = some (Int32.ofNat (sD (S 4))) := (wm_now h (k := 9) (by decide)).trans (congrArg some (sI_d I).1)
end P39

