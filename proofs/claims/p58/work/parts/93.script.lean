/-! PURE: what the law reads out of its script -/
section P93
variable {h : zHp} {s n k b p R V : Nat} {xs : Nat → Int32} {D : Nat → Nat → Nat → Nat}
def sc (h : zHp) (s n : Nat) (xs : Nat → Int32) : Prop := h s = some (.inl (10, n, .inl xs))
def cv (n : Nat) (xs : Nat → Int32) (k : Nat) : Int32 := if k < n then xs k else 0
theorem cell_ok (hn : n < 2147483648) (hs : sc h s n xs) (hk : k < 2147483648) : f_L_cell s (Int32.ofNat k) h = some (cv n xs k) := by
  have e : zlen h 0 s = some (Int32.ofNat n) := by
    unfold zlen
    rw [show h s = some (.inl (10, n, .inl xs)) from hs]
    exact if_pos (Or.inr rfl)
  unfold f_L_cell cv
  rw [e, Option.bind_some]
  by_cases q : k < n
  · rw [if_pos (by rw [pn_lt hk hn]; exact q), if_pos q, pa_rd hs (Or.inr rfl) q hn]
    rfl
  · rw [if_neg (by rw [pn_lt hk hn]; exact q), if_neg q]
theorem dv {x d : Int32} (h : d ≠ 0) : zdiv x d = some (x / d) := if_neg h
theorem n_parties (hn : n < 2147483648) : ∃ v, (1 ≤ v ∧ v ≤ 4) ∧ ∀ h, sc h s n xs → f_L_parties s h = some (Int32.ofNat v) := by
  obtain ⟨k, hk, e⟩ := in_n (m := 4) (by decide) (by decide) (cv n xs 0)
  refine ⟨1 + k, by omega, fun h hs => ?_⟩
  unfold f_L_parties
  rw [show f_L_cell s 0 h = some (cv n xs 0) from cell_ok hn hs (k := 0) (by decide), Option.bind_some, show f_L_in (cv n xs 0) 4 h = some (Int32.ofNat k) from e h, Option.bind_some]
  exact congrArg some (ixa 1 k)
theorem n_regions (hn : n < 2147483648) : ∃ v, (1 ≤ v ∧ v ≤ 4) ∧ ∀ h, sc h s n xs → f_L_regions s h = some (Int32.ofNat v) := by
  obtain ⟨k, hk, e⟩ := in_n (m := 4) (by decide) (by decide) (cv n xs 0 / 4)
  refine ⟨1 + k, by omega, fun h hs => ?_⟩
  unfold f_L_regions
  rw [show f_L_cell s 0 h = some (cv n xs 0) from cell_ok hn hs (k := 0) (by decide), Option.bind_some, dv (by decide), Option.bind_some, show f_L_in (cv n xs 0 / 4) 4 h = some (Int32.ofNat k) from e h, Option.bind_some]
  exact congrArg some (ixa 1 k)
theorem n_wards (hn : n < 2147483648) : ∃ v, (1 ≤ v ∧ v ≤ 4) ∧ ∀ h, sc h s n xs → f_L_wards s h = some (Int32.ofNat v) := by
  obtain ⟨k, hk, e⟩ := in_n (m := 4) (by decide) (by decide) (cv n xs 0 / 16)
  refine ⟨1 + k, by omega, fun h hs => ?_⟩
  unfold f_L_wards
  rw [show f_L_cell s 0 h = some (cv n xs 0) from cell_ok hn hs (k := 0) (by decide), Option.bind_some, dv (by decide), Option.bind_some, show f_L_in (cv n xs 0 / 16) 4 h = some (Int32.ofNat k) from e h, Option.bind_some]
  exact congrArg some (ixa 1 k)
theorem n_boxes (hn : n < 2147483648) : ∃ v, (1 ≤ v ∧ v ≤ 7) ∧ ∀ h, sc h s n xs → f_L_boxes s h = some (Int32.ofNat v) := by
  obtain ⟨k, hk, e⟩ := in_n (m := 7) (by decide) (by decide) (cv n xs 0 / 64)
  refine ⟨1 + k, by omega, fun h hs => ?_⟩
  unfold f_L_boxes
  rw [show f_L_cell s 0 h = some (cv n xs 0) from cell_ok hn hs (k := 0) (by decide), Option.bind_some, dv (by decide), Option.bind_some, show f_L_in (cv n xs 0 / 64) 7 h = some (Int32.ofNat k) from e h, Option.bind_some]
  exact congrArg some (ixa 1 k)
theorem n_tables (hn : n < 2147483648) : ∃ v, (1 ≤ v ∧ v ≤ 4) ∧ ∀ h, sc h s n xs → f_L_tables s h = some (Int32.ofNat v) := by
  obtain ⟨k, hk, e⟩ := in_n (m := 4) (by decide) (by decide) (cv n xs 0 / 512)
  refine ⟨1 + k, by omega, fun h hs => ?_⟩
  unfold f_L_tables
  rw [show f_L_cell s 0 h = some (cv n xs 0) from cell_ok hn hs (k := 0) (by decide), Option.bind_some, dv (by decide), Option.bind_some, show f_L_in (cv n xs 0 / 512) 4 h = some (Int32.ofNat k) from e h, Option.bind_some]
  exact congrArg some (ixa 1 k)
theorem n_set0 (hn : n < 2147483648) : ∃ v, v ≤ 50 ∧ ∀ h, sc h s n xs → f_L_setting s 0 h = some (Int32.ofNat v) := by
  obtain ⟨k, hk, e⟩ := in_n (m := 51) (by decide) (by decide) (cv n xs 10 >>> (((7 : Int32) * 0) &&& 31))
  refine ⟨k, by omega, fun h hs => ?_⟩
  unfold f_L_setting j_L_setting_21
  rw [show f_L_cell s 10 h = some (cv n xs 10) from cell_ok hn hs (k := 10) (by decide), Option.bind_some, if_pos rfl, show f_L_in (cv n xs 10 >>> (((7 : Int32) * 0) &&& 31)) 51 h = some (Int32.ofNat k) from e h, Option.bind_some]
theorem n_set1 (hn : n < 2147483648) : ∃ v, v ≤ 9 ∧ ∀ h, sc h s n xs → f_L_setting s 1 h = some (Int32.ofNat v) := by
  obtain ⟨k, hk, e⟩ := in_n (m := 4) (by decide) (by decide) (cv n xs 10 >>> (((7 : Int32) * 1) &&& 31))
  refine ⟨k, by omega, fun h hs => ?_⟩
  unfold f_L_setting j_L_setting_21
  rw [show f_L_cell s 10 h = some (cv n xs 10) from cell_ok hn hs (k := 10) (by decide), Option.bind_some, if_neg (by decide), show f_L_in (cv n xs 10 >>> (((7 : Int32) * 1) &&& 31)) 4 h = some (Int32.ofNat k) from e h, Option.bind_some]
theorem n_around (hn : n < 2147483648) (r : Nat) : ∃ v, v ≤ r ∧ (r < 8 → ∀ h, sc h s n xs → f_L_around s (Int32.ofNat r) h = some (if v = 0 then -1 else Int32.ofNat (v - 1))) := by
  by_cases h0 : r = 0
  · subst h0
    refine ⟨0, Nat.le_refl _, fun _ h hs => ?_⟩
    unfold f_L_around
    rw [if_pos (show Int32.ofNat 0 = 0 from rfl), if_pos rfl]
  · by_cases h8 : r < 8
    · obtain ⟨k, hk, e⟩ := in_n (m := r + 1) (by omega) (by omega) (cv n xs 1 >>> (((3 : Int32) * Int32.ofNat r) &&& 31))
      refine ⟨k, by omega, fun _ h hs => ?_⟩
      unfold f_L_around
      rw [if_neg (by rw [pn_eq0 (by omega)]; exact h0), show f_L_cell s 1 h = some (cv n xs 1) from cell_ok hn hs (k := 1) (by decide), Option.bind_some, pn_succ, e h, Option.bind_some]
      by_cases k0 : k = 0
      · subst k0
        rw [if_pos rfl]
        rfl
      · obtain ⟨j, rfl⟩ : ∃ j, k = j + 1 := ⟨k - 1, by omega⟩
        rw [if_neg k0, is1]
        rfl
    · exact ⟨0, Nat.zero_le _, fun h => absurd h h8⟩
theorem n_regionOf (hn : n < 2147483648) (hR : 1 ≤ R ∧ R ≤ 4) (eR : ∀ h, sc h s n xs → f_L_regions s h = some (Int32.ofNat R)) (w : Nat) : ∃ v, v < R ∧ ∀ h, sc h s n xs → f_L_regionOf s (Int32.ofNat w) h = some (Int32.ofNat v) := by
  obtain ⟨k, hk, e⟩ := in_n (m := R) (by omega) (by omega) (cv n xs 1 >>> ((((2 : Int32) * Int32.ofNat w) + (7 : Int32)) &&& 31))
  refine ⟨k, hk, fun h hs => ?_⟩
  unfold f_L_regionOf
  rw [show f_L_cell s 1 h = some (cv n xs 1) from cell_ok hn hs (k := 1) (by decide), Option.bind_some, eR h hs, Option.bind_some, e h, Option.bind_some]
theorem n_wardOf (hn : n < 2147483648) (hR : 1 ≤ R ∧ R ≤ 4) (eR : ∀ h, sc h s n xs → f_L_wards s h = some (Int32.ofNat R)) (w : Nat) : ∃ v, v < R ∧ ∀ h, sc h s n xs → f_L_wardOf s (Int32.ofNat w) h = some (Int32.ofNat v) := by
  obtain ⟨k, hk, e⟩ := in_n (m := R) (by omega) (by omega) (cv n xs 2 >>> (((2 : Int32) * Int32.ofNat w) &&& 31))
  refine ⟨k, hk, fun h hs => ?_⟩
  unfold f_L_wardOf
  rw [show f_L_cell s 2 h = some (cv n xs 2) from cell_ok hn hs (k := 2) (by decide), Option.bind_some, eR h hs, Option.bind_some, e h, Option.bind_some]
theorem n_paper (hn : n < 2147483648) (b p : Nat) : ∃ v, v ≤ 39 ∧ (b < 8 → ∀ h, sc h s n xs → f_L_paper s (Int32.ofNat b) (Int32.ofNat p) h = some (Int32.ofNat v)) := by
  by_cases h8 : b < 8
  · obtain ⟨k, hk, e⟩ := in_n (m := 40) (by decide) (by decide) (cv n xs (4 + b % 4) >>> ((((2 : Int32) * Int32.ofNat p) + Int32.ofNat b) &&& 31))
    refine ⟨k, by omega, fun _ h hs => ?_⟩
    have hb := Nat.mod_lt b (show 0 < 4 by decide)
    unfold f_L_paper
    rw [show zrem (Int32.ofNat b) 4 = some (Int32.ofNat (b % 4)) from zrem_n (by omega) (by decide) (by decide), Option.bind_some, show (4 : Int32) + Int32.ofNat (b % 4) = Int32.ofNat (4 + b % 4) from ixa 4 _, cell_ok hn hs (by omega), Option.bind_some, show f_L_in (cv n xs (4 + b % 4) >>> ((((2 : Int32) * Int32.ofNat p) + Int32.ofNat b) &&& 31)) 40 h = some (Int32.ofNat k) from e h, Option.bind_some]
  · exact ⟨0, Nat.zero_le _, fun h => absurd h h8⟩
theorem n_seal (hn : n < 2147483648) (b : Nat) : ∃ v, (1 ≤ v ∧ v ≤ 999) ∧ (b < 8 → ∀ h, sc h s n xs → f_L_seal s (Int32.ofNat b) h = some (Int32.ofNat v)) := by
  by_cases h8 : b < 8
  · obtain ⟨k, hk, e⟩ := in_n (m := 900) (by decide) (by decide) (cv n xs 9 / (1 + Int32.ofNat b))
    refine ⟨1 + k, by omega, fun _ h hs => ?_⟩
    unfold f_L_seal
    rw [show f_L_cell s 9 h = some (cv n xs 9) from cell_ok hn hs (k := 9) (by decide), Option.bind_some, dv (by rw [show (1 : Int32) + Int32.ofNat b = Int32.ofNat (1 + b) from ixa 1 b]; intro q; rw [pn_eq0 (by omega)] at q; omega), Option.bind_some, show f_L_in (cv n xs 9 / (1 + Int32.ofNat b)) 900 h = some (Int32.ofNat k) from e h, Option.bind_some]
    exact congrArg some (ixa 1 k)
  · exact ⟨1, by omega, fun h => absurd h h8⟩
theorem n_slip (hn : n < 2147483648) (t : Nat) : ∃ v, v ≤ 99 ∧ ∀ h, sc h s n xs → f_L_slip s (Int32.ofNat t) h = some (Int32.ofNat v) := by
  obtain ⟨k, hk, e⟩ := in_n (m := 3) (by decide) (by decide) (cv n xs 3 >>> (((5 : Int32) * Int32.ofNat t) &&& 31))
  obtain ⟨k2, hk2, e2⟩ := in_n (m := 25) (by decide) (by decide) (cv n xs 3 >>> ((((5 : Int32) * Int32.ofNat t) + (2 : Int32)) &&& 31))
  have c3 : ∀ h, sc h s n xs → f_L_cell s 3 h = some (cv n xs 3) := fun h hs => cell_ok hn hs (k := 3) (by decide)
  by_cases k0 : k = 0
  · refine ⟨0, Nat.zero_le _, fun h hs => ?_⟩
    unfold f_L_slip
    rw [c3 h hs, Option.bind_some, show f_L_in (cv n xs 3 >>> (((5 : Int32) * Int32.ofNat t) &&& 31)) 3 h = some (Int32.ofNat k) from e h, Option.bind_some, if_pos (by rw [k0]; rfl)]
    rfl
  · refine ⟨k2, by omega, fun h hs => ?_⟩
    unfold f_L_slip
    rw [c3 h hs, Option.bind_some, show f_L_in (cv n xs 3 >>> (((5 : Int32) * Int32.ofNat t) &&& 31)) 3 h = some (Int32.ofNat k) from e h, Option.bind_some, if_neg (by rw [pn_eq0 (by omega)]; exact k0), Option.bind_some, show f_L_in (cv n xs 3 >>> ((((5 : Int32) * Int32.ofNat t) + (2 : Int32)) &&& 31)) 25 h = some (Int32.ofNat k2) from e2 h, Option.bind_some]
def nsum (f : Nat → Nat) : Nat → Nat
  | 0 => 0
  | k + 1 => nsum f k + f k
theorem nsum_le {f : Nat → Nat} {B : Nat} (hf : ∀ k, f k ≤ B) : ∀ k, nsum f k ≤ k * B
  | 0 => Nat.zero_le _
  | k + 1 => by
    have h1 := nsum_le hf k
    have h2 := hf k
    show nsum f k + f k ≤ (k + 1) * B
    rw [Nat.add_mul, Nat.one_mul]
    omega
theorem n_issued (hn : n < 2147483648) (hV : 1 ≤ V ∧ V ≤ 4) (eV : ∀ h, sc h s n xs → f_L_parties s h = some (Int32.ofNat V)) (b : Nat) {f : Nat → Nat} (hf : ∀ p, f p ≤ 39) (ef : b < 8 → ∀ p h, sc h s n xs → f_L_paper s (Int32.ofNat b) (Int32.ofNat p) h = some (Int32.ofNat (f p))) : ∃ v, v ≤ 999 ∧ (b < 8 → ∀ h, sc h s n xs → f_L_issued s (Int32.ofNat b) h = some (Int32.ofNat v)) := by
  by_cases h8 : b < 8
  · have ef := ef h8
    obtain ⟨k, hk, e⟩ := in_n (m := 5) (by decide) (by decide) (cv n xs 8 >>> (((2 : Int32) * Int32.ofNat b) &&& 31))
    have hS := nsum_le hf (V + 1)
    have pa : ∀ h, sc h s n xs → f_L_papers s (Int32.ofNat b) h = some (Int32.ofNat (nsum f (V + 1))) := fun h hs => by
      unfold f_L_papers
      refine zFAe (n := V + 1) (fun i => Int32.ofNat (nsum f i)) _ rfl (by omega) (fun m i hi => ?_) (fun m => ?_)
      · have e0 : ¬ V < i := by omega
        simp (disch := omega) only [l_L_papers_4_s, b_L_papers_4, eV h hs, Option.bind_some, pn_lt, e0, if_false, ef i h hs, zlet, ixa, pn_succ]
        rfl
      · have e0 : V < V + 1 := by omega
        simp (disch := omega) only [l_L_papers_4_s, b_L_papers_4, eV h hs, Option.bind_some, pn_lt, e0, if_true]
    refine ⟨nsum f (V + 1) + k / 2 - 1, by omega, fun _ h hs => ?_⟩
    unfold f_L_issued
    rw [pa h hs, Option.bind_some, show f_L_cell s 8 h = some (cv n xs 8) from cell_ok hn hs (k := 8) (by decide), Option.bind_some, show f_L_in (cv n xs 8 >>> (((2 : Int32) * Int32.ofNat b) &&& 31)) 5 h = some (Int32.ofNat k) from e h, Option.bind_some, dv (by decide), Option.bind_some, show Int32.ofNat k / 2 = Int32.ofNat (k / 2) from (Int32.ofNat_div (by omega) (by decide)).symm, ixa]
    have hq : nsum f (V + 1) + k / 2 ≤ 400 := by omega
    generalize nsum f (V + 1) + k / 2 = q at hq ⊢
    cases q with
    | zero => rfl
    | succ q =>
      rw [is1, Nat.add_sub_cancel, zmax_0n (by omega)]
  · exact ⟨0, Nat.zero_le _, fun h => absurd h h8⟩
/-- the law's readings of its script -/
def LF (D : Nat → Nat → Nat → Nat) (s : Nat) (h : zHp) : Prop := f_L_parties s h = some (Int32.ofNat (cP D)) ∧ f_L_regions s h = some (Int32.ofNat (cR D)) ∧ f_L_wards s h = some (Int32.ofNat (cW D)) ∧ f_L_boxes s h = some (Int32.ofNat (cB D)) ∧ f_L_tables s h = some (Int32.ofNat (cT D)) ∧ (f_L_setting s 0 h = some (Int32.ofNat (D 1 0 0)) ∧ f_L_setting s 1 h = some (Int32.ofNat (D 1 1 0))) ∧
  ∀ j, j < 8 → f_L_around s (Int32.ofNat j) h = some (if D 2 j 0 = 0 then -1 else Int32.ofNat (D 2 j 0 - 1)) ∧ f_L_regionOf s (Int32.ofNat j) h = some (Int32.ofNat (D 3 j 0)) ∧ f_L_wardOf s (Int32.ofNat j) h = some (Int32.ofNat (D 4 j 0)) ∧ f_L_issued s (Int32.ofNat j) h = some (Int32.ofNat (D 5 j 0)) ∧ f_L_seal s (Int32.ofNat j) h = some (Int32.ofNat (D 6 j 0)) ∧ (∀ p, f_L_paper s (Int32.ofNat j) (Int32.ofNat p) h = some (Int32.ofNat (D 7 j p))) ∧ f_L_slip s (Int32.ofNat j) h = some (Int32.ofNat (D 8 j 0))
theorem sc_D (s n : Nat) (xs : Nat → Int32) (hn : n < 2147483648) : ∃ D, okD D ∧ ∀ h, sc h s n xs → LF D s h := by
  obtain ⟨vP, hP, eP⟩ := n_parties (s := s) (xs := xs) hn
  obtain ⟨vR, hR, eR⟩ := n_regions (s := s) (xs := xs) hn
  obtain ⟨vW, hW, eW⟩ := n_wards (s := s) (xs := xs) hn
  obtain ⟨vB, hB, eB⟩ := n_boxes (s := s) (xs := xs) hn
  obtain ⟨vT, hT, eT⟩ := n_tables (s := s) (xs := xs) hn
  obtain ⟨g0, hg0, eg0⟩ := n_set0 (s := s) (xs := xs) hn
  obtain ⟨g1, hg1, eg1⟩ := n_set1 (s := s) (xs := xs) hn
  obtain ⟨f2, h2⟩ := Classical.skolem.mp (fun r => n_around (s := s) (xs := xs) hn r)
  obtain ⟨f3, h3⟩ := Classical.skolem.mp (fun r => n_regionOf (s := s) (xs := xs) hn hR eR r)
  obtain ⟨f4, h4⟩ := Classical.skolem.mp (fun r => n_wardOf (s := s) (xs := xs) hn hW eW r)
  obtain ⟨f7, h7⟩ := Classical.skolem.mp (fun b => Classical.skolem.mp (fun p => n_paper (s := s) (xs := xs) hn b p))
  obtain ⟨f5, h5⟩ := Classical.skolem.mp (fun b => n_issued (s := s) (xs := xs) hn hP eP b (f := f7 b) (fun p => (h7 b p).1) (fun hb p h hs => (h7 b p).2 hb h hs))
  obtain ⟨f6, h6⟩ := Classical.skolem.mp (fun b => n_seal (s := s) (xs := xs) hn b)
  obtain ⟨f8, h8⟩ := Classical.skolem.mp (fun t => n_slip (s := s) (xs := xs) hn t)
  refine ⟨fun a j p => if a = 0 then (if j = 0 then vP else if j = 1 then vR else if j = 2 then vW else if j = 3 then vB else vT) else if a = 1 then (if j = 0 then g0 else g1) else if a = 2 then f2 j else if a = 3 then f3 j else if a = 4 then f4 j else if a = 5 then f5 j else if a = 6 then f6 j else if a = 7 then f7 j p else f8 j, ⟨hP, hR, hW, hB, hT, ⟨hg0, hg1⟩, fun j => (h2 j).1, fun j => (h3 j).1, fun j => (h4 j).1, fun j => (h5 j).1, fun j => (h6 j).1, fun j p => Nat.le_trans (h7 j p).1 (by decide), fun j => (h8 j).1⟩, fun h hs => ⟨eP h hs, eR h hs, eW h hs, eB h hs, eT h hs, ⟨eg0 h hs, eg1 h hs⟩, fun j hj => ⟨(h2 j).2 hj h hs, (h3 j).2 h hs, (h4 j).2 h hs, (h5 j).2 hj h hs, (h6 j).2 hj h hs, fun p => (h7 j p).2 hj h hs, (h8 j).2 h hs⟩⟩⟩
end P93
