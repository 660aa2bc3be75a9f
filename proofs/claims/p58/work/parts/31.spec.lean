/-! PURE: what the document's state says, over the reference's two rows of numbers (T: told, N: now) -/
section P31
def sN (T : Nat → Int32) (s : Nat) : Nat := (T s).toNatClampNeg
def sPi (T : Nat → Int32) : Nat := sN T 0 + 1
def sPap (T : Nat → Int32) (b p : Nat) : Int32 := T (68 + 6 * b + p)
def sF (N : Nat → Int32) (b w : Nat) : Int32 := N (10 + 44 * b + w)
def sC (N : Nat → Int32) (b : Nat) : Nat := (sF N b 3).toNatClampNeg
def sE (N : Nat → Int32) (b : Nat) : Nat := (sF N b 2).toNatClampNeg
def sFd (N : Nat → Int32) (b c p : Nat) : Int32 := sF N b (20 + 6 * c + p)
def sD (N : Nat → Int32) : Nat := (N 9).toNatClampNeg
def sDecl (N : Nat → Int32) (w : Int32) : Bool := (zff (fun k => decide (N (3 + k) = w)) (sD N) 0).isSome
def sAtT (N : Nat → Int32) (b : Nat) : Bool := !decide (sF N b 0 < 0)
def sGood (N : Nat → Int32) (b : Nat) : Bool := !sAtT N b && decide (sF N b 1 = sF N b (4 + (sE N b - 1)))
def sOn (T N : Nat → Int32) (t : Int32) : Option Nat := zff (fun b => decide (sF N b 0 = t)) (sN T 3) 0
def sAh (T : Nat → Int32) (b p : Nat) : Int32 := zsum (fun k => sPap T b k) p
def sSl (T : Nat → Int32) (slip : Int32) (b p : Nat) : Int32 := if slip = 0 then 0 else (sAh T b p + sPap T b p) / slip - sAh T b p / slip
def sFi (T : Nat → Int32) (t b p : Nat) : Int32 := sPap T b p - sSl T (T (140 + t)) b p + sSl T (T (140 + t)) b (if p = 0 then sN T 0 else p - 1)
def sSame (T : Nat → Int32) (f g : Nat → Int32) : Bool := (zff (fun p => !decide (f p = g p)) (sPi T) 0).isNone
def sAgr (T N : Nat → Int32) (b i j : Nat) : Bool := !decide (sF N b (16 + i) = sF N b (16 + j)) && sSame T (sFd N b i) (sFd N b j)
def sCf (T N : Nat → Int32) (b : Nat) : Option Nat := zff (fun i => (zff (fun j => sAgr T N b i j) (sC N b) 0).isSome) (sC N b) 0
def sVi (T N : Nat → Int32) (b : Nat) : Nat := match sCf T N b with
  | none => sC N b - 1
  | some k => k
def sVal (T N : Nat → Int32) (b p : Nat) : Int32 := if sC N b = 0 then 0 else sFd N b (sVi T N b) p
def sMore (T N : Nat → Int32) (b : Nat) : Int32 := if sC N b = 0 then 0 else zsum (fun p => sVal T N b p) (sPi T) - T (56 + b)
def sOff (T N : Nat → Int32) (b : Nat) : Bool := decide (N 1 < zabs (sMore T N b))
def sVo (T N : Nat → Int32) (w : Int32) (p : Nat) : Int32 := zsum (fun b => if T (44 + b) = w then sVal T N b p else 0) (sN T 3)
def sAll (T N : Nat → Int32) (w : Int32) : Int32 := zsum (fun p => sVo T N w p) (sN T 0)
/-- the first of the largest that is over 0, and it -/
def sBM (f : Nat → Int32) : Nat → Int32 × Int32
  | 0 => (-1, 0)
  | n + 1 => (if (sBM f n).2 < f n then Int32.ofNat n else (sBM f n).1, zmax (sBM f n).2 (f n))
def sFst (T N : Nat → Int32) (w : Int32) : Int32 := (sBM (sVo T N w) (sN T 0)).1
/-- the largest, one left out -/
def sM2 (f : Nat → Int32) (q : Int32) : Nat → Int32
  | 0 => 0
  | n + 1 => if Int32.ofNat n = q then sM2 f q n else zmax (sM2 f q n) (f n)
def sMar (T N : Nat → Int32) (w : Int32) : Int32 := if sFst T N w = -1 then 0 else sVo T N w (sFst T N w).toNatClampNeg - sM2 (sVo T N w) (sFst T N w) (sN T 0)
def sNear (T N : Nat → Int32) (w : Int32) : Bool := decide (0 < sAll T N w) && !decide (N 0 * sAll T N w < 100 * sMar T N w)
def sHas (T : Nat → Int32) (w : Int32) (q : Nat → Bool) : Bool := (zff (fun b => decide (T (44 + b) = w) && q b) (sN T 3) 0).isSome
def sAga (T N : Nat → Int32) (w : Int32) : Int32 :=
  if sDecl N w then 1 else if !sHas T w (fun _ => true) || sHas T w (fun b => decide (sC N b = 0)) then 2
  else if sHas T w (fun b => !decide (sF N b 0 = -4)) then 3
  else if sHas T w (fun b => (sCf T N b).isNone && sOff T N b) then 4
  else if sNear T N w && sHas T w (fun b => (sCf T N b).isNone) then 5 else 0
/-- the ward with the fewest papers of those that may be declared -/
def sCm (T N : Nat → Int32) : Nat → Int32 × Int32
  | 0 => (-1, 100000)
  | n + 1 => if sAga T N (Int32.ofNat n) = 0 ∧ sAll T N (Int32.ofNat n) + sVo T N (Int32.ofNat n) (sN T 0) < (sCm T N n).2 then (Int32.ofNat n, sAll T N (Int32.ofNat n) + sVo T N (Int32.ofNat n) (sN T 0)) else sCm T N n
def sCome (T N : Nat → Int32) : Int32 := (sCm T N (sN T 2)).1
def sMust (T N : Nat → Int32) (b : Nat) : Bool := !sDecl N (T (44 + b)) && (decide (sC N b = 0) || ((sCf T N b).isNone && (sOff T N b || sNear T N (T (44 + b)))))
def sOr (f : Nat → Bool) : Nat → Int32
  | 0 => 0
  | n + 1 => sOr f n ||| (if f n then (1 : Int32) <<< (Int32.ofNat n &&& 31) else 0)
def sDue (T N : Nat → Int32) : Int32 := sOr (sMust T N) (sN T 3)
/-- the regions outward from r -/
def sIn (T : Nat → Int32) : Nat → Int32 → Int32 → Bool
  | 0, _, _ => false
  | d + 1, r, o => if r = -1 then false else if r = o then true else sIn T d (T (33 + r.toNatClampNeg)) o
def sDep (T : Nat → Int32) : Nat → Int32 → Nat
  | 0, _ => 0
  | d + 1, r => if r = -1 then 0 else sDep T d (T (33 + r.toNatClampNeg)) + 1
def sWin (T : Nat → Int32) (w : Nat) (r : Int32) : Bool := sIn T 6 (T (38 + w)) r
def sCnt (f : Nat → Bool) : Nat → Int32
  | 0 => 0
  | n + 1 => sCnt f n + (if f n then 1 else 0)
def sSeat (T N : Nat → Int32) (r q : Int32) : Int32 := sCnt (fun w => sWin T w r && (sDecl N (Int32.ofNat w) && decide (sFst T N (Int32.ofNat w) = q))) (sN T 2)
def sUnd (T N : Nat → Int32) (r : Int32) : Int32 := sCnt (fun w => sWin T w r && !sDecl N (Int32.ofNat w)) (sN T 2)
end P31

