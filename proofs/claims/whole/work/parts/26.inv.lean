/-! the invariant between the class's cells (3 .. 276) and the reference's (277 .. 352) -/
/-- a byte of the tape as the class keeps it -/
def sb (b : Nat) : Int32 := if b < 128 then nI b else nI b - 256
def iTape (M : pm) : Prop := ∃ n : Nat, n ≤ 1600 ∧ mI M 3 1 = nI n ∧ mI M 277 1 = nI n ∧ ∀ k, k < 1600 → ∃ b : Nat, b < 256 ∧ mI M 278 k = nI b ∧ mI M 4 k = sb b
def iFlt (M : pm) : Prop := mI M 3 6 = mI M 277 7 ∧ mI M 3 7 = mI M 277 8
def iRef (M : pm) : Prop := ∀ k, k < 6 → mI M 276 k = mI M 279 k
def iSeed (M : pm) : Prop := ∃ n : Nat, n < 2 ^ 31 ∧ mI M 3 18 = nI n ∧ mJ M 277 71 = lN n
def iPic (M : pm) : Prop := ∃ n : Nat, n ≤ 69 ∧ mI M 3 16 = nI n ∧ mI M 277 106 = nI n ∧ ∀ k, k < n → mI M 275 k = mI M 352 k
/-- a name: its letters, 1 to 26, the first one lowest in the class's int, highest in the reference's long -/
def pkN : List Nat → Nat
  | [] => 0
  | x :: t => x + 32 * pkN t
def b27 (l : List Nat) : Nat := l.foldl (fun v x => 27 * v + x) 0
def nmR (p : Int32) (v : Int64) : Prop := ∃ l : List Nat, 1 ≤ l.length ∧ l.length ≤ 6 ∧ (∀ x ∈ l, 1 ≤ x ∧ x ≤ 26) ∧ p = nI (pkN l) ∧ v = lN (b27 l)
/-- an op of a program as the class writes it, by the reference's code -/
def clcT : List Nat := [0, 10000, 10001, 10002, 10003, 10009, 10010, 10004, 10005, 10006, 10007, 10008, 10011, 1]
def clcF : List Nat := [10107, 10115, 10116, 10117, 10118, 10102, 10103, 10119, 10120, 10121]
def clc (c : Nat) : Int32 := nI (if 1000 ≤ c then c - 1000 else if c < 14 then clcT.getD c 0 else if c < 50 then clcF.getD (c - 40) 0 else 10012)
/-- what kinds lie on the pile, the topmost first (true: a TEST's), before and behind one op -/
def kd1 (c : Nat) (s : List Bool) : Option (List Bool) :=
  if 1000 ≤ c then (if c < 11000 then some (false :: s) else none)
  else if c = 60 then (match s with | false :: t => some (false :: t) | _ => none)
  else if 40 ≤ c then (if c < 50 then some (false :: s) else none)
  else if c = 13 then some (true :: s)
  else if c = 12 then (match s with | true :: t => some (true :: t) | _ => none)
  else if c = 10 ∨ c = 11 then (match s with | true :: true :: t => some (true :: t) | _ => none)
  else if c = 7 ∨ c = 8 ∨ c = 9 then (match s with | false :: false :: t => some (true :: t) | _ => none)
  else if 1 ≤ c ∧ c ≤ 6 then (match s with | false :: false :: t => some (false :: t) | _ => none)
  else none
def kds (m : Nat) : List Nat → List Bool → Option (List Bool)
  | [], s => some s
  | c :: l, s => match kd1 c s with
    | none => none
    | some s' => if s'.length ≤ m then kds m l s' else none
def dfl : Nat → List Nat
  | 0 => [40, 1001, 2]
  | 1 => [13]
  | _ => [40]
def iPrg (M : pm) (t p : Nat) : Prop := ∃ (os : List Nat) (f : Nat), mI M (t + 12) p = nI f ∧ mI M (t + 13) p = nI (f + os.length) ∧ f + os.length ≤ 1600 ∧ (∀ i c, os[i]? = some c → mI M (t + 11) (f + i) = clc c) ∧ kds 100 os [] = some [decide (p = 1)] ∧ (∀ c ∈ os, 1000 ≤ c ∨ c < 47) ∧
  ((mI M 314 (3 + p) = -1 ∧ os = dfl p) ∨ ∃ g : Nat, mI M 314 (3 + p) = nI g ∧ mI M 315 (3 + p) = nI (g + os.length) ∧ g + os.length ≤ 1600 ∧ ∀ i c, os[i]? = some c → mI M 316 (1600 + (g + i)) = nI c)
def iSta (M : pm) (t ns na ne hr : Nat) : Prop :=
  ((t = 14 ∧ mR M 3 4 = 29) ∨ (t = 29 ∧ mR M 3 4 = 14)) ∧ mR M 3 3 = t ∧ mI M 3 5 = mI M 277 50 ∧ bz (mI M 3 5) ∧ ns ≤ 6 ∧ na ≤ 8 ∧ ne ≤ 5 ∧ hr ≤ 60 ∧
  mI M t 1 = nI hr ∧ mI M 308 3 = nI hr ∧ (∃ tl : Nat, tl ≤ 100 ∧ mI M t 3 = nI tl ∧ mI M 308 5 = nI tl) ∧ mI M t 4 = nI ns ∧ mI M 309 3 = nI ns ∧ mI M t 8 = nI na ∧ mI M 309 4 = nI na ∧ mI M t 13 = nI ne ∧ mI M 309 5 = nI ne ∧
  (∀ s, s < ns → ∃ l y : Nat, 1 ≤ l ∧ l ≤ 60 ∧ y ≤ 9 ∧ mI M (t + 2) s = nI l ∧ mI M 311 (12 + 2 * s) = nI l ∧ mI M (t + 3) s = nI y ∧ mI M 311 (13 + 2 * s) = nI y ∧ nmR (mI M (t + 1) s) (mJ M 310 (24 + s))) ∧
  (∀ a, a < na → nmR (mI M (t + 4) a) (mJ M 310 (32 + a))) ∧
  (∀ e, e < ne → ∃ y : Nat, y ≤ 9 ∧ mI M (t + 9) e = nI y ∧ mI M 313 (5 + e) = nI y ∧ nmR (mI M (t + 8) e) (mJ M 310 (40 + e))) ∧
  ((mI M 3 5 = 0 ∧ ns = 0 ∧ na = 0 ∧ ne = 0 ∧ hr = 0) ∨ (mI M 3 5 = 1 ∧ 1 ≤ hr ∧ ∀ p, p < 3 → iPrg M t p))
/-- a state: the class's object at a, the reference's row g -/
def stR (M : pm) (a : Nat) (g : Nat → Int32) (ns na : Nat) : Prop := ∃ d sl : Nat, d ≤ 999 ∧ sl ≤ 999 ∧ mI M a 0 = nI d ∧ g 0 = nI d ∧ mI M a 1 = nI sl ∧ g 1 = nI sl ∧
  ∀ b, b < na → ∃ s di mi la pl : Nat, s < ns ∧ di ≤ 999 ∧ mi ≤ 99 ∧ la ≤ d + 1 ∧ pl ≤ 999 ∧ mI M (a + 1) b = nI s ∧ g (2 + 5 * b) = nI s ∧ mI M (a + 2) b = nI di ∧ g (3 + 5 * b) = nI di ∧ mI M (a + 3) b = nI mi ∧ g (4 + 5 * b) = nI mi ∧ mI M (a + 4) b = nI la - 1 ∧ g (5 + 5 * b) = nI la ∧ mI M (a + 5) b = nI pl ∧ g (6 + 5 * b) = nI pl
def ktR (M : pm) (a : Nat) (g : Nat → Int32) : Prop := ∃ c : Nat, c ≤ 40 ∧ mI M a 7 = nI c ∧ g 42 = nI c ∧ ∀ k, k < c → mI M (a + 6) k = g (43 + 3 * k) ∧ mI M (a + 7) k = g (44 + 3 * k) ∧ mI M (a + 8) k = g (45 + 3 * k)
def iNow (M : pm) (ns na : Nat) : Prop := stR M 57 (mI M 317) ns na ∧ ktR M 57 (mI M 317) ∧ mI M 277 58 = 0
def iSeen (M : pm) (na : Nat) : Prop := ∃ r : Nat, r ≤ 16 ∧ mI M 3 13 = nI r ∧ mI M 277 63 = nI r ∧ ∀ q, q < r → ∃ d a v : Nat, d ≤ 30 ∧ a < na ∧ v ≤ 1 ∧ mI M (258 + q) 0 = nI d ∧ mI M 322 (3 * q) = nI d ∧ mI M (258 + q) 1 = nI a ∧ mI M 322 (3 * q + 1) = nI a ∧ mI M (258 + q) 2 = nI v ∧ mI M 322 (3 * q + 2) = nI v
def iHist (M : pm) (ns na : Nat) : Prop := ∃ u w : Nat, u ≤ 20 ∧ w < 20 ∧ mI M 75 1 = nI u ∧ mI M 277 69 = nI u ∧ mI M 277 70 = nI w ∧
  (∃ σ : Nat → Nat, (∀ i, i < 20 → σ i < 20 ∧ mR M 76 i = 77 + 9 * σ i) ∧ ∀ i j, i < 20 → j < 20 → σ i = σ j → i = j) ∧
  ∀ j, j < u → stR M (mR M 76 (u - 1 - j)) (fun k => mI M 325 (163 * ((w + 20 - j) % 20) + k)) ns na ∧ ktR M (mR M 76 (u - 1 - j)) (fun k => mI M 325 (163 * ((w + 20 - j) % 20) + k))
/-- what nobody writes: the words -/
def iWrd (M : pm) : Prop := (∀ w, w < 34 → mI M 7 w = mI pM2 7 w) ∧ (∀ a, (280 ≤ a ∧ a < 308) ∨ (326 ≤ a ∧ a < 349) → mI M a = mI pM2 a)
def Inv (M : pm) : Prop := mL M ≤ 3072 ∧ iTape M ∧ iFlt M ∧ iRef M ∧ iSeed M ∧ iPic M ∧ iWrd M ∧ ∃ t ns na ne hr : Nat, iSta M t ns na ne hr ∧ iNow M ns na ∧ iSeen M na ∧ iHist M ns na
