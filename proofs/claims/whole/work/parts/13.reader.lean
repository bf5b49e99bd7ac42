/-! ===== the class's reader, as a machine on whole numbers (tree 39, reader 51) ===== -/
/-- the first place from e on that isn't a blank, or the end -/
def skp (K : IF) : Nat → Int → Int
  | 0, e => e
  | n + 1, e => if e < K 39 1 ∧ blankb (K 40 e.toNat) = true then skp K n (e + 1) else e
/-- the first place from e on that is no byte of an atom, or the end -/
def scn (K : IF) : Nat → Int → Int
  | 0, e => e
  | n + 1, e => if e < K 39 1 ∧ atomb (K 40 e.toNat) = true then scn K n (e + 1) else e
def kSkip (K : IF) : IF := mset K 51 1 (skp K (K 39 1 - K 51 1).toNat (K 51 1))
def kKind (K : IF) (l : Int) : Int := if K 49 l.toNat = -1 then -1 else K 41 (K 49 l.toNat).toNat
def kWt (K : IF) : Bool := decide (K 51 3 ≠ -1 ∧ K 41 (K 51 3).toNat = 0)
def kAdd (kd e : Int) (K : IF) : IF :=
  mset (mset ((fun K1 : IF => if K1 51 3 ≠ -1 ∧ K1 41 (K1 51 3).toNat = 0 then mset K1 46 (K1 51 3).toNat (K1 46 (K1 51 3).toNat + 1) else K1)
    (mset (mset (mset (mset (mset (mset (mset (mset K 41 (K 39 2).toNat kd) 42 (K 39 2).toNat (K 51 1)) 43 (K 39 2).toNat e) 44 (K 39 2).toNat e) 45 (K 39 2).toNat (K 51 3)) 46 (K 39 2).toNat (-1)) 47 (K 39 2).toNat 1) 48 (K 39 2).toNat (-1))) 39 2 (K 39 2 + 1)) 51 1 e
def kAtom (K : IF) : IF := kAdd 0 (scn K (K 39 1 - (K 51 1 + 1)).toNat (K 51 1 + 1)) (mset K 51 2 3)
def kLet (kd : Int) (K : IF) : Int × IF :=
  if K 39 1 ≤ K 51 1 + 1 ∨ smallb (K 40 (K 51 1 + 1).toNat) = false then (0, mset K 51 1 (K 51 1 + 1))
  else if kKind K (K 40 (K 51 1 + 1).toNat - 97) ≠ -1 ∧ kKind K (K 40 (K 51 1 + 1).toNat - 97) ≠ kd then (0, K)
  else (1, (fun l : Int => mset ((fun K3 : IF => if kd = 2 then mset K3 51 5 (K3 51 5 + 1) else K3)
    ((fun K2 : IF => if kKind K l = -1 then mset K2 49 l.toNat (K 39 2) else K2) (mset (kAdd kd (K 51 1 + 1 + 1) K) 48 (K 39 2).toNat l))) 51 2 4) (K 40 (K 51 1 + 1).toNat - 97))
def kDeep (K : IF) : IF := kAdd 3 (K 51 1 + 1) (mset (mset (mset K 51 6 (K 39 2)) 51 7 1) 51 2 2)
def kOpen (K : IF) : Int × IF :=
  if 12 ≤ K 51 4 then (0, K)
  else (1, (fun K1 : IF => if K1 41 (K 39 2 - 1).toNat = 0 then mset (mset K1 46 (K 39 2 - 1).toNat 0) 51 2 1 else mset K1 51 2 0)
    (mset (mset (mset K 51 3 (K 39 2 - 1)) 51 4 (K 51 4 + 1)) 51 1 (K 51 1 + 1)))
def kClose (K : IF) : Int × IF :=
  if K 51 3 = -1 then (0, K)
  else (1, mset (mset ((fun K1 : IF => if K1 51 3 = K1 51 6 then mset K1 51 7 0 else K1)
    (mset (mset (mset (mset K 51 1 (K 51 1 + 1)) 51 4 (K 51 4 - 1)) 44 (K 51 3).toNat (K 51 1 + 1)) 47 (K 51 3).toNat (K 39 2 - K 51 3))) 51 3 (K 45 (K 51 3).toNat)) 51 2 4)
def kBehind (c : Int) (K : IF) : Int × IF :=
  if c = 41 then kClose K else if c = 44 ∧ kWt K = true then (1, mset (mset K 51 1 (K 51 1 + 1)) 51 2 0) else (0, K)
def kRow (K : IF) : Bool := decide (K 51 0 ≠ 0) && kWt K && (decide (K 51 0 = 2) || (decide (K 51 5 < 2) && decide (K 51 7 = 0)))
def kPiece (c : Int) (K : IF) : Int × IF :=
  if atomb c = true then (1, kAtom K)
  else if c = 63 then (if K 51 0 ≠ 0 then kLet 1 K else (0, K))
  else if c = 42 then (if kRow K = true then kLet 2 K else (0, K))
  else if c = 64 then (if K 51 0 = 1 ∧ K 51 6 = -1 then (1, kDeep K) else (0, K))
  else (0, K)
def kTok (c : Int) (K : IF) : Int × IF :=
  if K 51 2 = 0 then kPiece c K
  else if K 51 2 = 1 then (if c = 41 then kClose K else kPiece c K)
  else if K 51 2 = 2 then (if c = 40 then kOpen K else (0, K))
  else if K 51 2 = 3 then (if c = 40 then kOpen K else kBehind c K)
  else kBehind c K
def kRun : Nat → IF → Int × IF
  | 0, K => (K 51 1, K)
  | n + 1, K =>
    if K 39 1 ≤ (kSkip K) 51 1 then (if K 51 3 = -1 ∧ 3 ≤ K 51 2 then -1 else K 39 1, kSkip K)
    else (fun z : Int × IF => if z.1 = 0 then (z.2 51 1, z.2) else kRun n z.2) (kTok ((kSkip K) 40 ((kSkip K) 51 1).toNat) (kSkip K))
def kStart (w : Int) (K : IF) : IF := fun a k =>
  if a = 51 ∧ k = 0 then w else if a = 51 ∧ k = 1 then 0 else if a = 51 ∧ k = 2 then 0 else if a = 51 ∧ k = 3 then -1 else if a = 51 ∧ k = 4 then 0 else if a = 51 ∧ k = 5 then 0 else if a = 51 ∧ k = 6 then -1 else if a = 51 ∧ k = 7 then 0
  else if a = 39 ∧ k = 2 then 0 else if a = 49 ∧ k < 26 then -1 else K a k
/-- what holds of the reader at all times -/
def RI (K : IF) : Prop :=
  (0 ≤ K 51 1 ∧ K 51 1 ≤ K 39 1 ∧ K 39 1 ≤ 240) ∧ (0 ≤ K 51 2 ∧ K 51 2 ≤ 4) ∧ (-(K 51 1) ≤ K 51 4 ∧ K 51 4 ≤ 12) ∧ (0 ≤ K 39 2 ∧ K 39 2 ≤ 120) ∧ (-1 ≤ K 51 3 ∧ K 51 3 < K 39 2) ∧
  (2 * K 39 2 ≤ K 51 1 + (if 2 ≤ K 51 2 then 1 else 0)) ∧ (∀ p : Nat, (p : Int) < K 39 2 → -1 ≤ K 45 p ∧ K 45 p < p) ∧ (∀ p : Nat, (p : Int) < K 39 2 → -1 ≤ K 46 p ∧ K 46 p ≤ K 39 2) ∧
  (∀ l : Nat, l < 26 → -1 ≤ K 49 l ∧ K 49 l < K 39 2) ∧ (0 ≤ K 51 5 ∧ K 51 5 ≤ K 39 2) ∧ (K 51 2 = 2 → 0 < K 39 2) ∧ (K 51 2 = 3 → 0 < K 39 2) ∧ (∀ j : Nat, (j : Int) < K 39 1 → 0 ≤ K 40 j ∧ K 40 j ≤ 255)
