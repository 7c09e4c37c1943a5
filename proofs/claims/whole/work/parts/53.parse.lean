/-! Texts: what a CHARTER is, read in one plain way. -/
abbrev Cl : Type := Nat × Int × Int × List Int
def nx (t : Nat → Int) (m p : Nat) : Int := if p < m then t p else -1
def dg (x : Int) : Bool := decide (48 ≤ x ∧ x ≤ 57)
def sNum (t : Nat → Int) (m : Nat) (ab : Bool) (p : Nat) : Nat × Option Int :=
  if dg (nx t m p) then
    if dg (nx t m (p + 1)) then
      if dg (nx t m (p + 2)) then
        if ab && decide (100 * (nx t m p - 48) + 10 * (nx t m (p + 1) - 48) + (nx t m (p + 2) - 48) = 0) then (p + 2, none)
        else (p + 3, some (100 * (nx t m p - 48) + 10 * (nx t m (p + 1) - 48) + (nx t m (p + 2) - 48)))
      else if ab && decide (10 * (nx t m p - 48) + (nx t m (p + 1) - 48) = 0) then (p + 2, none)
      else (p + 2, some (10 * (nx t m p - 48) + (nx t m (p + 1) - 48)))
    else if ab && decide (nx t m p - 48 = 0) then (p + 1, none)
    else (p + 1, some (nx t m p - 48))
  else (p, none)
def sWord (t : Nat → Int) (m : Nat) : List Int → Nat → Nat × Bool
  | [], p => (p, true)
  | c :: l, p => if nx t m p = c then sWord t m l (p + 1) else (p, false)
def lett (x : Int) : Int := if x = 107 then 0 else if x = 104 then 1 else if x = 100 then 2 else if x = 112 then 3 else if x = 118 then 4 else -1
def sTest (t : Nat → Int) (m p : Nat) : Nat × Option (List Int) :=
  if lett (nx t m p) < 0 then (p, none)
  else if 60 ≤ nx t m (p + 1) ∧ nx t m (p + 1) ≤ 62 then
    match sNum t m false (p + 2) with
    | (q, none) => (q, none)
    | (q, some v) => (q, some [lett (nx t m p) * 3000 + (nx t m (p + 1) - 60) * 1000 + v])
  else (p + 1, none)
/-- expressions: 0 T or T|E, 1 F or F&T, 3 and 4 what follows the first of these, else one F -/
def sE (t : Nat → Int) (m : Nat) : Nat → Nat → Nat → Nat → Nat × Option (List Int)
  | 0, _, _, p => (p, none)
  | f + 1, 0, d, p => match sE t m f 1 d p with
    | (q, none) => (q, none)
    | (q, some c) => match sE t m f 3 d q with
      | (q', none) => (q', none)
      | (q', some c') => (q', some (c ++ c'))
  | f + 1, 1, d, p => match sE t m f 2 d p with
    | (q, none) => (q, none)
    | (q, some c) => match sE t m f 4 d q with
      | (q', none) => (q', none)
      | (q', some c') => (q', some (c ++ c'))
  | f + 1, 3, d, p => if nx t m p = 124 then
      match sE t m f 1 d (p + 1) with
      | (q, none) => (q, none)
      | (q, some c) => match sE t m f 3 d q with
        | (q', none) => (q', none)
        | (q', some c') => (q', some (c ++ (-2) :: c'))
    else (p, some [])
  | f + 1, 4, d, p => if nx t m p = 38 then
      match sE t m f 2 d (p + 1) with
      | (q, none) => (q, none)
      | (q, some c) => match sE t m f 4 d q with
        | (q', none) => (q', none)
        | (q', some c') => (q', some (c ++ (-1) :: c'))
    else (p, some [])
  | f + 1, _, d, p =>
    if d < 4 ∧ nx t m p = 33 then
      match sE t m f 2 (d + 1) (p + 1) with
      | (q, none) => (q, none)
      | (q, some c) => (q, some (c ++ [-3]))
    else if d < 4 ∧ nx t m p = 40 then
      match sE t m f 0 (d + 1) (p + 1) with
      | (q, none) => (q, none)
      | (q, some c) => if nx t m q = 41 then (q + 1, some c) else (q, none)
    else sTest t m p
def wOf (x : Int) : Nat := if x = 110 then 0 else if x = 109 then 1 else if x = 111 then 2 else if x = 103 then 3 else 4
def wLet (w : Nat) : List Int := match w with
  | 0 => [110, 101, 101, 100, 32]
  | 1 => [109, 111, 115, 116, 32]
  | 2 => [111, 108, 100, 32]
  | 3 => [103, 111, 108, 100, 32]
  | _ => [115, 108, 101, 101, 112, 32]
def sRest (t : Nat → Int) (m w q : Nat) : Nat × Option Cl :=
  if w = 4 then match sE t m 1000 0 0 q with
    | (q', none) => (q', none)
    | (q', some c) => (q', some (4, 0, 0, c))
  else match sNum t m false q with
    | (q1, none) => (q1, none)
    | (q1, some v) => if w = 1 ∨ w = 3 then (q1, some (w, v, 0, [])) else
      if nx t m q1 = 32 then match sNum t m (decide (w = 0)) (q1 + 1) with
        | (q2, none) => (q2, none)
        | (q2, some v2) => (q2, some (w, v, v2, []))
      else (q1, none)
def sClause (t : Nat → Int) (m p : Nat) : Nat × Option Cl :=
  match sWord t m (wLet (wOf (nx t m p))) p with
  | (q, false) => (q, none)
  | (q, true) => sRest t m (wOf (nx t m p)) q
def sGo (t : Nat → Int) (m : Nat) : Nat → Nat → Nat × Option (List Cl)
  | 0, p => (p, none)
  | k + 1, p => match sClause t m p with
    | (q, none) => (q, none)
    | (q, some c) => if m ≤ q then (q, some [c]) else if k = 0 then (q, none) else
      if nx t m q = 59 then match sGo t m k (q + 1) with
        | (q', none) => (q', none)
        | (q', some l) => (q', some (c :: l))
      else (q, none)
def cAt (l : List Cl) (k : Nat) : Cl := (l[k]?).getD (9, 0, 0, [])
/-- the last of the first k clauses that is of a word, or -1 -/
def lw (l : List Cl) (w : Nat) : Nat → Int
  | 0 => -1
  | k + 1 => if (cAt l k).1 = w then (k : Int) else lw l w k
/-- whether a test passes -/
def tst (φ : Nat → Int) (op : Int) : Bool :=
  if op % 3000 / 1000 = 0 then decide (φ (op / 3000).toNat < op % 1000) else if op % 3000 / 1000 = 1 then decide (φ (op / 3000).toNat = op % 1000) else decide (op % 1000 < φ (op / 3000).toNat)
def ev1 (φ : Nat → Int) (op : Int) (st : List Bool) : List Bool :=
  if 0 ≤ op then tst φ op :: st else if op = -3 then (match st with
    | b :: r => (!b) :: r
    | [] => []) else (match st with
    | b :: a :: r => (if op = -2 then a || b else a && b) :: r
    | r => r)
def evL (φ : Nat → Int) : List Int → List Bool → List Bool
  | [], st => st
  | op :: c, st => evL φ c (ev1 φ op st)
def evB (φ : Nat → Int) (c : List Int) : Bool := (evL φ c []).headD false
/-- texts: fed bytes stand behind the twentieth text -/
def tx0 (tx : Nat → Int) (k j : Nat) : Int := tx (100 * k + j)
def IC (ch fe : Int) (cf cd tx sz : Nat → Int) : Prop :=
  (0 ≤ ch ∧ ch ≤ 20) ∧ (0 ≤ fe ∧ fe ≤ 100) ∧ (∀ j, -128 ≤ tx j ∧ tx j ≤ 127) ∧
  ∀ k : Nat, (k : Int) < ch → (0 ≤ cd k ∧ cd k ≤ 999) ∧ (0 ≤ sz k ∧ sz k ≤ 100) ∧ ∃ q l, sGo (tx0 tx k) (sz k).toNat 6 0 = (q, some l)
def ClR (r34 r35 r36 r37 : Nat → Int) (e : Nat) (c : Cl) : Prop :=
  r34 e = (c.1 : Int) ∧ c.1 ≤ 4 ∧ (c.1 ≠ 4 → r35 e = c.2.1 ∧ (c.1 = 0 ∨ c.1 = 2 → r36 e = c.2.2.1)) ∧
  (c.1 = 4 → 0 ≤ r35 e ∧ r36 e = r35 e + (c.2.2.2.length : Int) ∧ r36 e ≤ min 2000 (100 * ((e / 6 : Nat) : Int) + 100) ∧ ∀ t, t < c.2.2.2.length → r37 ((r35 e).toNat + t) = (c.2.2.2[t]?).getD 0)
def CC (m20 m21 : Int) (r30 r31 r32 r33 r34 r35 r36 r37 : Nat → Int) (ch fe : Int) (cf cd tx sz : Nat → Int) : Prop :=
  m20 = ch ∧ m21 = fe ∧ r31 = cf ∧ r32 = cd ∧ (∀ j : Nat, (j : Int) < fe → r30 j = tx (2000 + j)) ∧
  ∀ k : Nat, (k : Int) < ch → ∃ q l, sGo (tx0 tx k) (sz k).toNat 6 0 = (q, some l) ∧ r33 k = (l.length : Int) ∧ l.length ≤ 6 ∧ ∀ i, i < l.length → ClR r34 r35 r36 r37 (6 * k + i) (cAt l i)
