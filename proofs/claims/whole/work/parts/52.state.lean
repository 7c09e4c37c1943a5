/-! The state as both sides see it: s is a memory laid out as the reference's; what holds of it always; how the class's memory tells it. -/
def isF (kd : Nat → Int) (h : Nat) : Bool := decide (kd h = 1)
def samK (kd fa : Nat → Int) (h k : Nat) : Bool := decide (kd k = 3 ∧ fa k = fa h)
/-- the least KIN of a family; else the holder itself -/
def hdN (kd fa : Nat → Int) (h : Nat) : Nat := if kd h = 3 then fsn h (samK kd fa h) else h
def isP (kd : Nat → Int) (h : Nat) : Bool := decide (kd h = 2 ∨ kd h = 3)
def isU (kd fa : Nat → Int) (h : Nat) : Bool := isP kd h && decide (hdN kd fa h = h)
def IH (td ho fi : Int) (kd fa : Nat → Int) : Prop :=
  (0 ≤ td ∧ td ≤ 999) ∧ (0 ≤ ho ∧ ho ≤ 16) ∧ (∀ h, 0 ≤ kd h ∧ kd h ≤ 5) ∧ (∀ h, 0 ≤ fa h ∧ fa h ≤ 3) ∧ (∀ h, kd h ≠ 3 → fa h = 0) ∧ fi = (cn ho.toNat (isF kd) : Int) ∧ fi ≤ 7
def IS (td ho sh sa : Int) (kd sf s1 pa vo pr ca xs xt xd : Nat → Int) : Prop :=
  (0 ≤ sh ∧ sh ≤ 40) ∧ (0 ≤ sa ∧ sa ≤ 120) ∧ (∀ s, 0 ≤ pr s ∧ pr s ≤ 999) ∧
  (∀ s : Nat, (s : Int) < sh → (0 ≤ sf s ∧ sf s < ho ∧ kd (sf s).toNat = 1) ∧ (0 ≤ s1 s ∧ s1 s < ho) ∧ (0 ≤ pa s ∧ pa s ≤ 12) ∧ (0 ≤ vo s ∧ vo s ≤ 99) ∧ (0 ≤ ca s ∧ ca s ≤ td)) ∧
  (∀ k : Nat, (k : Int) < sa → (0 ≤ xs k ∧ xs k < sh) ∧ (0 ≤ xt k ∧ xt k < ho) ∧ (0 ≤ xd k ∧ xd k ≤ td) ∧ ca (xs k).toNat ≤ xd k) ∧
  (∀ i j : Nat, i ≤ j → (j : Int) < sa → xd i ≤ xd j) ∧
  (∀ f : Int, sm sh.toNat (fun s => if sf s = f then pa s else 0) ≤ 12)
def IM (ho mo : Int) (ye no : Nat → Int) : Prop :=
  (0 ≤ mo ∧ mo ≤ 30) ∧ ∀ m : Nat, (m : Int) < mo → (inR (ye m) ∧ inR (no m)) ∧ (∀ h : Nat, (bI (ye m) h && bI (no m) h) = false) ∧ (∀ h : Nat, ho ≤ (h : Int) → bI (ye m) h = false ∧ bI (no m) h = false)
def IT (so le it : Nat → Int) : Prop :=
  (∀ t : Nat, t < 6 → (-1 ≤ so t ∧ so t ≤ 4) ∧ (0 ≤ le t ∧ le t ≤ 60) ∧ (so t = -1 → le t = 0)) ∧ ∀ q, in64 (it q)
/-- whose a share is on a day, since when: the reference's way, after the first k sales -/
def whR (s1 ca xs xt xd : Nat → Int) (s : Nat) (d : Int) : Nat → Int × Int
  | 0 => (if d < ca s then -1 else s1 s, ca s)
  | k + 1 => if xs k = (s : Int) ∧ xd k ≤ d then (xt k, xd k) else whR s1 ca xs xt xd s d k
/-- the class's way, after the first k moves -/
def whC (ms mh md : Nat → Int) (s : Nat) (d : Int) : Nat → Int × Int
  | 0 => (-5, -5)
  | k + 1 => if ms k = (s : Int) ∧ md k ≤ d then (mh k, md k) else whC ms mh md s d k
/-- of the class: holders -/
def CH (m10 m11 m12 m13 m16 : Int) (r17 r18 r19 r20 r900 r901 : Nat → Int) (td ho fi : Int) (kd fa : Nat → Int) : Prop :=
  m10 = td ∧ m11 = ho ∧ m12 = fi ∧ m13 = (cn ho.toNat (isU kd fa) : Int) ∧ m16 = ho ∧ r17 = kd ∧
  (∀ h : Nat, (h : Int) < ho → r18 h = (hdN kd fa h : Int)) ∧
  (∀ h : Nat, (h : Int) < ho → isF kd h = true → r19 (cn h (isF kd)) = (h : Int)) ∧
  (∀ h : Nat, (h : Int) < ho → isU kd fa h = true → r20 (cn h (isU kd fa)) = (h : Int)) ∧
  (∀ h : Nat, (h : Int) < ho → r900 h = kd h ∧ r901 h = fa h)
/-- shares and moves -/
def CS (m14 m116 : Int) (r21 r22 r23 r24 ms mh md : Nat → Int) (td sh sa : Int) (sf s1 pa vo pr ca xs xt xd : Nat → Int) : Prop :=
  m14 = sh ∧ m116 = sh + sa ∧ r21 = sf ∧ r22 = pa ∧ r23 = vo ∧ r24 = pr ∧
  (∀ k : Nat, (k : Int) < sh + sa → (0 ≤ ms k ∧ ms k < sh) ∧ (0 ≤ md k ∧ md k ≤ td)) ∧
  (∀ i j : Nat, i ≤ j → (j : Int) < sh + sa → md i ≤ md j) ∧
  (∀ s : Nat, (s : Int) < sh → ∀ d : Int, whC ms mh md s d (sh + sa).toNat = if (whR s1 ca xs xt xd s d sa.toNat).1 < 0 then (-5, -5) else whR s1 ca xs xt xd s d sa.toNat)
def CM (m08 : Int) (r11 r12 : Nat → Int) (mo : Int) (ye no : Nat → Int) : Prop := m08 = mo ∧ r11 = ye ∧ r12 = no
/-- the tapes' rows -/
def rw6 (a b c d e f : Nat → Int) (t : Nat) : Nat → Int := match t with
  | 0 => a
  | 1 => b
  | 2 => c
  | 3 => d
  | 4 => e
  | _ => f
def CT (r13 r14 a b c d e f : Nat → Int) (so le it : Nat → Int) : Prop :=
  r13 = so ∧ r14 = le ∧ ∀ t j : Nat, t < 6 → j < 60 → rw6 a b c d e f t j = it (60 * t + j)
def CA (r10 : Nat → Int) (ran : Int) (bo : Nat → Int) : Prop := (0 ≤ ran ∧ ran ≤ 1000) ∧ r10 20 = ran ∧ ∀ j : Nat, j < 20 → (j : Int) < ran → r10 j = bo j
