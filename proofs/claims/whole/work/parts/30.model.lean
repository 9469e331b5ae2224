/-! what the caches must hold, told by pure functions over the stones and the stands -/
def bit (m j : Nat) : Nat := m / 2 ^ j % 2
def popN (m : Nat) : Nat → Nat
  | 0 => 0
  | k + 1 => popN m k + bit m k
/-- a without b -/
def ms (a b : Nat) : Nat := a &&& (b ^^^ (2 ^ 32 - 1))
/-- stones: how many, centrings, rests, keys -/
abbrev SD : Type := Nat × Nat × (Nat → Nat) × (Nat → Int32)
/-- stands: how many, what each needs, prices, which stones are near -/
abbrev TD : Type := Nat × (Nat → Nat) × (Nat → Nat → Nat) × (Nat → Nat → Bool)
def borD (d : SD) (m i : Nat) : Bool := decide (bit m i = 0 ∧ ms (d.2.2.1 i) m = 0)
def arN (ky : Nat → Int32) (m : Nat) : Nat → Nat
  | 0 => 0
  | j + 1 => if ¬ ky j < 0 ∧ bit m j = 1 ∧ bit m (ky j).toNatClampNeg = 0 then arN ky m j ||| 2 ^ (ky j).toNatClampNeg else arN ky m j
def cenD (d : SD) (m : Nat) : Bool := decide (popN (arN d.2.2.2 m d.1) 20 ≤ d.2.1)
def mayD (d : SD) (m i : Nat) : Bool := borD d m i && cenD d (m ||| 2 ^ i)
/-- a sum -/
def sgN (f : Nat → Nat) : Nat → Nat
  | 0 => 0
  | n + 1 => sgN f n + f n
/-- in how many orders a set comes to be all -/
def BwOK (d : SD) (B : Nat → Nat) : Prop := B (2 ^ d.1 - 1) = 1 ∧ ∀ s, s < 2 ^ d.1 - 1 → B s = sgN (fun i => if mayD d s i = true then B (s ||| 2 ^ i) else 0) d.1
def WayN (d : SD) (wn : Nat → Nat) : Prop := wn 0 ≠ 0 ∧ (∀ s, s < 2 ^ d.1 → wn s ≠ 0 → cenD d s = true) ∧ (∀ s i, s < 2 ^ d.1 → i < d.1 → wn s ≠ 0 → borD d s i = true → cenD d (s ||| 2 ^ i) = true → wn (s ||| 2 ^ i) ≠ 0) ∧ ∀ B, BwOK d B → wn (2 ^ d.1 - 1) = B 0
/-- which stands may be gone to -/
def freeD (t : TD) (set s : Nat) : Bool := decide (ms (t.2.1 s) set = 0)
/-- the least of what laying leaves -/
def bsN (f : Nat → Bool) (v : Nat → Nat) : Nat → Nat
  | 0 => 1000000
  | k + 1 => if f k = true then min (bsN f v k) (v k) else bsN f v k
def baseD (d : SD) (t : TD) (D : Nat → Nat → Nat) (set s : Nat) : Nat := bsN (fun i => t.2.2.2 s i && mayD d set i) (fun i => D (set ||| 2 ^ i) s) d.1
def FixOK (fr : Nat → Bool) (P : Nat → Nat → Nat) (m : Nat) (b c : Nat → Nat) : Prop := (∀ s, s < m → c s ≤ b s) ∧ (∀ s t, s < m → t < m → t ≠ s → fr t = true → c s ≤ P s t + c t) ∧ ∀ s, s < m → c s = b s ∨ ∃ t, t < m ∧ t ≠ s ∧ fr t = true ∧ P s t + c t ≤ c s
/-- the least prices to finish -/
def CostOK (d : SD) (t : TD) (D : Nat → Nat → Nat) : Prop := (∀ s, s < t.1 → D (2 ^ d.1 - 1) s = 0) ∧ (∀ set, set < 2 ^ d.1 - 1 → FixOK (freeD t set) t.2.2.1 t.1 (baseD d t D set) (D set)) ∧ ∀ set s, 2 ^ d.1 ≤ set ∨ t.1 ≤ s → D set s = 0
/-- the first below k that does, or k -/
def fstN (p : Nat → Bool) : Nat → Nat
  | 0 => 0
  | k + 1 => if fstN p k < k then fstN p k else if p k = true then k else k + 1
def layB (d : SD) (t : TD) (D : Nat → Nat → Nat) (set s i : Nat) : Bool := t.2.2.2 s i && (mayD d set i && decide (D (set ||| 2 ^ i) s = D set s))
def goB (t : TD) (D : Nat → Nat → Nat) (set s u : Nat) : Bool := decide (u ≠ s) && (freeD t set u && decide (t.2.2.1 s u + D set u = D set s))
def actD (d : SD) (t : TD) (D : Nat → Nat → Nat) (set s : Nat) : Nat := if fstN (layB d t D set s) d.1 < d.1 then fstN (layB d t D set s) d.1 else 100 + fstN (goB t D set s) t.1
/-- where the plan stands after so many acts -/
def posD (d : SD) (t : TD) (D : Nat → Nat → Nat) : Nat → Nat × Nat
  | 0 => (0, 0)
  | j + 1 => if actD d t D (posD d t D j).1 (posD d t D j).2 < 100 then ((posD d t D j).1 ||| 2 ^ actD d t D (posD d t D j).1 (posD d t D j).2, (posD d t D j).2) else ((posD d t D j).1, actD d t D (posD d t D j).1 (posD d t D j).2 - 100)
def actN (d : SD) (t : TD) (D : Nat → Nat → Nat) (j : Nat) : Nat := actD d t D (posD d t D j).1 (posD d t D j).2
def TrcOK (d : SD) (t : TD) (D : Nat → Nat → Nat) (k : Nat) : Prop := k ≤ 70 ∧ (posD d t D k).1 = 2 ^ d.1 - 1 ∧ ∀ j, j < k → (posD d t D j).1 ≠ 2 ^ d.1 - 1
/-- one below, or none -/
def dwN : Nat → Int32
  | 0 => -1
  | k + 1 => nI k
/-- what laying looks at: stones, their order, hours, rests, light of days, drying -/
abbrev CD : Type := Nat × (Nat → Nat) × (Nat → Nat) × (Nat → Nat) × (Nat → Nat) × Nat
def thN (fz : Nat → Bool) (e : Nat) : Nat := sgN (fun d => if fz d = true then 0 else 1) e
def wkN (C : CD) (fz : Nat → Bool) (e : Nat) : Nat := if e < 80 ∧ fz e = false then C.2.2.2.2.1 e else 0
/-- behind the last day of those on which it rests -/
def bdN (rs : Nat) (lo : Nat → Nat) : Nat → Nat
  | 0 => 0
  | k + 1 => if rs.testBit k = true then max (bdN rs lo k) (lo k + 1) else bdN rs lo k
def dryB (C : CD) (fz : Nat → Bool) (lo : Nat → Nat) (i e : Nat) : Bool := decide (bdN (C.2.2.2.1 i) lo C.1 = 0 ∨ C.2.2.2.2.2 ≤ thN fz e - thN fz (bdN (C.2.2.2.1 i) lo C.1))
def goN (C : CD) (fz : Nat → Bool) (lo : Nat → Nat) (i : Nat) : Nat → Nat → Nat → Nat × Nat
  | 0, e, l => (e, l)
  | f + 1, e, l => if 80 ≤ e then (e, l) else if l < C.2.2.1 i ∨ dryB C fz lo i e = false then goN C fz lo i f (e + 1) (wkN C fz (e + 1)) else (e, l)
/-- so many stones are laid: the day, its hours left, on which days -/
def layN (C : CD) (fz : Nat → Bool) : Nat → Nat × Nat × (Nat → Nat)
  | 0 => (0, wkN C fz 0, fun _ => 80)
  | k + 1 => ((goN C fz (layN C fz k).2.2 (C.2.1 k) 81 (layN C fz k).1 (layN C fz k).2.1).1, (goN C fz (layN C fz k).2.2 (C.2.1 k) 81 (layN C fz k).1 (layN C fz k).2.1).2 - C.2.2.1 (C.2.1 k), fun x => if x = C.2.1 k then (goN C fz (layN C fz k).2.2 (C.2.1 k) 81 (layN C fz k).1 (layN C fz k).2.1).1 else (layN C fz k).2.2 x)
def endN (C : CD) (fz : Nat → Bool) : Nat := (layN C fz C.1).1
def plusF (fz : Nat → Bool) (a : Nat) : Nat → Bool := fun e => fz e || decide (e = a)
/-- the stones in the order of the acts -/
def ofN (d : SD) (t : TD) (D : Nat → Nat → Nat) : Nat → Nat × (Nat → Nat)
  | 0 => (0, fun x => x)
  | j + 1 => if actN d t D j < 100 then ((ofN d t D j).1 + 1, fun x => if x = (ofN d t D j).1 then actN d t D j else (ofN d t D j).2 x) else ofN d t D j
def OrdOK (d : SD) (t : TD) (ord : Nat → Nat) : Prop := (t.1 = 0 ∧ ord = fun x => x) ∨ (t.1 ≠ 0 ∧ ∃ D, CostOK d t D ∧ ((1000000 ≤ D 0 0 ∧ ord = fun x => x) ∨ (D 0 0 < 1000000 ∧ ∃ kn, TrcOK d t D kn ∧ ord = (ofN d t D kn).2)))
def cdN (d : SD) (ord : Nat → Nat) (hours lights : Nat → Int32) (drying : Int32) : CD := (d.1, ord, (fun j => if j < d.1 then (hours j).toNatClampNeg else 0), d.2.2.1, (fun e => if e < 80 then (lights e).toNatClampNeg else 0), drying.toNatClampNeg)
def fzN (frozen : Nat → Int32) : Nat → Bool := fun e => decide (e < 80 ∧ frozen e ≠ 0)
/-- the first of the largest among the first N; w is 0 if there is none, else one more -/
def BestOK (V : Nat → Bool) (val : Nat → Nat) (N w q : Nat) : Prop := (w = 0 ∧ ∀ p, p < N → V p = false) ∨ (∃ e, w = e + 1 ∧ q < N ∧ V q = true ∧ val q = e ∧ ∀ p, p < N → V p = true → val p ≤ e ∧ (p < q → val p < e))
def V1 (fz : Nat → Bool) (a : Nat) : Bool := !fz a
def val1 (C : CD) (fz : Nat → Bool) (a : Nat) : Nat := endN C (plusF fz a)
def V2 (fz : Nat → Bool) (q : Nat) : Bool := decide (q / 60 < q % 60) && (!fz (q / 60) && !fz (q % 60))
def val2 (C : CD) (fz : Nat → Bool) (q : Nat) : Nat := endN C (plusF (plusF fz (q / 60)) (q % 60))
def WRes (C : CD) (fz : Nat → Bool) (f : Nat) (worst first second : Int32) : Prop := (f = 0 ∧ worst = nI (endN C fz)) ∨ (f = 1 ∧ ∃ w q, BestOK (V1 fz) (val1 C fz) 60 w q ∧ worst = dwN w ∧ (w ≠ 0 → first = nI q)) ∨ (f = 2 ∧ ∃ w q, BestOK (V2 fz) (val2 C fz) 3600 w q ∧ worst = dwN w ∧ (w ≠ 0 → first = nI (q / 60) ∧ second = nI (q % 60)))
