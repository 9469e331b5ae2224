/-! the relation between a state σ of the class and a state τ of the reference -/
def prX (σ : St) : Nat → Nat → Int32 := fun a b => match a with
  | 0 => ga σ 27 b
  | 1 => ga σ 28 b
  | 2 => ga σ 29 b
  | 3 => ga σ 30 b
  | _ => ga σ 31 b
theorem prX_eq (σ : St) {a : Nat} (h : a < 5) (b : Nat) : ga σ (27 + a) b = prX σ a b := by
  match a, h with
  | 0, _ => rfl
  | 1, _ => rfl
  | 2, _ => rfl
  | 3, _ => rfl
  | 4, _ => rfl
def RDrum (σ τ : St) : Prop := ∃ g s a f t n : Nat, (gi σ 0 = nI g ∧ gi τ 0 = nI g ∧ 100 ≤ g ∧ g ≤ 2000) ∧ (gi σ 1 = nI s ∧ gi τ 1 = nI s ∧ 10 ≤ s ∧ s ≤ 60) ∧ (gi σ 2 = nI a ∧ gi τ 2 = nI a ∧ 10 ≤ a ∧ a ≤ 200) ∧ (gi σ 3 = nI f ∧ gi τ 3 = nI f ∧ f ≤ 100) ∧ (gi σ 4 = nI t ∧ gi τ 4 = nI t ∧ t ≤ 10) ∧ (gi σ 5 = nI n ∧ gi τ 5 = nI n ∧ 1 ≤ n ∧ n ≤ 20)
def RCrew (σ τ : St) : Prop := ∃ n : Nat, n ≤ 8 ∧ gi σ 6 = nI n ∧ gi τ 6 = nI n ∧ ∀ j, j < n → ∃ w b : Nat, w ≤ 150 ∧ b ≤ 5000 ∧ ga σ 10 j = nI w ∧ ga τ 1 j = nI w ∧ ga σ 11 j = nI b ∧ ga τ 2 j = nI b
def b01 (x : Int32) : Prop := x = 0 ∨ x = 1
def RRopes (σ τ : St) : Prop := ∃ n : Nat, n ≤ 6 ∧ gi σ 7 = nI n ∧ gi τ 7 = nI n ∧ (∀ j, j < n → ∃ s w : Nat, 100 ≤ s ∧ s ≤ 50000 ∧ w ≤ 1100 ∧ ga σ 12 j = nI s ∧ ga τ 3 j = nI s ∧ ga σ 13 j = nI w ∧ ga τ 4 j = nI w ∧ ga σ 14 j = ga τ 5 j ∧ ga σ 15 j = ga τ 6 j ∧ b01 (ga σ 14 j) ∧ b01 (ga σ 15 j)) ∧ ∀ j, n ≤ j → ga σ 13 j = 0 ∧ ga σ 14 j = 0 ∧ ga σ 15 j = 0
def RRow (σ τ : St) : Prop := ∃ n : Nat, n ≤ 12 ∧ gi σ 8 = nI n ∧ gi τ 8 = nI n ∧ ∀ j, j < n → ∃ v : Nat, 1 ≤ v ∧ v ≤ 50000 ∧ ga σ 16 j = nI v ∧ ga τ 7 j = nI v
/-- the stones as both have them -/
def RStones (σ τ : St) : Prop := ∃ n c : Nat, n ≤ 14 ∧ c ≤ 5 ∧ gi σ 10 = nI n ∧ gi τ 9 = nI n ∧ gi σ 11 = nI c ∧ gi τ 10 = nI c ∧ ∀ j, j < n → ∃ x z h r : Nat, x ≤ 30 ∧ z ≤ 12 ∧ 1 ≤ h ∧ h ≤ 12 ∧ r < 2 ^ j ∧ ga σ 17 j = nI x ∧ ga τ 8 j = nI x ∧ ga σ 18 j = nI z ∧ ga τ 9 j = nI z ∧ ga σ 19 j = nI h ∧ ga τ 10 j = nI h ∧ ga σ 20 j = nI r ∧ ga τ 11 j = nI r ∧ ga σ 21 j = ga τ 12 j ∧ (ga σ 21 j = -1 ∨ ∃ k, k < n ∧ k ≠ j ∧ ga σ 21 j = nI k)
/-- what the class keeps besides of keys: for each stone those of which it is the key, and all keys -/
def RKeys (σ : St) : Prop := ∃ ek : Nat, gi σ 9 = nI ek ∧ ek < 2 ^ 14 ∧ (∀ k, ek.testBit k = true ↔ ∃ j, nI j < gi σ 10 ∧ j < 14 ∧ ga σ 21 j = nI k ∧ k < 14) ∧ ∀ k, k < 14 → ∃ f : Nat, ga σ 22 k = nI f ∧ f < 2 ^ 14 ∧ ∀ j, f.testBit j = true ↔ (nI j < gi σ 10 ∧ j < 14 ∧ ga σ 21 j = nI k)
def RStands (σ τ : St) : Prop := ∃ n r h : Nat, n ≤ 5 ∧ gi σ 12 = nI n ∧ gi τ 11 = nI n ∧ (1 ≤ r ∧ r ≤ 30 ∧ gi σ 13 = nI r ∧ gi τ 12 = nI r) ∧ (1 ≤ h ∧ h ≤ 12 ∧ gi σ 14 = nI h ∧ gi τ 13 = nI h) ∧ (∀ j, j < n → ∃ x z d : Nat, x ≤ 30 ∧ z ≤ 12 ∧ d ≤ 16383 ∧ ga σ 23 j = nI x ∧ ga τ 13 j = nI x ∧ ga σ 24 j = nI z ∧ ga τ 14 j = nI z ∧ ga σ 25 j = nI d ∧ ga τ 15 j = nI d) ∧ ∀ a b, a < 5 → b < 5 → ∃ p : Nat, 1 ≤ p ∧ p ≤ 100 ∧ prX σ a b = nI p ∧ ga τ 16 (5 * a + b) = nI p
def RCal (σ τ : St) : Prop := (∃ m : Nat, m ≤ 10 ∧ gi σ 18 = nI m ∧ gi τ 17 = nI m) ∧ ga σ 38 0 = 0 ∧ ∀ d, d < 80 → ∃ h : Nat, h ≤ 16 ∧ ga σ 36 d = nI h ∧ ga τ 20 d = nI h ∧ ga σ 37 d = ga τ 21 d ∧ b01 (ga σ 37 d)
def ROut (σ τ : St) : Prop := ∃ n : Nat, n ≤ 8 ∧ gi σ 23 = nI n ∧ gi τ 20 = nI n ∧ ∀ j, j < n → ∃ x y : Nat, x ≤ 1000 ∧ y ≤ 1000 ∧ ga σ 41 j = nI x ∧ ga τ 25 j = nI x ∧ ga σ 42 j = nI y ∧ ga τ 26 j = nI y
/-! caches: what they must hold is told by data that are read off a state -/
def sdX (σ : St) : SD := ((gi σ 10).toNatClampNeg, (gi σ 11).toNatClampNeg, (fun j => if j < (gi σ 10).toNatClampNeg then (ga σ 20 j).toNatClampNeg else 0), fun j => if j < (gi σ 10).toNatClampNeg then ga σ 21 j else -1)
def sdM (τ : St) : SD := ((gi τ 9).toNatClampNeg, (gi τ 10).toNatClampNeg, (fun j => if j < (gi τ 9).toNatClampNeg then (ga τ 11 j).toNatClampNeg else 0), fun j => if j < (gi τ 9).toNatClampNeg then ga τ 12 j else -1)
def tdX (σ : St) : TD := ((gi σ 12).toNatClampNeg, (fun s => if s < (gi σ 12).toNatClampNeg then (ga σ 25 s).toNatClampNeg else 0), (fun a b => if a < 5 ∧ b < 5 then (prX σ a b).toNatClampNeg else 1), fun s i => decide (s < (gi σ 12).toNatClampNeg ∧ i < (gi σ 10).toNatClampNeg ∧ ((ga σ 17 i).toInt ≤ (ga σ 23 s).toInt + (gi σ 13).toInt ∧ (ga σ 23 s).toInt ≤ (ga σ 17 i).toInt + (gi σ 13).toInt) ∧ (ga σ 18 i).toInt ≤ (ga σ 24 s).toInt + (gi σ 14).toInt))
def tdM (τ : St) : TD := ((gi τ 11).toNatClampNeg, (fun s => if s < (gi τ 11).toNatClampNeg then (ga τ 15 s).toNatClampNeg else 0), (fun a b => if a < 5 ∧ b < 5 then (ga τ 16 (5 * a + b)).toNatClampNeg else 1), fun s i => decide (s < (gi τ 11).toNatClampNeg ∧ i < (gi τ 9).toNatClampNeg ∧ ((ga τ 8 i).toInt ≤ (ga τ 13 s).toInt + (gi τ 12).toInt ∧ (ga τ 13 s).toInt ≤ (ga τ 8 i).toInt + (gi τ 12).toInt) ∧ (ga τ 9 i).toInt ≤ (ga τ 14 s).toInt + (gi τ 13).toInt))
def WaysOK (d : SD) (len : Nat) (w : Nat → Int64) : Prop := 2 ^ d.1 ≤ len ∧ ∃ wn, WayN d wn ∧ ∀ s, s < 2 ^ d.1 → w s = lN (wn s) ∧ wn s < 2 ^ 62
def ActsOK (d : SD) (t : TD) (D : Nat → Nat → Nat) (k : Int32) (acts : Nat → Int32) : Prop := ∃ kn, TrcOK d t D kn ∧ k = nI kn ∧ ∀ j, j < kn → acts j = nI (actN d t D j)
def PlanOK (d : SD) (t : TD) (price : Int32) (k : Int32) (acts : Nat → Int32) : Prop := ∃ D, CostOK d t D ∧ price = nI (D 0 0) ∧ ((1000000 ≤ D 0 0 ∧ k = 0) ∨ (D 0 0 < 1000000 ∧ ActsOK d t D k acts))
def PlanMOK (d : SD) (t : TD) (price : Int32) (k : Int32) (acts : Nat → Int32) : Prop := (t.1 = 0 ∧ price = -1 ∧ k = 0) ∨ (t.1 ≠ 0 ∧ ∃ D, CostOK d t D ∧ ((1000000 ≤ D 0 0 ∧ price = -1 ∧ k = 0) ∨ (D 0 0 < 1000000 ∧ price = nI (D 0 0) ∧ ActsOK d t D k acts)))
def WorstKnown (d : SD) (t : TD) (hours lights frozen : Nat → Int32) (drying known worst first second : Int32) : Prop := ∃ ord f, OrdOK d t ord ∧ known = nI f ∧ WRes (cdN d ord hours lights drying) (fzN frozen) f worst first second
def WorstOK (d : SD) (t : TD) (hours lights frozen : Nat → Int32) (drying known worst first second : Int32) : Prop := known = -1 ∨ WorstKnown d t hours lights frozen drying known worst first second
def RWays (σ : St) : Prop := b01 (gi σ 16) ∧ (gi σ 16 = 1 → WaysOK (sdX σ) (gn σ 32) (gb σ 32))
def RPlanX (σ : St) : Prop := b01 (gi σ 17) ∧ (gi σ 17 = 1 → gi σ 12 ≠ 0 ∧ PlanOK (sdX σ) (tdX σ) (ga σ 33 0) (gi σ 15) (ga σ 35))
def RPlanM (τ : St) : Prop := b01 (gi τ 14) ∧ (gi τ 14 = 1 → PlanMOK (sdM τ) (tdM τ) (gi τ 16) (gi τ 15) (ga τ 19))
def RWorst (σ : St) : Prop := WorstOK (sdX σ) (tdX σ) (ga σ 19) (ga σ 36) (ga σ 37) (gi σ 18) (gi σ 19) (gi σ 20) (gi σ 21) (gi σ 22)
def RLen (σ : St) : Prop := ∃ a b, a ≤ 14 ∧ b ≤ 14 ∧ gn σ 32 = 2 ^ a ∧ gn σ 33 = 5 * 2 ^ b
def RA (σ τ : St) : Prop := RDrum σ τ ∧ RCrew σ τ ∧ RRopes σ τ ∧ RRow σ τ ∧ ROut σ τ
def RB (σ τ : St) : Prop := RStones σ τ ∧ RKeys σ ∧ RStands σ τ ∧ RCal σ τ
def RC (σ τ : St) : Prop := RWays σ ∧ RPlanX σ ∧ RPlanM τ ∧ RWorst σ ∧ RLen σ
def Rel (σ τ : St) : Prop := RA σ τ ∧ RB σ τ ∧ RC σ τ
/-- both answer, and alike, and go on alike -/
def Two (x y : Option (Int32 × St)) : Prop := ∃ (r : Int32) (σ' τ' : St), x = some (r, σ') ∧ y = some (r, τ') ∧ Rel σ' τ'
def TwoL (x y : Option (Int64 × St)) : Prop := ∃ (r : Int64) (σ' τ' : St), x = some (r, σ') ∧ y = some (r, τ') ∧ Rel σ' τ'
def One (x y : Option Int32) : Prop := ∃ r : Int32, x = some r ∧ y = some r
