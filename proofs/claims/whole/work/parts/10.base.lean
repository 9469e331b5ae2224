/-! A state of either system: ints, longs, int arrays (booleans too), long arrays, lengths; by the numbers that 11.worlds gives -/
abbrev St : Type := (Nat → Int32) × (Nat → Int64) × (Nat → Nat → Int32) × (Nat → Nat → Int64) × (Nat → Nat)
def gi (σ : St) (k : Nat) : Int32 := σ.1 k
def gl (σ : St) (k : Nat) : Int64 := σ.2.1 k
def ga (σ : St) (k : Nat) : Nat → Int32 := σ.2.2.1 k
def gb (σ : St) (k : Nat) : Nat → Int64 := σ.2.2.2.1 k
def gn (σ : St) (k : Nat) : Nat := σ.2.2.2.2 k
def si (σ : St) (k : Nat) (v : Int32) : St := (fun j => if j = k then v else σ.1 j, σ.2)
def sl (σ : St) (k : Nat) (v : Int64) : St := (σ.1, fun j => if j = k then v else σ.2.1 j, σ.2.2)
def saf (σ : St) (k : Nat) (f : Nat → Int32) : St := (σ.1, σ.2.1, fun j => if j = k then f else σ.2.2.1 j, σ.2.2.2)
def sbf (σ : St) (k : Nat) (f : Nat → Int64) : St := (σ.1, σ.2.1, σ.2.2.1, fun j => if j = k then f else σ.2.2.2.1 j, σ.2.2.2.2)
def sn (σ : St) (k : Nat) (n : Nat) : St := (σ.1, σ.2.1, σ.2.2.1, σ.2.2.2.1, fun j => if j = k then n else σ.2.2.2.2 j)
/-- an element of an int array is set -/
def sa (σ : St) (k i : Nat) (v : Int32) : St := saf σ k (upd (ga σ k) i v)
def sb (σ : St) (k i : Nat) (v : Int64) : St := sbf σ k (vp_updL (gb σ k) i v)
/-- how often a loop may be gone through -/
theorem KF_ex : ∃ k : Nat, 300000 ≤ k := ⟨300000, Nat.le_refl _⟩
noncomputable def KF : Nat := Classical.choose KF_ex
theorem KF_ge : 300000 ≤ KF := Classical.choose_spec KF_ex
theorem KF_s : ∃ k : Nat, KF = k + 1 := ⟨KF - 1, by have := KF_ge; omega⟩
theorem ob_some {α β : Type} {x : Option α} {k : α → Option β} {b : β} (h : x.bind k = some b) : ∃ a, x = some a ∧ k a = some b := by
  cases x with
  | none => cases h
  | some a => exact ⟨a, rfl, h⟩
theorem ifp {α : Type} {q : Prop} {inst : Decidable q} {a b x : α} (hc : q) (h : (@ite α q inst a b) = x) : a = x := by rw [if_pos hc] at h; exact h
theorem ifn {α : Type} {q : Prop} {inst : Decidable q} {a b x : α} (hc : ¬ q) (h : (@ite α q inst a b) = x) : b = x := by rw [if_neg hc] at h; exact h
theorem ifs {α : Type} {q : Prop} {inst : Decidable q} {a : Option α} {x : α} (h : (@ite (Option α) q inst a none) = some x) : q ∧ a = some x := by
  by_cases hc : q
  · rw [if_pos hc] at h; exact ⟨hc, h⟩
  · rw [if_neg hc] at h; cases h
theorem if_in {α : Type} {i : Int32} {n : Nat} {a : Option α} {x : α} (h : (if ¬ (i < 0 ∨ n ≤ i.toNatClampNeg) then a else none) = some x) : vp_in i n ∧ a = some x := ifs h
theorem ifd {α : Type} {q : Prop} {inst : Decidable q} {a : Option α} {x : α} (h : (@ite (Option α) q inst none a) = some x) : ¬ q ∧ a = some x := by
  by_cases hc : q
  · rw [if_pos hc] at h; cases h
  · rw [if_neg hc] at h; exact ⟨hc, h⟩
/-! words -/
abbrev CW (y : MethodName) (c : ByteArray) (n : Nat) (ret : Option FieldType) : List Cond := .code y c n ret :: uw
abbrev Rm (fr lo mc ms : Nat) : Room := { frames := fr, cells := mc, slots := ms, locals := lo }
def YI (y : MethodName) (bytes : ByteArray) (maxL : Nat) (ret : Option FieldType) (n : Nat) : Prop := Cond.code y bytes maxL ret ∈ uw ∧ Cond.initialized y.cls ∈ uw ∧ y.cls ≠ "java/lang/invoke/MethodHandle" ∧ y.cls ≠ "java/lang/invoke/VarHandle" ∧ (parseMethodDescriptor y.desc).map (fun d => d.parameters.length) = some n
def YV (y : MethodName) : Prop := Cond.instanceMethod y ∈ uw ∧ Cond.selects y.cls y y ∈ uw
def nestW : List (String × Nat × MethodName × String) := [("WheelCrane", 9, ({ cls := "WheelCrane$Drum", name := "<init>", desc := "()V" } : MethodName), "WheelCrane"), ("WheelCrane", 18, ({ cls := "WheelCrane$Crew", name := "<init>", desc := "()V" } : MethodName), "WheelCrane"), ("WheelCrane", 25, ({ cls := "WheelCrane$Ropes", name := "<init>", desc := "()V" } : MethodName), "WheelCrane"), ("WheelCrane", 32, ({ cls := "WheelCrane$Row", name := "<init>", desc := "()V" } : MethodName), "WheelCrane"), ("WheelCrane", 39, ({ cls := "WheelCrane$Stones", name := "<init>", desc := "()V" } : MethodName), "WheelCrane"), ("WheelCrane", 71, ({ cls := "WheelCrane$Outline", name := "<init>", desc := "()V" } : MethodName), "WheelCrane"), ("WheelCrane$Drum", 30, ({ cls := "WheelCrane", name := "cut", desc := "(JJ)J" } : MethodName), "WheelCrane"), ("WheelCrane$Ropes", 33, ({ cls := "WheelCrane", name := "cut", desc := "(JJ)J" } : MethodName), "WheelCrane")]
def NU (U : State) : Prop := ∀ q ∈ nestW, va_Nw (.methodLinkNest q.1 q.2.1 q.2.2.1 q.2.2.2) U
theorem NU.warm {s U : State} (hW : s.WarmedH U.vm) (h : NU s) : NU U := fun q hq => va_Nw.warmM hW (h q hq)
theorem NU.same {u U : State} (e : u.vm = U.vm) (h : NU u) : NU U := fun q hq => va_Nw.same rfl e (h q hq)
abbrev tyU (cy : Nat → ClassId) : List (ClassId × FieldType) := [(cy 0, .int), (cy 1, .long), (cy 2, .boolean), (cy 3, .array .int)]
def KU (D : va_G) (cy : Nat → ClassId) (U : State) : Prop := va_K D vwCl (tyU cy) U ∧ NU U
theorem KU.warm {D : va_G} {cy : Nat → ClassId} {s U : State} (hW : s.WarmedH U.vm) (h : KU D cy s) : KU D cy U := ⟨va_K.moved hW.alike h.1, h.2.warm hW⟩
theorem KU.calling {D : va_G} {cy : Nat → ClassId} {U : State} {g : JFrame} {mk : MethodId} {a : Array Value} (h : KU D cy U) : KU D cy (U.calling g mk a) := ⟨va_K.moved (u := U) (U := U.calling g mk a) (Vm.Alike.refl U.vm) h.1, h.2.same rfl⟩
/-! contracts -/
def UP (D : va_G) (cy : Nat → ClassId) (ws : va_W) (sz : Nat) (U : State) : Prop := U.heap.size = sz ∧ va_P D vwCl ws U.heap ∧ KU D cy U ∧ va_D (fun _ => True) ws
def UB (D : va_G) (wd : Nat → Nat → St → va_W) (A : Nat → Prop) (σ' : St) (u : Nat × Nat) (t : State) : Prop := va_P D vwCl (wd u.1 u.2 σ') t.heap ∧ va_D A (wd u.1 u.2 σ')
/-- a method that makes nothing leaves the two rows that may be made anew where they are -/
def UQ (mc aw ac : Nat) (u : Nat × Nat) : Prop := mc = 0 → u = (aw, ac)
/-- an int (a boolean) is answered -/
def Ci (l : Launch) (D : va_G) (cy : Nat → ClassId) (wd : Nat → Nat → St → va_W) (y : MethodName) (c : ByteArray) (n : Nat) (ty : FieldType) (fr lo : Nat) (As : List Value) (σ : St) (r : Int32) (σ' : St) (mc ms : Nat) : Prop :=
  ∀ (aw ac sz : Nat), Met l y (CW y c n (some ty)) (Rm fr lo mc ms) (va_Pc As (UP D cy (wd aw ac σ) sz)) (va_Qi (fun r' (u : Nat × Nat) => r' = r ∧ UQ mc aw ac u) (UB D wd (va_A (wd aw ac σ) sz) σ') (va_A (wd aw ac σ) sz)) mc ms (va_A (wd aw ac σ) sz)
/-- a long is answered -/
def Cl (l : Launch) (D : va_G) (cy : Nat → ClassId) (wd : Nat → Nat → St → va_W) (y : MethodName) (c : ByteArray) (n : Nat) (fr lo : Nat) (As : List Value) (σ : St) (r : Int64) (σ' : St) (mc ms : Nat) : Prop :=
  ∀ (aw ac sz : Nat), Met l y (CW y c n (some .long)) (Rm fr lo mc ms) (va_Pc As (UP D cy (wd aw ac σ) sz)) (va_Ql (fun r' (u : Nat × Nat) => r' = r ∧ UQ mc aw ac u) (UB D wd (va_A (wd aw ac σ) sz) σ') (va_A (wd aw ac σ) sz)) mc ms (va_A (wd aw ac σ) sz)
/-- nothing is answered -/
def Cv (l : Launch) (D : va_G) (cy : Nat → ClassId) (wd : Nat → Nat → St → va_W) (y : MethodName) (c : ByteArray) (n : Nat) (fr lo : Nat) (As : List Value) (σ : St) (σ' : St) (mc ms : Nat) : Prop :=
  ∀ (aw ac sz : Nat), Met l y (CW y c n none) (Rm fr lo mc ms) (va_Pc As (UP D cy (wd aw ac σ) sz)) (va_Qv (fun (u : Nat × Nat) => UQ mc aw ac u) (UB D wd (va_A (wd aw ac σ) sz) σ') (va_A (wd aw ac σ) sz)) mc ms (va_A (wd aw ac σ) sz)
def Zi (D : va_G) (wd : Nat → Nat → St → va_W) (A : Nat → Prop) (r : Int32) (σ' : St) (aw ac : Nat) (below : List Frame) (a : Array Value) (s : State) (mc ms : Nat) : State → Prop := MQ below (va_Qi (fun r' (u : Nat × Nat) => r' = r ∧ UQ mc aw ac u) (UB D wd A σ') A) a s mc ms A
def Zl (D : va_G) (wd : Nat → Nat → St → va_W) (A : Nat → Prop) (r : Int64) (σ' : St) (aw ac : Nat) (below : List Frame) (a : Array Value) (s : State) (mc ms : Nat) : State → Prop := MQ below (va_Ql (fun r' (u : Nat × Nat) => r' = r ∧ UQ mc aw ac u) (UB D wd A σ') A) a s mc ms A
def Zv (D : va_G) (wd : Nat → Nat → St → va_W) (A : Nat → Prop) (σ' : St) (aw ac : Nat) (below : List Frame) (a : Array Value) (s : State) (mc ms : Nat) : State → Prop := MQ below (va_Qv (fun (u : Nat × Nat) => UQ mc aw ac u) (UB D wd A σ') A) a s mc ms A
/-- the world of a method that touches no cell -/
def wN : Nat → Nat → St → va_W := fun _ _ _ => []
section ENTER
variable {l : Launch} {D : va_G} {cy : Nat → ClassId} {wd : Nat → Nat → St → va_W} {y : MethodName} {cc : ByteArray} {n fr lo mc ms : Nat} {As : List Value} {σ σ' : St}
theorem Ci.enter {ty : FieldType} {r : Int32} (hy : plainName y.cls = true) (hlen : (lg_sl As).length ≤ n)
    (body : ∀ (aw ac : Nat) (p : Program) (e : Env) (s : State) (m : MethodId) (below : List Frame) (meth : Method) (c : Code) (A : Nat → Prop) (H : Heap) (locs : List Loc), CallFix p m c cc n s As.toArray (CW y cc n (some ty)) y.cls → meth.sig.returnType = some ty → meth.locks = false → (∀ q, s.heap.size ≤ q → A q) → KU D cy s → va_P D vwCl (wd aw ac σ) H → va_D A (wd aw ac σ) → va_S A s.heap H locs → ∀ ls : Array Slot, lv_has ls n (lv_args 0 As) →
      W p l e (Rm fr lo mc ms) s m As.toArray below meth c H locs 0 0 (Zi D wd A r σ' aw ac below As.toArray s mc ms) (F0 m 0 ls [])) : Ci l D cy wd y cc n ty fr lo As σ r σ' mc ms := by
  intro aw ac sz
  refine Met.ofW (cc := cc) (maxL := n) (ret := some ty) hy rfl ?_
  intro p e s m args below meth c s₁ B hml hv
  obtain ⟨rfl, rfl, hP, hK, hD0⟩ := hv
  have hD := hD0.self (sz := s.heap.size)
  have hA : ∀ q : Nat, s.heap.size ≤ q → va_A (wd aw ac σ) s.heap.size q := fun q h => Or.inr h
  have hl := lv_entry As (n := n) hlen
  rw [lg_entry_eq]
  exact body aw ac p e s m below meth c _ _ _ ⟨B.exec, B.bytes, hml, findClass_of_methodNamed B.named, atoms_spec B.pre⟩ B.returns B.notSynchronized hA hK hP hD va_S.rf _ hl
theorem Cl.enter {r : Int64} (hy : plainName y.cls = true) (hlen : (lg_sl As).length ≤ n)
    (body : ∀ (aw ac : Nat) (p : Program) (e : Env) (s : State) (m : MethodId) (below : List Frame) (meth : Method) (c : Code) (A : Nat → Prop) (H : Heap) (locs : List Loc), CallFix p m c cc n s As.toArray (CW y cc n (some .long)) y.cls → meth.sig.returnType = some .long → meth.locks = false → (∀ q, s.heap.size ≤ q → A q) → KU D cy s → va_P D vwCl (wd aw ac σ) H → va_D A (wd aw ac σ) → va_S A s.heap H locs → ∀ ls : Array Slot, lv_has ls n (lv_args 0 As) →
      W p l e (Rm fr lo mc ms) s m As.toArray below meth c H locs 0 0 (Zl D wd A r σ' aw ac below As.toArray s mc ms) (F0 m 0 ls [])) : Cl l D cy wd y cc n fr lo As σ r σ' mc ms := by
  intro aw ac sz
  refine Met.ofW (cc := cc) (maxL := n) (ret := some .long) hy rfl ?_
  intro p e s m args below meth c s₁ B hml hv
  obtain ⟨rfl, rfl, hP, hK, hD0⟩ := hv
  have hD := hD0.self (sz := s.heap.size)
  have hA : ∀ q : Nat, s.heap.size ≤ q → va_A (wd aw ac σ) s.heap.size q := fun q h => Or.inr h
  have hl := lv_entry As (n := n) hlen
  rw [lg_entry_eq]
  exact body aw ac p e s m below meth c _ _ _ ⟨B.exec, B.bytes, hml, findClass_of_methodNamed B.named, atoms_spec B.pre⟩ B.returns B.notSynchronized hA hK hP hD va_S.rf _ hl
theorem Cv.enter (hy : plainName y.cls = true) (hlen : (lg_sl As).length ≤ n)
    (body : ∀ (aw ac : Nat) (p : Program) (e : Env) (s : State) (m : MethodId) (below : List Frame) (meth : Method) (c : Code) (A : Nat → Prop) (H : Heap) (locs : List Loc), CallFix p m c cc n s As.toArray (CW y cc n none) y.cls → meth.sig.returnType = none → meth.locks = false → (∀ q, s.heap.size ≤ q → A q) → KU D cy s → va_P D vwCl (wd aw ac σ) H → va_D A (wd aw ac σ) → va_S A s.heap H locs → ∀ ls : Array Slot, lv_has ls n (lv_args 0 As) →
      W p l e (Rm fr lo mc ms) s m As.toArray below meth c H locs 0 0 (Zv D wd A σ' aw ac below As.toArray s mc ms) (F0 m 0 ls [])) : Cv l D cy wd y cc n fr lo As σ σ' mc ms := by
  intro aw ac sz
  refine Met.ofW (cc := cc) (maxL := n) (ret := none) hy rfl ?_
  intro p e s m args below meth c s₁ B hml hv
  obtain ⟨rfl, rfl, hP, hK, hD0⟩ := hv
  have hD := hD0.self (sz := s.heap.size)
  have hA : ∀ q : Nat, s.heap.size ≤ q → va_A (wd aw ac σ) s.heap.size q := fun q h => Or.inr h
  have hl := lv_entry As (n := n) hlen
  rw [lg_entry_eq]
  exact body aw ac p e s m below meth c _ _ _ ⟨B.exec, B.bytes, hml, findClass_of_methodNamed B.named, atoms_spec B.pre⟩ B.returns B.notSynchronized hA hK hP hD va_S.rf _ hl
end ENTER
section RETCALL
variable {p : Program} {l : Launch} {e : Env} {R : Room} {s : State} {m : MethodId} {args : Array Value} {below : List Frame} {meth : Method} {c : Code} {H : Heap} {locs : List Loc} {cells slots : Nat} {Q : State → Prop}
variable {D : va_G} {cy : Nat → ClassId} {wd : Nat → Nat → St → va_W} {A : Nat → Prop} {cc : ByteArray} {aw ac aw0 ac0 pc : Nat} {ls : Array Slot} {σ σ' : St}
theorem u_iret {v : Int32} {ty : FieldType} (hx : p.tables.exec = Jvm.exec) (hb : c.code = cc) (hr : meth.sig.returnType = some ty) (hlocks : meth.locks = false) (hn : narrow ty (.int v) = .int v) (hP : va_P D vwCl (wd aw ac σ) H) (hD : va_D A (wd aw ac σ)) (hS : va_S A s.heap H locs) (hdg : decode cc pc = .ok (.ireturn, 1)) (hu : UQ cells aw0 ac0 (aw, ac)) : W p l e R s m args below meth c H locs cells slots (Zi D wd A v σ aw0 ac0 below args s cells slots) (F0 m pc ls [.int v]) :=
  W.zret hx hb hr hn (fun t ht _ => ⟨⟨v, (aw, ac), rfl, ⟨rfl, hu⟩, by rw [ht]; exact hP, hD⟩, hS.F ht⟩) hS.2.2 hdg hlocks
theorem u_lret {v : Int64} (hx : p.tables.exec = Jvm.exec) (hb : c.code = cc) (hr : meth.sig.returnType = some .long) (hlocks : meth.locks = false) (hP : va_P D vwCl (wd aw ac σ) H) (hD : va_D A (wd aw ac σ)) (hS : va_S A s.heap H locs) (hdg : decode cc pc = .ok (.lreturn, 1)) (hu : UQ cells aw0 ac0 (aw, ac)) : W p l e R s m args below meth c H locs cells slots (Zl D wd A v σ aw0 ac0 below args s cells slots) (F0 m pc ls [.long v]) :=
  W.lret hx hb hr (fun t ht _ => ⟨⟨v, (aw, ac), rfl, ⟨rfl, hu⟩, by rw [ht]; exact hP, hD⟩, hS.F ht⟩) hS.2.2 hdg hlocks
theorem u_vret (hx : p.tables.exec = Jvm.exec) (hb : c.code = cc) (hr : meth.sig.returnType = none) (hlocks : meth.locks = false) (hP : va_P D vwCl (wd aw ac σ) H) (hD : va_D A (wd aw ac σ)) (hS : va_S A s.heap H locs) (hdg : decode cc pc = .ok (.return_, 1)) (hu : UQ cells aw0 ac0 (aw, ac)) : W p l e R s m args below meth c H locs cells slots (Zv D wd A σ aw0 ac0 below args s cells slots) (F0 m pc ls []) :=
  W.vret hx hb hr (fun t ht _ => ⟨⟨(aw, ac), rfl, hu, by rw [ht]; exact hP, hD⟩, hS.F ht⟩) hS.2.2 hdg hlocks
theorem u_in {H0 : Heap} {ws : va_W} (hD : va_D A ws) (hS : va_S A H0 H locs) (hA : ∀ q, H0.size ≤ q → A q) : ∀ q, va_A ws H.size q → A q := fun q h => by
  rcases h with ⟨k, e, hk⟩ | h
  · exact hD.2 k (q, e) hk
  · exact hA q (Nat.le_trans hS.1 h)
theorem u_blind {ws : va_W} {sz : Nat} {As : List Value} : FrameBlind (va_Pc As (UP D cy ws sz)) := fun a U g mk q => by
  obtain ⟨q0, q1, qP, qK, qD⟩ := q
  exact ⟨q0, q1, qP, qK.calling, qD⟩
theorem u_pre {ws : va_W} {As : List Value} (hK : KU D cy s) (hP : va_P D vwCl ws H) (hD : va_D A ws) : ∀ U : State, U.heap = H → s.WarmedH U.vm → va_Pc As (UP D cy ws H.size) As.toArray U := fun U hU hW => ⟨rfl, by rw [hU], by rw [hU]; exact hP, hK.warm hW, hD.weaken (fun _ _ _ _ => trivial)⟩
variable {c0 : Cond} {own : String} {nL idx maxL fr lo mc ms n : Nat} {y : MethodName} {bytes : ByteArray} {ret : Option FieldType} {b : Nat} {As rest : List Value} {H0 : Heap}
theorem u_cwB (hts : ∀ w ∈ (c0 :: uw), w.before args s = true) (I : YI y bytes maxL ret n) (hl : Cond.methodLink own idx y ∈ uw) (hR : fr + 1 ≤ R.frames ∧ 8 + (maxL + 11) + lo ≤ R.locals) : CallB R s args own idx y bytes maxL ret (CW y bytes maxL ret) (Rm fr lo mc ms) mc ms n :=
  callB_of n hts (uw_good I.1) rfl rfl rfl (hts _ (List.mem_cons_of_mem _ I.2.1)) (hts _ (List.mem_cons_of_mem _ hl)) ⟨I.2.2.1, I.2.2.2.1, I.2.2.2.2⟩ hR
theorem u_runV {Qc : Array Value → State → Outcome → State → Prop} {ws : va_W} {ci q0 N : Nat} {T : u_T} {fs : List Value} (S : CallFix p m c cc nL s args (c0 :: uw) own) (hM : Met l y (CW y bytes maxL ret) (Rm fr lo mc ms) (va_Pc (.ref b :: As) (UP D cy ws H.size)) Qc mc ms (va_A ws H.size)) (I : YI y bytes maxL ret n) (V : YV y) (hl : Cond.methodLink own idx y ∈ uw) (hR : fr + 1 ≤ R.frames ∧ 8 + (maxL + 11) + lo ≤ R.locals) (hK : KU D cy s) (hP : va_P D vwCl ws H) (hD : va_D A ws) (he : ws[q0]? = some (b, .inr (ci, fs))) (hc : vwCl[ci]? = some (y.cls, T, N)) (hn : As.length = n) (hsz : ls.size = nL) (hrest : (rest.map fun v => v.category).sum ≤ 8) (hdg : decode cc pc = .ok (.invokevirtual idx, 3)) (hf : cells + mc ≤ R.cells ∧ slots + ms ≤ R.slots) :
    va_Run p l e R s m args below meth c H locs cells slots mc ms (F0 m pc ls (As.reverse ++ .ref b :: rest)) rest (Qc (Value.ref b :: As).toArray) (va_A ws H.size) :=
  va_runV S hM ⟨u_cwB S.2.2.2.2 I hl hR, S.2.2.2.2 _ (List.mem_cons_of_mem _ V.1), S.2.2.2.2 _ (List.mem_cons_of_mem _ V.2)⟩ ⟨u_blind, va_recv hK.1 hP hc he, u_pre hK hP hD⟩ rfl hn hsz rfl (lv_room hrest) hdg hf
theorem u_runS {Qc : Array Value → State → Outcome → State → Prop} {ws : va_W} (S : CallFix p m c cc nL s args (c0 :: uw) own) (hM : Met l y (CW y bytes maxL ret) (Rm fr lo mc ms) (va_Pc As (UP D cy ws H.size)) Qc mc ms (va_A ws H.size)) (I : YI y bytes maxL ret n) (V : Cond.static y ∈ uw) (hl : Cond.methodLink own idx y ∈ uw) (hR : fr + 1 ≤ R.frames ∧ 8 + (maxL + 11) + lo ≤ R.locals) (hK : KU D cy s) (hP : va_P D vwCl ws H) (hD : va_D A ws) (hn : As.length = n) (hsz : ls.size = nL) (hrest : (rest.map fun v => v.category).sum ≤ 8) (hdg : decode cc pc = .ok (.invokestatic idx, 3)) (hf : cells + mc ≤ R.cells ∧ slots + ms ≤ R.slots) :
    va_Run p l e R s m args below meth c H locs cells slots mc ms (F0 m pc ls (As.reverse ++ rest)) rest (Qc As.toArray) (va_A ws H.size) :=
  va_runS S hM ⟨u_cwB S.2.2.2.2 I hl hR, S.2.2.2.2 _ (List.mem_cons_of_mem _ V)⟩ ⟨u_blind, u_pre hK hP hD⟩ rfl hn hsz rfl (lv_room hrest) hdg hf
theorem u_runSN {Qc : Array Value → State → Outcome → State → Prop} {ws : va_W} {host : String} (S : CallFix p m c cc nL s args (c0 :: uw) own) (hM : Met l y (CW y bytes maxL ret) (Rm fr lo mc ms) (va_Pc As (UP D cy ws H.size)) Qc mc ms (va_A ws H.size)) (I : YI y bytes maxL ret n) (V : Cond.static y ∈ uw) (hl : (own, idx, y, host) ∈ nestW) (hR : fr + 1 ≤ R.frames ∧ 8 + (maxL + 11) + lo ≤ R.locals) (hK : KU D cy s) (hP : va_P D vwCl ws H) (hD : va_D A ws) (hn : As.length = n) (hsz : ls.size = nL) (hrest : (rest.map fun v => v.category).sum ≤ 8) (hdg : decode cc pc = .ok (.invokestatic idx, 3)) (hf : cells + mc ≤ R.cells ∧ slots + ms ≤ R.slots) :
    va_Run p l e R s m args below meth c H locs cells slots mc ms (F0 m pc ls (As.reverse ++ rest)) rest (Qc As.toArray) (va_A ws H.size) :=
  va_runSN S hM ⟨va_cnB n S.2.2.2.2 (uw_good I.1) rfl rfl rfl (hK.2 _ hl) (S.2.2.2.2 _ (List.mem_cons_of_mem _ I.2.1)) ⟨I.2.2.1, I.2.2.2.1, I.2.2.2.2⟩ hR, S.2.2.2.2 _ (List.mem_cons_of_mem _ V), trivial⟩ ⟨u_blind, u_pre hK hP hD⟩ rfl hn hsz rfl (lv_room hrest) hdg hf
variable {st0 : List Value} {a : Array Value}
/-- behind a call of the same world -/
theorem u_calli {r : Int32} (hr : va_Run p l e R s m args below meth c H locs cells slots mc ms (F0 m pc ls st0) rest (va_Qi (fun r' (u : Nat × Nat) => r' = r ∧ UQ mc aw ac u) (UB D wd (va_A (wd aw ac σ) H.size) σ') (va_A (wd aw ac σ) H.size) a) (va_A (wd aw ac σ) H.size)) (hD : va_D A (wd aw ac σ)) (hS : va_S A H0 H locs) (hA : ∀ q, H0.size ≤ q → A q)
    (kk : ∀ (aw' ac' : Nat) (H : Heap) (locs : List Loc), UQ mc aw ac (aw', ac') → va_P D vwCl (wd aw' ac' σ') H → va_D A (wd aw' ac' σ') → va_S A H0 H locs → W p l e R s m args below meth c H locs (cells + mc) (slots + ms) Q (F0 m (pc + 3) ls (.int r :: rest))) : W p l e R s m args below meth c H locs cells slots Q (F0 m pc ls st0) :=
  va_calli hr hS (fun q _ h => u_in hD hS hA q h) (u_in hD hS hA) (fun r' u t H1 locs1 ht _ hw hB _ _ hS1 => by
    obtain ⟨rfl, hu⟩ := hw
    exact kk u.1 u.2 H1 locs1 hu (by rw [← ht]; exact hB.1) (hB.2.weaken (fun _ _ _ h => u_in hD hS hA _ h)) hS1)
theorem u_calll {r : Int64} (hr : va_Run p l e R s m args below meth c H locs cells slots mc ms (F0 m pc ls st0) rest (va_Ql (fun r' (u : Nat × Nat) => r' = r ∧ UQ mc aw ac u) (UB D wd (va_A (wd aw ac σ) H.size) σ') (va_A (wd aw ac σ) H.size) a) (va_A (wd aw ac σ) H.size)) (hD : va_D A (wd aw ac σ)) (hS : va_S A H0 H locs) (hA : ∀ q, H0.size ≤ q → A q)
    (kk : ∀ (aw' ac' : Nat) (H : Heap) (locs : List Loc), UQ mc aw ac (aw', ac') → va_P D vwCl (wd aw' ac' σ') H → va_D A (wd aw' ac' σ') → va_S A H0 H locs → W p l e R s m args below meth c H locs (cells + mc) (slots + ms) Q (F0 m (pc + 3) ls (.long r :: rest))) : W p l e R s m args below meth c H locs cells slots Q (F0 m pc ls st0) :=
  va_calll hr hS (fun q _ h => u_in hD hS hA q h) (u_in hD hS hA) (fun r' u t H1 locs1 ht _ hw hB _ _ hS1 => by
    obtain ⟨rfl, hu⟩ := hw
    exact kk u.1 u.2 H1 locs1 hu (by rw [← ht]; exact hB.1) (hB.2.weaken (fun _ _ _ h => u_in hD hS hA _ h)) hS1)
theorem u_callv (hr : va_Run p l e R s m args below meth c H locs cells slots mc ms (F0 m pc ls st0) rest (va_Qv (fun (u : Nat × Nat) => UQ mc aw ac u) (UB D wd (va_A (wd aw ac σ) H.size) σ') (va_A (wd aw ac σ) H.size) a) (va_A (wd aw ac σ) H.size)) (hD : va_D A (wd aw ac σ)) (hS : va_S A H0 H locs) (hA : ∀ q, H0.size ≤ q → A q)
    (kk : ∀ (aw' ac' : Nat) (H : Heap) (locs : List Loc), UQ mc aw ac (aw', ac') → va_P D vwCl (wd aw' ac' σ') H → va_D A (wd aw' ac' σ') → va_S A H0 H locs → W p l e R s m args below meth c H locs (cells + mc) (slots + ms) Q (F0 m (pc + 3) ls rest)) : W p l e R s m args below meth c H locs cells slots Q (F0 m pc ls st0) :=
  va_callv hr hS (fun q _ h => u_in hD hS hA q h) (u_in hD hS hA) (fun u t H1 locs1 ht _ hu hB _ _ hS1 => by
    exact kk u.1 u.2 H1 locs1 hu (by rw [← ht]; exact hB.1) (hB.2.weaken (fun _ _ _ h => u_in hD hS hA _ h)) hS1)
/-! behind a call of a method that touches no cell -/
theorem wN_P : va_P D vwCl (wN aw ac σ) H := fun k q h => by simp [wN] at h
theorem wN_D : va_D A (wN aw ac σ) := ⟨fun i j p q h => by simp [wN] at h, fun k q h => by simp [wN] at h⟩
theorem p_calli {σn : St} {awn acn : Nat} {r : Int32} (hr : va_Run p l e R s m args below meth c H locs cells slots mc ms (F0 m pc ls st0) rest (va_Qi (fun r' (u : Nat × Nat) => r' = r ∧ UQ mc awn acn u) (UB D wN (va_A (wN awn acn σn) H.size) σn) (va_A (wN awn acn σn) H.size) a) (va_A (wN awn acn σn) H.size)) (hP : va_P D vwCl (wd aw ac σ) H) (hS : va_S A H0 H locs) (hA : ∀ q, H0.size ≤ q → A q)
    (kk : ∀ (H : Heap) (locs : List Loc), va_P D vwCl (wd aw ac σ) H → va_S A H0 H locs → W p l e R s m args below meth c H locs (cells + mc) (slots + ms) Q (F0 m (pc + 3) ls (.int r :: rest))) : W p l e R s m args below meth c H locs cells slots Q (F0 m pc ls st0) :=
  va_calli hr hS (fun q _ h => u_in wN_D hS hA q h) (u_in wN_D hS hA) (fun r' u t H1 locs1 ht _ hw _ _ hk hS1 => by
    obtain ⟨rfl, hu⟩ := hw
    refine kk H1 locs1 (hP.kept (fun k q hq => hk q.1 ((hP k q hq).lt) (fun h => ?_))) hS1
    rcases h with ⟨k', e', h'⟩ | h
    · simp [wN] at h'
    · exact absurd ((hP k q hq).lt) (Nat.not_lt.mpr h))
theorem p_calll {σn : St} {awn acn : Nat} {r : Int64} (hr : va_Run p l e R s m args below meth c H locs cells slots mc ms (F0 m pc ls st0) rest (va_Ql (fun r' (u : Nat × Nat) => r' = r ∧ UQ mc awn acn u) (UB D wN (va_A (wN awn acn σn) H.size) σn) (va_A (wN awn acn σn) H.size) a) (va_A (wN awn acn σn) H.size)) (hP : va_P D vwCl (wd aw ac σ) H) (hS : va_S A H0 H locs) (hA : ∀ q, H0.size ≤ q → A q)
    (kk : ∀ (H : Heap) (locs : List Loc), va_P D vwCl (wd aw ac σ) H → va_S A H0 H locs → W p l e R s m args below meth c H locs (cells + mc) (slots + ms) Q (F0 m (pc + 3) ls (.long r :: rest))) : W p l e R s m args below meth c H locs cells slots Q (F0 m pc ls st0) :=
  va_calll hr hS (fun q _ h => u_in wN_D hS hA q h) (u_in wN_D hS hA) (fun r' u t H1 locs1 ht _ hw _ _ hk hS1 => by
    obtain ⟨rfl, hu⟩ := hw
    refine kk H1 locs1 (hP.kept (fun k q hq => hk q.1 ((hP k q hq).lt) (fun h => ?_))) hS1
    rcases h with ⟨k', e', h'⟩ | h
    · simp [wN] at h'
    · exact absurd ((hP k q hq).lt) (Nat.not_lt.mpr h))
end RETCALL
