section R12
variable {p : Program} {l : Launch} {e : Env} {R : Room} {s : State} {m : MethodId} {args : Array Value} {below : List Frame} {meth : Method} {c : Code} {H : Heap} {locs : List Loc} {cells slots : Nat} {Q : State → Prop}
variable {D : va_G} {cy : Nat → ClassId} {wd : Nat → Nat → St → va_W} {A : Nat → Prop} {cc : ByteArray} {aw ac aw0 ac0 pc : Nat} {ls : Array Slot} {σ σ' : St}
theorem u_iretr {v r : Int32} {ty : FieldType} (hx : p.tables.exec = Jvm.exec) (hb : c.code = cc) (hr : meth.sig.returnType = some ty) (hlocks : meth.locks = false) (hn : narrow ty (.int v) = .int v) (hP : va_P D vwCl (wd aw ac σ) H) (hD : va_D A (wd aw ac σ)) (hS : va_S A s.heap H locs) (hdg : decode cc pc = .ok (.ireturn, 1)) (hf : some v = some r) (hu : UQ cells aw0 ac0 (aw, ac)) : W p l e R s m args below meth c H locs cells slots (Zi D wd A r σ aw0 ac0 below args s cells slots) (F0 m pc ls [.int v]) := by
  cases hf; exact u_iret hx hb hr hlocks hn hP hD hS hdg hu
theorem u_iretw {v : Int32} {q : Int32 × St} {ty : FieldType} (hx : p.tables.exec = Jvm.exec) (hb : c.code = cc) (hr : meth.sig.returnType = some ty) (hlocks : meth.locks = false) (hn : narrow ty (.int v) = .int v) (hP : va_P D vwCl (wd aw ac σ) H) (hD : va_D A (wd aw ac σ)) (hS : va_S A s.heap H locs) (hdg : decode cc pc = .ok (.ireturn, 1)) (hf : some (v, σ) = some q) (hu : UQ cells aw0 ac0 (aw, ac)) : W p l e R s m args below meth c H locs cells slots (Zi D wd A q.1 q.2 aw0 ac0 below args s cells slots) (F0 m pc ls [.int v]) := by
  cases hf; exact u_iret hx hb hr hlocks hn hP hD hS hdg hu
theorem u_lretr {v r : Int64} (hx : p.tables.exec = Jvm.exec) (hb : c.code = cc) (hr : meth.sig.returnType = some .long) (hlocks : meth.locks = false) (hP : va_P D vwCl (wd aw ac σ) H) (hD : va_D A (wd aw ac σ)) (hS : va_S A s.heap H locs) (hdg : decode cc pc = .ok (.lreturn, 1)) (hf : some v = some r) (hu : UQ cells aw0 ac0 (aw, ac)) : W p l e R s m args below meth c H locs cells slots (Zl D wd A r σ aw0 ac0 below args s cells slots) (F0 m pc ls [.long v]) := by
  cases hf; exact u_lret hx hb hr hlocks hP hD hS hdg hu
theorem u_lretw {v : Int64} {q : Int64 × St} (hx : p.tables.exec = Jvm.exec) (hb : c.code = cc) (hr : meth.sig.returnType = some .long) (hlocks : meth.locks = false) (hP : va_P D vwCl (wd aw ac σ) H) (hD : va_D A (wd aw ac σ)) (hS : va_S A s.heap H locs) (hdg : decode cc pc = .ok (.lreturn, 1)) (hf : some (v, σ) = some q) (hu : UQ cells aw0 ac0 (aw, ac)) : W p l e R s m args below meth c H locs cells slots (Zl D wd A q.1 q.2 aw0 ac0 below args s cells slots) (F0 m pc ls [.long v]) := by
  cases hf; exact u_lret hx hb hr hlocks hP hD hS hdg hu
theorem u_vretw {q : St} (hx : p.tables.exec = Jvm.exec) (hb : c.code = cc) (hr : meth.sig.returnType = none) (hlocks : meth.locks = false) (hP : va_P D vwCl (wd aw ac σ) H) (hD : va_D A (wd aw ac σ)) (hS : va_S A s.heap H locs) (hdg : decode cc pc = .ok (.return_, 1)) (hf : some σ = some q) (hu : UQ cells aw0 ac0 (aw, ac)) : W p l e R s m args below meth c H locs cells slots (Zv D wd A q aw0 ac0 below args s cells slots) (F0 m pc ls []) := by
  cases hf; exact u_vret hx hb hr hlocks hP hD hS hdg hu
variable {nL idx : Nat} {rest st0 : List Value} {a : Array Value} {H0 : Heap}
theorem u_calli0 {r : Int32} (hr : va_Run p l e R s m args below meth c H locs cells slots 0 0 (F0 m pc ls st0) rest (va_Qi (fun r' (u : Nat × Nat) => r' = r ∧ UQ 0 aw ac u) (UB D wd (va_A (wd aw ac σ) H.size) σ') (va_A (wd aw ac σ) H.size) a) (va_A (wd aw ac σ) H.size)) (hD : va_D A (wd aw ac σ)) (hS : va_S A H0 H locs) (hA : ∀ q, H0.size ≤ q → A q)
    (kk : ∀ (H : Heap) (locs : List Loc), va_P D vwCl (wd aw ac σ') H → va_D A (wd aw ac σ') → va_S A H0 H locs → W p l e R s m args below meth c H locs cells slots Q (F0 m (pc + 3) ls (.int r :: rest))) : W p l e R s m args below meth c H locs cells slots Q (F0 m pc ls st0) := u_calli hr hD hS hA (fun aw' ac' H locs hu h1 h2 h3 => by cases hu rfl; exact kk H locs h1 h2 h3)
theorem u_calll0 {r : Int64} (hr : va_Run p l e R s m args below meth c H locs cells slots 0 0 (F0 m pc ls st0) rest (va_Ql (fun r' (u : Nat × Nat) => r' = r ∧ UQ 0 aw ac u) (UB D wd (va_A (wd aw ac σ) H.size) σ') (va_A (wd aw ac σ) H.size) a) (va_A (wd aw ac σ) H.size)) (hD : va_D A (wd aw ac σ)) (hS : va_S A H0 H locs) (hA : ∀ q, H0.size ≤ q → A q)
    (kk : ∀ (H : Heap) (locs : List Loc), va_P D vwCl (wd aw ac σ') H → va_D A (wd aw ac σ') → va_S A H0 H locs → W p l e R s m args below meth c H locs cells slots Q (F0 m (pc + 3) ls (.long r :: rest))) : W p l e R s m args below meth c H locs cells slots Q (F0 m pc ls st0) := u_calll hr hD hS hA (fun aw' ac' H locs hu h1 h2 h3 => by cases hu rfl; exact kk H locs h1 h2 h3)
theorem u_callv0 (hr : va_Run p l e R s m args below meth c H locs cells slots 0 0 (F0 m pc ls st0) rest (va_Qv (fun (u : Nat × Nat) => UQ 0 aw ac u) (UB D wd (va_A (wd aw ac σ) H.size) σ') (va_A (wd aw ac σ) H.size) a) (va_A (wd aw ac σ) H.size)) (hD : va_D A (wd aw ac σ)) (hS : va_S A H0 H locs) (hA : ∀ q, H0.size ≤ q → A q)
    (kk : ∀ (H : Heap) (locs : List Loc), va_P D vwCl (wd aw ac σ') H → va_D A (wd aw ac σ') → va_S A H0 H locs → W p l e R s m args below meth c H locs cells slots Q (F0 m (pc + 3) ls rest)) : W p l e R s m args below meth c H locs cells slots Q (F0 m pc ls st0) := u_callv hr hD hS hA (fun aw' ac' H locs hu h1 h2 h3 => by cases hu rfl; exact kk H locs h1 h2 h3)
theorem p_calli0 {σn : St} {awn acn : Nat} {r : Int32} (hr : va_Run p l e R s m args below meth c H locs cells slots 0 0 (F0 m pc ls st0) rest (va_Qi (fun r' (u : Nat × Nat) => r' = r ∧ UQ 0 awn acn u) (UB D wN (va_A (wN awn acn σn) H.size) σn) (va_A (wN awn acn σn) H.size) a) (va_A (wN awn acn σn) H.size)) (hP : va_P D vwCl (wd aw ac σ) H) (hS : va_S A H0 H locs) (hA : ∀ q, H0.size ≤ q → A q)
    (kk : ∀ (H : Heap) (locs : List Loc), va_P D vwCl (wd aw ac σ) H → va_S A H0 H locs → W p l e R s m args below meth c H locs cells slots Q (F0 m (pc + 3) ls (.int r :: rest))) : W p l e R s m args below meth c H locs cells slots Q (F0 m pc ls st0) := p_calli hr hP hS hA kk
theorem p_calll0 {σn : St} {awn acn : Nat} {r : Int64} (hr : va_Run p l e R s m args below meth c H locs cells slots 0 0 (F0 m pc ls st0) rest (va_Ql (fun r' (u : Nat × Nat) => r' = r ∧ UQ 0 awn acn u) (UB D wN (va_A (wN awn acn σn) H.size) σn) (va_A (wN awn acn σn) H.size) a) (va_A (wN awn acn σn) H.size)) (hP : va_P D vwCl (wd aw ac σ) H) (hS : va_S A H0 H locs) (hA : ∀ q, H0.size ≤ q → A q)
    (kk : ∀ (H : Heap) (locs : List Loc), va_P D vwCl (wd aw ac σ) H → va_S A H0 H locs → W p l e R s m args below meth c H locs cells slots Q (F0 m (pc + 3) ls (.long r :: rest))) : W p l e R s m args below meth c H locs cells slots Q (F0 m pc ls st0) := p_calll hr hP hS hA kk
end R12
theorem sw_3 {x : Int32} (h0 : ¬ x = 0) (h1 : ¬ x = 1) (h2 : ¬ x = 2) (h3 : ¬ x = 3) : x.toInt < 0 ∨ 3 < x.toInt := by
  have e0 : x.toInt ≠ 0 := fun h => h0 (Int32.toInt_inj.mp (by rw [h]; decide))
  have e1 : x.toInt ≠ 1 := fun h => h1 (Int32.toInt_inj.mp (by rw [h]; decide))
  have e2 : x.toInt ≠ 2 := fun h => h2 (Int32.toInt_inj.mp (by rw [h]; decide))
  have e3 : x.toInt ≠ 3 := fun h => h3 (Int32.toInt_inj.mp (by rw [h]; decide))
  omega
theorem sw_8 {x : Int32} (h0 : ¬ x = 0) (h1 : ¬ x = 1) (h2 : ¬ x = 2) (h3 : ¬ x = 3) (h4 : ¬ x = 4) (h5 : ¬ x = 5) (h6 : ¬ x = 6) (h7 : ¬ x = 7) (h8 : ¬ x = 8) : x.toInt < 0 ∨ 8 < x.toInt := by
  have e0 : x.toInt ≠ 0 := fun h => h0 (Int32.toInt_inj.mp (by rw [h]; decide))
  have e1 : x.toInt ≠ 1 := fun h => h1 (Int32.toInt_inj.mp (by rw [h]; decide))
  have e2 : x.toInt ≠ 2 := fun h => h2 (Int32.toInt_inj.mp (by rw [h]; decide))
  have e3 : x.toInt ≠ 3 := fun h => h3 (Int32.toInt_inj.mp (by rw [h]; decide))
  have e4 : x.toInt ≠ 4 := fun h => h4 (Int32.toInt_inj.mp (by rw [h]; decide))
  have e5 : x.toInt ≠ 5 := fun h => h5 (Int32.toInt_inj.mp (by rw [h]; decide))
  have e6 : x.toInt ≠ 6 := fun h => h6 (Int32.toInt_inj.mp (by rw [h]; decide))
  have e7 : x.toInt ≠ 7 := fun h => h7 (Int32.toInt_inj.mp (by rw [h]; decide))
  have e8 : x.toInt ≠ 8 := fun h => h8 (Int32.toInt_inj.mp (by rw [h]; decide))
  omega
