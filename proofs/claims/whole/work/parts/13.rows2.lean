section R13
variable {p : Program} {l : Launch} {e : Env} {R : Room} {s : State} {m : MethodId} {args : Array Value} {below : List Frame} {meth : Method} {c : Code} {H H0 : Heap} {locs : List Loc} {cells slots : Nat} {Q : State → Prop} {D : va_G} {cy : Nat → ClassId} {A : Nat → Prop} {cc : ByteArray} {ad : Nat → Nat} {aw ac pc nL idx : Nat} {ls : Array Slot} {σ : St} {c0 : Cond} {own : String} {rest : List Value}
theorem lX_prices {i : Int32} (S : CallFix p m c cc nL s args (c0 :: uw) own) (hK : KU D cy s) (hP : va_P D vwCl (wX cy ad aw ac σ) H) (hin : vp_in i 5) (hdg : decode cc pc = .ok (.aaload, 1)) (kk : W p l e R s m args below meth c H locs cells slots Q (F0 m (pc + 1) ls (.ref (ad (27 + i.toNatClampNeg)) :: rest))) : W p l e R s m args below meth c H locs cells slots Q (F0 m pc ls (.int i :: .ref (ad 26) :: rest)) := by
  have hlt : i.toNatClampNeg < 5 := Nat.not_le.mp fun q => hin (Or.inr q)
  have e0 : va_rf (if i.toNatClampNeg < 5 then some (ad (27 + i.toNatClampNeg)) else none) = .ref (ad (27 + i.toNatClampNeg)) := by rw [if_pos hlt]; rfl
  refine W.aald (v := va_rf (if i.toNatClampNeg < 5 then some (ad (27 + i.toNatClampNeg)) else none)) (ty := .array .int) S.1 S.2.1 (hP 26 _ rfl) ((hK.1.2 3 _ rfl).1 5 (fun j => va_rf (if j < 5 then some (ad (27 + j)) else none))) rfl (fun q => by cases q) (by show ¬ (i < 0 ∨ (arrV _ _ _).slots.size ≤ _); rw [arrV_size]; exact hin) (by show (arrV _ _ _).slots[_]? = _; rw [arrV_read _ _ hlt]) rfl rfl hdg ?_
  rw [e0]
  exact kk
theorem wX_row {i : Nat} (hi : i < 5) : (wX cy ad aw ac σ)[27 + i]? = some (ad (27 + i), .inl (cy 0, 5, .inl (ga σ (27 + i)))) := by
  match i, hi with
  | 0, _ => rfl
  | 1, _ => rfl
  | 2, _ => rfl
  | 3, _ => rfl
  | 4, _ => rfl
theorem wX_rowset {i k : Nat} {x : Int32} (hi : i < 5) : (wX cy ad aw ac σ).set (27 + i) (ad (27 + i), .inl (cy 0, 5, .inl (upd (ga σ (27 + i)) k x))) = wX cy ad aw ac (sa σ (27 + i) k x) := by
  match i, hi with
  | 0, _ => rfl
  | 1, _ => rfl
  | 2, _ => rfl
  | 3, _ => rfl
  | 4, _ => rfl
theorem lX_row {i j : Int32} (S : CallFix p m c cc nL s args (c0 :: uw) own) (hK : KU D cy s) (hP : va_P D vwCl (wX cy ad aw ac σ) H) (hi : vp_in i 5) (hin : vp_in j 5) (hdg : decode cc pc = .ok (.iaload, 1)) (kk : W p l e R s m args below meth c H locs cells slots Q (F0 m (pc + 1) ls (.int (ga σ (27 + i.toNatClampNeg) j.toNatClampNeg) :: rest))) : W p l e R s m args below meth c H locs cells slots Q (F0 m pc ls (.int j :: .ref (ad (27 + i.toNatClampNeg)) :: rest)) :=
  va_iald S.1 S.2.1 hK.1 hP (27 + i.toNatClampNeg) 0 (wX_row (Nat.not_le.mp fun q => hi (Or.inr q))) rfl hin hdg kk
theorem tX_row {i j : Int32} {x : Int32} (S : CallFix p m c cc nL s args (c0 :: uw) own) (hK : KU D cy s) (hP : va_P D vwCl (wX cy ad aw ac σ) H) (hD : va_D A (wX cy ad aw ac σ)) (hS : va_S A H0 H locs) (hi : vp_in i 5) (hin : vp_in j 5) (hdg : decode cc pc = .ok (.iastore, 1)) (kk : ∀ (H1 : Heap) (locs1 : List Loc), va_P D vwCl (wX cy ad aw ac (sa σ (27 + i.toNatClampNeg) j.toNatClampNeg x)) H1 → va_D A (wX cy ad aw ac (sa σ (27 + i.toNatClampNeg) j.toNatClampNeg x)) → va_S A H0 H1 locs1 → W p l e R s m args below meth c H1 locs1 cells slots Q (F0 m (pc + 1) ls rest)) : W p l e R s m args below meth c H locs cells slots Q (F0 m pc ls (.int x :: .int j :: .ref (ad (27 + i.toNatClampNeg)) :: rest)) :=
  va_iast S.1 S.2.1 hK.1 hP hD hS (27 + i.toNatClampNeg) 0 (wX_row (Nat.not_le.mp fun q => hi (Or.inr q))) rfl hin hdg (fun H1 locs1 h1 h2 h3 => by
    rw [wX_rowset (Nat.not_le.mp fun q => hi (Or.inr q))] at h1 h2
    exact kk H1 locs1 h1 h2 h3)
theorem nX_ways {n : Int32} (S : CallFix p m c cc nL s args (c0 :: uw) own) (hK : KU D cy s) (hP : va_P D vwCl (wX cy ad aw ac σ) H) (hD : va_D A (wX cy ad aw ac σ)) (hS : va_S A H0 H locs) (hA : ∀ q, H0.size ≤ q → A q) (hn : ¬ n < 0) (hc1 : cells + 1 ≤ R.cells) (hc2 : slots + n.toNatClampNeg ≤ R.slots) (hc3 : n.toNatClampNeg ≤ 16777216) (hl : Cond.fieldLink own idx "WheelCrane$Planner" "ways" "[J" ∈ uw) (hdg : decode cc pc = .ok (.newarray .long, 2)) (hdg2 : decode cc (pc + 2) = .ok (.putfield idx, 3)) (kk : ∀ (q : Nat) (H1 : Heap) (locs1 : List Loc), va_P D vwCl (wX cy ad q ac (sn (sbf σ 32 (fun _ => 0)) 32 n.toNatClampNeg)) H1 → va_D A (wX cy ad q ac (sn (sbf σ 32 (fun _ => 0)) 32 n.toNatClampNeg)) → va_S A H0 H1 locs1 → W p l e R s m args below meth c H1 locs1 (cells + 1) (slots + n.toNatClampNeg) Q (F0 m (pc + 5) ls rest)) : W p l e R s m args below meth c H locs cells slots Q (F0 m pc ls (.int n :: .ref (ad 7) :: rest)) := by
  refine va_newa (atype := .long) (a0 := (n.toNatClampNeg, .inr (.inl (fun _ => 0)))) S.1 S.2.1 (S.2.2.2.2 _ (List.mem_cons_of_mem _ q227)) rfl hK.1 hP hD hS hA (fun cA => rfl) hn rfl (by show _ * 8 ≤ _; omega) hc1 hc2 hdg (fun q cA H1 hK1 hP1 hD1 hS1 => ?_)
  have hcA : cA = cy 1 := by
    have h1 := (hK1.2 4 _ rfl).2
    have h2 := (hK.1.2 1 _ rfl).2
    exact Option.some.inj (h1.symm.trans h2)
  subst hcA
  refine va_put (v := .ref q) (ty := .array .long) (D := D) (ci := 4) (C := RX4) (T := TX4) (N := 9) S.1 S.2.1 S.2.2.2.2 (fun w h => List.mem_cons_of_mem _ (inU4 w h)) tyX4 tyX4_ok nmX4 S.2.2.2.1 hK.1 hP1 hD1 hS1 7 rfl rfl 2 (by decide) (S.2.2.2.2 _ (List.mem_cons_of_mem _ hl)) (fun _ h9 => h9) rfl (by decide +kernel) rfl rfl (Nat.le_of_ble_eq_true rfl) hdg2 (fun H2 locs2 hP2 hD2 hS2 => ?_)
  exact kk q H2 locs2 (hP2.sub [0, 1, 2, 3, 4, 5, 6, 7, 8, 9, 10, 11, 12, 13, 14, 15, 16, 17, 18, 19, 20, 21, 22, 23, 24, 25, 26, 27, 28, 29, 30, 31, 43, 33, 34, 35, 36, 37, 38, 39, 40, 41, 42] rfl) (hD2.sub [0, 1, 2, 3, 4, 5, 6, 7, 8, 9, 10, 11, 12, 13, 14, 15, 16, 17, 18, 19, 20, 21, 22, 23, 24, 25, 26, 27, 28, 29, 30, 31, 43, 33, 34, 35, 36, 37, 38, 39, 40, 41, 42] (by decide) rfl) hS2
theorem nX_costs {n : Int32} (S : CallFix p m c cc nL s args (c0 :: uw) own) (hK : KU D cy s) (hP : va_P D vwCl (wX cy ad aw ac σ) H) (hD : va_D A (wX cy ad aw ac σ)) (hS : va_S A H0 H locs) (hA : ∀ q, H0.size ≤ q → A q) (hn : ¬ n < 0) (hc1 : cells + 1 ≤ R.cells) (hc2 : slots + n.toNatClampNeg ≤ R.slots) (hc3 : n.toNatClampNeg ≤ 16777216) (hl : Cond.fieldLink own idx "WheelCrane$Planner" "costs" "[I" ∈ uw) (hdg : decode cc pc = .ok (.newarray .int, 2)) (hdg2 : decode cc (pc + 2) = .ok (.putfield idx, 3)) (kk : ∀ (q : Nat) (H1 : Heap) (locs1 : List Loc), va_P D vwCl (wX cy ad aw q (sn (saf σ 33 (fun _ => 0)) 33 n.toNatClampNeg)) H1 → va_D A (wX cy ad aw q (sn (saf σ 33 (fun _ => 0)) 33 n.toNatClampNeg)) → va_S A H0 H1 locs1 → W p l e R s m args below meth c H1 locs1 (cells + 1) (slots + n.toNatClampNeg) Q (F0 m (pc + 5) ls rest)) : W p l e R s m args below meth c H locs cells slots Q (F0 m pc ls (.int n :: .ref (ad 7) :: rest)) := by
  refine va_newa (atype := .int) (a0 := (n.toNatClampNeg, .inl (fun _ => 0))) S.1 S.2.1 (S.2.2.2.2 _ (List.mem_cons_of_mem _ q72)) rfl hK.1 hP hD hS hA (fun cA => rfl) hn rfl (by show _ * 4 ≤ _; omega) hc1 hc2 hdg (fun q cA H1 hK1 hP1 hD1 hS1 => ?_)
  have hcA : cA = cy 0 := by
    have h1 := (hK1.2 4 _ rfl).2
    have h2 := (hK.1.2 0 _ rfl).2
    exact Option.some.inj (h1.symm.trans h2)
  subst hcA
  refine va_put (v := .ref q) (ty := .array .int) (D := D) (ci := 4) (C := RX4) (T := TX4) (N := 9) S.1 S.2.1 S.2.2.2.2 (fun w h => List.mem_cons_of_mem _ (inU4 w h)) tyX4 tyX4_ok nmX4 S.2.2.2.1 hK.1 hP1 hD1 hS1 7 rfl rfl 3 (by decide) (S.2.2.2.2 _ (List.mem_cons_of_mem _ hl)) (fun _ h9 => h9) rfl (by decide +kernel) rfl rfl (Nat.le_of_ble_eq_true rfl) hdg2 (fun H2 locs2 hP2 hD2 hS2 => ?_)
  exact kk q H2 locs2 (hP2.sub [0, 1, 2, 3, 4, 5, 6, 7, 8, 9, 10, 11, 12, 13, 14, 15, 16, 17, 18, 19, 20, 21, 22, 23, 24, 25, 26, 27, 28, 29, 30, 31, 32, 43, 34, 35, 36, 37, 38, 39, 40, 41, 42] rfl) (hD2.sub [0, 1, 2, 3, 4, 5, 6, 7, 8, 9, 10, 11, 12, 13, 14, 15, 16, 17, 18, 19, 20, 21, 22, 23, 24, 25, 26, 27, 28, 29, 30, 31, 32, 43, 34, 35, 36, 37, 38, 39, 40, 41, 42] (by decide) rfl) hS2
end R13
theorem Cv.enterA {l : Launch} {D : va_G} {cy : Nat → ClassId} {wd : Nat → Nat → St → va_W} {y : MethodName} {cc : ByteArray} {n fr lo mc ms : Nat} {As : List Value} {σ σ' : St} {aw ac sz : Nat} (hy : plainName y.cls = true) (hlen : (lg_sl As).length ≤ n)
    (body : ∀ (p : Program) (e : Env) (s : State) (m : MethodId) (below : List Frame) (meth : Method) (c : Code) (A : Nat → Prop) (H : Heap) (locs : List Loc), CallFix p m c cc n s As.toArray (CW y cc n none) y.cls → meth.sig.returnType = none → meth.locks = false → (∀ q, s.heap.size ≤ q → A q) → KU D cy s → va_P D vwCl (wd aw ac σ) H → va_D A (wd aw ac σ) → va_S A s.heap H locs → ∀ ls : Array Slot, lv_has ls n (lv_args 0 As) →
      W p l e (Rm fr lo mc ms) s m As.toArray below meth c H locs 0 0 (Zv D wd A σ' aw ac below As.toArray s mc ms) (F0 m 0 ls [])) : Met l y (CW y cc n none) (Rm fr lo mc ms) (va_Pc As (UP D cy (wd aw ac σ) sz)) (va_Qv (fun (u : Nat × Nat) => UQ mc aw ac u) (UB D wd (va_A (wd aw ac σ) sz) σ') (va_A (wd aw ac σ) sz)) mc ms (va_A (wd aw ac σ) sz) := by
  refine Met.ofW (cc := cc) (maxL := n) (ret := none) hy rfl ?_
  intro p e s m args below meth c s₁ B hml hv
  obtain ⟨rfl, rfl, hP, hK, hD0⟩ := hv
  have hD := hD0.self (sz := s.heap.size)
  have hA : ∀ q : Nat, s.heap.size ≤ q → va_A (wd aw ac σ) s.heap.size q := fun q h => Or.inr h
  have hl := lv_entry As (n := n) hlen
  rw [lg_entry_eq]
  exact body p e s m below meth c _ _ _ ⟨B.exec, B.bytes, hml, findClass_of_methodNamed B.named, atoms_spec B.pre⟩ B.returns B.notSynchronized hA hK hP hD va_S.rf _ hl
