/-! what is made anew: constructors -/
/-- the class of int[][] is over that of int[] -/
def KC (cy : Nat → ClassId) (U : State) : Prop := ∃ kA : Class, U.vm.classes[cy 3]? = some kA ∧ kA.kind = .array (cy 0) (.array .int)
theorem KC.moved {cy : Nat → ClassId} {u U : State} (hvm : u.vm.Alike U.vm) (h : KC cy u) : KC cy U := by
  obtain ⟨kA, h1, h2⟩ := h
  obtain ⟨k', hk', he⟩ := hvm.2.2 _ _ h1
  exact ⟨k', hk', by rw [he]; exact h2⟩
def UC (D : va_G) (cy : Nat → ClassId) (ws : va_W) (sz : Nat) (U : State) : Prop := UP D cy ws sz U ∧ KC cy U
theorem c_blind {D : va_G} {cy : Nat → ClassId} {ws : va_W} {sz : Nat} {As : List Value} : FrameBlind (va_Pc As (UC D cy ws sz)) := fun a U g mk q => by
  obtain ⟨q0, ⟨q1, qP, qK, qD⟩, qC⟩ := q
  exact ⟨q0, ⟨q1, qP, qK.calling, qD⟩, qC⟩
/-- how a constructor ends: of the cells that it leaves -/
def Zk {U : Type} (D : va_G) (pu : U → Prop) (bw : U → va_W) (A : Nat → Prop) (below : List Frame) (a : Array Value) (s : State) (mc ms : Nat) : State → Prop := MQ below (va_Qv pu (fun u t => va_P D vwCl (bw u) t.heap ∧ va_D A (bw u)) A) a s mc ms A
def Ck {U : Type} (l : Launch) (D : va_G) (cy : Nat → ClassId) (y : MethodName) (cc : ByteArray) (n : Nat) (fr lo : Nat) (As : List Value) (w0 : va_W) (pu : U → Prop) (bw : U → va_W) (mc ms : Nat) : Prop := ∀ sz : Nat, Met l y (CW y cc n none) (Rm fr lo mc ms) (va_Pc As (UC D cy w0 sz)) (va_Qv pu (fun u t => va_P D vwCl (bw u) t.heap ∧ va_D (va_A w0 sz) (bw u)) (va_A w0 sz)) mc ms (va_A w0 sz)
theorem k_enter {U : Type} {l : Launch} {D : va_G} {cy : Nat → ClassId} {y : MethodName} {cc : ByteArray} {n fr lo mc ms : Nat} {As : List Value} {w0 : va_W} {pu : U → Prop} {bw : U → va_W} (hy : plainName y.cls = true) (hlen : (lg_sl As).length ≤ n)
    (body : ∀ (p : Program) (e : Env) (s : State) (m : MethodId) (below : List Frame) (meth : Method) (c : Code) (A : Nat → Prop) (H : Heap) (locs : List Loc), CallFix p m c cc n s As.toArray (CW y cc n none) y.cls → meth.sig.returnType = none → meth.locks = false → meth.name = y.name → (∀ q, s.heap.size ≤ q → A q) → KU D cy s → KC cy s → va_P D vwCl w0 H → va_D A w0 → va_S A s.heap H locs → ∀ ls : Array Slot, lv_has ls n (lv_args 0 As) →
      W p l e (Rm fr lo mc ms) s m As.toArray below meth c H locs 0 0 (Zk D pu bw A below As.toArray s mc ms) (F0 m 0 ls [])) : Ck l D cy y cc n fr lo As w0 pu bw mc ms := by
  intro sz
  refine Met.ofW (cc := cc) (maxL := n) (ret := none) hy rfl ?_
  intro p e s m args below meth c s₁ B hml hv
  obtain ⟨rfl, ⟨rfl, hP, hK, hD0⟩, hC⟩ := hv
  have hD := hD0.self (sz := s.heap.size)
  have hA : ∀ q : Nat, s.heap.size ≤ q → va_A w0 s.heap.size q := fun q h => Or.inr h
  have hl := lv_entry As (n := n) hlen
  rw [lg_entry_eq]
  exact body p e s m below meth c _ _ _ ⟨B.exec, B.bytes, hml, findClass_of_methodNamed B.named, atoms_spec B.pre⟩ B.returns B.notSynchronized (name_of_methodNamed B.named B.method).1 hA hK hC hP hD va_S.rf _ hl
section KROWS
variable {p : Program} {l : Launch} {e : Env} {R : Room} {s : State} {m : MethodId} {args : Array Value} {below : List Frame} {meth : Method} {c : Code} {H H0 : Heap} {locs : List Loc} {cells slots : Nat} {Q : State → Prop}
variable {D : va_G} {cy : Nat → ClassId} {A : Nat → Prop} {cc : ByteArray} {pc nL idx maxL fr lo mc ms n b : Nat} {ls : Array Slot} {c0 : Cond} {own : String} {rest As st0 : List Value} {ws w0 : va_W} {U : Type} {pu : U → Prop} {bw : U → va_W} {y : MethodName} {bytes : ByteArray} {a : Array Value}
theorem k_vret {u : U} (hx : p.tables.exec = Jvm.exec) (hb : c.code = cc) (hr : meth.sig.returnType = none) (hlocks : meth.locks = false) (hu : pu u) (hP : va_P D vwCl (bw u) H) (hD : va_D A (bw u)) (hS : va_S A s.heap H locs) (hdg : decode cc pc = .ok (.return_, 1)) : W p l e R s m args below meth c H locs cells slots (Zk D pu bw A below args s cells slots) (F0 m pc ls []) :=
  W.vret hx hb hr (fun t ht _ => ⟨⟨u, rfl, hu, by rw [ht]; exact hP, hD⟩, hS.F ht⟩) hS.2.2 hdg hlocks
theorem k_newi {n : Int32} {N : Nat} (S : CallFix p m c cc nL s args (c0 :: uw) own) (hK : KU D cy s) (hP : va_P D vwCl ws H) (hD : va_D A ws) (hS : va_S A H0 H locs) (hA : ∀ q, H0.size ≤ q → A q) (hn : ¬ n < 0) (hN : n.toNatClampNeg = N) (hN2 : N ≤ 16777216) (hc1 : cells + 1 ≤ R.cells) (hc2 : slots + N ≤ R.slots) (hdg : decode cc pc = .ok (.newarray .int, 2)) (kk : ∀ (q : Nat) (H1 : Heap), va_P D vwCl (ws ++ [(q, .inl (cy 0, N, .inl (fun _ => 0)))]) H1 → va_D A (ws ++ [(q, .inl (cy 0, N, .inl (fun _ => 0)))]) → va_S A H0 H1 locs → W p l e R s m args below meth c H1 locs (cells + 1) (slots + N) Q (F0 m (pc + 2) ls (.ref q :: rest))) : W p l e R s m args below meth c H locs cells slots Q (F0 m pc ls (.int n :: rest)) := by
  refine va_newa (atype := .int) (a0 := (N, .inl (fun _ => 0))) S.1 S.2.1 (S.2.2.2.2 _ (List.mem_cons_of_mem _ q72)) rfl hK.1 hP hD hS hA (fun cA => rfl) hn hN (by show _ * 4 ≤ _; omega) hc1 hc2 hdg (fun q cA H1 hK1 hP1 hD1 hS1 => ?_)
  have hcA : cA = cy 0 := Option.some.inj ((hK1.2 4 _ rfl).2.symm.trans (hK.1.2 0 _ rfl).2)
  subst hcA
  exact kk q H1 hP1 hD1 hS1
theorem k_newz {n : Int32} {N : Nat} (S : CallFix p m c cc nL s args (c0 :: uw) own) (hK : KU D cy s) (hP : va_P D vwCl ws H) (hD : va_D A ws) (hS : va_S A H0 H locs) (hA : ∀ q, H0.size ≤ q → A q) (hn : ¬ n < 0) (hN : n.toNatClampNeg = N) (hN2 : N ≤ 16777216) (hc1 : cells + 1 ≤ R.cells) (hc2 : slots + N ≤ R.slots) (hdg : decode cc pc = .ok (.newarray .boolean, 2)) (kk : ∀ (q : Nat) (H1 : Heap), va_P D vwCl (ws ++ [(q, .inl (cy 2, N, .inl (fun _ => 0)))]) H1 → va_D A (ws ++ [(q, .inl (cy 2, N, .inl (fun _ => 0)))]) → va_S A H0 H1 locs → W p l e R s m args below meth c H1 locs (cells + 1) (slots + N) Q (F0 m (pc + 2) ls (.ref q :: rest))) : W p l e R s m args below meth c H locs cells slots Q (F0 m pc ls (.int n :: rest)) := by
  refine va_newa (atype := .boolean) (a0 := (N, .inl (fun _ => 0))) S.1 S.2.1 (S.2.2.2.2 _ (List.mem_cons_of_mem _ q98)) rfl hK.1 hP hD hS hA (fun cA => rfl) hn hN (by show _ * 1 ≤ _; omega) hc1 hc2 hdg (fun q cA H1 hK1 hP1 hD1 hS1 => ?_)
  have hcA : cA = cy 2 := Option.some.inj ((hK1.2 4 _ rfl).2.symm.trans (hK.1.2 2 _ rfl).2)
  subst hcA
  exact kk q H1 hP1 hD1 hS1
theorem k_newj {n : Int32} {N : Nat} (S : CallFix p m c cc nL s args (c0 :: uw) own) (hK : KU D cy s) (hP : va_P D vwCl ws H) (hD : va_D A ws) (hS : va_S A H0 H locs) (hA : ∀ q, H0.size ≤ q → A q) (hn : ¬ n < 0) (hN : n.toNatClampNeg = N) (hN2 : N ≤ 16777216) (hc1 : cells + 1 ≤ R.cells) (hc2 : slots + N ≤ R.slots) (hdg : decode cc pc = .ok (.newarray .long, 2)) (kk : ∀ (q : Nat) (H1 : Heap), va_P D vwCl (ws ++ [(q, .inl (cy 1, N, .inr (.inl (fun _ => 0))))]) H1 → va_D A (ws ++ [(q, .inl (cy 1, N, .inr (.inl (fun _ => 0))))]) → va_S A H0 H1 locs → W p l e R s m args below meth c H1 locs (cells + 1) (slots + N) Q (F0 m (pc + 2) ls (.ref q :: rest))) : W p l e R s m args below meth c H locs cells slots Q (F0 m pc ls (.int n :: rest)) := by
  refine va_newa (atype := .long) (a0 := (N, .inr (.inl (fun _ => 0)))) S.1 S.2.1 (S.2.2.2.2 _ (List.mem_cons_of_mem _ q227)) rfl hK.1 hP hD hS hA (fun cA => rfl) hn hN (by show _ * 8 ≤ _; omega) hc1 hc2 hdg (fun q cA H1 hK1 hP1 hD1 hS1 => ?_)
  have hcA : cA = cy 1 := Option.some.inj ((hK1.2 4 _ rfl).2.symm.trans (hK.1.2 1 _ rfl).2)
  subst hcA
  exact kk q H1 hP1 hD1 hS1
theorem d_left (h : va_D A (ws ++ w0)) : va_D A ws := ⟨fun i j p q h1 h2 e => h.1 i j p q (by rw [List.getElem?_append_left (List.getElem?_eq_some_iff.mp h1).1]; exact h1) (by rw [List.getElem?_append_left (List.getElem?_eq_some_iff.mp h2).1]; exact h2) e, fun k q hk => h.2 k q (by rw [List.getElem?_append_left (List.getElem?_eq_some_iff.mp hk).1]; exact hk)⟩
theorem at_right {k : Nat} {q : Nat × va_E} (h : w0[k]? = some q) : (ws ++ w0)[ws.length + k]? = some q := by
  rw [List.getElem?_append_right (by omega), show ws.length + k - ws.length = k by omega]
  exact h
theorem d_right (h : va_D A (ws ++ w0)) : va_D A w0 := ⟨fun i j p q h1 h2 e => by
  have := h.1 _ _ p q (at_right h1) (at_right h2) e
  omega, fun k q hk => h.2 _ q (at_right hk)⟩
theorem d_apart (h : va_D A (ws ++ w0)) : Apart w0 ws := fun i j p q h1 h2 e => by
  have hj := (List.getElem?_eq_some_iff.mp h2).1
  have := h.1 _ j p q (at_right h1) (by rw [List.getElem?_append_left hj]; exact h2) e
  omega
theorem p_left (h : va_P D vwCl (ws ++ w0) H) : va_P D vwCl ws H := fun k q hk => h k q (by rw [List.getElem?_append_left (List.getElem?_eq_some_iff.mp hk).1]; exact hk)
theorem p_right (h : va_P D vwCl (ws ++ w0) H) : va_P D vwCl w0 H := fun k q hk => h _ q (at_right hk)
/-- behind a constructor: its cells stand in the place of the one that was made -/
theorem k_init (hr : va_Run p l e R s m args below meth c H locs cells slots mc ms (F0 m pc ls st0) rest (va_Qv pu (fun u t => va_P D vwCl (bw u) t.heap ∧ va_D (va_A w0 H.size) (bw u)) (va_A w0 H.size) a) (va_A w0 H.size)) (hP : va_P D vwCl (ws ++ w0) H) (hD : va_D A (ws ++ w0)) (hS : va_S A H0 H locs) (hA : ∀ q, H0.size ≤ q → A q)
    (kk : ∀ (u : U) (H : Heap) (locs : List Loc), pu u → va_P D vwCl (ws ++ bw u) H → va_D A (ws ++ bw u) → va_S A H0 H locs → W p l e R s m args below meth c H locs (cells + mc) (slots + ms) Q (F0 m (pc + 3) ls rest)) : W p l e R s m args below meth c H locs cells slots Q (F0 m pc ls st0) :=
  va_callv hr hS (fun q _ h => u_in (d_right hD) hS hA q h) (u_in (d_right hD) hS hA) (fun u t H1 locs1 ht _ hu hB _ hk hS1 => by
    have hap := d_apart hD
    have hPl := p_left hP
    have hap2 : Apart (bw u) ws := fun i j x q h1 h2 e => by
      rcases hB.2.2 i x h1 with ⟨k, z, hk⟩ | h
      · exact hap k j _ q hk h2 e
      · have := (hPl j q h2).lt
        rw [← e] at this
        exact absurd this (Nat.not_lt.mpr h)
    refine kk u H1 locs1 hu ((hPl.kept (fun k q hq => hk q.1 ((hPl k q hq).lt) (fun h => ?_))).app (by rw [← ht]; exact hB.1)) (va_D.app (d_left hD) (hB.2.weaken (fun _ _ _ h => u_in (d_right hD) hS hA _ h)) (fun i j x q h1 h2 e => hap2 j i q x h2 h1 e.symm)) hS1
    rcases h with ⟨k', e', h'⟩ | h
    · exact hap k' k _ q h' hq rfl
    · exact absurd ((hPl k q hq).lt) (Nat.not_lt.mpr h))
theorem k_pre (hK : KU D cy s) (hC : KC cy s) (hP : va_P D vwCl w0 H) (hD : va_D A w0) : ∀ U : State, U.heap = H → s.WarmedH U.vm → va_Pc As (UC D cy w0 H.size) As.toArray U := fun U hU hW => ⟨rfl, ⟨by rw [hU], by rw [hU]; exact hP, hK.warm hW, hD.weaken (fun _ _ _ _ => trivial)⟩, hC.moved hW.alike⟩
theorem k_runN {host : String} (S : CallFix p m c cc nL s args (c0 :: uw) own) (hM : Ck l D cy y bytes maxL fr lo (.ref b :: As) w0 pu bw mc ms) (I : YI y bytes maxL none n) (J : Cond.instanceMethod y ∈ uw) (hy : y.name = "<init>") (hl : (own, idx, y, host) ∈ nestW) (hR : fr + 1 ≤ R.frames ∧ 8 + (maxL + 11) + lo ≤ R.locals) (hK : KU D cy s) (hC : KC cy s) (hP : va_P D vwCl (ws ++ w0) H) (hD : va_D A (ws ++ w0)) (hn : As.length = n) (hsz : ls.size = nL) (hrest : (rest.map fun v => v.category).sum ≤ 8) (hdg : decode cc pc = .ok (.invokespecial idx, 3)) (hf : cells + mc ≤ R.cells ∧ slots + ms ≤ R.slots) :
    va_Run p l e R s m args below meth c H locs cells slots mc ms (F0 m pc ls (As.reverse ++ .ref b :: rest)) rest (va_Qv pu (fun u t => va_P D vwCl (bw u) t.heap ∧ va_D (va_A w0 H.size) (bw u)) (va_A w0 H.size) (Value.ref b :: As).toArray) (va_A w0 H.size) :=
  va_runIN S (hM H.size) ⟨va_cnB n S.2.2.2.2 (uw_good I.1) rfl rfl rfl (hK.2 _ hl) (S.2.2.2.2 _ (List.mem_cons_of_mem _ I.2.1)) ⟨I.2.2.1, I.2.2.2.1, I.2.2.2.2⟩ hR, hy, S.2.2.2.2 _ (List.mem_cons_of_mem _ J)⟩ ⟨c_blind, k_pre hK hC (p_right hP) (d_right hD)⟩ rfl hn hsz rfl (lv_room hrest) hdg hf
theorem k_runI (S : CallFix p m c cc nL s args (c0 :: uw) own) (hM : Ck l D cy y bytes maxL fr lo (.ref b :: As) w0 pu bw mc ms) (I : YI y bytes maxL none n) (J : Cond.instanceMethod y ∈ uw) (hy : y.name = "<init>") (hl : Cond.methodLink own idx y ∈ uw) (hR : fr + 1 ≤ R.frames ∧ 8 + (maxL + 11) + lo ≤ R.locals) (hK : KU D cy s) (hC : KC cy s) (hP : va_P D vwCl (ws ++ w0) H) (hD : va_D A (ws ++ w0)) (hn : As.length = n) (hsz : ls.size = nL) (hrest : (rest.map fun v => v.category).sum ≤ 8) (hdg : decode cc pc = .ok (.invokespecial idx, 3)) (hf : cells + mc ≤ R.cells ∧ slots + ms ≤ R.slots) :
    va_Run p l e R s m args below meth c H locs cells slots mc ms (F0 m pc ls (As.reverse ++ .ref b :: rest)) rest (va_Qv pu (fun u t => va_P D vwCl (bw u) t.heap ∧ va_D (va_A w0 H.size) (bw u)) (va_A w0 H.size) (Value.ref b :: As).toArray) (va_A w0 H.size) :=
  va_runI S (hM H.size) ⟨u_cwB S.2.2.2.2 I hl hR, hy, S.2.2.2.2 _ (List.mem_cons_of_mem _ J)⟩ ⟨c_blind, k_pre hK hC (p_right hP) (d_right hD)⟩ rfl hn hsz rfl (lv_room hrest) hdg hf
end KROWS
