/-! the law stands over two worlds that are apart -/
def R_law : String := "WheelCraneLaw"
def lawC : Cond := .initialized "WheelCraneLaw"
theorem lawC_in {w : Cond} (h : w ∈ lawC :: uw) : w ∈ uw := by
  rcases List.mem_cons.mp h with rfl | h
  · exact q0
  · exact h
theorem uw_tbl {w : Cond} (h : w ∈ uw) : w ∈ lw_tbl := (List.mem_filter.mp h).1
def Apart (ws1 ws2 : va_W) : Prop := ∀ (i j : Nat) (p q : Nat × va_E), ws1[i]? = some p → ws2[j]? = some q → p.1 ≠ q.1
theorem Apart.symm {ws1 ws2 : va_W} (h : Apart ws1 ws2) : Apart ws2 ws1 := fun i j p q h1 h2 e => h j i q p h2 h1 e.symm
section LAWCALL
variable {p : Program} {l : Launch} {e : Env} {R : Room} {s : State} {m : MethodId} {args : Array Value} {below : List Frame} {meth : Method} {c : Code} {H : Heap} {locs : List Loc} {cells slots : Nat} {Q : State → Prop}
variable {D : va_G} {wd : Nat → Nat → St → va_W} {A : Nat → Prop} {aw ac pc mc ms : Nat} {ls : Array Slot} {σ σ' : St} {rest st0 : List Value} {a : Array Value} {H0 : Heap}
theorem ap_new {ws2 : va_W} {u : Nat × Nat} (hP2 : va_P D vwCl ws2 H) (hap : Apart (wd aw ac σ) ws2) (hB : va_D (va_A (wd aw ac σ) H.size) (wd u.1 u.2 σ')) : Apart (wd u.1 u.2 σ') ws2 := fun i j p q h1 h2 e => by
  rcases hB.2 i p h1 with ⟨k, x, hk⟩ | h
  · exact hap k j _ q hk h2 e
  · have := (hP2 j q h2).lt
    rw [← e] at this
    exact absurd this (Nat.not_lt.mpr h)
theorem ap_kept {ws2 : va_W} {H1 : Heap} (hP2 : va_P D vwCl ws2 H) (hap : Apart (wd aw ac σ) ws2) (hk : ∀ q : Nat, q < H.size → ¬ va_A (wd aw ac σ) H.size q → H1[q]? = H[q]?) : va_P D vwCl ws2 H1 := hP2.kept (fun k q hq => hk q.1 ((hP2 k q hq).lt) (fun h => by
  rcases h with ⟨k', e', h'⟩ | h
  · exact hap k' k _ q h' hq rfl
  · exact absurd ((hP2 k q hq).lt) (Nat.not_lt.mpr h)))
theorem t_calli {ws2 : va_W} {r : Int32} (hr : va_Run p l e R s m args below meth c H locs cells slots mc ms (F0 m pc ls st0) rest (va_Qi (fun r' (u : Nat × Nat) => r' = r ∧ UQ mc aw ac u) (UB D wd (va_A (wd aw ac σ) H.size) σ') (va_A (wd aw ac σ) H.size) a) (va_A (wd aw ac σ) H.size)) (hD : va_D A (wd aw ac σ)) (hP2 : va_P D vwCl ws2 H) (hap : Apart (wd aw ac σ) ws2) (hS : va_S A H0 H locs) (hA : ∀ q, H0.size ≤ q → A q)
    (kk : ∀ (aw' ac' : Nat) (H : Heap) (locs : List Loc), va_P D vwCl (wd aw' ac' σ') H → va_D A (wd aw' ac' σ') → va_P D vwCl ws2 H → Apart (wd aw' ac' σ') ws2 → va_S A H0 H locs → W p l e R s m args below meth c H locs (cells + mc) (slots + ms) Q (F0 m (pc + 3) ls (.int r :: rest))) : W p l e R s m args below meth c H locs cells slots Q (F0 m pc ls st0) :=
  va_calli hr hS (fun q _ h => u_in hD hS hA q h) (u_in hD hS hA) (fun r' u t H1 locs1 ht _ hw hB _ hk hS1 => by
    obtain ⟨rfl, hu⟩ := hw
    exact kk u.1 u.2 H1 locs1 (by rw [← ht]; exact hB.1) (hB.2.weaken (fun _ _ _ h => u_in hD hS hA _ h)) (ap_kept hP2 hap hk) (ap_new hP2 hap hB.2) hS1)
theorem t_calll {ws2 : va_W} {r : Int64} (hr : va_Run p l e R s m args below meth c H locs cells slots mc ms (F0 m pc ls st0) rest (va_Ql (fun r' (u : Nat × Nat) => r' = r ∧ UQ mc aw ac u) (UB D wd (va_A (wd aw ac σ) H.size) σ') (va_A (wd aw ac σ) H.size) a) (va_A (wd aw ac σ) H.size)) (hD : va_D A (wd aw ac σ)) (hP2 : va_P D vwCl ws2 H) (hap : Apart (wd aw ac σ) ws2) (hS : va_S A H0 H locs) (hA : ∀ q, H0.size ≤ q → A q)
    (kk : ∀ (aw' ac' : Nat) (H : Heap) (locs : List Loc), va_P D vwCl (wd aw' ac' σ') H → va_D A (wd aw' ac' σ') → va_P D vwCl ws2 H → Apart (wd aw' ac' σ') ws2 → va_S A H0 H locs → W p l e R s m args below meth c H locs (cells + mc) (slots + ms) Q (F0 m (pc + 3) ls (.long r :: rest))) : W p l e R s m args below meth c H locs cells slots Q (F0 m pc ls st0) :=
  va_calll hr hS (fun q _ h => u_in hD hS hA q h) (u_in hD hS hA) (fun r' u t H1 locs1 ht _ hw hB _ hk hS1 => by
    obtain ⟨rfl, hu⟩ := hw
    exact kk u.1 u.2 H1 locs1 (by rw [← ht]; exact hB.1) (hB.2.weaken (fun _ _ _ h => u_in hD hS hA _ h)) (ap_kept hP2 hap hk) (ap_new hP2 hap hB.2) hS1)
end LAWCALL
def lw_Q (_ : Array Value) (s : State) (o : Outcome) (t : State) : Prop := o = .returned (some (.int 1)) ∧ Framed s o t [] 600000 7302250
def lw_Z (below : List Frame) (a : Array Value) (s : State) : State → Prop := fun t => ∃ o, t.status = .running ∧ Ended t below o ∧ lw_Q a s o t
/-- both worlds stand -/
def LawIn (D : va_G) (cy : Nat → ClassId) (s : State) (ad ae : Nat → Nat) (aw ac bw bc : Nat) (σ τ : St) (H : Heap) (locs : List Loc) : Prop := va_P D vwCl (wX cy ad aw ac σ) H ∧ va_D (fun q : Nat => s.heap.size ≤ q) (wX cy ad aw ac σ) ∧ va_P D vwCl (wM cy ae bw bc τ) H ∧ va_D (fun q : Nat => s.heap.size ≤ q) (wM cy ae bw bc τ) ∧ Apart (wX cy ad aw ac σ) (wM cy ae bw bc τ) ∧ va_S (fun q : Nat => s.heap.size ≤ q) s.heap H locs
/-- how it goes on behind a case -/
def LawGo (p : Program) (l : Launch) (e : Env) (s : State) (m : MethodId) (below : List Frame) (meth : Method) (c : Code) (D : va_G) (cy : Nat → ClassId) (ad ae : Nat → Nat) (b cl S1 : Nat) (x3 : Int32) : Prop := ∀ (aw ac bw bc : Nat) (σ τ : St) (H : Heap) (locs : List Loc) (ls : Array Slot), Rel σ τ → LawIn D cy s ad ae aw ac bw bc σ τ H locs → lv_has ls 4 [(0, .ref b), (1, .ref (ad 0)), (2, .ref (ae 0)), (3, .int x3)] → W p l e room_1 s m #[Value.ref b] below meth c H locs (cl + 2) (S1 + Pot σ) (lw_Z below #[Value.ref b] s) (F0 m 1609 ls [])
theorem pot_le {σ τ : St} (h : Rel σ τ) : Pot σ ≤ 196608 := by
  obtain ⟨_, _, _, _, _, _, ⟨a, b, la, lb, l1, l2⟩⟩ := h
  have := len16 la
  have := len16 lb
  unfold Pot
  omega
theorem in6 {x3 : Int32} {i L k : Nat} (h : x3 = nI i) (hk : k < 6) (h6 : i + 6 ≤ L) (hL : L ≤ 3072) : vp_in (x3 + nI k) L := by
  rw [h, nI_add]
  exact vp_in_nI (by omega) (by omega)
theorem lgc_refl (r : Int64) : lg_cmp r r = 0 := by
  unfold lg_cmp
  simp
theorem head6 {i L : Nat} (hL : L ≤ 3072) (hi : i ≤ L) (h : ¬ Int32.ofNat L - 6 < nI i) : i + 6 ≤ L := by
  refine Classical.byContradiction fun q => h ?_
  rw [lt_toInt, nI_toInt (by omega), sub_t (x := Int32.ofNat L) (y := 6) (by rw [show (Int32.ofNat L).toInt = (L : Int) from nI_toInt (n := L) (by omega), show (6 : Int32).toInt = 6 from rfl]; omega) (by rw [show (Int32.ofNat L).toInt = (L : Int) from nI_toInt (n := L) (by omega), show (6 : Int32).toInt = 6 from rfl]; omega), show (Int32.ofNat L).toInt = (L : Int) from nI_toInt (n := L) (by omega), show (6 : Int32).toInt = 6 from rfl]
  omega
theorem and63 (x : Int32) : ∃ k, k < 64 ∧ x &&& 63 = nI k := by
  refine ⟨(x &&& 63).toUInt32.toNat, ?_, ?_⟩
  · have h1 : (x &&& 63).toUInt32.toNat = x.toUInt32.toNat &&& 63 := by
      show (x.toUInt32 &&& 63).toNat = _
      rw [UInt32.toNat_and]
      rfl
    rw [h1]
    exact Nat.lt_of_le_of_lt Nat.and_le_right (by decide)
  · apply Int32.toBitVec_inj.mp
    show (x &&& 63).toBitVec = BitVec.ofNat 32 ((x &&& 63).toBitVec.toNat)
    rw [BitVec.ofNat_toNat, BitVec.setWidth_eq]
theorem lw_ret {p : Program} {l : Launch} {e : Env} {s : State} {m : MethodId} {below : List Frame} {meth : Method} {c : Code} {b : Nat} (hx : p.tables.exec = Jvm.exec) (hb : c.code = code) (hr : meth.sig.returnType = ret) (hlocks : meth.locks = false) {pc : Nat} {H : Heap} {ls : Array Slot} (hdg : decode code pc = .ok (.ireturn, 1)) : W p l e room_1 s m #[Value.ref b] below meth c H [] 600000 7302250 (lw_Z below #[Value.ref b] s) (F0 m pc ls [.int 1]) := by
  intro T hT X
  obtain ⟨fs, hret, hrun, hended, hW, hframe⟩ := X.leave (v := some (.int 1)) (hlocks := hlocks) (fun h => by rw [hr] at h; cases h)
  have hmeth' : T.vm.method? m = some meth := X.method'
  refine ⟨T.setFrames fs, ?_, .returned (some (.int 1)), hrun, hended, rfl, ⟨_, rfl⟩, hW, hframe⟩
  jvm_step X.here [X.here.top, hx, hb, hdg, hmeth', hr, ret, narrow_b1]
  (try refine ⟨rfl, ?_⟩); (try refine ⟨rfl, ?_⟩)
  first | (intro acts; rw [hret _ acts rfl rfl rfl]) | rw [hret _ _ rfl rfl rfl]
  exact Steps.refl _
def lw_At (p : Program) (s : State) (m : MethodId) (meth : Method) (c : Code) (b L : Nat) (xs : Nat → Int32) : Prop :=
  p.tables.exec = Jvm.exec ∧ c.code = code ∧ meth.sig.returnType = ret ∧ c.maxLocals = 4 ∧ s.vm.findClass R_law = some m.cls ∧ (∀ w ∈ lw_tbl, w.before #[Value.ref b] s = true) ∧ va_X b L xs s s.heap ∧ b < s.heap.size ∧ meth.locks = false ∧ (Jvm.Cond.and given_1 narrow_1).before #[Value.ref b] s = true
