/-! five rows of five: what makes the prices of shifts -/
section FIVE
def rowI (comp : ClassId) : Cell := { cls := comp, slots := Array.replicate 5 (.int 0), vm := .none }
def rowO (cA : ClassId) (o : Nat) : Nat → Cell
  | 0 => { cls := cA, slots := Array.replicate 5 .null, vm := .none }
  | i + 1 => (rowO cA o i).setSlot i (.ref (o + 1 + i))
def rowT (T : State) (cA comp : ClassId) : Nat → State
  | 0 => T.pushCell (rowO cA T.heap.size 0)
  | i + 1 => ((rowT T cA comp i).pushCell (rowI comp)).setCell T.heap.size (rowO cA T.heap.size (i + 1))
theorem rowO_is (cA : ClassId) (o : Nat) : ∀ i, (rowO cA o i).cls = cA ∧ (rowO cA o i).vm = .none ∧ (rowO cA o i).slots.size = 5
  | 0 => ⟨rfl, rfl, by simp [rowO]⟩
  | i + 1 => by
    obtain ⟨h1, h2, h3⟩ := rowO_is cA o i
    refine ⟨?_, ?_, ?_⟩
    · simp [rowO, Cell.setSlot, h1]
    · simp [rowO, Cell.setSlot, h2]
    · simp [rowO, Cell.setSlot, h3]
theorem rowO_at (cA : ClassId) (o : Nat) (j : Nat) (hj : j < 5) : ∀ i, (rowO cA o i).slots[j]? = some (if j < i then .ref (o + 1 + j) else .null)
  | 0 => by simp [rowO, hj]
  | i + 1 => by
    have ih := rowO_at cA o j hj i
    have h3 := (rowO_is cA o i).2.2
    show ((rowO cA o i).setSlot i (.ref (o + 1 + i))).slots[j]? = _
    simp only [Cell.setSlot, Array.getElem?_setIfInBounds]
    by_cases q : i = j
    · subst q; simp [h3, hj]
    · rw [if_neg q, ih]
      by_cases w : j < i
      · rw [if_pos w, if_pos (by omega)]
      · rw [if_neg w, if_neg (by omega)]
theorem rowT_is (T : State) (cA comp : ClassId) : ∀ i, (rowT T cA comp i).heap.size = T.heap.size + 1 + i ∧ (rowT T cA comp i).heap[T.heap.size]? = some (rowO cA T.heap.size i) ∧ (rowT T cA comp i).vm = T.vm ∧ (rowT T cA comp i).slotsUsed = T.slotsUsed + 5 + i * 5
  | 0 => ⟨by simp [rowT], by simp [rowT], rfl, by simp [rowT, rowO]⟩
  | i + 1 => by
    obtain ⟨h1, h2, h3, h4⟩ := rowT_is T cA comp i
    have hlt : T.heap.size < (rowT T cA comp i).heap.size := by omega
    have hc : ((rowT T cA comp i).pushCell (rowI comp)).heap[T.heap.size]? = some (rowO cA T.heap.size i) := by rw [State.heap_pushCell_of_lt (h := hlt)]; exact h2
    refine ⟨?_, State.heap_setCell_self hc, by simp [rowT, h3], ?_⟩
    · simp [rowT, State.setCell, h1]; omega
    · simp [rowT, h4, rowI]; omega
theorem rowT_old (T : State) (cA comp : ClassId) {a : Nat} (ha : a < T.heap.size) : ∀ i, (rowT T cA comp i).heap[a]? = T.heap[a]?
  | 0 => State.heap_pushCell_of_lt _ _ ha
  | i + 1 => by
    have h1 := (rowT_is T cA comp i).1
    have hlt : a < (rowT T cA comp i).heap.size := by omega
    show (((rowT T cA comp i).pushCell (rowI comp)).setCell T.heap.size _).heap[a]? = _
    rw [State.heap_setCell_other (Nat.ne_of_gt ha), State.heap_pushCell_of_lt (h := hlt)]
    exact rowT_old T cA comp ha i
theorem rowT_new (T : State) (cA comp : ClassId) (j : Nat) : ∀ i, j < i → (rowT T cA comp i).heap[T.heap.size + 1 + j]? = some (rowI comp)
  | 0, h => by omega
  | i + 1, h => by
    have h1 := (rowT_is T cA comp i).1
    show (((rowT T cA comp i).pushCell (rowI comp)).setCell T.heap.size _).heap[T.heap.size + 1 + j]? = _
    rw [State.heap_setCell_other (show T.heap.size ≠ T.heap.size + 1 + j by omega)]
    by_cases q : j = i
    · subst q
      rw [← h1]
      exact State.heap_pushCell_size _ _
    · have hlt : T.heap.size + 1 + j < (rowT T cA comp i).heap.size := by omega
      rw [State.heap_pushCell_of_lt (h := hlt)]
      exact rowT_new T cA comp j i (by omega)
theorem rowT_top (T : State) (f : JFrame) (cA comp : ClassId) : ∀ i, rowT (T.setTop f) cA comp i = (rowT T cA comp i).setTop f
  | 0 => rfl
  | i + 1 => by simp only [rowT, rowT_top T f cA comp i, State.heap_setTop, State.pushCell_setTop, State.setCell_setTop]
section WP
variable {E : CtlPost} {e : Env} {d : Bool} {acts : List Action} {s : State}
theorem wp_five {c comp : ClassId} {k : Class} {ty : FieldType} {v : Value} (hk : s.vm.classes[c]? = some k) (hkind : k.kind = .array comp ty) (hl : ¬ 5 > e.platform.arrayLengthLimit) (hb : ¬ 5 * componentBytes ty > e.platform.maxHeapBytes) (hfit : fits ty v = true) (hdef : v.isDefault = true) {Q : Addr → Pre} (h1 : s.heap.size < e.platform.maxCells) (h2 : s.slotsUsed + 5 ≤ e.platform.maxSlots) (hq : Q s.heap.size d acts (s.pushCell { cls := c, slots := Array.replicate 5 v, vm := .none })) : wp (Jvm.newArray c 5 v) Q E e d acts s := by
  have hacts : allocActs (Array.replicate 5 v) s.heap.size acts = acts := by
    unfold allocActs
    rw [if_pos (by rw [Array.all_replicate]; simp [hdef])]
  simp only [Jvm.newArray, Jvm.arrayFits, wp_bind', W.ask, W.ite, hl, if_false, wp_pure', W.theClass, hk, hkind, hb, W.alloc, W.stop, Option.some.injEq, exists_eq_left', Array.size_replicate, hacts]
  rw [if_neg (by omega)]
  refine ⟨h1, h2, fun i x hx => ?_, hq⟩
  rw [Array.getElem?_replicate] at hx
  by_cases w : i < 5
  · rw [if_pos w] at hx
    cases hx
    simp [State.fitsSlot, State.slotType?, hk, hkind, hfit]
  · rw [if_neg w] at hx; cases hx
theorem wp_rows {cA comp cc : ClassId} {kA kC : Class} (hkA : s.vm.classes[cA]? = some kA) (hA : kA.kind = .array comp (.array .int)) (hkC : s.vm.classes[comp]? = some kC) (hC : kC.kind = .array cc .int) (hl : ¬ 5 > e.platform.arrayLengthLimit) (hb : ¬ 5 * 4 > e.platform.maxHeapBytes) (h1 : s.heap.size + 6 ≤ e.platform.maxCells) (h2 : s.slotsUsed + 30 ≤ e.platform.maxSlots) {Q : Addr → Pre} (hq : ∀ d' acts', Q s.heap.size d' acts' (rowT s cA comp 5)) : wp (multianewarray.make cA [5, 5]) Q E e d acts s := by
  have h5 : (5 : Int32).toNatClampNeg = 5 := by decide
  have hn : ¬ (5 : Int32) < 0 := by decide
  have hfind : ([(5 : Int32)].find? (· < 0)) = none := by decide
  rw [multianewarray.make]
  simp only [wp_bind', W.ite, hn, if_false, wp_pure', W.theClass, hkA, hA, Option.some.injEq, exists_eq_left', h5]
  refine wp_five hkA hA hl hb rfl rfl (by omega) (by omega) ?_
  simp only [hfind]
  rw [ite_self, wp_bind', Std.Legacy.Range.forIn_eq_forIn_range']
  show wp (forIn (List.range' 0 5 1) PUnit.unit _) _ E e d acts _
  refine wp_forIn_inv (fun rest s' => ∃ i, i ≤ 5 ∧ rest = List.range' i (5 - i) ∧ s' = rowT s cA comp i) _ _ ⟨0, by decide, rfl, rfl⟩ ?_ ?_
  · rintro x rest s' d' acts' Q' ⟨i, hi, hr, rfl⟩ hnext
    have hlt : i < 5 := by
      rcases Nat.lt_or_ge i 5 with h | h
      · exact h
      · rw [show 5 - i = 0 by omega] at hr; simp at hr
    rw [show 5 - i = (5 - (i + 1)) + 1 by omega, List.range'_succ] at hr
    obtain ⟨rfl, hr⟩ := List.cons.inj hr
    obtain ⟨f1, f2, f3, f4⟩ := rowT_is s cA comp x
    obtain ⟨o1, o2, o3⟩ := rowO_is cA s.heap.size x
    have hlt0 : s.heap.size < (rowT s cA comp x).heap.size := by omega
    simp only [wp_bind']
    rw [multianewarray.make]
    simp only [wp_bind', W.ite, hn, if_false, wp_pure', W.theClass, f3, hkC, hC, Option.some.injEq, exists_eq_left', h5]
    refine wp_five (k := kC) (comp := cc) (ty := .int) (by rw [f3]; exact hkC) hC hl hb rfl rfl (by rw [f1]; omega) (by rw [f4]; omega) ?_
    simp only [wp_bind', W.writeLoc, wp_pure']
    refine ⟨rowO cA s.heap.size x, by rw [State.heap_pushCell_of_lt (h := hlt0)]; exact f2, by rw [o2]; simp, by rw [o3]; exact hlt, ?_, hnext _ _ _ ⟨x + 1, hlt, hr, ?_⟩⟩
    · rw [o1, o2]
      simp [State.fitsSlot, State.slotType?, f3, hkA, hA]
      rfl
    · rw [f1]; rfl
  · rintro s' d' acts' ⟨i, hi, hr, rfl⟩
    have : i = 5 := by
      rcases Nat.lt_or_ge i 5 with h | h
      · rw [show 5 - i = (5 - (i + 1)) + 1 by omega, List.range'_succ] at hr; cases hr
      · omega
    subst this
    simp only [wp_pure']
    exact hq _ _
end WP
theorem rowT_stand {p : Program} {l : Launch} {e : Env} {R : Room} {s : State} {m : MethodId} {args : Array Value} {below : List Frame} {meth : Method} {c : Code} {T : State} {locs : List Loc} {cells slots : Nat} (X : Stand p l e R s m args below meth c T locs cells slots) (cA comp : ClassId) : ∀ i, Stand p l e R s m args below meth c (rowT T cA comp i) (locs ++ (List.range i).map fun j => ⟨T.heap.size, j⟩) (cells + 1 + i) (slots + 5 + i * 5)
  | 0 => by
    have h := X.pushed (rowO cA T.heap.size 0)
    rw [(rowO_is cA T.heap.size 0).2.2] at h
    simpa [rowT] using h
  | i + 1 => by
    have Xi := rowT_stand X cA comp i
    obtain ⟨f1, f2, f3, f4⟩ := rowT_is T cA comp i
    have hlt : T.heap.size < (rowT T cA comp i).heap.size := by omega
    have hc : ((rowT T cA comp i).pushCell (rowI comp)).heap[T.heap.size]? = some (rowO cA T.heap.size i) := by rw [State.heap_pushCell_of_lt (h := hlt)]; exact f2
    have h := (Xi.pushed (rowI comp)).stored hc i (.ref (T.heap.size + 1 + i))
    rw [show (rowI comp).slots.size = 5 by simp [rowI]] at h
    rw [List.range_succ, List.map_append, ← List.append_assoc, show slots + 5 + (i + 1) * 5 = slots + 5 + i * 5 + 5 by omega, show cells + 1 + (i + 1) = cells + 1 + i + 1 by omega]
    exact h
section KM
variable {p : Program} {l : Launch} {e : Env} {R : Room} {s : State} {m : MethodId} {args : Array Value} {below : List Frame} {meth : Method} {c : Code} {H H0 : Heap} {locs : List Loc} {cells slots : Nat} {Q : State → Prop}
variable {D : va_G} {cy : Nat → ClassId} {A : Nat → Prop} {cc : ByteArray} {pc nL idx : Nat} {ls : Array Slot} {c0 : Cond} {own : String} {rest : List Value} {ws : va_W}
/-- the cells that come -/
def fiveW (cy : Nat → ClassId) (q : Nat) : va_W := [(q, .inl (cy 3, 5, .inr (.inr (.inr (.inr (fun i => if i < 5 then some (q + 1 + i) else none)))))), (q + 1, .inl (cy 0, 5, .inl (fun _ => 0))), (q + 2, .inl (cy 0, 5, .inl (fun _ => 0))), (q + 3, .inl (cy 0, 5, .inl (fun _ => 0))), (q + 4, .inl (cy 0, 5, .inl (fun _ => 0))), (q + 5, .inl (cy 0, 5, .inl (fun _ => 0)))]
theorem k_multi (S : CallFix p m c cc nL s args (c0 :: uw) own) (hK : KU D cy s) (hC : KC cy s) (hP : va_P D vwCl ws H) (hD : va_D A ws) (hS : va_S A H0 H locs) (hA : ∀ q, H0.size ≤ q → A q) (hc1 : cells + 6 ≤ R.cells) (hc2 : slots + 30 ≤ R.slots) (hcl : Cond.classLink own idx "[[I" ∈ uw) (hdg : decode cc pc = .ok (.multianewarray idx 2, 4)) (kk : ∀ (q : Nat) (H1 : Heap) (locs1 : List Loc), va_P D vwCl (ws ++ fiveW cy q) H1 → va_D A (ws ++ fiveW cy q) → va_S A H0 H1 locs1 → W p l e R s m args below meth c H1 locs1 (cells + 6) (slots + 30) Q (F0 m (pc + 4) ls (.ref q :: rest))) : W p l e R s m args below meth c H locs cells slots Q (F0 m pc ls (.int 5 :: .int 5 :: rest)) := by
  intro T hT X
  subst hT
  have hpl : e.platform.magicAccessors = ({} : Platform).magicAccessors := by rw [X.admits.platform]
  obtain ⟨kA, hkA, hkindA⟩ := hC
  obtain ⟨-, kC, hkC, cc', hkindC⟩ := (hK.1.2 0 _ rfl).1 0 (fun _ => .null)
  have hname : s.vm.findClass "[[I" = some (cy 3) := (hK.1.2 3 _ rfl).2
  obtain ⟨c1, hfc, hlk⟩ := Cond.classLink_spec S.2.2.2.1 (S.2.2.2.2 _ (List.mem_cons_of_mem _ hcl)) e.platform hpl
  cases hname.symm.trans hfc
  obtain ⟨hg₁, hwarm₁, hready₁⟩ := State.classEntry (e := e) X.warmed hlk
  generalize T.vm.noted m.cls idx (.cls (cy 3)) = vm₁ at hg₁ hwarm₁ hready₁
  obtain ⟨kA₁, hkA₁, heA⟩ := hwarm₁.alike.2.2 _ _ hkA
  obtain ⟨kC₁, hkC₁, heC⟩ := hwarm₁.alike.2.2 _ _ hkC
  have X₁ := X.noted hwarm₁
  obtain ⟨hr1, hr2⟩ := X.roomAbove hc1 hc2
  have XF := rowT_stand X₁ (cy 3) (cy 0) 5
  obtain ⟨f1, f2, f3, f4⟩ := rowT_is (T.setVm vm₁) (cy 3) (cy 0) 5
  have hsz : (T.setVm vm₁).heap.size = T.heap.size := rfl
  have hold : ∀ q, q < T.heap.size → (rowT (T.setVm vm₁) (cy 3) (cy 0) 5).heap[q]? = T.heap[q]? := fun q hq => rowT_old (T.setVm vm₁) (cy 3) (cy 0) hq 5
  have hPf : va_P D vwCl (fiveW cy T.heap.size) (rowT (T.setVm vm₁) (cy 3) (cy 0) 5).heap := by
    have hnew : ∀ j, j < 5 → (rowT (T.setVm vm₁) (cy 3) (cy 0) 5).heap[T.heap.size + 1 + j]? = some (vp_cell (cy 0) (5, .inl (fun _ => 0))) := fun j hj => by
      rw [show T.heap.size = (T.setVm vm₁).heap.size from rfl, rowT_new (T.setVm vm₁) (cy 3) (cy 0) j 5 hj]
      rfl
    have hout : (rowT (T.setVm vm₁) (cy 3) (cy 0) 5).heap[T.heap.size]? = some (vp_cell (cy 3) (5, .inr (.inr (.inr (.inr (fun i => if i < 5 then some (T.heap.size + 1 + i) else none)))))) := by
      rw [show T.heap.size = (T.setVm vm₁).heap.size from rfl, f2, vp_cell_q]
      congr 1
    intro k q hk
    match k, hk with
    | 0, hk => cases hk; exact hout
    | 1, hk => cases hk; exact hnew 0 (by decide)
    | 2, hk => cases hk; exact hnew 1 (by decide)
    | 3, hk => cases hk; exact hnew 2 (by decide)
    | 4, hk => cases hk; exact hnew 3 (by decide)
    | 5, hk => cases hk; exact hnew 4 (by decide)
    | k + 6, hk => simp [fiveW] at hk
  have hge : ∀ (k : Nat) (q : Nat × va_E), (fiveW cy T.heap.size)[k]? = some q → q.1 = T.heap.size + k := fun k q hk => by
    match k, hk with
    | 0, hk => cases hk; rfl
    | 1, hk => cases hk; rfl
    | 2, hk => cases hk; rfl
    | 3, hk => cases hk; rfl
    | 4, hk => cases hk; rfl
    | 5, hk => cases hk; rfl
    | k + 6, hk => simp [fiveW] at hk
  obtain ⟨t, st, hQ⟩ := kk T.heap.size (rowT (T.setVm vm₁) (cy 3) (cy 0) 5).heap (locs ++ (List.range 5).map fun j => ⟨T.heap.size, j⟩) ((hP.kept (fun k q hq => hold q.1 ((hP k q hq).lt))).app hPf) (va_D.app hD ⟨fun i j x y h1 h2 hxy => by
      have a1 := hge i x h1
      have a2 := hge j y h2
      omega, fun k q hk => hA _ (by have := hge k q hk; have := hS.1; omega)⟩ (fun i j x y h1 h2 hxy => by
      have a1 := (hP i x h1).lt
      have a2 := hge j y h2
      omega)) ⟨by rw [f1, hsz]; have := hS.1; omega, fun x h1 h2 => (hold x (Nat.lt_of_lt_of_le h1 hS.1)).trans (hS.2.1 x h1 h2), fun q hq => by
      rcases List.mem_append.mp hq with h | h
      · exact hS.2.2 q h
      · obtain ⟨j, -, rfl⟩ := List.mem_map.mp h
        exact hA _ hS.1⟩ (rowT (T.setVm vm₁) (cy 3) (cy 0) 5) rfl (by
      have := XF
      rw [show cells + 1 + 5 = cells + 6 by omega, show slots + 5 + 5 * 5 = slots + 30 by omega] at this
      exact this)
  refine ⟨t, ?_, hQ⟩
  have hl5 : ¬ 5 > e.platform.arrayLengthLimit := by rw [Launch.admits_arrayLengthLimit X.admits]; omega
  have hb5 : ¬ 5 * 4 > e.platform.maxHeapBytes := by rw [Launch.admits_maxHeapBytes X.admits]; omega
  have hb := S.2.1
  have hx := S.1
  jvm_step X.here [hx, hb, hdg]
  simp only [multianewarray.sem, wp_bind', W.resolveClassAt_links (State.method?_setTop (F0 m pc ls (.int 5 :: .int 5 :: rest)) X.here.top) hg₁]
  rw [W.popN, if_neg (by decide)]
  refine ⟨F0 m pc ls (.int 5 :: .int 5 :: rest), State.topJava?_setTop' (s := T.setVm vm₁) _ X.here.top, [.int 5, .int 5], rest, rfl, rfl, ?_⟩
  simp only [List.mapM_cons, List.mapM_nil, wp_bind', wp_pure']
  refine wp_rows (kA := kA₁) (kC := kC₁) (comp := cy 0) (cc := cc') hkA₁ (by rw [heA]; exact hkindA) hkC₁ (by rw [heC]; exact hkindC) hl5 hb5 (by show T.heap.size + 6 ≤ _; omega) (by show T.slotsUsed + 30 ≤ _; omega) (fun d' acts' => ?_)
  have eS : ∀ g1 g2 : JFrame, ((T.setTop g1).setVm vm₁).setTop g2 = (T.setVm vm₁).setTop g2 := fun g1 g2 => by
    show ((T.setVm vm₁).setTop g1).setTop g2 = _
    rw [State.setTop_setTop]
  rw [eS, rowT_top]
  simp only [wp_bind', W.mark, W.pushRef, State.topJava?_setTop' _ XF.here.top, Option.some.injEq, exists_eq_left', State.setTop_setTop, State.heap_setTop]
  intro acts
  simp [jvm, XF.here.top]
  exact st
end KM
end FIVE
