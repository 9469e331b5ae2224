/-! the beginning -/
theorem ini_rel {f f' g' : Nat → Int32} {gg : Nat → Nat → Int32} (hf : ∀ j, j < 80 → f j = 8) (hg : ∀ a b, a < 5 → b < 5 → gg a b = 1) (hf' : ∀ j, j < 80 → f' j = 8) (hg' : ∀ j, j < 25 → g' j = 1) : Rel (iniX f gg) (iniM f' g') := by
  have no : ∀ j, j < 14 → ¬ nI j < gi (iniX f gg) 10 := fun j hj => nI_nlt (b := 0) (Nat.zero_le _) (by omega)
  refine ⟨⟨⟨1000, 40, 60, 10, 2, 5, ⟨rfl, rfl, by decide, by decide⟩, ⟨rfl, rfl, by decide, by decide⟩, ⟨rfl, rfl, by decide, by decide⟩, ⟨rfl, rfl, by decide⟩, ⟨rfl, rfl, by decide⟩, ⟨rfl, rfl, by decide, by decide⟩⟩, ⟨0, by decide, rfl, rfl, fun j hj => absurd hj (Nat.not_lt_zero _)⟩, ⟨0, by decide, rfl, rfl, fun j hj => absurd hj (Nat.not_lt_zero _), fun j _ => ⟨rfl, rfl, rfl⟩⟩, ⟨0, by decide, rfl, rfl, fun j hj => absurd hj (Nat.not_lt_zero _)⟩, ⟨0, by decide, rfl, rfl, fun j hj => absurd hj (Nat.not_lt_zero _)⟩⟩, ⟨⟨0, 1, by decide, by decide, rfl, rfl, rfl, rfl, fun j hj => absurd hj (Nat.not_lt_zero _)⟩, ⟨0, rfl, by decide, fun k => ?_, fun k hk => ⟨0, rfl, by decide, fun j => ?_⟩⟩, ⟨0, 8, 4, by decide, rfl, rfl, ⟨by decide, by decide, rfl, rfl⟩, ⟨by decide, by decide, rfl, rfl⟩, fun j hj => absurd hj (Nat.not_lt_zero _), fun a b ha hb => ⟨1, by decide, by decide, ?_, hg' _ (by omega)⟩⟩, ⟨⟨2, by decide, rfl, rfl⟩, rfl, fun d hd => ⟨8, by decide, hf d hd, hf' d hd, rfl, Or.inl rfl⟩⟩⟩, rw0 rfl, rp0 rfl, rpm0 rfl, rz0 rfl, 0, 0, by decide, by decide, rfl, rfl⟩
  · rw [Nat.zero_testBit]
    exact ⟨fun q => absurd q (by decide), fun ⟨j, h1, h2, _⟩ => absurd h1 (no j h2)⟩
  · rw [Nat.zero_testBit]
    exact ⟨fun q => absurd q (by decide), fun ⟨h1, h2, _⟩ => absurd h1 (no j h2)⟩
  · match a, ha with
    | 0, _ => exact hg 0 b (by decide) hb
    | 1, _ => exact hg 1 b (by decide) hb
    | 2, _ => exact hg 2 b (by decide) hb
    | 3, _ => exact hg 3 b (by decide) hb
    | 4, _ => exact hg 4 b (by decide) hb
/-- what the word of an array of arrays says -/
theorem over_ii {args : Array Value} {s : State} (h : (Cond.arrayOver (.array .int)).before args s = true) : ∃ (comp cA : ClassId) (k : Class), s.vm.findClass "[I" = some comp ∧ s.vm.classes[cA]? = some k ∧ k.kind = .array comp (.array .int) ∧ s.vm.findClass "[[I" = some cA := by
  have h : (Cond.arrayOver (.array .int)).holds args s none s [] = true := h
  simp only [Cond.holds, Cond.value, beq_iff_eq] at h
  cases hc : s.vm.findClass (FieldType.array .int).toString with
  | none => simp [hc] at h
  | some comp =>
    simp only [hc, Option.bind_some, Option.bind_eq_some_iff, Option.map_eq_some_iff] at h
    obtain ⟨cA, hi, k, hk, hb⟩ := h
    obtain ⟨hlt, hp, -⟩ := Array.findIdx?_eq_some_iff_getElem.mp hi
    rw [(Array.getElem?_eq_some_iff.mp hk).2] at hp
    cases hkind : k.kind with
    | array component ty =>
      rw [hkind] at hb hp
      simp at hb hp
      exact ⟨comp, cA, k, hc, hk, by rw [hkind, hp, hb.1], hb.2⟩
    | _ => rw [hkind] at hb; simp at hb
set_option maxHeartbeats 4000000 in
set_option maxRecDepth 100000 in
theorem whole_start {p : Program} {e : Env} {s : State} {m : MethodId} {below : List Frame} {meth : Method} {c : Code} (l : Launch) {b L : Nat} {xs : Nat → Int32} (hL : L ≤ 3072) (C0 : lw_At p s m meth c b L xs) : W p l e room_1 s m #[Value.ref b] below meth c s.heap [] 0 0 (lw_Z below #[Value.ref b] s) (entryFrame m ([Value.ref b] : List Value).toArray 4) := by
  obtain ⟨hx, hb, hr, hml, hown, hts, hX, hbl, hlocks, hgv⟩ := id C0
  have S : CallFix p m c cL_law 4 s #[Value.ref b] (lawC :: uw) RL := ⟨hx, hb, hml, hown, fun w hw => hts w (uw_tbl (lawC_in hw))⟩
  have hA : ∀ q : Nat, s.heap.size ≤ q → (fun q : Nat => s.heap.size ≤ q) q := fun _ h => h
  obtain ⟨c0, iS0, hKn0⟩ := u_known (C := RX0) (T := TX0) (N := 11) (n := 11) hts (fun w h => uw_tbl (inU0 w h)) (hts _ (uw_tbl q229))
  obtain ⟨c1, iS1, hKn1⟩ := u_known (C := RX1) (T := TX1) (N := 3) (n := 3) hts (fun w h => uw_tbl (inU1 w h)) (hts _ (uw_tbl q55))
  obtain ⟨c2, iS2, hKn2⟩ := u_known (C := RX2) (T := TX2) (N := 6) (n := 6) hts (fun w h => uw_tbl (inU2 w h)) (hts _ (uw_tbl q24))
  obtain ⟨c3, iS3, hKn3⟩ := u_known (C := RX3) (T := TX3) (N := 3) (n := 3) hts (fun w h => uw_tbl (inU3 w h)) (hts _ (uw_tbl q277))
  obtain ⟨c4, iS4, hKn4⟩ := u_known (C := RX4) (T := TX4) (N := 9) (n := 9) hts (fun w h => uw_tbl (inU4 w h)) (hts _ (uw_tbl q194))
  obtain ⟨c5, iS5, hKn5⟩ := u_known (C := RX5) (T := TX5) (N := 5) (n := 5) hts (fun w h => uw_tbl (inU5 w h)) (hts _ (uw_tbl q74))
  obtain ⟨c6, iS6, hKn6⟩ := u_known (C := RX6) (T := TX6) (N := 2) (n := 2) hts (fun w h => uw_tbl (inU6 w h)) (hts _ (uw_tbl q100))
  obtain ⟨c7, iS7, hKn7⟩ := u_known (C := RX7) (T := TX7) (N := 7) (n := 7) hts (fun w h => uw_tbl (inU7 w h)) (hts _ (uw_tbl q159))
  obtain ⟨c8, iS8, hKn8⟩ := u_known (C := RX8) (T := TX8) (N := 9) (n := 9) hts (fun w h => uw_tbl (inU8 w h)) (hts _ (uw_tbl q114))
  obtain ⟨c9, iS9, hKn9⟩ := u_known (C := RX9) (T := TX9) (N := 9) (n := 9) hts (fun w h => uw_tbl (inU9 w h)) (hts _ (uw_tbl q16))
  obtain ⟨c10, iS10, hKn10⟩ := u_known (C := RX10) (T := TX10) (N := 53) (n := 53) hts (fun w h => uw_tbl (inU10 w h)) (hts _ (uw_tbl q939))
  obtain ⟨dC, dI, hKc⟩ : ∃ (dC : Nat → ClassId) (dI : Nat → Nat → Nat), ∀ (k : Nat) (q : vw_C), vwCl[k]? = some q → u_Kn s q.1 q.2.1 q.2.2 (dC k) (dI k) := by
    refine ⟨fun k => if k = 0 then c0 else if k = 1 then c1 else if k = 2 then c2 else if k = 3 then c3 else if k = 4 then c4 else if k = 5 then c5 else if k = 6 then c6 else if k = 7 then c7 else if k = 8 then c8 else if k = 9 then c9 else c10, fun k => if k = 0 then iS0 else if k = 1 then iS1 else if k = 2 then iS2 else if k = 3 then iS3 else if k = 4 then iS4 else if k = 5 then iS5 else if k = 6 then iS6 else if k = 7 then iS7 else if k = 8 then iS8 else if k = 9 then iS9 else iS10, ?_⟩
    intro k q hq
    match k, hq with
    | 0, hq => cases hq; exact hKn0
    | 1, hq => cases hq; exact hKn1
    | 2, hq => cases hq; exact hKn2
    | 3, hq => cases hq; exact hKn3
    | 4, hq => cases hq; exact hKn4
    | 5, hq => cases hq; exact hKn5
    | 6, hq => cases hq; exact hKn6
    | 7, hq => cases hq; exact hKn7
    | 8, hq => cases hq; exact hKn8
    | 9, hq => cases hq; exact hKn9
    | 10, hq => cases hq; exact hKn10
    | k + 11, hq => simp [vwCl] at hq
  obtain ⟨aI, kI, zI, i1, i2, i3⟩ := Cond.arrayClass_spec (hts _ (uw_tbl q72))
  obtain ⟨aJ, kJ, zJ, j1, j2, j3⟩ := Cond.arrayClass_spec (hts _ (uw_tbl q227))
  obtain ⟨aZ, kZ, zZ, z1, z2, z3⟩ := Cond.arrayClass_spec (hts _ (uw_tbl q98))
  obtain ⟨aO, aA, kA, o1, o2, o3, o4⟩ := over_ii (hts _ qn165)
  have eI : aO = aI := Option.some.inj (o1.symm.trans i1)
  subst eI
  obtain ⟨cy, hcy0, hcy1, hcy2, hcy3⟩ : ∃ cy : Nat → ClassId, cy 0 = aO ∧ cy 1 = aJ ∧ cy 2 = aZ ∧ cy 3 = aA := ⟨fun k => if k = 0 then aO else if k = 1 then aJ else if k = 2 then aZ else aA, rfl, rfl, rfl, rfl⟩
  subst hcy0 hcy1 hcy2 hcy3
  have hK : KU (dC, dI) cy s := ⟨⟨hKc, fun k q hq => by
    match k, hq with
    | 0, hq => cases hq; exact ⟨fun n z => ⟨fun k h => (by cases h), kI, i2, zI, i3⟩, i1⟩
    | 1, hq => cases hq; exact ⟨fun n z => ⟨fun k h => (by cases h), kJ, j2, zJ, j3⟩, j1⟩
    | 2, hq => cases hq; exact ⟨fun n z => ⟨fun k h => (by cases h), kZ, z2, zZ, z3⟩, z1⟩
    | 3, hq => cases hq; exact ⟨fun n z => ⟨fun k h => (by cases h), kA, o2, _, o3⟩, o4⟩
    | k + 4, hq => simp [tyU] at hq⟩, List.forall_mem_cons.mpr ⟨va_Nw.of rfl (hts _ qn25), List.forall_mem_cons.mpr ⟨va_Nw.of rfl (hts _ qn56), List.forall_mem_cons.mpr ⟨va_Nw.of rfl (hts _ qn75), List.forall_mem_cons.mpr ⟨va_Nw.of rfl (hts _ qn101), List.forall_mem_cons.mpr ⟨va_Nw.of rfl (hts _ qn115), List.forall_mem_cons.mpr ⟨va_Nw.of rfl (hts _ qn278), List.forall_mem_cons.mpr ⟨va_Nw.of rfl (hts _ qn340), List.forall_mem_cons.mpr ⟨va_Nw.of rfl (hts _ qn464), fun _ h => absurd h List.not_mem_nil⟩⟩⟩⟩⟩⟩⟩⟩⟩
  have hC : KC cy s := ⟨kA, o2, o3⟩
  have hS : va_S (fun q : Nat => s.heap.size ≤ q) s.heap s.heap [] := va_S.rf
  have hP : va_P (dC, dI) vwCl [] s.heap := fun k q h => by simp at h
  have hD : va_D (fun q : Nat => s.heap.size ≤ q) [] := ⟨fun i j p q h => by simp at h, fun k q h => by simp at h⟩
  have hl := lv_entry ([.ref b]) (n := 4) (Nat.le_of_ble_eq_true rfl)
  rw [lg_entry_eq]
  generalize (lg_sl ([.ref b]) ++ List.replicate (4 - (lg_sl ([.ref b])).length) Slot.unset).toArray = ls at hl ⊢
  have hl : lv_has ls 4 [(0, .ref b)] := hl
  refine va_new (ci := 9) (fs := [.null, .null, .null, .null, .null, .null, .null, .null, .null]) (C := RX9) (T := TX9) (N := 9) hx hb S.2.2.2.2 (fun w h => List.mem_cons_of_mem _ (inU9 w h)) tyX9 tyX9_ok hown (hts _ (uw_tbl q15)) (hts _ (uw_tbl q16)) (hts _ (uw_tbl q1)) hK.1 hP hD hS hA rfl (fun j hj => by match j, hj with | 0, _ => rfl | 1, _ => rfl | 2, _ => rfl | 3, _ => rfl | 4, _ => rfl | 5, _ => rfl | 6, _ => rfl | 7, _ => rfl | 8, _ => rfl) (Nat.le_of_ble_eq_true rfl) (Nat.le_of_ble_eq_true rfl) dL_law_0 (fun x0 H hP hD hS => ?_)
  refine lv_dup hx hb dL_law_3 rfl ?_
  refine k_init (ws := []) (w0 := [(x0, .inr (9, [.null, .null, .null, .null, .null, .null, .null, .null, .null]))]) (k_runI (As := []) (rest := [.ref x0]) S (k_X9 l (dC, dI) cy x0) iX9_init q18 rfl q17 ⟨Nat.le_of_ble_eq_true rfl, Nat.le_of_ble_eq_true rfl⟩ hK hC hP hD rfl hl.1 (Nat.le_of_ble_eq_true rfl) dL_law_4 ⟨Nat.le_of_ble_eq_true rfl, Nat.le_of_ble_eq_true rfl⟩) hP hD hS hA (fun u H1 locs hu hP1 hD1 hS1 => ?_)
  obtain ⟨⟨ad, aw, ac⟩, f, gg⟩ := u
  obtain ⟨had, hf, hgg⟩ := hu
  have had : ad 0 = x0 := had
  subst had
  have hP : va_P (dC, dI) vwCl (wX cy ad aw ac (iniX f gg)) H1 := hP1
  have hD : va_D (fun q : Nat => s.heap.size ≤ q) (wX cy ad aw ac (iniX f gg)) := hD1
  have hS := hS1
  refine lv_astore_n (lv' := [(1, .ref (ad 0)), (0, .ref b)]) hx hb dL_law_7 rfl hl (by decide) rfl (fun ls hl => ?_)
  refine va_new (ci := 10) (fs := [.int 0, .int 0, .int 0, .int 0, .int 0, .int 0, .int 0, .null, .null, .int 0, .null, .null, .null, .null, .int 0, .null, .int 0, .null, .null, .null, .null, .null, .int 0, .int 0, .null, .null, .null, .null, .int 0, .int 0, .int 0, .null, .null, .null, .int 0, .int 0, .null, .null, .int 0, .null, .null, .null, .int 0, .int 0, .int 0, .null, .null, .long 0, .long 0, .long 0, .long 0, .long 0, .long 0]) (C := RX10) (T := TX10) (N := 53) hx hb S.2.2.2.2 (fun w h => List.mem_cons_of_mem _ (inU10 w h)) tyX10 tyX10_ok hown (hts _ (uw_tbl q938)) (hts _ (uw_tbl q939)) (hts _ (uw_tbl q12)) hK.1 hP hD hS hA rfl (fun j hj => by match j, hj with | 0, _ => rfl | 1, _ => rfl | 2, _ => rfl | 3, _ => rfl | 4, _ => rfl | 5, _ => rfl | 6, _ => rfl | 7, _ => rfl | 8, _ => rfl | 9, _ => rfl | 10, _ => rfl | 11, _ => rfl | 12, _ => rfl | 13, _ => rfl | 14, _ => rfl | 15, _ => rfl | 16, _ => rfl | 17, _ => rfl | 18, _ => rfl | 19, _ => rfl | 20, _ => rfl | 21, _ => rfl | 22, _ => rfl | 23, _ => rfl | 24, _ => rfl | 25, _ => rfl | 26, _ => rfl | 27, _ => rfl | 28, _ => rfl | 29, _ => rfl | 30, _ => rfl | 31, _ => rfl | 32, _ => rfl | 33, _ => rfl | 34, _ => rfl | 35, _ => rfl | 36, _ => rfl | 37, _ => rfl | 38, _ => rfl | 39, _ => rfl | 40, _ => rfl | 41, _ => rfl | 42, _ => rfl | 43, _ => rfl | 44, _ => rfl | 45, _ => rfl | 46, _ => rfl | 47, _ => rfl | 48, _ => rfl | 49, _ => rfl | 50, _ => rfl | 51, _ => rfl | 52, _ => rfl | n + 53, h => exact absurd h (by omega)) (Nat.le_of_ble_eq_true rfl) (Nat.le_of_ble_eq_true rfl) dL_law_8 (fun m0 H hP hD hS => ?_)
  refine lv_dup hx hb dL_law_11 rfl ?_
  refine k_init (ws := wX cy ad aw ac (iniX f gg)) (w0 := [(m0, .inr (10, [.int 0, .int 0, .int 0, .int 0, .int 0, .int 0, .int 0, .null, .null, .int 0, .null, .null, .null, .null, .int 0, .null, .int 0, .null, .null, .null, .null, .null, .int 0, .int 0, .null, .null, .null, .null, .int 0, .int 0, .int 0, .null, .null, .null, .int 0, .int 0, .null, .null, .int 0, .null, .null, .null, .int 0, .int 0, .int 0, .null, .null, .long 0, .long 0, .long 0, .long 0, .long 0, .long 0]))]) (k_runI (As := []) (rest := [.ref m0]) S (k_X10 l (dC, dI) cy m0) iX10_init q941 rfl q940 ⟨Nat.le_of_ble_eq_true rfl, Nat.le_of_ble_eq_true rfl⟩ hK hC hP hD rfl hl.1 (Nat.le_of_ble_eq_true rfl) dL_law_12 ⟨Nat.le_of_ble_eq_true rfl, Nat.le_of_ble_eq_true rfl⟩) hP hD hS hA (fun u H2 locs hu hP2 hD2 hS2 => ?_)
  obtain ⟨ae, f', g'⟩ := u
  obtain ⟨hae, hf', hg'⟩ := hu
  have hae : ae 0 = m0 := hae
  subst hae
  have hP : va_P (dC, dI) vwCl (wX cy ad aw ac (iniX f gg) ++ wM cy ae 0 0 (iniM f' g')) H2 := hP2
  have hD : va_D (fun q : Nat => s.heap.size ≤ q) (wX cy ad aw ac (iniX f gg) ++ wM cy ae 0 0 (iniM f' g')) := hD2
  have hS := hS2
  refine lv_astore_n (lv' := [(2, .ref (ae 0)), (1, .ref (ad 0)), (0, .ref b)]) hx hb dL_law_15 rfl hl (by decide) rfl (fun ls hl => ?_)
  refine lv_iconst (v := 0) hx hb dL_law_16 (by decide) ?_
  refine lv_istore_n (lv' := [(3, .int 0), (2, .ref (ae 0)), (1, .ref (ad 0)), (0, .ref b)]) hx hb dL_law_17 rfl hl (by decide) rfl (fun ls hl => ?_)
  refine W.widen (k := 100) (n := 100000 + Pot (iniX f gg)) (Nat.le_of_ble_eq_true rfl) (show 9 + 602 + 53 + 98838 ≤ 100000 + Pot (iniX f gg) by omega) ?_
  exact law_go (S1 := 100000) hL C0 hK (by decide) (L + 1) 0 100 0 (Nat.zero_le L) (by omega) rfl (by omega) aw ac 0 0 (iniX f gg) (iniM f' g') H2 locs ls (ini_rel hf hgg hf' hg') ⟨p_left hP, d_left hD, p_right hP, d_right hD, (d_apart hD).symm, hS⟩ (lv_sub hl [3, 2, 1, 0] rfl)
def lw_P (b : Addr) (xs : List Int32) (args : Array Value) (s : State) : Prop := args = #[.ref b] ∧ s.IntsAt b xs ∧ xs.length ≤ 3072 ∧ (Jvm.Cond.and given_1 narrow_1).before args s = true
set_option maxHeartbeats 4000000 in
theorem lw_walk (l : Launch) (b : Addr) (xs : List Int32) : MetFree l x (headSpec (Jvm.Cond.code x code maxLocals ret :: tables_1) room_1) (lw_P b xs) (fun _ _ _ _ _ => True) lw_Q := by
  refine MetFree.of_bodyS (code := code) (maxLocals := maxLocals) (ret := ret) (by decide) ?_ ?_
  · intro args s m h hn
    obtain ⟨meth, c, h1, h2, h3, h4, h5, h6, -, -⟩ := Cond.code_spec hn (atoms_spec (ws := Jvm.Cond.code x code maxLocals ret :: tables_1) h _ List.mem_cons_self)
    exact ⟨meth, c, h1, h2, h3, h4, h5, h6⟩
  · intro p e s m args below meth c s₁ B hml0 hP _
    obtain ⟨rfl, hx, hbd, hgv⟩ := hP
    obtain ⟨scr, harrAt, hlist, hof, hsmall⟩ := hx
    obtain ⟨hcb, hkn, -, -⟩ := State.arrayAt?_spec harrAt
    have hown : s.vm.findClass R_law = some m.cls := findClass_of_methodNamed B.named
    have hts0 : ∀ c ∈ (Jvm.Cond.code x code maxLocals ret :: tables_1), c.before #[Value.ref b] s = true := atoms_spec (ws := Jvm.Cond.code x code maxLocals ret :: tables_1) B.pre
    have hts : ∀ w ∈ lw_tbl, w.before #[Value.ref b] s = true := k2_hts_sels lw_privs (fun w hw => hts0 w (List.mem_cons_of_mem _ hw)) lw_privs_ok
    have hml : c.maxLocals = 4 := B.maxLocals_eq (hts0 _ List.mem_cons_self)
    have X₀ : Stand p l e room_1 s m #[Value.ref b] below meth c s₁ [] 0 0 := Stand.of_body B
    have hh0 : s₁.heap = s.heap := by rw [B.state]; rfl
    have hsz : scr.slots.size = xs.length := by rw [← Array.length_toList, hlist, List.length_map]
    have hval : ∀ j : Nat, j < xs.length → scr.slots[j]? = some (.int (xs.getD j 0)) := fun j hj => by
      rw [← Array.getElem?_toList, hlist]
      simp [hj]
    have hbl : b < s.heap.size := (Array.getElem?_eq_some_iff.mp hcb).1
    have hX : va_X b xs.length (fun j => xs.getD j 0) s s.heap := ⟨scr, hcb, hof, hkn, hsz, hval⟩
    have K : W p l e room_1 s m #[Value.ref b] below meth c s₁.heap [] 0 0 (lw_Z below #[Value.ref b] s) (entryFrame m ([Value.ref b] : List Value).toArray 4) := by
      rw [hh0]
      exact whole_start l hbd ⟨B.exec, B.bytes, B.returns, hml, hown, hts, hX, hbl, B.notSynchronized, hgv⟩
    obtain ⟨t, a1, o, b1, b2, b3⟩ := K s₁ rfl X₀
    exact ⟨t, o, a1, b1, b2, b3⟩
theorem lw_pre_spec {args : Array Value} {s : State} (h : (Jvm.Cond.and given_1 narrow_1).before args s = true) (hr : rest_1_c.before args s = true) : ∃ (b : Addr) (xs : List Int32), lw_P b xs args s := by
  have hs := flat_of_before _ h
  have hq := flat_of_before _ hr
  have hc : (Cond.count 1).before args s = true := hs _ (by decide +kernel)
  have harr : (Cond.arrayOf (.arg 0) .int).before args s = true := hs _ (by decide +kernel)
  have hle : (Cond.le (.length (.arg 0)) (.int 3072)).before args s = true := hs _ (by decide +kernel)
  have hlen : (Cond.isInt (.length (.arg 0))).before args s = true := hq _ (by decide +kernel)
  have hall : (Cond.all (.arg 0) (.isInt (.elem (.arg 0) (.index 0)))).before args s = true := hq _ (by decide +kernel)
  obtain ⟨b, xs, hb, hx⟩ := State.ints_of_pre rfl harr hlen hall
  have hsm : xs.length < 2 ^ 31 := hx.choose_spec.2.2.2
  have hev : (Term.length (.arg 0)).eval args s none [] s = some (.int xs.length.toInt32) := hx.length_eval hb
  have hv := Cond.le_ints hev (show (Term.int 3072).eval args s none [] s = some (.int 3072) from rfl)
  have hd : xs.length.toInt32 ≤ 3072 := by
    simpa [Cond.before, Cond.holds, hv] using hle
  have hN : xs.length ≤ 3072 := (Int32.ofNat_le_ofNat hsm (by decide)).mp (show Int32.ofNat xs.length ≤ Int32.ofNat 3072 from hd)
  exact ⟨b, xs, Cond.one_arg hc (show args[0]? = some (.ref b) from hb), hx, hN, h⟩
theorem lw_comes (l : Launch) : Comes l x (Jvm.Cond.code x code maxLocals ret :: tables_1) room_1 (fun tb e args s => Calls_1 tb e args s ∧ rest_1 tb e args s ∧ Pre_1 tb e args s)
    (fun _ _ args s o t => lw_Q args s o t) := by
  intro p e ha hc hk s m args below hf hfit hheap happ hpre
  obtain ⟨b, xs, hP⟩ := lw_pre_spec hpre.2.2 hpre.2.1
  obtain ⟨k, o, h1, h2, h3, hQ⟩ := lw_walk l b xs p e ha hc hk s m args below hf ((Spec.applies_iff_loose hf).mp happ).1 hP trivial
  exact ⟨k, o, h1, h2, h3, hQ⟩
theorem lw_frame {s t : State} {o : Outcome} {args : Array Value} (h : Framed s o t [] 600000 7302250) :
    Framed s o t (fieldLocs frame_1_writes args s ++ arrayLocs frame_1_arrays args s ++ staticLocs frame_1_statics s) 600000 7302250 := h
theorem lw_limb (L : Cond) (hL : ∀ (args : Array Value) (s t : State), L.after args s (.returned (some (.int 1))) t = true) :
    ArmFor flags0 classFile x code maxLocals ret World_1 tables_1 room_1 Calls_1 rest_1 Pre_1
      (fun tb e a s o t => postC L tb e a s o t ∧ Framed s o t (fieldLocs frame_1_writes a s ++ arrayLocs frame_1_arrays a s ++ staticLocs frame_1_statics s) 600000 7302250) := by
  intro l _ _ _ p e ha hc hk s m args below hf hfit hheap happ hpre
  obtain ⟨k, o, h1, h2, h3, rfl, hF⟩ := lw_comes l p e ha hc hk s m args below hf hfit hheap happ hpre
  exact ⟨k, _, h1, h2, h3, hL args s _, lw_frame hF⟩
theorem i_vc : Claimed_1_1 ∧ Claimed_1_2 := ⟨lw_limb limb_1_1 (fun args s t => by simp [limb_1_1, Cond.after, Cond.holds, Cond.value]), lw_limb limb_1_2 (fun args s t => Cond.after_iff.mpr (by
  first | (rw [show limb_1_2 = Cond.eq .result (.int 1) from rfl, Cond.eq_ints (x := 1) (y := 1) rfl rfl]; simp; done) | (simp [limb_1_2, Cond.value, Term.eval]; done)))⟩
