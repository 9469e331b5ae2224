theorem iX6_leastBlame : YI yX6_leastBlame cX6_leastBlame 3 (some .int) 2 := ⟨q525, q5, by decide, by decide, by decide +kernel⟩
theorem vX6_leastBlame : YV yX6_leastBlame := ⟨q523, q524⟩
set_option maxRecDepth 100000 in
set_option maxHeartbeats 4000000 in
theorem c_X6_leastBlame (l : Launch) (D : va_G) (cy : Nat → ClassId) (ad : Nat → Nat) (σ : St) (v1 : Int32) (v2 : Int32) (r : Int32) (hf : fX6_leastBlame σ v1 v2 = some r) : Ci l D cy (wX cy ad) yX6_leastBlame cX6_leastBlame 3 .int 17 525 [.ref (ad 4), .int v1, .int v2] σ r σ 0 0 := by
  refine Ci.enter (by decide) (Nat.le_of_ble_eq_true rfl) ?_
  intro aw ac p e s m below meth c A H locs S hr hlocks hA hK hP hD hS ls hl
  have hx := S.1
  have hb := S.2.1
  have hl : lv_has ls 3 [(0, .ref (ad 4)), (1, .int v1), (2, .int v2)] := hl
  unfold fX6_leastBlame at hf
  refine lv_aload_n hx hb dX6_leastBlame_0 rfl (lv_at hl 0 rfl) ?_
  refine gX_row_loads S hK hP q105 dX6_leastBlame_1 ?_
  refine lv_iload_n hx hb dX6_leastBlame_4 rfl (lv_at hl 1 rfl) ?_
  refine lv_iload_n hx hb dX6_leastBlame_5 rfl (lv_at hl 2 rfl) ?_
  refine lv_iconst (v := (0 : Int32)) hx hb dX6_leastBlame_6 (by decide) ?_
  refine lv_iconst (v := (0 : Int32)) hx hb dX6_leastBlame_7 (by decide) ?_
  refine lv_iconst (v := (0 : Int32)) hx hb dX6_leastBlame_8 (by decide) ?_
  refine lv_iconst (v := (-1 : Int32)) hx hb dX6_leastBlame_9 (by decide) ?_
  obtain ⟨r10, h10, hf⟩ := ob_some hf
  refine u_calli0 (u_runS (rest := []) S (c_X6_blame l D cy ad 14 σ v1 v2 (0 : Int32) (0 : Int32) (0 : Int32) (-1 : Int32) r10 h10 aw ac H.size) iX6_blame q527 q526 ⟨by first | omega | (dsimp only [Rm]; omega), by first | omega | (dsimp only [Rm]; omega)⟩ hK hP hD rfl hl.1 (Nat.le_of_ble_eq_true rfl) dX6_leastBlame_10 ⟨Nat.le_refl _, Nat.le_refl _⟩) hD hS hA (fun H locs hP hD hS => ?_)
  exact u_iretr hx hb hr hlocks rfl hP hD hS dX6_leastBlame_13 hf (fun _ => rfl)
theorem iX6_mixInto : YI yX6_mixInto cX6_mixInto 6 (some .long) 1 := ⟨q916, q5, by decide, by decide, by decide +kernel⟩
theorem vX6_mixInto : YV yX6_mixInto := ⟨q914, q915⟩
set_option maxRecDepth 100000 in
set_option maxHeartbeats 4000000 in
theorem c_X6_mixInto (l : Launch) (D : va_G) (cy : Nat → ClassId) (ad : Nat → Nat) (σ : St) (v1 : Int64) (r : Int64) (hf : fX6_mixInto σ v1 = some r) : Cl l D cy (wX cy ad) yX6_mixInto cX6_mixInto 6 0 0 [.ref (ad 4), .long v1] σ r σ 0 0 := by
  refine Cl.enter (by decide) (Nat.le_of_ble_eq_true rfl) ?_
  intro aw ac p e s m below meth c A H locs S hr hlocks hA hK hP hD hS ls hl
  have hx := S.1
  have hb := S.2.1
  have hl : lv_has ls 6 [(0, .ref (ad 4)), (1, .long v1)] := hl
  unfold fX6_mixInto at hf
  refine lv_lload_n hx hb dX6_mixInto_0 rfl (lv_at hl 1 rfl) ?_
  refine lv_lstore_n (lv' := [(3, .long v1), (0, .ref (ad 4)), (1, .long v1)]) hx hb dX6_mixInto_1 rfl hl (by decide) rfl (fun ls hl => ?_)
  refine lv_iconst (v := (0 : Int32)) hx hb dX6_mixInto_2 (by decide) ?_
  refine lv_istore (lv' := [(5, .int (0 : Int32)), (3, .long v1), (0, .ref (ad 4)), (1, .long v1)]) hx hb dX6_mixInto_3 hl (by decide) rfl (fun ls hl => ?_)
  have L5 : ∀ (n5 : Nat) (v3_5 : Int64) (v5_5 : Int32) (H : Heap) (locs : List Loc) (ls : Array Slot), fX6_mixInto_5 (fX6_mixInto_5_k σ v1) σ v1 n5 v3_5 v5_5 = some r → va_P D vwCl (wX cy ad aw ac σ) H → va_D A (wX cy ad aw ac σ) → va_S A s.heap H locs → lv_has ls 6 [(0, .ref (ad 4)), (1, .long v1), (3, .long v3_5), (5, .int v5_5)] → W p l e (Rm 0 0 0 0) s m [.ref (ad 4), .long v1].toArray below meth c H locs 0 0 (Zl D (wX cy ad) A r σ aw ac below [.ref (ad 4), .long v1].toArray s 0 0) (F0 m 5 ls []) := by
    intro n5
    induction n5 with
    | zero =>
      intro v3_5 v5_5 H locs ls hf
      cases hf
    | succ n5 ih5 =>
      intro v3_5 v5_5 H locs ls hf hP hD hS hl
      rw [fX6_mixInto_5] at hf
      refine lv_iload hx hb dX6_mixInto_5 (lv_at hl 3 rfl) ?_
      refine lv_aload_n hx hb dX6_mixInto_7 rfl (lv_at hl 0 rfl) ?_
      refine gX_row_size S hK hP q106 dX6_mixInto_8 ?_
      refine lv_icmp_ge (tgt := 35) hx hb dX6_mixInto_11 (by decide) (fun c11 => ?_) (fun c11 => ?_)
      · have hf := ifp c11 hf
        have hl := lv_sub (l' := [(0, .ref (ad 4)), (1, .long v1), (3, .long v3_5), (5, .int v5_5)]) hl [0, 1, 2, 3] rfl
        unfold fX6_mixInto_5_k at hf
        refine lv_lload_n hx hb dX6_mixInto_35 rfl (lv_at hl 2 rfl) ?_
        exact u_lretr hx hb hr hlocks hP hD hS dX6_mixInto_36 hf (fun _ => rfl)
      · have hf := ifn c11 hf
        refine lv_ldc2 hx hb S.2.2.2.1 (S.2.2.2.2 _ (List.mem_cons_of_mem _ q917)) dX6_mixInto_14 ?_
        refine lv_lload_n hx hb dX6_mixInto_17 rfl (lv_at hl 2 rfl) ?_
        refine lv_lmul hx hb dX6_mixInto_18 ?_
        refine lv_aload_n hx hb dX6_mixInto_19 rfl (lv_at hl 0 rfl) ?_
        refine gX_row_loads S hK hP q105 dX6_mixInto_20 ?_
        refine lv_iload hx hb dX6_mixInto_23 (lv_at hl 3 rfl) ?_
        obtain ⟨h25, hf⟩ := if_in hf
        refine lX_16 S hK hP h25 dX6_mixInto_25 ?_
        refine lv_i2l (v := ((ga σ 16 v5_5.toNatClampNeg)).toInt64) hx hb dX6_mixInto_26 rfl ?_
        refine lv_ladd hx hb dX6_mixInto_27 ?_
        refine lv_lstore_n (lv' := [(3, .long (((31 : Int64) * v3_5) + (((ga σ 16 v5_5.toNatClampNeg)).toInt64))), (0, .ref (ad 4)), (1, .long v1), (5, .int v5_5)]) hx hb dX6_mixInto_28 rfl hl (by decide) rfl (fun ls hl => ?_)
        refine lv_iinc (v := (v5_5 + (1 : Int32))) (lv' := [(5, .int (v5_5 + (1 : Int32))), (3, .long (((31 : Int64) * v3_5) + (((ga σ 16 v5_5.toNatClampNeg)).toInt64))), (0, .ref (ad 4)), (1, .long v1)]) hx hb dX6_mixInto_29 hl (k := 3) rfl rfl (by decide) rfl (fun ls hl => ?_)
        refine lv_goto (tgt := 5) hx hb dX6_mixInto_32 (by decide) ?_
        exact ih5 (((31 : Int64) * v3_5) + (((ga σ 16 v5_5.toNatClampNeg)).toInt64)) (v5_5 + (1 : Int32)) H locs ls hf hP hD hS (lv_sub hl [2, 3, 1, 0] rfl)
  exact L5 KF v1 (0 : Int32) H locs ls hf hP hD hS (lv_sub hl [2, 3, 1, 0] rfl)
theorem iX7_build : YI yX7_build cX7_build 4 (some .int) 3 := ⟨q583, q7, by decide, by decide, by decide +kernel⟩
theorem vX7_build : YV yX7_build := ⟨q581, q582⟩
set_option maxRecDepth 100000 in
set_option maxHeartbeats 4000000 in
theorem c_X7_build (l : Launch) (D : va_G) (cy : Nat → ClassId) (ad : Nat → Nat) (σ : St) (v1 : Int32) (v2 : Int32) (v3 : Int32) (q : Int32 × St) (hf : fX7_build σ v1 v2 v3 = some q) : Ci l D cy (wX cy ad) yX7_build cX7_build 4 .int 0 0 [.ref (ad 6), .int v1, .int v2, .int v3] σ q.1 q.2 0 0 := by
  refine Ci.enter (by decide) (Nat.le_of_ble_eq_true rfl) ?_
  intro aw ac p e s m below meth c A H locs S hr hlocks hA hK hP hD hS ls hl
  have hx := S.1
  have hb := S.2.1
  have hl : lv_has ls 4 [(0, .ref (ad 6)), (1, .int v1), (2, .int v2), (3, .int v3)] := hl
  unfold fX7_build at hf
  refine lv_aload_n hx hb dX7_build_0 rfl (lv_at hl 0 rfl) ?_
  refine gX_stands_size S hK hP q171 dX7_build_1 ?_
  refine lv_iconst (v := (5 : Int32)) hx hb dX7_build_4 (by decide) ?_
  refine lv_icmp_lt (tgt := 11) hx hb dX7_build_5 (by decide) (fun c5 => ?_) (fun c5 => ?_)
  · have hf := ifp c5 hf
    refine lv_aload_n hx hb dX7_build_11 rfl (lv_at hl 0 rfl) ?_
    refine gX_stands_xs S hK hP q166 dX7_build_12 ?_
    refine lv_aload_n hx hb dX7_build_15 rfl (lv_at hl 0 rfl) ?_
    refine gX_stands_size S hK hP q171 dX7_build_16 ?_
    refine lv_iload_n hx hb dX7_build_19 rfl (lv_at hl 1 rfl) ?_
    obtain ⟨h20, hf⟩ := if_in hf
    refine tX_23 S hK hP hD hS h20 dX7_build_20 (fun H locs hP hD hS => ?_)
    refine lv_aload_n hx hb dX7_build_21 rfl (lv_at hl 0 rfl) ?_
    refine gX_stands_courses S hK hP q167 dX7_build_22 ?_
    refine lv_aload_n hx hb dX7_build_25 rfl (lv_at hl 0 rfl) ?_
    refine gX_stands_size S hK hP q171 dX7_build_26 ?_
    refine lv_iload_n hx hb dX7_build_29 rfl (lv_at hl 2 rfl) ?_
    obtain ⟨h30, hf⟩ := if_in hf
    refine tX_24 S hK hP hD hS h30 dX7_build_30 (fun H locs hP hD hS => ?_)
    refine lv_aload_n hx hb dX7_build_31 rfl (lv_at hl 0 rfl) ?_
    refine gX_stands_needs S hK hP q168 dX7_build_32 ?_
    refine lv_aload_n hx hb dX7_build_35 rfl (lv_at hl 0 rfl) ?_
    refine gX_stands_size S hK hP q171 dX7_build_36 ?_
    refine lv_iload_n hx hb dX7_build_39 rfl (lv_at hl 3 rfl) ?_
    obtain ⟨h40, hf⟩ := if_in hf
    refine tX_25 S hK hP hD hS h40 dX7_build_40 (fun H locs hP hD hS => ?_)
    refine lv_aload_n hx hb dX7_build_41 rfl (lv_at hl 0 rfl) ?_
    refine lv_dup hx hb dX7_build_42 rfl ?_
    refine gX_stands_size S hK hP q171 dX7_build_43 ?_
    refine lv_iconst (v := (1 : Int32)) hx hb dX7_build_46 (by decide) ?_
    refine lv_iadd hx hb dX7_build_47 ?_
    refine pX_stands_size S hK hP hD hS q171 dX7_build_48 (fun H locs hP hD hS => ?_)
    refine lv_aload_n hx hb dX7_build_51 rfl (lv_at hl 0 rfl) ?_
    refine gX_stands_size S hK hP q171 dX7_build_52 ?_
    refine lv_iconst (v := (1 : Int32)) hx hb dX7_build_55 (by decide) ?_
    refine lv_isub hx hb dX7_build_56 ?_
    exact u_iretw hx hb hr hlocks rfl hP hD hS dX7_build_57 hf (fun _ => rfl)
  · have hf := ifn c5 hf
    refine lv_bipush (v := (-4 : Int32)) hx hb dX7_build_8 (by decide) ?_
    exact u_iretw hx hb hr hlocks rfl hP hD hS dX7_build_10 hf (fun _ => rfl)
theorem iX7_setPrice : YI yX7_setPrice cX7_setPrice 5 (some .int) 3 := ⟨q595, q7, by decide, by decide, by decide +kernel⟩
theorem vX7_setPrice : YV yX7_setPrice := ⟨q593, q594⟩
set_option maxRecDepth 100000 in
set_option maxHeartbeats 4000000 in
theorem c_X7_setPrice (l : Launch) (D : va_G) (cy : Nat → ClassId) (ad : Nat → Nat) (σ : St) (v1 : Int32) (v2 : Int32) (v3 : Int32) (q : Int32 × St) (hf : fX7_setPrice σ v1 v2 v3 = some q) : Ci l D cy (wX cy ad) yX7_setPrice cX7_setPrice 5 .int 0 0 [.ref (ad 6), .int v1, .int v2, .int v3] σ q.1 q.2 0 0 := by
  refine Ci.enter (by decide) (Nat.le_of_ble_eq_true rfl) ?_
  intro aw ac p e s m below meth c A H locs S hr hlocks hA hK hP hD hS ls hl
  have hx := S.1
  have hb := S.2.1
  have hl : lv_has ls 5 [(0, .ref (ad 6)), (1, .int v1), (2, .int v2), (3, .int v3)] := hl
  unfold fX7_setPrice at hf
  refine lv_aload_n hx hb dX7_setPrice_0 rfl (lv_at hl 0 rfl) ?_
  refine gX_stands_prices S hK hP q169 dX7_setPrice_1 ?_
  refine lv_iload_n hx hb dX7_setPrice_4 rfl (lv_at hl 1 rfl) ?_
  obtain ⟨h5, hf⟩ := if_in hf
  refine lX_prices S hK hP h5 dX7_setPrice_5 ?_
  refine lv_iload_n hx hb dX7_setPrice_6 rfl (lv_at hl 2 rfl) ?_
  obtain ⟨h7, hf⟩ := if_in hf
  refine lX_row S hK hP h5 h7 dX7_setPrice_7 ?_
  refine lv_istore (lv' := [(4, .int (ga σ (27 + v1.toNatClampNeg) v2.toNatClampNeg)), (0, .ref (ad 6)), (1, .int v1), (2, .int v2), (3, .int v3)]) hx hb dX7_setPrice_8 hl (by decide) rfl (fun ls hl => ?_)
  refine lv_aload_n hx hb dX7_setPrice_10 rfl (lv_at hl 1 rfl) ?_
  refine gX_stands_prices S hK hP q169 dX7_setPrice_11 ?_
  refine lv_iload_n hx hb dX7_setPrice_14 rfl (lv_at hl 2 rfl) ?_
  obtain ⟨h15, hf⟩ := if_in hf
  refine lX_prices S hK hP h15 dX7_setPrice_15 ?_
  refine lv_iload_n hx hb dX7_setPrice_16 rfl (lv_at hl 3 rfl) ?_
  refine lv_iload_n hx hb dX7_setPrice_17 rfl (lv_at hl 4 rfl) ?_
  obtain ⟨h18, hf⟩ := if_in hf
  refine tX_row S hK hP hD hS h15 h18 dX7_setPrice_18 (fun H locs hP hD hS => ?_)
  refine lv_aload_n hx hb dX7_setPrice_19 rfl (lv_at hl 1 rfl) ?_
  refine gX_stands_prices S hK hP q169 dX7_setPrice_20 ?_
  refine lv_iload_n hx hb dX7_setPrice_23 rfl (lv_at hl 3 rfl) ?_
  obtain ⟨h24, hf⟩ := if_in hf
  refine lX_prices S hK hP h24 dX7_setPrice_24 ?_
  refine lv_iload_n hx hb dX7_setPrice_25 rfl (lv_at hl 2 rfl) ?_
  refine lv_iload_n hx hb dX7_setPrice_26 rfl (lv_at hl 4 rfl) ?_
  obtain ⟨h27, hf⟩ := if_in hf
  refine tX_row S hK hP hD hS h24 h27 dX7_setPrice_27 (fun H locs hP hD hS => ?_)
  refine lv_iload hx hb dX7_setPrice_28 (lv_at hl 0 rfl) ?_
  exact u_iretw hx hb hr hlocks rfl hP hD hS dX7_setPrice_30 hf (fun _ => rfl)
theorem iX7_mixInto : YI yX7_mixInto cX7_mixInto 7 (some .long) 1 := ⟨q926, q7, by decide, by decide, by decide +kernel⟩
theorem vX7_mixInto : YV yX7_mixInto := ⟨q924, q925⟩
set_option maxRecDepth 100000 in
set_option maxHeartbeats 4000000 in
theorem c_X7_mixInto (l : Launch) (D : va_G) (cy : Nat → ClassId) (ad : Nat → Nat) (σ : St) (v1 : Int64) (r : Int64) (hf : fX7_mixInto σ v1 = some r) : Cl l D cy (wX cy ad) yX7_mixInto cX7_mixInto 7 0 0 [.ref (ad 6), .long v1] σ r σ 0 0 := by
  refine Cl.enter (by decide) (Nat.le_of_ble_eq_true rfl) ?_
  intro aw ac p e s m below meth c A H locs S hr hlocks hA hK hP hD hS ls hl
  have hx := S.1
  have hb := S.2.1
  have hl : lv_has ls 7 [(0, .ref (ad 6)), (1, .long v1)] := hl
  unfold fX7_mixInto at hf
  refine lv_lload_n hx hb dX7_mixInto_0 rfl (lv_at hl 1 rfl) ?_
  refine lv_lstore_n (lv' := [(3, .long v1), (0, .ref (ad 6)), (1, .long v1)]) hx hb dX7_mixInto_1 rfl hl (by decide) rfl (fun ls hl => ?_)
  refine lv_iconst (v := (0 : Int32)) hx hb dX7_mixInto_2 (by decide) ?_
  refine lv_istore (lv' := [(5, .int (0 : Int32)), (3, .long v1), (0, .ref (ad 6)), (1, .long v1)]) hx hb dX7_mixInto_3 hl (by decide) rfl (fun ls hl => ?_)
  have L5 : ∀ (n5 : Nat) (v3_5 : Int64) (v5_5 : Int32) (H : Heap) (locs : List Loc) (ls : Array Slot), fX7_mixInto_5 (fX7_mixInto_5_k σ v1) σ v1 n5 v3_5 v5_5 = some r → va_P D vwCl (wX cy ad aw ac σ) H → va_D A (wX cy ad aw ac σ) → va_S A s.heap H locs → lv_has ls 7 [(0, .ref (ad 6)), (1, .long v1), (3, .long v3_5), (5, .int v5_5)] → W p l e (Rm 0 0 0 0) s m [.ref (ad 6), .long v1].toArray below meth c H locs 0 0 (Zl D (wX cy ad) A r σ aw ac below [.ref (ad 6), .long v1].toArray s 0 0) (F0 m 5 ls []) := by
    intro n5
    induction n5 with
    | zero =>
      intro v3_5 v5_5 H locs ls hf
      cases hf
    | succ n5 ih5 =>
      intro v3_5 v5_5 H locs ls hf hP hD hS hl
      rw [fX7_mixInto_5] at hf
      refine lv_iload hx hb dX7_mixInto_5 (lv_at hl 3 rfl) ?_
      refine lv_aload_n hx hb dX7_mixInto_7 rfl (lv_at hl 0 rfl) ?_
      refine gX_stands_size S hK hP q171 dX7_mixInto_8 ?_
      refine lv_icmp_ge (tgt := 65) hx hb dX7_mixInto_11 (by decide) (fun c11 => ?_) (fun c11 => ?_)
      · have hf := ifp c11 hf
        have hl := lv_sub (l' := [(0, .ref (ad 6)), (1, .long v1), (3, .long v3_5), (5, .int v5_5)]) hl [0, 1, 2, 3] rfl
        unfold fX7_mixInto_5_k at hf
        refine lv_iconst (v := (0 : Int32)) hx hb dX7_mixInto_65 (by decide) ?_
        refine lv_istore (lv' := [(5, .int (0 : Int32)), (0, .ref (ad 6)), (1, .long v1), (3, .long v3_5)]) hx hb dX7_mixInto_66 hl (by decide) rfl (fun ls hl => ?_)
        have L68 : ∀ (n68 : Nat) (v3_68 : Int64) (v5_68 : Int32) (H : Heap) (locs : List Loc) (ls : Array Slot), fX7_mixInto_68 (fX7_mixInto_68_k σ v1) σ v1 n68 v3_68 v5_68 = some r → va_P D vwCl (wX cy ad aw ac σ) H → va_D A (wX cy ad aw ac σ) → va_S A s.heap H locs → lv_has ls 7 [(0, .ref (ad 6)), (1, .long v1), (3, .long v3_68), (5, .int v5_68)] → W p l e (Rm 0 0 0 0) s m [.ref (ad 6), .long v1].toArray below meth c H locs 0 0 (Zl D (wX cy ad) A r σ aw ac below [.ref (ad 6), .long v1].toArray s 0 0) (F0 m 68 ls []) := by
          intro n68
          induction n68 with
          | zero =>
            intro v3_68 v5_68 H locs ls hf
            cases hf
          | succ n68 ih68 =>
            intro v3_68 v5_68 H locs ls hf hP hD hS hl
            rw [fX7_mixInto_68] at hf
            refine lv_iload hx hb dX7_mixInto_68 (lv_at hl 3 rfl) ?_
            refine lv_aload_n hx hb dX7_mixInto_70 rfl (lv_at hl 0 rfl) ?_
            refine gX_stands_size S hK hP q171 dX7_mixInto_71 ?_
            refine lv_icmp_ge (tgt := 122) hx hb dX7_mixInto_74 (by decide) (fun c74 => ?_) (fun c74 => ?_)
            · have hf := ifp c74 hf
              have hl := lv_sub (l' := [(0, .ref (ad 6)), (1, .long v1), (3, .long v3_68), (5, .int v5_68)]) hl [0, 1, 2, 3] rfl
              unfold fX7_mixInto_68_k at hf
              refine lv_lload_n hx hb dX7_mixInto_122 rfl (lv_at hl 2 rfl) ?_
              exact u_lretr hx hb hr hlocks hP hD hS dX7_mixInto_123 hf (fun _ => rfl)
            · have hf := ifn c74 hf
              refine lv_iload hx hb dX7_mixInto_77 (lv_at hl 3 rfl) ?_
              refine lv_iconst (v := (1 : Int32)) hx hb dX7_mixInto_79 (by decide) ?_
              refine lv_iadd hx hb dX7_mixInto_80 ?_
              refine lv_istore (lv' := [(6, .int (v5_68 + (1 : Int32))), (0, .ref (ad 6)), (1, .long v1), (3, .long v3_68), (5, .int v5_68)]) hx hb dX7_mixInto_81 hl (by decide) rfl (fun ls hl => ?_)
              have L83 : ∀ (n83 : Nat) (v3_83 : Int64) (v6_83 : Int32) (H : Heap) (locs : List Loc) (ls : Array Slot), fX7_mixInto_83 (fun v3_68' v5_68' => fX7_mixInto_68 (fX7_mixInto_68_k σ v1) σ v1 n68 v3_68' v5_68') (fX7_mixInto_83_k (fun v3_68' v5_68' => fX7_mixInto_68 (fX7_mixInto_68_k σ v1) σ v1 n68 v3_68' v5_68') σ v1 v5_68) σ v1 v5_68 n83 v3_83 v6_83 = some r → va_P D vwCl (wX cy ad aw ac σ) H → va_D A (wX cy ad aw ac σ) → va_S A s.heap H locs → lv_has ls 7 [(0, .ref (ad 6)), (1, .long v1), (3, .long v3_83), (5, .int v5_68), (6, .int v6_83)] → W p l e (Rm 0 0 0 0) s m [.ref (ad 6), .long v1].toArray below meth c H locs 0 0 (Zl D (wX cy ad) A r σ aw ac below [.ref (ad 6), .long v1].toArray s 0 0) (F0 m 83 ls []) := by
                intro n83
                induction n83 with
                | zero =>
                  intro v3_83 v6_83 H locs ls hf
                  cases hf
                | succ n83 ih83 =>
                  intro v3_83 v6_83 H locs ls hf hP hD hS hl
                  rw [fX7_mixInto_83] at hf
                  refine lv_iload hx hb dX7_mixInto_83 (lv_at hl 4 rfl) ?_
                  refine lv_aload_n hx hb dX7_mixInto_85 rfl (lv_at hl 0 rfl) ?_
                  refine gX_stands_size S hK hP q171 dX7_mixInto_86 ?_
                  refine lv_icmp_ge (tgt := 116) hx hb dX7_mixInto_89 (by decide) (fun c89 => ?_) (fun c89 => ?_)
                  · have hf := ifp c89 hf
                    have hl := lv_sub (l' := [(0, .ref (ad 6)), (1, .long v1), (3, .long v3_83), (5, .int v5_68), (6, .int v6_83)]) hl [0, 1, 2, 3, 4] rfl
                    unfold fX7_mixInto_83_k at hf
                    refine lv_iinc (v := (v5_68 + (1 : Int32))) (lv' := [(5, .int (v5_68 + (1 : Int32))), (0, .ref (ad 6)), (1, .long v1), (3, .long v3_83), (6, .int v6_83)]) hx hb dX7_mixInto_116 hl (k := 3) rfl rfl (by decide) rfl (fun ls hl => ?_)
                    refine lv_goto (tgt := 68) hx hb dX7_mixInto_119 (by decide) ?_
                    exact ih68 v3_83 (v5_68 + (1 : Int32)) H locs ls hf hP hD hS (lv_sub hl [1, 2, 3, 0] rfl)
                  · have hf := ifn c89 hf
                    refine lv_ldc2 hx hb S.2.2.2.1 (S.2.2.2.2 _ (List.mem_cons_of_mem _ q927)) dX7_mixInto_92 ?_
                    refine lv_lload_n hx hb dX7_mixInto_95 rfl (lv_at hl 2 rfl) ?_
                    refine lv_lmul hx hb dX7_mixInto_96 ?_
                    refine lv_aload_n hx hb dX7_mixInto_97 rfl (lv_at hl 0 rfl) ?_
                    refine gX_stands_prices S hK hP q169 dX7_mixInto_98 ?_
                    refine lv_iload hx hb dX7_mixInto_101 (lv_at hl 3 rfl) ?_
                    obtain ⟨h103, hf⟩ := if_in hf
                    refine lX_prices S hK hP h103 dX7_mixInto_103 ?_
                    refine lv_iload hx hb dX7_mixInto_104 (lv_at hl 4 rfl) ?_
                    obtain ⟨h106, hf⟩ := if_in hf
                    refine lX_row S hK hP h103 h106 dX7_mixInto_106 ?_
                    refine lv_i2l (v := ((ga σ (27 + v5_68.toNatClampNeg) v6_83.toNatClampNeg)).toInt64) hx hb dX7_mixInto_107 rfl ?_
                    refine lv_ladd hx hb dX7_mixInto_108 ?_
                    refine lv_lstore_n (lv' := [(3, .long (((31 : Int64) * v3_83) + (((ga σ (27 + v5_68.toNatClampNeg) v6_83.toNatClampNeg)).toInt64))), (0, .ref (ad 6)), (1, .long v1), (5, .int v5_68), (6, .int v6_83)]) hx hb dX7_mixInto_109 rfl hl (by decide) rfl (fun ls hl => ?_)
                    refine lv_iinc (v := (v6_83 + (1 : Int32))) (lv' := [(6, .int (v6_83 + (1 : Int32))), (3, .long (((31 : Int64) * v3_83) + (((ga σ (27 + v5_68.toNatClampNeg) v6_83.toNatClampNeg)).toInt64))), (0, .ref (ad 6)), (1, .long v1), (5, .int v5_68)]) hx hb dX7_mixInto_110 hl (k := 4) rfl rfl (by decide) rfl (fun ls hl => ?_)
                    refine lv_goto (tgt := 83) hx hb dX7_mixInto_113 (by decide) ?_
                    exact ih83 (((31 : Int64) * v3_83) + (((ga σ (27 + v5_68.toNatClampNeg) v6_83.toNatClampNeg)).toInt64)) (v6_83 + (1 : Int32)) H locs ls hf hP hD hS (lv_sub hl [2, 3, 1, 4, 0] rfl)
              exact L83 KF v3_68 (v5_68 + (1 : Int32)) H locs ls hf hP hD hS (lv_sub hl [1, 2, 3, 4, 0] rfl)
        exact L68 KF v3_5 (0 : Int32) H locs ls hf hP hD hS (lv_sub hl [1, 2, 3, 0] rfl)
      · have hf := ifn c11 hf
        refine lv_ldc2 hx hb S.2.2.2.1 (S.2.2.2.2 _ (List.mem_cons_of_mem _ q927)) dX7_mixInto_14 ?_
        refine lv_lload_n hx hb dX7_mixInto_17 rfl (lv_at hl 2 rfl) ?_
        refine lv_lmul hx hb dX7_mixInto_18 ?_
        refine lv_aload_n hx hb dX7_mixInto_19 rfl (lv_at hl 0 rfl) ?_
        refine gX_stands_xs S hK hP q166 dX7_mixInto_20 ?_
        refine lv_iload hx hb dX7_mixInto_23 (lv_at hl 3 rfl) ?_
        obtain ⟨h25, hf⟩ := if_in hf
        refine lX_23 S hK hP h25 dX7_mixInto_25 ?_
        refine lv_i2l (v := ((ga σ 23 v5_5.toNatClampNeg)).toInt64) hx hb dX7_mixInto_26 rfl ?_
        refine lv_ladd hx hb dX7_mixInto_27 ?_
        refine lv_lstore_n (lv' := [(3, .long (((31 : Int64) * v3_5) + (((ga σ 23 v5_5.toNatClampNeg)).toInt64))), (0, .ref (ad 6)), (1, .long v1), (5, .int v5_5)]) hx hb dX7_mixInto_28 rfl hl (by decide) rfl (fun ls hl => ?_)
        refine lv_ldc2 hx hb S.2.2.2.1 (S.2.2.2.2 _ (List.mem_cons_of_mem _ q927)) dX7_mixInto_29 ?_
        refine lv_lload_n hx hb dX7_mixInto_32 rfl (lv_at hl 0 rfl) ?_
        refine lv_lmul hx hb dX7_mixInto_33 ?_
        refine lv_aload_n hx hb dX7_mixInto_34 rfl (lv_at hl 1 rfl) ?_
        refine gX_stands_courses S hK hP q167 dX7_mixInto_35 ?_
        refine lv_iload hx hb dX7_mixInto_38 (lv_at hl 3 rfl) ?_
        obtain ⟨h40, hf⟩ := if_in hf
        refine lX_24 S hK hP h40 dX7_mixInto_40 ?_
        refine lv_i2l (v := ((ga σ 24 v5_5.toNatClampNeg)).toInt64) hx hb dX7_mixInto_41 rfl ?_
        refine lv_ladd hx hb dX7_mixInto_42 ?_
        refine lv_lstore_n (lv' := [(3, .long (((31 : Int64) * (((31 : Int64) * v3_5) + (((ga σ 23 v5_5.toNatClampNeg)).toInt64))) + (((ga σ 24 v5_5.toNatClampNeg)).toInt64))), (0, .ref (ad 6)), (1, .long v1), (5, .int v5_5)]) hx hb dX7_mixInto_43 rfl hl (by decide) rfl (fun ls hl => ?_)
        refine lv_ldc2 hx hb S.2.2.2.1 (S.2.2.2.2 _ (List.mem_cons_of_mem _ q927)) dX7_mixInto_44 ?_
        refine lv_lload_n hx hb dX7_mixInto_47 rfl (lv_at hl 0 rfl) ?_
        refine lv_lmul hx hb dX7_mixInto_48 ?_
        refine lv_aload_n hx hb dX7_mixInto_49 rfl (lv_at hl 1 rfl) ?_
        refine gX_stands_needs S hK hP q168 dX7_mixInto_50 ?_
        refine lv_iload hx hb dX7_mixInto_53 (lv_at hl 3 rfl) ?_
        obtain ⟨h55, hf⟩ := if_in hf
        refine lX_25 S hK hP h55 dX7_mixInto_55 ?_
        refine lv_i2l (v := ((ga σ 25 v5_5.toNatClampNeg)).toInt64) hx hb dX7_mixInto_56 rfl ?_
        refine lv_ladd hx hb dX7_mixInto_57 ?_
        refine lv_lstore_n (lv' := [(3, .long (((31 : Int64) * (((31 : Int64) * (((31 : Int64) * v3_5) + (((ga σ 23 v5_5.toNatClampNeg)).toInt64))) + (((ga σ 24 v5_5.toNatClampNeg)).toInt64))) + (((ga σ 25 v5_5.toNatClampNeg)).toInt64))), (0, .ref (ad 6)), (1, .long v1), (5, .int v5_5)]) hx hb dX7_mixInto_58 rfl hl (by decide) rfl (fun ls hl => ?_)
        refine lv_iinc (v := (v5_5 + (1 : Int32))) (lv' := [(5, .int (v5_5 + (1 : Int32))), (3, .long (((31 : Int64) * (((31 : Int64) * (((31 : Int64) * v3_5) + (((ga σ 23 v5_5.toNatClampNeg)).toInt64))) + (((ga σ 24 v5_5.toNatClampNeg)).toInt64))) + (((ga σ 25 v5_5.toNatClampNeg)).toInt64))), (0, .ref (ad 6)), (1, .long v1)]) hx hb dX7_mixInto_59 hl (k := 3) rfl rfl (by decide) rfl (fun ls hl => ?_)
        refine lv_goto (tgt := 5) hx hb dX7_mixInto_62 (by decide) ?_
        exact ih5 (((31 : Int64) * (((31 : Int64) * (((31 : Int64) * v3_5) + (((ga σ 23 v5_5.toNatClampNeg)).toInt64))) + (((ga σ 24 v5_5.toNatClampNeg)).toInt64))) + (((ga σ 25 v5_5.toNatClampNeg)).toInt64)) (v5_5 + (1 : Int32)) H locs ls hf hP hD hS (lv_sub hl [2, 3, 1, 0] rfl)
  exact L5 KF v1 (0 : Int32) H locs ls hf hP hD hS (lv_sub hl [2, 3, 1, 0] rfl)
theorem iX8_bring : YI yX8_bring cX8_bring 5 (some .int) 4 := ⟨q559, q6, by decide, by decide, by decide +kernel⟩
theorem vX8_bring : YV yX8_bring := ⟨q557, q558⟩
set_option maxRecDepth 100000 in
set_option maxHeartbeats 4000000 in
theorem c_X8_bring (l : Launch) (D : va_G) (cy : Nat → ClassId) (ad : Nat → Nat) (σ : St) (v1 : Int32) (v2 : Int32) (v3 : Int32) (v4 : Int32) (q : Int32 × St) (hf : fX8_bring σ v1 v2 v3 v4 = some q) : Ci l D cy (wX cy ad) yX8_bring cX8_bring 5 .int 0 0 [.ref (ad 5), .int v1, .int v2, .int v3, .int v4] σ q.1 q.2 0 0 := by
  refine Ci.enter (by decide) (Nat.le_of_ble_eq_true rfl) ?_
  intro aw ac p e s m below meth c A H locs S hr hlocks hA hK hP hD hS ls hl
  have hx := S.1
  have hb := S.2.1
  have hl : lv_has ls 5 [(0, .ref (ad 5)), (1, .int v1), (2, .int v2), (3, .int v3), (4, .int v4)] := hl
  unfold fX8_bring at hf
  refine lv_aload_n hx hb dX8_bring_0 rfl (lv_at hl 0 rfl) ?_
  refine gX_stones_size S hK hP q133 dX8_bring_1 ?_
  refine lv_bipush (v := (14 : Int32)) hx hb dX8_bring_4 (by decide) ?_
  refine lv_icmp_lt (tgt := 12) hx hb dX8_bring_6 (by decide) (fun c6 => ?_) (fun c6 => ?_)
  · have hf := ifp c6 hf
    refine lv_aload_n hx hb dX8_bring_12 rfl (lv_at hl 0 rfl) ?_
    refine gX_stones_xs S hK hP q119 dX8_bring_13 ?_
    refine lv_aload_n hx hb dX8_bring_16 rfl (lv_at hl 0 rfl) ?_
    refine gX_stones_size S hK hP q133 dX8_bring_17 ?_
    refine lv_iload_n hx hb dX8_bring_20 rfl (lv_at hl 1 rfl) ?_
    obtain ⟨h21, hf⟩ := if_in hf
    refine tX_17 S hK hP hD hS h21 dX8_bring_21 (fun H locs hP hD hS => ?_)
    refine lv_aload_n hx hb dX8_bring_22 rfl (lv_at hl 0 rfl) ?_
    refine gX_stones_courses S hK hP q122 dX8_bring_23 ?_
    refine lv_aload_n hx hb dX8_bring_26 rfl (lv_at hl 0 rfl) ?_
    refine gX_stones_size S hK hP q133 dX8_bring_27 ?_
    refine lv_iload_n hx hb dX8_bring_30 rfl (lv_at hl 2 rfl) ?_
    obtain ⟨h31, hf⟩ := if_in hf
    refine tX_18 S hK hP hD hS h31 dX8_bring_31 (fun H locs hP hD hS => ?_)
    refine lv_aload_n hx hb dX8_bring_32 rfl (lv_at hl 0 rfl) ?_
    refine gX_stones_hours S hK hP q125 dX8_bring_33 ?_
    refine lv_aload_n hx hb dX8_bring_36 rfl (lv_at hl 0 rfl) ?_
    refine gX_stones_size S hK hP q133 dX8_bring_37 ?_
    refine lv_iload_n hx hb dX8_bring_40 rfl (lv_at hl 3 rfl) ?_
    obtain ⟨h41, hf⟩ := if_in hf
    refine tX_19 S hK hP hD hS h41 dX8_bring_41 (fun H locs hP hD hS => ?_)
    refine lv_aload_n hx hb dX8_bring_42 rfl (lv_at hl 0 rfl) ?_
    refine gX_stones_rests S hK hP q127 dX8_bring_43 ?_
    refine lv_aload_n hx hb dX8_bring_46 rfl (lv_at hl 0 rfl) ?_
    refine gX_stones_size S hK hP q133 dX8_bring_47 ?_
    refine lv_iload hx hb dX8_bring_50 (lv_at hl 4 rfl) ?_
    obtain ⟨h52, hf⟩ := if_in hf
    refine tX_20 S hK hP hD hS h52 dX8_bring_52 (fun H locs hP hD hS => ?_)
    refine lv_aload_n hx hb dX8_bring_53 rfl (lv_at hl 0 rfl) ?_
    refine gX_stones_keys S hK hP q129 dX8_bring_54 ?_
    refine lv_aload_n hx hb dX8_bring_57 rfl (lv_at hl 0 rfl) ?_
    refine gX_stones_size S hK hP q133 dX8_bring_58 ?_
    refine lv_iconst (v := (-1 : Int32)) hx hb dX8_bring_61 (by decide) ?_
    obtain ⟨h62, hf⟩ := if_in hf
    refine tX_21 S hK hP hD hS h62 dX8_bring_62 (fun H locs hP hD hS => ?_)
    refine lv_aload_n hx hb dX8_bring_63 rfl (lv_at hl 0 rfl) ?_
    refine lv_dup hx hb dX8_bring_64 rfl ?_
    refine gX_stones_size S hK hP q133 dX8_bring_65 ?_
    refine lv_iconst (v := (1 : Int32)) hx hb dX8_bring_68 (by decide) ?_
    refine lv_iadd hx hb dX8_bring_69 ?_
    refine pX_stones_size S hK hP hD hS q133 dX8_bring_70 (fun H locs hP hD hS => ?_)
    refine lv_aload_n hx hb dX8_bring_73 rfl (lv_at hl 0 rfl) ?_
    refine gX_stones_size S hK hP q133 dX8_bring_74 ?_
    refine lv_iconst (v := (1 : Int32)) hx hb dX8_bring_77 (by decide) ?_
    refine lv_isub hx hb dX8_bring_78 ?_
    exact u_iretw hx hb hr hlocks rfl hP hD hS dX8_bring_79 hf (fun _ => rfl)
  · have hf := ifn c6 hf
    refine lv_bipush (v := (-4 : Int32)) hx hb dX8_bring_9 (by decide) ?_
    exact u_iretw hx hb hr hlocks rfl hP hD hS dX8_bring_11 hf (fun _ => rfl)
theorem iX8_arch : YI yX8_arch cX8_arch 3 none 2 := ⟨q571, q6, by decide, by decide, by decide +kernel⟩
theorem vX8_arch : YV yX8_arch := ⟨q569, q570⟩
set_option maxRecDepth 100000 in
set_option maxHeartbeats 4000000 in
theorem c_X8_arch (l : Launch) (D : va_G) (cy : Nat → ClassId) (ad : Nat → Nat) (σ : St) (v1 : Int32) (v2 : Int32) (q : St) (hf : fX8_arch σ v1 v2 = some q) : Cv l D cy (wX cy ad) yX8_arch cX8_arch 3 0 0 [.ref (ad 5), .int v1, .int v2] σ q 0 0 := by
  refine Cv.enter (by decide) (Nat.le_of_ble_eq_true rfl) ?_
  intro aw ac p e s m below meth c A H locs S hr hlocks hA hK hP hD hS ls hl
  have hx := S.1
  have hb := S.2.1
  have hl : lv_has ls 3 [(0, .ref (ad 5)), (1, .int v1), (2, .int v2)] := hl
  unfold fX8_arch at hf
  refine lv_aload_n hx hb dX8_arch_0 rfl (lv_at hl 0 rfl) ?_
  refine gX_stones_keys S hK hP q129 dX8_arch_1 ?_
  refine lv_iload_n hx hb dX8_arch_4 rfl (lv_at hl 1 rfl) ?_
  refine lv_iload_n hx hb dX8_arch_5 rfl (lv_at hl 2 rfl) ?_
  obtain ⟨h6, hf⟩ := if_in hf
  refine tX_21 S hK hP hD hS h6 dX8_arch_6 (fun H locs hP hD hS => ?_)
  refine lv_aload_n hx hb dX8_arch_7 rfl (lv_at hl 0 rfl) ?_
  refine gX_stones_freed S hK hP q131 dX8_arch_8 ?_
  refine lv_iload_n hx hb dX8_arch_11 rfl (lv_at hl 2 rfl) ?_
  refine lv_dup2_11 hx hb dX8_arch_12 rfl rfl ?_
  obtain ⟨h13, hf⟩ := if_in hf
  refine lX_22 S hK hP h13 dX8_arch_13 ?_
  refine lv_iconst (v := (1 : Int32)) hx hb dX8_arch_14 (by decide) ?_
  refine lv_iload_n hx hb dX8_arch_15 rfl (lv_at hl 1 rfl) ?_
  refine lv_ishl hx hb dX8_arch_16 ?_
  refine lv_ior hx hb dX8_arch_17 ?_
  obtain ⟨h18, hf⟩ := if_in hf
  refine tX_22 S hK hP hD hS h18 dX8_arch_18 (fun H locs hP hD hS => ?_)
  refine lv_aload_n hx hb dX8_arch_19 rfl (lv_at hl 0 rfl) ?_
  refine lv_dup hx hb dX8_arch_20 rfl ?_
  refine gX_stones_everyKey S hK hP q132 dX8_arch_21 ?_
  refine lv_iconst (v := (1 : Int32)) hx hb dX8_arch_24 (by decide) ?_
  refine lv_iload_n hx hb dX8_arch_25 rfl (lv_at hl 2 rfl) ?_
  refine lv_ishl hx hb dX8_arch_26 ?_
  refine lv_ior hx hb dX8_arch_27 ?_
  refine pX_stones_everyKey S hK hP hD hS q132 dX8_arch_28 (fun H locs hP hD hS => ?_)
  exact u_vretw hx hb hr hlocks hP hD hS dX8_arch_31 hf (fun _ => rfl)
theorem iX8_mixInto : YI yX8_mixInto cX8_mixInto 6 (some .long) 1 := ⟨q921, q6, by decide, by decide, by decide +kernel⟩
theorem vX8_mixInto : YV yX8_mixInto := ⟨q919, q920⟩
set_option maxRecDepth 100000 in
set_option maxHeartbeats 4000000 in
theorem c_X8_mixInto (l : Launch) (D : va_G) (cy : Nat → ClassId) (ad : Nat → Nat) (σ : St) (v1 : Int64) (r : Int64) (hf : fX8_mixInto σ v1 = some r) : Cl l D cy (wX cy ad) yX8_mixInto cX8_mixInto 6 0 0 [.ref (ad 5), .long v1] σ r σ 0 0 := by
  refine Cl.enter (by decide) (Nat.le_of_ble_eq_true rfl) ?_
  intro aw ac p e s m below meth c A H locs S hr hlocks hA hK hP hD hS ls hl
  have hx := S.1
  have hb := S.2.1
  have hl : lv_has ls 6 [(0, .ref (ad 5)), (1, .long v1)] := hl
  unfold fX8_mixInto at hf
  refine lv_lload_n hx hb dX8_mixInto_0 rfl (lv_at hl 1 rfl) ?_
  refine lv_lstore_n (lv' := [(3, .long v1), (0, .ref (ad 5)), (1, .long v1)]) hx hb dX8_mixInto_1 rfl hl (by decide) rfl (fun ls hl => ?_)
  refine lv_iconst (v := (0 : Int32)) hx hb dX8_mixInto_2 (by decide) ?_
  refine lv_istore (lv' := [(5, .int (0 : Int32)), (3, .long v1), (0, .ref (ad 5)), (1, .long v1)]) hx hb dX8_mixInto_3 hl (by decide) rfl (fun ls hl => ?_)
  have L5 : ∀ (n5 : Nat) (v3_5 : Int64) (v5_5 : Int32) (H : Heap) (locs : List Loc) (ls : Array Slot), fX8_mixInto_5 (fX8_mixInto_5_k σ v1) σ v1 n5 v3_5 v5_5 = some r → va_P D vwCl (wX cy ad aw ac σ) H → va_D A (wX cy ad aw ac σ) → va_S A s.heap H locs → lv_has ls 6 [(0, .ref (ad 5)), (1, .long v1), (3, .long v3_5), (5, .int v5_5)] → W p l e (Rm 0 0 0 0) s m [.ref (ad 5), .long v1].toArray below meth c H locs 0 0 (Zl D (wX cy ad) A r σ aw ac below [.ref (ad 5), .long v1].toArray s 0 0) (F0 m 5 ls []) := by
    intro n5
    induction n5 with
    | zero =>
      intro v3_5 v5_5 H locs ls hf
      cases hf
    | succ n5 ih5 =>
      intro v3_5 v5_5 H locs ls hf hP hD hS hl
      rw [fX8_mixInto_5] at hf
      refine lv_iload hx hb dX8_mixInto_5 (lv_at hl 3 rfl) ?_
      refine lv_aload_n hx hb dX8_mixInto_7 rfl (lv_at hl 0 rfl) ?_
      refine gX_stones_size S hK hP q133 dX8_mixInto_8 ?_
      refine lv_icmp_ge (tgt := 95) hx hb dX8_mixInto_11 (by decide) (fun c11 => ?_) (fun c11 => ?_)
      · have hf := ifp c11 hf
        have hl := lv_sub (l' := [(0, .ref (ad 5)), (1, .long v1), (3, .long v3_5), (5, .int v5_5)]) hl [0, 1, 2, 3] rfl
        unfold fX8_mixInto_5_k at hf
        refine lv_lload_n hx hb dX8_mixInto_95 rfl (lv_at hl 2 rfl) ?_
        exact u_lretr hx hb hr hlocks hP hD hS dX8_mixInto_96 hf (fun _ => rfl)
      · have hf := ifn c11 hf
        refine lv_ldc2 hx hb S.2.2.2.1 (S.2.2.2.2 _ (List.mem_cons_of_mem _ q922)) dX8_mixInto_14 ?_
        refine lv_lload_n hx hb dX8_mixInto_17 rfl (lv_at hl 2 rfl) ?_
        refine lv_lmul hx hb dX8_mixInto_18 ?_
        refine lv_aload_n hx hb dX8_mixInto_19 rfl (lv_at hl 0 rfl) ?_
        refine gX_stones_xs S hK hP q119 dX8_mixInto_20 ?_
        refine lv_iload hx hb dX8_mixInto_23 (lv_at hl 3 rfl) ?_
        obtain ⟨h25, hf⟩ := if_in hf
        refine lX_17 S hK hP h25 dX8_mixInto_25 ?_
        refine lv_i2l (v := ((ga σ 17 v5_5.toNatClampNeg)).toInt64) hx hb dX8_mixInto_26 rfl ?_
        refine lv_ladd hx hb dX8_mixInto_27 ?_
        refine lv_lstore_n (lv' := [(3, .long (((31 : Int64) * v3_5) + (((ga σ 17 v5_5.toNatClampNeg)).toInt64))), (0, .ref (ad 5)), (1, .long v1), (5, .int v5_5)]) hx hb dX8_mixInto_28 rfl hl (by decide) rfl (fun ls hl => ?_)
        refine lv_ldc2 hx hb S.2.2.2.1 (S.2.2.2.2 _ (List.mem_cons_of_mem _ q922)) dX8_mixInto_29 ?_
        refine lv_lload_n hx hb dX8_mixInto_32 rfl (lv_at hl 0 rfl) ?_
        refine lv_lmul hx hb dX8_mixInto_33 ?_
        refine lv_aload_n hx hb dX8_mixInto_34 rfl (lv_at hl 1 rfl) ?_
        refine gX_stones_courses S hK hP q122 dX8_mixInto_35 ?_
        refine lv_iload hx hb dX8_mixInto_38 (lv_at hl 3 rfl) ?_
        obtain ⟨h40, hf⟩ := if_in hf
        refine lX_18 S hK hP h40 dX8_mixInto_40 ?_
        refine lv_i2l (v := ((ga σ 18 v5_5.toNatClampNeg)).toInt64) hx hb dX8_mixInto_41 rfl ?_
        refine lv_ladd hx hb dX8_mixInto_42 ?_
        refine lv_lstore_n (lv' := [(3, .long (((31 : Int64) * (((31 : Int64) * v3_5) + (((ga σ 17 v5_5.toNatClampNeg)).toInt64))) + (((ga σ 18 v5_5.toNatClampNeg)).toInt64))), (0, .ref (ad 5)), (1, .long v1), (5, .int v5_5)]) hx hb dX8_mixInto_43 rfl hl (by decide) rfl (fun ls hl => ?_)
        refine lv_ldc2 hx hb S.2.2.2.1 (S.2.2.2.2 _ (List.mem_cons_of_mem _ q922)) dX8_mixInto_44 ?_
        refine lv_lload_n hx hb dX8_mixInto_47 rfl (lv_at hl 0 rfl) ?_
        refine lv_lmul hx hb dX8_mixInto_48 ?_
        refine lv_aload_n hx hb dX8_mixInto_49 rfl (lv_at hl 1 rfl) ?_
        refine gX_stones_hours S hK hP q125 dX8_mixInto_50 ?_
        refine lv_iload hx hb dX8_mixInto_53 (lv_at hl 3 rfl) ?_
        obtain ⟨h55, hf⟩ := if_in hf
        refine lX_19 S hK hP h55 dX8_mixInto_55 ?_
        refine lv_i2l (v := ((ga σ 19 v5_5.toNatClampNeg)).toInt64) hx hb dX8_mixInto_56 rfl ?_
        refine lv_ladd hx hb dX8_mixInto_57 ?_
        refine lv_lstore_n (lv' := [(3, .long (((31 : Int64) * (((31 : Int64) * (((31 : Int64) * v3_5) + (((ga σ 17 v5_5.toNatClampNeg)).toInt64))) + (((ga σ 18 v5_5.toNatClampNeg)).toInt64))) + (((ga σ 19 v5_5.toNatClampNeg)).toInt64))), (0, .ref (ad 5)), (1, .long v1), (5, .int v5_5)]) hx hb dX8_mixInto_58 rfl hl (by decide) rfl (fun ls hl => ?_)
        refine lv_ldc2 hx hb S.2.2.2.1 (S.2.2.2.2 _ (List.mem_cons_of_mem _ q922)) dX8_mixInto_59 ?_
        refine lv_lload_n hx hb dX8_mixInto_62 rfl (lv_at hl 0 rfl) ?_
        refine lv_lmul hx hb dX8_mixInto_63 ?_
        refine lv_aload_n hx hb dX8_mixInto_64 rfl (lv_at hl 1 rfl) ?_
        refine gX_stones_rests S hK hP q127 dX8_mixInto_65 ?_
        refine lv_iload hx hb dX8_mixInto_68 (lv_at hl 3 rfl) ?_
        obtain ⟨h70, hf⟩ := if_in hf
        refine lX_20 S hK hP h70 dX8_mixInto_70 ?_
        refine lv_i2l (v := ((ga σ 20 v5_5.toNatClampNeg)).toInt64) hx hb dX8_mixInto_71 rfl ?_
        refine lv_ladd hx hb dX8_mixInto_72 ?_
        refine lv_lstore_n (lv' := [(3, .long (((31 : Int64) * (((31 : Int64) * (((31 : Int64) * (((31 : Int64) * v3_5) + (((ga σ 17 v5_5.toNatClampNeg)).toInt64))) + (((ga σ 18 v5_5.toNatClampNeg)).toInt64))) + (((ga σ 19 v5_5.toNatClampNeg)).toInt64))) + (((ga σ 20 v5_5.toNatClampNeg)).toInt64))), (0, .ref (ad 5)), (1, .long v1), (5, .int v5_5)]) hx hb dX8_mixInto_73 rfl hl (by decide) rfl (fun ls hl => ?_)
        refine lv_ldc2 hx hb S.2.2.2.1 (S.2.2.2.2 _ (List.mem_cons_of_mem _ q922)) dX8_mixInto_74 ?_
        refine lv_lload_n hx hb dX8_mixInto_77 rfl (lv_at hl 0 rfl) ?_
        refine lv_lmul hx hb dX8_mixInto_78 ?_
        refine lv_aload_n hx hb dX8_mixInto_79 rfl (lv_at hl 1 rfl) ?_
        refine gX_stones_keys S hK hP q129 dX8_mixInto_80 ?_
        refine lv_iload hx hb dX8_mixInto_83 (lv_at hl 3 rfl) ?_
        obtain ⟨h85, hf⟩ := if_in hf
        refine lX_21 S hK hP h85 dX8_mixInto_85 ?_
        refine lv_i2l (v := ((ga σ 21 v5_5.toNatClampNeg)).toInt64) hx hb dX8_mixInto_86 rfl ?_
        refine lv_ladd hx hb dX8_mixInto_87 ?_
        refine lv_lstore_n (lv' := [(3, .long (((31 : Int64) * (((31 : Int64) * (((31 : Int64) * (((31 : Int64) * (((31 : Int64) * v3_5) + (((ga σ 17 v5_5.toNatClampNeg)).toInt64))) + (((ga σ 18 v5_5.toNatClampNeg)).toInt64))) + (((ga σ 19 v5_5.toNatClampNeg)).toInt64))) + (((ga σ 20 v5_5.toNatClampNeg)).toInt64))) + (((ga σ 21 v5_5.toNatClampNeg)).toInt64))), (0, .ref (ad 5)), (1, .long v1), (5, .int v5_5)]) hx hb dX8_mixInto_88 rfl hl (by decide) rfl (fun ls hl => ?_)
        refine lv_iinc (v := (v5_5 + (1 : Int32))) (lv' := [(5, .int (v5_5 + (1 : Int32))), (3, .long (((31 : Int64) * (((31 : Int64) * (((31 : Int64) * (((31 : Int64) * (((31 : Int64) * v3_5) + (((ga σ 17 v5_5.toNatClampNeg)).toInt64))) + (((ga σ 18 v5_5.toNatClampNeg)).toInt64))) + (((ga σ 19 v5_5.toNatClampNeg)).toInt64))) + (((ga σ 20 v5_5.toNatClampNeg)).toInt64))) + (((ga σ 21 v5_5.toNatClampNeg)).toInt64))), (0, .ref (ad 5)), (1, .long v1)]) hx hb dX8_mixInto_89 hl (k := 3) rfl rfl (by decide) rfl (fun ls hl => ?_)
        refine lv_goto (tgt := 5) hx hb dX8_mixInto_92 (by decide) ?_
        exact ih5 (((31 : Int64) * (((31 : Int64) * (((31 : Int64) * (((31 : Int64) * (((31 : Int64) * v3_5) + (((ga σ 17 v5_5.toNatClampNeg)).toInt64))) + (((ga σ 18 v5_5.toNatClampNeg)).toInt64))) + (((ga σ 19 v5_5.toNatClampNeg)).toInt64))) + (((ga σ 20 v5_5.toNatClampNeg)).toInt64))) + (((ga σ 21 v5_5.toNatClampNeg)).toInt64)) (v5_5 + (1 : Int32)) H locs ls hf hP hD hS (lv_sub hl [2, 3, 1, 0] rfl)
  exact L5 KF v1 (0 : Int32) H locs ls hf hP hD hS (lv_sub hl [2, 3, 1, 0] rfl)
theorem iX9_within : YI yX9_within cX9_within 3 (some .boolean) 3 := ⟨q327, q1, by decide, by decide, by decide +kernel⟩
set_option maxRecDepth 100000 in
set_option maxHeartbeats 4000000 in
theorem c_X9_within (l : Launch) (D : va_G) (cy : Nat → ClassId) (σ : St) (v0 : Int32) (v1 : Int32) (v2 : Int32) (r : Int32) (hf : fX9_within v0 v1 v2 = some r) : Ci l D cy wN yX9_within cX9_within 3 .boolean 0 0 [.int v0, .int v1, .int v2] σ r σ 0 0 := by
  refine Ci.enter (by decide) (Nat.le_of_ble_eq_true rfl) ?_
  intro aw ac p e s m below meth c A H locs S hr hlocks hA hK hP hD hS ls hl
  have hx := S.1
  have hb := S.2.1
  have hl : lv_has ls 3 [(0, .int v0), (1, .int v1), (2, .int v2)] := hl
  unfold fX9_within at hf
  refine lv_iload_n hx hb dX9_within_0 rfl (lv_at hl 0 rfl) ?_
  refine lv_iload_n hx hb dX9_within_1 rfl (lv_at hl 1 rfl) ?_
  refine lv_icmp_lt (tgt := 14) hx hb dX9_within_2 (by decide) (fun c2 => ?_) (fun c2 => ?_)
  · have hf := ifp c2 hf
    refine lv_iconst (v := (0 : Int32)) hx hb dX9_within_14 (by decide) ?_
    exact u_iretr hx hb hr hlocks rfl hP hD hS dX9_within_15 hf (fun _ => rfl)
  · have hf := ifn c2 hf
    refine lv_iload_n hx hb dX9_within_5 rfl (lv_at hl 0 rfl) ?_
    refine lv_iload_n hx hb dX9_within_6 rfl (lv_at hl 2 rfl) ?_
    refine lv_icmp_gt (tgt := 14) hx hb dX9_within_7 (by decide) (fun c7 => ?_) (fun c7 => ?_)
    · have hf := ifp c7 hf
      refine lv_iconst (v := (0 : Int32)) hx hb dX9_within_14 (by decide) ?_
      exact u_iretr hx hb hr hlocks rfl hP hD hS dX9_within_15 hf (fun _ => rfl)
    · have hf := ifn c7 hf
      refine lv_iconst (v := (1 : Int32)) hx hb dX9_within_10 (by decide) ?_
      refine lv_goto (tgt := 15) hx hb dX9_within_11 (by decide) ?_
      exact u_iretr hx hb hr hlocks rfl hP hD hS dX9_within_15 hf (fun _ => rfl)
theorem iX9_wheel : YI yX9_wheel cX9_wheel 6 (some .int) 4 := ⟨q324, q1, by decide, by decide, by decide +kernel⟩
theorem vX9_wheel : YV yX9_wheel := ⟨q322, q323⟩
set_option maxRecDepth 100000 in
set_option maxHeartbeats 4000000 in
theorem c_X9_wheel (l : Launch) (D : va_G) (cy : Nat → ClassId) (ad : Nat → Nat) (σ : St) (v1 : Int32) (v2 : Int32) (v3 : Int32) (v4 : Int32) (q : Int32 × St) (hf : fX9_wheel σ v1 v2 v3 v4 = some q) : Ci l D cy (wX cy ad) yX9_wheel cX9_wheel 6 .int 1 22 [.ref (ad 0), .int v1, .int v2, .int v3, .int v4] σ q.1 q.2 0 0 := by
  refine Ci.enter (by decide) (Nat.le_of_ble_eq_true rfl) ?_
  intro aw ac p e s m below meth c A H locs S hr hlocks hA hK hP hD hS ls hl
  have hx := S.1
  have hb := S.2.1
  have hl : lv_has ls 6 [(0, .ref (ad 0)), (1, .int v1), (2, .int v2), (3, .int v3), (4, .int v4)] := hl
  unfold fX9_wheel at hf
  refine lv_iload_n hx hb dX9_wheel_0 rfl (lv_at hl 1 rfl) ?_
  refine lv_bipush (v := (100 : Int32)) hx hb dX9_wheel_1 (by decide) ?_
  refine lv_sipush (v := (2000 : Int32)) hx hb dX9_wheel_3 (by decide) ?_
  obtain ⟨r6, h6, hf⟩ := ob_some hf
  refine p_calli0 (u_runS (rest := []) S (c_X9_within l D cy σ v1 (100 : Int32) (2000 : Int32) r6 h6 aw ac H.size) iX9_within q326 q325 ⟨Nat.le_of_ble_eq_true rfl, Nat.le_of_ble_eq_true rfl⟩ hK wN_P (wN_D (A := fun _ => True)) rfl hl.1 (Nat.le_of_ble_eq_true rfl) dX9_wheel_6 ⟨Nat.le_refl _, Nat.le_refl _⟩) hP hS hA (fun H locs hP hS => ?_)
  refine lv_if_eq (tgt := 50) hx hb dX9_wheel_9 (by decide) (fun c9 => ?_) (fun c9 => ?_)
  · have hf := ifp c9 hf
    refine lv_iconst (v := (0 : Int32)) hx hb dX9_wheel_50 (by decide) ?_
    refine lv_istore (lv' := [(5, .int (0 : Int32)), (0, .ref (ad 0)), (1, .int v1), (2, .int v2), (3, .int v3), (4, .int v4)]) hx hb dX9_wheel_51 hl (by decide) rfl (fun ls hl => ?_)
    refine lv_iload hx hb dX9_wheel_53 (lv_at hl 0 rfl) ?_
    refine lv_if_ne (tgt := 61) hx hb dX9_wheel_55 (by decide) (fun c_ => absurd c_ (by decide)) (fun _ => ?_)
    refine lv_bipush (v := (-2 : Int32)) hx hb dX9_wheel_58 (by decide) ?_
    exact u_iretw hx hb hr hlocks rfl hP hD hS dX9_wheel_60 hf (fun _ => rfl)
  · have hf := ifn c9 hf
    refine lv_iload_n hx hb dX9_wheel_12 rfl (lv_at hl 2 rfl) ?_
    refine lv_bipush (v := (10 : Int32)) hx hb dX9_wheel_13 (by decide) ?_
    refine lv_bipush (v := (60 : Int32)) hx hb dX9_wheel_15 (by decide) ?_
    obtain ⟨r17, h17, hf⟩ := ob_some hf
    refine p_calli0 (u_runS (rest := []) S (c_X9_within l D cy σ v2 (10 : Int32) (60 : Int32) r17 h17 aw ac H.size) iX9_within q326 q325 ⟨Nat.le_of_ble_eq_true rfl, Nat.le_of_ble_eq_true rfl⟩ hK wN_P (wN_D (A := fun _ => True)) rfl hl.1 (Nat.le_of_ble_eq_true rfl) dX9_wheel_17 ⟨Nat.le_refl _, Nat.le_refl _⟩) hP hS hA (fun H locs hP hS => ?_)
    refine lv_if_eq (tgt := 50) hx hb dX9_wheel_20 (by decide) (fun c20 => ?_) (fun c20 => ?_)
    · have hf := ifp c20 hf
      refine lv_iconst (v := (0 : Int32)) hx hb dX9_wheel_50 (by decide) ?_
      refine lv_istore (lv' := [(5, .int (0 : Int32)), (0, .ref (ad 0)), (1, .int v1), (2, .int v2), (3, .int v3), (4, .int v4)]) hx hb dX9_wheel_51 hl (by decide) rfl (fun ls hl => ?_)
      refine lv_iload hx hb dX9_wheel_53 (lv_at hl 0 rfl) ?_
      refine lv_if_ne (tgt := 61) hx hb dX9_wheel_55 (by decide) (fun c_ => absurd c_ (by decide)) (fun _ => ?_)
      refine lv_bipush (v := (-2 : Int32)) hx hb dX9_wheel_58 (by decide) ?_
      exact u_iretw hx hb hr hlocks rfl hP hD hS dX9_wheel_60 hf (fun _ => rfl)
    · have hf := ifn c20 hf
      refine lv_iload_n hx hb dX9_wheel_23 rfl (lv_at hl 3 rfl) ?_
      refine lv_bipush (v := (10 : Int32)) hx hb dX9_wheel_24 (by decide) ?_
      refine lv_sipush (v := (200 : Int32)) hx hb dX9_wheel_26 (by decide) ?_
      obtain ⟨r29, h29, hf⟩ := ob_some hf
      refine p_calli0 (u_runS (rest := []) S (c_X9_within l D cy σ v3 (10 : Int32) (200 : Int32) r29 h29 aw ac H.size) iX9_within q326 q325 ⟨Nat.le_of_ble_eq_true rfl, Nat.le_of_ble_eq_true rfl⟩ hK wN_P (wN_D (A := fun _ => True)) rfl hl.1 (Nat.le_of_ble_eq_true rfl) dX9_wheel_29 ⟨Nat.le_refl _, Nat.le_refl _⟩) hP hS hA (fun H locs hP hS => ?_)
      refine lv_if_eq (tgt := 50) hx hb dX9_wheel_32 (by decide) (fun c32 => ?_) (fun c32 => ?_)
      · have hf := ifp c32 hf
        refine lv_iconst (v := (0 : Int32)) hx hb dX9_wheel_50 (by decide) ?_
        refine lv_istore (lv' := [(5, .int (0 : Int32)), (0, .ref (ad 0)), (1, .int v1), (2, .int v2), (3, .int v3), (4, .int v4)]) hx hb dX9_wheel_51 hl (by decide) rfl (fun ls hl => ?_)
        refine lv_iload hx hb dX9_wheel_53 (lv_at hl 0 rfl) ?_
        refine lv_if_ne (tgt := 61) hx hb dX9_wheel_55 (by decide) (fun c_ => absurd c_ (by decide)) (fun _ => ?_)
        refine lv_bipush (v := (-2 : Int32)) hx hb dX9_wheel_58 (by decide) ?_
        exact u_iretw hx hb hr hlocks rfl hP hD hS dX9_wheel_60 hf (fun _ => rfl)
      · have hf := ifn c32 hf
        refine lv_iload hx hb dX9_wheel_35 (lv_at hl 4 rfl) ?_
        refine lv_iconst (v := (0 : Int32)) hx hb dX9_wheel_37 (by decide) ?_
        refine lv_bipush (v := (100 : Int32)) hx hb dX9_wheel_38 (by decide) ?_
        obtain ⟨r40, h40, hf⟩ := ob_some hf
        refine p_calli0 (u_runS (rest := []) S (c_X9_within l D cy σ v4 (0 : Int32) (100 : Int32) r40 h40 aw ac H.size) iX9_within q326 q325 ⟨Nat.le_of_ble_eq_true rfl, Nat.le_of_ble_eq_true rfl⟩ hK wN_P (wN_D (A := fun _ => True)) rfl hl.1 (Nat.le_of_ble_eq_true rfl) dX9_wheel_40 ⟨Nat.le_refl _, Nat.le_refl _⟩) hP hS hA (fun H locs hP hS => ?_)
        refine lv_if_eq (tgt := 50) hx hb dX9_wheel_43 (by decide) (fun c43 => ?_) (fun c43 => ?_)
        · have hf := ifp c43 hf
          refine lv_iconst (v := (0 : Int32)) hx hb dX9_wheel_50 (by decide) ?_
          refine lv_istore (lv' := [(5, .int (0 : Int32)), (0, .ref (ad 0)), (1, .int v1), (2, .int v2), (3, .int v3), (4, .int v4)]) hx hb dX9_wheel_51 hl (by decide) rfl (fun ls hl => ?_)
          refine lv_iload hx hb dX9_wheel_53 (lv_at hl 0 rfl) ?_
          refine lv_if_ne (tgt := 61) hx hb dX9_wheel_55 (by decide) (fun c_ => absurd c_ (by decide)) (fun _ => ?_)
          refine lv_bipush (v := (-2 : Int32)) hx hb dX9_wheel_58 (by decide) ?_
          exact u_iretw hx hb hr hlocks rfl hP hD hS dX9_wheel_60 hf (fun _ => rfl)
        · have hf := ifn c43 hf
          refine lv_iconst (v := (1 : Int32)) hx hb dX9_wheel_46 (by decide) ?_
          refine lv_goto (tgt := 51) hx hb dX9_wheel_47 (by decide) ?_
          refine lv_istore (lv' := [(5, .int (1 : Int32)), (0, .ref (ad 0)), (1, .int v1), (2, .int v2), (3, .int v3), (4, .int v4)]) hx hb dX9_wheel_51 hl (by decide) rfl (fun ls hl => ?_)
          refine lv_iload hx hb dX9_wheel_53 (lv_at hl 0 rfl) ?_
          refine lv_if_ne (tgt := 61) hx hb dX9_wheel_55 (by decide) (fun _ => ?_) (fun c_ => absurd c_ (by decide))
          refine lv_aload_n hx hb dX9_wheel_61 rfl (lv_at hl 1 rfl) ?_
          refine gX_x_drum S hK hP q293 dX9_wheel_62 ?_
          refine lv_iload_n hx hb dX9_wheel_65 rfl (lv_at hl 2 rfl) ?_
          refine pX_drum_girth S hK hP hD hS q30 dX9_wheel_66 (fun H locs hP hD hS => ?_)
          refine lv_aload_n hx hb dX9_wheel_69 rfl (lv_at hl 1 rfl) ?_
          refine gX_x_drum S hK hP q293 dX9_wheel_70 ?_
          refine lv_iload_n hx hb dX9_wheel_73 rfl (lv_at hl 3 rfl) ?_
          refine pX_drum_stepsOfTurn S hK hP hD hS q32 dX9_wheel_74 (fun H locs hP hD hS => ?_)
          refine lv_aload_n hx hb dX9_wheel_77 rfl (lv_at hl 1 rfl) ?_
          refine gX_x_drum S hK hP q293 dX9_wheel_78 ?_
          refine lv_iload_n hx hb dX9_wheel_81 rfl (lv_at hl 4 rfl) ?_
          refine pX_drum_axle S hK hP hD hS q34 dX9_wheel_82 (fun H locs hP hD hS => ?_)
          refine lv_aload_n hx hb dX9_wheel_85 rfl (lv_at hl 1 rfl) ?_
          refine gX_x_drum S hK hP q293 dX9_wheel_86 ?_
          refine lv_iload hx hb dX9_wheel_89 (lv_at hl 5 rfl) ?_
          refine pX_drum_friction S hK hP hD hS q36 dX9_wheel_91 (fun H locs hP hD hS => ?_)
          refine lv_iconst (v := (1 : Int32)) hx hb dX9_wheel_94 (by decide) ?_
          exact u_iretw hx hb hr hlocks rfl hP hD hS dX9_wheel_95 hf (fun _ => rfl)
theorem iX9_winds : YI yX9_winds cX9_winds 3 (some .int) 2 := ⟨q331, q1, by decide, by decide, by decide +kernel⟩
theorem vX9_winds : YV yX9_winds := ⟨q329, q330⟩
set_option maxRecDepth 100000 in
set_option maxHeartbeats 4000000 in
theorem c_X9_winds (l : Launch) (D : va_G) (cy : Nat → ClassId) (ad : Nat → Nat) (σ : St) (v1 : Int32) (v2 : Int32) (q : Int32 × St) (hf : fX9_winds σ v1 v2 = some q) : Ci l D cy (wX cy ad) yX9_winds cX9_winds 3 .int 1 22 [.ref (ad 0), .int v1, .int v2] σ q.1 q.2 0 0 := by
  refine Ci.enter (by decide) (Nat.le_of_ble_eq_true rfl) ?_
  intro aw ac p e s m below meth c A H locs S hr hlocks hA hK hP hD hS ls hl
  have hx := S.1
  have hb := S.2.1
  have hl : lv_has ls 3 [(0, .ref (ad 0)), (1, .int v1), (2, .int v2)] := hl
  unfold fX9_winds at hf
  refine lv_iload_n hx hb dX9_winds_0 rfl (lv_at hl 1 rfl) ?_
  refine lv_iconst (v := (0 : Int32)) hx hb dX9_winds_1 (by decide) ?_
  refine lv_bipush (v := (10 : Int32)) hx hb dX9_winds_2 (by decide) ?_
  obtain ⟨r4, h4, hf⟩ := ob_some hf
  refine p_calli0 (u_runS (rest := []) S (c_X9_within l D cy σ v1 (0 : Int32) (10 : Int32) r4 h4 aw ac H.size) iX9_within q326 q325 ⟨Nat.le_of_ble_eq_true rfl, Nat.le_of_ble_eq_true rfl⟩ hK wN_P (wN_D (A := fun _ => True)) rfl hl.1 (Nat.le_of_ble_eq_true rfl) dX9_winds_4 ⟨Nat.le_refl _, Nat.le_refl _⟩) hP hS hA (fun H locs hP hS => ?_)
  refine lv_if_eq (tgt := 20) hx hb dX9_winds_7 (by decide) (fun c7 => ?_) (fun c7 => ?_)
  · have hf := ifp c7 hf
    refine lv_bipush (v := (-2 : Int32)) hx hb dX9_winds_20 (by decide) ?_
    exact u_iretw hx hb hr hlocks rfl hP hD hS dX9_winds_22 hf (fun _ => rfl)
  · have hf := ifn c7 hf
    refine lv_iload_n hx hb dX9_winds_10 rfl (lv_at hl 2 rfl) ?_
    refine lv_iconst (v := (1 : Int32)) hx hb dX9_winds_11 (by decide) ?_
    refine lv_bipush (v := (20 : Int32)) hx hb dX9_winds_12 (by decide) ?_
    obtain ⟨r14, h14, hf⟩ := ob_some hf
    refine p_calli0 (u_runS (rest := []) S (c_X9_within l D cy σ v2 (1 : Int32) (20 : Int32) r14 h14 aw ac H.size) iX9_within q326 q325 ⟨Nat.le_of_ble_eq_true rfl, Nat.le_of_ble_eq_true rfl⟩ hK wN_P (wN_D (A := fun _ => True)) rfl hl.1 (Nat.le_of_ble_eq_true rfl) dX9_winds_14 ⟨Nat.le_refl _, Nat.le_refl _⟩) hP hS hA (fun H locs hP hS => ?_)
    refine lv_if_ne (tgt := 23) hx hb dX9_winds_17 (by decide) (fun c17 => ?_) (fun c17 => ?_)
    · have hf := ifn c17 hf
      refine lv_aload_n hx hb dX9_winds_23 rfl (lv_at hl 0 rfl) ?_
      refine gX_x_drum S hK hP q293 dX9_winds_24 ?_
      refine lv_iload_n hx hb dX9_winds_27 rfl (lv_at hl 1 rfl) ?_
      refine pX_drum_thickness S hK hP hD hS q38 dX9_winds_28 (fun H locs hP hD hS => ?_)
      refine lv_aload_n hx hb dX9_winds_31 rfl (lv_at hl 0 rfl) ?_
      refine gX_x_drum S hK hP q293 dX9_winds_32 ?_
      refine lv_iload_n hx hb dX9_winds_35 rfl (lv_at hl 2 rfl) ?_
      refine pX_drum_turnsOfLayer S hK hP hD hS q40 dX9_winds_36 (fun H locs hP hD hS => ?_)
      refine lv_iconst (v := (1 : Int32)) hx hb dX9_winds_39 (by decide) ?_
      exact u_iretw hx hb hr hlocks rfl hP hD hS dX9_winds_40 hf (fun _ => rfl)
    · have hf := ifp c17 hf
      refine lv_bipush (v := (-2 : Int32)) hx hb dX9_winds_20 (by decide) ?_
      exact u_iretw hx hb hr hlocks rfl hP hD hS dX9_winds_22 hf (fun _ => rfl)
theorem iX9_lift : YI yX9_lift cX9_lift 2 (some .int) 1 := ⟨q335, q1, by decide, by decide, by decide +kernel⟩
theorem vX9_lift : YV yX9_lift := ⟨q333, q334⟩
set_option maxRecDepth 100000 in
set_option maxHeartbeats 4000000 in
theorem c_X9_lift (l : Launch) (D : va_G) (cy : Nat → ClassId) (ad : Nat → Nat) (σ : St) (v1 : Int32) (r : Int32) (hf : fX9_lift σ v1 = some r) : Ci l D cy (wX cy ad) yX9_lift cX9_lift 2 .int 2 48 [.ref (ad 0), .int v1] σ r σ 0 0 := by
  refine Ci.enter (by decide) (Nat.le_of_ble_eq_true rfl) ?_
  intro aw ac p e s m below meth c A H locs S hr hlocks hA hK hP hD hS ls hl
  have hx := S.1
  have hb := S.2.1
  have hl : lv_has ls 2 [(0, .ref (ad 0)), (1, .int v1)] := hl
  unfold fX9_lift at hf
  refine lv_iload_n hx hb dX9_lift_0 rfl (lv_at hl 1 rfl) ?_
  refine lv_iconst (v := (0 : Int32)) hx hb dX9_lift_1 (by decide) ?_
  refine lv_sipush (v := (20000 : Int32)) hx hb dX9_lift_2 (by decide) ?_
  obtain ⟨r5, h5, hf⟩ := ob_some hf
  refine p_calli0 (u_runS (rest := []) S (c_X9_within l D cy σ v1 (0 : Int32) (20000 : Int32) r5 h5 aw ac H.size) iX9_within q326 q325 ⟨Nat.le_of_ble_eq_true rfl, Nat.le_of_ble_eq_true rfl⟩ hK wN_P (wN_D (A := fun _ => True)) rfl hl.1 (Nat.le_of_ble_eq_true rfl) dX9_lift_5 ⟨Nat.le_refl _, Nat.le_refl _⟩) hP hS hA (fun H locs hP hS => ?_)
  refine lv_if_eq (tgt := 22) hx hb dX9_lift_8 (by decide) (fun c8 => ?_) (fun c8 => ?_)
  · have hf := ifp c8 hf
    refine lv_bipush (v := (-2 : Int32)) hx hb dX9_lift_22 (by decide) ?_
    exact u_iretr hx hb hr hlocks rfl hP hD hS dX9_lift_24 hf (fun _ => rfl)
  · have hf := ifn c8 hf
    refine lv_aload_n hx hb dX9_lift_11 rfl (lv_at hl 0 rfl) ?_
    refine gX_x_drum S hK hP q293 dX9_lift_12 ?_
    refine lv_iload_n hx hb dX9_lift_15 rfl (lv_at hl 1 rfl) ?_
    obtain ⟨r16, h16, hf⟩ := ob_some hf
    refine u_calli0 (u_runV (rest := []) S (c_X2_liftOf l D cy ad σ v1 r16 h16 aw ac H.size) iX2_liftOf vX2_liftOf q336 ⟨Nat.le_of_ble_eq_true rfl, Nat.le_of_ble_eq_true rfl⟩ hK hP hD (q0 := 1) rfl rfl rfl hl.1 (Nat.le_of_ble_eq_true rfl) dX9_lift_16 ⟨Nat.le_refl _, Nat.le_refl _⟩) hD hS hA (fun H locs hP hD hS => ?_)
    refine lv_goto (tgt := 24) hx hb dX9_lift_19 (by decide) ?_
    exact u_iretr hx hb hr hlocks rfl hP hD hS dX9_lift_24 hf (fun _ => rfl)
theorem iX9_steps : YI yX9_steps cX9_steps 2 (some .int) 1 := ⟨q354, q1, by decide, by decide, by decide +kernel⟩
theorem vX9_steps : YV yX9_steps := ⟨q352, q353⟩
set_option maxRecDepth 100000 in
set_option maxHeartbeats 4000000 in
theorem c_X9_steps (l : Launch) (D : va_G) (cy : Nat → ClassId) (ad : Nat → Nat) (σ : St) (v1 : Int32) (r : Int32) (hf : fX9_steps σ v1 = some r) : Ci l D cy (wX cy ad) yX9_steps cX9_steps 2 .int 2 49 [.ref (ad 0), .int v1] σ r σ 0 0 := by
  refine Ci.enter (by decide) (Nat.le_of_ble_eq_true rfl) ?_
  intro aw ac p e s m below meth c A H locs S hr hlocks hA hK hP hD hS ls hl
  have hx := S.1
  have hb := S.2.1
  have hl : lv_has ls 2 [(0, .ref (ad 0)), (1, .int v1)] := hl
  unfold fX9_steps at hf
  refine lv_iload_n hx hb dX9_steps_0 rfl (lv_at hl 1 rfl) ?_
  refine lv_iconst (v := (0 : Int32)) hx hb dX9_steps_1 (by decide) ?_
  refine lv_sipush (v := (20000 : Int32)) hx hb dX9_steps_2 (by decide) ?_
  obtain ⟨r5, h5, hf⟩ := ob_some hf
  refine p_calli0 (u_runS (rest := []) S (c_X9_within l D cy σ v1 (0 : Int32) (20000 : Int32) r5 h5 aw ac H.size) iX9_within q326 q325 ⟨Nat.le_of_ble_eq_true rfl, Nat.le_of_ble_eq_true rfl⟩ hK wN_P (wN_D (A := fun _ => True)) rfl hl.1 (Nat.le_of_ble_eq_true rfl) dX9_steps_5 ⟨Nat.le_refl _, Nat.le_refl _⟩) hP hS hA (fun H locs hP hS => ?_)
  refine lv_if_eq (tgt := 22) hx hb dX9_steps_8 (by decide) (fun c8 => ?_) (fun c8 => ?_)
  · have hf := ifp c8 hf
    refine lv_bipush (v := (-2 : Int32)) hx hb dX9_steps_22 (by decide) ?_
    exact u_iretr hx hb hr hlocks rfl hP hD hS dX9_steps_24 hf (fun _ => rfl)
  · have hf := ifn c8 hf
    refine lv_aload_n hx hb dX9_steps_11 rfl (lv_at hl 0 rfl) ?_
    refine gX_x_drum S hK hP q293 dX9_steps_12 ?_
    refine lv_iload_n hx hb dX9_steps_15 rfl (lv_at hl 1 rfl) ?_
    obtain ⟨r16, h16, hf⟩ := ob_some hf
    refine u_calli0 (u_runV (rest := []) S (c_X2_stepsFor l D cy ad σ v1 r16 h16 aw ac H.size) iX2_stepsFor vX2_stepsFor q355 ⟨Nat.le_of_ble_eq_true rfl, Nat.le_of_ble_eq_true rfl⟩ hK hP hD (q0 := 1) rfl rfl rfl hl.1 (Nat.le_of_ble_eq_true rfl) dX9_steps_16 ⟨Nat.le_refl _, Nat.le_refl _⟩) hD hS hA (fun H locs hP hD hS => ?_)
    refine lv_goto (tgt := 24) hx hb dX9_steps_19 (by decide) ?_
    exact u_iretr hx hb hr hlocks rfl hP hD hS dX9_steps_24 hf (fun _ => rfl)
theorem iX9_layer : YI yX9_layer cX9_layer 4 (some .int) 2 := ⟨q362, q1, by decide, by decide, by decide +kernel⟩
theorem vX9_layer : YV yX9_layer := ⟨q360, q361⟩
set_option maxRecDepth 100000 in
set_option maxHeartbeats 4000000 in
theorem c_X9_layer (l : Launch) (D : va_G) (cy : Nat → ClassId) (ad : Nat → Nat) (σ : St) (v1 : Int32) (v2 : Int32) (r : Int32) (hf : fX9_layer σ v1 v2 = some r) : Ci l D cy (wX cy ad) yX9_layer cX9_layer 4 .int 2 44 [.ref (ad 0), .int v1, .int v2] σ r σ 0 0 := by
  refine Ci.enter (by decide) (Nat.le_of_ble_eq_true rfl) ?_
  intro aw ac p e s m below meth c A H locs S hr hlocks hA hK hP hD hS ls hl
  have hx := S.1
  have hb := S.2.1
  have hl : lv_has ls 4 [(0, .ref (ad 0)), (1, .int v1), (2, .int v2)] := hl
  unfold fX9_layer at hf
  refine lv_iload_n hx hb dX9_layer_0 rfl (lv_at hl 1 rfl) ?_
  refine lv_iconst (v := (0 : Int32)) hx hb dX9_layer_1 (by decide) ?_
  refine lv_sipush (v := (20000 : Int32)) hx hb dX9_layer_2 (by decide) ?_
  obtain ⟨r5, h5, hf⟩ := ob_some hf
  refine p_calli0 (u_runS (rest := []) S (c_X9_within l D cy σ v1 (0 : Int32) (20000 : Int32) r5 h5 aw ac H.size) iX9_within q326 q325 ⟨Nat.le_of_ble_eq_true rfl, Nat.le_of_ble_eq_true rfl⟩ hK wN_P (wN_D (A := fun _ => True)) rfl hl.1 (Nat.le_of_ble_eq_true rfl) dX9_layer_5 ⟨Nat.le_refl _, Nat.le_refl _⟩) hP hS hA (fun H locs hP hS => ?_)
  refine lv_if_eq (tgt := 20) hx hb dX9_layer_8 (by decide) (fun c8 => ?_) (fun c8 => ?_)
  · have hf := ifp c8 hf
    refine lv_bipush (v := (-2 : Int32)) hx hb dX9_layer_20 (by decide) ?_
    exact u_iretr hx hb hr hlocks rfl hP hD hS dX9_layer_22 hf (fun _ => rfl)
  · have hf := ifn c8 hf
    refine lv_iload_n hx hb dX9_layer_11 rfl (lv_at hl 2 rfl) ?_
    refine lv_iconst (v := (0 : Int32)) hx hb dX9_layer_12 (by decide) ?_
    refine lv_iconst (v := (1 : Int32)) hx hb dX9_layer_13 (by decide) ?_
    obtain ⟨r14, h14, hf⟩ := ob_some hf
    refine p_calli0 (u_runS (rest := []) S (c_X9_within l D cy σ v2 (0 : Int32) (1 : Int32) r14 h14 aw ac H.size) iX9_within q326 q325 ⟨Nat.le_of_ble_eq_true rfl, Nat.le_of_ble_eq_true rfl⟩ hK wN_P (wN_D (A := fun _ => True)) rfl hl.1 (Nat.le_of_ble_eq_true rfl) dX9_layer_14 ⟨Nat.le_refl _, Nat.le_refl _⟩) hP hS hA (fun H locs hP hS => ?_)
    refine lv_if_ne (tgt := 23) hx hb dX9_layer_17 (by decide) (fun c17 => ?_) (fun c17 => ?_)
    · have hf := ifn c17 hf
      refine lv_aload_n hx hb dX9_layer_23 rfl (lv_at hl 0 rfl) ?_
      refine gX_x_drum S hK hP q293 dX9_layer_24 ?_
      refine lv_iload_n hx hb dX9_layer_27 rfl (lv_at hl 1 rfl) ?_
      obtain ⟨r28, h28, hf⟩ := ob_some hf
      refine u_calli0 (u_runV (rest := []) S (c_X2_lastLayer l D cy ad σ v1 r28 h28 aw ac H.size) iX2_lastLayer vX2_lastLayer q363 ⟨Nat.le_of_ble_eq_true rfl, Nat.le_of_ble_eq_true rfl⟩ hK hP hD (q0 := 1) rfl rfl rfl hl.1 (Nat.le_of_ble_eq_true rfl) dX9_layer_28 ⟨Nat.le_refl _, Nat.le_refl _⟩) hD hS hA (fun H locs hP hD hS => ?_)
      refine lv_istore_n (lv' := [(3, .int r28), (0, .ref (ad 0)), (1, .int v1), (2, .int v2)]) hx hb dX9_layer_31 rfl hl (by decide) rfl (fun ls hl => ?_)
      refine lv_iload_n hx hb dX9_layer_32 rfl (lv_at hl 3 rfl) ?_
      refine lv_if_ne (tgt := 40) hx hb dX9_layer_33 (by decide) (fun c33 => ?_) (fun c33 => ?_)
      · have hf := ifn c33 hf
        refine lv_aload_n hx hb dX9_layer_40 rfl (lv_at hl 1 rfl) ?_
        refine gX_x_drum S hK hP q293 dX9_layer_41 ?_
        refine lv_iload_n hx hb dX9_layer_44 rfl (lv_at hl 0 rfl) ?_
        obtain ⟨r45, h45, hf⟩ := ob_some hf
        refine u_calli0 (u_runV (rest := []) S (c_X2_girthOfLayer l D cy ad σ r28 r45 h45 aw ac H.size) iX2_girthOfLayer vX2_girthOfLayer q367 ⟨Nat.le_of_ble_eq_true rfl, Nat.le_of_ble_eq_true rfl⟩ hK hP hD (q0 := 1) rfl rfl rfl hl.1 (Nat.le_of_ble_eq_true rfl) dX9_layer_45 ⟨Nat.le_refl _, Nat.le_refl _⟩) hD hS hA (fun H locs hP hD hS => ?_)
        exact u_iretr hx hb hr hlocks rfl hP hD hS dX9_layer_48 hf (fun _ => rfl)
      · have hf := ifp c33 hf
        refine lv_iload_n hx hb dX9_layer_36 rfl (lv_at hl 0 rfl) ?_
        refine lv_goto (tgt := 48) hx hb dX9_layer_37 (by decide) ?_
        exact u_iretr hx hb hr hlocks rfl hP hD hS dX9_layer_48 hf (fun _ => rfl)
    · have hf := ifp c17 hf
      refine lv_bipush (v := (-2 : Int32)) hx hb dX9_layer_20 (by decide) ?_
      exact u_iretr hx hb hr hlocks rfl hP hD hS dX9_layer_22 hf (fun _ => rfl)
theorem iX9_man : YI yX9_man cX9_man 2 (some .int) 1 := ⟨q371, q1, by decide, by decide, by decide +kernel⟩
theorem vX9_man : YV yX9_man := ⟨q369, q370⟩
set_option maxRecDepth 100000 in
set_option maxHeartbeats 4000000 in
theorem c_X9_man (l : Launch) (D : va_G) (cy : Nat → ClassId) (ad : Nat → Nat) (σ : St) (v1 : Int32) (q : Int32 × St) (hf : fX9_man σ v1 = some q) : Ci l D cy (wX cy ad) yX9_man cX9_man 2 .int 1 22 [.ref (ad 0), .int v1] σ q.1 q.2 0 0 := by
  refine Ci.enter (by decide) (Nat.le_of_ble_eq_true rfl) ?_
  intro aw ac p e s m below meth c A H locs S hr hlocks hA hK hP hD hS ls hl
  have hx := S.1
  have hb := S.2.1
  have hl : lv_has ls 2 [(0, .ref (ad 0)), (1, .int v1)] := hl
  unfold fX9_man at hf
  refine lv_iload_n hx hb dX9_man_0 rfl (lv_at hl 1 rfl) ?_
  refine lv_bipush (v := (40 : Int32)) hx hb dX9_man_1 (by decide) ?_
  refine lv_sipush (v := (150 : Int32)) hx hb dX9_man_3 (by decide) ?_
  obtain ⟨r6, h6, hf⟩ := ob_some hf
  refine p_calli0 (u_runS (rest := []) S (c_X9_within l D cy σ v1 (40 : Int32) (150 : Int32) r6 h6 aw ac H.size) iX9_within q326 q325 ⟨Nat.le_of_ble_eq_true rfl, Nat.le_of_ble_eq_true rfl⟩ hK wN_P (wN_D (A := fun _ => True)) rfl hl.1 (Nat.le_of_ble_eq_true rfl) dX9_man_6 ⟨Nat.le_refl _, Nat.le_refl _⟩) hP hS hA (fun H locs hP hS => ?_)
  refine lv_if_eq (tgt := 23) hx hb dX9_man_9 (by decide) (fun c9 => ?_) (fun c9 => ?_)
  · have hf := ifp c9 hf
    refine lv_bipush (v := (-2 : Int32)) hx hb dX9_man_23 (by decide) ?_
    exact u_iretw hx hb hr hlocks rfl hP hD hS dX9_man_25 hf (fun _ => rfl)
  · have hf := ifn c9 hf
    refine lv_aload_n hx hb dX9_man_12 rfl (lv_at hl 0 rfl) ?_
    refine gX_x_crew S hK hP q294 dX9_man_13 ?_
    refine lv_iload_n hx hb dX9_man_16 rfl (lv_at hl 1 rfl) ?_
    obtain ⟨q17, h17, hf⟩ := ob_some hf
    refine u_calli0 (u_runV (rest := []) S (c_X1_join l D cy ad σ v1 q17 h17 aw ac H.size) iX1_join vX1_join q372 ⟨Nat.le_of_ble_eq_true rfl, Nat.le_of_ble_eq_true rfl⟩ hK hP hD (q0 := 2) rfl rfl rfl hl.1 (Nat.le_of_ble_eq_true rfl) dX9_man_17 ⟨Nat.le_refl _, Nat.le_refl _⟩) hD hS hA (fun H locs hP hD hS => ?_)
    refine lv_goto (tgt := 25) hx hb dX9_man_20 (by decide) ?_
    exact u_iretw hx hb hr hlocks rfl hP hD hS dX9_man_25 hf (fun _ => rfl)
theorem iX9_breath : YI yX9_breath cX9_breath 2 (some .int) 1 := ⟨q379, q1, by decide, by decide, by decide +kernel⟩
theorem vX9_breath : YV yX9_breath := ⟨q377, q378⟩
set_option maxRecDepth 100000 in
set_option maxHeartbeats 4000000 in
theorem c_X9_breath (l : Launch) (D : va_G) (cy : Nat → ClassId) (ad : Nat → Nat) (σ : St) (v1 : Int32) (r : Int32) (hf : fX9_breath σ v1 = some r) : Ci l D cy (wX cy ad) yX9_breath cX9_breath 2 .int 1 22 [.ref (ad 0), .int v1] σ r σ 0 0 := by
  refine Ci.enter (by decide) (Nat.le_of_ble_eq_true rfl) ?_
  intro aw ac p e s m below meth c A H locs S hr hlocks hA hK hP hD hS ls hl
  have hx := S.1
  have hb := S.2.1
  have hl : lv_has ls 2 [(0, .ref (ad 0)), (1, .int v1)] := hl
  unfold fX9_breath at hf
  refine lv_iload_n hx hb dX9_breath_0 rfl (lv_at hl 1 rfl) ?_
  refine lv_iconst (v := (0 : Int32)) hx hb dX9_breath_1 (by decide) ?_
  refine lv_aload_n hx hb dX9_breath_2 rfl (lv_at hl 0 rfl) ?_
  refine gX_x_crew S hK hP q294 dX9_breath_3 ?_
  refine gX_crew_size S hK hP q64 dX9_breath_6 ?_
  refine lv_iconst (v := (1 : Int32)) hx hb dX9_breath_9 (by decide) ?_
  refine lv_isub hx hb dX9_breath_10 ?_
  obtain ⟨r11, h11, hf⟩ := ob_some hf
  refine p_calli0 (u_runS (rest := []) S (c_X9_within l D cy σ v1 (0 : Int32) ((gi σ 6) - (1 : Int32)) r11 h11 aw ac H.size) iX9_within q326 q325 ⟨Nat.le_of_ble_eq_true rfl, Nat.le_of_ble_eq_true rfl⟩ hK wN_P (wN_D (A := fun _ => True)) rfl hl.1 (Nat.le_of_ble_eq_true rfl) dX9_breath_11 ⟨Nat.le_refl _, Nat.le_refl _⟩) hP hS hA (fun H locs hP hS => ?_)
  refine lv_if_eq (tgt := 29) hx hb dX9_breath_14 (by decide) (fun c14 => ?_) (fun c14 => ?_)
  · have hf := ifp c14 hf
    refine lv_bipush (v := (-2 : Int32)) hx hb dX9_breath_29 (by decide) ?_
    exact u_iretr hx hb hr hlocks rfl hP hD hS dX9_breath_31 hf (fun _ => rfl)
  · have hf := ifn c14 hf
    refine lv_aload_n hx hb dX9_breath_17 rfl (lv_at hl 0 rfl) ?_
    refine gX_x_crew S hK hP q294 dX9_breath_18 ?_
    refine gX_crew_breaths S hK hP q62 dX9_breath_21 ?_
    refine lv_iload_n hx hb dX9_breath_24 rfl (lv_at hl 1 rfl) ?_
    obtain ⟨h25, hf⟩ := if_in hf
    refine lX_11 S hK hP h25 dX9_breath_25 ?_
    refine lv_goto (tgt := 31) hx hb dX9_breath_26 (by decide) ?_
    exact u_iretr hx hb hr hlocks rfl hP hD hS dX9_breath_31 hf (fun _ => rfl)
theorem iX9_rest : YI yX9_rest cX9_rest 2 (some .int) 1 := ⟨q383, q1, by decide, by decide, by decide +kernel⟩
theorem vX9_rest : YV yX9_rest := ⟨q381, q382⟩
set_option maxRecDepth 100000 in
set_option maxHeartbeats 4000000 in
theorem c_X9_rest (l : Launch) (D : va_G) (cy : Nat → ClassId) (ad : Nat → Nat) (σ : St) (v1 : Int32) (q : Int32 × St) (hf : fX9_rest σ v1 = some q) : Ci l D cy (wX cy ad) yX9_rest cX9_rest 2 .int 2 43 [.ref (ad 0), .int v1] σ q.1 q.2 0 0 := by
  refine Ci.enter (by decide) (Nat.le_of_ble_eq_true rfl) ?_
  intro aw ac p e s m below meth c A H locs S hr hlocks hA hK hP hD hS ls hl
  have hx := S.1
  have hb := S.2.1
  have hl : lv_has ls 2 [(0, .ref (ad 0)), (1, .int v1)] := hl
  unfold fX9_rest at hf
  refine lv_iload_n hx hb dX9_rest_0 rfl (lv_at hl 1 rfl) ?_
  refine lv_iconst (v := (1 : Int32)) hx hb dX9_rest_1 (by decide) ?_
  refine lv_sipush (v := (1000 : Int32)) hx hb dX9_rest_2 (by decide) ?_
  obtain ⟨r5, h5, hf⟩ := ob_some hf
  refine p_calli0 (u_runS (rest := []) S (c_X9_within l D cy σ v1 (1 : Int32) (1000 : Int32) r5 h5 aw ac H.size) iX9_within q326 q325 ⟨Nat.le_of_ble_eq_true rfl, Nat.le_of_ble_eq_true rfl⟩ hK wN_P (wN_D (A := fun _ => True)) rfl hl.1 (Nat.le_of_ble_eq_true rfl) dX9_rest_5 ⟨Nat.le_refl _, Nat.le_refl _⟩) hP hS hA (fun H locs hP hS => ?_)
  refine lv_if_ne (tgt := 14) hx hb dX9_rest_8 (by decide) (fun c8 => ?_) (fun c8 => ?_)
  · have hf := ifn c8 hf
    refine lv_aload_n hx hb dX9_rest_14 rfl (lv_at hl 0 rfl) ?_
    refine gX_x_crew S hK hP q294 dX9_rest_15 ?_
    refine lv_iconst (v := (2 : Int32)) hx hb dX9_rest_18 (by decide) ?_
    refine lv_iload_n hx hb dX9_rest_19 rfl (lv_at hl 1 rfl) ?_
    refine lv_imul hx hb dX9_rest_20 ?_
    obtain ⟨q21, h21, hf⟩ := ob_some hf
    refine u_callv0 (u_runV (rest := []) S (c_X1_recover l D cy ad σ ((2 : Int32) * v1) q21 h21 aw ac H.size) iX1_recover vX1_recover q384 ⟨Nat.le_of_ble_eq_true rfl, Nat.le_of_ble_eq_true rfl⟩ hK hP hD (q0 := 2) rfl rfl rfl hl.1 (Nat.le_of_ble_eq_true rfl) dX9_rest_21 ⟨Nat.le_refl _, Nat.le_refl _⟩) hD hS hA (fun H locs hP hD hS => ?_)
    refine lv_iconst (v := (1 : Int32)) hx hb dX9_rest_24 (by decide) ?_
    exact u_iretw hx hb hr hlocks rfl hP hD hS dX9_rest_25 hf (fun _ => rfl)
  · have hf := ifp c8 hf
    refine lv_bipush (v := (-2 : Int32)) hx hb dX9_rest_11 (by decide) ?_
    exact u_iretw hx hb hr hlocks rfl hP hD hS dX9_rest_13 hf (fun _ => rfl)
theorem iX9_isLoad : YI yX9_isLoad cX9_isLoad 1 (some .boolean) 1 := ⟨q404, q1, by decide, by decide, by decide +kernel⟩
set_option maxRecDepth 100000 in
set_option maxHeartbeats 4000000 in
theorem c_X9_isLoad (l : Launch) (D : va_G) (cy : Nat → ClassId) (σ : St) (v0 : Int32) (r : Int32) (hf : fX9_isLoad v0 = some r) : Ci l D cy wN yX9_isLoad cX9_isLoad 1 .boolean 1 22 [.int v0] σ r σ 0 0 := by
  refine Ci.enter (by decide) (Nat.le_of_ble_eq_true rfl) ?_
  intro aw ac p e s m below meth c A H locs S hr hlocks hA hK hP hD hS ls hl
  have hx := S.1
  have hb := S.2.1
  have hl : lv_has ls 1 [(0, .int v0)] := hl
  unfold fX9_isLoad at hf
  refine lv_iload_n hx hb dX9_isLoad_0 rfl (lv_at hl 0 rfl) ?_
  refine lv_iconst (v := (1 : Int32)) hx hb dX9_isLoad_1 (by decide) ?_
  refine lv_ldc hx hb S.2.2.2.1 (S.2.2.2.2 _ (List.mem_cons_of_mem _ q405)) dX9_isLoad_2 ?_
  obtain ⟨r4, h4, hf⟩ := ob_some hf
  refine p_calli0 (u_runS (rest := []) S (c_X9_within l D cy σ v0 (1 : Int32) (50000 : Int32) r4 h4 aw ac H.size) iX9_within q326 q325 ⟨Nat.le_of_ble_eq_true rfl, Nat.le_of_ble_eq_true rfl⟩ hK wN_P (wN_D (A := fun _ => True)) rfl hl.1 (Nat.le_of_ble_eq_true rfl) dX9_isLoad_4 ⟨Nat.le_refl _, Nat.le_refl _⟩) hP hS hA (fun H locs hP hS => ?_)
  obtain ⟨n7, hf⟩ := ifs hf
  exact u_iretr hx hb hr hlocks n7 hP hD hS dX9_isLoad_7 hf (fun _ => rfl)
theorem iX9_isLift : YI yX9_isLift cX9_isLift 2 (some .boolean) 2 := ⟨q401, q1, by decide, by decide, by decide +kernel⟩
set_option maxRecDepth 100000 in
set_option maxHeartbeats 4000000 in
theorem c_X9_isLift (l : Launch) (D : va_G) (cy : Nat → ClassId) (σ : St) (v0 : Int32) (v1 : Int32) (r : Int32) (hf : fX9_isLift v0 v1 = some r) : Ci l D cy wN yX9_isLift cX9_isLift 2 .boolean 2 42 [.int v0, .int v1] σ r σ 0 0 := by
  refine Ci.enter (by decide) (Nat.le_of_ble_eq_true rfl) ?_
  intro aw ac p e s m below meth c A H locs S hr hlocks hA hK hP hD hS ls hl
  have hx := S.1
  have hb := S.2.1
  have hl : lv_has ls 2 [(0, .int v0), (1, .int v1)] := hl
  unfold fX9_isLift at hf
  refine lv_iload_n hx hb dX9_isLift_0 rfl (lv_at hl 0 rfl) ?_
  obtain ⟨r1, h1, hf⟩ := ob_some hf
  refine p_calli0 (u_runS (rest := []) S (c_X9_isLoad l D cy σ v0 r1 h1 aw ac H.size) iX9_isLoad q403 q402 ⟨Nat.le_of_ble_eq_true rfl, Nat.le_of_ble_eq_true rfl⟩ hK wN_P (wN_D (A := fun _ => True)) rfl hl.1 (Nat.le_of_ble_eq_true rfl) dX9_isLift_1 ⟨Nat.le_refl _, Nat.le_refl _⟩) hP hS hA (fun H locs hP hS => ?_)
  refine lv_if_eq (tgt := 22) hx hb dX9_isLift_4 (by decide) (fun c4 => ?_) (fun c4 => ?_)
  · have hf := ifp c4 hf
    refine lv_iconst (v := (0 : Int32)) hx hb dX9_isLift_22 (by decide) ?_
    exact u_iretr hx hb hr hlocks rfl hP hD hS dX9_isLift_23 hf (fun _ => rfl)
  · have hf := ifn c4 hf
    refine lv_iload_n hx hb dX9_isLift_7 rfl (lv_at hl 1 rfl) ?_
    refine lv_iconst (v := (0 : Int32)) hx hb dX9_isLift_8 (by decide) ?_
    refine lv_sipush (v := (20000 : Int32)) hx hb dX9_isLift_9 (by decide) ?_
    obtain ⟨r12, h12, hf⟩ := ob_some hf
    refine p_calli0 (u_runS (rest := []) S (c_X9_within l D cy σ v1 (0 : Int32) (20000 : Int32) r12 h12 aw ac H.size) iX9_within q326 q325 ⟨Nat.le_of_ble_eq_true rfl, Nat.le_of_ble_eq_true rfl⟩ hK wN_P (wN_D (A := fun _ => True)) rfl hl.1 (Nat.le_of_ble_eq_true rfl) dX9_isLift_12 ⟨Nat.le_refl _, Nat.le_refl _⟩) hP hS hA (fun H locs hP hS => ?_)
    refine lv_if_eq (tgt := 22) hx hb dX9_isLift_15 (by decide) (fun c15 => ?_) (fun c15 => ?_)
    · have hf := ifp c15 hf
      refine lv_iconst (v := (0 : Int32)) hx hb dX9_isLift_22 (by decide) ?_
      exact u_iretr hx hb hr hlocks rfl hP hD hS dX9_isLift_23 hf (fun _ => rfl)
    · have hf := ifn c15 hf
      refine lv_iconst (v := (1 : Int32)) hx hb dX9_isLift_18 (by decide) ?_
      refine lv_goto (tgt := 23) hx hb dX9_isLift_19 (by decide) ?_
      exact u_iretr hx hb hr hlocks rfl hP hD hS dX9_isLift_23 hf (fun _ => rfl)
theorem iX9_costOf : YI yX9_costOf cX9_costOf 2 (some .int) 2 := ⟨q422, q1, by decide, by decide, by decide +kernel⟩
set_option maxRecDepth 100000 in
set_option maxHeartbeats 4000000 in
theorem c_X9_costOf (l : Launch) (D : va_G) (cy : Nat → ClassId) (σ : St) (v0 : Int32) (v1 : Int32) (r : Int32) (hf : fX9_costOf v0 v1 = some r) : Ci l D cy wN yX9_costOf cX9_costOf 2 .int 0 0 [.int v0, .int v1] σ r σ 0 0 := by
  refine Ci.enter (by decide) (Nat.le_of_ble_eq_true rfl) ?_
  intro aw ac p e s m below meth c A H locs S hr hlocks hA hK hP hD hS ls hl
  have hx := S.1
  have hb := S.2.1
  have hl : lv_has ls 2 [(0, .int v0), (1, .int v1)] := hl
  unfold fX9_costOf at hf
  refine lv_iload_n hx hb dX9_costOf_0 rfl (lv_at hl 1 rfl) ?_
  refine lv_iconst (v := (1 : Int32)) hx hb dX9_costOf_1 (by decide) ?_
  refine lv_iload_n hx hb dX9_costOf_2 rfl (lv_at hl 0 rfl) ?_
  refine lv_sipush (v := (1000 : Int32)) hx hb dX9_costOf_3 (by decide) ?_
  refine lv_idiv hx hb dX9_costOf_6 (by decide) ?_
  refine lv_iadd hx hb dX9_costOf_7 ?_
  refine lv_imul hx hb dX9_costOf_8 ?_
  exact u_iretr hx hb hr hlocks rfl hP hD hS dX9_costOf_9 hf (fun _ => rfl)
theorem iX9_ability : YI yX9_ability cX9_ability 4 (some .int) 3 := ⟨q409, q1, by decide, by decide, by decide +kernel⟩
theorem vX9_ability : YV yX9_ability := ⟨q408, qs1⟩
set_option maxRecDepth 100000 in
set_option maxHeartbeats 4000000 in
theorem c_X9_ability (l : Launch) (D : va_G) (cy : Nat → ClassId) (ad : Nat → Nat) (σ : St) (v1 : Int32) (v2 : Int32) (v3 : Int32) (r : Int32) (hf : fX9_ability σ v1 v2 v3 = some r) : Ci l D cy (wX cy ad) yX9_ability cX9_ability 4 .int 3 69 [.ref (ad 0), .int v1, .int v2, .int v3] σ r σ 0 0 := by
  refine Ci.enter (by decide) (Nat.le_of_ble_eq_true rfl) ?_
  intro aw ac p e s m below meth c A H locs S hr hlocks hA hK hP hD hS ls hl
  have hx := S.1
  have hb := S.2.1
  have hl : lv_has ls 4 [(0, .ref (ad 0)), (1, .int v1), (2, .int v2), (3, .int v3)] := hl
  unfold fX9_ability at hf
  refine lv_aload_n hx hb dX9_ability_0 rfl (lv_at hl 0 rfl) ?_
  refine gX_x_drum S hK hP q293 dX9_ability_1 ?_
  refine lv_aload_n hx hb dX9_ability_4 rfl (lv_at hl 0 rfl) ?_
  refine gX_x_crew S hK hP q294 dX9_ability_5 ?_
  refine lv_iload_n hx hb dX9_ability_8 rfl (lv_at hl 1 rfl) ?_
  obtain ⟨r9, h9, hf⟩ := ob_some hf
  refine u_calli0 (u_runV (rest := [.ref (ad 1)]) S (c_X1_weightOf l D cy ad σ v1 r9 h9 aw ac H.size) iX1_weightOf vX1_weightOf q410 ⟨Nat.le_of_ble_eq_true rfl, Nat.le_of_ble_eq_true rfl⟩ hK hP hD (q0 := 2) rfl rfl rfl hl.1 (Nat.le_of_ble_eq_true rfl) dX9_ability_9 ⟨Nat.le_refl _, Nat.le_refl _⟩) hD hS hA (fun H locs hP hD hS => ?_)
  refine lv_iload_n hx hb dX9_ability_12 rfl (lv_at hl 2 rfl) ?_
  refine lv_iload_n hx hb dX9_ability_13 rfl (lv_at hl 3 rfl) ?_
  obtain ⟨r14, h14, hf⟩ := ob_some hf
  refine u_calli0 (u_runV (rest := []) S (c_X2_isTurnedBy l D cy ad σ r9 v2 v3 r14 h14 aw ac H.size) iX2_isTurnedBy vX2_isTurnedBy q414 ⟨Nat.le_of_ble_eq_true rfl, Nat.le_of_ble_eq_true rfl⟩ hK hP hD (q0 := 1) rfl rfl rfl hl.1 (Nat.le_of_ble_eq_true rfl) dX9_ability_14 ⟨Nat.le_refl _, Nat.le_refl _⟩) hD hS hA (fun H locs hP hD hS => ?_)
  refine lv_if_ne (tgt := 22) hx hb dX9_ability_17 (by decide) (fun c17 => ?_) (fun c17 => ?_)
  · have hf := ifn c17 hf
    refine lv_aload_n hx hb dX9_ability_22 rfl (lv_at hl 0 rfl) ?_
    refine gX_x_crew S hK hP q294 dX9_ability_23 ?_
    refine lv_iload_n hx hb dX9_ability_26 rfl (lv_at hl 1 rfl) ?_
    refine lv_iload_n hx hb dX9_ability_27 rfl (lv_at hl 2 rfl) ?_
    refine lv_iload_n hx hb dX9_ability_28 rfl (lv_at hl 3 rfl) ?_
    obtain ⟨r29, h29, hf⟩ := ob_some hf
    refine p_calli0 (u_runS (rest := [.int v1, .ref (ad 2)]) S (c_X9_costOf l D cy σ v2 v3 r29 h29 aw ac H.size) iX9_costOf q421 q420 ⟨Nat.le_of_ble_eq_true rfl, Nat.le_of_ble_eq_true rfl⟩ hK wN_P (wN_D (A := fun _ => True)) rfl hl.1 (Nat.le_of_ble_eq_true rfl) dX9_ability_29 ⟨Nat.le_refl _, Nat.le_refl _⟩) hP hS hA (fun H locs hP hS => ?_)
    obtain ⟨r32, h32, hf⟩ := ob_some hf
    refine u_calli0 (u_runV (rest := []) S (c_X1_haveBreath l D cy ad σ v1 r29 r32 h32 aw ac H.size) iX1_haveBreath vX1_haveBreath q423 ⟨Nat.le_of_ble_eq_true rfl, Nat.le_of_ble_eq_true rfl⟩ hK hP hD (q0 := 2) rfl rfl rfl hl.1 (Nat.le_of_ble_eq_true rfl) dX9_ability_32 ⟨Nat.le_refl _, Nat.le_refl _⟩) hD hS hA (fun H locs hP hD hS => ?_)
    refine lv_if_eq (tgt := 42) hx hb dX9_ability_35 (by decide) (fun c35 => ?_) (fun c35 => ?_)
    · have hf := ifp c35 hf
      refine lv_iconst (v := (2 : Int32)) hx hb dX9_ability_42 (by decide) ?_
      exact u_iretr hx hb hr hlocks rfl hP hD hS dX9_ability_43 hf (fun _ => rfl)
    · have hf := ifn c35 hf
      refine lv_iconst (v := (1 : Int32)) hx hb dX9_ability_38 (by decide) ?_
      refine lv_goto (tgt := 43) hx hb dX9_ability_39 (by decide) ?_
      exact u_iretr hx hb hr hlocks rfl hP hD hS dX9_ability_43 hf (fun _ => rfl)
  · have hf := ifp c17 hf
    refine lv_iconst (v := (0 : Int32)) hx hb dX9_ability_20 (by decide) ?_
    exact u_iretr hx hb hr hlocks rfl hP hD hS dX9_ability_21 hf (fun _ => rfl)
theorem iX9_can : YI yX9_can cX9_can 4 (some .int) 3 := ⟨q394, q1, by decide, by decide, by decide +kernel⟩
theorem vX9_can : YV yX9_can := ⟨q392, q393⟩
set_option maxRecDepth 100000 in
set_option maxHeartbeats 4000000 in
theorem c_X9_can (l : Launch) (D : va_G) (cy : Nat → ClassId) (ad : Nat → Nat) (σ : St) (v1 : Int32) (v2 : Int32) (v3 : Int32) (r : Int32) (hf : fX9_can σ v1 v2 v3 = some r) : Ci l D cy (wX cy ad) yX9_can cX9_can 4 .int 4 92 [.ref (ad 0), .int v1, .int v2, .int v3] σ r σ 0 0 := by
  refine Ci.enter (by decide) (Nat.le_of_ble_eq_true rfl) ?_
  intro aw ac p e s m below meth c A H locs S hr hlocks hA hK hP hD hS ls hl
  have hx := S.1
  have hb := S.2.1
  have hl : lv_has ls 4 [(0, .ref (ad 0)), (1, .int v1), (2, .int v2), (3, .int v3)] := hl
  unfold fX9_can at hf
  refine lv_iload_n hx hb dX9_can_0 rfl (lv_at hl 1 rfl) ?_
  refine lv_iconst (v := (0 : Int32)) hx hb dX9_can_1 (by decide) ?_
  refine lv_aload_n hx hb dX9_can_2 rfl (lv_at hl 0 rfl) ?_
  refine gX_x_crew S hK hP q294 dX9_can_3 ?_
  obtain ⟨r6, h6, hf⟩ := ob_some hf
  refine u_calli0 (u_runV (rest := [.int (0 : Int32), .int v1]) S (c_X1_everyone l D cy ad σ r6 h6 aw ac H.size) iX1_everyone vX1_everyone q395 ⟨Nat.le_of_ble_eq_true rfl, Nat.le_of_ble_eq_true rfl⟩ hK hP hD (q0 := 2) rfl rfl rfl hl.1 (Nat.le_of_ble_eq_true rfl) dX9_can_6 ⟨Nat.le_refl _, Nat.le_refl _⟩) hD hS hA (fun H locs hP hD hS => ?_)
  obtain ⟨r9, h9, hf⟩ := ob_some hf
  refine p_calli0 (u_runS (rest := []) S (c_X9_within l D cy σ v1 (0 : Int32) r6 r9 h9 aw ac H.size) iX9_within q326 q325 ⟨Nat.le_of_ble_eq_true rfl, Nat.le_of_ble_eq_true rfl⟩ hK wN_P (wN_D (A := fun _ => True)) rfl hl.1 (Nat.le_of_ble_eq_true rfl) dX9_can_9 ⟨Nat.le_refl _, Nat.le_refl _⟩) hP hS hA (fun H locs hP hS => ?_)
  refine lv_if_eq (tgt := 23) hx hb dX9_can_12 (by decide) (fun c12 => ?_) (fun c12 => ?_)
  · have hf := ifp c12 hf
    refine lv_bipush (v := (-2 : Int32)) hx hb dX9_can_23 (by decide) ?_
    exact u_iretr hx hb hr hlocks rfl hP hD hS dX9_can_25 hf (fun _ => rfl)
  · have hf := ifn c12 hf
    refine lv_iload_n hx hb dX9_can_15 rfl (lv_at hl 2 rfl) ?_
    refine lv_iload_n hx hb dX9_can_16 rfl (lv_at hl 3 rfl) ?_
    obtain ⟨r17, h17, hf⟩ := ob_some hf
    refine p_calli0 (u_runS (rest := []) S (c_X9_isLift l D cy σ v2 v3 r17 h17 aw ac H.size) iX9_isLift q400 q399 ⟨Nat.le_of_ble_eq_true rfl, Nat.le_of_ble_eq_true rfl⟩ hK wN_P (wN_D (A := fun _ => True)) rfl hl.1 (Nat.le_of_ble_eq_true rfl) dX9_can_17 ⟨Nat.le_refl _, Nat.le_refl _⟩) hP hS hA (fun H locs hP hS => ?_)
    refine lv_if_ne (tgt := 26) hx hb dX9_can_20 (by decide) (fun c20 => ?_) (fun c20 => ?_)
    · have hf := ifn c20 hf
      refine lv_aload_n hx hb dX9_can_26 rfl (lv_at hl 0 rfl) ?_
      refine lv_iload_n hx hb dX9_can_27 rfl (lv_at hl 1 rfl) ?_
      refine lv_iload_n hx hb dX9_can_28 rfl (lv_at hl 2 rfl) ?_
      refine lv_aload_n hx hb dX9_can_29 rfl (lv_at hl 0 rfl) ?_
      refine gX_x_drum S hK hP q293 dX9_can_30 ?_
      refine lv_iload_n hx hb dX9_can_33 rfl (lv_at hl 3 rfl) ?_
      obtain ⟨r34, h34, hf⟩ := ob_some hf
      refine u_calli0 (u_runV (rest := [.int v2, .int v1, .ref (ad 0)]) S (c_X2_stepsFor l D cy ad σ v3 r34 h34 aw ac H.size) iX2_stepsFor vX2_stepsFor q355 ⟨Nat.le_of_ble_eq_true rfl, Nat.le_of_ble_eq_true rfl⟩ hK hP hD (q0 := 1) rfl rfl rfl hl.1 (Nat.le_of_ble_eq_true rfl) dX9_can_34 ⟨Nat.le_refl _, Nat.le_refl _⟩) hD hS hA (fun H locs hP hD hS => ?_)
      obtain ⟨r37, h37, hf⟩ := ob_some hf
      refine u_calli0 (u_runV (rest := []) S (c_X9_ability l D cy ad σ v1 v2 r34 r37 h37 aw ac H.size) iX9_ability vX9_ability q406 ⟨Nat.le_of_ble_eq_true rfl, Nat.le_of_ble_eq_true rfl⟩ hK hP hD (q0 := 0) rfl rfl rfl hl.1 (Nat.le_of_ble_eq_true rfl) dX9_can_37 ⟨Nat.le_refl _, Nat.le_refl _⟩) hD hS hA (fun H locs hP hD hS => ?_)
      exact u_iretr hx hb hr hlocks rfl hP hD hS dX9_can_40 hf (fun _ => rfl)
    · have hf := ifp c20 hf
      refine lv_bipush (v := (-2 : Int32)) hx hb dX9_can_23 (by decide) ?_
      exact u_iretr hx hb hr hlocks rfl hP hD hS dX9_can_25 hf (fun _ => rfl)
theorem iX9_fewest : YI yX9_fewest cX9_fewest 7 (some .int) 2 := ⟨q430, q1, by decide, by decide, by decide +kernel⟩
theorem vX9_fewest : YV yX9_fewest := ⟨q428, q429⟩
set_option maxRecDepth 100000 in
set_option maxHeartbeats 4000000 in
theorem c_X9_fewest (l : Launch) (D : va_G) (cy : Nat → ClassId) (ad : Nat → Nat) (σ : St) (v1 : Int32) (v2 : Int32) (r : Int32) (hf : fX9_fewest σ v1 v2 = some r) : Ci l D cy (wX cy ad) yX9_fewest cX9_fewest 7 .int 4 92 [.ref (ad 0), .int v1, .int v2] σ r σ 0 0 := by
  refine Ci.enter (by decide) (Nat.le_of_ble_eq_true rfl) ?_
  intro aw ac p e s m below meth c A H locs S hr hlocks hA hK hP hD hS ls hl
  have hx := S.1
  have hb := S.2.1
  have hl : lv_has ls 7 [(0, .ref (ad 0)), (1, .int v1), (2, .int v2)] := hl
  unfold fX9_fewest at hf
  refine lv_iload_n hx hb dX9_fewest_0 rfl (lv_at hl 1 rfl) ?_
  refine lv_iload_n hx hb dX9_fewest_1 rfl (lv_at hl 2 rfl) ?_
  obtain ⟨r2, h2, hf⟩ := ob_some hf
  refine p_calli0 (u_runS (rest := []) S (c_X9_isLift l D cy σ v1 v2 r2 h2 aw ac H.size) iX9_isLift q400 q399 ⟨Nat.le_of_ble_eq_true rfl, Nat.le_of_ble_eq_true rfl⟩ hK wN_P (wN_D (A := fun _ => True)) rfl hl.1 (Nat.le_of_ble_eq_true rfl) dX9_fewest_2 ⟨Nat.le_refl _, Nat.le_refl _⟩) hP hS hA (fun H locs hP hS => ?_)
  refine lv_if_ne (tgt := 11) hx hb dX9_fewest_5 (by decide) (fun c5 => ?_) (fun c5 => ?_)
  · have hf := ifn c5 hf
    refine lv_aload_n hx hb dX9_fewest_11 rfl (lv_at hl 0 rfl) ?_
    refine gX_x_drum S hK hP q293 dX9_fewest_12 ?_
    refine lv_iload_n hx hb dX9_fewest_15 rfl (lv_at hl 2 rfl) ?_
    obtain ⟨r16, h16, hf⟩ := ob_some hf
    refine u_calli0 (u_runV (rest := []) S (c_X2_stepsFor l D cy ad σ v2 r16 h16 aw ac H.size) iX2_stepsFor vX2_stepsFor q355 ⟨Nat.le_of_ble_eq_true rfl, Nat.le_of_ble_eq_true rfl⟩ hK hP hD (q0 := 1) rfl rfl rfl hl.1 (Nat.le_of_ble_eq_true rfl) dX9_fewest_16 ⟨Nat.le_refl _, Nat.le_refl _⟩) hD hS hA (fun H locs hP hD hS => ?_)
    refine lv_istore_n (lv' := [(3, .int r16), (0, .ref (ad 0)), (1, .int v1), (2, .int v2)]) hx hb dX9_fewest_19 rfl hl (by decide) rfl (fun ls hl => ?_)
    refine lv_aload_n hx hb dX9_fewest_20 rfl (lv_at hl 1 rfl) ?_
    refine gX_x_crew S hK hP q294 dX9_fewest_21 ?_
    obtain ⟨r24, h24, hf⟩ := ob_some hf
    refine u_calli0 (u_runV (rest := []) S (c_X1_everyone l D cy ad σ r24 h24 aw ac H.size) iX1_everyone vX1_everyone q395 ⟨Nat.le_of_ble_eq_true rfl, Nat.le_of_ble_eq_true rfl⟩ hK hP hD (q0 := 2) rfl rfl rfl hl.1 (Nat.le_of_ble_eq_true rfl) dX9_fewest_24 ⟨Nat.le_refl _, Nat.le_refl _⟩) hD hS hA (fun H locs hP hD hS => ?_)
    refine lv_istore (lv' := [(4, .int r24), (3, .int r16), (0, .ref (ad 0)), (1, .int v1), (2, .int v2)]) hx hb dX9_fewest_27 hl (by decide) rfl (fun ls hl => ?_)
    refine lv_iconst (v := (-1 : Int32)) hx hb dX9_fewest_29 (by decide) ?_
    refine lv_istore (lv' := [(5, .int (-1 : Int32)), (4, .int r24), (3, .int r16), (0, .ref (ad 0)), (1, .int v1), (2, .int v2)]) hx hb dX9_fewest_30 hl (by decide) rfl (fun ls hl => ?_)
    refine lv_iconst (v := (1 : Int32)) hx hb dX9_fewest_32 (by decide) ?_
    refine lv_istore (lv' := [(6, .int (1 : Int32)), (5, .int (-1 : Int32)), (4, .int r24), (3, .int r16), (0, .ref (ad 0)), (1, .int v1), (2, .int v2)]) hx hb dX9_fewest_33 hl (by decide) rfl (fun ls hl => ?_)
    have L35 : ∀ (n35 : Nat) (v3_35 : Int32) (v4_35 : Int32) (v5_35 : Int32) (v6_35 : Int32) (H : Heap) (locs : List Loc) (ls : Array Slot), fX9_fewest_35 (fX9_fewest_35_k σ v1 v2 v3_35 v4_35) σ v1 v2 v3_35 v4_35 n35 v5_35 v6_35 = some r → va_P D vwCl (wX cy ad aw ac σ) H → va_D A (wX cy ad aw ac σ) → va_S A s.heap H locs → lv_has ls 7 [(0, .ref (ad 0)), (1, .int v1), (2, .int v2), (3, .int v3_35), (4, .int v4_35), (5, .int v5_35), (6, .int v6_35)] → W p l e (Rm 4 92 0 0) s m [.ref (ad 0), .int v1, .int v2].toArray below meth c H locs 0 0 (Zi D (wX cy ad) A r σ aw ac below [.ref (ad 0), .int v1, .int v2].toArray s 0 0) (F0 m 35 ls []) := by
      intro n35
      induction n35 with
      | zero =>
        intro v3_35 v4_35 v5_35 v6_35 H locs ls hf
        cases hf
      | succ n35 ih35 =>
        intro v3_35 v4_35 v5_35 v6_35 H locs ls hf hP hD hS hl
        rw [fX9_fewest_35] at hf
        refine lv_iload hx hb dX9_fewest_35 (lv_at hl 6 rfl) ?_
        refine lv_iload hx hb dX9_fewest_37 (lv_at hl 4 rfl) ?_
        refine lv_icmp_gt (tgt := 84) hx hb dX9_fewest_39 (by decide) (fun c39 => ?_) (fun c39 => ?_)
        · have hf := ifp c39 hf
          have hl := lv_sub (l' := [(0, .ref (ad 0)), (1, .int v1), (2, .int v2), (3, .int v3_35), (4, .int v4_35), (5, .int v5_35), (6, .int v6_35)]) hl [0, 1, 2, 3, 4, 5, 6] rfl
          unfold fX9_fewest_35_k at hf
          refine lv_iload hx hb dX9_fewest_84 (lv_at hl 5 rfl) ?_
          exact u_iretr hx hb hr hlocks rfl hP hD hS dX9_fewest_86 hf (fun _ => rfl)
        · have hf := ifn c39 hf
          refine lv_aload_n hx hb dX9_fewest_42 rfl (lv_at hl 0 rfl) ?_
          refine lv_iload hx hb dX9_fewest_43 (lv_at hl 6 rfl) ?_
          refine lv_iload_n hx hb dX9_fewest_45 rfl (lv_at hl 1 rfl) ?_
          refine lv_iload_n hx hb dX9_fewest_46 rfl (lv_at hl 3 rfl) ?_
          obtain ⟨r47, h47, hf⟩ := ob_some hf
          refine u_calli0 (u_runV (rest := []) S (c_X9_ability l D cy ad σ v6_35 v1 v3_35 r47 h47 aw ac H.size) iX9_ability vX9_ability q406 ⟨Nat.le_of_ble_eq_true rfl, Nat.le_of_ble_eq_true rfl⟩ hK hP hD (q0 := 0) rfl rfl rfl hl.1 (Nat.le_of_ble_eq_true rfl) dX9_fewest_47 ⟨Nat.le_refl _, Nat.le_refl _⟩) hD hS hA (fun H locs hP hD hS => ?_)
          refine lv_iconst (v := (1 : Int32)) hx hb dX9_fewest_50 (by decide) ?_
          refine lv_icmp_ne (tgt := 78) hx hb dX9_fewest_51 (by decide) (fun c51 => ?_) (fun c51 => ?_)
          · have hf := ifn c51 hf
            refine lv_iinc (v := (v6_35 + (1 : Int32))) (lv' := [(6, .int (v6_35 + (1 : Int32))), (0, .ref (ad 0)), (1, .int v1), (2, .int v2), (3, .int v3_35), (4, .int v4_35), (5, .int v5_35)]) hx hb dX9_fewest_78 hl (k := 6) rfl rfl (by decide) rfl (fun ls hl => ?_)
            refine lv_goto (tgt := 35) hx hb dX9_fewest_81 (by decide) ?_
            exact ih35 v3_35 v4_35 v5_35 (v6_35 + (1 : Int32)) H locs ls hf hP hD hS (lv_sub hl [1, 2, 3, 4, 5, 6, 0] rfl)
          · have hf := ifp c51 hf
            refine lv_iload hx hb dX9_fewest_54 (lv_at hl 5 rfl) ?_
            refine lv_iconst (v := (-1 : Int32)) hx hb dX9_fewest_56 (by decide) ?_
            refine lv_icmp_eq (tgt := 74) hx hb dX9_fewest_57 (by decide) (fun c57 => ?_) (fun c57 => ?_)
            · have hf := ifp c57 hf
              refine lv_iload hx hb dX9_fewest_74 (lv_at hl 6 rfl) ?_
              refine lv_istore (lv' := [(5, .int v6_35), (0, .ref (ad 0)), (1, .int v1), (2, .int v2), (3, .int v3_35), (4, .int v4_35), (6, .int v6_35)]) hx hb dX9_fewest_76 hl (by decide) rfl (fun ls hl => ?_)
              refine lv_iinc (v := (v6_35 + (1 : Int32))) (lv' := [(6, .int (v6_35 + (1 : Int32))), (5, .int v6_35), (0, .ref (ad 0)), (1, .int v1), (2, .int v2), (3, .int v3_35), (4, .int v4_35)]) hx hb dX9_fewest_78 hl (k := 6) rfl rfl (by decide) rfl (fun ls hl => ?_)
              refine lv_goto (tgt := 35) hx hb dX9_fewest_81 (by decide) ?_
              exact ih35 v3_35 v4_35 v6_35 (v6_35 + (1 : Int32)) H locs ls hf hP hD hS (lv_sub hl [2, 3, 4, 5, 6, 1, 0] rfl)
            · have hf := ifn c57 hf
              refine lv_aload_n hx hb dX9_fewest_60 rfl (lv_at hl 0 rfl) ?_
              refine gX_x_crew S hK hP q294 dX9_fewest_61 ?_
              refine lv_iload hx hb dX9_fewest_64 (lv_at hl 6 rfl) ?_
              refine lv_iload hx hb dX9_fewest_66 (lv_at hl 5 rfl) ?_
              obtain ⟨r68, h68, hf⟩ := ob_some hf
              refine u_calli0 (u_runV (rest := []) S (c_X1_isLeaner l D cy ad σ v6_35 v5_35 r68 h68 aw ac H.size) iX1_isLeaner vX1_isLeaner q431 ⟨Nat.le_of_ble_eq_true rfl, Nat.le_of_ble_eq_true rfl⟩ hK hP hD (q0 := 2) rfl rfl rfl hl.1 (Nat.le_of_ble_eq_true rfl) dX9_fewest_68 ⟨Nat.le_refl _, Nat.le_refl _⟩) hD hS hA (fun H locs hP hD hS => ?_)
              refine lv_if_eq (tgt := 78) hx hb dX9_fewest_71 (by decide) (fun c71 => ?_) (fun c71 => ?_)
              · have hf := ifp c71 hf
                refine lv_iinc (v := (v6_35 + (1 : Int32))) (lv' := [(6, .int (v6_35 + (1 : Int32))), (0, .ref (ad 0)), (1, .int v1), (2, .int v2), (3, .int v3_35), (4, .int v4_35), (5, .int v5_35)]) hx hb dX9_fewest_78 hl (k := 6) rfl rfl (by decide) rfl (fun ls hl => ?_)
                refine lv_goto (tgt := 35) hx hb dX9_fewest_81 (by decide) ?_
                exact ih35 v3_35 v4_35 v5_35 (v6_35 + (1 : Int32)) H locs ls hf hP hD hS (lv_sub hl [1, 2, 3, 4, 5, 6, 0] rfl)
              · have hf := ifn c71 hf
                refine lv_iload hx hb dX9_fewest_74 (lv_at hl 6 rfl) ?_
                refine lv_istore (lv' := [(5, .int v6_35), (0, .ref (ad 0)), (1, .int v1), (2, .int v2), (3, .int v3_35), (4, .int v4_35), (6, .int v6_35)]) hx hb dX9_fewest_76 hl (by decide) rfl (fun ls hl => ?_)
                refine lv_iinc (v := (v6_35 + (1 : Int32))) (lv' := [(6, .int (v6_35 + (1 : Int32))), (5, .int v6_35), (0, .ref (ad 0)), (1, .int v1), (2, .int v2), (3, .int v3_35), (4, .int v4_35)]) hx hb dX9_fewest_78 hl (k := 6) rfl rfl (by decide) rfl (fun ls hl => ?_)
                refine lv_goto (tgt := 35) hx hb dX9_fewest_81 (by decide) ?_
                exact ih35 v3_35 v4_35 v6_35 (v6_35 + (1 : Int32)) H locs ls hf hP hD hS (lv_sub hl [2, 3, 4, 5, 6, 1, 0] rfl)
    exact L35 KF r16 r24 (-1 : Int32) (1 : Int32) H locs ls hf hP hD hS (lv_sub hl [4, 5, 6, 3, 2, 1, 0] rfl)
  · have hf := ifp c5 hf
    refine lv_bipush (v := (-2 : Int32)) hx hb dX9_fewest_8 (by decide) ?_
    exact u_iretr hx hb hr hlocks rfl hP hD hS dX9_fewest_10 hf (fun _ => rfl)
theorem iX9_hoist : YI yX9_hoist cX9_hoist 7 (some .int) 4 := ⟨q445, q1, by decide, by decide, by decide +kernel⟩
theorem vX9_hoist : YV yX9_hoist := ⟨q443, q444⟩
set_option maxRecDepth 100000 in
set_option maxHeartbeats 4000000 in
theorem c_X9_hoist (l : Launch) (D : va_G) (cy : Nat → ClassId) (ad : Nat → Nat) (σ : St) (v1 : Int32) (v2 : Int32) (v3 : Int32) (v4 : Int32) (q : Int32 × St) (hf : fX9_hoist σ v1 v2 v3 v4 = some q) : Ci l D cy (wX cy ad) yX9_hoist cX9_hoist 7 .int 4 92 [.ref (ad 0), .int v1, .int v2, .int v3, .int v4] σ q.1 q.2 0 0 := by
  refine Ci.enter (by decide) (Nat.le_of_ble_eq_true rfl) ?_
  intro aw ac p e s m below meth c A H locs S hr hlocks hA hK hP hD hS ls hl
  have hx := S.1
  have hb := S.2.1
  have hl : lv_has ls 7 [(0, .ref (ad 0)), (1, .int v1), (2, .int v2), (3, .int v3), (4, .int v4)] := hl
  unfold fX9_hoist at hf
  refine lv_iload_n hx hb dX9_hoist_0 rfl (lv_at hl 1 rfl) ?_
  refine lv_iconst (v := (0 : Int32)) hx hb dX9_hoist_1 (by decide) ?_
  refine lv_aload_n hx hb dX9_hoist_2 rfl (lv_at hl 0 rfl) ?_
  refine gX_x_crew S hK hP q294 dX9_hoist_3 ?_
  obtain ⟨r6, h6, hf⟩ := ob_some hf
  refine u_calli0 (u_runV (rest := [.int (0 : Int32), .int v1]) S (c_X1_everyone l D cy ad σ r6 h6 aw ac H.size) iX1_everyone vX1_everyone q395 ⟨Nat.le_of_ble_eq_true rfl, Nat.le_of_ble_eq_true rfl⟩ hK hP hD (q0 := 2) rfl rfl rfl hl.1 (Nat.le_of_ble_eq_true rfl) dX9_hoist_6 ⟨Nat.le_refl _, Nat.le_refl _⟩) hD hS hA (fun H locs hP hD hS => ?_)
  obtain ⟨r9, h9, hf⟩ := ob_some hf
  refine p_calli0 (u_runS (rest := []) S (c_X9_within l D cy σ v1 (0 : Int32) r6 r9 h9 aw ac H.size) iX9_within q326 q325 ⟨Nat.le_of_ble_eq_true rfl, Nat.le_of_ble_eq_true rfl⟩ hK wN_P (wN_D (A := fun _ => True)) rfl hl.1 (Nat.le_of_ble_eq_true rfl) dX9_hoist_9 ⟨Nat.le_refl _, Nat.le_refl _⟩) hP hS hA (fun H locs hP hS => ?_)
  refine lv_if_eq (tgt := 45) hx hb dX9_hoist_12 (by decide) (fun c12 => ?_) (fun c12 => ?_)
  · have hf := ifp c12 hf
    refine lv_iconst (v := (0 : Int32)) hx hb dX9_hoist_45 (by decide) ?_
    refine lv_istore (lv' := [(5, .int (0 : Int32)), (0, .ref (ad 0)), (1, .int v1), (2, .int v2), (3, .int v3), (4, .int v4)]) hx hb dX9_hoist_46 hl (by decide) rfl (fun ls hl => ?_)
    refine lv_iload hx hb dX9_hoist_48 (lv_at hl 0 rfl) ?_
    refine lv_if_ne (tgt := 56) hx hb dX9_hoist_50 (by decide) (fun c_ => absurd c_ (by decide)) (fun _ => ?_)
    refine lv_bipush (v := (-2 : Int32)) hx hb dX9_hoist_53 (by decide) ?_
    exact u_iretw hx hb hr hlocks rfl hP hD hS dX9_hoist_55 hf (fun _ => rfl)
  · have hf := ifn c12 hf
    refine lv_iload_n hx hb dX9_hoist_15 rfl (lv_at hl 2 rfl) ?_
    refine lv_iconst (v := (-1 : Int32)) hx hb dX9_hoist_16 (by decide) ?_
    refine lv_aload_n hx hb dX9_hoist_17 rfl (lv_at hl 0 rfl) ?_
    refine gX_x_ropes S hK hP q295 dX9_hoist_18 ?_
    refine gX_ropes_size S hK hP q86 dX9_hoist_21 ?_
    refine lv_iconst (v := (1 : Int32)) hx hb dX9_hoist_24 (by decide) ?_
    refine lv_isub hx hb dX9_hoist_25 ?_
    obtain ⟨r26, h26, hf⟩ := ob_some hf
    refine p_calli0 (u_runS (rest := []) S (c_X9_within l D cy σ v2 (-1 : Int32) ((gi σ 7) - (1 : Int32)) r26 h26 aw ac H.size) iX9_within q326 q325 ⟨Nat.le_of_ble_eq_true rfl, Nat.le_of_ble_eq_true rfl⟩ hK wN_P (wN_D (A := fun _ => True)) rfl hl.1 (Nat.le_of_ble_eq_true rfl) dX9_hoist_26 ⟨Nat.le_refl _, Nat.le_refl _⟩) hP hS hA (fun H locs hP hS => ?_)
    refine lv_if_eq (tgt := 45) hx hb dX9_hoist_29 (by decide) (fun c29 => ?_) (fun c29 => ?_)
    · have hf := ifp c29 hf
      refine lv_iconst (v := (0 : Int32)) hx hb dX9_hoist_45 (by decide) ?_
      refine lv_istore (lv' := [(5, .int (0 : Int32)), (0, .ref (ad 0)), (1, .int v1), (2, .int v2), (3, .int v3), (4, .int v4)]) hx hb dX9_hoist_46 hl (by decide) rfl (fun ls hl => ?_)
      refine lv_iload hx hb dX9_hoist_48 (lv_at hl 0 rfl) ?_
      refine lv_if_ne (tgt := 56) hx hb dX9_hoist_50 (by decide) (fun c_ => absurd c_ (by decide)) (fun _ => ?_)
      refine lv_bipush (v := (-2 : Int32)) hx hb dX9_hoist_53 (by decide) ?_
      exact u_iretw hx hb hr hlocks rfl hP hD hS dX9_hoist_55 hf (fun _ => rfl)
    · have hf := ifn c29 hf
      refine lv_iload_n hx hb dX9_hoist_32 rfl (lv_at hl 3 rfl) ?_
      refine lv_iload hx hb dX9_hoist_33 (lv_at hl 4 rfl) ?_
      obtain ⟨r35, h35, hf⟩ := ob_some hf
      refine p_calli0 (u_runS (rest := []) S (c_X9_isLift l D cy σ v3 v4 r35 h35 aw ac H.size) iX9_isLift q400 q399 ⟨Nat.le_of_ble_eq_true rfl, Nat.le_of_ble_eq_true rfl⟩ hK wN_P (wN_D (A := fun _ => True)) rfl hl.1 (Nat.le_of_ble_eq_true rfl) dX9_hoist_35 ⟨Nat.le_refl _, Nat.le_refl _⟩) hP hS hA (fun H locs hP hS => ?_)
      refine lv_if_eq (tgt := 45) hx hb dX9_hoist_38 (by decide) (fun c38 => ?_) (fun c38 => ?_)
      · have hf := ifp c38 hf
        refine lv_iconst (v := (0 : Int32)) hx hb dX9_hoist_45 (by decide) ?_
        refine lv_istore (lv' := [(5, .int (0 : Int32)), (0, .ref (ad 0)), (1, .int v1), (2, .int v2), (3, .int v3), (4, .int v4)]) hx hb dX9_hoist_46 hl (by decide) rfl (fun ls hl => ?_)
        refine lv_iload hx hb dX9_hoist_48 (lv_at hl 0 rfl) ?_
        refine lv_if_ne (tgt := 56) hx hb dX9_hoist_50 (by decide) (fun c_ => absurd c_ (by decide)) (fun _ => ?_)
        refine lv_bipush (v := (-2 : Int32)) hx hb dX9_hoist_53 (by decide) ?_
        exact u_iretw hx hb hr hlocks rfl hP hD hS dX9_hoist_55 hf (fun _ => rfl)
      · have hf := ifn c38 hf
        refine lv_iconst (v := (1 : Int32)) hx hb dX9_hoist_41 (by decide) ?_
        refine lv_goto (tgt := 46) hx hb dX9_hoist_42 (by decide) ?_
        refine lv_istore (lv' := [(5, .int (1 : Int32)), (0, .ref (ad 0)), (1, .int v1), (2, .int v2), (3, .int v3), (4, .int v4)]) hx hb dX9_hoist_46 hl (by decide) rfl (fun ls hl => ?_)
        refine lv_iload hx hb dX9_hoist_48 (lv_at hl 0 rfl) ?_
        refine lv_if_ne (tgt := 56) hx hb dX9_hoist_50 (by decide) (fun _ => ?_) (fun c_ => absurd c_ (by decide))
        refine lv_aload_n hx hb dX9_hoist_56 rfl (lv_at hl 1 rfl) ?_
        refine gX_x_drum S hK hP q293 dX9_hoist_57 ?_
        refine lv_iload hx hb dX9_hoist_60 (lv_at hl 5 rfl) ?_
        obtain ⟨r62, h62, hf⟩ := ob_some hf
        refine u_calli0 (u_runV (rest := []) S (c_X2_stepsFor l D cy ad σ v4 r62 h62 aw ac H.size) iX2_stepsFor vX2_stepsFor q355 ⟨Nat.le_of_ble_eq_true rfl, Nat.le_of_ble_eq_true rfl⟩ hK hP hD (q0 := 1) rfl rfl rfl hl.1 (Nat.le_of_ble_eq_true rfl) dX9_hoist_62 ⟨Nat.le_refl _, Nat.le_refl _⟩) hD hS hA (fun H locs hP hD hS => ?_)
        refine lv_istore (lv' := [(6, .int r62), (5, .int (1 : Int32)), (0, .ref (ad 0)), (1, .int v1), (2, .int v2), (3, .int v3), (4, .int v4)]) hx hb dX9_hoist_65 hl (by decide) rfl (fun ls hl => ?_)
        refine lv_aload_n hx hb dX9_hoist_67 rfl (lv_at hl 2 rfl) ?_
        refine lv_iload_n hx hb dX9_hoist_68 rfl (lv_at hl 3 rfl) ?_
        refine lv_iload_n hx hb dX9_hoist_69 rfl (lv_at hl 5 rfl) ?_
        refine lv_iload hx hb dX9_hoist_70 (lv_at hl 0 rfl) ?_
        obtain ⟨r72, h72, hf⟩ := ob_some hf
        refine u_calli0 (u_runV (rest := []) S (c_X9_ability l D cy ad σ v1 v3 r62 r72 h72 aw ac H.size) iX9_ability vX9_ability q406 ⟨Nat.le_of_ble_eq_true rfl, Nat.le_of_ble_eq_true rfl⟩ hK hP hD (q0 := 0) rfl rfl rfl hl.1 (Nat.le_of_ble_eq_true rfl) dX9_hoist_72 ⟨Nat.le_refl _, Nat.le_refl _⟩) hD hS hA (fun H locs hP hD hS => ?_)
        refine lv_iconst (v := (1 : Int32)) hx hb dX9_hoist_75 (by decide) ?_
        refine lv_icmp_eq (tgt := 82) hx hb dX9_hoist_76 (by decide) (fun c76 => ?_) (fun c76 => ?_)
        · have hf := ifp c76 hf
          refine lv_iload_n hx hb dX9_hoist_82 rfl (lv_at hl 4 rfl) ?_
          refine lv_iconst (v := (-1 : Int32)) hx hb dX9_hoist_83 (by decide) ?_
          refine lv_icmp_eq (tgt := 117) hx hb dX9_hoist_84 (by decide) (fun c84 => ?_) (fun c84 => ?_)
          · have hf := ifp c84 hf
            refine lv_aload_n hx hb dX9_hoist_117 rfl (lv_at hl 2 rfl) ?_
            refine gX_x_crew S hK hP q294 dX9_hoist_118 ?_
            refine lv_iload_n hx hb dX9_hoist_121 rfl (lv_at hl 3 rfl) ?_
            refine lv_iload_n hx hb dX9_hoist_122 rfl (lv_at hl 5 rfl) ?_
            refine lv_iload hx hb dX9_hoist_123 (lv_at hl 0 rfl) ?_
            obtain ⟨r125, h125, hf⟩ := ob_some hf
            refine p_calli0 (u_runS (rest := [.int v1, .ref (ad 2)]) S (c_X9_costOf l D cy σ v3 r62 r125 h125 aw ac H.size) iX9_costOf q421 q420 ⟨Nat.le_of_ble_eq_true rfl, Nat.le_of_ble_eq_true rfl⟩ hK wN_P (wN_D (A := fun _ => True)) rfl hl.1 (Nat.le_of_ble_eq_true rfl) dX9_hoist_125 ⟨Nat.le_refl _, Nat.le_refl _⟩) hP hS hA (fun H locs hP hS => ?_)
            obtain ⟨q128, h128, hf⟩ := ob_some hf
            refine u_callv0 (u_runV (rest := []) S (c_X1_spend l D cy ad σ v1 r125 q128 h128 aw ac H.size) iX1_spend vX1_spend q465 ⟨Nat.le_of_ble_eq_true rfl, Nat.le_of_ble_eq_true rfl⟩ hK hP hD (q0 := 2) rfl rfl rfl hl.1 (Nat.le_of_ble_eq_true rfl) dX9_hoist_128 ⟨Nat.le_refl _, Nat.le_refl _⟩) hD hS hA (fun H locs hP hD hS => ?_)
            refine lv_iload hx hb dX9_hoist_131 (lv_at hl 0 rfl) ?_
            exact u_iretw hx hb hr hlocks rfl hP hD hS dX9_hoist_133 hf (fun _ => rfl)
          · have hf := ifn c84 hf
            refine lv_aload_n hx hb dX9_hoist_87 rfl (lv_at hl 2 rfl) ?_
            refine gX_x_ropes S hK hP q295 dX9_hoist_88 ?_
            refine gX_ropes_parted S hK hP q84 dX9_hoist_91 ?_
            refine lv_iload_n hx hb dX9_hoist_94 rfl (lv_at hl 4 rfl) ?_
            obtain ⟨h95, hf⟩ := if_in hf
            refine lX_15 S hK hP h95 dX9_hoist_95 ?_
            refine lv_if_eq (tgt := 102) hx hb dX9_hoist_96 (by decide) (fun c96 => ?_) (fun c96 => ?_)
            · have hf := ifp c96 hf
              refine lv_aload_n hx hb dX9_hoist_102 rfl (lv_at hl 2 rfl) ?_
              refine gX_x_ropes S hK hP q295 dX9_hoist_103 ?_
              refine lv_iload_n hx hb dX9_hoist_106 rfl (lv_at hl 4 rfl) ?_
              refine lv_iload_n hx hb dX9_hoist_107 rfl (lv_at hl 5 rfl) ?_
              obtain ⟨q108, h108, hf⟩ := ob_some hf
              refine u_calli0 (u_runV (rest := []) S (c_X5_survives l D cy ad σ v2 v3 q108 h108 aw ac H.size) iX5_survives vX5_survives q446 ⟨Nat.le_of_ble_eq_true rfl, Nat.le_of_ble_eq_true rfl⟩ hK hP hD (q0 := 3) rfl rfl rfl hl.1 (Nat.le_of_ble_eq_true rfl) dX9_hoist_108 ⟨Nat.le_refl _, Nat.le_refl _⟩) hD hS hA (fun H locs hP hD hS => ?_)
              refine lv_if_ne (tgt := 117) hx hb dX9_hoist_111 (by decide) (fun c111 => ?_) (fun c111 => ?_)
              · have hf := ifn c111 hf
                refine lv_aload_n hx hb dX9_hoist_117 rfl (lv_at hl 2 rfl) ?_
                refine gX_x_crew S hK hP q294 dX9_hoist_118 ?_
                refine lv_iload_n hx hb dX9_hoist_121 rfl (lv_at hl 3 rfl) ?_
                refine lv_iload_n hx hb dX9_hoist_122 rfl (lv_at hl 5 rfl) ?_
                refine lv_iload hx hb dX9_hoist_123 (lv_at hl 0 rfl) ?_
                obtain ⟨r125, h125, hf⟩ := ob_some hf
                refine p_calli0 (u_runS (rest := [.int v1, .ref (ad 2)]) S (c_X9_costOf l D cy q108.2 v3 r62 r125 h125 aw ac H.size) iX9_costOf q421 q420 ⟨Nat.le_of_ble_eq_true rfl, Nat.le_of_ble_eq_true rfl⟩ hK wN_P (wN_D (A := fun _ => True)) rfl hl.1 (Nat.le_of_ble_eq_true rfl) dX9_hoist_125 ⟨Nat.le_refl _, Nat.le_refl _⟩) hP hS hA (fun H locs hP hS => ?_)
                obtain ⟨q128, h128, hf⟩ := ob_some hf
                refine u_callv0 (u_runV (rest := []) S (c_X1_spend l D cy ad q108.2 v1 r125 q128 h128 aw ac H.size) iX1_spend vX1_spend q465 ⟨Nat.le_of_ble_eq_true rfl, Nat.le_of_ble_eq_true rfl⟩ hK hP hD (q0 := 2) rfl rfl rfl hl.1 (Nat.le_of_ble_eq_true rfl) dX9_hoist_128 ⟨Nat.le_refl _, Nat.le_refl _⟩) hD hS hA (fun H locs hP hD hS => ?_)
                refine lv_iload hx hb dX9_hoist_131 (lv_at hl 0 rfl) ?_
                exact u_iretw hx hb hr hlocks rfl hP hD hS dX9_hoist_133 hf (fun _ => rfl)
              · have hf := ifp c111 hf
                refine lv_bipush (v := (-10 : Int32)) hx hb dX9_hoist_114 (by decide) ?_
                exact u_iretw hx hb hr hlocks rfl hP hD hS dX9_hoist_116 hf (fun _ => rfl)
            · have hf := ifn c96 hf
              refine lv_bipush (v := (-3 : Int32)) hx hb dX9_hoist_99 (by decide) ?_
              exact u_iretw hx hb hr hlocks rfl hP hD hS dX9_hoist_101 hf (fun _ => rfl)
        · have hf := ifn c76 hf
          refine lv_bipush (v := (-3 : Int32)) hx hb dX9_hoist_79 (by decide) ?_
          exact u_iretw hx hb hr hlocks rfl hP hD hS dX9_hoist_81 hf (fun _ => rfl)
theorem iX9_isStrength : YI yX9_isStrength cX9_isStrength 1 (some .boolean) 1 := ⟨q475, q1, by decide, by decide, by decide +kernel⟩
set_option maxRecDepth 100000 in
set_option maxHeartbeats 4000000 in
theorem c_X9_isStrength (l : Launch) (D : va_G) (cy : Nat → ClassId) (σ : St) (v0 : Int32) (r : Int32) (hf : fX9_isStrength v0 = some r) : Ci l D cy wN yX9_isStrength cX9_isStrength 1 .boolean 1 22 [.int v0] σ r σ 0 0 := by
  refine Ci.enter (by decide) (Nat.le_of_ble_eq_true rfl) ?_
  intro aw ac p e s m below meth c A H locs S hr hlocks hA hK hP hD hS ls hl
  have hx := S.1
  have hb := S.2.1
  have hl : lv_has ls 1 [(0, .int v0)] := hl
  unfold fX9_isStrength at hf
  refine lv_iload_n hx hb dX9_isStrength_0 rfl (lv_at hl 0 rfl) ?_
  refine lv_bipush (v := (100 : Int32)) hx hb dX9_isStrength_1 (by decide) ?_
  refine lv_ldc hx hb S.2.2.2.1 (S.2.2.2.2 _ (List.mem_cons_of_mem _ q405)) dX9_isStrength_3 ?_
  obtain ⟨r5, h5, hf⟩ := ob_some hf
  refine p_calli0 (u_runS (rest := []) S (c_X9_within l D cy σ v0 (100 : Int32) (50000 : Int32) r5 h5 aw ac H.size) iX9_within q326 q325 ⟨Nat.le_of_ble_eq_true rfl, Nat.le_of_ble_eq_true rfl⟩ hK wN_P (wN_D (A := fun _ => True)) rfl hl.1 (Nat.le_of_ble_eq_true rfl) dX9_isStrength_5 ⟨Nat.le_refl _, Nat.le_refl _⟩) hP hS hA (fun H locs hP hS => ?_)
  obtain ⟨n8, hf⟩ := ifs hf
  exact u_iretr hx hb hr hlocks n8 hP hD hS dX9_isStrength_8 hf (fun _ => rfl)
theorem iX9_rope : YI yX9_rope cX9_rope 2 (some .int) 1 := ⟨q472, q1, by decide, by decide, by decide +kernel⟩
theorem vX9_rope : YV yX9_rope := ⟨q470, q471⟩
set_option maxRecDepth 100000 in
set_option maxHeartbeats 4000000 in
theorem c_X9_rope (l : Launch) (D : va_G) (cy : Nat → ClassId) (ad : Nat → Nat) (σ : St) (v1 : Int32) (q : Int32 × St) (hf : fX9_rope σ v1 = some q) : Ci l D cy (wX cy ad) yX9_rope cX9_rope 2 .int 2 42 [.ref (ad 0), .int v1] σ q.1 q.2 0 0 := by
  refine Ci.enter (by decide) (Nat.le_of_ble_eq_true rfl) ?_
  intro aw ac p e s m below meth c A H locs S hr hlocks hA hK hP hD hS ls hl
  have hx := S.1
  have hb := S.2.1
  have hl : lv_has ls 2 [(0, .ref (ad 0)), (1, .int v1)] := hl
  unfold fX9_rope at hf
  refine lv_iload_n hx hb dX9_rope_0 rfl (lv_at hl 1 rfl) ?_
  obtain ⟨r1, h1, hf⟩ := ob_some hf
  refine p_calli0 (u_runS (rest := []) S (c_X9_isStrength l D cy σ v1 r1 h1 aw ac H.size) iX9_isStrength q474 q473 ⟨Nat.le_of_ble_eq_true rfl, Nat.le_of_ble_eq_true rfl⟩ hK wN_P (wN_D (A := fun _ => True)) rfl hl.1 (Nat.le_of_ble_eq_true rfl) dX9_rope_1 ⟨Nat.le_refl _, Nat.le_refl _⟩) hP hS hA (fun H locs hP hS => ?_)
  refine lv_if_eq (tgt := 18) hx hb dX9_rope_4 (by decide) (fun c4 => ?_) (fun c4 => ?_)
  · have hf := ifp c4 hf
    refine lv_bipush (v := (-2 : Int32)) hx hb dX9_rope_18 (by decide) ?_
    exact u_iretw hx hb hr hlocks rfl hP hD hS dX9_rope_20 hf (fun _ => rfl)
  · have hf := ifn c4 hf
    refine lv_aload_n hx hb dX9_rope_7 rfl (lv_at hl 0 rfl) ?_
    refine gX_x_ropes S hK hP q295 dX9_rope_8 ?_
    refine lv_iload_n hx hb dX9_rope_11 rfl (lv_at hl 1 rfl) ?_
    obtain ⟨q12, h12, hf⟩ := ob_some hf
    refine u_calli0 (u_runV (rest := []) S (c_X5_bring l D cy ad σ v1 q12 h12 aw ac H.size) iX5_bring vX5_bring q476 ⟨Nat.le_of_ble_eq_true rfl, Nat.le_of_ble_eq_true rfl⟩ hK hP hD (q0 := 3) rfl rfl rfl hl.1 (Nat.le_of_ble_eq_true rfl) dX9_rope_12 ⟨Nat.le_refl _, Nat.le_refl _⟩) hD hS hA (fun H locs hP hD hS => ?_)
    refine lv_goto (tgt := 20) hx hb dX9_rope_15 (by decide) ?_
    exact u_iretw hx hb hr hlocks rfl hP hD hS dX9_rope_20 hf (fun _ => rfl)
theorem iX9_wet : YI yX9_wet cX9_wet 3 (some .int) 2 := ⟨q483, q1, by decide, by decide, by decide +kernel⟩
theorem vX9_wet : YV yX9_wet := ⟨q481, q482⟩
set_option maxRecDepth 100000 in
set_option maxHeartbeats 4000000 in
theorem c_X9_wet (l : Launch) (D : va_G) (cy : Nat → ClassId) (ad : Nat → Nat) (σ : St) (v1 : Int32) (v2 : Int32) (q : Int32 × St) (hf : fX9_wet σ v1 v2 = some q) : Ci l D cy (wX cy ad) yX9_wet cX9_wet 3 .int 1 22 [.ref (ad 0), .int v1, .int v2] σ q.1 q.2 0 0 := by
  refine Ci.enter (by decide) (Nat.le_of_ble_eq_true rfl) ?_
  intro aw ac p e s m below meth c A H locs S hr hlocks hA hK hP hD hS ls hl
  have hx := S.1
  have hb := S.2.1
  have hl : lv_has ls 3 [(0, .ref (ad 0)), (1, .int v1), (2, .int v2)] := hl
  unfold fX9_wet at hf
  refine lv_iload_n hx hb dX9_wet_0 rfl (lv_at hl 1 rfl) ?_
  refine lv_iconst (v := (0 : Int32)) hx hb dX9_wet_1 (by decide) ?_
  refine lv_aload_n hx hb dX9_wet_2 rfl (lv_at hl 0 rfl) ?_
  refine gX_x_ropes S hK hP q295 dX9_wet_3 ?_
  refine gX_ropes_size S hK hP q86 dX9_wet_6 ?_
  refine lv_iconst (v := (1 : Int32)) hx hb dX9_wet_9 (by decide) ?_
  refine lv_isub hx hb dX9_wet_10 ?_
  obtain ⟨r11, h11, hf⟩ := ob_some hf
  refine p_calli0 (u_runS (rest := []) S (c_X9_within l D cy σ v1 (0 : Int32) ((gi σ 7) - (1 : Int32)) r11 h11 aw ac H.size) iX9_within q326 q325 ⟨Nat.le_of_ble_eq_true rfl, Nat.le_of_ble_eq_true rfl⟩ hK wN_P (wN_D (A := fun _ => True)) rfl hl.1 (Nat.le_of_ble_eq_true rfl) dX9_wet_11 ⟨Nat.le_refl _, Nat.le_refl _⟩) hP hS hA (fun H locs hP hS => ?_)
  refine lv_if_ne (tgt := 20) hx hb dX9_wet_14 (by decide) (fun c14 => ?_) (fun c14 => ?_)
  · have hf := ifn c14 hf
    refine lv_aload_n hx hb dX9_wet_20 rfl (lv_at hl 0 rfl) ?_
    refine gX_x_ropes S hK hP q295 dX9_wet_21 ?_
    refine gX_ropes_soaked S hK hP q82 dX9_wet_24 ?_
    refine lv_iload_n hx hb dX9_wet_27 rfl (lv_at hl 1 rfl) ?_
    obtain ⟨h28, hf⟩ := if_in hf
    refine lX_14 S hK hP h28 dX9_wet_28 ?_
    refine lv_iload_n hx hb dX9_wet_29 rfl (lv_at hl 2 rfl) ?_
    refine lv_icmp_ne (tgt := 36) hx hb dX9_wet_30 (by decide) (fun c30 => ?_) (fun c30 => ?_)
    · have hf := ifn c30 hf
      refine lv_aload_n hx hb dX9_wet_36 rfl (lv_at hl 0 rfl) ?_
      refine gX_x_ropes S hK hP q295 dX9_wet_37 ?_
      refine gX_ropes_soaked S hK hP q82 dX9_wet_40 ?_
      refine lv_iload_n hx hb dX9_wet_43 rfl (lv_at hl 1 rfl) ?_
      refine lv_iload_n hx hb dX9_wet_44 rfl (lv_at hl 2 rfl) ?_
      obtain ⟨h45, hf⟩ := if_in hf
      refine tX_14 S hK hP hD hS h45 dX9_wet_45 (fun H locs hP hD hS => ?_)
      refine lv_iconst (v := (1 : Int32)) hx hb dX9_wet_46 (by decide) ?_
      exact u_iretw hx hb hr hlocks rfl hP hD hS dX9_wet_47 hf (fun _ => rfl)
    · have hf := ifp c30 hf
      refine lv_bipush (v := (-3 : Int32)) hx hb dX9_wet_33 (by decide) ?_
      exact u_iretw hx hb hr hlocks rfl hP hD hS dX9_wet_35 hf (fun _ => rfl)
  · have hf := ifp c14 hf
    refine lv_bipush (v := (-2 : Int32)) hx hb dX9_wet_17 (by decide) ?_
    exact u_iretw hx hb hr hlocks rfl hP hD hS dX9_wet_19 hf (fun _ => rfl)
