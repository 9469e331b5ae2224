theorem iX1_recover : YI yX1_recover cX1_recover 3 none 1 := ⟨q387, q3, by decide, by decide, by decide +kernel⟩
theorem vX1_recover : YV yX1_recover := ⟨q385, q386⟩
set_option maxRecDepth 100000 in
set_option maxHeartbeats 4000000 in
theorem c_X1_recover (l : Launch) (D : va_G) (cy : Nat → ClassId) (ad : Nat → Nat) (σ : St) (v1 : Int32) (q : St) (hf : fX1_recover σ v1 = some q) : Cv l D cy (wX cy ad) yX1_recover cX1_recover 3 1 21 [.ref (ad 2), .int v1] σ q 0 0 := by
  refine Cv.enter (by decide) (Nat.le_of_ble_eq_true rfl) ?_
  intro aw ac p e s m below meth c A H locs S hr hlocks hA hK hP hD hS ls hl
  have hx := S.1
  have hb := S.2.1
  have hl : lv_has ls 3 [(0, .ref (ad 2)), (1, .int v1)] := hl
  unfold fX1_recover at hf
  refine lv_iconst (v := (0 : Int32)) hx hb dX1_recover_0 (by decide) ?_
  refine lv_istore_n (lv' := [(2, .int (0 : Int32)), (0, .ref (ad 2)), (1, .int v1)]) hx hb dX1_recover_1 rfl hl (by decide) rfl (fun ls hl => ?_)
  have L2 : ∀ (n2 : Nat) (v2_2 : Int32) (σ2 : St) (H : Heap) (locs : List Loc) (ls : Array Slot), fX1_recover_2 (fX1_recover_2_k v1) v1 n2 σ2 v2_2 = some q → va_P D vwCl (wX cy ad aw ac σ2) H → va_D A (wX cy ad aw ac σ2) → va_S A s.heap H locs → lv_has ls 3 [(0, .ref (ad 2)), (1, .int v1), (2, .int v2_2)] → W p l e (Rm 1 21 0 0) s m [.ref (ad 2), .int v1].toArray below meth c H locs 0 0 (Zv D (wX cy ad) A q aw ac below [.ref (ad 2), .int v1].toArray s 0 0) (F0 m 2 ls []) := by
    intro n2
    induction n2 with
    | zero =>
      intro v2_2 σ2 H locs ls hf
      cases hf
    | succ n2 ih2 =>
      intro v2_2 σ2 H locs ls hf hP hD hS hl
      rw [fX1_recover_2] at hf
      refine lv_iload_n hx hb dX1_recover_2 rfl (lv_at hl 2 rfl) ?_
      refine lv_aload_n hx hb dX1_recover_3 rfl (lv_at hl 0 rfl) ?_
      refine gX_crew_size S hK hP q63 dX1_recover_4 ?_
      refine lv_icmp_ge (tgt := 36) hx hb dX1_recover_7 (by decide) (fun c7 => ?_) (fun c7 => ?_)
      · have hf := ifp c7 hf
        have hl := lv_sub (l' := [(0, .ref (ad 2)), (1, .int v1), (2, .int v2_2)]) hl [0, 1, 2] rfl
        unfold fX1_recover_2_k at hf
        exact u_vretw hx hb hr hlocks hP hD hS dX1_recover_36 hf (fun _ => rfl)
      · have hf := ifn c7 hf
        refine lv_aload_n hx hb dX1_recover_10 rfl (lv_at hl 0 rfl) ?_
        refine gX_crew_breaths S hK hP q61 dX1_recover_11 ?_
        refine lv_iload_n hx hb dX1_recover_14 rfl (lv_at hl 2 rfl) ?_
        refine lv_sipush (v := (5000 : Int32)) hx hb dX1_recover_15 (by decide) ?_
        refine lv_aload_n hx hb dX1_recover_18 rfl (lv_at hl 0 rfl) ?_
        refine gX_crew_breaths S hK hP q61 dX1_recover_19 ?_
        refine lv_iload_n hx hb dX1_recover_22 rfl (lv_at hl 2 rfl) ?_
        obtain ⟨h23, hf⟩ := if_in hf
        refine lX_11 S hK hP h23 dX1_recover_23 ?_
        refine lv_iload_n hx hb dX1_recover_24 rfl (lv_at hl 1 rfl) ?_
        refine lv_iadd hx hb dX1_recover_25 ?_
        refine va_mmin hx hb (S.2.2.1.trans hl.1.symm) S.2.2.2.1 (S.2.2.2.2 _ (List.mem_cons_of_mem _ q388)) (S.2.2.2.2 _ (List.mem_cons_of_mem _ q389)) (S.2.2.2.2 _ (List.mem_cons_of_mem _ q13)) (S.2.2.2.2 _ (List.mem_cons_of_mem _ q390)) (Nat.le_of_ble_eq_true rfl) (Nat.le_of_ble_eq_true rfl) (Nat.zero_le _) (Nat.zero_le _) dX1_recover_26 ?_
        obtain ⟨h29, hf⟩ := if_in hf
        refine tX_11 S hK hP hD hS h29 dX1_recover_29 (fun H locs hP hD hS => ?_)
        refine lv_iinc (v := (v2_2 + (1 : Int32))) (lv' := [(2, .int (v2_2 + (1 : Int32))), (0, .ref (ad 2)), (1, .int v1)]) hx hb dX1_recover_30 hl (k := 2) rfl rfl (by decide) rfl (fun ls hl => ?_)
        refine lv_goto (tgt := 2) hx hb dX1_recover_33 (by decide) ?_
        exact ih2 (v2_2 + (1 : Int32)) (sa σ2 11 v2_2.toNatClampNeg (if ((ga σ2 11 v2_2.toNatClampNeg) + v1) < (5000 : Int32) then ((ga σ2 11 v2_2.toNatClampNeg) + v1) else (5000 : Int32))) H locs ls hf hP hD hS (lv_sub hl [1, 2, 0] rfl)
  exact L2 KF (0 : Int32) σ H locs ls hf hP hD hS (lv_sub hl [1, 2, 0] rfl)
theorem iX1_mixInto : YI yX1_mixInto cX1_mixInto 6 (some .long) 1 := ⟨q905, q3, by decide, by decide, by decide +kernel⟩
theorem vX1_mixInto : YV yX1_mixInto := ⟨q903, q904⟩
set_option maxRecDepth 100000 in
set_option maxHeartbeats 4000000 in
theorem c_X1_mixInto (l : Launch) (D : va_G) (cy : Nat → ClassId) (ad : Nat → Nat) (σ : St) (v1 : Int64) (r : Int64) (hf : fX1_mixInto σ v1 = some r) : Cl l D cy (wX cy ad) yX1_mixInto cX1_mixInto 6 0 0 [.ref (ad 2), .long v1] σ r σ 0 0 := by
  refine Cl.enter (by decide) (Nat.le_of_ble_eq_true rfl) ?_
  intro aw ac p e s m below meth c A H locs S hr hlocks hA hK hP hD hS ls hl
  have hx := S.1
  have hb := S.2.1
  have hl : lv_has ls 6 [(0, .ref (ad 2)), (1, .long v1)] := hl
  unfold fX1_mixInto at hf
  refine lv_lload_n hx hb dX1_mixInto_0 rfl (lv_at hl 1 rfl) ?_
  refine lv_lstore_n (lv' := [(3, .long v1), (0, .ref (ad 2)), (1, .long v1)]) hx hb dX1_mixInto_1 rfl hl (by decide) rfl (fun ls hl => ?_)
  refine lv_iconst (v := (0 : Int32)) hx hb dX1_mixInto_2 (by decide) ?_
  refine lv_istore (lv' := [(5, .int (0 : Int32)), (3, .long v1), (0, .ref (ad 2)), (1, .long v1)]) hx hb dX1_mixInto_3 hl (by decide) rfl (fun ls hl => ?_)
  have L5 : ∀ (n5 : Nat) (v3_5 : Int64) (v5_5 : Int32) (H : Heap) (locs : List Loc) (ls : Array Slot), fX1_mixInto_5 (fX1_mixInto_5_k σ v1) σ v1 n5 v3_5 v5_5 = some r → va_P D vwCl (wX cy ad aw ac σ) H → va_D A (wX cy ad aw ac σ) → va_S A s.heap H locs → lv_has ls 6 [(0, .ref (ad 2)), (1, .long v1), (3, .long v3_5), (5, .int v5_5)] → W p l e (Rm 0 0 0 0) s m [.ref (ad 2), .long v1].toArray below meth c H locs 0 0 (Zl D (wX cy ad) A r σ aw ac below [.ref (ad 2), .long v1].toArray s 0 0) (F0 m 5 ls []) := by
    intro n5
    induction n5 with
    | zero =>
      intro v3_5 v5_5 H locs ls hf
      cases hf
    | succ n5 ih5 =>
      intro v3_5 v5_5 H locs ls hf hP hD hS hl
      rw [fX1_mixInto_5] at hf
      refine lv_iload hx hb dX1_mixInto_5 (lv_at hl 3 rfl) ?_
      refine lv_aload_n hx hb dX1_mixInto_7 rfl (lv_at hl 0 rfl) ?_
      refine gX_crew_size S hK hP q63 dX1_mixInto_8 ?_
      refine lv_icmp_ge (tgt := 50) hx hb dX1_mixInto_11 (by decide) (fun c11 => ?_) (fun c11 => ?_)
      · have hf := ifp c11 hf
        have hl := lv_sub (l' := [(0, .ref (ad 2)), (1, .long v1), (3, .long v3_5), (5, .int v5_5)]) hl [0, 1, 2, 3] rfl
        unfold fX1_mixInto_5_k at hf
        refine lv_lload_n hx hb dX1_mixInto_50 rfl (lv_at hl 2 rfl) ?_
        exact u_lretr hx hb hr hlocks hP hD hS dX1_mixInto_51 hf (fun _ => rfl)
      · have hf := ifn c11 hf
        refine lv_ldc2 hx hb S.2.2.2.1 (S.2.2.2.2 _ (List.mem_cons_of_mem _ q906)) dX1_mixInto_14 ?_
        refine lv_lload_n hx hb dX1_mixInto_17 rfl (lv_at hl 2 rfl) ?_
        refine lv_lmul hx hb dX1_mixInto_18 ?_
        refine lv_aload_n hx hb dX1_mixInto_19 rfl (lv_at hl 0 rfl) ?_
        refine gX_crew_weights S hK hP q60 dX1_mixInto_20 ?_
        refine lv_iload hx hb dX1_mixInto_23 (lv_at hl 3 rfl) ?_
        obtain ⟨h25, hf⟩ := if_in hf
        refine lX_10 S hK hP h25 dX1_mixInto_25 ?_
        refine lv_i2l (v := ((ga σ 10 v5_5.toNatClampNeg)).toInt64) hx hb dX1_mixInto_26 rfl ?_
        refine lv_ladd hx hb dX1_mixInto_27 ?_
        refine lv_lstore_n (lv' := [(3, .long (((31 : Int64) * v3_5) + (((ga σ 10 v5_5.toNatClampNeg)).toInt64))), (0, .ref (ad 2)), (1, .long v1), (5, .int v5_5)]) hx hb dX1_mixInto_28 rfl hl (by decide) rfl (fun ls hl => ?_)
        refine lv_ldc2 hx hb S.2.2.2.1 (S.2.2.2.2 _ (List.mem_cons_of_mem _ q906)) dX1_mixInto_29 ?_
        refine lv_lload_n hx hb dX1_mixInto_32 rfl (lv_at hl 0 rfl) ?_
        refine lv_lmul hx hb dX1_mixInto_33 ?_
        refine lv_aload_n hx hb dX1_mixInto_34 rfl (lv_at hl 1 rfl) ?_
        refine gX_crew_breaths S hK hP q61 dX1_mixInto_35 ?_
        refine lv_iload hx hb dX1_mixInto_38 (lv_at hl 3 rfl) ?_
        obtain ⟨h40, hf⟩ := if_in hf
        refine lX_11 S hK hP h40 dX1_mixInto_40 ?_
        refine lv_i2l (v := ((ga σ 11 v5_5.toNatClampNeg)).toInt64) hx hb dX1_mixInto_41 rfl ?_
        refine lv_ladd hx hb dX1_mixInto_42 ?_
        refine lv_lstore_n (lv' := [(3, .long (((31 : Int64) * (((31 : Int64) * v3_5) + (((ga σ 10 v5_5.toNatClampNeg)).toInt64))) + (((ga σ 11 v5_5.toNatClampNeg)).toInt64))), (0, .ref (ad 2)), (1, .long v1), (5, .int v5_5)]) hx hb dX1_mixInto_43 rfl hl (by decide) rfl (fun ls hl => ?_)
        refine lv_iinc (v := (v5_5 + (1 : Int32))) (lv' := [(5, .int (v5_5 + (1 : Int32))), (3, .long (((31 : Int64) * (((31 : Int64) * v3_5) + (((ga σ 10 v5_5.toNatClampNeg)).toInt64))) + (((ga σ 11 v5_5.toNatClampNeg)).toInt64))), (0, .ref (ad 2)), (1, .long v1)]) hx hb dX1_mixInto_44 hl (k := 3) rfl rfl (by decide) rfl (fun ls hl => ?_)
        refine lv_goto (tgt := 5) hx hb dX1_mixInto_47 (by decide) ?_
        exact ih5 (((31 : Int64) * (((31 : Int64) * v3_5) + (((ga σ 10 v5_5.toNatClampNeg)).toInt64))) + (((ga σ 11 v5_5.toNatClampNeg)).toInt64)) (v5_5 + (1 : Int32)) H locs ls hf hP hD hS (lv_sub hl [2, 3, 1, 0] rfl)
  exact L5 KF v1 (0 : Int32) H locs ls hf hP hD hS (lv_sub hl [2, 3, 1, 0] rfl)
theorem iX2_girthOfLayer : YI yX2_girthOfLayer cX2_girthOfLayer 2 (some .int) 1 := ⟨q346, q2, by decide, by decide, by decide +kernel⟩
theorem vX2_girthOfLayer : YV yX2_girthOfLayer := ⟨q344, q345⟩
set_option maxRecDepth 100000 in
set_option maxHeartbeats 4000000 in
theorem c_X2_girthOfLayer (l : Launch) (D : va_G) (cy : Nat → ClassId) (ad : Nat → Nat) (σ : St) (v1 : Int32) (r : Int32) (hf : fX2_girthOfLayer σ v1 = some r) : Ci l D cy (wX cy ad) yX2_girthOfLayer cX2_girthOfLayer 2 .int 0 0 [.ref (ad 1), .int v1] σ r σ 0 0 := by
  refine Ci.enter (by decide) (Nat.le_of_ble_eq_true rfl) ?_
  intro aw ac p e s m below meth c A H locs S hr hlocks hA hK hP hD hS ls hl
  have hx := S.1
  have hb := S.2.1
  have hl : lv_has ls 2 [(0, .ref (ad 1)), (1, .int v1)] := hl
  unfold fX2_girthOfLayer at hf
  refine lv_aload_n hx hb dX2_girthOfLayer_0 rfl (lv_at hl 0 rfl) ?_
  refine gX_drum_axle S hK hP q33 dX2_girthOfLayer_1 ?_
  refine lv_bipush (v := (6 : Int32)) hx hb dX2_girthOfLayer_4 (by decide) ?_
  refine lv_aload_n hx hb dX2_girthOfLayer_6 rfl (lv_at hl 0 rfl) ?_
  refine gX_drum_thickness S hK hP q37 dX2_girthOfLayer_7 ?_
  refine lv_imul hx hb dX2_girthOfLayer_10 ?_
  refine lv_iload_n hx hb dX2_girthOfLayer_11 rfl (lv_at hl 1 rfl) ?_
  refine lv_imul hx hb dX2_girthOfLayer_12 ?_
  refine lv_iadd hx hb dX2_girthOfLayer_13 ?_
  exact u_iretr hx hb hr hlocks rfl hP hD hS dX2_girthOfLayer_14 hf (fun _ => rfl)
theorem iX9_cut : YI yX9_cut cX9_cut 4 (some .long) 2 := ⟨q342, q1, by decide, by decide, by decide +kernel⟩
set_option maxRecDepth 100000 in
set_option maxHeartbeats 4000000 in
theorem c_X9_cut (l : Launch) (D : va_G) (cy : Nat → ClassId) (σ : St) (v0 : Int64) (v2 : Int64) (r : Int64) (hf : fX9_cut v0 v2 = some r) : Cl l D cy wN yX9_cut cX9_cut 4 0 0 [.long v0, .long v2] σ r σ 0 0 := by
  refine Cl.enter (by decide) (Nat.le_of_ble_eq_true rfl) ?_
  intro aw ac p e s m below meth c A H locs S hr hlocks hA hK hP hD hS ls hl
  have hx := S.1
  have hb := S.2.1
  have hl : lv_has ls 4 [(0, .long v0), (2, .long v2)] := hl
  unfold fX9_cut at hf
  refine lv_lload_n hx hb dX9_cut_0 rfl (lv_at hl 1 rfl) ?_
  refine lv_lconst (v := (0 : Int64)) hx hb dX9_cut_1 (by decide) ?_
  refine W.lcmp hx hb dX9_cut_2 ?_
  refine lv_if_ne (tgt := 10) hx hb dX9_cut_3 (by decide) (fun c3 => ?_) (fun c3 => ?_)
  · have c3 := (not_congr (lg_cmp_eq _ _)).mp c3
    have hf := ifn c3 hf
    refine lv_lload_n hx hb dX9_cut_10 rfl (lv_at hl 0 rfl) ?_
    refine lv_lload_n hx hb dX9_cut_11 rfl (lv_at hl 1 rfl) ?_
    obtain ⟨n12, hf⟩ := ifd hf
    refine lv_ldiv hx hb dX9_cut_12 n12 ?_
    exact u_lretr hx hb hr hlocks hP hD hS dX9_cut_13 hf (fun _ => rfl)
  · have c3 := (lg_cmp_eq _ _).mp c3
    have hf := ifp c3 hf
    refine lv_lconst (v := (0 : Int64)) hx hb dX9_cut_6 (by decide) ?_
    refine lv_goto (tgt := 13) hx hb dX9_cut_7 (by decide) ?_
    exact u_lretr hx hb hr hlocks hP hD hS dX9_cut_13 hf (fun _ => rfl)
theorem iX2_liftOfLayers : YI yX2_liftOfLayers cX2_liftOfLayers 2 (some .int) 1 := ⟨q350, q2, by decide, by decide, by decide +kernel⟩
theorem vX2_liftOfLayers : YV yX2_liftOfLayers := ⟨q349, qs0⟩
set_option maxRecDepth 100000 in
set_option maxHeartbeats 4000000 in
theorem c_X2_liftOfLayers (l : Launch) (D : va_G) (cy : Nat → ClassId) (ad : Nat → Nat) (σ : St) (v1 : Int32) (r : Int32) (hf : fX2_liftOfLayers σ v1 = some r) : Ci l D cy (wX cy ad) yX2_liftOfLayers cX2_liftOfLayers 2 .int 0 0 [.ref (ad 1), .int v1] σ r σ 0 0 := by
  refine Ci.enter (by decide) (Nat.le_of_ble_eq_true rfl) ?_
  intro aw ac p e s m below meth c A H locs S hr hlocks hA hK hP hD hS ls hl
  have hx := S.1
  have hb := S.2.1
  have hl : lv_has ls 2 [(0, .ref (ad 1)), (1, .int v1)] := hl
  unfold fX2_liftOfLayers at hf
  refine lv_aload_n hx hb dX2_liftOfLayers_0 rfl (lv_at hl 0 rfl) ?_
  refine gX_drum_turnsOfLayer S hK hP q39 dX2_liftOfLayers_1 ?_
  refine lv_iload_n hx hb dX2_liftOfLayers_4 rfl (lv_at hl 1 rfl) ?_
  refine lv_aload_n hx hb dX2_liftOfLayers_5 rfl (lv_at hl 0 rfl) ?_
  refine gX_drum_axle S hK hP q33 dX2_liftOfLayers_6 ?_
  refine lv_imul hx hb dX2_liftOfLayers_9 ?_
  refine lv_iconst (v := (3 : Int32)) hx hb dX2_liftOfLayers_10 (by decide) ?_
  refine lv_aload_n hx hb dX2_liftOfLayers_11 rfl (lv_at hl 0 rfl) ?_
  refine gX_drum_thickness S hK hP q37 dX2_liftOfLayers_12 ?_
  refine lv_imul hx hb dX2_liftOfLayers_15 ?_
  refine lv_iload_n hx hb dX2_liftOfLayers_16 rfl (lv_at hl 1 rfl) ?_
  refine lv_imul hx hb dX2_liftOfLayers_17 ?_
  refine lv_iload_n hx hb dX2_liftOfLayers_18 rfl (lv_at hl 1 rfl) ?_
  refine lv_iconst (v := (1 : Int32)) hx hb dX2_liftOfLayers_19 (by decide) ?_
  refine lv_isub hx hb dX2_liftOfLayers_20 ?_
  refine lv_imul hx hb dX2_liftOfLayers_21 ?_
  refine lv_iadd hx hb dX2_liftOfLayers_22 ?_
  refine lv_imul hx hb dX2_liftOfLayers_23 ?_
  exact u_iretr hx hb hr hlocks rfl hP hD hS dX2_liftOfLayers_24 hf (fun _ => rfl)
theorem iX2_liftOf : YI yX2_liftOf cX2_liftOf 6 (some .int) 1 := ⟨q339, q2, by decide, by decide, by decide +kernel⟩
theorem vX2_liftOf : YV yX2_liftOf := ⟨q337, q338⟩
set_option maxRecDepth 100000 in
set_option maxHeartbeats 4000000 in
theorem c_X2_liftOf (l : Launch) (D : va_G) (cy : Nat → ClassId) (ad : Nat → Nat) (σ : St) (v1 : Int32) (r : Int32) (hf : fX2_liftOf σ v1 = some r) : Ci l D cy (wX cy ad) yX2_liftOf cX2_liftOf 6 .int 1 23 [.ref (ad 1), .int v1] σ r σ 0 0 := by
  refine Ci.enter (by decide) (Nat.le_of_ble_eq_true rfl) ?_
  intro aw ac p e s m below meth c A H locs S hr hlocks hA hK hP hD hS ls hl
  have hx := S.1
  have hb := S.2.1
  have hl : lv_has ls 6 [(0, .ref (ad 1)), (1, .int v1)] := hl
  unfold fX2_liftOf at hf
  refine lv_iload_n hx hb dX2_liftOf_0 rfl (lv_at hl 1 rfl) ?_
  refine lv_i2l (v := (v1).toInt64) hx hb dX2_liftOf_1 rfl ?_
  refine lv_aload_n hx hb dX2_liftOf_2 rfl (lv_at hl 0 rfl) ?_
  refine gX_drum_stepsOfTurn S hK hP q31 dX2_liftOf_3 ?_
  refine lv_i2l (v := ((gi σ 1)).toInt64) hx hb dX2_liftOf_6 rfl ?_
  obtain ⟨r7, h7, hf⟩ := ob_some hf
  refine p_calll0 (u_runSN (rest := []) S (c_X9_cut l D cy σ ((v1).toInt64) (((gi σ 1)).toInt64) r7 h7 aw ac H.size) iX9_cut q341 (host := "WheelCrane") (by decide) ⟨Nat.le_of_ble_eq_true rfl, Nat.le_of_ble_eq_true rfl⟩ hK wN_P (wN_D (A := fun _ => True)) rfl hl.1 (Nat.le_of_ble_eq_true rfl) dX2_liftOf_7 ⟨Nat.le_refl _, Nat.le_refl _⟩) hP hS hA (fun H locs hP hS => ?_)
  refine lv_l2i (v := (r7).toInt32) hx hb dX2_liftOf_10 rfl ?_
  refine lv_istore_n (lv' := [(2, .int ((r7).toInt32)), (0, .ref (ad 1)), (1, .int v1)]) hx hb dX2_liftOf_11 rfl hl (by decide) rfl (fun ls hl => ?_)
  refine lv_iload_n hx hb dX2_liftOf_12 rfl (lv_at hl 0 rfl) ?_
  refine lv_i2l (v := (((r7).toInt32)).toInt64) hx hb dX2_liftOf_13 rfl ?_
  refine lv_aload_n hx hb dX2_liftOf_14 rfl (lv_at hl 1 rfl) ?_
  refine gX_drum_turnsOfLayer S hK hP q39 dX2_liftOf_15 ?_
  refine lv_i2l (v := ((gi σ 5)).toInt64) hx hb dX2_liftOf_18 rfl ?_
  obtain ⟨r19, h19, hf⟩ := ob_some hf
  refine p_calll0 (u_runSN (rest := []) S (c_X9_cut l D cy σ ((((r7).toInt32)).toInt64) (((gi σ 5)).toInt64) r19 h19 aw ac H.size) iX9_cut q341 (host := "WheelCrane") (by decide) ⟨Nat.le_of_ble_eq_true rfl, Nat.le_of_ble_eq_true rfl⟩ hK wN_P (wN_D (A := fun _ => True)) rfl hl.1 (Nat.le_of_ble_eq_true rfl) dX2_liftOf_19 ⟨Nat.le_refl _, Nat.le_refl _⟩) hP hS hA (fun H locs hP hS => ?_)
  refine lv_l2i (v := (r19).toInt32) hx hb dX2_liftOf_22 rfl ?_
  refine lv_istore_n (lv' := [(3, .int ((r19).toInt32)), (2, .int ((r7).toInt32)), (0, .ref (ad 1)), (1, .int v1)]) hx hb dX2_liftOf_23 rfl hl (by decide) rfl (fun ls hl => ?_)
  refine lv_aload_n hx hb dX2_liftOf_24 rfl (lv_at hl 2 rfl) ?_
  refine lv_iload_n hx hb dX2_liftOf_25 rfl (lv_at hl 0 rfl) ?_
  obtain ⟨r26, h26, hf⟩ := ob_some hf
  refine u_calli0 (u_runV (rest := []) S (c_X2_girthOfLayer l D cy ad σ ((r19).toInt32) r26 h26 aw ac H.size) iX2_girthOfLayer vX2_girthOfLayer q343 ⟨Nat.le_of_ble_eq_true rfl, Nat.le_of_ble_eq_true rfl⟩ hK hP hD (q0 := 1) rfl rfl rfl hl.1 (Nat.le_of_ble_eq_true rfl) dX2_liftOf_26 ⟨Nat.le_refl _, Nat.le_refl _⟩) hD hS hA (fun H locs hP hD hS => ?_)
  refine lv_istore (lv' := [(4, .int r26), (3, .int ((r19).toInt32)), (2, .int ((r7).toInt32)), (0, .ref (ad 1)), (1, .int v1)]) hx hb dX2_liftOf_29 hl (by decide) rfl (fun ls hl => ?_)
  refine lv_iload_n hx hb dX2_liftOf_31 rfl (lv_at hl 4 rfl) ?_
  refine lv_iload_n hx hb dX2_liftOf_32 rfl (lv_at hl 2 rfl) ?_
  refine lv_aload_n hx hb dX2_liftOf_33 rfl (lv_at hl 3 rfl) ?_
  refine gX_drum_stepsOfTurn S hK hP q31 dX2_liftOf_34 ?_
  refine lv_imul hx hb dX2_liftOf_37 ?_
  refine lv_isub hx hb dX2_liftOf_38 ?_
  refine lv_istore (lv' := [(5, .int (v1 - (((r7).toInt32) * (gi σ 1)))), (4, .int r26), (3, .int ((r19).toInt32)), (2, .int ((r7).toInt32)), (0, .ref (ad 1)), (1, .int v1)]) hx hb dX2_liftOf_39 hl (by decide) rfl (fun ls hl => ?_)
  refine lv_aload_n hx hb dX2_liftOf_41 rfl (lv_at hl 4 rfl) ?_
  refine lv_iload_n hx hb dX2_liftOf_42 rfl (lv_at hl 2 rfl) ?_
  obtain ⟨r43, h43, hf⟩ := ob_some hf
  refine u_calli0 (u_runV (rest := []) S (c_X2_liftOfLayers l D cy ad σ ((r19).toInt32) r43 h43 aw ac H.size) iX2_liftOfLayers vX2_liftOfLayers q347 ⟨Nat.le_of_ble_eq_true rfl, Nat.le_of_ble_eq_true rfl⟩ hK hP hD (q0 := 1) rfl rfl rfl hl.1 (Nat.le_of_ble_eq_true rfl) dX2_liftOf_43 ⟨Nat.le_refl _, Nat.le_refl _⟩) hD hS hA (fun H locs hP hD hS => ?_)
  refine lv_iload_n hx hb dX2_liftOf_46 rfl (lv_at hl 3 rfl) ?_
  refine lv_iload_n hx hb dX2_liftOf_47 rfl (lv_at hl 2 rfl) ?_
  refine lv_aload_n hx hb dX2_liftOf_48 rfl (lv_at hl 4 rfl) ?_
  refine gX_drum_turnsOfLayer S hK hP q39 dX2_liftOf_49 ?_
  refine lv_imul hx hb dX2_liftOf_52 ?_
  refine lv_isub hx hb dX2_liftOf_53 ?_
  refine lv_iload hx hb dX2_liftOf_54 (lv_at hl 1 rfl) ?_
  refine lv_imul hx hb dX2_liftOf_56 ?_
  refine lv_iadd hx hb dX2_liftOf_57 ?_
  refine lv_iload hx hb dX2_liftOf_58 (lv_at hl 0 rfl) ?_
  refine lv_i2l (v := ((v1 - (((r7).toInt32) * (gi σ 1)))).toInt64) hx hb dX2_liftOf_60 rfl ?_
  refine lv_iload hx hb dX2_liftOf_61 (lv_at hl 1 rfl) ?_
  refine lv_i2l (v := (r26).toInt64) hx hb dX2_liftOf_63 rfl ?_
  refine lv_lmul hx hb dX2_liftOf_64 ?_
  refine lv_aload_n hx hb dX2_liftOf_65 rfl (lv_at hl 4 rfl) ?_
  refine gX_drum_stepsOfTurn S hK hP q31 dX2_liftOf_66 ?_
  refine lv_i2l (v := ((gi σ 1)).toInt64) hx hb dX2_liftOf_69 rfl ?_
  obtain ⟨r70, h70, hf⟩ := ob_some hf
  refine p_calll0 (u_runSN (rest := [.int (r43 + ((((r7).toInt32) - (((r19).toInt32) * (gi σ 5))) * r26))]) S (c_X9_cut l D cy σ ((((v1 - (((r7).toInt32) * (gi σ 1)))).toInt64) * ((r26).toInt64)) (((gi σ 1)).toInt64) r70 h70 aw ac H.size) iX9_cut q341 (host := "WheelCrane") (by decide) ⟨Nat.le_of_ble_eq_true rfl, Nat.le_of_ble_eq_true rfl⟩ hK wN_P (wN_D (A := fun _ => True)) rfl hl.1 (Nat.le_of_ble_eq_true rfl) dX2_liftOf_70 ⟨Nat.le_refl _, Nat.le_refl _⟩) hP hS hA (fun H locs hP hS => ?_)
  refine lv_l2i (v := (r70).toInt32) hx hb dX2_liftOf_73 rfl ?_
  refine lv_iadd hx hb dX2_liftOf_74 ?_
  exact u_iretr hx hb hr hlocks rfl hP hD hS dX2_liftOf_75 hf (fun _ => rfl)
theorem iX2_stepsFor : YI yX2_stepsFor cX2_stepsFor 7 (some .int) 1 := ⟨q358, q2, by decide, by decide, by decide +kernel⟩
theorem vX2_stepsFor : YV yX2_stepsFor := ⟨q356, q357⟩
set_option maxRecDepth 100000 in
set_option maxHeartbeats 4000000 in
theorem c_X2_stepsFor (l : Launch) (D : va_G) (cy : Nat → ClassId) (ad : Nat → Nat) (σ : St) (v1 : Int32) (r : Int32) (hf : fX2_stepsFor σ v1 = some r) : Ci l D cy (wX cy ad) yX2_stepsFor cX2_stepsFor 7 .int 1 23 [.ref (ad 1), .int v1] σ r σ 0 0 := by
  refine Ci.enter (by decide) (Nat.le_of_ble_eq_true rfl) ?_
  intro aw ac p e s m below meth c A H locs S hr hlocks hA hK hP hD hS ls hl
  have hx := S.1
  have hb := S.2.1
  have hl : lv_has ls 7 [(0, .ref (ad 1)), (1, .int v1)] := hl
  unfold fX2_stepsFor at hf
  refine lv_iload_n hx hb dX2_stepsFor_0 rfl (lv_at hl 1 rfl) ?_
  refine lv_if_gt (tgt := 6) hx hb dX2_stepsFor_1 (by decide) (fun c1 => ?_) (fun c1 => ?_)
  · have hf := ifp c1 hf
    refine lv_iconst (v := (0 : Int32)) hx hb dX2_stepsFor_6 (by decide) ?_
    refine lv_istore_n (lv' := [(2, .int (0 : Int32)), (0, .ref (ad 1)), (1, .int v1)]) hx hb dX2_stepsFor_7 rfl hl (by decide) rfl (fun ls hl => ?_)
    refine lv_iload_n hx hb dX2_stepsFor_8 rfl (lv_at hl 2 rfl) ?_
    refine lv_istore_n (lv' := [(3, .int v1), (2, .int (0 : Int32)), (0, .ref (ad 1)), (1, .int v1)]) hx hb dX2_stepsFor_9 rfl hl (by decide) rfl (fun ls hl => ?_)
    have L10 : ∀ (n10 : Nat) (v2_10 : Int32) (v3_10 : Int32) (H : Heap) (locs : List Loc) (ls : Array Slot), fX2_stepsFor_10 (fX2_stepsFor_10_k σ v1) σ v1 n10 v2_10 v3_10 = some r → va_P D vwCl (wX cy ad aw ac σ) H → va_D A (wX cy ad aw ac σ) → va_S A s.heap H locs → lv_has ls 7 [(0, .ref (ad 1)), (1, .int v1), (2, .int v2_10), (3, .int v3_10)] → W p l e (Rm 1 23 0 0) s m [.ref (ad 1), .int v1].toArray below meth c H locs 0 0 (Zi D (wX cy ad) A r σ aw ac below [.ref (ad 1), .int v1].toArray s 0 0) (F0 m 10 ls []) := by
      intro n10
      induction n10 with
      | zero =>
        intro v2_10 v3_10 H locs ls hf
        cases hf
      | succ n10 ih10 =>
        intro v2_10 v3_10 H locs ls hf hP hD hS hl
        rw [fX2_stepsFor_10] at hf
        refine lv_iload_n hx hb dX2_stepsFor_10 rfl (lv_at hl 2 rfl) ?_
        refine lv_sipush (v := (2000 : Int32)) hx hb dX2_stepsFor_11 (by decide) ?_
        refine lv_icmp_gt (tgt := 50) hx hb dX2_stepsFor_14 (by decide) (fun c14 => ?_) (fun c14 => ?_)
        · have hf := ifp c14 hf
          have hl := lv_sub (l' := [(0, .ref (ad 1)), (1, .int v1), (2, .int v2_10), (3, .int v3_10)]) hl [0, 1, 2, 3] rfl
          unfold fX2_stepsFor_10_k at hf
          refine lv_aload_n hx hb dX2_stepsFor_50 rfl (lv_at hl 0 rfl) ?_
          refine lv_iload_n hx hb dX2_stepsFor_51 rfl (lv_at hl 2 rfl) ?_
          obtain ⟨r52, h52, hf⟩ := ob_some hf
          refine u_calli0 (u_runV (rest := []) S (c_X2_girthOfLayer l D cy ad σ v2_10 r52 h52 aw ac H.size) iX2_girthOfLayer vX2_girthOfLayer q343 ⟨Nat.le_of_ble_eq_true rfl, Nat.le_of_ble_eq_true rfl⟩ hK hP hD (q0 := 1) rfl rfl rfl hl.1 (Nat.le_of_ble_eq_true rfl) dX2_stepsFor_52 ⟨Nat.le_refl _, Nat.le_refl _⟩) hD hS hA (fun H locs hP hD hS => ?_)
          refine lv_istore (lv' := [(4, .int r52), (0, .ref (ad 1)), (1, .int v1), (2, .int v2_10), (3, .int v3_10)]) hx hb dX2_stepsFor_55 hl (by decide) rfl (fun ls hl => ?_)
          refine lv_iload_n hx hb dX2_stepsFor_57 rfl (lv_at hl 4 rfl) ?_
          refine lv_iconst (v := (1 : Int32)) hx hb dX2_stepsFor_58 (by decide) ?_
          refine lv_isub hx hb dX2_stepsFor_59 ?_
          refine lv_i2l (v := ((v3_10 - (1 : Int32))).toInt64) hx hb dX2_stepsFor_60 rfl ?_
          refine lv_iload hx hb dX2_stepsFor_61 (lv_at hl 0 rfl) ?_
          refine lv_i2l (v := (r52).toInt64) hx hb dX2_stepsFor_63 rfl ?_
          obtain ⟨r64, h64, hf⟩ := ob_some hf
          refine p_calll0 (u_runSN (rest := []) S (c_X9_cut l D cy σ (((v3_10 - (1 : Int32))).toInt64) ((r52).toInt64) r64 h64 aw ac H.size) iX9_cut q341 (host := "WheelCrane") (by decide) ⟨Nat.le_of_ble_eq_true rfl, Nat.le_of_ble_eq_true rfl⟩ hK wN_P (wN_D (A := fun _ => True)) rfl hl.1 (Nat.le_of_ble_eq_true rfl) dX2_stepsFor_64 ⟨Nat.le_refl _, Nat.le_refl _⟩) hP hS hA (fun H locs hP hS => ?_)
          refine lv_l2i (v := (r64).toInt32) hx hb dX2_stepsFor_67 rfl ?_
          refine lv_istore (lv' := [(5, .int ((r64).toInt32)), (4, .int r52), (0, .ref (ad 1)), (1, .int v1), (2, .int v2_10), (3, .int v3_10)]) hx hb dX2_stepsFor_68 hl (by decide) rfl (fun ls hl => ?_)
          refine lv_iload_n hx hb dX2_stepsFor_70 rfl (lv_at hl 5 rfl) ?_
          refine lv_iload hx hb dX2_stepsFor_71 (lv_at hl 0 rfl) ?_
          refine lv_iload hx hb dX2_stepsFor_73 (lv_at hl 1 rfl) ?_
          refine lv_imul hx hb dX2_stepsFor_75 ?_
          refine lv_isub hx hb dX2_stepsFor_76 ?_
          refine lv_istore_n (lv' := [(3, .int (v3_10 - (((r64).toInt32) * r52))), (5, .int ((r64).toInt32)), (4, .int r52), (0, .ref (ad 1)), (1, .int v1), (2, .int v2_10)]) hx hb dX2_stepsFor_77 rfl hl (by decide) rfl (fun ls hl => ?_)
          refine lv_iload_n hx hb dX2_stepsFor_78 rfl (lv_at hl 0 rfl) ?_
          refine lv_i2l (v := ((v3_10 - (((r64).toInt32) * r52))).toInt64) hx hb dX2_stepsFor_79 rfl ?_
          refine lv_aload_n hx hb dX2_stepsFor_80 rfl (lv_at hl 3 rfl) ?_
          refine gX_drum_stepsOfTurn S hK hP q31 dX2_stepsFor_81 ?_
          refine lv_i2l (v := ((gi σ 1)).toInt64) hx hb dX2_stepsFor_84 rfl ?_
          refine lv_lmul hx hb dX2_stepsFor_85 ?_
          refine lv_iload hx hb dX2_stepsFor_86 (lv_at hl 2 rfl) ?_
          refine lv_i2l (v := (r52).toInt64) hx hb dX2_stepsFor_88 rfl ?_
          refine lv_ladd hx hb dX2_stepsFor_89 ?_
          refine lv_lconst (v := (1 : Int64)) hx hb dX2_stepsFor_90 (by decide) ?_
          refine lv_lsub hx hb dX2_stepsFor_91 ?_
          refine lv_iload hx hb dX2_stepsFor_92 (lv_at hl 2 rfl) ?_
          refine lv_i2l (v := (r52).toInt64) hx hb dX2_stepsFor_94 rfl ?_
          obtain ⟨r95, h95, hf⟩ := ob_some hf
          refine p_calll0 (u_runSN (rest := []) S (c_X9_cut l D cy σ ((((((v3_10 - (((r64).toInt32) * r52))).toInt64) * (((gi σ 1)).toInt64)) + ((r52).toInt64)) - (1 : Int64)) ((r52).toInt64) r95 h95 aw ac H.size) iX9_cut q341 (host := "WheelCrane") (by decide) ⟨Nat.le_of_ble_eq_true rfl, Nat.le_of_ble_eq_true rfl⟩ hK wN_P (wN_D (A := fun _ => True)) rfl hl.1 (Nat.le_of_ble_eq_true rfl) dX2_stepsFor_95 ⟨Nat.le_refl _, Nat.le_refl _⟩) hP hS hA (fun H locs hP hS => ?_)
          refine lv_l2i (v := (r95).toInt32) hx hb dX2_stepsFor_98 rfl ?_
          refine lv_istore (lv' := [(6, .int ((r95).toInt32)), (3, .int (v3_10 - (((r64).toInt32) * r52))), (5, .int ((r64).toInt32)), (4, .int r52), (0, .ref (ad 1)), (1, .int v1), (2, .int v2_10)]) hx hb dX2_stepsFor_99 hl (by decide) rfl (fun ls hl => ?_)
          refine lv_iload_n hx hb dX2_stepsFor_101 rfl (lv_at hl 6 rfl) ?_
          refine lv_aload_n hx hb dX2_stepsFor_102 rfl (lv_at hl 4 rfl) ?_
          refine gX_drum_turnsOfLayer S hK hP q39 dX2_stepsFor_103 ?_
          refine lv_imul hx hb dX2_stepsFor_106 ?_
          refine lv_iload hx hb dX2_stepsFor_107 (lv_at hl 2 rfl) ?_
          refine lv_iadd hx hb dX2_stepsFor_109 ?_
          refine lv_aload_n hx hb dX2_stepsFor_110 rfl (lv_at hl 4 rfl) ?_
          refine gX_drum_stepsOfTurn S hK hP q31 dX2_stepsFor_111 ?_
          refine lv_imul hx hb dX2_stepsFor_114 ?_
          refine lv_iload hx hb dX2_stepsFor_115 (lv_at hl 0 rfl) ?_
          refine lv_iadd hx hb dX2_stepsFor_117 ?_
          exact u_iretr hx hb hr hlocks rfl hP hD hS dX2_stepsFor_118 hf (fun _ => rfl)
        · have hf := ifn c14 hf
          refine lv_iload_n hx hb dX2_stepsFor_17 rfl (lv_at hl 3 rfl) ?_
          refine lv_aload_n hx hb dX2_stepsFor_18 rfl (lv_at hl 0 rfl) ?_
          refine gX_drum_turnsOfLayer S hK hP q39 dX2_stepsFor_19 ?_
          refine lv_aload_n hx hb dX2_stepsFor_22 rfl (lv_at hl 0 rfl) ?_
          refine lv_iload_n hx hb dX2_stepsFor_23 rfl (lv_at hl 2 rfl) ?_
          obtain ⟨r24, h24, hf⟩ := ob_some hf
          refine u_calli0 (u_runV (rest := [.int (gi σ 5), .int v3_10]) S (c_X2_girthOfLayer l D cy ad σ v2_10 r24 h24 aw ac H.size) iX2_girthOfLayer vX2_girthOfLayer q343 ⟨Nat.le_of_ble_eq_true rfl, Nat.le_of_ble_eq_true rfl⟩ hK hP hD (q0 := 1) rfl rfl rfl hl.1 (Nat.le_of_ble_eq_true rfl) dX2_stepsFor_24 ⟨Nat.le_refl _, Nat.le_refl _⟩) hD hS hA (fun H locs hP hD hS => ?_)
          refine lv_imul hx hb dX2_stepsFor_27 ?_
          refine lv_icmp_le (tgt := 50) hx hb dX2_stepsFor_28 (by decide) (fun c28 => ?_) (fun c28 => ?_)
          · have hf := ifp c28 hf
            have hl := lv_sub (l' := [(0, .ref (ad 1)), (1, .int v1), (2, .int v2_10), (3, .int v3_10)]) hl [0, 1, 2, 3] rfl
            unfold fX2_stepsFor_10_k at hf
            refine lv_aload_n hx hb dX2_stepsFor_50 rfl (lv_at hl 0 rfl) ?_
            refine lv_iload_n hx hb dX2_stepsFor_51 rfl (lv_at hl 2 rfl) ?_
            obtain ⟨r52, h52, hf⟩ := ob_some hf
            refine u_calli0 (u_runV (rest := []) S (c_X2_girthOfLayer l D cy ad σ v2_10 r52 h52 aw ac H.size) iX2_girthOfLayer vX2_girthOfLayer q343 ⟨Nat.le_of_ble_eq_true rfl, Nat.le_of_ble_eq_true rfl⟩ hK hP hD (q0 := 1) rfl rfl rfl hl.1 (Nat.le_of_ble_eq_true rfl) dX2_stepsFor_52 ⟨Nat.le_refl _, Nat.le_refl _⟩) hD hS hA (fun H locs hP hD hS => ?_)
            refine lv_istore (lv' := [(4, .int r52), (0, .ref (ad 1)), (1, .int v1), (2, .int v2_10), (3, .int v3_10)]) hx hb dX2_stepsFor_55 hl (by decide) rfl (fun ls hl => ?_)
            refine lv_iload_n hx hb dX2_stepsFor_57 rfl (lv_at hl 4 rfl) ?_
            refine lv_iconst (v := (1 : Int32)) hx hb dX2_stepsFor_58 (by decide) ?_
            refine lv_isub hx hb dX2_stepsFor_59 ?_
            refine lv_i2l (v := ((v3_10 - (1 : Int32))).toInt64) hx hb dX2_stepsFor_60 rfl ?_
            refine lv_iload hx hb dX2_stepsFor_61 (lv_at hl 0 rfl) ?_
            refine lv_i2l (v := (r52).toInt64) hx hb dX2_stepsFor_63 rfl ?_
            obtain ⟨r64, h64, hf⟩ := ob_some hf
            refine p_calll0 (u_runSN (rest := []) S (c_X9_cut l D cy σ (((v3_10 - (1 : Int32))).toInt64) ((r52).toInt64) r64 h64 aw ac H.size) iX9_cut q341 (host := "WheelCrane") (by decide) ⟨Nat.le_of_ble_eq_true rfl, Nat.le_of_ble_eq_true rfl⟩ hK wN_P (wN_D (A := fun _ => True)) rfl hl.1 (Nat.le_of_ble_eq_true rfl) dX2_stepsFor_64 ⟨Nat.le_refl _, Nat.le_refl _⟩) hP hS hA (fun H locs hP hS => ?_)
            refine lv_l2i (v := (r64).toInt32) hx hb dX2_stepsFor_67 rfl ?_
            refine lv_istore (lv' := [(5, .int ((r64).toInt32)), (4, .int r52), (0, .ref (ad 1)), (1, .int v1), (2, .int v2_10), (3, .int v3_10)]) hx hb dX2_stepsFor_68 hl (by decide) rfl (fun ls hl => ?_)
            refine lv_iload_n hx hb dX2_stepsFor_70 rfl (lv_at hl 5 rfl) ?_
            refine lv_iload hx hb dX2_stepsFor_71 (lv_at hl 0 rfl) ?_
            refine lv_iload hx hb dX2_stepsFor_73 (lv_at hl 1 rfl) ?_
            refine lv_imul hx hb dX2_stepsFor_75 ?_
            refine lv_isub hx hb dX2_stepsFor_76 ?_
            refine lv_istore_n (lv' := [(3, .int (v3_10 - (((r64).toInt32) * r52))), (5, .int ((r64).toInt32)), (4, .int r52), (0, .ref (ad 1)), (1, .int v1), (2, .int v2_10)]) hx hb dX2_stepsFor_77 rfl hl (by decide) rfl (fun ls hl => ?_)
            refine lv_iload_n hx hb dX2_stepsFor_78 rfl (lv_at hl 0 rfl) ?_
            refine lv_i2l (v := ((v3_10 - (((r64).toInt32) * r52))).toInt64) hx hb dX2_stepsFor_79 rfl ?_
            refine lv_aload_n hx hb dX2_stepsFor_80 rfl (lv_at hl 3 rfl) ?_
            refine gX_drum_stepsOfTurn S hK hP q31 dX2_stepsFor_81 ?_
            refine lv_i2l (v := ((gi σ 1)).toInt64) hx hb dX2_stepsFor_84 rfl ?_
            refine lv_lmul hx hb dX2_stepsFor_85 ?_
            refine lv_iload hx hb dX2_stepsFor_86 (lv_at hl 2 rfl) ?_
            refine lv_i2l (v := (r52).toInt64) hx hb dX2_stepsFor_88 rfl ?_
            refine lv_ladd hx hb dX2_stepsFor_89 ?_
            refine lv_lconst (v := (1 : Int64)) hx hb dX2_stepsFor_90 (by decide) ?_
            refine lv_lsub hx hb dX2_stepsFor_91 ?_
            refine lv_iload hx hb dX2_stepsFor_92 (lv_at hl 2 rfl) ?_
            refine lv_i2l (v := (r52).toInt64) hx hb dX2_stepsFor_94 rfl ?_
            obtain ⟨r95, h95, hf⟩ := ob_some hf
            refine p_calll0 (u_runSN (rest := []) S (c_X9_cut l D cy σ ((((((v3_10 - (((r64).toInt32) * r52))).toInt64) * (((gi σ 1)).toInt64)) + ((r52).toInt64)) - (1 : Int64)) ((r52).toInt64) r95 h95 aw ac H.size) iX9_cut q341 (host := "WheelCrane") (by decide) ⟨Nat.le_of_ble_eq_true rfl, Nat.le_of_ble_eq_true rfl⟩ hK wN_P (wN_D (A := fun _ => True)) rfl hl.1 (Nat.le_of_ble_eq_true rfl) dX2_stepsFor_95 ⟨Nat.le_refl _, Nat.le_refl _⟩) hP hS hA (fun H locs hP hS => ?_)
            refine lv_l2i (v := (r95).toInt32) hx hb dX2_stepsFor_98 rfl ?_
            refine lv_istore (lv' := [(6, .int ((r95).toInt32)), (3, .int (v3_10 - (((r64).toInt32) * r52))), (5, .int ((r64).toInt32)), (4, .int r52), (0, .ref (ad 1)), (1, .int v1), (2, .int v2_10)]) hx hb dX2_stepsFor_99 hl (by decide) rfl (fun ls hl => ?_)
            refine lv_iload_n hx hb dX2_stepsFor_101 rfl (lv_at hl 6 rfl) ?_
            refine lv_aload_n hx hb dX2_stepsFor_102 rfl (lv_at hl 4 rfl) ?_
            refine gX_drum_turnsOfLayer S hK hP q39 dX2_stepsFor_103 ?_
            refine lv_imul hx hb dX2_stepsFor_106 ?_
            refine lv_iload hx hb dX2_stepsFor_107 (lv_at hl 2 rfl) ?_
            refine lv_iadd hx hb dX2_stepsFor_109 ?_
            refine lv_aload_n hx hb dX2_stepsFor_110 rfl (lv_at hl 4 rfl) ?_
            refine gX_drum_stepsOfTurn S hK hP q31 dX2_stepsFor_111 ?_
            refine lv_imul hx hb dX2_stepsFor_114 ?_
            refine lv_iload hx hb dX2_stepsFor_115 (lv_at hl 0 rfl) ?_
            refine lv_iadd hx hb dX2_stepsFor_117 ?_
            exact u_iretr hx hb hr hlocks rfl hP hD hS dX2_stepsFor_118 hf (fun _ => rfl)
          · have hf := ifn c28 hf
            refine lv_iload_n hx hb dX2_stepsFor_31 rfl (lv_at hl 3 rfl) ?_
            refine lv_aload_n hx hb dX2_stepsFor_32 rfl (lv_at hl 0 rfl) ?_
            refine gX_drum_turnsOfLayer S hK hP q39 dX2_stepsFor_33 ?_
            refine lv_aload_n hx hb dX2_stepsFor_36 rfl (lv_at hl 0 rfl) ?_
            refine lv_iload_n hx hb dX2_stepsFor_37 rfl (lv_at hl 2 rfl) ?_
            obtain ⟨r38, h38, hf⟩ := ob_some hf
            refine u_calli0 (u_runV (rest := [.int (gi σ 5), .int v3_10]) S (c_X2_girthOfLayer l D cy ad σ v2_10 r38 h38 aw ac H.size) iX2_girthOfLayer vX2_girthOfLayer q343 ⟨Nat.le_of_ble_eq_true rfl, Nat.le_of_ble_eq_true rfl⟩ hK hP hD (q0 := 1) rfl rfl rfl hl.1 (Nat.le_of_ble_eq_true rfl) dX2_stepsFor_38 ⟨Nat.le_refl _, Nat.le_refl _⟩) hD hS hA (fun H locs hP hD hS => ?_)
            refine lv_imul hx hb dX2_stepsFor_41 ?_
            refine lv_isub hx hb dX2_stepsFor_42 ?_
            refine lv_istore_n (lv' := [(3, .int (v3_10 - ((gi σ 5) * r38))), (0, .ref (ad 1)), (1, .int v1), (2, .int v2_10)]) hx hb dX2_stepsFor_43 rfl hl (by decide) rfl (fun ls hl => ?_)
            refine lv_iinc (v := (v2_10 + (1 : Int32))) (lv' := [(2, .int (v2_10 + (1 : Int32))), (3, .int (v3_10 - ((gi σ 5) * r38))), (0, .ref (ad 1)), (1, .int v1)]) hx hb dX2_stepsFor_44 hl (k := 3) rfl rfl (by decide) rfl (fun ls hl => ?_)
            refine lv_goto (tgt := 10) hx hb dX2_stepsFor_47 (by decide) ?_
            exact ih10 (v2_10 + (1 : Int32)) (v3_10 - ((gi σ 5) * r38)) H locs ls hf hP hD hS (lv_sub hl [2, 3, 0, 1] rfl)
    exact L10 KF (0 : Int32) v1 H locs ls hf hP hD hS (lv_sub hl [2, 3, 1, 0] rfl)
  · have hf := ifn c1 hf
    refine lv_iconst (v := (0 : Int32)) hx hb dX2_stepsFor_4 (by decide) ?_
    exact u_iretr hx hb hr hlocks rfl hP hD hS dX2_stepsFor_5 hf (fun _ => rfl)
theorem iX2_lastLayer : YI yX2_lastLayer cX2_lastLayer 2 (some .int) 1 := ⟨q366, q2, by decide, by decide, by decide +kernel⟩
theorem vX2_lastLayer : YV yX2_lastLayer := ⟨q364, q365⟩
set_option maxRecDepth 100000 in
set_option maxHeartbeats 4000000 in
theorem c_X2_lastLayer (l : Launch) (D : va_G) (cy : Nat → ClassId) (ad : Nat → Nat) (σ : St) (v1 : Int32) (r : Int32) (hf : fX2_lastLayer σ v1 = some r) : Ci l D cy (wX cy ad) yX2_lastLayer cX2_lastLayer 2 .int 1 23 [.ref (ad 1), .int v1] σ r σ 0 0 := by
  refine Ci.enter (by decide) (Nat.le_of_ble_eq_true rfl) ?_
  intro aw ac p e s m below meth c A H locs S hr hlocks hA hK hP hD hS ls hl
  have hx := S.1
  have hb := S.2.1
  have hl : lv_has ls 2 [(0, .ref (ad 1)), (1, .int v1)] := hl
  unfold fX2_lastLayer at hf
  refine lv_iload_n hx hb dX2_lastLayer_0 rfl (lv_at hl 1 rfl) ?_
  refine lv_if_gt (tgt := 8) hx hb dX2_lastLayer_1 (by decide) (fun c1 => ?_) (fun c1 => ?_)
  · have hf := ifp c1 hf
    refine lv_iload_n hx hb dX2_lastLayer_8 rfl (lv_at hl 1 rfl) ?_
    refine lv_iconst (v := (1 : Int32)) hx hb dX2_lastLayer_9 (by decide) ?_
    refine lv_isub hx hb dX2_lastLayer_10 ?_
    refine lv_i2l (v := ((v1 - (1 : Int32))).toInt64) hx hb dX2_lastLayer_11 rfl ?_
    refine lv_aload_n hx hb dX2_lastLayer_12 rfl (lv_at hl 0 rfl) ?_
    refine gX_drum_stepsOfTurn S hK hP q31 dX2_lastLayer_13 ?_
    refine lv_aload_n hx hb dX2_lastLayer_16 rfl (lv_at hl 0 rfl) ?_
    refine gX_drum_turnsOfLayer S hK hP q39 dX2_lastLayer_17 ?_
    refine lv_imul hx hb dX2_lastLayer_20 ?_
    refine lv_i2l (v := (((gi σ 1) * (gi σ 5))).toInt64) hx hb dX2_lastLayer_21 rfl ?_
    obtain ⟨r22, h22, hf⟩ := ob_some hf
    refine p_calll0 (u_runSN (rest := []) S (c_X9_cut l D cy σ (((v1 - (1 : Int32))).toInt64) ((((gi σ 1) * (gi σ 5))).toInt64) r22 h22 aw ac H.size) iX9_cut q341 (host := "WheelCrane") (by decide) ⟨Nat.le_of_ble_eq_true rfl, Nat.le_of_ble_eq_true rfl⟩ hK wN_P (wN_D (A := fun _ => True)) rfl hl.1 (Nat.le_of_ble_eq_true rfl) dX2_lastLayer_22 ⟨Nat.le_refl _, Nat.le_refl _⟩) hP hS hA (fun H locs hP hS => ?_)
    refine lv_l2i (v := (r22).toInt32) hx hb dX2_lastLayer_25 rfl ?_
    exact u_iretr hx hb hr hlocks rfl hP hD hS dX2_lastLayer_26 hf (fun _ => rfl)
  · have hf := ifn c1 hf
    refine lv_iconst (v := (0 : Int32)) hx hb dX2_lastLayer_4 (by decide) ?_
    refine lv_goto (tgt := 26) hx hb dX2_lastLayer_5 (by decide) ?_
    exact u_iretr hx hb hr hlocks rfl hP hD hS dX2_lastLayer_26 hf (fun _ => rfl)
theorem iX2_isTurnedBy : YI yX2_isTurnedBy cX2_isTurnedBy 6 (some .boolean) 3 := ⟨q417, q2, by decide, by decide, by decide +kernel⟩
theorem vX2_isTurnedBy : YV yX2_isTurnedBy := ⟨q415, q416⟩
set_option maxRecDepth 100000 in
set_option maxHeartbeats 4000000 in
theorem c_X2_isTurnedBy (l : Launch) (D : va_G) (cy : Nat → ClassId) (ad : Nat → Nat) (σ : St) (v1 : Int32) (v2 : Int32) (v3 : Int32) (r : Int32) (hf : fX2_isTurnedBy σ v1 v2 v3 = some r) : Ci l D cy (wX cy ad) yX2_isTurnedBy cX2_isTurnedBy 6 .boolean 2 44 [.ref (ad 1), .int v1, .int v2, .int v3] σ r σ 0 0 := by
  refine Ci.enter (by decide) (Nat.le_of_ble_eq_true rfl) ?_
  intro aw ac p e s m below meth c A H locs S hr hlocks hA hK hP hD hS ls hl
  have hx := S.1
  have hb := S.2.1
  have hl : lv_has ls 6 [(0, .ref (ad 1)), (1, .int v1), (2, .int v2), (3, .int v3)] := hl
  unfold fX2_isTurnedBy at hf
  refine lv_iload_n hx hb dX2_isTurnedBy_0 rfl (lv_at hl 2 rfl) ?_
  refine lv_i2l (v := (v2).toInt64) hx hb dX2_isTurnedBy_1 rfl ?_
  refine lv_aload_n hx hb dX2_isTurnedBy_2 rfl (lv_at hl 0 rfl) ?_
  refine lv_aload_n hx hb dX2_isTurnedBy_3 rfl (lv_at hl 0 rfl) ?_
  refine lv_iload_n hx hb dX2_isTurnedBy_4 rfl (lv_at hl 3 rfl) ?_
  obtain ⟨r5, h5, hf⟩ := ob_some hf
  refine u_calli0 (u_runV (rest := [.ref (ad 1), .long ((v2).toInt64)]) S (c_X2_lastLayer l D cy ad σ v3 r5 h5 aw ac H.size) iX2_lastLayer vX2_lastLayer q418 ⟨Nat.le_of_ble_eq_true rfl, Nat.le_of_ble_eq_true rfl⟩ hK hP hD (q0 := 1) rfl rfl rfl hl.1 (Nat.le_of_ble_eq_true rfl) dX2_isTurnedBy_5 ⟨Nat.le_refl _, Nat.le_refl _⟩) hD hS hA (fun H locs hP hD hS => ?_)
  obtain ⟨r8, h8, hf⟩ := ob_some hf
  refine u_calli0 (u_runV (rest := [.long ((v2).toInt64)]) S (c_X2_girthOfLayer l D cy ad σ r5 r8 h8 aw ac H.size) iX2_girthOfLayer vX2_girthOfLayer q343 ⟨Nat.le_of_ble_eq_true rfl, Nat.le_of_ble_eq_true rfl⟩ hK hP hD (q0 := 1) rfl rfl rfl hl.1 (Nat.le_of_ble_eq_true rfl) dX2_isTurnedBy_8 ⟨Nat.le_refl _, Nat.le_refl _⟩) hD hS hA (fun H locs hP hD hS => ?_)
  refine lv_i2l (v := (r8).toInt64) hx hb dX2_isTurnedBy_11 rfl ?_
  refine lv_lmul hx hb dX2_isTurnedBy_12 ?_
  refine lv_bipush (v := (100 : Int32)) hx hb dX2_isTurnedBy_13 (by decide) ?_
  refine lv_aload_n hx hb dX2_isTurnedBy_15 rfl (lv_at hl 0 rfl) ?_
  refine gX_drum_friction S hK hP q35 dX2_isTurnedBy_16 ?_
  refine lv_iadd hx hb dX2_isTurnedBy_19 ?_
  refine lv_i2l (v := (((100 : Int32) + (gi σ 3))).toInt64) hx hb dX2_isTurnedBy_20 rfl ?_
  refine lv_lmul hx hb dX2_isTurnedBy_21 ?_
  refine lv_lstore (lv' := [(4, .long ((((v2).toInt64) * ((r8).toInt64)) * ((((100 : Int32) + (gi σ 3))).toInt64))), (0, .ref (ad 1)), (1, .int v1), (2, .int v2), (3, .int v3)]) hx hb dX2_isTurnedBy_22 hl (by decide) rfl (fun ls hl => ?_)
  refine lv_iload_n hx hb dX2_isTurnedBy_24 rfl (lv_at hl 2 rfl) ?_
  refine lv_i2l (v := (v1).toInt64) hx hb dX2_isTurnedBy_25 rfl ?_
  refine lv_aload_n hx hb dX2_isTurnedBy_26 rfl (lv_at hl 1 rfl) ?_
  refine gX_drum_girth S hK hP q29 dX2_isTurnedBy_27 ?_
  refine lv_i2l (v := ((gi σ 0)).toInt64) hx hb dX2_isTurnedBy_30 rfl ?_
  refine lv_lmul hx hb dX2_isTurnedBy_31 ?_
  refine lv_ldc2 hx hb S.2.2.2.1 (S.2.2.2.2 _ (List.mem_cons_of_mem _ q419)) dX2_isTurnedBy_32 ?_
  refine lv_lmul hx hb dX2_isTurnedBy_35 ?_
  refine lv_lload hx hb dX2_isTurnedBy_36 (lv_at hl 0 rfl) ?_
  refine W.lcmp hx hb dX2_isTurnedBy_38 ?_
  refine lv_if_lt (tgt := 46) hx hb dX2_isTurnedBy_39 (by decide) (fun c39 => ?_) (fun c39 => ?_)
  · have c39 := (lg_cmp_lt _ _).mp c39
    have hf := ifp c39 hf
    refine lv_iconst (v := (0 : Int32)) hx hb dX2_isTurnedBy_46 (by decide) ?_
    exact u_iretr hx hb hr hlocks rfl hP hD hS dX2_isTurnedBy_47 hf (fun _ => rfl)
  · have c39 := (not_congr (lg_cmp_lt _ _)).mp c39
    have hf := ifn c39 hf
    refine lv_iconst (v := (1 : Int32)) hx hb dX2_isTurnedBy_42 (by decide) ?_
    refine lv_goto (tgt := 47) hx hb dX2_isTurnedBy_43 (by decide) ?_
    exact u_iretr hx hb hr hlocks rfl hP hD hS dX2_isTurnedBy_47 hf (fun _ => rfl)
theorem iX2_mixInto : YI yX2_mixInto cX2_mixInto 5 (some .long) 1 := ⟨q900, q2, by decide, by decide, by decide +kernel⟩
theorem vX2_mixInto : YV yX2_mixInto := ⟨q898, q899⟩
set_option maxRecDepth 100000 in
set_option maxHeartbeats 4000000 in
theorem c_X2_mixInto (l : Launch) (D : va_G) (cy : Nat → ClassId) (ad : Nat → Nat) (σ : St) (v1 : Int64) (r : Int64) (hf : fX2_mixInto σ v1 = some r) : Cl l D cy (wX cy ad) yX2_mixInto cX2_mixInto 5 0 0 [.ref (ad 1), .long v1] σ r σ 0 0 := by
  refine Cl.enter (by decide) (Nat.le_of_ble_eq_true rfl) ?_
  intro aw ac p e s m below meth c A H locs S hr hlocks hA hK hP hD hS ls hl
  have hx := S.1
  have hb := S.2.1
  have hl : lv_has ls 5 [(0, .ref (ad 1)), (1, .long v1)] := hl
  unfold fX2_mixInto at hf
  refine lv_ldc2 hx hb S.2.2.2.1 (S.2.2.2.2 _ (List.mem_cons_of_mem _ q901)) dX2_mixInto_0 ?_
  refine lv_lload_n hx hb dX2_mixInto_3 rfl (lv_at hl 1 rfl) ?_
  refine lv_lmul hx hb dX2_mixInto_4 ?_
  refine lv_aload_n hx hb dX2_mixInto_5 rfl (lv_at hl 0 rfl) ?_
  refine gX_drum_girth S hK hP q29 dX2_mixInto_6 ?_
  refine lv_i2l (v := ((gi σ 0)).toInt64) hx hb dX2_mixInto_9 rfl ?_
  refine lv_ladd hx hb dX2_mixInto_10 ?_
  refine lv_lstore_n (lv' := [(3, .long (((31 : Int64) * v1) + (((gi σ 0)).toInt64))), (0, .ref (ad 1)), (1, .long v1)]) hx hb dX2_mixInto_11 rfl hl (by decide) rfl (fun ls hl => ?_)
  refine lv_ldc2 hx hb S.2.2.2.1 (S.2.2.2.2 _ (List.mem_cons_of_mem _ q901)) dX2_mixInto_12 ?_
  refine lv_lload_n hx hb dX2_mixInto_15 rfl (lv_at hl 0 rfl) ?_
  refine lv_lmul hx hb dX2_mixInto_16 ?_
  refine lv_aload_n hx hb dX2_mixInto_17 rfl (lv_at hl 1 rfl) ?_
  refine gX_drum_stepsOfTurn S hK hP q31 dX2_mixInto_18 ?_
  refine lv_i2l (v := ((gi σ 1)).toInt64) hx hb dX2_mixInto_21 rfl ?_
  refine lv_ladd hx hb dX2_mixInto_22 ?_
  refine lv_lstore_n (lv' := [(3, .long (((31 : Int64) * (((31 : Int64) * v1) + (((gi σ 0)).toInt64))) + (((gi σ 1)).toInt64))), (0, .ref (ad 1)), (1, .long v1)]) hx hb dX2_mixInto_23 rfl hl (by decide) rfl (fun ls hl => ?_)
  refine lv_ldc2 hx hb S.2.2.2.1 (S.2.2.2.2 _ (List.mem_cons_of_mem _ q901)) dX2_mixInto_24 ?_
  refine lv_lload_n hx hb dX2_mixInto_27 rfl (lv_at hl 0 rfl) ?_
  refine lv_lmul hx hb dX2_mixInto_28 ?_
  refine lv_aload_n hx hb dX2_mixInto_29 rfl (lv_at hl 1 rfl) ?_
  refine gX_drum_axle S hK hP q33 dX2_mixInto_30 ?_
  refine lv_i2l (v := ((gi σ 2)).toInt64) hx hb dX2_mixInto_33 rfl ?_
  refine lv_ladd hx hb dX2_mixInto_34 ?_
  refine lv_lstore_n (lv' := [(3, .long (((31 : Int64) * (((31 : Int64) * (((31 : Int64) * v1) + (((gi σ 0)).toInt64))) + (((gi σ 1)).toInt64))) + (((gi σ 2)).toInt64))), (0, .ref (ad 1)), (1, .long v1)]) hx hb dX2_mixInto_35 rfl hl (by decide) rfl (fun ls hl => ?_)
  refine lv_ldc2 hx hb S.2.2.2.1 (S.2.2.2.2 _ (List.mem_cons_of_mem _ q901)) dX2_mixInto_36 ?_
  refine lv_lload_n hx hb dX2_mixInto_39 rfl (lv_at hl 0 rfl) ?_
  refine lv_lmul hx hb dX2_mixInto_40 ?_
  refine lv_aload_n hx hb dX2_mixInto_41 rfl (lv_at hl 1 rfl) ?_
  refine gX_drum_friction S hK hP q35 dX2_mixInto_42 ?_
  refine lv_i2l (v := ((gi σ 3)).toInt64) hx hb dX2_mixInto_45 rfl ?_
  refine lv_ladd hx hb dX2_mixInto_46 ?_
  refine lv_lstore_n (lv' := [(3, .long (((31 : Int64) * (((31 : Int64) * (((31 : Int64) * (((31 : Int64) * v1) + (((gi σ 0)).toInt64))) + (((gi σ 1)).toInt64))) + (((gi σ 2)).toInt64))) + (((gi σ 3)).toInt64))), (0, .ref (ad 1)), (1, .long v1)]) hx hb dX2_mixInto_47 rfl hl (by decide) rfl (fun ls hl => ?_)
  refine lv_ldc2 hx hb S.2.2.2.1 (S.2.2.2.2 _ (List.mem_cons_of_mem _ q901)) dX2_mixInto_48 ?_
  refine lv_lload_n hx hb dX2_mixInto_51 rfl (lv_at hl 0 rfl) ?_
  refine lv_lmul hx hb dX2_mixInto_52 ?_
  refine lv_aload_n hx hb dX2_mixInto_53 rfl (lv_at hl 1 rfl) ?_
  refine gX_drum_thickness S hK hP q37 dX2_mixInto_54 ?_
  refine lv_i2l (v := ((gi σ 4)).toInt64) hx hb dX2_mixInto_57 rfl ?_
  refine lv_ladd hx hb dX2_mixInto_58 ?_
  refine lv_lstore_n (lv' := [(3, .long (((31 : Int64) * (((31 : Int64) * (((31 : Int64) * (((31 : Int64) * (((31 : Int64) * v1) + (((gi σ 0)).toInt64))) + (((gi σ 1)).toInt64))) + (((gi σ 2)).toInt64))) + (((gi σ 3)).toInt64))) + (((gi σ 4)).toInt64))), (0, .ref (ad 1)), (1, .long v1)]) hx hb dX2_mixInto_59 rfl hl (by decide) rfl (fun ls hl => ?_)
  refine lv_ldc2 hx hb S.2.2.2.1 (S.2.2.2.2 _ (List.mem_cons_of_mem _ q901)) dX2_mixInto_60 ?_
  refine lv_lload_n hx hb dX2_mixInto_63 rfl (lv_at hl 0 rfl) ?_
  refine lv_lmul hx hb dX2_mixInto_64 ?_
  refine lv_aload_n hx hb dX2_mixInto_65 rfl (lv_at hl 1 rfl) ?_
  refine gX_drum_turnsOfLayer S hK hP q39 dX2_mixInto_66 ?_
  refine lv_i2l (v := ((gi σ 5)).toInt64) hx hb dX2_mixInto_69 rfl ?_
  refine lv_ladd hx hb dX2_mixInto_70 ?_
  exact u_lretr hx hb hr hlocks hP hD hS dX2_mixInto_71 hf (fun _ => rfl)
theorem iX3_append : YI yX3_append cX3_append 3 (some .int) 2 := ⟨q793, q11, by decide, by decide, by decide +kernel⟩
theorem vX3_append : YV yX3_append := ⟨q791, q792⟩
set_option maxRecDepth 100000 in
set_option maxHeartbeats 4000000 in
theorem c_X3_append (l : Launch) (D : va_G) (cy : Nat → ClassId) (ad : Nat → Nat) (σ : St) (v1 : Int32) (v2 : Int32) (q : Int32 × St) (hf : fX3_append σ v1 v2 = some q) : Ci l D cy (wX cy ad) yX3_append cX3_append 3 .int 0 0 [.ref (ad 9), .int v1, .int v2] σ q.1 q.2 0 0 := by
  refine Ci.enter (by decide) (Nat.le_of_ble_eq_true rfl) ?_
  intro aw ac p e s m below meth c A H locs S hr hlocks hA hK hP hD hS ls hl
  have hx := S.1
  have hb := S.2.1
  have hl : lv_has ls 3 [(0, .ref (ad 9)), (1, .int v1), (2, .int v2)] := hl
  unfold fX3_append at hf
  refine lv_aload_n hx hb dX3_append_0 rfl (lv_at hl 0 rfl) ?_
  refine gX_outline_size S hK hP q284 dX3_append_1 ?_
  refine lv_bipush (v := (8 : Int32)) hx hb dX3_append_4 (by decide) ?_
  refine lv_icmp_lt (tgt := 12) hx hb dX3_append_6 (by decide) (fun c6 => ?_) (fun c6 => ?_)
  · have hf := ifp c6 hf
    refine lv_aload_n hx hb dX3_append_12 rfl (lv_at hl 0 rfl) ?_
    refine gX_outline_xs S hK hP q282 dX3_append_13 ?_
    refine lv_aload_n hx hb dX3_append_16 rfl (lv_at hl 0 rfl) ?_
    refine gX_outline_size S hK hP q284 dX3_append_17 ?_
    refine lv_iload_n hx hb dX3_append_20 rfl (lv_at hl 1 rfl) ?_
    obtain ⟨h21, hf⟩ := if_in hf
    refine tX_41 S hK hP hD hS h21 dX3_append_21 (fun H locs hP hD hS => ?_)
    refine lv_aload_n hx hb dX3_append_22 rfl (lv_at hl 0 rfl) ?_
    refine gX_outline_ys S hK hP q283 dX3_append_23 ?_
    refine lv_aload_n hx hb dX3_append_26 rfl (lv_at hl 0 rfl) ?_
    refine gX_outline_size S hK hP q284 dX3_append_27 ?_
    refine lv_iload_n hx hb dX3_append_30 rfl (lv_at hl 2 rfl) ?_
    obtain ⟨h31, hf⟩ := if_in hf
    refine tX_42 S hK hP hD hS h31 dX3_append_31 (fun H locs hP hD hS => ?_)
    refine lv_aload_n hx hb dX3_append_32 rfl (lv_at hl 0 rfl) ?_
    refine lv_dup hx hb dX3_append_33 rfl ?_
    refine gX_outline_size S hK hP q284 dX3_append_34 ?_
    refine lv_iconst (v := (1 : Int32)) hx hb dX3_append_37 (by decide) ?_
    refine lv_iadd hx hb dX3_append_38 ?_
    refine pX_outline_size S hK hP hD hS q284 dX3_append_39 (fun H locs hP hD hS => ?_)
    refine lv_aload_n hx hb dX3_append_42 rfl (lv_at hl 0 rfl) ?_
    refine gX_outline_size S hK hP q284 dX3_append_43 ?_
    exact u_iretw hx hb hr hlocks rfl hP hD hS dX3_append_46 hf (fun _ => rfl)
  · have hf := ifn c6 hf
    refine lv_bipush (v := (-4 : Int32)) hx hb dX3_append_9 (by decide) ?_
    exact u_iretw hx hb hr hlocks rfl hP hD hS dX3_append_11 hf (fun _ => rfl)
theorem iX3_after : YI yX3_after cX3_after 2 (some .int) 1 := ⟨q809, q11, by decide, by decide, by decide +kernel⟩
theorem vX3_after : YV yX3_after := ⟨q808, qs24⟩
set_option maxRecDepth 100000 in
set_option maxHeartbeats 4000000 in
theorem c_X3_after (l : Launch) (D : va_G) (cy : Nat → ClassId) (ad : Nat → Nat) (σ : St) (v1 : Int32) (r : Int32) (hf : fX3_after σ v1 = some r) : Ci l D cy (wX cy ad) yX3_after cX3_after 2 .int 0 0 [.ref (ad 9), .int v1] σ r σ 0 0 := by
  refine Ci.enter (by decide) (Nat.le_of_ble_eq_true rfl) ?_
  intro aw ac p e s m below meth c A H locs S hr hlocks hA hK hP hD hS ls hl
  have hx := S.1
  have hb := S.2.1
  have hl : lv_has ls 2 [(0, .ref (ad 9)), (1, .int v1)] := hl
  unfold fX3_after at hf
  refine lv_iload_n hx hb dX3_after_0 rfl (lv_at hl 1 rfl) ?_
  refine lv_iconst (v := (1 : Int32)) hx hb dX3_after_1 (by decide) ?_
  refine lv_iadd hx hb dX3_after_2 ?_
  refine lv_aload_n hx hb dX3_after_3 rfl (lv_at hl 0 rfl) ?_
  refine gX_outline_size S hK hP q284 dX3_after_4 ?_
  refine lv_icmp_ge (tgt := 16) hx hb dX3_after_7 (by decide) (fun c7 => ?_) (fun c7 => ?_)
  · have hf := ifp c7 hf
    refine lv_iconst (v := (0 : Int32)) hx hb dX3_after_16 (by decide) ?_
    exact u_iretr hx hb hr hlocks rfl hP hD hS dX3_after_17 hf (fun _ => rfl)
  · have hf := ifn c7 hf
    refine lv_iload_n hx hb dX3_after_10 rfl (lv_at hl 1 rfl) ?_
    refine lv_iconst (v := (1 : Int32)) hx hb dX3_after_11 (by decide) ?_
    refine lv_iadd hx hb dX3_after_12 ?_
    refine lv_goto (tgt := 17) hx hb dX3_after_13 (by decide) ?_
    exact u_iretr hx hb hr hlocks rfl hP hD hS dX3_after_17 hf (fun _ => rfl)
theorem iX3_cross : YI yX3_cross cX3_cross 3 (some .long) 1 := ⟨q805, q11, by decide, by decide, by decide +kernel⟩
theorem vX3_cross : YV yX3_cross := ⟨q804, qs23⟩
set_option maxRecDepth 100000 in
set_option maxHeartbeats 4000000 in
theorem c_X3_cross (l : Launch) (D : va_G) (cy : Nat → ClassId) (ad : Nat → Nat) (σ : St) (v1 : Int32) (r : Int64) (hf : fX3_cross σ v1 = some r) : Cl l D cy (wX cy ad) yX3_cross cX3_cross 3 1 21 [.ref (ad 9), .int v1] σ r σ 0 0 := by
  refine Cl.enter (by decide) (Nat.le_of_ble_eq_true rfl) ?_
  intro aw ac p e s m below meth c A H locs S hr hlocks hA hK hP hD hS ls hl
  have hx := S.1
  have hb := S.2.1
  have hl : lv_has ls 3 [(0, .ref (ad 9)), (1, .int v1)] := hl
  unfold fX3_cross at hf
  refine lv_aload_n hx hb dX3_cross_0 rfl (lv_at hl 0 rfl) ?_
  refine lv_iload_n hx hb dX3_cross_1 rfl (lv_at hl 1 rfl) ?_
  obtain ⟨r2, h2, hf⟩ := ob_some hf
  refine u_calli0 (u_runV (rest := []) S (c_X3_after l D cy ad σ v1 r2 h2 aw ac H.size) iX3_after vX3_after q806 ⟨Nat.le_of_ble_eq_true rfl, Nat.le_of_ble_eq_true rfl⟩ hK hP hD (q0 := 9) rfl rfl rfl hl.1 (Nat.le_of_ble_eq_true rfl) dX3_cross_2 ⟨Nat.le_refl _, Nat.le_refl _⟩) hD hS hA (fun H locs hP hD hS => ?_)
  refine lv_istore_n (lv' := [(2, .int r2), (0, .ref (ad 9)), (1, .int v1)]) hx hb dX3_cross_5 rfl hl (by decide) rfl (fun ls hl => ?_)
  refine lv_aload_n hx hb dX3_cross_6 rfl (lv_at hl 1 rfl) ?_
  refine gX_outline_xs S hK hP q282 dX3_cross_7 ?_
  refine lv_iload_n hx hb dX3_cross_10 rfl (lv_at hl 2 rfl) ?_
  obtain ⟨h11, hf⟩ := if_in hf
  refine lX_41 S hK hP h11 dX3_cross_11 ?_
  refine lv_i2l (v := ((ga σ 41 v1.toNatClampNeg)).toInt64) hx hb dX3_cross_12 rfl ?_
  refine lv_aload_n hx hb dX3_cross_13 rfl (lv_at hl 1 rfl) ?_
  refine gX_outline_ys S hK hP q283 dX3_cross_14 ?_
  refine lv_iload_n hx hb dX3_cross_17 rfl (lv_at hl 0 rfl) ?_
  obtain ⟨h18, hf⟩ := if_in hf
  refine lX_42 S hK hP h18 dX3_cross_18 ?_
  refine lv_i2l (v := ((ga σ 42 r2.toNatClampNeg)).toInt64) hx hb dX3_cross_19 rfl ?_
  refine lv_lmul hx hb dX3_cross_20 ?_
  refine lv_aload_n hx hb dX3_cross_21 rfl (lv_at hl 1 rfl) ?_
  refine gX_outline_xs S hK hP q282 dX3_cross_22 ?_
  refine lv_iload_n hx hb dX3_cross_25 rfl (lv_at hl 0 rfl) ?_
  obtain ⟨h26, hf⟩ := if_in hf
  refine lX_41 S hK hP h26 dX3_cross_26 ?_
  refine lv_i2l (v := ((ga σ 41 r2.toNatClampNeg)).toInt64) hx hb dX3_cross_27 rfl ?_
  refine lv_aload_n hx hb dX3_cross_28 rfl (lv_at hl 1 rfl) ?_
  refine gX_outline_ys S hK hP q283 dX3_cross_29 ?_
  refine lv_iload_n hx hb dX3_cross_32 rfl (lv_at hl 2 rfl) ?_
  obtain ⟨h33, hf⟩ := if_in hf
  refine lX_42 S hK hP h33 dX3_cross_33 ?_
  refine lv_i2l (v := ((ga σ 42 v1.toNatClampNeg)).toInt64) hx hb dX3_cross_34 rfl ?_
  refine lv_lmul hx hb dX3_cross_35 ?_
  refine lv_lsub hx hb dX3_cross_36 ?_
  exact u_lretr hx hb hr hlocks hP hD hS dX3_cross_37 hf (fun _ => rfl)
theorem iX3_twiceArea : YI yX3_twiceArea cX3_twiceArea 4 (some .long) 0 := ⟨q801, q11, by decide, by decide, by decide +kernel⟩
theorem vX3_twiceArea : YV yX3_twiceArea := ⟨q799, q800⟩
set_option maxRecDepth 100000 in
set_option maxHeartbeats 4000000 in
theorem c_X3_twiceArea (l : Launch) (D : va_G) (cy : Nat → ClassId) (ad : Nat → Nat) (σ : St) (r : Int64) (hf : fX3_twiceArea σ = some r) : Cl l D cy (wX cy ad) yX3_twiceArea cX3_twiceArea 4 2 43 [.ref (ad 9)] σ r σ 0 0 := by
  refine Cl.enter (by decide) (Nat.le_of_ble_eq_true rfl) ?_
  intro aw ac p e s m below meth c A H locs S hr hlocks hA hK hP hD hS ls hl
  have hx := S.1
  have hb := S.2.1
  have hl : lv_has ls 4 [(0, .ref (ad 9))] := hl
  unfold fX3_twiceArea at hf
  refine lv_lconst (v := (0 : Int64)) hx hb dX3_twiceArea_0 (by decide) ?_
  refine lv_lstore_n (lv' := [(1, .long (0 : Int64)), (0, .ref (ad 9))]) hx hb dX3_twiceArea_1 rfl hl (by decide) rfl (fun ls hl => ?_)
  refine lv_iconst (v := (0 : Int32)) hx hb dX3_twiceArea_2 (by decide) ?_
  refine lv_istore_n (lv' := [(3, .int (0 : Int32)), (1, .long (0 : Int64)), (0, .ref (ad 9))]) hx hb dX3_twiceArea_3 rfl hl (by decide) rfl (fun ls hl => ?_)
  have L4 : ∀ (n4 : Nat) (v1_4 : Int64) (v3_4 : Int32) (H : Heap) (locs : List Loc) (ls : Array Slot), fX3_twiceArea_4 (fX3_twiceArea_4_k σ) σ n4 v1_4 v3_4 = some r → va_P D vwCl (wX cy ad aw ac σ) H → va_D A (wX cy ad aw ac σ) → va_S A s.heap H locs → lv_has ls 4 [(0, .ref (ad 9)), (1, .long v1_4), (3, .int v3_4)] → W p l e (Rm 2 43 0 0) s m [.ref (ad 9)].toArray below meth c H locs 0 0 (Zl D (wX cy ad) A r σ aw ac below [.ref (ad 9)].toArray s 0 0) (F0 m 4 ls []) := by
    intro n4
    induction n4 with
    | zero =>
      intro v1_4 v3_4 H locs ls hf
      cases hf
    | succ n4 ih4 =>
      intro v1_4 v3_4 H locs ls hf hP hD hS hl
      rw [fX3_twiceArea_4] at hf
      refine lv_iload_n hx hb dX3_twiceArea_4 rfl (lv_at hl 2 rfl) ?_
      refine lv_aload_n hx hb dX3_twiceArea_5 rfl (lv_at hl 0 rfl) ?_
      refine gX_outline_size S hK hP q284 dX3_twiceArea_6 ?_
      refine lv_icmp_ge (tgt := 26) hx hb dX3_twiceArea_9 (by decide) (fun c9 => ?_) (fun c9 => ?_)
      · have hf := ifp c9 hf
        have hl := lv_sub (l' := [(0, .ref (ad 9)), (1, .long v1_4), (3, .int v3_4)]) hl [0, 1, 2] rfl
        unfold fX3_twiceArea_4_k at hf
        refine lv_lload_n hx hb dX3_twiceArea_26 rfl (lv_at hl 1 rfl) ?_
        exact u_lretr hx hb hr hlocks hP hD hS dX3_twiceArea_27 hf (fun _ => rfl)
      · have hf := ifn c9 hf
        refine lv_lload_n hx hb dX3_twiceArea_12 rfl (lv_at hl 1 rfl) ?_
        refine lv_aload_n hx hb dX3_twiceArea_13 rfl (lv_at hl 0 rfl) ?_
        refine lv_iload_n hx hb dX3_twiceArea_14 rfl (lv_at hl 2 rfl) ?_
        obtain ⟨r15, h15, hf⟩ := ob_some hf
        refine u_calll0 (u_runV (rest := [.long v1_4]) S (c_X3_cross l D cy ad σ v3_4 r15 h15 aw ac H.size) iX3_cross vX3_cross q802 ⟨Nat.le_of_ble_eq_true rfl, Nat.le_of_ble_eq_true rfl⟩ hK hP hD (q0 := 9) rfl rfl rfl hl.1 (Nat.le_of_ble_eq_true rfl) dX3_twiceArea_15 ⟨Nat.le_refl _, Nat.le_refl _⟩) hD hS hA (fun H locs hP hD hS => ?_)
        refine lv_ladd hx hb dX3_twiceArea_18 ?_
        refine lv_lstore_n (lv' := [(1, .long (v1_4 + r15)), (0, .ref (ad 9)), (3, .int v3_4)]) hx hb dX3_twiceArea_19 rfl hl (by decide) rfl (fun ls hl => ?_)
        refine lv_iinc (v := (v3_4 + (1 : Int32))) (lv' := [(3, .int (v3_4 + (1 : Int32))), (1, .long (v1_4 + r15)), (0, .ref (ad 9))]) hx hb dX3_twiceArea_20 hl (k := 2) rfl rfl (by decide) rfl (fun ls hl => ?_)
        refine lv_goto (tgt := 4) hx hb dX3_twiceArea_23 (by decide) ?_
        exact ih4 (v1_4 + r15) (v3_4 + (1 : Int32)) H locs ls hf hP hD hS (lv_sub hl [2, 1, 0] rfl)
  exact L4 KF (0 : Int64) (0 : Int32) H locs ls hf hP hD hS (lv_sub hl [2, 1, 0] rfl)
theorem iX3_hasMiddle : YI yX3_hasMiddle cX3_hasMiddle 1 (some .boolean) 0 := ⟨q821, q11, by decide, by decide, by decide +kernel⟩
theorem vX3_hasMiddle : YV yX3_hasMiddle := ⟨q819, q820⟩
set_option maxRecDepth 100000 in
set_option maxHeartbeats 4000000 in
theorem c_X3_hasMiddle (l : Launch) (D : va_G) (cy : Nat → ClassId) (ad : Nat → Nat) (σ : St) (r : Int32) (hf : fX3_hasMiddle σ = some r) : Ci l D cy (wX cy ad) yX3_hasMiddle cX3_hasMiddle 1 .boolean 3 66 [.ref (ad 9)] σ r σ 0 0 := by
  refine Ci.enter (by decide) (Nat.le_of_ble_eq_true rfl) ?_
  intro aw ac p e s m below meth c A H locs S hr hlocks hA hK hP hD hS ls hl
  have hx := S.1
  have hb := S.2.1
  have hl : lv_has ls 1 [(0, .ref (ad 9))] := hl
  unfold fX3_hasMiddle at hf
  refine lv_aload_n hx hb dX3_hasMiddle_0 rfl (lv_at hl 0 rfl) ?_
  refine gX_outline_size S hK hP q284 dX3_hasMiddle_1 ?_
  refine lv_iconst (v := (3 : Int32)) hx hb dX3_hasMiddle_4 (by decide) ?_
  refine lv_icmp_lt (tgt := 21) hx hb dX3_hasMiddle_5 (by decide) (fun c5 => ?_) (fun c5 => ?_)
  · have hf := ifp c5 hf
    refine lv_iconst (v := (0 : Int32)) hx hb dX3_hasMiddle_21 (by decide) ?_
    exact u_iretr hx hb hr hlocks rfl hP hD hS dX3_hasMiddle_22 hf (fun _ => rfl)
  · have hf := ifn c5 hf
    refine lv_aload_n hx hb dX3_hasMiddle_8 rfl (lv_at hl 0 rfl) ?_
    obtain ⟨r9, h9, hf⟩ := ob_some hf
    refine u_calll0 (u_runV (rest := []) S (c_X3_twiceArea l D cy ad σ r9 h9 aw ac H.size) iX3_twiceArea vX3_twiceArea q822 ⟨Nat.le_of_ble_eq_true rfl, Nat.le_of_ble_eq_true rfl⟩ hK hP hD (q0 := 9) rfl rfl rfl hl.1 (Nat.le_of_ble_eq_true rfl) dX3_hasMiddle_9 ⟨Nat.le_refl _, Nat.le_refl _⟩) hD hS hA (fun H locs hP hD hS => ?_)
    refine lv_lconst (v := (0 : Int64)) hx hb dX3_hasMiddle_12 (by decide) ?_
    refine W.lcmp hx hb dX3_hasMiddle_13 ?_
    refine lv_if_eq (tgt := 21) hx hb dX3_hasMiddle_14 (by decide) (fun c14 => ?_) (fun c14 => ?_)
    · have c14 := (lg_cmp_eq _ _).mp c14
      have hf := ifp c14 hf
      refine lv_iconst (v := (0 : Int32)) hx hb dX3_hasMiddle_21 (by decide) ?_
      exact u_iretr hx hb hr hlocks rfl hP hD hS dX3_hasMiddle_22 hf (fun _ => rfl)
    · have c14 := (not_congr (lg_cmp_eq _ _)).mp c14
      have hf := ifn c14 hf
      refine lv_iconst (v := (1 : Int32)) hx hb dX3_hasMiddle_17 (by decide) ?_
      refine lv_goto (tgt := 22) hx hb dX3_hasMiddle_18 (by decide) ?_
      exact u_iretr hx hb hr hlocks rfl hP hD hS dX3_hasMiddle_22 hf (fun _ => rfl)
theorem iX3_middleAbove : YI yX3_middleAbove cX3_middleAbove 5 (some .long) 1 := ⟨q831, q11, by decide, by decide, by decide +kernel⟩
theorem vX3_middleAbove : YV yX3_middleAbove := ⟨q830, qs25⟩
set_option maxRecDepth 100000 in
set_option maxHeartbeats 4000000 in
theorem c_X3_middleAbove_xs (l : Launch) (D : va_G) (cy : Nat → ClassId) (ad : Nat → Nat) (σ : St) (r : Int64) (hf : fX3_middleAbove_xs σ = some r) : Cl l D cy (wX cy ad) yX3_middleAbove cX3_middleAbove 5 3 66 [.ref (ad 9), .ref (ad 41)] σ r σ 0 0 := by
  refine Cl.enter (by decide) (Nat.le_of_ble_eq_true rfl) ?_
  intro aw ac p e s m below meth c A H locs S hr hlocks hA hK hP hD hS ls hl
  have hx := S.1
  have hb := S.2.1
  have hl : lv_has ls 5 [(0, .ref (ad 9)), (1, .ref (ad 41))] := hl
  unfold fX3_middleAbove_xs at hf
  refine lv_lconst (v := (0 : Int64)) hx hb dX3_middleAbove_0 (by decide) ?_
  refine lv_lstore_n (lv' := [(2, .long (0 : Int64)), (0, .ref (ad 9)), (1, .ref (ad 41))]) hx hb dX3_middleAbove_1 rfl hl (by decide) rfl (fun ls hl => ?_)
  refine lv_iconst (v := (0 : Int32)) hx hb dX3_middleAbove_2 (by decide) ?_
  refine lv_istore (lv' := [(4, .int (0 : Int32)), (2, .long (0 : Int64)), (0, .ref (ad 9)), (1, .ref (ad 41))]) hx hb dX3_middleAbove_3 hl (by decide) rfl (fun ls hl => ?_)
  have L5 : ∀ (n5 : Nat) (v2_5 : Int64) (v4_5 : Int32) (H : Heap) (locs : List Loc) (ls : Array Slot), fX3_middleAbove_xs_5 (fX3_middleAbove_xs_5_k σ) σ n5 v2_5 v4_5 = some r → va_P D vwCl (wX cy ad aw ac σ) H → va_D A (wX cy ad aw ac σ) → va_S A s.heap H locs → lv_has ls 5 [(0, .ref (ad 9)), (1, .ref (ad 41)), (2, .long v2_5), (4, .int v4_5)] → W p l e (Rm 3 66 0 0) s m [.ref (ad 9), .ref (ad 41)].toArray below meth c H locs 0 0 (Zl D (wX cy ad) A r σ aw ac below [.ref (ad 9), .ref (ad 41)].toArray s 0 0) (F0 m 5 ls []) := by
    intro n5
    induction n5 with
    | zero =>
      intro v2_5 v4_5 H locs ls hf
      cases hf
    | succ n5 ih5 =>
      intro v2_5 v4_5 H locs ls hf hP hD hS hl
      rw [fX3_middleAbove_xs_5] at hf
      refine lv_iload hx hb dX3_middleAbove_5 (lv_at hl 3 rfl) ?_
      refine lv_aload_n hx hb dX3_middleAbove_7 rfl (lv_at hl 0 rfl) ?_
      refine gX_outline_size S hK hP q284 dX3_middleAbove_8 ?_
      refine lv_icmp_ge (tgt := 44) hx hb dX3_middleAbove_11 (by decide) (fun c11 => ?_) (fun c11 => ?_)
      · have hf := ifp c11 hf
        have hl := lv_sub (l' := [(0, .ref (ad 9)), (1, .ref (ad 41)), (2, .long v2_5), (4, .int v4_5)]) hl [0, 1, 2, 3] rfl
        unfold fX3_middleAbove_xs_5_k at hf
        refine lv_aload_n hx hb dX3_middleAbove_44 rfl (lv_at hl 0 rfl) ?_
        obtain ⟨r45, h45, hf⟩ := ob_some hf
        refine u_calll0 (u_runV (rest := []) S (c_X3_twiceArea l D cy ad σ r45 h45 aw ac H.size) iX3_twiceArea vX3_twiceArea q822 ⟨Nat.le_of_ble_eq_true rfl, Nat.le_of_ble_eq_true rfl⟩ hK hP hD (q0 := 9) rfl rfl rfl hl.1 (Nat.le_of_ble_eq_true rfl) dX3_middleAbove_45 ⟨Nat.le_refl _, Nat.le_refl _⟩) hD hS hA (fun H locs hP hD hS => ?_)
        refine lv_lconst (v := (0 : Int64)) hx hb dX3_middleAbove_48 (by decide) ?_
        refine W.lcmp hx hb dX3_middleAbove_49 ?_
        refine lv_if_ge (tgt := 58) hx hb dX3_middleAbove_50 (by decide) (fun c50 => ?_) (fun c50 => ?_)
        · have c50 := (lg_cmp_ge _ _).mp c50
          have hf := ifp c50 hf
          refine lv_lload_n hx hb dX3_middleAbove_58 rfl (lv_at hl 2 rfl) ?_
          exact u_lretr hx hb hr hlocks hP hD hS dX3_middleAbove_59 hf (fun _ => rfl)
        · have c50 := (not_congr (lg_cmp_ge _ _)).mp c50
          have hf := ifn c50 hf
          refine lv_lload_n hx hb dX3_middleAbove_53 rfl (lv_at hl 2 rfl) ?_
          refine lv_lneg hx hb dX3_middleAbove_54 ?_
          refine lv_goto (tgt := 59) hx hb dX3_middleAbove_55 (by decide) ?_
          exact u_lretr hx hb hr hlocks hP hD hS dX3_middleAbove_59 hf (fun _ => rfl)
      · have hf := ifn c11 hf
        refine lv_lload_n hx hb dX3_middleAbove_14 rfl (lv_at hl 2 rfl) ?_
        refine lv_aload_n hx hb dX3_middleAbove_15 rfl (lv_at hl 1 rfl) ?_
        refine lv_iload hx hb dX3_middleAbove_16 (lv_at hl 3 rfl) ?_
        obtain ⟨h18, hf⟩ := if_in hf
        refine lX_41 S hK hP h18 dX3_middleAbove_18 ?_
        refine lv_aload_n hx hb dX3_middleAbove_19 rfl (lv_at hl 1 rfl) ?_
        refine lv_aload_n hx hb dX3_middleAbove_20 rfl (lv_at hl 0 rfl) ?_
        refine lv_iload hx hb dX3_middleAbove_21 (lv_at hl 3 rfl) ?_
        obtain ⟨r23, h23, hf⟩ := ob_some hf
        refine u_calli0 (u_runV (rest := [.ref (ad 41), .int (ga σ 41 v4_5.toNatClampNeg), .long v2_5]) S (c_X3_after l D cy ad σ v4_5 r23 h23 aw ac H.size) iX3_after vX3_after q806 ⟨Nat.le_of_ble_eq_true rfl, Nat.le_of_ble_eq_true rfl⟩ hK hP hD (q0 := 9) rfl rfl rfl hl.1 (Nat.le_of_ble_eq_true rfl) dX3_middleAbove_23 ⟨Nat.le_refl _, Nat.le_refl _⟩) hD hS hA (fun H locs hP hD hS => ?_)
        obtain ⟨h26, hf⟩ := if_in hf
        refine lX_41 S hK hP h26 dX3_middleAbove_26 ?_
        refine lv_iadd hx hb dX3_middleAbove_27 ?_
        refine lv_i2l (v := (((ga σ 41 v4_5.toNatClampNeg) + (ga σ 41 r23.toNatClampNeg))).toInt64) hx hb dX3_middleAbove_28 rfl ?_
        refine lv_aload_n hx hb dX3_middleAbove_29 rfl (lv_at hl 0 rfl) ?_
        refine lv_iload hx hb dX3_middleAbove_30 (lv_at hl 3 rfl) ?_
        obtain ⟨r32, h32, hf⟩ := ob_some hf
        refine u_calll0 (u_runV (rest := [.long ((((ga σ 41 v4_5.toNatClampNeg) + (ga σ 41 r23.toNatClampNeg))).toInt64), .long v2_5]) S (c_X3_cross l D cy ad σ v4_5 r32 h32 aw ac H.size) iX3_cross vX3_cross q802 ⟨Nat.le_of_ble_eq_true rfl, Nat.le_of_ble_eq_true rfl⟩ hK hP hD (q0 := 9) rfl rfl rfl hl.1 (Nat.le_of_ble_eq_true rfl) dX3_middleAbove_32 ⟨Nat.le_refl _, Nat.le_refl _⟩) hD hS hA (fun H locs hP hD hS => ?_)
        refine lv_lmul hx hb dX3_middleAbove_35 ?_
        refine lv_ladd hx hb dX3_middleAbove_36 ?_
        refine lv_lstore_n (lv' := [(2, .long (v2_5 + (((((ga σ 41 v4_5.toNatClampNeg) + (ga σ 41 r23.toNatClampNeg))).toInt64) * r32))), (0, .ref (ad 9)), (1, .ref (ad 41)), (4, .int v4_5)]) hx hb dX3_middleAbove_37 rfl hl (by decide) rfl (fun ls hl => ?_)
        refine lv_iinc (v := (v4_5 + (1 : Int32))) (lv' := [(4, .int (v4_5 + (1 : Int32))), (2, .long (v2_5 + (((((ga σ 41 v4_5.toNatClampNeg) + (ga σ 41 r23.toNatClampNeg))).toInt64) * r32))), (0, .ref (ad 9)), (1, .ref (ad 41))]) hx hb dX3_middleAbove_38 hl (k := 3) rfl rfl (by decide) rfl (fun ls hl => ?_)
        refine lv_goto (tgt := 5) hx hb dX3_middleAbove_41 (by decide) ?_
        exact ih5 (v2_5 + (((((ga σ 41 v4_5.toNatClampNeg) + (ga σ 41 r23.toNatClampNeg))).toInt64) * r32)) (v4_5 + (1 : Int32)) H locs ls hf hP hD hS (lv_sub hl [2, 3, 1, 0] rfl)
  exact L5 KF (0 : Int64) (0 : Int32) H locs ls hf hP hD hS (lv_sub hl [2, 3, 1, 0] rfl)
set_option maxRecDepth 100000 in
set_option maxHeartbeats 4000000 in
theorem c_X3_middleAbove_ys (l : Launch) (D : va_G) (cy : Nat → ClassId) (ad : Nat → Nat) (σ : St) (r : Int64) (hf : fX3_middleAbove_ys σ = some r) : Cl l D cy (wX cy ad) yX3_middleAbove cX3_middleAbove 5 3 66 [.ref (ad 9), .ref (ad 42)] σ r σ 0 0 := by
  refine Cl.enter (by decide) (Nat.le_of_ble_eq_true rfl) ?_
  intro aw ac p e s m below meth c A H locs S hr hlocks hA hK hP hD hS ls hl
  have hx := S.1
  have hb := S.2.1
  have hl : lv_has ls 5 [(0, .ref (ad 9)), (1, .ref (ad 42))] := hl
  unfold fX3_middleAbove_ys at hf
  refine lv_lconst (v := (0 : Int64)) hx hb dX3_middleAbove_0 (by decide) ?_
  refine lv_lstore_n (lv' := [(2, .long (0 : Int64)), (0, .ref (ad 9)), (1, .ref (ad 42))]) hx hb dX3_middleAbove_1 rfl hl (by decide) rfl (fun ls hl => ?_)
  refine lv_iconst (v := (0 : Int32)) hx hb dX3_middleAbove_2 (by decide) ?_
  refine lv_istore (lv' := [(4, .int (0 : Int32)), (2, .long (0 : Int64)), (0, .ref (ad 9)), (1, .ref (ad 42))]) hx hb dX3_middleAbove_3 hl (by decide) rfl (fun ls hl => ?_)
  have L5 : ∀ (n5 : Nat) (v2_5 : Int64) (v4_5 : Int32) (H : Heap) (locs : List Loc) (ls : Array Slot), fX3_middleAbove_ys_5 (fX3_middleAbove_ys_5_k σ) σ n5 v2_5 v4_5 = some r → va_P D vwCl (wX cy ad aw ac σ) H → va_D A (wX cy ad aw ac σ) → va_S A s.heap H locs → lv_has ls 5 [(0, .ref (ad 9)), (1, .ref (ad 42)), (2, .long v2_5), (4, .int v4_5)] → W p l e (Rm 3 66 0 0) s m [.ref (ad 9), .ref (ad 42)].toArray below meth c H locs 0 0 (Zl D (wX cy ad) A r σ aw ac below [.ref (ad 9), .ref (ad 42)].toArray s 0 0) (F0 m 5 ls []) := by
    intro n5
    induction n5 with
    | zero =>
      intro v2_5 v4_5 H locs ls hf
      cases hf
    | succ n5 ih5 =>
      intro v2_5 v4_5 H locs ls hf hP hD hS hl
      rw [fX3_middleAbove_ys_5] at hf
      refine lv_iload hx hb dX3_middleAbove_5 (lv_at hl 3 rfl) ?_
      refine lv_aload_n hx hb dX3_middleAbove_7 rfl (lv_at hl 0 rfl) ?_
      refine gX_outline_size S hK hP q284 dX3_middleAbove_8 ?_
      refine lv_icmp_ge (tgt := 44) hx hb dX3_middleAbove_11 (by decide) (fun c11 => ?_) (fun c11 => ?_)
      · have hf := ifp c11 hf
        have hl := lv_sub (l' := [(0, .ref (ad 9)), (1, .ref (ad 42)), (2, .long v2_5), (4, .int v4_5)]) hl [0, 1, 2, 3] rfl
        unfold fX3_middleAbove_ys_5_k at hf
        refine lv_aload_n hx hb dX3_middleAbove_44 rfl (lv_at hl 0 rfl) ?_
        obtain ⟨r45, h45, hf⟩ := ob_some hf
        refine u_calll0 (u_runV (rest := []) S (c_X3_twiceArea l D cy ad σ r45 h45 aw ac H.size) iX3_twiceArea vX3_twiceArea q822 ⟨Nat.le_of_ble_eq_true rfl, Nat.le_of_ble_eq_true rfl⟩ hK hP hD (q0 := 9) rfl rfl rfl hl.1 (Nat.le_of_ble_eq_true rfl) dX3_middleAbove_45 ⟨Nat.le_refl _, Nat.le_refl _⟩) hD hS hA (fun H locs hP hD hS => ?_)
        refine lv_lconst (v := (0 : Int64)) hx hb dX3_middleAbove_48 (by decide) ?_
        refine W.lcmp hx hb dX3_middleAbove_49 ?_
        refine lv_if_ge (tgt := 58) hx hb dX3_middleAbove_50 (by decide) (fun c50 => ?_) (fun c50 => ?_)
        · have c50 := (lg_cmp_ge _ _).mp c50
          have hf := ifp c50 hf
          refine lv_lload_n hx hb dX3_middleAbove_58 rfl (lv_at hl 2 rfl) ?_
          exact u_lretr hx hb hr hlocks hP hD hS dX3_middleAbove_59 hf (fun _ => rfl)
        · have c50 := (not_congr (lg_cmp_ge _ _)).mp c50
          have hf := ifn c50 hf
          refine lv_lload_n hx hb dX3_middleAbove_53 rfl (lv_at hl 2 rfl) ?_
          refine lv_lneg hx hb dX3_middleAbove_54 ?_
          refine lv_goto (tgt := 59) hx hb dX3_middleAbove_55 (by decide) ?_
          exact u_lretr hx hb hr hlocks hP hD hS dX3_middleAbove_59 hf (fun _ => rfl)
      · have hf := ifn c11 hf
        refine lv_lload_n hx hb dX3_middleAbove_14 rfl (lv_at hl 2 rfl) ?_
        refine lv_aload_n hx hb dX3_middleAbove_15 rfl (lv_at hl 1 rfl) ?_
        refine lv_iload hx hb dX3_middleAbove_16 (lv_at hl 3 rfl) ?_
        obtain ⟨h18, hf⟩ := if_in hf
        refine lX_42 S hK hP h18 dX3_middleAbove_18 ?_
        refine lv_aload_n hx hb dX3_middleAbove_19 rfl (lv_at hl 1 rfl) ?_
        refine lv_aload_n hx hb dX3_middleAbove_20 rfl (lv_at hl 0 rfl) ?_
        refine lv_iload hx hb dX3_middleAbove_21 (lv_at hl 3 rfl) ?_
        obtain ⟨r23, h23, hf⟩ := ob_some hf
        refine u_calli0 (u_runV (rest := [.ref (ad 42), .int (ga σ 42 v4_5.toNatClampNeg), .long v2_5]) S (c_X3_after l D cy ad σ v4_5 r23 h23 aw ac H.size) iX3_after vX3_after q806 ⟨Nat.le_of_ble_eq_true rfl, Nat.le_of_ble_eq_true rfl⟩ hK hP hD (q0 := 9) rfl rfl rfl hl.1 (Nat.le_of_ble_eq_true rfl) dX3_middleAbove_23 ⟨Nat.le_refl _, Nat.le_refl _⟩) hD hS hA (fun H locs hP hD hS => ?_)
        obtain ⟨h26, hf⟩ := if_in hf
        refine lX_42 S hK hP h26 dX3_middleAbove_26 ?_
        refine lv_iadd hx hb dX3_middleAbove_27 ?_
        refine lv_i2l (v := (((ga σ 42 v4_5.toNatClampNeg) + (ga σ 42 r23.toNatClampNeg))).toInt64) hx hb dX3_middleAbove_28 rfl ?_
        refine lv_aload_n hx hb dX3_middleAbove_29 rfl (lv_at hl 0 rfl) ?_
        refine lv_iload hx hb dX3_middleAbove_30 (lv_at hl 3 rfl) ?_
        obtain ⟨r32, h32, hf⟩ := ob_some hf
        refine u_calll0 (u_runV (rest := [.long ((((ga σ 42 v4_5.toNatClampNeg) + (ga σ 42 r23.toNatClampNeg))).toInt64), .long v2_5]) S (c_X3_cross l D cy ad σ v4_5 r32 h32 aw ac H.size) iX3_cross vX3_cross q802 ⟨Nat.le_of_ble_eq_true rfl, Nat.le_of_ble_eq_true rfl⟩ hK hP hD (q0 := 9) rfl rfl rfl hl.1 (Nat.le_of_ble_eq_true rfl) dX3_middleAbove_32 ⟨Nat.le_refl _, Nat.le_refl _⟩) hD hS hA (fun H locs hP hD hS => ?_)
        refine lv_lmul hx hb dX3_middleAbove_35 ?_
        refine lv_ladd hx hb dX3_middleAbove_36 ?_
        refine lv_lstore_n (lv' := [(2, .long (v2_5 + (((((ga σ 42 v4_5.toNatClampNeg) + (ga σ 42 r23.toNatClampNeg))).toInt64) * r32))), (0, .ref (ad 9)), (1, .ref (ad 42)), (4, .int v4_5)]) hx hb dX3_middleAbove_37 rfl hl (by decide) rfl (fun ls hl => ?_)
        refine lv_iinc (v := (v4_5 + (1 : Int32))) (lv' := [(4, .int (v4_5 + (1 : Int32))), (2, .long (v2_5 + (((((ga σ 42 v4_5.toNatClampNeg) + (ga σ 42 r23.toNatClampNeg))).toInt64) * r32))), (0, .ref (ad 9)), (1, .ref (ad 42))]) hx hb dX3_middleAbove_38 hl (k := 3) rfl rfl (by decide) rfl (fun ls hl => ?_)
        refine lv_goto (tgt := 5) hx hb dX3_middleAbove_41 (by decide) ?_
        exact ih5 (v2_5 + (((((ga σ 42 v4_5.toNatClampNeg) + (ga σ 42 r23.toNatClampNeg))).toInt64) * r32)) (v4_5 + (1 : Int32)) H locs ls hf hP hD hS (lv_sub hl [2, 3, 1, 0] rfl)
  exact L5 KF (0 : Int64) (0 : Int32) H locs ls hf hP hD hS (lv_sub hl [2, 3, 1, 0] rfl)
theorem iX3_middleX : YI yX3_middleX cX3_middleX 1 (some .long) 0 := ⟨q827, q11, by decide, by decide, by decide +kernel⟩
theorem vX3_middleX : YV yX3_middleX := ⟨q825, q826⟩
set_option maxRecDepth 100000 in
set_option maxHeartbeats 4000000 in
theorem c_X3_middleX (l : Launch) (D : va_G) (cy : Nat → ClassId) (ad : Nat → Nat) (σ : St) (r : Int64) (hf : fX3_middleX σ = some r) : Cl l D cy (wX cy ad) yX3_middleX cX3_middleX 1 4 90 [.ref (ad 9)] σ r σ 0 0 := by
  refine Cl.enter (by decide) (Nat.le_of_ble_eq_true rfl) ?_
  intro aw ac p e s m below meth c A H locs S hr hlocks hA hK hP hD hS ls hl
  have hx := S.1
  have hb := S.2.1
  have hl : lv_has ls 1 [(0, .ref (ad 9))] := hl
  unfold fX3_middleX at hf
  refine lv_aload_n hx hb dX3_middleX_0 rfl (lv_at hl 0 rfl) ?_
  refine lv_aload_n hx hb dX3_middleX_1 rfl (lv_at hl 0 rfl) ?_
  refine gX_outline_xs S hK hP q282 dX3_middleX_2 ?_
  obtain ⟨r5, h5, hf⟩ := ob_some hf
  refine u_calll0 (u_runV (rest := []) S (c_X3_middleAbove_xs l D cy ad σ r5 h5 aw ac H.size) iX3_middleAbove vX3_middleAbove q828 ⟨Nat.le_of_ble_eq_true rfl, Nat.le_of_ble_eq_true rfl⟩ hK hP hD (q0 := 9) rfl rfl rfl hl.1 (Nat.le_of_ble_eq_true rfl) dX3_middleX_5 ⟨Nat.le_refl _, Nat.le_refl _⟩) hD hS hA (fun H locs hP hD hS => ?_)
  exact u_lretr hx hb hr hlocks hP hD hS dX3_middleX_8 hf (fun _ => rfl)
theorem iX3_middleY : YI yX3_middleY cX3_middleY 1 (some .long) 0 := ⟨q835, q11, by decide, by decide, by decide +kernel⟩
theorem vX3_middleY : YV yX3_middleY := ⟨q833, q834⟩
set_option maxRecDepth 100000 in
set_option maxHeartbeats 4000000 in
theorem c_X3_middleY (l : Launch) (D : va_G) (cy : Nat → ClassId) (ad : Nat → Nat) (σ : St) (r : Int64) (hf : fX3_middleY σ = some r) : Cl l D cy (wX cy ad) yX3_middleY cX3_middleY 1 4 90 [.ref (ad 9)] σ r σ 0 0 := by
  refine Cl.enter (by decide) (Nat.le_of_ble_eq_true rfl) ?_
  intro aw ac p e s m below meth c A H locs S hr hlocks hA hK hP hD hS ls hl
  have hx := S.1
  have hb := S.2.1
  have hl : lv_has ls 1 [(0, .ref (ad 9))] := hl
  unfold fX3_middleY at hf
  refine lv_aload_n hx hb dX3_middleY_0 rfl (lv_at hl 0 rfl) ?_
  refine lv_aload_n hx hb dX3_middleY_1 rfl (lv_at hl 0 rfl) ?_
  refine gX_outline_ys S hK hP q283 dX3_middleY_2 ?_
  obtain ⟨r5, h5, hf⟩ := ob_some hf
  refine u_calll0 (u_runV (rest := []) S (c_X3_middleAbove_ys l D cy ad σ r5 h5 aw ac H.size) iX3_middleAbove vX3_middleAbove q828 ⟨Nat.le_of_ble_eq_true rfl, Nat.le_of_ble_eq_true rfl⟩ hK hP hD (q0 := 9) rfl rfl rfl hl.1 (Nat.le_of_ble_eq_true rfl) dX3_middleY_5 ⟨Nat.le_refl _, Nat.le_refl _⟩) hD hS hA (fun H locs hP hD hS => ?_)
  exact u_lretr hx hb hr hlocks hP hD hS dX3_middleY_8 hf (fun _ => rfl)
theorem iX3_middleBelow : YI yX3_middleBelow cX3_middleBelow 1 (some .long) 0 := ⟨q839, q11, by decide, by decide, by decide +kernel⟩
theorem vX3_middleBelow : YV yX3_middleBelow := ⟨q837, q838⟩
set_option maxRecDepth 100000 in
set_option maxHeartbeats 4000000 in
theorem c_X3_middleBelow (l : Launch) (D : va_G) (cy : Nat → ClassId) (ad : Nat → Nat) (σ : St) (r : Int64) (hf : fX3_middleBelow σ = some r) : Cl l D cy (wX cy ad) yX3_middleBelow cX3_middleBelow 1 3 66 [.ref (ad 9)] σ r σ 0 0 := by
  refine Cl.enter (by decide) (Nat.le_of_ble_eq_true rfl) ?_
  intro aw ac p e s m below meth c A H locs S hr hlocks hA hK hP hD hS ls hl
  have hx := S.1
  have hb := S.2.1
  have hl : lv_has ls 1 [(0, .ref (ad 9))] := hl
  unfold fX3_middleBelow at hf
  refine lv_ldc2 hx hb S.2.2.2.1 (S.2.2.2.2 _ (List.mem_cons_of_mem _ q840)) dX3_middleBelow_0 ?_
  refine lv_aload_n hx hb dX3_middleBelow_3 rfl (lv_at hl 0 rfl) ?_
  obtain ⟨r4, h4, hf⟩ := ob_some hf
  refine u_calll0 (u_runV (rest := [.long (3 : Int64)]) S (c_X3_twiceArea l D cy ad σ r4 h4 aw ac H.size) iX3_twiceArea vX3_twiceArea q822 ⟨Nat.le_of_ble_eq_true rfl, Nat.le_of_ble_eq_true rfl⟩ hK hP hD (q0 := 9) rfl rfl rfl hl.1 (Nat.le_of_ble_eq_true rfl) dX3_middleBelow_4 ⟨Nat.le_refl _, Nat.le_refl _⟩) hD hS hA (fun H locs hP hD hS => ?_)
  refine va_mabs_long hx hb (S.2.2.1.trans hl.1.symm) S.2.2.2.1 (S.2.2.2.2 _ (List.mem_cons_of_mem _ q841)) (S.2.2.2.2 _ (List.mem_cons_of_mem _ q811)) (S.2.2.2.2 _ (List.mem_cons_of_mem _ q13)) (S.2.2.2.2 _ (List.mem_cons_of_mem _ q812)) (Nat.le_of_ble_eq_true rfl) (Nat.le_of_ble_eq_true rfl) (Nat.zero_le _) (Nat.zero_le _) dX3_middleBelow_7 ?_
  refine lv_lmul hx hb dX3_middleBelow_10 ?_
  exact u_lretr hx hb hr hlocks hP hD hS dX3_middleBelow_11 hf (fun _ => rfl)
theorem iX3_tiltAbove : YI yX3_tiltAbove cX3_tiltAbove 3 (some .long) 2 := ⟨q856, q11, by decide, by decide, by decide +kernel⟩
theorem vX3_tiltAbove : YV yX3_tiltAbove := ⟨q854, q855⟩
set_option maxRecDepth 100000 in
set_option maxHeartbeats 4000000 in
theorem c_X3_tiltAbove (l : Launch) (D : va_G) (cy : Nat → ClassId) (ad : Nat → Nat) (σ : St) (v1 : Int32) (v2 : Int32) (r : Int64) (hf : fX3_tiltAbove σ v1 v2 = some r) : Cl l D cy (wX cy ad) yX3_tiltAbove cX3_tiltAbove 3 5 110 [.ref (ad 9), .int v1, .int v2] σ r σ 0 0 := by
  refine Cl.enter (by decide) (Nat.le_of_ble_eq_true rfl) ?_
  intro aw ac p e s m below meth c A H locs S hr hlocks hA hK hP hD hS ls hl
  have hx := S.1
  have hb := S.2.1
  have hl : lv_has ls 3 [(0, .ref (ad 9)), (1, .int v1), (2, .int v2)] := hl
  unfold fX3_tiltAbove at hf
  refine lv_ldc2 hx hb S.2.2.2.1 (S.2.2.2.2 _ (List.mem_cons_of_mem _ q857)) dX3_tiltAbove_0 ?_
  refine lv_aload_n hx hb dX3_tiltAbove_3 rfl (lv_at hl 0 rfl) ?_
  obtain ⟨r4, h4, hf⟩ := ob_some hf
  refine u_calll0 (u_runV (rest := [.long (2 : Int64)]) S (c_X3_middleX l D cy ad σ r4 h4 aw ac H.size) iX3_middleX vX3_middleX q858 ⟨Nat.le_of_ble_eq_true rfl, Nat.le_of_ble_eq_true rfl⟩ hK hP hD (q0 := 9) rfl rfl rfl hl.1 (Nat.le_of_ble_eq_true rfl) dX3_tiltAbove_4 ⟨Nat.le_refl _, Nat.le_refl _⟩) hD hS hA (fun H locs hP hD hS => ?_)
  refine lv_lmul hx hb dX3_tiltAbove_7 ?_
  refine lv_aload_n hx hb dX3_tiltAbove_8 rfl (lv_at hl 0 rfl) ?_
  obtain ⟨r9, h9, hf⟩ := ob_some hf
  refine u_calll0 (u_runV (rest := [.long ((2 : Int64) * r4)]) S (c_X3_middleBelow l D cy ad σ r9 h9 aw ac H.size) iX3_middleBelow vX3_middleBelow q859 ⟨Nat.le_of_ble_eq_true rfl, Nat.le_of_ble_eq_true rfl⟩ hK hP hD (q0 := 9) rfl rfl rfl hl.1 (Nat.le_of_ble_eq_true rfl) dX3_tiltAbove_9 ⟨Nat.le_refl _, Nat.le_refl _⟩) hD hS hA (fun H locs hP hD hS => ?_)
  refine lv_iload_n hx hb dX3_tiltAbove_12 rfl (lv_at hl 1 rfl) ?_
  refine lv_iload_n hx hb dX3_tiltAbove_13 rfl (lv_at hl 2 rfl) ?_
  refine lv_iadd hx hb dX3_tiltAbove_14 ?_
  refine lv_i2l (v := ((v1 + v2)).toInt64) hx hb dX3_tiltAbove_15 rfl ?_
  refine lv_lmul hx hb dX3_tiltAbove_16 ?_
  refine lv_lsub hx hb dX3_tiltAbove_17 ?_
  exact u_lretr hx hb hr hlocks hP hD hS dX3_tiltAbove_18 hf (fun _ => rfl)
theorem iX3_hangsSteady : YI yX3_hangsSteady cX3_hangsSteady 9 (some .boolean) 4 := ⟨q868, q11, by decide, by decide, by decide +kernel⟩
theorem vX3_hangsSteady : YV yX3_hangsSteady := ⟨q866, q867⟩
set_option maxRecDepth 100000 in
set_option maxHeartbeats 4000000 in
theorem c_X3_hangsSteady (l : Launch) (D : va_G) (cy : Nat → ClassId) (ad : Nat → Nat) (σ : St) (v1 : Int32) (v2 : Int32) (v3 : Int32) (v4 : Int32) (r : Int32) (hf : fX3_hangsSteady σ v1 v2 v3 v4 = some r) : Ci l D cy (wX cy ad) yX3_hangsSteady cX3_hangsSteady 9 .boolean 5 110 [.ref (ad 9), .int v1, .int v2, .int v3, .int v4] σ r σ 0 0 := by
  refine Ci.enter (by decide) (Nat.le_of_ble_eq_true rfl) ?_
  intro aw ac p e s m below meth c A H locs S hr hlocks hA hK hP hD hS ls hl
  have hx := S.1
  have hb := S.2.1
  have hl : lv_has ls 9 [(0, .ref (ad 9)), (1, .int v1), (2, .int v2), (3, .int v3), (4, .int v4)] := hl
  unfold fX3_hangsSteady at hf
  refine lv_aload_n hx hb dX3_hangsSteady_0 rfl (lv_at hl 0 rfl) ?_
  obtain ⟨r1, h1, hf⟩ := ob_some hf
  refine u_calll0 (u_runV (rest := []) S (c_X3_middleBelow l D cy ad σ r1 h1 aw ac H.size) iX3_middleBelow vX3_middleBelow q859 ⟨Nat.le_of_ble_eq_true rfl, Nat.le_of_ble_eq_true rfl⟩ hK hP hD (q0 := 9) rfl rfl rfl hl.1 (Nat.le_of_ble_eq_true rfl) dX3_hangsSteady_1 ⟨Nat.le_refl _, Nat.le_refl _⟩) hD hS hA (fun H locs hP hD hS => ?_)
  refine lv_lstore (lv' := [(5, .long r1), (0, .ref (ad 9)), (1, .int v1), (2, .int v2), (3, .int v3), (4, .int v4)]) hx hb dX3_hangsSteady_4 hl (by decide) rfl (fun ls hl => ?_)
  refine lv_aload_n hx hb dX3_hangsSteady_6 rfl (lv_at hl 1 rfl) ?_
  obtain ⟨r7, h7, hf⟩ := ob_some hf
  refine u_calll0 (u_runV (rest := []) S (c_X3_middleX l D cy ad σ r7 h7 aw ac H.size) iX3_middleX vX3_middleX q858 ⟨Nat.le_of_ble_eq_true rfl, Nat.le_of_ble_eq_true rfl⟩ hK hP hD (q0 := 9) rfl rfl rfl hl.1 (Nat.le_of_ble_eq_true rfl) dX3_hangsSteady_7 ⟨Nat.le_refl _, Nat.le_refl _⟩) hD hS hA (fun H locs hP hD hS => ?_)
  refine lv_lstore (lv' := [(7, .long r7), (5, .long r1), (0, .ref (ad 9)), (1, .int v1), (2, .int v2), (3, .int v3), (4, .int v4)]) hx hb dX3_hangsSteady_10 hl (by decide) rfl (fun ls hl => ?_)
  refine lv_iload_n hx hb dX3_hangsSteady_12 rfl (lv_at hl 3 rfl) ?_
  refine lv_iload_n hx hb dX3_hangsSteady_13 rfl (lv_at hl 5 rfl) ?_
  refine va_mmin hx hb (S.2.2.1.trans hl.1.symm) S.2.2.2.1 (S.2.2.2.2 _ (List.mem_cons_of_mem _ q869)) (S.2.2.2.2 _ (List.mem_cons_of_mem _ q389)) (S.2.2.2.2 _ (List.mem_cons_of_mem _ q13)) (S.2.2.2.2 _ (List.mem_cons_of_mem _ q390)) (Nat.le_of_ble_eq_true rfl) (Nat.le_of_ble_eq_true rfl) (Nat.zero_le _) (Nat.zero_le _) dX3_hangsSteady_14 ?_
  refine lv_i2l (v := ((if v3 < v1 then v3 else v1)).toInt64) hx hb dX3_hangsSteady_17 rfl ?_
  refine lv_lload hx hb dX3_hangsSteady_18 (lv_at hl 1 rfl) ?_
  refine lv_lmul hx hb dX3_hangsSteady_20 ?_
  refine lv_lload hx hb dX3_hangsSteady_21 (lv_at hl 0 rfl) ?_
  refine W.lcmp hx hb dX3_hangsSteady_23 ?_
  refine lv_if_gt (tgt := 64) hx hb dX3_hangsSteady_24 (by decide) (fun c24 => ?_) (fun c24 => ?_)
  · have c24 := (lg_cmp_gt _ _).mp c24
    have hf := ifp c24 hf
    refine lv_iconst (v := (0 : Int32)) hx hb dX3_hangsSteady_64 (by decide) ?_
    exact u_iretr hx hb hr hlocks rfl hP hD hS dX3_hangsSteady_65 hf (fun _ => rfl)
  · have c24 := (not_congr (lg_cmp_gt _ _)).mp c24
    have hf := ifn c24 hf
    refine lv_lload hx hb dX3_hangsSteady_27 (lv_at hl 0 rfl) ?_
    refine lv_iload_n hx hb dX3_hangsSteady_29 rfl (lv_at hl 3 rfl) ?_
    refine lv_iload_n hx hb dX3_hangsSteady_30 rfl (lv_at hl 5 rfl) ?_
    refine va_mmax hx hb (S.2.2.1.trans hl.1.symm) S.2.2.2.1 (S.2.2.2.2 _ (List.mem_cons_of_mem _ q870)) (S.2.2.2.2 _ (List.mem_cons_of_mem _ q458)) (S.2.2.2.2 _ (List.mem_cons_of_mem _ q13)) (S.2.2.2.2 _ (List.mem_cons_of_mem _ q459)) (Nat.le_of_ble_eq_true rfl) (Nat.le_of_ble_eq_true rfl) (Nat.zero_le _) (Nat.zero_le _) dX3_hangsSteady_31 ?_
    refine lv_i2l (v := ((if v1 < v3 then v3 else v1)).toInt64) hx hb dX3_hangsSteady_34 rfl ?_
    refine lv_lload hx hb dX3_hangsSteady_35 (lv_at hl 1 rfl) ?_
    refine lv_lmul hx hb dX3_hangsSteady_37 ?_
    refine W.lcmp hx hb dX3_hangsSteady_38 ?_
    refine lv_if_gt (tgt := 64) hx hb dX3_hangsSteady_39 (by decide) (fun c39 => ?_) (fun c39 => ?_)
    · have c39 := (lg_cmp_gt _ _).mp c39
      have hf := ifp c39 hf
      refine lv_iconst (v := (0 : Int32)) hx hb dX3_hangsSteady_64 (by decide) ?_
      exact u_iretr hx hb hr hlocks rfl hP hD hS dX3_hangsSteady_65 hf (fun _ => rfl)
    · have c39 := (not_congr (lg_cmp_gt _ _)).mp c39
      have hf := ifn c39 hf
      refine lv_aload_n hx hb dX3_hangsSteady_42 rfl (lv_at hl 2 rfl) ?_
      obtain ⟨r43, h43, hf⟩ := ob_some hf
      refine u_calll0 (u_runV (rest := []) S (c_X3_middleY l D cy ad σ r43 h43 aw ac H.size) iX3_middleY vX3_middleY q871 ⟨Nat.le_of_ble_eq_true rfl, Nat.le_of_ble_eq_true rfl⟩ hK hP hD (q0 := 9) rfl rfl rfl hl.1 (Nat.le_of_ble_eq_true rfl) dX3_hangsSteady_43 ⟨Nat.le_refl _, Nat.le_refl _⟩) hD hS hA (fun H locs hP hD hS => ?_)
      refine lv_iload_n hx hb dX3_hangsSteady_46 rfl (lv_at hl 4 rfl) ?_
      refine lv_iload hx hb dX3_hangsSteady_47 (lv_at hl 6 rfl) ?_
      refine va_mmin hx hb (S.2.2.1.trans hl.1.symm) S.2.2.2.1 (S.2.2.2.2 _ (List.mem_cons_of_mem _ q869)) (S.2.2.2.2 _ (List.mem_cons_of_mem _ q389)) (S.2.2.2.2 _ (List.mem_cons_of_mem _ q13)) (S.2.2.2.2 _ (List.mem_cons_of_mem _ q390)) (Nat.le_of_ble_eq_true rfl) (Nat.le_of_ble_eq_true rfl) (Nat.zero_le _) (Nat.zero_le _) dX3_hangsSteady_49 ?_
      refine lv_i2l (v := ((if v4 < v2 then v4 else v2)).toInt64) hx hb dX3_hangsSteady_52 rfl ?_
      refine lv_lload hx hb dX3_hangsSteady_53 (lv_at hl 1 rfl) ?_
      refine lv_lmul hx hb dX3_hangsSteady_55 ?_
      refine W.lcmp hx hb dX3_hangsSteady_56 ?_
      refine lv_if_ge (tgt := 64) hx hb dX3_hangsSteady_57 (by decide) (fun c57 => ?_) (fun c57 => ?_)
      · have c57 := (lg_cmp_ge _ _).mp c57
        have hf := ifp c57 hf
        refine lv_iconst (v := (0 : Int32)) hx hb dX3_hangsSteady_64 (by decide) ?_
        exact u_iretr hx hb hr hlocks rfl hP hD hS dX3_hangsSteady_65 hf (fun _ => rfl)
      · have c57 := (not_congr (lg_cmp_ge _ _)).mp c57
        have hf := ifn c57 hf
        refine lv_iconst (v := (1 : Int32)) hx hb dX3_hangsSteady_60 (by decide) ?_
        refine lv_goto (tgt := 65) hx hb dX3_hangsSteady_61 (by decide) ?_
        exact u_iretr hx hb hr hlocks rfl hP hD hS dX3_hangsSteady_65 hf (fun _ => rfl)
theorem iX3_bestHoles : YI yX3_bestHoles cX3_bestHoles 9 (some .int) 0 := ⟨q879, q11, by decide, by decide, by decide +kernel⟩
theorem vX3_bestHoles : YV yX3_bestHoles := ⟨q877, q878⟩
set_option maxRecDepth 100000 in
set_option maxHeartbeats 4000000 in
theorem c_X3_bestHoles (l : Launch) (D : va_G) (cy : Nat → ClassId) (ad : Nat → Nat) (σ : St) (r : Int32) (hf : fX3_bestHoles σ = some r) : Ci l D cy (wX cy ad) yX3_bestHoles cX3_bestHoles 9 .int 6 138 [.ref (ad 9)] σ r σ 0 0 := by
  refine Ci.enter (by decide) (Nat.le_of_ble_eq_true rfl) ?_
  intro aw ac p e s m below meth c A H locs S hr hlocks hA hK hP hD hS ls hl
  have hx := S.1
  have hb := S.2.1
  have hl : lv_has ls 9 [(0, .ref (ad 9))] := hl
  unfold fX3_bestHoles at hf
  refine lv_iconst (v := (-1 : Int32)) hx hb dX3_bestHoles_0 (by decide) ?_
  refine lv_istore_n (lv' := [(1, .int (-1 : Int32)), (0, .ref (ad 9))]) hx hb dX3_bestHoles_1 rfl hl (by decide) rfl (fun ls hl => ?_)
  refine lv_lconst (v := (0 : Int64)) hx hb dX3_bestHoles_2 (by decide) ?_
  refine lv_lstore_n (lv' := [(2, .long (0 : Int64)), (1, .int (-1 : Int32)), (0, .ref (ad 9))]) hx hb dX3_bestHoles_3 rfl hl (by decide) rfl (fun ls hl => ?_)
  refine lv_iconst (v := (0 : Int32)) hx hb dX3_bestHoles_4 (by decide) ?_
  refine lv_istore (lv' := [(4, .int (0 : Int32)), (2, .long (0 : Int64)), (1, .int (-1 : Int32)), (0, .ref (ad 9))]) hx hb dX3_bestHoles_5 hl (by decide) rfl (fun ls hl => ?_)
  have L7 : ∀ (n7 : Nat) (v1_7 : Int32) (v2_7 : Int64) (v4_7 : Int32) (H : Heap) (locs : List Loc) (ls : Array Slot), fX3_bestHoles_7 (fX3_bestHoles_7_k σ) σ n7 v1_7 v2_7 v4_7 = some r → va_P D vwCl (wX cy ad aw ac σ) H → va_D A (wX cy ad aw ac σ) → va_S A s.heap H locs → lv_has ls 9 [(0, .ref (ad 9)), (1, .int v1_7), (2, .long v2_7), (4, .int v4_7)] → W p l e (Rm 6 138 0 0) s m [.ref (ad 9)].toArray below meth c H locs 0 0 (Zi D (wX cy ad) A r σ aw ac below [.ref (ad 9)].toArray s 0 0) (F0 m 7 ls []) := by
    intro n7
    induction n7 with
    | zero =>
      intro v1_7 v2_7 v4_7 H locs ls hf
      cases hf
    | succ n7 ih7 =>
      intro v1_7 v2_7 v4_7 H locs ls hf hP hD hS hl
      rw [fX3_bestHoles_7] at hf
      refine lv_iload hx hb dX3_bestHoles_7 (lv_at hl 3 rfl) ?_
      refine lv_aload_n hx hb dX3_bestHoles_9 rfl (lv_at hl 0 rfl) ?_
      refine gX_outline_size S hK hP q284 dX3_bestHoles_10 ?_
      refine lv_icmp_ge (tgt := 137) hx hb dX3_bestHoles_13 (by decide) (fun c13 => ?_) (fun c13 => ?_)
      · have hf := ifp c13 hf
        have hl := lv_sub (l' := [(0, .ref (ad 9)), (1, .int v1_7), (2, .long v2_7), (4, .int v4_7)]) hl [0, 1, 2, 3] rfl
        unfold fX3_bestHoles_7_k at hf
        refine lv_iload_n hx hb dX3_bestHoles_137 rfl (lv_at hl 1 rfl) ?_
        exact u_iretr hx hb hr hlocks rfl hP hD hS dX3_bestHoles_138 hf (fun _ => rfl)
      · have hf := ifn c13 hf
        refine lv_iload hx hb dX3_bestHoles_16 (lv_at hl 3 rfl) ?_
        refine lv_iconst (v := (1 : Int32)) hx hb dX3_bestHoles_18 (by decide) ?_
        refine lv_iadd hx hb dX3_bestHoles_19 ?_
        refine lv_istore (lv' := [(5, .int (v4_7 + (1 : Int32))), (0, .ref (ad 9)), (1, .int v1_7), (2, .long v2_7), (4, .int v4_7)]) hx hb dX3_bestHoles_20 hl (by decide) rfl (fun ls hl => ?_)
        have L22 : ∀ (n22 : Nat) (v1_22 : Int32) (v2_22 : Int64) (v5_22 : Int32) (H : Heap) (locs : List Loc) (ls : Array Slot), fX3_bestHoles_22 (fun v1_7' v2_7' v4_7' => fX3_bestHoles_7 (fX3_bestHoles_7_k σ) σ n7 v1_7' v2_7' v4_7') (fX3_bestHoles_22_k (fun v1_7' v2_7' v4_7' => fX3_bestHoles_7 (fX3_bestHoles_7_k σ) σ n7 v1_7' v2_7' v4_7') σ v4_7) σ v4_7 n22 v1_22 v2_22 v5_22 = some r → va_P D vwCl (wX cy ad aw ac σ) H → va_D A (wX cy ad aw ac σ) → va_S A s.heap H locs → lv_has ls 9 [(0, .ref (ad 9)), (1, .int v1_22), (2, .long v2_22), (4, .int v4_7), (5, .int v5_22)] → W p l e (Rm 6 138 0 0) s m [.ref (ad 9)].toArray below meth c H locs 0 0 (Zi D (wX cy ad) A r σ aw ac below [.ref (ad 9)].toArray s 0 0) (F0 m 22 ls []) := by
          intro n22
          induction n22 with
          | zero =>
            intro v1_22 v2_22 v5_22 H locs ls hf
            cases hf
          | succ n22 ih22 =>
            intro v1_22 v2_22 v5_22 H locs ls hf hP hD hS hl
            rw [fX3_bestHoles_22] at hf
            refine lv_iload hx hb dX3_bestHoles_22 (lv_at hl 4 rfl) ?_
            refine lv_aload_n hx hb dX3_bestHoles_24 rfl (lv_at hl 0 rfl) ?_
            refine gX_outline_size S hK hP q284 dX3_bestHoles_25 ?_
            refine lv_icmp_ge (tgt := 131) hx hb dX3_bestHoles_28 (by decide) (fun c28 => ?_) (fun c28 => ?_)
            · have hf := ifp c28 hf
              have hl := lv_sub (l' := [(0, .ref (ad 9)), (1, .int v1_22), (2, .long v2_22), (4, .int v4_7), (5, .int v5_22)]) hl [0, 1, 2, 3, 4] rfl
              unfold fX3_bestHoles_22_k at hf
              refine lv_iinc (v := (v4_7 + (1 : Int32))) (lv' := [(4, .int (v4_7 + (1 : Int32))), (0, .ref (ad 9)), (1, .int v1_22), (2, .long v2_22), (5, .int v5_22)]) hx hb dX3_bestHoles_131 hl (k := 3) rfl rfl (by decide) rfl (fun ls hl => ?_)
              refine lv_goto (tgt := 7) hx hb dX3_bestHoles_134 (by decide) ?_
              exact ih7 v1_22 v2_22 (v4_7 + (1 : Int32)) H locs ls hf hP hD hS (lv_sub hl [1, 2, 3, 0] rfl)
            · have hf := ifn c28 hf
              refine lv_aload_n hx hb dX3_bestHoles_31 rfl (lv_at hl 0 rfl) ?_
              refine lv_aload_n hx hb dX3_bestHoles_32 rfl (lv_at hl 0 rfl) ?_
              refine gX_outline_xs S hK hP q282 dX3_bestHoles_33 ?_
              refine lv_iload hx hb dX3_bestHoles_36 (lv_at hl 3 rfl) ?_
              obtain ⟨h38, hf⟩ := if_in hf
              refine lX_41 S hK hP h38 dX3_bestHoles_38 ?_
              refine lv_aload_n hx hb dX3_bestHoles_39 rfl (lv_at hl 0 rfl) ?_
              refine gX_outline_xs S hK hP q282 dX3_bestHoles_40 ?_
              refine lv_iload hx hb dX3_bestHoles_43 (lv_at hl 4 rfl) ?_
              obtain ⟨h45, hf⟩ := if_in hf
              refine lX_41 S hK hP h45 dX3_bestHoles_45 ?_
              obtain ⟨r46, h46, hf⟩ := ob_some hf
              refine u_calll0 (u_runV (rest := []) S (c_X3_tiltAbove l D cy ad σ (ga σ 41 v4_7.toNatClampNeg) (ga σ 41 v5_22.toNatClampNeg) r46 h46 aw ac H.size) iX3_tiltAbove vX3_tiltAbove q880 ⟨Nat.le_of_ble_eq_true rfl, Nat.le_of_ble_eq_true rfl⟩ hK hP hD (q0 := 9) rfl rfl rfl hl.1 (Nat.le_of_ble_eq_true rfl) dX3_bestHoles_46 ⟨Nat.le_refl _, Nat.le_refl _⟩) hD hS hA (fun H locs hP hD hS => ?_)
              refine va_mabs_long hx hb (S.2.2.1.trans hl.1.symm) S.2.2.2.1 (S.2.2.2.2 _ (List.mem_cons_of_mem _ q841)) (S.2.2.2.2 _ (List.mem_cons_of_mem _ q811)) (S.2.2.2.2 _ (List.mem_cons_of_mem _ q13)) (S.2.2.2.2 _ (List.mem_cons_of_mem _ q812)) (Nat.le_of_ble_eq_true rfl) (Nat.le_of_ble_eq_true rfl) (Nat.zero_le _) (Nat.zero_le _) dX3_bestHoles_49 ?_
              refine lv_lstore (lv' := [(6, .long (if 0 < r46 then r46 else -r46)), (0, .ref (ad 9)), (1, .int v1_22), (2, .long v2_22), (4, .int v4_7), (5, .int v5_22)]) hx hb dX3_bestHoles_52 hl (by decide) rfl (fun ls hl => ?_)
              refine lv_iload_n hx hb dX3_bestHoles_54 rfl (lv_at hl 2 rfl) ?_
              refine lv_iconst (v := (-1 : Int32)) hx hb dX3_bestHoles_55 (by decide) ?_
              refine lv_icmp_eq (tgt := 66) hx hb dX3_bestHoles_56 (by decide) (fun c56 => ?_) (fun c56 => ?_)
              · have hf := ifp c56 hf
                refine lv_iconst (v := (1 : Int32)) hx hb dX3_bestHoles_66 (by decide) ?_
                refine lv_goto (tgt := 71) hx hb dX3_bestHoles_67 (by decide) ?_
                refine lv_istore (lv' := [(8, .int (1 : Int32)), (6, .long (if 0 < r46 then r46 else -r46)), (0, .ref (ad 9)), (1, .int v1_22), (2, .long v2_22), (4, .int v4_7), (5, .int v5_22)]) hx hb dX3_bestHoles_71 hl (by decide) rfl (fun ls hl => ?_)
                refine lv_iload hx hb dX3_bestHoles_73 (lv_at hl 0 rfl) ?_
                refine lv_if_eq (tgt := 125) hx hb dX3_bestHoles_75 (by decide) (fun c_ => absurd c_ (by decide)) (fun _ => ?_)
                refine lv_aload_n hx hb dX3_bestHoles_78 rfl (lv_at hl 2 rfl) ?_
                refine lv_aload_n hx hb dX3_bestHoles_79 rfl (lv_at hl 2 rfl) ?_
                refine gX_outline_xs S hK hP q282 dX3_bestHoles_80 ?_
                refine lv_iload hx hb dX3_bestHoles_83 (lv_at hl 5 rfl) ?_
                obtain ⟨h85, hf⟩ := if_in hf
                refine lX_41 S hK hP h85 dX3_bestHoles_85 ?_
                refine lv_aload_n hx hb dX3_bestHoles_86 rfl (lv_at hl 2 rfl) ?_
                refine gX_outline_ys S hK hP q283 dX3_bestHoles_87 ?_
                refine lv_iload hx hb dX3_bestHoles_90 (lv_at hl 5 rfl) ?_
                obtain ⟨h92, hf⟩ := if_in hf
                refine lX_42 S hK hP h92 dX3_bestHoles_92 ?_
                refine lv_aload_n hx hb dX3_bestHoles_93 rfl (lv_at hl 2 rfl) ?_
                refine gX_outline_xs S hK hP q282 dX3_bestHoles_94 ?_
                refine lv_iload hx hb dX3_bestHoles_97 (lv_at hl 6 rfl) ?_
                obtain ⟨h99, hf⟩ := if_in hf
                refine lX_41 S hK hP h99 dX3_bestHoles_99 ?_
                refine lv_aload_n hx hb dX3_bestHoles_100 rfl (lv_at hl 2 rfl) ?_
                refine gX_outline_ys S hK hP q283 dX3_bestHoles_101 ?_
                refine lv_iload hx hb dX3_bestHoles_104 (lv_at hl 6 rfl) ?_
                obtain ⟨h106, hf⟩ := if_in hf
                refine lX_42 S hK hP h106 dX3_bestHoles_106 ?_
                obtain ⟨r107, h107, hf⟩ := ob_some hf
                refine u_calli0 (u_runV (rest := []) S (c_X3_hangsSteady l D cy ad σ (ga σ 41 v4_7.toNatClampNeg) (ga σ 42 v4_7.toNatClampNeg) (ga σ 41 v5_22.toNatClampNeg) (ga σ 42 v5_22.toNatClampNeg) r107 h107 aw ac H.size) iX3_hangsSteady vX3_hangsSteady q881 ⟨Nat.le_of_ble_eq_true rfl, Nat.le_of_ble_eq_true rfl⟩ hK hP hD (q0 := 9) rfl rfl rfl hl.1 (Nat.le_of_ble_eq_true rfl) dX3_bestHoles_107 ⟨Nat.le_refl _, Nat.le_refl _⟩) hD hS hA (fun H locs hP hD hS => ?_)
                refine lv_if_eq (tgt := 125) hx hb dX3_bestHoles_110 (by decide) (fun c110 => ?_) (fun c110 => ?_)
                · have hf := ifp c110 hf
                  refine lv_iinc (v := (v5_22 + (1 : Int32))) (lv' := [(5, .int (v5_22 + (1 : Int32))), (8, .int (1 : Int32)), (6, .long (if 0 < r46 then r46 else -r46)), (0, .ref (ad 9)), (1, .int v1_22), (2, .long v2_22), (4, .int v4_7)]) hx hb dX3_bestHoles_125 hl (k := 6) rfl rfl (by decide) rfl (fun ls hl => ?_)
                  refine lv_goto (tgt := 22) hx hb dX3_bestHoles_128 (by decide) ?_
                  exact ih22 v1_22 v2_22 (v5_22 + (1 : Int32)) H locs ls hf hP hD hS (lv_sub hl [3, 4, 5, 6, 0] rfl)
                · have hf := ifn c110 hf
                  refine lv_bipush (v := (10 : Int32)) hx hb dX3_bestHoles_113 (by decide) ?_
                  refine lv_iload hx hb dX3_bestHoles_115 (lv_at hl 5 rfl) ?_
                  refine lv_imul hx hb dX3_bestHoles_117 ?_
                  refine lv_iload hx hb dX3_bestHoles_118 (lv_at hl 6 rfl) ?_
                  refine lv_iadd hx hb dX3_bestHoles_120 ?_
                  refine lv_istore_n (lv' := [(1, .int (((10 : Int32) * v4_7) + v5_22)), (8, .int (1 : Int32)), (6, .long (if 0 < r46 then r46 else -r46)), (0, .ref (ad 9)), (2, .long v2_22), (4, .int v4_7), (5, .int v5_22)]) hx hb dX3_bestHoles_121 rfl hl (by decide) rfl (fun ls hl => ?_)
                  refine lv_lload hx hb dX3_bestHoles_122 (lv_at hl 2 rfl) ?_
                  refine lv_lstore_n (lv' := [(2, .long (if 0 < r46 then r46 else -r46)), (1, .int (((10 : Int32) * v4_7) + v5_22)), (8, .int (1 : Int32)), (6, .long (if 0 < r46 then r46 else -r46)), (0, .ref (ad 9)), (4, .int v4_7), (5, .int v5_22)]) hx hb dX3_bestHoles_124 rfl hl (by decide) rfl (fun ls hl => ?_)
                  refine lv_iinc (v := (v5_22 + (1 : Int32))) (lv' := [(5, .int (v5_22 + (1 : Int32))), (2, .long (if 0 < r46 then r46 else -r46)), (1, .int (((10 : Int32) * v4_7) + v5_22)), (8, .int (1 : Int32)), (6, .long (if 0 < r46 then r46 else -r46)), (0, .ref (ad 9)), (4, .int v4_7)]) hx hb dX3_bestHoles_125 hl (k := 6) rfl rfl (by decide) rfl (fun ls hl => ?_)
                  refine lv_goto (tgt := 22) hx hb dX3_bestHoles_128 (by decide) ?_
                  exact ih22 (((10 : Int32) * v4_7) + v5_22) (if 0 < r46 then r46 else -r46) (v5_22 + (1 : Int32)) H locs ls hf hP hD hS (lv_sub hl [5, 2, 1, 6, 0] rfl)
              · have hf := ifn c56 hf
                refine lv_lload hx hb dX3_bestHoles_59 (lv_at hl 0 rfl) ?_
                refine lv_lload_n hx hb dX3_bestHoles_61 rfl (lv_at hl 3 rfl) ?_
                refine W.lcmp hx hb dX3_bestHoles_62 ?_
                refine lv_if_ge (tgt := 70) hx hb dX3_bestHoles_63 (by decide) (fun c63 => ?_) (fun c63 => ?_)
                · have c63 := (lg_cmp_ge _ _).mp c63
                  have hf := ifp c63 hf
                  refine lv_iconst (v := (0 : Int32)) hx hb dX3_bestHoles_70 (by decide) ?_
                  refine lv_istore (lv' := [(8, .int (0 : Int32)), (6, .long (if 0 < r46 then r46 else -r46)), (0, .ref (ad 9)), (1, .int v1_22), (2, .long v2_22), (4, .int v4_7), (5, .int v5_22)]) hx hb dX3_bestHoles_71 hl (by decide) rfl (fun ls hl => ?_)
                  refine lv_iload hx hb dX3_bestHoles_73 (lv_at hl 0 rfl) ?_
                  refine lv_if_eq (tgt := 125) hx hb dX3_bestHoles_75 (by decide) (fun _ => ?_) (fun c_ => absurd c_ (by decide))
                  refine lv_iinc (v := (v5_22 + (1 : Int32))) (lv' := [(5, .int (v5_22 + (1 : Int32))), (8, .int (0 : Int32)), (6, .long (if 0 < r46 then r46 else -r46)), (0, .ref (ad 9)), (1, .int v1_22), (2, .long v2_22), (4, .int v4_7)]) hx hb dX3_bestHoles_125 hl (k := 6) rfl rfl (by decide) rfl (fun ls hl => ?_)
                  refine lv_goto (tgt := 22) hx hb dX3_bestHoles_128 (by decide) ?_
                  exact ih22 v1_22 v2_22 (v5_22 + (1 : Int32)) H locs ls hf hP hD hS (lv_sub hl [3, 4, 5, 6, 0] rfl)
                · have c63 := (not_congr (lg_cmp_ge _ _)).mp c63
                  have hf := ifn c63 hf
                  refine lv_iconst (v := (1 : Int32)) hx hb dX3_bestHoles_66 (by decide) ?_
                  refine lv_goto (tgt := 71) hx hb dX3_bestHoles_67 (by decide) ?_
                  refine lv_istore (lv' := [(8, .int (1 : Int32)), (6, .long (if 0 < r46 then r46 else -r46)), (0, .ref (ad 9)), (1, .int v1_22), (2, .long v2_22), (4, .int v4_7), (5, .int v5_22)]) hx hb dX3_bestHoles_71 hl (by decide) rfl (fun ls hl => ?_)
                  refine lv_iload hx hb dX3_bestHoles_73 (lv_at hl 0 rfl) ?_
                  refine lv_if_eq (tgt := 125) hx hb dX3_bestHoles_75 (by decide) (fun c_ => absurd c_ (by decide)) (fun _ => ?_)
                  refine lv_aload_n hx hb dX3_bestHoles_78 rfl (lv_at hl 2 rfl) ?_
                  refine lv_aload_n hx hb dX3_bestHoles_79 rfl (lv_at hl 2 rfl) ?_
                  refine gX_outline_xs S hK hP q282 dX3_bestHoles_80 ?_
                  refine lv_iload hx hb dX3_bestHoles_83 (lv_at hl 5 rfl) ?_
                  obtain ⟨h85, hf⟩ := if_in hf
                  refine lX_41 S hK hP h85 dX3_bestHoles_85 ?_
                  refine lv_aload_n hx hb dX3_bestHoles_86 rfl (lv_at hl 2 rfl) ?_
                  refine gX_outline_ys S hK hP q283 dX3_bestHoles_87 ?_
                  refine lv_iload hx hb dX3_bestHoles_90 (lv_at hl 5 rfl) ?_
                  obtain ⟨h92, hf⟩ := if_in hf
                  refine lX_42 S hK hP h92 dX3_bestHoles_92 ?_
                  refine lv_aload_n hx hb dX3_bestHoles_93 rfl (lv_at hl 2 rfl) ?_
                  refine gX_outline_xs S hK hP q282 dX3_bestHoles_94 ?_
                  refine lv_iload hx hb dX3_bestHoles_97 (lv_at hl 6 rfl) ?_
                  obtain ⟨h99, hf⟩ := if_in hf
                  refine lX_41 S hK hP h99 dX3_bestHoles_99 ?_
                  refine lv_aload_n hx hb dX3_bestHoles_100 rfl (lv_at hl 2 rfl) ?_
                  refine gX_outline_ys S hK hP q283 dX3_bestHoles_101 ?_
                  refine lv_iload hx hb dX3_bestHoles_104 (lv_at hl 6 rfl) ?_
                  obtain ⟨h106, hf⟩ := if_in hf
                  refine lX_42 S hK hP h106 dX3_bestHoles_106 ?_
                  obtain ⟨r107, h107, hf⟩ := ob_some hf
                  refine u_calli0 (u_runV (rest := []) S (c_X3_hangsSteady l D cy ad σ (ga σ 41 v4_7.toNatClampNeg) (ga σ 42 v4_7.toNatClampNeg) (ga σ 41 v5_22.toNatClampNeg) (ga σ 42 v5_22.toNatClampNeg) r107 h107 aw ac H.size) iX3_hangsSteady vX3_hangsSteady q881 ⟨Nat.le_of_ble_eq_true rfl, Nat.le_of_ble_eq_true rfl⟩ hK hP hD (q0 := 9) rfl rfl rfl hl.1 (Nat.le_of_ble_eq_true rfl) dX3_bestHoles_107 ⟨Nat.le_refl _, Nat.le_refl _⟩) hD hS hA (fun H locs hP hD hS => ?_)
                  refine lv_if_eq (tgt := 125) hx hb dX3_bestHoles_110 (by decide) (fun c110 => ?_) (fun c110 => ?_)
                  · have hf := ifp c110 hf
                    refine lv_iinc (v := (v5_22 + (1 : Int32))) (lv' := [(5, .int (v5_22 + (1 : Int32))), (8, .int (1 : Int32)), (6, .long (if 0 < r46 then r46 else -r46)), (0, .ref (ad 9)), (1, .int v1_22), (2, .long v2_22), (4, .int v4_7)]) hx hb dX3_bestHoles_125 hl (k := 6) rfl rfl (by decide) rfl (fun ls hl => ?_)
                    refine lv_goto (tgt := 22) hx hb dX3_bestHoles_128 (by decide) ?_
                    exact ih22 v1_22 v2_22 (v5_22 + (1 : Int32)) H locs ls hf hP hD hS (lv_sub hl [3, 4, 5, 6, 0] rfl)
                  · have hf := ifn c110 hf
                    refine lv_bipush (v := (10 : Int32)) hx hb dX3_bestHoles_113 (by decide) ?_
                    refine lv_iload hx hb dX3_bestHoles_115 (lv_at hl 5 rfl) ?_
                    refine lv_imul hx hb dX3_bestHoles_117 ?_
                    refine lv_iload hx hb dX3_bestHoles_118 (lv_at hl 6 rfl) ?_
                    refine lv_iadd hx hb dX3_bestHoles_120 ?_
                    refine lv_istore_n (lv' := [(1, .int (((10 : Int32) * v4_7) + v5_22)), (8, .int (1 : Int32)), (6, .long (if 0 < r46 then r46 else -r46)), (0, .ref (ad 9)), (2, .long v2_22), (4, .int v4_7), (5, .int v5_22)]) hx hb dX3_bestHoles_121 rfl hl (by decide) rfl (fun ls hl => ?_)
                    refine lv_lload hx hb dX3_bestHoles_122 (lv_at hl 2 rfl) ?_
                    refine lv_lstore_n (lv' := [(2, .long (if 0 < r46 then r46 else -r46)), (1, .int (((10 : Int32) * v4_7) + v5_22)), (8, .int (1 : Int32)), (6, .long (if 0 < r46 then r46 else -r46)), (0, .ref (ad 9)), (4, .int v4_7), (5, .int v5_22)]) hx hb dX3_bestHoles_124 rfl hl (by decide) rfl (fun ls hl => ?_)
                    refine lv_iinc (v := (v5_22 + (1 : Int32))) (lv' := [(5, .int (v5_22 + (1 : Int32))), (2, .long (if 0 < r46 then r46 else -r46)), (1, .int (((10 : Int32) * v4_7) + v5_22)), (8, .int (1 : Int32)), (6, .long (if 0 < r46 then r46 else -r46)), (0, .ref (ad 9)), (4, .int v4_7)]) hx hb dX3_bestHoles_125 hl (k := 6) rfl rfl (by decide) rfl (fun ls hl => ?_)
                    refine lv_goto (tgt := 22) hx hb dX3_bestHoles_128 (by decide) ?_
                    exact ih22 (((10 : Int32) * v4_7) + v5_22) (if 0 < r46 then r46 else -r46) (v5_22 + (1 : Int32)) H locs ls hf hP hD hS (lv_sub hl [5, 2, 1, 6, 0] rfl)
        exact L22 KF v1_7 v2_7 (v4_7 + (1 : Int32)) H locs ls hf hP hD hS (lv_sub hl [1, 2, 3, 4, 0] rfl)
  exact L7 KF (-1 : Int32) (0 : Int64) (0 : Int32) H locs ls hf hP hD hS (lv_sub hl [3, 2, 1, 0] rfl)
theorem iX3_mixInto : YI yX3_mixInto cX3_mixInto 6 (some .long) 1 := ⟨q936, q11, by decide, by decide, by decide +kernel⟩
theorem vX3_mixInto : YV yX3_mixInto := ⟨q934, q935⟩
set_option maxRecDepth 100000 in
set_option maxHeartbeats 4000000 in
theorem c_X3_mixInto (l : Launch) (D : va_G) (cy : Nat → ClassId) (ad : Nat → Nat) (σ : St) (v1 : Int64) (r : Int64) (hf : fX3_mixInto σ v1 = some r) : Cl l D cy (wX cy ad) yX3_mixInto cX3_mixInto 6 0 0 [.ref (ad 9), .long v1] σ r σ 0 0 := by
  refine Cl.enter (by decide) (Nat.le_of_ble_eq_true rfl) ?_
  intro aw ac p e s m below meth c A H locs S hr hlocks hA hK hP hD hS ls hl
  have hx := S.1
  have hb := S.2.1
  have hl : lv_has ls 6 [(0, .ref (ad 9)), (1, .long v1)] := hl
  unfold fX3_mixInto at hf
  refine lv_lload_n hx hb dX3_mixInto_0 rfl (lv_at hl 1 rfl) ?_
  refine lv_lstore_n (lv' := [(3, .long v1), (0, .ref (ad 9)), (1, .long v1)]) hx hb dX3_mixInto_1 rfl hl (by decide) rfl (fun ls hl => ?_)
  refine lv_iconst (v := (0 : Int32)) hx hb dX3_mixInto_2 (by decide) ?_
  refine lv_istore (lv' := [(5, .int (0 : Int32)), (3, .long v1), (0, .ref (ad 9)), (1, .long v1)]) hx hb dX3_mixInto_3 hl (by decide) rfl (fun ls hl => ?_)
  have L5 : ∀ (n5 : Nat) (v3_5 : Int64) (v5_5 : Int32) (H : Heap) (locs : List Loc) (ls : Array Slot), fX3_mixInto_5 (fX3_mixInto_5_k σ v1) σ v1 n5 v3_5 v5_5 = some r → va_P D vwCl (wX cy ad aw ac σ) H → va_D A (wX cy ad aw ac σ) → va_S A s.heap H locs → lv_has ls 6 [(0, .ref (ad 9)), (1, .long v1), (3, .long v3_5), (5, .int v5_5)] → W p l e (Rm 0 0 0 0) s m [.ref (ad 9), .long v1].toArray below meth c H locs 0 0 (Zl D (wX cy ad) A r σ aw ac below [.ref (ad 9), .long v1].toArray s 0 0) (F0 m 5 ls []) := by
    intro n5
    induction n5 with
    | zero =>
      intro v3_5 v5_5 H locs ls hf
      cases hf
    | succ n5 ih5 =>
      intro v3_5 v5_5 H locs ls hf hP hD hS hl
      rw [fX3_mixInto_5] at hf
      refine lv_iload hx hb dX3_mixInto_5 (lv_at hl 3 rfl) ?_
      refine lv_aload_n hx hb dX3_mixInto_7 rfl (lv_at hl 0 rfl) ?_
      refine gX_outline_size S hK hP q284 dX3_mixInto_8 ?_
      refine lv_icmp_ge (tgt := 50) hx hb dX3_mixInto_11 (by decide) (fun c11 => ?_) (fun c11 => ?_)
      · have hf := ifp c11 hf
        have hl := lv_sub (l' := [(0, .ref (ad 9)), (1, .long v1), (3, .long v3_5), (5, .int v5_5)]) hl [0, 1, 2, 3] rfl
        unfold fX3_mixInto_5_k at hf
        refine lv_lload_n hx hb dX3_mixInto_50 rfl (lv_at hl 2 rfl) ?_
        exact u_lretr hx hb hr hlocks hP hD hS dX3_mixInto_51 hf (fun _ => rfl)
      · have hf := ifn c11 hf
        refine lv_ldc2 hx hb S.2.2.2.1 (S.2.2.2.2 _ (List.mem_cons_of_mem _ q937)) dX3_mixInto_14 ?_
        refine lv_lload_n hx hb dX3_mixInto_17 rfl (lv_at hl 2 rfl) ?_
        refine lv_lmul hx hb dX3_mixInto_18 ?_
        refine lv_aload_n hx hb dX3_mixInto_19 rfl (lv_at hl 0 rfl) ?_
        refine gX_outline_xs S hK hP q282 dX3_mixInto_20 ?_
        refine lv_iload hx hb dX3_mixInto_23 (lv_at hl 3 rfl) ?_
        obtain ⟨h25, hf⟩ := if_in hf
        refine lX_41 S hK hP h25 dX3_mixInto_25 ?_
        refine lv_i2l (v := ((ga σ 41 v5_5.toNatClampNeg)).toInt64) hx hb dX3_mixInto_26 rfl ?_
        refine lv_ladd hx hb dX3_mixInto_27 ?_
        refine lv_lstore_n (lv' := [(3, .long (((31 : Int64) * v3_5) + (((ga σ 41 v5_5.toNatClampNeg)).toInt64))), (0, .ref (ad 9)), (1, .long v1), (5, .int v5_5)]) hx hb dX3_mixInto_28 rfl hl (by decide) rfl (fun ls hl => ?_)
        refine lv_ldc2 hx hb S.2.2.2.1 (S.2.2.2.2 _ (List.mem_cons_of_mem _ q937)) dX3_mixInto_29 ?_
        refine lv_lload_n hx hb dX3_mixInto_32 rfl (lv_at hl 0 rfl) ?_
        refine lv_lmul hx hb dX3_mixInto_33 ?_
        refine lv_aload_n hx hb dX3_mixInto_34 rfl (lv_at hl 1 rfl) ?_
        refine gX_outline_ys S hK hP q283 dX3_mixInto_35 ?_
        refine lv_iload hx hb dX3_mixInto_38 (lv_at hl 3 rfl) ?_
        obtain ⟨h40, hf⟩ := if_in hf
        refine lX_42 S hK hP h40 dX3_mixInto_40 ?_
        refine lv_i2l (v := ((ga σ 42 v5_5.toNatClampNeg)).toInt64) hx hb dX3_mixInto_41 rfl ?_
        refine lv_ladd hx hb dX3_mixInto_42 ?_
        refine lv_lstore_n (lv' := [(3, .long (((31 : Int64) * (((31 : Int64) * v3_5) + (((ga σ 41 v5_5.toNatClampNeg)).toInt64))) + (((ga σ 42 v5_5.toNatClampNeg)).toInt64))), (0, .ref (ad 9)), (1, .long v1), (5, .int v5_5)]) hx hb dX3_mixInto_43 rfl hl (by decide) rfl (fun ls hl => ?_)
        refine lv_iinc (v := (v5_5 + (1 : Int32))) (lv' := [(5, .int (v5_5 + (1 : Int32))), (3, .long (((31 : Int64) * (((31 : Int64) * v3_5) + (((ga σ 41 v5_5.toNatClampNeg)).toInt64))) + (((ga σ 42 v5_5.toNatClampNeg)).toInt64))), (0, .ref (ad 9)), (1, .long v1)]) hx hb dX3_mixInto_44 hl (k := 3) rfl rfl (by decide) rfl (fun ls hl => ?_)
        refine lv_goto (tgt := 5) hx hb dX3_mixInto_47 (by decide) ?_
        exact ih5 (((31 : Int64) * (((31 : Int64) * v3_5) + (((ga σ 41 v5_5.toNatClampNeg)).toInt64))) + (((ga σ 42 v5_5.toNatClampNeg)).toInt64)) (v5_5 + (1 : Int32)) H locs ls hf hP hD hS (lv_sub hl [2, 3, 1, 0] rfl)
  exact L5 KF v1 (0 : Int32) H locs ls hf hP hD hS (lv_sub hl [2, 3, 1, 0] rfl)
theorem iX4_forget : YI yX4_forget cX4_forget 1 none 0 := ⟨q551, q8, by decide, by decide, by decide +kernel⟩
theorem vX4_forget : YV yX4_forget := ⟨q549, q550⟩
set_option maxRecDepth 100000 in
set_option maxHeartbeats 4000000 in
theorem c_X4_forget (l : Launch) (D : va_G) (cy : Nat → ClassId) (ad : Nat → Nat) (σ : St) (q : St) (hf : fX4_forget σ = some q) : Cv l D cy (wX cy ad) yX4_forget cX4_forget 1 0 0 [.ref (ad 7)] σ q 0 0 := by
  refine Cv.enter (by decide) (Nat.le_of_ble_eq_true rfl) ?_
  intro aw ac p e s m below meth c A H locs S hr hlocks hA hK hP hD hS ls hl
  have hx := S.1
  have hb := S.2.1
  have hl : lv_has ls 1 [(0, .ref (ad 7))] := hl
  unfold fX4_forget at hf
  refine lv_aload_n hx hb dX4_forget_0 rfl (lv_at hl 0 rfl) ?_
  refine lv_iconst (v := (0 : Int32)) hx hb dX4_forget_1 (by decide) ?_
  refine pX_planner_isCounted S hK hP hD hS rfl rfl q206 dX4_forget_2 (fun H locs hP hD hS => ?_)
  refine lv_aload_n hx hb dX4_forget_5 rfl (lv_at hl 0 rfl) ?_
  refine lv_iconst (v := (0 : Int32)) hx hb dX4_forget_6 (by decide) ?_
  refine pX_planner_isPlanned S hK hP hD hS rfl rfl q207 dX4_forget_7 (fun H locs hP hD hS => ?_)
  exact u_vretw hx hb hr hlocks hP hD hS dX4_forget_10 hf (fun _ => rfl)
