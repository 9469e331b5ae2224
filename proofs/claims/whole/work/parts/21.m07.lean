theorem iX9_area : YI yX9_area cX9_area 1 (some .int) 0 := ⟨q797, q1, by decide, by decide, by decide +kernel⟩
theorem vX9_area : YV yX9_area := ⟨q795, q796⟩
set_option maxRecDepth 100000 in
set_option maxHeartbeats 4000000 in
theorem c_X9_area (l : Launch) (D : va_G) (cy : Nat → ClassId) (ad : Nat → Nat) (σ : St) (r : Int32) (hf : fX9_area σ = some r) : Ci l D cy (wX cy ad) yX9_area cX9_area 1 .int 3 66 [.ref (ad 0)] σ r σ 0 0 := by
  refine Ci.enter (by decide) (Nat.le_of_ble_eq_true rfl) ?_
  intro aw ac p e s m below meth c A H locs S hr hlocks hA hK hP hD hS ls hl
  have hx := S.1
  have hb := S.2.1
  have hl : lv_has ls 1 [(0, .ref (ad 0))] := hl
  unfold fX9_area at hf
  refine lv_aload_n hx hb dX9_area_0 rfl (lv_at hl 0 rfl) ?_
  refine gX_x_outline S hK hP q301 dX9_area_1 ?_
  refine gX_outline_size S hK hP q285 dX9_area_4 ?_
  refine lv_iconst (v := (3 : Int32)) hx hb dX9_area_7 (by decide) ?_
  refine lv_icmp_ge (tgt := 16) hx hb dX9_area_8 (by decide) (fun c8 => ?_) (fun c8 => ?_)
  · have hf := ifp c8 hf
    refine lv_aload_n hx hb dX9_area_16 rfl (lv_at hl 0 rfl) ?_
    refine gX_x_outline S hK hP q301 dX9_area_17 ?_
    obtain ⟨r20, h20, hf⟩ := ob_some hf
    refine u_calll0 (u_runV (rest := []) S (c_X3_twiceArea l D cy ad σ r20 h20 aw ac H.size) iX3_twiceArea vX3_twiceArea q798 ⟨Nat.le_of_ble_eq_true rfl, Nat.le_of_ble_eq_true rfl⟩ hK hP hD (q0 := 9) rfl rfl rfl hl.1 (Nat.le_of_ble_eq_true rfl) dX9_area_20 ⟨Nat.le_refl _, Nat.le_refl _⟩) hD hS hA (fun H locs hP hD hS => ?_)
    refine va_mabs_long hx hb (S.2.2.1.trans hl.1.symm) S.2.2.2.1 (S.2.2.2.2 _ (List.mem_cons_of_mem _ q810)) (S.2.2.2.2 _ (List.mem_cons_of_mem _ q811)) (S.2.2.2.2 _ (List.mem_cons_of_mem _ q13)) (S.2.2.2.2 _ (List.mem_cons_of_mem _ q812)) (Nat.le_of_ble_eq_true rfl) (Nat.le_of_ble_eq_true rfl) (Nat.zero_le _) (Nat.zero_le _) dX9_area_23 ?_
    refine lv_l2i (v := ((if 0 < r20 then r20 else -r20)).toInt32) hx hb dX9_area_26 rfl ?_
    exact u_iretr hx hb hr hlocks rfl hP hD hS dX9_area_27 hf (fun _ => rfl)
  · have hf := ifn c8 hf
    refine lv_bipush (v := (-3 : Int32)) hx hb dX9_area_11 (by decide) ?_
    refine lv_goto (tgt := 27) hx hb dX9_area_13 (by decide) ?_
    exact u_iretr hx hb hr hlocks rfl hP hD hS dX9_area_27 hf (fun _ => rfl)
theorem iX9_commonDivisor : YI yX9_commonDivisor cX9_commonDivisor 11 (some .long) 2 := ⟨q847, q1, by decide, by decide, by decide +kernel⟩
set_option maxRecDepth 100000 in
set_option maxHeartbeats 4000000 in
theorem c_X9_commonDivisor (l : Launch) (D : va_G) (cy : Nat → ClassId) (σ : St) (v0 : Int64) (v2 : Int64) (r : Int64) (hf : fX9_commonDivisor v0 v2 = some r) : Cl l D cy wN yX9_commonDivisor cX9_commonDivisor 11 0 0 [.long v0, .long v2] σ r σ 0 0 := by
  refine Cl.enter (by decide) (Nat.le_of_ble_eq_true rfl) ?_
  intro aw ac p e s m below meth c A H locs S hr hlocks hA hK hP hD hS ls hl
  have hx := S.1
  have hb := S.2.1
  have hl : lv_has ls 11 [(0, .long v0), (2, .long v2)] := hl
  unfold fX9_commonDivisor at hf
  refine lv_lload_n hx hb dX9_commonDivisor_0 rfl (lv_at hl 0 rfl) ?_
  refine lv_lstore (lv' := [(4, .long v0), (0, .long v0), (2, .long v2)]) hx hb dX9_commonDivisor_1 hl (by decide) rfl (fun ls hl => ?_)
  refine lv_lload_n hx hb dX9_commonDivisor_3 rfl (lv_at hl 2 rfl) ?_
  refine lv_lstore (lv' := [(6, .long v2), (4, .long v0), (0, .long v0), (2, .long v2)]) hx hb dX9_commonDivisor_4 hl (by decide) rfl (fun ls hl => ?_)
  refine lv_iconst (v := (0 : Int32)) hx hb dX9_commonDivisor_6 (by decide) ?_
  refine lv_istore (lv' := [(8, .int (0 : Int32)), (6, .long v2), (4, .long v0), (0, .long v0), (2, .long v2)]) hx hb dX9_commonDivisor_7 hl (by decide) rfl (fun ls hl => ?_)
  have L9 : ∀ (n9 : Nat) (v4_9 : Int64) (v6_9 : Int64) (v8_9 : Int32) (H : Heap) (locs : List Loc) (ls : Array Slot), fX9_commonDivisor_9 (fX9_commonDivisor_9_k v0 v2) v0 v2 n9 v4_9 v6_9 v8_9 = some r → va_P D vwCl (wN aw ac σ) H → va_D A (wN aw ac σ) → va_S A s.heap H locs → lv_has ls 11 [(0, .long v0), (2, .long v2), (4, .long v4_9), (6, .long v6_9), (8, .int v8_9)] → W p l e (Rm 0 0 0 0) s m [.long v0, .long v2].toArray below meth c H locs 0 0 (Zl D wN A r σ aw ac below [.long v0, .long v2].toArray s 0 0) (F0 m 9 ls []) := by
    intro n9
    induction n9 with
    | zero =>
      intro v4_9 v6_9 v8_9 H locs ls hf
      cases hf
    | succ n9 ih9 =>
      intro v4_9 v6_9 v8_9 H locs ls hf hP hD hS hl
      rw [fX9_commonDivisor_9] at hf
      refine lv_iload hx hb dX9_commonDivisor_9 (lv_at hl 4 rfl) ?_
      refine lv_sipush (v := (200 : Int32)) hx hb dX9_commonDivisor_11 (by decide) ?_
      refine lv_icmp_ge (tgt := 45) hx hb dX9_commonDivisor_14 (by decide) (fun c14 => ?_) (fun c14 => ?_)
      · have hf := ifp c14 hf
        have hl := lv_sub (l' := [(0, .long v0), (2, .long v2), (4, .long v4_9), (6, .long v6_9), (8, .int v8_9)]) hl [0, 1, 2, 3, 4] rfl
        unfold fX9_commonDivisor_9_k at hf
        refine lv_lload hx hb dX9_commonDivisor_45 (lv_at hl 2 rfl) ?_
        exact u_lretr hx hb hr hlocks hP hD hS dX9_commonDivisor_47 hf (fun _ => rfl)
      · have hf := ifn c14 hf
        refine lv_lload hx hb dX9_commonDivisor_17 (lv_at hl 3 rfl) ?_
        refine lv_lconst (v := (0 : Int64)) hx hb dX9_commonDivisor_19 (by decide) ?_
        refine W.lcmp hx hb dX9_commonDivisor_20 ?_
        refine lv_if_eq (tgt := 45) hx hb dX9_commonDivisor_21 (by decide) (fun c21 => ?_) (fun c21 => ?_)
        · have c21 := (lg_cmp_eq _ _).mp c21
          have hf := ifp c21 hf
          have hl := lv_sub (l' := [(0, .long v0), (2, .long v2), (4, .long v4_9), (6, .long v6_9), (8, .int v8_9)]) hl [0, 1, 2, 3, 4] rfl
          unfold fX9_commonDivisor_9_k at hf
          refine lv_lload hx hb dX9_commonDivisor_45 (lv_at hl 2 rfl) ?_
          exact u_lretr hx hb hr hlocks hP hD hS dX9_commonDivisor_47 hf (fun _ => rfl)
        · have c21 := (not_congr (lg_cmp_eq _ _)).mp c21
          have hf := ifn c21 hf
          refine lv_lload hx hb dX9_commonDivisor_24 (lv_at hl 2 rfl) ?_
          refine lv_lload hx hb dX9_commonDivisor_26 (lv_at hl 3 rfl) ?_
          obtain ⟨n28, hf⟩ := ifd hf
          refine lv_lrem hx hb dX9_commonDivisor_28 n28 ?_
          refine lv_lstore (lv' := [(9, .long (v4_9 - v4_9 / v6_9 * v6_9)), (0, .long v0), (2, .long v2), (4, .long v4_9), (6, .long v6_9), (8, .int v8_9)]) hx hb dX9_commonDivisor_29 hl (by decide) rfl (fun ls hl => ?_)
          refine lv_lload hx hb dX9_commonDivisor_31 (lv_at hl 4 rfl) ?_
          refine lv_lstore (lv' := [(4, .long v6_9), (9, .long (v4_9 - v4_9 / v6_9 * v6_9)), (0, .long v0), (2, .long v2), (6, .long v6_9), (8, .int v8_9)]) hx hb dX9_commonDivisor_33 hl (by decide) rfl (fun ls hl => ?_)
          refine lv_lload hx hb dX9_commonDivisor_35 (lv_at hl 1 rfl) ?_
          refine lv_lstore (lv' := [(6, .long (v4_9 - v4_9 / v6_9 * v6_9)), (4, .long v6_9), (9, .long (v4_9 - v4_9 / v6_9 * v6_9)), (0, .long v0), (2, .long v2), (8, .int v8_9)]) hx hb dX9_commonDivisor_37 hl (by decide) rfl (fun ls hl => ?_)
          refine lv_iinc (v := (v8_9 + (1 : Int32))) (lv' := [(8, .int (v8_9 + (1 : Int32))), (6, .long (v4_9 - v4_9 / v6_9 * v6_9)), (4, .long v6_9), (9, .long (v4_9 - v4_9 / v6_9 * v6_9)), (0, .long v0), (2, .long v2)]) hx hb dX9_commonDivisor_39 hl (k := 5) rfl rfl (by decide) rfl (fun ls hl => ?_)
          refine lv_goto (tgt := 9) hx hb dX9_commonDivisor_42 (by decide) ?_
          exact ih9 v6_9 (v4_9 - v4_9 / v6_9 * v6_9) (v8_9 + (1 : Int32)) H locs ls hf hP hD hS (lv_sub hl [4, 5, 2, 1, 0] rfl)
  exact L9 KF v0 v2 (0 : Int32) H locs ls hf hP hD hS (lv_sub hl [3, 4, 2, 1, 0] rfl)
theorem iX9_ofLowest : YI yX9_ofLowest cX9_ofLowest 7 (some .long) 3 := ⟨q844, q1, by decide, by decide, by decide +kernel⟩
set_option maxRecDepth 100000 in
set_option maxHeartbeats 4000000 in
theorem c_X9_ofLowest (l : Launch) (D : va_G) (cy : Nat → ClassId) (σ : St) (v0 : Int64) (v2 : Int64) (v4 : Int32) (r : Int64) (hf : fX9_ofLowest v0 v2 v4 = some r) : Cl l D cy wN yX9_ofLowest cX9_ofLowest 7 1 30 [.long v0, .long v2, .int v4] σ r σ 0 0 := by
  refine Cl.enter (by decide) (Nat.le_of_ble_eq_true rfl) ?_
  intro aw ac p e s m below meth c A H locs S hr hlocks hA hK hP hD hS ls hl
  have hx := S.1
  have hb := S.2.1
  have hl : lv_has ls 7 [(0, .long v0), (2, .long v2), (4, .int v4)] := hl
  unfold fX9_ofLowest at hf
  refine lv_lload_n hx hb dX9_ofLowest_0 rfl (lv_at hl 0 rfl) ?_
  refine va_mabs_long hx hb (S.2.2.1.trans hl.1.symm) S.2.2.2.1 (S.2.2.2.2 _ (List.mem_cons_of_mem _ q810)) (S.2.2.2.2 _ (List.mem_cons_of_mem _ q811)) (S.2.2.2.2 _ (List.mem_cons_of_mem _ q13)) (S.2.2.2.2 _ (List.mem_cons_of_mem _ q812)) (Nat.le_of_ble_eq_true rfl) (Nat.le_of_ble_eq_true rfl) (Nat.zero_le _) (Nat.zero_le _) dX9_ofLowest_1 ?_
  refine lv_lload_n hx hb dX9_ofLowest_4 rfl (lv_at hl 1 rfl) ?_
  obtain ⟨r5, h5, hf⟩ := ob_some hf
  refine p_calll0 (u_runS (rest := []) S (c_X9_commonDivisor l D cy σ (if 0 < v0 then v0 else -v0) v2 r5 h5 aw ac H.size) iX9_commonDivisor q846 q845 ⟨Nat.le_of_ble_eq_true rfl, Nat.le_of_ble_eq_true rfl⟩ hK wN_P (wN_D (A := fun _ => True)) rfl hl.1 (Nat.le_of_ble_eq_true rfl) dX9_ofLowest_5 ⟨Nat.le_refl _, Nat.le_refl _⟩) hP hS hA (fun H locs hP hS => ?_)
  refine lv_lstore (lv' := [(5, .long r5), (0, .long v0), (2, .long v2), (4, .int v4)]) hx hb dX9_ofLowest_8 hl (by decide) rfl (fun ls hl => ?_)
  refine lv_iload hx hb dX9_ofLowest_10 (lv_at hl 3 rfl) ?_
  refine lv_if_ne (tgt := 19) hx hb dX9_ofLowest_12 (by decide) (fun c12 => ?_) (fun c12 => ?_)
  · have hf := ifn c12 hf
    refine lv_lload_n hx hb dX9_ofLowest_19 rfl (lv_at hl 2 rfl) ?_
    refine lv_lload hx hb dX9_ofLowest_20 (lv_at hl 0 rfl) ?_
    obtain ⟨r22, h22, hf⟩ := ob_some hf
    refine p_calll0 (u_runS (rest := []) S (c_X9_cut l D cy σ v2 r5 r22 h22 aw ac H.size) iX9_cut q341 q848 ⟨Nat.le_of_ble_eq_true rfl, Nat.le_of_ble_eq_true rfl⟩ hK wN_P (wN_D (A := fun _ => True)) rfl hl.1 (Nat.le_of_ble_eq_true rfl) dX9_ofLowest_22 ⟨Nat.le_refl _, Nat.le_refl _⟩) hP hS hA (fun H locs hP hS => ?_)
    exact u_lretr hx hb hr hlocks hP hD hS dX9_ofLowest_25 hf (fun _ => rfl)
  · have hf := ifp c12 hf
    refine lv_lload_n hx hb dX9_ofLowest_15 rfl (lv_at hl 1 rfl) ?_
    refine lv_goto (tgt := 20) hx hb dX9_ofLowest_16 (by decide) ?_
    refine lv_lload hx hb dX9_ofLowest_20 (lv_at hl 0 rfl) ?_
    obtain ⟨r22, h22, hf⟩ := ob_some hf
    refine p_calll0 (u_runS (rest := []) S (c_X9_cut l D cy σ v0 r5 r22 h22 aw ac H.size) iX9_cut q341 q848 ⟨Nat.le_of_ble_eq_true rfl, Nat.le_of_ble_eq_true rfl⟩ hK wN_P (wN_D (A := fun _ => True)) rfl hl.1 (Nat.le_of_ble_eq_true rfl) dX9_ofLowest_22 ⟨Nat.le_refl _, Nat.le_refl _⟩) hP hS hA (fun H locs hP hS => ?_)
    exact u_lretr hx hb hr hlocks hP hD hS dX9_ofLowest_25 hf (fun _ => rfl)
theorem iX9_middle : YI yX9_middle cX9_middle 4 (some .long) 1 := ⟨q816, q1, by decide, by decide, by decide +kernel⟩
theorem vX9_middle : YV yX9_middle := ⟨q814, q815⟩
set_option maxRecDepth 100000 in
set_option maxHeartbeats 4000000 in
theorem c_X9_middle (l : Launch) (D : va_G) (cy : Nat → ClassId) (ad : Nat → Nat) (σ : St) (v1 : Int32) (r : Int64) (hf : fX9_middle σ v1 = some r) : Cl l D cy (wX cy ad) yX9_middle cX9_middle 4 5 110 [.ref (ad 0), .int v1] σ r σ 0 0 := by
  refine Cl.enter (by decide) (Nat.le_of_ble_eq_true rfl) ?_
  intro aw ac p e s m below meth c A H locs S hr hlocks hA hK hP hD hS ls hl
  have hx := S.1
  have hb := S.2.1
  have hl : lv_has ls 4 [(0, .ref (ad 0)), (1, .int v1)] := hl
  unfold fX9_middle at hf
  refine lv_iload_n hx hb dX9_middle_0 rfl (lv_at hl 1 rfl) ?_
  refine lv_iconst (v := (0 : Int32)) hx hb dX9_middle_1 (by decide) ?_
  refine lv_iconst (v := (3 : Int32)) hx hb dX9_middle_2 (by decide) ?_
  obtain ⟨r3, h3, hf⟩ := ob_some hf
  refine p_calli0 (u_runS (rest := []) S (c_X9_within l D cy σ v1 (0 : Int32) (3 : Int32) r3 h3 aw ac H.size) iX9_within q326 q325 ⟨Nat.le_of_ble_eq_true rfl, Nat.le_of_ble_eq_true rfl⟩ hK wN_P (wN_D (A := fun _ => True)) rfl hl.1 (Nat.le_of_ble_eq_true rfl) dX9_middle_3 ⟨Nat.le_refl _, Nat.le_refl _⟩) hP hS hA (fun H locs hP hS => ?_)
  refine lv_if_ne (tgt := 13) hx hb dX9_middle_6 (by decide) (fun c6 => ?_) (fun c6 => ?_)
  · have hf := ifn c6 hf
    refine lv_aload_n hx hb dX9_middle_13 rfl (lv_at hl 0 rfl) ?_
    refine gX_x_outline S hK hP q301 dX9_middle_14 ?_
    obtain ⟨r17, h17, hf⟩ := ob_some hf
    refine u_calli0 (u_runV (rest := []) S (c_X3_hasMiddle l D cy ad σ r17 h17 aw ac H.size) iX3_hasMiddle vX3_hasMiddle q818 ⟨Nat.le_of_ble_eq_true rfl, Nat.le_of_ble_eq_true rfl⟩ hK hP hD (q0 := 9) rfl rfl rfl hl.1 (Nat.le_of_ble_eq_true rfl) dX9_middle_17 ⟨Nat.le_refl _, Nat.le_refl _⟩) hD hS hA (fun H locs hP hD hS => ?_)
    refine lv_if_ne (tgt := 27) hx hb dX9_middle_20 (by decide) (fun c20 => ?_) (fun c20 => ?_)
    · have hf := ifn c20 hf
      refine lv_iload_n hx hb dX9_middle_27 rfl (lv_at hl 1 rfl) ?_
      refine lv_iconst (v := (2 : Int32)) hx hb dX9_middle_28 (by decide) ?_
      refine lv_icmp_ge (tgt := 42) hx hb dX9_middle_29 (by decide) (fun c29 => ?_) (fun c29 => ?_)
      · have hf := ifp c29 hf
        refine lv_aload_n hx hb dX9_middle_42 rfl (lv_at hl 0 rfl) ?_
        refine gX_x_outline S hK hP q301 dX9_middle_43 ?_
        obtain ⟨r46, h46, hf⟩ := ob_some hf
        refine u_calll0 (u_runV (rest := []) S (c_X3_middleY l D cy ad σ r46 h46 aw ac H.size) iX3_middleY vX3_middleY q832 ⟨Nat.le_of_ble_eq_true rfl, Nat.le_of_ble_eq_true rfl⟩ hK hP hD (q0 := 9) rfl rfl rfl hl.1 (Nat.le_of_ble_eq_true rfl) dX9_middle_46 ⟨Nat.le_refl _, Nat.le_refl _⟩) hD hS hA (fun H locs hP hD hS => ?_)
        refine lv_lstore_n (lv' := [(2, .long r46), (0, .ref (ad 0)), (1, .int v1)]) hx hb dX9_middle_49 rfl hl (by decide) rfl (fun ls hl => ?_)
        refine lv_lload_n hx hb dX9_middle_50 rfl (lv_at hl 0 rfl) ?_
        refine lv_aload_n hx hb dX9_middle_51 rfl (lv_at hl 1 rfl) ?_
        refine gX_x_outline S hK hP q301 dX9_middle_52 ?_
        obtain ⟨r55, h55, hf⟩ := ob_some hf
        refine u_calll0 (u_runV (rest := [.long r46]) S (c_X3_middleBelow l D cy ad σ r55 h55 aw ac H.size) iX3_middleBelow vX3_middleBelow q836 ⟨Nat.le_of_ble_eq_true rfl, Nat.le_of_ble_eq_true rfl⟩ hK hP hD (q0 := 9) rfl rfl rfl hl.1 (Nat.le_of_ble_eq_true rfl) dX9_middle_55 ⟨Nat.le_refl _, Nat.le_refl _⟩) hD hS hA (fun H locs hP hD hS => ?_)
        refine lv_iload_n hx hb dX9_middle_58 rfl (lv_at hl 2 rfl) ?_
        refine lv_iconst (v := (2 : Int32)) hx hb dX9_middle_59 (by decide) ?_
        refine lv_irem hx hb dX9_middle_60 (by decide) ?_
        obtain ⟨r61, h61, hf⟩ := ob_some hf
        refine p_calll0 (u_runS (rest := []) S (c_X9_ofLowest l D cy σ r46 r55 (v1 - v1 / (2 : Int32) * (2 : Int32)) r61 h61 aw ac H.size) iX9_ofLowest q843 q842 ⟨Nat.le_of_ble_eq_true rfl, Nat.le_of_ble_eq_true rfl⟩ hK wN_P (wN_D (A := fun _ => True)) rfl hl.1 (Nat.le_of_ble_eq_true rfl) dX9_middle_61 ⟨Nat.le_refl _, Nat.le_refl _⟩) hP hS hA (fun H locs hP hS => ?_)
        exact u_lretr hx hb hr hlocks hP hD hS dX9_middle_64 hf (fun _ => rfl)
      · have hf := ifn c29 hf
        refine lv_aload_n hx hb dX9_middle_32 rfl (lv_at hl 0 rfl) ?_
        refine gX_x_outline S hK hP q301 dX9_middle_33 ?_
        obtain ⟨r36, h36, hf⟩ := ob_some hf
        refine u_calll0 (u_runV (rest := []) S (c_X3_middleX l D cy ad σ r36 h36 aw ac H.size) iX3_middleX vX3_middleX q824 ⟨Nat.le_of_ble_eq_true rfl, Nat.le_of_ble_eq_true rfl⟩ hK hP hD (q0 := 9) rfl rfl rfl hl.1 (Nat.le_of_ble_eq_true rfl) dX9_middle_36 ⟨Nat.le_refl _, Nat.le_refl _⟩) hD hS hA (fun H locs hP hD hS => ?_)
        refine lv_goto (tgt := 49) hx hb dX9_middle_39 (by decide) ?_
        refine lv_lstore_n (lv' := [(2, .long r36), (0, .ref (ad 0)), (1, .int v1)]) hx hb dX9_middle_49 rfl hl (by decide) rfl (fun ls hl => ?_)
        refine lv_lload_n hx hb dX9_middle_50 rfl (lv_at hl 0 rfl) ?_
        refine lv_aload_n hx hb dX9_middle_51 rfl (lv_at hl 1 rfl) ?_
        refine gX_x_outline S hK hP q301 dX9_middle_52 ?_
        obtain ⟨r55, h55, hf⟩ := ob_some hf
        refine u_calll0 (u_runV (rest := [.long r36]) S (c_X3_middleBelow l D cy ad σ r55 h55 aw ac H.size) iX3_middleBelow vX3_middleBelow q836 ⟨Nat.le_of_ble_eq_true rfl, Nat.le_of_ble_eq_true rfl⟩ hK hP hD (q0 := 9) rfl rfl rfl hl.1 (Nat.le_of_ble_eq_true rfl) dX9_middle_55 ⟨Nat.le_refl _, Nat.le_refl _⟩) hD hS hA (fun H locs hP hD hS => ?_)
        refine lv_iload_n hx hb dX9_middle_58 rfl (lv_at hl 2 rfl) ?_
        refine lv_iconst (v := (2 : Int32)) hx hb dX9_middle_59 (by decide) ?_
        refine lv_irem hx hb dX9_middle_60 (by decide) ?_
        obtain ⟨r61, h61, hf⟩ := ob_some hf
        refine p_calll0 (u_runS (rest := []) S (c_X9_ofLowest l D cy σ r36 r55 (v1 - v1 / (2 : Int32) * (2 : Int32)) r61 h61 aw ac H.size) iX9_ofLowest q843 q842 ⟨Nat.le_of_ble_eq_true rfl, Nat.le_of_ble_eq_true rfl⟩ hK wN_P (wN_D (A := fun _ => True)) rfl hl.1 (Nat.le_of_ble_eq_true rfl) dX9_middle_61 ⟨Nat.le_refl _, Nat.le_refl _⟩) hP hS hA (fun H locs hP hS => ?_)
        exact u_lretr hx hb hr hlocks hP hD hS dX9_middle_64 hf (fun _ => rfl)
    · have hf := ifp c20 hf
      refine lv_ldc2 hx hb S.2.2.2.1 (S.2.2.2.2 _ (List.mem_cons_of_mem _ q823)) dX9_middle_23 ?_
      exact u_lretr hx hb hr hlocks hP hD hS dX9_middle_26 hf (fun _ => rfl)
  · have hf := ifp c6 hf
    refine lv_ldc2 hx hb S.2.2.2.1 (S.2.2.2.2 _ (List.mem_cons_of_mem _ q817)) dX9_middle_9 ?_
    exact u_lretr hx hb hr hlocks hP hD hS dX9_middle_12 hf (fun _ => rfl)
theorem iX9_tilt : YI yX9_tilt cX9_tilt 6 (some .long) 5 := ⟨q852, q1, by decide, by decide, by decide +kernel⟩
theorem vX9_tilt : YV yX9_tilt := ⟨q850, q851⟩
set_option maxRecDepth 100000 in
set_option maxHeartbeats 4000000 in
theorem c_X9_tilt (l : Launch) (D : va_G) (cy : Nat → ClassId) (ad : Nat → Nat) (σ : St) (v1 : Int32) (v2 : Int32) (v3 : Int32) (v4 : Int32) (v5 : Int32) (r : Int64) (hf : fX9_tilt σ v1 v2 v3 v4 v5 = some r) : Cl l D cy (wX cy ad) yX9_tilt cX9_tilt 6 6 132 [.ref (ad 0), .int v1, .int v2, .int v3, .int v4, .int v5] σ r σ 0 0 := by
  refine Cl.enter (by decide) (Nat.le_of_ble_eq_true rfl) ?_
  intro aw ac p e s m below meth c A H locs S hr hlocks hA hK hP hD hS ls hl
  have hx := S.1
  have hb := S.2.1
  have hl : lv_has ls 6 [(0, .ref (ad 0)), (1, .int v1), (2, .int v2), (3, .int v3), (4, .int v4), (5, .int v5)] := hl
  unfold fX9_tilt at hf
  refine lv_iload_n hx hb dX9_tilt_0 rfl (lv_at hl 1 rfl) ?_
  refine lv_iload_n hx hb dX9_tilt_1 rfl (lv_at hl 2 rfl) ?_
  obtain ⟨r2, h2, hf⟩ := ob_some hf
  refine p_calli0 (u_runS (rest := []) S (c_X9_isCorner l D cy σ v1 v2 r2 h2 aw ac H.size) iX9_isCorner q788 q787 ⟨Nat.le_of_ble_eq_true rfl, Nat.le_of_ble_eq_true rfl⟩ hK wN_P (wN_D (A := fun _ => True)) rfl hl.1 (Nat.le_of_ble_eq_true rfl) dX9_tilt_2 ⟨Nat.le_refl _, Nat.le_refl _⟩) hP hS hA (fun H locs hP hS => ?_)
  refine lv_if_eq (tgt := 27) hx hb dX9_tilt_5 (by decide) (fun c5 => ?_) (fun c5 => ?_)
  · have hf := ifp c5 hf
    refine lv_ldc2 hx hb S.2.2.2.1 (S.2.2.2.2 _ (List.mem_cons_of_mem _ q817)) dX9_tilt_27 ?_
    exact u_lretr hx hb hr hlocks hP hD hS dX9_tilt_30 hf (fun _ => rfl)
  · have hf := ifn c5 hf
    refine lv_iload_n hx hb dX9_tilt_8 rfl (lv_at hl 3 rfl) ?_
    refine lv_iload hx hb dX9_tilt_9 (lv_at hl 4 rfl) ?_
    obtain ⟨r11, h11, hf⟩ := ob_some hf
    refine p_calli0 (u_runS (rest := []) S (c_X9_isCorner l D cy σ v3 v4 r11 h11 aw ac H.size) iX9_isCorner q788 q787 ⟨Nat.le_of_ble_eq_true rfl, Nat.le_of_ble_eq_true rfl⟩ hK wN_P (wN_D (A := fun _ => True)) rfl hl.1 (Nat.le_of_ble_eq_true rfl) dX9_tilt_11 ⟨Nat.le_refl _, Nat.le_refl _⟩) hP hS hA (fun H locs hP hS => ?_)
    refine lv_if_eq (tgt := 27) hx hb dX9_tilt_14 (by decide) (fun c14 => ?_) (fun c14 => ?_)
    · have hf := ifp c14 hf
      refine lv_ldc2 hx hb S.2.2.2.1 (S.2.2.2.2 _ (List.mem_cons_of_mem _ q817)) dX9_tilt_27 ?_
      exact u_lretr hx hb hr hlocks hP hD hS dX9_tilt_30 hf (fun _ => rfl)
    · have hf := ifn c14 hf
      refine lv_iload hx hb dX9_tilt_17 (lv_at hl 5 rfl) ?_
      refine lv_iconst (v := (0 : Int32)) hx hb dX9_tilt_19 (by decide) ?_
      refine lv_iconst (v := (1 : Int32)) hx hb dX9_tilt_20 (by decide) ?_
      obtain ⟨r21, h21, hf⟩ := ob_some hf
      refine p_calli0 (u_runS (rest := []) S (c_X9_within l D cy σ v5 (0 : Int32) (1 : Int32) r21 h21 aw ac H.size) iX9_within q326 q325 ⟨Nat.le_of_ble_eq_true rfl, Nat.le_of_ble_eq_true rfl⟩ hK wN_P (wN_D (A := fun _ => True)) rfl hl.1 (Nat.le_of_ble_eq_true rfl) dX9_tilt_21 ⟨Nat.le_refl _, Nat.le_refl _⟩) hP hS hA (fun H locs hP hS => ?_)
      refine lv_if_ne (tgt := 31) hx hb dX9_tilt_24 (by decide) (fun c24 => ?_) (fun c24 => ?_)
      · have hf := ifn c24 hf
        refine lv_aload_n hx hb dX9_tilt_31 rfl (lv_at hl 0 rfl) ?_
        refine gX_x_outline S hK hP q301 dX9_tilt_32 ?_
        obtain ⟨r35, h35, hf⟩ := ob_some hf
        refine u_calli0 (u_runV (rest := []) S (c_X3_hasMiddle l D cy ad σ r35 h35 aw ac H.size) iX3_hasMiddle vX3_hasMiddle q818 ⟨Nat.le_of_ble_eq_true rfl, Nat.le_of_ble_eq_true rfl⟩ hK hP hD (q0 := 9) rfl rfl rfl hl.1 (Nat.le_of_ble_eq_true rfl) dX9_tilt_35 ⟨Nat.le_refl _, Nat.le_refl _⟩) hD hS hA (fun H locs hP hD hS => ?_)
        refine lv_if_ne (tgt := 45) hx hb dX9_tilt_38 (by decide) (fun c38 => ?_) (fun c38 => ?_)
        · have hf := ifn c38 hf
          refine lv_aload_n hx hb dX9_tilt_45 rfl (lv_at hl 0 rfl) ?_
          refine gX_x_outline S hK hP q301 dX9_tilt_46 ?_
          refine lv_iload_n hx hb dX9_tilt_49 rfl (lv_at hl 1 rfl) ?_
          refine lv_iload_n hx hb dX9_tilt_50 rfl (lv_at hl 3 rfl) ?_
          obtain ⟨r51, h51, hf⟩ := ob_some hf
          refine u_calll0 (u_runV (rest := []) S (c_X3_tiltAbove l D cy ad σ v1 v3 r51 h51 aw ac H.size) iX3_tiltAbove vX3_tiltAbove q853 ⟨Nat.le_of_ble_eq_true rfl, Nat.le_of_ble_eq_true rfl⟩ hK hP hD (q0 := 9) rfl rfl rfl hl.1 (Nat.le_of_ble_eq_true rfl) dX9_tilt_51 ⟨Nat.le_refl _, Nat.le_refl _⟩) hD hS hA (fun H locs hP hD hS => ?_)
          refine lv_ldc2 hx hb S.2.2.2.1 (S.2.2.2.2 _ (List.mem_cons_of_mem _ q860)) dX9_tilt_54 ?_
          refine lv_aload_n hx hb dX9_tilt_57 rfl (lv_at hl 0 rfl) ?_
          refine gX_x_outline S hK hP q301 dX9_tilt_58 ?_
          obtain ⟨r61, h61, hf⟩ := ob_some hf
          refine u_calll0 (u_runV (rest := [.long (2 : Int64), .long r51]) S (c_X3_middleBelow l D cy ad σ r61 h61 aw ac H.size) iX3_middleBelow vX3_middleBelow q836 ⟨Nat.le_of_ble_eq_true rfl, Nat.le_of_ble_eq_true rfl⟩ hK hP hD (q0 := 9) rfl rfl rfl hl.1 (Nat.le_of_ble_eq_true rfl) dX9_tilt_61 ⟨Nat.le_refl _, Nat.le_refl _⟩) hD hS hA (fun H locs hP hD hS => ?_)
          refine lv_lmul hx hb dX9_tilt_64 ?_
          refine lv_iload hx hb dX9_tilt_65 (lv_at hl 5 rfl) ?_
          obtain ⟨r67, h67, hf⟩ := ob_some hf
          refine p_calll0 (u_runS (rest := []) S (c_X9_ofLowest l D cy σ r51 ((2 : Int64) * r61) v5 r67 h67 aw ac H.size) iX9_ofLowest q843 q842 ⟨Nat.le_of_ble_eq_true rfl, Nat.le_of_ble_eq_true rfl⟩ hK wN_P (wN_D (A := fun _ => True)) rfl hl.1 (Nat.le_of_ble_eq_true rfl) dX9_tilt_67 ⟨Nat.le_refl _, Nat.le_refl _⟩) hP hS hA (fun H locs hP hS => ?_)
          exact u_lretr hx hb hr hlocks hP hD hS dX9_tilt_70 hf (fun _ => rfl)
        · have hf := ifp c38 hf
          refine lv_ldc2 hx hb S.2.2.2.1 (S.2.2.2.2 _ (List.mem_cons_of_mem _ q823)) dX9_tilt_41 ?_
          exact u_lretr hx hb hr hlocks hP hD hS dX9_tilt_44 hf (fun _ => rfl)
      · have hf := ifp c24 hf
        refine lv_ldc2 hx hb S.2.2.2.1 (S.2.2.2.2 _ (List.mem_cons_of_mem _ q817)) dX9_tilt_27 ?_
        exact u_lretr hx hb hr hlocks hP hD hS dX9_tilt_30 hf (fun _ => rfl)
theorem iX9_steady : YI yX9_steady cX9_steady 5 (some .int) 4 := ⟨q864, q1, by decide, by decide, by decide +kernel⟩
theorem vX9_steady : YV yX9_steady := ⟨q862, q863⟩
set_option maxRecDepth 100000 in
set_option maxHeartbeats 4000000 in
theorem c_X9_steady (l : Launch) (D : va_G) (cy : Nat → ClassId) (ad : Nat → Nat) (σ : St) (v1 : Int32) (v2 : Int32) (v3 : Int32) (v4 : Int32) (r : Int32) (hf : fX9_steady σ v1 v2 v3 v4 = some r) : Ci l D cy (wX cy ad) yX9_steady cX9_steady 5 .int 6 138 [.ref (ad 0), .int v1, .int v2, .int v3, .int v4] σ r σ 0 0 := by
  refine Ci.enter (by decide) (Nat.le_of_ble_eq_true rfl) ?_
  intro aw ac p e s m below meth c A H locs S hr hlocks hA hK hP hD hS ls hl
  have hx := S.1
  have hb := S.2.1
  have hl : lv_has ls 5 [(0, .ref (ad 0)), (1, .int v1), (2, .int v2), (3, .int v3), (4, .int v4)] := hl
  unfold fX9_steady at hf
  refine lv_iload_n hx hb dX9_steady_0 rfl (lv_at hl 1 rfl) ?_
  refine lv_iload_n hx hb dX9_steady_1 rfl (lv_at hl 2 rfl) ?_
  obtain ⟨r2, h2, hf⟩ := ob_some hf
  refine p_calli0 (u_runS (rest := []) S (c_X9_isCorner l D cy σ v1 v2 r2 h2 aw ac H.size) iX9_isCorner q788 q787 ⟨Nat.le_of_ble_eq_true rfl, Nat.le_of_ble_eq_true rfl⟩ hK wN_P (wN_D (A := fun _ => True)) rfl hl.1 (Nat.le_of_ble_eq_true rfl) dX9_steady_2 ⟨Nat.le_refl _, Nat.le_refl _⟩) hP hS hA (fun H locs hP hS => ?_)
  refine lv_if_eq (tgt := 17) hx hb dX9_steady_5 (by decide) (fun c5 => ?_) (fun c5 => ?_)
  · have hf := ifp c5 hf
    refine lv_bipush (v := (-2 : Int32)) hx hb dX9_steady_17 (by decide) ?_
    exact u_iretr hx hb hr hlocks rfl hP hD hS dX9_steady_19 hf (fun _ => rfl)
  · have hf := ifn c5 hf
    refine lv_iload_n hx hb dX9_steady_8 rfl (lv_at hl 3 rfl) ?_
    refine lv_iload hx hb dX9_steady_9 (lv_at hl 4 rfl) ?_
    obtain ⟨r11, h11, hf⟩ := ob_some hf
    refine p_calli0 (u_runS (rest := []) S (c_X9_isCorner l D cy σ v3 v4 r11 h11 aw ac H.size) iX9_isCorner q788 q787 ⟨Nat.le_of_ble_eq_true rfl, Nat.le_of_ble_eq_true rfl⟩ hK wN_P (wN_D (A := fun _ => True)) rfl hl.1 (Nat.le_of_ble_eq_true rfl) dX9_steady_11 ⟨Nat.le_refl _, Nat.le_refl _⟩) hP hS hA (fun H locs hP hS => ?_)
    refine lv_if_ne (tgt := 20) hx hb dX9_steady_14 (by decide) (fun c14 => ?_) (fun c14 => ?_)
    · have hf := ifn c14 hf
      refine lv_aload_n hx hb dX9_steady_20 rfl (lv_at hl 0 rfl) ?_
      refine gX_x_outline S hK hP q301 dX9_steady_21 ?_
      obtain ⟨r24, h24, hf⟩ := ob_some hf
      refine u_calli0 (u_runV (rest := []) S (c_X3_hasMiddle l D cy ad σ r24 h24 aw ac H.size) iX3_hasMiddle vX3_hasMiddle q818 ⟨Nat.le_of_ble_eq_true rfl, Nat.le_of_ble_eq_true rfl⟩ hK hP hD (q0 := 9) rfl rfl rfl hl.1 (Nat.le_of_ble_eq_true rfl) dX9_steady_24 ⟨Nat.le_refl _, Nat.le_refl _⟩) hD hS hA (fun H locs hP hD hS => ?_)
      refine lv_if_ne (tgt := 33) hx hb dX9_steady_27 (by decide) (fun c27 => ?_) (fun c27 => ?_)
      · have hf := ifn c27 hf
        refine lv_aload_n hx hb dX9_steady_33 rfl (lv_at hl 0 rfl) ?_
        refine gX_x_outline S hK hP q301 dX9_steady_34 ?_
        refine lv_iload_n hx hb dX9_steady_37 rfl (lv_at hl 1 rfl) ?_
        refine lv_iload_n hx hb dX9_steady_38 rfl (lv_at hl 2 rfl) ?_
        refine lv_iload_n hx hb dX9_steady_39 rfl (lv_at hl 3 rfl) ?_
        refine lv_iload hx hb dX9_steady_40 (lv_at hl 4 rfl) ?_
        obtain ⟨r42, h42, hf⟩ := ob_some hf
        refine u_calli0 (u_runV (rest := []) S (c_X3_hangsSteady l D cy ad σ v1 v2 v3 v4 r42 h42 aw ac H.size) iX3_hangsSteady vX3_hangsSteady q865 ⟨Nat.le_of_ble_eq_true rfl, Nat.le_of_ble_eq_true rfl⟩ hK hP hD (q0 := 9) rfl rfl rfl hl.1 (Nat.le_of_ble_eq_true rfl) dX9_steady_42 ⟨Nat.le_refl _, Nat.le_refl _⟩) hD hS hA (fun H locs hP hD hS => ?_)
        refine lv_if_eq (tgt := 52) hx hb dX9_steady_45 (by decide) (fun c45 => ?_) (fun c45 => ?_)
        · have hf := ifp c45 hf
          refine lv_iconst (v := (0 : Int32)) hx hb dX9_steady_52 (by decide) ?_
          exact u_iretr hx hb hr hlocks rfl hP hD hS dX9_steady_53 hf (fun _ => rfl)
        · have hf := ifn c45 hf
          refine lv_iconst (v := (1 : Int32)) hx hb dX9_steady_48 (by decide) ?_
          refine lv_goto (tgt := 53) hx hb dX9_steady_49 (by decide) ?_
          exact u_iretr hx hb hr hlocks rfl hP hD hS dX9_steady_53 hf (fun _ => rfl)
      · have hf := ifp c27 hf
        refine lv_bipush (v := (-3 : Int32)) hx hb dX9_steady_30 (by decide) ?_
        exact u_iretr hx hb hr hlocks rfl hP hD hS dX9_steady_32 hf (fun _ => rfl)
    · have hf := ifp c14 hf
      refine lv_bipush (v := (-2 : Int32)) hx hb dX9_steady_17 (by decide) ?_
      exact u_iretr hx hb hr hlocks rfl hP hD hS dX9_steady_19 hf (fun _ => rfl)
theorem iX9_holes : YI yX9_holes cX9_holes 1 (some .int) 0 := ⟨q875, q1, by decide, by decide, by decide +kernel⟩
theorem vX9_holes : YV yX9_holes := ⟨q873, q874⟩
set_option maxRecDepth 100000 in
set_option maxHeartbeats 4000000 in
theorem c_X9_holes (l : Launch) (D : va_G) (cy : Nat → ClassId) (ad : Nat → Nat) (σ : St) (r : Int32) (hf : fX9_holes σ = some r) : Ci l D cy (wX cy ad) yX9_holes cX9_holes 1 .int 7 166 [.ref (ad 0)] σ r σ 0 0 := by
  refine Ci.enter (by decide) (Nat.le_of_ble_eq_true rfl) ?_
  intro aw ac p e s m below meth c A H locs S hr hlocks hA hK hP hD hS ls hl
  have hx := S.1
  have hb := S.2.1
  have hl : lv_has ls 1 [(0, .ref (ad 0))] := hl
  unfold fX9_holes at hf
  refine lv_aload_n hx hb dX9_holes_0 rfl (lv_at hl 0 rfl) ?_
  refine gX_x_outline S hK hP q301 dX9_holes_1 ?_
  obtain ⟨r4, h4, hf⟩ := ob_some hf
  refine u_calli0 (u_runV (rest := []) S (c_X3_hasMiddle l D cy ad σ r4 h4 aw ac H.size) iX3_hasMiddle vX3_hasMiddle q818 ⟨Nat.le_of_ble_eq_true rfl, Nat.le_of_ble_eq_true rfl⟩ hK hP hD (q0 := 9) rfl rfl rfl hl.1 (Nat.le_of_ble_eq_true rfl) dX9_holes_4 ⟨Nat.le_refl _, Nat.le_refl _⟩) hD hS hA (fun H locs hP hD hS => ?_)
  refine lv_if_eq (tgt := 20) hx hb dX9_holes_7 (by decide) (fun c7 => ?_) (fun c7 => ?_)
  · have hf := ifp c7 hf
    refine lv_bipush (v := (-3 : Int32)) hx hb dX9_holes_20 (by decide) ?_
    exact u_iretr hx hb hr hlocks rfl hP hD hS dX9_holes_22 hf (fun _ => rfl)
  · have hf := ifn c7 hf
    refine lv_aload_n hx hb dX9_holes_10 rfl (lv_at hl 0 rfl) ?_
    refine gX_x_outline S hK hP q301 dX9_holes_11 ?_
    obtain ⟨r14, h14, hf⟩ := ob_some hf
    refine u_calli0 (u_runV (rest := []) S (c_X3_bestHoles l D cy ad σ r14 h14 aw ac H.size) iX3_bestHoles vX3_bestHoles q876 ⟨Nat.le_of_ble_eq_true rfl, Nat.le_of_ble_eq_true rfl⟩ hK hP hD (q0 := 9) rfl rfl rfl hl.1 (Nat.le_of_ble_eq_true rfl) dX9_holes_14 ⟨Nat.le_refl _, Nat.le_refl _⟩) hD hS hA (fun H locs hP hD hS => ?_)
    refine lv_goto (tgt := 22) hx hb dX9_holes_17 (by decide) ?_
    exact u_iretr hx hb hr hlocks rfl hP hD hS dX9_holes_22 hf (fun _ => rfl)
theorem iX9_count : YI yX9_count cX9_count 2 (some .int) 1 := ⟨q885, q1, by decide, by decide, by decide +kernel⟩
theorem vX9_count : YV yX9_count := ⟨q883, q884⟩
set_option maxRecDepth 100000 in
set_option maxHeartbeats 4000000 in
theorem c_X9_count (l : Launch) (D : va_G) (cy : Nat → ClassId) (ad : Nat → Nat) (σ : St) (v1 : Int32) (r : Int32) (hf : fX9_count σ v1 = some r) : Ci l D cy (wX cy ad) yX9_count cX9_count 2 .int 1 22 [.ref (ad 0), .int v1] σ r σ 0 0 := by
  refine Ci.enter (by decide) (Nat.le_of_ble_eq_true rfl) ?_
  intro aw ac p e s m below meth c A H locs S hr hlocks hA hK hP hD hS ls hl
  have hx := S.1
  have hb := S.2.1
  have hl : lv_has ls 2 [(0, .ref (ad 0)), (1, .int v1)] := hl
  unfold fX9_count at hf
  refine lv_iload_n hx hb dX9_count_0 rfl (lv_at hl 1 rfl) ?_
  by_cases c1_0 : v1 = (0 : Int32)
  · have hf := ifp c1_0 hf
    refine lv_tableIn (off := 51) (tgt := 52) hx hb dX9_count_1 (by rw [c1_0]; decide) (by rw [c1_0]; decide) (by rw [c1_0]; decide) (by decide) ?_
    refine lv_aload_n hx hb dX9_count_52 rfl (lv_at hl 0 rfl) ?_
    refine gX_x_crew S hK hP q294 dX9_count_53 ?_
    refine gX_crew_size S hK hP q64 dX9_count_56 ?_
    exact u_iretr hx hb hr hlocks rfl hP hD hS dX9_count_59 hf (fun _ => rfl)
  · have hf := ifn c1_0 hf
    by_cases c1_1 : v1 = (1 : Int32)
    · have hf := ifp c1_1 hf
      refine lv_tableIn (off := 59) (tgt := 60) hx hb dX9_count_1 (by rw [c1_1]; decide) (by rw [c1_1]; decide) (by rw [c1_1]; decide) (by decide) ?_
      refine lv_aload_n hx hb dX9_count_60 rfl (lv_at hl 0 rfl) ?_
      refine gX_x_ropes S hK hP q295 dX9_count_61 ?_
      refine gX_ropes_size S hK hP q86 dX9_count_64 ?_
      exact u_iretr hx hb hr hlocks rfl hP hD hS dX9_count_67 hf (fun _ => rfl)
    · have hf := ifn c1_1 hf
      by_cases c1_2 : v1 = (2 : Int32)
      · have hf := ifp c1_2 hf
        refine lv_tableIn (off := 67) (tgt := 68) hx hb dX9_count_1 (by rw [c1_2]; decide) (by rw [c1_2]; decide) (by rw [c1_2]; decide) (by decide) ?_
        refine lv_aload_n hx hb dX9_count_68 rfl (lv_at hl 0 rfl) ?_
        refine gX_x_row S hK hP q296 dX9_count_69 ?_
        refine gX_row_size S hK hP q107 dX9_count_72 ?_
        exact u_iretr hx hb hr hlocks rfl hP hD hS dX9_count_75 hf (fun _ => rfl)
      · have hf := ifn c1_2 hf
        by_cases c1_3 : v1 = (3 : Int32)
        · have hf := ifp c1_3 hf
          refine lv_tableIn (off := 75) (tgt := 76) hx hb dX9_count_1 (by rw [c1_3]; decide) (by rw [c1_3]; decide) (by rw [c1_3]; decide) (by decide) ?_
          refine lv_aload_n hx hb dX9_count_76 rfl (lv_at hl 0 rfl) ?_
          refine gX_x_stones S hK hP q297 dX9_count_77 ?_
          refine gX_stones_size S hK hP q136 dX9_count_80 ?_
          exact u_iretr hx hb hr hlocks rfl hP hD hS dX9_count_83 hf (fun _ => rfl)
        · have hf := ifn c1_3 hf
          by_cases c1_4 : v1 = (4 : Int32)
          · have hf := ifp c1_4 hf
            refine lv_tableIn (off := 83) (tgt := 84) hx hb dX9_count_1 (by rw [c1_4]; decide) (by rw [c1_4]; decide) (by rw [c1_4]; decide) (by decide) ?_
            refine lv_aload_n hx hb dX9_count_84 rfl (lv_at hl 0 rfl) ?_
            refine gX_x_stands S hK hP q298 dX9_count_85 ?_
            refine gX_stands_size S hK hP q173 dX9_count_88 ?_
            exact u_iretr hx hb hr hlocks rfl hP hD hS dX9_count_91 hf (fun _ => rfl)
          · have hf := ifn c1_4 hf
            by_cases c1_5 : v1 = (5 : Int32)
            · have hf := ifp c1_5 hf
              refine lv_tableIn (off := 91) (tgt := 92) hx hb dX9_count_1 (by rw [c1_5]; decide) (by rw [c1_5]; decide) (by rw [c1_5]; decide) (by decide) ?_
              refine lv_aload_n hx hb dX9_count_92 rfl (lv_at hl 0 rfl) ?_
              refine gX_x_outline S hK hP q301 dX9_count_93 ?_
              refine gX_outline_size S hK hP q285 dX9_count_96 ?_
              exact u_iretr hx hb hr hlocks rfl hP hD hS dX9_count_99 hf (fun _ => rfl)
            · have hf := ifn c1_5 hf
              by_cases c1_6 : v1 = (6 : Int32)
              · have hf := ifp c1_6 hf
                refine lv_tableIn (off := 99) (tgt := 100) hx hb dX9_count_1 (by rw [c1_6]; decide) (by rw [c1_6]; decide) (by rw [c1_6]; decide) (by decide) ?_
                refine lv_aload_n hx hb dX9_count_100 rfl (lv_at hl 0 rfl) ?_
                refine gX_x_calendar S hK hP q300 dX9_count_101 ?_
                obtain ⟨r104, h104, hf⟩ := ob_some hf
                refine u_calli0 (u_runV (rest := []) S (c_X0_frostDays l D cy ad σ r104 h104 aw ac H.size) iX0_frostDays vX0_frostDays q886 ⟨Nat.le_of_ble_eq_true rfl, Nat.le_of_ble_eq_true rfl⟩ hK hP hD (q0 := 8) rfl rfl rfl hl.1 (Nat.le_of_ble_eq_true rfl) dX9_count_104 ⟨Nat.le_refl _, Nat.le_refl _⟩) hD hS hA (fun H locs hP hD hS => ?_)
                exact u_iretr hx hb hr hlocks rfl hP hD hS dX9_count_107 hf (fun _ => rfl)
              · have hf := ifn c1_6 hf
                by_cases c1_7 : v1 = (7 : Int32)
                · have hf := ifp c1_7 hf
                  refine lv_tableIn (off := 107) (tgt := 108) hx hb dX9_count_1 (by rw [c1_7]; decide) (by rw [c1_7]; decide) (by rw [c1_7]; decide) (by decide) ?_
                  refine lv_aload_n hx hb dX9_count_108 rfl (lv_at hl 0 rfl) ?_
                  refine gX_x_stones S hK hP q297 dX9_count_109 ?_
                  refine gX_stones_centrings S hK hP q138 dX9_count_112 ?_
                  exact u_iretr hx hb hr hlocks rfl hP hD hS dX9_count_115 hf (fun _ => rfl)
                · have hf := ifn c1_7 hf
                  by_cases c1_8 : v1 = (8 : Int32)
                  · have hf := ifp c1_8 hf
                    refine lv_tableIn (off := 115) (tgt := 116) hx hb dX9_count_1 (by rw [c1_8]; decide) (by rw [c1_8]; decide) (by rw [c1_8]; decide) (by decide) ?_
                    refine lv_aload_n hx hb dX9_count_116 rfl (lv_at hl 0 rfl) ?_
                    refine gX_x_calendar S hK hP q300 dX9_count_117 ?_
                    refine gX_calendar_drying S hK hP q242 dX9_count_120 ?_
                    exact u_iretr hx hb hr hlocks rfl hP hD hS dX9_count_123 hf (fun _ => rfl)
                  · have hf := ifn c1_8 hf
                    refine lv_tableOut (tgt := 124) hx hb dX9_count_1 (sw_8 c1_0 c1_1 c1_2 c1_3 c1_4 c1_5 c1_6 c1_7 c1_8) (by decide) ?_
                    refine lv_bipush (v := (-2 : Int32)) hx hb dX9_count_124 (by decide) ?_
                    exact u_iretr hx hb hr hlocks rfl hP hD hS dX9_count_126 hf (fun _ => rfl)
theorem iX9_digest : YI yX9_digest cX9_digest 4 (some .long) 0 := ⟨q893, q1, by decide, by decide, by decide +kernel⟩
theorem vX9_digest : YV yX9_digest := ⟨q891, q892⟩
set_option maxRecDepth 100000 in
set_option maxHeartbeats 4000000 in
theorem c_X9_digest (l : Launch) (D : va_G) (cy : Nat → ClassId) (ad : Nat → Nat) (σ : St) (r : Int64) (hf : fX9_digest σ = some r) : Cl l D cy (wX cy ad) yX9_digest cX9_digest 4 5 112 [.ref (ad 0)] σ r σ 0 0 := by
  refine Cl.enter (by decide) (Nat.le_of_ble_eq_true rfl) ?_
  intro aw ac p e s m below meth c A H locs S hr hlocks hA hK hP hD hS ls hl
  have hx := S.1
  have hb := S.2.1
  have hl : lv_has ls 4 [(0, .ref (ad 0))] := hl
  unfold fX9_digest at hf
  refine lv_ldc2 hx hb S.2.2.2.1 (S.2.2.2.2 _ (List.mem_cons_of_mem _ q894)) dX9_digest_0 ?_
  refine lv_lstore_n (lv' := [(1, .long (271 : Int64)), (0, .ref (ad 0))]) hx hb dX9_digest_3 rfl hl (by decide) rfl (fun ls hl => ?_)
  refine lv_iconst (v := (0 : Int32)) hx hb dX9_digest_4 (by decide) ?_
  refine lv_istore_n (lv' := [(3, .int (0 : Int32)), (1, .long (271 : Int64)), (0, .ref (ad 0))]) hx hb dX9_digest_5 rfl hl (by decide) rfl (fun ls hl => ?_)
  have L6 : ∀ (n6 : Nat) (v1_6 : Int64) (v3_6 : Int32) (H : Heap) (locs : List Loc) (ls : Array Slot), fX9_digest_6 (fX9_digest_6_k σ) σ n6 v1_6 v3_6 = some r → va_P D vwCl (wX cy ad aw ac σ) H → va_D A (wX cy ad aw ac σ) → va_S A s.heap H locs → lv_has ls 4 [(0, .ref (ad 0)), (1, .long v1_6), (3, .int v3_6)] → W p l e (Rm 5 112 0 0) s m [.ref (ad 0)].toArray below meth c H locs 0 0 (Zl D (wX cy ad) A r σ aw ac below [.ref (ad 0)].toArray s 0 0) (F0 m 6 ls []) := by
    intro n6
    induction n6 with
    | zero =>
      intro v1_6 v3_6 H locs ls hf
      cases hf
    | succ n6 ih6 =>
      intro v1_6 v3_6 H locs ls hf hP hD hS hl
      rw [fX9_digest_6] at hf
      refine lv_iload_n hx hb dX9_digest_6 rfl (lv_at hl 2 rfl) ?_
      refine lv_bipush (v := (8 : Int32)) hx hb dX9_digest_7 (by decide) ?_
      refine lv_icmp_gt (tgt := 31) hx hb dX9_digest_9 (by decide) (fun c9 => ?_) (fun c9 => ?_)
      · have hf := ifp c9 hf
        have hl := lv_sub (l' := [(0, .ref (ad 0)), (1, .long v1_6), (3, .int v3_6)]) hl [0, 1, 2] rfl
        unfold fX9_digest_6_k at hf
        refine lv_aload_n hx hb dX9_digest_31 rfl (lv_at hl 0 rfl) ?_
        refine gX_x_drum S hK hP q293 dX9_digest_32 ?_
        refine lv_lload_n hx hb dX9_digest_35 rfl (lv_at hl 1 rfl) ?_
        obtain ⟨r36, h36, hf⟩ := ob_some hf
        refine u_calll0 (u_runV (rest := []) S (c_X2_mixInto l D cy ad σ v1_6 r36 h36 aw ac H.size) iX2_mixInto vX2_mixInto q897 ⟨Nat.le_of_ble_eq_true rfl, Nat.le_of_ble_eq_true rfl⟩ hK hP hD (q0 := 1) rfl rfl rfl hl.1 (Nat.le_of_ble_eq_true rfl) dX9_digest_36 ⟨Nat.le_refl _, Nat.le_refl _⟩) hD hS hA (fun H locs hP hD hS => ?_)
        refine lv_lstore_n (lv' := [(1, .long r36), (0, .ref (ad 0)), (3, .int v3_6)]) hx hb dX9_digest_39 rfl hl (by decide) rfl (fun ls hl => ?_)
        refine lv_ldc2 hx hb S.2.2.2.1 (S.2.2.2.2 _ (List.mem_cons_of_mem _ q895)) dX9_digest_40 ?_
        refine lv_lload_n hx hb dX9_digest_43 rfl (lv_at hl 0 rfl) ?_
        refine lv_lmul hx hb dX9_digest_44 ?_
        refine lv_aload_n hx hb dX9_digest_45 rfl (lv_at hl 1 rfl) ?_
        refine gX_x_stands S hK hP q298 dX9_digest_46 ?_
        refine gX_stands_sideways S hK hP q175 dX9_digest_49 ?_
        refine lv_i2l (v := ((gi σ 13)).toInt64) hx hb dX9_digest_52 rfl ?_
        refine lv_ladd hx hb dX9_digest_53 ?_
        refine lv_lstore_n (lv' := [(1, .long (((31 : Int64) * r36) + (((gi σ 13)).toInt64))), (0, .ref (ad 0)), (3, .int v3_6)]) hx hb dX9_digest_54 rfl hl (by decide) rfl (fun ls hl => ?_)
        refine lv_ldc2 hx hb S.2.2.2.1 (S.2.2.2.2 _ (List.mem_cons_of_mem _ q895)) dX9_digest_55 ?_
        refine lv_lload_n hx hb dX9_digest_58 rfl (lv_at hl 0 rfl) ?_
        refine lv_lmul hx hb dX9_digest_59 ?_
        refine lv_aload_n hx hb dX9_digest_60 rfl (lv_at hl 1 rfl) ?_
        refine gX_x_stands S hK hP q298 dX9_digest_61 ?_
        refine gX_stands_upwards S hK hP q177 dX9_digest_64 ?_
        refine lv_i2l (v := ((gi σ 14)).toInt64) hx hb dX9_digest_67 rfl ?_
        refine lv_ladd hx hb dX9_digest_68 ?_
        refine lv_lstore_n (lv' := [(1, .long (((31 : Int64) * (((31 : Int64) * r36) + (((gi σ 13)).toInt64))) + (((gi σ 14)).toInt64))), (0, .ref (ad 0)), (3, .int v3_6)]) hx hb dX9_digest_69 rfl hl (by decide) rfl (fun ls hl => ?_)
        refine lv_aload_n hx hb dX9_digest_70 rfl (lv_at hl 1 rfl) ?_
        refine gX_x_crew S hK hP q294 dX9_digest_71 ?_
        refine lv_lload_n hx hb dX9_digest_74 rfl (lv_at hl 0 rfl) ?_
        obtain ⟨r75, h75, hf⟩ := ob_some hf
        refine u_calll0 (u_runV (rest := []) S (c_X1_mixInto l D cy ad σ (((31 : Int64) * (((31 : Int64) * r36) + (((gi σ 13)).toInt64))) + (((gi σ 14)).toInt64)) r75 h75 aw ac H.size) iX1_mixInto vX1_mixInto q902 ⟨Nat.le_of_ble_eq_true rfl, Nat.le_of_ble_eq_true rfl⟩ hK hP hD (q0 := 2) rfl rfl rfl hl.1 (Nat.le_of_ble_eq_true rfl) dX9_digest_75 ⟨Nat.le_refl _, Nat.le_refl _⟩) hD hS hA (fun H locs hP hD hS => ?_)
        refine lv_lstore_n (lv' := [(1, .long r75), (0, .ref (ad 0)), (3, .int v3_6)]) hx hb dX9_digest_78 rfl hl (by decide) rfl (fun ls hl => ?_)
        refine lv_aload_n hx hb dX9_digest_79 rfl (lv_at hl 1 rfl) ?_
        refine gX_x_ropes S hK hP q295 dX9_digest_80 ?_
        refine lv_lload_n hx hb dX9_digest_83 rfl (lv_at hl 0 rfl) ?_
        obtain ⟨r84, h84, hf⟩ := ob_some hf
        refine u_calll0 (u_runV (rest := []) S (c_X5_mixInto l D cy ad σ r75 r84 h84 aw ac H.size) iX5_mixInto vX5_mixInto q907 ⟨Nat.le_of_ble_eq_true rfl, Nat.le_of_ble_eq_true rfl⟩ hK hP hD (q0 := 3) rfl rfl rfl hl.1 (Nat.le_of_ble_eq_true rfl) dX9_digest_84 ⟨Nat.le_refl _, Nat.le_refl _⟩) hD hS hA (fun H locs hP hD hS => ?_)
        refine lv_lstore_n (lv' := [(1, .long r84), (0, .ref (ad 0)), (3, .int v3_6)]) hx hb dX9_digest_87 rfl hl (by decide) rfl (fun ls hl => ?_)
        refine lv_aload_n hx hb dX9_digest_88 rfl (lv_at hl 1 rfl) ?_
        refine gX_x_row S hK hP q296 dX9_digest_89 ?_
        refine lv_lload_n hx hb dX9_digest_92 rfl (lv_at hl 0 rfl) ?_
        obtain ⟨r93, h93, hf⟩ := ob_some hf
        refine u_calll0 (u_runV (rest := []) S (c_X6_mixInto l D cy ad σ r84 r93 h93 aw ac H.size) iX6_mixInto vX6_mixInto q913 ⟨Nat.le_of_ble_eq_true rfl, Nat.le_of_ble_eq_true rfl⟩ hK hP hD (q0 := 4) rfl rfl rfl hl.1 (Nat.le_of_ble_eq_true rfl) dX9_digest_93 ⟨Nat.le_refl _, Nat.le_refl _⟩) hD hS hA (fun H locs hP hD hS => ?_)
        refine lv_lstore_n (lv' := [(1, .long r93), (0, .ref (ad 0)), (3, .int v3_6)]) hx hb dX9_digest_96 rfl hl (by decide) rfl (fun ls hl => ?_)
        refine lv_aload_n hx hb dX9_digest_97 rfl (lv_at hl 1 rfl) ?_
        refine gX_x_stones S hK hP q297 dX9_digest_98 ?_
        refine lv_lload_n hx hb dX9_digest_101 rfl (lv_at hl 0 rfl) ?_
        obtain ⟨r102, h102, hf⟩ := ob_some hf
        refine u_calll0 (u_runV (rest := []) S (c_X8_mixInto l D cy ad σ r93 r102 h102 aw ac H.size) iX8_mixInto vX8_mixInto q918 ⟨Nat.le_of_ble_eq_true rfl, Nat.le_of_ble_eq_true rfl⟩ hK hP hD (q0 := 5) rfl rfl rfl hl.1 (Nat.le_of_ble_eq_true rfl) dX9_digest_102 ⟨Nat.le_refl _, Nat.le_refl _⟩) hD hS hA (fun H locs hP hD hS => ?_)
        refine lv_lstore_n (lv' := [(1, .long r102), (0, .ref (ad 0)), (3, .int v3_6)]) hx hb dX9_digest_105 rfl hl (by decide) rfl (fun ls hl => ?_)
        refine lv_aload_n hx hb dX9_digest_106 rfl (lv_at hl 1 rfl) ?_
        refine gX_x_stands S hK hP q298 dX9_digest_107 ?_
        refine lv_lload_n hx hb dX9_digest_110 rfl (lv_at hl 0 rfl) ?_
        obtain ⟨r111, h111, hf⟩ := ob_some hf
        refine u_calll0 (u_runV (rest := []) S (c_X7_mixInto l D cy ad σ r102 r111 h111 aw ac H.size) iX7_mixInto vX7_mixInto q923 ⟨Nat.le_of_ble_eq_true rfl, Nat.le_of_ble_eq_true rfl⟩ hK hP hD (q0 := 6) rfl rfl rfl hl.1 (Nat.le_of_ble_eq_true rfl) dX9_digest_111 ⟨Nat.le_refl _, Nat.le_refl _⟩) hD hS hA (fun H locs hP hD hS => ?_)
        refine lv_lstore_n (lv' := [(1, .long r111), (0, .ref (ad 0)), (3, .int v3_6)]) hx hb dX9_digest_114 rfl hl (by decide) rfl (fun ls hl => ?_)
        refine lv_aload_n hx hb dX9_digest_115 rfl (lv_at hl 1 rfl) ?_
        refine gX_x_calendar S hK hP q300 dX9_digest_116 ?_
        refine lv_lload_n hx hb dX9_digest_119 rfl (lv_at hl 0 rfl) ?_
        obtain ⟨r120, h120, hf⟩ := ob_some hf
        refine u_calll0 (u_runV (rest := []) S (c_X0_mixInto l D cy ad σ r111 r120 h120 aw ac H.size) iX0_mixInto vX0_mixInto q928 ⟨Nat.le_of_ble_eq_true rfl, Nat.le_of_ble_eq_true rfl⟩ hK hP hD (q0 := 8) rfl rfl rfl hl.1 (Nat.le_of_ble_eq_true rfl) dX9_digest_120 ⟨Nat.le_refl _, Nat.le_refl _⟩) hD hS hA (fun H locs hP hD hS => ?_)
        refine lv_lstore_n (lv' := [(1, .long r120), (0, .ref (ad 0)), (3, .int v3_6)]) hx hb dX9_digest_123 rfl hl (by decide) rfl (fun ls hl => ?_)
        refine lv_aload_n hx hb dX9_digest_124 rfl (lv_at hl 1 rfl) ?_
        refine gX_x_outline S hK hP q301 dX9_digest_125 ?_
        refine lv_lload_n hx hb dX9_digest_128 rfl (lv_at hl 0 rfl) ?_
        obtain ⟨r129, h129, hf⟩ := ob_some hf
        refine u_calll0 (u_runV (rest := []) S (c_X3_mixInto l D cy ad σ r120 r129 h129 aw ac H.size) iX3_mixInto vX3_mixInto q933 ⟨Nat.le_of_ble_eq_true rfl, Nat.le_of_ble_eq_true rfl⟩ hK hP hD (q0 := 9) rfl rfl rfl hl.1 (Nat.le_of_ble_eq_true rfl) dX9_digest_129 ⟨Nat.le_refl _, Nat.le_refl _⟩) hD hS hA (fun H locs hP hD hS => ?_)
        exact u_lretr hx hb hr hlocks hP hD hS dX9_digest_132 hf (fun _ => rfl)
      · have hf := ifn c9 hf
        refine lv_ldc2 hx hb S.2.2.2.1 (S.2.2.2.2 _ (List.mem_cons_of_mem _ q895)) dX9_digest_12 ?_
        refine lv_lload_n hx hb dX9_digest_15 rfl (lv_at hl 1 rfl) ?_
        refine lv_lmul hx hb dX9_digest_16 ?_
        refine lv_aload_n hx hb dX9_digest_17 rfl (lv_at hl 0 rfl) ?_
        refine lv_iload_n hx hb dX9_digest_18 rfl (lv_at hl 2 rfl) ?_
        obtain ⟨r19, h19, hf⟩ := ob_some hf
        refine u_calli0 (u_runV (rest := [.long ((31 : Int64) * v1_6)]) S (c_X9_count l D cy ad σ v3_6 r19 h19 aw ac H.size) iX9_count vX9_count q896 ⟨Nat.le_of_ble_eq_true rfl, Nat.le_of_ble_eq_true rfl⟩ hK hP hD (q0 := 0) rfl rfl rfl hl.1 (Nat.le_of_ble_eq_true rfl) dX9_digest_19 ⟨Nat.le_refl _, Nat.le_refl _⟩) hD hS hA (fun H locs hP hD hS => ?_)
        refine lv_i2l (v := (r19).toInt64) hx hb dX9_digest_22 rfl ?_
        refine lv_ladd hx hb dX9_digest_23 ?_
        refine lv_lstore_n (lv' := [(1, .long (((31 : Int64) * v1_6) + ((r19).toInt64))), (0, .ref (ad 0)), (3, .int v3_6)]) hx hb dX9_digest_24 rfl hl (by decide) rfl (fun ls hl => ?_)
        refine lv_iinc (v := (v3_6 + (1 : Int32))) (lv' := [(3, .int (v3_6 + (1 : Int32))), (1, .long (((31 : Int64) * v1_6) + ((r19).toInt64))), (0, .ref (ad 0))]) hx hb dX9_digest_25 hl (k := 2) rfl rfl (by decide) rfl (fun ls hl => ?_)
        refine lv_goto (tgt := 6) hx hb dX9_digest_28 (by decide) ?_
        exact ih6 (((31 : Int64) * v1_6) + ((r19).toInt64)) (v3_6 + (1 : Int32)) H locs ls hf hP hD hS (lv_sub hl [2, 1, 0] rfl)
  exact L6 KF (271 : Int64) (0 : Int32) H locs ls hf hP hD hS (lv_sub hl [2, 1, 0] rfl)
theorem iX10_in : YI yX10_in cX10_in 6 (some .boolean) 3 := ⟨q1113, q12, by decide, by decide, by decide +kernel⟩
set_option maxRecDepth 100000 in
set_option maxHeartbeats 4000000 in
theorem c_X10_in (l : Launch) (D : va_G) (cy : Nat → ClassId) (σ : St) (v0 : Int64) (v2 : Int64) (v4 : Int64) (r : Int32) (hf : fX10_in v0 v2 v4 = some r) : Ci l D cy wN yX10_in cX10_in 6 .boolean 0 0 [.long v0, .long v2, .long v4] σ r σ 0 0 := by
  refine Ci.enter (by decide) (Nat.le_of_ble_eq_true rfl) ?_
  intro aw ac p e s m below meth c A H locs S hr hlocks hA hK hP hD hS ls hl
  have hx := S.1
  have hb := S.2.1
  have hl : lv_has ls 6 [(0, .long v0), (2, .long v2), (4, .long v4)] := hl
  unfold fX10_in at hf
  refine lv_lload_n hx hb dX10_in_0 rfl (lv_at hl 0 rfl) ?_
  refine lv_lload_n hx hb dX10_in_1 rfl (lv_at hl 1 rfl) ?_
  refine W.lcmp hx hb dX10_in_2 ?_
  refine lv_if_lt (tgt := 17) hx hb dX10_in_3 (by decide) (fun c3 => ?_) (fun c3 => ?_)
  · have c3 := (lg_cmp_lt _ _).mp c3
    have hf := ifp c3 hf
    refine lv_iconst (v := (0 : Int32)) hx hb dX10_in_17 (by decide) ?_
    exact u_iretr hx hb hr hlocks rfl hP hD hS dX10_in_18 hf (fun _ => rfl)
  · have c3 := (not_congr (lg_cmp_lt _ _)).mp c3
    have hf := ifn c3 hf
    refine lv_lload_n hx hb dX10_in_6 rfl (lv_at hl 0 rfl) ?_
    refine lv_lload hx hb dX10_in_7 (lv_at hl 2 rfl) ?_
    refine W.lcmp hx hb dX10_in_9 ?_
    refine lv_if_gt (tgt := 17) hx hb dX10_in_10 (by decide) (fun c10 => ?_) (fun c10 => ?_)
    · have c10 := (lg_cmp_gt _ _).mp c10
      have hf := ifp c10 hf
      refine lv_iconst (v := (0 : Int32)) hx hb dX10_in_17 (by decide) ?_
      exact u_iretr hx hb hr hlocks rfl hP hD hS dX10_in_18 hf (fun _ => rfl)
    · have c10 := (not_congr (lg_cmp_gt _ _)).mp c10
      have hf := ifn c10 hf
      refine lv_iconst (v := (1 : Int32)) hx hb dX10_in_13 (by decide) ?_
      refine lv_goto (tgt := 18) hx hb dX10_in_14 (by decide) ?_
      exact u_iretr hx hb hr hlocks rfl hP hD hS dX10_in_18 hf (fun _ => rfl)
theorem iX10_bit : YI yX10_bit cX10_bit 1 (some .int) 1 := ⟨q1238, q12, by decide, by decide, by decide +kernel⟩
set_option maxRecDepth 100000 in
set_option maxHeartbeats 4000000 in
theorem c_X10_bit (l : Launch) (D : va_G) (cy : Nat → ClassId) (σ : St) (v0 : Int32) (r : Int32) (hf : fX10_bit v0 = some r) : Ci l D cy wN yX10_bit cX10_bit 1 .int 0 0 [.int v0] σ r σ 0 0 := by
  refine Ci.enter (by decide) (Nat.le_of_ble_eq_true rfl) ?_
  intro aw ac p e s m below meth c A H locs S hr hlocks hA hK hP hD hS ls hl
  have hx := S.1
  have hb := S.2.1
  have hl : lv_has ls 1 [(0, .int v0)] := hl
  unfold fX10_bit at hf
  refine lv_iload_n hx hb dX10_bit_0 rfl (lv_at hl 0 rfl) ?_
  refine lv_if_eq (tgt := 8) hx hb dX10_bit_1 (by decide) (fun c1 => ?_) (fun c1 => ?_)
  · have hf := ifp c1 hf
    refine lv_iconst (v := (0 : Int32)) hx hb dX10_bit_8 (by decide) ?_
    exact u_iretr hx hb hr hlocks rfl hP hD hS dX10_bit_9 hf (fun _ => rfl)
  · have hf := ifn c1 hf
    refine lv_iconst (v := (1 : Int32)) hx hb dX10_bit_4 (by decide) ?_
    refine lv_goto (tgt := 9) hx hb dX10_bit_5 (by decide) ?_
    exact u_iretr hx hb hr hlocks rfl hP hD hS dX10_bit_9 hf (fun _ => rfl)
theorem iX10_wheel : YI yX10_wheel cX10_wheel 5 (some .int) 4 := ⟨q1108, q12, by decide, by decide, by decide +kernel⟩
theorem vX10_wheel : YV yX10_wheel := ⟨q1106, q1107⟩
set_option maxRecDepth 100000 in
set_option maxHeartbeats 4000000 in
theorem c_X10_wheel (l : Launch) (D : va_G) (cy : Nat → ClassId) (ad : Nat → Nat) (σ : St) (v1 : Int32) (v2 : Int32) (v3 : Int32) (v4 : Int32) (q : Int32 × St) (hf : fX10_wheel σ v1 v2 v3 v4 = some q) : Ci l D cy (wM cy ad) yX10_wheel cX10_wheel 5 .int 1 25 [.ref (ad 0), .int v1, .int v2, .int v3, .int v4] σ q.1 q.2 0 0 := by
  refine Ci.enter (by decide) (Nat.le_of_ble_eq_true rfl) ?_
  intro aw ac p e s m below meth c A H locs S hr hlocks hA hK hP hD hS ls hl
  have hx := S.1
  have hb := S.2.1
  have hl : lv_has ls 5 [(0, .ref (ad 0)), (1, .int v1), (2, .int v2), (3, .int v3), (4, .int v4)] := hl
  unfold fX10_wheel at hf
  refine lv_iload_n hx hb dX10_wheel_0 rfl (lv_at hl 1 rfl) ?_
  refine lv_i2l (v := (v1).toInt64) hx hb dX10_wheel_1 rfl ?_
  refine lv_ldc2 hx hb S.2.2.2.1 (S.2.2.2.2 _ (List.mem_cons_of_mem _ q1109)) dX10_wheel_2 ?_
  refine lv_ldc2 hx hb S.2.2.2.1 (S.2.2.2.2 _ (List.mem_cons_of_mem _ q1110)) dX10_wheel_5 ?_
  obtain ⟨r8, h8, hf⟩ := ob_some hf
  refine p_calli0 (u_runS (rest := []) S (c_X10_in l D cy σ ((v1).toInt64) (100 : Int64) (2000 : Int64) r8 h8 aw ac H.size) iX10_in q1112 q1111 ⟨Nat.le_of_ble_eq_true rfl, Nat.le_of_ble_eq_true rfl⟩ hK wN_P (wN_D (A := fun _ => True)) rfl hl.1 (Nat.le_of_ble_eq_true rfl) dX10_wheel_8 ⟨Nat.le_refl _, Nat.le_refl _⟩) hP hS hA (fun H locs hP hS => ?_)
  refine lv_if_eq (tgt := 55) hx hb dX10_wheel_11 (by decide) (fun c11 => ?_) (fun c11 => ?_)
  · have hf := ifp c11 hf
    refine lv_bipush (v := (-2 : Int32)) hx hb dX10_wheel_55 (by decide) ?_
    exact u_iretw hx hb hr hlocks rfl hP hD hS dX10_wheel_57 hf (fun _ => rfl)
  · have hf := ifn c11 hf
    refine lv_iload_n hx hb dX10_wheel_14 rfl (lv_at hl 2 rfl) ?_
    refine lv_i2l (v := (v2).toInt64) hx hb dX10_wheel_15 rfl ?_
    refine lv_ldc2 hx hb S.2.2.2.1 (S.2.2.2.2 _ (List.mem_cons_of_mem _ q1114)) dX10_wheel_16 ?_
    refine lv_ldc2 hx hb S.2.2.2.1 (S.2.2.2.2 _ (List.mem_cons_of_mem _ q1115)) dX10_wheel_19 ?_
    obtain ⟨r22, h22, hf⟩ := ob_some hf
    refine p_calli0 (u_runS (rest := []) S (c_X10_in l D cy σ ((v2).toInt64) (10 : Int64) (60 : Int64) r22 h22 aw ac H.size) iX10_in q1112 q1111 ⟨Nat.le_of_ble_eq_true rfl, Nat.le_of_ble_eq_true rfl⟩ hK wN_P (wN_D (A := fun _ => True)) rfl hl.1 (Nat.le_of_ble_eq_true rfl) dX10_wheel_22 ⟨Nat.le_refl _, Nat.le_refl _⟩) hP hS hA (fun H locs hP hS => ?_)
    refine lv_if_eq (tgt := 55) hx hb dX10_wheel_25 (by decide) (fun c25 => ?_) (fun c25 => ?_)
    · have hf := ifp c25 hf
      refine lv_bipush (v := (-2 : Int32)) hx hb dX10_wheel_55 (by decide) ?_
      exact u_iretw hx hb hr hlocks rfl hP hD hS dX10_wheel_57 hf (fun _ => rfl)
    · have hf := ifn c25 hf
      refine lv_iload_n hx hb dX10_wheel_28 rfl (lv_at hl 3 rfl) ?_
      refine lv_i2l (v := (v3).toInt64) hx hb dX10_wheel_29 rfl ?_
      refine lv_ldc2 hx hb S.2.2.2.1 (S.2.2.2.2 _ (List.mem_cons_of_mem _ q1114)) dX10_wheel_30 ?_
      refine lv_ldc2 hx hb S.2.2.2.1 (S.2.2.2.2 _ (List.mem_cons_of_mem _ q1116)) dX10_wheel_33 ?_
      obtain ⟨r36, h36, hf⟩ := ob_some hf
      refine p_calli0 (u_runS (rest := []) S (c_X10_in l D cy σ ((v3).toInt64) (10 : Int64) (200 : Int64) r36 h36 aw ac H.size) iX10_in q1112 q1111 ⟨Nat.le_of_ble_eq_true rfl, Nat.le_of_ble_eq_true rfl⟩ hK wN_P (wN_D (A := fun _ => True)) rfl hl.1 (Nat.le_of_ble_eq_true rfl) dX10_wheel_36 ⟨Nat.le_refl _, Nat.le_refl _⟩) hP hS hA (fun H locs hP hS => ?_)
      refine lv_if_eq (tgt := 55) hx hb dX10_wheel_39 (by decide) (fun c39 => ?_) (fun c39 => ?_)
      · have hf := ifp c39 hf
        refine lv_bipush (v := (-2 : Int32)) hx hb dX10_wheel_55 (by decide) ?_
        exact u_iretw hx hb hr hlocks rfl hP hD hS dX10_wheel_57 hf (fun _ => rfl)
      · have hf := ifn c39 hf
        refine lv_iload hx hb dX10_wheel_42 (lv_at hl 4 rfl) ?_
        refine lv_i2l (v := (v4).toInt64) hx hb dX10_wheel_44 rfl ?_
        refine lv_lconst (v := (0 : Int64)) hx hb dX10_wheel_45 (by decide) ?_
        refine lv_ldc2 hx hb S.2.2.2.1 (S.2.2.2.2 _ (List.mem_cons_of_mem _ q1109)) dX10_wheel_46 ?_
        obtain ⟨r49, h49, hf⟩ := ob_some hf
        refine p_calli0 (u_runS (rest := []) S (c_X10_in l D cy σ ((v4).toInt64) (0 : Int64) (100 : Int64) r49 h49 aw ac H.size) iX10_in q1112 q1111 ⟨Nat.le_of_ble_eq_true rfl, Nat.le_of_ble_eq_true rfl⟩ hK wN_P (wN_D (A := fun _ => True)) rfl hl.1 (Nat.le_of_ble_eq_true rfl) dX10_wheel_49 ⟨Nat.le_refl _, Nat.le_refl _⟩) hP hS hA (fun H locs hP hS => ?_)
        refine lv_if_ne (tgt := 58) hx hb dX10_wheel_52 (by decide) (fun c52 => ?_) (fun c52 => ?_)
        · have hf := ifn c52 hf
          refine lv_aload_n hx hb dX10_wheel_58 rfl (lv_at hl 0 rfl) ?_
          refine lv_iload_n hx hb dX10_wheel_59 rfl (lv_at hl 1 rfl) ?_
          refine pM_m_girth S hK hP hD hS q945 dX10_wheel_60 (fun H locs hP hD hS => ?_)
          refine lv_aload_n hx hb dX10_wheel_63 rfl (lv_at hl 0 rfl) ?_
          refine lv_iload_n hx hb dX10_wheel_64 rfl (lv_at hl 2 rfl) ?_
          refine pM_m_stepsTurn S hK hP hD hS q946 dX10_wheel_65 (fun H locs hP hD hS => ?_)
          refine lv_aload_n hx hb dX10_wheel_68 rfl (lv_at hl 0 rfl) ?_
          refine lv_iload_n hx hb dX10_wheel_69 rfl (lv_at hl 3 rfl) ?_
          refine pM_m_axle S hK hP hD hS q947 dX10_wheel_70 (fun H locs hP hD hS => ?_)
          refine lv_aload_n hx hb dX10_wheel_73 rfl (lv_at hl 0 rfl) ?_
          refine lv_iload hx hb dX10_wheel_74 (lv_at hl 4 rfl) ?_
          refine pM_m_friction S hK hP hD hS q948 dX10_wheel_76 (fun H locs hP hD hS => ?_)
          refine lv_iconst (v := (1 : Int32)) hx hb dX10_wheel_79 (by decide) ?_
          exact u_iretw hx hb hr hlocks rfl hP hD hS dX10_wheel_80 hf (fun _ => rfl)
        · have hf := ifp c52 hf
          refine lv_bipush (v := (-2 : Int32)) hx hb dX10_wheel_55 (by decide) ?_
          exact u_iretw hx hb hr hlocks rfl hP hD hS dX10_wheel_57 hf (fun _ => rfl)
theorem iX10_winds : YI yX10_winds cX10_winds 3 (some .int) 2 := ⟨q1120, q12, by decide, by decide, by decide +kernel⟩
theorem vX10_winds : YV yX10_winds := ⟨q1118, q1119⟩
set_option maxRecDepth 100000 in
set_option maxHeartbeats 4000000 in
theorem c_X10_winds (l : Launch) (D : va_G) (cy : Nat → ClassId) (ad : Nat → Nat) (σ : St) (v1 : Int32) (v2 : Int32) (q : Int32 × St) (hf : fX10_winds σ v1 v2 = some q) : Ci l D cy (wM cy ad) yX10_winds cX10_winds 3 .int 1 25 [.ref (ad 0), .int v1, .int v2] σ q.1 q.2 0 0 := by
  refine Ci.enter (by decide) (Nat.le_of_ble_eq_true rfl) ?_
  intro aw ac p e s m below meth c A H locs S hr hlocks hA hK hP hD hS ls hl
  have hx := S.1
  have hb := S.2.1
  have hl : lv_has ls 3 [(0, .ref (ad 0)), (1, .int v1), (2, .int v2)] := hl
  unfold fX10_winds at hf
  refine lv_iload_n hx hb dX10_winds_0 rfl (lv_at hl 1 rfl) ?_
  refine lv_i2l (v := (v1).toInt64) hx hb dX10_winds_1 rfl ?_
  refine lv_lconst (v := (0 : Int64)) hx hb dX10_winds_2 (by decide) ?_
  refine lv_ldc2 hx hb S.2.2.2.1 (S.2.2.2.2 _ (List.mem_cons_of_mem _ q1114)) dX10_winds_3 ?_
  obtain ⟨r6, h6, hf⟩ := ob_some hf
  refine p_calli0 (u_runS (rest := []) S (c_X10_in l D cy σ ((v1).toInt64) (0 : Int64) (10 : Int64) r6 h6 aw ac H.size) iX10_in q1112 q1111 ⟨Nat.le_of_ble_eq_true rfl, Nat.le_of_ble_eq_true rfl⟩ hK wN_P (wN_D (A := fun _ => True)) rfl hl.1 (Nat.le_of_ble_eq_true rfl) dX10_winds_6 ⟨Nat.le_refl _, Nat.le_refl _⟩) hP hS hA (fun H locs hP hS => ?_)
  refine lv_if_eq (tgt := 24) hx hb dX10_winds_9 (by decide) (fun c9 => ?_) (fun c9 => ?_)
  · have hf := ifp c9 hf
    refine lv_bipush (v := (-2 : Int32)) hx hb dX10_winds_24 (by decide) ?_
    exact u_iretw hx hb hr hlocks rfl hP hD hS dX10_winds_26 hf (fun _ => rfl)
  · have hf := ifn c9 hf
    refine lv_iload_n hx hb dX10_winds_12 rfl (lv_at hl 2 rfl) ?_
    refine lv_i2l (v := (v2).toInt64) hx hb dX10_winds_13 rfl ?_
    refine lv_lconst (v := (1 : Int64)) hx hb dX10_winds_14 (by decide) ?_
    refine lv_ldc2 hx hb S.2.2.2.1 (S.2.2.2.2 _ (List.mem_cons_of_mem _ q1121)) dX10_winds_15 ?_
    obtain ⟨r18, h18, hf⟩ := ob_some hf
    refine p_calli0 (u_runS (rest := []) S (c_X10_in l D cy σ ((v2).toInt64) (1 : Int64) (20 : Int64) r18 h18 aw ac H.size) iX10_in q1112 q1111 ⟨Nat.le_of_ble_eq_true rfl, Nat.le_of_ble_eq_true rfl⟩ hK wN_P (wN_D (A := fun _ => True)) rfl hl.1 (Nat.le_of_ble_eq_true rfl) dX10_winds_18 ⟨Nat.le_refl _, Nat.le_refl _⟩) hP hS hA (fun H locs hP hS => ?_)
    refine lv_if_ne (tgt := 27) hx hb dX10_winds_21 (by decide) (fun c21 => ?_) (fun c21 => ?_)
    · have hf := ifn c21 hf
      refine lv_aload_n hx hb dX10_winds_27 rfl (lv_at hl 0 rfl) ?_
      refine lv_iload_n hx hb dX10_winds_28 rfl (lv_at hl 1 rfl) ?_
      refine pM_m_thick S hK hP hD hS q949 dX10_winds_29 (fun H locs hP hD hS => ?_)
      refine lv_aload_n hx hb dX10_winds_32 rfl (lv_at hl 0 rfl) ?_
      refine lv_iload_n hx hb dX10_winds_33 rfl (lv_at hl 2 rfl) ?_
      refine pM_m_turns S hK hP hD hS q950 dX10_winds_34 (fun H locs hP hD hS => ?_)
      refine lv_iconst (v := (1 : Int32)) hx hb dX10_winds_37 (by decide) ?_
      exact u_iretw hx hb hr hlocks rfl hP hD hS dX10_winds_38 hf (fun _ => rfl)
    · have hf := ifp c21 hf
      refine lv_bipush (v := (-2 : Int32)) hx hb dX10_winds_24 (by decide) ?_
      exact u_iretw hx hb hr hlocks rfl hP hD hS dX10_winds_26 hf (fun _ => rfl)
theorem iX10_girthOf : YI yX10_girthOf cX10_girthOf 2 (some .int) 1 := ⟨q1134, q12, by decide, by decide, by decide +kernel⟩
theorem vX10_girthOf : YV yX10_girthOf := ⟨q1133, qs27⟩
set_option maxRecDepth 100000 in
set_option maxHeartbeats 4000000 in
theorem c_X10_girthOf (l : Launch) (D : va_G) (cy : Nat → ClassId) (ad : Nat → Nat) (σ : St) (v1 : Int32) (r : Int32) (hf : fX10_girthOf σ v1 = some r) : Ci l D cy (wM cy ad) yX10_girthOf cX10_girthOf 2 .int 0 0 [.ref (ad 0), .int v1] σ r σ 0 0 := by
  refine Ci.enter (by decide) (Nat.le_of_ble_eq_true rfl) ?_
  intro aw ac p e s m below meth c A H locs S hr hlocks hA hK hP hD hS ls hl
  have hx := S.1
  have hb := S.2.1
  have hl : lv_has ls 2 [(0, .ref (ad 0)), (1, .int v1)] := hl
  unfold fX10_girthOf at hf
  refine lv_aload_n hx hb dX10_girthOf_0 rfl (lv_at hl 0 rfl) ?_
  refine gM_m_axle S hK hP q947 dX10_girthOf_1 ?_
  refine lv_bipush (v := (6 : Int32)) hx hb dX10_girthOf_4 (by decide) ?_
  refine lv_aload_n hx hb dX10_girthOf_6 rfl (lv_at hl 0 rfl) ?_
  refine gM_m_thick S hK hP q949 dX10_girthOf_7 ?_
  refine lv_imul hx hb dX10_girthOf_10 ?_
  refine lv_iload_n hx hb dX10_girthOf_11 rfl (lv_at hl 1 rfl) ?_
  refine lv_aload_n hx hb dX10_girthOf_12 rfl (lv_at hl 0 rfl) ?_
  refine gM_m_turns S hK hP q950 dX10_girthOf_13 ?_
  obtain ⟨n16, hf⟩ := ifd hf
  refine lv_idiv hx hb dX10_girthOf_16 n16 ?_
  refine lv_imul hx hb dX10_girthOf_17 ?_
  refine lv_iadd hx hb dX10_girthOf_18 ?_
  exact u_iretr hx hb hr hlocks rfl hP hD hS dX10_girthOf_19 hf (fun _ => rfl)
theorem iX10_liftOf : YI yX10_liftOf cX10_liftOf 5 (some .int) 1 := ⟨q1130, q12, by decide, by decide, by decide +kernel⟩
theorem vX10_liftOf : YV yX10_liftOf := ⟨q1129, qs26⟩
set_option maxRecDepth 100000 in
set_option maxHeartbeats 4000000 in
theorem c_X10_liftOf (l : Launch) (D : va_G) (cy : Nat → ClassId) (ad : Nat → Nat) (σ : St) (v1 : Int32) (r : Int32) (hf : fX10_liftOf σ v1 = some r) : Ci l D cy (wM cy ad) yX10_liftOf cX10_liftOf 5 .int 1 21 [.ref (ad 0), .int v1] σ r σ 0 0 := by
  refine Ci.enter (by decide) (Nat.le_of_ble_eq_true rfl) ?_
  intro aw ac p e s m below meth c A H locs S hr hlocks hA hK hP hD hS ls hl
  have hx := S.1
  have hb := S.2.1
  have hl : lv_has ls 5 [(0, .ref (ad 0)), (1, .int v1)] := hl
  unfold fX10_liftOf at hf
  refine lv_iload_n hx hb dX10_liftOf_0 rfl (lv_at hl 1 rfl) ?_
  refine lv_aload_n hx hb dX10_liftOf_1 rfl (lv_at hl 0 rfl) ?_
  refine gM_m_stepsTurn S hK hP q946 dX10_liftOf_2 ?_
  obtain ⟨n5, hf⟩ := ifd hf
  refine lv_idiv hx hb dX10_liftOf_5 n5 ?_
  refine lv_istore_n (lv' := [(2, .int (v1 / (gi σ 1))), (0, .ref (ad 0)), (1, .int v1)]) hx hb dX10_liftOf_6 rfl hl (by decide) rfl (fun ls hl => ?_)
  refine lv_iconst (v := (0 : Int32)) hx hb dX10_liftOf_7 (by decide) ?_
  refine lv_istore_n (lv' := [(3, .int (0 : Int32)), (2, .int (v1 / (gi σ 1))), (0, .ref (ad 0)), (1, .int v1)]) hx hb dX10_liftOf_8 rfl hl (by decide) rfl (fun ls hl => ?_)
  refine lv_iconst (v := (0 : Int32)) hx hb dX10_liftOf_9 (by decide) ?_
  refine lv_istore (lv' := [(4, .int (0 : Int32)), (3, .int (0 : Int32)), (2, .int (v1 / (gi σ 1))), (0, .ref (ad 0)), (1, .int v1)]) hx hb dX10_liftOf_10 hl (by decide) rfl (fun ls hl => ?_)
  have L12 : ∀ (n12 : Nat) (v2_12 : Int32) (v3_12 : Int32) (v4_12 : Int32) (H : Heap) (locs : List Loc) (ls : Array Slot), fX10_liftOf_12 (fX10_liftOf_12_k σ v1 v2_12) σ v1 v2_12 n12 v3_12 v4_12 = some r → va_P D vwCl (wM cy ad aw ac σ) H → va_D A (wM cy ad aw ac σ) → va_S A s.heap H locs → lv_has ls 5 [(0, .ref (ad 0)), (1, .int v1), (2, .int v2_12), (3, .int v3_12), (4, .int v4_12)] → W p l e (Rm 1 21 0 0) s m [.ref (ad 0), .int v1].toArray below meth c H locs 0 0 (Zi D (wM cy ad) A r σ aw ac below [.ref (ad 0), .int v1].toArray s 0 0) (F0 m 12 ls []) := by
    intro n12
    induction n12 with
    | zero =>
      intro v2_12 v3_12 v4_12 H locs ls hf
      cases hf
    | succ n12 ih12 =>
      intro v2_12 v3_12 v4_12 H locs ls hf hP hD hS hl
      rw [fX10_liftOf_12] at hf
      refine lv_iload hx hb dX10_liftOf_12 (lv_at hl 4 rfl) ?_
      refine lv_iload_n hx hb dX10_liftOf_14 rfl (lv_at hl 2 rfl) ?_
      refine lv_icmp_ge (tgt := 33) hx hb dX10_liftOf_15 (by decide) (fun c15 => ?_) (fun c15 => ?_)
      · have hf := ifp c15 hf
        have hl := lv_sub (l' := [(0, .ref (ad 0)), (1, .int v1), (2, .int v2_12), (3, .int v3_12), (4, .int v4_12)]) hl [0, 1, 2, 3, 4] rfl
        unfold fX10_liftOf_12_k at hf
        refine lv_iload_n hx hb dX10_liftOf_33 rfl (lv_at hl 3 rfl) ?_
        refine lv_iload_n hx hb dX10_liftOf_34 rfl (lv_at hl 1 rfl) ?_
        refine lv_aload_n hx hb dX10_liftOf_35 rfl (lv_at hl 0 rfl) ?_
        refine gM_m_stepsTurn S hK hP q946 dX10_liftOf_36 ?_
        obtain ⟨n39, hf⟩ := ifd hf
        refine lv_irem hx hb dX10_liftOf_39 n39 ?_
        refine lv_i2l (v := ((v1 - v1 / (gi σ 1) * (gi σ 1))).toInt64) hx hb dX10_liftOf_40 rfl ?_
        refine lv_aload_n hx hb dX10_liftOf_41 rfl (lv_at hl 0 rfl) ?_
        refine lv_iload_n hx hb dX10_liftOf_42 rfl (lv_at hl 2 rfl) ?_
        obtain ⟨r43, h43, hf⟩ := ob_some hf
        refine u_calli0 (u_runV (rest := [.long (((v1 - v1 / (gi σ 1) * (gi σ 1))).toInt64), .int v3_12]) S (c_X10_girthOf l D cy ad σ v2_12 r43 h43 aw ac H.size) iX10_girthOf vX10_girthOf q1131 ⟨Nat.le_of_ble_eq_true rfl, Nat.le_of_ble_eq_true rfl⟩ hK hP hD (q0 := 0) rfl rfl rfl hl.1 (Nat.le_of_ble_eq_true rfl) dX10_liftOf_43 ⟨Nat.le_refl _, Nat.le_refl _⟩) hD hS hA (fun H locs hP hD hS => ?_)
        refine lv_i2l (v := (r43).toInt64) hx hb dX10_liftOf_46 rfl ?_
        refine lv_lmul hx hb dX10_liftOf_47 ?_
        refine lv_aload_n hx hb dX10_liftOf_48 rfl (lv_at hl 0 rfl) ?_
        refine gM_m_stepsTurn S hK hP q946 dX10_liftOf_49 ?_
        refine lv_i2l (v := ((gi σ 1)).toInt64) hx hb dX10_liftOf_52 rfl ?_
        obtain ⟨n53, hf⟩ := ifd hf
        refine lv_ldiv hx hb dX10_liftOf_53 n53 ?_
        refine lv_l2i (v := ((((((v1 - v1 / (gi σ 1) * (gi σ 1))).toInt64) * ((r43).toInt64)) / (((gi σ 1)).toInt64))).toInt32) hx hb dX10_liftOf_54 rfl ?_
        refine lv_iadd hx hb dX10_liftOf_55 ?_
        exact u_iretr hx hb hr hlocks rfl hP hD hS dX10_liftOf_56 hf (fun _ => rfl)
      · have hf := ifn c15 hf
        refine lv_iload_n hx hb dX10_liftOf_18 rfl (lv_at hl 3 rfl) ?_
        refine lv_aload_n hx hb dX10_liftOf_19 rfl (lv_at hl 0 rfl) ?_
        refine lv_iload hx hb dX10_liftOf_20 (lv_at hl 4 rfl) ?_
        obtain ⟨r22, h22, hf⟩ := ob_some hf
        refine u_calli0 (u_runV (rest := [.int v3_12]) S (c_X10_girthOf l D cy ad σ v4_12 r22 h22 aw ac H.size) iX10_girthOf vX10_girthOf q1131 ⟨Nat.le_of_ble_eq_true rfl, Nat.le_of_ble_eq_true rfl⟩ hK hP hD (q0 := 0) rfl rfl rfl hl.1 (Nat.le_of_ble_eq_true rfl) dX10_liftOf_22 ⟨Nat.le_refl _, Nat.le_refl _⟩) hD hS hA (fun H locs hP hD hS => ?_)
        refine lv_iadd hx hb dX10_liftOf_25 ?_
        refine lv_istore_n (lv' := [(3, .int (v3_12 + r22)), (0, .ref (ad 0)), (1, .int v1), (2, .int v2_12), (4, .int v4_12)]) hx hb dX10_liftOf_26 rfl hl (by decide) rfl (fun ls hl => ?_)
        refine lv_iinc (v := (v4_12 + (1 : Int32))) (lv' := [(4, .int (v4_12 + (1 : Int32))), (3, .int (v3_12 + r22)), (0, .ref (ad 0)), (1, .int v1), (2, .int v2_12)]) hx hb dX10_liftOf_27 hl (k := 4) rfl rfl (by decide) rfl (fun ls hl => ?_)
        refine lv_goto (tgt := 12) hx hb dX10_liftOf_30 (by decide) ?_
        exact ih12 v2_12 (v3_12 + r22) (v4_12 + (1 : Int32)) H locs ls hf hP hD hS (lv_sub hl [2, 3, 4, 1, 0] rfl)
  exact L12 KF (v1 / (gi σ 1)) (0 : Int32) (0 : Int32) H locs ls hf hP hD hS (lv_sub hl [3, 4, 2, 1, 0] rfl)
theorem iX10_lift : YI yX10_lift cX10_lift 2 (some .int) 1 := ⟨q1125, q12, by decide, by decide, by decide +kernel⟩
theorem vX10_lift : YV yX10_lift := ⟨q1123, q1124⟩
set_option maxRecDepth 100000 in
set_option maxHeartbeats 4000000 in
theorem c_X10_lift (l : Launch) (D : va_G) (cy : Nat → ClassId) (ad : Nat → Nat) (σ : St) (v1 : Int32) (r : Int32) (hf : fX10_lift σ v1 = some r) : Ci l D cy (wM cy ad) yX10_lift cX10_lift 2 .int 2 45 [.ref (ad 0), .int v1] σ r σ 0 0 := by
  refine Ci.enter (by decide) (Nat.le_of_ble_eq_true rfl) ?_
  intro aw ac p e s m below meth c A H locs S hr hlocks hA hK hP hD hS ls hl
  have hx := S.1
  have hb := S.2.1
  have hl : lv_has ls 2 [(0, .ref (ad 0)), (1, .int v1)] := hl
  unfold fX10_lift at hf
  refine lv_iload_n hx hb dX10_lift_0 rfl (lv_at hl 1 rfl) ?_
  refine lv_i2l (v := (v1).toInt64) hx hb dX10_lift_1 rfl ?_
  refine lv_lconst (v := (0 : Int64)) hx hb dX10_lift_2 (by decide) ?_
  refine lv_ldc2 hx hb S.2.2.2.1 (S.2.2.2.2 _ (List.mem_cons_of_mem _ q1126)) dX10_lift_3 ?_
  obtain ⟨r6, h6, hf⟩ := ob_some hf
  refine p_calli0 (u_runS (rest := []) S (c_X10_in l D cy σ ((v1).toInt64) (0 : Int64) (20000 : Int64) r6 h6 aw ac H.size) iX10_in q1112 q1111 ⟨Nat.le_of_ble_eq_true rfl, Nat.le_of_ble_eq_true rfl⟩ hK wN_P (wN_D (A := fun _ => True)) rfl hl.1 (Nat.le_of_ble_eq_true rfl) dX10_lift_6 ⟨Nat.le_refl _, Nat.le_refl _⟩) hP hS hA (fun H locs hP hS => ?_)
  refine lv_if_eq (tgt := 20) hx hb dX10_lift_9 (by decide) (fun c9 => ?_) (fun c9 => ?_)
  · have hf := ifp c9 hf
    refine lv_bipush (v := (-2 : Int32)) hx hb dX10_lift_20 (by decide) ?_
    exact u_iretr hx hb hr hlocks rfl hP hD hS dX10_lift_22 hf (fun _ => rfl)
  · have hf := ifn c9 hf
    refine lv_aload_n hx hb dX10_lift_12 rfl (lv_at hl 0 rfl) ?_
    refine lv_iload_n hx hb dX10_lift_13 rfl (lv_at hl 1 rfl) ?_
    obtain ⟨r14, h14, hf⟩ := ob_some hf
    refine u_calli0 (u_runV (rest := []) S (c_X10_liftOf l D cy ad σ v1 r14 h14 aw ac H.size) iX10_liftOf vX10_liftOf q1127 ⟨Nat.le_of_ble_eq_true rfl, Nat.le_of_ble_eq_true rfl⟩ hK hP hD (q0 := 0) rfl rfl rfl hl.1 (Nat.le_of_ble_eq_true rfl) dX10_lift_14 ⟨Nat.le_refl _, Nat.le_refl _⟩) hD hS hA (fun H locs hP hD hS => ?_)
    refine lv_goto (tgt := 22) hx hb dX10_lift_17 (by decide) ?_
    exact u_iretr hx hb hr hlocks rfl hP hD hS dX10_lift_22 hf (fun _ => rfl)
theorem iX10_stepsFor : YI yX10_stepsFor cX10_stepsFor 5 (some .int) 1 := ⟨q1145, q12, by decide, by decide, by decide +kernel⟩
theorem vX10_stepsFor : YV yX10_stepsFor := ⟨q1144, qs28⟩
set_option maxRecDepth 100000 in
set_option maxHeartbeats 4000000 in
theorem c_X10_stepsFor (l : Launch) (D : va_G) (cy : Nat → ClassId) (ad : Nat → Nat) (σ : St) (v1 : Int32) (r : Int32) (hf : fX10_stepsFor σ v1 = some r) : Ci l D cy (wM cy ad) yX10_stepsFor cX10_stepsFor 5 .int 1 21 [.ref (ad 0), .int v1] σ r σ 0 0 := by
  refine Ci.enter (by decide) (Nat.le_of_ble_eq_true rfl) ?_
  intro aw ac p e s m below meth c A H locs S hr hlocks hA hK hP hD hS ls hl
  have hx := S.1
  have hb := S.2.1
  have hl : lv_has ls 5 [(0, .ref (ad 0)), (1, .int v1)] := hl
  unfold fX10_stepsFor at hf
  refine lv_iconst (v := (0 : Int32)) hx hb dX10_stepsFor_0 (by decide) ?_
  refine lv_istore_n (lv' := [(2, .int (0 : Int32)), (0, .ref (ad 0)), (1, .int v1)]) hx hb dX10_stepsFor_1 rfl hl (by decide) rfl (fun ls hl => ?_)
  refine lv_iconst (v := (0 : Int32)) hx hb dX10_stepsFor_2 (by decide) ?_
  refine lv_istore_n (lv' := [(3, .int (0 : Int32)), (2, .int (0 : Int32)), (0, .ref (ad 0)), (1, .int v1)]) hx hb dX10_stepsFor_3 rfl hl (by decide) rfl (fun ls hl => ?_)
  have L4 : ∀ (n4 : Nat) (v2_4 : Int32) (v3_4 : Int32) (H : Heap) (locs : List Loc) (ls : Array Slot), fX10_stepsFor_4 (fX10_stepsFor_4_k σ v1) σ v1 n4 v2_4 v3_4 = some r → va_P D vwCl (wM cy ad aw ac σ) H → va_D A (wM cy ad aw ac σ) → va_S A s.heap H locs → lv_has ls 5 [(0, .ref (ad 0)), (1, .int v1), (2, .int v2_4), (3, .int v3_4)] → W p l e (Rm 1 21 0 0) s m [.ref (ad 0), .int v1].toArray below meth c H locs 0 0 (Zi D (wM cy ad) A r σ aw ac below [.ref (ad 0), .int v1].toArray s 0 0) (F0 m 4 ls []) := by
    intro n4
    induction n4 with
    | zero =>
      intro v2_4 v3_4 H locs ls hf
      cases hf
    | succ n4 ih4 =>
      intro v2_4 v3_4 H locs ls hf hP hD hS hl
      rw [fX10_stepsFor_4] at hf
      refine lv_iload_n hx hb dX10_stepsFor_4 rfl (lv_at hl 3 rfl) ?_
      refine lv_aload_n hx hb dX10_stepsFor_5 rfl (lv_at hl 0 rfl) ?_
      refine lv_iload_n hx hb dX10_stepsFor_6 rfl (lv_at hl 2 rfl) ?_
      obtain ⟨r7, h7, hf⟩ := ob_some hf
      refine u_calli0 (u_runV (rest := [.int v3_4]) S (c_X10_girthOf l D cy ad σ v2_4 r7 h7 aw ac H.size) iX10_girthOf vX10_girthOf q1131 ⟨Nat.le_of_ble_eq_true rfl, Nat.le_of_ble_eq_true rfl⟩ hK hP hD (q0 := 0) rfl rfl rfl hl.1 (Nat.le_of_ble_eq_true rfl) dX10_stepsFor_7 ⟨Nat.le_refl _, Nat.le_refl _⟩) hD hS hA (fun H locs hP hD hS => ?_)
      refine lv_iadd hx hb dX10_stepsFor_10 ?_
      refine lv_iload_n hx hb dX10_stepsFor_11 rfl (lv_at hl 1 rfl) ?_
      refine lv_icmp_ge (tgt := 29) hx hb dX10_stepsFor_12 (by decide) (fun c12 => ?_) (fun c12 => ?_)
      · have hf := ifp c12 hf
        have hl := lv_sub (l' := [(0, .ref (ad 0)), (1, .int v1), (2, .int v2_4), (3, .int v3_4)]) hl [0, 1, 2, 3] rfl
        unfold fX10_stepsFor_4_k at hf
        refine lv_iconst (v := (0 : Int32)) hx hb dX10_stepsFor_29 (by decide) ?_
        refine lv_istore (lv' := [(4, .int (0 : Int32)), (0, .ref (ad 0)), (1, .int v1), (2, .int v2_4), (3, .int v3_4)]) hx hb dX10_stepsFor_30 hl (by decide) rfl (fun ls hl => ?_)
        have L32 : ∀ (n32 : Nat) (v4_32 : Int32) (H : Heap) (locs : List Loc) (ls : Array Slot), fX10_stepsFor_32 (fX10_stepsFor_32_k σ v1 v2_4 v3_4) σ v1 v2_4 v3_4 n32 v4_32 = some r → va_P D vwCl (wM cy ad aw ac σ) H → va_D A (wM cy ad aw ac σ) → va_S A s.heap H locs → lv_has ls 5 [(0, .ref (ad 0)), (1, .int v1), (2, .int v2_4), (3, .int v3_4), (4, .int v4_32)] → W p l e (Rm 1 21 0 0) s m [.ref (ad 0), .int v1].toArray below meth c H locs 0 0 (Zi D (wM cy ad) A r σ aw ac below [.ref (ad 0), .int v1].toArray s 0 0) (F0 m 32 ls []) := by
          intro n32
          induction n32 with
          | zero =>
            intro v4_32 H locs ls hf
            cases hf
          | succ n32 ih32 =>
            intro v4_32 H locs ls hf hP hD hS hl
            rw [fX10_stepsFor_32] at hf
            refine lv_iload_n hx hb dX10_stepsFor_32 rfl (lv_at hl 3 rfl) ?_
            refine lv_iload hx hb dX10_stepsFor_33 (lv_at hl 4 rfl) ?_
            refine lv_i2l (v := (v4_32).toInt64) hx hb dX10_stepsFor_35 rfl ?_
            refine lv_aload_n hx hb dX10_stepsFor_36 rfl (lv_at hl 0 rfl) ?_
            refine lv_iload_n hx hb dX10_stepsFor_37 rfl (lv_at hl 2 rfl) ?_
            obtain ⟨r38, h38, hf⟩ := ob_some hf
            refine u_calli0 (u_runV (rest := [.long ((v4_32).toInt64), .int v3_4]) S (c_X10_girthOf l D cy ad σ v2_4 r38 h38 aw ac H.size) iX10_girthOf vX10_girthOf q1131 ⟨Nat.le_of_ble_eq_true rfl, Nat.le_of_ble_eq_true rfl⟩ hK hP hD (q0 := 0) rfl rfl rfl hl.1 (Nat.le_of_ble_eq_true rfl) dX10_stepsFor_38 ⟨Nat.le_refl _, Nat.le_refl _⟩) hD hS hA (fun H locs hP hD hS => ?_)
            refine lv_i2l (v := (r38).toInt64) hx hb dX10_stepsFor_41 rfl ?_
            refine lv_lmul hx hb dX10_stepsFor_42 ?_
            refine lv_aload_n hx hb dX10_stepsFor_43 rfl (lv_at hl 0 rfl) ?_
            refine gM_m_stepsTurn S hK hP q946 dX10_stepsFor_44 ?_
            refine lv_i2l (v := ((gi σ 1)).toInt64) hx hb dX10_stepsFor_47 rfl ?_
            obtain ⟨n48, hf⟩ := ifd hf
            refine lv_ldiv hx hb dX10_stepsFor_48 n48 ?_
            refine lv_l2i (v := (((((v4_32).toInt64) * ((r38).toInt64)) / (((gi σ 1)).toInt64))).toInt32) hx hb dX10_stepsFor_49 rfl ?_
            refine lv_iadd hx hb dX10_stepsFor_50 ?_
            refine lv_iload_n hx hb dX10_stepsFor_51 rfl (lv_at hl 1 rfl) ?_
            refine lv_icmp_ge (tgt := 61) hx hb dX10_stepsFor_52 (by decide) (fun c52 => ?_) (fun c52 => ?_)
            · have hf := ifp c52 hf
              have hl := lv_sub (l' := [(0, .ref (ad 0)), (1, .int v1), (2, .int v2_4), (3, .int v3_4), (4, .int v4_32)]) hl [0, 1, 2, 3, 4] rfl
              unfold fX10_stepsFor_32_k at hf
              refine lv_iload_n hx hb dX10_stepsFor_61 rfl (lv_at hl 2 rfl) ?_
              refine lv_aload_n hx hb dX10_stepsFor_62 rfl (lv_at hl 0 rfl) ?_
              refine gM_m_stepsTurn S hK hP q946 dX10_stepsFor_63 ?_
              refine lv_imul hx hb dX10_stepsFor_66 ?_
              refine lv_iload hx hb dX10_stepsFor_67 (lv_at hl 4 rfl) ?_
              refine lv_iadd hx hb dX10_stepsFor_69 ?_
              exact u_iretr hx hb hr hlocks rfl hP hD hS dX10_stepsFor_70 hf (fun _ => rfl)
            · have hf := ifn c52 hf
              refine lv_iinc (v := (v4_32 + (1 : Int32))) (lv' := [(4, .int (v4_32 + (1 : Int32))), (0, .ref (ad 0)), (1, .int v1), (2, .int v2_4), (3, .int v3_4)]) hx hb dX10_stepsFor_55 hl (k := 4) rfl rfl (by decide) rfl (fun ls hl => ?_)
              refine lv_goto (tgt := 32) hx hb dX10_stepsFor_58 (by decide) ?_
              exact ih32 (v4_32 + (1 : Int32)) H locs ls hf hP hD hS (lv_sub hl [1, 2, 3, 4, 0] rfl)
        exact L32 KF (0 : Int32) H locs ls hf hP hD hS (lv_sub hl [1, 2, 3, 4, 0] rfl)
      · have hf := ifn c12 hf
        refine lv_iload_n hx hb dX10_stepsFor_15 rfl (lv_at hl 3 rfl) ?_
        refine lv_aload_n hx hb dX10_stepsFor_16 rfl (lv_at hl 0 rfl) ?_
        refine lv_iload_n hx hb dX10_stepsFor_17 rfl (lv_at hl 2 rfl) ?_
        obtain ⟨r18, h18, hf⟩ := ob_some hf
        refine u_calli0 (u_runV (rest := [.int v3_4]) S (c_X10_girthOf l D cy ad σ v2_4 r18 h18 aw ac H.size) iX10_girthOf vX10_girthOf q1131 ⟨Nat.le_of_ble_eq_true rfl, Nat.le_of_ble_eq_true rfl⟩ hK hP hD (q0 := 0) rfl rfl rfl hl.1 (Nat.le_of_ble_eq_true rfl) dX10_stepsFor_18 ⟨Nat.le_refl _, Nat.le_refl _⟩) hD hS hA (fun H locs hP hD hS => ?_)
        refine lv_iadd hx hb dX10_stepsFor_21 ?_
        refine lv_istore_n (lv' := [(3, .int (v3_4 + r18)), (0, .ref (ad 0)), (1, .int v1), (2, .int v2_4)]) hx hb dX10_stepsFor_22 rfl hl (by decide) rfl (fun ls hl => ?_)
        refine lv_iinc (v := (v2_4 + (1 : Int32))) (lv' := [(2, .int (v2_4 + (1 : Int32))), (3, .int (v3_4 + r18)), (0, .ref (ad 0)), (1, .int v1)]) hx hb dX10_stepsFor_23 hl (k := 3) rfl rfl (by decide) rfl (fun ls hl => ?_)
        refine lv_goto (tgt := 4) hx hb dX10_stepsFor_26 (by decide) ?_
        exact ih4 (v2_4 + (1 : Int32)) (v3_4 + r18) H locs ls hf hP hD hS (lv_sub hl [2, 3, 0, 1] rfl)
  exact L4 KF (0 : Int32) (0 : Int32) H locs ls hf hP hD hS (lv_sub hl [2, 3, 1, 0] rfl)
theorem iX10_isHeight : YI yX10_isHeight cX10_isHeight 1 (some .boolean) 1 := ⟨q1141, q12, by decide, by decide, by decide +kernel⟩
set_option maxRecDepth 100000 in
set_option maxHeartbeats 4000000 in
theorem c_X10_isHeight (l : Launch) (D : va_G) (cy : Nat → ClassId) (σ : St) (v0 : Int32) (r : Int32) (hf : fX10_isHeight v0 = some r) : Ci l D cy wN yX10_isHeight cX10_isHeight 1 .boolean 1 25 [.int v0] σ r σ 0 0 := by
  refine Ci.enter (by decide) (Nat.le_of_ble_eq_true rfl) ?_
  intro aw ac p e s m below meth c A H locs S hr hlocks hA hK hP hD hS ls hl
  have hx := S.1
  have hb := S.2.1
  have hl : lv_has ls 1 [(0, .int v0)] := hl
  unfold fX10_isHeight at hf
  refine lv_iload_n hx hb dX10_isHeight_0 rfl (lv_at hl 0 rfl) ?_
  refine lv_i2l (v := (v0).toInt64) hx hb dX10_isHeight_1 rfl ?_
  refine lv_lconst (v := (0 : Int64)) hx hb dX10_isHeight_2 (by decide) ?_
  refine lv_ldc2 hx hb S.2.2.2.1 (S.2.2.2.2 _ (List.mem_cons_of_mem _ q1126)) dX10_isHeight_3 ?_
  obtain ⟨r6, h6, hf⟩ := ob_some hf
  refine p_calli0 (u_runS (rest := []) S (c_X10_in l D cy σ ((v0).toInt64) (0 : Int64) (20000 : Int64) r6 h6 aw ac H.size) iX10_in q1112 q1111 ⟨Nat.le_of_ble_eq_true rfl, Nat.le_of_ble_eq_true rfl⟩ hK wN_P (wN_D (A := fun _ => True)) rfl hl.1 (Nat.le_of_ble_eq_true rfl) dX10_isHeight_6 ⟨Nat.le_refl _, Nat.le_refl _⟩) hP hS hA (fun H locs hP hS => ?_)
  obtain ⟨n9, hf⟩ := ifs hf
  exact u_iretr hx hb hr hlocks n9 hP hD hS dX10_isHeight_9 hf (fun _ => rfl)
theorem iX10_steps : YI yX10_steps cX10_steps 2 (some .int) 1 := ⟨q1138, q12, by decide, by decide, by decide +kernel⟩
theorem vX10_steps : YV yX10_steps := ⟨q1136, q1137⟩
set_option maxRecDepth 100000 in
set_option maxHeartbeats 4000000 in
theorem c_X10_steps (l : Launch) (D : va_G) (cy : Nat → ClassId) (ad : Nat → Nat) (σ : St) (v1 : Int32) (r : Int32) (hf : fX10_steps σ v1 = some r) : Ci l D cy (wM cy ad) yX10_steps cX10_steps 2 .int 2 45 [.ref (ad 0), .int v1] σ r σ 0 0 := by
  refine Ci.enter (by decide) (Nat.le_of_ble_eq_true rfl) ?_
  intro aw ac p e s m below meth c A H locs S hr hlocks hA hK hP hD hS ls hl
  have hx := S.1
  have hb := S.2.1
  have hl : lv_has ls 2 [(0, .ref (ad 0)), (1, .int v1)] := hl
  unfold fX10_steps at hf
  refine lv_iload_n hx hb dX10_steps_0 rfl (lv_at hl 1 rfl) ?_
  obtain ⟨r1, h1, hf⟩ := ob_some hf
  refine p_calli0 (u_runS (rest := []) S (c_X10_isHeight l D cy σ v1 r1 h1 aw ac H.size) iX10_isHeight q1140 q1139 ⟨Nat.le_of_ble_eq_true rfl, Nat.le_of_ble_eq_true rfl⟩ hK wN_P (wN_D (A := fun _ => True)) rfl hl.1 (Nat.le_of_ble_eq_true rfl) dX10_steps_1 ⟨Nat.le_refl _, Nat.le_refl _⟩) hP hS hA (fun H locs hP hS => ?_)
  refine lv_if_eq (tgt := 15) hx hb dX10_steps_4 (by decide) (fun c4 => ?_) (fun c4 => ?_)
  · have hf := ifp c4 hf
    refine lv_bipush (v := (-2 : Int32)) hx hb dX10_steps_15 (by decide) ?_
    exact u_iretr hx hb hr hlocks rfl hP hD hS dX10_steps_17 hf (fun _ => rfl)
  · have hf := ifn c4 hf
    refine lv_aload_n hx hb dX10_steps_7 rfl (lv_at hl 0 rfl) ?_
    refine lv_iload_n hx hb dX10_steps_8 rfl (lv_at hl 1 rfl) ?_
    obtain ⟨r9, h9, hf⟩ := ob_some hf
    refine u_calli0 (u_runV (rest := []) S (c_X10_stepsFor l D cy ad σ v1 r9 h9 aw ac H.size) iX10_stepsFor vX10_stepsFor q1142 ⟨Nat.le_of_ble_eq_true rfl, Nat.le_of_ble_eq_true rfl⟩ hK hP hD (q0 := 0) rfl rfl rfl hl.1 (Nat.le_of_ble_eq_true rfl) dX10_steps_9 ⟨Nat.le_refl _, Nat.le_refl _⟩) hD hS hA (fun H locs hP hD hS => ?_)
    refine lv_goto (tgt := 17) hx hb dX10_steps_12 (by decide) ?_
    exact u_iretr hx hb hr hlocks rfl hP hD hS dX10_steps_17 hf (fun _ => rfl)
theorem iX10_lastTurn : YI yX10_lastTurn cX10_lastTurn 2 (some .int) 1 := ⟨q1153, q12, by decide, by decide, by decide +kernel⟩
theorem vX10_lastTurn : YV yX10_lastTurn := ⟨q1152, qs29⟩
set_option maxRecDepth 100000 in
set_option maxHeartbeats 4000000 in
theorem c_X10_lastTurn (l : Launch) (D : va_G) (cy : Nat → ClassId) (ad : Nat → Nat) (σ : St) (v1 : Int32) (r : Int32) (hf : fX10_lastTurn σ v1 = some r) : Ci l D cy (wM cy ad) yX10_lastTurn cX10_lastTurn 2 .int 0 0 [.ref (ad 0), .int v1] σ r σ 0 0 := by
  refine Ci.enter (by decide) (Nat.le_of_ble_eq_true rfl) ?_
  intro aw ac p e s m below meth c A H locs S hr hlocks hA hK hP hD hS ls hl
  have hx := S.1
  have hb := S.2.1
  have hl : lv_has ls 2 [(0, .ref (ad 0)), (1, .int v1)] := hl
  unfold fX10_lastTurn at hf
  refine lv_iload_n hx hb dX10_lastTurn_0 rfl (lv_at hl 1 rfl) ?_
  refine lv_if_ne (tgt := 8) hx hb dX10_lastTurn_1 (by decide) (fun c1 => ?_) (fun c1 => ?_)
  · have hf := ifn c1 hf
    refine lv_iload_n hx hb dX10_lastTurn_8 rfl (lv_at hl 1 rfl) ?_
    refine lv_iconst (v := (1 : Int32)) hx hb dX10_lastTurn_9 (by decide) ?_
    refine lv_isub hx hb dX10_lastTurn_10 ?_
    refine lv_aload_n hx hb dX10_lastTurn_11 rfl (lv_at hl 0 rfl) ?_
    refine gM_m_stepsTurn S hK hP q946 dX10_lastTurn_12 ?_
    obtain ⟨n15, hf⟩ := ifd hf
    refine lv_idiv hx hb dX10_lastTurn_15 n15 ?_
    exact u_iretr hx hb hr hlocks rfl hP hD hS dX10_lastTurn_16 hf (fun _ => rfl)
  · have hf := ifp c1 hf
    refine lv_iconst (v := (0 : Int32)) hx hb dX10_lastTurn_4 (by decide) ?_
    refine lv_goto (tgt := 16) hx hb dX10_lastTurn_5 (by decide) ?_
    exact u_iretr hx hb hr hlocks rfl hP hD hS dX10_lastTurn_16 hf (fun _ => rfl)
theorem iX10_layer : YI yX10_layer cX10_layer 3 (some .int) 2 := ⟨q1149, q12, by decide, by decide, by decide +kernel⟩
theorem vX10_layer : YV yX10_layer := ⟨q1147, q1148⟩
set_option maxRecDepth 100000 in
set_option maxHeartbeats 4000000 in
theorem c_X10_layer (l : Launch) (D : va_G) (cy : Nat → ClassId) (ad : Nat → Nat) (σ : St) (v1 : Int32) (v2 : Int32) (r : Int32) (hf : fX10_layer σ v1 v2 = some r) : Ci l D cy (wM cy ad) yX10_layer cX10_layer 3 .int 1 25 [.ref (ad 0), .int v1, .int v2] σ r σ 0 0 := by
  refine Ci.enter (by decide) (Nat.le_of_ble_eq_true rfl) ?_
  intro aw ac p e s m below meth c A H locs S hr hlocks hA hK hP hD hS ls hl
  have hx := S.1
  have hb := S.2.1
  have hl : lv_has ls 3 [(0, .ref (ad 0)), (1, .int v1), (2, .int v2)] := hl
  unfold fX10_layer at hf
  refine lv_iload_n hx hb dX10_layer_0 rfl (lv_at hl 1 rfl) ?_
  refine lv_i2l (v := (v1).toInt64) hx hb dX10_layer_1 rfl ?_
  refine lv_lconst (v := (0 : Int64)) hx hb dX10_layer_2 (by decide) ?_
  refine lv_ldc2 hx hb S.2.2.2.1 (S.2.2.2.2 _ (List.mem_cons_of_mem _ q1126)) dX10_layer_3 ?_
  obtain ⟨r6, h6, hf⟩ := ob_some hf
  refine p_calli0 (u_runS (rest := []) S (c_X10_in l D cy σ ((v1).toInt64) (0 : Int64) (20000 : Int64) r6 h6 aw ac H.size) iX10_in q1112 q1111 ⟨Nat.le_of_ble_eq_true rfl, Nat.le_of_ble_eq_true rfl⟩ hK wN_P (wN_D (A := fun _ => True)) rfl hl.1 (Nat.le_of_ble_eq_true rfl) dX10_layer_6 ⟨Nat.le_refl _, Nat.le_refl _⟩) hP hS hA (fun H locs hP hS => ?_)
  refine lv_if_eq (tgt := 22) hx hb dX10_layer_9 (by decide) (fun c9 => ?_) (fun c9 => ?_)
  · have hf := ifp c9 hf
    refine lv_bipush (v := (-2 : Int32)) hx hb dX10_layer_22 (by decide) ?_
    exact u_iretr hx hb hr hlocks rfl hP hD hS dX10_layer_24 hf (fun _ => rfl)
  · have hf := ifn c9 hf
    refine lv_iload_n hx hb dX10_layer_12 rfl (lv_at hl 2 rfl) ?_
    refine lv_i2l (v := (v2).toInt64) hx hb dX10_layer_13 rfl ?_
    refine lv_lconst (v := (0 : Int64)) hx hb dX10_layer_14 (by decide) ?_
    refine lv_lconst (v := (1 : Int64)) hx hb dX10_layer_15 (by decide) ?_
    obtain ⟨r16, h16, hf⟩ := ob_some hf
    refine p_calli0 (u_runS (rest := []) S (c_X10_in l D cy σ ((v2).toInt64) (0 : Int64) (1 : Int64) r16 h16 aw ac H.size) iX10_in q1112 q1111 ⟨Nat.le_of_ble_eq_true rfl, Nat.le_of_ble_eq_true rfl⟩ hK wN_P (wN_D (A := fun _ => True)) rfl hl.1 (Nat.le_of_ble_eq_true rfl) dX10_layer_16 ⟨Nat.le_refl _, Nat.le_refl _⟩) hP hS hA (fun H locs hP hS => ?_)
    refine lv_if_ne (tgt := 25) hx hb dX10_layer_19 (by decide) (fun c19 => ?_) (fun c19 => ?_)
    · have hf := ifn c19 hf
      refine lv_iload_n hx hb dX10_layer_25 rfl (lv_at hl 2 rfl) ?_
      refine lv_if_ne (tgt := 42) hx hb dX10_layer_26 (by decide) (fun c26 => ?_) (fun c26 => ?_)
      · have hf := ifn c26 hf
        refine lv_aload_n hx hb dX10_layer_42 rfl (lv_at hl 0 rfl) ?_
        refine lv_aload_n hx hb dX10_layer_43 rfl (lv_at hl 0 rfl) ?_
        refine lv_iload_n hx hb dX10_layer_44 rfl (lv_at hl 1 rfl) ?_
        obtain ⟨r45, h45, hf⟩ := ob_some hf
        refine u_calli0 (u_runV (rest := [.ref (ad 0)]) S (c_X10_lastTurn l D cy ad σ v1 r45 h45 aw ac H.size) iX10_lastTurn vX10_lastTurn q1150 ⟨Nat.le_of_ble_eq_true rfl, Nat.le_of_ble_eq_true rfl⟩ hK hP hD (q0 := 0) rfl rfl rfl hl.1 (Nat.le_of_ble_eq_true rfl) dX10_layer_45 ⟨Nat.le_refl _, Nat.le_refl _⟩) hD hS hA (fun H locs hP hD hS => ?_)
        obtain ⟨r48, h48, hf⟩ := ob_some hf
        refine u_calli0 (u_runV (rest := []) S (c_X10_girthOf l D cy ad σ r45 r48 h48 aw ac H.size) iX10_girthOf vX10_girthOf q1131 ⟨Nat.le_of_ble_eq_true rfl, Nat.le_of_ble_eq_true rfl⟩ hK hP hD (q0 := 0) rfl rfl rfl hl.1 (Nat.le_of_ble_eq_true rfl) dX10_layer_48 ⟨Nat.le_refl _, Nat.le_refl _⟩) hD hS hA (fun H locs hP hD hS => ?_)
        exact u_iretr hx hb hr hlocks rfl hP hD hS dX10_layer_51 hf (fun _ => rfl)
      · have hf := ifp c26 hf
        refine lv_aload_n hx hb dX10_layer_29 rfl (lv_at hl 0 rfl) ?_
        refine lv_iload_n hx hb dX10_layer_30 rfl (lv_at hl 1 rfl) ?_
        obtain ⟨r31, h31, hf⟩ := ob_some hf
        refine u_calli0 (u_runV (rest := []) S (c_X10_lastTurn l D cy ad σ v1 r31 h31 aw ac H.size) iX10_lastTurn vX10_lastTurn q1150 ⟨Nat.le_of_ble_eq_true rfl, Nat.le_of_ble_eq_true rfl⟩ hK hP hD (q0 := 0) rfl rfl rfl hl.1 (Nat.le_of_ble_eq_true rfl) dX10_layer_31 ⟨Nat.le_refl _, Nat.le_refl _⟩) hD hS hA (fun H locs hP hD hS => ?_)
        refine lv_aload_n hx hb dX10_layer_34 rfl (lv_at hl 0 rfl) ?_
        refine gM_m_turns S hK hP q950 dX10_layer_35 ?_
        obtain ⟨n38, hf⟩ := ifd hf
        refine lv_idiv hx hb dX10_layer_38 n38 ?_
        refine lv_goto (tgt := 51) hx hb dX10_layer_39 (by decide) ?_
        exact u_iretr hx hb hr hlocks rfl hP hD hS dX10_layer_51 hf (fun _ => rfl)
    · have hf := ifp c19 hf
      refine lv_bipush (v := (-2 : Int32)) hx hb dX10_layer_22 (by decide) ?_
      exact u_iretr hx hb hr hlocks rfl hP hD hS dX10_layer_24 hf (fun _ => rfl)
theorem iX10_man : YI yX10_man cX10_man 2 (some .int) 1 := ⟨q1157, q12, by decide, by decide, by decide +kernel⟩
theorem vX10_man : YV yX10_man := ⟨q1155, q1156⟩
set_option maxRecDepth 100000 in
set_option maxHeartbeats 4000000 in
theorem c_X10_man (l : Launch) (D : va_G) (cy : Nat → ClassId) (ad : Nat → Nat) (σ : St) (v1 : Int32) (q : Int32 × St) (hf : fX10_man σ v1 = some q) : Ci l D cy (wM cy ad) yX10_man cX10_man 2 .int 1 25 [.ref (ad 0), .int v1] σ q.1 q.2 0 0 := by
  refine Ci.enter (by decide) (Nat.le_of_ble_eq_true rfl) ?_
  intro aw ac p e s m below meth c A H locs S hr hlocks hA hK hP hD hS ls hl
  have hx := S.1
  have hb := S.2.1
  have hl : lv_has ls 2 [(0, .ref (ad 0)), (1, .int v1)] := hl
  unfold fX10_man at hf
  refine lv_iload_n hx hb dX10_man_0 rfl (lv_at hl 1 rfl) ?_
  refine lv_i2l (v := (v1).toInt64) hx hb dX10_man_1 rfl ?_
  refine lv_ldc2 hx hb S.2.2.2.1 (S.2.2.2.2 _ (List.mem_cons_of_mem _ q1158)) dX10_man_2 ?_
  refine lv_ldc2 hx hb S.2.2.2.1 (S.2.2.2.2 _ (List.mem_cons_of_mem _ q1159)) dX10_man_5 ?_
  obtain ⟨r8, h8, hf⟩ := ob_some hf
  refine p_calli0 (u_runS (rest := []) S (c_X10_in l D cy σ ((v1).toInt64) (40 : Int64) (150 : Int64) r8 h8 aw ac H.size) iX10_in q1112 q1111 ⟨Nat.le_of_ble_eq_true rfl, Nat.le_of_ble_eq_true rfl⟩ hK wN_P (wN_D (A := fun _ => True)) rfl hl.1 (Nat.le_of_ble_eq_true rfl) dX10_man_8 ⟨Nat.le_refl _, Nat.le_refl _⟩) hP hS hA (fun H locs hP hS => ?_)
  refine lv_if_ne (tgt := 17) hx hb dX10_man_11 (by decide) (fun c11 => ?_) (fun c11 => ?_)
  · have hf := ifn c11 hf
    refine lv_aload_n hx hb dX10_man_17 rfl (lv_at hl 0 rfl) ?_
    refine gM_m_men S hK hP q951 dX10_man_18 ?_
    refine lv_bipush (v := (8 : Int32)) hx hb dX10_man_21 (by decide) ?_
    refine lv_icmp_ne (tgt := 29) hx hb dX10_man_23 (by decide) (fun c23 => ?_) (fun c23 => ?_)
    · have hf := ifn c23 hf
      refine lv_aload_n hx hb dX10_man_29 rfl (lv_at hl 0 rfl) ?_
      refine gM_m_weight S hK hP q952 dX10_man_30 ?_
      refine lv_aload_n hx hb dX10_man_33 rfl (lv_at hl 0 rfl) ?_
      refine gM_m_men S hK hP q951 dX10_man_34 ?_
      refine lv_iload_n hx hb dX10_man_37 rfl (lv_at hl 1 rfl) ?_
      obtain ⟨h38, hf⟩ := if_in hf
      refine tM_1 S hK hP hD hS h38 dX10_man_38 (fun H locs hP hD hS => ?_)
      refine lv_aload_n hx hb dX10_man_39 rfl (lv_at hl 0 rfl) ?_
      refine gM_m_breath S hK hP q953 dX10_man_40 ?_
      refine lv_aload_n hx hb dX10_man_43 rfl (lv_at hl 0 rfl) ?_
      refine gM_m_men S hK hP q951 dX10_man_44 ?_
      refine lv_sipush (v := (1000 : Int32)) hx hb dX10_man_47 (by decide) ?_
      obtain ⟨h50, hf⟩ := if_in hf
      refine tM_2 S hK hP hD hS h50 dX10_man_50 (fun H locs hP hD hS => ?_)
      refine lv_aload_n hx hb dX10_man_51 rfl (lv_at hl 0 rfl) ?_
      refine lv_dup hx hb dX10_man_52 rfl ?_
      refine gM_m_men S hK hP q951 dX10_man_53 ?_
      refine lv_iconst (v := (1 : Int32)) hx hb dX10_man_56 (by decide) ?_
      refine lv_iadd hx hb dX10_man_57 ?_
      refine pM_m_men S hK hP hD hS q951 dX10_man_58 (fun H locs hP hD hS => ?_)
      refine lv_aload_n hx hb dX10_man_61 rfl (lv_at hl 0 rfl) ?_
      refine gM_m_men S hK hP q951 dX10_man_62 ?_
      refine lv_iconst (v := (1 : Int32)) hx hb dX10_man_65 (by decide) ?_
      refine lv_isub hx hb dX10_man_66 ?_
      exact u_iretw hx hb hr hlocks rfl hP hD hS dX10_man_67 hf (fun _ => rfl)
    · have hf := ifp c23 hf
      refine lv_bipush (v := (-4 : Int32)) hx hb dX10_man_26 (by decide) ?_
      exact u_iretw hx hb hr hlocks rfl hP hD hS dX10_man_28 hf (fun _ => rfl)
  · have hf := ifp c11 hf
    refine lv_bipush (v := (-2 : Int32)) hx hb dX10_man_14 (by decide) ?_
    exact u_iretw hx hb hr hlocks rfl hP hD hS dX10_man_16 hf (fun _ => rfl)
theorem iX10_breath : YI yX10_breath cX10_breath 2 (some .int) 1 := ⟨q1163, q12, by decide, by decide, by decide +kernel⟩
theorem vX10_breath : YV yX10_breath := ⟨q1161, q1162⟩
set_option maxRecDepth 100000 in
set_option maxHeartbeats 4000000 in
theorem c_X10_breath (l : Launch) (D : va_G) (cy : Nat → ClassId) (ad : Nat → Nat) (σ : St) (v1 : Int32) (r : Int32) (hf : fX10_breath σ v1 = some r) : Ci l D cy (wM cy ad) yX10_breath cX10_breath 2 .int 1 25 [.ref (ad 0), .int v1] σ r σ 0 0 := by
  refine Ci.enter (by decide) (Nat.le_of_ble_eq_true rfl) ?_
  intro aw ac p e s m below meth c A H locs S hr hlocks hA hK hP hD hS ls hl
  have hx := S.1
  have hb := S.2.1
  have hl : lv_has ls 2 [(0, .ref (ad 0)), (1, .int v1)] := hl
  unfold fX10_breath at hf
  refine lv_iload_n hx hb dX10_breath_0 rfl (lv_at hl 1 rfl) ?_
  refine lv_i2l (v := (v1).toInt64) hx hb dX10_breath_1 rfl ?_
  refine lv_lconst (v := (0 : Int64)) hx hb dX10_breath_2 (by decide) ?_
  refine lv_aload_n hx hb dX10_breath_3 rfl (lv_at hl 0 rfl) ?_
  refine gM_m_men S hK hP q951 dX10_breath_4 ?_
  refine lv_iconst (v := (1 : Int32)) hx hb dX10_breath_7 (by decide) ?_
  refine lv_isub hx hb dX10_breath_8 ?_
  refine lv_i2l (v := (((gi σ 6) - (1 : Int32))).toInt64) hx hb dX10_breath_9 rfl ?_
  obtain ⟨r10, h10, hf⟩ := ob_some hf
  refine p_calli0 (u_runS (rest := []) S (c_X10_in l D cy σ ((v1).toInt64) (0 : Int64) ((((gi σ 6) - (1 : Int32))).toInt64) r10 h10 aw ac H.size) iX10_in q1112 q1111 ⟨Nat.le_of_ble_eq_true rfl, Nat.le_of_ble_eq_true rfl⟩ hK wN_P (wN_D (A := fun _ => True)) rfl hl.1 (Nat.le_of_ble_eq_true rfl) dX10_breath_10 ⟨Nat.le_refl _, Nat.le_refl _⟩) hP hS hA (fun H locs hP hS => ?_)
  refine lv_if_eq (tgt := 25) hx hb dX10_breath_13 (by decide) (fun c13 => ?_) (fun c13 => ?_)
  · have hf := ifp c13 hf
    refine lv_bipush (v := (-2 : Int32)) hx hb dX10_breath_25 (by decide) ?_
    exact u_iretr hx hb hr hlocks rfl hP hD hS dX10_breath_27 hf (fun _ => rfl)
  · have hf := ifn c13 hf
    refine lv_aload_n hx hb dX10_breath_16 rfl (lv_at hl 0 rfl) ?_
    refine gM_m_breath S hK hP q953 dX10_breath_17 ?_
    refine lv_iload_n hx hb dX10_breath_20 rfl (lv_at hl 1 rfl) ?_
    obtain ⟨h21, hf⟩ := if_in hf
    refine lM_2 S hK hP h21 dX10_breath_21 ?_
    refine lv_goto (tgt := 27) hx hb dX10_breath_22 (by decide) ?_
    exact u_iretr hx hb hr hlocks rfl hP hD hS dX10_breath_27 hf (fun _ => rfl)
theorem iX10_rest : YI yX10_rest cX10_rest 4 (some .int) 1 := ⟨q1167, q12, by decide, by decide, by decide +kernel⟩
theorem vX10_rest : YV yX10_rest := ⟨q1165, q1166⟩
set_option maxRecDepth 100000 in
set_option maxHeartbeats 4000000 in
theorem c_X10_rest (l : Launch) (D : va_G) (cy : Nat → ClassId) (ad : Nat → Nat) (σ : St) (v1 : Int32) (q : Int32 × St) (hf : fX10_rest σ v1 = some q) : Ci l D cy (wM cy ad) yX10_rest cX10_rest 4 .int 1 25 [.ref (ad 0), .int v1] σ q.1 q.2 0 0 := by
  refine Ci.enter (by decide) (Nat.le_of_ble_eq_true rfl) ?_
  intro aw ac p e s m below meth c A H locs S hr hlocks hA hK hP hD hS ls hl
  have hx := S.1
  have hb := S.2.1
  have hl : lv_has ls 4 [(0, .ref (ad 0)), (1, .int v1)] := hl
  unfold fX10_rest at hf
  refine lv_iload_n hx hb dX10_rest_0 rfl (lv_at hl 1 rfl) ?_
  refine lv_i2l (v := (v1).toInt64) hx hb dX10_rest_1 rfl ?_
  refine lv_lconst (v := (1 : Int64)) hx hb dX10_rest_2 (by decide) ?_
  refine lv_ldc2 hx hb S.2.2.2.1 (S.2.2.2.2 _ (List.mem_cons_of_mem _ q1168)) dX10_rest_3 ?_
  obtain ⟨r6, h6, hf⟩ := ob_some hf
  refine p_calli0 (u_runS (rest := []) S (c_X10_in l D cy σ ((v1).toInt64) (1 : Int64) (1000 : Int64) r6 h6 aw ac H.size) iX10_in q1112 q1111 ⟨Nat.le_of_ble_eq_true rfl, Nat.le_of_ble_eq_true rfl⟩ hK wN_P (wN_D (A := fun _ => True)) rfl hl.1 (Nat.le_of_ble_eq_true rfl) dX10_rest_6 ⟨Nat.le_refl _, Nat.le_refl _⟩) hP hS hA (fun H locs hP hS => ?_)
  refine lv_if_ne (tgt := 15) hx hb dX10_rest_9 (by decide) (fun c9 => ?_) (fun c9 => ?_)
  · have hf := ifn c9 hf
    refine lv_iconst (v := (0 : Int32)) hx hb dX10_rest_15 (by decide) ?_
    refine lv_istore_n (lv' := [(2, .int (0 : Int32)), (0, .ref (ad 0)), (1, .int v1)]) hx hb dX10_rest_16 rfl hl (by decide) rfl (fun ls hl => ?_)
    have L17 : ∀ (n17 : Nat) (v2_17 : Int32) (σ17 : St) (H : Heap) (locs : List Loc) (ls : Array Slot), fX10_rest_17 (fX10_rest_17_k v1) v1 n17 σ17 v2_17 = some q → va_P D vwCl (wM cy ad aw ac σ17) H → va_D A (wM cy ad aw ac σ17) → va_S A s.heap H locs → lv_has ls 4 [(0, .ref (ad 0)), (1, .int v1), (2, .int v2_17)] → W p l e (Rm 1 25 0 0) s m [.ref (ad 0), .int v1].toArray below meth c H locs 0 0 (Zi D (wM cy ad) A q.1 q.2 aw ac below [.ref (ad 0), .int v1].toArray s 0 0) (F0 m 17 ls []) := by
      intro n17
      induction n17 with
      | zero =>
        intro v2_17 σ17 H locs ls hf
        cases hf
      | succ n17 ih17 =>
        intro v2_17 σ17 H locs ls hf hP hD hS hl
        rw [fX10_rest_17] at hf
        refine lv_iload_n hx hb dX10_rest_17 rfl (lv_at hl 2 rfl) ?_
        refine lv_aload_n hx hb dX10_rest_18 rfl (lv_at hl 0 rfl) ?_
        refine gM_m_men S hK hP q951 dX10_rest_19 ?_
        refine lv_icmp_ge (tgt := 62) hx hb dX10_rest_22 (by decide) (fun c22 => ?_) (fun c22 => ?_)
        · have hf := ifp c22 hf
          have hl := lv_sub (l' := [(0, .ref (ad 0)), (1, .int v1), (2, .int v2_17)]) hl [0, 1, 2] rfl
          unfold fX10_rest_17_k at hf
          refine lv_iconst (v := (1 : Int32)) hx hb dX10_rest_62 (by decide) ?_
          exact u_iretw hx hb hr hlocks rfl hP hD hS dX10_rest_63 hf (fun _ => rfl)
        · have hf := ifn c22 hf
          refine lv_aload_n hx hb dX10_rest_25 rfl (lv_at hl 0 rfl) ?_
          refine gM_m_breath S hK hP q953 dX10_rest_26 ?_
          refine lv_iload_n hx hb dX10_rest_29 rfl (lv_at hl 2 rfl) ?_
          obtain ⟨h30, hf⟩ := if_in hf
          refine lM_2 S hK hP h30 dX10_rest_30 ?_
          refine lv_iconst (v := (2 : Int32)) hx hb dX10_rest_31 (by decide) ?_
          refine lv_iload_n hx hb dX10_rest_32 rfl (lv_at hl 1 rfl) ?_
          refine lv_imul hx hb dX10_rest_33 ?_
          refine lv_iadd hx hb dX10_rest_34 ?_
          refine lv_istore_n (lv' := [(3, .int ((ga σ17 2 v2_17.toNatClampNeg) + ((2 : Int32) * v1))), (0, .ref (ad 0)), (1, .int v1), (2, .int v2_17)]) hx hb dX10_rest_35 rfl hl (by decide) rfl (fun ls hl => ?_)
          refine lv_aload_n hx hb dX10_rest_36 rfl (lv_at hl 1 rfl) ?_
          refine gM_m_breath S hK hP q953 dX10_rest_37 ?_
          refine lv_iload_n hx hb dX10_rest_40 rfl (lv_at hl 3 rfl) ?_
          refine lv_iload_n hx hb dX10_rest_41 rfl (lv_at hl 0 rfl) ?_
          refine lv_sipush (v := (5000 : Int32)) hx hb dX10_rest_42 (by decide) ?_
          refine lv_icmp_le (tgt := 54) hx hb dX10_rest_45 (by decide) (fun c45 => ?_) (fun c45 => ?_)
          · have hf := ifp c45 hf
            refine lv_iload_n hx hb dX10_rest_54 rfl (lv_at hl 0 rfl) ?_
            obtain ⟨h55, hf⟩ := if_in hf
            refine tM_2 S hK hP hD hS h55 dX10_rest_55 (fun H locs hP hD hS => ?_)
            refine lv_iinc (v := (v2_17 + (1 : Int32))) (lv' := [(2, .int (v2_17 + (1 : Int32))), (3, .int ((ga σ17 2 v2_17.toNatClampNeg) + ((2 : Int32) * v1))), (0, .ref (ad 0)), (1, .int v1)]) hx hb dX10_rest_56 hl (k := 3) rfl rfl (by decide) rfl (fun ls hl => ?_)
            refine lv_goto (tgt := 17) hx hb dX10_rest_59 (by decide) ?_
            exact ih17 (v2_17 + (1 : Int32)) (sa σ17 2 v2_17.toNatClampNeg ((ga σ17 2 v2_17.toNatClampNeg) + ((2 : Int32) * v1))) H locs ls hf hP hD hS (lv_sub hl [2, 3, 0] rfl)
          · have hf := ifn c45 hf
            refine lv_sipush (v := (5000 : Int32)) hx hb dX10_rest_48 (by decide) ?_
            refine lv_goto (tgt := 55) hx hb dX10_rest_51 (by decide) ?_
            obtain ⟨h55, hf⟩ := if_in hf
            refine tM_2 S hK hP hD hS h55 dX10_rest_55 (fun H locs hP hD hS => ?_)
            refine lv_iinc (v := (v2_17 + (1 : Int32))) (lv' := [(2, .int (v2_17 + (1 : Int32))), (3, .int ((ga σ17 2 v2_17.toNatClampNeg) + ((2 : Int32) * v1))), (0, .ref (ad 0)), (1, .int v1)]) hx hb dX10_rest_56 hl (k := 3) rfl rfl (by decide) rfl (fun ls hl => ?_)
            refine lv_goto (tgt := 17) hx hb dX10_rest_59 (by decide) ?_
            exact ih17 (v2_17 + (1 : Int32)) (sa σ17 2 v2_17.toNatClampNeg (5000 : Int32)) H locs ls hf hP hD hS (lv_sub hl [2, 3, 0] rfl)
    exact L17 KF (0 : Int32) σ H locs ls hf hP hD hS (lv_sub hl [1, 2, 0] rfl)
  · have hf := ifp c9 hf
    refine lv_bipush (v := (-2 : Int32)) hx hb dX10_rest_12 (by decide) ?_
    exact u_iretw hx hb hr hlocks rfl hP hD hS dX10_rest_14 hf (fun _ => rfl)
theorem iX10_weightOf : YI yX10_weightOf cX10_weightOf 4 (some .int) 1 := ⟨q1188, q12, by decide, by decide, by decide +kernel⟩
theorem vX10_weightOf : YV yX10_weightOf := ⟨q1187, qs32⟩
set_option maxRecDepth 100000 in
set_option maxHeartbeats 4000000 in
theorem c_X10_weightOf (l : Launch) (D : va_G) (cy : Nat → ClassId) (ad : Nat → Nat) (σ : St) (v1 : Int32) (r : Int32) (hf : fX10_weightOf σ v1 = some r) : Ci l D cy (wM cy ad) yX10_weightOf cX10_weightOf 4 .int 0 0 [.ref (ad 0), .int v1] σ r σ 0 0 := by
  refine Ci.enter (by decide) (Nat.le_of_ble_eq_true rfl) ?_
  intro aw ac p e s m below meth c A H locs S hr hlocks hA hK hP hD hS ls hl
  have hx := S.1
  have hb := S.2.1
  have hl : lv_has ls 4 [(0, .ref (ad 0)), (1, .int v1)] := hl
  unfold fX10_weightOf at hf
  refine lv_iconst (v := (0 : Int32)) hx hb dX10_weightOf_0 (by decide) ?_
  refine lv_istore_n (lv' := [(2, .int (0 : Int32)), (0, .ref (ad 0)), (1, .int v1)]) hx hb dX10_weightOf_1 rfl hl (by decide) rfl (fun ls hl => ?_)
  refine lv_iconst (v := (0 : Int32)) hx hb dX10_weightOf_2 (by decide) ?_
  refine lv_istore_n (lv' := [(3, .int (0 : Int32)), (2, .int (0 : Int32)), (0, .ref (ad 0)), (1, .int v1)]) hx hb dX10_weightOf_3 rfl hl (by decide) rfl (fun ls hl => ?_)
  have L4 : ∀ (n4 : Nat) (v2_4 : Int32) (v3_4 : Int32) (H : Heap) (locs : List Loc) (ls : Array Slot), fX10_weightOf_4 (fX10_weightOf_4_k σ v1) σ v1 n4 v2_4 v3_4 = some r → va_P D vwCl (wM cy ad aw ac σ) H → va_D A (wM cy ad aw ac σ) → va_S A s.heap H locs → lv_has ls 4 [(0, .ref (ad 0)), (1, .int v1), (2, .int v2_4), (3, .int v3_4)] → W p l e (Rm 0 0 0 0) s m [.ref (ad 0), .int v1].toArray below meth c H locs 0 0 (Zi D (wM cy ad) A r σ aw ac below [.ref (ad 0), .int v1].toArray s 0 0) (F0 m 4 ls []) := by
    intro n4
    induction n4 with
    | zero =>
      intro v2_4 v3_4 H locs ls hf
      cases hf
    | succ n4 ih4 =>
      intro v2_4 v3_4 H locs ls hf hP hD hS hl
      rw [fX10_weightOf_4] at hf
      refine lv_iload_n hx hb dX10_weightOf_4 rfl (lv_at hl 3 rfl) ?_
      refine lv_aload_n hx hb dX10_weightOf_5 rfl (lv_at hl 0 rfl) ?_
      refine gM_m_men S hK hP q951 dX10_weightOf_6 ?_
      refine lv_icmp_ge (tgt := 33) hx hb dX10_weightOf_9 (by decide) (fun c9 => ?_) (fun c9 => ?_)
      · have hf := ifp c9 hf
        have hl := lv_sub (l' := [(0, .ref (ad 0)), (1, .int v1), (2, .int v2_4), (3, .int v3_4)]) hl [0, 1, 2, 3] rfl
        unfold fX10_weightOf_4_k at hf
        refine lv_iload_n hx hb dX10_weightOf_33 rfl (lv_at hl 2 rfl) ?_
        exact u_iretr hx hb hr hlocks rfl hP hD hS dX10_weightOf_34 hf (fun _ => rfl)
      · have hf := ifn c9 hf
        refine lv_iload_n hx hb dX10_weightOf_12 rfl (lv_at hl 2 rfl) ?_
        refine lv_iload_n hx hb dX10_weightOf_13 rfl (lv_at hl 1 rfl) ?_
        refine lv_iload_n hx hb dX10_weightOf_14 rfl (lv_at hl 3 rfl) ?_
        refine lv_ishr hx hb dX10_weightOf_15 ?_
        refine lv_iconst (v := (1 : Int32)) hx hb dX10_weightOf_16 (by decide) ?_
        refine lv_iand hx hb dX10_weightOf_17 ?_
        refine lv_aload_n hx hb dX10_weightOf_18 rfl (lv_at hl 0 rfl) ?_
        refine gM_m_weight S hK hP q952 dX10_weightOf_19 ?_
        refine lv_iload_n hx hb dX10_weightOf_22 rfl (lv_at hl 3 rfl) ?_
        obtain ⟨h23, hf⟩ := if_in hf
        refine lM_1 S hK hP h23 dX10_weightOf_23 ?_
        refine lv_imul hx hb dX10_weightOf_24 ?_
        refine lv_iadd hx hb dX10_weightOf_25 ?_
        refine lv_istore_n (lv' := [(2, .int (v2_4 + (((v1 >>> (v3_4 &&& 31)) &&& (1 : Int32)) * (ga σ 1 v3_4.toNatClampNeg)))), (0, .ref (ad 0)), (1, .int v1), (3, .int v3_4)]) hx hb dX10_weightOf_26 rfl hl (by decide) rfl (fun ls hl => ?_)
        refine lv_iinc (v := (v3_4 + (1 : Int32))) (lv' := [(3, .int (v3_4 + (1 : Int32))), (2, .int (v2_4 + (((v1 >>> (v3_4 &&& 31)) &&& (1 : Int32)) * (ga σ 1 v3_4.toNatClampNeg)))), (0, .ref (ad 0)), (1, .int v1)]) hx hb dX10_weightOf_27 hl (k := 3) rfl rfl (by decide) rfl (fun ls hl => ?_)
        refine lv_goto (tgt := 4) hx hb dX10_weightOf_30 (by decide) ?_
        exact ih4 (v2_4 + (((v1 >>> (v3_4 &&& 31)) &&& (1 : Int32)) * (ga σ 1 v3_4.toNatClampNeg))) (v3_4 + (1 : Int32)) H locs ls hf hP hD hS (lv_sub hl [2, 3, 1, 0] rfl)
  exact L4 KF (0 : Int32) (0 : Int32) H locs ls hf hP hD hS (lv_sub hl [2, 3, 1, 0] rfl)
theorem iX10_canOf : YI yX10_canOf cX10_canOf 13 (some .int) 3 := ⟨q1184, q12, by decide, by decide, by decide +kernel⟩
theorem vX10_canOf : YV yX10_canOf := ⟨q1183, qs31⟩
set_option maxRecDepth 100000 in
set_option maxHeartbeats 4000000 in
theorem c_X10_canOf (l : Launch) (D : va_G) (cy : Nat → ClassId) (ad : Nat → Nat) (σ : St) (v1 : Int32) (v2 : Int32) (v3 : Int32) (r : Int32) (hf : fX10_canOf σ v1 v2 v3 = some r) : Ci l D cy (wM cy ad) yX10_canOf cX10_canOf 13 .int 2 45 [.ref (ad 0), .int v1, .int v2, .int v3] σ r σ 0 0 := by
  refine Ci.enter (by decide) (Nat.le_of_ble_eq_true rfl) ?_
  intro aw ac p e s m below meth c A H locs S hr hlocks hA hK hP hD hS ls hl
  have hx := S.1
  have hb := S.2.1
  have hl : lv_has ls 13 [(0, .ref (ad 0)), (1, .int v1), (2, .int v2), (3, .int v3)] := hl
  unfold fX10_canOf at hf
  refine lv_aload_n hx hb dX10_canOf_0 rfl (lv_at hl 0 rfl) ?_
  refine lv_iload_n hx hb dX10_canOf_1 rfl (lv_at hl 3 rfl) ?_
  obtain ⟨r2, h2, hf⟩ := ob_some hf
  refine u_calli0 (u_runV (rest := []) S (c_X10_stepsFor l D cy ad σ v3 r2 h2 aw ac H.size) iX10_stepsFor vX10_stepsFor q1142 ⟨Nat.le_of_ble_eq_true rfl, Nat.le_of_ble_eq_true rfl⟩ hK hP hD (q0 := 0) rfl rfl rfl hl.1 (Nat.le_of_ble_eq_true rfl) dX10_canOf_2 ⟨Nat.le_refl _, Nat.le_refl _⟩) hD hS hA (fun H locs hP hD hS => ?_)
  refine lv_istore (lv' := [(4, .int r2), (0, .ref (ad 0)), (1, .int v1), (2, .int v2), (3, .int v3)]) hx hb dX10_canOf_5 hl (by decide) rfl (fun ls hl => ?_)
  refine lv_ldc2 hx hb S.2.2.2.1 (S.2.2.2.2 _ (List.mem_cons_of_mem _ q1109)) dX10_canOf_7 ?_
  refine lv_aload_n hx hb dX10_canOf_10 rfl (lv_at hl 1 rfl) ?_
  refine lv_iload_n hx hb dX10_canOf_11 rfl (lv_at hl 2 rfl) ?_
  obtain ⟨r12, h12, hf⟩ := ob_some hf
  refine u_calli0 (u_runV (rest := [.long (100 : Int64)]) S (c_X10_weightOf l D cy ad σ v1 r12 h12 aw ac H.size) iX10_weightOf vX10_weightOf q1185 ⟨Nat.le_of_ble_eq_true rfl, Nat.le_of_ble_eq_true rfl⟩ hK hP hD (q0 := 0) rfl rfl rfl hl.1 (Nat.le_of_ble_eq_true rfl) dX10_canOf_12 ⟨Nat.le_refl _, Nat.le_refl _⟩) hD hS hA (fun H locs hP hD hS => ?_)
  refine lv_i2l (v := (r12).toInt64) hx hb dX10_canOf_15 rfl ?_
  refine lv_lmul hx hb dX10_canOf_16 ?_
  refine lv_aload_n hx hb dX10_canOf_17 rfl (lv_at hl 1 rfl) ?_
  refine gM_m_girth S hK hP q945 dX10_canOf_18 ?_
  refine lv_i2l (v := ((gi σ 0)).toInt64) hx hb dX10_canOf_21 rfl ?_
  refine lv_lmul hx hb dX10_canOf_22 ?_
  refine lv_lstore (lv' := [(5, .long (((100 : Int64) * ((r12).toInt64)) * (((gi σ 0)).toInt64))), (4, .int r2), (0, .ref (ad 0)), (1, .int v1), (2, .int v2), (3, .int v3)]) hx hb dX10_canOf_23 hl (by decide) rfl (fun ls hl => ?_)
  refine lv_iload_n hx hb dX10_canOf_25 rfl (lv_at hl 4 rfl) ?_
  refine lv_i2l (v := (v2).toInt64) hx hb dX10_canOf_26 rfl ?_
  refine lv_aload_n hx hb dX10_canOf_27 rfl (lv_at hl 2 rfl) ?_
  refine lv_aload_n hx hb dX10_canOf_28 rfl (lv_at hl 2 rfl) ?_
  refine lv_iload hx hb dX10_canOf_29 (lv_at hl 1 rfl) ?_
  obtain ⟨r31, h31, hf⟩ := ob_some hf
  refine u_calli0 (u_runV (rest := [.ref (ad 0), .long ((v2).toInt64)]) S (c_X10_lastTurn l D cy ad σ r2 r31 h31 aw ac H.size) iX10_lastTurn vX10_lastTurn q1150 ⟨Nat.le_of_ble_eq_true rfl, Nat.le_of_ble_eq_true rfl⟩ hK hP hD (q0 := 0) rfl rfl rfl hl.1 (Nat.le_of_ble_eq_true rfl) dX10_canOf_31 ⟨Nat.le_refl _, Nat.le_refl _⟩) hD hS hA (fun H locs hP hD hS => ?_)
  obtain ⟨r34, h34, hf⟩ := ob_some hf
  refine u_calli0 (u_runV (rest := [.long ((v2).toInt64)]) S (c_X10_girthOf l D cy ad σ r31 r34 h34 aw ac H.size) iX10_girthOf vX10_girthOf q1131 ⟨Nat.le_of_ble_eq_true rfl, Nat.le_of_ble_eq_true rfl⟩ hK hP hD (q0 := 0) rfl rfl rfl hl.1 (Nat.le_of_ble_eq_true rfl) dX10_canOf_34 ⟨Nat.le_refl _, Nat.le_refl _⟩) hD hS hA (fun H locs hP hD hS => ?_)
  refine lv_i2l (v := (r34).toInt64) hx hb dX10_canOf_37 rfl ?_
  refine lv_lmul hx hb dX10_canOf_38 ?_
  refine lv_bipush (v := (100 : Int32)) hx hb dX10_canOf_39 (by decide) ?_
  refine lv_aload_n hx hb dX10_canOf_41 rfl (lv_at hl 2 rfl) ?_
  refine gM_m_friction S hK hP q948 dX10_canOf_42 ?_
  refine lv_iadd hx hb dX10_canOf_45 ?_
  refine lv_i2l (v := (((100 : Int32) + (gi σ 3))).toInt64) hx hb dX10_canOf_46 rfl ?_
  refine lv_lmul hx hb dX10_canOf_47 ?_
  refine lv_lstore (lv' := [(7, .long ((((v2).toInt64) * ((r34).toInt64)) * ((((100 : Int32) + (gi σ 3))).toInt64))), (5, .long (((100 : Int64) * ((r12).toInt64)) * (((gi σ 0)).toInt64))), (4, .int r2), (0, .ref (ad 0)), (1, .int v1), (2, .int v2), (3, .int v3)]) hx hb dX10_canOf_48 hl (by decide) rfl (fun ls hl => ?_)
  refine lv_lload hx hb dX10_canOf_50 (lv_at hl 1 rfl) ?_
  refine lv_lload hx hb dX10_canOf_52 (lv_at hl 0 rfl) ?_
  refine W.lcmp hx hb dX10_canOf_54 ?_
  refine lv_if_ge (tgt := 60) hx hb dX10_canOf_55 (by decide) (fun c55 => ?_) (fun c55 => ?_)
  · have c55 := (lg_cmp_ge _ _).mp c55
    have hf := ifp c55 hf
    refine lv_iload hx hb dX10_canOf_60 (lv_at hl 2 rfl) ?_
    refine lv_i2l (v := (r2).toInt64) hx hb dX10_canOf_62 rfl ?_
    refine lv_iconst (v := (1 : Int32)) hx hb dX10_canOf_63 (by decide) ?_
    refine lv_iload_n hx hb dX10_canOf_64 rfl (lv_at hl 5 rfl) ?_
    refine lv_sipush (v := (1000 : Int32)) hx hb dX10_canOf_65 (by decide) ?_
    refine lv_idiv hx hb dX10_canOf_68 (by decide) ?_
    refine lv_iadd hx hb dX10_canOf_69 ?_
    refine lv_i2l (v := (((1 : Int32) + (v2 / (1000 : Int32)))).toInt64) hx hb dX10_canOf_70 rfl ?_
    refine lv_lmul hx hb dX10_canOf_71 ?_
    refine lv_lstore (lv' := [(9, .long (((r2).toInt64) * ((((1 : Int32) + (v2 / (1000 : Int32)))).toInt64))), (7, .long ((((v2).toInt64) * ((r34).toInt64)) * ((((100 : Int32) + (gi σ 3))).toInt64))), (5, .long (((100 : Int64) * ((r12).toInt64)) * (((gi σ 0)).toInt64))), (4, .int r2), (0, .ref (ad 0)), (1, .int v1), (2, .int v2), (3, .int v3)]) hx hb dX10_canOf_72 hl (by decide) rfl (fun ls hl => ?_)
    refine lv_iconst (v := (0 : Int32)) hx hb dX10_canOf_74 (by decide) ?_
    refine lv_istore (lv' := [(11, .int (0 : Int32)), (9, .long (((r2).toInt64) * ((((1 : Int32) + (v2 / (1000 : Int32)))).toInt64))), (7, .long ((((v2).toInt64) * ((r34).toInt64)) * ((((100 : Int32) + (gi σ 3))).toInt64))), (5, .long (((100 : Int64) * ((r12).toInt64)) * (((gi σ 0)).toInt64))), (4, .int r2), (0, .ref (ad 0)), (1, .int v1), (2, .int v2), (3, .int v3)]) hx hb dX10_canOf_75 hl (by decide) rfl (fun ls hl => ?_)
    refine lv_iconst (v := (0 : Int32)) hx hb dX10_canOf_77 (by decide) ?_
    refine lv_istore (lv' := [(12, .int (0 : Int32)), (11, .int (0 : Int32)), (9, .long (((r2).toInt64) * ((((1 : Int32) + (v2 / (1000 : Int32)))).toInt64))), (7, .long ((((v2).toInt64) * ((r34).toInt64)) * ((((100 : Int32) + (gi σ 3))).toInt64))), (5, .long (((100 : Int64) * ((r12).toInt64)) * (((gi σ 0)).toInt64))), (4, .int r2), (0, .ref (ad 0)), (1, .int v1), (2, .int v2), (3, .int v3)]) hx hb dX10_canOf_78 hl (by decide) rfl (fun ls hl => ?_)
    have L80 : ∀ (n80 : Nat) (v4_80 : Int32) (v5_80 : Int64) (v7_80 : Int64) (v9_80 : Int64) (v11_80 : Int32) (v12_80 : Int32) (H : Heap) (locs : List Loc) (ls : Array Slot), fX10_canOf_80 (fX10_canOf_80_k σ v1 v2 v3 v4_80 v5_80 v7_80 v9_80) σ v1 v2 v3 v4_80 v5_80 v7_80 v9_80 n80 v11_80 v12_80 = some r → va_P D vwCl (wM cy ad aw ac σ) H → va_D A (wM cy ad aw ac σ) → va_S A s.heap H locs → lv_has ls 13 [(0, .ref (ad 0)), (1, .int v1), (2, .int v2), (3, .int v3), (4, .int v4_80), (5, .long v5_80), (7, .long v7_80), (9, .long v9_80), (11, .int v11_80), (12, .int v12_80)] → W p l e (Rm 2 45 0 0) s m [.ref (ad 0), .int v1, .int v2, .int v3].toArray below meth c H locs 0 0 (Zi D (wM cy ad) A r σ aw ac below [.ref (ad 0), .int v1, .int v2, .int v3].toArray s 0 0) (F0 m 80 ls []) := by
      intro n80
      induction n80 with
      | zero =>
        intro v4_80 v5_80 v7_80 v9_80 v11_80 v12_80 H locs ls hf
        cases hf
      | succ n80 ih80 =>
        intro v4_80 v5_80 v7_80 v9_80 v11_80 v12_80 H locs ls hf hP hD hS hl
        rw [fX10_canOf_80] at hf
        refine lv_iload hx hb dX10_canOf_80 (lv_at hl 9 rfl) ?_
        refine lv_aload_n hx hb dX10_canOf_82 rfl (lv_at hl 0 rfl) ?_
        refine gM_m_men S hK hP q951 dX10_canOf_83 ?_
        refine lv_icmp_ge (tgt := 131) hx hb dX10_canOf_86 (by decide) (fun c86 => ?_) (fun c86 => ?_)
        · have hf := ifp c86 hf
          have hl := lv_sub (l' := [(0, .ref (ad 0)), (1, .int v1), (2, .int v2), (3, .int v3), (4, .int v4_80), (5, .long v5_80), (7, .long v7_80), (9, .long v9_80), (11, .int v11_80), (12, .int v12_80)]) hl [0, 1, 2, 3, 4, 5, 6, 7, 8, 9] rfl
          unfold fX10_canOf_80_k at hf
          refine lv_iload hx hb dX10_canOf_131 (lv_at hl 8 rfl) ?_
          refine lv_if_eq (tgt := 140) hx hb dX10_canOf_133 (by decide) (fun c133 => ?_) (fun c133 => ?_)
          · have hf := ifp c133 hf
            refine lv_iconst (v := (1 : Int32)) hx hb dX10_canOf_140 (by decide) ?_
            exact u_iretr hx hb hr hlocks rfl hP hD hS dX10_canOf_141 hf (fun _ => rfl)
          · have hf := ifn c133 hf
            refine lv_iconst (v := (2 : Int32)) hx hb dX10_canOf_136 (by decide) ?_
            refine lv_goto (tgt := 141) hx hb dX10_canOf_137 (by decide) ?_
            exact u_iretr hx hb hr hlocks rfl hP hD hS dX10_canOf_141 hf (fun _ => rfl)
        · have hf := ifn c86 hf
          refine lv_iload hx hb dX10_canOf_89 (lv_at hl 8 rfl) ?_
          refine lv_if_ne (tgt := 118) hx hb dX10_canOf_91 (by decide) (fun c91 => ?_) (fun c91 => ?_)
          · have hf := ifn c91 hf
            refine lv_iconst (v := (1 : Int32)) hx hb dX10_canOf_118 (by decide) ?_
            refine lv_goto (tgt := 123) hx hb dX10_canOf_119 (by decide) ?_
            refine lv_istore (lv' := [(11, .int (1 : Int32)), (0, .ref (ad 0)), (1, .int v1), (2, .int v2), (3, .int v3), (4, .int v4_80), (5, .long v5_80), (7, .long v7_80), (9, .long v9_80), (12, .int v12_80)]) hx hb dX10_canOf_123 hl (by decide) rfl (fun ls hl => ?_)
            refine lv_iinc (v := (v12_80 + (1 : Int32))) (lv' := [(12, .int (v12_80 + (1 : Int32))), (11, .int (1 : Int32)), (0, .ref (ad 0)), (1, .int v1), (2, .int v2), (3, .int v3), (4, .int v4_80), (5, .long v5_80), (7, .long v7_80), (9, .long v9_80)]) hx hb dX10_canOf_125 hl (k := 9) rfl rfl (by decide) rfl (fun ls hl => ?_)
            refine lv_goto (tgt := 80) hx hb dX10_canOf_128 (by decide) ?_
            exact ih80 v4_80 v5_80 v7_80 v9_80 (1 : Int32) (v12_80 + (1 : Int32)) H locs ls hf hP hD hS (lv_sub hl [2, 3, 4, 5, 6, 7, 8, 9, 1, 0] rfl)
          · have hf := ifp c91 hf
            refine lv_iload_n hx hb dX10_canOf_94 rfl (lv_at hl 1 rfl) ?_
            refine lv_iload hx hb dX10_canOf_95 (lv_at hl 9 rfl) ?_
            refine lv_ishr hx hb dX10_canOf_97 ?_
            refine lv_iconst (v := (1 : Int32)) hx hb dX10_canOf_98 (by decide) ?_
            refine lv_iand hx hb dX10_canOf_99 ?_
            refine lv_iconst (v := (1 : Int32)) hx hb dX10_canOf_100 (by decide) ?_
            refine lv_icmp_ne (tgt := 122) hx hb dX10_canOf_101 (by decide) (fun c101 => ?_) (fun c101 => ?_)
            · have hf := ifn c101 hf
              refine lv_iconst (v := (0 : Int32)) hx hb dX10_canOf_122 (by decide) ?_
              refine lv_istore (lv' := [(11, .int (0 : Int32)), (0, .ref (ad 0)), (1, .int v1), (2, .int v2), (3, .int v3), (4, .int v4_80), (5, .long v5_80), (7, .long v7_80), (9, .long v9_80), (12, .int v12_80)]) hx hb dX10_canOf_123 hl (by decide) rfl (fun ls hl => ?_)
              refine lv_iinc (v := (v12_80 + (1 : Int32))) (lv' := [(12, .int (v12_80 + (1 : Int32))), (11, .int (0 : Int32)), (0, .ref (ad 0)), (1, .int v1), (2, .int v2), (3, .int v3), (4, .int v4_80), (5, .long v5_80), (7, .long v7_80), (9, .long v9_80)]) hx hb dX10_canOf_125 hl (k := 9) rfl rfl (by decide) rfl (fun ls hl => ?_)
              refine lv_goto (tgt := 80) hx hb dX10_canOf_128 (by decide) ?_
              exact ih80 v4_80 v5_80 v7_80 v9_80 (0 : Int32) (v12_80 + (1 : Int32)) H locs ls hf hP hD hS (lv_sub hl [2, 3, 4, 5, 6, 7, 8, 9, 1, 0] rfl)
            · have hf := ifp c101 hf
              refine lv_aload_n hx hb dX10_canOf_104 rfl (lv_at hl 0 rfl) ?_
              refine gM_m_breath S hK hP q953 dX10_canOf_105 ?_
              refine lv_iload hx hb dX10_canOf_108 (lv_at hl 9 rfl) ?_
              obtain ⟨h110, hf⟩ := if_in hf
              refine lM_2 S hK hP h110 dX10_canOf_110 ?_
              refine lv_i2l (v := ((ga σ 2 v12_80.toNatClampNeg)).toInt64) hx hb dX10_canOf_111 rfl ?_
              refine lv_lload hx hb dX10_canOf_112 (lv_at hl 7 rfl) ?_
              refine W.lcmp hx hb dX10_canOf_114 ?_
              refine lv_if_ge (tgt := 122) hx hb dX10_canOf_115 (by decide) (fun c115 => ?_) (fun c115 => ?_)
              · have c115 := (lg_cmp_ge _ _).mp c115
                have hf := ifp c115 hf
                refine lv_iconst (v := (0 : Int32)) hx hb dX10_canOf_122 (by decide) ?_
                refine lv_istore (lv' := [(11, .int (0 : Int32)), (0, .ref (ad 0)), (1, .int v1), (2, .int v2), (3, .int v3), (4, .int v4_80), (5, .long v5_80), (7, .long v7_80), (9, .long v9_80), (12, .int v12_80)]) hx hb dX10_canOf_123 hl (by decide) rfl (fun ls hl => ?_)
                refine lv_iinc (v := (v12_80 + (1 : Int32))) (lv' := [(12, .int (v12_80 + (1 : Int32))), (11, .int (0 : Int32)), (0, .ref (ad 0)), (1, .int v1), (2, .int v2), (3, .int v3), (4, .int v4_80), (5, .long v5_80), (7, .long v7_80), (9, .long v9_80)]) hx hb dX10_canOf_125 hl (k := 9) rfl rfl (by decide) rfl (fun ls hl => ?_)
                refine lv_goto (tgt := 80) hx hb dX10_canOf_128 (by decide) ?_
                exact ih80 v4_80 v5_80 v7_80 v9_80 (0 : Int32) (v12_80 + (1 : Int32)) H locs ls hf hP hD hS (lv_sub hl [2, 3, 4, 5, 6, 7, 8, 9, 1, 0] rfl)
              · have c115 := (not_congr (lg_cmp_ge _ _)).mp c115
                have hf := ifn c115 hf
                refine lv_iconst (v := (1 : Int32)) hx hb dX10_canOf_118 (by decide) ?_
                refine lv_goto (tgt := 123) hx hb dX10_canOf_119 (by decide) ?_
                refine lv_istore (lv' := [(11, .int (1 : Int32)), (0, .ref (ad 0)), (1, .int v1), (2, .int v2), (3, .int v3), (4, .int v4_80), (5, .long v5_80), (7, .long v7_80), (9, .long v9_80), (12, .int v12_80)]) hx hb dX10_canOf_123 hl (by decide) rfl (fun ls hl => ?_)
                refine lv_iinc (v := (v12_80 + (1 : Int32))) (lv' := [(12, .int (v12_80 + (1 : Int32))), (11, .int (1 : Int32)), (0, .ref (ad 0)), (1, .int v1), (2, .int v2), (3, .int v3), (4, .int v4_80), (5, .long v5_80), (7, .long v7_80), (9, .long v9_80)]) hx hb dX10_canOf_125 hl (k := 9) rfl rfl (by decide) rfl (fun ls hl => ?_)
                refine lv_goto (tgt := 80) hx hb dX10_canOf_128 (by decide) ?_
                exact ih80 v4_80 v5_80 v7_80 v9_80 (1 : Int32) (v12_80 + (1 : Int32)) H locs ls hf hP hD hS (lv_sub hl [2, 3, 4, 5, 6, 7, 8, 9, 1, 0] rfl)
    exact L80 KF r2 (((100 : Int64) * ((r12).toInt64)) * (((gi σ 0)).toInt64)) ((((v2).toInt64) * ((r34).toInt64)) * ((((100 : Int32) + (gi σ 3))).toInt64)) (((r2).toInt64) * ((((1 : Int32) + (v2 / (1000 : Int32)))).toInt64)) (0 : Int32) (0 : Int32) H locs ls hf hP hD hS (lv_sub hl [6, 7, 8, 9, 5, 4, 3, 2, 1, 0] rfl)
  · have c55 := (not_congr (lg_cmp_ge _ _)).mp c55
    have hf := ifn c55 hf
    refine lv_iconst (v := (0 : Int32)) hx hb dX10_canOf_58 (by decide) ?_
    exact u_iretr hx hb hr hlocks rfl hP hD hS dX10_canOf_59 hf (fun _ => rfl)
