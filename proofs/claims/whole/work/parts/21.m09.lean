theorem iX10_noStone : YI yX10_noStone cX10_noStone 2 (some .boolean) 1 := ⟨q1276, q12, by decide, by decide, by decide +kernel⟩
theorem vX10_noStone : YV yX10_noStone := ⟨q1275, qs39⟩
set_option maxRecDepth 100000 in
set_option maxHeartbeats 4000000 in
theorem c_X10_noStone (l : Launch) (D : va_G) (cy : Nat → ClassId) (ad : Nat → Nat) (σ : St) (v1 : Int32) (r : Int32) (hf : fX10_noStone σ v1 = some r) : Ci l D cy (wM cy ad) yX10_noStone cX10_noStone 2 .boolean 1 25 [.ref (ad 0), .int v1] σ r σ 0 0 := by
  refine Ci.enter (by decide) (Nat.le_of_ble_eq_true rfl) ?_
  intro aw ac p e s m below meth c A H locs S hr hlocks hA hK hP hD hS ls hl
  have hx := S.1
  have hb := S.2.1
  have hl : lv_has ls 2 [(0, .ref (ad 0)), (1, .int v1)] := hl
  unfold fX10_noStone at hf
  refine lv_iload_n hx hb dX10_noStone_0 rfl (lv_at hl 1 rfl) ?_
  refine lv_i2l (v := (v1).toInt64) hx hb dX10_noStone_1 rfl ?_
  refine lv_lconst (v := (0 : Int64)) hx hb dX10_noStone_2 (by decide) ?_
  refine lv_aload_n hx hb dX10_noStone_3 rfl (lv_at hl 0 rfl) ?_
  refine gM_m_stones S hK hP q961 dX10_noStone_4 ?_
  refine lv_iconst (v := (1 : Int32)) hx hb dX10_noStone_7 (by decide) ?_
  refine lv_isub hx hb dX10_noStone_8 ?_
  refine lv_i2l (v := (((gi σ 9) - (1 : Int32))).toInt64) hx hb dX10_noStone_9 rfl ?_
  obtain ⟨r10, h10, hf⟩ := ob_some hf
  refine p_calli0 (u_runS (rest := []) S (c_X10_in l D cy σ ((v1).toInt64) (0 : Int64) ((((gi σ 9) - (1 : Int32))).toInt64) r10 h10 aw ac H.size) iX10_in q1112 q1111 ⟨Nat.le_of_ble_eq_true rfl, Nat.le_of_ble_eq_true rfl⟩ hK wN_P (wN_D (A := fun _ => True)) rfl hl.1 (Nat.le_of_ble_eq_true rfl) dX10_noStone_10 ⟨Nat.le_refl _, Nat.le_refl _⟩) hP hS hA (fun H locs hP hS => ?_)
  refine lv_if_ne (tgt := 20) hx hb dX10_noStone_13 (by decide) (fun c13 => ?_) (fun c13 => ?_)
  · have hf := ifn c13 hf
    refine lv_iconst (v := (0 : Int32)) hx hb dX10_noStone_20 (by decide) ?_
    exact u_iretr hx hb hr hlocks rfl hP hD hS dX10_noStone_21 hf (fun _ => rfl)
  · have hf := ifp c13 hf
    refine lv_iconst (v := (1 : Int32)) hx hb dX10_noStone_16 (by decide) ?_
    refine lv_goto (tgt := 21) hx hb dX10_noStone_17 (by decide) ?_
    exact u_iretr hx hb hr hlocks rfl hP hD hS dX10_noStone_21 hf (fun _ => rfl)
theorem iX10_arched : YI yX10_arched cX10_arched 3 (some .int) 2 := ⟨q1272, q12, by decide, by decide, by decide +kernel⟩
theorem vX10_arched : YV yX10_arched := ⟨q1270, q1271⟩
set_option maxRecDepth 100000 in
set_option maxHeartbeats 4000000 in
theorem c_X10_arched (l : Launch) (D : va_G) (cy : Nat → ClassId) (ad : Nat → Nat) (σ : St) (v1 : Int32) (v2 : Int32) (q : Int32 × St) (hf : fX10_arched σ v1 v2 = some q) : Ci l D cy (wM cy ad) yX10_arched cX10_arched 3 .int 2 46 [.ref (ad 0), .int v1, .int v2] σ q.1 q.2 0 0 := by
  refine Ci.enter (by decide) (Nat.le_of_ble_eq_true rfl) ?_
  intro aw ac p e s m below meth c A H locs S hr hlocks hA hK hP hD hS ls hl
  have hx := S.1
  have hb := S.2.1
  have hl : lv_has ls 3 [(0, .ref (ad 0)), (1, .int v1), (2, .int v2)] := hl
  unfold fX10_arched at hf
  refine lv_aload_n hx hb dX10_arched_0 rfl (lv_at hl 0 rfl) ?_
  refine lv_iload_n hx hb dX10_arched_1 rfl (lv_at hl 1 rfl) ?_
  obtain ⟨r2, h2, hf⟩ := ob_some hf
  refine u_calli0 (u_runV (rest := []) S (c_X10_noStone l D cy ad σ v1 r2 h2 aw ac H.size) iX10_noStone vX10_noStone q1273 ⟨Nat.le_of_ble_eq_true rfl, Nat.le_of_ble_eq_true rfl⟩ hK hP hD (q0 := 0) rfl rfl rfl hl.1 (Nat.le_of_ble_eq_true rfl) dX10_arched_2 ⟨Nat.le_refl _, Nat.le_refl _⟩) hD hS hA (fun H locs hP hD hS => ?_)
  refine lv_if_ne (tgt := 21) hx hb dX10_arched_5 (by decide) (fun c5 => ?_) (fun c5 => ?_)
  · have hf := ifn c5 hf
    refine lv_bipush (v := (-2 : Int32)) hx hb dX10_arched_21 (by decide) ?_
    exact u_iretw hx hb hr hlocks rfl hP hD hS dX10_arched_23 hf (fun _ => rfl)
  · have hf := ifp c5 hf
    refine lv_aload_n hx hb dX10_arched_8 rfl (lv_at hl 0 rfl) ?_
    refine lv_iload_n hx hb dX10_arched_9 rfl (lv_at hl 2 rfl) ?_
    obtain ⟨r10, h10, hf⟩ := ob_some hf
    refine u_calli0 (u_runV (rest := []) S (c_X10_noStone l D cy ad σ v2 r10 h10 aw ac H.size) iX10_noStone vX10_noStone q1273 ⟨Nat.le_of_ble_eq_true rfl, Nat.le_of_ble_eq_true rfl⟩ hK hP hD (q0 := 0) rfl rfl rfl hl.1 (Nat.le_of_ble_eq_true rfl) dX10_arched_10 ⟨Nat.le_refl _, Nat.le_refl _⟩) hD hS hA (fun H locs hP hD hS => ?_)
    refine lv_if_ne (tgt := 21) hx hb dX10_arched_13 (by decide) (fun c13 => ?_) (fun c13 => ?_)
    · have hf := ifn c13 hf
      refine lv_bipush (v := (-2 : Int32)) hx hb dX10_arched_21 (by decide) ?_
      exact u_iretw hx hb hr hlocks rfl hP hD hS dX10_arched_23 hf (fun _ => rfl)
    · have hf := ifp c13 hf
      refine lv_iload_n hx hb dX10_arched_16 rfl (lv_at hl 1 rfl) ?_
      refine lv_iload_n hx hb dX10_arched_17 rfl (lv_at hl 2 rfl) ?_
      refine lv_icmp_ne (tgt := 24) hx hb dX10_arched_18 (by decide) (fun c18 => ?_) (fun c18 => ?_)
      · have hf := ifn c18 hf
        refine lv_aload_n hx hb dX10_arched_24 rfl (lv_at hl 0 rfl) ?_
        refine gM_m_keys S hK hP q966 dX10_arched_25 ?_
        refine lv_iload_n hx hb dX10_arched_28 rfl (lv_at hl 1 rfl) ?_
        obtain ⟨h29, hf⟩ := if_in hf
        refine lM_12 S hK hP h29 dX10_arched_29 ?_
        refine lv_if_lt (tgt := 36) hx hb dX10_arched_30 (by decide) (fun c30 => ?_) (fun c30 => ?_)
        · have hf := ifp c30 hf
          refine lv_aload_n hx hb dX10_arched_36 rfl (lv_at hl 0 rfl) ?_
          refine gM_m_keys S hK hP q966 dX10_arched_37 ?_
          refine lv_iload_n hx hb dX10_arched_40 rfl (lv_at hl 1 rfl) ?_
          refine lv_iload_n hx hb dX10_arched_41 rfl (lv_at hl 2 rfl) ?_
          obtain ⟨h42, hf⟩ := if_in hf
          refine tM_12 S hK hP hD hS h42 dX10_arched_42 (fun H locs hP hD hS => ?_)
          refine lv_aload_n hx hb dX10_arched_43 rfl (lv_at hl 0 rfl) ?_
          refine lv_iconst (v := (0 : Int32)) hx hb dX10_arched_44 (by decide) ?_
          refine pM_m_isPlanned S hK hP hD hS rfl rfl q975 dX10_arched_45 (fun H locs hP hD hS => ?_)
          refine lv_iconst (v := (1 : Int32)) hx hb dX10_arched_48 (by decide) ?_
          exact u_iretw hx hb hr hlocks rfl hP hD hS dX10_arched_49 hf (fun _ => rfl)
        · have hf := ifn c30 hf
          refine lv_bipush (v := (-3 : Int32)) hx hb dX10_arched_33 (by decide) ?_
          exact u_iretw hx hb hr hlocks rfl hP hD hS dX10_arched_35 hf (fun _ => rfl)
      · have hf := ifp c18 hf
        refine lv_bipush (v := (-2 : Int32)) hx hb dX10_arched_21 (by decide) ?_
        exact u_iretw hx hb hr hlocks rfl hP hD hS dX10_arched_23 hf (fun _ => rfl)
theorem iX10_centrings : YI yX10_centrings cX10_centrings 3 (some .int) 1 := ⟨q1280, q12, by decide, by decide, by decide +kernel⟩
theorem vX10_centrings : YV yX10_centrings := ⟨q1278, q1279⟩
set_option maxRecDepth 100000 in
set_option maxHeartbeats 4000000 in
theorem c_X10_centrings (l : Launch) (D : va_G) (cy : Nat → ClassId) (ad : Nat → Nat) (σ : St) (v1 : Int32) (q : Int32 × St) (hf : fX10_centrings σ v1 = some q) : Ci l D cy (wM cy ad) yX10_centrings cX10_centrings 3 .int 1 25 [.ref (ad 0), .int v1] σ q.1 q.2 0 0 := by
  refine Ci.enter (by decide) (Nat.le_of_ble_eq_true rfl) ?_
  intro aw ac p e s m below meth c A H locs S hr hlocks hA hK hP hD hS ls hl
  have hx := S.1
  have hb := S.2.1
  have hl : lv_has ls 3 [(0, .ref (ad 0)), (1, .int v1)] := hl
  unfold fX10_centrings at hf
  refine lv_iload_n hx hb dX10_centrings_0 rfl (lv_at hl 1 rfl) ?_
  refine lv_i2l (v := (v1).toInt64) hx hb dX10_centrings_1 rfl ?_
  refine lv_lconst (v := (0 : Int64)) hx hb dX10_centrings_2 (by decide) ?_
  refine lv_ldc2 hx hb S.2.2.2.1 (S.2.2.2.2 _ (List.mem_cons_of_mem _ q1281)) dX10_centrings_3 ?_
  obtain ⟨r6, h6, hf⟩ := ob_some hf
  refine p_calli0 (u_runS (rest := []) S (c_X10_in l D cy σ ((v1).toInt64) (0 : Int64) (5 : Int64) r6 h6 aw ac H.size) iX10_in q1112 q1111 ⟨Nat.le_of_ble_eq_true rfl, Nat.le_of_ble_eq_true rfl⟩ hK wN_P (wN_D (A := fun _ => True)) rfl hl.1 (Nat.le_of_ble_eq_true rfl) dX10_centrings_6 ⟨Nat.le_refl _, Nat.le_refl _⟩) hP hS hA (fun H locs hP hS => ?_)
  refine lv_if_ne (tgt := 15) hx hb dX10_centrings_9 (by decide) (fun c9 => ?_) (fun c9 => ?_)
  · have hf := ifn c9 hf
    refine lv_aload_n hx hb dX10_centrings_15 rfl (lv_at hl 0 rfl) ?_
    refine gM_m_centrings S hK hP q967 dX10_centrings_16 ?_
    refine lv_istore_n (lv' := [(2, .int (gi σ 10)), (0, .ref (ad 0)), (1, .int v1)]) hx hb dX10_centrings_19 rfl hl (by decide) rfl (fun ls hl => ?_)
    refine lv_aload_n hx hb dX10_centrings_20 rfl (lv_at hl 1 rfl) ?_
    refine lv_iload_n hx hb dX10_centrings_21 rfl (lv_at hl 2 rfl) ?_
    refine pM_m_centrings S hK hP hD hS q967 dX10_centrings_22 (fun H locs hP hD hS => ?_)
    refine lv_aload_n hx hb dX10_centrings_25 rfl (lv_at hl 1 rfl) ?_
    refine lv_iconst (v := (0 : Int32)) hx hb dX10_centrings_26 (by decide) ?_
    refine pM_m_isPlanned S hK hP hD hS rfl rfl q975 dX10_centrings_27 (fun H locs hP hD hS => ?_)
    refine lv_iload_n hx hb dX10_centrings_30 rfl (lv_at hl 0 rfl) ?_
    exact u_iretw hx hb hr hlocks rfl hP hD hS dX10_centrings_31 hf (fun _ => rfl)
  · have hf := ifp c9 hf
    refine lv_bipush (v := (-2 : Int32)) hx hb dX10_centrings_12 (by decide) ?_
    exact u_iretw hx hb hr hlocks rfl hP hD hS dX10_centrings_14 hf (fun _ => rfl)
theorem iX10_noStand : YI yX10_noStand cX10_noStand 2 (some .boolean) 1 := ⟨q1294, q12, by decide, by decide, by decide +kernel⟩
theorem vX10_noStand : YV yX10_noStand := ⟨q1293, qs40⟩
set_option maxRecDepth 100000 in
set_option maxHeartbeats 4000000 in
theorem c_X10_noStand (l : Launch) (D : va_G) (cy : Nat → ClassId) (ad : Nat → Nat) (σ : St) (v1 : Int32) (r : Int32) (hf : fX10_noStand σ v1 = some r) : Ci l D cy (wM cy ad) yX10_noStand cX10_noStand 2 .boolean 1 25 [.ref (ad 0), .int v1] σ r σ 0 0 := by
  refine Ci.enter (by decide) (Nat.le_of_ble_eq_true rfl) ?_
  intro aw ac p e s m below meth c A H locs S hr hlocks hA hK hP hD hS ls hl
  have hx := S.1
  have hb := S.2.1
  have hl : lv_has ls 2 [(0, .ref (ad 0)), (1, .int v1)] := hl
  unfold fX10_noStand at hf
  refine lv_iload_n hx hb dX10_noStand_0 rfl (lv_at hl 1 rfl) ?_
  refine lv_i2l (v := (v1).toInt64) hx hb dX10_noStand_1 rfl ?_
  refine lv_lconst (v := (0 : Int64)) hx hb dX10_noStand_2 (by decide) ?_
  refine lv_aload_n hx hb dX10_noStand_3 rfl (lv_at hl 0 rfl) ?_
  refine gM_m_stands S hK hP q968 dX10_noStand_4 ?_
  refine lv_iconst (v := (1 : Int32)) hx hb dX10_noStand_7 (by decide) ?_
  refine lv_isub hx hb dX10_noStand_8 ?_
  refine lv_i2l (v := (((gi σ 11) - (1 : Int32))).toInt64) hx hb dX10_noStand_9 rfl ?_
  obtain ⟨r10, h10, hf⟩ := ob_some hf
  refine p_calli0 (u_runS (rest := []) S (c_X10_in l D cy σ ((v1).toInt64) (0 : Int64) ((((gi σ 11) - (1 : Int32))).toInt64) r10 h10 aw ac H.size) iX10_in q1112 q1111 ⟨Nat.le_of_ble_eq_true rfl, Nat.le_of_ble_eq_true rfl⟩ hK wN_P (wN_D (A := fun _ => True)) rfl hl.1 (Nat.le_of_ble_eq_true rfl) dX10_noStand_10 ⟨Nat.le_refl _, Nat.le_refl _⟩) hP hS hA (fun H locs hP hS => ?_)
  refine lv_if_ne (tgt := 20) hx hb dX10_noStand_13 (by decide) (fun c13 => ?_) (fun c13 => ?_)
  · have hf := ifn c13 hf
    refine lv_iconst (v := (0 : Int32)) hx hb dX10_noStand_20 (by decide) ?_
    exact u_iretr hx hb hr hlocks rfl hP hD hS dX10_noStand_21 hf (fun _ => rfl)
  · have hf := ifp c13 hf
    refine lv_iconst (v := (1 : Int32)) hx hb dX10_noStand_16 (by decide) ?_
    refine lv_goto (tgt := 21) hx hb dX10_noStand_17 (by decide) ?_
    exact u_iretr hx hb hr hlocks rfl hP hD hS dX10_noStand_21 hf (fun _ => rfl)
theorem iX10_stand : YI yX10_stand cX10_stand 4 (some .int) 3 := ⟨q1285, q12, by decide, by decide, by decide +kernel⟩
theorem vX10_stand : YV yX10_stand := ⟨q1283, q1284⟩
set_option maxRecDepth 100000 in
set_option maxHeartbeats 4000000 in
theorem c_X10_stand (l : Launch) (D : va_G) (cy : Nat → ClassId) (ad : Nat → Nat) (σ : St) (v1 : Int32) (v2 : Int32) (v3 : Int32) (q : Int32 × St) (hf : fX10_stand σ v1 v2 v3 = some q) : Ci l D cy (wM cy ad) yX10_stand cX10_stand 4 .int 1 25 [.ref (ad 0), .int v1, .int v2, .int v3] σ q.1 q.2 0 0 := by
  refine Ci.enter (by decide) (Nat.le_of_ble_eq_true rfl) ?_
  intro aw ac p e s m below meth c A H locs S hr hlocks hA hK hP hD hS ls hl
  have hx := S.1
  have hb := S.2.1
  have hl : lv_has ls 4 [(0, .ref (ad 0)), (1, .int v1), (2, .int v2), (3, .int v3)] := hl
  unfold fX10_stand at hf
  refine lv_iload_n hx hb dX10_stand_0 rfl (lv_at hl 1 rfl) ?_
  refine lv_i2l (v := (v1).toInt64) hx hb dX10_stand_1 rfl ?_
  refine lv_lconst (v := (0 : Int64)) hx hb dX10_stand_2 (by decide) ?_
  refine lv_ldc2 hx hb S.2.2.2.1 (S.2.2.2.2 _ (List.mem_cons_of_mem _ q1267)) dX10_stand_3 ?_
  obtain ⟨r6, h6, hf⟩ := ob_some hf
  refine p_calli0 (u_runS (rest := []) S (c_X10_in l D cy σ ((v1).toInt64) (0 : Int64) (30 : Int64) r6 h6 aw ac H.size) iX10_in q1112 q1111 ⟨Nat.le_of_ble_eq_true rfl, Nat.le_of_ble_eq_true rfl⟩ hK wN_P (wN_D (A := fun _ => True)) rfl hl.1 (Nat.le_of_ble_eq_true rfl) dX10_stand_6 ⟨Nat.le_refl _, Nat.le_refl _⟩) hP hS hA (fun H locs hP hS => ?_)
  refine lv_if_eq (tgt := 36) hx hb dX10_stand_9 (by decide) (fun c9 => ?_) (fun c9 => ?_)
  · have hf := ifp c9 hf
    refine lv_bipush (v := (-2 : Int32)) hx hb dX10_stand_36 (by decide) ?_
    exact u_iretw hx hb hr hlocks rfl hP hD hS dX10_stand_38 hf (fun _ => rfl)
  · have hf := ifn c9 hf
    refine lv_iload_n hx hb dX10_stand_12 rfl (lv_at hl 2 rfl) ?_
    refine lv_i2l (v := (v2).toInt64) hx hb dX10_stand_13 rfl ?_
    refine lv_lconst (v := (0 : Int64)) hx hb dX10_stand_14 (by decide) ?_
    refine lv_ldc2 hx hb S.2.2.2.1 (S.2.2.2.2 _ (List.mem_cons_of_mem _ q1268)) dX10_stand_15 ?_
    obtain ⟨r18, h18, hf⟩ := ob_some hf
    refine p_calli0 (u_runS (rest := []) S (c_X10_in l D cy σ ((v2).toInt64) (0 : Int64) (12 : Int64) r18 h18 aw ac H.size) iX10_in q1112 q1111 ⟨Nat.le_of_ble_eq_true rfl, Nat.le_of_ble_eq_true rfl⟩ hK wN_P (wN_D (A := fun _ => True)) rfl hl.1 (Nat.le_of_ble_eq_true rfl) dX10_stand_18 ⟨Nat.le_refl _, Nat.le_refl _⟩) hP hS hA (fun H locs hP hS => ?_)
    refine lv_if_eq (tgt := 36) hx hb dX10_stand_21 (by decide) (fun c21 => ?_) (fun c21 => ?_)
    · have hf := ifp c21 hf
      refine lv_bipush (v := (-2 : Int32)) hx hb dX10_stand_36 (by decide) ?_
      exact u_iretw hx hb hr hlocks rfl hP hD hS dX10_stand_38 hf (fun _ => rfl)
    · have hf := ifn c21 hf
      refine lv_iload_n hx hb dX10_stand_24 rfl (lv_at hl 3 rfl) ?_
      refine lv_i2l (v := (v3).toInt64) hx hb dX10_stand_25 rfl ?_
      refine lv_lconst (v := (0 : Int64)) hx hb dX10_stand_26 (by decide) ?_
      refine lv_ldc2 hx hb S.2.2.2.1 (S.2.2.2.2 _ (List.mem_cons_of_mem _ q1286)) dX10_stand_27 ?_
      obtain ⟨r30, h30, hf⟩ := ob_some hf
      refine p_calli0 (u_runS (rest := []) S (c_X10_in l D cy σ ((v3).toInt64) (0 : Int64) (16383 : Int64) r30 h30 aw ac H.size) iX10_in q1112 q1111 ⟨Nat.le_of_ble_eq_true rfl, Nat.le_of_ble_eq_true rfl⟩ hK wN_P (wN_D (A := fun _ => True)) rfl hl.1 (Nat.le_of_ble_eq_true rfl) dX10_stand_30 ⟨Nat.le_refl _, Nat.le_refl _⟩) hP hS hA (fun H locs hP hS => ?_)
      refine lv_if_ne (tgt := 39) hx hb dX10_stand_33 (by decide) (fun c33 => ?_) (fun c33 => ?_)
      · have hf := ifn c33 hf
        refine lv_aload_n hx hb dX10_stand_39 rfl (lv_at hl 0 rfl) ?_
        refine gM_m_stands S hK hP q968 dX10_stand_40 ?_
        refine lv_iconst (v := (5 : Int32)) hx hb dX10_stand_43 (by decide) ?_
        refine lv_icmp_ne (tgt := 50) hx hb dX10_stand_44 (by decide) (fun c44 => ?_) (fun c44 => ?_)
        · have hf := ifn c44 hf
          refine lv_aload_n hx hb dX10_stand_50 rfl (lv_at hl 0 rfl) ?_
          refine gM_m_standX S hK hP q969 dX10_stand_51 ?_
          refine lv_aload_n hx hb dX10_stand_54 rfl (lv_at hl 0 rfl) ?_
          refine gM_m_stands S hK hP q968 dX10_stand_55 ?_
          refine lv_iload_n hx hb dX10_stand_58 rfl (lv_at hl 1 rfl) ?_
          obtain ⟨h59, hf⟩ := if_in hf
          refine tM_13 S hK hP hD hS h59 dX10_stand_59 (fun H locs hP hD hS => ?_)
          refine lv_aload_n hx hb dX10_stand_60 rfl (lv_at hl 0 rfl) ?_
          refine gM_m_standZ S hK hP q970 dX10_stand_61 ?_
          refine lv_aload_n hx hb dX10_stand_64 rfl (lv_at hl 0 rfl) ?_
          refine gM_m_stands S hK hP q968 dX10_stand_65 ?_
          refine lv_iload_n hx hb dX10_stand_68 rfl (lv_at hl 2 rfl) ?_
          obtain ⟨h69, hf⟩ := if_in hf
          refine tM_14 S hK hP hD hS h69 dX10_stand_69 (fun H locs hP hD hS => ?_)
          refine lv_aload_n hx hb dX10_stand_70 rfl (lv_at hl 0 rfl) ?_
          refine gM_m_needs S hK hP q971 dX10_stand_71 ?_
          refine lv_aload_n hx hb dX10_stand_74 rfl (lv_at hl 0 rfl) ?_
          refine gM_m_stands S hK hP q968 dX10_stand_75 ?_
          refine lv_iload_n hx hb dX10_stand_78 rfl (lv_at hl 3 rfl) ?_
          obtain ⟨h79, hf⟩ := if_in hf
          refine tM_15 S hK hP hD hS h79 dX10_stand_79 (fun H locs hP hD hS => ?_)
          refine lv_aload_n hx hb dX10_stand_80 rfl (lv_at hl 0 rfl) ?_
          refine lv_dup hx hb dX10_stand_81 rfl ?_
          refine gM_m_stands S hK hP q968 dX10_stand_82 ?_
          refine lv_iconst (v := (1 : Int32)) hx hb dX10_stand_85 (by decide) ?_
          refine lv_iadd hx hb dX10_stand_86 ?_
          refine pM_m_stands S hK hP hD hS q968 dX10_stand_87 (fun H locs hP hD hS => ?_)
          refine lv_aload_n hx hb dX10_stand_90 rfl (lv_at hl 0 rfl) ?_
          refine lv_iconst (v := (0 : Int32)) hx hb dX10_stand_91 (by decide) ?_
          refine pM_m_isPlanned S hK hP hD hS rfl rfl q975 dX10_stand_92 (fun H locs hP hD hS => ?_)
          refine lv_aload_n hx hb dX10_stand_95 rfl (lv_at hl 0 rfl) ?_
          refine gM_m_stands S hK hP q968 dX10_stand_96 ?_
          refine lv_iconst (v := (1 : Int32)) hx hb dX10_stand_99 (by decide) ?_
          refine lv_isub hx hb dX10_stand_100 ?_
          exact u_iretw hx hb hr hlocks rfl hP hD hS dX10_stand_101 hf (fun _ => rfl)
        · have hf := ifp c44 hf
          refine lv_bipush (v := (-4 : Int32)) hx hb dX10_stand_47 (by decide) ?_
          exact u_iretw hx hb hr hlocks rfl hP hD hS dX10_stand_49 hf (fun _ => rfl)
      · have hf := ifp c33 hf
        refine lv_bipush (v := (-2 : Int32)) hx hb dX10_stand_36 (by decide) ?_
        exact u_iretw hx hb hr hlocks rfl hP hD hS dX10_stand_38 hf (fun _ => rfl)
theorem iX10_price : YI yX10_price cX10_price 5 (some .int) 3 := ⟨q1290, q12, by decide, by decide, by decide +kernel⟩
theorem vX10_price : YV yX10_price := ⟨q1288, q1289⟩
set_option maxRecDepth 100000 in
set_option maxHeartbeats 4000000 in
theorem c_X10_price (l : Launch) (D : va_G) (cy : Nat → ClassId) (ad : Nat → Nat) (σ : St) (v1 : Int32) (v2 : Int32) (v3 : Int32) (q : Int32 × St) (hf : fX10_price σ v1 v2 v3 = some q) : Ci l D cy (wM cy ad) yX10_price cX10_price 5 .int 2 46 [.ref (ad 0), .int v1, .int v2, .int v3] σ q.1 q.2 0 0 := by
  refine Ci.enter (by decide) (Nat.le_of_ble_eq_true rfl) ?_
  intro aw ac p e s m below meth c A H locs S hr hlocks hA hK hP hD hS ls hl
  have hx := S.1
  have hb := S.2.1
  have hl : lv_has ls 5 [(0, .ref (ad 0)), (1, .int v1), (2, .int v2), (3, .int v3)] := hl
  unfold fX10_price at hf
  refine lv_aload_n hx hb dX10_price_0 rfl (lv_at hl 0 rfl) ?_
  refine lv_iload_n hx hb dX10_price_1 rfl (lv_at hl 1 rfl) ?_
  obtain ⟨r2, h2, hf⟩ := ob_some hf
  refine u_calli0 (u_runV (rest := []) S (c_X10_noStand l D cy ad σ v1 r2 h2 aw ac H.size) iX10_noStand vX10_noStand q1291 ⟨Nat.le_of_ble_eq_true rfl, Nat.le_of_ble_eq_true rfl⟩ hK hP hD (q0 := 0) rfl rfl rfl hl.1 (Nat.le_of_ble_eq_true rfl) dX10_price_2 ⟨Nat.le_refl _, Nat.le_refl _⟩) hD hS hA (fun H locs hP hD hS => ?_)
  refine lv_if_ne (tgt := 33) hx hb dX10_price_5 (by decide) (fun c5 => ?_) (fun c5 => ?_)
  · have hf := ifn c5 hf
    refine lv_bipush (v := (-2 : Int32)) hx hb dX10_price_33 (by decide) ?_
    exact u_iretw hx hb hr hlocks rfl hP hD hS dX10_price_35 hf (fun _ => rfl)
  · have hf := ifp c5 hf
    refine lv_aload_n hx hb dX10_price_8 rfl (lv_at hl 0 rfl) ?_
    refine lv_iload_n hx hb dX10_price_9 rfl (lv_at hl 2 rfl) ?_
    obtain ⟨r10, h10, hf⟩ := ob_some hf
    refine u_calli0 (u_runV (rest := []) S (c_X10_noStand l D cy ad σ v2 r10 h10 aw ac H.size) iX10_noStand vX10_noStand q1291 ⟨Nat.le_of_ble_eq_true rfl, Nat.le_of_ble_eq_true rfl⟩ hK hP hD (q0 := 0) rfl rfl rfl hl.1 (Nat.le_of_ble_eq_true rfl) dX10_price_10 ⟨Nat.le_refl _, Nat.le_refl _⟩) hD hS hA (fun H locs hP hD hS => ?_)
    refine lv_if_ne (tgt := 33) hx hb dX10_price_13 (by decide) (fun c13 => ?_) (fun c13 => ?_)
    · have hf := ifn c13 hf
      refine lv_bipush (v := (-2 : Int32)) hx hb dX10_price_33 (by decide) ?_
      exact u_iretw hx hb hr hlocks rfl hP hD hS dX10_price_35 hf (fun _ => rfl)
    · have hf := ifp c13 hf
      refine lv_iload_n hx hb dX10_price_16 rfl (lv_at hl 1 rfl) ?_
      refine lv_iload_n hx hb dX10_price_17 rfl (lv_at hl 2 rfl) ?_
      refine lv_icmp_eq (tgt := 33) hx hb dX10_price_18 (by decide) (fun c18 => ?_) (fun c18 => ?_)
      · have hf := ifp c18 hf
        refine lv_bipush (v := (-2 : Int32)) hx hb dX10_price_33 (by decide) ?_
        exact u_iretw hx hb hr hlocks rfl hP hD hS dX10_price_35 hf (fun _ => rfl)
      · have hf := ifn c18 hf
        refine lv_iload_n hx hb dX10_price_21 rfl (lv_at hl 3 rfl) ?_
        refine lv_i2l (v := (v3).toInt64) hx hb dX10_price_22 rfl ?_
        refine lv_lconst (v := (1 : Int64)) hx hb dX10_price_23 (by decide) ?_
        refine lv_ldc2 hx hb S.2.2.2.1 (S.2.2.2.2 _ (List.mem_cons_of_mem _ q1109)) dX10_price_24 ?_
        obtain ⟨r27, h27, hf⟩ := ob_some hf
        refine p_calli0 (u_runS (rest := []) S (c_X10_in l D cy σ ((v3).toInt64) (1 : Int64) (100 : Int64) r27 h27 aw ac H.size) iX10_in q1112 q1111 ⟨Nat.le_of_ble_eq_true rfl, Nat.le_of_ble_eq_true rfl⟩ hK wN_P (wN_D (A := fun _ => True)) rfl hl.1 (Nat.le_of_ble_eq_true rfl) dX10_price_27 ⟨Nat.le_refl _, Nat.le_refl _⟩) hP hS hA (fun H locs hP hS => ?_)
        refine lv_if_ne (tgt := 36) hx hb dX10_price_30 (by decide) (fun c30 => ?_) (fun c30 => ?_)
        · have hf := ifn c30 hf
          refine lv_aload_n hx hb dX10_price_36 rfl (lv_at hl 0 rfl) ?_
          refine gM_m_prices S hK hP q972 dX10_price_37 ?_
          refine lv_iconst (v := (5 : Int32)) hx hb dX10_price_40 (by decide) ?_
          refine lv_iload_n hx hb dX10_price_41 rfl (lv_at hl 1 rfl) ?_
          refine lv_imul hx hb dX10_price_42 ?_
          refine lv_iload_n hx hb dX10_price_43 rfl (lv_at hl 2 rfl) ?_
          refine lv_iadd hx hb dX10_price_44 ?_
          obtain ⟨h45, hf⟩ := if_in hf
          refine lM_16 S hK hP h45 dX10_price_45 ?_
          refine lv_istore (lv' := [(4, .int (ga σ 16 (((5 : Int32) * v1) + v2).toNatClampNeg)), (0, .ref (ad 0)), (1, .int v1), (2, .int v2), (3, .int v3)]) hx hb dX10_price_46 hl (by decide) rfl (fun ls hl => ?_)
          refine lv_aload_n hx hb dX10_price_48 rfl (lv_at hl 1 rfl) ?_
          refine gM_m_prices S hK hP q972 dX10_price_49 ?_
          refine lv_iconst (v := (5 : Int32)) hx hb dX10_price_52 (by decide) ?_
          refine lv_iload_n hx hb dX10_price_53 rfl (lv_at hl 2 rfl) ?_
          refine lv_imul hx hb dX10_price_54 ?_
          refine lv_iload_n hx hb dX10_price_55 rfl (lv_at hl 3 rfl) ?_
          refine lv_iadd hx hb dX10_price_56 ?_
          refine lv_iload_n hx hb dX10_price_57 rfl (lv_at hl 4 rfl) ?_
          obtain ⟨h58, hf⟩ := if_in hf
          refine tM_16 S hK hP hD hS h58 dX10_price_58 (fun H locs hP hD hS => ?_)
          refine lv_aload_n hx hb dX10_price_59 rfl (lv_at hl 1 rfl) ?_
          refine gM_m_prices S hK hP q972 dX10_price_60 ?_
          refine lv_iconst (v := (5 : Int32)) hx hb dX10_price_63 (by decide) ?_
          refine lv_iload_n hx hb dX10_price_64 rfl (lv_at hl 3 rfl) ?_
          refine lv_imul hx hb dX10_price_65 ?_
          refine lv_iload_n hx hb dX10_price_66 rfl (lv_at hl 2 rfl) ?_
          refine lv_iadd hx hb dX10_price_67 ?_
          refine lv_iload_n hx hb dX10_price_68 rfl (lv_at hl 4 rfl) ?_
          obtain ⟨h69, hf⟩ := if_in hf
          refine tM_16 S hK hP hD hS h69 dX10_price_69 (fun H locs hP hD hS => ?_)
          refine lv_aload_n hx hb dX10_price_70 rfl (lv_at hl 1 rfl) ?_
          refine lv_iconst (v := (0 : Int32)) hx hb dX10_price_71 (by decide) ?_
          refine pM_m_isPlanned S hK hP hD hS rfl rfl q975 dX10_price_72 (fun H locs hP hD hS => ?_)
          refine lv_iload hx hb dX10_price_75 (lv_at hl 0 rfl) ?_
          exact u_iretw hx hb hr hlocks rfl hP hD hS dX10_price_77 hf (fun _ => rfl)
        · have hf := ifp c30 hf
          refine lv_bipush (v := (-2 : Int32)) hx hb dX10_price_33 (by decide) ?_
          exact u_iretw hx hb hr hlocks rfl hP hD hS dX10_price_35 hf (fun _ => rfl)
theorem iX10_reach : YI yX10_reach cX10_reach 3 (some .int) 2 := ⟨q1298, q12, by decide, by decide, by decide +kernel⟩
theorem vX10_reach : YV yX10_reach := ⟨q1296, q1297⟩
set_option maxRecDepth 100000 in
set_option maxHeartbeats 4000000 in
theorem c_X10_reach (l : Launch) (D : va_G) (cy : Nat → ClassId) (ad : Nat → Nat) (σ : St) (v1 : Int32) (v2 : Int32) (q : Int32 × St) (hf : fX10_reach σ v1 v2 = some q) : Ci l D cy (wM cy ad) yX10_reach cX10_reach 3 .int 1 25 [.ref (ad 0), .int v1, .int v2] σ q.1 q.2 0 0 := by
  refine Ci.enter (by decide) (Nat.le_of_ble_eq_true rfl) ?_
  intro aw ac p e s m below meth c A H locs S hr hlocks hA hK hP hD hS ls hl
  have hx := S.1
  have hb := S.2.1
  have hl : lv_has ls 3 [(0, .ref (ad 0)), (1, .int v1), (2, .int v2)] := hl
  unfold fX10_reach at hf
  refine lv_iload_n hx hb dX10_reach_0 rfl (lv_at hl 1 rfl) ?_
  refine lv_i2l (v := (v1).toInt64) hx hb dX10_reach_1 rfl ?_
  refine lv_lconst (v := (1 : Int64)) hx hb dX10_reach_2 (by decide) ?_
  refine lv_ldc2 hx hb S.2.2.2.1 (S.2.2.2.2 _ (List.mem_cons_of_mem _ q1267)) dX10_reach_3 ?_
  obtain ⟨r6, h6, hf⟩ := ob_some hf
  refine p_calli0 (u_runS (rest := []) S (c_X10_in l D cy σ ((v1).toInt64) (1 : Int64) (30 : Int64) r6 h6 aw ac H.size) iX10_in q1112 q1111 ⟨Nat.le_of_ble_eq_true rfl, Nat.le_of_ble_eq_true rfl⟩ hK wN_P (wN_D (A := fun _ => True)) rfl hl.1 (Nat.le_of_ble_eq_true rfl) dX10_reach_6 ⟨Nat.le_refl _, Nat.le_refl _⟩) hP hS hA (fun H locs hP hS => ?_)
  refine lv_if_eq (tgt := 24) hx hb dX10_reach_9 (by decide) (fun c9 => ?_) (fun c9 => ?_)
  · have hf := ifp c9 hf
    refine lv_bipush (v := (-2 : Int32)) hx hb dX10_reach_24 (by decide) ?_
    exact u_iretw hx hb hr hlocks rfl hP hD hS dX10_reach_26 hf (fun _ => rfl)
  · have hf := ifn c9 hf
    refine lv_iload_n hx hb dX10_reach_12 rfl (lv_at hl 2 rfl) ?_
    refine lv_i2l (v := (v2).toInt64) hx hb dX10_reach_13 rfl ?_
    refine lv_lconst (v := (1 : Int64)) hx hb dX10_reach_14 (by decide) ?_
    refine lv_ldc2 hx hb S.2.2.2.1 (S.2.2.2.2 _ (List.mem_cons_of_mem _ q1268)) dX10_reach_15 ?_
    obtain ⟨r18, h18, hf⟩ := ob_some hf
    refine p_calli0 (u_runS (rest := []) S (c_X10_in l D cy σ ((v2).toInt64) (1 : Int64) (12 : Int64) r18 h18 aw ac H.size) iX10_in q1112 q1111 ⟨Nat.le_of_ble_eq_true rfl, Nat.le_of_ble_eq_true rfl⟩ hK wN_P (wN_D (A := fun _ => True)) rfl hl.1 (Nat.le_of_ble_eq_true rfl) dX10_reach_18 ⟨Nat.le_refl _, Nat.le_refl _⟩) hP hS hA (fun H locs hP hS => ?_)
    refine lv_if_ne (tgt := 27) hx hb dX10_reach_21 (by decide) (fun c21 => ?_) (fun c21 => ?_)
    · have hf := ifn c21 hf
      refine lv_aload_n hx hb dX10_reach_27 rfl (lv_at hl 0 rfl) ?_
      refine lv_iload_n hx hb dX10_reach_28 rfl (lv_at hl 1 rfl) ?_
      refine pM_m_wide S hK hP hD hS q973 dX10_reach_29 (fun H locs hP hD hS => ?_)
      refine lv_aload_n hx hb dX10_reach_32 rfl (lv_at hl 0 rfl) ?_
      refine lv_iload_n hx hb dX10_reach_33 rfl (lv_at hl 2 rfl) ?_
      refine pM_m_high S hK hP hD hS q974 dX10_reach_34 (fun H locs hP hD hS => ?_)
      refine lv_aload_n hx hb dX10_reach_37 rfl (lv_at hl 0 rfl) ?_
      refine lv_iconst (v := (0 : Int32)) hx hb dX10_reach_38 (by decide) ?_
      refine pM_m_isPlanned S hK hP hD hS rfl rfl q975 dX10_reach_39 (fun H locs hP hD hS => ?_)
      refine lv_iconst (v := (1 : Int32)) hx hb dX10_reach_42 (by decide) ?_
      exact u_iretw hx hb hr hlocks rfl hP hD hS dX10_reach_43 hf (fun _ => rfl)
    · have hf := ifp c21 hf
      refine lv_bipush (v := (-2 : Int32)) hx hb dX10_reach_24 (by decide) ?_
      exact u_iretw hx hb hr hlocks rfl hP hD hS dX10_reach_26 hf (fun _ => rfl)
theorem iX10_reachesOf : YI yX10_reachesOf cX10_reachesOf 3 (some .boolean) 2 := ⟨q1306, q12, by decide, by decide, by decide +kernel⟩
theorem vX10_reachesOf : YV yX10_reachesOf := ⟨q1305, qs41⟩
set_option maxRecDepth 100000 in
set_option maxHeartbeats 4000000 in
theorem c_X10_reachesOf (l : Launch) (D : va_G) (cy : Nat → ClassId) (ad : Nat → Nat) (σ : St) (v1 : Int32) (v2 : Int32) (r : Int32) (hf : fX10_reachesOf σ v1 v2 = some r) : Ci l D cy (wM cy ad) yX10_reachesOf cX10_reachesOf 3 .boolean 1 25 [.ref (ad 0), .int v1, .int v2] σ r σ 0 0 := by
  refine Ci.enter (by decide) (Nat.le_of_ble_eq_true rfl) ?_
  intro aw ac p e s m below meth c A H locs S hr hlocks hA hK hP hD hS ls hl
  have hx := S.1
  have hb := S.2.1
  have hl : lv_has ls 3 [(0, .ref (ad 0)), (1, .int v1), (2, .int v2)] := hl
  unfold fX10_reachesOf at hf
  refine lv_aload_n hx hb dX10_reachesOf_0 rfl (lv_at hl 0 rfl) ?_
  refine gM_m_stoneX S hK hP q962 dX10_reachesOf_1 ?_
  refine lv_iload_n hx hb dX10_reachesOf_4 rfl (lv_at hl 2 rfl) ?_
  obtain ⟨h5, hf⟩ := if_in hf
  refine lM_8 S hK hP h5 dX10_reachesOf_5 ?_
  refine lv_i2l (v := ((ga σ 8 v2.toNatClampNeg)).toInt64) hx hb dX10_reachesOf_6 rfl ?_
  refine lv_aload_n hx hb dX10_reachesOf_7 rfl (lv_at hl 0 rfl) ?_
  refine gM_m_standX S hK hP q969 dX10_reachesOf_8 ?_
  refine lv_iload_n hx hb dX10_reachesOf_11 rfl (lv_at hl 1 rfl) ?_
  obtain ⟨h12, hf⟩ := if_in hf
  refine lM_13 S hK hP h12 dX10_reachesOf_12 ?_
  refine lv_aload_n hx hb dX10_reachesOf_13 rfl (lv_at hl 0 rfl) ?_
  refine gM_m_wide S hK hP q973 dX10_reachesOf_14 ?_
  refine lv_isub hx hb dX10_reachesOf_17 ?_
  refine lv_i2l (v := (((ga σ 13 v1.toNatClampNeg) - (gi σ 12))).toInt64) hx hb dX10_reachesOf_18 rfl ?_
  refine lv_aload_n hx hb dX10_reachesOf_19 rfl (lv_at hl 0 rfl) ?_
  refine gM_m_standX S hK hP q969 dX10_reachesOf_20 ?_
  refine lv_iload_n hx hb dX10_reachesOf_23 rfl (lv_at hl 1 rfl) ?_
  obtain ⟨h24, hf⟩ := if_in hf
  refine lM_13 S hK hP h24 dX10_reachesOf_24 ?_
  refine lv_aload_n hx hb dX10_reachesOf_25 rfl (lv_at hl 0 rfl) ?_
  refine gM_m_wide S hK hP q973 dX10_reachesOf_26 ?_
  refine lv_iadd hx hb dX10_reachesOf_29 ?_
  refine lv_i2l (v := (((ga σ 13 v1.toNatClampNeg) + (gi σ 12))).toInt64) hx hb dX10_reachesOf_30 rfl ?_
  obtain ⟨r31, h31, hf⟩ := ob_some hf
  refine p_calli0 (u_runS (rest := []) S (c_X10_in l D cy σ (((ga σ 8 v2.toNatClampNeg)).toInt64) ((((ga σ 13 v1.toNatClampNeg) - (gi σ 12))).toInt64) ((((ga σ 13 v1.toNatClampNeg) + (gi σ 12))).toInt64) r31 h31 aw ac H.size) iX10_in q1112 q1111 ⟨Nat.le_of_ble_eq_true rfl, Nat.le_of_ble_eq_true rfl⟩ hK wN_P (wN_D (A := fun _ => True)) rfl hl.1 (Nat.le_of_ble_eq_true rfl) dX10_reachesOf_31 ⟨Nat.le_refl _, Nat.le_refl _⟩) hP hS hA (fun H locs hP hS => ?_)
  refine lv_if_eq (tgt := 61) hx hb dX10_reachesOf_34 (by decide) (fun c34 => ?_) (fun c34 => ?_)
  · have hf := ifp c34 hf
    refine lv_iconst (v := (0 : Int32)) hx hb dX10_reachesOf_61 (by decide) ?_
    exact u_iretr hx hb hr hlocks rfl hP hD hS dX10_reachesOf_62 hf (fun _ => rfl)
  · have hf := ifn c34 hf
    refine lv_aload_n hx hb dX10_reachesOf_37 rfl (lv_at hl 0 rfl) ?_
    refine gM_m_stoneZ S hK hP q963 dX10_reachesOf_38 ?_
    refine lv_iload_n hx hb dX10_reachesOf_41 rfl (lv_at hl 2 rfl) ?_
    obtain ⟨h42, hf⟩ := if_in hf
    refine lM_9 S hK hP h42 dX10_reachesOf_42 ?_
    refine lv_aload_n hx hb dX10_reachesOf_43 rfl (lv_at hl 0 rfl) ?_
    refine gM_m_standZ S hK hP q970 dX10_reachesOf_44 ?_
    refine lv_iload_n hx hb dX10_reachesOf_47 rfl (lv_at hl 1 rfl) ?_
    obtain ⟨h48, hf⟩ := if_in hf
    refine lM_14 S hK hP h48 dX10_reachesOf_48 ?_
    refine lv_aload_n hx hb dX10_reachesOf_49 rfl (lv_at hl 0 rfl) ?_
    refine gM_m_high S hK hP q974 dX10_reachesOf_50 ?_
    refine lv_iadd hx hb dX10_reachesOf_53 ?_
    refine lv_icmp_gt (tgt := 61) hx hb dX10_reachesOf_54 (by decide) (fun c54 => ?_) (fun c54 => ?_)
    · have hf := ifp c54 hf
      refine lv_iconst (v := (0 : Int32)) hx hb dX10_reachesOf_61 (by decide) ?_
      exact u_iretr hx hb hr hlocks rfl hP hD hS dX10_reachesOf_62 hf (fun _ => rfl)
    · have hf := ifn c54 hf
      refine lv_iconst (v := (1 : Int32)) hx hb dX10_reachesOf_57 (by decide) ?_
      refine lv_goto (tgt := 62) hx hb dX10_reachesOf_58 (by decide) ?_
      exact u_iretr hx hb hr hlocks rfl hP hD hS dX10_reachesOf_62 hf (fun _ => rfl)
theorem iX10_reaches : YI yX10_reaches cX10_reaches 3 (some .int) 2 := ⟨q1302, q12, by decide, by decide, by decide +kernel⟩
theorem vX10_reaches : YV yX10_reaches := ⟨q1300, q1301⟩
set_option maxRecDepth 100000 in
set_option maxHeartbeats 4000000 in
theorem c_X10_reaches (l : Launch) (D : va_G) (cy : Nat → ClassId) (ad : Nat → Nat) (σ : St) (v1 : Int32) (v2 : Int32) (r : Int32) (hf : fX10_reaches σ v1 v2 = some r) : Ci l D cy (wM cy ad) yX10_reaches cX10_reaches 3 .int 2 47 [.ref (ad 0), .int v1, .int v2] σ r σ 0 0 := by
  refine Ci.enter (by decide) (Nat.le_of_ble_eq_true rfl) ?_
  intro aw ac p e s m below meth c A H locs S hr hlocks hA hK hP hD hS ls hl
  have hx := S.1
  have hb := S.2.1
  have hl : lv_has ls 3 [(0, .ref (ad 0)), (1, .int v1), (2, .int v2)] := hl
  unfold fX10_reaches at hf
  refine lv_aload_n hx hb dX10_reaches_0 rfl (lv_at hl 0 rfl) ?_
  refine lv_iload_n hx hb dX10_reaches_1 rfl (lv_at hl 1 rfl) ?_
  obtain ⟨r2, h2, hf⟩ := ob_some hf
  refine u_calli0 (u_runV (rest := []) S (c_X10_noStand l D cy ad σ v1 r2 h2 aw ac H.size) iX10_noStand vX10_noStand q1291 ⟨Nat.le_of_ble_eq_true rfl, Nat.le_of_ble_eq_true rfl⟩ hK hP hD (q0 := 0) rfl rfl rfl hl.1 (Nat.le_of_ble_eq_true rfl) dX10_reaches_2 ⟨Nat.le_refl _, Nat.le_refl _⟩) hD hS hA (fun H locs hP hD hS => ?_)
  refine lv_if_ne (tgt := 16) hx hb dX10_reaches_5 (by decide) (fun c5 => ?_) (fun c5 => ?_)
  · have hf := ifn c5 hf
    refine lv_bipush (v := (-2 : Int32)) hx hb dX10_reaches_16 (by decide) ?_
    refine lv_goto (tgt := 30) hx hb dX10_reaches_18 (by decide) ?_
    exact u_iretr hx hb hr hlocks rfl hP hD hS dX10_reaches_30 hf (fun _ => rfl)
  · have hf := ifp c5 hf
    refine lv_aload_n hx hb dX10_reaches_8 rfl (lv_at hl 0 rfl) ?_
    refine lv_iload_n hx hb dX10_reaches_9 rfl (lv_at hl 2 rfl) ?_
    obtain ⟨r10, h10, hf⟩ := ob_some hf
    refine u_calli0 (u_runV (rest := []) S (c_X10_noStone l D cy ad σ v2 r10 h10 aw ac H.size) iX10_noStone vX10_noStone q1273 ⟨Nat.le_of_ble_eq_true rfl, Nat.le_of_ble_eq_true rfl⟩ hK hP hD (q0 := 0) rfl rfl rfl hl.1 (Nat.le_of_ble_eq_true rfl) dX10_reaches_10 ⟨Nat.le_refl _, Nat.le_refl _⟩) hD hS hA (fun H locs hP hD hS => ?_)
    refine lv_if_eq (tgt := 21) hx hb dX10_reaches_13 (by decide) (fun c13 => ?_) (fun c13 => ?_)
    · have hf := ifp c13 hf
      refine lv_aload_n hx hb dX10_reaches_21 rfl (lv_at hl 0 rfl) ?_
      refine lv_iload_n hx hb dX10_reaches_22 rfl (lv_at hl 1 rfl) ?_
      refine lv_iload_n hx hb dX10_reaches_23 rfl (lv_at hl 2 rfl) ?_
      obtain ⟨r24, h24, hf⟩ := ob_some hf
      refine u_calli0 (u_runV (rest := []) S (c_X10_reachesOf l D cy ad σ v1 v2 r24 h24 aw ac H.size) iX10_reachesOf vX10_reachesOf q1303 ⟨Nat.le_of_ble_eq_true rfl, Nat.le_of_ble_eq_true rfl⟩ hK hP hD (q0 := 0) rfl rfl rfl hl.1 (Nat.le_of_ble_eq_true rfl) dX10_reaches_24 ⟨Nat.le_refl _, Nat.le_refl _⟩) hD hS hA (fun H locs hP hD hS => ?_)
      obtain ⟨r27, h27, hf⟩ := ob_some hf
      refine p_calli0 (u_runS (rest := []) S (c_X10_bit l D cy σ r24 r27 h27 aw ac H.size) iX10_bit q1237 q1236 ⟨Nat.le_of_ble_eq_true rfl, Nat.le_of_ble_eq_true rfl⟩ hK wN_P (wN_D (A := fun _ => True)) rfl hl.1 (Nat.le_of_ble_eq_true rfl) dX10_reaches_27 ⟨Nat.le_refl _, Nat.le_refl _⟩) hP hS hA (fun H locs hP hS => ?_)
      exact u_iretr hx hb hr hlocks rfl hP hD hS dX10_reaches_30 hf (fun _ => rfl)
    · have hf := ifn c13 hf
      refine lv_bipush (v := (-2 : Int32)) hx hb dX10_reaches_16 (by decide) ?_
      refine lv_goto (tgt := 30) hx hb dX10_reaches_18 (by decide) ?_
      exact u_iretr hx hb hr hlocks rfl hP hD hS dX10_reaches_30 hf (fun _ => rfl)
theorem iX10_mayOf : YI yX10_mayOf cX10_mayOf 6 (some .boolean) 2 := ⟨q1314, q12, by decide, by decide, by decide +kernel⟩
theorem vX10_mayOf : YV yX10_mayOf := ⟨q1313, qs42⟩
set_option maxRecDepth 100000 in
set_option maxHeartbeats 4000000 in
theorem c_X10_mayOf (l : Launch) (D : va_G) (cy : Nat → ClassId) (ad : Nat → Nat) (σ : St) (v1 : Int32) (v2 : Int32) (r : Int32) (hf : fX10_mayOf σ v1 v2 = some r) : Ci l D cy (wM cy ad) yX10_mayOf cX10_mayOf 6 .boolean 1 22 [.ref (ad 0), .int v1, .int v2] σ r σ 0 0 := by
  refine Ci.enter (by decide) (Nat.le_of_ble_eq_true rfl) ?_
  intro aw ac p e s m below meth c A H locs S hr hlocks hA hK hP hD hS ls hl
  have hx := S.1
  have hb := S.2.1
  have hl : lv_has ls 6 [(0, .ref (ad 0)), (1, .int v1), (2, .int v2)] := hl
  unfold fX10_mayOf at hf
  refine lv_iload_n hx hb dX10_mayOf_0 rfl (lv_at hl 1 rfl) ?_
  refine lv_iload_n hx hb dX10_mayOf_1 rfl (lv_at hl 2 rfl) ?_
  refine lv_ishr hx hb dX10_mayOf_2 ?_
  refine lv_iconst (v := (1 : Int32)) hx hb dX10_mayOf_3 (by decide) ?_
  refine lv_iand hx hb dX10_mayOf_4 ?_
  refine lv_iconst (v := (1 : Int32)) hx hb dX10_mayOf_5 (by decide) ?_
  refine lv_icmp_eq (tgt := 22) hx hb dX10_mayOf_6 (by decide) (fun c6 => ?_) (fun c6 => ?_)
  · have hf := ifp c6 hf
    refine lv_iconst (v := (0 : Int32)) hx hb dX10_mayOf_22 (by decide) ?_
    exact u_iretr hx hb hr hlocks rfl hP hD hS dX10_mayOf_23 hf (fun _ => rfl)
  · have hf := ifn c6 hf
    refine lv_aload_n hx hb dX10_mayOf_9 rfl (lv_at hl 0 rfl) ?_
    refine gM_m_rests S hK hP q965 dX10_mayOf_10 ?_
    refine lv_iload_n hx hb dX10_mayOf_13 rfl (lv_at hl 2 rfl) ?_
    obtain ⟨h14, hf⟩ := if_in hf
    refine lM_11 S hK hP h14 dX10_mayOf_14 ?_
    refine lv_iload_n hx hb dX10_mayOf_15 rfl (lv_at hl 1 rfl) ?_
    refine lv_iconst (v := (-1 : Int32)) hx hb dX10_mayOf_16 (by decide) ?_
    refine lv_ixor hx hb dX10_mayOf_17 ?_
    refine lv_iand hx hb dX10_mayOf_18 ?_
    refine lv_if_eq (tgt := 24) hx hb dX10_mayOf_19 (by decide) (fun c19 => ?_) (fun c19 => ?_)
    · have hf := ifp c19 hf
      refine lv_iload_n hx hb dX10_mayOf_24 rfl (lv_at hl 1 rfl) ?_
      refine lv_iconst (v := (1 : Int32)) hx hb dX10_mayOf_25 (by decide) ?_
      refine lv_iload_n hx hb dX10_mayOf_26 rfl (lv_at hl 2 rfl) ?_
      refine lv_ishl hx hb dX10_mayOf_27 ?_
      refine lv_ior hx hb dX10_mayOf_28 ?_
      refine lv_istore_n (lv' := [(3, .int (v1 ||| ((1 : Int32) <<< (v2 &&& 31)))), (0, .ref (ad 0)), (1, .int v1), (2, .int v2)]) hx hb dX10_mayOf_29 rfl hl (by decide) rfl (fun ls hl => ?_)
      refine lv_iconst (v := (0 : Int32)) hx hb dX10_mayOf_30 (by decide) ?_
      refine lv_istore (lv' := [(4, .int (0 : Int32)), (3, .int (v1 ||| ((1 : Int32) <<< (v2 &&& 31)))), (0, .ref (ad 0)), (1, .int v1), (2, .int v2)]) hx hb dX10_mayOf_31 hl (by decide) rfl (fun ls hl => ?_)
      refine lv_iconst (v := (0 : Int32)) hx hb dX10_mayOf_33 (by decide) ?_
      refine lv_istore (lv' := [(5, .int (0 : Int32)), (4, .int (0 : Int32)), (3, .int (v1 ||| ((1 : Int32) <<< (v2 &&& 31)))), (0, .ref (ad 0)), (1, .int v1), (2, .int v2)]) hx hb dX10_mayOf_34 hl (by decide) rfl (fun ls hl => ?_)
      have L36 : ∀ (n36 : Nat) (v3_36 : Int32) (v4_36 : Int32) (v5_36 : Int32) (H : Heap) (locs : List Loc) (ls : Array Slot), fX10_mayOf_36 (fX10_mayOf_36_k σ v1 v2 v3_36) σ v1 v2 v3_36 n36 v4_36 v5_36 = some r → va_P D vwCl (wM cy ad aw ac σ) H → va_D A (wM cy ad aw ac σ) → va_S A s.heap H locs → lv_has ls 6 [(0, .ref (ad 0)), (1, .int v1), (2, .int v2), (3, .int v3_36), (4, .int v4_36), (5, .int v5_36)] → W p l e (Rm 1 22 0 0) s m [.ref (ad 0), .int v1, .int v2].toArray below meth c H locs 0 0 (Zi D (wM cy ad) A r σ aw ac below [.ref (ad 0), .int v1, .int v2].toArray s 0 0) (F0 m 36 ls []) := by
        intro n36
        induction n36 with
        | zero =>
          intro v3_36 v4_36 v5_36 H locs ls hf
          cases hf
        | succ n36 ih36 =>
          intro v3_36 v4_36 v5_36 H locs ls hf hP hD hS hl
          rw [fX10_mayOf_36] at hf
          refine lv_iload hx hb dX10_mayOf_36 (lv_at hl 5 rfl) ?_
          refine lv_aload_n hx hb dX10_mayOf_38 rfl (lv_at hl 0 rfl) ?_
          refine gM_m_stones S hK hP q961 dX10_mayOf_39 ?_
          refine lv_icmp_ge (tgt := 99) hx hb dX10_mayOf_42 (by decide) (fun c42 => ?_) (fun c42 => ?_)
          · have hf := ifp c42 hf
            have hl := lv_sub (l' := [(0, .ref (ad 0)), (1, .int v1), (2, .int v2), (3, .int v3_36), (4, .int v4_36), (5, .int v5_36)]) hl [0, 1, 2, 3, 4, 5] rfl
            unfold fX10_mayOf_36_k at hf
            refine lv_iload hx hb dX10_mayOf_99 (lv_at hl 4 rfl) ?_
            obtain ⟨r101, h101, hf⟩ := ob_some hf
            refine p_calli0 (u_runS (rest := []) S (c_X10_ones l D cy σ v4_36 r101 h101 aw ac H.size) iX10_ones q1194 q1193 ⟨Nat.le_of_ble_eq_true rfl, Nat.le_of_ble_eq_true rfl⟩ hK wN_P (wN_D (A := fun _ => True)) rfl hl.1 (Nat.le_of_ble_eq_true rfl) dX10_mayOf_101 ⟨Nat.le_refl _, Nat.le_refl _⟩) hP hS hA (fun H locs hP hS => ?_)
            refine lv_aload_n hx hb dX10_mayOf_104 rfl (lv_at hl 0 rfl) ?_
            refine gM_m_centrings S hK hP q967 dX10_mayOf_105 ?_
            refine lv_icmp_gt (tgt := 115) hx hb dX10_mayOf_108 (by decide) (fun c108 => ?_) (fun c108 => ?_)
            · have hf := ifp c108 hf
              refine lv_iconst (v := (0 : Int32)) hx hb dX10_mayOf_115 (by decide) ?_
              exact u_iretr hx hb hr hlocks rfl hP hD hS dX10_mayOf_116 hf (fun _ => rfl)
            · have hf := ifn c108 hf
              refine lv_iconst (v := (1 : Int32)) hx hb dX10_mayOf_111 (by decide) ?_
              refine lv_goto (tgt := 116) hx hb dX10_mayOf_112 (by decide) ?_
              exact u_iretr hx hb hr hlocks rfl hP hD hS dX10_mayOf_116 hf (fun _ => rfl)
          · have hf := ifn c42 hf
            refine lv_aload_n hx hb dX10_mayOf_45 rfl (lv_at hl 0 rfl) ?_
            refine gM_m_keys S hK hP q966 dX10_mayOf_46 ?_
            refine lv_iload hx hb dX10_mayOf_49 (lv_at hl 5 rfl) ?_
            obtain ⟨h51, hf⟩ := if_in hf
            refine lM_12 S hK hP h51 dX10_mayOf_51 ?_
            refine lv_if_lt (tgt := 93) hx hb dX10_mayOf_52 (by decide) (fun c52 => ?_) (fun c52 => ?_)
            · have hf := ifp c52 hf
              refine lv_iinc (v := (v5_36 + (1 : Int32))) (lv' := [(5, .int (v5_36 + (1 : Int32))), (0, .ref (ad 0)), (1, .int v1), (2, .int v2), (3, .int v3_36), (4, .int v4_36)]) hx hb dX10_mayOf_93 hl (k := 5) rfl rfl (by decide) rfl (fun ls hl => ?_)
              refine lv_goto (tgt := 36) hx hb dX10_mayOf_96 (by decide) ?_
              exact ih36 v3_36 v4_36 (v5_36 + (1 : Int32)) H locs ls hf hP hD hS (lv_sub hl [1, 2, 3, 4, 5, 0] rfl)
            · have hf := ifn c52 hf
              refine lv_iload_n hx hb dX10_mayOf_55 rfl (lv_at hl 3 rfl) ?_
              refine lv_iload hx hb dX10_mayOf_56 (lv_at hl 5 rfl) ?_
              refine lv_ishr hx hb dX10_mayOf_58 ?_
              refine lv_iconst (v := (1 : Int32)) hx hb dX10_mayOf_59 (by decide) ?_
              refine lv_iand hx hb dX10_mayOf_60 ?_
              refine lv_iconst (v := (1 : Int32)) hx hb dX10_mayOf_61 (by decide) ?_
              refine lv_icmp_ne (tgt := 93) hx hb dX10_mayOf_62 (by decide) (fun c62 => ?_) (fun c62 => ?_)
              · have hf := ifn c62 hf
                refine lv_iinc (v := (v5_36 + (1 : Int32))) (lv' := [(5, .int (v5_36 + (1 : Int32))), (0, .ref (ad 0)), (1, .int v1), (2, .int v2), (3, .int v3_36), (4, .int v4_36)]) hx hb dX10_mayOf_93 hl (k := 5) rfl rfl (by decide) rfl (fun ls hl => ?_)
                refine lv_goto (tgt := 36) hx hb dX10_mayOf_96 (by decide) ?_
                exact ih36 v3_36 v4_36 (v5_36 + (1 : Int32)) H locs ls hf hP hD hS (lv_sub hl [1, 2, 3, 4, 5, 0] rfl)
              · have hf := ifp c62 hf
                refine lv_iload_n hx hb dX10_mayOf_65 rfl (lv_at hl 3 rfl) ?_
                refine lv_aload_n hx hb dX10_mayOf_66 rfl (lv_at hl 0 rfl) ?_
                refine gM_m_keys S hK hP q966 dX10_mayOf_67 ?_
                refine lv_iload hx hb dX10_mayOf_70 (lv_at hl 5 rfl) ?_
                obtain ⟨h72, hf⟩ := if_in hf
                refine lM_12 S hK hP h72 dX10_mayOf_72 ?_
                refine lv_ishr hx hb dX10_mayOf_73 ?_
                refine lv_iconst (v := (1 : Int32)) hx hb dX10_mayOf_74 (by decide) ?_
                refine lv_iand hx hb dX10_mayOf_75 ?_
                refine lv_if_ne (tgt := 93) hx hb dX10_mayOf_76 (by decide) (fun c76 => ?_) (fun c76 => ?_)
                · have hf := ifn c76 hf
                  refine lv_iinc (v := (v5_36 + (1 : Int32))) (lv' := [(5, .int (v5_36 + (1 : Int32))), (0, .ref (ad 0)), (1, .int v1), (2, .int v2), (3, .int v3_36), (4, .int v4_36)]) hx hb dX10_mayOf_93 hl (k := 5) rfl rfl (by decide) rfl (fun ls hl => ?_)
                  refine lv_goto (tgt := 36) hx hb dX10_mayOf_96 (by decide) ?_
                  exact ih36 v3_36 v4_36 (v5_36 + (1 : Int32)) H locs ls hf hP hD hS (lv_sub hl [1, 2, 3, 4, 5, 0] rfl)
                · have hf := ifp c76 hf
                  refine lv_iload hx hb dX10_mayOf_79 (lv_at hl 4 rfl) ?_
                  refine lv_iconst (v := (1 : Int32)) hx hb dX10_mayOf_81 (by decide) ?_
                  refine lv_aload_n hx hb dX10_mayOf_82 rfl (lv_at hl 0 rfl) ?_
                  refine gM_m_keys S hK hP q966 dX10_mayOf_83 ?_
                  refine lv_iload hx hb dX10_mayOf_86 (lv_at hl 5 rfl) ?_
                  obtain ⟨h88, hf⟩ := if_in hf
                  refine lM_12 S hK hP h88 dX10_mayOf_88 ?_
                  refine lv_ishl hx hb dX10_mayOf_89 ?_
                  refine lv_ior hx hb dX10_mayOf_90 ?_
                  refine lv_istore (lv' := [(4, .int (v4_36 ||| ((1 : Int32) <<< ((ga σ 12 v5_36.toNatClampNeg) &&& 31)))), (0, .ref (ad 0)), (1, .int v1), (2, .int v2), (3, .int v3_36), (5, .int v5_36)]) hx hb dX10_mayOf_91 hl (by decide) rfl (fun ls hl => ?_)
                  refine lv_iinc (v := (v5_36 + (1 : Int32))) (lv' := [(5, .int (v5_36 + (1 : Int32))), (4, .int (v4_36 ||| ((1 : Int32) <<< ((ga σ 12 v5_36.toNatClampNeg) &&& 31)))), (0, .ref (ad 0)), (1, .int v1), (2, .int v2), (3, .int v3_36)]) hx hb dX10_mayOf_93 hl (k := 5) rfl rfl (by decide) rfl (fun ls hl => ?_)
                  refine lv_goto (tgt := 36) hx hb dX10_mayOf_96 (by decide) ?_
                  exact ih36 v3_36 (v4_36 ||| ((1 : Int32) <<< ((ga σ 12 v5_36.toNatClampNeg) &&& 31))) (v5_36 + (1 : Int32)) H locs ls hf hP hD hS (lv_sub hl [2, 3, 4, 5, 1, 0] rfl)
      exact L36 KF (v1 ||| ((1 : Int32) <<< (v2 &&& 31))) (0 : Int32) (0 : Int32) H locs ls hf hP hD hS (lv_sub hl [3, 4, 5, 2, 1, 0] rfl)
    · have hf := ifn c19 hf
      refine lv_iconst (v := (0 : Int32)) hx hb dX10_mayOf_22 (by decide) ?_
      exact u_iretr hx hb hr hlocks rfl hP hD hS dX10_mayOf_23 hf (fun _ => rfl)
theorem iX10_may : YI yX10_may cX10_may 3 (some .int) 2 := ⟨q1310, q12, by decide, by decide, by decide +kernel⟩
theorem vX10_may : YV yX10_may := ⟨q1308, q1309⟩
set_option maxRecDepth 100000 in
set_option maxHeartbeats 4000000 in
theorem c_X10_may (l : Launch) (D : va_G) (cy : Nat → ClassId) (ad : Nat → Nat) (σ : St) (v1 : Int32) (v2 : Int32) (r : Int32) (hf : fX10_may σ v1 v2 = some r) : Ci l D cy (wM cy ad) yX10_may cX10_may 3 .int 2 47 [.ref (ad 0), .int v1, .int v2] σ r σ 0 0 := by
  refine Ci.enter (by decide) (Nat.le_of_ble_eq_true rfl) ?_
  intro aw ac p e s m below meth c A H locs S hr hlocks hA hK hP hD hS ls hl
  have hx := S.1
  have hb := S.2.1
  have hl : lv_has ls 3 [(0, .ref (ad 0)), (1, .int v1), (2, .int v2)] := hl
  unfold fX10_may at hf
  refine lv_iload_n hx hb dX10_may_0 rfl (lv_at hl 1 rfl) ?_
  refine lv_i2l (v := (v1).toInt64) hx hb dX10_may_1 rfl ?_
  refine lv_lconst (v := (0 : Int64)) hx hb dX10_may_2 (by decide) ?_
  refine lv_iconst (v := (1 : Int32)) hx hb dX10_may_3 (by decide) ?_
  refine lv_aload_n hx hb dX10_may_4 rfl (lv_at hl 0 rfl) ?_
  refine gM_m_stones S hK hP q961 dX10_may_5 ?_
  refine lv_ishl hx hb dX10_may_8 ?_
  refine lv_iconst (v := (1 : Int32)) hx hb dX10_may_9 (by decide) ?_
  refine lv_isub hx hb dX10_may_10 ?_
  refine lv_i2l (v := ((((1 : Int32) <<< ((gi σ 9) &&& 31)) - (1 : Int32))).toInt64) hx hb dX10_may_11 rfl ?_
  obtain ⟨r12, h12, hf⟩ := ob_some hf
  refine p_calli0 (u_runS (rest := []) S (c_X10_in l D cy σ ((v1).toInt64) (0 : Int64) (((((1 : Int32) <<< ((gi σ 9) &&& 31)) - (1 : Int32))).toInt64) r12 h12 aw ac H.size) iX10_in q1112 q1111 ⟨Nat.le_of_ble_eq_true rfl, Nat.le_of_ble_eq_true rfl⟩ hK wN_P (wN_D (A := fun _ => True)) rfl hl.1 (Nat.le_of_ble_eq_true rfl) dX10_may_12 ⟨Nat.le_refl _, Nat.le_refl _⟩) hP hS hA (fun H locs hP hS => ?_)
  refine lv_if_eq (tgt := 26) hx hb dX10_may_15 (by decide) (fun c15 => ?_) (fun c15 => ?_)
  · have hf := ifp c15 hf
    refine lv_bipush (v := (-2 : Int32)) hx hb dX10_may_26 (by decide) ?_
    refine lv_goto (tgt := 40) hx hb dX10_may_28 (by decide) ?_
    exact u_iretr hx hb hr hlocks rfl hP hD hS dX10_may_40 hf (fun _ => rfl)
  · have hf := ifn c15 hf
    refine lv_aload_n hx hb dX10_may_18 rfl (lv_at hl 0 rfl) ?_
    refine lv_iload_n hx hb dX10_may_19 rfl (lv_at hl 2 rfl) ?_
    obtain ⟨r20, h20, hf⟩ := ob_some hf
    refine u_calli0 (u_runV (rest := []) S (c_X10_noStone l D cy ad σ v2 r20 h20 aw ac H.size) iX10_noStone vX10_noStone q1273 ⟨Nat.le_of_ble_eq_true rfl, Nat.le_of_ble_eq_true rfl⟩ hK hP hD (q0 := 0) rfl rfl rfl hl.1 (Nat.le_of_ble_eq_true rfl) dX10_may_20 ⟨Nat.le_refl _, Nat.le_refl _⟩) hD hS hA (fun H locs hP hD hS => ?_)
    refine lv_if_eq (tgt := 31) hx hb dX10_may_23 (by decide) (fun c23 => ?_) (fun c23 => ?_)
    · have hf := ifp c23 hf
      refine lv_aload_n hx hb dX10_may_31 rfl (lv_at hl 0 rfl) ?_
      refine lv_iload_n hx hb dX10_may_32 rfl (lv_at hl 1 rfl) ?_
      refine lv_iload_n hx hb dX10_may_33 rfl (lv_at hl 2 rfl) ?_
      obtain ⟨r34, h34, hf⟩ := ob_some hf
      refine u_calli0 (u_runV (rest := []) S (c_X10_mayOf l D cy ad σ v1 v2 r34 h34 aw ac H.size) iX10_mayOf vX10_mayOf q1311 ⟨Nat.le_of_ble_eq_true rfl, Nat.le_of_ble_eq_true rfl⟩ hK hP hD (q0 := 0) rfl rfl rfl hl.1 (Nat.le_of_ble_eq_true rfl) dX10_may_34 ⟨Nat.le_refl _, Nat.le_refl _⟩) hD hS hA (fun H locs hP hD hS => ?_)
      obtain ⟨r37, h37, hf⟩ := ob_some hf
      refine p_calli0 (u_runS (rest := []) S (c_X10_bit l D cy σ r34 r37 h37 aw ac H.size) iX10_bit q1237 q1236 ⟨Nat.le_of_ble_eq_true rfl, Nat.le_of_ble_eq_true rfl⟩ hK wN_P (wN_D (A := fun _ => True)) rfl hl.1 (Nat.le_of_ble_eq_true rfl) dX10_may_37 ⟨Nat.le_refl _, Nat.le_refl _⟩) hP hS hA (fun H locs hP hS => ?_)
      exact u_iretr hx hb hr hlocks rfl hP hD hS dX10_may_40 hf (fun _ => rfl)
    · have hf := ifn c23 hf
      refine lv_bipush (v := (-2 : Int32)) hx hb dX10_may_26 (by decide) ?_
      refine lv_goto (tgt := 40) hx hb dX10_may_28 (by decide) ?_
      exact u_iretr hx hb hr hlocks rfl hP hD hS dX10_may_40 hf (fun _ => rfl)
theorem iX10_orders : YI yX10_orders cX10_orders 6 (some .long) 0 := ⟨q1318, q12, by decide, by decide, by decide +kernel⟩
theorem vX10_orders : YV yX10_orders := ⟨q1316, q1317⟩
set_option maxRecDepth 100000 in
set_option maxHeartbeats 4000000 in
theorem c_X10_orders (l : Launch) (D : va_G) (cy : Nat → ClassId) (ad : Nat → Nat) (σ : St) (q : Int64 × St) (hf : fX10_orders σ = some q) : Cl l D cy (wM cy ad) yX10_orders cX10_orders 6 2 47 [.ref (ad 0)] σ q.1 q.2 0 0 := by
  refine Cl.enter (by decide) (Nat.le_of_ble_eq_true rfl) ?_
  intro aw ac p e s m below meth c A H locs S hr hlocks hA hK hP hD hS ls hl
  have hx := S.1
  have hb := S.2.1
  have hl : lv_has ls 6 [(0, .ref (ad 0))] := hl
  unfold fX10_orders at hf
  refine lv_iconst (v := (1 : Int32)) hx hb dX10_orders_0 (by decide) ?_
  refine lv_aload_n hx hb dX10_orders_1 rfl (lv_at hl 0 rfl) ?_
  refine gM_m_stones S hK hP q961 dX10_orders_2 ?_
  refine lv_ishl hx hb dX10_orders_5 ?_
  refine lv_iconst (v := (1 : Int32)) hx hb dX10_orders_6 (by decide) ?_
  refine lv_isub hx hb dX10_orders_7 ?_
  refine lv_istore_n (lv' := [(1, .int (((1 : Int32) <<< ((gi σ 9) &&& 31)) - (1 : Int32))), (0, .ref (ad 0))]) hx hb dX10_orders_8 rfl hl (by decide) rfl (fun ls hl => ?_)
  refine lv_aload_n hx hb dX10_orders_9 rfl (lv_at hl 1 rfl) ?_
  refine gM_m_waysOf S hK hP q976 dX10_orders_10 ?_
  refine lv_iload_n hx hb dX10_orders_13 rfl (lv_at hl 0 rfl) ?_
  refine lv_lconst (v := (1 : Int64)) hx hb dX10_orders_14 (by decide) ?_
  obtain ⟨h15, hf⟩ := if_in hf
  refine tM_17 S hK hP hD hS h15 dX10_orders_15 (fun H locs hP hD hS => ?_)
  refine lv_iload_n hx hb dX10_orders_16 rfl (lv_at hl 0 rfl) ?_
  refine lv_iconst (v := (1 : Int32)) hx hb dX10_orders_17 (by decide) ?_
  refine lv_isub hx hb dX10_orders_18 ?_
  refine lv_istore_n (lv' := [(2, .int ((((1 : Int32) <<< ((gi σ 9) &&& 31)) - (1 : Int32)) - (1 : Int32))), (1, .int (((1 : Int32) <<< ((gi σ 9) &&& 31)) - (1 : Int32))), (0, .ref (ad 0))]) hx hb dX10_orders_19 rfl hl (by decide) rfl (fun ls hl => ?_)
  have L20 : ∀ (n20 : Nat) (v1_20 : Int32) (v2_20 : Int32) (σ20 : St) (H : Heap) (locs : List Loc) (ls : Array Slot), fX10_orders_20 (fX10_orders_20_k v1_20) v1_20 n20 σ20 v2_20 = some q → va_P D vwCl (wM cy ad aw ac σ20) H → va_D A (wM cy ad aw ac σ20) → va_S A s.heap H locs → lv_has ls 6 [(0, .ref (ad 0)), (1, .int v1_20), (2, .int v2_20)] → W p l e (Rm 2 47 0 0) s m [.ref (ad 0)].toArray below meth c H locs 0 0 (Zl D (wM cy ad) A q.1 q.2 aw ac below [.ref (ad 0)].toArray s 0 0) (F0 m 20 ls []) := by
    intro n20
    induction n20 with
    | zero =>
      intro v1_20 v2_20 σ20 H locs ls hf
      cases hf
    | succ n20 ih20 =>
      intro v1_20 v2_20 σ20 H locs ls hf hP hD hS hl
      rw [fX10_orders_20] at hf
      refine lv_iload_n hx hb dX10_orders_20 rfl (lv_at hl 2 rfl) ?_
      refine lv_if_lt (tgt := 85) hx hb dX10_orders_21 (by decide) (fun c21 => ?_) (fun c21 => ?_)
      · have hf := ifp c21 hf
        have hl := lv_sub (l' := [(0, .ref (ad 0)), (1, .int v1_20), (2, .int v2_20)]) hl [0, 1, 2] rfl
        unfold fX10_orders_20_k at hf
        refine lv_aload_n hx hb dX10_orders_85 rfl (lv_at hl 0 rfl) ?_
        refine gM_m_waysOf S hK hP q976 dX10_orders_86 ?_
        refine lv_iconst (v := (0 : Int32)) hx hb dX10_orders_89 (by decide) ?_
        obtain ⟨h90, hf⟩ := if_in hf
        refine lM_17 S hK hP h90 dX10_orders_90 ?_
        exact u_lretw hx hb hr hlocks hP hD hS dX10_orders_91 hf (fun _ => rfl)
      · have hf := ifn c21 hf
        refine lv_lconst (v := (0 : Int64)) hx hb dX10_orders_24 (by decide) ?_
        refine lv_lstore_n (lv' := [(3, .long (0 : Int64)), (0, .ref (ad 0)), (1, .int v1_20), (2, .int v2_20)]) hx hb dX10_orders_25 rfl hl (by decide) rfl (fun ls hl => ?_)
        refine lv_iconst (v := (0 : Int32)) hx hb dX10_orders_26 (by decide) ?_
        refine lv_istore (lv' := [(5, .int (0 : Int32)), (3, .long (0 : Int64)), (0, .ref (ad 0)), (1, .int v1_20), (2, .int v2_20)]) hx hb dX10_orders_27 hl (by decide) rfl (fun ls hl => ?_)
        have L29 : ∀ (n29 : Nat) (v3_29 : Int64) (v5_29 : Int32) (H : Heap) (locs : List Loc) (ls : Array Slot), fX10_orders_29 (fun σ20' v2_20' => fX10_orders_20 (fX10_orders_20_k v1_20) v1_20 n20 σ20' v2_20') (fX10_orders_29_k (fun σ20' v2_20' => fX10_orders_20 (fX10_orders_20_k v1_20) v1_20 n20 σ20' v2_20') σ20 v1_20 v2_20) σ20 v1_20 v2_20 n29 v3_29 v5_29 = some q → va_P D vwCl (wM cy ad aw ac σ20) H → va_D A (wM cy ad aw ac σ20) → va_S A s.heap H locs → lv_has ls 6 [(0, .ref (ad 0)), (1, .int v1_20), (2, .int v2_20), (3, .long v3_29), (5, .int v5_29)] → W p l e (Rm 2 47 0 0) s m [.ref (ad 0)].toArray below meth c H locs 0 0 (Zl D (wM cy ad) A q.1 q.2 aw ac below [.ref (ad 0)].toArray s 0 0) (F0 m 29 ls []) := by
          intro n29
          induction n29 with
          | zero =>
            intro v3_29 v5_29 H locs ls hf
            cases hf
          | succ n29 ih29 =>
            intro v3_29 v5_29 H locs ls hf hP hD hS hl
            rw [fX10_orders_29] at hf
            refine lv_iload hx hb dX10_orders_29 (lv_at hl 4 rfl) ?_
            refine lv_aload_n hx hb dX10_orders_31 rfl (lv_at hl 0 rfl) ?_
            refine gM_m_stones S hK hP q961 dX10_orders_32 ?_
            refine lv_icmp_ge (tgt := 72) hx hb dX10_orders_35 (by decide) (fun c35 => ?_) (fun c35 => ?_)
            · have hf := ifp c35 hf
              have hl := lv_sub (l' := [(0, .ref (ad 0)), (1, .int v1_20), (2, .int v2_20), (3, .long v3_29), (5, .int v5_29)]) hl [0, 1, 2, 3, 4] rfl
              unfold fX10_orders_29_k at hf
              refine lv_aload_n hx hb dX10_orders_72 rfl (lv_at hl 0 rfl) ?_
              refine gM_m_waysOf S hK hP q976 dX10_orders_73 ?_
              refine lv_iload_n hx hb dX10_orders_76 rfl (lv_at hl 2 rfl) ?_
              refine lv_lload_n hx hb dX10_orders_77 rfl (lv_at hl 3 rfl) ?_
              obtain ⟨h78, hf⟩ := if_in hf
              refine tM_17 S hK hP hD hS h78 dX10_orders_78 (fun H locs hP hD hS => ?_)
              refine lv_iinc (v := (v2_20 + (-1 : Int32))) (lv' := [(2, .int (v2_20 + (-1 : Int32))), (0, .ref (ad 0)), (1, .int v1_20), (3, .long v3_29), (5, .int v5_29)]) hx hb dX10_orders_79 hl (k := 2) rfl rfl (by decide) rfl (fun ls hl => ?_)
              refine lv_goto (tgt := 20) hx hb dX10_orders_82 (by decide) ?_
              exact ih20 v1_20 (v2_20 + (-1 : Int32)) (sb σ20 17 v2_20.toNatClampNeg v3_29) H locs ls hf hP hD hS (lv_sub hl [1, 2, 0] rfl)
            · have hf := ifn c35 hf
              refine lv_lload_n hx hb dX10_orders_38 rfl (lv_at hl 3 rfl) ?_
              refine lv_aload_n hx hb dX10_orders_39 rfl (lv_at hl 0 rfl) ?_
              refine lv_iload_n hx hb dX10_orders_40 rfl (lv_at hl 2 rfl) ?_
              refine lv_iload hx hb dX10_orders_41 (lv_at hl 4 rfl) ?_
              obtain ⟨r43, h43, hf⟩ := ob_some hf
              refine u_calli0 (u_runV (rest := [.long v3_29]) S (c_X10_mayOf l D cy ad σ20 v2_20 v5_29 r43 h43 aw ac H.size) iX10_mayOf vX10_mayOf q1311 ⟨Nat.le_of_ble_eq_true rfl, Nat.le_of_ble_eq_true rfl⟩ hK hP hD (q0 := 0) rfl rfl rfl hl.1 (Nat.le_of_ble_eq_true rfl) dX10_orders_43 ⟨Nat.le_refl _, Nat.le_refl _⟩) hD hS hA (fun H locs hP hD hS => ?_)
              refine lv_if_eq (tgt := 63) hx hb dX10_orders_46 (by decide) (fun c46 => ?_) (fun c46 => ?_)
              · have hf := ifp c46 hf
                refine lv_lconst (v := (0 : Int64)) hx hb dX10_orders_63 (by decide) ?_
                refine lv_ladd hx hb dX10_orders_64 ?_
                refine lv_lstore_n (lv' := [(3, .long (v3_29 + (0 : Int64))), (0, .ref (ad 0)), (1, .int v1_20), (2, .int v2_20), (5, .int v5_29)]) hx hb dX10_orders_65 rfl hl (by decide) rfl (fun ls hl => ?_)
                refine lv_iinc (v := (v5_29 + (1 : Int32))) (lv' := [(5, .int (v5_29 + (1 : Int32))), (3, .long (v3_29 + (0 : Int64))), (0, .ref (ad 0)), (1, .int v1_20), (2, .int v2_20)]) hx hb dX10_orders_66 hl (k := 4) rfl rfl (by decide) rfl (fun ls hl => ?_)
                refine lv_goto (tgt := 29) hx hb dX10_orders_69 (by decide) ?_
                exact ih29 (v3_29 + (0 : Int64)) (v5_29 + (1 : Int32)) H locs ls hf hP hD hS (lv_sub hl [2, 3, 4, 1, 0] rfl)
              · have hf := ifn c46 hf
                refine lv_aload_n hx hb dX10_orders_49 rfl (lv_at hl 0 rfl) ?_
                refine gM_m_waysOf S hK hP q976 dX10_orders_50 ?_
                refine lv_iload_n hx hb dX10_orders_53 rfl (lv_at hl 2 rfl) ?_
                refine lv_iconst (v := (1 : Int32)) hx hb dX10_orders_54 (by decide) ?_
                refine lv_iload hx hb dX10_orders_55 (lv_at hl 4 rfl) ?_
                refine lv_ishl hx hb dX10_orders_57 ?_
                refine lv_ior hx hb dX10_orders_58 ?_
                obtain ⟨h59, hf⟩ := if_in hf
                refine lM_17 S hK hP h59 dX10_orders_59 ?_
                refine lv_goto (tgt := 64) hx hb dX10_orders_60 (by decide) ?_
                refine lv_ladd hx hb dX10_orders_64 ?_
                refine lv_lstore_n (lv' := [(3, .long (v3_29 + (gb σ20 17 (v2_20 ||| ((1 : Int32) <<< (v5_29 &&& 31))).toNatClampNeg))), (0, .ref (ad 0)), (1, .int v1_20), (2, .int v2_20), (5, .int v5_29)]) hx hb dX10_orders_65 rfl hl (by decide) rfl (fun ls hl => ?_)
                refine lv_iinc (v := (v5_29 + (1 : Int32))) (lv' := [(5, .int (v5_29 + (1 : Int32))), (3, .long (v3_29 + (gb σ20 17 (v2_20 ||| ((1 : Int32) <<< (v5_29 &&& 31))).toNatClampNeg))), (0, .ref (ad 0)), (1, .int v1_20), (2, .int v2_20)]) hx hb dX10_orders_66 hl (k := 4) rfl rfl (by decide) rfl (fun ls hl => ?_)
                refine lv_goto (tgt := 29) hx hb dX10_orders_69 (by decide) ?_
                exact ih29 (v3_29 + (gb σ20 17 (v2_20 ||| ((1 : Int32) <<< (v5_29 &&& 31))).toNatClampNeg)) (v5_29 + (1 : Int32)) H locs ls hf hP hD hS (lv_sub hl [2, 3, 4, 1, 0] rfl)
        exact L29 KF (0 : Int64) (0 : Int32) H locs ls hf hP hD hS (lv_sub hl [2, 3, 4, 1, 0] rfl)
  exact L20 KF (((1 : Int32) <<< ((gi σ 9) &&& 31)) - (1 : Int32)) ((((1 : Int32) <<< ((gi σ 9) &&& 31)) - (1 : Int32)) - (1 : Int32)) (sb σ 17 (((1 : Int32) <<< ((gi σ 9) &&& 31)) - (1 : Int32)).toNatClampNeg (1 : Int64)) H locs ls hf hP hD hS (lv_sub hl [2, 1, 0] rfl)
theorem iX10_isFree : YI yX10_isFree cX10_isFree 3 (some .boolean) 2 := ⟨q1335, q12, by decide, by decide, by decide +kernel⟩
theorem vX10_isFree : YV yX10_isFree := ⟨q1334, qs45⟩
set_option maxRecDepth 100000 in
set_option maxHeartbeats 4000000 in
theorem c_X10_isFree (l : Launch) (D : va_G) (cy : Nat → ClassId) (ad : Nat → Nat) (σ : St) (v1 : Int32) (v2 : Int32) (r : Int32) (hf : fX10_isFree σ v1 v2 = some r) : Ci l D cy (wM cy ad) yX10_isFree cX10_isFree 3 .boolean 0 0 [.ref (ad 0), .int v1, .int v2] σ r σ 0 0 := by
  refine Ci.enter (by decide) (Nat.le_of_ble_eq_true rfl) ?_
  intro aw ac p e s m below meth c A H locs S hr hlocks hA hK hP hD hS ls hl
  have hx := S.1
  have hb := S.2.1
  have hl : lv_has ls 3 [(0, .ref (ad 0)), (1, .int v1), (2, .int v2)] := hl
  unfold fX10_isFree at hf
  refine lv_aload_n hx hb dX10_isFree_0 rfl (lv_at hl 0 rfl) ?_
  refine gM_m_needs S hK hP q971 dX10_isFree_1 ?_
  refine lv_iload_n hx hb dX10_isFree_4 rfl (lv_at hl 2 rfl) ?_
  obtain ⟨h5, hf⟩ := if_in hf
  refine lM_15 S hK hP h5 dX10_isFree_5 ?_
  refine lv_iload_n hx hb dX10_isFree_6 rfl (lv_at hl 1 rfl) ?_
  refine lv_iconst (v := (-1 : Int32)) hx hb dX10_isFree_7 (by decide) ?_
  refine lv_ixor hx hb dX10_isFree_8 ?_
  refine lv_iand hx hb dX10_isFree_9 ?_
  refine lv_if_ne (tgt := 17) hx hb dX10_isFree_10 (by decide) (fun c10 => ?_) (fun c10 => ?_)
  · have hf := ifn c10 hf
    refine lv_iconst (v := (0 : Int32)) hx hb dX10_isFree_17 (by decide) ?_
    exact u_iretr hx hb hr hlocks rfl hP hD hS dX10_isFree_18 hf (fun _ => rfl)
  · have hf := ifp c10 hf
    refine lv_iconst (v := (1 : Int32)) hx hb dX10_isFree_13 (by decide) ?_
    refine lv_goto (tgt := 18) hx hb dX10_isFree_14 (by decide) ?_
    exact u_iretr hx hb hr hlocks rfl hP hD hS dX10_isFree_18 hf (fun _ => rfl)
theorem iX10_findCosts : YI yX10_findCosts cX10_findCosts 7 none 2 := ⟨q1330, q12, by decide, by decide, by decide +kernel⟩
theorem vX10_findCosts : YV yX10_findCosts := ⟨q1329, qs44⟩
set_option maxRecDepth 100000 in
set_option maxHeartbeats 4000000 in
theorem c_X10_findCosts (l : Launch) (D : va_G) (cy : Nat → ClassId) (ad : Nat → Nat) (σ : St) (v1 : Int32) (v2 : Int32) (q : St) (hf : fX10_findCosts σ v1 v2 = some q) : Cv l D cy (wM cy ad) yX10_findCosts cX10_findCosts 7 2 47 [.ref (ad 0), .int v1, .int v2] σ q 0 0 := by
  refine Cv.enter (by decide) (Nat.le_of_ble_eq_true rfl) ?_
  intro aw ac p e s m below meth c A H locs S hr hlocks hA hK hP hD hS ls hl
  have hx := S.1
  have hb := S.2.1
  have hl : lv_has ls 7 [(0, .ref (ad 0)), (1, .int v1), (2, .int v2)] := hl
  unfold fX10_findCosts at hf
  refine lv_iconst (v := (0 : Int32)) hx hb dX10_findCosts_0 (by decide) ?_
  refine lv_istore_n (lv' := [(3, .int (0 : Int32)), (0, .ref (ad 0)), (1, .int v1), (2, .int v2)]) hx hb dX10_findCosts_1 rfl hl (by decide) rfl (fun ls hl => ?_)
  have L2 : ∀ (n2 : Nat) (v3_2 : Int32) (σ2 : St) (H : Heap) (locs : List Loc) (ls : Array Slot), fX10_findCosts_2 (fX10_findCosts_2_k v1 v2) v1 v2 n2 σ2 v3_2 = some q → va_P D vwCl (wM cy ad aw ac σ2) H → va_D A (wM cy ad aw ac σ2) → va_S A s.heap H locs → lv_has ls 7 [(0, .ref (ad 0)), (1, .int v1), (2, .int v2), (3, .int v3_2)] → W p l e (Rm 2 47 0 0) s m [.ref (ad 0), .int v1, .int v2].toArray below meth c H locs 0 0 (Zv D (wM cy ad) A q aw ac below [.ref (ad 0), .int v1, .int v2].toArray s 0 0) (F0 m 2 ls []) := by
    intro n2
    induction n2 with
    | zero =>
      intro v3_2 σ2 H locs ls hf
      cases hf
    | succ n2 ih2 =>
      intro v3_2 σ2 H locs ls hf hP hD hS hl
      rw [fX10_findCosts_2] at hf
      refine lv_iload_n hx hb dX10_findCosts_2 rfl (lv_at hl 3 rfl) ?_
      refine lv_aload_n hx hb dX10_findCosts_3 rfl (lv_at hl 0 rfl) ?_
      refine gM_m_stands S hK hP q968 dX10_findCosts_4 ?_
      refine lv_icmp_ge (tgt := 117) hx hb dX10_findCosts_7 (by decide) (fun c7 => ?_) (fun c7 => ?_)
      · have hf := ifp c7 hf
        have hl := lv_sub (l' := [(0, .ref (ad 0)), (1, .int v1), (2, .int v2), (3, .int v3_2)]) hl [0, 1, 2, 3] rfl
        unfold fX10_findCosts_2_k at hf
        refine lv_iconst (v := (0 : Int32)) hx hb dX10_findCosts_117 (by decide) ?_
        refine lv_istore_n (lv' := [(3, .int (0 : Int32)), (0, .ref (ad 0)), (1, .int v1), (2, .int v2)]) hx hb dX10_findCosts_118 rfl hl (by decide) rfl (fun ls hl => ?_)
        have L119 : ∀ (n119 : Nat) (v3_119 : Int32) (σ119 : St) (H : Heap) (locs : List Loc) (ls : Array Slot), fX10_findCosts_119 (fX10_findCosts_119_k v1 v2) v1 v2 n119 σ119 v3_119 = some q → va_P D vwCl (wM cy ad aw ac σ119) H → va_D A (wM cy ad aw ac σ119) → va_S A s.heap H locs → lv_has ls 7 [(0, .ref (ad 0)), (1, .int v1), (2, .int v2), (3, .int v3_119)] → W p l e (Rm 2 47 0 0) s m [.ref (ad 0), .int v1, .int v2].toArray below meth c H locs 0 0 (Zv D (wM cy ad) A q aw ac below [.ref (ad 0), .int v1, .int v2].toArray s 0 0) (F0 m 119 ls []) := by
          intro n119
          induction n119 with
          | zero =>
            intro v3_119 σ119 H locs ls hf
            cases hf
          | succ n119 ih119 =>
            intro v3_119 σ119 H locs ls hf hP hD hS hl
            rw [fX10_findCosts_119] at hf
            refine lv_iload_n hx hb dX10_findCosts_119 rfl (lv_at hl 3 rfl) ?_
            refine lv_aload_n hx hb dX10_findCosts_120 rfl (lv_at hl 0 rfl) ?_
            refine gM_m_stands S hK hP q968 dX10_findCosts_121 ?_
            refine lv_icmp_ge (tgt := 241) hx hb dX10_findCosts_124 (by decide) (fun c124 => ?_) (fun c124 => ?_)
            · have hf := ifp c124 hf
              have hl := lv_sub (l' := [(0, .ref (ad 0)), (1, .int v1), (2, .int v2), (3, .int v3_119)]) hl [0, 1, 2, 3] rfl
              unfold fX10_findCosts_119_k at hf
              exact u_vretw hx hb hr hlocks hP hD hS dX10_findCosts_241 hf (fun _ => rfl)
            · have hf := ifn c124 hf
              refine lv_iconst (v := (0 : Int32)) hx hb dX10_findCosts_127 (by decide) ?_
              refine lv_istore (lv' := [(4, .int (0 : Int32)), (0, .ref (ad 0)), (1, .int v1), (2, .int v2), (3, .int v3_119)]) hx hb dX10_findCosts_128 hl (by decide) rfl (fun ls hl => ?_)
              have L130 : ∀ (n130 : Nat) (v4_130 : Int32) (σ130 : St) (H : Heap) (locs : List Loc) (ls : Array Slot), fX10_findCosts_130 (fun σ119' v3_119' => fX10_findCosts_119 (fX10_findCosts_119_k v1 v2) v1 v2 n119 σ119' v3_119') (fX10_findCosts_130_k (fun σ119' v3_119' => fX10_findCosts_119 (fX10_findCosts_119_k v1 v2) v1 v2 n119 σ119' v3_119') v1 v2 v3_119) v1 v2 v3_119 n130 σ130 v4_130 = some q → va_P D vwCl (wM cy ad aw ac σ130) H → va_D A (wM cy ad aw ac σ130) → va_S A s.heap H locs → lv_has ls 7 [(0, .ref (ad 0)), (1, .int v1), (2, .int v2), (3, .int v3_119), (4, .int v4_130)] → W p l e (Rm 2 47 0 0) s m [.ref (ad 0), .int v1, .int v2].toArray below meth c H locs 0 0 (Zv D (wM cy ad) A q aw ac below [.ref (ad 0), .int v1, .int v2].toArray s 0 0) (F0 m 130 ls []) := by
                intro n130
                induction n130 with
                | zero =>
                  intro v4_130 σ130 H locs ls hf
                  cases hf
                | succ n130 ih130 =>
                  intro v4_130 σ130 H locs ls hf hP hD hS hl
                  rw [fX10_findCosts_130] at hf
                  refine lv_iload hx hb dX10_findCosts_130 (lv_at hl 4 rfl) ?_
                  refine lv_aload_n hx hb dX10_findCosts_132 rfl (lv_at hl 0 rfl) ?_
                  refine gM_m_stands S hK hP q968 dX10_findCosts_133 ?_
                  refine lv_icmp_ge (tgt := 235) hx hb dX10_findCosts_136 (by decide) (fun c136 => ?_) (fun c136 => ?_)
                  · have hf := ifp c136 hf
                    have hl := lv_sub (l' := [(0, .ref (ad 0)), (1, .int v1), (2, .int v2), (3, .int v3_119), (4, .int v4_130)]) hl [0, 1, 2, 3, 4] rfl
                    unfold fX10_findCosts_130_k at hf
                    refine lv_iinc (v := (v3_119 + (1 : Int32))) (lv' := [(3, .int (v3_119 + (1 : Int32))), (0, .ref (ad 0)), (1, .int v1), (2, .int v2), (4, .int v4_130)]) hx hb dX10_findCosts_235 hl (k := 3) rfl rfl (by decide) rfl (fun ls hl => ?_)
                    refine lv_goto (tgt := 119) hx hb dX10_findCosts_238 (by decide) ?_
                    exact ih119 (v3_119 + (1 : Int32)) σ130 H locs ls hf hP hD hS (lv_sub hl [1, 2, 3, 0] rfl)
                  · have hf := ifn c136 hf
                    refine lv_iconst (v := (0 : Int32)) hx hb dX10_findCosts_139 (by decide) ?_
                    refine lv_istore (lv' := [(5, .int (0 : Int32)), (0, .ref (ad 0)), (1, .int v1), (2, .int v2), (3, .int v3_119), (4, .int v4_130)]) hx hb dX10_findCosts_140 hl (by decide) rfl (fun ls hl => ?_)
                    have L142 : ∀ (n142 : Nat) (v5_142 : Int32) (σ142 : St) (H : Heap) (locs : List Loc) (ls : Array Slot), fX10_findCosts_142 (fun σ119' v3_119' => fX10_findCosts_119 (fX10_findCosts_119_k v1 v2) v1 v2 n119 σ119' v3_119') (fun σ130' v4_130' => fX10_findCosts_130 (fun σ119' v3_119' => fX10_findCosts_119 (fX10_findCosts_119_k v1 v2) v1 v2 n119 σ119' v3_119') (fX10_findCosts_130_k (fun σ119' v3_119' => fX10_findCosts_119 (fX10_findCosts_119_k v1 v2) v1 v2 n119 σ119' v3_119') v1 v2 v3_119) v1 v2 v3_119 n130 σ130' v4_130') (fX10_findCosts_142_k (fun σ119' v3_119' => fX10_findCosts_119 (fX10_findCosts_119_k v1 v2) v1 v2 n119 σ119' v3_119') (fun σ130' v4_130' => fX10_findCosts_130 (fun σ119' v3_119' => fX10_findCosts_119 (fX10_findCosts_119_k v1 v2) v1 v2 n119 σ119' v3_119') (fX10_findCosts_130_k (fun σ119' v3_119' => fX10_findCosts_119 (fX10_findCosts_119_k v1 v2) v1 v2 n119 σ119' v3_119') v1 v2 v3_119) v1 v2 v3_119 n130 σ130' v4_130') v1 v2 v3_119 v4_130) v1 v2 v3_119 v4_130 n142 σ142 v5_142 = some q → va_P D vwCl (wM cy ad aw ac σ142) H → va_D A (wM cy ad aw ac σ142) → va_S A s.heap H locs → lv_has ls 7 [(0, .ref (ad 0)), (1, .int v1), (2, .int v2), (3, .int v3_119), (4, .int v4_130), (5, .int v5_142)] → W p l e (Rm 2 47 0 0) s m [.ref (ad 0), .int v1, .int v2].toArray below meth c H locs 0 0 (Zv D (wM cy ad) A q aw ac below [.ref (ad 0), .int v1, .int v2].toArray s 0 0) (F0 m 142 ls []) := by
                      intro n142
                      induction n142 with
                      | zero =>
                        intro v5_142 σ142 H locs ls hf
                        cases hf
                      | succ n142 ih142 =>
                        intro v5_142 σ142 H locs ls hf hP hD hS hl
                        rw [fX10_findCosts_142] at hf
                        refine lv_iload hx hb dX10_findCosts_142 (lv_at hl 5 rfl) ?_
                        refine lv_aload_n hx hb dX10_findCosts_144 rfl (lv_at hl 0 rfl) ?_
                        refine gM_m_stands S hK hP q968 dX10_findCosts_145 ?_
                        refine lv_icmp_ge (tgt := 229) hx hb dX10_findCosts_148 (by decide) (fun c148 => ?_) (fun c148 => ?_)
                        · have hf := ifp c148 hf
                          have hl := lv_sub (l' := [(0, .ref (ad 0)), (1, .int v1), (2, .int v2), (3, .int v3_119), (4, .int v4_130), (5, .int v5_142)]) hl [0, 1, 2, 3, 4, 5] rfl
                          unfold fX10_findCosts_142_k at hf
                          refine lv_iinc (v := (v4_130 + (1 : Int32))) (lv' := [(4, .int (v4_130 + (1 : Int32))), (0, .ref (ad 0)), (1, .int v1), (2, .int v2), (3, .int v3_119), (5, .int v5_142)]) hx hb dX10_findCosts_229 hl (k := 4) rfl rfl (by decide) rfl (fun ls hl => ?_)
                          refine lv_goto (tgt := 130) hx hb dX10_findCosts_232 (by decide) ?_
                          exact ih130 (v4_130 + (1 : Int32)) σ142 H locs ls hf hP hD hS (lv_sub hl [1, 2, 3, 4, 0] rfl)
                        · have hf := ifn c148 hf
                          refine lv_aload_n hx hb dX10_findCosts_151 rfl (lv_at hl 0 rfl) ?_
                          refine gM_m_prices S hK hP q972 dX10_findCosts_152 ?_
                          refine lv_iconst (v := (5 : Int32)) hx hb dX10_findCosts_155 (by decide) ?_
                          refine lv_iload hx hb dX10_findCosts_156 (lv_at hl 4 rfl) ?_
                          refine lv_imul hx hb dX10_findCosts_158 ?_
                          refine lv_iload hx hb dX10_findCosts_159 (lv_at hl 5 rfl) ?_
                          refine lv_iadd hx hb dX10_findCosts_161 ?_
                          obtain ⟨h162, hf⟩ := if_in hf
                          refine lM_16 S hK hP h162 dX10_findCosts_162 ?_
                          refine lv_aload_n hx hb dX10_findCosts_163 rfl (lv_at hl 0 rfl) ?_
                          refine gM_m_costs S hK hP q977 dX10_findCosts_164 ?_
                          refine lv_iconst (v := (5 : Int32)) hx hb dX10_findCosts_167 (by decide) ?_
                          refine lv_iload_n hx hb dX10_findCosts_168 rfl (lv_at hl 1 rfl) ?_
                          refine lv_imul hx hb dX10_findCosts_169 ?_
                          refine lv_iload hx hb dX10_findCosts_170 (lv_at hl 5 rfl) ?_
                          refine lv_iadd hx hb dX10_findCosts_172 ?_
                          obtain ⟨h173, hf⟩ := if_in hf
                          refine lM_18 S hK hP h173 dX10_findCosts_173 ?_
                          refine lv_iadd hx hb dX10_findCosts_174 ?_
                          refine lv_istore (lv' := [(6, .int ((ga σ142 16 (((5 : Int32) * v4_130) + v5_142).toNatClampNeg) + (ga σ142 18 (((5 : Int32) * v1) + v5_142).toNatClampNeg))), (0, .ref (ad 0)), (1, .int v1), (2, .int v2), (3, .int v3_119), (4, .int v4_130), (5, .int v5_142)]) hx hb dX10_findCosts_175 hl (by decide) rfl (fun ls hl => ?_)
                          refine lv_iload hx hb dX10_findCosts_177 (lv_at hl 5 rfl) ?_
                          refine lv_iload hx hb dX10_findCosts_179 (lv_at hl 6 rfl) ?_
                          refine lv_icmp_eq (tgt := 223) hx hb dX10_findCosts_181 (by decide) (fun c181 => ?_) (fun c181 => ?_)
                          · have hf := ifp c181 hf
                            refine lv_iinc (v := (v5_142 + (1 : Int32))) (lv' := [(5, .int (v5_142 + (1 : Int32))), (6, .int ((ga σ142 16 (((5 : Int32) * v4_130) + v5_142).toNatClampNeg) + (ga σ142 18 (((5 : Int32) * v1) + v5_142).toNatClampNeg))), (0, .ref (ad 0)), (1, .int v1), (2, .int v2), (3, .int v3_119), (4, .int v4_130)]) hx hb dX10_findCosts_223 hl (k := 6) rfl rfl (by decide) rfl (fun ls hl => ?_)
                            refine lv_goto (tgt := 142) hx hb dX10_findCosts_226 (by decide) ?_
                            exact ih142 (v5_142 + (1 : Int32)) σ142 H locs ls hf hP hD hS (lv_sub hl [2, 3, 4, 5, 6, 0] rfl)
                          · have hf := ifn c181 hf
                            refine lv_aload_n hx hb dX10_findCosts_184 rfl (lv_at hl 1 rfl) ?_
                            refine lv_iload_n hx hb dX10_findCosts_185 rfl (lv_at hl 2 rfl) ?_
                            refine lv_iload hx hb dX10_findCosts_186 (lv_at hl 6 rfl) ?_
                            obtain ⟨r188, h188, hf⟩ := ob_some hf
                            refine u_calli0 (u_runV (rest := []) S (c_X10_isFree l D cy ad σ142 v1 v5_142 r188 h188 aw ac H.size) iX10_isFree vX10_isFree q1332 ⟨Nat.le_of_ble_eq_true rfl, Nat.le_of_ble_eq_true rfl⟩ hK hP hD (q0 := 0) rfl rfl rfl hl.1 (Nat.le_of_ble_eq_true rfl) dX10_findCosts_188 ⟨Nat.le_refl _, Nat.le_refl _⟩) hD hS hA (fun H locs hP hD hS => ?_)
                            refine lv_if_eq (tgt := 223) hx hb dX10_findCosts_191 (by decide) (fun c191 => ?_) (fun c191 => ?_)
                            · have hf := ifp c191 hf
                              refine lv_iinc (v := (v5_142 + (1 : Int32))) (lv' := [(5, .int (v5_142 + (1 : Int32))), (6, .int ((ga σ142 16 (((5 : Int32) * v4_130) + v5_142).toNatClampNeg) + (ga σ142 18 (((5 : Int32) * v1) + v5_142).toNatClampNeg))), (0, .ref (ad 0)), (1, .int v1), (2, .int v2), (3, .int v3_119), (4, .int v4_130)]) hx hb dX10_findCosts_223 hl (k := 6) rfl rfl (by decide) rfl (fun ls hl => ?_)
                              refine lv_goto (tgt := 142) hx hb dX10_findCosts_226 (by decide) ?_
                              exact ih142 (v5_142 + (1 : Int32)) σ142 H locs ls hf hP hD hS (lv_sub hl [2, 3, 4, 5, 6, 0] rfl)
                            · have hf := ifn c191 hf
                              refine lv_iload hx hb dX10_findCosts_194 (lv_at hl 0 rfl) ?_
                              refine lv_aload_n hx hb dX10_findCosts_196 rfl (lv_at hl 1 rfl) ?_
                              refine gM_m_costs S hK hP q977 dX10_findCosts_197 ?_
                              refine lv_iconst (v := (5 : Int32)) hx hb dX10_findCosts_200 (by decide) ?_
                              refine lv_iload_n hx hb dX10_findCosts_201 rfl (lv_at hl 2 rfl) ?_
                              refine lv_imul hx hb dX10_findCosts_202 ?_
                              refine lv_iload hx hb dX10_findCosts_203 (lv_at hl 5 rfl) ?_
                              refine lv_iadd hx hb dX10_findCosts_205 ?_
                              obtain ⟨h206, hf⟩ := if_in hf
                              refine lM_18 S hK hP h206 dX10_findCosts_206 ?_
                              refine lv_icmp_ge (tgt := 223) hx hb dX10_findCosts_207 (by decide) (fun c207 => ?_) (fun c207 => ?_)
                              · have hf := ifp c207 hf
                                refine lv_iinc (v := (v5_142 + (1 : Int32))) (lv' := [(5, .int (v5_142 + (1 : Int32))), (6, .int ((ga σ142 16 (((5 : Int32) * v4_130) + v5_142).toNatClampNeg) + (ga σ142 18 (((5 : Int32) * v1) + v5_142).toNatClampNeg))), (0, .ref (ad 0)), (1, .int v1), (2, .int v2), (3, .int v3_119), (4, .int v4_130)]) hx hb dX10_findCosts_223 hl (k := 6) rfl rfl (by decide) rfl (fun ls hl => ?_)
                                refine lv_goto (tgt := 142) hx hb dX10_findCosts_226 (by decide) ?_
                                exact ih142 (v5_142 + (1 : Int32)) σ142 H locs ls hf hP hD hS (lv_sub hl [2, 3, 4, 5, 6, 0] rfl)
                              · have hf := ifn c207 hf
                                refine lv_aload_n hx hb dX10_findCosts_210 rfl (lv_at hl 1 rfl) ?_
                                refine gM_m_costs S hK hP q977 dX10_findCosts_211 ?_
                                refine lv_iconst (v := (5 : Int32)) hx hb dX10_findCosts_214 (by decide) ?_
                                refine lv_iload_n hx hb dX10_findCosts_215 rfl (lv_at hl 2 rfl) ?_
                                refine lv_imul hx hb dX10_findCosts_216 ?_
                                refine lv_iload hx hb dX10_findCosts_217 (lv_at hl 5 rfl) ?_
                                refine lv_iadd hx hb dX10_findCosts_219 ?_
                                refine lv_iload hx hb dX10_findCosts_220 (lv_at hl 0 rfl) ?_
                                obtain ⟨h222, hf⟩ := if_in hf
                                refine tM_18 S hK hP hD hS h222 dX10_findCosts_222 (fun H locs hP hD hS => ?_)
                                refine lv_iinc (v := (v5_142 + (1 : Int32))) (lv' := [(5, .int (v5_142 + (1 : Int32))), (6, .int ((ga σ142 16 (((5 : Int32) * v4_130) + v5_142).toNatClampNeg) + (ga σ142 18 (((5 : Int32) * v1) + v5_142).toNatClampNeg))), (0, .ref (ad 0)), (1, .int v1), (2, .int v2), (3, .int v3_119), (4, .int v4_130)]) hx hb dX10_findCosts_223 hl (k := 6) rfl rfl (by decide) rfl (fun ls hl => ?_)
                                refine lv_goto (tgt := 142) hx hb dX10_findCosts_226 (by decide) ?_
                                exact ih142 (v5_142 + (1 : Int32)) (sa σ142 18 (((5 : Int32) * v1) + v4_130).toNatClampNeg ((ga σ142 16 (((5 : Int32) * v4_130) + v5_142).toNatClampNeg) + (ga σ142 18 (((5 : Int32) * v1) + v5_142).toNatClampNeg))) H locs ls hf hP hD hS (lv_sub hl [2, 3, 4, 5, 6, 0] rfl)
                    exact L142 KF (0 : Int32) σ130 H locs ls hf hP hD hS (lv_sub hl [1, 2, 3, 4, 5, 0] rfl)
              exact L130 KF (0 : Int32) σ119 H locs ls hf hP hD hS (lv_sub hl [1, 2, 3, 4, 0] rfl)
        exact L119 KF (0 : Int32) σ2 H locs ls hf hP hD hS (lv_sub hl [1, 2, 3, 0] rfl)
      · have hf := ifn c7 hf
        refine lv_iload_n hx hb dX10_findCosts_10 rfl (lv_at hl 1 rfl) ?_
        refine lv_iload_n hx hb dX10_findCosts_11 rfl (lv_at hl 2 rfl) ?_
        refine lv_icmp_ne (tgt := 19) hx hb dX10_findCosts_12 (by decide) (fun c12 => ?_) (fun c12 => ?_)
        · have hf := ifn c12 hf
          refine lv_ldc hx hb S.2.2.2.1 (S.2.2.2.2 _ (List.mem_cons_of_mem _ q1331)) dX10_findCosts_19 ?_
          refine lv_istore (lv' := [(4, .int (1000000 : Int32)), (0, .ref (ad 0)), (1, .int v1), (2, .int v2), (3, .int v3_2)]) hx hb dX10_findCosts_21 hl (by decide) rfl (fun ls hl => ?_)
          refine lv_iconst (v := (0 : Int32)) hx hb dX10_findCosts_23 (by decide) ?_
          refine lv_istore (lv' := [(5, .int (0 : Int32)), (4, .int (1000000 : Int32)), (0, .ref (ad 0)), (1, .int v1), (2, .int v2), (3, .int v3_2)]) hx hb dX10_findCosts_24 hl (by decide) rfl (fun ls hl => ?_)
          have L26 : ∀ (n26 : Nat) (v4_26 : Int32) (v5_26 : Int32) (H : Heap) (locs : List Loc) (ls : Array Slot), fX10_findCosts_26 (fun σ2' v3_2' => fX10_findCosts_2 (fX10_findCosts_2_k v1 v2) v1 v2 n2 σ2' v3_2') (fX10_findCosts_26_k (fun σ2' v3_2' => fX10_findCosts_2 (fX10_findCosts_2_k v1 v2) v1 v2 n2 σ2' v3_2') σ2 v1 v2 v3_2) σ2 v1 v2 v3_2 n26 v4_26 v5_26 = some q → va_P D vwCl (wM cy ad aw ac σ2) H → va_D A (wM cy ad aw ac σ2) → va_S A s.heap H locs → lv_has ls 7 [(0, .ref (ad 0)), (1, .int v1), (2, .int v2), (3, .int v3_2), (4, .int v4_26), (5, .int v5_26)] → W p l e (Rm 2 47 0 0) s m [.ref (ad 0), .int v1, .int v2].toArray below meth c H locs 0 0 (Zv D (wM cy ad) A q aw ac below [.ref (ad 0), .int v1, .int v2].toArray s 0 0) (F0 m 26 ls []) := by
            intro n26
            induction n26 with
            | zero =>
              intro v4_26 v5_26 H locs ls hf
              cases hf
            | succ n26 ih26 =>
              intro v4_26 v5_26 H locs ls hf hP hD hS hl
              rw [fX10_findCosts_26] at hf
              refine lv_iload hx hb dX10_findCosts_26 (lv_at hl 5 rfl) ?_
              refine lv_aload_n hx hb dX10_findCosts_28 rfl (lv_at hl 0 rfl) ?_
              refine gM_m_stones S hK hP q961 dX10_findCosts_29 ?_
              refine lv_icmp_ge (tgt := 99) hx hb dX10_findCosts_32 (by decide) (fun c32 => ?_) (fun c32 => ?_)
              · have hf := ifp c32 hf
                have hl := lv_sub (l' := [(0, .ref (ad 0)), (1, .int v1), (2, .int v2), (3, .int v3_2), (4, .int v4_26), (5, .int v5_26)]) hl [0, 1, 2, 3, 4, 5] rfl
                unfold fX10_findCosts_26_k at hf
                refine lv_aload_n hx hb dX10_findCosts_99 rfl (lv_at hl 0 rfl) ?_
                refine gM_m_costs S hK hP q977 dX10_findCosts_100 ?_
                refine lv_iconst (v := (5 : Int32)) hx hb dX10_findCosts_103 (by decide) ?_
                refine lv_iload_n hx hb dX10_findCosts_104 rfl (lv_at hl 1 rfl) ?_
                refine lv_imul hx hb dX10_findCosts_105 ?_
                refine lv_iload_n hx hb dX10_findCosts_106 rfl (lv_at hl 3 rfl) ?_
                refine lv_iadd hx hb dX10_findCosts_107 ?_
                refine lv_iload hx hb dX10_findCosts_108 (lv_at hl 4 rfl) ?_
                obtain ⟨h110, hf⟩ := if_in hf
                refine tM_18 S hK hP hD hS h110 dX10_findCosts_110 (fun H locs hP hD hS => ?_)
                refine lv_iinc (v := (v3_2 + (1 : Int32))) (lv' := [(3, .int (v3_2 + (1 : Int32))), (0, .ref (ad 0)), (1, .int v1), (2, .int v2), (4, .int v4_26), (5, .int v5_26)]) hx hb dX10_findCosts_111 hl (k := 3) rfl rfl (by decide) rfl (fun ls hl => ?_)
                refine lv_goto (tgt := 2) hx hb dX10_findCosts_114 (by decide) ?_
                exact ih2 (v3_2 + (1 : Int32)) (sa σ2 18 (((5 : Int32) * v1) + v3_2).toNatClampNeg v4_26) H locs ls hf hP hD hS (lv_sub hl [1, 2, 3, 0] rfl)
              · have hf := ifn c32 hf
                refine lv_iload_n hx hb dX10_findCosts_35 rfl (lv_at hl 1 rfl) ?_
                refine lv_iload_n hx hb dX10_findCosts_36 rfl (lv_at hl 2 rfl) ?_
                refine lv_icmp_eq (tgt := 99) hx hb dX10_findCosts_37 (by decide) (fun c37 => ?_) (fun c37 => ?_)
                · have hf := ifp c37 hf
                  have hl := lv_sub (l' := [(0, .ref (ad 0)), (1, .int v1), (2, .int v2), (3, .int v3_2), (4, .int v4_26), (5, .int v5_26)]) hl [0, 1, 2, 3, 4, 5] rfl
                  unfold fX10_findCosts_26_k at hf
                  refine lv_aload_n hx hb dX10_findCosts_99 rfl (lv_at hl 0 rfl) ?_
                  refine gM_m_costs S hK hP q977 dX10_findCosts_100 ?_
                  refine lv_iconst (v := (5 : Int32)) hx hb dX10_findCosts_103 (by decide) ?_
                  refine lv_iload_n hx hb dX10_findCosts_104 rfl (lv_at hl 1 rfl) ?_
                  refine lv_imul hx hb dX10_findCosts_105 ?_
                  refine lv_iload_n hx hb dX10_findCosts_106 rfl (lv_at hl 3 rfl) ?_
                  refine lv_iadd hx hb dX10_findCosts_107 ?_
                  refine lv_iload hx hb dX10_findCosts_108 (lv_at hl 4 rfl) ?_
                  obtain ⟨h110, hf⟩ := if_in hf
                  refine tM_18 S hK hP hD hS h110 dX10_findCosts_110 (fun H locs hP hD hS => ?_)
                  refine lv_iinc (v := (v3_2 + (1 : Int32))) (lv' := [(3, .int (v3_2 + (1 : Int32))), (0, .ref (ad 0)), (1, .int v1), (2, .int v2), (4, .int v4_26), (5, .int v5_26)]) hx hb dX10_findCosts_111 hl (k := 3) rfl rfl (by decide) rfl (fun ls hl => ?_)
                  refine lv_goto (tgt := 2) hx hb dX10_findCosts_114 (by decide) ?_
                  exact ih2 (v3_2 + (1 : Int32)) (sa σ2 18 (((5 : Int32) * v1) + v3_2).toNatClampNeg v4_26) H locs ls hf hP hD hS (lv_sub hl [1, 2, 3, 0] rfl)
                · have hf := ifn c37 hf
                  refine lv_aload_n hx hb dX10_findCosts_40 rfl (lv_at hl 0 rfl) ?_
                  refine lv_iload_n hx hb dX10_findCosts_41 rfl (lv_at hl 3 rfl) ?_
                  refine lv_iload hx hb dX10_findCosts_42 (lv_at hl 5 rfl) ?_
                  obtain ⟨r44, h44, hf⟩ := ob_some hf
                  refine u_calli0 (u_runV (rest := []) S (c_X10_reachesOf l D cy ad σ2 v3_2 v5_26 r44 h44 aw ac H.size) iX10_reachesOf vX10_reachesOf q1303 ⟨Nat.le_of_ble_eq_true rfl, Nat.le_of_ble_eq_true rfl⟩ hK hP hD (q0 := 0) rfl rfl rfl hl.1 (Nat.le_of_ble_eq_true rfl) dX10_findCosts_44 ⟨Nat.le_refl _, Nat.le_refl _⟩) hD hS hA (fun H locs hP hD hS => ?_)
                  refine lv_if_eq (tgt := 93) hx hb dX10_findCosts_47 (by decide) (fun c47 => ?_) (fun c47 => ?_)
                  · have hf := ifp c47 hf
                    refine lv_iinc (v := (v5_26 + (1 : Int32))) (lv' := [(5, .int (v5_26 + (1 : Int32))), (0, .ref (ad 0)), (1, .int v1), (2, .int v2), (3, .int v3_2), (4, .int v4_26)]) hx hb dX10_findCosts_93 hl (k := 5) rfl rfl (by decide) rfl (fun ls hl => ?_)
                    refine lv_goto (tgt := 26) hx hb dX10_findCosts_96 (by decide) ?_
                    exact ih26 v4_26 (v5_26 + (1 : Int32)) H locs ls hf hP hD hS (lv_sub hl [1, 2, 3, 4, 5, 0] rfl)
                  · have hf := ifn c47 hf
                    refine lv_aload_n hx hb dX10_findCosts_50 rfl (lv_at hl 0 rfl) ?_
                    refine lv_iload_n hx hb dX10_findCosts_51 rfl (lv_at hl 1 rfl) ?_
                    refine lv_iload hx hb dX10_findCosts_52 (lv_at hl 5 rfl) ?_
                    obtain ⟨r54, h54, hf⟩ := ob_some hf
                    refine u_calli0 (u_runV (rest := []) S (c_X10_mayOf l D cy ad σ2 v1 v5_26 r54 h54 aw ac H.size) iX10_mayOf vX10_mayOf q1311 ⟨Nat.le_of_ble_eq_true rfl, Nat.le_of_ble_eq_true rfl⟩ hK hP hD (q0 := 0) rfl rfl rfl hl.1 (Nat.le_of_ble_eq_true rfl) dX10_findCosts_54 ⟨Nat.le_refl _, Nat.le_refl _⟩) hD hS hA (fun H locs hP hD hS => ?_)
                    refine lv_if_eq (tgt := 93) hx hb dX10_findCosts_57 (by decide) (fun c57 => ?_) (fun c57 => ?_)
                    · have hf := ifp c57 hf
                      refine lv_iinc (v := (v5_26 + (1 : Int32))) (lv' := [(5, .int (v5_26 + (1 : Int32))), (0, .ref (ad 0)), (1, .int v1), (2, .int v2), (3, .int v3_2), (4, .int v4_26)]) hx hb dX10_findCosts_93 hl (k := 5) rfl rfl (by decide) rfl (fun ls hl => ?_)
                      refine lv_goto (tgt := 26) hx hb dX10_findCosts_96 (by decide) ?_
                      exact ih26 v4_26 (v5_26 + (1 : Int32)) H locs ls hf hP hD hS (lv_sub hl [1, 2, 3, 4, 5, 0] rfl)
                    · have hf := ifn c57 hf
                      refine lv_aload_n hx hb dX10_findCosts_60 rfl (lv_at hl 0 rfl) ?_
                      refine gM_m_costs S hK hP q977 dX10_findCosts_61 ?_
                      refine lv_iconst (v := (5 : Int32)) hx hb dX10_findCosts_64 (by decide) ?_
                      refine lv_iload_n hx hb dX10_findCosts_65 rfl (lv_at hl 1 rfl) ?_
                      refine lv_iconst (v := (1 : Int32)) hx hb dX10_findCosts_66 (by decide) ?_
                      refine lv_iload hx hb dX10_findCosts_67 (lv_at hl 5 rfl) ?_
                      refine lv_ishl hx hb dX10_findCosts_69 ?_
                      refine lv_ior hx hb dX10_findCosts_70 ?_
                      refine lv_imul hx hb dX10_findCosts_71 ?_
                      refine lv_iload_n hx hb dX10_findCosts_72 rfl (lv_at hl 3 rfl) ?_
                      refine lv_iadd hx hb dX10_findCosts_73 ?_
                      obtain ⟨h74, hf⟩ := if_in hf
                      refine lM_18 S hK hP h74 dX10_findCosts_74 ?_
                      refine lv_istore (lv' := [(6, .int (ga σ2 18 (((5 : Int32) * (v1 ||| ((1 : Int32) <<< (v5_26 &&& 31)))) + v3_2).toNatClampNeg)), (0, .ref (ad 0)), (1, .int v1), (2, .int v2), (3, .int v3_2), (4, .int v4_26), (5, .int v5_26)]) hx hb dX10_findCosts_75 hl (by decide) rfl (fun ls hl => ?_)
                      refine lv_iload hx hb dX10_findCosts_77 (lv_at hl 0 rfl) ?_
                      refine lv_iload hx hb dX10_findCosts_79 (lv_at hl 5 rfl) ?_
                      refine lv_icmp_ge (tgt := 89) hx hb dX10_findCosts_81 (by decide) (fun c81 => ?_) (fun c81 => ?_)
                      · have hf := ifp c81 hf
                        refine lv_iload hx hb dX10_findCosts_89 (lv_at hl 5 rfl) ?_
                        refine lv_istore (lv' := [(4, .int v4_26), (6, .int (ga σ2 18 (((5 : Int32) * (v1 ||| ((1 : Int32) <<< (v5_26 &&& 31)))) + v3_2).toNatClampNeg)), (0, .ref (ad 0)), (1, .int v1), (2, .int v2), (3, .int v3_2), (5, .int v5_26)]) hx hb dX10_findCosts_91 hl (by decide) rfl (fun ls hl => ?_)
                        refine lv_iinc (v := (v5_26 + (1 : Int32))) (lv' := [(5, .int (v5_26 + (1 : Int32))), (4, .int v4_26), (6, .int (ga σ2 18 (((5 : Int32) * (v1 ||| ((1 : Int32) <<< (v5_26 &&& 31)))) + v3_2).toNatClampNeg)), (0, .ref (ad 0)), (1, .int v1), (2, .int v2), (3, .int v3_2)]) hx hb dX10_findCosts_93 hl (k := 6) rfl rfl (by decide) rfl (fun ls hl => ?_)
                        refine lv_goto (tgt := 26) hx hb dX10_findCosts_96 (by decide) ?_
                        exact ih26 v4_26 (v5_26 + (1 : Int32)) H locs ls hf hP hD hS (lv_sub hl [3, 4, 5, 6, 1, 0] rfl)
                      · have hf := ifn c81 hf
                        refine lv_iload hx hb dX10_findCosts_84 (lv_at hl 0 rfl) ?_
                        refine lv_goto (tgt := 91) hx hb dX10_findCosts_86 (by decide) ?_
                        refine lv_istore (lv' := [(4, .int (ga σ2 18 (((5 : Int32) * (v1 ||| ((1 : Int32) <<< (v5_26 &&& 31)))) + v3_2).toNatClampNeg)), (6, .int (ga σ2 18 (((5 : Int32) * (v1 ||| ((1 : Int32) <<< (v5_26 &&& 31)))) + v3_2).toNatClampNeg)), (0, .ref (ad 0)), (1, .int v1), (2, .int v2), (3, .int v3_2), (5, .int v5_26)]) hx hb dX10_findCosts_91 hl (by decide) rfl (fun ls hl => ?_)
                        refine lv_iinc (v := (v5_26 + (1 : Int32))) (lv' := [(5, .int (v5_26 + (1 : Int32))), (4, .int (ga σ2 18 (((5 : Int32) * (v1 ||| ((1 : Int32) <<< (v5_26 &&& 31)))) + v3_2).toNatClampNeg)), (6, .int (ga σ2 18 (((5 : Int32) * (v1 ||| ((1 : Int32) <<< (v5_26 &&& 31)))) + v3_2).toNatClampNeg)), (0, .ref (ad 0)), (1, .int v1), (2, .int v2), (3, .int v3_2)]) hx hb dX10_findCosts_93 hl (k := 6) rfl rfl (by decide) rfl (fun ls hl => ?_)
                        refine lv_goto (tgt := 26) hx hb dX10_findCosts_96 (by decide) ?_
                        exact ih26 (ga σ2 18 (((5 : Int32) * (v1 ||| ((1 : Int32) <<< (v5_26 &&& 31)))) + v3_2).toNatClampNeg) (v5_26 + (1 : Int32)) H locs ls hf hP hD hS (lv_sub hl [3, 4, 5, 6, 1, 0] rfl)
          exact L26 KF (1000000 : Int32) (0 : Int32) H locs ls hf hP hD hS (lv_sub hl [2, 3, 4, 5, 1, 0] rfl)
        · have hf := ifp c12 hf
          refine lv_iconst (v := (0 : Int32)) hx hb dX10_findCosts_15 (by decide) ?_
          refine lv_goto (tgt := 21) hx hb dX10_findCosts_16 (by decide) ?_
          refine lv_istore (lv' := [(4, .int (0 : Int32)), (0, .ref (ad 0)), (1, .int v1), (2, .int v2), (3, .int v3_2)]) hx hb dX10_findCosts_21 hl (by decide) rfl (fun ls hl => ?_)
          refine lv_iconst (v := (0 : Int32)) hx hb dX10_findCosts_23 (by decide) ?_
          refine lv_istore (lv' := [(5, .int (0 : Int32)), (4, .int (0 : Int32)), (0, .ref (ad 0)), (1, .int v1), (2, .int v2), (3, .int v3_2)]) hx hb dX10_findCosts_24 hl (by decide) rfl (fun ls hl => ?_)
          have L26 : ∀ (n26 : Nat) (v4_26 : Int32) (v5_26 : Int32) (H : Heap) (locs : List Loc) (ls : Array Slot), fX10_findCosts_26 (fun σ2' v3_2' => fX10_findCosts_2 (fX10_findCosts_2_k v1 v2) v1 v2 n2 σ2' v3_2') (fX10_findCosts_26_k (fun σ2' v3_2' => fX10_findCosts_2 (fX10_findCosts_2_k v1 v2) v1 v2 n2 σ2' v3_2') σ2 v1 v2 v3_2) σ2 v1 v2 v3_2 n26 v4_26 v5_26 = some q → va_P D vwCl (wM cy ad aw ac σ2) H → va_D A (wM cy ad aw ac σ2) → va_S A s.heap H locs → lv_has ls 7 [(0, .ref (ad 0)), (1, .int v1), (2, .int v2), (3, .int v3_2), (4, .int v4_26), (5, .int v5_26)] → W p l e (Rm 2 47 0 0) s m [.ref (ad 0), .int v1, .int v2].toArray below meth c H locs 0 0 (Zv D (wM cy ad) A q aw ac below [.ref (ad 0), .int v1, .int v2].toArray s 0 0) (F0 m 26 ls []) := by
            intro n26
            induction n26 with
            | zero =>
              intro v4_26 v5_26 H locs ls hf
              cases hf
            | succ n26 ih26 =>
              intro v4_26 v5_26 H locs ls hf hP hD hS hl
              rw [fX10_findCosts_26] at hf
              refine lv_iload hx hb dX10_findCosts_26 (lv_at hl 5 rfl) ?_
              refine lv_aload_n hx hb dX10_findCosts_28 rfl (lv_at hl 0 rfl) ?_
              refine gM_m_stones S hK hP q961 dX10_findCosts_29 ?_
              refine lv_icmp_ge (tgt := 99) hx hb dX10_findCosts_32 (by decide) (fun c32 => ?_) (fun c32 => ?_)
              · have hf := ifp c32 hf
                have hl := lv_sub (l' := [(0, .ref (ad 0)), (1, .int v1), (2, .int v2), (3, .int v3_2), (4, .int v4_26), (5, .int v5_26)]) hl [0, 1, 2, 3, 4, 5] rfl
                unfold fX10_findCosts_26_k at hf
                refine lv_aload_n hx hb dX10_findCosts_99 rfl (lv_at hl 0 rfl) ?_
                refine gM_m_costs S hK hP q977 dX10_findCosts_100 ?_
                refine lv_iconst (v := (5 : Int32)) hx hb dX10_findCosts_103 (by decide) ?_
                refine lv_iload_n hx hb dX10_findCosts_104 rfl (lv_at hl 1 rfl) ?_
                refine lv_imul hx hb dX10_findCosts_105 ?_
                refine lv_iload_n hx hb dX10_findCosts_106 rfl (lv_at hl 3 rfl) ?_
                refine lv_iadd hx hb dX10_findCosts_107 ?_
                refine lv_iload hx hb dX10_findCosts_108 (lv_at hl 4 rfl) ?_
                obtain ⟨h110, hf⟩ := if_in hf
                refine tM_18 S hK hP hD hS h110 dX10_findCosts_110 (fun H locs hP hD hS => ?_)
                refine lv_iinc (v := (v3_2 + (1 : Int32))) (lv' := [(3, .int (v3_2 + (1 : Int32))), (0, .ref (ad 0)), (1, .int v1), (2, .int v2), (4, .int v4_26), (5, .int v5_26)]) hx hb dX10_findCosts_111 hl (k := 3) rfl rfl (by decide) rfl (fun ls hl => ?_)
                refine lv_goto (tgt := 2) hx hb dX10_findCosts_114 (by decide) ?_
                exact ih2 (v3_2 + (1 : Int32)) (sa σ2 18 (((5 : Int32) * v1) + v3_2).toNatClampNeg v4_26) H locs ls hf hP hD hS (lv_sub hl [1, 2, 3, 0] rfl)
              · have hf := ifn c32 hf
                refine lv_iload_n hx hb dX10_findCosts_35 rfl (lv_at hl 1 rfl) ?_
                refine lv_iload_n hx hb dX10_findCosts_36 rfl (lv_at hl 2 rfl) ?_
                refine lv_icmp_eq (tgt := 99) hx hb dX10_findCosts_37 (by decide) (fun c37 => ?_) (fun c37 => ?_)
                · have hf := ifp c37 hf
                  have hl := lv_sub (l' := [(0, .ref (ad 0)), (1, .int v1), (2, .int v2), (3, .int v3_2), (4, .int v4_26), (5, .int v5_26)]) hl [0, 1, 2, 3, 4, 5] rfl
                  unfold fX10_findCosts_26_k at hf
                  refine lv_aload_n hx hb dX10_findCosts_99 rfl (lv_at hl 0 rfl) ?_
                  refine gM_m_costs S hK hP q977 dX10_findCosts_100 ?_
                  refine lv_iconst (v := (5 : Int32)) hx hb dX10_findCosts_103 (by decide) ?_
                  refine lv_iload_n hx hb dX10_findCosts_104 rfl (lv_at hl 1 rfl) ?_
                  refine lv_imul hx hb dX10_findCosts_105 ?_
                  refine lv_iload_n hx hb dX10_findCosts_106 rfl (lv_at hl 3 rfl) ?_
                  refine lv_iadd hx hb dX10_findCosts_107 ?_
                  refine lv_iload hx hb dX10_findCosts_108 (lv_at hl 4 rfl) ?_
                  obtain ⟨h110, hf⟩ := if_in hf
                  refine tM_18 S hK hP hD hS h110 dX10_findCosts_110 (fun H locs hP hD hS => ?_)
                  refine lv_iinc (v := (v3_2 + (1 : Int32))) (lv' := [(3, .int (v3_2 + (1 : Int32))), (0, .ref (ad 0)), (1, .int v1), (2, .int v2), (4, .int v4_26), (5, .int v5_26)]) hx hb dX10_findCosts_111 hl (k := 3) rfl rfl (by decide) rfl (fun ls hl => ?_)
                  refine lv_goto (tgt := 2) hx hb dX10_findCosts_114 (by decide) ?_
                  exact ih2 (v3_2 + (1 : Int32)) (sa σ2 18 (((5 : Int32) * v1) + v3_2).toNatClampNeg v4_26) H locs ls hf hP hD hS (lv_sub hl [1, 2, 3, 0] rfl)
                · have hf := ifn c37 hf
                  refine lv_aload_n hx hb dX10_findCosts_40 rfl (lv_at hl 0 rfl) ?_
                  refine lv_iload_n hx hb dX10_findCosts_41 rfl (lv_at hl 3 rfl) ?_
                  refine lv_iload hx hb dX10_findCosts_42 (lv_at hl 5 rfl) ?_
                  obtain ⟨r44, h44, hf⟩ := ob_some hf
                  refine u_calli0 (u_runV (rest := []) S (c_X10_reachesOf l D cy ad σ2 v3_2 v5_26 r44 h44 aw ac H.size) iX10_reachesOf vX10_reachesOf q1303 ⟨Nat.le_of_ble_eq_true rfl, Nat.le_of_ble_eq_true rfl⟩ hK hP hD (q0 := 0) rfl rfl rfl hl.1 (Nat.le_of_ble_eq_true rfl) dX10_findCosts_44 ⟨Nat.le_refl _, Nat.le_refl _⟩) hD hS hA (fun H locs hP hD hS => ?_)
                  refine lv_if_eq (tgt := 93) hx hb dX10_findCosts_47 (by decide) (fun c47 => ?_) (fun c47 => ?_)
                  · have hf := ifp c47 hf
                    refine lv_iinc (v := (v5_26 + (1 : Int32))) (lv' := [(5, .int (v5_26 + (1 : Int32))), (0, .ref (ad 0)), (1, .int v1), (2, .int v2), (3, .int v3_2), (4, .int v4_26)]) hx hb dX10_findCosts_93 hl (k := 5) rfl rfl (by decide) rfl (fun ls hl => ?_)
                    refine lv_goto (tgt := 26) hx hb dX10_findCosts_96 (by decide) ?_
                    exact ih26 v4_26 (v5_26 + (1 : Int32)) H locs ls hf hP hD hS (lv_sub hl [1, 2, 3, 4, 5, 0] rfl)
                  · have hf := ifn c47 hf
                    refine lv_aload_n hx hb dX10_findCosts_50 rfl (lv_at hl 0 rfl) ?_
                    refine lv_iload_n hx hb dX10_findCosts_51 rfl (lv_at hl 1 rfl) ?_
                    refine lv_iload hx hb dX10_findCosts_52 (lv_at hl 5 rfl) ?_
                    obtain ⟨r54, h54, hf⟩ := ob_some hf
                    refine u_calli0 (u_runV (rest := []) S (c_X10_mayOf l D cy ad σ2 v1 v5_26 r54 h54 aw ac H.size) iX10_mayOf vX10_mayOf q1311 ⟨Nat.le_of_ble_eq_true rfl, Nat.le_of_ble_eq_true rfl⟩ hK hP hD (q0 := 0) rfl rfl rfl hl.1 (Nat.le_of_ble_eq_true rfl) dX10_findCosts_54 ⟨Nat.le_refl _, Nat.le_refl _⟩) hD hS hA (fun H locs hP hD hS => ?_)
                    refine lv_if_eq (tgt := 93) hx hb dX10_findCosts_57 (by decide) (fun c57 => ?_) (fun c57 => ?_)
                    · have hf := ifp c57 hf
                      refine lv_iinc (v := (v5_26 + (1 : Int32))) (lv' := [(5, .int (v5_26 + (1 : Int32))), (0, .ref (ad 0)), (1, .int v1), (2, .int v2), (3, .int v3_2), (4, .int v4_26)]) hx hb dX10_findCosts_93 hl (k := 5) rfl rfl (by decide) rfl (fun ls hl => ?_)
                      refine lv_goto (tgt := 26) hx hb dX10_findCosts_96 (by decide) ?_
                      exact ih26 v4_26 (v5_26 + (1 : Int32)) H locs ls hf hP hD hS (lv_sub hl [1, 2, 3, 4, 5, 0] rfl)
                    · have hf := ifn c57 hf
                      refine lv_aload_n hx hb dX10_findCosts_60 rfl (lv_at hl 0 rfl) ?_
                      refine gM_m_costs S hK hP q977 dX10_findCosts_61 ?_
                      refine lv_iconst (v := (5 : Int32)) hx hb dX10_findCosts_64 (by decide) ?_
                      refine lv_iload_n hx hb dX10_findCosts_65 rfl (lv_at hl 1 rfl) ?_
                      refine lv_iconst (v := (1 : Int32)) hx hb dX10_findCosts_66 (by decide) ?_
                      refine lv_iload hx hb dX10_findCosts_67 (lv_at hl 5 rfl) ?_
                      refine lv_ishl hx hb dX10_findCosts_69 ?_
                      refine lv_ior hx hb dX10_findCosts_70 ?_
                      refine lv_imul hx hb dX10_findCosts_71 ?_
                      refine lv_iload_n hx hb dX10_findCosts_72 rfl (lv_at hl 3 rfl) ?_
                      refine lv_iadd hx hb dX10_findCosts_73 ?_
                      obtain ⟨h74, hf⟩ := if_in hf
                      refine lM_18 S hK hP h74 dX10_findCosts_74 ?_
                      refine lv_istore (lv' := [(6, .int (ga σ2 18 (((5 : Int32) * (v1 ||| ((1 : Int32) <<< (v5_26 &&& 31)))) + v3_2).toNatClampNeg)), (0, .ref (ad 0)), (1, .int v1), (2, .int v2), (3, .int v3_2), (4, .int v4_26), (5, .int v5_26)]) hx hb dX10_findCosts_75 hl (by decide) rfl (fun ls hl => ?_)
                      refine lv_iload hx hb dX10_findCosts_77 (lv_at hl 0 rfl) ?_
                      refine lv_iload hx hb dX10_findCosts_79 (lv_at hl 5 rfl) ?_
                      refine lv_icmp_ge (tgt := 89) hx hb dX10_findCosts_81 (by decide) (fun c81 => ?_) (fun c81 => ?_)
                      · have hf := ifp c81 hf
                        refine lv_iload hx hb dX10_findCosts_89 (lv_at hl 5 rfl) ?_
                        refine lv_istore (lv' := [(4, .int v4_26), (6, .int (ga σ2 18 (((5 : Int32) * (v1 ||| ((1 : Int32) <<< (v5_26 &&& 31)))) + v3_2).toNatClampNeg)), (0, .ref (ad 0)), (1, .int v1), (2, .int v2), (3, .int v3_2), (5, .int v5_26)]) hx hb dX10_findCosts_91 hl (by decide) rfl (fun ls hl => ?_)
                        refine lv_iinc (v := (v5_26 + (1 : Int32))) (lv' := [(5, .int (v5_26 + (1 : Int32))), (4, .int v4_26), (6, .int (ga σ2 18 (((5 : Int32) * (v1 ||| ((1 : Int32) <<< (v5_26 &&& 31)))) + v3_2).toNatClampNeg)), (0, .ref (ad 0)), (1, .int v1), (2, .int v2), (3, .int v3_2)]) hx hb dX10_findCosts_93 hl (k := 6) rfl rfl (by decide) rfl (fun ls hl => ?_)
                        refine lv_goto (tgt := 26) hx hb dX10_findCosts_96 (by decide) ?_
                        exact ih26 v4_26 (v5_26 + (1 : Int32)) H locs ls hf hP hD hS (lv_sub hl [3, 4, 5, 6, 1, 0] rfl)
                      · have hf := ifn c81 hf
                        refine lv_iload hx hb dX10_findCosts_84 (lv_at hl 0 rfl) ?_
                        refine lv_goto (tgt := 91) hx hb dX10_findCosts_86 (by decide) ?_
                        refine lv_istore (lv' := [(4, .int (ga σ2 18 (((5 : Int32) * (v1 ||| ((1 : Int32) <<< (v5_26 &&& 31)))) + v3_2).toNatClampNeg)), (6, .int (ga σ2 18 (((5 : Int32) * (v1 ||| ((1 : Int32) <<< (v5_26 &&& 31)))) + v3_2).toNatClampNeg)), (0, .ref (ad 0)), (1, .int v1), (2, .int v2), (3, .int v3_2), (5, .int v5_26)]) hx hb dX10_findCosts_91 hl (by decide) rfl (fun ls hl => ?_)
                        refine lv_iinc (v := (v5_26 + (1 : Int32))) (lv' := [(5, .int (v5_26 + (1 : Int32))), (4, .int (ga σ2 18 (((5 : Int32) * (v1 ||| ((1 : Int32) <<< (v5_26 &&& 31)))) + v3_2).toNatClampNeg)), (6, .int (ga σ2 18 (((5 : Int32) * (v1 ||| ((1 : Int32) <<< (v5_26 &&& 31)))) + v3_2).toNatClampNeg)), (0, .ref (ad 0)), (1, .int v1), (2, .int v2), (3, .int v3_2)]) hx hb dX10_findCosts_93 hl (k := 6) rfl rfl (by decide) rfl (fun ls hl => ?_)
                        refine lv_goto (tgt := 26) hx hb dX10_findCosts_96 (by decide) ?_
                        exact ih26 (ga σ2 18 (((5 : Int32) * (v1 ||| ((1 : Int32) <<< (v5_26 &&& 31)))) + v3_2).toNatClampNeg) (v5_26 + (1 : Int32)) H locs ls hf hP hD hS (lv_sub hl [3, 4, 5, 6, 1, 0] rfl)
          exact L26 KF (0 : Int32) (0 : Int32) H locs ls hf hP hD hS (lv_sub hl [2, 3, 4, 5, 1, 0] rfl)
  exact L2 KF (0 : Int32) σ H locs ls hf hP hD hS (lv_sub hl [1, 2, 3, 0] rfl)
theorem iX10_actAt : YI yX10_actAt cX10_actAt 5 (some .int) 2 := ⟨q1339, q12, by decide, by decide, by decide +kernel⟩
theorem vX10_actAt : YV yX10_actAt := ⟨q1338, qs46⟩
set_option maxRecDepth 100000 in
set_option maxHeartbeats 4000000 in
theorem c_X10_actAt (l : Launch) (D : va_G) (cy : Nat → ClassId) (ad : Nat → Nat) (σ : St) (v1 : Int32) (v2 : Int32) (r : Int32) (hf : fX10_actAt σ v1 v2 = some r) : Ci l D cy (wM cy ad) yX10_actAt cX10_actAt 5 .int 2 47 [.ref (ad 0), .int v1, .int v2] σ r σ 0 0 := by
  refine Ci.enter (by decide) (Nat.le_of_ble_eq_true rfl) ?_
  intro aw ac p e s m below meth c A H locs S hr hlocks hA hK hP hD hS ls hl
  have hx := S.1
  have hb := S.2.1
  have hl : lv_has ls 5 [(0, .ref (ad 0)), (1, .int v1), (2, .int v2)] := hl
  unfold fX10_actAt at hf
  refine lv_aload_n hx hb dX10_actAt_0 rfl (lv_at hl 0 rfl) ?_
  refine gM_m_costs S hK hP q977 dX10_actAt_1 ?_
  refine lv_iconst (v := (5 : Int32)) hx hb dX10_actAt_4 (by decide) ?_
  refine lv_iload_n hx hb dX10_actAt_5 rfl (lv_at hl 1 rfl) ?_
  refine lv_imul hx hb dX10_actAt_6 ?_
  refine lv_iload_n hx hb dX10_actAt_7 rfl (lv_at hl 2 rfl) ?_
  refine lv_iadd hx hb dX10_actAt_8 ?_
  obtain ⟨h9, hf⟩ := if_in hf
  refine lM_18 S hK hP h9 dX10_actAt_9 ?_
  refine lv_istore_n (lv' := [(3, .int (ga σ 18 (((5 : Int32) * v1) + v2).toNatClampNeg)), (0, .ref (ad 0)), (1, .int v1), (2, .int v2)]) hx hb dX10_actAt_10 rfl hl (by decide) rfl (fun ls hl => ?_)
  refine lv_iconst (v := (0 : Int32)) hx hb dX10_actAt_11 (by decide) ?_
  refine lv_istore (lv' := [(4, .int (0 : Int32)), (3, .int (ga σ 18 (((5 : Int32) * v1) + v2).toNatClampNeg)), (0, .ref (ad 0)), (1, .int v1), (2, .int v2)]) hx hb dX10_actAt_12 hl (by decide) rfl (fun ls hl => ?_)
  have L14 : ∀ (n14 : Nat) (v3_14 : Int32) (v4_14 : Int32) (H : Heap) (locs : List Loc) (ls : Array Slot), fX10_actAt_14 (fX10_actAt_14_k σ v1 v2 v3_14) σ v1 v2 v3_14 n14 v4_14 = some r → va_P D vwCl (wM cy ad aw ac σ) H → va_D A (wM cy ad aw ac σ) → va_S A s.heap H locs → lv_has ls 5 [(0, .ref (ad 0)), (1, .int v1), (2, .int v2), (3, .int v3_14), (4, .int v4_14)] → W p l e (Rm 2 47 0 0) s m [.ref (ad 0), .int v1, .int v2].toArray below meth c H locs 0 0 (Zi D (wM cy ad) A r σ aw ac below [.ref (ad 0), .int v1, .int v2].toArray s 0 0) (F0 m 14 ls []) := by
    intro n14
    induction n14 with
    | zero =>
      intro v3_14 v4_14 H locs ls hf
      cases hf
    | succ n14 ih14 =>
      intro v3_14 v4_14 H locs ls hf hP hD hS hl
      rw [fX10_actAt_14] at hf
      refine lv_iload hx hb dX10_actAt_14 (lv_at hl 4 rfl) ?_
      refine lv_aload_n hx hb dX10_actAt_16 rfl (lv_at hl 0 rfl) ?_
      refine gM_m_stones S hK hP q961 dX10_actAt_17 ?_
      refine lv_icmp_ge (tgt := 71) hx hb dX10_actAt_20 (by decide) (fun c20 => ?_) (fun c20 => ?_)
      · have hf := ifp c20 hf
        have hl := lv_sub (l' := [(0, .ref (ad 0)), (1, .int v1), (2, .int v2), (3, .int v3_14), (4, .int v4_14)]) hl [0, 1, 2, 3, 4] rfl
        unfold fX10_actAt_14_k at hf
        refine lv_iconst (v := (0 : Int32)) hx hb dX10_actAt_71 (by decide) ?_
        refine lv_istore (lv' := [(4, .int (0 : Int32)), (0, .ref (ad 0)), (1, .int v1), (2, .int v2), (3, .int v3_14)]) hx hb dX10_actAt_72 hl (by decide) rfl (fun ls hl => ?_)
        have L74 : ∀ (n74 : Nat) (v4_74 : Int32) (H : Heap) (locs : List Loc) (ls : Array Slot), fX10_actAt_74 (fX10_actAt_74_k σ v1 v2 v3_14) σ v1 v2 v3_14 n74 v4_74 = some r → va_P D vwCl (wM cy ad aw ac σ) H → va_D A (wM cy ad aw ac σ) → va_S A s.heap H locs → lv_has ls 5 [(0, .ref (ad 0)), (1, .int v1), (2, .int v2), (3, .int v3_14), (4, .int v4_74)] → W p l e (Rm 2 47 0 0) s m [.ref (ad 0), .int v1, .int v2].toArray below meth c H locs 0 0 (Zi D (wM cy ad) A r σ aw ac below [.ref (ad 0), .int v1, .int v2].toArray s 0 0) (F0 m 74 ls []) := by
          intro n74
          induction n74 with
          | zero =>
            intro v4_74 H locs ls hf
            cases hf
          | succ n74 ih74 =>
            intro v4_74 H locs ls hf hP hD hS hl
            rw [fX10_actAt_74] at hf
            refine lv_iload hx hb dX10_actAt_74 (lv_at hl 4 rfl) ?_
            refine lv_iload_n hx hb dX10_actAt_76 rfl (lv_at hl 2 rfl) ?_
            refine lv_icmp_eq (tgt := 117) hx hb dX10_actAt_77 (by decide) (fun c77 => ?_) (fun c77 => ?_)
            · have hf := ifp c77 hf
              refine lv_iinc (v := (v4_74 + (1 : Int32))) (lv' := [(4, .int (v4_74 + (1 : Int32))), (0, .ref (ad 0)), (1, .int v1), (2, .int v2), (3, .int v3_14)]) hx hb dX10_actAt_117 hl (k := 4) rfl rfl (by decide) rfl (fun ls hl => ?_)
              refine lv_goto (tgt := 74) hx hb dX10_actAt_120 (by decide) ?_
              exact ih74 (v4_74 + (1 : Int32)) H locs ls hf hP hD hS (lv_sub hl [1, 2, 3, 4, 0] rfl)
            · have hf := ifn c77 hf
              refine lv_aload_n hx hb dX10_actAt_80 rfl (lv_at hl 0 rfl) ?_
              refine lv_iload_n hx hb dX10_actAt_81 rfl (lv_at hl 1 rfl) ?_
              refine lv_iload hx hb dX10_actAt_82 (lv_at hl 4 rfl) ?_
              obtain ⟨r84, h84, hf⟩ := ob_some hf
              refine u_calli0 (u_runV (rest := []) S (c_X10_isFree l D cy ad σ v1 v4_74 r84 h84 aw ac H.size) iX10_isFree vX10_isFree q1332 ⟨Nat.le_of_ble_eq_true rfl, Nat.le_of_ble_eq_true rfl⟩ hK hP hD (q0 := 0) rfl rfl rfl hl.1 (Nat.le_of_ble_eq_true rfl) dX10_actAt_84 ⟨Nat.le_refl _, Nat.le_refl _⟩) hD hS hA (fun H locs hP hD hS => ?_)
              refine lv_if_eq (tgt := 117) hx hb dX10_actAt_87 (by decide) (fun c87 => ?_) (fun c87 => ?_)
              · have hf := ifp c87 hf
                refine lv_iinc (v := (v4_74 + (1 : Int32))) (lv' := [(4, .int (v4_74 + (1 : Int32))), (0, .ref (ad 0)), (1, .int v1), (2, .int v2), (3, .int v3_14)]) hx hb dX10_actAt_117 hl (k := 4) rfl rfl (by decide) rfl (fun ls hl => ?_)
                refine lv_goto (tgt := 74) hx hb dX10_actAt_120 (by decide) ?_
                exact ih74 (v4_74 + (1 : Int32)) H locs ls hf hP hD hS (lv_sub hl [1, 2, 3, 4, 0] rfl)
              · have hf := ifn c87 hf
                refine lv_aload_n hx hb dX10_actAt_90 rfl (lv_at hl 0 rfl) ?_
                refine gM_m_prices S hK hP q972 dX10_actAt_91 ?_
                refine lv_iconst (v := (5 : Int32)) hx hb dX10_actAt_94 (by decide) ?_
                refine lv_iload_n hx hb dX10_actAt_95 rfl (lv_at hl 2 rfl) ?_
                refine lv_imul hx hb dX10_actAt_96 ?_
                refine lv_iload hx hb dX10_actAt_97 (lv_at hl 4 rfl) ?_
                refine lv_iadd hx hb dX10_actAt_99 ?_
                obtain ⟨h100, hf⟩ := if_in hf
                refine lM_16 S hK hP h100 dX10_actAt_100 ?_
                refine lv_aload_n hx hb dX10_actAt_101 rfl (lv_at hl 0 rfl) ?_
                refine gM_m_costs S hK hP q977 dX10_actAt_102 ?_
                refine lv_iconst (v := (5 : Int32)) hx hb dX10_actAt_105 (by decide) ?_
                refine lv_iload_n hx hb dX10_actAt_106 rfl (lv_at hl 1 rfl) ?_
                refine lv_imul hx hb dX10_actAt_107 ?_
                refine lv_iload hx hb dX10_actAt_108 (lv_at hl 4 rfl) ?_
                refine lv_iadd hx hb dX10_actAt_110 ?_
                obtain ⟨h111, hf⟩ := if_in hf
                refine lM_18 S hK hP h111 dX10_actAt_111 ?_
                refine lv_iadd hx hb dX10_actAt_112 ?_
                refine lv_iload_n hx hb dX10_actAt_113 rfl (lv_at hl 3 rfl) ?_
                refine lv_icmp_eq (tgt := 123) hx hb dX10_actAt_114 (by decide) (fun c114 => ?_) (fun c114 => ?_)
                · have hf := ifp c114 hf
                  have hl := lv_sub (l' := [(0, .ref (ad 0)), (1, .int v1), (2, .int v2), (3, .int v3_14), (4, .int v4_74)]) hl [0, 1, 2, 3, 4] rfl
                  unfold fX10_actAt_74_k at hf
                  refine lv_bipush (v := (100 : Int32)) hx hb dX10_actAt_123 (by decide) ?_
                  refine lv_iload hx hb dX10_actAt_125 (lv_at hl 4 rfl) ?_
                  refine lv_iadd hx hb dX10_actAt_127 ?_
                  exact u_iretr hx hb hr hlocks rfl hP hD hS dX10_actAt_128 hf (fun _ => rfl)
                · have hf := ifn c114 hf
                  refine lv_iinc (v := (v4_74 + (1 : Int32))) (lv' := [(4, .int (v4_74 + (1 : Int32))), (0, .ref (ad 0)), (1, .int v1), (2, .int v2), (3, .int v3_14)]) hx hb dX10_actAt_117 hl (k := 4) rfl rfl (by decide) rfl (fun ls hl => ?_)
                  refine lv_goto (tgt := 74) hx hb dX10_actAt_120 (by decide) ?_
                  exact ih74 (v4_74 + (1 : Int32)) H locs ls hf hP hD hS (lv_sub hl [1, 2, 3, 4, 0] rfl)
        exact L74 KF (0 : Int32) H locs ls hf hP hD hS (lv_sub hl [1, 2, 3, 4, 0] rfl)
      · have hf := ifn c20 hf
        refine lv_aload_n hx hb dX10_actAt_23 rfl (lv_at hl 0 rfl) ?_
        refine lv_iload_n hx hb dX10_actAt_24 rfl (lv_at hl 2 rfl) ?_
        refine lv_iload hx hb dX10_actAt_25 (lv_at hl 4 rfl) ?_
        obtain ⟨r27, h27, hf⟩ := ob_some hf
        refine u_calli0 (u_runV (rest := []) S (c_X10_reachesOf l D cy ad σ v2 v4_14 r27 h27 aw ac H.size) iX10_reachesOf vX10_reachesOf q1303 ⟨Nat.le_of_ble_eq_true rfl, Nat.le_of_ble_eq_true rfl⟩ hK hP hD (q0 := 0) rfl rfl rfl hl.1 (Nat.le_of_ble_eq_true rfl) dX10_actAt_27 ⟨Nat.le_refl _, Nat.le_refl _⟩) hD hS hA (fun H locs hP hD hS => ?_)
        refine lv_if_eq (tgt := 65) hx hb dX10_actAt_30 (by decide) (fun c30 => ?_) (fun c30 => ?_)
        · have hf := ifp c30 hf
          refine lv_iinc (v := (v4_14 + (1 : Int32))) (lv' := [(4, .int (v4_14 + (1 : Int32))), (0, .ref (ad 0)), (1, .int v1), (2, .int v2), (3, .int v3_14)]) hx hb dX10_actAt_65 hl (k := 4) rfl rfl (by decide) rfl (fun ls hl => ?_)
          refine lv_goto (tgt := 14) hx hb dX10_actAt_68 (by decide) ?_
          exact ih14 v3_14 (v4_14 + (1 : Int32)) H locs ls hf hP hD hS (lv_sub hl [1, 2, 3, 4, 0] rfl)
        · have hf := ifn c30 hf
          refine lv_aload_n hx hb dX10_actAt_33 rfl (lv_at hl 0 rfl) ?_
          refine lv_iload_n hx hb dX10_actAt_34 rfl (lv_at hl 1 rfl) ?_
          refine lv_iload hx hb dX10_actAt_35 (lv_at hl 4 rfl) ?_
          obtain ⟨r37, h37, hf⟩ := ob_some hf
          refine u_calli0 (u_runV (rest := []) S (c_X10_mayOf l D cy ad σ v1 v4_14 r37 h37 aw ac H.size) iX10_mayOf vX10_mayOf q1311 ⟨Nat.le_of_ble_eq_true rfl, Nat.le_of_ble_eq_true rfl⟩ hK hP hD (q0 := 0) rfl rfl rfl hl.1 (Nat.le_of_ble_eq_true rfl) dX10_actAt_37 ⟨Nat.le_refl _, Nat.le_refl _⟩) hD hS hA (fun H locs hP hD hS => ?_)
          refine lv_if_eq (tgt := 65) hx hb dX10_actAt_40 (by decide) (fun c40 => ?_) (fun c40 => ?_)
          · have hf := ifp c40 hf
            refine lv_iinc (v := (v4_14 + (1 : Int32))) (lv' := [(4, .int (v4_14 + (1 : Int32))), (0, .ref (ad 0)), (1, .int v1), (2, .int v2), (3, .int v3_14)]) hx hb dX10_actAt_65 hl (k := 4) rfl rfl (by decide) rfl (fun ls hl => ?_)
            refine lv_goto (tgt := 14) hx hb dX10_actAt_68 (by decide) ?_
            exact ih14 v3_14 (v4_14 + (1 : Int32)) H locs ls hf hP hD hS (lv_sub hl [1, 2, 3, 4, 0] rfl)
          · have hf := ifn c40 hf
            refine lv_aload_n hx hb dX10_actAt_43 rfl (lv_at hl 0 rfl) ?_
            refine gM_m_costs S hK hP q977 dX10_actAt_44 ?_
            refine lv_iconst (v := (5 : Int32)) hx hb dX10_actAt_47 (by decide) ?_
            refine lv_iload_n hx hb dX10_actAt_48 rfl (lv_at hl 1 rfl) ?_
            refine lv_iconst (v := (1 : Int32)) hx hb dX10_actAt_49 (by decide) ?_
            refine lv_iload hx hb dX10_actAt_50 (lv_at hl 4 rfl) ?_
            refine lv_ishl hx hb dX10_actAt_52 ?_
            refine lv_ior hx hb dX10_actAt_53 ?_
            refine lv_imul hx hb dX10_actAt_54 ?_
            refine lv_iload_n hx hb dX10_actAt_55 rfl (lv_at hl 2 rfl) ?_
            refine lv_iadd hx hb dX10_actAt_56 ?_
            obtain ⟨h57, hf⟩ := if_in hf
            refine lM_18 S hK hP h57 dX10_actAt_57 ?_
            refine lv_iload_n hx hb dX10_actAt_58 rfl (lv_at hl 3 rfl) ?_
            refine lv_icmp_ne (tgt := 65) hx hb dX10_actAt_59 (by decide) (fun c59 => ?_) (fun c59 => ?_)
            · have hf := ifn c59 hf
              refine lv_iinc (v := (v4_14 + (1 : Int32))) (lv' := [(4, .int (v4_14 + (1 : Int32))), (0, .ref (ad 0)), (1, .int v1), (2, .int v2), (3, .int v3_14)]) hx hb dX10_actAt_65 hl (k := 4) rfl rfl (by decide) rfl (fun ls hl => ?_)
              refine lv_goto (tgt := 14) hx hb dX10_actAt_68 (by decide) ?_
              exact ih14 v3_14 (v4_14 + (1 : Int32)) H locs ls hf hP hD hS (lv_sub hl [1, 2, 3, 4, 0] rfl)
            · have hf := ifp c59 hf
              refine lv_iload hx hb dX10_actAt_62 (lv_at hl 4 rfl) ?_
              exact u_iretr hx hb hr hlocks rfl hP hD hS dX10_actAt_64 hf (fun _ => rfl)
  exact L14 KF (ga σ 18 (((5 : Int32) * v1) + v2).toNatClampNeg) (0 : Int32) H locs ls hf hP hD hS (lv_sub hl [2, 3, 4, 1, 0] rfl)
