theorem iX10_isLoad : YI yX10_isLoad cX10_isLoad 1 (some .boolean) 1 := ⟨q1179, q12, by decide, by decide, by decide +kernel⟩
set_option maxRecDepth 100000 in
set_option maxHeartbeats 4000000 in
theorem c_X10_isLoad (l : Launch) (D : va_G) (cy : Nat → ClassId) (σ : St) (v0 : Int32) (r : Int32) (hf : fX10_isLoad v0 = some r) : Ci l D cy wN yX10_isLoad cX10_isLoad 1 .boolean 1 25 [.int v0] σ r σ 0 0 := by
  refine Ci.enter (by decide) (Nat.le_of_ble_eq_true rfl) ?_
  intro aw ac p e s m below meth c A H locs S hr hlocks hA hK hP hD hS ls hl
  have hx := S.1
  have hb := S.2.1
  have hl : lv_has ls 1 [(0, .int v0)] := hl
  unfold fX10_isLoad at hf
  refine lv_iload_n hx hb dX10_isLoad_0 rfl (lv_at hl 0 rfl) ?_
  refine lv_i2l (v := (v0).toInt64) hx hb dX10_isLoad_1 rfl ?_
  refine lv_lconst (v := (1 : Int64)) hx hb dX10_isLoad_2 (by decide) ?_
  refine lv_ldc2 hx hb S.2.2.2.1 (S.2.2.2.2 _ (List.mem_cons_of_mem _ q1180)) dX10_isLoad_3 ?_
  obtain ⟨r6, h6, hf⟩ := ob_some hf
  refine p_calli0 (u_runS (rest := []) S (c_X10_in l D cy σ ((v0).toInt64) (1 : Int64) (50000 : Int64) r6 h6 aw ac H.size) iX10_in q1112 q1111 ⟨Nat.le_of_ble_eq_true rfl, Nat.le_of_ble_eq_true rfl⟩ hK wN_P (wN_D (A := fun _ => True)) rfl hl.1 (Nat.le_of_ble_eq_true rfl) dX10_isLoad_6 ⟨Nat.le_refl _, Nat.le_refl _⟩) hP hS hA (fun H locs hP hS => ?_)
  obtain ⟨n9, hf⟩ := ifs hf
  exact u_iretr hx hb hr hlocks n9 hP hD hS dX10_isLoad_9 hf (fun _ => rfl)
theorem iX10_areMen : YI yX10_areMen cX10_areMen 2 (some .boolean) 1 := ⟨q1176, q12, by decide, by decide, by decide +kernel⟩
theorem vX10_areMen : YV yX10_areMen := ⟨q1175, qs30⟩
set_option maxRecDepth 100000 in
set_option maxHeartbeats 4000000 in
theorem c_X10_areMen (l : Launch) (D : va_G) (cy : Nat → ClassId) (ad : Nat → Nat) (σ : St) (v1 : Int32) (r : Int32) (hf : fX10_areMen σ v1 = some r) : Ci l D cy (wM cy ad) yX10_areMen cX10_areMen 2 .boolean 1 25 [.ref (ad 0), .int v1] σ r σ 0 0 := by
  refine Ci.enter (by decide) (Nat.le_of_ble_eq_true rfl) ?_
  intro aw ac p e s m below meth c A H locs S hr hlocks hA hK hP hD hS ls hl
  have hx := S.1
  have hb := S.2.1
  have hl : lv_has ls 2 [(0, .ref (ad 0)), (1, .int v1)] := hl
  unfold fX10_areMen at hf
  refine lv_iload_n hx hb dX10_areMen_0 rfl (lv_at hl 1 rfl) ?_
  refine lv_i2l (v := (v1).toInt64) hx hb dX10_areMen_1 rfl ?_
  refine lv_lconst (v := (0 : Int64)) hx hb dX10_areMen_2 (by decide) ?_
  refine lv_iconst (v := (1 : Int32)) hx hb dX10_areMen_3 (by decide) ?_
  refine lv_aload_n hx hb dX10_areMen_4 rfl (lv_at hl 0 rfl) ?_
  refine gM_m_men S hK hP q951 dX10_areMen_5 ?_
  refine lv_ishl hx hb dX10_areMen_8 ?_
  refine lv_iconst (v := (1 : Int32)) hx hb dX10_areMen_9 (by decide) ?_
  refine lv_isub hx hb dX10_areMen_10 ?_
  refine lv_i2l (v := ((((1 : Int32) <<< ((gi σ 6) &&& 31)) - (1 : Int32))).toInt64) hx hb dX10_areMen_11 rfl ?_
  obtain ⟨r12, h12, hf⟩ := ob_some hf
  refine p_calli0 (u_runS (rest := []) S (c_X10_in l D cy σ ((v1).toInt64) (0 : Int64) (((((1 : Int32) <<< ((gi σ 6) &&& 31)) - (1 : Int32))).toInt64) r12 h12 aw ac H.size) iX10_in q1112 q1111 ⟨Nat.le_of_ble_eq_true rfl, Nat.le_of_ble_eq_true rfl⟩ hK wN_P (wN_D (A := fun _ => True)) rfl hl.1 (Nat.le_of_ble_eq_true rfl) dX10_areMen_12 ⟨Nat.le_refl _, Nat.le_refl _⟩) hP hS hA (fun H locs hP hS => ?_)
  obtain ⟨n15, hf⟩ := ifs hf
  exact u_iretr hx hb hr hlocks n15 hP hD hS dX10_areMen_15 hf (fun _ => rfl)
theorem iX10_can : YI yX10_can cX10_can 4 (some .int) 3 := ⟨q1172, q12, by decide, by decide, by decide +kernel⟩
theorem vX10_can : YV yX10_can := ⟨q1170, q1171⟩
set_option maxRecDepth 100000 in
set_option maxHeartbeats 4000000 in
theorem c_X10_can (l : Launch) (D : va_G) (cy : Nat → ClassId) (ad : Nat → Nat) (σ : St) (v1 : Int32) (v2 : Int32) (v3 : Int32) (r : Int32) (hf : fX10_can σ v1 v2 v3 = some r) : Ci l D cy (wM cy ad) yX10_can cX10_can 4 .int 3 77 [.ref (ad 0), .int v1, .int v2, .int v3] σ r σ 0 0 := by
  refine Ci.enter (by decide) (Nat.le_of_ble_eq_true rfl) ?_
  intro aw ac p e s m below meth c A H locs S hr hlocks hA hK hP hD hS ls hl
  have hx := S.1
  have hb := S.2.1
  have hl : lv_has ls 4 [(0, .ref (ad 0)), (1, .int v1), (2, .int v2), (3, .int v3)] := hl
  unfold fX10_can at hf
  refine lv_aload_n hx hb dX10_can_0 rfl (lv_at hl 0 rfl) ?_
  refine lv_iload_n hx hb dX10_can_1 rfl (lv_at hl 1 rfl) ?_
  obtain ⟨r2, h2, hf⟩ := ob_some hf
  refine u_calli0 (u_runV (rest := []) S (c_X10_areMen l D cy ad σ v1 r2 h2 aw ac H.size) iX10_areMen vX10_areMen q1173 ⟨Nat.le_of_ble_eq_true rfl, Nat.le_of_ble_eq_true rfl⟩ hK hP hD (q0 := 0) rfl rfl rfl hl.1 (Nat.le_of_ble_eq_true rfl) dX10_can_2 ⟨Nat.le_refl _, Nat.le_refl _⟩) hD hS hA (fun H locs hP hD hS => ?_)
  refine lv_if_eq (tgt := 32) hx hb dX10_can_5 (by decide) (fun c5 => ?_) (fun c5 => ?_)
  · have hf := ifp c5 hf
    refine lv_bipush (v := (-2 : Int32)) hx hb dX10_can_32 (by decide) ?_
    exact u_iretr hx hb hr hlocks rfl hP hD hS dX10_can_34 hf (fun _ => rfl)
  · have hf := ifn c5 hf
    refine lv_iload_n hx hb dX10_can_8 rfl (lv_at hl 2 rfl) ?_
    obtain ⟨r9, h9, hf⟩ := ob_some hf
    refine p_calli0 (u_runS (rest := []) S (c_X10_isLoad l D cy σ v2 r9 h9 aw ac H.size) iX10_isLoad q1178 q1177 ⟨Nat.le_of_ble_eq_true rfl, Nat.le_of_ble_eq_true rfl⟩ hK wN_P (wN_D (A := fun _ => True)) rfl hl.1 (Nat.le_of_ble_eq_true rfl) dX10_can_9 ⟨Nat.le_refl _, Nat.le_refl _⟩) hP hS hA (fun H locs hP hS => ?_)
    refine lv_if_eq (tgt := 32) hx hb dX10_can_12 (by decide) (fun c12 => ?_) (fun c12 => ?_)
    · have hf := ifp c12 hf
      refine lv_bipush (v := (-2 : Int32)) hx hb dX10_can_32 (by decide) ?_
      exact u_iretr hx hb hr hlocks rfl hP hD hS dX10_can_34 hf (fun _ => rfl)
    · have hf := ifn c12 hf
      refine lv_iload_n hx hb dX10_can_15 rfl (lv_at hl 3 rfl) ?_
      obtain ⟨r16, h16, hf⟩ := ob_some hf
      refine p_calli0 (u_runS (rest := []) S (c_X10_isHeight l D cy σ v3 r16 h16 aw ac H.size) iX10_isHeight q1140 q1139 ⟨Nat.le_of_ble_eq_true rfl, Nat.le_of_ble_eq_true rfl⟩ hK wN_P (wN_D (A := fun _ => True)) rfl hl.1 (Nat.le_of_ble_eq_true rfl) dX10_can_16 ⟨Nat.le_refl _, Nat.le_refl _⟩) hP hS hA (fun H locs hP hS => ?_)
      refine lv_if_eq (tgt := 32) hx hb dX10_can_19 (by decide) (fun c19 => ?_) (fun c19 => ?_)
      · have hf := ifp c19 hf
        refine lv_bipush (v := (-2 : Int32)) hx hb dX10_can_32 (by decide) ?_
        exact u_iretr hx hb hr hlocks rfl hP hD hS dX10_can_34 hf (fun _ => rfl)
      · have hf := ifn c19 hf
        refine lv_aload_n hx hb dX10_can_22 rfl (lv_at hl 0 rfl) ?_
        refine lv_iload_n hx hb dX10_can_23 rfl (lv_at hl 1 rfl) ?_
        refine lv_iload_n hx hb dX10_can_24 rfl (lv_at hl 2 rfl) ?_
        refine lv_iload_n hx hb dX10_can_25 rfl (lv_at hl 3 rfl) ?_
        obtain ⟨r26, h26, hf⟩ := ob_some hf
        refine u_calli0 (u_runV (rest := []) S (c_X10_canOf l D cy ad σ v1 v2 v3 r26 h26 aw ac H.size) iX10_canOf vX10_canOf q1181 ⟨Nat.le_of_ble_eq_true rfl, Nat.le_of_ble_eq_true rfl⟩ hK hP hD (q0 := 0) rfl rfl rfl hl.1 (Nat.le_of_ble_eq_true rfl) dX10_can_26 ⟨Nat.le_refl _, Nat.le_refl _⟩) hD hS hA (fun H locs hP hD hS => ?_)
        refine lv_goto (tgt := 34) hx hb dX10_can_29 (by decide) ?_
        exact u_iretr hx hb hr hlocks rfl hP hD hS dX10_can_34 hf (fun _ => rfl)
theorem iX10_ones : YI yX10_ones cX10_ones 3 (some .int) 1 := ⟨q1195, q12, by decide, by decide, by decide +kernel⟩
set_option maxRecDepth 100000 in
set_option maxHeartbeats 4000000 in
theorem c_X10_ones (l : Launch) (D : va_G) (cy : Nat → ClassId) (σ : St) (v0 : Int32) (r : Int32) (hf : fX10_ones v0 = some r) : Ci l D cy wN yX10_ones cX10_ones 3 .int 0 0 [.int v0] σ r σ 0 0 := by
  refine Ci.enter (by decide) (Nat.le_of_ble_eq_true rfl) ?_
  intro aw ac p e s m below meth c A H locs S hr hlocks hA hK hP hD hS ls hl
  have hx := S.1
  have hb := S.2.1
  have hl : lv_has ls 3 [(0, .int v0)] := hl
  unfold fX10_ones at hf
  refine lv_iconst (v := (0 : Int32)) hx hb dX10_ones_0 (by decide) ?_
  refine lv_istore_n (lv' := [(1, .int (0 : Int32)), (0, .int v0)]) hx hb dX10_ones_1 rfl hl (by decide) rfl (fun ls hl => ?_)
  refine lv_iconst (v := (0 : Int32)) hx hb dX10_ones_2 (by decide) ?_
  refine lv_istore_n (lv' := [(2, .int (0 : Int32)), (1, .int (0 : Int32)), (0, .int v0)]) hx hb dX10_ones_3 rfl hl (by decide) rfl (fun ls hl => ?_)
  have L4 : ∀ (n4 : Nat) (v1_4 : Int32) (v2_4 : Int32) (H : Heap) (locs : List Loc) (ls : Array Slot), fX10_ones_4 (fX10_ones_4_k v0) v0 n4 v1_4 v2_4 = some r → va_P D vwCl (wN aw ac σ) H → va_D A (wN aw ac σ) → va_S A s.heap H locs → lv_has ls 3 [(0, .int v0), (1, .int v1_4), (2, .int v2_4)] → W p l e (Rm 0 0 0 0) s m [.int v0].toArray below meth c H locs 0 0 (Zi D wN A r σ aw ac below [.int v0].toArray s 0 0) (F0 m 4 ls []) := by
    intro n4
    induction n4 with
    | zero =>
      intro v1_4 v2_4 H locs ls hf
      cases hf
    | succ n4 ih4 =>
      intro v1_4 v2_4 H locs ls hf hP hD hS hl
      rw [fX10_ones_4] at hf
      refine lv_iload_n hx hb dX10_ones_4 rfl (lv_at hl 2 rfl) ?_
      refine lv_bipush (v := (20 : Int32)) hx hb dX10_ones_5 (by decide) ?_
      refine lv_icmp_ge (tgt := 24) hx hb dX10_ones_7 (by decide) (fun c7 => ?_) (fun c7 => ?_)
      · have hf := ifp c7 hf
        have hl := lv_sub (l' := [(0, .int v0), (1, .int v1_4), (2, .int v2_4)]) hl [0, 1, 2] rfl
        unfold fX10_ones_4_k at hf
        refine lv_iload_n hx hb dX10_ones_24 rfl (lv_at hl 1 rfl) ?_
        exact u_iretr hx hb hr hlocks rfl hP hD hS dX10_ones_25 hf (fun _ => rfl)
      · have hf := ifn c7 hf
        refine lv_iload_n hx hb dX10_ones_10 rfl (lv_at hl 1 rfl) ?_
        refine lv_iload_n hx hb dX10_ones_11 rfl (lv_at hl 0 rfl) ?_
        refine lv_iload_n hx hb dX10_ones_12 rfl (lv_at hl 2 rfl) ?_
        refine lv_ishr hx hb dX10_ones_13 ?_
        refine lv_iconst (v := (1 : Int32)) hx hb dX10_ones_14 (by decide) ?_
        refine lv_iand hx hb dX10_ones_15 ?_
        refine lv_iadd hx hb dX10_ones_16 ?_
        refine lv_istore_n (lv' := [(1, .int (v1_4 + ((v0 >>> (v2_4 &&& 31)) &&& (1 : Int32)))), (0, .int v0), (2, .int v2_4)]) hx hb dX10_ones_17 rfl hl (by decide) rfl (fun ls hl => ?_)
        refine lv_iinc (v := (v2_4 + (1 : Int32))) (lv' := [(2, .int (v2_4 + (1 : Int32))), (1, .int (v1_4 + ((v0 >>> (v2_4 &&& 31)) &&& (1 : Int32)))), (0, .int v0)]) hx hb dX10_ones_18 hl (k := 2) rfl rfl (by decide) rfl (fun ls hl => ?_)
        refine lv_goto (tgt := 4) hx hb dX10_ones_21 (by decide) ?_
        exact ih4 (v1_4 + ((v0 >>> (v2_4 &&& 31)) &&& (1 : Int32))) (v2_4 + (1 : Int32)) H locs ls hf hP hD hS (lv_sub hl [2, 1, 0] rfl)
  exact L4 KF (0 : Int32) (0 : Int32) H locs ls hf hP hD hS (lv_sub hl [2, 1, 0] rfl)
theorem iX10_fewest : YI yX10_fewest cX10_fewest 6 (some .int) 2 := ⟨q1192, q12, by decide, by decide, by decide +kernel⟩
theorem vX10_fewest : YV yX10_fewest := ⟨q1190, q1191⟩
set_option maxRecDepth 100000 in
set_option maxHeartbeats 4000000 in
theorem c_X10_fewest (l : Launch) (D : va_G) (cy : Nat → ClassId) (ad : Nat → Nat) (σ : St) (v1 : Int32) (v2 : Int32) (r : Int32) (hf : fX10_fewest σ v1 v2 = some r) : Ci l D cy (wM cy ad) yX10_fewest cX10_fewest 6 .int 3 77 [.ref (ad 0), .int v1, .int v2] σ r σ 0 0 := by
  refine Ci.enter (by decide) (Nat.le_of_ble_eq_true rfl) ?_
  intro aw ac p e s m below meth c A H locs S hr hlocks hA hK hP hD hS ls hl
  have hx := S.1
  have hb := S.2.1
  have hl : lv_has ls 6 [(0, .ref (ad 0)), (1, .int v1), (2, .int v2)] := hl
  unfold fX10_fewest at hf
  refine lv_iload_n hx hb dX10_fewest_0 rfl (lv_at hl 1 rfl) ?_
  obtain ⟨r1, h1, hf⟩ := ob_some hf
  refine p_calli0 (u_runS (rest := []) S (c_X10_isLoad l D cy σ v1 r1 h1 aw ac H.size) iX10_isLoad q1178 q1177 ⟨Nat.le_of_ble_eq_true rfl, Nat.le_of_ble_eq_true rfl⟩ hK wN_P (wN_D (A := fun _ => True)) rfl hl.1 (Nat.le_of_ble_eq_true rfl) dX10_fewest_1 ⟨Nat.le_refl _, Nat.le_refl _⟩) hP hS hA (fun H locs hP hS => ?_)
  refine lv_if_eq (tgt := 14) hx hb dX10_fewest_4 (by decide) (fun c4 => ?_) (fun c4 => ?_)
  · have hf := ifp c4 hf
    refine lv_bipush (v := (-2 : Int32)) hx hb dX10_fewest_14 (by decide) ?_
    exact u_iretr hx hb hr hlocks rfl hP hD hS dX10_fewest_16 hf (fun _ => rfl)
  · have hf := ifn c4 hf
    refine lv_iload_n hx hb dX10_fewest_7 rfl (lv_at hl 2 rfl) ?_
    obtain ⟨r8, h8, hf⟩ := ob_some hf
    refine p_calli0 (u_runS (rest := []) S (c_X10_isHeight l D cy σ v2 r8 h8 aw ac H.size) iX10_isHeight q1140 q1139 ⟨Nat.le_of_ble_eq_true rfl, Nat.le_of_ble_eq_true rfl⟩ hK wN_P (wN_D (A := fun _ => True)) rfl hl.1 (Nat.le_of_ble_eq_true rfl) dX10_fewest_8 ⟨Nat.le_refl _, Nat.le_refl _⟩) hP hS hA (fun H locs hP hS => ?_)
    refine lv_if_ne (tgt := 17) hx hb dX10_fewest_11 (by decide) (fun c11 => ?_) (fun c11 => ?_)
    · have hf := ifn c11 hf
      refine lv_iconst (v := (-1 : Int32)) hx hb dX10_fewest_17 (by decide) ?_
      refine lv_istore_n (lv' := [(3, .int (-1 : Int32)), (0, .ref (ad 0)), (1, .int v1), (2, .int v2)]) hx hb dX10_fewest_18 rfl hl (by decide) rfl (fun ls hl => ?_)
      refine lv_iconst (v := (1 : Int32)) hx hb dX10_fewest_19 (by decide) ?_
      refine lv_istore (lv' := [(4, .int (1 : Int32)), (3, .int (-1 : Int32)), (0, .ref (ad 0)), (1, .int v1), (2, .int v2)]) hx hb dX10_fewest_20 hl (by decide) rfl (fun ls hl => ?_)
      have L22 : ∀ (n22 : Nat) (v3_22 : Int32) (v4_22 : Int32) (H : Heap) (locs : List Loc) (ls : Array Slot), fX10_fewest_22 (fX10_fewest_22_k σ v1 v2) σ v1 v2 n22 v3_22 v4_22 = some r → va_P D vwCl (wM cy ad aw ac σ) H → va_D A (wM cy ad aw ac σ) → va_S A s.heap H locs → lv_has ls 6 [(0, .ref (ad 0)), (1, .int v1), (2, .int v2), (3, .int v3_22), (4, .int v4_22)] → W p l e (Rm 3 77 0 0) s m [.ref (ad 0), .int v1, .int v2].toArray below meth c H locs 0 0 (Zi D (wM cy ad) A r σ aw ac below [.ref (ad 0), .int v1, .int v2].toArray s 0 0) (F0 m 22 ls []) := by
        intro n22
        induction n22 with
        | zero =>
          intro v3_22 v4_22 H locs ls hf
          cases hf
        | succ n22 ih22 =>
          intro v3_22 v4_22 H locs ls hf hP hD hS hl
          rw [fX10_fewest_22] at hf
          refine lv_iload hx hb dX10_fewest_22 (lv_at hl 4 rfl) ?_
          refine lv_iconst (v := (1 : Int32)) hx hb dX10_fewest_24 (by decide) ?_
          refine lv_aload_n hx hb dX10_fewest_25 rfl (lv_at hl 0 rfl) ?_
          refine gM_m_men S hK hP q951 dX10_fewest_26 ?_
          refine lv_ishl hx hb dX10_fewest_29 ?_
          refine lv_icmp_ge (tgt := 112) hx hb dX10_fewest_30 (by decide) (fun c30 => ?_) (fun c30 => ?_)
          · have hf := ifp c30 hf
            have hl := lv_sub (l' := [(0, .ref (ad 0)), (1, .int v1), (2, .int v2), (3, .int v3_22), (4, .int v4_22)]) hl [0, 1, 2, 3, 4] rfl
            unfold fX10_fewest_22_k at hf
            refine lv_iload_n hx hb dX10_fewest_112 rfl (lv_at hl 3 rfl) ?_
            exact u_iretr hx hb hr hlocks rfl hP hD hS dX10_fewest_113 hf (fun _ => rfl)
          · have hf := ifn c30 hf
            refine lv_aload_n hx hb dX10_fewest_33 rfl (lv_at hl 0 rfl) ?_
            refine lv_iload hx hb dX10_fewest_34 (lv_at hl 4 rfl) ?_
            refine lv_iload_n hx hb dX10_fewest_36 rfl (lv_at hl 1 rfl) ?_
            refine lv_iload_n hx hb dX10_fewest_37 rfl (lv_at hl 2 rfl) ?_
            obtain ⟨r38, h38, hf⟩ := ob_some hf
            refine u_calli0 (u_runV (rest := []) S (c_X10_canOf l D cy ad σ v4_22 v1 v2 r38 h38 aw ac H.size) iX10_canOf vX10_canOf q1181 ⟨Nat.le_of_ble_eq_true rfl, Nat.le_of_ble_eq_true rfl⟩ hK hP hD (q0 := 0) rfl rfl rfl hl.1 (Nat.le_of_ble_eq_true rfl) dX10_fewest_38 ⟨Nat.le_refl _, Nat.le_refl _⟩) hD hS hA (fun H locs hP hD hS => ?_)
            refine lv_iconst (v := (1 : Int32)) hx hb dX10_fewest_41 (by decide) ?_
            refine lv_icmp_ne (tgt := 106) hx hb dX10_fewest_42 (by decide) (fun c42 => ?_) (fun c42 => ?_)
            · have hf := ifn c42 hf
              refine lv_iinc (v := (v4_22 + (1 : Int32))) (lv' := [(4, .int (v4_22 + (1 : Int32))), (0, .ref (ad 0)), (1, .int v1), (2, .int v2), (3, .int v3_22)]) hx hb dX10_fewest_106 hl (k := 4) rfl rfl (by decide) rfl (fun ls hl => ?_)
              refine lv_goto (tgt := 22) hx hb dX10_fewest_109 (by decide) ?_
              exact ih22 v3_22 (v4_22 + (1 : Int32)) H locs ls hf hP hD hS (lv_sub hl [1, 2, 3, 4, 0] rfl)
            · have hf := ifp c42 hf
              refine lv_iload_n hx hb dX10_fewest_45 rfl (lv_at hl 3 rfl) ?_
              refine lv_if_lt (tgt := 87) hx hb dX10_fewest_46 (by decide) (fun c46 => ?_) (fun c46 => ?_)
              · have hf := ifp c46 hf
                refine lv_iconst (v := (1 : Int32)) hx hb dX10_fewest_87 (by decide) ?_
                refine lv_goto (tgt := 92) hx hb dX10_fewest_88 (by decide) ?_
                refine lv_istore (lv' := [(5, .int (1 : Int32)), (0, .ref (ad 0)), (1, .int v1), (2, .int v2), (3, .int v3_22), (4, .int v4_22)]) hx hb dX10_fewest_92 hl (by decide) rfl (fun ls hl => ?_)
                refine lv_iload hx hb dX10_fewest_94 (lv_at hl 0 rfl) ?_
                refine lv_if_eq (tgt := 104) hx hb dX10_fewest_96 (by decide) (fun c_ => absurd c_ (by decide)) (fun _ => ?_)
                refine lv_iload hx hb dX10_fewest_99 (lv_at hl 5 rfl) ?_
                refine lv_goto (tgt := 105) hx hb dX10_fewest_101 (by decide) ?_
                refine lv_istore_n (lv' := [(3, .int v4_22), (5, .int (1 : Int32)), (0, .ref (ad 0)), (1, .int v1), (2, .int v2), (4, .int v4_22)]) hx hb dX10_fewest_105 rfl hl (by decide) rfl (fun ls hl => ?_)
                refine lv_iinc (v := (v4_22 + (1 : Int32))) (lv' := [(4, .int (v4_22 + (1 : Int32))), (3, .int v4_22), (5, .int (1 : Int32)), (0, .ref (ad 0)), (1, .int v1), (2, .int v2)]) hx hb dX10_fewest_106 hl (k := 5) rfl rfl (by decide) rfl (fun ls hl => ?_)
                refine lv_goto (tgt := 22) hx hb dX10_fewest_109 (by decide) ?_
                exact ih22 v4_22 (v4_22 + (1 : Int32)) H locs ls hf hP hD hS (lv_sub hl [3, 4, 5, 1, 0] rfl)
              · have hf := ifn c46 hf
                refine lv_iload hx hb dX10_fewest_49 (lv_at hl 4 rfl) ?_
                obtain ⟨r51, h51, hf⟩ := ob_some hf
                refine p_calli0 (u_runS (rest := []) S (c_X10_ones l D cy σ v4_22 r51 h51 aw ac H.size) iX10_ones q1194 q1193 ⟨Nat.le_of_ble_eq_true rfl, Nat.le_of_ble_eq_true rfl⟩ hK wN_P (wN_D (A := fun _ => True)) rfl hl.1 (Nat.le_of_ble_eq_true rfl) dX10_fewest_51 ⟨Nat.le_refl _, Nat.le_refl _⟩) hP hS hA (fun H locs hP hS => ?_)
                refine lv_iload_n hx hb dX10_fewest_54 rfl (lv_at hl 3 rfl) ?_
                obtain ⟨r55, h55, hf⟩ := ob_some hf
                refine p_calli0 (u_runS (rest := [.int r51]) S (c_X10_ones l D cy σ v3_22 r55 h55 aw ac H.size) iX10_ones q1194 q1193 ⟨Nat.le_of_ble_eq_true rfl, Nat.le_of_ble_eq_true rfl⟩ hK wN_P (wN_D (A := fun _ => True)) rfl hl.1 (Nat.le_of_ble_eq_true rfl) dX10_fewest_55 ⟨Nat.le_refl _, Nat.le_refl _⟩) hP hS hA (fun H locs hP hS => ?_)
                refine lv_icmp_lt (tgt := 87) hx hb dX10_fewest_58 (by decide) (fun c58 => ?_) (fun c58 => ?_)
                · have hf := ifp c58 hf
                  refine lv_iconst (v := (1 : Int32)) hx hb dX10_fewest_87 (by decide) ?_
                  refine lv_goto (tgt := 92) hx hb dX10_fewest_88 (by decide) ?_
                  refine lv_istore (lv' := [(5, .int (1 : Int32)), (0, .ref (ad 0)), (1, .int v1), (2, .int v2), (3, .int v3_22), (4, .int v4_22)]) hx hb dX10_fewest_92 hl (by decide) rfl (fun ls hl => ?_)
                  refine lv_iload hx hb dX10_fewest_94 (lv_at hl 0 rfl) ?_
                  refine lv_if_eq (tgt := 104) hx hb dX10_fewest_96 (by decide) (fun c_ => absurd c_ (by decide)) (fun _ => ?_)
                  refine lv_iload hx hb dX10_fewest_99 (lv_at hl 5 rfl) ?_
                  refine lv_goto (tgt := 105) hx hb dX10_fewest_101 (by decide) ?_
                  refine lv_istore_n (lv' := [(3, .int v4_22), (5, .int (1 : Int32)), (0, .ref (ad 0)), (1, .int v1), (2, .int v2), (4, .int v4_22)]) hx hb dX10_fewest_105 rfl hl (by decide) rfl (fun ls hl => ?_)
                  refine lv_iinc (v := (v4_22 + (1 : Int32))) (lv' := [(4, .int (v4_22 + (1 : Int32))), (3, .int v4_22), (5, .int (1 : Int32)), (0, .ref (ad 0)), (1, .int v1), (2, .int v2)]) hx hb dX10_fewest_106 hl (k := 5) rfl rfl (by decide) rfl (fun ls hl => ?_)
                  refine lv_goto (tgt := 22) hx hb dX10_fewest_109 (by decide) ?_
                  exact ih22 v4_22 (v4_22 + (1 : Int32)) H locs ls hf hP hD hS (lv_sub hl [3, 4, 5, 1, 0] rfl)
                · have hf := ifn c58 hf
                  refine lv_iload hx hb dX10_fewest_61 (lv_at hl 4 rfl) ?_
                  obtain ⟨r63, h63, hf⟩ := ob_some hf
                  refine p_calli0 (u_runS (rest := []) S (c_X10_ones l D cy σ v4_22 r63 h63 aw ac H.size) iX10_ones q1194 q1193 ⟨Nat.le_of_ble_eq_true rfl, Nat.le_of_ble_eq_true rfl⟩ hK wN_P (wN_D (A := fun _ => True)) rfl hl.1 (Nat.le_of_ble_eq_true rfl) dX10_fewest_63 ⟨Nat.le_refl _, Nat.le_refl _⟩) hP hS hA (fun H locs hP hS => ?_)
                  refine lv_iload_n hx hb dX10_fewest_66 rfl (lv_at hl 3 rfl) ?_
                  obtain ⟨r67, h67, hf⟩ := ob_some hf
                  refine p_calli0 (u_runS (rest := [.int r63]) S (c_X10_ones l D cy σ v3_22 r67 h67 aw ac H.size) iX10_ones q1194 q1193 ⟨Nat.le_of_ble_eq_true rfl, Nat.le_of_ble_eq_true rfl⟩ hK wN_P (wN_D (A := fun _ => True)) rfl hl.1 (Nat.le_of_ble_eq_true rfl) dX10_fewest_67 ⟨Nat.le_refl _, Nat.le_refl _⟩) hP hS hA (fun H locs hP hS => ?_)
                  refine lv_icmp_ne (tgt := 91) hx hb dX10_fewest_70 (by decide) (fun c70 => ?_) (fun c70 => ?_)
                  · have hf := ifn c70 hf
                    refine lv_iconst (v := (0 : Int32)) hx hb dX10_fewest_91 (by decide) ?_
                    refine lv_istore (lv' := [(5, .int (0 : Int32)), (0, .ref (ad 0)), (1, .int v1), (2, .int v2), (3, .int v3_22), (4, .int v4_22)]) hx hb dX10_fewest_92 hl (by decide) rfl (fun ls hl => ?_)
                    refine lv_iload hx hb dX10_fewest_94 (lv_at hl 0 rfl) ?_
                    refine lv_if_eq (tgt := 104) hx hb dX10_fewest_96 (by decide) (fun _ => ?_) (fun c_ => absurd c_ (by decide))
                    refine lv_iload_n hx hb dX10_fewest_104 rfl (lv_at hl 4 rfl) ?_
                    refine lv_istore_n (lv' := [(3, .int v3_22), (5, .int (0 : Int32)), (0, .ref (ad 0)), (1, .int v1), (2, .int v2), (4, .int v4_22)]) hx hb dX10_fewest_105 rfl hl (by decide) rfl (fun ls hl => ?_)
                    refine lv_iinc (v := (v4_22 + (1 : Int32))) (lv' := [(4, .int (v4_22 + (1 : Int32))), (3, .int v3_22), (5, .int (0 : Int32)), (0, .ref (ad 0)), (1, .int v1), (2, .int v2)]) hx hb dX10_fewest_106 hl (k := 5) rfl rfl (by decide) rfl (fun ls hl => ?_)
                    refine lv_goto (tgt := 22) hx hb dX10_fewest_109 (by decide) ?_
                    exact ih22 v3_22 (v4_22 + (1 : Int32)) H locs ls hf hP hD hS (lv_sub hl [3, 4, 5, 1, 0] rfl)
                  · have hf := ifp c70 hf
                    refine lv_aload_n hx hb dX10_fewest_73 rfl (lv_at hl 0 rfl) ?_
                    refine lv_iload hx hb dX10_fewest_74 (lv_at hl 4 rfl) ?_
                    obtain ⟨r76, h76, hf⟩ := ob_some hf
                    refine u_calli0 (u_runV (rest := []) S (c_X10_weightOf l D cy ad σ v4_22 r76 h76 aw ac H.size) iX10_weightOf vX10_weightOf q1185 ⟨Nat.le_of_ble_eq_true rfl, Nat.le_of_ble_eq_true rfl⟩ hK hP hD (q0 := 0) rfl rfl rfl hl.1 (Nat.le_of_ble_eq_true rfl) dX10_fewest_76 ⟨Nat.le_refl _, Nat.le_refl _⟩) hD hS hA (fun H locs hP hD hS => ?_)
                    refine lv_aload_n hx hb dX10_fewest_79 rfl (lv_at hl 0 rfl) ?_
                    refine lv_iload_n hx hb dX10_fewest_80 rfl (lv_at hl 3 rfl) ?_
                    obtain ⟨r81, h81, hf⟩ := ob_some hf
                    refine u_calli0 (u_runV (rest := [.int r76]) S (c_X10_weightOf l D cy ad σ v3_22 r81 h81 aw ac H.size) iX10_weightOf vX10_weightOf q1185 ⟨Nat.le_of_ble_eq_true rfl, Nat.le_of_ble_eq_true rfl⟩ hK hP hD (q0 := 0) rfl rfl rfl hl.1 (Nat.le_of_ble_eq_true rfl) dX10_fewest_81 ⟨Nat.le_refl _, Nat.le_refl _⟩) hD hS hA (fun H locs hP hD hS => ?_)
                    refine lv_icmp_ge (tgt := 91) hx hb dX10_fewest_84 (by decide) (fun c84 => ?_) (fun c84 => ?_)
                    · have hf := ifp c84 hf
                      refine lv_iconst (v := (0 : Int32)) hx hb dX10_fewest_91 (by decide) ?_
                      refine lv_istore (lv' := [(5, .int (0 : Int32)), (0, .ref (ad 0)), (1, .int v1), (2, .int v2), (3, .int v3_22), (4, .int v4_22)]) hx hb dX10_fewest_92 hl (by decide) rfl (fun ls hl => ?_)
                      refine lv_iload hx hb dX10_fewest_94 (lv_at hl 0 rfl) ?_
                      refine lv_if_eq (tgt := 104) hx hb dX10_fewest_96 (by decide) (fun _ => ?_) (fun c_ => absurd c_ (by decide))
                      refine lv_iload_n hx hb dX10_fewest_104 rfl (lv_at hl 4 rfl) ?_
                      refine lv_istore_n (lv' := [(3, .int v3_22), (5, .int (0 : Int32)), (0, .ref (ad 0)), (1, .int v1), (2, .int v2), (4, .int v4_22)]) hx hb dX10_fewest_105 rfl hl (by decide) rfl (fun ls hl => ?_)
                      refine lv_iinc (v := (v4_22 + (1 : Int32))) (lv' := [(4, .int (v4_22 + (1 : Int32))), (3, .int v3_22), (5, .int (0 : Int32)), (0, .ref (ad 0)), (1, .int v1), (2, .int v2)]) hx hb dX10_fewest_106 hl (k := 5) rfl rfl (by decide) rfl (fun ls hl => ?_)
                      refine lv_goto (tgt := 22) hx hb dX10_fewest_109 (by decide) ?_
                      exact ih22 v3_22 (v4_22 + (1 : Int32)) H locs ls hf hP hD hS (lv_sub hl [3, 4, 5, 1, 0] rfl)
                    · have hf := ifn c84 hf
                      refine lv_iconst (v := (1 : Int32)) hx hb dX10_fewest_87 (by decide) ?_
                      refine lv_goto (tgt := 92) hx hb dX10_fewest_88 (by decide) ?_
                      refine lv_istore (lv' := [(5, .int (1 : Int32)), (0, .ref (ad 0)), (1, .int v1), (2, .int v2), (3, .int v3_22), (4, .int v4_22)]) hx hb dX10_fewest_92 hl (by decide) rfl (fun ls hl => ?_)
                      refine lv_iload hx hb dX10_fewest_94 (lv_at hl 0 rfl) ?_
                      refine lv_if_eq (tgt := 104) hx hb dX10_fewest_96 (by decide) (fun c_ => absurd c_ (by decide)) (fun _ => ?_)
                      refine lv_iload hx hb dX10_fewest_99 (lv_at hl 5 rfl) ?_
                      refine lv_goto (tgt := 105) hx hb dX10_fewest_101 (by decide) ?_
                      refine lv_istore_n (lv' := [(3, .int v4_22), (5, .int (1 : Int32)), (0, .ref (ad 0)), (1, .int v1), (2, .int v2), (4, .int v4_22)]) hx hb dX10_fewest_105 rfl hl (by decide) rfl (fun ls hl => ?_)
                      refine lv_iinc (v := (v4_22 + (1 : Int32))) (lv' := [(4, .int (v4_22 + (1 : Int32))), (3, .int v4_22), (5, .int (1 : Int32)), (0, .ref (ad 0)), (1, .int v1), (2, .int v2)]) hx hb dX10_fewest_106 hl (k := 5) rfl rfl (by decide) rfl (fun ls hl => ?_)
                      refine lv_goto (tgt := 22) hx hb dX10_fewest_109 (by decide) ?_
                      exact ih22 v4_22 (v4_22 + (1 : Int32)) H locs ls hf hP hD hS (lv_sub hl [3, 4, 5, 1, 0] rfl)
      exact L22 KF (-1 : Int32) (1 : Int32) H locs ls hf hP hD hS (lv_sub hl [2, 3, 4, 1, 0] rfl)
    · have hf := ifp c11 hf
      refine lv_bipush (v := (-2 : Int32)) hx hb dX10_fewest_14 (by decide) ?_
      exact u_iretr hx hb hr hlocks rfl hP hD hS dX10_fewest_16 hf (fun _ => rfl)
theorem iX10_noRope : YI yX10_noRope cX10_noRope 2 (some .boolean) 1 := ⟨q1203, q12, by decide, by decide, by decide +kernel⟩
theorem vX10_noRope : YV yX10_noRope := ⟨q1202, qs33⟩
set_option maxRecDepth 100000 in
set_option maxHeartbeats 4000000 in
theorem c_X10_noRope (l : Launch) (D : va_G) (cy : Nat → ClassId) (ad : Nat → Nat) (σ : St) (v1 : Int32) (r : Int32) (hf : fX10_noRope σ v1 = some r) : Ci l D cy (wM cy ad) yX10_noRope cX10_noRope 2 .boolean 1 25 [.ref (ad 0), .int v1] σ r σ 0 0 := by
  refine Ci.enter (by decide) (Nat.le_of_ble_eq_true rfl) ?_
  intro aw ac p e s m below meth c A H locs S hr hlocks hA hK hP hD hS ls hl
  have hx := S.1
  have hb := S.2.1
  have hl : lv_has ls 2 [(0, .ref (ad 0)), (1, .int v1)] := hl
  unfold fX10_noRope at hf
  refine lv_iload_n hx hb dX10_noRope_0 rfl (lv_at hl 1 rfl) ?_
  refine lv_i2l (v := (v1).toInt64) hx hb dX10_noRope_1 rfl ?_
  refine lv_lconst (v := (0 : Int64)) hx hb dX10_noRope_2 (by decide) ?_
  refine lv_aload_n hx hb dX10_noRope_3 rfl (lv_at hl 0 rfl) ?_
  refine gM_m_ropes S hK hP q954 dX10_noRope_4 ?_
  refine lv_iconst (v := (1 : Int32)) hx hb dX10_noRope_7 (by decide) ?_
  refine lv_isub hx hb dX10_noRope_8 ?_
  refine lv_i2l (v := (((gi σ 7) - (1 : Int32))).toInt64) hx hb dX10_noRope_9 rfl ?_
  obtain ⟨r10, h10, hf⟩ := ob_some hf
  refine p_calli0 (u_runS (rest := []) S (c_X10_in l D cy σ ((v1).toInt64) (0 : Int64) ((((gi σ 7) - (1 : Int32))).toInt64) r10 h10 aw ac H.size) iX10_in q1112 q1111 ⟨Nat.le_of_ble_eq_true rfl, Nat.le_of_ble_eq_true rfl⟩ hK wN_P (wN_D (A := fun _ => True)) rfl hl.1 (Nat.le_of_ble_eq_true rfl) dX10_noRope_10 ⟨Nat.le_refl _, Nat.le_refl _⟩) hP hS hA (fun H locs hP hS => ?_)
  refine lv_if_ne (tgt := 20) hx hb dX10_noRope_13 (by decide) (fun c13 => ?_) (fun c13 => ?_)
  · have hf := ifn c13 hf
    refine lv_iconst (v := (0 : Int32)) hx hb dX10_noRope_20 (by decide) ?_
    exact u_iretr hx hb hr hlocks rfl hP hD hS dX10_noRope_21 hf (fun _ => rfl)
  · have hf := ifp c13 hf
    refine lv_iconst (v := (1 : Int32)) hx hb dX10_noRope_16 (by decide) ?_
    refine lv_goto (tgt := 21) hx hb dX10_noRope_17 (by decide) ?_
    exact u_iretr hx hb hr hlocks rfl hP hD hS dX10_noRope_21 hf (fun _ => rfl)
theorem iX10_holdsOf : YI yX10_holdsOf cX10_holdsOf 4 (some .int) 1 := ⟨q1211, q12, by decide, by decide, by decide +kernel⟩
theorem vX10_holdsOf : YV yX10_holdsOf := ⟨q1210, qs35⟩
set_option maxRecDepth 100000 in
set_option maxHeartbeats 4000000 in
theorem c_X10_holdsOf (l : Launch) (D : va_G) (cy : Nat → ClassId) (ad : Nat → Nat) (σ : St) (v1 : Int32) (r : Int32) (hf : fX10_holdsOf σ v1 = some r) : Ci l D cy (wM cy ad) yX10_holdsOf cX10_holdsOf 4 .int 0 0 [.ref (ad 0), .int v1] σ r σ 0 0 := by
  refine Ci.enter (by decide) (Nat.le_of_ble_eq_true rfl) ?_
  intro aw ac p e s m below meth c A H locs S hr hlocks hA hK hP hD hS ls hl
  have hx := S.1
  have hb := S.2.1
  have hl : lv_has ls 4 [(0, .ref (ad 0)), (1, .int v1)] := hl
  unfold fX10_holdsOf at hf
  refine lv_aload_n hx hb dX10_holdsOf_0 rfl (lv_at hl 0 rfl) ?_
  refine gM_m_wear S hK hP q956 dX10_holdsOf_1 ?_
  refine lv_iload_n hx hb dX10_holdsOf_4 rfl (lv_at hl 1 rfl) ?_
  obtain ⟨h5, hf⟩ := if_in hf
  refine lM_4 S hK hP h5 dX10_holdsOf_5 ?_
  refine lv_sipush (v := (1000 : Int32)) hx hb dX10_holdsOf_6 (by decide) ?_
  refine lv_icmp_le (tgt := 16) hx hb dX10_holdsOf_9 (by decide) (fun c9 => ?_) (fun c9 => ?_)
  · have hf := ifp c9 hf
    refine lv_sipush (v := (1000 : Int32)) hx hb dX10_holdsOf_16 (by decide) ?_
    refine lv_aload_n hx hb dX10_holdsOf_19 rfl (lv_at hl 0 rfl) ?_
    refine gM_m_wear S hK hP q956 dX10_holdsOf_20 ?_
    refine lv_iload_n hx hb dX10_holdsOf_23 rfl (lv_at hl 1 rfl) ?_
    obtain ⟨h24, hf⟩ := if_in hf
    refine lM_4 S hK hP h24 dX10_holdsOf_24 ?_
    refine lv_isub hx hb dX10_holdsOf_25 ?_
    refine lv_istore_n (lv' := [(2, .int ((1000 : Int32) - (ga σ 4 v1.toNatClampNeg))), (0, .ref (ad 0)), (1, .int v1)]) hx hb dX10_holdsOf_26 rfl hl (by decide) rfl (fun ls hl => ?_)
    refine lv_aload_n hx hb dX10_holdsOf_27 rfl (lv_at hl 1 rfl) ?_
    refine gM_m_strength S hK hP q955 dX10_holdsOf_28 ?_
    refine lv_iload_n hx hb dX10_holdsOf_31 rfl (lv_at hl 2 rfl) ?_
    obtain ⟨h32, hf⟩ := if_in hf
    refine lM_3 S hK hP h32 dX10_holdsOf_32 ?_
    refine lv_i2l (v := ((ga σ 3 v1.toNatClampNeg)).toInt64) hx hb dX10_holdsOf_33 rfl ?_
    refine lv_iload_n hx hb dX10_holdsOf_34 rfl (lv_at hl 0 rfl) ?_
    refine lv_i2l (v := (((1000 : Int32) - (ga σ 4 v1.toNatClampNeg))).toInt64) hx hb dX10_holdsOf_35 rfl ?_
    refine lv_lmul hx hb dX10_holdsOf_36 ?_
    refine lv_ldc2 hx hb S.2.2.2.1 (S.2.2.2.2 _ (List.mem_cons_of_mem _ q1168)) dX10_holdsOf_37 ?_
    refine lv_ldiv hx hb dX10_holdsOf_40 (by decide) ?_
    refine lv_l2i (v := ((((((ga σ 3 v1.toNatClampNeg)).toInt64) * ((((1000 : Int32) - (ga σ 4 v1.toNatClampNeg))).toInt64)) / (1000 : Int64))).toInt32) hx hb dX10_holdsOf_41 rfl ?_
    refine lv_istore_n (lv' := [(3, .int (((((((ga σ 3 v1.toNatClampNeg)).toInt64) * ((((1000 : Int32) - (ga σ 4 v1.toNatClampNeg))).toInt64)) / (1000 : Int64))).toInt32)), (2, .int ((1000 : Int32) - (ga σ 4 v1.toNatClampNeg))), (0, .ref (ad 0)), (1, .int v1)]) hx hb dX10_holdsOf_42 rfl hl (by decide) rfl (fun ls hl => ?_)
    refine lv_aload_n hx hb dX10_holdsOf_43 rfl (lv_at hl 2 rfl) ?_
    refine gM_m_isParted S hK hP q958 dX10_holdsOf_44 ?_
    refine lv_iload_n hx hb dX10_holdsOf_47 rfl (lv_at hl 3 rfl) ?_
    obtain ⟨h48, hf⟩ := if_in hf
    refine lM_6 S hK hP h48 dX10_holdsOf_48 ?_
    refine lv_if_eq (tgt := 56) hx hb dX10_holdsOf_49 (by decide) (fun c49 => ?_) (fun c49 => ?_)
    · have hf := ifp c49 hf
      refine lv_aload_n hx hb dX10_holdsOf_56 rfl (lv_at hl 2 rfl) ?_
      refine gM_m_isWet S hK hP q957 dX10_holdsOf_57 ?_
      refine lv_iload_n hx hb dX10_holdsOf_60 rfl (lv_at hl 3 rfl) ?_
      obtain ⟨h61, hf⟩ := if_in hf
      refine lM_5 S hK hP h61 dX10_holdsOf_61 ?_
      refine lv_if_eq (tgt := 73) hx hb dX10_holdsOf_62 (by decide) (fun c62 => ?_) (fun c62 => ?_)
      · have hf := ifp c62 hf
        refine lv_iload_n hx hb dX10_holdsOf_73 rfl (lv_at hl 0 rfl) ?_
        exact u_iretr hx hb hr hlocks rfl hP hD hS dX10_holdsOf_74 hf (fun _ => rfl)
      · have hf := ifn c62 hf
        refine lv_iload_n hx hb dX10_holdsOf_65 rfl (lv_at hl 0 rfl) ?_
        refine lv_iconst (v := (3 : Int32)) hx hb dX10_holdsOf_66 (by decide) ?_
        refine lv_imul hx hb dX10_holdsOf_67 ?_
        refine lv_iconst (v := (4 : Int32)) hx hb dX10_holdsOf_68 (by decide) ?_
        refine lv_idiv hx hb dX10_holdsOf_69 (by decide) ?_
        refine lv_goto (tgt := 74) hx hb dX10_holdsOf_70 (by decide) ?_
        exact u_iretr hx hb hr hlocks rfl hP hD hS dX10_holdsOf_74 hf (fun _ => rfl)
    · have hf := ifn c49 hf
      refine lv_iconst (v := (0 : Int32)) hx hb dX10_holdsOf_52 (by decide) ?_
      refine lv_goto (tgt := 74) hx hb dX10_holdsOf_53 (by decide) ?_
      exact u_iretr hx hb hr hlocks rfl hP hD hS dX10_holdsOf_74 hf (fun _ => rfl)
  · have hf := ifn c9 hf
    refine lv_iconst (v := (0 : Int32)) hx hb dX10_holdsOf_12 (by decide) ?_
    refine lv_goto (tgt := 26) hx hb dX10_holdsOf_13 (by decide) ?_
    refine lv_istore_n (lv' := [(2, .int (0 : Int32)), (0, .ref (ad 0)), (1, .int v1)]) hx hb dX10_holdsOf_26 rfl hl (by decide) rfl (fun ls hl => ?_)
    refine lv_aload_n hx hb dX10_holdsOf_27 rfl (lv_at hl 1 rfl) ?_
    refine gM_m_strength S hK hP q955 dX10_holdsOf_28 ?_
    refine lv_iload_n hx hb dX10_holdsOf_31 rfl (lv_at hl 2 rfl) ?_
    obtain ⟨h32, hf⟩ := if_in hf
    refine lM_3 S hK hP h32 dX10_holdsOf_32 ?_
    refine lv_i2l (v := ((ga σ 3 v1.toNatClampNeg)).toInt64) hx hb dX10_holdsOf_33 rfl ?_
    refine lv_iload_n hx hb dX10_holdsOf_34 rfl (lv_at hl 0 rfl) ?_
    refine lv_i2l (v := ((0 : Int32)).toInt64) hx hb dX10_holdsOf_35 rfl ?_
    refine lv_lmul hx hb dX10_holdsOf_36 ?_
    refine lv_ldc2 hx hb S.2.2.2.1 (S.2.2.2.2 _ (List.mem_cons_of_mem _ q1168)) dX10_holdsOf_37 ?_
    refine lv_ldiv hx hb dX10_holdsOf_40 (by decide) ?_
    refine lv_l2i (v := ((((((ga σ 3 v1.toNatClampNeg)).toInt64) * (((0 : Int32)).toInt64)) / (1000 : Int64))).toInt32) hx hb dX10_holdsOf_41 rfl ?_
    refine lv_istore_n (lv' := [(3, .int (((((((ga σ 3 v1.toNatClampNeg)).toInt64) * (((0 : Int32)).toInt64)) / (1000 : Int64))).toInt32)), (2, .int (0 : Int32)), (0, .ref (ad 0)), (1, .int v1)]) hx hb dX10_holdsOf_42 rfl hl (by decide) rfl (fun ls hl => ?_)
    refine lv_aload_n hx hb dX10_holdsOf_43 rfl (lv_at hl 2 rfl) ?_
    refine gM_m_isParted S hK hP q958 dX10_holdsOf_44 ?_
    refine lv_iload_n hx hb dX10_holdsOf_47 rfl (lv_at hl 3 rfl) ?_
    obtain ⟨h48, hf⟩ := if_in hf
    refine lM_6 S hK hP h48 dX10_holdsOf_48 ?_
    refine lv_if_eq (tgt := 56) hx hb dX10_holdsOf_49 (by decide) (fun c49 => ?_) (fun c49 => ?_)
    · have hf := ifp c49 hf
      refine lv_aload_n hx hb dX10_holdsOf_56 rfl (lv_at hl 2 rfl) ?_
      refine gM_m_isWet S hK hP q957 dX10_holdsOf_57 ?_
      refine lv_iload_n hx hb dX10_holdsOf_60 rfl (lv_at hl 3 rfl) ?_
      obtain ⟨h61, hf⟩ := if_in hf
      refine lM_5 S hK hP h61 dX10_holdsOf_61 ?_
      refine lv_if_eq (tgt := 73) hx hb dX10_holdsOf_62 (by decide) (fun c62 => ?_) (fun c62 => ?_)
      · have hf := ifp c62 hf
        refine lv_iload_n hx hb dX10_holdsOf_73 rfl (lv_at hl 0 rfl) ?_
        exact u_iretr hx hb hr hlocks rfl hP hD hS dX10_holdsOf_74 hf (fun _ => rfl)
      · have hf := ifn c62 hf
        refine lv_iload_n hx hb dX10_holdsOf_65 rfl (lv_at hl 0 rfl) ?_
        refine lv_iconst (v := (3 : Int32)) hx hb dX10_holdsOf_66 (by decide) ?_
        refine lv_imul hx hb dX10_holdsOf_67 ?_
        refine lv_iconst (v := (4 : Int32)) hx hb dX10_holdsOf_68 (by decide) ?_
        refine lv_idiv hx hb dX10_holdsOf_69 (by decide) ?_
        refine lv_goto (tgt := 74) hx hb dX10_holdsOf_70 (by decide) ?_
        exact u_iretr hx hb hr hlocks rfl hP hD hS dX10_holdsOf_74 hf (fun _ => rfl)
    · have hf := ifn c49 hf
      refine lv_iconst (v := (0 : Int32)) hx hb dX10_holdsOf_52 (by decide) ?_
      refine lv_goto (tgt := 74) hx hb dX10_holdsOf_53 (by decide) ?_
      exact u_iretr hx hb hr hlocks rfl hP hD hS dX10_holdsOf_74 hf (fun _ => rfl)
theorem iX10_pullOf : YI yX10_pullOf cX10_pullOf 5 (some .boolean) 2 := ⟨q1207, q12, by decide, by decide, by decide +kernel⟩
theorem vX10_pullOf : YV yX10_pullOf := ⟨q1206, qs34⟩
set_option maxRecDepth 100000 in
set_option maxHeartbeats 4000000 in
theorem c_X10_pullOf (l : Launch) (D : va_G) (cy : Nat → ClassId) (ad : Nat → Nat) (σ : St) (v1 : Int32) (v2 : Int32) (q : Int32 × St) (hf : fX10_pullOf σ v1 v2 = some q) : Ci l D cy (wM cy ad) yX10_pullOf cX10_pullOf 5 .boolean 1 23 [.ref (ad 0), .int v1, .int v2] σ q.1 q.2 0 0 := by
  refine Ci.enter (by decide) (Nat.le_of_ble_eq_true rfl) ?_
  intro aw ac p e s m below meth c A H locs S hr hlocks hA hK hP hD hS ls hl
  have hx := S.1
  have hb := S.2.1
  have hl : lv_has ls 5 [(0, .ref (ad 0)), (1, .int v1), (2, .int v2)] := hl
  unfold fX10_pullOf at hf
  refine lv_iload_n hx hb dX10_pullOf_0 rfl (lv_at hl 2 rfl) ?_
  refine lv_aload_n hx hb dX10_pullOf_1 rfl (lv_at hl 0 rfl) ?_
  refine lv_iload_n hx hb dX10_pullOf_2 rfl (lv_at hl 1 rfl) ?_
  obtain ⟨r3, h3, hf⟩ := ob_some hf
  refine u_calli0 (u_runV (rest := [.int v2]) S (c_X10_holdsOf l D cy ad σ v1 r3 h3 aw ac H.size) iX10_holdsOf vX10_holdsOf q1208 ⟨Nat.le_of_ble_eq_true rfl, Nat.le_of_ble_eq_true rfl⟩ hK hP hD (q0 := 0) rfl rfl rfl hl.1 (Nat.le_of_ble_eq_true rfl) dX10_pullOf_3 ⟨Nat.le_refl _, Nat.le_refl _⟩) hD hS hA (fun H locs hP hD hS => ?_)
  refine lv_icmp_le (tgt := 18) hx hb dX10_pullOf_6 (by decide) (fun c6 => ?_) (fun c6 => ?_)
  · have hf := ifp c6 hf
    refine lv_iload_n hx hb dX10_pullOf_18 rfl (lv_at hl 2 rfl) ?_
    refine lv_i2l (v := (v2).toInt64) hx hb dX10_pullOf_19 rfl ?_
    refine lv_ldc2 hx hb S.2.2.2.1 (S.2.2.2.2 _ (List.mem_cons_of_mem _ q1109)) dX10_pullOf_20 ?_
    refine lv_lmul hx hb dX10_pullOf_23 ?_
    refine lv_aload_n hx hb dX10_pullOf_24 rfl (lv_at hl 0 rfl) ?_
    refine gM_m_strength S hK hP q955 dX10_pullOf_25 ?_
    refine lv_iload_n hx hb dX10_pullOf_28 rfl (lv_at hl 1 rfl) ?_
    obtain ⟨h29, hf⟩ := if_in hf
    refine lM_3 S hK hP h29 dX10_pullOf_29 ?_
    refine lv_i2l (v := ((ga σ 3 v1.toNatClampNeg)).toInt64) hx hb dX10_pullOf_30 rfl ?_
    obtain ⟨n31, hf⟩ := ifd hf
    refine lv_ldiv hx hb dX10_pullOf_31 n31 ?_
    refine lv_lstore_n (lv' := [(3, .long ((((v2).toInt64) * (100 : Int64)) / (((ga σ 3 v1.toNatClampNeg)).toInt64))), (0, .ref (ad 0)), (1, .int v1), (2, .int v2)]) hx hb dX10_pullOf_32 rfl hl (by decide) rfl (fun ls hl => ?_)
    refine lv_aload_n hx hb dX10_pullOf_33 rfl (lv_at hl 1 rfl) ?_
    refine gM_m_wear S hK hP q956 dX10_pullOf_34 ?_
    refine lv_iload_n hx hb dX10_pullOf_37 rfl (lv_at hl 2 rfl) ?_
    refine lv_dup2_11 hx hb dX10_pullOf_38 rfl rfl ?_
    obtain ⟨h39, hf⟩ := if_in hf
    refine lM_4 S hK hP h39 dX10_pullOf_39 ?_
    refine lv_iconst (v := (1 : Int32)) hx hb dX10_pullOf_40 (by decide) ?_
    refine lv_lload_n hx hb dX10_pullOf_41 rfl (lv_at hl 0 rfl) ?_
    refine lv_lload_n hx hb dX10_pullOf_42 rfl (lv_at hl 0 rfl) ?_
    refine lv_lmul hx hb dX10_pullOf_43 ?_
    refine lv_ldc2 hx hb S.2.2.2.1 (S.2.2.2.2 _ (List.mem_cons_of_mem _ q1168)) dX10_pullOf_44 ?_
    refine lv_ldiv hx hb dX10_pullOf_47 (by decide) ?_
    refine lv_l2i (v := (((((((v2).toInt64) * (100 : Int64)) / (((ga σ 3 v1.toNatClampNeg)).toInt64)) * ((((v2).toInt64) * (100 : Int64)) / (((ga σ 3 v1.toNatClampNeg)).toInt64))) / (1000 : Int64))).toInt32) hx hb dX10_pullOf_48 rfl ?_
    refine lv_iadd hx hb dX10_pullOf_49 ?_
    refine lv_iadd hx hb dX10_pullOf_50 ?_
    obtain ⟨h51, hf⟩ := if_in hf
    refine tM_4 S hK hP hD hS h51 dX10_pullOf_51 (fun H locs hP hD hS => ?_)
    refine lv_iconst (v := (1 : Int32)) hx hb dX10_pullOf_52 (by decide) ?_
    exact u_iretw hx hb hr hlocks rfl hP hD hS dX10_pullOf_53 hf (fun _ => rfl)
  · have hf := ifn c6 hf
    refine lv_aload_n hx hb dX10_pullOf_9 rfl (lv_at hl 0 rfl) ?_
    refine gM_m_isParted S hK hP q958 dX10_pullOf_10 ?_
    refine lv_iload_n hx hb dX10_pullOf_13 rfl (lv_at hl 1 rfl) ?_
    refine lv_iconst (v := (1 : Int32)) hx hb dX10_pullOf_14 (by decide) ?_
    obtain ⟨h15, hf⟩ := if_in hf
    refine tM_6 S hK hP hD hS h15 dX10_pullOf_15 (fun H locs hP hD hS => ?_)
    refine lv_iconst (v := (0 : Int32)) hx hb dX10_pullOf_16 (by decide) ?_
    exact u_iretw hx hb hr hlocks rfl hP hD hS dX10_pullOf_17 hf (fun _ => rfl)
theorem iX10_hoist : YI yX10_hoist cX10_hoist 7 (some .int) 4 := ⟨q1199, q12, by decide, by decide, by decide +kernel⟩
theorem vX10_hoist : YV yX10_hoist := ⟨q1197, q1198⟩
set_option maxRecDepth 100000 in
set_option maxHeartbeats 4000000 in
theorem c_X10_hoist (l : Launch) (D : va_G) (cy : Nat → ClassId) (ad : Nat → Nat) (σ : St) (v1 : Int32) (v2 : Int32) (v3 : Int32) (v4 : Int32) (q : Int32 × St) (hf : fX10_hoist σ v1 v2 v3 v4 = some q) : Ci l D cy (wM cy ad) yX10_hoist cX10_hoist 7 .int 3 77 [.ref (ad 0), .int v1, .int v2, .int v3, .int v4] σ q.1 q.2 0 0 := by
  refine Ci.enter (by decide) (Nat.le_of_ble_eq_true rfl) ?_
  intro aw ac p e s m below meth c A H locs S hr hlocks hA hK hP hD hS ls hl
  have hx := S.1
  have hb := S.2.1
  have hl : lv_has ls 7 [(0, .ref (ad 0)), (1, .int v1), (2, .int v2), (3, .int v3), (4, .int v4)] := hl
  unfold fX10_hoist at hf
  refine lv_aload_n hx hb dX10_hoist_0 rfl (lv_at hl 0 rfl) ?_
  refine lv_iload_n hx hb dX10_hoist_1 rfl (lv_at hl 1 rfl) ?_
  obtain ⟨r2, h2, hf⟩ := ob_some hf
  refine u_calli0 (u_runV (rest := []) S (c_X10_areMen l D cy ad σ v1 r2 h2 aw ac H.size) iX10_areMen vX10_areMen q1173 ⟨Nat.le_of_ble_eq_true rfl, Nat.le_of_ble_eq_true rfl⟩ hK hP hD (q0 := 0) rfl rfl rfl hl.1 (Nat.le_of_ble_eq_true rfl) dX10_hoist_2 ⟨Nat.le_refl _, Nat.le_refl _⟩) hD hS hA (fun H locs hP hD hS => ?_)
  refine lv_if_eq (tgt := 36) hx hb dX10_hoist_5 (by decide) (fun c5 => ?_) (fun c5 => ?_)
  · have hf := ifp c5 hf
    refine lv_bipush (v := (-2 : Int32)) hx hb dX10_hoist_36 (by decide) ?_
    exact u_iretw hx hb hr hlocks rfl hP hD hS dX10_hoist_38 hf (fun _ => rfl)
  · have hf := ifn c5 hf
    have J21 : ∀ (v1_j21 : Int32) (v2_j21 : Int32) (v3_j21 : Int32) (v4_j21 : Int32) (σj21 : St) (H : Heap) (locs : List Loc) (ls : Array Slot), fX10_hoist_J21 σj21 v1_j21 v2_j21 v3_j21 v4_j21 = some q → va_P D vwCl (wM cy ad aw ac σj21) H → va_D A (wM cy ad aw ac σj21) → va_S A s.heap H locs → lv_has ls 7 [(0, .ref (ad 0)), (1, .int v1_j21), (2, .int v2_j21), (3, .int v3_j21), (4, .int v4_j21)] → W p l e (Rm 3 77 0 0) s m [.ref (ad 0), .int v1, .int v2, .int v3, .int v4].toArray below meth c H locs 0 0 (Zi D (wM cy ad) A q.1 q.2 aw ac below [.ref (ad 0), .int v1, .int v2, .int v3, .int v4].toArray s 0 0) (F0 m 21 ls []) := by
      intro v1_j21 v2_j21 v3_j21 v4_j21 σj21 H locs ls hf hP hD hS hl
      unfold fX10_hoist_J21 at hf
      refine lv_iload_n hx hb dX10_hoist_21 rfl (lv_at hl 3 rfl) ?_
      obtain ⟨r22, h22, hf⟩ := ob_some hf
      refine p_calli0 (u_runS (rest := []) S (c_X10_isLoad l D cy σj21 v3_j21 r22 h22 aw ac H.size) iX10_isLoad q1178 q1177 ⟨Nat.le_of_ble_eq_true rfl, Nat.le_of_ble_eq_true rfl⟩ hK wN_P (wN_D (A := fun _ => True)) rfl hl.1 (Nat.le_of_ble_eq_true rfl) dX10_hoist_22 ⟨Nat.le_refl _, Nat.le_refl _⟩) hP hS hA (fun H locs hP hS => ?_)
      refine lv_if_eq (tgt := 36) hx hb dX10_hoist_25 (by decide) (fun c25 => ?_) (fun c25 => ?_)
      · have hf := ifp c25 hf
        refine lv_bipush (v := (-2 : Int32)) hx hb dX10_hoist_36 (by decide) ?_
        exact u_iretw hx hb hr hlocks rfl hP hD hS dX10_hoist_38 hf (fun _ => rfl)
      · have hf := ifn c25 hf
        refine lv_iload hx hb dX10_hoist_28 (lv_at hl 4 rfl) ?_
        obtain ⟨r30, h30, hf⟩ := ob_some hf
        refine p_calli0 (u_runS (rest := []) S (c_X10_isHeight l D cy σj21 v4_j21 r30 h30 aw ac H.size) iX10_isHeight q1140 q1139 ⟨Nat.le_of_ble_eq_true rfl, Nat.le_of_ble_eq_true rfl⟩ hK wN_P (wN_D (A := fun _ => True)) rfl hl.1 (Nat.le_of_ble_eq_true rfl) dX10_hoist_30 ⟨Nat.le_refl _, Nat.le_refl _⟩) hP hS hA (fun H locs hP hS => ?_)
        refine lv_if_ne (tgt := 39) hx hb dX10_hoist_33 (by decide) (fun c33 => ?_) (fun c33 => ?_)
        · have hf := ifn c33 hf
          refine lv_aload_n hx hb dX10_hoist_39 rfl (lv_at hl 0 rfl) ?_
          refine lv_iload_n hx hb dX10_hoist_40 rfl (lv_at hl 1 rfl) ?_
          refine lv_iload_n hx hb dX10_hoist_41 rfl (lv_at hl 3 rfl) ?_
          refine lv_iload hx hb dX10_hoist_42 (lv_at hl 4 rfl) ?_
          obtain ⟨r44, h44, hf⟩ := ob_some hf
          refine u_calli0 (u_runV (rest := []) S (c_X10_canOf l D cy ad σj21 v1_j21 v3_j21 v4_j21 r44 h44 aw ac H.size) iX10_canOf vX10_canOf q1181 ⟨Nat.le_of_ble_eq_true rfl, Nat.le_of_ble_eq_true rfl⟩ hK hP hD (q0 := 0) rfl rfl rfl hl.1 (Nat.le_of_ble_eq_true rfl) dX10_hoist_44 ⟨Nat.le_refl _, Nat.le_refl _⟩) hD hS hA (fun H locs hP hD hS => ?_)
          refine lv_iconst (v := (1 : Int32)) hx hb dX10_hoist_47 (by decide) ?_
          refine lv_icmp_ne (tgt := 64) hx hb dX10_hoist_48 (by decide) (fun c48 => ?_) (fun c48 => ?_)
          · have hf := ifn c48 hf
            refine lv_bipush (v := (-3 : Int32)) hx hb dX10_hoist_64 (by decide) ?_
            exact u_iretw hx hb hr hlocks rfl hP hD hS dX10_hoist_66 hf (fun _ => rfl)
          · have hf := ifp c48 hf
            have J67 : ∀ (v1_j67 : Int32) (v2_j67 : Int32) (v3_j67 : Int32) (v4_j67 : Int32) (σj67 : St) (H : Heap) (locs : List Loc) (ls : Array Slot), fX10_hoist_J67 σj67 v1_j67 v2_j67 v3_j67 v4_j67 = some q → va_P D vwCl (wM cy ad aw ac σj67) H → va_D A (wM cy ad aw ac σj67) → va_S A s.heap H locs → lv_has ls 7 [(0, .ref (ad 0)), (1, .int v1_j67), (2, .int v2_j67), (3, .int v3_j67), (4, .int v4_j67)] → W p l e (Rm 3 77 0 0) s m [.ref (ad 0), .int v1, .int v2, .int v3, .int v4].toArray below meth c H locs 0 0 (Zi D (wM cy ad) A q.1 q.2 aw ac below [.ref (ad 0), .int v1, .int v2, .int v3, .int v4].toArray s 0 0) (F0 m 67 ls []) := by
              intro v1_j67 v2_j67 v3_j67 v4_j67 σj67 H locs ls hf hP hD hS hl
              unfold fX10_hoist_J67 at hf
              have J83 : ∀ (v1_j83 : Int32) (v2_j83 : Int32) (v3_j83 : Int32) (v4_j83 : Int32) (σj83 : St) (H : Heap) (locs : List Loc) (ls : Array Slot), fX10_hoist_J83 σj83 v1_j83 v2_j83 v3_j83 v4_j83 = some q → va_P D vwCl (wM cy ad aw ac σj83) H → va_D A (wM cy ad aw ac σj83) → va_S A s.heap H locs → lv_has ls 7 [(0, .ref (ad 0)), (1, .int v1_j83), (2, .int v2_j83), (3, .int v3_j83), (4, .int v4_j83)] → W p l e (Rm 3 77 0 0) s m [.ref (ad 0), .int v1, .int v2, .int v3, .int v4].toArray below meth c H locs 0 0 (Zi D (wM cy ad) A q.1 q.2 aw ac below [.ref (ad 0), .int v1, .int v2, .int v3, .int v4].toArray s 0 0) (F0 m 83 ls []) := by
                intro v1_j83 v2_j83 v3_j83 v4_j83 σj83 H locs ls hf hP hD hS hl
                unfold fX10_hoist_J83 at hf
                refine lv_aload_n hx hb dX10_hoist_83 rfl (lv_at hl 0 rfl) ?_
                refine lv_iload hx hb dX10_hoist_84 (lv_at hl 4 rfl) ?_
                obtain ⟨r86, h86, hf⟩ := ob_some hf
                refine u_calli0 (u_runV (rest := []) S (c_X10_stepsFor l D cy ad σj83 v4_j83 r86 h86 aw ac H.size) iX10_stepsFor vX10_stepsFor q1142 ⟨Nat.le_of_ble_eq_true rfl, Nat.le_of_ble_eq_true rfl⟩ hK hP hD (q0 := 0) rfl rfl rfl hl.1 (Nat.le_of_ble_eq_true rfl) dX10_hoist_86 ⟨Nat.le_refl _, Nat.le_refl _⟩) hD hS hA (fun H locs hP hD hS => ?_)
                refine lv_istore (lv' := [(5, .int r86), (0, .ref (ad 0)), (1, .int v1_j83), (2, .int v2_j83), (3, .int v3_j83), (4, .int v4_j83)]) hx hb dX10_hoist_89 hl (by decide) rfl (fun ls hl => ?_)
                refine lv_iconst (v := (0 : Int32)) hx hb dX10_hoist_91 (by decide) ?_
                refine lv_istore (lv' := [(6, .int (0 : Int32)), (5, .int r86), (0, .ref (ad 0)), (1, .int v1_j83), (2, .int v2_j83), (3, .int v3_j83), (4, .int v4_j83)]) hx hb dX10_hoist_92 hl (by decide) rfl (fun ls hl => ?_)
                have L94 : ∀ (n94 : Nat) (v5_94 : Int32) (v6_94 : Int32) (σ94 : St) (H : Heap) (locs : List Loc) (ls : Array Slot), fX10_hoist_94 (fX10_hoist_94_k v1_j83 v2_j83 v3_j83 v4_j83 v5_94) v1_j83 v2_j83 v3_j83 v4_j83 v5_94 n94 σ94 v6_94 = some q → va_P D vwCl (wM cy ad aw ac σ94) H → va_D A (wM cy ad aw ac σ94) → va_S A s.heap H locs → lv_has ls 7 [(0, .ref (ad 0)), (1, .int v1_j83), (2, .int v2_j83), (3, .int v3_j83), (4, .int v4_j83), (5, .int v5_94), (6, .int v6_94)] → W p l e (Rm 3 77 0 0) s m [.ref (ad 0), .int v1, .int v2, .int v3, .int v4].toArray below meth c H locs 0 0 (Zi D (wM cy ad) A q.1 q.2 aw ac below [.ref (ad 0), .int v1, .int v2, .int v3, .int v4].toArray s 0 0) (F0 m 94 ls []) := by
                  intro n94
                  induction n94 with
                  | zero =>
                    intro v5_94 v6_94 σ94 H locs ls hf
                    cases hf
                  | succ n94 ih94 =>
                    intro v5_94 v6_94 σ94 H locs ls hf hP hD hS hl
                    rw [fX10_hoist_94] at hf
                    refine lv_iload hx hb dX10_hoist_94 (lv_at hl 6 rfl) ?_
                    refine lv_aload_n hx hb dX10_hoist_96 rfl (lv_at hl 0 rfl) ?_
                    refine gM_m_men S hK hP q951 dX10_hoist_97 ?_
                    refine lv_icmp_ge (tgt := 136) hx hb dX10_hoist_100 (by decide) (fun c100 => ?_) (fun c100 => ?_)
                    · have hf := ifp c100 hf
                      have hl := lv_sub (l' := [(0, .ref (ad 0)), (1, .int v1_j83), (2, .int v2_j83), (3, .int v3_j83), (4, .int v4_j83), (5, .int v5_94), (6, .int v6_94)]) hl [0, 1, 2, 3, 4, 5, 6] rfl
                      unfold fX10_hoist_94_k at hf
                      refine lv_iload hx hb dX10_hoist_136 (lv_at hl 5 rfl) ?_
                      exact u_iretw hx hb hr hlocks rfl hP hD hS dX10_hoist_138 hf (fun _ => rfl)
                    · have hf := ifn c100 hf
                      refine lv_aload_n hx hb dX10_hoist_103 rfl (lv_at hl 0 rfl) ?_
                      refine gM_m_breath S hK hP q953 dX10_hoist_104 ?_
                      refine lv_iload hx hb dX10_hoist_107 (lv_at hl 6 rfl) ?_
                      refine lv_dup2_11 hx hb dX10_hoist_109 rfl rfl ?_
                      obtain ⟨h110, hf⟩ := if_in hf
                      refine lM_2 S hK hP h110 dX10_hoist_110 ?_
                      refine lv_iload_n hx hb dX10_hoist_111 rfl (lv_at hl 1 rfl) ?_
                      refine lv_iload hx hb dX10_hoist_112 (lv_at hl 6 rfl) ?_
                      refine lv_ishr hx hb dX10_hoist_114 ?_
                      refine lv_iconst (v := (1 : Int32)) hx hb dX10_hoist_115 (by decide) ?_
                      refine lv_iand hx hb dX10_hoist_116 ?_
                      refine lv_iload hx hb dX10_hoist_117 (lv_at hl 5 rfl) ?_
                      refine lv_imul hx hb dX10_hoist_119 ?_
                      refine lv_iconst (v := (1 : Int32)) hx hb dX10_hoist_120 (by decide) ?_
                      refine lv_iload_n hx hb dX10_hoist_121 rfl (lv_at hl 3 rfl) ?_
                      refine lv_sipush (v := (1000 : Int32)) hx hb dX10_hoist_122 (by decide) ?_
                      refine lv_idiv hx hb dX10_hoist_125 (by decide) ?_
                      refine lv_iadd hx hb dX10_hoist_126 ?_
                      refine lv_imul hx hb dX10_hoist_127 ?_
                      refine lv_isub hx hb dX10_hoist_128 ?_
                      obtain ⟨h129, hf⟩ := if_in hf
                      refine tM_2 S hK hP hD hS h129 dX10_hoist_129 (fun H locs hP hD hS => ?_)
                      refine lv_iinc (v := (v6_94 + (1 : Int32))) (lv' := [(6, .int (v6_94 + (1 : Int32))), (0, .ref (ad 0)), (1, .int v1_j83), (2, .int v2_j83), (3, .int v3_j83), (4, .int v4_j83), (5, .int v5_94)]) hx hb dX10_hoist_130 hl (k := 6) rfl rfl (by decide) rfl (fun ls hl => ?_)
                      refine lv_goto (tgt := 94) hx hb dX10_hoist_133 (by decide) ?_
                      exact ih94 v5_94 (v6_94 + (1 : Int32)) (sa σ94 2 v6_94.toNatClampNeg ((ga σ94 2 v6_94.toNatClampNeg) - ((((v1_j83 >>> (v6_94 &&& 31)) &&& (1 : Int32)) * v5_94) * ((1 : Int32) + (v3_j83 / (1000 : Int32)))))) H locs ls hf hP hD hS (lv_sub hl [1, 2, 3, 4, 5, 6, 0] rfl)
                exact L94 KF r86 (0 : Int32) σj83 H locs ls hf hP hD hS (lv_sub hl [2, 3, 4, 5, 6, 1, 0] rfl)
              refine lv_iload_n hx hb dX10_hoist_67 rfl (lv_at hl 2 rfl) ?_
              refine lv_if_lt (tgt := 83) hx hb dX10_hoist_68 (by decide) (fun c68 => ?_) (fun c68 => ?_)
              · have hf := ifp c68 hf
                exact J83 v1_j67 v2_j67 v3_j67 v4_j67 σj67 H locs ls hf hP hD hS (lv_sub hl [0, 1, 2, 3, 4] rfl)
              · have hf := ifn c68 hf
                refine lv_aload_n hx hb dX10_hoist_71 rfl (lv_at hl 0 rfl) ?_
                refine lv_iload_n hx hb dX10_hoist_72 rfl (lv_at hl 2 rfl) ?_
                refine lv_iload_n hx hb dX10_hoist_73 rfl (lv_at hl 3 rfl) ?_
                obtain ⟨q74, h74, hf⟩ := ob_some hf
                refine u_calli0 (u_runV (rest := []) S (c_X10_pullOf l D cy ad σj67 v2_j67 v3_j67 q74 h74 aw ac H.size) iX10_pullOf vX10_pullOf q1204 ⟨Nat.le_of_ble_eq_true rfl, Nat.le_of_ble_eq_true rfl⟩ hK hP hD (q0 := 0) rfl rfl rfl hl.1 (Nat.le_of_ble_eq_true rfl) dX10_hoist_74 ⟨Nat.le_refl _, Nat.le_refl _⟩) hD hS hA (fun H locs hP hD hS => ?_)
                refine lv_if_ne (tgt := 83) hx hb dX10_hoist_77 (by decide) (fun c77 => ?_) (fun c77 => ?_)
                · have hf := ifn c77 hf
                  exact J83 v1_j67 v2_j67 v3_j67 v4_j67 q74.2 H locs ls hf hP hD hS (lv_sub hl [0, 1, 2, 3, 4] rfl)
                · have hf := ifp c77 hf
                  refine lv_bipush (v := (-10 : Int32)) hx hb dX10_hoist_80 (by decide) ?_
                  exact u_iretw hx hb hr hlocks rfl hP hD hS dX10_hoist_82 hf (fun _ => rfl)
            refine lv_iload_n hx hb dX10_hoist_51 rfl (lv_at hl 2 rfl) ?_
            refine lv_if_lt (tgt := 67) hx hb dX10_hoist_52 (by decide) (fun c52 => ?_) (fun c52 => ?_)
            · have hf := ifp c52 hf
              exact J67 v1_j21 v2_j21 v3_j21 v4_j21 σj21 H locs ls hf hP hD hS (lv_sub hl [0, 1, 2, 3, 4] rfl)
            · have hf := ifn c52 hf
              refine lv_aload_n hx hb dX10_hoist_55 rfl (lv_at hl 0 rfl) ?_
              refine gM_m_isParted S hK hP q958 dX10_hoist_56 ?_
              refine lv_iload_n hx hb dX10_hoist_59 rfl (lv_at hl 2 rfl) ?_
              obtain ⟨h60, hf⟩ := if_in hf
              refine lM_6 S hK hP h60 dX10_hoist_60 ?_
              refine lv_if_eq (tgt := 67) hx hb dX10_hoist_61 (by decide) (fun c61 => ?_) (fun c61 => ?_)
              · have hf := ifp c61 hf
                exact J67 v1_j21 v2_j21 v3_j21 v4_j21 σj21 H locs ls hf hP hD hS (lv_sub hl [0, 1, 2, 3, 4] rfl)
              · have hf := ifn c61 hf
                refine lv_bipush (v := (-3 : Int32)) hx hb dX10_hoist_64 (by decide) ?_
                exact u_iretw hx hb hr hlocks rfl hP hD hS dX10_hoist_66 hf (fun _ => rfl)
        · have hf := ifp c33 hf
          refine lv_bipush (v := (-2 : Int32)) hx hb dX10_hoist_36 (by decide) ?_
          exact u_iretw hx hb hr hlocks rfl hP hD hS dX10_hoist_38 hf (fun _ => rfl)
    refine lv_iload_n hx hb dX10_hoist_8 rfl (lv_at hl 2 rfl) ?_
    refine lv_iconst (v := (-1 : Int32)) hx hb dX10_hoist_9 (by decide) ?_
    refine lv_icmp_eq (tgt := 21) hx hb dX10_hoist_10 (by decide) (fun c10 => ?_) (fun c10 => ?_)
    · have hf := ifp c10 hf
      exact J21 v1 v2 v3 v4 σ H locs ls hf hP hD hS (lv_sub hl [0, 1, 2, 3, 4] rfl)
    · have hf := ifn c10 hf
      refine lv_aload_n hx hb dX10_hoist_13 rfl (lv_at hl 0 rfl) ?_
      refine lv_iload_n hx hb dX10_hoist_14 rfl (lv_at hl 2 rfl) ?_
      obtain ⟨r15, h15, hf⟩ := ob_some hf
      refine u_calli0 (u_runV (rest := []) S (c_X10_noRope l D cy ad σ v2 r15 h15 aw ac H.size) iX10_noRope vX10_noRope q1200 ⟨Nat.le_of_ble_eq_true rfl, Nat.le_of_ble_eq_true rfl⟩ hK hP hD (q0 := 0) rfl rfl rfl hl.1 (Nat.le_of_ble_eq_true rfl) dX10_hoist_15 ⟨Nat.le_refl _, Nat.le_refl _⟩) hD hS hA (fun H locs hP hD hS => ?_)
      refine lv_if_ne (tgt := 36) hx hb dX10_hoist_18 (by decide) (fun c18 => ?_) (fun c18 => ?_)
      · have hf := ifn c18 hf
        refine lv_bipush (v := (-2 : Int32)) hx hb dX10_hoist_36 (by decide) ?_
        exact u_iretw hx hb hr hlocks rfl hP hD hS dX10_hoist_38 hf (fun _ => rfl)
      · have hf := ifp c18 hf
        exact J21 v1 v2 v3 v4 σ H locs ls hf hP hD hS (lv_sub hl [0, 1, 2, 3, 4] rfl)
theorem iX10_layRope : YI yX10_layRope cX10_layRope 3 none 2 := ⟨q1222, q12, by decide, by decide, by decide +kernel⟩
theorem vX10_layRope : YV yX10_layRope := ⟨q1221, qs36⟩
set_option maxRecDepth 100000 in
set_option maxHeartbeats 4000000 in
theorem c_X10_layRope (l : Launch) (D : va_G) (cy : Nat → ClassId) (ad : Nat → Nat) (σ : St) (v1 : Int32) (v2 : Int32) (q : St) (hf : fX10_layRope σ v1 v2 = some q) : Cv l D cy (wM cy ad) yX10_layRope cX10_layRope 3 0 0 [.ref (ad 0), .int v1, .int v2] σ q 0 0 := by
  refine Cv.enter (by decide) (Nat.le_of_ble_eq_true rfl) ?_
  intro aw ac p e s m below meth c A H locs S hr hlocks hA hK hP hD hS ls hl
  have hx := S.1
  have hb := S.2.1
  have hl : lv_has ls 3 [(0, .ref (ad 0)), (1, .int v1), (2, .int v2)] := hl
  unfold fX10_layRope at hf
  refine lv_aload_n hx hb dX10_layRope_0 rfl (lv_at hl 0 rfl) ?_
  refine gM_m_strength S hK hP q955 dX10_layRope_1 ?_
  refine lv_iload_n hx hb dX10_layRope_4 rfl (lv_at hl 1 rfl) ?_
  refine lv_iload_n hx hb dX10_layRope_5 rfl (lv_at hl 2 rfl) ?_
  obtain ⟨h6, hf⟩ := if_in hf
  refine tM_3 S hK hP hD hS h6 dX10_layRope_6 (fun H locs hP hD hS => ?_)
  refine lv_aload_n hx hb dX10_layRope_7 rfl (lv_at hl 0 rfl) ?_
  refine gM_m_wear S hK hP q956 dX10_layRope_8 ?_
  refine lv_iload_n hx hb dX10_layRope_11 rfl (lv_at hl 1 rfl) ?_
  refine lv_iconst (v := (0 : Int32)) hx hb dX10_layRope_12 (by decide) ?_
  obtain ⟨h13, hf⟩ := if_in hf
  refine tM_4 S hK hP hD hS h13 dX10_layRope_13 (fun H locs hP hD hS => ?_)
  refine lv_aload_n hx hb dX10_layRope_14 rfl (lv_at hl 0 rfl) ?_
  refine gM_m_isWet S hK hP q957 dX10_layRope_15 ?_
  refine lv_iload_n hx hb dX10_layRope_18 rfl (lv_at hl 1 rfl) ?_
  refine lv_iconst (v := (0 : Int32)) hx hb dX10_layRope_19 (by decide) ?_
  obtain ⟨h20, hf⟩ := if_in hf
  refine tM_5 S hK hP hD hS h20 dX10_layRope_20 (fun H locs hP hD hS => ?_)
  refine lv_aload_n hx hb dX10_layRope_21 rfl (lv_at hl 0 rfl) ?_
  refine gM_m_isParted S hK hP q958 dX10_layRope_22 ?_
  refine lv_iload_n hx hb dX10_layRope_25 rfl (lv_at hl 1 rfl) ?_
  refine lv_iconst (v := (0 : Int32)) hx hb dX10_layRope_26 (by decide) ?_
  obtain ⟨h27, hf⟩ := if_in hf
  refine tM_6 S hK hP hD hS h27 dX10_layRope_27 (fun H locs hP hD hS => ?_)
  exact u_vretw hx hb hr hlocks hP hD hS dX10_layRope_28 hf (fun _ => rfl)
theorem iX10_isStrength : YI yX10_isStrength cX10_isStrength 1 (some .boolean) 1 := ⟨q1218, q12, by decide, by decide, by decide +kernel⟩
set_option maxRecDepth 100000 in
set_option maxHeartbeats 4000000 in
theorem c_X10_isStrength (l : Launch) (D : va_G) (cy : Nat → ClassId) (σ : St) (v0 : Int32) (r : Int32) (hf : fX10_isStrength v0 = some r) : Ci l D cy wN yX10_isStrength cX10_isStrength 1 .boolean 1 25 [.int v0] σ r σ 0 0 := by
  refine Ci.enter (by decide) (Nat.le_of_ble_eq_true rfl) ?_
  intro aw ac p e s m below meth c A H locs S hr hlocks hA hK hP hD hS ls hl
  have hx := S.1
  have hb := S.2.1
  have hl : lv_has ls 1 [(0, .int v0)] := hl
  unfold fX10_isStrength at hf
  refine lv_iload_n hx hb dX10_isStrength_0 rfl (lv_at hl 0 rfl) ?_
  refine lv_i2l (v := (v0).toInt64) hx hb dX10_isStrength_1 rfl ?_
  refine lv_ldc2 hx hb S.2.2.2.1 (S.2.2.2.2 _ (List.mem_cons_of_mem _ q1109)) dX10_isStrength_2 ?_
  refine lv_ldc2 hx hb S.2.2.2.1 (S.2.2.2.2 _ (List.mem_cons_of_mem _ q1180)) dX10_isStrength_5 ?_
  obtain ⟨r8, h8, hf⟩ := ob_some hf
  refine p_calli0 (u_runS (rest := []) S (c_X10_in l D cy σ ((v0).toInt64) (100 : Int64) (50000 : Int64) r8 h8 aw ac H.size) iX10_in q1112 q1111 ⟨Nat.le_of_ble_eq_true rfl, Nat.le_of_ble_eq_true rfl⟩ hK wN_P (wN_D (A := fun _ => True)) rfl hl.1 (Nat.le_of_ble_eq_true rfl) dX10_isStrength_8 ⟨Nat.le_refl _, Nat.le_refl _⟩) hP hS hA (fun H locs hP hS => ?_)
  obtain ⟨n11, hf⟩ := ifs hf
  exact u_iretr hx hb hr hlocks n11 hP hD hS dX10_isStrength_11 hf (fun _ => rfl)
theorem iX10_rope : YI yX10_rope cX10_rope 2 (some .int) 1 := ⟨q1215, q12, by decide, by decide, by decide +kernel⟩
theorem vX10_rope : YV yX10_rope := ⟨q1213, q1214⟩
set_option maxRecDepth 100000 in
set_option maxHeartbeats 4000000 in
theorem c_X10_rope (l : Launch) (D : va_G) (cy : Nat → ClassId) (ad : Nat → Nat) (σ : St) (v1 : Int32) (q : Int32 × St) (hf : fX10_rope σ v1 = some q) : Ci l D cy (wM cy ad) yX10_rope cX10_rope 2 .int 2 45 [.ref (ad 0), .int v1] σ q.1 q.2 0 0 := by
  refine Ci.enter (by decide) (Nat.le_of_ble_eq_true rfl) ?_
  intro aw ac p e s m below meth c A H locs S hr hlocks hA hK hP hD hS ls hl
  have hx := S.1
  have hb := S.2.1
  have hl : lv_has ls 2 [(0, .ref (ad 0)), (1, .int v1)] := hl
  unfold fX10_rope at hf
  refine lv_iload_n hx hb dX10_rope_0 rfl (lv_at hl 1 rfl) ?_
  obtain ⟨r1, h1, hf⟩ := ob_some hf
  refine p_calli0 (u_runS (rest := []) S (c_X10_isStrength l D cy σ v1 r1 h1 aw ac H.size) iX10_isStrength q1217 q1216 ⟨Nat.le_of_ble_eq_true rfl, Nat.le_of_ble_eq_true rfl⟩ hK wN_P (wN_D (A := fun _ => True)) rfl hl.1 (Nat.le_of_ble_eq_true rfl) dX10_rope_1 ⟨Nat.le_refl _, Nat.le_refl _⟩) hP hS hA (fun H locs hP hS => ?_)
  refine lv_if_ne (tgt := 10) hx hb dX10_rope_4 (by decide) (fun c4 => ?_) (fun c4 => ?_)
  · have hf := ifn c4 hf
    refine lv_aload_n hx hb dX10_rope_10 rfl (lv_at hl 0 rfl) ?_
    refine gM_m_ropes S hK hP q954 dX10_rope_11 ?_
    refine lv_bipush (v := (6 : Int32)) hx hb dX10_rope_14 (by decide) ?_
    refine lv_icmp_ne (tgt := 22) hx hb dX10_rope_16 (by decide) (fun c16 => ?_) (fun c16 => ?_)
    · have hf := ifn c16 hf
      refine lv_aload_n hx hb dX10_rope_22 rfl (lv_at hl 0 rfl) ?_
      refine lv_aload_n hx hb dX10_rope_23 rfl (lv_at hl 0 rfl) ?_
      refine gM_m_ropes S hK hP q954 dX10_rope_24 ?_
      refine lv_iload_n hx hb dX10_rope_27 rfl (lv_at hl 1 rfl) ?_
      obtain ⟨q28, h28, hf⟩ := ob_some hf
      refine u_callv0 (u_runV (rest := []) S (c_X10_layRope l D cy ad σ (gi σ 7) v1 q28 h28 aw ac H.size) iX10_layRope vX10_layRope q1219 ⟨Nat.le_of_ble_eq_true rfl, Nat.le_of_ble_eq_true rfl⟩ hK hP hD (q0 := 0) rfl rfl rfl hl.1 (Nat.le_of_ble_eq_true rfl) dX10_rope_28 ⟨Nat.le_refl _, Nat.le_refl _⟩) hD hS hA (fun H locs hP hD hS => ?_)
      refine lv_aload_n hx hb dX10_rope_31 rfl (lv_at hl 0 rfl) ?_
      refine lv_dup hx hb dX10_rope_32 rfl ?_
      refine gM_m_ropes S hK hP q954 dX10_rope_33 ?_
      refine lv_iconst (v := (1 : Int32)) hx hb dX10_rope_36 (by decide) ?_
      refine lv_iadd hx hb dX10_rope_37 ?_
      refine pM_m_ropes S hK hP hD hS q954 dX10_rope_38 (fun H locs hP hD hS => ?_)
      refine lv_aload_n hx hb dX10_rope_41 rfl (lv_at hl 0 rfl) ?_
      refine gM_m_ropes S hK hP q954 dX10_rope_42 ?_
      refine lv_iconst (v := (1 : Int32)) hx hb dX10_rope_45 (by decide) ?_
      refine lv_isub hx hb dX10_rope_46 ?_
      exact u_iretw hx hb hr hlocks rfl hP hD hS dX10_rope_47 hf (fun _ => rfl)
    · have hf := ifp c16 hf
      refine lv_bipush (v := (-4 : Int32)) hx hb dX10_rope_19 (by decide) ?_
      exact u_iretw hx hb hr hlocks rfl hP hD hS dX10_rope_21 hf (fun _ => rfl)
  · have hf := ifp c4 hf
    refine lv_bipush (v := (-2 : Int32)) hx hb dX10_rope_7 (by decide) ?_
    exact u_iretw hx hb hr hlocks rfl hP hD hS dX10_rope_9 hf (fun _ => rfl)
theorem iX10_wet : YI yX10_wet cX10_wet 3 (some .int) 2 := ⟨q1226, q12, by decide, by decide, by decide +kernel⟩
theorem vX10_wet : YV yX10_wet := ⟨q1224, q1225⟩
set_option maxRecDepth 100000 in
set_option maxHeartbeats 4000000 in
theorem c_X10_wet (l : Launch) (D : va_G) (cy : Nat → ClassId) (ad : Nat → Nat) (σ : St) (v1 : Int32) (v2 : Int32) (q : Int32 × St) (hf : fX10_wet σ v1 v2 = some q) : Ci l D cy (wM cy ad) yX10_wet cX10_wet 3 .int 2 46 [.ref (ad 0), .int v1, .int v2] σ q.1 q.2 0 0 := by
  refine Ci.enter (by decide) (Nat.le_of_ble_eq_true rfl) ?_
  intro aw ac p e s m below meth c A H locs S hr hlocks hA hK hP hD hS ls hl
  have hx := S.1
  have hb := S.2.1
  have hl : lv_has ls 3 [(0, .ref (ad 0)), (1, .int v1), (2, .int v2)] := hl
  unfold fX10_wet at hf
  refine lv_aload_n hx hb dX10_wet_0 rfl (lv_at hl 0 rfl) ?_
  refine lv_iload_n hx hb dX10_wet_1 rfl (lv_at hl 1 rfl) ?_
  obtain ⟨r2, h2, hf⟩ := ob_some hf
  refine u_calli0 (u_runV (rest := []) S (c_X10_noRope l D cy ad σ v1 r2 h2 aw ac H.size) iX10_noRope vX10_noRope q1200 ⟨Nat.le_of_ble_eq_true rfl, Nat.le_of_ble_eq_true rfl⟩ hK hP hD (q0 := 0) rfl rfl rfl hl.1 (Nat.le_of_ble_eq_true rfl) dX10_wet_2 ⟨Nat.le_refl _, Nat.le_refl _⟩) hD hS hA (fun H locs hP hD hS => ?_)
  refine lv_if_eq (tgt := 11) hx hb dX10_wet_5 (by decide) (fun c5 => ?_) (fun c5 => ?_)
  · have hf := ifp c5 hf
    refine lv_aload_n hx hb dX10_wet_11 rfl (lv_at hl 0 rfl) ?_
    refine gM_m_isWet S hK hP q957 dX10_wet_12 ?_
    refine lv_iload_n hx hb dX10_wet_15 rfl (lv_at hl 1 rfl) ?_
    obtain ⟨h16, hf⟩ := if_in hf
    refine lM_5 S hK hP h16 dX10_wet_16 ?_
    refine lv_iload_n hx hb dX10_wet_17 rfl (lv_at hl 2 rfl) ?_
    refine lv_icmp_ne (tgt := 24) hx hb dX10_wet_18 (by decide) (fun c18 => ?_) (fun c18 => ?_)
    · have hf := ifn c18 hf
      refine lv_aload_n hx hb dX10_wet_24 rfl (lv_at hl 0 rfl) ?_
      refine gM_m_isWet S hK hP q957 dX10_wet_25 ?_
      refine lv_iload_n hx hb dX10_wet_28 rfl (lv_at hl 1 rfl) ?_
      refine lv_iload_n hx hb dX10_wet_29 rfl (lv_at hl 2 rfl) ?_
      obtain ⟨h30, hf⟩ := if_in hf
      refine tM_5 S hK hP hD hS h30 dX10_wet_30 (fun H locs hP hD hS => ?_)
      refine lv_iconst (v := (1 : Int32)) hx hb dX10_wet_31 (by decide) ?_
      exact u_iretw hx hb hr hlocks rfl hP hD hS dX10_wet_32 hf (fun _ => rfl)
    · have hf := ifp c18 hf
      refine lv_bipush (v := (-3 : Int32)) hx hb dX10_wet_21 (by decide) ?_
      exact u_iretw hx hb hr hlocks rfl hP hD hS dX10_wet_23 hf (fun _ => rfl)
  · have hf := ifn c5 hf
    refine lv_bipush (v := (-2 : Int32)) hx hb dX10_wet_8 (by decide) ?_
    exact u_iretw hx hb hr hlocks rfl hP hD hS dX10_wet_10 hf (fun _ => rfl)
theorem iX10_aboutOf : YI yX10_aboutOf cX10_aboutOf 3 (some .int) 2 := ⟨q1235, q12, by decide, by decide, by decide +kernel⟩
theorem vX10_aboutOf : YV yX10_aboutOf := ⟨q1234, qs37⟩
set_option maxRecDepth 100000 in
set_option maxHeartbeats 4000000 in
theorem c_X10_aboutOf (l : Launch) (D : va_G) (cy : Nat → ClassId) (ad : Nat → Nat) (σ : St) (v1 : Int32) (v2 : Int32) (r : Int32) (hf : fX10_aboutOf σ v1 v2 = some r) : Ci l D cy (wM cy ad) yX10_aboutOf cX10_aboutOf 3 .int 1 23 [.ref (ad 0), .int v1, .int v2] σ r σ 0 0 := by
  refine Ci.enter (by decide) (Nat.le_of_ble_eq_true rfl) ?_
  intro aw ac p e s m below meth c A H locs S hr hlocks hA hK hP hD hS ls hl
  have hx := S.1
  have hb := S.2.1
  have hl : lv_has ls 3 [(0, .ref (ad 0)), (1, .int v1), (2, .int v2)] := hl
  unfold fX10_aboutOf at hf
  refine lv_iload_n hx hb dX10_aboutOf_0 rfl (lv_at hl 2 rfl) ?_
  by_cases c1_0 : v2 = (0 : Int32)
  · have hf := ifp c1_0 hf
    refine lv_tableIn (off := 31) (tgt := 32) hx hb dX10_aboutOf_1 (by rw [c1_0]; decide) (by rw [c1_0]; decide) (by rw [c1_0]; decide) (by decide) ?_
    refine lv_aload_n hx hb dX10_aboutOf_32 rfl (lv_at hl 0 rfl) ?_
    refine gM_m_strength S hK hP q955 dX10_aboutOf_33 ?_
    refine lv_iload_n hx hb dX10_aboutOf_36 rfl (lv_at hl 1 rfl) ?_
    obtain ⟨h37, hf⟩ := if_in hf
    refine lM_3 S hK hP h37 dX10_aboutOf_37 ?_
    exact u_iretr hx hb hr hlocks rfl hP hD hS dX10_aboutOf_38 hf (fun _ => rfl)
  · have hf := ifn c1_0 hf
    by_cases c1_1 : v2 = (1 : Int32)
    · have hf := ifp c1_1 hf
      refine lv_tableIn (off := 38) (tgt := 39) hx hb dX10_aboutOf_1 (by rw [c1_1]; decide) (by rw [c1_1]; decide) (by rw [c1_1]; decide) (by decide) ?_
      refine lv_aload_n hx hb dX10_aboutOf_39 rfl (lv_at hl 0 rfl) ?_
      refine gM_m_wear S hK hP q956 dX10_aboutOf_40 ?_
      refine lv_iload_n hx hb dX10_aboutOf_43 rfl (lv_at hl 1 rfl) ?_
      obtain ⟨h44, hf⟩ := if_in hf
      refine lM_4 S hK hP h44 dX10_aboutOf_44 ?_
      exact u_iretr hx hb hr hlocks rfl hP hD hS dX10_aboutOf_45 hf (fun _ => rfl)
    · have hf := ifn c1_1 hf
      by_cases c1_2 : v2 = (2 : Int32)
      · have hf := ifp c1_2 hf
        refine lv_tableIn (off := 45) (tgt := 46) hx hb dX10_aboutOf_1 (by rw [c1_2]; decide) (by rw [c1_2]; decide) (by rw [c1_2]; decide) (by decide) ?_
        refine lv_aload_n hx hb dX10_aboutOf_46 rfl (lv_at hl 0 rfl) ?_
        refine gM_m_isWet S hK hP q957 dX10_aboutOf_47 ?_
        refine lv_iload_n hx hb dX10_aboutOf_50 rfl (lv_at hl 1 rfl) ?_
        obtain ⟨h51, hf⟩ := if_in hf
        refine lM_5 S hK hP h51 dX10_aboutOf_51 ?_
        obtain ⟨r52, h52, hf⟩ := ob_some hf
        refine p_calli0 (u_runS (rest := []) S (c_X10_bit l D cy σ (ga σ 5 v1.toNatClampNeg) r52 h52 aw ac H.size) iX10_bit q1237 q1236 ⟨Nat.le_of_ble_eq_true rfl, Nat.le_of_ble_eq_true rfl⟩ hK wN_P (wN_D (A := fun _ => True)) rfl hl.1 (Nat.le_of_ble_eq_true rfl) dX10_aboutOf_52 ⟨Nat.le_refl _, Nat.le_refl _⟩) hP hS hA (fun H locs hP hS => ?_)
        exact u_iretr hx hb hr hlocks rfl hP hD hS dX10_aboutOf_55 hf (fun _ => rfl)
      · have hf := ifn c1_2 hf
        by_cases c1_3 : v2 = (3 : Int32)
        · have hf := ifp c1_3 hf
          refine lv_tableIn (off := 55) (tgt := 56) hx hb dX10_aboutOf_1 (by rw [c1_3]; decide) (by rw [c1_3]; decide) (by rw [c1_3]; decide) (by decide) ?_
          refine lv_aload_n hx hb dX10_aboutOf_56 rfl (lv_at hl 0 rfl) ?_
          refine gM_m_isParted S hK hP q958 dX10_aboutOf_57 ?_
          refine lv_iload_n hx hb dX10_aboutOf_60 rfl (lv_at hl 1 rfl) ?_
          obtain ⟨h61, hf⟩ := if_in hf
          refine lM_6 S hK hP h61 dX10_aboutOf_61 ?_
          obtain ⟨r62, h62, hf⟩ := ob_some hf
          refine p_calli0 (u_runS (rest := []) S (c_X10_bit l D cy σ (ga σ 6 v1.toNatClampNeg) r62 h62 aw ac H.size) iX10_bit q1237 q1236 ⟨Nat.le_of_ble_eq_true rfl, Nat.le_of_ble_eq_true rfl⟩ hK wN_P (wN_D (A := fun _ => True)) rfl hl.1 (Nat.le_of_ble_eq_true rfl) dX10_aboutOf_62 ⟨Nat.le_refl _, Nat.le_refl _⟩) hP hS hA (fun H locs hP hS => ?_)
          exact u_iretr hx hb hr hlocks rfl hP hD hS dX10_aboutOf_65 hf (fun _ => rfl)
        · have hf := ifn c1_3 hf
          refine lv_tableOut (tgt := 66) hx hb dX10_aboutOf_1 (sw_3 c1_0 c1_1 c1_2 c1_3) (by decide) ?_
          refine lv_aload_n hx hb dX10_aboutOf_66 rfl (lv_at hl 0 rfl) ?_
          refine lv_iload_n hx hb dX10_aboutOf_67 rfl (lv_at hl 1 rfl) ?_
          obtain ⟨r68, h68, hf⟩ := ob_some hf
          refine u_calli0 (u_runV (rest := []) S (c_X10_holdsOf l D cy ad σ v1 r68 h68 aw ac H.size) iX10_holdsOf vX10_holdsOf q1208 ⟨Nat.le_of_ble_eq_true rfl, Nat.le_of_ble_eq_true rfl⟩ hK hP hD (q0 := 0) rfl rfl rfl hl.1 (Nat.le_of_ble_eq_true rfl) dX10_aboutOf_68 ⟨Nat.le_refl _, Nat.le_refl _⟩) hD hS hA (fun H locs hP hD hS => ?_)
          exact u_iretr hx hb hr hlocks rfl hP hD hS dX10_aboutOf_71 hf (fun _ => rfl)
theorem iX10_about : YI yX10_about cX10_about 3 (some .int) 2 := ⟨q1230, q12, by decide, by decide, by decide +kernel⟩
theorem vX10_about : YV yX10_about := ⟨q1228, q1229⟩
set_option maxRecDepth 100000 in
set_option maxHeartbeats 4000000 in
theorem c_X10_about (l : Launch) (D : va_G) (cy : Nat → ClassId) (ad : Nat → Nat) (σ : St) (v1 : Int32) (v2 : Int32) (r : Int32) (hf : fX10_about σ v1 v2 = some r) : Ci l D cy (wM cy ad) yX10_about cX10_about 3 .int 2 46 [.ref (ad 0), .int v1, .int v2] σ r σ 0 0 := by
  refine Ci.enter (by decide) (Nat.le_of_ble_eq_true rfl) ?_
  intro aw ac p e s m below meth c A H locs S hr hlocks hA hK hP hD hS ls hl
  have hx := S.1
  have hb := S.2.1
  have hl : lv_has ls 3 [(0, .ref (ad 0)), (1, .int v1), (2, .int v2)] := hl
  unfold fX10_about at hf
  refine lv_aload_n hx hb dX10_about_0 rfl (lv_at hl 0 rfl) ?_
  refine lv_iload_n hx hb dX10_about_1 rfl (lv_at hl 1 rfl) ?_
  obtain ⟨r2, h2, hf⟩ := ob_some hf
  refine u_calli0 (u_runV (rest := []) S (c_X10_noRope l D cy ad σ v1 r2 h2 aw ac H.size) iX10_noRope vX10_noRope q1200 ⟨Nat.le_of_ble_eq_true rfl, Nat.le_of_ble_eq_true rfl⟩ hK hP hD (q0 := 0) rfl rfl rfl hl.1 (Nat.le_of_ble_eq_true rfl) dX10_about_2 ⟨Nat.le_refl _, Nat.le_refl _⟩) hD hS hA (fun H locs hP hD hS => ?_)
  refine lv_if_ne (tgt := 20) hx hb dX10_about_5 (by decide) (fun c5 => ?_) (fun c5 => ?_)
  · have hf := ifn c5 hf
    refine lv_bipush (v := (-2 : Int32)) hx hb dX10_about_20 (by decide) ?_
    refine lv_goto (tgt := 31) hx hb dX10_about_22 (by decide) ?_
    exact u_iretr hx hb hr hlocks rfl hP hD hS dX10_about_31 hf (fun _ => rfl)
  · have hf := ifp c5 hf
    refine lv_iload_n hx hb dX10_about_8 rfl (lv_at hl 2 rfl) ?_
    refine lv_i2l (v := (v2).toInt64) hx hb dX10_about_9 rfl ?_
    refine lv_lconst (v := (0 : Int64)) hx hb dX10_about_10 (by decide) ?_
    refine lv_ldc2 hx hb S.2.2.2.1 (S.2.2.2.2 _ (List.mem_cons_of_mem _ q1231)) dX10_about_11 ?_
    obtain ⟨r14, h14, hf⟩ := ob_some hf
    refine p_calli0 (u_runS (rest := []) S (c_X10_in l D cy σ ((v2).toInt64) (0 : Int64) (4 : Int64) r14 h14 aw ac H.size) iX10_in q1112 q1111 ⟨Nat.le_of_ble_eq_true rfl, Nat.le_of_ble_eq_true rfl⟩ hK wN_P (wN_D (A := fun _ => True)) rfl hl.1 (Nat.le_of_ble_eq_true rfl) dX10_about_14 ⟨Nat.le_refl _, Nat.le_refl _⟩) hP hS hA (fun H locs hP hS => ?_)
    refine lv_if_ne (tgt := 25) hx hb dX10_about_17 (by decide) (fun c17 => ?_) (fun c17 => ?_)
    · have hf := ifn c17 hf
      refine lv_aload_n hx hb dX10_about_25 rfl (lv_at hl 0 rfl) ?_
      refine lv_iload_n hx hb dX10_about_26 rfl (lv_at hl 1 rfl) ?_
      refine lv_iload_n hx hb dX10_about_27 rfl (lv_at hl 2 rfl) ?_
      obtain ⟨r28, h28, hf⟩ := ob_some hf
      refine u_calli0 (u_runV (rest := []) S (c_X10_aboutOf l D cy ad σ v1 v2 r28 h28 aw ac H.size) iX10_aboutOf vX10_aboutOf q1232 ⟨Nat.le_of_ble_eq_true rfl, Nat.le_of_ble_eq_true rfl⟩ hK hP hD (q0 := 0) rfl rfl rfl hl.1 (Nat.le_of_ble_eq_true rfl) dX10_about_28 ⟨Nat.le_refl _, Nat.le_refl _⟩) hD hS hA (fun H locs hP hD hS => ?_)
      exact u_iretr hx hb hr hlocks rfl hP hD hS dX10_about_31 hf (fun _ => rfl)
    · have hf := ifp c17 hf
      refine lv_bipush (v := (-2 : Int32)) hx hb dX10_about_20 (by decide) ?_
      refine lv_goto (tgt := 31) hx hb dX10_about_22 (by decide) ?_
      exact u_iretr hx hb hr hlocks rfl hP hD hS dX10_about_31 hf (fun _ => rfl)
theorem iX10_pull : YI yX10_pull cX10_pull 3 (some .int) 2 := ⟨q1242, q12, by decide, by decide, by decide +kernel⟩
theorem vX10_pull : YV yX10_pull := ⟨q1240, q1241⟩
set_option maxRecDepth 100000 in
set_option maxHeartbeats 4000000 in
theorem c_X10_pull (l : Launch) (D : va_G) (cy : Nat → ClassId) (ad : Nat → Nat) (σ : St) (v1 : Int32) (v2 : Int32) (q : Int32 × St) (hf : fX10_pull σ v1 v2 = some q) : Ci l D cy (wM cy ad) yX10_pull cX10_pull 3 .int 2 47 [.ref (ad 0), .int v1, .int v2] σ q.1 q.2 0 0 := by
  refine Ci.enter (by decide) (Nat.le_of_ble_eq_true rfl) ?_
  intro aw ac p e s m below meth c A H locs S hr hlocks hA hK hP hD hS ls hl
  have hx := S.1
  have hb := S.2.1
  have hl : lv_has ls 3 [(0, .ref (ad 0)), (1, .int v1), (2, .int v2)] := hl
  unfold fX10_pull at hf
  refine lv_aload_n hx hb dX10_pull_0 rfl (lv_at hl 0 rfl) ?_
  refine lv_iload_n hx hb dX10_pull_1 rfl (lv_at hl 1 rfl) ?_
  obtain ⟨r2, h2, hf⟩ := ob_some hf
  refine u_calli0 (u_runV (rest := []) S (c_X10_noRope l D cy ad σ v1 r2 h2 aw ac H.size) iX10_noRope vX10_noRope q1200 ⟨Nat.le_of_ble_eq_true rfl, Nat.le_of_ble_eq_true rfl⟩ hK hP hD (q0 := 0) rfl rfl rfl hl.1 (Nat.le_of_ble_eq_true rfl) dX10_pull_2 ⟨Nat.le_refl _, Nat.le_refl _⟩) hD hS hA (fun H locs hP hD hS => ?_)
  refine lv_if_ne (tgt := 15) hx hb dX10_pull_5 (by decide) (fun c5 => ?_) (fun c5 => ?_)
  · have hf := ifn c5 hf
    refine lv_bipush (v := (-2 : Int32)) hx hb dX10_pull_15 (by decide) ?_
    exact u_iretw hx hb hr hlocks rfl hP hD hS dX10_pull_17 hf (fun _ => rfl)
  · have hf := ifp c5 hf
    refine lv_iload_n hx hb dX10_pull_8 rfl (lv_at hl 2 rfl) ?_
    obtain ⟨r9, h9, hf⟩ := ob_some hf
    refine p_calli0 (u_runS (rest := []) S (c_X10_isLoad l D cy σ v2 r9 h9 aw ac H.size) iX10_isLoad q1178 q1177 ⟨Nat.le_of_ble_eq_true rfl, Nat.le_of_ble_eq_true rfl⟩ hK wN_P (wN_D (A := fun _ => True)) rfl hl.1 (Nat.le_of_ble_eq_true rfl) dX10_pull_9 ⟨Nat.le_refl _, Nat.le_refl _⟩) hP hS hA (fun H locs hP hS => ?_)
    refine lv_if_ne (tgt := 18) hx hb dX10_pull_12 (by decide) (fun c12 => ?_) (fun c12 => ?_)
    · have hf := ifn c12 hf
      refine lv_aload_n hx hb dX10_pull_18 rfl (lv_at hl 0 rfl) ?_
      refine gM_m_isParted S hK hP q958 dX10_pull_19 ?_
      refine lv_iload_n hx hb dX10_pull_22 rfl (lv_at hl 1 rfl) ?_
      obtain ⟨h23, hf⟩ := if_in hf
      refine lM_6 S hK hP h23 dX10_pull_23 ?_
      refine lv_if_eq (tgt := 32) hx hb dX10_pull_24 (by decide) (fun c24 => ?_) (fun c24 => ?_)
      · have hf := ifp c24 hf
        refine lv_aload_n hx hb dX10_pull_32 rfl (lv_at hl 0 rfl) ?_
        refine lv_iload_n hx hb dX10_pull_33 rfl (lv_at hl 1 rfl) ?_
        refine lv_iload_n hx hb dX10_pull_34 rfl (lv_at hl 2 rfl) ?_
        obtain ⟨q35, h35, hf⟩ := ob_some hf
        refine u_calli0 (u_runV (rest := []) S (c_X10_pullOf l D cy ad σ v1 v2 q35 h35 aw ac H.size) iX10_pullOf vX10_pullOf q1204 ⟨Nat.le_of_ble_eq_true rfl, Nat.le_of_ble_eq_true rfl⟩ hK hP hD (q0 := 0) rfl rfl rfl hl.1 (Nat.le_of_ble_eq_true rfl) dX10_pull_35 ⟨Nat.le_refl _, Nat.le_refl _⟩) hD hS hA (fun H locs hP hD hS => ?_)
        obtain ⟨r38, h38, hf⟩ := ob_some hf
        refine p_calli0 (u_runS (rest := []) S (c_X10_bit l D cy q35.2 q35.1 r38 h38 aw ac H.size) iX10_bit q1237 q1236 ⟨Nat.le_of_ble_eq_true rfl, Nat.le_of_ble_eq_true rfl⟩ hK wN_P (wN_D (A := fun _ => True)) rfl hl.1 (Nat.le_of_ble_eq_true rfl) dX10_pull_38 ⟨Nat.le_refl _, Nat.le_refl _⟩) hP hS hA (fun H locs hP hS => ?_)
        exact u_iretw hx hb hr hlocks rfl hP hD hS dX10_pull_41 hf (fun _ => rfl)
      · have hf := ifn c24 hf
        refine lv_bipush (v := (-3 : Int32)) hx hb dX10_pull_27 (by decide) ?_
        refine lv_goto (tgt := 41) hx hb dX10_pull_29 (by decide) ?_
        exact u_iretw hx hb hr hlocks rfl hP hD hS dX10_pull_41 hf (fun _ => rfl)
    · have hf := ifp c12 hf
      refine lv_bipush (v := (-2 : Int32)) hx hb dX10_pull_15 (by decide) ?_
      exact u_iretw hx hb hr hlocks rfl hP hD hS dX10_pull_17 hf (fun _ => rfl)
theorem iX10_load : YI yX10_load cX10_load 2 (some .int) 1 := ⟨q1246, q12, by decide, by decide, by decide +kernel⟩
theorem vX10_load : YV yX10_load := ⟨q1244, q1245⟩
set_option maxRecDepth 100000 in
set_option maxHeartbeats 4000000 in
theorem c_X10_load (l : Launch) (D : va_G) (cy : Nat → ClassId) (ad : Nat → Nat) (σ : St) (v1 : Int32) (q : Int32 × St) (hf : fX10_load σ v1 = some q) : Ci l D cy (wM cy ad) yX10_load cX10_load 2 .int 2 45 [.ref (ad 0), .int v1] σ q.1 q.2 0 0 := by
  refine Ci.enter (by decide) (Nat.le_of_ble_eq_true rfl) ?_
  intro aw ac p e s m below meth c A H locs S hr hlocks hA hK hP hD hS ls hl
  have hx := S.1
  have hb := S.2.1
  have hl : lv_has ls 2 [(0, .ref (ad 0)), (1, .int v1)] := hl
  unfold fX10_load at hf
  refine lv_iload_n hx hb dX10_load_0 rfl (lv_at hl 1 rfl) ?_
  obtain ⟨r1, h1, hf⟩ := ob_some hf
  refine p_calli0 (u_runS (rest := []) S (c_X10_isLoad l D cy σ v1 r1 h1 aw ac H.size) iX10_isLoad q1178 q1177 ⟨Nat.le_of_ble_eq_true rfl, Nat.le_of_ble_eq_true rfl⟩ hK wN_P (wN_D (A := fun _ => True)) rfl hl.1 (Nat.le_of_ble_eq_true rfl) dX10_load_1 ⟨Nat.le_refl _, Nat.le_refl _⟩) hP hS hA (fun H locs hP hS => ?_)
  refine lv_if_ne (tgt := 10) hx hb dX10_load_4 (by decide) (fun c4 => ?_) (fun c4 => ?_)
  · have hf := ifn c4 hf
    refine lv_aload_n hx hb dX10_load_10 rfl (lv_at hl 0 rfl) ?_
    refine gM_m_loads S hK hP q959 dX10_load_11 ?_
    refine lv_bipush (v := (12 : Int32)) hx hb dX10_load_14 (by decide) ?_
    refine lv_icmp_ne (tgt := 22) hx hb dX10_load_16 (by decide) (fun c16 => ?_) (fun c16 => ?_)
    · have hf := ifn c16 hf
      refine lv_aload_n hx hb dX10_load_22 rfl (lv_at hl 0 rfl) ?_
      refine gM_m_row S hK hP q960 dX10_load_23 ?_
      refine lv_aload_n hx hb dX10_load_26 rfl (lv_at hl 0 rfl) ?_
      refine gM_m_loads S hK hP q959 dX10_load_27 ?_
      refine lv_iload_n hx hb dX10_load_30 rfl (lv_at hl 1 rfl) ?_
      obtain ⟨h31, hf⟩ := if_in hf
      refine tM_7 S hK hP hD hS h31 dX10_load_31 (fun H locs hP hD hS => ?_)
      refine lv_aload_n hx hb dX10_load_32 rfl (lv_at hl 0 rfl) ?_
      refine lv_dup hx hb dX10_load_33 rfl ?_
      refine gM_m_loads S hK hP q959 dX10_load_34 ?_
      refine lv_iconst (v := (1 : Int32)) hx hb dX10_load_37 (by decide) ?_
      refine lv_iadd hx hb dX10_load_38 ?_
      refine pM_m_loads S hK hP hD hS q959 dX10_load_39 (fun H locs hP hD hS => ?_)
      refine lv_aload_n hx hb dX10_load_42 rfl (lv_at hl 0 rfl) ?_
      refine gM_m_loads S hK hP q959 dX10_load_43 ?_
      exact u_iretw hx hb hr hlocks rfl hP hD hS dX10_load_46 hf (fun _ => rfl)
    · have hf := ifp c16 hf
      refine lv_bipush (v := (-4 : Int32)) hx hb dX10_load_19 (by decide) ?_
      exact u_iretw hx hb hr hlocks rfl hP hD hS dX10_load_21 hf (fun _ => rfl)
  · have hf := ifp c4 hf
    refine lv_bipush (v := (-2 : Int32)) hx hb dX10_load_7 (by decide) ?_
    exact u_iretw hx hb hr hlocks rfl hP hD hS dX10_load_9 hf (fun _ => rfl)
theorem iX10_clear : YI yX10_clear cX10_clear 2 (some .int) 0 := ⟨q1250, q12, by decide, by decide, by decide +kernel⟩
theorem vX10_clear : YV yX10_clear := ⟨q1248, q1249⟩
set_option maxRecDepth 100000 in
set_option maxHeartbeats 4000000 in
theorem c_X10_clear (l : Launch) (D : va_G) (cy : Nat → ClassId) (ad : Nat → Nat) (σ : St) (q : Int32 × St) (hf : fX10_clear σ = some q) : Ci l D cy (wM cy ad) yX10_clear cX10_clear 2 .int 0 0 [.ref (ad 0)] σ q.1 q.2 0 0 := by
  refine Ci.enter (by decide) (Nat.le_of_ble_eq_true rfl) ?_
  intro aw ac p e s m below meth c A H locs S hr hlocks hA hK hP hD hS ls hl
  have hx := S.1
  have hb := S.2.1
  have hl : lv_has ls 2 [(0, .ref (ad 0))] := hl
  unfold fX10_clear at hf
  refine lv_aload_n hx hb dX10_clear_0 rfl (lv_at hl 0 rfl) ?_
  refine gM_m_loads S hK hP q959 dX10_clear_1 ?_
  refine lv_istore_n (lv' := [(1, .int (gi σ 8)), (0, .ref (ad 0))]) hx hb dX10_clear_4 rfl hl (by decide) rfl (fun ls hl => ?_)
  refine lv_aload_n hx hb dX10_clear_5 rfl (lv_at hl 1 rfl) ?_
  refine lv_iconst (v := (0 : Int32)) hx hb dX10_clear_6 (by decide) ?_
  refine pM_m_loads S hK hP hD hS q959 dX10_clear_7 (fun H locs hP hD hS => ?_)
  refine lv_iload_n hx hb dX10_clear_10 rfl (lv_at hl 0 rfl) ?_
  exact u_iretw hx hb hr hlocks rfl hP hD hS dX10_clear_11 hf (fun _ => rfl)
theorem iX10_partsAt : YI yX10_partsAt cX10_partsAt 4 (some .int) 2 := ⟨q1258, q12, by decide, by decide, by decide +kernel⟩
theorem vX10_partsAt : YV yX10_partsAt := ⟨q1257, qs38⟩
set_option maxRecDepth 100000 in
set_option maxHeartbeats 4000000 in
theorem c_X10_partsAt (l : Launch) (D : va_G) (cy : Nat → ClassId) (ad : Nat → Nat) (σ : St) (v1 : Int32) (v2 : Int32) (q : Int32 × St) (hf : fX10_partsAt σ v1 v2 = some q) : Ci l D cy (wM cy ad) yX10_partsAt cX10_partsAt 4 .int 2 47 [.ref (ad 0), .int v1, .int v2] σ q.1 q.2 0 0 := by
  refine Ci.enter (by decide) (Nat.le_of_ble_eq_true rfl) ?_
  intro aw ac p e s m below meth c A H locs S hr hlocks hA hK hP hD hS ls hl
  have hx := S.1
  have hb := S.2.1
  have hl : lv_has ls 4 [(0, .ref (ad 0)), (1, .int v1), (2, .int v2)] := hl
  unfold fX10_partsAt at hf
  refine lv_aload_n hx hb dX10_partsAt_0 rfl (lv_at hl 0 rfl) ?_
  refine lv_bipush (v := (6 : Int32)) hx hb dX10_partsAt_1 (by decide) ?_
  refine lv_iload_n hx hb dX10_partsAt_3 rfl (lv_at hl 1 rfl) ?_
  obtain ⟨q4, h4, hf⟩ := ob_some hf
  refine u_callv0 (u_runV (rest := []) S (c_X10_layRope l D cy ad σ (6 : Int32) v1 q4 h4 aw ac H.size) iX10_layRope vX10_layRope q1219 ⟨Nat.le_of_ble_eq_true rfl, Nat.le_of_ble_eq_true rfl⟩ hK hP hD (q0 := 0) rfl rfl rfl hl.1 (Nat.le_of_ble_eq_true rfl) dX10_partsAt_4 ⟨Nat.le_refl _, Nat.le_refl _⟩) hD hS hA (fun H locs hP hD hS => ?_)
  refine lv_iconst (v := (0 : Int32)) hx hb dX10_partsAt_7 (by decide) ?_
  refine lv_istore_n (lv' := [(3, .int (0 : Int32)), (0, .ref (ad 0)), (1, .int v1), (2, .int v2)]) hx hb dX10_partsAt_8 rfl hl (by decide) rfl (fun ls hl => ?_)
  have L9 : ∀ (n9 : Nat) (v3_9 : Int32) (σ9 : St) (H : Heap) (locs : List Loc) (ls : Array Slot), fX10_partsAt_9 (fX10_partsAt_9_k v1 v2) v1 v2 n9 σ9 v3_9 = some q → va_P D vwCl (wM cy ad aw ac σ9) H → va_D A (wM cy ad aw ac σ9) → va_S A s.heap H locs → lv_has ls 4 [(0, .ref (ad 0)), (1, .int v1), (2, .int v2), (3, .int v3_9)] → W p l e (Rm 2 47 0 0) s m [.ref (ad 0), .int v1, .int v2].toArray below meth c H locs 0 0 (Zi D (wM cy ad) A q.1 q.2 aw ac below [.ref (ad 0), .int v1, .int v2].toArray s 0 0) (F0 m 9 ls []) := by
    intro n9
    induction n9 with
    | zero =>
      intro v3_9 σ9 H locs ls hf
      cases hf
    | succ n9 ih9 =>
      intro v3_9 σ9 H locs ls hf hP hD hS hl
      rw [fX10_partsAt_9] at hf
      refine lv_iload_n hx hb dX10_partsAt_9 rfl (lv_at hl 3 rfl) ?_
      refine lv_aload_n hx hb dX10_partsAt_10 rfl (lv_at hl 0 rfl) ?_
      refine gM_m_loads S hK hP q959 dX10_partsAt_11 ?_
      refine lv_icmp_ge (tgt := 48) hx hb dX10_partsAt_14 (by decide) (fun c14 => ?_) (fun c14 => ?_)
      · have hf := ifp c14 hf
        have hl := lv_sub (l' := [(0, .ref (ad 0)), (1, .int v1), (2, .int v2), (3, .int v3_9)]) hl [0, 1, 2, 3] rfl
        unfold fX10_partsAt_9_k at hf
        refine lv_iconst (v := (-1 : Int32)) hx hb dX10_partsAt_48 (by decide) ?_
        exact u_iretw hx hb hr hlocks rfl hP hD hS dX10_partsAt_49 hf (fun _ => rfl)
      · have hf := ifn c14 hf
        refine lv_aload_n hx hb dX10_partsAt_17 rfl (lv_at hl 0 rfl) ?_
        refine lv_bipush (v := (6 : Int32)) hx hb dX10_partsAt_18 (by decide) ?_
        refine lv_aload_n hx hb dX10_partsAt_20 rfl (lv_at hl 0 rfl) ?_
        refine gM_m_row S hK hP q960 dX10_partsAt_21 ?_
        refine lv_iload_n hx hb dX10_partsAt_24 rfl (lv_at hl 3 rfl) ?_
        obtain ⟨h25, hf⟩ := if_in hf
        refine lM_7 S hK hP h25 dX10_partsAt_25 ?_
        refine lv_iconst (v := (1 : Int32)) hx hb dX10_partsAt_26 (by decide) ?_
        refine lv_iload_n hx hb dX10_partsAt_27 rfl (lv_at hl 2 rfl) ?_
        refine lv_iload_n hx hb dX10_partsAt_28 rfl (lv_at hl 3 rfl) ?_
        refine lv_ishr hx hb dX10_partsAt_29 ?_
        refine lv_iconst (v := (1 : Int32)) hx hb dX10_partsAt_30 (by decide) ?_
        refine lv_iand hx hb dX10_partsAt_31 ?_
        refine lv_iadd hx hb dX10_partsAt_32 ?_
        refine lv_imul hx hb dX10_partsAt_33 ?_
        obtain ⟨q34, h34, hf⟩ := ob_some hf
        refine u_calli0 (u_runV (rest := []) S (c_X10_pullOf l D cy ad σ9 (6 : Int32) ((ga σ9 7 v3_9.toNatClampNeg) * ((1 : Int32) + ((v2 >>> (v3_9 &&& 31)) &&& (1 : Int32)))) q34 h34 aw ac H.size) iX10_pullOf vX10_pullOf q1204 ⟨Nat.le_of_ble_eq_true rfl, Nat.le_of_ble_eq_true rfl⟩ hK hP hD (q0 := 0) rfl rfl rfl hl.1 (Nat.le_of_ble_eq_true rfl) dX10_partsAt_34 ⟨Nat.le_refl _, Nat.le_refl _⟩) hD hS hA (fun H locs hP hD hS => ?_)
        refine lv_if_ne (tgt := 42) hx hb dX10_partsAt_37 (by decide) (fun c37 => ?_) (fun c37 => ?_)
        · have hf := ifn c37 hf
          refine lv_iinc (v := (v3_9 + (1 : Int32))) (lv' := [(3, .int (v3_9 + (1 : Int32))), (0, .ref (ad 0)), (1, .int v1), (2, .int v2)]) hx hb dX10_partsAt_42 hl (k := 3) rfl rfl (by decide) rfl (fun ls hl => ?_)
          refine lv_goto (tgt := 9) hx hb dX10_partsAt_45 (by decide) ?_
          exact ih9 (v3_9 + (1 : Int32)) q34.2 H locs ls hf hP hD hS (lv_sub hl [1, 2, 3, 0] rfl)
        · have hf := ifp c37 hf
          refine lv_iload_n hx hb dX10_partsAt_40 rfl (lv_at hl 3 rfl) ?_
          exact u_iretw hx hb hr hlocks rfl hP hD hS dX10_partsAt_41 hf (fun _ => rfl)
  exact L9 KF (0 : Int32) q4 H locs ls hf hP hD hS (lv_sub hl [1, 2, 3, 0] rfl)
theorem iX10_bears : YI yX10_bears cX10_bears 2 (some .int) 1 := ⟨q1254, q12, by decide, by decide, by decide +kernel⟩
theorem vX10_bears : YV yX10_bears := ⟨q1252, q1253⟩
set_option maxRecDepth 100000 in
set_option maxHeartbeats 4000000 in
theorem c_X10_bears (l : Launch) (D : va_G) (cy : Nat → ClassId) (ad : Nat → Nat) (σ : St) (v1 : Int32) (q : Int32 × St) (hf : fX10_bears σ v1 = some q) : Ci l D cy (wM cy ad) yX10_bears cX10_bears 2 .int 3 70 [.ref (ad 0), .int v1] σ q.1 q.2 0 0 := by
  refine Ci.enter (by decide) (Nat.le_of_ble_eq_true rfl) ?_
  intro aw ac p e s m below meth c A H locs S hr hlocks hA hK hP hD hS ls hl
  have hx := S.1
  have hb := S.2.1
  have hl : lv_has ls 2 [(0, .ref (ad 0)), (1, .int v1)] := hl
  unfold fX10_bears at hf
  refine lv_iload_n hx hb dX10_bears_0 rfl (lv_at hl 1 rfl) ?_
  obtain ⟨r1, h1, hf⟩ := ob_some hf
  refine p_calli0 (u_runS (rest := []) S (c_X10_isStrength l D cy σ v1 r1 h1 aw ac H.size) iX10_isStrength q1217 q1216 ⟨Nat.le_of_ble_eq_true rfl, Nat.le_of_ble_eq_true rfl⟩ hK wN_P (wN_D (A := fun _ => True)) rfl hl.1 (Nat.le_of_ble_eq_true rfl) dX10_bears_1 ⟨Nat.le_refl _, Nat.le_refl _⟩) hP hS hA (fun H locs hP hS => ?_)
  refine lv_if_eq (tgt := 16) hx hb dX10_bears_4 (by decide) (fun c4 => ?_) (fun c4 => ?_)
  · have hf := ifp c4 hf
    refine lv_bipush (v := (-2 : Int32)) hx hb dX10_bears_16 (by decide) ?_
    exact u_iretw hx hb hr hlocks rfl hP hD hS dX10_bears_18 hf (fun _ => rfl)
  · have hf := ifn c4 hf
    refine lv_aload_n hx hb dX10_bears_7 rfl (lv_at hl 0 rfl) ?_
    refine lv_iload_n hx hb dX10_bears_8 rfl (lv_at hl 1 rfl) ?_
    refine lv_iconst (v := (0 : Int32)) hx hb dX10_bears_9 (by decide) ?_
    obtain ⟨q10, h10, hf⟩ := ob_some hf
    refine u_calli0 (u_runV (rest := []) S (c_X10_partsAt l D cy ad σ v1 (0 : Int32) q10 h10 aw ac H.size) iX10_partsAt vX10_partsAt q1255 ⟨Nat.le_of_ble_eq_true rfl, Nat.le_of_ble_eq_true rfl⟩ hK hP hD (q0 := 0) rfl rfl rfl hl.1 (Nat.le_of_ble_eq_true rfl) dX10_bears_10 ⟨Nat.le_refl _, Nat.le_refl _⟩) hD hS hA (fun H locs hP hD hS => ?_)
    refine lv_goto (tgt := 18) hx hb dX10_bears_13 (by decide) ?_
    exact u_iretw hx hb hr hlocks rfl hP hD hS dX10_bears_18 hf (fun _ => rfl)
theorem iX10_blamed : YI yX10_blamed cX10_blamed 6 (some .int) 2 := ⟨q1262, q12, by decide, by decide, by decide +kernel⟩
theorem vX10_blamed : YV yX10_blamed := ⟨q1260, q1261⟩
set_option maxRecDepth 100000 in
set_option maxHeartbeats 4000000 in
theorem c_X10_blamed (l : Launch) (D : va_G) (cy : Nat → ClassId) (ad : Nat → Nat) (σ : St) (v1 : Int32) (v2 : Int32) (q : Int32 × St) (hf : fX10_blamed σ v1 v2 = some q) : Ci l D cy (wM cy ad) yX10_blamed cX10_blamed 6 .int 3 70 [.ref (ad 0), .int v1, .int v2] σ q.1 q.2 0 0 := by
  refine Ci.enter (by decide) (Nat.le_of_ble_eq_true rfl) ?_
  intro aw ac p e s m below meth c A H locs S hr hlocks hA hK hP hD hS ls hl
  have hx := S.1
  have hb := S.2.1
  have hl : lv_has ls 6 [(0, .ref (ad 0)), (1, .int v1), (2, .int v2)] := hl
  unfold fX10_blamed at hf
  refine lv_iload_n hx hb dX10_blamed_0 rfl (lv_at hl 1 rfl) ?_
  obtain ⟨r1, h1, hf⟩ := ob_some hf
  refine p_calli0 (u_runS (rest := []) S (c_X10_isStrength l D cy σ v1 r1 h1 aw ac H.size) iX10_isStrength q1217 q1216 ⟨Nat.le_of_ble_eq_true rfl, Nat.le_of_ble_eq_true rfl⟩ hK wN_P (wN_D (A := fun _ => True)) rfl hl.1 (Nat.le_of_ble_eq_true rfl) dX10_blamed_1 ⟨Nat.le_refl _, Nat.le_refl _⟩) hP hS hA (fun H locs hP hS => ?_)
  refine lv_if_eq (tgt := 23) hx hb dX10_blamed_4 (by decide) (fun c4 => ?_) (fun c4 => ?_)
  · have hf := ifp c4 hf
    refine lv_bipush (v := (-2 : Int32)) hx hb dX10_blamed_23 (by decide) ?_
    exact u_iretw hx hb hr hlocks rfl hP hD hS dX10_blamed_25 hf (fun _ => rfl)
  · have hf := ifn c4 hf
    refine lv_iload_n hx hb dX10_blamed_7 rfl (lv_at hl 2 rfl) ?_
    refine lv_i2l (v := (v2).toInt64) hx hb dX10_blamed_8 rfl ?_
    refine lv_lconst (v := (0 : Int64)) hx hb dX10_blamed_9 (by decide) ?_
    refine lv_aload_n hx hb dX10_blamed_10 rfl (lv_at hl 0 rfl) ?_
    refine gM_m_loads S hK hP q959 dX10_blamed_11 ?_
    refine lv_iconst (v := (1 : Int32)) hx hb dX10_blamed_14 (by decide) ?_
    refine lv_isub hx hb dX10_blamed_15 ?_
    refine lv_i2l (v := (((gi σ 8) - (1 : Int32))).toInt64) hx hb dX10_blamed_16 rfl ?_
    obtain ⟨r17, h17, hf⟩ := ob_some hf
    refine p_calli0 (u_runS (rest := []) S (c_X10_in l D cy σ ((v2).toInt64) (0 : Int64) ((((gi σ 8) - (1 : Int32))).toInt64) r17 h17 aw ac H.size) iX10_in q1112 q1111 ⟨Nat.le_of_ble_eq_true rfl, Nat.le_of_ble_eq_true rfl⟩ hK wN_P (wN_D (A := fun _ => True)) rfl hl.1 (Nat.le_of_ble_eq_true rfl) dX10_blamed_17 ⟨Nat.le_refl _, Nat.le_refl _⟩) hP hS hA (fun H locs hP hS => ?_)
    refine lv_if_ne (tgt := 26) hx hb dX10_blamed_20 (by decide) (fun c20 => ?_) (fun c20 => ?_)
    · have hf := ifn c20 hf
      refine lv_aload_n hx hb dX10_blamed_26 rfl (lv_at hl 0 rfl) ?_
      refine lv_iload_n hx hb dX10_blamed_27 rfl (lv_at hl 1 rfl) ?_
      refine lv_iconst (v := (0 : Int32)) hx hb dX10_blamed_28 (by decide) ?_
      obtain ⟨q29, h29, hf⟩ := ob_some hf
      refine u_calli0 (u_runV (rest := []) S (c_X10_partsAt l D cy ad σ v1 (0 : Int32) q29 h29 aw ac H.size) iX10_partsAt vX10_partsAt q1255 ⟨Nat.le_of_ble_eq_true rfl, Nat.le_of_ble_eq_true rfl⟩ hK hP hD (q0 := 0) rfl rfl rfl hl.1 (Nat.le_of_ble_eq_true rfl) dX10_blamed_29 ⟨Nat.le_refl _, Nat.le_refl _⟩) hD hS hA (fun H locs hP hD hS => ?_)
      refine lv_istore_n (lv' := [(3, .int q29.1), (0, .ref (ad 0)), (1, .int v1), (2, .int v2)]) hx hb dX10_blamed_32 rfl hl (by decide) rfl (fun ls hl => ?_)
      refine lv_iload_n hx hb dX10_blamed_33 rfl (lv_at hl 0 rfl) ?_
      refine lv_if_lt (tgt := 45) hx hb dX10_blamed_34 (by decide) (fun c34 => ?_) (fun c34 => ?_)
      · have hf := ifp c34 hf
        refine lv_iconst (v := (-1 : Int32)) hx hb dX10_blamed_45 (by decide) ?_
        refine lv_istore (lv' := [(4, .int (-1 : Int32)), (3, .int q29.1), (0, .ref (ad 0)), (1, .int v1), (2, .int v2)]) hx hb dX10_blamed_46 hl (by decide) rfl (fun ls hl => ?_)
        refine lv_iconst (v := (1 : Int32)) hx hb dX10_blamed_48 (by decide) ?_
        refine lv_istore (lv' := [(5, .int (1 : Int32)), (4, .int (-1 : Int32)), (3, .int q29.1), (0, .ref (ad 0)), (1, .int v1), (2, .int v2)]) hx hb dX10_blamed_49 hl (by decide) rfl (fun ls hl => ?_)
        have L51 : ∀ (n51 : Nat) (v3_51 : Int32) (v4_51 : Int32) (v5_51 : Int32) (σ51 : St) (H : Heap) (locs : List Loc) (ls : Array Slot), fX10_blamed_51 (fX10_blamed_51_k v1 v2 v3_51) v1 v2 v3_51 n51 σ51 v4_51 v5_51 = some q → va_P D vwCl (wM cy ad aw ac σ51) H → va_D A (wM cy ad aw ac σ51) → va_S A s.heap H locs → lv_has ls 6 [(0, .ref (ad 0)), (1, .int v1), (2, .int v2), (3, .int v3_51), (4, .int v4_51), (5, .int v5_51)] → W p l e (Rm 3 70 0 0) s m [.ref (ad 0), .int v1, .int v2].toArray below meth c H locs 0 0 (Zi D (wM cy ad) A q.1 q.2 aw ac below [.ref (ad 0), .int v1, .int v2].toArray s 0 0) (F0 m 51 ls []) := by
          intro n51
          induction n51 with
          | zero =>
            intro v3_51 v4_51 v5_51 σ51 H locs ls hf
            cases hf
          | succ n51 ih51 =>
            intro v3_51 v4_51 v5_51 σ51 H locs ls hf hP hD hS hl
            rw [fX10_blamed_51] at hf
            refine lv_iload hx hb dX10_blamed_51 (lv_at hl 5 rfl) ?_
            refine lv_iconst (v := (1 : Int32)) hx hb dX10_blamed_53 (by decide) ?_
            refine lv_iload_n hx hb dX10_blamed_54 rfl (lv_at hl 2 rfl) ?_
            refine lv_iconst (v := (1 : Int32)) hx hb dX10_blamed_55 (by decide) ?_
            refine lv_iadd hx hb dX10_blamed_56 ?_
            refine lv_ishl hx hb dX10_blamed_57 ?_
            refine lv_icmp_ge (tgt := 100) hx hb dX10_blamed_58 (by decide) (fun c58 => ?_) (fun c58 => ?_)
            · have hf := ifp c58 hf
              have hl := lv_sub (l' := [(0, .ref (ad 0)), (1, .int v1), (2, .int v2), (3, .int v3_51), (4, .int v4_51), (5, .int v5_51)]) hl [0, 1, 2, 3, 4, 5] rfl
              unfold fX10_blamed_51_k at hf
              refine lv_iload hx hb dX10_blamed_100 (lv_at hl 4 rfl) ?_
              exact u_iretw hx hb hr hlocks rfl hP hD hS dX10_blamed_102 hf (fun _ => rfl)
            · have hf := ifn c58 hf
              refine lv_iload hx hb dX10_blamed_61 (lv_at hl 4 rfl) ?_
              refine lv_if_lt (tgt := 79) hx hb dX10_blamed_63 (by decide) (fun c63 => ?_) (fun c63 => ?_)
              · have hf := ifp c63 hf
                refine lv_aload_n hx hb dX10_blamed_79 rfl (lv_at hl 0 rfl) ?_
                refine lv_iload_n hx hb dX10_blamed_80 rfl (lv_at hl 1 rfl) ?_
                refine lv_iload hx hb dX10_blamed_81 (lv_at hl 5 rfl) ?_
                obtain ⟨q83, h83, hf⟩ := ob_some hf
                refine u_calli0 (u_runV (rest := []) S (c_X10_partsAt l D cy ad σ51 v1 v5_51 q83 h83 aw ac H.size) iX10_partsAt vX10_partsAt q1255 ⟨Nat.le_of_ble_eq_true rfl, Nat.le_of_ble_eq_true rfl⟩ hK hP hD (q0 := 0) rfl rfl rfl hl.1 (Nat.le_of_ble_eq_true rfl) dX10_blamed_83 ⟨Nat.le_refl _, Nat.le_refl _⟩) hD hS hA (fun H locs hP hD hS => ?_)
                refine lv_iload_n hx hb dX10_blamed_86 rfl (lv_at hl 2 rfl) ?_
                refine lv_icmp_ne (tgt := 94) hx hb dX10_blamed_87 (by decide) (fun c87 => ?_) (fun c87 => ?_)
                · have hf := ifn c87 hf
                  refine lv_iinc (v := (v5_51 + (1 : Int32))) (lv' := [(5, .int (v5_51 + (1 : Int32))), (0, .ref (ad 0)), (1, .int v1), (2, .int v2), (3, .int v3_51), (4, .int v4_51)]) hx hb dX10_blamed_94 hl (k := 5) rfl rfl (by decide) rfl (fun ls hl => ?_)
                  refine lv_goto (tgt := 51) hx hb dX10_blamed_97 (by decide) ?_
                  exact ih51 v3_51 v4_51 (v5_51 + (1 : Int32)) q83.2 H locs ls hf hP hD hS (lv_sub hl [1, 2, 3, 4, 5, 0] rfl)
                · have hf := ifp c87 hf
                  refine lv_iload hx hb dX10_blamed_90 (lv_at hl 5 rfl) ?_
                  refine lv_istore (lv' := [(4, .int v5_51), (0, .ref (ad 0)), (1, .int v1), (2, .int v2), (3, .int v3_51), (5, .int v5_51)]) hx hb dX10_blamed_92 hl (by decide) rfl (fun ls hl => ?_)
                  refine lv_iinc (v := (v5_51 + (1 : Int32))) (lv' := [(5, .int (v5_51 + (1 : Int32))), (4, .int v5_51), (0, .ref (ad 0)), (1, .int v1), (2, .int v2), (3, .int v3_51)]) hx hb dX10_blamed_94 hl (k := 5) rfl rfl (by decide) rfl (fun ls hl => ?_)
                  refine lv_goto (tgt := 51) hx hb dX10_blamed_97 (by decide) ?_
                  exact ih51 v3_51 v5_51 (v5_51 + (1 : Int32)) q83.2 H locs ls hf hP hD hS (lv_sub hl [2, 3, 4, 5, 1, 0] rfl)
              · have hf := ifn c63 hf
                refine lv_iload hx hb dX10_blamed_66 (lv_at hl 5 rfl) ?_
                obtain ⟨r68, h68, hf⟩ := ob_some hf
                refine p_calli0 (u_runS (rest := []) S (c_X10_ones l D cy σ51 v5_51 r68 h68 aw ac H.size) iX10_ones q1194 q1193 ⟨Nat.le_of_ble_eq_true rfl, Nat.le_of_ble_eq_true rfl⟩ hK wN_P (wN_D (A := fun _ => True)) rfl hl.1 (Nat.le_of_ble_eq_true rfl) dX10_blamed_68 ⟨Nat.le_refl _, Nat.le_refl _⟩) hP hS hA (fun H locs hP hS => ?_)
                refine lv_iload hx hb dX10_blamed_71 (lv_at hl 4 rfl) ?_
                obtain ⟨r73, h73, hf⟩ := ob_some hf
                refine p_calli0 (u_runS (rest := [.int r68]) S (c_X10_ones l D cy σ51 v4_51 r73 h73 aw ac H.size) iX10_ones q1194 q1193 ⟨Nat.le_of_ble_eq_true rfl, Nat.le_of_ble_eq_true rfl⟩ hK wN_P (wN_D (A := fun _ => True)) rfl hl.1 (Nat.le_of_ble_eq_true rfl) dX10_blamed_73 ⟨Nat.le_refl _, Nat.le_refl _⟩) hP hS hA (fun H locs hP hS => ?_)
                refine lv_icmp_ge (tgt := 94) hx hb dX10_blamed_76 (by decide) (fun c76 => ?_) (fun c76 => ?_)
                · have hf := ifp c76 hf
                  refine lv_iinc (v := (v5_51 + (1 : Int32))) (lv' := [(5, .int (v5_51 + (1 : Int32))), (0, .ref (ad 0)), (1, .int v1), (2, .int v2), (3, .int v3_51), (4, .int v4_51)]) hx hb dX10_blamed_94 hl (k := 5) rfl rfl (by decide) rfl (fun ls hl => ?_)
                  refine lv_goto (tgt := 51) hx hb dX10_blamed_97 (by decide) ?_
                  exact ih51 v3_51 v4_51 (v5_51 + (1 : Int32)) σ51 H locs ls hf hP hD hS (lv_sub hl [1, 2, 3, 4, 5, 0] rfl)
                · have hf := ifn c76 hf
                  refine lv_aload_n hx hb dX10_blamed_79 rfl (lv_at hl 0 rfl) ?_
                  refine lv_iload_n hx hb dX10_blamed_80 rfl (lv_at hl 1 rfl) ?_
                  refine lv_iload hx hb dX10_blamed_81 (lv_at hl 5 rfl) ?_
                  obtain ⟨q83, h83, hf⟩ := ob_some hf
                  refine u_calli0 (u_runV (rest := []) S (c_X10_partsAt l D cy ad σ51 v1 v5_51 q83 h83 aw ac H.size) iX10_partsAt vX10_partsAt q1255 ⟨Nat.le_of_ble_eq_true rfl, Nat.le_of_ble_eq_true rfl⟩ hK hP hD (q0 := 0) rfl rfl rfl hl.1 (Nat.le_of_ble_eq_true rfl) dX10_blamed_83 ⟨Nat.le_refl _, Nat.le_refl _⟩) hD hS hA (fun H locs hP hD hS => ?_)
                  refine lv_iload_n hx hb dX10_blamed_86 rfl (lv_at hl 2 rfl) ?_
                  refine lv_icmp_ne (tgt := 94) hx hb dX10_blamed_87 (by decide) (fun c87 => ?_) (fun c87 => ?_)
                  · have hf := ifn c87 hf
                    refine lv_iinc (v := (v5_51 + (1 : Int32))) (lv' := [(5, .int (v5_51 + (1 : Int32))), (0, .ref (ad 0)), (1, .int v1), (2, .int v2), (3, .int v3_51), (4, .int v4_51)]) hx hb dX10_blamed_94 hl (k := 5) rfl rfl (by decide) rfl (fun ls hl => ?_)
                    refine lv_goto (tgt := 51) hx hb dX10_blamed_97 (by decide) ?_
                    exact ih51 v3_51 v4_51 (v5_51 + (1 : Int32)) q83.2 H locs ls hf hP hD hS (lv_sub hl [1, 2, 3, 4, 5, 0] rfl)
                  · have hf := ifp c87 hf
                    refine lv_iload hx hb dX10_blamed_90 (lv_at hl 5 rfl) ?_
                    refine lv_istore (lv' := [(4, .int v5_51), (0, .ref (ad 0)), (1, .int v1), (2, .int v2), (3, .int v3_51), (5, .int v5_51)]) hx hb dX10_blamed_92 hl (by decide) rfl (fun ls hl => ?_)
                    refine lv_iinc (v := (v5_51 + (1 : Int32))) (lv' := [(5, .int (v5_51 + (1 : Int32))), (4, .int v5_51), (0, .ref (ad 0)), (1, .int v1), (2, .int v2), (3, .int v3_51)]) hx hb dX10_blamed_94 hl (k := 5) rfl rfl (by decide) rfl (fun ls hl => ?_)
                    refine lv_goto (tgt := 51) hx hb dX10_blamed_97 (by decide) ?_
                    exact ih51 v3_51 v5_51 (v5_51 + (1 : Int32)) q83.2 H locs ls hf hP hD hS (lv_sub hl [2, 3, 4, 5, 1, 0] rfl)
        exact L51 KF q29.1 (-1 : Int32) (1 : Int32) q29.2 H locs ls hf hP hD hS (lv_sub hl [3, 4, 5, 2, 1, 0] rfl)
      · have hf := ifn c34 hf
        refine lv_iload_n hx hb dX10_blamed_37 rfl (lv_at hl 0 rfl) ?_
        refine lv_iload_n hx hb dX10_blamed_38 rfl (lv_at hl 3 rfl) ?_
        refine lv_icmp_gt (tgt := 45) hx hb dX10_blamed_39 (by decide) (fun c39 => ?_) (fun c39 => ?_)
        · have hf := ifp c39 hf
          refine lv_iconst (v := (-1 : Int32)) hx hb dX10_blamed_45 (by decide) ?_
          refine lv_istore (lv' := [(4, .int (-1 : Int32)), (3, .int q29.1), (0, .ref (ad 0)), (1, .int v1), (2, .int v2)]) hx hb dX10_blamed_46 hl (by decide) rfl (fun ls hl => ?_)
          refine lv_iconst (v := (1 : Int32)) hx hb dX10_blamed_48 (by decide) ?_
          refine lv_istore (lv' := [(5, .int (1 : Int32)), (4, .int (-1 : Int32)), (3, .int q29.1), (0, .ref (ad 0)), (1, .int v1), (2, .int v2)]) hx hb dX10_blamed_49 hl (by decide) rfl (fun ls hl => ?_)
          have L51 : ∀ (n51 : Nat) (v3_51 : Int32) (v4_51 : Int32) (v5_51 : Int32) (σ51 : St) (H : Heap) (locs : List Loc) (ls : Array Slot), fX10_blamed_51 (fX10_blamed_51_k v1 v2 v3_51) v1 v2 v3_51 n51 σ51 v4_51 v5_51 = some q → va_P D vwCl (wM cy ad aw ac σ51) H → va_D A (wM cy ad aw ac σ51) → va_S A s.heap H locs → lv_has ls 6 [(0, .ref (ad 0)), (1, .int v1), (2, .int v2), (3, .int v3_51), (4, .int v4_51), (5, .int v5_51)] → W p l e (Rm 3 70 0 0) s m [.ref (ad 0), .int v1, .int v2].toArray below meth c H locs 0 0 (Zi D (wM cy ad) A q.1 q.2 aw ac below [.ref (ad 0), .int v1, .int v2].toArray s 0 0) (F0 m 51 ls []) := by
            intro n51
            induction n51 with
            | zero =>
              intro v3_51 v4_51 v5_51 σ51 H locs ls hf
              cases hf
            | succ n51 ih51 =>
              intro v3_51 v4_51 v5_51 σ51 H locs ls hf hP hD hS hl
              rw [fX10_blamed_51] at hf
              refine lv_iload hx hb dX10_blamed_51 (lv_at hl 5 rfl) ?_
              refine lv_iconst (v := (1 : Int32)) hx hb dX10_blamed_53 (by decide) ?_
              refine lv_iload_n hx hb dX10_blamed_54 rfl (lv_at hl 2 rfl) ?_
              refine lv_iconst (v := (1 : Int32)) hx hb dX10_blamed_55 (by decide) ?_
              refine lv_iadd hx hb dX10_blamed_56 ?_
              refine lv_ishl hx hb dX10_blamed_57 ?_
              refine lv_icmp_ge (tgt := 100) hx hb dX10_blamed_58 (by decide) (fun c58 => ?_) (fun c58 => ?_)
              · have hf := ifp c58 hf
                have hl := lv_sub (l' := [(0, .ref (ad 0)), (1, .int v1), (2, .int v2), (3, .int v3_51), (4, .int v4_51), (5, .int v5_51)]) hl [0, 1, 2, 3, 4, 5] rfl
                unfold fX10_blamed_51_k at hf
                refine lv_iload hx hb dX10_blamed_100 (lv_at hl 4 rfl) ?_
                exact u_iretw hx hb hr hlocks rfl hP hD hS dX10_blamed_102 hf (fun _ => rfl)
              · have hf := ifn c58 hf
                refine lv_iload hx hb dX10_blamed_61 (lv_at hl 4 rfl) ?_
                refine lv_if_lt (tgt := 79) hx hb dX10_blamed_63 (by decide) (fun c63 => ?_) (fun c63 => ?_)
                · have hf := ifp c63 hf
                  refine lv_aload_n hx hb dX10_blamed_79 rfl (lv_at hl 0 rfl) ?_
                  refine lv_iload_n hx hb dX10_blamed_80 rfl (lv_at hl 1 rfl) ?_
                  refine lv_iload hx hb dX10_blamed_81 (lv_at hl 5 rfl) ?_
                  obtain ⟨q83, h83, hf⟩ := ob_some hf
                  refine u_calli0 (u_runV (rest := []) S (c_X10_partsAt l D cy ad σ51 v1 v5_51 q83 h83 aw ac H.size) iX10_partsAt vX10_partsAt q1255 ⟨Nat.le_of_ble_eq_true rfl, Nat.le_of_ble_eq_true rfl⟩ hK hP hD (q0 := 0) rfl rfl rfl hl.1 (Nat.le_of_ble_eq_true rfl) dX10_blamed_83 ⟨Nat.le_refl _, Nat.le_refl _⟩) hD hS hA (fun H locs hP hD hS => ?_)
                  refine lv_iload_n hx hb dX10_blamed_86 rfl (lv_at hl 2 rfl) ?_
                  refine lv_icmp_ne (tgt := 94) hx hb dX10_blamed_87 (by decide) (fun c87 => ?_) (fun c87 => ?_)
                  · have hf := ifn c87 hf
                    refine lv_iinc (v := (v5_51 + (1 : Int32))) (lv' := [(5, .int (v5_51 + (1 : Int32))), (0, .ref (ad 0)), (1, .int v1), (2, .int v2), (3, .int v3_51), (4, .int v4_51)]) hx hb dX10_blamed_94 hl (k := 5) rfl rfl (by decide) rfl (fun ls hl => ?_)
                    refine lv_goto (tgt := 51) hx hb dX10_blamed_97 (by decide) ?_
                    exact ih51 v3_51 v4_51 (v5_51 + (1 : Int32)) q83.2 H locs ls hf hP hD hS (lv_sub hl [1, 2, 3, 4, 5, 0] rfl)
                  · have hf := ifp c87 hf
                    refine lv_iload hx hb dX10_blamed_90 (lv_at hl 5 rfl) ?_
                    refine lv_istore (lv' := [(4, .int v5_51), (0, .ref (ad 0)), (1, .int v1), (2, .int v2), (3, .int v3_51), (5, .int v5_51)]) hx hb dX10_blamed_92 hl (by decide) rfl (fun ls hl => ?_)
                    refine lv_iinc (v := (v5_51 + (1 : Int32))) (lv' := [(5, .int (v5_51 + (1 : Int32))), (4, .int v5_51), (0, .ref (ad 0)), (1, .int v1), (2, .int v2), (3, .int v3_51)]) hx hb dX10_blamed_94 hl (k := 5) rfl rfl (by decide) rfl (fun ls hl => ?_)
                    refine lv_goto (tgt := 51) hx hb dX10_blamed_97 (by decide) ?_
                    exact ih51 v3_51 v5_51 (v5_51 + (1 : Int32)) q83.2 H locs ls hf hP hD hS (lv_sub hl [2, 3, 4, 5, 1, 0] rfl)
                · have hf := ifn c63 hf
                  refine lv_iload hx hb dX10_blamed_66 (lv_at hl 5 rfl) ?_
                  obtain ⟨r68, h68, hf⟩ := ob_some hf
                  refine p_calli0 (u_runS (rest := []) S (c_X10_ones l D cy σ51 v5_51 r68 h68 aw ac H.size) iX10_ones q1194 q1193 ⟨Nat.le_of_ble_eq_true rfl, Nat.le_of_ble_eq_true rfl⟩ hK wN_P (wN_D (A := fun _ => True)) rfl hl.1 (Nat.le_of_ble_eq_true rfl) dX10_blamed_68 ⟨Nat.le_refl _, Nat.le_refl _⟩) hP hS hA (fun H locs hP hS => ?_)
                  refine lv_iload hx hb dX10_blamed_71 (lv_at hl 4 rfl) ?_
                  obtain ⟨r73, h73, hf⟩ := ob_some hf
                  refine p_calli0 (u_runS (rest := [.int r68]) S (c_X10_ones l D cy σ51 v4_51 r73 h73 aw ac H.size) iX10_ones q1194 q1193 ⟨Nat.le_of_ble_eq_true rfl, Nat.le_of_ble_eq_true rfl⟩ hK wN_P (wN_D (A := fun _ => True)) rfl hl.1 (Nat.le_of_ble_eq_true rfl) dX10_blamed_73 ⟨Nat.le_refl _, Nat.le_refl _⟩) hP hS hA (fun H locs hP hS => ?_)
                  refine lv_icmp_ge (tgt := 94) hx hb dX10_blamed_76 (by decide) (fun c76 => ?_) (fun c76 => ?_)
                  · have hf := ifp c76 hf
                    refine lv_iinc (v := (v5_51 + (1 : Int32))) (lv' := [(5, .int (v5_51 + (1 : Int32))), (0, .ref (ad 0)), (1, .int v1), (2, .int v2), (3, .int v3_51), (4, .int v4_51)]) hx hb dX10_blamed_94 hl (k := 5) rfl rfl (by decide) rfl (fun ls hl => ?_)
                    refine lv_goto (tgt := 51) hx hb dX10_blamed_97 (by decide) ?_
                    exact ih51 v3_51 v4_51 (v5_51 + (1 : Int32)) σ51 H locs ls hf hP hD hS (lv_sub hl [1, 2, 3, 4, 5, 0] rfl)
                  · have hf := ifn c76 hf
                    refine lv_aload_n hx hb dX10_blamed_79 rfl (lv_at hl 0 rfl) ?_
                    refine lv_iload_n hx hb dX10_blamed_80 rfl (lv_at hl 1 rfl) ?_
                    refine lv_iload hx hb dX10_blamed_81 (lv_at hl 5 rfl) ?_
                    obtain ⟨q83, h83, hf⟩ := ob_some hf
                    refine u_calli0 (u_runV (rest := []) S (c_X10_partsAt l D cy ad σ51 v1 v5_51 q83 h83 aw ac H.size) iX10_partsAt vX10_partsAt q1255 ⟨Nat.le_of_ble_eq_true rfl, Nat.le_of_ble_eq_true rfl⟩ hK hP hD (q0 := 0) rfl rfl rfl hl.1 (Nat.le_of_ble_eq_true rfl) dX10_blamed_83 ⟨Nat.le_refl _, Nat.le_refl _⟩) hD hS hA (fun H locs hP hD hS => ?_)
                    refine lv_iload_n hx hb dX10_blamed_86 rfl (lv_at hl 2 rfl) ?_
                    refine lv_icmp_ne (tgt := 94) hx hb dX10_blamed_87 (by decide) (fun c87 => ?_) (fun c87 => ?_)
                    · have hf := ifn c87 hf
                      refine lv_iinc (v := (v5_51 + (1 : Int32))) (lv' := [(5, .int (v5_51 + (1 : Int32))), (0, .ref (ad 0)), (1, .int v1), (2, .int v2), (3, .int v3_51), (4, .int v4_51)]) hx hb dX10_blamed_94 hl (k := 5) rfl rfl (by decide) rfl (fun ls hl => ?_)
                      refine lv_goto (tgt := 51) hx hb dX10_blamed_97 (by decide) ?_
                      exact ih51 v3_51 v4_51 (v5_51 + (1 : Int32)) q83.2 H locs ls hf hP hD hS (lv_sub hl [1, 2, 3, 4, 5, 0] rfl)
                    · have hf := ifp c87 hf
                      refine lv_iload hx hb dX10_blamed_90 (lv_at hl 5 rfl) ?_
                      refine lv_istore (lv' := [(4, .int v5_51), (0, .ref (ad 0)), (1, .int v1), (2, .int v2), (3, .int v3_51), (5, .int v5_51)]) hx hb dX10_blamed_92 hl (by decide) rfl (fun ls hl => ?_)
                      refine lv_iinc (v := (v5_51 + (1 : Int32))) (lv' := [(5, .int (v5_51 + (1 : Int32))), (4, .int v5_51), (0, .ref (ad 0)), (1, .int v1), (2, .int v2), (3, .int v3_51)]) hx hb dX10_blamed_94 hl (k := 5) rfl rfl (by decide) rfl (fun ls hl => ?_)
                      refine lv_goto (tgt := 51) hx hb dX10_blamed_97 (by decide) ?_
                      exact ih51 v3_51 v5_51 (v5_51 + (1 : Int32)) q83.2 H locs ls hf hP hD hS (lv_sub hl [2, 3, 4, 5, 1, 0] rfl)
          exact L51 KF q29.1 (-1 : Int32) (1 : Int32) q29.2 H locs ls hf hP hD hS (lv_sub hl [3, 4, 5, 2, 1, 0] rfl)
        · have hf := ifn c39 hf
          refine lv_bipush (v := (-3 : Int32)) hx hb dX10_blamed_42 (by decide) ?_
          exact u_iretw hx hb hr hlocks rfl hP hD hS dX10_blamed_44 hf (fun _ => rfl)
    · have hf := ifp c20 hf
      refine lv_bipush (v := (-2 : Int32)) hx hb dX10_blamed_23 (by decide) ?_
      exact u_iretw hx hb hr hlocks rfl hP hD hS dX10_blamed_25 hf (fun _ => rfl)
theorem iX10_stone : YI yX10_stone cX10_stone 5 (some .int) 4 := ⟨q1266, q12, by decide, by decide, by decide +kernel⟩
theorem vX10_stone : YV yX10_stone := ⟨q1264, q1265⟩
set_option maxRecDepth 100000 in
set_option maxHeartbeats 4000000 in
theorem c_X10_stone (l : Launch) (D : va_G) (cy : Nat → ClassId) (ad : Nat → Nat) (σ : St) (v1 : Int32) (v2 : Int32) (v3 : Int32) (v4 : Int32) (q : Int32 × St) (hf : fX10_stone σ v1 v2 v3 v4 = some q) : Ci l D cy (wM cy ad) yX10_stone cX10_stone 5 .int 1 25 [.ref (ad 0), .int v1, .int v2, .int v3, .int v4] σ q.1 q.2 0 0 := by
  refine Ci.enter (by decide) (Nat.le_of_ble_eq_true rfl) ?_
  intro aw ac p e s m below meth c A H locs S hr hlocks hA hK hP hD hS ls hl
  have hx := S.1
  have hb := S.2.1
  have hl : lv_has ls 5 [(0, .ref (ad 0)), (1, .int v1), (2, .int v2), (3, .int v3), (4, .int v4)] := hl
  unfold fX10_stone at hf
  refine lv_iload_n hx hb dX10_stone_0 rfl (lv_at hl 1 rfl) ?_
  refine lv_i2l (v := (v1).toInt64) hx hb dX10_stone_1 rfl ?_
  refine lv_lconst (v := (0 : Int64)) hx hb dX10_stone_2 (by decide) ?_
  refine lv_ldc2 hx hb S.2.2.2.1 (S.2.2.2.2 _ (List.mem_cons_of_mem _ q1267)) dX10_stone_3 ?_
  obtain ⟨r6, h6, hf⟩ := ob_some hf
  refine p_calli0 (u_runS (rest := []) S (c_X10_in l D cy σ ((v1).toInt64) (0 : Int64) (30 : Int64) r6 h6 aw ac H.size) iX10_in q1112 q1111 ⟨Nat.le_of_ble_eq_true rfl, Nat.le_of_ble_eq_true rfl⟩ hK wN_P (wN_D (A := fun _ => True)) rfl hl.1 (Nat.le_of_ble_eq_true rfl) dX10_stone_6 ⟨Nat.le_refl _, Nat.le_refl _⟩) hP hS hA (fun H locs hP hS => ?_)
  refine lv_if_eq (tgt := 55) hx hb dX10_stone_9 (by decide) (fun c9 => ?_) (fun c9 => ?_)
  · have hf := ifp c9 hf
    refine lv_bipush (v := (-2 : Int32)) hx hb dX10_stone_55 (by decide) ?_
    exact u_iretw hx hb hr hlocks rfl hP hD hS dX10_stone_57 hf (fun _ => rfl)
  · have hf := ifn c9 hf
    refine lv_iload_n hx hb dX10_stone_12 rfl (lv_at hl 2 rfl) ?_
    refine lv_i2l (v := (v2).toInt64) hx hb dX10_stone_13 rfl ?_
    refine lv_lconst (v := (0 : Int64)) hx hb dX10_stone_14 (by decide) ?_
    refine lv_ldc2 hx hb S.2.2.2.1 (S.2.2.2.2 _ (List.mem_cons_of_mem _ q1268)) dX10_stone_15 ?_
    obtain ⟨r18, h18, hf⟩ := ob_some hf
    refine p_calli0 (u_runS (rest := []) S (c_X10_in l D cy σ ((v2).toInt64) (0 : Int64) (12 : Int64) r18 h18 aw ac H.size) iX10_in q1112 q1111 ⟨Nat.le_of_ble_eq_true rfl, Nat.le_of_ble_eq_true rfl⟩ hK wN_P (wN_D (A := fun _ => True)) rfl hl.1 (Nat.le_of_ble_eq_true rfl) dX10_stone_18 ⟨Nat.le_refl _, Nat.le_refl _⟩) hP hS hA (fun H locs hP hS => ?_)
    refine lv_if_eq (tgt := 55) hx hb dX10_stone_21 (by decide) (fun c21 => ?_) (fun c21 => ?_)
    · have hf := ifp c21 hf
      refine lv_bipush (v := (-2 : Int32)) hx hb dX10_stone_55 (by decide) ?_
      exact u_iretw hx hb hr hlocks rfl hP hD hS dX10_stone_57 hf (fun _ => rfl)
    · have hf := ifn c21 hf
      refine lv_iload_n hx hb dX10_stone_24 rfl (lv_at hl 3 rfl) ?_
      refine lv_i2l (v := (v3).toInt64) hx hb dX10_stone_25 rfl ?_
      refine lv_lconst (v := (1 : Int64)) hx hb dX10_stone_26 (by decide) ?_
      refine lv_ldc2 hx hb S.2.2.2.1 (S.2.2.2.2 _ (List.mem_cons_of_mem _ q1268)) dX10_stone_27 ?_
      obtain ⟨r30, h30, hf⟩ := ob_some hf
      refine p_calli0 (u_runS (rest := []) S (c_X10_in l D cy σ ((v3).toInt64) (1 : Int64) (12 : Int64) r30 h30 aw ac H.size) iX10_in q1112 q1111 ⟨Nat.le_of_ble_eq_true rfl, Nat.le_of_ble_eq_true rfl⟩ hK wN_P (wN_D (A := fun _ => True)) rfl hl.1 (Nat.le_of_ble_eq_true rfl) dX10_stone_30 ⟨Nat.le_refl _, Nat.le_refl _⟩) hP hS hA (fun H locs hP hS => ?_)
      refine lv_if_eq (tgt := 55) hx hb dX10_stone_33 (by decide) (fun c33 => ?_) (fun c33 => ?_)
      · have hf := ifp c33 hf
        refine lv_bipush (v := (-2 : Int32)) hx hb dX10_stone_55 (by decide) ?_
        exact u_iretw hx hb hr hlocks rfl hP hD hS dX10_stone_57 hf (fun _ => rfl)
      · have hf := ifn c33 hf
        refine lv_iload hx hb dX10_stone_36 (lv_at hl 4 rfl) ?_
        refine lv_i2l (v := (v4).toInt64) hx hb dX10_stone_38 rfl ?_
        refine lv_lconst (v := (0 : Int64)) hx hb dX10_stone_39 (by decide) ?_
        refine lv_iconst (v := (1 : Int32)) hx hb dX10_stone_40 (by decide) ?_
        refine lv_aload_n hx hb dX10_stone_41 rfl (lv_at hl 0 rfl) ?_
        refine gM_m_stones S hK hP q961 dX10_stone_42 ?_
        refine lv_ishl hx hb dX10_stone_45 ?_
        refine lv_iconst (v := (1 : Int32)) hx hb dX10_stone_46 (by decide) ?_
        refine lv_isub hx hb dX10_stone_47 ?_
        refine lv_i2l (v := ((((1 : Int32) <<< ((gi σ 9) &&& 31)) - (1 : Int32))).toInt64) hx hb dX10_stone_48 rfl ?_
        obtain ⟨r49, h49, hf⟩ := ob_some hf
        refine p_calli0 (u_runS (rest := []) S (c_X10_in l D cy σ ((v4).toInt64) (0 : Int64) (((((1 : Int32) <<< ((gi σ 9) &&& 31)) - (1 : Int32))).toInt64) r49 h49 aw ac H.size) iX10_in q1112 q1111 ⟨Nat.le_of_ble_eq_true rfl, Nat.le_of_ble_eq_true rfl⟩ hK wN_P (wN_D (A := fun _ => True)) rfl hl.1 (Nat.le_of_ble_eq_true rfl) dX10_stone_49 ⟨Nat.le_refl _, Nat.le_refl _⟩) hP hS hA (fun H locs hP hS => ?_)
        refine lv_if_ne (tgt := 58) hx hb dX10_stone_52 (by decide) (fun c52 => ?_) (fun c52 => ?_)
        · have hf := ifn c52 hf
          refine lv_aload_n hx hb dX10_stone_58 rfl (lv_at hl 0 rfl) ?_
          refine gM_m_stones S hK hP q961 dX10_stone_59 ?_
          refine lv_bipush (v := (14 : Int32)) hx hb dX10_stone_62 (by decide) ?_
          refine lv_icmp_ne (tgt := 70) hx hb dX10_stone_64 (by decide) (fun c64 => ?_) (fun c64 => ?_)
          · have hf := ifn c64 hf
            refine lv_aload_n hx hb dX10_stone_70 rfl (lv_at hl 0 rfl) ?_
            refine gM_m_stoneX S hK hP q962 dX10_stone_71 ?_
            refine lv_aload_n hx hb dX10_stone_74 rfl (lv_at hl 0 rfl) ?_
            refine gM_m_stones S hK hP q961 dX10_stone_75 ?_
            refine lv_iload_n hx hb dX10_stone_78 rfl (lv_at hl 1 rfl) ?_
            obtain ⟨h79, hf⟩ := if_in hf
            refine tM_8 S hK hP hD hS h79 dX10_stone_79 (fun H locs hP hD hS => ?_)
            refine lv_aload_n hx hb dX10_stone_80 rfl (lv_at hl 0 rfl) ?_
            refine gM_m_stoneZ S hK hP q963 dX10_stone_81 ?_
            refine lv_aload_n hx hb dX10_stone_84 rfl (lv_at hl 0 rfl) ?_
            refine gM_m_stones S hK hP q961 dX10_stone_85 ?_
            refine lv_iload_n hx hb dX10_stone_88 rfl (lv_at hl 2 rfl) ?_
            obtain ⟨h89, hf⟩ := if_in hf
            refine tM_9 S hK hP hD hS h89 dX10_stone_89 (fun H locs hP hD hS => ?_)
            refine lv_aload_n hx hb dX10_stone_90 rfl (lv_at hl 0 rfl) ?_
            refine gM_m_hours S hK hP q964 dX10_stone_91 ?_
            refine lv_aload_n hx hb dX10_stone_94 rfl (lv_at hl 0 rfl) ?_
            refine gM_m_stones S hK hP q961 dX10_stone_95 ?_
            refine lv_iload_n hx hb dX10_stone_98 rfl (lv_at hl 3 rfl) ?_
            obtain ⟨h99, hf⟩ := if_in hf
            refine tM_10 S hK hP hD hS h99 dX10_stone_99 (fun H locs hP hD hS => ?_)
            refine lv_aload_n hx hb dX10_stone_100 rfl (lv_at hl 0 rfl) ?_
            refine gM_m_rests S hK hP q965 dX10_stone_101 ?_
            refine lv_aload_n hx hb dX10_stone_104 rfl (lv_at hl 0 rfl) ?_
            refine gM_m_stones S hK hP q961 dX10_stone_105 ?_
            refine lv_iload hx hb dX10_stone_108 (lv_at hl 4 rfl) ?_
            obtain ⟨h110, hf⟩ := if_in hf
            refine tM_11 S hK hP hD hS h110 dX10_stone_110 (fun H locs hP hD hS => ?_)
            refine lv_aload_n hx hb dX10_stone_111 rfl (lv_at hl 0 rfl) ?_
            refine gM_m_keys S hK hP q966 dX10_stone_112 ?_
            refine lv_aload_n hx hb dX10_stone_115 rfl (lv_at hl 0 rfl) ?_
            refine gM_m_stones S hK hP q961 dX10_stone_116 ?_
            refine lv_iconst (v := (-1 : Int32)) hx hb dX10_stone_119 (by decide) ?_
            obtain ⟨h120, hf⟩ := if_in hf
            refine tM_12 S hK hP hD hS h120 dX10_stone_120 (fun H locs hP hD hS => ?_)
            refine lv_aload_n hx hb dX10_stone_121 rfl (lv_at hl 0 rfl) ?_
            refine lv_dup hx hb dX10_stone_122 rfl ?_
            refine gM_m_stones S hK hP q961 dX10_stone_123 ?_
            refine lv_iconst (v := (1 : Int32)) hx hb dX10_stone_126 (by decide) ?_
            refine lv_iadd hx hb dX10_stone_127 ?_
            refine pM_m_stones S hK hP hD hS q961 dX10_stone_128 (fun H locs hP hD hS => ?_)
            refine lv_aload_n hx hb dX10_stone_131 rfl (lv_at hl 0 rfl) ?_
            refine lv_iconst (v := (0 : Int32)) hx hb dX10_stone_132 (by decide) ?_
            refine pM_m_isPlanned S hK hP hD hS rfl rfl q975 dX10_stone_133 (fun H locs hP hD hS => ?_)
            refine lv_aload_n hx hb dX10_stone_136 rfl (lv_at hl 0 rfl) ?_
            refine gM_m_stones S hK hP q961 dX10_stone_137 ?_
            refine lv_iconst (v := (1 : Int32)) hx hb dX10_stone_140 (by decide) ?_
            refine lv_isub hx hb dX10_stone_141 ?_
            exact u_iretw hx hb hr hlocks rfl hP hD hS dX10_stone_142 hf (fun _ => rfl)
          · have hf := ifp c64 hf
            refine lv_bipush (v := (-4 : Int32)) hx hb dX10_stone_67 (by decide) ?_
            exact u_iretw hx hb hr hlocks rfl hP hD hS dX10_stone_69 hf (fun _ => rfl)
        · have hf := ifp c52 hf
          refine lv_bipush (v := (-2 : Int32)) hx hb dX10_stone_55 (by decide) ?_
          exact u_iretw hx hb hr hlocks rfl hP hD hS dX10_stone_57 hf (fun _ => rfl)
