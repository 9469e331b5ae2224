theorem iX10_shape : YI yX10_shape cX10_shape 2 (some .int) 0 := ⟨q1397, q12, by decide, by decide, by decide +kernel⟩
theorem vX10_shape : YV yX10_shape := ⟨q1395, q1396⟩
set_option maxRecDepth 100000 in
set_option maxHeartbeats 4000000 in
theorem c_X10_shape (l : Launch) (D : va_G) (cy : Nat → ClassId) (ad : Nat → Nat) (σ : St) (q : Int32 × St) (hf : fX10_shape σ = some q) : Ci l D cy (wM cy ad) yX10_shape cX10_shape 2 .int 0 0 [.ref (ad 0)] σ q.1 q.2 0 0 := by
  refine Ci.enter (by decide) (Nat.le_of_ble_eq_true rfl) ?_
  intro aw ac p e s m below meth c A H locs S hr hlocks hA hK hP hD hS ls hl
  have hx := S.1
  have hb := S.2.1
  have hl : lv_has ls 2 [(0, .ref (ad 0))] := hl
  unfold fX10_shape at hf
  refine lv_aload_n hx hb dX10_shape_0 rfl (lv_at hl 0 rfl) ?_
  refine gM_m_corners S hK hP q989 dX10_shape_1 ?_
  refine lv_istore_n (lv' := [(1, .int (gi σ 20)), (0, .ref (ad 0))]) hx hb dX10_shape_4 rfl hl (by decide) rfl (fun ls hl => ?_)
  refine lv_aload_n hx hb dX10_shape_5 rfl (lv_at hl 1 rfl) ?_
  refine lv_iconst (v := (0 : Int32)) hx hb dX10_shape_6 (by decide) ?_
  refine pM_m_corners S hK hP hD hS q989 dX10_shape_7 (fun H locs hP hD hS => ?_)
  refine lv_iload_n hx hb dX10_shape_10 rfl (lv_at hl 0 rfl) ?_
  exact u_iretw hx hb hr hlocks rfl hP hD hS dX10_shape_11 hf (fun _ => rfl)
theorem iX10_isAt : YI yX10_isAt cX10_isAt 1 (some .boolean) 1 := ⟨q1404, q12, by decide, by decide, by decide +kernel⟩
set_option maxRecDepth 100000 in
set_option maxHeartbeats 4000000 in
theorem c_X10_isAt (l : Launch) (D : va_G) (cy : Nat → ClassId) (σ : St) (v0 : Int32) (r : Int32) (hf : fX10_isAt v0 = some r) : Ci l D cy wN yX10_isAt cX10_isAt 1 .boolean 1 25 [.int v0] σ r σ 0 0 := by
  refine Ci.enter (by decide) (Nat.le_of_ble_eq_true rfl) ?_
  intro aw ac p e s m below meth c A H locs S hr hlocks hA hK hP hD hS ls hl
  have hx := S.1
  have hb := S.2.1
  have hl : lv_has ls 1 [(0, .int v0)] := hl
  unfold fX10_isAt at hf
  refine lv_iload_n hx hb dX10_isAt_0 rfl (lv_at hl 0 rfl) ?_
  refine lv_i2l (v := (v0).toInt64) hx hb dX10_isAt_1 rfl ?_
  refine lv_lconst (v := (0 : Int64)) hx hb dX10_isAt_2 (by decide) ?_
  refine lv_ldc2 hx hb S.2.2.2.1 (S.2.2.2.2 _ (List.mem_cons_of_mem _ q1168)) dX10_isAt_3 ?_
  obtain ⟨r6, h6, hf⟩ := ob_some hf
  refine p_calli0 (u_runS (rest := []) S (c_X10_in l D cy σ ((v0).toInt64) (0 : Int64) (1000 : Int64) r6 h6 aw ac H.size) iX10_in q1112 q1111 ⟨Nat.le_of_ble_eq_true rfl, Nat.le_of_ble_eq_true rfl⟩ hK wN_P (wN_D (A := fun _ => True)) rfl hl.1 (Nat.le_of_ble_eq_true rfl) dX10_isAt_6 ⟨Nat.le_refl _, Nat.le_refl _⟩) hP hS hA (fun H locs hP hS => ?_)
  obtain ⟨n9, hf⟩ := ifs hf
  exact u_iretr hx hb hr hlocks n9 hP hD hS dX10_isAt_9 hf (fun _ => rfl)
theorem iX10_corner : YI yX10_corner cX10_corner 3 (some .int) 2 := ⟨q1401, q12, by decide, by decide, by decide +kernel⟩
theorem vX10_corner : YV yX10_corner := ⟨q1399, q1400⟩
set_option maxRecDepth 100000 in
set_option maxHeartbeats 4000000 in
theorem c_X10_corner (l : Launch) (D : va_G) (cy : Nat → ClassId) (ad : Nat → Nat) (σ : St) (v1 : Int32) (v2 : Int32) (q : Int32 × St) (hf : fX10_corner σ v1 v2 = some q) : Ci l D cy (wM cy ad) yX10_corner cX10_corner 3 .int 2 45 [.ref (ad 0), .int v1, .int v2] σ q.1 q.2 0 0 := by
  refine Ci.enter (by decide) (Nat.le_of_ble_eq_true rfl) ?_
  intro aw ac p e s m below meth c A H locs S hr hlocks hA hK hP hD hS ls hl
  have hx := S.1
  have hb := S.2.1
  have hl : lv_has ls 3 [(0, .ref (ad 0)), (1, .int v1), (2, .int v2)] := hl
  unfold fX10_corner at hf
  refine lv_iload_n hx hb dX10_corner_0 rfl (lv_at hl 1 rfl) ?_
  obtain ⟨r1, h1, hf⟩ := ob_some hf
  refine p_calli0 (u_runS (rest := []) S (c_X10_isAt l D cy σ v1 r1 h1 aw ac H.size) iX10_isAt q1403 q1402 ⟨Nat.le_of_ble_eq_true rfl, Nat.le_of_ble_eq_true rfl⟩ hK wN_P (wN_D (A := fun _ => True)) rfl hl.1 (Nat.le_of_ble_eq_true rfl) dX10_corner_1 ⟨Nat.le_refl _, Nat.le_refl _⟩) hP hS hA (fun H locs hP hS => ?_)
  refine lv_if_eq (tgt := 14) hx hb dX10_corner_4 (by decide) (fun c4 => ?_) (fun c4 => ?_)
  · have hf := ifp c4 hf
    refine lv_bipush (v := (-2 : Int32)) hx hb dX10_corner_14 (by decide) ?_
    exact u_iretw hx hb hr hlocks rfl hP hD hS dX10_corner_16 hf (fun _ => rfl)
  · have hf := ifn c4 hf
    refine lv_iload_n hx hb dX10_corner_7 rfl (lv_at hl 2 rfl) ?_
    obtain ⟨r8, h8, hf⟩ := ob_some hf
    refine p_calli0 (u_runS (rest := []) S (c_X10_isAt l D cy σ v2 r8 h8 aw ac H.size) iX10_isAt q1403 q1402 ⟨Nat.le_of_ble_eq_true rfl, Nat.le_of_ble_eq_true rfl⟩ hK wN_P (wN_D (A := fun _ => True)) rfl hl.1 (Nat.le_of_ble_eq_true rfl) dX10_corner_8 ⟨Nat.le_refl _, Nat.le_refl _⟩) hP hS hA (fun H locs hP hS => ?_)
    refine lv_if_ne (tgt := 17) hx hb dX10_corner_11 (by decide) (fun c11 => ?_) (fun c11 => ?_)
    · have hf := ifn c11 hf
      refine lv_aload_n hx hb dX10_corner_17 rfl (lv_at hl 0 rfl) ?_
      refine gM_m_corners S hK hP q989 dX10_corner_18 ?_
      refine lv_bipush (v := (8 : Int32)) hx hb dX10_corner_21 (by decide) ?_
      refine lv_icmp_ne (tgt := 29) hx hb dX10_corner_23 (by decide) (fun c23 => ?_) (fun c23 => ?_)
      · have hf := ifn c23 hf
        refine lv_aload_n hx hb dX10_corner_29 rfl (lv_at hl 0 rfl) ?_
        refine gM_m_cornerX S hK hP q990 dX10_corner_30 ?_
        refine lv_aload_n hx hb dX10_corner_33 rfl (lv_at hl 0 rfl) ?_
        refine gM_m_corners S hK hP q989 dX10_corner_34 ?_
        refine lv_iload_n hx hb dX10_corner_37 rfl (lv_at hl 1 rfl) ?_
        obtain ⟨h38, hf⟩ := if_in hf
        refine tM_25 S hK hP hD hS h38 dX10_corner_38 (fun H locs hP hD hS => ?_)
        refine lv_aload_n hx hb dX10_corner_39 rfl (lv_at hl 0 rfl) ?_
        refine gM_m_cornerY S hK hP q991 dX10_corner_40 ?_
        refine lv_aload_n hx hb dX10_corner_43 rfl (lv_at hl 0 rfl) ?_
        refine gM_m_corners S hK hP q989 dX10_corner_44 ?_
        refine lv_iload_n hx hb dX10_corner_47 rfl (lv_at hl 2 rfl) ?_
        obtain ⟨h48, hf⟩ := if_in hf
        refine tM_26 S hK hP hD hS h48 dX10_corner_48 (fun H locs hP hD hS => ?_)
        refine lv_aload_n hx hb dX10_corner_49 rfl (lv_at hl 0 rfl) ?_
        refine lv_dup hx hb dX10_corner_50 rfl ?_
        refine gM_m_corners S hK hP q989 dX10_corner_51 ?_
        refine lv_iconst (v := (1 : Int32)) hx hb dX10_corner_54 (by decide) ?_
        refine lv_iadd hx hb dX10_corner_55 ?_
        refine pM_m_corners S hK hP hD hS q989 dX10_corner_56 (fun H locs hP hD hS => ?_)
        refine lv_aload_n hx hb dX10_corner_59 rfl (lv_at hl 0 rfl) ?_
        refine gM_m_corners S hK hP q989 dX10_corner_60 ?_
        exact u_iretw hx hb hr hlocks rfl hP hD hS dX10_corner_63 hf (fun _ => rfl)
      · have hf := ifp c23 hf
        refine lv_bipush (v := (-4 : Int32)) hx hb dX10_corner_26 (by decide) ?_
        exact u_iretw hx hb hr hlocks rfl hP hD hS dX10_corner_28 hf (fun _ => rfl)
    · have hf := ifp c11 hf
      refine lv_bipush (v := (-2 : Int32)) hx hb dX10_corner_14 (by decide) ?_
      exact u_iretw hx hb hr hlocks rfl hP hD hS dX10_corner_16 hf (fun _ => rfl)
theorem iX10_findSums : YI yX10_findSums cX10_findSums 5 (some .boolean) 0 := ⟨q1412, q12, by decide, by decide, by decide +kernel⟩
theorem vX10_findSums : YV yX10_findSums := ⟨q1411, qs52⟩
set_option maxRecDepth 100000 in
set_option maxHeartbeats 4000000 in
theorem c_X10_findSums (l : Launch) (D : va_G) (cy : Nat → ClassId) (ad : Nat → Nat) (σ : St) (q : Int32 × St) (hf : fX10_findSums σ = some q) : Ci l D cy (wM cy ad) yX10_findSums cX10_findSums 5 .boolean 0 0 [.ref (ad 0)] σ q.1 q.2 0 0 := by
  refine Ci.enter (by decide) (Nat.le_of_ble_eq_true rfl) ?_
  intro aw ac p e s m below meth c A H locs S hr hlocks hA hK hP hD hS ls hl
  have hx := S.1
  have hb := S.2.1
  have hl : lv_has ls 5 [(0, .ref (ad 0))] := hl
  unfold fX10_findSums at hf
  refine lv_aload_n hx hb dX10_findSums_0 rfl (lv_at hl 0 rfl) ?_
  refine lv_lconst (v := (0 : Int64)) hx hb dX10_findSums_1 (by decide) ?_
  refine pM_m_sumX S hK hP hD hS q992 dX10_findSums_2 (fun H locs hP hD hS => ?_)
  refine lv_aload_n hx hb dX10_findSums_5 rfl (lv_at hl 0 rfl) ?_
  refine lv_lconst (v := (0 : Int64)) hx hb dX10_findSums_6 (by decide) ?_
  refine pM_m_sumY S hK hP hD hS q993 dX10_findSums_7 (fun H locs hP hD hS => ?_)
  refine lv_aload_n hx hb dX10_findSums_10 rfl (lv_at hl 0 rfl) ?_
  refine lv_lconst (v := (0 : Int64)) hx hb dX10_findSums_11 (by decide) ?_
  refine pM_m_twice S hK hP hD hS q994 dX10_findSums_12 (fun H locs hP hD hS => ?_)
  refine lv_iconst (v := (0 : Int32)) hx hb dX10_findSums_15 (by decide) ?_
  refine lv_istore_n (lv' := [(1, .int (0 : Int32)), (0, .ref (ad 0))]) hx hb dX10_findSums_16 rfl hl (by decide) rfl (fun ls hl => ?_)
  have L17 : ∀ (n17 : Nat) (v1_17 : Int32) (σ17 : St) (H : Heap) (locs : List Loc) (ls : Array Slot), fX10_findSums_17 (fX10_findSums_17_k) n17 σ17 v1_17 = some q → va_P D vwCl (wM cy ad aw ac σ17) H → va_D A (wM cy ad aw ac σ17) → va_S A s.heap H locs → lv_has ls 5 [(0, .ref (ad 0)), (1, .int v1_17)] → W p l e (Rm 0 0 0 0) s m [.ref (ad 0)].toArray below meth c H locs 0 0 (Zi D (wM cy ad) A q.1 q.2 aw ac below [.ref (ad 0)].toArray s 0 0) (F0 m 17 ls []) := by
    intro n17
    induction n17 with
    | zero =>
      intro v1_17 σ17 H locs ls hf
      cases hf
    | succ n17 ih17 =>
      intro v1_17 σ17 H locs ls hf hP hD hS hl
      rw [fX10_findSums_17] at hf
      refine lv_iload_n hx hb dX10_findSums_17 rfl (lv_at hl 1 rfl) ?_
      refine lv_aload_n hx hb dX10_findSums_18 rfl (lv_at hl 0 rfl) ?_
      refine gM_m_corners S hK hP q989 dX10_findSums_19 ?_
      refine lv_icmp_ge (tgt := 141) hx hb dX10_findSums_22 (by decide) (fun c22 => ?_) (fun c22 => ?_)
      · have hf := ifp c22 hf
        have hl := lv_sub (l' := [(0, .ref (ad 0)), (1, .int v1_17)]) hl [0, 1] rfl
        unfold fX10_findSums_17_k at hf
        refine lv_aload_n hx hb dX10_findSums_141 rfl (lv_at hl 0 rfl) ?_
        refine gM_m_corners S hK hP q989 dX10_findSums_142 ?_
        refine lv_iconst (v := (2 : Int32)) hx hb dX10_findSums_145 (by decide) ?_
        refine lv_icmp_le (tgt := 162) hx hb dX10_findSums_146 (by decide) (fun c146 => ?_) (fun c146 => ?_)
        · have hf := ifp c146 hf
          refine lv_iconst (v := (0 : Int32)) hx hb dX10_findSums_162 (by decide) ?_
          exact u_iretw hx hb hr hlocks rfl hP hD hS dX10_findSums_163 hf (fun _ => rfl)
        · have hf := ifn c146 hf
          refine lv_aload_n hx hb dX10_findSums_149 rfl (lv_at hl 0 rfl) ?_
          refine gM_m_twice S hK hP q994 dX10_findSums_150 ?_
          refine lv_lconst (v := (0 : Int64)) hx hb dX10_findSums_153 (by decide) ?_
          refine W.lcmp hx hb dX10_findSums_154 ?_
          refine lv_if_eq (tgt := 162) hx hb dX10_findSums_155 (by decide) (fun c155 => ?_) (fun c155 => ?_)
          · have c155 := (lg_cmp_eq _ _).mp c155
            have hf := ifp c155 hf
            refine lv_iconst (v := (0 : Int32)) hx hb dX10_findSums_162 (by decide) ?_
            exact u_iretw hx hb hr hlocks rfl hP hD hS dX10_findSums_163 hf (fun _ => rfl)
          · have c155 := (not_congr (lg_cmp_eq _ _)).mp c155
            have hf := ifn c155 hf
            refine lv_iconst (v := (1 : Int32)) hx hb dX10_findSums_158 (by decide) ?_
            refine lv_goto (tgt := 163) hx hb dX10_findSums_159 (by decide) ?_
            exact u_iretw hx hb hr hlocks rfl hP hD hS dX10_findSums_163 hf (fun _ => rfl)
      · have hf := ifn c22 hf
        have J42 : ∀ (v1_j42 : Int32) (s0_j42 : Int32) (σj42 : St) (H : Heap) (locs : List Loc) (ls : Array Slot), fX10_findSums_J42 (fun σ17' v1_17' => fX10_findSums_17 (fX10_findSums_17_k)  n17 σ17' v1_17') σj42 v1_j42 s0_j42 = some q → va_P D vwCl (wM cy ad aw ac σj42) H → va_D A (wM cy ad aw ac σj42) → va_S A s.heap H locs → lv_has ls 5 [(0, .ref (ad 0)), (1, .int v1_j42)] → W p l e (Rm 0 0 0 0) s m [.ref (ad 0)].toArray below meth c H locs 0 0 (Zi D (wM cy ad) A q.1 q.2 aw ac below [.ref (ad 0)].toArray s 0 0) (F0 m 42 ls [.int s0_j42]) := by
          intro v1_j42 s0_j42 σj42 H locs ls hf hP hD hS hl
          unfold fX10_findSums_J42 at hf
          refine lv_istore_n (lv' := [(2, .int s0_j42), (0, .ref (ad 0)), (1, .int v1_j42)]) hx hb dX10_findSums_42 rfl hl (by decide) rfl (fun ls hl => ?_)
          refine lv_aload_n hx hb dX10_findSums_43 rfl (lv_at hl 1 rfl) ?_
          refine gM_m_cornerX S hK hP q990 dX10_findSums_44 ?_
          refine lv_iload_n hx hb dX10_findSums_47 rfl (lv_at hl 2 rfl) ?_
          obtain ⟨h48, hf⟩ := if_in hf
          refine lM_25 S hK hP h48 dX10_findSums_48 ?_
          refine lv_i2l (v := ((ga σj42 25 v1_j42.toNatClampNeg)).toInt64) hx hb dX10_findSums_49 rfl ?_
          refine lv_aload_n hx hb dX10_findSums_50 rfl (lv_at hl 1 rfl) ?_
          refine gM_m_cornerY S hK hP q991 dX10_findSums_51 ?_
          refine lv_iload_n hx hb dX10_findSums_54 rfl (lv_at hl 0 rfl) ?_
          obtain ⟨h55, hf⟩ := if_in hf
          refine lM_26 S hK hP h55 dX10_findSums_55 ?_
          refine lv_i2l (v := ((ga σj42 26 s0_j42.toNatClampNeg)).toInt64) hx hb dX10_findSums_56 rfl ?_
          refine lv_lmul hx hb dX10_findSums_57 ?_
          refine lv_aload_n hx hb dX10_findSums_58 rfl (lv_at hl 1 rfl) ?_
          refine gM_m_cornerX S hK hP q990 dX10_findSums_59 ?_
          refine lv_iload_n hx hb dX10_findSums_62 rfl (lv_at hl 0 rfl) ?_
          obtain ⟨h63, hf⟩ := if_in hf
          refine lM_25 S hK hP h63 dX10_findSums_63 ?_
          refine lv_i2l (v := ((ga σj42 25 s0_j42.toNatClampNeg)).toInt64) hx hb dX10_findSums_64 rfl ?_
          refine lv_aload_n hx hb dX10_findSums_65 rfl (lv_at hl 1 rfl) ?_
          refine gM_m_cornerY S hK hP q991 dX10_findSums_66 ?_
          refine lv_iload_n hx hb dX10_findSums_69 rfl (lv_at hl 2 rfl) ?_
          obtain ⟨h70, hf⟩ := if_in hf
          refine lM_26 S hK hP h70 dX10_findSums_70 ?_
          refine lv_i2l (v := ((ga σj42 26 v1_j42.toNatClampNeg)).toInt64) hx hb dX10_findSums_71 rfl ?_
          refine lv_lmul hx hb dX10_findSums_72 ?_
          refine lv_lsub hx hb dX10_findSums_73 ?_
          refine lv_lstore_n (lv' := [(3, .long (((((ga σj42 25 v1_j42.toNatClampNeg)).toInt64) * (((ga σj42 26 s0_j42.toNatClampNeg)).toInt64)) - ((((ga σj42 25 s0_j42.toNatClampNeg)).toInt64) * (((ga σj42 26 v1_j42.toNatClampNeg)).toInt64)))), (2, .int s0_j42), (0, .ref (ad 0)), (1, .int v1_j42)]) hx hb dX10_findSums_74 rfl hl (by decide) rfl (fun ls hl => ?_)
          refine lv_aload_n hx hb dX10_findSums_75 rfl (lv_at hl 2 rfl) ?_
          refine lv_dup hx hb dX10_findSums_76 rfl ?_
          refine gM_m_twice S hK hP q994 dX10_findSums_77 ?_
          refine lv_lload_n hx hb dX10_findSums_80 rfl (lv_at hl 0 rfl) ?_
          refine lv_ladd hx hb dX10_findSums_81 ?_
          refine pM_m_twice S hK hP hD hS q994 dX10_findSums_82 (fun H locs hP hD hS => ?_)
          refine lv_aload_n hx hb dX10_findSums_85 rfl (lv_at hl 2 rfl) ?_
          refine lv_dup hx hb dX10_findSums_86 rfl ?_
          refine gM_m_sumX S hK hP q992 dX10_findSums_87 ?_
          refine lv_lload_n hx hb dX10_findSums_90 rfl (lv_at hl 0 rfl) ?_
          refine lv_aload_n hx hb dX10_findSums_91 rfl (lv_at hl 2 rfl) ?_
          refine gM_m_cornerX S hK hP q990 dX10_findSums_92 ?_
          refine lv_iload_n hx hb dX10_findSums_95 rfl (lv_at hl 3 rfl) ?_
          obtain ⟨h96, hf⟩ := if_in hf
          refine lM_25 S hK hP h96 dX10_findSums_96 ?_
          refine lv_aload_n hx hb dX10_findSums_97 rfl (lv_at hl 2 rfl) ?_
          refine gM_m_cornerX S hK hP q990 dX10_findSums_98 ?_
          refine lv_iload_n hx hb dX10_findSums_101 rfl (lv_at hl 1 rfl) ?_
          obtain ⟨h102, hf⟩ := if_in hf
          refine lM_25 S hK hP h102 dX10_findSums_102 ?_
          refine lv_iadd hx hb dX10_findSums_103 ?_
          refine lv_i2l (v := (((ga (sl σj42 2 ((gl σj42 2) + (((((ga σj42 25 v1_j42.toNatClampNeg)).toInt64) * (((ga σj42 26 s0_j42.toNatClampNeg)).toInt64)) - ((((ga σj42 25 s0_j42.toNatClampNeg)).toInt64) * (((ga σj42 26 v1_j42.toNatClampNeg)).toInt64))))) 25 v1_j42.toNatClampNeg) + (ga (sl σj42 2 ((gl σj42 2) + (((((ga σj42 25 v1_j42.toNatClampNeg)).toInt64) * (((ga σj42 26 s0_j42.toNatClampNeg)).toInt64)) - ((((ga σj42 25 s0_j42.toNatClampNeg)).toInt64) * (((ga σj42 26 v1_j42.toNatClampNeg)).toInt64))))) 25 s0_j42.toNatClampNeg))).toInt64) hx hb dX10_findSums_104 rfl ?_
          refine lv_lmul hx hb dX10_findSums_105 ?_
          refine lv_ladd hx hb dX10_findSums_106 ?_
          refine pM_m_sumX S hK hP hD hS q992 dX10_findSums_107 (fun H locs hP hD hS => ?_)
          refine lv_aload_n hx hb dX10_findSums_110 rfl (lv_at hl 2 rfl) ?_
          refine lv_dup hx hb dX10_findSums_111 rfl ?_
          refine gM_m_sumY S hK hP q993 dX10_findSums_112 ?_
          refine lv_lload_n hx hb dX10_findSums_115 rfl (lv_at hl 0 rfl) ?_
          refine lv_aload_n hx hb dX10_findSums_116 rfl (lv_at hl 2 rfl) ?_
          refine gM_m_cornerY S hK hP q991 dX10_findSums_117 ?_
          refine lv_iload_n hx hb dX10_findSums_120 rfl (lv_at hl 3 rfl) ?_
          obtain ⟨h121, hf⟩ := if_in hf
          refine lM_26 S hK hP h121 dX10_findSums_121 ?_
          refine lv_aload_n hx hb dX10_findSums_122 rfl (lv_at hl 2 rfl) ?_
          refine gM_m_cornerY S hK hP q991 dX10_findSums_123 ?_
          refine lv_iload_n hx hb dX10_findSums_126 rfl (lv_at hl 1 rfl) ?_
          obtain ⟨h127, hf⟩ := if_in hf
          refine lM_26 S hK hP h127 dX10_findSums_127 ?_
          refine lv_iadd hx hb dX10_findSums_128 ?_
          refine lv_i2l (v := (((ga (sl (sl σj42 2 ((gl σj42 2) + (((((ga σj42 25 v1_j42.toNatClampNeg)).toInt64) * (((ga σj42 26 s0_j42.toNatClampNeg)).toInt64)) - ((((ga σj42 25 s0_j42.toNatClampNeg)).toInt64) * (((ga σj42 26 v1_j42.toNatClampNeg)).toInt64))))) 0 ((gl (sl σj42 2 ((gl σj42 2) + (((((ga σj42 25 v1_j42.toNatClampNeg)).toInt64) * (((ga σj42 26 s0_j42.toNatClampNeg)).toInt64)) - ((((ga σj42 25 s0_j42.toNatClampNeg)).toInt64) * (((ga σj42 26 v1_j42.toNatClampNeg)).toInt64))))) 0) + ((((((ga σj42 25 v1_j42.toNatClampNeg)).toInt64) * (((ga σj42 26 s0_j42.toNatClampNeg)).toInt64)) - ((((ga σj42 25 s0_j42.toNatClampNeg)).toInt64) * (((ga σj42 26 v1_j42.toNatClampNeg)).toInt64))) * ((((ga (sl σj42 2 ((gl σj42 2) + (((((ga σj42 25 v1_j42.toNatClampNeg)).toInt64) * (((ga σj42 26 s0_j42.toNatClampNeg)).toInt64)) - ((((ga σj42 25 s0_j42.toNatClampNeg)).toInt64) * (((ga σj42 26 v1_j42.toNatClampNeg)).toInt64))))) 25 v1_j42.toNatClampNeg) + (ga (sl σj42 2 ((gl σj42 2) + (((((ga σj42 25 v1_j42.toNatClampNeg)).toInt64) * (((ga σj42 26 s0_j42.toNatClampNeg)).toInt64)) - ((((ga σj42 25 s0_j42.toNatClampNeg)).toInt64) * (((ga σj42 26 v1_j42.toNatClampNeg)).toInt64))))) 25 s0_j42.toNatClampNeg))).toInt64)))) 26 v1_j42.toNatClampNeg) + (ga (sl (sl σj42 2 ((gl σj42 2) + (((((ga σj42 25 v1_j42.toNatClampNeg)).toInt64) * (((ga σj42 26 s0_j42.toNatClampNeg)).toInt64)) - ((((ga σj42 25 s0_j42.toNatClampNeg)).toInt64) * (((ga σj42 26 v1_j42.toNatClampNeg)).toInt64))))) 0 ((gl (sl σj42 2 ((gl σj42 2) + (((((ga σj42 25 v1_j42.toNatClampNeg)).toInt64) * (((ga σj42 26 s0_j42.toNatClampNeg)).toInt64)) - ((((ga σj42 25 s0_j42.toNatClampNeg)).toInt64) * (((ga σj42 26 v1_j42.toNatClampNeg)).toInt64))))) 0) + ((((((ga σj42 25 v1_j42.toNatClampNeg)).toInt64) * (((ga σj42 26 s0_j42.toNatClampNeg)).toInt64)) - ((((ga σj42 25 s0_j42.toNatClampNeg)).toInt64) * (((ga σj42 26 v1_j42.toNatClampNeg)).toInt64))) * ((((ga (sl σj42 2 ((gl σj42 2) + (((((ga σj42 25 v1_j42.toNatClampNeg)).toInt64) * (((ga σj42 26 s0_j42.toNatClampNeg)).toInt64)) - ((((ga σj42 25 s0_j42.toNatClampNeg)).toInt64) * (((ga σj42 26 v1_j42.toNatClampNeg)).toInt64))))) 25 v1_j42.toNatClampNeg) + (ga (sl σj42 2 ((gl σj42 2) + (((((ga σj42 25 v1_j42.toNatClampNeg)).toInt64) * (((ga σj42 26 s0_j42.toNatClampNeg)).toInt64)) - ((((ga σj42 25 s0_j42.toNatClampNeg)).toInt64) * (((ga σj42 26 v1_j42.toNatClampNeg)).toInt64))))) 25 s0_j42.toNatClampNeg))).toInt64)))) 26 s0_j42.toNatClampNeg))).toInt64) hx hb dX10_findSums_129 rfl ?_
          refine lv_lmul hx hb dX10_findSums_130 ?_
          refine lv_ladd hx hb dX10_findSums_131 ?_
          refine pM_m_sumY S hK hP hD hS q993 dX10_findSums_132 (fun H locs hP hD hS => ?_)
          refine lv_iinc (v := (v1_j42 + (1 : Int32))) (lv' := [(1, .int (v1_j42 + (1 : Int32))), (3, .long (((((ga σj42 25 v1_j42.toNatClampNeg)).toInt64) * (((ga σj42 26 s0_j42.toNatClampNeg)).toInt64)) - ((((ga σj42 25 s0_j42.toNatClampNeg)).toInt64) * (((ga σj42 26 v1_j42.toNatClampNeg)).toInt64)))), (2, .int s0_j42), (0, .ref (ad 0))]) hx hb dX10_findSums_135 hl (k := 3) rfl rfl (by decide) rfl (fun ls hl => ?_)
          refine lv_goto (tgt := 17) hx hb dX10_findSums_138 (by decide) ?_
          exact ih17 (v1_j42 + (1 : Int32)) (sl (sl (sl σj42 2 ((gl σj42 2) + (((((ga σj42 25 v1_j42.toNatClampNeg)).toInt64) * (((ga σj42 26 s0_j42.toNatClampNeg)).toInt64)) - ((((ga σj42 25 s0_j42.toNatClampNeg)).toInt64) * (((ga σj42 26 v1_j42.toNatClampNeg)).toInt64))))) 0 ((gl (sl σj42 2 ((gl σj42 2) + (((((ga σj42 25 v1_j42.toNatClampNeg)).toInt64) * (((ga σj42 26 s0_j42.toNatClampNeg)).toInt64)) - ((((ga σj42 25 s0_j42.toNatClampNeg)).toInt64) * (((ga σj42 26 v1_j42.toNatClampNeg)).toInt64))))) 0) + ((((((ga σj42 25 v1_j42.toNatClampNeg)).toInt64) * (((ga σj42 26 s0_j42.toNatClampNeg)).toInt64)) - ((((ga σj42 25 s0_j42.toNatClampNeg)).toInt64) * (((ga σj42 26 v1_j42.toNatClampNeg)).toInt64))) * ((((ga (sl σj42 2 ((gl σj42 2) + (((((ga σj42 25 v1_j42.toNatClampNeg)).toInt64) * (((ga σj42 26 s0_j42.toNatClampNeg)).toInt64)) - ((((ga σj42 25 s0_j42.toNatClampNeg)).toInt64) * (((ga σj42 26 v1_j42.toNatClampNeg)).toInt64))))) 25 v1_j42.toNatClampNeg) + (ga (sl σj42 2 ((gl σj42 2) + (((((ga σj42 25 v1_j42.toNatClampNeg)).toInt64) * (((ga σj42 26 s0_j42.toNatClampNeg)).toInt64)) - ((((ga σj42 25 s0_j42.toNatClampNeg)).toInt64) * (((ga σj42 26 v1_j42.toNatClampNeg)).toInt64))))) 25 s0_j42.toNatClampNeg))).toInt64)))) 1 ((gl (sl (sl σj42 2 ((gl σj42 2) + (((((ga σj42 25 v1_j42.toNatClampNeg)).toInt64) * (((ga σj42 26 s0_j42.toNatClampNeg)).toInt64)) - ((((ga σj42 25 s0_j42.toNatClampNeg)).toInt64) * (((ga σj42 26 v1_j42.toNatClampNeg)).toInt64))))) 0 ((gl (sl σj42 2 ((gl σj42 2) + (((((ga σj42 25 v1_j42.toNatClampNeg)).toInt64) * (((ga σj42 26 s0_j42.toNatClampNeg)).toInt64)) - ((((ga σj42 25 s0_j42.toNatClampNeg)).toInt64) * (((ga σj42 26 v1_j42.toNatClampNeg)).toInt64))))) 0) + ((((((ga σj42 25 v1_j42.toNatClampNeg)).toInt64) * (((ga σj42 26 s0_j42.toNatClampNeg)).toInt64)) - ((((ga σj42 25 s0_j42.toNatClampNeg)).toInt64) * (((ga σj42 26 v1_j42.toNatClampNeg)).toInt64))) * ((((ga (sl σj42 2 ((gl σj42 2) + (((((ga σj42 25 v1_j42.toNatClampNeg)).toInt64) * (((ga σj42 26 s0_j42.toNatClampNeg)).toInt64)) - ((((ga σj42 25 s0_j42.toNatClampNeg)).toInt64) * (((ga σj42 26 v1_j42.toNatClampNeg)).toInt64))))) 25 v1_j42.toNatClampNeg) + (ga (sl σj42 2 ((gl σj42 2) + (((((ga σj42 25 v1_j42.toNatClampNeg)).toInt64) * (((ga σj42 26 s0_j42.toNatClampNeg)).toInt64)) - ((((ga σj42 25 s0_j42.toNatClampNeg)).toInt64) * (((ga σj42 26 v1_j42.toNatClampNeg)).toInt64))))) 25 s0_j42.toNatClampNeg))).toInt64)))) 1) + ((((((ga σj42 25 v1_j42.toNatClampNeg)).toInt64) * (((ga σj42 26 s0_j42.toNatClampNeg)).toInt64)) - ((((ga σj42 25 s0_j42.toNatClampNeg)).toInt64) * (((ga σj42 26 v1_j42.toNatClampNeg)).toInt64))) * ((((ga (sl (sl σj42 2 ((gl σj42 2) + (((((ga σj42 25 v1_j42.toNatClampNeg)).toInt64) * (((ga σj42 26 s0_j42.toNatClampNeg)).toInt64)) - ((((ga σj42 25 s0_j42.toNatClampNeg)).toInt64) * (((ga σj42 26 v1_j42.toNatClampNeg)).toInt64))))) 0 ((gl (sl σj42 2 ((gl σj42 2) + (((((ga σj42 25 v1_j42.toNatClampNeg)).toInt64) * (((ga σj42 26 s0_j42.toNatClampNeg)).toInt64)) - ((((ga σj42 25 s0_j42.toNatClampNeg)).toInt64) * (((ga σj42 26 v1_j42.toNatClampNeg)).toInt64))))) 0) + ((((((ga σj42 25 v1_j42.toNatClampNeg)).toInt64) * (((ga σj42 26 s0_j42.toNatClampNeg)).toInt64)) - ((((ga σj42 25 s0_j42.toNatClampNeg)).toInt64) * (((ga σj42 26 v1_j42.toNatClampNeg)).toInt64))) * ((((ga (sl σj42 2 ((gl σj42 2) + (((((ga σj42 25 v1_j42.toNatClampNeg)).toInt64) * (((ga σj42 26 s0_j42.toNatClampNeg)).toInt64)) - ((((ga σj42 25 s0_j42.toNatClampNeg)).toInt64) * (((ga σj42 26 v1_j42.toNatClampNeg)).toInt64))))) 25 v1_j42.toNatClampNeg) + (ga (sl σj42 2 ((gl σj42 2) + (((((ga σj42 25 v1_j42.toNatClampNeg)).toInt64) * (((ga σj42 26 s0_j42.toNatClampNeg)).toInt64)) - ((((ga σj42 25 s0_j42.toNatClampNeg)).toInt64) * (((ga σj42 26 v1_j42.toNatClampNeg)).toInt64))))) 25 s0_j42.toNatClampNeg))).toInt64)))) 26 v1_j42.toNatClampNeg) + (ga (sl (sl σj42 2 ((gl σj42 2) + (((((ga σj42 25 v1_j42.toNatClampNeg)).toInt64) * (((ga σj42 26 s0_j42.toNatClampNeg)).toInt64)) - ((((ga σj42 25 s0_j42.toNatClampNeg)).toInt64) * (((ga σj42 26 v1_j42.toNatClampNeg)).toInt64))))) 0 ((gl (sl σj42 2 ((gl σj42 2) + (((((ga σj42 25 v1_j42.toNatClampNeg)).toInt64) * (((ga σj42 26 s0_j42.toNatClampNeg)).toInt64)) - ((((ga σj42 25 s0_j42.toNatClampNeg)).toInt64) * (((ga σj42 26 v1_j42.toNatClampNeg)).toInt64))))) 0) + ((((((ga σj42 25 v1_j42.toNatClampNeg)).toInt64) * (((ga σj42 26 s0_j42.toNatClampNeg)).toInt64)) - ((((ga σj42 25 s0_j42.toNatClampNeg)).toInt64) * (((ga σj42 26 v1_j42.toNatClampNeg)).toInt64))) * ((((ga (sl σj42 2 ((gl σj42 2) + (((((ga σj42 25 v1_j42.toNatClampNeg)).toInt64) * (((ga σj42 26 s0_j42.toNatClampNeg)).toInt64)) - ((((ga σj42 25 s0_j42.toNatClampNeg)).toInt64) * (((ga σj42 26 v1_j42.toNatClampNeg)).toInt64))))) 25 v1_j42.toNatClampNeg) + (ga (sl σj42 2 ((gl σj42 2) + (((((ga σj42 25 v1_j42.toNatClampNeg)).toInt64) * (((ga σj42 26 s0_j42.toNatClampNeg)).toInt64)) - ((((ga σj42 25 s0_j42.toNatClampNeg)).toInt64) * (((ga σj42 26 v1_j42.toNatClampNeg)).toInt64))))) 25 s0_j42.toNatClampNeg))).toInt64)))) 26 s0_j42.toNatClampNeg))).toInt64)))) H locs ls hf hP hD hS (lv_sub hl [3, 0] rfl)
        refine lv_iload_n hx hb dX10_findSums_25 rfl (lv_at hl 1 rfl) ?_
        refine lv_iconst (v := (1 : Int32)) hx hb dX10_findSums_26 (by decide) ?_
        refine lv_iadd hx hb dX10_findSums_27 ?_
        refine lv_aload_n hx hb dX10_findSums_28 rfl (lv_at hl 0 rfl) ?_
        refine gM_m_corners S hK hP q989 dX10_findSums_29 ?_
        refine lv_icmp_ne (tgt := 39) hx hb dX10_findSums_32 (by decide) (fun c32 => ?_) (fun c32 => ?_)
        · have hf := ifn c32 hf
          refine lv_iload_n hx hb dX10_findSums_39 rfl (lv_at hl 1 rfl) ?_
          refine lv_iconst (v := (1 : Int32)) hx hb dX10_findSums_40 (by decide) ?_
          refine lv_iadd hx hb dX10_findSums_41 ?_
          exact J42 v1_17 (v1_17 + (1 : Int32)) σ17 H locs ls hf hP hD hS (lv_sub hl [0, 1] rfl)
        · have hf := ifp c32 hf
          refine lv_iconst (v := (0 : Int32)) hx hb dX10_findSums_35 (by decide) ?_
          refine lv_goto (tgt := 42) hx hb dX10_findSums_36 (by decide) ?_
          exact J42 v1_17 (0 : Int32) σ17 H locs ls hf hP hD hS (lv_sub hl [0, 1] rfl)
  exact L17 KF (0 : Int32) (sl (sl (sl σ 0 (0 : Int64)) 1 (0 : Int64)) 2 (0 : Int64)) H locs ls hf hP hD hS (lv_sub hl [1, 0] rfl)
theorem iX10_area : YI yX10_area cX10_area 2 (some .int) 0 := ⟨q1408, q12, by decide, by decide, by decide +kernel⟩
theorem vX10_area : YV yX10_area := ⟨q1406, q1407⟩
set_option maxRecDepth 100000 in
set_option maxHeartbeats 4000000 in
theorem c_X10_area (l : Launch) (D : va_G) (cy : Nat → ClassId) (ad : Nat → Nat) (σ : St) (q : Int32 × St) (hf : fX10_area σ = some q) : Ci l D cy (wM cy ad) yX10_area cX10_area 2 .int 1 24 [.ref (ad 0)] σ q.1 q.2 0 0 := by
  refine Ci.enter (by decide) (Nat.le_of_ble_eq_true rfl) ?_
  intro aw ac p e s m below meth c A H locs S hr hlocks hA hK hP hD hS ls hl
  have hx := S.1
  have hb := S.2.1
  have hl : lv_has ls 2 [(0, .ref (ad 0))] := hl
  unfold fX10_area at hf
  refine lv_aload_n hx hb dX10_area_0 rfl (lv_at hl 0 rfl) ?_
  obtain ⟨q1, h1, hf⟩ := ob_some hf
  refine u_calli0 (u_runV (rest := []) S (c_X10_findSums l D cy ad σ q1 h1 aw ac H.size) iX10_findSums vX10_findSums q1409 ⟨Nat.le_of_ble_eq_true rfl, Nat.le_of_ble_eq_true rfl⟩ hK hP hD (q0 := 0) rfl rfl rfl hl.1 (Nat.le_of_ble_eq_true rfl) dX10_area_1 ⟨Nat.le_refl _, Nat.le_refl _⟩) hD hS hA (fun H locs hP hD hS => ?_)
  refine lv_istore_n (lv' := [(1, .int q1.1), (0, .ref (ad 0))]) hx hb dX10_area_4 rfl hl (by decide) rfl (fun ls hl => ?_)
  refine lv_aload_n hx hb dX10_area_5 rfl (lv_at hl 1 rfl) ?_
  refine gM_m_corners S hK hP q989 dX10_area_6 ?_
  refine lv_iconst (v := (3 : Int32)) hx hb dX10_area_9 (by decide) ?_
  refine lv_icmp_ge (tgt := 18) hx hb dX10_area_10 (by decide) (fun c10 => ?_) (fun c10 => ?_)
  · have hf := ifp c10 hf
    refine lv_aload_n hx hb dX10_area_18 rfl (lv_at hl 1 rfl) ?_
    refine gM_m_twice S hK hP q994 dX10_area_19 ?_
    refine lv_lconst (v := (0 : Int64)) hx hb dX10_area_22 (by decide) ?_
    refine W.lcmp hx hb dX10_area_23 ?_
    refine lv_if_ge (tgt := 36) hx hb dX10_area_24 (by decide) (fun c24 => ?_) (fun c24 => ?_)
    · have c24 := (lg_cmp_ge _ _).mp c24
      have hf := ifp c24 hf
      refine lv_aload_n hx hb dX10_area_36 rfl (lv_at hl 1 rfl) ?_
      refine gM_m_twice S hK hP q994 dX10_area_37 ?_
      refine lv_l2i (v := ((gl q1.2 2)).toInt32) hx hb dX10_area_40 rfl ?_
      exact u_iretw hx hb hr hlocks rfl hP hD hS dX10_area_41 hf (fun _ => rfl)
    · have c24 := (not_congr (lg_cmp_ge _ _)).mp c24
      have hf := ifn c24 hf
      refine lv_lconst (v := (0 : Int64)) hx hb dX10_area_27 (by decide) ?_
      refine lv_aload_n hx hb dX10_area_28 rfl (lv_at hl 1 rfl) ?_
      refine gM_m_twice S hK hP q994 dX10_area_29 ?_
      refine lv_lsub hx hb dX10_area_32 ?_
      refine lv_goto (tgt := 40) hx hb dX10_area_33 (by decide) ?_
      refine lv_l2i (v := (((0 : Int64) - (gl q1.2 2))).toInt32) hx hb dX10_area_40 rfl ?_
      exact u_iretw hx hb hr hlocks rfl hP hD hS dX10_area_41 hf (fun _ => rfl)
  · have hf := ifn c10 hf
    refine lv_bipush (v := (-3 : Int32)) hx hb dX10_area_13 (by decide) ?_
    refine lv_goto (tgt := 41) hx hb dX10_area_15 (by decide) ?_
    exact u_iretw hx hb hr hlocks rfl hP hD hS dX10_area_41 hf (fun _ => rfl)
theorem iX10_size : YI yX10_size cX10_size 2 (some .long) 1 := ⟨q1426, q12, by decide, by decide, by decide +kernel⟩
set_option maxRecDepth 100000 in
set_option maxHeartbeats 4000000 in
theorem c_X10_size (l : Launch) (D : va_G) (cy : Nat → ClassId) (σ : St) (v0 : Int64) (r : Int64) (hf : fX10_size v0 = some r) : Cl l D cy wN yX10_size cX10_size 2 0 0 [.long v0] σ r σ 0 0 := by
  refine Cl.enter (by decide) (Nat.le_of_ble_eq_true rfl) ?_
  intro aw ac p e s m below meth c A H locs S hr hlocks hA hK hP hD hS ls hl
  have hx := S.1
  have hb := S.2.1
  have hl : lv_has ls 2 [(0, .long v0)] := hl
  unfold fX10_size at hf
  refine lv_lload_n hx hb dX10_size_0 rfl (lv_at hl 0 rfl) ?_
  refine lv_lconst (v := (0 : Int64)) hx hb dX10_size_1 (by decide) ?_
  refine W.lcmp hx hb dX10_size_2 ?_
  refine lv_if_ge (tgt := 12) hx hb dX10_size_3 (by decide) (fun c3 => ?_) (fun c3 => ?_)
  · have c3 := (lg_cmp_ge _ _).mp c3
    have hf := ifp c3 hf
    refine lv_lload_n hx hb dX10_size_12 rfl (lv_at hl 0 rfl) ?_
    exact u_lretr hx hb hr hlocks hP hD hS dX10_size_13 hf (fun _ => rfl)
  · have c3 := (not_congr (lg_cmp_ge _ _)).mp c3
    have hf := ifn c3 hf
    refine lv_lconst (v := (0 : Int64)) hx hb dX10_size_6 (by decide) ?_
    refine lv_lload_n hx hb dX10_size_7 rfl (lv_at hl 0 rfl) ?_
    refine lv_lsub hx hb dX10_size_8 ?_
    refine lv_goto (tgt := 13) hx hb dX10_size_9 (by decide) ?_
    exact u_lretr hx hb hr hlocks hP hD hS dX10_size_13 hf (fun _ => rfl)
theorem iX10_lowest : YI yX10_lowest cX10_lowest 11 none 2 := ⟨q1423, q12, by decide, by decide, by decide +kernel⟩
theorem vX10_lowest : YV yX10_lowest := ⟨q1422, qs53⟩
set_option maxRecDepth 100000 in
set_option maxHeartbeats 4000000 in
theorem c_X10_lowest (l : Launch) (D : va_G) (cy : Nat → ClassId) (ad : Nat → Nat) (σ : St) (v1 : Int64) (v3 : Int64) (q : St) (hf : fX10_lowest σ v1 v3 = some q) : Cv l D cy (wM cy ad) yX10_lowest cX10_lowest 11 1 21 [.ref (ad 0), .long v1, .long v3] σ q 0 0 := by
  refine Cv.enter (by decide) (Nat.le_of_ble_eq_true rfl) ?_
  intro aw ac p e s m below meth c A H locs S hr hlocks hA hK hP hD hS ls hl
  have hx := S.1
  have hb := S.2.1
  have hl : lv_has ls 11 [(0, .ref (ad 0)), (1, .long v1), (3, .long v3)] := hl
  unfold fX10_lowest at hf
  refine lv_lload_n hx hb dX10_lowest_0 rfl (lv_at hl 1 rfl) ?_
  obtain ⟨r1, h1, hf⟩ := ob_some hf
  refine p_calll0 (u_runS (rest := []) S (c_X10_size l D cy σ v1 r1 h1 aw ac H.size) iX10_size q1425 q1424 ⟨Nat.le_of_ble_eq_true rfl, Nat.le_of_ble_eq_true rfl⟩ hK wN_P (wN_D (A := fun _ => True)) rfl hl.1 (Nat.le_of_ble_eq_true rfl) dX10_lowest_1 ⟨Nat.le_refl _, Nat.le_refl _⟩) hP hS hA (fun H locs hP hS => ?_)
  refine lv_lstore (lv' := [(5, .long r1), (0, .ref (ad 0)), (1, .long v1), (3, .long v3)]) hx hb dX10_lowest_4 hl (by decide) rfl (fun ls hl => ?_)
  refine lv_lload_n hx hb dX10_lowest_6 rfl (lv_at hl 3 rfl) ?_
  obtain ⟨r7, h7, hf⟩ := ob_some hf
  refine p_calll0 (u_runS (rest := []) S (c_X10_size l D cy σ v3 r7 h7 aw ac H.size) iX10_size q1425 q1424 ⟨Nat.le_of_ble_eq_true rfl, Nat.le_of_ble_eq_true rfl⟩ hK wN_P (wN_D (A := fun _ => True)) rfl hl.1 (Nat.le_of_ble_eq_true rfl) dX10_lowest_7 ⟨Nat.le_refl _, Nat.le_refl _⟩) hP hS hA (fun H locs hP hS => ?_)
  refine lv_lstore (lv' := [(7, .long r7), (5, .long r1), (0, .ref (ad 0)), (1, .long v1), (3, .long v3)]) hx hb dX10_lowest_10 hl (by decide) rfl (fun ls hl => ?_)
  have L12 : ∀ (n12 : Nat) (v5_12 : Int64) (v7_12 : Int64) (H : Heap) (locs : List Loc) (ls : Array Slot), fX10_lowest_12 (fX10_lowest_12_k σ v1 v3) σ v1 v3 n12 v5_12 v7_12 = some q → va_P D vwCl (wM cy ad aw ac σ) H → va_D A (wM cy ad aw ac σ) → va_S A s.heap H locs → lv_has ls 11 [(0, .ref (ad 0)), (1, .long v1), (3, .long v3), (5, .long v5_12), (7, .long v7_12)] → W p l e (Rm 1 21 0 0) s m [.ref (ad 0), .long v1, .long v3].toArray below meth c H locs 0 0 (Zv D (wM cy ad) A q aw ac below [.ref (ad 0), .long v1, .long v3].toArray s 0 0) (F0 m 12 ls []) := by
    intro n12
    induction n12 with
    | zero =>
      intro v5_12 v7_12 H locs ls hf
      cases hf
    | succ n12 ih12 =>
      intro v5_12 v7_12 H locs ls hf hP hD hS hl
      rw [fX10_lowest_12] at hf
      refine lv_lload hx hb dX10_lowest_12 (lv_at hl 4 rfl) ?_
      refine lv_lconst (v := (0 : Int64)) hx hb dX10_lowest_14 (by decide) ?_
      refine W.lcmp hx hb dX10_lowest_15 ?_
      refine lv_if_eq (tgt := 37) hx hb dX10_lowest_16 (by decide) (fun c16 => ?_) (fun c16 => ?_)
      · have c16 := (lg_cmp_eq _ _).mp c16
        have hf := ifp c16 hf
        have hl := lv_sub (l' := [(0, .ref (ad 0)), (1, .long v1), (3, .long v3), (5, .long v5_12), (7, .long v7_12)]) hl [0, 1, 2, 3, 4] rfl
        unfold fX10_lowest_12_k at hf
        refine lv_lload_n hx hb dX10_lowest_37 rfl (lv_at hl 2 rfl) ?_
        refine lv_lconst (v := (0 : Int64)) hx hb dX10_lowest_38 (by decide) ?_
        refine W.lcmp hx hb dX10_lowest_39 ?_
        refine lv_if_ge (tgt := 49) hx hb dX10_lowest_40 (by decide) (fun c40 => ?_) (fun c40 => ?_)
        · have c40 := (lg_cmp_ge _ _).mp c40
          have hf := ifp c40 hf
          refine lv_lconst (v := (1 : Int64)) hx hb dX10_lowest_49 (by decide) ?_
          refine lv_lstore (lv' := [(9, .long (1 : Int64)), (0, .ref (ad 0)), (1, .long v1), (3, .long v3), (5, .long v5_12), (7, .long v7_12)]) hx hb dX10_lowest_50 hl (by decide) rfl (fun ls hl => ?_)
          refine lv_aload_n hx hb dX10_lowest_52 rfl (lv_at hl 1 rfl) ?_
          refine lv_lload hx hb dX10_lowest_53 (lv_at hl 0 rfl) ?_
          refine lv_lload_n hx hb dX10_lowest_55 rfl (lv_at hl 2 rfl) ?_
          refine lv_lmul hx hb dX10_lowest_56 ?_
          refine lv_lload hx hb dX10_lowest_57 (lv_at hl 4 rfl) ?_
          obtain ⟨n59, hf⟩ := ifd hf
          refine lv_ldiv hx hb dX10_lowest_59 n59 ?_
          refine pM_m_up S hK hP hD hS q995 dX10_lowest_60 (fun H locs hP hD hS => ?_)
          refine lv_aload_n hx hb dX10_lowest_63 rfl (lv_at hl 1 rfl) ?_
          refine lv_lload hx hb dX10_lowest_64 (lv_at hl 0 rfl) ?_
          refine lv_lload_n hx hb dX10_lowest_66 rfl (lv_at hl 3 rfl) ?_
          refine lv_lmul hx hb dX10_lowest_67 ?_
          refine lv_lload hx hb dX10_lowest_68 (lv_at hl 4 rfl) ?_
          obtain ⟨n70, hf⟩ := ifd hf
          refine lv_ldiv hx hb dX10_lowest_70 n70 ?_
          refine pM_m_down S hK hP hD hS q996 dX10_lowest_71 (fun H locs hP hD hS => ?_)
          exact u_vretw hx hb hr hlocks hP hD hS dX10_lowest_74 hf (fun _ => rfl)
        · have c40 := (not_congr (lg_cmp_ge _ _)).mp c40
          have hf := ifn c40 hf
          refine lv_ldc2 hx hb S.2.2.2.1 (S.2.2.2.2 _ (List.mem_cons_of_mem _ q1427)) dX10_lowest_43 ?_
          refine lv_goto (tgt := 50) hx hb dX10_lowest_46 (by decide) ?_
          refine lv_lstore (lv' := [(9, .long (-1 : Int64)), (0, .ref (ad 0)), (1, .long v1), (3, .long v3), (5, .long v5_12), (7, .long v7_12)]) hx hb dX10_lowest_50 hl (by decide) rfl (fun ls hl => ?_)
          refine lv_aload_n hx hb dX10_lowest_52 rfl (lv_at hl 1 rfl) ?_
          refine lv_lload hx hb dX10_lowest_53 (lv_at hl 0 rfl) ?_
          refine lv_lload_n hx hb dX10_lowest_55 rfl (lv_at hl 2 rfl) ?_
          refine lv_lmul hx hb dX10_lowest_56 ?_
          refine lv_lload hx hb dX10_lowest_57 (lv_at hl 4 rfl) ?_
          obtain ⟨n59, hf⟩ := ifd hf
          refine lv_ldiv hx hb dX10_lowest_59 n59 ?_
          refine pM_m_up S hK hP hD hS q995 dX10_lowest_60 (fun H locs hP hD hS => ?_)
          refine lv_aload_n hx hb dX10_lowest_63 rfl (lv_at hl 1 rfl) ?_
          refine lv_lload hx hb dX10_lowest_64 (lv_at hl 0 rfl) ?_
          refine lv_lload_n hx hb dX10_lowest_66 rfl (lv_at hl 3 rfl) ?_
          refine lv_lmul hx hb dX10_lowest_67 ?_
          refine lv_lload hx hb dX10_lowest_68 (lv_at hl 4 rfl) ?_
          obtain ⟨n70, hf⟩ := ifd hf
          refine lv_ldiv hx hb dX10_lowest_70 n70 ?_
          refine pM_m_down S hK hP hD hS q996 dX10_lowest_71 (fun H locs hP hD hS => ?_)
          exact u_vretw hx hb hr hlocks hP hD hS dX10_lowest_74 hf (fun _ => rfl)
      · have c16 := (not_congr (lg_cmp_eq _ _)).mp c16
        have hf := ifn c16 hf
        refine lv_lload hx hb dX10_lowest_19 (lv_at hl 3 rfl) ?_
        refine lv_lload hx hb dX10_lowest_21 (lv_at hl 4 rfl) ?_
        obtain ⟨n23, hf⟩ := ifd hf
        refine lv_lrem hx hb dX10_lowest_23 n23 ?_
        refine lv_lstore (lv' := [(9, .long (v5_12 - v5_12 / v7_12 * v7_12)), (0, .ref (ad 0)), (1, .long v1), (3, .long v3), (5, .long v5_12), (7, .long v7_12)]) hx hb dX10_lowest_24 hl (by decide) rfl (fun ls hl => ?_)
        refine lv_lload hx hb dX10_lowest_26 (lv_at hl 5 rfl) ?_
        refine lv_lstore (lv' := [(5, .long v7_12), (9, .long (v5_12 - v5_12 / v7_12 * v7_12)), (0, .ref (ad 0)), (1, .long v1), (3, .long v3), (7, .long v7_12)]) hx hb dX10_lowest_28 hl (by decide) rfl (fun ls hl => ?_)
        refine lv_lload hx hb dX10_lowest_30 (lv_at hl 1 rfl) ?_
        refine lv_lstore (lv' := [(7, .long (v5_12 - v5_12 / v7_12 * v7_12)), (5, .long v7_12), (9, .long (v5_12 - v5_12 / v7_12 * v7_12)), (0, .ref (ad 0)), (1, .long v1), (3, .long v3)]) hx hb dX10_lowest_32 hl (by decide) rfl (fun ls hl => ?_)
        refine lv_goto (tgt := 12) hx hb dX10_lowest_34 (by decide) ?_
        exact ih12 v7_12 (v5_12 - v5_12 / v7_12 * v7_12) H locs ls hf hP hD hS (lv_sub hl [3, 4, 5, 1, 0] rfl)
  exact L12 KF r1 r7 H locs ls hf hP hD hS (lv_sub hl [2, 3, 4, 1, 0] rfl)
theorem iX10_middle : YI yX10_middle cX10_middle 2 (some .long) 1 := ⟨q1416, q12, by decide, by decide, by decide +kernel⟩
theorem vX10_middle : YV yX10_middle := ⟨q1414, q1415⟩
set_option maxRecDepth 100000 in
set_option maxHeartbeats 4000000 in
theorem c_X10_middle (l : Launch) (D : va_G) (cy : Nat → ClassId) (ad : Nat → Nat) (σ : St) (v1 : Int32) (q : Int64 × St) (hf : fX10_middle σ v1 = some q) : Cl l D cy (wM cy ad) yX10_middle cX10_middle 2 2 51 [.ref (ad 0), .int v1] σ q.1 q.2 0 0 := by
  refine Cl.enter (by decide) (Nat.le_of_ble_eq_true rfl) ?_
  intro aw ac p e s m below meth c A H locs S hr hlocks hA hK hP hD hS ls hl
  have hx := S.1
  have hb := S.2.1
  have hl : lv_has ls 2 [(0, .ref (ad 0)), (1, .int v1)] := hl
  unfold fX10_middle at hf
  refine lv_iload_n hx hb dX10_middle_0 rfl (lv_at hl 1 rfl) ?_
  refine lv_i2l (v := (v1).toInt64) hx hb dX10_middle_1 rfl ?_
  refine lv_lconst (v := (0 : Int64)) hx hb dX10_middle_2 (by decide) ?_
  refine lv_ldc2 hx hb S.2.2.2.1 (S.2.2.2.2 _ (List.mem_cons_of_mem _ q1417)) dX10_middle_3 ?_
  obtain ⟨r6, h6, hf⟩ := ob_some hf
  refine p_calli0 (u_runS (rest := []) S (c_X10_in l D cy σ ((v1).toInt64) (0 : Int64) (3 : Int64) r6 h6 aw ac H.size) iX10_in q1112 q1111 ⟨Nat.le_of_ble_eq_true rfl, Nat.le_of_ble_eq_true rfl⟩ hK wN_P (wN_D (A := fun _ => True)) rfl hl.1 (Nat.le_of_ble_eq_true rfl) dX10_middle_6 ⟨Nat.le_refl _, Nat.le_refl _⟩) hP hS hA (fun H locs hP hS => ?_)
  refine lv_if_ne (tgt := 16) hx hb dX10_middle_9 (by decide) (fun c9 => ?_) (fun c9 => ?_)
  · have hf := ifn c9 hf
    refine lv_aload_n hx hb dX10_middle_16 rfl (lv_at hl 0 rfl) ?_
    obtain ⟨q17, h17, hf⟩ := ob_some hf
    refine u_calli0 (u_runV (rest := []) S (c_X10_findSums l D cy ad σ q17 h17 aw ac H.size) iX10_findSums vX10_findSums q1409 ⟨Nat.le_of_ble_eq_true rfl, Nat.le_of_ble_eq_true rfl⟩ hK hP hD (q0 := 0) rfl rfl rfl hl.1 (Nat.le_of_ble_eq_true rfl) dX10_middle_17 ⟨Nat.le_refl _, Nat.le_refl _⟩) hD hS hA (fun H locs hP hD hS => ?_)
    refine lv_if_ne (tgt := 27) hx hb dX10_middle_20 (by decide) (fun c20 => ?_) (fun c20 => ?_)
    · have hf := ifn c20 hf
      refine lv_aload_n hx hb dX10_middle_27 rfl (lv_at hl 0 rfl) ?_
      refine lv_iload_n hx hb dX10_middle_28 rfl (lv_at hl 1 rfl) ?_
      refine lv_iconst (v := (2 : Int32)) hx hb dX10_middle_29 (by decide) ?_
      refine lv_icmp_ge (tgt := 40) hx hb dX10_middle_30 (by decide) (fun c30 => ?_) (fun c30 => ?_)
      · have hf := ifp c30 hf
        refine lv_aload_n hx hb dX10_middle_40 rfl (lv_at hl 0 rfl) ?_
        refine gM_m_sumY S hK hP q993 dX10_middle_41 ?_
        refine lv_ldc2 hx hb S.2.2.2.1 (S.2.2.2.2 _ (List.mem_cons_of_mem _ q1417)) dX10_middle_44 ?_
        refine lv_aload_n hx hb dX10_middle_47 rfl (lv_at hl 0 rfl) ?_
        refine gM_m_twice S hK hP q994 dX10_middle_48 ?_
        refine lv_lmul hx hb dX10_middle_51 ?_
        obtain ⟨q52, h52, hf⟩ := ob_some hf
        refine u_callv0 (u_runV (rest := []) S (c_X10_lowest l D cy ad q17.2 (gl q17.2 1) ((3 : Int64) * (gl q17.2 2)) q52 h52 aw ac H.size) iX10_lowest vX10_lowest q1420 ⟨Nat.le_of_ble_eq_true rfl, Nat.le_of_ble_eq_true rfl⟩ hK hP hD (q0 := 0) rfl rfl rfl hl.1 (Nat.le_of_ble_eq_true rfl) dX10_middle_52 ⟨Nat.le_refl _, Nat.le_refl _⟩) hD hS hA (fun H locs hP hD hS => ?_)
        refine lv_iload_n hx hb dX10_middle_55 rfl (lv_at hl 1 rfl) ?_
        refine lv_iconst (v := (2 : Int32)) hx hb dX10_middle_56 (by decide) ?_
        refine lv_irem hx hb dX10_middle_57 (by decide) ?_
        refine lv_if_ne (tgt := 68) hx hb dX10_middle_58 (by decide) (fun c58 => ?_) (fun c58 => ?_)
        · have hf := ifn c58 hf
          refine lv_aload_n hx hb dX10_middle_68 rfl (lv_at hl 0 rfl) ?_
          refine gM_m_down S hK hP q996 dX10_middle_69 ?_
          exact u_lretw hx hb hr hlocks hP hD hS dX10_middle_72 hf (fun _ => rfl)
        · have hf := ifp c58 hf
          refine lv_aload_n hx hb dX10_middle_61 rfl (lv_at hl 0 rfl) ?_
          refine gM_m_up S hK hP q995 dX10_middle_62 ?_
          refine lv_goto (tgt := 72) hx hb dX10_middle_65 (by decide) ?_
          exact u_lretw hx hb hr hlocks hP hD hS dX10_middle_72 hf (fun _ => rfl)
      · have hf := ifn c30 hf
        refine lv_aload_n hx hb dX10_middle_33 rfl (lv_at hl 0 rfl) ?_
        refine gM_m_sumX S hK hP q992 dX10_middle_34 ?_
        refine lv_goto (tgt := 44) hx hb dX10_middle_37 (by decide) ?_
        refine lv_ldc2 hx hb S.2.2.2.1 (S.2.2.2.2 _ (List.mem_cons_of_mem _ q1417)) dX10_middle_44 ?_
        refine lv_aload_n hx hb dX10_middle_47 rfl (lv_at hl 0 rfl) ?_
        refine gM_m_twice S hK hP q994 dX10_middle_48 ?_
        refine lv_lmul hx hb dX10_middle_51 ?_
        obtain ⟨q52, h52, hf⟩ := ob_some hf
        refine u_callv0 (u_runV (rest := []) S (c_X10_lowest l D cy ad q17.2 (gl q17.2 0) ((3 : Int64) * (gl q17.2 2)) q52 h52 aw ac H.size) iX10_lowest vX10_lowest q1420 ⟨Nat.le_of_ble_eq_true rfl, Nat.le_of_ble_eq_true rfl⟩ hK hP hD (q0 := 0) rfl rfl rfl hl.1 (Nat.le_of_ble_eq_true rfl) dX10_middle_52 ⟨Nat.le_refl _, Nat.le_refl _⟩) hD hS hA (fun H locs hP hD hS => ?_)
        refine lv_iload_n hx hb dX10_middle_55 rfl (lv_at hl 1 rfl) ?_
        refine lv_iconst (v := (2 : Int32)) hx hb dX10_middle_56 (by decide) ?_
        refine lv_irem hx hb dX10_middle_57 (by decide) ?_
        refine lv_if_ne (tgt := 68) hx hb dX10_middle_58 (by decide) (fun c58 => ?_) (fun c58 => ?_)
        · have hf := ifn c58 hf
          refine lv_aload_n hx hb dX10_middle_68 rfl (lv_at hl 0 rfl) ?_
          refine gM_m_down S hK hP q996 dX10_middle_69 ?_
          exact u_lretw hx hb hr hlocks hP hD hS dX10_middle_72 hf (fun _ => rfl)
        · have hf := ifp c58 hf
          refine lv_aload_n hx hb dX10_middle_61 rfl (lv_at hl 0 rfl) ?_
          refine gM_m_up S hK hP q995 dX10_middle_62 ?_
          refine lv_goto (tgt := 72) hx hb dX10_middle_65 (by decide) ?_
          exact u_lretw hx hb hr hlocks hP hD hS dX10_middle_72 hf (fun _ => rfl)
    · have hf := ifp c20 hf
      refine lv_ldc2 hx hb S.2.2.2.1 (S.2.2.2.2 _ (List.mem_cons_of_mem _ q1419)) dX10_middle_23 ?_
      exact u_lretw hx hb hr hlocks hP hD hS dX10_middle_26 hf (fun _ => rfl)
  · have hf := ifp c9 hf
    refine lv_ldc2 hx hb S.2.2.2.1 (S.2.2.2.2 _ (List.mem_cons_of_mem _ q1418)) dX10_middle_12 ?_
    exact u_lretw hx hb hr hlocks hP hD hS dX10_middle_15 hf (fun _ => rfl)
theorem iX10_findTilt : YI yX10_findTilt cX10_findTilt 3 none 2 := ⟨q1435, q12, by decide, by decide, by decide +kernel⟩
theorem vX10_findTilt : YV yX10_findTilt := ⟨q1434, qs54⟩
set_option maxRecDepth 100000 in
set_option maxHeartbeats 4000000 in
theorem c_X10_findTilt (l : Launch) (D : va_G) (cy : Nat → ClassId) (ad : Nat → Nat) (σ : St) (v1 : Int32) (v2 : Int32) (q : St) (hf : fX10_findTilt σ v1 v2 = some q) : Cv l D cy (wM cy ad) yX10_findTilt cX10_findTilt 3 2 51 [.ref (ad 0), .int v1, .int v2] σ q 0 0 := by
  refine Cv.enter (by decide) (Nat.le_of_ble_eq_true rfl) ?_
  intro aw ac p e s m below meth c A H locs S hr hlocks hA hK hP hD hS ls hl
  have hx := S.1
  have hb := S.2.1
  have hl : lv_has ls 3 [(0, .ref (ad 0)), (1, .int v1), (2, .int v2)] := hl
  unfold fX10_findTilt at hf
  refine lv_aload_n hx hb dX10_findTilt_0 rfl (lv_at hl 0 rfl) ?_
  refine lv_ldc2 hx hb S.2.2.2.1 (S.2.2.2.2 _ (List.mem_cons_of_mem _ q1389)) dX10_findTilt_1 ?_
  refine lv_aload_n hx hb dX10_findTilt_4 rfl (lv_at hl 0 rfl) ?_
  refine gM_m_sumX S hK hP q992 dX10_findTilt_5 ?_
  refine lv_lmul hx hb dX10_findTilt_8 ?_
  refine lv_ldc2 hx hb S.2.2.2.1 (S.2.2.2.2 _ (List.mem_cons_of_mem _ q1417)) dX10_findTilt_9 ?_
  refine lv_aload_n hx hb dX10_findTilt_12 rfl (lv_at hl 0 rfl) ?_
  refine gM_m_twice S hK hP q994 dX10_findTilt_13 ?_
  refine lv_lmul hx hb dX10_findTilt_16 ?_
  refine lv_iload_n hx hb dX10_findTilt_17 rfl (lv_at hl 1 rfl) ?_
  refine lv_iload_n hx hb dX10_findTilt_18 rfl (lv_at hl 2 rfl) ?_
  refine lv_iadd hx hb dX10_findTilt_19 ?_
  refine lv_i2l (v := ((v1 + v2)).toInt64) hx hb dX10_findTilt_20 rfl ?_
  refine lv_lmul hx hb dX10_findTilt_21 ?_
  refine lv_lsub hx hb dX10_findTilt_22 ?_
  refine lv_ldc2 hx hb S.2.2.2.1 (S.2.2.2.2 _ (List.mem_cons_of_mem _ q1436)) dX10_findTilt_23 ?_
  refine lv_aload_n hx hb dX10_findTilt_26 rfl (lv_at hl 0 rfl) ?_
  refine gM_m_twice S hK hP q994 dX10_findTilt_27 ?_
  refine lv_lmul hx hb dX10_findTilt_30 ?_
  obtain ⟨q31, h31, hf⟩ := ob_some hf
  refine u_callv0 (u_runV (rest := []) S (c_X10_lowest l D cy ad σ (((2 : Int64) * (gl σ 0)) - (((3 : Int64) * (gl σ 2)) * (((v1 + v2)).toInt64))) ((6 : Int64) * (gl σ 2)) q31 h31 aw ac H.size) iX10_lowest vX10_lowest q1420 ⟨Nat.le_of_ble_eq_true rfl, Nat.le_of_ble_eq_true rfl⟩ hK hP hD (q0 := 0) rfl rfl rfl hl.1 (Nat.le_of_ble_eq_true rfl) dX10_findTilt_31 ⟨Nat.le_refl _, Nat.le_refl _⟩) hD hS hA (fun H locs hP hD hS => ?_)
  exact u_vretw hx hb hr hlocks hP hD hS dX10_findTilt_34 hf (fun _ => rfl)
theorem iX10_tilt : YI yX10_tilt cX10_tilt 6 (some .long) 5 := ⟨q1431, q12, by decide, by decide, by decide +kernel⟩
theorem vX10_tilt : YV yX10_tilt := ⟨q1429, q1430⟩
set_option maxRecDepth 100000 in
set_option maxHeartbeats 4000000 in
theorem c_X10_tilt (l : Launch) (D : va_G) (cy : Nat → ClassId) (ad : Nat → Nat) (σ : St) (v1 : Int32) (v2 : Int32) (v3 : Int32) (v4 : Int32) (v5 : Int32) (q : Int64 × St) (hf : fX10_tilt σ v1 v2 v3 v4 v5 = some q) : Cl l D cy (wM cy ad) yX10_tilt cX10_tilt 6 3 73 [.ref (ad 0), .int v1, .int v2, .int v3, .int v4, .int v5] σ q.1 q.2 0 0 := by
  refine Cl.enter (by decide) (Nat.le_of_ble_eq_true rfl) ?_
  intro aw ac p e s m below meth c A H locs S hr hlocks hA hK hP hD hS ls hl
  have hx := S.1
  have hb := S.2.1
  have hl : lv_has ls 6 [(0, .ref (ad 0)), (1, .int v1), (2, .int v2), (3, .int v3), (4, .int v4), (5, .int v5)] := hl
  unfold fX10_tilt at hf
  refine lv_iload_n hx hb dX10_tilt_0 rfl (lv_at hl 1 rfl) ?_
  obtain ⟨r1, h1, hf⟩ := ob_some hf
  refine p_calli0 (u_runS (rest := []) S (c_X10_isAt l D cy σ v1 r1 h1 aw ac H.size) iX10_isAt q1403 q1402 ⟨Nat.le_of_ble_eq_true rfl, Nat.le_of_ble_eq_true rfl⟩ hK wN_P (wN_D (A := fun _ => True)) rfl hl.1 (Nat.le_of_ble_eq_true rfl) dX10_tilt_1 ⟨Nat.le_refl _, Nat.le_refl _⟩) hP hS hA (fun H locs hP hS => ?_)
  refine lv_if_eq (tgt := 40) hx hb dX10_tilt_4 (by decide) (fun c4 => ?_) (fun c4 => ?_)
  · have hf := ifp c4 hf
    refine lv_ldc2 hx hb S.2.2.2.1 (S.2.2.2.2 _ (List.mem_cons_of_mem _ q1418)) dX10_tilt_40 ?_
    exact u_lretw hx hb hr hlocks hP hD hS dX10_tilt_43 hf (fun _ => rfl)
  · have hf := ifn c4 hf
    refine lv_iload_n hx hb dX10_tilt_7 rfl (lv_at hl 2 rfl) ?_
    obtain ⟨r8, h8, hf⟩ := ob_some hf
    refine p_calli0 (u_runS (rest := []) S (c_X10_isAt l D cy σ v2 r8 h8 aw ac H.size) iX10_isAt q1403 q1402 ⟨Nat.le_of_ble_eq_true rfl, Nat.le_of_ble_eq_true rfl⟩ hK wN_P (wN_D (A := fun _ => True)) rfl hl.1 (Nat.le_of_ble_eq_true rfl) dX10_tilt_8 ⟨Nat.le_refl _, Nat.le_refl _⟩) hP hS hA (fun H locs hP hS => ?_)
    refine lv_if_eq (tgt := 40) hx hb dX10_tilt_11 (by decide) (fun c11 => ?_) (fun c11 => ?_)
    · have hf := ifp c11 hf
      refine lv_ldc2 hx hb S.2.2.2.1 (S.2.2.2.2 _ (List.mem_cons_of_mem _ q1418)) dX10_tilt_40 ?_
      exact u_lretw hx hb hr hlocks hP hD hS dX10_tilt_43 hf (fun _ => rfl)
    · have hf := ifn c11 hf
      refine lv_iload_n hx hb dX10_tilt_14 rfl (lv_at hl 3 rfl) ?_
      obtain ⟨r15, h15, hf⟩ := ob_some hf
      refine p_calli0 (u_runS (rest := []) S (c_X10_isAt l D cy σ v3 r15 h15 aw ac H.size) iX10_isAt q1403 q1402 ⟨Nat.le_of_ble_eq_true rfl, Nat.le_of_ble_eq_true rfl⟩ hK wN_P (wN_D (A := fun _ => True)) rfl hl.1 (Nat.le_of_ble_eq_true rfl) dX10_tilt_15 ⟨Nat.le_refl _, Nat.le_refl _⟩) hP hS hA (fun H locs hP hS => ?_)
      refine lv_if_eq (tgt := 40) hx hb dX10_tilt_18 (by decide) (fun c18 => ?_) (fun c18 => ?_)
      · have hf := ifp c18 hf
        refine lv_ldc2 hx hb S.2.2.2.1 (S.2.2.2.2 _ (List.mem_cons_of_mem _ q1418)) dX10_tilt_40 ?_
        exact u_lretw hx hb hr hlocks hP hD hS dX10_tilt_43 hf (fun _ => rfl)
      · have hf := ifn c18 hf
        refine lv_iload hx hb dX10_tilt_21 (lv_at hl 4 rfl) ?_
        obtain ⟨r23, h23, hf⟩ := ob_some hf
        refine p_calli0 (u_runS (rest := []) S (c_X10_isAt l D cy σ v4 r23 h23 aw ac H.size) iX10_isAt q1403 q1402 ⟨Nat.le_of_ble_eq_true rfl, Nat.le_of_ble_eq_true rfl⟩ hK wN_P (wN_D (A := fun _ => True)) rfl hl.1 (Nat.le_of_ble_eq_true rfl) dX10_tilt_23 ⟨Nat.le_refl _, Nat.le_refl _⟩) hP hS hA (fun H locs hP hS => ?_)
        refine lv_if_eq (tgt := 40) hx hb dX10_tilt_26 (by decide) (fun c26 => ?_) (fun c26 => ?_)
        · have hf := ifp c26 hf
          refine lv_ldc2 hx hb S.2.2.2.1 (S.2.2.2.2 _ (List.mem_cons_of_mem _ q1418)) dX10_tilt_40 ?_
          exact u_lretw hx hb hr hlocks hP hD hS dX10_tilt_43 hf (fun _ => rfl)
        · have hf := ifn c26 hf
          refine lv_iload hx hb dX10_tilt_29 (lv_at hl 5 rfl) ?_
          refine lv_i2l (v := (v5).toInt64) hx hb dX10_tilt_31 rfl ?_
          refine lv_lconst (v := (0 : Int64)) hx hb dX10_tilt_32 (by decide) ?_
          refine lv_lconst (v := (1 : Int64)) hx hb dX10_tilt_33 (by decide) ?_
          obtain ⟨r34, h34, hf⟩ := ob_some hf
          refine p_calli0 (u_runS (rest := []) S (c_X10_in l D cy σ ((v5).toInt64) (0 : Int64) (1 : Int64) r34 h34 aw ac H.size) iX10_in q1112 q1111 ⟨Nat.le_of_ble_eq_true rfl, Nat.le_of_ble_eq_true rfl⟩ hK wN_P (wN_D (A := fun _ => True)) rfl hl.1 (Nat.le_of_ble_eq_true rfl) dX10_tilt_34 ⟨Nat.le_refl _, Nat.le_refl _⟩) hP hS hA (fun H locs hP hS => ?_)
          refine lv_if_ne (tgt := 44) hx hb dX10_tilt_37 (by decide) (fun c37 => ?_) (fun c37 => ?_)
          · have hf := ifn c37 hf
            refine lv_aload_n hx hb dX10_tilt_44 rfl (lv_at hl 0 rfl) ?_
            obtain ⟨q45, h45, hf⟩ := ob_some hf
            refine u_calli0 (u_runV (rest := []) S (c_X10_findSums l D cy ad σ q45 h45 aw ac H.size) iX10_findSums vX10_findSums q1409 ⟨Nat.le_of_ble_eq_true rfl, Nat.le_of_ble_eq_true rfl⟩ hK hP hD (q0 := 0) rfl rfl rfl hl.1 (Nat.le_of_ble_eq_true rfl) dX10_tilt_45 ⟨Nat.le_refl _, Nat.le_refl _⟩) hD hS hA (fun H locs hP hD hS => ?_)
            refine lv_if_ne (tgt := 55) hx hb dX10_tilt_48 (by decide) (fun c48 => ?_) (fun c48 => ?_)
            · have hf := ifn c48 hf
              refine lv_aload_n hx hb dX10_tilt_55 rfl (lv_at hl 0 rfl) ?_
              refine lv_iload_n hx hb dX10_tilt_56 rfl (lv_at hl 1 rfl) ?_
              refine lv_iload_n hx hb dX10_tilt_57 rfl (lv_at hl 3 rfl) ?_
              obtain ⟨q58, h58, hf⟩ := ob_some hf
              refine u_callv0 (u_runV (rest := []) S (c_X10_findTilt l D cy ad q45.2 v1 v3 q58 h58 aw ac H.size) iX10_findTilt vX10_findTilt q1432 ⟨Nat.le_of_ble_eq_true rfl, Nat.le_of_ble_eq_true rfl⟩ hK hP hD (q0 := 0) rfl rfl rfl hl.1 (Nat.le_of_ble_eq_true rfl) dX10_tilt_58 ⟨Nat.le_refl _, Nat.le_refl _⟩) hD hS hA (fun H locs hP hD hS => ?_)
              refine lv_iload hx hb dX10_tilt_61 (lv_at hl 5 rfl) ?_
              refine lv_if_ne (tgt := 73) hx hb dX10_tilt_63 (by decide) (fun c63 => ?_) (fun c63 => ?_)
              · have hf := ifn c63 hf
                refine lv_aload_n hx hb dX10_tilt_73 rfl (lv_at hl 0 rfl) ?_
                refine gM_m_down S hK hP q996 dX10_tilt_74 ?_
                exact u_lretw hx hb hr hlocks hP hD hS dX10_tilt_77 hf (fun _ => rfl)
              · have hf := ifp c63 hf
                refine lv_aload_n hx hb dX10_tilt_66 rfl (lv_at hl 0 rfl) ?_
                refine gM_m_up S hK hP q995 dX10_tilt_67 ?_
                refine lv_goto (tgt := 77) hx hb dX10_tilt_70 (by decide) ?_
                exact u_lretw hx hb hr hlocks hP hD hS dX10_tilt_77 hf (fun _ => rfl)
            · have hf := ifp c48 hf
              refine lv_ldc2 hx hb S.2.2.2.1 (S.2.2.2.2 _ (List.mem_cons_of_mem _ q1419)) dX10_tilt_51 ?_
              exact u_lretw hx hb hr hlocks hP hD hS dX10_tilt_54 hf (fun _ => rfl)
          · have hf := ifp c37 hf
            refine lv_ldc2 hx hb S.2.2.2.1 (S.2.2.2.2 _ (List.mem_cons_of_mem _ q1418)) dX10_tilt_40 ?_
            exact u_lretw hx hb hr hlocks hP hD hS dX10_tilt_43 hf (fun _ => rfl)
theorem iX10_isSteady : YI yX10_isSteady cX10_isSteady 13 (some .boolean) 4 := ⟨q1444, q12, by decide, by decide, by decide +kernel⟩
theorem vX10_isSteady : YV yX10_isSteady := ⟨q1443, qs55⟩
set_option maxRecDepth 100000 in
set_option maxHeartbeats 4000000 in
theorem c_X10_isSteady (l : Launch) (D : va_G) (cy : Nat → ClassId) (ad : Nat → Nat) (σ : St) (v1 : Int32) (v2 : Int32) (v3 : Int32) (v4 : Int32) (r : Int32) (hf : fX10_isSteady σ v1 v2 v3 v4 = some r) : Ci l D cy (wM cy ad) yX10_isSteady cX10_isSteady 13 .boolean 1 21 [.ref (ad 0), .int v1, .int v2, .int v3, .int v4] σ r σ 0 0 := by
  refine Ci.enter (by decide) (Nat.le_of_ble_eq_true rfl) ?_
  intro aw ac p e s m below meth c A H locs S hr hlocks hA hK hP hD hS ls hl
  have hx := S.1
  have hb := S.2.1
  have hl : lv_has ls 13 [(0, .ref (ad 0)), (1, .int v1), (2, .int v2), (3, .int v3), (4, .int v4)] := hl
  unfold fX10_isSteady at hf
  refine lv_ldc2 hx hb S.2.2.2.1 (S.2.2.2.2 _ (List.mem_cons_of_mem _ q1417)) dX10_isSteady_0 ?_
  refine lv_aload_n hx hb dX10_isSteady_3 rfl (lv_at hl 0 rfl) ?_
  refine gM_m_twice S hK hP q994 dX10_isSteady_4 ?_
  obtain ⟨r7, h7, hf⟩ := ob_some hf
  refine p_calll0 (u_runS (rest := [.long (3 : Int64)]) S (c_X10_size l D cy σ (gl σ 2) r7 h7 aw ac H.size) iX10_size q1425 q1424 ⟨Nat.le_of_ble_eq_true rfl, Nat.le_of_ble_eq_true rfl⟩ hK wN_P (wN_D (A := fun _ => True)) rfl hl.1 (Nat.le_of_ble_eq_true rfl) dX10_isSteady_7 ⟨Nat.le_refl _, Nat.le_refl _⟩) hP hS hA (fun H locs hP hS => ?_)
  refine lv_lmul hx hb dX10_isSteady_10 ?_
  refine lv_lstore (lv' := [(5, .long ((3 : Int64) * r7)), (0, .ref (ad 0)), (1, .int v1), (2, .int v2), (3, .int v3), (4, .int v4)]) hx hb dX10_isSteady_11 hl (by decide) rfl (fun ls hl => ?_)
  have J35 : ∀ (v1_j35 : Int32) (v2_j35 : Int32) (v3_j35 : Int32) (v4_j35 : Int32) (v5_j35 : Int64) (s0_j35 : Int64) (H : Heap) (locs : List Loc) (ls : Array Slot), fX10_isSteady_J35 σ v1_j35 v2_j35 v3_j35 v4_j35 v5_j35 s0_j35 = some r → va_P D vwCl (wM cy ad aw ac σ) H → va_D A (wM cy ad aw ac σ) → va_S A s.heap H locs → lv_has ls 13 [(0, .ref (ad 0)), (1, .int v1_j35), (2, .int v2_j35), (3, .int v3_j35), (4, .int v4_j35), (5, .long v5_j35)] → W p l e (Rm 1 21 0 0) s m [.ref (ad 0), .int v1, .int v2, .int v3, .int v4].toArray below meth c H locs 0 0 (Zi D (wM cy ad) A r σ aw ac below [.ref (ad 0), .int v1, .int v2, .int v3, .int v4].toArray s 0 0) (F0 m 35 ls [.long s0_j35]) := by
    intro v1_j35 v2_j35 v3_j35 v4_j35 v5_j35 s0_j35 H locs ls hf hP hD hS hl
    unfold fX10_isSteady_J35 at hf
    refine lv_lstore (lv' := [(7, .long s0_j35), (0, .ref (ad 0)), (1, .int v1_j35), (2, .int v2_j35), (3, .int v3_j35), (4, .int v4_j35), (5, .long v5_j35)]) hx hb dX10_isSteady_35 hl (by decide) rfl (fun ls hl => ?_)
    have J59 : ∀ (v1_j59 : Int32) (v2_j59 : Int32) (v3_j59 : Int32) (v4_j59 : Int32) (v5_j59 : Int64) (v7_j59 : Int64) (s0_j59 : Int64) (H : Heap) (locs : List Loc) (ls : Array Slot), fX10_isSteady_J59 σ v1_j59 v2_j59 v3_j59 v4_j59 v5_j59 v7_j59 s0_j59 = some r → va_P D vwCl (wM cy ad aw ac σ) H → va_D A (wM cy ad aw ac σ) → va_S A s.heap H locs → lv_has ls 13 [(0, .ref (ad 0)), (1, .int v1_j59), (2, .int v2_j59), (3, .int v3_j59), (4, .int v4_j59), (5, .long v5_j59), (7, .long v7_j59)] → W p l e (Rm 1 21 0 0) s m [.ref (ad 0), .int v1, .int v2, .int v3, .int v4].toArray below meth c H locs 0 0 (Zi D (wM cy ad) A r σ aw ac below [.ref (ad 0), .int v1, .int v2, .int v3, .int v4].toArray s 0 0) (F0 m 59 ls [.long s0_j59]) := by
      intro v1_j59 v2_j59 v3_j59 v4_j59 v5_j59 v7_j59 s0_j59 H locs ls hf hP hD hS hl
      unfold fX10_isSteady_J59 at hf
      refine lv_lstore (lv' := [(9, .long s0_j59), (0, .ref (ad 0)), (1, .int v1_j59), (2, .int v2_j59), (3, .int v3_j59), (4, .int v4_j59), (5, .long v5_j59), (7, .long v7_j59)]) hx hb dX10_isSteady_59 hl (by decide) rfl (fun ls hl => ?_)
      have J71 : ∀ (v1_j71 : Int32) (v2_j71 : Int32) (v3_j71 : Int32) (v4_j71 : Int32) (v5_j71 : Int64) (v7_j71 : Int64) (v9_j71 : Int64) (s0_j71 : Int32) (H : Heap) (locs : List Loc) (ls : Array Slot), fX10_isSteady_J71 σ v1_j71 v2_j71 v3_j71 v4_j71 v5_j71 v7_j71 v9_j71 s0_j71 = some r → va_P D vwCl (wM cy ad aw ac σ) H → va_D A (wM cy ad aw ac σ) → va_S A s.heap H locs → lv_has ls 13 [(0, .ref (ad 0)), (1, .int v1_j71), (2, .int v2_j71), (3, .int v3_j71), (4, .int v4_j71), (5, .long v5_j71), (7, .long v7_j71), (9, .long v9_j71)] → W p l e (Rm 1 21 0 0) s m [.ref (ad 0), .int v1, .int v2, .int v3, .int v4].toArray below meth c H locs 0 0 (Zi D (wM cy ad) A r σ aw ac below [.ref (ad 0), .int v1, .int v2, .int v3, .int v4].toArray s 0 0) (F0 m 71 ls [.int s0_j71]) := by
        intro v1_j71 v2_j71 v3_j71 v4_j71 v5_j71 v7_j71 v9_j71 s0_j71 H locs ls hf hP hD hS hl
        unfold fX10_isSteady_J71 at hf
        refine lv_istore (lv' := [(11, .int s0_j71), (0, .ref (ad 0)), (1, .int v1_j71), (2, .int v2_j71), (3, .int v3_j71), (4, .int v4_j71), (5, .long v5_j71), (7, .long v7_j71), (9, .long v9_j71)]) hx hb dX10_isSteady_71 hl (by decide) rfl (fun ls hl => ?_)
        have J83 : ∀ (v1_j83 : Int32) (v2_j83 : Int32) (v3_j83 : Int32) (v4_j83 : Int32) (v5_j83 : Int64) (v7_j83 : Int64) (v9_j83 : Int64) (v11_j83 : Int32) (s0_j83 : Int32) (H : Heap) (locs : List Loc) (ls : Array Slot), fX10_isSteady_J83 σ v1_j83 v2_j83 v3_j83 v4_j83 v5_j83 v7_j83 v9_j83 v11_j83 s0_j83 = some r → va_P D vwCl (wM cy ad aw ac σ) H → va_D A (wM cy ad aw ac σ) → va_S A s.heap H locs → lv_has ls 13 [(0, .ref (ad 0)), (1, .int v1_j83), (2, .int v2_j83), (3, .int v3_j83), (4, .int v4_j83), (5, .long v5_j83), (7, .long v7_j83), (9, .long v9_j83), (11, .int v11_j83)] → W p l e (Rm 1 21 0 0) s m [.ref (ad 0), .int v1, .int v2, .int v3, .int v4].toArray below meth c H locs 0 0 (Zi D (wM cy ad) A r σ aw ac below [.ref (ad 0), .int v1, .int v2, .int v3, .int v4].toArray s 0 0) (F0 m 83 ls [.int s0_j83]) := by
          intro v1_j83 v2_j83 v3_j83 v4_j83 v5_j83 v7_j83 v9_j83 v11_j83 s0_j83 H locs ls hf hP hD hS hl
          unfold fX10_isSteady_J83 at hf
          refine lv_istore (lv' := [(12, .int s0_j83), (0, .ref (ad 0)), (1, .int v1_j83), (2, .int v2_j83), (3, .int v3_j83), (4, .int v4_j83), (5, .long v5_j83), (7, .long v7_j83), (9, .long v9_j83), (11, .int v11_j83)]) hx hb dX10_isSteady_83 hl (by decide) rfl (fun ls hl => ?_)
          refine lv_iload hx hb dX10_isSteady_85 (lv_at hl 9 rfl) ?_
          refine lv_i2l (v := (v11_j83).toInt64) hx hb dX10_isSteady_87 rfl ?_
          refine lv_lload hx hb dX10_isSteady_88 (lv_at hl 6 rfl) ?_
          refine lv_lmul hx hb dX10_isSteady_90 ?_
          refine lv_lload hx hb dX10_isSteady_91 (lv_at hl 7 rfl) ?_
          refine W.lcmp hx hb dX10_isSteady_93 ?_
          refine lv_if_gt (tgt := 136) hx hb dX10_isSteady_94 (by decide) (fun c94 => ?_) (fun c94 => ?_)
          · have c94 := (lg_cmp_gt _ _).mp c94
            have hf := ifp c94 hf
            refine lv_iconst (v := (0 : Int32)) hx hb dX10_isSteady_136 (by decide) ?_
            exact u_iretr hx hb hr hlocks rfl hP hD hS dX10_isSteady_137 hf (fun _ => rfl)
          · have c94 := (not_congr (lg_cmp_gt _ _)).mp c94
            have hf := ifn c94 hf
            refine lv_lload hx hb dX10_isSteady_97 (lv_at hl 7 rfl) ?_
            refine lv_iload hx hb dX10_isSteady_99 (lv_at hl 0 rfl) ?_
            refine lv_i2l (v := (s0_j83).toInt64) hx hb dX10_isSteady_101 rfl ?_
            refine lv_lload hx hb dX10_isSteady_102 (lv_at hl 6 rfl) ?_
            refine lv_lmul hx hb dX10_isSteady_104 ?_
            refine W.lcmp hx hb dX10_isSteady_105 ?_
            refine lv_if_gt (tgt := 136) hx hb dX10_isSteady_106 (by decide) (fun c106 => ?_) (fun c106 => ?_)
            · have c106 := (lg_cmp_gt _ _).mp c106
              have hf := ifp c106 hf
              refine lv_iconst (v := (0 : Int32)) hx hb dX10_isSteady_136 (by decide) ?_
              exact u_iretr hx hb hr hlocks rfl hP hD hS dX10_isSteady_137 hf (fun _ => rfl)
            · have c106 := (not_congr (lg_cmp_gt _ _)).mp c106
              have hf := ifn c106 hf
              refine lv_lload hx hb dX10_isSteady_109 (lv_at hl 8 rfl) ?_
              refine lv_iload_n hx hb dX10_isSteady_111 rfl (lv_at hl 3 rfl) ?_
              refine lv_i2l (v := (v2_j83).toInt64) hx hb dX10_isSteady_112 rfl ?_
              refine lv_lload hx hb dX10_isSteady_113 (lv_at hl 6 rfl) ?_
              refine lv_lmul hx hb dX10_isSteady_115 ?_
              refine W.lcmp hx hb dX10_isSteady_116 ?_
              refine lv_if_ge (tgt := 136) hx hb dX10_isSteady_117 (by decide) (fun c117 => ?_) (fun c117 => ?_)
              · have c117 := (lg_cmp_ge _ _).mp c117
                have hf := ifp c117 hf
                refine lv_iconst (v := (0 : Int32)) hx hb dX10_isSteady_136 (by decide) ?_
                exact u_iretr hx hb hr hlocks rfl hP hD hS dX10_isSteady_137 hf (fun _ => rfl)
              · have c117 := (not_congr (lg_cmp_ge _ _)).mp c117
                have hf := ifn c117 hf
                refine lv_lload hx hb dX10_isSteady_120 (lv_at hl 8 rfl) ?_
                refine lv_iload hx hb dX10_isSteady_122 (lv_at hl 5 rfl) ?_
                refine lv_i2l (v := (v4_j83).toInt64) hx hb dX10_isSteady_124 rfl ?_
                refine lv_lload hx hb dX10_isSteady_125 (lv_at hl 6 rfl) ?_
                refine lv_lmul hx hb dX10_isSteady_127 ?_
                refine W.lcmp hx hb dX10_isSteady_128 ?_
                refine lv_if_ge (tgt := 136) hx hb dX10_isSteady_129 (by decide) (fun c129 => ?_) (fun c129 => ?_)
                · have c129 := (lg_cmp_ge _ _).mp c129
                  have hf := ifp c129 hf
                  refine lv_iconst (v := (0 : Int32)) hx hb dX10_isSteady_136 (by decide) ?_
                  exact u_iretr hx hb hr hlocks rfl hP hD hS dX10_isSteady_137 hf (fun _ => rfl)
                · have c129 := (not_congr (lg_cmp_ge _ _)).mp c129
                  have hf := ifn c129 hf
                  refine lv_iconst (v := (1 : Int32)) hx hb dX10_isSteady_132 (by decide) ?_
                  refine lv_goto (tgt := 137) hx hb dX10_isSteady_133 (by decide) ?_
                  exact u_iretr hx hb hr hlocks rfl hP hD hS dX10_isSteady_137 hf (fun _ => rfl)
        refine lv_iload_n hx hb dX10_isSteady_73 rfl (lv_at hl 2 rfl) ?_
        refine lv_iload_n hx hb dX10_isSteady_74 rfl (lv_at hl 4 rfl) ?_
        refine lv_icmp_ge (tgt := 82) hx hb dX10_isSteady_75 (by decide) (fun c75 => ?_) (fun c75 => ?_)
        · have hf := ifp c75 hf
          refine lv_iload_n hx hb dX10_isSteady_82 rfl (lv_at hl 2 rfl) ?_
          exact J83 v1_j71 v2_j71 v3_j71 v4_j71 v5_j71 v7_j71 v9_j71 s0_j71 v1_j71 H locs ls hf hP hD hS (lv_sub hl [1, 2, 3, 4, 5, 6, 7, 8, 0] rfl)
        · have hf := ifn c75 hf
          refine lv_iload_n hx hb dX10_isSteady_78 rfl (lv_at hl 4 rfl) ?_
          refine lv_goto (tgt := 83) hx hb dX10_isSteady_79 (by decide) ?_
          exact J83 v1_j71 v2_j71 v3_j71 v4_j71 v5_j71 v7_j71 v9_j71 s0_j71 v3_j71 H locs ls hf hP hD hS (lv_sub hl [1, 2, 3, 4, 5, 6, 7, 8, 0] rfl)
      refine lv_iload_n hx hb dX10_isSteady_61 rfl (lv_at hl 2 rfl) ?_
      refine lv_iload_n hx hb dX10_isSteady_62 rfl (lv_at hl 4 rfl) ?_
      refine lv_icmp_ge (tgt := 70) hx hb dX10_isSteady_63 (by decide) (fun c63 => ?_) (fun c63 => ?_)
      · have hf := ifp c63 hf
        refine lv_iload_n hx hb dX10_isSteady_70 rfl (lv_at hl 4 rfl) ?_
        exact J71 v1_j59 v2_j59 v3_j59 v4_j59 v5_j59 v7_j59 s0_j59 v3_j59 H locs ls hf hP hD hS (lv_sub hl [1, 2, 3, 4, 5, 6, 7, 0] rfl)
      · have hf := ifn c63 hf
        refine lv_iload_n hx hb dX10_isSteady_66 rfl (lv_at hl 2 rfl) ?_
        refine lv_goto (tgt := 71) hx hb dX10_isSteady_67 (by decide) ?_
        exact J71 v1_j59 v2_j59 v3_j59 v4_j59 v5_j59 v7_j59 s0_j59 v1_j59 H locs ls hf hP hD hS (lv_sub hl [1, 2, 3, 4, 5, 6, 7, 0] rfl)
    refine lv_aload_n hx hb dX10_isSteady_37 rfl (lv_at hl 1 rfl) ?_
    refine gM_m_twice S hK hP q994 dX10_isSteady_38 ?_
    refine lv_lconst (v := (0 : Int64)) hx hb dX10_isSteady_41 (by decide) ?_
    refine W.lcmp hx hb dX10_isSteady_42 ?_
    refine lv_if_ge (tgt := 55) hx hb dX10_isSteady_43 (by decide) (fun c43 => ?_) (fun c43 => ?_)
    · have c43 := (lg_cmp_ge _ _).mp c43
      have hf := ifp c43 hf
      refine lv_aload_n hx hb dX10_isSteady_55 rfl (lv_at hl 1 rfl) ?_
      refine gM_m_sumY S hK hP q993 dX10_isSteady_56 ?_
      exact J59 v1_j35 v2_j35 v3_j35 v4_j35 v5_j35 s0_j35 (gl σ 1) H locs ls hf hP hD hS (lv_sub hl [1, 2, 3, 4, 5, 6, 0] rfl)
    · have c43 := (not_congr (lg_cmp_ge _ _)).mp c43
      have hf := ifn c43 hf
      refine lv_lconst (v := (0 : Int64)) hx hb dX10_isSteady_46 (by decide) ?_
      refine lv_aload_n hx hb dX10_isSteady_47 rfl (lv_at hl 1 rfl) ?_
      refine gM_m_sumY S hK hP q993 dX10_isSteady_48 ?_
      refine lv_lsub hx hb dX10_isSteady_51 ?_
      refine lv_goto (tgt := 59) hx hb dX10_isSteady_52 (by decide) ?_
      exact J59 v1_j35 v2_j35 v3_j35 v4_j35 v5_j35 s0_j35 ((0 : Int64) - (gl σ 1)) H locs ls hf hP hD hS (lv_sub hl [1, 2, 3, 4, 5, 6, 0] rfl)
  refine lv_aload_n hx hb dX10_isSteady_13 rfl (lv_at hl 1 rfl) ?_
  refine gM_m_twice S hK hP q994 dX10_isSteady_14 ?_
  refine lv_lconst (v := (0 : Int64)) hx hb dX10_isSteady_17 (by decide) ?_
  refine W.lcmp hx hb dX10_isSteady_18 ?_
  refine lv_if_ge (tgt := 31) hx hb dX10_isSteady_19 (by decide) (fun c19 => ?_) (fun c19 => ?_)
  · have c19 := (lg_cmp_ge _ _).mp c19
    have hf := ifp c19 hf
    refine lv_aload_n hx hb dX10_isSteady_31 rfl (lv_at hl 1 rfl) ?_
    refine gM_m_sumX S hK hP q992 dX10_isSteady_32 ?_
    exact J35 v1 v2 v3 v4 ((3 : Int64) * r7) (gl σ 0) H locs ls hf hP hD hS (lv_sub hl [1, 2, 3, 4, 5, 0] rfl)
  · have c19 := (not_congr (lg_cmp_ge _ _)).mp c19
    have hf := ifn c19 hf
    refine lv_lconst (v := (0 : Int64)) hx hb dX10_isSteady_22 (by decide) ?_
    refine lv_aload_n hx hb dX10_isSteady_23 rfl (lv_at hl 1 rfl) ?_
    refine gM_m_sumX S hK hP q992 dX10_isSteady_24 ?_
    refine lv_lsub hx hb dX10_isSteady_27 ?_
    refine lv_goto (tgt := 35) hx hb dX10_isSteady_28 (by decide) ?_
    exact J35 v1 v2 v3 v4 ((3 : Int64) * r7) ((0 : Int64) - (gl σ 0)) H locs ls hf hP hD hS (lv_sub hl [1, 2, 3, 4, 5, 0] rfl)
theorem iX10_steady : YI yX10_steady cX10_steady 5 (some .int) 4 := ⟨q1440, q12, by decide, by decide, by decide +kernel⟩
theorem vX10_steady : YV yX10_steady := ⟨q1438, q1439⟩
set_option maxRecDepth 100000 in
set_option maxHeartbeats 4000000 in
theorem c_X10_steady (l : Launch) (D : va_G) (cy : Nat → ClassId) (ad : Nat → Nat) (σ : St) (v1 : Int32) (v2 : Int32) (v3 : Int32) (v4 : Int32) (q : Int32 × St) (hf : fX10_steady σ v1 v2 v3 v4 = some q) : Ci l D cy (wM cy ad) yX10_steady cX10_steady 5 .int 2 53 [.ref (ad 0), .int v1, .int v2, .int v3, .int v4] σ q.1 q.2 0 0 := by
  refine Ci.enter (by decide) (Nat.le_of_ble_eq_true rfl) ?_
  intro aw ac p e s m below meth c A H locs S hr hlocks hA hK hP hD hS ls hl
  have hx := S.1
  have hb := S.2.1
  have hl : lv_has ls 5 [(0, .ref (ad 0)), (1, .int v1), (2, .int v2), (3, .int v3), (4, .int v4)] := hl
  unfold fX10_steady at hf
  refine lv_iload_n hx hb dX10_steady_0 rfl (lv_at hl 1 rfl) ?_
  obtain ⟨r1, h1, hf⟩ := ob_some hf
  refine p_calli0 (u_runS (rest := []) S (c_X10_isAt l D cy σ v1 r1 h1 aw ac H.size) iX10_isAt q1403 q1402 ⟨Nat.le_of_ble_eq_true rfl, Nat.le_of_ble_eq_true rfl⟩ hK wN_P (wN_D (A := fun _ => True)) rfl hl.1 (Nat.le_of_ble_eq_true rfl) dX10_steady_1 ⟨Nat.le_refl _, Nat.le_refl _⟩) hP hS hA (fun H locs hP hS => ?_)
  refine lv_if_eq (tgt := 29) hx hb dX10_steady_4 (by decide) (fun c4 => ?_) (fun c4 => ?_)
  · have hf := ifp c4 hf
    refine lv_bipush (v := (-2 : Int32)) hx hb dX10_steady_29 (by decide) ?_
    exact u_iretw hx hb hr hlocks rfl hP hD hS dX10_steady_31 hf (fun _ => rfl)
  · have hf := ifn c4 hf
    refine lv_iload_n hx hb dX10_steady_7 rfl (lv_at hl 2 rfl) ?_
    obtain ⟨r8, h8, hf⟩ := ob_some hf
    refine p_calli0 (u_runS (rest := []) S (c_X10_isAt l D cy σ v2 r8 h8 aw ac H.size) iX10_isAt q1403 q1402 ⟨Nat.le_of_ble_eq_true rfl, Nat.le_of_ble_eq_true rfl⟩ hK wN_P (wN_D (A := fun _ => True)) rfl hl.1 (Nat.le_of_ble_eq_true rfl) dX10_steady_8 ⟨Nat.le_refl _, Nat.le_refl _⟩) hP hS hA (fun H locs hP hS => ?_)
    refine lv_if_eq (tgt := 29) hx hb dX10_steady_11 (by decide) (fun c11 => ?_) (fun c11 => ?_)
    · have hf := ifp c11 hf
      refine lv_bipush (v := (-2 : Int32)) hx hb dX10_steady_29 (by decide) ?_
      exact u_iretw hx hb hr hlocks rfl hP hD hS dX10_steady_31 hf (fun _ => rfl)
    · have hf := ifn c11 hf
      refine lv_iload_n hx hb dX10_steady_14 rfl (lv_at hl 3 rfl) ?_
      obtain ⟨r15, h15, hf⟩ := ob_some hf
      refine p_calli0 (u_runS (rest := []) S (c_X10_isAt l D cy σ v3 r15 h15 aw ac H.size) iX10_isAt q1403 q1402 ⟨Nat.le_of_ble_eq_true rfl, Nat.le_of_ble_eq_true rfl⟩ hK wN_P (wN_D (A := fun _ => True)) rfl hl.1 (Nat.le_of_ble_eq_true rfl) dX10_steady_15 ⟨Nat.le_refl _, Nat.le_refl _⟩) hP hS hA (fun H locs hP hS => ?_)
      refine lv_if_eq (tgt := 29) hx hb dX10_steady_18 (by decide) (fun c18 => ?_) (fun c18 => ?_)
      · have hf := ifp c18 hf
        refine lv_bipush (v := (-2 : Int32)) hx hb dX10_steady_29 (by decide) ?_
        exact u_iretw hx hb hr hlocks rfl hP hD hS dX10_steady_31 hf (fun _ => rfl)
      · have hf := ifn c18 hf
        refine lv_iload hx hb dX10_steady_21 (lv_at hl 4 rfl) ?_
        obtain ⟨r23, h23, hf⟩ := ob_some hf
        refine p_calli0 (u_runS (rest := []) S (c_X10_isAt l D cy σ v4 r23 h23 aw ac H.size) iX10_isAt q1403 q1402 ⟨Nat.le_of_ble_eq_true rfl, Nat.le_of_ble_eq_true rfl⟩ hK wN_P (wN_D (A := fun _ => True)) rfl hl.1 (Nat.le_of_ble_eq_true rfl) dX10_steady_23 ⟨Nat.le_refl _, Nat.le_refl _⟩) hP hS hA (fun H locs hP hS => ?_)
        refine lv_if_ne (tgt := 32) hx hb dX10_steady_26 (by decide) (fun c26 => ?_) (fun c26 => ?_)
        · have hf := ifn c26 hf
          refine lv_aload_n hx hb dX10_steady_32 rfl (lv_at hl 0 rfl) ?_
          obtain ⟨q33, h33, hf⟩ := ob_some hf
          refine u_calli0 (u_runV (rest := []) S (c_X10_findSums l D cy ad σ q33 h33 aw ac H.size) iX10_findSums vX10_findSums q1409 ⟨Nat.le_of_ble_eq_true rfl, Nat.le_of_ble_eq_true rfl⟩ hK hP hD (q0 := 0) rfl rfl rfl hl.1 (Nat.le_of_ble_eq_true rfl) dX10_steady_33 ⟨Nat.le_refl _, Nat.le_refl _⟩) hD hS hA (fun H locs hP hD hS => ?_)
          refine lv_if_eq (tgt := 54) hx hb dX10_steady_36 (by decide) (fun c36 => ?_) (fun c36 => ?_)
          · have hf := ifp c36 hf
            refine lv_bipush (v := (-3 : Int32)) hx hb dX10_steady_54 (by decide) ?_
            exact u_iretw hx hb hr hlocks rfl hP hD hS dX10_steady_56 hf (fun _ => rfl)
          · have hf := ifn c36 hf
            refine lv_aload_n hx hb dX10_steady_39 rfl (lv_at hl 0 rfl) ?_
            refine lv_iload_n hx hb dX10_steady_40 rfl (lv_at hl 1 rfl) ?_
            refine lv_iload_n hx hb dX10_steady_41 rfl (lv_at hl 2 rfl) ?_
            refine lv_iload_n hx hb dX10_steady_42 rfl (lv_at hl 3 rfl) ?_
            refine lv_iload hx hb dX10_steady_43 (lv_at hl 4 rfl) ?_
            obtain ⟨r45, h45, hf⟩ := ob_some hf
            refine u_calli0 (u_runV (rest := []) S (c_X10_isSteady l D cy ad q33.2 v1 v2 v3 v4 r45 h45 aw ac H.size) iX10_isSteady vX10_isSteady q1441 ⟨Nat.le_of_ble_eq_true rfl, Nat.le_of_ble_eq_true rfl⟩ hK hP hD (q0 := 0) rfl rfl rfl hl.1 (Nat.le_of_ble_eq_true rfl) dX10_steady_45 ⟨Nat.le_refl _, Nat.le_refl _⟩) hD hS hA (fun H locs hP hD hS => ?_)
            obtain ⟨r48, h48, hf⟩ := ob_some hf
            refine p_calli0 (u_runS (rest := []) S (c_X10_bit l D cy q33.2 r45 r48 h48 aw ac H.size) iX10_bit q1237 q1236 ⟨Nat.le_of_ble_eq_true rfl, Nat.le_of_ble_eq_true rfl⟩ hK wN_P (wN_D (A := fun _ => True)) rfl hl.1 (Nat.le_of_ble_eq_true rfl) dX10_steady_48 ⟨Nat.le_refl _, Nat.le_refl _⟩) hP hS hA (fun H locs hP hS => ?_)
            refine lv_goto (tgt := 56) hx hb dX10_steady_51 (by decide) ?_
            exact u_iretw hx hb hr hlocks rfl hP hD hS dX10_steady_56 hf (fun _ => rfl)
        · have hf := ifp c26 hf
          refine lv_bipush (v := (-2 : Int32)) hx hb dX10_steady_29 (by decide) ?_
          exact u_iretw hx hb hr hlocks rfl hP hD hS dX10_steady_31 hf (fun _ => rfl)
theorem iX10_holes : YI yX10_holes cX10_holes 8 (some .int) 0 := ⟨q1448, q12, by decide, by decide, by decide +kernel⟩
theorem vX10_holes : YV yX10_holes := ⟨q1446, q1447⟩
set_option maxRecDepth 100000 in
set_option maxHeartbeats 4000000 in
theorem c_X10_holes (l : Launch) (D : va_G) (cy : Nat → ClassId) (ad : Nat → Nat) (σ : St) (q : Int32 × St) (hf : fX10_holes σ = some q) : Ci l D cy (wM cy ad) yX10_holes cX10_holes 8 .int 2 53 [.ref (ad 0)] σ q.1 q.2 0 0 := by
  refine Ci.enter (by decide) (Nat.le_of_ble_eq_true rfl) ?_
  intro aw ac p e s m below meth c A H locs S hr hlocks hA hK hP hD hS ls hl
  have hx := S.1
  have hb := S.2.1
  have hl : lv_has ls 8 [(0, .ref (ad 0))] := hl
  unfold fX10_holes at hf
  refine lv_aload_n hx hb dX10_holes_0 rfl (lv_at hl 0 rfl) ?_
  obtain ⟨q1, h1, hf⟩ := ob_some hf
  refine u_calli0 (u_runV (rest := []) S (c_X10_findSums l D cy ad σ q1 h1 aw ac H.size) iX10_findSums vX10_findSums q1409 ⟨Nat.le_of_ble_eq_true rfl, Nat.le_of_ble_eq_true rfl⟩ hK hP hD (q0 := 0) rfl rfl rfl hl.1 (Nat.le_of_ble_eq_true rfl) dX10_holes_1 ⟨Nat.le_refl _, Nat.le_refl _⟩) hD hS hA (fun H locs hP hD hS => ?_)
  refine lv_if_ne (tgt := 10) hx hb dX10_holes_4 (by decide) (fun c4 => ?_) (fun c4 => ?_)
  · have hf := ifn c4 hf
    refine lv_iconst (v := (-1 : Int32)) hx hb dX10_holes_10 (by decide) ?_
    refine lv_istore_n (lv' := [(1, .int (-1 : Int32)), (0, .ref (ad 0))]) hx hb dX10_holes_11 rfl hl (by decide) rfl (fun ls hl => ?_)
    refine lv_lconst (v := (0 : Int64)) hx hb dX10_holes_12 (by decide) ?_
    refine lv_lstore_n (lv' := [(2, .long (0 : Int64)), (1, .int (-1 : Int32)), (0, .ref (ad 0))]) hx hb dX10_holes_13 rfl hl (by decide) rfl (fun ls hl => ?_)
    refine lv_iconst (v := (0 : Int32)) hx hb dX10_holes_14 (by decide) ?_
    refine lv_istore (lv' := [(4, .int (0 : Int32)), (2, .long (0 : Int64)), (1, .int (-1 : Int32)), (0, .ref (ad 0))]) hx hb dX10_holes_15 hl (by decide) rfl (fun ls hl => ?_)
    have L17 : ∀ (n17 : Nat) (v1_17 : Int32) (v2_17 : Int64) (v4_17 : Int32) (σ17 : St) (H : Heap) (locs : List Loc) (ls : Array Slot), fX10_holes_17 (fX10_holes_17_k σ17) σ17 n17 v1_17 v2_17 v4_17 = some q → va_P D vwCl (wM cy ad aw ac σ17) H → va_D A (wM cy ad aw ac σ17) → va_S A s.heap H locs → lv_has ls 8 [(0, .ref (ad 0)), (1, .int v1_17), (2, .long v2_17), (4, .int v4_17)] → W p l e (Rm 2 53 0 0) s m [.ref (ad 0)].toArray below meth c H locs 0 0 (Zi D (wM cy ad) A q.1 q.2 aw ac below [.ref (ad 0)].toArray s 0 0) (F0 m 17 ls []) := by
      intro n17
      induction n17 with
      | zero =>
        intro v1_17 v2_17 v4_17 σ17 H locs ls hf
        cases hf
      | succ n17 ih17 =>
        intro v1_17 v2_17 v4_17 σ17 H locs ls hf hP hD hS hl
        rw [fX10_holes_17] at hf
        refine lv_iload hx hb dX10_holes_17 (lv_at hl 3 rfl) ?_
        refine lv_aload_n hx hb dX10_holes_19 rfl (lv_at hl 0 rfl) ?_
        refine gM_m_corners S hK hP q989 dX10_holes_20 ?_
        refine lv_icmp_ge (tgt := 150) hx hb dX10_holes_23 (by decide) (fun c23 => ?_) (fun c23 => ?_)
        · have hf := ifp c23 hf
          have hl := lv_sub (l' := [(0, .ref (ad 0)), (1, .int v1_17), (2, .long v2_17), (4, .int v4_17)]) hl [0, 1, 2, 3] rfl
          unfold fX10_holes_17_k at hf
          refine lv_iload_n hx hb dX10_holes_150 rfl (lv_at hl 1 rfl) ?_
          exact u_iretw hx hb hr hlocks rfl hP hD hS dX10_holes_151 hf (fun _ => rfl)
        · have hf := ifn c23 hf
          refine lv_iload hx hb dX10_holes_26 (lv_at hl 3 rfl) ?_
          refine lv_iconst (v := (1 : Int32)) hx hb dX10_holes_28 (by decide) ?_
          refine lv_iadd hx hb dX10_holes_29 ?_
          refine lv_istore (lv' := [(5, .int (v4_17 + (1 : Int32))), (0, .ref (ad 0)), (1, .int v1_17), (2, .long v2_17), (4, .int v4_17)]) hx hb dX10_holes_30 hl (by decide) rfl (fun ls hl => ?_)
          have L32 : ∀ (n32 : Nat) (v1_32 : Int32) (v2_32 : Int64) (v5_32 : Int32) (H : Heap) (locs : List Loc) (ls : Array Slot), fX10_holes_32 (fun v1_17' v2_17' v4_17' => fX10_holes_17 (fX10_holes_17_k σ17) σ17 n17 v1_17' v2_17' v4_17') (fX10_holes_32_k (fun v1_17' v2_17' v4_17' => fX10_holes_17 (fX10_holes_17_k σ17) σ17 n17 v1_17' v2_17' v4_17') σ17 v4_17) σ17 v4_17 n32 v1_32 v2_32 v5_32 = some q → va_P D vwCl (wM cy ad aw ac σ17) H → va_D A (wM cy ad aw ac σ17) → va_S A s.heap H locs → lv_has ls 8 [(0, .ref (ad 0)), (1, .int v1_32), (2, .long v2_32), (4, .int v4_17), (5, .int v5_32)] → W p l e (Rm 2 53 0 0) s m [.ref (ad 0)].toArray below meth c H locs 0 0 (Zi D (wM cy ad) A q.1 q.2 aw ac below [.ref (ad 0)].toArray s 0 0) (F0 m 32 ls []) := by
            intro n32
            induction n32 with
            | zero =>
              intro v1_32 v2_32 v5_32 H locs ls hf
              cases hf
            | succ n32 ih32 =>
              intro v1_32 v2_32 v5_32 H locs ls hf hP hD hS hl
              rw [fX10_holes_32] at hf
              refine lv_iload hx hb dX10_holes_32 (lv_at hl 4 rfl) ?_
              refine lv_aload_n hx hb dX10_holes_34 rfl (lv_at hl 0 rfl) ?_
              refine gM_m_corners S hK hP q989 dX10_holes_35 ?_
              refine lv_icmp_ge (tgt := 144) hx hb dX10_holes_38 (by decide) (fun c38 => ?_) (fun c38 => ?_)
              · have hf := ifp c38 hf
                have hl := lv_sub (l' := [(0, .ref (ad 0)), (1, .int v1_32), (2, .long v2_32), (4, .int v4_17), (5, .int v5_32)]) hl [0, 1, 2, 3, 4] rfl
                unfold fX10_holes_32_k at hf
                refine lv_iinc (v := (v4_17 + (1 : Int32))) (lv' := [(4, .int (v4_17 + (1 : Int32))), (0, .ref (ad 0)), (1, .int v1_32), (2, .long v2_32), (5, .int v5_32)]) hx hb dX10_holes_144 hl (k := 3) rfl rfl (by decide) rfl (fun ls hl => ?_)
                refine lv_goto (tgt := 17) hx hb dX10_holes_147 (by decide) ?_
                exact ih17 v1_32 v2_32 (v4_17 + (1 : Int32)) σ17 H locs ls hf hP hD hS (lv_sub hl [1, 2, 3, 0] rfl)
              · have hf := ifn c38 hf
                refine lv_ldc2 hx hb S.2.2.2.1 (S.2.2.2.2 _ (List.mem_cons_of_mem _ q1389)) dX10_holes_41 ?_
                refine lv_aload_n hx hb dX10_holes_44 rfl (lv_at hl 0 rfl) ?_
                refine gM_m_sumX S hK hP q992 dX10_holes_45 ?_
                refine lv_lmul hx hb dX10_holes_48 ?_
                refine lv_ldc2 hx hb S.2.2.2.1 (S.2.2.2.2 _ (List.mem_cons_of_mem _ q1417)) dX10_holes_49 ?_
                refine lv_aload_n hx hb dX10_holes_52 rfl (lv_at hl 0 rfl) ?_
                refine gM_m_twice S hK hP q994 dX10_holes_53 ?_
                refine lv_lmul hx hb dX10_holes_56 ?_
                refine lv_aload_n hx hb dX10_holes_57 rfl (lv_at hl 0 rfl) ?_
                refine gM_m_cornerX S hK hP q990 dX10_holes_58 ?_
                refine lv_iload hx hb dX10_holes_61 (lv_at hl 3 rfl) ?_
                obtain ⟨h63, hf⟩ := if_in hf
                refine lM_25 S hK hP h63 dX10_holes_63 ?_
                refine lv_aload_n hx hb dX10_holes_64 rfl (lv_at hl 0 rfl) ?_
                refine gM_m_cornerX S hK hP q990 dX10_holes_65 ?_
                refine lv_iload hx hb dX10_holes_68 (lv_at hl 4 rfl) ?_
                obtain ⟨h70, hf⟩ := if_in hf
                refine lM_25 S hK hP h70 dX10_holes_70 ?_
                refine lv_iadd hx hb dX10_holes_71 ?_
                refine lv_i2l (v := (((ga σ17 25 v4_17.toNatClampNeg) + (ga σ17 25 v5_32.toNatClampNeg))).toInt64) hx hb dX10_holes_72 rfl ?_
                refine lv_lmul hx hb dX10_holes_73 ?_
                refine lv_lsub hx hb dX10_holes_74 ?_
                obtain ⟨r75, h75, hf⟩ := ob_some hf
                refine p_calll0 (u_runS (rest := []) S (c_X10_size l D cy σ17 (((2 : Int64) * (gl σ17 0)) - (((3 : Int64) * (gl σ17 2)) * ((((ga σ17 25 v4_17.toNatClampNeg) + (ga σ17 25 v5_32.toNatClampNeg))).toInt64))) r75 h75 aw ac H.size) iX10_size q1425 q1424 ⟨Nat.le_of_ble_eq_true rfl, Nat.le_of_ble_eq_true rfl⟩ hK wN_P (wN_D (A := fun _ => True)) rfl hl.1 (Nat.le_of_ble_eq_true rfl) dX10_holes_75 ⟨Nat.le_refl _, Nat.le_refl _⟩) hP hS hA (fun H locs hP hS => ?_)
                refine lv_lstore (lv' := [(6, .long r75), (0, .ref (ad 0)), (1, .int v1_32), (2, .long v2_32), (4, .int v4_17), (5, .int v5_32)]) hx hb dX10_holes_78 hl (by decide) rfl (fun ls hl => ?_)
                refine lv_aload_n hx hb dX10_holes_80 rfl (lv_at hl 1 rfl) ?_
                refine lv_aload_n hx hb dX10_holes_81 rfl (lv_at hl 1 rfl) ?_
                refine gM_m_cornerX S hK hP q990 dX10_holes_82 ?_
                refine lv_iload hx hb dX10_holes_85 (lv_at hl 4 rfl) ?_
                obtain ⟨h87, hf⟩ := if_in hf
                refine lM_25 S hK hP h87 dX10_holes_87 ?_
                refine lv_aload_n hx hb dX10_holes_88 rfl (lv_at hl 1 rfl) ?_
                refine gM_m_cornerY S hK hP q991 dX10_holes_89 ?_
                refine lv_iload hx hb dX10_holes_92 (lv_at hl 4 rfl) ?_
                obtain ⟨h94, hf⟩ := if_in hf
                refine lM_26 S hK hP h94 dX10_holes_94 ?_
                refine lv_aload_n hx hb dX10_holes_95 rfl (lv_at hl 1 rfl) ?_
                refine gM_m_cornerX S hK hP q990 dX10_holes_96 ?_
                refine lv_iload hx hb dX10_holes_99 (lv_at hl 5 rfl) ?_
                obtain ⟨h101, hf⟩ := if_in hf
                refine lM_25 S hK hP h101 dX10_holes_101 ?_
                refine lv_aload_n hx hb dX10_holes_102 rfl (lv_at hl 1 rfl) ?_
                refine gM_m_cornerY S hK hP q991 dX10_holes_103 ?_
                refine lv_iload hx hb dX10_holes_106 (lv_at hl 5 rfl) ?_
                obtain ⟨h108, hf⟩ := if_in hf
                refine lM_26 S hK hP h108 dX10_holes_108 ?_
                obtain ⟨r109, h109, hf⟩ := ob_some hf
                refine u_calli0 (u_runV (rest := []) S (c_X10_isSteady l D cy ad σ17 (ga σ17 25 v4_17.toNatClampNeg) (ga σ17 26 v4_17.toNatClampNeg) (ga σ17 25 v5_32.toNatClampNeg) (ga σ17 26 v5_32.toNatClampNeg) r109 h109 aw ac H.size) iX10_isSteady vX10_isSteady q1441 ⟨Nat.le_of_ble_eq_true rfl, Nat.le_of_ble_eq_true rfl⟩ hK hP hD (q0 := 0) rfl rfl rfl hl.1 (Nat.le_of_ble_eq_true rfl) dX10_holes_109 ⟨Nat.le_refl _, Nat.le_refl _⟩) hD hS hA (fun H locs hP hD hS => ?_)
                refine lv_if_eq (tgt := 138) hx hb dX10_holes_112 (by decide) (fun c112 => ?_) (fun c112 => ?_)
                · have hf := ifp c112 hf
                  refine lv_iinc (v := (v5_32 + (1 : Int32))) (lv' := [(5, .int (v5_32 + (1 : Int32))), (6, .long r75), (0, .ref (ad 0)), (1, .int v1_32), (2, .long v2_32), (4, .int v4_17)]) hx hb dX10_holes_138 hl (k := 5) rfl rfl (by decide) rfl (fun ls hl => ?_)
                  refine lv_goto (tgt := 32) hx hb dX10_holes_141 (by decide) ?_
                  exact ih32 v1_32 v2_32 (v5_32 + (1 : Int32)) H locs ls hf hP hD hS (lv_sub hl [2, 3, 4, 5, 0] rfl)
                · have hf := ifn c112 hf
                  refine lv_iload_n hx hb dX10_holes_115 rfl (lv_at hl 2 rfl) ?_
                  refine lv_if_lt (tgt := 126) hx hb dX10_holes_116 (by decide) (fun c116 => ?_) (fun c116 => ?_)
                  · have hf := ifp c116 hf
                    refine lv_bipush (v := (10 : Int32)) hx hb dX10_holes_126 (by decide) ?_
                    refine lv_iload hx hb dX10_holes_128 (lv_at hl 4 rfl) ?_
                    refine lv_imul hx hb dX10_holes_130 ?_
                    refine lv_iload hx hb dX10_holes_131 (lv_at hl 5 rfl) ?_
                    refine lv_iadd hx hb dX10_holes_133 ?_
                    refine lv_istore_n (lv' := [(1, .int (((10 : Int32) * v4_17) + v5_32)), (6, .long r75), (0, .ref (ad 0)), (2, .long v2_32), (4, .int v4_17), (5, .int v5_32)]) hx hb dX10_holes_134 rfl hl (by decide) rfl (fun ls hl => ?_)
                    refine lv_lload hx hb dX10_holes_135 (lv_at hl 1 rfl) ?_
                    refine lv_lstore_n (lv' := [(2, .long r75), (1, .int (((10 : Int32) * v4_17) + v5_32)), (6, .long r75), (0, .ref (ad 0)), (4, .int v4_17), (5, .int v5_32)]) hx hb dX10_holes_137 rfl hl (by decide) rfl (fun ls hl => ?_)
                    refine lv_iinc (v := (v5_32 + (1 : Int32))) (lv' := [(5, .int (v5_32 + (1 : Int32))), (2, .long r75), (1, .int (((10 : Int32) * v4_17) + v5_32)), (6, .long r75), (0, .ref (ad 0)), (4, .int v4_17)]) hx hb dX10_holes_138 hl (k := 5) rfl rfl (by decide) rfl (fun ls hl => ?_)
                    refine lv_goto (tgt := 32) hx hb dX10_holes_141 (by decide) ?_
                    exact ih32 (((10 : Int32) * v4_17) + v5_32) r75 (v5_32 + (1 : Int32)) H locs ls hf hP hD hS (lv_sub hl [4, 2, 1, 5, 0] rfl)
                  · have hf := ifn c116 hf
                    refine lv_lload hx hb dX10_holes_119 (lv_at hl 0 rfl) ?_
                    refine lv_lload_n hx hb dX10_holes_121 rfl (lv_at hl 3 rfl) ?_
                    refine W.lcmp hx hb dX10_holes_122 ?_
                    refine lv_if_ge (tgt := 138) hx hb dX10_holes_123 (by decide) (fun c123 => ?_) (fun c123 => ?_)
                    · have c123 := (lg_cmp_ge _ _).mp c123
                      have hf := ifp c123 hf
                      refine lv_iinc (v := (v5_32 + (1 : Int32))) (lv' := [(5, .int (v5_32 + (1 : Int32))), (6, .long r75), (0, .ref (ad 0)), (1, .int v1_32), (2, .long v2_32), (4, .int v4_17)]) hx hb dX10_holes_138 hl (k := 5) rfl rfl (by decide) rfl (fun ls hl => ?_)
                      refine lv_goto (tgt := 32) hx hb dX10_holes_141 (by decide) ?_
                      exact ih32 v1_32 v2_32 (v5_32 + (1 : Int32)) H locs ls hf hP hD hS (lv_sub hl [2, 3, 4, 5, 0] rfl)
                    · have c123 := (not_congr (lg_cmp_ge _ _)).mp c123
                      have hf := ifn c123 hf
                      refine lv_bipush (v := (10 : Int32)) hx hb dX10_holes_126 (by decide) ?_
                      refine lv_iload hx hb dX10_holes_128 (lv_at hl 4 rfl) ?_
                      refine lv_imul hx hb dX10_holes_130 ?_
                      refine lv_iload hx hb dX10_holes_131 (lv_at hl 5 rfl) ?_
                      refine lv_iadd hx hb dX10_holes_133 ?_
                      refine lv_istore_n (lv' := [(1, .int (((10 : Int32) * v4_17) + v5_32)), (6, .long r75), (0, .ref (ad 0)), (2, .long v2_32), (4, .int v4_17), (5, .int v5_32)]) hx hb dX10_holes_134 rfl hl (by decide) rfl (fun ls hl => ?_)
                      refine lv_lload hx hb dX10_holes_135 (lv_at hl 1 rfl) ?_
                      refine lv_lstore_n (lv' := [(2, .long r75), (1, .int (((10 : Int32) * v4_17) + v5_32)), (6, .long r75), (0, .ref (ad 0)), (4, .int v4_17), (5, .int v5_32)]) hx hb dX10_holes_137 rfl hl (by decide) rfl (fun ls hl => ?_)
                      refine lv_iinc (v := (v5_32 + (1 : Int32))) (lv' := [(5, .int (v5_32 + (1 : Int32))), (2, .long r75), (1, .int (((10 : Int32) * v4_17) + v5_32)), (6, .long r75), (0, .ref (ad 0)), (4, .int v4_17)]) hx hb dX10_holes_138 hl (k := 5) rfl rfl (by decide) rfl (fun ls hl => ?_)
                      refine lv_goto (tgt := 32) hx hb dX10_holes_141 (by decide) ?_
                      exact ih32 (((10 : Int32) * v4_17) + v5_32) r75 (v5_32 + (1 : Int32)) H locs ls hf hP hD hS (lv_sub hl [4, 2, 1, 5, 0] rfl)
          exact L32 KF v1_17 v2_17 (v4_17 + (1 : Int32)) H locs ls hf hP hD hS (lv_sub hl [1, 2, 3, 4, 0] rfl)
    exact L17 KF (-1 : Int32) (0 : Int64) (0 : Int32) q1.2 H locs ls hf hP hD hS (lv_sub hl [3, 2, 1, 0] rfl)
  · have hf := ifp c4 hf
    refine lv_bipush (v := (-3 : Int32)) hx hb dX10_holes_7 (by decide) ?_
    exact u_iretw hx hb hr hlocks rfl hP hD hS dX10_holes_9 hf (fun _ => rfl)
theorem iX10_frosts : YI yX10_frosts cX10_frosts 3 (some .int) 0 := ⟨q1456, q12, by decide, by decide, by decide +kernel⟩
theorem vX10_frosts : YV yX10_frosts := ⟨q1455, qs56⟩
set_option maxRecDepth 100000 in
set_option maxHeartbeats 4000000 in
theorem c_X10_frosts (l : Launch) (D : va_G) (cy : Nat → ClassId) (ad : Nat → Nat) (σ : St) (r : Int32) (hf : fX10_frosts σ = some r) : Ci l D cy (wM cy ad) yX10_frosts cX10_frosts 3 .int 1 20 [.ref (ad 0)] σ r σ 0 0 := by
  refine Ci.enter (by decide) (Nat.le_of_ble_eq_true rfl) ?_
  intro aw ac p e s m below meth c A H locs S hr hlocks hA hK hP hD hS ls hl
  have hx := S.1
  have hb := S.2.1
  have hl : lv_has ls 3 [(0, .ref (ad 0))] := hl
  unfold fX10_frosts at hf
  refine lv_iconst (v := (0 : Int32)) hx hb dX10_frosts_0 (by decide) ?_
  refine lv_istore_n (lv' := [(1, .int (0 : Int32)), (0, .ref (ad 0))]) hx hb dX10_frosts_1 rfl hl (by decide) rfl (fun ls hl => ?_)
  refine lv_iconst (v := (0 : Int32)) hx hb dX10_frosts_2 (by decide) ?_
  refine lv_istore_n (lv' := [(2, .int (0 : Int32)), (1, .int (0 : Int32)), (0, .ref (ad 0))]) hx hb dX10_frosts_3 rfl hl (by decide) rfl (fun ls hl => ?_)
  have L4 : ∀ (n4 : Nat) (v1_4 : Int32) (v2_4 : Int32) (H : Heap) (locs : List Loc) (ls : Array Slot), fX10_frosts_4 (fX10_frosts_4_k σ) σ n4 v1_4 v2_4 = some r → va_P D vwCl (wM cy ad aw ac σ) H → va_D A (wM cy ad aw ac σ) → va_S A s.heap H locs → lv_has ls 3 [(0, .ref (ad 0)), (1, .int v1_4), (2, .int v2_4)] → W p l e (Rm 1 20 0 0) s m [.ref (ad 0)].toArray below meth c H locs 0 0 (Zi D (wM cy ad) A r σ aw ac below [.ref (ad 0)].toArray s 0 0) (F0 m 4 ls []) := by
    intro n4
    induction n4 with
    | zero =>
      intro v1_4 v2_4 H locs ls hf
      cases hf
    | succ n4 ih4 =>
      intro v1_4 v2_4 H locs ls hf hP hD hS hl
      rw [fX10_frosts_4] at hf
      refine lv_iload_n hx hb dX10_frosts_4 rfl (lv_at hl 2 rfl) ?_
      refine lv_bipush (v := (80 : Int32)) hx hb dX10_frosts_5 (by decide) ?_
      refine lv_icmp_ge (tgt := 28) hx hb dX10_frosts_7 (by decide) (fun c7 => ?_) (fun c7 => ?_)
      · have hf := ifp c7 hf
        have hl := lv_sub (l' := [(0, .ref (ad 0)), (1, .int v1_4), (2, .int v2_4)]) hl [0, 1, 2] rfl
        unfold fX10_frosts_4_k at hf
        refine lv_iload_n hx hb dX10_frosts_28 rfl (lv_at hl 1 rfl) ?_
        exact u_iretr hx hb hr hlocks rfl hP hD hS dX10_frosts_29 hf (fun _ => rfl)
      · have hf := ifn c7 hf
        refine lv_iload_n hx hb dX10_frosts_10 rfl (lv_at hl 1 rfl) ?_
        refine lv_aload_n hx hb dX10_frosts_11 rfl (lv_at hl 0 rfl) ?_
        refine gM_m_isFrost S hK hP q982 dX10_frosts_12 ?_
        refine lv_iload_n hx hb dX10_frosts_15 rfl (lv_at hl 2 rfl) ?_
        obtain ⟨h16, hf⟩ := if_in hf
        refine lM_21 S hK hP h16 dX10_frosts_16 ?_
        obtain ⟨r17, h17, hf⟩ := ob_some hf
        refine p_calli0 (u_runS (rest := [.int v1_4]) S (c_X10_bit l D cy σ (ga σ 21 v2_4.toNatClampNeg) r17 h17 aw ac H.size) iX10_bit q1237 q1236 ⟨Nat.le_of_ble_eq_true rfl, Nat.le_of_ble_eq_true rfl⟩ hK wN_P (wN_D (A := fun _ => True)) rfl hl.1 (Nat.le_of_ble_eq_true rfl) dX10_frosts_17 ⟨Nat.le_refl _, Nat.le_refl _⟩) hP hS hA (fun H locs hP hS => ?_)
        refine lv_iadd hx hb dX10_frosts_20 ?_
        refine lv_istore_n (lv' := [(1, .int (v1_4 + r17)), (0, .ref (ad 0)), (2, .int v2_4)]) hx hb dX10_frosts_21 rfl hl (by decide) rfl (fun ls hl => ?_)
        refine lv_iinc (v := (v2_4 + (1 : Int32))) (lv' := [(2, .int (v2_4 + (1 : Int32))), (1, .int (v1_4 + r17)), (0, .ref (ad 0))]) hx hb dX10_frosts_22 hl (k := 2) rfl rfl (by decide) rfl (fun ls hl => ?_)
        refine lv_goto (tgt := 4) hx hb dX10_frosts_25 (by decide) ?_
        exact ih4 (v1_4 + r17) (v2_4 + (1 : Int32)) H locs ls hf hP hD hS (lv_sub hl [2, 1, 0] rfl)
  exact L4 KF (0 : Int32) (0 : Int32) H locs ls hf hP hD hS (lv_sub hl [2, 1, 0] rfl)
theorem iX10_count : YI yX10_count cX10_count 2 (some .int) 1 := ⟨q1452, q12, by decide, by decide, by decide +kernel⟩
theorem vX10_count : YV yX10_count := ⟨q1450, q1451⟩
set_option maxRecDepth 100000 in
set_option maxHeartbeats 4000000 in
theorem c_X10_count (l : Launch) (D : va_G) (cy : Nat → ClassId) (ad : Nat → Nat) (σ : St) (v1 : Int32) (r : Int32) (hf : fX10_count σ v1 = some r) : Ci l D cy (wM cy ad) yX10_count cX10_count 2 .int 2 42 [.ref (ad 0), .int v1] σ r σ 0 0 := by
  refine Ci.enter (by decide) (Nat.le_of_ble_eq_true rfl) ?_
  intro aw ac p e s m below meth c A H locs S hr hlocks hA hK hP hD hS ls hl
  have hx := S.1
  have hb := S.2.1
  have hl : lv_has ls 2 [(0, .ref (ad 0)), (1, .int v1)] := hl
  unfold fX10_count at hf
  refine lv_iload_n hx hb dX10_count_0 rfl (lv_at hl 1 rfl) ?_
  by_cases c1_0 : v1 = (0 : Int32)
  · have hf := ifp c1_0 hf
    refine lv_tableIn (off := 51) (tgt := 52) hx hb dX10_count_1 (by rw [c1_0]; decide) (by rw [c1_0]; decide) (by rw [c1_0]; decide) (by decide) ?_
    refine lv_aload_n hx hb dX10_count_52 rfl (lv_at hl 0 rfl) ?_
    refine gM_m_men S hK hP q951 dX10_count_53 ?_
    exact u_iretr hx hb hr hlocks rfl hP hD hS dX10_count_56 hf (fun _ => rfl)
  · have hf := ifn c1_0 hf
    by_cases c1_1 : v1 = (1 : Int32)
    · have hf := ifp c1_1 hf
      refine lv_tableIn (off := 56) (tgt := 57) hx hb dX10_count_1 (by rw [c1_1]; decide) (by rw [c1_1]; decide) (by rw [c1_1]; decide) (by decide) ?_
      refine lv_aload_n hx hb dX10_count_57 rfl (lv_at hl 0 rfl) ?_
      refine gM_m_ropes S hK hP q954 dX10_count_58 ?_
      exact u_iretr hx hb hr hlocks rfl hP hD hS dX10_count_61 hf (fun _ => rfl)
    · have hf := ifn c1_1 hf
      by_cases c1_2 : v1 = (2 : Int32)
      · have hf := ifp c1_2 hf
        refine lv_tableIn (off := 61) (tgt := 62) hx hb dX10_count_1 (by rw [c1_2]; decide) (by rw [c1_2]; decide) (by rw [c1_2]; decide) (by decide) ?_
        refine lv_aload_n hx hb dX10_count_62 rfl (lv_at hl 0 rfl) ?_
        refine gM_m_loads S hK hP q959 dX10_count_63 ?_
        exact u_iretr hx hb hr hlocks rfl hP hD hS dX10_count_66 hf (fun _ => rfl)
      · have hf := ifn c1_2 hf
        by_cases c1_3 : v1 = (3 : Int32)
        · have hf := ifp c1_3 hf
          refine lv_tableIn (off := 66) (tgt := 67) hx hb dX10_count_1 (by rw [c1_3]; decide) (by rw [c1_3]; decide) (by rw [c1_3]; decide) (by decide) ?_
          refine lv_aload_n hx hb dX10_count_67 rfl (lv_at hl 0 rfl) ?_
          refine gM_m_stones S hK hP q961 dX10_count_68 ?_
          exact u_iretr hx hb hr hlocks rfl hP hD hS dX10_count_71 hf (fun _ => rfl)
        · have hf := ifn c1_3 hf
          by_cases c1_4 : v1 = (4 : Int32)
          · have hf := ifp c1_4 hf
            refine lv_tableIn (off := 71) (tgt := 72) hx hb dX10_count_1 (by rw [c1_4]; decide) (by rw [c1_4]; decide) (by rw [c1_4]; decide) (by decide) ?_
            refine lv_aload_n hx hb dX10_count_72 rfl (lv_at hl 0 rfl) ?_
            refine gM_m_stands S hK hP q968 dX10_count_73 ?_
            exact u_iretr hx hb hr hlocks rfl hP hD hS dX10_count_76 hf (fun _ => rfl)
          · have hf := ifn c1_4 hf
            by_cases c1_5 : v1 = (5 : Int32)
            · have hf := ifp c1_5 hf
              refine lv_tableIn (off := 76) (tgt := 77) hx hb dX10_count_1 (by rw [c1_5]; decide) (by rw [c1_5]; decide) (by rw [c1_5]; decide) (by decide) ?_
              refine lv_aload_n hx hb dX10_count_77 rfl (lv_at hl 0 rfl) ?_
              refine gM_m_corners S hK hP q989 dX10_count_78 ?_
              exact u_iretr hx hb hr hlocks rfl hP hD hS dX10_count_81 hf (fun _ => rfl)
            · have hf := ifn c1_5 hf
              by_cases c1_6 : v1 = (6 : Int32)
              · have hf := ifp c1_6 hf
                refine lv_tableIn (off := 81) (tgt := 82) hx hb dX10_count_1 (by rw [c1_6]; decide) (by rw [c1_6]; decide) (by rw [c1_6]; decide) (by decide) ?_
                refine lv_aload_n hx hb dX10_count_82 rfl (lv_at hl 0 rfl) ?_
                obtain ⟨r83, h83, hf⟩ := ob_some hf
                refine u_calli0 (u_runV (rest := []) S (c_X10_frosts l D cy ad σ r83 h83 aw ac H.size) iX10_frosts vX10_frosts q1453 ⟨Nat.le_of_ble_eq_true rfl, Nat.le_of_ble_eq_true rfl⟩ hK hP hD (q0 := 0) rfl rfl rfl hl.1 (Nat.le_of_ble_eq_true rfl) dX10_count_83 ⟨Nat.le_refl _, Nat.le_refl _⟩) hD hS hA (fun H locs hP hD hS => ?_)
                exact u_iretr hx hb hr hlocks rfl hP hD hS dX10_count_86 hf (fun _ => rfl)
              · have hf := ifn c1_6 hf
                by_cases c1_7 : v1 = (7 : Int32)
                · have hf := ifp c1_7 hf
                  refine lv_tableIn (off := 86) (tgt := 87) hx hb dX10_count_1 (by rw [c1_7]; decide) (by rw [c1_7]; decide) (by rw [c1_7]; decide) (by decide) ?_
                  refine lv_aload_n hx hb dX10_count_87 rfl (lv_at hl 0 rfl) ?_
                  refine gM_m_centrings S hK hP q967 dX10_count_88 ?_
                  exact u_iretr hx hb hr hlocks rfl hP hD hS dX10_count_91 hf (fun _ => rfl)
                · have hf := ifn c1_7 hf
                  by_cases c1_8 : v1 = (8 : Int32)
                  · have hf := ifp c1_8 hf
                    refine lv_tableIn (off := 91) (tgt := 92) hx hb dX10_count_1 (by rw [c1_8]; decide) (by rw [c1_8]; decide) (by rw [c1_8]; decide) (by decide) ?_
                    refine lv_aload_n hx hb dX10_count_92 rfl (lv_at hl 0 rfl) ?_
                    refine gM_m_mortar S hK hP q983 dX10_count_93 ?_
                    exact u_iretr hx hb hr hlocks rfl hP hD hS dX10_count_96 hf (fun _ => rfl)
                  · have hf := ifn c1_8 hf
                    refine lv_tableOut (tgt := 97) hx hb dX10_count_1 (sw_8 c1_0 c1_1 c1_2 c1_3 c1_4 c1_5 c1_6 c1_7 c1_8) (by decide) ?_
                    refine lv_bipush (v := (-2 : Int32)) hx hb dX10_count_97 (by decide) ?_
                    exact u_iretr hx hb hr hlocks rfl hP hD hS dX10_count_99 hf (fun _ => rfl)
theorem iX10_note : YI yX10_note cX10_note 3 none 1 := ⟨q1466, q12, by decide, by decide, by decide +kernel⟩
theorem vX10_note : YV yX10_note := ⟨q1465, qs57⟩
set_option maxRecDepth 100000 in
set_option maxHeartbeats 4000000 in
theorem c_X10_note (l : Launch) (D : va_G) (cy : Nat → ClassId) (ad : Nat → Nat) (σ : St) (v1 : Int64) (q : St) (hf : fX10_note σ v1 = some q) : Cv l D cy (wM cy ad) yX10_note cX10_note 3 0 0 [.ref (ad 0), .long v1] σ q 0 0 := by
  refine Cv.enter (by decide) (Nat.le_of_ble_eq_true rfl) ?_
  intro aw ac p e s m below meth c A H locs S hr hlocks hA hK hP hD hS ls hl
  have hx := S.1
  have hb := S.2.1
  have hl : lv_has ls 3 [(0, .ref (ad 0)), (1, .long v1)] := hl
  unfold fX10_note at hf
  refine lv_aload_n hx hb dX10_note_0 rfl (lv_at hl 0 rfl) ?_
  refine lv_ldc2 hx hb S.2.2.2.1 (S.2.2.2.2 _ (List.mem_cons_of_mem _ q1467)) dX10_note_1 ?_
  refine lv_aload_n hx hb dX10_note_4 rfl (lv_at hl 0 rfl) ?_
  refine gM_m_sum S hK hP q997 dX10_note_5 ?_
  refine lv_lmul hx hb dX10_note_8 ?_
  refine lv_lload_n hx hb dX10_note_9 rfl (lv_at hl 1 rfl) ?_
  refine lv_ladd hx hb dX10_note_10 ?_
  refine pM_m_sum S hK hP hD hS q997 dX10_note_11 (fun H locs hP hD hS => ?_)
  exact u_vretw hx hb hr hlocks hP hD hS dX10_note_14 hf (fun _ => rfl)
theorem iX10_digest : YI yX10_digest cX10_digest 3 (some .long) 0 := ⟨q1460, q12, by decide, by decide, by decide +kernel⟩
theorem vX10_digest : YV yX10_digest := ⟨q1458, q1459⟩
set_option maxRecDepth 100000 in
set_option maxHeartbeats 4000000 in
theorem c_X10_digest (l : Launch) (D : va_G) (cy : Nat → ClassId) (ad : Nat → Nat) (σ : St) (q : Int64 × St) (hf : fX10_digest σ = some q) : Cl l D cy (wM cy ad) yX10_digest cX10_digest 3 3 63 [.ref (ad 0)] σ q.1 q.2 0 0 := by
  refine Cl.enter (by decide) (Nat.le_of_ble_eq_true rfl) ?_
  intro aw ac p e s m below meth c A H locs S hr hlocks hA hK hP hD hS ls hl
  have hx := S.1
  have hb := S.2.1
  have hl : lv_has ls 3 [(0, .ref (ad 0))] := hl
  unfold fX10_digest at hf
  refine lv_aload_n hx hb dX10_digest_0 rfl (lv_at hl 0 rfl) ?_
  refine lv_ldc2 hx hb S.2.2.2.1 (S.2.2.2.2 _ (List.mem_cons_of_mem _ q1461)) dX10_digest_1 ?_
  refine pM_m_sum S hK hP hD hS q997 dX10_digest_4 (fun H locs hP hD hS => ?_)
  refine lv_iconst (v := (0 : Int32)) hx hb dX10_digest_7 (by decide) ?_
  refine lv_istore_n (lv' := [(1, .int (0 : Int32)), (0, .ref (ad 0))]) hx hb dX10_digest_8 rfl hl (by decide) rfl (fun ls hl => ?_)
  have L9 : ∀ (n9 : Nat) (v1_9 : Int32) (σ9 : St) (H : Heap) (locs : List Loc) (ls : Array Slot), fX10_digest_9 (fX10_digest_9_k) n9 σ9 v1_9 = some q → va_P D vwCl (wM cy ad aw ac σ9) H → va_D A (wM cy ad aw ac σ9) → va_S A s.heap H locs → lv_has ls 3 [(0, .ref (ad 0)), (1, .int v1_9)] → W p l e (Rm 3 63 0 0) s m [.ref (ad 0)].toArray below meth c H locs 0 0 (Zl D (wM cy ad) A q.1 q.2 aw ac below [.ref (ad 0)].toArray s 0 0) (F0 m 9 ls []) := by
    intro n9
    induction n9 with
    | zero =>
      intro v1_9 σ9 H locs ls hf
      cases hf
    | succ n9 ih9 =>
      intro v1_9 σ9 H locs ls hf hP hD hS hl
      rw [fX10_digest_9] at hf
      refine lv_iload_n hx hb dX10_digest_9 rfl (lv_at hl 1 rfl) ?_
      refine lv_bipush (v := (9 : Int32)) hx hb dX10_digest_10 (by decide) ?_
      refine lv_icmp_ge (tgt := 31) hx hb dX10_digest_12 (by decide) (fun c12 => ?_) (fun c12 => ?_)
      · have hf := ifp c12 hf
        have hl := lv_sub (l' := [(0, .ref (ad 0)), (1, .int v1_9)]) hl [0, 1] rfl
        unfold fX10_digest_9_k at hf
        refine lv_aload_n hx hb dX10_digest_31 rfl (lv_at hl 0 rfl) ?_
        refine lv_aload_n hx hb dX10_digest_32 rfl (lv_at hl 0 rfl) ?_
        refine gM_m_girth S hK hP q945 dX10_digest_33 ?_
        refine lv_i2l (v := ((gi σ9 0)).toInt64) hx hb dX10_digest_36 rfl ?_
        obtain ⟨q37, h37, hf⟩ := ob_some hf
        refine u_callv0 (u_runV (rest := []) S (c_X10_note l D cy ad σ9 (((gi σ9 0)).toInt64) q37 h37 aw ac H.size) iX10_note vX10_note q1463 ⟨Nat.le_of_ble_eq_true rfl, Nat.le_of_ble_eq_true rfl⟩ hK hP hD (q0 := 0) rfl rfl rfl hl.1 (Nat.le_of_ble_eq_true rfl) dX10_digest_37 ⟨Nat.le_refl _, Nat.le_refl _⟩) hD hS hA (fun H locs hP hD hS => ?_)
        refine lv_aload_n hx hb dX10_digest_40 rfl (lv_at hl 0 rfl) ?_
        refine lv_aload_n hx hb dX10_digest_41 rfl (lv_at hl 0 rfl) ?_
        refine gM_m_stepsTurn S hK hP q946 dX10_digest_42 ?_
        refine lv_i2l (v := ((gi q37 1)).toInt64) hx hb dX10_digest_45 rfl ?_
        obtain ⟨q46, h46, hf⟩ := ob_some hf
        refine u_callv0 (u_runV (rest := []) S (c_X10_note l D cy ad q37 (((gi q37 1)).toInt64) q46 h46 aw ac H.size) iX10_note vX10_note q1463 ⟨Nat.le_of_ble_eq_true rfl, Nat.le_of_ble_eq_true rfl⟩ hK hP hD (q0 := 0) rfl rfl rfl hl.1 (Nat.le_of_ble_eq_true rfl) dX10_digest_46 ⟨Nat.le_refl _, Nat.le_refl _⟩) hD hS hA (fun H locs hP hD hS => ?_)
        refine lv_aload_n hx hb dX10_digest_49 rfl (lv_at hl 0 rfl) ?_
        refine lv_aload_n hx hb dX10_digest_50 rfl (lv_at hl 0 rfl) ?_
        refine gM_m_axle S hK hP q947 dX10_digest_51 ?_
        refine lv_i2l (v := ((gi q46 2)).toInt64) hx hb dX10_digest_54 rfl ?_
        obtain ⟨q55, h55, hf⟩ := ob_some hf
        refine u_callv0 (u_runV (rest := []) S (c_X10_note l D cy ad q46 (((gi q46 2)).toInt64) q55 h55 aw ac H.size) iX10_note vX10_note q1463 ⟨Nat.le_of_ble_eq_true rfl, Nat.le_of_ble_eq_true rfl⟩ hK hP hD (q0 := 0) rfl rfl rfl hl.1 (Nat.le_of_ble_eq_true rfl) dX10_digest_55 ⟨Nat.le_refl _, Nat.le_refl _⟩) hD hS hA (fun H locs hP hD hS => ?_)
        refine lv_aload_n hx hb dX10_digest_58 rfl (lv_at hl 0 rfl) ?_
        refine lv_aload_n hx hb dX10_digest_59 rfl (lv_at hl 0 rfl) ?_
        refine gM_m_friction S hK hP q948 dX10_digest_60 ?_
        refine lv_i2l (v := ((gi q55 3)).toInt64) hx hb dX10_digest_63 rfl ?_
        obtain ⟨q64, h64, hf⟩ := ob_some hf
        refine u_callv0 (u_runV (rest := []) S (c_X10_note l D cy ad q55 (((gi q55 3)).toInt64) q64 h64 aw ac H.size) iX10_note vX10_note q1463 ⟨Nat.le_of_ble_eq_true rfl, Nat.le_of_ble_eq_true rfl⟩ hK hP hD (q0 := 0) rfl rfl rfl hl.1 (Nat.le_of_ble_eq_true rfl) dX10_digest_64 ⟨Nat.le_refl _, Nat.le_refl _⟩) hD hS hA (fun H locs hP hD hS => ?_)
        refine lv_aload_n hx hb dX10_digest_67 rfl (lv_at hl 0 rfl) ?_
        refine lv_aload_n hx hb dX10_digest_68 rfl (lv_at hl 0 rfl) ?_
        refine gM_m_thick S hK hP q949 dX10_digest_69 ?_
        refine lv_i2l (v := ((gi q64 4)).toInt64) hx hb dX10_digest_72 rfl ?_
        obtain ⟨q73, h73, hf⟩ := ob_some hf
        refine u_callv0 (u_runV (rest := []) S (c_X10_note l D cy ad q64 (((gi q64 4)).toInt64) q73 h73 aw ac H.size) iX10_note vX10_note q1463 ⟨Nat.le_of_ble_eq_true rfl, Nat.le_of_ble_eq_true rfl⟩ hK hP hD (q0 := 0) rfl rfl rfl hl.1 (Nat.le_of_ble_eq_true rfl) dX10_digest_73 ⟨Nat.le_refl _, Nat.le_refl _⟩) hD hS hA (fun H locs hP hD hS => ?_)
        refine lv_aload_n hx hb dX10_digest_76 rfl (lv_at hl 0 rfl) ?_
        refine lv_aload_n hx hb dX10_digest_77 rfl (lv_at hl 0 rfl) ?_
        refine gM_m_turns S hK hP q950 dX10_digest_78 ?_
        refine lv_i2l (v := ((gi q73 5)).toInt64) hx hb dX10_digest_81 rfl ?_
        obtain ⟨q82, h82, hf⟩ := ob_some hf
        refine u_callv0 (u_runV (rest := []) S (c_X10_note l D cy ad q73 (((gi q73 5)).toInt64) q82 h82 aw ac H.size) iX10_note vX10_note q1463 ⟨Nat.le_of_ble_eq_true rfl, Nat.le_of_ble_eq_true rfl⟩ hK hP hD (q0 := 0) rfl rfl rfl hl.1 (Nat.le_of_ble_eq_true rfl) dX10_digest_82 ⟨Nat.le_refl _, Nat.le_refl _⟩) hD hS hA (fun H locs hP hD hS => ?_)
        refine lv_aload_n hx hb dX10_digest_85 rfl (lv_at hl 0 rfl) ?_
        refine lv_aload_n hx hb dX10_digest_86 rfl (lv_at hl 0 rfl) ?_
        refine gM_m_wide S hK hP q973 dX10_digest_87 ?_
        refine lv_i2l (v := ((gi q82 12)).toInt64) hx hb dX10_digest_90 rfl ?_
        obtain ⟨q91, h91, hf⟩ := ob_some hf
        refine u_callv0 (u_runV (rest := []) S (c_X10_note l D cy ad q82 (((gi q82 12)).toInt64) q91 h91 aw ac H.size) iX10_note vX10_note q1463 ⟨Nat.le_of_ble_eq_true rfl, Nat.le_of_ble_eq_true rfl⟩ hK hP hD (q0 := 0) rfl rfl rfl hl.1 (Nat.le_of_ble_eq_true rfl) dX10_digest_91 ⟨Nat.le_refl _, Nat.le_refl _⟩) hD hS hA (fun H locs hP hD hS => ?_)
        refine lv_aload_n hx hb dX10_digest_94 rfl (lv_at hl 0 rfl) ?_
        refine lv_aload_n hx hb dX10_digest_95 rfl (lv_at hl 0 rfl) ?_
        refine gM_m_high S hK hP q974 dX10_digest_96 ?_
        refine lv_i2l (v := ((gi q91 13)).toInt64) hx hb dX10_digest_99 rfl ?_
        obtain ⟨q100, h100, hf⟩ := ob_some hf
        refine u_callv0 (u_runV (rest := []) S (c_X10_note l D cy ad q91 (((gi q91 13)).toInt64) q100 h100 aw ac H.size) iX10_note vX10_note q1463 ⟨Nat.le_of_ble_eq_true rfl, Nat.le_of_ble_eq_true rfl⟩ hK hP hD (q0 := 0) rfl rfl rfl hl.1 (Nat.le_of_ble_eq_true rfl) dX10_digest_100 ⟨Nat.le_refl _, Nat.le_refl _⟩) hD hS hA (fun H locs hP hD hS => ?_)
        refine lv_iconst (v := (0 : Int32)) hx hb dX10_digest_103 (by decide) ?_
        refine lv_istore_n (lv' := [(1, .int (0 : Int32)), (0, .ref (ad 0))]) hx hb dX10_digest_104 rfl hl (by decide) rfl (fun ls hl => ?_)
        have L105 : ∀ (n105 : Nat) (v1_105 : Int32) (σ105 : St) (H : Heap) (locs : List Loc) (ls : Array Slot), fX10_digest_105 (fX10_digest_105_k) n105 σ105 v1_105 = some q → va_P D vwCl (wM cy ad aw ac σ105) H → va_D A (wM cy ad aw ac σ105) → va_S A s.heap H locs → lv_has ls 3 [(0, .ref (ad 0)), (1, .int v1_105)] → W p l e (Rm 3 63 0 0) s m [.ref (ad 0)].toArray below meth c H locs 0 0 (Zl D (wM cy ad) A q.1 q.2 aw ac below [.ref (ad 0)].toArray s 0 0) (F0 m 105 ls []) := by
          intro n105
          induction n105 with
          | zero =>
            intro v1_105 σ105 H locs ls hf
            cases hf
          | succ n105 ih105 =>
            intro v1_105 σ105 H locs ls hf hP hD hS hl
            rw [fX10_digest_105] at hf
            refine lv_iload_n hx hb dX10_digest_105 rfl (lv_at hl 1 rfl) ?_
            refine lv_aload_n hx hb dX10_digest_106 rfl (lv_at hl 0 rfl) ?_
            refine gM_m_men S hK hP q951 dX10_digest_107 ?_
            refine lv_icmp_ge (tgt := 141) hx hb dX10_digest_110 (by decide) (fun c110 => ?_) (fun c110 => ?_)
            · have hf := ifp c110 hf
              have hl := lv_sub (l' := [(0, .ref (ad 0)), (1, .int v1_105)]) hl [0, 1] rfl
              unfold fX10_digest_105_k at hf
              refine lv_iconst (v := (0 : Int32)) hx hb dX10_digest_141 (by decide) ?_
              refine lv_istore_n (lv' := [(1, .int (0 : Int32)), (0, .ref (ad 0))]) hx hb dX10_digest_142 rfl hl (by decide) rfl (fun ls hl => ?_)
              have L143 : ∀ (n143 : Nat) (v1_143 : Int32) (σ143 : St) (H : Heap) (locs : List Loc) (ls : Array Slot), fX10_digest_143 (fX10_digest_143_k) n143 σ143 v1_143 = some q → va_P D vwCl (wM cy ad aw ac σ143) H → va_D A (wM cy ad aw ac σ143) → va_S A s.heap H locs → lv_has ls 3 [(0, .ref (ad 0)), (1, .int v1_143)] → W p l e (Rm 3 63 0 0) s m [.ref (ad 0)].toArray below meth c H locs 0 0 (Zl D (wM cy ad) A q.1 q.2 aw ac below [.ref (ad 0)].toArray s 0 0) (F0 m 143 ls []) := by
                intro n143
                induction n143 with
                | zero =>
                  intro v1_143 σ143 H locs ls hf
                  cases hf
                | succ n143 ih143 =>
                  intro v1_143 σ143 H locs ls hf hP hD hS hl
                  rw [fX10_digest_143] at hf
                  refine lv_iload_n hx hb dX10_digest_143 rfl (lv_at hl 1 rfl) ?_
                  refine lv_aload_n hx hb dX10_digest_144 rfl (lv_at hl 0 rfl) ?_
                  refine gM_m_ropes S hK hP q954 dX10_digest_145 ?_
                  refine lv_icmp_ge (tgt := 181) hx hb dX10_digest_148 (by decide) (fun c148 => ?_) (fun c148 => ?_)
                  · have hf := ifp c148 hf
                    have hl := lv_sub (l' := [(0, .ref (ad 0)), (1, .int v1_143)]) hl [0, 1] rfl
                    unfold fX10_digest_143_k at hf
                    refine lv_iconst (v := (0 : Int32)) hx hb dX10_digest_181 (by decide) ?_
                    refine lv_istore_n (lv' := [(1, .int (0 : Int32)), (0, .ref (ad 0))]) hx hb dX10_digest_182 rfl hl (by decide) rfl (fun ls hl => ?_)
                    have L183 : ∀ (n183 : Nat) (v1_183 : Int32) (σ183 : St) (H : Heap) (locs : List Loc) (ls : Array Slot), fX10_digest_183 (fX10_digest_183_k) n183 σ183 v1_183 = some q → va_P D vwCl (wM cy ad aw ac σ183) H → va_D A (wM cy ad aw ac σ183) → va_S A s.heap H locs → lv_has ls 3 [(0, .ref (ad 0)), (1, .int v1_183)] → W p l e (Rm 3 63 0 0) s m [.ref (ad 0)].toArray below meth c H locs 0 0 (Zl D (wM cy ad) A q.1 q.2 aw ac below [.ref (ad 0)].toArray s 0 0) (F0 m 183 ls []) := by
                      intro n183
                      induction n183 with
                      | zero =>
                        intro v1_183 σ183 H locs ls hf
                        cases hf
                      | succ n183 ih183 =>
                        intro v1_183 σ183 H locs ls hf hP hD hS hl
                        rw [fX10_digest_183] at hf
                        refine lv_iload_n hx hb dX10_digest_183 rfl (lv_at hl 1 rfl) ?_
                        refine lv_aload_n hx hb dX10_digest_184 rfl (lv_at hl 0 rfl) ?_
                        refine gM_m_loads S hK hP q959 dX10_digest_185 ?_
                        refine lv_icmp_ge (tgt := 208) hx hb dX10_digest_188 (by decide) (fun c188 => ?_) (fun c188 => ?_)
                        · have hf := ifp c188 hf
                          have hl := lv_sub (l' := [(0, .ref (ad 0)), (1, .int v1_183)]) hl [0, 1] rfl
                          unfold fX10_digest_183_k at hf
                          refine lv_iconst (v := (0 : Int32)) hx hb dX10_digest_208 (by decide) ?_
                          refine lv_istore_n (lv' := [(1, .int (0 : Int32)), (0, .ref (ad 0))]) hx hb dX10_digest_209 rfl hl (by decide) rfl (fun ls hl => ?_)
                          have L210 : ∀ (n210 : Nat) (v1_210 : Int32) (σ210 : St) (H : Heap) (locs : List Loc) (ls : Array Slot), fX10_digest_210 (fX10_digest_210_k) n210 σ210 v1_210 = some q → va_P D vwCl (wM cy ad aw ac σ210) H → va_D A (wM cy ad aw ac σ210) → va_S A s.heap H locs → lv_has ls 3 [(0, .ref (ad 0)), (1, .int v1_210)] → W p l e (Rm 3 63 0 0) s m [.ref (ad 0)].toArray below meth c H locs 0 0 (Zl D (wM cy ad) A q.1 q.2 aw ac below [.ref (ad 0)].toArray s 0 0) (F0 m 210 ls []) := by
                            intro n210
                            induction n210 with
                            | zero =>
                              intro v1_210 σ210 H locs ls hf
                              cases hf
                            | succ n210 ih210 =>
                              intro v1_210 σ210 H locs ls hf hP hD hS hl
                              rw [fX10_digest_210] at hf
                              refine lv_iload_n hx hb dX10_digest_210 rfl (lv_at hl 1 rfl) ?_
                              refine lv_aload_n hx hb dX10_digest_211 rfl (lv_at hl 0 rfl) ?_
                              refine gM_m_stones S hK hP q961 dX10_digest_212 ?_
                              refine lv_icmp_ge (tgt := 279) hx hb dX10_digest_215 (by decide) (fun c215 => ?_) (fun c215 => ?_)
                              · have hf := ifp c215 hf
                                have hl := lv_sub (l' := [(0, .ref (ad 0)), (1, .int v1_210)]) hl [0, 1] rfl
                                unfold fX10_digest_210_k at hf
                                refine lv_iconst (v := (0 : Int32)) hx hb dX10_digest_279 (by decide) ?_
                                refine lv_istore_n (lv' := [(1, .int (0 : Int32)), (0, .ref (ad 0))]) hx hb dX10_digest_280 rfl hl (by decide) rfl (fun ls hl => ?_)
                                have L281 : ∀ (n281 : Nat) (v1_281 : Int32) (σ281 : St) (H : Heap) (locs : List Loc) (ls : Array Slot), fX10_digest_281 (fX10_digest_281_k) n281 σ281 v1_281 = some q → va_P D vwCl (wM cy ad aw ac σ281) H → va_D A (wM cy ad aw ac σ281) → va_S A s.heap H locs → lv_has ls 3 [(0, .ref (ad 0)), (1, .int v1_281)] → W p l e (Rm 3 63 0 0) s m [.ref (ad 0)].toArray below meth c H locs 0 0 (Zl D (wM cy ad) A q.1 q.2 aw ac below [.ref (ad 0)].toArray s 0 0) (F0 m 281 ls []) := by
                                  intro n281
                                  induction n281 with
                                  | zero =>
                                    intro v1_281 σ281 H locs ls hf
                                    cases hf
                                  | succ n281 ih281 =>
                                    intro v1_281 σ281 H locs ls hf hP hD hS hl
                                    rw [fX10_digest_281] at hf
                                    refine lv_iload_n hx hb dX10_digest_281 rfl (lv_at hl 1 rfl) ?_
                                    refine lv_aload_n hx hb dX10_digest_282 rfl (lv_at hl 0 rfl) ?_
                                    refine gM_m_stands S hK hP q968 dX10_digest_283 ?_
                                    refine lv_icmp_ge (tgt := 328) hx hb dX10_digest_286 (by decide) (fun c286 => ?_) (fun c286 => ?_)
                                    · have hf := ifp c286 hf
                                      have hl := lv_sub (l' := [(0, .ref (ad 0)), (1, .int v1_281)]) hl [0, 1] rfl
                                      unfold fX10_digest_281_k at hf
                                      refine lv_iconst (v := (0 : Int32)) hx hb dX10_digest_328 (by decide) ?_
                                      refine lv_istore_n (lv' := [(1, .int (0 : Int32)), (0, .ref (ad 0))]) hx hb dX10_digest_329 rfl hl (by decide) rfl (fun ls hl => ?_)
                                      have L330 : ∀ (n330 : Nat) (v1_330 : Int32) (σ330 : St) (H : Heap) (locs : List Loc) (ls : Array Slot), fX10_digest_330 (fX10_digest_330_k) n330 σ330 v1_330 = some q → va_P D vwCl (wM cy ad aw ac σ330) H → va_D A (wM cy ad aw ac σ330) → va_S A s.heap H locs → lv_has ls 3 [(0, .ref (ad 0)), (1, .int v1_330)] → W p l e (Rm 3 63 0 0) s m [.ref (ad 0)].toArray below meth c H locs 0 0 (Zl D (wM cy ad) A q.1 q.2 aw ac below [.ref (ad 0)].toArray s 0 0) (F0 m 330 ls []) := by
                                        intro n330
                                        induction n330 with
                                        | zero =>
                                          intro v1_330 σ330 H locs ls hf
                                          cases hf
                                        | succ n330 ih330 =>
                                          intro v1_330 σ330 H locs ls hf hP hD hS hl
                                          rw [fX10_digest_330] at hf
                                          refine lv_iload_n hx hb dX10_digest_330 rfl (lv_at hl 1 rfl) ?_
                                          refine lv_aload_n hx hb dX10_digest_331 rfl (lv_at hl 0 rfl) ?_
                                          refine gM_m_stands S hK hP q968 dX10_digest_332 ?_
                                          refine lv_icmp_ge (tgt := 377) hx hb dX10_digest_335 (by decide) (fun c335 => ?_) (fun c335 => ?_)
                                          · have hf := ifp c335 hf
                                            have hl := lv_sub (l' := [(0, .ref (ad 0)), (1, .int v1_330)]) hl [0, 1] rfl
                                            unfold fX10_digest_330_k at hf
                                            refine lv_iconst (v := (0 : Int32)) hx hb dX10_digest_377 (by decide) ?_
                                            refine lv_istore_n (lv' := [(1, .int (0 : Int32)), (0, .ref (ad 0))]) hx hb dX10_digest_378 rfl hl (by decide) rfl (fun ls hl => ?_)
                                            have L379 : ∀ (n379 : Nat) (v1_379 : Int32) (σ379 : St) (H : Heap) (locs : List Loc) (ls : Array Slot), fX10_digest_379 (fX10_digest_379_k) n379 σ379 v1_379 = some q → va_P D vwCl (wM cy ad aw ac σ379) H → va_D A (wM cy ad aw ac σ379) → va_S A s.heap H locs → lv_has ls 3 [(0, .ref (ad 0)), (1, .int v1_379)] → W p l e (Rm 3 63 0 0) s m [.ref (ad 0)].toArray below meth c H locs 0 0 (Zl D (wM cy ad) A q.1 q.2 aw ac below [.ref (ad 0)].toArray s 0 0) (F0 m 379 ls []) := by
                                              intro n379
                                              induction n379 with
                                              | zero =>
                                                intro v1_379 σ379 H locs ls hf
                                                cases hf
                                              | succ n379 ih379 =>
                                                intro v1_379 σ379 H locs ls hf hP hD hS hl
                                                rw [fX10_digest_379] at hf
                                                refine lv_iload_n hx hb dX10_digest_379 rfl (lv_at hl 1 rfl) ?_
                                                refine lv_bipush (v := (80 : Int32)) hx hb dX10_digest_380 (by decide) ?_
                                                refine lv_icmp_ge (tgt := 402) hx hb dX10_digest_382 (by decide) (fun c382 => ?_) (fun c382 => ?_)
                                                · have hf := ifp c382 hf
                                                  have hl := lv_sub (l' := [(0, .ref (ad 0)), (1, .int v1_379)]) hl [0, 1] rfl
                                                  unfold fX10_digest_379_k at hf
                                                  refine lv_iconst (v := (0 : Int32)) hx hb dX10_digest_402 (by decide) ?_
                                                  refine lv_istore_n (lv' := [(1, .int (0 : Int32)), (0, .ref (ad 0))]) hx hb dX10_digest_403 rfl hl (by decide) rfl (fun ls hl => ?_)
                                                  have L404 : ∀ (n404 : Nat) (v1_404 : Int32) (σ404 : St) (H : Heap) (locs : List Loc) (ls : Array Slot), fX10_digest_404 (fX10_digest_404_k) n404 σ404 v1_404 = some q → va_P D vwCl (wM cy ad aw ac σ404) H → va_D A (wM cy ad aw ac σ404) → va_S A s.heap H locs → lv_has ls 3 [(0, .ref (ad 0)), (1, .int v1_404)] → W p l e (Rm 3 63 0 0) s m [.ref (ad 0)].toArray below meth c H locs 0 0 (Zl D (wM cy ad) A q.1 q.2 aw ac below [.ref (ad 0)].toArray s 0 0) (F0 m 404 ls []) := by
                                                    intro n404
                                                    induction n404 with
                                                    | zero =>
                                                      intro v1_404 σ404 H locs ls hf
                                                      cases hf
                                                    | succ n404 ih404 =>
                                                      intro v1_404 σ404 H locs ls hf hP hD hS hl
                                                      rw [fX10_digest_404] at hf
                                                      refine lv_iload_n hx hb dX10_digest_404 rfl (lv_at hl 1 rfl) ?_
                                                      refine lv_aload_n hx hb dX10_digest_405 rfl (lv_at hl 0 rfl) ?_
                                                      refine gM_m_corners S hK hP q989 dX10_digest_406 ?_
                                                      refine lv_icmp_ge (tgt := 440) hx hb dX10_digest_409 (by decide) (fun c409 => ?_) (fun c409 => ?_)
                                                      · have hf := ifp c409 hf
                                                        have hl := lv_sub (l' := [(0, .ref (ad 0)), (1, .int v1_404)]) hl [0, 1] rfl
                                                        unfold fX10_digest_404_k at hf
                                                        refine lv_aload_n hx hb dX10_digest_440 rfl (lv_at hl 0 rfl) ?_
                                                        refine gM_m_sum S hK hP q997 dX10_digest_441 ?_
                                                        exact u_lretw hx hb hr hlocks hP hD hS dX10_digest_444 hf (fun _ => rfl)
                                                      · have hf := ifn c409 hf
                                                        refine lv_aload_n hx hb dX10_digest_412 rfl (lv_at hl 0 rfl) ?_
                                                        refine lv_aload_n hx hb dX10_digest_413 rfl (lv_at hl 0 rfl) ?_
                                                        refine gM_m_cornerX S hK hP q990 dX10_digest_414 ?_
                                                        refine lv_iload_n hx hb dX10_digest_417 rfl (lv_at hl 1 rfl) ?_
                                                        obtain ⟨h418, hf⟩ := if_in hf
                                                        refine lM_25 S hK hP h418 dX10_digest_418 ?_
                                                        refine lv_i2l (v := ((ga σ404 25 v1_404.toNatClampNeg)).toInt64) hx hb dX10_digest_419 rfl ?_
                                                        obtain ⟨q420, h420, hf⟩ := ob_some hf
                                                        refine u_callv0 (u_runV (rest := []) S (c_X10_note l D cy ad σ404 (((ga σ404 25 v1_404.toNatClampNeg)).toInt64) q420 h420 aw ac H.size) iX10_note vX10_note q1463 ⟨Nat.le_of_ble_eq_true rfl, Nat.le_of_ble_eq_true rfl⟩ hK hP hD (q0 := 0) rfl rfl rfl hl.1 (Nat.le_of_ble_eq_true rfl) dX10_digest_420 ⟨Nat.le_refl _, Nat.le_refl _⟩) hD hS hA (fun H locs hP hD hS => ?_)
                                                        refine lv_aload_n hx hb dX10_digest_423 rfl (lv_at hl 0 rfl) ?_
                                                        refine lv_aload_n hx hb dX10_digest_424 rfl (lv_at hl 0 rfl) ?_
                                                        refine gM_m_cornerY S hK hP q991 dX10_digest_425 ?_
                                                        refine lv_iload_n hx hb dX10_digest_428 rfl (lv_at hl 1 rfl) ?_
                                                        obtain ⟨h429, hf⟩ := if_in hf
                                                        refine lM_26 S hK hP h429 dX10_digest_429 ?_
                                                        refine lv_i2l (v := ((ga q420 26 v1_404.toNatClampNeg)).toInt64) hx hb dX10_digest_430 rfl ?_
                                                        obtain ⟨q431, h431, hf⟩ := ob_some hf
                                                        refine u_callv0 (u_runV (rest := []) S (c_X10_note l D cy ad q420 (((ga q420 26 v1_404.toNatClampNeg)).toInt64) q431 h431 aw ac H.size) iX10_note vX10_note q1463 ⟨Nat.le_of_ble_eq_true rfl, Nat.le_of_ble_eq_true rfl⟩ hK hP hD (q0 := 0) rfl rfl rfl hl.1 (Nat.le_of_ble_eq_true rfl) dX10_digest_431 ⟨Nat.le_refl _, Nat.le_refl _⟩) hD hS hA (fun H locs hP hD hS => ?_)
                                                        refine lv_iinc (v := (v1_404 + (1 : Int32))) (lv' := [(1, .int (v1_404 + (1 : Int32))), (0, .ref (ad 0))]) hx hb dX10_digest_434 hl (k := 1) rfl rfl (by decide) rfl (fun ls hl => ?_)
                                                        refine lv_goto (tgt := 404) hx hb dX10_digest_437 (by decide) ?_
                                                        exact ih404 (v1_404 + (1 : Int32)) q431 H locs ls hf hP hD hS (lv_sub hl [1, 0] rfl)
                                                  exact L404 KF (0 : Int32) σ379 H locs ls hf hP hD hS (lv_sub hl [1, 0] rfl)
                                                · have hf := ifn c382 hf
                                                  refine lv_aload_n hx hb dX10_digest_385 rfl (lv_at hl 0 rfl) ?_
                                                  refine lv_aload_n hx hb dX10_digest_386 rfl (lv_at hl 0 rfl) ?_
                                                  refine gM_m_light S hK hP q981 dX10_digest_387 ?_
                                                  refine lv_iload_n hx hb dX10_digest_390 rfl (lv_at hl 1 rfl) ?_
                                                  obtain ⟨h391, hf⟩ := if_in hf
                                                  refine lM_20 S hK hP h391 dX10_digest_391 ?_
                                                  refine lv_i2l (v := ((ga σ379 20 v1_379.toNatClampNeg)).toInt64) hx hb dX10_digest_392 rfl ?_
                                                  obtain ⟨q393, h393, hf⟩ := ob_some hf
                                                  refine u_callv0 (u_runV (rest := []) S (c_X10_note l D cy ad σ379 (((ga σ379 20 v1_379.toNatClampNeg)).toInt64) q393 h393 aw ac H.size) iX10_note vX10_note q1463 ⟨Nat.le_of_ble_eq_true rfl, Nat.le_of_ble_eq_true rfl⟩ hK hP hD (q0 := 0) rfl rfl rfl hl.1 (Nat.le_of_ble_eq_true rfl) dX10_digest_393 ⟨Nat.le_refl _, Nat.le_refl _⟩) hD hS hA (fun H locs hP hD hS => ?_)
                                                  refine lv_iinc (v := (v1_379 + (1 : Int32))) (lv' := [(1, .int (v1_379 + (1 : Int32))), (0, .ref (ad 0))]) hx hb dX10_digest_396 hl (k := 1) rfl rfl (by decide) rfl (fun ls hl => ?_)
                                                  refine lv_goto (tgt := 379) hx hb dX10_digest_399 (by decide) ?_
                                                  exact ih379 (v1_379 + (1 : Int32)) q393 H locs ls hf hP hD hS (lv_sub hl [1, 0] rfl)
                                            exact L379 KF (0 : Int32) σ330 H locs ls hf hP hD hS (lv_sub hl [1, 0] rfl)
                                          · have hf := ifn c335 hf
                                            refine lv_iload_n hx hb dX10_digest_338 rfl (lv_at hl 1 rfl) ?_
                                            refine lv_iconst (v := (1 : Int32)) hx hb dX10_digest_339 (by decide) ?_
                                            refine lv_iadd hx hb dX10_digest_340 ?_
                                            refine lv_istore_n (lv' := [(2, .int (v1_330 + (1 : Int32))), (0, .ref (ad 0)), (1, .int v1_330)]) hx hb dX10_digest_341 rfl hl (by decide) rfl (fun ls hl => ?_)
                                            have L342 : ∀ (n342 : Nat) (v2_342 : Int32) (σ342 : St) (H : Heap) (locs : List Loc) (ls : Array Slot), fX10_digest_342 (fun σ330' v1_330' => fX10_digest_330 (fX10_digest_330_k)  n330 σ330' v1_330') (fX10_digest_342_k (fun σ330' v1_330' => fX10_digest_330 (fX10_digest_330_k)  n330 σ330' v1_330') v1_330) v1_330 n342 σ342 v2_342 = some q → va_P D vwCl (wM cy ad aw ac σ342) H → va_D A (wM cy ad aw ac σ342) → va_S A s.heap H locs → lv_has ls 3 [(0, .ref (ad 0)), (1, .int v1_330), (2, .int v2_342)] → W p l e (Rm 3 63 0 0) s m [.ref (ad 0)].toArray below meth c H locs 0 0 (Zl D (wM cy ad) A q.1 q.2 aw ac below [.ref (ad 0)].toArray s 0 0) (F0 m 342 ls []) := by
                                              intro n342
                                              induction n342 with
                                              | zero =>
                                                intro v2_342 σ342 H locs ls hf
                                                cases hf
                                              | succ n342 ih342 =>
                                                intro v2_342 σ342 H locs ls hf hP hD hS hl
                                                rw [fX10_digest_342] at hf
                                                refine lv_iload_n hx hb dX10_digest_342 rfl (lv_at hl 2 rfl) ?_
                                                refine lv_aload_n hx hb dX10_digest_343 rfl (lv_at hl 0 rfl) ?_
                                                refine gM_m_stands S hK hP q968 dX10_digest_344 ?_
                                                refine lv_icmp_ge (tgt := 371) hx hb dX10_digest_347 (by decide) (fun c347 => ?_) (fun c347 => ?_)
                                                · have hf := ifp c347 hf
                                                  have hl := lv_sub (l' := [(0, .ref (ad 0)), (1, .int v1_330), (2, .int v2_342)]) hl [0, 1, 2] rfl
                                                  unfold fX10_digest_342_k at hf
                                                  refine lv_iinc (v := (v1_330 + (1 : Int32))) (lv' := [(1, .int (v1_330 + (1 : Int32))), (0, .ref (ad 0)), (2, .int v2_342)]) hx hb dX10_digest_371 hl (k := 1) rfl rfl (by decide) rfl (fun ls hl => ?_)
                                                  refine lv_goto (tgt := 330) hx hb dX10_digest_374 (by decide) ?_
                                                  exact ih330 (v1_330 + (1 : Int32)) σ342 H locs ls hf hP hD hS (lv_sub hl [1, 0] rfl)
                                                · have hf := ifn c347 hf
                                                  refine lv_aload_n hx hb dX10_digest_350 rfl (lv_at hl 0 rfl) ?_
                                                  refine lv_aload_n hx hb dX10_digest_351 rfl (lv_at hl 0 rfl) ?_
                                                  refine gM_m_prices S hK hP q972 dX10_digest_352 ?_
                                                  refine lv_iconst (v := (5 : Int32)) hx hb dX10_digest_355 (by decide) ?_
                                                  refine lv_iload_n hx hb dX10_digest_356 rfl (lv_at hl 1 rfl) ?_
                                                  refine lv_imul hx hb dX10_digest_357 ?_
                                                  refine lv_iload_n hx hb dX10_digest_358 rfl (lv_at hl 2 rfl) ?_
                                                  refine lv_iadd hx hb dX10_digest_359 ?_
                                                  obtain ⟨h360, hf⟩ := if_in hf
                                                  refine lM_16 S hK hP h360 dX10_digest_360 ?_
                                                  refine lv_i2l (v := ((ga σ342 16 (((5 : Int32) * v1_330) + v2_342).toNatClampNeg)).toInt64) hx hb dX10_digest_361 rfl ?_
                                                  obtain ⟨q362, h362, hf⟩ := ob_some hf
                                                  refine u_callv0 (u_runV (rest := []) S (c_X10_note l D cy ad σ342 (((ga σ342 16 (((5 : Int32) * v1_330) + v2_342).toNatClampNeg)).toInt64) q362 h362 aw ac H.size) iX10_note vX10_note q1463 ⟨Nat.le_of_ble_eq_true rfl, Nat.le_of_ble_eq_true rfl⟩ hK hP hD (q0 := 0) rfl rfl rfl hl.1 (Nat.le_of_ble_eq_true rfl) dX10_digest_362 ⟨Nat.le_refl _, Nat.le_refl _⟩) hD hS hA (fun H locs hP hD hS => ?_)
                                                  refine lv_iinc (v := (v2_342 + (1 : Int32))) (lv' := [(2, .int (v2_342 + (1 : Int32))), (0, .ref (ad 0)), (1, .int v1_330)]) hx hb dX10_digest_365 hl (k := 2) rfl rfl (by decide) rfl (fun ls hl => ?_)
                                                  refine lv_goto (tgt := 342) hx hb dX10_digest_368 (by decide) ?_
                                                  exact ih342 (v2_342 + (1 : Int32)) q362 H locs ls hf hP hD hS (lv_sub hl [1, 2, 0] rfl)
                                            exact L342 KF (v1_330 + (1 : Int32)) σ330 H locs ls hf hP hD hS (lv_sub hl [1, 2, 0] rfl)
                                      exact L330 KF (0 : Int32) σ281 H locs ls hf hP hD hS (lv_sub hl [1, 0] rfl)
                                    · have hf := ifn c286 hf
                                      refine lv_aload_n hx hb dX10_digest_289 rfl (lv_at hl 0 rfl) ?_
                                      refine lv_aload_n hx hb dX10_digest_290 rfl (lv_at hl 0 rfl) ?_
                                      refine gM_m_standX S hK hP q969 dX10_digest_291 ?_
                                      refine lv_iload_n hx hb dX10_digest_294 rfl (lv_at hl 1 rfl) ?_
                                      obtain ⟨h295, hf⟩ := if_in hf
                                      refine lM_13 S hK hP h295 dX10_digest_295 ?_
                                      refine lv_i2l (v := ((ga σ281 13 v1_281.toNatClampNeg)).toInt64) hx hb dX10_digest_296 rfl ?_
                                      obtain ⟨q297, h297, hf⟩ := ob_some hf
                                      refine u_callv0 (u_runV (rest := []) S (c_X10_note l D cy ad σ281 (((ga σ281 13 v1_281.toNatClampNeg)).toInt64) q297 h297 aw ac H.size) iX10_note vX10_note q1463 ⟨Nat.le_of_ble_eq_true rfl, Nat.le_of_ble_eq_true rfl⟩ hK hP hD (q0 := 0) rfl rfl rfl hl.1 (Nat.le_of_ble_eq_true rfl) dX10_digest_297 ⟨Nat.le_refl _, Nat.le_refl _⟩) hD hS hA (fun H locs hP hD hS => ?_)
                                      refine lv_aload_n hx hb dX10_digest_300 rfl (lv_at hl 0 rfl) ?_
                                      refine lv_aload_n hx hb dX10_digest_301 rfl (lv_at hl 0 rfl) ?_
                                      refine gM_m_standZ S hK hP q970 dX10_digest_302 ?_
                                      refine lv_iload_n hx hb dX10_digest_305 rfl (lv_at hl 1 rfl) ?_
                                      obtain ⟨h306, hf⟩ := if_in hf
                                      refine lM_14 S hK hP h306 dX10_digest_306 ?_
                                      refine lv_i2l (v := ((ga q297 14 v1_281.toNatClampNeg)).toInt64) hx hb dX10_digest_307 rfl ?_
                                      obtain ⟨q308, h308, hf⟩ := ob_some hf
                                      refine u_callv0 (u_runV (rest := []) S (c_X10_note l D cy ad q297 (((ga q297 14 v1_281.toNatClampNeg)).toInt64) q308 h308 aw ac H.size) iX10_note vX10_note q1463 ⟨Nat.le_of_ble_eq_true rfl, Nat.le_of_ble_eq_true rfl⟩ hK hP hD (q0 := 0) rfl rfl rfl hl.1 (Nat.le_of_ble_eq_true rfl) dX10_digest_308 ⟨Nat.le_refl _, Nat.le_refl _⟩) hD hS hA (fun H locs hP hD hS => ?_)
                                      refine lv_aload_n hx hb dX10_digest_311 rfl (lv_at hl 0 rfl) ?_
                                      refine lv_aload_n hx hb dX10_digest_312 rfl (lv_at hl 0 rfl) ?_
                                      refine gM_m_needs S hK hP q971 dX10_digest_313 ?_
                                      refine lv_iload_n hx hb dX10_digest_316 rfl (lv_at hl 1 rfl) ?_
                                      obtain ⟨h317, hf⟩ := if_in hf
                                      refine lM_15 S hK hP h317 dX10_digest_317 ?_
                                      refine lv_i2l (v := ((ga q308 15 v1_281.toNatClampNeg)).toInt64) hx hb dX10_digest_318 rfl ?_
                                      obtain ⟨q319, h319, hf⟩ := ob_some hf
                                      refine u_callv0 (u_runV (rest := []) S (c_X10_note l D cy ad q308 (((ga q308 15 v1_281.toNatClampNeg)).toInt64) q319 h319 aw ac H.size) iX10_note vX10_note q1463 ⟨Nat.le_of_ble_eq_true rfl, Nat.le_of_ble_eq_true rfl⟩ hK hP hD (q0 := 0) rfl rfl rfl hl.1 (Nat.le_of_ble_eq_true rfl) dX10_digest_319 ⟨Nat.le_refl _, Nat.le_refl _⟩) hD hS hA (fun H locs hP hD hS => ?_)
                                      refine lv_iinc (v := (v1_281 + (1 : Int32))) (lv' := [(1, .int (v1_281 + (1 : Int32))), (0, .ref (ad 0))]) hx hb dX10_digest_322 hl (k := 1) rfl rfl (by decide) rfl (fun ls hl => ?_)
                                      refine lv_goto (tgt := 281) hx hb dX10_digest_325 (by decide) ?_
                                      exact ih281 (v1_281 + (1 : Int32)) q319 H locs ls hf hP hD hS (lv_sub hl [1, 0] rfl)
                                exact L281 KF (0 : Int32) σ210 H locs ls hf hP hD hS (lv_sub hl [1, 0] rfl)
                              · have hf := ifn c215 hf
                                refine lv_aload_n hx hb dX10_digest_218 rfl (lv_at hl 0 rfl) ?_
                                refine lv_aload_n hx hb dX10_digest_219 rfl (lv_at hl 0 rfl) ?_
                                refine gM_m_stoneX S hK hP q962 dX10_digest_220 ?_
                                refine lv_iload_n hx hb dX10_digest_223 rfl (lv_at hl 1 rfl) ?_
                                obtain ⟨h224, hf⟩ := if_in hf
                                refine lM_8 S hK hP h224 dX10_digest_224 ?_
                                refine lv_i2l (v := ((ga σ210 8 v1_210.toNatClampNeg)).toInt64) hx hb dX10_digest_225 rfl ?_
                                obtain ⟨q226, h226, hf⟩ := ob_some hf
                                refine u_callv0 (u_runV (rest := []) S (c_X10_note l D cy ad σ210 (((ga σ210 8 v1_210.toNatClampNeg)).toInt64) q226 h226 aw ac H.size) iX10_note vX10_note q1463 ⟨Nat.le_of_ble_eq_true rfl, Nat.le_of_ble_eq_true rfl⟩ hK hP hD (q0 := 0) rfl rfl rfl hl.1 (Nat.le_of_ble_eq_true rfl) dX10_digest_226 ⟨Nat.le_refl _, Nat.le_refl _⟩) hD hS hA (fun H locs hP hD hS => ?_)
                                refine lv_aload_n hx hb dX10_digest_229 rfl (lv_at hl 0 rfl) ?_
                                refine lv_aload_n hx hb dX10_digest_230 rfl (lv_at hl 0 rfl) ?_
                                refine gM_m_stoneZ S hK hP q963 dX10_digest_231 ?_
                                refine lv_iload_n hx hb dX10_digest_234 rfl (lv_at hl 1 rfl) ?_
                                obtain ⟨h235, hf⟩ := if_in hf
                                refine lM_9 S hK hP h235 dX10_digest_235 ?_
                                refine lv_i2l (v := ((ga q226 9 v1_210.toNatClampNeg)).toInt64) hx hb dX10_digest_236 rfl ?_
                                obtain ⟨q237, h237, hf⟩ := ob_some hf
                                refine u_callv0 (u_runV (rest := []) S (c_X10_note l D cy ad q226 (((ga q226 9 v1_210.toNatClampNeg)).toInt64) q237 h237 aw ac H.size) iX10_note vX10_note q1463 ⟨Nat.le_of_ble_eq_true rfl, Nat.le_of_ble_eq_true rfl⟩ hK hP hD (q0 := 0) rfl rfl rfl hl.1 (Nat.le_of_ble_eq_true rfl) dX10_digest_237 ⟨Nat.le_refl _, Nat.le_refl _⟩) hD hS hA (fun H locs hP hD hS => ?_)
                                refine lv_aload_n hx hb dX10_digest_240 rfl (lv_at hl 0 rfl) ?_
                                refine lv_aload_n hx hb dX10_digest_241 rfl (lv_at hl 0 rfl) ?_
                                refine gM_m_hours S hK hP q964 dX10_digest_242 ?_
                                refine lv_iload_n hx hb dX10_digest_245 rfl (lv_at hl 1 rfl) ?_
                                obtain ⟨h246, hf⟩ := if_in hf
                                refine lM_10 S hK hP h246 dX10_digest_246 ?_
                                refine lv_i2l (v := ((ga q237 10 v1_210.toNatClampNeg)).toInt64) hx hb dX10_digest_247 rfl ?_
                                obtain ⟨q248, h248, hf⟩ := ob_some hf
                                refine u_callv0 (u_runV (rest := []) S (c_X10_note l D cy ad q237 (((ga q237 10 v1_210.toNatClampNeg)).toInt64) q248 h248 aw ac H.size) iX10_note vX10_note q1463 ⟨Nat.le_of_ble_eq_true rfl, Nat.le_of_ble_eq_true rfl⟩ hK hP hD (q0 := 0) rfl rfl rfl hl.1 (Nat.le_of_ble_eq_true rfl) dX10_digest_248 ⟨Nat.le_refl _, Nat.le_refl _⟩) hD hS hA (fun H locs hP hD hS => ?_)
                                refine lv_aload_n hx hb dX10_digest_251 rfl (lv_at hl 0 rfl) ?_
                                refine lv_aload_n hx hb dX10_digest_252 rfl (lv_at hl 0 rfl) ?_
                                refine gM_m_rests S hK hP q965 dX10_digest_253 ?_
                                refine lv_iload_n hx hb dX10_digest_256 rfl (lv_at hl 1 rfl) ?_
                                obtain ⟨h257, hf⟩ := if_in hf
                                refine lM_11 S hK hP h257 dX10_digest_257 ?_
                                refine lv_i2l (v := ((ga q248 11 v1_210.toNatClampNeg)).toInt64) hx hb dX10_digest_258 rfl ?_
                                obtain ⟨q259, h259, hf⟩ := ob_some hf
                                refine u_callv0 (u_runV (rest := []) S (c_X10_note l D cy ad q248 (((ga q248 11 v1_210.toNatClampNeg)).toInt64) q259 h259 aw ac H.size) iX10_note vX10_note q1463 ⟨Nat.le_of_ble_eq_true rfl, Nat.le_of_ble_eq_true rfl⟩ hK hP hD (q0 := 0) rfl rfl rfl hl.1 (Nat.le_of_ble_eq_true rfl) dX10_digest_259 ⟨Nat.le_refl _, Nat.le_refl _⟩) hD hS hA (fun H locs hP hD hS => ?_)
                                refine lv_aload_n hx hb dX10_digest_262 rfl (lv_at hl 0 rfl) ?_
                                refine lv_aload_n hx hb dX10_digest_263 rfl (lv_at hl 0 rfl) ?_
                                refine gM_m_keys S hK hP q966 dX10_digest_264 ?_
                                refine lv_iload_n hx hb dX10_digest_267 rfl (lv_at hl 1 rfl) ?_
                                obtain ⟨h268, hf⟩ := if_in hf
                                refine lM_12 S hK hP h268 dX10_digest_268 ?_
                                refine lv_i2l (v := ((ga q259 12 v1_210.toNatClampNeg)).toInt64) hx hb dX10_digest_269 rfl ?_
                                obtain ⟨q270, h270, hf⟩ := ob_some hf
                                refine u_callv0 (u_runV (rest := []) S (c_X10_note l D cy ad q259 (((ga q259 12 v1_210.toNatClampNeg)).toInt64) q270 h270 aw ac H.size) iX10_note vX10_note q1463 ⟨Nat.le_of_ble_eq_true rfl, Nat.le_of_ble_eq_true rfl⟩ hK hP hD (q0 := 0) rfl rfl rfl hl.1 (Nat.le_of_ble_eq_true rfl) dX10_digest_270 ⟨Nat.le_refl _, Nat.le_refl _⟩) hD hS hA (fun H locs hP hD hS => ?_)
                                refine lv_iinc (v := (v1_210 + (1 : Int32))) (lv' := [(1, .int (v1_210 + (1 : Int32))), (0, .ref (ad 0))]) hx hb dX10_digest_273 hl (k := 1) rfl rfl (by decide) rfl (fun ls hl => ?_)
                                refine lv_goto (tgt := 210) hx hb dX10_digest_276 (by decide) ?_
                                exact ih210 (v1_210 + (1 : Int32)) q270 H locs ls hf hP hD hS (lv_sub hl [1, 0] rfl)
                          exact L210 KF (0 : Int32) σ183 H locs ls hf hP hD hS (lv_sub hl [1, 0] rfl)
                        · have hf := ifn c188 hf
                          refine lv_aload_n hx hb dX10_digest_191 rfl (lv_at hl 0 rfl) ?_
                          refine lv_aload_n hx hb dX10_digest_192 rfl (lv_at hl 0 rfl) ?_
                          refine gM_m_row S hK hP q960 dX10_digest_193 ?_
                          refine lv_iload_n hx hb dX10_digest_196 rfl (lv_at hl 1 rfl) ?_
                          obtain ⟨h197, hf⟩ := if_in hf
                          refine lM_7 S hK hP h197 dX10_digest_197 ?_
                          refine lv_i2l (v := ((ga σ183 7 v1_183.toNatClampNeg)).toInt64) hx hb dX10_digest_198 rfl ?_
                          obtain ⟨q199, h199, hf⟩ := ob_some hf
                          refine u_callv0 (u_runV (rest := []) S (c_X10_note l D cy ad σ183 (((ga σ183 7 v1_183.toNatClampNeg)).toInt64) q199 h199 aw ac H.size) iX10_note vX10_note q1463 ⟨Nat.le_of_ble_eq_true rfl, Nat.le_of_ble_eq_true rfl⟩ hK hP hD (q0 := 0) rfl rfl rfl hl.1 (Nat.le_of_ble_eq_true rfl) dX10_digest_199 ⟨Nat.le_refl _, Nat.le_refl _⟩) hD hS hA (fun H locs hP hD hS => ?_)
                          refine lv_iinc (v := (v1_183 + (1 : Int32))) (lv' := [(1, .int (v1_183 + (1 : Int32))), (0, .ref (ad 0))]) hx hb dX10_digest_202 hl (k := 1) rfl rfl (by decide) rfl (fun ls hl => ?_)
                          refine lv_goto (tgt := 183) hx hb dX10_digest_205 (by decide) ?_
                          exact ih183 (v1_183 + (1 : Int32)) q199 H locs ls hf hP hD hS (lv_sub hl [1, 0] rfl)
                    exact L183 KF (0 : Int32) σ143 H locs ls hf hP hD hS (lv_sub hl [1, 0] rfl)
                  · have hf := ifn c148 hf
                    refine lv_iconst (v := (0 : Int32)) hx hb dX10_digest_151 (by decide) ?_
                    refine lv_istore_n (lv' := [(2, .int (0 : Int32)), (0, .ref (ad 0)), (1, .int v1_143)]) hx hb dX10_digest_152 rfl hl (by decide) rfl (fun ls hl => ?_)
                    have L153 : ∀ (n153 : Nat) (v2_153 : Int32) (σ153 : St) (H : Heap) (locs : List Loc) (ls : Array Slot), fX10_digest_153 (fun σ143' v1_143' => fX10_digest_143 (fX10_digest_143_k)  n143 σ143' v1_143') (fX10_digest_153_k (fun σ143' v1_143' => fX10_digest_143 (fX10_digest_143_k)  n143 σ143' v1_143') v1_143) v1_143 n153 σ153 v2_153 = some q → va_P D vwCl (wM cy ad aw ac σ153) H → va_D A (wM cy ad aw ac σ153) → va_S A s.heap H locs → lv_has ls 3 [(0, .ref (ad 0)), (1, .int v1_143), (2, .int v2_153)] → W p l e (Rm 3 63 0 0) s m [.ref (ad 0)].toArray below meth c H locs 0 0 (Zl D (wM cy ad) A q.1 q.2 aw ac below [.ref (ad 0)].toArray s 0 0) (F0 m 153 ls []) := by
                      intro n153
                      induction n153 with
                      | zero =>
                        intro v2_153 σ153 H locs ls hf
                        cases hf
                      | succ n153 ih153 =>
                        intro v2_153 σ153 H locs ls hf hP hD hS hl
                        rw [fX10_digest_153] at hf
                        refine lv_iload_n hx hb dX10_digest_153 rfl (lv_at hl 2 rfl) ?_
                        refine lv_iconst (v := (5 : Int32)) hx hb dX10_digest_154 (by decide) ?_
                        refine lv_icmp_ge (tgt := 175) hx hb dX10_digest_155 (by decide) (fun c155 => ?_) (fun c155 => ?_)
                        · have hf := ifp c155 hf
                          have hl := lv_sub (l' := [(0, .ref (ad 0)), (1, .int v1_143), (2, .int v2_153)]) hl [0, 1, 2] rfl
                          unfold fX10_digest_153_k at hf
                          refine lv_iinc (v := (v1_143 + (1 : Int32))) (lv' := [(1, .int (v1_143 + (1 : Int32))), (0, .ref (ad 0)), (2, .int v2_153)]) hx hb dX10_digest_175 hl (k := 1) rfl rfl (by decide) rfl (fun ls hl => ?_)
                          refine lv_goto (tgt := 143) hx hb dX10_digest_178 (by decide) ?_
                          exact ih143 (v1_143 + (1 : Int32)) σ153 H locs ls hf hP hD hS (lv_sub hl [1, 0] rfl)
                        · have hf := ifn c155 hf
                          refine lv_aload_n hx hb dX10_digest_158 rfl (lv_at hl 0 rfl) ?_
                          refine lv_aload_n hx hb dX10_digest_159 rfl (lv_at hl 0 rfl) ?_
                          refine lv_iload_n hx hb dX10_digest_160 rfl (lv_at hl 1 rfl) ?_
                          refine lv_iload_n hx hb dX10_digest_161 rfl (lv_at hl 2 rfl) ?_
                          obtain ⟨r162, h162, hf⟩ := ob_some hf
                          refine u_calli0 (u_runV (rest := [.ref (ad 0)]) S (c_X10_aboutOf l D cy ad σ153 v1_143 v2_153 r162 h162 aw ac H.size) iX10_aboutOf vX10_aboutOf q1232 ⟨Nat.le_of_ble_eq_true rfl, Nat.le_of_ble_eq_true rfl⟩ hK hP hD (q0 := 0) rfl rfl rfl hl.1 (Nat.le_of_ble_eq_true rfl) dX10_digest_162 ⟨Nat.le_refl _, Nat.le_refl _⟩) hD hS hA (fun H locs hP hD hS => ?_)
                          refine lv_i2l (v := (r162).toInt64) hx hb dX10_digest_165 rfl ?_
                          obtain ⟨q166, h166, hf⟩ := ob_some hf
                          refine u_callv0 (u_runV (rest := []) S (c_X10_note l D cy ad σ153 ((r162).toInt64) q166 h166 aw ac H.size) iX10_note vX10_note q1463 ⟨Nat.le_of_ble_eq_true rfl, Nat.le_of_ble_eq_true rfl⟩ hK hP hD (q0 := 0) rfl rfl rfl hl.1 (Nat.le_of_ble_eq_true rfl) dX10_digest_166 ⟨Nat.le_refl _, Nat.le_refl _⟩) hD hS hA (fun H locs hP hD hS => ?_)
                          refine lv_iinc (v := (v2_153 + (1 : Int32))) (lv' := [(2, .int (v2_153 + (1 : Int32))), (0, .ref (ad 0)), (1, .int v1_143)]) hx hb dX10_digest_169 hl (k := 2) rfl rfl (by decide) rfl (fun ls hl => ?_)
                          refine lv_goto (tgt := 153) hx hb dX10_digest_172 (by decide) ?_
                          exact ih153 (v2_153 + (1 : Int32)) q166 H locs ls hf hP hD hS (lv_sub hl [1, 2, 0] rfl)
                    exact L153 KF (0 : Int32) σ143 H locs ls hf hP hD hS (lv_sub hl [1, 2, 0] rfl)
              exact L143 KF (0 : Int32) σ105 H locs ls hf hP hD hS (lv_sub hl [1, 0] rfl)
            · have hf := ifn c110 hf
              refine lv_aload_n hx hb dX10_digest_113 rfl (lv_at hl 0 rfl) ?_
              refine lv_aload_n hx hb dX10_digest_114 rfl (lv_at hl 0 rfl) ?_
              refine gM_m_weight S hK hP q952 dX10_digest_115 ?_
              refine lv_iload_n hx hb dX10_digest_118 rfl (lv_at hl 1 rfl) ?_
              obtain ⟨h119, hf⟩ := if_in hf
              refine lM_1 S hK hP h119 dX10_digest_119 ?_
              refine lv_i2l (v := ((ga σ105 1 v1_105.toNatClampNeg)).toInt64) hx hb dX10_digest_120 rfl ?_
              obtain ⟨q121, h121, hf⟩ := ob_some hf
              refine u_callv0 (u_runV (rest := []) S (c_X10_note l D cy ad σ105 (((ga σ105 1 v1_105.toNatClampNeg)).toInt64) q121 h121 aw ac H.size) iX10_note vX10_note q1463 ⟨Nat.le_of_ble_eq_true rfl, Nat.le_of_ble_eq_true rfl⟩ hK hP hD (q0 := 0) rfl rfl rfl hl.1 (Nat.le_of_ble_eq_true rfl) dX10_digest_121 ⟨Nat.le_refl _, Nat.le_refl _⟩) hD hS hA (fun H locs hP hD hS => ?_)
              refine lv_aload_n hx hb dX10_digest_124 rfl (lv_at hl 0 rfl) ?_
              refine lv_aload_n hx hb dX10_digest_125 rfl (lv_at hl 0 rfl) ?_
              refine gM_m_breath S hK hP q953 dX10_digest_126 ?_
              refine lv_iload_n hx hb dX10_digest_129 rfl (lv_at hl 1 rfl) ?_
              obtain ⟨h130, hf⟩ := if_in hf
              refine lM_2 S hK hP h130 dX10_digest_130 ?_
              refine lv_i2l (v := ((ga q121 2 v1_105.toNatClampNeg)).toInt64) hx hb dX10_digest_131 rfl ?_
              obtain ⟨q132, h132, hf⟩ := ob_some hf
              refine u_callv0 (u_runV (rest := []) S (c_X10_note l D cy ad q121 (((ga q121 2 v1_105.toNatClampNeg)).toInt64) q132 h132 aw ac H.size) iX10_note vX10_note q1463 ⟨Nat.le_of_ble_eq_true rfl, Nat.le_of_ble_eq_true rfl⟩ hK hP hD (q0 := 0) rfl rfl rfl hl.1 (Nat.le_of_ble_eq_true rfl) dX10_digest_132 ⟨Nat.le_refl _, Nat.le_refl _⟩) hD hS hA (fun H locs hP hD hS => ?_)
              refine lv_iinc (v := (v1_105 + (1 : Int32))) (lv' := [(1, .int (v1_105 + (1 : Int32))), (0, .ref (ad 0))]) hx hb dX10_digest_135 hl (k := 1) rfl rfl (by decide) rfl (fun ls hl => ?_)
              refine lv_goto (tgt := 105) hx hb dX10_digest_138 (by decide) ?_
              exact ih105 (v1_105 + (1 : Int32)) q132 H locs ls hf hP hD hS (lv_sub hl [1, 0] rfl)
        exact L105 KF (0 : Int32) q100 H locs ls hf hP hD hS (lv_sub hl [1, 0] rfl)
      · have hf := ifn c12 hf
        refine lv_aload_n hx hb dX10_digest_15 rfl (lv_at hl 0 rfl) ?_
        refine lv_aload_n hx hb dX10_digest_16 rfl (lv_at hl 0 rfl) ?_
        refine lv_iload_n hx hb dX10_digest_17 rfl (lv_at hl 1 rfl) ?_
        obtain ⟨r18, h18, hf⟩ := ob_some hf
        refine u_calli0 (u_runV (rest := [.ref (ad 0)]) S (c_X10_count l D cy ad σ9 v1_9 r18 h18 aw ac H.size) iX10_count vX10_count q1462 ⟨Nat.le_of_ble_eq_true rfl, Nat.le_of_ble_eq_true rfl⟩ hK hP hD (q0 := 0) rfl rfl rfl hl.1 (Nat.le_of_ble_eq_true rfl) dX10_digest_18 ⟨Nat.le_refl _, Nat.le_refl _⟩) hD hS hA (fun H locs hP hD hS => ?_)
        refine lv_i2l (v := (r18).toInt64) hx hb dX10_digest_21 rfl ?_
        obtain ⟨q22, h22, hf⟩ := ob_some hf
        refine u_callv0 (u_runV (rest := []) S (c_X10_note l D cy ad σ9 ((r18).toInt64) q22 h22 aw ac H.size) iX10_note vX10_note q1463 ⟨Nat.le_of_ble_eq_true rfl, Nat.le_of_ble_eq_true rfl⟩ hK hP hD (q0 := 0) rfl rfl rfl hl.1 (Nat.le_of_ble_eq_true rfl) dX10_digest_22 ⟨Nat.le_refl _, Nat.le_refl _⟩) hD hS hA (fun H locs hP hD hS => ?_)
        refine lv_iinc (v := (v1_9 + (1 : Int32))) (lv' := [(1, .int (v1_9 + (1 : Int32))), (0, .ref (ad 0))]) hx hb dX10_digest_25 hl (k := 1) rfl rfl (by decide) rfl (fun ls hl => ?_)
        refine lv_goto (tgt := 9) hx hb dX10_digest_28 (by decide) ?_
        exact ih9 (v1_9 + (1 : Int32)) q22 H locs ls hf hP hD hS (lv_sub hl [1, 0] rfl)
  exact L9 KF (0 : Int32) (sl σ 5 (271 : Int64)) H locs ls hf hP hD hS (lv_sub hl [1, 0] rfl)
