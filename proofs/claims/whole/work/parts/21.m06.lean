theorem iX9_about : YI yX9_about cX9_about 3 (some .int) 2 := ⟨q487, q1, by decide, by decide, by decide +kernel⟩
theorem vX9_about : YV yX9_about := ⟨q485, q486⟩
set_option maxRecDepth 100000 in
set_option maxHeartbeats 4000000 in
theorem c_X9_about (l : Launch) (D : va_G) (cy : Nat → ClassId) (ad : Nat → Nat) (σ : St) (v1 : Int32) (v2 : Int32) (r : Int32) (hf : fX9_about σ v1 v2 = some r) : Ci l D cy (wX cy ad) yX9_about cX9_about 3 .int 4 86 [.ref (ad 0), .int v1, .int v2] σ r σ 0 0 := by
  refine Ci.enter (by decide) (Nat.le_of_ble_eq_true rfl) ?_
  intro aw ac p e s m below meth c A H locs S hr hlocks hA hK hP hD hS ls hl
  have hx := S.1
  have hb := S.2.1
  have hl : lv_has ls 3 [(0, .ref (ad 0)), (1, .int v1), (2, .int v2)] := hl
  unfold fX9_about at hf
  refine lv_iload_n hx hb dX9_about_0 rfl (lv_at hl 1 rfl) ?_
  refine lv_iconst (v := (0 : Int32)) hx hb dX9_about_1 (by decide) ?_
  refine lv_aload_n hx hb dX9_about_2 rfl (lv_at hl 0 rfl) ?_
  refine gX_x_ropes S hK hP q295 dX9_about_3 ?_
  refine gX_ropes_size S hK hP q86 dX9_about_6 ?_
  refine lv_iconst (v := (1 : Int32)) hx hb dX9_about_9 (by decide) ?_
  refine lv_isub hx hb dX9_about_10 ?_
  obtain ⟨r11, h11, hf⟩ := ob_some hf
  refine p_calli0 (u_runS (rest := []) S (c_X9_within l D cy σ v1 (0 : Int32) ((gi σ 7) - (1 : Int32)) r11 h11 aw ac H.size) iX9_within q326 q325 ⟨Nat.le_of_ble_eq_true rfl, Nat.le_of_ble_eq_true rfl⟩ hK wN_P (wN_D (A := fun _ => True)) rfl hl.1 (Nat.le_of_ble_eq_true rfl) dX9_about_11 ⟨Nat.le_refl _, Nat.le_refl _⟩) hP hS hA (fun H locs hP hS => ?_)
  refine lv_if_eq (tgt := 26) hx hb dX9_about_14 (by decide) (fun c14 => ?_) (fun c14 => ?_)
  · have hf := ifp c14 hf
    refine lv_bipush (v := (-2 : Int32)) hx hb dX9_about_26 (by decide) ?_
    exact u_iretr hx hb hr hlocks rfl hP hD hS dX9_about_28 hf (fun _ => rfl)
  · have hf := ifn c14 hf
    refine lv_iload_n hx hb dX9_about_17 rfl (lv_at hl 2 rfl) ?_
    refine lv_iconst (v := (0 : Int32)) hx hb dX9_about_18 (by decide) ?_
    refine lv_iconst (v := (4 : Int32)) hx hb dX9_about_19 (by decide) ?_
    obtain ⟨r20, h20, hf⟩ := ob_some hf
    refine p_calli0 (u_runS (rest := []) S (c_X9_within l D cy σ v2 (0 : Int32) (4 : Int32) r20 h20 aw ac H.size) iX9_within q326 q325 ⟨Nat.le_of_ble_eq_true rfl, Nat.le_of_ble_eq_true rfl⟩ hK wN_P (wN_D (A := fun _ => True)) rfl hl.1 (Nat.le_of_ble_eq_true rfl) dX9_about_20 ⟨Nat.le_refl _, Nat.le_refl _⟩) hP hS hA (fun H locs hP hS => ?_)
    refine lv_if_ne (tgt := 29) hx hb dX9_about_23 (by decide) (fun c23 => ?_) (fun c23 => ?_)
    · have hf := ifn c23 hf
      refine lv_aload_n hx hb dX9_about_29 rfl (lv_at hl 0 rfl) ?_
      refine gX_x_ropes S hK hP q295 dX9_about_30 ?_
      refine lv_iload_n hx hb dX9_about_33 rfl (lv_at hl 1 rfl) ?_
      refine lv_iload_n hx hb dX9_about_34 rfl (lv_at hl 2 rfl) ?_
      obtain ⟨r35, h35, hf⟩ := ob_some hf
      refine u_calli0 (u_runV (rest := []) S (c_X5_tell l D cy ad σ v1 v2 r35 h35 aw ac H.size) iX5_tell vX5_tell q488 ⟨Nat.le_of_ble_eq_true rfl, Nat.le_of_ble_eq_true rfl⟩ hK hP hD (q0 := 3) rfl rfl rfl hl.1 (Nat.le_of_ble_eq_true rfl) dX9_about_35 ⟨Nat.le_refl _, Nat.le_refl _⟩) hD hS hA (fun H locs hP hD hS => ?_)
      exact u_iretr hx hb hr hlocks rfl hP hD hS dX9_about_38 hf (fun _ => rfl)
    · have hf := ifp c23 hf
      refine lv_bipush (v := (-2 : Int32)) hx hb dX9_about_26 (by decide) ?_
      exact u_iretr hx hb hr hlocks rfl hP hD hS dX9_about_28 hf (fun _ => rfl)
theorem iX9_pull : YI yX9_pull cX9_pull 3 (some .int) 2 := ⟨q495, q1, by decide, by decide, by decide +kernel⟩
theorem vX9_pull : YV yX9_pull := ⟨q493, q494⟩
set_option maxRecDepth 100000 in
set_option maxHeartbeats 4000000 in
theorem c_X9_pull (l : Launch) (D : va_G) (cy : Nat → ClassId) (ad : Nat → Nat) (σ : St) (v1 : Int32) (v2 : Int32) (q : Int32 × St) (hf : fX9_pull σ v1 v2 = some q) : Ci l D cy (wX cy ad) yX9_pull cX9_pull 3 .int 4 86 [.ref (ad 0), .int v1, .int v2] σ q.1 q.2 0 0 := by
  refine Ci.enter (by decide) (Nat.le_of_ble_eq_true rfl) ?_
  intro aw ac p e s m below meth c A H locs S hr hlocks hA hK hP hD hS ls hl
  have hx := S.1
  have hb := S.2.1
  have hl : lv_has ls 3 [(0, .ref (ad 0)), (1, .int v1), (2, .int v2)] := hl
  unfold fX9_pull at hf
  refine lv_iload_n hx hb dX9_pull_0 rfl (lv_at hl 1 rfl) ?_
  refine lv_iconst (v := (0 : Int32)) hx hb dX9_pull_1 (by decide) ?_
  refine lv_aload_n hx hb dX9_pull_2 rfl (lv_at hl 0 rfl) ?_
  refine gX_x_ropes S hK hP q295 dX9_pull_3 ?_
  refine gX_ropes_size S hK hP q86 dX9_pull_6 ?_
  refine lv_iconst (v := (1 : Int32)) hx hb dX9_pull_9 (by decide) ?_
  refine lv_isub hx hb dX9_pull_10 ?_
  obtain ⟨r11, h11, hf⟩ := ob_some hf
  refine p_calli0 (u_runS (rest := []) S (c_X9_within l D cy σ v1 (0 : Int32) ((gi σ 7) - (1 : Int32)) r11 h11 aw ac H.size) iX9_within q326 q325 ⟨Nat.le_of_ble_eq_true rfl, Nat.le_of_ble_eq_true rfl⟩ hK wN_P (wN_D (A := fun _ => True)) rfl hl.1 (Nat.le_of_ble_eq_true rfl) dX9_pull_11 ⟨Nat.le_refl _, Nat.le_refl _⟩) hP hS hA (fun H locs hP hS => ?_)
  refine lv_if_eq (tgt := 24) hx hb dX9_pull_14 (by decide) (fun c14 => ?_) (fun c14 => ?_)
  · have hf := ifp c14 hf
    refine lv_bipush (v := (-2 : Int32)) hx hb dX9_pull_24 (by decide) ?_
    exact u_iretw hx hb hr hlocks rfl hP hD hS dX9_pull_26 hf (fun _ => rfl)
  · have hf := ifn c14 hf
    refine lv_iload_n hx hb dX9_pull_17 rfl (lv_at hl 2 rfl) ?_
    obtain ⟨r18, h18, hf⟩ := ob_some hf
    refine p_calli0 (u_runS (rest := []) S (c_X9_isLoad l D cy σ v2 r18 h18 aw ac H.size) iX9_isLoad q403 q402 ⟨Nat.le_of_ble_eq_true rfl, Nat.le_of_ble_eq_true rfl⟩ hK wN_P (wN_D (A := fun _ => True)) rfl hl.1 (Nat.le_of_ble_eq_true rfl) dX9_pull_18 ⟨Nat.le_refl _, Nat.le_refl _⟩) hP hS hA (fun H locs hP hS => ?_)
    refine lv_if_ne (tgt := 27) hx hb dX9_pull_21 (by decide) (fun c21 => ?_) (fun c21 => ?_)
    · have hf := ifn c21 hf
      refine lv_aload_n hx hb dX9_pull_27 rfl (lv_at hl 0 rfl) ?_
      refine gX_x_ropes S hK hP q295 dX9_pull_28 ?_
      refine gX_ropes_parted S hK hP q84 dX9_pull_31 ?_
      refine lv_iload_n hx hb dX9_pull_34 rfl (lv_at hl 1 rfl) ?_
      obtain ⟨h35, hf⟩ := if_in hf
      refine lX_15 S hK hP h35 dX9_pull_35 ?_
      refine lv_if_eq (tgt := 42) hx hb dX9_pull_36 (by decide) (fun c36 => ?_) (fun c36 => ?_)
      · have hf := ifp c36 hf
        refine lv_aload_n hx hb dX9_pull_42 rfl (lv_at hl 0 rfl) ?_
        refine gX_x_ropes S hK hP q295 dX9_pull_43 ?_
        refine lv_iload_n hx hb dX9_pull_46 rfl (lv_at hl 1 rfl) ?_
        refine lv_iload_n hx hb dX9_pull_47 rfl (lv_at hl 2 rfl) ?_
        obtain ⟨q48, h48, hf⟩ := ob_some hf
        refine u_calli0 (u_runV (rest := []) S (c_X5_survives l D cy ad σ v1 v2 q48 h48 aw ac H.size) iX5_survives vX5_survives q446 ⟨Nat.le_of_ble_eq_true rfl, Nat.le_of_ble_eq_true rfl⟩ hK hP hD (q0 := 3) rfl rfl rfl hl.1 (Nat.le_of_ble_eq_true rfl) dX9_pull_48 ⟨Nat.le_refl _, Nat.le_refl _⟩) hD hS hA (fun H locs hP hD hS => ?_)
        refine lv_if_eq (tgt := 58) hx hb dX9_pull_51 (by decide) (fun c51 => ?_) (fun c51 => ?_)
        · have hf := ifp c51 hf
          refine lv_iconst (v := (0 : Int32)) hx hb dX9_pull_58 (by decide) ?_
          exact u_iretw hx hb hr hlocks rfl hP hD hS dX9_pull_59 hf (fun _ => rfl)
        · have hf := ifn c51 hf
          refine lv_iconst (v := (1 : Int32)) hx hb dX9_pull_54 (by decide) ?_
          refine lv_goto (tgt := 59) hx hb dX9_pull_55 (by decide) ?_
          exact u_iretw hx hb hr hlocks rfl hP hD hS dX9_pull_59 hf (fun _ => rfl)
      · have hf := ifn c36 hf
        refine lv_bipush (v := (-3 : Int32)) hx hb dX9_pull_39 (by decide) ?_
        exact u_iretw hx hb hr hlocks rfl hP hD hS dX9_pull_41 hf (fun _ => rfl)
    · have hf := ifp c21 hf
      refine lv_bipush (v := (-2 : Int32)) hx hb dX9_pull_24 (by decide) ?_
      exact u_iretw hx hb hr hlocks rfl hP hD hS dX9_pull_26 hf (fun _ => rfl)
theorem iX9_load : YI yX9_load cX9_load 2 (some .int) 1 := ⟨q499, q1, by decide, by decide, by decide +kernel⟩
theorem vX9_load : YV yX9_load := ⟨q497, q498⟩
set_option maxRecDepth 100000 in
set_option maxHeartbeats 4000000 in
theorem c_X9_load (l : Launch) (D : va_G) (cy : Nat → ClassId) (ad : Nat → Nat) (σ : St) (v1 : Int32) (q : Int32 × St) (hf : fX9_load σ v1 = some q) : Ci l D cy (wX cy ad) yX9_load cX9_load 2 .int 2 42 [.ref (ad 0), .int v1] σ q.1 q.2 0 0 := by
  refine Ci.enter (by decide) (Nat.le_of_ble_eq_true rfl) ?_
  intro aw ac p e s m below meth c A H locs S hr hlocks hA hK hP hD hS ls hl
  have hx := S.1
  have hb := S.2.1
  have hl : lv_has ls 2 [(0, .ref (ad 0)), (1, .int v1)] := hl
  unfold fX9_load at hf
  refine lv_iload_n hx hb dX9_load_0 rfl (lv_at hl 1 rfl) ?_
  obtain ⟨r1, h1, hf⟩ := ob_some hf
  refine p_calli0 (u_runS (rest := []) S (c_X9_isLoad l D cy σ v1 r1 h1 aw ac H.size) iX9_isLoad q403 q402 ⟨Nat.le_of_ble_eq_true rfl, Nat.le_of_ble_eq_true rfl⟩ hK wN_P (wN_D (A := fun _ => True)) rfl hl.1 (Nat.le_of_ble_eq_true rfl) dX9_load_1 ⟨Nat.le_refl _, Nat.le_refl _⟩) hP hS hA (fun H locs hP hS => ?_)
  refine lv_if_eq (tgt := 18) hx hb dX9_load_4 (by decide) (fun c4 => ?_) (fun c4 => ?_)
  · have hf := ifp c4 hf
    refine lv_bipush (v := (-2 : Int32)) hx hb dX9_load_18 (by decide) ?_
    exact u_iretw hx hb hr hlocks rfl hP hD hS dX9_load_20 hf (fun _ => rfl)
  · have hf := ifn c4 hf
    refine lv_aload_n hx hb dX9_load_7 rfl (lv_at hl 0 rfl) ?_
    refine gX_x_row S hK hP q296 dX9_load_8 ?_
    refine lv_iload_n hx hb dX9_load_11 rfl (lv_at hl 1 rfl) ?_
    obtain ⟨q12, h12, hf⟩ := ob_some hf
    refine u_calli0 (u_runV (rest := []) S (c_X6_append l D cy ad σ v1 q12 h12 aw ac H.size) iX6_append vX6_append q500 ⟨Nat.le_of_ble_eq_true rfl, Nat.le_of_ble_eq_true rfl⟩ hK hP hD (q0 := 4) rfl rfl rfl hl.1 (Nat.le_of_ble_eq_true rfl) dX9_load_12 ⟨Nat.le_refl _, Nat.le_refl _⟩) hD hS hA (fun H locs hP hD hS => ?_)
    refine lv_goto (tgt := 20) hx hb dX9_load_15 (by decide) ?_
    exact u_iretw hx hb hr hlocks rfl hP hD hS dX9_load_20 hf (fun _ => rfl)
theorem iX9_clear : YI yX9_clear cX9_clear 2 (some .int) 0 := ⟨q507, q1, by decide, by decide, by decide +kernel⟩
theorem vX9_clear : YV yX9_clear := ⟨q505, q506⟩
set_option maxRecDepth 100000 in
set_option maxHeartbeats 4000000 in
theorem c_X9_clear (l : Launch) (D : va_G) (cy : Nat → ClassId) (ad : Nat → Nat) (σ : St) (q : Int32 × St) (hf : fX9_clear σ = some q) : Ci l D cy (wX cy ad) yX9_clear cX9_clear 2 .int 0 0 [.ref (ad 0)] σ q.1 q.2 0 0 := by
  refine Ci.enter (by decide) (Nat.le_of_ble_eq_true rfl) ?_
  intro aw ac p e s m below meth c A H locs S hr hlocks hA hK hP hD hS ls hl
  have hx := S.1
  have hb := S.2.1
  have hl : lv_has ls 2 [(0, .ref (ad 0))] := hl
  unfold fX9_clear at hf
  refine lv_aload_n hx hb dX9_clear_0 rfl (lv_at hl 0 rfl) ?_
  refine gX_x_row S hK hP q296 dX9_clear_1 ?_
  refine gX_row_size S hK hP q107 dX9_clear_4 ?_
  refine lv_istore_n (lv' := [(1, .int (gi σ 8)), (0, .ref (ad 0))]) hx hb dX9_clear_7 rfl hl (by decide) rfl (fun ls hl => ?_)
  refine lv_aload_n hx hb dX9_clear_8 rfl (lv_at hl 1 rfl) ?_
  refine gX_x_row S hK hP q296 dX9_clear_9 ?_
  refine lv_iconst (v := (0 : Int32)) hx hb dX9_clear_12 (by decide) ?_
  refine pX_row_size S hK hP hD hS q107 dX9_clear_13 (fun H locs hP hD hS => ?_)
  refine lv_iload_n hx hb dX9_clear_16 rfl (lv_at hl 0 rfl) ?_
  exact u_iretw hx hb hr hlocks rfl hP hD hS dX9_clear_17 hf (fun _ => rfl)
theorem iX9_bears : YI yX9_bears cX9_bears 2 (some .int) 1 := ⟨q511, q1, by decide, by decide, by decide +kernel⟩
theorem vX9_bears : YV yX9_bears := ⟨q509, q510⟩
set_option maxRecDepth 100000 in
set_option maxHeartbeats 4000000 in
theorem c_X9_bears (l : Launch) (D : va_G) (cy : Nat → ClassId) (ad : Nat → Nat) (σ : St) (v1 : Int32) (r : Int32) (hf : fX9_bears σ v1 = some r) : Ci l D cy (wX cy ad) yX9_bears cX9_bears 2 .int 3 68 [.ref (ad 0), .int v1] σ r σ 0 0 := by
  refine Ci.enter (by decide) (Nat.le_of_ble_eq_true rfl) ?_
  intro aw ac p e s m below meth c A H locs S hr hlocks hA hK hP hD hS ls hl
  have hx := S.1
  have hb := S.2.1
  have hl : lv_has ls 2 [(0, .ref (ad 0)), (1, .int v1)] := hl
  unfold fX9_bears at hf
  refine lv_iload_n hx hb dX9_bears_0 rfl (lv_at hl 1 rfl) ?_
  obtain ⟨r1, h1, hf⟩ := ob_some hf
  refine p_calli0 (u_runS (rest := []) S (c_X9_isStrength l D cy σ v1 r1 h1 aw ac H.size) iX9_isStrength q474 q473 ⟨Nat.le_of_ble_eq_true rfl, Nat.le_of_ble_eq_true rfl⟩ hK wN_P (wN_D (A := fun _ => True)) rfl hl.1 (Nat.le_of_ble_eq_true rfl) dX9_bears_1 ⟨Nat.le_refl _, Nat.le_refl _⟩) hP hS hA (fun H locs hP hS => ?_)
  refine lv_if_eq (tgt := 18) hx hb dX9_bears_4 (by decide) (fun c4 => ?_) (fun c4 => ?_)
  · have hf := ifp c4 hf
    refine lv_bipush (v := (-2 : Int32)) hx hb dX9_bears_18 (by decide) ?_
    exact u_iretr hx hb hr hlocks rfl hP hD hS dX9_bears_20 hf (fun _ => rfl)
  · have hf := ifn c4 hf
    refine lv_aload_n hx hb dX9_bears_7 rfl (lv_at hl 0 rfl) ?_
    refine gX_x_row S hK hP q296 dX9_bears_8 ?_
    refine lv_iload_n hx hb dX9_bears_11 rfl (lv_at hl 1 rfl) ?_
    obtain ⟨r12, h12, hf⟩ := ob_some hf
    refine u_calli0 (u_runV (rest := []) S (c_X6_firstParting l D cy ad σ v1 r12 h12 aw ac H.size) iX6_firstParting vX6_firstParting q512 ⟨Nat.le_of_ble_eq_true rfl, Nat.le_of_ble_eq_true rfl⟩ hK hP hD (q0 := 4) rfl rfl rfl hl.1 (Nat.le_of_ble_eq_true rfl) dX9_bears_12 ⟨Nat.le_refl _, Nat.le_refl _⟩) hD hS hA (fun H locs hP hD hS => ?_)
    refine lv_goto (tgt := 20) hx hb dX9_bears_15 (by decide) ?_
    exact u_iretr hx hb hr hlocks rfl hP hD hS dX9_bears_20 hf (fun _ => rfl)
theorem iX9_blamed : YI yX9_blamed cX9_blamed 4 (some .int) 2 := ⟨q521, q1, by decide, by decide, by decide +kernel⟩
theorem vX9_blamed : YV yX9_blamed := ⟨q519, q520⟩
set_option maxRecDepth 100000 in
set_option maxHeartbeats 4000000 in
theorem c_X9_blamed (l : Launch) (D : va_G) (cy : Nat → ClassId) (ad : Nat → Nat) (σ : St) (v1 : Int32) (v2 : Int32) (r : Int32) (hf : fX9_blamed σ v1 v2 = some r) : Ci l D cy (wX cy ad) yX9_blamed cX9_blamed 4 .int 18 547 [.ref (ad 0), .int v1, .int v2] σ r σ 0 0 := by
  refine Ci.enter (by decide) (Nat.le_of_ble_eq_true rfl) ?_
  intro aw ac p e s m below meth c A H locs S hr hlocks hA hK hP hD hS ls hl
  have hx := S.1
  have hb := S.2.1
  have hl : lv_has ls 4 [(0, .ref (ad 0)), (1, .int v1), (2, .int v2)] := hl
  unfold fX9_blamed at hf
  refine lv_iload_n hx hb dX9_blamed_0 rfl (lv_at hl 1 rfl) ?_
  obtain ⟨r1, h1, hf⟩ := ob_some hf
  refine p_calli0 (u_runS (rest := []) S (c_X9_isStrength l D cy σ v1 r1 h1 aw ac H.size) iX9_isStrength q474 q473 ⟨Nat.le_of_ble_eq_true rfl, Nat.le_of_ble_eq_true rfl⟩ hK wN_P (wN_D (A := fun _ => True)) rfl hl.1 (Nat.le_of_ble_eq_true rfl) dX9_blamed_1 ⟨Nat.le_refl _, Nat.le_refl _⟩) hP hS hA (fun H locs hP hS => ?_)
  refine lv_if_eq (tgt := 24) hx hb dX9_blamed_4 (by decide) (fun c4 => ?_) (fun c4 => ?_)
  · have hf := ifp c4 hf
    refine lv_bipush (v := (-2 : Int32)) hx hb dX9_blamed_24 (by decide) ?_
    exact u_iretr hx hb hr hlocks rfl hP hD hS dX9_blamed_26 hf (fun _ => rfl)
  · have hf := ifn c4 hf
    refine lv_iload_n hx hb dX9_blamed_7 rfl (lv_at hl 2 rfl) ?_
    refine lv_iconst (v := (0 : Int32)) hx hb dX9_blamed_8 (by decide) ?_
    refine lv_aload_n hx hb dX9_blamed_9 rfl (lv_at hl 0 rfl) ?_
    refine gX_x_row S hK hP q296 dX9_blamed_10 ?_
    refine gX_row_size S hK hP q107 dX9_blamed_13 ?_
    refine lv_iconst (v := (1 : Int32)) hx hb dX9_blamed_16 (by decide) ?_
    refine lv_isub hx hb dX9_blamed_17 ?_
    obtain ⟨r18, h18, hf⟩ := ob_some hf
    refine p_calli0 (u_runS (rest := []) S (c_X9_within l D cy σ v2 (0 : Int32) ((gi σ 8) - (1 : Int32)) r18 h18 aw ac H.size) iX9_within q326 q325 ⟨Nat.le_of_ble_eq_true rfl, Nat.le_of_ble_eq_true rfl⟩ hK wN_P (wN_D (A := fun _ => True)) rfl hl.1 (Nat.le_of_ble_eq_true rfl) dX9_blamed_18 ⟨Nat.le_refl _, Nat.le_refl _⟩) hP hS hA (fun H locs hP hS => ?_)
    refine lv_if_ne (tgt := 27) hx hb dX9_blamed_21 (by decide) (fun c21 => ?_) (fun c21 => ?_)
    · have hf := ifn c21 hf
      refine lv_aload_n hx hb dX9_blamed_27 rfl (lv_at hl 0 rfl) ?_
      refine gX_x_row S hK hP q296 dX9_blamed_28 ?_
      refine lv_iload_n hx hb dX9_blamed_31 rfl (lv_at hl 1 rfl) ?_
      obtain ⟨r32, h32, hf⟩ := ob_some hf
      refine u_calli0 (u_runV (rest := []) S (c_X6_firstParting l D cy ad σ v1 r32 h32 aw ac H.size) iX6_firstParting vX6_firstParting q512 ⟨Nat.le_of_ble_eq_true rfl, Nat.le_of_ble_eq_true rfl⟩ hK hP hD (q0 := 4) rfl rfl rfl hl.1 (Nat.le_of_ble_eq_true rfl) dX9_blamed_32 ⟨Nat.le_refl _, Nat.le_refl _⟩) hD hS hA (fun H locs hP hD hS => ?_)
      refine lv_istore_n (lv' := [(3, .int r32), (0, .ref (ad 0)), (1, .int v1), (2, .int v2)]) hx hb dX9_blamed_35 rfl hl (by decide) rfl (fun ls hl => ?_)
      refine lv_iload_n hx hb dX9_blamed_36 rfl (lv_at hl 0 rfl) ?_
      refine lv_iconst (v := (-1 : Int32)) hx hb dX9_blamed_37 (by decide) ?_
      refine lv_icmp_eq (tgt := 49) hx hb dX9_blamed_38 (by decide) (fun c38 => ?_) (fun c38 => ?_)
      · have hf := ifp c38 hf
        refine lv_aload_n hx hb dX9_blamed_49 rfl (lv_at hl 1 rfl) ?_
        refine gX_x_row S hK hP q296 dX9_blamed_50 ?_
        refine lv_iload_n hx hb dX9_blamed_53 rfl (lv_at hl 2 rfl) ?_
        refine lv_iload_n hx hb dX9_blamed_54 rfl (lv_at hl 3 rfl) ?_
        obtain ⟨r55, h55, hf⟩ := ob_some hf
        refine u_calli0 (u_runV (rest := []) S (c_X6_leastBlame l D cy ad σ v1 v2 r55 h55 aw ac H.size) iX6_leastBlame vX6_leastBlame q522 ⟨Nat.le_of_ble_eq_true rfl, Nat.le_of_ble_eq_true rfl⟩ hK hP hD (q0 := 4) rfl rfl rfl hl.1 (Nat.le_of_ble_eq_true rfl) dX9_blamed_55 ⟨Nat.le_refl _, Nat.le_refl _⟩) hD hS hA (fun H locs hP hD hS => ?_)
        exact u_iretr hx hb hr hlocks rfl hP hD hS dX9_blamed_58 hf (fun _ => rfl)
      · have hf := ifn c38 hf
        refine lv_iload_n hx hb dX9_blamed_41 rfl (lv_at hl 0 rfl) ?_
        refine lv_iload_n hx hb dX9_blamed_42 rfl (lv_at hl 3 rfl) ?_
        refine lv_icmp_gt (tgt := 49) hx hb dX9_blamed_43 (by decide) (fun c43 => ?_) (fun c43 => ?_)
        · have hf := ifp c43 hf
          refine lv_aload_n hx hb dX9_blamed_49 rfl (lv_at hl 1 rfl) ?_
          refine gX_x_row S hK hP q296 dX9_blamed_50 ?_
          refine lv_iload_n hx hb dX9_blamed_53 rfl (lv_at hl 2 rfl) ?_
          refine lv_iload_n hx hb dX9_blamed_54 rfl (lv_at hl 3 rfl) ?_
          obtain ⟨r55, h55, hf⟩ := ob_some hf
          refine u_calli0 (u_runV (rest := []) S (c_X6_leastBlame l D cy ad σ v1 v2 r55 h55 aw ac H.size) iX6_leastBlame vX6_leastBlame q522 ⟨Nat.le_of_ble_eq_true rfl, Nat.le_of_ble_eq_true rfl⟩ hK hP hD (q0 := 4) rfl rfl rfl hl.1 (Nat.le_of_ble_eq_true rfl) dX9_blamed_55 ⟨Nat.le_refl _, Nat.le_refl _⟩) hD hS hA (fun H locs hP hD hS => ?_)
          exact u_iretr hx hb hr hlocks rfl hP hD hS dX9_blamed_58 hf (fun _ => rfl)
        · have hf := ifn c43 hf
          refine lv_bipush (v := (-3 : Int32)) hx hb dX9_blamed_46 (by decide) ?_
          exact u_iretr hx hb hr hlocks rfl hP hD hS dX9_blamed_48 hf (fun _ => rfl)
    · have hf := ifp c21 hf
      refine lv_bipush (v := (-2 : Int32)) hx hb dX9_blamed_24 (by decide) ?_
      exact u_iretr hx hb hr hlocks rfl hP hD hS dX9_blamed_26 hf (fun _ => rfl)
theorem iX9_isPlace : YI yX9_isPlace cX9_isPlace 2 (some .boolean) 2 := ⟨q539, q1, by decide, by decide, by decide +kernel⟩
set_option maxRecDepth 100000 in
set_option maxHeartbeats 4000000 in
theorem c_X9_isPlace (l : Launch) (D : va_G) (cy : Nat → ClassId) (σ : St) (v0 : Int32) (v1 : Int32) (r : Int32) (hf : fX9_isPlace v0 v1 = some r) : Ci l D cy wN yX9_isPlace cX9_isPlace 2 .boolean 1 22 [.int v0, .int v1] σ r σ 0 0 := by
  refine Ci.enter (by decide) (Nat.le_of_ble_eq_true rfl) ?_
  intro aw ac p e s m below meth c A H locs S hr hlocks hA hK hP hD hS ls hl
  have hx := S.1
  have hb := S.2.1
  have hl : lv_has ls 2 [(0, .int v0), (1, .int v1)] := hl
  unfold fX9_isPlace at hf
  refine lv_iload_n hx hb dX9_isPlace_0 rfl (lv_at hl 0 rfl) ?_
  refine lv_iconst (v := (0 : Int32)) hx hb dX9_isPlace_1 (by decide) ?_
  refine lv_bipush (v := (30 : Int32)) hx hb dX9_isPlace_2 (by decide) ?_
  obtain ⟨r4, h4, hf⟩ := ob_some hf
  refine p_calli0 (u_runS (rest := []) S (c_X9_within l D cy σ v0 (0 : Int32) (30 : Int32) r4 h4 aw ac H.size) iX9_within q326 q325 ⟨Nat.le_of_ble_eq_true rfl, Nat.le_of_ble_eq_true rfl⟩ hK wN_P (wN_D (A := fun _ => True)) rfl hl.1 (Nat.le_of_ble_eq_true rfl) dX9_isPlace_4 ⟨Nat.le_refl _, Nat.le_refl _⟩) hP hS hA (fun H locs hP hS => ?_)
  refine lv_if_eq (tgt := 24) hx hb dX9_isPlace_7 (by decide) (fun c7 => ?_) (fun c7 => ?_)
  · have hf := ifp c7 hf
    refine lv_iconst (v := (0 : Int32)) hx hb dX9_isPlace_24 (by decide) ?_
    exact u_iretr hx hb hr hlocks rfl hP hD hS dX9_isPlace_25 hf (fun _ => rfl)
  · have hf := ifn c7 hf
    refine lv_iload_n hx hb dX9_isPlace_10 rfl (lv_at hl 1 rfl) ?_
    refine lv_iconst (v := (0 : Int32)) hx hb dX9_isPlace_11 (by decide) ?_
    refine lv_bipush (v := (12 : Int32)) hx hb dX9_isPlace_12 (by decide) ?_
    obtain ⟨r14, h14, hf⟩ := ob_some hf
    refine p_calli0 (u_runS (rest := []) S (c_X9_within l D cy σ v1 (0 : Int32) (12 : Int32) r14 h14 aw ac H.size) iX9_within q326 q325 ⟨Nat.le_of_ble_eq_true rfl, Nat.le_of_ble_eq_true rfl⟩ hK wN_P (wN_D (A := fun _ => True)) rfl hl.1 (Nat.le_of_ble_eq_true rfl) dX9_isPlace_14 ⟨Nat.le_refl _, Nat.le_refl _⟩) hP hS hA (fun H locs hP hS => ?_)
    refine lv_if_eq (tgt := 24) hx hb dX9_isPlace_17 (by decide) (fun c17 => ?_) (fun c17 => ?_)
    · have hf := ifp c17 hf
      refine lv_iconst (v := (0 : Int32)) hx hb dX9_isPlace_24 (by decide) ?_
      exact u_iretr hx hb hr hlocks rfl hP hD hS dX9_isPlace_25 hf (fun _ => rfl)
    · have hf := ifn c17 hf
      refine lv_iconst (v := (1 : Int32)) hx hb dX9_isPlace_20 (by decide) ?_
      refine lv_goto (tgt := 25) hx hb dX9_isPlace_21 (by decide) ?_
      exact u_iretr hx hb hr hlocks rfl hP hD hS dX9_isPlace_25 hf (fun _ => rfl)
theorem iX9_forgetPlan : YI yX9_forgetPlan cX9_forgetPlan 1 none 0 := ⟨q547, q1, by decide, by decide, by decide +kernel⟩
theorem vX9_forgetPlan : YV yX9_forgetPlan := ⟨q546, qs2⟩
set_option maxRecDepth 100000 in
set_option maxHeartbeats 4000000 in
theorem c_X9_forgetPlan (l : Launch) (D : va_G) (cy : Nat → ClassId) (ad : Nat → Nat) (σ : St) (q : St) (hf : fX9_forgetPlan σ = some q) : Cv l D cy (wX cy ad) yX9_forgetPlan cX9_forgetPlan 1 1 20 [.ref (ad 0)] σ q 0 0 := by
  refine Cv.enter (by decide) (Nat.le_of_ble_eq_true rfl) ?_
  intro aw ac p e s m below meth c A H locs S hr hlocks hA hK hP hD hS ls hl
  have hx := S.1
  have hb := S.2.1
  have hl : lv_has ls 1 [(0, .ref (ad 0))] := hl
  unfold fX9_forgetPlan at hf
  refine lv_aload_n hx hb dX9_forgetPlan_0 rfl (lv_at hl 0 rfl) ?_
  refine gX_x_planner S hK hP q299 dX9_forgetPlan_1 ?_
  obtain ⟨q4, h4, hf⟩ := ob_some hf
  refine u_callv0 (u_runV (rest := []) S (c_X4_forget l D cy ad σ q4 h4 aw ac H.size) iX4_forget vX4_forget q548 ⟨Nat.le_of_ble_eq_true rfl, Nat.le_of_ble_eq_true rfl⟩ hK hP hD (q0 := 7) rfl rfl rfl hl.1 (Nat.le_of_ble_eq_true rfl) dX9_forgetPlan_4 ⟨Nat.le_refl _, Nat.le_refl _⟩) hD hS hA (fun H locs hP hD hS => ?_)
  refine lv_aload_n hx hb dX9_forgetPlan_7 rfl (lv_at hl 0 rfl) ?_
  refine gX_x_calendar S hK hP q300 dX9_forgetPlan_8 ?_
  obtain ⟨q11, h11, hf⟩ := ob_some hf
  refine u_callv0 (u_runV (rest := []) S (c_X0_forget l D cy ad q4 q11 h11 aw ac H.size) iX0_forget vX0_forget q552 ⟨Nat.le_of_ble_eq_true rfl, Nat.le_of_ble_eq_true rfl⟩ hK hP hD (q0 := 8) rfl rfl rfl hl.1 (Nat.le_of_ble_eq_true rfl) dX9_forgetPlan_11 ⟨Nat.le_refl _, Nat.le_refl _⟩) hD hS hA (fun H locs hP hD hS => ?_)
  exact u_vretw hx hb hr hlocks hP hD hS dX9_forgetPlan_14 hf (fun _ => rfl)
theorem iX9_stone : YI yX9_stone cX9_stone 6 (some .int) 4 := ⟨q536, q1, by decide, by decide, by decide +kernel⟩
theorem vX9_stone : YV yX9_stone := ⟨q534, q535⟩
set_option maxRecDepth 100000 in
set_option maxHeartbeats 4000000 in
theorem c_X9_stone (l : Launch) (D : va_G) (cy : Nat → ClassId) (ad : Nat → Nat) (σ : St) (v1 : Int32) (v2 : Int32) (v3 : Int32) (v4 : Int32) (q : Int32 × St) (hf : fX9_stone σ v1 v2 v3 v4 = some q) : Ci l D cy (wX cy ad) yX9_stone cX9_stone 6 .int 2 43 [.ref (ad 0), .int v1, .int v2, .int v3, .int v4] σ q.1 q.2 0 0 := by
  refine Ci.enter (by decide) (Nat.le_of_ble_eq_true rfl) ?_
  intro aw ac p e s m below meth c A H locs S hr hlocks hA hK hP hD hS ls hl
  have hx := S.1
  have hb := S.2.1
  have hl : lv_has ls 6 [(0, .ref (ad 0)), (1, .int v1), (2, .int v2), (3, .int v3), (4, .int v4)] := hl
  unfold fX9_stone at hf
  refine lv_iload_n hx hb dX9_stone_0 rfl (lv_at hl 1 rfl) ?_
  refine lv_iload_n hx hb dX9_stone_1 rfl (lv_at hl 2 rfl) ?_
  obtain ⟨r2, h2, hf⟩ := ob_some hf
  refine p_calli0 (u_runS (rest := []) S (c_X9_isPlace l D cy σ v1 v2 r2 h2 aw ac H.size) iX9_isPlace q538 q537 ⟨Nat.le_of_ble_eq_true rfl, Nat.le_of_ble_eq_true rfl⟩ hK wN_P (wN_D (A := fun _ => True)) rfl hl.1 (Nat.le_of_ble_eq_true rfl) dX9_stone_2 ⟨Nat.le_refl _, Nat.le_refl _⟩) hP hS hA (fun H locs hP hS => ?_)
  refine lv_if_eq (tgt := 38) hx hb dX9_stone_5 (by decide) (fun c5 => ?_) (fun c5 => ?_)
  · have hf := ifp c5 hf
    refine lv_iconst (v := (0 : Int32)) hx hb dX9_stone_38 (by decide) ?_
    refine lv_istore (lv' := [(5, .int (0 : Int32)), (0, .ref (ad 0)), (1, .int v1), (2, .int v2), (3, .int v3), (4, .int v4)]) hx hb dX9_stone_39 hl (by decide) rfl (fun ls hl => ?_)
    refine lv_iload hx hb dX9_stone_41 (lv_at hl 0 rfl) ?_
    refine lv_if_ne (tgt := 49) hx hb dX9_stone_43 (by decide) (fun c_ => absurd c_ (by decide)) (fun _ => ?_)
    refine lv_bipush (v := (-2 : Int32)) hx hb dX9_stone_46 (by decide) ?_
    exact u_iretw hx hb hr hlocks rfl hP hD hS dX9_stone_48 hf (fun _ => rfl)
  · have hf := ifn c5 hf
    refine lv_iload_n hx hb dX9_stone_8 rfl (lv_at hl 3 rfl) ?_
    refine lv_iconst (v := (1 : Int32)) hx hb dX9_stone_9 (by decide) ?_
    refine lv_bipush (v := (12 : Int32)) hx hb dX9_stone_10 (by decide) ?_
    obtain ⟨r12, h12, hf⟩ := ob_some hf
    refine p_calli0 (u_runS (rest := []) S (c_X9_within l D cy σ v3 (1 : Int32) (12 : Int32) r12 h12 aw ac H.size) iX9_within q326 q325 ⟨Nat.le_of_ble_eq_true rfl, Nat.le_of_ble_eq_true rfl⟩ hK wN_P (wN_D (A := fun _ => True)) rfl hl.1 (Nat.le_of_ble_eq_true rfl) dX9_stone_12 ⟨Nat.le_refl _, Nat.le_refl _⟩) hP hS hA (fun H locs hP hS => ?_)
    refine lv_if_eq (tgt := 38) hx hb dX9_stone_15 (by decide) (fun c15 => ?_) (fun c15 => ?_)
    · have hf := ifp c15 hf
      refine lv_iconst (v := (0 : Int32)) hx hb dX9_stone_38 (by decide) ?_
      refine lv_istore (lv' := [(5, .int (0 : Int32)), (0, .ref (ad 0)), (1, .int v1), (2, .int v2), (3, .int v3), (4, .int v4)]) hx hb dX9_stone_39 hl (by decide) rfl (fun ls hl => ?_)
      refine lv_iload hx hb dX9_stone_41 (lv_at hl 0 rfl) ?_
      refine lv_if_ne (tgt := 49) hx hb dX9_stone_43 (by decide) (fun c_ => absurd c_ (by decide)) (fun _ => ?_)
      refine lv_bipush (v := (-2 : Int32)) hx hb dX9_stone_46 (by decide) ?_
      exact u_iretw hx hb hr hlocks rfl hP hD hS dX9_stone_48 hf (fun _ => rfl)
    · have hf := ifn c15 hf
      refine lv_iload hx hb dX9_stone_18 (lv_at hl 4 rfl) ?_
      refine lv_iconst (v := (0 : Int32)) hx hb dX9_stone_20 (by decide) ?_
      refine lv_aload_n hx hb dX9_stone_21 rfl (lv_at hl 0 rfl) ?_
      refine gX_x_stones S hK hP q297 dX9_stone_22 ?_
      obtain ⟨r25, h25, hf⟩ := ob_some hf
      refine u_calli0 (u_runV (rest := [.int (0 : Int32), .int v4]) S (c_X8_all l D cy ad σ r25 h25 aw ac H.size) iX8_all vX8_all q540 ⟨Nat.le_of_ble_eq_true rfl, Nat.le_of_ble_eq_true rfl⟩ hK hP hD (q0 := 5) rfl rfl rfl hl.1 (Nat.le_of_ble_eq_true rfl) dX9_stone_25 ⟨Nat.le_refl _, Nat.le_refl _⟩) hD hS hA (fun H locs hP hD hS => ?_)
      obtain ⟨r28, h28, hf⟩ := ob_some hf
      refine p_calli0 (u_runS (rest := []) S (c_X9_within l D cy σ v4 (0 : Int32) r25 r28 h28 aw ac H.size) iX9_within q326 q325 ⟨Nat.le_of_ble_eq_true rfl, Nat.le_of_ble_eq_true rfl⟩ hK wN_P (wN_D (A := fun _ => True)) rfl hl.1 (Nat.le_of_ble_eq_true rfl) dX9_stone_28 ⟨Nat.le_refl _, Nat.le_refl _⟩) hP hS hA (fun H locs hP hS => ?_)
      refine lv_if_eq (tgt := 38) hx hb dX9_stone_31 (by decide) (fun c31 => ?_) (fun c31 => ?_)
      · have hf := ifp c31 hf
        refine lv_iconst (v := (0 : Int32)) hx hb dX9_stone_38 (by decide) ?_
        refine lv_istore (lv' := [(5, .int (0 : Int32)), (0, .ref (ad 0)), (1, .int v1), (2, .int v2), (3, .int v3), (4, .int v4)]) hx hb dX9_stone_39 hl (by decide) rfl (fun ls hl => ?_)
        refine lv_iload hx hb dX9_stone_41 (lv_at hl 0 rfl) ?_
        refine lv_if_ne (tgt := 49) hx hb dX9_stone_43 (by decide) (fun c_ => absurd c_ (by decide)) (fun _ => ?_)
        refine lv_bipush (v := (-2 : Int32)) hx hb dX9_stone_46 (by decide) ?_
        exact u_iretw hx hb hr hlocks rfl hP hD hS dX9_stone_48 hf (fun _ => rfl)
      · have hf := ifn c31 hf
        refine lv_iconst (v := (1 : Int32)) hx hb dX9_stone_34 (by decide) ?_
        refine lv_goto (tgt := 39) hx hb dX9_stone_35 (by decide) ?_
        refine lv_istore (lv' := [(5, .int (1 : Int32)), (0, .ref (ad 0)), (1, .int v1), (2, .int v2), (3, .int v3), (4, .int v4)]) hx hb dX9_stone_39 hl (by decide) rfl (fun ls hl => ?_)
        refine lv_iload hx hb dX9_stone_41 (lv_at hl 0 rfl) ?_
        refine lv_if_ne (tgt := 49) hx hb dX9_stone_43 (by decide) (fun _ => ?_) (fun c_ => absurd c_ (by decide))
        refine lv_aload_n hx hb dX9_stone_49 rfl (lv_at hl 1 rfl) ?_
        obtain ⟨q50, h50, hf⟩ := ob_some hf
        refine u_callv0 (u_runV (rest := []) S (c_X9_forgetPlan l D cy ad σ q50 h50 aw ac H.size) iX9_forgetPlan vX9_forgetPlan q544 ⟨Nat.le_of_ble_eq_true rfl, Nat.le_of_ble_eq_true rfl⟩ hK hP hD (q0 := 0) rfl rfl rfl hl.1 (Nat.le_of_ble_eq_true rfl) dX9_stone_50 ⟨Nat.le_refl _, Nat.le_refl _⟩) hD hS hA (fun H locs hP hD hS => ?_)
        refine lv_aload_n hx hb dX9_stone_53 rfl (lv_at hl 1 rfl) ?_
        refine gX_x_stones S hK hP q297 dX9_stone_54 ?_
        refine lv_iload_n hx hb dX9_stone_57 rfl (lv_at hl 2 rfl) ?_
        refine lv_iload_n hx hb dX9_stone_58 rfl (lv_at hl 3 rfl) ?_
        refine lv_iload_n hx hb dX9_stone_59 rfl (lv_at hl 4 rfl) ?_
        refine lv_iload hx hb dX9_stone_60 (lv_at hl 5 rfl) ?_
        obtain ⟨q62, h62, hf⟩ := ob_some hf
        refine u_calli0 (u_runV (rest := []) S (c_X8_bring l D cy ad q50 v1 v2 v3 v4 q62 h62 aw ac H.size) iX8_bring vX8_bring q556 ⟨Nat.le_of_ble_eq_true rfl, Nat.le_of_ble_eq_true rfl⟩ hK hP hD (q0 := 5) rfl rfl rfl hl.1 (Nat.le_of_ble_eq_true rfl) dX9_stone_62 ⟨Nat.le_refl _, Nat.le_refl _⟩) hD hS hA (fun H locs hP hD hS => ?_)
        exact u_iretw hx hb hr hlocks rfl hP hD hS dX9_stone_65 hf (fun _ => rfl)
theorem iX9_isStone : YI yX9_isStone cX9_isStone 2 (some .boolean) 1 := ⟨q567, q1, by decide, by decide, by decide +kernel⟩
theorem vX9_isStone : YV yX9_isStone := ⟨q566, qs3⟩
set_option maxRecDepth 100000 in
set_option maxHeartbeats 4000000 in
theorem c_X9_isStone (l : Launch) (D : va_G) (cy : Nat → ClassId) (ad : Nat → Nat) (σ : St) (v1 : Int32) (r : Int32) (hf : fX9_isStone σ v1 = some r) : Ci l D cy (wX cy ad) yX9_isStone cX9_isStone 2 .boolean 1 22 [.ref (ad 0), .int v1] σ r σ 0 0 := by
  refine Ci.enter (by decide) (Nat.le_of_ble_eq_true rfl) ?_
  intro aw ac p e s m below meth c A H locs S hr hlocks hA hK hP hD hS ls hl
  have hx := S.1
  have hb := S.2.1
  have hl : lv_has ls 2 [(0, .ref (ad 0)), (1, .int v1)] := hl
  unfold fX9_isStone at hf
  refine lv_iload_n hx hb dX9_isStone_0 rfl (lv_at hl 1 rfl) ?_
  refine lv_iconst (v := (0 : Int32)) hx hb dX9_isStone_1 (by decide) ?_
  refine lv_aload_n hx hb dX9_isStone_2 rfl (lv_at hl 0 rfl) ?_
  refine gX_x_stones S hK hP q297 dX9_isStone_3 ?_
  refine gX_stones_size S hK hP q136 dX9_isStone_6 ?_
  refine lv_iconst (v := (1 : Int32)) hx hb dX9_isStone_9 (by decide) ?_
  refine lv_isub hx hb dX9_isStone_10 ?_
  obtain ⟨r11, h11, hf⟩ := ob_some hf
  refine p_calli0 (u_runS (rest := []) S (c_X9_within l D cy σ v1 (0 : Int32) ((gi σ 10) - (1 : Int32)) r11 h11 aw ac H.size) iX9_within q326 q325 ⟨Nat.le_of_ble_eq_true rfl, Nat.le_of_ble_eq_true rfl⟩ hK wN_P (wN_D (A := fun _ => True)) rfl hl.1 (Nat.le_of_ble_eq_true rfl) dX9_isStone_11 ⟨Nat.le_refl _, Nat.le_refl _⟩) hP hS hA (fun H locs hP hS => ?_)
  obtain ⟨n14, hf⟩ := ifs hf
  exact u_iretr hx hb hr hlocks n14 hP hD hS dX9_isStone_14 hf (fun _ => rfl)
theorem iX9_arched : YI yX9_arched cX9_arched 3 (some .int) 2 := ⟨q563, q1, by decide, by decide, by decide +kernel⟩
theorem vX9_arched : YV yX9_arched := ⟨q561, q562⟩
set_option maxRecDepth 100000 in
set_option maxHeartbeats 4000000 in
theorem c_X9_arched (l : Launch) (D : va_G) (cy : Nat → ClassId) (ad : Nat → Nat) (σ : St) (v1 : Int32) (v2 : Int32) (q : Int32 × St) (hf : fX9_arched σ v1 v2 = some q) : Ci l D cy (wX cy ad) yX9_arched cX9_arched 3 .int 2 43 [.ref (ad 0), .int v1, .int v2] σ q.1 q.2 0 0 := by
  refine Ci.enter (by decide) (Nat.le_of_ble_eq_true rfl) ?_
  intro aw ac p e s m below meth c A H locs S hr hlocks hA hK hP hD hS ls hl
  have hx := S.1
  have hb := S.2.1
  have hl : lv_has ls 3 [(0, .ref (ad 0)), (1, .int v1), (2, .int v2)] := hl
  unfold fX9_arched at hf
  refine lv_aload_n hx hb dX9_arched_0 rfl (lv_at hl 0 rfl) ?_
  refine lv_iload_n hx hb dX9_arched_1 rfl (lv_at hl 1 rfl) ?_
  obtain ⟨r2, h2, hf⟩ := ob_some hf
  refine u_calli0 (u_runV (rest := []) S (c_X9_isStone l D cy ad σ v1 r2 h2 aw ac H.size) iX9_isStone vX9_isStone q564 ⟨Nat.le_of_ble_eq_true rfl, Nat.le_of_ble_eq_true rfl⟩ hK hP hD (q0 := 0) rfl rfl rfl hl.1 (Nat.le_of_ble_eq_true rfl) dX9_arched_2 ⟨Nat.le_refl _, Nat.le_refl _⟩) hD hS hA (fun H locs hP hD hS => ?_)
  refine lv_if_eq (tgt := 21) hx hb dX9_arched_5 (by decide) (fun c5 => ?_) (fun c5 => ?_)
  · have hf := ifp c5 hf
    refine lv_bipush (v := (-2 : Int32)) hx hb dX9_arched_21 (by decide) ?_
    exact u_iretw hx hb hr hlocks rfl hP hD hS dX9_arched_23 hf (fun _ => rfl)
  · have hf := ifn c5 hf
    refine lv_aload_n hx hb dX9_arched_8 rfl (lv_at hl 0 rfl) ?_
    refine lv_iload_n hx hb dX9_arched_9 rfl (lv_at hl 2 rfl) ?_
    obtain ⟨r10, h10, hf⟩ := ob_some hf
    refine u_calli0 (u_runV (rest := []) S (c_X9_isStone l D cy ad σ v2 r10 h10 aw ac H.size) iX9_isStone vX9_isStone q564 ⟨Nat.le_of_ble_eq_true rfl, Nat.le_of_ble_eq_true rfl⟩ hK hP hD (q0 := 0) rfl rfl rfl hl.1 (Nat.le_of_ble_eq_true rfl) dX9_arched_10 ⟨Nat.le_refl _, Nat.le_refl _⟩) hD hS hA (fun H locs hP hD hS => ?_)
    refine lv_if_eq (tgt := 21) hx hb dX9_arched_13 (by decide) (fun c13 => ?_) (fun c13 => ?_)
    · have hf := ifp c13 hf
      refine lv_bipush (v := (-2 : Int32)) hx hb dX9_arched_21 (by decide) ?_
      exact u_iretw hx hb hr hlocks rfl hP hD hS dX9_arched_23 hf (fun _ => rfl)
    · have hf := ifn c13 hf
      refine lv_iload_n hx hb dX9_arched_16 rfl (lv_at hl 1 rfl) ?_
      refine lv_iload_n hx hb dX9_arched_17 rfl (lv_at hl 2 rfl) ?_
      refine lv_icmp_ne (tgt := 24) hx hb dX9_arched_18 (by decide) (fun c18 => ?_) (fun c18 => ?_)
      · have hf := ifn c18 hf
        refine lv_aload_n hx hb dX9_arched_24 rfl (lv_at hl 0 rfl) ?_
        refine gX_x_stones S hK hP q297 dX9_arched_25 ?_
        refine gX_stones_keys S hK hP q130 dX9_arched_28 ?_
        refine lv_iload_n hx hb dX9_arched_31 rfl (lv_at hl 1 rfl) ?_
        obtain ⟨h32, hf⟩ := if_in hf
        refine lX_21 S hK hP h32 dX9_arched_32 ?_
        refine lv_iconst (v := (-1 : Int32)) hx hb dX9_arched_33 (by decide) ?_
        refine lv_icmp_eq (tgt := 40) hx hb dX9_arched_34 (by decide) (fun c34 => ?_) (fun c34 => ?_)
        · have hf := ifp c34 hf
          refine lv_aload_n hx hb dX9_arched_40 rfl (lv_at hl 0 rfl) ?_
          obtain ⟨q41, h41, hf⟩ := ob_some hf
          refine u_callv0 (u_runV (rest := []) S (c_X9_forgetPlan l D cy ad σ q41 h41 aw ac H.size) iX9_forgetPlan vX9_forgetPlan q544 ⟨Nat.le_of_ble_eq_true rfl, Nat.le_of_ble_eq_true rfl⟩ hK hP hD (q0 := 0) rfl rfl rfl hl.1 (Nat.le_of_ble_eq_true rfl) dX9_arched_41 ⟨Nat.le_refl _, Nat.le_refl _⟩) hD hS hA (fun H locs hP hD hS => ?_)
          refine lv_aload_n hx hb dX9_arched_44 rfl (lv_at hl 0 rfl) ?_
          refine gX_x_stones S hK hP q297 dX9_arched_45 ?_
          refine lv_iload_n hx hb dX9_arched_48 rfl (lv_at hl 1 rfl) ?_
          refine lv_iload_n hx hb dX9_arched_49 rfl (lv_at hl 2 rfl) ?_
          obtain ⟨q50, h50, hf⟩ := ob_some hf
          refine u_callv0 (u_runV (rest := []) S (c_X8_arch l D cy ad q41 v1 v2 q50 h50 aw ac H.size) iX8_arch vX8_arch q568 ⟨Nat.le_of_ble_eq_true rfl, Nat.le_of_ble_eq_true rfl⟩ hK hP hD (q0 := 5) rfl rfl rfl hl.1 (Nat.le_of_ble_eq_true rfl) dX9_arched_50 ⟨Nat.le_refl _, Nat.le_refl _⟩) hD hS hA (fun H locs hP hD hS => ?_)
          refine lv_iconst (v := (1 : Int32)) hx hb dX9_arched_53 (by decide) ?_
          exact u_iretw hx hb hr hlocks rfl hP hD hS dX9_arched_54 hf (fun _ => rfl)
        · have hf := ifn c34 hf
          refine lv_bipush (v := (-3 : Int32)) hx hb dX9_arched_37 (by decide) ?_
          exact u_iretw hx hb hr hlocks rfl hP hD hS dX9_arched_39 hf (fun _ => rfl)
      · have hf := ifp c18 hf
        refine lv_bipush (v := (-2 : Int32)) hx hb dX9_arched_21 (by decide) ?_
        exact u_iretw hx hb hr hlocks rfl hP hD hS dX9_arched_23 hf (fun _ => rfl)
theorem iX9_centrings : YI yX9_centrings cX9_centrings 3 (some .int) 1 := ⟨q575, q1, by decide, by decide, by decide +kernel⟩
theorem vX9_centrings : YV yX9_centrings := ⟨q573, q574⟩
set_option maxRecDepth 100000 in
set_option maxHeartbeats 4000000 in
theorem c_X9_centrings (l : Launch) (D : va_G) (cy : Nat → ClassId) (ad : Nat → Nat) (σ : St) (v1 : Int32) (q : Int32 × St) (hf : fX9_centrings σ v1 = some q) : Ci l D cy (wX cy ad) yX9_centrings cX9_centrings 3 .int 2 40 [.ref (ad 0), .int v1] σ q.1 q.2 0 0 := by
  refine Ci.enter (by decide) (Nat.le_of_ble_eq_true rfl) ?_
  intro aw ac p e s m below meth c A H locs S hr hlocks hA hK hP hD hS ls hl
  have hx := S.1
  have hb := S.2.1
  have hl : lv_has ls 3 [(0, .ref (ad 0)), (1, .int v1)] := hl
  unfold fX9_centrings at hf
  refine lv_iload_n hx hb dX9_centrings_0 rfl (lv_at hl 1 rfl) ?_
  refine lv_iconst (v := (0 : Int32)) hx hb dX9_centrings_1 (by decide) ?_
  refine lv_iconst (v := (5 : Int32)) hx hb dX9_centrings_2 (by decide) ?_
  obtain ⟨r3, h3, hf⟩ := ob_some hf
  refine p_calli0 (u_runS (rest := []) S (c_X9_within l D cy σ v1 (0 : Int32) (5 : Int32) r3 h3 aw ac H.size) iX9_within q326 q325 ⟨Nat.le_of_ble_eq_true rfl, Nat.le_of_ble_eq_true rfl⟩ hK wN_P (wN_D (A := fun _ => True)) rfl hl.1 (Nat.le_of_ble_eq_true rfl) dX9_centrings_3 ⟨Nat.le_refl _, Nat.le_refl _⟩) hP hS hA (fun H locs hP hS => ?_)
  refine lv_if_ne (tgt := 12) hx hb dX9_centrings_6 (by decide) (fun c6 => ?_) (fun c6 => ?_)
  · have hf := ifn c6 hf
    refine lv_aload_n hx hb dX9_centrings_12 rfl (lv_at hl 0 rfl) ?_
    obtain ⟨q13, h13, hf⟩ := ob_some hf
    refine u_callv0 (u_runV (rest := []) S (c_X9_forgetPlan l D cy ad σ q13 h13 aw ac H.size) iX9_forgetPlan vX9_forgetPlan q544 ⟨Nat.le_of_ble_eq_true rfl, Nat.le_of_ble_eq_true rfl⟩ hK hP hD (q0 := 0) rfl rfl rfl hl.1 (Nat.le_of_ble_eq_true rfl) dX9_centrings_13 ⟨Nat.le_refl _, Nat.le_refl _⟩) hD hS hA (fun H locs hP hD hS => ?_)
    refine lv_aload_n hx hb dX9_centrings_16 rfl (lv_at hl 0 rfl) ?_
    refine gX_x_stones S hK hP q297 dX9_centrings_17 ?_
    refine gX_stones_centrings S hK hP q138 dX9_centrings_20 ?_
    refine lv_istore_n (lv' := [(2, .int (gi q13 11)), (0, .ref (ad 0)), (1, .int v1)]) hx hb dX9_centrings_23 rfl hl (by decide) rfl (fun ls hl => ?_)
    refine lv_aload_n hx hb dX9_centrings_24 rfl (lv_at hl 1 rfl) ?_
    refine gX_x_stones S hK hP q297 dX9_centrings_25 ?_
    refine lv_iload_n hx hb dX9_centrings_28 rfl (lv_at hl 2 rfl) ?_
    refine pX_stones_centrings S hK hP hD hS q138 dX9_centrings_29 (fun H locs hP hD hS => ?_)
    refine lv_iload_n hx hb dX9_centrings_32 rfl (lv_at hl 0 rfl) ?_
    exact u_iretw hx hb hr hlocks rfl hP hD hS dX9_centrings_33 hf (fun _ => rfl)
  · have hf := ifp c6 hf
    refine lv_bipush (v := (-2 : Int32)) hx hb dX9_centrings_9 (by decide) ?_
    exact u_iretw hx hb hr hlocks rfl hP hD hS dX9_centrings_11 hf (fun _ => rfl)
theorem iX9_stand : YI yX9_stand cX9_stand 4 (some .int) 3 := ⟨q579, q1, by decide, by decide, by decide +kernel⟩
theorem vX9_stand : YV yX9_stand := ⟨q577, q578⟩
set_option maxRecDepth 100000 in
set_option maxHeartbeats 4000000 in
theorem c_X9_stand (l : Launch) (D : va_G) (cy : Nat → ClassId) (ad : Nat → Nat) (σ : St) (v1 : Int32) (v2 : Int32) (v3 : Int32) (q : Int32 × St) (hf : fX9_stand σ v1 v2 v3 = some q) : Ci l D cy (wX cy ad) yX9_stand cX9_stand 4 .int 2 43 [.ref (ad 0), .int v1, .int v2, .int v3] σ q.1 q.2 0 0 := by
  refine Ci.enter (by decide) (Nat.le_of_ble_eq_true rfl) ?_
  intro aw ac p e s m below meth c A H locs S hr hlocks hA hK hP hD hS ls hl
  have hx := S.1
  have hb := S.2.1
  have hl : lv_has ls 4 [(0, .ref (ad 0)), (1, .int v1), (2, .int v2), (3, .int v3)] := hl
  unfold fX9_stand at hf
  refine lv_iload_n hx hb dX9_stand_0 rfl (lv_at hl 1 rfl) ?_
  refine lv_iload_n hx hb dX9_stand_1 rfl (lv_at hl 2 rfl) ?_
  obtain ⟨r2, h2, hf⟩ := ob_some hf
  refine p_calli0 (u_runS (rest := []) S (c_X9_isPlace l D cy σ v1 v2 r2 h2 aw ac H.size) iX9_isPlace q538 q537 ⟨Nat.le_of_ble_eq_true rfl, Nat.le_of_ble_eq_true rfl⟩ hK wN_P (wN_D (A := fun _ => True)) rfl hl.1 (Nat.le_of_ble_eq_true rfl) dX9_stand_2 ⟨Nat.le_refl _, Nat.le_refl _⟩) hP hS hA (fun H locs hP hS => ?_)
  refine lv_if_eq (tgt := 19) hx hb dX9_stand_5 (by decide) (fun c5 => ?_) (fun c5 => ?_)
  · have hf := ifp c5 hf
    refine lv_bipush (v := (-2 : Int32)) hx hb dX9_stand_19 (by decide) ?_
    exact u_iretw hx hb hr hlocks rfl hP hD hS dX9_stand_21 hf (fun _ => rfl)
  · have hf := ifn c5 hf
    refine lv_iload_n hx hb dX9_stand_8 rfl (lv_at hl 3 rfl) ?_
    refine lv_iconst (v := (0 : Int32)) hx hb dX9_stand_9 (by decide) ?_
    refine lv_sipush (v := (16383 : Int32)) hx hb dX9_stand_10 (by decide) ?_
    obtain ⟨r13, h13, hf⟩ := ob_some hf
    refine p_calli0 (u_runS (rest := []) S (c_X9_within l D cy σ v3 (0 : Int32) (16383 : Int32) r13 h13 aw ac H.size) iX9_within q326 q325 ⟨Nat.le_of_ble_eq_true rfl, Nat.le_of_ble_eq_true rfl⟩ hK wN_P (wN_D (A := fun _ => True)) rfl hl.1 (Nat.le_of_ble_eq_true rfl) dX9_stand_13 ⟨Nat.le_refl _, Nat.le_refl _⟩) hP hS hA (fun H locs hP hS => ?_)
    refine lv_if_ne (tgt := 22) hx hb dX9_stand_16 (by decide) (fun c16 => ?_) (fun c16 => ?_)
    · have hf := ifn c16 hf
      refine lv_aload_n hx hb dX9_stand_22 rfl (lv_at hl 0 rfl) ?_
      obtain ⟨q23, h23, hf⟩ := ob_some hf
      refine u_callv0 (u_runV (rest := []) S (c_X9_forgetPlan l D cy ad σ q23 h23 aw ac H.size) iX9_forgetPlan vX9_forgetPlan q544 ⟨Nat.le_of_ble_eq_true rfl, Nat.le_of_ble_eq_true rfl⟩ hK hP hD (q0 := 0) rfl rfl rfl hl.1 (Nat.le_of_ble_eq_true rfl) dX9_stand_23 ⟨Nat.le_refl _, Nat.le_refl _⟩) hD hS hA (fun H locs hP hD hS => ?_)
      refine lv_aload_n hx hb dX9_stand_26 rfl (lv_at hl 0 rfl) ?_
      refine gX_x_stands S hK hP q298 dX9_stand_27 ?_
      refine lv_iload_n hx hb dX9_stand_30 rfl (lv_at hl 1 rfl) ?_
      refine lv_iload_n hx hb dX9_stand_31 rfl (lv_at hl 2 rfl) ?_
      refine lv_iload_n hx hb dX9_stand_32 rfl (lv_at hl 3 rfl) ?_
      obtain ⟨q33, h33, hf⟩ := ob_some hf
      refine u_calli0 (u_runV (rest := []) S (c_X7_build l D cy ad q23 v1 v2 v3 q33 h33 aw ac H.size) iX7_build vX7_build q580 ⟨Nat.le_of_ble_eq_true rfl, Nat.le_of_ble_eq_true rfl⟩ hK hP hD (q0 := 6) rfl rfl rfl hl.1 (Nat.le_of_ble_eq_true rfl) dX9_stand_33 ⟨Nat.le_refl _, Nat.le_refl _⟩) hD hS hA (fun H locs hP hD hS => ?_)
      exact u_iretw hx hb hr hlocks rfl hP hD hS dX9_stand_36 hf (fun _ => rfl)
    · have hf := ifp c16 hf
      refine lv_bipush (v := (-2 : Int32)) hx hb dX9_stand_19 (by decide) ?_
      exact u_iretw hx hb hr hlocks rfl hP hD hS dX9_stand_21 hf (fun _ => rfl)
theorem iX9_isStand : YI yX9_isStand cX9_isStand 2 (some .boolean) 1 := ⟨q591, q1, by decide, by decide, by decide +kernel⟩
theorem vX9_isStand : YV yX9_isStand := ⟨q590, qs4⟩
set_option maxRecDepth 100000 in
set_option maxHeartbeats 4000000 in
theorem c_X9_isStand (l : Launch) (D : va_G) (cy : Nat → ClassId) (ad : Nat → Nat) (σ : St) (v1 : Int32) (r : Int32) (hf : fX9_isStand σ v1 = some r) : Ci l D cy (wX cy ad) yX9_isStand cX9_isStand 2 .boolean 1 22 [.ref (ad 0), .int v1] σ r σ 0 0 := by
  refine Ci.enter (by decide) (Nat.le_of_ble_eq_true rfl) ?_
  intro aw ac p e s m below meth c A H locs S hr hlocks hA hK hP hD hS ls hl
  have hx := S.1
  have hb := S.2.1
  have hl : lv_has ls 2 [(0, .ref (ad 0)), (1, .int v1)] := hl
  unfold fX9_isStand at hf
  refine lv_iload_n hx hb dX9_isStand_0 rfl (lv_at hl 1 rfl) ?_
  refine lv_iconst (v := (0 : Int32)) hx hb dX9_isStand_1 (by decide) ?_
  refine lv_aload_n hx hb dX9_isStand_2 rfl (lv_at hl 0 rfl) ?_
  refine gX_x_stands S hK hP q298 dX9_isStand_3 ?_
  refine gX_stands_size S hK hP q173 dX9_isStand_6 ?_
  refine lv_iconst (v := (1 : Int32)) hx hb dX9_isStand_9 (by decide) ?_
  refine lv_isub hx hb dX9_isStand_10 ?_
  obtain ⟨r11, h11, hf⟩ := ob_some hf
  refine p_calli0 (u_runS (rest := []) S (c_X9_within l D cy σ v1 (0 : Int32) ((gi σ 12) - (1 : Int32)) r11 h11 aw ac H.size) iX9_within q326 q325 ⟨Nat.le_of_ble_eq_true rfl, Nat.le_of_ble_eq_true rfl⟩ hK wN_P (wN_D (A := fun _ => True)) rfl hl.1 (Nat.le_of_ble_eq_true rfl) dX9_isStand_11 ⟨Nat.le_refl _, Nat.le_refl _⟩) hP hS hA (fun H locs hP hS => ?_)
  obtain ⟨n14, hf⟩ := ifs hf
  exact u_iretr hx hb hr hlocks n14 hP hD hS dX9_isStand_14 hf (fun _ => rfl)
theorem iX9_price : YI yX9_price cX9_price 4 (some .int) 3 := ⟨q587, q1, by decide, by decide, by decide +kernel⟩
theorem vX9_price : YV yX9_price := ⟨q585, q586⟩
set_option maxRecDepth 100000 in
set_option maxHeartbeats 4000000 in
theorem c_X9_price (l : Launch) (D : va_G) (cy : Nat → ClassId) (ad : Nat → Nat) (σ : St) (v1 : Int32) (v2 : Int32) (v3 : Int32) (q : Int32 × St) (hf : fX9_price σ v1 v2 v3 = some q) : Ci l D cy (wX cy ad) yX9_price cX9_price 4 .int 2 43 [.ref (ad 0), .int v1, .int v2, .int v3] σ q.1 q.2 0 0 := by
  refine Ci.enter (by decide) (Nat.le_of_ble_eq_true rfl) ?_
  intro aw ac p e s m below meth c A H locs S hr hlocks hA hK hP hD hS ls hl
  have hx := S.1
  have hb := S.2.1
  have hl : lv_has ls 4 [(0, .ref (ad 0)), (1, .int v1), (2, .int v2), (3, .int v3)] := hl
  unfold fX9_price at hf
  refine lv_aload_n hx hb dX9_price_0 rfl (lv_at hl 0 rfl) ?_
  refine lv_iload_n hx hb dX9_price_1 rfl (lv_at hl 1 rfl) ?_
  obtain ⟨r2, h2, hf⟩ := ob_some hf
  refine u_calli0 (u_runV (rest := []) S (c_X9_isStand l D cy ad σ v1 r2 h2 aw ac H.size) iX9_isStand vX9_isStand q588 ⟨Nat.le_of_ble_eq_true rfl, Nat.le_of_ble_eq_true rfl⟩ hK hP hD (q0 := 0) rfl rfl rfl hl.1 (Nat.le_of_ble_eq_true rfl) dX9_price_2 ⟨Nat.le_refl _, Nat.le_refl _⟩) hD hS hA (fun H locs hP hD hS => ?_)
  refine lv_if_eq (tgt := 31) hx hb dX9_price_5 (by decide) (fun c5 => ?_) (fun c5 => ?_)
  · have hf := ifp c5 hf
    refine lv_bipush (v := (-2 : Int32)) hx hb dX9_price_31 (by decide) ?_
    exact u_iretw hx hb hr hlocks rfl hP hD hS dX9_price_33 hf (fun _ => rfl)
  · have hf := ifn c5 hf
    refine lv_aload_n hx hb dX9_price_8 rfl (lv_at hl 0 rfl) ?_
    refine lv_iload_n hx hb dX9_price_9 rfl (lv_at hl 2 rfl) ?_
    obtain ⟨r10, h10, hf⟩ := ob_some hf
    refine u_calli0 (u_runV (rest := []) S (c_X9_isStand l D cy ad σ v2 r10 h10 aw ac H.size) iX9_isStand vX9_isStand q588 ⟨Nat.le_of_ble_eq_true rfl, Nat.le_of_ble_eq_true rfl⟩ hK hP hD (q0 := 0) rfl rfl rfl hl.1 (Nat.le_of_ble_eq_true rfl) dX9_price_10 ⟨Nat.le_refl _, Nat.le_refl _⟩) hD hS hA (fun H locs hP hD hS => ?_)
    refine lv_if_eq (tgt := 31) hx hb dX9_price_13 (by decide) (fun c13 => ?_) (fun c13 => ?_)
    · have hf := ifp c13 hf
      refine lv_bipush (v := (-2 : Int32)) hx hb dX9_price_31 (by decide) ?_
      exact u_iretw hx hb hr hlocks rfl hP hD hS dX9_price_33 hf (fun _ => rfl)
    · have hf := ifn c13 hf
      refine lv_iload_n hx hb dX9_price_16 rfl (lv_at hl 1 rfl) ?_
      refine lv_iload_n hx hb dX9_price_17 rfl (lv_at hl 2 rfl) ?_
      refine lv_icmp_eq (tgt := 31) hx hb dX9_price_18 (by decide) (fun c18 => ?_) (fun c18 => ?_)
      · have hf := ifp c18 hf
        refine lv_bipush (v := (-2 : Int32)) hx hb dX9_price_31 (by decide) ?_
        exact u_iretw hx hb hr hlocks rfl hP hD hS dX9_price_33 hf (fun _ => rfl)
      · have hf := ifn c18 hf
        refine lv_iload_n hx hb dX9_price_21 rfl (lv_at hl 3 rfl) ?_
        refine lv_iconst (v := (1 : Int32)) hx hb dX9_price_22 (by decide) ?_
        refine lv_bipush (v := (100 : Int32)) hx hb dX9_price_23 (by decide) ?_
        obtain ⟨r25, h25, hf⟩ := ob_some hf
        refine p_calli0 (u_runS (rest := []) S (c_X9_within l D cy σ v3 (1 : Int32) (100 : Int32) r25 h25 aw ac H.size) iX9_within q326 q325 ⟨Nat.le_of_ble_eq_true rfl, Nat.le_of_ble_eq_true rfl⟩ hK wN_P (wN_D (A := fun _ => True)) rfl hl.1 (Nat.le_of_ble_eq_true rfl) dX9_price_25 ⟨Nat.le_refl _, Nat.le_refl _⟩) hP hS hA (fun H locs hP hS => ?_)
        refine lv_if_ne (tgt := 34) hx hb dX9_price_28 (by decide) (fun c28 => ?_) (fun c28 => ?_)
        · have hf := ifn c28 hf
          refine lv_aload_n hx hb dX9_price_34 rfl (lv_at hl 0 rfl) ?_
          obtain ⟨q35, h35, hf⟩ := ob_some hf
          refine u_callv0 (u_runV (rest := []) S (c_X9_forgetPlan l D cy ad σ q35 h35 aw ac H.size) iX9_forgetPlan vX9_forgetPlan q544 ⟨Nat.le_of_ble_eq_true rfl, Nat.le_of_ble_eq_true rfl⟩ hK hP hD (q0 := 0) rfl rfl rfl hl.1 (Nat.le_of_ble_eq_true rfl) dX9_price_35 ⟨Nat.le_refl _, Nat.le_refl _⟩) hD hS hA (fun H locs hP hD hS => ?_)
          refine lv_aload_n hx hb dX9_price_38 rfl (lv_at hl 0 rfl) ?_
          refine gX_x_stands S hK hP q298 dX9_price_39 ?_
          refine lv_iload_n hx hb dX9_price_42 rfl (lv_at hl 1 rfl) ?_
          refine lv_iload_n hx hb dX9_price_43 rfl (lv_at hl 2 rfl) ?_
          refine lv_iload_n hx hb dX9_price_44 rfl (lv_at hl 3 rfl) ?_
          obtain ⟨q45, h45, hf⟩ := ob_some hf
          refine u_calli0 (u_runV (rest := []) S (c_X7_setPrice l D cy ad q35 v1 v2 v3 q45 h45 aw ac H.size) iX7_setPrice vX7_setPrice q592 ⟨Nat.le_of_ble_eq_true rfl, Nat.le_of_ble_eq_true rfl⟩ hK hP hD (q0 := 6) rfl rfl rfl hl.1 (Nat.le_of_ble_eq_true rfl) dX9_price_45 ⟨Nat.le_refl _, Nat.le_refl _⟩) hD hS hA (fun H locs hP hD hS => ?_)
          exact u_iretw hx hb hr hlocks rfl hP hD hS dX9_price_48 hf (fun _ => rfl)
        · have hf := ifp c28 hf
          refine lv_bipush (v := (-2 : Int32)) hx hb dX9_price_31 (by decide) ?_
          exact u_iretw hx hb hr hlocks rfl hP hD hS dX9_price_33 hf (fun _ => rfl)
theorem iX9_reach : YI yX9_reach cX9_reach 3 (some .int) 2 := ⟨q599, q1, by decide, by decide, by decide +kernel⟩
theorem vX9_reach : YV yX9_reach := ⟨q597, q598⟩
set_option maxRecDepth 100000 in
set_option maxHeartbeats 4000000 in
theorem c_X9_reach (l : Launch) (D : va_G) (cy : Nat → ClassId) (ad : Nat → Nat) (σ : St) (v1 : Int32) (v2 : Int32) (q : Int32 × St) (hf : fX9_reach σ v1 v2 = some q) : Ci l D cy (wX cy ad) yX9_reach cX9_reach 3 .int 2 40 [.ref (ad 0), .int v1, .int v2] σ q.1 q.2 0 0 := by
  refine Ci.enter (by decide) (Nat.le_of_ble_eq_true rfl) ?_
  intro aw ac p e s m below meth c A H locs S hr hlocks hA hK hP hD hS ls hl
  have hx := S.1
  have hb := S.2.1
  have hl : lv_has ls 3 [(0, .ref (ad 0)), (1, .int v1), (2, .int v2)] := hl
  unfold fX9_reach at hf
  refine lv_iload_n hx hb dX9_reach_0 rfl (lv_at hl 1 rfl) ?_
  refine lv_iconst (v := (1 : Int32)) hx hb dX9_reach_1 (by decide) ?_
  refine lv_bipush (v := (30 : Int32)) hx hb dX9_reach_2 (by decide) ?_
  obtain ⟨r4, h4, hf⟩ := ob_some hf
  refine p_calli0 (u_runS (rest := []) S (c_X9_within l D cy σ v1 (1 : Int32) (30 : Int32) r4 h4 aw ac H.size) iX9_within q326 q325 ⟨Nat.le_of_ble_eq_true rfl, Nat.le_of_ble_eq_true rfl⟩ hK wN_P (wN_D (A := fun _ => True)) rfl hl.1 (Nat.le_of_ble_eq_true rfl) dX9_reach_4 ⟨Nat.le_refl _, Nat.le_refl _⟩) hP hS hA (fun H locs hP hS => ?_)
  refine lv_if_eq (tgt := 20) hx hb dX9_reach_7 (by decide) (fun c7 => ?_) (fun c7 => ?_)
  · have hf := ifp c7 hf
    refine lv_bipush (v := (-2 : Int32)) hx hb dX9_reach_20 (by decide) ?_
    exact u_iretw hx hb hr hlocks rfl hP hD hS dX9_reach_22 hf (fun _ => rfl)
  · have hf := ifn c7 hf
    refine lv_iload_n hx hb dX9_reach_10 rfl (lv_at hl 2 rfl) ?_
    refine lv_iconst (v := (1 : Int32)) hx hb dX9_reach_11 (by decide) ?_
    refine lv_bipush (v := (12 : Int32)) hx hb dX9_reach_12 (by decide) ?_
    obtain ⟨r14, h14, hf⟩ := ob_some hf
    refine p_calli0 (u_runS (rest := []) S (c_X9_within l D cy σ v2 (1 : Int32) (12 : Int32) r14 h14 aw ac H.size) iX9_within q326 q325 ⟨Nat.le_of_ble_eq_true rfl, Nat.le_of_ble_eq_true rfl⟩ hK wN_P (wN_D (A := fun _ => True)) rfl hl.1 (Nat.le_of_ble_eq_true rfl) dX9_reach_14 ⟨Nat.le_refl _, Nat.le_refl _⟩) hP hS hA (fun H locs hP hS => ?_)
    refine lv_if_ne (tgt := 23) hx hb dX9_reach_17 (by decide) (fun c17 => ?_) (fun c17 => ?_)
    · have hf := ifn c17 hf
      refine lv_aload_n hx hb dX9_reach_23 rfl (lv_at hl 0 rfl) ?_
      obtain ⟨q24, h24, hf⟩ := ob_some hf
      refine u_callv0 (u_runV (rest := []) S (c_X9_forgetPlan l D cy ad σ q24 h24 aw ac H.size) iX9_forgetPlan vX9_forgetPlan q544 ⟨Nat.le_of_ble_eq_true rfl, Nat.le_of_ble_eq_true rfl⟩ hK hP hD (q0 := 0) rfl rfl rfl hl.1 (Nat.le_of_ble_eq_true rfl) dX9_reach_24 ⟨Nat.le_refl _, Nat.le_refl _⟩) hD hS hA (fun H locs hP hD hS => ?_)
      refine lv_aload_n hx hb dX9_reach_27 rfl (lv_at hl 0 rfl) ?_
      refine gX_x_stands S hK hP q298 dX9_reach_28 ?_
      refine lv_iload_n hx hb dX9_reach_31 rfl (lv_at hl 1 rfl) ?_
      refine pX_stands_sideways S hK hP hD hS q175 dX9_reach_32 (fun H locs hP hD hS => ?_)
      refine lv_aload_n hx hb dX9_reach_35 rfl (lv_at hl 0 rfl) ?_
      refine gX_x_stands S hK hP q298 dX9_reach_36 ?_
      refine lv_iload_n hx hb dX9_reach_39 rfl (lv_at hl 2 rfl) ?_
      refine pX_stands_upwards S hK hP hD hS q177 dX9_reach_40 (fun H locs hP hD hS => ?_)
      refine lv_iconst (v := (1 : Int32)) hx hb dX9_reach_43 (by decide) ?_
      exact u_iretw hx hb hr hlocks rfl hP hD hS dX9_reach_44 hf (fun _ => rfl)
    · have hf := ifp c17 hf
      refine lv_bipush (v := (-2 : Int32)) hx hb dX9_reach_20 (by decide) ?_
      exact u_iretw hx hb hr hlocks rfl hP hD hS dX9_reach_22 hf (fun _ => rfl)
theorem iX9_reaches : YI yX9_reaches cX9_reaches 3 (some .int) 2 := ⟨q603, q1, by decide, by decide, by decide +kernel⟩
theorem vX9_reaches : YV yX9_reaches := ⟨q601, q602⟩
set_option maxRecDepth 100000 in
set_option maxHeartbeats 4000000 in
theorem c_X9_reaches (l : Launch) (D : va_G) (cy : Nat → ClassId) (ad : Nat → Nat) (σ : St) (v1 : Int32) (v2 : Int32) (r : Int32) (hf : fX9_reaches σ v1 v2 = some r) : Ci l D cy (wX cy ad) yX9_reaches cX9_reaches 3 .int 2 44 [.ref (ad 0), .int v1, .int v2] σ r σ 0 0 := by
  refine Ci.enter (by decide) (Nat.le_of_ble_eq_true rfl) ?_
  intro aw ac p e s m below meth c A H locs S hr hlocks hA hK hP hD hS ls hl
  have hx := S.1
  have hb := S.2.1
  have hl : lv_has ls 3 [(0, .ref (ad 0)), (1, .int v1), (2, .int v2)] := hl
  unfold fX9_reaches at hf
  refine lv_aload_n hx hb dX9_reaches_0 rfl (lv_at hl 0 rfl) ?_
  refine lv_iload_n hx hb dX9_reaches_1 rfl (lv_at hl 1 rfl) ?_
  obtain ⟨r2, h2, hf⟩ := ob_some hf
  refine u_calli0 (u_runV (rest := []) S (c_X9_isStand l D cy ad σ v1 r2 h2 aw ac H.size) iX9_isStand vX9_isStand q588 ⟨Nat.le_of_ble_eq_true rfl, Nat.le_of_ble_eq_true rfl⟩ hK hP hD (q0 := 0) rfl rfl rfl hl.1 (Nat.le_of_ble_eq_true rfl) dX9_reaches_2 ⟨Nat.le_refl _, Nat.le_refl _⟩) hD hS hA (fun H locs hP hD hS => ?_)
  refine lv_if_eq (tgt := 16) hx hb dX9_reaches_5 (by decide) (fun c5 => ?_) (fun c5 => ?_)
  · have hf := ifp c5 hf
    refine lv_bipush (v := (-2 : Int32)) hx hb dX9_reaches_16 (by decide) ?_
    exact u_iretr hx hb hr hlocks rfl hP hD hS dX9_reaches_18 hf (fun _ => rfl)
  · have hf := ifn c5 hf
    refine lv_aload_n hx hb dX9_reaches_8 rfl (lv_at hl 0 rfl) ?_
    refine lv_iload_n hx hb dX9_reaches_9 rfl (lv_at hl 2 rfl) ?_
    obtain ⟨r10, h10, hf⟩ := ob_some hf
    refine u_calli0 (u_runV (rest := []) S (c_X9_isStone l D cy ad σ v2 r10 h10 aw ac H.size) iX9_isStone vX9_isStone q564 ⟨Nat.le_of_ble_eq_true rfl, Nat.le_of_ble_eq_true rfl⟩ hK hP hD (q0 := 0) rfl rfl rfl hl.1 (Nat.le_of_ble_eq_true rfl) dX9_reaches_10 ⟨Nat.le_refl _, Nat.le_refl _⟩) hD hS hA (fun H locs hP hD hS => ?_)
    refine lv_if_ne (tgt := 19) hx hb dX9_reaches_13 (by decide) (fun c13 => ?_) (fun c13 => ?_)
    · have hf := ifn c13 hf
      refine lv_aload_n hx hb dX9_reaches_19 rfl (lv_at hl 0 rfl) ?_
      refine gX_x_stands S hK hP q298 dX9_reaches_20 ?_
      refine lv_iload_n hx hb dX9_reaches_23 rfl (lv_at hl 1 rfl) ?_
      refine lv_aload_n hx hb dX9_reaches_24 rfl (lv_at hl 0 rfl) ?_
      refine gX_x_stones S hK hP q297 dX9_reaches_25 ?_
      refine gX_stones_xs S hK hP q121 dX9_reaches_28 ?_
      refine lv_iload_n hx hb dX9_reaches_31 rfl (lv_at hl 2 rfl) ?_
      obtain ⟨h32, hf⟩ := if_in hf
      refine lX_17 S hK hP h32 dX9_reaches_32 ?_
      refine lv_aload_n hx hb dX9_reaches_33 rfl (lv_at hl 0 rfl) ?_
      refine gX_x_stones S hK hP q297 dX9_reaches_34 ?_
      refine gX_stones_courses S hK hP q124 dX9_reaches_37 ?_
      refine lv_iload_n hx hb dX9_reaches_40 rfl (lv_at hl 2 rfl) ?_
      obtain ⟨h41, hf⟩ := if_in hf
      refine lX_18 S hK hP h41 dX9_reaches_41 ?_
      obtain ⟨r42, h42, hf⟩ := ob_some hf
      refine u_calli0 (u_runV (rest := []) S (c_X7_isNear l D cy ad σ v1 (ga σ 17 v2.toNatClampNeg) (ga σ 18 v2.toNatClampNeg) r42 h42 aw ac H.size) iX7_isNear vX7_isNear q604 ⟨Nat.le_of_ble_eq_true rfl, Nat.le_of_ble_eq_true rfl⟩ hK hP hD (q0 := 6) rfl rfl rfl hl.1 (Nat.le_of_ble_eq_true rfl) dX9_reaches_42 ⟨Nat.le_refl _, Nat.le_refl _⟩) hD hS hA (fun H locs hP hD hS => ?_)
      refine lv_if_eq (tgt := 52) hx hb dX9_reaches_45 (by decide) (fun c45 => ?_) (fun c45 => ?_)
      · have hf := ifp c45 hf
        refine lv_iconst (v := (0 : Int32)) hx hb dX9_reaches_52 (by decide) ?_
        exact u_iretr hx hb hr hlocks rfl hP hD hS dX9_reaches_53 hf (fun _ => rfl)
      · have hf := ifn c45 hf
        refine lv_iconst (v := (1 : Int32)) hx hb dX9_reaches_48 (by decide) ?_
        refine lv_goto (tgt := 53) hx hb dX9_reaches_49 (by decide) ?_
        exact u_iretr hx hb hr hlocks rfl hP hD hS dX9_reaches_53 hf (fun _ => rfl)
    · have hf := ifp c13 hf
      refine lv_bipush (v := (-2 : Int32)) hx hb dX9_reaches_16 (by decide) ?_
      exact u_iretr hx hb hr hlocks rfl hP hD hS dX9_reaches_18 hf (fun _ => rfl)
theorem iX9_may : YI yX9_may cX9_may 4 (some .int) 2 := ⟨q614, q1, by decide, by decide, by decide +kernel⟩
theorem vX9_may : YV yX9_may := ⟨q612, q613⟩
set_option maxRecDepth 100000 in
set_option maxHeartbeats 4000000 in
theorem c_X9_may (l : Launch) (D : va_G) (cy : Nat → ClassId) (ad : Nat → Nat) (σ : St) (v1 : Int32) (v2 : Int32) (r : Int32) (hf : fX9_may σ v1 v2 = some r) : Ci l D cy (wX cy ad) yX9_may cX9_may 4 .int 2 43 [.ref (ad 0), .int v1, .int v2] σ r σ 0 0 := by
  refine Ci.enter (by decide) (Nat.le_of_ble_eq_true rfl) ?_
  intro aw ac p e s m below meth c A H locs S hr hlocks hA hK hP hD hS ls hl
  have hx := S.1
  have hb := S.2.1
  have hl : lv_has ls 4 [(0, .ref (ad 0)), (1, .int v1), (2, .int v2)] := hl
  unfold fX9_may at hf
  refine lv_iload_n hx hb dX9_may_0 rfl (lv_at hl 1 rfl) ?_
  refine lv_iconst (v := (0 : Int32)) hx hb dX9_may_1 (by decide) ?_
  refine lv_aload_n hx hb dX9_may_2 rfl (lv_at hl 0 rfl) ?_
  refine gX_x_stones S hK hP q297 dX9_may_3 ?_
  obtain ⟨r6, h6, hf⟩ := ob_some hf
  refine u_calli0 (u_runV (rest := [.int (0 : Int32), .int v1]) S (c_X8_all l D cy ad σ r6 h6 aw ac H.size) iX8_all vX8_all q540 ⟨Nat.le_of_ble_eq_true rfl, Nat.le_of_ble_eq_true rfl⟩ hK hP hD (q0 := 5) rfl rfl rfl hl.1 (Nat.le_of_ble_eq_true rfl) dX9_may_6 ⟨Nat.le_refl _, Nat.le_refl _⟩) hD hS hA (fun H locs hP hD hS => ?_)
  obtain ⟨r9, h9, hf⟩ := ob_some hf
  refine p_calli0 (u_runS (rest := []) S (c_X9_within l D cy σ v1 (0 : Int32) r6 r9 h9 aw ac H.size) iX9_within q326 q325 ⟨Nat.le_of_ble_eq_true rfl, Nat.le_of_ble_eq_true rfl⟩ hK wN_P (wN_D (A := fun _ => True)) rfl hl.1 (Nat.le_of_ble_eq_true rfl) dX9_may_9 ⟨Nat.le_refl _, Nat.le_refl _⟩) hP hS hA (fun H locs hP hS => ?_)
  refine lv_if_eq (tgt := 23) hx hb dX9_may_12 (by decide) (fun c12 => ?_) (fun c12 => ?_)
  · have hf := ifp c12 hf
    refine lv_bipush (v := (-2 : Int32)) hx hb dX9_may_23 (by decide) ?_
    exact u_iretr hx hb hr hlocks rfl hP hD hS dX9_may_25 hf (fun _ => rfl)
  · have hf := ifn c12 hf
    refine lv_aload_n hx hb dX9_may_15 rfl (lv_at hl 0 rfl) ?_
    refine lv_iload_n hx hb dX9_may_16 rfl (lv_at hl 2 rfl) ?_
    obtain ⟨r17, h17, hf⟩ := ob_some hf
    refine u_calli0 (u_runV (rest := []) S (c_X9_isStone l D cy ad σ v2 r17 h17 aw ac H.size) iX9_isStone vX9_isStone q564 ⟨Nat.le_of_ble_eq_true rfl, Nat.le_of_ble_eq_true rfl⟩ hK hP hD (q0 := 0) rfl rfl rfl hl.1 (Nat.le_of_ble_eq_true rfl) dX9_may_17 ⟨Nat.le_refl _, Nat.le_refl _⟩) hD hS hA (fun H locs hP hD hS => ?_)
    refine lv_if_ne (tgt := 26) hx hb dX9_may_20 (by decide) (fun c20 => ?_) (fun c20 => ?_)
    · have hf := ifn c20 hf
      refine lv_aload_n hx hb dX9_may_26 rfl (lv_at hl 0 rfl) ?_
      refine gX_x_stones S hK hP q297 dX9_may_27 ?_
      refine lv_iload_n hx hb dX9_may_30 rfl (lv_at hl 2 rfl) ?_
      refine lv_iload_n hx hb dX9_may_31 rfl (lv_at hl 1 rfl) ?_
      obtain ⟨r32, h32, hf⟩ := ob_some hf
      refine u_calli0 (u_runV (rest := []) S (c_X8_isBorne l D cy ad σ v2 v1 r32 h32 aw ac H.size) iX8_isBorne vX8_isBorne q615 ⟨Nat.le_of_ble_eq_true rfl, Nat.le_of_ble_eq_true rfl⟩ hK hP hD (q0 := 5) rfl rfl rfl hl.1 (Nat.le_of_ble_eq_true rfl) dX9_may_32 ⟨Nat.le_refl _, Nat.le_refl _⟩) hD hS hA (fun H locs hP hD hS => ?_)
      refine lv_if_eq (tgt := 57) hx hb dX9_may_35 (by decide) (fun c35 => ?_) (fun c35 => ?_)
      · have hf := ifp c35 hf
        refine lv_iconst (v := (0 : Int32)) hx hb dX9_may_57 (by decide) ?_
        refine lv_istore_n (lv' := [(3, .int (0 : Int32)), (0, .ref (ad 0)), (1, .int v1), (2, .int v2)]) hx hb dX9_may_58 rfl hl (by decide) rfl (fun ls hl => ?_)
        refine lv_iload_n hx hb dX9_may_59 rfl (lv_at hl 0 rfl) ?_
        refine lv_if_eq (tgt := 67) hx hb dX9_may_60 (by decide) (fun _ => ?_) (fun c_ => absurd c_ (by decide))
        refine lv_iconst (v := (0 : Int32)) hx hb dX9_may_67 (by decide) ?_
        exact u_iretr hx hb hr hlocks rfl hP hD hS dX9_may_68 hf (fun _ => rfl)
      · have hf := ifn c35 hf
        refine lv_aload_n hx hb dX9_may_38 rfl (lv_at hl 0 rfl) ?_
        refine gX_x_stones S hK hP q297 dX9_may_39 ?_
        refine lv_iload_n hx hb dX9_may_42 rfl (lv_at hl 1 rfl) ?_
        refine lv_iconst (v := (1 : Int32)) hx hb dX9_may_43 (by decide) ?_
        refine lv_iload_n hx hb dX9_may_44 rfl (lv_at hl 2 rfl) ?_
        refine lv_ishl hx hb dX9_may_45 ?_
        refine lv_ior hx hb dX9_may_46 ?_
        obtain ⟨r47, h47, hf⟩ := ob_some hf
        refine u_calli0 (u_runV (rest := []) S (c_X8_isCentred l D cy ad σ (v1 ||| ((1 : Int32) <<< (v2 &&& 31))) r47 h47 aw ac H.size) iX8_isCentred vX8_isCentred q619 ⟨Nat.le_of_ble_eq_true rfl, Nat.le_of_ble_eq_true rfl⟩ hK hP hD (q0 := 5) rfl rfl rfl hl.1 (Nat.le_of_ble_eq_true rfl) dX9_may_47 ⟨Nat.le_refl _, Nat.le_refl _⟩) hD hS hA (fun H locs hP hD hS => ?_)
        refine lv_if_eq (tgt := 57) hx hb dX9_may_50 (by decide) (fun c50 => ?_) (fun c50 => ?_)
        · have hf := ifp c50 hf
          refine lv_iconst (v := (0 : Int32)) hx hb dX9_may_57 (by decide) ?_
          refine lv_istore_n (lv' := [(3, .int (0 : Int32)), (0, .ref (ad 0)), (1, .int v1), (2, .int v2)]) hx hb dX9_may_58 rfl hl (by decide) rfl (fun ls hl => ?_)
          refine lv_iload_n hx hb dX9_may_59 rfl (lv_at hl 0 rfl) ?_
          refine lv_if_eq (tgt := 67) hx hb dX9_may_60 (by decide) (fun _ => ?_) (fun c_ => absurd c_ (by decide))
          refine lv_iconst (v := (0 : Int32)) hx hb dX9_may_67 (by decide) ?_
          exact u_iretr hx hb hr hlocks rfl hP hD hS dX9_may_68 hf (fun _ => rfl)
        · have hf := ifn c50 hf
          refine lv_iconst (v := (1 : Int32)) hx hb dX9_may_53 (by decide) ?_
          refine lv_goto (tgt := 58) hx hb dX9_may_54 (by decide) ?_
          refine lv_istore_n (lv' := [(3, .int (1 : Int32)), (0, .ref (ad 0)), (1, .int v1), (2, .int v2)]) hx hb dX9_may_58 rfl hl (by decide) rfl (fun ls hl => ?_)
          refine lv_iload_n hx hb dX9_may_59 rfl (lv_at hl 0 rfl) ?_
          refine lv_if_eq (tgt := 67) hx hb dX9_may_60 (by decide) (fun c_ => absurd c_ (by decide)) (fun _ => ?_)
          refine lv_iconst (v := (1 : Int32)) hx hb dX9_may_63 (by decide) ?_
          refine lv_goto (tgt := 68) hx hb dX9_may_64 (by decide) ?_
          exact u_iretr hx hb hr hlocks rfl hP hD hS dX9_may_68 hf (fun _ => rfl)
    · have hf := ifp c20 hf
      refine lv_bipush (v := (-2 : Int32)) hx hb dX9_may_23 (by decide) ?_
      exact u_iretr hx hb hr hlocks rfl hP hD hS dX9_may_25 hf (fun _ => rfl)
theorem iX9_orders : YI yX9_orders cX9_orders 1 (some .long) 0 := ⟨q626, q1, by decide, by decide, by decide +kernel⟩
theorem vX9_orders : YV yX9_orders := ⟨q624, q625⟩
set_option maxRecDepth 100000 in
set_option maxHeartbeats 4000000 in
theorem c_X9_orders (l : Launch) (D : va_G) (cy : Nat → ClassId) (ad : Nat → Nat) (bw : Nat) (σ : St) (q : Int64 × St) (hf : fX9_orders bw σ = some q) : Cl l D cy (wX cy ad) yX9_orders cX9_orders 1 3 67 [.ref (ad 0)] σ q.1 q.2 1 bw := by
  refine Cl.enter (by decide) (Nat.le_of_ble_eq_true rfl) ?_
  intro aw0 ac0 p e s m below meth c A H locs S hr hlocks hA hK hP hD hS ls hl
  have hx := S.1
  have hb := S.2.1
  have hl : lv_has ls 1 [(0, .ref (ad 0))] := hl
  obtain ⟨aw, ac, hP, hD⟩ : ∃ aw ac : Nat, va_P D vwCl (wX cy ad aw ac σ) H ∧ va_D A (wX cy ad aw ac σ) := ⟨aw0, ac0, hP, hD⟩
  unfold fX9_orders at hf
  refine lv_aload_n hx hb dX9_orders_0 rfl (lv_at hl 0 rfl) ?_
  refine gX_x_planner S hK hP q299 dX9_orders_1 ?_
  obtain ⟨q4, h4, hf⟩ := ob_some hf
  refine u_calll (u_runV (rest := []) S (c_X4_ordersOfAll l D cy ad bw σ q4 h4 aw ac H.size) iX4_ordersOfAll vX4_ordersOfAll q627 ⟨Nat.le_of_ble_eq_true rfl, Nat.le_of_ble_eq_true rfl⟩ hK hP hD (q0 := 7) rfl rfl rfl hl.1 (Nat.le_of_ble_eq_true rfl) dX9_orders_4 ⟨by first | omega | (dsimp only [Rm]; omega), by first | omega | (dsimp only [Rm]; omega)⟩) hD hS hA (fun aw ac H locs _ hP hD hS => ?_)
  refine W.widen (k := 1) (n := bw) (by first | omega | (dsimp only [Rm]; omega)) (by first | omega | (dsimp only [Rm]; omega)) ?_
  exact u_lretw hx hb hr hlocks hP hD hS dX9_orders_7 hf (fun h_ => absurd h_ (by decide))
theorem iX9_plan : YI yX9_plan cX9_plan 1 (some .int) 0 := ⟨q644, q1, by decide, by decide, by decide +kernel⟩
theorem vX9_plan : YV yX9_plan := ⟨q642, q643⟩
set_option maxRecDepth 100000 in
set_option maxHeartbeats 4000000 in
theorem c_X9_plan (l : Launch) (D : va_G) (cy : Nat → ClassId) (ad : Nat → Nat) (bw bc : Nat) (σ : St) (q : Int32 × St) (hf : fX9_plan bw bc σ = some q) : Ci l D cy (wX cy ad) yX9_plan cX9_plan 1 .int 6 135 [.ref (ad 0)] σ q.1 q.2 2 (bw + bc) := by
  refine Ci.enter (by decide) (Nat.le_of_ble_eq_true rfl) ?_
  intro aw0 ac0 p e s m below meth c A H locs S hr hlocks hA hK hP hD hS ls hl
  have hx := S.1
  have hb := S.2.1
  have hl : lv_has ls 1 [(0, .ref (ad 0))] := hl
  obtain ⟨aw, ac, hP, hD⟩ : ∃ aw ac : Nat, va_P D vwCl (wX cy ad aw ac σ) H ∧ va_D A (wX cy ad aw ac σ) := ⟨aw0, ac0, hP, hD⟩
  unfold fX9_plan at hf
  refine lv_aload_n hx hb dX9_plan_0 rfl (lv_at hl 0 rfl) ?_
  refine gX_x_stands S hK hP q298 dX9_plan_1 ?_
  refine gX_stands_size S hK hP q173 dX9_plan_4 ?_
  refine lv_if_ne (tgt := 15) hx hb dX9_plan_7 (by decide) (fun c7 => ?_) (fun c7 => ?_)
  · have hf := ifn c7 hf
    refine lv_aload_n hx hb dX9_plan_15 rfl (lv_at hl 0 rfl) ?_
    refine gX_x_planner S hK hP q299 dX9_plan_16 ?_
    obtain ⟨q19, h19, hf⟩ := ob_some hf
    refine u_calli (u_runV (rest := []) S (c_X4_leastPrice l D cy ad bw bc σ q19 h19 aw ac H.size) iX4_leastPrice vX4_leastPrice q645 ⟨Nat.le_of_ble_eq_true rfl, Nat.le_of_ble_eq_true rfl⟩ hK hP hD (q0 := 7) rfl rfl rfl hl.1 (Nat.le_of_ble_eq_true rfl) dX9_plan_19 ⟨by first | omega | (dsimp only [Rm]; omega), by first | omega | (dsimp only [Rm]; omega)⟩) hD hS hA (fun aw ac H locs _ hP hD hS => ?_)
    refine W.widen (k := 2) (n := bw + bc) (by first | omega | (dsimp only [Rm]; omega)) (by first | omega | (dsimp only [Rm]; omega)) ?_
    exact u_iretw hx hb hr hlocks rfl hP hD hS dX9_plan_22 hf (fun h_ => absurd h_ (by decide))
  · have hf := ifp c7 hf
    refine lv_bipush (v := (-3 : Int32)) hx hb dX9_plan_10 (by decide) ?_
    refine lv_goto (tgt := 22) hx hb dX9_plan_12 (by decide) ?_
    refine W.widen (k := 2) (n := bw + bc) (by first | omega | (dsimp only [Rm]; omega)) (by first | omega | (dsimp only [Rm]; omega)) ?_
    exact u_iretw hx hb hr hlocks rfl hP hD hS dX9_plan_22 hf (fun h_ => absurd h_ (by decide))
theorem iX9_act : YI yX9_act cX9_act 2 (some .int) 1 := ⟨q699, q1, by decide, by decide, by decide +kernel⟩
theorem vX9_act : YV yX9_act := ⟨q697, q698⟩
set_option maxRecDepth 100000 in
set_option maxHeartbeats 4000000 in
theorem c_X9_act (l : Launch) (D : va_G) (cy : Nat → ClassId) (ad : Nat → Nat) (bw bc : Nat) (σ : St) (v1 : Int32) (q : Int32 × St) (hf : fX9_act bw bc σ v1 = some q) : Ci l D cy (wX cy ad) yX9_act cX9_act 2 .int 6 136 [.ref (ad 0), .int v1] σ q.1 q.2 2 (bw + bc) := by
  refine Ci.enter (by decide) (Nat.le_of_ble_eq_true rfl) ?_
  intro aw0 ac0 p e s m below meth c A H locs S hr hlocks hA hK hP hD hS ls hl
  have hx := S.1
  have hb := S.2.1
  have hl : lv_has ls 2 [(0, .ref (ad 0)), (1, .int v1)] := hl
  obtain ⟨aw, ac, hP, hD⟩ : ∃ aw ac : Nat, va_P D vwCl (wX cy ad aw ac σ) H ∧ va_D A (wX cy ad aw ac σ) := ⟨aw0, ac0, hP, hD⟩
  unfold fX9_act at hf
  refine lv_iload_n hx hb dX9_act_0 rfl (lv_at hl 1 rfl) ?_
  refine lv_if_ge (tgt := 7) hx hb dX9_act_1 (by decide) (fun c1 => ?_) (fun c1 => ?_)
  · have hf := ifp c1 hf
    refine lv_aload_n hx hb dX9_act_7 rfl (lv_at hl 0 rfl) ?_
    refine gX_x_stands S hK hP q298 dX9_act_8 ?_
    refine gX_stands_size S hK hP q173 dX9_act_11 ?_
    refine lv_if_ne (tgt := 22) hx hb dX9_act_14 (by decide) (fun c14 => ?_) (fun c14 => ?_)
    · have hf := ifn c14 hf
      refine lv_aload_n hx hb dX9_act_22 rfl (lv_at hl 0 rfl) ?_
      refine gX_x_planner S hK hP q299 dX9_act_23 ?_
      refine lv_iload_n hx hb dX9_act_26 rfl (lv_at hl 1 rfl) ?_
      obtain ⟨q27, h27, hf⟩ := ob_some hf
      refine u_calli (u_runV (rest := []) S (c_X4_actAt l D cy ad bw bc σ v1 q27 h27 aw ac H.size) iX4_actAt vX4_actAt q700 ⟨Nat.le_of_ble_eq_true rfl, Nat.le_of_ble_eq_true rfl⟩ hK hP hD (q0 := 7) rfl rfl rfl hl.1 (Nat.le_of_ble_eq_true rfl) dX9_act_27 ⟨by first | omega | (dsimp only [Rm]; omega), by first | omega | (dsimp only [Rm]; omega)⟩) hD hS hA (fun aw ac H locs _ hP hD hS => ?_)
      refine W.widen (k := 2) (n := bw + bc) (by first | omega | (dsimp only [Rm]; omega)) (by first | omega | (dsimp only [Rm]; omega)) ?_
      exact u_iretw hx hb hr hlocks rfl hP hD hS dX9_act_30 hf (fun h_ => absurd h_ (by decide))
    · have hf := ifp c14 hf
      refine lv_bipush (v := (-3 : Int32)) hx hb dX9_act_17 (by decide) ?_
      refine lv_goto (tgt := 30) hx hb dX9_act_19 (by decide) ?_
      refine W.widen (k := 2) (n := bw + bc) (by first | omega | (dsimp only [Rm]; omega)) (by first | omega | (dsimp only [Rm]; omega)) ?_
      exact u_iretw hx hb hr hlocks rfl hP hD hS dX9_act_30 hf (fun h_ => absurd h_ (by decide))
  · have hf := ifn c1 hf
    refine lv_bipush (v := (-2 : Int32)) hx hb dX9_act_4 (by decide) ?_
    refine W.widen (k := 2) (n := bw + bc) (by first | omega | (dsimp only [Rm]; omega)) (by first | omega | (dsimp only [Rm]; omega)) ?_
    exact u_iretw hx hb hr hlocks rfl hP hD hS dX9_act_6 hf (fun h_ => absurd h_ (by decide))
theorem iX9_light : YI yX9_light cX9_light 5 (some .int) 3 := ⟨q707, q1, by decide, by decide, by decide +kernel⟩
theorem vX9_light : YV yX9_light := ⟨q705, q706⟩
set_option maxRecDepth 100000 in
set_option maxHeartbeats 4000000 in
theorem c_X9_light (l : Launch) (D : va_G) (cy : Nat → ClassId) (ad : Nat → Nat) (σ : St) (v1 : Int32) (v2 : Int32) (v3 : Int32) (q : Int32 × St) (hf : fX9_light σ v1 v2 v3 = some q) : Ci l D cy (wX cy ad) yX9_light cX9_light 5 .int 1 24 [.ref (ad 0), .int v1, .int v2, .int v3] σ q.1 q.2 0 0 := by
  refine Ci.enter (by decide) (Nat.le_of_ble_eq_true rfl) ?_
  intro aw ac p e s m below meth c A H locs S hr hlocks hA hK hP hD hS ls hl
  have hx := S.1
  have hb := S.2.1
  have hl : lv_has ls 5 [(0, .ref (ad 0)), (1, .int v1), (2, .int v2), (3, .int v3)] := hl
  unfold fX9_light at hf
  refine lv_iload_n hx hb dX9_light_0 rfl (lv_at hl 1 rfl) ?_
  refine lv_if_lt (tgt := 29) hx hb dX9_light_1 (by decide) (fun c1 => ?_) (fun c1 => ?_)
  · have hf := ifp c1 hf
    refine lv_iconst (v := (0 : Int32)) hx hb dX9_light_29 (by decide) ?_
    refine lv_istore (lv' := [(4, .int (0 : Int32)), (0, .ref (ad 0)), (1, .int v1), (2, .int v2), (3, .int v3)]) hx hb dX9_light_30 hl (by decide) rfl (fun ls hl => ?_)
    refine lv_iload hx hb dX9_light_32 (lv_at hl 0 rfl) ?_
    refine lv_if_ne (tgt := 40) hx hb dX9_light_34 (by decide) (fun c_ => absurd c_ (by decide)) (fun _ => ?_)
    refine lv_bipush (v := (-2 : Int32)) hx hb dX9_light_37 (by decide) ?_
    exact u_iretw hx hb hr hlocks rfl hP hD hS dX9_light_39 hf (fun _ => rfl)
  · have hf := ifn c1 hf
    refine lv_iload_n hx hb dX9_light_4 rfl (lv_at hl 1 rfl) ?_
    refine lv_iload_n hx hb dX9_light_5 rfl (lv_at hl 2 rfl) ?_
    refine lv_icmp_gt (tgt := 29) hx hb dX9_light_6 (by decide) (fun c6 => ?_) (fun c6 => ?_)
    · have hf := ifp c6 hf
      refine lv_iconst (v := (0 : Int32)) hx hb dX9_light_29 (by decide) ?_
      refine lv_istore (lv' := [(4, .int (0 : Int32)), (0, .ref (ad 0)), (1, .int v1), (2, .int v2), (3, .int v3)]) hx hb dX9_light_30 hl (by decide) rfl (fun ls hl => ?_)
      refine lv_iload hx hb dX9_light_32 (lv_at hl 0 rfl) ?_
      refine lv_if_ne (tgt := 40) hx hb dX9_light_34 (by decide) (fun c_ => absurd c_ (by decide)) (fun _ => ?_)
      refine lv_bipush (v := (-2 : Int32)) hx hb dX9_light_37 (by decide) ?_
      exact u_iretw hx hb hr hlocks rfl hP hD hS dX9_light_39 hf (fun _ => rfl)
    · have hf := ifn c6 hf
      refine lv_iload_n hx hb dX9_light_9 rfl (lv_at hl 2 rfl) ?_
      refine lv_bipush (v := (80 : Int32)) hx hb dX9_light_10 (by decide) ?_
      refine lv_icmp_ge (tgt := 29) hx hb dX9_light_12 (by decide) (fun c12 => ?_) (fun c12 => ?_)
      · have hf := ifp c12 hf
        refine lv_iconst (v := (0 : Int32)) hx hb dX9_light_29 (by decide) ?_
        refine lv_istore (lv' := [(4, .int (0 : Int32)), (0, .ref (ad 0)), (1, .int v1), (2, .int v2), (3, .int v3)]) hx hb dX9_light_30 hl (by decide) rfl (fun ls hl => ?_)
        refine lv_iload hx hb dX9_light_32 (lv_at hl 0 rfl) ?_
        refine lv_if_ne (tgt := 40) hx hb dX9_light_34 (by decide) (fun c_ => absurd c_ (by decide)) (fun _ => ?_)
        refine lv_bipush (v := (-2 : Int32)) hx hb dX9_light_37 (by decide) ?_
        exact u_iretw hx hb hr hlocks rfl hP hD hS dX9_light_39 hf (fun _ => rfl)
      · have hf := ifn c12 hf
        refine lv_iload_n hx hb dX9_light_15 rfl (lv_at hl 3 rfl) ?_
        refine lv_iconst (v := (0 : Int32)) hx hb dX9_light_16 (by decide) ?_
        refine lv_bipush (v := (16 : Int32)) hx hb dX9_light_17 (by decide) ?_
        obtain ⟨r19, h19, hf⟩ := ob_some hf
        refine p_calli0 (u_runS (rest := []) S (c_X9_within l D cy σ v3 (0 : Int32) (16 : Int32) r19 h19 aw ac H.size) iX9_within q326 q325 ⟨Nat.le_of_ble_eq_true rfl, Nat.le_of_ble_eq_true rfl⟩ hK wN_P (wN_D (A := fun _ => True)) rfl hl.1 (Nat.le_of_ble_eq_true rfl) dX9_light_19 ⟨Nat.le_refl _, Nat.le_refl _⟩) hP hS hA (fun H locs hP hS => ?_)
        refine lv_if_eq (tgt := 29) hx hb dX9_light_22 (by decide) (fun c22 => ?_) (fun c22 => ?_)
        · have hf := ifp c22 hf
          refine lv_iconst (v := (0 : Int32)) hx hb dX9_light_29 (by decide) ?_
          refine lv_istore (lv' := [(4, .int (0 : Int32)), (0, .ref (ad 0)), (1, .int v1), (2, .int v2), (3, .int v3)]) hx hb dX9_light_30 hl (by decide) rfl (fun ls hl => ?_)
          refine lv_iload hx hb dX9_light_32 (lv_at hl 0 rfl) ?_
          refine lv_if_ne (tgt := 40) hx hb dX9_light_34 (by decide) (fun c_ => absurd c_ (by decide)) (fun _ => ?_)
          refine lv_bipush (v := (-2 : Int32)) hx hb dX9_light_37 (by decide) ?_
          exact u_iretw hx hb hr hlocks rfl hP hD hS dX9_light_39 hf (fun _ => rfl)
        · have hf := ifn c22 hf
          refine lv_iconst (v := (1 : Int32)) hx hb dX9_light_25 (by decide) ?_
          refine lv_goto (tgt := 30) hx hb dX9_light_26 (by decide) ?_
          refine lv_istore (lv' := [(4, .int (1 : Int32)), (0, .ref (ad 0)), (1, .int v1), (2, .int v2), (3, .int v3)]) hx hb dX9_light_30 hl (by decide) rfl (fun ls hl => ?_)
          refine lv_iload hx hb dX9_light_32 (lv_at hl 0 rfl) ?_
          refine lv_if_ne (tgt := 40) hx hb dX9_light_34 (by decide) (fun _ => ?_) (fun c_ => absurd c_ (by decide))
          refine lv_aload_n hx hb dX9_light_40 rfl (lv_at hl 1 rfl) ?_
          refine gX_x_calendar S hK hP q300 dX9_light_41 ?_
          obtain ⟨q44, h44, hf⟩ := ob_some hf
          refine u_callv0 (u_runV (rest := []) S (c_X0_forget l D cy ad σ q44 h44 aw ac H.size) iX0_forget vX0_forget q552 ⟨Nat.le_of_ble_eq_true rfl, Nat.le_of_ble_eq_true rfl⟩ hK hP hD (q0 := 8) rfl rfl rfl hl.1 (Nat.le_of_ble_eq_true rfl) dX9_light_44 ⟨Nat.le_refl _, Nat.le_refl _⟩) hD hS hA (fun H locs hP hD hS => ?_)
          refine lv_aload_n hx hb dX9_light_47 rfl (lv_at hl 1 rfl) ?_
          refine gX_x_calendar S hK hP q300 dX9_light_48 ?_
          refine lv_iload_n hx hb dX9_light_51 rfl (lv_at hl 2 rfl) ?_
          refine lv_iload_n hx hb dX9_light_52 rfl (lv_at hl 3 rfl) ?_
          refine lv_iload_n hx hb dX9_light_53 rfl (lv_at hl 4 rfl) ?_
          obtain ⟨q54, h54, hf⟩ := ob_some hf
          refine u_callv0 (u_runV (rest := []) S (c_X0_setLight l D cy ad q44 v1 v2 v3 q54 h54 aw ac H.size) iX0_setLight vX0_setLight q708 ⟨Nat.le_of_ble_eq_true rfl, Nat.le_of_ble_eq_true rfl⟩ hK hP hD (q0 := 8) rfl rfl rfl hl.1 (Nat.le_of_ble_eq_true rfl) dX9_light_54 ⟨Nat.le_refl _, Nat.le_refl _⟩) hD hS hA (fun H locs hP hD hS => ?_)
          refine lv_iconst (v := (1 : Int32)) hx hb dX9_light_57 (by decide) ?_
          exact u_iretw hx hb hr hlocks rfl hP hD hS dX9_light_58 hf (fun _ => rfl)
theorem iX9_frost : YI yX9_frost cX9_frost 3 (some .int) 2 := ⟨q715, q1, by decide, by decide, by decide +kernel⟩
theorem vX9_frost : YV yX9_frost := ⟨q713, q714⟩
set_option maxRecDepth 100000 in
set_option maxHeartbeats 4000000 in
theorem c_X9_frost (l : Launch) (D : va_G) (cy : Nat → ClassId) (ad : Nat → Nat) (σ : St) (v1 : Int32) (v2 : Int32) (q : Int32 × St) (hf : fX9_frost σ v1 v2 = some q) : Ci l D cy (wX cy ad) yX9_frost cX9_frost 3 .int 1 22 [.ref (ad 0), .int v1, .int v2] σ q.1 q.2 0 0 := by
  refine Ci.enter (by decide) (Nat.le_of_ble_eq_true rfl) ?_
  intro aw ac p e s m below meth c A H locs S hr hlocks hA hK hP hD hS ls hl
  have hx := S.1
  have hb := S.2.1
  have hl : lv_has ls 3 [(0, .ref (ad 0)), (1, .int v1), (2, .int v2)] := hl
  unfold fX9_frost at hf
  refine lv_iload_n hx hb dX9_frost_0 rfl (lv_at hl 1 rfl) ?_
  refine lv_iconst (v := (0 : Int32)) hx hb dX9_frost_1 (by decide) ?_
  refine lv_bipush (v := (79 : Int32)) hx hb dX9_frost_2 (by decide) ?_
  obtain ⟨r4, h4, hf⟩ := ob_some hf
  refine p_calli0 (u_runS (rest := []) S (c_X9_within l D cy σ v1 (0 : Int32) (79 : Int32) r4 h4 aw ac H.size) iX9_within q326 q325 ⟨Nat.le_of_ble_eq_true rfl, Nat.le_of_ble_eq_true rfl⟩ hK wN_P (wN_D (A := fun _ => True)) rfl hl.1 (Nat.le_of_ble_eq_true rfl) dX9_frost_4 ⟨Nat.le_refl _, Nat.le_refl _⟩) hP hS hA (fun H locs hP hS => ?_)
  refine lv_if_ne (tgt := 13) hx hb dX9_frost_7 (by decide) (fun c7 => ?_) (fun c7 => ?_)
  · have hf := ifn c7 hf
    refine lv_aload_n hx hb dX9_frost_13 rfl (lv_at hl 0 rfl) ?_
    refine gX_x_calendar S hK hP q300 dX9_frost_14 ?_
    refine gX_calendar_frozen S hK hP q240 dX9_frost_17 ?_
    refine lv_iload_n hx hb dX9_frost_20 rfl (lv_at hl 1 rfl) ?_
    obtain ⟨h21, hf⟩ := if_in hf
    refine lX_37 S hK hP h21 dX9_frost_21 ?_
    refine lv_iload_n hx hb dX9_frost_22 rfl (lv_at hl 2 rfl) ?_
    refine lv_icmp_ne (tgt := 29) hx hb dX9_frost_23 (by decide) (fun c23 => ?_) (fun c23 => ?_)
    · have hf := ifn c23 hf
      refine lv_aload_n hx hb dX9_frost_29 rfl (lv_at hl 0 rfl) ?_
      refine gX_x_calendar S hK hP q300 dX9_frost_30 ?_
      obtain ⟨q33, h33, hf⟩ := ob_some hf
      refine u_callv0 (u_runV (rest := []) S (c_X0_forget l D cy ad σ q33 h33 aw ac H.size) iX0_forget vX0_forget q552 ⟨Nat.le_of_ble_eq_true rfl, Nat.le_of_ble_eq_true rfl⟩ hK hP hD (q0 := 8) rfl rfl rfl hl.1 (Nat.le_of_ble_eq_true rfl) dX9_frost_33 ⟨Nat.le_refl _, Nat.le_refl _⟩) hD hS hA (fun H locs hP hD hS => ?_)
      refine lv_aload_n hx hb dX9_frost_36 rfl (lv_at hl 0 rfl) ?_
      refine gX_x_calendar S hK hP q300 dX9_frost_37 ?_
      refine gX_calendar_frozen S hK hP q240 dX9_frost_40 ?_
      refine lv_iload_n hx hb dX9_frost_43 rfl (lv_at hl 1 rfl) ?_
      refine lv_iload_n hx hb dX9_frost_44 rfl (lv_at hl 2 rfl) ?_
      obtain ⟨h45, hf⟩ := if_in hf
      refine tX_37 S hK hP hD hS h45 dX9_frost_45 (fun H locs hP hD hS => ?_)
      refine lv_iconst (v := (1 : Int32)) hx hb dX9_frost_46 (by decide) ?_
      exact u_iretw hx hb hr hlocks rfl hP hD hS dX9_frost_47 hf (fun _ => rfl)
    · have hf := ifp c23 hf
      refine lv_bipush (v := (-3 : Int32)) hx hb dX9_frost_26 (by decide) ?_
      exact u_iretw hx hb hr hlocks rfl hP hD hS dX9_frost_28 hf (fun _ => rfl)
  · have hf := ifp c7 hf
    refine lv_bipush (v := (-2 : Int32)) hx hb dX9_frost_10 (by decide) ?_
    exact u_iretw hx hb hr hlocks rfl hP hD hS dX9_frost_12 hf (fun _ => rfl)
theorem iX9_mortar : YI yX9_mortar cX9_mortar 3 (some .int) 1 := ⟨q719, q1, by decide, by decide, by decide +kernel⟩
theorem vX9_mortar : YV yX9_mortar := ⟨q717, q718⟩
set_option maxRecDepth 100000 in
set_option maxHeartbeats 4000000 in
theorem c_X9_mortar (l : Launch) (D : va_G) (cy : Nat → ClassId) (ad : Nat → Nat) (σ : St) (v1 : Int32) (q : Int32 × St) (hf : fX9_mortar σ v1 = some q) : Ci l D cy (wX cy ad) yX9_mortar cX9_mortar 3 .int 1 22 [.ref (ad 0), .int v1] σ q.1 q.2 0 0 := by
  refine Ci.enter (by decide) (Nat.le_of_ble_eq_true rfl) ?_
  intro aw ac p e s m below meth c A H locs S hr hlocks hA hK hP hD hS ls hl
  have hx := S.1
  have hb := S.2.1
  have hl : lv_has ls 3 [(0, .ref (ad 0)), (1, .int v1)] := hl
  unfold fX9_mortar at hf
  refine lv_iload_n hx hb dX9_mortar_0 rfl (lv_at hl 1 rfl) ?_
  refine lv_iconst (v := (0 : Int32)) hx hb dX9_mortar_1 (by decide) ?_
  refine lv_bipush (v := (10 : Int32)) hx hb dX9_mortar_2 (by decide) ?_
  obtain ⟨r4, h4, hf⟩ := ob_some hf
  refine p_calli0 (u_runS (rest := []) S (c_X9_within l D cy σ v1 (0 : Int32) (10 : Int32) r4 h4 aw ac H.size) iX9_within q326 q325 ⟨Nat.le_of_ble_eq_true rfl, Nat.le_of_ble_eq_true rfl⟩ hK wN_P (wN_D (A := fun _ => True)) rfl hl.1 (Nat.le_of_ble_eq_true rfl) dX9_mortar_4 ⟨Nat.le_refl _, Nat.le_refl _⟩) hP hS hA (fun H locs hP hS => ?_)
  refine lv_if_ne (tgt := 13) hx hb dX9_mortar_7 (by decide) (fun c7 => ?_) (fun c7 => ?_)
  · have hf := ifn c7 hf
    refine lv_aload_n hx hb dX9_mortar_13 rfl (lv_at hl 0 rfl) ?_
    refine gX_x_calendar S hK hP q300 dX9_mortar_14 ?_
    obtain ⟨q17, h17, hf⟩ := ob_some hf
    refine u_callv0 (u_runV (rest := []) S (c_X0_forget l D cy ad σ q17 h17 aw ac H.size) iX0_forget vX0_forget q552 ⟨Nat.le_of_ble_eq_true rfl, Nat.le_of_ble_eq_true rfl⟩ hK hP hD (q0 := 8) rfl rfl rfl hl.1 (Nat.le_of_ble_eq_true rfl) dX9_mortar_17 ⟨Nat.le_refl _, Nat.le_refl _⟩) hD hS hA (fun H locs hP hD hS => ?_)
    refine lv_aload_n hx hb dX9_mortar_20 rfl (lv_at hl 0 rfl) ?_
    refine gX_x_calendar S hK hP q300 dX9_mortar_21 ?_
    refine gX_calendar_drying S hK hP q242 dX9_mortar_24 ?_
    refine lv_istore_n (lv' := [(2, .int (gi q17 18)), (0, .ref (ad 0)), (1, .int v1)]) hx hb dX9_mortar_27 rfl hl (by decide) rfl (fun ls hl => ?_)
    refine lv_aload_n hx hb dX9_mortar_28 rfl (lv_at hl 1 rfl) ?_
    refine gX_x_calendar S hK hP q300 dX9_mortar_29 ?_
    refine lv_iload_n hx hb dX9_mortar_32 rfl (lv_at hl 2 rfl) ?_
    refine pX_calendar_drying S hK hP hD hS q242 dX9_mortar_33 (fun H locs hP hD hS => ?_)
    refine lv_iload_n hx hb dX9_mortar_36 rfl (lv_at hl 0 rfl) ?_
    exact u_iretw hx hb hr hlocks rfl hP hD hS dX9_mortar_37 hf (fun _ => rfl)
  · have hf := ifp c7 hf
    refine lv_bipush (v := (-2 : Int32)) hx hb dX9_mortar_10 (by decide) ?_
    exact u_iretw hx hb hr hlocks rfl hP hD hS dX9_mortar_12 hf (fun _ => rfl)
theorem iX9_laid : YI yX9_laid cX9_laid 2 (some .int) 1 := ⟨q723, q1, by decide, by decide, by decide +kernel⟩
theorem vX9_laid : YV yX9_laid := ⟨q721, q722⟩
set_option maxRecDepth 100000 in
set_option maxHeartbeats 4000000 in
theorem c_X9_laid (l : Launch) (D : va_G) (cy : Nat → ClassId) (ad : Nat → Nat) (bw bc : Nat) (σ : St) (v1 : Int32) (q : Int32 × St) (hf : fX9_laid bw bc σ v1 = some q) : Ci l D cy (wX cy ad) yX9_laid cX9_laid 2 .int 7 159 [.ref (ad 0), .int v1] σ q.1 q.2 2 (bw + bc) := by
  refine Ci.enter (by decide) (Nat.le_of_ble_eq_true rfl) ?_
  intro aw0 ac0 p e s m below meth c A H locs S hr hlocks hA hK hP hD hS ls hl
  have hx := S.1
  have hb := S.2.1
  have hl : lv_has ls 2 [(0, .ref (ad 0)), (1, .int v1)] := hl
  obtain ⟨aw, ac, hP, hD⟩ : ∃ aw ac : Nat, va_P D vwCl (wX cy ad aw ac σ) H ∧ va_D A (wX cy ad aw ac σ) := ⟨aw0, ac0, hP, hD⟩
  unfold fX9_laid at hf
  refine lv_aload_n hx hb dX9_laid_0 rfl (lv_at hl 0 rfl) ?_
  refine lv_iload_n hx hb dX9_laid_1 rfl (lv_at hl 1 rfl) ?_
  obtain ⟨r2, h2, hf⟩ := ob_some hf
  refine u_calli0 (u_runV (rest := []) S (c_X9_isStone l D cy ad σ v1 r2 h2 aw ac H.size) iX9_isStone vX9_isStone q564 ⟨Nat.le_of_ble_eq_true rfl, Nat.le_of_ble_eq_true rfl⟩ hK hP hD (q0 := 0) rfl rfl rfl hl.1 (Nat.le_of_ble_eq_true rfl) dX9_laid_2 ⟨by first | omega | (dsimp only [Rm]; omega), by first | omega | (dsimp only [Rm]; omega)⟩) hD hS hA (fun H locs hP hD hS => ?_)
  refine lv_if_ne (tgt := 11) hx hb dX9_laid_5 (by decide) (fun c5 => ?_) (fun c5 => ?_)
  · have hf := ifn c5 hf
    refine lv_aload_n hx hb dX9_laid_11 rfl (lv_at hl 0 rfl) ?_
    refine gX_x_planner S hK hP q299 dX9_laid_12 ?_
    refine lv_aload_n hx hb dX9_laid_15 rfl (lv_at hl 0 rfl) ?_
    refine gX_x_calendar S hK hP q300 dX9_laid_16 ?_
    refine gX_calendar_order S hK hP q245 dX9_laid_19 ?_
    obtain ⟨q22, h22, hf⟩ := ob_some hf
    refine u_callv (u_runV (rest := []) S (c_X4_orderInto l D cy ad bw bc σ q22 h22 aw ac H.size) iX4_orderInto vX4_orderInto q724 ⟨Nat.le_of_ble_eq_true rfl, Nat.le_of_ble_eq_true rfl⟩ hK hP hD (q0 := 7) rfl rfl rfl hl.1 (Nat.le_of_ble_eq_true rfl) dX9_laid_22 ⟨by first | omega | (dsimp only [Rm]; omega), by first | omega | (dsimp only [Rm]; omega)⟩) hD hS hA (fun aw ac H locs _ hP hD hS => ?_)
    refine lv_aload_n hx hb dX9_laid_25 rfl (lv_at hl 0 rfl) ?_
    refine gX_x_calendar S hK hP q300 dX9_laid_26 ?_
    refine lv_iconst (v := (-1 : Int32)) hx hb dX9_laid_29 (by decide) ?_
    refine lv_iconst (v := (-1 : Int32)) hx hb dX9_laid_30 (by decide) ?_
    obtain ⟨q31, h31, hf⟩ := ob_some hf
    refine u_calli0 (u_runV (rest := []) S (c_X0_endWith l D cy ad q22 (-1 : Int32) (-1 : Int32) q31 h31 aw ac H.size) iX0_endWith vX0_endWith q729 ⟨Nat.le_of_ble_eq_true rfl, Nat.le_of_ble_eq_true rfl⟩ hK hP hD (q0 := 8) rfl rfl rfl hl.1 (Nat.le_of_ble_eq_true rfl) dX9_laid_31 ⟨by first | omega | (dsimp only [Rm]; omega), by first | omega | (dsimp only [Rm]; omega)⟩) hD hS hA (fun H locs hP hD hS => ?_)
    refine lv_pop hx hb dX9_laid_34 rfl ?_
    refine lv_aload_n hx hb dX9_laid_35 rfl (lv_at hl 0 rfl) ?_
    refine gX_x_calendar S hK hP q300 dX9_laid_36 ?_
    refine gX_calendar_laidOn S hK hP q247 dX9_laid_39 ?_
    refine lv_iload_n hx hb dX9_laid_42 rfl (lv_at hl 1 rfl) ?_
    obtain ⟨h43, hf⟩ := if_in hf
    refine lX_40 S hK hP h43 dX9_laid_43 ?_
    refine W.widen (k := 2) (n := bw + bc) (by first | omega | (dsimp only [Rm]; omega)) (by first | omega | (dsimp only [Rm]; omega)) ?_
    exact u_iretw hx hb hr hlocks rfl hP hD hS dX9_laid_44 hf (fun h_ => absurd h_ (by decide))
  · have hf := ifp c5 hf
    refine lv_bipush (v := (-2 : Int32)) hx hb dX9_laid_8 (by decide) ?_
    refine W.widen (k := 2) (n := bw + bc) (by first | omega | (dsimp only [Rm]; omega)) (by first | omega | (dsimp only [Rm]; omega)) ?_
    exact u_iretw hx hb hr hlocks rfl hP hD hS dX9_laid_10 hf (fun h_ => absurd h_ (by decide))
theorem iX9_end : YI yX9_end cX9_end 2 (some .int) 0 := ⟨q757, q1, by decide, by decide, by decide +kernel⟩
theorem vX9_end : YV yX9_end := ⟨q755, q756⟩
set_option maxRecDepth 100000 in
set_option maxHeartbeats 4000000 in
theorem c_X9_end (l : Launch) (D : va_G) (cy : Nat → ClassId) (ad : Nat → Nat) (bw bc : Nat) (σ : St) (q : Int32 × St) (hf : fX9_end bw bc σ = some q) : Ci l D cy (wX cy ad) yX9_end cX9_end 2 .int 7 159 [.ref (ad 0)] σ q.1 q.2 2 (bw + bc) := by
  refine Ci.enter (by decide) (Nat.le_of_ble_eq_true rfl) ?_
  intro aw0 ac0 p e s m below meth c A H locs S hr hlocks hA hK hP hD hS ls hl
  have hx := S.1
  have hb := S.2.1
  have hl : lv_has ls 2 [(0, .ref (ad 0))] := hl
  obtain ⟨aw, ac, hP, hD⟩ : ∃ aw ac : Nat, va_P D vwCl (wX cy ad aw ac σ) H ∧ va_D A (wX cy ad aw ac σ) := ⟨aw0, ac0, hP, hD⟩
  unfold fX9_end at hf
  refine lv_aload_n hx hb dX9_end_0 rfl (lv_at hl 0 rfl) ?_
  refine gX_x_stones S hK hP q297 dX9_end_1 ?_
  refine gX_stones_size S hK hP q136 dX9_end_4 ?_
  refine lv_if_ne (tgt := 12) hx hb dX9_end_7 (by decide) (fun c7 => ?_) (fun c7 => ?_)
  · have hf := ifn c7 hf
    refine lv_aload_n hx hb dX9_end_12 rfl (lv_at hl 0 rfl) ?_
    refine gX_x_planner S hK hP q299 dX9_end_13 ?_
    refine lv_aload_n hx hb dX9_end_16 rfl (lv_at hl 0 rfl) ?_
    refine gX_x_calendar S hK hP q300 dX9_end_17 ?_
    refine gX_calendar_order S hK hP q245 dX9_end_20 ?_
    obtain ⟨q23, h23, hf⟩ := ob_some hf
    refine u_callv (u_runV (rest := []) S (c_X4_orderInto l D cy ad bw bc σ q23 h23 aw ac H.size) iX4_orderInto vX4_orderInto q724 ⟨Nat.le_of_ble_eq_true rfl, Nat.le_of_ble_eq_true rfl⟩ hK hP hD (q0 := 7) rfl rfl rfl hl.1 (Nat.le_of_ble_eq_true rfl) dX9_end_23 ⟨by first | omega | (dsimp only [Rm]; omega), by first | omega | (dsimp only [Rm]; omega)⟩) hD hS hA (fun aw ac H locs _ hP hD hS => ?_)
    refine lv_aload_n hx hb dX9_end_26 rfl (lv_at hl 0 rfl) ?_
    refine gX_x_calendar S hK hP q300 dX9_end_27 ?_
    refine lv_iconst (v := (-1 : Int32)) hx hb dX9_end_30 (by decide) ?_
    refine lv_iconst (v := (-1 : Int32)) hx hb dX9_end_31 (by decide) ?_
    obtain ⟨q32, h32, hf⟩ := ob_some hf
    refine u_calli0 (u_runV (rest := []) S (c_X0_endWith l D cy ad q23 (-1 : Int32) (-1 : Int32) q32 h32 aw ac H.size) iX0_endWith vX0_endWith q729 ⟨Nat.le_of_ble_eq_true rfl, Nat.le_of_ble_eq_true rfl⟩ hK hP hD (q0 := 8) rfl rfl rfl hl.1 (Nat.le_of_ble_eq_true rfl) dX9_end_32 ⟨by first | omega | (dsimp only [Rm]; omega), by first | omega | (dsimp only [Rm]; omega)⟩) hD hS hA (fun H locs hP hD hS => ?_)
    refine lv_istore_n (lv' := [(1, .int q32.1), (0, .ref (ad 0))]) hx hb dX9_end_35 rfl hl (by decide) rfl (fun ls hl => ?_)
    refine lv_iload_n hx hb dX9_end_36 rfl (lv_at hl 0 rfl) ?_
    refine lv_bipush (v := (80 : Int32)) hx hb dX9_end_37 (by decide) ?_
    refine lv_icmp_ne (tgt := 46) hx hb dX9_end_39 (by decide) (fun c39 => ?_) (fun c39 => ?_)
    · have hf := ifn c39 hf
      refine lv_iload_n hx hb dX9_end_46 rfl (lv_at hl 0 rfl) ?_
      refine W.widen (k := 2) (n := bw + bc) (by first | omega | (dsimp only [Rm]; omega)) (by first | omega | (dsimp only [Rm]; omega)) ?_
      exact u_iretw hx hb hr hlocks rfl hP hD hS dX9_end_47 hf (fun h_ => absurd h_ (by decide))
    · have hf := ifp c39 hf
      refine lv_iconst (v := (-1 : Int32)) hx hb dX9_end_42 (by decide) ?_
      refine lv_goto (tgt := 47) hx hb dX9_end_43 (by decide) ?_
      refine W.widen (k := 2) (n := bw + bc) (by first | omega | (dsimp only [Rm]; omega)) (by first | omega | (dsimp only [Rm]; omega)) ?_
      exact u_iretw hx hb hr hlocks rfl hP hD hS dX9_end_47 hf (fun h_ => absurd h_ (by decide))
  · have hf := ifp c7 hf
    refine lv_iconst (v := (-1 : Int32)) hx hb dX9_end_10 (by decide) ?_
    refine W.widen (k := 2) (n := bw + bc) (by first | omega | (dsimp only [Rm]; omega)) (by first | omega | (dsimp only [Rm]; omega)) ?_
    exact u_iretw hx hb hr hlocks rfl hP hD hS dX9_end_11 hf (fun h_ => absurd h_ (by decide))
theorem iX9_worst : YI yX9_worst cX9_worst 4 (some .int) 3 := ⟨q761, q1, by decide, by decide, by decide +kernel⟩
theorem vX9_worst : YV yX9_worst := ⟨q759, q760⟩
set_option maxRecDepth 100000 in
set_option maxHeartbeats 4000000 in
theorem c_X9_worst (l : Launch) (D : va_G) (cy : Nat → ClassId) (ad : Nat → Nat) (bw bc : Nat) (σ : St) (v1 : Int32) (v2 : Int32) (v3 : Int32) (q : Int32 × St) (hf : fX9_worst bw bc σ v1 v2 v3 = some q) : Ci l D cy (wX cy ad) yX9_worst cX9_worst 4 .int 7 159 [.ref (ad 0), .int v1, .int v2, .int v3] σ q.1 q.2 2 (bw + bc) := by
  refine Ci.enter (by decide) (Nat.le_of_ble_eq_true rfl) ?_
  intro aw0 ac0 p e s m below meth c A H locs S hr hlocks hA hK hP hD hS ls hl
  have hx := S.1
  have hb := S.2.1
  have hl : lv_has ls 4 [(0, .ref (ad 0)), (1, .int v1), (2, .int v2), (3, .int v3)] := hl
  obtain ⟨aw, ac, hP, hD⟩ : ∃ aw ac : Nat, va_P D vwCl (wX cy ad aw ac σ) H ∧ va_D A (wX cy ad aw ac σ) := ⟨aw0, ac0, hP, hD⟩
  unfold fX9_worst at hf
  refine lv_iload_n hx hb dX9_worst_0 rfl (lv_at hl 1 rfl) ?_
  refine lv_iconst (v := (0 : Int32)) hx hb dX9_worst_1 (by decide) ?_
  refine lv_iconst (v := (2 : Int32)) hx hb dX9_worst_2 (by decide) ?_
  obtain ⟨r3, h3, hf⟩ := ob_some hf
  refine p_calli0 (u_runS (rest := []) S (c_X9_within l D cy σ v1 (0 : Int32) (2 : Int32) r3 h3 aw ac H.size) iX9_within q326 q325 ⟨Nat.le_of_ble_eq_true rfl, Nat.le_of_ble_eq_true rfl⟩ hK wN_P (wN_D (A := fun _ => True)) rfl hl.1 (Nat.le_of_ble_eq_true rfl) dX9_worst_3 ⟨by first | omega | (dsimp only [Rm]; omega), by first | omega | (dsimp only [Rm]; omega)⟩) hP hS hA (fun H locs hP hS => ?_)
  refine lv_if_eq (tgt := 27) hx hb dX9_worst_6 (by decide) (fun c6 => ?_) (fun c6 => ?_)
  · have hf := ifp c6 hf
    refine lv_bipush (v := (-2 : Int32)) hx hb dX9_worst_27 (by decide) ?_
    refine W.widen (k := 2) (n := bw + bc) (by first | omega | (dsimp only [Rm]; omega)) (by first | omega | (dsimp only [Rm]; omega)) ?_
    exact u_iretw hx hb hr hlocks rfl hP hD hS dX9_worst_29 hf (fun h_ => absurd h_ (by decide))
  · have hf := ifn c6 hf
    refine lv_iload_n hx hb dX9_worst_9 rfl (lv_at hl 2 rfl) ?_
    refine lv_iconst (v := (0 : Int32)) hx hb dX9_worst_10 (by decide) ?_
    refine lv_iconst (v := (1 : Int32)) hx hb dX9_worst_11 (by decide) ?_
    obtain ⟨r12, h12, hf⟩ := ob_some hf
    refine p_calli0 (u_runS (rest := []) S (c_X9_within l D cy σ v2 (0 : Int32) (1 : Int32) r12 h12 aw ac H.size) iX9_within q326 q325 ⟨Nat.le_of_ble_eq_true rfl, Nat.le_of_ble_eq_true rfl⟩ hK wN_P (wN_D (A := fun _ => True)) rfl hl.1 (Nat.le_of_ble_eq_true rfl) dX9_worst_12 ⟨by first | omega | (dsimp only [Rm]; omega), by first | omega | (dsimp only [Rm]; omega)⟩) hP hS hA (fun H locs hP hS => ?_)
    refine lv_if_eq (tgt := 27) hx hb dX9_worst_15 (by decide) (fun c15 => ?_) (fun c15 => ?_)
    · have hf := ifp c15 hf
      refine lv_bipush (v := (-2 : Int32)) hx hb dX9_worst_27 (by decide) ?_
      refine W.widen (k := 2) (n := bw + bc) (by first | omega | (dsimp only [Rm]; omega)) (by first | omega | (dsimp only [Rm]; omega)) ?_
      exact u_iretw hx hb hr hlocks rfl hP hD hS dX9_worst_29 hf (fun h_ => absurd h_ (by decide))
    · have hf := ifn c15 hf
      refine lv_iload_n hx hb dX9_worst_18 rfl (lv_at hl 2 rfl) ?_
      refine lv_iconst (v := (1 : Int32)) hx hb dX9_worst_19 (by decide) ?_
      refine lv_icmp_ne (tgt := 30) hx hb dX9_worst_20 (by decide) (fun c20 => ?_) (fun c20 => ?_)
      · have hf := ifn c20 hf
        refine lv_aload_n hx hb dX9_worst_30 rfl (lv_at hl 0 rfl) ?_
        refine gX_x_stones S hK hP q297 dX9_worst_31 ?_
        refine gX_stones_size S hK hP q136 dX9_worst_34 ?_
        refine lv_if_ne (tgt := 42) hx hb dX9_worst_37 (by decide) (fun c37 => ?_) (fun c37 => ?_)
        · have hf := ifn c37 hf
          refine lv_aload_n hx hb dX9_worst_42 rfl (lv_at hl 0 rfl) ?_
          refine gX_x_planner S hK hP q299 dX9_worst_43 ?_
          refine lv_aload_n hx hb dX9_worst_46 rfl (lv_at hl 0 rfl) ?_
          refine gX_x_calendar S hK hP q300 dX9_worst_47 ?_
          refine gX_calendar_order S hK hP q245 dX9_worst_50 ?_
          obtain ⟨q53, h53, hf⟩ := ob_some hf
          refine u_callv (u_runV (rest := []) S (c_X4_orderInto l D cy ad bw bc σ q53 h53 aw ac H.size) iX4_orderInto vX4_orderInto q724 ⟨Nat.le_of_ble_eq_true rfl, Nat.le_of_ble_eq_true rfl⟩ hK hP hD (q0 := 7) rfl rfl rfl hl.1 (Nat.le_of_ble_eq_true rfl) dX9_worst_53 ⟨by first | omega | (dsimp only [Rm]; omega), by first | omega | (dsimp only [Rm]; omega)⟩) hD hS hA (fun aw ac H locs _ hP hD hS => ?_)
          refine lv_aload_n hx hb dX9_worst_56 rfl (lv_at hl 0 rfl) ?_
          refine gX_x_calendar S hK hP q300 dX9_worst_57 ?_
          refine lv_iload_n hx hb dX9_worst_60 rfl (lv_at hl 1 rfl) ?_
          obtain ⟨q61, h61, hf⟩ := ob_some hf
          refine u_callv0 (u_runV (rest := []) S (c_X0_findWorst l D cy ad q53 v1 q61 h61 aw ac H.size) iX0_findWorst vX0_findWorst q762 ⟨Nat.le_of_ble_eq_true rfl, Nat.le_of_ble_eq_true rfl⟩ hK hP hD (q0 := 8) rfl rfl rfl hl.1 (Nat.le_of_ble_eq_true rfl) dX9_worst_61 ⟨by first | omega | (dsimp only [Rm]; omega), by first | omega | (dsimp only [Rm]; omega)⟩) hD hS hA (fun H locs hP hD hS => ?_)
          refine lv_iload_n hx hb dX9_worst_64 rfl (lv_at hl 2 rfl) ?_
          refine lv_if_ne (tgt := 78) hx hb dX9_worst_65 (by decide) (fun c65 => ?_) (fun c65 => ?_)
          · have hf := ifn c65 hf
            refine lv_aload_n hx hb dX9_worst_78 rfl (lv_at hl 0 rfl) ?_
            refine gX_x_calendar S hK hP q300 dX9_worst_79 ?_
            refine lv_iload_n hx hb dX9_worst_82 rfl (lv_at hl 3 rfl) ?_
            obtain ⟨r83, h83, hf⟩ := ob_some hf
            refine u_calli0 (u_runV (rest := []) S (c_X0_worstDay l D cy ad q61 v3 r83 h83 aw ac H.size) iX0_worstDay vX0_worstDay q775 ⟨Nat.le_of_ble_eq_true rfl, Nat.le_of_ble_eq_true rfl⟩ hK hP hD (q0 := 8) rfl rfl rfl hl.1 (Nat.le_of_ble_eq_true rfl) dX9_worst_83 ⟨by first | omega | (dsimp only [Rm]; omega), by first | omega | (dsimp only [Rm]; omega)⟩) hD hS hA (fun H locs hP hD hS => ?_)
            refine W.widen (k := 2) (n := bw + bc) (by first | omega | (dsimp only [Rm]; omega)) (by first | omega | (dsimp only [Rm]; omega)) ?_
            exact u_iretw hx hb hr hlocks rfl hP hD hS dX9_worst_86 hf (fun h_ => absurd h_ (by decide))
          · have hf := ifp c65 hf
            refine lv_aload_n hx hb dX9_worst_68 rfl (lv_at hl 0 rfl) ?_
            refine gX_x_calendar S hK hP q300 dX9_worst_69 ?_
            refine gX_calendar_worstEnd S hK hP q250 dX9_worst_72 ?_
            refine lv_goto (tgt := 86) hx hb dX9_worst_75 (by decide) ?_
            refine W.widen (k := 2) (n := bw + bc) (by first | omega | (dsimp only [Rm]; omega)) (by first | omega | (dsimp only [Rm]; omega)) ?_
            exact u_iretw hx hb hr hlocks rfl hP hD hS dX9_worst_86 hf (fun h_ => absurd h_ (by decide))
        · have hf := ifp c37 hf
          refine lv_iconst (v := (-1 : Int32)) hx hb dX9_worst_40 (by decide) ?_
          refine W.widen (k := 2) (n := bw + bc) (by first | omega | (dsimp only [Rm]; omega)) (by first | omega | (dsimp only [Rm]; omega)) ?_
          exact u_iretw hx hb hr hlocks rfl hP hD hS dX9_worst_41 hf (fun h_ => absurd h_ (by decide))
      · have hf := ifp c20 hf
        refine lv_iload_n hx hb dX9_worst_23 rfl (lv_at hl 3 rfl) ?_
        refine lv_if_ge (tgt := 30) hx hb dX9_worst_24 (by decide) (fun c24 => ?_) (fun c24 => ?_)
        · have hf := ifp c24 hf
          refine lv_aload_n hx hb dX9_worst_30 rfl (lv_at hl 0 rfl) ?_
          refine gX_x_stones S hK hP q297 dX9_worst_31 ?_
          refine gX_stones_size S hK hP q136 dX9_worst_34 ?_
          refine lv_if_ne (tgt := 42) hx hb dX9_worst_37 (by decide) (fun c37 => ?_) (fun c37 => ?_)
          · have hf := ifn c37 hf
            refine lv_aload_n hx hb dX9_worst_42 rfl (lv_at hl 0 rfl) ?_
            refine gX_x_planner S hK hP q299 dX9_worst_43 ?_
            refine lv_aload_n hx hb dX9_worst_46 rfl (lv_at hl 0 rfl) ?_
            refine gX_x_calendar S hK hP q300 dX9_worst_47 ?_
            refine gX_calendar_order S hK hP q245 dX9_worst_50 ?_
            obtain ⟨q53, h53, hf⟩ := ob_some hf
            refine u_callv (u_runV (rest := []) S (c_X4_orderInto l D cy ad bw bc σ q53 h53 aw ac H.size) iX4_orderInto vX4_orderInto q724 ⟨Nat.le_of_ble_eq_true rfl, Nat.le_of_ble_eq_true rfl⟩ hK hP hD (q0 := 7) rfl rfl rfl hl.1 (Nat.le_of_ble_eq_true rfl) dX9_worst_53 ⟨by first | omega | (dsimp only [Rm]; omega), by first | omega | (dsimp only [Rm]; omega)⟩) hD hS hA (fun aw ac H locs _ hP hD hS => ?_)
            refine lv_aload_n hx hb dX9_worst_56 rfl (lv_at hl 0 rfl) ?_
            refine gX_x_calendar S hK hP q300 dX9_worst_57 ?_
            refine lv_iload_n hx hb dX9_worst_60 rfl (lv_at hl 1 rfl) ?_
            obtain ⟨q61, h61, hf⟩ := ob_some hf
            refine u_callv0 (u_runV (rest := []) S (c_X0_findWorst l D cy ad q53 v1 q61 h61 aw ac H.size) iX0_findWorst vX0_findWorst q762 ⟨Nat.le_of_ble_eq_true rfl, Nat.le_of_ble_eq_true rfl⟩ hK hP hD (q0 := 8) rfl rfl rfl hl.1 (Nat.le_of_ble_eq_true rfl) dX9_worst_61 ⟨by first | omega | (dsimp only [Rm]; omega), by first | omega | (dsimp only [Rm]; omega)⟩) hD hS hA (fun H locs hP hD hS => ?_)
            refine lv_iload_n hx hb dX9_worst_64 rfl (lv_at hl 2 rfl) ?_
            refine lv_if_ne (tgt := 78) hx hb dX9_worst_65 (by decide) (fun c65 => ?_) (fun c65 => ?_)
            · have hf := ifn c65 hf
              refine lv_aload_n hx hb dX9_worst_78 rfl (lv_at hl 0 rfl) ?_
              refine gX_x_calendar S hK hP q300 dX9_worst_79 ?_
              refine lv_iload_n hx hb dX9_worst_82 rfl (lv_at hl 3 rfl) ?_
              obtain ⟨r83, h83, hf⟩ := ob_some hf
              refine u_calli0 (u_runV (rest := []) S (c_X0_worstDay l D cy ad q61 v3 r83 h83 aw ac H.size) iX0_worstDay vX0_worstDay q775 ⟨Nat.le_of_ble_eq_true rfl, Nat.le_of_ble_eq_true rfl⟩ hK hP hD (q0 := 8) rfl rfl rfl hl.1 (Nat.le_of_ble_eq_true rfl) dX9_worst_83 ⟨by first | omega | (dsimp only [Rm]; omega), by first | omega | (dsimp only [Rm]; omega)⟩) hD hS hA (fun H locs hP hD hS => ?_)
              refine W.widen (k := 2) (n := bw + bc) (by first | omega | (dsimp only [Rm]; omega)) (by first | omega | (dsimp only [Rm]; omega)) ?_
              exact u_iretw hx hb hr hlocks rfl hP hD hS dX9_worst_86 hf (fun h_ => absurd h_ (by decide))
            · have hf := ifp c65 hf
              refine lv_aload_n hx hb dX9_worst_68 rfl (lv_at hl 0 rfl) ?_
              refine gX_x_calendar S hK hP q300 dX9_worst_69 ?_
              refine gX_calendar_worstEnd S hK hP q250 dX9_worst_72 ?_
              refine lv_goto (tgt := 86) hx hb dX9_worst_75 (by decide) ?_
              refine W.widen (k := 2) (n := bw + bc) (by first | omega | (dsimp only [Rm]; omega)) (by first | omega | (dsimp only [Rm]; omega)) ?_
              exact u_iretw hx hb hr hlocks rfl hP hD hS dX9_worst_86 hf (fun h_ => absurd h_ (by decide))
          · have hf := ifp c37 hf
            refine lv_iconst (v := (-1 : Int32)) hx hb dX9_worst_40 (by decide) ?_
            refine W.widen (k := 2) (n := bw + bc) (by first | omega | (dsimp only [Rm]; omega)) (by first | omega | (dsimp only [Rm]; omega)) ?_
            exact u_iretw hx hb hr hlocks rfl hP hD hS dX9_worst_41 hf (fun h_ => absurd h_ (by decide))
        · have hf := ifn c24 hf
          refine lv_bipush (v := (-2 : Int32)) hx hb dX9_worst_27 (by decide) ?_
          refine W.widen (k := 2) (n := bw + bc) (by first | omega | (dsimp only [Rm]; omega)) (by first | omega | (dsimp only [Rm]; omega)) ?_
          exact u_iretw hx hb hr hlocks rfl hP hD hS dX9_worst_29 hf (fun h_ => absurd h_ (by decide))
theorem iX9_shape : YI yX9_shape cX9_shape 2 (some .int) 0 := ⟨q782, q1, by decide, by decide, by decide +kernel⟩
theorem vX9_shape : YV yX9_shape := ⟨q780, q781⟩
set_option maxRecDepth 100000 in
set_option maxHeartbeats 4000000 in
theorem c_X9_shape (l : Launch) (D : va_G) (cy : Nat → ClassId) (ad : Nat → Nat) (σ : St) (q : Int32 × St) (hf : fX9_shape σ = some q) : Ci l D cy (wX cy ad) yX9_shape cX9_shape 2 .int 0 0 [.ref (ad 0)] σ q.1 q.2 0 0 := by
  refine Ci.enter (by decide) (Nat.le_of_ble_eq_true rfl) ?_
  intro aw ac p e s m below meth c A H locs S hr hlocks hA hK hP hD hS ls hl
  have hx := S.1
  have hb := S.2.1
  have hl : lv_has ls 2 [(0, .ref (ad 0))] := hl
  unfold fX9_shape at hf
  refine lv_aload_n hx hb dX9_shape_0 rfl (lv_at hl 0 rfl) ?_
  refine gX_x_outline S hK hP q301 dX9_shape_1 ?_
  refine gX_outline_size S hK hP q285 dX9_shape_4 ?_
  refine lv_istore_n (lv' := [(1, .int (gi σ 23)), (0, .ref (ad 0))]) hx hb dX9_shape_7 rfl hl (by decide) rfl (fun ls hl => ?_)
  refine lv_aload_n hx hb dX9_shape_8 rfl (lv_at hl 1 rfl) ?_
  refine gX_x_outline S hK hP q301 dX9_shape_9 ?_
  refine lv_iconst (v := (0 : Int32)) hx hb dX9_shape_12 (by decide) ?_
  refine pX_outline_size S hK hP hD hS q285 dX9_shape_13 (fun H locs hP hD hS => ?_)
  refine lv_iload_n hx hb dX9_shape_16 rfl (lv_at hl 0 rfl) ?_
  exact u_iretw hx hb hr hlocks rfl hP hD hS dX9_shape_17 hf (fun _ => rfl)
theorem iX9_isCorner : YI yX9_isCorner cX9_isCorner 2 (some .boolean) 2 := ⟨q789, q1, by decide, by decide, by decide +kernel⟩
set_option maxRecDepth 100000 in
set_option maxHeartbeats 4000000 in
theorem c_X9_isCorner (l : Launch) (D : va_G) (cy : Nat → ClassId) (σ : St) (v0 : Int32) (v1 : Int32) (r : Int32) (hf : fX9_isCorner v0 v1 = some r) : Ci l D cy wN yX9_isCorner cX9_isCorner 2 .boolean 1 22 [.int v0, .int v1] σ r σ 0 0 := by
  refine Ci.enter (by decide) (Nat.le_of_ble_eq_true rfl) ?_
  intro aw ac p e s m below meth c A H locs S hr hlocks hA hK hP hD hS ls hl
  have hx := S.1
  have hb := S.2.1
  have hl : lv_has ls 2 [(0, .int v0), (1, .int v1)] := hl
  unfold fX9_isCorner at hf
  refine lv_iload_n hx hb dX9_isCorner_0 rfl (lv_at hl 0 rfl) ?_
  refine lv_iconst (v := (0 : Int32)) hx hb dX9_isCorner_1 (by decide) ?_
  refine lv_sipush (v := (1000 : Int32)) hx hb dX9_isCorner_2 (by decide) ?_
  obtain ⟨r5, h5, hf⟩ := ob_some hf
  refine p_calli0 (u_runS (rest := []) S (c_X9_within l D cy σ v0 (0 : Int32) (1000 : Int32) r5 h5 aw ac H.size) iX9_within q326 q325 ⟨Nat.le_of_ble_eq_true rfl, Nat.le_of_ble_eq_true rfl⟩ hK wN_P (wN_D (A := fun _ => True)) rfl hl.1 (Nat.le_of_ble_eq_true rfl) dX9_isCorner_5 ⟨Nat.le_refl _, Nat.le_refl _⟩) hP hS hA (fun H locs hP hS => ?_)
  refine lv_if_eq (tgt := 26) hx hb dX9_isCorner_8 (by decide) (fun c8 => ?_) (fun c8 => ?_)
  · have hf := ifp c8 hf
    refine lv_iconst (v := (0 : Int32)) hx hb dX9_isCorner_26 (by decide) ?_
    exact u_iretr hx hb hr hlocks rfl hP hD hS dX9_isCorner_27 hf (fun _ => rfl)
  · have hf := ifn c8 hf
    refine lv_iload_n hx hb dX9_isCorner_11 rfl (lv_at hl 1 rfl) ?_
    refine lv_iconst (v := (0 : Int32)) hx hb dX9_isCorner_12 (by decide) ?_
    refine lv_sipush (v := (1000 : Int32)) hx hb dX9_isCorner_13 (by decide) ?_
    obtain ⟨r16, h16, hf⟩ := ob_some hf
    refine p_calli0 (u_runS (rest := []) S (c_X9_within l D cy σ v1 (0 : Int32) (1000 : Int32) r16 h16 aw ac H.size) iX9_within q326 q325 ⟨Nat.le_of_ble_eq_true rfl, Nat.le_of_ble_eq_true rfl⟩ hK wN_P (wN_D (A := fun _ => True)) rfl hl.1 (Nat.le_of_ble_eq_true rfl) dX9_isCorner_16 ⟨Nat.le_refl _, Nat.le_refl _⟩) hP hS hA (fun H locs hP hS => ?_)
    refine lv_if_eq (tgt := 26) hx hb dX9_isCorner_19 (by decide) (fun c19 => ?_) (fun c19 => ?_)
    · have hf := ifp c19 hf
      refine lv_iconst (v := (0 : Int32)) hx hb dX9_isCorner_26 (by decide) ?_
      exact u_iretr hx hb hr hlocks rfl hP hD hS dX9_isCorner_27 hf (fun _ => rfl)
    · have hf := ifn c19 hf
      refine lv_iconst (v := (1 : Int32)) hx hb dX9_isCorner_22 (by decide) ?_
      refine lv_goto (tgt := 27) hx hb dX9_isCorner_23 (by decide) ?_
      exact u_iretr hx hb hr hlocks rfl hP hD hS dX9_isCorner_27 hf (fun _ => rfl)
theorem iX9_corner : YI yX9_corner cX9_corner 3 (some .int) 2 := ⟨q786, q1, by decide, by decide, by decide +kernel⟩
theorem vX9_corner : YV yX9_corner := ⟨q784, q785⟩
set_option maxRecDepth 100000 in
set_option maxHeartbeats 4000000 in
theorem c_X9_corner (l : Launch) (D : va_G) (cy : Nat → ClassId) (ad : Nat → Nat) (σ : St) (v1 : Int32) (v2 : Int32) (q : Int32 × St) (hf : fX9_corner σ v1 v2 = some q) : Ci l D cy (wX cy ad) yX9_corner cX9_corner 3 .int 2 43 [.ref (ad 0), .int v1, .int v2] σ q.1 q.2 0 0 := by
  refine Ci.enter (by decide) (Nat.le_of_ble_eq_true rfl) ?_
  intro aw ac p e s m below meth c A H locs S hr hlocks hA hK hP hD hS ls hl
  have hx := S.1
  have hb := S.2.1
  have hl : lv_has ls 3 [(0, .ref (ad 0)), (1, .int v1), (2, .int v2)] := hl
  unfold fX9_corner at hf
  refine lv_iload_n hx hb dX9_corner_0 rfl (lv_at hl 1 rfl) ?_
  refine lv_iload_n hx hb dX9_corner_1 rfl (lv_at hl 2 rfl) ?_
  obtain ⟨r2, h2, hf⟩ := ob_some hf
  refine p_calli0 (u_runS (rest := []) S (c_X9_isCorner l D cy σ v1 v2 r2 h2 aw ac H.size) iX9_isCorner q788 q787 ⟨Nat.le_of_ble_eq_true rfl, Nat.le_of_ble_eq_true rfl⟩ hK wN_P (wN_D (A := fun _ => True)) rfl hl.1 (Nat.le_of_ble_eq_true rfl) dX9_corner_2 ⟨Nat.le_refl _, Nat.le_refl _⟩) hP hS hA (fun H locs hP hS => ?_)
  refine lv_if_eq (tgt := 20) hx hb dX9_corner_5 (by decide) (fun c5 => ?_) (fun c5 => ?_)
  · have hf := ifp c5 hf
    refine lv_bipush (v := (-2 : Int32)) hx hb dX9_corner_20 (by decide) ?_
    exact u_iretw hx hb hr hlocks rfl hP hD hS dX9_corner_22 hf (fun _ => rfl)
  · have hf := ifn c5 hf
    refine lv_aload_n hx hb dX9_corner_8 rfl (lv_at hl 0 rfl) ?_
    refine gX_x_outline S hK hP q301 dX9_corner_9 ?_
    refine lv_iload_n hx hb dX9_corner_12 rfl (lv_at hl 1 rfl) ?_
    refine lv_iload_n hx hb dX9_corner_13 rfl (lv_at hl 2 rfl) ?_
    obtain ⟨q14, h14, hf⟩ := ob_some hf
    refine u_calli0 (u_runV (rest := []) S (c_X3_append l D cy ad σ v1 v2 q14 h14 aw ac H.size) iX3_append vX3_append q790 ⟨Nat.le_of_ble_eq_true rfl, Nat.le_of_ble_eq_true rfl⟩ hK hP hD (q0 := 9) rfl rfl rfl hl.1 (Nat.le_of_ble_eq_true rfl) dX9_corner_14 ⟨Nat.le_refl _, Nat.le_refl _⟩) hD hS hA (fun H locs hP hD hS => ?_)
    refine lv_goto (tgt := 22) hx hb dX9_corner_17 (by decide) ?_
    exact u_iretw hx hb hr hlocks rfl hP hD hS dX9_corner_22 hf (fun _ => rfl)
