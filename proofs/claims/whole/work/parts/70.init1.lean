/-! constructors that go straight -/
def bX2 (cy : Nat → ClassId) (h0 : Nat) (u : Nat → Nat) : va_W := [(h0, .inr (2, [.int (1000), .int (40), .int (60), .int (10), .int (2), .int (5)]))]
theorem iX2_init : YI yX2_init cX2_init 1 none 0 := ⟨q27, q2, by decide, by decide, by decide +kernel⟩
set_option maxRecDepth 100000 in
set_option maxHeartbeats 4000000 in
theorem k_X2 (l : Launch) (D : va_G) (cy : Nat → ClassId) (h0 : Nat) : Ck (U := Nat → Nat) l D cy yX2_init cX2_init 1 1 30 [.ref h0] [(h0, .inr (2, [.int 0, .int 0, .int 0, .int 0, .int 0, .int 0]))] (fun _ => True) (bX2 cy h0) 0 0 := by
  refine k_enter (by decide) (Nat.le_of_ble_eq_true rfl) ?_
  intro p e s m below meth c A H locs S hr hlocks hin hA hK hC hP hD hS ls hl
  have hx := S.1
  have hb := S.2.1
  have hl : lv_has ls 1 [(0, .ref h0)] := hl
  refine lv_aload_n hx hb dX2_init_0 rfl (lv_at hl 0 rfl) ?_
  refine W.objInit S.1 S.2.1 S.2.2.2.1 (S.2.2.2.2 _ (List.mem_cons_of_mem _ q28)) (S.2.2.2.2 _ (List.mem_cons_of_mem _ q21)) (S.2.2.2.2 _ (List.mem_cons_of_mem _ q22)) rfl (by rw [S.2.2.1]; exact hl.1) rfl dX2_init_1 (Nat.le_of_ble_eq_true rfl) (Nat.le_of_ble_eq_true rfl) ?_
  refine W.eq (g2 := F0 m 4 ls []) rfl ?_
  refine lv_aload_n hx hb dX2_init_4 rfl (lv_at hl 0 rfl) ?_
  refine lv_sipush (v := 1000) hx hb dX2_init_5 (by decide) ?_
  refine va_put (D := D) (ci := 2) (v := .int (1000)) (ty := .int) (C := RX2) (T := TX2) (N := 6) S.1 S.2.1 S.2.2.2.2 (fun w h => List.mem_cons_of_mem _ (inU2 w h)) tyX2 tyX2_ok nmX2 S.2.2.2.1 hK.1 hP hD hS 0 rfl rfl 0 (by decide) (S.2.2.2.2 _ (List.mem_cons_of_mem _ q29)) (fun _ h9 => h9) rfl (by decide +kernel) rfl rfl (Nat.le_of_ble_eq_true rfl) dX2_init_8 (fun H locs hP hD hS => ?_)
  have hP : va_P D vwCl [(h0, .inr (2, [.int (1000), .int 0, .int 0, .int 0, .int 0, .int 0]))] H := hP
  have hD : va_D A [(h0, .inr (2, [.int (1000), .int 0, .int 0, .int 0, .int 0, .int 0]))] := hD
  refine lv_aload_n hx hb dX2_init_11 rfl (lv_at hl 0 rfl) ?_
  refine lv_bipush (v := 40) hx hb dX2_init_12 (by decide) ?_
  refine va_put (D := D) (ci := 2) (v := .int (40)) (ty := .int) (C := RX2) (T := TX2) (N := 6) S.1 S.2.1 S.2.2.2.2 (fun w h => List.mem_cons_of_mem _ (inU2 w h)) tyX2 tyX2_ok nmX2 S.2.2.2.1 hK.1 hP hD hS 0 rfl rfl 1 (by decide) (S.2.2.2.2 _ (List.mem_cons_of_mem _ q31)) (fun _ h9 => h9) rfl (by decide +kernel) rfl rfl (Nat.le_of_ble_eq_true rfl) dX2_init_14 (fun H locs hP hD hS => ?_)
  have hP : va_P D vwCl [(h0, .inr (2, [.int (1000), .int (40), .int 0, .int 0, .int 0, .int 0]))] H := hP
  have hD : va_D A [(h0, .inr (2, [.int (1000), .int (40), .int 0, .int 0, .int 0, .int 0]))] := hD
  refine lv_aload_n hx hb dX2_init_17 rfl (lv_at hl 0 rfl) ?_
  refine lv_bipush (v := 60) hx hb dX2_init_18 (by decide) ?_
  refine va_put (D := D) (ci := 2) (v := .int (60)) (ty := .int) (C := RX2) (T := TX2) (N := 6) S.1 S.2.1 S.2.2.2.2 (fun w h => List.mem_cons_of_mem _ (inU2 w h)) tyX2 tyX2_ok nmX2 S.2.2.2.1 hK.1 hP hD hS 0 rfl rfl 2 (by decide) (S.2.2.2.2 _ (List.mem_cons_of_mem _ q33)) (fun _ h9 => h9) rfl (by decide +kernel) rfl rfl (Nat.le_of_ble_eq_true rfl) dX2_init_20 (fun H locs hP hD hS => ?_)
  have hP : va_P D vwCl [(h0, .inr (2, [.int (1000), .int (40), .int (60), .int 0, .int 0, .int 0]))] H := hP
  have hD : va_D A [(h0, .inr (2, [.int (1000), .int (40), .int (60), .int 0, .int 0, .int 0]))] := hD
  refine lv_aload_n hx hb dX2_init_23 rfl (lv_at hl 0 rfl) ?_
  refine lv_bipush (v := 10) hx hb dX2_init_24 (by decide) ?_
  refine va_put (D := D) (ci := 2) (v := .int (10)) (ty := .int) (C := RX2) (T := TX2) (N := 6) S.1 S.2.1 S.2.2.2.2 (fun w h => List.mem_cons_of_mem _ (inU2 w h)) tyX2 tyX2_ok nmX2 S.2.2.2.1 hK.1 hP hD hS 0 rfl rfl 3 (by decide) (S.2.2.2.2 _ (List.mem_cons_of_mem _ q35)) (fun _ h9 => h9) rfl (by decide +kernel) rfl rfl (Nat.le_of_ble_eq_true rfl) dX2_init_26 (fun H locs hP hD hS => ?_)
  have hP : va_P D vwCl [(h0, .inr (2, [.int (1000), .int (40), .int (60), .int (10), .int 0, .int 0]))] H := hP
  have hD : va_D A [(h0, .inr (2, [.int (1000), .int (40), .int (60), .int (10), .int 0, .int 0]))] := hD
  refine lv_aload_n hx hb dX2_init_29 rfl (lv_at hl 0 rfl) ?_
  refine lv_iconst (v := 2) hx hb dX2_init_30 (by decide) ?_
  refine va_put (D := D) (ci := 2) (v := .int (2)) (ty := .int) (C := RX2) (T := TX2) (N := 6) S.1 S.2.1 S.2.2.2.2 (fun w h => List.mem_cons_of_mem _ (inU2 w h)) tyX2 tyX2_ok nmX2 S.2.2.2.1 hK.1 hP hD hS 0 rfl rfl 4 (by decide) (S.2.2.2.2 _ (List.mem_cons_of_mem _ q37)) (fun _ h9 => h9) rfl (by decide +kernel) rfl rfl (Nat.le_of_ble_eq_true rfl) dX2_init_31 (fun H locs hP hD hS => ?_)
  have hP : va_P D vwCl [(h0, .inr (2, [.int (1000), .int (40), .int (60), .int (10), .int (2), .int 0]))] H := hP
  have hD : va_D A [(h0, .inr (2, [.int (1000), .int (40), .int (60), .int (10), .int (2), .int 0]))] := hD
  refine lv_aload_n hx hb dX2_init_34 rfl (lv_at hl 0 rfl) ?_
  refine lv_iconst (v := 5) hx hb dX2_init_35 (by decide) ?_
  refine va_put (D := D) (ci := 2) (v := .int (5)) (ty := .int) (C := RX2) (T := TX2) (N := 6) S.1 S.2.1 S.2.2.2.2 (fun w h => List.mem_cons_of_mem _ (inU2 w h)) tyX2 tyX2_ok nmX2 S.2.2.2.1 hK.1 hP hD hS 0 rfl rfl 5 (by decide) (S.2.2.2.2 _ (List.mem_cons_of_mem _ q39)) (fun _ h9 => h9) rfl (by decide +kernel) rfl rfl (Nat.le_of_ble_eq_true rfl) dX2_init_36 (fun H locs hP hD hS => ?_)
  have hP : va_P D vwCl [(h0, .inr (2, [.int (1000), .int (40), .int (60), .int (10), .int (2), .int (5)]))] H := hP
  have hD : va_D A [(h0, .inr (2, [.int (1000), .int (40), .int (60), .int (10), .int (2), .int (5)]))] := hD
  exact k_vret (u := (fun _ => 0)) hx hb hr hlocks trivial hP hD hS dX2_init_39
def bX1 (cy : Nat → ClassId) (h0 : Nat) (u : Nat → Nat) : va_W := [(h0, .inr (1, [.ref (u 0), .ref (u 1), .int 0])), ((u 0), .inl (cy 0, 8, .inl (fun _ => 0))), ((u 1), .inl (cy 0, 8, .inl (fun _ => 0)))]
theorem iX1_init : YI yX1_init cX1_init 1 none 0 := ⟨q58, q3, by decide, by decide, by decide +kernel⟩
set_option maxRecDepth 100000 in
set_option maxHeartbeats 4000000 in
theorem k_X1 (l : Launch) (D : va_G) (cy : Nat → ClassId) (h0 : Nat) : Ck (U := Nat → Nat) l D cy yX1_init cX1_init 1 1 30 [.ref h0] [(h0, .inr (1, [.null, .null, .int 0]))] (fun _ => True) (bX1 cy h0) 2 16 := by
  refine k_enter (by decide) (Nat.le_of_ble_eq_true rfl) ?_
  intro p e s m below meth c A H locs S hr hlocks hin hA hK hC hP hD hS ls hl
  have hx := S.1
  have hb := S.2.1
  have hl : lv_has ls 1 [(0, .ref h0)] := hl
  refine lv_aload_n hx hb dX1_init_0 rfl (lv_at hl 0 rfl) ?_
  refine W.objInit S.1 S.2.1 S.2.2.2.1 (S.2.2.2.2 _ (List.mem_cons_of_mem _ q59)) (S.2.2.2.2 _ (List.mem_cons_of_mem _ q21)) (S.2.2.2.2 _ (List.mem_cons_of_mem _ q22)) rfl (by rw [S.2.2.1]; exact hl.1) rfl dX1_init_1 (Nat.le_of_ble_eq_true rfl) (Nat.le_of_ble_eq_true rfl) ?_
  refine W.eq (g2 := F0 m 4 ls []) rfl ?_
  refine lv_aload_n hx hb dX1_init_4 rfl (lv_at hl 0 rfl) ?_
  refine lv_bipush (v := 8) hx hb dX1_init_5 (by decide) ?_
  refine k_newi (N := 8) S hK hP hD hS hA (by decide) (by decide) (by decide) (Nat.le_of_ble_eq_true rfl) (Nat.le_of_ble_eq_true rfl) dX1_init_7 (fun qaa H hP hD hS => ?_)
  have hP : va_P D vwCl [(h0, .inr (1, [.null, .null, .int 0])), (qaa, .inl (cy 0, 8, .inl (fun _ => 0)))] H := hP
  have hD : va_D A [(h0, .inr (1, [.null, .null, .int 0])), (qaa, .inl (cy 0, 8, .inl (fun _ => 0)))] := hD
  refine va_putF (D := D) (ci := 1) (v := .ref qaa) (ty := .array .int) (C := RX1) (T := TX1) (N := 3) S.1 S.2.1 S.2.2.2.2 (fun w h => List.mem_cons_of_mem _ (inU1 w h)) tyX1 tyX1_ok nmX1 S.2.2.2.1 hK.1 hP hD hS 0 rfl rfl 0 (by decide) (S.2.2.2.2 _ (List.mem_cons_of_mem _ q60)) (fun _ h9 => h9) rfl hin rfl (by decide +kernel) rfl rfl (Nat.le_of_ble_eq_true rfl) dX1_init_9 (fun H locs hP hD hS => ?_)
  have hP : va_P D vwCl [(h0, .inr (1, [.ref qaa, .null, .int 0])), (qaa, .inl (cy 0, 8, .inl (fun _ => 0)))] H := hP
  have hD : va_D A [(h0, .inr (1, [.ref qaa, .null, .int 0])), (qaa, .inl (cy 0, 8, .inl (fun _ => 0)))] := hD
  refine lv_aload_n hx hb dX1_init_12 rfl (lv_at hl 0 rfl) ?_
  refine lv_bipush (v := 8) hx hb dX1_init_13 (by decide) ?_
  refine k_newi (N := 8) S hK hP hD hS hA (by decide) (by decide) (by decide) (Nat.le_of_ble_eq_true rfl) (Nat.le_of_ble_eq_true rfl) dX1_init_15 (fun qba H hP hD hS => ?_)
  have hP : va_P D vwCl [(h0, .inr (1, [.ref qaa, .null, .int 0])), (qaa, .inl (cy 0, 8, .inl (fun _ => 0))), (qba, .inl (cy 0, 8, .inl (fun _ => 0)))] H := hP
  have hD : va_D A [(h0, .inr (1, [.ref qaa, .null, .int 0])), (qaa, .inl (cy 0, 8, .inl (fun _ => 0))), (qba, .inl (cy 0, 8, .inl (fun _ => 0)))] := hD
  refine va_putF (D := D) (ci := 1) (v := .ref qba) (ty := .array .int) (C := RX1) (T := TX1) (N := 3) S.1 S.2.1 S.2.2.2.2 (fun w h => List.mem_cons_of_mem _ (inU1 w h)) tyX1 tyX1_ok nmX1 S.2.2.2.1 hK.1 hP hD hS 0 rfl rfl 1 (by decide) (S.2.2.2.2 _ (List.mem_cons_of_mem _ q61)) (fun _ h9 => h9) rfl hin rfl (by decide +kernel) rfl rfl (Nat.le_of_ble_eq_true rfl) dX1_init_17 (fun H locs hP hD hS => ?_)
  have hP : va_P D vwCl [(h0, .inr (1, [.ref qaa, .ref qba, .int 0])), (qaa, .inl (cy 0, 8, .inl (fun _ => 0))), (qba, .inl (cy 0, 8, .inl (fun _ => 0)))] H := hP
  have hD : va_D A [(h0, .inr (1, [.ref qaa, .ref qba, .int 0])), (qaa, .inl (cy 0, 8, .inl (fun _ => 0))), (qba, .inl (cy 0, 8, .inl (fun _ => 0)))] := hD
  exact k_vret (u := (fun i => match i with | 0 => qaa | 1 => qba | _ => 0)) hx hb hr hlocks trivial hP hD hS dX1_init_20
def bX5 (cy : Nat → ClassId) (h0 : Nat) (u : Nat → Nat) : va_W := [(h0, .inr (5, [.ref (u 0), .ref (u 1), .ref (u 2), .ref (u 3), .int 0])), ((u 0), .inl (cy 0, 6, .inl (fun _ => 0))), ((u 1), .inl (cy 0, 6, .inl (fun _ => 0))), ((u 2), .inl (cy 2, 6, .inl (fun _ => 0))), ((u 3), .inl (cy 2, 6, .inl (fun _ => 0)))]
theorem iX5_init : YI yX5_init cX5_init 1 none 0 := ⟨q77, q4, by decide, by decide, by decide +kernel⟩
set_option maxRecDepth 100000 in
set_option maxHeartbeats 4000000 in
theorem k_X5 (l : Launch) (D : va_G) (cy : Nat → ClassId) (h0 : Nat) : Ck (U := Nat → Nat) l D cy yX5_init cX5_init 1 1 30 [.ref h0] [(h0, .inr (5, [.null, .null, .null, .null, .int 0]))] (fun _ => True) (bX5 cy h0) 4 24 := by
  refine k_enter (by decide) (Nat.le_of_ble_eq_true rfl) ?_
  intro p e s m below meth c A H locs S hr hlocks hin hA hK hC hP hD hS ls hl
  have hx := S.1
  have hb := S.2.1
  have hl : lv_has ls 1 [(0, .ref h0)] := hl
  refine lv_aload_n hx hb dX5_init_0 rfl (lv_at hl 0 rfl) ?_
  refine W.objInit S.1 S.2.1 S.2.2.2.1 (S.2.2.2.2 _ (List.mem_cons_of_mem _ q78)) (S.2.2.2.2 _ (List.mem_cons_of_mem _ q21)) (S.2.2.2.2 _ (List.mem_cons_of_mem _ q22)) rfl (by rw [S.2.2.1]; exact hl.1) rfl dX5_init_1 (Nat.le_of_ble_eq_true rfl) (Nat.le_of_ble_eq_true rfl) ?_
  refine W.eq (g2 := F0 m 4 ls []) rfl ?_
  refine lv_aload_n hx hb dX5_init_4 rfl (lv_at hl 0 rfl) ?_
  refine lv_bipush (v := 6) hx hb dX5_init_5 (by decide) ?_
  refine k_newi (N := 6) S hK hP hD hS hA (by decide) (by decide) (by decide) (Nat.le_of_ble_eq_true rfl) (Nat.le_of_ble_eq_true rfl) dX5_init_7 (fun qaa H hP hD hS => ?_)
  have hP : va_P D vwCl [(h0, .inr (5, [.null, .null, .null, .null, .int 0])), (qaa, .inl (cy 0, 6, .inl (fun _ => 0)))] H := hP
  have hD : va_D A [(h0, .inr (5, [.null, .null, .null, .null, .int 0])), (qaa, .inl (cy 0, 6, .inl (fun _ => 0)))] := hD
  refine va_putF (D := D) (ci := 5) (v := .ref qaa) (ty := .array .int) (C := RX5) (T := TX5) (N := 5) S.1 S.2.1 S.2.2.2.2 (fun w h => List.mem_cons_of_mem _ (inU5 w h)) tyX5 tyX5_ok nmX5 S.2.2.2.1 hK.1 hP hD hS 0 rfl rfl 0 (by decide) (S.2.2.2.2 _ (List.mem_cons_of_mem _ q79)) (fun _ h9 => h9) rfl hin rfl (by decide +kernel) rfl rfl (Nat.le_of_ble_eq_true rfl) dX5_init_9 (fun H locs hP hD hS => ?_)
  have hP : va_P D vwCl [(h0, .inr (5, [.ref qaa, .null, .null, .null, .int 0])), (qaa, .inl (cy 0, 6, .inl (fun _ => 0)))] H := hP
  have hD : va_D A [(h0, .inr (5, [.ref qaa, .null, .null, .null, .int 0])), (qaa, .inl (cy 0, 6, .inl (fun _ => 0)))] := hD
  refine lv_aload_n hx hb dX5_init_12 rfl (lv_at hl 0 rfl) ?_
  refine lv_bipush (v := 6) hx hb dX5_init_13 (by decide) ?_
  refine k_newi (N := 6) S hK hP hD hS hA (by decide) (by decide) (by decide) (Nat.le_of_ble_eq_true rfl) (Nat.le_of_ble_eq_true rfl) dX5_init_15 (fun qba H hP hD hS => ?_)
  have hP : va_P D vwCl [(h0, .inr (5, [.ref qaa, .null, .null, .null, .int 0])), (qaa, .inl (cy 0, 6, .inl (fun _ => 0))), (qba, .inl (cy 0, 6, .inl (fun _ => 0)))] H := hP
  have hD : va_D A [(h0, .inr (5, [.ref qaa, .null, .null, .null, .int 0])), (qaa, .inl (cy 0, 6, .inl (fun _ => 0))), (qba, .inl (cy 0, 6, .inl (fun _ => 0)))] := hD
  refine va_putF (D := D) (ci := 5) (v := .ref qba) (ty := .array .int) (C := RX5) (T := TX5) (N := 5) S.1 S.2.1 S.2.2.2.2 (fun w h => List.mem_cons_of_mem _ (inU5 w h)) tyX5 tyX5_ok nmX5 S.2.2.2.1 hK.1 hP hD hS 0 rfl rfl 1 (by decide) (S.2.2.2.2 _ (List.mem_cons_of_mem _ q80)) (fun _ h9 => h9) rfl hin rfl (by decide +kernel) rfl rfl (Nat.le_of_ble_eq_true rfl) dX5_init_17 (fun H locs hP hD hS => ?_)
  have hP : va_P D vwCl [(h0, .inr (5, [.ref qaa, .ref qba, .null, .null, .int 0])), (qaa, .inl (cy 0, 6, .inl (fun _ => 0))), (qba, .inl (cy 0, 6, .inl (fun _ => 0)))] H := hP
  have hD : va_D A [(h0, .inr (5, [.ref qaa, .ref qba, .null, .null, .int 0])), (qaa, .inl (cy 0, 6, .inl (fun _ => 0))), (qba, .inl (cy 0, 6, .inl (fun _ => 0)))] := hD
  refine lv_aload_n hx hb dX5_init_20 rfl (lv_at hl 0 rfl) ?_
  refine lv_bipush (v := 6) hx hb dX5_init_21 (by decide) ?_
  refine k_newz (N := 6) S hK hP hD hS hA (by decide) (by decide) (by decide) (Nat.le_of_ble_eq_true rfl) (Nat.le_of_ble_eq_true rfl) dX5_init_23 (fun qca H hP hD hS => ?_)
  have hP : va_P D vwCl [(h0, .inr (5, [.ref qaa, .ref qba, .null, .null, .int 0])), (qaa, .inl (cy 0, 6, .inl (fun _ => 0))), (qba, .inl (cy 0, 6, .inl (fun _ => 0))), (qca, .inl (cy 2, 6, .inl (fun _ => 0)))] H := hP
  have hD : va_D A [(h0, .inr (5, [.ref qaa, .ref qba, .null, .null, .int 0])), (qaa, .inl (cy 0, 6, .inl (fun _ => 0))), (qba, .inl (cy 0, 6, .inl (fun _ => 0))), (qca, .inl (cy 2, 6, .inl (fun _ => 0)))] := hD
  refine va_putF (D := D) (ci := 5) (v := .ref qca) (ty := .array .boolean) (C := RX5) (T := TX5) (N := 5) S.1 S.2.1 S.2.2.2.2 (fun w h => List.mem_cons_of_mem _ (inU5 w h)) tyX5 tyX5_ok nmX5 S.2.2.2.1 hK.1 hP hD hS 0 rfl rfl 2 (by decide) (S.2.2.2.2 _ (List.mem_cons_of_mem _ q81)) (fun _ h9 => h9) rfl hin rfl (by decide +kernel) rfl rfl (Nat.le_of_ble_eq_true rfl) dX5_init_25 (fun H locs hP hD hS => ?_)
  have hP : va_P D vwCl [(h0, .inr (5, [.ref qaa, .ref qba, .ref qca, .null, .int 0])), (qaa, .inl (cy 0, 6, .inl (fun _ => 0))), (qba, .inl (cy 0, 6, .inl (fun _ => 0))), (qca, .inl (cy 2, 6, .inl (fun _ => 0)))] H := hP
  have hD : va_D A [(h0, .inr (5, [.ref qaa, .ref qba, .ref qca, .null, .int 0])), (qaa, .inl (cy 0, 6, .inl (fun _ => 0))), (qba, .inl (cy 0, 6, .inl (fun _ => 0))), (qca, .inl (cy 2, 6, .inl (fun _ => 0)))] := hD
  refine lv_aload_n hx hb dX5_init_28 rfl (lv_at hl 0 rfl) ?_
  refine lv_bipush (v := 6) hx hb dX5_init_29 (by decide) ?_
  refine k_newz (N := 6) S hK hP hD hS hA (by decide) (by decide) (by decide) (Nat.le_of_ble_eq_true rfl) (Nat.le_of_ble_eq_true rfl) dX5_init_31 (fun qda H hP hD hS => ?_)
  have hP : va_P D vwCl [(h0, .inr (5, [.ref qaa, .ref qba, .ref qca, .null, .int 0])), (qaa, .inl (cy 0, 6, .inl (fun _ => 0))), (qba, .inl (cy 0, 6, .inl (fun _ => 0))), (qca, .inl (cy 2, 6, .inl (fun _ => 0))), (qda, .inl (cy 2, 6, .inl (fun _ => 0)))] H := hP
  have hD : va_D A [(h0, .inr (5, [.ref qaa, .ref qba, .ref qca, .null, .int 0])), (qaa, .inl (cy 0, 6, .inl (fun _ => 0))), (qba, .inl (cy 0, 6, .inl (fun _ => 0))), (qca, .inl (cy 2, 6, .inl (fun _ => 0))), (qda, .inl (cy 2, 6, .inl (fun _ => 0)))] := hD
  refine va_putF (D := D) (ci := 5) (v := .ref qda) (ty := .array .boolean) (C := RX5) (T := TX5) (N := 5) S.1 S.2.1 S.2.2.2.2 (fun w h => List.mem_cons_of_mem _ (inU5 w h)) tyX5 tyX5_ok nmX5 S.2.2.2.1 hK.1 hP hD hS 0 rfl rfl 3 (by decide) (S.2.2.2.2 _ (List.mem_cons_of_mem _ q83)) (fun _ h9 => h9) rfl hin rfl (by decide +kernel) rfl rfl (Nat.le_of_ble_eq_true rfl) dX5_init_33 (fun H locs hP hD hS => ?_)
  have hP : va_P D vwCl [(h0, .inr (5, [.ref qaa, .ref qba, .ref qca, .ref qda, .int 0])), (qaa, .inl (cy 0, 6, .inl (fun _ => 0))), (qba, .inl (cy 0, 6, .inl (fun _ => 0))), (qca, .inl (cy 2, 6, .inl (fun _ => 0))), (qda, .inl (cy 2, 6, .inl (fun _ => 0)))] H := hP
  have hD : va_D A [(h0, .inr (5, [.ref qaa, .ref qba, .ref qca, .ref qda, .int 0])), (qaa, .inl (cy 0, 6, .inl (fun _ => 0))), (qba, .inl (cy 0, 6, .inl (fun _ => 0))), (qca, .inl (cy 2, 6, .inl (fun _ => 0))), (qda, .inl (cy 2, 6, .inl (fun _ => 0)))] := hD
  exact k_vret (u := (fun i => match i with | 0 => qaa | 1 => qba | 2 => qca | 3 => qda | _ => 0)) hx hb hr hlocks trivial hP hD hS dX5_init_36
def bX6 (cy : Nat → ClassId) (h0 : Nat) (u : Nat → Nat) : va_W := [(h0, .inr (6, [.ref (u 0), .int 0])), ((u 0), .inl (cy 0, 12, .inl (fun _ => 0)))]
theorem iX6_init : YI yX6_init cX6_init 1 none 0 := ⟨q103, q5, by decide, by decide, by decide +kernel⟩
set_option maxRecDepth 100000 in
set_option maxHeartbeats 4000000 in
theorem k_X6 (l : Launch) (D : va_G) (cy : Nat → ClassId) (h0 : Nat) : Ck (U := Nat → Nat) l D cy yX6_init cX6_init 1 1 30 [.ref h0] [(h0, .inr (6, [.null, .int 0]))] (fun _ => True) (bX6 cy h0) 1 12 := by
  refine k_enter (by decide) (Nat.le_of_ble_eq_true rfl) ?_
  intro p e s m below meth c A H locs S hr hlocks hin hA hK hC hP hD hS ls hl
  have hx := S.1
  have hb := S.2.1
  have hl : lv_has ls 1 [(0, .ref h0)] := hl
  refine lv_aload_n hx hb dX6_init_0 rfl (lv_at hl 0 rfl) ?_
  refine W.objInit S.1 S.2.1 S.2.2.2.1 (S.2.2.2.2 _ (List.mem_cons_of_mem _ q104)) (S.2.2.2.2 _ (List.mem_cons_of_mem _ q21)) (S.2.2.2.2 _ (List.mem_cons_of_mem _ q22)) rfl (by rw [S.2.2.1]; exact hl.1) rfl dX6_init_1 (Nat.le_of_ble_eq_true rfl) (Nat.le_of_ble_eq_true rfl) ?_
  refine W.eq (g2 := F0 m 4 ls []) rfl ?_
  refine lv_aload_n hx hb dX6_init_4 rfl (lv_at hl 0 rfl) ?_
  refine lv_bipush (v := 12) hx hb dX6_init_5 (by decide) ?_
  refine k_newi (N := 12) S hK hP hD hS hA (by decide) (by decide) (by decide) (Nat.le_of_ble_eq_true rfl) (Nat.le_of_ble_eq_true rfl) dX6_init_7 (fun qaa H hP hD hS => ?_)
  have hP : va_P D vwCl [(h0, .inr (6, [.null, .int 0])), (qaa, .inl (cy 0, 12, .inl (fun _ => 0)))] H := hP
  have hD : va_D A [(h0, .inr (6, [.null, .int 0])), (qaa, .inl (cy 0, 12, .inl (fun _ => 0)))] := hD
  refine va_putF (D := D) (ci := 6) (v := .ref qaa) (ty := .array .int) (C := RX6) (T := TX6) (N := 2) S.1 S.2.1 S.2.2.2.2 (fun w h => List.mem_cons_of_mem _ (inU6 w h)) tyX6 tyX6_ok nmX6 S.2.2.2.1 hK.1 hP hD hS 0 rfl rfl 0 (by decide) (S.2.2.2.2 _ (List.mem_cons_of_mem _ q105)) (fun _ h9 => h9) rfl hin rfl (by decide +kernel) rfl rfl (Nat.le_of_ble_eq_true rfl) dX6_init_9 (fun H locs hP hD hS => ?_)
  have hP : va_P D vwCl [(h0, .inr (6, [.ref qaa, .int 0])), (qaa, .inl (cy 0, 12, .inl (fun _ => 0)))] H := hP
  have hD : va_D A [(h0, .inr (6, [.ref qaa, .int 0])), (qaa, .inl (cy 0, 12, .inl (fun _ => 0)))] := hD
  exact k_vret (u := (fun i => match i with | 0 => qaa | _ => 0)) hx hb hr hlocks trivial hP hD hS dX6_init_12
def bX8 (cy : Nat → ClassId) (h0 : Nat) (u : Nat → Nat) : va_W := [(h0, .inr (8, [.ref (u 0), .ref (u 1), .ref (u 2), .ref (u 3), .ref (u 4), .ref (u 5), .int 0, .int 0, .int (1)])), ((u 0), .inl (cy 0, 14, .inl (fun _ => 0))), ((u 1), .inl (cy 0, 14, .inl (fun _ => 0))), ((u 2), .inl (cy 0, 14, .inl (fun _ => 0))), ((u 3), .inl (cy 0, 14, .inl (fun _ => 0))), ((u 4), .inl (cy 0, 14, .inl (fun _ => 0))), ((u 5), .inl (cy 0, 14, .inl (fun _ => 0)))]
theorem iX8_init : YI yX8_init cX8_init 1 none 0 := ⟨q117, q6, by decide, by decide, by decide +kernel⟩
set_option maxRecDepth 100000 in
set_option maxHeartbeats 4000000 in
theorem k_X8 (l : Launch) (D : va_G) (cy : Nat → ClassId) (h0 : Nat) : Ck (U := Nat → Nat) l D cy yX8_init cX8_init 1 1 30 [.ref h0] [(h0, .inr (8, [.null, .null, .null, .null, .null, .null, .int 0, .int 0, .int 0]))] (fun _ => True) (bX8 cy h0) 6 84 := by
  refine k_enter (by decide) (Nat.le_of_ble_eq_true rfl) ?_
  intro p e s m below meth c A H locs S hr hlocks hin hA hK hC hP hD hS ls hl
  have hx := S.1
  have hb := S.2.1
  have hl : lv_has ls 1 [(0, .ref h0)] := hl
  refine lv_aload_n hx hb dX8_init_0 rfl (lv_at hl 0 rfl) ?_
  refine W.objInit S.1 S.2.1 S.2.2.2.1 (S.2.2.2.2 _ (List.mem_cons_of_mem _ q118)) (S.2.2.2.2 _ (List.mem_cons_of_mem _ q21)) (S.2.2.2.2 _ (List.mem_cons_of_mem _ q22)) rfl (by rw [S.2.2.1]; exact hl.1) rfl dX8_init_1 (Nat.le_of_ble_eq_true rfl) (Nat.le_of_ble_eq_true rfl) ?_
  refine W.eq (g2 := F0 m 4 ls []) rfl ?_
  refine lv_aload_n hx hb dX8_init_4 rfl (lv_at hl 0 rfl) ?_
  refine lv_bipush (v := 14) hx hb dX8_init_5 (by decide) ?_
  refine k_newi (N := 14) S hK hP hD hS hA (by decide) (by decide) (by decide) (Nat.le_of_ble_eq_true rfl) (Nat.le_of_ble_eq_true rfl) dX8_init_7 (fun qaa H hP hD hS => ?_)
  have hP : va_P D vwCl [(h0, .inr (8, [.null, .null, .null, .null, .null, .null, .int 0, .int 0, .int 0])), (qaa, .inl (cy 0, 14, .inl (fun _ => 0)))] H := hP
  have hD : va_D A [(h0, .inr (8, [.null, .null, .null, .null, .null, .null, .int 0, .int 0, .int 0])), (qaa, .inl (cy 0, 14, .inl (fun _ => 0)))] := hD
  refine va_putF (D := D) (ci := 8) (v := .ref qaa) (ty := .array .int) (C := RX8) (T := TX8) (N := 9) S.1 S.2.1 S.2.2.2.2 (fun w h => List.mem_cons_of_mem _ (inU8 w h)) tyX8 tyX8_ok nmX8 S.2.2.2.1 hK.1 hP hD hS 0 rfl rfl 0 (by decide) (S.2.2.2.2 _ (List.mem_cons_of_mem _ q119)) (fun _ h9 => h9) rfl hin rfl (by decide +kernel) rfl rfl (Nat.le_of_ble_eq_true rfl) dX8_init_9 (fun H locs hP hD hS => ?_)
  have hP : va_P D vwCl [(h0, .inr (8, [.ref qaa, .null, .null, .null, .null, .null, .int 0, .int 0, .int 0])), (qaa, .inl (cy 0, 14, .inl (fun _ => 0)))] H := hP
  have hD : va_D A [(h0, .inr (8, [.ref qaa, .null, .null, .null, .null, .null, .int 0, .int 0, .int 0])), (qaa, .inl (cy 0, 14, .inl (fun _ => 0)))] := hD
  refine lv_aload_n hx hb dX8_init_12 rfl (lv_at hl 0 rfl) ?_
  refine lv_bipush (v := 14) hx hb dX8_init_13 (by decide) ?_
  refine k_newi (N := 14) S hK hP hD hS hA (by decide) (by decide) (by decide) (Nat.le_of_ble_eq_true rfl) (Nat.le_of_ble_eq_true rfl) dX8_init_15 (fun qba H hP hD hS => ?_)
  have hP : va_P D vwCl [(h0, .inr (8, [.ref qaa, .null, .null, .null, .null, .null, .int 0, .int 0, .int 0])), (qaa, .inl (cy 0, 14, .inl (fun _ => 0))), (qba, .inl (cy 0, 14, .inl (fun _ => 0)))] H := hP
  have hD : va_D A [(h0, .inr (8, [.ref qaa, .null, .null, .null, .null, .null, .int 0, .int 0, .int 0])), (qaa, .inl (cy 0, 14, .inl (fun _ => 0))), (qba, .inl (cy 0, 14, .inl (fun _ => 0)))] := hD
  refine va_putF (D := D) (ci := 8) (v := .ref qba) (ty := .array .int) (C := RX8) (T := TX8) (N := 9) S.1 S.2.1 S.2.2.2.2 (fun w h => List.mem_cons_of_mem _ (inU8 w h)) tyX8 tyX8_ok nmX8 S.2.2.2.1 hK.1 hP hD hS 0 rfl rfl 1 (by decide) (S.2.2.2.2 _ (List.mem_cons_of_mem _ q122)) (fun _ h9 => h9) rfl hin rfl (by decide +kernel) rfl rfl (Nat.le_of_ble_eq_true rfl) dX8_init_17 (fun H locs hP hD hS => ?_)
  have hP : va_P D vwCl [(h0, .inr (8, [.ref qaa, .ref qba, .null, .null, .null, .null, .int 0, .int 0, .int 0])), (qaa, .inl (cy 0, 14, .inl (fun _ => 0))), (qba, .inl (cy 0, 14, .inl (fun _ => 0)))] H := hP
  have hD : va_D A [(h0, .inr (8, [.ref qaa, .ref qba, .null, .null, .null, .null, .int 0, .int 0, .int 0])), (qaa, .inl (cy 0, 14, .inl (fun _ => 0))), (qba, .inl (cy 0, 14, .inl (fun _ => 0)))] := hD
  refine lv_aload_n hx hb dX8_init_20 rfl (lv_at hl 0 rfl) ?_
  refine lv_bipush (v := 14) hx hb dX8_init_21 (by decide) ?_
  refine k_newi (N := 14) S hK hP hD hS hA (by decide) (by decide) (by decide) (Nat.le_of_ble_eq_true rfl) (Nat.le_of_ble_eq_true rfl) dX8_init_23 (fun qca H hP hD hS => ?_)
  have hP : va_P D vwCl [(h0, .inr (8, [.ref qaa, .ref qba, .null, .null, .null, .null, .int 0, .int 0, .int 0])), (qaa, .inl (cy 0, 14, .inl (fun _ => 0))), (qba, .inl (cy 0, 14, .inl (fun _ => 0))), (qca, .inl (cy 0, 14, .inl (fun _ => 0)))] H := hP
  have hD : va_D A [(h0, .inr (8, [.ref qaa, .ref qba, .null, .null, .null, .null, .int 0, .int 0, .int 0])), (qaa, .inl (cy 0, 14, .inl (fun _ => 0))), (qba, .inl (cy 0, 14, .inl (fun _ => 0))), (qca, .inl (cy 0, 14, .inl (fun _ => 0)))] := hD
  refine va_putF (D := D) (ci := 8) (v := .ref qca) (ty := .array .int) (C := RX8) (T := TX8) (N := 9) S.1 S.2.1 S.2.2.2.2 (fun w h => List.mem_cons_of_mem _ (inU8 w h)) tyX8 tyX8_ok nmX8 S.2.2.2.1 hK.1 hP hD hS 0 rfl rfl 2 (by decide) (S.2.2.2.2 _ (List.mem_cons_of_mem _ q125)) (fun _ h9 => h9) rfl hin rfl (by decide +kernel) rfl rfl (Nat.le_of_ble_eq_true rfl) dX8_init_25 (fun H locs hP hD hS => ?_)
  have hP : va_P D vwCl [(h0, .inr (8, [.ref qaa, .ref qba, .ref qca, .null, .null, .null, .int 0, .int 0, .int 0])), (qaa, .inl (cy 0, 14, .inl (fun _ => 0))), (qba, .inl (cy 0, 14, .inl (fun _ => 0))), (qca, .inl (cy 0, 14, .inl (fun _ => 0)))] H := hP
  have hD : va_D A [(h0, .inr (8, [.ref qaa, .ref qba, .ref qca, .null, .null, .null, .int 0, .int 0, .int 0])), (qaa, .inl (cy 0, 14, .inl (fun _ => 0))), (qba, .inl (cy 0, 14, .inl (fun _ => 0))), (qca, .inl (cy 0, 14, .inl (fun _ => 0)))] := hD
  refine lv_aload_n hx hb dX8_init_28 rfl (lv_at hl 0 rfl) ?_
  refine lv_bipush (v := 14) hx hb dX8_init_29 (by decide) ?_
  refine k_newi (N := 14) S hK hP hD hS hA (by decide) (by decide) (by decide) (Nat.le_of_ble_eq_true rfl) (Nat.le_of_ble_eq_true rfl) dX8_init_31 (fun qda H hP hD hS => ?_)
  have hP : va_P D vwCl [(h0, .inr (8, [.ref qaa, .ref qba, .ref qca, .null, .null, .null, .int 0, .int 0, .int 0])), (qaa, .inl (cy 0, 14, .inl (fun _ => 0))), (qba, .inl (cy 0, 14, .inl (fun _ => 0))), (qca, .inl (cy 0, 14, .inl (fun _ => 0))), (qda, .inl (cy 0, 14, .inl (fun _ => 0)))] H := hP
  have hD : va_D A [(h0, .inr (8, [.ref qaa, .ref qba, .ref qca, .null, .null, .null, .int 0, .int 0, .int 0])), (qaa, .inl (cy 0, 14, .inl (fun _ => 0))), (qba, .inl (cy 0, 14, .inl (fun _ => 0))), (qca, .inl (cy 0, 14, .inl (fun _ => 0))), (qda, .inl (cy 0, 14, .inl (fun _ => 0)))] := hD
  refine va_putF (D := D) (ci := 8) (v := .ref qda) (ty := .array .int) (C := RX8) (T := TX8) (N := 9) S.1 S.2.1 S.2.2.2.2 (fun w h => List.mem_cons_of_mem _ (inU8 w h)) tyX8 tyX8_ok nmX8 S.2.2.2.1 hK.1 hP hD hS 0 rfl rfl 3 (by decide) (S.2.2.2.2 _ (List.mem_cons_of_mem _ q127)) (fun _ h9 => h9) rfl hin rfl (by decide +kernel) rfl rfl (Nat.le_of_ble_eq_true rfl) dX8_init_33 (fun H locs hP hD hS => ?_)
  have hP : va_P D vwCl [(h0, .inr (8, [.ref qaa, .ref qba, .ref qca, .ref qda, .null, .null, .int 0, .int 0, .int 0])), (qaa, .inl (cy 0, 14, .inl (fun _ => 0))), (qba, .inl (cy 0, 14, .inl (fun _ => 0))), (qca, .inl (cy 0, 14, .inl (fun _ => 0))), (qda, .inl (cy 0, 14, .inl (fun _ => 0)))] H := hP
  have hD : va_D A [(h0, .inr (8, [.ref qaa, .ref qba, .ref qca, .ref qda, .null, .null, .int 0, .int 0, .int 0])), (qaa, .inl (cy 0, 14, .inl (fun _ => 0))), (qba, .inl (cy 0, 14, .inl (fun _ => 0))), (qca, .inl (cy 0, 14, .inl (fun _ => 0))), (qda, .inl (cy 0, 14, .inl (fun _ => 0)))] := hD
  refine lv_aload_n hx hb dX8_init_36 rfl (lv_at hl 0 rfl) ?_
  refine lv_bipush (v := 14) hx hb dX8_init_37 (by decide) ?_
  refine k_newi (N := 14) S hK hP hD hS hA (by decide) (by decide) (by decide) (Nat.le_of_ble_eq_true rfl) (Nat.le_of_ble_eq_true rfl) dX8_init_39 (fun qea H hP hD hS => ?_)
  have hP : va_P D vwCl [(h0, .inr (8, [.ref qaa, .ref qba, .ref qca, .ref qda, .null, .null, .int 0, .int 0, .int 0])), (qaa, .inl (cy 0, 14, .inl (fun _ => 0))), (qba, .inl (cy 0, 14, .inl (fun _ => 0))), (qca, .inl (cy 0, 14, .inl (fun _ => 0))), (qda, .inl (cy 0, 14, .inl (fun _ => 0))), (qea, .inl (cy 0, 14, .inl (fun _ => 0)))] H := hP
  have hD : va_D A [(h0, .inr (8, [.ref qaa, .ref qba, .ref qca, .ref qda, .null, .null, .int 0, .int 0, .int 0])), (qaa, .inl (cy 0, 14, .inl (fun _ => 0))), (qba, .inl (cy 0, 14, .inl (fun _ => 0))), (qca, .inl (cy 0, 14, .inl (fun _ => 0))), (qda, .inl (cy 0, 14, .inl (fun _ => 0))), (qea, .inl (cy 0, 14, .inl (fun _ => 0)))] := hD
  refine va_putF (D := D) (ci := 8) (v := .ref qea) (ty := .array .int) (C := RX8) (T := TX8) (N := 9) S.1 S.2.1 S.2.2.2.2 (fun w h => List.mem_cons_of_mem _ (inU8 w h)) tyX8 tyX8_ok nmX8 S.2.2.2.1 hK.1 hP hD hS 0 rfl rfl 4 (by decide) (S.2.2.2.2 _ (List.mem_cons_of_mem _ q129)) (fun _ h9 => h9) rfl hin rfl (by decide +kernel) rfl rfl (Nat.le_of_ble_eq_true rfl) dX8_init_41 (fun H locs hP hD hS => ?_)
  have hP : va_P D vwCl [(h0, .inr (8, [.ref qaa, .ref qba, .ref qca, .ref qda, .ref qea, .null, .int 0, .int 0, .int 0])), (qaa, .inl (cy 0, 14, .inl (fun _ => 0))), (qba, .inl (cy 0, 14, .inl (fun _ => 0))), (qca, .inl (cy 0, 14, .inl (fun _ => 0))), (qda, .inl (cy 0, 14, .inl (fun _ => 0))), (qea, .inl (cy 0, 14, .inl (fun _ => 0)))] H := hP
  have hD : va_D A [(h0, .inr (8, [.ref qaa, .ref qba, .ref qca, .ref qda, .ref qea, .null, .int 0, .int 0, .int 0])), (qaa, .inl (cy 0, 14, .inl (fun _ => 0))), (qba, .inl (cy 0, 14, .inl (fun _ => 0))), (qca, .inl (cy 0, 14, .inl (fun _ => 0))), (qda, .inl (cy 0, 14, .inl (fun _ => 0))), (qea, .inl (cy 0, 14, .inl (fun _ => 0)))] := hD
  refine lv_aload_n hx hb dX8_init_44 rfl (lv_at hl 0 rfl) ?_
  refine lv_bipush (v := 14) hx hb dX8_init_45 (by decide) ?_
  refine k_newi (N := 14) S hK hP hD hS hA (by decide) (by decide) (by decide) (Nat.le_of_ble_eq_true rfl) (Nat.le_of_ble_eq_true rfl) dX8_init_47 (fun qfa H hP hD hS => ?_)
  have hP : va_P D vwCl [(h0, .inr (8, [.ref qaa, .ref qba, .ref qca, .ref qda, .ref qea, .null, .int 0, .int 0, .int 0])), (qaa, .inl (cy 0, 14, .inl (fun _ => 0))), (qba, .inl (cy 0, 14, .inl (fun _ => 0))), (qca, .inl (cy 0, 14, .inl (fun _ => 0))), (qda, .inl (cy 0, 14, .inl (fun _ => 0))), (qea, .inl (cy 0, 14, .inl (fun _ => 0))), (qfa, .inl (cy 0, 14, .inl (fun _ => 0)))] H := hP
  have hD : va_D A [(h0, .inr (8, [.ref qaa, .ref qba, .ref qca, .ref qda, .ref qea, .null, .int 0, .int 0, .int 0])), (qaa, .inl (cy 0, 14, .inl (fun _ => 0))), (qba, .inl (cy 0, 14, .inl (fun _ => 0))), (qca, .inl (cy 0, 14, .inl (fun _ => 0))), (qda, .inl (cy 0, 14, .inl (fun _ => 0))), (qea, .inl (cy 0, 14, .inl (fun _ => 0))), (qfa, .inl (cy 0, 14, .inl (fun _ => 0)))] := hD
  refine va_putF (D := D) (ci := 8) (v := .ref qfa) (ty := .array .int) (C := RX8) (T := TX8) (N := 9) S.1 S.2.1 S.2.2.2.2 (fun w h => List.mem_cons_of_mem _ (inU8 w h)) tyX8 tyX8_ok nmX8 S.2.2.2.1 hK.1 hP hD hS 0 rfl rfl 5 (by decide) (S.2.2.2.2 _ (List.mem_cons_of_mem _ q131)) (fun _ h9 => h9) rfl hin rfl (by decide +kernel) rfl rfl (Nat.le_of_ble_eq_true rfl) dX8_init_49 (fun H locs hP hD hS => ?_)
  have hP : va_P D vwCl [(h0, .inr (8, [.ref qaa, .ref qba, .ref qca, .ref qda, .ref qea, .ref qfa, .int 0, .int 0, .int 0])), (qaa, .inl (cy 0, 14, .inl (fun _ => 0))), (qba, .inl (cy 0, 14, .inl (fun _ => 0))), (qca, .inl (cy 0, 14, .inl (fun _ => 0))), (qda, .inl (cy 0, 14, .inl (fun _ => 0))), (qea, .inl (cy 0, 14, .inl (fun _ => 0))), (qfa, .inl (cy 0, 14, .inl (fun _ => 0)))] H := hP
  have hD : va_D A [(h0, .inr (8, [.ref qaa, .ref qba, .ref qca, .ref qda, .ref qea, .ref qfa, .int 0, .int 0, .int 0])), (qaa, .inl (cy 0, 14, .inl (fun _ => 0))), (qba, .inl (cy 0, 14, .inl (fun _ => 0))), (qca, .inl (cy 0, 14, .inl (fun _ => 0))), (qda, .inl (cy 0, 14, .inl (fun _ => 0))), (qea, .inl (cy 0, 14, .inl (fun _ => 0))), (qfa, .inl (cy 0, 14, .inl (fun _ => 0)))] := hD
  refine lv_aload_n hx hb dX8_init_52 rfl (lv_at hl 0 rfl) ?_
  refine lv_iconst (v := 1) hx hb dX8_init_53 (by decide) ?_
  refine va_put (D := D) (ci := 8) (v := .int (1)) (ty := .int) (C := RX8) (T := TX8) (N := 9) S.1 S.2.1 S.2.2.2.2 (fun w h => List.mem_cons_of_mem _ (inU8 w h)) tyX8 tyX8_ok nmX8 S.2.2.2.1 hK.1 hP hD hS 0 rfl rfl 8 (by decide) (S.2.2.2.2 _ (List.mem_cons_of_mem _ q137)) (fun _ h9 => h9) rfl (by decide +kernel) rfl rfl (Nat.le_of_ble_eq_true rfl) dX8_init_54 (fun H locs hP hD hS => ?_)
  have hP : va_P D vwCl [(h0, .inr (8, [.ref qaa, .ref qba, .ref qca, .ref qda, .ref qea, .ref qfa, .int 0, .int 0, .int (1)])), (qaa, .inl (cy 0, 14, .inl (fun _ => 0))), (qba, .inl (cy 0, 14, .inl (fun _ => 0))), (qca, .inl (cy 0, 14, .inl (fun _ => 0))), (qda, .inl (cy 0, 14, .inl (fun _ => 0))), (qea, .inl (cy 0, 14, .inl (fun _ => 0))), (qfa, .inl (cy 0, 14, .inl (fun _ => 0)))] H := hP
  have hD : va_D A [(h0, .inr (8, [.ref qaa, .ref qba, .ref qca, .ref qda, .ref qea, .ref qfa, .int 0, .int 0, .int (1)])), (qaa, .inl (cy 0, 14, .inl (fun _ => 0))), (qba, .inl (cy 0, 14, .inl (fun _ => 0))), (qca, .inl (cy 0, 14, .inl (fun _ => 0))), (qda, .inl (cy 0, 14, .inl (fun _ => 0))), (qea, .inl (cy 0, 14, .inl (fun _ => 0))), (qfa, .inl (cy 0, 14, .inl (fun _ => 0)))] := hD
  exact k_vret (u := (fun i => match i with | 0 => qaa | 1 => qba | 2 => qca | 3 => qda | 4 => qea | 5 => qfa | _ => 0)) hx hb hr hlocks trivial hP hD hS dX8_init_57
def bX4 (cy : Nat → ClassId) (h0 r1 r2 : Nat) (u : Nat → Nat) : va_W := [(h0, .inr (4, [.ref r1, .ref r2, .ref (u 0), .ref (u 1), .ref (u 2), .ref (u 3), .int 0, .int 0, .int 0])), ((u 0), .inl (cy 1, 1, .inr (.inl (fun _ => 0)))), ((u 1), .inl (cy 0, 5, .inl (fun _ => 0))), ((u 2), .inl (cy 0, 5, .inl (fun _ => 0))), ((u 3), .inl (cy 0, 70, .inl (fun _ => 0)))]
theorem iX4_init : YI yX4_init cX4_init 3 none 2 := ⟨q197, q8, by decide, by decide, by decide +kernel⟩
set_option maxRecDepth 100000 in
set_option maxHeartbeats 4000000 in
theorem k_X4 (l : Launch) (D : va_G) (cy : Nat → ClassId) (h0 r1 r2 : Nat) : Ck (U := Nat → Nat) l D cy yX4_init cX4_init 3 1 30 [.ref h0, .ref r1, .ref r2] [(h0, .inr (4, [.null, .null, .null, .null, .null, .null, .int 0, .int 0, .int 0]))] (fun _ => True) (bX4 cy h0 r1 r2) 4 81 := by
  refine k_enter (by decide) (Nat.le_of_ble_eq_true rfl) ?_
  intro p e s m below meth c A H locs S hr hlocks hin hA hK hC hP hD hS ls hl
  have hx := S.1
  have hb := S.2.1
  have hl : lv_has ls 3 [(0, .ref h0), (1, .ref r1), (2, .ref r2)] := hl
  refine lv_aload_n hx hb dX4_init_0 rfl (lv_at hl 0 rfl) ?_
  refine W.objInit S.1 S.2.1 S.2.2.2.1 (S.2.2.2.2 _ (List.mem_cons_of_mem _ q198)) (S.2.2.2.2 _ (List.mem_cons_of_mem _ q21)) (S.2.2.2.2 _ (List.mem_cons_of_mem _ q22)) rfl (by rw [S.2.2.1]; exact hl.1) rfl dX4_init_1 (Nat.le_of_ble_eq_true rfl) (Nat.le_of_ble_eq_true rfl) ?_
  refine W.eq (g2 := F0 m 4 ls []) rfl ?_
  refine lv_aload_n hx hb dX4_init_4 rfl (lv_at hl 0 rfl) ?_
  refine lv_iconst (v := 1) hx hb dX4_init_5 (by decide) ?_
  refine k_newj (N := 1) S hK hP hD hS hA (by decide) (by decide) (by decide) (Nat.le_of_ble_eq_true rfl) (Nat.le_of_ble_eq_true rfl) dX4_init_6 (fun qaa H hP hD hS => ?_)
  have hP : va_P D vwCl [(h0, .inr (4, [.null, .null, .null, .null, .null, .null, .int 0, .int 0, .int 0])), (qaa, .inl (cy 1, 1, .inr (.inl (fun _ => 0))))] H := hP
  have hD : va_D A [(h0, .inr (4, [.null, .null, .null, .null, .null, .null, .int 0, .int 0, .int 0])), (qaa, .inl (cy 1, 1, .inr (.inl (fun _ => 0))))] := hD
  refine va_put (D := D) (ci := 4) (v := .ref qaa) (ty := .array .long) (C := RX4) (T := TX4) (N := 9) S.1 S.2.1 S.2.2.2.2 (fun w h => List.mem_cons_of_mem _ (inU4 w h)) tyX4 tyX4_ok nmX4 S.2.2.2.1 hK.1 hP hD hS 0 rfl rfl 2 (by decide) (S.2.2.2.2 _ (List.mem_cons_of_mem _ q201)) (fun _ h9 => h9) rfl (by decide +kernel) rfl rfl (Nat.le_of_ble_eq_true rfl) dX4_init_8 (fun H locs hP hD hS => ?_)
  have hP : va_P D vwCl [(h0, .inr (4, [.null, .null, .ref qaa, .null, .null, .null, .int 0, .int 0, .int 0])), (qaa, .inl (cy 1, 1, .inr (.inl (fun _ => 0))))] H := hP
  have hD : va_D A [(h0, .inr (4, [.null, .null, .ref qaa, .null, .null, .null, .int 0, .int 0, .int 0])), (qaa, .inl (cy 1, 1, .inr (.inl (fun _ => 0))))] := hD
  refine lv_aload_n hx hb dX4_init_11 rfl (lv_at hl 0 rfl) ?_
  refine lv_iconst (v := 5) hx hb dX4_init_12 (by decide) ?_
  refine k_newi (N := 5) S hK hP hD hS hA (by decide) (by decide) (by decide) (Nat.le_of_ble_eq_true rfl) (Nat.le_of_ble_eq_true rfl) dX4_init_13 (fun qba H hP hD hS => ?_)
  have hP : va_P D vwCl [(h0, .inr (4, [.null, .null, .ref qaa, .null, .null, .null, .int 0, .int 0, .int 0])), (qaa, .inl (cy 1, 1, .inr (.inl (fun _ => 0)))), (qba, .inl (cy 0, 5, .inl (fun _ => 0)))] H := hP
  have hD : va_D A [(h0, .inr (4, [.null, .null, .ref qaa, .null, .null, .null, .int 0, .int 0, .int 0])), (qaa, .inl (cy 1, 1, .inr (.inl (fun _ => 0)))), (qba, .inl (cy 0, 5, .inl (fun _ => 0)))] := hD
  refine va_put (D := D) (ci := 4) (v := .ref qba) (ty := .array .int) (C := RX4) (T := TX4) (N := 9) S.1 S.2.1 S.2.2.2.2 (fun w h => List.mem_cons_of_mem _ (inU4 w h)) tyX4 tyX4_ok nmX4 S.2.2.2.1 hK.1 hP hD hS 0 rfl rfl 3 (by decide) (S.2.2.2.2 _ (List.mem_cons_of_mem _ q202)) (fun _ h9 => h9) rfl (by decide +kernel) rfl rfl (Nat.le_of_ble_eq_true rfl) dX4_init_15 (fun H locs hP hD hS => ?_)
  have hP : va_P D vwCl [(h0, .inr (4, [.null, .null, .ref qaa, .ref qba, .null, .null, .int 0, .int 0, .int 0])), (qaa, .inl (cy 1, 1, .inr (.inl (fun _ => 0)))), (qba, .inl (cy 0, 5, .inl (fun _ => 0)))] H := hP
  have hD : va_D A [(h0, .inr (4, [.null, .null, .ref qaa, .ref qba, .null, .null, .int 0, .int 0, .int 0])), (qaa, .inl (cy 1, 1, .inr (.inl (fun _ => 0)))), (qba, .inl (cy 0, 5, .inl (fun _ => 0)))] := hD
  refine lv_aload_n hx hb dX4_init_18 rfl (lv_at hl 0 rfl) ?_
  refine lv_iconst (v := 5) hx hb dX4_init_19 (by decide) ?_
  refine k_newi (N := 5) S hK hP hD hS hA (by decide) (by decide) (by decide) (Nat.le_of_ble_eq_true rfl) (Nat.le_of_ble_eq_true rfl) dX4_init_20 (fun qca H hP hD hS => ?_)
  have hP : va_P D vwCl [(h0, .inr (4, [.null, .null, .ref qaa, .ref qba, .null, .null, .int 0, .int 0, .int 0])), (qaa, .inl (cy 1, 1, .inr (.inl (fun _ => 0)))), (qba, .inl (cy 0, 5, .inl (fun _ => 0))), (qca, .inl (cy 0, 5, .inl (fun _ => 0)))] H := hP
  have hD : va_D A [(h0, .inr (4, [.null, .null, .ref qaa, .ref qba, .null, .null, .int 0, .int 0, .int 0])), (qaa, .inl (cy 1, 1, .inr (.inl (fun _ => 0)))), (qba, .inl (cy 0, 5, .inl (fun _ => 0))), (qca, .inl (cy 0, 5, .inl (fun _ => 0)))] := hD
  refine va_putF (D := D) (ci := 4) (v := .ref qca) (ty := .array .int) (C := RX4) (T := TX4) (N := 9) S.1 S.2.1 S.2.2.2.2 (fun w h => List.mem_cons_of_mem _ (inU4 w h)) tyX4 tyX4_ok nmX4 S.2.2.2.1 hK.1 hP hD hS 0 rfl rfl 4 (by decide) (S.2.2.2.2 _ (List.mem_cons_of_mem _ q203)) (fun _ h9 => h9) rfl hin rfl (by decide +kernel) rfl rfl (Nat.le_of_ble_eq_true rfl) dX4_init_22 (fun H locs hP hD hS => ?_)
  have hP : va_P D vwCl [(h0, .inr (4, [.null, .null, .ref qaa, .ref qba, .ref qca, .null, .int 0, .int 0, .int 0])), (qaa, .inl (cy 1, 1, .inr (.inl (fun _ => 0)))), (qba, .inl (cy 0, 5, .inl (fun _ => 0))), (qca, .inl (cy 0, 5, .inl (fun _ => 0)))] H := hP
  have hD : va_D A [(h0, .inr (4, [.null, .null, .ref qaa, .ref qba, .ref qca, .null, .int 0, .int 0, .int 0])), (qaa, .inl (cy 1, 1, .inr (.inl (fun _ => 0)))), (qba, .inl (cy 0, 5, .inl (fun _ => 0))), (qca, .inl (cy 0, 5, .inl (fun _ => 0)))] := hD
  refine lv_aload_n hx hb dX4_init_25 rfl (lv_at hl 0 rfl) ?_
  refine lv_bipush (v := 70) hx hb dX4_init_26 (by decide) ?_
  refine k_newi (N := 70) S hK hP hD hS hA (by decide) (by decide) (by decide) (Nat.le_of_ble_eq_true rfl) (Nat.le_of_ble_eq_true rfl) dX4_init_28 (fun qda H hP hD hS => ?_)
  have hP : va_P D vwCl [(h0, .inr (4, [.null, .null, .ref qaa, .ref qba, .ref qca, .null, .int 0, .int 0, .int 0])), (qaa, .inl (cy 1, 1, .inr (.inl (fun _ => 0)))), (qba, .inl (cy 0, 5, .inl (fun _ => 0))), (qca, .inl (cy 0, 5, .inl (fun _ => 0))), (qda, .inl (cy 0, 70, .inl (fun _ => 0)))] H := hP
  have hD : va_D A [(h0, .inr (4, [.null, .null, .ref qaa, .ref qba, .ref qca, .null, .int 0, .int 0, .int 0])), (qaa, .inl (cy 1, 1, .inr (.inl (fun _ => 0)))), (qba, .inl (cy 0, 5, .inl (fun _ => 0))), (qca, .inl (cy 0, 5, .inl (fun _ => 0))), (qda, .inl (cy 0, 70, .inl (fun _ => 0)))] := hD
  refine va_putF (D := D) (ci := 4) (v := .ref qda) (ty := .array .int) (C := RX4) (T := TX4) (N := 9) S.1 S.2.1 S.2.2.2.2 (fun w h => List.mem_cons_of_mem _ (inU4 w h)) tyX4 tyX4_ok nmX4 S.2.2.2.1 hK.1 hP hD hS 0 rfl rfl 5 (by decide) (S.2.2.2.2 _ (List.mem_cons_of_mem _ q204)) (fun _ h9 => h9) rfl hin rfl (by decide +kernel) rfl rfl (Nat.le_of_ble_eq_true rfl) dX4_init_30 (fun H locs hP hD hS => ?_)
  have hP : va_P D vwCl [(h0, .inr (4, [.null, .null, .ref qaa, .ref qba, .ref qca, .ref qda, .int 0, .int 0, .int 0])), (qaa, .inl (cy 1, 1, .inr (.inl (fun _ => 0)))), (qba, .inl (cy 0, 5, .inl (fun _ => 0))), (qca, .inl (cy 0, 5, .inl (fun _ => 0))), (qda, .inl (cy 0, 70, .inl (fun _ => 0)))] H := hP
  have hD : va_D A [(h0, .inr (4, [.null, .null, .ref qaa, .ref qba, .ref qca, .ref qda, .int 0, .int 0, .int 0])), (qaa, .inl (cy 1, 1, .inr (.inl (fun _ => 0)))), (qba, .inl (cy 0, 5, .inl (fun _ => 0))), (qca, .inl (cy 0, 5, .inl (fun _ => 0))), (qda, .inl (cy 0, 70, .inl (fun _ => 0)))] := hD
  refine lv_aload_n hx hb dX4_init_33 rfl (lv_at hl 0 rfl) ?_
  refine lv_aload_n hx hb dX4_init_34 rfl (lv_at hl 1 rfl) ?_
  refine va_putF (D := D) (ci := 4) (v := .ref r1) (ty := .object "WheelCrane$Stones") (C := RX4) (T := TX4) (N := 9) S.1 S.2.1 S.2.2.2.2 (fun w h => List.mem_cons_of_mem _ (inU4 w h)) tyX4 tyX4_ok nmX4 S.2.2.2.1 hK.1 hP hD hS 0 rfl rfl 0 (by decide) (S.2.2.2.2 _ (List.mem_cons_of_mem _ q199)) (fun _ h9 => h9) rfl hin rfl (by decide +kernel) rfl rfl (Nat.le_of_ble_eq_true rfl) dX4_init_35 (fun H locs hP hD hS => ?_)
  have hP : va_P D vwCl [(h0, .inr (4, [.ref r1, .null, .ref qaa, .ref qba, .ref qca, .ref qda, .int 0, .int 0, .int 0])), (qaa, .inl (cy 1, 1, .inr (.inl (fun _ => 0)))), (qba, .inl (cy 0, 5, .inl (fun _ => 0))), (qca, .inl (cy 0, 5, .inl (fun _ => 0))), (qda, .inl (cy 0, 70, .inl (fun _ => 0)))] H := hP
  have hD : va_D A [(h0, .inr (4, [.ref r1, .null, .ref qaa, .ref qba, .ref qca, .ref qda, .int 0, .int 0, .int 0])), (qaa, .inl (cy 1, 1, .inr (.inl (fun _ => 0)))), (qba, .inl (cy 0, 5, .inl (fun _ => 0))), (qca, .inl (cy 0, 5, .inl (fun _ => 0))), (qda, .inl (cy 0, 70, .inl (fun _ => 0)))] := hD
  refine lv_aload_n hx hb dX4_init_38 rfl (lv_at hl 0 rfl) ?_
  refine lv_aload_n hx hb dX4_init_39 rfl (lv_at hl 2 rfl) ?_
  refine va_putF (D := D) (ci := 4) (v := .ref r2) (ty := .object "WheelCrane$Stands") (C := RX4) (T := TX4) (N := 9) S.1 S.2.1 S.2.2.2.2 (fun w h => List.mem_cons_of_mem _ (inU4 w h)) tyX4 tyX4_ok nmX4 S.2.2.2.1 hK.1 hP hD hS 0 rfl rfl 1 (by decide) (S.2.2.2.2 _ (List.mem_cons_of_mem _ q200)) (fun _ h9 => h9) rfl hin rfl (by decide +kernel) rfl rfl (Nat.le_of_ble_eq_true rfl) dX4_init_40 (fun H locs hP hD hS => ?_)
  have hP : va_P D vwCl [(h0, .inr (4, [.ref r1, .ref r2, .ref qaa, .ref qba, .ref qca, .ref qda, .int 0, .int 0, .int 0])), (qaa, .inl (cy 1, 1, .inr (.inl (fun _ => 0)))), (qba, .inl (cy 0, 5, .inl (fun _ => 0))), (qca, .inl (cy 0, 5, .inl (fun _ => 0))), (qda, .inl (cy 0, 70, .inl (fun _ => 0)))] H := hP
  have hD : va_D A [(h0, .inr (4, [.ref r1, .ref r2, .ref qaa, .ref qba, .ref qca, .ref qda, .int 0, .int 0, .int 0])), (qaa, .inl (cy 1, 1, .inr (.inl (fun _ => 0)))), (qba, .inl (cy 0, 5, .inl (fun _ => 0))), (qca, .inl (cy 0, 5, .inl (fun _ => 0))), (qda, .inl (cy 0, 70, .inl (fun _ => 0)))] := hD
  exact k_vret (u := (fun i => match i with | 0 => qaa | 1 => qba | 2 => qca | 3 => qda | _ => 0)) hx hb hr hlocks trivial hP hD hS dX4_init_43
def bX3 (cy : Nat → ClassId) (h0 : Nat) (u : Nat → Nat) : va_W := [(h0, .inr (3, [.ref (u 0), .ref (u 1), .int 0])), ((u 0), .inl (cy 0, 8, .inl (fun _ => 0))), ((u 1), .inl (cy 0, 8, .inl (fun _ => 0)))]
theorem iX3_init : YI yX3_init cX3_init 1 none 0 := ⟨q280, q11, by decide, by decide, by decide +kernel⟩
set_option maxRecDepth 100000 in
set_option maxHeartbeats 4000000 in
theorem k_X3 (l : Launch) (D : va_G) (cy : Nat → ClassId) (h0 : Nat) : Ck (U := Nat → Nat) l D cy yX3_init cX3_init 1 1 30 [.ref h0] [(h0, .inr (3, [.null, .null, .int 0]))] (fun _ => True) (bX3 cy h0) 2 16 := by
  refine k_enter (by decide) (Nat.le_of_ble_eq_true rfl) ?_
  intro p e s m below meth c A H locs S hr hlocks hin hA hK hC hP hD hS ls hl
  have hx := S.1
  have hb := S.2.1
  have hl : lv_has ls 1 [(0, .ref h0)] := hl
  refine lv_aload_n hx hb dX3_init_0 rfl (lv_at hl 0 rfl) ?_
  refine W.objInit S.1 S.2.1 S.2.2.2.1 (S.2.2.2.2 _ (List.mem_cons_of_mem _ q281)) (S.2.2.2.2 _ (List.mem_cons_of_mem _ q21)) (S.2.2.2.2 _ (List.mem_cons_of_mem _ q22)) rfl (by rw [S.2.2.1]; exact hl.1) rfl dX3_init_1 (Nat.le_of_ble_eq_true rfl) (Nat.le_of_ble_eq_true rfl) ?_
  refine W.eq (g2 := F0 m 4 ls []) rfl ?_
  refine lv_aload_n hx hb dX3_init_4 rfl (lv_at hl 0 rfl) ?_
  refine lv_bipush (v := 8) hx hb dX3_init_5 (by decide) ?_
  refine k_newi (N := 8) S hK hP hD hS hA (by decide) (by decide) (by decide) (Nat.le_of_ble_eq_true rfl) (Nat.le_of_ble_eq_true rfl) dX3_init_7 (fun qaa H hP hD hS => ?_)
  have hP : va_P D vwCl [(h0, .inr (3, [.null, .null, .int 0])), (qaa, .inl (cy 0, 8, .inl (fun _ => 0)))] H := hP
  have hD : va_D A [(h0, .inr (3, [.null, .null, .int 0])), (qaa, .inl (cy 0, 8, .inl (fun _ => 0)))] := hD
  refine va_putF (D := D) (ci := 3) (v := .ref qaa) (ty := .array .int) (C := RX3) (T := TX3) (N := 3) S.1 S.2.1 S.2.2.2.2 (fun w h => List.mem_cons_of_mem _ (inU3 w h)) tyX3 tyX3_ok nmX3 S.2.2.2.1 hK.1 hP hD hS 0 rfl rfl 0 (by decide) (S.2.2.2.2 _ (List.mem_cons_of_mem _ q282)) (fun _ h9 => h9) rfl hin rfl (by decide +kernel) rfl rfl (Nat.le_of_ble_eq_true rfl) dX3_init_9 (fun H locs hP hD hS => ?_)
  have hP : va_P D vwCl [(h0, .inr (3, [.ref qaa, .null, .int 0])), (qaa, .inl (cy 0, 8, .inl (fun _ => 0)))] H := hP
  have hD : va_D A [(h0, .inr (3, [.ref qaa, .null, .int 0])), (qaa, .inl (cy 0, 8, .inl (fun _ => 0)))] := hD
  refine lv_aload_n hx hb dX3_init_12 rfl (lv_at hl 0 rfl) ?_
  refine lv_bipush (v := 8) hx hb dX3_init_13 (by decide) ?_
  refine k_newi (N := 8) S hK hP hD hS hA (by decide) (by decide) (by decide) (Nat.le_of_ble_eq_true rfl) (Nat.le_of_ble_eq_true rfl) dX3_init_15 (fun qba H hP hD hS => ?_)
  have hP : va_P D vwCl [(h0, .inr (3, [.ref qaa, .null, .int 0])), (qaa, .inl (cy 0, 8, .inl (fun _ => 0))), (qba, .inl (cy 0, 8, .inl (fun _ => 0)))] H := hP
  have hD : va_D A [(h0, .inr (3, [.ref qaa, .null, .int 0])), (qaa, .inl (cy 0, 8, .inl (fun _ => 0))), (qba, .inl (cy 0, 8, .inl (fun _ => 0)))] := hD
  refine va_putF (D := D) (ci := 3) (v := .ref qba) (ty := .array .int) (C := RX3) (T := TX3) (N := 3) S.1 S.2.1 S.2.2.2.2 (fun w h => List.mem_cons_of_mem _ (inU3 w h)) tyX3 tyX3_ok nmX3 S.2.2.2.1 hK.1 hP hD hS 0 rfl rfl 1 (by decide) (S.2.2.2.2 _ (List.mem_cons_of_mem _ q283)) (fun _ h9 => h9) rfl hin rfl (by decide +kernel) rfl rfl (Nat.le_of_ble_eq_true rfl) dX3_init_17 (fun H locs hP hD hS => ?_)
  have hP : va_P D vwCl [(h0, .inr (3, [.ref qaa, .ref qba, .int 0])), (qaa, .inl (cy 0, 8, .inl (fun _ => 0))), (qba, .inl (cy 0, 8, .inl (fun _ => 0)))] H := hP
  have hD : va_D A [(h0, .inr (3, [.ref qaa, .ref qba, .int 0])), (qaa, .inl (cy 0, 8, .inl (fun _ => 0))), (qba, .inl (cy 0, 8, .inl (fun _ => 0)))] := hD
  exact k_vret (u := (fun i => match i with | 0 => qaa | 1 => qba | _ => 0)) hx hb hr hlocks trivial hP hD hS dX3_init_20
