theorem iX0_forget : YI yX0_forget cX0_forget 1 none 0 := ⟨q555, q9, by decide, by decide, by decide +kernel⟩
theorem vX0_forget : YV yX0_forget := ⟨q553, q554⟩
set_option maxRecDepth 100000 in
set_option maxHeartbeats 4000000 in
theorem c_X0_forget (l : Launch) (D : va_G) (cy : Nat → ClassId) (ad : Nat → Nat) (σ : St) (q : St) (hf : fX0_forget σ = some q) : Cv l D cy (wX cy ad) yX0_forget cX0_forget 1 0 0 [.ref (ad 8)] σ q 0 0 := by
  refine Cv.enter (by decide) (Nat.le_of_ble_eq_true rfl) ?_
  intro aw ac p e s m below meth c A H locs S hr hlocks hA hK hP hD hS ls hl
  have hx := S.1
  have hb := S.2.1
  have hl : lv_has ls 1 [(0, .ref (ad 8))] := hl
  unfold fX0_forget at hf
  refine lv_aload_n hx hb dX0_forget_0 rfl (lv_at hl 0 rfl) ?_
  refine lv_iconst (v := (-1 : Int32)) hx hb dX0_forget_1 (by decide) ?_
  refine pX_calendar_worstKnown S hK hP hD hS q248 dX0_forget_2 (fun H locs hP hD hS => ?_)
  exact u_vretw hx hb hr hlocks hP hD hS dX0_forget_5 hf (fun _ => rfl)
theorem iX0_setLight : YI yX0_setLight cX0_setLight 5 none 3 := ⟨q711, q9, by decide, by decide, by decide +kernel⟩
theorem vX0_setLight : YV yX0_setLight := ⟨q709, q710⟩
set_option maxRecDepth 100000 in
set_option maxHeartbeats 4000000 in
theorem c_X0_setLight (l : Launch) (D : va_G) (cy : Nat → ClassId) (ad : Nat → Nat) (σ : St) (v1 : Int32) (v2 : Int32) (v3 : Int32) (q : St) (hf : fX0_setLight σ v1 v2 v3 = some q) : Cv l D cy (wX cy ad) yX0_setLight cX0_setLight 5 0 0 [.ref (ad 8), .int v1, .int v2, .int v3] σ q 0 0 := by
  refine Cv.enter (by decide) (Nat.le_of_ble_eq_true rfl) ?_
  intro aw ac p e s m below meth c A H locs S hr hlocks hA hK hP hD hS ls hl
  have hx := S.1
  have hb := S.2.1
  have hl : lv_has ls 5 [(0, .ref (ad 8)), (1, .int v1), (2, .int v2), (3, .int v3)] := hl
  unfold fX0_setLight at hf
  refine lv_iload_n hx hb dX0_setLight_0 rfl (lv_at hl 1 rfl) ?_
  refine lv_istore (lv' := [(4, .int v1), (0, .ref (ad 8)), (1, .int v1), (2, .int v2), (3, .int v3)]) hx hb dX0_setLight_1 hl (by decide) rfl (fun ls hl => ?_)
  have L3 : ∀ (n3 : Nat) (v4_3 : Int32) (σ3 : St) (H : Heap) (locs : List Loc) (ls : Array Slot), fX0_setLight_3 (fX0_setLight_3_k v1 v2 v3) v1 v2 v3 n3 σ3 v4_3 = some q → va_P D vwCl (wX cy ad aw ac σ3) H → va_D A (wX cy ad aw ac σ3) → va_S A s.heap H locs → lv_has ls 5 [(0, .ref (ad 8)), (1, .int v1), (2, .int v2), (3, .int v3), (4, .int v4_3)] → W p l e (Rm 0 0 0 0) s m [.ref (ad 8), .int v1, .int v2, .int v3].toArray below meth c H locs 0 0 (Zv D (wX cy ad) A q aw ac below [.ref (ad 8), .int v1, .int v2, .int v3].toArray s 0 0) (F0 m 3 ls []) := by
    intro n3
    induction n3 with
    | zero =>
      intro v4_3 σ3 H locs ls hf
      cases hf
    | succ n3 ih3 =>
      intro v4_3 σ3 H locs ls hf hP hD hS hl
      rw [fX0_setLight_3] at hf
      refine lv_iload hx hb dX0_setLight_3 (lv_at hl 4 rfl) ?_
      refine lv_iload_n hx hb dX0_setLight_5 rfl (lv_at hl 2 rfl) ?_
      refine lv_icmp_gt (tgt := 30) hx hb dX0_setLight_6 (by decide) (fun c6 => ?_) (fun c6 => ?_)
      · have hf := ifp c6 hf
        have hl := lv_sub (l' := [(0, .ref (ad 8)), (1, .int v1), (2, .int v2), (3, .int v3), (4, .int v4_3)]) hl [0, 1, 2, 3, 4] rfl
        unfold fX0_setLight_3_k at hf
        exact u_vretw hx hb hr hlocks hP hD hS dX0_setLight_30 hf (fun _ => rfl)
      · have hf := ifn c6 hf
        refine lv_iload hx hb dX0_setLight_9 (lv_at hl 4 rfl) ?_
        refine lv_bipush (v := (80 : Int32)) hx hb dX0_setLight_11 (by decide) ?_
        refine lv_icmp_ge (tgt := 30) hx hb dX0_setLight_13 (by decide) (fun c13 => ?_) (fun c13 => ?_)
        · have hf := ifp c13 hf
          have hl := lv_sub (l' := [(0, .ref (ad 8)), (1, .int v1), (2, .int v2), (3, .int v3), (4, .int v4_3)]) hl [0, 1, 2, 3, 4] rfl
          unfold fX0_setLight_3_k at hf
          exact u_vretw hx hb hr hlocks hP hD hS dX0_setLight_30 hf (fun _ => rfl)
        · have hf := ifn c13 hf
          refine lv_aload_n hx hb dX0_setLight_16 rfl (lv_at hl 0 rfl) ?_
          refine gX_calendar_lights S hK hP q238 dX0_setLight_17 ?_
          refine lv_iload hx hb dX0_setLight_20 (lv_at hl 4 rfl) ?_
          refine lv_iload_n hx hb dX0_setLight_22 rfl (lv_at hl 3 rfl) ?_
          obtain ⟨h23, hf⟩ := if_in hf
          refine tX_36 S hK hP hD hS h23 dX0_setLight_23 (fun H locs hP hD hS => ?_)
          refine lv_iinc (v := (v4_3 + (1 : Int32))) (lv' := [(4, .int (v4_3 + (1 : Int32))), (0, .ref (ad 8)), (1, .int v1), (2, .int v2), (3, .int v3)]) hx hb dX0_setLight_24 hl (k := 4) rfl rfl (by decide) rfl (fun ls hl => ?_)
          refine lv_goto (tgt := 3) hx hb dX0_setLight_27 (by decide) ?_
          exact ih3 (v4_3 + (1 : Int32)) (sa σ3 36 v4_3.toNatClampNeg v3) H locs ls hf hP hD hS (lv_sub hl [1, 2, 3, 4, 0] rfl)
  exact L3 KF v1 σ H locs ls hf hP hD hS (lv_sub hl [1, 2, 3, 4, 0] rfl)
theorem iX0_frostDays : YI yX0_frostDays cX0_frostDays 3 (some .int) 0 := ⟨q889, q9, by decide, by decide, by decide +kernel⟩
theorem vX0_frostDays : YV yX0_frostDays := ⟨q887, q888⟩
set_option maxRecDepth 100000 in
set_option maxHeartbeats 4000000 in
theorem c_X0_frostDays (l : Launch) (D : va_G) (cy : Nat → ClassId) (ad : Nat → Nat) (σ : St) (r : Int32) (hf : fX0_frostDays σ = some r) : Ci l D cy (wX cy ad) yX0_frostDays cX0_frostDays 3 .int 0 0 [.ref (ad 8)] σ r σ 0 0 := by
  refine Ci.enter (by decide) (Nat.le_of_ble_eq_true rfl) ?_
  intro aw ac p e s m below meth c A H locs S hr hlocks hA hK hP hD hS ls hl
  have hx := S.1
  have hb := S.2.1
  have hl : lv_has ls 3 [(0, .ref (ad 8))] := hl
  unfold fX0_frostDays at hf
  refine lv_iconst (v := (0 : Int32)) hx hb dX0_frostDays_0 (by decide) ?_
  refine lv_istore_n (lv' := [(1, .int (0 : Int32)), (0, .ref (ad 8))]) hx hb dX0_frostDays_1 rfl hl (by decide) rfl (fun ls hl => ?_)
  refine lv_iconst (v := (0 : Int32)) hx hb dX0_frostDays_2 (by decide) ?_
  refine lv_istore_n (lv' := [(2, .int (0 : Int32)), (1, .int (0 : Int32)), (0, .ref (ad 8))]) hx hb dX0_frostDays_3 rfl hl (by decide) rfl (fun ls hl => ?_)
  have L4 : ∀ (n4 : Nat) (v1_4 : Int32) (v2_4 : Int32) (H : Heap) (locs : List Loc) (ls : Array Slot), fX0_frostDays_4 (fX0_frostDays_4_k σ) σ n4 v1_4 v2_4 = some r → va_P D vwCl (wX cy ad aw ac σ) H → va_D A (wX cy ad aw ac σ) → va_S A s.heap H locs → lv_has ls 3 [(0, .ref (ad 8)), (1, .int v1_4), (2, .int v2_4)] → W p l e (Rm 0 0 0 0) s m [.ref (ad 8)].toArray below meth c H locs 0 0 (Zi D (wX cy ad) A r σ aw ac below [.ref (ad 8)].toArray s 0 0) (F0 m 4 ls []) := by
    intro n4
    induction n4 with
    | zero =>
      intro v1_4 v2_4 H locs ls hf
      cases hf
    | succ n4 ih4 =>
      intro v1_4 v2_4 H locs ls hf hP hD hS hl
      rw [fX0_frostDays_4] at hf
      refine lv_iload_n hx hb dX0_frostDays_4 rfl (lv_at hl 2 rfl) ?_
      refine lv_bipush (v := (80 : Int32)) hx hb dX0_frostDays_5 (by decide) ?_
      refine lv_icmp_ge (tgt := 33) hx hb dX0_frostDays_7 (by decide) (fun c7 => ?_) (fun c7 => ?_)
      · have hf := ifp c7 hf
        have hl := lv_sub (l' := [(0, .ref (ad 8)), (1, .int v1_4), (2, .int v2_4)]) hl [0, 1, 2] rfl
        unfold fX0_frostDays_4_k at hf
        refine lv_iload_n hx hb dX0_frostDays_33 rfl (lv_at hl 1 rfl) ?_
        exact u_iretr hx hb hr hlocks rfl hP hD hS dX0_frostDays_34 hf (fun _ => rfl)
      · have hf := ifn c7 hf
        refine lv_iload_n hx hb dX0_frostDays_10 rfl (lv_at hl 1 rfl) ?_
        refine lv_aload_n hx hb dX0_frostDays_11 rfl (lv_at hl 0 rfl) ?_
        refine gX_calendar_frozen S hK hP q239 dX0_frostDays_12 ?_
        refine lv_iload_n hx hb dX0_frostDays_15 rfl (lv_at hl 2 rfl) ?_
        obtain ⟨h16, hf⟩ := if_in hf
        refine lX_37 S hK hP h16 dX0_frostDays_16 ?_
        refine lv_if_eq (tgt := 24) hx hb dX0_frostDays_17 (by decide) (fun c17 => ?_) (fun c17 => ?_)
        · have hf := ifp c17 hf
          refine lv_iconst (v := (0 : Int32)) hx hb dX0_frostDays_24 (by decide) ?_
          refine lv_iadd hx hb dX0_frostDays_25 ?_
          refine lv_istore_n (lv' := [(1, .int (v1_4 + (0 : Int32))), (0, .ref (ad 8)), (2, .int v2_4)]) hx hb dX0_frostDays_26 rfl hl (by decide) rfl (fun ls hl => ?_)
          refine lv_iinc (v := (v2_4 + (1 : Int32))) (lv' := [(2, .int (v2_4 + (1 : Int32))), (1, .int (v1_4 + (0 : Int32))), (0, .ref (ad 8))]) hx hb dX0_frostDays_27 hl (k := 2) rfl rfl (by decide) rfl (fun ls hl => ?_)
          refine lv_goto (tgt := 4) hx hb dX0_frostDays_30 (by decide) ?_
          exact ih4 (v1_4 + (0 : Int32)) (v2_4 + (1 : Int32)) H locs ls hf hP hD hS (lv_sub hl [2, 1, 0] rfl)
        · have hf := ifn c17 hf
          refine lv_iconst (v := (1 : Int32)) hx hb dX0_frostDays_20 (by decide) ?_
          refine lv_goto (tgt := 25) hx hb dX0_frostDays_21 (by decide) ?_
          refine lv_iadd hx hb dX0_frostDays_25 ?_
          refine lv_istore_n (lv' := [(1, .int (v1_4 + (1 : Int32))), (0, .ref (ad 8)), (2, .int v2_4)]) hx hb dX0_frostDays_26 rfl hl (by decide) rfl (fun ls hl => ?_)
          refine lv_iinc (v := (v2_4 + (1 : Int32))) (lv' := [(2, .int (v2_4 + (1 : Int32))), (1, .int (v1_4 + (1 : Int32))), (0, .ref (ad 8))]) hx hb dX0_frostDays_27 hl (k := 2) rfl rfl (by decide) rfl (fun ls hl => ?_)
          refine lv_goto (tgt := 4) hx hb dX0_frostDays_30 (by decide) ?_
          exact ih4 (v1_4 + (1 : Int32)) (v2_4 + (1 : Int32)) H locs ls hf hP hD hS (lv_sub hl [2, 1, 0] rfl)
  exact L4 KF (0 : Int32) (0 : Int32) H locs ls hf hP hD hS (lv_sub hl [2, 1, 0] rfl)
theorem iX0_worstDay : YI yX0_worstDay cX0_worstDay 2 (some .int) 1 := ⟨q778, q9, by decide, by decide, by decide +kernel⟩
theorem vX0_worstDay : YV yX0_worstDay := ⟨q776, q777⟩
set_option maxRecDepth 100000 in
set_option maxHeartbeats 4000000 in
theorem c_X0_worstDay (l : Launch) (D : va_G) (cy : Nat → ClassId) (ad : Nat → Nat) (σ : St) (v1 : Int32) (r : Int32) (hf : fX0_worstDay σ v1 = some r) : Ci l D cy (wX cy ad) yX0_worstDay cX0_worstDay 2 .int 0 0 [.ref (ad 8), .int v1] σ r σ 0 0 := by
  refine Ci.enter (by decide) (Nat.le_of_ble_eq_true rfl) ?_
  intro aw ac p e s m below meth c A H locs S hr hlocks hA hK hP hD hS ls hl
  have hx := S.1
  have hb := S.2.1
  have hl : lv_has ls 2 [(0, .ref (ad 8)), (1, .int v1)] := hl
  unfold fX0_worstDay at hf
  refine lv_aload_n hx hb dX0_worstDay_0 rfl (lv_at hl 0 rfl) ?_
  refine gX_calendar_worstEnd S hK hP q249 dX0_worstDay_1 ?_
  refine lv_iconst (v := (-1 : Int32)) hx hb dX0_worstDay_4 (by decide) ?_
  refine lv_icmp_eq (tgt := 16) hx hb dX0_worstDay_5 (by decide) (fun c5 => ?_) (fun c5 => ?_)
  · have hf := ifp c5 hf
    refine lv_iconst (v := (-1 : Int32)) hx hb dX0_worstDay_16 (by decide) ?_
    exact u_iretr hx hb hr hlocks rfl hP hD hS dX0_worstDay_17 hf (fun _ => rfl)
  · have hf := ifn c5 hf
    refine lv_iload_n hx hb dX0_worstDay_8 rfl (lv_at hl 1 rfl) ?_
    refine lv_aload_n hx hb dX0_worstDay_9 rfl (lv_at hl 0 rfl) ?_
    refine gX_calendar_worstKnown S hK hP q248 dX0_worstDay_10 ?_
    refine lv_icmp_lt (tgt := 18) hx hb dX0_worstDay_13 (by decide) (fun c13 => ?_) (fun c13 => ?_)
    · have hf := ifp c13 hf
      refine lv_iload_n hx hb dX0_worstDay_18 rfl (lv_at hl 1 rfl) ?_
      refine lv_if_ne (tgt := 29) hx hb dX0_worstDay_19 (by decide) (fun c19 => ?_) (fun c19 => ?_)
      · have hf := ifn c19 hf
        refine lv_aload_n hx hb dX0_worstDay_29 rfl (lv_at hl 0 rfl) ?_
        refine gX_calendar_worstSecond S hK hP q252 dX0_worstDay_30 ?_
        exact u_iretr hx hb hr hlocks rfl hP hD hS dX0_worstDay_33 hf (fun _ => rfl)
      · have hf := ifp c19 hf
        refine lv_aload_n hx hb dX0_worstDay_22 rfl (lv_at hl 0 rfl) ?_
        refine gX_calendar_worstFirst S hK hP q251 dX0_worstDay_23 ?_
        refine lv_goto (tgt := 33) hx hb dX0_worstDay_26 (by decide) ?_
        exact u_iretr hx hb hr hlocks rfl hP hD hS dX0_worstDay_33 hf (fun _ => rfl)
    · have hf := ifn c13 hf
      refine lv_iconst (v := (-1 : Int32)) hx hb dX0_worstDay_16 (by decide) ?_
      exact u_iretr hx hb hr hlocks rfl hP hD hS dX0_worstDay_17 hf (fun _ => rfl)
theorem iX0_countThawed : YI yX0_countThawed cX0_countThawed 5 none 2 := ⟨q736, q9, by decide, by decide, by decide +kernel⟩
theorem vX0_countThawed : YV yX0_countThawed := ⟨q735, qs16⟩
set_option maxRecDepth 100000 in
set_option maxHeartbeats 4000000 in
theorem c_X0_countThawed (l : Launch) (D : va_G) (cy : Nat → ClassId) (ad : Nat → Nat) (σ : St) (v1 : Int32) (v2 : Int32) (q : St) (hf : fX0_countThawed σ v1 v2 = some q) : Cv l D cy (wX cy ad) yX0_countThawed cX0_countThawed 5 0 0 [.ref (ad 8), .int v1, .int v2] σ q 0 0 := by
  refine Cv.enter (by decide) (Nat.le_of_ble_eq_true rfl) ?_
  intro aw ac p e s m below meth c A H locs S hr hlocks hA hK hP hD hS ls hl
  have hx := S.1
  have hb := S.2.1
  have hl : lv_has ls 5 [(0, .ref (ad 8)), (1, .int v1), (2, .int v2)] := hl
  unfold fX0_countThawed at hf
  refine lv_iconst (v := (0 : Int32)) hx hb dX0_countThawed_0 (by decide) ?_
  refine lv_istore_n (lv' := [(3, .int (0 : Int32)), (0, .ref (ad 8)), (1, .int v1), (2, .int v2)]) hx hb dX0_countThawed_1 rfl hl (by decide) rfl (fun ls hl => ?_)
  have L2 : ∀ (n2 : Nat) (v3_2 : Int32) (σ2 : St) (H : Heap) (locs : List Loc) (ls : Array Slot), fX0_countThawed_2 (fX0_countThawed_2_k v1 v2) v1 v2 n2 σ2 v3_2 = some q → va_P D vwCl (wX cy ad aw ac σ2) H → va_D A (wX cy ad aw ac σ2) → va_S A s.heap H locs → lv_has ls 5 [(0, .ref (ad 8)), (1, .int v1), (2, .int v2), (3, .int v3_2)] → W p l e (Rm 0 0 0 0) s m [.ref (ad 8), .int v1, .int v2].toArray below meth c H locs 0 0 (Zv D (wX cy ad) A q aw ac below [.ref (ad 8), .int v1, .int v2].toArray s 0 0) (F0 m 2 ls []) := by
    intro n2
    induction n2 with
    | zero =>
      intro v3_2 σ2 H locs ls hf
      cases hf
    | succ n2 ih2 =>
      intro v3_2 σ2 H locs ls hf hP hD hS hl
      rw [fX0_countThawed_2] at hf
      refine lv_iload_n hx hb dX0_countThawed_2 rfl (lv_at hl 3 rfl) ?_
      refine lv_bipush (v := (80 : Int32)) hx hb dX0_countThawed_3 (by decide) ?_
      refine lv_icmp_ge (tgt := 65) hx hb dX0_countThawed_5 (by decide) (fun c5 => ?_) (fun c5 => ?_)
      · have hf := ifp c5 hf
        have hl := lv_sub (l' := [(0, .ref (ad 8)), (1, .int v1), (2, .int v2), (3, .int v3_2)]) hl [0, 1, 2, 3] rfl
        unfold fX0_countThawed_2_k at hf
        exact u_vretw hx hb hr hlocks hP hD hS dX0_countThawed_65 hf (fun _ => rfl)
      · have hf := ifn c5 hf
        refine lv_aload_n hx hb dX0_countThawed_8 rfl (lv_at hl 0 rfl) ?_
        refine gX_calendar_frozen S hK hP q239 dX0_countThawed_9 ?_
        refine lv_iload_n hx hb dX0_countThawed_12 rfl (lv_at hl 3 rfl) ?_
        obtain ⟨h13, hf⟩ := if_in hf
        refine lX_37 S hK hP h13 dX0_countThawed_13 ?_
        refine lv_if_ne (tgt := 27) hx hb dX0_countThawed_14 (by decide) (fun c14 => ?_) (fun c14 => ?_)
        · have hf := ifn c14 hf
          refine lv_iconst (v := (1 : Int32)) hx hb dX0_countThawed_27 (by decide) ?_
          refine lv_goto (tgt := 32) hx hb dX0_countThawed_28 (by decide) ?_
          refine lv_istore (lv' := [(4, .int (1 : Int32)), (0, .ref (ad 8)), (1, .int v1), (2, .int v2), (3, .int v3_2)]) hx hb dX0_countThawed_32 hl (by decide) rfl (fun ls hl => ?_)
          refine lv_aload_n hx hb dX0_countThawed_34 rfl (lv_at hl 1 rfl) ?_
          refine gX_calendar_thawed S hK hP q243 dX0_countThawed_35 ?_
          refine lv_iload_n hx hb dX0_countThawed_38 rfl (lv_at hl 4 rfl) ?_
          refine lv_iconst (v := (1 : Int32)) hx hb dX0_countThawed_39 (by decide) ?_
          refine lv_iadd hx hb dX0_countThawed_40 ?_
          refine lv_aload_n hx hb dX0_countThawed_41 rfl (lv_at hl 1 rfl) ?_
          refine gX_calendar_thawed S hK hP q243 dX0_countThawed_42 ?_
          refine lv_iload_n hx hb dX0_countThawed_45 rfl (lv_at hl 4 rfl) ?_
          obtain ⟨h46, hf⟩ := if_in hf
          refine lX_38 S hK hP h46 dX0_countThawed_46 ?_
          refine lv_iload hx hb dX0_countThawed_47 (lv_at hl 0 rfl) ?_
          refine lv_if_eq (tgt := 56) hx hb dX0_countThawed_49 (by decide) (fun c_ => absurd c_ (by decide)) (fun _ => ?_)
          refine lv_iconst (v := (0 : Int32)) hx hb dX0_countThawed_52 (by decide) ?_
          refine lv_goto (tgt := 57) hx hb dX0_countThawed_53 (by decide) ?_
          refine lv_iadd hx hb dX0_countThawed_57 ?_
          obtain ⟨h58, hf⟩ := if_in hf
          refine tX_38 S hK hP hD hS h58 dX0_countThawed_58 (fun H locs hP hD hS => ?_)
          refine lv_iinc (v := (v3_2 + (1 : Int32))) (lv' := [(3, .int (v3_2 + (1 : Int32))), (4, .int (1 : Int32)), (0, .ref (ad 8)), (1, .int v1), (2, .int v2)]) hx hb dX0_countThawed_59 hl (k := 4) rfl rfl (by decide) rfl (fun ls hl => ?_)
          refine lv_goto (tgt := 2) hx hb dX0_countThawed_62 (by decide) ?_
          exact ih2 (v3_2 + (1 : Int32)) (sa σ2 38 (v3_2 + (1 : Int32)).toNatClampNeg ((ga σ2 38 v3_2.toNatClampNeg) + (0 : Int32))) H locs ls hf hP hD hS (lv_sub hl [2, 3, 4, 0] rfl)
        · have hf := ifp c14 hf
          refine lv_iload_n hx hb dX0_countThawed_17 rfl (lv_at hl 3 rfl) ?_
          refine lv_iload_n hx hb dX0_countThawed_18 rfl (lv_at hl 1 rfl) ?_
          refine lv_icmp_eq (tgt := 27) hx hb dX0_countThawed_19 (by decide) (fun c19 => ?_) (fun c19 => ?_)
          · have hf := ifp c19 hf
            refine lv_iconst (v := (1 : Int32)) hx hb dX0_countThawed_27 (by decide) ?_
            refine lv_goto (tgt := 32) hx hb dX0_countThawed_28 (by decide) ?_
            refine lv_istore (lv' := [(4, .int (1 : Int32)), (0, .ref (ad 8)), (1, .int v1), (2, .int v2), (3, .int v3_2)]) hx hb dX0_countThawed_32 hl (by decide) rfl (fun ls hl => ?_)
            refine lv_aload_n hx hb dX0_countThawed_34 rfl (lv_at hl 1 rfl) ?_
            refine gX_calendar_thawed S hK hP q243 dX0_countThawed_35 ?_
            refine lv_iload_n hx hb dX0_countThawed_38 rfl (lv_at hl 4 rfl) ?_
            refine lv_iconst (v := (1 : Int32)) hx hb dX0_countThawed_39 (by decide) ?_
            refine lv_iadd hx hb dX0_countThawed_40 ?_
            refine lv_aload_n hx hb dX0_countThawed_41 rfl (lv_at hl 1 rfl) ?_
            refine gX_calendar_thawed S hK hP q243 dX0_countThawed_42 ?_
            refine lv_iload_n hx hb dX0_countThawed_45 rfl (lv_at hl 4 rfl) ?_
            obtain ⟨h46, hf⟩ := if_in hf
            refine lX_38 S hK hP h46 dX0_countThawed_46 ?_
            refine lv_iload hx hb dX0_countThawed_47 (lv_at hl 0 rfl) ?_
            refine lv_if_eq (tgt := 56) hx hb dX0_countThawed_49 (by decide) (fun c_ => absurd c_ (by decide)) (fun _ => ?_)
            refine lv_iconst (v := (0 : Int32)) hx hb dX0_countThawed_52 (by decide) ?_
            refine lv_goto (tgt := 57) hx hb dX0_countThawed_53 (by decide) ?_
            refine lv_iadd hx hb dX0_countThawed_57 ?_
            obtain ⟨h58, hf⟩ := if_in hf
            refine tX_38 S hK hP hD hS h58 dX0_countThawed_58 (fun H locs hP hD hS => ?_)
            refine lv_iinc (v := (v3_2 + (1 : Int32))) (lv' := [(3, .int (v3_2 + (1 : Int32))), (4, .int (1 : Int32)), (0, .ref (ad 8)), (1, .int v1), (2, .int v2)]) hx hb dX0_countThawed_59 hl (k := 4) rfl rfl (by decide) rfl (fun ls hl => ?_)
            refine lv_goto (tgt := 2) hx hb dX0_countThawed_62 (by decide) ?_
            exact ih2 (v3_2 + (1 : Int32)) (sa σ2 38 (v3_2 + (1 : Int32)).toNatClampNeg ((ga σ2 38 v3_2.toNatClampNeg) + (0 : Int32))) H locs ls hf hP hD hS (lv_sub hl [2, 3, 4, 0] rfl)
          · have hf := ifn c19 hf
            refine lv_iload_n hx hb dX0_countThawed_22 rfl (lv_at hl 3 rfl) ?_
            refine lv_iload_n hx hb dX0_countThawed_23 rfl (lv_at hl 2 rfl) ?_
            refine lv_icmp_ne (tgt := 31) hx hb dX0_countThawed_24 (by decide) (fun c24 => ?_) (fun c24 => ?_)
            · have hf := ifn c24 hf
              refine lv_iconst (v := (0 : Int32)) hx hb dX0_countThawed_31 (by decide) ?_
              refine lv_istore (lv' := [(4, .int (0 : Int32)), (0, .ref (ad 8)), (1, .int v1), (2, .int v2), (3, .int v3_2)]) hx hb dX0_countThawed_32 hl (by decide) rfl (fun ls hl => ?_)
              refine lv_aload_n hx hb dX0_countThawed_34 rfl (lv_at hl 1 rfl) ?_
              refine gX_calendar_thawed S hK hP q243 dX0_countThawed_35 ?_
              refine lv_iload_n hx hb dX0_countThawed_38 rfl (lv_at hl 4 rfl) ?_
              refine lv_iconst (v := (1 : Int32)) hx hb dX0_countThawed_39 (by decide) ?_
              refine lv_iadd hx hb dX0_countThawed_40 ?_
              refine lv_aload_n hx hb dX0_countThawed_41 rfl (lv_at hl 1 rfl) ?_
              refine gX_calendar_thawed S hK hP q243 dX0_countThawed_42 ?_
              refine lv_iload_n hx hb dX0_countThawed_45 rfl (lv_at hl 4 rfl) ?_
              obtain ⟨h46, hf⟩ := if_in hf
              refine lX_38 S hK hP h46 dX0_countThawed_46 ?_
              refine lv_iload hx hb dX0_countThawed_47 (lv_at hl 0 rfl) ?_
              refine lv_if_eq (tgt := 56) hx hb dX0_countThawed_49 (by decide) (fun _ => ?_) (fun c_ => absurd c_ (by decide))
              refine lv_iconst (v := (1 : Int32)) hx hb dX0_countThawed_56 (by decide) ?_
              refine lv_iadd hx hb dX0_countThawed_57 ?_
              obtain ⟨h58, hf⟩ := if_in hf
              refine tX_38 S hK hP hD hS h58 dX0_countThawed_58 (fun H locs hP hD hS => ?_)
              refine lv_iinc (v := (v3_2 + (1 : Int32))) (lv' := [(3, .int (v3_2 + (1 : Int32))), (4, .int (0 : Int32)), (0, .ref (ad 8)), (1, .int v1), (2, .int v2)]) hx hb dX0_countThawed_59 hl (k := 4) rfl rfl (by decide) rfl (fun ls hl => ?_)
              refine lv_goto (tgt := 2) hx hb dX0_countThawed_62 (by decide) ?_
              exact ih2 (v3_2 + (1 : Int32)) (sa σ2 38 (v3_2 + (1 : Int32)).toNatClampNeg ((ga σ2 38 v3_2.toNatClampNeg) + (1 : Int32))) H locs ls hf hP hD hS (lv_sub hl [2, 3, 4, 0] rfl)
            · have hf := ifp c24 hf
              refine lv_iconst (v := (1 : Int32)) hx hb dX0_countThawed_27 (by decide) ?_
              refine lv_goto (tgt := 32) hx hb dX0_countThawed_28 (by decide) ?_
              refine lv_istore (lv' := [(4, .int (1 : Int32)), (0, .ref (ad 8)), (1, .int v1), (2, .int v2), (3, .int v3_2)]) hx hb dX0_countThawed_32 hl (by decide) rfl (fun ls hl => ?_)
              refine lv_aload_n hx hb dX0_countThawed_34 rfl (lv_at hl 1 rfl) ?_
              refine gX_calendar_thawed S hK hP q243 dX0_countThawed_35 ?_
              refine lv_iload_n hx hb dX0_countThawed_38 rfl (lv_at hl 4 rfl) ?_
              refine lv_iconst (v := (1 : Int32)) hx hb dX0_countThawed_39 (by decide) ?_
              refine lv_iadd hx hb dX0_countThawed_40 ?_
              refine lv_aload_n hx hb dX0_countThawed_41 rfl (lv_at hl 1 rfl) ?_
              refine gX_calendar_thawed S hK hP q243 dX0_countThawed_42 ?_
              refine lv_iload_n hx hb dX0_countThawed_45 rfl (lv_at hl 4 rfl) ?_
              obtain ⟨h46, hf⟩ := if_in hf
              refine lX_38 S hK hP h46 dX0_countThawed_46 ?_
              refine lv_iload hx hb dX0_countThawed_47 (lv_at hl 0 rfl) ?_
              refine lv_if_eq (tgt := 56) hx hb dX0_countThawed_49 (by decide) (fun c_ => absurd c_ (by decide)) (fun _ => ?_)
              refine lv_iconst (v := (0 : Int32)) hx hb dX0_countThawed_52 (by decide) ?_
              refine lv_goto (tgt := 57) hx hb dX0_countThawed_53 (by decide) ?_
              refine lv_iadd hx hb dX0_countThawed_57 ?_
              obtain ⟨h58, hf⟩ := if_in hf
              refine tX_38 S hK hP hD hS h58 dX0_countThawed_58 (fun H locs hP hD hS => ?_)
              refine lv_iinc (v := (v3_2 + (1 : Int32))) (lv' := [(3, .int (v3_2 + (1 : Int32))), (4, .int (1 : Int32)), (0, .ref (ad 8)), (1, .int v1), (2, .int v2)]) hx hb dX0_countThawed_59 hl (k := 4) rfl rfl (by decide) rfl (fun ls hl => ?_)
              refine lv_goto (tgt := 2) hx hb dX0_countThawed_62 (by decide) ?_
              exact ih2 (v3_2 + (1 : Int32)) (sa σ2 38 (v3_2 + (1 : Int32)).toNatClampNeg ((ga σ2 38 v3_2.toNatClampNeg) + (0 : Int32))) H locs ls hf hP hD hS (lv_sub hl [2, 3, 4, 0] rfl)
  exact L2 KF (0 : Int32) σ H locs ls hf hP hD hS (lv_sub hl [1, 2, 3, 0] rfl)
theorem iX0_workOn : YI yX0_workOn cX0_workOn 2 (some .int) 1 := ⟨q740, q9, by decide, by decide, by decide +kernel⟩
theorem vX0_workOn : YV yX0_workOn := ⟨q739, qs17⟩
set_option maxRecDepth 100000 in
set_option maxHeartbeats 4000000 in
theorem c_X0_workOn (l : Launch) (D : va_G) (cy : Nat → ClassId) (ad : Nat → Nat) (σ : St) (v1 : Int32) (r : Int32) (hf : fX0_workOn σ v1 = some r) : Ci l D cy (wX cy ad) yX0_workOn cX0_workOn 2 .int 0 0 [.ref (ad 8), .int v1] σ r σ 0 0 := by
  refine Ci.enter (by decide) (Nat.le_of_ble_eq_true rfl) ?_
  intro aw ac p e s m below meth c A H locs S hr hlocks hA hK hP hD hS ls hl
  have hx := S.1
  have hb := S.2.1
  have hl : lv_has ls 2 [(0, .ref (ad 8)), (1, .int v1)] := hl
  unfold fX0_workOn at hf
  refine lv_iload_n hx hb dX0_workOn_0 rfl (lv_at hl 1 rfl) ?_
  refine lv_bipush (v := (80 : Int32)) hx hb dX0_workOn_1 (by decide) ?_
  refine lv_icmp_ge (tgt := 32) hx hb dX0_workOn_3 (by decide) (fun c3 => ?_) (fun c3 => ?_)
  · have hf := ifp c3 hf
    refine lv_iconst (v := (0 : Int32)) hx hb dX0_workOn_32 (by decide) ?_
    exact u_iretr hx hb hr hlocks rfl hP hD hS dX0_workOn_33 hf (fun _ => rfl)
  · have hf := ifn c3 hf
    refine lv_aload_n hx hb dX0_workOn_6 rfl (lv_at hl 0 rfl) ?_
    refine gX_calendar_thawed S hK hP q243 dX0_workOn_7 ?_
    refine lv_iload_n hx hb dX0_workOn_10 rfl (lv_at hl 1 rfl) ?_
    refine lv_iconst (v := (1 : Int32)) hx hb dX0_workOn_11 (by decide) ?_
    refine lv_iadd hx hb dX0_workOn_12 ?_
    obtain ⟨h13, hf⟩ := if_in hf
    refine lX_38 S hK hP h13 dX0_workOn_13 ?_
    refine lv_aload_n hx hb dX0_workOn_14 rfl (lv_at hl 0 rfl) ?_
    refine gX_calendar_thawed S hK hP q243 dX0_workOn_15 ?_
    refine lv_iload_n hx hb dX0_workOn_18 rfl (lv_at hl 1 rfl) ?_
    obtain ⟨h19, hf⟩ := if_in hf
    refine lX_38 S hK hP h19 dX0_workOn_19 ?_
    refine lv_icmp_le (tgt := 32) hx hb dX0_workOn_20 (by decide) (fun c20 => ?_) (fun c20 => ?_)
    · have hf := ifp c20 hf
      refine lv_iconst (v := (0 : Int32)) hx hb dX0_workOn_32 (by decide) ?_
      exact u_iretr hx hb hr hlocks rfl hP hD hS dX0_workOn_33 hf (fun _ => rfl)
    · have hf := ifn c20 hf
      refine lv_aload_n hx hb dX0_workOn_23 rfl (lv_at hl 0 rfl) ?_
      refine gX_calendar_lights S hK hP q238 dX0_workOn_24 ?_
      refine lv_iload_n hx hb dX0_workOn_27 rfl (lv_at hl 1 rfl) ?_
      obtain ⟨h28, hf⟩ := if_in hf
      refine lX_36 S hK hP h28 dX0_workOn_28 ?_
      refine lv_goto (tgt := 33) hx hb dX0_workOn_29 (by decide) ?_
      exact u_iretr hx hb hr hlocks rfl hP hD hS dX0_workOn_33 hf (fun _ => rfl)
theorem iX0_lastBed : YI yX0_lastBed cX0_lastBed 4 (some .int) 1 := ⟨q744, q9, by decide, by decide, by decide +kernel⟩
theorem vX0_lastBed : YV yX0_lastBed := ⟨q743, qs18⟩
set_option maxRecDepth 100000 in
set_option maxHeartbeats 4000000 in
theorem c_X0_lastBed (l : Launch) (D : va_G) (cy : Nat → ClassId) (ad : Nat → Nat) (σ : St) (v1 : Int32) (r : Int32) (hf : fX0_lastBed σ v1 = some r) : Ci l D cy (wX cy ad) yX0_lastBed cX0_lastBed 4 .int 1 21 [.ref (ad 8), .int v1] σ r σ 0 0 := by
  refine Ci.enter (by decide) (Nat.le_of_ble_eq_true rfl) ?_
  intro aw ac p e s m below meth c A H locs S hr hlocks hA hK hP hD hS ls hl
  have hx := S.1
  have hb := S.2.1
  have hl : lv_has ls 4 [(0, .ref (ad 8)), (1, .int v1)] := hl
  unfold fX0_lastBed at hf
  refine lv_iconst (v := (-1 : Int32)) hx hb dX0_lastBed_0 (by decide) ?_
  refine lv_istore_n (lv' := [(2, .int (-1 : Int32)), (0, .ref (ad 8)), (1, .int v1)]) hx hb dX0_lastBed_1 rfl hl (by decide) rfl (fun ls hl => ?_)
  refine lv_iconst (v := (0 : Int32)) hx hb dX0_lastBed_2 (by decide) ?_
  refine lv_istore_n (lv' := [(3, .int (0 : Int32)), (2, .int (-1 : Int32)), (0, .ref (ad 8)), (1, .int v1)]) hx hb dX0_lastBed_3 rfl hl (by decide) rfl (fun ls hl => ?_)
  have L4 : ∀ (n4 : Nat) (v2_4 : Int32) (v3_4 : Int32) (H : Heap) (locs : List Loc) (ls : Array Slot), fX0_lastBed_4 (fX0_lastBed_4_k σ v1) σ v1 n4 v2_4 v3_4 = some r → va_P D vwCl (wX cy ad aw ac σ) H → va_D A (wX cy ad aw ac σ) → va_S A s.heap H locs → lv_has ls 4 [(0, .ref (ad 8)), (1, .int v1), (2, .int v2_4), (3, .int v3_4)] → W p l e (Rm 1 21 0 0) s m [.ref (ad 8), .int v1].toArray below meth c H locs 0 0 (Zi D (wX cy ad) A r σ aw ac below [.ref (ad 8), .int v1].toArray s 0 0) (F0 m 4 ls []) := by
    intro n4
    induction n4 with
    | zero =>
      intro v2_4 v3_4 H locs ls hf
      cases hf
    | succ n4 ih4 =>
      intro v2_4 v3_4 H locs ls hf hP hD hS hl
      rw [fX0_lastBed_4] at hf
      refine lv_iload_n hx hb dX0_lastBed_4 rfl (lv_at hl 3 rfl) ?_
      refine lv_aload_n hx hb dX0_lastBed_5 rfl (lv_at hl 0 rfl) ?_
      refine gX_calendar_stones S hK hP q237 dX0_lastBed_6 ?_
      refine gX_stones_size S hK hP q134 dX0_lastBed_9 ?_
      refine lv_icmp_ge (tgt := 49) hx hb dX0_lastBed_12 (by decide) (fun c12 => ?_) (fun c12 => ?_)
      · have hf := ifp c12 hf
        have hl := lv_sub (l' := [(0, .ref (ad 8)), (1, .int v1), (2, .int v2_4), (3, .int v3_4)]) hl [0, 1, 2, 3] rfl
        unfold fX0_lastBed_4_k at hf
        refine lv_iload_n hx hb dX0_lastBed_49 rfl (lv_at hl 2 rfl) ?_
        exact u_iretr hx hb hr hlocks rfl hP hD hS dX0_lastBed_50 hf (fun _ => rfl)
      · have hf := ifn c12 hf
        refine lv_aload_n hx hb dX0_lastBed_15 rfl (lv_at hl 0 rfl) ?_
        refine gX_calendar_stones S hK hP q237 dX0_lastBed_16 ?_
        refine gX_stones_rests S hK hP q128 dX0_lastBed_19 ?_
        refine lv_iload_n hx hb dX0_lastBed_22 rfl (lv_at hl 1 rfl) ?_
        obtain ⟨h23, hf⟩ := if_in hf
        refine lX_20 S hK hP h23 dX0_lastBed_23 ?_
        refine lv_iload_n hx hb dX0_lastBed_24 rfl (lv_at hl 3 rfl) ?_
        refine lv_ishr hx hb dX0_lastBed_25 ?_
        refine lv_iconst (v := (1 : Int32)) hx hb dX0_lastBed_26 (by decide) ?_
        refine lv_iand hx hb dX0_lastBed_27 ?_
        refine lv_iconst (v := (1 : Int32)) hx hb dX0_lastBed_28 (by decide) ?_
        refine lv_icmp_ne (tgt := 43) hx hb dX0_lastBed_29 (by decide) (fun c29 => ?_) (fun c29 => ?_)
        · have hf := ifn c29 hf
          refine lv_iinc (v := (v3_4 + (1 : Int32))) (lv' := [(3, .int (v3_4 + (1 : Int32))), (0, .ref (ad 8)), (1, .int v1), (2, .int v2_4)]) hx hb dX0_lastBed_43 hl (k := 3) rfl rfl (by decide) rfl (fun ls hl => ?_)
          refine lv_goto (tgt := 4) hx hb dX0_lastBed_46 (by decide) ?_
          exact ih4 v2_4 (v3_4 + (1 : Int32)) H locs ls hf hP hD hS (lv_sub hl [1, 2, 3, 0] rfl)
        · have hf := ifp c29 hf
          refine lv_iload_n hx hb dX0_lastBed_32 rfl (lv_at hl 2 rfl) ?_
          refine lv_aload_n hx hb dX0_lastBed_33 rfl (lv_at hl 0 rfl) ?_
          refine gX_calendar_laidOn S hK hP q246 dX0_lastBed_34 ?_
          refine lv_iload_n hx hb dX0_lastBed_37 rfl (lv_at hl 3 rfl) ?_
          obtain ⟨h38, hf⟩ := if_in hf
          refine lX_40 S hK hP h38 dX0_lastBed_38 ?_
          refine va_mmax hx hb (S.2.2.1.trans hl.1.symm) S.2.2.2.1 (S.2.2.2.2 _ (List.mem_cons_of_mem _ q745)) (S.2.2.2.2 _ (List.mem_cons_of_mem _ q458)) (S.2.2.2.2 _ (List.mem_cons_of_mem _ q13)) (S.2.2.2.2 _ (List.mem_cons_of_mem _ q459)) (Nat.le_of_ble_eq_true rfl) (Nat.le_of_ble_eq_true rfl) (Nat.zero_le _) (Nat.zero_le _) dX0_lastBed_39 ?_
          refine lv_istore_n (lv' := [(2, .int (if v2_4 < (ga σ 40 v3_4.toNatClampNeg) then (ga σ 40 v3_4.toNatClampNeg) else v2_4)), (0, .ref (ad 8)), (1, .int v1), (3, .int v3_4)]) hx hb dX0_lastBed_42 rfl hl (by decide) rfl (fun ls hl => ?_)
          refine lv_iinc (v := (v3_4 + (1 : Int32))) (lv' := [(3, .int (v3_4 + (1 : Int32))), (2, .int (if v2_4 < (ga σ 40 v3_4.toNatClampNeg) then (ga σ 40 v3_4.toNatClampNeg) else v2_4)), (0, .ref (ad 8)), (1, .int v1)]) hx hb dX0_lastBed_43 hl (k := 3) rfl rfl (by decide) rfl (fun ls hl => ?_)
          refine lv_goto (tgt := 4) hx hb dX0_lastBed_46 (by decide) ?_
          exact ih4 (if v2_4 < (ga σ 40 v3_4.toNatClampNeg) then (ga σ 40 v3_4.toNatClampNeg) else v2_4) (v3_4 + (1 : Int32)) H locs ls hf hP hD hS (lv_sub hl [2, 3, 1, 0] rfl)
  exact L4 KF (-1 : Int32) (0 : Int32) H locs ls hf hP hD hS (lv_sub hl [2, 3, 1, 0] rfl)
theorem iX0_thawedBetween : YI yX0_thawedBetween cX0_thawedBetween 3 (some .int) 2 := ⟨q749, q9, by decide, by decide, by decide +kernel⟩
theorem vX0_thawedBetween : YV yX0_thawedBetween := ⟨q748, qs19⟩
set_option maxRecDepth 100000 in
set_option maxHeartbeats 4000000 in
theorem c_X0_thawedBetween (l : Launch) (D : va_G) (cy : Nat → ClassId) (ad : Nat → Nat) (σ : St) (v1 : Int32) (v2 : Int32) (r : Int32) (hf : fX0_thawedBetween σ v1 v2 = some r) : Ci l D cy (wX cy ad) yX0_thawedBetween cX0_thawedBetween 3 .int 0 0 [.ref (ad 8), .int v1, .int v2] σ r σ 0 0 := by
  refine Ci.enter (by decide) (Nat.le_of_ble_eq_true rfl) ?_
  intro aw ac p e s m below meth c A H locs S hr hlocks hA hK hP hD hS ls hl
  have hx := S.1
  have hb := S.2.1
  have hl : lv_has ls 3 [(0, .ref (ad 8)), (1, .int v1), (2, .int v2)] := hl
  unfold fX0_thawedBetween at hf
  refine lv_iload_n hx hb dX0_thawedBetween_0 rfl (lv_at hl 1 rfl) ?_
  refine lv_iconst (v := (-1 : Int32)) hx hb dX0_thawedBetween_1 (by decide) ?_
  refine lv_icmp_ne (tgt := 10) hx hb dX0_thawedBetween_2 (by decide) (fun c2 => ?_) (fun c2 => ?_)
  · have hf := ifn c2 hf
    refine lv_iload_n hx hb dX0_thawedBetween_10 rfl (lv_at hl 2 rfl) ?_
    refine lv_iload_n hx hb dX0_thawedBetween_11 rfl (lv_at hl 1 rfl) ?_
    refine lv_icmp_le (tgt := 33) hx hb dX0_thawedBetween_12 (by decide) (fun c12 => ?_) (fun c12 => ?_)
    · have hf := ifp c12 hf
      refine lv_iconst (v := (0 : Int32)) hx hb dX0_thawedBetween_33 (by decide) ?_
      exact u_iretr hx hb hr hlocks rfl hP hD hS dX0_thawedBetween_34 hf (fun _ => rfl)
    · have hf := ifn c12 hf
      refine lv_aload_n hx hb dX0_thawedBetween_15 rfl (lv_at hl 0 rfl) ?_
      refine gX_calendar_thawed S hK hP q243 dX0_thawedBetween_16 ?_
      refine lv_iload_n hx hb dX0_thawedBetween_19 rfl (lv_at hl 2 rfl) ?_
      obtain ⟨h20, hf⟩ := if_in hf
      refine lX_38 S hK hP h20 dX0_thawedBetween_20 ?_
      refine lv_aload_n hx hb dX0_thawedBetween_21 rfl (lv_at hl 0 rfl) ?_
      refine gX_calendar_thawed S hK hP q243 dX0_thawedBetween_22 ?_
      refine lv_iload_n hx hb dX0_thawedBetween_25 rfl (lv_at hl 1 rfl) ?_
      refine lv_iconst (v := (1 : Int32)) hx hb dX0_thawedBetween_26 (by decide) ?_
      refine lv_iadd hx hb dX0_thawedBetween_27 ?_
      obtain ⟨h28, hf⟩ := if_in hf
      refine lX_38 S hK hP h28 dX0_thawedBetween_28 ?_
      refine lv_isub hx hb dX0_thawedBetween_29 ?_
      refine lv_goto (tgt := 34) hx hb dX0_thawedBetween_30 (by decide) ?_
      exact u_iretr hx hb hr hlocks rfl hP hD hS dX0_thawedBetween_34 hf (fun _ => rfl)
  · have hf := ifp c2 hf
    refine lv_aload_n hx hb dX0_thawedBetween_5 rfl (lv_at hl 0 rfl) ?_
    refine gX_calendar_drying S hK hP q241 dX0_thawedBetween_6 ?_
    exact u_iretr hx hb hr hlocks rfl hP hD hS dX0_thawedBetween_9 hf (fun _ => rfl)
theorem iX0_layOnNone : YI yX0_layOnNone cX0_layOnNone 3 none 1 := ⟨q753, q9, by decide, by decide, by decide +kernel⟩
theorem vX0_layOnNone : YV yX0_layOnNone := ⟨q752, qs20⟩
set_option maxRecDepth 100000 in
set_option maxHeartbeats 4000000 in
theorem c_X0_layOnNone (l : Launch) (D : va_G) (cy : Nat → ClassId) (ad : Nat → Nat) (σ : St) (v1 : Int32) (q : St) (hf : fX0_layOnNone σ v1 = some q) : Cv l D cy (wX cy ad) yX0_layOnNone cX0_layOnNone 3 0 0 [.ref (ad 8), .int v1] σ q 0 0 := by
  refine Cv.enter (by decide) (Nat.le_of_ble_eq_true rfl) ?_
  intro aw ac p e s m below meth c A H locs S hr hlocks hA hK hP hD hS ls hl
  have hx := S.1
  have hb := S.2.1
  have hl : lv_has ls 3 [(0, .ref (ad 8)), (1, .int v1)] := hl
  unfold fX0_layOnNone at hf
  refine lv_iload_n hx hb dX0_layOnNone_0 rfl (lv_at hl 1 rfl) ?_
  refine lv_istore_n (lv' := [(2, .int v1), (0, .ref (ad 8)), (1, .int v1)]) hx hb dX0_layOnNone_1 rfl hl (by decide) rfl (fun ls hl => ?_)
  have L2 : ∀ (n2 : Nat) (v2_2 : Int32) (σ2 : St) (H : Heap) (locs : List Loc) (ls : Array Slot), fX0_layOnNone_2 (fX0_layOnNone_2_k v1) v1 n2 σ2 v2_2 = some q → va_P D vwCl (wX cy ad aw ac σ2) H → va_D A (wX cy ad aw ac σ2) → va_S A s.heap H locs → lv_has ls 3 [(0, .ref (ad 8)), (1, .int v1), (2, .int v2_2)] → W p l e (Rm 0 0 0 0) s m [.ref (ad 8), .int v1].toArray below meth c H locs 0 0 (Zv D (wX cy ad) A q aw ac below [.ref (ad 8), .int v1].toArray s 0 0) (F0 m 2 ls []) := by
    intro n2
    induction n2 with
    | zero =>
      intro v2_2 σ2 H locs ls hf
      cases hf
    | succ n2 ih2 =>
      intro v2_2 σ2 H locs ls hf hP hD hS hl
      rw [fX0_layOnNone_2] at hf
      refine lv_iload_n hx hb dX0_layOnNone_2 rfl (lv_at hl 2 rfl) ?_
      refine lv_aload_n hx hb dX0_layOnNone_3 rfl (lv_at hl 0 rfl) ?_
      refine gX_calendar_stones S hK hP q237 dX0_layOnNone_4 ?_
      refine gX_stones_size S hK hP q134 dX0_layOnNone_7 ?_
      refine lv_icmp_ge (tgt := 31) hx hb dX0_layOnNone_10 (by decide) (fun c10 => ?_) (fun c10 => ?_)
      · have hf := ifp c10 hf
        have hl := lv_sub (l' := [(0, .ref (ad 8)), (1, .int v1), (2, .int v2_2)]) hl [0, 1, 2] rfl
        unfold fX0_layOnNone_2_k at hf
        exact u_vretw hx hb hr hlocks hP hD hS dX0_layOnNone_31 hf (fun _ => rfl)
      · have hf := ifn c10 hf
        refine lv_aload_n hx hb dX0_layOnNone_13 rfl (lv_at hl 0 rfl) ?_
        refine gX_calendar_laidOn S hK hP q246 dX0_layOnNone_14 ?_
        refine lv_aload_n hx hb dX0_layOnNone_17 rfl (lv_at hl 0 rfl) ?_
        refine gX_calendar_order S hK hP q244 dX0_layOnNone_18 ?_
        refine lv_iload_n hx hb dX0_layOnNone_21 rfl (lv_at hl 2 rfl) ?_
        obtain ⟨h22, hf⟩ := if_in hf
        refine lX_39 S hK hP h22 dX0_layOnNone_22 ?_
        refine lv_iconst (v := (-1 : Int32)) hx hb dX0_layOnNone_23 (by decide) ?_
        obtain ⟨h24, hf⟩ := if_in hf
        refine tX_40 S hK hP hD hS h24 dX0_layOnNone_24 (fun H locs hP hD hS => ?_)
        refine lv_iinc (v := (v2_2 + (1 : Int32))) (lv' := [(2, .int (v2_2 + (1 : Int32))), (0, .ref (ad 8)), (1, .int v1)]) hx hb dX0_layOnNone_25 hl (k := 2) rfl rfl (by decide) rfl (fun ls hl => ?_)
        refine lv_goto (tgt := 2) hx hb dX0_layOnNone_28 (by decide) ?_
        exact ih2 (v2_2 + (1 : Int32)) (sa σ2 40 (ga σ2 39 v2_2.toNatClampNeg).toNatClampNeg (-1 : Int32)) H locs ls hf hP hD hS (lv_sub hl [1, 2, 0] rfl)
  exact L2 KF v1 σ H locs ls hf hP hD hS (lv_sub hl [1, 2, 0] rfl)
theorem iX0_endWith : YI yX0_endWith cX0_endWith 9 (some .int) 2 := ⟨q732, q9, by decide, by decide, by decide +kernel⟩
theorem vX0_endWith : YV yX0_endWith := ⟨q730, q731⟩
set_option maxRecDepth 100000 in
set_option maxHeartbeats 4000000 in
theorem c_X0_endWith (l : Launch) (D : va_G) (cy : Nat → ClassId) (ad : Nat → Nat) (σ : St) (v1 : Int32) (v2 : Int32) (q : Int32 × St) (hf : fX0_endWith σ v1 v2 = some q) : Ci l D cy (wX cy ad) yX0_endWith cX0_endWith 9 .int 2 44 [.ref (ad 8), .int v1, .int v2] σ q.1 q.2 0 0 := by
  refine Ci.enter (by decide) (Nat.le_of_ble_eq_true rfl) ?_
  intro aw ac p e s m below meth c A H locs S hr hlocks hA hK hP hD hS ls hl
  have hx := S.1
  have hb := S.2.1
  have hl : lv_has ls 9 [(0, .ref (ad 8)), (1, .int v1), (2, .int v2)] := hl
  unfold fX0_endWith at hf
  refine lv_aload_n hx hb dX0_endWith_0 rfl (lv_at hl 0 rfl) ?_
  refine lv_iload_n hx hb dX0_endWith_1 rfl (lv_at hl 1 rfl) ?_
  refine lv_iload_n hx hb dX0_endWith_2 rfl (lv_at hl 2 rfl) ?_
  obtain ⟨q3, h3, hf⟩ := ob_some hf
  refine u_callv0 (u_runV (rest := []) S (c_X0_countThawed l D cy ad σ v1 v2 q3 h3 aw ac H.size) iX0_countThawed vX0_countThawed q733 ⟨Nat.le_of_ble_eq_true rfl, Nat.le_of_ble_eq_true rfl⟩ hK hP hD (q0 := 8) rfl rfl rfl hl.1 (Nat.le_of_ble_eq_true rfl) dX0_endWith_3 ⟨Nat.le_refl _, Nat.le_refl _⟩) hD hS hA (fun H locs hP hD hS => ?_)
  refine lv_iconst (v := (0 : Int32)) hx hb dX0_endWith_6 (by decide) ?_
  refine lv_istore_n (lv' := [(3, .int (0 : Int32)), (0, .ref (ad 8)), (1, .int v1), (2, .int v2)]) hx hb dX0_endWith_7 rfl hl (by decide) rfl (fun ls hl => ?_)
  refine lv_aload_n hx hb dX0_endWith_8 rfl (lv_at hl 1 rfl) ?_
  refine lv_iconst (v := (0 : Int32)) hx hb dX0_endWith_9 (by decide) ?_
  obtain ⟨r10, h10, hf⟩ := ob_some hf
  refine u_calli0 (u_runV (rest := []) S (c_X0_workOn l D cy ad q3 (0 : Int32) r10 h10 aw ac H.size) iX0_workOn vX0_workOn q737 ⟨Nat.le_of_ble_eq_true rfl, Nat.le_of_ble_eq_true rfl⟩ hK hP hD (q0 := 8) rfl rfl rfl hl.1 (Nat.le_of_ble_eq_true rfl) dX0_endWith_10 ⟨Nat.le_refl _, Nat.le_refl _⟩) hD hS hA (fun H locs hP hD hS => ?_)
  refine lv_istore (lv' := [(4, .int r10), (3, .int (0 : Int32)), (0, .ref (ad 8)), (1, .int v1), (2, .int v2)]) hx hb dX0_endWith_13 hl (by decide) rfl (fun ls hl => ?_)
  refine lv_iconst (v := (0 : Int32)) hx hb dX0_endWith_15 (by decide) ?_
  refine lv_istore (lv' := [(5, .int (0 : Int32)), (4, .int r10), (3, .int (0 : Int32)), (0, .ref (ad 8)), (1, .int v1), (2, .int v2)]) hx hb dX0_endWith_16 hl (by decide) rfl (fun ls hl => ?_)
  have L18 : ∀ (n18 : Nat) (v3_18 : Int32) (v4_18 : Int32) (v5_18 : Int32) (σ18 : St) (H : Heap) (locs : List Loc) (ls : Array Slot), fX0_endWith_18 (fX0_endWith_18_k v1 v2) v1 v2 n18 σ18 v3_18 v4_18 v5_18 = some q → va_P D vwCl (wX cy ad aw ac σ18) H → va_D A (wX cy ad aw ac σ18) → va_S A s.heap H locs → lv_has ls 9 [(0, .ref (ad 8)), (1, .int v1), (2, .int v2), (3, .int v3_18), (4, .int v4_18), (5, .int v5_18)] → W p l e (Rm 2 44 0 0) s m [.ref (ad 8), .int v1, .int v2].toArray below meth c H locs 0 0 (Zi D (wX cy ad) A q.1 q.2 aw ac below [.ref (ad 8), .int v1, .int v2].toArray s 0 0) (F0 m 18 ls []) := by
    intro n18
    induction n18 with
    | zero =>
      intro v3_18 v4_18 v5_18 σ18 H locs ls hf
      cases hf
    | succ n18 ih18 =>
      intro v3_18 v4_18 v5_18 σ18 H locs ls hf hP hD hS hl
      rw [fX0_endWith_18] at hf
      refine lv_iload hx hb dX0_endWith_18 (lv_at hl 5 rfl) ?_
      refine lv_aload_n hx hb dX0_endWith_20 rfl (lv_at hl 0 rfl) ?_
      refine gX_calendar_stones S hK hP q237 dX0_endWith_21 ?_
      refine gX_stones_size S hK hP q134 dX0_endWith_24 ?_
      refine lv_icmp_ge (tgt := 135) hx hb dX0_endWith_27 (by decide) (fun c27 => ?_) (fun c27 => ?_)
      · have hf := ifp c27 hf
        have hl := lv_sub (l' := [(0, .ref (ad 8)), (1, .int v1), (2, .int v2), (3, .int v3_18), (4, .int v4_18), (5, .int v5_18)]) hl [0, 1, 2, 3, 4, 5] rfl
        unfold fX0_endWith_18_k at hf
        refine lv_iload_n hx hb dX0_endWith_135 rfl (lv_at hl 3 rfl) ?_
        exact u_iretw hx hb hr hlocks rfl hP hD hS dX0_endWith_136 hf (fun _ => rfl)
      · have hf := ifn c27 hf
        refine lv_aload_n hx hb dX0_endWith_30 rfl (lv_at hl 0 rfl) ?_
        refine gX_calendar_order S hK hP q244 dX0_endWith_31 ?_
        refine lv_iload hx hb dX0_endWith_34 (lv_at hl 5 rfl) ?_
        obtain ⟨h36, hf⟩ := if_in hf
        refine lX_39 S hK hP h36 dX0_endWith_36 ?_
        refine lv_istore (lv' := [(6, .int (ga σ18 39 v5_18.toNatClampNeg)), (0, .ref (ad 8)), (1, .int v1), (2, .int v2), (3, .int v3_18), (4, .int v4_18), (5, .int v5_18)]) hx hb dX0_endWith_37 hl (by decide) rfl (fun ls hl => ?_)
        refine lv_aload_n hx hb dX0_endWith_39 rfl (lv_at hl 1 rfl) ?_
        refine gX_calendar_stones S hK hP q237 dX0_endWith_40 ?_
        refine gX_stones_hours S hK hP q126 dX0_endWith_43 ?_
        refine lv_iload hx hb dX0_endWith_46 (lv_at hl 0 rfl) ?_
        obtain ⟨h48, hf⟩ := if_in hf
        refine lX_19 S hK hP h48 dX0_endWith_48 ?_
        refine lv_istore (lv' := [(7, .int (ga σ18 19 (ga σ18 39 v5_18.toNatClampNeg).toNatClampNeg)), (6, .int (ga σ18 39 v5_18.toNatClampNeg)), (0, .ref (ad 8)), (1, .int v1), (2, .int v2), (3, .int v3_18), (4, .int v4_18), (5, .int v5_18)]) hx hb dX0_endWith_49 hl (by decide) rfl (fun ls hl => ?_)
        refine lv_aload_n hx hb dX0_endWith_51 rfl (lv_at hl 2 rfl) ?_
        refine lv_iload hx hb dX0_endWith_52 (lv_at hl 1 rfl) ?_
        obtain ⟨r54, h54, hf⟩ := ob_some hf
        refine u_calli0 (u_runV (rest := []) S (c_X0_lastBed l D cy ad σ18 (ga σ18 39 v5_18.toNatClampNeg) r54 h54 aw ac H.size) iX0_lastBed vX0_lastBed q741 ⟨Nat.le_of_ble_eq_true rfl, Nat.le_of_ble_eq_true rfl⟩ hK hP hD (q0 := 8) rfl rfl rfl hl.1 (Nat.le_of_ble_eq_true rfl) dX0_endWith_54 ⟨Nat.le_refl _, Nat.le_refl _⟩) hD hS hA (fun H locs hP hD hS => ?_)
        refine lv_istore (lv' := [(8, .int r54), (7, .int (ga σ18 19 (ga σ18 39 v5_18.toNatClampNeg).toNatClampNeg)), (6, .int (ga σ18 39 v5_18.toNatClampNeg)), (0, .ref (ad 8)), (1, .int v1), (2, .int v2), (3, .int v3_18), (4, .int v4_18), (5, .int v5_18)]) hx hb dX0_endWith_57 hl (by decide) rfl (fun ls hl => ?_)
        have L59 : ∀ (n59 : Nat) (v6_59 : Int32) (v7_59 : Int32) (v8_59 : Int32) (v3_59 : Int32) (v4_59 : Int32) (H : Heap) (locs : List Loc) (ls : Array Slot), fX0_endWith_59 (fun σ18' v3_18' v4_18' v5_18' => fX0_endWith_18 (fX0_endWith_18_k v1 v2) v1 v2 n18 σ18' v3_18' v4_18' v5_18') (fX0_endWith_59_k (fun σ18' v3_18' v4_18' v5_18' => fX0_endWith_18 (fX0_endWith_18_k v1 v2) v1 v2 n18 σ18' v3_18' v4_18' v5_18') σ18 v1 v2 v5_18 v6_59 v7_59 v8_59) σ18 v1 v2 v5_18 v6_59 v7_59 v8_59 n59 v3_59 v4_59 = some q → va_P D vwCl (wX cy ad aw ac σ18) H → va_D A (wX cy ad aw ac σ18) → va_S A s.heap H locs → lv_has ls 9 [(0, .ref (ad 8)), (1, .int v1), (2, .int v2), (3, .int v3_59), (4, .int v4_59), (5, .int v5_18), (6, .int v6_59), (7, .int v7_59), (8, .int v8_59)] → W p l e (Rm 2 44 0 0) s m [.ref (ad 8), .int v1, .int v2].toArray below meth c H locs 0 0 (Zi D (wX cy ad) A q.1 q.2 aw ac below [.ref (ad 8), .int v1, .int v2].toArray s 0 0) (F0 m 59 ls []) := by
          intro n59
          induction n59 with
          | zero =>
            intro v6_59 v7_59 v8_59 v3_59 v4_59 H locs ls hf
            cases hf
          | succ n59 ih59 =>
            intro v6_59 v7_59 v8_59 v3_59 v4_59 H locs ls hf hP hD hS hl
            rw [fX0_endWith_59] at hf
            refine lv_iload_n hx hb dX0_endWith_59 rfl (lv_at hl 3 rfl) ?_
            refine lv_bipush (v := (80 : Int32)) hx hb dX0_endWith_60 (by decide) ?_
            refine lv_icmp_ge (tgt := 99) hx hb dX0_endWith_62 (by decide) (fun c62 => ?_) (fun c62 => ?_)
            · have hf := ifp c62 hf
              have hl := lv_sub (l' := [(0, .ref (ad 8)), (1, .int v1), (2, .int v2), (3, .int v3_59), (4, .int v4_59), (5, .int v5_18), (6, .int v6_59), (7, .int v7_59), (8, .int v8_59)]) hl [0, 1, 2, 3, 4, 5, 6, 7, 8] rfl
              unfold fX0_endWith_59_k at hf
              refine lv_iload_n hx hb dX0_endWith_99 rfl (lv_at hl 3 rfl) ?_
              refine lv_bipush (v := (80 : Int32)) hx hb dX0_endWith_100 (by decide) ?_
              refine lv_icmp_lt (tgt := 114) hx hb dX0_endWith_102 (by decide) (fun c102 => ?_) (fun c102 => ?_)
              · have hf := ifp c102 hf
                refine lv_aload_n hx hb dX0_endWith_114 rfl (lv_at hl 0 rfl) ?_
                refine gX_calendar_laidOn S hK hP q246 dX0_endWith_115 ?_
                refine lv_iload hx hb dX0_endWith_118 (lv_at hl 6 rfl) ?_
                refine lv_iload_n hx hb dX0_endWith_120 rfl (lv_at hl 3 rfl) ?_
                obtain ⟨h121, hf⟩ := if_in hf
                refine tX_40 S hK hP hD hS h121 dX0_endWith_121 (fun H locs hP hD hS => ?_)
                refine lv_iload hx hb dX0_endWith_122 (lv_at hl 4 rfl) ?_
                refine lv_iload hx hb dX0_endWith_124 (lv_at hl 7 rfl) ?_
                refine lv_isub hx hb dX0_endWith_126 ?_
                refine lv_istore (lv' := [(4, .int (v4_59 - v7_59)), (0, .ref (ad 8)), (1, .int v1), (2, .int v2), (3, .int v3_59), (5, .int v5_18), (6, .int v6_59), (7, .int v7_59), (8, .int v8_59)]) hx hb dX0_endWith_127 hl (by decide) rfl (fun ls hl => ?_)
                refine lv_iinc (v := (v5_18 + (1 : Int32))) (lv' := [(5, .int (v5_18 + (1 : Int32))), (4, .int (v4_59 - v7_59)), (0, .ref (ad 8)), (1, .int v1), (2, .int v2), (3, .int v3_59), (6, .int v6_59), (7, .int v7_59), (8, .int v8_59)]) hx hb dX0_endWith_129 hl (k := 5) rfl rfl (by decide) rfl (fun ls hl => ?_)
                refine lv_goto (tgt := 18) hx hb dX0_endWith_132 (by decide) ?_
                exact ih18 v3_59 (v4_59 - v7_59) (v5_18 + (1 : Int32)) (sa σ18 40 v6_59.toNatClampNeg v3_59) H locs ls hf hP hD hS (lv_sub hl [2, 3, 4, 5, 1, 0] rfl)
              · have hf := ifn c102 hf
                refine lv_aload_n hx hb dX0_endWith_105 rfl (lv_at hl 0 rfl) ?_
                refine lv_iload hx hb dX0_endWith_106 (lv_at hl 5 rfl) ?_
                obtain ⟨q108, h108, hf⟩ := ob_some hf
                refine u_callv0 (u_runV (rest := []) S (c_X0_layOnNone l D cy ad σ18 v5_18 q108 h108 aw ac H.size) iX0_layOnNone vX0_layOnNone q750 ⟨Nat.le_of_ble_eq_true rfl, Nat.le_of_ble_eq_true rfl⟩ hK hP hD (q0 := 8) rfl rfl rfl hl.1 (Nat.le_of_ble_eq_true rfl) dX0_endWith_108 ⟨Nat.le_refl _, Nat.le_refl _⟩) hD hS hA (fun H locs hP hD hS => ?_)
                refine lv_bipush (v := (80 : Int32)) hx hb dX0_endWith_111 (by decide) ?_
                exact u_iretw hx hb hr hlocks rfl hP hD hS dX0_endWith_113 hf (fun _ => rfl)
            · have hf := ifn c62 hf
              refine lv_iload hx hb dX0_endWith_65 (lv_at hl 4 rfl) ?_
              refine lv_iload hx hb dX0_endWith_67 (lv_at hl 7 rfl) ?_
              refine lv_icmp_lt (tgt := 86) hx hb dX0_endWith_69 (by decide) (fun c69 => ?_) (fun c69 => ?_)
              · have hf := ifp c69 hf
                refine lv_iinc (v := (v3_59 + (1 : Int32))) (lv' := [(3, .int (v3_59 + (1 : Int32))), (0, .ref (ad 8)), (1, .int v1), (2, .int v2), (4, .int v4_59), (5, .int v5_18), (6, .int v6_59), (7, .int v7_59), (8, .int v8_59)]) hx hb dX0_endWith_86 hl (k := 3) rfl rfl (by decide) rfl (fun ls hl => ?_)
                refine lv_aload_n hx hb dX0_endWith_89 rfl (lv_at hl 1 rfl) ?_
                refine lv_iload_n hx hb dX0_endWith_90 rfl (lv_at hl 0 rfl) ?_
                obtain ⟨r91, h91, hf⟩ := ob_some hf
                refine u_calli0 (u_runV (rest := []) S (c_X0_workOn l D cy ad σ18 (v3_59 + (1 : Int32)) r91 h91 aw ac H.size) iX0_workOn vX0_workOn q737 ⟨Nat.le_of_ble_eq_true rfl, Nat.le_of_ble_eq_true rfl⟩ hK hP hD (q0 := 8) rfl rfl rfl hl.1 (Nat.le_of_ble_eq_true rfl) dX0_endWith_91 ⟨Nat.le_refl _, Nat.le_refl _⟩) hD hS hA (fun H locs hP hD hS => ?_)
                refine lv_istore (lv' := [(4, .int r91), (3, .int (v3_59 + (1 : Int32))), (0, .ref (ad 8)), (1, .int v1), (2, .int v2), (5, .int v5_18), (6, .int v6_59), (7, .int v7_59), (8, .int v8_59)]) hx hb dX0_endWith_94 hl (by decide) rfl (fun ls hl => ?_)
                refine lv_goto (tgt := 59) hx hb dX0_endWith_96 (by decide) ?_
                exact ih59 v6_59 v7_59 v8_59 (v3_59 + (1 : Int32)) r91 H locs ls hf hP hD hS (lv_sub hl [2, 3, 4, 1, 0, 5, 6, 7, 8] rfl)
              · have hf := ifn c69 hf
                refine lv_aload_n hx hb dX0_endWith_72 rfl (lv_at hl 0 rfl) ?_
                refine lv_iload hx hb dX0_endWith_73 (lv_at hl 8 rfl) ?_
                refine lv_iload_n hx hb dX0_endWith_75 rfl (lv_at hl 3 rfl) ?_
                obtain ⟨r76, h76, hf⟩ := ob_some hf
                refine u_calli0 (u_runV (rest := []) S (c_X0_thawedBetween l D cy ad σ18 v8_59 v3_59 r76 h76 aw ac H.size) iX0_thawedBetween vX0_thawedBetween q746 ⟨Nat.le_of_ble_eq_true rfl, Nat.le_of_ble_eq_true rfl⟩ hK hP hD (q0 := 8) rfl rfl rfl hl.1 (Nat.le_of_ble_eq_true rfl) dX0_endWith_76 ⟨Nat.le_refl _, Nat.le_refl _⟩) hD hS hA (fun H locs hP hD hS => ?_)
                refine lv_aload_n hx hb dX0_endWith_79 rfl (lv_at hl 0 rfl) ?_
                refine gX_calendar_drying S hK hP q241 dX0_endWith_80 ?_
                refine lv_icmp_ge (tgt := 99) hx hb dX0_endWith_83 (by decide) (fun c83 => ?_) (fun c83 => ?_)
                · have hf := ifp c83 hf
                  have hl := lv_sub (l' := [(0, .ref (ad 8)), (1, .int v1), (2, .int v2), (3, .int v3_59), (4, .int v4_59), (5, .int v5_18), (6, .int v6_59), (7, .int v7_59), (8, .int v8_59)]) hl [0, 1, 2, 3, 4, 5, 6, 7, 8] rfl
                  unfold fX0_endWith_59_k at hf
                  refine lv_iload_n hx hb dX0_endWith_99 rfl (lv_at hl 3 rfl) ?_
                  refine lv_bipush (v := (80 : Int32)) hx hb dX0_endWith_100 (by decide) ?_
                  refine lv_icmp_lt (tgt := 114) hx hb dX0_endWith_102 (by decide) (fun c102 => ?_) (fun c102 => ?_)
                  · have hf := ifp c102 hf
                    refine lv_aload_n hx hb dX0_endWith_114 rfl (lv_at hl 0 rfl) ?_
                    refine gX_calendar_laidOn S hK hP q246 dX0_endWith_115 ?_
                    refine lv_iload hx hb dX0_endWith_118 (lv_at hl 6 rfl) ?_
                    refine lv_iload_n hx hb dX0_endWith_120 rfl (lv_at hl 3 rfl) ?_
                    obtain ⟨h121, hf⟩ := if_in hf
                    refine tX_40 S hK hP hD hS h121 dX0_endWith_121 (fun H locs hP hD hS => ?_)
                    refine lv_iload hx hb dX0_endWith_122 (lv_at hl 4 rfl) ?_
                    refine lv_iload hx hb dX0_endWith_124 (lv_at hl 7 rfl) ?_
                    refine lv_isub hx hb dX0_endWith_126 ?_
                    refine lv_istore (lv' := [(4, .int (v4_59 - v7_59)), (0, .ref (ad 8)), (1, .int v1), (2, .int v2), (3, .int v3_59), (5, .int v5_18), (6, .int v6_59), (7, .int v7_59), (8, .int v8_59)]) hx hb dX0_endWith_127 hl (by decide) rfl (fun ls hl => ?_)
                    refine lv_iinc (v := (v5_18 + (1 : Int32))) (lv' := [(5, .int (v5_18 + (1 : Int32))), (4, .int (v4_59 - v7_59)), (0, .ref (ad 8)), (1, .int v1), (2, .int v2), (3, .int v3_59), (6, .int v6_59), (7, .int v7_59), (8, .int v8_59)]) hx hb dX0_endWith_129 hl (k := 5) rfl rfl (by decide) rfl (fun ls hl => ?_)
                    refine lv_goto (tgt := 18) hx hb dX0_endWith_132 (by decide) ?_
                    exact ih18 v3_59 (v4_59 - v7_59) (v5_18 + (1 : Int32)) (sa σ18 40 v6_59.toNatClampNeg v3_59) H locs ls hf hP hD hS (lv_sub hl [2, 3, 4, 5, 1, 0] rfl)
                  · have hf := ifn c102 hf
                    refine lv_aload_n hx hb dX0_endWith_105 rfl (lv_at hl 0 rfl) ?_
                    refine lv_iload hx hb dX0_endWith_106 (lv_at hl 5 rfl) ?_
                    obtain ⟨q108, h108, hf⟩ := ob_some hf
                    refine u_callv0 (u_runV (rest := []) S (c_X0_layOnNone l D cy ad σ18 v5_18 q108 h108 aw ac H.size) iX0_layOnNone vX0_layOnNone q750 ⟨Nat.le_of_ble_eq_true rfl, Nat.le_of_ble_eq_true rfl⟩ hK hP hD (q0 := 8) rfl rfl rfl hl.1 (Nat.le_of_ble_eq_true rfl) dX0_endWith_108 ⟨Nat.le_refl _, Nat.le_refl _⟩) hD hS hA (fun H locs hP hD hS => ?_)
                    refine lv_bipush (v := (80 : Int32)) hx hb dX0_endWith_111 (by decide) ?_
                    exact u_iretw hx hb hr hlocks rfl hP hD hS dX0_endWith_113 hf (fun _ => rfl)
                · have hf := ifn c83 hf
                  refine lv_iinc (v := (v3_59 + (1 : Int32))) (lv' := [(3, .int (v3_59 + (1 : Int32))), (0, .ref (ad 8)), (1, .int v1), (2, .int v2), (4, .int v4_59), (5, .int v5_18), (6, .int v6_59), (7, .int v7_59), (8, .int v8_59)]) hx hb dX0_endWith_86 hl (k := 3) rfl rfl (by decide) rfl (fun ls hl => ?_)
                  refine lv_aload_n hx hb dX0_endWith_89 rfl (lv_at hl 1 rfl) ?_
                  refine lv_iload_n hx hb dX0_endWith_90 rfl (lv_at hl 0 rfl) ?_
                  obtain ⟨r91, h91, hf⟩ := ob_some hf
                  refine u_calli0 (u_runV (rest := []) S (c_X0_workOn l D cy ad σ18 (v3_59 + (1 : Int32)) r91 h91 aw ac H.size) iX0_workOn vX0_workOn q737 ⟨Nat.le_of_ble_eq_true rfl, Nat.le_of_ble_eq_true rfl⟩ hK hP hD (q0 := 8) rfl rfl rfl hl.1 (Nat.le_of_ble_eq_true rfl) dX0_endWith_91 ⟨Nat.le_refl _, Nat.le_refl _⟩) hD hS hA (fun H locs hP hD hS => ?_)
                  refine lv_istore (lv' := [(4, .int r91), (3, .int (v3_59 + (1 : Int32))), (0, .ref (ad 8)), (1, .int v1), (2, .int v2), (5, .int v5_18), (6, .int v6_59), (7, .int v7_59), (8, .int v8_59)]) hx hb dX0_endWith_94 hl (by decide) rfl (fun ls hl => ?_)
                  refine lv_goto (tgt := 59) hx hb dX0_endWith_96 (by decide) ?_
                  exact ih59 v6_59 v7_59 v8_59 (v3_59 + (1 : Int32)) r91 H locs ls hf hP hD hS (lv_sub hl [2, 3, 4, 1, 0, 5, 6, 7, 8] rfl)
        exact L59 KF (ga σ18 39 v5_18.toNatClampNeg) (ga σ18 19 (ga σ18 39 v5_18.toNatClampNeg).toNatClampNeg) r54 v3_18 v4_18 H locs ls hf hP hD hS (lv_sub hl [3, 4, 5, 6, 7, 8, 2, 1, 0] rfl)
  exact L18 KF (0 : Int32) r10 (0 : Int32) q3 H locs ls hf hP hD hS (lv_sub hl [3, 4, 5, 2, 1, 0] rfl)
theorem iX0_tryFrost : YI yX0_tryFrost cX0_tryFrost 4 none 2 := ⟨q770, q9, by decide, by decide, by decide +kernel⟩
theorem vX0_tryFrost : YV yX0_tryFrost := ⟨q769, qs21⟩
set_option maxRecDepth 100000 in
set_option maxHeartbeats 4000000 in
theorem c_X0_tryFrost (l : Launch) (D : va_G) (cy : Nat → ClassId) (ad : Nat → Nat) (σ : St) (v1 : Int32) (v2 : Int32) (q : St) (hf : fX0_tryFrost σ v1 v2 = some q) : Cv l D cy (wX cy ad) yX0_tryFrost cX0_tryFrost 4 3 72 [.ref (ad 8), .int v1, .int v2] σ q 0 0 := by
  refine Cv.enter (by decide) (Nat.le_of_ble_eq_true rfl) ?_
  intro aw ac p e s m below meth c A H locs S hr hlocks hA hK hP hD hS ls hl
  have hx := S.1
  have hb := S.2.1
  have hl : lv_has ls 4 [(0, .ref (ad 8)), (1, .int v1), (2, .int v2)] := hl
  unfold fX0_tryFrost at hf
  refine lv_aload_n hx hb dX0_tryFrost_0 rfl (lv_at hl 0 rfl) ?_
  refine lv_iload_n hx hb dX0_tryFrost_1 rfl (lv_at hl 1 rfl) ?_
  refine lv_iload_n hx hb dX0_tryFrost_2 rfl (lv_at hl 2 rfl) ?_
  obtain ⟨q3, h3, hf⟩ := ob_some hf
  refine u_calli0 (u_runV (rest := []) S (c_X0_endWith l D cy ad σ v1 v2 q3 h3 aw ac H.size) iX0_endWith vX0_endWith q766 ⟨Nat.le_of_ble_eq_true rfl, Nat.le_of_ble_eq_true rfl⟩ hK hP hD (q0 := 8) rfl rfl rfl hl.1 (Nat.le_of_ble_eq_true rfl) dX0_tryFrost_3 ⟨Nat.le_refl _, Nat.le_refl _⟩) hD hS hA (fun H locs hP hD hS => ?_)
  refine lv_istore_n (lv' := [(3, .int q3.1), (0, .ref (ad 8)), (1, .int v1), (2, .int v2)]) hx hb dX0_tryFrost_6 rfl hl (by decide) rfl (fun ls hl => ?_)
  refine lv_iload_n hx hb dX0_tryFrost_7 rfl (lv_at hl 0 rfl) ?_
  refine lv_aload_n hx hb dX0_tryFrost_8 rfl (lv_at hl 1 rfl) ?_
  refine gX_calendar_worstEnd S hK hP q249 dX0_tryFrost_9 ?_
  refine lv_icmp_le (tgt := 30) hx hb dX0_tryFrost_12 (by decide) (fun c12 => ?_) (fun c12 => ?_)
  · have hf := ifp c12 hf
    exact u_vretw hx hb hr hlocks hP hD hS dX0_tryFrost_30 hf (fun _ => rfl)
  · have hf := ifn c12 hf
    refine lv_aload_n hx hb dX0_tryFrost_15 rfl (lv_at hl 1 rfl) ?_
    refine lv_iload_n hx hb dX0_tryFrost_16 rfl (lv_at hl 0 rfl) ?_
    refine pX_calendar_worstEnd S hK hP hD hS q249 dX0_tryFrost_17 (fun H locs hP hD hS => ?_)
    refine lv_aload_n hx hb dX0_tryFrost_20 rfl (lv_at hl 1 rfl) ?_
    refine lv_iload_n hx hb dX0_tryFrost_21 rfl (lv_at hl 2 rfl) ?_
    refine pX_calendar_worstFirst S hK hP hD hS q251 dX0_tryFrost_22 (fun H locs hP hD hS => ?_)
    refine lv_aload_n hx hb dX0_tryFrost_25 rfl (lv_at hl 1 rfl) ?_
    refine lv_iload_n hx hb dX0_tryFrost_26 rfl (lv_at hl 3 rfl) ?_
    refine pX_calendar_worstSecond S hK hP hD hS q252 dX0_tryFrost_27 (fun H locs hP hD hS => ?_)
    exact u_vretw hx hb hr hlocks hP hD hS dX0_tryFrost_30 hf (fun _ => rfl)
theorem iX0_trySecond : YI yX0_trySecond cX0_trySecond 4 none 1 := ⟨q774, q9, by decide, by decide, by decide +kernel⟩
theorem vX0_trySecond : YV yX0_trySecond := ⟨q773, qs22⟩
set_option maxRecDepth 100000 in
set_option maxHeartbeats 4000000 in
theorem c_X0_trySecond (l : Launch) (D : va_G) (cy : Nat → ClassId) (ad : Nat → Nat) (σ : St) (v1 : Int32) (q : St) (hf : fX0_trySecond σ v1 = some q) : Cv l D cy (wX cy ad) yX0_trySecond cX0_trySecond 4 4 95 [.ref (ad 8), .int v1] σ q 0 0 := by
  refine Cv.enter (by decide) (Nat.le_of_ble_eq_true rfl) ?_
  intro aw ac p e s m below meth c A H locs S hr hlocks hA hK hP hD hS ls hl
  have hx := S.1
  have hb := S.2.1
  have hl : lv_has ls 4 [(0, .ref (ad 8)), (1, .int v1)] := hl
  unfold fX0_trySecond at hf
  refine lv_aload_n hx hb dX0_trySecond_0 rfl (lv_at hl 0 rfl) ?_
  refine lv_iload_n hx hb dX0_trySecond_1 rfl (lv_at hl 1 rfl) ?_
  refine lv_iconst (v := (-1 : Int32)) hx hb dX0_trySecond_2 (by decide) ?_
  obtain ⟨q3, h3, hf⟩ := ob_some hf
  refine u_calli0 (u_runV (rest := []) S (c_X0_endWith l D cy ad σ v1 (-1 : Int32) q3 h3 aw ac H.size) iX0_endWith vX0_endWith q766 ⟨Nat.le_of_ble_eq_true rfl, Nat.le_of_ble_eq_true rfl⟩ hK hP hD (q0 := 8) rfl rfl rfl hl.1 (Nat.le_of_ble_eq_true rfl) dX0_trySecond_3 ⟨Nat.le_refl _, Nat.le_refl _⟩) hD hS hA (fun H locs hP hD hS => ?_)
  refine lv_istore_n (lv' := [(2, .int q3.1), (0, .ref (ad 8)), (1, .int v1)]) hx hb dX0_trySecond_6 rfl hl (by decide) rfl (fun ls hl => ?_)
  refine lv_iload_n hx hb dX0_trySecond_7 rfl (lv_at hl 2 rfl) ?_
  refine lv_iconst (v := (1 : Int32)) hx hb dX0_trySecond_8 (by decide) ?_
  refine lv_iadd hx hb dX0_trySecond_9 ?_
  refine lv_istore_n (lv' := [(3, .int (v1 + (1 : Int32))), (2, .int q3.1), (0, .ref (ad 8)), (1, .int v1)]) hx hb dX0_trySecond_10 rfl hl (by decide) rfl (fun ls hl => ?_)
  have L11 : ∀ (n11 : Nat) (v2_11 : Int32) (v3_11 : Int32) (σ11 : St) (H : Heap) (locs : List Loc) (ls : Array Slot), fX0_trySecond_11 (fX0_trySecond_11_k v1 v2_11) v1 v2_11 n11 σ11 v3_11 = some q → va_P D vwCl (wX cy ad aw ac σ11) H → va_D A (wX cy ad aw ac σ11) → va_S A s.heap H locs → lv_has ls 4 [(0, .ref (ad 8)), (1, .int v1), (2, .int v2_11), (3, .int v3_11)] → W p l e (Rm 4 95 0 0) s m [.ref (ad 8), .int v1].toArray below meth c H locs 0 0 (Zv D (wX cy ad) A q aw ac below [.ref (ad 8), .int v1].toArray s 0 0) (F0 m 11 ls []) := by
    intro n11
    induction n11 with
    | zero =>
      intro v2_11 v3_11 σ11 H locs ls hf
      cases hf
    | succ n11 ih11 =>
      intro v2_11 v3_11 σ11 H locs ls hf hP hD hS hl
      rw [fX0_trySecond_11] at hf
      refine lv_iload_n hx hb dX0_trySecond_11 rfl (lv_at hl 3 rfl) ?_
      refine lv_bipush (v := (60 : Int32)) hx hb dX0_trySecond_12 (by decide) ?_
      refine lv_icmp_ge (tgt := 58) hx hb dX0_trySecond_14 (by decide) (fun c14 => ?_) (fun c14 => ?_)
      · have hf := ifp c14 hf
        have hl := lv_sub (l' := [(0, .ref (ad 8)), (1, .int v1), (2, .int v2_11), (3, .int v3_11)]) hl [0, 1, 2, 3] rfl
        unfold fX0_trySecond_11_k at hf
        exact u_vretw hx hb hr hlocks hP hD hS dX0_trySecond_58 hf (fun _ => rfl)
      · have hf := ifn c14 hf
        refine lv_aload_n hx hb dX0_trySecond_17 rfl (lv_at hl 0 rfl) ?_
        refine gX_calendar_worstEnd S hK hP q249 dX0_trySecond_18 ?_
        refine lv_bipush (v := (80 : Int32)) hx hb dX0_trySecond_21 (by decide) ?_
        refine lv_icmp_eq (tgt := 58) hx hb dX0_trySecond_23 (by decide) (fun c23 => ?_) (fun c23 => ?_)
        · have hf := ifp c23 hf
          have hl := lv_sub (l' := [(0, .ref (ad 8)), (1, .int v1), (2, .int v2_11), (3, .int v3_11)]) hl [0, 1, 2, 3] rfl
          unfold fX0_trySecond_11_k at hf
          exact u_vretw hx hb hr hlocks hP hD hS dX0_trySecond_58 hf (fun _ => rfl)
        · have hf := ifn c23 hf
          refine lv_aload_n hx hb dX0_trySecond_26 rfl (lv_at hl 0 rfl) ?_
          refine gX_calendar_frozen S hK hP q239 dX0_trySecond_27 ?_
          refine lv_iload_n hx hb dX0_trySecond_30 rfl (lv_at hl 3 rfl) ?_
          obtain ⟨h31, hf⟩ := if_in hf
          refine lX_37 S hK hP h31 dX0_trySecond_31 ?_
          refine lv_if_eq (tgt := 38) hx hb dX0_trySecond_32 (by decide) (fun c32 => ?_) (fun c32 => ?_)
          · have hf := ifp c32 hf
            refine lv_aload_n hx hb dX0_trySecond_38 rfl (lv_at hl 0 rfl) ?_
            refine lv_iload_n hx hb dX0_trySecond_39 rfl (lv_at hl 1 rfl) ?_
            refine lv_iload_n hx hb dX0_trySecond_40 rfl (lv_at hl 3 rfl) ?_
            obtain ⟨q41, h41, hf⟩ := ob_some hf
            refine u_callv0 (u_runV (rest := []) S (c_X0_tryFrost l D cy ad σ11 v1 v3_11 q41 h41 aw ac H.size) iX0_tryFrost vX0_tryFrost q767 ⟨Nat.le_of_ble_eq_true rfl, Nat.le_of_ble_eq_true rfl⟩ hK hP hD (q0 := 8) rfl rfl rfl hl.1 (Nat.le_of_ble_eq_true rfl) dX0_trySecond_41 ⟨Nat.le_refl _, Nat.le_refl _⟩) hD hS hA (fun H locs hP hD hS => ?_)
            refine lv_iload_n hx hb dX0_trySecond_44 rfl (lv_at hl 3 rfl) ?_
            refine lv_iload_n hx hb dX0_trySecond_45 rfl (lv_at hl 2 rfl) ?_
            refine lv_icmp_le (tgt := 52) hx hb dX0_trySecond_46 (by decide) (fun c46 => ?_) (fun c46 => ?_)
            · have hf := ifp c46 hf
              refine lv_iinc (v := (v3_11 + (1 : Int32))) (lv' := [(3, .int (v3_11 + (1 : Int32))), (0, .ref (ad 8)), (1, .int v1), (2, .int v2_11)]) hx hb dX0_trySecond_52 hl (k := 3) rfl rfl (by decide) rfl (fun ls hl => ?_)
              refine lv_goto (tgt := 11) hx hb dX0_trySecond_55 (by decide) ?_
              exact ih11 v2_11 (v3_11 + (1 : Int32)) q41 H locs ls hf hP hD hS (lv_sub hl [1, 2, 3, 0] rfl)
            · have hf := ifn c46 hf
              refine lv_goto (tgt := 58) hx hb dX0_trySecond_49 (by decide) ?_
              have hl := lv_sub (l' := [(0, .ref (ad 8)), (1, .int v1), (2, .int v2_11), (3, .int v3_11)]) hl [0, 1, 2, 3] rfl
              generalize q41 = σ11 at hf hl hP hD
              unfold fX0_trySecond_11_k at hf
              exact u_vretw hx hb hr hlocks hP hD hS dX0_trySecond_58 hf (fun _ => rfl)
          · have hf := ifn c32 hf
            refine lv_goto (tgt := 52) hx hb dX0_trySecond_35 (by decide) ?_
            refine lv_iinc (v := (v3_11 + (1 : Int32))) (lv' := [(3, .int (v3_11 + (1 : Int32))), (0, .ref (ad 8)), (1, .int v1), (2, .int v2_11)]) hx hb dX0_trySecond_52 hl (k := 3) rfl rfl (by decide) rfl (fun ls hl => ?_)
            refine lv_goto (tgt := 11) hx hb dX0_trySecond_55 (by decide) ?_
            exact ih11 v2_11 (v3_11 + (1 : Int32)) σ11 H locs ls hf hP hD hS (lv_sub hl [1, 2, 3, 0] rfl)
  exact L11 KF q3.1 (v1 + (1 : Int32)) q3.2 H locs ls hf hP hD hS (lv_sub hl [2, 3, 1, 0] rfl)
theorem iX0_findWorst : YI yX0_findWorst cX0_findWorst 4 none 1 := ⟨q765, q9, by decide, by decide, by decide +kernel⟩
theorem vX0_findWorst : YV yX0_findWorst := ⟨q763, q764⟩
set_option maxRecDepth 100000 in
set_option maxHeartbeats 4000000 in
theorem c_X0_findWorst (l : Launch) (D : va_G) (cy : Nat → ClassId) (ad : Nat → Nat) (σ : St) (v1 : Int32) (q : St) (hf : fX0_findWorst σ v1 = some q) : Cv l D cy (wX cy ad) yX0_findWorst cX0_findWorst 4 5 118 [.ref (ad 8), .int v1] σ q 0 0 := by
  refine Cv.enter (by decide) (Nat.le_of_ble_eq_true rfl) ?_
  intro aw ac p e s m below meth c A H locs S hr hlocks hA hK hP hD hS ls hl
  have hx := S.1
  have hb := S.2.1
  have hl : lv_has ls 4 [(0, .ref (ad 8)), (1, .int v1)] := hl
  unfold fX0_findWorst at hf
  refine lv_aload_n hx hb dX0_findWorst_0 rfl (lv_at hl 0 rfl) ?_
  refine gX_calendar_worstKnown S hK hP q248 dX0_findWorst_1 ?_
  refine lv_iload_n hx hb dX0_findWorst_4 rfl (lv_at hl 1 rfl) ?_
  refine lv_icmp_ne (tgt := 9) hx hb dX0_findWorst_5 (by decide) (fun c5 => ?_) (fun c5 => ?_)
  · have hf := ifn c5 hf
    refine lv_aload_n hx hb dX0_findWorst_9 rfl (lv_at hl 0 rfl) ?_
    refine lv_iload_n hx hb dX0_findWorst_10 rfl (lv_at hl 1 rfl) ?_
    refine pX_calendar_worstKnown S hK hP hD hS q248 dX0_findWorst_11 (fun H locs hP hD hS => ?_)
    refine lv_aload_n hx hb dX0_findWorst_14 rfl (lv_at hl 0 rfl) ?_
    refine lv_iconst (v := (-1 : Int32)) hx hb dX0_findWorst_15 (by decide) ?_
    refine pX_calendar_worstEnd S hK hP hD hS q249 dX0_findWorst_16 (fun H locs hP hD hS => ?_)
    refine lv_aload_n hx hb dX0_findWorst_19 rfl (lv_at hl 0 rfl) ?_
    refine lv_iconst (v := (-1 : Int32)) hx hb dX0_findWorst_20 (by decide) ?_
    refine lv_iconst (v := (-1 : Int32)) hx hb dX0_findWorst_21 (by decide) ?_
    obtain ⟨q22, h22, hf⟩ := ob_some hf
    refine u_calli0 (u_runV (rest := []) S (c_X0_endWith l D cy ad (si (si σ 19 v1) 20 (-1 : Int32)) (-1 : Int32) (-1 : Int32) q22 h22 aw ac H.size) iX0_endWith vX0_endWith q766 ⟨Nat.le_of_ble_eq_true rfl, Nat.le_of_ble_eq_true rfl⟩ hK hP hD (q0 := 8) rfl rfl rfl hl.1 (Nat.le_of_ble_eq_true rfl) dX0_findWorst_22 ⟨Nat.le_refl _, Nat.le_refl _⟩) hD hS hA (fun H locs hP hD hS => ?_)
    refine lv_istore_n (lv' := [(2, .int q22.1), (0, .ref (ad 8)), (1, .int v1)]) hx hb dX0_findWorst_25 rfl hl (by decide) rfl (fun ls hl => ?_)
    refine lv_iload_n hx hb dX0_findWorst_26 rfl (lv_at hl 2 rfl) ?_
    refine lv_if_ne (tgt := 35) hx hb dX0_findWorst_27 (by decide) (fun c27 => ?_) (fun c27 => ?_)
    · have hf := ifn c27 hf
      refine lv_iconst (v := (0 : Int32)) hx hb dX0_findWorst_35 (by decide) ?_
      refine lv_istore_n (lv' := [(3, .int (0 : Int32)), (2, .int q22.1), (0, .ref (ad 8)), (1, .int v1)]) hx hb dX0_findWorst_36 rfl hl (by decide) rfl (fun ls hl => ?_)
      have L37 : ∀ (n37 : Nat) (v2_37 : Int32) (v3_37 : Int32) (σ37 : St) (H : Heap) (locs : List Loc) (ls : Array Slot), fX0_findWorst_37 (fX0_findWorst_37_k v1 v2_37) v1 v2_37 n37 σ37 v3_37 = some q → va_P D vwCl (wX cy ad aw ac σ37) H → va_D A (wX cy ad aw ac σ37) → va_S A s.heap H locs → lv_has ls 4 [(0, .ref (ad 8)), (1, .int v1), (2, .int v2_37), (3, .int v3_37)] → W p l e (Rm 5 118 0 0) s m [.ref (ad 8), .int v1].toArray below meth c H locs 0 0 (Zv D (wX cy ad) A q aw ac below [.ref (ad 8), .int v1].toArray s 0 0) (F0 m 37 ls []) := by
        intro n37
        induction n37 with
        | zero =>
          intro v2_37 v3_37 σ37 H locs ls hf
          cases hf
        | succ n37 ih37 =>
          intro v2_37 v3_37 σ37 H locs ls hf hP hD hS hl
          rw [fX0_findWorst_37] at hf
          refine lv_iload_n hx hb dX0_findWorst_37 rfl (lv_at hl 1 rfl) ?_
          refine lv_if_le (tgt := 101) hx hb dX0_findWorst_38 (by decide) (fun c38 => ?_) (fun c38 => ?_)
          · have hf := ifp c38 hf
            have hl := lv_sub (l' := [(0, .ref (ad 8)), (1, .int v1), (2, .int v2_37), (3, .int v3_37)]) hl [0, 1, 2, 3] rfl
            unfold fX0_findWorst_37_k at hf
            exact u_vretw hx hb hr hlocks hP hD hS dX0_findWorst_101 hf (fun _ => rfl)
          · have hf := ifn c38 hf
            refine lv_iload_n hx hb dX0_findWorst_41 rfl (lv_at hl 3 rfl) ?_
            refine lv_bipush (v := (60 : Int32)) hx hb dX0_findWorst_42 (by decide) ?_
            refine lv_icmp_ge (tgt := 101) hx hb dX0_findWorst_44 (by decide) (fun c44 => ?_) (fun c44 => ?_)
            · have hf := ifp c44 hf
              have hl := lv_sub (l' := [(0, .ref (ad 8)), (1, .int v1), (2, .int v2_37), (3, .int v3_37)]) hl [0, 1, 2, 3] rfl
              unfold fX0_findWorst_37_k at hf
              exact u_vretw hx hb hr hlocks hP hD hS dX0_findWorst_101 hf (fun _ => rfl)
            · have hf := ifn c44 hf
              refine lv_aload_n hx hb dX0_findWorst_47 rfl (lv_at hl 0 rfl) ?_
              refine gX_calendar_worstEnd S hK hP q249 dX0_findWorst_48 ?_
              refine lv_bipush (v := (80 : Int32)) hx hb dX0_findWorst_51 (by decide) ?_
              refine lv_icmp_eq (tgt := 101) hx hb dX0_findWorst_53 (by decide) (fun c53 => ?_) (fun c53 => ?_)
              · have hf := ifp c53 hf
                have hl := lv_sub (l' := [(0, .ref (ad 8)), (1, .int v1), (2, .int v2_37), (3, .int v3_37)]) hl [0, 1, 2, 3] rfl
                unfold fX0_findWorst_37_k at hf
                exact u_vretw hx hb hr hlocks hP hD hS dX0_findWorst_101 hf (fun _ => rfl)
              · have hf := ifn c53 hf
                refine lv_aload_n hx hb dX0_findWorst_56 rfl (lv_at hl 0 rfl) ?_
                refine gX_calendar_frozen S hK hP q239 dX0_findWorst_57 ?_
                refine lv_iload_n hx hb dX0_findWorst_60 rfl (lv_at hl 3 rfl) ?_
                obtain ⟨h61, hf⟩ := if_in hf
                refine lX_37 S hK hP h61 dX0_findWorst_61 ?_
                refine lv_if_eq (tgt := 68) hx hb dX0_findWorst_62 (by decide) (fun c62 => ?_) (fun c62 => ?_)
                · have hf := ifp c62 hf
                  refine lv_iload_n hx hb dX0_findWorst_68 rfl (lv_at hl 1 rfl) ?_
                  refine lv_iconst (v := (1 : Int32)) hx hb dX0_findWorst_69 (by decide) ?_
                  refine lv_icmp_ne (tgt := 82) hx hb dX0_findWorst_70 (by decide) (fun c70 => ?_) (fun c70 => ?_)
                  · have hf := ifn c70 hf
                    refine lv_aload_n hx hb dX0_findWorst_82 rfl (lv_at hl 0 rfl) ?_
                    refine lv_iload_n hx hb dX0_findWorst_83 rfl (lv_at hl 3 rfl) ?_
                    obtain ⟨q84, h84, hf⟩ := ob_some hf
                    refine u_callv0 (u_runV (rest := []) S (c_X0_trySecond l D cy ad σ37 v3_37 q84 h84 aw ac H.size) iX0_trySecond vX0_trySecond q771 ⟨Nat.le_of_ble_eq_true rfl, Nat.le_of_ble_eq_true rfl⟩ hK hP hD (q0 := 8) rfl rfl rfl hl.1 (Nat.le_of_ble_eq_true rfl) dX0_findWorst_84 ⟨Nat.le_refl _, Nat.le_refl _⟩) hD hS hA (fun H locs hP hD hS => ?_)
                    refine lv_iload_n hx hb dX0_findWorst_87 rfl (lv_at hl 3 rfl) ?_
                    refine lv_iload_n hx hb dX0_findWorst_88 rfl (lv_at hl 2 rfl) ?_
                    refine lv_icmp_le (tgt := 95) hx hb dX0_findWorst_89 (by decide) (fun c89 => ?_) (fun c89 => ?_)
                    · have hf := ifp c89 hf
                      refine lv_iinc (v := (v3_37 + (1 : Int32))) (lv' := [(3, .int (v3_37 + (1 : Int32))), (0, .ref (ad 8)), (1, .int v1), (2, .int v2_37)]) hx hb dX0_findWorst_95 hl (k := 3) rfl rfl (by decide) rfl (fun ls hl => ?_)
                      refine lv_goto (tgt := 37) hx hb dX0_findWorst_98 (by decide) ?_
                      exact ih37 v2_37 (v3_37 + (1 : Int32)) q84 H locs ls hf hP hD hS (lv_sub hl [1, 2, 3, 0] rfl)
                    · have hf := ifn c89 hf
                      refine lv_goto (tgt := 101) hx hb dX0_findWorst_92 (by decide) ?_
                      have hl := lv_sub (l' := [(0, .ref (ad 8)), (1, .int v1), (2, .int v2_37), (3, .int v3_37)]) hl [0, 1, 2, 3] rfl
                      generalize q84 = σ37 at hf hl hP hD
                      unfold fX0_findWorst_37_k at hf
                      exact u_vretw hx hb hr hlocks hP hD hS dX0_findWorst_101 hf (fun _ => rfl)
                  · have hf := ifp c70 hf
                    refine lv_aload_n hx hb dX0_findWorst_73 rfl (lv_at hl 0 rfl) ?_
                    refine lv_iload_n hx hb dX0_findWorst_74 rfl (lv_at hl 3 rfl) ?_
                    refine lv_iconst (v := (-1 : Int32)) hx hb dX0_findWorst_75 (by decide) ?_
                    obtain ⟨q76, h76, hf⟩ := ob_some hf
                    refine u_callv0 (u_runV (rest := []) S (c_X0_tryFrost l D cy ad σ37 v3_37 (-1 : Int32) q76 h76 aw ac H.size) iX0_tryFrost vX0_tryFrost q767 ⟨Nat.le_of_ble_eq_true rfl, Nat.le_of_ble_eq_true rfl⟩ hK hP hD (q0 := 8) rfl rfl rfl hl.1 (Nat.le_of_ble_eq_true rfl) dX0_findWorst_76 ⟨Nat.le_refl _, Nat.le_refl _⟩) hD hS hA (fun H locs hP hD hS => ?_)
                    refine lv_goto (tgt := 87) hx hb dX0_findWorst_79 (by decide) ?_
                    refine lv_iload_n hx hb dX0_findWorst_87 rfl (lv_at hl 3 rfl) ?_
                    refine lv_iload_n hx hb dX0_findWorst_88 rfl (lv_at hl 2 rfl) ?_
                    refine lv_icmp_le (tgt := 95) hx hb dX0_findWorst_89 (by decide) (fun c89 => ?_) (fun c89 => ?_)
                    · have hf := ifp c89 hf
                      refine lv_iinc (v := (v3_37 + (1 : Int32))) (lv' := [(3, .int (v3_37 + (1 : Int32))), (0, .ref (ad 8)), (1, .int v1), (2, .int v2_37)]) hx hb dX0_findWorst_95 hl (k := 3) rfl rfl (by decide) rfl (fun ls hl => ?_)
                      refine lv_goto (tgt := 37) hx hb dX0_findWorst_98 (by decide) ?_
                      exact ih37 v2_37 (v3_37 + (1 : Int32)) q76 H locs ls hf hP hD hS (lv_sub hl [1, 2, 3, 0] rfl)
                    · have hf := ifn c89 hf
                      refine lv_goto (tgt := 101) hx hb dX0_findWorst_92 (by decide) ?_
                      have hl := lv_sub (l' := [(0, .ref (ad 8)), (1, .int v1), (2, .int v2_37), (3, .int v3_37)]) hl [0, 1, 2, 3] rfl
                      generalize q76 = σ37 at hf hl hP hD
                      unfold fX0_findWorst_37_k at hf
                      exact u_vretw hx hb hr hlocks hP hD hS dX0_findWorst_101 hf (fun _ => rfl)
                · have hf := ifn c62 hf
                  refine lv_goto (tgt := 95) hx hb dX0_findWorst_65 (by decide) ?_
                  refine lv_iinc (v := (v3_37 + (1 : Int32))) (lv' := [(3, .int (v3_37 + (1 : Int32))), (0, .ref (ad 8)), (1, .int v1), (2, .int v2_37)]) hx hb dX0_findWorst_95 hl (k := 3) rfl rfl (by decide) rfl (fun ls hl => ?_)
                  refine lv_goto (tgt := 37) hx hb dX0_findWorst_98 (by decide) ?_
                  exact ih37 v2_37 (v3_37 + (1 : Int32)) σ37 H locs ls hf hP hD hS (lv_sub hl [1, 2, 3, 0] rfl)
      exact L37 KF q22.1 (0 : Int32) q22.2 H locs ls hf hP hD hS (lv_sub hl [2, 3, 1, 0] rfl)
    · have hf := ifp c27 hf
      refine lv_aload_n hx hb dX0_findWorst_30 rfl (lv_at hl 1 rfl) ?_
      refine lv_iload_n hx hb dX0_findWorst_31 rfl (lv_at hl 0 rfl) ?_
      refine pX_calendar_worstEnd S hK hP hD hS q249 dX0_findWorst_32 (fun H locs hP hD hS => ?_)
      refine lv_iconst (v := (0 : Int32)) hx hb dX0_findWorst_35 (by decide) ?_
      refine lv_istore_n (lv' := [(3, .int (0 : Int32)), (2, .int q22.1), (0, .ref (ad 8)), (1, .int v1)]) hx hb dX0_findWorst_36 rfl hl (by decide) rfl (fun ls hl => ?_)
      have L37 : ∀ (n37 : Nat) (v2_37 : Int32) (v3_37 : Int32) (σ37 : St) (H : Heap) (locs : List Loc) (ls : Array Slot), fX0_findWorst_37 (fX0_findWorst_37_k v1 v2_37) v1 v2_37 n37 σ37 v3_37 = some q → va_P D vwCl (wX cy ad aw ac σ37) H → va_D A (wX cy ad aw ac σ37) → va_S A s.heap H locs → lv_has ls 4 [(0, .ref (ad 8)), (1, .int v1), (2, .int v2_37), (3, .int v3_37)] → W p l e (Rm 5 118 0 0) s m [.ref (ad 8), .int v1].toArray below meth c H locs 0 0 (Zv D (wX cy ad) A q aw ac below [.ref (ad 8), .int v1].toArray s 0 0) (F0 m 37 ls []) := by
        intro n37
        induction n37 with
        | zero =>
          intro v2_37 v3_37 σ37 H locs ls hf
          cases hf
        | succ n37 ih37 =>
          intro v2_37 v3_37 σ37 H locs ls hf hP hD hS hl
          rw [fX0_findWorst_37] at hf
          refine lv_iload_n hx hb dX0_findWorst_37 rfl (lv_at hl 1 rfl) ?_
          refine lv_if_le (tgt := 101) hx hb dX0_findWorst_38 (by decide) (fun c38 => ?_) (fun c38 => ?_)
          · have hf := ifp c38 hf
            have hl := lv_sub (l' := [(0, .ref (ad 8)), (1, .int v1), (2, .int v2_37), (3, .int v3_37)]) hl [0, 1, 2, 3] rfl
            unfold fX0_findWorst_37_k at hf
            exact u_vretw hx hb hr hlocks hP hD hS dX0_findWorst_101 hf (fun _ => rfl)
          · have hf := ifn c38 hf
            refine lv_iload_n hx hb dX0_findWorst_41 rfl (lv_at hl 3 rfl) ?_
            refine lv_bipush (v := (60 : Int32)) hx hb dX0_findWorst_42 (by decide) ?_
            refine lv_icmp_ge (tgt := 101) hx hb dX0_findWorst_44 (by decide) (fun c44 => ?_) (fun c44 => ?_)
            · have hf := ifp c44 hf
              have hl := lv_sub (l' := [(0, .ref (ad 8)), (1, .int v1), (2, .int v2_37), (3, .int v3_37)]) hl [0, 1, 2, 3] rfl
              unfold fX0_findWorst_37_k at hf
              exact u_vretw hx hb hr hlocks hP hD hS dX0_findWorst_101 hf (fun _ => rfl)
            · have hf := ifn c44 hf
              refine lv_aload_n hx hb dX0_findWorst_47 rfl (lv_at hl 0 rfl) ?_
              refine gX_calendar_worstEnd S hK hP q249 dX0_findWorst_48 ?_
              refine lv_bipush (v := (80 : Int32)) hx hb dX0_findWorst_51 (by decide) ?_
              refine lv_icmp_eq (tgt := 101) hx hb dX0_findWorst_53 (by decide) (fun c53 => ?_) (fun c53 => ?_)
              · have hf := ifp c53 hf
                have hl := lv_sub (l' := [(0, .ref (ad 8)), (1, .int v1), (2, .int v2_37), (3, .int v3_37)]) hl [0, 1, 2, 3] rfl
                unfold fX0_findWorst_37_k at hf
                exact u_vretw hx hb hr hlocks hP hD hS dX0_findWorst_101 hf (fun _ => rfl)
              · have hf := ifn c53 hf
                refine lv_aload_n hx hb dX0_findWorst_56 rfl (lv_at hl 0 rfl) ?_
                refine gX_calendar_frozen S hK hP q239 dX0_findWorst_57 ?_
                refine lv_iload_n hx hb dX0_findWorst_60 rfl (lv_at hl 3 rfl) ?_
                obtain ⟨h61, hf⟩ := if_in hf
                refine lX_37 S hK hP h61 dX0_findWorst_61 ?_
                refine lv_if_eq (tgt := 68) hx hb dX0_findWorst_62 (by decide) (fun c62 => ?_) (fun c62 => ?_)
                · have hf := ifp c62 hf
                  refine lv_iload_n hx hb dX0_findWorst_68 rfl (lv_at hl 1 rfl) ?_
                  refine lv_iconst (v := (1 : Int32)) hx hb dX0_findWorst_69 (by decide) ?_
                  refine lv_icmp_ne (tgt := 82) hx hb dX0_findWorst_70 (by decide) (fun c70 => ?_) (fun c70 => ?_)
                  · have hf := ifn c70 hf
                    refine lv_aload_n hx hb dX0_findWorst_82 rfl (lv_at hl 0 rfl) ?_
                    refine lv_iload_n hx hb dX0_findWorst_83 rfl (lv_at hl 3 rfl) ?_
                    obtain ⟨q84, h84, hf⟩ := ob_some hf
                    refine u_callv0 (u_runV (rest := []) S (c_X0_trySecond l D cy ad σ37 v3_37 q84 h84 aw ac H.size) iX0_trySecond vX0_trySecond q771 ⟨Nat.le_of_ble_eq_true rfl, Nat.le_of_ble_eq_true rfl⟩ hK hP hD (q0 := 8) rfl rfl rfl hl.1 (Nat.le_of_ble_eq_true rfl) dX0_findWorst_84 ⟨Nat.le_refl _, Nat.le_refl _⟩) hD hS hA (fun H locs hP hD hS => ?_)
                    refine lv_iload_n hx hb dX0_findWorst_87 rfl (lv_at hl 3 rfl) ?_
                    refine lv_iload_n hx hb dX0_findWorst_88 rfl (lv_at hl 2 rfl) ?_
                    refine lv_icmp_le (tgt := 95) hx hb dX0_findWorst_89 (by decide) (fun c89 => ?_) (fun c89 => ?_)
                    · have hf := ifp c89 hf
                      refine lv_iinc (v := (v3_37 + (1 : Int32))) (lv' := [(3, .int (v3_37 + (1 : Int32))), (0, .ref (ad 8)), (1, .int v1), (2, .int v2_37)]) hx hb dX0_findWorst_95 hl (k := 3) rfl rfl (by decide) rfl (fun ls hl => ?_)
                      refine lv_goto (tgt := 37) hx hb dX0_findWorst_98 (by decide) ?_
                      exact ih37 v2_37 (v3_37 + (1 : Int32)) q84 H locs ls hf hP hD hS (lv_sub hl [1, 2, 3, 0] rfl)
                    · have hf := ifn c89 hf
                      refine lv_goto (tgt := 101) hx hb dX0_findWorst_92 (by decide) ?_
                      have hl := lv_sub (l' := [(0, .ref (ad 8)), (1, .int v1), (2, .int v2_37), (3, .int v3_37)]) hl [0, 1, 2, 3] rfl
                      generalize q84 = σ37 at hf hl hP hD
                      unfold fX0_findWorst_37_k at hf
                      exact u_vretw hx hb hr hlocks hP hD hS dX0_findWorst_101 hf (fun _ => rfl)
                  · have hf := ifp c70 hf
                    refine lv_aload_n hx hb dX0_findWorst_73 rfl (lv_at hl 0 rfl) ?_
                    refine lv_iload_n hx hb dX0_findWorst_74 rfl (lv_at hl 3 rfl) ?_
                    refine lv_iconst (v := (-1 : Int32)) hx hb dX0_findWorst_75 (by decide) ?_
                    obtain ⟨q76, h76, hf⟩ := ob_some hf
                    refine u_callv0 (u_runV (rest := []) S (c_X0_tryFrost l D cy ad σ37 v3_37 (-1 : Int32) q76 h76 aw ac H.size) iX0_tryFrost vX0_tryFrost q767 ⟨Nat.le_of_ble_eq_true rfl, Nat.le_of_ble_eq_true rfl⟩ hK hP hD (q0 := 8) rfl rfl rfl hl.1 (Nat.le_of_ble_eq_true rfl) dX0_findWorst_76 ⟨Nat.le_refl _, Nat.le_refl _⟩) hD hS hA (fun H locs hP hD hS => ?_)
                    refine lv_goto (tgt := 87) hx hb dX0_findWorst_79 (by decide) ?_
                    refine lv_iload_n hx hb dX0_findWorst_87 rfl (lv_at hl 3 rfl) ?_
                    refine lv_iload_n hx hb dX0_findWorst_88 rfl (lv_at hl 2 rfl) ?_
                    refine lv_icmp_le (tgt := 95) hx hb dX0_findWorst_89 (by decide) (fun c89 => ?_) (fun c89 => ?_)
                    · have hf := ifp c89 hf
                      refine lv_iinc (v := (v3_37 + (1 : Int32))) (lv' := [(3, .int (v3_37 + (1 : Int32))), (0, .ref (ad 8)), (1, .int v1), (2, .int v2_37)]) hx hb dX0_findWorst_95 hl (k := 3) rfl rfl (by decide) rfl (fun ls hl => ?_)
                      refine lv_goto (tgt := 37) hx hb dX0_findWorst_98 (by decide) ?_
                      exact ih37 v2_37 (v3_37 + (1 : Int32)) q76 H locs ls hf hP hD hS (lv_sub hl [1, 2, 3, 0] rfl)
                    · have hf := ifn c89 hf
                      refine lv_goto (tgt := 101) hx hb dX0_findWorst_92 (by decide) ?_
                      have hl := lv_sub (l' := [(0, .ref (ad 8)), (1, .int v1), (2, .int v2_37), (3, .int v3_37)]) hl [0, 1, 2, 3] rfl
                      generalize q76 = σ37 at hf hl hP hD
                      unfold fX0_findWorst_37_k at hf
                      exact u_vretw hx hb hr hlocks hP hD hS dX0_findWorst_101 hf (fun _ => rfl)
                · have hf := ifn c62 hf
                  refine lv_goto (tgt := 95) hx hb dX0_findWorst_65 (by decide) ?_
                  refine lv_iinc (v := (v3_37 + (1 : Int32))) (lv' := [(3, .int (v3_37 + (1 : Int32))), (0, .ref (ad 8)), (1, .int v1), (2, .int v2_37)]) hx hb dX0_findWorst_95 hl (k := 3) rfl rfl (by decide) rfl (fun ls hl => ?_)
                  refine lv_goto (tgt := 37) hx hb dX0_findWorst_98 (by decide) ?_
                  exact ih37 v2_37 (v3_37 + (1 : Int32)) σ37 H locs ls hf hP hD hS (lv_sub hl [1, 2, 3, 0] rfl)
      exact L37 KF q22.1 (0 : Int32) (si q22.2 20 q22.1) H locs ls hf hP hD hS (lv_sub hl [2, 3, 1, 0] rfl)
  · have hf := ifp c5 hf
    exact u_vretw hx hb hr hlocks hP hD hS dX0_findWorst_8 hf (fun _ => rfl)
theorem iX0_mixInto : YI yX0_mixInto cX0_mixInto 6 (some .long) 1 := ⟨q931, q9, by decide, by decide, by decide +kernel⟩
theorem vX0_mixInto : YV yX0_mixInto := ⟨q929, q930⟩
set_option maxRecDepth 100000 in
set_option maxHeartbeats 4000000 in
theorem c_X0_mixInto (l : Launch) (D : va_G) (cy : Nat → ClassId) (ad : Nat → Nat) (σ : St) (v1 : Int64) (r : Int64) (hf : fX0_mixInto σ v1 = some r) : Cl l D cy (wX cy ad) yX0_mixInto cX0_mixInto 6 0 0 [.ref (ad 8), .long v1] σ r σ 0 0 := by
  refine Cl.enter (by decide) (Nat.le_of_ble_eq_true rfl) ?_
  intro aw ac p e s m below meth c A H locs S hr hlocks hA hK hP hD hS ls hl
  have hx := S.1
  have hb := S.2.1
  have hl : lv_has ls 6 [(0, .ref (ad 8)), (1, .long v1)] := hl
  unfold fX0_mixInto at hf
  refine lv_lload_n hx hb dX0_mixInto_0 rfl (lv_at hl 1 rfl) ?_
  refine lv_lstore_n (lv' := [(3, .long v1), (0, .ref (ad 8)), (1, .long v1)]) hx hb dX0_mixInto_1 rfl hl (by decide) rfl (fun ls hl => ?_)
  refine lv_iconst (v := (0 : Int32)) hx hb dX0_mixInto_2 (by decide) ?_
  refine lv_istore (lv' := [(5, .int (0 : Int32)), (3, .long v1), (0, .ref (ad 8)), (1, .long v1)]) hx hb dX0_mixInto_3 hl (by decide) rfl (fun ls hl => ?_)
  have L5 : ∀ (n5 : Nat) (v3_5 : Int64) (v5_5 : Int32) (H : Heap) (locs : List Loc) (ls : Array Slot), fX0_mixInto_5 (fX0_mixInto_5_k σ v1) σ v1 n5 v3_5 v5_5 = some r → va_P D vwCl (wX cy ad aw ac σ) H → va_D A (wX cy ad aw ac σ) → va_S A s.heap H locs → lv_has ls 6 [(0, .ref (ad 8)), (1, .long v1), (3, .long v3_5), (5, .int v5_5)] → W p l e (Rm 0 0 0 0) s m [.ref (ad 8), .long v1].toArray below meth c H locs 0 0 (Zl D (wX cy ad) A r σ aw ac below [.ref (ad 8), .long v1].toArray s 0 0) (F0 m 5 ls []) := by
    intro n5
    induction n5 with
    | zero =>
      intro v3_5 v5_5 H locs ls hf
      cases hf
    | succ n5 ih5 =>
      intro v3_5 v5_5 H locs ls hf hP hD hS hl
      rw [fX0_mixInto_5] at hf
      refine lv_iload hx hb dX0_mixInto_5 (lv_at hl 3 rfl) ?_
      refine lv_bipush (v := (80 : Int32)) hx hb dX0_mixInto_7 (by decide) ?_
      refine lv_icmp_ge (tgt := 33) hx hb dX0_mixInto_9 (by decide) (fun c9 => ?_) (fun c9 => ?_)
      · have hf := ifp c9 hf
        have hl := lv_sub (l' := [(0, .ref (ad 8)), (1, .long v1), (3, .long v3_5), (5, .int v5_5)]) hl [0, 1, 2, 3] rfl
        unfold fX0_mixInto_5_k at hf
        refine lv_lload_n hx hb dX0_mixInto_33 rfl (lv_at hl 2 rfl) ?_
        exact u_lretr hx hb hr hlocks hP hD hS dX0_mixInto_34 hf (fun _ => rfl)
      · have hf := ifn c9 hf
        refine lv_ldc2 hx hb S.2.2.2.1 (S.2.2.2.2 _ (List.mem_cons_of_mem _ q932)) dX0_mixInto_12 ?_
        refine lv_lload_n hx hb dX0_mixInto_15 rfl (lv_at hl 2 rfl) ?_
        refine lv_lmul hx hb dX0_mixInto_16 ?_
        refine lv_aload_n hx hb dX0_mixInto_17 rfl (lv_at hl 0 rfl) ?_
        refine gX_calendar_lights S hK hP q238 dX0_mixInto_18 ?_
        refine lv_iload hx hb dX0_mixInto_21 (lv_at hl 3 rfl) ?_
        obtain ⟨h23, hf⟩ := if_in hf
        refine lX_36 S hK hP h23 dX0_mixInto_23 ?_
        refine lv_i2l (v := ((ga σ 36 v5_5.toNatClampNeg)).toInt64) hx hb dX0_mixInto_24 rfl ?_
        refine lv_ladd hx hb dX0_mixInto_25 ?_
        refine lv_lstore_n (lv' := [(3, .long (((31 : Int64) * v3_5) + (((ga σ 36 v5_5.toNatClampNeg)).toInt64))), (0, .ref (ad 8)), (1, .long v1), (5, .int v5_5)]) hx hb dX0_mixInto_26 rfl hl (by decide) rfl (fun ls hl => ?_)
        refine lv_iinc (v := (v5_5 + (1 : Int32))) (lv' := [(5, .int (v5_5 + (1 : Int32))), (3, .long (((31 : Int64) * v3_5) + (((ga σ 36 v5_5.toNatClampNeg)).toInt64))), (0, .ref (ad 8)), (1, .long v1)]) hx hb dX0_mixInto_27 hl (k := 3) rfl rfl (by decide) rfl (fun ls hl => ?_)
        refine lv_goto (tgt := 5) hx hb dX0_mixInto_30 (by decide) ?_
        exact ih5 (((31 : Int64) * v3_5) + (((ga σ 36 v5_5.toNatClampNeg)).toInt64)) (v5_5 + (1 : Int32)) H locs ls hf hP hD hS (lv_sub hl [2, 3, 1, 0] rfl)
  exact L5 KF v1 (0 : Int32) H locs ls hf hP hD hS (lv_sub hl [2, 3, 1, 0] rfl)
theorem iX1_join : YI yX1_join cX1_join 2 (some .int) 1 := ⟨q375, q3, by decide, by decide, by decide +kernel⟩
theorem vX1_join : YV yX1_join := ⟨q373, q374⟩
set_option maxRecDepth 100000 in
set_option maxHeartbeats 4000000 in
theorem c_X1_join (l : Launch) (D : va_G) (cy : Nat → ClassId) (ad : Nat → Nat) (σ : St) (v1 : Int32) (q : Int32 × St) (hf : fX1_join σ v1 = some q) : Ci l D cy (wX cy ad) yX1_join cX1_join 2 .int 0 0 [.ref (ad 2), .int v1] σ q.1 q.2 0 0 := by
  refine Ci.enter (by decide) (Nat.le_of_ble_eq_true rfl) ?_
  intro aw ac p e s m below meth c A H locs S hr hlocks hA hK hP hD hS ls hl
  have hx := S.1
  have hb := S.2.1
  have hl : lv_has ls 2 [(0, .ref (ad 2)), (1, .int v1)] := hl
  unfold fX1_join at hf
  refine lv_aload_n hx hb dX1_join_0 rfl (lv_at hl 0 rfl) ?_
  refine gX_crew_size S hK hP q63 dX1_join_1 ?_
  refine lv_bipush (v := (8 : Int32)) hx hb dX1_join_4 (by decide) ?_
  refine lv_icmp_lt (tgt := 12) hx hb dX1_join_6 (by decide) (fun c6 => ?_) (fun c6 => ?_)
  · have hf := ifp c6 hf
    refine lv_aload_n hx hb dX1_join_12 rfl (lv_at hl 0 rfl) ?_
    refine gX_crew_weights S hK hP q60 dX1_join_13 ?_
    refine lv_aload_n hx hb dX1_join_16 rfl (lv_at hl 0 rfl) ?_
    refine gX_crew_size S hK hP q63 dX1_join_17 ?_
    refine lv_iload_n hx hb dX1_join_20 rfl (lv_at hl 1 rfl) ?_
    obtain ⟨h21, hf⟩ := if_in hf
    refine tX_10 S hK hP hD hS h21 dX1_join_21 (fun H locs hP hD hS => ?_)
    refine lv_aload_n hx hb dX1_join_22 rfl (lv_at hl 0 rfl) ?_
    refine gX_crew_breaths S hK hP q61 dX1_join_23 ?_
    refine lv_aload_n hx hb dX1_join_26 rfl (lv_at hl 0 rfl) ?_
    refine gX_crew_size S hK hP q63 dX1_join_27 ?_
    refine lv_sipush (v := (1000 : Int32)) hx hb dX1_join_30 (by decide) ?_
    obtain ⟨h33, hf⟩ := if_in hf
    refine tX_11 S hK hP hD hS h33 dX1_join_33 (fun H locs hP hD hS => ?_)
    refine lv_aload_n hx hb dX1_join_34 rfl (lv_at hl 0 rfl) ?_
    refine lv_dup hx hb dX1_join_35 rfl ?_
    refine gX_crew_size S hK hP q63 dX1_join_36 ?_
    refine lv_iconst (v := (1 : Int32)) hx hb dX1_join_39 (by decide) ?_
    refine lv_iadd hx hb dX1_join_40 ?_
    refine pX_crew_size S hK hP hD hS q63 dX1_join_41 (fun H locs hP hD hS => ?_)
    refine lv_aload_n hx hb dX1_join_44 rfl (lv_at hl 0 rfl) ?_
    refine gX_crew_size S hK hP q63 dX1_join_45 ?_
    refine lv_iconst (v := (1 : Int32)) hx hb dX1_join_48 (by decide) ?_
    refine lv_isub hx hb dX1_join_49 ?_
    exact u_iretw hx hb hr hlocks rfl hP hD hS dX1_join_50 hf (fun _ => rfl)
  · have hf := ifn c6 hf
    refine lv_bipush (v := (-4 : Int32)) hx hb dX1_join_9 (by decide) ?_
    exact u_iretw hx hb hr hlocks rfl hP hD hS dX1_join_11 hf (fun _ => rfl)
theorem iX1_everyone : YI yX1_everyone cX1_everyone 1 (some .int) 0 := ⟨q398, q3, by decide, by decide, by decide +kernel⟩
theorem vX1_everyone : YV yX1_everyone := ⟨q396, q397⟩
set_option maxRecDepth 100000 in
set_option maxHeartbeats 4000000 in
theorem c_X1_everyone (l : Launch) (D : va_G) (cy : Nat → ClassId) (ad : Nat → Nat) (σ : St) (r : Int32) (hf : fX1_everyone σ = some r) : Ci l D cy (wX cy ad) yX1_everyone cX1_everyone 1 .int 0 0 [.ref (ad 2)] σ r σ 0 0 := by
  refine Ci.enter (by decide) (Nat.le_of_ble_eq_true rfl) ?_
  intro aw ac p e s m below meth c A H locs S hr hlocks hA hK hP hD hS ls hl
  have hx := S.1
  have hb := S.2.1
  have hl : lv_has ls 1 [(0, .ref (ad 2))] := hl
  unfold fX1_everyone at hf
  refine lv_iconst (v := (1 : Int32)) hx hb dX1_everyone_0 (by decide) ?_
  refine lv_aload_n hx hb dX1_everyone_1 rfl (lv_at hl 0 rfl) ?_
  refine gX_crew_size S hK hP q63 dX1_everyone_2 ?_
  refine lv_ishl hx hb dX1_everyone_5 ?_
  refine lv_iconst (v := (1 : Int32)) hx hb dX1_everyone_6 (by decide) ?_
  refine lv_isub hx hb dX1_everyone_7 ?_
  exact u_iretr hx hb hr hlocks rfl hP hD hS dX1_everyone_8 hf (fun _ => rfl)
theorem iX1_weightOf : YI yX1_weightOf cX1_weightOf 4 (some .int) 1 := ⟨q413, q3, by decide, by decide, by decide +kernel⟩
theorem vX1_weightOf : YV yX1_weightOf := ⟨q411, q412⟩
set_option maxRecDepth 100000 in
set_option maxHeartbeats 4000000 in
theorem c_X1_weightOf (l : Launch) (D : va_G) (cy : Nat → ClassId) (ad : Nat → Nat) (σ : St) (v1 : Int32) (r : Int32) (hf : fX1_weightOf σ v1 = some r) : Ci l D cy (wX cy ad) yX1_weightOf cX1_weightOf 4 .int 0 0 [.ref (ad 2), .int v1] σ r σ 0 0 := by
  refine Ci.enter (by decide) (Nat.le_of_ble_eq_true rfl) ?_
  intro aw ac p e s m below meth c A H locs S hr hlocks hA hK hP hD hS ls hl
  have hx := S.1
  have hb := S.2.1
  have hl : lv_has ls 4 [(0, .ref (ad 2)), (1, .int v1)] := hl
  unfold fX1_weightOf at hf
  refine lv_iconst (v := (0 : Int32)) hx hb dX1_weightOf_0 (by decide) ?_
  refine lv_istore_n (lv' := [(2, .int (0 : Int32)), (0, .ref (ad 2)), (1, .int v1)]) hx hb dX1_weightOf_1 rfl hl (by decide) rfl (fun ls hl => ?_)
  refine lv_iconst (v := (0 : Int32)) hx hb dX1_weightOf_2 (by decide) ?_
  refine lv_istore_n (lv' := [(3, .int (0 : Int32)), (2, .int (0 : Int32)), (0, .ref (ad 2)), (1, .int v1)]) hx hb dX1_weightOf_3 rfl hl (by decide) rfl (fun ls hl => ?_)
  have L4 : ∀ (n4 : Nat) (v2_4 : Int32) (v3_4 : Int32) (H : Heap) (locs : List Loc) (ls : Array Slot), fX1_weightOf_4 (fX1_weightOf_4_k σ v1) σ v1 n4 v2_4 v3_4 = some r → va_P D vwCl (wX cy ad aw ac σ) H → va_D A (wX cy ad aw ac σ) → va_S A s.heap H locs → lv_has ls 4 [(0, .ref (ad 2)), (1, .int v1), (2, .int v2_4), (3, .int v3_4)] → W p l e (Rm 0 0 0 0) s m [.ref (ad 2), .int v1].toArray below meth c H locs 0 0 (Zi D (wX cy ad) A r σ aw ac below [.ref (ad 2), .int v1].toArray s 0 0) (F0 m 4 ls []) := by
    intro n4
    induction n4 with
    | zero =>
      intro v2_4 v3_4 H locs ls hf
      cases hf
    | succ n4 ih4 =>
      intro v2_4 v3_4 H locs ls hf hP hD hS hl
      rw [fX1_weightOf_4] at hf
      refine lv_iload_n hx hb dX1_weightOf_4 rfl (lv_at hl 3 rfl) ?_
      refine lv_aload_n hx hb dX1_weightOf_5 rfl (lv_at hl 0 rfl) ?_
      refine gX_crew_size S hK hP q63 dX1_weightOf_6 ?_
      refine lv_icmp_ge (tgt := 33) hx hb dX1_weightOf_9 (by decide) (fun c9 => ?_) (fun c9 => ?_)
      · have hf := ifp c9 hf
        have hl := lv_sub (l' := [(0, .ref (ad 2)), (1, .int v1), (2, .int v2_4), (3, .int v3_4)]) hl [0, 1, 2, 3] rfl
        unfold fX1_weightOf_4_k at hf
        refine lv_iload_n hx hb dX1_weightOf_33 rfl (lv_at hl 2 rfl) ?_
        exact u_iretr hx hb hr hlocks rfl hP hD hS dX1_weightOf_34 hf (fun _ => rfl)
      · have hf := ifn c9 hf
        refine lv_iload_n hx hb dX1_weightOf_12 rfl (lv_at hl 2 rfl) ?_
        refine lv_iload_n hx hb dX1_weightOf_13 rfl (lv_at hl 1 rfl) ?_
        refine lv_iload_n hx hb dX1_weightOf_14 rfl (lv_at hl 3 rfl) ?_
        refine lv_ishr hx hb dX1_weightOf_15 ?_
        refine lv_iconst (v := (1 : Int32)) hx hb dX1_weightOf_16 (by decide) ?_
        refine lv_iand hx hb dX1_weightOf_17 ?_
        refine lv_aload_n hx hb dX1_weightOf_18 rfl (lv_at hl 0 rfl) ?_
        refine gX_crew_weights S hK hP q60 dX1_weightOf_19 ?_
        refine lv_iload_n hx hb dX1_weightOf_22 rfl (lv_at hl 3 rfl) ?_
        obtain ⟨h23, hf⟩ := if_in hf
        refine lX_10 S hK hP h23 dX1_weightOf_23 ?_
        refine lv_imul hx hb dX1_weightOf_24 ?_
        refine lv_iadd hx hb dX1_weightOf_25 ?_
        refine lv_istore_n (lv' := [(2, .int (v2_4 + (((v1 >>> (v3_4 &&& 31)) &&& (1 : Int32)) * (ga σ 10 v3_4.toNatClampNeg)))), (0, .ref (ad 2)), (1, .int v1), (3, .int v3_4)]) hx hb dX1_weightOf_26 rfl hl (by decide) rfl (fun ls hl => ?_)
        refine lv_iinc (v := (v3_4 + (1 : Int32))) (lv' := [(3, .int (v3_4 + (1 : Int32))), (2, .int (v2_4 + (((v1 >>> (v3_4 &&& 31)) &&& (1 : Int32)) * (ga σ 10 v3_4.toNatClampNeg)))), (0, .ref (ad 2)), (1, .int v1)]) hx hb dX1_weightOf_27 hl (k := 3) rfl rfl (by decide) rfl (fun ls hl => ?_)
        refine lv_goto (tgt := 4) hx hb dX1_weightOf_30 (by decide) ?_
        exact ih4 (v2_4 + (((v1 >>> (v3_4 &&& 31)) &&& (1 : Int32)) * (ga σ 10 v3_4.toNatClampNeg))) (v3_4 + (1 : Int32)) H locs ls hf hP hD hS (lv_sub hl [2, 3, 1, 0] rfl)
  exact L4 KF (0 : Int32) (0 : Int32) H locs ls hf hP hD hS (lv_sub hl [2, 3, 1, 0] rfl)
theorem iX1_haveBreath : YI yX1_haveBreath cX1_haveBreath 4 (some .boolean) 2 := ⟨q426, q3, by decide, by decide, by decide +kernel⟩
theorem vX1_haveBreath : YV yX1_haveBreath := ⟨q424, q425⟩
set_option maxRecDepth 100000 in
set_option maxHeartbeats 4000000 in
theorem c_X1_haveBreath (l : Launch) (D : va_G) (cy : Nat → ClassId) (ad : Nat → Nat) (σ : St) (v1 : Int32) (v2 : Int32) (r : Int32) (hf : fX1_haveBreath σ v1 v2 = some r) : Ci l D cy (wX cy ad) yX1_haveBreath cX1_haveBreath 4 .boolean 0 0 [.ref (ad 2), .int v1, .int v2] σ r σ 0 0 := by
  refine Ci.enter (by decide) (Nat.le_of_ble_eq_true rfl) ?_
  intro aw ac p e s m below meth c A H locs S hr hlocks hA hK hP hD hS ls hl
  have hx := S.1
  have hb := S.2.1
  have hl : lv_has ls 4 [(0, .ref (ad 2)), (1, .int v1), (2, .int v2)] := hl
  unfold fX1_haveBreath at hf
  refine lv_iconst (v := (0 : Int32)) hx hb dX1_haveBreath_0 (by decide) ?_
  refine lv_istore_n (lv' := [(3, .int (0 : Int32)), (0, .ref (ad 2)), (1, .int v1), (2, .int v2)]) hx hb dX1_haveBreath_1 rfl hl (by decide) rfl (fun ls hl => ?_)
  have L2 : ∀ (n2 : Nat) (v3_2 : Int32) (H : Heap) (locs : List Loc) (ls : Array Slot), fX1_haveBreath_2 (fX1_haveBreath_2_k σ v1 v2) σ v1 v2 n2 v3_2 = some r → va_P D vwCl (wX cy ad aw ac σ) H → va_D A (wX cy ad aw ac σ) → va_S A s.heap H locs → lv_has ls 4 [(0, .ref (ad 2)), (1, .int v1), (2, .int v2), (3, .int v3_2)] → W p l e (Rm 0 0 0 0) s m [.ref (ad 2), .int v1, .int v2].toArray below meth c H locs 0 0 (Zi D (wX cy ad) A r σ aw ac below [.ref (ad 2), .int v1, .int v2].toArray s 0 0) (F0 m 2 ls []) := by
    intro n2
    induction n2 with
    | zero =>
      intro v3_2 H locs ls hf
      cases hf
    | succ n2 ih2 =>
      intro v3_2 H locs ls hf hP hD hS hl
      rw [fX1_haveBreath_2] at hf
      refine lv_iload_n hx hb dX1_haveBreath_2 rfl (lv_at hl 3 rfl) ?_
      refine lv_aload_n hx hb dX1_haveBreath_3 rfl (lv_at hl 0 rfl) ?_
      refine gX_crew_size S hK hP q63 dX1_haveBreath_4 ?_
      refine lv_icmp_ge (tgt := 37) hx hb dX1_haveBreath_7 (by decide) (fun c7 => ?_) (fun c7 => ?_)
      · have hf := ifp c7 hf
        have hl := lv_sub (l' := [(0, .ref (ad 2)), (1, .int v1), (2, .int v2), (3, .int v3_2)]) hl [0, 1, 2, 3] rfl
        unfold fX1_haveBreath_2_k at hf
        refine lv_iconst (v := (1 : Int32)) hx hb dX1_haveBreath_37 (by decide) ?_
        exact u_iretr hx hb hr hlocks rfl hP hD hS dX1_haveBreath_38 hf (fun _ => rfl)
      · have hf := ifn c7 hf
        refine lv_iload_n hx hb dX1_haveBreath_10 rfl (lv_at hl 1 rfl) ?_
        refine lv_iload_n hx hb dX1_haveBreath_11 rfl (lv_at hl 3 rfl) ?_
        refine lv_ishr hx hb dX1_haveBreath_12 ?_
        refine lv_iconst (v := (1 : Int32)) hx hb dX1_haveBreath_13 (by decide) ?_
        refine lv_iand hx hb dX1_haveBreath_14 ?_
        refine lv_iconst (v := (1 : Int32)) hx hb dX1_haveBreath_15 (by decide) ?_
        refine lv_icmp_ne (tgt := 31) hx hb dX1_haveBreath_16 (by decide) (fun c16 => ?_) (fun c16 => ?_)
        · have hf := ifn c16 hf
          refine lv_iinc (v := (v3_2 + (1 : Int32))) (lv' := [(3, .int (v3_2 + (1 : Int32))), (0, .ref (ad 2)), (1, .int v1), (2, .int v2)]) hx hb dX1_haveBreath_31 hl (k := 3) rfl rfl (by decide) rfl (fun ls hl => ?_)
          refine lv_goto (tgt := 2) hx hb dX1_haveBreath_34 (by decide) ?_
          exact ih2 (v3_2 + (1 : Int32)) H locs ls hf hP hD hS (lv_sub hl [1, 2, 3, 0] rfl)
        · have hf := ifp c16 hf
          refine lv_aload_n hx hb dX1_haveBreath_19 rfl (lv_at hl 0 rfl) ?_
          refine gX_crew_breaths S hK hP q61 dX1_haveBreath_20 ?_
          refine lv_iload_n hx hb dX1_haveBreath_23 rfl (lv_at hl 3 rfl) ?_
          obtain ⟨h24, hf⟩ := if_in hf
          refine lX_11 S hK hP h24 dX1_haveBreath_24 ?_
          refine lv_iload_n hx hb dX1_haveBreath_25 rfl (lv_at hl 2 rfl) ?_
          refine lv_icmp_ge (tgt := 31) hx hb dX1_haveBreath_26 (by decide) (fun c26 => ?_) (fun c26 => ?_)
          · have hf := ifp c26 hf
            refine lv_iinc (v := (v3_2 + (1 : Int32))) (lv' := [(3, .int (v3_2 + (1 : Int32))), (0, .ref (ad 2)), (1, .int v1), (2, .int v2)]) hx hb dX1_haveBreath_31 hl (k := 3) rfl rfl (by decide) rfl (fun ls hl => ?_)
            refine lv_goto (tgt := 2) hx hb dX1_haveBreath_34 (by decide) ?_
            exact ih2 (v3_2 + (1 : Int32)) H locs ls hf hP hD hS (lv_sub hl [1, 2, 3, 0] rfl)
          · have hf := ifn c26 hf
            refine lv_iconst (v := (0 : Int32)) hx hb dX1_haveBreath_29 (by decide) ?_
            exact u_iretr hx hb hr hlocks rfl hP hD hS dX1_haveBreath_30 hf (fun _ => rfl)
  exact L2 KF (0 : Int32) H locs ls hf hP hD hS (lv_sub hl [1, 2, 3, 0] rfl)
theorem iJ6_bitCount_0f7a4 : YI yJ6_bitCount_0f7a4 cJ6_bitCount_0f7a4 1 (some .int) 1 := ⟨q437, q14, by decide, by decide, by decide +kernel⟩
set_option maxRecDepth 100000 in
set_option maxHeartbeats 4000000 in
theorem c_J6_bitCount_0f7a4 (l : Launch) (D : va_G) (cy : Nat → ClassId) (σ : St) (v0 : Int32) (r : Int32) (hf : fJ6_bitCount_0f7a4 v0 = some r) : Ci l D cy wN yJ6_bitCount_0f7a4 cJ6_bitCount_0f7a4 1 .int 0 0 [.int v0] σ r σ 0 0 := by
  refine Ci.enter (by decide) (Nat.le_of_ble_eq_true rfl) ?_
  intro aw ac p e s m below meth c A H locs S hr hlocks hA hK hP hD hS ls hl
  have hx := S.1
  have hb := S.2.1
  have hl : lv_has ls 1 [(0, .int v0)] := hl
  unfold fJ6_bitCount_0f7a4 at hf
  refine lv_iload_n hx hb dJ6_bitCount_0f7a4_0 rfl (lv_at hl 0 rfl) ?_
  refine lv_iload_n hx hb dJ6_bitCount_0f7a4_1 rfl (lv_at hl 0 rfl) ?_
  refine lv_iconst (v := (1 : Int32)) hx hb dJ6_bitCount_0f7a4_2 (by decide) ?_
  refine lv_iushr (v := (((v0).toUInt32 >>> (((1 : Int32)).toUInt32 &&& Int32.toUInt32 31)).toInt32)) hx hb dJ6_bitCount_0f7a4_3 rfl ?_
  refine lv_ldcw hx hb S.2.2.2.1 (S.2.2.2.2 _ (List.mem_cons_of_mem _ q438)) dJ6_bitCount_0f7a4_4 ?_
  refine lv_iand hx hb dJ6_bitCount_0f7a4_7 ?_
  refine lv_isub hx hb dJ6_bitCount_0f7a4_8 ?_
  refine lv_istore_n (lv' := [(0, .int (v0 - ((((v0).toUInt32 >>> (((1 : Int32)).toUInt32 &&& Int32.toUInt32 31)).toInt32) &&& (1431655765 : Int32))))]) hx hb dJ6_bitCount_0f7a4_9 rfl hl (by decide) rfl (fun ls hl => ?_)
  refine lv_iload_n hx hb dJ6_bitCount_0f7a4_10 rfl (lv_at hl 0 rfl) ?_
  refine lv_ldcw hx hb S.2.2.2.1 (S.2.2.2.2 _ (List.mem_cons_of_mem _ q439)) dJ6_bitCount_0f7a4_11 ?_
  refine lv_iand hx hb dJ6_bitCount_0f7a4_14 ?_
  refine lv_iload_n hx hb dJ6_bitCount_0f7a4_15 rfl (lv_at hl 0 rfl) ?_
  refine lv_iconst (v := (2 : Int32)) hx hb dJ6_bitCount_0f7a4_16 (by decide) ?_
  refine lv_iushr (v := ((((v0 - ((((v0).toUInt32 >>> (((1 : Int32)).toUInt32 &&& Int32.toUInt32 31)).toInt32) &&& (1431655765 : Int32)))).toUInt32 >>> (((2 : Int32)).toUInt32 &&& Int32.toUInt32 31)).toInt32)) hx hb dJ6_bitCount_0f7a4_17 rfl ?_
  refine lv_ldcw hx hb S.2.2.2.1 (S.2.2.2.2 _ (List.mem_cons_of_mem _ q439)) dJ6_bitCount_0f7a4_18 ?_
  refine lv_iand hx hb dJ6_bitCount_0f7a4_21 ?_
  refine lv_iadd hx hb dJ6_bitCount_0f7a4_22 ?_
  refine lv_istore_n (lv' := [(0, .int (((v0 - ((((v0).toUInt32 >>> (((1 : Int32)).toUInt32 &&& Int32.toUInt32 31)).toInt32) &&& (1431655765 : Int32))) &&& (858993459 : Int32)) + (((((v0 - ((((v0).toUInt32 >>> (((1 : Int32)).toUInt32 &&& Int32.toUInt32 31)).toInt32) &&& (1431655765 : Int32)))).toUInt32 >>> (((2 : Int32)).toUInt32 &&& Int32.toUInt32 31)).toInt32) &&& (858993459 : Int32))))]) hx hb dJ6_bitCount_0f7a4_23 rfl hl (by decide) rfl (fun ls hl => ?_)
  refine lv_iload_n hx hb dJ6_bitCount_0f7a4_24 rfl (lv_at hl 0 rfl) ?_
  refine lv_iload_n hx hb dJ6_bitCount_0f7a4_25 rfl (lv_at hl 0 rfl) ?_
  refine lv_iconst (v := (4 : Int32)) hx hb dJ6_bitCount_0f7a4_26 (by decide) ?_
  refine lv_iushr (v := ((((((v0 - ((((v0).toUInt32 >>> (((1 : Int32)).toUInt32 &&& Int32.toUInt32 31)).toInt32) &&& (1431655765 : Int32))) &&& (858993459 : Int32)) + (((((v0 - ((((v0).toUInt32 >>> (((1 : Int32)).toUInt32 &&& Int32.toUInt32 31)).toInt32) &&& (1431655765 : Int32)))).toUInt32 >>> (((2 : Int32)).toUInt32 &&& Int32.toUInt32 31)).toInt32) &&& (858993459 : Int32)))).toUInt32 >>> (((4 : Int32)).toUInt32 &&& Int32.toUInt32 31)).toInt32)) hx hb dJ6_bitCount_0f7a4_27 rfl ?_
  refine lv_iadd hx hb dJ6_bitCount_0f7a4_28 ?_
  refine lv_ldcw hx hb S.2.2.2.1 (S.2.2.2.2 _ (List.mem_cons_of_mem _ q440)) dJ6_bitCount_0f7a4_29 ?_
  refine lv_iand hx hb dJ6_bitCount_0f7a4_32 ?_
  refine lv_istore_n (lv' := [(0, .int (((((v0 - ((((v0).toUInt32 >>> (((1 : Int32)).toUInt32 &&& Int32.toUInt32 31)).toInt32) &&& (1431655765 : Int32))) &&& (858993459 : Int32)) + (((((v0 - ((((v0).toUInt32 >>> (((1 : Int32)).toUInt32 &&& Int32.toUInt32 31)).toInt32) &&& (1431655765 : Int32)))).toUInt32 >>> (((2 : Int32)).toUInt32 &&& Int32.toUInt32 31)).toInt32) &&& (858993459 : Int32))) + ((((((v0 - ((((v0).toUInt32 >>> (((1 : Int32)).toUInt32 &&& Int32.toUInt32 31)).toInt32) &&& (1431655765 : Int32))) &&& (858993459 : Int32)) + (((((v0 - ((((v0).toUInt32 >>> (((1 : Int32)).toUInt32 &&& Int32.toUInt32 31)).toInt32) &&& (1431655765 : Int32)))).toUInt32 >>> (((2 : Int32)).toUInt32 &&& Int32.toUInt32 31)).toInt32) &&& (858993459 : Int32)))).toUInt32 >>> (((4 : Int32)).toUInt32 &&& Int32.toUInt32 31)).toInt32)) &&& (252645135 : Int32)))]) hx hb dJ6_bitCount_0f7a4_33 rfl hl (by decide) rfl (fun ls hl => ?_)
  refine lv_iload_n hx hb dJ6_bitCount_0f7a4_34 rfl (lv_at hl 0 rfl) ?_
  refine lv_iload_n hx hb dJ6_bitCount_0f7a4_35 rfl (lv_at hl 0 rfl) ?_
  refine lv_bipush (v := (8 : Int32)) hx hb dJ6_bitCount_0f7a4_36 (by decide) ?_
  refine lv_iushr (v := ((((((((v0 - ((((v0).toUInt32 >>> (((1 : Int32)).toUInt32 &&& Int32.toUInt32 31)).toInt32) &&& (1431655765 : Int32))) &&& (858993459 : Int32)) + (((((v0 - ((((v0).toUInt32 >>> (((1 : Int32)).toUInt32 &&& Int32.toUInt32 31)).toInt32) &&& (1431655765 : Int32)))).toUInt32 >>> (((2 : Int32)).toUInt32 &&& Int32.toUInt32 31)).toInt32) &&& (858993459 : Int32))) + ((((((v0 - ((((v0).toUInt32 >>> (((1 : Int32)).toUInt32 &&& Int32.toUInt32 31)).toInt32) &&& (1431655765 : Int32))) &&& (858993459 : Int32)) + (((((v0 - ((((v0).toUInt32 >>> (((1 : Int32)).toUInt32 &&& Int32.toUInt32 31)).toInt32) &&& (1431655765 : Int32)))).toUInt32 >>> (((2 : Int32)).toUInt32 &&& Int32.toUInt32 31)).toInt32) &&& (858993459 : Int32)))).toUInt32 >>> (((4 : Int32)).toUInt32 &&& Int32.toUInt32 31)).toInt32)) &&& (252645135 : Int32))).toUInt32 >>> (((8 : Int32)).toUInt32 &&& Int32.toUInt32 31)).toInt32)) hx hb dJ6_bitCount_0f7a4_38 rfl ?_
  refine lv_iadd hx hb dJ6_bitCount_0f7a4_39 ?_
  refine lv_istore_n (lv' := [(0, .int ((((((v0 - ((((v0).toUInt32 >>> (((1 : Int32)).toUInt32 &&& Int32.toUInt32 31)).toInt32) &&& (1431655765 : Int32))) &&& (858993459 : Int32)) + (((((v0 - ((((v0).toUInt32 >>> (((1 : Int32)).toUInt32 &&& Int32.toUInt32 31)).toInt32) &&& (1431655765 : Int32)))).toUInt32 >>> (((2 : Int32)).toUInt32 &&& Int32.toUInt32 31)).toInt32) &&& (858993459 : Int32))) + ((((((v0 - ((((v0).toUInt32 >>> (((1 : Int32)).toUInt32 &&& Int32.toUInt32 31)).toInt32) &&& (1431655765 : Int32))) &&& (858993459 : Int32)) + (((((v0 - ((((v0).toUInt32 >>> (((1 : Int32)).toUInt32 &&& Int32.toUInt32 31)).toInt32) &&& (1431655765 : Int32)))).toUInt32 >>> (((2 : Int32)).toUInt32 &&& Int32.toUInt32 31)).toInt32) &&& (858993459 : Int32)))).toUInt32 >>> (((4 : Int32)).toUInt32 &&& Int32.toUInt32 31)).toInt32)) &&& (252645135 : Int32)) + ((((((((v0 - ((((v0).toUInt32 >>> (((1 : Int32)).toUInt32 &&& Int32.toUInt32 31)).toInt32) &&& (1431655765 : Int32))) &&& (858993459 : Int32)) + (((((v0 - ((((v0).toUInt32 >>> (((1 : Int32)).toUInt32 &&& Int32.toUInt32 31)).toInt32) &&& (1431655765 : Int32)))).toUInt32 >>> (((2 : Int32)).toUInt32 &&& Int32.toUInt32 31)).toInt32) &&& (858993459 : Int32))) + ((((((v0 - ((((v0).toUInt32 >>> (((1 : Int32)).toUInt32 &&& Int32.toUInt32 31)).toInt32) &&& (1431655765 : Int32))) &&& (858993459 : Int32)) + (((((v0 - ((((v0).toUInt32 >>> (((1 : Int32)).toUInt32 &&& Int32.toUInt32 31)).toInt32) &&& (1431655765 : Int32)))).toUInt32 >>> (((2 : Int32)).toUInt32 &&& Int32.toUInt32 31)).toInt32) &&& (858993459 : Int32)))).toUInt32 >>> (((4 : Int32)).toUInt32 &&& Int32.toUInt32 31)).toInt32)) &&& (252645135 : Int32))).toUInt32 >>> (((8 : Int32)).toUInt32 &&& Int32.toUInt32 31)).toInt32)))]) hx hb dJ6_bitCount_0f7a4_40 rfl hl (by decide) rfl (fun ls hl => ?_)
  refine lv_iload_n hx hb dJ6_bitCount_0f7a4_41 rfl (lv_at hl 0 rfl) ?_
  refine lv_iload_n hx hb dJ6_bitCount_0f7a4_42 rfl (lv_at hl 0 rfl) ?_
  refine lv_bipush (v := (16 : Int32)) hx hb dJ6_bitCount_0f7a4_43 (by decide) ?_
  refine lv_iushr (v := (((((((((v0 - ((((v0).toUInt32 >>> (((1 : Int32)).toUInt32 &&& Int32.toUInt32 31)).toInt32) &&& (1431655765 : Int32))) &&& (858993459 : Int32)) + (((((v0 - ((((v0).toUInt32 >>> (((1 : Int32)).toUInt32 &&& Int32.toUInt32 31)).toInt32) &&& (1431655765 : Int32)))).toUInt32 >>> (((2 : Int32)).toUInt32 &&& Int32.toUInt32 31)).toInt32) &&& (858993459 : Int32))) + ((((((v0 - ((((v0).toUInt32 >>> (((1 : Int32)).toUInt32 &&& Int32.toUInt32 31)).toInt32) &&& (1431655765 : Int32))) &&& (858993459 : Int32)) + (((((v0 - ((((v0).toUInt32 >>> (((1 : Int32)).toUInt32 &&& Int32.toUInt32 31)).toInt32) &&& (1431655765 : Int32)))).toUInt32 >>> (((2 : Int32)).toUInt32 &&& Int32.toUInt32 31)).toInt32) &&& (858993459 : Int32)))).toUInt32 >>> (((4 : Int32)).toUInt32 &&& Int32.toUInt32 31)).toInt32)) &&& (252645135 : Int32)) + ((((((((v0 - ((((v0).toUInt32 >>> (((1 : Int32)).toUInt32 &&& Int32.toUInt32 31)).toInt32) &&& (1431655765 : Int32))) &&& (858993459 : Int32)) + (((((v0 - ((((v0).toUInt32 >>> (((1 : Int32)).toUInt32 &&& Int32.toUInt32 31)).toInt32) &&& (1431655765 : Int32)))).toUInt32 >>> (((2 : Int32)).toUInt32 &&& Int32.toUInt32 31)).toInt32) &&& (858993459 : Int32))) + ((((((v0 - ((((v0).toUInt32 >>> (((1 : Int32)).toUInt32 &&& Int32.toUInt32 31)).toInt32) &&& (1431655765 : Int32))) &&& (858993459 : Int32)) + (((((v0 - ((((v0).toUInt32 >>> (((1 : Int32)).toUInt32 &&& Int32.toUInt32 31)).toInt32) &&& (1431655765 : Int32)))).toUInt32 >>> (((2 : Int32)).toUInt32 &&& Int32.toUInt32 31)).toInt32) &&& (858993459 : Int32)))).toUInt32 >>> (((4 : Int32)).toUInt32 &&& Int32.toUInt32 31)).toInt32)) &&& (252645135 : Int32))).toUInt32 >>> (((8 : Int32)).toUInt32 &&& Int32.toUInt32 31)).toInt32))).toUInt32 >>> (((16 : Int32)).toUInt32 &&& Int32.toUInt32 31)).toInt32)) hx hb dJ6_bitCount_0f7a4_45 rfl ?_
  refine lv_iadd hx hb dJ6_bitCount_0f7a4_46 ?_
  refine lv_istore_n (lv' := [(0, .int (((((((v0 - ((((v0).toUInt32 >>> (((1 : Int32)).toUInt32 &&& Int32.toUInt32 31)).toInt32) &&& (1431655765 : Int32))) &&& (858993459 : Int32)) + (((((v0 - ((((v0).toUInt32 >>> (((1 : Int32)).toUInt32 &&& Int32.toUInt32 31)).toInt32) &&& (1431655765 : Int32)))).toUInt32 >>> (((2 : Int32)).toUInt32 &&& Int32.toUInt32 31)).toInt32) &&& (858993459 : Int32))) + ((((((v0 - ((((v0).toUInt32 >>> (((1 : Int32)).toUInt32 &&& Int32.toUInt32 31)).toInt32) &&& (1431655765 : Int32))) &&& (858993459 : Int32)) + (((((v0 - ((((v0).toUInt32 >>> (((1 : Int32)).toUInt32 &&& Int32.toUInt32 31)).toInt32) &&& (1431655765 : Int32)))).toUInt32 >>> (((2 : Int32)).toUInt32 &&& Int32.toUInt32 31)).toInt32) &&& (858993459 : Int32)))).toUInt32 >>> (((4 : Int32)).toUInt32 &&& Int32.toUInt32 31)).toInt32)) &&& (252645135 : Int32)) + ((((((((v0 - ((((v0).toUInt32 >>> (((1 : Int32)).toUInt32 &&& Int32.toUInt32 31)).toInt32) &&& (1431655765 : Int32))) &&& (858993459 : Int32)) + (((((v0 - ((((v0).toUInt32 >>> (((1 : Int32)).toUInt32 &&& Int32.toUInt32 31)).toInt32) &&& (1431655765 : Int32)))).toUInt32 >>> (((2 : Int32)).toUInt32 &&& Int32.toUInt32 31)).toInt32) &&& (858993459 : Int32))) + ((((((v0 - ((((v0).toUInt32 >>> (((1 : Int32)).toUInt32 &&& Int32.toUInt32 31)).toInt32) &&& (1431655765 : Int32))) &&& (858993459 : Int32)) + (((((v0 - ((((v0).toUInt32 >>> (((1 : Int32)).toUInt32 &&& Int32.toUInt32 31)).toInt32) &&& (1431655765 : Int32)))).toUInt32 >>> (((2 : Int32)).toUInt32 &&& Int32.toUInt32 31)).toInt32) &&& (858993459 : Int32)))).toUInt32 >>> (((4 : Int32)).toUInt32 &&& Int32.toUInt32 31)).toInt32)) &&& (252645135 : Int32))).toUInt32 >>> (((8 : Int32)).toUInt32 &&& Int32.toUInt32 31)).toInt32)) + (((((((((v0 - ((((v0).toUInt32 >>> (((1 : Int32)).toUInt32 &&& Int32.toUInt32 31)).toInt32) &&& (1431655765 : Int32))) &&& (858993459 : Int32)) + (((((v0 - ((((v0).toUInt32 >>> (((1 : Int32)).toUInt32 &&& Int32.toUInt32 31)).toInt32) &&& (1431655765 : Int32)))).toUInt32 >>> (((2 : Int32)).toUInt32 &&& Int32.toUInt32 31)).toInt32) &&& (858993459 : Int32))) + ((((((v0 - ((((v0).toUInt32 >>> (((1 : Int32)).toUInt32 &&& Int32.toUInt32 31)).toInt32) &&& (1431655765 : Int32))) &&& (858993459 : Int32)) + (((((v0 - ((((v0).toUInt32 >>> (((1 : Int32)).toUInt32 &&& Int32.toUInt32 31)).toInt32) &&& (1431655765 : Int32)))).toUInt32 >>> (((2 : Int32)).toUInt32 &&& Int32.toUInt32 31)).toInt32) &&& (858993459 : Int32)))).toUInt32 >>> (((4 : Int32)).toUInt32 &&& Int32.toUInt32 31)).toInt32)) &&& (252645135 : Int32)) + ((((((((v0 - ((((v0).toUInt32 >>> (((1 : Int32)).toUInt32 &&& Int32.toUInt32 31)).toInt32) &&& (1431655765 : Int32))) &&& (858993459 : Int32)) + (((((v0 - ((((v0).toUInt32 >>> (((1 : Int32)).toUInt32 &&& Int32.toUInt32 31)).toInt32) &&& (1431655765 : Int32)))).toUInt32 >>> (((2 : Int32)).toUInt32 &&& Int32.toUInt32 31)).toInt32) &&& (858993459 : Int32))) + ((((((v0 - ((((v0).toUInt32 >>> (((1 : Int32)).toUInt32 &&& Int32.toUInt32 31)).toInt32) &&& (1431655765 : Int32))) &&& (858993459 : Int32)) + (((((v0 - ((((v0).toUInt32 >>> (((1 : Int32)).toUInt32 &&& Int32.toUInt32 31)).toInt32) &&& (1431655765 : Int32)))).toUInt32 >>> (((2 : Int32)).toUInt32 &&& Int32.toUInt32 31)).toInt32) &&& (858993459 : Int32)))).toUInt32 >>> (((4 : Int32)).toUInt32 &&& Int32.toUInt32 31)).toInt32)) &&& (252645135 : Int32))).toUInt32 >>> (((8 : Int32)).toUInt32 &&& Int32.toUInt32 31)).toInt32))).toUInt32 >>> (((16 : Int32)).toUInt32 &&& Int32.toUInt32 31)).toInt32)))]) hx hb dJ6_bitCount_0f7a4_47 rfl hl (by decide) rfl (fun ls hl => ?_)
  refine lv_iload_n hx hb dJ6_bitCount_0f7a4_48 rfl (lv_at hl 0 rfl) ?_
  refine lv_bipush (v := (63 : Int32)) hx hb dJ6_bitCount_0f7a4_49 (by decide) ?_
  refine lv_iand hx hb dJ6_bitCount_0f7a4_51 ?_
  exact u_iretr hx hb hr hlocks rfl hP hD hS dJ6_bitCount_0f7a4_52 hf (fun _ => rfl)
theorem iX1_isLeaner : YI yX1_isLeaner cX1_isLeaner 4 (some .boolean) 2 := ⟨q434, q3, by decide, by decide, by decide +kernel⟩
theorem vX1_isLeaner : YV yX1_isLeaner := ⟨q432, q433⟩
set_option maxRecDepth 100000 in
set_option maxHeartbeats 4000000 in
theorem c_X1_isLeaner (l : Launch) (D : va_G) (cy : Nat → ClassId) (ad : Nat → Nat) (σ : St) (v1 : Int32) (v2 : Int32) (r : Int32) (hf : fX1_isLeaner σ v1 v2 = some r) : Ci l D cy (wX cy ad) yX1_isLeaner cX1_isLeaner 4 .boolean 1 23 [.ref (ad 2), .int v1, .int v2] σ r σ 0 0 := by
  refine Ci.enter (by decide) (Nat.le_of_ble_eq_true rfl) ?_
  intro aw ac p e s m below meth c A H locs S hr hlocks hA hK hP hD hS ls hl
  have hx := S.1
  have hb := S.2.1
  have hl : lv_has ls 4 [(0, .ref (ad 2)), (1, .int v1), (2, .int v2)] := hl
  unfold fX1_isLeaner at hf
  refine lv_iload_n hx hb dX1_isLeaner_0 rfl (lv_at hl 1 rfl) ?_
  obtain ⟨r1, h1, hf⟩ := ob_some hf
  refine p_calli0 (u_runS (rest := []) S (c_J6_bitCount_0f7a4 l D cy σ v1 r1 h1 aw ac H.size) iJ6_bitCount_0f7a4 q436 q435 ⟨Nat.le_of_ble_eq_true rfl, Nat.le_of_ble_eq_true rfl⟩ hK wN_P (wN_D (A := fun _ => True)) rfl hl.1 (Nat.le_of_ble_eq_true rfl) dX1_isLeaner_1 ⟨Nat.le_refl _, Nat.le_refl _⟩) hP hS hA (fun H locs hP hS => ?_)
  refine lv_iload_n hx hb dX1_isLeaner_4 rfl (lv_at hl 2 rfl) ?_
  obtain ⟨r5, h5, hf⟩ := ob_some hf
  refine p_calli0 (u_runS (rest := [.int r1]) S (c_J6_bitCount_0f7a4 l D cy σ v2 r5 h5 aw ac H.size) iJ6_bitCount_0f7a4 q436 q435 ⟨Nat.le_of_ble_eq_true rfl, Nat.le_of_ble_eq_true rfl⟩ hK wN_P (wN_D (A := fun _ => True)) rfl hl.1 (Nat.le_of_ble_eq_true rfl) dX1_isLeaner_5 ⟨Nat.le_refl _, Nat.le_refl _⟩) hP hS hA (fun H locs hP hS => ?_)
  refine lv_isub hx hb dX1_isLeaner_8 ?_
  refine lv_istore_n (lv' := [(3, .int (r1 - r5)), (0, .ref (ad 2)), (1, .int v1), (2, .int v2)]) hx hb dX1_isLeaner_9 rfl hl (by decide) rfl (fun ls hl => ?_)
  refine lv_iload_n hx hb dX1_isLeaner_10 rfl (lv_at hl 0 rfl) ?_
  refine lv_if_lt (tgt := 31) hx hb dX1_isLeaner_11 (by decide) (fun c11 => ?_) (fun c11 => ?_)
  · have hf := ifp c11 hf
    refine lv_iconst (v := (1 : Int32)) hx hb dX1_isLeaner_31 (by decide) ?_
    refine lv_goto (tgt := 36) hx hb dX1_isLeaner_32 (by decide) ?_
    exact u_iretr hx hb hr hlocks rfl hP hD hS dX1_isLeaner_36 hf (fun _ => rfl)
  · have hf := ifn c11 hf
    refine lv_iload_n hx hb dX1_isLeaner_14 rfl (lv_at hl 0 rfl) ?_
    refine lv_if_ne (tgt := 35) hx hb dX1_isLeaner_15 (by decide) (fun c15 => ?_) (fun c15 => ?_)
    · have hf := ifn c15 hf
      refine lv_iconst (v := (0 : Int32)) hx hb dX1_isLeaner_35 (by decide) ?_
      exact u_iretr hx hb hr hlocks rfl hP hD hS dX1_isLeaner_36 hf (fun _ => rfl)
    · have hf := ifp c15 hf
      refine lv_aload_n hx hb dX1_isLeaner_18 rfl (lv_at hl 1 rfl) ?_
      refine lv_iload_n hx hb dX1_isLeaner_19 rfl (lv_at hl 2 rfl) ?_
      obtain ⟨r20, h20, hf⟩ := ob_some hf
      refine u_calli0 (u_runV (rest := []) S (c_X1_weightOf l D cy ad σ v1 r20 h20 aw ac H.size) iX1_weightOf vX1_weightOf q441 ⟨Nat.le_of_ble_eq_true rfl, Nat.le_of_ble_eq_true rfl⟩ hK hP hD (q0 := 2) rfl rfl rfl hl.1 (Nat.le_of_ble_eq_true rfl) dX1_isLeaner_20 ⟨Nat.le_refl _, Nat.le_refl _⟩) hD hS hA (fun H locs hP hD hS => ?_)
      refine lv_aload_n hx hb dX1_isLeaner_23 rfl (lv_at hl 1 rfl) ?_
      refine lv_iload_n hx hb dX1_isLeaner_24 rfl (lv_at hl 3 rfl) ?_
      obtain ⟨r25, h25, hf⟩ := ob_some hf
      refine u_calli0 (u_runV (rest := [.int r20]) S (c_X1_weightOf l D cy ad σ v2 r25 h25 aw ac H.size) iX1_weightOf vX1_weightOf q441 ⟨Nat.le_of_ble_eq_true rfl, Nat.le_of_ble_eq_true rfl⟩ hK hP hD (q0 := 2) rfl rfl rfl hl.1 (Nat.le_of_ble_eq_true rfl) dX1_isLeaner_25 ⟨Nat.le_refl _, Nat.le_refl _⟩) hD hS hA (fun H locs hP hD hS => ?_)
      refine lv_icmp_ge (tgt := 35) hx hb dX1_isLeaner_28 (by decide) (fun c28 => ?_) (fun c28 => ?_)
      · have hf := ifp c28 hf
        refine lv_iconst (v := (0 : Int32)) hx hb dX1_isLeaner_35 (by decide) ?_
        exact u_iretr hx hb hr hlocks rfl hP hD hS dX1_isLeaner_36 hf (fun _ => rfl)
      · have hf := ifn c28 hf
        refine lv_iconst (v := (1 : Int32)) hx hb dX1_isLeaner_31 (by decide) ?_
        refine lv_goto (tgt := 36) hx hb dX1_isLeaner_32 (by decide) ?_
        exact u_iretr hx hb hr hlocks rfl hP hD hS dX1_isLeaner_36 hf (fun _ => rfl)
theorem iX1_spend : YI yX1_spend cX1_spend 4 none 2 := ⟨q468, q3, by decide, by decide, by decide +kernel⟩
theorem vX1_spend : YV yX1_spend := ⟨q466, q467⟩
set_option maxRecDepth 100000 in
set_option maxHeartbeats 4000000 in
theorem c_X1_spend (l : Launch) (D : va_G) (cy : Nat → ClassId) (ad : Nat → Nat) (σ : St) (v1 : Int32) (v2 : Int32) (q : St) (hf : fX1_spend σ v1 v2 = some q) : Cv l D cy (wX cy ad) yX1_spend cX1_spend 4 0 0 [.ref (ad 2), .int v1, .int v2] σ q 0 0 := by
  refine Cv.enter (by decide) (Nat.le_of_ble_eq_true rfl) ?_
  intro aw ac p e s m below meth c A H locs S hr hlocks hA hK hP hD hS ls hl
  have hx := S.1
  have hb := S.2.1
  have hl : lv_has ls 4 [(0, .ref (ad 2)), (1, .int v1), (2, .int v2)] := hl
  unfold fX1_spend at hf
  refine lv_iconst (v := (0 : Int32)) hx hb dX1_spend_0 (by decide) ?_
  refine lv_istore_n (lv' := [(3, .int (0 : Int32)), (0, .ref (ad 2)), (1, .int v1), (2, .int v2)]) hx hb dX1_spend_1 rfl hl (by decide) rfl (fun ls hl => ?_)
  have L2 : ∀ (n2 : Nat) (v3_2 : Int32) (σ2 : St) (H : Heap) (locs : List Loc) (ls : Array Slot), fX1_spend_2 (fX1_spend_2_k v1 v2) v1 v2 n2 σ2 v3_2 = some q → va_P D vwCl (wX cy ad aw ac σ2) H → va_D A (wX cy ad aw ac σ2) → va_S A s.heap H locs → lv_has ls 4 [(0, .ref (ad 2)), (1, .int v1), (2, .int v2), (3, .int v3_2)] → W p l e (Rm 0 0 0 0) s m [.ref (ad 2), .int v1, .int v2].toArray below meth c H locs 0 0 (Zv D (wX cy ad) A q aw ac below [.ref (ad 2), .int v1, .int v2].toArray s 0 0) (F0 m 2 ls []) := by
    intro n2
    induction n2 with
    | zero =>
      intro v3_2 σ2 H locs ls hf
      cases hf
    | succ n2 ih2 =>
      intro v3_2 σ2 H locs ls hf hP hD hS hl
      rw [fX1_spend_2] at hf
      refine lv_iload_n hx hb dX1_spend_2 rfl (lv_at hl 3 rfl) ?_
      refine lv_aload_n hx hb dX1_spend_3 rfl (lv_at hl 0 rfl) ?_
      refine gX_crew_size S hK hP q63 dX1_spend_4 ?_
      refine lv_icmp_ge (tgt := 32) hx hb dX1_spend_7 (by decide) (fun c7 => ?_) (fun c7 => ?_)
      · have hf := ifp c7 hf
        have hl := lv_sub (l' := [(0, .ref (ad 2)), (1, .int v1), (2, .int v2), (3, .int v3_2)]) hl [0, 1, 2, 3] rfl
        unfold fX1_spend_2_k at hf
        exact u_vretw hx hb hr hlocks hP hD hS dX1_spend_32 hf (fun _ => rfl)
      · have hf := ifn c7 hf
        refine lv_aload_n hx hb dX1_spend_10 rfl (lv_at hl 0 rfl) ?_
        refine gX_crew_breaths S hK hP q61 dX1_spend_11 ?_
        refine lv_iload_n hx hb dX1_spend_14 rfl (lv_at hl 3 rfl) ?_
        refine lv_dup2_11 hx hb dX1_spend_15 rfl rfl ?_
        obtain ⟨h16, hf⟩ := if_in hf
        refine lX_11 S hK hP h16 dX1_spend_16 ?_
        refine lv_iload_n hx hb dX1_spend_17 rfl (lv_at hl 1 rfl) ?_
        refine lv_iload_n hx hb dX1_spend_18 rfl (lv_at hl 3 rfl) ?_
        refine lv_ishr hx hb dX1_spend_19 ?_
        refine lv_iconst (v := (1 : Int32)) hx hb dX1_spend_20 (by decide) ?_
        refine lv_iand hx hb dX1_spend_21 ?_
        refine lv_iload_n hx hb dX1_spend_22 rfl (lv_at hl 2 rfl) ?_
        refine lv_imul hx hb dX1_spend_23 ?_
        refine lv_isub hx hb dX1_spend_24 ?_
        obtain ⟨h25, hf⟩ := if_in hf
        refine tX_11 S hK hP hD hS h25 dX1_spend_25 (fun H locs hP hD hS => ?_)
        refine lv_iinc (v := (v3_2 + (1 : Int32))) (lv' := [(3, .int (v3_2 + (1 : Int32))), (0, .ref (ad 2)), (1, .int v1), (2, .int v2)]) hx hb dX1_spend_26 hl (k := 3) rfl rfl (by decide) rfl (fun ls hl => ?_)
        refine lv_goto (tgt := 2) hx hb dX1_spend_29 (by decide) ?_
        exact ih2 (v3_2 + (1 : Int32)) (sa σ2 11 v3_2.toNatClampNeg ((ga σ2 11 v3_2.toNatClampNeg) - (((v1 >>> (v3_2 &&& 31)) &&& (1 : Int32)) * v2))) H locs ls hf hP hD hS (lv_sub hl [1, 2, 3, 0] rfl)
  exact L2 KF (0 : Int32) σ H locs ls hf hP hD hS (lv_sub hl [1, 2, 3, 0] rfl)
