theorem iX8_all : YI yX8_all cX8_all 1 (some .int) 0 := ⟨q543, q6, by decide, by decide, by decide +kernel⟩
theorem vX8_all : YV yX8_all := ⟨q541, q542⟩
set_option maxRecDepth 100000 in
set_option maxHeartbeats 4000000 in
theorem c_X8_all (l : Launch) (D : va_G) (cy : Nat → ClassId) (ad : Nat → Nat) (σ : St) (r : Int32) (hf : fX8_all σ = some r) : Ci l D cy (wX cy ad) yX8_all cX8_all 1 .int 0 0 [.ref (ad 5)] σ r σ 0 0 := by
  refine Ci.enter (by decide) (Nat.le_of_ble_eq_true rfl) ?_
  intro aw ac p e s m below meth c A H locs S hr hlocks hA hK hP hD hS ls hl
  have hx := S.1
  have hb := S.2.1
  have hl : lv_has ls 1 [(0, .ref (ad 5))] := hl
  unfold fX8_all at hf
  refine lv_iconst (v := (1 : Int32)) hx hb dX8_all_0 (by decide) ?_
  refine lv_aload_n hx hb dX8_all_1 rfl (lv_at hl 0 rfl) ?_
  refine gX_stones_size S hK hP q133 dX8_all_2 ?_
  refine lv_ishl hx hb dX8_all_5 ?_
  refine lv_iconst (v := (1 : Int32)) hx hb dX8_all_6 (by decide) ?_
  refine lv_isub hx hb dX8_all_7 ?_
  exact u_iretr hx hb hr hlocks rfl hP hD hS dX8_all_8 hf (fun _ => rfl)
theorem iJ7_fill_d0a16 : YI yJ7_fill_d0a16 cJ7_fill_d0a16 5 none 2 := ⟨q638, q10, by decide, by decide, by decide +kernel⟩
set_option maxRecDepth 100000 in
set_option maxHeartbeats 4000000 in
theorem c_J7_fill_d0a16 (l : Launch) (D : va_G) (cy : Nat → ClassId) (ad : Nat → Nat) (σ : St) (v1 : Int64) (q : St) (hf : fJ7_fill_d0a16 σ v1 = some q) (aw ac sz : Nat) : Met l yJ7_fill_d0a16 (CW yJ7_fill_d0a16 cJ7_fill_d0a16 5 none) (Rm 0 0 0 0) (va_Pc [.ref aw, .long v1] (UP D cy (wX cy ad aw ac σ) sz)) (va_Qv (fun (u : Nat × Nat) => UQ 0 aw ac u) (UB D (wX cy ad) (va_A (wX cy ad aw ac σ) sz) q) (va_A (wX cy ad aw ac σ) sz)) 0 0 (va_A (wX cy ad aw ac σ) sz) := by
  refine Cv.enterA (by decide) (Nat.le_of_ble_eq_true rfl) ?_
  intro p e s m below meth c A H locs S hr hlocks hA hK hP hD hS ls hl
  have hx := S.1
  have hb := S.2.1
  have hl : lv_has ls 5 [(0, .ref aw), (1, .long v1)] := hl
  unfold fJ7_fill_d0a16 at hf
  refine lv_iconst (v := (0 : Int32)) hx hb dJ7_fill_d0a16_0 (by decide) ?_
  refine lv_istore_n (lv' := [(3, .int (0 : Int32)), (0, .ref aw), (1, .long v1)]) hx hb dJ7_fill_d0a16_1 rfl hl (by decide) rfl (fun ls hl => ?_)
  refine lv_aload_n hx hb dJ7_fill_d0a16_2 rfl (lv_at hl 1 rfl) ?_
  refine nX_32 S hK hP dJ7_fill_d0a16_3 ?_
  refine lv_istore (lv' := [(4, .int (nI (gn σ 32))), (3, .int (0 : Int32)), (0, .ref aw), (1, .long v1)]) hx hb dJ7_fill_d0a16_4 hl (by decide) rfl (fun ls hl => ?_)
  have L6 : ∀ (n6 : Nat) (v4_6 : Int32) (v3_6 : Int32) (σ6 : St) (H : Heap) (locs : List Loc) (ls : Array Slot), fJ7_fill_d0a16_6 (fJ7_fill_d0a16_6_k v1 v4_6) v1 v4_6 n6 σ6 v3_6 = some q → va_P D vwCl (wX cy ad aw ac σ6) H → va_D A (wX cy ad aw ac σ6) → va_S A s.heap H locs → lv_has ls 5 [(0, .ref aw), (1, .long v1), (3, .int v3_6), (4, .int v4_6)] → W p l e (Rm 0 0 0 0) s m [.ref aw, .long v1].toArray below meth c H locs 0 0 (Zv D (wX cy ad) A q aw ac below [.ref aw, .long v1].toArray s 0 0) (F0 m 6 ls []) := by
    intro n6
    induction n6 with
    | zero =>
      intro v4_6 v3_6 σ6 H locs ls hf
      cases hf
    | succ n6 ih6 =>
      intro v4_6 v3_6 σ6 H locs ls hf hP hD hS hl
      rw [fJ7_fill_d0a16_6] at hf
      refine lv_iload_n hx hb dJ7_fill_d0a16_6 rfl (lv_at hl 2 rfl) ?_
      refine lv_iload hx hb dJ7_fill_d0a16_7 (lv_at hl 3 rfl) ?_
      refine lv_icmp_ge (tgt := 22) hx hb dJ7_fill_d0a16_9 (by decide) (fun c9 => ?_) (fun c9 => ?_)
      · have hf := ifp c9 hf
        have hl := lv_sub (l' := [(0, .ref aw), (1, .long v1), (3, .int v3_6), (4, .int v4_6)]) hl [0, 1, 2, 3] rfl
        unfold fJ7_fill_d0a16_6_k at hf
        exact u_vretw hx hb hr hlocks hP hD hS dJ7_fill_d0a16_22 hf (fun _ => rfl)
      · have hf := ifn c9 hf
        refine lv_aload_n hx hb dJ7_fill_d0a16_12 rfl (lv_at hl 0 rfl) ?_
        refine lv_iload_n hx hb dJ7_fill_d0a16_13 rfl (lv_at hl 2 rfl) ?_
        refine lv_lload_n hx hb dJ7_fill_d0a16_14 rfl (lv_at hl 1 rfl) ?_
        obtain ⟨h15, hf⟩ := if_in hf
        refine tX_32 S hK hP hD hS h15 dJ7_fill_d0a16_15 (fun H locs hP hD hS => ?_)
        refine lv_iinc (v := (v3_6 + (1 : Int32))) (lv' := [(3, .int (v3_6 + (1 : Int32))), (0, .ref aw), (1, .long v1), (4, .int v4_6)]) hx hb dJ7_fill_d0a16_16 hl (k := 2) rfl rfl (by decide) rfl (fun ls hl => ?_)
        refine lv_goto (tgt := 6) hx hb dJ7_fill_d0a16_19 (by decide) ?_
        exact ih6 v4_6 (v3_6 + (1 : Int32)) (sb σ6 32 v3_6.toNatClampNeg v1) H locs ls hf hP hD hS (lv_sub hl [1, 2, 0, 3] rfl)
  exact L6 KF (nI (gn σ 32)) (0 : Int32) σ H locs ls hf hP hD hS (lv_sub hl [2, 3, 1, 0] rfl)
theorem iX8_isCentred : YI yX8_isCentred cX8_isCentred 5 (some .boolean) 1 := ⟨q622, q6, by decide, by decide, by decide +kernel⟩
theorem vX8_isCentred : YV yX8_isCentred := ⟨q620, q621⟩
set_option maxRecDepth 100000 in
set_option maxHeartbeats 4000000 in
theorem c_X8_isCentred (l : Launch) (D : va_G) (cy : Nat → ClassId) (ad : Nat → Nat) (σ : St) (v1 : Int32) (r : Int32) (hf : fX8_isCentred σ v1 = some r) : Ci l D cy (wX cy ad) yX8_isCentred cX8_isCentred 5 .boolean 0 0 [.ref (ad 5), .int v1] σ r σ 0 0 := by
  refine Ci.enter (by decide) (Nat.le_of_ble_eq_true rfl) ?_
  intro aw ac p e s m below meth c A H locs S hr hlocks hA hK hP hD hS ls hl
  have hx := S.1
  have hb := S.2.1
  have hl : lv_has ls 5 [(0, .ref (ad 5)), (1, .int v1)] := hl
  unfold fX8_isCentred at hf
  refine lv_aload_n hx hb dX8_isCentred_0 rfl (lv_at hl 0 rfl) ?_
  refine gX_stones_everyKey S hK hP q132 dX8_isCentred_1 ?_
  refine lv_iload_n hx hb dX8_isCentred_4 rfl (lv_at hl 1 rfl) ?_
  refine lv_iconst (v := (-1 : Int32)) hx hb dX8_isCentred_5 (by decide) ?_
  refine lv_ixor hx hb dX8_isCentred_6 ?_
  refine lv_iand hx hb dX8_isCentred_7 ?_
  refine lv_istore_n (lv' := [(2, .int ((gi σ 9) &&& (v1 ^^^ (-1 : Int32)))), (0, .ref (ad 5)), (1, .int v1)]) hx hb dX8_isCentred_8 rfl hl (by decide) rfl (fun ls hl => ?_)
  refine lv_iconst (v := (0 : Int32)) hx hb dX8_isCentred_9 (by decide) ?_
  refine lv_istore_n (lv' := [(3, .int (0 : Int32)), (2, .int ((gi σ 9) &&& (v1 ^^^ (-1 : Int32)))), (0, .ref (ad 5)), (1, .int v1)]) hx hb dX8_isCentred_10 rfl hl (by decide) rfl (fun ls hl => ?_)
  refine lv_iconst (v := (0 : Int32)) hx hb dX8_isCentred_11 (by decide) ?_
  refine lv_istore (lv' := [(4, .int (0 : Int32)), (3, .int (0 : Int32)), (2, .int ((gi σ 9) &&& (v1 ^^^ (-1 : Int32)))), (0, .ref (ad 5)), (1, .int v1)]) hx hb dX8_isCentred_12 hl (by decide) rfl (fun ls hl => ?_)
  have L14 : ∀ (n14 : Nat) (v2_14 : Int32) (v3_14 : Int32) (v4_14 : Int32) (H : Heap) (locs : List Loc) (ls : Array Slot), fX8_isCentred_14 (fX8_isCentred_14_k σ v1 v2_14) σ v1 v2_14 n14 v3_14 v4_14 = some r → va_P D vwCl (wX cy ad aw ac σ) H → va_D A (wX cy ad aw ac σ) → va_S A s.heap H locs → lv_has ls 5 [(0, .ref (ad 5)), (1, .int v1), (2, .int v2_14), (3, .int v3_14), (4, .int v4_14)] → W p l e (Rm 0 0 0 0) s m [.ref (ad 5), .int v1].toArray below meth c H locs 0 0 (Zi D (wX cy ad) A r σ aw ac below [.ref (ad 5), .int v1].toArray s 0 0) (F0 m 14 ls []) := by
    intro n14
    induction n14 with
    | zero =>
      intro v2_14 v3_14 v4_14 H locs ls hf
      cases hf
    | succ n14 ih14 =>
      intro v2_14 v3_14 v4_14 H locs ls hf hP hD hS hl
      rw [fX8_isCentred_14] at hf
      refine lv_iload_n hx hb dX8_isCentred_14 rfl (lv_at hl 2 rfl) ?_
      refine lv_if_eq (tgt := 58) hx hb dX8_isCentred_15 (by decide) (fun c15 => ?_) (fun c15 => ?_)
      · have hf := ifp c15 hf
        have hl := lv_sub (l' := [(0, .ref (ad 5)), (1, .int v1), (2, .int v2_14), (3, .int v3_14), (4, .int v4_14)]) hl [0, 1, 2, 3, 4] rfl
        unfold fX8_isCentred_14_k at hf
        refine lv_iload_n hx hb dX8_isCentred_58 rfl (lv_at hl 3 rfl) ?_
        refine lv_aload_n hx hb dX8_isCentred_59 rfl (lv_at hl 0 rfl) ?_
        refine gX_stones_centrings S hK hP q137 dX8_isCentred_60 ?_
        refine lv_icmp_gt (tgt := 70) hx hb dX8_isCentred_63 (by decide) (fun c63 => ?_) (fun c63 => ?_)
        · have hf := ifp c63 hf
          refine lv_iconst (v := (0 : Int32)) hx hb dX8_isCentred_70 (by decide) ?_
          exact u_iretr hx hb hr hlocks rfl hP hD hS dX8_isCentred_71 hf (fun _ => rfl)
        · have hf := ifn c63 hf
          refine lv_iconst (v := (1 : Int32)) hx hb dX8_isCentred_66 (by decide) ?_
          refine lv_goto (tgt := 71) hx hb dX8_isCentred_67 (by decide) ?_
          exact u_iretr hx hb hr hlocks rfl hP hD hS dX8_isCentred_71 hf (fun _ => rfl)
      · have hf := ifn c15 hf
        refine lv_iload hx hb dX8_isCentred_18 (lv_at hl 4 rfl) ?_
        refine lv_aload_n hx hb dX8_isCentred_20 rfl (lv_at hl 0 rfl) ?_
        refine gX_stones_size S hK hP q133 dX8_isCentred_21 ?_
        refine lv_icmp_ge (tgt := 58) hx hb dX8_isCentred_24 (by decide) (fun c24 => ?_) (fun c24 => ?_)
        · have hf := ifp c24 hf
          have hl := lv_sub (l' := [(0, .ref (ad 5)), (1, .int v1), (2, .int v2_14), (3, .int v3_14), (4, .int v4_14)]) hl [0, 1, 2, 3, 4] rfl
          unfold fX8_isCentred_14_k at hf
          refine lv_iload_n hx hb dX8_isCentred_58 rfl (lv_at hl 3 rfl) ?_
          refine lv_aload_n hx hb dX8_isCentred_59 rfl (lv_at hl 0 rfl) ?_
          refine gX_stones_centrings S hK hP q137 dX8_isCentred_60 ?_
          refine lv_icmp_gt (tgt := 70) hx hb dX8_isCentred_63 (by decide) (fun c63 => ?_) (fun c63 => ?_)
          · have hf := ifp c63 hf
            refine lv_iconst (v := (0 : Int32)) hx hb dX8_isCentred_70 (by decide) ?_
            exact u_iretr hx hb hr hlocks rfl hP hD hS dX8_isCentred_71 hf (fun _ => rfl)
          · have hf := ifn c63 hf
            refine lv_iconst (v := (1 : Int32)) hx hb dX8_isCentred_66 (by decide) ?_
            refine lv_goto (tgt := 71) hx hb dX8_isCentred_67 (by decide) ?_
            exact u_iretr hx hb hr hlocks rfl hP hD hS dX8_isCentred_71 hf (fun _ => rfl)
        · have hf := ifn c24 hf
          refine lv_iload_n hx hb dX8_isCentred_27 rfl (lv_at hl 2 rfl) ?_
          refine lv_iload hx hb dX8_isCentred_28 (lv_at hl 4 rfl) ?_
          refine lv_ishr hx hb dX8_isCentred_30 ?_
          refine lv_iconst (v := (1 : Int32)) hx hb dX8_isCentred_31 (by decide) ?_
          refine lv_iand hx hb dX8_isCentred_32 ?_
          refine lv_iconst (v := (1 : Int32)) hx hb dX8_isCentred_33 (by decide) ?_
          refine lv_icmp_ne (tgt := 52) hx hb dX8_isCentred_34 (by decide) (fun c34 => ?_) (fun c34 => ?_)
          · have hf := ifn c34 hf
            refine lv_iinc (v := (v4_14 + (1 : Int32))) (lv' := [(4, .int (v4_14 + (1 : Int32))), (0, .ref (ad 5)), (1, .int v1), (2, .int v2_14), (3, .int v3_14)]) hx hb dX8_isCentred_52 hl (k := 4) rfl rfl (by decide) rfl (fun ls hl => ?_)
            refine lv_goto (tgt := 14) hx hb dX8_isCentred_55 (by decide) ?_
            exact ih14 v2_14 v3_14 (v4_14 + (1 : Int32)) H locs ls hf hP hD hS (lv_sub hl [1, 2, 3, 4, 0] rfl)
          · have hf := ifp c34 hf
            refine lv_aload_n hx hb dX8_isCentred_37 rfl (lv_at hl 0 rfl) ?_
            refine gX_stones_freed S hK hP q131 dX8_isCentred_38 ?_
            refine lv_iload hx hb dX8_isCentred_41 (lv_at hl 4 rfl) ?_
            obtain ⟨h43, hf⟩ := if_in hf
            refine lX_22 S hK hP h43 dX8_isCentred_43 ?_
            refine lv_iload_n hx hb dX8_isCentred_44 rfl (lv_at hl 1 rfl) ?_
            refine lv_iand hx hb dX8_isCentred_45 ?_
            refine lv_if_eq (tgt := 52) hx hb dX8_isCentred_46 (by decide) (fun c46 => ?_) (fun c46 => ?_)
            · have hf := ifp c46 hf
              refine lv_iinc (v := (v4_14 + (1 : Int32))) (lv' := [(4, .int (v4_14 + (1 : Int32))), (0, .ref (ad 5)), (1, .int v1), (2, .int v2_14), (3, .int v3_14)]) hx hb dX8_isCentred_52 hl (k := 4) rfl rfl (by decide) rfl (fun ls hl => ?_)
              refine lv_goto (tgt := 14) hx hb dX8_isCentred_55 (by decide) ?_
              exact ih14 v2_14 v3_14 (v4_14 + (1 : Int32)) H locs ls hf hP hD hS (lv_sub hl [1, 2, 3, 4, 0] rfl)
            · have hf := ifn c46 hf
              refine lv_iinc (v := (v3_14 + (1 : Int32))) (lv' := [(3, .int (v3_14 + (1 : Int32))), (0, .ref (ad 5)), (1, .int v1), (2, .int v2_14), (4, .int v4_14)]) hx hb dX8_isCentred_49 hl (k := 3) rfl rfl (by decide) rfl (fun ls hl => ?_)
              refine lv_iinc (v := (v4_14 + (1 : Int32))) (lv' := [(4, .int (v4_14 + (1 : Int32))), (3, .int (v3_14 + (1 : Int32))), (0, .ref (ad 5)), (1, .int v1), (2, .int v2_14)]) hx hb dX8_isCentred_52 hl (k := 4) rfl rfl (by decide) rfl (fun ls hl => ?_)
              refine lv_goto (tgt := 14) hx hb dX8_isCentred_55 (by decide) ?_
              exact ih14 v2_14 (v3_14 + (1 : Int32)) (v4_14 + (1 : Int32)) H locs ls hf hP hD hS (lv_sub hl [2, 3, 4, 1, 0] rfl)
  exact L14 KF ((gi σ 9) &&& (v1 ^^^ (-1 : Int32))) (0 : Int32) (0 : Int32) H locs ls hf hP hD hS (lv_sub hl [3, 4, 2, 1, 0] rfl)
theorem iX8_isBorne : YI yX8_isBorne cX8_isBorne 3 (some .boolean) 2 := ⟨q618, q6, by decide, by decide, by decide +kernel⟩
theorem vX8_isBorne : YV yX8_isBorne := ⟨q616, q617⟩
set_option maxRecDepth 100000 in
set_option maxHeartbeats 4000000 in
theorem c_X8_isBorne (l : Launch) (D : va_G) (cy : Nat → ClassId) (ad : Nat → Nat) (σ : St) (v1 : Int32) (v2 : Int32) (r : Int32) (hf : fX8_isBorne σ v1 v2 = some r) : Ci l D cy (wX cy ad) yX8_isBorne cX8_isBorne 3 .boolean 0 0 [.ref (ad 5), .int v1, .int v2] σ r σ 0 0 := by
  refine Ci.enter (by decide) (Nat.le_of_ble_eq_true rfl) ?_
  intro aw ac p e s m below meth c A H locs S hr hlocks hA hK hP hD hS ls hl
  have hx := S.1
  have hb := S.2.1
  have hl : lv_has ls 3 [(0, .ref (ad 5)), (1, .int v1), (2, .int v2)] := hl
  unfold fX8_isBorne at hf
  refine lv_iload_n hx hb dX8_isBorne_0 rfl (lv_at hl 2 rfl) ?_
  refine lv_iload_n hx hb dX8_isBorne_1 rfl (lv_at hl 1 rfl) ?_
  refine lv_ishr hx hb dX8_isBorne_2 ?_
  refine lv_iconst (v := (1 : Int32)) hx hb dX8_isBorne_3 (by decide) ?_
  refine lv_iand hx hb dX8_isBorne_4 ?_
  refine lv_if_ne (tgt := 25) hx hb dX8_isBorne_5 (by decide) (fun c5 => ?_) (fun c5 => ?_)
  · have hf := ifn c5 hf
    refine lv_iconst (v := (0 : Int32)) hx hb dX8_isBorne_25 (by decide) ?_
    exact u_iretr hx hb hr hlocks rfl hP hD hS dX8_isBorne_26 hf (fun _ => rfl)
  · have hf := ifp c5 hf
    refine lv_aload_n hx hb dX8_isBorne_8 rfl (lv_at hl 0 rfl) ?_
    refine gX_stones_rests S hK hP q127 dX8_isBorne_9 ?_
    refine lv_iload_n hx hb dX8_isBorne_12 rfl (lv_at hl 1 rfl) ?_
    obtain ⟨h13, hf⟩ := if_in hf
    refine lX_20 S hK hP h13 dX8_isBorne_13 ?_
    refine lv_iload_n hx hb dX8_isBorne_14 rfl (lv_at hl 2 rfl) ?_
    refine lv_iconst (v := (-1 : Int32)) hx hb dX8_isBorne_15 (by decide) ?_
    refine lv_ixor hx hb dX8_isBorne_16 ?_
    refine lv_iand hx hb dX8_isBorne_17 ?_
    refine lv_if_ne (tgt := 25) hx hb dX8_isBorne_18 (by decide) (fun c18 => ?_) (fun c18 => ?_)
    · have hf := ifn c18 hf
      refine lv_iconst (v := (0 : Int32)) hx hb dX8_isBorne_25 (by decide) ?_
      exact u_iretr hx hb hr hlocks rfl hP hD hS dX8_isBorne_26 hf (fun _ => rfl)
    · have hf := ifp c18 hf
      refine lv_iconst (v := (1 : Int32)) hx hb dX8_isBorne_21 (by decide) ?_
      refine lv_goto (tgt := 26) hx hb dX8_isBorne_22 (by decide) ?_
      exact u_iretr hx hb hr hlocks rfl hP hD hS dX8_isBorne_26 hf (fun _ => rfl)
theorem iX4_countWays : YI yX4_countWays cX4_countWays 4 none 0 := ⟨q634, q8, by decide, by decide, by decide +kernel⟩
theorem vX4_countWays : YV yX4_countWays := ⟨q633, qs5⟩
set_option maxRecDepth 100000 in
set_option maxHeartbeats 4000000 in
theorem c_X4_countWays (l : Launch) (D : va_G) (cy : Nat → ClassId) (ad : Nat → Nat) (bw : Nat) (σ : St) (q : St) (hf : fX4_countWays bw σ = some q) : Cv l D cy (wX cy ad) yX4_countWays cX4_countWays 4 1 24 [.ref (ad 7)] σ q 1 bw := by
  refine Cv.enter (by decide) (Nat.le_of_ble_eq_true rfl) ?_
  intro aw0 ac0 p e s m below meth c A H locs S hr hlocks hA hK hP hD hS ls hl
  have hx := S.1
  have hb := S.2.1
  have hl : lv_has ls 4 [(0, .ref (ad 7))] := hl
  obtain ⟨aw, ac, hP, hD⟩ : ∃ aw ac : Nat, va_P D vwCl (wX cy ad aw ac σ) H ∧ va_D A (wX cy ad aw ac σ) := ⟨aw0, ac0, hP, hD⟩
  unfold fX4_countWays at hf
  refine lv_aload_n hx hb dX4_countWays_0 rfl (lv_at hl 0 rfl) ?_
  refine gX_planner_isCounted S hK hP q206 dX4_countWays_1 ?_
  refine lv_if_eq (tgt := 8) hx hb dX4_countWays_4 (by decide) (fun c4 => ?_) (fun c4 => ?_)
  · have hf := ifp c4 hf
    refine lv_aload_n hx hb dX4_countWays_8 rfl (lv_at hl 0 rfl) ?_
    refine lv_iconst (v := (1 : Int32)) hx hb dX4_countWays_9 (by decide) ?_
    refine pX_planner_isCounted S hK hP hD hS rfl rfl q206 dX4_countWays_10 (fun H locs hP hD hS => ?_)
    refine lv_aload_n hx hb dX4_countWays_13 rfl (lv_at hl 0 rfl) ?_
    refine gX_planner_stones S hK hP q199 dX4_countWays_14 ?_
    obtain ⟨r17, h17, hf⟩ := ob_some hf
    refine u_calli0 (u_runV (rest := []) S (c_X8_all l D cy ad (si σ 16 (1 : Int32)) r17 h17 aw ac H.size) iX8_all vX8_all q635 ⟨Nat.le_of_ble_eq_true rfl, Nat.le_of_ble_eq_true rfl⟩ hK hP hD (q0 := 5) rfl rfl rfl hl.1 (Nat.le_of_ble_eq_true rfl) dX4_countWays_17 ⟨by first | omega | (dsimp only [Rm]; omega), by first | omega | (dsimp only [Rm]; omega)⟩) hD hS hA (fun H locs hP hD hS => ?_)
    refine lv_istore_n (lv' := [(1, .int r17), (0, .ref (ad 7))]) hx hb dX4_countWays_20 rfl hl (by decide) rfl (fun ls hl => ?_)
    have J39 : ∀ (v1_j39 : Int32) (σj39 : St) (aw ac : Nat) (H : Heap) (locs : List Loc) (ls : Array Slot), fX4_countWays_J39 bw σj39 v1_j39 = some q → va_P D vwCl (wX cy ad aw ac σj39) H → va_D A (wX cy ad aw ac σj39) → va_S A s.heap H locs → lv_has ls 4 [(0, .ref (ad 7)), (1, .int v1_j39)] → W p l e (Rm 1 24 1 bw) s m [.ref (ad 7)].toArray below meth c H locs 1 bw (Zv D (wX cy ad) A q aw0 ac0 below [.ref (ad 7)].toArray s 1 bw) (F0 m 39 ls []) := by
      intro v1_j39 σj39 aw ac H locs ls hf hP hD hS hl
      unfold fX4_countWays_J39 at hf
      refine lv_aload_n hx hb dX4_countWays_39 rfl (lv_at hl 0 rfl) ?_
      refine gX_planner_ways S hK hP q201 dX4_countWays_40 ?_
      refine lv_lconst (v := (0 : Int64)) hx hb dX4_countWays_43 (by decide) ?_
      obtain ⟨q44, h44, hf⟩ := ob_some hf
      refine u_callv0 (u_runS (rest := []) S (c_J7_fill_d0a16 l D cy ad σj39 (0 : Int64) q44 h44 aw ac H.size) iJ7_fill_d0a16 q637 q636 ⟨Nat.le_of_ble_eq_true rfl, Nat.le_of_ble_eq_true rfl⟩ hK hP hD rfl hl.1 (Nat.le_of_ble_eq_true rfl) dX4_countWays_44 ⟨by first | omega | (dsimp only [Rm]; omega), by first | omega | (dsimp only [Rm]; omega)⟩) hD hS hA (fun H locs hP hD hS => ?_)
      refine lv_aload_n hx hb dX4_countWays_47 rfl (lv_at hl 0 rfl) ?_
      refine gX_planner_ways S hK hP q201 dX4_countWays_48 ?_
      refine lv_iconst (v := (0 : Int32)) hx hb dX4_countWays_51 (by decide) ?_
      refine lv_lconst (v := (1 : Int64)) hx hb dX4_countWays_52 (by decide) ?_
      obtain ⟨h53, hf⟩ := if_in hf
      refine tX_32 S hK hP hD hS h53 dX4_countWays_53 (fun H locs hP hD hS => ?_)
      refine lv_iconst (v := (0 : Int32)) hx hb dX4_countWays_54 (by decide) ?_
      refine lv_istore_n (lv' := [(2, .int (0 : Int32)), (0, .ref (ad 7)), (1, .int v1_j39)]) hx hb dX4_countWays_55 rfl hl (by decide) rfl (fun ls hl => ?_)
      refine W.widen (k := 1) (n := bw) (by first | omega | (dsimp only [Rm]; omega)) (by first | omega | (dsimp only [Rm]; omega)) ?_
      have L56 : ∀ (n56 : Nat) (v2_56 : Int32) (σ56 : St) (aw ac : Nat) (H : Heap) (locs : List Loc) (ls : Array Slot), fX4_countWays_56 bw (fX4_countWays_56_k bw v1_j39) v1_j39 n56 σ56 v2_56 = some q → va_P D vwCl (wX cy ad aw ac σ56) H → va_D A (wX cy ad aw ac σ56) → va_S A s.heap H locs → lv_has ls 4 [(0, .ref (ad 7)), (1, .int v1_j39), (2, .int v2_56)] → W p l e (Rm 1 24 1 bw) s m [.ref (ad 7)].toArray below meth c H locs 1 bw (Zv D (wX cy ad) A q aw0 ac0 below [.ref (ad 7)].toArray s 1 bw) (F0 m 56 ls []) := by
        intro n56
        induction n56 with
        | zero =>
          intro v2_56 σ56 aw ac H locs ls hf
          cases hf
        | succ n56 ih56 =>
          intro v2_56 σ56 aw ac H locs ls hf hP hD hS hl
          rw [fX4_countWays_56] at hf
          refine lv_iload_n hx hb dX4_countWays_56 rfl (lv_at hl 2 rfl) ?_
          refine lv_iload_n hx hb dX4_countWays_57 rfl (lv_at hl 1 rfl) ?_
          refine lv_icmp_gt (tgt := 157) hx hb dX4_countWays_58 (by decide) (fun c58 => ?_) (fun c58 => ?_)
          · have hf := ifp c58 hf
            have hl := lv_sub (l' := [(0, .ref (ad 7)), (1, .int v1_j39), (2, .int v2_56)]) hl [0, 1, 2] rfl
            unfold fX4_countWays_56_k at hf
            refine W.widen (k := 1) (n := bw) (by first | omega | (dsimp only [Rm]; omega)) (by first | omega | (dsimp only [Rm]; omega)) ?_
            exact u_vretw hx hb hr hlocks hP hD hS dX4_countWays_157 hf (fun h_ => absurd h_ (by decide))
          · have hf := ifn c58 hf
            have J90 : ∀ (v2_j90 : Int32) (σj90 : St) (aw ac : Nat) (H : Heap) (locs : List Loc) (ls : Array Slot), fX4_countWays_J90 bw (fun σ56' v2_56' => fX4_countWays_56 bw (fX4_countWays_56_k bw v1_j39) v1_j39 n56 σ56' v2_56') σj90 v1_j39 v2_j90 = some q → va_P D vwCl (wX cy ad aw ac σj90) H → va_D A (wX cy ad aw ac σj90) → va_S A s.heap H locs → lv_has ls 4 [(0, .ref (ad 7)), (1, .int v1_j39), (2, .int v2_j90)] → W p l e (Rm 1 24 1 bw) s m [.ref (ad 7)].toArray below meth c H locs 1 bw (Zv D (wX cy ad) A q aw0 ac0 below [.ref (ad 7)].toArray s 1 bw) (F0 m 90 ls []) := by
              intro v2_j90 σj90 aw ac H locs ls hf hP hD hS hl
              unfold fX4_countWays_J90 at hf
              refine lv_iconst (v := (0 : Int32)) hx hb dX4_countWays_90 (by decide) ?_
              refine lv_istore_n (lv' := [(3, .int (0 : Int32)), (0, .ref (ad 7)), (1, .int v1_j39), (2, .int v2_j90)]) hx hb dX4_countWays_91 rfl hl (by decide) rfl (fun ls hl => ?_)
              refine W.widen (k := 1) (n := bw) (by first | omega | (dsimp only [Rm]; omega)) (by first | omega | (dsimp only [Rm]; omega)) ?_
              have L92 : ∀ (n92 : Nat) (v3_92 : Int32) (σ92 : St) (aw ac : Nat) (H : Heap) (locs : List Loc) (ls : Array Slot), fX4_countWays_92 bw (fun σ56' v2_56' => fX4_countWays_56 bw (fX4_countWays_56_k bw v1_j39) v1_j39 n56 σ56' v2_56') (fX4_countWays_92_k bw (fun σ56' v2_56' => fX4_countWays_56 bw (fX4_countWays_56_k bw v1_j39) v1_j39 n56 σ56' v2_56') v1_j39 v2_j90) v1_j39 v2_j90 n92 σ92 v3_92 = some q → va_P D vwCl (wX cy ad aw ac σ92) H → va_D A (wX cy ad aw ac σ92) → va_S A s.heap H locs → lv_has ls 4 [(0, .ref (ad 7)), (1, .int v1_j39), (2, .int v2_j90), (3, .int v3_92)] → W p l e (Rm 1 24 1 bw) s m [.ref (ad 7)].toArray below meth c H locs 1 bw (Zv D (wX cy ad) A q aw0 ac0 below [.ref (ad 7)].toArray s 1 bw) (F0 m 92 ls []) := by
                intro n92
                induction n92 with
                | zero =>
                  intro v3_92 σ92 aw ac H locs ls hf
                  cases hf
                | succ n92 ih92 =>
                  intro v3_92 σ92 aw ac H locs ls hf hP hD hS hl
                  rw [fX4_countWays_92] at hf
                  refine lv_aload_n hx hb dX4_countWays_92 rfl (lv_at hl 0 rfl) ?_
                  refine gX_planner_ways S hK hP q201 dX4_countWays_93 ?_
                  refine lv_iload_n hx hb dX4_countWays_96 rfl (lv_at hl 2 rfl) ?_
                  obtain ⟨h97, hf⟩ := if_in hf
                  refine lX_32 S hK hP h97 dX4_countWays_97 ?_
                  refine lv_lconst (v := (0 : Int64)) hx hb dX4_countWays_98 (by decide) ?_
                  refine W.lcmp hx hb dX4_countWays_99 ?_
                  refine lv_if_eq (tgt := 151) hx hb dX4_countWays_100 (by decide) (fun c100 => ?_) (fun c100 => ?_)
                  · have c100 := (lg_cmp_eq _ _).mp c100
                    have hf := ifp c100 hf
                    have hl := lv_sub (l' := [(0, .ref (ad 7)), (1, .int v1_j39), (2, .int v2_j90), (3, .int v3_92)]) hl [0, 1, 2, 3] rfl
                    unfold fX4_countWays_92_k at hf
                    refine lv_iinc (v := (v2_j90 + (1 : Int32))) (lv' := [(2, .int (v2_j90 + (1 : Int32))), (0, .ref (ad 7)), (1, .int v1_j39), (3, .int v3_92)]) hx hb dX4_countWays_151 hl (k := 2) rfl rfl (by decide) rfl (fun ls hl => ?_)
                    refine lv_goto (tgt := 56) hx hb dX4_countWays_154 (by decide) ?_
                    exact ih56 (v2_j90 + (1 : Int32)) σ92 aw ac H locs ls hf hP hD hS (lv_sub hl [1, 2, 0] rfl)
                  · have c100 := (not_congr (lg_cmp_eq _ _)).mp c100
                    have hf := ifn c100 hf
                    refine lv_iload_n hx hb dX4_countWays_103 rfl (lv_at hl 3 rfl) ?_
                    refine lv_aload_n hx hb dX4_countWays_104 rfl (lv_at hl 0 rfl) ?_
                    refine gX_planner_stones S hK hP q199 dX4_countWays_105 ?_
                    refine gX_stones_size S hK hP q135 dX4_countWays_108 ?_
                    refine lv_icmp_ge (tgt := 151) hx hb dX4_countWays_111 (by decide) (fun c111 => ?_) (fun c111 => ?_)
                    · have hf := ifp c111 hf
                      have hl := lv_sub (l' := [(0, .ref (ad 7)), (1, .int v1_j39), (2, .int v2_j90), (3, .int v3_92)]) hl [0, 1, 2, 3] rfl
                      unfold fX4_countWays_92_k at hf
                      refine lv_iinc (v := (v2_j90 + (1 : Int32))) (lv' := [(2, .int (v2_j90 + (1 : Int32))), (0, .ref (ad 7)), (1, .int v1_j39), (3, .int v3_92)]) hx hb dX4_countWays_151 hl (k := 2) rfl rfl (by decide) rfl (fun ls hl => ?_)
                      refine lv_goto (tgt := 56) hx hb dX4_countWays_154 (by decide) ?_
                      exact ih56 (v2_j90 + (1 : Int32)) σ92 aw ac H locs ls hf hP hD hS (lv_sub hl [1, 2, 0] rfl)
                    · have hf := ifn c111 hf
                      refine lv_aload_n hx hb dX4_countWays_114 rfl (lv_at hl 0 rfl) ?_
                      refine gX_planner_stones S hK hP q199 dX4_countWays_115 ?_
                      refine lv_iload_n hx hb dX4_countWays_118 rfl (lv_at hl 3 rfl) ?_
                      refine lv_iload_n hx hb dX4_countWays_119 rfl (lv_at hl 2 rfl) ?_
                      obtain ⟨r120, h120, hf⟩ := ob_some hf
                      refine u_calli0 (u_runV (rest := []) S (c_X8_isBorne l D cy ad σ92 v3_92 v2_j90 r120 h120 aw ac H.size) iX8_isBorne vX8_isBorne q640 ⟨Nat.le_of_ble_eq_true rfl, Nat.le_of_ble_eq_true rfl⟩ hK hP hD (q0 := 5) rfl rfl rfl hl.1 (Nat.le_of_ble_eq_true rfl) dX4_countWays_120 ⟨by first | omega | (dsimp only [Rm]; omega), by first | omega | (dsimp only [Rm]; omega)⟩) hD hS hA (fun H locs hP hD hS => ?_)
                      refine lv_if_eq (tgt := 145) hx hb dX4_countWays_123 (by decide) (fun c123 => ?_) (fun c123 => ?_)
                      · have hf := ifp c123 hf
                        refine lv_iinc (v := (v3_92 + (1 : Int32))) (lv' := [(3, .int (v3_92 + (1 : Int32))), (0, .ref (ad 7)), (1, .int v1_j39), (2, .int v2_j90)]) hx hb dX4_countWays_145 hl (k := 3) rfl rfl (by decide) rfl (fun ls hl => ?_)
                        refine lv_goto (tgt := 92) hx hb dX4_countWays_148 (by decide) ?_
                        exact ih92 (v3_92 + (1 : Int32)) σ92 aw ac H locs ls hf hP hD hS (lv_sub hl [1, 2, 3, 0] rfl)
                      · have hf := ifn c123 hf
                        refine lv_aload_n hx hb dX4_countWays_126 rfl (lv_at hl 0 rfl) ?_
                        refine gX_planner_ways S hK hP q201 dX4_countWays_127 ?_
                        refine lv_iload_n hx hb dX4_countWays_130 rfl (lv_at hl 2 rfl) ?_
                        refine lv_iconst (v := (1 : Int32)) hx hb dX4_countWays_131 (by decide) ?_
                        refine lv_iload_n hx hb dX4_countWays_132 rfl (lv_at hl 3 rfl) ?_
                        refine lv_ishl hx hb dX4_countWays_133 ?_
                        refine lv_ior hx hb dX4_countWays_134 ?_
                        refine lv_dup2_11 hx hb dX4_countWays_135 rfl rfl ?_
                        obtain ⟨h136, hf⟩ := if_in hf
                        refine lX_32 S hK hP h136 dX4_countWays_136 ?_
                        refine lv_aload_n hx hb dX4_countWays_137 rfl (lv_at hl 0 rfl) ?_
                        refine gX_planner_ways S hK hP q201 dX4_countWays_138 ?_
                        refine lv_iload_n hx hb dX4_countWays_141 rfl (lv_at hl 2 rfl) ?_
                        obtain ⟨h142, hf⟩ := if_in hf
                        refine lX_32 S hK hP h142 dX4_countWays_142 ?_
                        refine lv_ladd hx hb dX4_countWays_143 ?_
                        obtain ⟨h144, hf⟩ := if_in hf
                        refine tX_32 S hK hP hD hS h144 dX4_countWays_144 (fun H locs hP hD hS => ?_)
                        refine lv_iinc (v := (v3_92 + (1 : Int32))) (lv' := [(3, .int (v3_92 + (1 : Int32))), (0, .ref (ad 7)), (1, .int v1_j39), (2, .int v2_j90)]) hx hb dX4_countWays_145 hl (k := 3) rfl rfl (by decide) rfl (fun ls hl => ?_)
                        refine lv_goto (tgt := 92) hx hb dX4_countWays_148 (by decide) ?_
                        exact ih92 (v3_92 + (1 : Int32)) (sb σ92 32 (v2_j90 ||| ((1 : Int32) <<< (v3_92 &&& 31))).toNatClampNeg ((gb σ92 32 (v2_j90 ||| ((1 : Int32) <<< (v3_92 &&& 31))).toNatClampNeg) + (gb σ92 32 v2_j90.toNatClampNeg))) aw ac H locs ls hf hP hD hS (lv_sub hl [1, 2, 3, 0] rfl)
              exact L92 KF (0 : Int32) σj90 aw ac H locs ls hf hP hD hS (lv_sub hl [1, 2, 3, 0] rfl)
            refine lv_aload_n hx hb dX4_countWays_61 rfl (lv_at hl 0 rfl) ?_
            refine gX_planner_ways S hK hP q201 dX4_countWays_62 ?_
            refine lv_iload_n hx hb dX4_countWays_65 rfl (lv_at hl 2 rfl) ?_
            obtain ⟨h66, hf⟩ := if_in hf
            refine lX_32 S hK hP h66 dX4_countWays_66 ?_
            refine lv_lconst (v := (0 : Int64)) hx hb dX4_countWays_67 (by decide) ?_
            refine W.lcmp hx hb dX4_countWays_68 ?_
            refine lv_if_eq (tgt := 90) hx hb dX4_countWays_69 (by decide) (fun c69 => ?_) (fun c69 => ?_)
            · have c69 := (lg_cmp_eq _ _).mp c69
              have hf := ifp c69 hf
              refine W.widen (k := 1) (n := bw) (by first | omega | (dsimp only [Rm]; omega)) (by first | omega | (dsimp only [Rm]; omega)) ?_
              exact J90 v2_56 σ56 aw ac H locs ls hf hP hD hS (lv_sub hl [0, 1, 2] rfl)
            · have c69 := (not_congr (lg_cmp_eq _ _)).mp c69
              have hf := ifn c69 hf
              refine lv_aload_n hx hb dX4_countWays_72 rfl (lv_at hl 0 rfl) ?_
              refine gX_planner_stones S hK hP q199 dX4_countWays_73 ?_
              refine lv_iload_n hx hb dX4_countWays_76 rfl (lv_at hl 2 rfl) ?_
              obtain ⟨r77, h77, hf⟩ := ob_some hf
              refine u_calli0 (u_runV (rest := []) S (c_X8_isCentred l D cy ad σ56 v2_56 r77 h77 aw ac H.size) iX8_isCentred vX8_isCentred q639 ⟨Nat.le_of_ble_eq_true rfl, Nat.le_of_ble_eq_true rfl⟩ hK hP hD (q0 := 5) rfl rfl rfl hl.1 (Nat.le_of_ble_eq_true rfl) dX4_countWays_77 ⟨by first | omega | (dsimp only [Rm]; omega), by first | omega | (dsimp only [Rm]; omega)⟩) hD hS hA (fun H locs hP hD hS => ?_)
              refine lv_if_ne (tgt := 90) hx hb dX4_countWays_80 (by decide) (fun c80 => ?_) (fun c80 => ?_)
              · have hf := ifn c80 hf
                refine W.widen (k := 1) (n := bw) (by first | omega | (dsimp only [Rm]; omega)) (by first | omega | (dsimp only [Rm]; omega)) ?_
                exact J90 v2_56 σ56 aw ac H locs ls hf hP hD hS (lv_sub hl [0, 1, 2] rfl)
              · have hf := ifp c80 hf
                refine lv_aload_n hx hb dX4_countWays_83 rfl (lv_at hl 0 rfl) ?_
                refine gX_planner_ways S hK hP q201 dX4_countWays_84 ?_
                refine lv_iload_n hx hb dX4_countWays_87 rfl (lv_at hl 2 rfl) ?_
                refine lv_lconst (v := (0 : Int64)) hx hb dX4_countWays_88 (by decide) ?_
                obtain ⟨h89, hf⟩ := if_in hf
                refine tX_32 S hK hP hD hS h89 dX4_countWays_89 (fun H locs hP hD hS => ?_)
                refine W.widen (k := 1) (n := bw) (by first | omega | (dsimp only [Rm]; omega)) (by first | omega | (dsimp only [Rm]; omega)) ?_
                exact J90 v2_56 (sb σ56 32 v2_56.toNatClampNeg (0 : Int64)) aw ac H locs ls hf hP hD hS (lv_sub hl [0, 1, 2] rfl)
      exact L56 KF (0 : Int32) (sb q44 32 (0 : Int32).toNatClampNeg (1 : Int64)) aw ac H locs ls hf hP hD hS (lv_sub hl [1, 2, 0] rfl)
    refine lv_aload_n hx hb dX4_countWays_21 rfl (lv_at hl 1 rfl) ?_
    refine gX_planner_ways S hK hP q201 dX4_countWays_22 ?_
    refine nX_32 S hK hP dX4_countWays_25 ?_
    refine lv_iload_n hx hb dX4_countWays_26 rfl (lv_at hl 0 rfl) ?_
    refine lv_icmp_gt (tgt := 39) hx hb dX4_countWays_27 (by decide) (fun c27 => ?_) (fun c27 => ?_)
    · have hf := ifp c27 hf
      refine W.widen (k := 1) (n := bw) (by first | omega | (dsimp only [Rm]; omega)) (by first | omega | (dsimp only [Rm]; omega)) ?_
      exact J39 r17 (si σ 16 (1 : Int32)) aw ac H locs ls hf hP hD hS (lv_sub hl [1, 0] rfl)
    · have hf := ifn c27 hf
      refine lv_aload_n hx hb dX4_countWays_30 rfl (lv_at hl 1 rfl) ?_
      refine lv_iload_n hx hb dX4_countWays_31 rfl (lv_at hl 0 rfl) ?_
      refine lv_iconst (v := (1 : Int32)) hx hb dX4_countWays_32 (by decide) ?_
      refine lv_iadd hx hb dX4_countWays_33 ?_
      obtain ⟨h34, hf⟩ := ifs hf
      refine nX_ways S hK hP hD hS hA h34.1 (by first | omega | (dsimp only [Rm]; omega)) (by have := h34.2; dsimp only [Rm]; omega) (by have := h34.2; omega) q201 dX4_countWays_34 dX4_countWays_36 (fun aw H locs hP hD hS => ?_)
      refine W.widen (k := 1) (n := bw) (by first | omega | (dsimp only [Rm]; omega)) (by first | omega | (dsimp only [Rm]; omega)) ?_
      exact J39 r17 (sn (sbf (si σ 16 (1 : Int32)) 32 (fun _ => 0)) 32 (r17 + (1 : Int32)).toNatClampNeg) aw ac H locs ls hf hP hD hS (lv_sub hl [1, 0] rfl)
  · have hf := ifn c4 hf
    refine W.widen (k := 1) (n := bw) (by first | omega | (dsimp only [Rm]; omega)) (by first | omega | (dsimp only [Rm]; omega)) ?_
    exact u_vretw hx hb hr hlocks hP hD hS dX4_countWays_7 hf (fun h_ => absurd h_ (by decide))
theorem iX4_ordersOfAll : YI yX4_ordersOfAll cX4_ordersOfAll 1 (some .long) 0 := ⟨q630, q8, by decide, by decide, by decide +kernel⟩
theorem vX4_ordersOfAll : YV yX4_ordersOfAll := ⟨q628, q629⟩
set_option maxRecDepth 100000 in
set_option maxHeartbeats 4000000 in
theorem c_X4_ordersOfAll (l : Launch) (D : va_G) (cy : Nat → ClassId) (ad : Nat → Nat) (bw : Nat) (σ : St) (q : Int64 × St) (hf : fX4_ordersOfAll bw σ = some q) : Cl l D cy (wX cy ad) yX4_ordersOfAll cX4_ordersOfAll 1 2 47 [.ref (ad 7)] σ q.1 q.2 1 bw := by
  refine Cl.enter (by decide) (Nat.le_of_ble_eq_true rfl) ?_
  intro aw0 ac0 p e s m below meth c A H locs S hr hlocks hA hK hP hD hS ls hl
  have hx := S.1
  have hb := S.2.1
  have hl : lv_has ls 1 [(0, .ref (ad 7))] := hl
  obtain ⟨aw, ac, hP, hD⟩ : ∃ aw ac : Nat, va_P D vwCl (wX cy ad aw ac σ) H ∧ va_D A (wX cy ad aw ac σ) := ⟨aw0, ac0, hP, hD⟩
  unfold fX4_ordersOfAll at hf
  refine lv_aload_n hx hb dX4_ordersOfAll_0 rfl (lv_at hl 0 rfl) ?_
  obtain ⟨q1, h1, hf⟩ := ob_some hf
  refine u_callv (u_runV (rest := []) S (c_X4_countWays l D cy ad bw σ q1 h1 aw ac H.size) iX4_countWays vX4_countWays q631 ⟨Nat.le_of_ble_eq_true rfl, Nat.le_of_ble_eq_true rfl⟩ hK hP hD (q0 := 7) rfl rfl rfl hl.1 (Nat.le_of_ble_eq_true rfl) dX4_ordersOfAll_1 ⟨by first | omega | (dsimp only [Rm]; omega), by first | omega | (dsimp only [Rm]; omega)⟩) hD hS hA (fun aw ac H locs _ hP hD hS => ?_)
  refine lv_aload_n hx hb dX4_ordersOfAll_4 rfl (lv_at hl 0 rfl) ?_
  refine gX_planner_ways S hK hP q201 dX4_ordersOfAll_5 ?_
  refine lv_aload_n hx hb dX4_ordersOfAll_8 rfl (lv_at hl 0 rfl) ?_
  refine gX_planner_stones S hK hP q199 dX4_ordersOfAll_9 ?_
  obtain ⟨r12, h12, hf⟩ := ob_some hf
  refine u_calli0 (u_runV (rest := [.ref aw]) S (c_X8_all l D cy ad q1 r12 h12 aw ac H.size) iX8_all vX8_all q635 ⟨Nat.le_of_ble_eq_true rfl, Nat.le_of_ble_eq_true rfl⟩ hK hP hD (q0 := 5) rfl rfl rfl hl.1 (Nat.le_of_ble_eq_true rfl) dX4_ordersOfAll_12 ⟨by first | omega | (dsimp only [Rm]; omega), by first | omega | (dsimp only [Rm]; omega)⟩) hD hS hA (fun H locs hP hD hS => ?_)
  obtain ⟨h15, hf⟩ := if_in hf
  refine lX_32 S hK hP h15 dX4_ordersOfAll_15 ?_
  refine W.widen (k := 1) (n := bw) (by first | omega | (dsimp only [Rm]; omega)) (by first | omega | (dsimp only [Rm]; omega)) ?_
  exact u_lretw hx hb hr hlocks hP hD hS dX4_ordersOfAll_16 hf (fun h_ => absurd h_ (by decide))
theorem iX7_isNear : YI yX7_isNear cX7_isNear 4 (some .boolean) 3 := ⟨q607, q7, by decide, by decide, by decide +kernel⟩
theorem vX7_isNear : YV yX7_isNear := ⟨q605, q606⟩
set_option maxRecDepth 100000 in
set_option maxHeartbeats 4000000 in
theorem c_X7_isNear (l : Launch) (D : va_G) (cy : Nat → ClassId) (ad : Nat → Nat) (σ : St) (v1 : Int32) (v2 : Int32) (v3 : Int32) (r : Int32) (hf : fX7_isNear σ v1 v2 v3 = some r) : Ci l D cy (wX cy ad) yX7_isNear cX7_isNear 4 .boolean 1 21 [.ref (ad 6), .int v1, .int v2, .int v3] σ r σ 0 0 := by
  refine Ci.enter (by decide) (Nat.le_of_ble_eq_true rfl) ?_
  intro aw ac p e s m below meth c A H locs S hr hlocks hA hK hP hD hS ls hl
  have hx := S.1
  have hb := S.2.1
  have hl : lv_has ls 4 [(0, .ref (ad 6)), (1, .int v1), (2, .int v2), (3, .int v3)] := hl
  unfold fX7_isNear at hf
  refine lv_aload_n hx hb dX7_isNear_0 rfl (lv_at hl 0 rfl) ?_
  refine gX_stands_xs S hK hP q166 dX7_isNear_1 ?_
  refine lv_iload_n hx hb dX7_isNear_4 rfl (lv_at hl 1 rfl) ?_
  obtain ⟨h5, hf⟩ := if_in hf
  refine lX_23 S hK hP h5 dX7_isNear_5 ?_
  refine lv_iload_n hx hb dX7_isNear_6 rfl (lv_at hl 2 rfl) ?_
  refine lv_isub hx hb dX7_isNear_7 ?_
  refine va_mabs hx hb (S.2.2.1.trans hl.1.symm) S.2.2.2.1 (S.2.2.2.2 _ (List.mem_cons_of_mem _ q608)) (S.2.2.2.2 _ (List.mem_cons_of_mem _ q609)) (S.2.2.2.2 _ (List.mem_cons_of_mem _ q13)) (S.2.2.2.2 _ (List.mem_cons_of_mem _ q610)) (Nat.le_of_ble_eq_true rfl) (Nat.le_of_ble_eq_true rfl) (Nat.zero_le _) (Nat.zero_le _) dX7_isNear_8 ?_
  refine lv_aload_n hx hb dX7_isNear_11 rfl (lv_at hl 0 rfl) ?_
  refine gX_stands_sideways S hK hP q174 dX7_isNear_12 ?_
  refine lv_icmp_gt (tgt := 37) hx hb dX7_isNear_15 (by decide) (fun c15 => ?_) (fun c15 => ?_)
  · have hf := ifp c15 hf
    refine lv_iconst (v := (0 : Int32)) hx hb dX7_isNear_37 (by decide) ?_
    exact u_iretr hx hb hr hlocks rfl hP hD hS dX7_isNear_38 hf (fun _ => rfl)
  · have hf := ifn c15 hf
    refine lv_iload_n hx hb dX7_isNear_18 rfl (lv_at hl 3 rfl) ?_
    refine lv_aload_n hx hb dX7_isNear_19 rfl (lv_at hl 0 rfl) ?_
    refine gX_stands_courses S hK hP q167 dX7_isNear_20 ?_
    refine lv_iload_n hx hb dX7_isNear_23 rfl (lv_at hl 1 rfl) ?_
    obtain ⟨h24, hf⟩ := if_in hf
    refine lX_24 S hK hP h24 dX7_isNear_24 ?_
    refine lv_aload_n hx hb dX7_isNear_25 rfl (lv_at hl 0 rfl) ?_
    refine gX_stands_upwards S hK hP q176 dX7_isNear_26 ?_
    refine lv_iadd hx hb dX7_isNear_29 ?_
    refine lv_icmp_gt (tgt := 37) hx hb dX7_isNear_30 (by decide) (fun c30 => ?_) (fun c30 => ?_)
    · have hf := ifp c30 hf
      refine lv_iconst (v := (0 : Int32)) hx hb dX7_isNear_37 (by decide) ?_
      exact u_iretr hx hb hr hlocks rfl hP hD hS dX7_isNear_38 hf (fun _ => rfl)
    · have hf := ifn c30 hf
      refine lv_iconst (v := (1 : Int32)) hx hb dX7_isNear_33 (by decide) ?_
      refine lv_goto (tgt := 38) hx hb dX7_isNear_34 (by decide) ?_
      exact u_iretr hx hb hr hlocks rfl hP hD hS dX7_isNear_38 hf (fun _ => rfl)
theorem iX4_findNear : YI yX4_findNear cX4_findNear 3 none 0 := ⟨q656, q8, by decide, by decide, by decide +kernel⟩
theorem vX4_findNear : YV yX4_findNear := ⟨q655, qs7⟩
set_option maxRecDepth 100000 in
set_option maxHeartbeats 4000000 in
theorem c_X4_findNear (l : Launch) (D : va_G) (cy : Nat → ClassId) (ad : Nat → Nat) (σ : St) (q : St) (hf : fX4_findNear σ = some q) : Cv l D cy (wX cy ad) yX4_findNear cX4_findNear 3 2 44 [.ref (ad 7)] σ q 0 0 := by
  refine Cv.enter (by decide) (Nat.le_of_ble_eq_true rfl) ?_
  intro aw ac p e s m below meth c A H locs S hr hlocks hA hK hP hD hS ls hl
  have hx := S.1
  have hb := S.2.1
  have hl : lv_has ls 3 [(0, .ref (ad 7))] := hl
  unfold fX4_findNear at hf
  refine lv_iconst (v := (0 : Int32)) hx hb dX4_findNear_0 (by decide) ?_
  refine lv_istore_n (lv' := [(1, .int (0 : Int32)), (0, .ref (ad 7))]) hx hb dX4_findNear_1 rfl hl (by decide) rfl (fun ls hl => ?_)
  have L2 : ∀ (n2 : Nat) (v1_2 : Int32) (σ2 : St) (H : Heap) (locs : List Loc) (ls : Array Slot), fX4_findNear_2 (fX4_findNear_2_k) n2 σ2 v1_2 = some q → va_P D vwCl (wX cy ad aw ac σ2) H → va_D A (wX cy ad aw ac σ2) → va_S A s.heap H locs → lv_has ls 3 [(0, .ref (ad 7)), (1, .int v1_2)] → W p l e (Rm 2 44 0 0) s m [.ref (ad 7)].toArray below meth c H locs 0 0 (Zv D (wX cy ad) A q aw ac below [.ref (ad 7)].toArray s 0 0) (F0 m 2 ls []) := by
    intro n2
    induction n2 with
    | zero =>
      intro v1_2 σ2 H locs ls hf
      cases hf
    | succ n2 ih2 =>
      intro v1_2 σ2 H locs ls hf hP hD hS hl
      rw [fX4_findNear_2] at hf
      refine lv_iload_n hx hb dX4_findNear_2 rfl (lv_at hl 1 rfl) ?_
      refine lv_aload_n hx hb dX4_findNear_3 rfl (lv_at hl 0 rfl) ?_
      refine gX_planner_stands S hK hP q200 dX4_findNear_4 ?_
      refine gX_stands_size S hK hP q172 dX4_findNear_7 ?_
      refine lv_icmp_ge (tgt := 86) hx hb dX4_findNear_10 (by decide) (fun c10 => ?_) (fun c10 => ?_)
      · have hf := ifp c10 hf
        have hl := lv_sub (l' := [(0, .ref (ad 7)), (1, .int v1_2)]) hl [0, 1] rfl
        unfold fX4_findNear_2_k at hf
        exact u_vretw hx hb hr hlocks hP hD hS dX4_findNear_86 hf (fun _ => rfl)
      · have hf := ifn c10 hf
        refine lv_aload_n hx hb dX4_findNear_13 rfl (lv_at hl 0 rfl) ?_
        refine gX_planner_near S hK hP q203 dX4_findNear_14 ?_
        refine lv_iload_n hx hb dX4_findNear_17 rfl (lv_at hl 1 rfl) ?_
        refine lv_iconst (v := (0 : Int32)) hx hb dX4_findNear_18 (by decide) ?_
        obtain ⟨h19, hf⟩ := if_in hf
        refine tX_34 S hK hP hD hS h19 dX4_findNear_19 (fun H locs hP hD hS => ?_)
        refine lv_iconst (v := (0 : Int32)) hx hb dX4_findNear_20 (by decide) ?_
        refine lv_istore_n (lv' := [(2, .int (0 : Int32)), (0, .ref (ad 7)), (1, .int v1_2)]) hx hb dX4_findNear_21 rfl hl (by decide) rfl (fun ls hl => ?_)
        have L22 : ∀ (n22 : Nat) (v2_22 : Int32) (σ22 : St) (H : Heap) (locs : List Loc) (ls : Array Slot), fX4_findNear_22 (fun σ2' v1_2' => fX4_findNear_2 (fX4_findNear_2_k)  n2 σ2' v1_2') (fX4_findNear_22_k (fun σ2' v1_2' => fX4_findNear_2 (fX4_findNear_2_k)  n2 σ2' v1_2') v1_2) v1_2 n22 σ22 v2_22 = some q → va_P D vwCl (wX cy ad aw ac σ22) H → va_D A (wX cy ad aw ac σ22) → va_S A s.heap H locs → lv_has ls 3 [(0, .ref (ad 7)), (1, .int v1_2), (2, .int v2_22)] → W p l e (Rm 2 44 0 0) s m [.ref (ad 7)].toArray below meth c H locs 0 0 (Zv D (wX cy ad) A q aw ac below [.ref (ad 7)].toArray s 0 0) (F0 m 22 ls []) := by
          intro n22
          induction n22 with
          | zero =>
            intro v2_22 σ22 H locs ls hf
            cases hf
          | succ n22 ih22 =>
            intro v2_22 σ22 H locs ls hf hP hD hS hl
            rw [fX4_findNear_22] at hf
            refine lv_iload_n hx hb dX4_findNear_22 rfl (lv_at hl 2 rfl) ?_
            refine lv_aload_n hx hb dX4_findNear_23 rfl (lv_at hl 0 rfl) ?_
            refine gX_planner_stones S hK hP q199 dX4_findNear_24 ?_
            refine gX_stones_size S hK hP q135 dX4_findNear_27 ?_
            refine lv_icmp_ge (tgt := 80) hx hb dX4_findNear_30 (by decide) (fun c30 => ?_) (fun c30 => ?_)
            · have hf := ifp c30 hf
              have hl := lv_sub (l' := [(0, .ref (ad 7)), (1, .int v1_2), (2, .int v2_22)]) hl [0, 1, 2] rfl
              unfold fX4_findNear_22_k at hf
              refine lv_iinc (v := (v1_2 + (1 : Int32))) (lv' := [(1, .int (v1_2 + (1 : Int32))), (0, .ref (ad 7)), (2, .int v2_22)]) hx hb dX4_findNear_80 hl (k := 1) rfl rfl (by decide) rfl (fun ls hl => ?_)
              refine lv_goto (tgt := 2) hx hb dX4_findNear_83 (by decide) ?_
              exact ih2 (v1_2 + (1 : Int32)) σ22 H locs ls hf hP hD hS (lv_sub hl [1, 0] rfl)
            · have hf := ifn c30 hf
              refine lv_aload_n hx hb dX4_findNear_33 rfl (lv_at hl 0 rfl) ?_
              refine gX_planner_stands S hK hP q200 dX4_findNear_34 ?_
              refine lv_iload_n hx hb dX4_findNear_37 rfl (lv_at hl 1 rfl) ?_
              refine lv_aload_n hx hb dX4_findNear_38 rfl (lv_at hl 0 rfl) ?_
              refine gX_planner_stones S hK hP q199 dX4_findNear_39 ?_
              refine gX_stones_xs S hK hP q120 dX4_findNear_42 ?_
              refine lv_iload_n hx hb dX4_findNear_45 rfl (lv_at hl 2 rfl) ?_
              obtain ⟨h46, hf⟩ := if_in hf
              refine lX_17 S hK hP h46 dX4_findNear_46 ?_
              refine lv_aload_n hx hb dX4_findNear_47 rfl (lv_at hl 0 rfl) ?_
              refine gX_planner_stones S hK hP q199 dX4_findNear_48 ?_
              refine gX_stones_courses S hK hP q123 dX4_findNear_51 ?_
              refine lv_iload_n hx hb dX4_findNear_54 rfl (lv_at hl 2 rfl) ?_
              obtain ⟨h55, hf⟩ := if_in hf
              refine lX_18 S hK hP h55 dX4_findNear_55 ?_
              obtain ⟨r56, h56, hf⟩ := ob_some hf
              refine u_calli0 (u_runV (rest := []) S (c_X7_isNear l D cy ad σ22 v1_2 (ga σ22 17 v2_22.toNatClampNeg) (ga σ22 18 v2_22.toNatClampNeg) r56 h56 aw ac H.size) iX7_isNear vX7_isNear q657 ⟨Nat.le_of_ble_eq_true rfl, Nat.le_of_ble_eq_true rfl⟩ hK hP hD (q0 := 6) rfl rfl rfl hl.1 (Nat.le_of_ble_eq_true rfl) dX4_findNear_56 ⟨Nat.le_refl _, Nat.le_refl _⟩) hD hS hA (fun H locs hP hD hS => ?_)
              refine lv_if_eq (tgt := 74) hx hb dX4_findNear_59 (by decide) (fun c59 => ?_) (fun c59 => ?_)
              · have hf := ifp c59 hf
                refine lv_iinc (v := (v2_22 + (1 : Int32))) (lv' := [(2, .int (v2_22 + (1 : Int32))), (0, .ref (ad 7)), (1, .int v1_2)]) hx hb dX4_findNear_74 hl (k := 2) rfl rfl (by decide) rfl (fun ls hl => ?_)
                refine lv_goto (tgt := 22) hx hb dX4_findNear_77 (by decide) ?_
                exact ih22 (v2_22 + (1 : Int32)) σ22 H locs ls hf hP hD hS (lv_sub hl [1, 2, 0] rfl)
              · have hf := ifn c59 hf
                refine lv_aload_n hx hb dX4_findNear_62 rfl (lv_at hl 0 rfl) ?_
                refine gX_planner_near S hK hP q203 dX4_findNear_63 ?_
                refine lv_iload_n hx hb dX4_findNear_66 rfl (lv_at hl 1 rfl) ?_
                refine lv_dup2_11 hx hb dX4_findNear_67 rfl rfl ?_
                obtain ⟨h68, hf⟩ := if_in hf
                refine lX_34 S hK hP h68 dX4_findNear_68 ?_
                refine lv_iconst (v := (1 : Int32)) hx hb dX4_findNear_69 (by decide) ?_
                refine lv_iload_n hx hb dX4_findNear_70 rfl (lv_at hl 2 rfl) ?_
                refine lv_ishl hx hb dX4_findNear_71 ?_
                refine lv_ior hx hb dX4_findNear_72 ?_
                obtain ⟨h73, hf⟩ := if_in hf
                refine tX_34 S hK hP hD hS h73 dX4_findNear_73 (fun H locs hP hD hS => ?_)
                refine lv_iinc (v := (v2_22 + (1 : Int32))) (lv' := [(2, .int (v2_22 + (1 : Int32))), (0, .ref (ad 7)), (1, .int v1_2)]) hx hb dX4_findNear_74 hl (k := 2) rfl rfl (by decide) rfl (fun ls hl => ?_)
                refine lv_goto (tgt := 22) hx hb dX4_findNear_77 (by decide) ?_
                exact ih22 (v2_22 + (1 : Int32)) (sa σ22 34 v1_2.toNatClampNeg ((ga σ22 34 v1_2.toNatClampNeg) ||| ((1 : Int32) <<< (v2_22 &&& 31)))) H locs ls hf hP hD hS (lv_sub hl [1, 2, 0] rfl)
        exact L22 KF (0 : Int32) (sa σ2 34 v1_2.toNatClampNeg (0 : Int32)) H locs ls hf hP hD hS (lv_sub hl [1, 2, 0] rfl)
  exact L2 KF (0 : Int32) σ H locs ls hf hP hD hS (lv_sub hl [1, 0] rfl)
theorem iX4_place : YI yX4_place cX4_place 3 (some .int) 2 := ⟨q661, q8, by decide, by decide, by decide +kernel⟩
theorem vX4_place : YV yX4_place := ⟨q660, qs8⟩
set_option maxRecDepth 100000 in
set_option maxHeartbeats 4000000 in
theorem c_X4_place (l : Launch) (D : va_G) (cy : Nat → ClassId) (ad : Nat → Nat) (σ : St) (v1 : Int32) (v2 : Int32) (r : Int32) (hf : fX4_place σ v1 v2 = some r) : Ci l D cy (wX cy ad) yX4_place cX4_place 3 .int 0 0 [.ref (ad 7), .int v1, .int v2] σ r σ 0 0 := by
  refine Ci.enter (by decide) (Nat.le_of_ble_eq_true rfl) ?_
  intro aw ac p e s m below meth c A H locs S hr hlocks hA hK hP hD hS ls hl
  have hx := S.1
  have hb := S.2.1
  have hl : lv_has ls 3 [(0, .ref (ad 7)), (1, .int v1), (2, .int v2)] := hl
  unfold fX4_place at hf
  refine lv_iload_n hx hb dX4_place_0 rfl (lv_at hl 1 rfl) ?_
  refine lv_iconst (v := (5 : Int32)) hx hb dX4_place_1 (by decide) ?_
  refine lv_imul hx hb dX4_place_2 ?_
  refine lv_iload_n hx hb dX4_place_3 rfl (lv_at hl 2 rfl) ?_
  refine lv_iadd hx hb dX4_place_4 ?_
  exact u_iretr hx hb hr hlocks rfl hP hD hS dX4_place_5 hf (fun _ => rfl)
theorem iX4_canLay : YI yX4_canLay cX4_canLay 3 (some .boolean) 2 := ⟨q669, q8, by decide, by decide, by decide +kernel⟩
theorem vX4_canLay : YV yX4_canLay := ⟨q668, qs10⟩
set_option maxRecDepth 100000 in
set_option maxHeartbeats 4000000 in
theorem c_X4_canLay (l : Launch) (D : va_G) (cy : Nat → ClassId) (ad : Nat → Nat) (σ : St) (v1 : Int32) (v2 : Int32) (r : Int32) (hf : fX4_canLay σ v1 v2 = some r) : Ci l D cy (wX cy ad) yX4_canLay cX4_canLay 3 .boolean 1 22 [.ref (ad 7), .int v1, .int v2] σ r σ 0 0 := by
  refine Ci.enter (by decide) (Nat.le_of_ble_eq_true rfl) ?_
  intro aw ac p e s m below meth c A H locs S hr hlocks hA hK hP hD hS ls hl
  have hx := S.1
  have hb := S.2.1
  have hl : lv_has ls 3 [(0, .ref (ad 7)), (1, .int v1), (2, .int v2)] := hl
  unfold fX4_canLay at hf
  refine lv_aload_n hx hb dX4_canLay_0 rfl (lv_at hl 0 rfl) ?_
  refine gX_planner_stones S hK hP q199 dX4_canLay_1 ?_
  refine lv_iload_n hx hb dX4_canLay_4 rfl (lv_at hl 1 rfl) ?_
  refine lv_iload_n hx hb dX4_canLay_5 rfl (lv_at hl 2 rfl) ?_
  obtain ⟨r6, h6, hf⟩ := ob_some hf
  refine u_calli0 (u_runV (rest := []) S (c_X8_isBorne l D cy ad σ v1 v2 r6 h6 aw ac H.size) iX8_isBorne vX8_isBorne q640 ⟨Nat.le_of_ble_eq_true rfl, Nat.le_of_ble_eq_true rfl⟩ hK hP hD (q0 := 5) rfl rfl rfl hl.1 (Nat.le_of_ble_eq_true rfl) dX4_canLay_6 ⟨Nat.le_refl _, Nat.le_refl _⟩) hD hS hA (fun H locs hP hD hS => ?_)
  refine lv_if_eq (tgt := 31) hx hb dX4_canLay_9 (by decide) (fun c9 => ?_) (fun c9 => ?_)
  · have hf := ifp c9 hf
    refine lv_iconst (v := (0 : Int32)) hx hb dX4_canLay_31 (by decide) ?_
    exact u_iretr hx hb hr hlocks rfl hP hD hS dX4_canLay_32 hf (fun _ => rfl)
  · have hf := ifn c9 hf
    refine lv_aload_n hx hb dX4_canLay_12 rfl (lv_at hl 0 rfl) ?_
    refine gX_planner_ways S hK hP q201 dX4_canLay_13 ?_
    refine lv_iload_n hx hb dX4_canLay_16 rfl (lv_at hl 2 rfl) ?_
    refine lv_iconst (v := (1 : Int32)) hx hb dX4_canLay_17 (by decide) ?_
    refine lv_iload_n hx hb dX4_canLay_18 rfl (lv_at hl 1 rfl) ?_
    refine lv_ishl hx hb dX4_canLay_19 ?_
    refine lv_ior hx hb dX4_canLay_20 ?_
    obtain ⟨h21, hf⟩ := if_in hf
    refine lX_32 S hK hP h21 dX4_canLay_21 ?_
    refine lv_lconst (v := (0 : Int64)) hx hb dX4_canLay_22 (by decide) ?_
    refine W.lcmp hx hb dX4_canLay_23 ?_
    refine lv_if_eq (tgt := 31) hx hb dX4_canLay_24 (by decide) (fun c24 => ?_) (fun c24 => ?_)
    · have c24 := (lg_cmp_eq _ _).mp c24
      have hf := ifp c24 hf
      refine lv_iconst (v := (0 : Int32)) hx hb dX4_canLay_31 (by decide) ?_
      exact u_iretr hx hb hr hlocks rfl hP hD hS dX4_canLay_32 hf (fun _ => rfl)
    · have c24 := (not_congr (lg_cmp_eq _ _)).mp c24
      have hf := ifn c24 hf
      refine lv_iconst (v := (1 : Int32)) hx hb dX4_canLay_27 (by decide) ?_
      refine lv_goto (tgt := 32) hx hb dX4_canLay_28 (by decide) ?_
      exact u_iretr hx hb hr hlocks rfl hP hD hS dX4_canLay_32 hf (fun _ => rfl)
theorem iX4_leastAfterLaying : YI yX4_leastAfterLaying cX4_leastAfterLaying 6 (some .int) 3 := ⟨q673, q8, by decide, by decide, by decide +kernel⟩
theorem vX4_leastAfterLaying : YV yX4_leastAfterLaying := ⟨q672, qs11⟩
set_option maxRecDepth 100000 in
set_option maxHeartbeats 4000000 in
theorem c_X4_leastAfterLaying (l : Launch) (D : va_G) (cy : Nat → ClassId) (ad : Nat → Nat) (σ : St) (v1 : Int32) (v2 : Int32) (v3 : Int32) (r : Int32) (hf : fX4_leastAfterLaying σ v1 v2 v3 = some r) : Ci l D cy (wX cy ad) yX4_leastAfterLaying cX4_leastAfterLaying 6 .int 1 22 [.ref (ad 7), .int v1, .int v2, .int v3] σ r σ 0 0 := by
  refine Ci.enter (by decide) (Nat.le_of_ble_eq_true rfl) ?_
  intro aw ac p e s m below meth c A H locs S hr hlocks hA hK hP hD hS ls hl
  have hx := S.1
  have hb := S.2.1
  have hl : lv_has ls 6 [(0, .ref (ad 7)), (1, .int v1), (2, .int v2), (3, .int v3)] := hl
  unfold fX4_leastAfterLaying at hf
  refine lv_ldc hx hb S.2.2.2.1 (S.2.2.2.2 _ (List.mem_cons_of_mem _ q674)) dX4_leastAfterLaying_0 ?_
  refine lv_istore (lv' := [(4, .int (1000000 : Int32)), (0, .ref (ad 7)), (1, .int v1), (2, .int v2), (3, .int v3)]) hx hb dX4_leastAfterLaying_2 hl (by decide) rfl (fun ls hl => ?_)
  refine lv_iconst (v := (0 : Int32)) hx hb dX4_leastAfterLaying_4 (by decide) ?_
  refine lv_istore (lv' := [(5, .int (0 : Int32)), (4, .int (1000000 : Int32)), (0, .ref (ad 7)), (1, .int v1), (2, .int v2), (3, .int v3)]) hx hb dX4_leastAfterLaying_5 hl (by decide) rfl (fun ls hl => ?_)
  have L7 : ∀ (n7 : Nat) (v4_7 : Int32) (v5_7 : Int32) (H : Heap) (locs : List Loc) (ls : Array Slot), fX4_leastAfterLaying_7 (fX4_leastAfterLaying_7_k σ v1 v2 v3) σ v1 v2 v3 n7 v4_7 v5_7 = some r → va_P D vwCl (wX cy ad aw ac σ) H → va_D A (wX cy ad aw ac σ) → va_S A s.heap H locs → lv_has ls 6 [(0, .ref (ad 7)), (1, .int v1), (2, .int v2), (3, .int v3), (4, .int v4_7), (5, .int v5_7)] → W p l e (Rm 1 22 0 0) s m [.ref (ad 7), .int v1, .int v2, .int v3].toArray below meth c H locs 0 0 (Zi D (wX cy ad) A r σ aw ac below [.ref (ad 7), .int v1, .int v2, .int v3].toArray s 0 0) (F0 m 7 ls []) := by
    intro n7
    induction n7 with
    | zero =>
      intro v4_7 v5_7 H locs ls hf
      cases hf
    | succ n7 ih7 =>
      intro v4_7 v5_7 H locs ls hf hP hD hS hl
      rw [fX4_leastAfterLaying_7] at hf
      refine lv_iload_n hx hb dX4_leastAfterLaying_7 rfl (lv_at hl 3 rfl) ?_
      refine lv_if_eq (tgt := 67) hx hb dX4_leastAfterLaying_8 (by decide) (fun c8 => ?_) (fun c8 => ?_)
      · have hf := ifp c8 hf
        have hl := lv_sub (l' := [(0, .ref (ad 7)), (1, .int v1), (2, .int v2), (3, .int v3), (4, .int v4_7), (5, .int v5_7)]) hl [0, 1, 2, 3, 4, 5] rfl
        unfold fX4_leastAfterLaying_7_k at hf
        refine lv_iload hx hb dX4_leastAfterLaying_67 (lv_at hl 4 rfl) ?_
        exact u_iretr hx hb hr hlocks rfl hP hD hS dX4_leastAfterLaying_69 hf (fun _ => rfl)
      · have hf := ifn c8 hf
        refine lv_iload hx hb dX4_leastAfterLaying_11 (lv_at hl 4 rfl) ?_
        refine lv_if_le (tgt := 67) hx hb dX4_leastAfterLaying_13 (by decide) (fun c13 => ?_) (fun c13 => ?_)
        · have hf := ifp c13 hf
          have hl := lv_sub (l' := [(0, .ref (ad 7)), (1, .int v1), (2, .int v2), (3, .int v3), (4, .int v4_7), (5, .int v5_7)]) hl [0, 1, 2, 3, 4, 5] rfl
          unfold fX4_leastAfterLaying_7_k at hf
          refine lv_iload hx hb dX4_leastAfterLaying_67 (lv_at hl 4 rfl) ?_
          exact u_iretr hx hb hr hlocks rfl hP hD hS dX4_leastAfterLaying_69 hf (fun _ => rfl)
        · have hf := ifn c13 hf
          refine lv_iload hx hb dX4_leastAfterLaying_16 (lv_at hl 5 rfl) ?_
          refine lv_aload_n hx hb dX4_leastAfterLaying_18 rfl (lv_at hl 0 rfl) ?_
          refine gX_planner_stones S hK hP q199 dX4_leastAfterLaying_19 ?_
          refine gX_stones_size S hK hP q135 dX4_leastAfterLaying_22 ?_
          refine lv_icmp_ge (tgt := 67) hx hb dX4_leastAfterLaying_25 (by decide) (fun c25 => ?_) (fun c25 => ?_)
          · have hf := ifp c25 hf
            have hl := lv_sub (l' := [(0, .ref (ad 7)), (1, .int v1), (2, .int v2), (3, .int v3), (4, .int v4_7), (5, .int v5_7)]) hl [0, 1, 2, 3, 4, 5] rfl
            unfold fX4_leastAfterLaying_7_k at hf
            refine lv_iload hx hb dX4_leastAfterLaying_67 (lv_at hl 4 rfl) ?_
            exact u_iretr hx hb hr hlocks rfl hP hD hS dX4_leastAfterLaying_69 hf (fun _ => rfl)
          · have hf := ifn c25 hf
            refine lv_iload_n hx hb dX4_leastAfterLaying_28 rfl (lv_at hl 3 rfl) ?_
            refine lv_iload hx hb dX4_leastAfterLaying_29 (lv_at hl 5 rfl) ?_
            refine lv_ishr hx hb dX4_leastAfterLaying_31 ?_
            refine lv_iconst (v := (1 : Int32)) hx hb dX4_leastAfterLaying_32 (by decide) ?_
            refine lv_iand hx hb dX4_leastAfterLaying_33 ?_
            refine lv_iconst (v := (1 : Int32)) hx hb dX4_leastAfterLaying_34 (by decide) ?_
            refine lv_icmp_ne (tgt := 61) hx hb dX4_leastAfterLaying_35 (by decide) (fun c35 => ?_) (fun c35 => ?_)
            · have hf := ifn c35 hf
              refine lv_iinc (v := (v5_7 + (1 : Int32))) (lv' := [(5, .int (v5_7 + (1 : Int32))), (0, .ref (ad 7)), (1, .int v1), (2, .int v2), (3, .int v3), (4, .int v4_7)]) hx hb dX4_leastAfterLaying_61 hl (k := 5) rfl rfl (by decide) rfl (fun ls hl => ?_)
              refine lv_goto (tgt := 7) hx hb dX4_leastAfterLaying_64 (by decide) ?_
              exact ih7 v4_7 (v5_7 + (1 : Int32)) H locs ls hf hP hD hS (lv_sub hl [1, 2, 3, 4, 5, 0] rfl)
            · have hf := ifp c35 hf
              refine lv_iload hx hb dX4_leastAfterLaying_38 (lv_at hl 4 rfl) ?_
              refine lv_aload_n hx hb dX4_leastAfterLaying_40 rfl (lv_at hl 0 rfl) ?_
              refine gX_planner_costs S hK hP q202 dX4_leastAfterLaying_41 ?_
              refine lv_aload_n hx hb dX4_leastAfterLaying_44 rfl (lv_at hl 0 rfl) ?_
              refine lv_iload_n hx hb dX4_leastAfterLaying_45 rfl (lv_at hl 1 rfl) ?_
              refine lv_iconst (v := (1 : Int32)) hx hb dX4_leastAfterLaying_46 (by decide) ?_
              refine lv_iload hx hb dX4_leastAfterLaying_47 (lv_at hl 5 rfl) ?_
              refine lv_ishl hx hb dX4_leastAfterLaying_49 ?_
              refine lv_ior hx hb dX4_leastAfterLaying_50 ?_
              refine lv_iload_n hx hb dX4_leastAfterLaying_51 rfl (lv_at hl 2 rfl) ?_
              obtain ⟨r52, h52, hf⟩ := ob_some hf
              refine u_calli0 (u_runV (rest := [.ref ac, .int v4_7]) S (c_X4_place l D cy ad σ (v1 ||| ((1 : Int32) <<< (v5_7 &&& 31))) v2 r52 h52 aw ac H.size) iX4_place vX4_place q658 ⟨Nat.le_of_ble_eq_true rfl, Nat.le_of_ble_eq_true rfl⟩ hK hP hD (q0 := 7) rfl rfl rfl hl.1 (Nat.le_of_ble_eq_true rfl) dX4_leastAfterLaying_52 ⟨Nat.le_refl _, Nat.le_refl _⟩) hD hS hA (fun H locs hP hD hS => ?_)
              obtain ⟨h55, hf⟩ := if_in hf
              refine lX_33 S hK hP h55 dX4_leastAfterLaying_55 ?_
              refine va_mmin hx hb (S.2.2.1.trans hl.1.symm) S.2.2.2.1 (S.2.2.2.2 _ (List.mem_cons_of_mem _ q675)) (S.2.2.2.2 _ (List.mem_cons_of_mem _ q389)) (S.2.2.2.2 _ (List.mem_cons_of_mem _ q13)) (S.2.2.2.2 _ (List.mem_cons_of_mem _ q390)) (Nat.le_of_ble_eq_true rfl) (Nat.le_of_ble_eq_true rfl) (Nat.zero_le _) (Nat.zero_le _) dX4_leastAfterLaying_56 ?_
              refine lv_istore (lv' := [(4, .int (if (ga σ 33 r52.toNatClampNeg) < v4_7 then (ga σ 33 r52.toNatClampNeg) else v4_7)), (0, .ref (ad 7)), (1, .int v1), (2, .int v2), (3, .int v3), (5, .int v5_7)]) hx hb dX4_leastAfterLaying_59 hl (by decide) rfl (fun ls hl => ?_)
              refine lv_iinc (v := (v5_7 + (1 : Int32))) (lv' := [(5, .int (v5_7 + (1 : Int32))), (4, .int (if (ga σ 33 r52.toNatClampNeg) < v4_7 then (ga σ 33 r52.toNatClampNeg) else v4_7)), (0, .ref (ad 7)), (1, .int v1), (2, .int v2), (3, .int v3)]) hx hb dX4_leastAfterLaying_61 hl (k := 5) rfl rfl (by decide) rfl (fun ls hl => ?_)
              refine lv_goto (tgt := 7) hx hb dX4_leastAfterLaying_64 (by decide) ?_
              exact ih7 (if (ga σ 33 r52.toNatClampNeg) < v4_7 then (ga σ 33 r52.toNatClampNeg) else v4_7) (v5_7 + (1 : Int32)) H locs ls hf hP hD hS (lv_sub hl [2, 3, 4, 5, 1, 0] rfl)
  exact L7 KF (1000000 : Int32) (0 : Int32) H locs ls hf hP hD hS (lv_sub hl [2, 3, 4, 5, 1, 0] rfl)
theorem iX4_priceByLaying : YI yX4_priceByLaying cX4_priceByLaying 4 none 1 := ⟨q665, q8, by decide, by decide, by decide +kernel⟩
theorem vX4_priceByLaying : YV yX4_priceByLaying := ⟨q664, qs9⟩
set_option maxRecDepth 100000 in
set_option maxHeartbeats 4000000 in
theorem c_X4_priceByLaying (l : Launch) (D : va_G) (cy : Nat → ClassId) (ad : Nat → Nat) (σ : St) (v1 : Int32) (q : St) (hf : fX4_priceByLaying σ v1 = some q) : Cv l D cy (wX cy ad) yX4_priceByLaying cX4_priceByLaying 4 2 47 [.ref (ad 7), .int v1] σ q 0 0 := by
  refine Cv.enter (by decide) (Nat.le_of_ble_eq_true rfl) ?_
  intro aw ac p e s m below meth c A H locs S hr hlocks hA hK hP hD hS ls hl
  have hx := S.1
  have hb := S.2.1
  have hl : lv_has ls 4 [(0, .ref (ad 7)), (1, .int v1)] := hl
  unfold fX4_priceByLaying at hf
  refine lv_iconst (v := (0 : Int32)) hx hb dX4_priceByLaying_0 (by decide) ?_
  refine lv_istore_n (lv' := [(2, .int (0 : Int32)), (0, .ref (ad 7)), (1, .int v1)]) hx hb dX4_priceByLaying_1 rfl hl (by decide) rfl (fun ls hl => ?_)
  refine lv_iconst (v := (0 : Int32)) hx hb dX4_priceByLaying_2 (by decide) ?_
  refine lv_istore_n (lv' := [(3, .int (0 : Int32)), (2, .int (0 : Int32)), (0, .ref (ad 7)), (1, .int v1)]) hx hb dX4_priceByLaying_3 rfl hl (by decide) rfl (fun ls hl => ?_)
  have L4 : ∀ (n4 : Nat) (v2_4 : Int32) (v3_4 : Int32) (H : Heap) (locs : List Loc) (ls : Array Slot), fX4_priceByLaying_4 (fX4_priceByLaying_4_k σ v1) σ v1 n4 v2_4 v3_4 = some q → va_P D vwCl (wX cy ad aw ac σ) H → va_D A (wX cy ad aw ac σ) → va_S A s.heap H locs → lv_has ls 4 [(0, .ref (ad 7)), (1, .int v1), (2, .int v2_4), (3, .int v3_4)] → W p l e (Rm 2 47 0 0) s m [.ref (ad 7), .int v1].toArray below meth c H locs 0 0 (Zv D (wX cy ad) A q aw ac below [.ref (ad 7), .int v1].toArray s 0 0) (F0 m 4 ls []) := by
    intro n4
    induction n4 with
    | zero =>
      intro v2_4 v3_4 H locs ls hf
      cases hf
    | succ n4 ih4 =>
      intro v2_4 v3_4 H locs ls hf hP hD hS hl
      rw [fX4_priceByLaying_4] at hf
      refine lv_iload_n hx hb dX4_priceByLaying_4 rfl (lv_at hl 3 rfl) ?_
      refine lv_aload_n hx hb dX4_priceByLaying_5 rfl (lv_at hl 0 rfl) ?_
      refine gX_planner_stones S hK hP q199 dX4_priceByLaying_6 ?_
      refine gX_stones_size S hK hP q135 dX4_priceByLaying_9 ?_
      refine lv_icmp_ge (tgt := 40) hx hb dX4_priceByLaying_12 (by decide) (fun c12 => ?_) (fun c12 => ?_)
      · have hf := ifp c12 hf
        have hl := lv_sub (l' := [(0, .ref (ad 7)), (1, .int v1), (2, .int v2_4), (3, .int v3_4)]) hl [0, 1, 2, 3] rfl
        unfold fX4_priceByLaying_4_k at hf
        refine lv_iconst (v := (0 : Int32)) hx hb dX4_priceByLaying_40 (by decide) ?_
        refine lv_istore_n (lv' := [(3, .int (0 : Int32)), (0, .ref (ad 7)), (1, .int v1), (2, .int v2_4)]) hx hb dX4_priceByLaying_41 rfl hl (by decide) rfl (fun ls hl => ?_)
        have L42 : ∀ (n42 : Nat) (v3_42 : Int32) (σ42 : St) (H : Heap) (locs : List Loc) (ls : Array Slot), fX4_priceByLaying_42 (fX4_priceByLaying_42_k v1 v2_4) v1 v2_4 n42 σ42 v3_42 = some q → va_P D vwCl (wX cy ad aw ac σ42) H → va_D A (wX cy ad aw ac σ42) → va_S A s.heap H locs → lv_has ls 4 [(0, .ref (ad 7)), (1, .int v1), (2, .int v2_4), (3, .int v3_42)] → W p l e (Rm 2 47 0 0) s m [.ref (ad 7), .int v1].toArray below meth c H locs 0 0 (Zv D (wX cy ad) A q aw ac below [.ref (ad 7), .int v1].toArray s 0 0) (F0 m 42 ls []) := by
          intro n42
          induction n42 with
          | zero =>
            intro v3_42 σ42 H locs ls hf
            cases hf
          | succ n42 ih42 =>
            intro v3_42 σ42 H locs ls hf hP hD hS hl
            rw [fX4_priceByLaying_42] at hf
            refine lv_iload_n hx hb dX4_priceByLaying_42 rfl (lv_at hl 3 rfl) ?_
            refine lv_aload_n hx hb dX4_priceByLaying_43 rfl (lv_at hl 0 rfl) ?_
            refine gX_planner_stands S hK hP q200 dX4_priceByLaying_44 ?_
            refine gX_stands_size S hK hP q172 dX4_priceByLaying_47 ?_
            refine lv_icmp_ge (tgt := 84) hx hb dX4_priceByLaying_50 (by decide) (fun c50 => ?_) (fun c50 => ?_)
            · have hf := ifp c50 hf
              have hl := lv_sub (l' := [(0, .ref (ad 7)), (1, .int v1), (2, .int v2_4), (3, .int v3_42)]) hl [0, 1, 2, 3] rfl
              unfold fX4_priceByLaying_42_k at hf
              exact u_vretw hx hb hr hlocks hP hD hS dX4_priceByLaying_84 hf (fun _ => rfl)
            · have hf := ifn c50 hf
              refine lv_aload_n hx hb dX4_priceByLaying_53 rfl (lv_at hl 0 rfl) ?_
              refine gX_planner_costs S hK hP q202 dX4_priceByLaying_54 ?_
              refine lv_aload_n hx hb dX4_priceByLaying_57 rfl (lv_at hl 0 rfl) ?_
              refine lv_iload_n hx hb dX4_priceByLaying_58 rfl (lv_at hl 1 rfl) ?_
              refine lv_iload_n hx hb dX4_priceByLaying_59 rfl (lv_at hl 3 rfl) ?_
              obtain ⟨r60, h60, hf⟩ := ob_some hf
              refine u_calli0 (u_runV (rest := [.ref ac]) S (c_X4_place l D cy ad σ42 v1 v3_42 r60 h60 aw ac H.size) iX4_place vX4_place q658 ⟨Nat.le_of_ble_eq_true rfl, Nat.le_of_ble_eq_true rfl⟩ hK hP hD (q0 := 7) rfl rfl rfl hl.1 (Nat.le_of_ble_eq_true rfl) dX4_priceByLaying_60 ⟨Nat.le_refl _, Nat.le_refl _⟩) hD hS hA (fun H locs hP hD hS => ?_)
              refine lv_aload_n hx hb dX4_priceByLaying_63 rfl (lv_at hl 0 rfl) ?_
              refine lv_iload_n hx hb dX4_priceByLaying_64 rfl (lv_at hl 1 rfl) ?_
              refine lv_iload_n hx hb dX4_priceByLaying_65 rfl (lv_at hl 3 rfl) ?_
              refine lv_iload_n hx hb dX4_priceByLaying_66 rfl (lv_at hl 2 rfl) ?_
              refine lv_aload_n hx hb dX4_priceByLaying_67 rfl (lv_at hl 0 rfl) ?_
              refine gX_planner_near S hK hP q203 dX4_priceByLaying_68 ?_
              refine lv_iload_n hx hb dX4_priceByLaying_71 rfl (lv_at hl 3 rfl) ?_
              obtain ⟨h72, hf⟩ := if_in hf
              refine lX_34 S hK hP h72 dX4_priceByLaying_72 ?_
              refine lv_iand hx hb dX4_priceByLaying_73 ?_
              obtain ⟨r74, h74, hf⟩ := ob_some hf
              refine u_calli0 (u_runV (rest := [.int r60, .ref ac]) S (c_X4_leastAfterLaying l D cy ad σ42 v1 v3_42 (v2_4 &&& (ga σ42 34 v3_42.toNatClampNeg)) r74 h74 aw ac H.size) iX4_leastAfterLaying vX4_leastAfterLaying q670 ⟨Nat.le_of_ble_eq_true rfl, Nat.le_of_ble_eq_true rfl⟩ hK hP hD (q0 := 7) rfl rfl rfl hl.1 (Nat.le_of_ble_eq_true rfl) dX4_priceByLaying_74 ⟨Nat.le_refl _, Nat.le_refl _⟩) hD hS hA (fun H locs hP hD hS => ?_)
              obtain ⟨h77, hf⟩ := if_in hf
              refine tX_33 S hK hP hD hS h77 dX4_priceByLaying_77 (fun H locs hP hD hS => ?_)
              refine lv_iinc (v := (v3_42 + (1 : Int32))) (lv' := [(3, .int (v3_42 + (1 : Int32))), (0, .ref (ad 7)), (1, .int v1), (2, .int v2_4)]) hx hb dX4_priceByLaying_78 hl (k := 3) rfl rfl (by decide) rfl (fun ls hl => ?_)
              refine lv_goto (tgt := 42) hx hb dX4_priceByLaying_81 (by decide) ?_
              exact ih42 (v3_42 + (1 : Int32)) (sa σ42 33 r60.toNatClampNeg r74) H locs ls hf hP hD hS (lv_sub hl [1, 2, 3, 0] rfl)
        exact L42 KF (0 : Int32) σ H locs ls hf hP hD hS (lv_sub hl [1, 2, 3, 0] rfl)
      · have hf := ifn c12 hf
        refine lv_iload_n hx hb dX4_priceByLaying_15 rfl (lv_at hl 2 rfl) ?_
        refine lv_aload_n hx hb dX4_priceByLaying_16 rfl (lv_at hl 0 rfl) ?_
        refine lv_iload_n hx hb dX4_priceByLaying_17 rfl (lv_at hl 3 rfl) ?_
        refine lv_iload_n hx hb dX4_priceByLaying_18 rfl (lv_at hl 1 rfl) ?_
        obtain ⟨r19, h19, hf⟩ := ob_some hf
        refine u_calli0 (u_runV (rest := [.int v2_4]) S (c_X4_canLay l D cy ad σ v3_4 v1 r19 h19 aw ac H.size) iX4_canLay vX4_canLay q666 ⟨Nat.le_of_ble_eq_true rfl, Nat.le_of_ble_eq_true rfl⟩ hK hP hD (q0 := 7) rfl rfl rfl hl.1 (Nat.le_of_ble_eq_true rfl) dX4_priceByLaying_19 ⟨Nat.le_refl _, Nat.le_refl _⟩) hD hS hA (fun H locs hP hD hS => ?_)
        refine lv_if_eq (tgt := 31) hx hb dX4_priceByLaying_22 (by decide) (fun c22 => ?_) (fun c22 => ?_)
        · have hf := ifp c22 hf
          refine lv_iconst (v := (0 : Int32)) hx hb dX4_priceByLaying_31 (by decide) ?_
          refine lv_ior hx hb dX4_priceByLaying_32 ?_
          refine lv_istore_n (lv' := [(2, .int (v2_4 ||| (0 : Int32))), (0, .ref (ad 7)), (1, .int v1), (3, .int v3_4)]) hx hb dX4_priceByLaying_33 rfl hl (by decide) rfl (fun ls hl => ?_)
          refine lv_iinc (v := (v3_4 + (1 : Int32))) (lv' := [(3, .int (v3_4 + (1 : Int32))), (2, .int (v2_4 ||| (0 : Int32))), (0, .ref (ad 7)), (1, .int v1)]) hx hb dX4_priceByLaying_34 hl (k := 3) rfl rfl (by decide) rfl (fun ls hl => ?_)
          refine lv_goto (tgt := 4) hx hb dX4_priceByLaying_37 (by decide) ?_
          exact ih4 (v2_4 ||| (0 : Int32)) (v3_4 + (1 : Int32)) H locs ls hf hP hD hS (lv_sub hl [2, 3, 1, 0] rfl)
        · have hf := ifn c22 hf
          refine lv_iconst (v := (1 : Int32)) hx hb dX4_priceByLaying_25 (by decide) ?_
          refine lv_iload_n hx hb dX4_priceByLaying_26 rfl (lv_at hl 3 rfl) ?_
          refine lv_ishl hx hb dX4_priceByLaying_27 ?_
          refine lv_goto (tgt := 32) hx hb dX4_priceByLaying_28 (by decide) ?_
          refine lv_ior hx hb dX4_priceByLaying_32 ?_
          refine lv_istore_n (lv' := [(2, .int (v2_4 ||| ((1 : Int32) <<< (v3_4 &&& 31)))), (0, .ref (ad 7)), (1, .int v1), (3, .int v3_4)]) hx hb dX4_priceByLaying_33 rfl hl (by decide) rfl (fun ls hl => ?_)
          refine lv_iinc (v := (v3_4 + (1 : Int32))) (lv' := [(3, .int (v3_4 + (1 : Int32))), (2, .int (v2_4 ||| ((1 : Int32) <<< (v3_4 &&& 31)))), (0, .ref (ad 7)), (1, .int v1)]) hx hb dX4_priceByLaying_34 hl (k := 3) rfl rfl (by decide) rfl (fun ls hl => ?_)
          refine lv_goto (tgt := 4) hx hb dX4_priceByLaying_37 (by decide) ?_
          exact ih4 (v2_4 ||| ((1 : Int32) <<< (v3_4 &&& 31))) (v3_4 + (1 : Int32)) H locs ls hf hP hD hS (lv_sub hl [2, 3, 1, 0] rfl)
  exact L4 KF (0 : Int32) (0 : Int32) H locs ls hf hP hD hS (lv_sub hl [2, 3, 1, 0] rfl)
theorem iX7_isBuilt : YI yX7_isBuilt cX7_isBuilt 3 (some .boolean) 2 := ⟨q683, q7, by decide, by decide, by decide +kernel⟩
theorem vX7_isBuilt : YV yX7_isBuilt := ⟨q681, q682⟩
set_option maxRecDepth 100000 in
set_option maxHeartbeats 4000000 in
theorem c_X7_isBuilt (l : Launch) (D : va_G) (cy : Nat → ClassId) (ad : Nat → Nat) (σ : St) (v1 : Int32) (v2 : Int32) (r : Int32) (hf : fX7_isBuilt σ v1 v2 = some r) : Ci l D cy (wX cy ad) yX7_isBuilt cX7_isBuilt 3 .boolean 0 0 [.ref (ad 6), .int v1, .int v2] σ r σ 0 0 := by
  refine Ci.enter (by decide) (Nat.le_of_ble_eq_true rfl) ?_
  intro aw ac p e s m below meth c A H locs S hr hlocks hA hK hP hD hS ls hl
  have hx := S.1
  have hb := S.2.1
  have hl : lv_has ls 3 [(0, .ref (ad 6)), (1, .int v1), (2, .int v2)] := hl
  unfold fX7_isBuilt at hf
  refine lv_aload_n hx hb dX7_isBuilt_0 rfl (lv_at hl 0 rfl) ?_
  refine gX_stands_needs S hK hP q168 dX7_isBuilt_1 ?_
  refine lv_iload_n hx hb dX7_isBuilt_4 rfl (lv_at hl 1 rfl) ?_
  obtain ⟨h5, hf⟩ := if_in hf
  refine lX_25 S hK hP h5 dX7_isBuilt_5 ?_
  refine lv_iload_n hx hb dX7_isBuilt_6 rfl (lv_at hl 2 rfl) ?_
  refine lv_iconst (v := (-1 : Int32)) hx hb dX7_isBuilt_7 (by decide) ?_
  refine lv_ixor hx hb dX7_isBuilt_8 ?_
  refine lv_iand hx hb dX7_isBuilt_9 ?_
  refine lv_if_ne (tgt := 17) hx hb dX7_isBuilt_10 (by decide) (fun c10 => ?_) (fun c10 => ?_)
  · have hf := ifn c10 hf
    refine lv_iconst (v := (0 : Int32)) hx hb dX7_isBuilt_17 (by decide) ?_
    exact u_iretr hx hb hr hlocks rfl hP hD hS dX7_isBuilt_18 hf (fun _ => rfl)
  · have hf := ifp c10 hf
    refine lv_iconst (v := (1 : Int32)) hx hb dX7_isBuilt_13 (by decide) ?_
    refine lv_goto (tgt := 18) hx hb dX7_isBuilt_14 (by decide) ?_
    exact u_iretr hx hb hr hlocks rfl hP hD hS dX7_isBuilt_18 hf (fun _ => rfl)
theorem iX4_priceThrough : YI yX4_priceThrough cX4_priceThrough 8 (some .boolean) 2 := ⟨q687, q8, by decide, by decide, by decide +kernel⟩
theorem vX4_priceThrough : YV yX4_priceThrough := ⟨q686, qs13⟩
set_option maxRecDepth 100000 in
set_option maxHeartbeats 4000000 in
theorem c_X4_priceThrough (l : Launch) (D : va_G) (cy : Nat → ClassId) (ad : Nat → Nat) (σ : St) (v1 : Int32) (v2 : Int32) (q : Int32 × St) (hf : fX4_priceThrough σ v1 v2 = some q) : Ci l D cy (wX cy ad) yX4_priceThrough cX4_priceThrough 8 .boolean 1 22 [.ref (ad 7), .int v1, .int v2] σ q.1 q.2 0 0 := by
  refine Ci.enter (by decide) (Nat.le_of_ble_eq_true rfl) ?_
  intro aw ac p e s m below meth c A H locs S hr hlocks hA hK hP hD hS ls hl
  have hx := S.1
  have hb := S.2.1
  have hl : lv_has ls 8 [(0, .ref (ad 7)), (1, .int v1), (2, .int v2)] := hl
  unfold fX4_priceThrough at hf
  refine lv_iconst (v := (0 : Int32)) hx hb dX4_priceThrough_0 (by decide) ?_
  refine lv_istore_n (lv' := [(3, .int (0 : Int32)), (0, .ref (ad 7)), (1, .int v1), (2, .int v2)]) hx hb dX4_priceThrough_1 rfl hl (by decide) rfl (fun ls hl => ?_)
  refine lv_aload_n hx hb dX4_priceThrough_2 rfl (lv_at hl 1 rfl) ?_
  refine gX_planner_costs S hK hP q202 dX4_priceThrough_3 ?_
  refine lv_aload_n hx hb dX4_priceThrough_6 rfl (lv_at hl 1 rfl) ?_
  refine lv_iload_n hx hb dX4_priceThrough_7 rfl (lv_at hl 2 rfl) ?_
  refine lv_iload_n hx hb dX4_priceThrough_8 rfl (lv_at hl 3 rfl) ?_
  obtain ⟨r9, h9, hf⟩ := ob_some hf
  refine u_calli0 (u_runV (rest := [.ref ac]) S (c_X4_place l D cy ad σ v1 v2 r9 h9 aw ac H.size) iX4_place vX4_place q658 ⟨Nat.le_of_ble_eq_true rfl, Nat.le_of_ble_eq_true rfl⟩ hK hP hD (q0 := 7) rfl rfl rfl hl.1 (Nat.le_of_ble_eq_true rfl) dX4_priceThrough_9 ⟨Nat.le_refl _, Nat.le_refl _⟩) hD hS hA (fun H locs hP hD hS => ?_)
  obtain ⟨h12, hf⟩ := if_in hf
  refine lX_33 S hK hP h12 dX4_priceThrough_12 ?_
  refine lv_istore (lv' := [(4, .int (ga σ 33 r9.toNatClampNeg)), (3, .int (0 : Int32)), (0, .ref (ad 7)), (1, .int v1), (2, .int v2)]) hx hb dX4_priceThrough_13 hl (by decide) rfl (fun ls hl => ?_)
  refine lv_iconst (v := (0 : Int32)) hx hb dX4_priceThrough_15 (by decide) ?_
  refine lv_istore (lv' := [(5, .int (0 : Int32)), (4, .int (ga σ 33 r9.toNatClampNeg)), (3, .int (0 : Int32)), (0, .ref (ad 7)), (1, .int v1), (2, .int v2)]) hx hb dX4_priceThrough_16 hl (by decide) rfl (fun ls hl => ?_)
  have L18 : ∀ (n18 : Nat) (v4_18 : Int32) (v3_18 : Int32) (v5_18 : Int32) (σ18 : St) (H : Heap) (locs : List Loc) (ls : Array Slot), fX4_priceThrough_18 (fX4_priceThrough_18_k v1 v2 v4_18) v1 v2 v4_18 n18 σ18 v3_18 v5_18 = some q → va_P D vwCl (wX cy ad aw ac σ18) H → va_D A (wX cy ad aw ac σ18) → va_S A s.heap H locs → lv_has ls 8 [(0, .ref (ad 7)), (1, .int v1), (2, .int v2), (3, .int v3_18), (4, .int v4_18), (5, .int v5_18)] → W p l e (Rm 1 22 0 0) s m [.ref (ad 7), .int v1, .int v2].toArray below meth c H locs 0 0 (Zi D (wX cy ad) A q.1 q.2 aw ac below [.ref (ad 7), .int v1, .int v2].toArray s 0 0) (F0 m 18 ls []) := by
    intro n18
    induction n18 with
    | zero =>
      intro v4_18 v3_18 v5_18 σ18 H locs ls hf
      cases hf
    | succ n18 ih18 =>
      intro v4_18 v3_18 v5_18 σ18 H locs ls hf hP hD hS hl
      rw [fX4_priceThrough_18] at hf
      refine lv_iload hx hb dX4_priceThrough_18 (lv_at hl 5 rfl) ?_
      refine lv_aload_n hx hb dX4_priceThrough_20 rfl (lv_at hl 0 rfl) ?_
      refine gX_planner_stands S hK hP q200 dX4_priceThrough_21 ?_
      refine gX_stands_size S hK hP q172 dX4_priceThrough_24 ?_
      refine lv_icmp_ge (tgt := 91) hx hb dX4_priceThrough_27 (by decide) (fun c27 => ?_) (fun c27 => ?_)
      · have hf := ifp c27 hf
        have hl := lv_sub (l' := [(0, .ref (ad 7)), (1, .int v1), (2, .int v2), (3, .int v3_18), (4, .int v4_18), (5, .int v5_18)]) hl [0, 1, 2, 3, 4, 5] rfl
        unfold fX4_priceThrough_18_k at hf
        refine lv_iload_n hx hb dX4_priceThrough_91 rfl (lv_at hl 3 rfl) ?_
        obtain ⟨n92, hf⟩ := ifs hf
        exact u_iretw hx hb hr hlocks n92 hP hD hS dX4_priceThrough_92 hf (fun _ => rfl)
      · have hf := ifn c27 hf
        refine lv_aload_n hx hb dX4_priceThrough_30 rfl (lv_at hl 0 rfl) ?_
        refine lv_iload_n hx hb dX4_priceThrough_31 rfl (lv_at hl 1 rfl) ?_
        refine lv_iload hx hb dX4_priceThrough_32 (lv_at hl 5 rfl) ?_
        obtain ⟨r34, h34, hf⟩ := ob_some hf
        refine u_calli0 (u_runV (rest := []) S (c_X4_place l D cy ad σ18 v1 v5_18 r34 h34 aw ac H.size) iX4_place vX4_place q658 ⟨Nat.le_of_ble_eq_true rfl, Nat.le_of_ble_eq_true rfl⟩ hK hP hD (q0 := 7) rfl rfl rfl hl.1 (Nat.le_of_ble_eq_true rfl) dX4_priceThrough_34 ⟨Nat.le_refl _, Nat.le_refl _⟩) hD hS hA (fun H locs hP hD hS => ?_)
        refine lv_istore (lv' := [(6, .int r34), (0, .ref (ad 7)), (1, .int v1), (2, .int v2), (3, .int v3_18), (4, .int v4_18), (5, .int v5_18)]) hx hb dX4_priceThrough_37 hl (by decide) rfl (fun ls hl => ?_)
        refine lv_aload_n hx hb dX4_priceThrough_39 rfl (lv_at hl 1 rfl) ?_
        refine gX_planner_stands S hK hP q200 dX4_priceThrough_40 ?_
        refine gX_stands_prices S hK hP q170 dX4_priceThrough_43 ?_
        refine lv_iload hx hb dX4_priceThrough_46 (lv_at hl 6 rfl) ?_
        obtain ⟨h48, hf⟩ := if_in hf
        refine lX_prices S hK hP h48 dX4_priceThrough_48 ?_
        refine lv_iload_n hx hb dX4_priceThrough_49 rfl (lv_at hl 3 rfl) ?_
        obtain ⟨h50, hf⟩ := if_in hf
        refine lX_row S hK hP h48 h50 dX4_priceThrough_50 ?_
        refine lv_iload hx hb dX4_priceThrough_51 (lv_at hl 5 rfl) ?_
        refine lv_iadd hx hb dX4_priceThrough_53 ?_
        refine lv_istore (lv' := [(7, .int ((ga σ18 (27 + v5_18.toNatClampNeg) v2.toNatClampNeg) + v4_18)), (6, .int r34), (0, .ref (ad 7)), (1, .int v1), (2, .int v2), (3, .int v3_18), (4, .int v4_18), (5, .int v5_18)]) hx hb dX4_priceThrough_54 hl (by decide) rfl (fun ls hl => ?_)
        refine lv_iload hx hb dX4_priceThrough_56 (lv_at hl 7 rfl) ?_
        refine lv_iload_n hx hb dX4_priceThrough_58 rfl (lv_at hl 4 rfl) ?_
        refine lv_icmp_eq (tgt := 85) hx hb dX4_priceThrough_59 (by decide) (fun c59 => ?_) (fun c59 => ?_)
        · have hf := ifp c59 hf
          refine lv_iinc (v := (v5_18 + (1 : Int32))) (lv' := [(5, .int (v5_18 + (1 : Int32))), (7, .int ((ga σ18 (27 + v5_18.toNatClampNeg) v2.toNatClampNeg) + v4_18)), (6, .int r34), (0, .ref (ad 7)), (1, .int v1), (2, .int v2), (3, .int v3_18), (4, .int v4_18)]) hx hb dX4_priceThrough_85 hl (k := 7) rfl rfl (by decide) rfl (fun ls hl => ?_)
          refine lv_goto (tgt := 18) hx hb dX4_priceThrough_88 (by decide) ?_
          exact ih18 v4_18 v3_18 (v5_18 + (1 : Int32)) σ18 H locs ls hf hP hD hS (lv_sub hl [3, 4, 5, 6, 7, 0] rfl)
        · have hf := ifn c59 hf
          refine lv_iload hx hb dX4_priceThrough_62 (lv_at hl 0 rfl) ?_
          refine lv_aload_n hx hb dX4_priceThrough_64 rfl (lv_at hl 2 rfl) ?_
          refine gX_planner_costs S hK hP q202 dX4_priceThrough_65 ?_
          refine lv_iload hx hb dX4_priceThrough_68 (lv_at hl 1 rfl) ?_
          obtain ⟨h70, hf⟩ := if_in hf
          refine lX_33 S hK hP h70 dX4_priceThrough_70 ?_
          refine lv_icmp_ge (tgt := 85) hx hb dX4_priceThrough_71 (by decide) (fun c71 => ?_) (fun c71 => ?_)
          · have hf := ifp c71 hf
            refine lv_iinc (v := (v5_18 + (1 : Int32))) (lv' := [(5, .int (v5_18 + (1 : Int32))), (7, .int ((ga σ18 (27 + v5_18.toNatClampNeg) v2.toNatClampNeg) + v4_18)), (6, .int r34), (0, .ref (ad 7)), (1, .int v1), (2, .int v2), (3, .int v3_18), (4, .int v4_18)]) hx hb dX4_priceThrough_85 hl (k := 7) rfl rfl (by decide) rfl (fun ls hl => ?_)
            refine lv_goto (tgt := 18) hx hb dX4_priceThrough_88 (by decide) ?_
            exact ih18 v4_18 v3_18 (v5_18 + (1 : Int32)) σ18 H locs ls hf hP hD hS (lv_sub hl [3, 4, 5, 6, 7, 0] rfl)
          · have hf := ifn c71 hf
            refine lv_aload_n hx hb dX4_priceThrough_74 rfl (lv_at hl 2 rfl) ?_
            refine gX_planner_costs S hK hP q202 dX4_priceThrough_75 ?_
            refine lv_iload hx hb dX4_priceThrough_78 (lv_at hl 1 rfl) ?_
            refine lv_iload hx hb dX4_priceThrough_80 (lv_at hl 0 rfl) ?_
            obtain ⟨h82, hf⟩ := if_in hf
            refine tX_33 S hK hP hD hS h82 dX4_priceThrough_82 (fun H locs hP hD hS => ?_)
            refine lv_iconst (v := (1 : Int32)) hx hb dX4_priceThrough_83 (by decide) ?_
            refine lv_istore_n (lv' := [(3, .int (1 : Int32)), (7, .int ((ga σ18 (27 + v5_18.toNatClampNeg) v2.toNatClampNeg) + v4_18)), (6, .int r34), (0, .ref (ad 7)), (1, .int v1), (2, .int v2), (4, .int v4_18), (5, .int v5_18)]) hx hb dX4_priceThrough_84 rfl hl (by decide) rfl (fun ls hl => ?_)
            refine lv_iinc (v := (v5_18 + (1 : Int32))) (lv' := [(5, .int (v5_18 + (1 : Int32))), (3, .int (1 : Int32)), (7, .int ((ga σ18 (27 + v5_18.toNatClampNeg) v2.toNatClampNeg) + v4_18)), (6, .int r34), (0, .ref (ad 7)), (1, .int v1), (2, .int v2), (4, .int v4_18)]) hx hb dX4_priceThrough_85 hl (k := 7) rfl rfl (by decide) rfl (fun ls hl => ?_)
            refine lv_goto (tgt := 18) hx hb dX4_priceThrough_88 (by decide) ?_
            exact ih18 v4_18 (1 : Int32) (v5_18 + (1 : Int32)) (sa σ18 33 r34.toNatClampNeg ((ga σ18 (27 + v5_18.toNatClampNeg) v2.toNatClampNeg) + v4_18)) H locs ls hf hP hD hS (lv_sub hl [4, 5, 6, 1, 7, 0] rfl)
  exact L18 KF (ga σ 33 r9.toNatClampNeg) (0 : Int32) (0 : Int32) σ H locs ls hf hP hD hS (lv_sub hl [3, 4, 5, 2, 1, 0] rfl)
theorem iX4_priceByShifting : YI yX4_priceByShifting cX4_priceByShifting 5 none 1 := ⟨q679, q8, by decide, by decide, by decide +kernel⟩
theorem vX4_priceByShifting : YV yX4_priceByShifting := ⟨q678, qs12⟩
set_option maxRecDepth 100000 in
set_option maxHeartbeats 4000000 in
theorem c_X4_priceByShifting (l : Launch) (D : va_G) (cy : Nat → ClassId) (ad : Nat → Nat) (σ : St) (v1 : Int32) (q : St) (hf : fX4_priceByShifting σ v1 = some q) : Cv l D cy (wX cy ad) yX4_priceByShifting cX4_priceByShifting 5 2 49 [.ref (ad 7), .int v1] σ q 0 0 := by
  refine Cv.enter (by decide) (Nat.le_of_ble_eq_true rfl) ?_
  intro aw ac p e s m below meth c A H locs S hr hlocks hA hK hP hD hS ls hl
  have hx := S.1
  have hb := S.2.1
  have hl : lv_has ls 5 [(0, .ref (ad 7)), (1, .int v1)] := hl
  unfold fX4_priceByShifting at hf
  refine lv_iconst (v := (1 : Int32)) hx hb dX4_priceByShifting_0 (by decide) ?_
  refine lv_istore_n (lv' := [(2, .int (1 : Int32)), (0, .ref (ad 7)), (1, .int v1)]) hx hb dX4_priceByShifting_1 rfl hl (by decide) rfl (fun ls hl => ?_)
  refine lv_iconst (v := (0 : Int32)) hx hb dX4_priceByShifting_2 (by decide) ?_
  refine lv_istore_n (lv' := [(3, .int (0 : Int32)), (2, .int (1 : Int32)), (0, .ref (ad 7)), (1, .int v1)]) hx hb dX4_priceByShifting_3 rfl hl (by decide) rfl (fun ls hl => ?_)
  have L4 : ∀ (n4 : Nat) (v2_4 : Int32) (v3_4 : Int32) (σ4 : St) (H : Heap) (locs : List Loc) (ls : Array Slot), fX4_priceByShifting_4 (fX4_priceByShifting_4_k v1) v1 n4 σ4 v2_4 v3_4 = some q → va_P D vwCl (wX cy ad aw ac σ4) H → va_D A (wX cy ad aw ac σ4) → va_S A s.heap H locs → lv_has ls 5 [(0, .ref (ad 7)), (1, .int v1), (2, .int v2_4), (3, .int v3_4)] → W p l e (Rm 2 49 0 0) s m [.ref (ad 7), .int v1].toArray below meth c H locs 0 0 (Zv D (wX cy ad) A q aw ac below [.ref (ad 7), .int v1].toArray s 0 0) (F0 m 4 ls []) := by
    intro n4
    induction n4 with
    | zero =>
      intro v2_4 v3_4 σ4 H locs ls hf
      cases hf
    | succ n4 ih4 =>
      intro v2_4 v3_4 σ4 H locs ls hf hP hD hS hl
      rw [fX4_priceByShifting_4] at hf
      refine lv_iload_n hx hb dX4_priceByShifting_4 rfl (lv_at hl 2 rfl) ?_
      refine lv_if_eq (tgt := 73) hx hb dX4_priceByShifting_5 (by decide) (fun c5 => ?_) (fun c5 => ?_)
      · have hf := ifp c5 hf
        have hl := lv_sub (l' := [(0, .ref (ad 7)), (1, .int v1), (2, .int v2_4), (3, .int v3_4)]) hl [0, 1, 2, 3] rfl
        unfold fX4_priceByShifting_4_k at hf
        exact u_vretw hx hb hr hlocks hP hD hS dX4_priceByShifting_73 hf (fun _ => rfl)
      · have hf := ifn c5 hf
        refine lv_iload_n hx hb dX4_priceByShifting_8 rfl (lv_at hl 3 rfl) ?_
        refine lv_aload_n hx hb dX4_priceByShifting_9 rfl (lv_at hl 0 rfl) ?_
        refine gX_planner_stands S hK hP q200 dX4_priceByShifting_10 ?_
        refine gX_stands_size S hK hP q172 dX4_priceByShifting_13 ?_
        refine lv_icmp_ge (tgt := 73) hx hb dX4_priceByShifting_16 (by decide) (fun c16 => ?_) (fun c16 => ?_)
        · have hf := ifp c16 hf
          have hl := lv_sub (l' := [(0, .ref (ad 7)), (1, .int v1), (2, .int v2_4), (3, .int v3_4)]) hl [0, 1, 2, 3] rfl
          unfold fX4_priceByShifting_4_k at hf
          exact u_vretw hx hb hr hlocks hP hD hS dX4_priceByShifting_73 hf (fun _ => rfl)
        · have hf := ifn c16 hf
          refine lv_iconst (v := (0 : Int32)) hx hb dX4_priceByShifting_19 (by decide) ?_
          refine lv_istore_n (lv' := [(2, .int (0 : Int32)), (0, .ref (ad 7)), (1, .int v1), (3, .int v3_4)]) hx hb dX4_priceByShifting_20 rfl hl (by decide) rfl (fun ls hl => ?_)
          refine lv_iconst (v := (0 : Int32)) hx hb dX4_priceByShifting_21 (by decide) ?_
          refine lv_istore (lv' := [(4, .int (0 : Int32)), (2, .int (0 : Int32)), (0, .ref (ad 7)), (1, .int v1), (3, .int v3_4)]) hx hb dX4_priceByShifting_22 hl (by decide) rfl (fun ls hl => ?_)
          have L24 : ∀ (n24 : Nat) (v2_24 : Int32) (v4_24 : Int32) (σ24 : St) (H : Heap) (locs : List Loc) (ls : Array Slot), fX4_priceByShifting_24 (fun σ4' v2_4' v3_4' => fX4_priceByShifting_4 (fX4_priceByShifting_4_k v1) v1 n4 σ4' v2_4' v3_4') (fX4_priceByShifting_24_k (fun σ4' v2_4' v3_4' => fX4_priceByShifting_4 (fX4_priceByShifting_4_k v1) v1 n4 σ4' v2_4' v3_4') v1 v3_4) v1 v3_4 n24 σ24 v2_24 v4_24 = some q → va_P D vwCl (wX cy ad aw ac σ24) H → va_D A (wX cy ad aw ac σ24) → va_S A s.heap H locs → lv_has ls 5 [(0, .ref (ad 7)), (1, .int v1), (2, .int v2_24), (3, .int v3_4), (4, .int v4_24)] → W p l e (Rm 2 49 0 0) s m [.ref (ad 7), .int v1].toArray below meth c H locs 0 0 (Zv D (wX cy ad) A q aw ac below [.ref (ad 7), .int v1].toArray s 0 0) (F0 m 24 ls []) := by
            intro n24
            induction n24 with
            | zero =>
              intro v2_24 v4_24 σ24 H locs ls hf
              cases hf
            | succ n24 ih24 =>
              intro v2_24 v4_24 σ24 H locs ls hf hP hD hS hl
              rw [fX4_priceByShifting_24] at hf
              refine lv_iload hx hb dX4_priceByShifting_24 (lv_at hl 4 rfl) ?_
              refine lv_aload_n hx hb dX4_priceByShifting_26 rfl (lv_at hl 0 rfl) ?_
              refine gX_planner_stands S hK hP q200 dX4_priceByShifting_27 ?_
              refine gX_stands_size S hK hP q172 dX4_priceByShifting_30 ?_
              refine lv_icmp_ge (tgt := 67) hx hb dX4_priceByShifting_33 (by decide) (fun c33 => ?_) (fun c33 => ?_)
              · have hf := ifp c33 hf
                have hl := lv_sub (l' := [(0, .ref (ad 7)), (1, .int v1), (2, .int v2_24), (3, .int v3_4), (4, .int v4_24)]) hl [0, 1, 2, 3, 4] rfl
                unfold fX4_priceByShifting_24_k at hf
                refine lv_iinc (v := (v3_4 + (1 : Int32))) (lv' := [(3, .int (v3_4 + (1 : Int32))), (0, .ref (ad 7)), (1, .int v1), (2, .int v2_24), (4, .int v4_24)]) hx hb dX4_priceByShifting_67 hl (k := 3) rfl rfl (by decide) rfl (fun ls hl => ?_)
                refine lv_goto (tgt := 4) hx hb dX4_priceByShifting_70 (by decide) ?_
                exact ih4 v2_24 (v3_4 + (1 : Int32)) σ24 H locs ls hf hP hD hS (lv_sub hl [1, 2, 3, 0] rfl)
              · have hf := ifn c33 hf
                refine lv_aload_n hx hb dX4_priceByShifting_36 rfl (lv_at hl 0 rfl) ?_
                refine gX_planner_stands S hK hP q200 dX4_priceByShifting_37 ?_
                refine lv_iload hx hb dX4_priceByShifting_40 (lv_at hl 4 rfl) ?_
                refine lv_iload_n hx hb dX4_priceByShifting_42 rfl (lv_at hl 1 rfl) ?_
                obtain ⟨r43, h43, hf⟩ := ob_some hf
                refine u_calli0 (u_runV (rest := []) S (c_X7_isBuilt l D cy ad σ24 v4_24 v1 r43 h43 aw ac H.size) iX7_isBuilt vX7_isBuilt q680 ⟨Nat.le_of_ble_eq_true rfl, Nat.le_of_ble_eq_true rfl⟩ hK hP hD (q0 := 6) rfl rfl rfl hl.1 (Nat.le_of_ble_eq_true rfl) dX4_priceByShifting_43 ⟨Nat.le_refl _, Nat.le_refl _⟩) hD hS hA (fun H locs hP hD hS => ?_)
                refine lv_if_eq (tgt := 61) hx hb dX4_priceByShifting_46 (by decide) (fun c46 => ?_) (fun c46 => ?_)
                · have hf := ifp c46 hf
                  refine lv_iinc (v := (v4_24 + (1 : Int32))) (lv' := [(4, .int (v4_24 + (1 : Int32))), (0, .ref (ad 7)), (1, .int v1), (2, .int v2_24), (3, .int v3_4)]) hx hb dX4_priceByShifting_61 hl (k := 4) rfl rfl (by decide) rfl (fun ls hl => ?_)
                  refine lv_goto (tgt := 24) hx hb dX4_priceByShifting_64 (by decide) ?_
                  exact ih24 v2_24 (v4_24 + (1 : Int32)) σ24 H locs ls hf hP hD hS (lv_sub hl [1, 2, 3, 4, 0] rfl)
                · have hf := ifn c46 hf
                  refine lv_aload_n hx hb dX4_priceByShifting_49 rfl (lv_at hl 0 rfl) ?_
                  refine lv_iload_n hx hb dX4_priceByShifting_50 rfl (lv_at hl 1 rfl) ?_
                  refine lv_iload hx hb dX4_priceByShifting_51 (lv_at hl 4 rfl) ?_
                  obtain ⟨q53, h53, hf⟩ := ob_some hf
                  refine u_calli0 (u_runV (rest := []) S (c_X4_priceThrough l D cy ad σ24 v1 v4_24 q53 h53 aw ac H.size) iX4_priceThrough vX4_priceThrough q684 ⟨Nat.le_of_ble_eq_true rfl, Nat.le_of_ble_eq_true rfl⟩ hK hP hD (q0 := 7) rfl rfl rfl hl.1 (Nat.le_of_ble_eq_true rfl) dX4_priceByShifting_53 ⟨Nat.le_refl _, Nat.le_refl _⟩) hD hS hA (fun H locs hP hD hS => ?_)
                  refine lv_if_eq (tgt := 61) hx hb dX4_priceByShifting_56 (by decide) (fun c56 => ?_) (fun c56 => ?_)
                  · have hf := ifp c56 hf
                    refine lv_iinc (v := (v4_24 + (1 : Int32))) (lv' := [(4, .int (v4_24 + (1 : Int32))), (0, .ref (ad 7)), (1, .int v1), (2, .int v2_24), (3, .int v3_4)]) hx hb dX4_priceByShifting_61 hl (k := 4) rfl rfl (by decide) rfl (fun ls hl => ?_)
                    refine lv_goto (tgt := 24) hx hb dX4_priceByShifting_64 (by decide) ?_
                    exact ih24 v2_24 (v4_24 + (1 : Int32)) q53.2 H locs ls hf hP hD hS (lv_sub hl [1, 2, 3, 4, 0] rfl)
                  · have hf := ifn c56 hf
                    refine lv_iconst (v := (1 : Int32)) hx hb dX4_priceByShifting_59 (by decide) ?_
                    refine lv_istore_n (lv' := [(2, .int (1 : Int32)), (0, .ref (ad 7)), (1, .int v1), (3, .int v3_4), (4, .int v4_24)]) hx hb dX4_priceByShifting_60 rfl hl (by decide) rfl (fun ls hl => ?_)
                    refine lv_iinc (v := (v4_24 + (1 : Int32))) (lv' := [(4, .int (v4_24 + (1 : Int32))), (2, .int (1 : Int32)), (0, .ref (ad 7)), (1, .int v1), (3, .int v3_4)]) hx hb dX4_priceByShifting_61 hl (k := 4) rfl rfl (by decide) rfl (fun ls hl => ?_)
                    refine lv_goto (tgt := 24) hx hb dX4_priceByShifting_64 (by decide) ?_
                    exact ih24 (1 : Int32) (v4_24 + (1 : Int32)) q53.2 H locs ls hf hP hD hS (lv_sub hl [2, 3, 1, 4, 0] rfl)
          exact L24 KF (0 : Int32) (0 : Int32) σ4 H locs ls hf hP hD hS (lv_sub hl [2, 3, 1, 4, 0] rfl)
  exact L4 KF (1 : Int32) (0 : Int32) σ H locs ls hf hP hD hS (lv_sub hl [2, 3, 1, 0] rfl)
theorem iX4_leastAct : YI yX4_leastAct cX4_leastAct 6 (some .int) 2 := ⟨q695, q8, by decide, by decide, by decide +kernel⟩
theorem vX4_leastAct : YV yX4_leastAct := ⟨q694, qs15⟩
set_option maxRecDepth 100000 in
set_option maxHeartbeats 4000000 in
theorem c_X4_leastAct (l : Launch) (D : va_G) (cy : Nat → ClassId) (ad : Nat → Nat) (σ : St) (v1 : Int32) (v2 : Int32) (r : Int32) (hf : fX4_leastAct σ v1 v2 = some r) : Ci l D cy (wX cy ad) yX4_leastAct cX4_leastAct 6 .int 2 44 [.ref (ad 7), .int v1, .int v2] σ r σ 0 0 := by
  refine Ci.enter (by decide) (Nat.le_of_ble_eq_true rfl) ?_
  intro aw ac p e s m below meth c A H locs S hr hlocks hA hK hP hD hS ls hl
  have hx := S.1
  have hb := S.2.1
  have hl : lv_has ls 6 [(0, .ref (ad 7)), (1, .int v1), (2, .int v2)] := hl
  unfold fX4_leastAct at hf
  refine lv_aload_n hx hb dX4_leastAct_0 rfl (lv_at hl 0 rfl) ?_
  refine gX_planner_costs S hK hP q202 dX4_leastAct_1 ?_
  refine lv_aload_n hx hb dX4_leastAct_4 rfl (lv_at hl 0 rfl) ?_
  refine lv_iload_n hx hb dX4_leastAct_5 rfl (lv_at hl 1 rfl) ?_
  refine lv_iload_n hx hb dX4_leastAct_6 rfl (lv_at hl 2 rfl) ?_
  obtain ⟨r7, h7, hf⟩ := ob_some hf
  refine u_calli0 (u_runV (rest := [.ref ac]) S (c_X4_place l D cy ad σ v1 v2 r7 h7 aw ac H.size) iX4_place vX4_place q658 ⟨Nat.le_of_ble_eq_true rfl, Nat.le_of_ble_eq_true rfl⟩ hK hP hD (q0 := 7) rfl rfl rfl hl.1 (Nat.le_of_ble_eq_true rfl) dX4_leastAct_7 ⟨Nat.le_refl _, Nat.le_refl _⟩) hD hS hA (fun H locs hP hD hS => ?_)
  obtain ⟨h10, hf⟩ := if_in hf
  refine lX_33 S hK hP h10 dX4_leastAct_10 ?_
  refine lv_istore_n (lv' := [(3, .int (ga σ 33 r7.toNatClampNeg)), (0, .ref (ad 7)), (1, .int v1), (2, .int v2)]) hx hb dX4_leastAct_11 rfl hl (by decide) rfl (fun ls hl => ?_)
  refine lv_iconst (v := (0 : Int32)) hx hb dX4_leastAct_12 (by decide) ?_
  refine lv_istore (lv' := [(4, .int (0 : Int32)), (3, .int (ga σ 33 r7.toNatClampNeg)), (0, .ref (ad 7)), (1, .int v1), (2, .int v2)]) hx hb dX4_leastAct_13 hl (by decide) rfl (fun ls hl => ?_)
  have L15 : ∀ (n15 : Nat) (v3_15 : Int32) (v4_15 : Int32) (H : Heap) (locs : List Loc) (ls : Array Slot), fX4_leastAct_15 (fX4_leastAct_15_k σ v1 v2 v3_15) σ v1 v2 v3_15 n15 v4_15 = some r → va_P D vwCl (wX cy ad aw ac σ) H → va_D A (wX cy ad aw ac σ) → va_S A s.heap H locs → lv_has ls 6 [(0, .ref (ad 7)), (1, .int v1), (2, .int v2), (3, .int v3_15), (4, .int v4_15)] → W p l e (Rm 2 44 0 0) s m [.ref (ad 7), .int v1, .int v2].toArray below meth c H locs 0 0 (Zi D (wX cy ad) A r σ aw ac below [.ref (ad 7), .int v1, .int v2].toArray s 0 0) (F0 m 15 ls []) := by
    intro n15
    induction n15 with
    | zero =>
      intro v3_15 v4_15 H locs ls hf
      cases hf
    | succ n15 ih15 =>
      intro v3_15 v4_15 H locs ls hf hP hD hS hl
      rw [fX4_leastAct_15] at hf
      refine lv_iload hx hb dX4_leastAct_15 (lv_at hl 4 rfl) ?_
      refine lv_aload_n hx hb dX4_leastAct_17 rfl (lv_at hl 0 rfl) ?_
      refine gX_planner_stones S hK hP q199 dX4_leastAct_18 ?_
      refine gX_stones_size S hK hP q135 dX4_leastAct_21 ?_
      refine lv_icmp_ge (tgt := 93) hx hb dX4_leastAct_24 (by decide) (fun c24 => ?_) (fun c24 => ?_)
      · have hf := ifp c24 hf
        have hl := lv_sub (l' := [(0, .ref (ad 7)), (1, .int v1), (2, .int v2), (3, .int v3_15), (4, .int v4_15)]) hl [0, 1, 2, 3, 4] rfl
        unfold fX4_leastAct_15_k at hf
        refine lv_iconst (v := (0 : Int32)) hx hb dX4_leastAct_93 (by decide) ?_
        refine lv_istore (lv' := [(4, .int (0 : Int32)), (0, .ref (ad 7)), (1, .int v1), (2, .int v2), (3, .int v3_15)]) hx hb dX4_leastAct_94 hl (by decide) rfl (fun ls hl => ?_)
        have L96 : ∀ (n96 : Nat) (v4_96 : Int32) (H : Heap) (locs : List Loc) (ls : Array Slot), fX4_leastAct_96 (fX4_leastAct_96_k σ v1 v2 v3_15) σ v1 v2 v3_15 n96 v4_96 = some r → va_P D vwCl (wX cy ad aw ac σ) H → va_D A (wX cy ad aw ac σ) → va_S A s.heap H locs → lv_has ls 6 [(0, .ref (ad 7)), (1, .int v1), (2, .int v2), (3, .int v3_15), (4, .int v4_96)] → W p l e (Rm 2 44 0 0) s m [.ref (ad 7), .int v1, .int v2].toArray below meth c H locs 0 0 (Zi D (wX cy ad) A r σ aw ac below [.ref (ad 7), .int v1, .int v2].toArray s 0 0) (F0 m 96 ls []) := by
          intro n96
          induction n96 with
          | zero =>
            intro v4_96 H locs ls hf
            cases hf
          | succ n96 ih96 =>
            intro v4_96 H locs ls hf hP hD hS hl
            rw [fX4_leastAct_96] at hf
            refine lv_iload hx hb dX4_leastAct_96 (lv_at hl 4 rfl) ?_
            refine lv_aload_n hx hb dX4_leastAct_98 rfl (lv_at hl 0 rfl) ?_
            refine gX_planner_stands S hK hP q200 dX4_leastAct_99 ?_
            refine gX_stands_size S hK hP q172 dX4_leastAct_102 ?_
            refine lv_icmp_ge (tgt := 180) hx hb dX4_leastAct_105 (by decide) (fun c105 => ?_) (fun c105 => ?_)
            · have hf := ifp c105 hf
              have hl := lv_sub (l' := [(0, .ref (ad 7)), (1, .int v1), (2, .int v2), (3, .int v3_15), (4, .int v4_96)]) hl [0, 1, 2, 3, 4] rfl
              unfold fX4_leastAct_96_k at hf
              refine lv_iconst (v := (-1 : Int32)) hx hb dX4_leastAct_180 (by decide) ?_
              exact u_iretr hx hb hr hlocks rfl hP hD hS dX4_leastAct_181 hf (fun _ => rfl)
            · have hf := ifn c105 hf
              refine lv_iload hx hb dX4_leastAct_108 (lv_at hl 4 rfl) ?_
              refine lv_iload_n hx hb dX4_leastAct_110 rfl (lv_at hl 2 rfl) ?_
              refine lv_icmp_eq (tgt := 131) hx hb dX4_leastAct_111 (by decide) (fun c111 => ?_) (fun c111 => ?_)
              · have hf := ifp c111 hf
                refine lv_iconst (v := (0 : Int32)) hx hb dX4_leastAct_131 (by decide) ?_
                refine lv_istore (lv' := [(5, .int (0 : Int32)), (0, .ref (ad 7)), (1, .int v1), (2, .int v2), (3, .int v3_15), (4, .int v4_96)]) hx hb dX4_leastAct_132 hl (by decide) rfl (fun ls hl => ?_)
                refine lv_iload hx hb dX4_leastAct_134 (lv_at hl 0 rfl) ?_
                refine lv_if_eq (tgt := 174) hx hb dX4_leastAct_136 (by decide) (fun _ => ?_) (fun c_ => absurd c_ (by decide))
                refine lv_iinc (v := (v4_96 + (1 : Int32))) (lv' := [(4, .int (v4_96 + (1 : Int32))), (5, .int (0 : Int32)), (0, .ref (ad 7)), (1, .int v1), (2, .int v2), (3, .int v3_15)]) hx hb dX4_leastAct_174 hl (k := 5) rfl rfl (by decide) rfl (fun ls hl => ?_)
                refine lv_goto (tgt := 96) hx hb dX4_leastAct_177 (by decide) ?_
                exact ih96 (v4_96 + (1 : Int32)) H locs ls hf hP hD hS (lv_sub hl [2, 3, 4, 5, 0] rfl)
              · have hf := ifn c111 hf
                refine lv_aload_n hx hb dX4_leastAct_114 rfl (lv_at hl 0 rfl) ?_
                refine gX_planner_stands S hK hP q200 dX4_leastAct_115 ?_
                refine lv_iload hx hb dX4_leastAct_118 (lv_at hl 4 rfl) ?_
                refine lv_iload_n hx hb dX4_leastAct_120 rfl (lv_at hl 1 rfl) ?_
                obtain ⟨r121, h121, hf⟩ := ob_some hf
                refine u_calli0 (u_runV (rest := []) S (c_X7_isBuilt l D cy ad σ v4_96 v1 r121 h121 aw ac H.size) iX7_isBuilt vX7_isBuilt q680 ⟨Nat.le_of_ble_eq_true rfl, Nat.le_of_ble_eq_true rfl⟩ hK hP hD (q0 := 6) rfl rfl rfl hl.1 (Nat.le_of_ble_eq_true rfl) dX4_leastAct_121 ⟨Nat.le_refl _, Nat.le_refl _⟩) hD hS hA (fun H locs hP hD hS => ?_)
                refine lv_if_eq (tgt := 131) hx hb dX4_leastAct_124 (by decide) (fun c124 => ?_) (fun c124 => ?_)
                · have hf := ifp c124 hf
                  refine lv_iconst (v := (0 : Int32)) hx hb dX4_leastAct_131 (by decide) ?_
                  refine lv_istore (lv' := [(5, .int (0 : Int32)), (0, .ref (ad 7)), (1, .int v1), (2, .int v2), (3, .int v3_15), (4, .int v4_96)]) hx hb dX4_leastAct_132 hl (by decide) rfl (fun ls hl => ?_)
                  refine lv_iload hx hb dX4_leastAct_134 (lv_at hl 0 rfl) ?_
                  refine lv_if_eq (tgt := 174) hx hb dX4_leastAct_136 (by decide) (fun _ => ?_) (fun c_ => absurd c_ (by decide))
                  refine lv_iinc (v := (v4_96 + (1 : Int32))) (lv' := [(4, .int (v4_96 + (1 : Int32))), (5, .int (0 : Int32)), (0, .ref (ad 7)), (1, .int v1), (2, .int v2), (3, .int v3_15)]) hx hb dX4_leastAct_174 hl (k := 5) rfl rfl (by decide) rfl (fun ls hl => ?_)
                  refine lv_goto (tgt := 96) hx hb dX4_leastAct_177 (by decide) ?_
                  exact ih96 (v4_96 + (1 : Int32)) H locs ls hf hP hD hS (lv_sub hl [2, 3, 4, 5, 0] rfl)
                · have hf := ifn c124 hf
                  refine lv_iconst (v := (1 : Int32)) hx hb dX4_leastAct_127 (by decide) ?_
                  refine lv_goto (tgt := 132) hx hb dX4_leastAct_128 (by decide) ?_
                  refine lv_istore (lv' := [(5, .int (1 : Int32)), (0, .ref (ad 7)), (1, .int v1), (2, .int v2), (3, .int v3_15), (4, .int v4_96)]) hx hb dX4_leastAct_132 hl (by decide) rfl (fun ls hl => ?_)
                  refine lv_iload hx hb dX4_leastAct_134 (lv_at hl 0 rfl) ?_
                  refine lv_if_eq (tgt := 174) hx hb dX4_leastAct_136 (by decide) (fun c_ => absurd c_ (by decide)) (fun _ => ?_)
                  refine lv_aload_n hx hb dX4_leastAct_139 rfl (lv_at hl 1 rfl) ?_
                  refine gX_planner_stands S hK hP q200 dX4_leastAct_140 ?_
                  refine gX_stands_prices S hK hP q170 dX4_leastAct_143 ?_
                  refine lv_iload_n hx hb dX4_leastAct_146 rfl (lv_at hl 3 rfl) ?_
                  obtain ⟨h147, hf⟩ := if_in hf
                  refine lX_prices S hK hP h147 dX4_leastAct_147 ?_
                  refine lv_iload hx hb dX4_leastAct_148 (lv_at hl 5 rfl) ?_
                  obtain ⟨h150, hf⟩ := if_in hf
                  refine lX_row S hK hP h147 h150 dX4_leastAct_150 ?_
                  refine lv_aload_n hx hb dX4_leastAct_151 rfl (lv_at hl 1 rfl) ?_
                  refine gX_planner_costs S hK hP q202 dX4_leastAct_152 ?_
                  refine lv_aload_n hx hb dX4_leastAct_155 rfl (lv_at hl 1 rfl) ?_
                  refine lv_iload_n hx hb dX4_leastAct_156 rfl (lv_at hl 2 rfl) ?_
                  refine lv_iload hx hb dX4_leastAct_157 (lv_at hl 5 rfl) ?_
                  obtain ⟨r159, h159, hf⟩ := ob_some hf
                  refine u_calli0 (u_runV (rest := [.ref ac, .int (ga σ (27 + v2.toNatClampNeg) v4_96.toNatClampNeg)]) S (c_X4_place l D cy ad σ v1 v4_96 r159 h159 aw ac H.size) iX4_place vX4_place q658 ⟨Nat.le_of_ble_eq_true rfl, Nat.le_of_ble_eq_true rfl⟩ hK hP hD (q0 := 7) rfl rfl rfl hl.1 (Nat.le_of_ble_eq_true rfl) dX4_leastAct_159 ⟨Nat.le_refl _, Nat.le_refl _⟩) hD hS hA (fun H locs hP hD hS => ?_)
                  obtain ⟨h162, hf⟩ := if_in hf
                  refine lX_33 S hK hP h162 dX4_leastAct_162 ?_
                  refine lv_iadd hx hb dX4_leastAct_163 ?_
                  refine lv_iload_n hx hb dX4_leastAct_164 rfl (lv_at hl 4 rfl) ?_
                  refine lv_icmp_ne (tgt := 174) hx hb dX4_leastAct_165 (by decide) (fun c165 => ?_) (fun c165 => ?_)
                  · have hf := ifn c165 hf
                    refine lv_iinc (v := (v4_96 + (1 : Int32))) (lv' := [(4, .int (v4_96 + (1 : Int32))), (5, .int (1 : Int32)), (0, .ref (ad 7)), (1, .int v1), (2, .int v2), (3, .int v3_15)]) hx hb dX4_leastAct_174 hl (k := 5) rfl rfl (by decide) rfl (fun ls hl => ?_)
                    refine lv_goto (tgt := 96) hx hb dX4_leastAct_177 (by decide) ?_
                    exact ih96 (v4_96 + (1 : Int32)) H locs ls hf hP hD hS (lv_sub hl [2, 3, 4, 5, 0] rfl)
                  · have hf := ifp c165 hf
                    refine lv_bipush (v := (100 : Int32)) hx hb dX4_leastAct_168 (by decide) ?_
                    refine lv_iload hx hb dX4_leastAct_170 (lv_at hl 5 rfl) ?_
                    refine lv_iadd hx hb dX4_leastAct_172 ?_
                    exact u_iretr hx hb hr hlocks rfl hP hD hS dX4_leastAct_173 hf (fun _ => rfl)
        exact L96 KF (0 : Int32) H locs ls hf hP hD hS (lv_sub hl [1, 2, 3, 4, 0] rfl)
      · have hf := ifn c24 hf
        refine lv_aload_n hx hb dX4_leastAct_27 rfl (lv_at hl 0 rfl) ?_
        refine gX_planner_near S hK hP q203 dX4_leastAct_28 ?_
        refine lv_iload_n hx hb dX4_leastAct_31 rfl (lv_at hl 2 rfl) ?_
        obtain ⟨h32, hf⟩ := if_in hf
        refine lX_34 S hK hP h32 dX4_leastAct_32 ?_
        refine lv_iload hx hb dX4_leastAct_33 (lv_at hl 4 rfl) ?_
        refine lv_ishr hx hb dX4_leastAct_35 ?_
        refine lv_iconst (v := (1 : Int32)) hx hb dX4_leastAct_36 (by decide) ?_
        refine lv_iand hx hb dX4_leastAct_37 ?_
        refine lv_iconst (v := (1 : Int32)) hx hb dX4_leastAct_38 (by decide) ?_
        refine lv_icmp_ne (tgt := 46) hx hb dX4_leastAct_39 (by decide) (fun c39 => ?_) (fun c39 => ?_)
        · have hf := ifn c39 hf
          refine lv_iconst (v := (0 : Int32)) hx hb dX4_leastAct_46 (by decide) ?_
          refine lv_istore (lv' := [(5, .int (0 : Int32)), (0, .ref (ad 7)), (1, .int v1), (2, .int v2), (3, .int v3_15), (4, .int v4_15)]) hx hb dX4_leastAct_47 hl (by decide) rfl (fun ls hl => ?_)
          refine lv_iload hx hb dX4_leastAct_49 (lv_at hl 0 rfl) ?_
          refine lv_if_eq (tgt := 87) hx hb dX4_leastAct_51 (by decide) (fun _ => ?_) (fun c_ => absurd c_ (by decide))
          refine lv_iinc (v := (v4_15 + (1 : Int32))) (lv' := [(4, .int (v4_15 + (1 : Int32))), (5, .int (0 : Int32)), (0, .ref (ad 7)), (1, .int v1), (2, .int v2), (3, .int v3_15)]) hx hb dX4_leastAct_87 hl (k := 5) rfl rfl (by decide) rfl (fun ls hl => ?_)
          refine lv_goto (tgt := 15) hx hb dX4_leastAct_90 (by decide) ?_
          exact ih15 v3_15 (v4_15 + (1 : Int32)) H locs ls hf hP hD hS (lv_sub hl [2, 3, 4, 5, 0] rfl)
        · have hf := ifp c39 hf
          refine lv_iconst (v := (1 : Int32)) hx hb dX4_leastAct_42 (by decide) ?_
          refine lv_goto (tgt := 47) hx hb dX4_leastAct_43 (by decide) ?_
          refine lv_istore (lv' := [(5, .int (1 : Int32)), (0, .ref (ad 7)), (1, .int v1), (2, .int v2), (3, .int v3_15), (4, .int v4_15)]) hx hb dX4_leastAct_47 hl (by decide) rfl (fun ls hl => ?_)
          refine lv_iload hx hb dX4_leastAct_49 (lv_at hl 0 rfl) ?_
          refine lv_if_eq (tgt := 87) hx hb dX4_leastAct_51 (by decide) (fun c_ => absurd c_ (by decide)) (fun _ => ?_)
          refine lv_aload_n hx hb dX4_leastAct_54 rfl (lv_at hl 1 rfl) ?_
          refine lv_iload hx hb dX4_leastAct_55 (lv_at hl 5 rfl) ?_
          refine lv_iload_n hx hb dX4_leastAct_57 rfl (lv_at hl 2 rfl) ?_
          obtain ⟨r58, h58, hf⟩ := ob_some hf
          refine u_calli0 (u_runV (rest := []) S (c_X4_canLay l D cy ad σ v4_15 v1 r58 h58 aw ac H.size) iX4_canLay vX4_canLay q666 ⟨Nat.le_of_ble_eq_true rfl, Nat.le_of_ble_eq_true rfl⟩ hK hP hD (q0 := 7) rfl rfl rfl hl.1 (Nat.le_of_ble_eq_true rfl) dX4_leastAct_58 ⟨Nat.le_refl _, Nat.le_refl _⟩) hD hS hA (fun H locs hP hD hS => ?_)
          refine lv_if_eq (tgt := 87) hx hb dX4_leastAct_61 (by decide) (fun c61 => ?_) (fun c61 => ?_)
          · have hf := ifp c61 hf
            refine lv_iinc (v := (v4_15 + (1 : Int32))) (lv' := [(4, .int (v4_15 + (1 : Int32))), (5, .int (1 : Int32)), (0, .ref (ad 7)), (1, .int v1), (2, .int v2), (3, .int v3_15)]) hx hb dX4_leastAct_87 hl (k := 5) rfl rfl (by decide) rfl (fun ls hl => ?_)
            refine lv_goto (tgt := 15) hx hb dX4_leastAct_90 (by decide) ?_
            exact ih15 v3_15 (v4_15 + (1 : Int32)) H locs ls hf hP hD hS (lv_sub hl [2, 3, 4, 5, 0] rfl)
          · have hf := ifn c61 hf
            refine lv_aload_n hx hb dX4_leastAct_64 rfl (lv_at hl 1 rfl) ?_
            refine gX_planner_costs S hK hP q202 dX4_leastAct_65 ?_
            refine lv_aload_n hx hb dX4_leastAct_68 rfl (lv_at hl 1 rfl) ?_
            refine lv_iload_n hx hb dX4_leastAct_69 rfl (lv_at hl 2 rfl) ?_
            refine lv_iconst (v := (1 : Int32)) hx hb dX4_leastAct_70 (by decide) ?_
            refine lv_iload hx hb dX4_leastAct_71 (lv_at hl 5 rfl) ?_
            refine lv_ishl hx hb dX4_leastAct_73 ?_
            refine lv_ior hx hb dX4_leastAct_74 ?_
            refine lv_iload_n hx hb dX4_leastAct_75 rfl (lv_at hl 3 rfl) ?_
            obtain ⟨r76, h76, hf⟩ := ob_some hf
            refine u_calli0 (u_runV (rest := [.ref ac]) S (c_X4_place l D cy ad σ (v1 ||| ((1 : Int32) <<< (v4_15 &&& 31))) v2 r76 h76 aw ac H.size) iX4_place vX4_place q658 ⟨Nat.le_of_ble_eq_true rfl, Nat.le_of_ble_eq_true rfl⟩ hK hP hD (q0 := 7) rfl rfl rfl hl.1 (Nat.le_of_ble_eq_true rfl) dX4_leastAct_76 ⟨Nat.le_refl _, Nat.le_refl _⟩) hD hS hA (fun H locs hP hD hS => ?_)
            obtain ⟨h79, hf⟩ := if_in hf
            refine lX_33 S hK hP h79 dX4_leastAct_79 ?_
            refine lv_iload_n hx hb dX4_leastAct_80 rfl (lv_at hl 4 rfl) ?_
            refine lv_icmp_ne (tgt := 87) hx hb dX4_leastAct_81 (by decide) (fun c81 => ?_) (fun c81 => ?_)
            · have hf := ifn c81 hf
              refine lv_iinc (v := (v4_15 + (1 : Int32))) (lv' := [(4, .int (v4_15 + (1 : Int32))), (5, .int (1 : Int32)), (0, .ref (ad 7)), (1, .int v1), (2, .int v2), (3, .int v3_15)]) hx hb dX4_leastAct_87 hl (k := 5) rfl rfl (by decide) rfl (fun ls hl => ?_)
              refine lv_goto (tgt := 15) hx hb dX4_leastAct_90 (by decide) ?_
              exact ih15 v3_15 (v4_15 + (1 : Int32)) H locs ls hf hP hD hS (lv_sub hl [2, 3, 4, 5, 0] rfl)
            · have hf := ifp c81 hf
              refine lv_iload hx hb dX4_leastAct_84 (lv_at hl 5 rfl) ?_
              exact u_iretr hx hb hr hlocks rfl hP hD hS dX4_leastAct_86 hf (fun _ => rfl)
  exact L15 KF (ga σ 33 r7.toNatClampNeg) (0 : Int32) H locs ls hf hP hD hS (lv_sub hl [2, 3, 4, 1, 0] rfl)
theorem iX4_trace : YI yX4_trace cX4_trace 5 none 1 := ⟨q691, q8, by decide, by decide, by decide +kernel⟩
theorem vX4_trace : YV yX4_trace := ⟨q690, qs14⟩
set_option maxRecDepth 100000 in
set_option maxHeartbeats 4000000 in
theorem c_X4_trace (l : Launch) (D : va_G) (cy : Nat → ClassId) (ad : Nat → Nat) (σ : St) (v1 : Int32) (q : St) (hf : fX4_trace σ v1 = some q) : Cv l D cy (wX cy ad) yX4_trace cX4_trace 5 3 69 [.ref (ad 7), .int v1] σ q 0 0 := by
  refine Cv.enter (by decide) (Nat.le_of_ble_eq_true rfl) ?_
  intro aw ac p e s m below meth c A H locs S hr hlocks hA hK hP hD hS ls hl
  have hx := S.1
  have hb := S.2.1
  have hl : lv_has ls 5 [(0, .ref (ad 7)), (1, .int v1)] := hl
  unfold fX4_trace at hf
  refine lv_aload_n hx hb dX4_trace_0 rfl (lv_at hl 0 rfl) ?_
  refine lv_iconst (v := (0 : Int32)) hx hb dX4_trace_1 (by decide) ?_
  refine pX_planner_actCount S hK hP hD hS q205 dX4_trace_2 (fun H locs hP hD hS => ?_)
  refine lv_iconst (v := (0 : Int32)) hx hb dX4_trace_5 (by decide) ?_
  refine lv_istore_n (lv' := [(2, .int (0 : Int32)), (0, .ref (ad 7)), (1, .int v1)]) hx hb dX4_trace_6 rfl hl (by decide) rfl (fun ls hl => ?_)
  refine lv_iconst (v := (0 : Int32)) hx hb dX4_trace_7 (by decide) ?_
  refine lv_istore_n (lv' := [(3, .int (0 : Int32)), (2, .int (0 : Int32)), (0, .ref (ad 7)), (1, .int v1)]) hx hb dX4_trace_8 rfl hl (by decide) rfl (fun ls hl => ?_)
  have L9 : ∀ (n9 : Nat) (v2_9 : Int32) (v3_9 : Int32) (σ9 : St) (H : Heap) (locs : List Loc) (ls : Array Slot), fX4_trace_9 (fX4_trace_9_k v1) v1 n9 σ9 v2_9 v3_9 = some q → va_P D vwCl (wX cy ad aw ac σ9) H → va_D A (wX cy ad aw ac σ9) → va_S A s.heap H locs → lv_has ls 5 [(0, .ref (ad 7)), (1, .int v1), (2, .int v2_9), (3, .int v3_9)] → W p l e (Rm 3 69 0 0) s m [.ref (ad 7), .int v1].toArray below meth c H locs 0 0 (Zv D (wX cy ad) A q aw ac below [.ref (ad 7), .int v1].toArray s 0 0) (F0 m 9 ls []) := by
    intro n9
    induction n9 with
    | zero =>
      intro v2_9 v3_9 σ9 H locs ls hf
      cases hf
    | succ n9 ih9 =>
      intro v2_9 v3_9 σ9 H locs ls hf hP hD hS hl
      rw [fX4_trace_9] at hf
      refine lv_aload_n hx hb dX4_trace_9 rfl (lv_at hl 0 rfl) ?_
      refine gX_planner_costs S hK hP q202 dX4_trace_10 ?_
      refine lv_iconst (v := (0 : Int32)) hx hb dX4_trace_13 (by decide) ?_
      obtain ⟨h14, hf⟩ := if_in hf
      refine lX_33 S hK hP h14 dX4_trace_14 ?_
      refine lv_ldc hx hb S.2.2.2.1 (S.2.2.2.2 _ (List.mem_cons_of_mem _ q674)) dX4_trace_15 ?_
      refine lv_icmp_ge (tgt := 96) hx hb dX4_trace_17 (by decide) (fun c17 => ?_) (fun c17 => ?_)
      · have hf := ifp c17 hf
        have hl := lv_sub (l' := [(0, .ref (ad 7)), (1, .int v1), (2, .int v2_9), (3, .int v3_9)]) hl [0, 1, 2, 3] rfl
        unfold fX4_trace_9_k at hf
        exact u_vretw hx hb hr hlocks hP hD hS dX4_trace_96 hf (fun _ => rfl)
      · have hf := ifn c17 hf
        refine lv_iload_n hx hb dX4_trace_20 rfl (lv_at hl 2 rfl) ?_
        refine lv_iload_n hx hb dX4_trace_21 rfl (lv_at hl 1 rfl) ?_
        refine lv_icmp_eq (tgt := 96) hx hb dX4_trace_22 (by decide) (fun c22 => ?_) (fun c22 => ?_)
        · have hf := ifp c22 hf
          have hl := lv_sub (l' := [(0, .ref (ad 7)), (1, .int v1), (2, .int v2_9), (3, .int v3_9)]) hl [0, 1, 2, 3] rfl
          unfold fX4_trace_9_k at hf
          exact u_vretw hx hb hr hlocks hP hD hS dX4_trace_96 hf (fun _ => rfl)
        · have hf := ifn c22 hf
          refine lv_aload_n hx hb dX4_trace_25 rfl (lv_at hl 0 rfl) ?_
          refine gX_planner_actCount S hK hP q205 dX4_trace_26 ?_
          refine lv_bipush (v := (70 : Int32)) hx hb dX4_trace_29 (by decide) ?_
          refine lv_icmp_ge (tgt := 96) hx hb dX4_trace_31 (by decide) (fun c31 => ?_) (fun c31 => ?_)
          · have hf := ifp c31 hf
            have hl := lv_sub (l' := [(0, .ref (ad 7)), (1, .int v1), (2, .int v2_9), (3, .int v3_9)]) hl [0, 1, 2, 3] rfl
            unfold fX4_trace_9_k at hf
            exact u_vretw hx hb hr hlocks hP hD hS dX4_trace_96 hf (fun _ => rfl)
          · have hf := ifn c31 hf
            refine lv_aload_n hx hb dX4_trace_34 rfl (lv_at hl 0 rfl) ?_
            refine lv_iload_n hx hb dX4_trace_35 rfl (lv_at hl 2 rfl) ?_
            refine lv_iload_n hx hb dX4_trace_36 rfl (lv_at hl 3 rfl) ?_
            obtain ⟨r37, h37, hf⟩ := ob_some hf
            refine u_calli0 (u_runV (rest := []) S (c_X4_leastAct l D cy ad σ9 v2_9 v3_9 r37 h37 aw ac H.size) iX4_leastAct vX4_leastAct q692 ⟨Nat.le_of_ble_eq_true rfl, Nat.le_of_ble_eq_true rfl⟩ hK hP hD (q0 := 7) rfl rfl rfl hl.1 (Nat.le_of_ble_eq_true rfl) dX4_trace_37 ⟨Nat.le_refl _, Nat.le_refl _⟩) hD hS hA (fun H locs hP hD hS => ?_)
            refine lv_istore (lv' := [(4, .int r37), (0, .ref (ad 7)), (1, .int v1), (2, .int v2_9), (3, .int v3_9)]) hx hb dX4_trace_40 hl (by decide) rfl (fun ls hl => ?_)
            refine lv_iload hx hb dX4_trace_42 (lv_at hl 0 rfl) ?_
            refine lv_iconst (v := (-1 : Int32)) hx hb dX4_trace_44 (by decide) ?_
            refine lv_icmp_ne (tgt := 49) hx hb dX4_trace_45 (by decide) (fun c45 => ?_) (fun c45 => ?_)
            · have hf := ifn c45 hf
              refine lv_aload_n hx hb dX4_trace_49 rfl (lv_at hl 1 rfl) ?_
              refine gX_planner_acts S hK hP q204 dX4_trace_50 ?_
              refine lv_aload_n hx hb dX4_trace_53 rfl (lv_at hl 1 rfl) ?_
              refine gX_planner_actCount S hK hP q205 dX4_trace_54 ?_
              refine lv_iload hx hb dX4_trace_57 (lv_at hl 0 rfl) ?_
              obtain ⟨h59, hf⟩ := if_in hf
              refine tX_35 S hK hP hD hS h59 dX4_trace_59 (fun H locs hP hD hS => ?_)
              refine lv_aload_n hx hb dX4_trace_60 rfl (lv_at hl 1 rfl) ?_
              refine lv_dup hx hb dX4_trace_61 rfl ?_
              refine gX_planner_actCount S hK hP q205 dX4_trace_62 ?_
              refine lv_iconst (v := (1 : Int32)) hx hb dX4_trace_65 (by decide) ?_
              refine lv_iadd hx hb dX4_trace_66 ?_
              refine pX_planner_actCount S hK hP hD hS q205 dX4_trace_67 (fun H locs hP hD hS => ?_)
              refine lv_iload hx hb dX4_trace_70 (lv_at hl 0 rfl) ?_
              refine lv_bipush (v := (100 : Int32)) hx hb dX4_trace_72 (by decide) ?_
              refine lv_icmp_lt (tgt := 86) hx hb dX4_trace_74 (by decide) (fun c74 => ?_) (fun c74 => ?_)
              · have hf := ifp c74 hf
                refine lv_iload_n hx hb dX4_trace_86 rfl (lv_at hl 3 rfl) ?_
                refine lv_iconst (v := (1 : Int32)) hx hb dX4_trace_87 (by decide) ?_
                refine lv_iload hx hb dX4_trace_88 (lv_at hl 0 rfl) ?_
                refine lv_ishl hx hb dX4_trace_90 ?_
                refine lv_ior hx hb dX4_trace_91 ?_
                refine lv_istore_n (lv' := [(2, .int (v2_9 ||| ((1 : Int32) <<< (r37 &&& 31)))), (4, .int r37), (0, .ref (ad 7)), (1, .int v1), (3, .int v3_9)]) hx hb dX4_trace_92 rfl hl (by decide) rfl (fun ls hl => ?_)
                refine lv_goto (tgt := 9) hx hb dX4_trace_93 (by decide) ?_
                exact ih9 (v2_9 ||| ((1 : Int32) <<< (r37 &&& 31))) v3_9 (si (sa σ9 35 (gi σ9 15).toNatClampNeg r37) 15 ((gi (sa σ9 35 (gi σ9 15).toNatClampNeg r37) 15) + (1 : Int32))) H locs ls hf hP hD hS (lv_sub hl [2, 3, 0, 4] rfl)
              · have hf := ifn c74 hf
                refine lv_iload hx hb dX4_trace_77 (lv_at hl 0 rfl) ?_
                refine lv_bipush (v := (100 : Int32)) hx hb dX4_trace_79 (by decide) ?_
                refine lv_isub hx hb dX4_trace_81 ?_
                refine lv_istore_n (lv' := [(3, .int (r37 - (100 : Int32))), (4, .int r37), (0, .ref (ad 7)), (1, .int v1), (2, .int v2_9)]) hx hb dX4_trace_82 rfl hl (by decide) rfl (fun ls hl => ?_)
                refine lv_goto (tgt := 93) hx hb dX4_trace_83 (by decide) ?_
                refine lv_goto (tgt := 9) hx hb dX4_trace_93 (by decide) ?_
                exact ih9 v2_9 (r37 - (100 : Int32)) (si (sa σ9 35 (gi σ9 15).toNatClampNeg r37) 15 ((gi (sa σ9 35 (gi σ9 15).toNatClampNeg r37) 15) + (1 : Int32))) H locs ls hf hP hD hS (lv_sub hl [2, 3, 4, 0] rfl)
            · have hf := ifp c45 hf
              exact u_vretw hx hb hr hlocks hP hD hS dX4_trace_48 hf (fun _ => rfl)
  exact L9 KF (0 : Int32) (0 : Int32) (si σ 15 (0 : Int32)) H locs ls hf hP hD hS (lv_sub hl [2, 3, 1, 0] rfl)
