theorem iX10_findPlan : YI yX10_findPlan cX10_findPlan 5 none 0 := ⟨q1326, q12, by decide, by decide, by decide +kernel⟩
theorem vX10_findPlan : YV yX10_findPlan := ⟨q1325, qs43⟩
set_option maxRecDepth 100000 in
set_option maxHeartbeats 4000000 in
theorem c_X10_findPlan (l : Launch) (D : va_G) (cy : Nat → ClassId) (ad : Nat → Nat) (σ : St) (q : St) (hf : fX10_findPlan σ = some q) : Cv l D cy (wM cy ad) yX10_findPlan cX10_findPlan 5 3 73 [.ref (ad 0)] σ q 0 0 := by
  refine Cv.enter (by decide) (Nat.le_of_ble_eq_true rfl) ?_
  intro aw ac p e s m below meth c A H locs S hr hlocks hA hK hP hD hS ls hl
  have hx := S.1
  have hb := S.2.1
  have hl : lv_has ls 5 [(0, .ref (ad 0))] := hl
  unfold fX10_findPlan at hf
  refine lv_aload_n hx hb dX10_findPlan_0 rfl (lv_at hl 0 rfl) ?_
  refine gM_m_isPlanned S hK hP q975 dX10_findPlan_1 ?_
  refine lv_if_eq (tgt := 8) hx hb dX10_findPlan_4 (by decide) (fun c4 => ?_) (fun c4 => ?_)
  · have hf := ifp c4 hf
    refine lv_aload_n hx hb dX10_findPlan_8 rfl (lv_at hl 0 rfl) ?_
    refine lv_iconst (v := (1 : Int32)) hx hb dX10_findPlan_9 (by decide) ?_
    refine pM_m_isPlanned S hK hP hD hS rfl rfl q975 dX10_findPlan_10 (fun H locs hP hD hS => ?_)
    refine lv_aload_n hx hb dX10_findPlan_13 rfl (lv_at hl 0 rfl) ?_
    refine lv_iconst (v := (0 : Int32)) hx hb dX10_findPlan_14 (by decide) ?_
    refine pM_m_actMany S hK hP hD hS q979 dX10_findPlan_15 (fun H locs hP hD hS => ?_)
    refine lv_aload_n hx hb dX10_findPlan_18 rfl (lv_at hl 0 rfl) ?_
    refine lv_iconst (v := (-1 : Int32)) hx hb dX10_findPlan_19 (by decide) ?_
    refine pM_m_planPrice S hK hP hD hS q980 dX10_findPlan_20 (fun H locs hP hD hS => ?_)
    refine lv_iconst (v := (1 : Int32)) hx hb dX10_findPlan_23 (by decide) ?_
    refine lv_aload_n hx hb dX10_findPlan_24 rfl (lv_at hl 0 rfl) ?_
    refine gM_m_stones S hK hP q961 dX10_findPlan_25 ?_
    refine lv_ishl hx hb dX10_findPlan_28 ?_
    refine lv_iconst (v := (1 : Int32)) hx hb dX10_findPlan_29 (by decide) ?_
    refine lv_isub hx hb dX10_findPlan_30 ?_
    refine lv_istore_n (lv' := [(1, .int (((1 : Int32) <<< ((gi (si (si (si σ 14 (1 : Int32)) 15 (0 : Int32)) 16 (-1 : Int32)) 9) &&& 31)) - (1 : Int32))), (0, .ref (ad 0))]) hx hb dX10_findPlan_31 rfl hl (by decide) rfl (fun ls hl => ?_)
    refine lv_aload_n hx hb dX10_findPlan_32 rfl (lv_at hl 1 rfl) ?_
    refine gM_m_stands S hK hP q968 dX10_findPlan_33 ?_
    refine lv_if_ne (tgt := 40) hx hb dX10_findPlan_36 (by decide) (fun c36 => ?_) (fun c36 => ?_)
    · have hf := ifn c36 hf
      refine lv_iload_n hx hb dX10_findPlan_40 rfl (lv_at hl 0 rfl) ?_
      refine lv_istore_n (lv' := [(2, .int (((1 : Int32) <<< ((gi (si (si (si σ 14 (1 : Int32)) 15 (0 : Int32)) 16 (-1 : Int32)) 9) &&& 31)) - (1 : Int32))), (1, .int (((1 : Int32) <<< ((gi (si (si (si σ 14 (1 : Int32)) 15 (0 : Int32)) 16 (-1 : Int32)) 9) &&& 31)) - (1 : Int32))), (0, .ref (ad 0))]) hx hb dX10_findPlan_41 rfl hl (by decide) rfl (fun ls hl => ?_)
      have L42 : ∀ (n42 : Nat) (v1_42 : Int32) (v2_42 : Int32) (σ42 : St) (H : Heap) (locs : List Loc) (ls : Array Slot), fX10_findPlan_42 (fX10_findPlan_42_k v1_42) v1_42 n42 σ42 v2_42 = some q → va_P D vwCl (wM cy ad aw ac σ42) H → va_D A (wM cy ad aw ac σ42) → va_S A s.heap H locs → lv_has ls 5 [(0, .ref (ad 0)), (1, .int v1_42), (2, .int v2_42)] → W p l e (Rm 3 73 0 0) s m [.ref (ad 0)].toArray below meth c H locs 0 0 (Zv D (wM cy ad) A q aw ac below [.ref (ad 0)].toArray s 0 0) (F0 m 42 ls []) := by
        intro n42
        induction n42 with
        | zero =>
          intro v1_42 v2_42 σ42 H locs ls hf
          cases hf
        | succ n42 ih42 =>
          intro v1_42 v2_42 σ42 H locs ls hf hP hD hS hl
          rw [fX10_findPlan_42] at hf
          refine lv_iload_n hx hb dX10_findPlan_42 rfl (lv_at hl 2 rfl) ?_
          refine lv_if_lt (tgt := 58) hx hb dX10_findPlan_43 (by decide) (fun c43 => ?_) (fun c43 => ?_)
          · have hf := ifp c43 hf
            have hl := lv_sub (l' := [(0, .ref (ad 0)), (1, .int v1_42), (2, .int v2_42)]) hl [0, 1, 2] rfl
            unfold fX10_findPlan_42_k at hf
            refine lv_aload_n hx hb dX10_findPlan_58 rfl (lv_at hl 0 rfl) ?_
            refine gM_m_costs S hK hP q977 dX10_findPlan_59 ?_
            refine lv_iconst (v := (0 : Int32)) hx hb dX10_findPlan_62 (by decide) ?_
            obtain ⟨h63, hf⟩ := if_in hf
            refine lM_18 S hK hP h63 dX10_findPlan_63 ?_
            refine lv_ldc hx hb S.2.2.2.1 (S.2.2.2.2 _ (List.mem_cons_of_mem _ q1331)) dX10_findPlan_64 ?_
            refine lv_icmp_lt (tgt := 70) hx hb dX10_findPlan_66 (by decide) (fun c66 => ?_) (fun c66 => ?_)
            · have hf := ifp c66 hf
              refine lv_aload_n hx hb dX10_findPlan_70 rfl (lv_at hl 0 rfl) ?_
              refine lv_aload_n hx hb dX10_findPlan_71 rfl (lv_at hl 0 rfl) ?_
              refine gM_m_costs S hK hP q977 dX10_findPlan_72 ?_
              refine lv_iconst (v := (0 : Int32)) hx hb dX10_findPlan_75 (by decide) ?_
              obtain ⟨h76, hf⟩ := if_in hf
              refine lM_18 S hK hP h76 dX10_findPlan_76 ?_
              refine pM_m_planPrice S hK hP hD hS q980 dX10_findPlan_77 (fun H locs hP hD hS => ?_)
              refine lv_iconst (v := (0 : Int32)) hx hb dX10_findPlan_80 (by decide) ?_
              refine lv_istore_n (lv' := [(2, .int (0 : Int32)), (0, .ref (ad 0)), (1, .int v1_42)]) hx hb dX10_findPlan_81 rfl hl (by decide) rfl (fun ls hl => ?_)
              refine lv_iconst (v := (0 : Int32)) hx hb dX10_findPlan_82 (by decide) ?_
              refine lv_istore_n (lv' := [(3, .int (0 : Int32)), (2, .int (0 : Int32)), (0, .ref (ad 0)), (1, .int v1_42)]) hx hb dX10_findPlan_83 rfl hl (by decide) rfl (fun ls hl => ?_)
              have L84 : ∀ (n84 : Nat) (v2_84 : Int32) (v3_84 : Int32) (σ84 : St) (H : Heap) (locs : List Loc) (ls : Array Slot), fX10_findPlan_84 (fX10_findPlan_84_k v1_42) v1_42 n84 σ84 v2_84 v3_84 = some q → va_P D vwCl (wM cy ad aw ac σ84) H → va_D A (wM cy ad aw ac σ84) → va_S A s.heap H locs → lv_has ls 5 [(0, .ref (ad 0)), (1, .int v1_42), (2, .int v2_84), (3, .int v3_84)] → W p l e (Rm 3 73 0 0) s m [.ref (ad 0)].toArray below meth c H locs 0 0 (Zv D (wM cy ad) A q aw ac below [.ref (ad 0)].toArray s 0 0) (F0 m 84 ls []) := by
                intro n84
                induction n84 with
                | zero =>
                  intro v2_84 v3_84 σ84 H locs ls hf
                  cases hf
                | succ n84 ih84 =>
                  intro v2_84 v3_84 σ84 H locs ls hf hP hD hS hl
                  rw [fX10_findPlan_84] at hf
                  refine lv_iload_n hx hb dX10_findPlan_84 rfl (lv_at hl 2 rfl) ?_
                  refine lv_iload_n hx hb dX10_findPlan_85 rfl (lv_at hl 1 rfl) ?_
                  refine lv_icmp_eq (tgt := 156) hx hb dX10_findPlan_86 (by decide) (fun c86 => ?_) (fun c86 => ?_)
                  · have hf := ifp c86 hf
                    have hl := lv_sub (l' := [(0, .ref (ad 0)), (1, .int v1_42), (2, .int v2_84), (3, .int v3_84)]) hl [0, 1, 2, 3] rfl
                    unfold fX10_findPlan_84_k at hf
                    exact u_vretw hx hb hr hlocks hP hD hS dX10_findPlan_156 hf (fun _ => rfl)
                  · have hf := ifn c86 hf
                    refine lv_aload_n hx hb dX10_findPlan_89 rfl (lv_at hl 0 rfl) ?_
                    refine lv_iload_n hx hb dX10_findPlan_90 rfl (lv_at hl 2 rfl) ?_
                    refine lv_iload_n hx hb dX10_findPlan_91 rfl (lv_at hl 3 rfl) ?_
                    obtain ⟨r92, h92, hf⟩ := ob_some hf
                    refine u_calli0 (u_runV (rest := []) S (c_X10_actAt l D cy ad σ84 v2_84 v3_84 r92 h92 aw ac H.size) iX10_actAt vX10_actAt q1336 ⟨Nat.le_of_ble_eq_true rfl, Nat.le_of_ble_eq_true rfl⟩ hK hP hD (q0 := 0) rfl rfl rfl hl.1 (Nat.le_of_ble_eq_true rfl) dX10_findPlan_92 ⟨Nat.le_refl _, Nat.le_refl _⟩) hD hS hA (fun H locs hP hD hS => ?_)
                    refine lv_istore (lv' := [(4, .int r92), (0, .ref (ad 0)), (1, .int v1_42), (2, .int v2_84), (3, .int v3_84)]) hx hb dX10_findPlan_95 hl (by decide) rfl (fun ls hl => ?_)
                    refine lv_aload_n hx hb dX10_findPlan_97 rfl (lv_at hl 1 rfl) ?_
                    refine gM_m_acts S hK hP q978 dX10_findPlan_98 ?_
                    refine lv_aload_n hx hb dX10_findPlan_101 rfl (lv_at hl 1 rfl) ?_
                    refine gM_m_actMany S hK hP q979 dX10_findPlan_102 ?_
                    refine lv_iload hx hb dX10_findPlan_105 (lv_at hl 0 rfl) ?_
                    obtain ⟨h107, hf⟩ := if_in hf
                    refine tM_19 S hK hP hD hS h107 dX10_findPlan_107 (fun H locs hP hD hS => ?_)
                    refine lv_aload_n hx hb dX10_findPlan_108 rfl (lv_at hl 1 rfl) ?_
                    refine lv_dup hx hb dX10_findPlan_109 rfl ?_
                    refine gM_m_actMany S hK hP q979 dX10_findPlan_110 ?_
                    refine lv_iconst (v := (1 : Int32)) hx hb dX10_findPlan_113 (by decide) ?_
                    refine lv_iadd hx hb dX10_findPlan_114 ?_
                    refine pM_m_actMany S hK hP hD hS q979 dX10_findPlan_115 (fun H locs hP hD hS => ?_)
                    refine lv_iload hx hb dX10_findPlan_118 (lv_at hl 0 rfl) ?_
                    refine lv_bipush (v := (100 : Int32)) hx hb dX10_findPlan_120 (by decide) ?_
                    refine lv_icmp_ge (tgt := 134) hx hb dX10_findPlan_122 (by decide) (fun c122 => ?_) (fun c122 => ?_)
                    · have hf := ifp c122 hf
                      refine lv_iload_n hx hb dX10_findPlan_134 rfl (lv_at hl 3 rfl) ?_
                      refine lv_istore_n (lv' := [(2, .int v2_84), (4, .int r92), (0, .ref (ad 0)), (1, .int v1_42), (3, .int v3_84)]) hx hb dX10_findPlan_135 rfl hl (by decide) rfl (fun ls hl => ?_)
                      refine lv_iload hx hb dX10_findPlan_136 (lv_at hl 1 rfl) ?_
                      refine lv_bipush (v := (100 : Int32)) hx hb dX10_findPlan_138 (by decide) ?_
                      refine lv_icmp_ge (tgt := 147) hx hb dX10_findPlan_140 (by decide) (fun c140 => ?_) (fun c140 => ?_)
                      · have hf := ifp c140 hf
                        refine lv_iload hx hb dX10_findPlan_147 (lv_at hl 1 rfl) ?_
                        refine lv_bipush (v := (100 : Int32)) hx hb dX10_findPlan_149 (by decide) ?_
                        refine lv_isub hx hb dX10_findPlan_151 ?_
                        refine lv_istore_n (lv' := [(3, .int (r92 - (100 : Int32))), (2, .int v2_84), (4, .int r92), (0, .ref (ad 0)), (1, .int v1_42)]) hx hb dX10_findPlan_152 rfl hl (by decide) rfl (fun ls hl => ?_)
                        refine lv_goto (tgt := 84) hx hb dX10_findPlan_153 (by decide) ?_
                        exact ih84 v2_84 (r92 - (100 : Int32)) (si (sa σ84 19 (gi σ84 15).toNatClampNeg r92) 15 ((gi (sa σ84 19 (gi σ84 15).toNatClampNeg r92) 15) + (1 : Int32))) H locs ls hf hP hD hS (lv_sub hl [3, 4, 1, 0] rfl)
                      · have hf := ifn c140 hf
                        refine lv_iload_n hx hb dX10_findPlan_143 rfl (lv_at hl 4 rfl) ?_
                        refine lv_goto (tgt := 152) hx hb dX10_findPlan_144 (by decide) ?_
                        refine lv_istore_n (lv' := [(3, .int v3_84), (2, .int v2_84), (4, .int r92), (0, .ref (ad 0)), (1, .int v1_42)]) hx hb dX10_findPlan_152 rfl hl (by decide) rfl (fun ls hl => ?_)
                        refine lv_goto (tgt := 84) hx hb dX10_findPlan_153 (by decide) ?_
                        exact ih84 v2_84 v3_84 (si (sa σ84 19 (gi σ84 15).toNatClampNeg r92) 15 ((gi (sa σ84 19 (gi σ84 15).toNatClampNeg r92) 15) + (1 : Int32))) H locs ls hf hP hD hS (lv_sub hl [3, 4, 1, 0] rfl)
                    · have hf := ifn c122 hf
                      refine lv_iload_n hx hb dX10_findPlan_125 rfl (lv_at hl 3 rfl) ?_
                      refine lv_iconst (v := (1 : Int32)) hx hb dX10_findPlan_126 (by decide) ?_
                      refine lv_iload hx hb dX10_findPlan_127 (lv_at hl 0 rfl) ?_
                      refine lv_ishl hx hb dX10_findPlan_129 ?_
                      refine lv_ior hx hb dX10_findPlan_130 ?_
                      refine lv_goto (tgt := 135) hx hb dX10_findPlan_131 (by decide) ?_
                      refine lv_istore_n (lv' := [(2, .int (v2_84 ||| ((1 : Int32) <<< (r92 &&& 31)))), (4, .int r92), (0, .ref (ad 0)), (1, .int v1_42), (3, .int v3_84)]) hx hb dX10_findPlan_135 rfl hl (by decide) rfl (fun ls hl => ?_)
                      refine lv_iload hx hb dX10_findPlan_136 (lv_at hl 1 rfl) ?_
                      refine lv_bipush (v := (100 : Int32)) hx hb dX10_findPlan_138 (by decide) ?_
                      refine lv_icmp_ge (tgt := 147) hx hb dX10_findPlan_140 (by decide) (fun c140 => ?_) (fun c140 => ?_)
                      · have hf := ifp c140 hf
                        refine lv_iload hx hb dX10_findPlan_147 (lv_at hl 1 rfl) ?_
                        refine lv_bipush (v := (100 : Int32)) hx hb dX10_findPlan_149 (by decide) ?_
                        refine lv_isub hx hb dX10_findPlan_151 ?_
                        refine lv_istore_n (lv' := [(3, .int (r92 - (100 : Int32))), (2, .int (v2_84 ||| ((1 : Int32) <<< (r92 &&& 31)))), (4, .int r92), (0, .ref (ad 0)), (1, .int v1_42)]) hx hb dX10_findPlan_152 rfl hl (by decide) rfl (fun ls hl => ?_)
                        refine lv_goto (tgt := 84) hx hb dX10_findPlan_153 (by decide) ?_
                        exact ih84 (v2_84 ||| ((1 : Int32) <<< (r92 &&& 31))) (r92 - (100 : Int32)) (si (sa σ84 19 (gi σ84 15).toNatClampNeg r92) 15 ((gi (sa σ84 19 (gi σ84 15).toNatClampNeg r92) 15) + (1 : Int32))) H locs ls hf hP hD hS (lv_sub hl [3, 4, 1, 0] rfl)
                      · have hf := ifn c140 hf
                        refine lv_iload_n hx hb dX10_findPlan_143 rfl (lv_at hl 4 rfl) ?_
                        refine lv_goto (tgt := 152) hx hb dX10_findPlan_144 (by decide) ?_
                        refine lv_istore_n (lv' := [(3, .int v3_84), (2, .int (v2_84 ||| ((1 : Int32) <<< (r92 &&& 31)))), (4, .int r92), (0, .ref (ad 0)), (1, .int v1_42)]) hx hb dX10_findPlan_152 rfl hl (by decide) rfl (fun ls hl => ?_)
                        refine lv_goto (tgt := 84) hx hb dX10_findPlan_153 (by decide) ?_
                        exact ih84 (v2_84 ||| ((1 : Int32) <<< (r92 &&& 31))) v3_84 (si (sa σ84 19 (gi σ84 15).toNatClampNeg r92) 15 ((gi (sa σ84 19 (gi σ84 15).toNatClampNeg r92) 15) + (1 : Int32))) H locs ls hf hP hD hS (lv_sub hl [3, 4, 1, 0] rfl)
              exact L84 KF (0 : Int32) (0 : Int32) (si σ42 16 (ga σ42 18 (0 : Int32).toNatClampNeg)) H locs ls hf hP hD hS (lv_sub hl [2, 3, 1, 0] rfl)
            · have hf := ifn c66 hf
              exact u_vretw hx hb hr hlocks hP hD hS dX10_findPlan_69 hf (fun _ => rfl)
          · have hf := ifn c43 hf
            refine lv_aload_n hx hb dX10_findPlan_46 rfl (lv_at hl 0 rfl) ?_
            refine lv_iload_n hx hb dX10_findPlan_47 rfl (lv_at hl 2 rfl) ?_
            refine lv_iload_n hx hb dX10_findPlan_48 rfl (lv_at hl 1 rfl) ?_
            obtain ⟨q49, h49, hf⟩ := ob_some hf
            refine u_callv0 (u_runV (rest := []) S (c_X10_findCosts l D cy ad σ42 v2_42 v1_42 q49 h49 aw ac H.size) iX10_findCosts vX10_findCosts q1327 ⟨Nat.le_of_ble_eq_true rfl, Nat.le_of_ble_eq_true rfl⟩ hK hP hD (q0 := 0) rfl rfl rfl hl.1 (Nat.le_of_ble_eq_true rfl) dX10_findPlan_49 ⟨Nat.le_refl _, Nat.le_refl _⟩) hD hS hA (fun H locs hP hD hS => ?_)
            refine lv_iinc (v := (v2_42 + (-1 : Int32))) (lv' := [(2, .int (v2_42 + (-1 : Int32))), (0, .ref (ad 0)), (1, .int v1_42)]) hx hb dX10_findPlan_52 hl (k := 2) rfl rfl (by decide) rfl (fun ls hl => ?_)
            refine lv_goto (tgt := 42) hx hb dX10_findPlan_55 (by decide) ?_
            exact ih42 v1_42 (v2_42 + (-1 : Int32)) q49 H locs ls hf hP hD hS (lv_sub hl [1, 2, 0] rfl)
      exact L42 KF (((1 : Int32) <<< ((gi (si (si (si σ 14 (1 : Int32)) 15 (0 : Int32)) 16 (-1 : Int32)) 9) &&& 31)) - (1 : Int32)) (((1 : Int32) <<< ((gi (si (si (si σ 14 (1 : Int32)) 15 (0 : Int32)) 16 (-1 : Int32)) 9) &&& 31)) - (1 : Int32)) (si (si (si σ 14 (1 : Int32)) 15 (0 : Int32)) 16 (-1 : Int32)) H locs ls hf hP hD hS (lv_sub hl [2, 1, 0] rfl)
    · have hf := ifp c36 hf
      exact u_vretw hx hb hr hlocks hP hD hS dX10_findPlan_39 hf (fun _ => rfl)
  · have hf := ifn c4 hf
    exact u_vretw hx hb hr hlocks hP hD hS dX10_findPlan_7 hf (fun _ => rfl)
theorem iX10_plan : YI yX10_plan cX10_plan 1 (some .int) 0 := ⟨q1322, q12, by decide, by decide, by decide +kernel⟩
theorem vX10_plan : YV yX10_plan := ⟨q1320, q1321⟩
set_option maxRecDepth 100000 in
set_option maxHeartbeats 4000000 in
theorem c_X10_plan (l : Launch) (D : va_G) (cy : Nat → ClassId) (ad : Nat → Nat) (σ : St) (q : Int32 × St) (hf : fX10_plan σ = some q) : Ci l D cy (wM cy ad) yX10_plan cX10_plan 1 .int 4 97 [.ref (ad 0)] σ q.1 q.2 0 0 := by
  refine Ci.enter (by decide) (Nat.le_of_ble_eq_true rfl) ?_
  intro aw ac p e s m below meth c A H locs S hr hlocks hA hK hP hD hS ls hl
  have hx := S.1
  have hb := S.2.1
  have hl : lv_has ls 1 [(0, .ref (ad 0))] := hl
  unfold fX10_plan at hf
  refine lv_aload_n hx hb dX10_plan_0 rfl (lv_at hl 0 rfl) ?_
  refine gM_m_stands S hK hP q968 dX10_plan_1 ?_
  refine lv_if_ne (tgt := 10) hx hb dX10_plan_4 (by decide) (fun c4 => ?_) (fun c4 => ?_)
  · have hf := ifn c4 hf
    refine lv_aload_n hx hb dX10_plan_10 rfl (lv_at hl 0 rfl) ?_
    obtain ⟨q11, h11, hf⟩ := ob_some hf
    refine u_callv0 (u_runV (rest := []) S (c_X10_findPlan l D cy ad σ q11 h11 aw ac H.size) iX10_findPlan vX10_findPlan q1323 ⟨Nat.le_of_ble_eq_true rfl, Nat.le_of_ble_eq_true rfl⟩ hK hP hD (q0 := 0) rfl rfl rfl hl.1 (Nat.le_of_ble_eq_true rfl) dX10_plan_11 ⟨Nat.le_refl _, Nat.le_refl _⟩) hD hS hA (fun H locs hP hD hS => ?_)
    refine lv_aload_n hx hb dX10_plan_14 rfl (lv_at hl 0 rfl) ?_
    refine gM_m_planPrice S hK hP q980 dX10_plan_15 ?_
    exact u_iretw hx hb hr hlocks rfl hP hD hS dX10_plan_18 hf (fun _ => rfl)
  · have hf := ifp c4 hf
    refine lv_bipush (v := (-3 : Int32)) hx hb dX10_plan_7 (by decide) ?_
    exact u_iretw hx hb hr hlocks rfl hP hD hS dX10_plan_9 hf (fun _ => rfl)
theorem iX10_act : YI yX10_act cX10_act 2 (some .int) 1 := ⟨q1343, q12, by decide, by decide, by decide +kernel⟩
theorem vX10_act : YV yX10_act := ⟨q1341, q1342⟩
set_option maxRecDepth 100000 in
set_option maxHeartbeats 4000000 in
theorem c_X10_act (l : Launch) (D : va_G) (cy : Nat → ClassId) (ad : Nat → Nat) (σ : St) (v1 : Int32) (q : Int32 × St) (hf : fX10_act σ v1 = some q) : Ci l D cy (wM cy ad) yX10_act cX10_act 2 .int 4 97 [.ref (ad 0), .int v1] σ q.1 q.2 0 0 := by
  refine Ci.enter (by decide) (Nat.le_of_ble_eq_true rfl) ?_
  intro aw ac p e s m below meth c A H locs S hr hlocks hA hK hP hD hS ls hl
  have hx := S.1
  have hb := S.2.1
  have hl : lv_has ls 2 [(0, .ref (ad 0)), (1, .int v1)] := hl
  unfold fX10_act at hf
  refine lv_iload_n hx hb dX10_act_0 rfl (lv_at hl 1 rfl) ?_
  refine lv_if_ge (tgt := 7) hx hb dX10_act_1 (by decide) (fun c1 => ?_) (fun c1 => ?_)
  · have hf := ifp c1 hf
    refine lv_aload_n hx hb dX10_act_7 rfl (lv_at hl 0 rfl) ?_
    refine gM_m_stands S hK hP q968 dX10_act_8 ?_
    refine lv_if_ne (tgt := 17) hx hb dX10_act_11 (by decide) (fun c11 => ?_) (fun c11 => ?_)
    · have hf := ifn c11 hf
      refine lv_aload_n hx hb dX10_act_17 rfl (lv_at hl 0 rfl) ?_
      obtain ⟨q18, h18, hf⟩ := ob_some hf
      refine u_callv0 (u_runV (rest := []) S (c_X10_findPlan l D cy ad σ q18 h18 aw ac H.size) iX10_findPlan vX10_findPlan q1323 ⟨Nat.le_of_ble_eq_true rfl, Nat.le_of_ble_eq_true rfl⟩ hK hP hD (q0 := 0) rfl rfl rfl hl.1 (Nat.le_of_ble_eq_true rfl) dX10_act_18 ⟨Nat.le_refl _, Nat.le_refl _⟩) hD hS hA (fun H locs hP hD hS => ?_)
      refine lv_iload_n hx hb dX10_act_21 rfl (lv_at hl 1 rfl) ?_
      refine lv_aload_n hx hb dX10_act_22 rfl (lv_at hl 0 rfl) ?_
      refine gM_m_actMany S hK hP q979 dX10_act_23 ?_
      refine lv_icmp_ge (tgt := 38) hx hb dX10_act_26 (by decide) (fun c26 => ?_) (fun c26 => ?_)
      · have hf := ifp c26 hf
        refine lv_iconst (v := (-1 : Int32)) hx hb dX10_act_38 (by decide) ?_
        exact u_iretw hx hb hr hlocks rfl hP hD hS dX10_act_39 hf (fun _ => rfl)
      · have hf := ifn c26 hf
        refine lv_aload_n hx hb dX10_act_29 rfl (lv_at hl 0 rfl) ?_
        refine gM_m_acts S hK hP q978 dX10_act_30 ?_
        refine lv_iload_n hx hb dX10_act_33 rfl (lv_at hl 1 rfl) ?_
        obtain ⟨h34, hf⟩ := if_in hf
        refine lM_19 S hK hP h34 dX10_act_34 ?_
        refine lv_goto (tgt := 39) hx hb dX10_act_35 (by decide) ?_
        exact u_iretw hx hb hr hlocks rfl hP hD hS dX10_act_39 hf (fun _ => rfl)
    · have hf := ifp c11 hf
      refine lv_bipush (v := (-3 : Int32)) hx hb dX10_act_14 (by decide) ?_
      exact u_iretw hx hb hr hlocks rfl hP hD hS dX10_act_16 hf (fun _ => rfl)
  · have hf := ifn c1 hf
    refine lv_bipush (v := (-2 : Int32)) hx hb dX10_act_4 (by decide) ?_
    exact u_iretw hx hb hr hlocks rfl hP hD hS dX10_act_6 hf (fun _ => rfl)
theorem iX10_isDay : YI yX10_isDay cX10_isDay 1 (some .boolean) 1 := ⟨q1350, q12, by decide, by decide, by decide +kernel⟩
set_option maxRecDepth 100000 in
set_option maxHeartbeats 4000000 in
theorem c_X10_isDay (l : Launch) (D : va_G) (cy : Nat → ClassId) (σ : St) (v0 : Int32) (r : Int32) (hf : fX10_isDay v0 = some r) : Ci l D cy wN yX10_isDay cX10_isDay 1 .boolean 1 25 [.int v0] σ r σ 0 0 := by
  refine Ci.enter (by decide) (Nat.le_of_ble_eq_true rfl) ?_
  intro aw ac p e s m below meth c A H locs S hr hlocks hA hK hP hD hS ls hl
  have hx := S.1
  have hb := S.2.1
  have hl : lv_has ls 1 [(0, .int v0)] := hl
  unfold fX10_isDay at hf
  refine lv_iload_n hx hb dX10_isDay_0 rfl (lv_at hl 0 rfl) ?_
  refine lv_i2l (v := (v0).toInt64) hx hb dX10_isDay_1 rfl ?_
  refine lv_lconst (v := (0 : Int64)) hx hb dX10_isDay_2 (by decide) ?_
  refine lv_ldc2 hx hb S.2.2.2.1 (S.2.2.2.2 _ (List.mem_cons_of_mem _ q1351)) dX10_isDay_3 ?_
  obtain ⟨r6, h6, hf⟩ := ob_some hf
  refine p_calli0 (u_runS (rest := []) S (c_X10_in l D cy σ ((v0).toInt64) (0 : Int64) (79 : Int64) r6 h6 aw ac H.size) iX10_in q1112 q1111 ⟨Nat.le_of_ble_eq_true rfl, Nat.le_of_ble_eq_true rfl⟩ hK wN_P (wN_D (A := fun _ => True)) rfl hl.1 (Nat.le_of_ble_eq_true rfl) dX10_isDay_6 ⟨Nat.le_refl _, Nat.le_refl _⟩) hP hS hA (fun H locs hP hS => ?_)
  obtain ⟨n9, hf⟩ := ifs hf
  exact u_iretr hx hb hr hlocks n9 hP hD hS dX10_isDay_9 hf (fun _ => rfl)
theorem iX10_light : YI yX10_light cX10_light 5 (some .int) 3 := ⟨q1347, q12, by decide, by decide, by decide +kernel⟩
theorem vX10_light : YV yX10_light := ⟨q1345, q1346⟩
set_option maxRecDepth 100000 in
set_option maxHeartbeats 4000000 in
theorem c_X10_light (l : Launch) (D : va_G) (cy : Nat → ClassId) (ad : Nat → Nat) (σ : St) (v1 : Int32) (v2 : Int32) (v3 : Int32) (q : Int32 × St) (hf : fX10_light σ v1 v2 v3 = some q) : Ci l D cy (wM cy ad) yX10_light cX10_light 5 .int 2 45 [.ref (ad 0), .int v1, .int v2, .int v3] σ q.1 q.2 0 0 := by
  refine Ci.enter (by decide) (Nat.le_of_ble_eq_true rfl) ?_
  intro aw ac p e s m below meth c A H locs S hr hlocks hA hK hP hD hS ls hl
  have hx := S.1
  have hb := S.2.1
  have hl : lv_has ls 5 [(0, .ref (ad 0)), (1, .int v1), (2, .int v2), (3, .int v3)] := hl
  unfold fX10_light at hf
  refine lv_iload_n hx hb dX10_light_0 rfl (lv_at hl 1 rfl) ?_
  obtain ⟨r1, h1, hf⟩ := ob_some hf
  refine p_calli0 (u_runS (rest := []) S (c_X10_isDay l D cy σ v1 r1 h1 aw ac H.size) iX10_isDay q1349 q1348 ⟨Nat.le_of_ble_eq_true rfl, Nat.le_of_ble_eq_true rfl⟩ hK wN_P (wN_D (A := fun _ => True)) rfl hl.1 (Nat.le_of_ble_eq_true rfl) dX10_light_1 ⟨Nat.le_refl _, Nat.le_refl _⟩) hP hS hA (fun H locs hP hS => ?_)
  refine lv_if_eq (tgt := 32) hx hb dX10_light_4 (by decide) (fun c4 => ?_) (fun c4 => ?_)
  · have hf := ifp c4 hf
    refine lv_bipush (v := (-2 : Int32)) hx hb dX10_light_32 (by decide) ?_
    exact u_iretw hx hb hr hlocks rfl hP hD hS dX10_light_34 hf (fun _ => rfl)
  · have hf := ifn c4 hf
    refine lv_iload_n hx hb dX10_light_7 rfl (lv_at hl 2 rfl) ?_
    refine lv_i2l (v := (v2).toInt64) hx hb dX10_light_8 rfl ?_
    refine lv_iload_n hx hb dX10_light_9 rfl (lv_at hl 1 rfl) ?_
    refine lv_i2l (v := (v1).toInt64) hx hb dX10_light_10 rfl ?_
    refine lv_ldc2 hx hb S.2.2.2.1 (S.2.2.2.2 _ (List.mem_cons_of_mem _ q1351)) dX10_light_11 ?_
    obtain ⟨r14, h14, hf⟩ := ob_some hf
    refine p_calli0 (u_runS (rest := []) S (c_X10_in l D cy σ ((v2).toInt64) ((v1).toInt64) (79 : Int64) r14 h14 aw ac H.size) iX10_in q1112 q1111 ⟨Nat.le_of_ble_eq_true rfl, Nat.le_of_ble_eq_true rfl⟩ hK wN_P (wN_D (A := fun _ => True)) rfl hl.1 (Nat.le_of_ble_eq_true rfl) dX10_light_14 ⟨Nat.le_refl _, Nat.le_refl _⟩) hP hS hA (fun H locs hP hS => ?_)
    refine lv_if_eq (tgt := 32) hx hb dX10_light_17 (by decide) (fun c17 => ?_) (fun c17 => ?_)
    · have hf := ifp c17 hf
      refine lv_bipush (v := (-2 : Int32)) hx hb dX10_light_32 (by decide) ?_
      exact u_iretw hx hb hr hlocks rfl hP hD hS dX10_light_34 hf (fun _ => rfl)
    · have hf := ifn c17 hf
      refine lv_iload_n hx hb dX10_light_20 rfl (lv_at hl 3 rfl) ?_
      refine lv_i2l (v := (v3).toInt64) hx hb dX10_light_21 rfl ?_
      refine lv_lconst (v := (0 : Int64)) hx hb dX10_light_22 (by decide) ?_
      refine lv_ldc2 hx hb S.2.2.2.1 (S.2.2.2.2 _ (List.mem_cons_of_mem _ q1352)) dX10_light_23 ?_
      obtain ⟨r26, h26, hf⟩ := ob_some hf
      refine p_calli0 (u_runS (rest := []) S (c_X10_in l D cy σ ((v3).toInt64) (0 : Int64) (16 : Int64) r26 h26 aw ac H.size) iX10_in q1112 q1111 ⟨Nat.le_of_ble_eq_true rfl, Nat.le_of_ble_eq_true rfl⟩ hK wN_P (wN_D (A := fun _ => True)) rfl hl.1 (Nat.le_of_ble_eq_true rfl) dX10_light_26 ⟨Nat.le_refl _, Nat.le_refl _⟩) hP hS hA (fun H locs hP hS => ?_)
      refine lv_if_ne (tgt := 35) hx hb dX10_light_29 (by decide) (fun c29 => ?_) (fun c29 => ?_)
      · have hf := ifn c29 hf
        refine lv_iload_n hx hb dX10_light_35 rfl (lv_at hl 1 rfl) ?_
        refine lv_istore (lv' := [(4, .int v1), (0, .ref (ad 0)), (1, .int v1), (2, .int v2), (3, .int v3)]) hx hb dX10_light_36 hl (by decide) rfl (fun ls hl => ?_)
        have L38 : ∀ (n38 : Nat) (v4_38 : Int32) (σ38 : St) (H : Heap) (locs : List Loc) (ls : Array Slot), fX10_light_38 (fX10_light_38_k v1 v2 v3) v1 v2 v3 n38 σ38 v4_38 = some q → va_P D vwCl (wM cy ad aw ac σ38) H → va_D A (wM cy ad aw ac σ38) → va_S A s.heap H locs → lv_has ls 5 [(0, .ref (ad 0)), (1, .int v1), (2, .int v2), (3, .int v3), (4, .int v4_38)] → W p l e (Rm 2 45 0 0) s m [.ref (ad 0), .int v1, .int v2, .int v3].toArray below meth c H locs 0 0 (Zi D (wM cy ad) A q.1 q.2 aw ac below [.ref (ad 0), .int v1, .int v2, .int v3].toArray s 0 0) (F0 m 38 ls []) := by
          intro n38
          induction n38 with
          | zero =>
            intro v4_38 σ38 H locs ls hf
            cases hf
          | succ n38 ih38 =>
            intro v4_38 σ38 H locs ls hf hP hD hS hl
            rw [fX10_light_38] at hf
            refine lv_iload hx hb dX10_light_38 (lv_at hl 4 rfl) ?_
            refine lv_iload_n hx hb dX10_light_40 rfl (lv_at hl 2 rfl) ?_
            refine lv_icmp_gt (tgt := 58) hx hb dX10_light_41 (by decide) (fun c41 => ?_) (fun c41 => ?_)
            · have hf := ifp c41 hf
              have hl := lv_sub (l' := [(0, .ref (ad 0)), (1, .int v1), (2, .int v2), (3, .int v3), (4, .int v4_38)]) hl [0, 1, 2, 3, 4] rfl
              unfold fX10_light_38_k at hf
              refine lv_iconst (v := (1 : Int32)) hx hb dX10_light_58 (by decide) ?_
              exact u_iretw hx hb hr hlocks rfl hP hD hS dX10_light_59 hf (fun _ => rfl)
            · have hf := ifn c41 hf
              refine lv_aload_n hx hb dX10_light_44 rfl (lv_at hl 0 rfl) ?_
              refine gM_m_light S hK hP q981 dX10_light_45 ?_
              refine lv_iload hx hb dX10_light_48 (lv_at hl 4 rfl) ?_
              refine lv_iload_n hx hb dX10_light_50 rfl (lv_at hl 3 rfl) ?_
              obtain ⟨h51, hf⟩ := if_in hf
              refine tM_20 S hK hP hD hS h51 dX10_light_51 (fun H locs hP hD hS => ?_)
              refine lv_iinc (v := (v4_38 + (1 : Int32))) (lv' := [(4, .int (v4_38 + (1 : Int32))), (0, .ref (ad 0)), (1, .int v1), (2, .int v2), (3, .int v3)]) hx hb dX10_light_52 hl (k := 4) rfl rfl (by decide) rfl (fun ls hl => ?_)
              refine lv_goto (tgt := 38) hx hb dX10_light_55 (by decide) ?_
              exact ih38 (v4_38 + (1 : Int32)) (sa σ38 20 v4_38.toNatClampNeg v3) H locs ls hf hP hD hS (lv_sub hl [1, 2, 3, 4, 0] rfl)
        exact L38 KF v1 σ H locs ls hf hP hD hS (lv_sub hl [1, 2, 3, 4, 0] rfl)
      · have hf := ifp c29 hf
        refine lv_bipush (v := (-2 : Int32)) hx hb dX10_light_32 (by decide) ?_
        exact u_iretw hx hb hr hlocks rfl hP hD hS dX10_light_34 hf (fun _ => rfl)
theorem iX10_frost : YI yX10_frost cX10_frost 3 (some .int) 2 := ⟨q1356, q12, by decide, by decide, by decide +kernel⟩
theorem vX10_frost : YV yX10_frost := ⟨q1354, q1355⟩
set_option maxRecDepth 100000 in
set_option maxHeartbeats 4000000 in
theorem c_X10_frost (l : Launch) (D : va_G) (cy : Nat → ClassId) (ad : Nat → Nat) (σ : St) (v1 : Int32) (v2 : Int32) (q : Int32 × St) (hf : fX10_frost σ v1 v2 = some q) : Ci l D cy (wM cy ad) yX10_frost cX10_frost 3 .int 2 45 [.ref (ad 0), .int v1, .int v2] σ q.1 q.2 0 0 := by
  refine Ci.enter (by decide) (Nat.le_of_ble_eq_true rfl) ?_
  intro aw ac p e s m below meth c A H locs S hr hlocks hA hK hP hD hS ls hl
  have hx := S.1
  have hb := S.2.1
  have hl : lv_has ls 3 [(0, .ref (ad 0)), (1, .int v1), (2, .int v2)] := hl
  unfold fX10_frost at hf
  refine lv_iload_n hx hb dX10_frost_0 rfl (lv_at hl 1 rfl) ?_
  obtain ⟨r1, h1, hf⟩ := ob_some hf
  refine p_calli0 (u_runS (rest := []) S (c_X10_isDay l D cy σ v1 r1 h1 aw ac H.size) iX10_isDay q1349 q1348 ⟨Nat.le_of_ble_eq_true rfl, Nat.le_of_ble_eq_true rfl⟩ hK wN_P (wN_D (A := fun _ => True)) rfl hl.1 (Nat.le_of_ble_eq_true rfl) dX10_frost_1 ⟨Nat.le_refl _, Nat.le_refl _⟩) hP hS hA (fun H locs hP hS => ?_)
  refine lv_if_ne (tgt := 10) hx hb dX10_frost_4 (by decide) (fun c4 => ?_) (fun c4 => ?_)
  · have hf := ifn c4 hf
    refine lv_aload_n hx hb dX10_frost_10 rfl (lv_at hl 0 rfl) ?_
    refine gM_m_isFrost S hK hP q982 dX10_frost_11 ?_
    refine lv_iload_n hx hb dX10_frost_14 rfl (lv_at hl 1 rfl) ?_
    obtain ⟨h15, hf⟩ := if_in hf
    refine lM_21 S hK hP h15 dX10_frost_15 ?_
    refine lv_iload_n hx hb dX10_frost_16 rfl (lv_at hl 2 rfl) ?_
    refine lv_icmp_ne (tgt := 23) hx hb dX10_frost_17 (by decide) (fun c17 => ?_) (fun c17 => ?_)
    · have hf := ifn c17 hf
      refine lv_aload_n hx hb dX10_frost_23 rfl (lv_at hl 0 rfl) ?_
      refine gM_m_isFrost S hK hP q982 dX10_frost_24 ?_
      refine lv_iload_n hx hb dX10_frost_27 rfl (lv_at hl 1 rfl) ?_
      refine lv_iload_n hx hb dX10_frost_28 rfl (lv_at hl 2 rfl) ?_
      obtain ⟨h29, hf⟩ := if_in hf
      refine tM_21 S hK hP hD hS h29 dX10_frost_29 (fun H locs hP hD hS => ?_)
      refine lv_iconst (v := (1 : Int32)) hx hb dX10_frost_30 (by decide) ?_
      exact u_iretw hx hb hr hlocks rfl hP hD hS dX10_frost_31 hf (fun _ => rfl)
    · have hf := ifp c17 hf
      refine lv_bipush (v := (-3 : Int32)) hx hb dX10_frost_20 (by decide) ?_
      exact u_iretw hx hb hr hlocks rfl hP hD hS dX10_frost_22 hf (fun _ => rfl)
  · have hf := ifp c4 hf
    refine lv_bipush (v := (-2 : Int32)) hx hb dX10_frost_7 (by decide) ?_
    exact u_iretw hx hb hr hlocks rfl hP hD hS dX10_frost_9 hf (fun _ => rfl)
theorem iX10_mortar : YI yX10_mortar cX10_mortar 3 (some .int) 1 := ⟨q1360, q12, by decide, by decide, by decide +kernel⟩
theorem vX10_mortar : YV yX10_mortar := ⟨q1358, q1359⟩
set_option maxRecDepth 100000 in
set_option maxHeartbeats 4000000 in
theorem c_X10_mortar (l : Launch) (D : va_G) (cy : Nat → ClassId) (ad : Nat → Nat) (σ : St) (v1 : Int32) (q : Int32 × St) (hf : fX10_mortar σ v1 = some q) : Ci l D cy (wM cy ad) yX10_mortar cX10_mortar 3 .int 1 25 [.ref (ad 0), .int v1] σ q.1 q.2 0 0 := by
  refine Ci.enter (by decide) (Nat.le_of_ble_eq_true rfl) ?_
  intro aw ac p e s m below meth c A H locs S hr hlocks hA hK hP hD hS ls hl
  have hx := S.1
  have hb := S.2.1
  have hl : lv_has ls 3 [(0, .ref (ad 0)), (1, .int v1)] := hl
  unfold fX10_mortar at hf
  refine lv_iload_n hx hb dX10_mortar_0 rfl (lv_at hl 1 rfl) ?_
  refine lv_i2l (v := (v1).toInt64) hx hb dX10_mortar_1 rfl ?_
  refine lv_lconst (v := (0 : Int64)) hx hb dX10_mortar_2 (by decide) ?_
  refine lv_ldc2 hx hb S.2.2.2.1 (S.2.2.2.2 _ (List.mem_cons_of_mem _ q1114)) dX10_mortar_3 ?_
  obtain ⟨r6, h6, hf⟩ := ob_some hf
  refine p_calli0 (u_runS (rest := []) S (c_X10_in l D cy σ ((v1).toInt64) (0 : Int64) (10 : Int64) r6 h6 aw ac H.size) iX10_in q1112 q1111 ⟨Nat.le_of_ble_eq_true rfl, Nat.le_of_ble_eq_true rfl⟩ hK wN_P (wN_D (A := fun _ => True)) rfl hl.1 (Nat.le_of_ble_eq_true rfl) dX10_mortar_6 ⟨Nat.le_refl _, Nat.le_refl _⟩) hP hS hA (fun H locs hP hS => ?_)
  refine lv_if_ne (tgt := 15) hx hb dX10_mortar_9 (by decide) (fun c9 => ?_) (fun c9 => ?_)
  · have hf := ifn c9 hf
    refine lv_aload_n hx hb dX10_mortar_15 rfl (lv_at hl 0 rfl) ?_
    refine gM_m_mortar S hK hP q983 dX10_mortar_16 ?_
    refine lv_istore_n (lv' := [(2, .int (gi σ 17)), (0, .ref (ad 0)), (1, .int v1)]) hx hb dX10_mortar_19 rfl hl (by decide) rfl (fun ls hl => ?_)
    refine lv_aload_n hx hb dX10_mortar_20 rfl (lv_at hl 1 rfl) ?_
    refine lv_iload_n hx hb dX10_mortar_21 rfl (lv_at hl 2 rfl) ?_
    refine pM_m_mortar S hK hP hD hS q983 dX10_mortar_22 (fun H locs hP hD hS => ?_)
    refine lv_iload_n hx hb dX10_mortar_25 rfl (lv_at hl 0 rfl) ?_
    exact u_iretw hx hb hr hlocks rfl hP hD hS dX10_mortar_26 hf (fun _ => rfl)
  · have hf := ifp c9 hf
    refine lv_bipush (v := (-2 : Int32)) hx hb dX10_mortar_12 (by decide) ?_
    exact u_iretw hx hb hr hlocks rfl hP hD hS dX10_mortar_14 hf (fun _ => rfl)
theorem iX10_findOrder : YI yX10_findOrder cX10_findOrder 3 none 0 := ⟨q1368, q12, by decide, by decide, by decide +kernel⟩
theorem vX10_findOrder : YV yX10_findOrder := ⟨q1367, qs47⟩
set_option maxRecDepth 100000 in
set_option maxHeartbeats 4000000 in
theorem c_X10_findOrder (l : Launch) (D : va_G) (cy : Nat → ClassId) (ad : Nat → Nat) (σ : St) (q : St) (hf : fX10_findOrder σ = some q) : Cv l D cy (wM cy ad) yX10_findOrder cX10_findOrder 3 4 97 [.ref (ad 0)] σ q 0 0 := by
  refine Cv.enter (by decide) (Nat.le_of_ble_eq_true rfl) ?_
  intro aw ac p e s m below meth c A H locs S hr hlocks hA hK hP hD hS ls hl
  have hx := S.1
  have hb := S.2.1
  have hl : lv_has ls 3 [(0, .ref (ad 0))] := hl
  unfold fX10_findOrder at hf
  refine lv_aload_n hx hb dX10_findOrder_0 rfl (lv_at hl 0 rfl) ?_
  obtain ⟨q1, h1, hf⟩ := ob_some hf
  refine u_callv0 (u_runV (rest := []) S (c_X10_findPlan l D cy ad σ q1 h1 aw ac H.size) iX10_findPlan vX10_findPlan q1323 ⟨Nat.le_of_ble_eq_true rfl, Nat.le_of_ble_eq_true rfl⟩ hK hP hD (q0 := 0) rfl rfl rfl hl.1 (Nat.le_of_ble_eq_true rfl) dX10_findOrder_1 ⟨Nat.le_refl _, Nat.le_refl _⟩) hD hS hA (fun H locs hP hD hS => ?_)
  refine lv_iconst (v := (0 : Int32)) hx hb dX10_findOrder_4 (by decide) ?_
  refine lv_istore_n (lv' := [(1, .int (0 : Int32)), (0, .ref (ad 0))]) hx hb dX10_findOrder_5 rfl hl (by decide) rfl (fun ls hl => ?_)
  refine lv_iconst (v := (0 : Int32)) hx hb dX10_findOrder_6 (by decide) ?_
  refine lv_istore_n (lv' := [(2, .int (0 : Int32)), (1, .int (0 : Int32)), (0, .ref (ad 0))]) hx hb dX10_findOrder_7 rfl hl (by decide) rfl (fun ls hl => ?_)
  have L8 : ∀ (n8 : Nat) (v1_8 : Int32) (v2_8 : Int32) (σ8 : St) (H : Heap) (locs : List Loc) (ls : Array Slot), fX10_findOrder_8 (fX10_findOrder_8_k) n8 σ8 v1_8 v2_8 = some q → va_P D vwCl (wM cy ad aw ac σ8) H → va_D A (wM cy ad aw ac σ8) → va_S A s.heap H locs → lv_has ls 3 [(0, .ref (ad 0)), (1, .int v1_8), (2, .int v2_8)] → W p l e (Rm 4 97 0 0) s m [.ref (ad 0)].toArray below meth c H locs 0 0 (Zv D (wM cy ad) A q aw ac below [.ref (ad 0)].toArray s 0 0) (F0 m 8 ls []) := by
    intro n8
    induction n8 with
    | zero =>
      intro v1_8 v2_8 σ8 H locs ls hf
      cases hf
    | succ n8 ih8 =>
      intro v1_8 v2_8 σ8 H locs ls hf hP hD hS hl
      rw [fX10_findOrder_8] at hf
      refine lv_iload_n hx hb dX10_findOrder_8 rfl (lv_at hl 2 rfl) ?_
      refine lv_aload_n hx hb dX10_findOrder_9 rfl (lv_at hl 0 rfl) ?_
      refine gM_m_actMany S hK hP q979 dX10_findOrder_10 ?_
      refine lv_icmp_ge (tgt := 55) hx hb dX10_findOrder_13 (by decide) (fun c13 => ?_) (fun c13 => ?_)
      · have hf := ifp c13 hf
        have hl := lv_sub (l' := [(0, .ref (ad 0)), (1, .int v1_8), (2, .int v2_8)]) hl [0, 1, 2] rfl
        unfold fX10_findOrder_8_k at hf
        refine lv_iconst (v := (0 : Int32)) hx hb dX10_findOrder_55 (by decide) ?_
        refine lv_istore_n (lv' := [(2, .int (0 : Int32)), (0, .ref (ad 0)), (1, .int v1_8)]) hx hb dX10_findOrder_56 rfl hl (by decide) rfl (fun ls hl => ?_)
        have L57 : ∀ (n57 : Nat) (v2_57 : Int32) (σ57 : St) (H : Heap) (locs : List Loc) (ls : Array Slot), fX10_findOrder_57 (fX10_findOrder_57_k v1_8) v1_8 n57 σ57 v2_57 = some q → va_P D vwCl (wM cy ad aw ac σ57) H → va_D A (wM cy ad aw ac σ57) → va_S A s.heap H locs → lv_has ls 3 [(0, .ref (ad 0)), (1, .int v1_8), (2, .int v2_57)] → W p l e (Rm 4 97 0 0) s m [.ref (ad 0)].toArray below meth c H locs 0 0 (Zv D (wM cy ad) A q aw ac below [.ref (ad 0)].toArray s 0 0) (F0 m 57 ls []) := by
          intro n57
          induction n57 with
          | zero =>
            intro v2_57 σ57 H locs ls hf
            cases hf
          | succ n57 ih57 =>
            intro v2_57 σ57 H locs ls hf hP hD hS hl
            rw [fX10_findOrder_57] at hf
            refine lv_iload_n hx hb dX10_findOrder_57 rfl (lv_at hl 2 rfl) ?_
            refine lv_aload_n hx hb dX10_findOrder_58 rfl (lv_at hl 0 rfl) ?_
            refine gM_m_stones S hK hP q961 dX10_findOrder_59 ?_
            refine lv_icmp_ge (tgt := 85) hx hb dX10_findOrder_62 (by decide) (fun c62 => ?_) (fun c62 => ?_)
            · have hf := ifp c62 hf
              have hl := lv_sub (l' := [(0, .ref (ad 0)), (1, .int v1_8), (2, .int v2_57)]) hl [0, 1, 2] rfl
              unfold fX10_findOrder_57_k at hf
              exact u_vretw hx hb hr hlocks hP hD hS dX10_findOrder_85 hf (fun _ => rfl)
            · have hf := ifn c62 hf
              refine lv_aload_n hx hb dX10_findOrder_65 rfl (lv_at hl 0 rfl) ?_
              refine gM_m_planPrice S hK hP q980 dX10_findOrder_66 ?_
              refine lv_if_ge (tgt := 85) hx hb dX10_findOrder_69 (by decide) (fun c69 => ?_) (fun c69 => ?_)
              · have hf := ifp c69 hf
                have hl := lv_sub (l' := [(0, .ref (ad 0)), (1, .int v1_8), (2, .int v2_57)]) hl [0, 1, 2] rfl
                unfold fX10_findOrder_57_k at hf
                exact u_vretw hx hb hr hlocks hP hD hS dX10_findOrder_85 hf (fun _ => rfl)
              · have hf := ifn c69 hf
                refine lv_aload_n hx hb dX10_findOrder_72 rfl (lv_at hl 0 rfl) ?_
                refine gM_m_order S hK hP q984 dX10_findOrder_73 ?_
                refine lv_iload_n hx hb dX10_findOrder_76 rfl (lv_at hl 2 rfl) ?_
                refine lv_iload_n hx hb dX10_findOrder_77 rfl (lv_at hl 2 rfl) ?_
                obtain ⟨h78, hf⟩ := if_in hf
                refine tM_22 S hK hP hD hS h78 dX10_findOrder_78 (fun H locs hP hD hS => ?_)
                refine lv_iinc (v := (v2_57 + (1 : Int32))) (lv' := [(2, .int (v2_57 + (1 : Int32))), (0, .ref (ad 0)), (1, .int v1_8)]) hx hb dX10_findOrder_79 hl (k := 2) rfl rfl (by decide) rfl (fun ls hl => ?_)
                refine lv_goto (tgt := 57) hx hb dX10_findOrder_82 (by decide) ?_
                exact ih57 (v2_57 + (1 : Int32)) (sa σ57 22 v2_57.toNatClampNeg v2_57) H locs ls hf hP hD hS (lv_sub hl [1, 2, 0] rfl)
        exact L57 KF (0 : Int32) σ8 H locs ls hf hP hD hS (lv_sub hl [1, 2, 0] rfl)
      · have hf := ifn c13 hf
        refine lv_aload_n hx hb dX10_findOrder_16 rfl (lv_at hl 0 rfl) ?_
        refine gM_m_planPrice S hK hP q980 dX10_findOrder_17 ?_
        refine lv_if_lt (tgt := 55) hx hb dX10_findOrder_20 (by decide) (fun c20 => ?_) (fun c20 => ?_)
        · have hf := ifp c20 hf
          have hl := lv_sub (l' := [(0, .ref (ad 0)), (1, .int v1_8), (2, .int v2_8)]) hl [0, 1, 2] rfl
          unfold fX10_findOrder_8_k at hf
          refine lv_iconst (v := (0 : Int32)) hx hb dX10_findOrder_55 (by decide) ?_
          refine lv_istore_n (lv' := [(2, .int (0 : Int32)), (0, .ref (ad 0)), (1, .int v1_8)]) hx hb dX10_findOrder_56 rfl hl (by decide) rfl (fun ls hl => ?_)
          have L57 : ∀ (n57 : Nat) (v2_57 : Int32) (σ57 : St) (H : Heap) (locs : List Loc) (ls : Array Slot), fX10_findOrder_57 (fX10_findOrder_57_k v1_8) v1_8 n57 σ57 v2_57 = some q → va_P D vwCl (wM cy ad aw ac σ57) H → va_D A (wM cy ad aw ac σ57) → va_S A s.heap H locs → lv_has ls 3 [(0, .ref (ad 0)), (1, .int v1_8), (2, .int v2_57)] → W p l e (Rm 4 97 0 0) s m [.ref (ad 0)].toArray below meth c H locs 0 0 (Zv D (wM cy ad) A q aw ac below [.ref (ad 0)].toArray s 0 0) (F0 m 57 ls []) := by
            intro n57
            induction n57 with
            | zero =>
              intro v2_57 σ57 H locs ls hf
              cases hf
            | succ n57 ih57 =>
              intro v2_57 σ57 H locs ls hf hP hD hS hl
              rw [fX10_findOrder_57] at hf
              refine lv_iload_n hx hb dX10_findOrder_57 rfl (lv_at hl 2 rfl) ?_
              refine lv_aload_n hx hb dX10_findOrder_58 rfl (lv_at hl 0 rfl) ?_
              refine gM_m_stones S hK hP q961 dX10_findOrder_59 ?_
              refine lv_icmp_ge (tgt := 85) hx hb dX10_findOrder_62 (by decide) (fun c62 => ?_) (fun c62 => ?_)
              · have hf := ifp c62 hf
                have hl := lv_sub (l' := [(0, .ref (ad 0)), (1, .int v1_8), (2, .int v2_57)]) hl [0, 1, 2] rfl
                unfold fX10_findOrder_57_k at hf
                exact u_vretw hx hb hr hlocks hP hD hS dX10_findOrder_85 hf (fun _ => rfl)
              · have hf := ifn c62 hf
                refine lv_aload_n hx hb dX10_findOrder_65 rfl (lv_at hl 0 rfl) ?_
                refine gM_m_planPrice S hK hP q980 dX10_findOrder_66 ?_
                refine lv_if_ge (tgt := 85) hx hb dX10_findOrder_69 (by decide) (fun c69 => ?_) (fun c69 => ?_)
                · have hf := ifp c69 hf
                  have hl := lv_sub (l' := [(0, .ref (ad 0)), (1, .int v1_8), (2, .int v2_57)]) hl [0, 1, 2] rfl
                  unfold fX10_findOrder_57_k at hf
                  exact u_vretw hx hb hr hlocks hP hD hS dX10_findOrder_85 hf (fun _ => rfl)
                · have hf := ifn c69 hf
                  refine lv_aload_n hx hb dX10_findOrder_72 rfl (lv_at hl 0 rfl) ?_
                  refine gM_m_order S hK hP q984 dX10_findOrder_73 ?_
                  refine lv_iload_n hx hb dX10_findOrder_76 rfl (lv_at hl 2 rfl) ?_
                  refine lv_iload_n hx hb dX10_findOrder_77 rfl (lv_at hl 2 rfl) ?_
                  obtain ⟨h78, hf⟩ := if_in hf
                  refine tM_22 S hK hP hD hS h78 dX10_findOrder_78 (fun H locs hP hD hS => ?_)
                  refine lv_iinc (v := (v2_57 + (1 : Int32))) (lv' := [(2, .int (v2_57 + (1 : Int32))), (0, .ref (ad 0)), (1, .int v1_8)]) hx hb dX10_findOrder_79 hl (k := 2) rfl rfl (by decide) rfl (fun ls hl => ?_)
                  refine lv_goto (tgt := 57) hx hb dX10_findOrder_82 (by decide) ?_
                  exact ih57 (v2_57 + (1 : Int32)) (sa σ57 22 v2_57.toNatClampNeg v2_57) H locs ls hf hP hD hS (lv_sub hl [1, 2, 0] rfl)
          exact L57 KF (0 : Int32) σ8 H locs ls hf hP hD hS (lv_sub hl [1, 2, 0] rfl)
        · have hf := ifn c20 hf
          refine lv_aload_n hx hb dX10_findOrder_23 rfl (lv_at hl 0 rfl) ?_
          refine gM_m_acts S hK hP q978 dX10_findOrder_24 ?_
          refine lv_iload_n hx hb dX10_findOrder_27 rfl (lv_at hl 2 rfl) ?_
          obtain ⟨h28, hf⟩ := if_in hf
          refine lM_19 S hK hP h28 dX10_findOrder_28 ?_
          refine lv_bipush (v := (100 : Int32)) hx hb dX10_findOrder_29 (by decide) ?_
          refine lv_icmp_ge (tgt := 49) hx hb dX10_findOrder_31 (by decide) (fun c31 => ?_) (fun c31 => ?_)
          · have hf := ifp c31 hf
            refine lv_iinc (v := (v2_8 + (1 : Int32))) (lv' := [(2, .int (v2_8 + (1 : Int32))), (0, .ref (ad 0)), (1, .int v1_8)]) hx hb dX10_findOrder_49 hl (k := 2) rfl rfl (by decide) rfl (fun ls hl => ?_)
            refine lv_goto (tgt := 8) hx hb dX10_findOrder_52 (by decide) ?_
            exact ih8 v1_8 (v2_8 + (1 : Int32)) σ8 H locs ls hf hP hD hS (lv_sub hl [1, 2, 0] rfl)
          · have hf := ifn c31 hf
            refine lv_aload_n hx hb dX10_findOrder_34 rfl (lv_at hl 0 rfl) ?_
            refine gM_m_order S hK hP q984 dX10_findOrder_35 ?_
            refine lv_iload_n hx hb dX10_findOrder_38 rfl (lv_at hl 1 rfl) ?_
            refine lv_aload_n hx hb dX10_findOrder_39 rfl (lv_at hl 0 rfl) ?_
            refine gM_m_acts S hK hP q978 dX10_findOrder_40 ?_
            refine lv_iload_n hx hb dX10_findOrder_43 rfl (lv_at hl 2 rfl) ?_
            obtain ⟨h44, hf⟩ := if_in hf
            refine lM_19 S hK hP h44 dX10_findOrder_44 ?_
            obtain ⟨h45, hf⟩ := if_in hf
            refine tM_22 S hK hP hD hS h45 dX10_findOrder_45 (fun H locs hP hD hS => ?_)
            refine lv_iinc (v := (v1_8 + (1 : Int32))) (lv' := [(1, .int (v1_8 + (1 : Int32))), (0, .ref (ad 0)), (2, .int v2_8)]) hx hb dX10_findOrder_46 hl (k := 1) rfl rfl (by decide) rfl (fun ls hl => ?_)
            refine lv_iinc (v := (v2_8 + (1 : Int32))) (lv' := [(2, .int (v2_8 + (1 : Int32))), (1, .int (v1_8 + (1 : Int32))), (0, .ref (ad 0))]) hx hb dX10_findOrder_49 hl (k := 2) rfl rfl (by decide) rfl (fun ls hl => ?_)
            refine lv_goto (tgt := 8) hx hb dX10_findOrder_52 (by decide) ?_
            exact ih8 (v1_8 + (1 : Int32)) (v2_8 + (1 : Int32)) (sa σ8 22 v1_8.toNatClampNeg (ga σ8 19 v2_8.toNatClampNeg)) H locs ls hf hP hD hS (lv_sub hl [2, 1, 0] rfl)
  exact L8 KF (0 : Int32) (0 : Int32) q1 H locs ls hf hP hD hS (lv_sub hl [2, 1, 0] rfl)
theorem iX10_isDry : YI yX10_isDry cX10_isDry 5 (some .boolean) 2 := ⟨q1380, q12, by decide, by decide, by decide +kernel⟩
theorem vX10_isDry : YV yX10_isDry := ⟨q1379, qs50⟩
set_option maxRecDepth 100000 in
set_option maxHeartbeats 4000000 in
theorem c_X10_isDry (l : Launch) (D : va_G) (cy : Nat → ClassId) (ad : Nat → Nat) (σ : St) (v1 : Int32) (v2 : Int32) (r : Int32) (hf : fX10_isDry σ v1 v2 = some r) : Ci l D cy (wM cy ad) yX10_isDry cX10_isDry 5 .boolean 1 20 [.ref (ad 0), .int v1, .int v2] σ r σ 0 0 := by
  refine Ci.enter (by decide) (Nat.le_of_ble_eq_true rfl) ?_
  intro aw ac p e s m below meth c A H locs S hr hlocks hA hK hP hD hS ls hl
  have hx := S.1
  have hb := S.2.1
  have hl : lv_has ls 5 [(0, .ref (ad 0)), (1, .int v1), (2, .int v2)] := hl
  unfold fX10_isDry at hf
  refine lv_iconst (v := (0 : Int32)) hx hb dX10_isDry_0 (by decide) ?_
  refine lv_istore_n (lv' := [(3, .int (0 : Int32)), (0, .ref (ad 0)), (1, .int v1), (2, .int v2)]) hx hb dX10_isDry_1 rfl hl (by decide) rfl (fun ls hl => ?_)
  refine lv_iload_n hx hb dX10_isDry_2 rfl (lv_at hl 2 rfl) ?_
  refine lv_iconst (v := (1 : Int32)) hx hb dX10_isDry_3 (by decide) ?_
  refine lv_iadd hx hb dX10_isDry_4 ?_
  refine lv_istore (lv' := [(4, .int (v1 + (1 : Int32))), (3, .int (0 : Int32)), (0, .ref (ad 0)), (1, .int v1), (2, .int v2)]) hx hb dX10_isDry_5 hl (by decide) rfl (fun ls hl => ?_)
  have L7 : ∀ (n7 : Nat) (v3_7 : Int32) (v4_7 : Int32) (H : Heap) (locs : List Loc) (ls : Array Slot), fX10_isDry_7 (fX10_isDry_7_k σ v1 v2) σ v1 v2 n7 v3_7 v4_7 = some r → va_P D vwCl (wM cy ad aw ac σ) H → va_D A (wM cy ad aw ac σ) → va_S A s.heap H locs → lv_has ls 5 [(0, .ref (ad 0)), (1, .int v1), (2, .int v2), (3, .int v3_7), (4, .int v4_7)] → W p l e (Rm 1 20 0 0) s m [.ref (ad 0), .int v1, .int v2].toArray below meth c H locs 0 0 (Zi D (wM cy ad) A r σ aw ac below [.ref (ad 0), .int v1, .int v2].toArray s 0 0) (F0 m 7 ls []) := by
    intro n7
    induction n7 with
    | zero =>
      intro v3_7 v4_7 H locs ls hf
      cases hf
    | succ n7 ih7 =>
      intro v3_7 v4_7 H locs ls hf hP hD hS hl
      rw [fX10_isDry_7] at hf
      refine lv_iload hx hb dX10_isDry_7 (lv_at hl 4 rfl) ?_
      refine lv_iload_n hx hb dX10_isDry_9 rfl (lv_at hl 2 rfl) ?_
      refine lv_icmp_ge (tgt := 40) hx hb dX10_isDry_10 (by decide) (fun c10 => ?_) (fun c10 => ?_)
      · have hf := ifp c10 hf
        have hl := lv_sub (l' := [(0, .ref (ad 0)), (1, .int v1), (2, .int v2), (3, .int v3_7), (4, .int v4_7)]) hl [0, 1, 2, 3, 4] rfl
        unfold fX10_isDry_7_k at hf
        refine lv_iload_n hx hb dX10_isDry_40 rfl (lv_at hl 3 rfl) ?_
        refine lv_aload_n hx hb dX10_isDry_41 rfl (lv_at hl 0 rfl) ?_
        refine gM_m_mortar S hK hP q983 dX10_isDry_42 ?_
        refine lv_icmp_lt (tgt := 52) hx hb dX10_isDry_45 (by decide) (fun c45 => ?_) (fun c45 => ?_)
        · have hf := ifp c45 hf
          refine lv_iconst (v := (0 : Int32)) hx hb dX10_isDry_52 (by decide) ?_
          exact u_iretr hx hb hr hlocks rfl hP hD hS dX10_isDry_53 hf (fun _ => rfl)
        · have hf := ifn c45 hf
          refine lv_iconst (v := (1 : Int32)) hx hb dX10_isDry_48 (by decide) ?_
          refine lv_goto (tgt := 53) hx hb dX10_isDry_49 (by decide) ?_
          exact u_iretr hx hb hr hlocks rfl hP hD hS dX10_isDry_53 hf (fun _ => rfl)
      · have hf := ifn c10 hf
        refine lv_iload_n hx hb dX10_isDry_13 rfl (lv_at hl 3 rfl) ?_
        refine lv_aload_n hx hb dX10_isDry_14 rfl (lv_at hl 0 rfl) ?_
        refine gM_m_isFrost S hK hP q982 dX10_isDry_15 ?_
        refine lv_iload hx hb dX10_isDry_18 (lv_at hl 4 rfl) ?_
        obtain ⟨h20, hf⟩ := if_in hf
        refine lM_21 S hK hP h20 dX10_isDry_20 ?_
        refine lv_if_ne (tgt := 28) hx hb dX10_isDry_21 (by decide) (fun c21 => ?_) (fun c21 => ?_)
        · have hf := ifn c21 hf
          refine lv_iconst (v := (0 : Int32)) hx hb dX10_isDry_28 (by decide) ?_
          obtain ⟨r29, h29, hf⟩ := ob_some hf
          refine p_calli0 (u_runS (rest := [.int v3_7]) S (c_X10_bit l D cy σ (0 : Int32) r29 h29 aw ac H.size) iX10_bit q1237 q1236 ⟨Nat.le_of_ble_eq_true rfl, Nat.le_of_ble_eq_true rfl⟩ hK wN_P (wN_D (A := fun _ => True)) rfl hl.1 (Nat.le_of_ble_eq_true rfl) dX10_isDry_29 ⟨Nat.le_refl _, Nat.le_refl _⟩) hP hS hA (fun H locs hP hS => ?_)
          refine lv_iadd hx hb dX10_isDry_32 ?_
          refine lv_istore_n (lv' := [(3, .int (v3_7 + r29)), (0, .ref (ad 0)), (1, .int v1), (2, .int v2), (4, .int v4_7)]) hx hb dX10_isDry_33 rfl hl (by decide) rfl (fun ls hl => ?_)
          refine lv_iinc (v := (v4_7 + (1 : Int32))) (lv' := [(4, .int (v4_7 + (1 : Int32))), (3, .int (v3_7 + r29)), (0, .ref (ad 0)), (1, .int v1), (2, .int v2)]) hx hb dX10_isDry_34 hl (k := 4) rfl rfl (by decide) rfl (fun ls hl => ?_)
          refine lv_goto (tgt := 7) hx hb dX10_isDry_37 (by decide) ?_
          exact ih7 (v3_7 + r29) (v4_7 + (1 : Int32)) H locs ls hf hP hD hS (lv_sub hl [2, 3, 4, 1, 0] rfl)
        · have hf := ifp c21 hf
          refine lv_iconst (v := (1 : Int32)) hx hb dX10_isDry_24 (by decide) ?_
          refine lv_goto (tgt := 29) hx hb dX10_isDry_25 (by decide) ?_
          obtain ⟨r29, h29, hf⟩ := ob_some hf
          refine p_calli0 (u_runS (rest := [.int v3_7]) S (c_X10_bit l D cy σ (1 : Int32) r29 h29 aw ac H.size) iX10_bit q1237 q1236 ⟨Nat.le_of_ble_eq_true rfl, Nat.le_of_ble_eq_true rfl⟩ hK wN_P (wN_D (A := fun _ => True)) rfl hl.1 (Nat.le_of_ble_eq_true rfl) dX10_isDry_29 ⟨Nat.le_refl _, Nat.le_refl _⟩) hP hS hA (fun H locs hP hS => ?_)
          refine lv_iadd hx hb dX10_isDry_32 ?_
          refine lv_istore_n (lv' := [(3, .int (v3_7 + r29)), (0, .ref (ad 0)), (1, .int v1), (2, .int v2), (4, .int v4_7)]) hx hb dX10_isDry_33 rfl hl (by decide) rfl (fun ls hl => ?_)
          refine lv_iinc (v := (v4_7 + (1 : Int32))) (lv' := [(4, .int (v4_7 + (1 : Int32))), (3, .int (v3_7 + r29)), (0, .ref (ad 0)), (1, .int v1), (2, .int v2)]) hx hb dX10_isDry_34 hl (k := 4) rfl rfl (by decide) rfl (fun ls hl => ?_)
          refine lv_goto (tgt := 7) hx hb dX10_isDry_37 (by decide) ?_
          exact ih7 (v3_7 + r29) (v4_7 + (1 : Int32)) H locs ls hf hP hD hS (lv_sub hl [2, 3, 4, 1, 0] rfl)
  exact L7 KF (0 : Int32) (v1 + (1 : Int32)) H locs ls hf hP hD hS (lv_sub hl [2, 3, 4, 1, 0] rfl)
theorem iX10_mayOn : YI yX10_mayOn cX10_mayOn 5 (some .boolean) 2 := ⟨q1376, q12, by decide, by decide, by decide +kernel⟩
theorem vX10_mayOn : YV yX10_mayOn := ⟨q1375, qs49⟩
set_option maxRecDepth 100000 in
set_option maxHeartbeats 4000000 in
theorem c_X10_mayOn (l : Launch) (D : va_G) (cy : Nat → ClassId) (ad : Nat → Nat) (σ : St) (v1 : Int32) (v2 : Int32) (r : Int32) (hf : fX10_mayOn σ v1 v2 = some r) : Ci l D cy (wM cy ad) yX10_mayOn cX10_mayOn 5 .boolean 2 44 [.ref (ad 0), .int v1, .int v2] σ r σ 0 0 := by
  refine Ci.enter (by decide) (Nat.le_of_ble_eq_true rfl) ?_
  intro aw ac p e s m below meth c A H locs S hr hlocks hA hK hP hD hS ls hl
  have hx := S.1
  have hb := S.2.1
  have hl : lv_has ls 5 [(0, .ref (ad 0)), (1, .int v1), (2, .int v2)] := hl
  unfold fX10_mayOn at hf
  have J29 : ∀ (v1_j29 : Int32) (v2_j29 : Int32) (s0_j29 : Int32) (H : Heap) (locs : List Loc) (ls : Array Slot), fX10_mayOn_J29 σ v1_j29 v2_j29 s0_j29 = some r → va_P D vwCl (wM cy ad aw ac σ) H → va_D A (wM cy ad aw ac σ) → va_S A s.heap H locs → lv_has ls 5 [(0, .ref (ad 0)), (1, .int v1_j29), (2, .int v2_j29)] → W p l e (Rm 2 44 0 0) s m [.ref (ad 0), .int v1, .int v2].toArray below meth c H locs 0 0 (Zi D (wM cy ad) A r σ aw ac below [.ref (ad 0), .int v1, .int v2].toArray s 0 0) (F0 m 29 ls [.int s0_j29]) := by
    intro v1_j29 v2_j29 s0_j29 H locs ls hf hP hD hS hl
    unfold fX10_mayOn_J29 at hf
    refine lv_istore_n (lv' := [(3, .int s0_j29), (0, .ref (ad 0)), (1, .int v1_j29), (2, .int v2_j29)]) hx hb dX10_mayOn_29 rfl hl (by decide) rfl (fun ls hl => ?_)
    refine lv_iconst (v := (0 : Int32)) hx hb dX10_mayOn_30 (by decide) ?_
    refine lv_istore (lv' := [(4, .int (0 : Int32)), (3, .int s0_j29), (0, .ref (ad 0)), (1, .int v1_j29), (2, .int v2_j29)]) hx hb dX10_mayOn_31 hl (by decide) rfl (fun ls hl => ?_)
    have L33 : ∀ (n33 : Nat) (v3_33 : Int32) (v4_33 : Int32) (H : Heap) (locs : List Loc) (ls : Array Slot), fX10_mayOn_33 (fX10_mayOn_33_k σ v1_j29 v2_j29) σ v1_j29 v2_j29 n33 v3_33 v4_33 = some r → va_P D vwCl (wM cy ad aw ac σ) H → va_D A (wM cy ad aw ac σ) → va_S A s.heap H locs → lv_has ls 5 [(0, .ref (ad 0)), (1, .int v1_j29), (2, .int v2_j29), (3, .int v3_33), (4, .int v4_33)] → W p l e (Rm 2 44 0 0) s m [.ref (ad 0), .int v1, .int v2].toArray below meth c H locs 0 0 (Zi D (wM cy ad) A r σ aw ac below [.ref (ad 0), .int v1, .int v2].toArray s 0 0) (F0 m 33 ls []) := by
      intro n33
      induction n33 with
      | zero =>
        intro v3_33 v4_33 H locs ls hf
        cases hf
      | succ n33 ih33 =>
        intro v3_33 v4_33 H locs ls hf hP hD hS hl
        rw [fX10_mayOn_33] at hf
        refine lv_iload hx hb dX10_mayOn_33 (lv_at hl 4 rfl) ?_
        refine lv_aload_n hx hb dX10_mayOn_35 rfl (lv_at hl 0 rfl) ?_
        refine gM_m_stones S hK hP q961 dX10_mayOn_36 ?_
        refine lv_icmp_ge (tgt := 87) hx hb dX10_mayOn_39 (by decide) (fun c39 => ?_) (fun c39 => ?_)
        · have hf := ifp c39 hf
          have hl := lv_sub (l' := [(0, .ref (ad 0)), (1, .int v1_j29), (2, .int v2_j29), (3, .int v3_33), (4, .int v4_33)]) hl [0, 1, 2, 3, 4] rfl
          unfold fX10_mayOn_33_k at hf
          refine lv_iload_n hx hb dX10_mayOn_87 rfl (lv_at hl 3 rfl) ?_
          obtain ⟨n88, hf⟩ := ifs hf
          exact u_iretr hx hb hr hlocks n88 hP hD hS dX10_mayOn_88 hf (fun _ => rfl)
        · have hf := ifn c39 hf
          refine lv_iload_n hx hb dX10_mayOn_42 rfl (lv_at hl 3 rfl) ?_
          refine lv_if_eq (tgt := 87) hx hb dX10_mayOn_43 (by decide) (fun c43 => ?_) (fun c43 => ?_)
          · have hf := ifp c43 hf
            have hl := lv_sub (l' := [(0, .ref (ad 0)), (1, .int v1_j29), (2, .int v2_j29), (3, .int v3_33), (4, .int v4_33)]) hl [0, 1, 2, 3, 4] rfl
            unfold fX10_mayOn_33_k at hf
            refine lv_iload_n hx hb dX10_mayOn_87 rfl (lv_at hl 3 rfl) ?_
            obtain ⟨n88, hf⟩ := ifs hf
            exact u_iretr hx hb hr hlocks n88 hP hD hS dX10_mayOn_88 hf (fun _ => rfl)
          · have hf := ifn c43 hf
            have J80 : ∀ (v3_j80 : Int32) (v4_j80 : Int32) (s0_j80 : Int32) (H : Heap) (locs : List Loc) (ls : Array Slot), fX10_mayOn_J80 (fun v3_33' v4_33' => fX10_mayOn_33 (fX10_mayOn_33_k σ v1_j29 v2_j29) σ v1_j29 v2_j29 n33 v3_33' v4_33') σ v1_j29 v2_j29 v3_j80 v4_j80 s0_j80 = some r → va_P D vwCl (wM cy ad aw ac σ) H → va_D A (wM cy ad aw ac σ) → va_S A s.heap H locs → lv_has ls 5 [(0, .ref (ad 0)), (1, .int v1_j29), (2, .int v2_j29), (3, .int v3_j80), (4, .int v4_j80)] → W p l e (Rm 2 44 0 0) s m [.ref (ad 0), .int v1, .int v2].toArray below meth c H locs 0 0 (Zi D (wM cy ad) A r σ aw ac below [.ref (ad 0), .int v1, .int v2].toArray s 0 0) (F0 m 80 ls [.int s0_j80]) := by
              intro v3_j80 v4_j80 s0_j80 H locs ls hf hP hD hS hl
              unfold fX10_mayOn_J80 at hf
              refine lv_istore_n (lv' := [(3, .int s0_j80), (0, .ref (ad 0)), (1, .int v1_j29), (2, .int v2_j29), (4, .int v4_j80)]) hx hb dX10_mayOn_80 rfl hl (by decide) rfl (fun ls hl => ?_)
              refine lv_iinc (v := (v4_j80 + (1 : Int32))) (lv' := [(4, .int (v4_j80 + (1 : Int32))), (3, .int s0_j80), (0, .ref (ad 0)), (1, .int v1_j29), (2, .int v2_j29)]) hx hb dX10_mayOn_81 hl (k := 4) rfl rfl (by decide) rfl (fun ls hl => ?_)
              refine lv_goto (tgt := 33) hx hb dX10_mayOn_84 (by decide) ?_
              exact ih33 s0_j80 (v4_j80 + (1 : Int32)) H locs ls hf hP hD hS (lv_sub hl [2, 3, 4, 1, 0] rfl)
            refine lv_aload_n hx hb dX10_mayOn_46 rfl (lv_at hl 0 rfl) ?_
            refine gM_m_rests S hK hP q965 dX10_mayOn_47 ?_
            refine lv_iload_n hx hb dX10_mayOn_50 rfl (lv_at hl 1 rfl) ?_
            obtain ⟨h51, hf⟩ := if_in hf
            refine lM_11 S hK hP h51 dX10_mayOn_51 ?_
            refine lv_iload hx hb dX10_mayOn_52 (lv_at hl 4 rfl) ?_
            refine lv_ishr hx hb dX10_mayOn_54 ?_
            refine lv_iconst (v := (1 : Int32)) hx hb dX10_mayOn_55 (by decide) ?_
            refine lv_iand hx hb dX10_mayOn_56 ?_
            refine lv_if_eq (tgt := 75) hx hb dX10_mayOn_57 (by decide) (fun c57 => ?_) (fun c57 => ?_)
            · have hf := ifp c57 hf
              refine lv_iconst (v := (1 : Int32)) hx hb dX10_mayOn_75 (by decide) ?_
              refine lv_goto (tgt := 80) hx hb dX10_mayOn_76 (by decide) ?_
              exact J80 v3_33 v4_33 (1 : Int32) H locs ls hf hP hD hS (lv_sub hl [0, 1, 2, 3, 4] rfl)
            · have hf := ifn c57 hf
              refine lv_aload_n hx hb dX10_mayOn_60 rfl (lv_at hl 0 rfl) ?_
              refine lv_aload_n hx hb dX10_mayOn_61 rfl (lv_at hl 0 rfl) ?_
              refine gM_m_laidOn S hK hP q985 dX10_mayOn_62 ?_
              refine lv_iload hx hb dX10_mayOn_65 (lv_at hl 4 rfl) ?_
              obtain ⟨h67, hf⟩ := if_in hf
              refine lM_23 S hK hP h67 dX10_mayOn_67 ?_
              refine lv_iload_n hx hb dX10_mayOn_68 rfl (lv_at hl 2 rfl) ?_
              obtain ⟨r69, h69, hf⟩ := ob_some hf
              refine u_calli0 (u_runV (rest := []) S (c_X10_isDry l D cy ad σ (ga σ 23 v4_33.toNatClampNeg) v2_j29 r69 h69 aw ac H.size) iX10_isDry vX10_isDry q1377 ⟨Nat.le_of_ble_eq_true rfl, Nat.le_of_ble_eq_true rfl⟩ hK hP hD (q0 := 0) rfl rfl rfl hl.1 (Nat.le_of_ble_eq_true rfl) dX10_mayOn_69 ⟨Nat.le_refl _, Nat.le_refl _⟩) hD hS hA (fun H locs hP hD hS => ?_)
              refine lv_if_eq (tgt := 79) hx hb dX10_mayOn_72 (by decide) (fun c72 => ?_) (fun c72 => ?_)
              · have hf := ifp c72 hf
                refine lv_iconst (v := (0 : Int32)) hx hb dX10_mayOn_79 (by decide) ?_
                exact J80 v3_33 v4_33 (0 : Int32) H locs ls hf hP hD hS (lv_sub hl [0, 1, 2, 3, 4] rfl)
              · have hf := ifn c72 hf
                refine lv_iconst (v := (1 : Int32)) hx hb dX10_mayOn_75 (by decide) ?_
                refine lv_goto (tgt := 80) hx hb dX10_mayOn_76 (by decide) ?_
                exact J80 v3_33 v4_33 (1 : Int32) H locs ls hf hP hD hS (lv_sub hl [0, 1, 2, 3, 4] rfl)
    exact L33 KF s0_j29 (0 : Int32) H locs ls hf hP hD hS (lv_sub hl [2, 3, 4, 1, 0] rfl)
  refine lv_aload_n hx hb dX10_mayOn_0 rfl (lv_at hl 0 rfl) ?_
  refine gM_m_isFrost S hK hP q982 dX10_mayOn_1 ?_
  refine lv_iload_n hx hb dX10_mayOn_4 rfl (lv_at hl 2 rfl) ?_
  obtain ⟨h5, hf⟩ := if_in hf
  refine lM_21 S hK hP h5 dX10_mayOn_5 ?_
  refine lv_if_ne (tgt := 28) hx hb dX10_mayOn_6 (by decide) (fun c6 => ?_) (fun c6 => ?_)
  · have hf := ifn c6 hf
    refine lv_iconst (v := (0 : Int32)) hx hb dX10_mayOn_28 (by decide) ?_
    exact J29 v1 v2 (0 : Int32) H locs ls hf hP hD hS (lv_sub hl [0, 1, 2] rfl)
  · have hf := ifp c6 hf
    refine lv_aload_n hx hb dX10_mayOn_9 rfl (lv_at hl 0 rfl) ?_
    refine gM_m_hoursLeft S hK hP q986 dX10_mayOn_10 ?_
    refine lv_iload_n hx hb dX10_mayOn_13 rfl (lv_at hl 2 rfl) ?_
    obtain ⟨h14, hf⟩ := if_in hf
    refine lM_24 S hK hP h14 dX10_mayOn_14 ?_
    refine lv_aload_n hx hb dX10_mayOn_15 rfl (lv_at hl 0 rfl) ?_
    refine gM_m_hours S hK hP q964 dX10_mayOn_16 ?_
    refine lv_iload_n hx hb dX10_mayOn_19 rfl (lv_at hl 1 rfl) ?_
    obtain ⟨h20, hf⟩ := if_in hf
    refine lM_10 S hK hP h20 dX10_mayOn_20 ?_
    refine lv_icmp_lt (tgt := 28) hx hb dX10_mayOn_21 (by decide) (fun c21 => ?_) (fun c21 => ?_)
    · have hf := ifp c21 hf
      refine lv_iconst (v := (0 : Int32)) hx hb dX10_mayOn_28 (by decide) ?_
      exact J29 v1 v2 (0 : Int32) H locs ls hf hP hD hS (lv_sub hl [0, 1, 2] rfl)
    · have hf := ifn c21 hf
      refine lv_iconst (v := (1 : Int32)) hx hb dX10_mayOn_24 (by decide) ?_
      refine lv_goto (tgt := 29) hx hb dX10_mayOn_25 (by decide) ?_
      exact J29 v1 v2 (1 : Int32) H locs ls hf hP hD hS (lv_sub hl [0, 1, 2] rfl)
theorem iX10_layAll : YI yX10_layAll cX10_layAll 4 (some .int) 0 := ⟨q1372, q12, by decide, by decide, by decide +kernel⟩
theorem vX10_layAll : YV yX10_layAll := ⟨q1371, qs48⟩
set_option maxRecDepth 100000 in
set_option maxHeartbeats 4000000 in
theorem c_X10_layAll (l : Launch) (D : va_G) (cy : Nat → ClassId) (ad : Nat → Nat) (σ : St) (q : Int32 × St) (hf : fX10_layAll σ = some q) : Ci l D cy (wM cy ad) yX10_layAll cX10_layAll 4 .int 3 68 [.ref (ad 0)] σ q.1 q.2 0 0 := by
  refine Ci.enter (by decide) (Nat.le_of_ble_eq_true rfl) ?_
  intro aw ac p e s m below meth c A H locs S hr hlocks hA hK hP hD hS ls hl
  have hx := S.1
  have hb := S.2.1
  have hl : lv_has ls 4 [(0, .ref (ad 0))] := hl
  unfold fX10_layAll at hf
  refine lv_iconst (v := (0 : Int32)) hx hb dX10_layAll_0 (by decide) ?_
  refine lv_istore_n (lv' := [(1, .int (0 : Int32)), (0, .ref (ad 0))]) hx hb dX10_layAll_1 rfl hl (by decide) rfl (fun ls hl => ?_)
  have L2 : ∀ (n2 : Nat) (v1_2 : Int32) (σ2 : St) (H : Heap) (locs : List Loc) (ls : Array Slot), fX10_layAll_2 (fX10_layAll_2_k) n2 σ2 v1_2 = some q → va_P D vwCl (wM cy ad aw ac σ2) H → va_D A (wM cy ad aw ac σ2) → va_S A s.heap H locs → lv_has ls 4 [(0, .ref (ad 0)), (1, .int v1_2)] → W p l e (Rm 3 68 0 0) s m [.ref (ad 0)].toArray below meth c H locs 0 0 (Zi D (wM cy ad) A q.1 q.2 aw ac below [.ref (ad 0)].toArray s 0 0) (F0 m 2 ls []) := by
    intro n2
    induction n2 with
    | zero =>
      intro v1_2 σ2 H locs ls hf
      cases hf
    | succ n2 ih2 =>
      intro v1_2 σ2 H locs ls hf hP hD hS hl
      rw [fX10_layAll_2] at hf
      refine lv_iload_n hx hb dX10_layAll_2 rfl (lv_at hl 1 rfl) ?_
      refine lv_bipush (v := (80 : Int32)) hx hb dX10_layAll_3 (by decide) ?_
      refine lv_icmp_ge (tgt := 26) hx hb dX10_layAll_5 (by decide) (fun c5 => ?_) (fun c5 => ?_)
      · have hf := ifp c5 hf
        have hl := lv_sub (l' := [(0, .ref (ad 0)), (1, .int v1_2)]) hl [0, 1] rfl
        unfold fX10_layAll_2_k at hf
        refine lv_iconst (v := (0 : Int32)) hx hb dX10_layAll_26 (by decide) ?_
        refine lv_istore_n (lv' := [(1, .int (0 : Int32)), (0, .ref (ad 0))]) hx hb dX10_layAll_27 rfl hl (by decide) rfl (fun ls hl => ?_)
        refine lv_iconst (v := (0 : Int32)) hx hb dX10_layAll_28 (by decide) ?_
        refine lv_istore_n (lv' := [(2, .int (0 : Int32)), (1, .int (0 : Int32)), (0, .ref (ad 0))]) hx hb dX10_layAll_29 rfl hl (by decide) rfl (fun ls hl => ?_)
        have L30 : ∀ (n30 : Nat) (v1_30 : Int32) (v2_30 : Int32) (σ30 : St) (H : Heap) (locs : List Loc) (ls : Array Slot), fX10_layAll_30 (fX10_layAll_30_k) n30 σ30 v1_30 v2_30 = some q → va_P D vwCl (wM cy ad aw ac σ30) H → va_D A (wM cy ad aw ac σ30) → va_S A s.heap H locs → lv_has ls 4 [(0, .ref (ad 0)), (1, .int v1_30), (2, .int v2_30)] → W p l e (Rm 3 68 0 0) s m [.ref (ad 0)].toArray below meth c H locs 0 0 (Zi D (wM cy ad) A q.1 q.2 aw ac below [.ref (ad 0)].toArray s 0 0) (F0 m 30 ls []) := by
          intro n30
          induction n30 with
          | zero =>
            intro v1_30 v2_30 σ30 H locs ls hf
            cases hf
          | succ n30 ih30 =>
            intro v1_30 v2_30 σ30 H locs ls hf hP hD hS hl
            rw [fX10_layAll_30] at hf
            refine lv_iload_n hx hb dX10_layAll_30 rfl (lv_at hl 2 rfl) ?_
            refine lv_aload_n hx hb dX10_layAll_31 rfl (lv_at hl 0 rfl) ?_
            refine gM_m_stones S hK hP q961 dX10_layAll_32 ?_
            refine lv_icmp_ge (tgt := 110) hx hb dX10_layAll_35 (by decide) (fun c35 => ?_) (fun c35 => ?_)
            · have hf := ifp c35 hf
              have hl := lv_sub (l' := [(0, .ref (ad 0)), (1, .int v1_30), (2, .int v2_30)]) hl [0, 1, 2] rfl
              unfold fX10_layAll_30_k at hf
              refine lv_iload_n hx hb dX10_layAll_110 rfl (lv_at hl 1 rfl) ?_
              exact u_iretw hx hb hr hlocks rfl hP hD hS dX10_layAll_111 hf (fun _ => rfl)
            · have hf := ifn c35 hf
              refine lv_aload_n hx hb dX10_layAll_38 rfl (lv_at hl 0 rfl) ?_
              refine gM_m_order S hK hP q984 dX10_layAll_39 ?_
              refine lv_iload_n hx hb dX10_layAll_42 rfl (lv_at hl 2 rfl) ?_
              obtain ⟨h43, hf⟩ := if_in hf
              refine lM_22 S hK hP h43 dX10_layAll_43 ?_
              refine lv_istore_n (lv' := [(3, .int (ga σ30 22 v2_30.toNatClampNeg)), (0, .ref (ad 0)), (1, .int v1_30), (2, .int v2_30)]) hx hb dX10_layAll_44 rfl hl (by decide) rfl (fun ls hl => ?_)
              have L45 : ∀ (n45 : Nat) (v3_45 : Int32) (v1_45 : Int32) (H : Heap) (locs : List Loc) (ls : Array Slot), fX10_layAll_45 (fun σ30' v1_30' v2_30' => fX10_layAll_30 (fX10_layAll_30_k)  n30 σ30' v1_30' v2_30') (fX10_layAll_45_k (fun σ30' v1_30' v2_30' => fX10_layAll_30 (fX10_layAll_30_k)  n30 σ30' v1_30' v2_30') σ30 v2_30 v3_45) σ30 v2_30 v3_45 n45 v1_45 = some q → va_P D vwCl (wM cy ad aw ac σ30) H → va_D A (wM cy ad aw ac σ30) → va_S A s.heap H locs → lv_has ls 4 [(0, .ref (ad 0)), (1, .int v1_45), (2, .int v2_30), (3, .int v3_45)] → W p l e (Rm 3 68 0 0) s m [.ref (ad 0)].toArray below meth c H locs 0 0 (Zi D (wM cy ad) A q.1 q.2 aw ac below [.ref (ad 0)].toArray s 0 0) (F0 m 45 ls []) := by
                intro n45
                induction n45 with
                | zero =>
                  intro v3_45 v1_45 H locs ls hf
                  cases hf
                | succ n45 ih45 =>
                  intro v3_45 v1_45 H locs ls hf hP hD hS hl
                  rw [fX10_layAll_45] at hf
                  refine lv_iload_n hx hb dX10_layAll_45 rfl (lv_at hl 1 rfl) ?_
                  refine lv_bipush (v := (80 : Int32)) hx hb dX10_layAll_46 (by decide) ?_
                  refine lv_icmp_ge (tgt := 66) hx hb dX10_layAll_48 (by decide) (fun c48 => ?_) (fun c48 => ?_)
                  · have hf := ifp c48 hf
                    have hl := lv_sub (l' := [(0, .ref (ad 0)), (1, .int v1_45), (2, .int v2_30), (3, .int v3_45)]) hl [0, 1, 2, 3] rfl
                    unfold fX10_layAll_45_k at hf
                    refine lv_aload_n hx hb dX10_layAll_66 rfl (lv_at hl 0 rfl) ?_
                    refine gM_m_laidOn S hK hP q985 dX10_layAll_67 ?_
                    refine lv_iload_n hx hb dX10_layAll_70 rfl (lv_at hl 3 rfl) ?_
                    refine lv_iload_n hx hb dX10_layAll_71 rfl (lv_at hl 1 rfl) ?_
                    refine lv_bipush (v := (80 : Int32)) hx hb dX10_layAll_72 (by decide) ?_
                    refine lv_icmp_ge (tgt := 81) hx hb dX10_layAll_74 (by decide) (fun c74 => ?_) (fun c74 => ?_)
                    · have hf := ifp c74 hf
                      refine lv_iconst (v := (-1 : Int32)) hx hb dX10_layAll_81 (by decide) ?_
                      obtain ⟨h82, hf⟩ := if_in hf
                      refine tM_23 S hK hP hD hS h82 dX10_layAll_82 (fun H locs hP hD hS => ?_)
                      refine lv_iload_n hx hb dX10_layAll_83 rfl (lv_at hl 1 rfl) ?_
                      refine lv_bipush (v := (80 : Int32)) hx hb dX10_layAll_84 (by decide) ?_
                      refine lv_icmp_ge (tgt := 104) hx hb dX10_layAll_86 (by decide) (fun c86 => ?_) (fun c86 => ?_)
                      · have hf := ifp c86 hf
                        refine lv_iinc (v := (v2_30 + (1 : Int32))) (lv' := [(2, .int (v2_30 + (1 : Int32))), (0, .ref (ad 0)), (1, .int v1_45), (3, .int v3_45)]) hx hb dX10_layAll_104 hl (k := 2) rfl rfl (by decide) rfl (fun ls hl => ?_)
                        refine lv_goto (tgt := 30) hx hb dX10_layAll_107 (by decide) ?_
                        exact ih30 v1_45 (v2_30 + (1 : Int32)) (sa σ30 23 v3_45.toNatClampNeg (-1 : Int32)) H locs ls hf hP hD hS (lv_sub hl [1, 2, 0] rfl)
                      · have hf := ifn c86 hf
                        refine lv_aload_n hx hb dX10_layAll_89 rfl (lv_at hl 0 rfl) ?_
                        refine gM_m_hoursLeft S hK hP q986 dX10_layAll_90 ?_
                        refine lv_iload_n hx hb dX10_layAll_93 rfl (lv_at hl 1 rfl) ?_
                        refine lv_dup2_11 hx hb dX10_layAll_94 rfl rfl ?_
                        obtain ⟨h95, hf⟩ := if_in hf
                        refine lM_24 S hK hP h95 dX10_layAll_95 ?_
                        refine lv_aload_n hx hb dX10_layAll_96 rfl (lv_at hl 0 rfl) ?_
                        refine gM_m_hours S hK hP q964 dX10_layAll_97 ?_
                        refine lv_iload_n hx hb dX10_layAll_100 rfl (lv_at hl 3 rfl) ?_
                        obtain ⟨h101, hf⟩ := if_in hf
                        refine lM_10 S hK hP h101 dX10_layAll_101 ?_
                        refine lv_isub hx hb dX10_layAll_102 ?_
                        obtain ⟨h103, hf⟩ := if_in hf
                        refine tM_24 S hK hP hD hS h103 dX10_layAll_103 (fun H locs hP hD hS => ?_)
                        refine lv_iinc (v := (v2_30 + (1 : Int32))) (lv' := [(2, .int (v2_30 + (1 : Int32))), (0, .ref (ad 0)), (1, .int v1_45), (3, .int v3_45)]) hx hb dX10_layAll_104 hl (k := 2) rfl rfl (by decide) rfl (fun ls hl => ?_)
                        refine lv_goto (tgt := 30) hx hb dX10_layAll_107 (by decide) ?_
                        exact ih30 v1_45 (v2_30 + (1 : Int32)) (sa (sa σ30 23 v3_45.toNatClampNeg (-1 : Int32)) 24 v1_45.toNatClampNeg ((ga (sa σ30 23 v3_45.toNatClampNeg (-1 : Int32)) 24 v1_45.toNatClampNeg) - (ga (sa σ30 23 v3_45.toNatClampNeg (-1 : Int32)) 10 v3_45.toNatClampNeg))) H locs ls hf hP hD hS (lv_sub hl [1, 2, 0] rfl)
                    · have hf := ifn c74 hf
                      refine lv_iload_n hx hb dX10_layAll_77 rfl (lv_at hl 1 rfl) ?_
                      refine lv_goto (tgt := 82) hx hb dX10_layAll_78 (by decide) ?_
                      obtain ⟨h82, hf⟩ := if_in hf
                      refine tM_23 S hK hP hD hS h82 dX10_layAll_82 (fun H locs hP hD hS => ?_)
                      refine lv_iload_n hx hb dX10_layAll_83 rfl (lv_at hl 1 rfl) ?_
                      refine lv_bipush (v := (80 : Int32)) hx hb dX10_layAll_84 (by decide) ?_
                      refine lv_icmp_ge (tgt := 104) hx hb dX10_layAll_86 (by decide) (fun c86 => ?_) (fun c86 => ?_)
                      · have hf := ifp c86 hf
                        refine lv_iinc (v := (v2_30 + (1 : Int32))) (lv' := [(2, .int (v2_30 + (1 : Int32))), (0, .ref (ad 0)), (1, .int v1_45), (3, .int v3_45)]) hx hb dX10_layAll_104 hl (k := 2) rfl rfl (by decide) rfl (fun ls hl => ?_)
                        refine lv_goto (tgt := 30) hx hb dX10_layAll_107 (by decide) ?_
                        exact ih30 v1_45 (v2_30 + (1 : Int32)) (sa σ30 23 v3_45.toNatClampNeg v1_45) H locs ls hf hP hD hS (lv_sub hl [1, 2, 0] rfl)
                      · have hf := ifn c86 hf
                        refine lv_aload_n hx hb dX10_layAll_89 rfl (lv_at hl 0 rfl) ?_
                        refine gM_m_hoursLeft S hK hP q986 dX10_layAll_90 ?_
                        refine lv_iload_n hx hb dX10_layAll_93 rfl (lv_at hl 1 rfl) ?_
                        refine lv_dup2_11 hx hb dX10_layAll_94 rfl rfl ?_
                        obtain ⟨h95, hf⟩ := if_in hf
                        refine lM_24 S hK hP h95 dX10_layAll_95 ?_
                        refine lv_aload_n hx hb dX10_layAll_96 rfl (lv_at hl 0 rfl) ?_
                        refine gM_m_hours S hK hP q964 dX10_layAll_97 ?_
                        refine lv_iload_n hx hb dX10_layAll_100 rfl (lv_at hl 3 rfl) ?_
                        obtain ⟨h101, hf⟩ := if_in hf
                        refine lM_10 S hK hP h101 dX10_layAll_101 ?_
                        refine lv_isub hx hb dX10_layAll_102 ?_
                        obtain ⟨h103, hf⟩ := if_in hf
                        refine tM_24 S hK hP hD hS h103 dX10_layAll_103 (fun H locs hP hD hS => ?_)
                        refine lv_iinc (v := (v2_30 + (1 : Int32))) (lv' := [(2, .int (v2_30 + (1 : Int32))), (0, .ref (ad 0)), (1, .int v1_45), (3, .int v3_45)]) hx hb dX10_layAll_104 hl (k := 2) rfl rfl (by decide) rfl (fun ls hl => ?_)
                        refine lv_goto (tgt := 30) hx hb dX10_layAll_107 (by decide) ?_
                        exact ih30 v1_45 (v2_30 + (1 : Int32)) (sa (sa σ30 23 v3_45.toNatClampNeg v1_45) 24 v1_45.toNatClampNeg ((ga (sa σ30 23 v3_45.toNatClampNeg v1_45) 24 v1_45.toNatClampNeg) - (ga (sa σ30 23 v3_45.toNatClampNeg v1_45) 10 v3_45.toNatClampNeg))) H locs ls hf hP hD hS (lv_sub hl [1, 2, 0] rfl)
                  · have hf := ifn c48 hf
                    refine lv_aload_n hx hb dX10_layAll_51 rfl (lv_at hl 0 rfl) ?_
                    refine lv_iload_n hx hb dX10_layAll_52 rfl (lv_at hl 3 rfl) ?_
                    refine lv_iload_n hx hb dX10_layAll_53 rfl (lv_at hl 1 rfl) ?_
                    obtain ⟨r54, h54, hf⟩ := ob_some hf
                    refine u_calli0 (u_runV (rest := []) S (c_X10_mayOn l D cy ad σ30 v3_45 v1_45 r54 h54 aw ac H.size) iX10_mayOn vX10_mayOn q1373 ⟨Nat.le_of_ble_eq_true rfl, Nat.le_of_ble_eq_true rfl⟩ hK hP hD (q0 := 0) rfl rfl rfl hl.1 (Nat.le_of_ble_eq_true rfl) dX10_layAll_54 ⟨Nat.le_refl _, Nat.le_refl _⟩) hD hS hA (fun H locs hP hD hS => ?_)
                    refine lv_if_ne (tgt := 66) hx hb dX10_layAll_57 (by decide) (fun c57 => ?_) (fun c57 => ?_)
                    · have hf := ifn c57 hf
                      have hl := lv_sub (l' := [(0, .ref (ad 0)), (1, .int v1_45), (2, .int v2_30), (3, .int v3_45)]) hl [0, 1, 2, 3] rfl
                      unfold fX10_layAll_45_k at hf
                      refine lv_aload_n hx hb dX10_layAll_66 rfl (lv_at hl 0 rfl) ?_
                      refine gM_m_laidOn S hK hP q985 dX10_layAll_67 ?_
                      refine lv_iload_n hx hb dX10_layAll_70 rfl (lv_at hl 3 rfl) ?_
                      refine lv_iload_n hx hb dX10_layAll_71 rfl (lv_at hl 1 rfl) ?_
                      refine lv_bipush (v := (80 : Int32)) hx hb dX10_layAll_72 (by decide) ?_
                      refine lv_icmp_ge (tgt := 81) hx hb dX10_layAll_74 (by decide) (fun c74 => ?_) (fun c74 => ?_)
                      · have hf := ifp c74 hf
                        refine lv_iconst (v := (-1 : Int32)) hx hb dX10_layAll_81 (by decide) ?_
                        obtain ⟨h82, hf⟩ := if_in hf
                        refine tM_23 S hK hP hD hS h82 dX10_layAll_82 (fun H locs hP hD hS => ?_)
                        refine lv_iload_n hx hb dX10_layAll_83 rfl (lv_at hl 1 rfl) ?_
                        refine lv_bipush (v := (80 : Int32)) hx hb dX10_layAll_84 (by decide) ?_
                        refine lv_icmp_ge (tgt := 104) hx hb dX10_layAll_86 (by decide) (fun c86 => ?_) (fun c86 => ?_)
                        · have hf := ifp c86 hf
                          refine lv_iinc (v := (v2_30 + (1 : Int32))) (lv' := [(2, .int (v2_30 + (1 : Int32))), (0, .ref (ad 0)), (1, .int v1_45), (3, .int v3_45)]) hx hb dX10_layAll_104 hl (k := 2) rfl rfl (by decide) rfl (fun ls hl => ?_)
                          refine lv_goto (tgt := 30) hx hb dX10_layAll_107 (by decide) ?_
                          exact ih30 v1_45 (v2_30 + (1 : Int32)) (sa σ30 23 v3_45.toNatClampNeg (-1 : Int32)) H locs ls hf hP hD hS (lv_sub hl [1, 2, 0] rfl)
                        · have hf := ifn c86 hf
                          refine lv_aload_n hx hb dX10_layAll_89 rfl (lv_at hl 0 rfl) ?_
                          refine gM_m_hoursLeft S hK hP q986 dX10_layAll_90 ?_
                          refine lv_iload_n hx hb dX10_layAll_93 rfl (lv_at hl 1 rfl) ?_
                          refine lv_dup2_11 hx hb dX10_layAll_94 rfl rfl ?_
                          obtain ⟨h95, hf⟩ := if_in hf
                          refine lM_24 S hK hP h95 dX10_layAll_95 ?_
                          refine lv_aload_n hx hb dX10_layAll_96 rfl (lv_at hl 0 rfl) ?_
                          refine gM_m_hours S hK hP q964 dX10_layAll_97 ?_
                          refine lv_iload_n hx hb dX10_layAll_100 rfl (lv_at hl 3 rfl) ?_
                          obtain ⟨h101, hf⟩ := if_in hf
                          refine lM_10 S hK hP h101 dX10_layAll_101 ?_
                          refine lv_isub hx hb dX10_layAll_102 ?_
                          obtain ⟨h103, hf⟩ := if_in hf
                          refine tM_24 S hK hP hD hS h103 dX10_layAll_103 (fun H locs hP hD hS => ?_)
                          refine lv_iinc (v := (v2_30 + (1 : Int32))) (lv' := [(2, .int (v2_30 + (1 : Int32))), (0, .ref (ad 0)), (1, .int v1_45), (3, .int v3_45)]) hx hb dX10_layAll_104 hl (k := 2) rfl rfl (by decide) rfl (fun ls hl => ?_)
                          refine lv_goto (tgt := 30) hx hb dX10_layAll_107 (by decide) ?_
                          exact ih30 v1_45 (v2_30 + (1 : Int32)) (sa (sa σ30 23 v3_45.toNatClampNeg (-1 : Int32)) 24 v1_45.toNatClampNeg ((ga (sa σ30 23 v3_45.toNatClampNeg (-1 : Int32)) 24 v1_45.toNatClampNeg) - (ga (sa σ30 23 v3_45.toNatClampNeg (-1 : Int32)) 10 v3_45.toNatClampNeg))) H locs ls hf hP hD hS (lv_sub hl [1, 2, 0] rfl)
                      · have hf := ifn c74 hf
                        refine lv_iload_n hx hb dX10_layAll_77 rfl (lv_at hl 1 rfl) ?_
                        refine lv_goto (tgt := 82) hx hb dX10_layAll_78 (by decide) ?_
                        obtain ⟨h82, hf⟩ := if_in hf
                        refine tM_23 S hK hP hD hS h82 dX10_layAll_82 (fun H locs hP hD hS => ?_)
                        refine lv_iload_n hx hb dX10_layAll_83 rfl (lv_at hl 1 rfl) ?_
                        refine lv_bipush (v := (80 : Int32)) hx hb dX10_layAll_84 (by decide) ?_
                        refine lv_icmp_ge (tgt := 104) hx hb dX10_layAll_86 (by decide) (fun c86 => ?_) (fun c86 => ?_)
                        · have hf := ifp c86 hf
                          refine lv_iinc (v := (v2_30 + (1 : Int32))) (lv' := [(2, .int (v2_30 + (1 : Int32))), (0, .ref (ad 0)), (1, .int v1_45), (3, .int v3_45)]) hx hb dX10_layAll_104 hl (k := 2) rfl rfl (by decide) rfl (fun ls hl => ?_)
                          refine lv_goto (tgt := 30) hx hb dX10_layAll_107 (by decide) ?_
                          exact ih30 v1_45 (v2_30 + (1 : Int32)) (sa σ30 23 v3_45.toNatClampNeg v1_45) H locs ls hf hP hD hS (lv_sub hl [1, 2, 0] rfl)
                        · have hf := ifn c86 hf
                          refine lv_aload_n hx hb dX10_layAll_89 rfl (lv_at hl 0 rfl) ?_
                          refine gM_m_hoursLeft S hK hP q986 dX10_layAll_90 ?_
                          refine lv_iload_n hx hb dX10_layAll_93 rfl (lv_at hl 1 rfl) ?_
                          refine lv_dup2_11 hx hb dX10_layAll_94 rfl rfl ?_
                          obtain ⟨h95, hf⟩ := if_in hf
                          refine lM_24 S hK hP h95 dX10_layAll_95 ?_
                          refine lv_aload_n hx hb dX10_layAll_96 rfl (lv_at hl 0 rfl) ?_
                          refine gM_m_hours S hK hP q964 dX10_layAll_97 ?_
                          refine lv_iload_n hx hb dX10_layAll_100 rfl (lv_at hl 3 rfl) ?_
                          obtain ⟨h101, hf⟩ := if_in hf
                          refine lM_10 S hK hP h101 dX10_layAll_101 ?_
                          refine lv_isub hx hb dX10_layAll_102 ?_
                          obtain ⟨h103, hf⟩ := if_in hf
                          refine tM_24 S hK hP hD hS h103 dX10_layAll_103 (fun H locs hP hD hS => ?_)
                          refine lv_iinc (v := (v2_30 + (1 : Int32))) (lv' := [(2, .int (v2_30 + (1 : Int32))), (0, .ref (ad 0)), (1, .int v1_45), (3, .int v3_45)]) hx hb dX10_layAll_104 hl (k := 2) rfl rfl (by decide) rfl (fun ls hl => ?_)
                          refine lv_goto (tgt := 30) hx hb dX10_layAll_107 (by decide) ?_
                          exact ih30 v1_45 (v2_30 + (1 : Int32)) (sa (sa σ30 23 v3_45.toNatClampNeg v1_45) 24 v1_45.toNatClampNeg ((ga (sa σ30 23 v3_45.toNatClampNeg v1_45) 24 v1_45.toNatClampNeg) - (ga (sa σ30 23 v3_45.toNatClampNeg v1_45) 10 v3_45.toNatClampNeg))) H locs ls hf hP hD hS (lv_sub hl [1, 2, 0] rfl)
                    · have hf := ifp c57 hf
                      refine lv_iinc (v := (v1_45 + (1 : Int32))) (lv' := [(1, .int (v1_45 + (1 : Int32))), (0, .ref (ad 0)), (2, .int v2_30), (3, .int v3_45)]) hx hb dX10_layAll_60 hl (k := 1) rfl rfl (by decide) rfl (fun ls hl => ?_)
                      refine lv_goto (tgt := 45) hx hb dX10_layAll_63 (by decide) ?_
                      exact ih45 v3_45 (v1_45 + (1 : Int32)) H locs ls hf hP hD hS (lv_sub hl [1, 0, 2, 3] rfl)
              exact L45 KF (ga σ30 22 v2_30.toNatClampNeg) v1_30 H locs ls hf hP hD hS (lv_sub hl [1, 2, 3, 0] rfl)
        exact L30 KF (0 : Int32) (0 : Int32) σ2 H locs ls hf hP hD hS (lv_sub hl [2, 1, 0] rfl)
      · have hf := ifn c5 hf
        refine lv_aload_n hx hb dX10_layAll_8 rfl (lv_at hl 0 rfl) ?_
        refine gM_m_hoursLeft S hK hP q986 dX10_layAll_9 ?_
        refine lv_iload_n hx hb dX10_layAll_12 rfl (lv_at hl 1 rfl) ?_
        refine lv_aload_n hx hb dX10_layAll_13 rfl (lv_at hl 0 rfl) ?_
        refine gM_m_light S hK hP q981 dX10_layAll_14 ?_
        refine lv_iload_n hx hb dX10_layAll_17 rfl (lv_at hl 1 rfl) ?_
        obtain ⟨h18, hf⟩ := if_in hf
        refine lM_20 S hK hP h18 dX10_layAll_18 ?_
        obtain ⟨h19, hf⟩ := if_in hf
        refine tM_24 S hK hP hD hS h19 dX10_layAll_19 (fun H locs hP hD hS => ?_)
        refine lv_iinc (v := (v1_2 + (1 : Int32))) (lv' := [(1, .int (v1_2 + (1 : Int32))), (0, .ref (ad 0))]) hx hb dX10_layAll_20 hl (k := 1) rfl rfl (by decide) rfl (fun ls hl => ?_)
        refine lv_goto (tgt := 2) hx hb dX10_layAll_23 (by decide) ?_
        exact ih2 (v1_2 + (1 : Int32)) (sa σ2 24 v1_2.toNatClampNeg (ga σ2 20 v1_2.toNatClampNeg)) H locs ls hf hP hD hS (lv_sub hl [1, 0] rfl)
  exact L2 KF (0 : Int32) σ H locs ls hf hP hD hS (lv_sub hl [1, 0] rfl)
theorem iX10_laid : YI yX10_laid cX10_laid 3 (some .int) 1 := ⟨q1364, q12, by decide, by decide, by decide +kernel⟩
theorem vX10_laid : YV yX10_laid := ⟨q1362, q1363⟩
set_option maxRecDepth 100000 in
set_option maxHeartbeats 4000000 in
theorem c_X10_laid (l : Launch) (D : va_G) (cy : Nat → ClassId) (ad : Nat → Nat) (σ : St) (v1 : Int32) (q : Int32 × St) (hf : fX10_laid σ v1 = some q) : Ci l D cy (wM cy ad) yX10_laid cX10_laid 3 .int 5 119 [.ref (ad 0), .int v1] σ q.1 q.2 0 0 := by
  refine Ci.enter (by decide) (Nat.le_of_ble_eq_true rfl) ?_
  intro aw ac p e s m below meth c A H locs S hr hlocks hA hK hP hD hS ls hl
  have hx := S.1
  have hb := S.2.1
  have hl : lv_has ls 3 [(0, .ref (ad 0)), (1, .int v1)] := hl
  unfold fX10_laid at hf
  refine lv_aload_n hx hb dX10_laid_0 rfl (lv_at hl 0 rfl) ?_
  refine lv_iload_n hx hb dX10_laid_1 rfl (lv_at hl 1 rfl) ?_
  obtain ⟨r2, h2, hf⟩ := ob_some hf
  refine u_calli0 (u_runV (rest := []) S (c_X10_noStone l D cy ad σ v1 r2 h2 aw ac H.size) iX10_noStone vX10_noStone q1273 ⟨Nat.le_of_ble_eq_true rfl, Nat.le_of_ble_eq_true rfl⟩ hK hP hD (q0 := 0) rfl rfl rfl hl.1 (Nat.le_of_ble_eq_true rfl) dX10_laid_2 ⟨Nat.le_refl _, Nat.le_refl _⟩) hD hS hA (fun H locs hP hD hS => ?_)
  refine lv_if_eq (tgt := 11) hx hb dX10_laid_5 (by decide) (fun c5 => ?_) (fun c5 => ?_)
  · have hf := ifp c5 hf
    refine lv_aload_n hx hb dX10_laid_11 rfl (lv_at hl 0 rfl) ?_
    obtain ⟨q12, h12, hf⟩ := ob_some hf
    refine u_callv0 (u_runV (rest := []) S (c_X10_findOrder l D cy ad σ q12 h12 aw ac H.size) iX10_findOrder vX10_findOrder q1365 ⟨Nat.le_of_ble_eq_true rfl, Nat.le_of_ble_eq_true rfl⟩ hK hP hD (q0 := 0) rfl rfl rfl hl.1 (Nat.le_of_ble_eq_true rfl) dX10_laid_12 ⟨Nat.le_refl _, Nat.le_refl _⟩) hD hS hA (fun H locs hP hD hS => ?_)
    refine lv_aload_n hx hb dX10_laid_15 rfl (lv_at hl 0 rfl) ?_
    obtain ⟨q16, h16, hf⟩ := ob_some hf
    refine u_calli0 (u_runV (rest := []) S (c_X10_layAll l D cy ad q12 q16 h16 aw ac H.size) iX10_layAll vX10_layAll q1369 ⟨Nat.le_of_ble_eq_true rfl, Nat.le_of_ble_eq_true rfl⟩ hK hP hD (q0 := 0) rfl rfl rfl hl.1 (Nat.le_of_ble_eq_true rfl) dX10_laid_16 ⟨Nat.le_refl _, Nat.le_refl _⟩) hD hS hA (fun H locs hP hD hS => ?_)
    refine lv_istore_n (lv' := [(2, .int q16.1), (0, .ref (ad 0)), (1, .int v1)]) hx hb dX10_laid_19 rfl hl (by decide) rfl (fun ls hl => ?_)
    refine lv_aload_n hx hb dX10_laid_20 rfl (lv_at hl 1 rfl) ?_
    refine gM_m_laidOn S hK hP q985 dX10_laid_21 ?_
    refine lv_iload_n hx hb dX10_laid_24 rfl (lv_at hl 2 rfl) ?_
    obtain ⟨h25, hf⟩ := if_in hf
    refine lM_23 S hK hP h25 dX10_laid_25 ?_
    exact u_iretw hx hb hr hlocks rfl hP hD hS dX10_laid_26 hf (fun _ => rfl)
  · have hf := ifn c5 hf
    refine lv_bipush (v := (-2 : Int32)) hx hb dX10_laid_8 (by decide) ?_
    exact u_iretw hx hb hr hlocks rfl hP hD hS dX10_laid_10 hf (fun _ => rfl)
theorem iX10_end : YI yX10_end cX10_end 2 (some .int) 0 := ⟨q1384, q12, by decide, by decide, by decide +kernel⟩
theorem vX10_end : YV yX10_end := ⟨q1382, q1383⟩
set_option maxRecDepth 100000 in
set_option maxHeartbeats 4000000 in
theorem c_X10_end (l : Launch) (D : va_G) (cy : Nat → ClassId) (ad : Nat → Nat) (σ : St) (q : Int32 × St) (hf : fX10_end σ = some q) : Ci l D cy (wM cy ad) yX10_end cX10_end 2 .int 5 119 [.ref (ad 0)] σ q.1 q.2 0 0 := by
  refine Ci.enter (by decide) (Nat.le_of_ble_eq_true rfl) ?_
  intro aw ac p e s m below meth c A H locs S hr hlocks hA hK hP hD hS ls hl
  have hx := S.1
  have hb := S.2.1
  have hl : lv_has ls 2 [(0, .ref (ad 0))] := hl
  unfold fX10_end at hf
  refine lv_aload_n hx hb dX10_end_0 rfl (lv_at hl 0 rfl) ?_
  refine gM_m_stones S hK hP q961 dX10_end_1 ?_
  refine lv_if_ne (tgt := 9) hx hb dX10_end_4 (by decide) (fun c4 => ?_) (fun c4 => ?_)
  · have hf := ifn c4 hf
    refine lv_aload_n hx hb dX10_end_9 rfl (lv_at hl 0 rfl) ?_
    obtain ⟨q10, h10, hf⟩ := ob_some hf
    refine u_callv0 (u_runV (rest := []) S (c_X10_findOrder l D cy ad σ q10 h10 aw ac H.size) iX10_findOrder vX10_findOrder q1365 ⟨Nat.le_of_ble_eq_true rfl, Nat.le_of_ble_eq_true rfl⟩ hK hP hD (q0 := 0) rfl rfl rfl hl.1 (Nat.le_of_ble_eq_true rfl) dX10_end_10 ⟨Nat.le_refl _, Nat.le_refl _⟩) hD hS hA (fun H locs hP hD hS => ?_)
    refine lv_aload_n hx hb dX10_end_13 rfl (lv_at hl 0 rfl) ?_
    obtain ⟨q14, h14, hf⟩ := ob_some hf
    refine u_calli0 (u_runV (rest := []) S (c_X10_layAll l D cy ad q10 q14 h14 aw ac H.size) iX10_layAll vX10_layAll q1369 ⟨Nat.le_of_ble_eq_true rfl, Nat.le_of_ble_eq_true rfl⟩ hK hP hD (q0 := 0) rfl rfl rfl hl.1 (Nat.le_of_ble_eq_true rfl) dX10_end_14 ⟨Nat.le_refl _, Nat.le_refl _⟩) hD hS hA (fun H locs hP hD hS => ?_)
    refine lv_istore_n (lv' := [(1, .int q14.1), (0, .ref (ad 0))]) hx hb dX10_end_17 rfl hl (by decide) rfl (fun ls hl => ?_)
    refine lv_iload_n hx hb dX10_end_18 rfl (lv_at hl 0 rfl) ?_
    refine lv_bipush (v := (80 : Int32)) hx hb dX10_end_19 (by decide) ?_
    refine lv_icmp_ge (tgt := 28) hx hb dX10_end_21 (by decide) (fun c21 => ?_) (fun c21 => ?_)
    · have hf := ifp c21 hf
      refine lv_iconst (v := (-1 : Int32)) hx hb dX10_end_28 (by decide) ?_
      exact u_iretw hx hb hr hlocks rfl hP hD hS dX10_end_29 hf (fun _ => rfl)
    · have hf := ifn c21 hf
      refine lv_iload_n hx hb dX10_end_24 rfl (lv_at hl 0 rfl) ?_
      refine lv_goto (tgt := 29) hx hb dX10_end_25 (by decide) ?_
      exact u_iretw hx hb hr hlocks rfl hP hD hS dX10_end_29 hf (fun _ => rfl)
  · have hf := ifp c4 hf
    refine lv_iconst (v := (-1 : Int32)) hx hb dX10_end_7 (by decide) ?_
    exact u_iretw hx hb hr hlocks rfl hP hD hS dX10_end_8 hf (fun _ => rfl)
theorem iX10_findWorst : YI yX10_findWorst cX10_findWorst 9 (some .int) 1 := ⟨q1393, q12, by decide, by decide, by decide +kernel⟩
theorem vX10_findWorst : YV yX10_findWorst := ⟨q1392, qs51⟩
set_option maxRecDepth 100000 in
set_option maxHeartbeats 4000000 in
theorem c_X10_findWorst (l : Launch) (D : va_G) (cy : Nat → ClassId) (ad : Nat → Nat) (σ : St) (v1 : Int32) (q : Int32 × St) (hf : fX10_findWorst σ v1 = some q) : Ci l D cy (wM cy ad) yX10_findWorst cX10_findWorst 9 .int 4 91 [.ref (ad 0), .int v1] σ q.1 q.2 0 0 := by
  refine Ci.enter (by decide) (Nat.le_of_ble_eq_true rfl) ?_
  intro aw ac p e s m below meth c A H locs S hr hlocks hA hK hP hD hS ls hl
  have hx := S.1
  have hb := S.2.1
  have hl : lv_has ls 9 [(0, .ref (ad 0)), (1, .int v1)] := hl
  unfold fX10_findWorst at hf
  refine lv_iconst (v := (-1 : Int32)) hx hb dX10_findWorst_0 (by decide) ?_
  refine lv_istore_n (lv' := [(2, .int (-1 : Int32)), (0, .ref (ad 0)), (1, .int v1)]) hx hb dX10_findWorst_1 rfl hl (by decide) rfl (fun ls hl => ?_)
  have J12 : ∀ (v1_j12 : Int32) (v2_j12 : Int32) (s0_j12 : Int32) (σj12 : St) (H : Heap) (locs : List Loc) (ls : Array Slot), fX10_findWorst_J12 σj12 v1_j12 v2_j12 s0_j12 = some q → va_P D vwCl (wM cy ad aw ac σj12) H → va_D A (wM cy ad aw ac σj12) → va_S A s.heap H locs → lv_has ls 9 [(0, .ref (ad 0)), (1, .int v1_j12), (2, .int v2_j12)] → W p l e (Rm 4 91 0 0) s m [.ref (ad 0), .int v1].toArray below meth c H locs 0 0 (Zi D (wM cy ad) A q.1 q.2 aw ac below [.ref (ad 0), .int v1].toArray s 0 0) (F0 m 12 ls [.int s0_j12]) := by
    intro v1_j12 v2_j12 s0_j12 σj12 H locs ls hf hP hD hS hl
    unfold fX10_findWorst_J12 at hf
    refine lv_istore_n (lv' := [(3, .int s0_j12), (0, .ref (ad 0)), (1, .int v1_j12), (2, .int v2_j12)]) hx hb dX10_findWorst_12 rfl hl (by decide) rfl (fun ls hl => ?_)
    have L13 : ∀ (n13 : Nat) (v2_13 : Int32) (v3_13 : Int32) (σ13 : St) (H : Heap) (locs : List Loc) (ls : Array Slot), fX10_findWorst_13 (fX10_findWorst_13_k v1_j12) v1_j12 n13 σ13 v2_13 v3_13 = some q → va_P D vwCl (wM cy ad aw ac σ13) H → va_D A (wM cy ad aw ac σ13) → va_S A s.heap H locs → lv_has ls 9 [(0, .ref (ad 0)), (1, .int v1_j12), (2, .int v2_13), (3, .int v3_13)] → W p l e (Rm 4 91 0 0) s m [.ref (ad 0), .int v1].toArray below meth c H locs 0 0 (Zi D (wM cy ad) A q.1 q.2 aw ac below [.ref (ad 0), .int v1].toArray s 0 0) (F0 m 13 ls []) := by
      intro n13
      induction n13 with
      | zero =>
        intro v2_13 v3_13 σ13 H locs ls hf
        cases hf
      | succ n13 ih13 =>
        intro v2_13 v3_13 σ13 H locs ls hf hP hD hS hl
        rw [fX10_findWorst_13] at hf
        refine lv_iload_n hx hb dX10_findWorst_13 rfl (lv_at hl 3 rfl) ?_
        refine lv_bipush (v := (60 : Int32)) hx hb dX10_findWorst_14 (by decide) ?_
        refine lv_icmp_ge (tgt := 201) hx hb dX10_findWorst_16 (by decide) (fun c16 => ?_) (fun c16 => ?_)
        · have hf := ifp c16 hf
          have hl := lv_sub (l' := [(0, .ref (ad 0)), (1, .int v1_j12), (2, .int v2_13), (3, .int v3_13)]) hl [0, 1, 2, 3] rfl
          unfold fX10_findWorst_13_k at hf
          refine lv_iload_n hx hb dX10_findWorst_201 rfl (lv_at hl 2 rfl) ?_
          exact u_iretw hx hb hr hlocks rfl hP hD hS dX10_findWorst_202 hf (fun _ => rfl)
        · have hf := ifn c16 hf
          have J32 : ∀ (v2_j32 : Int32) (v3_j32 : Int32) (s0_j32 : Int32) (σj32 : St) (H : Heap) (locs : List Loc) (ls : Array Slot), fX10_findWorst_J32 (fun σ13' v2_13' v3_13' => fX10_findWorst_13 (fX10_findWorst_13_k v1_j12) v1_j12 n13 σ13' v2_13' v3_13') σj32 v1_j12 v2_j32 v3_j32 s0_j32 = some q → va_P D vwCl (wM cy ad aw ac σj32) H → va_D A (wM cy ad aw ac σj32) → va_S A s.heap H locs → lv_has ls 9 [(0, .ref (ad 0)), (1, .int v1_j12), (2, .int v2_j32), (3, .int v3_j32)] → W p l e (Rm 4 91 0 0) s m [.ref (ad 0), .int v1].toArray below meth c H locs 0 0 (Zi D (wM cy ad) A q.1 q.2 aw ac below [.ref (ad 0), .int v1].toArray s 0 0) (F0 m 32 ls [.int s0_j32]) := by
            intro v2_j32 v3_j32 s0_j32 σj32 H locs ls hf hP hD hS hl
            unfold fX10_findWorst_J32 at hf
            refine lv_istore (lv' := [(4, .int s0_j32), (0, .ref (ad 0)), (1, .int v1_j12), (2, .int v2_j32), (3, .int v3_j32)]) hx hb dX10_findWorst_32 hl (by decide) rfl (fun ls hl => ?_)
            have L34 : ∀ (n34 : Nat) (v2_34 : Int32) (v4_34 : Int32) (σ34 : St) (H : Heap) (locs : List Loc) (ls : Array Slot), fX10_findWorst_34 (fun σ13' v2_13' v3_13' => fX10_findWorst_13 (fX10_findWorst_13_k v1_j12) v1_j12 n13 σ13' v2_13' v3_13') (fX10_findWorst_34_k (fun σ13' v2_13' v3_13' => fX10_findWorst_13 (fX10_findWorst_13_k v1_j12) v1_j12 n13 σ13' v2_13' v3_13') v1_j12 v3_j32) v1_j12 v3_j32 n34 σ34 v2_34 v4_34 = some q → va_P D vwCl (wM cy ad aw ac σ34) H → va_D A (wM cy ad aw ac σ34) → va_S A s.heap H locs → lv_has ls 9 [(0, .ref (ad 0)), (1, .int v1_j12), (2, .int v2_34), (3, .int v3_j32), (4, .int v4_34)] → W p l e (Rm 4 91 0 0) s m [.ref (ad 0), .int v1].toArray below meth c H locs 0 0 (Zi D (wM cy ad) A q.1 q.2 aw ac below [.ref (ad 0), .int v1].toArray s 0 0) (F0 m 34 ls []) := by
              intro n34
              induction n34 with
              | zero =>
                intro v2_34 v4_34 σ34 H locs ls hf
                cases hf
              | succ n34 ih34 =>
                intro v2_34 v4_34 σ34 H locs ls hf hP hD hS hl
                rw [fX10_findWorst_34] at hf
                refine lv_iload hx hb dX10_findWorst_34 (lv_at hl 4 rfl) ?_
                refine lv_bipush (v := (60 : Int32)) hx hb dX10_findWorst_36 (by decide) ?_
                refine lv_icmp_ge (tgt := 195) hx hb dX10_findWorst_38 (by decide) (fun c38 => ?_) (fun c38 => ?_)
                · have hf := ifp c38 hf
                  have hl := lv_sub (l' := [(0, .ref (ad 0)), (1, .int v1_j12), (2, .int v2_34), (3, .int v3_j32), (4, .int v4_34)]) hl [0, 1, 2, 3, 4] rfl
                  unfold fX10_findWorst_34_k at hf
                  refine lv_iinc (v := (v3_j32 + (1 : Int32))) (lv' := [(3, .int (v3_j32 + (1 : Int32))), (0, .ref (ad 0)), (1, .int v1_j12), (2, .int v2_34), (4, .int v4_34)]) hx hb dX10_findWorst_195 hl (k := 3) rfl rfl (by decide) rfl (fun ls hl => ?_)
                  refine lv_goto (tgt := 13) hx hb dX10_findWorst_198 (by decide) ?_
                  exact ih13 v2_34 (v3_j32 + (1 : Int32)) σ34 H locs ls hf hP hD hS (lv_sub hl [1, 2, 3, 0] rfl)
                · have hf := ifn c38 hf
                  have J70 : ∀ (v2_j70 : Int32) (v4_j70 : Int32) (σj70 : St) (H : Heap) (locs : List Loc) (ls : Array Slot), fX10_findWorst_J70 (fun σ13' v2_13' v3_13' => fX10_findWorst_13 (fX10_findWorst_13_k v1_j12) v1_j12 n13 σ13' v2_13' v3_13') (fun σ34' v2_34' v4_34' => fX10_findWorst_34 (fun σ13' v2_13' v3_13' => fX10_findWorst_13 (fX10_findWorst_13_k v1_j12) v1_j12 n13 σ13' v2_13' v3_13') (fX10_findWorst_34_k (fun σ13' v2_13' v3_13' => fX10_findWorst_13 (fX10_findWorst_13_k v1_j12) v1_j12 n13 σ13' v2_13' v3_13') v1_j12 v3_j32) v1_j12 v3_j32 n34 σ34' v2_34' v4_34') σj70 v1_j12 v2_j70 v3_j32 v4_j70 = some q → va_P D vwCl (wM cy ad aw ac σj70) H → va_D A (wM cy ad aw ac σj70) → va_S A s.heap H locs → lv_has ls 9 [(0, .ref (ad 0)), (1, .int v1_j12), (2, .int v2_j70), (3, .int v3_j32), (4, .int v4_j70)] → W p l e (Rm 4 91 0 0) s m [.ref (ad 0), .int v1].toArray below meth c H locs 0 0 (Zi D (wM cy ad) A q.1 q.2 aw ac below [.ref (ad 0), .int v1].toArray s 0 0) (F0 m 70 ls []) := by
                    intro v2_j70 v4_j70 σj70 H locs ls hf hP hD hS hl
                    unfold fX10_findWorst_J70 at hf
                    refine lv_iconst (v := (1 : Int32)) hx hb dX10_findWorst_70 (by decide) ?_
                    refine lv_goto (tgt := 75) hx hb dX10_findWorst_71 (by decide) ?_
                    refine lv_istore (lv' := [(5, .int (1 : Int32)), (0, .ref (ad 0)), (1, .int v1_j12), (2, .int v2_j70), (3, .int v3_j32), (4, .int v4_j70)]) hx hb dX10_findWorst_75 hl (by decide) rfl (fun ls hl => ?_)
                    refine lv_iload hx hb dX10_findWorst_77 (lv_at hl 0 rfl) ?_
                    refine lv_if_eq (tgt := 189) hx hb dX10_findWorst_79 (by decide) (fun c_ => absurd c_ (by decide)) (fun _ => ?_)
                    refine lv_aload_n hx hb dX10_findWorst_82 rfl (lv_at hl 1 rfl) ?_
                    refine gM_m_isFrost S hK hP q982 dX10_findWorst_83 ?_
                    refine lv_iload_n hx hb dX10_findWorst_86 rfl (lv_at hl 4 rfl) ?_
                    obtain ⟨h87, hf⟩ := if_in hf
                    refine lM_21 S hK hP h87 dX10_findWorst_87 ?_
                    refine lv_istore (lv' := [(6, .int (ga σj70 21 v3_j32.toNatClampNeg)), (5, .int (1 : Int32)), (0, .ref (ad 0)), (1, .int v1_j12), (2, .int v2_j70), (3, .int v3_j32), (4, .int v4_j70)]) hx hb dX10_findWorst_88 hl (by decide) rfl (fun ls hl => ?_)
                    refine lv_aload_n hx hb dX10_findWorst_90 rfl (lv_at hl 2 rfl) ?_
                    refine gM_m_isFrost S hK hP q982 dX10_findWorst_91 ?_
                    refine lv_iload hx hb dX10_findWorst_94 (lv_at hl 6 rfl) ?_
                    obtain ⟨h96, hf⟩ := if_in hf
                    refine lM_21 S hK hP h96 dX10_findWorst_96 ?_
                    refine lv_istore (lv' := [(7, .int (ga σj70 21 v4_j70.toNatClampNeg)), (6, .int (ga σj70 21 v3_j32.toNatClampNeg)), (5, .int (1 : Int32)), (0, .ref (ad 0)), (1, .int v1_j12), (2, .int v2_j70), (3, .int v3_j32), (4, .int v4_j70)]) hx hb dX10_findWorst_97 hl (by decide) rfl (fun ls hl => ?_)
                    have J118 : ∀ (v2_j118 : Int32) (v4_j118 : Int32) (v5_j118 : Int32) (v6_j118 : Int32) (v7_j118 : Int32) (s0_j118 : Int32) (s1_j118 : Int32) (σj118 : St) (H : Heap) (locs : List Loc) (ls : Array Slot), fX10_findWorst_J118 (fun σ13' v2_13' v3_13' => fX10_findWorst_13 (fX10_findWorst_13_k v1_j12) v1_j12 n13 σ13' v2_13' v3_13') (fun σ34' v2_34' v4_34' => fX10_findWorst_34 (fun σ13' v2_13' v3_13' => fX10_findWorst_13 (fX10_findWorst_13_k v1_j12) v1_j12 n13 σ13' v2_13' v3_13') (fX10_findWorst_34_k (fun σ13' v2_13' v3_13' => fX10_findWorst_13 (fX10_findWorst_13_k v1_j12) v1_j12 n13 σ13' v2_13' v3_13') v1_j12 v3_j32) v1_j12 v3_j32 n34 σ34' v2_34' v4_34') σj118 v1_j12 v2_j118 v3_j32 v4_j118 v5_j118 v6_j118 v7_j118 s0_j118 s1_j118 = some q → va_P D vwCl (wM cy ad aw ac σj118) H → va_D A (wM cy ad aw ac σj118) → va_S A s.heap H locs → lv_has ls 9 [(0, .ref (ad 0)), (1, .int v1_j12), (2, .int v2_j118), (3, .int v3_j32), (4, .int v4_j118), (5, .int v5_j118), (6, .int v6_j118), (7, .int v7_j118)] → W p l e (Rm 4 91 0 0) s m [.ref (ad 0), .int v1].toArray below meth c H locs 0 0 (Zi D (wM cy ad) A q.1 q.2 aw ac below [.ref (ad 0), .int v1].toArray s 0 0) (F0 m 118 ls [.int s0_j118, .int s1_j118, .ref (ad 21)]) := by
                      intro v2_j118 v4_j118 v5_j118 v6_j118 v7_j118 s0_j118 s1_j118 σj118 H locs ls hf hP hD hS hl
                      unfold fX10_findWorst_J118 at hf
                      obtain ⟨h118, hf⟩ := if_in hf
                      refine tM_21 S hK hP hD hS h118 dX10_findWorst_118 (fun H locs hP hD hS => ?_)
                      have J145 : ∀ (v2_j145 : Int32) (v4_j145 : Int32) (v5_j145 : Int32) (v6_j145 : Int32) (v7_j145 : Int32) (s0_j145 : Int32) (s1_j145 : Int32) (σj145 : St) (H : Heap) (locs : List Loc) (ls : Array Slot), fX10_findWorst_J145 (fun σ13' v2_13' v3_13' => fX10_findWorst_13 (fX10_findWorst_13_k v1_j12) v1_j12 n13 σ13' v2_13' v3_13') (fun σ34' v2_34' v4_34' => fX10_findWorst_34 (fun σ13' v2_13' v3_13' => fX10_findWorst_13 (fX10_findWorst_13_k v1_j12) v1_j12 n13 σ13' v2_13' v3_13') (fX10_findWorst_34_k (fun σ13' v2_13' v3_13' => fX10_findWorst_13 (fX10_findWorst_13_k v1_j12) v1_j12 n13 σ13' v2_13' v3_13') v1_j12 v3_j32) v1_j12 v3_j32 n34 σ34' v2_34' v4_34') σj145 v1_j12 v2_j145 v3_j32 v4_j145 v5_j145 v6_j145 v7_j145 s0_j145 s1_j145 = some q → va_P D vwCl (wM cy ad aw ac σj145) H → va_D A (wM cy ad aw ac σj145) → va_S A s.heap H locs → lv_has ls 9 [(0, .ref (ad 0)), (1, .int v1_j12), (2, .int v2_j145), (3, .int v3_j32), (4, .int v4_j145), (5, .int v5_j145), (6, .int v6_j145), (7, .int v7_j145)] → W p l e (Rm 4 91 0 0) s m [.ref (ad 0), .int v1].toArray below meth c H locs 0 0 (Zi D (wM cy ad) A q.1 q.2 aw ac below [.ref (ad 0), .int v1].toArray s 0 0) (F0 m 145 ls [.int s0_j145, .int s1_j145, .ref (ad 21)]) := by
                        intro v2_j145 v4_j145 v5_j145 v6_j145 v7_j145 s0_j145 s1_j145 σj145 H locs ls hf hP hD hS hl
                        unfold fX10_findWorst_J145 at hf
                        obtain ⟨h145, hf⟩ := if_in hf
                        refine tM_21 S hK hP hD hS h145 dX10_findWorst_145 (fun H locs hP hD hS => ?_)
                        refine lv_aload_n hx hb dX10_findWorst_146 rfl (lv_at hl 0 rfl) ?_
                        obtain ⟨q147, h147, hf⟩ := ob_some hf
                        refine u_calli0 (u_runV (rest := []) S (c_X10_layAll l D cy ad (sa σj145 21 s1_j145.toNatClampNeg (vp_nar .boolean s0_j145)) q147 h147 aw ac H.size) iX10_layAll vX10_layAll q1369 ⟨Nat.le_of_ble_eq_true rfl, Nat.le_of_ble_eq_true rfl⟩ hK hP hD (q0 := 0) rfl rfl rfl hl.1 (Nat.le_of_ble_eq_true rfl) dX10_findWorst_147 ⟨Nat.le_refl _, Nat.le_refl _⟩) hD hS hA (fun H locs hP hD hS => ?_)
                        refine lv_istore (lv' := [(8, .int q147.1), (0, .ref (ad 0)), (1, .int v1_j12), (2, .int v2_j145), (3, .int v3_j32), (4, .int v4_j145), (5, .int v5_j145), (6, .int v6_j145), (7, .int v7_j145)]) hx hb dX10_findWorst_150 hl (by decide) rfl (fun ls hl => ?_)
                        refine lv_aload_n hx hb dX10_findWorst_152 rfl (lv_at hl 1 rfl) ?_
                        refine gM_m_isFrost S hK hP q982 dX10_findWorst_153 ?_
                        refine lv_iload hx hb dX10_findWorst_156 (lv_at hl 5 rfl) ?_
                        refine lv_iload hx hb dX10_findWorst_158 (lv_at hl 8 rfl) ?_
                        obtain ⟨h160, hf⟩ := if_in hf
                        refine tM_21 S hK hP hD hS h160 dX10_findWorst_160 (fun H locs hP hD hS => ?_)
                        refine lv_aload_n hx hb dX10_findWorst_161 rfl (lv_at hl 1 rfl) ?_
                        refine gM_m_isFrost S hK hP q982 dX10_findWorst_162 ?_
                        refine lv_iload_n hx hb dX10_findWorst_165 rfl (lv_at hl 4 rfl) ?_
                        refine lv_iload hx hb dX10_findWorst_166 (lv_at hl 7 rfl) ?_
                        obtain ⟨h168, hf⟩ := if_in hf
                        refine tM_21 S hK hP hD hS h168 dX10_findWorst_168 (fun H locs hP hD hS => ?_)
                        refine lv_iload hx hb dX10_findWorst_169 (lv_at hl 0 rfl) ?_
                        refine lv_iload_n hx hb dX10_findWorst_171 rfl (lv_at hl 3 rfl) ?_
                        refine lv_icmp_le (tgt := 189) hx hb dX10_findWorst_172 (by decide) (fun c172 => ?_) (fun c172 => ?_)
                        · have hf := ifp c172 hf
                          refine lv_iinc (v := (v4_j145 + (1 : Int32))) (lv' := [(4, .int (v4_j145 + (1 : Int32))), (8, .int q147.1), (0, .ref (ad 0)), (1, .int v1_j12), (2, .int v2_j145), (3, .int v3_j32), (5, .int v5_j145), (6, .int v6_j145), (7, .int v7_j145)]) hx hb dX10_findWorst_189 hl (k := 5) rfl rfl (by decide) rfl (fun ls hl => ?_)
                          refine lv_goto (tgt := 34) hx hb dX10_findWorst_192 (by decide) ?_
                          exact ih34 v2_j145 (v4_j145 + (1 : Int32)) (sa (sa q147.2 21 v4_j145.toNatClampNeg (vp_nar .boolean v7_j145)) 21 v3_j32.toNatClampNeg (vp_nar .boolean v6_j145)) H locs ls hf hP hD hS (lv_sub hl [2, 3, 4, 5, 0] rfl)
                        · have hf := ifn c172 hf
                          refine lv_iload hx hb dX10_findWorst_175 (lv_at hl 0 rfl) ?_
                          refine lv_istore_n (lv' := [(2, .int q147.1), (8, .int q147.1), (0, .ref (ad 0)), (1, .int v1_j12), (3, .int v3_j32), (4, .int v4_j145), (5, .int v5_j145), (6, .int v6_j145), (7, .int v7_j145)]) hx hb dX10_findWorst_177 rfl hl (by decide) rfl (fun ls hl => ?_)
                          refine lv_aload_n hx hb dX10_findWorst_178 rfl (lv_at hl 2 rfl) ?_
                          refine lv_iload_n hx hb dX10_findWorst_179 rfl (lv_at hl 4 rfl) ?_
                          refine pM_m_worstA S hK hP hD hS q987 dX10_findWorst_180 (fun H locs hP hD hS => ?_)
                          refine lv_aload_n hx hb dX10_findWorst_183 rfl (lv_at hl 2 rfl) ?_
                          refine lv_iload hx hb dX10_findWorst_184 (lv_at hl 5 rfl) ?_
                          refine pM_m_worstB S hK hP hD hS q988 dX10_findWorst_186 (fun H locs hP hD hS => ?_)
                          refine lv_iinc (v := (v4_j145 + (1 : Int32))) (lv' := [(4, .int (v4_j145 + (1 : Int32))), (2, .int q147.1), (8, .int q147.1), (0, .ref (ad 0)), (1, .int v1_j12), (3, .int v3_j32), (5, .int v5_j145), (6, .int v6_j145), (7, .int v7_j145)]) hx hb dX10_findWorst_189 hl (k := 5) rfl rfl (by decide) rfl (fun ls hl => ?_)
                          refine lv_goto (tgt := 34) hx hb dX10_findWorst_192 (by decide) ?_
                          exact ih34 q147.1 (v4_j145 + (1 : Int32)) (si (si (sa (sa q147.2 21 v4_j145.toNatClampNeg (vp_nar .boolean v7_j145)) 21 v3_j32.toNatClampNeg (vp_nar .boolean v6_j145)) 18 v3_j32) 19 v4_j145) H locs ls hf hP hD hS (lv_sub hl [3, 4, 1, 5, 0] rfl)
                      refine lv_aload_n hx hb dX10_findWorst_119 rfl (lv_at hl 0 rfl) ?_
                      refine gM_m_isFrost S hK hP q982 dX10_findWorst_120 ?_
                      refine lv_iload hx hb dX10_findWorst_123 (lv_at hl 4 rfl) ?_
                      refine lv_iload_n hx hb dX10_findWorst_125 rfl (lv_at hl 1 rfl) ?_
                      refine lv_iconst (v := (1 : Int32)) hx hb dX10_findWorst_126 (by decide) ?_
                      refine lv_icmp_gt (tgt := 140) hx hb dX10_findWorst_127 (by decide) (fun c127 => ?_) (fun c127 => ?_)
                      · have hf := ifp c127 hf
                        refine lv_iconst (v := (1 : Int32)) hx hb dX10_findWorst_140 (by decide) ?_
                        refine lv_goto (tgt := 145) hx hb dX10_findWorst_141 (by decide) ?_
                        exact J145 v2_j118 v4_j118 v5_j118 v6_j118 v7_j118 (1 : Int32) v4_j118 (sa σj118 21 s1_j118.toNatClampNeg (vp_nar .boolean s0_j118)) H locs ls hf hP hD hS (lv_sub hl [0, 1, 2, 3, 4, 5, 6, 7] rfl)
                      · have hf := ifn c127 hf
                        refine lv_aload_n hx hb dX10_findWorst_130 rfl (lv_at hl 0 rfl) ?_
                        refine gM_m_isFrost S hK hP q982 dX10_findWorst_131 ?_
                        refine lv_iload hx hb dX10_findWorst_134 (lv_at hl 4 rfl) ?_
                        obtain ⟨h136, hf⟩ := if_in hf
                        refine lM_21 S hK hP h136 dX10_findWorst_136 ?_
                        refine lv_if_eq (tgt := 144) hx hb dX10_findWorst_137 (by decide) (fun c137 => ?_) (fun c137 => ?_)
                        · have hf := ifp c137 hf
                          refine lv_iconst (v := (0 : Int32)) hx hb dX10_findWorst_144 (by decide) ?_
                          exact J145 v2_j118 v4_j118 v5_j118 v6_j118 v7_j118 (0 : Int32) v4_j118 (sa σj118 21 s1_j118.toNatClampNeg (vp_nar .boolean s0_j118)) H locs ls hf hP hD hS (lv_sub hl [0, 1, 2, 3, 4, 5, 6, 7] rfl)
                        · have hf := ifn c137 hf
                          refine lv_iconst (v := (1 : Int32)) hx hb dX10_findWorst_140 (by decide) ?_
                          refine lv_goto (tgt := 145) hx hb dX10_findWorst_141 (by decide) ?_
                          exact J145 v2_j118 v4_j118 v5_j118 v6_j118 v7_j118 (1 : Int32) v4_j118 (sa σj118 21 s1_j118.toNatClampNeg (vp_nar .boolean s0_j118)) H locs ls hf hP hD hS (lv_sub hl [0, 1, 2, 3, 4, 5, 6, 7] rfl)
                    refine lv_aload_n hx hb dX10_findWorst_99 rfl (lv_at hl 3 rfl) ?_
                    refine gM_m_isFrost S hK hP q982 dX10_findWorst_100 ?_
                    refine lv_iload_n hx hb dX10_findWorst_103 rfl (lv_at hl 6 rfl) ?_
                    refine lv_iload_n hx hb dX10_findWorst_104 rfl (lv_at hl 4 rfl) ?_
                    refine lv_if_gt (tgt := 113) hx hb dX10_findWorst_105 (by decide) (fun c105 => ?_) (fun c105 => ?_)
                    · have hf := ifp c105 hf
                      refine lv_iconst (v := (1 : Int32)) hx hb dX10_findWorst_113 (by decide) ?_
                      refine lv_goto (tgt := 118) hx hb dX10_findWorst_114 (by decide) ?_
                      exact J118 v2_j70 v4_j70 (1 : Int32) (ga σj70 21 v3_j32.toNatClampNeg) (ga σj70 21 v4_j70.toNatClampNeg) (1 : Int32) v3_j32 σj70 H locs ls hf hP hD hS (lv_sub hl [3, 4, 5, 6, 7, 2, 1, 0] rfl)
                    · have hf := ifn c105 hf
                      refine lv_iload hx hb dX10_findWorst_108 (lv_at hl 1 rfl) ?_
                      refine lv_if_eq (tgt := 117) hx hb dX10_findWorst_110 (by decide) (fun c110 => ?_) (fun c110 => ?_)
                      · have hf := ifp c110 hf
                        refine lv_iconst (v := (0 : Int32)) hx hb dX10_findWorst_117 (by decide) ?_
                        exact J118 v2_j70 v4_j70 (1 : Int32) (ga σj70 21 v3_j32.toNatClampNeg) (ga σj70 21 v4_j70.toNatClampNeg) (0 : Int32) v3_j32 σj70 H locs ls hf hP hD hS (lv_sub hl [3, 4, 5, 6, 7, 2, 1, 0] rfl)
                      · have hf := ifn c110 hf
                        refine lv_iconst (v := (1 : Int32)) hx hb dX10_findWorst_113 (by decide) ?_
                        refine lv_goto (tgt := 118) hx hb dX10_findWorst_114 (by decide) ?_
                        exact J118 v2_j70 v4_j70 (1 : Int32) (ga σj70 21 v3_j32.toNatClampNeg) (ga σj70 21 v4_j70.toNatClampNeg) (1 : Int32) v3_j32 σj70 H locs ls hf hP hD hS (lv_sub hl [3, 4, 5, 6, 7, 2, 1, 0] rfl)
                  refine lv_iload_n hx hb dX10_findWorst_41 rfl (lv_at hl 1 rfl) ?_
                  refine lv_iconst (v := (1 : Int32)) hx hb dX10_findWorst_42 (by decide) ?_
                  refine lv_icmp_lt (tgt := 55) hx hb dX10_findWorst_43 (by decide) (fun c43 => ?_) (fun c43 => ?_)
                  · have hf := ifp c43 hf
                    refine lv_iload_n hx hb dX10_findWorst_55 rfl (lv_at hl 1 rfl) ?_
                    refine lv_iconst (v := (2 : Int32)) hx hb dX10_findWorst_56 (by decide) ?_
                    refine lv_icmp_lt (tgt := 70) hx hb dX10_findWorst_57 (by decide) (fun c57 => ?_) (fun c57 => ?_)
                    · have hf := ifp c57 hf
                      exact J70 v2_34 v4_34 σ34 H locs ls hf hP hD hS (lv_sub hl [0, 1, 2, 3, 4] rfl)
                    · have hf := ifn c57 hf
                      refine lv_aload_n hx hb dX10_findWorst_60 rfl (lv_at hl 0 rfl) ?_
                      refine gM_m_isFrost S hK hP q982 dX10_findWorst_61 ?_
                      refine lv_iload hx hb dX10_findWorst_64 (lv_at hl 4 rfl) ?_
                      obtain ⟨h66, hf⟩ := if_in hf
                      refine lM_21 S hK hP h66 dX10_findWorst_66 ?_
                      refine lv_if_ne (tgt := 74) hx hb dX10_findWorst_67 (by decide) (fun c67 => ?_) (fun c67 => ?_)
                      · have hf := ifn c67 hf
                        refine lv_iconst (v := (0 : Int32)) hx hb dX10_findWorst_74 (by decide) ?_
                        refine lv_istore (lv' := [(5, .int (0 : Int32)), (0, .ref (ad 0)), (1, .int v1_j12), (2, .int v2_34), (3, .int v3_j32), (4, .int v4_34)]) hx hb dX10_findWorst_75 hl (by decide) rfl (fun ls hl => ?_)
                        refine lv_iload hx hb dX10_findWorst_77 (lv_at hl 0 rfl) ?_
                        refine lv_if_eq (tgt := 189) hx hb dX10_findWorst_79 (by decide) (fun _ => ?_) (fun c_ => absurd c_ (by decide))
                        refine lv_iinc (v := (v4_34 + (1 : Int32))) (lv' := [(4, .int (v4_34 + (1 : Int32))), (5, .int (0 : Int32)), (0, .ref (ad 0)), (1, .int v1_j12), (2, .int v2_34), (3, .int v3_j32)]) hx hb dX10_findWorst_189 hl (k := 5) rfl rfl (by decide) rfl (fun ls hl => ?_)
                        refine lv_goto (tgt := 34) hx hb dX10_findWorst_192 (by decide) ?_
                        exact ih34 v2_34 (v4_34 + (1 : Int32)) σ34 H locs ls hf hP hD hS (lv_sub hl [2, 3, 4, 5, 0] rfl)
                      · have hf := ifp c67 hf
                        exact J70 v2_34 v4_34 σ34 H locs ls hf hP hD hS (lv_sub hl [0, 1, 2, 3, 4] rfl)
                  · have hf := ifn c43 hf
                    refine lv_aload_n hx hb dX10_findWorst_46 rfl (lv_at hl 0 rfl) ?_
                    refine gM_m_isFrost S hK hP q982 dX10_findWorst_47 ?_
                    refine lv_iload_n hx hb dX10_findWorst_50 rfl (lv_at hl 3 rfl) ?_
                    obtain ⟨h51, hf⟩ := if_in hf
                    refine lM_21 S hK hP h51 dX10_findWorst_51 ?_
                    refine lv_if_ne (tgt := 74) hx hb dX10_findWorst_52 (by decide) (fun c52 => ?_) (fun c52 => ?_)
                    · have hf := ifn c52 hf
                      refine lv_iconst (v := (0 : Int32)) hx hb dX10_findWorst_74 (by decide) ?_
                      refine lv_istore (lv' := [(5, .int (0 : Int32)), (0, .ref (ad 0)), (1, .int v1_j12), (2, .int v2_34), (3, .int v3_j32), (4, .int v4_34)]) hx hb dX10_findWorst_75 hl (by decide) rfl (fun ls hl => ?_)
                      refine lv_iload hx hb dX10_findWorst_77 (lv_at hl 0 rfl) ?_
                      refine lv_if_eq (tgt := 189) hx hb dX10_findWorst_79 (by decide) (fun _ => ?_) (fun c_ => absurd c_ (by decide))
                      refine lv_iinc (v := (v4_34 + (1 : Int32))) (lv' := [(4, .int (v4_34 + (1 : Int32))), (5, .int (0 : Int32)), (0, .ref (ad 0)), (1, .int v1_j12), (2, .int v2_34), (3, .int v3_j32)]) hx hb dX10_findWorst_189 hl (k := 5) rfl rfl (by decide) rfl (fun ls hl => ?_)
                      refine lv_goto (tgt := 34) hx hb dX10_findWorst_192 (by decide) ?_
                      exact ih34 v2_34 (v4_34 + (1 : Int32)) σ34 H locs ls hf hP hD hS (lv_sub hl [2, 3, 4, 5, 0] rfl)
                    · have hf := ifp c52 hf
                      refine lv_iload_n hx hb dX10_findWorst_55 rfl (lv_at hl 1 rfl) ?_
                      refine lv_iconst (v := (2 : Int32)) hx hb dX10_findWorst_56 (by decide) ?_
                      refine lv_icmp_lt (tgt := 70) hx hb dX10_findWorst_57 (by decide) (fun c57 => ?_) (fun c57 => ?_)
                      · have hf := ifp c57 hf
                        exact J70 v2_34 v4_34 σ34 H locs ls hf hP hD hS (lv_sub hl [0, 1, 2, 3, 4] rfl)
                      · have hf := ifn c57 hf
                        refine lv_aload_n hx hb dX10_findWorst_60 rfl (lv_at hl 0 rfl) ?_
                        refine gM_m_isFrost S hK hP q982 dX10_findWorst_61 ?_
                        refine lv_iload hx hb dX10_findWorst_64 (lv_at hl 4 rfl) ?_
                        obtain ⟨h66, hf⟩ := if_in hf
                        refine lM_21 S hK hP h66 dX10_findWorst_66 ?_
                        refine lv_if_ne (tgt := 74) hx hb dX10_findWorst_67 (by decide) (fun c67 => ?_) (fun c67 => ?_)
                        · have hf := ifn c67 hf
                          refine lv_iconst (v := (0 : Int32)) hx hb dX10_findWorst_74 (by decide) ?_
                          refine lv_istore (lv' := [(5, .int (0 : Int32)), (0, .ref (ad 0)), (1, .int v1_j12), (2, .int v2_34), (3, .int v3_j32), (4, .int v4_34)]) hx hb dX10_findWorst_75 hl (by decide) rfl (fun ls hl => ?_)
                          refine lv_iload hx hb dX10_findWorst_77 (lv_at hl 0 rfl) ?_
                          refine lv_if_eq (tgt := 189) hx hb dX10_findWorst_79 (by decide) (fun _ => ?_) (fun c_ => absurd c_ (by decide))
                          refine lv_iinc (v := (v4_34 + (1 : Int32))) (lv' := [(4, .int (v4_34 + (1 : Int32))), (5, .int (0 : Int32)), (0, .ref (ad 0)), (1, .int v1_j12), (2, .int v2_34), (3, .int v3_j32)]) hx hb dX10_findWorst_189 hl (k := 5) rfl rfl (by decide) rfl (fun ls hl => ?_)
                          refine lv_goto (tgt := 34) hx hb dX10_findWorst_192 (by decide) ?_
                          exact ih34 v2_34 (v4_34 + (1 : Int32)) σ34 H locs ls hf hP hD hS (lv_sub hl [2, 3, 4, 5, 0] rfl)
                        · have hf := ifp c67 hf
                          exact J70 v2_34 v4_34 σ34 H locs ls hf hP hD hS (lv_sub hl [0, 1, 2, 3, 4] rfl)
            exact L34 KF v2_j32 s0_j32 σj32 H locs ls hf hP hD hS (lv_sub hl [1, 2, 3, 4, 0] rfl)
          refine lv_iload_n hx hb dX10_findWorst_19 rfl (lv_at hl 1 rfl) ?_
          refine lv_iconst (v := (1 : Int32)) hx hb dX10_findWorst_20 (by decide) ?_
          refine lv_icmp_le (tgt := 30) hx hb dX10_findWorst_21 (by decide) (fun c21 => ?_) (fun c21 => ?_)
          · have hf := ifp c21 hf
            refine lv_bipush (v := (59 : Int32)) hx hb dX10_findWorst_30 (by decide) ?_
            exact J32 v2_13 v3_13 (59 : Int32) σ13 H locs ls hf hP hD hS (lv_sub hl [0, 1, 2, 3] rfl)
          · have hf := ifn c21 hf
            refine lv_iload_n hx hb dX10_findWorst_24 rfl (lv_at hl 3 rfl) ?_
            refine lv_iconst (v := (1 : Int32)) hx hb dX10_findWorst_25 (by decide) ?_
            refine lv_iadd hx hb dX10_findWorst_26 ?_
            refine lv_goto (tgt := 32) hx hb dX10_findWorst_27 (by decide) ?_
            exact J32 v2_13 v3_13 (v3_13 + (1 : Int32)) σ13 H locs ls hf hP hD hS (lv_sub hl [0, 1, 2, 3] rfl)
    exact L13 KF v2_j12 s0_j12 σj12 H locs ls hf hP hD hS (lv_sub hl [1, 2, 3, 0] rfl)
  refine lv_iload_n hx hb dX10_findWorst_2 rfl (lv_at hl 2 rfl) ?_
  refine lv_if_le (tgt := 10) hx hb dX10_findWorst_3 (by decide) (fun c3 => ?_) (fun c3 => ?_)
  · have hf := ifp c3 hf
    refine lv_bipush (v := (59 : Int32)) hx hb dX10_findWorst_10 (by decide) ?_
    exact J12 v1 (-1 : Int32) (59 : Int32) σ H locs ls hf hP hD hS (lv_sub hl [1, 2, 0] rfl)
  · have hf := ifn c3 hf
    refine lv_iconst (v := (0 : Int32)) hx hb dX10_findWorst_6 (by decide) ?_
    refine lv_goto (tgt := 12) hx hb dX10_findWorst_7 (by decide) ?_
    exact J12 v1 (-1 : Int32) (0 : Int32) σ H locs ls hf hP hD hS (lv_sub hl [1, 2, 0] rfl)
theorem iX10_worst : YI yX10_worst cX10_worst 5 (some .int) 3 := ⟨q1388, q12, by decide, by decide, by decide +kernel⟩
theorem vX10_worst : YV yX10_worst := ⟨q1386, q1387⟩
set_option maxRecDepth 100000 in
set_option maxHeartbeats 4000000 in
theorem c_X10_worst (l : Launch) (D : va_G) (cy : Nat → ClassId) (ad : Nat → Nat) (σ : St) (v1 : Int32) (v2 : Int32) (v3 : Int32) (q : Int32 × St) (hf : fX10_worst σ v1 v2 v3 = some q) : Ci l D cy (wM cy ad) yX10_worst cX10_worst 5 .int 5 119 [.ref (ad 0), .int v1, .int v2, .int v3] σ q.1 q.2 0 0 := by
  refine Ci.enter (by decide) (Nat.le_of_ble_eq_true rfl) ?_
  intro aw ac p e s m below meth c A H locs S hr hlocks hA hK hP hD hS ls hl
  have hx := S.1
  have hb := S.2.1
  have hl : lv_has ls 5 [(0, .ref (ad 0)), (1, .int v1), (2, .int v2), (3, .int v3)] := hl
  unfold fX10_worst at hf
  refine lv_iload_n hx hb dX10_worst_0 rfl (lv_at hl 1 rfl) ?_
  refine lv_i2l (v := (v1).toInt64) hx hb dX10_worst_1 rfl ?_
  refine lv_lconst (v := (0 : Int64)) hx hb dX10_worst_2 (by decide) ?_
  refine lv_ldc2 hx hb S.2.2.2.1 (S.2.2.2.2 _ (List.mem_cons_of_mem _ q1389)) dX10_worst_3 ?_
  obtain ⟨r6, h6, hf⟩ := ob_some hf
  refine p_calli0 (u_runS (rest := []) S (c_X10_in l D cy σ ((v1).toInt64) (0 : Int64) (2 : Int64) r6 h6 aw ac H.size) iX10_in q1112 q1111 ⟨Nat.le_of_ble_eq_true rfl, Nat.le_of_ble_eq_true rfl⟩ hK wN_P (wN_D (A := fun _ => True)) rfl hl.1 (Nat.le_of_ble_eq_true rfl) dX10_worst_6 ⟨Nat.le_refl _, Nat.le_refl _⟩) hP hS hA (fun H locs hP hS => ?_)
  refine lv_if_eq (tgt := 31) hx hb dX10_worst_9 (by decide) (fun c9 => ?_) (fun c9 => ?_)
  · have hf := ifp c9 hf
    refine lv_bipush (v := (-2 : Int32)) hx hb dX10_worst_31 (by decide) ?_
    exact u_iretw hx hb hr hlocks rfl hP hD hS dX10_worst_33 hf (fun _ => rfl)
  · have hf := ifn c9 hf
    refine lv_iload_n hx hb dX10_worst_12 rfl (lv_at hl 2 rfl) ?_
    refine lv_i2l (v := (v2).toInt64) hx hb dX10_worst_13 rfl ?_
    refine lv_lconst (v := (0 : Int64)) hx hb dX10_worst_14 (by decide) ?_
    refine lv_lconst (v := (1 : Int64)) hx hb dX10_worst_15 (by decide) ?_
    obtain ⟨r16, h16, hf⟩ := ob_some hf
    refine p_calli0 (u_runS (rest := []) S (c_X10_in l D cy σ ((v2).toInt64) (0 : Int64) (1 : Int64) r16 h16 aw ac H.size) iX10_in q1112 q1111 ⟨Nat.le_of_ble_eq_true rfl, Nat.le_of_ble_eq_true rfl⟩ hK wN_P (wN_D (A := fun _ => True)) rfl hl.1 (Nat.le_of_ble_eq_true rfl) dX10_worst_16 ⟨Nat.le_refl _, Nat.le_refl _⟩) hP hS hA (fun H locs hP hS => ?_)
    refine lv_if_eq (tgt := 31) hx hb dX10_worst_19 (by decide) (fun c19 => ?_) (fun c19 => ?_)
    · have hf := ifp c19 hf
      refine lv_bipush (v := (-2 : Int32)) hx hb dX10_worst_31 (by decide) ?_
      exact u_iretw hx hb hr hlocks rfl hP hD hS dX10_worst_33 hf (fun _ => rfl)
    · have hf := ifn c19 hf
      refine lv_iload_n hx hb dX10_worst_22 rfl (lv_at hl 2 rfl) ?_
      refine lv_iconst (v := (1 : Int32)) hx hb dX10_worst_23 (by decide) ?_
      refine lv_icmp_ne (tgt := 34) hx hb dX10_worst_24 (by decide) (fun c24 => ?_) (fun c24 => ?_)
      · have hf := ifn c24 hf
        refine lv_aload_n hx hb dX10_worst_34 rfl (lv_at hl 0 rfl) ?_
        refine gM_m_stones S hK hP q961 dX10_worst_35 ?_
        refine lv_if_ne (tgt := 43) hx hb dX10_worst_38 (by decide) (fun c38 => ?_) (fun c38 => ?_)
        · have hf := ifn c38 hf
          refine lv_aload_n hx hb dX10_worst_43 rfl (lv_at hl 0 rfl) ?_
          obtain ⟨q44, h44, hf⟩ := ob_some hf
          refine u_callv0 (u_runV (rest := []) S (c_X10_findOrder l D cy ad σ q44 h44 aw ac H.size) iX10_findOrder vX10_findOrder q1365 ⟨Nat.le_of_ble_eq_true rfl, Nat.le_of_ble_eq_true rfl⟩ hK hP hD (q0 := 0) rfl rfl rfl hl.1 (Nat.le_of_ble_eq_true rfl) dX10_worst_44 ⟨Nat.le_refl _, Nat.le_refl _⟩) hD hS hA (fun H locs hP hD hS => ?_)
          refine lv_aload_n hx hb dX10_worst_47 rfl (lv_at hl 0 rfl) ?_
          refine lv_iload_n hx hb dX10_worst_48 rfl (lv_at hl 1 rfl) ?_
          obtain ⟨q49, h49, hf⟩ := ob_some hf
          refine u_calli0 (u_runV (rest := []) S (c_X10_findWorst l D cy ad q44 v1 q49 h49 aw ac H.size) iX10_findWorst vX10_findWorst q1390 ⟨Nat.le_of_ble_eq_true rfl, Nat.le_of_ble_eq_true rfl⟩ hK hP hD (q0 := 0) rfl rfl rfl hl.1 (Nat.le_of_ble_eq_true rfl) dX10_worst_49 ⟨Nat.le_refl _, Nat.le_refl _⟩) hD hS hA (fun H locs hP hD hS => ?_)
          refine lv_istore (lv' := [(4, .int q49.1), (0, .ref (ad 0)), (1, .int v1), (2, .int v2), (3, .int v3)]) hx hb dX10_worst_52 hl (by decide) rfl (fun ls hl => ?_)
          refine lv_iload_n hx hb dX10_worst_54 rfl (lv_at hl 3 rfl) ?_
          refine lv_if_eq (tgt := 63) hx hb dX10_worst_55 (by decide) (fun c55 => ?_) (fun c55 => ?_)
          · have hf := ifp c55 hf
            refine lv_iload hx hb dX10_worst_63 (lv_at hl 0 rfl) ?_
            exact u_iretw hx hb hr hlocks rfl hP hD hS dX10_worst_65 hf (fun _ => rfl)
          · have hf := ifn c55 hf
            refine lv_iload hx hb dX10_worst_58 (lv_at hl 0 rfl) ?_
            refine lv_if_ge (tgt := 66) hx hb dX10_worst_60 (by decide) (fun c60 => ?_) (fun c60 => ?_)
            · have hf := ifp c60 hf
              refine lv_iload_n hx hb dX10_worst_66 rfl (lv_at hl 4 rfl) ?_
              refine lv_iload_n hx hb dX10_worst_67 rfl (lv_at hl 2 rfl) ?_
              refine lv_icmp_lt (tgt := 75) hx hb dX10_worst_68 (by decide) (fun c68 => ?_) (fun c68 => ?_)
              · have hf := ifp c68 hf
                refine lv_iload_n hx hb dX10_worst_75 rfl (lv_at hl 4 rfl) ?_
                refine lv_if_ne (tgt := 86) hx hb dX10_worst_76 (by decide) (fun c76 => ?_) (fun c76 => ?_)
                · have hf := ifn c76 hf
                  refine lv_aload_n hx hb dX10_worst_86 rfl (lv_at hl 1 rfl) ?_
                  refine gM_m_worstB S hK hP q988 dX10_worst_87 ?_
                  exact u_iretw hx hb hr hlocks rfl hP hD hS dX10_worst_90 hf (fun _ => rfl)
                · have hf := ifp c76 hf
                  refine lv_aload_n hx hb dX10_worst_79 rfl (lv_at hl 1 rfl) ?_
                  refine gM_m_worstA S hK hP q987 dX10_worst_80 ?_
                  refine lv_goto (tgt := 90) hx hb dX10_worst_83 (by decide) ?_
                  exact u_iretw hx hb hr hlocks rfl hP hD hS dX10_worst_90 hf (fun _ => rfl)
              · have hf := ifn c68 hf
                refine lv_iconst (v := (-1 : Int32)) hx hb dX10_worst_71 (by decide) ?_
                refine lv_goto (tgt := 90) hx hb dX10_worst_72 (by decide) ?_
                exact u_iretw hx hb hr hlocks rfl hP hD hS dX10_worst_90 hf (fun _ => rfl)
            · have hf := ifn c60 hf
              refine lv_iload hx hb dX10_worst_63 (lv_at hl 0 rfl) ?_
              exact u_iretw hx hb hr hlocks rfl hP hD hS dX10_worst_65 hf (fun _ => rfl)
        · have hf := ifp c38 hf
          refine lv_iconst (v := (-1 : Int32)) hx hb dX10_worst_41 (by decide) ?_
          exact u_iretw hx hb hr hlocks rfl hP hD hS dX10_worst_42 hf (fun _ => rfl)
      · have hf := ifp c24 hf
        refine lv_iload_n hx hb dX10_worst_27 rfl (lv_at hl 3 rfl) ?_
        refine lv_if_ge (tgt := 34) hx hb dX10_worst_28 (by decide) (fun c28 => ?_) (fun c28 => ?_)
        · have hf := ifp c28 hf
          refine lv_aload_n hx hb dX10_worst_34 rfl (lv_at hl 0 rfl) ?_
          refine gM_m_stones S hK hP q961 dX10_worst_35 ?_
          refine lv_if_ne (tgt := 43) hx hb dX10_worst_38 (by decide) (fun c38 => ?_) (fun c38 => ?_)
          · have hf := ifn c38 hf
            refine lv_aload_n hx hb dX10_worst_43 rfl (lv_at hl 0 rfl) ?_
            obtain ⟨q44, h44, hf⟩ := ob_some hf
            refine u_callv0 (u_runV (rest := []) S (c_X10_findOrder l D cy ad σ q44 h44 aw ac H.size) iX10_findOrder vX10_findOrder q1365 ⟨Nat.le_of_ble_eq_true rfl, Nat.le_of_ble_eq_true rfl⟩ hK hP hD (q0 := 0) rfl rfl rfl hl.1 (Nat.le_of_ble_eq_true rfl) dX10_worst_44 ⟨Nat.le_refl _, Nat.le_refl _⟩) hD hS hA (fun H locs hP hD hS => ?_)
            refine lv_aload_n hx hb dX10_worst_47 rfl (lv_at hl 0 rfl) ?_
            refine lv_iload_n hx hb dX10_worst_48 rfl (lv_at hl 1 rfl) ?_
            obtain ⟨q49, h49, hf⟩ := ob_some hf
            refine u_calli0 (u_runV (rest := []) S (c_X10_findWorst l D cy ad q44 v1 q49 h49 aw ac H.size) iX10_findWorst vX10_findWorst q1390 ⟨Nat.le_of_ble_eq_true rfl, Nat.le_of_ble_eq_true rfl⟩ hK hP hD (q0 := 0) rfl rfl rfl hl.1 (Nat.le_of_ble_eq_true rfl) dX10_worst_49 ⟨Nat.le_refl _, Nat.le_refl _⟩) hD hS hA (fun H locs hP hD hS => ?_)
            refine lv_istore (lv' := [(4, .int q49.1), (0, .ref (ad 0)), (1, .int v1), (2, .int v2), (3, .int v3)]) hx hb dX10_worst_52 hl (by decide) rfl (fun ls hl => ?_)
            refine lv_iload_n hx hb dX10_worst_54 rfl (lv_at hl 3 rfl) ?_
            refine lv_if_eq (tgt := 63) hx hb dX10_worst_55 (by decide) (fun c55 => ?_) (fun c55 => ?_)
            · have hf := ifp c55 hf
              refine lv_iload hx hb dX10_worst_63 (lv_at hl 0 rfl) ?_
              exact u_iretw hx hb hr hlocks rfl hP hD hS dX10_worst_65 hf (fun _ => rfl)
            · have hf := ifn c55 hf
              refine lv_iload hx hb dX10_worst_58 (lv_at hl 0 rfl) ?_
              refine lv_if_ge (tgt := 66) hx hb dX10_worst_60 (by decide) (fun c60 => ?_) (fun c60 => ?_)
              · have hf := ifp c60 hf
                refine lv_iload_n hx hb dX10_worst_66 rfl (lv_at hl 4 rfl) ?_
                refine lv_iload_n hx hb dX10_worst_67 rfl (lv_at hl 2 rfl) ?_
                refine lv_icmp_lt (tgt := 75) hx hb dX10_worst_68 (by decide) (fun c68 => ?_) (fun c68 => ?_)
                · have hf := ifp c68 hf
                  refine lv_iload_n hx hb dX10_worst_75 rfl (lv_at hl 4 rfl) ?_
                  refine lv_if_ne (tgt := 86) hx hb dX10_worst_76 (by decide) (fun c76 => ?_) (fun c76 => ?_)
                  · have hf := ifn c76 hf
                    refine lv_aload_n hx hb dX10_worst_86 rfl (lv_at hl 1 rfl) ?_
                    refine gM_m_worstB S hK hP q988 dX10_worst_87 ?_
                    exact u_iretw hx hb hr hlocks rfl hP hD hS dX10_worst_90 hf (fun _ => rfl)
                  · have hf := ifp c76 hf
                    refine lv_aload_n hx hb dX10_worst_79 rfl (lv_at hl 1 rfl) ?_
                    refine gM_m_worstA S hK hP q987 dX10_worst_80 ?_
                    refine lv_goto (tgt := 90) hx hb dX10_worst_83 (by decide) ?_
                    exact u_iretw hx hb hr hlocks rfl hP hD hS dX10_worst_90 hf (fun _ => rfl)
                · have hf := ifn c68 hf
                  refine lv_iconst (v := (-1 : Int32)) hx hb dX10_worst_71 (by decide) ?_
                  refine lv_goto (tgt := 90) hx hb dX10_worst_72 (by decide) ?_
                  exact u_iretw hx hb hr hlocks rfl hP hD hS dX10_worst_90 hf (fun _ => rfl)
              · have hf := ifn c60 hf
                refine lv_iload hx hb dX10_worst_63 (lv_at hl 0 rfl) ?_
                exact u_iretw hx hb hr hlocks rfl hP hD hS dX10_worst_65 hf (fun _ => rfl)
          · have hf := ifp c38 hf
            refine lv_iconst (v := (-1 : Int32)) hx hb dX10_worst_41 (by decide) ?_
            exact u_iretw hx hb hr hlocks rfl hP hD hS dX10_worst_42 hf (fun _ => rfl)
        · have hf := ifn c28 hf
          refine lv_bipush (v := (-2 : Int32)) hx hb dX10_worst_31 (by decide) ?_
          exact u_iretw hx hb hr hlocks rfl hP hD hS dX10_worst_33 hf (fun _ => rfl)
