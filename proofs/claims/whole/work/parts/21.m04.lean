theorem iX4_makePlan : YI yX4_makePlan cX4_makePlan 3 none 0 := ⟨q652, q8, by decide, by decide, by decide +kernel⟩
theorem vX4_makePlan : YV yX4_makePlan := ⟨q651, qs6⟩
set_option maxRecDepth 100000 in
set_option maxHeartbeats 4000000 in
theorem c_X4_makePlan (l : Launch) (D : va_G) (cy : Nat → ClassId) (ad : Nat → Nat) (bw bc : Nat) (σ : St) (q : St) (hf : fX4_makePlan bw bc σ = some q) : Cv l D cy (wX cy ad) yX4_makePlan cX4_makePlan 3 4 93 [.ref (ad 7)] σ q 2 (bw + bc) := by
  refine Cv.enter (by decide) (Nat.le_of_ble_eq_true rfl) ?_
  intro aw0 ac0 p e s m below meth c A H locs S hr hlocks hA hK hP hD hS ls hl
  have hx := S.1
  have hb := S.2.1
  have hl : lv_has ls 3 [(0, .ref (ad 7))] := hl
  obtain ⟨aw, ac, hP, hD⟩ : ∃ aw ac : Nat, va_P D vwCl (wX cy ad aw ac σ) H ∧ va_D A (wX cy ad aw ac σ) := ⟨aw0, ac0, hP, hD⟩
  unfold fX4_makePlan at hf
  refine lv_aload_n hx hb dX4_makePlan_0 rfl (lv_at hl 0 rfl) ?_
  refine gX_planner_isPlanned S hK hP q207 dX4_makePlan_1 ?_
  refine lv_if_eq (tgt := 8) hx hb dX4_makePlan_4 (by decide) (fun c4 => ?_) (fun c4 => ?_)
  · have hf := ifp c4 hf
    refine lv_aload_n hx hb dX4_makePlan_8 rfl (lv_at hl 0 rfl) ?_
    obtain ⟨q9, h9, hf⟩ := ob_some hf
    refine u_callv (u_runV (rest := []) S (c_X4_countWays l D cy ad bw σ q9 h9 aw ac H.size) iX4_countWays vX4_countWays q631 ⟨Nat.le_of_ble_eq_true rfl, Nat.le_of_ble_eq_true rfl⟩ hK hP hD (q0 := 7) rfl rfl rfl hl.1 (Nat.le_of_ble_eq_true rfl) dX4_makePlan_9 ⟨by first | omega | (dsimp only [Rm]; omega), by first | omega | (dsimp only [Rm]; omega)⟩) hD hS hA (fun aw ac H locs _ hP hD hS => ?_)
    refine lv_aload_n hx hb dX4_makePlan_12 rfl (lv_at hl 0 rfl) ?_
    refine lv_iconst (v := (1 : Int32)) hx hb dX4_makePlan_13 (by decide) ?_
    refine pX_planner_isPlanned S hK hP hD hS rfl rfl q207 dX4_makePlan_14 (fun H locs hP hD hS => ?_)
    refine lv_aload_n hx hb dX4_makePlan_17 rfl (lv_at hl 0 rfl) ?_
    refine gX_planner_stones S hK hP q199 dX4_makePlan_18 ?_
    obtain ⟨r21, h21, hf⟩ := ob_some hf
    refine u_calli0 (u_runV (rest := []) S (c_X8_all l D cy ad (si q9 17 (1 : Int32)) r21 h21 aw ac H.size) iX8_all vX8_all q635 ⟨Nat.le_of_ble_eq_true rfl, Nat.le_of_ble_eq_true rfl⟩ hK hP hD (q0 := 5) rfl rfl rfl hl.1 (Nat.le_of_ble_eq_true rfl) dX4_makePlan_21 ⟨by first | omega | (dsimp only [Rm]; omega), by first | omega | (dsimp only [Rm]; omega)⟩) hD hS hA (fun H locs hP hD hS => ?_)
    refine lv_istore_n (lv' := [(1, .int r21), (0, .ref (ad 7))]) hx hb dX4_makePlan_24 rfl hl (by decide) rfl (fun ls hl => ?_)
    have J49 : ∀ (v1_j49 : Int32) (σj49 : St) (aw ac : Nat) (H : Heap) (locs : List Loc) (ls : Array Slot), fX4_makePlan_J49 bw bc σj49 v1_j49 = some q → va_P D vwCl (wX cy ad aw ac σj49) H → va_D A (wX cy ad aw ac σj49) → va_S A s.heap H locs → lv_has ls 3 [(0, .ref (ad 7)), (1, .int v1_j49)] → W p l e (Rm 4 93 2 (bw + bc)) s m [.ref (ad 7)].toArray below meth c H locs 2 (bw + bc) (Zv D (wX cy ad) A q aw0 ac0 below [.ref (ad 7)].toArray s 2 (bw + bc)) (F0 m 49 ls []) := by
      intro v1_j49 σj49 aw ac H locs ls hf hP hD hS hl
      unfold fX4_makePlan_J49 at hf
      refine lv_aload_n hx hb dX4_makePlan_49 rfl (lv_at hl 0 rfl) ?_
      obtain ⟨q50, h50, hf⟩ := ob_some hf
      refine u_callv0 (u_runV (rest := []) S (c_X4_findNear l D cy ad σj49 q50 h50 aw ac H.size) iX4_findNear vX4_findNear q653 ⟨Nat.le_of_ble_eq_true rfl, Nat.le_of_ble_eq_true rfl⟩ hK hP hD (q0 := 7) rfl rfl rfl hl.1 (Nat.le_of_ble_eq_true rfl) dX4_makePlan_50 ⟨by first | omega | (dsimp only [Rm]; omega), by first | omega | (dsimp only [Rm]; omega)⟩) hD hS hA (fun H locs hP hD hS => ?_)
      refine lv_iconst (v := (0 : Int32)) hx hb dX4_makePlan_53 (by decide) ?_
      refine lv_istore_n (lv' := [(2, .int (0 : Int32)), (0, .ref (ad 7)), (1, .int v1_j49)]) hx hb dX4_makePlan_54 rfl hl (by decide) rfl (fun ls hl => ?_)
      refine W.widen (k := 2) (n := bw + bc) (by first | omega | (dsimp only [Rm]; omega)) (by first | omega | (dsimp only [Rm]; omega)) ?_
      have L55 : ∀ (n55 : Nat) (v2_55 : Int32) (σ55 : St) (aw ac : Nat) (H : Heap) (locs : List Loc) (ls : Array Slot), fX4_makePlan_55 bw bc (fX4_makePlan_55_k bw bc v1_j49) v1_j49 n55 σ55 v2_55 = some q → va_P D vwCl (wX cy ad aw ac σ55) H → va_D A (wX cy ad aw ac σ55) → va_S A s.heap H locs → lv_has ls 3 [(0, .ref (ad 7)), (1, .int v1_j49), (2, .int v2_55)] → W p l e (Rm 4 93 2 (bw + bc)) s m [.ref (ad 7)].toArray below meth c H locs 2 (bw + bc) (Zv D (wX cy ad) A q aw0 ac0 below [.ref (ad 7)].toArray s 2 (bw + bc)) (F0 m 55 ls []) := by
        intro n55
        induction n55 with
        | zero =>
          intro v2_55 σ55 aw ac H locs ls hf
          cases hf
        | succ n55 ih55 =>
          intro v2_55 σ55 aw ac H locs ls hf hP hD hS hl
          rw [fX4_makePlan_55] at hf
          refine lv_iload_n hx hb dX4_makePlan_55 rfl (lv_at hl 2 rfl) ?_
          refine lv_aload_n hx hb dX4_makePlan_56 rfl (lv_at hl 0 rfl) ?_
          refine gX_planner_stands S hK hP q200 dX4_makePlan_57 ?_
          refine gX_stands_size S hK hP q172 dX4_makePlan_60 ?_
          refine lv_icmp_ge (tgt := 84) hx hb dX4_makePlan_63 (by decide) (fun c63 => ?_) (fun c63 => ?_)
          · have hf := ifp c63 hf
            have hl := lv_sub (l' := [(0, .ref (ad 7)), (1, .int v1_j49), (2, .int v2_55)]) hl [0, 1, 2] rfl
            unfold fX4_makePlan_55_k at hf
            refine lv_iload_n hx hb dX4_makePlan_84 rfl (lv_at hl 1 rfl) ?_
            refine lv_iconst (v := (1 : Int32)) hx hb dX4_makePlan_85 (by decide) ?_
            refine lv_isub hx hb dX4_makePlan_86 ?_
            refine lv_istore_n (lv' := [(2, .int (v1_j49 - (1 : Int32))), (0, .ref (ad 7)), (1, .int v1_j49)]) hx hb dX4_makePlan_87 rfl hl (by decide) rfl (fun ls hl => ?_)
            refine W.widen (k := 2) (n := bw + bc) (by first | omega | (dsimp only [Rm]; omega)) (by first | omega | (dsimp only [Rm]; omega)) ?_
            have L88 : ∀ (n88 : Nat) (v2_88 : Int32) (σ88 : St) (aw ac : Nat) (H : Heap) (locs : List Loc) (ls : Array Slot), fX4_makePlan_88 bw bc (fX4_makePlan_88_k bw bc v1_j49) v1_j49 n88 σ88 v2_88 = some q → va_P D vwCl (wX cy ad aw ac σ88) H → va_D A (wX cy ad aw ac σ88) → va_S A s.heap H locs → lv_has ls 3 [(0, .ref (ad 7)), (1, .int v1_j49), (2, .int v2_88)] → W p l e (Rm 4 93 2 (bw + bc)) s m [.ref (ad 7)].toArray below meth c H locs 2 (bw + bc) (Zv D (wX cy ad) A q aw0 ac0 below [.ref (ad 7)].toArray s 2 (bw + bc)) (F0 m 88 ls []) := by
              intro n88
              induction n88 with
              | zero =>
                intro v2_88 σ88 aw ac H locs ls hf
                cases hf
              | succ n88 ih88 =>
                intro v2_88 σ88 aw ac H locs ls hf hP hD hS hl
                rw [fX4_makePlan_88] at hf
                refine lv_iload_n hx hb dX4_makePlan_88 rfl (lv_at hl 2 rfl) ?_
                refine lv_if_lt (tgt := 119) hx hb dX4_makePlan_89 (by decide) (fun c89 => ?_) (fun c89 => ?_)
                · have hf := ifp c89 hf
                  have hl := lv_sub (l' := [(0, .ref (ad 7)), (1, .int v1_j49), (2, .int v2_88)]) hl [0, 1, 2] rfl
                  unfold fX4_makePlan_88_k at hf
                  refine lv_aload_n hx hb dX4_makePlan_119 rfl (lv_at hl 0 rfl) ?_
                  refine lv_iload_n hx hb dX4_makePlan_120 rfl (lv_at hl 1 rfl) ?_
                  obtain ⟨q121, h121, hf⟩ := ob_some hf
                  refine u_callv0 (u_runV (rest := []) S (c_X4_trace l D cy ad σ88 v1_j49 q121 h121 aw ac H.size) iX4_trace vX4_trace q688 ⟨Nat.le_of_ble_eq_true rfl, Nat.le_of_ble_eq_true rfl⟩ hK hP hD (q0 := 7) rfl rfl rfl hl.1 (Nat.le_of_ble_eq_true rfl) dX4_makePlan_121 ⟨by first | omega | (dsimp only [Rm]; omega), by first | omega | (dsimp only [Rm]; omega)⟩) hD hS hA (fun H locs hP hD hS => ?_)
                  refine W.widen (k := 2) (n := bw + bc) (by first | omega | (dsimp only [Rm]; omega)) (by first | omega | (dsimp only [Rm]; omega)) ?_
                  exact u_vretw hx hb hr hlocks hP hD hS dX4_makePlan_124 hf (fun h_ => absurd h_ (by decide))
                · have hf := ifn c89 hf
                  refine lv_aload_n hx hb dX4_makePlan_92 rfl (lv_at hl 0 rfl) ?_
                  refine gX_planner_ways S hK hP q201 dX4_makePlan_93 ?_
                  refine lv_iload_n hx hb dX4_makePlan_96 rfl (lv_at hl 2 rfl) ?_
                  obtain ⟨h97, hf⟩ := if_in hf
                  refine lX_32 S hK hP h97 dX4_makePlan_97 ?_
                  refine lv_lconst (v := (0 : Int64)) hx hb dX4_makePlan_98 (by decide) ?_
                  refine W.lcmp hx hb dX4_makePlan_99 ?_
                  refine lv_if_eq (tgt := 113) hx hb dX4_makePlan_100 (by decide) (fun c100 => ?_) (fun c100 => ?_)
                  · have c100 := (lg_cmp_eq _ _).mp c100
                    have hf := ifp c100 hf
                    refine lv_iinc (v := (v2_88 + (-1 : Int32))) (lv' := [(2, .int (v2_88 + (-1 : Int32))), (0, .ref (ad 7)), (1, .int v1_j49)]) hx hb dX4_makePlan_113 hl (k := 2) rfl rfl (by decide) rfl (fun ls hl => ?_)
                    refine lv_goto (tgt := 88) hx hb dX4_makePlan_116 (by decide) ?_
                    exact ih88 (v2_88 + (-1 : Int32)) σ88 aw ac H locs ls hf hP hD hS (lv_sub hl [1, 2, 0] rfl)
                  · have c100 := (not_congr (lg_cmp_eq _ _)).mp c100
                    have hf := ifn c100 hf
                    refine lv_aload_n hx hb dX4_makePlan_103 rfl (lv_at hl 0 rfl) ?_
                    refine lv_iload_n hx hb dX4_makePlan_104 rfl (lv_at hl 2 rfl) ?_
                    obtain ⟨q105, h105, hf⟩ := ob_some hf
                    refine u_callv0 (u_runV (rest := []) S (c_X4_priceByLaying l D cy ad σ88 v2_88 q105 h105 aw ac H.size) iX4_priceByLaying vX4_priceByLaying q662 ⟨Nat.le_of_ble_eq_true rfl, Nat.le_of_ble_eq_true rfl⟩ hK hP hD (q0 := 7) rfl rfl rfl hl.1 (Nat.le_of_ble_eq_true rfl) dX4_makePlan_105 ⟨by first | omega | (dsimp only [Rm]; omega), by first | omega | (dsimp only [Rm]; omega)⟩) hD hS hA (fun H locs hP hD hS => ?_)
                    refine lv_aload_n hx hb dX4_makePlan_108 rfl (lv_at hl 0 rfl) ?_
                    refine lv_iload_n hx hb dX4_makePlan_109 rfl (lv_at hl 2 rfl) ?_
                    obtain ⟨q110, h110, hf⟩ := ob_some hf
                    refine u_callv0 (u_runV (rest := []) S (c_X4_priceByShifting l D cy ad q105 v2_88 q110 h110 aw ac H.size) iX4_priceByShifting vX4_priceByShifting q676 ⟨Nat.le_of_ble_eq_true rfl, Nat.le_of_ble_eq_true rfl⟩ hK hP hD (q0 := 7) rfl rfl rfl hl.1 (Nat.le_of_ble_eq_true rfl) dX4_makePlan_110 ⟨by first | omega | (dsimp only [Rm]; omega), by first | omega | (dsimp only [Rm]; omega)⟩) hD hS hA (fun H locs hP hD hS => ?_)
                    refine lv_iinc (v := (v2_88 + (-1 : Int32))) (lv' := [(2, .int (v2_88 + (-1 : Int32))), (0, .ref (ad 7)), (1, .int v1_j49)]) hx hb dX4_makePlan_113 hl (k := 2) rfl rfl (by decide) rfl (fun ls hl => ?_)
                    refine lv_goto (tgt := 88) hx hb dX4_makePlan_116 (by decide) ?_
                    exact ih88 (v2_88 + (-1 : Int32)) q110 aw ac H locs ls hf hP hD hS (lv_sub hl [1, 2, 0] rfl)
            exact L88 KF (v1_j49 - (1 : Int32)) σ55 aw ac H locs ls hf hP hD hS (lv_sub hl [1, 2, 0] rfl)
          · have hf := ifn c63 hf
            refine lv_aload_n hx hb dX4_makePlan_66 rfl (lv_at hl 0 rfl) ?_
            refine gX_planner_costs S hK hP q202 dX4_makePlan_67 ?_
            refine lv_aload_n hx hb dX4_makePlan_70 rfl (lv_at hl 0 rfl) ?_
            refine lv_iload_n hx hb dX4_makePlan_71 rfl (lv_at hl 1 rfl) ?_
            refine lv_iload_n hx hb dX4_makePlan_72 rfl (lv_at hl 2 rfl) ?_
            obtain ⟨r73, h73, hf⟩ := ob_some hf
            refine u_calli0 (u_runV (rest := [.ref ac]) S (c_X4_place l D cy ad σ55 v1_j49 v2_55 r73 h73 aw ac H.size) iX4_place vX4_place q658 ⟨Nat.le_of_ble_eq_true rfl, Nat.le_of_ble_eq_true rfl⟩ hK hP hD (q0 := 7) rfl rfl rfl hl.1 (Nat.le_of_ble_eq_true rfl) dX4_makePlan_73 ⟨by first | omega | (dsimp only [Rm]; omega), by first | omega | (dsimp only [Rm]; omega)⟩) hD hS hA (fun H locs hP hD hS => ?_)
            refine lv_iconst (v := (0 : Int32)) hx hb dX4_makePlan_76 (by decide) ?_
            obtain ⟨h77, hf⟩ := if_in hf
            refine tX_33 S hK hP hD hS h77 dX4_makePlan_77 (fun H locs hP hD hS => ?_)
            refine lv_iinc (v := (v2_55 + (1 : Int32))) (lv' := [(2, .int (v2_55 + (1 : Int32))), (0, .ref (ad 7)), (1, .int v1_j49)]) hx hb dX4_makePlan_78 hl (k := 2) rfl rfl (by decide) rfl (fun ls hl => ?_)
            refine lv_goto (tgt := 55) hx hb dX4_makePlan_81 (by decide) ?_
            exact ih55 (v2_55 + (1 : Int32)) (sa σ55 33 r73.toNatClampNeg (0 : Int32)) aw ac H locs ls hf hP hD hS (lv_sub hl [1, 2, 0] rfl)
      exact L55 KF (0 : Int32) q50 aw ac H locs ls hf hP hD hS (lv_sub hl [1, 2, 0] rfl)
    refine lv_aload_n hx hb dX4_makePlan_25 rfl (lv_at hl 1 rfl) ?_
    refine gX_planner_costs S hK hP q202 dX4_makePlan_26 ?_
    refine nX_33 S hK hP dX4_makePlan_29 ?_
    refine lv_iload_n hx hb dX4_makePlan_30 rfl (lv_at hl 0 rfl) ?_
    refine lv_iconst (v := (1 : Int32)) hx hb dX4_makePlan_31 (by decide) ?_
    refine lv_iadd hx hb dX4_makePlan_32 ?_
    refine lv_iconst (v := (5 : Int32)) hx hb dX4_makePlan_33 (by decide) ?_
    refine lv_imul hx hb dX4_makePlan_34 ?_
    refine lv_icmp_ge (tgt := 49) hx hb dX4_makePlan_35 (by decide) (fun c35 => ?_) (fun c35 => ?_)
    · have hf := ifp c35 hf
      refine W.widen (k := 2) (n := bw + bc) (by first | omega | (dsimp only [Rm]; omega)) (by first | omega | (dsimp only [Rm]; omega)) ?_
      exact J49 r21 (si q9 17 (1 : Int32)) aw ac H locs ls hf hP hD hS (lv_sub hl [1, 0] rfl)
    · have hf := ifn c35 hf
      refine lv_aload_n hx hb dX4_makePlan_38 rfl (lv_at hl 1 rfl) ?_
      refine lv_iload_n hx hb dX4_makePlan_39 rfl (lv_at hl 0 rfl) ?_
      refine lv_iconst (v := (1 : Int32)) hx hb dX4_makePlan_40 (by decide) ?_
      refine lv_iadd hx hb dX4_makePlan_41 ?_
      refine lv_iconst (v := (5 : Int32)) hx hb dX4_makePlan_42 (by decide) ?_
      refine lv_imul hx hb dX4_makePlan_43 ?_
      obtain ⟨h44, hf⟩ := ifs hf
      refine nX_costs S hK hP hD hS hA h44.1 (by first | omega | (dsimp only [Rm]; omega)) (by have := h44.2; dsimp only [Rm]; omega) (by have := h44.2; omega) q202 dX4_makePlan_44 dX4_makePlan_46 (fun ac H locs hP hD hS => ?_)
      refine W.widen (k := 2) (n := bw + bc) (by first | omega | (dsimp only [Rm]; omega)) (by first | omega | (dsimp only [Rm]; omega)) ?_
      exact J49 r21 (sn (saf (si q9 17 (1 : Int32)) 33 (fun _ => 0)) 33 ((r21 + (1 : Int32)) * (5 : Int32)).toNatClampNeg) aw ac H locs ls hf hP hD hS (lv_sub hl [1, 0] rfl)
  · have hf := ifn c4 hf
    refine W.widen (k := 2) (n := bw + bc) (by first | omega | (dsimp only [Rm]; omega)) (by first | omega | (dsimp only [Rm]; omega)) ?_
    exact u_vretw hx hb hr hlocks hP hD hS dX4_makePlan_7 hf (fun h_ => absurd h_ (by decide))
theorem iX4_leastPrice : YI yX4_leastPrice cX4_leastPrice 1 (some .int) 0 := ⟨q648, q8, by decide, by decide, by decide +kernel⟩
theorem vX4_leastPrice : YV yX4_leastPrice := ⟨q646, q647⟩
set_option maxRecDepth 100000 in
set_option maxHeartbeats 4000000 in
theorem c_X4_leastPrice (l : Launch) (D : va_G) (cy : Nat → ClassId) (ad : Nat → Nat) (bw bc : Nat) (σ : St) (q : Int32 × St) (hf : fX4_leastPrice bw bc σ = some q) : Ci l D cy (wX cy ad) yX4_leastPrice cX4_leastPrice 1 .int 5 115 [.ref (ad 7)] σ q.1 q.2 2 (bw + bc) := by
  refine Ci.enter (by decide) (Nat.le_of_ble_eq_true rfl) ?_
  intro aw0 ac0 p e s m below meth c A H locs S hr hlocks hA hK hP hD hS ls hl
  have hx := S.1
  have hb := S.2.1
  have hl : lv_has ls 1 [(0, .ref (ad 7))] := hl
  obtain ⟨aw, ac, hP, hD⟩ : ∃ aw ac : Nat, va_P D vwCl (wX cy ad aw ac σ) H ∧ va_D A (wX cy ad aw ac σ) := ⟨aw0, ac0, hP, hD⟩
  unfold fX4_leastPrice at hf
  refine lv_aload_n hx hb dX4_leastPrice_0 rfl (lv_at hl 0 rfl) ?_
  obtain ⟨q1, h1, hf⟩ := ob_some hf
  refine u_callv (u_runV (rest := []) S (c_X4_makePlan l D cy ad bw bc σ q1 h1 aw ac H.size) iX4_makePlan vX4_makePlan q649 ⟨Nat.le_of_ble_eq_true rfl, Nat.le_of_ble_eq_true rfl⟩ hK hP hD (q0 := 7) rfl rfl rfl hl.1 (Nat.le_of_ble_eq_true rfl) dX4_leastPrice_1 ⟨by first | omega | (dsimp only [Rm]; omega), by first | omega | (dsimp only [Rm]; omega)⟩) hD hS hA (fun aw ac H locs _ hP hD hS => ?_)
  refine lv_aload_n hx hb dX4_leastPrice_4 rfl (lv_at hl 0 rfl) ?_
  refine gX_planner_costs S hK hP q202 dX4_leastPrice_5 ?_
  refine lv_iconst (v := (0 : Int32)) hx hb dX4_leastPrice_8 (by decide) ?_
  obtain ⟨h9, hf⟩ := if_in hf
  refine lX_33 S hK hP h9 dX4_leastPrice_9 ?_
  refine lv_ldc hx hb S.2.2.2.1 (S.2.2.2.2 _ (List.mem_cons_of_mem _ q674)) dX4_leastPrice_10 ?_
  refine lv_icmp_lt (tgt := 19) hx hb dX4_leastPrice_12 (by decide) (fun c12 => ?_) (fun c12 => ?_)
  · have hf := ifp c12 hf
    refine lv_aload_n hx hb dX4_leastPrice_19 rfl (lv_at hl 0 rfl) ?_
    refine gX_planner_costs S hK hP q202 dX4_leastPrice_20 ?_
    refine lv_iconst (v := (0 : Int32)) hx hb dX4_leastPrice_23 (by decide) ?_
    obtain ⟨h24, hf⟩ := if_in hf
    refine lX_33 S hK hP h24 dX4_leastPrice_24 ?_
    refine W.widen (k := 2) (n := bw + bc) (by first | omega | (dsimp only [Rm]; omega)) (by first | omega | (dsimp only [Rm]; omega)) ?_
    exact u_iretw hx hb hr hlocks rfl hP hD hS dX4_leastPrice_25 hf (fun h_ => absurd h_ (by decide))
  · have hf := ifn c12 hf
    refine lv_iconst (v := (-1 : Int32)) hx hb dX4_leastPrice_15 (by decide) ?_
    refine lv_goto (tgt := 25) hx hb dX4_leastPrice_16 (by decide) ?_
    refine W.widen (k := 2) (n := bw + bc) (by first | omega | (dsimp only [Rm]; omega)) (by first | omega | (dsimp only [Rm]; omega)) ?_
    exact u_iretw hx hb hr hlocks rfl hP hD hS dX4_leastPrice_25 hf (fun h_ => absurd h_ (by decide))
theorem iX4_actAt : YI yX4_actAt cX4_actAt 2 (some .int) 1 := ⟨q703, q8, by decide, by decide, by decide +kernel⟩
theorem vX4_actAt : YV yX4_actAt := ⟨q701, q702⟩
set_option maxRecDepth 100000 in
set_option maxHeartbeats 4000000 in
theorem c_X4_actAt (l : Launch) (D : va_G) (cy : Nat → ClassId) (ad : Nat → Nat) (bw bc : Nat) (σ : St) (v1 : Int32) (q : Int32 × St) (hf : fX4_actAt bw bc σ v1 = some q) : Ci l D cy (wX cy ad) yX4_actAt cX4_actAt 2 .int 5 115 [.ref (ad 7), .int v1] σ q.1 q.2 2 (bw + bc) := by
  refine Ci.enter (by decide) (Nat.le_of_ble_eq_true rfl) ?_
  intro aw0 ac0 p e s m below meth c A H locs S hr hlocks hA hK hP hD hS ls hl
  have hx := S.1
  have hb := S.2.1
  have hl : lv_has ls 2 [(0, .ref (ad 7)), (1, .int v1)] := hl
  obtain ⟨aw, ac, hP, hD⟩ : ∃ aw ac : Nat, va_P D vwCl (wX cy ad aw ac σ) H ∧ va_D A (wX cy ad aw ac σ) := ⟨aw0, ac0, hP, hD⟩
  unfold fX4_actAt at hf
  refine lv_aload_n hx hb dX4_actAt_0 rfl (lv_at hl 0 rfl) ?_
  obtain ⟨q1, h1, hf⟩ := ob_some hf
  refine u_callv (u_runV (rest := []) S (c_X4_makePlan l D cy ad bw bc σ q1 h1 aw ac H.size) iX4_makePlan vX4_makePlan q649 ⟨Nat.le_of_ble_eq_true rfl, Nat.le_of_ble_eq_true rfl⟩ hK hP hD (q0 := 7) rfl rfl rfl hl.1 (Nat.le_of_ble_eq_true rfl) dX4_actAt_1 ⟨by first | omega | (dsimp only [Rm]; omega), by first | omega | (dsimp only [Rm]; omega)⟩) hD hS hA (fun aw ac H locs _ hP hD hS => ?_)
  refine lv_iload_n hx hb dX4_actAt_4 rfl (lv_at hl 1 rfl) ?_
  refine lv_if_lt (tgt := 25) hx hb dX4_actAt_5 (by decide) (fun c5 => ?_) (fun c5 => ?_)
  · have hf := ifp c5 hf
    refine lv_iconst (v := (-1 : Int32)) hx hb dX4_actAt_25 (by decide) ?_
    refine W.widen (k := 2) (n := bw + bc) (by first | omega | (dsimp only [Rm]; omega)) (by first | omega | (dsimp only [Rm]; omega)) ?_
    exact u_iretw hx hb hr hlocks rfl hP hD hS dX4_actAt_26 hf (fun h_ => absurd h_ (by decide))
  · have hf := ifn c5 hf
    refine lv_iload_n hx hb dX4_actAt_8 rfl (lv_at hl 1 rfl) ?_
    refine lv_aload_n hx hb dX4_actAt_9 rfl (lv_at hl 0 rfl) ?_
    refine gX_planner_actCount S hK hP q205 dX4_actAt_10 ?_
    refine lv_icmp_ge (tgt := 25) hx hb dX4_actAt_13 (by decide) (fun c13 => ?_) (fun c13 => ?_)
    · have hf := ifp c13 hf
      refine lv_iconst (v := (-1 : Int32)) hx hb dX4_actAt_25 (by decide) ?_
      refine W.widen (k := 2) (n := bw + bc) (by first | omega | (dsimp only [Rm]; omega)) (by first | omega | (dsimp only [Rm]; omega)) ?_
      exact u_iretw hx hb hr hlocks rfl hP hD hS dX4_actAt_26 hf (fun h_ => absurd h_ (by decide))
    · have hf := ifn c13 hf
      refine lv_aload_n hx hb dX4_actAt_16 rfl (lv_at hl 0 rfl) ?_
      refine gX_planner_acts S hK hP q204 dX4_actAt_17 ?_
      refine lv_iload_n hx hb dX4_actAt_20 rfl (lv_at hl 1 rfl) ?_
      obtain ⟨h21, hf⟩ := if_in hf
      refine lX_35 S hK hP h21 dX4_actAt_21 ?_
      refine lv_goto (tgt := 26) hx hb dX4_actAt_22 (by decide) ?_
      refine W.widen (k := 2) (n := bw + bc) (by first | omega | (dsimp only [Rm]; omega)) (by first | omega | (dsimp only [Rm]; omega)) ?_
      exact u_iretw hx hb hr hlocks rfl hP hD hS dX4_actAt_26 hf (fun h_ => absurd h_ (by decide))
theorem iX4_orderInto : YI yX4_orderInto cX4_orderInto 5 none 1 := ⟨q727, q8, by decide, by decide, by decide +kernel⟩
theorem vX4_orderInto : YV yX4_orderInto := ⟨q725, q726⟩
set_option maxRecDepth 100000 in
set_option maxHeartbeats 4000000 in
theorem c_X4_orderInto (l : Launch) (D : va_G) (cy : Nat → ClassId) (ad : Nat → Nat) (bw bc : Nat) (σ : St) (q : St) (hf : fX4_orderInto bw bc σ = some q) : Cv l D cy (wX cy ad) yX4_orderInto cX4_orderInto 5 6 135 [.ref (ad 7), .ref (ad 39)] σ q 2 (bw + bc) := by
  refine Cv.enter (by decide) (Nat.le_of_ble_eq_true rfl) ?_
  intro aw0 ac0 p e s m below meth c A H locs S hr hlocks hA hK hP hD hS ls hl
  have hx := S.1
  have hb := S.2.1
  have hl : lv_has ls 5 [(0, .ref (ad 7)), (1, .ref (ad 39))] := hl
  obtain ⟨aw, ac, hP, hD⟩ : ∃ aw ac : Nat, va_P D vwCl (wX cy ad aw ac σ) H ∧ va_D A (wX cy ad aw ac σ) := ⟨aw0, ac0, hP, hD⟩
  unfold fX4_orderInto at hf
  refine lv_aload_n hx hb dX4_orderInto_0 rfl (lv_at hl 0 rfl) ?_
  refine gX_planner_stands S hK hP q200 dX4_orderInto_1 ?_
  refine gX_stands_size S hK hP q172 dX4_orderInto_4 ?_
  refine lv_if_le (tgt := 22) hx hb dX4_orderInto_7 (by decide) (fun c7 => ?_) (fun c7 => ?_)
  · have hf := ifp c7 hf
    refine lv_iconst (v := (0 : Int32)) hx hb dX4_orderInto_22 (by decide) ?_
    refine lv_istore_n (lv' := [(2, .int (0 : Int32)), (0, .ref (ad 7)), (1, .ref (ad 39))]) hx hb dX4_orderInto_23 rfl hl (by decide) rfl (fun ls hl => ?_)
    refine lv_iconst (v := (0 : Int32)) hx hb dX4_orderInto_24 (by decide) ?_
    refine lv_istore_n (lv' := [(3, .int (0 : Int32)), (2, .int (0 : Int32)), (0, .ref (ad 7)), (1, .ref (ad 39))]) hx hb dX4_orderInto_25 rfl hl (by decide) rfl (fun ls hl => ?_)
    refine lv_iconst (v := (0 : Int32)) hx hb dX4_orderInto_26 (by decide) ?_
    refine lv_istore (lv' := [(4, .int (0 : Int32)), (3, .int (0 : Int32)), (2, .int (0 : Int32)), (0, .ref (ad 7)), (1, .ref (ad 39))]) hx hb dX4_orderInto_27 hl (by decide) rfl (fun ls hl => ?_)
    refine W.widen (k := 2) (n := bw + bc) (by first | omega | (dsimp only [Rm]; omega)) (by first | omega | (dsimp only [Rm]; omega)) ?_
    have L29 : ∀ (n29 : Nat) (v2_29 : Int32) (v3_29 : Int32) (v4_29 : Int32) (σ29 : St) (aw ac : Nat) (H : Heap) (locs : List Loc) (ls : Array Slot), fX4_orderInto_29 bw bc (fX4_orderInto_29_k bw bc v2_29) v2_29 n29 σ29 v3_29 v4_29 = some q → va_P D vwCl (wX cy ad aw ac σ29) H → va_D A (wX cy ad aw ac σ29) → va_S A s.heap H locs → lv_has ls 5 [(0, .ref (ad 7)), (1, .ref (ad 39)), (2, .int v2_29), (3, .int v3_29), (4, .int v4_29)] → W p l e (Rm 6 135 2 (bw + bc)) s m [.ref (ad 7), .ref (ad 39)].toArray below meth c H locs 2 (bw + bc) (Zv D (wX cy ad) A q aw0 ac0 below [.ref (ad 7), .ref (ad 39)].toArray s 2 (bw + bc)) (F0 m 29 ls []) := by
      intro n29
      induction n29 with
      | zero =>
        intro v2_29 v3_29 v4_29 σ29 aw ac H locs ls hf
        cases hf
      | succ n29 ih29 =>
        intro v2_29 v3_29 v4_29 σ29 aw ac H locs ls hf hP hD hS hl
        rw [fX4_orderInto_29] at hf
        refine lv_iload_n hx hb dX4_orderInto_29 rfl (lv_at hl 2 rfl) ?_
        refine lv_if_eq (tgt := 79) hx hb dX4_orderInto_30 (by decide) (fun c30 => ?_) (fun c30 => ?_)
        · have hf := ifp c30 hf
          have hl := lv_sub (l' := [(0, .ref (ad 7)), (1, .ref (ad 39)), (2, .int v2_29), (3, .int v3_29), (4, .int v4_29)]) hl [0, 1, 2, 3, 4] rfl
          unfold fX4_orderInto_29_k at hf
          refine lv_iconst (v := (0 : Int32)) hx hb dX4_orderInto_79 (by decide) ?_
          refine lv_istore (lv' := [(4, .int (0 : Int32)), (0, .ref (ad 7)), (1, .ref (ad 39)), (2, .int v2_29), (3, .int v3_29)]) hx hb dX4_orderInto_80 hl (by decide) rfl (fun ls hl => ?_)
          refine W.widen (k := 2) (n := bw + bc) (by first | omega | (dsimp only [Rm]; omega)) (by first | omega | (dsimp only [Rm]; omega)) ?_
          have L82 : ∀ (n82 : Nat) (v4_82 : Int32) (σ82 : St) (aw ac : Nat) (H : Heap) (locs : List Loc) (ls : Array Slot), fX4_orderInto_82 bw bc (fX4_orderInto_82_k bw bc v2_29 v3_29) v2_29 v3_29 n82 σ82 v4_82 = some q → va_P D vwCl (wX cy ad aw ac σ82) H → va_D A (wX cy ad aw ac σ82) → va_S A s.heap H locs → lv_has ls 5 [(0, .ref (ad 7)), (1, .ref (ad 39)), (2, .int v2_29), (3, .int v3_29), (4, .int v4_82)] → W p l e (Rm 6 135 2 (bw + bc)) s m [.ref (ad 7), .ref (ad 39)].toArray below meth c H locs 2 (bw + bc) (Zv D (wX cy ad) A q aw0 ac0 below [.ref (ad 7), .ref (ad 39)].toArray s 2 (bw + bc)) (F0 m 82 ls []) := by
            intro n82
            induction n82 with
            | zero =>
              intro v4_82 σ82 aw ac H locs ls hf
              cases hf
            | succ n82 ih82 =>
              intro v4_82 σ82 aw ac H locs ls hf hP hD hS hl
              rw [fX4_orderInto_82] at hf
              refine lv_iload_n hx hb dX4_orderInto_82 rfl (lv_at hl 2 rfl) ?_
              refine lv_if_ne (tgt := 117) hx hb dX4_orderInto_83 (by decide) (fun c83 => ?_) (fun c83 => ?_)
              · have hf := ifn c83 hf
                have hl := lv_sub (l' := [(0, .ref (ad 7)), (1, .ref (ad 39)), (2, .int v2_29), (3, .int v3_29), (4, .int v4_82)]) hl [0, 1, 2, 3, 4] rfl
                unfold fX4_orderInto_82_k at hf
                refine W.widen (k := 2) (n := bw + bc) (by first | omega | (dsimp only [Rm]; omega)) (by first | omega | (dsimp only [Rm]; omega)) ?_
                exact u_vretw hx hb hr hlocks hP hD hS dX4_orderInto_117 hf (fun h_ => absurd h_ (by decide))
              · have hf := ifp c83 hf
                refine lv_iload hx hb dX4_orderInto_86 (lv_at hl 4 rfl) ?_
                refine lv_aload_n hx hb dX4_orderInto_88 rfl (lv_at hl 0 rfl) ?_
                refine gX_planner_stones S hK hP q199 dX4_orderInto_89 ?_
                refine gX_stones_size S hK hP q135 dX4_orderInto_92 ?_
                refine lv_icmp_ge (tgt := 117) hx hb dX4_orderInto_95 (by decide) (fun c95 => ?_) (fun c95 => ?_)
                · have hf := ifp c95 hf
                  have hl := lv_sub (l' := [(0, .ref (ad 7)), (1, .ref (ad 39)), (2, .int v2_29), (3, .int v3_29), (4, .int v4_82)]) hl [0, 1, 2, 3, 4] rfl
                  unfold fX4_orderInto_82_k at hf
                  refine W.widen (k := 2) (n := bw + bc) (by first | omega | (dsimp only [Rm]; omega)) (by first | omega | (dsimp only [Rm]; omega)) ?_
                  exact u_vretw hx hb hr hlocks hP hD hS dX4_orderInto_117 hf (fun h_ => absurd h_ (by decide))
                · have hf := ifn c95 hf
                  refine lv_iload hx hb dX4_orderInto_98 (lv_at hl 4 rfl) ?_
                  refine lv_aload_n hx hb dX4_orderInto_100 rfl (lv_at hl 1 rfl) ?_
                  refine nX_39 S hK hP dX4_orderInto_101 ?_
                  refine lv_icmp_ge (tgt := 117) hx hb dX4_orderInto_102 (by decide) (fun c102 => ?_) (fun c102 => ?_)
                  · have hf := ifp c102 hf
                    have hl := lv_sub (l' := [(0, .ref (ad 7)), (1, .ref (ad 39)), (2, .int v2_29), (3, .int v3_29), (4, .int v4_82)]) hl [0, 1, 2, 3, 4] rfl
                    unfold fX4_orderInto_82_k at hf
                    refine W.widen (k := 2) (n := bw + bc) (by first | omega | (dsimp only [Rm]; omega)) (by first | omega | (dsimp only [Rm]; omega)) ?_
                    exact u_vretw hx hb hr hlocks hP hD hS dX4_orderInto_117 hf (fun h_ => absurd h_ (by decide))
                  · have hf := ifn c102 hf
                    refine lv_aload_n hx hb dX4_orderInto_105 rfl (lv_at hl 1 rfl) ?_
                    refine lv_iload hx hb dX4_orderInto_106 (lv_at hl 4 rfl) ?_
                    refine lv_iload hx hb dX4_orderInto_108 (lv_at hl 4 rfl) ?_
                    obtain ⟨h110, hf⟩ := if_in hf
                    refine tX_39 S hK hP hD hS h110 dX4_orderInto_110 (fun H locs hP hD hS => ?_)
                    refine lv_iinc (v := (v4_82 + (1 : Int32))) (lv' := [(4, .int (v4_82 + (1 : Int32))), (0, .ref (ad 7)), (1, .ref (ad 39)), (2, .int v2_29), (3, .int v3_29)]) hx hb dX4_orderInto_111 hl (k := 4) rfl rfl (by decide) rfl (fun ls hl => ?_)
                    refine lv_goto (tgt := 82) hx hb dX4_orderInto_114 (by decide) ?_
                    exact ih82 (v4_82 + (1 : Int32)) (sa σ82 39 v4_82.toNatClampNeg v4_82) aw ac H locs ls hf hP hD hS (lv_sub hl [1, 2, 3, 4, 0] rfl)
          exact L82 KF (0 : Int32) σ29 aw ac H locs ls hf hP hD hS (lv_sub hl [1, 2, 3, 4, 0] rfl)
        · have hf := ifn c30 hf
          refine lv_iload hx hb dX4_orderInto_33 (lv_at hl 4 rfl) ?_
          refine lv_aload_n hx hb dX4_orderInto_35 rfl (lv_at hl 0 rfl) ?_
          refine gX_planner_actCount S hK hP q205 dX4_orderInto_36 ?_
          refine lv_icmp_ge (tgt := 79) hx hb dX4_orderInto_39 (by decide) (fun c39 => ?_) (fun c39 => ?_)
          · have hf := ifp c39 hf
            have hl := lv_sub (l' := [(0, .ref (ad 7)), (1, .ref (ad 39)), (2, .int v2_29), (3, .int v3_29), (4, .int v4_29)]) hl [0, 1, 2, 3, 4] rfl
            unfold fX4_orderInto_29_k at hf
            refine lv_iconst (v := (0 : Int32)) hx hb dX4_orderInto_79 (by decide) ?_
            refine lv_istore (lv' := [(4, .int (0 : Int32)), (0, .ref (ad 7)), (1, .ref (ad 39)), (2, .int v2_29), (3, .int v3_29)]) hx hb dX4_orderInto_80 hl (by decide) rfl (fun ls hl => ?_)
            refine W.widen (k := 2) (n := bw + bc) (by first | omega | (dsimp only [Rm]; omega)) (by first | omega | (dsimp only [Rm]; omega)) ?_
            have L82 : ∀ (n82 : Nat) (v4_82 : Int32) (σ82 : St) (aw ac : Nat) (H : Heap) (locs : List Loc) (ls : Array Slot), fX4_orderInto_82 bw bc (fX4_orderInto_82_k bw bc v2_29 v3_29) v2_29 v3_29 n82 σ82 v4_82 = some q → va_P D vwCl (wX cy ad aw ac σ82) H → va_D A (wX cy ad aw ac σ82) → va_S A s.heap H locs → lv_has ls 5 [(0, .ref (ad 7)), (1, .ref (ad 39)), (2, .int v2_29), (3, .int v3_29), (4, .int v4_82)] → W p l e (Rm 6 135 2 (bw + bc)) s m [.ref (ad 7), .ref (ad 39)].toArray below meth c H locs 2 (bw + bc) (Zv D (wX cy ad) A q aw0 ac0 below [.ref (ad 7), .ref (ad 39)].toArray s 2 (bw + bc)) (F0 m 82 ls []) := by
              intro n82
              induction n82 with
              | zero =>
                intro v4_82 σ82 aw ac H locs ls hf
                cases hf
              | succ n82 ih82 =>
                intro v4_82 σ82 aw ac H locs ls hf hP hD hS hl
                rw [fX4_orderInto_82] at hf
                refine lv_iload_n hx hb dX4_orderInto_82 rfl (lv_at hl 2 rfl) ?_
                refine lv_if_ne (tgt := 117) hx hb dX4_orderInto_83 (by decide) (fun c83 => ?_) (fun c83 => ?_)
                · have hf := ifn c83 hf
                  have hl := lv_sub (l' := [(0, .ref (ad 7)), (1, .ref (ad 39)), (2, .int v2_29), (3, .int v3_29), (4, .int v4_82)]) hl [0, 1, 2, 3, 4] rfl
                  unfold fX4_orderInto_82_k at hf
                  refine W.widen (k := 2) (n := bw + bc) (by first | omega | (dsimp only [Rm]; omega)) (by first | omega | (dsimp only [Rm]; omega)) ?_
                  exact u_vretw hx hb hr hlocks hP hD hS dX4_orderInto_117 hf (fun h_ => absurd h_ (by decide))
                · have hf := ifp c83 hf
                  refine lv_iload hx hb dX4_orderInto_86 (lv_at hl 4 rfl) ?_
                  refine lv_aload_n hx hb dX4_orderInto_88 rfl (lv_at hl 0 rfl) ?_
                  refine gX_planner_stones S hK hP q199 dX4_orderInto_89 ?_
                  refine gX_stones_size S hK hP q135 dX4_orderInto_92 ?_
                  refine lv_icmp_ge (tgt := 117) hx hb dX4_orderInto_95 (by decide) (fun c95 => ?_) (fun c95 => ?_)
                  · have hf := ifp c95 hf
                    have hl := lv_sub (l' := [(0, .ref (ad 7)), (1, .ref (ad 39)), (2, .int v2_29), (3, .int v3_29), (4, .int v4_82)]) hl [0, 1, 2, 3, 4] rfl
                    unfold fX4_orderInto_82_k at hf
                    refine W.widen (k := 2) (n := bw + bc) (by first | omega | (dsimp only [Rm]; omega)) (by first | omega | (dsimp only [Rm]; omega)) ?_
                    exact u_vretw hx hb hr hlocks hP hD hS dX4_orderInto_117 hf (fun h_ => absurd h_ (by decide))
                  · have hf := ifn c95 hf
                    refine lv_iload hx hb dX4_orderInto_98 (lv_at hl 4 rfl) ?_
                    refine lv_aload_n hx hb dX4_orderInto_100 rfl (lv_at hl 1 rfl) ?_
                    refine nX_39 S hK hP dX4_orderInto_101 ?_
                    refine lv_icmp_ge (tgt := 117) hx hb dX4_orderInto_102 (by decide) (fun c102 => ?_) (fun c102 => ?_)
                    · have hf := ifp c102 hf
                      have hl := lv_sub (l' := [(0, .ref (ad 7)), (1, .ref (ad 39)), (2, .int v2_29), (3, .int v3_29), (4, .int v4_82)]) hl [0, 1, 2, 3, 4] rfl
                      unfold fX4_orderInto_82_k at hf
                      refine W.widen (k := 2) (n := bw + bc) (by first | omega | (dsimp only [Rm]; omega)) (by first | omega | (dsimp only [Rm]; omega)) ?_
                      exact u_vretw hx hb hr hlocks hP hD hS dX4_orderInto_117 hf (fun h_ => absurd h_ (by decide))
                    · have hf := ifn c102 hf
                      refine lv_aload_n hx hb dX4_orderInto_105 rfl (lv_at hl 1 rfl) ?_
                      refine lv_iload hx hb dX4_orderInto_106 (lv_at hl 4 rfl) ?_
                      refine lv_iload hx hb dX4_orderInto_108 (lv_at hl 4 rfl) ?_
                      obtain ⟨h110, hf⟩ := if_in hf
                      refine tX_39 S hK hP hD hS h110 dX4_orderInto_110 (fun H locs hP hD hS => ?_)
                      refine lv_iinc (v := (v4_82 + (1 : Int32))) (lv' := [(4, .int (v4_82 + (1 : Int32))), (0, .ref (ad 7)), (1, .ref (ad 39)), (2, .int v2_29), (3, .int v3_29)]) hx hb dX4_orderInto_111 hl (k := 4) rfl rfl (by decide) rfl (fun ls hl => ?_)
                      refine lv_goto (tgt := 82) hx hb dX4_orderInto_114 (by decide) ?_
                      exact ih82 (v4_82 + (1 : Int32)) (sa σ82 39 v4_82.toNatClampNeg v4_82) aw ac H locs ls hf hP hD hS (lv_sub hl [1, 2, 3, 4, 0] rfl)
            exact L82 KF (0 : Int32) σ29 aw ac H locs ls hf hP hD hS (lv_sub hl [1, 2, 3, 4, 0] rfl)
          · have hf := ifn c39 hf
            refine lv_aload_n hx hb dX4_orderInto_42 rfl (lv_at hl 0 rfl) ?_
            refine gX_planner_acts S hK hP q204 dX4_orderInto_43 ?_
            refine lv_iload hx hb dX4_orderInto_46 (lv_at hl 4 rfl) ?_
            obtain ⟨h48, hf⟩ := if_in hf
            refine lX_35 S hK hP h48 dX4_orderInto_48 ?_
            refine lv_bipush (v := (100 : Int32)) hx hb dX4_orderInto_49 (by decide) ?_
            refine lv_icmp_ge (tgt := 73) hx hb dX4_orderInto_51 (by decide) (fun c51 => ?_) (fun c51 => ?_)
            · have hf := ifp c51 hf
              refine lv_iinc (v := (v4_29 + (1 : Int32))) (lv' := [(4, .int (v4_29 + (1 : Int32))), (0, .ref (ad 7)), (1, .ref (ad 39)), (2, .int v2_29), (3, .int v3_29)]) hx hb dX4_orderInto_73 hl (k := 4) rfl rfl (by decide) rfl (fun ls hl => ?_)
              refine lv_goto (tgt := 29) hx hb dX4_orderInto_76 (by decide) ?_
              exact ih29 v2_29 v3_29 (v4_29 + (1 : Int32)) σ29 aw ac H locs ls hf hP hD hS (lv_sub hl [1, 2, 3, 4, 0] rfl)
            · have hf := ifn c51 hf
              refine lv_iload_n hx hb dX4_orderInto_54 rfl (lv_at hl 3 rfl) ?_
              refine lv_aload_n hx hb dX4_orderInto_55 rfl (lv_at hl 1 rfl) ?_
              refine nX_39 S hK hP dX4_orderInto_56 ?_
              refine lv_icmp_ge (tgt := 73) hx hb dX4_orderInto_57 (by decide) (fun c57 => ?_) (fun c57 => ?_)
              · have hf := ifp c57 hf
                refine lv_iinc (v := (v4_29 + (1 : Int32))) (lv' := [(4, .int (v4_29 + (1 : Int32))), (0, .ref (ad 7)), (1, .ref (ad 39)), (2, .int v2_29), (3, .int v3_29)]) hx hb dX4_orderInto_73 hl (k := 4) rfl rfl (by decide) rfl (fun ls hl => ?_)
                refine lv_goto (tgt := 29) hx hb dX4_orderInto_76 (by decide) ?_
                exact ih29 v2_29 v3_29 (v4_29 + (1 : Int32)) σ29 aw ac H locs ls hf hP hD hS (lv_sub hl [1, 2, 3, 4, 0] rfl)
              · have hf := ifn c57 hf
                refine lv_aload_n hx hb dX4_orderInto_60 rfl (lv_at hl 1 rfl) ?_
                refine lv_iload_n hx hb dX4_orderInto_61 rfl (lv_at hl 3 rfl) ?_
                refine lv_aload_n hx hb dX4_orderInto_62 rfl (lv_at hl 0 rfl) ?_
                refine gX_planner_acts S hK hP q204 dX4_orderInto_63 ?_
                refine lv_iload hx hb dX4_orderInto_66 (lv_at hl 4 rfl) ?_
                obtain ⟨h68, hf⟩ := if_in hf
                refine lX_35 S hK hP h68 dX4_orderInto_68 ?_
                obtain ⟨h69, hf⟩ := if_in hf
                refine tX_39 S hK hP hD hS h69 dX4_orderInto_69 (fun H locs hP hD hS => ?_)
                refine lv_iinc (v := (v3_29 + (1 : Int32))) (lv' := [(3, .int (v3_29 + (1 : Int32))), (0, .ref (ad 7)), (1, .ref (ad 39)), (2, .int v2_29), (4, .int v4_29)]) hx hb dX4_orderInto_70 hl (k := 3) rfl rfl (by decide) rfl (fun ls hl => ?_)
                refine lv_iinc (v := (v4_29 + (1 : Int32))) (lv' := [(4, .int (v4_29 + (1 : Int32))), (3, .int (v3_29 + (1 : Int32))), (0, .ref (ad 7)), (1, .ref (ad 39)), (2, .int v2_29)]) hx hb dX4_orderInto_73 hl (k := 4) rfl rfl (by decide) rfl (fun ls hl => ?_)
                refine lv_goto (tgt := 29) hx hb dX4_orderInto_76 (by decide) ?_
                exact ih29 v2_29 (v3_29 + (1 : Int32)) (v4_29 + (1 : Int32)) (sa σ29 39 v3_29.toNatClampNeg (ga σ29 35 v4_29.toNatClampNeg)) aw ac H locs ls hf hP hD hS (lv_sub hl [2, 3, 4, 1, 0] rfl)
    exact L29 KF (0 : Int32) (0 : Int32) (0 : Int32) σ aw ac H locs ls hf hP hD hS (lv_sub hl [3, 4, 2, 1, 0] rfl)
  · have hf := ifn c7 hf
    refine lv_aload_n hx hb dX4_orderInto_10 rfl (lv_at hl 0 rfl) ?_
    obtain ⟨q11, h11, hf⟩ := ob_some hf
    refine u_calli (u_runV (rest := []) S (c_X4_leastPrice l D cy ad bw bc σ q11 h11 aw ac H.size) iX4_leastPrice vX4_leastPrice q728 ⟨Nat.le_of_ble_eq_true rfl, Nat.le_of_ble_eq_true rfl⟩ hK hP hD (q0 := 7) rfl rfl rfl hl.1 (Nat.le_of_ble_eq_true rfl) dX4_orderInto_11 ⟨by first | omega | (dsimp only [Rm]; omega), by first | omega | (dsimp only [Rm]; omega)⟩) hD hS hA (fun aw ac H locs _ hP hD hS => ?_)
    refine lv_iconst (v := (-1 : Int32)) hx hb dX4_orderInto_14 (by decide) ?_
    refine lv_icmp_eq (tgt := 22) hx hb dX4_orderInto_15 (by decide) (fun c15 => ?_) (fun c15 => ?_)
    · have hf := ifp c15 hf
      refine lv_iconst (v := (0 : Int32)) hx hb dX4_orderInto_22 (by decide) ?_
      refine lv_istore_n (lv' := [(2, .int (0 : Int32)), (0, .ref (ad 7)), (1, .ref (ad 39))]) hx hb dX4_orderInto_23 rfl hl (by decide) rfl (fun ls hl => ?_)
      refine lv_iconst (v := (0 : Int32)) hx hb dX4_orderInto_24 (by decide) ?_
      refine lv_istore_n (lv' := [(3, .int (0 : Int32)), (2, .int (0 : Int32)), (0, .ref (ad 7)), (1, .ref (ad 39))]) hx hb dX4_orderInto_25 rfl hl (by decide) rfl (fun ls hl => ?_)
      refine lv_iconst (v := (0 : Int32)) hx hb dX4_orderInto_26 (by decide) ?_
      refine lv_istore (lv' := [(4, .int (0 : Int32)), (3, .int (0 : Int32)), (2, .int (0 : Int32)), (0, .ref (ad 7)), (1, .ref (ad 39))]) hx hb dX4_orderInto_27 hl (by decide) rfl (fun ls hl => ?_)
      refine W.widen (k := 2) (n := bw + bc) (by first | omega | (dsimp only [Rm]; omega)) (by first | omega | (dsimp only [Rm]; omega)) ?_
      have L29 : ∀ (n29 : Nat) (v2_29 : Int32) (v3_29 : Int32) (v4_29 : Int32) (σ29 : St) (aw ac : Nat) (H : Heap) (locs : List Loc) (ls : Array Slot), fX4_orderInto_29 bw bc (fX4_orderInto_29_k bw bc v2_29) v2_29 n29 σ29 v3_29 v4_29 = some q → va_P D vwCl (wX cy ad aw ac σ29) H → va_D A (wX cy ad aw ac σ29) → va_S A s.heap H locs → lv_has ls 5 [(0, .ref (ad 7)), (1, .ref (ad 39)), (2, .int v2_29), (3, .int v3_29), (4, .int v4_29)] → W p l e (Rm 6 135 2 (bw + bc)) s m [.ref (ad 7), .ref (ad 39)].toArray below meth c H locs 2 (bw + bc) (Zv D (wX cy ad) A q aw0 ac0 below [.ref (ad 7), .ref (ad 39)].toArray s 2 (bw + bc)) (F0 m 29 ls []) := by
        intro n29
        induction n29 with
        | zero =>
          intro v2_29 v3_29 v4_29 σ29 aw ac H locs ls hf
          cases hf
        | succ n29 ih29 =>
          intro v2_29 v3_29 v4_29 σ29 aw ac H locs ls hf hP hD hS hl
          rw [fX4_orderInto_29] at hf
          refine lv_iload_n hx hb dX4_orderInto_29 rfl (lv_at hl 2 rfl) ?_
          refine lv_if_eq (tgt := 79) hx hb dX4_orderInto_30 (by decide) (fun c30 => ?_) (fun c30 => ?_)
          · have hf := ifp c30 hf
            have hl := lv_sub (l' := [(0, .ref (ad 7)), (1, .ref (ad 39)), (2, .int v2_29), (3, .int v3_29), (4, .int v4_29)]) hl [0, 1, 2, 3, 4] rfl
            unfold fX4_orderInto_29_k at hf
            refine lv_iconst (v := (0 : Int32)) hx hb dX4_orderInto_79 (by decide) ?_
            refine lv_istore (lv' := [(4, .int (0 : Int32)), (0, .ref (ad 7)), (1, .ref (ad 39)), (2, .int v2_29), (3, .int v3_29)]) hx hb dX4_orderInto_80 hl (by decide) rfl (fun ls hl => ?_)
            refine W.widen (k := 2) (n := bw + bc) (by first | omega | (dsimp only [Rm]; omega)) (by first | omega | (dsimp only [Rm]; omega)) ?_
            have L82 : ∀ (n82 : Nat) (v4_82 : Int32) (σ82 : St) (aw ac : Nat) (H : Heap) (locs : List Loc) (ls : Array Slot), fX4_orderInto_82 bw bc (fX4_orderInto_82_k bw bc v2_29 v3_29) v2_29 v3_29 n82 σ82 v4_82 = some q → va_P D vwCl (wX cy ad aw ac σ82) H → va_D A (wX cy ad aw ac σ82) → va_S A s.heap H locs → lv_has ls 5 [(0, .ref (ad 7)), (1, .ref (ad 39)), (2, .int v2_29), (3, .int v3_29), (4, .int v4_82)] → W p l e (Rm 6 135 2 (bw + bc)) s m [.ref (ad 7), .ref (ad 39)].toArray below meth c H locs 2 (bw + bc) (Zv D (wX cy ad) A q aw0 ac0 below [.ref (ad 7), .ref (ad 39)].toArray s 2 (bw + bc)) (F0 m 82 ls []) := by
              intro n82
              induction n82 with
              | zero =>
                intro v4_82 σ82 aw ac H locs ls hf
                cases hf
              | succ n82 ih82 =>
                intro v4_82 σ82 aw ac H locs ls hf hP hD hS hl
                rw [fX4_orderInto_82] at hf
                refine lv_iload_n hx hb dX4_orderInto_82 rfl (lv_at hl 2 rfl) ?_
                refine lv_if_ne (tgt := 117) hx hb dX4_orderInto_83 (by decide) (fun c83 => ?_) (fun c83 => ?_)
                · have hf := ifn c83 hf
                  have hl := lv_sub (l' := [(0, .ref (ad 7)), (1, .ref (ad 39)), (2, .int v2_29), (3, .int v3_29), (4, .int v4_82)]) hl [0, 1, 2, 3, 4] rfl
                  unfold fX4_orderInto_82_k at hf
                  refine W.widen (k := 2) (n := bw + bc) (by first | omega | (dsimp only [Rm]; omega)) (by first | omega | (dsimp only [Rm]; omega)) ?_
                  exact u_vretw hx hb hr hlocks hP hD hS dX4_orderInto_117 hf (fun h_ => absurd h_ (by decide))
                · have hf := ifp c83 hf
                  refine lv_iload hx hb dX4_orderInto_86 (lv_at hl 4 rfl) ?_
                  refine lv_aload_n hx hb dX4_orderInto_88 rfl (lv_at hl 0 rfl) ?_
                  refine gX_planner_stones S hK hP q199 dX4_orderInto_89 ?_
                  refine gX_stones_size S hK hP q135 dX4_orderInto_92 ?_
                  refine lv_icmp_ge (tgt := 117) hx hb dX4_orderInto_95 (by decide) (fun c95 => ?_) (fun c95 => ?_)
                  · have hf := ifp c95 hf
                    have hl := lv_sub (l' := [(0, .ref (ad 7)), (1, .ref (ad 39)), (2, .int v2_29), (3, .int v3_29), (4, .int v4_82)]) hl [0, 1, 2, 3, 4] rfl
                    unfold fX4_orderInto_82_k at hf
                    refine W.widen (k := 2) (n := bw + bc) (by first | omega | (dsimp only [Rm]; omega)) (by first | omega | (dsimp only [Rm]; omega)) ?_
                    exact u_vretw hx hb hr hlocks hP hD hS dX4_orderInto_117 hf (fun h_ => absurd h_ (by decide))
                  · have hf := ifn c95 hf
                    refine lv_iload hx hb dX4_orderInto_98 (lv_at hl 4 rfl) ?_
                    refine lv_aload_n hx hb dX4_orderInto_100 rfl (lv_at hl 1 rfl) ?_
                    refine nX_39 S hK hP dX4_orderInto_101 ?_
                    refine lv_icmp_ge (tgt := 117) hx hb dX4_orderInto_102 (by decide) (fun c102 => ?_) (fun c102 => ?_)
                    · have hf := ifp c102 hf
                      have hl := lv_sub (l' := [(0, .ref (ad 7)), (1, .ref (ad 39)), (2, .int v2_29), (3, .int v3_29), (4, .int v4_82)]) hl [0, 1, 2, 3, 4] rfl
                      unfold fX4_orderInto_82_k at hf
                      refine W.widen (k := 2) (n := bw + bc) (by first | omega | (dsimp only [Rm]; omega)) (by first | omega | (dsimp only [Rm]; omega)) ?_
                      exact u_vretw hx hb hr hlocks hP hD hS dX4_orderInto_117 hf (fun h_ => absurd h_ (by decide))
                    · have hf := ifn c102 hf
                      refine lv_aload_n hx hb dX4_orderInto_105 rfl (lv_at hl 1 rfl) ?_
                      refine lv_iload hx hb dX4_orderInto_106 (lv_at hl 4 rfl) ?_
                      refine lv_iload hx hb dX4_orderInto_108 (lv_at hl 4 rfl) ?_
                      obtain ⟨h110, hf⟩ := if_in hf
                      refine tX_39 S hK hP hD hS h110 dX4_orderInto_110 (fun H locs hP hD hS => ?_)
                      refine lv_iinc (v := (v4_82 + (1 : Int32))) (lv' := [(4, .int (v4_82 + (1 : Int32))), (0, .ref (ad 7)), (1, .ref (ad 39)), (2, .int v2_29), (3, .int v3_29)]) hx hb dX4_orderInto_111 hl (k := 4) rfl rfl (by decide) rfl (fun ls hl => ?_)
                      refine lv_goto (tgt := 82) hx hb dX4_orderInto_114 (by decide) ?_
                      exact ih82 (v4_82 + (1 : Int32)) (sa σ82 39 v4_82.toNatClampNeg v4_82) aw ac H locs ls hf hP hD hS (lv_sub hl [1, 2, 3, 4, 0] rfl)
            exact L82 KF (0 : Int32) σ29 aw ac H locs ls hf hP hD hS (lv_sub hl [1, 2, 3, 4, 0] rfl)
          · have hf := ifn c30 hf
            refine lv_iload hx hb dX4_orderInto_33 (lv_at hl 4 rfl) ?_
            refine lv_aload_n hx hb dX4_orderInto_35 rfl (lv_at hl 0 rfl) ?_
            refine gX_planner_actCount S hK hP q205 dX4_orderInto_36 ?_
            refine lv_icmp_ge (tgt := 79) hx hb dX4_orderInto_39 (by decide) (fun c39 => ?_) (fun c39 => ?_)
            · have hf := ifp c39 hf
              have hl := lv_sub (l' := [(0, .ref (ad 7)), (1, .ref (ad 39)), (2, .int v2_29), (3, .int v3_29), (4, .int v4_29)]) hl [0, 1, 2, 3, 4] rfl
              unfold fX4_orderInto_29_k at hf
              refine lv_iconst (v := (0 : Int32)) hx hb dX4_orderInto_79 (by decide) ?_
              refine lv_istore (lv' := [(4, .int (0 : Int32)), (0, .ref (ad 7)), (1, .ref (ad 39)), (2, .int v2_29), (3, .int v3_29)]) hx hb dX4_orderInto_80 hl (by decide) rfl (fun ls hl => ?_)
              refine W.widen (k := 2) (n := bw + bc) (by first | omega | (dsimp only [Rm]; omega)) (by first | omega | (dsimp only [Rm]; omega)) ?_
              have L82 : ∀ (n82 : Nat) (v4_82 : Int32) (σ82 : St) (aw ac : Nat) (H : Heap) (locs : List Loc) (ls : Array Slot), fX4_orderInto_82 bw bc (fX4_orderInto_82_k bw bc v2_29 v3_29) v2_29 v3_29 n82 σ82 v4_82 = some q → va_P D vwCl (wX cy ad aw ac σ82) H → va_D A (wX cy ad aw ac σ82) → va_S A s.heap H locs → lv_has ls 5 [(0, .ref (ad 7)), (1, .ref (ad 39)), (2, .int v2_29), (3, .int v3_29), (4, .int v4_82)] → W p l e (Rm 6 135 2 (bw + bc)) s m [.ref (ad 7), .ref (ad 39)].toArray below meth c H locs 2 (bw + bc) (Zv D (wX cy ad) A q aw0 ac0 below [.ref (ad 7), .ref (ad 39)].toArray s 2 (bw + bc)) (F0 m 82 ls []) := by
                intro n82
                induction n82 with
                | zero =>
                  intro v4_82 σ82 aw ac H locs ls hf
                  cases hf
                | succ n82 ih82 =>
                  intro v4_82 σ82 aw ac H locs ls hf hP hD hS hl
                  rw [fX4_orderInto_82] at hf
                  refine lv_iload_n hx hb dX4_orderInto_82 rfl (lv_at hl 2 rfl) ?_
                  refine lv_if_ne (tgt := 117) hx hb dX4_orderInto_83 (by decide) (fun c83 => ?_) (fun c83 => ?_)
                  · have hf := ifn c83 hf
                    have hl := lv_sub (l' := [(0, .ref (ad 7)), (1, .ref (ad 39)), (2, .int v2_29), (3, .int v3_29), (4, .int v4_82)]) hl [0, 1, 2, 3, 4] rfl
                    unfold fX4_orderInto_82_k at hf
                    refine W.widen (k := 2) (n := bw + bc) (by first | omega | (dsimp only [Rm]; omega)) (by first | omega | (dsimp only [Rm]; omega)) ?_
                    exact u_vretw hx hb hr hlocks hP hD hS dX4_orderInto_117 hf (fun h_ => absurd h_ (by decide))
                  · have hf := ifp c83 hf
                    refine lv_iload hx hb dX4_orderInto_86 (lv_at hl 4 rfl) ?_
                    refine lv_aload_n hx hb dX4_orderInto_88 rfl (lv_at hl 0 rfl) ?_
                    refine gX_planner_stones S hK hP q199 dX4_orderInto_89 ?_
                    refine gX_stones_size S hK hP q135 dX4_orderInto_92 ?_
                    refine lv_icmp_ge (tgt := 117) hx hb dX4_orderInto_95 (by decide) (fun c95 => ?_) (fun c95 => ?_)
                    · have hf := ifp c95 hf
                      have hl := lv_sub (l' := [(0, .ref (ad 7)), (1, .ref (ad 39)), (2, .int v2_29), (3, .int v3_29), (4, .int v4_82)]) hl [0, 1, 2, 3, 4] rfl
                      unfold fX4_orderInto_82_k at hf
                      refine W.widen (k := 2) (n := bw + bc) (by first | omega | (dsimp only [Rm]; omega)) (by first | omega | (dsimp only [Rm]; omega)) ?_
                      exact u_vretw hx hb hr hlocks hP hD hS dX4_orderInto_117 hf (fun h_ => absurd h_ (by decide))
                    · have hf := ifn c95 hf
                      refine lv_iload hx hb dX4_orderInto_98 (lv_at hl 4 rfl) ?_
                      refine lv_aload_n hx hb dX4_orderInto_100 rfl (lv_at hl 1 rfl) ?_
                      refine nX_39 S hK hP dX4_orderInto_101 ?_
                      refine lv_icmp_ge (tgt := 117) hx hb dX4_orderInto_102 (by decide) (fun c102 => ?_) (fun c102 => ?_)
                      · have hf := ifp c102 hf
                        have hl := lv_sub (l' := [(0, .ref (ad 7)), (1, .ref (ad 39)), (2, .int v2_29), (3, .int v3_29), (4, .int v4_82)]) hl [0, 1, 2, 3, 4] rfl
                        unfold fX4_orderInto_82_k at hf
                        refine W.widen (k := 2) (n := bw + bc) (by first | omega | (dsimp only [Rm]; omega)) (by first | omega | (dsimp only [Rm]; omega)) ?_
                        exact u_vretw hx hb hr hlocks hP hD hS dX4_orderInto_117 hf (fun h_ => absurd h_ (by decide))
                      · have hf := ifn c102 hf
                        refine lv_aload_n hx hb dX4_orderInto_105 rfl (lv_at hl 1 rfl) ?_
                        refine lv_iload hx hb dX4_orderInto_106 (lv_at hl 4 rfl) ?_
                        refine lv_iload hx hb dX4_orderInto_108 (lv_at hl 4 rfl) ?_
                        obtain ⟨h110, hf⟩ := if_in hf
                        refine tX_39 S hK hP hD hS h110 dX4_orderInto_110 (fun H locs hP hD hS => ?_)
                        refine lv_iinc (v := (v4_82 + (1 : Int32))) (lv' := [(4, .int (v4_82 + (1 : Int32))), (0, .ref (ad 7)), (1, .ref (ad 39)), (2, .int v2_29), (3, .int v3_29)]) hx hb dX4_orderInto_111 hl (k := 4) rfl rfl (by decide) rfl (fun ls hl => ?_)
                        refine lv_goto (tgt := 82) hx hb dX4_orderInto_114 (by decide) ?_
                        exact ih82 (v4_82 + (1 : Int32)) (sa σ82 39 v4_82.toNatClampNeg v4_82) aw ac H locs ls hf hP hD hS (lv_sub hl [1, 2, 3, 4, 0] rfl)
              exact L82 KF (0 : Int32) σ29 aw ac H locs ls hf hP hD hS (lv_sub hl [1, 2, 3, 4, 0] rfl)
            · have hf := ifn c39 hf
              refine lv_aload_n hx hb dX4_orderInto_42 rfl (lv_at hl 0 rfl) ?_
              refine gX_planner_acts S hK hP q204 dX4_orderInto_43 ?_
              refine lv_iload hx hb dX4_orderInto_46 (lv_at hl 4 rfl) ?_
              obtain ⟨h48, hf⟩ := if_in hf
              refine lX_35 S hK hP h48 dX4_orderInto_48 ?_
              refine lv_bipush (v := (100 : Int32)) hx hb dX4_orderInto_49 (by decide) ?_
              refine lv_icmp_ge (tgt := 73) hx hb dX4_orderInto_51 (by decide) (fun c51 => ?_) (fun c51 => ?_)
              · have hf := ifp c51 hf
                refine lv_iinc (v := (v4_29 + (1 : Int32))) (lv' := [(4, .int (v4_29 + (1 : Int32))), (0, .ref (ad 7)), (1, .ref (ad 39)), (2, .int v2_29), (3, .int v3_29)]) hx hb dX4_orderInto_73 hl (k := 4) rfl rfl (by decide) rfl (fun ls hl => ?_)
                refine lv_goto (tgt := 29) hx hb dX4_orderInto_76 (by decide) ?_
                exact ih29 v2_29 v3_29 (v4_29 + (1 : Int32)) σ29 aw ac H locs ls hf hP hD hS (lv_sub hl [1, 2, 3, 4, 0] rfl)
              · have hf := ifn c51 hf
                refine lv_iload_n hx hb dX4_orderInto_54 rfl (lv_at hl 3 rfl) ?_
                refine lv_aload_n hx hb dX4_orderInto_55 rfl (lv_at hl 1 rfl) ?_
                refine nX_39 S hK hP dX4_orderInto_56 ?_
                refine lv_icmp_ge (tgt := 73) hx hb dX4_orderInto_57 (by decide) (fun c57 => ?_) (fun c57 => ?_)
                · have hf := ifp c57 hf
                  refine lv_iinc (v := (v4_29 + (1 : Int32))) (lv' := [(4, .int (v4_29 + (1 : Int32))), (0, .ref (ad 7)), (1, .ref (ad 39)), (2, .int v2_29), (3, .int v3_29)]) hx hb dX4_orderInto_73 hl (k := 4) rfl rfl (by decide) rfl (fun ls hl => ?_)
                  refine lv_goto (tgt := 29) hx hb dX4_orderInto_76 (by decide) ?_
                  exact ih29 v2_29 v3_29 (v4_29 + (1 : Int32)) σ29 aw ac H locs ls hf hP hD hS (lv_sub hl [1, 2, 3, 4, 0] rfl)
                · have hf := ifn c57 hf
                  refine lv_aload_n hx hb dX4_orderInto_60 rfl (lv_at hl 1 rfl) ?_
                  refine lv_iload_n hx hb dX4_orderInto_61 rfl (lv_at hl 3 rfl) ?_
                  refine lv_aload_n hx hb dX4_orderInto_62 rfl (lv_at hl 0 rfl) ?_
                  refine gX_planner_acts S hK hP q204 dX4_orderInto_63 ?_
                  refine lv_iload hx hb dX4_orderInto_66 (lv_at hl 4 rfl) ?_
                  obtain ⟨h68, hf⟩ := if_in hf
                  refine lX_35 S hK hP h68 dX4_orderInto_68 ?_
                  obtain ⟨h69, hf⟩ := if_in hf
                  refine tX_39 S hK hP hD hS h69 dX4_orderInto_69 (fun H locs hP hD hS => ?_)
                  refine lv_iinc (v := (v3_29 + (1 : Int32))) (lv' := [(3, .int (v3_29 + (1 : Int32))), (0, .ref (ad 7)), (1, .ref (ad 39)), (2, .int v2_29), (4, .int v4_29)]) hx hb dX4_orderInto_70 hl (k := 3) rfl rfl (by decide) rfl (fun ls hl => ?_)
                  refine lv_iinc (v := (v4_29 + (1 : Int32))) (lv' := [(4, .int (v4_29 + (1 : Int32))), (3, .int (v3_29 + (1 : Int32))), (0, .ref (ad 7)), (1, .ref (ad 39)), (2, .int v2_29)]) hx hb dX4_orderInto_73 hl (k := 4) rfl rfl (by decide) rfl (fun ls hl => ?_)
                  refine lv_goto (tgt := 29) hx hb dX4_orderInto_76 (by decide) ?_
                  exact ih29 v2_29 (v3_29 + (1 : Int32)) (v4_29 + (1 : Int32)) (sa σ29 39 v3_29.toNatClampNeg (ga σ29 35 v4_29.toNatClampNeg)) aw ac H locs ls hf hP hD hS (lv_sub hl [2, 3, 4, 1, 0] rfl)
      exact L29 KF (0 : Int32) (0 : Int32) (0 : Int32) q11.2 aw ac H locs ls hf hP hD hS (lv_sub hl [3, 4, 2, 1, 0] rfl)
    · have hf := ifn c15 hf
      refine lv_iconst (v := (1 : Int32)) hx hb dX4_orderInto_18 (by decide) ?_
      refine lv_goto (tgt := 23) hx hb dX4_orderInto_19 (by decide) ?_
      refine lv_istore_n (lv' := [(2, .int (1 : Int32)), (0, .ref (ad 7)), (1, .ref (ad 39))]) hx hb dX4_orderInto_23 rfl hl (by decide) rfl (fun ls hl => ?_)
      refine lv_iconst (v := (0 : Int32)) hx hb dX4_orderInto_24 (by decide) ?_
      refine lv_istore_n (lv' := [(3, .int (0 : Int32)), (2, .int (1 : Int32)), (0, .ref (ad 7)), (1, .ref (ad 39))]) hx hb dX4_orderInto_25 rfl hl (by decide) rfl (fun ls hl => ?_)
      refine lv_iconst (v := (0 : Int32)) hx hb dX4_orderInto_26 (by decide) ?_
      refine lv_istore (lv' := [(4, .int (0 : Int32)), (3, .int (0 : Int32)), (2, .int (1 : Int32)), (0, .ref (ad 7)), (1, .ref (ad 39))]) hx hb dX4_orderInto_27 hl (by decide) rfl (fun ls hl => ?_)
      refine W.widen (k := 2) (n := bw + bc) (by first | omega | (dsimp only [Rm]; omega)) (by first | omega | (dsimp only [Rm]; omega)) ?_
      have L29 : ∀ (n29 : Nat) (v2_29 : Int32) (v3_29 : Int32) (v4_29 : Int32) (σ29 : St) (aw ac : Nat) (H : Heap) (locs : List Loc) (ls : Array Slot), fX4_orderInto_29 bw bc (fX4_orderInto_29_k bw bc v2_29) v2_29 n29 σ29 v3_29 v4_29 = some q → va_P D vwCl (wX cy ad aw ac σ29) H → va_D A (wX cy ad aw ac σ29) → va_S A s.heap H locs → lv_has ls 5 [(0, .ref (ad 7)), (1, .ref (ad 39)), (2, .int v2_29), (3, .int v3_29), (4, .int v4_29)] → W p l e (Rm 6 135 2 (bw + bc)) s m [.ref (ad 7), .ref (ad 39)].toArray below meth c H locs 2 (bw + bc) (Zv D (wX cy ad) A q aw0 ac0 below [.ref (ad 7), .ref (ad 39)].toArray s 2 (bw + bc)) (F0 m 29 ls []) := by
        intro n29
        induction n29 with
        | zero =>
          intro v2_29 v3_29 v4_29 σ29 aw ac H locs ls hf
          cases hf
        | succ n29 ih29 =>
          intro v2_29 v3_29 v4_29 σ29 aw ac H locs ls hf hP hD hS hl
          rw [fX4_orderInto_29] at hf
          refine lv_iload_n hx hb dX4_orderInto_29 rfl (lv_at hl 2 rfl) ?_
          refine lv_if_eq (tgt := 79) hx hb dX4_orderInto_30 (by decide) (fun c30 => ?_) (fun c30 => ?_)
          · have hf := ifp c30 hf
            have hl := lv_sub (l' := [(0, .ref (ad 7)), (1, .ref (ad 39)), (2, .int v2_29), (3, .int v3_29), (4, .int v4_29)]) hl [0, 1, 2, 3, 4] rfl
            unfold fX4_orderInto_29_k at hf
            refine lv_iconst (v := (0 : Int32)) hx hb dX4_orderInto_79 (by decide) ?_
            refine lv_istore (lv' := [(4, .int (0 : Int32)), (0, .ref (ad 7)), (1, .ref (ad 39)), (2, .int v2_29), (3, .int v3_29)]) hx hb dX4_orderInto_80 hl (by decide) rfl (fun ls hl => ?_)
            refine W.widen (k := 2) (n := bw + bc) (by first | omega | (dsimp only [Rm]; omega)) (by first | omega | (dsimp only [Rm]; omega)) ?_
            have L82 : ∀ (n82 : Nat) (v4_82 : Int32) (σ82 : St) (aw ac : Nat) (H : Heap) (locs : List Loc) (ls : Array Slot), fX4_orderInto_82 bw bc (fX4_orderInto_82_k bw bc v2_29 v3_29) v2_29 v3_29 n82 σ82 v4_82 = some q → va_P D vwCl (wX cy ad aw ac σ82) H → va_D A (wX cy ad aw ac σ82) → va_S A s.heap H locs → lv_has ls 5 [(0, .ref (ad 7)), (1, .ref (ad 39)), (2, .int v2_29), (3, .int v3_29), (4, .int v4_82)] → W p l e (Rm 6 135 2 (bw + bc)) s m [.ref (ad 7), .ref (ad 39)].toArray below meth c H locs 2 (bw + bc) (Zv D (wX cy ad) A q aw0 ac0 below [.ref (ad 7), .ref (ad 39)].toArray s 2 (bw + bc)) (F0 m 82 ls []) := by
              intro n82
              induction n82 with
              | zero =>
                intro v4_82 σ82 aw ac H locs ls hf
                cases hf
              | succ n82 ih82 =>
                intro v4_82 σ82 aw ac H locs ls hf hP hD hS hl
                rw [fX4_orderInto_82] at hf
                refine lv_iload_n hx hb dX4_orderInto_82 rfl (lv_at hl 2 rfl) ?_
                refine lv_if_ne (tgt := 117) hx hb dX4_orderInto_83 (by decide) (fun c83 => ?_) (fun c83 => ?_)
                · have hf := ifn c83 hf
                  have hl := lv_sub (l' := [(0, .ref (ad 7)), (1, .ref (ad 39)), (2, .int v2_29), (3, .int v3_29), (4, .int v4_82)]) hl [0, 1, 2, 3, 4] rfl
                  unfold fX4_orderInto_82_k at hf
                  refine W.widen (k := 2) (n := bw + bc) (by first | omega | (dsimp only [Rm]; omega)) (by first | omega | (dsimp only [Rm]; omega)) ?_
                  exact u_vretw hx hb hr hlocks hP hD hS dX4_orderInto_117 hf (fun h_ => absurd h_ (by decide))
                · have hf := ifp c83 hf
                  refine lv_iload hx hb dX4_orderInto_86 (lv_at hl 4 rfl) ?_
                  refine lv_aload_n hx hb dX4_orderInto_88 rfl (lv_at hl 0 rfl) ?_
                  refine gX_planner_stones S hK hP q199 dX4_orderInto_89 ?_
                  refine gX_stones_size S hK hP q135 dX4_orderInto_92 ?_
                  refine lv_icmp_ge (tgt := 117) hx hb dX4_orderInto_95 (by decide) (fun c95 => ?_) (fun c95 => ?_)
                  · have hf := ifp c95 hf
                    have hl := lv_sub (l' := [(0, .ref (ad 7)), (1, .ref (ad 39)), (2, .int v2_29), (3, .int v3_29), (4, .int v4_82)]) hl [0, 1, 2, 3, 4] rfl
                    unfold fX4_orderInto_82_k at hf
                    refine W.widen (k := 2) (n := bw + bc) (by first | omega | (dsimp only [Rm]; omega)) (by first | omega | (dsimp only [Rm]; omega)) ?_
                    exact u_vretw hx hb hr hlocks hP hD hS dX4_orderInto_117 hf (fun h_ => absurd h_ (by decide))
                  · have hf := ifn c95 hf
                    refine lv_iload hx hb dX4_orderInto_98 (lv_at hl 4 rfl) ?_
                    refine lv_aload_n hx hb dX4_orderInto_100 rfl (lv_at hl 1 rfl) ?_
                    refine nX_39 S hK hP dX4_orderInto_101 ?_
                    refine lv_icmp_ge (tgt := 117) hx hb dX4_orderInto_102 (by decide) (fun c102 => ?_) (fun c102 => ?_)
                    · have hf := ifp c102 hf
                      have hl := lv_sub (l' := [(0, .ref (ad 7)), (1, .ref (ad 39)), (2, .int v2_29), (3, .int v3_29), (4, .int v4_82)]) hl [0, 1, 2, 3, 4] rfl
                      unfold fX4_orderInto_82_k at hf
                      refine W.widen (k := 2) (n := bw + bc) (by first | omega | (dsimp only [Rm]; omega)) (by first | omega | (dsimp only [Rm]; omega)) ?_
                      exact u_vretw hx hb hr hlocks hP hD hS dX4_orderInto_117 hf (fun h_ => absurd h_ (by decide))
                    · have hf := ifn c102 hf
                      refine lv_aload_n hx hb dX4_orderInto_105 rfl (lv_at hl 1 rfl) ?_
                      refine lv_iload hx hb dX4_orderInto_106 (lv_at hl 4 rfl) ?_
                      refine lv_iload hx hb dX4_orderInto_108 (lv_at hl 4 rfl) ?_
                      obtain ⟨h110, hf⟩ := if_in hf
                      refine tX_39 S hK hP hD hS h110 dX4_orderInto_110 (fun H locs hP hD hS => ?_)
                      refine lv_iinc (v := (v4_82 + (1 : Int32))) (lv' := [(4, .int (v4_82 + (1 : Int32))), (0, .ref (ad 7)), (1, .ref (ad 39)), (2, .int v2_29), (3, .int v3_29)]) hx hb dX4_orderInto_111 hl (k := 4) rfl rfl (by decide) rfl (fun ls hl => ?_)
                      refine lv_goto (tgt := 82) hx hb dX4_orderInto_114 (by decide) ?_
                      exact ih82 (v4_82 + (1 : Int32)) (sa σ82 39 v4_82.toNatClampNeg v4_82) aw ac H locs ls hf hP hD hS (lv_sub hl [1, 2, 3, 4, 0] rfl)
            exact L82 KF (0 : Int32) σ29 aw ac H locs ls hf hP hD hS (lv_sub hl [1, 2, 3, 4, 0] rfl)
          · have hf := ifn c30 hf
            refine lv_iload hx hb dX4_orderInto_33 (lv_at hl 4 rfl) ?_
            refine lv_aload_n hx hb dX4_orderInto_35 rfl (lv_at hl 0 rfl) ?_
            refine gX_planner_actCount S hK hP q205 dX4_orderInto_36 ?_
            refine lv_icmp_ge (tgt := 79) hx hb dX4_orderInto_39 (by decide) (fun c39 => ?_) (fun c39 => ?_)
            · have hf := ifp c39 hf
              have hl := lv_sub (l' := [(0, .ref (ad 7)), (1, .ref (ad 39)), (2, .int v2_29), (3, .int v3_29), (4, .int v4_29)]) hl [0, 1, 2, 3, 4] rfl
              unfold fX4_orderInto_29_k at hf
              refine lv_iconst (v := (0 : Int32)) hx hb dX4_orderInto_79 (by decide) ?_
              refine lv_istore (lv' := [(4, .int (0 : Int32)), (0, .ref (ad 7)), (1, .ref (ad 39)), (2, .int v2_29), (3, .int v3_29)]) hx hb dX4_orderInto_80 hl (by decide) rfl (fun ls hl => ?_)
              refine W.widen (k := 2) (n := bw + bc) (by first | omega | (dsimp only [Rm]; omega)) (by first | omega | (dsimp only [Rm]; omega)) ?_
              have L82 : ∀ (n82 : Nat) (v4_82 : Int32) (σ82 : St) (aw ac : Nat) (H : Heap) (locs : List Loc) (ls : Array Slot), fX4_orderInto_82 bw bc (fX4_orderInto_82_k bw bc v2_29 v3_29) v2_29 v3_29 n82 σ82 v4_82 = some q → va_P D vwCl (wX cy ad aw ac σ82) H → va_D A (wX cy ad aw ac σ82) → va_S A s.heap H locs → lv_has ls 5 [(0, .ref (ad 7)), (1, .ref (ad 39)), (2, .int v2_29), (3, .int v3_29), (4, .int v4_82)] → W p l e (Rm 6 135 2 (bw + bc)) s m [.ref (ad 7), .ref (ad 39)].toArray below meth c H locs 2 (bw + bc) (Zv D (wX cy ad) A q aw0 ac0 below [.ref (ad 7), .ref (ad 39)].toArray s 2 (bw + bc)) (F0 m 82 ls []) := by
                intro n82
                induction n82 with
                | zero =>
                  intro v4_82 σ82 aw ac H locs ls hf
                  cases hf
                | succ n82 ih82 =>
                  intro v4_82 σ82 aw ac H locs ls hf hP hD hS hl
                  rw [fX4_orderInto_82] at hf
                  refine lv_iload_n hx hb dX4_orderInto_82 rfl (lv_at hl 2 rfl) ?_
                  refine lv_if_ne (tgt := 117) hx hb dX4_orderInto_83 (by decide) (fun c83 => ?_) (fun c83 => ?_)
                  · have hf := ifn c83 hf
                    have hl := lv_sub (l' := [(0, .ref (ad 7)), (1, .ref (ad 39)), (2, .int v2_29), (3, .int v3_29), (4, .int v4_82)]) hl [0, 1, 2, 3, 4] rfl
                    unfold fX4_orderInto_82_k at hf
                    refine W.widen (k := 2) (n := bw + bc) (by first | omega | (dsimp only [Rm]; omega)) (by first | omega | (dsimp only [Rm]; omega)) ?_
                    exact u_vretw hx hb hr hlocks hP hD hS dX4_orderInto_117 hf (fun h_ => absurd h_ (by decide))
                  · have hf := ifp c83 hf
                    refine lv_iload hx hb dX4_orderInto_86 (lv_at hl 4 rfl) ?_
                    refine lv_aload_n hx hb dX4_orderInto_88 rfl (lv_at hl 0 rfl) ?_
                    refine gX_planner_stones S hK hP q199 dX4_orderInto_89 ?_
                    refine gX_stones_size S hK hP q135 dX4_orderInto_92 ?_
                    refine lv_icmp_ge (tgt := 117) hx hb dX4_orderInto_95 (by decide) (fun c95 => ?_) (fun c95 => ?_)
                    · have hf := ifp c95 hf
                      have hl := lv_sub (l' := [(0, .ref (ad 7)), (1, .ref (ad 39)), (2, .int v2_29), (3, .int v3_29), (4, .int v4_82)]) hl [0, 1, 2, 3, 4] rfl
                      unfold fX4_orderInto_82_k at hf
                      refine W.widen (k := 2) (n := bw + bc) (by first | omega | (dsimp only [Rm]; omega)) (by first | omega | (dsimp only [Rm]; omega)) ?_
                      exact u_vretw hx hb hr hlocks hP hD hS dX4_orderInto_117 hf (fun h_ => absurd h_ (by decide))
                    · have hf := ifn c95 hf
                      refine lv_iload hx hb dX4_orderInto_98 (lv_at hl 4 rfl) ?_
                      refine lv_aload_n hx hb dX4_orderInto_100 rfl (lv_at hl 1 rfl) ?_
                      refine nX_39 S hK hP dX4_orderInto_101 ?_
                      refine lv_icmp_ge (tgt := 117) hx hb dX4_orderInto_102 (by decide) (fun c102 => ?_) (fun c102 => ?_)
                      · have hf := ifp c102 hf
                        have hl := lv_sub (l' := [(0, .ref (ad 7)), (1, .ref (ad 39)), (2, .int v2_29), (3, .int v3_29), (4, .int v4_82)]) hl [0, 1, 2, 3, 4] rfl
                        unfold fX4_orderInto_82_k at hf
                        refine W.widen (k := 2) (n := bw + bc) (by first | omega | (dsimp only [Rm]; omega)) (by first | omega | (dsimp only [Rm]; omega)) ?_
                        exact u_vretw hx hb hr hlocks hP hD hS dX4_orderInto_117 hf (fun h_ => absurd h_ (by decide))
                      · have hf := ifn c102 hf
                        refine lv_aload_n hx hb dX4_orderInto_105 rfl (lv_at hl 1 rfl) ?_
                        refine lv_iload hx hb dX4_orderInto_106 (lv_at hl 4 rfl) ?_
                        refine lv_iload hx hb dX4_orderInto_108 (lv_at hl 4 rfl) ?_
                        obtain ⟨h110, hf⟩ := if_in hf
                        refine tX_39 S hK hP hD hS h110 dX4_orderInto_110 (fun H locs hP hD hS => ?_)
                        refine lv_iinc (v := (v4_82 + (1 : Int32))) (lv' := [(4, .int (v4_82 + (1 : Int32))), (0, .ref (ad 7)), (1, .ref (ad 39)), (2, .int v2_29), (3, .int v3_29)]) hx hb dX4_orderInto_111 hl (k := 4) rfl rfl (by decide) rfl (fun ls hl => ?_)
                        refine lv_goto (tgt := 82) hx hb dX4_orderInto_114 (by decide) ?_
                        exact ih82 (v4_82 + (1 : Int32)) (sa σ82 39 v4_82.toNatClampNeg v4_82) aw ac H locs ls hf hP hD hS (lv_sub hl [1, 2, 3, 4, 0] rfl)
              exact L82 KF (0 : Int32) σ29 aw ac H locs ls hf hP hD hS (lv_sub hl [1, 2, 3, 4, 0] rfl)
            · have hf := ifn c39 hf
              refine lv_aload_n hx hb dX4_orderInto_42 rfl (lv_at hl 0 rfl) ?_
              refine gX_planner_acts S hK hP q204 dX4_orderInto_43 ?_
              refine lv_iload hx hb dX4_orderInto_46 (lv_at hl 4 rfl) ?_
              obtain ⟨h48, hf⟩ := if_in hf
              refine lX_35 S hK hP h48 dX4_orderInto_48 ?_
              refine lv_bipush (v := (100 : Int32)) hx hb dX4_orderInto_49 (by decide) ?_
              refine lv_icmp_ge (tgt := 73) hx hb dX4_orderInto_51 (by decide) (fun c51 => ?_) (fun c51 => ?_)
              · have hf := ifp c51 hf
                refine lv_iinc (v := (v4_29 + (1 : Int32))) (lv' := [(4, .int (v4_29 + (1 : Int32))), (0, .ref (ad 7)), (1, .ref (ad 39)), (2, .int v2_29), (3, .int v3_29)]) hx hb dX4_orderInto_73 hl (k := 4) rfl rfl (by decide) rfl (fun ls hl => ?_)
                refine lv_goto (tgt := 29) hx hb dX4_orderInto_76 (by decide) ?_
                exact ih29 v2_29 v3_29 (v4_29 + (1 : Int32)) σ29 aw ac H locs ls hf hP hD hS (lv_sub hl [1, 2, 3, 4, 0] rfl)
              · have hf := ifn c51 hf
                refine lv_iload_n hx hb dX4_orderInto_54 rfl (lv_at hl 3 rfl) ?_
                refine lv_aload_n hx hb dX4_orderInto_55 rfl (lv_at hl 1 rfl) ?_
                refine nX_39 S hK hP dX4_orderInto_56 ?_
                refine lv_icmp_ge (tgt := 73) hx hb dX4_orderInto_57 (by decide) (fun c57 => ?_) (fun c57 => ?_)
                · have hf := ifp c57 hf
                  refine lv_iinc (v := (v4_29 + (1 : Int32))) (lv' := [(4, .int (v4_29 + (1 : Int32))), (0, .ref (ad 7)), (1, .ref (ad 39)), (2, .int v2_29), (3, .int v3_29)]) hx hb dX4_orderInto_73 hl (k := 4) rfl rfl (by decide) rfl (fun ls hl => ?_)
                  refine lv_goto (tgt := 29) hx hb dX4_orderInto_76 (by decide) ?_
                  exact ih29 v2_29 v3_29 (v4_29 + (1 : Int32)) σ29 aw ac H locs ls hf hP hD hS (lv_sub hl [1, 2, 3, 4, 0] rfl)
                · have hf := ifn c57 hf
                  refine lv_aload_n hx hb dX4_orderInto_60 rfl (lv_at hl 1 rfl) ?_
                  refine lv_iload_n hx hb dX4_orderInto_61 rfl (lv_at hl 3 rfl) ?_
                  refine lv_aload_n hx hb dX4_orderInto_62 rfl (lv_at hl 0 rfl) ?_
                  refine gX_planner_acts S hK hP q204 dX4_orderInto_63 ?_
                  refine lv_iload hx hb dX4_orderInto_66 (lv_at hl 4 rfl) ?_
                  obtain ⟨h68, hf⟩ := if_in hf
                  refine lX_35 S hK hP h68 dX4_orderInto_68 ?_
                  obtain ⟨h69, hf⟩ := if_in hf
                  refine tX_39 S hK hP hD hS h69 dX4_orderInto_69 (fun H locs hP hD hS => ?_)
                  refine lv_iinc (v := (v3_29 + (1 : Int32))) (lv' := [(3, .int (v3_29 + (1 : Int32))), (0, .ref (ad 7)), (1, .ref (ad 39)), (2, .int v2_29), (4, .int v4_29)]) hx hb dX4_orderInto_70 hl (k := 3) rfl rfl (by decide) rfl (fun ls hl => ?_)
                  refine lv_iinc (v := (v4_29 + (1 : Int32))) (lv' := [(4, .int (v4_29 + (1 : Int32))), (3, .int (v3_29 + (1 : Int32))), (0, .ref (ad 7)), (1, .ref (ad 39)), (2, .int v2_29)]) hx hb dX4_orderInto_73 hl (k := 4) rfl rfl (by decide) rfl (fun ls hl => ?_)
                  refine lv_goto (tgt := 29) hx hb dX4_orderInto_76 (by decide) ?_
                  exact ih29 v2_29 (v3_29 + (1 : Int32)) (v4_29 + (1 : Int32)) (sa σ29 39 v3_29.toNatClampNeg (ga σ29 35 v4_29.toNatClampNeg)) aw ac H locs ls hf hP hD hS (lv_sub hl [2, 3, 4, 1, 0] rfl)
      exact L29 KF (1 : Int32) (0 : Int32) (0 : Int32) q11.2 aw ac H locs ls hf hP hD hS (lv_sub hl [3, 4, 2, 1, 0] rfl)
theorem iX5_heldDry : YI yX5_heldDry cX5_heldDry 2 (some .int) 2 := ⟨q456, q4, by decide, by decide, by decide +kernel⟩
set_option maxRecDepth 100000 in
set_option maxHeartbeats 4000000 in
theorem c_X5_heldDry (l : Launch) (D : va_G) (cy : Nat → ClassId) (σ : St) (v0 : Int32) (v1 : Int32) (r : Int32) (hf : fX5_heldDry v0 v1 = some r) : Ci l D cy wN yX5_heldDry cX5_heldDry 2 .int 1 21 [.int v0, .int v1] σ r σ 0 0 := by
  refine Ci.enter (by decide) (Nat.le_of_ble_eq_true rfl) ?_
  intro aw ac p e s m below meth c A H locs S hr hlocks hA hK hP hD hS ls hl
  have hx := S.1
  have hb := S.2.1
  have hl : lv_has ls 2 [(0, .int v0), (1, .int v1)] := hl
  unfold fX5_heldDry at hf
  refine lv_iload_n hx hb dX5_heldDry_0 rfl (lv_at hl 0 rfl) ?_
  refine lv_iconst (v := (0 : Int32)) hx hb dX5_heldDry_1 (by decide) ?_
  refine lv_sipush (v := (1000 : Int32)) hx hb dX5_heldDry_2 (by decide) ?_
  refine lv_iload_n hx hb dX5_heldDry_5 rfl (lv_at hl 1 rfl) ?_
  refine lv_isub hx hb dX5_heldDry_6 ?_
  refine va_mmax hx hb (S.2.2.1.trans hl.1.symm) S.2.2.2.1 (S.2.2.2.2 _ (List.mem_cons_of_mem _ q457)) (S.2.2.2.2 _ (List.mem_cons_of_mem _ q458)) (S.2.2.2.2 _ (List.mem_cons_of_mem _ q13)) (S.2.2.2.2 _ (List.mem_cons_of_mem _ q459)) (Nat.le_of_ble_eq_true rfl) (Nat.le_of_ble_eq_true rfl) (Nat.zero_le _) (Nat.zero_le _) dX5_heldDry_7 ?_
  refine lv_imul hx hb dX5_heldDry_10 ?_
  refine lv_sipush (v := (1000 : Int32)) hx hb dX5_heldDry_11 (by decide) ?_
  refine lv_idiv hx hb dX5_heldDry_14 (by decide) ?_
  exact u_iretr hx hb hr hlocks rfl hP hD hS dX5_heldDry_15 hf (fun _ => rfl)
theorem iX5_wearBy : YI yX5_wearBy cX5_wearBy 3 (some .int) 2 := ⟨q462, q4, by decide, by decide, by decide +kernel⟩
set_option maxRecDepth 100000 in
set_option maxHeartbeats 4000000 in
theorem c_X5_wearBy (l : Launch) (D : va_G) (cy : Nat → ClassId) (σ : St) (v0 : Int32) (v1 : Int32) (r : Int32) (hf : fX5_wearBy v0 v1 = some r) : Ci l D cy wN yX5_wearBy cX5_wearBy 3 .int 1 23 [.int v0, .int v1] σ r σ 0 0 := by
  refine Ci.enter (by decide) (Nat.le_of_ble_eq_true rfl) ?_
  intro aw ac p e s m below meth c A H locs S hr hlocks hA hK hP hD hS ls hl
  have hx := S.1
  have hb := S.2.1
  have hl : lv_has ls 3 [(0, .int v0), (1, .int v1)] := hl
  unfold fX5_wearBy at hf
  refine lv_iload_n hx hb dX5_wearBy_0 rfl (lv_at hl 1 rfl) ?_
  refine lv_i2l (v := (v1).toInt64) hx hb dX5_wearBy_1 rfl ?_
  refine lv_ldc2 hx hb S.2.2.2.1 (S.2.2.2.2 _ (List.mem_cons_of_mem _ q463)) dX5_wearBy_2 ?_
  refine lv_lmul hx hb dX5_wearBy_5 ?_
  refine lv_iload_n hx hb dX5_wearBy_6 rfl (lv_at hl 0 rfl) ?_
  refine lv_i2l (v := (v0).toInt64) hx hb dX5_wearBy_7 rfl ?_
  obtain ⟨r8, h8, hf⟩ := ob_some hf
  refine p_calll0 (u_runSN (rest := []) S (c_X9_cut l D cy σ (((v1).toInt64) * (100 : Int64)) ((v0).toInt64) r8 h8 aw ac H.size) iX9_cut q341 (host := "WheelCrane") (by decide) ⟨Nat.le_of_ble_eq_true rfl, Nat.le_of_ble_eq_true rfl⟩ hK wN_P (wN_D (A := fun _ => True)) rfl hl.1 (Nat.le_of_ble_eq_true rfl) dX5_wearBy_8 ⟨Nat.le_refl _, Nat.le_refl _⟩) hP hS hA (fun H locs hP hS => ?_)
  refine lv_l2i (v := (r8).toInt32) hx hb dX5_wearBy_11 rfl ?_
  refine lv_istore_n (lv' := [(2, .int ((r8).toInt32)), (0, .int v0), (1, .int v1)]) hx hb dX5_wearBy_12 rfl hl (by decide) rfl (fun ls hl => ?_)
  refine lv_iconst (v := (1 : Int32)) hx hb dX5_wearBy_13 (by decide) ?_
  refine lv_iload_n hx hb dX5_wearBy_14 rfl (lv_at hl 0 rfl) ?_
  refine lv_iload_n hx hb dX5_wearBy_15 rfl (lv_at hl 0 rfl) ?_
  refine lv_imul hx hb dX5_wearBy_16 ?_
  refine lv_sipush (v := (1000 : Int32)) hx hb dX5_wearBy_17 (by decide) ?_
  refine lv_idiv hx hb dX5_wearBy_20 (by decide) ?_
  refine lv_iadd hx hb dX5_wearBy_21 ?_
  exact u_iretr hx hb hr hlocks rfl hP hD hS dX5_wearBy_22 hf (fun _ => rfl)
theorem iX5_bring : YI yX5_bring cX5_bring 2 (some .int) 1 := ⟨q479, q4, by decide, by decide, by decide +kernel⟩
theorem vX5_bring : YV yX5_bring := ⟨q477, q478⟩
set_option maxRecDepth 100000 in
set_option maxHeartbeats 4000000 in
theorem c_X5_bring (l : Launch) (D : va_G) (cy : Nat → ClassId) (ad : Nat → Nat) (σ : St) (v1 : Int32) (q : Int32 × St) (hf : fX5_bring σ v1 = some q) : Ci l D cy (wX cy ad) yX5_bring cX5_bring 2 .int 0 0 [.ref (ad 3), .int v1] σ q.1 q.2 0 0 := by
  refine Ci.enter (by decide) (Nat.le_of_ble_eq_true rfl) ?_
  intro aw ac p e s m below meth c A H locs S hr hlocks hA hK hP hD hS ls hl
  have hx := S.1
  have hb := S.2.1
  have hl : lv_has ls 2 [(0, .ref (ad 3)), (1, .int v1)] := hl
  unfold fX5_bring at hf
  refine lv_aload_n hx hb dX5_bring_0 rfl (lv_at hl 0 rfl) ?_
  refine gX_ropes_size S hK hP q85 dX5_bring_1 ?_
  refine lv_bipush (v := (6 : Int32)) hx hb dX5_bring_4 (by decide) ?_
  refine lv_icmp_lt (tgt := 12) hx hb dX5_bring_6 (by decide) (fun c6 => ?_) (fun c6 => ?_)
  · have hf := ifp c6 hf
    refine lv_aload_n hx hb dX5_bring_12 rfl (lv_at hl 0 rfl) ?_
    refine gX_ropes_strengths S hK hP q79 dX5_bring_13 ?_
    refine lv_aload_n hx hb dX5_bring_16 rfl (lv_at hl 0 rfl) ?_
    refine gX_ropes_size S hK hP q85 dX5_bring_17 ?_
    refine lv_iload_n hx hb dX5_bring_20 rfl (lv_at hl 1 rfl) ?_
    obtain ⟨h21, hf⟩ := if_in hf
    refine tX_12 S hK hP hD hS h21 dX5_bring_21 (fun H locs hP hD hS => ?_)
    refine lv_aload_n hx hb dX5_bring_22 rfl (lv_at hl 0 rfl) ?_
    refine lv_dup hx hb dX5_bring_23 rfl ?_
    refine gX_ropes_size S hK hP q85 dX5_bring_24 ?_
    refine lv_iconst (v := (1 : Int32)) hx hb dX5_bring_27 (by decide) ?_
    refine lv_iadd hx hb dX5_bring_28 ?_
    refine pX_ropes_size S hK hP hD hS q85 dX5_bring_29 (fun H locs hP hD hS => ?_)
    refine lv_aload_n hx hb dX5_bring_32 rfl (lv_at hl 0 rfl) ?_
    refine gX_ropes_size S hK hP q85 dX5_bring_33 ?_
    refine lv_iconst (v := (1 : Int32)) hx hb dX5_bring_36 (by decide) ?_
    refine lv_isub hx hb dX5_bring_37 ?_
    exact u_iretw hx hb hr hlocks rfl hP hD hS dX5_bring_38 hf (fun _ => rfl)
  · have hf := ifn c6 hf
    refine lv_bipush (v := (-4 : Int32)) hx hb dX5_bring_9 (by decide) ?_
    exact u_iretw hx hb hr hlocks rfl hP hD hS dX5_bring_11 hf (fun _ => rfl)
theorem iX5_held : YI yX5_held cX5_held 3 (some .int) 1 := ⟨q453, q4, by decide, by decide, by decide +kernel⟩
theorem vX5_held : YV yX5_held := ⟨q451, q452⟩
set_option maxRecDepth 100000 in
set_option maxHeartbeats 4000000 in
theorem c_X5_held (l : Launch) (D : va_G) (cy : Nat → ClassId) (ad : Nat → Nat) (σ : St) (v1 : Int32) (r : Int32) (hf : fX5_held σ v1 = some r) : Ci l D cy (wX cy ad) yX5_held cX5_held 3 .int 2 42 [.ref (ad 3), .int v1] σ r σ 0 0 := by
  refine Ci.enter (by decide) (Nat.le_of_ble_eq_true rfl) ?_
  intro aw ac p e s m below meth c A H locs S hr hlocks hA hK hP hD hS ls hl
  have hx := S.1
  have hb := S.2.1
  have hl : lv_has ls 3 [(0, .ref (ad 3)), (1, .int v1)] := hl
  unfold fX5_held at hf
  refine lv_aload_n hx hb dX5_held_0 rfl (lv_at hl 0 rfl) ?_
  refine gX_ropes_parted S hK hP q83 dX5_held_1 ?_
  refine lv_iload_n hx hb dX5_held_4 rfl (lv_at hl 1 rfl) ?_
  obtain ⟨h5, hf⟩ := if_in hf
  refine lX_15 S hK hP h5 dX5_held_5 ?_
  refine lv_if_eq (tgt := 11) hx hb dX5_held_6 (by decide) (fun c6 => ?_) (fun c6 => ?_)
  · have hf := ifp c6 hf
    refine lv_aload_n hx hb dX5_held_11 rfl (lv_at hl 0 rfl) ?_
    refine gX_ropes_strengths S hK hP q79 dX5_held_12 ?_
    refine lv_iload_n hx hb dX5_held_15 rfl (lv_at hl 1 rfl) ?_
    obtain ⟨h16, hf⟩ := if_in hf
    refine lX_12 S hK hP h16 dX5_held_16 ?_
    refine lv_aload_n hx hb dX5_held_17 rfl (lv_at hl 0 rfl) ?_
    refine gX_ropes_wears S hK hP q80 dX5_held_18 ?_
    refine lv_iload_n hx hb dX5_held_21 rfl (lv_at hl 1 rfl) ?_
    obtain ⟨h22, hf⟩ := if_in hf
    refine lX_13 S hK hP h22 dX5_held_22 ?_
    obtain ⟨r23, h23, hf⟩ := ob_some hf
    refine p_calli0 (u_runS (rest := []) S (c_X5_heldDry l D cy σ (ga σ 12 v1.toNatClampNeg) (ga σ 13 v1.toNatClampNeg) r23 h23 aw ac H.size) iX5_heldDry q455 q454 ⟨Nat.le_of_ble_eq_true rfl, Nat.le_of_ble_eq_true rfl⟩ hK wN_P (wN_D (A := fun _ => True)) rfl hl.1 (Nat.le_of_ble_eq_true rfl) dX5_held_23 ⟨Nat.le_refl _, Nat.le_refl _⟩) hP hS hA (fun H locs hP hS => ?_)
    refine lv_istore_n (lv' := [(2, .int r23), (0, .ref (ad 3)), (1, .int v1)]) hx hb dX5_held_26 rfl hl (by decide) rfl (fun ls hl => ?_)
    refine lv_aload_n hx hb dX5_held_27 rfl (lv_at hl 1 rfl) ?_
    refine gX_ropes_soaked S hK hP q81 dX5_held_28 ?_
    refine lv_iload_n hx hb dX5_held_31 rfl (lv_at hl 2 rfl) ?_
    obtain ⟨h32, hf⟩ := if_in hf
    refine lX_14 S hK hP h32 dX5_held_32 ?_
    refine lv_if_eq (tgt := 44) hx hb dX5_held_33 (by decide) (fun c33 => ?_) (fun c33 => ?_)
    · have hf := ifp c33 hf
      refine lv_iload_n hx hb dX5_held_44 rfl (lv_at hl 0 rfl) ?_
      exact u_iretr hx hb hr hlocks rfl hP hD hS dX5_held_45 hf (fun _ => rfl)
    · have hf := ifn c33 hf
      refine lv_iload_n hx hb dX5_held_36 rfl (lv_at hl 0 rfl) ?_
      refine lv_iconst (v := (3 : Int32)) hx hb dX5_held_37 (by decide) ?_
      refine lv_imul hx hb dX5_held_38 ?_
      refine lv_iconst (v := (4 : Int32)) hx hb dX5_held_39 (by decide) ?_
      refine lv_idiv hx hb dX5_held_40 (by decide) ?_
      refine lv_goto (tgt := 45) hx hb dX5_held_41 (by decide) ?_
      exact u_iretr hx hb hr hlocks rfl hP hD hS dX5_held_45 hf (fun _ => rfl)
  · have hf := ifn c6 hf
    refine lv_iconst (v := (0 : Int32)) hx hb dX5_held_9 (by decide) ?_
    exact u_iretr hx hb hr hlocks rfl hP hD hS dX5_held_10 hf (fun _ => rfl)
theorem iX5_survives : YI yX5_survives cX5_survives 3 (some .boolean) 2 := ⟨q449, q4, by decide, by decide, by decide +kernel⟩
theorem vX5_survives : YV yX5_survives := ⟨q447, q448⟩
set_option maxRecDepth 100000 in
set_option maxHeartbeats 4000000 in
theorem c_X5_survives (l : Launch) (D : va_G) (cy : Nat → ClassId) (ad : Nat → Nat) (σ : St) (v1 : Int32) (v2 : Int32) (q : Int32 × St) (hf : fX5_survives σ v1 v2 = some q) : Ci l D cy (wX cy ad) yX5_survives cX5_survives 3 .boolean 3 64 [.ref (ad 3), .int v1, .int v2] σ q.1 q.2 0 0 := by
  refine Ci.enter (by decide) (Nat.le_of_ble_eq_true rfl) ?_
  intro aw ac p e s m below meth c A H locs S hr hlocks hA hK hP hD hS ls hl
  have hx := S.1
  have hb := S.2.1
  have hl : lv_has ls 3 [(0, .ref (ad 3)), (1, .int v1), (2, .int v2)] := hl
  unfold fX5_survives at hf
  refine lv_iload_n hx hb dX5_survives_0 rfl (lv_at hl 2 rfl) ?_
  refine lv_aload_n hx hb dX5_survives_1 rfl (lv_at hl 0 rfl) ?_
  refine lv_iload_n hx hb dX5_survives_2 rfl (lv_at hl 1 rfl) ?_
  obtain ⟨r3, h3, hf⟩ := ob_some hf
  refine u_calli0 (u_runV (rest := [.int v2]) S (c_X5_held l D cy ad σ v1 r3 h3 aw ac H.size) iX5_held vX5_held q450 ⟨Nat.le_of_ble_eq_true rfl, Nat.le_of_ble_eq_true rfl⟩ hK hP hD (q0 := 3) rfl rfl rfl hl.1 (Nat.le_of_ble_eq_true rfl) dX5_survives_3 ⟨Nat.le_refl _, Nat.le_refl _⟩) hD hS hA (fun H locs hP hD hS => ?_)
  refine lv_icmp_le (tgt := 18) hx hb dX5_survives_6 (by decide) (fun c6 => ?_) (fun c6 => ?_)
  · have hf := ifp c6 hf
    refine lv_aload_n hx hb dX5_survives_18 rfl (lv_at hl 0 rfl) ?_
    refine gX_ropes_wears S hK hP q80 dX5_survives_19 ?_
    refine lv_iload_n hx hb dX5_survives_22 rfl (lv_at hl 1 rfl) ?_
    refine lv_dup2_11 hx hb dX5_survives_23 rfl rfl ?_
    obtain ⟨h24, hf⟩ := if_in hf
    refine lX_13 S hK hP h24 dX5_survives_24 ?_
    refine lv_aload_n hx hb dX5_survives_25 rfl (lv_at hl 0 rfl) ?_
    refine gX_ropes_strengths S hK hP q79 dX5_survives_26 ?_
    refine lv_iload_n hx hb dX5_survives_29 rfl (lv_at hl 1 rfl) ?_
    obtain ⟨h30, hf⟩ := if_in hf
    refine lX_12 S hK hP h30 dX5_survives_30 ?_
    refine lv_iload_n hx hb dX5_survives_31 rfl (lv_at hl 2 rfl) ?_
    obtain ⟨r32, h32, hf⟩ := ob_some hf
    refine p_calli0 (u_runS (rest := [.int (ga σ 13 v1.toNatClampNeg), .int v1, .ref (ad 13)]) S (c_X5_wearBy l D cy σ (ga σ 12 v1.toNatClampNeg) v2 r32 h32 aw ac H.size) iX5_wearBy q461 q460 ⟨Nat.le_of_ble_eq_true rfl, Nat.le_of_ble_eq_true rfl⟩ hK wN_P (wN_D (A := fun _ => True)) rfl hl.1 (Nat.le_of_ble_eq_true rfl) dX5_survives_32 ⟨Nat.le_refl _, Nat.le_refl _⟩) hP hS hA (fun H locs hP hS => ?_)
    refine lv_iadd hx hb dX5_survives_35 ?_
    obtain ⟨h36, hf⟩ := if_in hf
    refine tX_13 S hK hP hD hS h36 dX5_survives_36 (fun H locs hP hD hS => ?_)
    refine lv_iconst (v := (1 : Int32)) hx hb dX5_survives_37 (by decide) ?_
    exact u_iretw hx hb hr hlocks rfl hP hD hS dX5_survives_38 hf (fun _ => rfl)
  · have hf := ifn c6 hf
    refine lv_aload_n hx hb dX5_survives_9 rfl (lv_at hl 0 rfl) ?_
    refine gX_ropes_parted S hK hP q83 dX5_survives_10 ?_
    refine lv_iload_n hx hb dX5_survives_13 rfl (lv_at hl 1 rfl) ?_
    refine lv_iconst (v := (1 : Int32)) hx hb dX5_survives_14 (by decide) ?_
    obtain ⟨h15, hf⟩ := if_in hf
    refine tX_15 S hK hP hD hS h15 dX5_survives_15 (fun H locs hP hD hS => ?_)
    refine lv_iconst (v := (0 : Int32)) hx hb dX5_survives_16 (by decide) ?_
    exact u_iretw hx hb hr hlocks rfl hP hD hS dX5_survives_17 hf (fun _ => rfl)
theorem iX5_tell : YI yX5_tell cX5_tell 3 (some .int) 2 := ⟨q491, q4, by decide, by decide, by decide +kernel⟩
theorem vX5_tell : YV yX5_tell := ⟨q489, q490⟩
set_option maxRecDepth 100000 in
set_option maxHeartbeats 4000000 in
theorem c_X5_tell (l : Launch) (D : va_G) (cy : Nat → ClassId) (ad : Nat → Nat) (σ : St) (v1 : Int32) (v2 : Int32) (r : Int32) (hf : fX5_tell σ v1 v2 = some r) : Ci l D cy (wX cy ad) yX5_tell cX5_tell 3 .int 3 64 [.ref (ad 3), .int v1, .int v2] σ r σ 0 0 := by
  refine Ci.enter (by decide) (Nat.le_of_ble_eq_true rfl) ?_
  intro aw ac p e s m below meth c A H locs S hr hlocks hA hK hP hD hS ls hl
  have hx := S.1
  have hb := S.2.1
  have hl : lv_has ls 3 [(0, .ref (ad 3)), (1, .int v1), (2, .int v2)] := hl
  unfold fX5_tell at hf
  refine lv_iload_n hx hb dX5_tell_0 rfl (lv_at hl 2 rfl) ?_
  by_cases c1_0 : v2 = (0 : Int32)
  · have hf := ifp c1_0 hf
    refine lv_tableIn (off := 31) (tgt := 32) hx hb dX5_tell_1 (by rw [c1_0]; decide) (by rw [c1_0]; decide) (by rw [c1_0]; decide) (by decide) ?_
    refine lv_aload_n hx hb dX5_tell_32 rfl (lv_at hl 0 rfl) ?_
    refine gX_ropes_strengths S hK hP q79 dX5_tell_33 ?_
    refine lv_iload_n hx hb dX5_tell_36 rfl (lv_at hl 1 rfl) ?_
    obtain ⟨h37, hf⟩ := if_in hf
    refine lX_12 S hK hP h37 dX5_tell_37 ?_
    exact u_iretr hx hb hr hlocks rfl hP hD hS dX5_tell_38 hf (fun _ => rfl)
  · have hf := ifn c1_0 hf
    by_cases c1_1 : v2 = (1 : Int32)
    · have hf := ifp c1_1 hf
      refine lv_tableIn (off := 38) (tgt := 39) hx hb dX5_tell_1 (by rw [c1_1]; decide) (by rw [c1_1]; decide) (by rw [c1_1]; decide) (by decide) ?_
      refine lv_aload_n hx hb dX5_tell_39 rfl (lv_at hl 0 rfl) ?_
      refine gX_ropes_wears S hK hP q80 dX5_tell_40 ?_
      refine lv_iload_n hx hb dX5_tell_43 rfl (lv_at hl 1 rfl) ?_
      obtain ⟨h44, hf⟩ := if_in hf
      refine lX_13 S hK hP h44 dX5_tell_44 ?_
      exact u_iretr hx hb hr hlocks rfl hP hD hS dX5_tell_45 hf (fun _ => rfl)
    · have hf := ifn c1_1 hf
      by_cases c1_2 : v2 = (2 : Int32)
      · have hf := ifp c1_2 hf
        refine lv_tableIn (off := 45) (tgt := 46) hx hb dX5_tell_1 (by rw [c1_2]; decide) (by rw [c1_2]; decide) (by rw [c1_2]; decide) (by decide) ?_
        refine lv_aload_n hx hb dX5_tell_46 rfl (lv_at hl 0 rfl) ?_
        refine gX_ropes_soaked S hK hP q81 dX5_tell_47 ?_
        refine lv_iload_n hx hb dX5_tell_50 rfl (lv_at hl 1 rfl) ?_
        obtain ⟨h51, hf⟩ := if_in hf
        refine lX_14 S hK hP h51 dX5_tell_51 ?_
        refine lv_if_eq (tgt := 59) hx hb dX5_tell_52 (by decide) (fun c52 => ?_) (fun c52 => ?_)
        · have hf := ifp c52 hf
          refine lv_iconst (v := (0 : Int32)) hx hb dX5_tell_59 (by decide) ?_
          exact u_iretr hx hb hr hlocks rfl hP hD hS dX5_tell_60 hf (fun _ => rfl)
        · have hf := ifn c52 hf
          refine lv_iconst (v := (1 : Int32)) hx hb dX5_tell_55 (by decide) ?_
          refine lv_goto (tgt := 60) hx hb dX5_tell_56 (by decide) ?_
          exact u_iretr hx hb hr hlocks rfl hP hD hS dX5_tell_60 hf (fun _ => rfl)
      · have hf := ifn c1_2 hf
        by_cases c1_3 : v2 = (3 : Int32)
        · have hf := ifp c1_3 hf
          refine lv_tableIn (off := 60) (tgt := 61) hx hb dX5_tell_1 (by rw [c1_3]; decide) (by rw [c1_3]; decide) (by rw [c1_3]; decide) (by decide) ?_
          refine lv_aload_n hx hb dX5_tell_61 rfl (lv_at hl 0 rfl) ?_
          refine gX_ropes_parted S hK hP q83 dX5_tell_62 ?_
          refine lv_iload_n hx hb dX5_tell_65 rfl (lv_at hl 1 rfl) ?_
          obtain ⟨h66, hf⟩ := if_in hf
          refine lX_15 S hK hP h66 dX5_tell_66 ?_
          refine lv_if_eq (tgt := 74) hx hb dX5_tell_67 (by decide) (fun c67 => ?_) (fun c67 => ?_)
          · have hf := ifp c67 hf
            refine lv_iconst (v := (0 : Int32)) hx hb dX5_tell_74 (by decide) ?_
            exact u_iretr hx hb hr hlocks rfl hP hD hS dX5_tell_75 hf (fun _ => rfl)
          · have hf := ifn c67 hf
            refine lv_iconst (v := (1 : Int32)) hx hb dX5_tell_70 (by decide) ?_
            refine lv_goto (tgt := 75) hx hb dX5_tell_71 (by decide) ?_
            exact u_iretr hx hb hr hlocks rfl hP hD hS dX5_tell_75 hf (fun _ => rfl)
        · have hf := ifn c1_3 hf
          refine lv_tableOut (tgt := 76) hx hb dX5_tell_1 (sw_3 c1_0 c1_1 c1_2 c1_3) (by decide) ?_
          refine lv_aload_n hx hb dX5_tell_76 rfl (lv_at hl 0 rfl) ?_
          refine lv_iload_n hx hb dX5_tell_77 rfl (lv_at hl 1 rfl) ?_
          obtain ⟨r78, h78, hf⟩ := ob_some hf
          refine u_calli0 (u_runV (rest := []) S (c_X5_held l D cy ad σ v1 r78 h78 aw ac H.size) iX5_held vX5_held q450 ⟨Nat.le_of_ble_eq_true rfl, Nat.le_of_ble_eq_true rfl⟩ hK hP hD (q0 := 3) rfl rfl rfl hl.1 (Nat.le_of_ble_eq_true rfl) dX5_tell_78 ⟨Nat.le_refl _, Nat.le_refl _⟩) hD hS hA (fun H locs hP hD hS => ?_)
          exact u_iretr hx hb hr hlocks rfl hP hD hS dX5_tell_81 hf (fun _ => rfl)
theorem iX5_mixInto : YI yX5_mixInto cX5_mixInto 7 (some .long) 1 := ⟨q910, q4, by decide, by decide, by decide +kernel⟩
theorem vX5_mixInto : YV yX5_mixInto := ⟨q908, q909⟩
set_option maxRecDepth 100000 in
set_option maxHeartbeats 4000000 in
theorem c_X5_mixInto (l : Launch) (D : va_G) (cy : Nat → ClassId) (ad : Nat → Nat) (σ : St) (v1 : Int64) (r : Int64) (hf : fX5_mixInto σ v1 = some r) : Cl l D cy (wX cy ad) yX5_mixInto cX5_mixInto 7 4 86 [.ref (ad 3), .long v1] σ r σ 0 0 := by
  refine Cl.enter (by decide) (Nat.le_of_ble_eq_true rfl) ?_
  intro aw ac p e s m below meth c A H locs S hr hlocks hA hK hP hD hS ls hl
  have hx := S.1
  have hb := S.2.1
  have hl : lv_has ls 7 [(0, .ref (ad 3)), (1, .long v1)] := hl
  unfold fX5_mixInto at hf
  refine lv_lload_n hx hb dX5_mixInto_0 rfl (lv_at hl 1 rfl) ?_
  refine lv_lstore_n (lv' := [(3, .long v1), (0, .ref (ad 3)), (1, .long v1)]) hx hb dX5_mixInto_1 rfl hl (by decide) rfl (fun ls hl => ?_)
  refine lv_iconst (v := (0 : Int32)) hx hb dX5_mixInto_2 (by decide) ?_
  refine lv_istore (lv' := [(5, .int (0 : Int32)), (3, .long v1), (0, .ref (ad 3)), (1, .long v1)]) hx hb dX5_mixInto_3 hl (by decide) rfl (fun ls hl => ?_)
  have L5 : ∀ (n5 : Nat) (v3_5 : Int64) (v5_5 : Int32) (H : Heap) (locs : List Loc) (ls : Array Slot), fX5_mixInto_5 (fX5_mixInto_5_k σ v1) σ v1 n5 v3_5 v5_5 = some r → va_P D vwCl (wX cy ad aw ac σ) H → va_D A (wX cy ad aw ac σ) → va_S A s.heap H locs → lv_has ls 7 [(0, .ref (ad 3)), (1, .long v1), (3, .long v3_5), (5, .int v5_5)] → W p l e (Rm 4 86 0 0) s m [.ref (ad 3), .long v1].toArray below meth c H locs 0 0 (Zl D (wX cy ad) A r σ aw ac below [.ref (ad 3), .long v1].toArray s 0 0) (F0 m 5 ls []) := by
    intro n5
    induction n5 with
    | zero =>
      intro v3_5 v5_5 H locs ls hf
      cases hf
    | succ n5 ih5 =>
      intro v3_5 v5_5 H locs ls hf hP hD hS hl
      rw [fX5_mixInto_5] at hf
      refine lv_iload hx hb dX5_mixInto_5 (lv_at hl 3 rfl) ?_
      refine lv_aload_n hx hb dX5_mixInto_7 rfl (lv_at hl 0 rfl) ?_
      refine gX_ropes_size S hK hP q85 dX5_mixInto_8 ?_
      refine lv_icmp_ge (tgt := 51) hx hb dX5_mixInto_11 (by decide) (fun c11 => ?_) (fun c11 => ?_)
      · have hf := ifp c11 hf
        have hl := lv_sub (l' := [(0, .ref (ad 3)), (1, .long v1), (3, .long v3_5), (5, .int v5_5)]) hl [0, 1, 2, 3] rfl
        unfold fX5_mixInto_5_k at hf
        refine lv_lload_n hx hb dX5_mixInto_51 rfl (lv_at hl 2 rfl) ?_
        exact u_lretr hx hb hr hlocks hP hD hS dX5_mixInto_52 hf (fun _ => rfl)
      · have hf := ifn c11 hf
        refine lv_iconst (v := (0 : Int32)) hx hb dX5_mixInto_14 (by decide) ?_
        refine lv_istore (lv' := [(6, .int (0 : Int32)), (0, .ref (ad 3)), (1, .long v1), (3, .long v3_5), (5, .int v5_5)]) hx hb dX5_mixInto_15 hl (by decide) rfl (fun ls hl => ?_)
        have L17 : ∀ (n17 : Nat) (v3_17 : Int64) (v6_17 : Int32) (H : Heap) (locs : List Loc) (ls : Array Slot), fX5_mixInto_17 (fun v3_5' v5_5' => fX5_mixInto_5 (fX5_mixInto_5_k σ v1) σ v1 n5 v3_5' v5_5') (fX5_mixInto_17_k (fun v3_5' v5_5' => fX5_mixInto_5 (fX5_mixInto_5_k σ v1) σ v1 n5 v3_5' v5_5') σ v1 v5_5) σ v1 v5_5 n17 v3_17 v6_17 = some r → va_P D vwCl (wX cy ad aw ac σ) H → va_D A (wX cy ad aw ac σ) → va_S A s.heap H locs → lv_has ls 7 [(0, .ref (ad 3)), (1, .long v1), (3, .long v3_17), (5, .int v5_5), (6, .int v6_17)] → W p l e (Rm 4 86 0 0) s m [.ref (ad 3), .long v1].toArray below meth c H locs 0 0 (Zl D (wX cy ad) A r σ aw ac below [.ref (ad 3), .long v1].toArray s 0 0) (F0 m 17 ls []) := by
          intro n17
          induction n17 with
          | zero =>
            intro v3_17 v6_17 H locs ls hf
            cases hf
          | succ n17 ih17 =>
            intro v3_17 v6_17 H locs ls hf hP hD hS hl
            rw [fX5_mixInto_17] at hf
            refine lv_iload hx hb dX5_mixInto_17 (lv_at hl 4 rfl) ?_
            refine lv_iconst (v := (4 : Int32)) hx hb dX5_mixInto_19 (by decide) ?_
            refine lv_icmp_gt (tgt := 45) hx hb dX5_mixInto_20 (by decide) (fun c20 => ?_) (fun c20 => ?_)
            · have hf := ifp c20 hf
              have hl := lv_sub (l' := [(0, .ref (ad 3)), (1, .long v1), (3, .long v3_17), (5, .int v5_5), (6, .int v6_17)]) hl [0, 1, 2, 3, 4] rfl
              unfold fX5_mixInto_17_k at hf
              refine lv_iinc (v := (v5_5 + (1 : Int32))) (lv' := [(5, .int (v5_5 + (1 : Int32))), (0, .ref (ad 3)), (1, .long v1), (3, .long v3_17), (6, .int v6_17)]) hx hb dX5_mixInto_45 hl (k := 3) rfl rfl (by decide) rfl (fun ls hl => ?_)
              refine lv_goto (tgt := 5) hx hb dX5_mixInto_48 (by decide) ?_
              exact ih5 v3_17 (v5_5 + (1 : Int32)) H locs ls hf hP hD hS (lv_sub hl [1, 2, 3, 0] rfl)
            · have hf := ifn c20 hf
              refine lv_ldc2 hx hb S.2.2.2.1 (S.2.2.2.2 _ (List.mem_cons_of_mem _ q911)) dX5_mixInto_23 ?_
              refine lv_lload_n hx hb dX5_mixInto_26 rfl (lv_at hl 2 rfl) ?_
              refine lv_lmul hx hb dX5_mixInto_27 ?_
              refine lv_aload_n hx hb dX5_mixInto_28 rfl (lv_at hl 0 rfl) ?_
              refine lv_iload hx hb dX5_mixInto_29 (lv_at hl 3 rfl) ?_
              refine lv_iload hx hb dX5_mixInto_31 (lv_at hl 4 rfl) ?_
              obtain ⟨r33, h33, hf⟩ := ob_some hf
              refine u_calli0 (u_runV (rest := [.long ((31 : Int64) * v3_17)]) S (c_X5_tell l D cy ad σ v5_5 v6_17 r33 h33 aw ac H.size) iX5_tell vX5_tell q912 ⟨Nat.le_of_ble_eq_true rfl, Nat.le_of_ble_eq_true rfl⟩ hK hP hD (q0 := 3) rfl rfl rfl hl.1 (Nat.le_of_ble_eq_true rfl) dX5_mixInto_33 ⟨Nat.le_refl _, Nat.le_refl _⟩) hD hS hA (fun H locs hP hD hS => ?_)
              refine lv_i2l (v := (r33).toInt64) hx hb dX5_mixInto_36 rfl ?_
              refine lv_ladd hx hb dX5_mixInto_37 ?_
              refine lv_lstore_n (lv' := [(3, .long (((31 : Int64) * v3_17) + ((r33).toInt64))), (0, .ref (ad 3)), (1, .long v1), (5, .int v5_5), (6, .int v6_17)]) hx hb dX5_mixInto_38 rfl hl (by decide) rfl (fun ls hl => ?_)
              refine lv_iinc (v := (v6_17 + (1 : Int32))) (lv' := [(6, .int (v6_17 + (1 : Int32))), (3, .long (((31 : Int64) * v3_17) + ((r33).toInt64))), (0, .ref (ad 3)), (1, .long v1), (5, .int v5_5)]) hx hb dX5_mixInto_39 hl (k := 4) rfl rfl (by decide) rfl (fun ls hl => ?_)
              refine lv_goto (tgt := 17) hx hb dX5_mixInto_42 (by decide) ?_
              exact ih17 (((31 : Int64) * v3_17) + ((r33).toInt64)) (v6_17 + (1 : Int32)) H locs ls hf hP hD hS (lv_sub hl [2, 3, 1, 4, 0] rfl)
        exact L17 KF v3_5 (0 : Int32) H locs ls hf hP hD hS (lv_sub hl [1, 2, 3, 4, 0] rfl)
  exact L5 KF v1 (0 : Int32) H locs ls hf hP hD hS (lv_sub hl [2, 3, 1, 0] rfl)
theorem iX6_append : YI yX6_append cX6_append 2 (some .int) 1 := ⟨q503, q5, by decide, by decide, by decide +kernel⟩
theorem vX6_append : YV yX6_append := ⟨q501, q502⟩
set_option maxRecDepth 100000 in
set_option maxHeartbeats 4000000 in
theorem c_X6_append (l : Launch) (D : va_G) (cy : Nat → ClassId) (ad : Nat → Nat) (σ : St) (v1 : Int32) (q : Int32 × St) (hf : fX6_append σ v1 = some q) : Ci l D cy (wX cy ad) yX6_append cX6_append 2 .int 0 0 [.ref (ad 4), .int v1] σ q.1 q.2 0 0 := by
  refine Ci.enter (by decide) (Nat.le_of_ble_eq_true rfl) ?_
  intro aw ac p e s m below meth c A H locs S hr hlocks hA hK hP hD hS ls hl
  have hx := S.1
  have hb := S.2.1
  have hl : lv_has ls 2 [(0, .ref (ad 4)), (1, .int v1)] := hl
  unfold fX6_append at hf
  refine lv_aload_n hx hb dX6_append_0 rfl (lv_at hl 0 rfl) ?_
  refine gX_row_size S hK hP q106 dX6_append_1 ?_
  refine lv_bipush (v := (12 : Int32)) hx hb dX6_append_4 (by decide) ?_
  refine lv_icmp_lt (tgt := 12) hx hb dX6_append_6 (by decide) (fun c6 => ?_) (fun c6 => ?_)
  · have hf := ifp c6 hf
    refine lv_aload_n hx hb dX6_append_12 rfl (lv_at hl 0 rfl) ?_
    refine gX_row_loads S hK hP q105 dX6_append_13 ?_
    refine lv_aload_n hx hb dX6_append_16 rfl (lv_at hl 0 rfl) ?_
    refine gX_row_size S hK hP q106 dX6_append_17 ?_
    refine lv_iload_n hx hb dX6_append_20 rfl (lv_at hl 1 rfl) ?_
    obtain ⟨h21, hf⟩ := if_in hf
    refine tX_16 S hK hP hD hS h21 dX6_append_21 (fun H locs hP hD hS => ?_)
    refine lv_aload_n hx hb dX6_append_22 rfl (lv_at hl 0 rfl) ?_
    refine lv_dup hx hb dX6_append_23 rfl ?_
    refine gX_row_size S hK hP q106 dX6_append_24 ?_
    refine lv_iconst (v := (1 : Int32)) hx hb dX6_append_27 (by decide) ?_
    refine lv_iadd hx hb dX6_append_28 ?_
    refine pX_row_size S hK hP hD hS q106 dX6_append_29 (fun H locs hP hD hS => ?_)
    refine lv_aload_n hx hb dX6_append_32 rfl (lv_at hl 0 rfl) ?_
    refine gX_row_size S hK hP q106 dX6_append_33 ?_
    exact u_iretw hx hb hr hlocks rfl hP hD hS dX6_append_36 hf (fun _ => rfl)
  · have hf := ifn c6 hf
    refine lv_bipush (v := (-4 : Int32)) hx hb dX6_append_9 (by decide) ?_
    exact u_iretw hx hb hr hlocks rfl hP hD hS dX6_append_11 hf (fun _ => rfl)
theorem iX6_firstParting : YI yX6_firstParting cX6_firstParting 4 (some .int) 1 := ⟨q515, q5, by decide, by decide, by decide +kernel⟩
theorem vX6_firstParting : YV yX6_firstParting := ⟨q513, q514⟩
set_option maxRecDepth 100000 in
set_option maxHeartbeats 4000000 in
theorem c_X6_firstParting (l : Launch) (D : va_G) (cy : Nat → ClassId) (ad : Nat → Nat) (σ : St) (v1 : Int32) (r : Int32) (hf : fX6_firstParting σ v1 = some r) : Ci l D cy (wX cy ad) yX6_firstParting cX6_firstParting 4 .int 2 45 [.ref (ad 4), .int v1] σ r σ 0 0 := by
  refine Ci.enter (by decide) (Nat.le_of_ble_eq_true rfl) ?_
  intro aw ac p e s m below meth c A H locs S hr hlocks hA hK hP hD hS ls hl
  have hx := S.1
  have hb := S.2.1
  have hl : lv_has ls 4 [(0, .ref (ad 4)), (1, .int v1)] := hl
  unfold fX6_firstParting at hf
  refine lv_iconst (v := (0 : Int32)) hx hb dX6_firstParting_0 (by decide) ?_
  refine lv_istore_n (lv' := [(2, .int (0 : Int32)), (0, .ref (ad 4)), (1, .int v1)]) hx hb dX6_firstParting_1 rfl hl (by decide) rfl (fun ls hl => ?_)
  refine lv_iconst (v := (0 : Int32)) hx hb dX6_firstParting_2 (by decide) ?_
  refine lv_istore_n (lv' := [(3, .int (0 : Int32)), (2, .int (0 : Int32)), (0, .ref (ad 4)), (1, .int v1)]) hx hb dX6_firstParting_3 rfl hl (by decide) rfl (fun ls hl => ?_)
  have L4 : ∀ (n4 : Nat) (v2_4 : Int32) (v3_4 : Int32) (H : Heap) (locs : List Loc) (ls : Array Slot), fX6_firstParting_4 (fX6_firstParting_4_k σ v1) σ v1 n4 v2_4 v3_4 = some r → va_P D vwCl (wX cy ad aw ac σ) H → va_D A (wX cy ad aw ac σ) → va_S A s.heap H locs → lv_has ls 4 [(0, .ref (ad 4)), (1, .int v1), (2, .int v2_4), (3, .int v3_4)] → W p l e (Rm 2 45 0 0) s m [.ref (ad 4), .int v1].toArray below meth c H locs 0 0 (Zi D (wX cy ad) A r σ aw ac below [.ref (ad 4), .int v1].toArray s 0 0) (F0 m 4 ls []) := by
    intro n4
    induction n4 with
    | zero =>
      intro v2_4 v3_4 H locs ls hf
      cases hf
    | succ n4 ih4 =>
      intro v2_4 v3_4 H locs ls hf hP hD hS hl
      rw [fX6_firstParting_4] at hf
      refine lv_iload_n hx hb dX6_firstParting_4 rfl (lv_at hl 3 rfl) ?_
      refine lv_aload_n hx hb dX6_firstParting_5 rfl (lv_at hl 0 rfl) ?_
      refine gX_row_size S hK hP q106 dX6_firstParting_6 ?_
      refine lv_icmp_ge (tgt := 47) hx hb dX6_firstParting_9 (by decide) (fun c9 => ?_) (fun c9 => ?_)
      · have hf := ifp c9 hf
        have hl := lv_sub (l' := [(0, .ref (ad 4)), (1, .int v1), (2, .int v2_4), (3, .int v3_4)]) hl [0, 1, 2, 3] rfl
        unfold fX6_firstParting_4_k at hf
        refine lv_iconst (v := (-1 : Int32)) hx hb dX6_firstParting_47 (by decide) ?_
        exact u_iretr hx hb hr hlocks rfl hP hD hS dX6_firstParting_48 hf (fun _ => rfl)
      · have hf := ifn c9 hf
        refine lv_aload_n hx hb dX6_firstParting_12 rfl (lv_at hl 0 rfl) ?_
        refine gX_row_loads S hK hP q105 dX6_firstParting_13 ?_
        refine lv_iload_n hx hb dX6_firstParting_16 rfl (lv_at hl 3 rfl) ?_
        obtain ⟨h17, hf⟩ := if_in hf
        refine lX_16 S hK hP h17 dX6_firstParting_17 ?_
        refine lv_iload_n hx hb dX6_firstParting_18 rfl (lv_at hl 1 rfl) ?_
        refine lv_iload_n hx hb dX6_firstParting_19 rfl (lv_at hl 2 rfl) ?_
        obtain ⟨r20, h20, hf⟩ := ob_some hf
        refine p_calli0 (u_runS (rest := [.int (ga σ 16 v3_4.toNatClampNeg)]) S (c_X5_heldDry l D cy σ v1 v2_4 r20 h20 aw ac H.size) iX5_heldDry q455 q516 ⟨Nat.le_of_ble_eq_true rfl, Nat.le_of_ble_eq_true rfl⟩ hK wN_P (wN_D (A := fun _ => True)) rfl hl.1 (Nat.le_of_ble_eq_true rfl) dX6_firstParting_20 ⟨Nat.le_refl _, Nat.le_refl _⟩) hP hS hA (fun H locs hP hS => ?_)
        refine lv_icmp_le (tgt := 28) hx hb dX6_firstParting_23 (by decide) (fun c23 => ?_) (fun c23 => ?_)
        · have hf := ifp c23 hf
          refine lv_iload_n hx hb dX6_firstParting_28 rfl (lv_at hl 2 rfl) ?_
          refine lv_iload_n hx hb dX6_firstParting_29 rfl (lv_at hl 1 rfl) ?_
          refine lv_aload_n hx hb dX6_firstParting_30 rfl (lv_at hl 0 rfl) ?_
          refine gX_row_loads S hK hP q105 dX6_firstParting_31 ?_
          refine lv_iload_n hx hb dX6_firstParting_34 rfl (lv_at hl 3 rfl) ?_
          obtain ⟨h35, hf⟩ := if_in hf
          refine lX_16 S hK hP h35 dX6_firstParting_35 ?_
          obtain ⟨r36, h36, hf⟩ := ob_some hf
          refine p_calli0 (u_runS (rest := [.int v2_4]) S (c_X5_wearBy l D cy σ v1 (ga σ 16 v3_4.toNatClampNeg) r36 h36 aw ac H.size) iX5_wearBy q461 q517 ⟨Nat.le_of_ble_eq_true rfl, Nat.le_of_ble_eq_true rfl⟩ hK wN_P (wN_D (A := fun _ => True)) rfl hl.1 (Nat.le_of_ble_eq_true rfl) dX6_firstParting_36 ⟨Nat.le_refl _, Nat.le_refl _⟩) hP hS hA (fun H locs hP hS => ?_)
          refine lv_iadd hx hb dX6_firstParting_39 ?_
          refine lv_istore_n (lv' := [(2, .int (v2_4 + r36)), (0, .ref (ad 4)), (1, .int v1), (3, .int v3_4)]) hx hb dX6_firstParting_40 rfl hl (by decide) rfl (fun ls hl => ?_)
          refine lv_iinc (v := (v3_4 + (1 : Int32))) (lv' := [(3, .int (v3_4 + (1 : Int32))), (2, .int (v2_4 + r36)), (0, .ref (ad 4)), (1, .int v1)]) hx hb dX6_firstParting_41 hl (k := 3) rfl rfl (by decide) rfl (fun ls hl => ?_)
          refine lv_goto (tgt := 4) hx hb dX6_firstParting_44 (by decide) ?_
          exact ih4 (v2_4 + r36) (v3_4 + (1 : Int32)) H locs ls hf hP hD hS (lv_sub hl [2, 3, 1, 0] rfl)
        · have hf := ifn c23 hf
          refine lv_iload_n hx hb dX6_firstParting_26 rfl (lv_at hl 3 rfl) ?_
          exact u_iretr hx hb hr hlocks rfl hP hD hS dX6_firstParting_27 hf (fun _ => rfl)
  exact L4 KF (0 : Int32) (0 : Int32) H locs ls hf hP hD hS (lv_sub hl [2, 3, 1, 0] rfl)
theorem iX6_lesser : YI yX6_lesser cX6_lesser 3 (some .int) 2 := ⟨q532, q5, by decide, by decide, by decide +kernel⟩
set_option maxRecDepth 100000 in
set_option maxHeartbeats 4000000 in
theorem c_X6_lesser (l : Launch) (D : va_G) (cy : Nat → ClassId) (σ : St) (v0 : Int32) (v1 : Int32) (r : Int32) (hf : fX6_lesser v0 v1 = some r) : Ci l D cy wN yX6_lesser cX6_lesser 3 .int 1 20 [.int v0, .int v1] σ r σ 0 0 := by
  refine Ci.enter (by decide) (Nat.le_of_ble_eq_true rfl) ?_
  intro aw ac p e s m below meth c A H locs S hr hlocks hA hK hP hD hS ls hl
  have hx := S.1
  have hb := S.2.1
  have hl : lv_has ls 3 [(0, .int v0), (1, .int v1)] := hl
  unfold fX6_lesser at hf
  refine lv_iload_n hx hb dX6_lesser_0 rfl (lv_at hl 1 rfl) ?_
  refine lv_iconst (v := (-1 : Int32)) hx hb dX6_lesser_1 (by decide) ?_
  refine lv_icmp_ne (tgt := 7) hx hb dX6_lesser_2 (by decide) (fun c2 => ?_) (fun c2 => ?_)
  · have hf := ifn c2 hf
    refine lv_iload_n hx hb dX6_lesser_7 rfl (lv_at hl 0 rfl) ?_
    obtain ⟨r8, h8, hf⟩ := ob_some hf
    refine p_calli0 (u_runS (rest := []) S (c_J6_bitCount_0f7a4 l D cy σ v0 r8 h8 aw ac H.size) iJ6_bitCount_0f7a4 q436 q529 ⟨Nat.le_of_ble_eq_true rfl, Nat.le_of_ble_eq_true rfl⟩ hK wN_P (wN_D (A := fun _ => True)) rfl hl.1 (Nat.le_of_ble_eq_true rfl) dX6_lesser_8 ⟨Nat.le_refl _, Nat.le_refl _⟩) hP hS hA (fun H locs hP hS => ?_)
    refine lv_iload_n hx hb dX6_lesser_11 rfl (lv_at hl 1 rfl) ?_
    obtain ⟨r12, h12, hf⟩ := ob_some hf
    refine p_calli0 (u_runS (rest := [.int r8]) S (c_J6_bitCount_0f7a4 l D cy σ v1 r12 h12 aw ac H.size) iJ6_bitCount_0f7a4 q436 q529 ⟨Nat.le_of_ble_eq_true rfl, Nat.le_of_ble_eq_true rfl⟩ hK wN_P (wN_D (A := fun _ => True)) rfl hl.1 (Nat.le_of_ble_eq_true rfl) dX6_lesser_12 ⟨Nat.le_refl _, Nat.le_refl _⟩) hP hS hA (fun H locs hP hS => ?_)
    refine lv_isub hx hb dX6_lesser_15 ?_
    refine lv_istore_n (lv' := [(2, .int (r8 - r12)), (0, .int v0), (1, .int v1)]) hx hb dX6_lesser_16 rfl hl (by decide) rfl (fun ls hl => ?_)
    refine lv_iload_n hx hb dX6_lesser_17 rfl (lv_at hl 0 rfl) ?_
    refine lv_if_lt (tgt := 30) hx hb dX6_lesser_18 (by decide) (fun c18 => ?_) (fun c18 => ?_)
    · have hf := ifp c18 hf
      refine lv_iload_n hx hb dX6_lesser_30 rfl (lv_at hl 1 rfl) ?_
      refine lv_goto (tgt := 35) hx hb dX6_lesser_31 (by decide) ?_
      exact u_iretr hx hb hr hlocks rfl hP hD hS dX6_lesser_35 hf (fun _ => rfl)
    · have hf := ifn c18 hf
      refine lv_iload_n hx hb dX6_lesser_21 rfl (lv_at hl 0 rfl) ?_
      refine lv_if_ne (tgt := 34) hx hb dX6_lesser_22 (by decide) (fun c22 => ?_) (fun c22 => ?_)
      · have hf := ifn c22 hf
        refine lv_iload_n hx hb dX6_lesser_34 rfl (lv_at hl 2 rfl) ?_
        exact u_iretr hx hb hr hlocks rfl hP hD hS dX6_lesser_35 hf (fun _ => rfl)
      · have hf := ifp c22 hf
        refine lv_iload_n hx hb dX6_lesser_25 rfl (lv_at hl 1 rfl) ?_
        refine lv_iload_n hx hb dX6_lesser_26 rfl (lv_at hl 2 rfl) ?_
        refine lv_icmp_ge (tgt := 34) hx hb dX6_lesser_27 (by decide) (fun c27 => ?_) (fun c27 => ?_)
        · have hf := ifp c27 hf
          refine lv_iload_n hx hb dX6_lesser_34 rfl (lv_at hl 2 rfl) ?_
          exact u_iretr hx hb hr hlocks rfl hP hD hS dX6_lesser_35 hf (fun _ => rfl)
        · have hf := ifn c27 hf
          refine lv_iload_n hx hb dX6_lesser_30 rfl (lv_at hl 1 rfl) ?_
          refine lv_goto (tgt := 35) hx hb dX6_lesser_31 (by decide) ?_
          exact u_iretr hx hb hr hlocks rfl hP hD hS dX6_lesser_35 hf (fun _ => rfl)
  · have hf := ifp c2 hf
    refine lv_iload_n hx hb dX6_lesser_5 rfl (lv_at hl 0 rfl) ?_
    exact u_iretr hx hb hr hlocks rfl hP hD hS dX6_lesser_6 hf (fun _ => rfl)
theorem iX6_blame : YI yX6_blame cX6_blame 13 (some .int) 7 := ⟨q528, q5, by decide, by decide, by decide +kernel⟩
set_option maxRecDepth 100000 in
set_option maxHeartbeats 4000000 in
theorem c_X6_blame (l : Launch) (D : va_G) (cy : Nat → ClassId) (ad : Nat → Nat) : ∀ (d : Nat) (σ : St) (v1 : Int32) (v2 : Int32) (v3 : Int32) (v4 : Int32) (v5 : Int32) (v6 : Int32) (r : Int32) (hf : fX6_blame d σ v1 v2 v3 v4 v5 v6 = some r), Ci l D cy (wX cy ad) yX6_blame cX6_blame 13 .int (2 + d) (45 + d * 32) [.ref (ad 16), .int v1, .int v2, .int v3, .int v4, .int v5, .int v6] σ r σ 0 0 := by
  intro d
  induction d with
  | zero => intro σ v1 v2 v3 v4 v5 v6 r hf; cases hf
  | succ d ih =>
    intro σ v1 v2 v3 v4 v5 v6 r hf
    refine Ci.enter (by decide) (Nat.le_of_ble_eq_true rfl) ?_
    intro aw ac p e s m below meth c A H locs S hr hlocks hA hK hP hD hS ls hl
    have hx := S.1
    have hb := S.2.1
    have hl : lv_has ls 13 [(0, .ref (ad 16)), (1, .int v1), (2, .int v2), (3, .int v3), (4, .int v4), (5, .int v5), (6, .int v6)] := hl
    rw [fX6_blame] at hf
    refine lv_iload_n hx hb dX6_blame_0 rfl (lv_at hl 3 rfl) ?_
    refine lv_iload_n hx hb dX6_blame_1 rfl (lv_at hl 2 rfl) ?_
    refine lv_icmp_gt (tgt := 30) hx hb dX6_blame_2 (by decide) (fun c2 => ?_) (fun c2 => ?_)
    · have hf := ifp c2 hf
      refine lv_iload hx hb dX6_blame_30 (lv_at hl 6 rfl) ?_
      exact u_iretr hx hb hr hlocks rfl hP hD hS dX6_blame_32 hf (fun _ => rfl)
    · have hf := ifn c2 hf
      refine lv_iload_n hx hb dX6_blame_5 rfl (lv_at hl 3 rfl) ?_
      refine lv_aload_n hx hb dX6_blame_6 rfl (lv_at hl 0 rfl) ?_
      refine nX_16 S hK hP dX6_blame_7 ?_
      refine lv_icmp_ge (tgt := 30) hx hb dX6_blame_8 (by decide) (fun c8 => ?_) (fun c8 => ?_)
      · have hf := ifp c8 hf
        refine lv_iload hx hb dX6_blame_30 (lv_at hl 6 rfl) ?_
        exact u_iretr hx hb hr hlocks rfl hP hD hS dX6_blame_32 hf (fun _ => rfl)
      · have hf := ifn c8 hf
        refine lv_iload hx hb dX6_blame_11 (lv_at hl 6 rfl) ?_
        refine lv_iconst (v := (-1 : Int32)) hx hb dX6_blame_13 (by decide) ?_
        refine lv_icmp_eq (tgt := 33) hx hb dX6_blame_14 (by decide) (fun c14 => ?_) (fun c14 => ?_)
        · have hf := ifp c14 hf
          refine lv_iload hx hb dX6_blame_33 (lv_at hl 6 rfl) ?_
          refine lv_istore (lv' := [(7, .int v6), (0, .ref (ad 16)), (1, .int v1), (2, .int v2), (3, .int v3), (4, .int v4), (5, .int v5), (6, .int v6)]) hx hb dX6_blame_35 hl (by decide) rfl (fun ls hl => ?_)
          refine lv_iconst (v := (0 : Int32)) hx hb dX6_blame_37 (by decide) ?_
          refine lv_istore (lv' := [(8, .int (0 : Int32)), (7, .int v6), (0, .ref (ad 16)), (1, .int v1), (2, .int v2), (3, .int v3), (4, .int v4), (5, .int v5), (6, .int v6)]) hx hb dX6_blame_38 hl (by decide) rfl (fun ls hl => ?_)
          have L40 : ∀ (n40 : Nat) (v7_40 : Int32) (v8_40 : Int32) (H : Heap) (locs : List Loc) (ls : Array Slot), fX6_blame_40 (fX6_blame d) (fX6_blame_40_k (fX6_blame d) σ v1 v2 v3 v4 v5 v6) σ v1 v2 v3 v4 v5 v6 n40 v7_40 v8_40 = some r → va_P D vwCl (wX cy ad aw ac σ) H → va_D A (wX cy ad aw ac σ) → va_S A s.heap H locs → lv_has ls 13 [(0, .ref (ad 16)), (1, .int v1), (2, .int v2), (3, .int v3), (4, .int v4), (5, .int v5), (6, .int v6), (7, .int v7_40), (8, .int v8_40)] → W p l e (Rm (2 + (d + 1)) (45 + (d + 1) * 32) 0 0) s m [.ref (ad 16), .int v1, .int v2, .int v3, .int v4, .int v5, .int v6].toArray below meth c H locs 0 0 (Zi D (wX cy ad) A r σ aw ac below [.ref (ad 16), .int v1, .int v2, .int v3, .int v4, .int v5, .int v6].toArray s 0 0) (F0 m 40 ls []) := by
            intro n40
            induction n40 with
            | zero =>
              intro v7_40 v8_40 H locs ls hf
              cases hf
            | succ n40 ih40 =>
              intro v7_40 v8_40 H locs ls hf hP hD hS hl
              rw [fX6_blame_40] at hf
              refine lv_iload hx hb dX6_blame_40 (lv_at hl 8 rfl) ?_
              refine lv_iconst (v := (1 : Int32)) hx hb dX6_blame_42 (by decide) ?_
              refine lv_icmp_gt (tgt := 147) hx hb dX6_blame_43 (by decide) (fun c43 => ?_) (fun c43 => ?_)
              · have hf := ifp c43 hf
                have hl := lv_sub (l' := [(0, .ref (ad 16)), (1, .int v1), (2, .int v2), (3, .int v3), (4, .int v4), (5, .int v5), (6, .int v6), (7, .int v7_40), (8, .int v8_40)]) hl [0, 1, 2, 3, 4, 5, 6, 7, 8] rfl
                unfold fX6_blame_40_k at hf
                refine lv_iload hx hb dX6_blame_147 (lv_at hl 7 rfl) ?_
                exact u_iretr hx hb hr hlocks rfl hP hD hS dX6_blame_149 hf (fun _ => rfl)
              · have hf := ifn c43 hf
                refine lv_aload_n hx hb dX6_blame_46 rfl (lv_at hl 0 rfl) ?_
                refine lv_iload_n hx hb dX6_blame_47 rfl (lv_at hl 3 rfl) ?_
                obtain ⟨h48, hf⟩ := if_in hf
                refine lX_16 S hK hP h48 dX6_blame_48 ?_
                refine lv_iload hx hb dX6_blame_49 (lv_at hl 8 rfl) ?_
                refine lv_ishl hx hb dX6_blame_51 ?_
                refine lv_istore (lv' := [(9, .int ((ga σ 16 v3.toNatClampNeg) <<< (v8_40 &&& 31))), (0, .ref (ad 16)), (1, .int v1), (2, .int v2), (3, .int v3), (4, .int v4), (5, .int v5), (6, .int v6), (7, .int v7_40), (8, .int v8_40)]) hx hb dX6_blame_52 hl (by decide) rfl (fun ls hl => ?_)
                refine lv_iload hx hb dX6_blame_54 (lv_at hl 6 rfl) ?_
                refine lv_iload hx hb dX6_blame_56 (lv_at hl 9 rfl) ?_
                refine lv_iload_n hx hb dX6_blame_58 rfl (lv_at hl 4 rfl) ?_
                refine lv_ishl hx hb dX6_blame_59 ?_
                refine lv_ior hx hb dX6_blame_60 ?_
                refine lv_istore (lv' := [(10, .int (v5 ||| (v8_40 <<< (v3 &&& 31)))), (9, .int ((ga σ 16 v3.toNatClampNeg) <<< (v8_40 &&& 31))), (0, .ref (ad 16)), (1, .int v1), (2, .int v2), (3, .int v3), (4, .int v4), (5, .int v5), (6, .int v6), (7, .int v7_40), (8, .int v8_40)]) hx hb dX6_blame_61 hl (by decide) rfl (fun ls hl => ?_)
                refine lv_iload hx hb dX6_blame_63 (lv_at hl 1 rfl) ?_
                refine lv_iload_n hx hb dX6_blame_65 rfl (lv_at hl 3 rfl) ?_
                refine lv_iload hx hb dX6_blame_66 (lv_at hl 6 rfl) ?_
                obtain ⟨r68, h68, hf⟩ := ob_some hf
                refine p_calli0 (u_runS (rest := [.int ((ga σ 16 v3.toNatClampNeg) <<< (v8_40 &&& 31))]) S (c_X5_heldDry l D cy σ v1 v4 r68 h68 aw ac H.size) iX5_heldDry q455 q516 ⟨by first | omega | (dsimp only [Rm]; omega), by first | omega | (dsimp only [Rm]; omega)⟩ hK wN_P (wN_D (A := fun _ => True)) rfl hl.1 (Nat.le_of_ble_eq_true rfl) dX6_blame_68 ⟨Nat.le_refl _, Nat.le_refl _⟩) hP hS hA (fun H locs hP hS => ?_)
                refine lv_icmp_le (tgt := 78) hx hb dX6_blame_71 (by decide) (fun c71 => ?_) (fun c71 => ?_)
                · have hf := ifp c71 hf
                  refine lv_iconst (v := (0 : Int32)) hx hb dX6_blame_78 (by decide) ?_
                  refine lv_istore (lv' := [(11, .int (0 : Int32)), (10, .int (v5 ||| (v8_40 <<< (v3 &&& 31)))), (9, .int ((ga σ 16 v3.toNatClampNeg) <<< (v8_40 &&& 31))), (0, .ref (ad 16)), (1, .int v1), (2, .int v2), (3, .int v3), (4, .int v4), (5, .int v5), (6, .int v6), (7, .int v7_40), (8, .int v8_40)]) hx hb dX6_blame_79 hl (by decide) rfl (fun ls hl => ?_)
                  refine lv_iload hx hb dX6_blame_81 (lv_at hl 0 rfl) ?_
                  refine lv_if_eq (tgt := 103) hx hb dX6_blame_83 (by decide) (fun _ => ?_) (fun c_ => absurd c_ (by decide))
                  refine lv_iload hx hb dX6_blame_103 (lv_at hl 0 rfl) ?_
                  refine lv_if_ne (tgt := 141) hx hb dX6_blame_105 (by decide) (fun c_ => absurd c_ (by decide)) (fun _ => ?_)
                  refine lv_iload_n hx hb dX6_blame_108 rfl (lv_at hl 6 rfl) ?_
                  refine lv_iload_n hx hb dX6_blame_109 rfl (lv_at hl 5 rfl) ?_
                  refine lv_icmp_ge (tgt := 141) hx hb dX6_blame_110 (by decide) (fun c110 => ?_) (fun c110 => ?_)
                  · have hf := ifp c110 hf
                    refine lv_iinc (v := (v8_40 + (1 : Int32))) (lv' := [(8, .int (v8_40 + (1 : Int32))), (11, .int (0 : Int32)), (10, .int (v5 ||| (v8_40 <<< (v3 &&& 31)))), (9, .int ((ga σ 16 v3.toNatClampNeg) <<< (v8_40 &&& 31))), (0, .ref (ad 16)), (1, .int v1), (2, .int v2), (3, .int v3), (4, .int v4), (5, .int v5), (6, .int v6), (7, .int v7_40)]) hx hb dX6_blame_141 hl (k := 11) rfl rfl (by decide) rfl (fun ls hl => ?_)
                    refine lv_goto (tgt := 40) hx hb dX6_blame_144 (by decide) ?_
                    exact ih40 v7_40 (v8_40 + (1 : Int32)) H locs ls hf hP hD hS (lv_sub hl [4, 5, 6, 7, 8, 9, 10, 11, 0] rfl)
                  · have hf := ifn c110 hf
                    refine lv_iload hx hb dX6_blame_113 (lv_at hl 7 rfl) ?_
                    refine lv_iload_n hx hb dX6_blame_115 rfl (lv_at hl 4 rfl) ?_
                    refine lv_iload hx hb dX6_blame_116 (lv_at hl 2 rfl) ?_
                    obtain ⟨r118, h118, hf⟩ := ob_some hf
                    refine p_calli0 (u_runS (rest := [.int v4]) S (c_X5_wearBy l D cy σ v1 ((ga σ 16 v3.toNatClampNeg) <<< (v8_40 &&& 31)) r118 h118 aw ac H.size) iX5_wearBy q461 q517 ⟨by first | omega | (dsimp only [Rm]; omega), by first | omega | (dsimp only [Rm]; omega)⟩ hK wN_P (wN_D (A := fun _ => True)) rfl hl.1 (Nat.le_of_ble_eq_true rfl) dX6_blame_118 ⟨Nat.le_refl _, Nat.le_refl _⟩) hP hS hA (fun H locs hP hS => ?_)
                    refine lv_iadd hx hb dX6_blame_121 ?_
                    refine lv_istore (lv' := [(12, .int (v4 + r118)), (11, .int (0 : Int32)), (10, .int (v5 ||| (v8_40 <<< (v3 &&& 31)))), (9, .int ((ga σ 16 v3.toNatClampNeg) <<< (v8_40 &&& 31))), (0, .ref (ad 16)), (1, .int v1), (2, .int v2), (3, .int v3), (4, .int v4), (5, .int v5), (6, .int v6), (7, .int v7_40), (8, .int v8_40)]) hx hb dX6_blame_122 hl (by decide) rfl (fun ls hl => ?_)
                    refine lv_aload_n hx hb dX6_blame_124 rfl (lv_at hl 4 rfl) ?_
                    refine lv_iload_n hx hb dX6_blame_125 rfl (lv_at hl 5 rfl) ?_
                    refine lv_iload_n hx hb dX6_blame_126 rfl (lv_at hl 6 rfl) ?_
                    refine lv_iload_n hx hb dX6_blame_127 rfl (lv_at hl 7 rfl) ?_
                    refine lv_iconst (v := (1 : Int32)) hx hb dX6_blame_128 (by decide) ?_
                    refine lv_iadd hx hb dX6_blame_129 ?_
                    refine lv_iload hx hb dX6_blame_130 (lv_at hl 0 rfl) ?_
                    refine lv_iload hx hb dX6_blame_132 (lv_at hl 2 rfl) ?_
                    refine lv_iload hx hb dX6_blame_134 (lv_at hl 11 rfl) ?_
                    obtain ⟨r136, h136, hf⟩ := ob_some hf
                    refine u_calli0 (u_runS (rest := []) S (ih σ v1 v2 (v3 + (1 : Int32)) (v4 + r118) (v5 ||| (v8_40 <<< (v3 &&& 31))) v7_40 r136 h136 aw ac H.size) iX6_blame q527 q526 ⟨by first | omega | (dsimp only [Rm]; omega), by first | omega | (dsimp only [Rm]; omega)⟩ hK hP hD rfl hl.1 (Nat.le_of_ble_eq_true rfl) dX6_blame_136 ⟨Nat.le_refl _, Nat.le_refl _⟩) hD hS hA (fun H locs hP hD hS => ?_)
                    refine lv_istore (lv' := [(7, .int r136), (12, .int (v4 + r118)), (11, .int (0 : Int32)), (10, .int (v5 ||| (v8_40 <<< (v3 &&& 31)))), (9, .int ((ga σ 16 v3.toNatClampNeg) <<< (v8_40 &&& 31))), (0, .ref (ad 16)), (1, .int v1), (2, .int v2), (3, .int v3), (4, .int v4), (5, .int v5), (6, .int v6), (8, .int v8_40)]) hx hb dX6_blame_139 hl (by decide) rfl (fun ls hl => ?_)
                    refine lv_iinc (v := (v8_40 + (1 : Int32))) (lv' := [(8, .int (v8_40 + (1 : Int32))), (7, .int r136), (12, .int (v4 + r118)), (11, .int (0 : Int32)), (10, .int (v5 ||| (v8_40 <<< (v3 &&& 31)))), (9, .int ((ga σ 16 v3.toNatClampNeg) <<< (v8_40 &&& 31))), (0, .ref (ad 16)), (1, .int v1), (2, .int v2), (3, .int v3), (4, .int v4), (5, .int v5), (6, .int v6)]) hx hb dX6_blame_141 hl (k := 12) rfl rfl (by decide) rfl (fun ls hl => ?_)
                    refine lv_goto (tgt := 40) hx hb dX6_blame_144 (by decide) ?_
                    exact ih40 r136 (v8_40 + (1 : Int32)) H locs ls hf hP hD hS (lv_sub hl [6, 7, 8, 9, 10, 11, 12, 1, 0] rfl)
                · have hf := ifn c71 hf
                  refine lv_iconst (v := (1 : Int32)) hx hb dX6_blame_74 (by decide) ?_
                  refine lv_goto (tgt := 79) hx hb dX6_blame_75 (by decide) ?_
                  refine lv_istore (lv' := [(11, .int (1 : Int32)), (10, .int (v5 ||| (v8_40 <<< (v3 &&& 31)))), (9, .int ((ga σ 16 v3.toNatClampNeg) <<< (v8_40 &&& 31))), (0, .ref (ad 16)), (1, .int v1), (2, .int v2), (3, .int v3), (4, .int v4), (5, .int v5), (6, .int v6), (7, .int v7_40), (8, .int v8_40)]) hx hb dX6_blame_79 hl (by decide) rfl (fun ls hl => ?_)
                  refine lv_iload hx hb dX6_blame_81 (lv_at hl 0 rfl) ?_
                  refine lv_if_eq (tgt := 103) hx hb dX6_blame_83 (by decide) (fun c_ => absurd c_ (by decide)) (fun _ => ?_)
                  refine lv_iload_n hx hb dX6_blame_86 rfl (lv_at hl 6 rfl) ?_
                  refine lv_iload_n hx hb dX6_blame_87 rfl (lv_at hl 5 rfl) ?_
                  refine lv_icmp_ne (tgt := 103) hx hb dX6_blame_88 (by decide) (fun c88 => ?_) (fun c88 => ?_)
                  · have hf := ifn c88 hf
                    refine lv_iload hx hb dX6_blame_103 (lv_at hl 0 rfl) ?_
                    refine lv_if_ne (tgt := 141) hx hb dX6_blame_105 (by decide) (fun _ => ?_) (fun c_ => absurd c_ (by decide))
                    refine lv_iinc (v := (v8_40 + (1 : Int32))) (lv' := [(8, .int (v8_40 + (1 : Int32))), (11, .int (1 : Int32)), (10, .int (v5 ||| (v8_40 <<< (v3 &&& 31)))), (9, .int ((ga σ 16 v3.toNatClampNeg) <<< (v8_40 &&& 31))), (0, .ref (ad 16)), (1, .int v1), (2, .int v2), (3, .int v3), (4, .int v4), (5, .int v5), (6, .int v6), (7, .int v7_40)]) hx hb dX6_blame_141 hl (k := 11) rfl rfl (by decide) rfl (fun ls hl => ?_)
                    refine lv_goto (tgt := 40) hx hb dX6_blame_144 (by decide) ?_
                    exact ih40 v7_40 (v8_40 + (1 : Int32)) H locs ls hf hP hD hS (lv_sub hl [4, 5, 6, 7, 8, 9, 10, 11, 0] rfl)
                  · have hf := ifp c88 hf
                    refine lv_iload hx hb dX6_blame_91 (lv_at hl 1 rfl) ?_
                    refine lv_iload hx hb dX6_blame_93 (lv_at hl 10 rfl) ?_
                    obtain ⟨r95, h95, hf⟩ := ob_some hf
                    refine p_calli0 (u_runS (rest := []) S (c_X6_lesser l D cy σ (v5 ||| (v8_40 <<< (v3 &&& 31))) v7_40 r95 h95 aw ac H.size) iX6_lesser q531 q530 ⟨by first | omega | (dsimp only [Rm]; omega), by first | omega | (dsimp only [Rm]; omega)⟩ hK wN_P (wN_D (A := fun _ => True)) rfl hl.1 (Nat.le_of_ble_eq_true rfl) dX6_blame_95 ⟨Nat.le_refl _, Nat.le_refl _⟩) hP hS hA (fun H locs hP hS => ?_)
                    refine lv_istore (lv' := [(7, .int r95), (11, .int (1 : Int32)), (10, .int (v5 ||| (v8_40 <<< (v3 &&& 31)))), (9, .int ((ga σ 16 v3.toNatClampNeg) <<< (v8_40 &&& 31))), (0, .ref (ad 16)), (1, .int v1), (2, .int v2), (3, .int v3), (4, .int v4), (5, .int v5), (6, .int v6), (8, .int v8_40)]) hx hb dX6_blame_98 hl (by decide) rfl (fun ls hl => ?_)
                    refine lv_goto (tgt := 141) hx hb dX6_blame_100 (by decide) ?_
                    refine lv_iinc (v := (v8_40 + (1 : Int32))) (lv' := [(8, .int (v8_40 + (1 : Int32))), (7, .int r95), (11, .int (1 : Int32)), (10, .int (v5 ||| (v8_40 <<< (v3 &&& 31)))), (9, .int ((ga σ 16 v3.toNatClampNeg) <<< (v8_40 &&& 31))), (0, .ref (ad 16)), (1, .int v1), (2, .int v2), (3, .int v3), (4, .int v4), (5, .int v5), (6, .int v6)]) hx hb dX6_blame_141 hl (k := 11) rfl rfl (by decide) rfl (fun ls hl => ?_)
                    refine lv_goto (tgt := 40) hx hb dX6_blame_144 (by decide) ?_
                    exact ih40 r95 (v8_40 + (1 : Int32)) H locs ls hf hP hD hS (lv_sub hl [5, 6, 7, 8, 9, 10, 11, 1, 0] rfl)
          exact L40 KF v6 (0 : Int32) H locs ls hf hP hD hS (lv_sub hl [2, 3, 4, 5, 6, 7, 8, 1, 0] rfl)
        · have hf := ifn c14 hf
          refine lv_iload hx hb dX6_blame_17 (lv_at hl 5 rfl) ?_
          obtain ⟨r19, h19, hf⟩ := ob_some hf
          refine p_calli0 (u_runS (rest := []) S (c_J6_bitCount_0f7a4 l D cy σ v5 r19 h19 aw ac H.size) iJ6_bitCount_0f7a4 q436 q529 ⟨by first | omega | (dsimp only [Rm]; omega), by first | omega | (dsimp only [Rm]; omega)⟩ hK wN_P (wN_D (A := fun _ => True)) rfl hl.1 (Nat.le_of_ble_eq_true rfl) dX6_blame_19 ⟨Nat.le_refl _, Nat.le_refl _⟩) hP hS hA (fun H locs hP hS => ?_)
          refine lv_iload hx hb dX6_blame_22 (lv_at hl 6 rfl) ?_
          obtain ⟨r24, h24, hf⟩ := ob_some hf
          refine p_calli0 (u_runS (rest := [.int r19]) S (c_J6_bitCount_0f7a4 l D cy σ v6 r24 h24 aw ac H.size) iJ6_bitCount_0f7a4 q436 q529 ⟨by first | omega | (dsimp only [Rm]; omega), by first | omega | (dsimp only [Rm]; omega)⟩ hK wN_P (wN_D (A := fun _ => True)) rfl hl.1 (Nat.le_of_ble_eq_true rfl) dX6_blame_24 ⟨Nat.le_refl _, Nat.le_refl _⟩) hP hS hA (fun H locs hP hS => ?_)
          refine lv_icmp_le (tgt := 33) hx hb dX6_blame_27 (by decide) (fun c27 => ?_) (fun c27 => ?_)
          · have hf := ifp c27 hf
            refine lv_iload hx hb dX6_blame_33 (lv_at hl 6 rfl) ?_
            refine lv_istore (lv' := [(7, .int v6), (0, .ref (ad 16)), (1, .int v1), (2, .int v2), (3, .int v3), (4, .int v4), (5, .int v5), (6, .int v6)]) hx hb dX6_blame_35 hl (by decide) rfl (fun ls hl => ?_)
            refine lv_iconst (v := (0 : Int32)) hx hb dX6_blame_37 (by decide) ?_
            refine lv_istore (lv' := [(8, .int (0 : Int32)), (7, .int v6), (0, .ref (ad 16)), (1, .int v1), (2, .int v2), (3, .int v3), (4, .int v4), (5, .int v5), (6, .int v6)]) hx hb dX6_blame_38 hl (by decide) rfl (fun ls hl => ?_)
            have L40 : ∀ (n40 : Nat) (v7_40 : Int32) (v8_40 : Int32) (H : Heap) (locs : List Loc) (ls : Array Slot), fX6_blame_40 (fX6_blame d) (fX6_blame_40_k (fX6_blame d) σ v1 v2 v3 v4 v5 v6) σ v1 v2 v3 v4 v5 v6 n40 v7_40 v8_40 = some r → va_P D vwCl (wX cy ad aw ac σ) H → va_D A (wX cy ad aw ac σ) → va_S A s.heap H locs → lv_has ls 13 [(0, .ref (ad 16)), (1, .int v1), (2, .int v2), (3, .int v3), (4, .int v4), (5, .int v5), (6, .int v6), (7, .int v7_40), (8, .int v8_40)] → W p l e (Rm (2 + (d + 1)) (45 + (d + 1) * 32) 0 0) s m [.ref (ad 16), .int v1, .int v2, .int v3, .int v4, .int v5, .int v6].toArray below meth c H locs 0 0 (Zi D (wX cy ad) A r σ aw ac below [.ref (ad 16), .int v1, .int v2, .int v3, .int v4, .int v5, .int v6].toArray s 0 0) (F0 m 40 ls []) := by
              intro n40
              induction n40 with
              | zero =>
                intro v7_40 v8_40 H locs ls hf
                cases hf
              | succ n40 ih40 =>
                intro v7_40 v8_40 H locs ls hf hP hD hS hl
                rw [fX6_blame_40] at hf
                refine lv_iload hx hb dX6_blame_40 (lv_at hl 8 rfl) ?_
                refine lv_iconst (v := (1 : Int32)) hx hb dX6_blame_42 (by decide) ?_
                refine lv_icmp_gt (tgt := 147) hx hb dX6_blame_43 (by decide) (fun c43 => ?_) (fun c43 => ?_)
                · have hf := ifp c43 hf
                  have hl := lv_sub (l' := [(0, .ref (ad 16)), (1, .int v1), (2, .int v2), (3, .int v3), (4, .int v4), (5, .int v5), (6, .int v6), (7, .int v7_40), (8, .int v8_40)]) hl [0, 1, 2, 3, 4, 5, 6, 7, 8] rfl
                  unfold fX6_blame_40_k at hf
                  refine lv_iload hx hb dX6_blame_147 (lv_at hl 7 rfl) ?_
                  exact u_iretr hx hb hr hlocks rfl hP hD hS dX6_blame_149 hf (fun _ => rfl)
                · have hf := ifn c43 hf
                  refine lv_aload_n hx hb dX6_blame_46 rfl (lv_at hl 0 rfl) ?_
                  refine lv_iload_n hx hb dX6_blame_47 rfl (lv_at hl 3 rfl) ?_
                  obtain ⟨h48, hf⟩ := if_in hf
                  refine lX_16 S hK hP h48 dX6_blame_48 ?_
                  refine lv_iload hx hb dX6_blame_49 (lv_at hl 8 rfl) ?_
                  refine lv_ishl hx hb dX6_blame_51 ?_
                  refine lv_istore (lv' := [(9, .int ((ga σ 16 v3.toNatClampNeg) <<< (v8_40 &&& 31))), (0, .ref (ad 16)), (1, .int v1), (2, .int v2), (3, .int v3), (4, .int v4), (5, .int v5), (6, .int v6), (7, .int v7_40), (8, .int v8_40)]) hx hb dX6_blame_52 hl (by decide) rfl (fun ls hl => ?_)
                  refine lv_iload hx hb dX6_blame_54 (lv_at hl 6 rfl) ?_
                  refine lv_iload hx hb dX6_blame_56 (lv_at hl 9 rfl) ?_
                  refine lv_iload_n hx hb dX6_blame_58 rfl (lv_at hl 4 rfl) ?_
                  refine lv_ishl hx hb dX6_blame_59 ?_
                  refine lv_ior hx hb dX6_blame_60 ?_
                  refine lv_istore (lv' := [(10, .int (v5 ||| (v8_40 <<< (v3 &&& 31)))), (9, .int ((ga σ 16 v3.toNatClampNeg) <<< (v8_40 &&& 31))), (0, .ref (ad 16)), (1, .int v1), (2, .int v2), (3, .int v3), (4, .int v4), (5, .int v5), (6, .int v6), (7, .int v7_40), (8, .int v8_40)]) hx hb dX6_blame_61 hl (by decide) rfl (fun ls hl => ?_)
                  refine lv_iload hx hb dX6_blame_63 (lv_at hl 1 rfl) ?_
                  refine lv_iload_n hx hb dX6_blame_65 rfl (lv_at hl 3 rfl) ?_
                  refine lv_iload hx hb dX6_blame_66 (lv_at hl 6 rfl) ?_
                  obtain ⟨r68, h68, hf⟩ := ob_some hf
                  refine p_calli0 (u_runS (rest := [.int ((ga σ 16 v3.toNatClampNeg) <<< (v8_40 &&& 31))]) S (c_X5_heldDry l D cy σ v1 v4 r68 h68 aw ac H.size) iX5_heldDry q455 q516 ⟨by first | omega | (dsimp only [Rm]; omega), by first | omega | (dsimp only [Rm]; omega)⟩ hK wN_P (wN_D (A := fun _ => True)) rfl hl.1 (Nat.le_of_ble_eq_true rfl) dX6_blame_68 ⟨Nat.le_refl _, Nat.le_refl _⟩) hP hS hA (fun H locs hP hS => ?_)
                  refine lv_icmp_le (tgt := 78) hx hb dX6_blame_71 (by decide) (fun c71 => ?_) (fun c71 => ?_)
                  · have hf := ifp c71 hf
                    refine lv_iconst (v := (0 : Int32)) hx hb dX6_blame_78 (by decide) ?_
                    refine lv_istore (lv' := [(11, .int (0 : Int32)), (10, .int (v5 ||| (v8_40 <<< (v3 &&& 31)))), (9, .int ((ga σ 16 v3.toNatClampNeg) <<< (v8_40 &&& 31))), (0, .ref (ad 16)), (1, .int v1), (2, .int v2), (3, .int v3), (4, .int v4), (5, .int v5), (6, .int v6), (7, .int v7_40), (8, .int v8_40)]) hx hb dX6_blame_79 hl (by decide) rfl (fun ls hl => ?_)
                    refine lv_iload hx hb dX6_blame_81 (lv_at hl 0 rfl) ?_
                    refine lv_if_eq (tgt := 103) hx hb dX6_blame_83 (by decide) (fun _ => ?_) (fun c_ => absurd c_ (by decide))
                    refine lv_iload hx hb dX6_blame_103 (lv_at hl 0 rfl) ?_
                    refine lv_if_ne (tgt := 141) hx hb dX6_blame_105 (by decide) (fun c_ => absurd c_ (by decide)) (fun _ => ?_)
                    refine lv_iload_n hx hb dX6_blame_108 rfl (lv_at hl 6 rfl) ?_
                    refine lv_iload_n hx hb dX6_blame_109 rfl (lv_at hl 5 rfl) ?_
                    refine lv_icmp_ge (tgt := 141) hx hb dX6_blame_110 (by decide) (fun c110 => ?_) (fun c110 => ?_)
                    · have hf := ifp c110 hf
                      refine lv_iinc (v := (v8_40 + (1 : Int32))) (lv' := [(8, .int (v8_40 + (1 : Int32))), (11, .int (0 : Int32)), (10, .int (v5 ||| (v8_40 <<< (v3 &&& 31)))), (9, .int ((ga σ 16 v3.toNatClampNeg) <<< (v8_40 &&& 31))), (0, .ref (ad 16)), (1, .int v1), (2, .int v2), (3, .int v3), (4, .int v4), (5, .int v5), (6, .int v6), (7, .int v7_40)]) hx hb dX6_blame_141 hl (k := 11) rfl rfl (by decide) rfl (fun ls hl => ?_)
                      refine lv_goto (tgt := 40) hx hb dX6_blame_144 (by decide) ?_
                      exact ih40 v7_40 (v8_40 + (1 : Int32)) H locs ls hf hP hD hS (lv_sub hl [4, 5, 6, 7, 8, 9, 10, 11, 0] rfl)
                    · have hf := ifn c110 hf
                      refine lv_iload hx hb dX6_blame_113 (lv_at hl 7 rfl) ?_
                      refine lv_iload_n hx hb dX6_blame_115 rfl (lv_at hl 4 rfl) ?_
                      refine lv_iload hx hb dX6_blame_116 (lv_at hl 2 rfl) ?_
                      obtain ⟨r118, h118, hf⟩ := ob_some hf
                      refine p_calli0 (u_runS (rest := [.int v4]) S (c_X5_wearBy l D cy σ v1 ((ga σ 16 v3.toNatClampNeg) <<< (v8_40 &&& 31)) r118 h118 aw ac H.size) iX5_wearBy q461 q517 ⟨by first | omega | (dsimp only [Rm]; omega), by first | omega | (dsimp only [Rm]; omega)⟩ hK wN_P (wN_D (A := fun _ => True)) rfl hl.1 (Nat.le_of_ble_eq_true rfl) dX6_blame_118 ⟨Nat.le_refl _, Nat.le_refl _⟩) hP hS hA (fun H locs hP hS => ?_)
                      refine lv_iadd hx hb dX6_blame_121 ?_
                      refine lv_istore (lv' := [(12, .int (v4 + r118)), (11, .int (0 : Int32)), (10, .int (v5 ||| (v8_40 <<< (v3 &&& 31)))), (9, .int ((ga σ 16 v3.toNatClampNeg) <<< (v8_40 &&& 31))), (0, .ref (ad 16)), (1, .int v1), (2, .int v2), (3, .int v3), (4, .int v4), (5, .int v5), (6, .int v6), (7, .int v7_40), (8, .int v8_40)]) hx hb dX6_blame_122 hl (by decide) rfl (fun ls hl => ?_)
                      refine lv_aload_n hx hb dX6_blame_124 rfl (lv_at hl 4 rfl) ?_
                      refine lv_iload_n hx hb dX6_blame_125 rfl (lv_at hl 5 rfl) ?_
                      refine lv_iload_n hx hb dX6_blame_126 rfl (lv_at hl 6 rfl) ?_
                      refine lv_iload_n hx hb dX6_blame_127 rfl (lv_at hl 7 rfl) ?_
                      refine lv_iconst (v := (1 : Int32)) hx hb dX6_blame_128 (by decide) ?_
                      refine lv_iadd hx hb dX6_blame_129 ?_
                      refine lv_iload hx hb dX6_blame_130 (lv_at hl 0 rfl) ?_
                      refine lv_iload hx hb dX6_blame_132 (lv_at hl 2 rfl) ?_
                      refine lv_iload hx hb dX6_blame_134 (lv_at hl 11 rfl) ?_
                      obtain ⟨r136, h136, hf⟩ := ob_some hf
                      refine u_calli0 (u_runS (rest := []) S (ih σ v1 v2 (v3 + (1 : Int32)) (v4 + r118) (v5 ||| (v8_40 <<< (v3 &&& 31))) v7_40 r136 h136 aw ac H.size) iX6_blame q527 q526 ⟨by first | omega | (dsimp only [Rm]; omega), by first | omega | (dsimp only [Rm]; omega)⟩ hK hP hD rfl hl.1 (Nat.le_of_ble_eq_true rfl) dX6_blame_136 ⟨Nat.le_refl _, Nat.le_refl _⟩) hD hS hA (fun H locs hP hD hS => ?_)
                      refine lv_istore (lv' := [(7, .int r136), (12, .int (v4 + r118)), (11, .int (0 : Int32)), (10, .int (v5 ||| (v8_40 <<< (v3 &&& 31)))), (9, .int ((ga σ 16 v3.toNatClampNeg) <<< (v8_40 &&& 31))), (0, .ref (ad 16)), (1, .int v1), (2, .int v2), (3, .int v3), (4, .int v4), (5, .int v5), (6, .int v6), (8, .int v8_40)]) hx hb dX6_blame_139 hl (by decide) rfl (fun ls hl => ?_)
                      refine lv_iinc (v := (v8_40 + (1 : Int32))) (lv' := [(8, .int (v8_40 + (1 : Int32))), (7, .int r136), (12, .int (v4 + r118)), (11, .int (0 : Int32)), (10, .int (v5 ||| (v8_40 <<< (v3 &&& 31)))), (9, .int ((ga σ 16 v3.toNatClampNeg) <<< (v8_40 &&& 31))), (0, .ref (ad 16)), (1, .int v1), (2, .int v2), (3, .int v3), (4, .int v4), (5, .int v5), (6, .int v6)]) hx hb dX6_blame_141 hl (k := 12) rfl rfl (by decide) rfl (fun ls hl => ?_)
                      refine lv_goto (tgt := 40) hx hb dX6_blame_144 (by decide) ?_
                      exact ih40 r136 (v8_40 + (1 : Int32)) H locs ls hf hP hD hS (lv_sub hl [6, 7, 8, 9, 10, 11, 12, 1, 0] rfl)
                  · have hf := ifn c71 hf
                    refine lv_iconst (v := (1 : Int32)) hx hb dX6_blame_74 (by decide) ?_
                    refine lv_goto (tgt := 79) hx hb dX6_blame_75 (by decide) ?_
                    refine lv_istore (lv' := [(11, .int (1 : Int32)), (10, .int (v5 ||| (v8_40 <<< (v3 &&& 31)))), (9, .int ((ga σ 16 v3.toNatClampNeg) <<< (v8_40 &&& 31))), (0, .ref (ad 16)), (1, .int v1), (2, .int v2), (3, .int v3), (4, .int v4), (5, .int v5), (6, .int v6), (7, .int v7_40), (8, .int v8_40)]) hx hb dX6_blame_79 hl (by decide) rfl (fun ls hl => ?_)
                    refine lv_iload hx hb dX6_blame_81 (lv_at hl 0 rfl) ?_
                    refine lv_if_eq (tgt := 103) hx hb dX6_blame_83 (by decide) (fun c_ => absurd c_ (by decide)) (fun _ => ?_)
                    refine lv_iload_n hx hb dX6_blame_86 rfl (lv_at hl 6 rfl) ?_
                    refine lv_iload_n hx hb dX6_blame_87 rfl (lv_at hl 5 rfl) ?_
                    refine lv_icmp_ne (tgt := 103) hx hb dX6_blame_88 (by decide) (fun c88 => ?_) (fun c88 => ?_)
                    · have hf := ifn c88 hf
                      refine lv_iload hx hb dX6_blame_103 (lv_at hl 0 rfl) ?_
                      refine lv_if_ne (tgt := 141) hx hb dX6_blame_105 (by decide) (fun _ => ?_) (fun c_ => absurd c_ (by decide))
                      refine lv_iinc (v := (v8_40 + (1 : Int32))) (lv' := [(8, .int (v8_40 + (1 : Int32))), (11, .int (1 : Int32)), (10, .int (v5 ||| (v8_40 <<< (v3 &&& 31)))), (9, .int ((ga σ 16 v3.toNatClampNeg) <<< (v8_40 &&& 31))), (0, .ref (ad 16)), (1, .int v1), (2, .int v2), (3, .int v3), (4, .int v4), (5, .int v5), (6, .int v6), (7, .int v7_40)]) hx hb dX6_blame_141 hl (k := 11) rfl rfl (by decide) rfl (fun ls hl => ?_)
                      refine lv_goto (tgt := 40) hx hb dX6_blame_144 (by decide) ?_
                      exact ih40 v7_40 (v8_40 + (1 : Int32)) H locs ls hf hP hD hS (lv_sub hl [4, 5, 6, 7, 8, 9, 10, 11, 0] rfl)
                    · have hf := ifp c88 hf
                      refine lv_iload hx hb dX6_blame_91 (lv_at hl 1 rfl) ?_
                      refine lv_iload hx hb dX6_blame_93 (lv_at hl 10 rfl) ?_
                      obtain ⟨r95, h95, hf⟩ := ob_some hf
                      refine p_calli0 (u_runS (rest := []) S (c_X6_lesser l D cy σ (v5 ||| (v8_40 <<< (v3 &&& 31))) v7_40 r95 h95 aw ac H.size) iX6_lesser q531 q530 ⟨by first | omega | (dsimp only [Rm]; omega), by first | omega | (dsimp only [Rm]; omega)⟩ hK wN_P (wN_D (A := fun _ => True)) rfl hl.1 (Nat.le_of_ble_eq_true rfl) dX6_blame_95 ⟨Nat.le_refl _, Nat.le_refl _⟩) hP hS hA (fun H locs hP hS => ?_)
                      refine lv_istore (lv' := [(7, .int r95), (11, .int (1 : Int32)), (10, .int (v5 ||| (v8_40 <<< (v3 &&& 31)))), (9, .int ((ga σ 16 v3.toNatClampNeg) <<< (v8_40 &&& 31))), (0, .ref (ad 16)), (1, .int v1), (2, .int v2), (3, .int v3), (4, .int v4), (5, .int v5), (6, .int v6), (8, .int v8_40)]) hx hb dX6_blame_98 hl (by decide) rfl (fun ls hl => ?_)
                      refine lv_goto (tgt := 141) hx hb dX6_blame_100 (by decide) ?_
                      refine lv_iinc (v := (v8_40 + (1 : Int32))) (lv' := [(8, .int (v8_40 + (1 : Int32))), (7, .int r95), (11, .int (1 : Int32)), (10, .int (v5 ||| (v8_40 <<< (v3 &&& 31)))), (9, .int ((ga σ 16 v3.toNatClampNeg) <<< (v8_40 &&& 31))), (0, .ref (ad 16)), (1, .int v1), (2, .int v2), (3, .int v3), (4, .int v4), (5, .int v5), (6, .int v6)]) hx hb dX6_blame_141 hl (k := 11) rfl rfl (by decide) rfl (fun ls hl => ?_)
                      refine lv_goto (tgt := 40) hx hb dX6_blame_144 (by decide) ?_
                      exact ih40 r95 (v8_40 + (1 : Int32)) H locs ls hf hP hD hS (lv_sub hl [5, 6, 7, 8, 9, 10, 11, 1, 0] rfl)
            exact L40 KF v6 (0 : Int32) H locs ls hf hP hD hS (lv_sub hl [2, 3, 4, 5, 6, 7, 8, 1, 0] rfl)
          · have hf := ifn c27 hf
            refine lv_iload hx hb dX6_blame_30 (lv_at hl 6 rfl) ?_
            exact u_iretr hx hb hr hlocks rfl hP hD hS dX6_blame_32 hf (fun _ => rfl)
