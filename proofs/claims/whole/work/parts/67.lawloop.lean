/-! the loop of the law -/
set_option maxRecDepth 100000 in
set_option maxHeartbeats 4000000 in
theorem law_go {p : Program} {l : Launch} {e : Env} {s : State} {m : MethodId} {below : List Frame} {meth : Method} {c : Code} {D : va_G} {cy : Nat → ClassId} {ad ae : Nat → Nat} {b L S1 : Nat} {xs : Nat → Int32} (hL : L ≤ 3072) (C0 : lw_At p s m meth c b L xs) (hK : KU D cy s) (hS1 : S1 + 200000 ≤ 7302250) : ∀ (n i cl : Nat) (x3 : Int32), i ≤ L → L + 1 ≤ i + n → x3 = nI i → cl + 2 * n ≤ 600000 → ∀ (aw ac bw bc : Nat) (σ τ : St) (H : Heap) (locs : List Loc) (ls : Array Slot), Rel σ τ → LawIn D cy s ad ae aw ac bw bc σ τ H locs → lv_has ls 4 [(0, .ref b), (1, .ref (ad 0)), (2, .ref (ae 0)), (3, .int x3)] → W p l e room_1 s m #[Value.ref b] below meth c H locs cl (S1 + Pot σ) (lw_Z below #[Value.ref b] s) (F0 m 18 ls []) := by
  obtain ⟨hx, hb, hr, hml, hown, hts, hX, hbl, hlocks, hgv⟩ := id C0
  have S : CallFix p m c cL_law 4 s #[Value.ref b] (lawC :: uw) RL := ⟨hx, hb, hml, hown, fun w hw => hts w (uw_tbl (lawC_in hw))⟩
  have hA : ∀ q : Nat, s.heap.size ≤ q → (fun q : Nat => s.heap.size ≤ q) q := fun _ h => h
  have hbA : ¬ (fun q : Nat => s.heap.size ≤ q) b := Nat.not_le.mpr hbl
  intro n
  induction n with
  | zero =>
    intro i cl x3 h1 h2
    exact absurd h2 (by omega)
  | succ n ih =>
    intro i cl x3 hi hin ex hcl aw ac bw bc σ τ H locs ls hR hI hl
    have hpl := pot_le hR
    obtain ⟨hP, hD, hP2, hD2, hap, hS⟩ := id hI
    refine lv_iload_n hx hb dL_law_18 rfl (lv_at hl 3 rfl) ?_
    refine lv_aload_n hx hb dL_law_19 rfl (lv_at hl 0 rfl) ?_
    refine va_slen hx hb hX hbl hbA hS dL_law_20 ?_
    refine lv_bipush (v := 6) hx hb dL_law_21 (by decide) ?_
    refine lv_isub hx hb dL_law_23 ?_
    refine lv_icmp_gt (tgt := 1615) hx hb dL_law_24 (by decide) (fun _ => ?_) (fun c_10 => ?_)
    · refine lv_iconst (v := 1) hx hb dL_law_1615 (by decide) ?_
      refine va_forget (fun q hq => hS.2.2 q hq) ?_
      refine W.widen (k := 600000) (n := 7302250) (by omega) (by omega) ?_
      exact lw_ret hx hb hr hlocks dL_law_1616
    · have h6 : i + 6 ≤ L := by
        rw [ex] at c_10
        exact head6 hL hi c_10
      have kk : LawGo p l e s m below meth c D cy ad ae b cl S1 x3 := fun aw ac bw bc σ τ H locs ls hR hI hl => by
        obtain ⟨y3, ey3⟩ : ∃ y : Int32, y = x3 + 6 := ⟨_, rfl⟩
        refine lv_iinc (v := y3) (lv' := [(3, .int y3), (0, .ref b), (1, .ref (ad 0)), (2, .ref (ae 0))]) hx hb dL_law_1609 hl (k := 3) rfl (by rw [ey3]; rfl) (by decide) rfl (fun ls hl => ?_)
        refine lv_goto (tgt := 18) hx hb dL_law_1612 (by decide) ?_
        exact ih (i + 6) (cl + 2) y3 (by omega) (by omega) (by rw [ey3, ex]; exact nI_add i 6) (by omega) aw ac bw bc σ τ H locs ls hR hI (lv_sub hl [1, 2, 3, 0] rfl)
      refine lv_aload_n hx hb dL_law_27 rfl (lv_at hl 0 rfl) ?_
      refine lv_iload_n hx hb dL_law_28 rfl (lv_at hl 3 rfl) ?_
      refine va_sld hx hb hX hbl hbA hS (by rw [ex]; exact vp_in_nI (show i < L by omega) (by omega)) dL_law_29 ?_
      refine lv_bipush (v := 63) hx hb dL_law_30 (by decide) ?_
      refine lv_iand hx hb dL_law_32 ?_
      obtain ⟨k, hk, ek⟩ := and63 (xs x3.toNatClampNeg)
      rw [ek]
      match k, hk with
      | 0, _ => exact lv_tableIn (off := 195) (tgt := 228) hx hb dL_law_33 (by decide) (by decide) (by decide) (by decide) (law_0 S hX hbl hK ex h6 hL (by omega) hS1 hR hI hl kk)
      | 1, _ => exact lv_tableIn (off := 248) (tgt := 281) hx hb dL_law_33 (by decide) (by decide) (by decide) (by decide) (law_1 S hX hbl hK ex h6 hL (by omega) hS1 hR hI hl kk)
      | 2, _ => exact lv_tableIn (off := 281) (tgt := 314) hx hb dL_law_33 (by decide) (by decide) (by decide) (by decide) (law_2 S hX hbl hK ex h6 hL (by omega) hS1 hR hI hl kk)
      | 3, _ => exact lv_tableIn (off := 304) (tgt := 337) hx hb dL_law_33 (by decide) (by decide) (by decide) (by decide) (law_3 S hX hbl hK ex h6 hL (by omega) hS1 hR hI hl kk)
      | 4, _ => exact lv_tableIn (off := 327) (tgt := 360) hx hb dL_law_33 (by decide) (by decide) (by decide) (by decide) (law_4 S hX hbl hK ex h6 hL (by omega) hS1 hR hI hl kk)
      | 5, _ => exact lv_tableIn (off := 360) (tgt := 393) hx hb dL_law_33 (by decide) (by decide) (by decide) (by decide) (law_5 S hX hbl hK ex h6 hL (by omega) hS1 hR hI hl kk)
      | 6, _ => exact lv_tableIn (off := 383) (tgt := 416) hx hb dL_law_33 (by decide) (by decide) (by decide) (by decide) (law_6 S hX hbl hK ex h6 hL (by omega) hS1 hR hI hl kk)
      | 7, _ => exact lv_tableIn (off := 406) (tgt := 439) hx hb dL_law_33 (by decide) (by decide) (by decide) (by decide) (law_7 S hX hbl hK ex h6 hL (by omega) hS1 hR hI hl kk)
      | 8, _ => exact lv_tableIn (off := 429) (tgt := 462) hx hb dL_law_33 (by decide) (by decide) (by decide) (by decide) (law_8 S hX hbl hK ex h6 hL (by omega) hS1 hR hI hl kk)
      | 9, _ => exact lv_tableIn (off := 472) (tgt := 505) hx hb dL_law_33 (by decide) (by decide) (by decide) (by decide) (law_9 S hX hbl hK ex h6 hL (by omega) hS1 hR hI hl kk)
      | 10, _ => exact lv_tableIn (off := 505) (tgt := 538) hx hb dL_law_33 (by decide) (by decide) (by decide) (by decide) (law_10 S hX hbl hK ex h6 hL (by omega) hS1 hR hI hl kk)
      | 11, _ => exact lv_tableIn (off := 558) (tgt := 591) hx hb dL_law_33 (by decide) (by decide) (by decide) (by decide) (law_11 S hX hbl hK ex h6 hL (by omega) hS1 hR hI hl kk)
      | 12, _ => exact lv_tableIn (off := 581) (tgt := 614) hx hb dL_law_33 (by decide) (by decide) (by decide) (by decide) (law_12 S hX hbl hK ex h6 hL (by omega) hS1 hR hI hl kk)
      | 13, _ => exact lv_tableIn (off := 630) (tgt := 663) hx hb dL_law_33 (by decide) (by decide) (by decide) (by decide) (law_13 S hX hbl hK ex h6 hL (by omega) hS1 hR hI hl kk)
      | 14, _ => exact lv_tableIn (off := 663) (tgt := 696) hx hb dL_law_33 (by decide) (by decide) (by decide) (by decide) (law_14 S hX hbl hK ex h6 hL (by omega) hS1 hR hI hl kk)
      | 15, _ => exact lv_tableIn (off := 696) (tgt := 729) hx hb dL_law_33 (by decide) (by decide) (by decide) (by decide) (law_15 S hX hbl hK ex h6 hL (by omega) hS1 hR hI hl kk)
      | 16, _ => exact lv_tableIn (off := 719) (tgt := 752) hx hb dL_law_33 (by decide) (by decide) (by decide) (by decide) (law_16 S hX hbl hK ex h6 hL (by omega) hS1 hR hI hl kk)
      | 17, _ => exact lv_tableIn (off := 732) (tgt := 765) hx hb dL_law_33 (by decide) (by decide) (by decide) (by decide) (law_17 S hX hbl hK ex h6 hL (by omega) hS1 hR hI hl kk)
      | 18, _ => exact lv_tableIn (off := 755) (tgt := 788) hx hb dL_law_33 (by decide) (by decide) (by decide) (by decide) (law_18 S hX hbl hK ex h6 hL (by omega) hS1 hR hI hl kk)
      | 19, _ => exact lv_tableIn (off := 788) (tgt := 821) hx hb dL_law_33 (by decide) (by decide) (by decide) (by decide) (law_19 S hX hbl hK ex h6 hL (by omega) hS1 hR hI hl kk)
      | 20, _ => exact lv_tableIn (off := 841) (tgt := 874) hx hb dL_law_33 (by decide) (by decide) (by decide) (by decide) (law_20 S hX hbl hK ex h6 hL (by omega) hS1 hR hI hl kk)
      | 21, _ => exact lv_tableIn (off := 874) (tgt := 907) hx hb dL_law_33 (by decide) (by decide) (by decide) (by decide) (law_21 S hX hbl hK ex h6 hL (by omega) hS1 hR hI hl kk)
      | 22, _ => exact lv_tableIn (off := 897) (tgt := 930) hx hb dL_law_33 (by decide) (by decide) (by decide) (by decide) (law_22 S hX hbl hK ex h6 hL (by omega) hS1 hR hI hl kk)
      | 23, _ => exact lv_tableIn (off := 940) (tgt := 973) hx hb dL_law_33 (by decide) (by decide) (by decide) (by decide) (law_23 S hX hbl hK ex h6 hL (by omega) hS1 hR hI hl kk)
      | 24, _ => exact lv_tableIn (off := 983) (tgt := 1016) hx hb dL_law_33 (by decide) (by decide) (by decide) (by decide) (law_24 S hX hbl hK ex h6 hL (by omega) hS1 hR hI hl kk)
      | 25, _ => exact lv_tableIn (off := 1016) (tgt := 1049) hx hb dL_law_33 (by decide) (by decide) (by decide) (by decide) (law_25 S hX hbl hK ex h6 hL (by omega) hS1 hR hI hl kk)
      | 26, _ => exact lv_tableIn (off := 1049) (tgt := 1082) hx hb dL_law_33 (by decide) (by decide) (by decide) (by decide) (law_26 S hX hbl hK ex h6 hL (by omega) hS1 hR hI hl kk)
      | 27, _ => exact lv_tableIn (off := 1082) (tgt := 1115) hx hb dL_law_33 (by decide) (by decide) (by decide) (by decide) (law_27 S hX hbl hK ex h6 hL (by omega) hS1 hR hI hl kk)
      | 28, _ => exact lv_tableIn (off := 1096) (tgt := 1129) hx hb dL_law_33 (by decide) (by decide) (by decide) (by decide) (law_28 S hX hbl hK ex h6 hL (by omega) hS1 hR hI hl kk)
      | 29, _ => exact lv_tableIn (off := 1109) (tgt := 1142) hx hb dL_law_33 (by decide) (by decide) (by decide) (by decide) (law_29 S hX hbl hK ex h6 hL (by omega) hS1 hR hI hl kk)
      | 30, _ => exact lv_tableIn (off := 1132) (tgt := 1165) hx hb dL_law_33 (by decide) (by decide) (by decide) (by decide) (law_30 S hX hbl hK ex h6 hL (by omega) hS1 hR hI hl kk)
      | 31, _ => exact lv_tableIn (off := 1175) (tgt := 1208) hx hb dL_law_33 (by decide) (by decide) (by decide) (by decide) (law_31 S hX hbl hK ex h6 hL (by omega) hS1 hR hI hl kk)
      | 32, _ => exact lv_tableIn (off := 1224) (tgt := 1257) hx hb dL_law_33 (by decide) (by decide) (by decide) (by decide) (law_32 S hX hbl hK ex h6 hL (by omega) hS1 hR hI hl kk)
      | 33, _ => exact lv_tableIn (off := 1247) (tgt := 1280) hx hb dL_law_33 (by decide) (by decide) (by decide) (by decide) (law_33 S hX hbl hK ex h6 hL (by omega) hS1 hR hI hl kk)
      | 34, _ => exact lv_tableIn (off := 1270) (tgt := 1303) hx hb dL_law_33 (by decide) (by decide) (by decide) (by decide) (law_34 S hX hbl hK ex h6 hL (by omega) hS1 hR hI hl kk)
      | 35, _ => exact lv_tableIn (off := 1283) (tgt := 1316) hx hb dL_law_33 (by decide) (by decide) (by decide) (by decide) (law_35 S hX hbl hK ex h6 hL (by omega) hS1 hR hI hl kk)
      | 36, _ => exact lv_tableIn (off := 1326) (tgt := 1359) hx hb dL_law_33 (by decide) (by decide) (by decide) (by decide) (law_36 S hX hbl hK ex h6 hL (by omega) hS1 hR hI hl kk)
      | 37, _ => exact lv_tableIn (off := 1339) (tgt := 1372) hx hb dL_law_33 (by decide) (by decide) (by decide) (by decide) (law_37 S hX hbl hK ex h6 hL (by omega) hS1 hR hI hl kk)
      | 38, _ => exact lv_tableIn (off := 1372) (tgt := 1405) hx hb dL_law_33 (by decide) (by decide) (by decide) (by decide) (law_38 S hX hbl hK ex h6 hL (by omega) hS1 hR hI hl kk)
      | 39, _ => exact lv_tableIn (off := 1385) (tgt := 1418) hx hb dL_law_33 (by decide) (by decide) (by decide) (by decide) (law_39 S hX hbl hK ex h6 hL (by omega) hS1 hR hI hl kk)
      | 40, _ => exact lv_tableIn (off := 1409) (tgt := 1442) hx hb dL_law_33 (by decide) (by decide) (by decide) (by decide) (law_40 S hX hbl hK ex h6 hL (by omega) hS1 hR hI hl kk)
      | 41, _ => exact lv_tableIn (off := 1473) (tgt := 1506) hx hb dL_law_33 (by decide) (by decide) (by decide) (by decide) (law_41 S hX hbl hK ex h6 hL (by omega) hS1 hR hI hl kk)
      | 42, _ => exact lv_tableIn (off := 1526) (tgt := 1559) hx hb dL_law_33 (by decide) (by decide) (by decide) (by decide) (law_42 S hX hbl hK ex h6 hL (by omega) hS1 hR hI hl kk)
      | 43, _ => exact lv_tableIn (off := 1539) (tgt := 1572) hx hb dL_law_33 (by decide) (by decide) (by decide) (by decide) (law_43 S hX hbl hK ex h6 hL (by omega) hS1 hR hI hl kk)
      | 44, _ => exact lv_tableIn (off := 1562) (tgt := 1595) hx hb dL_law_33 (by decide) (by decide) (by decide) (by decide) (law_44 S hX hbl hK ex h6 hL (by omega) hS1 hR hI hl kk)
      | k + 45, hk =>
        refine lv_tableOut (tgt := 1609) hx hb dL_law_33 (Or.inr (by rw [nI_toInt (by omega)]; omega)) (by decide) ?_
        refine W.widen (k := cl + 2) (n := S1 + Pot σ) (by omega) (by omega) ?_
        exact kk aw ac bw bc σ τ H locs ls hR hI hl
