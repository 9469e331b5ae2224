/-! constructors with loops -/
section KS
variable {p : Program} {l : Launch} {e : Env} {R : Room} {s : State} {m : MethodId} {args : Array Value} {below : List Frame} {meth : Method} {c : Code} {H H0 : Heap} {locs : List Loc} {cells slots : Nat} {Q : State → Prop}
variable {D : va_G} {cy : Nat → ClassId} {A : Nat → Prop} {cc : ByteArray} {pc nL idx maxL fr lo mc ms n b : Nat} {ls : Array Slot} {c0 : Cond} {own : String} {rest As st0 : List Value} {ws w0 : va_W} {U : Type} {pu : U → Prop} {bw : U → va_W} {y : MethodName} {bytes : ByteArray} {a : Array Value}
theorem k_runS (S : CallFix p m c cc nL s args (c0 :: uw) own) (hM : Ck l D cy y bytes maxL fr lo As w0 pu bw mc ms) (I : YI y bytes maxL none n) (V : Cond.static y ∈ uw) (hl : Cond.methodLink own idx y ∈ uw) (hR : fr + 1 ≤ R.frames ∧ 8 + (maxL + 11) + lo ≤ R.locals) (hK : KU D cy s) (hC : KC cy s) (hP : va_P D vwCl (ws ++ w0) H) (hD : va_D A (ws ++ w0)) (hn : As.length = n) (hsz : ls.size = nL) (hrest : (rest.map fun v => v.category).sum ≤ 8) (hdg : decode cc pc = .ok (.invokestatic idx, 3)) (hf : cells + mc ≤ R.cells ∧ slots + ms ≤ R.slots) :
    va_Run p l e R s m args below meth c H locs cells slots mc ms (F0 m pc ls (As.reverse ++ rest)) rest (va_Qv pu (fun u t => va_P D vwCl (bw u) t.heap ∧ va_D (va_A w0 H.size) (bw u)) (va_A w0 H.size) As.toArray) (va_A w0 H.size) :=
  va_runS S (hM H.size) ⟨u_cwB S.2.2.2.2 I hl hR, S.2.2.2.2 _ (List.mem_cons_of_mem _ V)⟩ ⟨c_blind, k_pre hK hC (p_right hP) (d_right hD)⟩ rfl hn hsz rfl (lv_room hrest) hdg hf
end KS
theorem iJ7_fill2 : YI yJ7_fill_53178 cJ7_fill_53178 4 none 2 := ⟨q236, q10, by decide, by decide, by decide +kernel⟩
set_option maxRecDepth 100000 in
set_option maxHeartbeats 4000000 in
theorem k_fill (l : Launch) (D : va_G) (cy : Nat → ClassId) (q : Nat) (v : Int32) (f : Nat → Int32) : Ck (U := Nat → Int32) l D cy yJ7_fill_53178 cJ7_fill_53178 4 0 0 [.ref q, .int v] [(q, .inl (cy 0, 80, .inl f))] (fun u => ∀ j, j < 80 → u j = v) (fun u => [(q, .inl (cy 0, 80, .inl u))]) 0 0 := by
  refine k_enter (by decide) (Nat.le_of_ble_eq_true rfl) ?_
  intro p e s m below meth c A H locs S hr hlocks hin hA hK hC hP hD hS ls hl
  have hx := S.1
  have hb := S.2.1
  have hl : lv_has ls 4 [(0, .ref q), (1, .int v)] := hl
  refine lv_iconst (v := 0) hx hb dJ7_fill_53178_0 (by decide) ?_
  refine lv_istore_n (lv' := [(2, .int 0), (0, .ref q), (1, .int v)]) hx hb dJ7_fill_53178_1 rfl hl (by decide) rfl (fun ls hl => ?_)
  refine lv_aload_n hx hb dJ7_fill_53178_2 rfl (lv_at hl 1 rfl) ?_
  refine va_alen S.1 S.2.1 hK.1 hP 0 0 rfl rfl rfl dJ7_fill_53178_3 ?_
  refine lv_istore_n (lv' := [(3, .int (nI 80)), (2, .int 0), (0, .ref q), (1, .int v)]) hx hb dJ7_fill_53178_4 rfl hl (by decide) rfl (fun ls hl => ?_)
  have LA : ∀ (n i : Nat) (f : Nat → Int32) (H : Heap) (locs : List Loc) (ls : Array Slot), i + n = 81 → (∀ j, j < i → j < 80 → f j = v) → va_P D vwCl [(q, .inl (cy 0, 80, .inl f))] H → va_D A [(q, .inl (cy 0, 80, .inl f))] → va_S A s.heap H locs → lv_has ls 4 [(0, .ref q), (1, .int v), (2, .int (nI i)), (3, .int (nI 80))] → W p l e (Rm 0 0 0 0) s m [Value.ref q, .int v].toArray below meth c H locs 0 0 (Zk D (fun u : Nat → Int32 => ∀ j, j < 80 → u j = v) (fun u => [(q, .inl (cy 0, 80, .inl u))]) A below [Value.ref q, .int v].toArray s 0 0) (F0 m 5 ls []) := by
    intro n
    induction n with
    | zero =>
      intro i f H locs ls h1 h2 hP hD hS hl
      have : i = 81 := by omega
      subst this
      refine lv_iload_n hx hb dJ7_fill_53178_5 rfl (lv_at hl 2 rfl) ?_
      refine lv_iload_n hx hb dJ7_fill_53178_6 rfl (lv_at hl 3 rfl) ?_
      refine lv_icmp_ge (tgt := 20) hx hb dJ7_fill_53178_7 (by decide) (fun _ => ?_) (fun c9 => absurd (show nI 80 ≤ nI 81 by decide) c9)
      exact k_vret (u := f) hx hb hr hlocks (fun j hj => h2 j (by omega) hj) hP hD hS dJ7_fill_53178_20
    | succ n ih =>
      intro i f H locs ls h1 h2 hP hD hS hl
      refine lv_iload_n hx hb dJ7_fill_53178_5 rfl (lv_at hl 2 rfl) ?_
      refine lv_iload_n hx hb dJ7_fill_53178_6 rfl (lv_at hl 3 rfl) ?_
      refine lv_icmp_ge (tgt := 20) hx hb dJ7_fill_53178_7 (by decide) (fun c9 => ?_) (fun c9 => ?_)
      · have h80 : 80 ≤ i := Nat.le_of_not_lt (fun w => absurd c9 (nI_ge w (by decide)))
        exact k_vret (u := f) hx hb hr hlocks (fun j hj => h2 j (by omega) hj) hP hD hS dJ7_fill_53178_20
      · have h80 : i < 80 := Nat.lt_of_not_le (fun w => c9 (nI_le w (by omega)))
        refine lv_aload_n hx hb dJ7_fill_53178_10 rfl (lv_at hl 0 rfl) ?_
        refine lv_iload_n hx hb dJ7_fill_53178_11 rfl (lv_at hl 2 rfl) ?_
        refine lv_iload_n hx hb dJ7_fill_53178_12 rfl (lv_at hl 1 rfl) ?_
        refine va_iast S.1 S.2.1 hK.1 hP hD hS 0 0 rfl rfl (vp_in_nI h80 (by omega)) dJ7_fill_53178_13 (fun H locs hP hD hS => ?_)
        refine lv_iinc (v := nI (i + 1)) (lv' := [(2, .int (nI (i + 1))), (0, .ref q), (1, .int v), (3, .int (nI 80))]) hx hb dJ7_fill_53178_14 hl (k := 2) rfl (nI_1 i) (by decide) rfl (fun ls hl => ?_)
        refine lv_goto (tgt := 5) hx hb dJ7_fill_53178_17 (by decide) ?_
        refine ih (i + 1) (upd f (nI i).toNatClampNeg v) H locs ls (by omega) (fun j hj hj2 => ?_) hP hD hS (lv_sub hl [1, 2, 0, 3] rfl)
        rw [nI_clamp (by omega)]
        by_cases q : j = i
        · subst q; exact pk_us
        · rw [pk_un q]; exact h2 j (by omega) hj2
  exact LA 81 0 f H locs ls (by omega) (fun j hj => by omega) hP hD hS (lv_sub hl [2, 3, 1, 0] rfl)
def bX0 (cy : Nat → ClassId) (h0 r1 : Nat) (u : (Nat → Nat) × (Nat → Int32)) : va_W := [(h0, .inr (0, [.ref r1, .ref (u.1 4), .ref (u.1 0), .int (2), .ref (u.1 1), .ref (u.1 2), .ref (u.1 3), .int (-1), .int 0, .int 0, .int 0])), ((u.1 0), .inl (cy 2, 80, .inl (fun _ => 0))), ((u.1 1), .inl (cy 0, 81, .inl (fun _ => 0))), ((u.1 2), .inl (cy 0, 14, .inl (fun _ => 0))), ((u.1 3), .inl (cy 0, 14, .inl (fun _ => 0))), ((u.1 4), .inl (cy 0, 80, .inl u.2))]
theorem iX0_init : YI yX0_init cX0_init 2 none 1 := ⟨q232, q9, by decide, by decide, by decide +kernel⟩
set_option maxRecDepth 100000 in
set_option maxHeartbeats 4000000 in
theorem k_X0 (l : Launch) (D : va_G) (cy : Nat → ClassId) (h0 r1 : Nat) : Ck (U := (Nat → Nat) × (Nat → Int32)) l D cy yX0_init cX0_init 2 1 30 [.ref h0, .ref r1] [(h0, .inr (0, [.null, .null, .null, .int 0, .null, .null, .null, .int 0, .int 0, .int 0, .int 0]))] (fun u => ∀ j, j < 80 → u.2 j = 8) (bX0 cy h0 r1) 5 269 := by
  refine k_enter (by decide) (Nat.le_of_ble_eq_true rfl) ?_
  intro p e s m below meth c A H locs S hr hlocks hin hA hK hC hP hD hS ls hl
  have hx := S.1
  have hb := S.2.1
  have hl : lv_has ls 2 [(0, .ref h0), (1, .ref r1)] := hl
  refine lv_aload_n hx hb dX0_init_0 rfl (lv_at hl 0 rfl) ?_
  refine W.objInit S.1 S.2.1 S.2.2.2.1 (S.2.2.2.2 _ (List.mem_cons_of_mem _ q233)) (S.2.2.2.2 _ (List.mem_cons_of_mem _ q21)) (S.2.2.2.2 _ (List.mem_cons_of_mem _ q22)) rfl (by rw [S.2.2.1]; exact hl.1) rfl dX0_init_1 (Nat.le_of_ble_eq_true rfl) (Nat.le_of_ble_eq_true rfl) ?_
  refine W.eq (g2 := F0 m 4 ls []) rfl ?_
  refine lv_aload_n hx hb dX0_init_4 rfl (lv_at hl 0 rfl) ?_
  refine lv_bipush (v := 80) hx hb dX0_init_5 (by decide) ?_
  refine k_newi (N := 80) S hK hP hD hS hA (by decide) (by decide) (by decide) (Nat.le_of_ble_eq_true rfl) (Nat.le_of_ble_eq_true rfl) dX0_init_7 (fun qaa H hP hD hS => ?_)
  have hP : va_P D vwCl [(h0, .inr (0, [.null, .null, .null, .int 0, .null, .null, .null, .int 0, .int 0, .int 0, .int 0])), (qaa, .inl (cy 0, 80, .inl (fun _ => 0)))] H := hP
  have hD : va_D A [(h0, .inr (0, [.null, .null, .null, .int 0, .null, .null, .null, .int 0, .int 0, .int 0, .int 0])), (qaa, .inl (cy 0, 80, .inl (fun _ => 0)))] := hD
  refine va_putF (D := D) (ci := 0) (v := .ref qaa) (ty := .array .int) (C := RX0) (T := TX0) (N := 11) S.1 S.2.1 S.2.2.2.2 (fun w h => List.mem_cons_of_mem _ (inU0 w h)) tyX0 tyX0_ok nmX0 S.2.2.2.1 hK.1 hP hD hS 0 rfl rfl 1 (by decide) (S.2.2.2.2 _ (List.mem_cons_of_mem _ q238)) (fun _ h9 => h9) rfl hin rfl (by decide +kernel) rfl rfl (Nat.le_of_ble_eq_true rfl) dX0_init_9 (fun H locs hP hD hS => ?_)
  have hP : va_P D vwCl [(h0, .inr (0, [.null, .ref qaa, .null, .int 0, .null, .null, .null, .int 0, .int 0, .int 0, .int 0])), (qaa, .inl (cy 0, 80, .inl (fun _ => 0)))] H := hP
  have hD : va_D A [(h0, .inr (0, [.null, .ref qaa, .null, .int 0, .null, .null, .null, .int 0, .int 0, .int 0, .int 0])), (qaa, .inl (cy 0, 80, .inl (fun _ => 0)))] := hD
  refine lv_aload_n hx hb dX0_init_12 rfl (lv_at hl 0 rfl) ?_
  refine lv_bipush (v := 80) hx hb dX0_init_13 (by decide) ?_
  refine k_newz (N := 80) S hK hP hD hS hA (by decide) (by decide) (by decide) (Nat.le_of_ble_eq_true rfl) (Nat.le_of_ble_eq_true rfl) dX0_init_15 (fun qba H hP hD hS => ?_)
  have hP : va_P D vwCl [(h0, .inr (0, [.null, .ref qaa, .null, .int 0, .null, .null, .null, .int 0, .int 0, .int 0, .int 0])), (qaa, .inl (cy 0, 80, .inl (fun _ => 0))), (qba, .inl (cy 2, 80, .inl (fun _ => 0)))] H := hP
  have hD : va_D A [(h0, .inr (0, [.null, .ref qaa, .null, .int 0, .null, .null, .null, .int 0, .int 0, .int 0, .int 0])), (qaa, .inl (cy 0, 80, .inl (fun _ => 0))), (qba, .inl (cy 2, 80, .inl (fun _ => 0)))] := hD
  refine va_putF (D := D) (ci := 0) (v := .ref qba) (ty := .array .boolean) (C := RX0) (T := TX0) (N := 11) S.1 S.2.1 S.2.2.2.2 (fun w h => List.mem_cons_of_mem _ (inU0 w h)) tyX0 tyX0_ok nmX0 S.2.2.2.1 hK.1 hP hD hS 0 rfl rfl 2 (by decide) (S.2.2.2.2 _ (List.mem_cons_of_mem _ q239)) (fun _ h9 => h9) rfl hin rfl (by decide +kernel) rfl rfl (Nat.le_of_ble_eq_true rfl) dX0_init_17 (fun H locs hP hD hS => ?_)
  have hP : va_P D vwCl [(h0, .inr (0, [.null, .ref qaa, .ref qba, .int 0, .null, .null, .null, .int 0, .int 0, .int 0, .int 0])), (qaa, .inl (cy 0, 80, .inl (fun _ => 0))), (qba, .inl (cy 2, 80, .inl (fun _ => 0)))] H := hP
  have hD : va_D A [(h0, .inr (0, [.null, .ref qaa, .ref qba, .int 0, .null, .null, .null, .int 0, .int 0, .int 0, .int 0])), (qaa, .inl (cy 0, 80, .inl (fun _ => 0))), (qba, .inl (cy 2, 80, .inl (fun _ => 0)))] := hD
  refine lv_aload_n hx hb dX0_init_20 rfl (lv_at hl 0 rfl) ?_
  refine lv_iconst (v := 2) hx hb dX0_init_21 (by decide) ?_
  refine va_put (D := D) (ci := 0) (v := .int (2)) (ty := .int) (C := RX0) (T := TX0) (N := 11) S.1 S.2.1 S.2.2.2.2 (fun w h => List.mem_cons_of_mem _ (inU0 w h)) tyX0 tyX0_ok nmX0 S.2.2.2.1 hK.1 hP hD hS 0 rfl rfl 3 (by decide) (S.2.2.2.2 _ (List.mem_cons_of_mem _ q241)) (fun _ h9 => h9) rfl (by decide +kernel) rfl rfl (Nat.le_of_ble_eq_true rfl) dX0_init_22 (fun H locs hP hD hS => ?_)
  have hP : va_P D vwCl [(h0, .inr (0, [.null, .ref qaa, .ref qba, .int (2), .null, .null, .null, .int 0, .int 0, .int 0, .int 0])), (qaa, .inl (cy 0, 80, .inl (fun _ => 0))), (qba, .inl (cy 2, 80, .inl (fun _ => 0)))] H := hP
  have hD : va_D A [(h0, .inr (0, [.null, .ref qaa, .ref qba, .int (2), .null, .null, .null, .int 0, .int 0, .int 0, .int 0])), (qaa, .inl (cy 0, 80, .inl (fun _ => 0))), (qba, .inl (cy 2, 80, .inl (fun _ => 0)))] := hD
  refine lv_aload_n hx hb dX0_init_25 rfl (lv_at hl 0 rfl) ?_
  refine lv_bipush (v := 81) hx hb dX0_init_26 (by decide) ?_
  refine k_newi (N := 81) S hK hP hD hS hA (by decide) (by decide) (by decide) (Nat.le_of_ble_eq_true rfl) (Nat.le_of_ble_eq_true rfl) dX0_init_28 (fun qca H hP hD hS => ?_)
  have hP : va_P D vwCl [(h0, .inr (0, [.null, .ref qaa, .ref qba, .int (2), .null, .null, .null, .int 0, .int 0, .int 0, .int 0])), (qaa, .inl (cy 0, 80, .inl (fun _ => 0))), (qba, .inl (cy 2, 80, .inl (fun _ => 0))), (qca, .inl (cy 0, 81, .inl (fun _ => 0)))] H := hP
  have hD : va_D A [(h0, .inr (0, [.null, .ref qaa, .ref qba, .int (2), .null, .null, .null, .int 0, .int 0, .int 0, .int 0])), (qaa, .inl (cy 0, 80, .inl (fun _ => 0))), (qba, .inl (cy 2, 80, .inl (fun _ => 0))), (qca, .inl (cy 0, 81, .inl (fun _ => 0)))] := hD
  refine va_putF (D := D) (ci := 0) (v := .ref qca) (ty := .array .int) (C := RX0) (T := TX0) (N := 11) S.1 S.2.1 S.2.2.2.2 (fun w h => List.mem_cons_of_mem _ (inU0 w h)) tyX0 tyX0_ok nmX0 S.2.2.2.1 hK.1 hP hD hS 0 rfl rfl 4 (by decide) (S.2.2.2.2 _ (List.mem_cons_of_mem _ q243)) (fun _ h9 => h9) rfl hin rfl (by decide +kernel) rfl rfl (Nat.le_of_ble_eq_true rfl) dX0_init_30 (fun H locs hP hD hS => ?_)
  have hP : va_P D vwCl [(h0, .inr (0, [.null, .ref qaa, .ref qba, .int (2), .ref qca, .null, .null, .int 0, .int 0, .int 0, .int 0])), (qaa, .inl (cy 0, 80, .inl (fun _ => 0))), (qba, .inl (cy 2, 80, .inl (fun _ => 0))), (qca, .inl (cy 0, 81, .inl (fun _ => 0)))] H := hP
  have hD : va_D A [(h0, .inr (0, [.null, .ref qaa, .ref qba, .int (2), .ref qca, .null, .null, .int 0, .int 0, .int 0, .int 0])), (qaa, .inl (cy 0, 80, .inl (fun _ => 0))), (qba, .inl (cy 2, 80, .inl (fun _ => 0))), (qca, .inl (cy 0, 81, .inl (fun _ => 0)))] := hD
  refine lv_aload_n hx hb dX0_init_33 rfl (lv_at hl 0 rfl) ?_
  refine lv_bipush (v := 14) hx hb dX0_init_34 (by decide) ?_
  refine k_newi (N := 14) S hK hP hD hS hA (by decide) (by decide) (by decide) (Nat.le_of_ble_eq_true rfl) (Nat.le_of_ble_eq_true rfl) dX0_init_36 (fun qda H hP hD hS => ?_)
  have hP : va_P D vwCl [(h0, .inr (0, [.null, .ref qaa, .ref qba, .int (2), .ref qca, .null, .null, .int 0, .int 0, .int 0, .int 0])), (qaa, .inl (cy 0, 80, .inl (fun _ => 0))), (qba, .inl (cy 2, 80, .inl (fun _ => 0))), (qca, .inl (cy 0, 81, .inl (fun _ => 0))), (qda, .inl (cy 0, 14, .inl (fun _ => 0)))] H := hP
  have hD : va_D A [(h0, .inr (0, [.null, .ref qaa, .ref qba, .int (2), .ref qca, .null, .null, .int 0, .int 0, .int 0, .int 0])), (qaa, .inl (cy 0, 80, .inl (fun _ => 0))), (qba, .inl (cy 2, 80, .inl (fun _ => 0))), (qca, .inl (cy 0, 81, .inl (fun _ => 0))), (qda, .inl (cy 0, 14, .inl (fun _ => 0)))] := hD
  refine va_putF (D := D) (ci := 0) (v := .ref qda) (ty := .array .int) (C := RX0) (T := TX0) (N := 11) S.1 S.2.1 S.2.2.2.2 (fun w h => List.mem_cons_of_mem _ (inU0 w h)) tyX0 tyX0_ok nmX0 S.2.2.2.1 hK.1 hP hD hS 0 rfl rfl 5 (by decide) (S.2.2.2.2 _ (List.mem_cons_of_mem _ q244)) (fun _ h9 => h9) rfl hin rfl (by decide +kernel) rfl rfl (Nat.le_of_ble_eq_true rfl) dX0_init_38 (fun H locs hP hD hS => ?_)
  have hP : va_P D vwCl [(h0, .inr (0, [.null, .ref qaa, .ref qba, .int (2), .ref qca, .ref qda, .null, .int 0, .int 0, .int 0, .int 0])), (qaa, .inl (cy 0, 80, .inl (fun _ => 0))), (qba, .inl (cy 2, 80, .inl (fun _ => 0))), (qca, .inl (cy 0, 81, .inl (fun _ => 0))), (qda, .inl (cy 0, 14, .inl (fun _ => 0)))] H := hP
  have hD : va_D A [(h0, .inr (0, [.null, .ref qaa, .ref qba, .int (2), .ref qca, .ref qda, .null, .int 0, .int 0, .int 0, .int 0])), (qaa, .inl (cy 0, 80, .inl (fun _ => 0))), (qba, .inl (cy 2, 80, .inl (fun _ => 0))), (qca, .inl (cy 0, 81, .inl (fun _ => 0))), (qda, .inl (cy 0, 14, .inl (fun _ => 0)))] := hD
  refine lv_aload_n hx hb dX0_init_41 rfl (lv_at hl 0 rfl) ?_
  refine lv_bipush (v := 14) hx hb dX0_init_42 (by decide) ?_
  refine k_newi (N := 14) S hK hP hD hS hA (by decide) (by decide) (by decide) (Nat.le_of_ble_eq_true rfl) (Nat.le_of_ble_eq_true rfl) dX0_init_44 (fun qea H hP hD hS => ?_)
  have hP : va_P D vwCl [(h0, .inr (0, [.null, .ref qaa, .ref qba, .int (2), .ref qca, .ref qda, .null, .int 0, .int 0, .int 0, .int 0])), (qaa, .inl (cy 0, 80, .inl (fun _ => 0))), (qba, .inl (cy 2, 80, .inl (fun _ => 0))), (qca, .inl (cy 0, 81, .inl (fun _ => 0))), (qda, .inl (cy 0, 14, .inl (fun _ => 0))), (qea, .inl (cy 0, 14, .inl (fun _ => 0)))] H := hP
  have hD : va_D A [(h0, .inr (0, [.null, .ref qaa, .ref qba, .int (2), .ref qca, .ref qda, .null, .int 0, .int 0, .int 0, .int 0])), (qaa, .inl (cy 0, 80, .inl (fun _ => 0))), (qba, .inl (cy 2, 80, .inl (fun _ => 0))), (qca, .inl (cy 0, 81, .inl (fun _ => 0))), (qda, .inl (cy 0, 14, .inl (fun _ => 0))), (qea, .inl (cy 0, 14, .inl (fun _ => 0)))] := hD
  refine va_putF (D := D) (ci := 0) (v := .ref qea) (ty := .array .int) (C := RX0) (T := TX0) (N := 11) S.1 S.2.1 S.2.2.2.2 (fun w h => List.mem_cons_of_mem _ (inU0 w h)) tyX0 tyX0_ok nmX0 S.2.2.2.1 hK.1 hP hD hS 0 rfl rfl 6 (by decide) (S.2.2.2.2 _ (List.mem_cons_of_mem _ q246)) (fun _ h9 => h9) rfl hin rfl (by decide +kernel) rfl rfl (Nat.le_of_ble_eq_true rfl) dX0_init_46 (fun H locs hP hD hS => ?_)
  have hP : va_P D vwCl [(h0, .inr (0, [.null, .ref qaa, .ref qba, .int (2), .ref qca, .ref qda, .ref qea, .int 0, .int 0, .int 0, .int 0])), (qaa, .inl (cy 0, 80, .inl (fun _ => 0))), (qba, .inl (cy 2, 80, .inl (fun _ => 0))), (qca, .inl (cy 0, 81, .inl (fun _ => 0))), (qda, .inl (cy 0, 14, .inl (fun _ => 0))), (qea, .inl (cy 0, 14, .inl (fun _ => 0)))] H := hP
  have hD : va_D A [(h0, .inr (0, [.null, .ref qaa, .ref qba, .int (2), .ref qca, .ref qda, .ref qea, .int 0, .int 0, .int 0, .int 0])), (qaa, .inl (cy 0, 80, .inl (fun _ => 0))), (qba, .inl (cy 2, 80, .inl (fun _ => 0))), (qca, .inl (cy 0, 81, .inl (fun _ => 0))), (qda, .inl (cy 0, 14, .inl (fun _ => 0))), (qea, .inl (cy 0, 14, .inl (fun _ => 0)))] := hD
  refine lv_aload_n hx hb dX0_init_49 rfl (lv_at hl 0 rfl) ?_
  refine lv_iconst (v := -1) hx hb dX0_init_50 (by decide) ?_
  refine va_put (D := D) (ci := 0) (v := .int (-1)) (ty := .int) (C := RX0) (T := TX0) (N := 11) S.1 S.2.1 S.2.2.2.2 (fun w h => List.mem_cons_of_mem _ (inU0 w h)) tyX0 tyX0_ok nmX0 S.2.2.2.1 hK.1 hP hD hS 0 rfl rfl 7 (by decide) (S.2.2.2.2 _ (List.mem_cons_of_mem _ q248)) (fun _ h9 => h9) rfl (by decide +kernel) rfl rfl (Nat.le_of_ble_eq_true rfl) dX0_init_51 (fun H locs hP hD hS => ?_)
  have hP : va_P D vwCl [(h0, .inr (0, [.null, .ref qaa, .ref qba, .int (2), .ref qca, .ref qda, .ref qea, .int (-1), .int 0, .int 0, .int 0])), (qaa, .inl (cy 0, 80, .inl (fun _ => 0))), (qba, .inl (cy 2, 80, .inl (fun _ => 0))), (qca, .inl (cy 0, 81, .inl (fun _ => 0))), (qda, .inl (cy 0, 14, .inl (fun _ => 0))), (qea, .inl (cy 0, 14, .inl (fun _ => 0)))] H := hP
  have hD : va_D A [(h0, .inr (0, [.null, .ref qaa, .ref qba, .int (2), .ref qca, .ref qda, .ref qea, .int (-1), .int 0, .int 0, .int 0])), (qaa, .inl (cy 0, 80, .inl (fun _ => 0))), (qba, .inl (cy 2, 80, .inl (fun _ => 0))), (qca, .inl (cy 0, 81, .inl (fun _ => 0))), (qda, .inl (cy 0, 14, .inl (fun _ => 0))), (qea, .inl (cy 0, 14, .inl (fun _ => 0)))] := hD
  refine lv_aload_n hx hb dX0_init_54 rfl (lv_at hl 0 rfl) ?_
  refine lv_aload_n hx hb dX0_init_55 rfl (lv_at hl 1 rfl) ?_
  refine va_putF (D := D) (ci := 0) (v := .ref r1) (ty := .object "WheelCrane$Stones") (C := RX0) (T := TX0) (N := 11) S.1 S.2.1 S.2.2.2.2 (fun w h => List.mem_cons_of_mem _ (inU0 w h)) tyX0 tyX0_ok nmX0 S.2.2.2.1 hK.1 hP hD hS 0 rfl rfl 0 (by decide) (S.2.2.2.2 _ (List.mem_cons_of_mem _ q237)) (fun _ h9 => h9) rfl hin rfl (by decide +kernel) rfl rfl (Nat.le_of_ble_eq_true rfl) dX0_init_56 (fun H locs hP hD hS => ?_)
  have hP : va_P D vwCl [(h0, .inr (0, [.ref r1, .ref qaa, .ref qba, .int (2), .ref qca, .ref qda, .ref qea, .int (-1), .int 0, .int 0, .int 0])), (qaa, .inl (cy 0, 80, .inl (fun _ => 0))), (qba, .inl (cy 2, 80, .inl (fun _ => 0))), (qca, .inl (cy 0, 81, .inl (fun _ => 0))), (qda, .inl (cy 0, 14, .inl (fun _ => 0))), (qea, .inl (cy 0, 14, .inl (fun _ => 0)))] H := hP
  have hD : va_D A [(h0, .inr (0, [.ref r1, .ref qaa, .ref qba, .int (2), .ref qca, .ref qda, .ref qea, .int (-1), .int 0, .int 0, .int 0])), (qaa, .inl (cy 0, 80, .inl (fun _ => 0))), (qba, .inl (cy 2, 80, .inl (fun _ => 0))), (qca, .inl (cy 0, 81, .inl (fun _ => 0))), (qda, .inl (cy 0, 14, .inl (fun _ => 0))), (qea, .inl (cy 0, 14, .inl (fun _ => 0)))] := hD
  refine lv_aload_n hx hb dX0_init_59 rfl (lv_at hl 0 rfl) ?_
  refine va_get (v := .ref qaa) (D := D) (ci := 0) (C := RX0) (T := TX0) (N := 11) S.1 S.2.1 S.2.2.2.2 (fun w h => List.mem_cons_of_mem _ (inU0 w h)) S.2.2.2.1 hK.1 hP 0 rfl rfl 1 (by decide) (S.2.2.2.2 _ (List.mem_cons_of_mem _ q238)) (fun _ h9 => h9) rfl dX0_init_60 ?_
  refine lv_bipush (v := 8) hx hb dX0_init_63 (by decide) ?_
  have hP := hP.sub (ws' := [(h0, .inr (0, [.ref r1, .ref qaa, .ref qba, .int (2), .ref qca, .ref qda, .ref qea, .int (-1), .int 0, .int 0, .int 0])), (qba, .inl (cy 2, 80, .inl (fun _ => 0))), (qca, .inl (cy 0, 81, .inl (fun _ => 0))), (qda, .inl (cy 0, 14, .inl (fun _ => 0))), (qea, .inl (cy 0, 14, .inl (fun _ => 0)))] ++ [(qaa, .inl (cy 0, 80, .inl (fun _ => 0)))]) [0, 2, 3, 4, 5, 1] rfl
  have hD := hD.sub (ws' := [(h0, .inr (0, [.ref r1, .ref qaa, .ref qba, .int (2), .ref qca, .ref qda, .ref qea, .int (-1), .int 0, .int 0, .int 0])), (qba, .inl (cy 2, 80, .inl (fun _ => 0))), (qca, .inl (cy 0, 81, .inl (fun _ => 0))), (qda, .inl (cy 0, 14, .inl (fun _ => 0))), (qea, .inl (cy 0, 14, .inl (fun _ => 0)))] ++ [(qaa, .inl (cy 0, 80, .inl (fun _ => 0)))]) [0, 2, 3, 4, 5, 1] (by decide) rfl
  refine k_init (ws := [(h0, .inr (0, [.ref r1, .ref qaa, .ref qba, .int (2), .ref qca, .ref qda, .ref qea, .int (-1), .int 0, .int 0, .int 0])), (qba, .inl (cy 2, 80, .inl (fun _ => 0))), (qca, .inl (cy 0, 81, .inl (fun _ => 0))), (qda, .inl (cy 0, 14, .inl (fun _ => 0))), (qea, .inl (cy 0, 14, .inl (fun _ => 0)))]) (w0 := [(qaa, .inl (cy 0, 80, .inl (fun _ => 0)))]) (k_runS (rest := []) S (k_fill l D cy qaa 8 (fun _ => 0)) iJ7_fill2 q235 q234 ⟨Nat.le_of_ble_eq_true rfl, Nat.le_of_ble_eq_true rfl⟩ hK hC hP hD rfl hl.1 (Nat.le_of_ble_eq_true rfl) dX0_init_65 ⟨Nat.le_of_ble_eq_true rfl, Nat.le_of_ble_eq_true rfl⟩) hP hD hS hA (fun f H locs hf hP hD hS => ?_)
  exact k_vret (u := ((fun i => match i with | 0 => qba | 1 => qca | 2 => qda | 3 => qea | 4 => qaa | _ => 0), f)) hx hb hr hlocks hf hP hD hS dX0_init_68
def w7 (cy : Nat → ClassId) (h0 q1 q2 q3 qm : Nat) (gg : Nat → Nat → Int32) : va_W := [(h0, .inr (7, [.ref q1, .ref q2, .ref q3, .ref qm, .int 0, .int 8, .int 4])), (q1, .inl (cy 0, 5, .inl (fun _ => 0))), (q2, .inl (cy 0, 5, .inl (fun _ => 0))), (q3, .inl (cy 0, 5, .inl (fun _ => 0))), (qm, .inl (cy 3, 5, .inr (.inr (.inr (.inr (fun i => if i < 5 then some (qm + 1 + i) else none)))))), (qm + 1, .inl (cy 0, 5, .inl (gg 0))), (qm + 2, .inl (cy 0, 5, .inl (gg 1))), (qm + 3, .inl (cy 0, 5, .inl (gg 2))), (qm + 4, .inl (cy 0, 5, .inl (gg 3))), (qm + 5, .inl (cy 0, 5, .inl (gg 4)))]
theorem w7_row {cy : Nat → ClassId} {h0 q1 q2 q3 qm : Nat} {gg : Nat → Nat → Int32} {i : Nat} (hi : i < 5) : (w7 cy h0 q1 q2 q3 qm gg)[5 + i]? = some (qm + 1 + i, .inl (cy 0, 5, .inl (gg i))) := by
  match i, hi with
  | 0, _ => rfl
  | 1, _ => rfl
  | 2, _ => rfl
  | 3, _ => rfl
  | 4, _ => rfl
theorem w7_set {cy : Nat → ClassId} {h0 q1 q2 q3 qm : Nat} {gg : Nat → Nat → Int32} {i : Nat} {f : Nat → Int32} (hi : i < 5) : (w7 cy h0 q1 q2 q3 qm gg).set (5 + i) (qm + 1 + i, .inl (cy 0, 5, .inl f)) = w7 cy h0 q1 q2 q3 qm (fun a => if a = i then f else gg a) := by
  match i, hi with
  | 0, _ => rfl
  | 1, _ => rfl
  | 2, _ => rfl
  | 3, _ => rfl
  | 4, _ => rfl
def bX7 (cy : Nat → ClassId) (h0 : Nat) (u : (Nat → Nat) × (Nat → Nat → Int32)) : va_W := w7 cy h0 (u.1 0) (u.1 1) (u.1 2) (u.1 3) u.2
theorem iX7_init : YI yX7_init cX7_init 3 none 0 := ⟨q162, q7, by decide, by decide, by decide +kernel⟩
set_option maxRecDepth 100000 in
set_option maxHeartbeats 4000000 in
theorem k_X7 (l : Launch) (D : va_G) (cy : Nat → ClassId) (h0 : Nat) : Ck (U := (Nat → Nat) × (Nat → Nat → Int32)) l D cy yX7_init cX7_init 3 1 30 [.ref h0] [(h0, .inr (7, [.null, .null, .null, .null, .int 0, .int 0, .int 0]))] (fun u => ∀ a b, a < 5 → b < 5 → u.2 a b = 1) (bX7 cy h0) 9 45 := by
  refine k_enter (by decide) (Nat.le_of_ble_eq_true rfl) ?_
  intro p e s m below meth c A H locs S hr hlocks hin hA hK hC hP hD hS ls hl
  have hx := S.1
  have hb := S.2.1
  have hl : lv_has ls 3 [(0, .ref h0)] := hl
  refine lv_aload_n hx hb dX7_init_0 rfl (lv_at hl 0 rfl) ?_
  refine W.objInit S.1 S.2.1 S.2.2.2.1 (S.2.2.2.2 _ (List.mem_cons_of_mem _ q163)) (S.2.2.2.2 _ (List.mem_cons_of_mem _ q21)) (S.2.2.2.2 _ (List.mem_cons_of_mem _ q22)) rfl (by rw [S.2.2.1]; exact hl.1) rfl dX7_init_1 (Nat.le_of_ble_eq_true rfl) (Nat.le_of_ble_eq_true rfl) ?_
  refine W.eq (g2 := F0 m 4 ls []) rfl ?_
  refine lv_aload_n hx hb dX7_init_4 rfl (lv_at hl 0 rfl) ?_
  refine lv_iconst (v := 5) hx hb dX7_init_5 (by decide) ?_
  refine k_newi (N := 5) S hK hP hD hS hA (by decide) (by decide) (by decide) (Nat.le_of_ble_eq_true rfl) (Nat.le_of_ble_eq_true rfl) dX7_init_6 (fun qaa H hP hD hS => ?_)
  have hP : va_P D vwCl [(h0, .inr (7, [.null, .null, .null, .null, .int 0, .int 0, .int 0])), (qaa, .inl (cy 0, 5, .inl (fun _ => 0)))] H := hP
  have hD : va_D A [(h0, .inr (7, [.null, .null, .null, .null, .int 0, .int 0, .int 0])), (qaa, .inl (cy 0, 5, .inl (fun _ => 0)))] := hD
  refine va_putF (D := D) (ci := 7) (v := .ref qaa) (ty := .array .int) (C := RX7) (T := TX7) (N := 7) S.1 S.2.1 S.2.2.2.2 (fun w h => List.mem_cons_of_mem _ (inU7 w h)) tyX7 tyX7_ok nmX7 S.2.2.2.1 hK.1 hP hD hS 0 rfl rfl 0 (by decide) (S.2.2.2.2 _ (List.mem_cons_of_mem _ q166)) (fun _ h9 => h9) rfl hin rfl (by decide +kernel) rfl rfl (Nat.le_of_ble_eq_true rfl) dX7_init_8 (fun H locs hP hD hS => ?_)
  have hP : va_P D vwCl [(h0, .inr (7, [.ref qaa, .null, .null, .null, .int 0, .int 0, .int 0])), (qaa, .inl (cy 0, 5, .inl (fun _ => 0)))] H := hP
  have hD : va_D A [(h0, .inr (7, [.ref qaa, .null, .null, .null, .int 0, .int 0, .int 0])), (qaa, .inl (cy 0, 5, .inl (fun _ => 0)))] := hD
  refine lv_aload_n hx hb dX7_init_11 rfl (lv_at hl 0 rfl) ?_
  refine lv_iconst (v := 5) hx hb dX7_init_12 (by decide) ?_
  refine k_newi (N := 5) S hK hP hD hS hA (by decide) (by decide) (by decide) (Nat.le_of_ble_eq_true rfl) (Nat.le_of_ble_eq_true rfl) dX7_init_13 (fun qba H hP hD hS => ?_)
  have hP : va_P D vwCl [(h0, .inr (7, [.ref qaa, .null, .null, .null, .int 0, .int 0, .int 0])), (qaa, .inl (cy 0, 5, .inl (fun _ => 0))), (qba, .inl (cy 0, 5, .inl (fun _ => 0)))] H := hP
  have hD : va_D A [(h0, .inr (7, [.ref qaa, .null, .null, .null, .int 0, .int 0, .int 0])), (qaa, .inl (cy 0, 5, .inl (fun _ => 0))), (qba, .inl (cy 0, 5, .inl (fun _ => 0)))] := hD
  refine va_putF (D := D) (ci := 7) (v := .ref qba) (ty := .array .int) (C := RX7) (T := TX7) (N := 7) S.1 S.2.1 S.2.2.2.2 (fun w h => List.mem_cons_of_mem _ (inU7 w h)) tyX7 tyX7_ok nmX7 S.2.2.2.1 hK.1 hP hD hS 0 rfl rfl 1 (by decide) (S.2.2.2.2 _ (List.mem_cons_of_mem _ q167)) (fun _ h9 => h9) rfl hin rfl (by decide +kernel) rfl rfl (Nat.le_of_ble_eq_true rfl) dX7_init_15 (fun H locs hP hD hS => ?_)
  have hP : va_P D vwCl [(h0, .inr (7, [.ref qaa, .ref qba, .null, .null, .int 0, .int 0, .int 0])), (qaa, .inl (cy 0, 5, .inl (fun _ => 0))), (qba, .inl (cy 0, 5, .inl (fun _ => 0)))] H := hP
  have hD : va_D A [(h0, .inr (7, [.ref qaa, .ref qba, .null, .null, .int 0, .int 0, .int 0])), (qaa, .inl (cy 0, 5, .inl (fun _ => 0))), (qba, .inl (cy 0, 5, .inl (fun _ => 0)))] := hD
  refine lv_aload_n hx hb dX7_init_18 rfl (lv_at hl 0 rfl) ?_
  refine lv_iconst (v := 5) hx hb dX7_init_19 (by decide) ?_
  refine k_newi (N := 5) S hK hP hD hS hA (by decide) (by decide) (by decide) (Nat.le_of_ble_eq_true rfl) (Nat.le_of_ble_eq_true rfl) dX7_init_20 (fun qca H hP hD hS => ?_)
  have hP : va_P D vwCl [(h0, .inr (7, [.ref qaa, .ref qba, .null, .null, .int 0, .int 0, .int 0])), (qaa, .inl (cy 0, 5, .inl (fun _ => 0))), (qba, .inl (cy 0, 5, .inl (fun _ => 0))), (qca, .inl (cy 0, 5, .inl (fun _ => 0)))] H := hP
  have hD : va_D A [(h0, .inr (7, [.ref qaa, .ref qba, .null, .null, .int 0, .int 0, .int 0])), (qaa, .inl (cy 0, 5, .inl (fun _ => 0))), (qba, .inl (cy 0, 5, .inl (fun _ => 0))), (qca, .inl (cy 0, 5, .inl (fun _ => 0)))] := hD
  refine va_putF (D := D) (ci := 7) (v := .ref qca) (ty := .array .int) (C := RX7) (T := TX7) (N := 7) S.1 S.2.1 S.2.2.2.2 (fun w h => List.mem_cons_of_mem _ (inU7 w h)) tyX7 tyX7_ok nmX7 S.2.2.2.1 hK.1 hP hD hS 0 rfl rfl 2 (by decide) (S.2.2.2.2 _ (List.mem_cons_of_mem _ q168)) (fun _ h9 => h9) rfl hin rfl (by decide +kernel) rfl rfl (Nat.le_of_ble_eq_true rfl) dX7_init_22 (fun H locs hP hD hS => ?_)
  have hP : va_P D vwCl [(h0, .inr (7, [.ref qaa, .ref qba, .ref qca, .null, .int 0, .int 0, .int 0])), (qaa, .inl (cy 0, 5, .inl (fun _ => 0))), (qba, .inl (cy 0, 5, .inl (fun _ => 0))), (qca, .inl (cy 0, 5, .inl (fun _ => 0)))] H := hP
  have hD : va_D A [(h0, .inr (7, [.ref qaa, .ref qba, .ref qca, .null, .int 0, .int 0, .int 0])), (qaa, .inl (cy 0, 5, .inl (fun _ => 0))), (qba, .inl (cy 0, 5, .inl (fun _ => 0))), (qca, .inl (cy 0, 5, .inl (fun _ => 0)))] := hD
  refine lv_aload_n hx hb dX7_init_25 rfl (lv_at hl 0 rfl) ?_
  refine lv_iconst (v := 5) hx hb dX7_init_26 (by decide) ?_
  refine lv_iconst (v := 5) hx hb dX7_init_27 (by decide) ?_
  refine k_multi S hK hC hP hD hS hA (Nat.le_of_ble_eq_true rfl) (Nat.le_of_ble_eq_true rfl) q164 dX7_init_28 (fun qm H locs hP hD hS => ?_)
  have hP : va_P D vwCl [(h0, .inr (7, [.ref qaa, .ref qba, .ref qca, .null, .int 0, .int 0, .int 0])), (qaa, .inl (cy 0, 5, .inl (fun _ => 0))), (qba, .inl (cy 0, 5, .inl (fun _ => 0))), (qca, .inl (cy 0, 5, .inl (fun _ => 0))), (qm, .inl (cy 3, 5, .inr (.inr (.inr (.inr (fun i => if i < 5 then some (qm + 1 + i) else none)))))), (qm + 1, .inl (cy 0, 5, .inl (fun _ => 0))), (qm + 2, .inl (cy 0, 5, .inl (fun _ => 0))), (qm + 3, .inl (cy 0, 5, .inl (fun _ => 0))), (qm + 4, .inl (cy 0, 5, .inl (fun _ => 0))), (qm + 5, .inl (cy 0, 5, .inl (fun _ => 0)))] H := hP
  have hD : va_D A [(h0, .inr (7, [.ref qaa, .ref qba, .ref qca, .null, .int 0, .int 0, .int 0])), (qaa, .inl (cy 0, 5, .inl (fun _ => 0))), (qba, .inl (cy 0, 5, .inl (fun _ => 0))), (qca, .inl (cy 0, 5, .inl (fun _ => 0))), (qm, .inl (cy 3, 5, .inr (.inr (.inr (.inr (fun i => if i < 5 then some (qm + 1 + i) else none)))))), (qm + 1, .inl (cy 0, 5, .inl (fun _ => 0))), (qm + 2, .inl (cy 0, 5, .inl (fun _ => 0))), (qm + 3, .inl (cy 0, 5, .inl (fun _ => 0))), (qm + 4, .inl (cy 0, 5, .inl (fun _ => 0))), (qm + 5, .inl (cy 0, 5, .inl (fun _ => 0)))] := hD
  refine va_putF (D := D) (ci := 7) (v := .ref qm) (ty := .array (.array .int)) (C := RX7) (T := TX7) (N := 7) S.1 S.2.1 S.2.2.2.2 (fun w h => List.mem_cons_of_mem _ (inU7 w h)) tyX7 tyX7_ok nmX7 S.2.2.2.1 hK.1 hP hD hS 0 rfl rfl 3 (by decide) (S.2.2.2.2 _ (List.mem_cons_of_mem _ q169)) (fun _ h9 => h9) rfl hin rfl (by decide +kernel) rfl rfl (Nat.le_of_ble_eq_true rfl) dX7_init_32 (fun H locs hP hD hS => ?_)
  have hP : va_P D vwCl [(h0, .inr (7, [.ref qaa, .ref qba, .ref qca, .ref qm, .int 0, .int 0, .int 0])), (qaa, .inl (cy 0, 5, .inl (fun _ => 0))), (qba, .inl (cy 0, 5, .inl (fun _ => 0))), (qca, .inl (cy 0, 5, .inl (fun _ => 0))), (qm, .inl (cy 3, 5, .inr (.inr (.inr (.inr (fun i => if i < 5 then some (qm + 1 + i) else none)))))), (qm + 1, .inl (cy 0, 5, .inl (fun _ => 0))), (qm + 2, .inl (cy 0, 5, .inl (fun _ => 0))), (qm + 3, .inl (cy 0, 5, .inl (fun _ => 0))), (qm + 4, .inl (cy 0, 5, .inl (fun _ => 0))), (qm + 5, .inl (cy 0, 5, .inl (fun _ => 0)))] H := hP
  have hD : va_D A [(h0, .inr (7, [.ref qaa, .ref qba, .ref qca, .ref qm, .int 0, .int 0, .int 0])), (qaa, .inl (cy 0, 5, .inl (fun _ => 0))), (qba, .inl (cy 0, 5, .inl (fun _ => 0))), (qca, .inl (cy 0, 5, .inl (fun _ => 0))), (qm, .inl (cy 3, 5, .inr (.inr (.inr (.inr (fun i => if i < 5 then some (qm + 1 + i) else none)))))), (qm + 1, .inl (cy 0, 5, .inl (fun _ => 0))), (qm + 2, .inl (cy 0, 5, .inl (fun _ => 0))), (qm + 3, .inl (cy 0, 5, .inl (fun _ => 0))), (qm + 4, .inl (cy 0, 5, .inl (fun _ => 0))), (qm + 5, .inl (cy 0, 5, .inl (fun _ => 0)))] := hD
  refine lv_aload_n hx hb dX7_init_35 rfl (lv_at hl 0 rfl) ?_
  refine lv_bipush (v := 8) hx hb dX7_init_36 (by decide) ?_
  refine va_put (D := D) (ci := 7) (v := .int (8)) (ty := .int) (C := RX7) (T := TX7) (N := 7) S.1 S.2.1 S.2.2.2.2 (fun w h => List.mem_cons_of_mem _ (inU7 w h)) tyX7 tyX7_ok nmX7 S.2.2.2.1 hK.1 hP hD hS 0 rfl rfl 5 (by decide) (S.2.2.2.2 _ (List.mem_cons_of_mem _ q174)) (fun _ h9 => h9) rfl (by decide +kernel) rfl rfl (Nat.le_of_ble_eq_true rfl) dX7_init_38 (fun H locs hP hD hS => ?_)
  have hP : va_P D vwCl [(h0, .inr (7, [.ref qaa, .ref qba, .ref qca, .ref qm, .int 0, .int (8), .int 0])), (qaa, .inl (cy 0, 5, .inl (fun _ => 0))), (qba, .inl (cy 0, 5, .inl (fun _ => 0))), (qca, .inl (cy 0, 5, .inl (fun _ => 0))), (qm, .inl (cy 3, 5, .inr (.inr (.inr (.inr (fun i => if i < 5 then some (qm + 1 + i) else none)))))), (qm + 1, .inl (cy 0, 5, .inl (fun _ => 0))), (qm + 2, .inl (cy 0, 5, .inl (fun _ => 0))), (qm + 3, .inl (cy 0, 5, .inl (fun _ => 0))), (qm + 4, .inl (cy 0, 5, .inl (fun _ => 0))), (qm + 5, .inl (cy 0, 5, .inl (fun _ => 0)))] H := hP
  have hD : va_D A [(h0, .inr (7, [.ref qaa, .ref qba, .ref qca, .ref qm, .int 0, .int (8), .int 0])), (qaa, .inl (cy 0, 5, .inl (fun _ => 0))), (qba, .inl (cy 0, 5, .inl (fun _ => 0))), (qca, .inl (cy 0, 5, .inl (fun _ => 0))), (qm, .inl (cy 3, 5, .inr (.inr (.inr (.inr (fun i => if i < 5 then some (qm + 1 + i) else none)))))), (qm + 1, .inl (cy 0, 5, .inl (fun _ => 0))), (qm + 2, .inl (cy 0, 5, .inl (fun _ => 0))), (qm + 3, .inl (cy 0, 5, .inl (fun _ => 0))), (qm + 4, .inl (cy 0, 5, .inl (fun _ => 0))), (qm + 5, .inl (cy 0, 5, .inl (fun _ => 0)))] := hD
  refine lv_aload_n hx hb dX7_init_41 rfl (lv_at hl 0 rfl) ?_
  refine lv_iconst (v := 4) hx hb dX7_init_42 (by decide) ?_
  refine va_put (D := D) (ci := 7) (v := .int (4)) (ty := .int) (C := RX7) (T := TX7) (N := 7) S.1 S.2.1 S.2.2.2.2 (fun w h => List.mem_cons_of_mem _ (inU7 w h)) tyX7 tyX7_ok nmX7 S.2.2.2.1 hK.1 hP hD hS 0 rfl rfl 6 (by decide) (S.2.2.2.2 _ (List.mem_cons_of_mem _ q176)) (fun _ h9 => h9) rfl (by decide +kernel) rfl rfl (Nat.le_of_ble_eq_true rfl) dX7_init_43 (fun H locs hP hD hS => ?_)
  have hP : va_P D vwCl [(h0, .inr (7, [.ref qaa, .ref qba, .ref qca, .ref qm, .int 0, .int (8), .int (4)])), (qaa, .inl (cy 0, 5, .inl (fun _ => 0))), (qba, .inl (cy 0, 5, .inl (fun _ => 0))), (qca, .inl (cy 0, 5, .inl (fun _ => 0))), (qm, .inl (cy 3, 5, .inr (.inr (.inr (.inr (fun i => if i < 5 then some (qm + 1 + i) else none)))))), (qm + 1, .inl (cy 0, 5, .inl (fun _ => 0))), (qm + 2, .inl (cy 0, 5, .inl (fun _ => 0))), (qm + 3, .inl (cy 0, 5, .inl (fun _ => 0))), (qm + 4, .inl (cy 0, 5, .inl (fun _ => 0))), (qm + 5, .inl (cy 0, 5, .inl (fun _ => 0)))] H := hP
  have hD : va_D A [(h0, .inr (7, [.ref qaa, .ref qba, .ref qca, .ref qm, .int 0, .int (8), .int (4)])), (qaa, .inl (cy 0, 5, .inl (fun _ => 0))), (qba, .inl (cy 0, 5, .inl (fun _ => 0))), (qca, .inl (cy 0, 5, .inl (fun _ => 0))), (qm, .inl (cy 3, 5, .inr (.inr (.inr (.inr (fun i => if i < 5 then some (qm + 1 + i) else none)))))), (qm + 1, .inl (cy 0, 5, .inl (fun _ => 0))), (qm + 2, .inl (cy 0, 5, .inl (fun _ => 0))), (qm + 3, .inl (cy 0, 5, .inl (fun _ => 0))), (qm + 4, .inl (cy 0, 5, .inl (fun _ => 0))), (qm + 5, .inl (cy 0, 5, .inl (fun _ => 0)))] := hD
  have hP : va_P D vwCl (w7 cy h0 qaa qba qca qm (fun _ _ => 0)) H := hP
  have hD : va_D A (w7 cy h0 qaa qba qca qm (fun _ _ => 0)) := hD
  have LB : ∀ (a : Nat) (ha : a < 5) (KK : ∀ (gg : Nat → Nat → Int32) (H : Heap) (locs : List Loc) (ls : Array Slot), (∀ x y, x < a + 1 → y < 5 → gg x y = 1) → va_P D vwCl (w7 cy h0 qaa qba qca qm gg) H → va_D A (w7 cy h0 qaa qba qca qm gg) → va_S A s.heap H locs → lv_has ls 3 [(0, .ref h0), (1, .int (nI (a + 1)))] → W p l e (Rm 1 30 9 45) s m [Value.ref h0].toArray below meth c H locs 9 45 (Zk D (fun u : (Nat → Nat) × (Nat → Nat → Int32) => ∀ a b, a < 5 → b < 5 → u.2 a b = 1) (bX7 cy h0) A below [Value.ref h0].toArray s 9 45) (F0 m 48 ls [])) (n b : Nat) (gg : Nat → Nat → Int32) (H : Heap) (locs : List Loc) (ls : Array Slot), b + n = 5 → (∀ x y, x < a → y < 5 → gg x y = 1) → (∀ y, y < b → gg a y = 1) → va_P D vwCl (w7 cy h0 qaa qba qca qm gg) H → va_D A (w7 cy h0 qaa qba qca qm gg) → va_S A s.heap H locs → lv_has ls 3 [(0, .ref h0), (1, .int (nI a)), (2, .int (nI b))] → W p l e (Rm 1 30 9 45) s m [Value.ref h0].toArray below meth c H locs 9 45 (Zk D (fun u : (Nat → Nat) × (Nat → Nat → Int32) => ∀ a b, a < 5 → b < 5 → u.2 a b = 1) (bX7 cy h0) A below [Value.ref h0].toArray s 9 45) (F0 m 55 ls []) := by
    intro a ha KK n
    induction n with
    | zero =>
      intro b gg H locs ls h1 h2 h3 hP hD hS hl
      have : b = 5 := by omega
      subst this
      refine lv_iload_n hx hb dX7_init_55 rfl (lv_at hl 2 rfl) ?_
      refine lv_iconst (v := 5) hx hb dX7_init_56 (by decide) ?_
      refine lv_icmp_ge (tgt := 75) hx hb dX7_init_57 (by decide) (fun _ => ?_) (fun c9 => absurd (show (5 : Int32) ≤ nI 5 by decide) c9)
      refine lv_iinc (v := nI (a + 1)) (lv' := [(1, .int (nI (a + 1))), (0, .ref h0), (2, .int (nI 5))]) hx hb dX7_init_75 hl (k := 1) rfl (nI_1 a) (by decide) rfl (fun ls hl => ?_)
      refine lv_goto (tgt := 48) hx hb dX7_init_78 (by decide) ?_
      refine KK gg H locs ls (fun x y hx' hy => ?_) hP hD hS (lv_sub hl [1, 0] rfl)
      by_cases q : x = a
      · subst q; exact h3 y hy
      · exact h2 x y (by omega) hy
    | succ n ih =>
      intro b gg H locs ls h1 h2 h3 hP hD hS hl
      refine lv_iload_n hx hb dX7_init_55 rfl (lv_at hl 2 rfl) ?_
      refine lv_iconst (v := 5) hx hb dX7_init_56 (by decide) ?_
      refine lv_icmp_ge (tgt := 75) hx hb dX7_init_57 (by decide) (fun c9 => absurd c9 (nI_ge (b := 5) (by omega) (by decide))) (fun _ => ?_)
      refine lv_aload_n hx hb dX7_init_60 rfl (lv_at hl 0 rfl) ?_
      refine va_get (v := .ref qm) (D := D) (ci := 7) (C := RX7) (T := TX7) (N := 7) S.1 S.2.1 S.2.2.2.2 (fun w h => List.mem_cons_of_mem _ (inU7 w h)) S.2.2.2.1 hK.1 hP 0 rfl rfl 3 (by decide) (S.2.2.2.2 _ (List.mem_cons_of_mem _ q169)) (fun _ h9 => h9) rfl dX7_init_61 ?_
      refine lv_iload_n hx hb dX7_init_64 rfl (lv_at hl 1 rfl) ?_
      have hin5 : vp_in (nI a) 5 := vp_in_nI ha (by decide)
      have hca : (nI a).toNatClampNeg = a := nI_clamp (by omega)
      refine W.aald (v := va_rf (if (nI a).toNatClampNeg < 5 then some (qm + 1 + (nI a).toNatClampNeg) else none)) (ty := .array .int) S.1 S.2.1 (hP 4 _ rfl) ((hK.1.2 3 _ rfl).1 5 (fun j => va_rf (if j < 5 then some (qm + 1 + j) else none))) rfl (fun q => by cases q) (by show ¬ (nI a < 0 ∨ (arrV _ _ _).slots.size ≤ _); rw [arrV_size]; exact hin5) (by show (arrV _ _ _).slots[_]? = _; rw [arrV_read _ _ (by rw [hca]; exact ha)]) rfl rfl dX7_init_65 ?_
      rw [hca, if_pos ha]
      refine W.eq (g2 := F0 m 66 ls [.ref (qm + 1 + a)]) rfl ?_
      refine lv_iload_n hx hb dX7_init_66 rfl (lv_at hl 2 rfl) ?_
      refine lv_iconst (v := 1) hx hb dX7_init_67 (by decide) ?_
      refine va_iast S.1 S.2.1 hK.1 hP hD hS (5 + a) 0 (w7_row ha) rfl (vp_in_nI (show b < 5 by omega) (by decide)) dX7_init_68 (fun H locs hP hD hS => ?_)
      rw [w7_set ha] at hP hD
      refine lv_iinc (v := nI (b + 1)) (lv' := [(2, .int (nI (b + 1))), (0, .ref h0), (1, .int (nI a))]) hx hb dX7_init_69 hl (k := 2) rfl (nI_1 b) (by decide) rfl (fun ls hl => ?_)
      refine lv_goto (tgt := 55) hx hb dX7_init_72 (by decide) ?_
      refine ih (b + 1) _ H locs ls (by omega) (fun x y hx' hy => ?_) (fun y hy => ?_) hP hD hS (lv_sub hl [1, 2, 0] rfl)
      · show (if x = a then _ else gg x) y = 1
        rw [if_neg (by omega)]; exact h2 x y hx' hy
      · show (if a = a then upd (gg a) (nI b).toNatClampNeg 1 else gg a) y = 1
        rw [if_pos rfl, nI_clamp (by omega)]
        by_cases q : y = b
        · subst q; exact pk_us
        · rw [pk_un q]; exact h3 y (by omega)
  have LO : ∀ (n a : Nat) (gg : Nat → Nat → Int32) (H : Heap) (locs : List Loc) (ls : Array Slot), a + n = 5 → (∀ x y, x < a → y < 5 → gg x y = 1) → va_P D vwCl (w7 cy h0 qaa qba qca qm gg) H → va_D A (w7 cy h0 qaa qba qca qm gg) → va_S A s.heap H locs → lv_has ls 3 [(0, .ref h0), (1, .int (nI a))] → W p l e (Rm 1 30 9 45) s m [Value.ref h0].toArray below meth c H locs 9 45 (Zk D (fun u : (Nat → Nat) × (Nat → Nat → Int32) => ∀ a b, a < 5 → b < 5 → u.2 a b = 1) (bX7 cy h0) A below [Value.ref h0].toArray s 9 45) (F0 m 48 ls []) := by
    intro n
    induction n with
    | zero =>
      intro a gg H locs ls h1 h2 hP hD hS hl
      have : a = 5 := by omega
      subst this
      refine lv_iload_n hx hb dX7_init_48 rfl (lv_at hl 1 rfl) ?_
      refine lv_iconst (v := 5) hx hb dX7_init_49 (by decide) ?_
      refine lv_icmp_ge (tgt := 81) hx hb dX7_init_50 (by decide) (fun _ => ?_) (fun c9 => absurd (show (5 : Int32) ≤ nI 5 by decide) c9)
      exact k_vret (u := ((fun i => match i with | 0 => qaa | 1 => qba | 2 => qca | 3 => qm | _ => 0), gg)) hx hb hr hlocks h2 hP hD hS dX7_init_81
    | succ n ih =>
      intro a gg H locs ls h1 h2 hP hD hS hl
      refine lv_iload_n hx hb dX7_init_48 rfl (lv_at hl 1 rfl) ?_
      refine lv_iconst (v := 5) hx hb dX7_init_49 (by decide) ?_
      refine lv_icmp_ge (tgt := 81) hx hb dX7_init_50 (by decide) (fun c9 => absurd c9 (nI_ge (b := 5) (by omega) (by decide))) (fun _ => ?_)
      refine lv_iconst (v := 0) hx hb dX7_init_53 (by decide) ?_
      refine lv_istore_n (lv' := [(2, .int 0), (0, .ref h0), (1, .int (nI a))]) hx hb dX7_init_54 rfl hl (by decide) rfl (fun ls hl => ?_)
      exact LB a (by omega) (fun gg H locs ls h2 hP hD hS hl => ih (a + 1) gg H locs ls (by omega) h2 hP hD hS hl) 5 0 gg H locs ls (by omega) h2 (fun y hy => by omega) hP hD hS (lv_sub hl [1, 2, 0] rfl)
  refine lv_iconst (v := 0) hx hb dX7_init_46 (by decide) ?_
  refine lv_istore_n (lv' := [(1, .int 0), (0, .ref h0)]) hx hb dX7_init_47 rfl hl (by decide) rfl (fun ls hl => ?_)
  exact LO 5 0 (fun _ _ => 0) H locs ls (by omega) (fun x y hx' => by omega) hP hD hS (lv_sub hl [1, 0] rfl)
