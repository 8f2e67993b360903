theorem fl_X11_order_266 : pFL wsX11_order RX11 266 1 1 := ⟨RX1, TX1, 7, hi_X11_order_1, rfl, by decide, by decide +kernel⟩
theorem hi_X11_order_4 : ∀ w ∈ u_ws RX4 TX4 2, w ∈ wsX11_order := fun w h => of_decide_eq_true (List.all_eq_true.mp (by decide +kernel : (u_ws RX4 TX4 2).all (fun w => decide (w ∈ wsX11_order)) = true) w h)
theorem fl_X11_order_269 : pFL wsX11_order RX11 269 4 0 := ⟨RX4, TX4, 2, hi_X11_order_4, rfl, by decide, by decide +kernel⟩
theorem mf_X11_order : pMF yX11_order wsX11_order cX11_order 3 (some .int) 2 := ⟨⟨_, rfl⟩, by decide +kernel, by decide, by decide +kernel, by decide +kernel, by decide +kernel⟩
def f_X11_order (S : PS) (v1 : Int32) (v2 : Int32) : Option (Int32 × PS) :=
  pbnd (f_X11_isWithin S v1 0 3) (fun r1 S_1 => if r1 = (0 : Int32) then (some ((-1), S_1)) else (if (0 : Int32) ≤ v2 then (if v2 < (S_1.1 4) then (pbnd (f_X4_arrange S_1 v1) (fun _ S_5 => pgd (pin v2 16) (pgd (pin ((S_5.2 30) v2.toNatClampNeg) 16) (some ((S_5.2 2) ((S_5.2 30) v2.toNatClampNeg).toNatClampNeg, S_5))))) else (some ((-2), S_1))) else (some ((-1), S_1))))
set_option maxRecDepth 100000 in
theorem c_X11_order (l : Launch) (D : va_G) (dA : Nat → ClassId) (ad : Nat → Nat) (S : PS) (v1 : Int32) (v2 : Int32) {P : (Int32 × PS) → Prop} (hf : pO (f_X11_order S v1 v2) P) : CtI l D dA ad yX11_order wsX11_order 5 [.ref 0, .int v1, .int v2] (hX S) (fun r h' => ∃ S' : PS, h' = hX S' ∧ P (r, S')) := by
  refine CtI_of mf_X11_order rfl rfl (Nat.le_of_ble_eq_true rfl) rfl (hX_len S) ?_
  unfold f_X11_order at hf
  refine E_iload_n dX11_order_0 rfl ?_
  refine E_iconst (v := 0) dX11_order_1 (by decide) ?_
  refine E_iconst (v := 3) dX11_order_2 (by decide) ?_
  refine E_callSI (st := []) (c_X11_isWithin l D dA ad S v1 0 3 (pO_bnd hf)) mf_X11_isWithin rfl gX11_order_X11_isWithin (by omega) rfl (Nat.le_of_ble_eq_true rfl) (by rfl) dX11_order_3 (fun r1 h1 q1 => ?_)
  obtain ⟨S_1, rfl, hf⟩ := q1
  dsimp only at hf
  refine E_if_eq (tgt := 13) dX11_order_6 (by decide) (fun c_2 => ?_) (fun c_2 => ?_)
  · have hf := pO_pos c_2 hf
    refine E_iconst (v := (-1)) dX11_order_13 (by decide) ?_
    exact E_iret rfl dX11_order_14 ⟨_, rfl, hf⟩
  · have hf := pO_neg c_2 hf
    refine E_iload_n dX11_order_9 rfl ?_
    refine E_if_ge (tgt := 15) dX11_order_10 (by decide) (fun c_3 => ?_) (fun c_3 => ?_)
    · have hf := pO_pos c_3 hf
      refine E_iload_n dX11_order_15 rfl ?_
      refine E_aload_n dX11_order_16 rfl ?_
      refine E_getf (v := .ref 1) dX11_order_17 fl_X11_order_12 rfl rfl ?_
      refine E_getf (v := .ref 5) dX11_order_20 fl_X11_order_131 rfl rfl ?_
      refine E_getf (v := .int (S_1.1 4)) dX11_order_23 fl_X11_order_140 rfl rfl ?_
      refine E_icmp_lt (tgt := 32) dX11_order_26 (by decide) (fun c_4 => ?_) (fun c_4 => ?_)
      · have hf := pO_pos c_4 hf
        refine E_aload_n dX11_order_32 rfl ?_
        refine E_getf (v := .ref 42) dX11_order_33 fl_X11_order_42 rfl rfl ?_
        refine E_aload_n dX11_order_36 rfl ?_
        refine E_getf (v := .ref 1) dX11_order_37 fl_X11_order_12 rfl rfl ?_
        refine E_iload_n dX11_order_40 rfl ?_
        refine E_callVV (st := []) (c_X4_arrange l D dA ad S_1 v1 (pO_bnd hf)) mf_X4_arrange rfl rfl gX11_order_X4_arrange (pRc.of (ci := 4) rfl rfl) (by omega) rfl (Nat.le_of_ble_eq_true rfl) (by rfl) dX11_order_41 (fun h5 q5 => ?_)
        obtain ⟨r5, S_5, rfl, hf⟩ := q5
        dsimp only at hf
        refine E_aload_n dX11_order_44 rfl ?_
        refine E_getf (v := .ref 1) dX11_order_45 fl_X11_order_12 rfl rfl ?_
        refine E_getf (v := .ref 5) dX11_order_48 fl_X11_order_131 rfl rfl ?_
        refine E_getf (v := .ref 6) dX11_order_51 fl_X11_order_266 rfl rfl ?_
        refine E_aload_n dX11_order_54 rfl ?_
        refine E_getf (v := .ref 42) dX11_order_55 fl_X11_order_42 rfl rfl ?_
        refine E_getf (v := .ref 43) dX11_order_58 fl_X11_order_269 rfl rfl ?_
        refine E_iload_n dX11_order_61 rfl ?_
        obtain ⟨hi_6, hf⟩ := pO_gd hf
        refine E_iald (n0 := 16) (f := S_5.2 30) dX11_order_62 rfl (pin_in hi_6) ?_
        obtain ⟨hi_7, hf⟩ := pO_gd hf
        refine E_iald (n0 := 16) (f := S_5.2 2) dX11_order_63 rfl (pin_in hi_7) ?_
        exact E_iret rfl dX11_order_64 ⟨_, rfl, hf⟩
      · have hf := pO_neg c_4 hf
        refine E_bipush (v := (-2)) dX11_order_29 (by decide) ?_
        exact E_iret rfl dX11_order_31 ⟨_, rfl, hf⟩
    · have hf := pO_neg c_3 hf
      refine E_iconst (v := (-1)) dX11_order_13 (by decide) ?_
      exact E_iret rfl dX11_order_14 ⟨_, rfl, hf⟩
theorem hi_X11_next_11 : ∀ w ∈ u_ws RX11 TX11 10, w ∈ wsX11_next := fun w h => of_decide_eq_true (List.all_eq_true.mp (by decide +kernel : (u_ws RX11 TX11 10).all (fun w => decide (w ∈ wsX11_next)) = true) w h)
theorem fl_X11_next_12 : pFL wsX11_next RX11 12 11 0 := ⟨RX11, TX11, 10, hi_X11_next_11, rfl, by decide, by decide +kernel⟩
theorem hi_X11_next_0 : ∀ w ∈ u_ws RX0 TX0 3, w ∈ wsX11_next := fun w h => of_decide_eq_true (List.all_eq_true.mp (by decide +kernel : (u_ws RX0 TX0 3).all (fun w => decide (w ∈ wsX11_next)) = true) w h)
theorem fl_X11_next_131 : pFL wsX11_next RX11 131 0 1 := ⟨RX0, TX0, 3, hi_X11_next_0, rfl, by decide, by decide +kernel⟩
theorem hi_X11_next_1 : ∀ w ∈ u_ws RX1 TX1 7, w ∈ wsX11_next := fun w h => of_decide_eq_true (List.all_eq_true.mp (by decide +kernel : (u_ws RX1 TX1 7).all (fun w => decide (w ∈ wsX11_next)) = true) w h)
theorem fl_X11_next_140 : pFL wsX11_next RX11 140 1 0 := ⟨RX1, TX1, 7, hi_X11_next_1, rfl, by decide, by decide +kernel⟩
theorem fl_X11_next_266 : pFL wsX11_next RX11 266 1 1 := ⟨RX1, TX1, 7, hi_X11_next_1, rfl, by decide, by decide +kernel⟩
theorem mf_X11_next : pMF yX11_next wsX11_next cX11_next 3 (some .int) 1 := ⟨⟨_, rfl⟩, by decide +kernel, by decide, by decide +kernel, by decide +kernel, by decide +kernel⟩
def f_X11_next (S : PS) (v1 : Int32) : Option (Int32 × PS) :=
  if v1 = (0 : Int32) then (pbnd (f_X1_placeBehind S v1) (fun r2 S_2 => if (S_2.1 4) ≤ r2 then (some ((-2), S_2)) else (pgd (pin r2 16) (some ((S_2.2 2) r2.toNatClampNeg, S_2))))) else (pbnd (f_X11_isName S v1) (fun r5 S_5 => if r5 = (0 : Int32) then (some ((-1), S_5)) else (pbnd (f_X1_placeBehind S_5 v1) (fun r7 S_7 => if (S_7.1 4) ≤ r7 then (some ((-2), S_7)) else (pgd (pin r7 16) (some ((S_7.2 2) r7.toNatClampNeg, S_7)))))))
set_option maxRecDepth 100000 in
theorem c_X11_next (l : Launch) (D : va_G) (dA : Nat → ClassId) (ad : Nat → Nat) (S : PS) (v1 : Int32) {P : (Int32 × PS) → Prop} (hf : pO (f_X11_next S v1) P) : CtI l D dA ad yX11_next wsX11_next 2 [.ref 0, .int v1] (hX S) (fun r h' => ∃ S' : PS, h' = hX S' ∧ P (r, S')) := by
  refine CtI_of mf_X11_next rfl rfl (Nat.le_of_ble_eq_true rfl) rfl (hX_len S) ?_
  unfold f_X11_next at hf
  refine E_iload_n dX11_next_0 rfl ?_
  refine E_if_eq (tgt := 13) dX11_next_1 (by decide) (fun c_1 => ?_) (fun c_1 => ?_)
  · have hf := pO_pos c_1 hf
    refine E_aload_n dX11_next_13 rfl ?_
    refine E_getf (v := .ref 1) dX11_next_14 fl_X11_next_12 rfl rfl ?_
    refine E_getf (v := .ref 5) dX11_next_17 fl_X11_next_131 rfl rfl ?_
    refine E_iload_n dX11_next_20 rfl ?_
    refine E_callVI (st := []) (c_X1_placeBehind l D dA ad S v1 (pO_bnd hf)) mf_X1_placeBehind rfl rfl gX11_next_X1_placeBehind (pRc.of (ci := 1) rfl rfl) (by omega) rfl (Nat.le_of_ble_eq_true rfl) (by rfl) dX11_next_21 (fun r2 h2 q2 => ?_)
    obtain ⟨S_2, rfl, hf⟩ := q2
    dsimp only at hf
    refine E_istore_n (ls' := [(0, .ref 0), (1, .int v1), (2, .int r2)]) dX11_next_24 (by decide) rfl ?_
    refine E_iload_n dX11_next_25 rfl ?_
    refine E_aload_n dX11_next_26 rfl ?_
    refine E_getf (v := .ref 1) dX11_next_27 fl_X11_next_12 rfl rfl ?_
    refine E_getf (v := .ref 5) dX11_next_30 fl_X11_next_131 rfl rfl ?_
    refine E_getf (v := .int (S_2.1 4)) dX11_next_33 fl_X11_next_140 rfl rfl ?_
    refine E_icmp_ge (tgt := 54) dX11_next_36 (by decide) (fun c_3 => ?_) (fun c_3 => ?_)
    · have hf := pO_pos c_3 hf
      refine E_bipush (v := (-2)) dX11_next_54 (by decide) ?_
      exact E_iret rfl dX11_next_56 ⟨_, rfl, hf⟩
    · have hf := pO_neg c_3 hf
      refine E_aload_n dX11_next_39 rfl ?_
      refine E_getf (v := .ref 1) dX11_next_40 fl_X11_next_12 rfl rfl ?_
      refine E_getf (v := .ref 5) dX11_next_43 fl_X11_next_131 rfl rfl ?_
      refine E_getf (v := .ref 6) dX11_next_46 fl_X11_next_266 rfl rfl ?_
      refine E_iload_n dX11_next_49 rfl ?_
      obtain ⟨hi_4, hf⟩ := pO_gd hf
      refine E_iald (n0 := 16) (f := S_2.2 2) dX11_next_50 rfl (pin_in hi_4) ?_
      refine E_goto (tgt := 56) dX11_next_51 (by decide) ?_
      exact E_iret rfl dX11_next_56 ⟨_, rfl, hf⟩
  · have hf := pO_neg c_1 hf
    refine E_iload_n dX11_next_4 rfl ?_
    refine E_callSI (st := []) (c_X11_isName l D dA ad S v1 (pO_bnd hf)) mf_X11_isName rfl gX11_next_X11_isName (by omega) rfl (Nat.le_of_ble_eq_true rfl) (by rfl) dX11_next_5 (fun r5 h5 q5 => ?_)
    obtain ⟨S_5, rfl, hf⟩ := q5
    dsimp only at hf
    refine E_if_ne (tgt := 13) dX11_next_8 (by decide) (fun c_6 => ?_) (fun c_6 => ?_)
    · have hf := pO_neg c_6 hf
      refine E_aload_n dX11_next_13 rfl ?_
      refine E_getf (v := .ref 1) dX11_next_14 fl_X11_next_12 rfl rfl ?_
      refine E_getf (v := .ref 5) dX11_next_17 fl_X11_next_131 rfl rfl ?_
      refine E_iload_n dX11_next_20 rfl ?_
      refine E_callVI (st := []) (c_X1_placeBehind l D dA ad S_5 v1 (pO_bnd hf)) mf_X1_placeBehind rfl rfl gX11_next_X1_placeBehind (pRc.of (ci := 1) rfl rfl) (by omega) rfl (Nat.le_of_ble_eq_true rfl) (by rfl) dX11_next_21 (fun r7 h7 q7 => ?_)
      obtain ⟨S_7, rfl, hf⟩ := q7
      dsimp only at hf
      refine E_istore_n (ls' := [(0, .ref 0), (1, .int v1), (2, .int r7)]) dX11_next_24 (by decide) rfl ?_
      refine E_iload_n dX11_next_25 rfl ?_
      refine E_aload_n dX11_next_26 rfl ?_
      refine E_getf (v := .ref 1) dX11_next_27 fl_X11_next_12 rfl rfl ?_
      refine E_getf (v := .ref 5) dX11_next_30 fl_X11_next_131 rfl rfl ?_
      refine E_getf (v := .int (S_7.1 4)) dX11_next_33 fl_X11_next_140 rfl rfl ?_
      refine E_icmp_ge (tgt := 54) dX11_next_36 (by decide) (fun c_8 => ?_) (fun c_8 => ?_)
      · have hf := pO_pos c_8 hf
        refine E_bipush (v := (-2)) dX11_next_54 (by decide) ?_
        exact E_iret rfl dX11_next_56 ⟨_, rfl, hf⟩
      · have hf := pO_neg c_8 hf
        refine E_aload_n dX11_next_39 rfl ?_
        refine E_getf (v := .ref 1) dX11_next_40 fl_X11_next_12 rfl rfl ?_
        refine E_getf (v := .ref 5) dX11_next_43 fl_X11_next_131 rfl rfl ?_
        refine E_getf (v := .ref 6) dX11_next_46 fl_X11_next_266 rfl rfl ?_
        refine E_iload_n dX11_next_49 rfl ?_
        obtain ⟨hi_9, hf⟩ := pO_gd hf
        refine E_iald (n0 := 16) (f := S_7.2 2) dX11_next_50 rfl (pin_in hi_9) ?_
        refine E_goto (tgt := 56) dX11_next_51 (by decide) ?_
        exact E_iret rfl dX11_next_56 ⟨_, rfl, hf⟩
    · have hf := pO_pos c_6 hf
      refine E_iconst (v := (-1)) dX11_next_11 (by decide) ?_
      exact E_iret rfl dX11_next_12 ⟨_, rfl, hf⟩
theorem hi_X11_turn_11 : ∀ w ∈ u_ws RX11 TX11 10, w ∈ wsX11_turn := fun w h => of_decide_eq_true (List.all_eq_true.mp (by decide +kernel : (u_ws RX11 TX11 10).all (fun w => decide (w ∈ wsX11_turn)) = true) w h)
theorem fl_X11_turn_12 : pFL wsX11_turn RX11 12 11 0 := ⟨RX11, TX11, 10, hi_X11_turn_11, rfl, by decide, by decide +kernel⟩
theorem hi_X0_bestToTurn_0 : ∀ w ∈ u_ws RX0 TX0 3, w ∈ wsX0_bestToTurn := fun w h => of_decide_eq_true (List.all_eq_true.mp (by decide +kernel : (u_ws RX0 TX0 3).all (fun w => decide (w ∈ wsX0_bestToTurn)) = true) w h)
theorem fl_X0_bestToTurn_21 : pFL wsX0_bestToTurn RX0 21 0 1 := ⟨RX0, TX0, 3, hi_X0_bestToTurn_0, rfl, by decide, by decide +kernel⟩
theorem hi_X0_bestToTurn_1 : ∀ w ∈ u_ws RX1 TX1 7, w ∈ wsX0_bestToTurn := fun w h => of_decide_eq_true (List.all_eq_true.mp (by decide +kernel : (u_ws RX1 TX1 7).all (fun w => decide (w ∈ wsX0_bestToTurn)) = true) w h)
theorem fl_X0_bestToTurn_36 : pFL wsX0_bestToTurn RX0 36 1 0 := ⟨RX1, TX1, 7, hi_X0_bestToTurn_1, rfl, by decide, by decide +kernel⟩
theorem fl_X0_bestToTurn_89 : pFL wsX0_bestToTurn RX0 89 1 5 := ⟨RX1, TX1, 7, hi_X0_bestToTurn_1, rfl, by decide, by decide +kernel⟩
def g_X0_bestToTurn_15 : Nat → PS → Int32 → Int32 → Int32 → Int32 → Option ((Int32 × PS) ⊕ (PS × Int32))
  | 0, _, _, _, _, _ => none
  | fuel + 1, S, v1, v2, v3, v4 =>
    if (S.1 4) ≤ v4 then (some (.inr (S, v3))) else (pbnd (f_X0_weighsAt S v4) (fun r3 S_3 => pgd (pin v4 16) (if v2 ≤ (pabs (v1 - ((2 * r3) * ((S_3.2 6) v4.toNatClampNeg)))) then (g_X0_bestToTurn_15 fuel S_3 v1 v2 v3 (v4 + 1)) else (g_X0_bestToTurn_15 fuel S_3 v1 (pabs (v1 - ((2 * r3) * ((S_3.2 6) v4.toNatClampNeg)))) v4 (v4 + 1)))))
set_option maxRecDepth 100000 in
theorem l_X0_bestToTurn_15 (l : Launch) (D : va_G) (dA : Nat → ClassId) (ad : Nat → Nat) (d : Nat) (hd : 4 ≤ d) {Q : Int32 → List PC → Prop} : ∀ (fuel : Nat) (S : PS) (v1 : Int32) (v2 : Int32) (v3 : Int32) (v4 : Int32), pO (g_X0_bestToTurn_15 fuel S v1 v2 v3 v4) (fun y => match y with
    | .inl x => Q x.1 (hX x.2)
    | .inr w => Ev l D dA ad wsX0_bestToTurn cX0_bestToTurn RX0 6 (some .int) d 52 (pKi D dA ad 52 Q) 71 [(3, .int w.2)] [] (hX w.1)) → Ev l D dA ad wsX0_bestToTurn cX0_bestToTurn RX0 6 (some .int) d 52 (pKi D dA ad 52 Q) 15 [(0, .ref 1), (1, .int v1), (2, .int v2), (3, .int v3), (4, .int v4)] [] (hX S) := by
  intro fuel
  induction fuel with
  | zero =>
    intro S v1 v2 v3 v4 hf
    exact hf.elim
  | succ fuel ih =>
    intro S v1 v2 v3 v4 hf
    rw [g_X0_bestToTurn_15] at hf
    refine E_iload dX0_bestToTurn_15 rfl ?_
    refine E_aload_n dX0_bestToTurn_17 rfl ?_
    refine E_getf (v := .ref 5) dX0_bestToTurn_18 fl_X0_bestToTurn_21 rfl rfl ?_
    refine E_getf (v := .int (S.1 4)) dX0_bestToTurn_21 fl_X0_bestToTurn_36 rfl rfl ?_
    refine E_icmp_ge (tgt := 71) dX0_bestToTurn_24 (by decide) (fun c_2 => ?_) (fun c_2 => ?_)
    · have hf := pO_pos c_2 hf
      exact E_sub (ls' := [(3, .int v3)]) ⟨rfl, trivial⟩ hf
    · have hf := pO_neg c_2 hf
      refine E_iload_n dX0_bestToTurn_27 rfl ?_
      refine E_iconst (v := 2) dX0_bestToTurn_28 (by decide) ?_
      refine E_aload_n dX0_bestToTurn_29 rfl ?_
      refine E_iload dX0_bestToTurn_30 rfl ?_
      refine E_callVI (st := [.int 2, .int v1]) (c_X0_weighsAt l D dA ad S v4 (pO_bnd hf)) mf_X0_weighsAt rfl rfl gX0_bestToTurn_X0_weighsAt (pRc.of (ci := 0) rfl rfl) (by omega) rfl (Nat.le_of_ble_eq_true rfl) (by rfl) dX0_bestToTurn_32 (fun r3 h3 q3 => ?_)
      obtain ⟨S_3, rfl, hf⟩ := q3
      dsimp only at hf
      refine E_imul dX0_bestToTurn_35 ?_
      refine E_aload_n dX0_bestToTurn_36 rfl ?_
      refine E_getf (v := .ref 5) dX0_bestToTurn_37 fl_X0_bestToTurn_21 rfl rfl ?_
      refine E_getf (v := .ref 10) dX0_bestToTurn_40 fl_X0_bestToTurn_89 rfl rfl ?_
      refine E_iload dX0_bestToTurn_43 rfl ?_
      obtain ⟨hi_4, hf⟩ := pO_gd hf
      refine E_iald (n0 := 16) (f := S_3.2 6) dX0_bestToTurn_45 rfl (pin_in hi_4) ?_
      refine E_imul dX0_bestToTurn_46 ?_
      refine E_isub dX0_bestToTurn_47 ?_
      refine E_mabs (by decide +kernel) (by decide +kernel) (by decide +kernel) (by decide +kernel) (by omega) (Nat.le_of_ble_eq_true rfl) (by rfl) dX0_bestToTurn_48 ?_
      refine E_istore (ls' := [(0, .ref 1), (1, .int v1), (2, .int v2), (3, .int v3), (4, .int v4), (5, .int (pabs (v1 - ((2 * r3) * ((S_3.2 6) v4.toNatClampNeg)))))]) dX0_bestToTurn_51 (by decide) rfl ?_
      refine E_iload dX0_bestToTurn_53 rfl ?_
      refine E_iload_n dX0_bestToTurn_55 rfl ?_
      refine E_icmp_ge (tgt := 65) dX0_bestToTurn_56 (by decide) (fun c_5 => ?_) (fun c_5 => ?_)
      · have hf := pO_pos c_5 hf
        refine E_iinc (v := v4 + 1) (ls' := [(0, .ref 1), (1, .int v1), (2, .int v2), (3, .int v3), (4, .int (v4 + 1)), (5, .int (pabs (v1 - ((2 * r3) * ((S_3.2 6) v4.toNatClampNeg)))))]) dX0_bestToTurn_65 rfl rfl (by decide) rfl ?_
        refine E_goto (tgt := 15) dX0_bestToTurn_68 (by decide) ?_
        exact E_sub (ls' := [(0, .ref 1), (1, .int v1), (2, .int v2), (3, .int v3), (4, .int (v4 + 1))]) ⟨rfl, rfl, rfl, rfl, rfl, trivial⟩ (ih S_3 v1 v2 v3 (v4 + 1) hf)
      · have hf := pO_neg c_5 hf
        refine E_iload dX0_bestToTurn_59 rfl ?_
        refine E_istore_n (ls' := [(0, .ref 1), (1, .int v1), (2, .int (pabs (v1 - ((2 * r3) * ((S_3.2 6) v4.toNatClampNeg))))), (3, .int v3), (4, .int v4), (5, .int (pabs (v1 - ((2 * r3) * ((S_3.2 6) v4.toNatClampNeg)))))]) dX0_bestToTurn_61 (by decide) rfl ?_
        refine E_iload dX0_bestToTurn_62 rfl ?_
        refine E_istore_n (ls' := [(0, .ref 1), (1, .int v1), (2, .int (pabs (v1 - ((2 * r3) * ((S_3.2 6) v4.toNatClampNeg))))), (3, .int v4), (4, .int v4), (5, .int (pabs (v1 - ((2 * r3) * ((S_3.2 6) v4.toNatClampNeg)))))]) dX0_bestToTurn_64 (by decide) rfl ?_
        refine E_iinc (v := v4 + 1) (ls' := [(0, .ref 1), (1, .int v1), (2, .int (pabs (v1 - ((2 * r3) * ((S_3.2 6) v4.toNatClampNeg))))), (3, .int v4), (4, .int (v4 + 1)), (5, .int (pabs (v1 - ((2 * r3) * ((S_3.2 6) v4.toNatClampNeg)))))]) dX0_bestToTurn_65 rfl rfl (by decide) rfl ?_
        refine E_goto (tgt := 15) dX0_bestToTurn_68 (by decide) ?_
        exact E_sub (ls' := [(0, .ref 1), (1, .int v1), (2, .int (pabs (v1 - ((2 * r3) * ((S_3.2 6) v4.toNatClampNeg))))), (3, .int v4), (4, .int (v4 + 1))]) ⟨rfl, rfl, rfl, rfl, rfl, trivial⟩ (ih S_3 v1 (pabs (v1 - ((2 * r3) * ((S_3.2 6) v4.toNatClampNeg)))) v4 (v4 + 1) hf)
theorem mf_X0_bestToTurn : pMF yX0_bestToTurn wsX0_bestToTurn cX0_bestToTurn 6 (some .int) 0 := ⟨⟨_, rfl⟩, by decide +kernel, by decide, by decide +kernel, by decide +kernel, by decide +kernel⟩
def f_X0_bestToTurn (S : PS) : Option (Int32 × PS) :=
  pbnd (f_X0_allAside S) (fun r1 S_1 => plp (g_X0_bestToTurn_15 pfuel S_1 r1 (pabs r1) (-1) 0) (fun w => (fun (S_6 : PS) (v3_6 : Int32) => some (v3_6, S_6)) w.1 w.2))
set_option maxRecDepth 100000 in
theorem c_X0_bestToTurn (l : Launch) (D : va_G) (dA : Nat → ClassId) (ad : Nat → Nat) (S : PS) {P : (Int32 × PS) → Prop} (hf : pO (f_X0_bestToTurn S) P) : CtI l D dA ad yX0_bestToTurn wsX0_bestToTurn 4 [.ref 1] (hX S) (fun r h' => ∃ S' : PS, h' = hX S' ∧ P (r, S')) := by
  refine CtI_of mf_X0_bestToTurn rfl rfl (Nat.le_of_ble_eq_true rfl) rfl (hX_len S) ?_
  unfold f_X0_bestToTurn at hf
  refine E_aload_n dX0_bestToTurn_0 rfl ?_
  refine E_callVI (st := []) (c_X0_allAside l D dA ad S (pO_bnd hf)) mf_X0_allAside rfl rfl gX0_bestToTurn_X0_allAside (pRc.of (ci := 0) rfl rfl) (by omega) rfl (Nat.le_of_ble_eq_true rfl) (by rfl) dX0_bestToTurn_1 (fun r1 h1 q1 => ?_)
  obtain ⟨S_1, rfl, hf⟩ := q1
  dsimp only at hf
  refine E_istore_n (ls' := [(0, .ref 1), (1, .int r1)]) dX0_bestToTurn_4 (by decide) rfl ?_
  refine E_iload_n dX0_bestToTurn_5 rfl ?_
  refine E_mabs (by decide +kernel) (by decide +kernel) (by decide +kernel) (by decide +kernel) (by omega) (Nat.le_of_ble_eq_true rfl) (by rfl) dX0_bestToTurn_6 ?_
  refine E_istore_n (ls' := [(0, .ref 1), (1, .int r1), (2, .int (pabs r1))]) dX0_bestToTurn_9 (by decide) rfl ?_
  refine E_iconst (v := (-1)) dX0_bestToTurn_10 (by decide) ?_
  refine E_istore_n (ls' := [(0, .ref 1), (1, .int r1), (2, .int (pabs r1)), (3, .int (-1))]) dX0_bestToTurn_11 (by decide) rfl ?_
  refine E_iconst (v := 0) dX0_bestToTurn_12 (by decide) ?_
  refine E_istore (ls' := [(0, .ref 1), (1, .int r1), (2, .int (pabs r1)), (3, .int (-1)), (4, .int 0)]) dX0_bestToTurn_13 (by decide) rfl ?_
  refine E_sub (ls' := [(0, .ref 1), (1, .int r1), (2, .int (pabs r1)), (3, .int (-1)), (4, .int 0)]) ⟨rfl, rfl, rfl, rfl, rfl, trivial⟩ ?_
  refine l_X0_bestToTurn_15 l D dA ad _ (by omega) pfuel S_1 r1 (pabs r1) (-1) 0 (pO_lp hf (fun x hx => ⟨x.2, rfl, hx⟩) (fun w6 hf => ?_))
  obtain ⟨S_6, v3_6⟩ := w6
  dsimp only at hf ⊢
  refine E_iload_n dX0_bestToTurn_71 rfl ?_
  exact E_iret rfl dX0_bestToTurn_72 ⟨_, rfl, hf⟩
theorem hi_X11_turn_0 : ∀ w ∈ u_ws RX0 TX0 3, w ∈ wsX11_turn := fun w h => of_decide_eq_true (List.all_eq_true.mp (by decide +kernel : (u_ws RX0 TX0 3).all (fun w => decide (w ∈ wsX11_turn)) = true) w h)
theorem fl_X11_turn_131 : pFL wsX11_turn RX11 131 0 1 := ⟨RX0, TX0, 3, hi_X11_turn_0, rfl, by decide, by decide +kernel⟩
theorem hi_X11_turn_1 : ∀ w ∈ u_ws RX1 TX1 7, w ∈ wsX11_turn := fun w h => of_decide_eq_true (List.all_eq_true.mp (by decide +kernel : (u_ws RX1 TX1 7).all (fun w => decide (w ∈ wsX11_turn)) = true) w h)
theorem fl_X11_turn_266 : pFL wsX11_turn RX11 266 1 1 := ⟨RX1, TX1, 7, hi_X11_turn_1, rfl, by decide, by decide +kernel⟩
theorem mf_X11_turn : pMF yX11_turn wsX11_turn cX11_turn 2 (some .int) 0 := ⟨⟨_, rfl⟩, by decide +kernel, by decide, by decide +kernel, by decide +kernel, by decide +kernel⟩
def f_X11_turn (S : PS) : Option (Int32 × PS) :=
  pbnd (f_X0_bestToTurn S) (fun r1 S_1 => if (0 : Int32) ≤ r1 then (pgd (pin r1 16) (some ((S_1.2 2) r1.toNatClampNeg, S_1))) else (some ((-2), S_1)))
set_option maxRecDepth 100000 in
theorem c_X11_turn (l : Launch) (D : va_G) (dA : Nat → ClassId) (ad : Nat → Nat) (S : PS) {P : (Int32 × PS) → Prop} (hf : pO (f_X11_turn S) P) : CtI l D dA ad yX11_turn wsX11_turn 5 [.ref 0] (hX S) (fun r h' => ∃ S' : PS, h' = hX S' ∧ P (r, S')) := by
  refine CtI_of mf_X11_turn rfl rfl (Nat.le_of_ble_eq_true rfl) rfl (hX_len S) ?_
  unfold f_X11_turn at hf
  refine E_aload_n dX11_turn_0 rfl ?_
  refine E_getf (v := .ref 1) dX11_turn_1 fl_X11_turn_12 rfl rfl ?_
  refine E_callVI (st := []) (c_X0_bestToTurn l D dA ad S (pO_bnd hf)) mf_X0_bestToTurn rfl rfl gX11_turn_X0_bestToTurn (pRc.of (ci := 0) rfl rfl) (by omega) rfl (Nat.le_of_ble_eq_true rfl) (by rfl) dX11_turn_4 (fun r1 h1 q1 => ?_)
  obtain ⟨S_1, rfl, hf⟩ := q1
  dsimp only at hf
  refine E_istore_n (ls' := [(0, .ref 0), (1, .int r1)]) dX11_turn_7 (by decide) rfl ?_
  refine E_iload_n dX11_turn_8 rfl ?_
  refine E_if_ge (tgt := 17) dX11_turn_9 (by decide) (fun c_2 => ?_) (fun c_2 => ?_)
  · have hf := pO_pos c_2 hf
    refine E_aload_n dX11_turn_17 rfl ?_
    refine E_getf (v := .ref 1) dX11_turn_18 fl_X11_turn_12 rfl rfl ?_
    refine E_getf (v := .ref 5) dX11_turn_21 fl_X11_turn_131 rfl rfl ?_
    refine E_getf (v := .ref 6) dX11_turn_24 fl_X11_turn_266 rfl rfl ?_
    refine E_iload_n dX11_turn_27 rfl ?_
    obtain ⟨hi_3, hf⟩ := pO_gd hf
    refine E_iald (n0 := 16) (f := S_1.2 2) dX11_turn_28 rfl (pin_in hi_3) ?_
    exact E_iret rfl dX11_turn_29 ⟨_, rfl, hf⟩
  · have hf := pO_neg c_2 hf
    refine E_bipush (v := (-2)) dX11_turn_12 (by decide) ?_
    refine E_goto (tgt := 29) dX11_turn_14 (by decide) ?_
    exact E_iret rfl dX11_turn_29 ⟨_, rfl, hf⟩
theorem hi_X11_change_11 : ∀ w ∈ u_ws RX11 TX11 10, w ∈ wsX11_change := fun w h => of_decide_eq_true (List.all_eq_true.mp (by decide +kernel : (u_ws RX11 TX11 10).all (fun w => decide (w ∈ wsX11_change)) = true) w h)
theorem fl_X11_change_56 : pFL wsX11_change RX11 56 11 7 := ⟨RX11, TX11, 10, hi_X11_change_11, rfl, by decide, by decide +kernel⟩
theorem fl_X11_change_12 : pFL wsX11_change RX11 12 11 0 := ⟨RX11, TX11, 10, hi_X11_change_11, rfl, by decide, by decide +kernel⟩
theorem hi_X7_find_0 : ∀ w ∈ u_ws RX0 TX0 3, w ∈ wsX7_find := fun w h => of_decide_eq_true (List.all_eq_true.mp (by decide +kernel : (u_ws RX0 TX0 3).all (fun w => decide (w ∈ wsX7_find)) = true) w h)
theorem fl_X7_find_30 : pFL wsX7_find RX7 30 0 1 := ⟨RX0, TX0, 3, hi_X7_find_0, rfl, by decide, by decide +kernel⟩
theorem hi_X7_find_1 : ∀ w ∈ u_ws RX1 TX1 7, w ∈ wsX7_find := fun w h => of_decide_eq_true (List.all_eq_true.mp (by decide +kernel : (u_ws RX1 TX1 7).all (fun w => decide (w ∈ wsX7_find)) = true) w h)
theorem fl_X7_find_34 : pFL wsX7_find RX7 34 1 0 := ⟨RX1, TX1, 7, hi_X7_find_1, rfl, by decide, by decide +kernel⟩
theorem hi_X7_alongGained_0 : ∀ w ∈ u_ws RX0 TX0 3, w ∈ wsX7_alongGained := fun w h => of_decide_eq_true (List.all_eq_true.mp (by decide +kernel : (u_ws RX0 TX0 3).all (fun w => decide (w ∈ wsX7_alongGained)) = true) w h)
theorem fl_X7_alongGained_30 : pFL wsX7_alongGained RX7 30 0 1 := ⟨RX0, TX0, 3, hi_X7_alongGained_0, rfl, by decide, by decide +kernel⟩
theorem hi_X7_alongGained_1 : ∀ w ∈ u_ws RX1 TX1 7, w ∈ wsX7_alongGained := fun w h => of_decide_eq_true (List.all_eq_true.mp (by decide +kernel : (u_ws RX1 TX1 7).all (fun w => decide (w ∈ wsX7_alongGained)) = true) w h)
theorem fl_X7_alongGained_43 : pFL wsX7_alongGained RX7 43 1 4 := ⟨RX1, TX1, 7, hi_X7_alongGained_1, rfl, by decide, by decide +kernel⟩
theorem mf_X7_alongGained : pMF yX7_alongGained wsX7_alongGained cX7_alongGained 5 (some .int) 3 := ⟨⟨_, rfl⟩, by decide +kernel, by decide, by decide +kernel, by decide +kernel, by decide +kernel⟩
def f_X7_alongGained (S : PS) (v2 : Int32) (v3 : Int32) : Option (Int32 × PS) :=
  pgd (pin v3 16) (pgd (pin v2 16) (pbnd (f_X0_weighsAt S v2) (fun r3 S_3 => pbnd (f_X0_weighsAt S_3 v3) (fun r4 S_4 => some ((2 * (((S.2 5) v3.toNatClampNeg) - ((S.2 5) v2.toNatClampNeg))) * (r3 - r4), S_4)))))
set_option maxRecDepth 100000 in
theorem c_X7_alongGained (l : Launch) (D : va_G) (dA : Nat → ClassId) (ad : Nat → Nat) (S : PS) (v2 : Int32) (v3 : Int32) {P : (Int32 × PS) → Prop} (hf : pO (f_X7_alongGained S v2 v3) P) : CtI l D dA ad yX7_alongGained wsX7_alongGained 2 [.ref 46, .ref 1, .int v2, .int v3] (hX S) (fun r h' => ∃ S' : PS, h' = hX S' ∧ P (r, S')) := by
  refine CtI_of mf_X7_alongGained rfl rfl (Nat.le_of_ble_eq_true rfl) rfl (hX_len S) ?_
  unfold f_X7_alongGained at hf
  refine E_aload_n dX7_alongGained_0 rfl ?_
  refine E_getf (v := .ref 5) dX7_alongGained_1 fl_X7_alongGained_30 rfl rfl ?_
  refine E_getf (v := .ref 9) dX7_alongGained_4 fl_X7_alongGained_43 rfl rfl ?_
  refine E_iload_n dX7_alongGained_7 rfl ?_
  obtain ⟨hi_1, hf⟩ := pO_gd hf
  refine E_iald (n0 := 16) (f := S.2 5) dX7_alongGained_8 rfl (pin_in hi_1) ?_
  refine E_aload_n dX7_alongGained_9 rfl ?_
  refine E_getf (v := .ref 5) dX7_alongGained_10 fl_X7_alongGained_30 rfl rfl ?_
  refine E_getf (v := .ref 9) dX7_alongGained_13 fl_X7_alongGained_43 rfl rfl ?_
  refine E_iload_n dX7_alongGained_16 rfl ?_
  obtain ⟨hi_2, hf⟩ := pO_gd hf
  refine E_iald (n0 := 16) (f := S.2 5) dX7_alongGained_17 rfl (pin_in hi_2) ?_
  refine E_isub dX7_alongGained_18 ?_
  refine E_istore (ls' := [(0, .ref 46), (1, .ref 1), (2, .int v2), (3, .int v3), (4, .int (((S.2 5) v3.toNatClampNeg) - ((S.2 5) v2.toNatClampNeg)))]) dX7_alongGained_19 (by decide) rfl ?_
  refine E_iconst (v := 2) dX7_alongGained_21 (by decide) ?_
  refine E_iload dX7_alongGained_22 rfl ?_
  refine E_imul dX7_alongGained_24 ?_
  refine E_aload_n dX7_alongGained_25 rfl ?_
  refine E_iload_n dX7_alongGained_26 rfl ?_
  refine E_callVI (st := [.int (2 * (((S.2 5) v3.toNatClampNeg) - ((S.2 5) v2.toNatClampNeg)))]) (c_X0_weighsAt l D dA ad S v2 (pO_bnd hf)) mf_X0_weighsAt rfl rfl gX7_alongGained_X0_weighsAt (pRc.of (ci := 0) rfl rfl) (by omega) rfl (Nat.le_of_ble_eq_true rfl) (by rfl) dX7_alongGained_27 (fun r3 h3 q3 => ?_)
  obtain ⟨S_3, rfl, hf⟩ := q3
  dsimp only at hf
  refine E_aload_n dX7_alongGained_30 rfl ?_
  refine E_iload_n dX7_alongGained_31 rfl ?_
  refine E_callVI (st := [.int r3, .int (2 * (((S.2 5) v3.toNatClampNeg) - ((S.2 5) v2.toNatClampNeg)))]) (c_X0_weighsAt l D dA ad S_3 v3 (pO_bnd hf)) mf_X0_weighsAt rfl rfl gX7_alongGained_X0_weighsAt (pRc.of (ci := 0) rfl rfl) (by omega) rfl (Nat.le_of_ble_eq_true rfl) (by rfl) dX7_alongGained_32 (fun r4 h4 q4 => ?_)
  obtain ⟨S_4, rfl, hf⟩ := q4
  dsimp only at hf
  refine E_isub dX7_alongGained_35 ?_
  refine E_imul dX7_alongGained_36 ?_
  exact E_iret rfl dX7_alongGained_37 ⟨_, rfl, hf⟩
theorem hi_X7_find_7 : ∀ w ∈ u_ws RX7 TX7 2, w ∈ wsX7_find := fun w h => of_decide_eq_true (List.all_eq_true.mp (by decide +kernel : (u_ws RX7 TX7 2).all (fun w => decide (w ∈ wsX7_find)) = true) w h)
theorem fl_X7_find_9 : pFL wsX7_find RX7 9 7 0 := ⟨RX7, TX7, 2, hi_X7_find_7, rfl, by decide, by decide +kernel⟩
theorem ft_7_0 : pFT 7 0 .int := ⟨RX7, TX7, 2, tyX7, rfl, by decide, tyX7_ok, nmX7, rfl, by decide +kernel⟩
theorem fl_X7_find_15 : pFL wsX7_find RX7 15 7 1 := ⟨RX7, TX7, 2, hi_X7_find_7, rfl, by decide, by decide +kernel⟩
theorem ft_7_1 : pFT 7 1 .int := ⟨RX7, TX7, 2, tyX7, rfl, by decide, tyX7_ok, nmX7, rfl, by decide +kernel⟩
def g_X7_find_43 : Nat → PS → Int32 → Int32 → Int32 → Int32 → Int32 → Option ((Int32 × PS) ⊕ (PS × Int32 × Int32))
  | 0, _, _, _, _, _, _ => none
  | fuel + 1, S, v2, v3, v4, v5, v6 =>
    if (S.1 4) ≤ v6 then (some (.inr (S, v3, v4))) else (pbnd (f_X7_alongGained S v5 v6) (fun r5 S_5 => if v3 ≤ (pabs (v2 - (64 * r5))) then (g_X7_find_43 fuel S_5 v2 v3 v4 v5 (v6 + 1)) else (g_X7_find_43 fuel (pI (pI S_5 17 v5) 18 v6) v2 (pabs (v2 - (64 * r5))) 1 v5 (v6 + 1))))
set_option maxRecDepth 100000 in
theorem l_X7_find_43 (l : Launch) (D : va_G) (dA : Nat → ClassId) (ad : Nat → Nat) (d : Nat) (hd : 5 ≤ d) {Q : Int32 → List PC → Prop} : ∀ (fuel : Nat) (S : PS) (v2 : Int32) (v3 : Int32) (v4 : Int32) (v5 : Int32) (v6 : Int32), pO (g_X7_find_43 fuel S v2 v3 v4 v5 v6) (fun y => match y with
    | .inl x => Q x.1 (hX x.2)
    | .inr w => Ev l D dA ad wsX7_find cX7_find RX7 8 (some .boolean) d 52 (pKi D dA ad 52 Q) 104 [(0, .ref 46), (1, .ref 1), (2, .int v2), (3, .int w.2.1), (4, .int w.2.2), (5, .int v5)] [] (hX w.1)) → Ev l D dA ad wsX7_find cX7_find RX7 8 (some .boolean) d 52 (pKi D dA ad 52 Q) 43 [(0, .ref 46), (1, .ref 1), (2, .int v2), (3, .int v3), (4, .int v4), (5, .int v5), (6, .int v6)] [] (hX S) := by
  intro fuel
  induction fuel with
  | zero =>
    intro S v2 v3 v4 v5 v6 hf
    exact hf.elim
  | succ fuel ih =>
    intro S v2 v3 v4 v5 v6 hf
    rw [g_X7_find_43] at hf
    refine E_iload dX7_find_43 rfl ?_
    refine E_aload_n dX7_find_45 rfl ?_
    refine E_getf (v := .ref 5) dX7_find_46 fl_X7_find_30 rfl rfl ?_
    refine E_getf (v := .int (S.1 4)) dX7_find_49 fl_X7_find_34 rfl rfl ?_
    refine E_icmp_ge (tgt := 104) dX7_find_52 (by decide) (fun c_4 => ?_) (fun c_4 => ?_)
    · have hf := pO_pos c_4 hf
      exact E_sub (ls' := [(0, .ref 46), (1, .ref 1), (2, .int v2), (3, .int v3), (4, .int v4), (5, .int v5)]) ⟨rfl, rfl, rfl, rfl, rfl, rfl, trivial⟩ hf
    · have hf := pO_neg c_4 hf
      refine E_iload_n dX7_find_55 rfl ?_
      refine E_bipush (v := 64) dX7_find_56 (by decide) ?_
      refine E_aload_n dX7_find_58 rfl ?_
      refine E_aload_n dX7_find_59 rfl ?_
      refine E_iload dX7_find_60 rfl ?_
      refine E_iload dX7_find_62 rfl ?_
      refine E_callVI (st := [.int 64, .int v2]) (c_X7_alongGained l D dA ad S v5 v6 (pO_bnd hf)) mf_X7_alongGained rfl rfl gX7_find_X7_alongGained (pRc.of (ci := 7) rfl rfl) (by omega) rfl (Nat.le_of_ble_eq_true rfl) (by rfl) dX7_find_64 (fun r5 h5 q5 => ?_)
      obtain ⟨S_5, rfl, hf⟩ := q5
      dsimp only at hf
      refine E_imul dX7_find_67 ?_
      refine E_isub dX7_find_68 ?_
      refine E_mabs (by decide +kernel) (by decide +kernel) (by decide +kernel) (by decide +kernel) (by omega) (Nat.le_of_ble_eq_true rfl) (by rfl) dX7_find_69 ?_
      refine E_istore (ls' := [(0, .ref 46), (1, .ref 1), (2, .int v2), (3, .int v3), (4, .int v4), (5, .int v5), (6, .int v6), (7, .int (pabs (v2 - (64 * r5))))]) dX7_find_72 (by decide) rfl ?_
      refine E_iload dX7_find_74 rfl ?_
      refine E_iload_n dX7_find_76 rfl ?_
      refine E_icmp_ge (tgt := 98) dX7_find_77 (by decide) (fun c_6 => ?_) (fun c_6 => ?_)
      · have hf := pO_pos c_6 hf
        refine E_iinc (v := v6 + 1) (ls' := [(0, .ref 46), (1, .ref 1), (2, .int v2), (3, .int v3), (4, .int v4), (5, .int v5), (6, .int (v6 + 1)), (7, .int (pabs (v2 - (64 * r5))))]) dX7_find_98 rfl rfl (by decide) rfl ?_
        refine E_goto (tgt := 43) dX7_find_101 (by decide) ?_
        exact E_sub (ls' := [(0, .ref 46), (1, .ref 1), (2, .int v2), (3, .int v3), (4, .int v4), (5, .int v5), (6, .int (v6 + 1))]) ⟨rfl, rfl, rfl, rfl, rfl, rfl, rfl, trivial⟩ (ih S_5 v2 v3 v4 v5 (v6 + 1) hf)
      · have hf := pO_neg c_6 hf
        refine E_iload dX7_find_80 rfl ?_
        refine E_istore_n (ls' := [(0, .ref 46), (1, .ref 1), (2, .int v2), (3, .int (pabs (v2 - (64 * r5)))), (4, .int v4), (5, .int v5), (6, .int v6), (7, .int (pabs (v2 - (64 * r5))))]) dX7_find_82 (by decide) rfl ?_
        refine E_aload_n dX7_find_83 rfl ?_
        refine E_iload dX7_find_84 rfl ?_
        refine E_putf (h' := hX (pI S_5 17 v5)) dX7_find_86 fl_X7_find_9 ft_7_0 rfl (Nat.lt_of_lt_of_eq (by decide : 0 < 2) rfl) rfl rfl ⟨_, rfl⟩ (sX_I17 S_5 v5) ?_
        refine E_aload_n dX7_find_89 rfl ?_
        refine E_iload dX7_find_90 rfl ?_
        refine E_putf (h' := hX (pI (pI S_5 17 v5) 18 v6)) dX7_find_92 fl_X7_find_15 ft_7_1 rfl (Nat.lt_of_lt_of_eq (by decide : 1 < 2) rfl) rfl rfl ⟨_, rfl⟩ (sX_I18 (pI S_5 17 v5) v6) ?_
        refine E_iconst (v := 1) dX7_find_95 (by decide) ?_
        refine E_istore (ls' := [(0, .ref 46), (1, .ref 1), (2, .int v2), (3, .int (pabs (v2 - (64 * r5)))), (4, .int 1), (5, .int v5), (6, .int v6), (7, .int (pabs (v2 - (64 * r5))))]) dX7_find_96 (by decide) rfl ?_
        refine E_iinc (v := v6 + 1) (ls' := [(0, .ref 46), (1, .ref 1), (2, .int v2), (3, .int (pabs (v2 - (64 * r5)))), (4, .int 1), (5, .int v5), (6, .int (v6 + 1)), (7, .int (pabs (v2 - (64 * r5))))]) dX7_find_98 rfl rfl (by decide) rfl ?_
        refine E_goto (tgt := 43) dX7_find_101 (by decide) ?_
        exact E_sub (ls' := [(0, .ref 46), (1, .ref 1), (2, .int v2), (3, .int (pabs (v2 - (64 * r5)))), (4, .int 1), (5, .int v5), (6, .int (v6 + 1))]) ⟨rfl, rfl, rfl, rfl, rfl, rfl, rfl, trivial⟩ (ih (pI (pI S_5 17 v5) 18 v6) v2 (pabs (v2 - (64 * r5))) 1 v5 (v6 + 1) hf)
def g_X7_find_25 : Nat → PS → Int32 → Int32 → Int32 → Int32 → Option ((Int32 × PS) ⊕ (PS × Int32))
  | 0, _, _, _, _, _ => none
  | fuel + 1, S, v2, v3, v4, v5 =>
    if (S.1 4) ≤ v5 then (some (.inr (S, v4))) else (plq (g_X7_find_43 pfuel S v2 v3 v4 v5 (v5 + 1)) (fun w => (fun (S_7 : PS) (v3_7 : Int32) (v4_7 : Int32) => g_X7_find_25 fuel S_7 v2 v3_7 v4_7 (v5 + 1)) w.1 w.2.1 w.2.2))
set_option maxRecDepth 100000 in
theorem l_X7_find_25 (l : Launch) (D : va_G) (dA : Nat → ClassId) (ad : Nat → Nat) (d : Nat) (hd : 5 ≤ d) {Q : Int32 → List PC → Prop} : ∀ (fuel : Nat) (S : PS) (v2 : Int32) (v3 : Int32) (v4 : Int32) (v5 : Int32), pO (g_X7_find_25 fuel S v2 v3 v4 v5) (fun y => match y with
    | .inl x => Q x.1 (hX x.2)
    | .inr w => Ev l D dA ad wsX7_find cX7_find RX7 8 (some .boolean) d 52 (pKi D dA ad 52 Q) 110 [(4, .int w.2)] [] (hX w.1)) → Ev l D dA ad wsX7_find cX7_find RX7 8 (some .boolean) d 52 (pKi D dA ad 52 Q) 25 [(0, .ref 46), (1, .ref 1), (2, .int v2), (3, .int v3), (4, .int v4), (5, .int v5)] [] (hX S) := by
  intro fuel
  induction fuel with
  | zero =>
    intro S v2 v3 v4 v5 hf
    exact hf.elim
  | succ fuel ih =>
    intro S v2 v3 v4 v5 hf
    rw [g_X7_find_25] at hf
    refine E_iload dX7_find_25 rfl ?_
    refine E_aload_n dX7_find_27 rfl ?_
    refine E_getf (v := .ref 5) dX7_find_28 fl_X7_find_30 rfl rfl ?_
    refine E_getf (v := .int (S.1 4)) dX7_find_31 fl_X7_find_34 rfl rfl ?_
    refine E_icmp_ge (tgt := 110) dX7_find_34 (by decide) (fun c_3 => ?_) (fun c_3 => ?_)
    · have hf := pO_pos c_3 hf
      exact E_sub (ls' := [(4, .int v4)]) ⟨rfl, trivial⟩ hf
    · have hf := pO_neg c_3 hf
      refine E_iload dX7_find_37 rfl ?_
      refine E_iconst (v := 1) dX7_find_39 (by decide) ?_
      refine E_iadd dX7_find_40 ?_
      refine E_istore (ls' := [(0, .ref 46), (1, .ref 1), (2, .int v2), (3, .int v3), (4, .int v4), (5, .int v5), (6, .int (v5 + 1))]) dX7_find_41 (by decide) rfl ?_
      refine E_sub (ls' := [(0, .ref 46), (1, .ref 1), (2, .int v2), (3, .int v3), (4, .int v4), (5, .int v5), (6, .int (v5 + 1))]) ⟨rfl, rfl, rfl, rfl, rfl, rfl, rfl, trivial⟩ ?_
      refine l_X7_find_43 l D dA ad _ (by omega) pfuel S v2 v3 v4 v5 (v5 + 1) (pO_lq hf (fun x hx => hx) (fun w7 hf => ?_))
      obtain ⟨S_7, v3_7, v4_7⟩ := w7
      dsimp only at hf ⊢
      refine E_iinc (v := v5 + 1) (ls' := [(0, .ref 46), (1, .ref 1), (2, .int v2), (3, .int v3_7), (4, .int v4_7), (5, .int (v5 + 1))]) dX7_find_104 rfl rfl (by decide) rfl ?_
      refine E_goto (tgt := 25) dX7_find_107 (by decide) ?_
      exact E_sub (ls' := [(0, .ref 46), (1, .ref 1), (2, .int v2), (3, .int v3_7), (4, .int v4_7), (5, .int (v5 + 1))]) ⟨rfl, rfl, rfl, rfl, rfl, rfl, trivial⟩ (ih S_7 v2 v3_7 v4_7 (v5 + 1) hf)
theorem mf_X7_find : pMF yX7_find wsX7_find cX7_find 8 (some .boolean) 1 := ⟨⟨_, rfl⟩, by decide +kernel, by decide, by decide +kernel, by decide +kernel, by decide +kernel⟩
def f_X7_find (S : PS) : Option (Int32 × PS) :=
  pbnd (f_X0_offOf S 0) (fun r1 S_1 => if r1 = ((-2147483648) : Int32) then (some (0, S_1)) else (plp (g_X7_find_25 pfuel S_1 r1 (pabs r1) 0 0) (fun w => (fun (S_8 : PS) (v4_8 : Int32) => pgd (pbit v4_8) (some (v4_8, S_8))) w.1 w.2)))
set_option maxRecDepth 100000 in
theorem c_X7_find (l : Launch) (D : va_G) (dA : Nat → ClassId) (ad : Nat → Nat) (S : PS) {P : (Int32 × PS) → Prop} (hf : pO (f_X7_find S) P) : CtI l D dA ad yX7_find wsX7_find 5 [.ref 46, .ref 1] (hX S) (fun r h' => ∃ S' : PS, h' = hX S' ∧ P (r, S')) := by
  refine CtI_of mf_X7_find rfl rfl (Nat.le_of_ble_eq_true rfl) rfl (hX_len S) ?_
  unfold f_X7_find at hf
  refine E_aload_n dX7_find_0 rfl ?_
  refine E_iconst (v := 0) dX7_find_1 (by decide) ?_
  refine E_callVI (st := []) (c_X0_offOf l D dA ad S 0 (pO_bnd hf)) mf_X0_offOf rfl rfl gX7_find_X0_offOf (pRc.of (ci := 0) rfl rfl) (by omega) rfl (Nat.le_of_ble_eq_true rfl) (by rfl) dX7_find_2 (fun r1 h1 q1 => ?_)
  obtain ⟨S_1, rfl, hf⟩ := q1
  dsimp only at hf
  refine E_istore_n (ls' := [(0, .ref 46), (1, .ref 1), (2, .int r1)]) dX7_find_5 (by decide) rfl ?_
  refine E_iload_n dX7_find_6 rfl ?_
  refine E_ldc (v := (-2147483648)) dX7_find_7 (by decide +kernel) ?_
  refine E_icmp_ne (tgt := 14) dX7_find_9 (by decide) (fun c_2 => ?_) (fun c_2 => ?_)
  · have hf := pO_neg c_2 hf
    refine E_iload_n dX7_find_14 rfl ?_
    refine E_mabs (by decide +kernel) (by decide +kernel) (by decide +kernel) (by decide +kernel) (by omega) (Nat.le_of_ble_eq_true rfl) (by rfl) dX7_find_15 ?_
    refine E_istore_n (ls' := [(0, .ref 46), (1, .ref 1), (2, .int r1), (3, .int (pabs r1))]) dX7_find_18 (by decide) rfl ?_
    refine E_iconst (v := 0) dX7_find_19 (by decide) ?_
    refine E_istore (ls' := [(0, .ref 46), (1, .ref 1), (2, .int r1), (3, .int (pabs r1)), (4, .int 0)]) dX7_find_20 (by decide) rfl ?_
    refine E_iconst (v := 0) dX7_find_22 (by decide) ?_
    refine E_istore (ls' := [(0, .ref 46), (1, .ref 1), (2, .int r1), (3, .int (pabs r1)), (4, .int 0), (5, .int 0)]) dX7_find_23 (by decide) rfl ?_
    refine E_sub (ls' := [(0, .ref 46), (1, .ref 1), (2, .int r1), (3, .int (pabs r1)), (4, .int 0), (5, .int 0)]) ⟨rfl, rfl, rfl, rfl, rfl, rfl, trivial⟩ ?_
    refine l_X7_find_25 l D dA ad _ (by omega) pfuel S_1 r1 (pabs r1) 0 0 (pO_lp hf (fun x hx => ⟨x.2, rfl, hx⟩) (fun w8 hf => ?_))
    obtain ⟨S_8, v4_8⟩ := w8
    dsimp only at hf ⊢
    refine E_iload dX7_find_110 rfl ?_
    obtain ⟨hn_9, hf⟩ := pO_gd hf
    exact E_zret rfl dX7_find_112 (pbit_n hn_9) ⟨_, rfl, hf⟩
  · have hf := pO_pos c_2 hf
    refine E_iconst (v := 0) dX7_find_12 (by decide) ?_
    exact E_zret rfl dX7_find_13 (by decide) ⟨_, rfl, hf⟩
theorem hi_X11_change_0 : ∀ w ∈ u_ws RX0 TX0 3, w ∈ wsX11_change := fun w h => of_decide_eq_true (List.all_eq_true.mp (by decide +kernel : (u_ws RX0 TX0 3).all (fun w => decide (w ∈ wsX11_change)) = true) w h)
theorem fl_X11_change_131 : pFL wsX11_change RX11 131 0 1 := ⟨RX0, TX0, 3, hi_X11_change_0, rfl, by decide, by decide +kernel⟩
theorem hi_X11_change_1 : ∀ w ∈ u_ws RX1 TX1 7, w ∈ wsX11_change := fun w h => of_decide_eq_true (List.all_eq_true.mp (by decide +kernel : (u_ws RX1 TX1 7).all (fun w => decide (w ∈ wsX11_change)) = true) w h)
theorem fl_X11_change_266 : pFL wsX11_change RX11 266 1 1 := ⟨RX1, TX1, 7, hi_X11_change_1, rfl, by decide, by decide +kernel⟩
theorem hi_X11_change_7 : ∀ w ∈ u_ws RX7 TX7 2, w ∈ wsX11_change := fun w h => of_decide_eq_true (List.all_eq_true.mp (by decide +kernel : (u_ws RX7 TX7 2).all (fun w => decide (w ∈ wsX11_change)) = true) w h)
theorem fl_X11_change_282 : pFL wsX11_change RX11 282 7 1 := ⟨RX7, TX7, 2, hi_X11_change_7, rfl, by decide, by decide +kernel⟩
theorem fl_X11_change_279 : pFL wsX11_change RX11 279 7 0 := ⟨RX7, TX7, 2, hi_X11_change_7, rfl, by decide, by decide +kernel⟩
theorem mf_X11_change : pMF yX11_change wsX11_change cX11_change 2 (some .int) 1 := ⟨⟨_, rfl⟩, by decide +kernel, by decide, by decide +kernel, by decide +kernel, by decide +kernel⟩
def f_X11_change (S : PS) (v1 : Int32) : Option (Int32 × PS) :=
  pbnd (f_X11_isWithin S v1 0 1) (fun r1 S_1 => if r1 = (0 : Int32) then (some ((-1), S_1)) else (pbnd (f_X7_find S_1) (fun r3 S_3 => if r3 = (0 : Int32) then (some ((-2), S_3)) else (if v1 = (0 : Int32) then (pgd (pin (S_3.1 17) 16) (some ((S_3.2 2) (S_3.1 17).toNatClampNeg, S_3))) else (pgd (pin (S_3.1 18) 16) (some ((S_3.2 2) (S_3.1 18).toNatClampNeg, S_3)))))))
set_option maxRecDepth 100000 in
theorem c_X11_change (l : Launch) (D : va_G) (dA : Nat → ClassId) (ad : Nat → Nat) (S : PS) (v1 : Int32) {P : (Int32 × PS) → Prop} (hf : pO (f_X11_change S v1) P) : CtI l D dA ad yX11_change wsX11_change 6 [.ref 0, .int v1] (hX S) (fun r h' => ∃ S' : PS, h' = hX S' ∧ P (r, S')) := by
  refine CtI_of mf_X11_change rfl rfl (Nat.le_of_ble_eq_true rfl) rfl (hX_len S) ?_
  unfold f_X11_change at hf
  refine E_iload_n dX11_change_0 rfl ?_
  refine E_iconst (v := 0) dX11_change_1 (by decide) ?_
  refine E_iconst (v := 1) dX11_change_2 (by decide) ?_
  refine E_callSI (st := []) (c_X11_isWithin l D dA ad S v1 0 1 (pO_bnd hf)) mf_X11_isWithin rfl gX11_change_X11_isWithin (by omega) rfl (Nat.le_of_ble_eq_true rfl) (by rfl) dX11_change_3 (fun r1 h1 q1 => ?_)
  obtain ⟨S_1, rfl, hf⟩ := q1
  dsimp only at hf
  refine E_if_ne (tgt := 11) dX11_change_6 (by decide) (fun c_2 => ?_) (fun c_2 => ?_)
  · have hf := pO_neg c_2 hf
    refine E_aload_n dX11_change_11 rfl ?_
    refine E_getf (v := .ref 46) dX11_change_12 fl_X11_change_56 rfl rfl ?_
    refine E_aload_n dX11_change_15 rfl ?_
    refine E_getf (v := .ref 1) dX11_change_16 fl_X11_change_12 rfl rfl ?_
    refine E_callVI (st := []) (c_X7_find l D dA ad S_1 (pO_bnd hf)) mf_X7_find rfl rfl gX11_change_X7_find (pRc.of (ci := 7) rfl rfl) (by omega) rfl (Nat.le_of_ble_eq_true rfl) (by rfl) dX11_change_19 (fun r3 h3 q3 => ?_)
    obtain ⟨S_3, rfl, hf⟩ := q3
    dsimp only at hf
    refine E_if_ne (tgt := 28) dX11_change_22 (by decide) (fun c_4 => ?_) (fun c_4 => ?_)
    · have hf := pO_neg c_4 hf
      refine E_aload_n dX11_change_28 rfl ?_
      refine E_getf (v := .ref 1) dX11_change_29 fl_X11_change_12 rfl rfl ?_
      refine E_getf (v := .ref 5) dX11_change_32 fl_X11_change_131 rfl rfl ?_
      refine E_getf (v := .ref 6) dX11_change_35 fl_X11_change_266 rfl rfl ?_
      refine E_iload_n dX11_change_38 rfl ?_
      refine E_if_ne (tgt := 52) dX11_change_39 (by decide) (fun c_5 => ?_) (fun c_5 => ?_)
      · have hf := pO_neg c_5 hf
        refine E_aload_n dX11_change_52 rfl ?_
        refine E_getf (v := .ref 46) dX11_change_53 fl_X11_change_56 rfl rfl ?_
        refine E_getf (v := .int (S_3.1 18)) dX11_change_56 fl_X11_change_282 rfl rfl ?_
        obtain ⟨hi_6, hf⟩ := pO_gd hf
        refine E_iald (n0 := 16) (f := S_3.2 2) dX11_change_59 rfl (pin_in hi_6) ?_
        exact E_iret rfl dX11_change_60 ⟨_, rfl, hf⟩
      · have hf := pO_pos c_5 hf
        refine E_aload_n dX11_change_42 rfl ?_
        refine E_getf (v := .ref 46) dX11_change_43 fl_X11_change_56 rfl rfl ?_
        refine E_getf (v := .int (S_3.1 17)) dX11_change_46 fl_X11_change_279 rfl rfl ?_
        refine E_goto (tgt := 59) dX11_change_49 (by decide) ?_
        obtain ⟨hi_7, hf⟩ := pO_gd hf
        refine E_iald (n0 := 16) (f := S_3.2 2) dX11_change_59 rfl (pin_in hi_7) ?_
        exact E_iret rfl dX11_change_60 ⟨_, rfl, hf⟩
    · have hf := pO_pos c_4 hf
      refine E_bipush (v := (-2)) dX11_change_25 (by decide) ?_
      exact E_iret rfl dX11_change_27 ⟨_, rfl, hf⟩
  · have hf := pO_pos c_2 hf
    refine E_iconst (v := (-1)) dX11_change_9 (by decide) ?_
    exact E_iret rfl dX11_change_10 ⟨_, rfl, hf⟩
theorem mf_X11_isRow : pMF yX11_isRow wsX11_isRow cX11_isRow 1 (some .boolean) 1 := ⟨⟨_, rfl⟩, by decide +kernel, by decide, by decide +kernel, by decide +kernel, by decide +kernel⟩
def f_X11_isRow (S : PS) (v0 : Int32) : Option (Int32 × PS) :=
  pbnd (f_X11_isWithin S v0 0 2) (fun r1 S_1 => pgd (pbit r1) (some (r1, S_1)))
set_option maxRecDepth 100000 in
theorem c_X11_isRow (l : Launch) (D : va_G) (dA : Nat → ClassId) (ad : Nat → Nat) (S : PS) (v0 : Int32) {P : (Int32 × PS) → Prop} (hf : pO (f_X11_isRow S v0) P) : CtI l D dA ad yX11_isRow wsX11_isRow 1 [.int v0] (hX S) (fun r h' => ∃ S' : PS, h' = hX S' ∧ P (r, S')) := by
  refine CtI_of mf_X11_isRow rfl rfl (Nat.le_of_ble_eq_true rfl) rfl (hX_len S) ?_
  unfold f_X11_isRow at hf
  refine E_iload_n dX11_isRow_0 rfl ?_
  refine E_iconst (v := 0) dX11_isRow_1 (by decide) ?_
  refine E_iconst (v := 2) dX11_isRow_2 (by decide) ?_
  refine E_callSI (st := []) (c_X11_isWithin l D dA ad S v0 0 2 (pO_bnd hf)) mf_X11_isWithin rfl gX11_isRow_X11_isWithin (by omega) rfl (Nat.le_of_ble_eq_true rfl) (by rfl) dX11_isRow_3 (fun r1 h1 q1 => ?_)
  obtain ⟨S_1, rfl, hf⟩ := q1
  dsimp only at hf
  obtain ⟨hn_2, hf⟩ := pO_gd hf
  exact E_zret rfl dX11_isRow_6 (pbit_n hn_2) ⟨_, rfl, hf⟩
theorem hi_X11_fits_11 : ∀ w ∈ u_ws RX11 TX11 10, w ∈ wsX11_fits := fun w h => of_decide_eq_true (List.all_eq_true.mp (by decide +kernel : (u_ws RX11 TX11 10).all (fun w => decide (w ∈ wsX11_fits)) = true) w h)
theorem fl_X11_fits_12 : pFL wsX11_fits RX11 12 11 0 := ⟨RX11, TX11, 10, hi_X11_fits_11, rfl, by decide, by decide +kernel⟩
theorem hi_X11_fits_0 : ∀ w ∈ u_ws RX0 TX0 3, w ∈ wsX11_fits := fun w h => of_decide_eq_true (List.all_eq_true.mp (by decide +kernel : (u_ws RX0 TX0 3).all (fun w => decide (w ∈ wsX11_fits)) = true) w h)
theorem fl_X11_fits_131 : pFL wsX11_fits RX11 131 0 1 := ⟨RX0, TX0, 3, hi_X11_fits_0, rfl, by decide, by decide +kernel⟩
theorem fl_X11_fits_28 : pFL wsX11_fits RX11 28 11 3 := ⟨RX11, TX11, 10, hi_X11_fits_11, rfl, by decide, by decide +kernel⟩
theorem hi_X6_isMissing_6 : ∀ w ∈ u_ws RX6 TX6 2, w ∈ wsX6_isMissing := fun w h => of_decide_eq_true (List.all_eq_true.mp (by decide +kernel : (u_ws RX6 TX6 2).all (fun w => decide (w ∈ wsX6_isMissing)) = true) w h)
theorem fl_X6_isMissing_7 : pFL wsX6_isMissing RX6 7 6 0 := ⟨RX6, TX6, 2, hi_X6_isMissing_6, rfl, by decide, by decide +kernel⟩
theorem mf_X6_isMissing : pMF yX6_isMissing wsX6_isMissing cX6_isMissing 2 (some .boolean) 1 := ⟨⟨_, rfl⟩, by decide +kernel, by decide, by decide +kernel, by decide +kernel, by decide +kernel⟩
def f_X6_isMissing (S : PS) (v1 : Int32) : Option (Int32 × PS) :=
  pgd (pin v1 3) (if (0 : Int32) ≤ ((S.2 24) v1.toNatClampNeg) then (some (0, S)) else (some (1, S)))
set_option maxRecDepth 100000 in
theorem c_X6_isMissing (l : Launch) (D : va_G) (dA : Nat → ClassId) (ad : Nat → Nat) (S : PS) (v1 : Int32) {P : (Int32 × PS) → Prop} (hf : pO (f_X6_isMissing S v1) P) : CtI l D dA ad yX6_isMissing wsX6_isMissing 0 [.ref 33, .int v1] (hX S) (fun r h' => ∃ S' : PS, h' = hX S' ∧ P (r, S')) := by
  refine CtI_of mf_X6_isMissing rfl rfl (Nat.le_of_ble_eq_true rfl) rfl (hX_len S) ?_
  unfold f_X6_isMissing at hf
  refine E_aload_n dX6_isMissing_0 rfl ?_
  refine E_getf (v := .ref 34) dX6_isMissing_1 fl_X6_isMissing_7 rfl rfl ?_
  refine E_iload_n dX6_isMissing_4 rfl ?_
  obtain ⟨hi_1, hf⟩ := pO_gd hf
  refine E_iald (n0 := 3) (f := S.2 24) dX6_isMissing_5 rfl (pin_in hi_1) ?_
  refine E_if_ge (tgt := 13) dX6_isMissing_6 (by decide) (fun c_2 => ?_) (fun c_2 => ?_)
  · have hf := pO_pos c_2 hf
    refine E_iconst (v := 0) dX6_isMissing_13 (by decide) ?_
    exact E_zret rfl dX6_isMissing_14 (by decide) ⟨_, rfl, hf⟩
  · have hf := pO_neg c_2 hf
    refine E_iconst (v := 1) dX6_isMissing_9 (by decide) ?_
    refine E_goto (tgt := 14) dX6_isMissing_10 (by decide) ?_
    exact E_zret rfl dX6_isMissing_14 (by decide) ⟨_, rfl, hf⟩
theorem hi_X11_fits_6 : ∀ w ∈ u_ws RX6 TX6 2, w ∈ wsX11_fits := fun w h => of_decide_eq_true (List.all_eq_true.mp (by decide +kernel : (u_ws RX6 TX6 2).all (fun w => decide (w ∈ wsX11_fits)) = true) w h)
theorem fl_X11_fits_291 : pFL wsX11_fits RX11 291 6 0 := ⟨RX6, TX6, 2, hi_X11_fits_6, rfl, by decide, by decide +kernel⟩
theorem hi_X11_fits_1 : ∀ w ∈ u_ws RX1 TX1 7, w ∈ wsX11_fits := fun w h => of_decide_eq_true (List.all_eq_true.mp (by decide +kernel : (u_ws RX1 TX1 7).all (fun w => decide (w ∈ wsX11_fits)) = true) w h)
theorem fl_X11_fits_140 : pFL wsX11_fits RX11 140 1 0 := ⟨RX1, TX1, 7, hi_X11_fits_1, rfl, by decide, by decide +kernel⟩
theorem fl_X11_fits_63 : pFL wsX11_fits RX11 63 11 8 := ⟨RX11, TX11, 10, hi_X11_fits_11, rfl, by decide, by decide +kernel⟩
theorem fl_X11_fits_82 : pFL wsX11_fits RX11 82 0 0 := ⟨RX0, TX0, 3, hi_X11_fits_0, rfl, by decide, by decide +kernel⟩
theorem fl_X11_fits_293 : pFL wsX11_fits RX11 293 6 1 := ⟨RX6, TX6, 2, hi_X11_fits_6, rfl, by decide, by decide +kernel⟩
theorem hi_X3_want_3 : ∀ w ∈ u_ws RX3 TX3 5, w ∈ wsX3_want := fun w h => of_decide_eq_true (List.all_eq_true.mp (by decide +kernel : (u_ws RX3 TX3 5).all (fun w => decide (w ∈ wsX3_want)) = true) w h)
theorem fl_X3_want_18 : pFL wsX3_want RX3 18 3 2 := ⟨RX3, TX3, 5, hi_X3_want_3, rfl, by decide, by decide +kernel⟩
theorem ft_3_2 : pFT 3 2 .int := ⟨RX3, TX3, 5, tyX3, rfl, by decide, tyX3_ok, nmX3, rfl, by decide +kernel⟩
theorem fl_X3_want_9 : pFL wsX3_want RX3 9 3 0 := ⟨RX3, TX3, 5, hi_X3_want_3, rfl, by decide, by decide +kernel⟩
theorem fl_X3_want_15 : pFL wsX3_want RX3 15 3 1 := ⟨RX3, TX3, 5, hi_X3_want_3, rfl, by decide, by decide +kernel⟩
def g_X3_want_8 (r : Nat) : Nat → PS → Int32 → Int32 → Option ((Int32 × PS) ⊕ (PS))
  | 0, _, _, _ => none
  | fuel + 1, S, v3, v4 =>
    if v3 ≤ v4 then (some (.inr (S))) else (pgd (pin v4 40) (pbnd (f_X2_top S) (fun r3 S_3 => pbnd (f_X11_isWithin S_3 ((S.2 (25 + r)) v4.toNatClampNeg) 0 r3) (fun r4 S_4 => if r4 = (0 : Int32) then (pbnd (f_X2_top S_4) (fun r6 S_6 => pbnd (f_X2_carriedAt S_6 r6) (fun r7 S_7 => pgd (pin v4 17) (if r4 = (0 : Int32) then (pgd (pin v4 17) (if r4 = (0 : Int32) then (if ((S.2 (25 + r)) v4.toNatClampNeg) = ((-2) : Int32) then (g_X3_want_8 r fuel (pAr (pAr S_7 32 (upd (S_7.2 32) v4.toNatClampNeg (r7 + 1))) 33 (upd (S_7.2 33) v4.toNatClampNeg 2147483647)) v3 (v4 + 1)) else (pgd (pin v4 17) (g_X3_want_8 r fuel (pAr (pAr (pAr S_7 32 (upd (S_7.2 32) v4.toNatClampNeg (r7 + 1))) 33 (upd (S_7.2 33) v4.toNatClampNeg 2147483647)) 33 (upd (upd (S_7.2 33) v4.toNatClampNeg 2147483647) v4.toNatClampNeg 0)) v3 (v4 + 1)))) else (g_X3_want_8 r fuel (pAr (pAr S_7 32 (upd (S_7.2 32) v4.toNatClampNeg (r7 + 1))) 33 (upd (S_7.2 33) v4.toNatClampNeg 2147483647)) v3 (v4 + 1)))) else (pbnd (f_X2_carriedAt (pAr S_7 32 (upd (S_7.2 32) v4.toNatClampNeg (r7 + 1))) ((S.2 (25 + r)) v4.toNatClampNeg)) (fun r14 S_14 => pgd (pin v4 17) (if r4 = (0 : Int32) then (if ((S.2 (25 + r)) v4.toNatClampNeg) = ((-2) : Int32) then (g_X3_want_8 r fuel (pAr S_14 33 (upd (S_14.2 33) v4.toNatClampNeg r14)) v3 (v4 + 1)) else (pgd (pin v4 17) (g_X3_want_8 r fuel (pAr (pAr S_14 33 (upd (S_14.2 33) v4.toNatClampNeg r14)) 33 (upd (upd (S_14.2 33) v4.toNatClampNeg r14) v4.toNatClampNeg 0)) v3 (v4 + 1)))) else (g_X3_want_8 r fuel (pAr S_14 33 (upd (S_14.2 33) v4.toNatClampNeg r14)) v3 (v4 + 1))))))))) else (pbnd (f_X2_carriedAt S_4 (((S.2 (25 + r)) v4.toNatClampNeg) - 1)) (fun r19 S_19 => pgd (pin v4 17) (if r4 = (0 : Int32) then (pgd (pin v4 17) (if r4 = (0 : Int32) then (if ((S.2 (25 + r)) v4.toNatClampNeg) = ((-2) : Int32) then (g_X3_want_8 r fuel (pAr (pAr S_19 32 (upd (S_19.2 32) v4.toNatClampNeg (r19 + 1))) 33 (upd (S_19.2 33) v4.toNatClampNeg 2147483647)) v3 (v4 + 1)) else (pgd (pin v4 17) (g_X3_want_8 r fuel (pAr (pAr (pAr S_19 32 (upd (S_19.2 32) v4.toNatClampNeg (r19 + 1))) 33 (upd (S_19.2 33) v4.toNatClampNeg 2147483647)) 33 (upd (upd (S_19.2 33) v4.toNatClampNeg 2147483647) v4.toNatClampNeg 0)) v3 (v4 + 1)))) else (g_X3_want_8 r fuel (pAr (pAr S_19 32 (upd (S_19.2 32) v4.toNatClampNeg (r19 + 1))) 33 (upd (S_19.2 33) v4.toNatClampNeg 2147483647)) v3 (v4 + 1)))) else (pbnd (f_X2_carriedAt (pAr S_19 32 (upd (S_19.2 32) v4.toNatClampNeg (r19 + 1))) ((S.2 (25 + r)) v4.toNatClampNeg)) (fun r26 S_26 => pgd (pin v4 17) (if r4 = (0 : Int32) then (if ((S.2 (25 + r)) v4.toNatClampNeg) = ((-2) : Int32) then (g_X3_want_8 r fuel (pAr S_26 33 (upd (S_26.2 33) v4.toNatClampNeg r26)) v3 (v4 + 1)) else (pgd (pin v4 17) (g_X3_want_8 r fuel (pAr (pAr S_26 33 (upd (S_26.2 33) v4.toNatClampNeg r26)) 33 (upd (upd (S_26.2 33) v4.toNatClampNeg r26) v4.toNatClampNeg 0)) v3 (v4 + 1)))) else (g_X3_want_8 r fuel (pAr S_26 33 (upd (S_26.2 33) v4.toNatClampNeg r26)) v3 (v4 + 1))))))))))))
set_option maxRecDepth 100000 in
theorem l_X3_want_8 (l : Launch) (D : va_G) (dA : Nat → ClassId) (ad : Nat → Nat) (r : Nat) (hr : r < 3) (d : Nat) (hd : 4 ≤ d) {Q : List PC → Prop} : ∀ (fuel : Nat) (S : PS) (v3 : Int32) (v4 : Int32), pO (g_X3_want_8 r fuel S v3 v4) (fun y => match y with
    | .inl x => Q (hX x.2)
    | .inr w => Ev l D dA ad wsX3_want cX3_want RX3 7 none d 52 (pKv D dA ad 52 Q) 110 [] [] (hX w)) → Ev l D dA ad wsX3_want cX3_want RX3 7 none d 52 (pKv D dA ad 52 Q) 8 [(0, .ref 47), (1, .ref 2), (2, .ref (36 + r)), (3, .int v3), (4, .int v4)] [] (hX S) := by
  intro fuel
  induction fuel with
  | zero =>
    intro S v3 v4 hf
    exact hf.elim
  | succ fuel ih =>
    intro S v3 v4 hf
    rw [g_X3_want_8] at hf
    refine E_iload dX3_want_8 rfl ?_
    refine E_iload_n dX3_want_10 rfl ?_
    refine E_icmp_ge (tgt := 110) dX3_want_11 (by decide) (fun c_1 => ?_) (fun c_1 => ?_)
    · have hf := pO_pos c_1 hf
      exact E_sub (ls' := []) trivial hf
    · have hf := pO_neg c_1 hf
      refine E_aload_n dX3_want_14 rfl ?_
      refine E_iload dX3_want_15 rfl ?_
      obtain ⟨hi_2, hf⟩ := pO_gd hf
      refine E_iald (n0 := 40) (f := S.2 (25 + r)) dX3_want_17 (gX_R36 S hr) (pin_in hi_2) ?_
      refine E_istore (ls' := [(0, .ref 47), (1, .ref 2), (2, .ref (36 + r)), (3, .int v3), (4, .int v4), (5, .int ((S.2 (25 + r)) v4.toNatClampNeg))]) dX3_want_18 (by decide) rfl ?_
      refine E_iload dX3_want_20 rfl ?_
      refine E_iconst (v := 0) dX3_want_22 (by decide) ?_
      refine E_aload_n dX3_want_23 rfl ?_
      refine E_callVI (st := [.int 0, .int ((S.2 (25 + r)) v4.toNatClampNeg)]) (c_X2_top l D dA ad S (pO_bnd hf)) mf_X2_top rfl rfl gX3_want_X2_top (pRc.of (ci := 2) rfl rfl) (by omega) rfl (Nat.le_of_ble_eq_true rfl) (by rfl) dX3_want_24 (fun r3 h3 q3 => ?_)
      obtain ⟨S_3, rfl, hf⟩ := q3
      dsimp only at hf
      refine E_callNI (st := []) (c_X11_isWithin l D dA ad S_3 ((S.2 (25 + r)) v4.toNatClampNeg) 0 r3 (pO_bnd hf)) mf_X11_isWithin rfl gX3_want_X11_isWithin_n69 (by decide +kernel) (by decide +kernel) (by decide +kernel) (by omega) rfl (Nat.le_of_ble_eq_true rfl) (by rfl) dX3_want_27 (fun r4 h4 q4 => ?_)
      obtain ⟨S_4, rfl, hf⟩ := q4
      dsimp only at hf
      refine E_istore (ls' := [(0, .ref 47), (1, .ref 2), (2, .ref (36 + r)), (3, .int v3), (4, .int v4), (5, .int ((S.2 (25 + r)) v4.toNatClampNeg)), (6, .int r4)]) dX3_want_30 (by decide) rfl ?_
      refine E_aload_n dX3_want_32 rfl ?_
      refine E_getf (v := .ref 48) dX3_want_33 fl_X3_want_9 rfl rfl ?_
      refine E_iload dX3_want_36 rfl ?_
      refine E_aload_n dX3_want_38 rfl ?_
      refine E_iload dX3_want_39 rfl ?_
      refine E_if_eq (tgt := 51) dX3_want_41 (by decide) (fun c_5 => ?_) (fun c_5 => ?_)
      · have hf := pO_pos c_5 hf
        refine E_aload_n dX3_want_51 rfl ?_
        refine E_callVI (st := [.ref 2, .int v4, .ref 48]) (c_X2_top l D dA ad S_4 (pO_bnd hf)) mf_X2_top rfl rfl gX3_want_X2_top (pRc.of (ci := 2) rfl rfl) (by omega) rfl (Nat.le_of_ble_eq_true rfl) (by rfl) dX3_want_52 (fun r6 h6 q6 => ?_)
        obtain ⟨S_6, rfl, hf⟩ := q6
        dsimp only at hf
        refine E_callVI (st := [.int v4, .ref 48]) (c_X2_carriedAt l D dA ad S_6 r6 (pO_bnd hf)) mf_X2_carriedAt rfl rfl gX3_want_X2_carriedAt (pRc.of (ci := 2) rfl rfl) (by omega) rfl (Nat.le_of_ble_eq_true rfl) (by rfl) dX3_want_55 (fun r7 h7 q7 => ?_)
        obtain ⟨S_7, rfl, hf⟩ := q7
        dsimp only at hf
        refine E_iconst (v := 1) dX3_want_58 (by decide) ?_
        refine E_iadd dX3_want_59 ?_
        obtain ⟨hi_8, hf⟩ := pO_gd hf
        refine E_iast (n0 := 17) (f := S_7.2 32) (h' := hX (pAr S_7 32 (upd (S_7.2 32) v4.toNatClampNeg (r7 + 1)))) dX3_want_60 rfl (pin_in hi_8) (sX_A32 S_7 (upd (S_7.2 32) v4.toNatClampNeg (r7 + 1))) ?_
        refine E_aload_n dX3_want_61 rfl ?_
        refine E_getf (v := .ref 49) dX3_want_62 fl_X3_want_15 rfl rfl ?_
        refine E_iload dX3_want_65 rfl ?_
        refine E_iload dX3_want_67 rfl ?_
        refine E_if_eq (tgt := 81) dX3_want_69 (by decide) (fun c_9 => ?_) (fun c_9 => ?_)
        · have hf := pO_pos c_9 hf
          refine E_ldc (v := 2147483647) dX3_want_81 (by decide +kernel) ?_
          obtain ⟨hi_10, hf⟩ := pO_gd hf
          refine E_iast (n0 := 17) (f := S_7.2 33) (h' := hX (pAr (pAr S_7 32 (upd (S_7.2 32) v4.toNatClampNeg (r7 + 1))) 33 (upd (S_7.2 33) v4.toNatClampNeg 2147483647))) dX3_want_83 rfl (pin_in hi_10) (sX_A33 (pAr S_7 32 (upd (S_7.2 32) v4.toNatClampNeg (r7 + 1))) (upd (S_7.2 33) v4.toNatClampNeg 2147483647)) ?_
          refine E_iload dX3_want_84 rfl ?_
          refine E_if_ne (tgt := 104) dX3_want_86 (by decide) (fun c_11 => ?_) (fun c_11 => ?_)
          · have hf := pO_neg c_11 hf
            refine E_iinc (v := v4 + 1) (ls' := [(0, .ref 47), (1, .ref 2), (2, .ref (36 + r)), (3, .int v3), (4, .int (v4 + 1)), (5, .int ((S.2 (25 + r)) v4.toNatClampNeg)), (6, .int r4)]) dX3_want_104 rfl rfl (by decide) rfl ?_
            refine E_goto (tgt := 8) dX3_want_107 (by decide) ?_
            exact E_sub (ls' := [(0, .ref 47), (1, .ref 2), (2, .ref (36 + r)), (3, .int v3), (4, .int (v4 + 1))]) ⟨rfl, rfl, rfl, rfl, rfl, trivial⟩ (ih (pAr (pAr S_7 32 (upd (S_7.2 32) v4.toNatClampNeg (r7 + 1))) 33 (upd (S_7.2 33) v4.toNatClampNeg 2147483647)) v3 (v4 + 1) hf)
          · have hf := pO_pos c_11 hf
            refine E_iload dX3_want_89 rfl ?_
            refine E_bipush (v := (-2)) dX3_want_91 (by decide) ?_
            refine E_icmp_eq (tgt := 104) dX3_want_93 (by decide) (fun c_12 => ?_) (fun c_12 => ?_)
            · have hf := pO_pos c_12 hf
              refine E_iinc (v := v4 + 1) (ls' := [(0, .ref 47), (1, .ref 2), (2, .ref (36 + r)), (3, .int v3), (4, .int (v4 + 1)), (5, .int ((S.2 (25 + r)) v4.toNatClampNeg)), (6, .int r4)]) dX3_want_104 rfl rfl (by decide) rfl ?_
              refine E_goto (tgt := 8) dX3_want_107 (by decide) ?_
              exact E_sub (ls' := [(0, .ref 47), (1, .ref 2), (2, .ref (36 + r)), (3, .int v3), (4, .int (v4 + 1))]) ⟨rfl, rfl, rfl, rfl, rfl, trivial⟩ (ih (pAr (pAr S_7 32 (upd (S_7.2 32) v4.toNatClampNeg (r7 + 1))) 33 (upd (S_7.2 33) v4.toNatClampNeg 2147483647)) v3 (v4 + 1) hf)
            · have hf := pO_neg c_12 hf
              refine E_aload_n dX3_want_96 rfl ?_
              refine E_getf (v := .ref 49) dX3_want_97 fl_X3_want_15 rfl rfl ?_
              refine E_iload dX3_want_100 rfl ?_
              refine E_iconst (v := 0) dX3_want_102 (by decide) ?_
              obtain ⟨hi_13, hf⟩ := pO_gd hf
              refine E_iast (n0 := 17) (f := upd (S_7.2 33) v4.toNatClampNeg 2147483647) (h' := hX (pAr (pAr (pAr S_7 32 (upd (S_7.2 32) v4.toNatClampNeg (r7 + 1))) 33 (upd (S_7.2 33) v4.toNatClampNeg 2147483647)) 33 (upd (upd (S_7.2 33) v4.toNatClampNeg 2147483647) v4.toNatClampNeg 0))) dX3_want_103 rfl (pin_in hi_13) (sX_A33 (pAr (pAr S_7 32 (upd (S_7.2 32) v4.toNatClampNeg (r7 + 1))) 33 (upd (S_7.2 33) v4.toNatClampNeg 2147483647)) (upd (upd (S_7.2 33) v4.toNatClampNeg 2147483647) v4.toNatClampNeg 0)) ?_
              refine E_iinc (v := v4 + 1) (ls' := [(0, .ref 47), (1, .ref 2), (2, .ref (36 + r)), (3, .int v3), (4, .int (v4 + 1)), (5, .int ((S.2 (25 + r)) v4.toNatClampNeg)), (6, .int r4)]) dX3_want_104 rfl rfl (by decide) rfl ?_
              refine E_goto (tgt := 8) dX3_want_107 (by decide) ?_
              exact E_sub (ls' := [(0, .ref 47), (1, .ref 2), (2, .ref (36 + r)), (3, .int v3), (4, .int (v4 + 1))]) ⟨rfl, rfl, rfl, rfl, rfl, trivial⟩ (ih (pAr (pAr (pAr S_7 32 (upd (S_7.2 32) v4.toNatClampNeg (r7 + 1))) 33 (upd (S_7.2 33) v4.toNatClampNeg 2147483647)) 33 (upd (upd (S_7.2 33) v4.toNatClampNeg 2147483647) v4.toNatClampNeg 0)) v3 (v4 + 1) hf)
        · have hf := pO_neg c_9 hf
          refine E_aload_n dX3_want_72 rfl ?_
          refine E_iload dX3_want_73 rfl ?_
          refine E_callVI (st := [.int v4, .ref 49]) (c_X2_carriedAt l D dA ad (pAr S_7 32 (upd (S_7.2 32) v4.toNatClampNeg (r7 + 1))) ((S.2 (25 + r)) v4.toNatClampNeg) (pO_bnd hf)) mf_X2_carriedAt rfl rfl gX3_want_X2_carriedAt (pRc.of (ci := 2) rfl rfl) (by omega) rfl (Nat.le_of_ble_eq_true rfl) (by rfl) dX3_want_75 (fun r14 h14 q14 => ?_)
          obtain ⟨S_14, rfl, hf⟩ := q14
          dsimp only at hf
          refine E_goto (tgt := 83) dX3_want_78 (by decide) ?_
          obtain ⟨hi_15, hf⟩ := pO_gd hf
          refine E_iast (n0 := 17) (f := S_14.2 33) (h' := hX (pAr S_14 33 (upd (S_14.2 33) v4.toNatClampNeg r14))) dX3_want_83 rfl (pin_in hi_15) (sX_A33 S_14 (upd (S_14.2 33) v4.toNatClampNeg r14)) ?_
          refine E_iload dX3_want_84 rfl ?_
          refine E_if_ne (tgt := 104) dX3_want_86 (by decide) (fun c_16 => ?_) (fun c_16 => ?_)
          · have hf := pO_neg c_16 hf
            refine E_iinc (v := v4 + 1) (ls' := [(0, .ref 47), (1, .ref 2), (2, .ref (36 + r)), (3, .int v3), (4, .int (v4 + 1)), (5, .int ((S.2 (25 + r)) v4.toNatClampNeg)), (6, .int r4)]) dX3_want_104 rfl rfl (by decide) rfl ?_
            refine E_goto (tgt := 8) dX3_want_107 (by decide) ?_
            exact E_sub (ls' := [(0, .ref 47), (1, .ref 2), (2, .ref (36 + r)), (3, .int v3), (4, .int (v4 + 1))]) ⟨rfl, rfl, rfl, rfl, rfl, trivial⟩ (ih (pAr S_14 33 (upd (S_14.2 33) v4.toNatClampNeg r14)) v3 (v4 + 1) hf)
          · have hf := pO_pos c_16 hf
            refine E_iload dX3_want_89 rfl ?_
            refine E_bipush (v := (-2)) dX3_want_91 (by decide) ?_
            refine E_icmp_eq (tgt := 104) dX3_want_93 (by decide) (fun c_17 => ?_) (fun c_17 => ?_)
            · have hf := pO_pos c_17 hf
              refine E_iinc (v := v4 + 1) (ls' := [(0, .ref 47), (1, .ref 2), (2, .ref (36 + r)), (3, .int v3), (4, .int (v4 + 1)), (5, .int ((S.2 (25 + r)) v4.toNatClampNeg)), (6, .int r4)]) dX3_want_104 rfl rfl (by decide) rfl ?_
              refine E_goto (tgt := 8) dX3_want_107 (by decide) ?_
              exact E_sub (ls' := [(0, .ref 47), (1, .ref 2), (2, .ref (36 + r)), (3, .int v3), (4, .int (v4 + 1))]) ⟨rfl, rfl, rfl, rfl, rfl, trivial⟩ (ih (pAr S_14 33 (upd (S_14.2 33) v4.toNatClampNeg r14)) v3 (v4 + 1) hf)
            · have hf := pO_neg c_17 hf
              refine E_aload_n dX3_want_96 rfl ?_
              refine E_getf (v := .ref 49) dX3_want_97 fl_X3_want_15 rfl rfl ?_
              refine E_iload dX3_want_100 rfl ?_
              refine E_iconst (v := 0) dX3_want_102 (by decide) ?_
              obtain ⟨hi_18, hf⟩ := pO_gd hf
              refine E_iast (n0 := 17) (f := upd (S_14.2 33) v4.toNatClampNeg r14) (h' := hX (pAr (pAr S_14 33 (upd (S_14.2 33) v4.toNatClampNeg r14)) 33 (upd (upd (S_14.2 33) v4.toNatClampNeg r14) v4.toNatClampNeg 0))) dX3_want_103 rfl (pin_in hi_18) (sX_A33 (pAr S_14 33 (upd (S_14.2 33) v4.toNatClampNeg r14)) (upd (upd (S_14.2 33) v4.toNatClampNeg r14) v4.toNatClampNeg 0)) ?_
              refine E_iinc (v := v4 + 1) (ls' := [(0, .ref 47), (1, .ref 2), (2, .ref (36 + r)), (3, .int v3), (4, .int (v4 + 1)), (5, .int ((S.2 (25 + r)) v4.toNatClampNeg)), (6, .int r4)]) dX3_want_104 rfl rfl (by decide) rfl ?_
              refine E_goto (tgt := 8) dX3_want_107 (by decide) ?_
              exact E_sub (ls' := [(0, .ref 47), (1, .ref 2), (2, .ref (36 + r)), (3, .int v3), (4, .int (v4 + 1))]) ⟨rfl, rfl, rfl, rfl, rfl, trivial⟩ (ih (pAr (pAr S_14 33 (upd (S_14.2 33) v4.toNatClampNeg r14)) 33 (upd (upd (S_14.2 33) v4.toNatClampNeg r14) v4.toNatClampNeg 0)) v3 (v4 + 1) hf)
      · have hf := pO_neg c_5 hf
        refine E_iload dX3_want_44 rfl ?_
        refine E_iconst (v := 1) dX3_want_46 (by decide) ?_
        refine E_isub dX3_want_47 ?_
        refine E_goto (tgt := 55) dX3_want_48 (by decide) ?_
        refine E_callVI (st := [.int v4, .ref 48]) (c_X2_carriedAt l D dA ad S_4 (((S.2 (25 + r)) v4.toNatClampNeg) - 1) (pO_bnd hf)) mf_X2_carriedAt rfl rfl gX3_want_X2_carriedAt (pRc.of (ci := 2) rfl rfl) (by omega) rfl (Nat.le_of_ble_eq_true rfl) (by rfl) dX3_want_55 (fun r19 h19 q19 => ?_)
        obtain ⟨S_19, rfl, hf⟩ := q19
        dsimp only at hf
        refine E_iconst (v := 1) dX3_want_58 (by decide) ?_
        refine E_iadd dX3_want_59 ?_
        obtain ⟨hi_20, hf⟩ := pO_gd hf
        refine E_iast (n0 := 17) (f := S_19.2 32) (h' := hX (pAr S_19 32 (upd (S_19.2 32) v4.toNatClampNeg (r19 + 1)))) dX3_want_60 rfl (pin_in hi_20) (sX_A32 S_19 (upd (S_19.2 32) v4.toNatClampNeg (r19 + 1))) ?_
        refine E_aload_n dX3_want_61 rfl ?_
        refine E_getf (v := .ref 49) dX3_want_62 fl_X3_want_15 rfl rfl ?_
        refine E_iload dX3_want_65 rfl ?_
        refine E_iload dX3_want_67 rfl ?_
        refine E_if_eq (tgt := 81) dX3_want_69 (by decide) (fun c_21 => ?_) (fun c_21 => ?_)
        · have hf := pO_pos c_21 hf
          refine E_ldc (v := 2147483647) dX3_want_81 (by decide +kernel) ?_
          obtain ⟨hi_22, hf⟩ := pO_gd hf
          refine E_iast (n0 := 17) (f := S_19.2 33) (h' := hX (pAr (pAr S_19 32 (upd (S_19.2 32) v4.toNatClampNeg (r19 + 1))) 33 (upd (S_19.2 33) v4.toNatClampNeg 2147483647))) dX3_want_83 rfl (pin_in hi_22) (sX_A33 (pAr S_19 32 (upd (S_19.2 32) v4.toNatClampNeg (r19 + 1))) (upd (S_19.2 33) v4.toNatClampNeg 2147483647)) ?_
          refine E_iload dX3_want_84 rfl ?_
          refine E_if_ne (tgt := 104) dX3_want_86 (by decide) (fun c_23 => ?_) (fun c_23 => ?_)
          · have hf := pO_neg c_23 hf
            refine E_iinc (v := v4 + 1) (ls' := [(0, .ref 47), (1, .ref 2), (2, .ref (36 + r)), (3, .int v3), (4, .int (v4 + 1)), (5, .int ((S.2 (25 + r)) v4.toNatClampNeg)), (6, .int r4)]) dX3_want_104 rfl rfl (by decide) rfl ?_
            refine E_goto (tgt := 8) dX3_want_107 (by decide) ?_
            exact E_sub (ls' := [(0, .ref 47), (1, .ref 2), (2, .ref (36 + r)), (3, .int v3), (4, .int (v4 + 1))]) ⟨rfl, rfl, rfl, rfl, rfl, trivial⟩ (ih (pAr (pAr S_19 32 (upd (S_19.2 32) v4.toNatClampNeg (r19 + 1))) 33 (upd (S_19.2 33) v4.toNatClampNeg 2147483647)) v3 (v4 + 1) hf)
          · have hf := pO_pos c_23 hf
            refine E_iload dX3_want_89 rfl ?_
            refine E_bipush (v := (-2)) dX3_want_91 (by decide) ?_
            refine E_icmp_eq (tgt := 104) dX3_want_93 (by decide) (fun c_24 => ?_) (fun c_24 => ?_)
            · have hf := pO_pos c_24 hf
              refine E_iinc (v := v4 + 1) (ls' := [(0, .ref 47), (1, .ref 2), (2, .ref (36 + r)), (3, .int v3), (4, .int (v4 + 1)), (5, .int ((S.2 (25 + r)) v4.toNatClampNeg)), (6, .int r4)]) dX3_want_104 rfl rfl (by decide) rfl ?_
              refine E_goto (tgt := 8) dX3_want_107 (by decide) ?_
              exact E_sub (ls' := [(0, .ref 47), (1, .ref 2), (2, .ref (36 + r)), (3, .int v3), (4, .int (v4 + 1))]) ⟨rfl, rfl, rfl, rfl, rfl, trivial⟩ (ih (pAr (pAr S_19 32 (upd (S_19.2 32) v4.toNatClampNeg (r19 + 1))) 33 (upd (S_19.2 33) v4.toNatClampNeg 2147483647)) v3 (v4 + 1) hf)
            · have hf := pO_neg c_24 hf
              refine E_aload_n dX3_want_96 rfl ?_
              refine E_getf (v := .ref 49) dX3_want_97 fl_X3_want_15 rfl rfl ?_
              refine E_iload dX3_want_100 rfl ?_
              refine E_iconst (v := 0) dX3_want_102 (by decide) ?_
              obtain ⟨hi_25, hf⟩ := pO_gd hf
              refine E_iast (n0 := 17) (f := upd (S_19.2 33) v4.toNatClampNeg 2147483647) (h' := hX (pAr (pAr (pAr S_19 32 (upd (S_19.2 32) v4.toNatClampNeg (r19 + 1))) 33 (upd (S_19.2 33) v4.toNatClampNeg 2147483647)) 33 (upd (upd (S_19.2 33) v4.toNatClampNeg 2147483647) v4.toNatClampNeg 0))) dX3_want_103 rfl (pin_in hi_25) (sX_A33 (pAr (pAr S_19 32 (upd (S_19.2 32) v4.toNatClampNeg (r19 + 1))) 33 (upd (S_19.2 33) v4.toNatClampNeg 2147483647)) (upd (upd (S_19.2 33) v4.toNatClampNeg 2147483647) v4.toNatClampNeg 0)) ?_
              refine E_iinc (v := v4 + 1) (ls' := [(0, .ref 47), (1, .ref 2), (2, .ref (36 + r)), (3, .int v3), (4, .int (v4 + 1)), (5, .int ((S.2 (25 + r)) v4.toNatClampNeg)), (6, .int r4)]) dX3_want_104 rfl rfl (by decide) rfl ?_
              refine E_goto (tgt := 8) dX3_want_107 (by decide) ?_
              exact E_sub (ls' := [(0, .ref 47), (1, .ref 2), (2, .ref (36 + r)), (3, .int v3), (4, .int (v4 + 1))]) ⟨rfl, rfl, rfl, rfl, rfl, trivial⟩ (ih (pAr (pAr (pAr S_19 32 (upd (S_19.2 32) v4.toNatClampNeg (r19 + 1))) 33 (upd (S_19.2 33) v4.toNatClampNeg 2147483647)) 33 (upd (upd (S_19.2 33) v4.toNatClampNeg 2147483647) v4.toNatClampNeg 0)) v3 (v4 + 1) hf)
        · have hf := pO_neg c_21 hf
          refine E_aload_n dX3_want_72 rfl ?_
          refine E_iload dX3_want_73 rfl ?_
          refine E_callVI (st := [.int v4, .ref 49]) (c_X2_carriedAt l D dA ad (pAr S_19 32 (upd (S_19.2 32) v4.toNatClampNeg (r19 + 1))) ((S.2 (25 + r)) v4.toNatClampNeg) (pO_bnd hf)) mf_X2_carriedAt rfl rfl gX3_want_X2_carriedAt (pRc.of (ci := 2) rfl rfl) (by omega) rfl (Nat.le_of_ble_eq_true rfl) (by rfl) dX3_want_75 (fun r26 h26 q26 => ?_)
          obtain ⟨S_26, rfl, hf⟩ := q26
          dsimp only at hf
          refine E_goto (tgt := 83) dX3_want_78 (by decide) ?_
          obtain ⟨hi_27, hf⟩ := pO_gd hf
          refine E_iast (n0 := 17) (f := S_26.2 33) (h' := hX (pAr S_26 33 (upd (S_26.2 33) v4.toNatClampNeg r26))) dX3_want_83 rfl (pin_in hi_27) (sX_A33 S_26 (upd (S_26.2 33) v4.toNatClampNeg r26)) ?_
          refine E_iload dX3_want_84 rfl ?_
          refine E_if_ne (tgt := 104) dX3_want_86 (by decide) (fun c_28 => ?_) (fun c_28 => ?_)
          · have hf := pO_neg c_28 hf
            refine E_iinc (v := v4 + 1) (ls' := [(0, .ref 47), (1, .ref 2), (2, .ref (36 + r)), (3, .int v3), (4, .int (v4 + 1)), (5, .int ((S.2 (25 + r)) v4.toNatClampNeg)), (6, .int r4)]) dX3_want_104 rfl rfl (by decide) rfl ?_
            refine E_goto (tgt := 8) dX3_want_107 (by decide) ?_
            exact E_sub (ls' := [(0, .ref 47), (1, .ref 2), (2, .ref (36 + r)), (3, .int v3), (4, .int (v4 + 1))]) ⟨rfl, rfl, rfl, rfl, rfl, trivial⟩ (ih (pAr S_26 33 (upd (S_26.2 33) v4.toNatClampNeg r26)) v3 (v4 + 1) hf)
          · have hf := pO_pos c_28 hf
            refine E_iload dX3_want_89 rfl ?_
            refine E_bipush (v := (-2)) dX3_want_91 (by decide) ?_
            refine E_icmp_eq (tgt := 104) dX3_want_93 (by decide) (fun c_29 => ?_) (fun c_29 => ?_)
            · have hf := pO_pos c_29 hf
              refine E_iinc (v := v4 + 1) (ls' := [(0, .ref 47), (1, .ref 2), (2, .ref (36 + r)), (3, .int v3), (4, .int (v4 + 1)), (5, .int ((S.2 (25 + r)) v4.toNatClampNeg)), (6, .int r4)]) dX3_want_104 rfl rfl (by decide) rfl ?_
              refine E_goto (tgt := 8) dX3_want_107 (by decide) ?_
              exact E_sub (ls' := [(0, .ref 47), (1, .ref 2), (2, .ref (36 + r)), (3, .int v3), (4, .int (v4 + 1))]) ⟨rfl, rfl, rfl, rfl, rfl, trivial⟩ (ih (pAr S_26 33 (upd (S_26.2 33) v4.toNatClampNeg r26)) v3 (v4 + 1) hf)
            · have hf := pO_neg c_29 hf
              refine E_aload_n dX3_want_96 rfl ?_
              refine E_getf (v := .ref 49) dX3_want_97 fl_X3_want_15 rfl rfl ?_
              refine E_iload dX3_want_100 rfl ?_
              refine E_iconst (v := 0) dX3_want_102 (by decide) ?_
              obtain ⟨hi_30, hf⟩ := pO_gd hf
              refine E_iast (n0 := 17) (f := upd (S_26.2 33) v4.toNatClampNeg r26) (h' := hX (pAr (pAr S_26 33 (upd (S_26.2 33) v4.toNatClampNeg r26)) 33 (upd (upd (S_26.2 33) v4.toNatClampNeg r26) v4.toNatClampNeg 0))) dX3_want_103 rfl (pin_in hi_30) (sX_A33 (pAr S_26 33 (upd (S_26.2 33) v4.toNatClampNeg r26)) (upd (upd (S_26.2 33) v4.toNatClampNeg r26) v4.toNatClampNeg 0)) ?_
              refine E_iinc (v := v4 + 1) (ls' := [(0, .ref 47), (1, .ref 2), (2, .ref (36 + r)), (3, .int v3), (4, .int (v4 + 1)), (5, .int ((S.2 (25 + r)) v4.toNatClampNeg)), (6, .int r4)]) dX3_want_104 rfl rfl (by decide) rfl ?_
              refine E_goto (tgt := 8) dX3_want_107 (by decide) ?_
              exact E_sub (ls' := [(0, .ref 47), (1, .ref 2), (2, .ref (36 + r)), (3, .int v3), (4, .int (v4 + 1))]) ⟨rfl, rfl, rfl, rfl, rfl, trivial⟩ (ih (pAr (pAr S_26 33 (upd (S_26.2 33) v4.toNatClampNeg r26)) 33 (upd (upd (S_26.2 33) v4.toNatClampNeg r26) v4.toNatClampNeg 0)) v3 (v4 + 1) hf)
theorem mf_X3_want : pMF yX3_want wsX3_want cX3_want 7 none 3 := ⟨⟨_, rfl⟩, by decide +kernel, by decide, by decide +kernel, by decide +kernel, by decide +kernel⟩
def f_X3_want (S : PS) (r : Nat) (v3 : Int32) : Option (Int32 × PS) :=
  plp (g_X3_want_8 r pfuel (pI S 19 v3) v3 0) (fun (S_31 : PS) => some (0, S_31))
set_option maxRecDepth 100000 in
theorem c_X3_want (l : Launch) (D : va_G) (dA : Nat → ClassId) (ad : Nat → Nat) (S : PS) (r : Nat) (hr : r < 3) (v3 : Int32) {P : (Int32 × PS) → Prop} (hf : pO (f_X3_want S r v3) P) : CtV l D dA ad yX3_want wsX3_want 4 [.ref 47, .ref 2, .ref (36 + r), .int v3] (hX S) (fun h' => ∃ (r0 : Int32) (S' : PS), h' = hX S' ∧ P (r0, S')) := by
  refine CtV_of mf_X3_want rfl rfl (Nat.le_of_ble_eq_true rfl) rfl (hX_len S) ?_
  unfold f_X3_want at hf
  refine E_aload_n dX3_want_0 rfl ?_
  refine E_iload_n dX3_want_1 rfl ?_
  refine E_putf (h' := hX (pI S 19 v3)) dX3_want_2 fl_X3_want_18 ft_3_2 rfl (Nat.lt_of_lt_of_eq (by decide : 2 < 5) rfl) rfl rfl ⟨_, rfl⟩ (sX_I19 S v3) ?_
  refine E_iconst (v := 0) dX3_want_5 (by decide) ?_
  refine E_istore (ls' := [(0, .ref 47), (1, .ref 2), (2, .ref (36 + r)), (3, .int v3), (4, .int 0)]) dX3_want_6 (by decide) rfl ?_
  refine E_sub (ls' := [(0, .ref 47), (1, .ref 2), (2, .ref (36 + r)), (3, .int v3), (4, .int 0)]) ⟨rfl, rfl, rfl, rfl, rfl, trivial⟩ ?_
  refine l_X3_want_8 l D dA ad r hr _ (by omega) pfuel (pI S 19 v3) v3 0 (pO_lp hf (fun x hx => ⟨x.1, x.2, rfl, hx⟩) (fun w31 hf => ?_))
  obtain ⟨S_31, rfl⟩ : ∃ z, z = w31 := ⟨_, rfl⟩
  dsimp only at hf ⊢
  exact E_vret rfl dX3_want_110 ⟨0, _, rfl, hf⟩
theorem fl_X11_fits_42 : pFL wsX11_fits RX11 42 11 5 := ⟨RX11, TX11, 10, hi_X11_fits_11, rfl, by decide, by decide +kernel⟩
theorem hi_X3_tryWeights_0 : ∀ w ∈ u_ws RX0 TX0 3, w ∈ wsX3_tryWeights := fun w h => of_decide_eq_true (List.all_eq_true.mp (by decide +kernel : (u_ws RX0 TX0 3).all (fun w => decide (w ∈ wsX3_tryWeights)) = true) w h)
theorem fl_X3_tryWeights_50 : pFL wsX3_tryWeights RX3 50 0 1 := ⟨RX0, TX0, 3, hi_X3_tryWeights_0, rfl, by decide, by decide +kernel⟩
theorem hi_X3_tryWeights_1 : ∀ w ∈ u_ws RX1 TX1 7, w ∈ wsX3_tryWeights := fun w h => of_decide_eq_true (List.all_eq_true.mp (by decide +kernel : (u_ws RX1 TX1 7).all (fun w => decide (w ∈ wsX3_tryWeights)) = true) w h)
theorem fl_X3_tryWeights_79 : pFL wsX3_tryWeights RX3 79 1 3 := ⟨RX1, TX1, 7, hi_X3_tryWeights_1, rfl, by decide, by decide +kernel⟩
theorem hi_X3_tryWeights_3 : ∀ w ∈ u_ws RX3 TX3 5, w ∈ wsX3_tryWeights := fun w h => of_decide_eq_true (List.all_eq_true.mp (by decide +kernel : (u_ws RX3 TX3 5).all (fun w => decide (w ∈ wsX3_tryWeights)) = true) w h)
theorem fl_X3_tryWeights_22 : pFL wsX3_tryWeights RX3 22 3 3 := ⟨RX3, TX3, 5, hi_X3_tryWeights_3, rfl, by decide, by decide +kernel⟩
theorem ft_3_3 : pFT 3 3 .int := ⟨RX3, TX3, 5, tyX3, rfl, by decide, tyX3_ok, nmX3, rfl, by decide +kernel⟩
theorem fl_X3_tryWeights_25 : pFL wsX3_tryWeights RX3 25 3 4 := ⟨RX3, TX3, 5, hi_X3_tryWeights_3, rfl, by decide, by decide +kernel⟩
theorem ft_3_4 : pFT 3 4 .int := ⟨RX3, TX3, 5, tyX3, rfl, by decide, tyX3_ok, nmX3, rfl, by decide +kernel⟩
theorem hi_X3_isSo_3 : ∀ w ∈ u_ws RX3 TX3 5, w ∈ wsX3_isSo := fun w h => of_decide_eq_true (List.all_eq_true.mp (by decide +kernel : (u_ws RX3 TX3 5).all (fun w => decide (w ∈ wsX3_isSo)) = true) w h)
theorem fl_X3_isSo_18 : pFL wsX3_isSo RX3 18 3 2 := ⟨RX3, TX3, 5, hi_X3_isSo_3, rfl, by decide, by decide +kernel⟩
theorem fl_X3_isSo_9 : pFL wsX3_isSo RX3 9 3 0 := ⟨RX3, TX3, 5, hi_X3_isSo_3, rfl, by decide, by decide +kernel⟩
theorem fl_X3_isSo_15 : pFL wsX3_isSo RX3 15 3 1 := ⟨RX3, TX3, 5, hi_X3_isSo_3, rfl, by decide, by decide +kernel⟩
theorem hi_X3_isSo_0 : ∀ w ∈ u_ws RX0 TX0 3, w ∈ wsX3_isSo := fun w h => of_decide_eq_true (List.all_eq_true.mp (by decide +kernel : (u_ws RX0 TX0 3).all (fun w => decide (w ∈ wsX3_isSo)) = true) w h)
theorem fl_X3_isSo_50 : pFL wsX3_isSo RX3 50 0 1 := ⟨RX0, TX0, 3, hi_X3_isSo_0, rfl, by decide, by decide +kernel⟩
theorem hi_X3_isSo_1 : ∀ w ∈ u_ws RX1 TX1 7, w ∈ wsX3_isSo := fun w h => of_decide_eq_true (List.all_eq_true.mp (by decide +kernel : (u_ws RX1 TX1 7).all (fun w => decide (w ∈ wsX3_isSo)) = true) w h)
theorem fl_X3_isSo_54 : pFL wsX3_isSo RX3 54 1 0 := ⟨RX1, TX1, 7, hi_X3_isSo_1, rfl, by decide, by decide +kernel⟩
theorem hi_X3_isSo_4 : ∀ w ∈ u_ws RX4 TX4 2, w ∈ wsX3_isSo := fun w h => of_decide_eq_true (List.all_eq_true.mp (by decide +kernel : (u_ws RX4 TX4 2).all (fun w => decide (w ∈ wsX3_isSo)) = true) w h)
theorem fl_X3_isSo_59 : pFL wsX3_isSo RX3 59 4 0 := ⟨RX4, TX4, 2, hi_X3_isSo_4, rfl, by decide, by decide +kernel⟩
def g_X3_isSo_42 : Nat → PS → Int32 → Int32 → Option ((Int32 × PS) ⊕ (PS))
  | 0, _, _, _ => none
  | fuel + 1, S, v3, v4 =>
    if (S.1 19) ≤ v4 then (some (.inr (S))) else (pgd (pin v4 17) (pgd (pin v4 17) (pbnd (f_X11_isWithin S v3 ((S.2 32) v4.toNatClampNeg) ((S.2 33) v4.toNatClampNeg)) (fun r7 S_7 => if r7 = (0 : Int32) then (some (.inl (0, S_7))) else (if (S_7.1 4) ≤ v4 then (g_X3_isSo_42 fuel S_7 v3 (v4 + 1)) else (pgd (pin v4 16) (pbnd (f_X0_weighsAt S_7 ((S_7.2 30) v4.toNatClampNeg)) (fun r11 S_11 => g_X3_isSo_42 fuel S_11 (v3 - r11) (v4 + 1)))))))))
set_option maxRecDepth 100000 in
theorem l_X3_isSo_42 (l : Launch) (D : va_G) (dA : Nat → ClassId) (ad : Nat → Nat) (d : Nat) (hd : 5 ≤ d) {Q : Int32 → List PC → Prop} : ∀ (fuel : Nat) (S : PS) (v3 : Int32) (v4 : Int32), pO (g_X3_isSo_42 fuel S v3 v4) (fun y => match y with
    | .inl x => Q x.1 (hX x.2)
    | .inr w => Ev l D dA ad wsX3_isSo cX3_isSo RX3 5 (some .boolean) d 52 (pKi D dA ad 52 Q) 106 [] [] (hX w)) → Ev l D dA ad wsX3_isSo cX3_isSo RX3 5 (some .boolean) d 52 (pKi D dA ad 52 Q) 42 [(0, .ref 47), (1, .ref 1), (2, .ref 42), (3, .int v3), (4, .int v4)] [] (hX S) := by
  intro fuel
  induction fuel with
  | zero =>
    intro S v3 v4 hf
    exact hf.elim
  | succ fuel ih =>
    intro S v3 v4 hf
    rw [g_X3_isSo_42] at hf
    refine E_iload dX3_isSo_42 rfl ?_
    refine E_aload_n dX3_isSo_44 rfl ?_
    refine E_getf (v := .int (S.1 19)) dX3_isSo_45 fl_X3_isSo_18 rfl rfl ?_
    refine E_icmp_ge (tgt := 106) dX3_isSo_48 (by decide) (fun c_4 => ?_) (fun c_4 => ?_)
    · have hf := pO_pos c_4 hf
      exact E_sub (ls' := []) trivial hf
    · have hf := pO_neg c_4 hf
      refine E_iload_n dX3_isSo_51 rfl ?_
      refine E_aload_n dX3_isSo_52 rfl ?_
      refine E_getf (v := .ref 48) dX3_isSo_53 fl_X3_isSo_9 rfl rfl ?_
      refine E_iload dX3_isSo_56 rfl ?_
      obtain ⟨hi_5, hf⟩ := pO_gd hf
      refine E_iald (n0 := 17) (f := S.2 32) dX3_isSo_58 rfl (pin_in hi_5) ?_
      refine E_aload_n dX3_isSo_59 rfl ?_
      refine E_getf (v := .ref 49) dX3_isSo_60 fl_X3_isSo_15 rfl rfl ?_
      refine E_iload dX3_isSo_63 rfl ?_
      obtain ⟨hi_6, hf⟩ := pO_gd hf
      refine E_iald (n0 := 17) (f := S.2 33) dX3_isSo_65 rfl (pin_in hi_6) ?_
      refine E_callNI (st := []) (c_X11_isWithin l D dA ad S v3 ((S.2 32) v4.toNatClampNeg) ((S.2 33) v4.toNatClampNeg) (pO_bnd hf)) mf_X11_isWithin rfl gX3_isSo_X11_isWithin_n69 (by decide +kernel) (by decide +kernel) (by decide +kernel) (by omega) rfl (Nat.le_of_ble_eq_true rfl) (by rfl) dX3_isSo_66 (fun r7 h7 q7 => ?_)
      obtain ⟨S_7, rfl, hf⟩ := q7
      dsimp only at hf
      refine E_if_ne (tgt := 74) dX3_isSo_69 (by decide) (fun c_8 => ?_) (fun c_8 => ?_)
      · have hf := pO_neg c_8 hf
        refine E_iload dX3_isSo_74 rfl ?_
        refine E_aload_n dX3_isSo_76 rfl ?_
        refine E_getf (v := .ref 5) dX3_isSo_77 fl_X3_isSo_50 rfl rfl ?_
        refine E_getf (v := .int (S_7.1 4)) dX3_isSo_80 fl_X3_isSo_54 rfl rfl ?_
        refine E_icmp_ge (tgt := 100) dX3_isSo_83 (by decide) (fun c_9 => ?_) (fun c_9 => ?_)
        · have hf := pO_pos c_9 hf
          refine E_iinc (v := v4 + 1) (ls' := [(0, .ref 47), (1, .ref 1), (2, .ref 42), (3, .int v3), (4, .int (v4 + 1))]) dX3_isSo_100 rfl rfl (by decide) rfl ?_
          refine E_goto (tgt := 42) dX3_isSo_103 (by decide) ?_
          exact E_sub (ls' := [(0, .ref 47), (1, .ref 1), (2, .ref 42), (3, .int v3), (4, .int (v4 + 1))]) ⟨rfl, rfl, rfl, rfl, rfl, trivial⟩ (ih S_7 v3 (v4 + 1) hf)
        · have hf := pO_neg c_9 hf
          refine E_iload_n dX3_isSo_86 rfl ?_
          refine E_aload_n dX3_isSo_87 rfl ?_
          refine E_aload_n dX3_isSo_88 rfl ?_
          refine E_getf (v := .ref 43) dX3_isSo_89 fl_X3_isSo_59 rfl rfl ?_
          refine E_iload dX3_isSo_92 rfl ?_
          obtain ⟨hi_10, hf⟩ := pO_gd hf
          refine E_iald (n0 := 16) (f := S_7.2 30) dX3_isSo_94 rfl (pin_in hi_10) ?_
          refine E_callVI (st := [.int v3]) (c_X0_weighsAt l D dA ad S_7 ((S_7.2 30) v4.toNatClampNeg) (pO_bnd hf)) mf_X0_weighsAt rfl rfl gX3_isSo_X0_weighsAt (pRc.of (ci := 0) rfl rfl) (by omega) rfl (Nat.le_of_ble_eq_true rfl) (by rfl) dX3_isSo_95 (fun r11 h11 q11 => ?_)
          obtain ⟨S_11, rfl, hf⟩ := q11
          dsimp only at hf
          refine E_isub dX3_isSo_98 ?_
          refine E_istore_n (ls' := [(0, .ref 47), (1, .ref 1), (2, .ref 42), (3, .int (v3 - r11)), (4, .int v4)]) dX3_isSo_99 (by decide) rfl ?_
          refine E_iinc (v := v4 + 1) (ls' := [(0, .ref 47), (1, .ref 1), (2, .ref 42), (3, .int (v3 - r11)), (4, .int (v4 + 1))]) dX3_isSo_100 rfl rfl (by decide) rfl ?_
          refine E_goto (tgt := 42) dX3_isSo_103 (by decide) ?_
          exact E_sub (ls' := [(0, .ref 47), (1, .ref 1), (2, .ref 42), (3, .int (v3 - r11)), (4, .int (v4 + 1))]) ⟨rfl, rfl, rfl, rfl, rfl, trivial⟩ (ih S_11 (v3 - r11) (v4 + 1) hf)
      · have hf := pO_pos c_8 hf
        refine E_iconst (v := 0) dX3_isSo_72 (by decide) ?_
        exact E_zret rfl dX3_isSo_73 (by decide) hf
theorem mf_X3_isSo : pMF yX3_isSo wsX3_isSo cX3_isSo 5 (some .boolean) 2 := ⟨⟨_, rfl⟩, by decide +kernel, by decide, by decide +kernel, by decide +kernel, by decide +kernel⟩
def f_X3_isSo (S : PS) : Option (Int32 × PS) :=
  pbnd (f_X0_allWeight S) (fun r1 S_1 => if (S_1.1 19) ≤ (0 : Int32) then (pbnd (f_X4_arrange S_1 0) (fun _ S_3 => plp (g_X3_isSo_42 pfuel S_3 r1 0) (fun (S_12 : PS) => some (1, S_12)))) else (pbnd (f_X11_isWithin S_1 r1 ((S_1.2 32) 0) ((S_1.2 33) 0)) (fun r13 S_13 => if r13 = (0 : Int32) then (some (0, S_13)) else (pbnd (f_X4_arrange S_13 0) (fun _ S_15 => plp (g_X3_isSo_42 pfuel S_15 r1 0) (fun (S_16 : PS) => some (1, S_16)))))))
set_option maxRecDepth 100000 in
theorem c_X3_isSo (l : Launch) (D : va_G) (dA : Nat → ClassId) (ad : Nat → Nat) (S : PS) {P : (Int32 × PS) → Prop} (hf : pO (f_X3_isSo S) P) : CtI l D dA ad yX3_isSo wsX3_isSo 5 [.ref 47, .ref 1, .ref 42] (hX S) (fun r h' => ∃ S' : PS, h' = hX S' ∧ P (r, S')) := by
  refine CtI_of mf_X3_isSo rfl rfl (Nat.le_of_ble_eq_true rfl) rfl (hX_len S) ?_
  unfold f_X3_isSo at hf
  refine E_aload_n dX3_isSo_0 rfl ?_
  refine E_callVI (st := []) (c_X0_allWeight l D dA ad S (pO_bnd hf)) mf_X0_allWeight rfl rfl gX3_isSo_X0_allWeight (pRc.of (ci := 0) rfl rfl) (by omega) rfl (Nat.le_of_ble_eq_true rfl) (by rfl) dX3_isSo_1 (fun r1 h1 q1 => ?_)
  obtain ⟨S_1, rfl, hf⟩ := q1
  dsimp only at hf
  refine E_istore_n (ls' := [(0, .ref 47), (1, .ref 1), (2, .ref 42), (3, .int r1)]) dX3_isSo_4 (by decide) rfl ?_
  refine E_aload_n dX3_isSo_5 rfl ?_
  refine E_getf (v := .int (S_1.1 19)) dX3_isSo_6 fl_X3_isSo_18 rfl rfl ?_
  refine E_if_le (tgt := 33) dX3_isSo_9 (by decide) (fun c_2 => ?_) (fun c_2 => ?_)
  · have hf := pO_pos c_2 hf
    refine E_aload_n dX3_isSo_33 rfl ?_
    refine E_aload_n dX3_isSo_34 rfl ?_
    refine E_iconst (v := 0) dX3_isSo_35 (by decide) ?_
    refine E_callVV (st := []) (c_X4_arrange l D dA ad S_1 0 (pO_bnd hf)) mf_X4_arrange rfl rfl gX3_isSo_X4_arrange (pRc.of (ci := 4) rfl rfl) (by omega) rfl (Nat.le_of_ble_eq_true rfl) (by rfl) dX3_isSo_36 (fun h3 q3 => ?_)
    obtain ⟨r3, S_3, rfl, hf⟩ := q3
    dsimp only at hf
    refine E_iconst (v := 0) dX3_isSo_39 (by decide) ?_
    refine E_istore (ls' := [(0, .ref 47), (1, .ref 1), (2, .ref 42), (3, .int r1), (4, .int 0)]) dX3_isSo_40 (by decide) rfl ?_
    refine E_sub (ls' := [(0, .ref 47), (1, .ref 1), (2, .ref 42), (3, .int r1), (4, .int 0)]) ⟨rfl, rfl, rfl, rfl, rfl, trivial⟩ ?_
    refine l_X3_isSo_42 l D dA ad _ (by omega) pfuel S_3 r1 0 (pO_lp hf (fun x hx => ⟨x.2, rfl, hx⟩) (fun w12 hf => ?_))
    obtain ⟨S_12, rfl⟩ : ∃ z, z = w12 := ⟨_, rfl⟩
    dsimp only at hf ⊢
    refine E_iconst (v := 1) dX3_isSo_106 (by decide) ?_
    exact E_zret rfl dX3_isSo_107 (by decide) ⟨_, rfl, hf⟩
  · have hf := pO_neg c_2 hf
    refine E_iload_n dX3_isSo_12 rfl ?_
    refine E_aload_n dX3_isSo_13 rfl ?_
    refine E_getf (v := .ref 48) dX3_isSo_14 fl_X3_isSo_9 rfl rfl ?_
    refine E_iconst (v := 0) dX3_isSo_17 (by decide) ?_
    refine E_iald (n0 := 17) (f := S_1.2 32) dX3_isSo_18 rfl (pin_in (by decide)) ?_
    refine E_val (y := (S_1.2 32) 0) rfl ?_
    refine E_aload_n dX3_isSo_19 rfl ?_
    refine E_getf (v := .ref 49) dX3_isSo_20 fl_X3_isSo_15 rfl rfl ?_
    refine E_iconst (v := 0) dX3_isSo_23 (by decide) ?_
    refine E_iald (n0 := 17) (f := S_1.2 33) dX3_isSo_24 rfl (pin_in (by decide)) ?_
    refine E_val (y := (S_1.2 33) 0) rfl ?_
    refine E_callNI (st := []) (c_X11_isWithin l D dA ad S_1 r1 ((S_1.2 32) 0) ((S_1.2 33) 0) (pO_bnd hf)) mf_X11_isWithin rfl gX3_isSo_X11_isWithin_n69 (by decide +kernel) (by decide +kernel) (by decide +kernel) (by omega) rfl (Nat.le_of_ble_eq_true rfl) (by rfl) dX3_isSo_25 (fun r13 h13 q13 => ?_)
    obtain ⟨S_13, rfl, hf⟩ := q13
    dsimp only at hf
    refine E_if_ne (tgt := 33) dX3_isSo_28 (by decide) (fun c_14 => ?_) (fun c_14 => ?_)
    · have hf := pO_neg c_14 hf
      refine E_aload_n dX3_isSo_33 rfl ?_
      refine E_aload_n dX3_isSo_34 rfl ?_
      refine E_iconst (v := 0) dX3_isSo_35 (by decide) ?_
      refine E_callVV (st := []) (c_X4_arrange l D dA ad S_13 0 (pO_bnd hf)) mf_X4_arrange rfl rfl gX3_isSo_X4_arrange (pRc.of (ci := 4) rfl rfl) (by omega) rfl (Nat.le_of_ble_eq_true rfl) (by rfl) dX3_isSo_36 (fun h15 q15 => ?_)
      obtain ⟨r15, S_15, rfl, hf⟩ := q15
      dsimp only at hf
      refine E_iconst (v := 0) dX3_isSo_39 (by decide) ?_
      refine E_istore (ls' := [(0, .ref 47), (1, .ref 1), (2, .ref 42), (3, .int r1), (4, .int 0)]) dX3_isSo_40 (by decide) rfl ?_
      refine E_sub (ls' := [(0, .ref 47), (1, .ref 1), (2, .ref 42), (3, .int r1), (4, .int 0)]) ⟨rfl, rfl, rfl, rfl, rfl, trivial⟩ ?_
      refine l_X3_isSo_42 l D dA ad _ (by omega) pfuel S_15 r1 0 (pO_lp hf (fun x hx => ⟨x.2, rfl, hx⟩) (fun w16 hf => ?_))
      obtain ⟨S_16, rfl⟩ : ∃ z, z = w16 := ⟨_, rfl⟩
      dsimp only at hf ⊢
      refine E_iconst (v := 1) dX3_isSo_106 (by decide) ?_
      exact E_zret rfl dX3_isSo_107 (by decide) ⟨_, rfl, hf⟩
    · have hf := pO_pos c_14 hf
      refine E_iconst (v := 0) dX3_isSo_31 (by decide) ?_
      exact E_zret rfl dX3_isSo_32 (by decide) ⟨_, rfl, hf⟩
def g_X3_tryWeights_25 : Nat → PS → Int32 → Int32 → Int32 → Option ((Int32 × PS) ⊕ (PS))
  | 0, _, _, _, _ => none
  | fuel + 1, S, v3, v4, v5 =>
    if (999 : Int32) < v5 then (some (.inr (S))) else (pgd (pin v3 16) (pbnd (f_X3_isSo (pAr S 4 (upd (S.2 4) v3.toNatClampNeg v5))) (fun r4 S_4 => if r4 = (0 : Int32) then (g_X3_tryWeights_25 fuel S_4 v3 v4 (v5 + 1)) else (if (S_4.1 20) = (0 : Int32) then (g_X3_tryWeights_25 fuel (pI (pI S_4 21 v5) 20 ((S_4.1 20) + 1)) v3 v4 (v5 + 1)) else (g_X3_tryWeights_25 fuel (pI S_4 20 ((S_4.1 20) + 1)) v3 v4 (v5 + 1))))))
set_option maxRecDepth 100000 in
theorem l_X3_tryWeights_25 (l : Launch) (D : va_G) (dA : Nat → ClassId) (ad : Nat → Nat) (d : Nat) (hd : 6 ≤ d) {Q : List PC → Prop} : ∀ (fuel : Nat) (S : PS) (v3 : Int32) (v4 : Int32) (v5 : Int32), pO (g_X3_tryWeights_25 fuel S v3 v4 v5) (fun y => match y with
    | .inl x => Q (hX x.2)
    | .inr w => Ev l D dA ad wsX3_tryWeights cX3_tryWeights RX3 6 none d 52 (pKv D dA ad 52 Q) 82 [(1, .ref 1), (3, .int v3), (4, .int v4)] [] (hX w)) → Ev l D dA ad wsX3_tryWeights cX3_tryWeights RX3 6 none d 52 (pKv D dA ad 52 Q) 25 [(0, .ref 47), (1, .ref 1), (2, .ref 42), (3, .int v3), (4, .int v4), (5, .int v5)] [] (hX S) := by
  intro fuel
  induction fuel with
  | zero =>
    intro S v3 v4 v5 hf
    exact hf.elim
  | succ fuel ih =>
    intro S v3 v4 v5 hf
    rw [g_X3_tryWeights_25] at hf
    refine E_iload dX3_tryWeights_25 rfl ?_
    refine E_sipush (v := 999) dX3_tryWeights_27 (by decide) ?_
    refine E_icmp_gt (tgt := 82) dX3_tryWeights_30 (by decide) (fun c_2 => ?_) (fun c_2 => ?_)
    · have hf := pO_pos c_2 hf
      exact E_sub (ls' := [(1, .ref 1), (3, .int v3), (4, .int v4)]) ⟨rfl, rfl, rfl, trivial⟩ hf
    · have hf := pO_neg c_2 hf
      refine E_aload_n dX3_tryWeights_33 rfl ?_
      refine E_getf (v := .ref 5) dX3_tryWeights_34 fl_X3_tryWeights_50 rfl rfl ?_
      refine E_getf (v := .ref 8) dX3_tryWeights_37 fl_X3_tryWeights_79 rfl rfl ?_
      refine E_iload_n dX3_tryWeights_40 rfl ?_
      refine E_iload dX3_tryWeights_41 rfl ?_
      obtain ⟨hi_3, hf⟩ := pO_gd hf
      refine E_iast (n0 := 16) (f := S.2 4) (h' := hX (pAr S 4 (upd (S.2 4) v3.toNatClampNeg v5))) dX3_tryWeights_43 rfl (pin_in hi_3) (sX_A4 S (upd (S.2 4) v3.toNatClampNeg v5)) ?_
      refine E_aload_n dX3_tryWeights_44 rfl ?_
      refine E_aload_n dX3_tryWeights_45 rfl ?_
      refine E_aload_n dX3_tryWeights_46 rfl ?_
      refine E_callVI (st := []) (c_X3_isSo l D dA ad (pAr S 4 (upd (S.2 4) v3.toNatClampNeg v5)) (pO_bnd hf)) mf_X3_isSo rfl rfl gX3_tryWeights_X3_isSo (pRc.of (ci := 3) rfl rfl) (by omega) rfl (Nat.le_of_ble_eq_true rfl) (by rfl) dX3_tryWeights_47 (fun r4 h4 q4 => ?_)
      obtain ⟨S_4, rfl, hf⟩ := q4
      dsimp only at hf
      refine E_if_eq (tgt := 76) dX3_tryWeights_50 (by decide) (fun c_5 => ?_) (fun c_5 => ?_)
      · have hf := pO_pos c_5 hf
        refine E_iinc (v := v5 + 1) (ls' := [(0, .ref 47), (1, .ref 1), (2, .ref 42), (3, .int v3), (4, .int v4), (5, .int (v5 + 1))]) dX3_tryWeights_76 rfl rfl (by decide) rfl ?_
        refine E_goto (tgt := 25) dX3_tryWeights_79 (by decide) ?_
        exact E_sub (ls' := [(0, .ref 47), (1, .ref 1), (2, .ref 42), (3, .int v3), (4, .int v4), (5, .int (v5 + 1))]) ⟨rfl, rfl, rfl, rfl, rfl, rfl, trivial⟩ (ih S_4 v3 v4 (v5 + 1) hf)
      · have hf := pO_neg c_5 hf
        refine E_aload_n dX3_tryWeights_53 rfl ?_
        refine E_getf (v := .int (S_4.1 20)) dX3_tryWeights_54 fl_X3_tryWeights_22 rfl rfl ?_
        refine E_if_ne (tgt := 66) dX3_tryWeights_57 (by decide) (fun c_6 => ?_) (fun c_6 => ?_)
        · have hf := pO_neg c_6 hf
          refine E_aload_n dX3_tryWeights_66 rfl ?_
          refine E_dup dX3_tryWeights_67 rfl ?_
          refine E_getf (v := .int (S_4.1 20)) dX3_tryWeights_68 fl_X3_tryWeights_22 rfl rfl ?_
          refine E_iconst (v := 1) dX3_tryWeights_71 (by decide) ?_
          refine E_iadd dX3_tryWeights_72 ?_
          refine E_putf (h' := hX (pI S_4 20 ((S_4.1 20) + 1))) dX3_tryWeights_73 fl_X3_tryWeights_22 ft_3_3 rfl (Nat.lt_of_lt_of_eq (by decide : 3 < 5) rfl) rfl rfl ⟨_, rfl⟩ (sX_I20 S_4 ((S_4.1 20) + 1)) ?_
          refine E_iinc (v := v5 + 1) (ls' := [(0, .ref 47), (1, .ref 1), (2, .ref 42), (3, .int v3), (4, .int v4), (5, .int (v5 + 1))]) dX3_tryWeights_76 rfl rfl (by decide) rfl ?_
          refine E_goto (tgt := 25) dX3_tryWeights_79 (by decide) ?_
          exact E_sub (ls' := [(0, .ref 47), (1, .ref 1), (2, .ref 42), (3, .int v3), (4, .int v4), (5, .int (v5 + 1))]) ⟨rfl, rfl, rfl, rfl, rfl, rfl, trivial⟩ (ih (pI S_4 20 ((S_4.1 20) + 1)) v3 v4 (v5 + 1) hf)
        · have hf := pO_pos c_6 hf
          refine E_aload_n dX3_tryWeights_60 rfl ?_
          refine E_iload dX3_tryWeights_61 rfl ?_
          refine E_putf (h' := hX (pI S_4 21 v5)) dX3_tryWeights_63 fl_X3_tryWeights_25 ft_3_4 rfl (Nat.lt_of_lt_of_eq (by decide : 4 < 5) rfl) rfl rfl ⟨_, rfl⟩ (sX_I21 S_4 v5) ?_
          refine E_aload_n dX3_tryWeights_66 rfl ?_
          refine E_dup dX3_tryWeights_67 rfl ?_
          refine E_getf (v := .int (S_4.1 20)) dX3_tryWeights_68 fl_X3_tryWeights_22 rfl rfl ?_
          refine E_iconst (v := 1) dX3_tryWeights_71 (by decide) ?_
          refine E_iadd dX3_tryWeights_72 ?_
          refine E_putf (h' := hX (pI (pI S_4 21 v5) 20 ((S_4.1 20) + 1))) dX3_tryWeights_73 fl_X3_tryWeights_22 ft_3_3 rfl (Nat.lt_of_lt_of_eq (by decide : 3 < 5) rfl) rfl rfl ⟨_, rfl⟩ (sX_I20 (pI S_4 21 v5) ((S_4.1 20) + 1)) ?_
          refine E_iinc (v := v5 + 1) (ls' := [(0, .ref 47), (1, .ref 1), (2, .ref 42), (3, .int v3), (4, .int v4), (5, .int (v5 + 1))]) dX3_tryWeights_76 rfl rfl (by decide) rfl ?_
          refine E_goto (tgt := 25) dX3_tryWeights_79 (by decide) ?_
          exact E_sub (ls' := [(0, .ref 47), (1, .ref 1), (2, .ref 42), (3, .int v3), (4, .int v4), (5, .int (v5 + 1))]) ⟨rfl, rfl, rfl, rfl, rfl, rfl, trivial⟩ (ih (pI (pI S_4 21 v5) 20 ((S_4.1 20) + 1)) v3 v4 (v5 + 1) hf)
theorem mf_X3_tryWeights : pMF yX3_tryWeights wsX3_tryWeights cX3_tryWeights 6 none 3 := ⟨⟨_, rfl⟩, by decide +kernel, by decide, by decide +kernel, by decide +kernel, by decide +kernel⟩
def f_X3_tryWeights (S : PS) (v3 : Int32) : Option (Int32 × PS) :=
  pgd (pin v3 16) (plp (g_X3_tryWeights_25 pfuel (pI (pI S 20 0) 21 (-2)) v3 ((S.2 4) v3.toNatClampNeg) 1) (fun (S_7 : PS) => pgd (pin v3 16) (some (0, (pAr S_7 4 (upd (S_7.2 4) v3.toNatClampNeg ((S.2 4) v3.toNatClampNeg)))))))
set_option maxRecDepth 100000 in
theorem c_X3_tryWeights (l : Launch) (D : va_G) (dA : Nat → ClassId) (ad : Nat → Nat) (S : PS) (v3 : Int32) {P : (Int32 × PS) → Prop} (hf : pO (f_X3_tryWeights S v3) P) : CtV l D dA ad yX3_tryWeights wsX3_tryWeights 6 [.ref 47, .ref 1, .ref 42, .int v3] (hX S) (fun h' => ∃ (r0 : Int32) (S' : PS), h' = hX S' ∧ P (r0, S')) := by
  refine CtV_of mf_X3_tryWeights rfl rfl (Nat.le_of_ble_eq_true rfl) rfl (hX_len S) ?_
  unfold f_X3_tryWeights at hf
  refine E_aload_n dX3_tryWeights_0 rfl ?_
  refine E_getf (v := .ref 5) dX3_tryWeights_1 fl_X3_tryWeights_50 rfl rfl ?_
  refine E_getf (v := .ref 8) dX3_tryWeights_4 fl_X3_tryWeights_79 rfl rfl ?_
  refine E_iload_n dX3_tryWeights_7 rfl ?_
  obtain ⟨hi_1, hf⟩ := pO_gd hf
  refine E_iald (n0 := 16) (f := S.2 4) dX3_tryWeights_8 rfl (pin_in hi_1) ?_
  refine E_istore (ls' := [(0, .ref 47), (1, .ref 1), (2, .ref 42), (3, .int v3), (4, .int ((S.2 4) v3.toNatClampNeg))]) dX3_tryWeights_9 (by decide) rfl ?_
  refine E_aload_n dX3_tryWeights_11 rfl ?_
  refine E_iconst (v := 0) dX3_tryWeights_12 (by decide) ?_
  refine E_putf (h' := hX (pI S 20 0)) dX3_tryWeights_13 fl_X3_tryWeights_22 ft_3_3 rfl (Nat.lt_of_lt_of_eq (by decide : 3 < 5) rfl) rfl rfl ⟨_, rfl⟩ (sX_I20 S 0) ?_
  refine E_aload_n dX3_tryWeights_16 rfl ?_
  refine E_bipush (v := (-2)) dX3_tryWeights_17 (by decide) ?_
  refine E_putf (h' := hX (pI (pI S 20 0) 21 (-2))) dX3_tryWeights_19 fl_X3_tryWeights_25 ft_3_4 rfl (Nat.lt_of_lt_of_eq (by decide : 4 < 5) rfl) rfl rfl ⟨_, rfl⟩ (sX_I21 (pI S 20 0) (-2)) ?_
  refine E_iconst (v := 1) dX3_tryWeights_22 (by decide) ?_
  refine E_istore (ls' := [(0, .ref 47), (1, .ref 1), (2, .ref 42), (3, .int v3), (4, .int ((S.2 4) v3.toNatClampNeg)), (5, .int 1)]) dX3_tryWeights_23 (by decide) rfl ?_
  refine E_sub (ls' := [(0, .ref 47), (1, .ref 1), (2, .ref 42), (3, .int v3), (4, .int ((S.2 4) v3.toNatClampNeg)), (5, .int 1)]) ⟨rfl, rfl, rfl, rfl, rfl, rfl, trivial⟩ ?_
  refine l_X3_tryWeights_25 l D dA ad _ (by omega) pfuel (pI (pI S 20 0) 21 (-2)) v3 ((S.2 4) v3.toNatClampNeg) 1 (pO_lp hf (fun x hx => ⟨x.1, x.2, rfl, hx⟩) (fun w7 hf => ?_))
  obtain ⟨S_7, rfl⟩ : ∃ z, z = w7 := ⟨_, rfl⟩
  dsimp only at hf ⊢
  refine E_aload_n dX3_tryWeights_82 rfl ?_
  refine E_getf (v := .ref 5) dX3_tryWeights_83 fl_X3_tryWeights_50 rfl rfl ?_
  refine E_getf (v := .ref 8) dX3_tryWeights_86 fl_X3_tryWeights_79 rfl rfl ?_
  refine E_iload_n dX3_tryWeights_89 rfl ?_
  refine E_iload dX3_tryWeights_90 rfl ?_
  obtain ⟨hi_8, hf⟩ := pO_gd hf
  refine E_iast (n0 := 16) (f := S_7.2 4) (h' := hX (pAr S_7 4 (upd (S_7.2 4) v3.toNatClampNeg ((S.2 4) v3.toNatClampNeg)))) dX3_tryWeights_92 rfl (pin_in hi_8) (sX_A4 S_7 (upd (S_7.2 4) v3.toNatClampNeg ((S.2 4) v3.toNatClampNeg))) ?_
  exact E_vret rfl dX3_tryWeights_93 ⟨0, _, rfl, hf⟩
theorem hi_X11_fits_3 : ∀ w ∈ u_ws RX3 TX3 5, w ∈ wsX11_fits := fun w h => of_decide_eq_true (List.all_eq_true.mp (by decide +kernel : (u_ws RX3 TX3 5).all (fun w => decide (w ∈ wsX11_fits)) = true) w h)
theorem fl_X11_fits_307 : pFL wsX11_fits RX11 307 3 4 := ⟨RX3, TX3, 5, hi_X11_fits_3, rfl, by decide, by decide +kernel⟩
theorem fl_X11_fits_304 : pFL wsX11_fits RX11 304 3 3 := ⟨RX3, TX3, 5, hi_X11_fits_3, rfl, by decide, by decide +kernel⟩
theorem mf_X11_fits : pMF yX11_fits wsX11_fits cX11_fits 6 (some .int) 4 := ⟨⟨_, rfl⟩, by decide +kernel, by decide, by decide +kernel, by decide +kernel, by decide +kernel⟩
def f_X11_fits (S : PS) (v1 : Int32) (v2 : Int32) (v3 : Int32) (v4 : Int32) : Option (Int32 × PS) :=
  pbnd (f_X11_isRow S v1) (fun r1 S_1 => if r1 = (0 : Int32) then (some ((-1), S_1)) else (pbnd (f_X11_isWithin S_1 v2 0 17) (fun r3 S_3 => if r3 = (0 : Int32) then (some ((-1), S_3)) else (pbnd (f_X11_isName S_3 v3) (fun r5 S_5 => if r5 = (0 : Int32) then (some ((-1), S_5)) else (pbnd (f_X11_isWithin S_5 v4 0 1) (fun r7 S_7 => if r7 = (0 : Int32) then (some ((-1), S_7)) else (pbnd (f_X1_placeOf S_7 v3) (fun r9 S_9 => if (0 : Int32) ≤ r9 then (pbnd (f_X6_isMissing S_9 v1) (fun r11 S_11 => if r11 = (0 : Int32) then (pgd (pin v1 3) (if v2 ≤ ((S_11.2 24) v1.toNatClampNeg) then (if v2 ≤ ((S_11.1 4) + 1) then (pgd (pin v1 3) (pbnd (f_X3_want S_11 v1.toNatClampNeg v2) (fun _ S_17 => pbnd (f_X3_tryWeights S_17 r9) (fun _ S_18 => if v4 = (0 : Int32) then (some (S_18.1 20, S_18)) else (some (S_18.1 21, S_18)))))) else (some ((-5), S_11))) else (some ((-13), S_11)))) else (some ((-11), S_11)))) else (some ((-2), S_9)))))))))))
set_option maxRecDepth 100000 in
theorem c_X11_fits (l : Launch) (D : va_G) (dA : Nat → ClassId) (ad : Nat → Nat) (S : PS) (v1 : Int32) (v2 : Int32) (v3 : Int32) (v4 : Int32) {P : (Int32 × PS) → Prop} (hf : pO (f_X11_fits S v1 v2 v3 v4) P) : CtI l D dA ad yX11_fits wsX11_fits 7 [.ref 0, .int v1, .int v2, .int v3, .int v4] (hX S) (fun r h' => ∃ S' : PS, h' = hX S' ∧ P (r, S')) := by
  refine CtI_of mf_X11_fits rfl rfl (Nat.le_of_ble_eq_true rfl) rfl (hX_len S) ?_
  unfold f_X11_fits at hf
  refine E_iload_n dX11_fits_0 rfl ?_
  refine E_callSI (st := []) (c_X11_isRow l D dA ad S v1 (pO_bnd hf)) mf_X11_isRow rfl gX11_fits_X11_isRow (by omega) rfl (Nat.le_of_ble_eq_true rfl) (by rfl) dX11_fits_1 (fun r1 h1 q1 => ?_)
  obtain ⟨S_1, rfl, hf⟩ := q1
  dsimp only at hf
  refine E_if_eq (tgt := 34) dX11_fits_4 (by decide) (fun c_2 => ?_) (fun c_2 => ?_)
  · have hf := pO_pos c_2 hf
    refine E_iconst (v := (-1)) dX11_fits_34 (by decide) ?_
    exact E_iret rfl dX11_fits_35 ⟨_, rfl, hf⟩
  · have hf := pO_neg c_2 hf
    refine E_iload_n dX11_fits_7 rfl ?_
    refine E_iconst (v := 0) dX11_fits_8 (by decide) ?_
    refine E_bipush (v := 17) dX11_fits_9 (by decide) ?_
    refine E_callSI (st := []) (c_X11_isWithin l D dA ad S_1 v2 0 17 (pO_bnd hf)) mf_X11_isWithin rfl gX11_fits_X11_isWithin (by omega) rfl (Nat.le_of_ble_eq_true rfl) (by rfl) dX11_fits_11 (fun r3 h3 q3 => ?_)
    obtain ⟨S_3, rfl, hf⟩ := q3
    dsimp only at hf
    refine E_if_eq (tgt := 34) dX11_fits_14 (by decide) (fun c_4 => ?_) (fun c_4 => ?_)
    · have hf := pO_pos c_4 hf
      refine E_iconst (v := (-1)) dX11_fits_34 (by decide) ?_
      exact E_iret rfl dX11_fits_35 ⟨_, rfl, hf⟩
    · have hf := pO_neg c_4 hf
      refine E_iload_n dX11_fits_17 rfl ?_
      refine E_callSI (st := []) (c_X11_isName l D dA ad S_3 v3 (pO_bnd hf)) mf_X11_isName rfl gX11_fits_X11_isName (by omega) rfl (Nat.le_of_ble_eq_true rfl) (by rfl) dX11_fits_18 (fun r5 h5 q5 => ?_)
      obtain ⟨S_5, rfl, hf⟩ := q5
      dsimp only at hf
      refine E_if_eq (tgt := 34) dX11_fits_21 (by decide) (fun c_6 => ?_) (fun c_6 => ?_)
      · have hf := pO_pos c_6 hf
        refine E_iconst (v := (-1)) dX11_fits_34 (by decide) ?_
        exact E_iret rfl dX11_fits_35 ⟨_, rfl, hf⟩
      · have hf := pO_neg c_6 hf
        refine E_iload dX11_fits_24 rfl ?_
        refine E_iconst (v := 0) dX11_fits_26 (by decide) ?_
        refine E_iconst (v := 1) dX11_fits_27 (by decide) ?_
        refine E_callSI (st := []) (c_X11_isWithin l D dA ad S_5 v4 0 1 (pO_bnd hf)) mf_X11_isWithin rfl gX11_fits_X11_isWithin (by omega) rfl (Nat.le_of_ble_eq_true rfl) (by rfl) dX11_fits_28 (fun r7 h7 q7 => ?_)
        obtain ⟨S_7, rfl, hf⟩ := q7
        dsimp only at hf
        refine E_if_ne (tgt := 36) dX11_fits_31 (by decide) (fun c_8 => ?_) (fun c_8 => ?_)
        · have hf := pO_neg c_8 hf
          refine E_aload_n dX11_fits_36 rfl ?_
          refine E_getf (v := .ref 1) dX11_fits_37 fl_X11_fits_12 rfl rfl ?_
          refine E_getf (v := .ref 5) dX11_fits_40 fl_X11_fits_131 rfl rfl ?_
          refine E_iload_n dX11_fits_43 rfl ?_
          refine E_callVI (st := []) (c_X1_placeOf l D dA ad S_7 v3 (pO_bnd hf)) mf_X1_placeOf rfl rfl gX11_fits_X1_placeOf (pRc.of (ci := 1) rfl rfl) (by omega) rfl (Nat.le_of_ble_eq_true rfl) (by rfl) dX11_fits_44 (fun r9 h9 q9 => ?_)
          obtain ⟨S_9, rfl, hf⟩ := q9
          dsimp only at hf
          refine E_istore (ls' := [(0, .ref 0), (1, .int v1), (2, .int v2), (3, .int v3), (4, .int v4), (5, .int r9)]) dX11_fits_47 (by decide) rfl ?_
          refine E_iload dX11_fits_49 rfl ?_
          refine E_if_ge (tgt := 57) dX11_fits_51 (by decide) (fun c_10 => ?_) (fun c_10 => ?_)
          · have hf := pO_pos c_10 hf
            refine E_aload_n dX11_fits_57 rfl ?_
            refine E_getf (v := .ref 33) dX11_fits_58 fl_X11_fits_28 rfl rfl ?_
            refine E_iload_n dX11_fits_61 rfl ?_
            refine E_callVI (st := []) (c_X6_isMissing l D dA ad S_9 v1 (pO_bnd hf)) mf_X6_isMissing rfl rfl gX11_fits_X6_isMissing (pRc.of (ci := 6) rfl rfl) (by omega) rfl (Nat.le_of_ble_eq_true rfl) (by rfl) dX11_fits_62 (fun r11 h11 q11 => ?_)
            obtain ⟨S_11, rfl, hf⟩ := q11
            dsimp only at hf
            refine E_if_eq (tgt := 71) dX11_fits_65 (by decide) (fun c_12 => ?_) (fun c_12 => ?_)
            · have hf := pO_pos c_12 hf
              refine E_iload_n dX11_fits_71 rfl ?_
              refine E_aload_n dX11_fits_72 rfl ?_
              refine E_getf (v := .ref 33) dX11_fits_73 fl_X11_fits_28 rfl rfl ?_
              refine E_getf (v := .ref 34) dX11_fits_76 fl_X11_fits_291 rfl rfl ?_
              refine E_iload_n dX11_fits_79 rfl ?_
              obtain ⟨hi_13, hf⟩ := pO_gd hf
              refine E_iald (n0 := 3) (f := S_11.2 24) dX11_fits_80 rfl (pin_in hi_13) ?_
              refine E_icmp_le (tgt := 87) dX11_fits_81 (by decide) (fun c_14 => ?_) (fun c_14 => ?_)
              · have hf := pO_pos c_14 hf
                refine E_iload_n dX11_fits_87 rfl ?_
                refine E_aload_n dX11_fits_88 rfl ?_
                refine E_getf (v := .ref 1) dX11_fits_89 fl_X11_fits_12 rfl rfl ?_
                refine E_getf (v := .ref 5) dX11_fits_92 fl_X11_fits_131 rfl rfl ?_
                refine E_getf (v := .int (S_11.1 4)) dX11_fits_95 fl_X11_fits_140 rfl rfl ?_
                refine E_iconst (v := 1) dX11_fits_98 (by decide) ?_
                refine E_iadd dX11_fits_99 ?_
                refine E_icmp_le (tgt := 106) dX11_fits_100 (by decide) (fun c_15 => ?_) (fun c_15 => ?_)
                · have hf := pO_pos c_15 hf
                  refine E_aload_n dX11_fits_106 rfl ?_
                  refine E_getf (v := .ref 47) dX11_fits_107 fl_X11_fits_63 rfl rfl ?_
                  refine E_aload_n dX11_fits_110 rfl ?_
                  refine E_getf (v := .ref 1) dX11_fits_111 fl_X11_fits_12 rfl rfl ?_
                  refine E_getf (v := .ref 2) dX11_fits_114 fl_X11_fits_82 rfl rfl ?_
                  refine E_aload_n dX11_fits_117 rfl ?_
                  refine E_getf (v := .ref 33) dX11_fits_118 fl_X11_fits_28 rfl rfl ?_
                  refine E_getf (v := .ref 35) dX11_fits_121 fl_X11_fits_293 rfl rfl ?_
                  refine E_iload_n dX11_fits_124 rfl ?_
                  obtain ⟨hr_16, hf⟩ := pO_gd hf
                  refine E_aald (k0 := 36 + v1.toNatClampNeg) dX11_fits_125 rfl (pin_in hr_16) (if_pos (pin_lt hr_16)) ?_
                  refine E_iload_n dX11_fits_126 rfl ?_
                  refine E_callVV (st := []) (c_X3_want l D dA ad S_11 v1.toNatClampNeg (pin_lt hr_16) v2 (pO_bnd hf)) mf_X3_want rfl rfl gX11_fits_X3_want (pRc.of (ci := 3) rfl rfl) (by omega) rfl (Nat.le_of_ble_eq_true rfl) (by rfl) dX11_fits_127 (fun h17 q17 => ?_)
                  obtain ⟨r17, S_17, rfl, hf⟩ := q17
                  dsimp only at hf
                  refine E_aload_n dX11_fits_130 rfl ?_
                  refine E_getf (v := .ref 47) dX11_fits_131 fl_X11_fits_63 rfl rfl ?_
                  refine E_aload_n dX11_fits_134 rfl ?_
                  refine E_getf (v := .ref 1) dX11_fits_135 fl_X11_fits_12 rfl rfl ?_
                  refine E_aload_n dX11_fits_138 rfl ?_
                  refine E_getf (v := .ref 42) dX11_fits_139 fl_X11_fits_42 rfl rfl ?_
                  refine E_iload dX11_fits_142 rfl ?_
                  refine E_callVV (st := []) (c_X3_tryWeights l D dA ad S_17 r9 (pO_bnd hf)) mf_X3_tryWeights rfl rfl gX11_fits_X3_tryWeights (pRc.of (ci := 3) rfl rfl) (by omega) rfl (Nat.le_of_ble_eq_true rfl) (by rfl) dX11_fits_144 (fun h18 q18 => ?_)
                  obtain ⟨r18, S_18, rfl, hf⟩ := q18
                  dsimp only at hf
                  refine E_iload dX11_fits_147 rfl ?_
                  refine E_if_ne (tgt := 162) dX11_fits_149 (by decide) (fun c_19 => ?_) (fun c_19 => ?_)
                  · have hf := pO_neg c_19 hf
                    refine E_aload_n dX11_fits_162 rfl ?_
                    refine E_getf (v := .ref 47) dX11_fits_163 fl_X11_fits_63 rfl rfl ?_
                    refine E_getf (v := .int (S_18.1 21)) dX11_fits_166 fl_X11_fits_307 rfl rfl ?_
                    exact E_iret rfl dX11_fits_169 ⟨_, rfl, hf⟩
                  · have hf := pO_pos c_19 hf
                    refine E_aload_n dX11_fits_152 rfl ?_
                    refine E_getf (v := .ref 47) dX11_fits_153 fl_X11_fits_63 rfl rfl ?_
                    refine E_getf (v := .int (S_18.1 20)) dX11_fits_156 fl_X11_fits_304 rfl rfl ?_
                    refine E_goto (tgt := 169) dX11_fits_159 (by decide) ?_
                    exact E_iret rfl dX11_fits_169 ⟨_, rfl, hf⟩
                · have hf := pO_neg c_15 hf
                  refine E_bipush (v := (-5)) dX11_fits_103 (by decide) ?_
                  exact E_iret rfl dX11_fits_105 ⟨_, rfl, hf⟩
              · have hf := pO_neg c_14 hf
                refine E_bipush (v := (-13)) dX11_fits_84 (by decide) ?_
                exact E_iret rfl dX11_fits_86 ⟨_, rfl, hf⟩
            · have hf := pO_neg c_12 hf
              refine E_bipush (v := (-11)) dX11_fits_68 (by decide) ?_
              exact E_iret rfl dX11_fits_70 ⟨_, rfl, hf⟩
          · have hf := pO_neg c_10 hf
            refine E_bipush (v := (-2)) dX11_fits_54 (by decide) ?_
            exact E_iret rfl dX11_fits_56 ⟨_, rfl, hf⟩
        · have hf := pO_pos c_8 hf
          refine E_iconst (v := (-1)) dX11_fits_34 (by decide) ?_
          exact E_iret rfl dX11_fits_35 ⟨_, rfl, hf⟩
theorem hi_X11_say_11 : ∀ w ∈ u_ws RX11 TX11 10, w ∈ wsX11_say := fun w h => of_decide_eq_true (List.all_eq_true.mp (by decide +kernel : (u_ws RX11 TX11 10).all (fun w => decide (w ∈ wsX11_say)) = true) w h)
theorem fl_X11_say_70 : pFL wsX11_say RX11 70 11 9 := ⟨RX11, TX11, 10, hi_X11_say_11, rfl, by decide, by decide +kernel⟩
theorem fl_X11_say_12 : pFL wsX11_say RX11 12 11 0 := ⟨RX11, TX11, 10, hi_X11_say_11, rfl, by decide, by decide +kernel⟩
theorem hi_X11_say_0 : ∀ w ∈ u_ws RX0 TX0 3, w ∈ wsX11_say := fun w h => of_decide_eq_true (List.all_eq_true.mp (by decide +kernel : (u_ws RX0 TX0 3).all (fun w => decide (w ∈ wsX11_say)) = true) w h)
theorem fl_X11_say_131 : pFL wsX11_say RX11 131 0 1 := ⟨RX0, TX0, 3, hi_X11_say_0, rfl, by decide, by decide +kernel⟩
theorem hi_X5_write_5 : ∀ w ∈ u_ws RX5 TX5 2, w ∈ wsX5_write := fun w h => of_decide_eq_true (List.all_eq_true.mp (by decide +kernel : (u_ws RX5 TX5 2).all (fun w => decide (w ∈ wsX5_write)) = true) w h)
theorem fl_X5_write_9 : pFL wsX5_write RX5 9 5 0 := ⟨RX5, TX5, 2, hi_X5_write_5, rfl, by decide, by decide +kernel⟩
theorem ft_5_0 : pFT 5 0 .int := ⟨RX5, TX5, 2, tyX5, rfl, by decide, tyX5_ok, nmX5, rfl, by decide +kernel⟩
theorem hi_X5_write_1 : ∀ w ∈ u_ws RX1 TX1 7, w ∈ wsX5_write := fun w h => of_decide_eq_true (List.all_eq_true.mp (by decide +kernel : (u_ws RX1 TX1 7).all (fun w => decide (w ∈ wsX5_write)) = true) w h)
theorem fl_X5_write_19 : pFL wsX5_write RX5 19 1 0 := ⟨RX1, TX1, 7, hi_X5_write_1, rfl, by decide, by decide +kernel⟩
theorem fl_X5_write_24 : pFL wsX5_write RX5 24 1 1 := ⟨RX1, TX1, 7, hi_X5_write_1, rfl, by decide, by decide +kernel⟩
theorem hi_X5_addSign_5 : ∀ w ∈ u_ws RX5 TX5 2, w ∈ wsX5_addSign := fun w h => of_decide_eq_true (List.all_eq_true.mp (by decide +kernel : (u_ws RX5 TX5 2).all (fun w => decide (w ∈ wsX5_addSign)) = true) w h)
theorem fl_X5_addSign_9 : pFL wsX5_addSign RX5 9 5 0 := ⟨RX5, TX5, 2, hi_X5_addSign_5, rfl, by decide, by decide +kernel⟩
theorem fl_X5_addSign_15 : pFL wsX5_addSign RX5 15 5 1 := ⟨RX5, TX5, 2, hi_X5_addSign_5, rfl, by decide, by decide +kernel⟩
theorem mf_X5_addSign : pMF yX5_addSign wsX5_addSign cX5_addSign 2 none 1 := ⟨⟨_, rfl⟩, by decide +kernel, by decide, by decide +kernel, by decide +kernel, by decide +kernel⟩
def f_X5_addSign (S : PS) (v1 : Int32) : Option (Int32 × PS) :=
  if (S.1 22) < (224 : Int32) then (pgd (pin (S.1 22) 224) (some (0, (pI (pAr S 34 (upd (S.2 34) (S.1 22).toNatClampNeg (vp_nar .char v1))) 22 ((S.1 22) + 1))))) else (some (0, S))
set_option maxRecDepth 100000 in
theorem c_X5_addSign (l : Launch) (D : va_G) (dA : Nat → ClassId) (ad : Nat → Nat) (S : PS) (v1 : Int32) {P : (Int32 × PS) → Prop} (hf : pO (f_X5_addSign S v1) P) : CtV l D dA ad yX5_addSign wsX5_addSign 0 [.ref 50, .int v1] (hX S) (fun h' => ∃ (r0 : Int32) (S' : PS), h' = hX S' ∧ P (r0, S')) := by
  refine CtV_of mf_X5_addSign rfl rfl (Nat.le_of_ble_eq_true rfl) rfl (hX_len S) ?_
  unfold f_X5_addSign at hf
  refine E_aload_n dX5_addSign_0 rfl ?_
  refine E_getf (v := .int (S.1 22)) dX5_addSign_1 fl_X5_addSign_9 rfl rfl ?_
  refine E_aload_n dX5_addSign_4 rfl ?_
  refine E_getf (v := .ref 51) dX5_addSign_5 fl_X5_addSign_15 rfl rfl ?_
  refine E_alen dX5_addSign_8 rfl (by decide) ?_
  refine E_val (y := 224) rfl ?_
  refine E_icmp_lt (tgt := 13) dX5_addSign_9 (by decide) (fun c_1 => ?_) (fun c_1 => ?_)
  · have hf := pO_pos c_1 hf
    refine E_aload_n dX5_addSign_13 rfl ?_
    refine E_getf (v := .ref 51) dX5_addSign_14 fl_X5_addSign_15 rfl rfl ?_
    refine E_aload_n dX5_addSign_17 rfl ?_
    refine E_getf (v := .int (S.1 22)) dX5_addSign_18 fl_X5_addSign_9 rfl rfl ?_
    refine E_iload_n dX5_addSign_21 rfl ?_
    obtain ⟨hi_2, hf⟩ := pO_gd hf
    refine E_cast (n0 := 224) (f := S.2 34) (h' := hX (pAr S 34 (upd (S.2 34) (S.1 22).toNatClampNeg (vp_nar .char v1)))) dX5_addSign_22 rfl (pin_in hi_2) (sX_A34 S (upd (S.2 34) (S.1 22).toNatClampNeg (vp_nar .char v1))) ?_
    refine E_aload_n dX5_addSign_23 rfl ?_
    refine E_dup dX5_addSign_24 rfl ?_
    refine E_getf (v := .int (S.1 22)) dX5_addSign_25 fl_X5_addSign_9 rfl rfl ?_
    refine E_iconst (v := 1) dX5_addSign_28 (by decide) ?_
    refine E_iadd dX5_addSign_29 ?_
    refine E_putf (h' := hX (pI (pAr S 34 (upd (S.2 34) (S.1 22).toNatClampNeg (vp_nar .char v1))) 22 ((S.1 22) + 1))) dX5_addSign_30 fl_X5_addSign_9 ft_5_0 rfl (Nat.lt_of_lt_of_eq (by decide : 0 < 2) rfl) rfl rfl ⟨_, rfl⟩ (sX_I22 (pAr S 34 (upd (S.2 34) (S.1 22).toNatClampNeg (vp_nar .char v1))) ((S.1 22) + 1)) ?_
    exact E_vret rfl dX5_addSign_33 ⟨0, _, rfl, hf⟩
  · have hf := pO_neg c_1 hf
    exact E_vret rfl dX5_addSign_12 ⟨0, _, rfl, hf⟩
def g_X5_addLetters_4 : Nat → PS → Int32 → Int32 → Option ((Int32 × PS) ⊕ (PS))
  | 0, _, _, _ => none
  | fuel + 1, S, v1, v2 =>
    if v2 ≤ (0 : Int32) then (some (.inr (S))) else (if v1 < v2 then (g_X5_addLetters_4 fuel S v1 (v2 / 27)) else (pgd (pnz v2) (pbnd (f_X5_addSign S (((96 + ((v1 / v2) - (v1 / v2) / 27 * 27)).toUInt32 % 65536).toInt32)) (fun _ S_4 => g_X5_addLetters_4 fuel S_4 v1 (v2 / 27)))))
set_option maxRecDepth 100000 in
theorem l_X5_addLetters_4 (l : Launch) (D : va_G) (dA : Nat → ClassId) (ad : Nat → Nat) (d : Nat) (hd : 1 ≤ d) {Q : List PC → Prop} : ∀ (fuel : Nat) (S : PS) (v1 : Int32) (v2 : Int32), pO (g_X5_addLetters_4 fuel S v1 v2) (fun y => match y with
    | .inl x => Q (hX x.2)
    | .inr w => Ev l D dA ad wsX5_addLetters cX5_addLetters RX5 3 none d 52 (pKv D dA ad 52 Q) 35 [] [] (hX w)) → Ev l D dA ad wsX5_addLetters cX5_addLetters RX5 3 none d 52 (pKv D dA ad 52 Q) 4 [(0, .ref 50), (1, .int v1), (2, .int v2)] [] (hX S) := by
  intro fuel
  induction fuel with
  | zero =>
    intro S v1 v2 hf
    exact hf.elim
  | succ fuel ih =>
    intro S v1 v2 hf
    rw [g_X5_addLetters_4] at hf
    refine E_iload_n dX5_addLetters_4 rfl ?_
    refine E_if_le (tgt := 35) dX5_addLetters_5 (by decide) (fun c_1 => ?_) (fun c_1 => ?_)
    · have hf := pO_pos c_1 hf
      exact E_sub (ls' := []) trivial hf
    · have hf := pO_neg c_1 hf
      refine E_iload_n dX5_addLetters_8 rfl ?_
      refine E_iload_n dX5_addLetters_9 rfl ?_
      refine E_icmp_lt (tgt := 27) dX5_addLetters_10 (by decide) (fun c_2 => ?_) (fun c_2 => ?_)
      · have hf := pO_pos c_2 hf
        refine E_iload_n dX5_addLetters_27 rfl ?_
        refine E_bipush (v := 27) dX5_addLetters_28 (by decide) ?_
        refine E_idiv dX5_addLetters_30 (by decide) ?_
        refine E_istore_n (ls' := [(0, .ref 50), (1, .int v1), (2, .int (v2 / 27))]) dX5_addLetters_31 (by decide) rfl ?_
        refine E_goto (tgt := 4) dX5_addLetters_32 (by decide) ?_
        exact E_sub (ls' := [(0, .ref 50), (1, .int v1), (2, .int (v2 / 27))]) ⟨rfl, rfl, rfl, trivial⟩ (ih S v1 (v2 / 27) hf)
      · have hf := pO_neg c_2 hf
        refine E_aload_n dX5_addLetters_13 rfl ?_
        refine E_bipush (v := 96) dX5_addLetters_14 (by decide) ?_
        refine E_iload_n dX5_addLetters_16 rfl ?_
        refine E_iload_n dX5_addLetters_17 rfl ?_
        obtain ⟨hz_3, hf⟩ := pO_gd hf
        refine E_idiv dX5_addLetters_18 (pnz_n hz_3) ?_
        refine E_bipush (v := 27) dX5_addLetters_19 (by decide) ?_
        refine E_irem dX5_addLetters_21 (by decide) ?_
        refine E_iadd dX5_addLetters_22 ?_
        refine E_i2c dX5_addLetters_23 ?_
        refine E_callVV (st := []) (c_X5_addSign l D dA ad S (((96 + ((v1 / v2) - (v1 / v2) / 27 * 27)).toUInt32 % 65536).toInt32) (pO_bnd hf)) mf_X5_addSign rfl rfl gX5_addLetters_X5_addSign (pRc.of (ci := 5) rfl rfl) (by omega) rfl (Nat.le_of_ble_eq_true rfl) (by rfl) dX5_addLetters_24 (fun h4 q4 => ?_)
        obtain ⟨r4, S_4, rfl, hf⟩ := q4
        dsimp only at hf
        refine E_iload_n dX5_addLetters_27 rfl ?_
        refine E_bipush (v := 27) dX5_addLetters_28 (by decide) ?_
        refine E_idiv dX5_addLetters_30 (by decide) ?_
        refine E_istore_n (ls' := [(0, .ref 50), (1, .int v1), (2, .int (v2 / 27))]) dX5_addLetters_31 (by decide) rfl ?_
        refine E_goto (tgt := 4) dX5_addLetters_32 (by decide) ?_
        exact E_sub (ls' := [(0, .ref 50), (1, .int v1), (2, .int (v2 / 27))]) ⟨rfl, rfl, rfl, trivial⟩ (ih S_4 v1 (v2 / 27) hf)
theorem mf_X5_addLetters : pMF yX5_addLetters wsX5_addLetters cX5_addLetters 3 none 1 := ⟨⟨_, rfl⟩, by decide +kernel, by decide, by decide +kernel, by decide +kernel, by decide +kernel⟩
def f_X5_addLetters (S : PS) (v1 : Int32) : Option (Int32 × PS) :=
  plp (g_X5_addLetters_4 pfuel S v1 19683) (fun (S_5 : PS) => some (0, S_5))
set_option maxRecDepth 100000 in
theorem c_X5_addLetters (l : Launch) (D : va_G) (dA : Nat → ClassId) (ad : Nat → Nat) (S : PS) (v1 : Int32) {P : (Int32 × PS) → Prop} (hf : pO (f_X5_addLetters S v1) P) : CtV l D dA ad yX5_addLetters wsX5_addLetters 1 [.ref 50, .int v1] (hX S) (fun h' => ∃ (r0 : Int32) (S' : PS), h' = hX S' ∧ P (r0, S')) := by
  refine CtV_of mf_X5_addLetters rfl rfl (Nat.le_of_ble_eq_true rfl) rfl (hX_len S) ?_
  unfold f_X5_addLetters at hf
  refine E_sipush (v := 19683) dX5_addLetters_0 (by decide) ?_
  refine E_istore_n (ls' := [(0, .ref 50), (1, .int v1), (2, .int 19683)]) dX5_addLetters_3 (by decide) rfl ?_
  refine E_sub (ls' := [(0, .ref 50), (1, .int v1), (2, .int 19683)]) ⟨rfl, rfl, rfl, trivial⟩ ?_
  refine l_X5_addLetters_4 l D dA ad _ (by omega) pfuel S v1 19683 (pO_lp hf (fun x hx => ⟨x.1, x.2, rfl, hx⟩) (fun w5 hf => ?_))
  obtain ⟨S_5, rfl⟩ : ∃ z, z = w5 := ⟨_, rfl⟩
  dsimp only at hf ⊢
  exact E_vret rfl dX5_addLetters_35 ⟨0, _, rfl, hf⟩
theorem fl_X5_write_35 : pFL wsX5_write RX5 35 1 2 := ⟨RX1, TX1, 7, hi_X5_write_1, rfl, by decide, by decide +kernel⟩
theorem fl_X5_write_42 : pFL wsX5_write RX5 42 1 3 := ⟨RX1, TX1, 7, hi_X5_write_1, rfl, by decide, by decide +kernel⟩
def g_X5_addFigures_3 : Nat → PS → Int32 → Int32 → Option ((Int32 × PS) ⊕ (PS))
  | 0, _, _, _ => none
  | fuel + 1, S, v1, v2 =>
    if v2 ≤ (0 : Int32) then (some (.inr (S))) else (if v2 ≤ v1 then (pgd (pnz v2) (pbnd (f_X5_addSign S (((48 + ((v1 / v2) - (v1 / v2) / 10 * 10)).toUInt32 % 65536).toInt32)) (fun _ S_4 => g_X5_addFigures_3 fuel S_4 v1 (v2 / 10)))) else (if v2 = (1 : Int32) then (pgd (pnz v2) (pbnd (f_X5_addSign S (((48 + ((v1 / v2) - (v1 / v2) / 10 * 10)).toUInt32 % 65536).toInt32)) (fun _ S_7 => g_X5_addFigures_3 fuel S_7 v1 (v2 / 10)))) else (g_X5_addFigures_3 fuel S v1 (v2 / 10))))
set_option maxRecDepth 100000 in
theorem l_X5_addFigures_3 (l : Launch) (D : va_G) (dA : Nat → ClassId) (ad : Nat → Nat) (d : Nat) (hd : 1 ≤ d) {Q : List PC → Prop} : ∀ (fuel : Nat) (S : PS) (v1 : Int32) (v2 : Int32), pO (g_X5_addFigures_3 fuel S v1 v2) (fun y => match y with
    | .inl x => Q (hX x.2)
    | .inr w => Ev l D dA ad wsX5_addFigures cX5_addFigures RX5 3 none d 52 (pKv D dA ad 52 Q) 39 [] [] (hX w)) → Ev l D dA ad wsX5_addFigures cX5_addFigures RX5 3 none d 52 (pKv D dA ad 52 Q) 3 [(0, .ref 50), (1, .int v1), (2, .int v2)] [] (hX S) := by
  intro fuel
  induction fuel with
  | zero =>
    intro S v1 v2 hf
    exact hf.elim
  | succ fuel ih =>
    intro S v1 v2 hf
    rw [g_X5_addFigures_3] at hf
    refine E_iload_n dX5_addFigures_3 rfl ?_
    refine E_if_le (tgt := 39) dX5_addFigures_4 (by decide) (fun c_1 => ?_) (fun c_1 => ?_)
    · have hf := pO_pos c_1 hf
      exact E_sub (ls' := []) trivial hf
    · have hf := pO_neg c_1 hf
      refine E_iload_n dX5_addFigures_7 rfl ?_
      refine E_iload_n dX5_addFigures_8 rfl ?_
      refine E_icmp_ge (tgt := 17) dX5_addFigures_9 (by decide) (fun c_2 => ?_) (fun c_2 => ?_)
      · have hf := pO_pos c_2 hf
        refine E_aload_n dX5_addFigures_17 rfl ?_
        refine E_bipush (v := 48) dX5_addFigures_18 (by decide) ?_
        refine E_iload_n dX5_addFigures_20 rfl ?_
        refine E_iload_n dX5_addFigures_21 rfl ?_
        obtain ⟨hz_3, hf⟩ := pO_gd hf
        refine E_idiv dX5_addFigures_22 (pnz_n hz_3) ?_
        refine E_bipush (v := 10) dX5_addFigures_23 (by decide) ?_
        refine E_irem dX5_addFigures_25 (by decide) ?_
        refine E_iadd dX5_addFigures_26 ?_
        refine E_i2c dX5_addFigures_27 ?_
        refine E_callVV (st := []) (c_X5_addSign l D dA ad S (((48 + ((v1 / v2) - (v1 / v2) / 10 * 10)).toUInt32 % 65536).toInt32) (pO_bnd hf)) mf_X5_addSign rfl rfl gX5_addFigures_X5_addSign (pRc.of (ci := 5) rfl rfl) (by omega) rfl (Nat.le_of_ble_eq_true rfl) (by rfl) dX5_addFigures_28 (fun h4 q4 => ?_)
        obtain ⟨r4, S_4, rfl, hf⟩ := q4
        dsimp only at hf
        refine E_iload_n dX5_addFigures_31 rfl ?_
        refine E_bipush (v := 10) dX5_addFigures_32 (by decide) ?_
        refine E_idiv dX5_addFigures_34 (by decide) ?_
        refine E_istore_n (ls' := [(0, .ref 50), (1, .int v1), (2, .int (v2 / 10))]) dX5_addFigures_35 (by decide) rfl ?_
        refine E_goto (tgt := 3) dX5_addFigures_36 (by decide) ?_
        exact E_sub (ls' := [(0, .ref 50), (1, .int v1), (2, .int (v2 / 10))]) ⟨rfl, rfl, rfl, trivial⟩ (ih S_4 v1 (v2 / 10) hf)
      · have hf := pO_neg c_2 hf
        refine E_iload_n dX5_addFigures_12 rfl ?_
        refine E_iconst (v := 1) dX5_addFigures_13 (by decide) ?_
        refine E_icmp_ne (tgt := 31) dX5_addFigures_14 (by decide) (fun c_5 => ?_) (fun c_5 => ?_)
        · have hf := pO_neg c_5 hf
          refine E_iload_n dX5_addFigures_31 rfl ?_
          refine E_bipush (v := 10) dX5_addFigures_32 (by decide) ?_
          refine E_idiv dX5_addFigures_34 (by decide) ?_
          refine E_istore_n (ls' := [(0, .ref 50), (1, .int v1), (2, .int (v2 / 10))]) dX5_addFigures_35 (by decide) rfl ?_
          refine E_goto (tgt := 3) dX5_addFigures_36 (by decide) ?_
          exact E_sub (ls' := [(0, .ref 50), (1, .int v1), (2, .int (v2 / 10))]) ⟨rfl, rfl, rfl, trivial⟩ (ih S v1 (v2 / 10) hf)
        · have hf := pO_pos c_5 hf
          refine E_aload_n dX5_addFigures_17 rfl ?_
          refine E_bipush (v := 48) dX5_addFigures_18 (by decide) ?_
          refine E_iload_n dX5_addFigures_20 rfl ?_
          refine E_iload_n dX5_addFigures_21 rfl ?_
          obtain ⟨hz_6, hf⟩ := pO_gd hf
          refine E_idiv dX5_addFigures_22 (pnz_n hz_6) ?_
          refine E_bipush (v := 10) dX5_addFigures_23 (by decide) ?_
          refine E_irem dX5_addFigures_25 (by decide) ?_
          refine E_iadd dX5_addFigures_26 ?_
          refine E_i2c dX5_addFigures_27 ?_
          refine E_callVV (st := []) (c_X5_addSign l D dA ad S (((48 + ((v1 / v2) - (v1 / v2) / 10 * 10)).toUInt32 % 65536).toInt32) (pO_bnd hf)) mf_X5_addSign rfl rfl gX5_addFigures_X5_addSign (pRc.of (ci := 5) rfl rfl) (by omega) rfl (Nat.le_of_ble_eq_true rfl) (by rfl) dX5_addFigures_28 (fun h7 q7 => ?_)
          obtain ⟨r7, S_7, rfl, hf⟩ := q7
          dsimp only at hf
          refine E_iload_n dX5_addFigures_31 rfl ?_
          refine E_bipush (v := 10) dX5_addFigures_32 (by decide) ?_
          refine E_idiv dX5_addFigures_34 (by decide) ?_
          refine E_istore_n (ls' := [(0, .ref 50), (1, .int v1), (2, .int (v2 / 10))]) dX5_addFigures_35 (by decide) rfl ?_
          refine E_goto (tgt := 3) dX5_addFigures_36 (by decide) ?_
          exact E_sub (ls' := [(0, .ref 50), (1, .int v1), (2, .int (v2 / 10))]) ⟨rfl, rfl, rfl, trivial⟩ (ih S_7 v1 (v2 / 10) hf)
