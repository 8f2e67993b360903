theorem mf_X5_addFigures : pMF yX5_addFigures wsX5_addFigures cX5_addFigures 3 none 1 := ⟨⟨_, rfl⟩, by decide +kernel, by decide, by decide +kernel, by decide +kernel, by decide +kernel⟩
def f_X5_addFigures (S : PS) (v1 : Int32) : Option (Int32 × PS) :=
  plp (g_X5_addFigures_3 pfuel S v1 100) (fun (S_8 : PS) => some (0, S_8))
set_option maxRecDepth 100000 in
theorem c_X5_addFigures (l : Launch) (D : va_G) (dA : Nat → ClassId) (ad : Nat → Nat) (S : PS) (v1 : Int32) {P : (Int32 × PS) → Prop} (hf : pO (f_X5_addFigures S v1) P) : CtV l D dA ad yX5_addFigures wsX5_addFigures 1 [.ref 50, .int v1] (hX S) (fun h' => ∃ (r0 : Int32) (S' : PS), h' = hX S' ∧ P (r0, S')) := by
  refine CtV_of mf_X5_addFigures rfl rfl (Nat.le_of_ble_eq_true rfl) rfl (hX_len S) ?_
  unfold f_X5_addFigures at hf
  refine E_bipush (v := 100) dX5_addFigures_0 (by decide) ?_
  refine E_istore_n (ls' := [(0, .ref 50), (1, .int v1), (2, .int 100)]) dX5_addFigures_2 (by decide) rfl ?_
  refine E_sub (ls' := [(0, .ref 50), (1, .int v1), (2, .int 100)]) ⟨rfl, rfl, rfl, trivial⟩ ?_
  refine l_X5_addFigures_3 l D dA ad _ (by omega) pfuel S v1 100 (pO_lp hf (fun x hx => ⟨x.1, x.2, rfl, hx⟩) (fun w8 hf => ?_))
  obtain ⟨S_8, rfl⟩ : ∃ z, z = w8 := ⟨_, rfl⟩
  dsimp only at hf ⊢
  exact E_vret rfl dX5_addFigures_39 ⟨0, _, rfl, hf⟩
theorem fl_X5_write_48 : pFL wsX5_write RX5 48 1 4 := ⟨RX1, TX1, 7, hi_X5_write_1, rfl, by decide, by decide +kernel⟩
theorem fl_X5_write_51 : pFL wsX5_write RX5 51 1 5 := ⟨RX1, TX1, 7, hi_X5_write_1, rfl, by decide, by decide +kernel⟩
theorem mf_X5_addSide : pMF yX5_addSide wsX5_addSide cX5_addSide 2 none 1 := ⟨⟨_, rfl⟩, by decide +kernel, by decide, by decide +kernel, by decide +kernel, by decide +kernel⟩
def f_X5_addSide (S : PS) (v1 : Int32) : Option (Int32 × PS) :=
  if v1 = (0 : Int32) then (some (0, S)) else (if (0 : Int32) ≤ v1 then (pbnd (f_X5_addSign S 114) (fun _ S_3 => pbnd (f_X5_addFigures S_3 (pabs v1)) (fun _ S_4 => some (0, S_4)))) else (pbnd (f_X5_addSign S 108) (fun _ S_5 => pbnd (f_X5_addFigures S_5 (pabs v1)) (fun _ S_6 => some (0, S_6)))))
set_option maxRecDepth 100000 in
theorem c_X5_addSide (l : Launch) (D : va_G) (dA : Nat → ClassId) (ad : Nat → Nat) (S : PS) (v1 : Int32) {P : (Int32 × PS) → Prop} (hf : pO (f_X5_addSide S v1) P) : CtV l D dA ad yX5_addSide wsX5_addSide 2 [.ref 50, .int v1] (hX S) (fun h' => ∃ (r0 : Int32) (S' : PS), h' = hX S' ∧ P (r0, S')) := by
  refine CtV_of mf_X5_addSide rfl rfl (Nat.le_of_ble_eq_true rfl) rfl (hX_len S) ?_
  unfold f_X5_addSide at hf
  refine E_iload_n dX5_addSide_0 rfl ?_
  refine E_if_ne (tgt := 5) dX5_addSide_1 (by decide) (fun c_1 => ?_) (fun c_1 => ?_)
  · have hf := pO_neg c_1 hf
    refine E_aload_n dX5_addSide_5 rfl ?_
    refine E_iload_n dX5_addSide_6 rfl ?_
    refine E_if_ge (tgt := 15) dX5_addSide_7 (by decide) (fun c_2 => ?_) (fun c_2 => ?_)
    · have hf := pO_pos c_2 hf
      refine E_bipush (v := 114) dX5_addSide_15 (by decide) ?_
      refine E_callVV (st := []) (c_X5_addSign l D dA ad S 114 (pO_bnd hf)) mf_X5_addSign rfl rfl gX5_addSide_X5_addSign (pRc.of (ci := 5) rfl rfl) (by omega) rfl (Nat.le_of_ble_eq_true rfl) (by rfl) dX5_addSide_17 (fun h3 q3 => ?_)
      obtain ⟨r3, S_3, rfl, hf⟩ := q3
      dsimp only at hf
      refine E_aload_n dX5_addSide_20 rfl ?_
      refine E_iload_n dX5_addSide_21 rfl ?_
      refine E_mabs (by decide +kernel) (by decide +kernel) (by decide +kernel) (by decide +kernel) (by omega) (Nat.le_of_ble_eq_true rfl) (by rfl) dX5_addSide_22 ?_
      refine E_callVV (st := []) (c_X5_addFigures l D dA ad S_3 (pabs v1) (pO_bnd hf)) mf_X5_addFigures rfl rfl gX5_addSide_X5_addFigures (pRc.of (ci := 5) rfl rfl) (by omega) rfl (Nat.le_of_ble_eq_true rfl) (by rfl) dX5_addSide_25 (fun h4 q4 => ?_)
      obtain ⟨r4, S_4, rfl, hf⟩ := q4
      dsimp only at hf
      exact E_vret rfl dX5_addSide_28 ⟨0, _, rfl, hf⟩
    · have hf := pO_neg c_2 hf
      refine E_bipush (v := 108) dX5_addSide_10 (by decide) ?_
      refine E_goto (tgt := 17) dX5_addSide_12 (by decide) ?_
      refine E_callVV (st := []) (c_X5_addSign l D dA ad S 108 (pO_bnd hf)) mf_X5_addSign rfl rfl gX5_addSide_X5_addSign (pRc.of (ci := 5) rfl rfl) (by omega) rfl (Nat.le_of_ble_eq_true rfl) (by rfl) dX5_addSide_17 (fun h5 q5 => ?_)
      obtain ⟨r5, S_5, rfl, hf⟩ := q5
      dsimp only at hf
      refine E_aload_n dX5_addSide_20 rfl ?_
      refine E_iload_n dX5_addSide_21 rfl ?_
      refine E_mabs (by decide +kernel) (by decide +kernel) (by decide +kernel) (by decide +kernel) (by omega) (Nat.le_of_ble_eq_true rfl) (by rfl) dX5_addSide_22 ?_
      refine E_callVV (st := []) (c_X5_addFigures l D dA ad S_5 (pabs v1) (pO_bnd hf)) mf_X5_addFigures rfl rfl gX5_addSide_X5_addFigures (pRc.of (ci := 5) rfl rfl) (by omega) rfl (Nat.le_of_ble_eq_true rfl) (by rfl) dX5_addSide_25 (fun h6 q6 => ?_)
      obtain ⟨r6, S_6, rfl, hf⟩ := q6
      dsimp only at hf
      exact E_vret rfl dX5_addSide_28 ⟨0, _, rfl, hf⟩
  · have hf := pO_pos c_1 hf
    exact E_vret rfl dX5_addSide_4 ⟨0, _, rfl, hf⟩
def g_X5_write_7 : Nat → PS → Int32 → Option ((Int32 × PS) ⊕ (PS))
  | 0, _, _ => none
  | fuel + 1, S, v2 =>
    if (S.1 4) ≤ v2 then (some (.inr (S))) else (pgd (pin v2 16) (pbnd (f_X5_addLetters S ((S.2 2) v2.toNatClampNeg)) (fun _ S_3 => pgd (pin v2 16) (pgd (pin ((S_3.2 3) v2.toNatClampNeg) 5) (pbnd (f_X5_addSign S_3 (pSigns ((S_3.2 3) v2.toNatClampNeg).toNatClampNeg)) (fun _ S_6 => pgd (pin v2 16) (pbnd (f_X5_addFigures S_6 ((S_6.2 4) v2.toNatClampNeg)) (fun _ S_8 => pbnd (f_X5_addSign S_8 64) (fun _ S_9 => pgd (pin v2 16) (pbnd (f_X5_addFigures S_9 ((S_9.2 5) v2.toNatClampNeg)) (fun _ S_11 => pgd (pin v2 16) (pbnd (f_X5_addSide S_11 ((S_11.2 6) v2.toNatClampNeg)) (fun _ S_13 => pbnd (f_X5_addSign S_13 59) (fun _ S_14 => g_X5_write_7 fuel S_14 (v2 + 1)))))))))))))))
set_option maxRecDepth 100000 in
theorem l_X5_write_7 (l : Launch) (D : va_G) (dA : Nat → ClassId) (ad : Nat → Nat) (d : Nat) (hd : 3 ≤ d) {Q : List PC → Prop} : ∀ (fuel : Nat) (S : PS) (v2 : Int32), pO (g_X5_write_7 fuel S v2) (fun y => match y with
    | .inl x => Q (hX x.2)
    | .inr w => Ev l D dA ad wsX5_write cX5_write RX5 3 none d 52 (pKv D dA ad 52 Q) 87 [] [] (hX w)) → Ev l D dA ad wsX5_write cX5_write RX5 3 none d 52 (pKv D dA ad 52 Q) 7 [(0, .ref 50), (1, .ref 5), (2, .int v2)] [] (hX S) := by
  intro fuel
  induction fuel with
  | zero =>
    intro S v2 hf
    exact hf.elim
  | succ fuel ih =>
    intro S v2 hf
    rw [g_X5_write_7] at hf
    refine E_iload_n dX5_write_7 rfl ?_
    refine E_aload_n dX5_write_8 rfl ?_
    refine E_getf (v := .int (S.1 4)) dX5_write_9 fl_X5_write_19 rfl rfl ?_
    refine E_icmp_ge (tgt := 87) dX5_write_12 (by decide) (fun c_1 => ?_) (fun c_1 => ?_)
    · have hf := pO_pos c_1 hf
      exact E_sub (ls' := []) trivial hf
    · have hf := pO_neg c_1 hf
      refine E_aload_n dX5_write_15 rfl ?_
      refine E_aload_n dX5_write_16 rfl ?_
      refine E_getf (v := .ref 6) dX5_write_17 fl_X5_write_24 rfl rfl ?_
      refine E_iload_n dX5_write_20 rfl ?_
      obtain ⟨hi_2, hf⟩ := pO_gd hf
      refine E_iald (n0 := 16) (f := S.2 2) dX5_write_21 rfl (pin_in hi_2) ?_
      refine E_callVV (st := []) (c_X5_addLetters l D dA ad S ((S.2 2) v2.toNatClampNeg) (pO_bnd hf)) mf_X5_addLetters rfl rfl gX5_write_X5_addLetters (pRc.of (ci := 5) rfl rfl) (by omega) rfl (Nat.le_of_ble_eq_true rfl) (by rfl) dX5_write_22 (fun h3 q3 => ?_)
      obtain ⟨r3, S_3, rfl, hf⟩ := q3
      dsimp only at hf
      refine E_aload_n dX5_write_25 rfl ?_
      refine E_signs rfl rfl dX5_write_26 ?_
      refine E_aload_n dX5_write_29 rfl ?_
      refine E_getf (v := .ref 7) dX5_write_30 fl_X5_write_35 rfl rfl ?_
      refine E_iload_n dX5_write_33 rfl ?_
      obtain ⟨hi_4, hf⟩ := pO_gd hf
      refine E_iald (n0 := 16) (f := S_3.2 3) dX5_write_34 rfl (pin_in hi_4) ?_
      obtain ⟨hi_5, hf⟩ := pO_gd hf
      refine E_signs_ld (pin_in hi_5) dX5_write_35 ?_
      refine E_callVV (st := []) (c_X5_addSign l D dA ad S_3 (pSigns ((S_3.2 3) v2.toNatClampNeg).toNatClampNeg) (pO_bnd hf)) mf_X5_addSign rfl rfl gX5_write_X5_addSign (pRc.of (ci := 5) rfl rfl) (by omega) rfl (Nat.le_of_ble_eq_true rfl) (by rfl) dX5_write_36 (fun h6 q6 => ?_)
      obtain ⟨r6, S_6, rfl, hf⟩ := q6
      dsimp only at hf
      refine E_aload_n dX5_write_39 rfl ?_
      refine E_aload_n dX5_write_40 rfl ?_
      refine E_getf (v := .ref 8) dX5_write_41 fl_X5_write_42 rfl rfl ?_
      refine E_iload_n dX5_write_44 rfl ?_
      obtain ⟨hi_7, hf⟩ := pO_gd hf
      refine E_iald (n0 := 16) (f := S_6.2 4) dX5_write_45 rfl (pin_in hi_7) ?_
      refine E_callVV (st := []) (c_X5_addFigures l D dA ad S_6 ((S_6.2 4) v2.toNatClampNeg) (pO_bnd hf)) mf_X5_addFigures rfl rfl gX5_write_X5_addFigures (pRc.of (ci := 5) rfl rfl) (by omega) rfl (Nat.le_of_ble_eq_true rfl) (by rfl) dX5_write_46 (fun h8 q8 => ?_)
      obtain ⟨r8, S_8, rfl, hf⟩ := q8
      dsimp only at hf
      refine E_aload_n dX5_write_49 rfl ?_
      refine E_bipush (v := 64) dX5_write_50 (by decide) ?_
      refine E_callVV (st := []) (c_X5_addSign l D dA ad S_8 64 (pO_bnd hf)) mf_X5_addSign rfl rfl gX5_write_X5_addSign (pRc.of (ci := 5) rfl rfl) (by omega) rfl (Nat.le_of_ble_eq_true rfl) (by rfl) dX5_write_52 (fun h9 q9 => ?_)
      obtain ⟨r9, S_9, rfl, hf⟩ := q9
      dsimp only at hf
      refine E_aload_n dX5_write_55 rfl ?_
      refine E_aload_n dX5_write_56 rfl ?_
      refine E_getf (v := .ref 9) dX5_write_57 fl_X5_write_48 rfl rfl ?_
      refine E_iload_n dX5_write_60 rfl ?_
      obtain ⟨hi_10, hf⟩ := pO_gd hf
      refine E_iald (n0 := 16) (f := S_9.2 5) dX5_write_61 rfl (pin_in hi_10) ?_
      refine E_callVV (st := []) (c_X5_addFigures l D dA ad S_9 ((S_9.2 5) v2.toNatClampNeg) (pO_bnd hf)) mf_X5_addFigures rfl rfl gX5_write_X5_addFigures (pRc.of (ci := 5) rfl rfl) (by omega) rfl (Nat.le_of_ble_eq_true rfl) (by rfl) dX5_write_62 (fun h11 q11 => ?_)
      obtain ⟨r11, S_11, rfl, hf⟩ := q11
      dsimp only at hf
      refine E_aload_n dX5_write_65 rfl ?_
      refine E_aload_n dX5_write_66 rfl ?_
      refine E_getf (v := .ref 10) dX5_write_67 fl_X5_write_51 rfl rfl ?_
      refine E_iload_n dX5_write_70 rfl ?_
      obtain ⟨hi_12, hf⟩ := pO_gd hf
      refine E_iald (n0 := 16) (f := S_11.2 6) dX5_write_71 rfl (pin_in hi_12) ?_
      refine E_callVV (st := []) (c_X5_addSide l D dA ad S_11 ((S_11.2 6) v2.toNatClampNeg) (pO_bnd hf)) mf_X5_addSide rfl rfl gX5_write_X5_addSide (pRc.of (ci := 5) rfl rfl) (by omega) rfl (Nat.le_of_ble_eq_true rfl) (by rfl) dX5_write_72 (fun h13 q13 => ?_)
      obtain ⟨r13, S_13, rfl, hf⟩ := q13
      dsimp only at hf
      refine E_aload_n dX5_write_75 rfl ?_
      refine E_bipush (v := 59) dX5_write_76 (by decide) ?_
      refine E_callVV (st := []) (c_X5_addSign l D dA ad S_13 59 (pO_bnd hf)) mf_X5_addSign rfl rfl gX5_write_X5_addSign (pRc.of (ci := 5) rfl rfl) (by omega) rfl (Nat.le_of_ble_eq_true rfl) (by rfl) dX5_write_78 (fun h14 q14 => ?_)
      obtain ⟨r14, S_14, rfl, hf⟩ := q14
      dsimp only at hf
      refine E_iinc (v := v2 + 1) (ls' := [(0, .ref 50), (1, .ref 5), (2, .int (v2 + 1))]) dX5_write_81 rfl rfl (by decide) rfl ?_
      refine E_goto (tgt := 7) dX5_write_84 (by decide) ?_
      exact E_sub (ls' := [(0, .ref 50), (1, .ref 5), (2, .int (v2 + 1))]) ⟨rfl, rfl, rfl, trivial⟩ (ih S_14 (v2 + 1) hf)
theorem mf_X5_write : pMF yX5_write wsX5_write cX5_write 3 none 1 := ⟨⟨_, rfl⟩, by decide +kernel, by decide, by decide +kernel, by decide +kernel, by decide +kernel⟩
def f_X5_write (S : PS) : Option (Int32 × PS) :=
  plp (g_X5_write_7 pfuel (pI S 22 0) 0) (fun (S_15 : PS) => some (0, S_15))
set_option maxRecDepth 100000 in
theorem c_X5_write (l : Launch) (D : va_G) (dA : Nat → ClassId) (ad : Nat → Nat) (S : PS) {P : (Int32 × PS) → Prop} (hf : pO (f_X5_write S) P) : CtV l D dA ad yX5_write wsX5_write 3 [.ref 50, .ref 5] (hX S) (fun h' => ∃ (r0 : Int32) (S' : PS), h' = hX S' ∧ P (r0, S')) := by
  refine CtV_of mf_X5_write rfl rfl (Nat.le_of_ble_eq_true rfl) rfl (hX_len S) ?_
  unfold f_X5_write at hf
  refine E_aload_n dX5_write_0 rfl ?_
  refine E_iconst (v := 0) dX5_write_1 (by decide) ?_
  refine E_putf (h' := hX (pI S 22 0)) dX5_write_2 fl_X5_write_9 ft_5_0 rfl (Nat.lt_of_lt_of_eq (by decide : 0 < 2) rfl) rfl rfl ⟨_, rfl⟩ (sX_I22 S 0) ?_
  refine E_iconst (v := 0) dX5_write_5 (by decide) ?_
  refine E_istore_n (ls' := [(0, .ref 50), (1, .ref 5), (2, .int 0)]) dX5_write_6 (by decide) rfl ?_
  refine E_sub (ls' := [(0, .ref 50), (1, .ref 5), (2, .int 0)]) ⟨rfl, rfl, rfl, trivial⟩ ?_
  refine l_X5_write_7 l D dA ad _ (by omega) pfuel (pI S 22 0) 0 (pO_lp hf (fun x hx => ⟨x.1, x.2, rfl, hx⟩) (fun w15 hf => ?_))
  obtain ⟨S_15, rfl⟩ : ∃ z, z = w15 := ⟨_, rfl⟩
  dsimp only at hf ⊢
  exact E_vret rfl dX5_write_87 ⟨0, _, rfl, hf⟩
theorem hi_X11_say_5 : ∀ w ∈ u_ws RX5 TX5 2, w ∈ wsX11_say := fun w h => of_decide_eq_true (List.all_eq_true.mp (by decide +kernel : (u_ws RX5 TX5 2).all (fun w => decide (w ∈ wsX11_say)) = true) w h)
theorem fl_X11_say_314 : pFL wsX11_say RX11 314 5 0 := ⟨RX5, TX5, 2, hi_X11_say_5, rfl, by decide, by decide +kernel⟩
theorem fl_X11_say_317 : pFL wsX11_say RX11 317 5 1 := ⟨RX5, TX5, 2, hi_X11_say_5, rfl, by decide, by decide +kernel⟩
theorem mf_X11_say : pMF yX11_say wsX11_say cX11_say 2 (some .int) 1 := ⟨⟨_, rfl⟩, by decide +kernel, by decide, by decide +kernel, by decide +kernel, by decide +kernel⟩
def f_X11_say (S : PS) (v1 : Int32) : Option (Int32 × PS) :=
  if ((-1) : Int32) ≤ v1 then (pbnd (f_X5_write S) (fun _ S_2 => if v1 = ((-1) : Int32) then (some (S_2.1 22, S_2)) else (if (S_2.1 22) ≤ v1 then (some ((-2), S_2)) else (pgd (pin v1 224) (some ((S_2.2 34) v1.toNatClampNeg, S_2)))))) else (some ((-1), S))
set_option maxRecDepth 100000 in
theorem c_X11_say (l : Launch) (D : va_G) (dA : Nat → ClassId) (ad : Nat → Nat) (S : PS) (v1 : Int32) {P : (Int32 × PS) → Prop} (hf : pO (f_X11_say S v1) P) : CtI l D dA ad yX11_say wsX11_say 4 [.ref 0, .int v1] (hX S) (fun r h' => ∃ S' : PS, h' = hX S' ∧ P (r, S')) := by
  refine CtI_of mf_X11_say rfl rfl (Nat.le_of_ble_eq_true rfl) rfl (hX_len S) ?_
  unfold f_X11_say at hf
  refine E_iload_n dX11_say_0 rfl ?_
  refine E_iconst (v := (-1)) dX11_say_1 (by decide) ?_
  refine E_icmp_ge (tgt := 7) dX11_say_2 (by decide) (fun c_1 => ?_) (fun c_1 => ?_)
  · have hf := pO_pos c_1 hf
    refine E_aload_n dX11_say_7 rfl ?_
    refine E_getf (v := .ref 50) dX11_say_8 fl_X11_say_70 rfl rfl ?_
    refine E_aload_n dX11_say_11 rfl ?_
    refine E_getf (v := .ref 1) dX11_say_12 fl_X11_say_12 rfl rfl ?_
    refine E_getf (v := .ref 5) dX11_say_15 fl_X11_say_131 rfl rfl ?_
    refine E_callVV (st := []) (c_X5_write l D dA ad S (pO_bnd hf)) mf_X5_write rfl rfl gX11_say_X5_write (pRc.of (ci := 5) rfl rfl) (by omega) rfl (Nat.le_of_ble_eq_true rfl) (by rfl) dX11_say_18 (fun h2 q2 => ?_)
    obtain ⟨r2, S_2, rfl, hf⟩ := q2
    dsimp only at hf
    refine E_iload_n dX11_say_21 rfl ?_
    refine E_iconst (v := (-1)) dX11_say_22 (by decide) ?_
    refine E_icmp_ne (tgt := 34) dX11_say_23 (by decide) (fun c_3 => ?_) (fun c_3 => ?_)
    · have hf := pO_neg c_3 hf
      refine E_iload_n dX11_say_34 rfl ?_
      refine E_aload_n dX11_say_35 rfl ?_
      refine E_getf (v := .ref 50) dX11_say_36 fl_X11_say_70 rfl rfl ?_
      refine E_getf (v := .int (S_2.1 22)) dX11_say_39 fl_X11_say_314 rfl rfl ?_
      refine E_icmp_ge (tgt := 57) dX11_say_42 (by decide) (fun c_4 => ?_) (fun c_4 => ?_)
      · have hf := pO_pos c_4 hf
        refine E_bipush (v := (-2)) dX11_say_57 (by decide) ?_
        exact E_iret rfl dX11_say_59 ⟨_, rfl, hf⟩
      · have hf := pO_neg c_4 hf
        refine E_aload_n dX11_say_45 rfl ?_
        refine E_getf (v := .ref 50) dX11_say_46 fl_X11_say_70 rfl rfl ?_
        refine E_getf (v := .ref 51) dX11_say_49 fl_X11_say_317 rfl rfl ?_
        refine E_iload_n dX11_say_52 rfl ?_
        obtain ⟨hi_5, hf⟩ := pO_gd hf
        refine E_cald (n0 := 224) (f := S_2.2 34) dX11_say_53 rfl (pin_in hi_5) ?_
        refine E_goto (tgt := 59) dX11_say_54 (by decide) ?_
        exact E_iret rfl dX11_say_59 ⟨_, rfl, hf⟩
    · have hf := pO_pos c_3 hf
      refine E_aload_n dX11_say_26 rfl ?_
      refine E_getf (v := .ref 50) dX11_say_27 fl_X11_say_70 rfl rfl ?_
      refine E_getf (v := .int (S_2.1 22)) dX11_say_30 fl_X11_say_314 rfl rfl ?_
      exact E_iret rfl dX11_say_33 ⟨_, rfl, hf⟩
  · have hf := pO_neg c_1 hf
    refine E_iconst (v := (-1)) dX11_say_5 (by decide) ?_
    exact E_iret rfl dX11_say_6 ⟨_, rfl, hf⟩
theorem hi_X11_feed_11 : ∀ w ∈ u_ws RX11 TX11 10, w ∈ wsX11_feed := fun w h => of_decide_eq_true (List.all_eq_true.mp (by decide +kernel : (u_ws RX11 TX11 10).all (fun w => decide (w ∈ wsX11_feed)) = true) w h)
theorem fl_X11_feed_35 : pFL wsX11_feed RX11 35 11 4 := ⟨RX11, TX11, 10, hi_X11_feed_11, rfl, by decide, by decide +kernel⟩
theorem hi_X11_feed_9 : ∀ w ∈ u_ws RX9 TX9 5, w ∈ wsX11_feed := fun w h => of_decide_eq_true (List.all_eq_true.mp (by decide +kernel : (u_ws RX9 TX9 5).all (fun w => decide (w ∈ wsX11_feed)) = true) w h)
theorem fl_X11_feed_321 : pFL wsX11_feed RX11 321 9 0 := ⟨RX9, TX9, 5, hi_X11_feed_9, rfl, by decide, by decide +kernel⟩
theorem fl_X11_feed_322 : pFL wsX11_feed RX11 322 9 1 := ⟨RX9, TX9, 5, hi_X11_feed_9, rfl, by decide, by decide +kernel⟩
theorem ft_9_0 : pFT 9 0 .int := ⟨RX9, TX9, 5, tyX9, rfl, by decide, tyX9_ok, nmX9, rfl, by decide +kernel⟩
theorem mf_X11_feed : pMF yX11_feed wsX11_feed cX11_feed 2 (some .int) 1 := ⟨⟨_, rfl⟩, by decide +kernel, by decide, by decide +kernel, by decide +kernel, by decide +kernel⟩
def f_X11_feed (S : PS) (v1 : Int32) : Option (Int32 × PS) :=
  pbnd (f_X11_isWithin S v1 32 126) (fun r1 S_1 => if r1 = (0 : Int32) then (some ((-1), S_1)) else (if (S_1.1 11) < (80 : Int32) then (pgd (pin (S_1.1 11) 80) (some ((S_1.1 11) + 1, (pI (pAr S_1 28 (upd (S_1.2 28) (S_1.1 11).toNatClampNeg (vp_nar .byte v1.toInt8.toInt32))) 11 ((S_1.1 11) + 1))))) else (some ((-3), S_1))))
set_option maxRecDepth 100000 in
theorem c_X11_feed (l : Launch) (D : va_G) (dA : Nat → ClassId) (ad : Nat → Nat) (S : PS) (v1 : Int32) {P : (Int32 × PS) → Prop} (hf : pO (f_X11_feed S v1) P) : CtI l D dA ad yX11_feed wsX11_feed 1 [.ref 0, .int v1] (hX S) (fun r h' => ∃ S' : PS, h' = hX S' ∧ P (r, S')) := by
  refine CtI_of mf_X11_feed rfl rfl (Nat.le_of_ble_eq_true rfl) rfl (hX_len S) ?_
  unfold f_X11_feed at hf
  refine E_iload_n dX11_feed_0 rfl ?_
  refine E_bipush (v := 32) dX11_feed_1 (by decide) ?_
  refine E_bipush (v := 126) dX11_feed_3 (by decide) ?_
  refine E_callSI (st := []) (c_X11_isWithin l D dA ad S v1 32 126 (pO_bnd hf)) mf_X11_isWithin rfl gX11_feed_X11_isWithin (by omega) rfl (Nat.le_of_ble_eq_true rfl) (by rfl) dX11_feed_5 (fun r1 h1 q1 => ?_)
  obtain ⟨S_1, rfl, hf⟩ := q1
  dsimp only at hf
  refine E_if_ne (tgt := 13) dX11_feed_8 (by decide) (fun c_2 => ?_) (fun c_2 => ?_)
  · have hf := pO_neg c_2 hf
    refine E_aload_n dX11_feed_13 rfl ?_
    refine E_getf (v := .ref 39) dX11_feed_14 fl_X11_feed_35 rfl rfl ?_
    refine E_getf (v := .int (S_1.1 11)) dX11_feed_17 fl_X11_feed_321 rfl rfl ?_
    refine E_aload_n dX11_feed_20 rfl ?_
    refine E_getf (v := .ref 39) dX11_feed_21 fl_X11_feed_35 rfl rfl ?_
    refine E_getf (v := .ref 40) dX11_feed_24 fl_X11_feed_322 rfl rfl ?_
    refine E_alen dX11_feed_27 rfl (by decide) ?_
    refine E_val (y := 80) rfl ?_
    refine E_icmp_lt (tgt := 34) dX11_feed_28 (by decide) (fun c_3 => ?_) (fun c_3 => ?_)
    · have hf := pO_pos c_3 hf
      refine E_aload_n dX11_feed_34 rfl ?_
      refine E_getf (v := .ref 39) dX11_feed_35 fl_X11_feed_35 rfl rfl ?_
      refine E_getf (v := .ref 40) dX11_feed_38 fl_X11_feed_322 rfl rfl ?_
      refine E_aload_n dX11_feed_41 rfl ?_
      refine E_getf (v := .ref 39) dX11_feed_42 fl_X11_feed_35 rfl rfl ?_
      refine E_getf (v := .int (S_1.1 11)) dX11_feed_45 fl_X11_feed_321 rfl rfl ?_
      refine E_iload_n dX11_feed_48 rfl ?_
      refine E_i2b dX11_feed_49 ?_
      obtain ⟨hi_4, hf⟩ := pO_gd hf
      refine E_bast (n0 := 80) (f := S_1.2 28) (h' := hX (pAr S_1 28 (upd (S_1.2 28) (S_1.1 11).toNatClampNeg (vp_nar .byte v1.toInt8.toInt32)))) dX11_feed_50 rfl (pin_in hi_4) (sX_A28 S_1 (upd (S_1.2 28) (S_1.1 11).toNatClampNeg (vp_nar .byte v1.toInt8.toInt32))) ?_
      refine E_aload_n dX11_feed_51 rfl ?_
      refine E_getf (v := .ref 39) dX11_feed_52 fl_X11_feed_35 rfl rfl ?_
      refine E_dup dX11_feed_55 rfl ?_
      refine E_getf (v := .int (S_1.1 11)) dX11_feed_56 fl_X11_feed_321 rfl rfl ?_
      refine E_iconst (v := 1) dX11_feed_59 (by decide) ?_
      refine E_iadd dX11_feed_60 ?_
      refine E_putf (h' := hX (pI (pAr S_1 28 (upd (S_1.2 28) (S_1.1 11).toNatClampNeg (vp_nar .byte v1.toInt8.toInt32))) 11 ((S_1.1 11) + 1))) dX11_feed_61 fl_X11_feed_321 ft_9_0 rfl (Nat.lt_of_lt_of_eq (by decide : 0 < 5) rfl) rfl rfl ⟨_, rfl⟩ (sX_I11 (pAr S_1 28 (upd (S_1.2 28) (S_1.1 11).toNatClampNeg (vp_nar .byte v1.toInt8.toInt32))) ((S_1.1 11) + 1)) ?_
      refine E_aload_n dX11_feed_64 rfl ?_
      refine E_getf (v := .ref 39) dX11_feed_65 fl_X11_feed_35 rfl rfl ?_
      refine E_getf (v := .int ((S_1.1 11) + 1)) dX11_feed_68 fl_X11_feed_321 rfl rfl ?_
      exact E_iret rfl dX11_feed_71 ⟨_, rfl, hf⟩
    · have hf := pO_neg c_3 hf
      refine E_bipush (v := (-3)) dX11_feed_31 (by decide) ?_
      exact E_iret rfl dX11_feed_33 ⟨_, rfl, hf⟩
  · have hf := pO_pos c_2 hf
    refine E_iconst (v := (-1)) dX11_feed_11 (by decide) ?_
    exact E_iret rfl dX11_feed_12 ⟨_, rfl, hf⟩
theorem hi_X11_wipe_11 : ∀ w ∈ u_ws RX11 TX11 10, w ∈ wsX11_wipe := fun w h => of_decide_eq_true (List.all_eq_true.mp (by decide +kernel : (u_ws RX11 TX11 10).all (fun w => decide (w ∈ wsX11_wipe)) = true) w h)
theorem fl_X11_wipe_35 : pFL wsX11_wipe RX11 35 11 4 := ⟨RX11, TX11, 10, hi_X11_wipe_11, rfl, by decide, by decide +kernel⟩
theorem hi_X11_wipe_9 : ∀ w ∈ u_ws RX9 TX9 5, w ∈ wsX11_wipe := fun w h => of_decide_eq_true (List.all_eq_true.mp (by decide +kernel : (u_ws RX9 TX9 5).all (fun w => decide (w ∈ wsX11_wipe)) = true) w h)
theorem fl_X11_wipe_321 : pFL wsX11_wipe RX11 321 9 0 := ⟨RX9, TX9, 5, hi_X11_wipe_9, rfl, by decide, by decide +kernel⟩
theorem mf_X11_wipe : pMF yX11_wipe wsX11_wipe cX11_wipe 2 (some .int) 0 := ⟨⟨_, rfl⟩, by decide +kernel, by decide, by decide +kernel, by decide +kernel, by decide +kernel⟩
def f_X11_wipe (S : PS) : Option (Int32 × PS) :=
  some (S.1 11, (pI S 11 0))
set_option maxRecDepth 100000 in
theorem c_X11_wipe (l : Launch) (D : va_G) (dA : Nat → ClassId) (ad : Nat → Nat) (S : PS) {P : (Int32 × PS) → Prop} (hf : pO (f_X11_wipe S) P) : CtI l D dA ad yX11_wipe wsX11_wipe 0 [.ref 0] (hX S) (fun r h' => ∃ S' : PS, h' = hX S' ∧ P (r, S')) := by
  refine CtI_of mf_X11_wipe rfl rfl (Nat.le_of_ble_eq_true rfl) rfl (hX_len S) ?_
  unfold f_X11_wipe at hf
  refine E_aload_n dX11_wipe_0 rfl ?_
  refine E_getf (v := .ref 39) dX11_wipe_1 fl_X11_wipe_35 rfl rfl ?_
  refine E_getf (v := .int (S.1 11)) dX11_wipe_4 fl_X11_wipe_321 rfl rfl ?_
  refine E_istore_n (ls' := [(0, .ref 0), (1, .int (S.1 11))]) dX11_wipe_7 (by decide) rfl ?_
  refine E_aload_n dX11_wipe_8 rfl ?_
  refine E_getf (v := .ref 39) dX11_wipe_9 fl_X11_wipe_35 rfl rfl ?_
  refine E_iconst (v := 0) dX11_wipe_12 (by decide) ?_
  refine E_putf (h' := hX (pI S 11 0)) dX11_wipe_13 fl_X11_wipe_321 ft_9_0 rfl (Nat.lt_of_lt_of_eq (by decide : 0 < 5) rfl) rfl rfl ⟨_, rfl⟩ (sX_I11 S 0) ?_
  refine E_iload_n dX11_wipe_16 rfl ?_
  exact E_iret rfl dX11_wipe_17 ⟨_, rfl, hf⟩
theorem hi_X11_read_11 : ∀ w ∈ u_ws RX11 TX11 10, w ∈ wsX11_read := fun w h => of_decide_eq_true (List.all_eq_true.mp (by decide +kernel : (u_ws RX11 TX11 10).all (fun w => decide (w ∈ wsX11_read)) = true) w h)
theorem fl_X11_read_35 : pFL wsX11_read RX11 35 11 4 := ⟨RX11, TX11, 10, hi_X11_read_11, rfl, by decide, by decide +kernel⟩
theorem hi_X9_findFault_9 : ∀ w ∈ u_ws RX9 TX9 5, w ∈ wsX9_findFault := fun w h => of_decide_eq_true (List.all_eq_true.mp (by decide +kernel : (u_ws RX9 TX9 5).all (fun w => decide (w ∈ wsX9_findFault)) = true) w h)
theorem fl_X9_findFault_19 : pFL wsX9_findFault RX9 19 9 2 := ⟨RX9, TX9, 5, hi_X9_findFault_9, rfl, by decide, by decide +kernel⟩
theorem ft_9_2 : pFT 9 2 .int := ⟨RX9, TX9, 5, tyX9, rfl, by decide, tyX9_ok, nmX9, rfl, by decide +kernel⟩
theorem fl_X9_findFault_9 : pFL wsX9_findFault RX9 9 9 0 := ⟨RX9, TX9, 5, hi_X9_findFault_9, rfl, by decide, by decide +kernel⟩
theorem hi_X9_readsWord_9 : ∀ w ∈ u_ws RX9 TX9 5, w ∈ wsX9_readsWord := fun w h => of_decide_eq_true (List.all_eq_true.mp (by decide +kernel : (u_ws RX9 TX9 5).all (fun w => decide (w ∈ wsX9_readsWord)) = true) w h)
theorem fl_X9_readsWord_19 : pFL wsX9_readsWord RX9 19 9 2 := ⟨RX9, TX9, 5, hi_X9_readsWord_9, rfl, by decide, by decide +kernel⟩
theorem fl_X9_readsWord_9 : pFL wsX9_readsWord RX9 9 9 0 := ⟨RX9, TX9, 5, hi_X9_readsWord_9, rfl, by decide, by decide +kernel⟩
theorem hi_X9_isLetterHere_9 : ∀ w ∈ u_ws RX9 TX9 5, w ∈ wsX9_isLetterHere := fun w h => of_decide_eq_true (List.all_eq_true.mp (by decide +kernel : (u_ws RX9 TX9 5).all (fun w => decide (w ∈ wsX9_isLetterHere)) = true) w h)
theorem fl_X9_isLetterHere_19 : pFL wsX9_isLetterHere RX9 19 9 2 := ⟨RX9, TX9, 5, hi_X9_isLetterHere_9, rfl, by decide, by decide +kernel⟩
theorem fl_X9_isLetterHere_9 : pFL wsX9_isLetterHere RX9 9 9 0 := ⟨RX9, TX9, 5, hi_X9_isLetterHere_9, rfl, by decide, by decide +kernel⟩
theorem fl_X9_isLetterHere_15 : pFL wsX9_isLetterHere RX9 15 9 1 := ⟨RX9, TX9, 5, hi_X9_isLetterHere_9, rfl, by decide, by decide +kernel⟩
theorem mf_X9_isLetterHere : pMF yX9_isLetterHere wsX9_isLetterHere cX9_isLetterHere 1 (some .boolean) 0 := ⟨⟨_, rfl⟩, by decide +kernel, by decide, by decide +kernel, by decide +kernel, by decide +kernel⟩
def f_X9_isLetterHere (S : PS) : Option (Int32 × PS) :=
  pbnd (f_X11_isWithin S (S.1 12) 0 ((S.1 11) - 1)) (fun r1 S_1 => if r1 = (0 : Int32) then (some (0, S_1)) else (pgd (pin (S_1.1 12) 80) (pbnd (f_X11_isWithin S_1 ((S_1.2 28) (S_1.1 12).toNatClampNeg) 97 122) (fun r4 S_4 => if r4 = (0 : Int32) then (some (0, S_4)) else (some (1, S_4))))))
set_option maxRecDepth 100000 in
theorem c_X9_isLetterHere (l : Launch) (D : va_G) (dA : Nat → ClassId) (ad : Nat → Nat) (S : PS) {P : (Int32 × PS) → Prop} (hf : pO (f_X9_isLetterHere S) P) : CtI l D dA ad yX9_isLetterHere wsX9_isLetterHere 1 [.ref 39] (hX S) (fun r h' => ∃ S' : PS, h' = hX S' ∧ P (r, S')) := by
  refine CtI_of mf_X9_isLetterHere rfl rfl (Nat.le_of_ble_eq_true rfl) rfl (hX_len S) ?_
  unfold f_X9_isLetterHere at hf
  refine E_aload_n dX9_isLetterHere_0 rfl ?_
  refine E_getf (v := .int (S.1 12)) dX9_isLetterHere_1 fl_X9_isLetterHere_19 rfl rfl ?_
  refine E_iconst (v := 0) dX9_isLetterHere_4 (by decide) ?_
  refine E_aload_n dX9_isLetterHere_5 rfl ?_
  refine E_getf (v := .int (S.1 11)) dX9_isLetterHere_6 fl_X9_isLetterHere_9 rfl rfl ?_
  refine E_iconst (v := 1) dX9_isLetterHere_9 (by decide) ?_
  refine E_isub dX9_isLetterHere_10 ?_
  refine E_callNI (st := []) (c_X11_isWithin l D dA ad S (S.1 12) 0 ((S.1 11) - 1) (pO_bnd hf)) mf_X11_isWithin rfl gX9_isLetterHere_X11_isWithin_n81 (by decide +kernel) (by decide +kernel) (by decide +kernel) (by omega) rfl (Nat.le_of_ble_eq_true rfl) (by rfl) dX9_isLetterHere_11 (fun r1 h1 q1 => ?_)
  obtain ⟨S_1, rfl, hf⟩ := q1
  dsimp only at hf
  refine E_if_eq (tgt := 40) dX9_isLetterHere_14 (by decide) (fun c_2 => ?_) (fun c_2 => ?_)
  · have hf := pO_pos c_2 hf
    refine E_iconst (v := 0) dX9_isLetterHere_40 (by decide) ?_
    exact E_zret rfl dX9_isLetterHere_41 (by decide) ⟨_, rfl, hf⟩
  · have hf := pO_neg c_2 hf
    refine E_aload_n dX9_isLetterHere_17 rfl ?_
    refine E_getf (v := .ref 40) dX9_isLetterHere_18 fl_X9_isLetterHere_15 rfl rfl ?_
    refine E_aload_n dX9_isLetterHere_21 rfl ?_
    refine E_getf (v := .int (S_1.1 12)) dX9_isLetterHere_22 fl_X9_isLetterHere_19 rfl rfl ?_
    obtain ⟨hi_3, hf⟩ := pO_gd hf
    refine E_bald (n0 := 80) (f := S_1.2 28) dX9_isLetterHere_25 rfl (pin_in hi_3) ?_
    refine E_bipush (v := 97) dX9_isLetterHere_26 (by decide) ?_
    refine E_bipush (v := 122) dX9_isLetterHere_28 (by decide) ?_
    refine E_callNI (st := []) (c_X11_isWithin l D dA ad S_1 ((S_1.2 28) (S_1.1 12).toNatClampNeg) 97 122 (pO_bnd hf)) mf_X11_isWithin rfl gX9_isLetterHere_X11_isWithin_n81 (by decide +kernel) (by decide +kernel) (by decide +kernel) (by omega) rfl (Nat.le_of_ble_eq_true rfl) (by rfl) dX9_isLetterHere_30 (fun r4 h4 q4 => ?_)
    obtain ⟨S_4, rfl, hf⟩ := q4
    dsimp only at hf
    refine E_if_eq (tgt := 40) dX9_isLetterHere_33 (by decide) (fun c_5 => ?_) (fun c_5 => ?_)
    · have hf := pO_pos c_5 hf
      refine E_iconst (v := 0) dX9_isLetterHere_40 (by decide) ?_
      exact E_zret rfl dX9_isLetterHere_41 (by decide) ⟨_, rfl, hf⟩
    · have hf := pO_neg c_5 hf
      refine E_iconst (v := 1) dX9_isLetterHere_36 (by decide) ?_
      refine E_goto (tgt := 41) dX9_isLetterHere_37 (by decide) ?_
      exact E_zret rfl dX9_isLetterHere_41 (by decide) ⟨_, rfl, hf⟩
def g_X9_readsWord_5 : Nat → PS → Int32 → Option ((Int32 × PS) ⊕ (PS))
  | 0, _, _ => none
  | fuel + 1, S, v1 =>
    if (S.1 11) ≤ (S.1 12) then (some (.inr (S))) else (pbnd (f_X9_isLetterHere S) (fun r2 S_2 => if r2 = (0 : Int32) then (some (.inr (S_2))) else (g_X9_readsWord_5 fuel (pI S_2 12 ((S_2.1 12) + 1)) v1)))
set_option maxRecDepth 100000 in
theorem l_X9_readsWord_5 (l : Launch) (D : va_G) (dA : Nat → ClassId) (ad : Nat → Nat) (d : Nat) (hd : 2 ≤ d) {Q : Int32 → List PC → Prop} : ∀ (fuel : Nat) (S : PS) (v1 : Int32), pO (g_X9_readsWord_5 fuel S v1) (fun y => match y with
    | .inl x => Q x.1 (hX x.2)
    | .inr w => Ev l D dA ad wsX9_readsWord cX9_readsWord RX9 3 (some .boolean) d 52 (pKi D dA ad 52 Q) 36 [(0, .ref 39), (1, .int v1)] [] (hX w)) → Ev l D dA ad wsX9_readsWord cX9_readsWord RX9 3 (some .boolean) d 52 (pKi D dA ad 52 Q) 5 [(0, .ref 39), (1, .int v1)] [] (hX S) := by
  intro fuel
  induction fuel with
  | zero =>
    intro S v1 hf
    exact hf.elim
  | succ fuel ih =>
    intro S v1 hf
    rw [g_X9_readsWord_5] at hf
    refine E_aload_n dX9_readsWord_5 rfl ?_
    refine E_getf (v := .int (S.1 12)) dX9_readsWord_6 fl_X9_readsWord_19 rfl rfl ?_
    refine E_aload_n dX9_readsWord_9 rfl ?_
    refine E_getf (v := .int (S.1 11)) dX9_readsWord_10 fl_X9_readsWord_9 rfl rfl ?_
    refine E_icmp_ge (tgt := 36) dX9_readsWord_13 (by decide) (fun c_1 => ?_) (fun c_1 => ?_)
    · have hf := pO_pos c_1 hf
      exact E_sub (ls' := [(0, .ref 39), (1, .int v1)]) ⟨rfl, rfl, trivial⟩ hf
    · have hf := pO_neg c_1 hf
      refine E_aload_n dX9_readsWord_16 rfl ?_
      refine E_callVI (st := []) (c_X9_isLetterHere l D dA ad S (pO_bnd hf)) mf_X9_isLetterHere rfl rfl gX9_readsWord_X9_isLetterHere (pRc.of (ci := 9) rfl rfl) (by omega) rfl (Nat.le_of_ble_eq_true rfl) (by rfl) dX9_readsWord_17 (fun r2 h2 q2 => ?_)
      obtain ⟨S_2, rfl, hf⟩ := q2
      dsimp only at hf
      refine E_if_eq (tgt := 36) dX9_readsWord_20 (by decide) (fun c_3 => ?_) (fun c_3 => ?_)
      · have hf := pO_pos c_3 hf
        exact E_sub (ls' := [(0, .ref 39), (1, .int v1)]) ⟨rfl, rfl, trivial⟩ hf
      · have hf := pO_neg c_3 hf
        refine E_aload_n dX9_readsWord_23 rfl ?_
        refine E_dup dX9_readsWord_24 rfl ?_
        refine E_getf (v := .int (S_2.1 12)) dX9_readsWord_25 fl_X9_readsWord_19 rfl rfl ?_
        refine E_iconst (v := 1) dX9_readsWord_28 (by decide) ?_
        refine E_iadd dX9_readsWord_29 ?_
        refine E_putf (h' := hX (pI S_2 12 ((S_2.1 12) + 1))) dX9_readsWord_30 fl_X9_readsWord_19 ft_9_2 rfl (Nat.lt_of_lt_of_eq (by decide : 2 < 5) rfl) rfl rfl ⟨_, rfl⟩ (sX_I12 S_2 ((S_2.1 12) + 1)) ?_
        refine E_goto (tgt := 5) dX9_readsWord_33 (by decide) ?_
        exact E_sub (ls' := [(0, .ref 39), (1, .int v1)]) ⟨rfl, rfl, trivial⟩ (ih (pI S_2 12 ((S_2.1 12) + 1)) v1 hf)
theorem fl_X9_readsWord_22 : pFL wsX9_readsWord RX9 22 9 3 := ⟨RX9, TX9, 5, hi_X9_readsWord_9, rfl, by decide, by decide +kernel⟩
theorem ft_9_3 : pFT 9 3 .int := ⟨RX9, TX9, 5, tyX9, rfl, by decide, tyX9_ok, nmX9, rfl, by decide +kernel⟩
theorem mf_X9_wordOf : pMF yX9_wordOf wsX9_wordOf cX9_wordOf 1 (some (.object "java/lang/String")) 1 := ⟨⟨_, rfl⟩, by decide +kernel, by decide, by decide +kernel, by decide +kernel, by decide +kernel⟩
def f_X9_wordOf (S : PS) (v0 : Int32) : Option (Nat × PS) :=
  if v0 = (0 : Int32) then (some ((0 + 1000), S)) else (if v0 = (1 : Int32) then (some ((1 + 1000), S)) else (if v0 = (2 : Int32) then (some ((2 + 1000), S)) else (if v0 = (3 : Int32) then (some ((3 + 1000), S)) else (some ((4 + 1000), S)))))
set_option maxRecDepth 100000 in
theorem c_X9_wordOf (l : Launch) (D : va_G) (dA : Nat → ClassId) (ad : Nat → Nat) (S : PS) (v0 : Int32) {P : (Nat × PS) → Prop} (hf : pO (f_X9_wordOf S v0) P) : CtR l D dA ad yX9_wordOf wsX9_wordOf 0 [.int v0] (hX S) (fun r h' => ∃ S' : PS, h' = hX S' ∧ P (r, S')) := by
  refine CtR_of mf_X9_wordOf rfl rfl (Nat.le_of_ble_eq_true rfl) rfl (hX_len S) ?_
  unfold f_X9_wordOf at hf
  refine E_iload_n dX9_wordOf_0 rfl ?_
  by_cases k_1 : v0 = (0 : Int32)
  · have hf := pO_pos k_1 hf
    refine E_tableIn (off := 31) (tgt := 32) dX9_wordOf_1 (by rw [k_1]; decide) (by rw [k_1]; decide) (by rw [k_1]; rfl) (by decide) ?_
    refine E_ldcS (i := 0) (tx := "put") (by decide +kernel) dX9_wordOf_32 ?_
    exact E_aret rfl (Or.inl ⟨_, rfl⟩) dX9_wordOf_34 ⟨_, rfl, hf⟩
  · have hf := pO_neg k_1 hf
    by_cases k_2 : v0 = (1 : Int32)
    · have hf := pO_pos k_2 hf
      refine E_tableIn (off := 34) (tgt := 35) dX9_wordOf_1 (by rw [k_2]; decide) (by rw [k_2]; decide) (by rw [k_2]; rfl) (by decide) ?_
      refine E_ldcS (i := 1) (tx := "move") (by decide +kernel) dX9_wordOf_35 ?_
      exact E_aret rfl (Or.inl ⟨_, rfl⟩) dX9_wordOf_37 ⟨_, rfl, hf⟩
    · have hf := pO_neg k_2 hf
      by_cases k_3 : v0 = (2 : Int32)
      · have hf := pO_pos k_3 hf
        refine E_tableIn (off := 37) (tgt := 38) dX9_wordOf_1 (by rw [k_3]; decide) (by rw [k_3]; decide) (by rw [k_3]; rfl) (by decide) ?_
        refine E_ldcS (i := 2) (tx := "take") (by decide +kernel) dX9_wordOf_38 ?_
        exact E_aret rfl (Or.inl ⟨_, rfl⟩) dX9_wordOf_40 ⟨_, rfl, hf⟩
      · have hf := pO_neg k_3 hf
        by_cases k_4 : v0 = (3 : Int32)
        · have hf := pO_pos k_4 hf
          refine E_tableIn (off := 40) (tgt := 41) dX9_wordOf_1 (by rw [k_4]; decide) (by rw [k_4]; decide) (by rw [k_4]; rfl) (by decide) ?_
          refine E_ldcS (i := 3) (tx := "fill") (by decide +kernel) dX9_wordOf_41 ?_
          exact E_aret rfl (Or.inl ⟨_, rfl⟩) dX9_wordOf_43 ⟨_, rfl, hf⟩
        · have hf := pO_neg k_4 hf
          refine E_tableOut (tgt := 44) dX9_wordOf_1 (by have z0 := pti k_1 (by decide : (0 : Int32).toInt = 0); have z1 := pti k_2 (by decide : (1 : Int32).toInt = 1); have z2 := pti k_3 (by decide : (2 : Int32).toInt = 2); have z3 := pti k_4 (by decide : (3 : Int32).toInt = 3); omega) (by decide) ?_
          refine E_ldcS (i := 4) (tx := "wet") (by decide +kernel) dX9_wordOf_44 ?_
          exact E_aret rfl (Or.inl ⟨_, rfl⟩) dX9_wordOf_46 ⟨_, rfl, hf⟩
theorem hi_X9_isWord_9 : ∀ w ∈ u_ws RX9 TX9 5, w ∈ wsX9_isWord := fun w h => of_decide_eq_true (List.all_eq_true.mp (by decide +kernel : (u_ws RX9 TX9 5).all (fun w => decide (w ∈ wsX9_isWord)) = true) w h)
theorem fl_X9_isWord_15 : pFL wsX9_isWord RX9 15 9 1 := ⟨RX9, TX9, 5, hi_X9_isWord_9, rfl, by decide, by decide +kernel⟩
def g_X9_isWord_15 (i : Nat) : Nat → PS → Int32 → Int32 → Option ((Int32 × PS) ⊕ (PS))
  | 0, _, _, _ => none
  | fuel + 1, S, v2, v4 =>
    if (nI (pLen.getD i 0)) ≤ v4 then (some (.inr (S))) else (pgd (pin (v2 + v4) 80) (pgd (pin v4 (pLen.getD i 0)) (if ((S.2 28) (v2 + v4).toNatClampNeg) = (pch i v4.toNatClampNeg) then (g_X9_isWord_15 i fuel S v2 (v4 + 1)) else (some (.inl (0, S))))))
set_option maxRecDepth 100000 in
theorem l_X9_isWord_15 (l : Launch) (D : va_G) (dA : Nat → ClassId) (ad : Nat → Nat) (i : Nat) (hi : i < 11) (d : Nat) (hd : 5 ≤ d) {Q : Int32 → List PC → Prop} : ∀ (fuel : Nat) (S : PS) (v2 : Int32) (v4 : Int32), pO (g_X9_isWord_15 i fuel S v2 v4) (fun y => match y with
    | .inl x => Q x.1 (hX x.2)
    | .inr w => Ev l D dA ad wsX9_isWord cX9_isWord RX9 5 (some .boolean) d 52 (pKi D dA ad 52 Q) 50 [] [] (hX w)) → Ev l D dA ad wsX9_isWord cX9_isWord RX9 5 (some .boolean) d 52 (pKi D dA ad 52 Q) 15 [(0, .ref 39), (1, .ref (i + 1000)), (2, .int v2), (4, .int v4)] [] (hX S) := by
  intro fuel
  induction fuel with
  | zero =>
    intro S v2 v4 hf
    exact hf.elim
  | succ fuel ih =>
    intro S v2 v4 hf
    rw [g_X9_isWord_15] at hf
    refine E_iload dX9_isWord_15 rfl ?_
    refine E_aload_n dX9_isWord_17 rfl ?_
    refine E_callVI (st := [.int v4]) (c_J0_length_8abf5 l D dA ad (i := i) hi (hX S)) mf_J0_length_8abf5 rfl rfl gX9_isWord_J0_length_8abf5 (Or.inr ⟨i, hi, rfl, rfl⟩) (by omega) rfl (Nat.le_of_ble_eq_true rfl) (by rfl) dX9_isWord_18 (fun r3 h3 q3 => ?_)
    obtain ⟨rfl, rfl⟩ := q3
    refine E_icmp_ge (tgt := 50) dX9_isWord_21 (by decide) (fun c_4 => ?_) (fun c_4 => ?_)
    · have hf := pO_pos c_4 hf
      exact E_sub (ls' := []) trivial hf
    · have hf := pO_neg c_4 hf
      refine E_aload_n dX9_isWord_24 rfl ?_
      refine E_getf (v := .ref 40) dX9_isWord_25 fl_X9_isWord_15 rfl rfl ?_
      refine E_iload_n dX9_isWord_28 rfl ?_
      refine E_iload dX9_isWord_29 rfl ?_
      refine E_iadd dX9_isWord_31 ?_
      obtain ⟨hi_5, hf⟩ := pO_gd hf
      refine E_bald (n0 := 80) (f := S.2 28) dX9_isWord_32 rfl (pin_in hi_5) ?_
      refine E_aload_n dX9_isWord_33 rfl ?_
      refine E_iload dX9_isWord_34 rfl ?_
      obtain ⟨hi_7, hf⟩ := pO_gd hf
      refine E_callVI (st := [.int ((S.2 28) (v2 + v4).toNatClampNeg)]) (c_J0_charAt_5068e l D dA ad (i := i) hi (hX S) v4 (pin_in hi_7)) mf_J0_charAt_5068e rfl rfl gX9_isWord_J0_charAt_5068e (Or.inr ⟨i, hi, rfl, rfl⟩) (by omega) rfl (Nat.le_of_ble_eq_true rfl) (by rfl) dX9_isWord_36 (fun r6 h6 q6 => ?_)
      obtain ⟨rfl, rfl⟩ := q6
      refine E_icmp_eq (tgt := 44) dX9_isWord_39 (by decide) (fun c_8 => ?_) (fun c_8 => ?_)
      · have hf := pO_pos c_8 hf
        refine E_iinc (v := v4 + 1) (ls' := [(0, .ref 39), (1, .ref (i + 1000)), (2, .int v2), (4, .int (v4 + 1))]) dX9_isWord_44 rfl rfl (by decide) rfl ?_
        refine E_goto (tgt := 15) dX9_isWord_47 (by decide) ?_
        exact E_sub (ls' := [(0, .ref 39), (1, .ref (i + 1000)), (2, .int v2), (4, .int (v4 + 1))]) ⟨rfl, rfl, rfl, rfl, trivial⟩ (ih S v2 (v4 + 1) hf)
      · have hf := pO_neg c_8 hf
        refine E_iconst (v := 0) dX9_isWord_42 (by decide) ?_
        exact E_zret rfl dX9_isWord_43 (by decide) hf
theorem mf_X9_isWord : pMF yX9_isWord wsX9_isWord cX9_isWord 5 (some .boolean) 3 := ⟨⟨_, rfl⟩, by decide +kernel, by decide, by decide +kernel, by decide +kernel, by decide +kernel⟩
def f_X9_isWord (S : PS) (i : Nat) (v2 : Int32) (v3 : Int32) : Option (Int32 × PS) :=
  if (nI (pLen.getD i 0)) = (v3 - v2) then (plp (g_X9_isWord_15 i pfuel S v2 0) (fun (S_9 : PS) => some (1, S_9))) else (some (0, S))
set_option maxRecDepth 100000 in
theorem c_X9_isWord (l : Launch) (D : va_G) (dA : Nat → ClassId) (ad : Nat → Nat) (S : PS) (i : Nat) (hi : i < 11) (v2 : Int32) (v3 : Int32) {P : (Int32 × PS) → Prop} (hf : pO (f_X9_isWord S i v2 v3) P) : CtI l D dA ad yX9_isWord wsX9_isWord 5 [.ref 39, .ref (i + 1000), .int v2, .int v3] (hX S) (fun r h' => ∃ S' : PS, h' = hX S' ∧ P (r, S')) := by
  refine CtI_of mf_X9_isWord rfl rfl (Nat.le_of_ble_eq_true rfl) rfl (hX_len S) ?_
  unfold f_X9_isWord at hf
  refine E_aload_n dX9_isWord_0 rfl ?_
  refine E_callVI (st := []) (c_J0_length_8abf5 l D dA ad (i := i) hi (hX S)) mf_J0_length_8abf5 rfl rfl gX9_isWord_J0_length_8abf5 (Or.inr ⟨i, hi, rfl, rfl⟩) (by omega) rfl (Nat.le_of_ble_eq_true rfl) (by rfl) dX9_isWord_1 (fun r1 h1 q1 => ?_)
  obtain ⟨rfl, rfl⟩ := q1
  refine E_iload_n dX9_isWord_4 rfl ?_
  refine E_iload_n dX9_isWord_5 rfl ?_
  refine E_isub dX9_isWord_6 ?_
  refine E_icmp_eq (tgt := 12) dX9_isWord_7 (by decide) (fun c_2 => ?_) (fun c_2 => ?_)
  · have hf := pO_pos c_2 hf
    refine E_iconst (v := 0) dX9_isWord_12 (by decide) ?_
    refine E_istore (ls' := [(0, .ref 39), (1, .ref (i + 1000)), (2, .int v2), (3, .int v3), (4, .int 0)]) dX9_isWord_13 (by decide) rfl ?_
    refine E_sub (ls' := [(0, .ref 39), (1, .ref (i + 1000)), (2, .int v2), (4, .int 0)]) ⟨rfl, rfl, rfl, rfl, trivial⟩ ?_
    refine l_X9_isWord_15 l D dA ad i hi _ (by omega) pfuel S v2 0 (pO_lp hf (fun x hx => ⟨x.2, rfl, hx⟩) (fun w9 hf => ?_))
    obtain ⟨S_9, rfl⟩ : ∃ z, z = w9 := ⟨_, rfl⟩
    dsimp only at hf ⊢
    refine E_iconst (v := 1) dX9_isWord_50 (by decide) ?_
    exact E_zret rfl dX9_isWord_51 (by decide) ⟨_, rfl, hf⟩
  · have hf := pO_neg c_2 hf
    refine E_iconst (v := 0) dX9_isWord_10 (by decide) ?_
    exact E_zret rfl dX9_isWord_11 (by decide) ⟨_, rfl, hf⟩
def g_X9_readsWord_38 : Nat → PS → Int32 → Int32 → Option ((Int32 × PS) ⊕ (PS))
  | 0, _, _, _ => none
  | fuel + 1, S, v1, v2 =>
    if (4 : Int32) < v2 then (some (.inr (S))) else (pbnd (f_X9_wordOf (pI S 13 v2) v2) (fun r6 S_6 => pstr r6 (fun i6 => pbnd (f_X9_isWord S_6 i6 v1 (S_6.1 12)) (fun r7 S_7 => if r7 = (0 : Int32) then (g_X9_readsWord_38 fuel S_7 v1 (v2 + 1)) else (some (.inl (1, S_7)))))))
set_option maxRecDepth 100000 in
theorem l_X9_readsWord_38 (l : Launch) (D : va_G) (dA : Nat → ClassId) (ad : Nat → Nat) (d : Nat) (hd : 6 ≤ d) {Q : Int32 → List PC → Prop} : ∀ (fuel : Nat) (S : PS) (v1 : Int32) (v2 : Int32), pO (g_X9_readsWord_38 fuel S v1 v2) (fun y => match y with
    | .inl x => Q x.1 (hX x.2)
    | .inr w => Ev l D dA ad wsX9_readsWord cX9_readsWord RX9 3 (some .boolean) d 52 (pKi D dA ad 52 Q) 72 [(0, .ref 39), (1, .int v1)] [] (hX w)) → Ev l D dA ad wsX9_readsWord cX9_readsWord RX9 3 (some .boolean) d 52 (pKi D dA ad 52 Q) 38 [(0, .ref 39), (1, .int v1), (2, .int v2)] [] (hX S) := by
  intro fuel
  induction fuel with
  | zero =>
    intro S v1 v2 hf
    exact hf.elim
  | succ fuel ih =>
    intro S v1 v2 hf
    rw [g_X9_readsWord_38] at hf
    refine E_iload_n dX9_readsWord_38 rfl ?_
    refine E_iconst (v := 4) dX9_readsWord_39 (by decide) ?_
    refine E_icmp_gt (tgt := 72) dX9_readsWord_40 (by decide) (fun c_5 => ?_) (fun c_5 => ?_)
    · have hf := pO_pos c_5 hf
      exact E_sub (ls' := [(0, .ref 39), (1, .int v1)]) ⟨rfl, rfl, trivial⟩ hf
    · have hf := pO_neg c_5 hf
      refine E_aload_n dX9_readsWord_43 rfl ?_
      refine E_iload_n dX9_readsWord_44 rfl ?_
      refine E_putf (h' := hX (pI S 13 v2)) dX9_readsWord_45 fl_X9_readsWord_22 ft_9_3 rfl (Nat.lt_of_lt_of_eq (by decide : 3 < 5) rfl) rfl rfl ⟨_, rfl⟩ (sX_I13 S v2) ?_
      refine E_aload_n dX9_readsWord_48 rfl ?_
      refine E_iload_n dX9_readsWord_49 rfl ?_
      refine E_callSR (st := [.ref 39]) (c_X9_wordOf l D dA ad (pI S 13 v2) v2 (pO_bnd hf)) mf_X9_wordOf rfl gX9_readsWord_X9_wordOf (by omega) rfl (Nat.le_of_ble_eq_true rfl) (by rfl) dX9_readsWord_50 (fun r6 h6 q6 => ?_)
      obtain ⟨S_6, rfl, hf⟩ := q6
      dsimp only at hf
      obtain ⟨i6, hi6, ez6, hz6⟩ := pO_str hf
      clear hf
      subst ez6
      have hf := hz6
      refine E_iload_n dX9_readsWord_53 rfl ?_
      refine E_aload_n dX9_readsWord_54 rfl ?_
      refine E_getf (v := .int (S_6.1 12)) dX9_readsWord_55 fl_X9_readsWord_19 rfl rfl ?_
      refine E_callVI (st := []) (c_X9_isWord l D dA ad S_6 i6 hi6 v1 (S_6.1 12) (pO_bnd hf)) mf_X9_isWord rfl rfl gX9_readsWord_X9_isWord (pRc.of (ci := 9) rfl rfl) (by omega) rfl (Nat.le_of_ble_eq_true rfl) (by rfl) dX9_readsWord_58 (fun r7 h7 q7 => ?_)
      obtain ⟨S_7, rfl, hf⟩ := q7
      dsimp only at hf
      refine E_if_eq (tgt := 66) dX9_readsWord_61 (by decide) (fun c_8 => ?_) (fun c_8 => ?_)
      · have hf := pO_pos c_8 hf
        refine E_iinc (v := v2 + 1) (ls' := [(0, .ref 39), (1, .int v1), (2, .int (v2 + 1))]) dX9_readsWord_66 rfl rfl (by decide) rfl ?_
        refine E_goto (tgt := 38) dX9_readsWord_69 (by decide) ?_
        exact E_sub (ls' := [(0, .ref 39), (1, .int v1), (2, .int (v2 + 1))]) ⟨rfl, rfl, rfl, trivial⟩ (ih S_7 v1 (v2 + 1) hf)
      · have hf := pO_neg c_8 hf
        refine E_iconst (v := 1) dX9_readsWord_64 (by decide) ?_
        exact E_zret rfl dX9_readsWord_65 (by decide) hf
theorem mf_X9_readsWord : pMF yX9_readsWord wsX9_readsWord cX9_readsWord 3 (some .boolean) 0 := ⟨⟨_, rfl⟩, by decide +kernel, by decide, by decide +kernel, by decide +kernel, by decide +kernel⟩
def f_X9_readsWord (S : PS) : Option (Int32 × PS) :=
  plp (g_X9_readsWord_5 pfuel S (S.1 12)) (fun (S_4 : PS) => plp (g_X9_readsWord_38 pfuel S_4 (S.1 12) 0) (fun (S_9 : PS) => some (0, (pI S_9 12 (S.1 12)))))
set_option maxRecDepth 100000 in
theorem c_X9_readsWord (l : Launch) (D : va_G) (dA : Nat → ClassId) (ad : Nat → Nat) (S : PS) {P : (Int32 × PS) → Prop} (hf : pO (f_X9_readsWord S) P) : CtI l D dA ad yX9_readsWord wsX9_readsWord 6 [.ref 39] (hX S) (fun r h' => ∃ S' : PS, h' = hX S' ∧ P (r, S')) := by
  refine CtI_of mf_X9_readsWord rfl rfl (Nat.le_of_ble_eq_true rfl) rfl (hX_len S) ?_
  unfold f_X9_readsWord at hf
  refine E_aload_n dX9_readsWord_0 rfl ?_
  refine E_getf (v := .int (S.1 12)) dX9_readsWord_1 fl_X9_readsWord_19 rfl rfl ?_
  refine E_istore_n (ls' := [(0, .ref 39), (1, .int (S.1 12))]) dX9_readsWord_4 (by decide) rfl ?_
  refine E_sub (ls' := [(0, .ref 39), (1, .int (S.1 12))]) ⟨rfl, rfl, trivial⟩ ?_
  refine l_X9_readsWord_5 l D dA ad _ (by omega) pfuel S (S.1 12) (pO_lp hf (fun x hx => ⟨x.2, rfl, hx⟩) (fun w4 hf => ?_))
  obtain ⟨S_4, rfl⟩ : ∃ z, z = w4 := ⟨_, rfl⟩
  dsimp only at hf ⊢
  refine E_iconst (v := 0) dX9_readsWord_36 (by decide) ?_
  refine E_istore_n (ls' := [(0, .ref 39), (1, .int (S.1 12)), (2, .int 0)]) dX9_readsWord_37 (by decide) rfl ?_
  refine E_sub (ls' := [(0, .ref 39), (1, .int (S.1 12)), (2, .int 0)]) ⟨rfl, rfl, rfl, trivial⟩ ?_
  refine l_X9_readsWord_38 l D dA ad _ (by omega) pfuel S_4 (S.1 12) 0 (pO_lp hf (fun x hx => ⟨x.2, rfl, hx⟩) (fun w9 hf => ?_))
  obtain ⟨S_9, rfl⟩ : ∃ z, z = w9 := ⟨_, rfl⟩
  dsimp only at hf ⊢
  refine E_aload_n dX9_readsWord_72 rfl ?_
  refine E_iload_n dX9_readsWord_73 rfl ?_
  refine E_putf (h' := hX (pI S_9 12 (S.1 12))) dX9_readsWord_74 fl_X9_readsWord_19 ft_9_2 rfl (Nat.lt_of_lt_of_eq (by decide : 2 < 5) rfl) rfl rfl ⟨_, rfl⟩ (sX_I12 S_9 (S.1 12)) ?_
  refine E_iconst (v := 0) dX9_readsWord_77 (by decide) ?_
  exact E_zret rfl dX9_readsWord_78 (by decide) ⟨_, rfl, hf⟩
theorem hi_X9_readsAct_9 : ∀ w ∈ u_ws RX9 TX9 5, w ∈ wsX9_readsAct := fun w h => of_decide_eq_true (List.all_eq_true.mp (by decide +kernel : (u_ws RX9 TX9 5).all (fun w => decide (w ∈ wsX9_readsAct)) = true) w h)
theorem fl_X9_readsAct_22 : pFL wsX9_readsAct RX9 22 9 3 := ⟨RX9, TX9, 5, hi_X9_readsAct_9, rfl, by decide, by decide +kernel⟩
theorem mf_X9_shapeOf : pMF yX9_shapeOf wsX9_shapeOf cX9_shapeOf 1 (some (.object "java/lang/String")) 1 := ⟨⟨_, rfl⟩, by decide +kernel, by decide, by decide +kernel, by decide +kernel, by decide +kernel⟩
def f_X9_shapeOf (S : PS) (v0 : Int32) : Option (Nat × PS) :=
  if v0 = (0 : Int32) then (some ((5 + 1000), S)) else (if v0 = (1 : Int32) then (some ((6 + 1000), S)) else (if v0 = (2 : Int32) then (some ((7 + 1000), S)) else (if v0 = (3 : Int32) then (some ((8 + 1000), S)) else (some ((9 + 1000), S)))))
set_option maxRecDepth 100000 in
theorem c_X9_shapeOf (l : Launch) (D : va_G) (dA : Nat → ClassId) (ad : Nat → Nat) (S : PS) (v0 : Int32) {P : (Nat × PS) → Prop} (hf : pO (f_X9_shapeOf S v0) P) : CtR l D dA ad yX9_shapeOf wsX9_shapeOf 0 [.int v0] (hX S) (fun r h' => ∃ S' : PS, h' = hX S' ∧ P (r, S')) := by
  refine CtR_of mf_X9_shapeOf rfl rfl (Nat.le_of_ble_eq_true rfl) rfl (hX_len S) ?_
  unfold f_X9_shapeOf at hf
  refine E_iload_n dX9_shapeOf_0 rfl ?_
  by_cases k_1 : v0 = (0 : Int32)
  · have hf := pO_pos k_1 hf
    refine E_tableIn (off := 31) (tgt := 32) dX9_shapeOf_1 (by rw [k_1]; decide) (by rw [k_1]; decide) (by rw [k_1]; rfl) (by decide) ?_
    refine E_ldcS (i := 5) (tx := "a999-9") (by decide +kernel) dX9_shapeOf_32 ?_
    exact E_aret rfl (Or.inl ⟨_, rfl⟩) dX9_shapeOf_34 ⟨_, rfl, hf⟩
  · have hf := pO_neg k_1 hf
    by_cases k_2 : v0 = (1 : Int32)
    · have hf := pO_pos k_2 hf
      refine E_tableIn (off := 34) (tgt := 35) dX9_shapeOf_1 (by rw [k_2]; decide) (by rw [k_2]; decide) (by rw [k_2]; rfl) (by decide) ?_
      refine E_ldcS (i := 6) (tx := "a9-") (by decide +kernel) dX9_shapeOf_35 ?_
      exact E_aret rfl (Or.inl ⟨_, rfl⟩) dX9_shapeOf_37 ⟨_, rfl, hf⟩
    · have hf := pO_neg k_2 hf
      by_cases k_3 : v0 = (2 : Int32)
      · have hf := pO_pos k_3 hf
        refine E_tableIn (off := 37) (tgt := 38) dX9_shapeOf_1 (by rw [k_3]; decide) (by rw [k_3]; decide) (by rw [k_3]; rfl) (by decide) ?_
        refine E_ldcS (i := 7) (tx := "a") (by decide +kernel) dX9_shapeOf_38 ?_
        exact E_aret rfl (Or.inl ⟨_, rfl⟩) dX9_shapeOf_40 ⟨_, rfl, hf⟩
      · have hf := pO_neg k_3 hf
        by_cases k_4 : v0 = (3 : Int32)
        · have hf := pO_pos k_4 hf
          refine E_tableIn (off := 40) (tgt := 41) dX9_shapeOf_1 (by rw [k_4]; decide) (by rw [k_4]; decide) (by rw [k_4]; rfl) (by decide) ?_
          refine E_ldcS (i := 8) (tx := "99") (by decide +kernel) dX9_shapeOf_41 ?_
          exact E_aret rfl (Or.inl ⟨_, rfl⟩) dX9_shapeOf_43 ⟨_, rfl, hf⟩
        · have hf := pO_neg k_4 hf
          refine E_tableOut (tgt := 44) dX9_shapeOf_1 (by have z0 := pti k_1 (by decide : (0 : Int32).toInt = 0); have z1 := pti k_2 (by decide : (1 : Int32).toInt = 1); have z2 := pti k_3 (by decide : (2 : Int32).toInt = 2); have z3 := pti k_4 (by decide : (3 : Int32).toInt = 3); omega) (by decide) ?_
          refine E_ldcS (i := 9) (tx := "9") (by decide +kernel) dX9_shapeOf_44 ?_
          exact E_aret rfl (Or.inl ⟨_, rfl⟩) dX9_shapeOf_46 ⟨_, rfl, hf⟩
theorem fl_X9_readsAct_25 : pFL wsX9_readsAct RX9 25 9 4 := ⟨RX9, TX9, 5, hi_X9_readsAct_9, rfl, by decide, by decide +kernel⟩
theorem hi_X9_isHere_9 : ∀ w ∈ u_ws RX9 TX9 5, w ∈ wsX9_isHere := fun w h => of_decide_eq_true (List.all_eq_true.mp (by decide +kernel : (u_ws RX9 TX9 5).all (fun w => decide (w ∈ wsX9_isHere)) = true) w h)
theorem fl_X9_isHere_19 : pFL wsX9_isHere RX9 19 9 2 := ⟨RX9, TX9, 5, hi_X9_isHere_9, rfl, by decide, by decide +kernel⟩
theorem fl_X9_isHere_9 : pFL wsX9_isHere RX9 9 9 0 := ⟨RX9, TX9, 5, hi_X9_isHere_9, rfl, by decide, by decide +kernel⟩
theorem fl_X9_isHere_15 : pFL wsX9_isHere RX9 15 9 1 := ⟨RX9, TX9, 5, hi_X9_isHere_9, rfl, by decide, by decide +kernel⟩
theorem mf_X9_isHere : pMF yX9_isHere wsX9_isHere cX9_isHere 2 (some .boolean) 1 := ⟨⟨_, rfl⟩, by decide +kernel, by decide, by decide +kernel, by decide +kernel, by decide +kernel⟩
def f_X9_isHere (S : PS) (v1 : Int32) : Option (Int32 × PS) :=
  pbnd (f_X11_isWithin S (S.1 12) 0 ((S.1 11) - 1)) (fun r1 S_1 => if r1 = (0 : Int32) then (some (0, S_1)) else (pgd (pin (S_1.1 12) 80) (if ((S_1.2 28) (S_1.1 12).toNatClampNeg) = v1 then (some (1, S_1)) else (some (0, S_1)))))
set_option maxRecDepth 100000 in
theorem c_X9_isHere (l : Launch) (D : va_G) (dA : Nat → ClassId) (ad : Nat → Nat) (S : PS) (v1 : Int32) {P : (Int32 × PS) → Prop} (hf : pO (f_X9_isHere S v1) P) : CtI l D dA ad yX9_isHere wsX9_isHere 1 [.ref 39, .int v1] (hX S) (fun r h' => ∃ S' : PS, h' = hX S' ∧ P (r, S')) := by
  refine CtI_of mf_X9_isHere rfl rfl (Nat.le_of_ble_eq_true rfl) rfl (hX_len S) ?_
  unfold f_X9_isHere at hf
  refine E_aload_n dX9_isHere_0 rfl ?_
  refine E_getf (v := .int (S.1 12)) dX9_isHere_1 fl_X9_isHere_19 rfl rfl ?_
  refine E_iconst (v := 0) dX9_isHere_4 (by decide) ?_
  refine E_aload_n dX9_isHere_5 rfl ?_
  refine E_getf (v := .int (S.1 11)) dX9_isHere_6 fl_X9_isHere_9 rfl rfl ?_
  refine E_iconst (v := 1) dX9_isHere_9 (by decide) ?_
  refine E_isub dX9_isHere_10 ?_
  refine E_callNI (st := []) (c_X11_isWithin l D dA ad S (S.1 12) 0 ((S.1 11) - 1) (pO_bnd hf)) mf_X11_isWithin rfl gX9_isHere_X11_isWithin_n81 (by decide +kernel) (by decide +kernel) (by decide +kernel) (by omega) rfl (Nat.le_of_ble_eq_true rfl) (by rfl) dX9_isHere_11 (fun r1 h1 q1 => ?_)
  obtain ⟨S_1, rfl, hf⟩ := q1
  dsimp only at hf
  refine E_if_eq (tgt := 34) dX9_isHere_14 (by decide) (fun c_2 => ?_) (fun c_2 => ?_)
  · have hf := pO_pos c_2 hf
    refine E_iconst (v := 0) dX9_isHere_34 (by decide) ?_
    exact E_zret rfl dX9_isHere_35 (by decide) ⟨_, rfl, hf⟩
  · have hf := pO_neg c_2 hf
    refine E_aload_n dX9_isHere_17 rfl ?_
    refine E_getf (v := .ref 40) dX9_isHere_18 fl_X9_isHere_15 rfl rfl ?_
    refine E_aload_n dX9_isHere_21 rfl ?_
    refine E_getf (v := .int (S_1.1 12)) dX9_isHere_22 fl_X9_isHere_19 rfl rfl ?_
    obtain ⟨hi_3, hf⟩ := pO_gd hf
    refine E_bald (n0 := 80) (f := S_1.2 28) dX9_isHere_25 rfl (pin_in hi_3) ?_
    refine E_iload_n dX9_isHere_26 rfl ?_
    refine E_icmp_ne (tgt := 34) dX9_isHere_27 (by decide) (fun c_4 => ?_) (fun c_4 => ?_)
    · have hf := pO_neg c_4 hf
      refine E_iconst (v := 0) dX9_isHere_34 (by decide) ?_
      exact E_zret rfl dX9_isHere_35 (by decide) ⟨_, rfl, hf⟩
    · have hf := pO_pos c_4 hf
      refine E_iconst (v := 1) dX9_isHere_30 (by decide) ?_
      refine E_goto (tgt := 35) dX9_isHere_31 (by decide) ?_
      exact E_zret rfl dX9_isHere_35 (by decide) ⟨_, rfl, hf⟩
theorem fl_X9_readsAct_19 : pFL wsX9_readsAct RX9 19 9 2 := ⟨RX9, TX9, 5, hi_X9_readsAct_9, rfl, by decide, by decide +kernel⟩
theorem hi_X9_readsNumber_9 : ∀ w ∈ u_ws RX9 TX9 5, w ∈ wsX9_readsNumber := fun w h => of_decide_eq_true (List.all_eq_true.mp (by decide +kernel : (u_ws RX9 TX9 5).all (fun w => decide (w ∈ wsX9_readsNumber)) = true) w h)
theorem fl_X9_readsNumber_19 : pFL wsX9_readsNumber RX9 19 9 2 := ⟨RX9, TX9, 5, hi_X9_readsNumber_9, rfl, by decide, by decide +kernel⟩
theorem fl_X9_readsNumber_9 : pFL wsX9_readsNumber RX9 9 9 0 := ⟨RX9, TX9, 5, hi_X9_readsNumber_9, rfl, by decide, by decide +kernel⟩
theorem hi_X9_isFigureHere_9 : ∀ w ∈ u_ws RX9 TX9 5, w ∈ wsX9_isFigureHere := fun w h => of_decide_eq_true (List.all_eq_true.mp (by decide +kernel : (u_ws RX9 TX9 5).all (fun w => decide (w ∈ wsX9_isFigureHere)) = true) w h)
theorem fl_X9_isFigureHere_19 : pFL wsX9_isFigureHere RX9 19 9 2 := ⟨RX9, TX9, 5, hi_X9_isFigureHere_9, rfl, by decide, by decide +kernel⟩
theorem fl_X9_isFigureHere_9 : pFL wsX9_isFigureHere RX9 9 9 0 := ⟨RX9, TX9, 5, hi_X9_isFigureHere_9, rfl, by decide, by decide +kernel⟩
theorem fl_X9_isFigureHere_15 : pFL wsX9_isFigureHere RX9 15 9 1 := ⟨RX9, TX9, 5, hi_X9_isFigureHere_9, rfl, by decide, by decide +kernel⟩
theorem mf_X9_isFigureHere : pMF yX9_isFigureHere wsX9_isFigureHere cX9_isFigureHere 1 (some .boolean) 0 := ⟨⟨_, rfl⟩, by decide +kernel, by decide, by decide +kernel, by decide +kernel, by decide +kernel⟩
def f_X9_isFigureHere (S : PS) : Option (Int32 × PS) :=
  pbnd (f_X11_isWithin S (S.1 12) 0 ((S.1 11) - 1)) (fun r1 S_1 => if r1 = (0 : Int32) then (some (0, S_1)) else (pgd (pin (S_1.1 12) 80) (pbnd (f_X11_isWithin S_1 ((S_1.2 28) (S_1.1 12).toNatClampNeg) 48 57) (fun r4 S_4 => if r4 = (0 : Int32) then (some (0, S_4)) else (some (1, S_4))))))
set_option maxRecDepth 100000 in
theorem c_X9_isFigureHere (l : Launch) (D : va_G) (dA : Nat → ClassId) (ad : Nat → Nat) (S : PS) {P : (Int32 × PS) → Prop} (hf : pO (f_X9_isFigureHere S) P) : CtI l D dA ad yX9_isFigureHere wsX9_isFigureHere 1 [.ref 39] (hX S) (fun r h' => ∃ S' : PS, h' = hX S' ∧ P (r, S')) := by
  refine CtI_of mf_X9_isFigureHere rfl rfl (Nat.le_of_ble_eq_true rfl) rfl (hX_len S) ?_
  unfold f_X9_isFigureHere at hf
  refine E_aload_n dX9_isFigureHere_0 rfl ?_
  refine E_getf (v := .int (S.1 12)) dX9_isFigureHere_1 fl_X9_isFigureHere_19 rfl rfl ?_
  refine E_iconst (v := 0) dX9_isFigureHere_4 (by decide) ?_
  refine E_aload_n dX9_isFigureHere_5 rfl ?_
  refine E_getf (v := .int (S.1 11)) dX9_isFigureHere_6 fl_X9_isFigureHere_9 rfl rfl ?_
  refine E_iconst (v := 1) dX9_isFigureHere_9 (by decide) ?_
  refine E_isub dX9_isFigureHere_10 ?_
  refine E_callNI (st := []) (c_X11_isWithin l D dA ad S (S.1 12) 0 ((S.1 11) - 1) (pO_bnd hf)) mf_X11_isWithin rfl gX9_isFigureHere_X11_isWithin_n81 (by decide +kernel) (by decide +kernel) (by decide +kernel) (by omega) rfl (Nat.le_of_ble_eq_true rfl) (by rfl) dX9_isFigureHere_11 (fun r1 h1 q1 => ?_)
  obtain ⟨S_1, rfl, hf⟩ := q1
  dsimp only at hf
  refine E_if_eq (tgt := 40) dX9_isFigureHere_14 (by decide) (fun c_2 => ?_) (fun c_2 => ?_)
  · have hf := pO_pos c_2 hf
    refine E_iconst (v := 0) dX9_isFigureHere_40 (by decide) ?_
    exact E_zret rfl dX9_isFigureHere_41 (by decide) ⟨_, rfl, hf⟩
  · have hf := pO_neg c_2 hf
    refine E_aload_n dX9_isFigureHere_17 rfl ?_
    refine E_getf (v := .ref 40) dX9_isFigureHere_18 fl_X9_isFigureHere_15 rfl rfl ?_
    refine E_aload_n dX9_isFigureHere_21 rfl ?_
    refine E_getf (v := .int (S_1.1 12)) dX9_isFigureHere_22 fl_X9_isFigureHere_19 rfl rfl ?_
    obtain ⟨hi_3, hf⟩ := pO_gd hf
    refine E_bald (n0 := 80) (f := S_1.2 28) dX9_isFigureHere_25 rfl (pin_in hi_3) ?_
    refine E_bipush (v := 48) dX9_isFigureHere_26 (by decide) ?_
    refine E_bipush (v := 57) dX9_isFigureHere_28 (by decide) ?_
    refine E_callNI (st := []) (c_X11_isWithin l D dA ad S_1 ((S_1.2 28) (S_1.1 12).toNatClampNeg) 48 57 (pO_bnd hf)) mf_X11_isWithin rfl gX9_isFigureHere_X11_isWithin_n81 (by decide +kernel) (by decide +kernel) (by decide +kernel) (by omega) rfl (Nat.le_of_ble_eq_true rfl) (by rfl) dX9_isFigureHere_30 (fun r4 h4 q4 => ?_)
    obtain ⟨S_4, rfl, hf⟩ := q4
    dsimp only at hf
    refine E_if_eq (tgt := 40) dX9_isFigureHere_33 (by decide) (fun c_5 => ?_) (fun c_5 => ?_)
    · have hf := pO_pos c_5 hf
      refine E_iconst (v := 0) dX9_isFigureHere_40 (by decide) ?_
      exact E_zret rfl dX9_isFigureHere_41 (by decide) ⟨_, rfl, hf⟩
    · have hf := pO_neg c_5 hf
      refine E_iconst (v := 1) dX9_isFigureHere_36 (by decide) ?_
      refine E_goto (tgt := 41) dX9_isFigureHere_37 (by decide) ?_
      exact E_zret rfl dX9_isFigureHere_41 (by decide) ⟨_, rfl, hf⟩
theorem fl_X9_readsNumber_15 : pFL wsX9_readsNumber RX9 15 9 1 := ⟨RX9, TX9, 5, hi_X9_readsNumber_9, rfl, by decide, by decide +kernel⟩
def g_X9_readsNumber_5 : Nat → PS → Int32 → Int32 → Int32 → Int32 → Option ((Int32 × PS) ⊕ (PS × Int32 × Int32))
  | 0, _, _, _, _, _ => none
  | fuel + 1, S, v1, v2, v3, v4 =>
    if (S.1 11) ≤ (S.1 12) then (some (.inr (S, v3, v4))) else (pbnd (f_X9_isFigureHere S) (fun r2 S_2 => if r2 = (0 : Int32) then (some (.inr (S_2, v3, v4))) else (if v4 = (3 : Int32) then (some (.inl (0, S_2))) else (pgd (pin (S_2.1 12) 80) (g_X9_readsNumber_5 fuel (pI S_2 12 ((S_2.1 12) + 1)) v1 v2 (((v3 * 10) + ((S_2.2 28) (S_2.1 12).toNatClampNeg)) - 48) (v4 + 1))))))
set_option maxRecDepth 100000 in
theorem l_X9_readsNumber_5 (l : Launch) (D : va_G) (dA : Nat → ClassId) (ad : Nat → Nat) (d : Nat) (hd : 2 ≤ d) {Q : Int32 → List PC → Prop} : ∀ (fuel : Nat) (S : PS) (v1 : Int32) (v2 : Int32) (v3 : Int32) (v4 : Int32), pO (g_X9_readsNumber_5 fuel S v1 v2 v3 v4) (fun y => match y with
    | .inl x => Q x.1 (hX x.2)
    | .inr w => Ev l D dA ad wsX9_readsNumber cX9_readsNumber RX9 5 (some .boolean) d 52 (pKi D dA ad 52 Q) 65 [(0, .ref 39), (1, .int v1), (2, .int v2), (3, .int w.2.1), (4, .int w.2.2)] [] (hX w.1)) → Ev l D dA ad wsX9_readsNumber cX9_readsNumber RX9 5 (some .boolean) d 52 (pKi D dA ad 52 Q) 5 [(0, .ref 39), (1, .int v1), (2, .int v2), (3, .int v3), (4, .int v4)] [] (hX S) := by
  intro fuel
  induction fuel with
  | zero =>
    intro S v1 v2 v3 v4 hf
    exact hf.elim
  | succ fuel ih =>
    intro S v1 v2 v3 v4 hf
    rw [g_X9_readsNumber_5] at hf
    refine E_aload_n dX9_readsNumber_5 rfl ?_
    refine E_getf (v := .int (S.1 12)) dX9_readsNumber_6 fl_X9_readsNumber_19 rfl rfl ?_
    refine E_aload_n dX9_readsNumber_9 rfl ?_
    refine E_getf (v := .int (S.1 11)) dX9_readsNumber_10 fl_X9_readsNumber_9 rfl rfl ?_
    refine E_icmp_ge (tgt := 65) dX9_readsNumber_13 (by decide) (fun c_1 => ?_) (fun c_1 => ?_)
    · have hf := pO_pos c_1 hf
      exact E_sub (ls' := [(0, .ref 39), (1, .int v1), (2, .int v2), (3, .int v3), (4, .int v4)]) ⟨rfl, rfl, rfl, rfl, rfl, trivial⟩ hf
    · have hf := pO_neg c_1 hf
      refine E_aload_n dX9_readsNumber_16 rfl ?_
      refine E_callVI (st := []) (c_X9_isFigureHere l D dA ad S (pO_bnd hf)) mf_X9_isFigureHere rfl rfl gX9_readsNumber_X9_isFigureHere (pRc.of (ci := 9) rfl rfl) (by omega) rfl (Nat.le_of_ble_eq_true rfl) (by rfl) dX9_readsNumber_17 (fun r2 h2 q2 => ?_)
      obtain ⟨S_2, rfl, hf⟩ := q2
      dsimp only at hf
      refine E_if_eq (tgt := 65) dX9_readsNumber_20 (by decide) (fun c_3 => ?_) (fun c_3 => ?_)
      · have hf := pO_pos c_3 hf
        exact E_sub (ls' := [(0, .ref 39), (1, .int v1), (2, .int v2), (3, .int v3), (4, .int v4)]) ⟨rfl, rfl, rfl, rfl, rfl, trivial⟩ hf
      · have hf := pO_neg c_3 hf
        refine E_iload dX9_readsNumber_23 rfl ?_
        refine E_iconst (v := 3) dX9_readsNumber_25 (by decide) ?_
        refine E_icmp_ne (tgt := 31) dX9_readsNumber_26 (by decide) (fun c_4 => ?_) (fun c_4 => ?_)
        · have hf := pO_neg c_4 hf
          refine E_iload_n dX9_readsNumber_31 rfl ?_
          refine E_bipush (v := 10) dX9_readsNumber_32 (by decide) ?_
          refine E_imul dX9_readsNumber_34 ?_
          refine E_aload_n dX9_readsNumber_35 rfl ?_
          refine E_getf (v := .ref 40) dX9_readsNumber_36 fl_X9_readsNumber_15 rfl rfl ?_
          refine E_aload_n dX9_readsNumber_39 rfl ?_
          refine E_getf (v := .int (S_2.1 12)) dX9_readsNumber_40 fl_X9_readsNumber_19 rfl rfl ?_
          obtain ⟨hi_5, hf⟩ := pO_gd hf
          refine E_bald (n0 := 80) (f := S_2.2 28) dX9_readsNumber_43 rfl (pin_in hi_5) ?_
          refine E_iadd dX9_readsNumber_44 ?_
          refine E_bipush (v := 48) dX9_readsNumber_45 (by decide) ?_
          refine E_isub dX9_readsNumber_47 ?_
          refine E_istore_n (ls' := [(0, .ref 39), (1, .int v1), (2, .int v2), (3, .int (((v3 * 10) + ((S_2.2 28) (S_2.1 12).toNatClampNeg)) - 48)), (4, .int v4)]) dX9_readsNumber_48 (by decide) rfl ?_
          refine E_iinc (v := v4 + 1) (ls' := [(0, .ref 39), (1, .int v1), (2, .int v2), (3, .int (((v3 * 10) + ((S_2.2 28) (S_2.1 12).toNatClampNeg)) - 48)), (4, .int (v4 + 1))]) dX9_readsNumber_49 rfl rfl (by decide) rfl ?_
          refine E_aload_n dX9_readsNumber_52 rfl ?_
          refine E_dup dX9_readsNumber_53 rfl ?_
          refine E_getf (v := .int (S_2.1 12)) dX9_readsNumber_54 fl_X9_readsNumber_19 rfl rfl ?_
          refine E_iconst (v := 1) dX9_readsNumber_57 (by decide) ?_
          refine E_iadd dX9_readsNumber_58 ?_
          refine E_putf (h' := hX (pI S_2 12 ((S_2.1 12) + 1))) dX9_readsNumber_59 fl_X9_readsNumber_19 ft_9_2 rfl (Nat.lt_of_lt_of_eq (by decide : 2 < 5) rfl) rfl rfl ⟨_, rfl⟩ (sX_I12 S_2 ((S_2.1 12) + 1)) ?_
          refine E_goto (tgt := 5) dX9_readsNumber_62 (by decide) ?_
          exact E_sub (ls' := [(0, .ref 39), (1, .int v1), (2, .int v2), (3, .int (((v3 * 10) + ((S_2.2 28) (S_2.1 12).toNatClampNeg)) - 48)), (4, .int (v4 + 1))]) ⟨rfl, rfl, rfl, rfl, rfl, trivial⟩ (ih (pI S_2 12 ((S_2.1 12) + 1)) v1 v2 (((v3 * 10) + ((S_2.2 28) (S_2.1 12).toNatClampNeg)) - 48) (v4 + 1) hf)
        · have hf := pO_pos c_4 hf
          refine E_iconst (v := 0) dX9_readsNumber_29 (by decide) ?_
          exact E_zret rfl dX9_readsNumber_30 (by decide) hf
theorem fl_X9_readsNumber_25 : pFL wsX9_readsNumber RX9 25 9 4 := ⟨RX9, TX9, 5, hi_X9_readsNumber_9, rfl, by decide, by decide +kernel⟩
theorem mf_X9_readsNumber : pMF yX9_readsNumber wsX9_readsNumber cX9_readsNumber 5 (some .boolean) 2 := ⟨⟨_, rfl⟩, by decide +kernel, by decide, by decide +kernel, by decide +kernel, by decide +kernel⟩
def f_X9_readsNumber (S : PS) (v1 : Int32) (v2 : Int32) : Option (Int32 × PS) :=
  plp (g_X9_readsNumber_5 pfuel S v1 v2 0 0) (fun w => (fun (S_6 : PS) (v3_6 : Int32) (v4_6 : Int32) => pgd (pin v1 6) (if v4_6 ≤ (0 : Int32) then (some (0, (pAr S_6 29 (upd (S_6.2 29) v1.toNatClampNeg (v2 * v3_6))))) else (some (1, (pAr S_6 29 (upd (S_6.2 29) v1.toNatClampNeg (v2 * v3_6))))))) w.1 w.2.1 w.2.2)
set_option maxRecDepth 100000 in
theorem c_X9_readsNumber (l : Launch) (D : va_G) (dA : Nat → ClassId) (ad : Nat → Nat) (S : PS) (v1 : Int32) (v2 : Int32) {P : (Int32 × PS) → Prop} (hf : pO (f_X9_readsNumber S v1 v2) P) : CtI l D dA ad yX9_readsNumber wsX9_readsNumber 2 [.ref 39, .int v1, .int v2] (hX S) (fun r h' => ∃ S' : PS, h' = hX S' ∧ P (r, S')) := by
  refine CtI_of mf_X9_readsNumber rfl rfl (Nat.le_of_ble_eq_true rfl) rfl (hX_len S) ?_
  unfold f_X9_readsNumber at hf
  refine E_iconst (v := 0) dX9_readsNumber_0 (by decide) ?_
  refine E_istore_n (ls' := [(0, .ref 39), (1, .int v1), (2, .int v2), (3, .int 0)]) dX9_readsNumber_1 (by decide) rfl ?_
  refine E_iconst (v := 0) dX9_readsNumber_2 (by decide) ?_
  refine E_istore (ls' := [(0, .ref 39), (1, .int v1), (2, .int v2), (3, .int 0), (4, .int 0)]) dX9_readsNumber_3 (by decide) rfl ?_
  refine E_sub (ls' := [(0, .ref 39), (1, .int v1), (2, .int v2), (3, .int 0), (4, .int 0)]) ⟨rfl, rfl, rfl, rfl, rfl, trivial⟩ ?_
  refine l_X9_readsNumber_5 l D dA ad _ (by omega) pfuel S v1 v2 0 0 (pO_lp hf (fun x hx => ⟨x.2, rfl, hx⟩) (fun w6 hf => ?_))
  obtain ⟨S_6, v3_6, v4_6⟩ := w6
  dsimp only at hf ⊢
  refine E_aload_n dX9_readsNumber_65 rfl ?_
  refine E_getf (v := .ref 41) dX9_readsNumber_66 fl_X9_readsNumber_25 rfl rfl ?_
  refine E_iload_n dX9_readsNumber_69 rfl ?_
  refine E_iload_n dX9_readsNumber_70 rfl ?_
  refine E_iload_n dX9_readsNumber_71 rfl ?_
  refine E_imul dX9_readsNumber_72 ?_
  obtain ⟨hi_7, hf⟩ := pO_gd hf
  refine E_iast (n0 := 6) (f := S_6.2 29) (h' := hX (pAr S_6 29 (upd (S_6.2 29) v1.toNatClampNeg (v2 * v3_6)))) dX9_readsNumber_73 rfl (pin_in hi_7) (sX_A29 S_6 (upd (S_6.2 29) v1.toNatClampNeg (v2 * v3_6))) ?_
  refine E_iload dX9_readsNumber_74 rfl ?_
  refine E_if_le (tgt := 83) dX9_readsNumber_76 (by decide) (fun c_8 => ?_) (fun c_8 => ?_)
  · have hf := pO_pos c_8 hf
    refine E_iconst (v := 0) dX9_readsNumber_83 (by decide) ?_
    exact E_zret rfl dX9_readsNumber_84 (by decide) ⟨_, rfl, hf⟩
  · have hf := pO_neg c_8 hf
    refine E_iconst (v := 1) dX9_readsNumber_79 (by decide) ?_
    refine E_goto (tgt := 84) dX9_readsNumber_80 (by decide) ?_
    exact E_zret rfl dX9_readsNumber_84 (by decide) ⟨_, rfl, hf⟩
theorem hi_X9_readsPart_9 : ∀ w ∈ u_ws RX9 TX9 5, w ∈ wsX9_readsPart := fun w h => of_decide_eq_true (List.all_eq_true.mp (by decide +kernel : (u_ws RX9 TX9 5).all (fun w => decide (w ∈ wsX9_readsPart)) = true) w h)
theorem fl_X9_readsPart_19 : pFL wsX9_readsPart RX9 19 9 2 := ⟨RX9, TX9, 5, hi_X9_readsPart_9, rfl, by decide, by decide +kernel⟩
theorem hi_X9_readsName_9 : ∀ w ∈ u_ws RX9 TX9 5, w ∈ wsX9_readsName := fun w h => of_decide_eq_true (List.all_eq_true.mp (by decide +kernel : (u_ws RX9 TX9 5).all (fun w => decide (w ∈ wsX9_readsName)) = true) w h)
theorem fl_X9_readsName_19 : pFL wsX9_readsName RX9 19 9 2 := ⟨RX9, TX9, 5, hi_X9_readsName_9, rfl, by decide, by decide +kernel⟩
theorem fl_X9_readsName_9 : pFL wsX9_readsName RX9 9 9 0 := ⟨RX9, TX9, 5, hi_X9_readsName_9, rfl, by decide, by decide +kernel⟩
theorem fl_X9_readsName_15 : pFL wsX9_readsName RX9 15 9 1 := ⟨RX9, TX9, 5, hi_X9_readsName_9, rfl, by decide, by decide +kernel⟩
def g_X9_readsName_4 : Nat → PS → Int32 → Int32 → Int32 → Option ((Int32 × PS) ⊕ (PS × Int32 × Int32))
  | 0, _, _, _, _ => none
  | fuel + 1, S, v1, v2, v3 =>
    if (S.1 11) ≤ (S.1 12) then (some (.inr (S, v2, v3))) else (pbnd (f_X9_isLetterHere S) (fun r2 S_2 => if r2 = (0 : Int32) then (some (.inr (S_2, v2, v3))) else (if v3 = (4 : Int32) then (some (.inl (0, S_2))) else (pgd (pin (S_2.1 12) 80) (g_X9_readsName_4 fuel (pI S_2 12 ((S_2.1 12) + 1)) v1 ((((v2 * 27) + ((S_2.2 28) (S_2.1 12).toNatClampNeg)) - 97) + 1) (v3 + 1))))))
set_option maxRecDepth 100000 in
theorem l_X9_readsName_4 (l : Launch) (D : va_G) (dA : Nat → ClassId) (ad : Nat → Nat) (d : Nat) (hd : 2 ≤ d) {Q : Int32 → List PC → Prop} : ∀ (fuel : Nat) (S : PS) (v1 : Int32) (v2 : Int32) (v3 : Int32), pO (g_X9_readsName_4 fuel S v1 v2 v3) (fun y => match y with
    | .inl x => Q x.1 (hX x.2)
    | .inr w => Ev l D dA ad wsX9_readsName cX9_readsName RX9 4 (some .boolean) d 52 (pKi D dA ad 52 Q) 65 [(0, .ref 39), (1, .int v1), (2, .int w.2.1), (3, .int w.2.2)] [] (hX w.1)) → Ev l D dA ad wsX9_readsName cX9_readsName RX9 4 (some .boolean) d 52 (pKi D dA ad 52 Q) 4 [(0, .ref 39), (1, .int v1), (2, .int v2), (3, .int v3)] [] (hX S) := by
  intro fuel
  induction fuel with
  | zero =>
    intro S v1 v2 v3 hf
    exact hf.elim
  | succ fuel ih =>
    intro S v1 v2 v3 hf
    rw [g_X9_readsName_4] at hf
    refine E_aload_n dX9_readsName_4 rfl ?_
    refine E_getf (v := .int (S.1 12)) dX9_readsName_5 fl_X9_readsName_19 rfl rfl ?_
    refine E_aload_n dX9_readsName_8 rfl ?_
    refine E_getf (v := .int (S.1 11)) dX9_readsName_9 fl_X9_readsName_9 rfl rfl ?_
    refine E_icmp_ge (tgt := 65) dX9_readsName_12 (by decide) (fun c_1 => ?_) (fun c_1 => ?_)
    · have hf := pO_pos c_1 hf
      exact E_sub (ls' := [(0, .ref 39), (1, .int v1), (2, .int v2), (3, .int v3)]) ⟨rfl, rfl, rfl, rfl, trivial⟩ hf
    · have hf := pO_neg c_1 hf
      refine E_aload_n dX9_readsName_15 rfl ?_
      refine E_callVI (st := []) (c_X9_isLetterHere l D dA ad S (pO_bnd hf)) mf_X9_isLetterHere rfl rfl gX9_readsName_X9_isLetterHere (pRc.of (ci := 9) rfl rfl) (by omega) rfl (Nat.le_of_ble_eq_true rfl) (by rfl) dX9_readsName_16 (fun r2 h2 q2 => ?_)
      obtain ⟨S_2, rfl, hf⟩ := q2
      dsimp only at hf
      refine E_if_eq (tgt := 65) dX9_readsName_19 (by decide) (fun c_3 => ?_) (fun c_3 => ?_)
      · have hf := pO_pos c_3 hf
        exact E_sub (ls' := [(0, .ref 39), (1, .int v1), (2, .int v2), (3, .int v3)]) ⟨rfl, rfl, rfl, rfl, trivial⟩ hf
      · have hf := pO_neg c_3 hf
        refine E_iload_n dX9_readsName_22 rfl ?_
        refine E_iconst (v := 4) dX9_readsName_23 (by decide) ?_
        refine E_icmp_ne (tgt := 29) dX9_readsName_24 (by decide) (fun c_4 => ?_) (fun c_4 => ?_)
        · have hf := pO_neg c_4 hf
          refine E_iload_n dX9_readsName_29 rfl ?_
          refine E_bipush (v := 27) dX9_readsName_30 (by decide) ?_
          refine E_imul dX9_readsName_32 ?_
          refine E_aload_n dX9_readsName_33 rfl ?_
          refine E_getf (v := .ref 40) dX9_readsName_34 fl_X9_readsName_15 rfl rfl ?_
          refine E_aload_n dX9_readsName_37 rfl ?_
          refine E_getf (v := .int (S_2.1 12)) dX9_readsName_38 fl_X9_readsName_19 rfl rfl ?_
          obtain ⟨hi_5, hf⟩ := pO_gd hf
          refine E_bald (n0 := 80) (f := S_2.2 28) dX9_readsName_41 rfl (pin_in hi_5) ?_
          refine E_iadd dX9_readsName_42 ?_
          refine E_bipush (v := 97) dX9_readsName_43 (by decide) ?_
          refine E_isub dX9_readsName_45 ?_
          refine E_iconst (v := 1) dX9_readsName_46 (by decide) ?_
          refine E_iadd dX9_readsName_47 ?_
          refine E_istore_n (ls' := [(0, .ref 39), (1, .int v1), (2, .int ((((v2 * 27) + ((S_2.2 28) (S_2.1 12).toNatClampNeg)) - 97) + 1)), (3, .int v3)]) dX9_readsName_48 (by decide) rfl ?_
          refine E_iinc (v := v3 + 1) (ls' := [(0, .ref 39), (1, .int v1), (2, .int ((((v2 * 27) + ((S_2.2 28) (S_2.1 12).toNatClampNeg)) - 97) + 1)), (3, .int (v3 + 1))]) dX9_readsName_49 rfl rfl (by decide) rfl ?_
          refine E_aload_n dX9_readsName_52 rfl ?_
          refine E_dup dX9_readsName_53 rfl ?_
          refine E_getf (v := .int (S_2.1 12)) dX9_readsName_54 fl_X9_readsName_19 rfl rfl ?_
          refine E_iconst (v := 1) dX9_readsName_57 (by decide) ?_
          refine E_iadd dX9_readsName_58 ?_
          refine E_putf (h' := hX (pI S_2 12 ((S_2.1 12) + 1))) dX9_readsName_59 fl_X9_readsName_19 ft_9_2 rfl (Nat.lt_of_lt_of_eq (by decide : 2 < 5) rfl) rfl rfl ⟨_, rfl⟩ (sX_I12 S_2 ((S_2.1 12) + 1)) ?_
          refine E_goto (tgt := 4) dX9_readsName_62 (by decide) ?_
          exact E_sub (ls' := [(0, .ref 39), (1, .int v1), (2, .int ((((v2 * 27) + ((S_2.2 28) (S_2.1 12).toNatClampNeg)) - 97) + 1)), (3, .int (v3 + 1))]) ⟨rfl, rfl, rfl, rfl, trivial⟩ (ih (pI S_2 12 ((S_2.1 12) + 1)) v1 ((((v2 * 27) + ((S_2.2 28) (S_2.1 12).toNatClampNeg)) - 97) + 1) (v3 + 1) hf)
        · have hf := pO_pos c_4 hf
          refine E_iconst (v := 0) dX9_readsName_27 (by decide) ?_
          exact E_zret rfl dX9_readsName_28 (by decide) hf
theorem fl_X9_readsName_25 : pFL wsX9_readsName RX9 25 9 4 := ⟨RX9, TX9, 5, hi_X9_readsName_9, rfl, by decide, by decide +kernel⟩
theorem mf_X9_readsName : pMF yX9_readsName wsX9_readsName cX9_readsName 4 (some .boolean) 1 := ⟨⟨_, rfl⟩, by decide +kernel, by decide, by decide +kernel, by decide +kernel, by decide +kernel⟩
def f_X9_readsName (S : PS) (v1 : Int32) : Option (Int32 × PS) :=
  plp (g_X9_readsName_4 pfuel S v1 0 0) (fun w => (fun (S_6 : PS) (v2_6 : Int32) (v3_6 : Int32) => pgd (pin v1 6) (if v3_6 ≤ (0 : Int32) then (some (0, (pAr S_6 29 (upd (S_6.2 29) v1.toNatClampNeg v2_6)))) else (some (1, (pAr S_6 29 (upd (S_6.2 29) v1.toNatClampNeg v2_6)))))) w.1 w.2.1 w.2.2)
set_option maxRecDepth 100000 in
theorem c_X9_readsName (l : Launch) (D : va_G) (dA : Nat → ClassId) (ad : Nat → Nat) (S : PS) (v1 : Int32) {P : (Int32 × PS) → Prop} (hf : pO (f_X9_readsName S v1) P) : CtI l D dA ad yX9_readsName wsX9_readsName 2 [.ref 39, .int v1] (hX S) (fun r h' => ∃ S' : PS, h' = hX S' ∧ P (r, S')) := by
  refine CtI_of mf_X9_readsName rfl rfl (Nat.le_of_ble_eq_true rfl) rfl (hX_len S) ?_
  unfold f_X9_readsName at hf
  refine E_iconst (v := 0) dX9_readsName_0 (by decide) ?_
  refine E_istore_n (ls' := [(0, .ref 39), (1, .int v1), (2, .int 0)]) dX9_readsName_1 (by decide) rfl ?_
  refine E_iconst (v := 0) dX9_readsName_2 (by decide) ?_
  refine E_istore_n (ls' := [(0, .ref 39), (1, .int v1), (2, .int 0), (3, .int 0)]) dX9_readsName_3 (by decide) rfl ?_
  refine E_sub (ls' := [(0, .ref 39), (1, .int v1), (2, .int 0), (3, .int 0)]) ⟨rfl, rfl, rfl, rfl, trivial⟩ ?_
  refine l_X9_readsName_4 l D dA ad _ (by omega) pfuel S v1 0 0 (pO_lp hf (fun x hx => ⟨x.2, rfl, hx⟩) (fun w6 hf => ?_))
  obtain ⟨S_6, v2_6, v3_6⟩ := w6
  dsimp only at hf ⊢
  refine E_aload_n dX9_readsName_65 rfl ?_
  refine E_getf (v := .ref 41) dX9_readsName_66 fl_X9_readsName_25 rfl rfl ?_
  refine E_iload_n dX9_readsName_69 rfl ?_
  refine E_iload_n dX9_readsName_70 rfl ?_
  obtain ⟨hi_7, hf⟩ := pO_gd hf
  refine E_iast (n0 := 6) (f := S_6.2 29) (h' := hX (pAr S_6 29 (upd (S_6.2 29) v1.toNatClampNeg v2_6))) dX9_readsName_71 rfl (pin_in hi_7) (sX_A29 S_6 (upd (S_6.2 29) v1.toNatClampNeg v2_6)) ?_
  refine E_iload_n dX9_readsName_72 rfl ?_
  refine E_if_le (tgt := 80) dX9_readsName_73 (by decide) (fun c_8 => ?_) (fun c_8 => ?_)
  · have hf := pO_pos c_8 hf
    refine E_iconst (v := 0) dX9_readsName_80 (by decide) ?_
    exact E_zret rfl dX9_readsName_81 (by decide) ⟨_, rfl, hf⟩
  · have hf := pO_neg c_8 hf
    refine E_iconst (v := 1) dX9_readsName_76 (by decide) ?_
    refine E_goto (tgt := 81) dX9_readsName_77 (by decide) ?_
    exact E_zret rfl dX9_readsName_81 (by decide) ⟨_, rfl, hf⟩
theorem mf_X9_readsPart : pMF yX9_readsPart wsX9_readsPart cX9_readsPart 4 (some .boolean) 2 := ⟨⟨_, rfl⟩, by decide +kernel, by decide, by decide +kernel, by decide +kernel, by decide +kernel⟩
def f_X9_readsPart (S : PS) (v1 : Int32) (v2 : Int32) : Option (Int32 × PS) :=
  if v2 = (97 : Int32) then (pbnd (f_X9_readsName S v1) (fun r11 S_11 => pgd (pbit r11) (some (r11, S_11)))) else (if v2 = (45 : Int32) then (pbnd (f_X9_isHere S 45) (fun r5 S_5 => if r5 = (0 : Int32) then (pbnd (f_X9_readsNumber S_5 v1 1) (fun r7 S_7 => pgd (pbit r7) (some (r7, S_7)))) else (pbnd (f_X9_readsNumber (pI S_5 12 ((S_5.1 12) + 1)) v1 (-1)) (fun r9 S_9 => pgd (pbit r9) (some (r9, S_9)))))) else (pbnd (f_X9_readsNumber S v1 1) (fun r3 S_3 => pgd (pbit r3) (some (r3, S_3)))))
set_option maxRecDepth 100000 in
theorem c_X9_readsPart (l : Launch) (D : va_G) (dA : Nat → ClassId) (ad : Nat → Nat) (S : PS) (v1 : Int32) (v2 : Int32) {P : (Int32 × PS) → Prop} (hf : pO (f_X9_readsPart S v1 v2) P) : CtI l D dA ad yX9_readsPart wsX9_readsPart 3 [.ref 39, .int v1, .int v2] (hX S) (fun r h' => ∃ S' : PS, h' = hX S' ∧ P (r, S')) := by
  refine CtI_of mf_X9_readsPart rfl rfl (Nat.le_of_ble_eq_true rfl) rfl (hX_len S) ?_
  unfold f_X9_readsPart at hf
  refine E_iload_n dX9_readsPart_0 rfl ?_
  refine E_bipush (v := 97) dX9_readsPart_1 (by decide) ?_
  refine E_icmp_ne (tgt := 12) dX9_readsPart_3 (by decide) (fun c_1 => ?_) (fun c_1 => ?_)
  · have hf := pO_neg c_1 hf
    refine E_iload_n dX9_readsPart_12 rfl ?_
    refine E_bipush (v := 45) dX9_readsPart_13 (by decide) ?_
    refine E_icmp_ne (tgt := 31) dX9_readsPart_15 (by decide) (fun c_2 => ?_) (fun c_2 => ?_)
    · have hf := pO_neg c_2 hf
      refine E_iconst (v := 0) dX9_readsPart_31 (by decide) ?_
      refine E_istore_n (ls' := [(0, .ref 39), (1, .int v1), (2, .int v2), (3, .int 0)]) dX9_readsPart_32 (by decide) rfl ?_
      refine E_iload_n dX9_readsPart_33 rfl ?_
      refine E_if_eq (tgt := 47) dX9_readsPart_34 (by decide) (fun _ => ?_) (fun c => absurd c (by decide))
      refine E_aload_n dX9_readsPart_47 rfl ?_
      refine E_iload_n dX9_readsPart_48 rfl ?_
      refine E_iload_n dX9_readsPart_49 rfl ?_
      refine E_if_eq (tgt := 57) dX9_readsPart_50 (by decide) (fun _ => ?_) (fun c => absurd c (by decide))
      refine E_iconst (v := 1) dX9_readsPart_57 (by decide) ?_
      refine E_callVI (st := []) (c_X9_readsNumber l D dA ad S v1 1 (pO_bnd hf)) mf_X9_readsNumber rfl rfl gX9_readsPart_X9_readsNumber (pRc.of (ci := 9) rfl rfl) (by omega) rfl (Nat.le_of_ble_eq_true rfl) (by rfl) dX9_readsPart_58 (fun r3 h3 q3 => ?_)
      obtain ⟨S_3, rfl, hf⟩ := q3
      dsimp only at hf
      obtain ⟨hn_4, hf⟩ := pO_gd hf
      exact E_zret rfl dX9_readsPart_61 (pbit_n hn_4) ⟨_, rfl, hf⟩
    · have hf := pO_pos c_2 hf
      refine E_aload_n dX9_readsPart_18 rfl ?_
      refine E_bipush (v := 45) dX9_readsPart_19 (by decide) ?_
      refine E_callVI (st := []) (c_X9_isHere l D dA ad S 45 (pO_bnd hf)) mf_X9_isHere rfl rfl gX9_readsPart_X9_isHere (pRc.of (ci := 9) rfl rfl) (by omega) rfl (Nat.le_of_ble_eq_true rfl) (by rfl) dX9_readsPart_21 (fun r5 h5 q5 => ?_)
      obtain ⟨S_5, rfl, hf⟩ := q5
      dsimp only at hf
      refine E_if_eq (tgt := 31) dX9_readsPart_24 (by decide) (fun c_6 => ?_) (fun c_6 => ?_)
      · have hf := pO_pos c_6 hf
        refine E_iconst (v := 0) dX9_readsPart_31 (by decide) ?_
        refine E_istore_n (ls' := [(0, .ref 39), (1, .int v1), (2, .int v2), (3, .int 0)]) dX9_readsPart_32 (by decide) rfl ?_
        refine E_iload_n dX9_readsPart_33 rfl ?_
        refine E_if_eq (tgt := 47) dX9_readsPart_34 (by decide) (fun _ => ?_) (fun c => absurd c (by decide))
        refine E_aload_n dX9_readsPart_47 rfl ?_
        refine E_iload_n dX9_readsPart_48 rfl ?_
        refine E_iload_n dX9_readsPart_49 rfl ?_
        refine E_if_eq (tgt := 57) dX9_readsPart_50 (by decide) (fun _ => ?_) (fun c => absurd c (by decide))
        refine E_iconst (v := 1) dX9_readsPart_57 (by decide) ?_
        refine E_callVI (st := []) (c_X9_readsNumber l D dA ad S_5 v1 1 (pO_bnd hf)) mf_X9_readsNumber rfl rfl gX9_readsPart_X9_readsNumber (pRc.of (ci := 9) rfl rfl) (by omega) rfl (Nat.le_of_ble_eq_true rfl) (by rfl) dX9_readsPart_58 (fun r7 h7 q7 => ?_)
        obtain ⟨S_7, rfl, hf⟩ := q7
        dsimp only at hf
        obtain ⟨hn_8, hf⟩ := pO_gd hf
        exact E_zret rfl dX9_readsPart_61 (pbit_n hn_8) ⟨_, rfl, hf⟩
      · have hf := pO_neg c_6 hf
        refine E_iconst (v := 1) dX9_readsPart_27 (by decide) ?_
        refine E_goto (tgt := 32) dX9_readsPart_28 (by decide) ?_
        refine E_istore_n (ls' := [(0, .ref 39), (1, .int v1), (2, .int v2), (3, .int 1)]) dX9_readsPart_32 (by decide) rfl ?_
        refine E_iload_n dX9_readsPart_33 rfl ?_
        refine E_if_eq (tgt := 47) dX9_readsPart_34 (by decide) (fun c => absurd c (by decide)) (fun _ => ?_)
        refine E_aload_n dX9_readsPart_37 rfl ?_
        refine E_dup dX9_readsPart_38 rfl ?_
        refine E_getf (v := .int (S_5.1 12)) dX9_readsPart_39 fl_X9_readsPart_19 rfl rfl ?_
        refine E_iconst (v := 1) dX9_readsPart_42 (by decide) ?_
        refine E_iadd dX9_readsPart_43 ?_
        refine E_putf (h' := hX (pI S_5 12 ((S_5.1 12) + 1))) dX9_readsPart_44 fl_X9_readsPart_19 ft_9_2 rfl (Nat.lt_of_lt_of_eq (by decide : 2 < 5) rfl) rfl rfl ⟨_, rfl⟩ (sX_I12 S_5 ((S_5.1 12) + 1)) ?_
        refine E_aload_n dX9_readsPart_47 rfl ?_
        refine E_iload_n dX9_readsPart_48 rfl ?_
        refine E_iload_n dX9_readsPart_49 rfl ?_
        refine E_if_eq (tgt := 57) dX9_readsPart_50 (by decide) (fun c => absurd c (by decide)) (fun _ => ?_)
        refine E_iconst (v := (-1)) dX9_readsPart_53 (by decide) ?_
        refine E_goto (tgt := 58) dX9_readsPart_54 (by decide) ?_
        refine E_callVI (st := []) (c_X9_readsNumber l D dA ad (pI S_5 12 ((S_5.1 12) + 1)) v1 (-1) (pO_bnd hf)) mf_X9_readsNumber rfl rfl gX9_readsPart_X9_readsNumber (pRc.of (ci := 9) rfl rfl) (by omega) rfl (Nat.le_of_ble_eq_true rfl) (by rfl) dX9_readsPart_58 (fun r9 h9 q9 => ?_)
        obtain ⟨S_9, rfl, hf⟩ := q9
        dsimp only at hf
        obtain ⟨hn_10, hf⟩ := pO_gd hf
        exact E_zret rfl dX9_readsPart_61 (pbit_n hn_10) ⟨_, rfl, hf⟩
  · have hf := pO_pos c_1 hf
    refine E_aload_n dX9_readsPart_6 rfl ?_
    refine E_iload_n dX9_readsPart_7 rfl ?_
    refine E_callVI (st := []) (c_X9_readsName l D dA ad S v1 (pO_bnd hf)) mf_X9_readsName rfl rfl gX9_readsPart_X9_readsName (pRc.of (ci := 9) rfl rfl) (by omega) rfl (Nat.le_of_ble_eq_true rfl) (by rfl) dX9_readsPart_8 (fun r11 h11 q11 => ?_)
    obtain ⟨S_11, rfl, hf⟩ := q11
    dsimp only at hf
    obtain ⟨hn_12, hf⟩ := pO_gd hf
    exact E_zret rfl dX9_readsPart_11 (pbit_n hn_12) ⟨_, rfl, hf⟩
def g_X9_readsAct_19 (i : Nat) : Nat → PS → Int32 → Option ((Int32 × PS) ⊕ (PS))
  | 0, _, _ => none
  | fuel + 1, S, v2 =>
    if (nI (pLen.getD i 0)) ≤ v2 then (some (.inr (S))) else (if (6 : Int32) ≤ v2 then (some (.inr (S))) else (pbnd (f_X9_isHere S 32) (fun r7 S_7 => if r7 = (0 : Int32) then (some (.inl (0, S_7))) else (pgd (pin v2 (pLen.getD i 0)) (pbnd (f_X9_readsPart (pI S_7 12 ((S_7.1 12) + 1)) v2 (pch i v2.toNatClampNeg)) (fun r11 S_11 => if r11 = (0 : Int32) then (some (.inl (0, S_11))) else (g_X9_readsAct_19 i fuel S_11 (v2 + 1))))))))
set_option maxRecDepth 100000 in
theorem l_X9_readsAct_19 (l : Launch) (D : va_G) (dA : Nat → ClassId) (ad : Nat → Nat) (i : Nat) (hi : i < 11) (d : Nat) (hd : 7 ≤ d) {Q : Int32 → List PC → Prop} : ∀ (fuel : Nat) (S : PS) (v2 : Int32), pO (g_X9_readsAct_19 i fuel S v2) (fun y => match y with
    | .inl x => Q x.1 (hX x.2)
    | .inr w => Ev l D dA ad wsX9_readsAct cX9_readsAct RX9 3 (some .boolean) d 52 (pKi D dA ad 52 Q) 78 [] [] (hX w)) → Ev l D dA ad wsX9_readsAct cX9_readsAct RX9 3 (some .boolean) d 52 (pKi D dA ad 52 Q) 19 [(0, .ref 39), (1, .ref (i + 1000)), (2, .int v2)] [] (hX S) := by
  intro fuel
  induction fuel with
  | zero =>
    intro S v2 hf
    exact hf.elim
  | succ fuel ih =>
    intro S v2 hf
    rw [g_X9_readsAct_19] at hf
    refine E_iload_n dX9_readsAct_19 rfl ?_
    refine E_aload_n dX9_readsAct_20 rfl ?_
    refine E_callVI (st := [.int v2]) (c_J0_length_8abf5 l D dA ad (i := i) hi (hX S)) mf_J0_length_8abf5 rfl rfl gX9_readsAct_J0_length_8abf5 (Or.inr ⟨i, hi, rfl, rfl⟩) (by omega) rfl (Nat.le_of_ble_eq_true rfl) (by rfl) dX9_readsAct_21 (fun r4 h4 q4 => ?_)
    obtain ⟨rfl, rfl⟩ := q4
    refine E_icmp_ge (tgt := 78) dX9_readsAct_24 (by decide) (fun c_5 => ?_) (fun c_5 => ?_)
    · have hf := pO_pos c_5 hf
      exact E_sub (ls' := []) trivial hf
    · have hf := pO_neg c_5 hf
      refine E_iload_n dX9_readsAct_27 rfl ?_
      refine E_aload_n dX9_readsAct_28 rfl ?_
      refine E_getf (v := .ref 41) dX9_readsAct_29 fl_X9_readsAct_25 rfl rfl ?_
      refine E_alen dX9_readsAct_32 rfl (by decide) ?_
      refine E_val (y := 6) rfl ?_
      refine E_icmp_ge (tgt := 78) dX9_readsAct_33 (by decide) (fun c_6 => ?_) (fun c_6 => ?_)
      · have hf := pO_pos c_6 hf
        exact E_sub (ls' := []) trivial hf
      · have hf := pO_neg c_6 hf
        refine E_aload_n dX9_readsAct_36 rfl ?_
        refine E_bipush (v := 32) dX9_readsAct_37 (by decide) ?_
        refine E_callVI (st := []) (c_X9_isHere l D dA ad S 32 (pO_bnd hf)) mf_X9_isHere rfl rfl gX9_readsAct_X9_isHere (pRc.of (ci := 9) rfl rfl) (by omega) rfl (Nat.le_of_ble_eq_true rfl) (by rfl) dX9_readsAct_39 (fun r7 h7 q7 => ?_)
        obtain ⟨S_7, rfl, hf⟩ := q7
        dsimp only at hf
        refine E_if_ne (tgt := 47) dX9_readsAct_42 (by decide) (fun c_8 => ?_) (fun c_8 => ?_)
        · have hf := pO_neg c_8 hf
          refine E_aload_n dX9_readsAct_47 rfl ?_
          refine E_dup dX9_readsAct_48 rfl ?_
          refine E_getf (v := .int (S_7.1 12)) dX9_readsAct_49 fl_X9_readsAct_19 rfl rfl ?_
          refine E_iconst (v := 1) dX9_readsAct_52 (by decide) ?_
          refine E_iadd dX9_readsAct_53 ?_
          refine E_putf (h' := hX (pI S_7 12 ((S_7.1 12) + 1))) dX9_readsAct_54 fl_X9_readsAct_19 ft_9_2 rfl (Nat.lt_of_lt_of_eq (by decide : 2 < 5) rfl) rfl rfl ⟨_, rfl⟩ (sX_I12 S_7 ((S_7.1 12) + 1)) ?_
          refine E_aload_n dX9_readsAct_57 rfl ?_
          refine E_iload_n dX9_readsAct_58 rfl ?_
          refine E_aload_n dX9_readsAct_59 rfl ?_
          refine E_iload_n dX9_readsAct_60 rfl ?_
          obtain ⟨hi_10, hf⟩ := pO_gd hf
          refine E_callVI (st := [.int v2, .ref 39]) (c_J0_charAt_5068e l D dA ad (i := i) hi (hX (pI S_7 12 ((S_7.1 12) + 1))) v2 (pin_in hi_10)) mf_J0_charAt_5068e rfl rfl gX9_readsAct_J0_charAt_5068e (Or.inr ⟨i, hi, rfl, rfl⟩) (by omega) rfl (Nat.le_of_ble_eq_true rfl) (by rfl) dX9_readsAct_61 (fun r9 h9 q9 => ?_)
          obtain ⟨rfl, rfl⟩ := q9
          refine E_callVI (st := []) (c_X9_readsPart l D dA ad (pI S_7 12 ((S_7.1 12) + 1)) v2 (pch i v2.toNatClampNeg) (pO_bnd hf)) mf_X9_readsPart rfl rfl gX9_readsAct_X9_readsPart (pRc.of (ci := 9) rfl rfl) (by omega) rfl (Nat.le_of_ble_eq_true rfl) (by rfl) dX9_readsAct_64 (fun r11 h11 q11 => ?_)
          obtain ⟨S_11, rfl, hf⟩ := q11
          dsimp only at hf
          refine E_if_ne (tgt := 72) dX9_readsAct_67 (by decide) (fun c_12 => ?_) (fun c_12 => ?_)
          · have hf := pO_neg c_12 hf
            refine E_iinc (v := v2 + 1) (ls' := [(0, .ref 39), (1, .ref (i + 1000)), (2, .int (v2 + 1))]) dX9_readsAct_72 rfl rfl (by decide) rfl ?_
            refine E_goto (tgt := 19) dX9_readsAct_75 (by decide) ?_
            exact E_sub (ls' := [(0, .ref 39), (1, .ref (i + 1000)), (2, .int (v2 + 1))]) ⟨rfl, rfl, rfl, trivial⟩ (ih S_11 (v2 + 1) hf)
          · have hf := pO_pos c_12 hf
            refine E_iconst (v := 0) dX9_readsAct_70 (by decide) ?_
            exact E_zret rfl dX9_readsAct_71 (by decide) hf
        · have hf := pO_pos c_8 hf
          refine E_iconst (v := 0) dX9_readsAct_45 (by decide) ?_
          exact E_zret rfl dX9_readsAct_46 (by decide) hf
theorem mf_X9_readsAct : pMF yX9_readsAct wsX9_readsAct cX9_readsAct 3 (some .boolean) 0 := ⟨⟨_, rfl⟩, by decide +kernel, by decide, by decide +kernel, by decide +kernel, by decide +kernel⟩
def f_X9_readsAct (S : PS) : Option (Int32 × PS) :=
  pbnd (f_X9_readsWord S) (fun r1 S_1 => if r1 = (0 : Int32) then (some (0, S_1)) else (pbnd (f_X9_shapeOf S_1 (S_1.1 13)) (fun r3 S_3 => pstr r3 (fun i3 => plp (g_X9_readsAct_19 i3 pfuel S_3 0) (fun (S_13 : PS) => some (1, S_13))))))
set_option maxRecDepth 100000 in
theorem c_X9_readsAct (l : Launch) (D : va_G) (dA : Nat → ClassId) (ad : Nat → Nat) (S : PS) {P : (Int32 × PS) → Prop} (hf : pO (f_X9_readsAct S) P) : CtI l D dA ad yX9_readsAct wsX9_readsAct 7 [.ref 39] (hX S) (fun r h' => ∃ S' : PS, h' = hX S' ∧ P (r, S')) := by
  refine CtI_of mf_X9_readsAct rfl rfl (Nat.le_of_ble_eq_true rfl) rfl (hX_len S) ?_
  unfold f_X9_readsAct at hf
  refine E_aload_n dX9_readsAct_0 rfl ?_
  refine E_callVI (st := []) (c_X9_readsWord l D dA ad S (pO_bnd hf)) mf_X9_readsWord rfl rfl gX9_readsAct_X9_readsWord (pRc.of (ci := 9) rfl rfl) (by omega) rfl (Nat.le_of_ble_eq_true rfl) (by rfl) dX9_readsAct_1 (fun r1 h1 q1 => ?_)
  obtain ⟨S_1, rfl, hf⟩ := q1
  dsimp only at hf
  refine E_if_ne (tgt := 9) dX9_readsAct_4 (by decide) (fun c_2 => ?_) (fun c_2 => ?_)
  · have hf := pO_neg c_2 hf
    refine E_aload_n dX9_readsAct_9 rfl ?_
    refine E_getf (v := .int (S_1.1 13)) dX9_readsAct_10 fl_X9_readsAct_22 rfl rfl ?_
    refine E_callSR (st := []) (c_X9_shapeOf l D dA ad S_1 (S_1.1 13) (pO_bnd hf)) mf_X9_shapeOf rfl gX9_readsAct_X9_shapeOf (by omega) rfl (Nat.le_of_ble_eq_true rfl) (by rfl) dX9_readsAct_13 (fun r3 h3 q3 => ?_)
    obtain ⟨S_3, rfl, hf⟩ := q3
    dsimp only at hf
    obtain ⟨i3, hi3, ez3, hz3⟩ := pO_str hf
    clear hf
    subst ez3
    have hf := hz3
    refine E_astore_n (ls' := [(0, .ref 39), (1, .ref (i3 + 1000))]) dX9_readsAct_16 (by decide) rfl ?_
    refine E_iconst (v := 0) dX9_readsAct_17 (by decide) ?_
    refine E_istore_n (ls' := [(0, .ref 39), (1, .ref (i3 + 1000)), (2, .int 0)]) dX9_readsAct_18 (by decide) rfl ?_
    refine E_sub (ls' := [(0, .ref 39), (1, .ref (i3 + 1000)), (2, .int 0)]) ⟨rfl, rfl, rfl, trivial⟩ ?_
    refine l_X9_readsAct_19 l D dA ad i3 hi3 _ (by omega) pfuel S_3 0 (pO_lp hf (fun x hx => ⟨x.2, rfl, hx⟩) (fun w13 hf => ?_))
    obtain ⟨S_13, rfl⟩ : ∃ z, z = w13 := ⟨_, rfl⟩
    dsimp only at hf ⊢
    refine E_iconst (v := 1) dX9_readsAct_78 (by decide) ?_
    exact E_zret rfl dX9_readsAct_79 (by decide) ⟨_, rfl, hf⟩
  · have hf := pO_pos c_2 hf
    refine E_iconst (v := 0) dX9_readsAct_7 (by decide) ?_
    exact E_zret rfl dX9_readsAct_8 (by decide) ⟨_, rfl, hf⟩
theorem mf_X9_isPartedHere : pMF yX9_isPartedHere wsX9_isPartedHere cX9_isPartedHere 1 (some .boolean) 0 := ⟨⟨_, rfl⟩, by decide +kernel, by decide, by decide +kernel, by decide +kernel, by decide +kernel⟩
def f_X9_isPartedHere (S : PS) : Option (Int32 × PS) :=
  pbnd (f_X9_isHere S 59) (fun r1 S_1 => pgd (pbit r1) (some (r1, S_1)))
set_option maxRecDepth 100000 in
theorem c_X9_isPartedHere (l : Launch) (D : va_G) (dA : Nat → ClassId) (ad : Nat → Nat) (S : PS) {P : (Int32 × PS) → Prop} (hf : pO (f_X9_isPartedHere S) P) : CtI l D dA ad yX9_isPartedHere wsX9_isPartedHere 2 [.ref 39] (hX S) (fun r h' => ∃ S' : PS, h' = hX S' ∧ P (r, S')) := by
  refine CtI_of mf_X9_isPartedHere rfl rfl (Nat.le_of_ble_eq_true rfl) rfl (hX_len S) ?_
  unfold f_X9_isPartedHere at hf
  refine E_aload_n dX9_isPartedHere_0 rfl ?_
  refine E_bipush (v := 59) dX9_isPartedHere_1 (by decide) ?_
  refine E_callVI (st := []) (c_X9_isHere l D dA ad S 59 (pO_bnd hf)) mf_X9_isHere rfl rfl gX9_isPartedHere_X9_isHere (pRc.of (ci := 9) rfl rfl) (by omega) rfl (Nat.le_of_ble_eq_true rfl) (by rfl) dX9_isPartedHere_3 (fun r1 h1 q1 => ?_)
  obtain ⟨S_1, rfl, hf⟩ := q1
  dsimp only at hf
  obtain ⟨hn_2, hf⟩ := pO_gd hf
  exact E_zret rfl dX9_isPartedHere_6 (pbit_n hn_2) ⟨_, rfl, hf⟩
def g_X9_findFault_7 : Nat → PS → Int32 → Option ((Int32 × PS) ⊕ (PS))
  | 0, _, _ => none
  | fuel + 1, S, v1 =>
    if (S.1 11) < v1 then (some (.inr (S))) else (pbnd (f_X9_readsAct S) (fun r2 S_2 => if r2 = (0 : Int32) then (some (.inl (S_2.1 12, S_2))) else (if (S_2.1 12) < (S_2.1 11) then (pbnd (f_X9_isPartedHere S_2) (fun r5 S_5 => if r5 = (0 : Int32) then (some (.inl (S_5.1 12, S_5))) else (g_X9_findFault_7 fuel (pI S_5 12 ((S_5.1 12) + 1)) (v1 + 1)))) else (some (.inl ((-1), S_2))))))
set_option maxRecDepth 100000 in
theorem l_X9_findFault_7 (l : Launch) (D : va_G) (dA : Nat → ClassId) (ad : Nat → Nat) (d : Nat) (hd : 8 ≤ d) {Q : Int32 → List PC → Prop} : ∀ (fuel : Nat) (S : PS) (v1 : Int32), pO (g_X9_findFault_7 fuel S v1) (fun y => match y with
    | .inl x => Q x.1 (hX x.2)
    | .inr w => Ev l D dA ad wsX9_findFault cX9_findFault RX9 2 (some .int) d 52 (pKi D dA ad 52 Q) 68 [(0, .ref 39)] [] (hX w)) → Ev l D dA ad wsX9_findFault cX9_findFault RX9 2 (some .int) d 52 (pKi D dA ad 52 Q) 7 [(0, .ref 39), (1, .int v1)] [] (hX S) := by
  intro fuel
  induction fuel with
  | zero =>
    intro S v1 hf
    exact hf.elim
  | succ fuel ih =>
    intro S v1 hf
    rw [g_X9_findFault_7] at hf
    refine E_iload_n dX9_findFault_7 rfl ?_
    refine E_aload_n dX9_findFault_8 rfl ?_
    refine E_getf (v := .int (S.1 11)) dX9_findFault_9 fl_X9_findFault_9 rfl rfl ?_
    refine E_icmp_gt (tgt := 68) dX9_findFault_12 (by decide) (fun c_1 => ?_) (fun c_1 => ?_)
    · have hf := pO_pos c_1 hf
      exact E_sub (ls' := [(0, .ref 39)]) ⟨rfl, trivial⟩ hf
    · have hf := pO_neg c_1 hf
      refine E_aload_n dX9_findFault_15 rfl ?_
      refine E_callVI (st := []) (c_X9_readsAct l D dA ad S (pO_bnd hf)) mf_X9_readsAct rfl rfl gX9_findFault_X9_readsAct (pRc.of (ci := 9) rfl rfl) (by omega) rfl (Nat.le_of_ble_eq_true rfl) (by rfl) dX9_findFault_16 (fun r2 h2 q2 => ?_)
      obtain ⟨S_2, rfl, hf⟩ := q2
      dsimp only at hf
      refine E_if_ne (tgt := 27) dX9_findFault_19 (by decide) (fun c_3 => ?_) (fun c_3 => ?_)
      · have hf := pO_neg c_3 hf
        refine E_aload_n dX9_findFault_27 rfl ?_
        refine E_getf (v := .int (S_2.1 12)) dX9_findFault_28 fl_X9_findFault_19 rfl rfl ?_
        refine E_aload_n dX9_findFault_31 rfl ?_
        refine E_getf (v := .int (S_2.1 11)) dX9_findFault_32 fl_X9_findFault_9 rfl rfl ?_
        refine E_icmp_lt (tgt := 40) dX9_findFault_35 (by decide) (fun c_4 => ?_) (fun c_4 => ?_)
        · have hf := pO_pos c_4 hf
          refine E_aload_n dX9_findFault_40 rfl ?_
          refine E_callVI (st := []) (c_X9_isPartedHere l D dA ad S_2 (pO_bnd hf)) mf_X9_isPartedHere rfl rfl gX9_findFault_X9_isPartedHere (pRc.of (ci := 9) rfl rfl) (by omega) rfl (Nat.le_of_ble_eq_true rfl) (by rfl) dX9_findFault_41 (fun r5 h5 q5 => ?_)
          obtain ⟨S_5, rfl, hf⟩ := q5
          dsimp only at hf
          refine E_if_ne (tgt := 52) dX9_findFault_44 (by decide) (fun c_6 => ?_) (fun c_6 => ?_)
          · have hf := pO_neg c_6 hf
            refine E_aload_n dX9_findFault_52 rfl ?_
            refine E_dup dX9_findFault_53 rfl ?_
            refine E_getf (v := .int (S_5.1 12)) dX9_findFault_54 fl_X9_findFault_19 rfl rfl ?_
            refine E_iconst (v := 1) dX9_findFault_57 (by decide) ?_
            refine E_iadd dX9_findFault_58 ?_
            refine E_putf (h' := hX (pI S_5 12 ((S_5.1 12) + 1))) dX9_findFault_59 fl_X9_findFault_19 ft_9_2 rfl (Nat.lt_of_lt_of_eq (by decide : 2 < 5) rfl) rfl rfl ⟨_, rfl⟩ (sX_I12 S_5 ((S_5.1 12) + 1)) ?_
            refine E_iinc (v := v1 + 1) (ls' := [(0, .ref 39), (1, .int (v1 + 1))]) dX9_findFault_62 rfl rfl (by decide) rfl ?_
            refine E_goto (tgt := 7) dX9_findFault_65 (by decide) ?_
            exact E_sub (ls' := [(0, .ref 39), (1, .int (v1 + 1))]) ⟨rfl, rfl, trivial⟩ (ih (pI S_5 12 ((S_5.1 12) + 1)) (v1 + 1) hf)
          · have hf := pO_pos c_6 hf
            refine E_aload_n dX9_findFault_47 rfl ?_
            refine E_getf (v := .int (S_5.1 12)) dX9_findFault_48 fl_X9_findFault_19 rfl rfl ?_
            exact E_iret rfl dX9_findFault_51 hf
        · have hf := pO_neg c_4 hf
          refine E_iconst (v := (-1)) dX9_findFault_38 (by decide) ?_
          exact E_iret rfl dX9_findFault_39 hf
      · have hf := pO_pos c_3 hf
        refine E_aload_n dX9_findFault_22 rfl ?_
        refine E_getf (v := .int (S_2.1 12)) dX9_findFault_23 fl_X9_findFault_19 rfl rfl ?_
        exact E_iret rfl dX9_findFault_26 hf
theorem mf_X9_findFault : pMF yX9_findFault wsX9_findFault cX9_findFault 2 (some .int) 0 := ⟨⟨_, rfl⟩, by decide +kernel, by decide, by decide +kernel, by decide +kernel, by decide +kernel⟩
def f_X9_findFault (S : PS) : Option (Int32 × PS) :=
  plp (g_X9_findFault_7 pfuel (pI S 12 0) 0) (fun (S_7 : PS) => some (S_7.1 12, S_7))
set_option maxRecDepth 100000 in
theorem c_X9_findFault (l : Launch) (D : va_G) (dA : Nat → ClassId) (ad : Nat → Nat) (S : PS) {P : (Int32 × PS) → Prop} (hf : pO (f_X9_findFault S) P) : CtI l D dA ad yX9_findFault wsX9_findFault 8 [.ref 39] (hX S) (fun r h' => ∃ S' : PS, h' = hX S' ∧ P (r, S')) := by
  refine CtI_of mf_X9_findFault rfl rfl (Nat.le_of_ble_eq_true rfl) rfl (hX_len S) ?_
  unfold f_X9_findFault at hf
  refine E_aload_n dX9_findFault_0 rfl ?_
  refine E_iconst (v := 0) dX9_findFault_1 (by decide) ?_
  refine E_putf (h' := hX (pI S 12 0)) dX9_findFault_2 fl_X9_findFault_19 ft_9_2 rfl (Nat.lt_of_lt_of_eq (by decide : 2 < 5) rfl) rfl rfl ⟨_, rfl⟩ (sX_I12 S 0) ?_
  refine E_iconst (v := 0) dX9_findFault_5 (by decide) ?_
  refine E_istore_n (ls' := [(0, .ref 39), (1, .int 0)]) dX9_findFault_6 (by decide) rfl ?_
  refine E_sub (ls' := [(0, .ref 39), (1, .int 0)]) ⟨rfl, rfl, trivial⟩ ?_
  refine l_X9_findFault_7 l D dA ad _ (by omega) pfuel (pI S 12 0) 0 (pO_lp hf (fun x hx => ⟨x.2, rfl, hx⟩) (fun w7 hf => ?_))
  obtain ⟨S_7, rfl⟩ : ∃ z, z = w7 := ⟨_, rfl⟩
  dsimp only at hf ⊢
  refine E_aload_n dX9_findFault_68 rfl ?_
  refine E_getf (v := .int (S_7.1 12)) dX9_findFault_69 fl_X9_findFault_19 rfl rfl ?_
  exact E_iret rfl dX9_findFault_72 ⟨_, rfl, hf⟩
theorem hi_X11_doAllActs_11 : ∀ w ∈ u_ws RX11 TX11 10, w ∈ wsX11_doAllActs := fun w h => of_decide_eq_true (List.all_eq_true.mp (by decide +kernel : (u_ws RX11 TX11 10).all (fun w => decide (w ∈ wsX11_doAllActs)) = true) w h)
theorem fl_X11_doAllActs_35 : pFL wsX11_doAllActs RX11 35 11 4 := ⟨RX11, TX11, 10, hi_X11_doAllActs_11, rfl, by decide, by decide +kernel⟩
theorem hi_X11_doAllActs_9 : ∀ w ∈ u_ws RX9 TX9 5, w ∈ wsX11_doAllActs := fun w h => of_decide_eq_true (List.all_eq_true.mp (by decide +kernel : (u_ws RX9 TX9 5).all (fun w => decide (w ∈ wsX11_doAllActs)) = true) w h)
theorem fl_X11_doAllActs_332 : pFL wsX11_doAllActs RX11 332 9 2 := ⟨RX9, TX9, 5, hi_X11_doAllActs_9, rfl, by decide, by decide +kernel⟩
theorem fl_X11_doAllActs_321 : pFL wsX11_doAllActs RX11 321 9 0 := ⟨RX9, TX9, 5, hi_X11_doAllActs_9, rfl, by decide, by decide +kernel⟩
theorem hi_X11_doAct_11 : ∀ w ∈ u_ws RX11 TX11 10, w ∈ wsX11_doAct := fun w h => of_decide_eq_true (List.all_eq_true.mp (by decide +kernel : (u_ws RX11 TX11 10).all (fun w => decide (w ∈ wsX11_doAct)) = true) w h)
theorem fl_X11_doAct_35 : pFL wsX11_doAct RX11 35 11 4 := ⟨RX11, TX11, 10, hi_X11_doAct_11, rfl, by decide, by decide +kernel⟩
theorem hi_X11_doAct_9 : ∀ w ∈ u_ws RX9 TX9 5, w ∈ wsX11_doAct := fun w h => of_decide_eq_true (List.all_eq_true.mp (by decide +kernel : (u_ws RX9 TX9 5).all (fun w => decide (w ∈ wsX11_doAct)) = true) w h)
theorem fl_X11_doAct_345 : pFL wsX11_doAct RX11 345 9 4 := ⟨RX9, TX9, 5, hi_X11_doAct_9, rfl, by decide, by decide +kernel⟩
theorem fl_X11_doAct_348 : pFL wsX11_doAct RX11 348 9 3 := ⟨RX9, TX9, 5, hi_X11_doAct_9, rfl, by decide, by decide +kernel⟩
theorem mf_X11_doAct : pMF yX11_doAct wsX11_doAct cX11_doAct 2 (some .int) 0 := ⟨⟨_, rfl⟩, by decide +kernel, by decide, by decide +kernel, by decide +kernel, by decide +kernel⟩
def f_X11_doAct (S : PS) : Option (Int32 × PS) :=
  if (S.1 13) = (0 : Int32) then (pbnd (f_X11_put S ((S.2 29) 0) ((S.2 29) 1) ((S.2 29) 2) ((S.2 29) 3) ((S.2 29) 4) ((S.2 29) 5)) (fun r2 S_2 => some (r2, S_2))) else (if (S.1 13) = (1 : Int32) then (pbnd (f_X11_move S ((S.2 29) 0) ((S.2 29) 1) ((S.2 29) 2)) (fun r4 S_4 => some (r4, S_4))) else (if (S.1 13) = (2 : Int32) then (pbnd (f_X11_take S ((S.2 29) 0)) (fun r6 S_6 => some (r6, S_6))) else (if (S.1 13) = (3 : Int32) then (pbnd (f_X11_fill S ((S.2 29) 0) ((S.2 29) 1)) (fun r8 S_8 => some (r8, S_8))) else (pbnd (f_X11_set S 2 ((S.2 29) 0)) (fun r9 S_9 => some (r9, S_9))))))
set_option maxRecDepth 100000 in
theorem c_X11_doAct (l : Launch) (D : va_G) (dA : Nat → ClassId) (ad : Nat → Nat) (S : PS) {P : (Int32 × PS) → Prop} (hf : pO (f_X11_doAct S) P) : CtI l D dA ad yX11_doAct wsX11_doAct 4 [.ref 0] (hX S) (fun r h' => ∃ S' : PS, h' = hX S' ∧ P (r, S')) := by
  refine CtI_of mf_X11_doAct rfl rfl (Nat.le_of_ble_eq_true rfl) rfl (hX_len S) ?_
  unfold f_X11_doAct at hf
  refine E_aload_n dX11_doAct_0 rfl ?_
  refine E_getf (v := .ref 39) dX11_doAct_1 fl_X11_doAct_35 rfl rfl ?_
  refine E_getf (v := .ref 41) dX11_doAct_4 fl_X11_doAct_345 rfl rfl ?_
  refine E_astore_n (ls' := [(0, .ref 0), (1, .ref 41)]) dX11_doAct_7 (by decide) rfl ?_
  refine E_aload_n dX11_doAct_8 rfl ?_
  refine E_getf (v := .ref 39) dX11_doAct_9 fl_X11_doAct_35 rfl rfl ?_
  refine E_getf (v := .int (S.1 13)) dX11_doAct_12 fl_X11_doAct_348 rfl rfl ?_
  by_cases k_1 : (S.1 13) = (0 : Int32)
  · have hf := pO_pos k_1 hf
    refine E_tableIn (off := 29) (tgt := 44) dX11_doAct_15 (by rw [k_1]; decide) (by rw [k_1]; decide) (by rw [k_1]; rfl) (by decide) ?_
    refine E_aload_n dX11_doAct_44 rfl ?_
    refine E_aload_n dX11_doAct_45 rfl ?_
    refine E_iconst (v := 0) dX11_doAct_46 (by decide) ?_
    refine E_iald (n0 := 6) (f := S.2 29) dX11_doAct_47 rfl (pin_in (by decide)) ?_
    refine E_val (y := (S.2 29) 0) rfl ?_
    refine E_aload_n dX11_doAct_48 rfl ?_
    refine E_iconst (v := 1) dX11_doAct_49 (by decide) ?_
    refine E_iald (n0 := 6) (f := S.2 29) dX11_doAct_50 rfl (pin_in (by decide)) ?_
    refine E_val (y := (S.2 29) 1) rfl ?_
    refine E_aload_n dX11_doAct_51 rfl ?_
    refine E_iconst (v := 2) dX11_doAct_52 (by decide) ?_
    refine E_iald (n0 := 6) (f := S.2 29) dX11_doAct_53 rfl (pin_in (by decide)) ?_
    refine E_val (y := (S.2 29) 2) rfl ?_
    refine E_aload_n dX11_doAct_54 rfl ?_
    refine E_iconst (v := 3) dX11_doAct_55 (by decide) ?_
    refine E_iald (n0 := 6) (f := S.2 29) dX11_doAct_56 rfl (pin_in (by decide)) ?_
    refine E_val (y := (S.2 29) 3) rfl ?_
    refine E_aload_n dX11_doAct_57 rfl ?_
    refine E_iconst (v := 4) dX11_doAct_58 (by decide) ?_
    refine E_iald (n0 := 6) (f := S.2 29) dX11_doAct_59 rfl (pin_in (by decide)) ?_
    refine E_val (y := (S.2 29) 4) rfl ?_
    refine E_aload_n dX11_doAct_60 rfl ?_
    refine E_iconst (v := 5) dX11_doAct_61 (by decide) ?_
    refine E_iald (n0 := 6) (f := S.2 29) dX11_doAct_62 rfl (pin_in (by decide)) ?_
    refine E_val (y := (S.2 29) 5) rfl ?_
    refine E_callVI (st := []) (c_X11_put l D dA ad S ((S.2 29) 0) ((S.2 29) 1) ((S.2 29) 2) ((S.2 29) 3) ((S.2 29) 4) ((S.2 29) 5) (pO_bnd hf)) mf_X11_put rfl rfl gX11_doAct_X11_put (pRc.of (ci := 11) rfl rfl) (by omega) rfl (Nat.le_of_ble_eq_true rfl) (by rfl) dX11_doAct_63 (fun r2 h2 q2 => ?_)
    obtain ⟨S_2, rfl, hf⟩ := q2
    dsimp only at hf
    exact E_iret rfl dX11_doAct_66 ⟨_, rfl, hf⟩
  · have hf := pO_neg k_1 hf
    by_cases k_3 : (S.1 13) = (1 : Int32)
    · have hf := pO_pos k_3 hf
      refine E_tableIn (off := 52) (tgt := 67) dX11_doAct_15 (by rw [k_3]; decide) (by rw [k_3]; decide) (by rw [k_3]; rfl) (by decide) ?_
      refine E_aload_n dX11_doAct_67 rfl ?_
      refine E_aload_n dX11_doAct_68 rfl ?_
      refine E_iconst (v := 0) dX11_doAct_69 (by decide) ?_
      refine E_iald (n0 := 6) (f := S.2 29) dX11_doAct_70 rfl (pin_in (by decide)) ?_
      refine E_val (y := (S.2 29) 0) rfl ?_
      refine E_aload_n dX11_doAct_71 rfl ?_
      refine E_iconst (v := 1) dX11_doAct_72 (by decide) ?_
      refine E_iald (n0 := 6) (f := S.2 29) dX11_doAct_73 rfl (pin_in (by decide)) ?_
      refine E_val (y := (S.2 29) 1) rfl ?_
      refine E_aload_n dX11_doAct_74 rfl ?_
      refine E_iconst (v := 2) dX11_doAct_75 (by decide) ?_
      refine E_iald (n0 := 6) (f := S.2 29) dX11_doAct_76 rfl (pin_in (by decide)) ?_
      refine E_val (y := (S.2 29) 2) rfl ?_
      refine E_callVI (st := []) (c_X11_move l D dA ad S ((S.2 29) 0) ((S.2 29) 1) ((S.2 29) 2) (pO_bnd hf)) mf_X11_move rfl rfl gX11_doAct_X11_move (pRc.of (ci := 11) rfl rfl) (by omega) rfl (Nat.le_of_ble_eq_true rfl) (by rfl) dX11_doAct_77 (fun r4 h4 q4 => ?_)
      obtain ⟨S_4, rfl, hf⟩ := q4
      dsimp only at hf
      exact E_iret rfl dX11_doAct_80 ⟨_, rfl, hf⟩
    · have hf := pO_neg k_3 hf
      by_cases k_5 : (S.1 13) = (2 : Int32)
      · have hf := pO_pos k_5 hf
        refine E_tableIn (off := 66) (tgt := 81) dX11_doAct_15 (by rw [k_5]; decide) (by rw [k_5]; decide) (by rw [k_5]; rfl) (by decide) ?_
        refine E_aload_n dX11_doAct_81 rfl ?_
        refine E_aload_n dX11_doAct_82 rfl ?_
        refine E_iconst (v := 0) dX11_doAct_83 (by decide) ?_
        refine E_iald (n0 := 6) (f := S.2 29) dX11_doAct_84 rfl (pin_in (by decide)) ?_
        refine E_val (y := (S.2 29) 0) rfl ?_
        refine E_callVI (st := []) (c_X11_take l D dA ad S ((S.2 29) 0) (pO_bnd hf)) mf_X11_take rfl rfl gX11_doAct_X11_take (pRc.of (ci := 11) rfl rfl) (by omega) rfl (Nat.le_of_ble_eq_true rfl) (by rfl) dX11_doAct_85 (fun r6 h6 q6 => ?_)
        obtain ⟨S_6, rfl, hf⟩ := q6
        dsimp only at hf
        exact E_iret rfl dX11_doAct_88 ⟨_, rfl, hf⟩
      · have hf := pO_neg k_5 hf
        by_cases k_7 : (S.1 13) = (3 : Int32)
        · have hf := pO_pos k_7 hf
          refine E_tableIn (off := 74) (tgt := 89) dX11_doAct_15 (by rw [k_7]; decide) (by rw [k_7]; decide) (by rw [k_7]; rfl) (by decide) ?_
          refine E_aload_n dX11_doAct_89 rfl ?_
          refine E_aload_n dX11_doAct_90 rfl ?_
          refine E_iconst (v := 0) dX11_doAct_91 (by decide) ?_
          refine E_iald (n0 := 6) (f := S.2 29) dX11_doAct_92 rfl (pin_in (by decide)) ?_
          refine E_val (y := (S.2 29) 0) rfl ?_
          refine E_aload_n dX11_doAct_93 rfl ?_
          refine E_iconst (v := 1) dX11_doAct_94 (by decide) ?_
          refine E_iald (n0 := 6) (f := S.2 29) dX11_doAct_95 rfl (pin_in (by decide)) ?_
          refine E_val (y := (S.2 29) 1) rfl ?_
          refine E_callVI (st := []) (c_X11_fill l D dA ad S ((S.2 29) 0) ((S.2 29) 1) (pO_bnd hf)) mf_X11_fill rfl rfl gX11_doAct_X11_fill (pRc.of (ci := 11) rfl rfl) (by omega) rfl (Nat.le_of_ble_eq_true rfl) (by rfl) dX11_doAct_96 (fun r8 h8 q8 => ?_)
          obtain ⟨S_8, rfl, hf⟩ := q8
          dsimp only at hf
          exact E_iret rfl dX11_doAct_99 ⟨_, rfl, hf⟩
        · have hf := pO_neg k_7 hf
          refine E_tableOut (tgt := 100) dX11_doAct_15 (by have z0 := pti k_1 (by decide : (0 : Int32).toInt = 0); have z1 := pti k_3 (by decide : (1 : Int32).toInt = 1); have z2 := pti k_5 (by decide : (2 : Int32).toInt = 2); have z3 := pti k_7 (by decide : (3 : Int32).toInt = 3); omega) (by decide) ?_
          refine E_aload_n dX11_doAct_100 rfl ?_
          refine E_iconst (v := 2) dX11_doAct_101 (by decide) ?_
          refine E_aload_n dX11_doAct_102 rfl ?_
          refine E_iconst (v := 0) dX11_doAct_103 (by decide) ?_
          refine E_iald (n0 := 6) (f := S.2 29) dX11_doAct_104 rfl (pin_in (by decide)) ?_
          refine E_val (y := (S.2 29) 0) rfl ?_
          refine E_callVI (st := []) (c_X11_set l D dA ad S 2 ((S.2 29) 0) (pO_bnd hf)) mf_X11_set rfl rfl gX11_doAct_X11_set (pRc.of (ci := 11) rfl rfl) (by omega) rfl (Nat.le_of_ble_eq_true rfl) (by rfl) dX11_doAct_105 (fun r9 h9 q9 => ?_)
          obtain ⟨S_9, rfl, hf⟩ := q9
          dsimp only at hf
          exact E_iret rfl dX11_doAct_108 ⟨_, rfl, hf⟩
def g_X11_doAllActs_10 : Nat → PS → Int32 → Option ((Int32 × PS) ⊕ (PS))
  | 0, _, _ => none
  | fuel + 1, S, v1 =>
    if (S.1 11) ≤ v1 then (some (.inr (S))) else (pbnd (f_X9_readsAct S) (fun r2 S_2 => if r2 = (0 : Int32) then (some (.inl ((-200) - v1, S_2))) else (pbnd (f_X11_doAct S_2) (fun r4 S_4 => if (0 : Int32) ≤ r4 then (pbnd (f_X9_isPartedHere S_4) (fun r6 S_6 => if r6 = (0 : Int32) then (some (.inl (v1 + 1, S_6))) else (g_X11_doAllActs_10 fuel (pI S_6 12 ((S_6.1 12) + 1)) (v1 + 1)))) else (some (.inl ((-200) - v1, S_4)))))))
set_option maxRecDepth 100000 in
theorem l_X11_doAllActs_10 (l : Launch) (D : va_G) (dA : Nat → ClassId) (ad : Nat → Nat) (d : Nat) (hd : 8 ≤ d) {Q : Int32 → List PC → Prop} : ∀ (fuel : Nat) (S : PS) (v1 : Int32), pO (g_X11_doAllActs_10 fuel S v1) (fun y => match y with
    | .inl x => Q x.1 (hX x.2)
    | .inr w => Ev l D dA ad wsX11_doAllActs cX11_doAllActs RX11 2 (some .int) d 52 (pKi D dA ad 52 Q) 77 [] [] (hX w)) → Ev l D dA ad wsX11_doAllActs cX11_doAllActs RX11 2 (some .int) d 52 (pKi D dA ad 52 Q) 10 [(0, .ref 0), (1, .int v1)] [] (hX S) := by
  intro fuel
  induction fuel with
  | zero =>
    intro S v1 hf
    exact hf.elim
  | succ fuel ih =>
    intro S v1 hf
    rw [g_X11_doAllActs_10] at hf
    refine E_iload_n dX11_doAllActs_10 rfl ?_
    refine E_aload_n dX11_doAllActs_11 rfl ?_
    refine E_getf (v := .ref 39) dX11_doAllActs_12 fl_X11_doAllActs_35 rfl rfl ?_
    refine E_getf (v := .int (S.1 11)) dX11_doAllActs_15 fl_X11_doAllActs_321 rfl rfl ?_
    refine E_icmp_ge (tgt := 77) dX11_doAllActs_18 (by decide) (fun c_1 => ?_) (fun c_1 => ?_)
    · have hf := pO_pos c_1 hf
      exact E_sub (ls' := []) trivial hf
    · have hf := pO_neg c_1 hf
      refine E_aload_n dX11_doAllActs_21 rfl ?_
      refine E_getf (v := .ref 39) dX11_doAllActs_22 fl_X11_doAllActs_35 rfl rfl ?_
      refine E_callVI (st := []) (c_X9_readsAct l D dA ad S (pO_bnd hf)) mf_X9_readsAct rfl rfl gX11_doAllActs_X9_readsAct (pRc.of (ci := 9) rfl rfl) (by omega) rfl (Nat.le_of_ble_eq_true rfl) (by rfl) dX11_doAllActs_25 (fun r2 h2 q2 => ?_)
      obtain ⟨S_2, rfl, hf⟩ := q2
      dsimp only at hf
      refine E_if_eq (tgt := 38) dX11_doAllActs_28 (by decide) (fun c_3 => ?_) (fun c_3 => ?_)
      · have hf := pO_pos c_3 hf
        refine E_sipush (v := (-200)) dX11_doAllActs_38 (by decide) ?_
        refine E_iload_n dX11_doAllActs_41 rfl ?_
        refine E_isub dX11_doAllActs_42 ?_
        exact E_iret rfl dX11_doAllActs_43 hf
      · have hf := pO_neg c_3 hf
        refine E_aload_n dX11_doAllActs_31 rfl ?_
        refine E_callVI (st := []) (c_X11_doAct l D dA ad S_2 (pO_bnd hf)) mf_X11_doAct rfl rfl gX11_doAllActs_X11_doAct (pRc.of (ci := 11) rfl rfl) (by omega) rfl (Nat.le_of_ble_eq_true rfl) (by rfl) dX11_doAllActs_32 (fun r4 h4 q4 => ?_)
        obtain ⟨S_4, rfl, hf⟩ := q4
        dsimp only at hf
        refine E_if_ge (tgt := 44) dX11_doAllActs_35 (by decide) (fun c_5 => ?_) (fun c_5 => ?_)
        · have hf := pO_pos c_5 hf
          refine E_aload_n dX11_doAllActs_44 rfl ?_
          refine E_getf (v := .ref 39) dX11_doAllActs_45 fl_X11_doAllActs_35 rfl rfl ?_
          refine E_callVI (st := []) (c_X9_isPartedHere l D dA ad S_4 (pO_bnd hf)) mf_X9_isPartedHere rfl rfl gX11_doAllActs_X9_isPartedHere (pRc.of (ci := 9) rfl rfl) (by omega) rfl (Nat.le_of_ble_eq_true rfl) (by rfl) dX11_doAllActs_48 (fun r6 h6 q6 => ?_)
          obtain ⟨S_6, rfl, hf⟩ := q6
          dsimp only at hf
          refine E_if_ne (tgt := 58) dX11_doAllActs_51 (by decide) (fun c_7 => ?_) (fun c_7 => ?_)
          · have hf := pO_neg c_7 hf
            refine E_aload_n dX11_doAllActs_58 rfl ?_
            refine E_getf (v := .ref 39) dX11_doAllActs_59 fl_X11_doAllActs_35 rfl rfl ?_
            refine E_dup dX11_doAllActs_62 rfl ?_
            refine E_getf (v := .int (S_6.1 12)) dX11_doAllActs_63 fl_X11_doAllActs_332 rfl rfl ?_
            refine E_iconst (v := 1) dX11_doAllActs_66 (by decide) ?_
            refine E_iadd dX11_doAllActs_67 ?_
            refine E_putf (h' := hX (pI S_6 12 ((S_6.1 12) + 1))) dX11_doAllActs_68 fl_X11_doAllActs_332 ft_9_2 rfl (Nat.lt_of_lt_of_eq (by decide : 2 < 5) rfl) rfl rfl ⟨_, rfl⟩ (sX_I12 S_6 ((S_6.1 12) + 1)) ?_
            refine E_iinc (v := v1 + 1) (ls' := [(0, .ref 0), (1, .int (v1 + 1))]) dX11_doAllActs_71 rfl rfl (by decide) rfl ?_
            refine E_goto (tgt := 10) dX11_doAllActs_74 (by decide) ?_
            exact E_sub (ls' := [(0, .ref 0), (1, .int (v1 + 1))]) ⟨rfl, rfl, trivial⟩ (ih (pI S_6 12 ((S_6.1 12) + 1)) (v1 + 1) hf)
          · have hf := pO_pos c_7 hf
            refine E_iload_n dX11_doAllActs_54 rfl ?_
            refine E_iconst (v := 1) dX11_doAllActs_55 (by decide) ?_
            refine E_iadd dX11_doAllActs_56 ?_
            exact E_iret rfl dX11_doAllActs_57 hf
        · have hf := pO_neg c_5 hf
          refine E_sipush (v := (-200)) dX11_doAllActs_38 (by decide) ?_
          refine E_iload_n dX11_doAllActs_41 rfl ?_
          refine E_isub dX11_doAllActs_42 ?_
          exact E_iret rfl dX11_doAllActs_43 hf
theorem mf_X11_doAllActs : pMF yX11_doAllActs wsX11_doAllActs cX11_doAllActs 2 (some .int) 0 := ⟨⟨_, rfl⟩, by decide +kernel, by decide, by decide +kernel, by decide +kernel, by decide +kernel⟩
def f_X11_doAllActs (S : PS) : Option (Int32 × PS) :=
  plp (g_X11_doAllActs_10 pfuel (pI S 12 0) 0) (fun (S_8 : PS) => some ((-200), S_8))
set_option maxRecDepth 100000 in
theorem c_X11_doAllActs (l : Launch) (D : va_G) (dA : Nat → ClassId) (ad : Nat → Nat) (S : PS) {P : (Int32 × PS) → Prop} (hf : pO (f_X11_doAllActs S) P) : CtI l D dA ad yX11_doAllActs wsX11_doAllActs 8 [.ref 0] (hX S) (fun r h' => ∃ S' : PS, h' = hX S' ∧ P (r, S')) := by
  refine CtI_of mf_X11_doAllActs rfl rfl (Nat.le_of_ble_eq_true rfl) rfl (hX_len S) ?_
  unfold f_X11_doAllActs at hf
  refine E_aload_n dX11_doAllActs_0 rfl ?_
  refine E_getf (v := .ref 39) dX11_doAllActs_1 fl_X11_doAllActs_35 rfl rfl ?_
  refine E_iconst (v := 0) dX11_doAllActs_4 (by decide) ?_
  refine E_putf (h' := hX (pI S 12 0)) dX11_doAllActs_5 fl_X11_doAllActs_332 ft_9_2 rfl (Nat.lt_of_lt_of_eq (by decide : 2 < 5) rfl) rfl rfl ⟨_, rfl⟩ (sX_I12 S 0) ?_
  refine E_iconst (v := 0) dX11_doAllActs_8 (by decide) ?_
  refine E_istore_n (ls' := [(0, .ref 0), (1, .int 0)]) dX11_doAllActs_9 (by decide) rfl ?_
  refine E_sub (ls' := [(0, .ref 0), (1, .int 0)]) ⟨rfl, rfl, trivial⟩ ?_
  refine l_X11_doAllActs_10 l D dA ad _ (by omega) pfuel (pI S 12 0) 0 (pO_lp hf (fun x hx => ⟨x.2, rfl, hx⟩) (fun w8 hf => ?_))
  obtain ⟨S_8, rfl⟩ : ∃ z, z = w8 := ⟨_, rfl⟩
  dsimp only at hf ⊢
  refine E_sipush (v := (-200)) dX11_doAllActs_77 (by decide) ?_
  exact E_iret rfl dX11_doAllActs_80 ⟨_, rfl, hf⟩
theorem hi_X11_read_9 : ∀ w ∈ u_ws RX9 TX9 5, w ∈ wsX11_read := fun w h => of_decide_eq_true (List.all_eq_true.mp (by decide +kernel : (u_ws RX9 TX9 5).all (fun w => decide (w ∈ wsX11_read)) = true) w h)
theorem fl_X11_read_321 : pFL wsX11_read RX11 321 9 0 := ⟨RX9, TX9, 5, hi_X11_read_9, rfl, by decide, by decide +kernel⟩
theorem mf_X11_read : pMF yX11_read wsX11_read cX11_read 3 (some .int) 0 := ⟨⟨_, rfl⟩, by decide +kernel, by decide, by decide +kernel, by decide +kernel, by decide +kernel⟩
def f_X11_read (S : PS) : Option (Int32 × PS) :=
  pbnd (f_X9_findFault S) (fun r1 S_1 => if r1 < (0 : Int32) then (pbnd (f_X11_doAllActs S_1) (fun r3 S_3 => some (r3, (pI S_3 11 0)))) else (some ((-100) - r1, (pI S_1 11 0))))
set_option maxRecDepth 100000 in
theorem c_X11_read (l : Launch) (D : va_G) (dA : Nat → ClassId) (ad : Nat → Nat) (S : PS) {P : (Int32 × PS) → Prop} (hf : pO (f_X11_read S) P) : CtI l D dA ad yX11_read wsX11_read 9 [.ref 0] (hX S) (fun r h' => ∃ S' : PS, h' = hX S' ∧ P (r, S')) := by
  refine CtI_of mf_X11_read rfl rfl (Nat.le_of_ble_eq_true rfl) rfl (hX_len S) ?_
  unfold f_X11_read at hf
  refine E_aload_n dX11_read_0 rfl ?_
  refine E_getf (v := .ref 39) dX11_read_1 fl_X11_read_35 rfl rfl ?_
  refine E_callVI (st := []) (c_X9_findFault l D dA ad S (pO_bnd hf)) mf_X9_findFault rfl rfl gX11_read_X9_findFault (pRc.of (ci := 9) rfl rfl) (by omega) rfl (Nat.le_of_ble_eq_true rfl) (by rfl) dX11_read_4 (fun r1 h1 q1 => ?_)
  obtain ⟨S_1, rfl, hf⟩ := q1
  dsimp only at hf
  refine E_istore_n (ls' := [(0, .ref 0), (1, .int r1)]) dX11_read_7 (by decide) rfl ?_
  refine E_iload_n dX11_read_8 rfl ?_
  refine E_if_lt (tgt := 19) dX11_read_9 (by decide) (fun c_2 => ?_) (fun c_2 => ?_)
  · have hf := pO_pos c_2 hf
    refine E_aload_n dX11_read_19 rfl ?_
    refine E_callVI (st := []) (c_X11_doAllActs l D dA ad S_1 (pO_bnd hf)) mf_X11_doAllActs rfl rfl gX11_read_X11_doAllActs (pRc.of (ci := 11) rfl rfl) (by omega) rfl (Nat.le_of_ble_eq_true rfl) (by rfl) dX11_read_20 (fun r3 h3 q3 => ?_)
    obtain ⟨S_3, rfl, hf⟩ := q3
    dsimp only at hf
    refine E_istore_n (ls' := [(0, .ref 0), (1, .int r1), (2, .int r3)]) dX11_read_23 (by decide) rfl ?_
    refine E_aload_n dX11_read_24 rfl ?_
    refine E_getf (v := .ref 39) dX11_read_25 fl_X11_read_35 rfl rfl ?_
    refine E_iconst (v := 0) dX11_read_28 (by decide) ?_
    refine E_putf (h' := hX (pI S_3 11 0)) dX11_read_29 fl_X11_read_321 ft_9_0 rfl (Nat.lt_of_lt_of_eq (by decide : 0 < 5) rfl) rfl rfl ⟨_, rfl⟩ (sX_I11 S_3 0) ?_
    refine E_iload_n dX11_read_32 rfl ?_
    exact E_iret rfl dX11_read_33 ⟨_, rfl, hf⟩
  · have hf := pO_neg c_2 hf
    refine E_bipush (v := (-100)) dX11_read_12 (by decide) ?_
    refine E_iload_n dX11_read_14 rfl ?_
    refine E_isub dX11_read_15 ?_
    refine E_goto (tgt := 23) dX11_read_16 (by decide) ?_
    refine E_istore_n (ls' := [(0, .ref 0), (1, .int r1), (2, .int ((-100) - r1))]) dX11_read_23 (by decide) rfl ?_
    refine E_aload_n dX11_read_24 rfl ?_
    refine E_getf (v := .ref 39) dX11_read_25 fl_X11_read_35 rfl rfl ?_
    refine E_iconst (v := 0) dX11_read_28 (by decide) ?_
    refine E_putf (h' := hX (pI S_1 11 0)) dX11_read_29 fl_X11_read_321 ft_9_0 rfl (Nat.lt_of_lt_of_eq (by decide : 0 < 5) rfl) rfl rfl ⟨_, rfl⟩ (sX_I11 S_1 0) ?_
    refine E_iload_n dX11_read_32 rfl ?_
    exact E_iret rfl dX11_read_33 ⟨_, rfl, hf⟩
theorem hi_X11_row_11 : ∀ w ∈ u_ws RX11 TX11 10, w ∈ wsX11_row := fun w h => of_decide_eq_true (List.all_eq_true.mp (by decide +kernel : (u_ws RX11 TX11 10).all (fun w => decide (w ∈ wsX11_row)) = true) w h)
theorem fl_X11_row_28 : pFL wsX11_row RX11 28 11 3 := ⟨RX11, TX11, 10, hi_X11_row_11, rfl, by decide, by decide +kernel⟩
theorem hi_X6_make_6 : ∀ w ∈ u_ws RX6 TX6 2, w ∈ wsX6_make := fun w h => of_decide_eq_true (List.all_eq_true.mp (by decide +kernel : (u_ws RX6 TX6 2).all (fun w => decide (w ∈ wsX6_make)) = true) w h)
theorem fl_X6_make_7 : pFL wsX6_make RX6 7 6 0 := ⟨RX6, TX6, 2, hi_X6_make_6, rfl, by decide, by decide +kernel⟩
theorem fl_X6_make_15 : pFL wsX6_make RX6 15 6 1 := ⟨RX6, TX6, 2, hi_X6_make_6, rfl, by decide, by decide +kernel⟩
theorem mf_X6_make : pMF yX6_make wsX6_make cX6_make 3 none 2 := ⟨⟨_, rfl⟩, by decide +kernel, by decide, by decide +kernel, by decide +kernel, by decide +kernel⟩
def f_X6_make (S : PS) (v1 : Int32) (v2 : Int32) : Option (Int32 × PS) :=
  pbnd (f_X11_held S v2 (-1) 40) (fun r1 S_1 => pgd (pin v1 3) (pgd (pin v1 3) (some (0, (pAr (pAr S_1 24 (upd (S_1.2 24) v1.toNatClampNeg r1)) (25 + v1.toNatClampNeg) (pfil 40 0 ((pAr S_1 24 (upd (S_1.2 24) v1.toNatClampNeg r1)).2 (25 + v1.toNatClampNeg))))))))
set_option maxRecDepth 100000 in
theorem c_X6_make (l : Launch) (D : va_G) (dA : Nat → ClassId) (ad : Nat → Nat) (S : PS) (v1 : Int32) (v2 : Int32) {P : (Int32 × PS) → Prop} (hf : pO (f_X6_make S v1 v2) P) : CtV l D dA ad yX6_make wsX6_make 2 [.ref 33, .int v1, .int v2] (hX S) (fun h' => ∃ (r0 : Int32) (S' : PS), h' = hX S' ∧ P (r0, S')) := by
  refine CtV_of mf_X6_make rfl rfl (Nat.le_of_ble_eq_true rfl) rfl (hX_len S) ?_
  unfold f_X6_make at hf
  refine E_aload_n dX6_make_0 rfl ?_
  refine E_getf (v := .ref 34) dX6_make_1 fl_X6_make_7 rfl rfl ?_
  refine E_iload_n dX6_make_4 rfl ?_
  refine E_iload_n dX6_make_5 rfl ?_
  refine E_iconst (v := (-1)) dX6_make_6 (by decide) ?_
  refine E_bipush (v := 40) dX6_make_7 (by decide) ?_
  refine E_callNI (st := [.int v1, .ref 34]) (c_X11_held l D dA ad S v2 (-1) 40 (pO_bnd hf)) mf_X11_held rfl gX6_make_X11_held_n18 (by decide +kernel) (by decide +kernel) (by decide +kernel) (by omega) rfl (Nat.le_of_ble_eq_true rfl) (by rfl) dX6_make_9 (fun r1 h1 q1 => ?_)
  obtain ⟨S_1, rfl, hf⟩ := q1
  dsimp only at hf
  obtain ⟨hi_2, hf⟩ := pO_gd hf
  refine E_iast (n0 := 3) (f := S_1.2 24) (h' := hX (pAr S_1 24 (upd (S_1.2 24) v1.toNatClampNeg r1))) dX6_make_12 rfl (pin_in hi_2) (sX_A24 S_1 (upd (S_1.2 24) v1.toNatClampNeg r1)) ?_
  refine E_aload_n dX6_make_13 rfl ?_
  refine E_getf (v := .ref 35) dX6_make_14 fl_X6_make_15 rfl rfl ?_
  refine E_iload_n dX6_make_17 rfl ?_
  obtain ⟨hr_3, hf⟩ := pO_gd hf
  refine E_aald (k0 := 36 + v1.toNatClampNeg) dX6_make_18 rfl (pin_in hr_3) (if_pos (pin_lt hr_3)) ?_
  refine E_iconst (v := 0) dX6_make_19 (by decide) ?_
  refine E_callSV (st := []) (c_J7_fill_53178 l D dA ad (h := hX (pAr S_1 24 (upd (S_1.2 24) v1.toNatClampNeg r1))) (q0 := (36 + v1.toNatClampNeg)) (n0 := 40) (f := (pAr S_1 24 (upd (S_1.2 24) v1.toNatClampNeg r1)).2 (25 + v1.toNatClampNeg)) (v := 0) (gX_R36 (pAr S_1 24 (upd (S_1.2 24) v1.toNatClampNeg r1)) (pin_lt hr_3)) (by decide)) mf_J7_fill_53178 rfl gX6_make_J7_fill_53178 (by omega) rfl (Nat.le_of_ble_eq_true rfl) (by rfl) dX6_make_20 (fun h4 q4 => ?_)
  obtain rfl := q4
  refine E_heap (h' := hX (pAr (pAr S_1 24 (upd (S_1.2 24) v1.toNatClampNeg r1)) (25 + v1.toNatClampNeg) (pfil 40 0 ((pAr S_1 24 (upd (S_1.2 24) v1.toNatClampNeg r1)).2 (25 + v1.toNatClampNeg))))) (sX_R36 (pAr S_1 24 (upd (S_1.2 24) v1.toNatClampNeg r1)) (pin_lt hr_3) (pfil 40 0 ((pAr S_1 24 (upd (S_1.2 24) v1.toNatClampNeg r1)).2 (25 + v1.toNatClampNeg)))) ?_
  exact E_vret rfl dX6_make_23 ⟨0, _, rfl, hf⟩
