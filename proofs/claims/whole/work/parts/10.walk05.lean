theorem mf_X11_row : pMF yX11_row wsX11_row cX11_row 3 (some .int) 2 := ⟨⟨_, rfl⟩, by decide +kernel, by decide, by decide +kernel, by decide +kernel, by decide +kernel⟩
def f_X11_row (S : PS) (v1 : Int32) (v2 : Int32) : Option (Int32 × PS) :=
  pbnd (f_X11_isRow S v1) (fun r1 S_1 => if r1 = (0 : Int32) then (some ((-1), S_1)) else (if v2 ≤ (40 : Int32) then (if ((-1) : Int32) ≤ v2 then (pbnd (f_X6_make S_1 v1 v2) (fun _ S_5 => some (1, S_5))) else (some ((-14), S_1))) else (some ((-1), S_1))))
set_option maxRecDepth 100000 in
theorem c_X11_row (l : Launch) (D : va_G) (dA : Nat → ClassId) (ad : Nat → Nat) (S : PS) (v1 : Int32) (v2 : Int32) {P : (Int32 × PS) → Prop} (hf : pO (f_X11_row S v1 v2) P) : CtI l D dA ad yX11_row wsX11_row 3 [.ref 0, .int v1, .int v2] (hX S) (fun r h' => ∃ S' : PS, h' = hX S' ∧ P (r, S')) := by
  refine CtI_of mf_X11_row rfl rfl (Nat.le_of_ble_eq_true rfl) rfl (hX_len S) ?_
  unfold f_X11_row at hf
  refine E_iload_n dX11_row_0 rfl ?_
  refine E_callSI (st := []) (c_X11_isRow l D dA ad S v1 (pO_bnd hf)) mf_X11_isRow rfl gX11_row_X11_isRow (by omega) rfl (Nat.le_of_ble_eq_true rfl) (by rfl) dX11_row_1 (fun r1 h1 q1 => ?_)
  obtain ⟨S_1, rfl, hf⟩ := q1
  dsimp only at hf
  refine E_if_eq (tgt := 13) dX11_row_4 (by decide) (fun c_2 => ?_) (fun c_2 => ?_)
  · have hf := pO_pos c_2 hf
    refine E_iconst (v := (-1)) dX11_row_13 (by decide) ?_
    exact E_iret rfl dX11_row_14 ⟨_, rfl, hf⟩
  · have hf := pO_neg c_2 hf
    refine E_iload_n dX11_row_7 rfl ?_
    refine E_bipush (v := 40) dX11_row_8 (by decide) ?_
    refine E_icmp_le (tgt := 15) dX11_row_10 (by decide) (fun c_3 => ?_) (fun c_3 => ?_)
    · have hf := pO_pos c_3 hf
      refine E_iload_n dX11_row_15 rfl ?_
      refine E_iconst (v := (-1)) dX11_row_16 (by decide) ?_
      refine E_icmp_ge (tgt := 23) dX11_row_17 (by decide) (fun c_4 => ?_) (fun c_4 => ?_)
      · have hf := pO_pos c_4 hf
        refine E_aload_n dX11_row_23 rfl ?_
        refine E_getf (v := .ref 33) dX11_row_24 fl_X11_row_28 rfl rfl ?_
        refine E_iload_n dX11_row_27 rfl ?_
        refine E_iload_n dX11_row_28 rfl ?_
        refine E_callVV (st := []) (c_X6_make l D dA ad S_1 v1 v2 (pO_bnd hf)) mf_X6_make rfl rfl gX11_row_X6_make (pRc.of (ci := 6) rfl rfl) (by omega) rfl (Nat.le_of_ble_eq_true rfl) (by rfl) dX11_row_29 (fun h5 q5 => ?_)
        obtain ⟨r5, S_5, rfl, hf⟩ := q5
        dsimp only at hf
        refine E_iconst (v := 1) dX11_row_32 (by decide) ?_
        exact E_iret rfl dX11_row_33 ⟨_, rfl, hf⟩
      · have hf := pO_neg c_4 hf
        refine E_bipush (v := (-14)) dX11_row_20 (by decide) ?_
        exact E_iret rfl dX11_row_22 ⟨_, rfl, hf⟩
    · have hf := pO_neg c_3 hf
      refine E_iconst (v := (-1)) dX11_row_13 (by decide) ?_
      exact E_iret rfl dX11_row_14 ⟨_, rfl, hf⟩
theorem hi_X11_store_11 : ∀ w ∈ u_ws RX11 TX11 10, w ∈ wsX11_store := fun w h => of_decide_eq_true (List.all_eq_true.mp (by decide +kernel : (u_ws RX11 TX11 10).all (fun w => decide (w ∈ wsX11_store)) = true) w h)
theorem fl_X11_store_28 : pFL wsX11_store RX11 28 11 3 := ⟨RX11, TX11, 10, hi_X11_store_11, rfl, by decide, by decide +kernel⟩
theorem hi_X6_hasPlace_6 : ∀ w ∈ u_ws RX6 TX6 2, w ∈ wsX6_hasPlace := fun w h => of_decide_eq_true (List.all_eq_true.mp (by decide +kernel : (u_ws RX6 TX6 2).all (fun w => decide (w ∈ wsX6_hasPlace)) = true) w h)
theorem fl_X6_hasPlace_7 : pFL wsX6_hasPlace RX6 7 6 0 := ⟨RX6, TX6, 2, hi_X6_hasPlace_6, rfl, by decide, by decide +kernel⟩
theorem mf_X6_hasPlace : pMF yX6_hasPlace wsX6_hasPlace cX6_hasPlace 3 (some .boolean) 2 := ⟨⟨_, rfl⟩, by decide +kernel, by decide, by decide +kernel, by decide +kernel, by decide +kernel⟩
def f_X6_hasPlace (S : PS) (v1 : Int32) (v2 : Int32) : Option (Int32 × PS) :=
  pgd (pin v1 3) (pbnd (f_X11_isWithin S v2 0 (((S.2 24) v1.toNatClampNeg) - 1)) (fun r2 S_2 => pgd (pbit r2) (some (r2, S_2))))
set_option maxRecDepth 100000 in
theorem c_X6_hasPlace (l : Launch) (D : va_G) (dA : Nat → ClassId) (ad : Nat → Nat) (S : PS) (v1 : Int32) (v2 : Int32) {P : (Int32 × PS) → Prop} (hf : pO (f_X6_hasPlace S v1 v2) P) : CtI l D dA ad yX6_hasPlace wsX6_hasPlace 1 [.ref 33, .int v1, .int v2] (hX S) (fun r h' => ∃ S' : PS, h' = hX S' ∧ P (r, S')) := by
  refine CtI_of mf_X6_hasPlace rfl rfl (Nat.le_of_ble_eq_true rfl) rfl (hX_len S) ?_
  unfold f_X6_hasPlace at hf
  refine E_iload_n dX6_hasPlace_0 rfl ?_
  refine E_iconst (v := 0) dX6_hasPlace_1 (by decide) ?_
  refine E_aload_n dX6_hasPlace_2 rfl ?_
  refine E_getf (v := .ref 34) dX6_hasPlace_3 fl_X6_hasPlace_7 rfl rfl ?_
  refine E_iload_n dX6_hasPlace_6 rfl ?_
  obtain ⟨hi_1, hf⟩ := pO_gd hf
  refine E_iald (n0 := 3) (f := S.2 24) dX6_hasPlace_7 rfl (pin_in hi_1) ?_
  refine E_iconst (v := 1) dX6_hasPlace_8 (by decide) ?_
  refine E_isub dX6_hasPlace_9 ?_
  refine E_callNI (st := []) (c_X11_isWithin l D dA ad S v2 0 (((S.2 24) v1.toNatClampNeg) - 1) (pO_bnd hf)) mf_X11_isWithin rfl gX6_hasPlace_X11_isWithin_n30 (by decide +kernel) (by decide +kernel) (by decide +kernel) (by omega) rfl (Nat.le_of_ble_eq_true rfl) (by rfl) dX6_hasPlace_10 (fun r2 h2 q2 => ?_)
  obtain ⟨S_2, rfl, hf⟩ := q2
  dsimp only at hf
  obtain ⟨hn_3, hf⟩ := pO_gd hf
  exact E_zret rfl dX6_hasPlace_13 (pbit_n hn_3) ⟨_, rfl, hf⟩
theorem hi_X11_store_6 : ∀ w ∈ u_ws RX6 TX6 2, w ∈ wsX11_store := fun w h => of_decide_eq_true (List.all_eq_true.mp (by decide +kernel : (u_ws RX6 TX6 2).all (fun w => decide (w ∈ wsX11_store)) = true) w h)
theorem fl_X11_store_293 : pFL wsX11_store RX11 293 6 1 := ⟨RX6, TX6, 2, hi_X11_store_6, rfl, by decide, by decide +kernel⟩
theorem mf_X11_store : pMF yX11_store wsX11_store cX11_store 4 (some .int) 3 := ⟨⟨_, rfl⟩, by decide +kernel, by decide, by decide +kernel, by decide +kernel, by decide +kernel⟩
def f_X11_store (S : PS) (v1 : Int32) (v2 : Int32) (v3 : Int32) : Option (Int32 × PS) :=
  pbnd (f_X11_isRow S v1) (fun r1 S_1 => if r1 = (0 : Int32) then (some ((-1), S_1)) else (pbnd (f_X6_isMissing S_1 v1) (fun r3 S_3 => if r3 = (0 : Int32) then (pbnd (f_X6_hasPlace S_3 v1 v2) (fun r5 S_5 => if r5 = (0 : Int32) then (some ((-13), S_5)) else (pgd (pin v1 3) (pgd (pin v2 40) (some (1, (pAr S_5 (25 + v1.toNatClampNeg) (upd (S_5.2 (25 + v1.toNatClampNeg)) v2.toNatClampNeg v3)))))))) else (some ((-11), S_3)))))
set_option maxRecDepth 100000 in
theorem c_X11_store (l : Launch) (D : va_G) (dA : Nat → ClassId) (ad : Nat → Nat) (S : PS) (v1 : Int32) (v2 : Int32) (v3 : Int32) {P : (Int32 × PS) → Prop} (hf : pO (f_X11_store S v1 v2 v3) P) : CtI l D dA ad yX11_store wsX11_store 2 [.ref 0, .int v1, .int v2, .int v3] (hX S) (fun r h' => ∃ S' : PS, h' = hX S' ∧ P (r, S')) := by
  refine CtI_of mf_X11_store rfl rfl (Nat.le_of_ble_eq_true rfl) rfl (hX_len S) ?_
  unfold f_X11_store at hf
  refine E_iload_n dX11_store_0 rfl ?_
  refine E_callSI (st := []) (c_X11_isRow l D dA ad S v1 (pO_bnd hf)) mf_X11_isRow rfl gX11_store_X11_isRow (by omega) rfl (Nat.le_of_ble_eq_true rfl) (by rfl) dX11_store_1 (fun r1 h1 q1 => ?_)
  obtain ⟨S_1, rfl, hf⟩ := q1
  dsimp only at hf
  refine E_if_ne (tgt := 9) dX11_store_4 (by decide) (fun c_2 => ?_) (fun c_2 => ?_)
  · have hf := pO_neg c_2 hf
    refine E_aload_n dX11_store_9 rfl ?_
    refine E_getf (v := .ref 33) dX11_store_10 fl_X11_store_28 rfl rfl ?_
    refine E_iload_n dX11_store_13 rfl ?_
    refine E_callVI (st := []) (c_X6_isMissing l D dA ad S_1 v1 (pO_bnd hf)) mf_X6_isMissing rfl rfl gX11_store_X6_isMissing (pRc.of (ci := 6) rfl rfl) (by omega) rfl (Nat.le_of_ble_eq_true rfl) (by rfl) dX11_store_14 (fun r3 h3 q3 => ?_)
    obtain ⟨S_3, rfl, hf⟩ := q3
    dsimp only at hf
    refine E_if_eq (tgt := 23) dX11_store_17 (by decide) (fun c_4 => ?_) (fun c_4 => ?_)
    · have hf := pO_pos c_4 hf
      refine E_aload_n dX11_store_23 rfl ?_
      refine E_getf (v := .ref 33) dX11_store_24 fl_X11_store_28 rfl rfl ?_
      refine E_iload_n dX11_store_27 rfl ?_
      refine E_iload_n dX11_store_28 rfl ?_
      refine E_callVI (st := []) (c_X6_hasPlace l D dA ad S_3 v1 v2 (pO_bnd hf)) mf_X6_hasPlace rfl rfl gX11_store_X6_hasPlace (pRc.of (ci := 6) rfl rfl) (by omega) rfl (Nat.le_of_ble_eq_true rfl) (by rfl) dX11_store_29 (fun r5 h5 q5 => ?_)
      obtain ⟨S_5, rfl, hf⟩ := q5
      dsimp only at hf
      refine E_if_ne (tgt := 38) dX11_store_32 (by decide) (fun c_6 => ?_) (fun c_6 => ?_)
      · have hf := pO_neg c_6 hf
        refine E_aload_n dX11_store_38 rfl ?_
        refine E_getf (v := .ref 33) dX11_store_39 fl_X11_store_28 rfl rfl ?_
        refine E_getf (v := .ref 35) dX11_store_42 fl_X11_store_293 rfl rfl ?_
        refine E_iload_n dX11_store_45 rfl ?_
        obtain ⟨hr_7, hf⟩ := pO_gd hf
        refine E_aald (k0 := 36 + v1.toNatClampNeg) dX11_store_46 rfl (pin_in hr_7) (if_pos (pin_lt hr_7)) ?_
        refine E_iload_n dX11_store_47 rfl ?_
        refine E_iload_n dX11_store_48 rfl ?_
        obtain ⟨hi_8, hf⟩ := pO_gd hf
        refine E_iast (n0 := 40) (f := S_5.2 (25 + v1.toNatClampNeg)) (h' := hX (pAr S_5 (25 + v1.toNatClampNeg) (upd (S_5.2 (25 + v1.toNatClampNeg)) v2.toNatClampNeg v3))) dX11_store_49 (gX_R36 S_5 (pin_lt hr_7)) (pin_in hi_8) (sX_R36 S_5 (pin_lt hr_7) (upd (S_5.2 (25 + v1.toNatClampNeg)) v2.toNatClampNeg v3)) ?_
        refine E_iconst (v := 1) dX11_store_50 (by decide) ?_
        exact E_iret rfl dX11_store_51 ⟨_, rfl, hf⟩
      · have hf := pO_pos c_6 hf
        refine E_bipush (v := (-13)) dX11_store_35 (by decide) ?_
        exact E_iret rfl dX11_store_37 ⟨_, rfl, hf⟩
    · have hf := pO_neg c_4 hf
      refine E_bipush (v := (-11)) dX11_store_20 (by decide) ?_
      exact E_iret rfl dX11_store_22 ⟨_, rfl, hf⟩
  · have hf := pO_pos c_2 hf
    refine E_iconst (v := (-1)) dX11_store_7 (by decide) ?_
    exact E_iret rfl dX11_store_8 ⟨_, rfl, hf⟩
theorem hi_X11_get_11 : ∀ w ∈ u_ws RX11 TX11 10, w ∈ wsX11_get := fun w h => of_decide_eq_true (List.all_eq_true.mp (by decide +kernel : (u_ws RX11 TX11 10).all (fun w => decide (w ∈ wsX11_get)) = true) w h)
theorem fl_X11_get_28 : pFL wsX11_get RX11 28 11 3 := ⟨RX11, TX11, 10, hi_X11_get_11, rfl, by decide, by decide +kernel⟩
theorem hi_X11_get_6 : ∀ w ∈ u_ws RX6 TX6 2, w ∈ wsX11_get := fun w h => of_decide_eq_true (List.all_eq_true.mp (by decide +kernel : (u_ws RX6 TX6 2).all (fun w => decide (w ∈ wsX11_get)) = true) w h)
theorem fl_X11_get_293 : pFL wsX11_get RX11 293 6 1 := ⟨RX6, TX6, 2, hi_X11_get_6, rfl, by decide, by decide +kernel⟩
theorem mf_X11_get : pMF yX11_get wsX11_get cX11_get 3 (some .int) 2 := ⟨⟨_, rfl⟩, by decide +kernel, by decide, by decide +kernel, by decide +kernel, by decide +kernel⟩
def f_X11_get (S : PS) (v1 : Int32) (v2 : Int32) : Option (Int32 × PS) :=
  pbnd (f_X11_isRow S v1) (fun r1 S_1 => if r1 = (0 : Int32) then (some ((-2147483648), S_1)) else (pbnd (f_X6_hasPlace S_1 v1 v2) (fun r3 S_3 => if r3 = (0 : Int32) then (some ((-2147483648), S_3)) else (pgd (pin v1 3) (pgd (pin v2 40) (some ((S_3.2 (25 + v1.toNatClampNeg)) v2.toNatClampNeg, S_3)))))))
set_option maxRecDepth 100000 in
theorem c_X11_get (l : Launch) (D : va_G) (dA : Nat → ClassId) (ad : Nat → Nat) (S : PS) (v1 : Int32) (v2 : Int32) {P : (Int32 × PS) → Prop} (hf : pO (f_X11_get S v1 v2) P) : CtI l D dA ad yX11_get wsX11_get 2 [.ref 0, .int v1, .int v2] (hX S) (fun r h' => ∃ S' : PS, h' = hX S' ∧ P (r, S')) := by
  refine CtI_of mf_X11_get rfl rfl (Nat.le_of_ble_eq_true rfl) rfl (hX_len S) ?_
  unfold f_X11_get at hf
  refine E_iload_n dX11_get_0 rfl ?_
  refine E_callSI (st := []) (c_X11_isRow l D dA ad S v1 (pO_bnd hf)) mf_X11_isRow rfl gX11_get_X11_isRow (by omega) rfl (Nat.le_of_ble_eq_true rfl) (by rfl) dX11_get_1 (fun r1 h1 q1 => ?_)
  obtain ⟨S_1, rfl, hf⟩ := q1
  dsimp only at hf
  refine E_if_eq (tgt := 19) dX11_get_4 (by decide) (fun c_2 => ?_) (fun c_2 => ?_)
  · have hf := pO_pos c_2 hf
    refine E_ldc (v := (-2147483648)) dX11_get_19 (by decide +kernel) ?_
    exact E_iret rfl dX11_get_21 ⟨_, rfl, hf⟩
  · have hf := pO_neg c_2 hf
    refine E_aload_n dX11_get_7 rfl ?_
    refine E_getf (v := .ref 33) dX11_get_8 fl_X11_get_28 rfl rfl ?_
    refine E_iload_n dX11_get_11 rfl ?_
    refine E_iload_n dX11_get_12 rfl ?_
    refine E_callVI (st := []) (c_X6_hasPlace l D dA ad S_1 v1 v2 (pO_bnd hf)) mf_X6_hasPlace rfl rfl gX11_get_X6_hasPlace (pRc.of (ci := 6) rfl rfl) (by omega) rfl (Nat.le_of_ble_eq_true rfl) (by rfl) dX11_get_13 (fun r3 h3 q3 => ?_)
    obtain ⟨S_3, rfl, hf⟩ := q3
    dsimp only at hf
    refine E_if_ne (tgt := 22) dX11_get_16 (by decide) (fun c_4 => ?_) (fun c_4 => ?_)
    · have hf := pO_neg c_4 hf
      refine E_aload_n dX11_get_22 rfl ?_
      refine E_getf (v := .ref 33) dX11_get_23 fl_X11_get_28 rfl rfl ?_
      refine E_getf (v := .ref 35) dX11_get_26 fl_X11_get_293 rfl rfl ?_
      refine E_iload_n dX11_get_29 rfl ?_
      obtain ⟨hr_5, hf⟩ := pO_gd hf
      refine E_aald (k0 := 36 + v1.toNatClampNeg) dX11_get_30 rfl (pin_in hr_5) (if_pos (pin_lt hr_5)) ?_
      refine E_iload_n dX11_get_31 rfl ?_
      obtain ⟨hi_6, hf⟩ := pO_gd hf
      refine E_iald (n0 := 40) (f := S_3.2 (25 + v1.toNatClampNeg)) dX11_get_32 (gX_R36 S_3 (pin_lt hr_5)) (pin_in hi_6) ?_
      exact E_iret rfl dX11_get_33 ⟨_, rfl, hf⟩
    · have hf := pO_pos c_4 hf
      refine E_ldc (v := (-2147483648)) dX11_get_19 (by decide +kernel) ?_
      exact E_iret rfl dX11_get_21 ⟨_, rfl, hf⟩
theorem hi_X11_film_11 : ∀ w ∈ u_ws RX11 TX11 10, w ∈ wsX11_film := fun w h => of_decide_eq_true (List.all_eq_true.mp (by decide +kernel : (u_ws RX11 TX11 10).all (fun w => decide (w ∈ wsX11_film)) = true) w h)
theorem fl_X11_film_12 : pFL wsX11_film RX11 12 11 0 := ⟨RX11, TX11, 10, hi_X11_film_11, rfl, by decide, by decide +kernel⟩
theorem hi_X11_film_0 : ∀ w ∈ u_ws RX0 TX0 3, w ∈ wsX11_film := fun w h => of_decide_eq_true (List.all_eq_true.mp (by decide +kernel : (u_ws RX0 TX0 3).all (fun w => decide (w ∈ wsX11_film)) = true) w h)
theorem fl_X11_film_131 : pFL wsX11_film RX11 131 0 1 := ⟨RX0, TX0, 3, hi_X11_film_0, rfl, by decide, by decide +kernel⟩
theorem hi_X11_film_1 : ∀ w ∈ u_ws RX1 TX1 7, w ∈ wsX11_film := fun w h => of_decide_eq_true (List.all_eq_true.mp (by decide +kernel : (u_ws RX1 TX1 7).all (fun w => decide (w ∈ wsX11_film)) = true) w h)
theorem fl_X11_film_140 : pFL wsX11_film RX11 140 1 0 := ⟨RX1, TX1, 7, hi_X11_film_1, rfl, by decide, by decide +kernel⟩
theorem fl_X11_film_28 : pFL wsX11_film RX11 28 11 3 := ⟨RX11, TX11, 10, hi_X11_film_11, rfl, by decide, by decide +kernel⟩
theorem fl_X11_film_63 : pFL wsX11_film RX11 63 11 8 := ⟨RX11, TX11, 10, hi_X11_film_11, rfl, by decide, by decide +kernel⟩
theorem fl_X11_film_42 : pFL wsX11_film RX11 42 11 5 := ⟨RX11, TX11, 10, hi_X11_film_11, rfl, by decide, by decide +kernel⟩
theorem hi_X11_film_6 : ∀ w ∈ u_ws RX6 TX6 2, w ∈ wsX11_film := fun w h => of_decide_eq_true (List.all_eq_true.mp (by decide +kernel : (u_ws RX6 TX6 2).all (fun w => decide (w ∈ wsX11_film)) = true) w h)
theorem fl_X11_film_293 : pFL wsX11_film RX11 293 6 1 := ⟨RX6, TX6, 2, hi_X11_film_6, rfl, by decide, by decide +kernel⟩
theorem hi_X3_writeLines_0 : ∀ w ∈ u_ws RX0 TX0 3, w ∈ wsX3_writeLines := fun w h => of_decide_eq_true (List.all_eq_true.mp (by decide +kernel : (u_ws RX0 TX0 3).all (fun w => decide (w ∈ wsX3_writeLines)) = true) w h)
theorem fl_X3_writeLines_40 : pFL wsX3_writeLines RX3 40 0 0 := ⟨RX0, TX0, 3, hi_X3_writeLines_0, rfl, by decide, by decide +kernel⟩
theorem fl_X3_writeLines_50 : pFL wsX3_writeLines RX3 50 0 1 := ⟨RX0, TX0, 3, hi_X3_writeLines_0, rfl, by decide, by decide +kernel⟩
theorem hi_X3_writeLines_1 : ∀ w ∈ u_ws RX1 TX1 7, w ∈ wsX3_writeLines := fun w h => of_decide_eq_true (List.all_eq_true.mp (by decide +kernel : (u_ws RX1 TX1 7).all (fun w => decide (w ∈ wsX3_writeLines)) = true) w h)
theorem fl_X3_writeLines_54 : pFL wsX3_writeLines RX3 54 1 0 := ⟨RX1, TX1, 7, hi_X3_writeLines_1, rfl, by decide, by decide +kernel⟩
theorem hi_X3_writeLines_4 : ∀ w ∈ u_ws RX4 TX4 2, w ∈ wsX3_writeLines := fun w h => of_decide_eq_true (List.all_eq_true.mp (by decide +kernel : (u_ws RX4 TX4 2).all (fun w => decide (w ∈ wsX3_writeLines)) = true) w h)
theorem fl_X3_writeLines_59 : pFL wsX3_writeLines RX3 59 4 0 := ⟨RX4, TX4, 2, hi_X3_writeLines_4, rfl, by decide, by decide +kernel⟩
def g_X3_writeLines_28 (r : Nat) : Nat → PS → Int32 → Int32 → Option ((Int32 × PS) ⊕ (PS))
  | 0, _, _, _ => none
  | fuel + 1, S, v4, v5 =>
    if (S.1 4) ≤ v5 then (some (.inr (S))) else (pgd (pin v5 16) (pbnd (f_X0_weighsAt S ((S.2 30) v5.toNatClampNeg)) (fun r6 S_6 => pbnd (f_X2_startOf S_6 0 (v4 - r6)) (fun r7 S_7 => pgd (pin (v5 + 1) 40) (g_X3_writeLines_28 r fuel (pAr S_7 (25 + r) (upd (S_7.2 (25 + r)) (v5 + 1).toNatClampNeg r7)) (v4 - r6) (v5 + 1))))))
set_option maxRecDepth 100000 in
theorem l_X3_writeLines_28 (l : Launch) (D : va_G) (dA : Nat → ClassId) (ad : Nat → Nat) (r : Nat) (hr : r < 3) (d : Nat) (hd : 5 ≤ d) {Q : List PC → Prop} : ∀ (fuel : Nat) (S : PS) (v4 : Int32) (v5 : Int32), pO (g_X3_writeLines_28 r fuel S v4 v5) (fun y => match y with
    | .inl x => Q (hX x.2)
    | .inr w => Ev l D dA ad wsX3_writeLines cX3_writeLines RX3 6 none d 52 (pKv D dA ad 52 Q) 78 [] [] (hX w)) → Ev l D dA ad wsX3_writeLines cX3_writeLines RX3 6 none d 52 (pKv D dA ad 52 Q) 28 [(1, .ref 1), (2, .ref 42), (3, .ref (36 + r)), (4, .int v4), (5, .int v5)] [] (hX S) := by
  intro fuel
  induction fuel with
  | zero =>
    intro S v4 v5 hf
    exact hf.elim
  | succ fuel ih =>
    intro S v4 v5 hf
    rw [g_X3_writeLines_28] at hf
    refine E_iload dX3_writeLines_28 rfl ?_
    refine E_aload_n dX3_writeLines_30 rfl ?_
    refine E_getf (v := .ref 5) dX3_writeLines_31 fl_X3_writeLines_50 rfl rfl ?_
    refine E_getf (v := .int (S.1 4)) dX3_writeLines_34 fl_X3_writeLines_54 rfl rfl ?_
    refine E_icmp_ge (tgt := 78) dX3_writeLines_37 (by decide) (fun c_4 => ?_) (fun c_4 => ?_)
    · have hf := pO_pos c_4 hf
      exact E_sub (ls' := []) trivial hf
    · have hf := pO_neg c_4 hf
      refine E_iload dX3_writeLines_40 rfl ?_
      refine E_aload_n dX3_writeLines_42 rfl ?_
      refine E_aload_n dX3_writeLines_43 rfl ?_
      refine E_getf (v := .ref 43) dX3_writeLines_44 fl_X3_writeLines_59 rfl rfl ?_
      refine E_iload dX3_writeLines_47 rfl ?_
      obtain ⟨hi_5, hf⟩ := pO_gd hf
      refine E_iald (n0 := 16) (f := S.2 30) dX3_writeLines_49 rfl (pin_in hi_5) ?_
      refine E_callVI (st := [.int v4]) (c_X0_weighsAt l D dA ad S ((S.2 30) v5.toNatClampNeg) (pO_bnd hf)) mf_X0_weighsAt rfl rfl gX3_writeLines_X0_weighsAt (pRc.of (ci := 0) rfl rfl) (by omega) rfl (Nat.le_of_ble_eq_true rfl) (by rfl) dX3_writeLines_50 (fun r6 h6 q6 => ?_)
      obtain ⟨S_6, rfl, hf⟩ := q6
      dsimp only at hf
      refine E_isub dX3_writeLines_53 ?_
      refine E_istore (ls' := [(1, .ref 1), (2, .ref 42), (3, .ref (36 + r)), (4, .int (v4 - r6)), (5, .int v5)]) dX3_writeLines_54 (by decide) rfl ?_
      refine E_aload_n dX3_writeLines_56 rfl ?_
      refine E_iload dX3_writeLines_57 rfl ?_
      refine E_iconst (v := 1) dX3_writeLines_59 (by decide) ?_
      refine E_iadd dX3_writeLines_60 ?_
      refine E_aload_n dX3_writeLines_61 rfl ?_
      refine E_getf (v := .ref 2) dX3_writeLines_62 fl_X3_writeLines_40 rfl rfl ?_
      refine E_iconst (v := 0) dX3_writeLines_65 (by decide) ?_
      refine E_iload dX3_writeLines_66 rfl ?_
      refine E_callVI (st := [.int (v5 + 1), .ref (36 + r)]) (c_X2_startOf l D dA ad S_6 0 (v4 - r6) (pO_bnd hf)) mf_X2_startOf rfl rfl gX3_writeLines_X2_startOf (pRc.of (ci := 2) rfl rfl) (by omega) rfl (Nat.le_of_ble_eq_true rfl) (by rfl) dX3_writeLines_68 (fun r7 h7 q7 => ?_)
      obtain ⟨S_7, rfl, hf⟩ := q7
      dsimp only at hf
      obtain ⟨hi_8, hf⟩ := pO_gd hf
      refine E_iast (n0 := 40) (f := S_7.2 (25 + r)) (h' := hX (pAr S_7 (25 + r) (upd (S_7.2 (25 + r)) (v5 + 1).toNatClampNeg r7))) dX3_writeLines_71 (gX_R36 S_7 hr) (pin_in hi_8) (sX_R36 S_7 hr (upd (S_7.2 (25 + r)) (v5 + 1).toNatClampNeg r7)) ?_
      refine E_iinc (v := v5 + 1) (ls' := [(1, .ref 1), (2, .ref 42), (3, .ref (36 + r)), (4, .int (v4 - r6)), (5, .int (v5 + 1))]) dX3_writeLines_72 rfl rfl (by decide) rfl ?_
      refine E_goto (tgt := 28) dX3_writeLines_75 (by decide) ?_
      exact E_sub (ls' := [(1, .ref 1), (2, .ref 42), (3, .ref (36 + r)), (4, .int (v4 - r6)), (5, .int (v5 + 1))]) ⟨rfl, rfl, rfl, rfl, rfl, trivial⟩ (ih (pAr S_7 (25 + r) (upd (S_7.2 (25 + r)) (v5 + 1).toNatClampNeg r7)) (v4 - r6) (v5 + 1) hf)
theorem mf_X3_writeLines : pMF yX3_writeLines wsX3_writeLines cX3_writeLines 6 none 3 := ⟨⟨_, rfl⟩, by decide +kernel, by decide, by decide +kernel, by decide +kernel, by decide +kernel⟩
def f_X3_writeLines (S : PS) (r : Nat) : Option (Int32 × PS) :=
  pbnd (f_X4_arrange S 0) (fun _ S_1 => pbnd (f_X0_allWeight S_1) (fun r2 S_2 => pbnd (f_X2_startOf S_2 0 r2) (fun r3 S_3 => plp (g_X3_writeLines_28 r pfuel (pAr S_3 (25 + r) (upd (S_3.2 (25 + r)) 0 r3)) r2 0) (fun (S_9 : PS) => some (0, S_9)))))
set_option maxRecDepth 100000 in
theorem c_X3_writeLines (l : Launch) (D : va_G) (dA : Nat → ClassId) (ad : Nat → Nat) (S : PS) (r : Nat) (hr : r < 3) {P : (Int32 × PS) → Prop} (hf : pO (f_X3_writeLines S r) P) : CtV l D dA ad yX3_writeLines wsX3_writeLines 5 [.ref 47, .ref 1, .ref 42, .ref (36 + r)] (hX S) (fun h' => ∃ (r0 : Int32) (S' : PS), h' = hX S' ∧ P (r0, S')) := by
  refine CtV_of mf_X3_writeLines rfl rfl (Nat.le_of_ble_eq_true rfl) rfl (hX_len S) ?_
  unfold f_X3_writeLines at hf
  refine E_aload_n dX3_writeLines_0 rfl ?_
  refine E_aload_n dX3_writeLines_1 rfl ?_
  refine E_iconst (v := 0) dX3_writeLines_2 (by decide) ?_
  refine E_callVV (st := []) (c_X4_arrange l D dA ad S 0 (pO_bnd hf)) mf_X4_arrange rfl rfl gX3_writeLines_X4_arrange (pRc.of (ci := 4) rfl rfl) (by omega) rfl (Nat.le_of_ble_eq_true rfl) (by rfl) dX3_writeLines_3 (fun h1 q1 => ?_)
  obtain ⟨r1, S_1, rfl, hf⟩ := q1
  dsimp only at hf
  refine E_aload_n dX3_writeLines_6 rfl ?_
  refine E_callVI (st := []) (c_X0_allWeight l D dA ad S_1 (pO_bnd hf)) mf_X0_allWeight rfl rfl gX3_writeLines_X0_allWeight (pRc.of (ci := 0) rfl rfl) (by omega) rfl (Nat.le_of_ble_eq_true rfl) (by rfl) dX3_writeLines_7 (fun r2 h2 q2 => ?_)
  obtain ⟨S_2, rfl, hf⟩ := q2
  dsimp only at hf
  refine E_istore (ls' := [(0, .ref 47), (1, .ref 1), (2, .ref 42), (3, .ref (36 + r)), (4, .int r2)]) dX3_writeLines_10 (by decide) rfl ?_
  refine E_aload_n dX3_writeLines_12 rfl ?_
  refine E_iconst (v := 0) dX3_writeLines_13 (by decide) ?_
  refine E_aload_n dX3_writeLines_14 rfl ?_
  refine E_getf (v := .ref 2) dX3_writeLines_15 fl_X3_writeLines_40 rfl rfl ?_
  refine E_iconst (v := 0) dX3_writeLines_18 (by decide) ?_
  refine E_iload dX3_writeLines_19 rfl ?_
  refine E_callVI (st := [.int 0, .ref (36 + r)]) (c_X2_startOf l D dA ad S_2 0 r2 (pO_bnd hf)) mf_X2_startOf rfl rfl gX3_writeLines_X2_startOf (pRc.of (ci := 2) rfl rfl) (by omega) rfl (Nat.le_of_ble_eq_true rfl) (by rfl) dX3_writeLines_21 (fun r3 h3 q3 => ?_)
  obtain ⟨S_3, rfl, hf⟩ := q3
  dsimp only at hf
  refine E_iast (n0 := 40) (f := S_3.2 (25 + r)) (h' := hX (pAr S_3 (25 + r) (upd (S_3.2 (25 + r)) 0 r3))) dX3_writeLines_24 (gX_R36 S_3 hr) (pin_in (by decide)) (sX_R36 S_3 hr (upd (S_3.2 (25 + r)) 0 r3)) ?_
  refine E_iconst (v := 0) dX3_writeLines_25 (by decide) ?_
  refine E_istore (ls' := [(0, .ref 47), (1, .ref 1), (2, .ref 42), (3, .ref (36 + r)), (4, .int r2), (5, .int 0)]) dX3_writeLines_26 (by decide) rfl ?_
  refine E_sub (ls' := [(1, .ref 1), (2, .ref 42), (3, .ref (36 + r)), (4, .int r2), (5, .int 0)]) ⟨rfl, rfl, rfl, rfl, rfl, trivial⟩ ?_
  refine l_X3_writeLines_28 l D dA ad r hr _ (by omega) pfuel (pAr S_3 (25 + r) (upd (S_3.2 (25 + r)) 0 r3)) r2 0 (pO_lp hf (fun x hx => ⟨x.1, x.2, rfl, hx⟩) (fun w9 hf => ?_))
  obtain ⟨S_9, rfl⟩ : ∃ z, z = w9 := ⟨_, rfl⟩
  dsimp only at hf ⊢
  exact E_vret rfl dX3_writeLines_78 ⟨0, _, rfl, hf⟩
theorem mf_X11_film : pMF yX11_film wsX11_film cX11_film 3 (some .int) 1 := ⟨⟨_, rfl⟩, by decide +kernel, by decide, by decide +kernel, by decide +kernel, by decide +kernel⟩
def f_X11_film (S : PS) (v1 : Int32) : Option (Int32 × PS) :=
  pbnd (f_X11_isRow S v1) (fun r1 S_1 => if r1 = (0 : Int32) then (some ((-1), S_1)) else (pbnd (f_X6_make S_1 v1 ((S_1.1 4) + 1)) (fun _ S_3 => pgd (pin v1 3) (pbnd (f_X3_writeLines S_3 v1.toNatClampNeg) (fun _ S_5 => some ((S_1.1 4) + 1, S_5))))))
set_option maxRecDepth 100000 in
theorem c_X11_film (l : Launch) (D : va_G) (dA : Nat → ClassId) (ad : Nat → Nat) (S : PS) (v1 : Int32) {P : (Int32 × PS) → Prop} (hf : pO (f_X11_film S v1) P) : CtI l D dA ad yX11_film wsX11_film 6 [.ref 0, .int v1] (hX S) (fun r h' => ∃ S' : PS, h' = hX S' ∧ P (r, S')) := by
  refine CtI_of mf_X11_film rfl rfl (Nat.le_of_ble_eq_true rfl) rfl (hX_len S) ?_
  unfold f_X11_film at hf
  refine E_iload_n dX11_film_0 rfl ?_
  refine E_callSI (st := []) (c_X11_isRow l D dA ad S v1 (pO_bnd hf)) mf_X11_isRow rfl gX11_film_X11_isRow (by omega) rfl (Nat.le_of_ble_eq_true rfl) (by rfl) dX11_film_1 (fun r1 h1 q1 => ?_)
  obtain ⟨S_1, rfl, hf⟩ := q1
  dsimp only at hf
  refine E_if_ne (tgt := 9) dX11_film_4 (by decide) (fun c_2 => ?_) (fun c_2 => ?_)
  · have hf := pO_neg c_2 hf
    refine E_aload_n dX11_film_9 rfl ?_
    refine E_getf (v := .ref 1) dX11_film_10 fl_X11_film_12 rfl rfl ?_
    refine E_getf (v := .ref 5) dX11_film_13 fl_X11_film_131 rfl rfl ?_
    refine E_getf (v := .int (S_1.1 4)) dX11_film_16 fl_X11_film_140 rfl rfl ?_
    refine E_iconst (v := 1) dX11_film_19 (by decide) ?_
    refine E_iadd dX11_film_20 ?_
    refine E_istore_n (ls' := [(0, .ref 0), (1, .int v1), (2, .int ((S_1.1 4) + 1))]) dX11_film_21 (by decide) rfl ?_
    refine E_aload_n dX11_film_22 rfl ?_
    refine E_getf (v := .ref 33) dX11_film_23 fl_X11_film_28 rfl rfl ?_
    refine E_iload_n dX11_film_26 rfl ?_
    refine E_iload_n dX11_film_27 rfl ?_
    refine E_callVV (st := []) (c_X6_make l D dA ad S_1 v1 ((S_1.1 4) + 1) (pO_bnd hf)) mf_X6_make rfl rfl gX11_film_X6_make (pRc.of (ci := 6) rfl rfl) (by omega) rfl (Nat.le_of_ble_eq_true rfl) (by rfl) dX11_film_28 (fun h3 q3 => ?_)
    obtain ⟨r3, S_3, rfl, hf⟩ := q3
    dsimp only at hf
    refine E_aload_n dX11_film_31 rfl ?_
    refine E_getf (v := .ref 47) dX11_film_32 fl_X11_film_63 rfl rfl ?_
    refine E_aload_n dX11_film_35 rfl ?_
    refine E_getf (v := .ref 1) dX11_film_36 fl_X11_film_12 rfl rfl ?_
    refine E_aload_n dX11_film_39 rfl ?_
    refine E_getf (v := .ref 42) dX11_film_40 fl_X11_film_42 rfl rfl ?_
    refine E_aload_n dX11_film_43 rfl ?_
    refine E_getf (v := .ref 33) dX11_film_44 fl_X11_film_28 rfl rfl ?_
    refine E_getf (v := .ref 35) dX11_film_47 fl_X11_film_293 rfl rfl ?_
    refine E_iload_n dX11_film_50 rfl ?_
    obtain ⟨hr_4, hf⟩ := pO_gd hf
    refine E_aald (k0 := 36 + v1.toNatClampNeg) dX11_film_51 rfl (pin_in hr_4) (if_pos (pin_lt hr_4)) ?_
    refine E_callVV (st := []) (c_X3_writeLines l D dA ad S_3 v1.toNatClampNeg (pin_lt hr_4) (pO_bnd hf)) mf_X3_writeLines rfl rfl gX11_film_X3_writeLines (pRc.of (ci := 3) rfl rfl) (by omega) rfl (Nat.le_of_ble_eq_true rfl) (by rfl) dX11_film_52 (fun h5 q5 => ?_)
    obtain ⟨r5, S_5, rfl, hf⟩ := q5
    dsimp only at hf
    refine E_iload_n dX11_film_55 rfl ?_
    exact E_iret rfl dX11_film_56 ⟨_, rfl, hf⟩
  · have hf := pO_pos c_2 hf
    refine E_iconst (v := (-1)) dX11_film_7 (by decide) ?_
    exact E_iret rfl dX11_film_8 ⟨_, rfl, hf⟩
theorem hi_X11_image_11 : ∀ w ∈ u_ws RX11 TX11 10, w ∈ wsX11_image := fun w h => of_decide_eq_true (List.all_eq_true.mp (by decide +kernel : (u_ws RX11 TX11 10).all (fun w => decide (w ∈ wsX11_image)) = true) w h)
theorem fl_X11_image_18 : pFL wsX11_image RX11 18 11 1 := ⟨RX11, TX11, 10, hi_X11_image_11, rfl, by decide, by decide +kernel⟩
theorem fl_X11_image_12 : pFL wsX11_image RX11 12 11 0 := ⟨RX11, TX11, 10, hi_X11_image_11, rfl, by decide, by decide +kernel⟩
theorem hi_X0_copyFrom_0 : ∀ w ∈ u_ws RX0 TX0 3, w ∈ wsX0_copyFrom := fun w h => of_decide_eq_true (List.all_eq_true.mp (by decide +kernel : (u_ws RX0 TX0 3).all (fun w => decide (w ∈ wsX0_copyFrom)) = true) w h)
theorem fl_X0_copyFrom_12 : pFL wsX0_copyFrom RX0 12 0 0 := ⟨RX0, TX0, 3, hi_X0_copyFrom_0, rfl, by decide, by decide +kernel⟩
theorem hi_X2_copyFrom_2 : ∀ w ∈ u_ws RX2 TX2 6, w ∈ wsX2_copyFrom := fun w h => of_decide_eq_true (List.all_eq_true.mp (by decide +kernel : (u_ws RX2 TX2 6).all (fun w => decide (w ∈ wsX2_copyFrom)) = true) w h)
theorem fl_X2_copyFrom_9 : pFL wsX2_copyFrom RX2 9 2 0 := ⟨RX2, TX2, 6, hi_X2_copyFrom_2, rfl, by decide, by decide +kernel⟩
theorem fl_X2_copyFrom_15 : pFL wsX2_copyFrom RX2 15 2 1 := ⟨RX2, TX2, 6, hi_X2_copyFrom_2, rfl, by decide, by decide +kernel⟩
theorem fl_X2_copyFrom_18 : pFL wsX2_copyFrom RX2 18 2 2 := ⟨RX2, TX2, 6, hi_X2_copyFrom_2, rfl, by decide, by decide +kernel⟩
theorem fl_X2_copyFrom_21 : pFL wsX2_copyFrom RX2 21 2 3 := ⟨RX2, TX2, 6, hi_X2_copyFrom_2, rfl, by decide, by decide +kernel⟩
theorem fl_X2_copyFrom_24 : pFL wsX2_copyFrom RX2 24 2 4 := ⟨RX2, TX2, 6, hi_X2_copyFrom_2, rfl, by decide, by decide +kernel⟩
theorem fl_X2_copyFrom_28 : pFL wsX2_copyFrom RX2 28 2 5 := ⟨RX2, TX2, 6, hi_X2_copyFrom_2, rfl, by decide, by decide +kernel⟩
theorem mf_X2_copyFrom : pMF yX2_copyFrom wsX2_copyFrom cX2_copyFrom 2 none 1 := ⟨⟨_, rfl⟩, by decide +kernel, by decide, by decide +kernel, by decide +kernel, by decide +kernel⟩
def f_X2_copyFrom_18_2 (S : PS) : Option (Int32 × PS) :=
  some (0, (pAr (pAr (pI (pI (pI (pI S 5 (S.1 0)) 6 (S.1 1)) 7 (S.1 2)) 8 (S.1 3)) 12 (va_cpy (S.2 0) (S.2 12) 0 0 10)) 13 (va_cpy (S.2 1) (S.2 13) 0 0 10)))
set_option maxRecDepth 100000 in
theorem c_X2_copyFrom_18_2 (l : Launch) (D : va_G) (dA : Nat → ClassId) (ad : Nat → Nat) (S : PS) {P : (Int32 × PS) → Prop} (hf : pO (f_X2_copyFrom_18_2 S) P) : CtV l D dA ad yX2_copyFrom wsX2_copyFrom 1 [.ref 18, .ref 2] (hX S) (fun h' => ∃ (r0 : Int32) (S' : PS), h' = hX S' ∧ P (r0, S')) := by
  refine CtV_of mf_X2_copyFrom rfl rfl (Nat.le_of_ble_eq_true rfl) rfl (hX_len S) ?_
  unfold f_X2_copyFrom_18_2 at hf
  refine E_aload_n dX2_copyFrom_0 rfl ?_
  refine E_aload_n dX2_copyFrom_1 rfl ?_
  refine E_getf (v := .int (S.1 0)) dX2_copyFrom_2 fl_X2_copyFrom_9 rfl rfl ?_
  refine E_putf (h' := hX (pI S 5 (S.1 0))) dX2_copyFrom_5 fl_X2_copyFrom_9 ft_2_0 rfl (Nat.lt_of_lt_of_eq (by decide : 0 < 6) rfl) rfl rfl ⟨_, rfl⟩ (sX_I5 S (S.1 0)) ?_
  refine E_aload_n dX2_copyFrom_8 rfl ?_
  refine E_aload_n dX2_copyFrom_9 rfl ?_
  refine E_getf (v := .int (S.1 1)) dX2_copyFrom_10 fl_X2_copyFrom_15 rfl rfl ?_
  refine E_putf (h' := hX (pI (pI S 5 (S.1 0)) 6 (S.1 1))) dX2_copyFrom_13 fl_X2_copyFrom_15 ft_2_1 rfl (Nat.lt_of_lt_of_eq (by decide : 1 < 6) rfl) rfl rfl ⟨_, rfl⟩ (sX_I6 (pI S 5 (S.1 0)) (S.1 1)) ?_
  refine E_aload_n dX2_copyFrom_16 rfl ?_
  refine E_aload_n dX2_copyFrom_17 rfl ?_
  refine E_getf (v := .int (S.1 2)) dX2_copyFrom_18 fl_X2_copyFrom_18 rfl rfl ?_
  refine E_putf (h' := hX (pI (pI (pI S 5 (S.1 0)) 6 (S.1 1)) 7 (S.1 2))) dX2_copyFrom_21 fl_X2_copyFrom_18 ft_2_2 rfl (Nat.lt_of_lt_of_eq (by decide : 2 < 6) rfl) rfl rfl ⟨_, rfl⟩ (sX_I7 (pI (pI S 5 (S.1 0)) 6 (S.1 1)) (S.1 2)) ?_
  refine E_aload_n dX2_copyFrom_24 rfl ?_
  refine E_aload_n dX2_copyFrom_25 rfl ?_
  refine E_getf (v := .int (S.1 3)) dX2_copyFrom_26 fl_X2_copyFrom_21 rfl rfl ?_
  refine E_putf (h' := hX (pI (pI (pI (pI S 5 (S.1 0)) 6 (S.1 1)) 7 (S.1 2)) 8 (S.1 3))) dX2_copyFrom_29 fl_X2_copyFrom_21 ft_2_3 rfl (Nat.lt_of_lt_of_eq (by decide : 3 < 6) rfl) rfl rfl ⟨_, rfl⟩ (sX_I8 (pI (pI (pI S 5 (S.1 0)) 6 (S.1 1)) 7 (S.1 2)) (S.1 3)) ?_
  refine E_aload_n dX2_copyFrom_32 rfl ?_
  refine E_getf (v := .ref 3) dX2_copyFrom_33 fl_X2_copyFrom_24 rfl rfl ?_
  refine E_iconst (v := 0) dX2_copyFrom_36 (by decide) ?_
  refine E_aload_n dX2_copyFrom_37 rfl ?_
  refine E_getf (v := .ref 19) dX2_copyFrom_38 fl_X2_copyFrom_24 rfl rfl ?_
  refine E_iconst (v := 0) dX2_copyFrom_41 (by decide) ?_
  refine E_aload_n dX2_copyFrom_42 rfl ?_
  refine E_getf (v := .ref 19) dX2_copyFrom_43 fl_X2_copyFrom_24 rfl rfl ?_
  refine E_alen dX2_copyFrom_46 rfl (by decide) ?_
  refine E_val (y := 10) rfl ?_
  refine E_copy (i := 0) (j := 0) (k0 := 10) (n0 := 10) (n1 := 10) (f := S.2 0) (g := S.2 12) (h' := hX (pAr (pI (pI (pI (pI S 5 (S.1 0)) 6 (S.1 1)) 7 (S.1 2)) 8 (S.1 3)) 12 (va_cpy (S.2 0) (S.2 12) 0 0 10))) (by decide +kernel) (by decide +kernel) (by decide +kernel) (by decide +kernel) rfl rfl (by decide) (by decide) (by decide) (by decide) (by omega) (Nat.le_of_ble_eq_true rfl) (by rfl) dX2_copyFrom_47 (sX_A12 (pI (pI (pI (pI S 5 (S.1 0)) 6 (S.1 1)) 7 (S.1 2)) 8 (S.1 3)) (va_cpy (S.2 0) (S.2 12) 0 0 10)) ?_
  refine E_aload_n dX2_copyFrom_50 rfl ?_
  refine E_getf (v := .ref 4) dX2_copyFrom_51 fl_X2_copyFrom_28 rfl rfl ?_
  refine E_iconst (v := 0) dX2_copyFrom_54 (by decide) ?_
  refine E_aload_n dX2_copyFrom_55 rfl ?_
  refine E_getf (v := .ref 20) dX2_copyFrom_56 fl_X2_copyFrom_28 rfl rfl ?_
  refine E_iconst (v := 0) dX2_copyFrom_59 (by decide) ?_
  refine E_aload_n dX2_copyFrom_60 rfl ?_
  refine E_getf (v := .ref 20) dX2_copyFrom_61 fl_X2_copyFrom_28 rfl rfl ?_
  refine E_alen dX2_copyFrom_64 rfl (by decide) ?_
  refine E_val (y := 10) rfl ?_
  refine E_copy (i := 0) (j := 0) (k0 := 10) (n0 := 10) (n1 := 10) (f := S.2 1) (g := S.2 13) (h' := hX (pAr (pAr (pI (pI (pI (pI S 5 (S.1 0)) 6 (S.1 1)) 7 (S.1 2)) 8 (S.1 3)) 12 (va_cpy (S.2 0) (S.2 12) 0 0 10)) 13 (va_cpy (S.2 1) (S.2 13) 0 0 10))) (by decide +kernel) (by decide +kernel) (by decide +kernel) (by decide +kernel) rfl rfl (by decide) (by decide) (by decide) (by decide) (by omega) (Nat.le_of_ble_eq_true rfl) (by rfl) dX2_copyFrom_65 (sX_A13 (pAr (pI (pI (pI (pI S 5 (S.1 0)) 6 (S.1 1)) 7 (S.1 2)) 8 (S.1 3)) 12 (va_cpy (S.2 0) (S.2 12) 0 0 10)) (va_cpy (S.2 1) (S.2 13) 0 0 10)) ?_
  exact E_vret rfl dX2_copyFrom_68 ⟨0, _, rfl, hf⟩
theorem fl_X0_copyFrom_21 : pFL wsX0_copyFrom RX0 21 0 1 := ⟨RX0, TX0, 3, hi_X0_copyFrom_0, rfl, by decide, by decide +kernel⟩
theorem hi_X1_copyFrom_1 : ∀ w ∈ u_ws RX1 TX1 7, w ∈ wsX1_copyFrom := fun w h => of_decide_eq_true (List.all_eq_true.mp (by decide +kernel : (u_ws RX1 TX1 7).all (fun w => decide (w ∈ wsX1_copyFrom)) = true) w h)
theorem fl_X1_copyFrom_9 : pFL wsX1_copyFrom RX1 9 1 0 := ⟨RX1, TX1, 7, hi_X1_copyFrom_1, rfl, by decide, by decide +kernel⟩
def f_X1_copyPlaces_21_5 (S : PS) (v2 : Int32) (v3 : Int32) (v4 : Int32) : Option (Int32 × PS) :=
  pgd (pcpy v2 v3 v4 16 16) (pgd (pcpy v2 v3 v4 16 16) (pgd (pcpy v2 v3 v4 16 16) (pgd (pcpy v2 v3 v4 16 16) (pgd (pcpy v2 v3 v4 16 16) (pgd (pcpy v2 v3 v4 16 16) (some (0, (pAr (pAr (pAr (pAr (pAr (pAr S 14 (va_cpy (S.2 2) (S.2 14) v2.toNatClampNeg v3.toNatClampNeg v4.toNatClampNeg)) 15 (va_cpy (S.2 3) (S.2 15) v2.toNatClampNeg v3.toNatClampNeg v4.toNatClampNeg)) 16 (va_cpy (S.2 4) (S.2 16) v2.toNatClampNeg v3.toNatClampNeg v4.toNatClampNeg)) 17 (va_cpy (S.2 5) (S.2 17) v2.toNatClampNeg v3.toNatClampNeg v4.toNatClampNeg)) 18 (va_cpy (S.2 6) (S.2 18) v2.toNatClampNeg v3.toNatClampNeg v4.toNatClampNeg)) 19 (va_cpy (S.2 7) (S.2 19) v2.toNatClampNeg v3.toNatClampNeg v4.toNatClampNeg)))))))))
set_option maxRecDepth 100000 in
theorem c_X1_copyPlaces_21_5 (l : Launch) (D : va_G) (dA : Nat → ClassId) (ad : Nat → Nat) (S : PS) (v2 : Int32) (v3 : Int32) (v4 : Int32) {P : (Int32 × PS) → Prop} (hf : pO (f_X1_copyPlaces_21_5 S v2 v3 v4) P) : CtV l D dA ad yX1_copyPlaces wsX1_copyPlaces 1 [.ref 21, .ref 5, .int v2, .int v3, .int v4] (hX S) (fun h' => ∃ (r0 : Int32) (S' : PS), h' = hX S' ∧ P (r0, S')) := by
  refine CtV_of mf_X1_copyPlaces rfl rfl (Nat.le_of_ble_eq_true rfl) rfl (hX_len S) ?_
  unfold f_X1_copyPlaces_21_5 at hf
  refine E_aload_n dX1_copyPlaces_0 rfl ?_
  refine E_getf (v := .ref 6) dX1_copyPlaces_1 fl_X1_copyPlaces_15 rfl rfl ?_
  refine E_iload_n dX1_copyPlaces_4 rfl ?_
  refine E_aload_n dX1_copyPlaces_5 rfl ?_
  refine E_getf (v := .ref 22) dX1_copyPlaces_6 fl_X1_copyPlaces_15 rfl rfl ?_
  refine E_iload_n dX1_copyPlaces_9 rfl ?_
  refine E_iload dX1_copyPlaces_10 rfl ?_
  obtain ⟨hc_1, hf⟩ := pO_gd hf
  refine E_copyC (i := v2) (j := v3) (k0 := v4) (n0 := 16) (n1 := 16) (f := S.2 2) (g := S.2 14) (h' := hX (pAr S 14 (va_cpy (S.2 2) (S.2 14) v2.toNatClampNeg v3.toNatClampNeg v4.toNatClampNeg))) (by decide +kernel) (by decide +kernel) (by decide +kernel) (by decide +kernel) rfl rfl hc_1 (by decide) (by decide) (by omega) (Nat.le_of_ble_eq_true rfl) (by rfl) dX1_copyPlaces_12 (sX_A14 S (va_cpy (S.2 2) (S.2 14) v2.toNatClampNeg v3.toNatClampNeg v4.toNatClampNeg)) ?_
  refine E_aload_n dX1_copyPlaces_15 rfl ?_
  refine E_getf (v := .ref 7) dX1_copyPlaces_16 fl_X1_copyPlaces_19 rfl rfl ?_
  refine E_iload_n dX1_copyPlaces_19 rfl ?_
  refine E_aload_n dX1_copyPlaces_20 rfl ?_
  refine E_getf (v := .ref 23) dX1_copyPlaces_21 fl_X1_copyPlaces_19 rfl rfl ?_
  refine E_iload_n dX1_copyPlaces_24 rfl ?_
  refine E_iload dX1_copyPlaces_25 rfl ?_
  obtain ⟨hc_2, hf⟩ := pO_gd hf
  refine E_copyC (i := v2) (j := v3) (k0 := v4) (n0 := 16) (n1 := 16) (f := S.2 3) (g := S.2 15) (h' := hX (pAr (pAr S 14 (va_cpy (S.2 2) (S.2 14) v2.toNatClampNeg v3.toNatClampNeg v4.toNatClampNeg)) 15 (va_cpy (S.2 3) (S.2 15) v2.toNatClampNeg v3.toNatClampNeg v4.toNatClampNeg))) (by decide +kernel) (by decide +kernel) (by decide +kernel) (by decide +kernel) rfl rfl hc_2 (by decide) (by decide) (by omega) (Nat.le_of_ble_eq_true rfl) (by rfl) dX1_copyPlaces_27 (sX_A15 (pAr S 14 (va_cpy (S.2 2) (S.2 14) v2.toNatClampNeg v3.toNatClampNeg v4.toNatClampNeg)) (va_cpy (S.2 3) (S.2 15) v2.toNatClampNeg v3.toNatClampNeg v4.toNatClampNeg)) ?_
  refine E_aload_n dX1_copyPlaces_30 rfl ?_
  refine E_getf (v := .ref 8) dX1_copyPlaces_31 fl_X1_copyPlaces_22 rfl rfl ?_
  refine E_iload_n dX1_copyPlaces_34 rfl ?_
  refine E_aload_n dX1_copyPlaces_35 rfl ?_
  refine E_getf (v := .ref 24) dX1_copyPlaces_36 fl_X1_copyPlaces_22 rfl rfl ?_
  refine E_iload_n dX1_copyPlaces_39 rfl ?_
  refine E_iload dX1_copyPlaces_40 rfl ?_
  obtain ⟨hc_3, hf⟩ := pO_gd hf
  refine E_copyC (i := v2) (j := v3) (k0 := v4) (n0 := 16) (n1 := 16) (f := S.2 4) (g := S.2 16) (h' := hX (pAr (pAr (pAr S 14 (va_cpy (S.2 2) (S.2 14) v2.toNatClampNeg v3.toNatClampNeg v4.toNatClampNeg)) 15 (va_cpy (S.2 3) (S.2 15) v2.toNatClampNeg v3.toNatClampNeg v4.toNatClampNeg)) 16 (va_cpy (S.2 4) (S.2 16) v2.toNatClampNeg v3.toNatClampNeg v4.toNatClampNeg))) (by decide +kernel) (by decide +kernel) (by decide +kernel) (by decide +kernel) rfl rfl hc_3 (by decide) (by decide) (by omega) (Nat.le_of_ble_eq_true rfl) (by rfl) dX1_copyPlaces_42 (sX_A16 (pAr (pAr S 14 (va_cpy (S.2 2) (S.2 14) v2.toNatClampNeg v3.toNatClampNeg v4.toNatClampNeg)) 15 (va_cpy (S.2 3) (S.2 15) v2.toNatClampNeg v3.toNatClampNeg v4.toNatClampNeg)) (va_cpy (S.2 4) (S.2 16) v2.toNatClampNeg v3.toNatClampNeg v4.toNatClampNeg)) ?_
  refine E_aload_n dX1_copyPlaces_45 rfl ?_
  refine E_getf (v := .ref 9) dX1_copyPlaces_46 fl_X1_copyPlaces_25 rfl rfl ?_
  refine E_iload_n dX1_copyPlaces_49 rfl ?_
  refine E_aload_n dX1_copyPlaces_50 rfl ?_
  refine E_getf (v := .ref 25) dX1_copyPlaces_51 fl_X1_copyPlaces_25 rfl rfl ?_
  refine E_iload_n dX1_copyPlaces_54 rfl ?_
  refine E_iload dX1_copyPlaces_55 rfl ?_
  obtain ⟨hc_4, hf⟩ := pO_gd hf
  refine E_copyC (i := v2) (j := v3) (k0 := v4) (n0 := 16) (n1 := 16) (f := S.2 5) (g := S.2 17) (h' := hX (pAr (pAr (pAr (pAr S 14 (va_cpy (S.2 2) (S.2 14) v2.toNatClampNeg v3.toNatClampNeg v4.toNatClampNeg)) 15 (va_cpy (S.2 3) (S.2 15) v2.toNatClampNeg v3.toNatClampNeg v4.toNatClampNeg)) 16 (va_cpy (S.2 4) (S.2 16) v2.toNatClampNeg v3.toNatClampNeg v4.toNatClampNeg)) 17 (va_cpy (S.2 5) (S.2 17) v2.toNatClampNeg v3.toNatClampNeg v4.toNatClampNeg))) (by decide +kernel) (by decide +kernel) (by decide +kernel) (by decide +kernel) rfl rfl hc_4 (by decide) (by decide) (by omega) (Nat.le_of_ble_eq_true rfl) (by rfl) dX1_copyPlaces_57 (sX_A17 (pAr (pAr (pAr S 14 (va_cpy (S.2 2) (S.2 14) v2.toNatClampNeg v3.toNatClampNeg v4.toNatClampNeg)) 15 (va_cpy (S.2 3) (S.2 15) v2.toNatClampNeg v3.toNatClampNeg v4.toNatClampNeg)) 16 (va_cpy (S.2 4) (S.2 16) v2.toNatClampNeg v3.toNatClampNeg v4.toNatClampNeg)) (va_cpy (S.2 5) (S.2 17) v2.toNatClampNeg v3.toNatClampNeg v4.toNatClampNeg)) ?_
  refine E_aload_n dX1_copyPlaces_60 rfl ?_
  refine E_getf (v := .ref 10) dX1_copyPlaces_61 fl_X1_copyPlaces_28 rfl rfl ?_
  refine E_iload_n dX1_copyPlaces_64 rfl ?_
  refine E_aload_n dX1_copyPlaces_65 rfl ?_
  refine E_getf (v := .ref 26) dX1_copyPlaces_66 fl_X1_copyPlaces_28 rfl rfl ?_
  refine E_iload_n dX1_copyPlaces_69 rfl ?_
  refine E_iload dX1_copyPlaces_70 rfl ?_
  obtain ⟨hc_5, hf⟩ := pO_gd hf
  refine E_copyC (i := v2) (j := v3) (k0 := v4) (n0 := 16) (n1 := 16) (f := S.2 6) (g := S.2 18) (h' := hX (pAr (pAr (pAr (pAr (pAr S 14 (va_cpy (S.2 2) (S.2 14) v2.toNatClampNeg v3.toNatClampNeg v4.toNatClampNeg)) 15 (va_cpy (S.2 3) (S.2 15) v2.toNatClampNeg v3.toNatClampNeg v4.toNatClampNeg)) 16 (va_cpy (S.2 4) (S.2 16) v2.toNatClampNeg v3.toNatClampNeg v4.toNatClampNeg)) 17 (va_cpy (S.2 5) (S.2 17) v2.toNatClampNeg v3.toNatClampNeg v4.toNatClampNeg)) 18 (va_cpy (S.2 6) (S.2 18) v2.toNatClampNeg v3.toNatClampNeg v4.toNatClampNeg))) (by decide +kernel) (by decide +kernel) (by decide +kernel) (by decide +kernel) rfl rfl hc_5 (by decide) (by decide) (by omega) (Nat.le_of_ble_eq_true rfl) (by rfl) dX1_copyPlaces_72 (sX_A18 (pAr (pAr (pAr (pAr S 14 (va_cpy (S.2 2) (S.2 14) v2.toNatClampNeg v3.toNatClampNeg v4.toNatClampNeg)) 15 (va_cpy (S.2 3) (S.2 15) v2.toNatClampNeg v3.toNatClampNeg v4.toNatClampNeg)) 16 (va_cpy (S.2 4) (S.2 16) v2.toNatClampNeg v3.toNatClampNeg v4.toNatClampNeg)) 17 (va_cpy (S.2 5) (S.2 17) v2.toNatClampNeg v3.toNatClampNeg v4.toNatClampNeg)) (va_cpy (S.2 6) (S.2 18) v2.toNatClampNeg v3.toNatClampNeg v4.toNatClampNeg)) ?_
  refine E_aload_n dX1_copyPlaces_75 rfl ?_
  refine E_getf (v := .ref 11) dX1_copyPlaces_76 fl_X1_copyPlaces_31 rfl rfl ?_
  refine E_iload_n dX1_copyPlaces_79 rfl ?_
  refine E_aload_n dX1_copyPlaces_80 rfl ?_
  refine E_getf (v := .ref 27) dX1_copyPlaces_81 fl_X1_copyPlaces_31 rfl rfl ?_
  refine E_iload_n dX1_copyPlaces_84 rfl ?_
  refine E_iload dX1_copyPlaces_85 rfl ?_
  obtain ⟨hc_6, hf⟩ := pO_gd hf
  refine E_copyC (i := v2) (j := v3) (k0 := v4) (n0 := 16) (n1 := 16) (f := S.2 7) (g := S.2 19) (h' := hX (pAr (pAr (pAr (pAr (pAr (pAr S 14 (va_cpy (S.2 2) (S.2 14) v2.toNatClampNeg v3.toNatClampNeg v4.toNatClampNeg)) 15 (va_cpy (S.2 3) (S.2 15) v2.toNatClampNeg v3.toNatClampNeg v4.toNatClampNeg)) 16 (va_cpy (S.2 4) (S.2 16) v2.toNatClampNeg v3.toNatClampNeg v4.toNatClampNeg)) 17 (va_cpy (S.2 5) (S.2 17) v2.toNatClampNeg v3.toNatClampNeg v4.toNatClampNeg)) 18 (va_cpy (S.2 6) (S.2 18) v2.toNatClampNeg v3.toNatClampNeg v4.toNatClampNeg)) 19 (va_cpy (S.2 7) (S.2 19) v2.toNatClampNeg v3.toNatClampNeg v4.toNatClampNeg))) (by decide +kernel) (by decide +kernel) (by decide +kernel) (by decide +kernel) rfl rfl hc_6 (by decide) (by decide) (by omega) (Nat.le_of_ble_eq_true rfl) (by rfl) dX1_copyPlaces_87 (sX_A19 (pAr (pAr (pAr (pAr (pAr S 14 (va_cpy (S.2 2) (S.2 14) v2.toNatClampNeg v3.toNatClampNeg v4.toNatClampNeg)) 15 (va_cpy (S.2 3) (S.2 15) v2.toNatClampNeg v3.toNatClampNeg v4.toNatClampNeg)) 16 (va_cpy (S.2 4) (S.2 16) v2.toNatClampNeg v3.toNatClampNeg v4.toNatClampNeg)) 17 (va_cpy (S.2 5) (S.2 17) v2.toNatClampNeg v3.toNatClampNeg v4.toNatClampNeg)) 18 (va_cpy (S.2 6) (S.2 18) v2.toNatClampNeg v3.toNatClampNeg v4.toNatClampNeg)) (va_cpy (S.2 7) (S.2 19) v2.toNatClampNeg v3.toNatClampNeg v4.toNatClampNeg)) ?_
  exact E_vret rfl dX1_copyPlaces_90 ⟨0, _, rfl, hf⟩
theorem mf_X1_copyFrom : pMF yX1_copyFrom wsX1_copyFrom cX1_copyFrom 2 none 1 := ⟨⟨_, rfl⟩, by decide +kernel, by decide, by decide +kernel, by decide +kernel, by decide +kernel⟩
def f_X1_copyFrom_21_5 (S : PS) : Option (Int32 × PS) :=
  pbnd (f_X1_copyPlaces_21_5 (pI S 9 (S.1 4)) 0 0 16) (fun _ S_1 => some (0, S_1))
set_option maxRecDepth 100000 in
theorem c_X1_copyFrom_21_5 (l : Launch) (D : va_G) (dA : Nat → ClassId) (ad : Nat → Nat) (S : PS) {P : (Int32 × PS) → Prop} (hf : pO (f_X1_copyFrom_21_5 S) P) : CtV l D dA ad yX1_copyFrom wsX1_copyFrom 2 [.ref 21, .ref 5] (hX S) (fun h' => ∃ (r0 : Int32) (S' : PS), h' = hX S' ∧ P (r0, S')) := by
  refine CtV_of mf_X1_copyFrom rfl rfl (Nat.le_of_ble_eq_true rfl) rfl (hX_len S) ?_
  unfold f_X1_copyFrom_21_5 at hf
  refine E_aload_n dX1_copyFrom_0 rfl ?_
  refine E_aload_n dX1_copyFrom_1 rfl ?_
  refine E_getf (v := .int (S.1 4)) dX1_copyFrom_2 fl_X1_copyFrom_9 rfl rfl ?_
  refine E_putf (h' := hX (pI S 9 (S.1 4))) dX1_copyFrom_5 fl_X1_copyFrom_9 ft_1_0 rfl (Nat.lt_of_lt_of_eq (by decide : 0 < 7) rfl) rfl rfl ⟨_, rfl⟩ (sX_I9 S (S.1 4)) ?_
  refine E_aload_n dX1_copyFrom_8 rfl ?_
  refine E_aload_n dX1_copyFrom_9 rfl ?_
  refine E_iconst (v := 0) dX1_copyFrom_10 (by decide) ?_
  refine E_iconst (v := 0) dX1_copyFrom_11 (by decide) ?_
  refine E_bipush (v := 16) dX1_copyFrom_12 (by decide) ?_
  refine E_callVV (st := []) (c_X1_copyPlaces_21_5 l D dA ad (pI S 9 (S.1 4)) 0 0 16 (pO_bnd hf)) mf_X1_copyPlaces rfl rfl gX1_copyFrom_X1_copyPlaces (pRc.of (ci := 1) rfl rfl) (by omega) rfl (Nat.le_of_ble_eq_true rfl) (by rfl) dX1_copyFrom_14 (fun h1 q1 => ?_)
  obtain ⟨r1, S_1, rfl, hf⟩ := q1
  dsimp only at hf
  exact E_vret rfl dX1_copyFrom_17 ⟨0, _, rfl, hf⟩
theorem fl_X0_copyFrom_28 : pFL wsX0_copyFrom RX0 28 0 2 := ⟨RX0, TX0, 3, hi_X0_copyFrom_0, rfl, by decide, by decide +kernel⟩
theorem hi_X8_copyFrom_8 : ∀ w ∈ u_ws RX8 TX8 4, w ∈ wsX8_copyFrom := fun w h => of_decide_eq_true (List.all_eq_true.mp (by decide +kernel : (u_ws RX8 TX8 4).all (fun w => decide (w ∈ wsX8_copyFrom)) = true) w h)
theorem fl_X8_copyFrom_9 : pFL wsX8_copyFrom RX8 9 8 0 := ⟨RX8, TX8, 4, hi_X8_copyFrom_8, rfl, by decide, by decide +kernel⟩
theorem fl_X8_copyFrom_15 : pFL wsX8_copyFrom RX8 15 8 1 := ⟨RX8, TX8, 4, hi_X8_copyFrom_8, rfl, by decide, by decide +kernel⟩
theorem fl_X8_copyFrom_18 : pFL wsX8_copyFrom RX8 18 8 2 := ⟨RX8, TX8, 4, hi_X8_copyFrom_8, rfl, by decide, by decide +kernel⟩
theorem fl_X8_copyFrom_21 : pFL wsX8_copyFrom RX8 21 8 3 := ⟨RX8, TX8, 4, hi_X8_copyFrom_8, rfl, by decide, by decide +kernel⟩
theorem mf_X8_copyFrom : pMF yX8_copyFrom wsX8_copyFrom cX8_copyFrom 2 none 1 := ⟨⟨_, rfl⟩, by decide +kernel, by decide, by decide +kernel, by decide +kernel, by decide +kernel⟩
def f_X8_copyFrom_28_12 (S : PS) : Option (Int32 × PS) :=
  some (0, (pAr (pAr (pAr (pAr S 20 (va_cpy (S.2 8) (S.2 20) 0 0 4)) 21 (va_cpy (S.2 9) (S.2 21) 0 0 4)) 22 (va_cpy (S.2 10) (S.2 22) 0 0 4)) 23 (va_cpy (S.2 11) (S.2 23) 0 0 4)))
set_option maxRecDepth 100000 in
theorem c_X8_copyFrom_28_12 (l : Launch) (D : va_G) (dA : Nat → ClassId) (ad : Nat → Nat) (S : PS) {P : (Int32 × PS) → Prop} (hf : pO (f_X8_copyFrom_28_12 S) P) : CtV l D dA ad yX8_copyFrom wsX8_copyFrom 1 [.ref 28, .ref 12] (hX S) (fun h' => ∃ (r0 : Int32) (S' : PS), h' = hX S' ∧ P (r0, S')) := by
  refine CtV_of mf_X8_copyFrom rfl rfl (Nat.le_of_ble_eq_true rfl) rfl (hX_len S) ?_
  unfold f_X8_copyFrom_28_12 at hf
  refine E_aload_n dX8_copyFrom_0 rfl ?_
  refine E_getf (v := .ref 13) dX8_copyFrom_1 fl_X8_copyFrom_9 rfl rfl ?_
  refine E_iconst (v := 0) dX8_copyFrom_4 (by decide) ?_
  refine E_aload_n dX8_copyFrom_5 rfl ?_
  refine E_getf (v := .ref 29) dX8_copyFrom_6 fl_X8_copyFrom_9 rfl rfl ?_
  refine E_iconst (v := 0) dX8_copyFrom_9 (by decide) ?_
  refine E_iconst (v := 4) dX8_copyFrom_10 (by decide) ?_
  refine E_copy (i := 0) (j := 0) (k0 := 4) (n0 := 4) (n1 := 4) (f := S.2 8) (g := S.2 20) (h' := hX (pAr S 20 (va_cpy (S.2 8) (S.2 20) 0 0 4))) (by decide +kernel) (by decide +kernel) (by decide +kernel) (by decide +kernel) rfl rfl (by decide) (by decide) (by decide) (by decide) (by omega) (Nat.le_of_ble_eq_true rfl) (by rfl) dX8_copyFrom_11 (sX_A20 S (va_cpy (S.2 8) (S.2 20) 0 0 4)) ?_
  refine E_aload_n dX8_copyFrom_14 rfl ?_
  refine E_getf (v := .ref 14) dX8_copyFrom_15 fl_X8_copyFrom_15 rfl rfl ?_
  refine E_iconst (v := 0) dX8_copyFrom_18 (by decide) ?_
  refine E_aload_n dX8_copyFrom_19 rfl ?_
  refine E_getf (v := .ref 30) dX8_copyFrom_20 fl_X8_copyFrom_15 rfl rfl ?_
  refine E_iconst (v := 0) dX8_copyFrom_23 (by decide) ?_
  refine E_iconst (v := 4) dX8_copyFrom_24 (by decide) ?_
  refine E_copy (i := 0) (j := 0) (k0 := 4) (n0 := 4) (n1 := 4) (f := S.2 9) (g := S.2 21) (h' := hX (pAr (pAr S 20 (va_cpy (S.2 8) (S.2 20) 0 0 4)) 21 (va_cpy (S.2 9) (S.2 21) 0 0 4))) (by decide +kernel) (by decide +kernel) (by decide +kernel) (by decide +kernel) rfl rfl (by decide) (by decide) (by decide) (by decide) (by omega) (Nat.le_of_ble_eq_true rfl) (by rfl) dX8_copyFrom_25 (sX_A21 (pAr S 20 (va_cpy (S.2 8) (S.2 20) 0 0 4)) (va_cpy (S.2 9) (S.2 21) 0 0 4)) ?_
  refine E_aload_n dX8_copyFrom_28 rfl ?_
  refine E_getf (v := .ref 15) dX8_copyFrom_29 fl_X8_copyFrom_18 rfl rfl ?_
  refine E_iconst (v := 0) dX8_copyFrom_32 (by decide) ?_
  refine E_aload_n dX8_copyFrom_33 rfl ?_
  refine E_getf (v := .ref 31) dX8_copyFrom_34 fl_X8_copyFrom_18 rfl rfl ?_
  refine E_iconst (v := 0) dX8_copyFrom_37 (by decide) ?_
  refine E_iconst (v := 4) dX8_copyFrom_38 (by decide) ?_
  refine E_copy (i := 0) (j := 0) (k0 := 4) (n0 := 4) (n1 := 4) (f := S.2 10) (g := S.2 22) (h' := hX (pAr (pAr (pAr S 20 (va_cpy (S.2 8) (S.2 20) 0 0 4)) 21 (va_cpy (S.2 9) (S.2 21) 0 0 4)) 22 (va_cpy (S.2 10) (S.2 22) 0 0 4))) (by decide +kernel) (by decide +kernel) (by decide +kernel) (by decide +kernel) rfl rfl (by decide) (by decide) (by decide) (by decide) (by omega) (Nat.le_of_ble_eq_true rfl) (by rfl) dX8_copyFrom_39 (sX_A22 (pAr (pAr S 20 (va_cpy (S.2 8) (S.2 20) 0 0 4)) 21 (va_cpy (S.2 9) (S.2 21) 0 0 4)) (va_cpy (S.2 10) (S.2 22) 0 0 4)) ?_
  refine E_aload_n dX8_copyFrom_42 rfl ?_
  refine E_getf (v := .ref 16) dX8_copyFrom_43 fl_X8_copyFrom_21 rfl rfl ?_
  refine E_iconst (v := 0) dX8_copyFrom_46 (by decide) ?_
  refine E_aload_n dX8_copyFrom_47 rfl ?_
  refine E_getf (v := .ref 32) dX8_copyFrom_48 fl_X8_copyFrom_21 rfl rfl ?_
  refine E_iconst (v := 0) dX8_copyFrom_51 (by decide) ?_
  refine E_iconst (v := 4) dX8_copyFrom_52 (by decide) ?_
  refine E_copy (i := 0) (j := 0) (k0 := 4) (n0 := 4) (n1 := 4) (f := S.2 11) (g := S.2 23) (h' := hX (pAr (pAr (pAr (pAr S 20 (va_cpy (S.2 8) (S.2 20) 0 0 4)) 21 (va_cpy (S.2 9) (S.2 21) 0 0 4)) 22 (va_cpy (S.2 10) (S.2 22) 0 0 4)) 23 (va_cpy (S.2 11) (S.2 23) 0 0 4))) (by decide +kernel) (by decide +kernel) (by decide +kernel) (by decide +kernel) rfl rfl (by decide) (by decide) (by decide) (by decide) (by omega) (Nat.le_of_ble_eq_true rfl) (by rfl) dX8_copyFrom_53 (sX_A23 (pAr (pAr (pAr S 20 (va_cpy (S.2 8) (S.2 20) 0 0 4)) 21 (va_cpy (S.2 9) (S.2 21) 0 0 4)) 22 (va_cpy (S.2 10) (S.2 22) 0 0 4)) (va_cpy (S.2 11) (S.2 23) 0 0 4)) ?_
  exact E_vret rfl dX8_copyFrom_56 ⟨0, _, rfl, hf⟩
theorem mf_X0_copyFrom : pMF yX0_copyFrom wsX0_copyFrom cX0_copyFrom 2 none 1 := ⟨⟨_, rfl⟩, by decide +kernel, by decide, by decide +kernel, by decide +kernel, by decide +kernel⟩
def f_X0_copyFrom_17_1 (S : PS) : Option (Int32 × PS) :=
  pbnd (f_X2_copyFrom_18_2 S) (fun _ S_1 => pbnd (f_X1_copyFrom_21_5 S_1) (fun _ S_2 => pbnd (f_X8_copyFrom_28_12 S_2) (fun _ S_3 => some (0, S_3))))
set_option maxRecDepth 100000 in
theorem c_X0_copyFrom_17_1 (l : Launch) (D : va_G) (dA : Nat → ClassId) (ad : Nat → Nat) (S : PS) {P : (Int32 × PS) → Prop} (hf : pO (f_X0_copyFrom_17_1 S) P) : CtV l D dA ad yX0_copyFrom wsX0_copyFrom 3 [.ref 17, .ref 1] (hX S) (fun h' => ∃ (r0 : Int32) (S' : PS), h' = hX S' ∧ P (r0, S')) := by
  refine CtV_of mf_X0_copyFrom rfl rfl (Nat.le_of_ble_eq_true rfl) rfl (hX_len S) ?_
  unfold f_X0_copyFrom_17_1 at hf
  refine E_aload_n dX0_copyFrom_0 rfl ?_
  refine E_getf (v := .ref 18) dX0_copyFrom_1 fl_X0_copyFrom_12 rfl rfl ?_
  refine E_aload_n dX0_copyFrom_4 rfl ?_
  refine E_getf (v := .ref 2) dX0_copyFrom_5 fl_X0_copyFrom_12 rfl rfl ?_
  refine E_callVV (st := []) (c_X2_copyFrom_18_2 l D dA ad S (pO_bnd hf)) mf_X2_copyFrom rfl rfl gX0_copyFrom_X2_copyFrom (pRc.of (ci := 2) rfl rfl) (by omega) rfl (Nat.le_of_ble_eq_true rfl) (by rfl) dX0_copyFrom_8 (fun h1 q1 => ?_)
  obtain ⟨r1, S_1, rfl, hf⟩ := q1
  dsimp only at hf
  refine E_aload_n dX0_copyFrom_11 rfl ?_
  refine E_getf (v := .ref 21) dX0_copyFrom_12 fl_X0_copyFrom_21 rfl rfl ?_
  refine E_aload_n dX0_copyFrom_15 rfl ?_
  refine E_getf (v := .ref 5) dX0_copyFrom_16 fl_X0_copyFrom_21 rfl rfl ?_
  refine E_callVV (st := []) (c_X1_copyFrom_21_5 l D dA ad S_1 (pO_bnd hf)) mf_X1_copyFrom rfl rfl gX0_copyFrom_X1_copyFrom (pRc.of (ci := 1) rfl rfl) (by omega) rfl (Nat.le_of_ble_eq_true rfl) (by rfl) dX0_copyFrom_19 (fun h2 q2 => ?_)
  obtain ⟨r2, S_2, rfl, hf⟩ := q2
  dsimp only at hf
  refine E_aload_n dX0_copyFrom_22 rfl ?_
  refine E_getf (v := .ref 28) dX0_copyFrom_23 fl_X0_copyFrom_28 rfl rfl ?_
  refine E_aload_n dX0_copyFrom_26 rfl ?_
  refine E_getf (v := .ref 12) dX0_copyFrom_27 fl_X0_copyFrom_28 rfl rfl ?_
  refine E_callVV (st := []) (c_X8_copyFrom_28_12 l D dA ad S_2 (pO_bnd hf)) mf_X8_copyFrom rfl rfl gX0_copyFrom_X8_copyFrom (pRc.of (ci := 8) rfl rfl) (by omega) rfl (Nat.le_of_ble_eq_true rfl) (by rfl) dX0_copyFrom_30 (fun h3 q3 => ?_)
  obtain ⟨r3, S_3, rfl, hf⟩ := q3
  dsimp only at hf
  exact E_vret rfl dX0_copyFrom_33 ⟨0, _, rfl, hf⟩
theorem fl_X11_image_21 : pFL wsX11_image RX11 21 11 2 := ⟨RX11, TX11, 10, hi_X11_image_11, rfl, by decide, by decide +kernel⟩
theorem ft_11_2 : pFT 11 2 .boolean := ⟨RX11, TX11, 10, tyX11, rfl, by decide, tyX11_ok, nmX11, rfl, by decide +kernel⟩
theorem hi_X11_image_0 : ∀ w ∈ u_ws RX0 TX0 3, w ∈ wsX11_image := fun w h => of_decide_eq_true (List.all_eq_true.mp (by decide +kernel : (u_ws RX0 TX0 3).all (fun w => decide (w ∈ wsX11_image)) = true) w h)
theorem fl_X11_image_131 : pFL wsX11_image RX11 131 0 1 := ⟨RX0, TX0, 3, hi_X11_image_0, rfl, by decide, by decide +kernel⟩
theorem hi_X11_image_1 : ∀ w ∈ u_ws RX1 TX1 7, w ∈ wsX11_image := fun w h => of_decide_eq_true (List.all_eq_true.mp (by decide +kernel : (u_ws RX1 TX1 7).all (fun w => decide (w ∈ wsX11_image)) = true) w h)
theorem fl_X11_image_140 : pFL wsX11_image RX11 140 1 0 := ⟨RX1, TX1, 7, hi_X11_image_1, rfl, by decide, by decide +kernel⟩
theorem mf_X11_image : pMF yX11_image wsX11_image cX11_image 1 (some .int) 0 := ⟨⟨_, rfl⟩, by decide +kernel, by decide, by decide +kernel, by decide +kernel, by decide +kernel⟩
def f_X11_image (S : PS) : Option (Int32 × PS) :=
  pbnd (f_X0_copyFrom_17_1 S) (fun _ S_1 => some (S_1.1 9, (pI S_1 10 1)))
set_option maxRecDepth 100000 in
theorem c_X11_image (l : Launch) (D : va_G) (dA : Nat → ClassId) (ad : Nat → Nat) (S : PS) {P : (Int32 × PS) → Prop} (hf : pO (f_X11_image S) P) : CtI l D dA ad yX11_image wsX11_image 4 [.ref 0] (hX S) (fun r h' => ∃ S' : PS, h' = hX S' ∧ P (r, S')) := by
  refine CtI_of mf_X11_image rfl rfl (Nat.le_of_ble_eq_true rfl) rfl (hX_len S) ?_
  unfold f_X11_image at hf
  refine E_aload_n dX11_image_0 rfl ?_
  refine E_getf (v := .ref 17) dX11_image_1 fl_X11_image_18 rfl rfl ?_
  refine E_aload_n dX11_image_4 rfl ?_
  refine E_getf (v := .ref 1) dX11_image_5 fl_X11_image_12 rfl rfl ?_
  refine E_callVV (st := []) (c_X0_copyFrom_17_1 l D dA ad S (pO_bnd hf)) mf_X0_copyFrom rfl rfl gX11_image_X0_copyFrom (pRc.of (ci := 0) rfl rfl) (by omega) rfl (Nat.le_of_ble_eq_true rfl) (by rfl) dX11_image_8 (fun h1 q1 => ?_)
  obtain ⟨r1, S_1, rfl, hf⟩ := q1
  dsimp only at hf
  refine E_aload_n dX11_image_11 rfl ?_
  refine E_iconst (v := 1) dX11_image_12 (by decide) ?_
  refine E_putf (h' := hX (pI S_1 10 1)) dX11_image_13 fl_X11_image_21 ft_11_2 rfl (Nat.lt_of_lt_of_eq (by decide : 2 < 10) rfl) (by decide) (by decide) ⟨_, rfl⟩ (sX_I10 S_1 1) ?_
  refine E_aload_n dX11_image_16 rfl ?_
  refine E_getf (v := .ref 17) dX11_image_17 fl_X11_image_18 rfl rfl ?_
  refine E_getf (v := .ref 21) dX11_image_20 fl_X11_image_131 rfl rfl ?_
  refine E_getf (v := .int (S_1.1 9)) dX11_image_23 fl_X11_image_140 rfl rfl ?_
  exact E_iret rfl dX11_image_26 ⟨_, rfl, hf⟩
theorem hi_X11_undo_11 : ∀ w ∈ u_ws RX11 TX11 10, w ∈ wsX11_undo := fun w h => of_decide_eq_true (List.all_eq_true.mp (by decide +kernel : (u_ws RX11 TX11 10).all (fun w => decide (w ∈ wsX11_undo)) = true) w h)
theorem fl_X11_undo_21 : pFL wsX11_undo RX11 21 11 2 := ⟨RX11, TX11, 10, hi_X11_undo_11, rfl, by decide, by decide +kernel⟩
theorem fl_X11_undo_12 : pFL wsX11_undo RX11 12 11 0 := ⟨RX11, TX11, 10, hi_X11_undo_11, rfl, by decide, by decide +kernel⟩
theorem fl_X11_undo_18 : pFL wsX11_undo RX11 18 11 1 := ⟨RX11, TX11, 10, hi_X11_undo_11, rfl, by decide, by decide +kernel⟩
def f_X2_copyFrom_2_18 (S : PS) : Option (Int32 × PS) :=
  some (0, (pAr (pAr (pI (pI (pI (pI S 0 (S.1 5)) 1 (S.1 6)) 2 (S.1 7)) 3 (S.1 8)) 0 (va_cpy (S.2 12) (S.2 0) 0 0 10)) 1 (va_cpy (S.2 13) (S.2 1) 0 0 10)))
set_option maxRecDepth 100000 in
theorem c_X2_copyFrom_2_18 (l : Launch) (D : va_G) (dA : Nat → ClassId) (ad : Nat → Nat) (S : PS) {P : (Int32 × PS) → Prop} (hf : pO (f_X2_copyFrom_2_18 S) P) : CtV l D dA ad yX2_copyFrom wsX2_copyFrom 1 [.ref 2, .ref 18] (hX S) (fun h' => ∃ (r0 : Int32) (S' : PS), h' = hX S' ∧ P (r0, S')) := by
  refine CtV_of mf_X2_copyFrom rfl rfl (Nat.le_of_ble_eq_true rfl) rfl (hX_len S) ?_
  unfold f_X2_copyFrom_2_18 at hf
  refine E_aload_n dX2_copyFrom_0 rfl ?_
  refine E_aload_n dX2_copyFrom_1 rfl ?_
  refine E_getf (v := .int (S.1 5)) dX2_copyFrom_2 fl_X2_copyFrom_9 rfl rfl ?_
  refine E_putf (h' := hX (pI S 0 (S.1 5))) dX2_copyFrom_5 fl_X2_copyFrom_9 ft_2_0 rfl (Nat.lt_of_lt_of_eq (by decide : 0 < 6) rfl) rfl rfl ⟨_, rfl⟩ (sX_I0 S (S.1 5)) ?_
  refine E_aload_n dX2_copyFrom_8 rfl ?_
  refine E_aload_n dX2_copyFrom_9 rfl ?_
  refine E_getf (v := .int (S.1 6)) dX2_copyFrom_10 fl_X2_copyFrom_15 rfl rfl ?_
  refine E_putf (h' := hX (pI (pI S 0 (S.1 5)) 1 (S.1 6))) dX2_copyFrom_13 fl_X2_copyFrom_15 ft_2_1 rfl (Nat.lt_of_lt_of_eq (by decide : 1 < 6) rfl) rfl rfl ⟨_, rfl⟩ (sX_I1 (pI S 0 (S.1 5)) (S.1 6)) ?_
  refine E_aload_n dX2_copyFrom_16 rfl ?_
  refine E_aload_n dX2_copyFrom_17 rfl ?_
  refine E_getf (v := .int (S.1 7)) dX2_copyFrom_18 fl_X2_copyFrom_18 rfl rfl ?_
  refine E_putf (h' := hX (pI (pI (pI S 0 (S.1 5)) 1 (S.1 6)) 2 (S.1 7))) dX2_copyFrom_21 fl_X2_copyFrom_18 ft_2_2 rfl (Nat.lt_of_lt_of_eq (by decide : 2 < 6) rfl) rfl rfl ⟨_, rfl⟩ (sX_I2 (pI (pI S 0 (S.1 5)) 1 (S.1 6)) (S.1 7)) ?_
  refine E_aload_n dX2_copyFrom_24 rfl ?_
  refine E_aload_n dX2_copyFrom_25 rfl ?_
  refine E_getf (v := .int (S.1 8)) dX2_copyFrom_26 fl_X2_copyFrom_21 rfl rfl ?_
  refine E_putf (h' := hX (pI (pI (pI (pI S 0 (S.1 5)) 1 (S.1 6)) 2 (S.1 7)) 3 (S.1 8))) dX2_copyFrom_29 fl_X2_copyFrom_21 ft_2_3 rfl (Nat.lt_of_lt_of_eq (by decide : 3 < 6) rfl) rfl rfl ⟨_, rfl⟩ (sX_I3 (pI (pI (pI S 0 (S.1 5)) 1 (S.1 6)) 2 (S.1 7)) (S.1 8)) ?_
  refine E_aload_n dX2_copyFrom_32 rfl ?_
  refine E_getf (v := .ref 19) dX2_copyFrom_33 fl_X2_copyFrom_24 rfl rfl ?_
  refine E_iconst (v := 0) dX2_copyFrom_36 (by decide) ?_
  refine E_aload_n dX2_copyFrom_37 rfl ?_
  refine E_getf (v := .ref 3) dX2_copyFrom_38 fl_X2_copyFrom_24 rfl rfl ?_
  refine E_iconst (v := 0) dX2_copyFrom_41 (by decide) ?_
  refine E_aload_n dX2_copyFrom_42 rfl ?_
  refine E_getf (v := .ref 3) dX2_copyFrom_43 fl_X2_copyFrom_24 rfl rfl ?_
  refine E_alen dX2_copyFrom_46 rfl (by decide) ?_
  refine E_val (y := 10) rfl ?_
  refine E_copy (i := 0) (j := 0) (k0 := 10) (n0 := 10) (n1 := 10) (f := S.2 12) (g := S.2 0) (h' := hX (pAr (pI (pI (pI (pI S 0 (S.1 5)) 1 (S.1 6)) 2 (S.1 7)) 3 (S.1 8)) 0 (va_cpy (S.2 12) (S.2 0) 0 0 10))) (by decide +kernel) (by decide +kernel) (by decide +kernel) (by decide +kernel) rfl rfl (by decide) (by decide) (by decide) (by decide) (by omega) (Nat.le_of_ble_eq_true rfl) (by rfl) dX2_copyFrom_47 (sX_A0 (pI (pI (pI (pI S 0 (S.1 5)) 1 (S.1 6)) 2 (S.1 7)) 3 (S.1 8)) (va_cpy (S.2 12) (S.2 0) 0 0 10)) ?_
  refine E_aload_n dX2_copyFrom_50 rfl ?_
  refine E_getf (v := .ref 20) dX2_copyFrom_51 fl_X2_copyFrom_28 rfl rfl ?_
  refine E_iconst (v := 0) dX2_copyFrom_54 (by decide) ?_
  refine E_aload_n dX2_copyFrom_55 rfl ?_
  refine E_getf (v := .ref 4) dX2_copyFrom_56 fl_X2_copyFrom_28 rfl rfl ?_
  refine E_iconst (v := 0) dX2_copyFrom_59 (by decide) ?_
  refine E_aload_n dX2_copyFrom_60 rfl ?_
  refine E_getf (v := .ref 4) dX2_copyFrom_61 fl_X2_copyFrom_28 rfl rfl ?_
  refine E_alen dX2_copyFrom_64 rfl (by decide) ?_
  refine E_val (y := 10) rfl ?_
  refine E_copy (i := 0) (j := 0) (k0 := 10) (n0 := 10) (n1 := 10) (f := S.2 13) (g := S.2 1) (h' := hX (pAr (pAr (pI (pI (pI (pI S 0 (S.1 5)) 1 (S.1 6)) 2 (S.1 7)) 3 (S.1 8)) 0 (va_cpy (S.2 12) (S.2 0) 0 0 10)) 1 (va_cpy (S.2 13) (S.2 1) 0 0 10))) (by decide +kernel) (by decide +kernel) (by decide +kernel) (by decide +kernel) rfl rfl (by decide) (by decide) (by decide) (by decide) (by omega) (Nat.le_of_ble_eq_true rfl) (by rfl) dX2_copyFrom_65 (sX_A1 (pAr (pI (pI (pI (pI S 0 (S.1 5)) 1 (S.1 6)) 2 (S.1 7)) 3 (S.1 8)) 0 (va_cpy (S.2 12) (S.2 0) 0 0 10)) (va_cpy (S.2 13) (S.2 1) 0 0 10)) ?_
  exact E_vret rfl dX2_copyFrom_68 ⟨0, _, rfl, hf⟩
def f_X1_copyPlaces_5_21 (S : PS) (v2 : Int32) (v3 : Int32) (v4 : Int32) : Option (Int32 × PS) :=
  pgd (pcpy v2 v3 v4 16 16) (pgd (pcpy v2 v3 v4 16 16) (pgd (pcpy v2 v3 v4 16 16) (pgd (pcpy v2 v3 v4 16 16) (pgd (pcpy v2 v3 v4 16 16) (pgd (pcpy v2 v3 v4 16 16) (some (0, (pAr (pAr (pAr (pAr (pAr (pAr S 2 (va_cpy (S.2 14) (S.2 2) v2.toNatClampNeg v3.toNatClampNeg v4.toNatClampNeg)) 3 (va_cpy (S.2 15) (S.2 3) v2.toNatClampNeg v3.toNatClampNeg v4.toNatClampNeg)) 4 (va_cpy (S.2 16) (S.2 4) v2.toNatClampNeg v3.toNatClampNeg v4.toNatClampNeg)) 5 (va_cpy (S.2 17) (S.2 5) v2.toNatClampNeg v3.toNatClampNeg v4.toNatClampNeg)) 6 (va_cpy (S.2 18) (S.2 6) v2.toNatClampNeg v3.toNatClampNeg v4.toNatClampNeg)) 7 (va_cpy (S.2 19) (S.2 7) v2.toNatClampNeg v3.toNatClampNeg v4.toNatClampNeg)))))))))
set_option maxRecDepth 100000 in
theorem c_X1_copyPlaces_5_21 (l : Launch) (D : va_G) (dA : Nat → ClassId) (ad : Nat → Nat) (S : PS) (v2 : Int32) (v3 : Int32) (v4 : Int32) {P : (Int32 × PS) → Prop} (hf : pO (f_X1_copyPlaces_5_21 S v2 v3 v4) P) : CtV l D dA ad yX1_copyPlaces wsX1_copyPlaces 1 [.ref 5, .ref 21, .int v2, .int v3, .int v4] (hX S) (fun h' => ∃ (r0 : Int32) (S' : PS), h' = hX S' ∧ P (r0, S')) := by
  refine CtV_of mf_X1_copyPlaces rfl rfl (Nat.le_of_ble_eq_true rfl) rfl (hX_len S) ?_
  unfold f_X1_copyPlaces_5_21 at hf
  refine E_aload_n dX1_copyPlaces_0 rfl ?_
  refine E_getf (v := .ref 22) dX1_copyPlaces_1 fl_X1_copyPlaces_15 rfl rfl ?_
  refine E_iload_n dX1_copyPlaces_4 rfl ?_
  refine E_aload_n dX1_copyPlaces_5 rfl ?_
  refine E_getf (v := .ref 6) dX1_copyPlaces_6 fl_X1_copyPlaces_15 rfl rfl ?_
  refine E_iload_n dX1_copyPlaces_9 rfl ?_
  refine E_iload dX1_copyPlaces_10 rfl ?_
  obtain ⟨hc_1, hf⟩ := pO_gd hf
  refine E_copyC (i := v2) (j := v3) (k0 := v4) (n0 := 16) (n1 := 16) (f := S.2 14) (g := S.2 2) (h' := hX (pAr S 2 (va_cpy (S.2 14) (S.2 2) v2.toNatClampNeg v3.toNatClampNeg v4.toNatClampNeg))) (by decide +kernel) (by decide +kernel) (by decide +kernel) (by decide +kernel) rfl rfl hc_1 (by decide) (by decide) (by omega) (Nat.le_of_ble_eq_true rfl) (by rfl) dX1_copyPlaces_12 (sX_A2 S (va_cpy (S.2 14) (S.2 2) v2.toNatClampNeg v3.toNatClampNeg v4.toNatClampNeg)) ?_
  refine E_aload_n dX1_copyPlaces_15 rfl ?_
  refine E_getf (v := .ref 23) dX1_copyPlaces_16 fl_X1_copyPlaces_19 rfl rfl ?_
  refine E_iload_n dX1_copyPlaces_19 rfl ?_
  refine E_aload_n dX1_copyPlaces_20 rfl ?_
  refine E_getf (v := .ref 7) dX1_copyPlaces_21 fl_X1_copyPlaces_19 rfl rfl ?_
  refine E_iload_n dX1_copyPlaces_24 rfl ?_
  refine E_iload dX1_copyPlaces_25 rfl ?_
  obtain ⟨hc_2, hf⟩ := pO_gd hf
  refine E_copyC (i := v2) (j := v3) (k0 := v4) (n0 := 16) (n1 := 16) (f := S.2 15) (g := S.2 3) (h' := hX (pAr (pAr S 2 (va_cpy (S.2 14) (S.2 2) v2.toNatClampNeg v3.toNatClampNeg v4.toNatClampNeg)) 3 (va_cpy (S.2 15) (S.2 3) v2.toNatClampNeg v3.toNatClampNeg v4.toNatClampNeg))) (by decide +kernel) (by decide +kernel) (by decide +kernel) (by decide +kernel) rfl rfl hc_2 (by decide) (by decide) (by omega) (Nat.le_of_ble_eq_true rfl) (by rfl) dX1_copyPlaces_27 (sX_A3 (pAr S 2 (va_cpy (S.2 14) (S.2 2) v2.toNatClampNeg v3.toNatClampNeg v4.toNatClampNeg)) (va_cpy (S.2 15) (S.2 3) v2.toNatClampNeg v3.toNatClampNeg v4.toNatClampNeg)) ?_
  refine E_aload_n dX1_copyPlaces_30 rfl ?_
  refine E_getf (v := .ref 24) dX1_copyPlaces_31 fl_X1_copyPlaces_22 rfl rfl ?_
  refine E_iload_n dX1_copyPlaces_34 rfl ?_
  refine E_aload_n dX1_copyPlaces_35 rfl ?_
  refine E_getf (v := .ref 8) dX1_copyPlaces_36 fl_X1_copyPlaces_22 rfl rfl ?_
  refine E_iload_n dX1_copyPlaces_39 rfl ?_
  refine E_iload dX1_copyPlaces_40 rfl ?_
  obtain ⟨hc_3, hf⟩ := pO_gd hf
  refine E_copyC (i := v2) (j := v3) (k0 := v4) (n0 := 16) (n1 := 16) (f := S.2 16) (g := S.2 4) (h' := hX (pAr (pAr (pAr S 2 (va_cpy (S.2 14) (S.2 2) v2.toNatClampNeg v3.toNatClampNeg v4.toNatClampNeg)) 3 (va_cpy (S.2 15) (S.2 3) v2.toNatClampNeg v3.toNatClampNeg v4.toNatClampNeg)) 4 (va_cpy (S.2 16) (S.2 4) v2.toNatClampNeg v3.toNatClampNeg v4.toNatClampNeg))) (by decide +kernel) (by decide +kernel) (by decide +kernel) (by decide +kernel) rfl rfl hc_3 (by decide) (by decide) (by omega) (Nat.le_of_ble_eq_true rfl) (by rfl) dX1_copyPlaces_42 (sX_A4 (pAr (pAr S 2 (va_cpy (S.2 14) (S.2 2) v2.toNatClampNeg v3.toNatClampNeg v4.toNatClampNeg)) 3 (va_cpy (S.2 15) (S.2 3) v2.toNatClampNeg v3.toNatClampNeg v4.toNatClampNeg)) (va_cpy (S.2 16) (S.2 4) v2.toNatClampNeg v3.toNatClampNeg v4.toNatClampNeg)) ?_
  refine E_aload_n dX1_copyPlaces_45 rfl ?_
  refine E_getf (v := .ref 25) dX1_copyPlaces_46 fl_X1_copyPlaces_25 rfl rfl ?_
  refine E_iload_n dX1_copyPlaces_49 rfl ?_
  refine E_aload_n dX1_copyPlaces_50 rfl ?_
  refine E_getf (v := .ref 9) dX1_copyPlaces_51 fl_X1_copyPlaces_25 rfl rfl ?_
  refine E_iload_n dX1_copyPlaces_54 rfl ?_
  refine E_iload dX1_copyPlaces_55 rfl ?_
  obtain ⟨hc_4, hf⟩ := pO_gd hf
  refine E_copyC (i := v2) (j := v3) (k0 := v4) (n0 := 16) (n1 := 16) (f := S.2 17) (g := S.2 5) (h' := hX (pAr (pAr (pAr (pAr S 2 (va_cpy (S.2 14) (S.2 2) v2.toNatClampNeg v3.toNatClampNeg v4.toNatClampNeg)) 3 (va_cpy (S.2 15) (S.2 3) v2.toNatClampNeg v3.toNatClampNeg v4.toNatClampNeg)) 4 (va_cpy (S.2 16) (S.2 4) v2.toNatClampNeg v3.toNatClampNeg v4.toNatClampNeg)) 5 (va_cpy (S.2 17) (S.2 5) v2.toNatClampNeg v3.toNatClampNeg v4.toNatClampNeg))) (by decide +kernel) (by decide +kernel) (by decide +kernel) (by decide +kernel) rfl rfl hc_4 (by decide) (by decide) (by omega) (Nat.le_of_ble_eq_true rfl) (by rfl) dX1_copyPlaces_57 (sX_A5 (pAr (pAr (pAr S 2 (va_cpy (S.2 14) (S.2 2) v2.toNatClampNeg v3.toNatClampNeg v4.toNatClampNeg)) 3 (va_cpy (S.2 15) (S.2 3) v2.toNatClampNeg v3.toNatClampNeg v4.toNatClampNeg)) 4 (va_cpy (S.2 16) (S.2 4) v2.toNatClampNeg v3.toNatClampNeg v4.toNatClampNeg)) (va_cpy (S.2 17) (S.2 5) v2.toNatClampNeg v3.toNatClampNeg v4.toNatClampNeg)) ?_
  refine E_aload_n dX1_copyPlaces_60 rfl ?_
  refine E_getf (v := .ref 26) dX1_copyPlaces_61 fl_X1_copyPlaces_28 rfl rfl ?_
  refine E_iload_n dX1_copyPlaces_64 rfl ?_
  refine E_aload_n dX1_copyPlaces_65 rfl ?_
  refine E_getf (v := .ref 10) dX1_copyPlaces_66 fl_X1_copyPlaces_28 rfl rfl ?_
  refine E_iload_n dX1_copyPlaces_69 rfl ?_
  refine E_iload dX1_copyPlaces_70 rfl ?_
  obtain ⟨hc_5, hf⟩ := pO_gd hf
  refine E_copyC (i := v2) (j := v3) (k0 := v4) (n0 := 16) (n1 := 16) (f := S.2 18) (g := S.2 6) (h' := hX (pAr (pAr (pAr (pAr (pAr S 2 (va_cpy (S.2 14) (S.2 2) v2.toNatClampNeg v3.toNatClampNeg v4.toNatClampNeg)) 3 (va_cpy (S.2 15) (S.2 3) v2.toNatClampNeg v3.toNatClampNeg v4.toNatClampNeg)) 4 (va_cpy (S.2 16) (S.2 4) v2.toNatClampNeg v3.toNatClampNeg v4.toNatClampNeg)) 5 (va_cpy (S.2 17) (S.2 5) v2.toNatClampNeg v3.toNatClampNeg v4.toNatClampNeg)) 6 (va_cpy (S.2 18) (S.2 6) v2.toNatClampNeg v3.toNatClampNeg v4.toNatClampNeg))) (by decide +kernel) (by decide +kernel) (by decide +kernel) (by decide +kernel) rfl rfl hc_5 (by decide) (by decide) (by omega) (Nat.le_of_ble_eq_true rfl) (by rfl) dX1_copyPlaces_72 (sX_A6 (pAr (pAr (pAr (pAr S 2 (va_cpy (S.2 14) (S.2 2) v2.toNatClampNeg v3.toNatClampNeg v4.toNatClampNeg)) 3 (va_cpy (S.2 15) (S.2 3) v2.toNatClampNeg v3.toNatClampNeg v4.toNatClampNeg)) 4 (va_cpy (S.2 16) (S.2 4) v2.toNatClampNeg v3.toNatClampNeg v4.toNatClampNeg)) 5 (va_cpy (S.2 17) (S.2 5) v2.toNatClampNeg v3.toNatClampNeg v4.toNatClampNeg)) (va_cpy (S.2 18) (S.2 6) v2.toNatClampNeg v3.toNatClampNeg v4.toNatClampNeg)) ?_
  refine E_aload_n dX1_copyPlaces_75 rfl ?_
  refine E_getf (v := .ref 27) dX1_copyPlaces_76 fl_X1_copyPlaces_31 rfl rfl ?_
  refine E_iload_n dX1_copyPlaces_79 rfl ?_
  refine E_aload_n dX1_copyPlaces_80 rfl ?_
  refine E_getf (v := .ref 11) dX1_copyPlaces_81 fl_X1_copyPlaces_31 rfl rfl ?_
  refine E_iload_n dX1_copyPlaces_84 rfl ?_
  refine E_iload dX1_copyPlaces_85 rfl ?_
  obtain ⟨hc_6, hf⟩ := pO_gd hf
  refine E_copyC (i := v2) (j := v3) (k0 := v4) (n0 := 16) (n1 := 16) (f := S.2 19) (g := S.2 7) (h' := hX (pAr (pAr (pAr (pAr (pAr (pAr S 2 (va_cpy (S.2 14) (S.2 2) v2.toNatClampNeg v3.toNatClampNeg v4.toNatClampNeg)) 3 (va_cpy (S.2 15) (S.2 3) v2.toNatClampNeg v3.toNatClampNeg v4.toNatClampNeg)) 4 (va_cpy (S.2 16) (S.2 4) v2.toNatClampNeg v3.toNatClampNeg v4.toNatClampNeg)) 5 (va_cpy (S.2 17) (S.2 5) v2.toNatClampNeg v3.toNatClampNeg v4.toNatClampNeg)) 6 (va_cpy (S.2 18) (S.2 6) v2.toNatClampNeg v3.toNatClampNeg v4.toNatClampNeg)) 7 (va_cpy (S.2 19) (S.2 7) v2.toNatClampNeg v3.toNatClampNeg v4.toNatClampNeg))) (by decide +kernel) (by decide +kernel) (by decide +kernel) (by decide +kernel) rfl rfl hc_6 (by decide) (by decide) (by omega) (Nat.le_of_ble_eq_true rfl) (by rfl) dX1_copyPlaces_87 (sX_A7 (pAr (pAr (pAr (pAr (pAr S 2 (va_cpy (S.2 14) (S.2 2) v2.toNatClampNeg v3.toNatClampNeg v4.toNatClampNeg)) 3 (va_cpy (S.2 15) (S.2 3) v2.toNatClampNeg v3.toNatClampNeg v4.toNatClampNeg)) 4 (va_cpy (S.2 16) (S.2 4) v2.toNatClampNeg v3.toNatClampNeg v4.toNatClampNeg)) 5 (va_cpy (S.2 17) (S.2 5) v2.toNatClampNeg v3.toNatClampNeg v4.toNatClampNeg)) 6 (va_cpy (S.2 18) (S.2 6) v2.toNatClampNeg v3.toNatClampNeg v4.toNatClampNeg)) (va_cpy (S.2 19) (S.2 7) v2.toNatClampNeg v3.toNatClampNeg v4.toNatClampNeg)) ?_
  exact E_vret rfl dX1_copyPlaces_90 ⟨0, _, rfl, hf⟩
def f_X1_copyFrom_5_21 (S : PS) : Option (Int32 × PS) :=
  pbnd (f_X1_copyPlaces_5_21 (pI S 4 (S.1 9)) 0 0 16) (fun _ S_1 => some (0, S_1))
set_option maxRecDepth 100000 in
theorem c_X1_copyFrom_5_21 (l : Launch) (D : va_G) (dA : Nat → ClassId) (ad : Nat → Nat) (S : PS) {P : (Int32 × PS) → Prop} (hf : pO (f_X1_copyFrom_5_21 S) P) : CtV l D dA ad yX1_copyFrom wsX1_copyFrom 2 [.ref 5, .ref 21] (hX S) (fun h' => ∃ (r0 : Int32) (S' : PS), h' = hX S' ∧ P (r0, S')) := by
  refine CtV_of mf_X1_copyFrom rfl rfl (Nat.le_of_ble_eq_true rfl) rfl (hX_len S) ?_
  unfold f_X1_copyFrom_5_21 at hf
  refine E_aload_n dX1_copyFrom_0 rfl ?_
  refine E_aload_n dX1_copyFrom_1 rfl ?_
  refine E_getf (v := .int (S.1 9)) dX1_copyFrom_2 fl_X1_copyFrom_9 rfl rfl ?_
  refine E_putf (h' := hX (pI S 4 (S.1 9))) dX1_copyFrom_5 fl_X1_copyFrom_9 ft_1_0 rfl (Nat.lt_of_lt_of_eq (by decide : 0 < 7) rfl) rfl rfl ⟨_, rfl⟩ (sX_I4 S (S.1 9)) ?_
  refine E_aload_n dX1_copyFrom_8 rfl ?_
  refine E_aload_n dX1_copyFrom_9 rfl ?_
  refine E_iconst (v := 0) dX1_copyFrom_10 (by decide) ?_
  refine E_iconst (v := 0) dX1_copyFrom_11 (by decide) ?_
  refine E_bipush (v := 16) dX1_copyFrom_12 (by decide) ?_
  refine E_callVV (st := []) (c_X1_copyPlaces_5_21 l D dA ad (pI S 4 (S.1 9)) 0 0 16 (pO_bnd hf)) mf_X1_copyPlaces rfl rfl gX1_copyFrom_X1_copyPlaces (pRc.of (ci := 1) rfl rfl) (by omega) rfl (Nat.le_of_ble_eq_true rfl) (by rfl) dX1_copyFrom_14 (fun h1 q1 => ?_)
  obtain ⟨r1, S_1, rfl, hf⟩ := q1
  dsimp only at hf
  exact E_vret rfl dX1_copyFrom_17 ⟨0, _, rfl, hf⟩
def f_X8_copyFrom_12_28 (S : PS) : Option (Int32 × PS) :=
  some (0, (pAr (pAr (pAr (pAr S 8 (va_cpy (S.2 20) (S.2 8) 0 0 4)) 9 (va_cpy (S.2 21) (S.2 9) 0 0 4)) 10 (va_cpy (S.2 22) (S.2 10) 0 0 4)) 11 (va_cpy (S.2 23) (S.2 11) 0 0 4)))
set_option maxRecDepth 100000 in
theorem c_X8_copyFrom_12_28 (l : Launch) (D : va_G) (dA : Nat → ClassId) (ad : Nat → Nat) (S : PS) {P : (Int32 × PS) → Prop} (hf : pO (f_X8_copyFrom_12_28 S) P) : CtV l D dA ad yX8_copyFrom wsX8_copyFrom 1 [.ref 12, .ref 28] (hX S) (fun h' => ∃ (r0 : Int32) (S' : PS), h' = hX S' ∧ P (r0, S')) := by
  refine CtV_of mf_X8_copyFrom rfl rfl (Nat.le_of_ble_eq_true rfl) rfl (hX_len S) ?_
  unfold f_X8_copyFrom_12_28 at hf
  refine E_aload_n dX8_copyFrom_0 rfl ?_
  refine E_getf (v := .ref 29) dX8_copyFrom_1 fl_X8_copyFrom_9 rfl rfl ?_
  refine E_iconst (v := 0) dX8_copyFrom_4 (by decide) ?_
  refine E_aload_n dX8_copyFrom_5 rfl ?_
  refine E_getf (v := .ref 13) dX8_copyFrom_6 fl_X8_copyFrom_9 rfl rfl ?_
  refine E_iconst (v := 0) dX8_copyFrom_9 (by decide) ?_
  refine E_iconst (v := 4) dX8_copyFrom_10 (by decide) ?_
  refine E_copy (i := 0) (j := 0) (k0 := 4) (n0 := 4) (n1 := 4) (f := S.2 20) (g := S.2 8) (h' := hX (pAr S 8 (va_cpy (S.2 20) (S.2 8) 0 0 4))) (by decide +kernel) (by decide +kernel) (by decide +kernel) (by decide +kernel) rfl rfl (by decide) (by decide) (by decide) (by decide) (by omega) (Nat.le_of_ble_eq_true rfl) (by rfl) dX8_copyFrom_11 (sX_A8 S (va_cpy (S.2 20) (S.2 8) 0 0 4)) ?_
  refine E_aload_n dX8_copyFrom_14 rfl ?_
  refine E_getf (v := .ref 30) dX8_copyFrom_15 fl_X8_copyFrom_15 rfl rfl ?_
  refine E_iconst (v := 0) dX8_copyFrom_18 (by decide) ?_
  refine E_aload_n dX8_copyFrom_19 rfl ?_
  refine E_getf (v := .ref 14) dX8_copyFrom_20 fl_X8_copyFrom_15 rfl rfl ?_
  refine E_iconst (v := 0) dX8_copyFrom_23 (by decide) ?_
  refine E_iconst (v := 4) dX8_copyFrom_24 (by decide) ?_
  refine E_copy (i := 0) (j := 0) (k0 := 4) (n0 := 4) (n1 := 4) (f := S.2 21) (g := S.2 9) (h' := hX (pAr (pAr S 8 (va_cpy (S.2 20) (S.2 8) 0 0 4)) 9 (va_cpy (S.2 21) (S.2 9) 0 0 4))) (by decide +kernel) (by decide +kernel) (by decide +kernel) (by decide +kernel) rfl rfl (by decide) (by decide) (by decide) (by decide) (by omega) (Nat.le_of_ble_eq_true rfl) (by rfl) dX8_copyFrom_25 (sX_A9 (pAr S 8 (va_cpy (S.2 20) (S.2 8) 0 0 4)) (va_cpy (S.2 21) (S.2 9) 0 0 4)) ?_
  refine E_aload_n dX8_copyFrom_28 rfl ?_
  refine E_getf (v := .ref 31) dX8_copyFrom_29 fl_X8_copyFrom_18 rfl rfl ?_
  refine E_iconst (v := 0) dX8_copyFrom_32 (by decide) ?_
  refine E_aload_n dX8_copyFrom_33 rfl ?_
  refine E_getf (v := .ref 15) dX8_copyFrom_34 fl_X8_copyFrom_18 rfl rfl ?_
  refine E_iconst (v := 0) dX8_copyFrom_37 (by decide) ?_
  refine E_iconst (v := 4) dX8_copyFrom_38 (by decide) ?_
  refine E_copy (i := 0) (j := 0) (k0 := 4) (n0 := 4) (n1 := 4) (f := S.2 22) (g := S.2 10) (h' := hX (pAr (pAr (pAr S 8 (va_cpy (S.2 20) (S.2 8) 0 0 4)) 9 (va_cpy (S.2 21) (S.2 9) 0 0 4)) 10 (va_cpy (S.2 22) (S.2 10) 0 0 4))) (by decide +kernel) (by decide +kernel) (by decide +kernel) (by decide +kernel) rfl rfl (by decide) (by decide) (by decide) (by decide) (by omega) (Nat.le_of_ble_eq_true rfl) (by rfl) dX8_copyFrom_39 (sX_A10 (pAr (pAr S 8 (va_cpy (S.2 20) (S.2 8) 0 0 4)) 9 (va_cpy (S.2 21) (S.2 9) 0 0 4)) (va_cpy (S.2 22) (S.2 10) 0 0 4)) ?_
  refine E_aload_n dX8_copyFrom_42 rfl ?_
  refine E_getf (v := .ref 32) dX8_copyFrom_43 fl_X8_copyFrom_21 rfl rfl ?_
  refine E_iconst (v := 0) dX8_copyFrom_46 (by decide) ?_
  refine E_aload_n dX8_copyFrom_47 rfl ?_
  refine E_getf (v := .ref 16) dX8_copyFrom_48 fl_X8_copyFrom_21 rfl rfl ?_
  refine E_iconst (v := 0) dX8_copyFrom_51 (by decide) ?_
  refine E_iconst (v := 4) dX8_copyFrom_52 (by decide) ?_
  refine E_copy (i := 0) (j := 0) (k0 := 4) (n0 := 4) (n1 := 4) (f := S.2 23) (g := S.2 11) (h' := hX (pAr (pAr (pAr (pAr S 8 (va_cpy (S.2 20) (S.2 8) 0 0 4)) 9 (va_cpy (S.2 21) (S.2 9) 0 0 4)) 10 (va_cpy (S.2 22) (S.2 10) 0 0 4)) 11 (va_cpy (S.2 23) (S.2 11) 0 0 4))) (by decide +kernel) (by decide +kernel) (by decide +kernel) (by decide +kernel) rfl rfl (by decide) (by decide) (by decide) (by decide) (by omega) (Nat.le_of_ble_eq_true rfl) (by rfl) dX8_copyFrom_53 (sX_A11 (pAr (pAr (pAr S 8 (va_cpy (S.2 20) (S.2 8) 0 0 4)) 9 (va_cpy (S.2 21) (S.2 9) 0 0 4)) 10 (va_cpy (S.2 22) (S.2 10) 0 0 4)) (va_cpy (S.2 23) (S.2 11) 0 0 4)) ?_
  exact E_vret rfl dX8_copyFrom_56 ⟨0, _, rfl, hf⟩
def f_X0_copyFrom_1_17 (S : PS) : Option (Int32 × PS) :=
  pbnd (f_X2_copyFrom_2_18 S) (fun _ S_1 => pbnd (f_X1_copyFrom_5_21 S_1) (fun _ S_2 => pbnd (f_X8_copyFrom_12_28 S_2) (fun _ S_3 => some (0, S_3))))
set_option maxRecDepth 100000 in
theorem c_X0_copyFrom_1_17 (l : Launch) (D : va_G) (dA : Nat → ClassId) (ad : Nat → Nat) (S : PS) {P : (Int32 × PS) → Prop} (hf : pO (f_X0_copyFrom_1_17 S) P) : CtV l D dA ad yX0_copyFrom wsX0_copyFrom 3 [.ref 1, .ref 17] (hX S) (fun h' => ∃ (r0 : Int32) (S' : PS), h' = hX S' ∧ P (r0, S')) := by
  refine CtV_of mf_X0_copyFrom rfl rfl (Nat.le_of_ble_eq_true rfl) rfl (hX_len S) ?_
  unfold f_X0_copyFrom_1_17 at hf
  refine E_aload_n dX0_copyFrom_0 rfl ?_
  refine E_getf (v := .ref 2) dX0_copyFrom_1 fl_X0_copyFrom_12 rfl rfl ?_
  refine E_aload_n dX0_copyFrom_4 rfl ?_
  refine E_getf (v := .ref 18) dX0_copyFrom_5 fl_X0_copyFrom_12 rfl rfl ?_
  refine E_callVV (st := []) (c_X2_copyFrom_2_18 l D dA ad S (pO_bnd hf)) mf_X2_copyFrom rfl rfl gX0_copyFrom_X2_copyFrom (pRc.of (ci := 2) rfl rfl) (by omega) rfl (Nat.le_of_ble_eq_true rfl) (by rfl) dX0_copyFrom_8 (fun h1 q1 => ?_)
  obtain ⟨r1, S_1, rfl, hf⟩ := q1
  dsimp only at hf
  refine E_aload_n dX0_copyFrom_11 rfl ?_
  refine E_getf (v := .ref 5) dX0_copyFrom_12 fl_X0_copyFrom_21 rfl rfl ?_
  refine E_aload_n dX0_copyFrom_15 rfl ?_
  refine E_getf (v := .ref 21) dX0_copyFrom_16 fl_X0_copyFrom_21 rfl rfl ?_
  refine E_callVV (st := []) (c_X1_copyFrom_5_21 l D dA ad S_1 (pO_bnd hf)) mf_X1_copyFrom rfl rfl gX0_copyFrom_X1_copyFrom (pRc.of (ci := 1) rfl rfl) (by omega) rfl (Nat.le_of_ble_eq_true rfl) (by rfl) dX0_copyFrom_19 (fun h2 q2 => ?_)
  obtain ⟨r2, S_2, rfl, hf⟩ := q2
  dsimp only at hf
  refine E_aload_n dX0_copyFrom_22 rfl ?_
  refine E_getf (v := .ref 12) dX0_copyFrom_23 fl_X0_copyFrom_28 rfl rfl ?_
  refine E_aload_n dX0_copyFrom_26 rfl ?_
  refine E_getf (v := .ref 28) dX0_copyFrom_27 fl_X0_copyFrom_28 rfl rfl ?_
  refine E_callVV (st := []) (c_X8_copyFrom_12_28 l D dA ad S_2 (pO_bnd hf)) mf_X8_copyFrom rfl rfl gX0_copyFrom_X8_copyFrom (pRc.of (ci := 8) rfl rfl) (by omega) rfl (Nat.le_of_ble_eq_true rfl) (by rfl) dX0_copyFrom_30 (fun h3 q3 => ?_)
  obtain ⟨r3, S_3, rfl, hf⟩ := q3
  dsimp only at hf
  exact E_vret rfl dX0_copyFrom_33 ⟨0, _, rfl, hf⟩
theorem hi_X11_undo_0 : ∀ w ∈ u_ws RX0 TX0 3, w ∈ wsX11_undo := fun w h => of_decide_eq_true (List.all_eq_true.mp (by decide +kernel : (u_ws RX0 TX0 3).all (fun w => decide (w ∈ wsX11_undo)) = true) w h)
theorem fl_X11_undo_131 : pFL wsX11_undo RX11 131 0 1 := ⟨RX0, TX0, 3, hi_X11_undo_0, rfl, by decide, by decide +kernel⟩
theorem hi_X11_undo_1 : ∀ w ∈ u_ws RX1 TX1 7, w ∈ wsX11_undo := fun w h => of_decide_eq_true (List.all_eq_true.mp (by decide +kernel : (u_ws RX1 TX1 7).all (fun w => decide (w ∈ wsX11_undo)) = true) w h)
theorem fl_X11_undo_140 : pFL wsX11_undo RX11 140 1 0 := ⟨RX1, TX1, 7, hi_X11_undo_1, rfl, by decide, by decide +kernel⟩
theorem mf_X11_undo : pMF yX11_undo wsX11_undo cX11_undo 1 (some .int) 0 := ⟨⟨_, rfl⟩, by decide +kernel, by decide, by decide +kernel, by decide +kernel, by decide +kernel⟩
def f_X11_undo (S : PS) : Option (Int32 × PS) :=
  if (S.1 10) = (0 : Int32) then (some ((-5), S)) else (pbnd (f_X0_copyFrom_1_17 S) (fun _ S_2 => some (S_2.1 4, S_2)))
set_option maxRecDepth 100000 in
theorem c_X11_undo (l : Launch) (D : va_G) (dA : Nat → ClassId) (ad : Nat → Nat) (S : PS) {P : (Int32 × PS) → Prop} (hf : pO (f_X11_undo S) P) : CtI l D dA ad yX11_undo wsX11_undo 4 [.ref 0] (hX S) (fun r h' => ∃ S' : PS, h' = hX S' ∧ P (r, S')) := by
  refine CtI_of mf_X11_undo rfl rfl (Nat.le_of_ble_eq_true rfl) rfl (hX_len S) ?_
  unfold f_X11_undo at hf
  refine E_aload_n dX11_undo_0 rfl ?_
  refine E_getf (v := .int (S.1 10)) dX11_undo_1 fl_X11_undo_21 rfl rfl ?_
  refine E_if_ne (tgt := 10) dX11_undo_4 (by decide) (fun c_1 => ?_) (fun c_1 => ?_)
  · have hf := pO_neg c_1 hf
    refine E_aload_n dX11_undo_10 rfl ?_
    refine E_getf (v := .ref 1) dX11_undo_11 fl_X11_undo_12 rfl rfl ?_
    refine E_aload_n dX11_undo_14 rfl ?_
    refine E_getf (v := .ref 17) dX11_undo_15 fl_X11_undo_18 rfl rfl ?_
    refine E_callVV (st := []) (c_X0_copyFrom_1_17 l D dA ad S (pO_bnd hf)) mf_X0_copyFrom rfl rfl gX11_undo_X0_copyFrom (pRc.of (ci := 0) rfl rfl) (by omega) rfl (Nat.le_of_ble_eq_true rfl) (by rfl) dX11_undo_18 (fun h2 q2 => ?_)
    obtain ⟨r2, S_2, rfl, hf⟩ := q2
    dsimp only at hf
    refine E_aload_n dX11_undo_21 rfl ?_
    refine E_getf (v := .ref 1) dX11_undo_22 fl_X11_undo_12 rfl rfl ?_
    refine E_getf (v := .ref 5) dX11_undo_25 fl_X11_undo_131 rfl rfl ?_
    refine E_getf (v := .int (S_2.1 4)) dX11_undo_28 fl_X11_undo_140 rfl rfl ?_
    exact E_iret rfl dX11_undo_31 ⟨_, rfl, hf⟩
  · have hf := pO_pos c_1 hf
    refine E_bipush (v := (-5)) dX11_undo_7 (by decide) ?_
    exact E_iret rfl dX11_undo_9 ⟨_, rfl, hf⟩
theorem hi_X11_count_11 : ∀ w ∈ u_ws RX11 TX11 10, w ∈ wsX11_count := fun w h => of_decide_eq_true (List.all_eq_true.mp (by decide +kernel : (u_ws RX11 TX11 10).all (fun w => decide (w ∈ wsX11_count)) = true) w h)
theorem fl_X11_count_12 : pFL wsX11_count RX11 12 11 0 := ⟨RX11, TX11, 10, hi_X11_count_11, rfl, by decide, by decide +kernel⟩
theorem hi_X11_count_0 : ∀ w ∈ u_ws RX0 TX0 3, w ∈ wsX11_count := fun w h => of_decide_eq_true (List.all_eq_true.mp (by decide +kernel : (u_ws RX0 TX0 3).all (fun w => decide (w ∈ wsX11_count)) = true) w h)
theorem fl_X11_count_82 : pFL wsX11_count RX11 82 0 0 := ⟨RX0, TX0, 3, hi_X11_count_0, rfl, by decide, by decide +kernel⟩
theorem hi_X11_count_2 : ∀ w ∈ u_ws RX2 TX2 6, w ∈ wsX11_count := fun w h => of_decide_eq_true (List.all_eq_true.mp (by decide +kernel : (u_ws RX2 TX2 6).all (fun w => decide (w ∈ wsX11_count)) = true) w h)
theorem fl_X11_count_86 : pFL wsX11_count RX11 86 2 0 := ⟨RX2, TX2, 6, hi_X11_count_2, rfl, by decide, by decide +kernel⟩
theorem fl_X11_count_131 : pFL wsX11_count RX11 131 0 1 := ⟨RX0, TX0, 3, hi_X11_count_0, rfl, by decide, by decide +kernel⟩
theorem hi_X11_count_1 : ∀ w ∈ u_ws RX1 TX1 7, w ∈ wsX11_count := fun w h => of_decide_eq_true (List.all_eq_true.mp (by decide +kernel : (u_ws RX1 TX1 7).all (fun w => decide (w ∈ wsX11_count)) = true) w h)
theorem fl_X11_count_140 : pFL wsX11_count RX11 140 1 0 := ⟨RX1, TX1, 7, hi_X11_count_1, rfl, by decide, by decide +kernel⟩
theorem fl_X11_count_113 : pFL wsX11_count RX11 113 2 1 := ⟨RX2, TX2, 6, hi_X11_count_2, rfl, by decide, by decide +kernel⟩
theorem fl_X11_count_116 : pFL wsX11_count RX11 116 2 2 := ⟨RX2, TX2, 6, hi_X11_count_2, rfl, by decide, by decide +kernel⟩
theorem fl_X11_count_119 : pFL wsX11_count RX11 119 2 3 := ⟨RX2, TX2, 6, hi_X11_count_2, rfl, by decide, by decide +kernel⟩
theorem fl_X11_count_35 : pFL wsX11_count RX11 35 11 4 := ⟨RX11, TX11, 10, hi_X11_count_11, rfl, by decide, by decide +kernel⟩
theorem hi_X11_count_9 : ∀ w ∈ u_ws RX9 TX9 5, w ∈ wsX11_count := fun w h => of_decide_eq_true (List.all_eq_true.mp (by decide +kernel : (u_ws RX9 TX9 5).all (fun w => decide (w ∈ wsX11_count)) = true) w h)
theorem fl_X11_count_321 : pFL wsX11_count RX11 321 9 0 := ⟨RX9, TX9, 5, hi_X11_count_9, rfl, by decide, by decide +kernel⟩
theorem fl_X11_count_182 : pFL wsX11_count RX11 182 0 2 := ⟨RX0, TX0, 3, hi_X11_count_0, rfl, by decide, by decide +kernel⟩
def g_X8_howManyThere_4 : Nat → PS → Int32 → Int32 → Option ((Int32 × PS) ⊕ (PS × Int32))
  | 0, _, _, _ => none
  | fuel + 1, S, v1, v2 =>
    if (4 : Int32) ≤ v2 then (some (.inr (S, v1))) else (pbnd (f_X8_isThere S v2) (fun r2 S_2 => if r2 = (0 : Int32) then (g_X8_howManyThere_4 fuel S_2 (v1 + 0) (v2 + 1)) else (g_X8_howManyThere_4 fuel S_2 (v1 + 1) (v2 + 1))))
set_option maxRecDepth 100000 in
theorem l_X8_howManyThere_4 (l : Launch) (D : va_G) (dA : Nat → ClassId) (ad : Nat → Nat) (d : Nat) (hd : 1 ≤ d) {Q : Int32 → List PC → Prop} : ∀ (fuel : Nat) (S : PS) (v1 : Int32) (v2 : Int32), pO (g_X8_howManyThere_4 fuel S v1 v2) (fun y => match y with
    | .inl x => Q x.1 (hX x.2)
    | .inr w => Ev l D dA ad wsX8_howManyThere cX8_howManyThere RX8 3 (some .int) d 52 (pKi D dA ad 52 Q) 31 [(1, .int w.2)] [] (hX w.1)) → Ev l D dA ad wsX8_howManyThere cX8_howManyThere RX8 3 (some .int) d 52 (pKi D dA ad 52 Q) 4 [(0, .ref 12), (1, .int v1), (2, .int v2)] [] (hX S) := by
  intro fuel
  induction fuel with
  | zero =>
    intro S v1 v2 hf
    exact hf.elim
  | succ fuel ih =>
    intro S v1 v2 hf
    rw [g_X8_howManyThere_4] at hf
    refine E_iload_n dX8_howManyThere_4 rfl ?_
    refine E_iconst (v := 4) dX8_howManyThere_5 (by decide) ?_
    refine E_icmp_ge (tgt := 31) dX8_howManyThere_6 (by decide) (fun c_1 => ?_) (fun c_1 => ?_)
    · have hf := pO_pos c_1 hf
      exact E_sub (ls' := [(1, .int v1)]) ⟨rfl, trivial⟩ hf
    · have hf := pO_neg c_1 hf
      refine E_iload_n dX8_howManyThere_9 rfl ?_
      refine E_aload_n dX8_howManyThere_10 rfl ?_
      refine E_iload_n dX8_howManyThere_11 rfl ?_
      refine E_callVI (st := [.int v1]) (c_X8_isThere l D dA ad S v2 (pO_bnd hf)) mf_X8_isThere rfl rfl gX8_howManyThere_X8_isThere (pRc.of (ci := 8) rfl rfl) (by omega) rfl (Nat.le_of_ble_eq_true rfl) (by rfl) dX8_howManyThere_12 (fun r2 h2 q2 => ?_)
      obtain ⟨S_2, rfl, hf⟩ := q2
      dsimp only at hf
      refine E_if_eq (tgt := 22) dX8_howManyThere_15 (by decide) (fun c_3 => ?_) (fun c_3 => ?_)
      · have hf := pO_pos c_3 hf
        refine E_iconst (v := 0) dX8_howManyThere_22 (by decide) ?_
        refine E_iadd dX8_howManyThere_23 ?_
        refine E_istore_n (ls' := [(0, .ref 12), (1, .int (v1 + 0)), (2, .int v2)]) dX8_howManyThere_24 (by decide) rfl ?_
        refine E_iinc (v := v2 + 1) (ls' := [(0, .ref 12), (1, .int (v1 + 0)), (2, .int (v2 + 1))]) dX8_howManyThere_25 rfl rfl (by decide) rfl ?_
        refine E_goto (tgt := 4) dX8_howManyThere_28 (by decide) ?_
        exact E_sub (ls' := [(0, .ref 12), (1, .int (v1 + 0)), (2, .int (v2 + 1))]) ⟨rfl, rfl, rfl, trivial⟩ (ih S_2 (v1 + 0) (v2 + 1) hf)
      · have hf := pO_neg c_3 hf
        refine E_iconst (v := 1) dX8_howManyThere_18 (by decide) ?_
        refine E_goto (tgt := 23) dX8_howManyThere_19 (by decide) ?_
        refine E_iadd dX8_howManyThere_23 ?_
        refine E_istore_n (ls' := [(0, .ref 12), (1, .int (v1 + 1)), (2, .int v2)]) dX8_howManyThere_24 (by decide) rfl ?_
        refine E_iinc (v := v2 + 1) (ls' := [(0, .ref 12), (1, .int (v1 + 1)), (2, .int (v2 + 1))]) dX8_howManyThere_25 rfl rfl (by decide) rfl ?_
        refine E_goto (tgt := 4) dX8_howManyThere_28 (by decide) ?_
        exact E_sub (ls' := [(0, .ref 12), (1, .int (v1 + 1)), (2, .int (v2 + 1))]) ⟨rfl, rfl, rfl, trivial⟩ (ih S_2 (v1 + 1) (v2 + 1) hf)
theorem mf_X8_howManyThere : pMF yX8_howManyThere wsX8_howManyThere cX8_howManyThere 3 (some .int) 0 := ⟨⟨_, rfl⟩, by decide +kernel, by decide, by decide +kernel, by decide +kernel, by decide +kernel⟩
def f_X8_howManyThere (S : PS) : Option (Int32 × PS) :=
  plp (g_X8_howManyThere_4 pfuel S 0 0) (fun w => (fun (S_4 : PS) (v1_4 : Int32) => some (v1_4, S_4)) w.1 w.2)
set_option maxRecDepth 100000 in
theorem c_X8_howManyThere (l : Launch) (D : va_G) (dA : Nat → ClassId) (ad : Nat → Nat) (S : PS) {P : (Int32 × PS) → Prop} (hf : pO (f_X8_howManyThere S) P) : CtI l D dA ad yX8_howManyThere wsX8_howManyThere 1 [.ref 12] (hX S) (fun r h' => ∃ S' : PS, h' = hX S' ∧ P (r, S')) := by
  refine CtI_of mf_X8_howManyThere rfl rfl (Nat.le_of_ble_eq_true rfl) rfl (hX_len S) ?_
  unfold f_X8_howManyThere at hf
  refine E_iconst (v := 0) dX8_howManyThere_0 (by decide) ?_
  refine E_istore_n (ls' := [(0, .ref 12), (1, .int 0)]) dX8_howManyThere_1 (by decide) rfl ?_
  refine E_iconst (v := 0) dX8_howManyThere_2 (by decide) ?_
  refine E_istore_n (ls' := [(0, .ref 12), (1, .int 0), (2, .int 0)]) dX8_howManyThere_3 (by decide) rfl ?_
  refine E_sub (ls' := [(0, .ref 12), (1, .int 0), (2, .int 0)]) ⟨rfl, rfl, rfl, trivial⟩ ?_
  refine l_X8_howManyThere_4 l D dA ad _ (by omega) pfuel S 0 0 (pO_lp hf (fun x hx => ⟨x.2, rfl, hx⟩) (fun w4 hf => ?_))
  obtain ⟨S_4, v1_4⟩ := w4
  dsimp only at hf ⊢
  refine E_iload_n dX8_howManyThere_31 rfl ?_
  exact E_iret rfl dX8_howManyThere_32 ⟨_, rfl, hf⟩
theorem mf_X11_count : pMF yX11_count wsX11_count cX11_count 2 (some .int) 1 := ⟨⟨_, rfl⟩, by decide +kernel, by decide, by decide +kernel, by decide +kernel, by decide +kernel⟩
def f_X11_count (S : PS) (v1 : Int32) : Option (Int32 × PS) :=
  if v1 = (0 : Int32) then (some (S.1 0, S)) else (if v1 = (1 : Int32) then (some (S.1 4, S)) else (if v1 = (2 : Int32) then (some (S.1 1, S)) else (if v1 = (3 : Int32) then (some (S.1 2, S)) else (if v1 = (4 : Int32) then (some (S.1 3, S)) else (if v1 = (5 : Int32) then (some (S.1 11, S)) else (if v1 = (6 : Int32) then (pbnd (f_X8_howManyThere S) (fun r8 S_8 => some (r8, S_8))) else (some ((-1), S))))))))
set_option maxRecDepth 100000 in
theorem c_X11_count (l : Launch) (D : va_G) (dA : Nat → ClassId) (ad : Nat → Nat) (S : PS) (v1 : Int32) {P : (Int32 × PS) → Prop} (hf : pO (f_X11_count S v1) P) : CtI l D dA ad yX11_count wsX11_count 2 [.ref 0, .int v1] (hX S) (fun r h' => ∃ S' : PS, h' = hX S' ∧ P (r, S')) := by
  refine CtI_of mf_X11_count rfl rfl (Nat.le_of_ble_eq_true rfl) rfl (hX_len S) ?_
  unfold f_X11_count at hf
  refine E_iload_n dX11_count_0 rfl ?_
  by_cases k_1 : v1 = (0 : Int32)
  · have hf := pO_pos k_1 hf
    refine E_tableIn (off := 43) (tgt := 44) dX11_count_1 (by rw [k_1]; decide) (by rw [k_1]; decide) (by rw [k_1]; rfl) (by decide) ?_
    refine E_aload_n dX11_count_44 rfl ?_
    refine E_getf (v := .ref 1) dX11_count_45 fl_X11_count_12 rfl rfl ?_
    refine E_getf (v := .ref 2) dX11_count_48 fl_X11_count_82 rfl rfl ?_
    refine E_getf (v := .int (S.1 0)) dX11_count_51 fl_X11_count_86 rfl rfl ?_
    exact E_iret rfl dX11_count_54 ⟨_, rfl, hf⟩
  · have hf := pO_neg k_1 hf
    by_cases k_2 : v1 = (1 : Int32)
    · have hf := pO_pos k_2 hf
      refine E_tableIn (off := 54) (tgt := 55) dX11_count_1 (by rw [k_2]; decide) (by rw [k_2]; decide) (by rw [k_2]; rfl) (by decide) ?_
      refine E_aload_n dX11_count_55 rfl ?_
      refine E_getf (v := .ref 1) dX11_count_56 fl_X11_count_12 rfl rfl ?_
      refine E_getf (v := .ref 5) dX11_count_59 fl_X11_count_131 rfl rfl ?_
      refine E_getf (v := .int (S.1 4)) dX11_count_62 fl_X11_count_140 rfl rfl ?_
      exact E_iret rfl dX11_count_65 ⟨_, rfl, hf⟩
    · have hf := pO_neg k_2 hf
      by_cases k_3 : v1 = (2 : Int32)
      · have hf := pO_pos k_3 hf
        refine E_tableIn (off := 65) (tgt := 66) dX11_count_1 (by rw [k_3]; decide) (by rw [k_3]; decide) (by rw [k_3]; rfl) (by decide) ?_
        refine E_aload_n dX11_count_66 rfl ?_
        refine E_getf (v := .ref 1) dX11_count_67 fl_X11_count_12 rfl rfl ?_
        refine E_getf (v := .ref 2) dX11_count_70 fl_X11_count_82 rfl rfl ?_
        refine E_getf (v := .int (S.1 1)) dX11_count_73 fl_X11_count_113 rfl rfl ?_
        exact E_iret rfl dX11_count_76 ⟨_, rfl, hf⟩
      · have hf := pO_neg k_3 hf
        by_cases k_4 : v1 = (3 : Int32)
        · have hf := pO_pos k_4 hf
          refine E_tableIn (off := 76) (tgt := 77) dX11_count_1 (by rw [k_4]; decide) (by rw [k_4]; decide) (by rw [k_4]; rfl) (by decide) ?_
          refine E_aload_n dX11_count_77 rfl ?_
          refine E_getf (v := .ref 1) dX11_count_78 fl_X11_count_12 rfl rfl ?_
          refine E_getf (v := .ref 2) dX11_count_81 fl_X11_count_82 rfl rfl ?_
          refine E_getf (v := .int (S.1 2)) dX11_count_84 fl_X11_count_116 rfl rfl ?_
          exact E_iret rfl dX11_count_87 ⟨_, rfl, hf⟩
        · have hf := pO_neg k_4 hf
          by_cases k_5 : v1 = (4 : Int32)
          · have hf := pO_pos k_5 hf
            refine E_tableIn (off := 87) (tgt := 88) dX11_count_1 (by rw [k_5]; decide) (by rw [k_5]; decide) (by rw [k_5]; rfl) (by decide) ?_
            refine E_aload_n dX11_count_88 rfl ?_
            refine E_getf (v := .ref 1) dX11_count_89 fl_X11_count_12 rfl rfl ?_
            refine E_getf (v := .ref 2) dX11_count_92 fl_X11_count_82 rfl rfl ?_
            refine E_getf (v := .int (S.1 3)) dX11_count_95 fl_X11_count_119 rfl rfl ?_
            exact E_iret rfl dX11_count_98 ⟨_, rfl, hf⟩
          · have hf := pO_neg k_5 hf
            by_cases k_6 : v1 = (5 : Int32)
            · have hf := pO_pos k_6 hf
              refine E_tableIn (off := 98) (tgt := 99) dX11_count_1 (by rw [k_6]; decide) (by rw [k_6]; decide) (by rw [k_6]; rfl) (by decide) ?_
              refine E_aload_n dX11_count_99 rfl ?_
              refine E_getf (v := .ref 39) dX11_count_100 fl_X11_count_35 rfl rfl ?_
              refine E_getf (v := .int (S.1 11)) dX11_count_103 fl_X11_count_321 rfl rfl ?_
              exact E_iret rfl dX11_count_106 ⟨_, rfl, hf⟩
            · have hf := pO_neg k_6 hf
              by_cases k_7 : v1 = (6 : Int32)
              · have hf := pO_pos k_7 hf
                refine E_tableIn (off := 106) (tgt := 107) dX11_count_1 (by rw [k_7]; decide) (by rw [k_7]; decide) (by rw [k_7]; rfl) (by decide) ?_
                refine E_aload_n dX11_count_107 rfl ?_
                refine E_getf (v := .ref 1) dX11_count_108 fl_X11_count_12 rfl rfl ?_
                refine E_getf (v := .ref 12) dX11_count_111 fl_X11_count_182 rfl rfl ?_
                refine E_callVI (st := []) (c_X8_howManyThere l D dA ad S (pO_bnd hf)) mf_X8_howManyThere rfl rfl gX11_count_X8_howManyThere (pRc.of (ci := 8) rfl rfl) (by omega) rfl (Nat.le_of_ble_eq_true rfl) (by rfl) dX11_count_114 (fun r8 h8 q8 => ?_)
                obtain ⟨S_8, rfl, hf⟩ := q8
                dsimp only at hf
                exact E_iret rfl dX11_count_117 ⟨_, rfl, hf⟩
              · have hf := pO_neg k_7 hf
                refine E_tableOut (tgt := 118) dX11_count_1 (by have z0 := pti k_1 (by decide : (0 : Int32).toInt = 0); have z1 := pti k_2 (by decide : (1 : Int32).toInt = 1); have z2 := pti k_3 (by decide : (2 : Int32).toInt = 2); have z3 := pti k_4 (by decide : (3 : Int32).toInt = 3); have z4 := pti k_5 (by decide : (4 : Int32).toInt = 4); have z5 := pti k_6 (by decide : (5 : Int32).toInt = 5); have z6 := pti k_7 (by decide : (6 : Int32).toInt = 6); omega) (by decide) ?_
                refine E_iconst (v := (-1)) dX11_count_118 (by decide) ?_
                exact E_iret rfl dX11_count_119 ⟨_, rfl, hf⟩
theorem hi_X12_anew_12 : ∀ w ∈ u_ws RX12 TX12 32, w ∈ wsX12_anew := fun w h => of_decide_eq_true (List.all_eq_true.mp (by decide +kernel : (u_ws RX12 TX12 32).all (fun w => decide (w ∈ wsX12_anew)) = true) w h)
theorem fl_X12_anew_9 : pFL wsX12_anew RX12 9 12 0 := ⟨RX12, TX12, 32, hi_X12_anew_12, rfl, by decide, by decide +kernel⟩
theorem ft_12_0 : pFT 12 0 .int := ⟨RX12, TX12, 32, tyX12, rfl, by decide, tyX12_ok, nmX12, rfl, by decide +kernel⟩
theorem fl_X12_anew_15 : pFL wsX12_anew RX12 15 12 1 := ⟨RX12, TX12, 32, hi_X12_anew_12, rfl, by decide, by decide +kernel⟩
theorem ft_12_1 : pFT 12 1 .int := ⟨RX12, TX12, 32, tyX12, rfl, by decide, tyX12_ok, nmX12, rfl, by decide +kernel⟩
theorem fl_X12_anew_18 : pFL wsX12_anew RX12 18 12 2 := ⟨RX12, TX12, 32, hi_X12_anew_12, rfl, by decide, by decide +kernel⟩
theorem ft_12_2 : pFT 12 2 .int := ⟨RX12, TX12, 32, tyX12, rfl, by decide, tyX12_ok, nmX12, rfl, by decide +kernel⟩
theorem fl_X12_anew_95 : pFL wsX12_anew RX12 95 12 3 := ⟨RX12, TX12, 32, hi_X12_anew_12, rfl, by decide, by decide +kernel⟩
theorem ft_12_3 : pFT 12 3 .int := ⟨RX12, TX12, 32, tyX12, rfl, by decide, tyX12_ok, nmX12, rfl, by decide +kernel⟩
theorem fl_X12_anew_98 : pFL wsX12_anew RX12 98 12 6 := ⟨RX12, TX12, 32, hi_X12_anew_12, rfl, by decide, by decide +kernel⟩
theorem ft_12_6 : pFT 12 6 .int := ⟨RX12, TX12, 32, tyX12, rfl, by decide, tyX12_ok, nmX12, rfl, by decide +kernel⟩
theorem fl_X12_anew_21 : pFL wsX12_anew RX12 21 12 4 := ⟨RX12, TX12, 32, hi_X12_anew_12, rfl, by decide, by decide +kernel⟩
theorem fl_X12_anew_25 : pFL wsX12_anew RX12 25 12 5 := ⟨RX12, TX12, 32, hi_X12_anew_12, rfl, by decide, by decide +kernel⟩
def g_X12_anew_29 : Nat → PS → Int32 → Option ((Int32 × PS) ⊕ (PS))
  | 0, _, _ => none
  | fuel + 1, S, v2 =>
    if (10 : Int32) ≤ v2 then (some (.inr (S))) else (pgd (pin v2 10) (pgd (pin v2 10) (g_X12_anew_29 fuel (pAr (pAr S 0 (upd (S.2 0) v2.toNatClampNeg 10)) 1 (upd (S.2 1) v2.toNatClampNeg 0)) (v2 + 1))))
set_option maxRecDepth 100000 in
theorem l_X12_anew_29 (l : Launch) (D : va_G) (dA : Nat → ClassId) (ad : Nat → Nat) (d : Nat) (hd : 0 ≤ d) {Q : List PC → Prop} : ∀ (fuel : Nat) (S : PS) (v2 : Int32), pO (g_X12_anew_29 fuel S v2) (fun y => match y with
    | .inl x => Q (hM x.2)
    | .inr w => Ev l D dA ad wsX12_anew cX12_anew RX12 3 none d 38 (pKv D dA ad 38 Q) 56 [(0, .ref 0)] [] (hM w)) → Ev l D dA ad wsX12_anew cX12_anew RX12 3 none d 38 (pKv D dA ad 38 Q) 29 [(0, .ref 0), (2, .int v2)] [] (hM S) := by
  intro fuel
  induction fuel with
  | zero =>
    intro S v2 hf
    exact hf.elim
  | succ fuel ih =>
    intro S v2 hf
    rw [g_X12_anew_29] at hf
    refine E_iload_n dX12_anew_29 rfl ?_
    refine E_bipush (v := 10) dX12_anew_30 (by decide) ?_
    refine E_icmp_ge (tgt := 56) dX12_anew_32 (by decide) (fun c_1 => ?_) (fun c_1 => ?_)
    · have hf := pO_pos c_1 hf
      exact E_sub (ls' := [(0, .ref 0)]) ⟨rfl, trivial⟩ hf
    · have hf := pO_neg c_1 hf
      refine E_aload_n dX12_anew_35 rfl ?_
      refine E_getf (v := .ref 1) dX12_anew_36 fl_X12_anew_21 rfl rfl ?_
      refine E_iload_n dX12_anew_39 rfl ?_
      refine E_bipush (v := 10) dX12_anew_40 (by decide) ?_
      obtain ⟨hi_2, hf⟩ := pO_gd hf
      refine E_iast (n0 := 10) (f := S.2 0) (h' := hM (pAr S 0 (upd (S.2 0) v2.toNatClampNeg 10))) dX12_anew_42 rfl (pin_in hi_2) (sM_A0 S (upd (S.2 0) v2.toNatClampNeg 10)) ?_
      refine E_aload_n dX12_anew_43 rfl ?_
      refine E_getf (v := .ref 2) dX12_anew_44 fl_X12_anew_25 rfl rfl ?_
      refine E_iload_n dX12_anew_47 rfl ?_
      refine E_iconst (v := 0) dX12_anew_48 (by decide) ?_
      obtain ⟨hi_3, hf⟩ := pO_gd hf
      refine E_iast (n0 := 10) (f := S.2 1) (h' := hM (pAr (pAr S 0 (upd (S.2 0) v2.toNatClampNeg 10)) 1 (upd (S.2 1) v2.toNatClampNeg 0))) dX12_anew_49 rfl (pin_in hi_3) (sM_A1 (pAr S 0 (upd (S.2 0) v2.toNatClampNeg 10)) (upd (S.2 1) v2.toNatClampNeg 0)) ?_
      refine E_iinc (v := v2 + 1) (ls' := [(0, .ref 0), (2, .int (v2 + 1))]) dX12_anew_50 rfl rfl (by decide) rfl ?_
      refine E_goto (tgt := 29) dX12_anew_53 (by decide) ?_
      exact E_sub (ls' := [(0, .ref 0), (2, .int (v2 + 1))]) ⟨rfl, rfl, trivial⟩ (ih (pAr (pAr S 0 (upd (S.2 0) v2.toNatClampNeg 10)) 1 (upd (S.2 1) v2.toNatClampNeg 0)) (v2 + 1) hf)
theorem fl_X12_anew_46 : pFL wsX12_anew RX12 46 12 13 := ⟨RX12, TX12, 32, hi_X12_anew_12, rfl, by decide, by decide +kernel⟩
theorem fl_X12_anew_49 : pFL wsX12_anew RX12 49 12 14 := ⟨RX12, TX12, 32, hi_X12_anew_12, rfl, by decide, by decide +kernel⟩
theorem fl_X12_anew_52 : pFL wsX12_anew RX12 52 12 15 := ⟨RX12, TX12, 32, hi_X12_anew_12, rfl, by decide, by decide +kernel⟩
theorem fl_X12_anew_55 : pFL wsX12_anew RX12 55 12 16 := ⟨RX12, TX12, 32, hi_X12_anew_12, rfl, by decide, by decide +kernel⟩
def g_X12_anew_58 : Nat → PS → Int32 → Option ((Int32 × PS) ⊕ (PS))
  | 0, _, _ => none
  | fuel + 1, S, v2 =>
    if (4 : Int32) ≤ v2 then (some (.inr (S))) else (pgd (pin v2 4) (pgd (pin v2 4) (pgd (pin v2 4) (pgd (pin v2 4) (g_X12_anew_58 fuel (pAr (pAr (pAr (pAr S 8 (upd (S.2 8) v2.toNatClampNeg 0)) 9 (upd (S.2 9) v2.toNatClampNeg 0)) 10 (upd (S.2 10) v2.toNatClampNeg 0)) 11 (upd (S.2 11) v2.toNatClampNeg 0)) (v2 + 1))))))
set_option maxRecDepth 100000 in
theorem l_X12_anew_58 (l : Launch) (D : va_G) (dA : Nat → ClassId) (ad : Nat → Nat) (d : Nat) (hd : 0 ≤ d) {Q : List PC → Prop} : ∀ (fuel : Nat) (S : PS) (v2 : Int32), pO (g_X12_anew_58 fuel S v2) (fun y => match y with
    | .inl x => Q (hM x.2)
    | .inr w => Ev l D dA ad wsX12_anew cX12_anew RX12 3 none d 38 (pKv D dA ad 38 Q) 97 [] [] (hM w)) → Ev l D dA ad wsX12_anew cX12_anew RX12 3 none d 38 (pKv D dA ad 38 Q) 58 [(0, .ref 0), (2, .int v2)] [] (hM S) := by
  intro fuel
  induction fuel with
  | zero =>
    intro S v2 hf
    exact hf.elim
  | succ fuel ih =>
    intro S v2 hf
    rw [g_X12_anew_58] at hf
    refine E_iload_n dX12_anew_58 rfl ?_
    refine E_iconst (v := 4) dX12_anew_59 (by decide) ?_
    refine E_icmp_ge (tgt := 97) dX12_anew_60 (by decide) (fun c_5 => ?_) (fun c_5 => ?_)
    · have hf := pO_pos c_5 hf
      exact E_sub (ls' := []) trivial hf
    · have hf := pO_neg c_5 hf
      refine E_aload_n dX12_anew_63 rfl ?_
      refine E_getf (v := .ref 9) dX12_anew_64 fl_X12_anew_46 rfl rfl ?_
      refine E_iload_n dX12_anew_67 rfl ?_
      refine E_iconst (v := 0) dX12_anew_68 (by decide) ?_
      obtain ⟨hi_6, hf⟩ := pO_gd hf
      refine E_iast (n0 := 4) (f := S.2 8) (h' := hM (pAr S 8 (upd (S.2 8) v2.toNatClampNeg 0))) dX12_anew_69 rfl (pin_in hi_6) (sM_A8 S (upd (S.2 8) v2.toNatClampNeg 0)) ?_
      refine E_aload_n dX12_anew_70 rfl ?_
      refine E_getf (v := .ref 10) dX12_anew_71 fl_X12_anew_49 rfl rfl ?_
      refine E_iload_n dX12_anew_74 rfl ?_
      refine E_iconst (v := 0) dX12_anew_75 (by decide) ?_
      obtain ⟨hi_7, hf⟩ := pO_gd hf
      refine E_iast (n0 := 4) (f := S.2 9) (h' := hM (pAr (pAr S 8 (upd (S.2 8) v2.toNatClampNeg 0)) 9 (upd (S.2 9) v2.toNatClampNeg 0))) dX12_anew_76 rfl (pin_in hi_7) (sM_A9 (pAr S 8 (upd (S.2 8) v2.toNatClampNeg 0)) (upd (S.2 9) v2.toNatClampNeg 0)) ?_
      refine E_aload_n dX12_anew_77 rfl ?_
      refine E_getf (v := .ref 11) dX12_anew_78 fl_X12_anew_52 rfl rfl ?_
      refine E_iload_n dX12_anew_81 rfl ?_
      refine E_iconst (v := 0) dX12_anew_82 (by decide) ?_
      obtain ⟨hi_8, hf⟩ := pO_gd hf
      refine E_iast (n0 := 4) (f := S.2 10) (h' := hM (pAr (pAr (pAr S 8 (upd (S.2 8) v2.toNatClampNeg 0)) 9 (upd (S.2 9) v2.toNatClampNeg 0)) 10 (upd (S.2 10) v2.toNatClampNeg 0))) dX12_anew_83 rfl (pin_in hi_8) (sM_A10 (pAr (pAr S 8 (upd (S.2 8) v2.toNatClampNeg 0)) 9 (upd (S.2 9) v2.toNatClampNeg 0)) (upd (S.2 10) v2.toNatClampNeg 0)) ?_
      refine E_aload_n dX12_anew_84 rfl ?_
      refine E_getf (v := .ref 12) dX12_anew_85 fl_X12_anew_55 rfl rfl ?_
      refine E_iload_n dX12_anew_88 rfl ?_
      refine E_iconst (v := 0) dX12_anew_89 (by decide) ?_
      obtain ⟨hi_9, hf⟩ := pO_gd hf
      refine E_iast (n0 := 4) (f := S.2 11) (h' := hM (pAr (pAr (pAr (pAr S 8 (upd (S.2 8) v2.toNatClampNeg 0)) 9 (upd (S.2 9) v2.toNatClampNeg 0)) 10 (upd (S.2 10) v2.toNatClampNeg 0)) 11 (upd (S.2 11) v2.toNatClampNeg 0))) dX12_anew_90 rfl (pin_in hi_9) (sM_A11 (pAr (pAr (pAr S 8 (upd (S.2 8) v2.toNatClampNeg 0)) 9 (upd (S.2 9) v2.toNatClampNeg 0)) 10 (upd (S.2 10) v2.toNatClampNeg 0)) (upd (S.2 11) v2.toNatClampNeg 0)) ?_
      refine E_iinc (v := v2 + 1) (ls' := [(0, .ref 0), (2, .int (v2 + 1))]) dX12_anew_91 rfl rfl (by decide) rfl ?_
      refine E_goto (tgt := 58) dX12_anew_94 (by decide) ?_
      exact E_sub (ls' := [(0, .ref 0), (2, .int (v2 + 1))]) ⟨rfl, rfl, trivial⟩ (ih (pAr (pAr (pAr (pAr S 8 (upd (S.2 8) v2.toNatClampNeg 0)) 9 (upd (S.2 9) v2.toNatClampNeg 0)) 10 (upd (S.2 10) v2.toNatClampNeg 0)) 11 (upd (S.2 11) v2.toNatClampNeg 0)) (v2 + 1) hf)
theorem mf_X12_anew : pMF yX12_anew wsX12_anew cX12_anew 3 none 1 := ⟨⟨_, rfl⟩, by decide +kernel, by decide, by decide +kernel, by decide +kernel, by decide +kernel⟩
def f_X12_anew (S : PS) (v1 : Int32) : Option (Int32 × PS) :=
  plp (g_X12_anew_29 pfuel (pI (pI (pI (pI (pI S 0 v1) 1 20) 2 100) 3 0) 4 0) 0) (fun (S_4 : PS) => plp (g_X12_anew_58 pfuel S_4 0) (fun (S_10 : PS) => some (0, S_10)))
set_option maxRecDepth 100000 in
theorem c_X12_anew (l : Launch) (D : va_G) (dA : Nat → ClassId) (ad : Nat → Nat) (S : PS) (v1 : Int32) {P : (Int32 × PS) → Prop} (hf : pO (f_X12_anew S v1) P) : CtV l D dA ad yX12_anew wsX12_anew 0 [.ref 0, .int v1] (hM S) (fun h' => ∃ (r0 : Int32) (S' : PS), h' = hM S' ∧ P (r0, S')) := by
  refine CtV_of mf_X12_anew rfl rfl (Nat.le_of_ble_eq_true rfl) rfl (hM_len S) ?_
  unfold f_X12_anew at hf
  refine E_aload_n dX12_anew_0 rfl ?_
  refine E_iload_n dX12_anew_1 rfl ?_
  refine E_putf (h' := hM (pI S 0 v1)) dX12_anew_2 fl_X12_anew_9 ft_12_0 rfl (Nat.lt_of_lt_of_eq (by decide : 0 < 32) rfl) rfl rfl ⟨_, rfl⟩ (sM_I0 S v1) ?_
  refine E_aload_n dX12_anew_5 rfl ?_
  refine E_bipush (v := 20) dX12_anew_6 (by decide) ?_
  refine E_putf (h' := hM (pI (pI S 0 v1) 1 20)) dX12_anew_8 fl_X12_anew_15 ft_12_1 rfl (Nat.lt_of_lt_of_eq (by decide : 1 < 32) rfl) rfl rfl ⟨_, rfl⟩ (sM_I1 (pI S 0 v1) 20) ?_
  refine E_aload_n dX12_anew_11 rfl ?_
  refine E_bipush (v := 100) dX12_anew_12 (by decide) ?_
  refine E_putf (h' := hM (pI (pI (pI S 0 v1) 1 20) 2 100)) dX12_anew_14 fl_X12_anew_18 ft_12_2 rfl (Nat.lt_of_lt_of_eq (by decide : 2 < 32) rfl) rfl rfl ⟨_, rfl⟩ (sM_I2 (pI (pI S 0 v1) 1 20) 100) ?_
  refine E_aload_n dX12_anew_17 rfl ?_
  refine E_iconst (v := 0) dX12_anew_18 (by decide) ?_
  refine E_putf (h' := hM (pI (pI (pI (pI S 0 v1) 1 20) 2 100) 3 0)) dX12_anew_19 fl_X12_anew_95 ft_12_3 rfl (Nat.lt_of_lt_of_eq (by decide : 3 < 32) rfl) rfl rfl ⟨_, rfl⟩ (sM_I3 (pI (pI (pI S 0 v1) 1 20) 2 100) 0) ?_
  refine E_aload_n dX12_anew_22 rfl ?_
  refine E_iconst (v := 0) dX12_anew_23 (by decide) ?_
  refine E_putf (h' := hM (pI (pI (pI (pI (pI S 0 v1) 1 20) 2 100) 3 0) 4 0)) dX12_anew_24 fl_X12_anew_98 ft_12_6 rfl (Nat.lt_of_lt_of_eq (by decide : 6 < 32) rfl) rfl rfl ⟨_, rfl⟩ (sM_I4 (pI (pI (pI (pI S 0 v1) 1 20) 2 100) 3 0) 0) ?_
  refine E_iconst (v := 0) dX12_anew_27 (by decide) ?_
  refine E_istore_n (ls' := [(0, .ref 0), (1, .int v1), (2, .int 0)]) dX12_anew_28 (by decide) rfl ?_
  refine E_sub (ls' := [(0, .ref 0), (2, .int 0)]) ⟨rfl, rfl, trivial⟩ ?_
  refine l_X12_anew_29 l D dA ad _ (by omega) pfuel (pI (pI (pI (pI (pI S 0 v1) 1 20) 2 100) 3 0) 4 0) 0 (pO_lp hf (fun x hx => ⟨x.1, x.2, rfl, hx⟩) (fun w4 hf => ?_))
  obtain ⟨S_4, rfl⟩ : ∃ z, z = w4 := ⟨_, rfl⟩
  dsimp only at hf ⊢
  refine E_iconst (v := 0) dX12_anew_56 (by decide) ?_
  refine E_istore_n (ls' := [(0, .ref 0), (2, .int 0)]) dX12_anew_57 (by decide) rfl ?_
  refine E_sub (ls' := [(0, .ref 0), (2, .int 0)]) ⟨rfl, rfl, trivial⟩ ?_
  refine l_X12_anew_58 l D dA ad _ (by omega) pfuel S_4 0 (pO_lp hf (fun x hx => ⟨x.1, x.2, rfl, hx⟩) (fun w10 hf => ?_))
  obtain ⟨S_10, rfl⟩ : ∃ z, z = w10 := ⟨_, rfl⟩
  dsimp only at hf ⊢
  exact E_vret rfl dX12_anew_97 ⟨0, _, rfl, hf⟩
theorem mf_X12_in : pMF yX12_in wsX12_in cX12_in 3 (some .boolean) 3 := ⟨⟨_, rfl⟩, by decide +kernel, by decide, by decide +kernel, by decide +kernel, by decide +kernel⟩
def f_X12_in (S : PS) (v0 : Int32) (v1 : Int32) (v2 : Int32) : Option (Int32 × PS) :=
  if v0 < v1 then (some (0, S)) else (if v2 < v0 then (some (0, S)) else (some (1, S)))
set_option maxRecDepth 100000 in
theorem c_X12_in (l : Launch) (D : va_G) (dA : Nat → ClassId) (ad : Nat → Nat) (S : PS) (v0 : Int32) (v1 : Int32) (v2 : Int32) {P : (Int32 × PS) → Prop} (hf : pO (f_X12_in S v0 v1 v2) P) : CtI l D dA ad yX12_in wsX12_in 0 [.int v0, .int v1, .int v2] (hM S) (fun r h' => ∃ S' : PS, h' = hM S' ∧ P (r, S')) := by
  refine CtI_of mf_X12_in rfl rfl (Nat.le_of_ble_eq_true rfl) rfl (hM_len S) ?_
  unfold f_X12_in at hf
  refine E_iload_n dX12_in_0 rfl ?_
  refine E_iload_n dX12_in_1 rfl ?_
  refine E_icmp_lt (tgt := 14) dX12_in_2 (by decide) (fun c_1 => ?_) (fun c_1 => ?_)
  · have hf := pO_pos c_1 hf
    refine E_iconst (v := 0) dX12_in_14 (by decide) ?_
    exact E_zret rfl dX12_in_15 (by decide) ⟨_, rfl, hf⟩
  · have hf := pO_neg c_1 hf
    refine E_iload_n dX12_in_5 rfl ?_
    refine E_iload_n dX12_in_6 rfl ?_
    refine E_icmp_gt (tgt := 14) dX12_in_7 (by decide) (fun c_2 => ?_) (fun c_2 => ?_)
    · have hf := pO_pos c_2 hf
      refine E_iconst (v := 0) dX12_in_14 (by decide) ?_
      exact E_zret rfl dX12_in_15 (by decide) ⟨_, rfl, hf⟩
    · have hf := pO_neg c_2 hf
      refine E_iconst (v := 1) dX12_in_10 (by decide) ?_
      refine E_goto (tgt := 15) dX12_in_11 (by decide) ?_
      exact E_zret rfl dX12_in_15 (by decide) ⟨_, rfl, hf⟩
theorem hi_X12_hull_12 : ∀ w ∈ u_ws RX12 TX12 32, w ∈ wsX12_hull := fun w h => of_decide_eq_true (List.all_eq_true.mp (by decide +kernel : (u_ws RX12 TX12 32).all (fun w => decide (w ∈ wsX12_hull)) = true) w h)
theorem fl_X12_hull_9 : pFL wsX12_hull RX12 9 12 0 := ⟨RX12, TX12, 32, hi_X12_hull_12, rfl, by decide, by decide +kernel⟩
theorem mf_X12_hull : pMF yX12_hull wsX12_hull cX12_hull 3 (some .int) 1 := ⟨⟨_, rfl⟩, by decide +kernel, by decide, by decide +kernel, by decide +kernel, by decide +kernel⟩
def f_X12_hull (S : PS) (v1 : Int32) : Option (Int32 × PS) :=
  pbnd (f_X12_in S v1 2 10) (fun r1 S_1 => if r1 = (0 : Int32) then (some ((-1), S_1)) else (pbnd (f_X12_anew S_1 v1) (fun _ S_3 => some (S_1.1 0, S_3))))
set_option maxRecDepth 100000 in
theorem c_X12_hull (l : Launch) (D : va_G) (dA : Nat → ClassId) (ad : Nat → Nat) (S : PS) (v1 : Int32) {P : (Int32 × PS) → Prop} (hf : pO (f_X12_hull S v1) P) : CtI l D dA ad yX12_hull wsX12_hull 1 [.ref 0, .int v1] (hM S) (fun r h' => ∃ S' : PS, h' = hM S' ∧ P (r, S')) := by
  refine CtI_of mf_X12_hull rfl rfl (Nat.le_of_ble_eq_true rfl) rfl (hM_len S) ?_
  unfold f_X12_hull at hf
  refine E_iload_n dX12_hull_0 rfl ?_
  refine E_iconst (v := 2) dX12_hull_1 (by decide) ?_
  refine E_bipush (v := 10) dX12_hull_2 (by decide) ?_
  refine E_callSI (st := []) (c_X12_in l D dA ad S v1 2 10 (pO_bnd hf)) mf_X12_in rfl gX12_hull_X12_in (by omega) rfl (Nat.le_of_ble_eq_true rfl) (by rfl) dX12_hull_4 (fun r1 h1 q1 => ?_)
  obtain ⟨S_1, rfl, hf⟩ := q1
  dsimp only at hf
  refine E_if_ne (tgt := 12) dX12_hull_7 (by decide) (fun c_2 => ?_) (fun c_2 => ?_)
  · have hf := pO_neg c_2 hf
    refine E_aload_n dX12_hull_12 rfl ?_
    refine E_getf (v := .int (S_1.1 0)) dX12_hull_13 fl_X12_hull_9 rfl rfl ?_
    refine E_istore_n (ls' := [(0, .ref 0), (1, .int v1), (2, .int (S_1.1 0))]) dX12_hull_16 (by decide) rfl ?_
    refine E_aload_n dX12_hull_17 rfl ?_
    refine E_iload_n dX12_hull_18 rfl ?_
    refine E_callVV (st := []) (c_X12_anew l D dA ad S_1 v1 (pO_bnd hf)) mf_X12_anew rfl rfl gX12_hull_X12_anew (pRc.of (ci := 12) rfl rfl) (by omega) rfl (Nat.le_of_ble_eq_true rfl) (by rfl) dX12_hull_19 (fun h3 q3 => ?_)
    obtain ⟨r3, S_3, rfl, hf⟩ := q3
    dsimp only at hf
    refine E_iload_n dX12_hull_22 rfl ?_
    exact E_iret rfl dX12_hull_23 ⟨_, rfl, hf⟩
  · have hf := pO_pos c_2 hf
    refine E_iconst (v := (-1)) dX12_hull_10 (by decide) ?_
    exact E_iret rfl dX12_hull_11 ⟨_, rfl, hf⟩
theorem hi_X12_isSection_12 : ∀ w ∈ u_ws RX12 TX12 32, w ∈ wsX12_isSection := fun w h => of_decide_eq_true (List.all_eq_true.mp (by decide +kernel : (u_ws RX12 TX12 32).all (fun w => decide (w ∈ wsX12_isSection)) = true) w h)
theorem fl_X12_isSection_9 : pFL wsX12_isSection RX12 9 12 0 := ⟨RX12, TX12, 32, hi_X12_isSection_12, rfl, by decide, by decide +kernel⟩
theorem mf_X12_isSection : pMF yX12_isSection wsX12_isSection cX12_isSection 2 (some .boolean) 1 := ⟨⟨_, rfl⟩, by decide +kernel, by decide, by decide +kernel, by decide +kernel, by decide +kernel⟩
def f_X12_isSection (S : PS) (v1 : Int32) : Option (Int32 × PS) :=
  pbnd (f_X12_in S v1 0 ((S.1 0) - 1)) (fun r1 S_1 => pgd (pbit r1) (some (r1, S_1)))
set_option maxRecDepth 100000 in
theorem c_X12_isSection (l : Launch) (D : va_G) (dA : Nat → ClassId) (ad : Nat → Nat) (S : PS) (v1 : Int32) {P : (Int32 × PS) → Prop} (hf : pO (f_X12_isSection S v1) P) : CtI l D dA ad yX12_isSection wsX12_isSection 1 [.ref 0, .int v1] (hM S) (fun r h' => ∃ S' : PS, h' = hM S' ∧ P (r, S')) := by
  refine CtI_of mf_X12_isSection rfl rfl (Nat.le_of_ble_eq_true rfl) rfl (hM_len S) ?_
  unfold f_X12_isSection at hf
  refine E_iload_n dX12_isSection_0 rfl ?_
  refine E_iconst (v := 0) dX12_isSection_1 (by decide) ?_
  refine E_aload_n dX12_isSection_2 rfl ?_
  refine E_getf (v := .int (S.1 0)) dX12_isSection_3 fl_X12_isSection_9 rfl rfl ?_
  refine E_iconst (v := 1) dX12_isSection_6 (by decide) ?_
  refine E_isub dX12_isSection_7 ?_
  refine E_callSI (st := []) (c_X12_in l D dA ad S v1 0 ((S.1 0) - 1) (pO_bnd hf)) mf_X12_in rfl gX12_isSection_X12_in (by omega) rfl (Nat.le_of_ble_eq_true rfl) (by rfl) dX12_isSection_8 (fun r1 h1 q1 => ?_)
  obtain ⟨S_1, rfl, hf⟩ := q1
  dsimp only at hf
  obtain ⟨hn_2, hf⟩ := pO_gd hf
  exact E_zret rfl dX12_isSection_11 (pbit_n hn_2) ⟨_, rfl, hf⟩
theorem hi_X12_section_12 : ∀ w ∈ u_ws RX12 TX12 32, w ∈ wsX12_section := fun w h => of_decide_eq_true (List.all_eq_true.mp (by decide +kernel : (u_ws RX12 TX12 32).all (fun w => decide (w ∈ wsX12_section)) = true) w h)
theorem fl_X12_section_21 : pFL wsX12_section RX12 21 12 4 := ⟨RX12, TX12, 32, hi_X12_section_12, rfl, by decide, by decide +kernel⟩
theorem fl_X12_section_25 : pFL wsX12_section RX12 25 12 5 := ⟨RX12, TX12, 32, hi_X12_section_12, rfl, by decide, by decide +kernel⟩
theorem mf_X12_section : pMF yX12_section wsX12_section cX12_section 5 (some .int) 3 := ⟨⟨_, rfl⟩, by decide +kernel, by decide, by decide +kernel, by decide +kernel, by decide +kernel⟩
def f_X12_section (S : PS) (v1 : Int32) (v2 : Int32) (v3 : Int32) : Option (Int32 × PS) :=
  pbnd (f_X12_isSection S v1) (fun r1 S_1 => if r1 = (0 : Int32) then (some ((-1), S_1)) else (pbnd (f_X12_in S_1 v2 1 40) (fun r3 S_3 => if r3 = (0 : Int32) then (some ((-1), S_3)) else (pbnd (f_X12_in S_3 v3 0 30) (fun r5 S_5 => if r5 = (0 : Int32) then (some ((-1), S_5)) else (pgd (pin v1 10) (pgd (pin v1 10) (pgd (pin v1 10) (pgd (pin v1 10) (some ((100 * ((S_5.2 0) v1.toNatClampNeg)) + ((S_5.2 1) v1.toNatClampNeg), (pAr (pAr S_5 0 (upd (S_5.2 0) v1.toNatClampNeg v2)) 1 (upd (S_5.2 1) v1.toNatClampNeg v3)))))))))))))
set_option maxRecDepth 100000 in
theorem c_X12_section (l : Launch) (D : va_G) (dA : Nat → ClassId) (ad : Nat → Nat) (S : PS) (v1 : Int32) (v2 : Int32) (v3 : Int32) {P : (Int32 × PS) → Prop} (hf : pO (f_X12_section S v1 v2 v3) P) : CtI l D dA ad yX12_section wsX12_section 2 [.ref 0, .int v1, .int v2, .int v3] (hM S) (fun r h' => ∃ S' : PS, h' = hM S' ∧ P (r, S')) := by
  refine CtI_of mf_X12_section rfl rfl (Nat.le_of_ble_eq_true rfl) rfl (hM_len S) ?_
  unfold f_X12_section at hf
  refine E_aload_n dX12_section_0 rfl ?_
  refine E_iload_n dX12_section_1 rfl ?_
  refine E_callVI (st := []) (c_X12_isSection l D dA ad S v1 (pO_bnd hf)) mf_X12_isSection rfl rfl gX12_section_X12_isSection (pRc.of (ci := 12) rfl rfl) (by omega) rfl (Nat.le_of_ble_eq_true rfl) (by rfl) dX12_section_2 (fun r1 h1 q1 => ?_)
  obtain ⟨S_1, rfl, hf⟩ := q1
  dsimp only at hf
  refine E_if_eq (tgt := 28) dX12_section_5 (by decide) (fun c_2 => ?_) (fun c_2 => ?_)
  · have hf := pO_pos c_2 hf
    refine E_iconst (v := (-1)) dX12_section_28 (by decide) ?_
    exact E_iret rfl dX12_section_29 ⟨_, rfl, hf⟩
  · have hf := pO_neg c_2 hf
    refine E_iload_n dX12_section_8 rfl ?_
    refine E_iconst (v := 1) dX12_section_9 (by decide) ?_
    refine E_bipush (v := 40) dX12_section_10 (by decide) ?_
    refine E_callSI (st := []) (c_X12_in l D dA ad S_1 v2 1 40 (pO_bnd hf)) mf_X12_in rfl gX12_section_X12_in (by omega) rfl (Nat.le_of_ble_eq_true rfl) (by rfl) dX12_section_12 (fun r3 h3 q3 => ?_)
    obtain ⟨S_3, rfl, hf⟩ := q3
    dsimp only at hf
    refine E_if_eq (tgt := 28) dX12_section_15 (by decide) (fun c_4 => ?_) (fun c_4 => ?_)
    · have hf := pO_pos c_4 hf
      refine E_iconst (v := (-1)) dX12_section_28 (by decide) ?_
      exact E_iret rfl dX12_section_29 ⟨_, rfl, hf⟩
    · have hf := pO_neg c_4 hf
      refine E_iload_n dX12_section_18 rfl ?_
      refine E_iconst (v := 0) dX12_section_19 (by decide) ?_
      refine E_bipush (v := 30) dX12_section_20 (by decide) ?_
      refine E_callSI (st := []) (c_X12_in l D dA ad S_3 v3 0 30 (pO_bnd hf)) mf_X12_in rfl gX12_section_X12_in (by omega) rfl (Nat.le_of_ble_eq_true rfl) (by rfl) dX12_section_22 (fun r5 h5 q5 => ?_)
      obtain ⟨S_5, rfl, hf⟩ := q5
      dsimp only at hf
      refine E_if_ne (tgt := 30) dX12_section_25 (by decide) (fun c_6 => ?_) (fun c_6 => ?_)
      · have hf := pO_neg c_6 hf
        refine E_bipush (v := 100) dX12_section_30 (by decide) ?_
        refine E_aload_n dX12_section_32 rfl ?_
        refine E_getf (v := .ref 1) dX12_section_33 fl_X12_section_21 rfl rfl ?_
        refine E_iload_n dX12_section_36 rfl ?_
        obtain ⟨hi_7, hf⟩ := pO_gd hf
        refine E_iald (n0 := 10) (f := S_5.2 0) dX12_section_37 rfl (pin_in hi_7) ?_
        refine E_imul dX12_section_38 ?_
        refine E_aload_n dX12_section_39 rfl ?_
        refine E_getf (v := .ref 2) dX12_section_40 fl_X12_section_25 rfl rfl ?_
        refine E_iload_n dX12_section_43 rfl ?_
        obtain ⟨hi_8, hf⟩ := pO_gd hf
        refine E_iald (n0 := 10) (f := S_5.2 1) dX12_section_44 rfl (pin_in hi_8) ?_
        refine E_iadd dX12_section_45 ?_
        refine E_istore (ls' := [(0, .ref 0), (1, .int v1), (2, .int v2), (3, .int v3), (4, .int ((100 * ((S_5.2 0) v1.toNatClampNeg)) + ((S_5.2 1) v1.toNatClampNeg)))]) dX12_section_46 (by decide) rfl ?_
        refine E_aload_n dX12_section_48 rfl ?_
        refine E_getf (v := .ref 1) dX12_section_49 fl_X12_section_21 rfl rfl ?_
        refine E_iload_n dX12_section_52 rfl ?_
        refine E_iload_n dX12_section_53 rfl ?_
        obtain ⟨hi_9, hf⟩ := pO_gd hf
        refine E_iast (n0 := 10) (f := S_5.2 0) (h' := hM (pAr S_5 0 (upd (S_5.2 0) v1.toNatClampNeg v2))) dX12_section_54 rfl (pin_in hi_9) (sM_A0 S_5 (upd (S_5.2 0) v1.toNatClampNeg v2)) ?_
        refine E_aload_n dX12_section_55 rfl ?_
        refine E_getf (v := .ref 2) dX12_section_56 fl_X12_section_25 rfl rfl ?_
        refine E_iload_n dX12_section_59 rfl ?_
        refine E_iload_n dX12_section_60 rfl ?_
        obtain ⟨hi_10, hf⟩ := pO_gd hf
        refine E_iast (n0 := 10) (f := S_5.2 1) (h' := hM (pAr (pAr S_5 0 (upd (S_5.2 0) v1.toNatClampNeg v2)) 1 (upd (S_5.2 1) v1.toNatClampNeg v3))) dX12_section_61 rfl (pin_in hi_10) (sM_A1 (pAr S_5 0 (upd (S_5.2 0) v1.toNatClampNeg v2)) (upd (S_5.2 1) v1.toNatClampNeg v3)) ?_
        refine E_iload dX12_section_62 rfl ?_
        exact E_iret rfl dX12_section_64 ⟨_, rfl, hf⟩
      · have hf := pO_pos c_6 hf
        refine E_iconst (v := (-1)) dX12_section_28 (by decide) ?_
        exact E_iret rfl dX12_section_29 ⟨_, rfl, hf⟩
theorem hi_X12_set_12 : ∀ w ∈ u_ws RX12 TX12 32, w ∈ wsX12_set := fun w h => of_decide_eq_true (List.all_eq_true.mp (by decide +kernel : (u_ws RX12 TX12 32).all (fun w => decide (w ∈ wsX12_set)) = true) w h)
theorem fl_X12_set_15 : pFL wsX12_set RX12 15 12 1 := ⟨RX12, TX12, 32, hi_X12_set_12, rfl, by decide, by decide +kernel⟩
theorem fl_X12_set_18 : pFL wsX12_set RX12 18 12 2 := ⟨RX12, TX12, 32, hi_X12_set_12, rfl, by decide, by decide +kernel⟩
theorem fl_X12_set_95 : pFL wsX12_set RX12 95 12 3 := ⟨RX12, TX12, 32, hi_X12_set_12, rfl, by decide, by decide +kernel⟩
theorem mf_X12_set : pMF yX12_set wsX12_set cX12_set 4 (some .int) 2 := ⟨⟨_, rfl⟩, by decide +kernel, by decide, by decide +kernel, by decide +kernel, by decide +kernel⟩
def f_X12_set (S : PS) (v1 : Int32) (v2 : Int32) : Option (Int32 × PS) :=
  if v1 = (0 : Int32) then (pbnd (f_X12_in S v2 1 60) (fun r2 S_2 => if r2 = (0 : Int32) then (some ((-1), S_2)) else (some (S_2.1 1, (pI S_2 1 v2))))) else (if v1 = (1 : Int32) then (pbnd (f_X12_in S v2 1 9999) (fun r5 S_5 => if r5 = (0 : Int32) then (some ((-1), S_5)) else (some (S_5.1 2, (pI S_5 2 v2))))) else (if v1 = (2 : Int32) then (pbnd (f_X12_in S v2 0 1) (fun r8 S_8 => if r8 = (0 : Int32) then (some ((-1), S_8)) else (some (S_8.1 3, (pI S_8 3 v2))))) else (some ((-1), S))))
set_option maxRecDepth 100000 in
theorem c_X12_set (l : Launch) (D : va_G) (dA : Nat → ClassId) (ad : Nat → Nat) (S : PS) (v1 : Int32) (v2 : Int32) {P : (Int32 × PS) → Prop} (hf : pO (f_X12_set S v1 v2) P) : CtI l D dA ad yX12_set wsX12_set 1 [.ref 0, .int v1, .int v2] (hM S) (fun r h' => ∃ S' : PS, h' = hM S' ∧ P (r, S')) := by
  refine CtI_of mf_X12_set rfl rfl (Nat.le_of_ble_eq_true rfl) rfl (hM_len S) ?_
  unfold f_X12_set at hf
  refine E_iload_n dX12_set_0 rfl ?_
  by_cases k_1 : v1 = (0 : Int32)
  · have hf := pO_pos k_1 hf
    refine E_tableIn (off := 27) (tgt := 28) dX12_set_1 (by rw [k_1]; decide) (by rw [k_1]; decide) (by rw [k_1]; rfl) (by decide) ?_
    refine E_iload_n dX12_set_28 rfl ?_
    refine E_iconst (v := 1) dX12_set_29 (by decide) ?_
    refine E_bipush (v := 60) dX12_set_30 (by decide) ?_
    refine E_callSI (st := []) (c_X12_in l D dA ad S v2 1 60 (pO_bnd hf)) mf_X12_in rfl gX12_set_X12_in (by omega) rfl (Nat.le_of_ble_eq_true rfl) (by rfl) dX12_set_32 (fun r2 h2 q2 => ?_)
    obtain ⟨S_2, rfl, hf⟩ := q2
    dsimp only at hf
    refine E_if_ne (tgt := 40) dX12_set_35 (by decide) (fun c_3 => ?_) (fun c_3 => ?_)
    · have hf := pO_neg c_3 hf
      refine E_aload_n dX12_set_40 rfl ?_
      refine E_getf (v := .int (S_2.1 1)) dX12_set_41 fl_X12_set_15 rfl rfl ?_
      refine E_istore_n (ls' := [(0, .ref 0), (1, .int v1), (2, .int v2), (3, .int (S_2.1 1))]) dX12_set_44 (by decide) rfl ?_
      refine E_aload_n dX12_set_45 rfl ?_
      refine E_iload_n dX12_set_46 rfl ?_
      refine E_putf (h' := hM (pI S_2 1 v2)) dX12_set_47 fl_X12_set_15 ft_12_1 rfl (Nat.lt_of_lt_of_eq (by decide : 1 < 32) rfl) rfl rfl ⟨_, rfl⟩ (sM_I1 S_2 v2) ?_
      refine E_iload_n dX12_set_50 rfl ?_
      exact E_iret rfl dX12_set_51 ⟨_, rfl, hf⟩
    · have hf := pO_pos c_3 hf
      refine E_iconst (v := (-1)) dX12_set_38 (by decide) ?_
      exact E_iret rfl dX12_set_39 ⟨_, rfl, hf⟩
  · have hf := pO_neg k_1 hf
    by_cases k_4 : v1 = (1 : Int32)
    · have hf := pO_pos k_4 hf
      refine E_tableIn (off := 51) (tgt := 52) dX12_set_1 (by rw [k_4]; decide) (by rw [k_4]; decide) (by rw [k_4]; rfl) (by decide) ?_
      refine E_iload_n dX12_set_52 rfl ?_
      refine E_iconst (v := 1) dX12_set_53 (by decide) ?_
      refine E_sipush (v := 9999) dX12_set_54 (by decide) ?_
      refine E_callSI (st := []) (c_X12_in l D dA ad S v2 1 9999 (pO_bnd hf)) mf_X12_in rfl gX12_set_X12_in (by omega) rfl (Nat.le_of_ble_eq_true rfl) (by rfl) dX12_set_57 (fun r5 h5 q5 => ?_)
      obtain ⟨S_5, rfl, hf⟩ := q5
      dsimp only at hf
      refine E_if_ne (tgt := 65) dX12_set_60 (by decide) (fun c_6 => ?_) (fun c_6 => ?_)
      · have hf := pO_neg c_6 hf
        refine E_aload_n dX12_set_65 rfl ?_
        refine E_getf (v := .int (S_5.1 2)) dX12_set_66 fl_X12_set_18 rfl rfl ?_
        refine E_istore_n (ls' := [(0, .ref 0), (1, .int v1), (2, .int v2), (3, .int (S_5.1 2))]) dX12_set_69 (by decide) rfl ?_
        refine E_aload_n dX12_set_70 rfl ?_
        refine E_iload_n dX12_set_71 rfl ?_
        refine E_putf (h' := hM (pI S_5 2 v2)) dX12_set_72 fl_X12_set_18 ft_12_2 rfl (Nat.lt_of_lt_of_eq (by decide : 2 < 32) rfl) rfl rfl ⟨_, rfl⟩ (sM_I2 S_5 v2) ?_
        refine E_iload_n dX12_set_75 rfl ?_
        exact E_iret rfl dX12_set_76 ⟨_, rfl, hf⟩
      · have hf := pO_pos c_6 hf
        refine E_iconst (v := (-1)) dX12_set_63 (by decide) ?_
        exact E_iret rfl dX12_set_64 ⟨_, rfl, hf⟩
    · have hf := pO_neg k_4 hf
      by_cases k_7 : v1 = (2 : Int32)
      · have hf := pO_pos k_7 hf
        refine E_tableIn (off := 76) (tgt := 77) dX12_set_1 (by rw [k_7]; decide) (by rw [k_7]; decide) (by rw [k_7]; rfl) (by decide) ?_
        refine E_iload_n dX12_set_77 rfl ?_
        refine E_iconst (v := 0) dX12_set_78 (by decide) ?_
        refine E_iconst (v := 1) dX12_set_79 (by decide) ?_
        refine E_callSI (st := []) (c_X12_in l D dA ad S v2 0 1 (pO_bnd hf)) mf_X12_in rfl gX12_set_X12_in (by omega) rfl (Nat.le_of_ble_eq_true rfl) (by rfl) dX12_set_80 (fun r8 h8 q8 => ?_)
        obtain ⟨S_8, rfl, hf⟩ := q8
        dsimp only at hf
        refine E_if_ne (tgt := 88) dX12_set_83 (by decide) (fun c_9 => ?_) (fun c_9 => ?_)
        · have hf := pO_neg c_9 hf
          refine E_aload_n dX12_set_88 rfl ?_
          refine E_getf (v := .int (S_8.1 3)) dX12_set_89 fl_X12_set_95 rfl rfl ?_
          refine E_istore_n (ls' := [(0, .ref 0), (1, .int v1), (2, .int v2), (3, .int (S_8.1 3))]) dX12_set_92 (by decide) rfl ?_
          refine E_aload_n dX12_set_93 rfl ?_
          refine E_iload_n dX12_set_94 rfl ?_
          refine E_putf (h' := hM (pI S_8 3 v2)) dX12_set_95 fl_X12_set_95 ft_12_3 rfl (Nat.lt_of_lt_of_eq (by decide : 3 < 32) rfl) rfl rfl ⟨_, rfl⟩ (sM_I3 S_8 v2) ?_
          refine E_iload_n dX12_set_98 rfl ?_
          exact E_iret rfl dX12_set_99 ⟨_, rfl, hf⟩
        · have hf := pO_pos c_9 hf
          refine E_iconst (v := (-1)) dX12_set_86 (by decide) ?_
          exact E_iret rfl dX12_set_87 ⟨_, rfl, hf⟩
      · have hf := pO_neg k_7 hf
        refine E_tableOut (tgt := 100) dX12_set_1 (by have z0 := pti k_1 (by decide : (0 : Int32).toInt = 0); have z1 := pti k_4 (by decide : (1 : Int32).toInt = 1); have z2 := pti k_7 (by decide : (2 : Int32).toInt = 2); omega) (by decide) ?_
        refine E_iconst (v := (-1)) dX12_set_100 (by decide) ?_
        exact E_iret rfl dX12_set_101 ⟨_, rfl, hf⟩
