theorem mf_X11_isWithin : pMF yX11_isWithin wsX11_isWithin cX11_isWithin 3 (some .boolean) 3 := ⟨⟨_, rfl⟩, by decide +kernel, by decide, by decide +kernel, by decide +kernel, by decide +kernel⟩
def f_X11_isWithin (S : PS) (v0 : Int32) (v1 : Int32) (v2 : Int32) : Option (Int32 × PS) :=
  if v0 < v1 then (some (0, S)) else (if v2 < v0 then (some (0, S)) else (some (1, S)))
set_option maxRecDepth 100000 in
theorem c_X11_isWithin (l : Launch) (D : va_G) (dA : Nat → ClassId) (ad : Nat → Nat) (S : PS) (v0 : Int32) (v1 : Int32) (v2 : Int32) {P : (Int32 × PS) → Prop} (hf : pO (f_X11_isWithin S v0 v1 v2) P) : CtI l D dA ad yX11_isWithin wsX11_isWithin 0 [.int v0, .int v1, .int v2] (hX S) (fun r h' => ∃ S' : PS, h' = hX S' ∧ P (r, S')) := by
  refine CtI_of mf_X11_isWithin rfl rfl (Nat.le_of_ble_eq_true rfl) rfl (hX_len S) ?_
  unfold f_X11_isWithin at hf
  refine E_iload_n dX11_isWithin_0 rfl ?_
  refine E_iload_n dX11_isWithin_1 rfl ?_
  refine E_icmp_lt (tgt := 14) dX11_isWithin_2 (by decide) (fun c_1 => ?_) (fun c_1 => ?_)
  · have hf := pO_pos c_1 hf
    refine E_iconst (v := 0) dX11_isWithin_14 (by decide) ?_
    exact E_zret rfl dX11_isWithin_15 (by decide) ⟨_, rfl, hf⟩
  · have hf := pO_neg c_1 hf
    refine E_iload_n dX11_isWithin_5 rfl ?_
    refine E_iload_n dX11_isWithin_6 rfl ?_
    refine E_icmp_gt (tgt := 14) dX11_isWithin_7 (by decide) (fun c_2 => ?_) (fun c_2 => ?_)
    · have hf := pO_pos c_2 hf
      refine E_iconst (v := 0) dX11_isWithin_14 (by decide) ?_
      exact E_zret rfl dX11_isWithin_15 (by decide) ⟨_, rfl, hf⟩
    · have hf := pO_neg c_2 hf
      refine E_iconst (v := 1) dX11_isWithin_10 (by decide) ?_
      refine E_goto (tgt := 15) dX11_isWithin_11 (by decide) ?_
      exact E_zret rfl dX11_isWithin_15 (by decide) ⟨_, rfl, hf⟩
theorem hi_X11_hull_11 : ∀ w ∈ u_ws RX11 TX11 10, w ∈ wsX11_hull := fun w h => of_decide_eq_true (List.all_eq_true.mp (by decide +kernel : (u_ws RX11 TX11 10).all (fun w => decide (w ∈ wsX11_hull)) = true) w h)
theorem fl_X11_hull_12 : pFL wsX11_hull RX11 12 11 0 := ⟨RX11, TX11, 10, hi_X11_hull_11, rfl, by decide, by decide +kernel⟩
theorem hi_X11_hull_0 : ∀ w ∈ u_ws RX0 TX0 3, w ∈ wsX11_hull := fun w h => of_decide_eq_true (List.all_eq_true.mp (by decide +kernel : (u_ws RX0 TX0 3).all (fun w => decide (w ∈ wsX11_hull)) = true) w h)
theorem fl_X11_hull_82 : pFL wsX11_hull RX11 82 0 0 := ⟨RX0, TX0, 3, hi_X11_hull_0, rfl, by decide, by decide +kernel⟩
theorem hi_X11_hull_2 : ∀ w ∈ u_ws RX2 TX2 6, w ∈ wsX11_hull := fun w h => of_decide_eq_true (List.all_eq_true.mp (by decide +kernel : (u_ws RX2 TX2 6).all (fun w => decide (w ∈ wsX11_hull)) = true) w h)
theorem fl_X11_hull_86 : pFL wsX11_hull RX11 86 2 0 := ⟨RX2, TX2, 6, hi_X11_hull_2, rfl, by decide, by decide +kernel⟩
theorem hi_X0_makeAsAtFirst_0 : ∀ w ∈ u_ws RX0 TX0 3, w ∈ wsX0_makeAsAtFirst := fun w h => of_decide_eq_true (List.all_eq_true.mp (by decide +kernel : (u_ws RX0 TX0 3).all (fun w => decide (w ∈ wsX0_makeAsAtFirst)) = true) w h)
theorem fl_X0_makeAsAtFirst_12 : pFL wsX0_makeAsAtFirst RX0 12 0 0 := ⟨RX0, TX0, 3, hi_X0_makeAsAtFirst_0, rfl, by decide, by decide +kernel⟩
theorem mf_X11_held : pMF yX11_held wsX11_held cX11_held 3 (some .int) 3 := ⟨⟨_, rfl⟩, by decide +kernel, by decide, by decide +kernel, by decide +kernel, by decide +kernel⟩
def f_X11_held (S : PS) (v0 : Int32) (v1 : Int32) (v2 : Int32) : Option (Int32 × PS) :=
  some (pmax v1 (pmin v0 v2), S)
set_option maxRecDepth 100000 in
theorem c_X11_held (l : Launch) (D : va_G) (dA : Nat → ClassId) (ad : Nat → Nat) (S : PS) (v0 : Int32) (v1 : Int32) (v2 : Int32) {P : (Int32 × PS) → Prop} (hf : pO (f_X11_held S v0 v1 v2) P) : CtI l D dA ad yX11_held wsX11_held 1 [.int v0, .int v1, .int v2] (hX S) (fun r h' => ∃ S' : PS, h' = hX S' ∧ P (r, S')) := by
  refine CtI_of mf_X11_held rfl rfl (Nat.le_of_ble_eq_true rfl) rfl (hX_len S) ?_
  unfold f_X11_held at hf
  refine E_iload_n dX11_held_0 rfl ?_
  refine E_iload_n dX11_held_1 rfl ?_
  refine E_iload_n dX11_held_2 rfl ?_
  refine E_mmin (by decide +kernel) (by decide +kernel) (by decide +kernel) (by decide +kernel) (by omega) (Nat.le_of_ble_eq_true rfl) (by rfl) dX11_held_3 ?_
  refine E_mmax (by decide +kernel) (by decide +kernel) (by decide +kernel) (by decide +kernel) (by omega) (Nat.le_of_ble_eq_true rfl) (by rfl) dX11_held_6 ?_
  exact E_iret rfl dX11_held_9 ⟨_, rfl, hf⟩
theorem hi_X2_makeAsAtFirst_2 : ∀ w ∈ u_ws RX2 TX2 6, w ∈ wsX2_makeAsAtFirst := fun w h => of_decide_eq_true (List.all_eq_true.mp (by decide +kernel : (u_ws RX2 TX2 6).all (fun w => decide (w ∈ wsX2_makeAsAtFirst)) = true) w h)
theorem fl_X2_makeAsAtFirst_9 : pFL wsX2_makeAsAtFirst RX2 9 2 0 := ⟨RX2, TX2, 6, hi_X2_makeAsAtFirst_2, rfl, by decide, by decide +kernel⟩
theorem ft_2_0 : pFT 2 0 .int := ⟨RX2, TX2, 6, tyX2, rfl, by decide, tyX2_ok, nmX2, rfl, by decide +kernel⟩
theorem fl_X2_makeAsAtFirst_15 : pFL wsX2_makeAsAtFirst RX2 15 2 1 := ⟨RX2, TX2, 6, hi_X2_makeAsAtFirst_2, rfl, by decide, by decide +kernel⟩
theorem ft_2_1 : pFT 2 1 .int := ⟨RX2, TX2, 6, tyX2, rfl, by decide, tyX2_ok, nmX2, rfl, by decide +kernel⟩
theorem fl_X2_makeAsAtFirst_18 : pFL wsX2_makeAsAtFirst RX2 18 2 2 := ⟨RX2, TX2, 6, hi_X2_makeAsAtFirst_2, rfl, by decide, by decide +kernel⟩
theorem ft_2_2 : pFT 2 2 .int := ⟨RX2, TX2, 6, tyX2, rfl, by decide, tyX2_ok, nmX2, rfl, by decide +kernel⟩
theorem fl_X2_makeAsAtFirst_21 : pFL wsX2_makeAsAtFirst RX2 21 2 3 := ⟨RX2, TX2, 6, hi_X2_makeAsAtFirst_2, rfl, by decide, by decide +kernel⟩
theorem ft_2_3 : pFT 2 3 .int := ⟨RX2, TX2, 6, tyX2, rfl, by decide, tyX2_ok, nmX2, rfl, by decide +kernel⟩
theorem fl_X2_makeAsAtFirst_24 : pFL wsX2_makeAsAtFirst RX2 24 2 4 := ⟨RX2, TX2, 6, hi_X2_makeAsAtFirst_2, rfl, by decide, by decide +kernel⟩
theorem fl_X2_makeAsAtFirst_28 : pFL wsX2_makeAsAtFirst RX2 28 2 5 := ⟨RX2, TX2, 6, hi_X2_makeAsAtFirst_2, rfl, by decide, by decide +kernel⟩
theorem mf_X2_makeAsAtFirst : pMF yX2_makeAsAtFirst wsX2_makeAsAtFirst cX2_makeAsAtFirst 2 none 1 := ⟨⟨_, rfl⟩, by decide +kernel, by decide, by decide +kernel, by decide +kernel, by decide +kernel⟩
def f_X2_makeAsAtFirst (S : PS) (v1 : Int32) : Option (Int32 × PS) :=
  pbnd (f_X11_held S v1 2 10) (fun r1 S_1 => some (0, (pAr (pAr (pI (pI (pI (pI S_1 0 r1) 1 20) 2 100) 3 0) 0 (pfil 10 10 (S_1.2 0))) 1 (pfil 10 0 (S_1.2 1)))))
set_option maxRecDepth 100000 in
theorem c_X2_makeAsAtFirst (l : Launch) (D : va_G) (dA : Nat → ClassId) (ad : Nat → Nat) (S : PS) (v1 : Int32) {P : (Int32 × PS) → Prop} (hf : pO (f_X2_makeAsAtFirst S v1) P) : CtV l D dA ad yX2_makeAsAtFirst wsX2_makeAsAtFirst 2 [.ref 2, .int v1] (hX S) (fun h' => ∃ (r0 : Int32) (S' : PS), h' = hX S' ∧ P (r0, S')) := by
  refine CtV_of mf_X2_makeAsAtFirst rfl rfl (Nat.le_of_ble_eq_true rfl) rfl (hX_len S) ?_
  unfold f_X2_makeAsAtFirst at hf
  refine E_aload_n dX2_makeAsAtFirst_0 rfl ?_
  refine E_iload_n dX2_makeAsAtFirst_1 rfl ?_
  refine E_iconst (v := 2) dX2_makeAsAtFirst_2 (by decide) ?_
  refine E_bipush (v := 10) dX2_makeAsAtFirst_3 (by decide) ?_
  refine E_callNI (st := [.ref 2]) (c_X11_held l D dA ad S v1 2 10 (pO_bnd hf)) mf_X11_held rfl gX2_makeAsAtFirst_X11_held_n31 (by decide +kernel) (by decide +kernel) (by decide +kernel) (by omega) rfl (Nat.le_of_ble_eq_true rfl) (by rfl) dX2_makeAsAtFirst_5 (fun r1 h1 q1 => ?_)
  obtain ⟨S_1, rfl, hf⟩ := q1
  dsimp only at hf
  refine E_putf (h' := hX (pI S_1 0 r1)) dX2_makeAsAtFirst_8 fl_X2_makeAsAtFirst_9 ft_2_0 rfl (Nat.lt_of_lt_of_eq (by decide : 0 < 6) rfl) rfl rfl ⟨_, rfl⟩ (sX_I0 S_1 r1) ?_
  refine E_aload_n dX2_makeAsAtFirst_11 rfl ?_
  refine E_bipush (v := 20) dX2_makeAsAtFirst_12 (by decide) ?_
  refine E_putf (h' := hX (pI (pI S_1 0 r1) 1 20)) dX2_makeAsAtFirst_14 fl_X2_makeAsAtFirst_15 ft_2_1 rfl (Nat.lt_of_lt_of_eq (by decide : 1 < 6) rfl) rfl rfl ⟨_, rfl⟩ (sX_I1 (pI S_1 0 r1) 20) ?_
  refine E_aload_n dX2_makeAsAtFirst_17 rfl ?_
  refine E_bipush (v := 100) dX2_makeAsAtFirst_18 (by decide) ?_
  refine E_putf (h' := hX (pI (pI (pI S_1 0 r1) 1 20) 2 100)) dX2_makeAsAtFirst_20 fl_X2_makeAsAtFirst_18 ft_2_2 rfl (Nat.lt_of_lt_of_eq (by decide : 2 < 6) rfl) rfl rfl ⟨_, rfl⟩ (sX_I2 (pI (pI S_1 0 r1) 1 20) 100) ?_
  refine E_aload_n dX2_makeAsAtFirst_23 rfl ?_
  refine E_iconst (v := 0) dX2_makeAsAtFirst_24 (by decide) ?_
  refine E_putf (h' := hX (pI (pI (pI (pI S_1 0 r1) 1 20) 2 100) 3 0)) dX2_makeAsAtFirst_25 fl_X2_makeAsAtFirst_21 ft_2_3 rfl (Nat.lt_of_lt_of_eq (by decide : 3 < 6) rfl) rfl rfl ⟨_, rfl⟩ (sX_I3 (pI (pI (pI S_1 0 r1) 1 20) 2 100) 0) ?_
  refine E_aload_n dX2_makeAsAtFirst_28 rfl ?_
  refine E_getf (v := .ref 3) dX2_makeAsAtFirst_29 fl_X2_makeAsAtFirst_24 rfl rfl ?_
  refine E_bipush (v := 10) dX2_makeAsAtFirst_32 (by decide) ?_
  refine E_callSV (st := []) (c_J7_fill_53178 l D dA ad (h := hX (pI (pI (pI (pI S_1 0 r1) 1 20) 2 100) 3 0)) (q0 := 3) (n0 := 10) (f := S_1.2 0) (v := 10) rfl (by decide)) mf_J7_fill_53178 rfl gX2_makeAsAtFirst_J7_fill_53178 (by omega) rfl (Nat.le_of_ble_eq_true rfl) (by rfl) dX2_makeAsAtFirst_34 (fun h2 q2 => ?_)
  obtain rfl := q2
  refine E_heap (h' := hX (pAr (pI (pI (pI (pI S_1 0 r1) 1 20) 2 100) 3 0) 0 (pfil 10 10 (S_1.2 0)))) (sX_A0 (pI (pI (pI (pI S_1 0 r1) 1 20) 2 100) 3 0) (pfil 10 10 (S_1.2 0))) ?_
  refine E_aload_n dX2_makeAsAtFirst_37 rfl ?_
  refine E_getf (v := .ref 4) dX2_makeAsAtFirst_38 fl_X2_makeAsAtFirst_28 rfl rfl ?_
  refine E_iconst (v := 0) dX2_makeAsAtFirst_41 (by decide) ?_
  refine E_callSV (st := []) (c_J7_fill_53178 l D dA ad (h := hX (pAr (pI (pI (pI (pI S_1 0 r1) 1 20) 2 100) 3 0) 0 (pfil 10 10 (S_1.2 0)))) (q0 := 4) (n0 := 10) (f := S_1.2 1) (v := 0) rfl (by decide)) mf_J7_fill_53178 rfl gX2_makeAsAtFirst_J7_fill_53178 (by omega) rfl (Nat.le_of_ble_eq_true rfl) (by rfl) dX2_makeAsAtFirst_42 (fun h3 q3 => ?_)
  obtain rfl := q3
  refine E_heap (h' := hX (pAr (pAr (pI (pI (pI (pI S_1 0 r1) 1 20) 2 100) 3 0) 0 (pfil 10 10 (S_1.2 0))) 1 (pfil 10 0 (S_1.2 1)))) (sX_A1 (pAr (pI (pI (pI (pI S_1 0 r1) 1 20) 2 100) 3 0) 0 (pfil 10 10 (S_1.2 0))) (pfil 10 0 (S_1.2 1))) ?_
  exact E_vret rfl dX2_makeAsAtFirst_45 ⟨0, _, rfl, hf⟩
theorem fl_X0_makeAsAtFirst_21 : pFL wsX0_makeAsAtFirst RX0 21 0 1 := ⟨RX0, TX0, 3, hi_X0_makeAsAtFirst_0, rfl, by decide, by decide +kernel⟩
theorem hi_X0_makeAsAtFirst_1 : ∀ w ∈ u_ws RX1 TX1 7, w ∈ wsX0_makeAsAtFirst := fun w h => of_decide_eq_true (List.all_eq_true.mp (by decide +kernel : (u_ws RX1 TX1 7).all (fun w => decide (w ∈ wsX0_makeAsAtFirst)) = true) w h)
theorem fl_X0_makeAsAtFirst_36 : pFL wsX0_makeAsAtFirst RX0 36 1 0 := ⟨RX1, TX1, 7, hi_X0_makeAsAtFirst_1, rfl, by decide, by decide +kernel⟩
theorem ft_1_0 : pFT 1 0 .int := ⟨RX1, TX1, 7, tyX1, rfl, by decide, tyX1_ok, nmX1, rfl, by decide +kernel⟩
theorem fl_X0_makeAsAtFirst_28 : pFL wsX0_makeAsAtFirst RX0 28 0 2 := ⟨RX0, TX0, 3, hi_X0_makeAsAtFirst_0, rfl, by decide, by decide +kernel⟩
theorem hi_X8_empty_8 : ∀ w ∈ u_ws RX8 TX8 4, w ∈ wsX8_empty := fun w h => of_decide_eq_true (List.all_eq_true.mp (by decide +kernel : (u_ws RX8 TX8 4).all (fun w => decide (w ∈ wsX8_empty)) = true) w h)
theorem fl_X8_empty_9 : pFL wsX8_empty RX8 9 8 0 := ⟨RX8, TX8, 4, hi_X8_empty_8, rfl, by decide, by decide +kernel⟩
theorem fl_X8_empty_15 : pFL wsX8_empty RX8 15 8 1 := ⟨RX8, TX8, 4, hi_X8_empty_8, rfl, by decide, by decide +kernel⟩
theorem fl_X8_empty_18 : pFL wsX8_empty RX8 18 8 2 := ⟨RX8, TX8, 4, hi_X8_empty_8, rfl, by decide, by decide +kernel⟩
theorem fl_X8_empty_21 : pFL wsX8_empty RX8 21 8 3 := ⟨RX8, TX8, 4, hi_X8_empty_8, rfl, by decide, by decide +kernel⟩
theorem mf_X8_empty : pMF yX8_empty wsX8_empty cX8_empty 1 none 0 := ⟨⟨_, rfl⟩, by decide +kernel, by decide, by decide +kernel, by decide +kernel, by decide +kernel⟩
def f_X8_empty (S : PS) : Option (Int32 × PS) :=
  some (0, (pAr (pAr (pAr (pAr S 8 (pfil 4 0 (S.2 8))) 9 (pfil 4 0 (S.2 9))) 10 (pfil 4 0 (S.2 10))) 11 (pfil 4 0 (S.2 11))))
set_option maxRecDepth 100000 in
theorem c_X8_empty (l : Launch) (D : va_G) (dA : Nat → ClassId) (ad : Nat → Nat) (S : PS) {P : (Int32 × PS) → Prop} (hf : pO (f_X8_empty S) P) : CtV l D dA ad yX8_empty wsX8_empty 1 [.ref 12] (hX S) (fun h' => ∃ (r0 : Int32) (S' : PS), h' = hX S' ∧ P (r0, S')) := by
  refine CtV_of mf_X8_empty rfl rfl (Nat.le_of_ble_eq_true rfl) rfl (hX_len S) ?_
  unfold f_X8_empty at hf
  refine E_aload_n dX8_empty_0 rfl ?_
  refine E_getf (v := .ref 13) dX8_empty_1 fl_X8_empty_9 rfl rfl ?_
  refine E_iconst (v := 0) dX8_empty_4 (by decide) ?_
  refine E_callSV (st := []) (c_J7_fill_53178 l D dA ad (h := hX S) (q0 := 13) (n0 := 4) (f := S.2 8) (v := 0) rfl (by decide)) mf_J7_fill_53178 rfl gX8_empty_J7_fill_53178 (by omega) rfl (Nat.le_of_ble_eq_true rfl) (by rfl) dX8_empty_5 (fun h1 q1 => ?_)
  obtain rfl := q1
  refine E_heap (h' := hX (pAr S 8 (pfil 4 0 (S.2 8)))) (sX_A8 S (pfil 4 0 (S.2 8))) ?_
  refine E_aload_n dX8_empty_8 rfl ?_
  refine E_getf (v := .ref 14) dX8_empty_9 fl_X8_empty_15 rfl rfl ?_
  refine E_iconst (v := 0) dX8_empty_12 (by decide) ?_
  refine E_callSV (st := []) (c_J7_fill_53178 l D dA ad (h := hX (pAr S 8 (pfil 4 0 (S.2 8)))) (q0 := 14) (n0 := 4) (f := S.2 9) (v := 0) rfl (by decide)) mf_J7_fill_53178 rfl gX8_empty_J7_fill_53178 (by omega) rfl (Nat.le_of_ble_eq_true rfl) (by rfl) dX8_empty_13 (fun h2 q2 => ?_)
  obtain rfl := q2
  refine E_heap (h' := hX (pAr (pAr S 8 (pfil 4 0 (S.2 8))) 9 (pfil 4 0 (S.2 9)))) (sX_A9 (pAr S 8 (pfil 4 0 (S.2 8))) (pfil 4 0 (S.2 9))) ?_
  refine E_aload_n dX8_empty_16 rfl ?_
  refine E_getf (v := .ref 15) dX8_empty_17 fl_X8_empty_18 rfl rfl ?_
  refine E_iconst (v := 0) dX8_empty_20 (by decide) ?_
  refine E_callSV (st := []) (c_J7_fill_53178 l D dA ad (h := hX (pAr (pAr S 8 (pfil 4 0 (S.2 8))) 9 (pfil 4 0 (S.2 9)))) (q0 := 15) (n0 := 4) (f := S.2 10) (v := 0) rfl (by decide)) mf_J7_fill_53178 rfl gX8_empty_J7_fill_53178 (by omega) rfl (Nat.le_of_ble_eq_true rfl) (by rfl) dX8_empty_21 (fun h3 q3 => ?_)
  obtain rfl := q3
  refine E_heap (h' := hX (pAr (pAr (pAr S 8 (pfil 4 0 (S.2 8))) 9 (pfil 4 0 (S.2 9))) 10 (pfil 4 0 (S.2 10)))) (sX_A10 (pAr (pAr S 8 (pfil 4 0 (S.2 8))) 9 (pfil 4 0 (S.2 9))) (pfil 4 0 (S.2 10))) ?_
  refine E_aload_n dX8_empty_24 rfl ?_
  refine E_getf (v := .ref 16) dX8_empty_25 fl_X8_empty_21 rfl rfl ?_
  refine E_iconst (v := 0) dX8_empty_28 (by decide) ?_
  refine E_callSV (st := []) (c_J7_fill_53178 l D dA ad (h := hX (pAr (pAr (pAr S 8 (pfil 4 0 (S.2 8))) 9 (pfil 4 0 (S.2 9))) 10 (pfil 4 0 (S.2 10)))) (q0 := 16) (n0 := 4) (f := S.2 11) (v := 0) rfl (by decide)) mf_J7_fill_53178 rfl gX8_empty_J7_fill_53178 (by omega) rfl (Nat.le_of_ble_eq_true rfl) (by rfl) dX8_empty_29 (fun h4 q4 => ?_)
  obtain rfl := q4
  refine E_heap (h' := hX (pAr (pAr (pAr (pAr S 8 (pfil 4 0 (S.2 8))) 9 (pfil 4 0 (S.2 9))) 10 (pfil 4 0 (S.2 10))) 11 (pfil 4 0 (S.2 11)))) (sX_A11 (pAr (pAr (pAr S 8 (pfil 4 0 (S.2 8))) 9 (pfil 4 0 (S.2 9))) 10 (pfil 4 0 (S.2 10))) (pfil 4 0 (S.2 11))) ?_
  exact E_vret rfl dX8_empty_32 ⟨0, _, rfl, hf⟩
theorem mf_X0_makeAsAtFirst : pMF yX0_makeAsAtFirst wsX0_makeAsAtFirst cX0_makeAsAtFirst 2 none 1 := ⟨⟨_, rfl⟩, by decide +kernel, by decide, by decide +kernel, by decide +kernel, by decide +kernel⟩
def f_X0_makeAsAtFirst (S : PS) (v1 : Int32) : Option (Int32 × PS) :=
  pbnd (f_X2_makeAsAtFirst S v1) (fun _ S_1 => pbnd (f_X8_empty (pI S_1 4 0)) (fun _ S_2 => some (0, S_2)))
set_option maxRecDepth 100000 in
theorem c_X0_makeAsAtFirst (l : Launch) (D : va_G) (dA : Nat → ClassId) (ad : Nat → Nat) (S : PS) (v1 : Int32) {P : (Int32 × PS) → Prop} (hf : pO (f_X0_makeAsAtFirst S v1) P) : CtV l D dA ad yX0_makeAsAtFirst wsX0_makeAsAtFirst 3 [.ref 1, .int v1] (hX S) (fun h' => ∃ (r0 : Int32) (S' : PS), h' = hX S' ∧ P (r0, S')) := by
  refine CtV_of mf_X0_makeAsAtFirst rfl rfl (Nat.le_of_ble_eq_true rfl) rfl (hX_len S) ?_
  unfold f_X0_makeAsAtFirst at hf
  refine E_aload_n dX0_makeAsAtFirst_0 rfl ?_
  refine E_getf (v := .ref 2) dX0_makeAsAtFirst_1 fl_X0_makeAsAtFirst_12 rfl rfl ?_
  refine E_iload_n dX0_makeAsAtFirst_4 rfl ?_
  refine E_callVV (st := []) (c_X2_makeAsAtFirst l D dA ad S v1 (pO_bnd hf)) mf_X2_makeAsAtFirst rfl rfl gX0_makeAsAtFirst_X2_makeAsAtFirst (pRc.of (ci := 2) rfl rfl) (by omega) rfl (Nat.le_of_ble_eq_true rfl) (by rfl) dX0_makeAsAtFirst_5 (fun h1 q1 => ?_)
  obtain ⟨r1, S_1, rfl, hf⟩ := q1
  dsimp only at hf
  refine E_aload_n dX0_makeAsAtFirst_8 rfl ?_
  refine E_getf (v := .ref 5) dX0_makeAsAtFirst_9 fl_X0_makeAsAtFirst_21 rfl rfl ?_
  refine E_iconst (v := 0) dX0_makeAsAtFirst_12 (by decide) ?_
  refine E_putf (h' := hX (pI S_1 4 0)) dX0_makeAsAtFirst_13 fl_X0_makeAsAtFirst_36 ft_1_0 rfl (Nat.lt_of_lt_of_eq (by decide : 0 < 7) rfl) rfl rfl ⟨_, rfl⟩ (sX_I4 S_1 0) ?_
  refine E_aload_n dX0_makeAsAtFirst_16 rfl ?_
  refine E_getf (v := .ref 12) dX0_makeAsAtFirst_17 fl_X0_makeAsAtFirst_28 rfl rfl ?_
  refine E_callVV (st := []) (c_X8_empty l D dA ad (pI S_1 4 0) (pO_bnd hf)) mf_X8_empty rfl rfl gX0_makeAsAtFirst_X8_empty (pRc.of (ci := 8) rfl rfl) (by omega) rfl (Nat.le_of_ble_eq_true rfl) (by rfl) dX0_makeAsAtFirst_20 (fun h2 q2 => ?_)
  obtain ⟨r2, S_2, rfl, hf⟩ := q2
  dsimp only at hf
  exact E_vret rfl dX0_makeAsAtFirst_23 ⟨0, _, rfl, hf⟩
theorem mf_X11_hull : pMF yX11_hull wsX11_hull cX11_hull 3 (some .int) 1 := ⟨⟨_, rfl⟩, by decide +kernel, by decide, by decide +kernel, by decide +kernel, by decide +kernel⟩
def f_X11_hull (S : PS) (v1 : Int32) : Option (Int32 × PS) :=
  pbnd (f_X11_isWithin S v1 2 10) (fun r1 S_1 => if r1 = (0 : Int32) then (some ((-1), S_1)) else (pbnd (f_X0_makeAsAtFirst S_1 v1) (fun _ S_3 => some (S_1.1 0, S_3))))
set_option maxRecDepth 100000 in
theorem c_X11_hull (l : Launch) (D : va_G) (dA : Nat → ClassId) (ad : Nat → Nat) (S : PS) (v1 : Int32) {P : (Int32 × PS) → Prop} (hf : pO (f_X11_hull S v1) P) : CtI l D dA ad yX11_hull wsX11_hull 4 [.ref 0, .int v1] (hX S) (fun r h' => ∃ S' : PS, h' = hX S' ∧ P (r, S')) := by
  refine CtI_of mf_X11_hull rfl rfl (Nat.le_of_ble_eq_true rfl) rfl (hX_len S) ?_
  unfold f_X11_hull at hf
  refine E_iload_n dX11_hull_0 rfl ?_
  refine E_iconst (v := 2) dX11_hull_1 (by decide) ?_
  refine E_bipush (v := 10) dX11_hull_2 (by decide) ?_
  refine E_callSI (st := []) (c_X11_isWithin l D dA ad S v1 2 10 (pO_bnd hf)) mf_X11_isWithin rfl gX11_hull_X11_isWithin (by omega) rfl (Nat.le_of_ble_eq_true rfl) (by rfl) dX11_hull_4 (fun r1 h1 q1 => ?_)
  obtain ⟨S_1, rfl, hf⟩ := q1
  dsimp only at hf
  refine E_if_ne (tgt := 12) dX11_hull_7 (by decide) (fun c_2 => ?_) (fun c_2 => ?_)
  · have hf := pO_neg c_2 hf
    refine E_aload_n dX11_hull_12 rfl ?_
    refine E_getf (v := .ref 1) dX11_hull_13 fl_X11_hull_12 rfl rfl ?_
    refine E_getf (v := .ref 2) dX11_hull_16 fl_X11_hull_82 rfl rfl ?_
    refine E_getf (v := .int (S_1.1 0)) dX11_hull_19 fl_X11_hull_86 rfl rfl ?_
    refine E_istore_n (ls' := [(0, .ref 0), (1, .int v1), (2, .int (S_1.1 0))]) dX11_hull_22 (by decide) rfl ?_
    refine E_aload_n dX11_hull_23 rfl ?_
    refine E_getf (v := .ref 1) dX11_hull_24 fl_X11_hull_12 rfl rfl ?_
    refine E_iload_n dX11_hull_27 rfl ?_
    refine E_callVV (st := []) (c_X0_makeAsAtFirst l D dA ad S_1 v1 (pO_bnd hf)) mf_X0_makeAsAtFirst rfl rfl gX11_hull_X0_makeAsAtFirst (pRc.of (ci := 0) rfl rfl) (by omega) rfl (Nat.le_of_ble_eq_true rfl) (by rfl) dX11_hull_28 (fun h3 q3 => ?_)
    obtain ⟨r3, S_3, rfl, hf⟩ := q3
    dsimp only at hf
    refine E_iload_n dX11_hull_31 rfl ?_
    exact E_iret rfl dX11_hull_32 ⟨_, rfl, hf⟩
  · have hf := pO_pos c_2 hf
    refine E_iconst (v := (-1)) dX11_hull_10 (by decide) ?_
    exact E_iret rfl dX11_hull_11 ⟨_, rfl, hf⟩
theorem hi_X11_section_11 : ∀ w ∈ u_ws RX11 TX11 10, w ∈ wsX11_section := fun w h => of_decide_eq_true (List.all_eq_true.mp (by decide +kernel : (u_ws RX11 TX11 10).all (fun w => decide (w ∈ wsX11_section)) = true) w h)
theorem fl_X11_section_12 : pFL wsX11_section RX11 12 11 0 := ⟨RX11, TX11, 10, hi_X11_section_11, rfl, by decide, by decide +kernel⟩
theorem hi_X11_section_0 : ∀ w ∈ u_ws RX0 TX0 3, w ∈ wsX11_section := fun w h => of_decide_eq_true (List.all_eq_true.mp (by decide +kernel : (u_ws RX0 TX0 3).all (fun w => decide (w ∈ wsX11_section)) = true) w h)
theorem fl_X11_section_82 : pFL wsX11_section RX11 82 0 0 := ⟨RX0, TX0, 3, hi_X11_section_0, rfl, by decide, by decide +kernel⟩
theorem hi_X2_hasSection_2 : ∀ w ∈ u_ws RX2 TX2 6, w ∈ wsX2_hasSection := fun w h => of_decide_eq_true (List.all_eq_true.mp (by decide +kernel : (u_ws RX2 TX2 6).all (fun w => decide (w ∈ wsX2_hasSection)) = true) w h)
theorem fl_X2_hasSection_9 : pFL wsX2_hasSection RX2 9 2 0 := ⟨RX2, TX2, 6, hi_X2_hasSection_2, rfl, by decide, by decide +kernel⟩
theorem mf_X2_hasSection : pMF yX2_hasSection wsX2_hasSection cX2_hasSection 2 (some .boolean) 1 := ⟨⟨_, rfl⟩, by decide +kernel, by decide, by decide +kernel, by decide +kernel, by decide +kernel⟩
def f_X2_hasSection (S : PS) (v1 : Int32) : Option (Int32 × PS) :=
  pbnd (f_X11_isWithin S v1 0 ((S.1 0) - 1)) (fun r1 S_1 => pgd (pbit r1) (some (r1, S_1)))
set_option maxRecDepth 100000 in
theorem c_X2_hasSection (l : Launch) (D : va_G) (dA : Nat → ClassId) (ad : Nat → Nat) (S : PS) (v1 : Int32) {P : (Int32 × PS) → Prop} (hf : pO (f_X2_hasSection S v1) P) : CtI l D dA ad yX2_hasSection wsX2_hasSection 1 [.ref 2, .int v1] (hX S) (fun r h' => ∃ S' : PS, h' = hX S' ∧ P (r, S')) := by
  refine CtI_of mf_X2_hasSection rfl rfl (Nat.le_of_ble_eq_true rfl) rfl (hX_len S) ?_
  unfold f_X2_hasSection at hf
  refine E_iload_n dX2_hasSection_0 rfl ?_
  refine E_iconst (v := 0) dX2_hasSection_1 (by decide) ?_
  refine E_aload_n dX2_hasSection_2 rfl ?_
  refine E_getf (v := .int (S.1 0)) dX2_hasSection_3 fl_X2_hasSection_9 rfl rfl ?_
  refine E_iconst (v := 1) dX2_hasSection_6 (by decide) ?_
  refine E_isub dX2_hasSection_7 ?_
  refine E_callNI (st := []) (c_X11_isWithin l D dA ad S v1 0 ((S.1 0) - 1) (pO_bnd hf)) mf_X11_isWithin rfl gX2_hasSection_X11_isWithin_n47 (by decide +kernel) (by decide +kernel) (by decide +kernel) (by omega) rfl (Nat.le_of_ble_eq_true rfl) (by rfl) dX2_hasSection_8 (fun r1 h1 q1 => ?_)
  obtain ⟨S_1, rfl, hf⟩ := q1
  dsimp only at hf
  obtain ⟨hn_2, hf⟩ := pO_gd hf
  exact E_zret rfl dX2_hasSection_11 (pbit_n hn_2) ⟨_, rfl, hf⟩
theorem hi_X11_section_2 : ∀ w ∈ u_ws RX2 TX2 6, w ∈ wsX11_section := fun w h => of_decide_eq_true (List.all_eq_true.mp (by decide +kernel : (u_ws RX2 TX2 6).all (fun w => decide (w ∈ wsX11_section)) = true) w h)
theorem fl_X11_section_96 : pFL wsX11_section RX11 96 2 4 := ⟨RX2, TX2, 6, hi_X11_section_2, rfl, by decide, by decide +kernel⟩
theorem fl_X11_section_100 : pFL wsX11_section RX11 100 2 5 := ⟨RX2, TX2, 6, hi_X11_section_2, rfl, by decide, by decide +kernel⟩
theorem mf_X11_section : pMF yX11_section wsX11_section cX11_section 5 (some .int) 3 := ⟨⟨_, rfl⟩, by decide +kernel, by decide, by decide +kernel, by decide +kernel, by decide +kernel⟩
def f_X11_section (S : PS) (v1 : Int32) (v2 : Int32) (v3 : Int32) : Option (Int32 × PS) :=
  pbnd (f_X2_hasSection S v1) (fun r1 S_1 => if r1 = (0 : Int32) then (some ((-1), S_1)) else (pbnd (f_X11_isWithin S_1 v2 1 40) (fun r3 S_3 => if r3 = (0 : Int32) then (some ((-1), S_3)) else (pbnd (f_X11_isWithin S_3 v3 0 30) (fun r5 S_5 => if r5 = (0 : Int32) then (some ((-1), S_5)) else (pgd (pin v1 10) (pgd (pin v1 10) (pgd (pin v1 10) (pgd (pin v1 10) (some ((100 * ((S_5.2 0) v1.toNatClampNeg)) + ((S_5.2 1) v1.toNatClampNeg), (pAr (pAr S_5 0 (upd (S_5.2 0) v1.toNatClampNeg v2)) 1 (upd (S_5.2 1) v1.toNatClampNeg v3)))))))))))))
set_option maxRecDepth 100000 in
theorem c_X11_section (l : Launch) (D : va_G) (dA : Nat → ClassId) (ad : Nat → Nat) (S : PS) (v1 : Int32) (v2 : Int32) (v3 : Int32) {P : (Int32 × PS) → Prop} (hf : pO (f_X11_section S v1 v2 v3) P) : CtI l D dA ad yX11_section wsX11_section 2 [.ref 0, .int v1, .int v2, .int v3] (hX S) (fun r h' => ∃ S' : PS, h' = hX S' ∧ P (r, S')) := by
  refine CtI_of mf_X11_section rfl rfl (Nat.le_of_ble_eq_true rfl) rfl (hX_len S) ?_
  unfold f_X11_section at hf
  refine E_aload_n dX11_section_0 rfl ?_
  refine E_getf (v := .ref 1) dX11_section_1 fl_X11_section_12 rfl rfl ?_
  refine E_getf (v := .ref 2) dX11_section_4 fl_X11_section_82 rfl rfl ?_
  refine E_iload_n dX11_section_7 rfl ?_
  refine E_callVI (st := []) (c_X2_hasSection l D dA ad S v1 (pO_bnd hf)) mf_X2_hasSection rfl rfl gX11_section_X2_hasSection (pRc.of (ci := 2) rfl rfl) (by omega) rfl (Nat.le_of_ble_eq_true rfl) (by rfl) dX11_section_8 (fun r1 h1 q1 => ?_)
  obtain ⟨S_1, rfl, hf⟩ := q1
  dsimp only at hf
  refine E_if_eq (tgt := 34) dX11_section_11 (by decide) (fun c_2 => ?_) (fun c_2 => ?_)
  · have hf := pO_pos c_2 hf
    refine E_iconst (v := (-1)) dX11_section_34 (by decide) ?_
    exact E_iret rfl dX11_section_35 ⟨_, rfl, hf⟩
  · have hf := pO_neg c_2 hf
    refine E_iload_n dX11_section_14 rfl ?_
    refine E_iconst (v := 1) dX11_section_15 (by decide) ?_
    refine E_bipush (v := 40) dX11_section_16 (by decide) ?_
    refine E_callSI (st := []) (c_X11_isWithin l D dA ad S_1 v2 1 40 (pO_bnd hf)) mf_X11_isWithin rfl gX11_section_X11_isWithin (by omega) rfl (Nat.le_of_ble_eq_true rfl) (by rfl) dX11_section_18 (fun r3 h3 q3 => ?_)
    obtain ⟨S_3, rfl, hf⟩ := q3
    dsimp only at hf
    refine E_if_eq (tgt := 34) dX11_section_21 (by decide) (fun c_4 => ?_) (fun c_4 => ?_)
    · have hf := pO_pos c_4 hf
      refine E_iconst (v := (-1)) dX11_section_34 (by decide) ?_
      exact E_iret rfl dX11_section_35 ⟨_, rfl, hf⟩
    · have hf := pO_neg c_4 hf
      refine E_iload_n dX11_section_24 rfl ?_
      refine E_iconst (v := 0) dX11_section_25 (by decide) ?_
      refine E_bipush (v := 30) dX11_section_26 (by decide) ?_
      refine E_callSI (st := []) (c_X11_isWithin l D dA ad S_3 v3 0 30 (pO_bnd hf)) mf_X11_isWithin rfl gX11_section_X11_isWithin (by omega) rfl (Nat.le_of_ble_eq_true rfl) (by rfl) dX11_section_28 (fun r5 h5 q5 => ?_)
      obtain ⟨S_5, rfl, hf⟩ := q5
      dsimp only at hf
      refine E_if_ne (tgt := 36) dX11_section_31 (by decide) (fun c_6 => ?_) (fun c_6 => ?_)
      · have hf := pO_neg c_6 hf
        refine E_bipush (v := 100) dX11_section_36 (by decide) ?_
        refine E_aload_n dX11_section_38 rfl ?_
        refine E_getf (v := .ref 1) dX11_section_39 fl_X11_section_12 rfl rfl ?_
        refine E_getf (v := .ref 2) dX11_section_42 fl_X11_section_82 rfl rfl ?_
        refine E_getf (v := .ref 3) dX11_section_45 fl_X11_section_96 rfl rfl ?_
        refine E_iload_n dX11_section_48 rfl ?_
        obtain ⟨hi_7, hf⟩ := pO_gd hf
        refine E_iald (n0 := 10) (f := S_5.2 0) dX11_section_49 rfl (pin_in hi_7) ?_
        refine E_imul dX11_section_50 ?_
        refine E_aload_n dX11_section_51 rfl ?_
        refine E_getf (v := .ref 1) dX11_section_52 fl_X11_section_12 rfl rfl ?_
        refine E_getf (v := .ref 2) dX11_section_55 fl_X11_section_82 rfl rfl ?_
        refine E_getf (v := .ref 4) dX11_section_58 fl_X11_section_100 rfl rfl ?_
        refine E_iload_n dX11_section_61 rfl ?_
        obtain ⟨hi_8, hf⟩ := pO_gd hf
        refine E_iald (n0 := 10) (f := S_5.2 1) dX11_section_62 rfl (pin_in hi_8) ?_
        refine E_iadd dX11_section_63 ?_
        refine E_istore (ls' := [(0, .ref 0), (1, .int v1), (2, .int v2), (3, .int v3), (4, .int ((100 * ((S_5.2 0) v1.toNatClampNeg)) + ((S_5.2 1) v1.toNatClampNeg)))]) dX11_section_64 (by decide) rfl ?_
        refine E_aload_n dX11_section_66 rfl ?_
        refine E_getf (v := .ref 1) dX11_section_67 fl_X11_section_12 rfl rfl ?_
        refine E_getf (v := .ref 2) dX11_section_70 fl_X11_section_82 rfl rfl ?_
        refine E_getf (v := .ref 3) dX11_section_73 fl_X11_section_96 rfl rfl ?_
        refine E_iload_n dX11_section_76 rfl ?_
        refine E_iload_n dX11_section_77 rfl ?_
        obtain ⟨hi_9, hf⟩ := pO_gd hf
        refine E_iast (n0 := 10) (f := S_5.2 0) (h' := hX (pAr S_5 0 (upd (S_5.2 0) v1.toNatClampNeg v2))) dX11_section_78 rfl (pin_in hi_9) (sX_A0 S_5 (upd (S_5.2 0) v1.toNatClampNeg v2)) ?_
        refine E_aload_n dX11_section_79 rfl ?_
        refine E_getf (v := .ref 1) dX11_section_80 fl_X11_section_12 rfl rfl ?_
        refine E_getf (v := .ref 2) dX11_section_83 fl_X11_section_82 rfl rfl ?_
        refine E_getf (v := .ref 4) dX11_section_86 fl_X11_section_100 rfl rfl ?_
        refine E_iload_n dX11_section_89 rfl ?_
        refine E_iload_n dX11_section_90 rfl ?_
        obtain ⟨hi_10, hf⟩ := pO_gd hf
        refine E_iast (n0 := 10) (f := S_5.2 1) (h' := hX (pAr (pAr S_5 0 (upd (S_5.2 0) v1.toNatClampNeg v2)) 1 (upd (S_5.2 1) v1.toNatClampNeg v3))) dX11_section_91 rfl (pin_in hi_10) (sX_A1 (pAr S_5 0 (upd (S_5.2 0) v1.toNatClampNeg v2)) (upd (S_5.2 1) v1.toNatClampNeg v3)) ?_
        refine E_iload dX11_section_92 rfl ?_
        exact E_iret rfl dX11_section_94 ⟨_, rfl, hf⟩
      · have hf := pO_pos c_6 hf
        refine E_iconst (v := (-1)) dX11_section_34 (by decide) ?_
        exact E_iret rfl dX11_section_35 ⟨_, rfl, hf⟩
theorem hi_X11_setDeep_11 : ∀ w ∈ u_ws RX11 TX11 10, w ∈ wsX11_setDeep := fun w h => of_decide_eq_true (List.all_eq_true.mp (by decide +kernel : (u_ws RX11 TX11 10).all (fun w => decide (w ∈ wsX11_setDeep)) = true) w h)
theorem fl_X11_setDeep_12 : pFL wsX11_setDeep RX11 12 11 0 := ⟨RX11, TX11, 10, hi_X11_setDeep_11, rfl, by decide, by decide +kernel⟩
theorem hi_X11_setDeep_0 : ∀ w ∈ u_ws RX0 TX0 3, w ∈ wsX11_setDeep := fun w h => of_decide_eq_true (List.all_eq_true.mp (by decide +kernel : (u_ws RX0 TX0 3).all (fun w => decide (w ∈ wsX11_setDeep)) = true) w h)
theorem fl_X11_setDeep_82 : pFL wsX11_setDeep RX11 82 0 0 := ⟨RX0, TX0, 3, hi_X11_setDeep_0, rfl, by decide, by decide +kernel⟩
theorem hi_X11_setDeep_2 : ∀ w ∈ u_ws RX2 TX2 6, w ∈ wsX11_setDeep := fun w h => of_decide_eq_true (List.all_eq_true.mp (by decide +kernel : (u_ws RX2 TX2 6).all (fun w => decide (w ∈ wsX11_setDeep)) = true) w h)
theorem fl_X11_setDeep_113 : pFL wsX11_setDeep RX11 113 2 1 := ⟨RX2, TX2, 6, hi_X11_setDeep_2, rfl, by decide, by decide +kernel⟩
theorem mf_X11_setDeep : pMF yX11_setDeep wsX11_setDeep cX11_setDeep 3 (some .int) 1 := ⟨⟨_, rfl⟩, by decide +kernel, by decide, by decide +kernel, by decide +kernel, by decide +kernel⟩
def f_X11_setDeep (S : PS) (v1 : Int32) : Option (Int32 × PS) :=
  pbnd (f_X11_isWithin S v1 1 60) (fun r1 S_1 => if r1 = (0 : Int32) then (some ((-1), S_1)) else (some (S_1.1 1, (pI S_1 1 v1))))
set_option maxRecDepth 100000 in
theorem c_X11_setDeep (l : Launch) (D : va_G) (dA : Nat → ClassId) (ad : Nat → Nat) (S : PS) (v1 : Int32) {P : (Int32 × PS) → Prop} (hf : pO (f_X11_setDeep S v1) P) : CtI l D dA ad yX11_setDeep wsX11_setDeep 1 [.ref 0, .int v1] (hX S) (fun r h' => ∃ S' : PS, h' = hX S' ∧ P (r, S')) := by
  refine CtI_of mf_X11_setDeep rfl rfl (Nat.le_of_ble_eq_true rfl) rfl (hX_len S) ?_
  unfold f_X11_setDeep at hf
  refine E_iload_n dX11_setDeep_0 rfl ?_
  refine E_iconst (v := 1) dX11_setDeep_1 (by decide) ?_
  refine E_bipush (v := 60) dX11_setDeep_2 (by decide) ?_
  refine E_callSI (st := []) (c_X11_isWithin l D dA ad S v1 1 60 (pO_bnd hf)) mf_X11_isWithin rfl gX11_setDeep_X11_isWithin (by omega) rfl (Nat.le_of_ble_eq_true rfl) (by rfl) dX11_setDeep_4 (fun r1 h1 q1 => ?_)
  obtain ⟨S_1, rfl, hf⟩ := q1
  dsimp only at hf
  refine E_if_ne (tgt := 12) dX11_setDeep_7 (by decide) (fun c_2 => ?_) (fun c_2 => ?_)
  · have hf := pO_neg c_2 hf
    refine E_aload_n dX11_setDeep_12 rfl ?_
    refine E_getf (v := .ref 1) dX11_setDeep_13 fl_X11_setDeep_12 rfl rfl ?_
    refine E_getf (v := .ref 2) dX11_setDeep_16 fl_X11_setDeep_82 rfl rfl ?_
    refine E_getf (v := .int (S_1.1 1)) dX11_setDeep_19 fl_X11_setDeep_113 rfl rfl ?_
    refine E_istore_n (ls' := [(0, .ref 0), (1, .int v1), (2, .int (S_1.1 1))]) dX11_setDeep_22 (by decide) rfl ?_
    refine E_aload_n dX11_setDeep_23 rfl ?_
    refine E_getf (v := .ref 1) dX11_setDeep_24 fl_X11_setDeep_12 rfl rfl ?_
    refine E_getf (v := .ref 2) dX11_setDeep_27 fl_X11_setDeep_82 rfl rfl ?_
    refine E_iload_n dX11_setDeep_30 rfl ?_
    refine E_putf (h' := hX (pI S_1 1 v1)) dX11_setDeep_31 fl_X11_setDeep_113 ft_2_1 rfl (Nat.lt_of_lt_of_eq (by decide : 1 < 6) rfl) rfl rfl ⟨_, rfl⟩ (sX_I1 S_1 v1) ?_
    refine E_iload_n dX11_setDeep_34 rfl ?_
    exact E_iret rfl dX11_setDeep_35 ⟨_, rfl, hf⟩
  · have hf := pO_pos c_2 hf
    refine E_iconst (v := (-1)) dX11_setDeep_10 (by decide) ?_
    exact E_iret rfl dX11_setDeep_11 ⟨_, rfl, hf⟩
theorem hi_X11_setShell_11 : ∀ w ∈ u_ws RX11 TX11 10, w ∈ wsX11_setShell := fun w h => of_decide_eq_true (List.all_eq_true.mp (by decide +kernel : (u_ws RX11 TX11 10).all (fun w => decide (w ∈ wsX11_setShell)) = true) w h)
theorem fl_X11_setShell_12 : pFL wsX11_setShell RX11 12 11 0 := ⟨RX11, TX11, 10, hi_X11_setShell_11, rfl, by decide, by decide +kernel⟩
theorem hi_X11_setShell_0 : ∀ w ∈ u_ws RX0 TX0 3, w ∈ wsX11_setShell := fun w h => of_decide_eq_true (List.all_eq_true.mp (by decide +kernel : (u_ws RX0 TX0 3).all (fun w => decide (w ∈ wsX11_setShell)) = true) w h)
theorem fl_X11_setShell_82 : pFL wsX11_setShell RX11 82 0 0 := ⟨RX0, TX0, 3, hi_X11_setShell_0, rfl, by decide, by decide +kernel⟩
theorem hi_X11_setShell_2 : ∀ w ∈ u_ws RX2 TX2 6, w ∈ wsX11_setShell := fun w h => of_decide_eq_true (List.all_eq_true.mp (by decide +kernel : (u_ws RX2 TX2 6).all (fun w => decide (w ∈ wsX11_setShell)) = true) w h)
theorem fl_X11_setShell_116 : pFL wsX11_setShell RX11 116 2 2 := ⟨RX2, TX2, 6, hi_X11_setShell_2, rfl, by decide, by decide +kernel⟩
theorem mf_X11_setShell : pMF yX11_setShell wsX11_setShell cX11_setShell 3 (some .int) 1 := ⟨⟨_, rfl⟩, by decide +kernel, by decide, by decide +kernel, by decide +kernel, by decide +kernel⟩
def f_X11_setShell (S : PS) (v1 : Int32) : Option (Int32 × PS) :=
  pbnd (f_X11_isWithin S v1 1 9999) (fun r1 S_1 => if r1 = (0 : Int32) then (some ((-1), S_1)) else (some (S_1.1 2, (pI S_1 2 v1))))
set_option maxRecDepth 100000 in
theorem c_X11_setShell (l : Launch) (D : va_G) (dA : Nat → ClassId) (ad : Nat → Nat) (S : PS) (v1 : Int32) {P : (Int32 × PS) → Prop} (hf : pO (f_X11_setShell S v1) P) : CtI l D dA ad yX11_setShell wsX11_setShell 1 [.ref 0, .int v1] (hX S) (fun r h' => ∃ S' : PS, h' = hX S' ∧ P (r, S')) := by
  refine CtI_of mf_X11_setShell rfl rfl (Nat.le_of_ble_eq_true rfl) rfl (hX_len S) ?_
  unfold f_X11_setShell at hf
  refine E_iload_n dX11_setShell_0 rfl ?_
  refine E_iconst (v := 1) dX11_setShell_1 (by decide) ?_
  refine E_sipush (v := 9999) dX11_setShell_2 (by decide) ?_
  refine E_callSI (st := []) (c_X11_isWithin l D dA ad S v1 1 9999 (pO_bnd hf)) mf_X11_isWithin rfl gX11_setShell_X11_isWithin (by omega) rfl (Nat.le_of_ble_eq_true rfl) (by rfl) dX11_setShell_5 (fun r1 h1 q1 => ?_)
  obtain ⟨S_1, rfl, hf⟩ := q1
  dsimp only at hf
  refine E_if_ne (tgt := 13) dX11_setShell_8 (by decide) (fun c_2 => ?_) (fun c_2 => ?_)
  · have hf := pO_neg c_2 hf
    refine E_aload_n dX11_setShell_13 rfl ?_
    refine E_getf (v := .ref 1) dX11_setShell_14 fl_X11_setShell_12 rfl rfl ?_
    refine E_getf (v := .ref 2) dX11_setShell_17 fl_X11_setShell_82 rfl rfl ?_
    refine E_getf (v := .int (S_1.1 2)) dX11_setShell_20 fl_X11_setShell_116 rfl rfl ?_
    refine E_istore_n (ls' := [(0, .ref 0), (1, .int v1), (2, .int (S_1.1 2))]) dX11_setShell_23 (by decide) rfl ?_
    refine E_aload_n dX11_setShell_24 rfl ?_
    refine E_getf (v := .ref 1) dX11_setShell_25 fl_X11_setShell_12 rfl rfl ?_
    refine E_getf (v := .ref 2) dX11_setShell_28 fl_X11_setShell_82 rfl rfl ?_
    refine E_iload_n dX11_setShell_31 rfl ?_
    refine E_putf (h' := hX (pI S_1 2 v1)) dX11_setShell_32 fl_X11_setShell_116 ft_2_2 rfl (Nat.lt_of_lt_of_eq (by decide : 2 < 6) rfl) rfl rfl ⟨_, rfl⟩ (sX_I2 S_1 v1) ?_
    refine E_iload_n dX11_setShell_35 rfl ?_
    exact E_iret rfl dX11_setShell_36 ⟨_, rfl, hf⟩
  · have hf := pO_pos c_2 hf
    refine E_iconst (v := (-1)) dX11_setShell_11 (by decide) ?_
    exact E_iret rfl dX11_setShell_12 ⟨_, rfl, hf⟩
theorem hi_X11_setWet_11 : ∀ w ∈ u_ws RX11 TX11 10, w ∈ wsX11_setWet := fun w h => of_decide_eq_true (List.all_eq_true.mp (by decide +kernel : (u_ws RX11 TX11 10).all (fun w => decide (w ∈ wsX11_setWet)) = true) w h)
theorem fl_X11_setWet_12 : pFL wsX11_setWet RX11 12 11 0 := ⟨RX11, TX11, 10, hi_X11_setWet_11, rfl, by decide, by decide +kernel⟩
theorem hi_X11_setWet_0 : ∀ w ∈ u_ws RX0 TX0 3, w ∈ wsX11_setWet := fun w h => of_decide_eq_true (List.all_eq_true.mp (by decide +kernel : (u_ws RX0 TX0 3).all (fun w => decide (w ∈ wsX11_setWet)) = true) w h)
theorem fl_X11_setWet_82 : pFL wsX11_setWet RX11 82 0 0 := ⟨RX0, TX0, 3, hi_X11_setWet_0, rfl, by decide, by decide +kernel⟩
theorem hi_X11_setWet_2 : ∀ w ∈ u_ws RX2 TX2 6, w ∈ wsX11_setWet := fun w h => of_decide_eq_true (List.all_eq_true.mp (by decide +kernel : (u_ws RX2 TX2 6).all (fun w => decide (w ∈ wsX11_setWet)) = true) w h)
theorem fl_X11_setWet_119 : pFL wsX11_setWet RX11 119 2 3 := ⟨RX2, TX2, 6, hi_X11_setWet_2, rfl, by decide, by decide +kernel⟩
theorem mf_X11_setWet : pMF yX11_setWet wsX11_setWet cX11_setWet 3 (some .int) 1 := ⟨⟨_, rfl⟩, by decide +kernel, by decide, by decide +kernel, by decide +kernel, by decide +kernel⟩
def f_X11_setWet (S : PS) (v1 : Int32) : Option (Int32 × PS) :=
  pbnd (f_X11_isWithin S v1 0 1) (fun r1 S_1 => if r1 = (0 : Int32) then (some ((-1), S_1)) else (some (S_1.1 3, (pI S_1 3 v1))))
set_option maxRecDepth 100000 in
theorem c_X11_setWet (l : Launch) (D : va_G) (dA : Nat → ClassId) (ad : Nat → Nat) (S : PS) (v1 : Int32) {P : (Int32 × PS) → Prop} (hf : pO (f_X11_setWet S v1) P) : CtI l D dA ad yX11_setWet wsX11_setWet 1 [.ref 0, .int v1] (hX S) (fun r h' => ∃ S' : PS, h' = hX S' ∧ P (r, S')) := by
  refine CtI_of mf_X11_setWet rfl rfl (Nat.le_of_ble_eq_true rfl) rfl (hX_len S) ?_
  unfold f_X11_setWet at hf
  refine E_iload_n dX11_setWet_0 rfl ?_
  refine E_iconst (v := 0) dX11_setWet_1 (by decide) ?_
  refine E_iconst (v := 1) dX11_setWet_2 (by decide) ?_
  refine E_callSI (st := []) (c_X11_isWithin l D dA ad S v1 0 1 (pO_bnd hf)) mf_X11_isWithin rfl gX11_setWet_X11_isWithin (by omega) rfl (Nat.le_of_ble_eq_true rfl) (by rfl) dX11_setWet_3 (fun r1 h1 q1 => ?_)
  obtain ⟨S_1, rfl, hf⟩ := q1
  dsimp only at hf
  refine E_if_ne (tgt := 11) dX11_setWet_6 (by decide) (fun c_2 => ?_) (fun c_2 => ?_)
  · have hf := pO_neg c_2 hf
    refine E_aload_n dX11_setWet_11 rfl ?_
    refine E_getf (v := .ref 1) dX11_setWet_12 fl_X11_setWet_12 rfl rfl ?_
    refine E_getf (v := .ref 2) dX11_setWet_15 fl_X11_setWet_82 rfl rfl ?_
    refine E_getf (v := .int (S_1.1 3)) dX11_setWet_18 fl_X11_setWet_119 rfl rfl ?_
    refine E_istore_n (ls' := [(0, .ref 0), (1, .int v1), (2, .int (S_1.1 3))]) dX11_setWet_21 (by decide) rfl ?_
    refine E_aload_n dX11_setWet_22 rfl ?_
    refine E_getf (v := .ref 1) dX11_setWet_23 fl_X11_setWet_12 rfl rfl ?_
    refine E_getf (v := .ref 2) dX11_setWet_26 fl_X11_setWet_82 rfl rfl ?_
    refine E_iload_n dX11_setWet_29 rfl ?_
    refine E_putf (h' := hX (pI S_1 3 v1)) dX11_setWet_30 fl_X11_setWet_119 ft_2_3 rfl (Nat.lt_of_lt_of_eq (by decide : 3 < 6) rfl) rfl rfl ⟨_, rfl⟩ (sX_I3 S_1 v1) ?_
    refine E_iload_n dX11_setWet_33 rfl ?_
    exact E_iret rfl dX11_setWet_34 ⟨_, rfl, hf⟩
  · have hf := pO_pos c_2 hf
    refine E_iconst (v := (-1)) dX11_setWet_9 (by decide) ?_
    exact E_iret rfl dX11_setWet_10 ⟨_, rfl, hf⟩
theorem mf_X11_set : pMF yX11_set wsX11_set cX11_set 3 (some .int) 2 := ⟨⟨_, rfl⟩, by decide +kernel, by decide, by decide +kernel, by decide +kernel, by decide +kernel⟩
def f_X11_set (S : PS) (v1 : Int32) (v2 : Int32) : Option (Int32 × PS) :=
  if v1 = (0 : Int32) then (pbnd (f_X11_setDeep S v2) (fun r2 S_2 => some (r2, S_2))) else (if v1 = (1 : Int32) then (pbnd (f_X11_setShell S v2) (fun r4 S_4 => some (r4, S_4))) else (if v1 = (2 : Int32) then (pbnd (f_X11_setWet S v2) (fun r6 S_6 => some (r6, S_6))) else (some ((-1), S))))
set_option maxRecDepth 100000 in
theorem c_X11_set (l : Launch) (D : va_G) (dA : Nat → ClassId) (ad : Nat → Nat) (S : PS) (v1 : Int32) (v2 : Int32) {P : (Int32 × PS) → Prop} (hf : pO (f_X11_set S v1 v2) P) : CtI l D dA ad yX11_set wsX11_set 2 [.ref 0, .int v1, .int v2] (hX S) (fun r h' => ∃ S' : PS, h' = hX S' ∧ P (r, S')) := by
  refine CtI_of mf_X11_set rfl rfl (Nat.le_of_ble_eq_true rfl) rfl (hX_len S) ?_
  unfold f_X11_set at hf
  refine E_iload_n dX11_set_0 rfl ?_
  by_cases k_1 : v1 = (0 : Int32)
  · have hf := pO_pos k_1 hf
    refine E_tableIn (off := 27) (tgt := 28) dX11_set_1 (by rw [k_1]; decide) (by rw [k_1]; decide) (by rw [k_1]; rfl) (by decide) ?_
    refine E_aload_n dX11_set_28 rfl ?_
    refine E_iload_n dX11_set_29 rfl ?_
    refine E_callVI (st := []) (c_X11_setDeep l D dA ad S v2 (pO_bnd hf)) mf_X11_setDeep rfl rfl gX11_set_X11_setDeep (pRc.of (ci := 11) rfl rfl) (by omega) rfl (Nat.le_of_ble_eq_true rfl) (by rfl) dX11_set_30 (fun r2 h2 q2 => ?_)
    obtain ⟨S_2, rfl, hf⟩ := q2
    dsimp only at hf
    exact E_iret rfl dX11_set_33 ⟨_, rfl, hf⟩
  · have hf := pO_neg k_1 hf
    by_cases k_3 : v1 = (1 : Int32)
    · have hf := pO_pos k_3 hf
      refine E_tableIn (off := 33) (tgt := 34) dX11_set_1 (by rw [k_3]; decide) (by rw [k_3]; decide) (by rw [k_3]; rfl) (by decide) ?_
      refine E_aload_n dX11_set_34 rfl ?_
      refine E_iload_n dX11_set_35 rfl ?_
      refine E_callVI (st := []) (c_X11_setShell l D dA ad S v2 (pO_bnd hf)) mf_X11_setShell rfl rfl gX11_set_X11_setShell (pRc.of (ci := 11) rfl rfl) (by omega) rfl (Nat.le_of_ble_eq_true rfl) (by rfl) dX11_set_36 (fun r4 h4 q4 => ?_)
      obtain ⟨S_4, rfl, hf⟩ := q4
      dsimp only at hf
      exact E_iret rfl dX11_set_39 ⟨_, rfl, hf⟩
    · have hf := pO_neg k_3 hf
      by_cases k_5 : v1 = (2 : Int32)
      · have hf := pO_pos k_5 hf
        refine E_tableIn (off := 39) (tgt := 40) dX11_set_1 (by rw [k_5]; decide) (by rw [k_5]; decide) (by rw [k_5]; rfl) (by decide) ?_
        refine E_aload_n dX11_set_40 rfl ?_
        refine E_iload_n dX11_set_41 rfl ?_
        refine E_callVI (st := []) (c_X11_setWet l D dA ad S v2 (pO_bnd hf)) mf_X11_setWet rfl rfl gX11_set_X11_setWet (pRc.of (ci := 11) rfl rfl) (by omega) rfl (Nat.le_of_ble_eq_true rfl) (by rfl) dX11_set_42 (fun r6 h6 q6 => ?_)
        obtain ⟨S_6, rfl, hf⟩ := q6
        dsimp only at hf
        exact E_iret rfl dX11_set_45 ⟨_, rfl, hf⟩
      · have hf := pO_neg k_5 hf
        refine E_tableOut (tgt := 46) dX11_set_1 (by have z0 := pti k_1 (by decide : (0 : Int32).toInt = 0); have z1 := pti k_3 (by decide : (1 : Int32).toInt = 1); have z2 := pti k_5 (by decide : (2 : Int32).toInt = 2); omega) (by decide) ?_
        refine E_iconst (v := (-1)) dX11_set_46 (by decide) ?_
        exact E_iret rfl dX11_set_47 ⟨_, rfl, hf⟩
def g_X11_isName_17 : Nat → PS → Int32 → Int32 → Option ((Int32 × PS) ⊕ (PS))
  | 0, _, _, _ => none
  | fuel + 1, S, v1, v2 =>
    if (4 : Int32) ≤ v2 then (some (.inr (S))) else (if v1 ≤ (0 : Int32) then (some (.inr (S))) else (if (v1 - v1 / 27 * 27) = (0 : Int32) then (some (.inl (0, S))) else (g_X11_isName_17 fuel S (v1 / 27) (v2 + 1))))
set_option maxRecDepth 100000 in
theorem l_X11_isName_17 (l : Launch) (D : va_G) (dA : Nat → ClassId) (ad : Nat → Nat) (d : Nat) (hd : 1 ≤ d) {Q : Int32 → List PC → Prop} : ∀ (fuel : Nat) (S : PS) (v1 : Int32) (v2 : Int32), pO (g_X11_isName_17 fuel S v1 v2) (fun y => match y with
    | .inl x => Q x.1 (hX x.2)
    | .inr w => Ev l D dA ad wsX11_isName cX11_isName RX11 3 (some .boolean) d 52 (pKi D dA ad 52 Q) 46 [] [] (hX w)) → Ev l D dA ad wsX11_isName cX11_isName RX11 3 (some .boolean) d 52 (pKi D dA ad 52 Q) 17 [(1, .int v1), (2, .int v2)] [] (hX S) := by
  intro fuel
  induction fuel with
  | zero =>
    intro S v1 v2 hf
    exact hf.elim
  | succ fuel ih =>
    intro S v1 v2 hf
    rw [g_X11_isName_17] at hf
    refine E_iload_n dX11_isName_17 rfl ?_
    refine E_iconst (v := 4) dX11_isName_18 (by decide) ?_
    refine E_icmp_ge (tgt := 46) dX11_isName_19 (by decide) (fun c_3 => ?_) (fun c_3 => ?_)
    · have hf := pO_pos c_3 hf
      exact E_sub (ls' := []) trivial hf
    · have hf := pO_neg c_3 hf
      refine E_iload_n dX11_isName_22 rfl ?_
      refine E_if_le (tgt := 46) dX11_isName_23 (by decide) (fun c_4 => ?_) (fun c_4 => ?_)
      · have hf := pO_pos c_4 hf
        exact E_sub (ls' := []) trivial hf
      · have hf := pO_neg c_4 hf
        refine E_iload_n dX11_isName_26 rfl ?_
        refine E_bipush (v := 27) dX11_isName_27 (by decide) ?_
        refine E_irem dX11_isName_29 (by decide) ?_
        refine E_if_ne (tgt := 35) dX11_isName_30 (by decide) (fun c_5 => ?_) (fun c_5 => ?_)
        · have hf := pO_neg c_5 hf
          refine E_iload_n dX11_isName_35 rfl ?_
          refine E_bipush (v := 27) dX11_isName_36 (by decide) ?_
          refine E_idiv dX11_isName_38 (by decide) ?_
          refine E_istore_n (ls' := [(1, .int (v1 / 27)), (2, .int v2)]) dX11_isName_39 (by decide) rfl ?_
          refine E_iinc (v := v2 + 1) (ls' := [(1, .int (v1 / 27)), (2, .int (v2 + 1))]) dX11_isName_40 rfl rfl (by decide) rfl ?_
          refine E_goto (tgt := 17) dX11_isName_43 (by decide) ?_
          exact E_sub (ls' := [(1, .int (v1 / 27)), (2, .int (v2 + 1))]) ⟨rfl, rfl, trivial⟩ (ih S (v1 / 27) (v2 + 1) hf)
        · have hf := pO_pos c_5 hf
          refine E_iconst (v := 0) dX11_isName_33 (by decide) ?_
          exact E_zret rfl dX11_isName_34 (by decide) hf
theorem mf_X11_isName : pMF yX11_isName wsX11_isName cX11_isName 3 (some .boolean) 1 := ⟨⟨_, rfl⟩, by decide +kernel, by decide, by decide +kernel, by decide +kernel, by decide +kernel⟩
def f_X11_isName (S : PS) (v0 : Int32) : Option (Int32 × PS) :=
  pbnd (f_X11_isWithin S v0 1 531440) (fun r1 S_1 => if r1 = (0 : Int32) then (some (0, S_1)) else (plp (g_X11_isName_17 pfuel S_1 v0 0) (fun (S_6 : PS) => some (1, S_6))))
set_option maxRecDepth 100000 in
theorem c_X11_isName (l : Launch) (D : va_G) (dA : Nat → ClassId) (ad : Nat → Nat) (S : PS) (v0 : Int32) {P : (Int32 × PS) → Prop} (hf : pO (f_X11_isName S v0) P) : CtI l D dA ad yX11_isName wsX11_isName 1 [.int v0] (hX S) (fun r h' => ∃ S' : PS, h' = hX S' ∧ P (r, S')) := by
  refine CtI_of mf_X11_isName rfl rfl (Nat.le_of_ble_eq_true rfl) rfl (hX_len S) ?_
  unfold f_X11_isName at hf
  refine E_iload_n dX11_isName_0 rfl ?_
  refine E_iconst (v := 1) dX11_isName_1 (by decide) ?_
  refine E_ldcw (v := 531440) dX11_isName_2 (by decide +kernel) ?_
  refine E_callSI (st := []) (c_X11_isWithin l D dA ad S v0 1 531440 (pO_bnd hf)) mf_X11_isWithin rfl gX11_isName_X11_isWithin (by omega) rfl (Nat.le_of_ble_eq_true rfl) (by rfl) dX11_isName_5 (fun r1 h1 q1 => ?_)
  obtain ⟨S_1, rfl, hf⟩ := q1
  dsimp only at hf
  refine E_if_ne (tgt := 13) dX11_isName_8 (by decide) (fun c_2 => ?_) (fun c_2 => ?_)
  · have hf := pO_neg c_2 hf
    refine E_iload_n dX11_isName_13 rfl ?_
    refine E_istore_n (ls' := [(0, .int v0), (1, .int v0)]) dX11_isName_14 (by decide) rfl ?_
    refine E_iconst (v := 0) dX11_isName_15 (by decide) ?_
    refine E_istore_n (ls' := [(0, .int v0), (1, .int v0), (2, .int 0)]) dX11_isName_16 (by decide) rfl ?_
    refine E_sub (ls' := [(1, .int v0), (2, .int 0)]) ⟨rfl, rfl, trivial⟩ ?_
    refine l_X11_isName_17 l D dA ad _ (by omega) pfuel S_1 v0 0 (pO_lp hf (fun x hx => ⟨x.2, rfl, hx⟩) (fun w6 hf => ?_))
    obtain ⟨S_6, rfl⟩ : ∃ z, z = w6 := ⟨_, rfl⟩
    dsimp only at hf ⊢
    refine E_iconst (v := 1) dX11_isName_46 (by decide) ?_
    exact E_zret rfl dX11_isName_47 (by decide) ⟨_, rfl, hf⟩
  · have hf := pO_pos c_2 hf
    refine E_iconst (v := 0) dX11_isName_11 (by decide) ?_
    exact E_zret rfl dX11_isName_12 (by decide) ⟨_, rfl, hf⟩
theorem mf_X11_isKind : pMF yX11_isKind wsX11_isKind cX11_isKind 1 (some .boolean) 1 := ⟨⟨_, rfl⟩, by decide +kernel, by decide, by decide +kernel, by decide +kernel, by decide +kernel⟩
def f_X11_isKind (S : PS) (v0 : Int32) : Option (Int32 × PS) :=
  pbnd (f_X11_isWithin S v0 0 4) (fun r1 S_1 => pgd (pbit r1) (some (r1, S_1)))
set_option maxRecDepth 100000 in
theorem c_X11_isKind (l : Launch) (D : va_G) (dA : Nat → ClassId) (ad : Nat → Nat) (S : PS) (v0 : Int32) {P : (Int32 × PS) → Prop} (hf : pO (f_X11_isKind S v0) P) : CtI l D dA ad yX11_isKind wsX11_isKind 1 [.int v0] (hX S) (fun r h' => ∃ S' : PS, h' = hX S' ∧ P (r, S')) := by
  refine CtI_of mf_X11_isKind rfl rfl (Nat.le_of_ble_eq_true rfl) rfl (hX_len S) ?_
  unfold f_X11_isKind at hf
  refine E_iload_n dX11_isKind_0 rfl ?_
  refine E_iconst (v := 0) dX11_isKind_1 (by decide) ?_
  refine E_iconst (v := 4) dX11_isKind_2 (by decide) ?_
  refine E_callSI (st := []) (c_X11_isWithin l D dA ad S v0 0 4 (pO_bnd hf)) mf_X11_isWithin rfl gX11_isKind_X11_isWithin (by omega) rfl (Nat.le_of_ble_eq_true rfl) (by rfl) dX11_isKind_3 (fun r1 h1 q1 => ?_)
  obtain ⟨S_1, rfl, hf⟩ := q1
  dsimp only at hf
  obtain ⟨hn_2, hf⟩ := pO_gd hf
  exact E_zret rfl dX11_isKind_6 (pbit_n hn_2) ⟨_, rfl, hf⟩
theorem hi_X11_put_11 : ∀ w ∈ u_ws RX11 TX11 10, w ∈ wsX11_put := fun w h => of_decide_eq_true (List.all_eq_true.mp (by decide +kernel : (u_ws RX11 TX11 10).all (fun w => decide (w ∈ wsX11_put)) = true) w h)
theorem fl_X11_put_12 : pFL wsX11_put RX11 12 11 0 := ⟨RX11, TX11, 10, hi_X11_put_11, rfl, by decide, by decide +kernel⟩
theorem hi_X11_put_0 : ∀ w ∈ u_ws RX0 TX0 3, w ∈ wsX11_put := fun w h => of_decide_eq_true (List.all_eq_true.mp (by decide +kernel : (u_ws RX0 TX0 3).all (fun w => decide (w ∈ wsX11_put)) = true) w h)
theorem fl_X11_put_82 : pFL wsX11_put RX11 82 0 0 := ⟨RX0, TX0, 3, hi_X11_put_0, rfl, by decide, by decide +kernel⟩
theorem mf_X11_isSide : pMF yX11_isSide wsX11_isSide cX11_isSide 1 (some .boolean) 1 := ⟨⟨_, rfl⟩, by decide +kernel, by decide, by decide +kernel, by decide +kernel, by decide +kernel⟩
def f_X11_isSide (S : PS) (v0 : Int32) : Option (Int32 × PS) :=
  pbnd (f_X11_isWithin S v0 (-20) 20) (fun r1 S_1 => pgd (pbit r1) (some (r1, S_1)))
set_option maxRecDepth 100000 in
theorem c_X11_isSide (l : Launch) (D : va_G) (dA : Nat → ClassId) (ad : Nat → Nat) (S : PS) (v0 : Int32) {P : (Int32 × PS) → Prop} (hf : pO (f_X11_isSide S v0) P) : CtI l D dA ad yX11_isSide wsX11_isSide 1 [.int v0] (hX S) (fun r h' => ∃ S' : PS, h' = hX S' ∧ P (r, S')) := by
  refine CtI_of mf_X11_isSide rfl rfl (Nat.le_of_ble_eq_true rfl) rfl (hX_len S) ?_
  unfold f_X11_isSide at hf
  refine E_iload_n dX11_isSide_0 rfl ?_
  refine E_bipush (v := (-20)) dX11_isSide_1 (by decide) ?_
  refine E_bipush (v := 20) dX11_isSide_3 (by decide) ?_
  refine E_callSI (st := []) (c_X11_isWithin l D dA ad S v0 (-20) 20 (pO_bnd hf)) mf_X11_isWithin rfl gX11_isSide_X11_isWithin (by omega) rfl (Nat.le_of_ble_eq_true rfl) (by rfl) dX11_isSide_5 (fun r1 h1 q1 => ?_)
  obtain ⟨S_1, rfl, hf⟩ := q1
  dsimp only at hf
  obtain ⟨hn_2, hf⟩ := pO_gd hf
  exact E_zret rfl dX11_isSide_8 (pbit_n hn_2) ⟨_, rfl, hf⟩
theorem fl_X11_put_131 : pFL wsX11_put RX11 131 0 1 := ⟨RX0, TX0, 3, hi_X11_put_0, rfl, by decide, by decide +kernel⟩
theorem hi_X1_placeOf_1 : ∀ w ∈ u_ws RX1 TX1 7, w ∈ wsX1_placeOf := fun w h => of_decide_eq_true (List.all_eq_true.mp (by decide +kernel : (u_ws RX1 TX1 7).all (fun w => decide (w ∈ wsX1_placeOf)) = true) w h)
theorem fl_X1_placeOf_9 : pFL wsX1_placeOf RX1 9 1 0 := ⟨RX1, TX1, 7, hi_X1_placeOf_1, rfl, by decide, by decide +kernel⟩
theorem fl_X1_placeOf_15 : pFL wsX1_placeOf RX1 15 1 1 := ⟨RX1, TX1, 7, hi_X1_placeOf_1, rfl, by decide, by decide +kernel⟩
def g_X1_placeOf_2 : Nat → PS → Int32 → Int32 → Option ((Int32 × PS) ⊕ (PS))
  | 0, _, _, _ => none
  | fuel + 1, S, v1, v2 =>
    if (S.1 4) ≤ v2 then (some (.inr (S))) else (pgd (pin v2 16) (if ((S.2 2) v2.toNatClampNeg) = v1 then (some (.inl (v2, S))) else (g_X1_placeOf_2 fuel S v1 (v2 + 1))))
set_option maxRecDepth 100000 in
theorem l_X1_placeOf_2 (l : Launch) (D : va_G) (dA : Nat → ClassId) (ad : Nat → Nat) (d : Nat) (hd : 0 ≤ d) {Q : Int32 → List PC → Prop} : ∀ (fuel : Nat) (S : PS) (v1 : Int32) (v2 : Int32), pO (g_X1_placeOf_2 fuel S v1 v2) (fun y => match y with
    | .inl x => Q x.1 (hX x.2)
    | .inr w => Ev l D dA ad wsX1_placeOf cX1_placeOf RX1 3 (some .int) d 52 (pKi D dA ad 52 Q) 28 [] [] (hX w)) → Ev l D dA ad wsX1_placeOf cX1_placeOf RX1 3 (some .int) d 52 (pKi D dA ad 52 Q) 2 [(0, .ref 5), (1, .int v1), (2, .int v2)] [] (hX S) := by
  intro fuel
  induction fuel with
  | zero =>
    intro S v1 v2 hf
    exact hf.elim
  | succ fuel ih =>
    intro S v1 v2 hf
    rw [g_X1_placeOf_2] at hf
    refine E_iload_n dX1_placeOf_2 rfl ?_
    refine E_aload_n dX1_placeOf_3 rfl ?_
    refine E_getf (v := .int (S.1 4)) dX1_placeOf_4 fl_X1_placeOf_9 rfl rfl ?_
    refine E_icmp_ge (tgt := 28) dX1_placeOf_7 (by decide) (fun c_1 => ?_) (fun c_1 => ?_)
    · have hf := pO_pos c_1 hf
      exact E_sub (ls' := []) trivial hf
    · have hf := pO_neg c_1 hf
      refine E_aload_n dX1_placeOf_10 rfl ?_
      refine E_getf (v := .ref 6) dX1_placeOf_11 fl_X1_placeOf_15 rfl rfl ?_
      refine E_iload_n dX1_placeOf_14 rfl ?_
      obtain ⟨hi_2, hf⟩ := pO_gd hf
      refine E_iald (n0 := 16) (f := S.2 2) dX1_placeOf_15 rfl (pin_in hi_2) ?_
      refine E_iload_n dX1_placeOf_16 rfl ?_
      refine E_icmp_ne (tgt := 22) dX1_placeOf_17 (by decide) (fun c_3 => ?_) (fun c_3 => ?_)
      · have hf := pO_neg c_3 hf
        refine E_iinc (v := v2 + 1) (ls' := [(0, .ref 5), (1, .int v1), (2, .int (v2 + 1))]) dX1_placeOf_22 rfl rfl (by decide) rfl ?_
        refine E_goto (tgt := 2) dX1_placeOf_25 (by decide) ?_
        exact E_sub (ls' := [(0, .ref 5), (1, .int v1), (2, .int (v2 + 1))]) ⟨rfl, rfl, rfl, trivial⟩ (ih S v1 (v2 + 1) hf)
      · have hf := pO_pos c_3 hf
        refine E_iload_n dX1_placeOf_20 rfl ?_
        exact E_iret rfl dX1_placeOf_21 hf
theorem mf_X1_placeOf : pMF yX1_placeOf wsX1_placeOf cX1_placeOf 3 (some .int) 1 := ⟨⟨_, rfl⟩, by decide +kernel, by decide, by decide +kernel, by decide +kernel, by decide +kernel⟩
def f_X1_placeOf (S : PS) (v1 : Int32) : Option (Int32 × PS) :=
  plp (g_X1_placeOf_2 pfuel S v1 0) (fun (S_4 : PS) => some ((-1), S_4))
set_option maxRecDepth 100000 in
theorem c_X1_placeOf (l : Launch) (D : va_G) (dA : Nat → ClassId) (ad : Nat → Nat) (S : PS) (v1 : Int32) {P : (Int32 × PS) → Prop} (hf : pO (f_X1_placeOf S v1) P) : CtI l D dA ad yX1_placeOf wsX1_placeOf 0 [.ref 5, .int v1] (hX S) (fun r h' => ∃ S' : PS, h' = hX S' ∧ P (r, S')) := by
  refine CtI_of mf_X1_placeOf rfl rfl (Nat.le_of_ble_eq_true rfl) rfl (hX_len S) ?_
  unfold f_X1_placeOf at hf
  refine E_iconst (v := 0) dX1_placeOf_0 (by decide) ?_
  refine E_istore_n (ls' := [(0, .ref 5), (1, .int v1), (2, .int 0)]) dX1_placeOf_1 (by decide) rfl ?_
  refine E_sub (ls' := [(0, .ref 5), (1, .int v1), (2, .int 0)]) ⟨rfl, rfl, rfl, trivial⟩ ?_
  refine l_X1_placeOf_2 l D dA ad _ (by omega) pfuel S v1 0 (pO_lp hf (fun x hx => ⟨x.2, rfl, hx⟩) (fun w4 hf => ?_))
  obtain ⟨S_4, rfl⟩ : ∃ z, z = w4 := ⟨_, rfl⟩
  dsimp only at hf ⊢
  refine E_iconst (v := (-1)) dX1_placeOf_28 (by decide) ?_
  exact E_iret rfl dX1_placeOf_29 ⟨_, rfl, hf⟩
theorem hi_X11_put_1 : ∀ w ∈ u_ws RX1 TX1 7, w ∈ wsX11_put := fun w h => of_decide_eq_true (List.all_eq_true.mp (by decide +kernel : (u_ws RX1 TX1 7).all (fun w => decide (w ∈ wsX11_put)) = true) w h)
theorem fl_X11_put_140 : pFL wsX11_put RX11 140 1 0 := ⟨RX1, TX1, 7, hi_X11_put_1, rfl, by decide, by decide +kernel⟩
theorem hi_X1_placeBehind_1 : ∀ w ∈ u_ws RX1 TX1 7, w ∈ wsX1_placeBehind := fun w h => of_decide_eq_true (List.all_eq_true.mp (by decide +kernel : (u_ws RX1 TX1 7).all (fun w => decide (w ∈ wsX1_placeBehind)) = true) w h)
theorem fl_X1_placeBehind_9 : pFL wsX1_placeBehind RX1 9 1 0 := ⟨RX1, TX1, 7, hi_X1_placeBehind_1, rfl, by decide, by decide +kernel⟩
theorem fl_X1_placeBehind_15 : pFL wsX1_placeBehind RX1 15 1 1 := ⟨RX1, TX1, 7, hi_X1_placeBehind_1, rfl, by decide, by decide +kernel⟩
def g_X1_placeBehind_2 : Nat → PS → Int32 → Int32 → Option ((Int32 × PS) ⊕ (PS × Int32))
  | 0, _, _, _ => none
  | fuel + 1, S, v1, v2 =>
    if (S.1 4) ≤ v2 then (some (.inr (S, v2))) else (pgd (pin v2 16) (if v1 < ((S.2 2) v2.toNatClampNeg) then (some (.inr (S, v2))) else (g_X1_placeBehind_2 fuel S v1 (v2 + 1))))
set_option maxRecDepth 100000 in
theorem l_X1_placeBehind_2 (l : Launch) (D : va_G) (dA : Nat → ClassId) (ad : Nat → Nat) (d : Nat) (hd : 0 ≤ d) {Q : Int32 → List PC → Prop} : ∀ (fuel : Nat) (S : PS) (v1 : Int32) (v2 : Int32), pO (g_X1_placeBehind_2 fuel S v1 v2) (fun y => match y with
    | .inl x => Q x.1 (hX x.2)
    | .inr w => Ev l D dA ad wsX1_placeBehind cX1_placeBehind RX1 3 (some .int) d 52 (pKi D dA ad 52 Q) 26 [(2, .int w.2)] [] (hX w.1)) → Ev l D dA ad wsX1_placeBehind cX1_placeBehind RX1 3 (some .int) d 52 (pKi D dA ad 52 Q) 2 [(0, .ref 5), (1, .int v1), (2, .int v2)] [] (hX S) := by
  intro fuel
  induction fuel with
  | zero =>
    intro S v1 v2 hf
    exact hf.elim
  | succ fuel ih =>
    intro S v1 v2 hf
    rw [g_X1_placeBehind_2] at hf
    refine E_iload_n dX1_placeBehind_2 rfl ?_
    refine E_aload_n dX1_placeBehind_3 rfl ?_
    refine E_getf (v := .int (S.1 4)) dX1_placeBehind_4 fl_X1_placeBehind_9 rfl rfl ?_
    refine E_icmp_ge (tgt := 26) dX1_placeBehind_7 (by decide) (fun c_1 => ?_) (fun c_1 => ?_)
    · have hf := pO_pos c_1 hf
      exact E_sub (ls' := [(2, .int v2)]) ⟨rfl, trivial⟩ hf
    · have hf := pO_neg c_1 hf
      refine E_aload_n dX1_placeBehind_10 rfl ?_
      refine E_getf (v := .ref 6) dX1_placeBehind_11 fl_X1_placeBehind_15 rfl rfl ?_
      refine E_iload_n dX1_placeBehind_14 rfl ?_
      obtain ⟨hi_2, hf⟩ := pO_gd hf
      refine E_iald (n0 := 16) (f := S.2 2) dX1_placeBehind_15 rfl (pin_in hi_2) ?_
      refine E_iload_n dX1_placeBehind_16 rfl ?_
      refine E_icmp_gt (tgt := 26) dX1_placeBehind_17 (by decide) (fun c_3 => ?_) (fun c_3 => ?_)
      · have hf := pO_pos c_3 hf
        exact E_sub (ls' := [(2, .int v2)]) ⟨rfl, trivial⟩ hf
      · have hf := pO_neg c_3 hf
        refine E_iinc (v := v2 + 1) (ls' := [(0, .ref 5), (1, .int v1), (2, .int (v2 + 1))]) dX1_placeBehind_20 rfl rfl (by decide) rfl ?_
        refine E_goto (tgt := 2) dX1_placeBehind_23 (by decide) ?_
        exact E_sub (ls' := [(0, .ref 5), (1, .int v1), (2, .int (v2 + 1))]) ⟨rfl, rfl, rfl, trivial⟩ (ih S v1 (v2 + 1) hf)
theorem mf_X1_placeBehind : pMF yX1_placeBehind wsX1_placeBehind cX1_placeBehind 3 (some .int) 1 := ⟨⟨_, rfl⟩, by decide +kernel, by decide, by decide +kernel, by decide +kernel, by decide +kernel⟩
def f_X1_placeBehind (S : PS) (v1 : Int32) : Option (Int32 × PS) :=
  plp (g_X1_placeBehind_2 pfuel S v1 0) (fun w => (fun (S_4 : PS) (v2_4 : Int32) => some (v2_4, S_4)) w.1 w.2)
set_option maxRecDepth 100000 in
theorem c_X1_placeBehind (l : Launch) (D : va_G) (dA : Nat → ClassId) (ad : Nat → Nat) (S : PS) (v1 : Int32) {P : (Int32 × PS) → Prop} (hf : pO (f_X1_placeBehind S v1) P) : CtI l D dA ad yX1_placeBehind wsX1_placeBehind 0 [.ref 5, .int v1] (hX S) (fun r h' => ∃ S' : PS, h' = hX S' ∧ P (r, S')) := by
  refine CtI_of mf_X1_placeBehind rfl rfl (Nat.le_of_ble_eq_true rfl) rfl (hX_len S) ?_
  unfold f_X1_placeBehind at hf
  refine E_iconst (v := 0) dX1_placeBehind_0 (by decide) ?_
  refine E_istore_n (ls' := [(0, .ref 5), (1, .int v1), (2, .int 0)]) dX1_placeBehind_1 (by decide) rfl ?_
  refine E_sub (ls' := [(0, .ref 5), (1, .int v1), (2, .int 0)]) ⟨rfl, rfl, rfl, trivial⟩ ?_
  refine l_X1_placeBehind_2 l D dA ad _ (by omega) pfuel S v1 0 (pO_lp hf (fun x hx => ⟨x.2, rfl, hx⟩) (fun w4 hf => ?_))
  obtain ⟨S_4, v2_4⟩ := w4
  dsimp only at hf ⊢
  refine E_iload_n dX1_placeBehind_26 rfl ?_
  exact E_iret rfl dX1_placeBehind_27 ⟨_, rfl, hf⟩
theorem hi_X1_openPlace_1 : ∀ w ∈ u_ws RX1 TX1 7, w ∈ wsX1_openPlace := fun w h => of_decide_eq_true (List.all_eq_true.mp (by decide +kernel : (u_ws RX1 TX1 7).all (fun w => decide (w ∈ wsX1_openPlace)) = true) w h)
theorem fl_X1_openPlace_9 : pFL wsX1_openPlace RX1 9 1 0 := ⟨RX1, TX1, 7, hi_X1_openPlace_1, rfl, by decide, by decide +kernel⟩
theorem hi_X1_copyPlaces_1 : ∀ w ∈ u_ws RX1 TX1 7, w ∈ wsX1_copyPlaces := fun w h => of_decide_eq_true (List.all_eq_true.mp (by decide +kernel : (u_ws RX1 TX1 7).all (fun w => decide (w ∈ wsX1_copyPlaces)) = true) w h)
theorem fl_X1_copyPlaces_15 : pFL wsX1_copyPlaces RX1 15 1 1 := ⟨RX1, TX1, 7, hi_X1_copyPlaces_1, rfl, by decide, by decide +kernel⟩
theorem fl_X1_copyPlaces_19 : pFL wsX1_copyPlaces RX1 19 1 2 := ⟨RX1, TX1, 7, hi_X1_copyPlaces_1, rfl, by decide, by decide +kernel⟩
theorem fl_X1_copyPlaces_22 : pFL wsX1_copyPlaces RX1 22 1 3 := ⟨RX1, TX1, 7, hi_X1_copyPlaces_1, rfl, by decide, by decide +kernel⟩
theorem fl_X1_copyPlaces_25 : pFL wsX1_copyPlaces RX1 25 1 4 := ⟨RX1, TX1, 7, hi_X1_copyPlaces_1, rfl, by decide, by decide +kernel⟩
theorem fl_X1_copyPlaces_28 : pFL wsX1_copyPlaces RX1 28 1 5 := ⟨RX1, TX1, 7, hi_X1_copyPlaces_1, rfl, by decide, by decide +kernel⟩
theorem fl_X1_copyPlaces_31 : pFL wsX1_copyPlaces RX1 31 1 6 := ⟨RX1, TX1, 7, hi_X1_copyPlaces_1, rfl, by decide, by decide +kernel⟩
theorem mf_X1_copyPlaces : pMF yX1_copyPlaces wsX1_copyPlaces cX1_copyPlaces 5 none 4 := ⟨⟨_, rfl⟩, by decide +kernel, by decide, by decide +kernel, by decide +kernel, by decide +kernel⟩
def f_X1_copyPlaces_5_5 (S : PS) (v2 : Int32) (v3 : Int32) (v4 : Int32) : Option (Int32 × PS) :=
  pgd (pcpy v2 v3 v4 16 16) (pgd (pcpy v2 v3 v4 16 16) (pgd (pcpy v2 v3 v4 16 16) (pgd (pcpy v2 v3 v4 16 16) (pgd (pcpy v2 v3 v4 16 16) (pgd (pcpy v2 v3 v4 16 16) (some (0, (pAr (pAr (pAr (pAr (pAr (pAr S 2 (va_cpy (S.2 2) (S.2 2) v2.toNatClampNeg v3.toNatClampNeg v4.toNatClampNeg)) 3 (va_cpy (S.2 3) (S.2 3) v2.toNatClampNeg v3.toNatClampNeg v4.toNatClampNeg)) 4 (va_cpy (S.2 4) (S.2 4) v2.toNatClampNeg v3.toNatClampNeg v4.toNatClampNeg)) 5 (va_cpy (S.2 5) (S.2 5) v2.toNatClampNeg v3.toNatClampNeg v4.toNatClampNeg)) 6 (va_cpy (S.2 6) (S.2 6) v2.toNatClampNeg v3.toNatClampNeg v4.toNatClampNeg)) 7 (va_cpy (S.2 7) (S.2 7) v2.toNatClampNeg v3.toNatClampNeg v4.toNatClampNeg)))))))))
set_option maxRecDepth 100000 in
theorem c_X1_copyPlaces_5_5 (l : Launch) (D : va_G) (dA : Nat → ClassId) (ad : Nat → Nat) (S : PS) (v2 : Int32) (v3 : Int32) (v4 : Int32) {P : (Int32 × PS) → Prop} (hf : pO (f_X1_copyPlaces_5_5 S v2 v3 v4) P) : CtV l D dA ad yX1_copyPlaces wsX1_copyPlaces 1 [.ref 5, .ref 5, .int v2, .int v3, .int v4] (hX S) (fun h' => ∃ (r0 : Int32) (S' : PS), h' = hX S' ∧ P (r0, S')) := by
  refine CtV_of mf_X1_copyPlaces rfl rfl (Nat.le_of_ble_eq_true rfl) rfl (hX_len S) ?_
  unfold f_X1_copyPlaces_5_5 at hf
  refine E_aload_n dX1_copyPlaces_0 rfl ?_
  refine E_getf (v := .ref 6) dX1_copyPlaces_1 fl_X1_copyPlaces_15 rfl rfl ?_
  refine E_iload_n dX1_copyPlaces_4 rfl ?_
  refine E_aload_n dX1_copyPlaces_5 rfl ?_
  refine E_getf (v := .ref 6) dX1_copyPlaces_6 fl_X1_copyPlaces_15 rfl rfl ?_
  refine E_iload_n dX1_copyPlaces_9 rfl ?_
  refine E_iload dX1_copyPlaces_10 rfl ?_
  obtain ⟨hc_1, hf⟩ := pO_gd hf
  refine E_copyC (i := v2) (j := v3) (k0 := v4) (n0 := 16) (n1 := 16) (f := S.2 2) (g := S.2 2) (h' := hX (pAr S 2 (va_cpy (S.2 2) (S.2 2) v2.toNatClampNeg v3.toNatClampNeg v4.toNatClampNeg))) (by decide +kernel) (by decide +kernel) (by decide +kernel) (by decide +kernel) rfl rfl hc_1 (by decide) (by decide) (by omega) (Nat.le_of_ble_eq_true rfl) (by rfl) dX1_copyPlaces_12 (sX_A2 S (va_cpy (S.2 2) (S.2 2) v2.toNatClampNeg v3.toNatClampNeg v4.toNatClampNeg)) ?_
  refine E_aload_n dX1_copyPlaces_15 rfl ?_
  refine E_getf (v := .ref 7) dX1_copyPlaces_16 fl_X1_copyPlaces_19 rfl rfl ?_
  refine E_iload_n dX1_copyPlaces_19 rfl ?_
  refine E_aload_n dX1_copyPlaces_20 rfl ?_
  refine E_getf (v := .ref 7) dX1_copyPlaces_21 fl_X1_copyPlaces_19 rfl rfl ?_
  refine E_iload_n dX1_copyPlaces_24 rfl ?_
  refine E_iload dX1_copyPlaces_25 rfl ?_
  obtain ⟨hc_2, hf⟩ := pO_gd hf
  refine E_copyC (i := v2) (j := v3) (k0 := v4) (n0 := 16) (n1 := 16) (f := S.2 3) (g := S.2 3) (h' := hX (pAr (pAr S 2 (va_cpy (S.2 2) (S.2 2) v2.toNatClampNeg v3.toNatClampNeg v4.toNatClampNeg)) 3 (va_cpy (S.2 3) (S.2 3) v2.toNatClampNeg v3.toNatClampNeg v4.toNatClampNeg))) (by decide +kernel) (by decide +kernel) (by decide +kernel) (by decide +kernel) rfl rfl hc_2 (by decide) (by decide) (by omega) (Nat.le_of_ble_eq_true rfl) (by rfl) dX1_copyPlaces_27 (sX_A3 (pAr S 2 (va_cpy (S.2 2) (S.2 2) v2.toNatClampNeg v3.toNatClampNeg v4.toNatClampNeg)) (va_cpy (S.2 3) (S.2 3) v2.toNatClampNeg v3.toNatClampNeg v4.toNatClampNeg)) ?_
  refine E_aload_n dX1_copyPlaces_30 rfl ?_
  refine E_getf (v := .ref 8) dX1_copyPlaces_31 fl_X1_copyPlaces_22 rfl rfl ?_
  refine E_iload_n dX1_copyPlaces_34 rfl ?_
  refine E_aload_n dX1_copyPlaces_35 rfl ?_
  refine E_getf (v := .ref 8) dX1_copyPlaces_36 fl_X1_copyPlaces_22 rfl rfl ?_
  refine E_iload_n dX1_copyPlaces_39 rfl ?_
  refine E_iload dX1_copyPlaces_40 rfl ?_
  obtain ⟨hc_3, hf⟩ := pO_gd hf
  refine E_copyC (i := v2) (j := v3) (k0 := v4) (n0 := 16) (n1 := 16) (f := S.2 4) (g := S.2 4) (h' := hX (pAr (pAr (pAr S 2 (va_cpy (S.2 2) (S.2 2) v2.toNatClampNeg v3.toNatClampNeg v4.toNatClampNeg)) 3 (va_cpy (S.2 3) (S.2 3) v2.toNatClampNeg v3.toNatClampNeg v4.toNatClampNeg)) 4 (va_cpy (S.2 4) (S.2 4) v2.toNatClampNeg v3.toNatClampNeg v4.toNatClampNeg))) (by decide +kernel) (by decide +kernel) (by decide +kernel) (by decide +kernel) rfl rfl hc_3 (by decide) (by decide) (by omega) (Nat.le_of_ble_eq_true rfl) (by rfl) dX1_copyPlaces_42 (sX_A4 (pAr (pAr S 2 (va_cpy (S.2 2) (S.2 2) v2.toNatClampNeg v3.toNatClampNeg v4.toNatClampNeg)) 3 (va_cpy (S.2 3) (S.2 3) v2.toNatClampNeg v3.toNatClampNeg v4.toNatClampNeg)) (va_cpy (S.2 4) (S.2 4) v2.toNatClampNeg v3.toNatClampNeg v4.toNatClampNeg)) ?_
  refine E_aload_n dX1_copyPlaces_45 rfl ?_
  refine E_getf (v := .ref 9) dX1_copyPlaces_46 fl_X1_copyPlaces_25 rfl rfl ?_
  refine E_iload_n dX1_copyPlaces_49 rfl ?_
  refine E_aload_n dX1_copyPlaces_50 rfl ?_
  refine E_getf (v := .ref 9) dX1_copyPlaces_51 fl_X1_copyPlaces_25 rfl rfl ?_
  refine E_iload_n dX1_copyPlaces_54 rfl ?_
  refine E_iload dX1_copyPlaces_55 rfl ?_
  obtain ⟨hc_4, hf⟩ := pO_gd hf
  refine E_copyC (i := v2) (j := v3) (k0 := v4) (n0 := 16) (n1 := 16) (f := S.2 5) (g := S.2 5) (h' := hX (pAr (pAr (pAr (pAr S 2 (va_cpy (S.2 2) (S.2 2) v2.toNatClampNeg v3.toNatClampNeg v4.toNatClampNeg)) 3 (va_cpy (S.2 3) (S.2 3) v2.toNatClampNeg v3.toNatClampNeg v4.toNatClampNeg)) 4 (va_cpy (S.2 4) (S.2 4) v2.toNatClampNeg v3.toNatClampNeg v4.toNatClampNeg)) 5 (va_cpy (S.2 5) (S.2 5) v2.toNatClampNeg v3.toNatClampNeg v4.toNatClampNeg))) (by decide +kernel) (by decide +kernel) (by decide +kernel) (by decide +kernel) rfl rfl hc_4 (by decide) (by decide) (by omega) (Nat.le_of_ble_eq_true rfl) (by rfl) dX1_copyPlaces_57 (sX_A5 (pAr (pAr (pAr S 2 (va_cpy (S.2 2) (S.2 2) v2.toNatClampNeg v3.toNatClampNeg v4.toNatClampNeg)) 3 (va_cpy (S.2 3) (S.2 3) v2.toNatClampNeg v3.toNatClampNeg v4.toNatClampNeg)) 4 (va_cpy (S.2 4) (S.2 4) v2.toNatClampNeg v3.toNatClampNeg v4.toNatClampNeg)) (va_cpy (S.2 5) (S.2 5) v2.toNatClampNeg v3.toNatClampNeg v4.toNatClampNeg)) ?_
  refine E_aload_n dX1_copyPlaces_60 rfl ?_
  refine E_getf (v := .ref 10) dX1_copyPlaces_61 fl_X1_copyPlaces_28 rfl rfl ?_
  refine E_iload_n dX1_copyPlaces_64 rfl ?_
  refine E_aload_n dX1_copyPlaces_65 rfl ?_
  refine E_getf (v := .ref 10) dX1_copyPlaces_66 fl_X1_copyPlaces_28 rfl rfl ?_
  refine E_iload_n dX1_copyPlaces_69 rfl ?_
  refine E_iload dX1_copyPlaces_70 rfl ?_
  obtain ⟨hc_5, hf⟩ := pO_gd hf
  refine E_copyC (i := v2) (j := v3) (k0 := v4) (n0 := 16) (n1 := 16) (f := S.2 6) (g := S.2 6) (h' := hX (pAr (pAr (pAr (pAr (pAr S 2 (va_cpy (S.2 2) (S.2 2) v2.toNatClampNeg v3.toNatClampNeg v4.toNatClampNeg)) 3 (va_cpy (S.2 3) (S.2 3) v2.toNatClampNeg v3.toNatClampNeg v4.toNatClampNeg)) 4 (va_cpy (S.2 4) (S.2 4) v2.toNatClampNeg v3.toNatClampNeg v4.toNatClampNeg)) 5 (va_cpy (S.2 5) (S.2 5) v2.toNatClampNeg v3.toNatClampNeg v4.toNatClampNeg)) 6 (va_cpy (S.2 6) (S.2 6) v2.toNatClampNeg v3.toNatClampNeg v4.toNatClampNeg))) (by decide +kernel) (by decide +kernel) (by decide +kernel) (by decide +kernel) rfl rfl hc_5 (by decide) (by decide) (by omega) (Nat.le_of_ble_eq_true rfl) (by rfl) dX1_copyPlaces_72 (sX_A6 (pAr (pAr (pAr (pAr S 2 (va_cpy (S.2 2) (S.2 2) v2.toNatClampNeg v3.toNatClampNeg v4.toNatClampNeg)) 3 (va_cpy (S.2 3) (S.2 3) v2.toNatClampNeg v3.toNatClampNeg v4.toNatClampNeg)) 4 (va_cpy (S.2 4) (S.2 4) v2.toNatClampNeg v3.toNatClampNeg v4.toNatClampNeg)) 5 (va_cpy (S.2 5) (S.2 5) v2.toNatClampNeg v3.toNatClampNeg v4.toNatClampNeg)) (va_cpy (S.2 6) (S.2 6) v2.toNatClampNeg v3.toNatClampNeg v4.toNatClampNeg)) ?_
  refine E_aload_n dX1_copyPlaces_75 rfl ?_
  refine E_getf (v := .ref 11) dX1_copyPlaces_76 fl_X1_copyPlaces_31 rfl rfl ?_
  refine E_iload_n dX1_copyPlaces_79 rfl ?_
  refine E_aload_n dX1_copyPlaces_80 rfl ?_
  refine E_getf (v := .ref 11) dX1_copyPlaces_81 fl_X1_copyPlaces_31 rfl rfl ?_
  refine E_iload_n dX1_copyPlaces_84 rfl ?_
  refine E_iload dX1_copyPlaces_85 rfl ?_
  obtain ⟨hc_6, hf⟩ := pO_gd hf
  refine E_copyC (i := v2) (j := v3) (k0 := v4) (n0 := 16) (n1 := 16) (f := S.2 7) (g := S.2 7) (h' := hX (pAr (pAr (pAr (pAr (pAr (pAr S 2 (va_cpy (S.2 2) (S.2 2) v2.toNatClampNeg v3.toNatClampNeg v4.toNatClampNeg)) 3 (va_cpy (S.2 3) (S.2 3) v2.toNatClampNeg v3.toNatClampNeg v4.toNatClampNeg)) 4 (va_cpy (S.2 4) (S.2 4) v2.toNatClampNeg v3.toNatClampNeg v4.toNatClampNeg)) 5 (va_cpy (S.2 5) (S.2 5) v2.toNatClampNeg v3.toNatClampNeg v4.toNatClampNeg)) 6 (va_cpy (S.2 6) (S.2 6) v2.toNatClampNeg v3.toNatClampNeg v4.toNatClampNeg)) 7 (va_cpy (S.2 7) (S.2 7) v2.toNatClampNeg v3.toNatClampNeg v4.toNatClampNeg))) (by decide +kernel) (by decide +kernel) (by decide +kernel) (by decide +kernel) rfl rfl hc_6 (by decide) (by decide) (by omega) (Nat.le_of_ble_eq_true rfl) (by rfl) dX1_copyPlaces_87 (sX_A7 (pAr (pAr (pAr (pAr (pAr S 2 (va_cpy (S.2 2) (S.2 2) v2.toNatClampNeg v3.toNatClampNeg v4.toNatClampNeg)) 3 (va_cpy (S.2 3) (S.2 3) v2.toNatClampNeg v3.toNatClampNeg v4.toNatClampNeg)) 4 (va_cpy (S.2 4) (S.2 4) v2.toNatClampNeg v3.toNatClampNeg v4.toNatClampNeg)) 5 (va_cpy (S.2 5) (S.2 5) v2.toNatClampNeg v3.toNatClampNeg v4.toNatClampNeg)) 6 (va_cpy (S.2 6) (S.2 6) v2.toNatClampNeg v3.toNatClampNeg v4.toNatClampNeg)) (va_cpy (S.2 7) (S.2 7) v2.toNatClampNeg v3.toNatClampNeg v4.toNatClampNeg)) ?_
  exact E_vret rfl dX1_copyPlaces_90 ⟨0, _, rfl, hf⟩
theorem fl_X1_openPlace_15 : pFL wsX1_openPlace RX1 15 1 1 := ⟨RX1, TX1, 7, hi_X1_openPlace_1, rfl, by decide, by decide +kernel⟩
theorem mf_X1_openPlace : pMF yX1_openPlace wsX1_openPlace cX1_openPlace 3 (some .int) 1 := ⟨⟨_, rfl⟩, by decide +kernel, by decide, by decide +kernel, by decide +kernel, by decide +kernel⟩
def f_X1_openPlace (S : PS) (v1 : Int32) : Option (Int32 × PS) :=
  pbnd (f_X1_placeBehind S v1) (fun r1 S_1 => pbnd (f_X1_copyPlaces_5_5 S_1 (pmin r1 15) ((pmin r1 15) + 1) ((pmin (S_1.1 4) 15) - (pmin r1 15))) (fun _ S_2 => pgd (pin (pmin r1 15) 16) (some (pmin r1 15, (pAr (pI S_2 4 (pmin ((S_2.1 4) + 1) 16)) 2 (upd (S_2.2 2) (pmin r1 15).toNatClampNeg v1))))))
set_option maxRecDepth 100000 in
theorem c_X1_openPlace (l : Launch) (D : va_G) (dA : Nat → ClassId) (ad : Nat → Nat) (S : PS) (v1 : Int32) {P : (Int32 × PS) → Prop} (hf : pO (f_X1_openPlace S v1) P) : CtI l D dA ad yX1_openPlace wsX1_openPlace 2 [.ref 5, .int v1] (hX S) (fun r h' => ∃ S' : PS, h' = hX S' ∧ P (r, S')) := by
  refine CtI_of mf_X1_openPlace rfl rfl (Nat.le_of_ble_eq_true rfl) rfl (hX_len S) ?_
  unfold f_X1_openPlace at hf
  refine E_aload_n dX1_openPlace_0 rfl ?_
  refine E_iload_n dX1_openPlace_1 rfl ?_
  refine E_callVI (st := []) (c_X1_placeBehind l D dA ad S v1 (pO_bnd hf)) mf_X1_placeBehind rfl rfl gX1_openPlace_X1_placeBehind (pRc.of (ci := 1) rfl rfl) (by omega) rfl (Nat.le_of_ble_eq_true rfl) (by rfl) dX1_openPlace_2 (fun r1 h1 q1 => ?_)
  obtain ⟨S_1, rfl, hf⟩ := q1
  dsimp only at hf
  refine E_bipush (v := 15) dX1_openPlace_5 (by decide) ?_
  refine E_mmin (by decide +kernel) (by decide +kernel) (by decide +kernel) (by decide +kernel) (by omega) (Nat.le_of_ble_eq_true rfl) (by rfl) dX1_openPlace_7 ?_
  refine E_istore_n (ls' := [(0, .ref 5), (1, .int v1), (2, .int (pmin r1 15))]) dX1_openPlace_10 (by decide) rfl ?_
  refine E_aload_n dX1_openPlace_11 rfl ?_
  refine E_aload_n dX1_openPlace_12 rfl ?_
  refine E_iload_n dX1_openPlace_13 rfl ?_
  refine E_iload_n dX1_openPlace_14 rfl ?_
  refine E_iconst (v := 1) dX1_openPlace_15 (by decide) ?_
  refine E_iadd dX1_openPlace_16 ?_
  refine E_aload_n dX1_openPlace_17 rfl ?_
  refine E_getf (v := .int (S_1.1 4)) dX1_openPlace_18 fl_X1_openPlace_9 rfl rfl ?_
  refine E_bipush (v := 15) dX1_openPlace_21 (by decide) ?_
  refine E_mmin (by decide +kernel) (by decide +kernel) (by decide +kernel) (by decide +kernel) (by omega) (Nat.le_of_ble_eq_true rfl) (by rfl) dX1_openPlace_23 ?_
  refine E_iload_n dX1_openPlace_26 rfl ?_
  refine E_isub dX1_openPlace_27 ?_
  refine E_callVV (st := []) (c_X1_copyPlaces_5_5 l D dA ad S_1 (pmin r1 15) ((pmin r1 15) + 1) ((pmin (S_1.1 4) 15) - (pmin r1 15)) (pO_bnd hf)) mf_X1_copyPlaces rfl rfl gX1_openPlace_X1_copyPlaces (pRc.of (ci := 1) rfl rfl) (by omega) rfl (Nat.le_of_ble_eq_true rfl) (by rfl) dX1_openPlace_28 (fun h2 q2 => ?_)
  obtain ⟨r2, S_2, rfl, hf⟩ := q2
  dsimp only at hf
  refine E_aload_n dX1_openPlace_31 rfl ?_
  refine E_aload_n dX1_openPlace_32 rfl ?_
  refine E_getf (v := .int (S_2.1 4)) dX1_openPlace_33 fl_X1_openPlace_9 rfl rfl ?_
  refine E_iconst (v := 1) dX1_openPlace_36 (by decide) ?_
  refine E_iadd dX1_openPlace_37 ?_
  refine E_bipush (v := 16) dX1_openPlace_38 (by decide) ?_
  refine E_mmin (by decide +kernel) (by decide +kernel) (by decide +kernel) (by decide +kernel) (by omega) (Nat.le_of_ble_eq_true rfl) (by rfl) dX1_openPlace_40 ?_
  refine E_putf (h' := hX (pI S_2 4 (pmin ((S_2.1 4) + 1) 16))) dX1_openPlace_43 fl_X1_openPlace_9 ft_1_0 rfl (Nat.lt_of_lt_of_eq (by decide : 0 < 7) rfl) rfl rfl ⟨_, rfl⟩ (sX_I4 S_2 (pmin ((S_2.1 4) + 1) 16)) ?_
  refine E_aload_n dX1_openPlace_46 rfl ?_
  refine E_getf (v := .ref 6) dX1_openPlace_47 fl_X1_openPlace_15 rfl rfl ?_
  refine E_iload_n dX1_openPlace_50 rfl ?_
  refine E_iload_n dX1_openPlace_51 rfl ?_
  obtain ⟨hi_3, hf⟩ := pO_gd hf
  refine E_iast (n0 := 16) (f := S_2.2 2) (h' := hX (pAr (pI S_2 4 (pmin ((S_2.1 4) + 1) 16)) 2 (upd (S_2.2 2) (pmin r1 15).toNatClampNeg v1))) dX1_openPlace_52 rfl (pin_in hi_3) (sX_A2 (pI S_2 4 (pmin ((S_2.1 4) + 1) 16)) (upd (S_2.2 2) (pmin r1 15).toNatClampNeg v1)) ?_
  refine E_iload_n dX1_openPlace_53 rfl ?_
  exact E_iret rfl dX1_openPlace_54 ⟨_, rfl, hf⟩
theorem fl_X11_put_146 : pFL wsX11_put RX11 146 1 2 := ⟨RX1, TX1, 7, hi_X11_put_1, rfl, by decide, by decide +kernel⟩
theorem fl_X11_put_149 : pFL wsX11_put RX11 149 1 3 := ⟨RX1, TX1, 7, hi_X11_put_1, rfl, by decide, by decide +kernel⟩
theorem fl_X11_put_152 : pFL wsX11_put RX11 152 1 4 := ⟨RX1, TX1, 7, hi_X11_put_1, rfl, by decide, by decide +kernel⟩
theorem fl_X11_put_155 : pFL wsX11_put RX11 155 1 5 := ⟨RX1, TX1, 7, hi_X11_put_1, rfl, by decide, by decide +kernel⟩
theorem fl_X11_put_158 : pFL wsX11_put RX11 158 1 6 := ⟨RX1, TX1, 7, hi_X11_put_1, rfl, by decide, by decide +kernel⟩
theorem mf_X11_put : pMF yX11_put wsX11_put cX11_put 9 (some .int) 6 := ⟨⟨_, rfl⟩, by decide +kernel, by decide, by decide +kernel, by decide +kernel, by decide +kernel⟩
def f_X11_put (S : PS) (v1 : Int32) (v2 : Int32) (v3 : Int32) (v4 : Int32) (v5 : Int32) (v6 : Int32) : Option (Int32 × PS) :=
  pbnd (f_X11_isName S v1) (fun r1 S_1 => if r1 = (0 : Int32) then (some ((-1), S_1)) else (pbnd (f_X11_isKind S_1 v2) (fun r3 S_3 => if r3 = (0 : Int32) then (some ((-1), S_3)) else (pbnd (f_X11_isWithin S_3 v3 1 999) (fun r5 S_5 => if r5 = (0 : Int32) then (some ((-1), S_5)) else (pbnd (f_X2_hasSection S_5 v4) (fun r7 S_7 => if r7 = (0 : Int32) then (some ((-1), S_7)) else (pbnd (f_X11_isSide S_7 v5) (fun r9 S_9 => if r9 = (0 : Int32) then (some ((-1), S_9)) else (pbnd (f_X11_isWithin S_9 v6 0 40) (fun r11 S_11 => if r11 = (0 : Int32) then (some ((-1), S_11)) else (pbnd (f_X1_placeOf S_11 v1) (fun r13 S_13 => if r13 < (0 : Int32) then (if (S_13.1 4) < (16 : Int32) then (pbnd (f_X1_openPlace S_13 v1) (fun r16 S_16 => pgd (pin r16 16) (pgd (pin r16 16) (pgd (pin r16 16) (pgd (pin r16 16) (pgd (pin r16 16) (some (S_16.1 4, (pAr (pAr (pAr (pAr (pAr S_16 3 (upd (S_16.2 3) r16.toNatClampNeg v2)) 4 (upd (S_16.2 4) r16.toNatClampNeg v3)) 5 (upd (S_16.2 5) r16.toNatClampNeg v4)) 6 (upd (S_16.2 6) r16.toNatClampNeg v5)) 7 (upd (S_16.2 7) r16.toNatClampNeg v6)))))))))) else (some ((-3), S_13))) else (some ((-5), S_13)))))))))))))))
set_option maxRecDepth 100000 in
theorem c_X11_put (l : Launch) (D : va_G) (dA : Nat → ClassId) (ad : Nat → Nat) (S : PS) (v1 : Int32) (v2 : Int32) (v3 : Int32) (v4 : Int32) (v5 : Int32) (v6 : Int32) {P : (Int32 × PS) → Prop} (hf : pO (f_X11_put S v1 v2 v3 v4 v5 v6) P) : CtI l D dA ad yX11_put wsX11_put 3 [.ref 0, .int v1, .int v2, .int v3, .int v4, .int v5, .int v6] (hX S) (fun r h' => ∃ S' : PS, h' = hX S' ∧ P (r, S')) := by
  refine CtI_of mf_X11_put rfl rfl (Nat.le_of_ble_eq_true rfl) rfl (hX_len S) ?_
  unfold f_X11_put at hf
  refine E_iload_n dX11_put_0 rfl ?_
  refine E_callSI (st := []) (c_X11_isName l D dA ad S v1 (pO_bnd hf)) mf_X11_isName rfl gX11_put_X11_isName (by omega) rfl (Nat.le_of_ble_eq_true rfl) (by rfl) dX11_put_1 (fun r1 h1 q1 => ?_)
  obtain ⟨S_1, rfl, hf⟩ := q1
  dsimp only at hf
  refine E_if_eq (tgt := 25) dX11_put_4 (by decide) (fun c_2 => ?_) (fun c_2 => ?_)
  · have hf := pO_pos c_2 hf
    refine E_iconst (v := (-1)) dX11_put_25 (by decide) ?_
    exact E_iret rfl dX11_put_26 ⟨_, rfl, hf⟩
  · have hf := pO_neg c_2 hf
    refine E_iload_n dX11_put_7 rfl ?_
    refine E_callSI (st := []) (c_X11_isKind l D dA ad S_1 v2 (pO_bnd hf)) mf_X11_isKind rfl gX11_put_X11_isKind (by omega) rfl (Nat.le_of_ble_eq_true rfl) (by rfl) dX11_put_8 (fun r3 h3 q3 => ?_)
    obtain ⟨S_3, rfl, hf⟩ := q3
    dsimp only at hf
    refine E_if_eq (tgt := 25) dX11_put_11 (by decide) (fun c_4 => ?_) (fun c_4 => ?_)
    · have hf := pO_pos c_4 hf
      refine E_iconst (v := (-1)) dX11_put_25 (by decide) ?_
      exact E_iret rfl dX11_put_26 ⟨_, rfl, hf⟩
    · have hf := pO_neg c_4 hf
      refine E_iload_n dX11_put_14 rfl ?_
      refine E_iconst (v := 1) dX11_put_15 (by decide) ?_
      refine E_sipush (v := 999) dX11_put_16 (by decide) ?_
      refine E_callSI (st := []) (c_X11_isWithin l D dA ad S_3 v3 1 999 (pO_bnd hf)) mf_X11_isWithin rfl gX11_put_X11_isWithin (by omega) rfl (Nat.le_of_ble_eq_true rfl) (by rfl) dX11_put_19 (fun r5 h5 q5 => ?_)
      obtain ⟨S_5, rfl, hf⟩ := q5
      dsimp only at hf
      refine E_if_ne (tgt := 27) dX11_put_22 (by decide) (fun c_6 => ?_) (fun c_6 => ?_)
      · have hf := pO_neg c_6 hf
        refine E_aload_n dX11_put_27 rfl ?_
        refine E_getf (v := .ref 1) dX11_put_28 fl_X11_put_12 rfl rfl ?_
        refine E_getf (v := .ref 2) dX11_put_31 fl_X11_put_82 rfl rfl ?_
        refine E_iload dX11_put_34 rfl ?_
        refine E_callVI (st := []) (c_X2_hasSection l D dA ad S_5 v4 (pO_bnd hf)) mf_X2_hasSection rfl rfl gX11_put_X2_hasSection (pRc.of (ci := 2) rfl rfl) (by omega) rfl (Nat.le_of_ble_eq_true rfl) (by rfl) dX11_put_36 (fun r7 h7 q7 => ?_)
        obtain ⟨S_7, rfl, hf⟩ := q7
        dsimp only at hf
        refine E_if_eq (tgt := 61) dX11_put_39 (by decide) (fun c_8 => ?_) (fun c_8 => ?_)
        · have hf := pO_pos c_8 hf
          refine E_iconst (v := (-1)) dX11_put_61 (by decide) ?_
          exact E_iret rfl dX11_put_62 ⟨_, rfl, hf⟩
        · have hf := pO_neg c_8 hf
          refine E_iload dX11_put_42 rfl ?_
          refine E_callSI (st := []) (c_X11_isSide l D dA ad S_7 v5 (pO_bnd hf)) mf_X11_isSide rfl gX11_put_X11_isSide (by omega) rfl (Nat.le_of_ble_eq_true rfl) (by rfl) dX11_put_44 (fun r9 h9 q9 => ?_)
          obtain ⟨S_9, rfl, hf⟩ := q9
          dsimp only at hf
          refine E_if_eq (tgt := 61) dX11_put_47 (by decide) (fun c_10 => ?_) (fun c_10 => ?_)
          · have hf := pO_pos c_10 hf
            refine E_iconst (v := (-1)) dX11_put_61 (by decide) ?_
            exact E_iret rfl dX11_put_62 ⟨_, rfl, hf⟩
          · have hf := pO_neg c_10 hf
            refine E_iload dX11_put_50 rfl ?_
            refine E_iconst (v := 0) dX11_put_52 (by decide) ?_
            refine E_bipush (v := 40) dX11_put_53 (by decide) ?_
            refine E_callSI (st := []) (c_X11_isWithin l D dA ad S_9 v6 0 40 (pO_bnd hf)) mf_X11_isWithin rfl gX11_put_X11_isWithin (by omega) rfl (Nat.le_of_ble_eq_true rfl) (by rfl) dX11_put_55 (fun r11 h11 q11 => ?_)
            obtain ⟨S_11, rfl, hf⟩ := q11
            dsimp only at hf
            refine E_if_ne (tgt := 63) dX11_put_58 (by decide) (fun c_12 => ?_) (fun c_12 => ?_)
            · have hf := pO_neg c_12 hf
              refine E_aload_n dX11_put_63 rfl ?_
              refine E_getf (v := .ref 1) dX11_put_64 fl_X11_put_12 rfl rfl ?_
              refine E_getf (v := .ref 5) dX11_put_67 fl_X11_put_131 rfl rfl ?_
              refine E_astore (ls' := [(0, .ref 0), (1, .int v1), (2, .int v2), (3, .int v3), (4, .int v4), (5, .int v5), (6, .int v6), (7, .ref 5)]) dX11_put_70 (by decide) rfl ?_
              refine E_aload dX11_put_72 rfl ?_
              refine E_iload_n dX11_put_74 rfl ?_
              refine E_callVI (st := []) (c_X1_placeOf l D dA ad S_11 v1 (pO_bnd hf)) mf_X1_placeOf rfl rfl gX11_put_X1_placeOf (pRc.of (ci := 1) rfl rfl) (by omega) rfl (Nat.le_of_ble_eq_true rfl) (by rfl) dX11_put_75 (fun r13 h13 q13 => ?_)
              obtain ⟨S_13, rfl, hf⟩ := q13
              dsimp only at hf
              refine E_if_lt (tgt := 84) dX11_put_78 (by decide) (fun c_14 => ?_) (fun c_14 => ?_)
              · have hf := pO_pos c_14 hf
                refine E_aload dX11_put_84 rfl ?_
                refine E_getf (v := .int (S_13.1 4)) dX11_put_86 fl_X11_put_140 rfl rfl ?_
                refine E_bipush (v := 16) dX11_put_89 (by decide) ?_
                refine E_icmp_lt (tgt := 97) dX11_put_91 (by decide) (fun c_15 => ?_) (fun c_15 => ?_)
                · have hf := pO_pos c_15 hf
                  refine E_aload dX11_put_97 rfl ?_
                  refine E_iload_n dX11_put_99 rfl ?_
                  refine E_callVI (st := []) (c_X1_openPlace l D dA ad S_13 v1 (pO_bnd hf)) mf_X1_openPlace rfl rfl gX11_put_X1_openPlace (pRc.of (ci := 1) rfl rfl) (by omega) rfl (Nat.le_of_ble_eq_true rfl) (by rfl) dX11_put_100 (fun r16 h16 q16 => ?_)
                  obtain ⟨S_16, rfl, hf⟩ := q16
                  dsimp only at hf
                  refine E_istore (ls' := [(0, .ref 0), (1, .int v1), (2, .int v2), (3, .int v3), (4, .int v4), (5, .int v5), (6, .int v6), (7, .ref 5), (8, .int r16)]) dX11_put_103 (by decide) rfl ?_
                  refine E_aload dX11_put_105 rfl ?_
                  refine E_getf (v := .ref 7) dX11_put_107 fl_X11_put_146 rfl rfl ?_
                  refine E_iload dX11_put_110 rfl ?_
                  refine E_iload_n dX11_put_112 rfl ?_
                  obtain ⟨hi_17, hf⟩ := pO_gd hf
                  refine E_iast (n0 := 16) (f := S_16.2 3) (h' := hX (pAr S_16 3 (upd (S_16.2 3) r16.toNatClampNeg v2))) dX11_put_113 rfl (pin_in hi_17) (sX_A3 S_16 (upd (S_16.2 3) r16.toNatClampNeg v2)) ?_
                  refine E_aload dX11_put_114 rfl ?_
                  refine E_getf (v := .ref 8) dX11_put_116 fl_X11_put_149 rfl rfl ?_
                  refine E_iload dX11_put_119 rfl ?_
                  refine E_iload_n dX11_put_121 rfl ?_
                  obtain ⟨hi_18, hf⟩ := pO_gd hf
                  refine E_iast (n0 := 16) (f := S_16.2 4) (h' := hX (pAr (pAr S_16 3 (upd (S_16.2 3) r16.toNatClampNeg v2)) 4 (upd (S_16.2 4) r16.toNatClampNeg v3))) dX11_put_122 rfl (pin_in hi_18) (sX_A4 (pAr S_16 3 (upd (S_16.2 3) r16.toNatClampNeg v2)) (upd (S_16.2 4) r16.toNatClampNeg v3)) ?_
                  refine E_aload dX11_put_123 rfl ?_
                  refine E_getf (v := .ref 9) dX11_put_125 fl_X11_put_152 rfl rfl ?_
                  refine E_iload dX11_put_128 rfl ?_
                  refine E_iload dX11_put_130 rfl ?_
                  obtain ⟨hi_19, hf⟩ := pO_gd hf
                  refine E_iast (n0 := 16) (f := S_16.2 5) (h' := hX (pAr (pAr (pAr S_16 3 (upd (S_16.2 3) r16.toNatClampNeg v2)) 4 (upd (S_16.2 4) r16.toNatClampNeg v3)) 5 (upd (S_16.2 5) r16.toNatClampNeg v4))) dX11_put_132 rfl (pin_in hi_19) (sX_A5 (pAr (pAr S_16 3 (upd (S_16.2 3) r16.toNatClampNeg v2)) 4 (upd (S_16.2 4) r16.toNatClampNeg v3)) (upd (S_16.2 5) r16.toNatClampNeg v4)) ?_
                  refine E_aload dX11_put_133 rfl ?_
                  refine E_getf (v := .ref 10) dX11_put_135 fl_X11_put_155 rfl rfl ?_
                  refine E_iload dX11_put_138 rfl ?_
                  refine E_iload dX11_put_140 rfl ?_
                  obtain ⟨hi_20, hf⟩ := pO_gd hf
                  refine E_iast (n0 := 16) (f := S_16.2 6) (h' := hX (pAr (pAr (pAr (pAr S_16 3 (upd (S_16.2 3) r16.toNatClampNeg v2)) 4 (upd (S_16.2 4) r16.toNatClampNeg v3)) 5 (upd (S_16.2 5) r16.toNatClampNeg v4)) 6 (upd (S_16.2 6) r16.toNatClampNeg v5))) dX11_put_142 rfl (pin_in hi_20) (sX_A6 (pAr (pAr (pAr S_16 3 (upd (S_16.2 3) r16.toNatClampNeg v2)) 4 (upd (S_16.2 4) r16.toNatClampNeg v3)) 5 (upd (S_16.2 5) r16.toNatClampNeg v4)) (upd (S_16.2 6) r16.toNatClampNeg v5)) ?_
                  refine E_aload dX11_put_143 rfl ?_
                  refine E_getf (v := .ref 11) dX11_put_145 fl_X11_put_158 rfl rfl ?_
                  refine E_iload dX11_put_148 rfl ?_
                  refine E_iload dX11_put_150 rfl ?_
                  obtain ⟨hi_21, hf⟩ := pO_gd hf
                  refine E_iast (n0 := 16) (f := S_16.2 7) (h' := hX (pAr (pAr (pAr (pAr (pAr S_16 3 (upd (S_16.2 3) r16.toNatClampNeg v2)) 4 (upd (S_16.2 4) r16.toNatClampNeg v3)) 5 (upd (S_16.2 5) r16.toNatClampNeg v4)) 6 (upd (S_16.2 6) r16.toNatClampNeg v5)) 7 (upd (S_16.2 7) r16.toNatClampNeg v6))) dX11_put_152 rfl (pin_in hi_21) (sX_A7 (pAr (pAr (pAr (pAr S_16 3 (upd (S_16.2 3) r16.toNatClampNeg v2)) 4 (upd (S_16.2 4) r16.toNatClampNeg v3)) 5 (upd (S_16.2 5) r16.toNatClampNeg v4)) 6 (upd (S_16.2 6) r16.toNatClampNeg v5)) (upd (S_16.2 7) r16.toNatClampNeg v6)) ?_
                  refine E_aload dX11_put_153 rfl ?_
                  refine E_getf (v := .int (S_16.1 4)) dX11_put_155 fl_X11_put_140 rfl rfl ?_
                  exact E_iret rfl dX11_put_158 ⟨_, rfl, hf⟩
                · have hf := pO_neg c_15 hf
                  refine E_bipush (v := (-3)) dX11_put_94 (by decide) ?_
                  exact E_iret rfl dX11_put_96 ⟨_, rfl, hf⟩
              · have hf := pO_neg c_14 hf
                refine E_bipush (v := (-5)) dX11_put_81 (by decide) ?_
                exact E_iret rfl dX11_put_83 ⟨_, rfl, hf⟩
            · have hf := pO_pos c_12 hf
              refine E_iconst (v := (-1)) dX11_put_61 (by decide) ?_
              exact E_iret rfl dX11_put_62 ⟨_, rfl, hf⟩
      · have hf := pO_pos c_6 hf
        refine E_iconst (v := (-1)) dX11_put_25 (by decide) ?_
        exact E_iret rfl dX11_put_26 ⟨_, rfl, hf⟩
theorem hi_X11_take_11 : ∀ w ∈ u_ws RX11 TX11 10, w ∈ wsX11_take := fun w h => of_decide_eq_true (List.all_eq_true.mp (by decide +kernel : (u_ws RX11 TX11 10).all (fun w => decide (w ∈ wsX11_take)) = true) w h)
theorem fl_X11_take_12 : pFL wsX11_take RX11 12 11 0 := ⟨RX11, TX11, 10, hi_X11_take_11, rfl, by decide, by decide +kernel⟩
theorem hi_X11_take_0 : ∀ w ∈ u_ws RX0 TX0 3, w ∈ wsX11_take := fun w h => of_decide_eq_true (List.all_eq_true.mp (by decide +kernel : (u_ws RX0 TX0 3).all (fun w => decide (w ∈ wsX11_take)) = true) w h)
theorem fl_X11_take_131 : pFL wsX11_take RX11 131 0 1 := ⟨RX0, TX0, 3, hi_X11_take_0, rfl, by decide, by decide +kernel⟩
theorem hi_X0_weighsAt_0 : ∀ w ∈ u_ws RX0 TX0 3, w ∈ wsX0_weighsAt := fun w h => of_decide_eq_true (List.all_eq_true.mp (by decide +kernel : (u_ws RX0 TX0 3).all (fun w => decide (w ∈ wsX0_weighsAt)) = true) w h)
theorem fl_X0_weighsAt_21 : pFL wsX0_weighsAt RX0 21 0 1 := ⟨RX0, TX0, 3, hi_X0_weighsAt_0, rfl, by decide, by decide +kernel⟩
theorem hi_X0_weighsAt_1 : ∀ w ∈ u_ws RX1 TX1 7, w ∈ wsX0_weighsAt := fun w h => of_decide_eq_true (List.all_eq_true.mp (by decide +kernel : (u_ws RX1 TX1 7).all (fun w => decide (w ∈ wsX0_weighsAt)) = true) w h)
theorem fl_X0_weighsAt_53 : pFL wsX0_weighsAt RX0 53 1 2 := ⟨RX1, TX1, 7, hi_X0_weighsAt_1, rfl, by decide, by decide +kernel⟩
theorem fl_X0_weighsAt_57 : pFL wsX0_weighsAt RX0 57 1 3 := ⟨RX1, TX1, 7, hi_X0_weighsAt_1, rfl, by decide, by decide +kernel⟩
theorem hi_X0_woolWeighs_0 : ∀ w ∈ u_ws RX0 TX0 3, w ∈ wsX0_woolWeighs := fun w h => of_decide_eq_true (List.all_eq_true.mp (by decide +kernel : (u_ws RX0 TX0 3).all (fun w => decide (w ∈ wsX0_woolWeighs)) = true) w h)
theorem fl_X0_woolWeighs_12 : pFL wsX0_woolWeighs RX0 12 0 0 := ⟨RX0, TX0, 3, hi_X0_woolWeighs_0, rfl, by decide, by decide +kernel⟩
theorem hi_X0_woolWeighs_2 : ∀ w ∈ u_ws RX2 TX2 6, w ∈ wsX0_woolWeighs := fun w h => of_decide_eq_true (List.all_eq_true.mp (by decide +kernel : (u_ws RX2 TX2 6).all (fun w => decide (w ∈ wsX0_woolWeighs)) = true) w h)
theorem fl_X0_woolWeighs_64 : pFL wsX0_woolWeighs RX0 64 2 3 := ⟨RX2, TX2, 6, hi_X0_woolWeighs_2, rfl, by decide, by decide +kernel⟩
theorem mf_X0_woolWeighs : pMF yX0_woolWeighs wsX0_woolWeighs cX0_woolWeighs 2 (some .int) 1 := ⟨⟨_, rfl⟩, by decide +kernel, by decide, by decide +kernel, by decide +kernel, by decide +kernel⟩
def f_X0_woolWeighs (S : PS) (v1 : Int32) : Option (Int32 × PS) :=
  if (S.1 3) = (1 : Int32) then (some (v1 + (v1 / 4), S)) else (some (v1, S))
set_option maxRecDepth 100000 in
theorem c_X0_woolWeighs (l : Launch) (D : va_G) (dA : Nat → ClassId) (ad : Nat → Nat) (S : PS) (v1 : Int32) {P : (Int32 × PS) → Prop} (hf : pO (f_X0_woolWeighs S v1) P) : CtI l D dA ad yX0_woolWeighs wsX0_woolWeighs 0 [.ref 1, .int v1] (hX S) (fun r h' => ∃ S' : PS, h' = hX S' ∧ P (r, S')) := by
  refine CtI_of mf_X0_woolWeighs rfl rfl (Nat.le_of_ble_eq_true rfl) rfl (hX_len S) ?_
  unfold f_X0_woolWeighs at hf
  refine E_aload_n dX0_woolWeighs_0 rfl ?_
  refine E_getf (v := .ref 2) dX0_woolWeighs_1 fl_X0_woolWeighs_12 rfl rfl ?_
  refine E_getf (v := .int (S.1 3)) dX0_woolWeighs_4 fl_X0_woolWeighs_64 rfl rfl ?_
  refine E_iconst (v := 1) dX0_woolWeighs_7 (by decide) ?_
  refine E_icmp_ne (tgt := 19) dX0_woolWeighs_8 (by decide) (fun c_1 => ?_) (fun c_1 => ?_)
  · have hf := pO_neg c_1 hf
    refine E_iload_n dX0_woolWeighs_19 rfl ?_
    exact E_iret rfl dX0_woolWeighs_20 ⟨_, rfl, hf⟩
  · have hf := pO_pos c_1 hf
    refine E_iload_n dX0_woolWeighs_11 rfl ?_
    refine E_iload_n dX0_woolWeighs_12 rfl ?_
    refine E_iconst (v := 4) dX0_woolWeighs_13 (by decide) ?_
    refine E_idiv dX0_woolWeighs_14 (by decide) ?_
    refine E_iadd dX0_woolWeighs_15 ?_
    refine E_goto (tgt := 20) dX0_woolWeighs_16 (by decide) ?_
    exact E_iret rfl dX0_woolWeighs_20 ⟨_, rfl, hf⟩
theorem mf_X0_weighsAt : pMF yX0_weighsAt wsX0_weighsAt cX0_weighsAt 2 (some .int) 1 := ⟨⟨_, rfl⟩, by decide +kernel, by decide, by decide +kernel, by decide +kernel, by decide +kernel⟩
def f_X0_weighsAt (S : PS) (v1 : Int32) : Option (Int32 × PS) :=
  pgd (pin v1 16) (if ((S.2 3) v1.toNatClampNeg) = (2 : Int32) then (pgd (pin v1 16) (pbnd (f_X0_woolWeighs S ((S.2 4) v1.toNatClampNeg)) (fun r4 S_4 => some (r4, S_4)))) else (if ((S.2 3) v1.toNatClampNeg) = (4 : Int32) then (pgd (pin v1 16) (pbnd (f_X0_woolWeighs S ((S.2 4) v1.toNatClampNeg)) (fun r7 S_7 => some (r7 + 3, S_7)))) else (pgd (pin v1 16) (some ((S.2 4) v1.toNatClampNeg, S)))))
set_option maxRecDepth 100000 in
theorem c_X0_weighsAt (l : Launch) (D : va_G) (dA : Nat → ClassId) (ad : Nat → Nat) (S : PS) (v1 : Int32) {P : (Int32 × PS) → Prop} (hf : pO (f_X0_weighsAt S v1) P) : CtI l D dA ad yX0_weighsAt wsX0_weighsAt 1 [.ref 1, .int v1] (hX S) (fun r h' => ∃ S' : PS, h' = hX S' ∧ P (r, S')) := by
  refine CtI_of mf_X0_weighsAt rfl rfl (Nat.le_of_ble_eq_true rfl) rfl (hX_len S) ?_
  unfold f_X0_weighsAt at hf
  refine E_aload_n dX0_weighsAt_0 rfl ?_
  refine E_getf (v := .ref 5) dX0_weighsAt_1 fl_X0_weighsAt_21 rfl rfl ?_
  refine E_getf (v := .ref 7) dX0_weighsAt_4 fl_X0_weighsAt_53 rfl rfl ?_
  refine E_iload_n dX0_weighsAt_7 rfl ?_
  obtain ⟨hi_1, hf⟩ := pO_gd hf
  refine E_iald (n0 := 16) (f := S.2 3) dX0_weighsAt_8 rfl (pin_in hi_1) ?_
  by_cases k_2 : ((S.2 3) v1.toNatClampNeg) = (2 : Int32)
  · have hf := pO_pos k_2 hf
    refine E_lookup (off := 27) (tgt := 36) dX0_weighsAt_9 (by decide) (by rw [k_2]; rfl) (by decide) ?_
    refine E_aload_n dX0_weighsAt_36 rfl ?_
    refine E_aload_n dX0_weighsAt_37 rfl ?_
    refine E_getf (v := .ref 5) dX0_weighsAt_38 fl_X0_weighsAt_21 rfl rfl ?_
    refine E_getf (v := .ref 8) dX0_weighsAt_41 fl_X0_weighsAt_57 rfl rfl ?_
    refine E_iload_n dX0_weighsAt_44 rfl ?_
    obtain ⟨hi_3, hf⟩ := pO_gd hf
    refine E_iald (n0 := 16) (f := S.2 4) dX0_weighsAt_45 rfl (pin_in hi_3) ?_
    refine E_callVI (st := []) (c_X0_woolWeighs l D dA ad S ((S.2 4) v1.toNatClampNeg) (pO_bnd hf)) mf_X0_woolWeighs rfl rfl gX0_weighsAt_X0_woolWeighs (pRc.of (ci := 0) rfl rfl) (by omega) rfl (Nat.le_of_ble_eq_true rfl) (by rfl) dX0_weighsAt_46 (fun r4 h4 q4 => ?_)
    obtain ⟨S_4, rfl, hf⟩ := q4
    dsimp only at hf
    exact E_iret rfl dX0_weighsAt_49 ⟨_, rfl, hf⟩
  · have hf := pO_neg k_2 hf
    by_cases k_5 : ((S.2 3) v1.toNatClampNeg) = (4 : Int32)
    · have hf := pO_pos k_5 hf
      refine E_lookup (off := 41) (tgt := 50) dX0_weighsAt_9 (by decide) (by rw [k_5]; rfl) (by decide) ?_
      refine E_aload_n dX0_weighsAt_50 rfl ?_
      refine E_aload_n dX0_weighsAt_51 rfl ?_
      refine E_getf (v := .ref 5) dX0_weighsAt_52 fl_X0_weighsAt_21 rfl rfl ?_
      refine E_getf (v := .ref 8) dX0_weighsAt_55 fl_X0_weighsAt_57 rfl rfl ?_
      refine E_iload_n dX0_weighsAt_58 rfl ?_
      obtain ⟨hi_6, hf⟩ := pO_gd hf
      refine E_iald (n0 := 16) (f := S.2 4) dX0_weighsAt_59 rfl (pin_in hi_6) ?_
      refine E_callVI (st := []) (c_X0_woolWeighs l D dA ad S ((S.2 4) v1.toNatClampNeg) (pO_bnd hf)) mf_X0_woolWeighs rfl rfl gX0_weighsAt_X0_woolWeighs (pRc.of (ci := 0) rfl rfl) (by omega) rfl (Nat.le_of_ble_eq_true rfl) (by rfl) dX0_weighsAt_60 (fun r7 h7 q7 => ?_)
      obtain ⟨S_7, rfl, hf⟩ := q7
      dsimp only at hf
      refine E_iconst (v := 3) dX0_weighsAt_63 (by decide) ?_
      refine E_iadd dX0_weighsAt_64 ?_
      exact E_iret rfl dX0_weighsAt_65 ⟨_, rfl, hf⟩
    · have hf := pO_neg k_5 hf
      refine E_lookup (off := 57) (tgt := 66) dX0_weighsAt_9 (by decide) (plook_d (fun q hq => by have z0 := pti k_2 (by decide : (2 : Int32).toInt = 2); have z1 := pti k_5 (by decide : (4 : Int32).toInt = 4); simp at hq; rcases hq with rfl | rfl <;> assumption)) (by decide) ?_
      refine E_aload_n dX0_weighsAt_66 rfl ?_
      refine E_getf (v := .ref 5) dX0_weighsAt_67 fl_X0_weighsAt_21 rfl rfl ?_
      refine E_getf (v := .ref 8) dX0_weighsAt_70 fl_X0_weighsAt_57 rfl rfl ?_
      refine E_iload_n dX0_weighsAt_73 rfl ?_
      obtain ⟨hi_8, hf⟩ := pO_gd hf
      refine E_iald (n0 := 16) (f := S.2 4) dX0_weighsAt_74 rfl (pin_in hi_8) ?_
      exact E_iret rfl dX0_weighsAt_75 ⟨_, rfl, hf⟩
theorem hi_X1_closePlace_1 : ∀ w ∈ u_ws RX1 TX1 7, w ∈ wsX1_closePlace := fun w h => of_decide_eq_true (List.all_eq_true.mp (by decide +kernel : (u_ws RX1 TX1 7).all (fun w => decide (w ∈ wsX1_closePlace)) = true) w h)
theorem fl_X1_closePlace_9 : pFL wsX1_closePlace RX1 9 1 0 := ⟨RX1, TX1, 7, hi_X1_closePlace_1, rfl, by decide, by decide +kernel⟩
theorem mf_X1_closePlace : pMF yX1_closePlace wsX1_closePlace cX1_closePlace 2 none 1 := ⟨⟨_, rfl⟩, by decide +kernel, by decide, by decide +kernel, by decide +kernel, by decide +kernel⟩
def f_X1_closePlace (S : PS) (v1 : Int32) : Option (Int32 × PS) :=
  pbnd (f_X1_copyPlaces_5_5 S (v1 + 1) v1 (((S.1 4) - v1) - 1)) (fun _ S_1 => some (0, (pI S_1 4 ((S_1.1 4) - 1))))
set_option maxRecDepth 100000 in
theorem c_X1_closePlace (l : Launch) (D : va_G) (dA : Nat → ClassId) (ad : Nat → Nat) (S : PS) (v1 : Int32) {P : (Int32 × PS) → Prop} (hf : pO (f_X1_closePlace S v1) P) : CtV l D dA ad yX1_closePlace wsX1_closePlace 2 [.ref 5, .int v1] (hX S) (fun h' => ∃ (r0 : Int32) (S' : PS), h' = hX S' ∧ P (r0, S')) := by
  refine CtV_of mf_X1_closePlace rfl rfl (Nat.le_of_ble_eq_true rfl) rfl (hX_len S) ?_
  unfold f_X1_closePlace at hf
  refine E_aload_n dX1_closePlace_0 rfl ?_
  refine E_aload_n dX1_closePlace_1 rfl ?_
  refine E_iload_n dX1_closePlace_2 rfl ?_
  refine E_iconst (v := 1) dX1_closePlace_3 (by decide) ?_
  refine E_iadd dX1_closePlace_4 ?_
  refine E_iload_n dX1_closePlace_5 rfl ?_
  refine E_aload_n dX1_closePlace_6 rfl ?_
  refine E_getf (v := .int (S.1 4)) dX1_closePlace_7 fl_X1_closePlace_9 rfl rfl ?_
  refine E_iload_n dX1_closePlace_10 rfl ?_
  refine E_isub dX1_closePlace_11 ?_
  refine E_iconst (v := 1) dX1_closePlace_12 (by decide) ?_
  refine E_isub dX1_closePlace_13 ?_
  refine E_callVV (st := []) (c_X1_copyPlaces_5_5 l D dA ad S (v1 + 1) v1 (((S.1 4) - v1) - 1) (pO_bnd hf)) mf_X1_copyPlaces rfl rfl gX1_closePlace_X1_copyPlaces (pRc.of (ci := 1) rfl rfl) (by omega) rfl (Nat.le_of_ble_eq_true rfl) (by rfl) dX1_closePlace_14 (fun h1 q1 => ?_)
  obtain ⟨r1, S_1, rfl, hf⟩ := q1
  dsimp only at hf
  refine E_aload_n dX1_closePlace_17 rfl ?_
  refine E_dup dX1_closePlace_18 rfl ?_
  refine E_getf (v := .int (S_1.1 4)) dX1_closePlace_19 fl_X1_closePlace_9 rfl rfl ?_
  refine E_iconst (v := 1) dX1_closePlace_22 (by decide) ?_
  refine E_isub dX1_closePlace_23 ?_
  refine E_putf (h' := hX (pI S_1 4 ((S_1.1 4) - 1))) dX1_closePlace_24 fl_X1_closePlace_9 ft_1_0 rfl (Nat.lt_of_lt_of_eq (by decide : 0 < 7) rfl) rfl rfl ⟨_, rfl⟩ (sX_I4 S_1 ((S_1.1 4) - 1)) ?_
  exact E_vret rfl dX1_closePlace_27 ⟨0, _, rfl, hf⟩
theorem mf_X11_take : pMF yX11_take wsX11_take cX11_take 4 (some .int) 1 := ⟨⟨_, rfl⟩, by decide +kernel, by decide, by decide +kernel, by decide +kernel, by decide +kernel⟩
def f_X11_take (S : PS) (v1 : Int32) : Option (Int32 × PS) :=
  pbnd (f_X11_isName S v1) (fun r1 S_1 => if r1 = (0 : Int32) then (some ((-1), S_1)) else (pbnd (f_X1_placeOf S_1 v1) (fun r3 S_3 => if (0 : Int32) ≤ r3 then (pbnd (f_X0_weighsAt S_3 r3) (fun r5 S_5 => pbnd (f_X1_closePlace S_5 r3) (fun _ S_6 => some (r5, S_6)))) else (some ((-2), S_3)))))
set_option maxRecDepth 100000 in
theorem c_X11_take (l : Launch) (D : va_G) (dA : Nat → ClassId) (ad : Nat → Nat) (S : PS) (v1 : Int32) {P : (Int32 × PS) → Prop} (hf : pO (f_X11_take S v1) P) : CtI l D dA ad yX11_take wsX11_take 3 [.ref 0, .int v1] (hX S) (fun r h' => ∃ S' : PS, h' = hX S' ∧ P (r, S')) := by
  refine CtI_of mf_X11_take rfl rfl (Nat.le_of_ble_eq_true rfl) rfl (hX_len S) ?_
  unfold f_X11_take at hf
  refine E_iload_n dX11_take_0 rfl ?_
  refine E_callSI (st := []) (c_X11_isName l D dA ad S v1 (pO_bnd hf)) mf_X11_isName rfl gX11_take_X11_isName (by omega) rfl (Nat.le_of_ble_eq_true rfl) (by rfl) dX11_take_1 (fun r1 h1 q1 => ?_)
  obtain ⟨S_1, rfl, hf⟩ := q1
  dsimp only at hf
  refine E_if_ne (tgt := 9) dX11_take_4 (by decide) (fun c_2 => ?_) (fun c_2 => ?_)
  · have hf := pO_neg c_2 hf
    refine E_aload_n dX11_take_9 rfl ?_
    refine E_getf (v := .ref 1) dX11_take_10 fl_X11_take_12 rfl rfl ?_
    refine E_getf (v := .ref 5) dX11_take_13 fl_X11_take_131 rfl rfl ?_
    refine E_iload_n dX11_take_16 rfl ?_
    refine E_callVI (st := []) (c_X1_placeOf l D dA ad S_1 v1 (pO_bnd hf)) mf_X1_placeOf rfl rfl gX11_take_X1_placeOf (pRc.of (ci := 1) rfl rfl) (by omega) rfl (Nat.le_of_ble_eq_true rfl) (by rfl) dX11_take_17 (fun r3 h3 q3 => ?_)
    obtain ⟨S_3, rfl, hf⟩ := q3
    dsimp only at hf
    refine E_istore_n (ls' := [(0, .ref 0), (1, .int v1), (2, .int r3)]) dX11_take_20 (by decide) rfl ?_
    refine E_iload_n dX11_take_21 rfl ?_
    refine E_if_ge (tgt := 28) dX11_take_22 (by decide) (fun c_4 => ?_) (fun c_4 => ?_)
    · have hf := pO_pos c_4 hf
      refine E_aload_n dX11_take_28 rfl ?_
      refine E_getf (v := .ref 1) dX11_take_29 fl_X11_take_12 rfl rfl ?_
      refine E_iload_n dX11_take_32 rfl ?_
      refine E_callVI (st := []) (c_X0_weighsAt l D dA ad S_3 r3 (pO_bnd hf)) mf_X0_weighsAt rfl rfl gX11_take_X0_weighsAt (pRc.of (ci := 0) rfl rfl) (by omega) rfl (Nat.le_of_ble_eq_true rfl) (by rfl) dX11_take_33 (fun r5 h5 q5 => ?_)
      obtain ⟨S_5, rfl, hf⟩ := q5
      dsimp only at hf
      refine E_istore_n (ls' := [(0, .ref 0), (1, .int v1), (2, .int r3), (3, .int r5)]) dX11_take_36 (by decide) rfl ?_
      refine E_aload_n dX11_take_37 rfl ?_
      refine E_getf (v := .ref 1) dX11_take_38 fl_X11_take_12 rfl rfl ?_
      refine E_getf (v := .ref 5) dX11_take_41 fl_X11_take_131 rfl rfl ?_
      refine E_iload_n dX11_take_44 rfl ?_
      refine E_callVV (st := []) (c_X1_closePlace l D dA ad S_5 r3 (pO_bnd hf)) mf_X1_closePlace rfl rfl gX11_take_X1_closePlace (pRc.of (ci := 1) rfl rfl) (by omega) rfl (Nat.le_of_ble_eq_true rfl) (by rfl) dX11_take_45 (fun h6 q6 => ?_)
      obtain ⟨r6, S_6, rfl, hf⟩ := q6
      dsimp only at hf
      refine E_iload_n dX11_take_48 rfl ?_
      exact E_iret rfl dX11_take_49 ⟨_, rfl, hf⟩
    · have hf := pO_neg c_4 hf
      refine E_bipush (v := (-2)) dX11_take_25 (by decide) ?_
      exact E_iret rfl dX11_take_27 ⟨_, rfl, hf⟩
  · have hf := pO_pos c_2 hf
    refine E_iconst (v := (-1)) dX11_take_7 (by decide) ?_
    exact E_iret rfl dX11_take_8 ⟨_, rfl, hf⟩
theorem hi_X11_move_11 : ∀ w ∈ u_ws RX11 TX11 10, w ∈ wsX11_move := fun w h => of_decide_eq_true (List.all_eq_true.mp (by decide +kernel : (u_ws RX11 TX11 10).all (fun w => decide (w ∈ wsX11_move)) = true) w h)
theorem fl_X11_move_12 : pFL wsX11_move RX11 12 11 0 := ⟨RX11, TX11, 10, hi_X11_move_11, rfl, by decide, by decide +kernel⟩
theorem hi_X11_move_0 : ∀ w ∈ u_ws RX0 TX0 3, w ∈ wsX11_move := fun w h => of_decide_eq_true (List.all_eq_true.mp (by decide +kernel : (u_ws RX0 TX0 3).all (fun w => decide (w ∈ wsX11_move)) = true) w h)
theorem fl_X11_move_82 : pFL wsX11_move RX11 82 0 0 := ⟨RX0, TX0, 3, hi_X11_move_0, rfl, by decide, by decide +kernel⟩
theorem fl_X11_move_131 : pFL wsX11_move RX11 131 0 1 := ⟨RX0, TX0, 3, hi_X11_move_0, rfl, by decide, by decide +kernel⟩
theorem hi_X11_move_1 : ∀ w ∈ u_ws RX1 TX1 7, w ∈ wsX11_move := fun w h => of_decide_eq_true (List.all_eq_true.mp (by decide +kernel : (u_ws RX1 TX1 7).all (fun w => decide (w ∈ wsX11_move)) = true) w h)
theorem fl_X11_move_152 : pFL wsX11_move RX11 152 1 4 := ⟨RX1, TX1, 7, hi_X11_move_1, rfl, by decide, by decide +kernel⟩
theorem fl_X11_move_155 : pFL wsX11_move RX11 155 1 5 := ⟨RX1, TX1, 7, hi_X11_move_1, rfl, by decide, by decide +kernel⟩
theorem mf_X11_move : pMF yX11_move wsX11_move cX11_move 6 (some .int) 3 := ⟨⟨_, rfl⟩, by decide +kernel, by decide, by decide +kernel, by decide +kernel, by decide +kernel⟩
def f_X11_move (S : PS) (v1 : Int32) (v2 : Int32) (v3 : Int32) : Option (Int32 × PS) :=
  pbnd (f_X11_isName S v1) (fun r1 S_1 => if r1 = (0 : Int32) then (some ((-1), S_1)) else (pbnd (f_X2_hasSection S_1 v2) (fun r3 S_3 => if r3 = (0 : Int32) then (some ((-1), S_3)) else (pbnd (f_X11_isSide S_3 v3) (fun r5 S_5 => if r5 = (0 : Int32) then (some ((-1), S_5)) else (pbnd (f_X1_placeOf S_5 v1) (fun r7 S_7 => if (0 : Int32) ≤ r7 then (pgd (pin r7 16) (pgd (pin r7 16) (pgd (pin r7 16) (some ((S_7.2 5) r7.toNatClampNeg, (pAr (pAr S_7 5 (upd (S_7.2 5) r7.toNatClampNeg v2)) 6 (upd (S_7.2 6) r7.toNatClampNeg v3))))))) else (some ((-2), S_7)))))))))
set_option maxRecDepth 100000 in
theorem c_X11_move (l : Launch) (D : va_G) (dA : Nat → ClassId) (ad : Nat → Nat) (S : PS) (v1 : Int32) (v2 : Int32) (v3 : Int32) {P : (Int32 × PS) → Prop} (hf : pO (f_X11_move S v1 v2 v3) P) : CtI l D dA ad yX11_move wsX11_move 2 [.ref 0, .int v1, .int v2, .int v3] (hX S) (fun r h' => ∃ S' : PS, h' = hX S' ∧ P (r, S')) := by
  refine CtI_of mf_X11_move rfl rfl (Nat.le_of_ble_eq_true rfl) rfl (hX_len S) ?_
  unfold f_X11_move at hf
  refine E_iload_n dX11_move_0 rfl ?_
  refine E_callSI (st := []) (c_X11_isName l D dA ad S v1 (pO_bnd hf)) mf_X11_isName rfl gX11_move_X11_isName (by omega) rfl (Nat.le_of_ble_eq_true rfl) (by rfl) dX11_move_1 (fun r1 h1 q1 => ?_)
  obtain ⟨S_1, rfl, hf⟩ := q1
  dsimp only at hf
  refine E_if_eq (tgt := 28) dX11_move_4 (by decide) (fun c_2 => ?_) (fun c_2 => ?_)
  · have hf := pO_pos c_2 hf
    refine E_iconst (v := (-1)) dX11_move_28 (by decide) ?_
    exact E_iret rfl dX11_move_29 ⟨_, rfl, hf⟩
  · have hf := pO_neg c_2 hf
    refine E_aload_n dX11_move_7 rfl ?_
    refine E_getf (v := .ref 1) dX11_move_8 fl_X11_move_12 rfl rfl ?_
    refine E_getf (v := .ref 2) dX11_move_11 fl_X11_move_82 rfl rfl ?_
    refine E_iload_n dX11_move_14 rfl ?_
    refine E_callVI (st := []) (c_X2_hasSection l D dA ad S_1 v2 (pO_bnd hf)) mf_X2_hasSection rfl rfl gX11_move_X2_hasSection (pRc.of (ci := 2) rfl rfl) (by omega) rfl (Nat.le_of_ble_eq_true rfl) (by rfl) dX11_move_15 (fun r3 h3 q3 => ?_)
    obtain ⟨S_3, rfl, hf⟩ := q3
    dsimp only at hf
    refine E_if_eq (tgt := 28) dX11_move_18 (by decide) (fun c_4 => ?_) (fun c_4 => ?_)
    · have hf := pO_pos c_4 hf
      refine E_iconst (v := (-1)) dX11_move_28 (by decide) ?_
      exact E_iret rfl dX11_move_29 ⟨_, rfl, hf⟩
    · have hf := pO_neg c_4 hf
      refine E_iload_n dX11_move_21 rfl ?_
      refine E_callSI (st := []) (c_X11_isSide l D dA ad S_3 v3 (pO_bnd hf)) mf_X11_isSide rfl gX11_move_X11_isSide (by omega) rfl (Nat.le_of_ble_eq_true rfl) (by rfl) dX11_move_22 (fun r5 h5 q5 => ?_)
      obtain ⟨S_5, rfl, hf⟩ := q5
      dsimp only at hf
      refine E_if_ne (tgt := 30) dX11_move_25 (by decide) (fun c_6 => ?_) (fun c_6 => ?_)
      · have hf := pO_neg c_6 hf
        refine E_aload_n dX11_move_30 rfl ?_
        refine E_getf (v := .ref 1) dX11_move_31 fl_X11_move_12 rfl rfl ?_
        refine E_getf (v := .ref 5) dX11_move_34 fl_X11_move_131 rfl rfl ?_
        refine E_iload_n dX11_move_37 rfl ?_
        refine E_callVI (st := []) (c_X1_placeOf l D dA ad S_5 v1 (pO_bnd hf)) mf_X1_placeOf rfl rfl gX11_move_X1_placeOf (pRc.of (ci := 1) rfl rfl) (by omega) rfl (Nat.le_of_ble_eq_true rfl) (by rfl) dX11_move_38 (fun r7 h7 q7 => ?_)
        obtain ⟨S_7, rfl, hf⟩ := q7
        dsimp only at hf
        refine E_istore (ls' := [(0, .ref 0), (1, .int v1), (2, .int v2), (3, .int v3), (4, .int r7)]) dX11_move_41 (by decide) rfl ?_
        refine E_iload dX11_move_43 rfl ?_
        refine E_if_ge (tgt := 51) dX11_move_45 (by decide) (fun c_8 => ?_) (fun c_8 => ?_)
        · have hf := pO_pos c_8 hf
          refine E_aload_n dX11_move_51 rfl ?_
          refine E_getf (v := .ref 1) dX11_move_52 fl_X11_move_12 rfl rfl ?_
          refine E_getf (v := .ref 5) dX11_move_55 fl_X11_move_131 rfl rfl ?_
          refine E_getf (v := .ref 9) dX11_move_58 fl_X11_move_152 rfl rfl ?_
          refine E_iload dX11_move_61 rfl ?_
          obtain ⟨hi_9, hf⟩ := pO_gd hf
          refine E_iald (n0 := 16) (f := S_7.2 5) dX11_move_63 rfl (pin_in hi_9) ?_
          refine E_istore (ls' := [(0, .ref 0), (1, .int v1), (2, .int v2), (3, .int v3), (4, .int r7), (5, .int ((S_7.2 5) r7.toNatClampNeg))]) dX11_move_64 (by decide) rfl ?_
          refine E_aload_n dX11_move_66 rfl ?_
          refine E_getf (v := .ref 1) dX11_move_67 fl_X11_move_12 rfl rfl ?_
          refine E_getf (v := .ref 5) dX11_move_70 fl_X11_move_131 rfl rfl ?_
          refine E_getf (v := .ref 9) dX11_move_73 fl_X11_move_152 rfl rfl ?_
          refine E_iload dX11_move_76 rfl ?_
          refine E_iload_n dX11_move_78 rfl ?_
          obtain ⟨hi_10, hf⟩ := pO_gd hf
          refine E_iast (n0 := 16) (f := S_7.2 5) (h' := hX (pAr S_7 5 (upd (S_7.2 5) r7.toNatClampNeg v2))) dX11_move_79 rfl (pin_in hi_10) (sX_A5 S_7 (upd (S_7.2 5) r7.toNatClampNeg v2)) ?_
          refine E_aload_n dX11_move_80 rfl ?_
          refine E_getf (v := .ref 1) dX11_move_81 fl_X11_move_12 rfl rfl ?_
          refine E_getf (v := .ref 5) dX11_move_84 fl_X11_move_131 rfl rfl ?_
          refine E_getf (v := .ref 10) dX11_move_87 fl_X11_move_155 rfl rfl ?_
          refine E_iload dX11_move_90 rfl ?_
          refine E_iload_n dX11_move_92 rfl ?_
          obtain ⟨hi_11, hf⟩ := pO_gd hf
          refine E_iast (n0 := 16) (f := S_7.2 6) (h' := hX (pAr (pAr S_7 5 (upd (S_7.2 5) r7.toNatClampNeg v2)) 6 (upd (S_7.2 6) r7.toNatClampNeg v3))) dX11_move_93 rfl (pin_in hi_11) (sX_A6 (pAr S_7 5 (upd (S_7.2 5) r7.toNatClampNeg v2)) (upd (S_7.2 6) r7.toNatClampNeg v3)) ?_
          refine E_iload dX11_move_94 rfl ?_
          exact E_iret rfl dX11_move_96 ⟨_, rfl, hf⟩
        · have hf := pO_neg c_8 hf
          refine E_bipush (v := (-2)) dX11_move_48 (by decide) ?_
          exact E_iret rfl dX11_move_50 ⟨_, rfl, hf⟩
      · have hf := pO_pos c_6 hf
        refine E_iconst (v := (-1)) dX11_move_28 (by decide) ?_
        exact E_iret rfl dX11_move_29 ⟨_, rfl, hf⟩
theorem hi_X11_goods_11 : ∀ w ∈ u_ws RX11 TX11 10, w ∈ wsX11_goods := fun w h => of_decide_eq_true (List.all_eq_true.mp (by decide +kernel : (u_ws RX11 TX11 10).all (fun w => decide (w ∈ wsX11_goods)) = true) w h)
theorem fl_X11_goods_12 : pFL wsX11_goods RX11 12 11 0 := ⟨RX11, TX11, 10, hi_X11_goods_11, rfl, by decide, by decide +kernel⟩
theorem hi_X11_goods_0 : ∀ w ∈ u_ws RX0 TX0 3, w ∈ wsX11_goods := fun w h => of_decide_eq_true (List.all_eq_true.mp (by decide +kernel : (u_ws RX0 TX0 3).all (fun w => decide (w ∈ wsX11_goods)) = true) w h)
theorem fl_X11_goods_131 : pFL wsX11_goods RX11 131 0 1 := ⟨RX0, TX0, 3, hi_X11_goods_0, rfl, by decide, by decide +kernel⟩
theorem hi_X11_goods_1 : ∀ w ∈ u_ws RX1 TX1 7, w ∈ wsX11_goods := fun w h => of_decide_eq_true (List.all_eq_true.mp (by decide +kernel : (u_ws RX1 TX1 7).all (fun w => decide (w ∈ wsX11_goods)) = true) w h)
theorem fl_X11_goods_146 : pFL wsX11_goods RX11 146 1 2 := ⟨RX1, TX1, 7, hi_X11_goods_1, rfl, by decide, by decide +kernel⟩
theorem fl_X11_goods_149 : pFL wsX11_goods RX11 149 1 3 := ⟨RX1, TX1, 7, hi_X11_goods_1, rfl, by decide, by decide +kernel⟩
theorem fl_X11_goods_152 : pFL wsX11_goods RX11 152 1 4 := ⟨RX1, TX1, 7, hi_X11_goods_1, rfl, by decide, by decide +kernel⟩
theorem fl_X11_goods_155 : pFL wsX11_goods RX11 155 1 5 := ⟨RX1, TX1, 7, hi_X11_goods_1, rfl, by decide, by decide +kernel⟩
theorem fl_X11_goods_158 : pFL wsX11_goods RX11 158 1 6 := ⟨RX1, TX1, 7, hi_X11_goods_1, rfl, by decide, by decide +kernel⟩
theorem hi_X0_allRighting_0 : ∀ w ∈ u_ws RX0 TX0 3, w ∈ wsX0_allRighting := fun w h => of_decide_eq_true (List.all_eq_true.mp (by decide +kernel : (u_ws RX0 TX0 3).all (fun w => decide (w ∈ wsX0_allRighting)) = true) w h)
theorem fl_X0_allRighting_12 : pFL wsX0_allRighting RX0 12 0 0 := ⟨RX0, TX0, 3, hi_X0_allRighting_0, rfl, by decide, by decide +kernel⟩
theorem hi_X0_allWeight_0 : ∀ w ∈ u_ws RX0 TX0 3, w ∈ wsX0_allWeight := fun w h => of_decide_eq_true (List.all_eq_true.mp (by decide +kernel : (u_ws RX0 TX0 3).all (fun w => decide (w ∈ wsX0_allWeight)) = true) w h)
theorem fl_X0_allWeight_12 : pFL wsX0_allWeight RX0 12 0 0 := ⟨RX0, TX0, 3, hi_X0_allWeight_0, rfl, by decide, by decide +kernel⟩
theorem hi_X0_allWeight_2 : ∀ w ∈ u_ws RX2 TX2 6, w ∈ wsX0_allWeight := fun w h => of_decide_eq_true (List.all_eq_true.mp (by decide +kernel : (u_ws RX2 TX2 6).all (fun w => decide (w ∈ wsX0_allWeight)) = true) w h)
theorem fl_X0_allWeight_67 : pFL wsX0_allWeight RX0 67 2 2 := ⟨RX2, TX2, 6, hi_X0_allWeight_2, rfl, by decide, by decide +kernel⟩
theorem fl_X0_allWeight_21 : pFL wsX0_allWeight RX0 21 0 1 := ⟨RX0, TX0, 3, hi_X0_allWeight_0, rfl, by decide, by decide +kernel⟩
theorem hi_X0_allWeight_1 : ∀ w ∈ u_ws RX1 TX1 7, w ∈ wsX0_allWeight := fun w h => of_decide_eq_true (List.all_eq_true.mp (by decide +kernel : (u_ws RX1 TX1 7).all (fun w => decide (w ∈ wsX0_allWeight)) = true) w h)
theorem fl_X0_allWeight_36 : pFL wsX0_allWeight RX0 36 1 0 := ⟨RX1, TX1, 7, hi_X0_allWeight_1, rfl, by decide, by decide +kernel⟩
def g_X0_allWeight_10 : Nat → PS → Int32 → Int32 → Option ((Int32 × PS) ⊕ (PS × Int32))
  | 0, _, _, _ => none
  | fuel + 1, S, v1, v2 =>
    if (S.1 4) ≤ v2 then (some (.inr (S, v1))) else (pbnd (f_X0_weighsAt S v2) (fun r2 S_2 => g_X0_allWeight_10 fuel S_2 (v1 + r2) (v2 + 1)))
set_option maxRecDepth 100000 in
theorem l_X0_allWeight_10 (l : Launch) (D : va_G) (dA : Nat → ClassId) (ad : Nat → Nat) (d : Nat) (hd : 2 ≤ d) {Q : Int32 → List PC → Prop} : ∀ (fuel : Nat) (S : PS) (v1 : Int32) (v2 : Int32), pO (g_X0_allWeight_10 fuel S v1 v2) (fun y => match y with
    | .inl x => Q x.1 (hX x.2)
    | .inr w => Ev l D dA ad wsX0_allWeight cX0_allWeight RX0 3 (some .int) d 52 (pKi D dA ad 52 Q) 35 [(0, .ref 1), (1, .int w.2)] [] (hX w.1)) → Ev l D dA ad wsX0_allWeight cX0_allWeight RX0 3 (some .int) d 52 (pKi D dA ad 52 Q) 10 [(0, .ref 1), (1, .int v1), (2, .int v2)] [] (hX S) := by
  intro fuel
  induction fuel with
  | zero =>
    intro S v1 v2 hf
    exact hf.elim
  | succ fuel ih =>
    intro S v1 v2 hf
    rw [g_X0_allWeight_10] at hf
    refine E_iload_n dX0_allWeight_10 rfl ?_
    refine E_aload_n dX0_allWeight_11 rfl ?_
    refine E_getf (v := .ref 5) dX0_allWeight_12 fl_X0_allWeight_21 rfl rfl ?_
    refine E_getf (v := .int (S.1 4)) dX0_allWeight_15 fl_X0_allWeight_36 rfl rfl ?_
    refine E_icmp_ge (tgt := 35) dX0_allWeight_18 (by decide) (fun c_1 => ?_) (fun c_1 => ?_)
    · have hf := pO_pos c_1 hf
      exact E_sub (ls' := [(0, .ref 1), (1, .int v1)]) ⟨rfl, rfl, trivial⟩ hf
    · have hf := pO_neg c_1 hf
      refine E_iload_n dX0_allWeight_21 rfl ?_
      refine E_aload_n dX0_allWeight_22 rfl ?_
      refine E_iload_n dX0_allWeight_23 rfl ?_
      refine E_callVI (st := [.int v1]) (c_X0_weighsAt l D dA ad S v2 (pO_bnd hf)) mf_X0_weighsAt rfl rfl gX0_allWeight_X0_weighsAt (pRc.of (ci := 0) rfl rfl) (by omega) rfl (Nat.le_of_ble_eq_true rfl) (by rfl) dX0_allWeight_24 (fun r2 h2 q2 => ?_)
      obtain ⟨S_2, rfl, hf⟩ := q2
      dsimp only at hf
      refine E_iadd dX0_allWeight_27 ?_
      refine E_istore_n (ls' := [(0, .ref 1), (1, .int (v1 + r2)), (2, .int v2)]) dX0_allWeight_28 (by decide) rfl ?_
      refine E_iinc (v := v2 + 1) (ls' := [(0, .ref 1), (1, .int (v1 + r2)), (2, .int (v2 + 1))]) dX0_allWeight_29 rfl rfl (by decide) rfl ?_
      refine E_goto (tgt := 10) dX0_allWeight_32 (by decide) ?_
      exact E_sub (ls' := [(0, .ref 1), (1, .int (v1 + r2)), (2, .int (v2 + 1))]) ⟨rfl, rfl, rfl, trivial⟩ (ih S_2 (v1 + r2) (v2 + 1) hf)
theorem fl_X0_allWeight_28 : pFL wsX0_allWeight RX0 28 0 2 := ⟨RX0, TX0, 3, hi_X0_allWeight_0, rfl, by decide, by decide +kernel⟩
theorem hi_X0_allWeight_8 : ∀ w ∈ u_ws RX8 TX8 4, w ∈ wsX0_allWeight := fun w h => of_decide_eq_true (List.all_eq_true.mp (by decide +kernel : (u_ws RX8 TX8 4).all (fun w => decide (w ∈ wsX0_allWeight)) = true) w h)
theorem fl_X0_allWeight_73 : pFL wsX0_allWeight RX0 73 8 3 := ⟨RX8, TX8, 4, hi_X0_allWeight_8, rfl, by decide, by decide +kernel⟩
def g_X0_allWeight_37 : Nat → PS → Int32 → Int32 → Option ((Int32 × PS) ⊕ (PS × Int32))
  | 0, _, _, _ => none
  | fuel + 1, S, v1, v2 =>
    if (4 : Int32) ≤ v2 then (some (.inr (S, v1))) else (pgd (pin v2 4) (g_X0_allWeight_37 fuel S (v1 + ((S.2 11) v2.toNatClampNeg)) (v2 + 1)))
set_option maxRecDepth 100000 in
theorem l_X0_allWeight_37 (l : Launch) (D : va_G) (dA : Nat → ClassId) (ad : Nat → Nat) (d : Nat) (hd : 2 ≤ d) {Q : Int32 → List PC → Prop} : ∀ (fuel : Nat) (S : PS) (v1 : Int32) (v2 : Int32), pO (g_X0_allWeight_37 fuel S v1 v2) (fun y => match y with
    | .inl x => Q x.1 (hX x.2)
    | .inr w => Ev l D dA ad wsX0_allWeight cX0_allWeight RX0 3 (some .int) d 52 (pKi D dA ad 52 Q) 60 [(1, .int w.2)] [] (hX w.1)) → Ev l D dA ad wsX0_allWeight cX0_allWeight RX0 3 (some .int) d 52 (pKi D dA ad 52 Q) 37 [(0, .ref 1), (1, .int v1), (2, .int v2)] [] (hX S) := by
  intro fuel
  induction fuel with
  | zero =>
    intro S v1 v2 hf
    exact hf.elim
  | succ fuel ih =>
    intro S v1 v2 hf
    rw [g_X0_allWeight_37] at hf
    refine E_iload_n dX0_allWeight_37 rfl ?_
    refine E_iconst (v := 4) dX0_allWeight_38 (by decide) ?_
    refine E_icmp_ge (tgt := 60) dX0_allWeight_39 (by decide) (fun c_4 => ?_) (fun c_4 => ?_)
    · have hf := pO_pos c_4 hf
      exact E_sub (ls' := [(1, .int v1)]) ⟨rfl, trivial⟩ hf
    · have hf := pO_neg c_4 hf
      refine E_iload_n dX0_allWeight_42 rfl ?_
      refine E_aload_n dX0_allWeight_43 rfl ?_
      refine E_getf (v := .ref 12) dX0_allWeight_44 fl_X0_allWeight_28 rfl rfl ?_
      refine E_getf (v := .ref 16) dX0_allWeight_47 fl_X0_allWeight_73 rfl rfl ?_
      refine E_iload_n dX0_allWeight_50 rfl ?_
      obtain ⟨hi_5, hf⟩ := pO_gd hf
      refine E_iald (n0 := 4) (f := S.2 11) dX0_allWeight_51 rfl (pin_in hi_5) ?_
      refine E_iadd dX0_allWeight_52 ?_
      refine E_istore_n (ls' := [(0, .ref 1), (1, .int (v1 + ((S.2 11) v2.toNatClampNeg))), (2, .int v2)]) dX0_allWeight_53 (by decide) rfl ?_
      refine E_iinc (v := v2 + 1) (ls' := [(0, .ref 1), (1, .int (v1 + ((S.2 11) v2.toNatClampNeg))), (2, .int (v2 + 1))]) dX0_allWeight_54 rfl rfl (by decide) rfl ?_
      refine E_goto (tgt := 37) dX0_allWeight_57 (by decide) ?_
      exact E_sub (ls' := [(0, .ref 1), (1, .int (v1 + ((S.2 11) v2.toNatClampNeg))), (2, .int (v2 + 1))]) ⟨rfl, rfl, rfl, trivial⟩ (ih S (v1 + ((S.2 11) v2.toNatClampNeg)) (v2 + 1) hf)
theorem mf_X0_allWeight : pMF yX0_allWeight wsX0_allWeight cX0_allWeight 3 (some .int) 0 := ⟨⟨_, rfl⟩, by decide +kernel, by decide, by decide +kernel, by decide +kernel, by decide +kernel⟩
def f_X0_allWeight (S : PS) : Option (Int32 × PS) :=
  plp (g_X0_allWeight_10 pfuel S (S.1 2) 0) (fun w => (fun (S_3 : PS) (v1_3 : Int32) => plp (g_X0_allWeight_37 pfuel S_3 v1_3 0) (fun w => (fun (S_6 : PS) (v1_6 : Int32) => some (v1_6, S_6)) w.1 w.2)) w.1 w.2)
set_option maxRecDepth 100000 in
theorem c_X0_allWeight (l : Launch) (D : va_G) (dA : Nat → ClassId) (ad : Nat → Nat) (S : PS) {P : (Int32 × PS) → Prop} (hf : pO (f_X0_allWeight S) P) : CtI l D dA ad yX0_allWeight wsX0_allWeight 2 [.ref 1] (hX S) (fun r h' => ∃ S' : PS, h' = hX S' ∧ P (r, S')) := by
  refine CtI_of mf_X0_allWeight rfl rfl (Nat.le_of_ble_eq_true rfl) rfl (hX_len S) ?_
  unfold f_X0_allWeight at hf
  refine E_aload_n dX0_allWeight_0 rfl ?_
  refine E_getf (v := .ref 2) dX0_allWeight_1 fl_X0_allWeight_12 rfl rfl ?_
  refine E_getf (v := .int (S.1 2)) dX0_allWeight_4 fl_X0_allWeight_67 rfl rfl ?_
  refine E_istore_n (ls' := [(0, .ref 1), (1, .int (S.1 2))]) dX0_allWeight_7 (by decide) rfl ?_
  refine E_iconst (v := 0) dX0_allWeight_8 (by decide) ?_
  refine E_istore_n (ls' := [(0, .ref 1), (1, .int (S.1 2)), (2, .int 0)]) dX0_allWeight_9 (by decide) rfl ?_
  refine E_sub (ls' := [(0, .ref 1), (1, .int (S.1 2)), (2, .int 0)]) ⟨rfl, rfl, rfl, trivial⟩ ?_
  refine l_X0_allWeight_10 l D dA ad _ (by omega) pfuel S (S.1 2) 0 (pO_lp hf (fun x hx => ⟨x.2, rfl, hx⟩) (fun w3 hf => ?_))
  obtain ⟨S_3, v1_3⟩ := w3
  dsimp only at hf ⊢
  refine E_iconst (v := 0) dX0_allWeight_35 (by decide) ?_
  refine E_istore_n (ls' := [(0, .ref 1), (1, .int v1_3), (2, .int 0)]) dX0_allWeight_36 (by decide) rfl ?_
  refine E_sub (ls' := [(0, .ref 1), (1, .int v1_3), (2, .int 0)]) ⟨rfl, rfl, rfl, trivial⟩ ?_
  refine l_X0_allWeight_37 l D dA ad _ (by omega) pfuel S_3 v1_3 0 (pO_lp hf (fun x hx => ⟨x.2, rfl, hx⟩) (fun w6 hf => ?_))
  obtain ⟨S_6, v1_6⟩ := w6
  dsimp only at hf ⊢
  refine E_iload_n dX0_allWeight_60 rfl ?_
  exact E_iret rfl dX0_allWeight_61 ⟨_, rfl, hf⟩
theorem hi_X2_top_2 : ∀ w ∈ u_ws RX2 TX2 6, w ∈ wsX2_top := fun w h => of_decide_eq_true (List.all_eq_true.mp (by decide +kernel : (u_ws RX2 TX2 6).all (fun w => decide (w ∈ wsX2_top)) = true) w h)
theorem fl_X2_top_15 : pFL wsX2_top RX2 15 2 1 := ⟨RX2, TX2, 6, hi_X2_top_2, rfl, by decide, by decide +kernel⟩
theorem mf_X2_top : pMF yX2_top wsX2_top cX2_top 1 (some .int) 0 := ⟨⟨_, rfl⟩, by decide +kernel, by decide, by decide +kernel, by decide +kernel, by decide +kernel⟩
def f_X2_top (S : PS) : Option (Int32 × PS) :=
  some (64 * (S.1 1), S)
set_option maxRecDepth 100000 in
theorem c_X2_top (l : Launch) (D : va_G) (dA : Nat → ClassId) (ad : Nat → Nat) (S : PS) {P : (Int32 × PS) → Prop} (hf : pO (f_X2_top S) P) : CtI l D dA ad yX2_top wsX2_top 0 [.ref 2] (hX S) (fun r h' => ∃ S' : PS, h' = hX S' ∧ P (r, S')) := by
  refine CtI_of mf_X2_top rfl rfl (Nat.le_of_ble_eq_true rfl) rfl (hX_len S) ?_
  unfold f_X2_top at hf
  refine E_bipush (v := 64) dX2_top_0 (by decide) ?_
  refine E_aload_n dX2_top_2 rfl ?_
  refine E_getf (v := .int (S.1 1)) dX2_top_3 fl_X2_top_15 rfl rfl ?_
  refine E_imul dX2_top_6 ?_
  exact E_iret rfl dX2_top_7 ⟨_, rfl, hf⟩
theorem hi_X2_startOf_2 : ∀ w ∈ u_ws RX2 TX2 6, w ∈ wsX2_startOf := fun w h => of_decide_eq_true (List.all_eq_true.mp (by decide +kernel : (u_ws RX2 TX2 6).all (fun w => decide (w ∈ wsX2_startOf)) = true) w h)
theorem fl_X2_startOf_9 : pFL wsX2_startOf RX2 9 2 0 := ⟨RX2, TX2, 6, hi_X2_startOf_2, rfl, by decide, by decide +kernel⟩
theorem hi_X2_waterOfSlope_2 : ∀ w ∈ u_ws RX2 TX2 6, w ∈ wsX2_waterOfSlope := fun w h => of_decide_eq_true (List.all_eq_true.mp (by decide +kernel : (u_ws RX2 TX2 6).all (fun w => decide (w ∈ wsX2_waterOfSlope)) = true) w h)
