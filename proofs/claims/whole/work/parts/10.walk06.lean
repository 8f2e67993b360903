def g_X12_isName_15 : Nat → PS → Int32 → Option ((Int32 × PS) ⊕ (PS))
  | 0, _, _ => none
  | fuel + 1, S, v1 =>
    if v1 ≤ (0 : Int32) then (some (.inr (S))) else (if (v1 - v1 / 27 * 27) = (0 : Int32) then (some (.inl (0, S))) else (g_X12_isName_15 fuel S (v1 / 27)))
set_option maxRecDepth 100000 in
theorem l_X12_isName_15 (l : Launch) (D : va_G) (dA : Nat → ClassId) (ad : Nat → Nat) (d : Nat) (hd : 0 ≤ d) {Q : Int32 → List PC → Prop} : ∀ (fuel : Nat) (S : PS) (v1 : Int32), pO (g_X12_isName_15 fuel S v1) (fun y => match y with
    | .inl x => Q x.1 (hM x.2)
    | .inr w => Ev l D dA ad wsX12_isName cX12_isName RX12 2 (some .boolean) d 38 (pKi D dA ad 38 Q) 36 [] [] (hM w)) → Ev l D dA ad wsX12_isName cX12_isName RX12 2 (some .boolean) d 38 (pKi D dA ad 38 Q) 15 [(1, .int v1)] [] (hM S) := by
  intro fuel
  induction fuel with
  | zero =>
    intro S v1 hf
    exact hf.elim
  | succ fuel ih =>
    intro S v1 hf
    rw [g_X12_isName_15] at hf
    refine E_iload_n dX12_isName_15 rfl ?_
    refine E_if_le (tgt := 36) dX12_isName_16 (by decide) (fun c_3 => ?_) (fun c_3 => ?_)
    · have hf := pO_pos c_3 hf
      exact E_sub (ls' := []) trivial hf
    · have hf := pO_neg c_3 hf
      refine E_iload_n dX12_isName_19 rfl ?_
      refine E_bipush (v := 27) dX12_isName_20 (by decide) ?_
      refine E_irem dX12_isName_22 (by decide) ?_
      refine E_if_ne (tgt := 28) dX12_isName_23 (by decide) (fun c_4 => ?_) (fun c_4 => ?_)
      · have hf := pO_neg c_4 hf
        refine E_iload_n dX12_isName_28 rfl ?_
        refine E_bipush (v := 27) dX12_isName_29 (by decide) ?_
        refine E_idiv dX12_isName_31 (by decide) ?_
        refine E_istore_n (ls' := [(1, .int (v1 / 27))]) dX12_isName_32 (by decide) rfl ?_
        refine E_goto (tgt := 15) dX12_isName_33 (by decide) ?_
        exact E_sub (ls' := [(1, .int (v1 / 27))]) ⟨rfl, trivial⟩ (ih S (v1 / 27) hf)
      · have hf := pO_pos c_4 hf
        refine E_iconst (v := 0) dX12_isName_26 (by decide) ?_
        exact E_zret rfl dX12_isName_27 (by decide) hf
theorem mf_X12_isName : pMF yX12_isName wsX12_isName cX12_isName 2 (some .boolean) 1 := ⟨⟨_, rfl⟩, by decide +kernel, by decide, by decide +kernel, by decide +kernel, by decide +kernel⟩
def f_X12_isName (S : PS) (v0 : Int32) : Option (Int32 × PS) :=
  if v0 < (1 : Int32) then (some (0, S)) else (if v0 ≤ (531440 : Int32) then (plp (g_X12_isName_15 pfuel S v0) (fun (S_5 : PS) => some (1, S_5))) else (some (0, S)))
set_option maxRecDepth 100000 in
theorem c_X12_isName (l : Launch) (D : va_G) (dA : Nat → ClassId) (ad : Nat → Nat) (S : PS) (v0 : Int32) {P : (Int32 × PS) → Prop} (hf : pO (f_X12_isName S v0) P) : CtI l D dA ad yX12_isName wsX12_isName 0 [.int v0] (hM S) (fun r h' => ∃ S' : PS, h' = hM S' ∧ P (r, S')) := by
  refine CtI_of mf_X12_isName rfl rfl (Nat.le_of_ble_eq_true rfl) rfl (hM_len S) ?_
  unfold f_X12_isName at hf
  refine E_iload_n dX12_isName_0 rfl ?_
  refine E_iconst (v := 1) dX12_isName_1 (by decide) ?_
  refine E_icmp_lt (tgt := 11) dX12_isName_2 (by decide) (fun c_1 => ?_) (fun c_1 => ?_)
  · have hf := pO_pos c_1 hf
    refine E_iconst (v := 0) dX12_isName_11 (by decide) ?_
    exact E_zret rfl dX12_isName_12 (by decide) ⟨_, rfl, hf⟩
  · have hf := pO_neg c_1 hf
    refine E_iload_n dX12_isName_5 rfl ?_
    refine E_ldc (v := 531440) dX12_isName_6 (by decide +kernel) ?_
    refine E_icmp_le (tgt := 13) dX12_isName_8 (by decide) (fun c_2 => ?_) (fun c_2 => ?_)
    · have hf := pO_pos c_2 hf
      refine E_iload_n dX12_isName_13 rfl ?_
      refine E_istore_n (ls' := [(0, .int v0), (1, .int v0)]) dX12_isName_14 (by decide) rfl ?_
      refine E_sub (ls' := [(1, .int v0)]) ⟨rfl, trivial⟩ ?_
      refine l_X12_isName_15 l D dA ad _ (by omega) pfuel S v0 (pO_lp hf (fun x hx => ⟨x.2, rfl, hx⟩) (fun w5 hf => ?_))
      obtain ⟨S_5, rfl⟩ : ∃ z, z = w5 := ⟨_, rfl⟩
      dsimp only at hf ⊢
      refine E_iconst (v := 1) dX12_isName_36 (by decide) ?_
      exact E_zret rfl dX12_isName_37 (by decide) ⟨_, rfl, hf⟩
    · have hf := pO_neg c_2 hf
      refine E_iconst (v := 0) dX12_isName_11 (by decide) ?_
      exact E_zret rfl dX12_isName_12 (by decide) ⟨_, rfl, hf⟩
theorem hi_X12_find_12 : ∀ w ∈ u_ws RX12 TX12 32, w ∈ wsX12_find := fun w h => of_decide_eq_true (List.all_eq_true.mp (by decide +kernel : (u_ws RX12 TX12 32).all (fun w => decide (w ∈ wsX12_find)) = true) w h)
theorem fl_X12_find_98 : pFL wsX12_find RX12 98 12 6 := ⟨RX12, TX12, 32, hi_X12_find_12, rfl, by decide, by decide +kernel⟩
theorem fl_X12_find_28 : pFL wsX12_find RX12 28 12 7 := ⟨RX12, TX12, 32, hi_X12_find_12, rfl, by decide, by decide +kernel⟩
def g_X12_find_2 : Nat → PS → Int32 → Int32 → Option ((Int32 × PS) ⊕ (PS))
  | 0, _, _, _ => none
  | fuel + 1, S, v1, v2 =>
    if (S.1 4) ≤ v2 then (some (.inr (S))) else (pgd (pin v2 16) (if ((S.2 2) v2.toNatClampNeg) = v1 then (some (.inl (v2, S))) else (g_X12_find_2 fuel S v1 (v2 + 1))))
set_option maxRecDepth 100000 in
theorem l_X12_find_2 (l : Launch) (D : va_G) (dA : Nat → ClassId) (ad : Nat → Nat) (d : Nat) (hd : 0 ≤ d) {Q : Int32 → List PC → Prop} : ∀ (fuel : Nat) (S : PS) (v1 : Int32) (v2 : Int32), pO (g_X12_find_2 fuel S v1 v2) (fun y => match y with
    | .inl x => Q x.1 (hM x.2)
    | .inr w => Ev l D dA ad wsX12_find cX12_find RX12 3 (some .int) d 38 (pKi D dA ad 38 Q) 28 [] [] (hM w)) → Ev l D dA ad wsX12_find cX12_find RX12 3 (some .int) d 38 (pKi D dA ad 38 Q) 2 [(0, .ref 0), (1, .int v1), (2, .int v2)] [] (hM S) := by
  intro fuel
  induction fuel with
  | zero =>
    intro S v1 v2 hf
    exact hf.elim
  | succ fuel ih =>
    intro S v1 v2 hf
    rw [g_X12_find_2] at hf
    refine E_iload_n dX12_find_2 rfl ?_
    refine E_aload_n dX12_find_3 rfl ?_
    refine E_getf (v := .int (S.1 4)) dX12_find_4 fl_X12_find_98 rfl rfl ?_
    refine E_icmp_ge (tgt := 28) dX12_find_7 (by decide) (fun c_1 => ?_) (fun c_1 => ?_)
    · have hf := pO_pos c_1 hf
      exact E_sub (ls' := []) trivial hf
    · have hf := pO_neg c_1 hf
      refine E_aload_n dX12_find_10 rfl ?_
      refine E_getf (v := .ref 3) dX12_find_11 fl_X12_find_28 rfl rfl ?_
      refine E_iload_n dX12_find_14 rfl ?_
      obtain ⟨hi_2, hf⟩ := pO_gd hf
      refine E_iald (n0 := 16) (f := S.2 2) dX12_find_15 rfl (pin_in hi_2) ?_
      refine E_iload_n dX12_find_16 rfl ?_
      refine E_icmp_ne (tgt := 22) dX12_find_17 (by decide) (fun c_3 => ?_) (fun c_3 => ?_)
      · have hf := pO_neg c_3 hf
        refine E_iinc (v := v2 + 1) (ls' := [(0, .ref 0), (1, .int v1), (2, .int (v2 + 1))]) dX12_find_22 rfl rfl (by decide) rfl ?_
        refine E_goto (tgt := 2) dX12_find_25 (by decide) ?_
        exact E_sub (ls' := [(0, .ref 0), (1, .int v1), (2, .int (v2 + 1))]) ⟨rfl, rfl, rfl, trivial⟩ (ih S v1 (v2 + 1) hf)
      · have hf := pO_pos c_3 hf
        refine E_iload_n dX12_find_20 rfl ?_
        exact E_iret rfl dX12_find_21 hf
theorem mf_X12_find : pMF yX12_find wsX12_find cX12_find 3 (some .int) 1 := ⟨⟨_, rfl⟩, by decide +kernel, by decide, by decide +kernel, by decide +kernel, by decide +kernel⟩
def f_X12_find (S : PS) (v1 : Int32) : Option (Int32 × PS) :=
  plp (g_X12_find_2 pfuel S v1 0) (fun (S_4 : PS) => some ((-1), S_4))
set_option maxRecDepth 100000 in
theorem c_X12_find (l : Launch) (D : va_G) (dA : Nat → ClassId) (ad : Nat → Nat) (S : PS) (v1 : Int32) {P : (Int32 × PS) → Prop} (hf : pO (f_X12_find S v1) P) : CtI l D dA ad yX12_find wsX12_find 0 [.ref 0, .int v1] (hM S) (fun r h' => ∃ S' : PS, h' = hM S' ∧ P (r, S')) := by
  refine CtI_of mf_X12_find rfl rfl (Nat.le_of_ble_eq_true rfl) rfl (hM_len S) ?_
  unfold f_X12_find at hf
  refine E_iconst (v := 0) dX12_find_0 (by decide) ?_
  refine E_istore_n (ls' := [(0, .ref 0), (1, .int v1), (2, .int 0)]) dX12_find_1 (by decide) rfl ?_
  refine E_sub (ls' := [(0, .ref 0), (1, .int v1), (2, .int 0)]) ⟨rfl, rfl, rfl, trivial⟩ ?_
  refine l_X12_find_2 l D dA ad _ (by omega) pfuel S v1 0 (pO_lp hf (fun x hx => ⟨x.2, rfl, hx⟩) (fun w4 hf => ?_))
  obtain ⟨S_4, rfl⟩ : ∃ z, z = w4 := ⟨_, rfl⟩
  dsimp only at hf ⊢
  refine E_iconst (v := (-1)) dX12_find_28 (by decide) ?_
  exact E_iret rfl dX12_find_29 ⟨_, rfl, hf⟩
theorem hi_X12_put_12 : ∀ w ∈ u_ws RX12 TX12 32, w ∈ wsX12_put := fun w h => of_decide_eq_true (List.all_eq_true.mp (by decide +kernel : (u_ws RX12 TX12 32).all (fun w => decide (w ∈ wsX12_put)) = true) w h)
theorem fl_X12_put_98 : pFL wsX12_put RX12 98 12 6 := ⟨RX12, TX12, 32, hi_X12_put_12, rfl, by decide, by decide +kernel⟩
theorem fl_X12_put_28 : pFL wsX12_put RX12 28 12 7 := ⟨RX12, TX12, 32, hi_X12_put_12, rfl, by decide, by decide +kernel⟩
theorem hi_X12_lay_12 : ∀ w ∈ u_ws RX12 TX12 32, w ∈ wsX12_lay := fun w h => of_decide_eq_true (List.all_eq_true.mp (by decide +kernel : (u_ws RX12 TX12 32).all (fun w => decide (w ∈ wsX12_lay)) = true) w h)
theorem fl_X12_lay_28 : pFL wsX12_lay RX12 28 12 7 := ⟨RX12, TX12, 32, hi_X12_lay_12, rfl, by decide, by decide +kernel⟩
theorem fl_X12_lay_31 : pFL wsX12_lay RX12 31 12 8 := ⟨RX12, TX12, 32, hi_X12_lay_12, rfl, by decide, by decide +kernel⟩
theorem fl_X12_lay_34 : pFL wsX12_lay RX12 34 12 9 := ⟨RX12, TX12, 32, hi_X12_lay_12, rfl, by decide, by decide +kernel⟩
theorem fl_X12_lay_37 : pFL wsX12_lay RX12 37 12 10 := ⟨RX12, TX12, 32, hi_X12_lay_12, rfl, by decide, by decide +kernel⟩
theorem fl_X12_lay_40 : pFL wsX12_lay RX12 40 12 11 := ⟨RX12, TX12, 32, hi_X12_lay_12, rfl, by decide, by decide +kernel⟩
theorem fl_X12_lay_43 : pFL wsX12_lay RX12 43 12 12 := ⟨RX12, TX12, 32, hi_X12_lay_12, rfl, by decide, by decide +kernel⟩
theorem mf_X12_lay : pMF yX12_lay wsX12_lay cX12_lay 3 none 2 := ⟨⟨_, rfl⟩, by decide +kernel, by decide, by decide +kernel, by decide +kernel, by decide +kernel⟩
def f_X12_lay (S : PS) (v1 : Int32) (v2 : Int32) : Option (Int32 × PS) :=
  pgd (pin v2 16) (pgd (pin v1 16) (pgd (pin v2 16) (pgd (pin v1 16) (pgd (pin v2 16) (pgd (pin v1 16) (pgd (pin v2 16) (pgd (pin v1 16) (pgd (pin v2 16) (pgd (pin v1 16) (pgd (pin v2 16) (pgd (pin v1 16) (some (0, (pAr (pAr (pAr (pAr (pAr (pAr S 2 (upd (S.2 2) v1.toNatClampNeg ((S.2 2) v2.toNatClampNeg))) 3 (upd (S.2 3) v1.toNatClampNeg ((S.2 3) v2.toNatClampNeg))) 4 (upd (S.2 4) v1.toNatClampNeg ((S.2 4) v2.toNatClampNeg))) 5 (upd (S.2 5) v1.toNatClampNeg ((S.2 5) v2.toNatClampNeg))) 6 (upd (S.2 6) v1.toNatClampNeg ((S.2 6) v2.toNatClampNeg))) 7 (upd (S.2 7) v1.toNatClampNeg ((S.2 7) v2.toNatClampNeg))))))))))))))))
set_option maxRecDepth 100000 in
theorem c_X12_lay (l : Launch) (D : va_G) (dA : Nat → ClassId) (ad : Nat → Nat) (S : PS) (v1 : Int32) (v2 : Int32) {P : (Int32 × PS) → Prop} (hf : pO (f_X12_lay S v1 v2) P) : CtV l D dA ad yX12_lay wsX12_lay 0 [.ref 0, .int v1, .int v2] (hM S) (fun h' => ∃ (r0 : Int32) (S' : PS), h' = hM S' ∧ P (r0, S')) := by
  refine CtV_of mf_X12_lay rfl rfl (Nat.le_of_ble_eq_true rfl) rfl (hM_len S) ?_
  unfold f_X12_lay at hf
  refine E_aload_n dX12_lay_0 rfl ?_
  refine E_getf (v := .ref 3) dX12_lay_1 fl_X12_lay_28 rfl rfl ?_
  refine E_iload_n dX12_lay_4 rfl ?_
  refine E_aload_n dX12_lay_5 rfl ?_
  refine E_getf (v := .ref 3) dX12_lay_6 fl_X12_lay_28 rfl rfl ?_
  refine E_iload_n dX12_lay_9 rfl ?_
  obtain ⟨hi_1, hf⟩ := pO_gd hf
  refine E_iald (n0 := 16) (f := S.2 2) dX12_lay_10 rfl (pin_in hi_1) ?_
  obtain ⟨hi_2, hf⟩ := pO_gd hf
  refine E_iast (n0 := 16) (f := S.2 2) (h' := hM (pAr S 2 (upd (S.2 2) v1.toNatClampNeg ((S.2 2) v2.toNatClampNeg)))) dX12_lay_11 rfl (pin_in hi_2) (sM_A2 S (upd (S.2 2) v1.toNatClampNeg ((S.2 2) v2.toNatClampNeg))) ?_
  refine E_aload_n dX12_lay_12 rfl ?_
  refine E_getf (v := .ref 4) dX12_lay_13 fl_X12_lay_31 rfl rfl ?_
  refine E_iload_n dX12_lay_16 rfl ?_
  refine E_aload_n dX12_lay_17 rfl ?_
  refine E_getf (v := .ref 4) dX12_lay_18 fl_X12_lay_31 rfl rfl ?_
  refine E_iload_n dX12_lay_21 rfl ?_
  obtain ⟨hi_3, hf⟩ := pO_gd hf
  refine E_iald (n0 := 16) (f := S.2 3) dX12_lay_22 rfl (pin_in hi_3) ?_
  obtain ⟨hi_4, hf⟩ := pO_gd hf
  refine E_iast (n0 := 16) (f := S.2 3) (h' := hM (pAr (pAr S 2 (upd (S.2 2) v1.toNatClampNeg ((S.2 2) v2.toNatClampNeg))) 3 (upd (S.2 3) v1.toNatClampNeg ((S.2 3) v2.toNatClampNeg)))) dX12_lay_23 rfl (pin_in hi_4) (sM_A3 (pAr S 2 (upd (S.2 2) v1.toNatClampNeg ((S.2 2) v2.toNatClampNeg))) (upd (S.2 3) v1.toNatClampNeg ((S.2 3) v2.toNatClampNeg))) ?_
  refine E_aload_n dX12_lay_24 rfl ?_
  refine E_getf (v := .ref 5) dX12_lay_25 fl_X12_lay_34 rfl rfl ?_
  refine E_iload_n dX12_lay_28 rfl ?_
  refine E_aload_n dX12_lay_29 rfl ?_
  refine E_getf (v := .ref 5) dX12_lay_30 fl_X12_lay_34 rfl rfl ?_
  refine E_iload_n dX12_lay_33 rfl ?_
  obtain ⟨hi_5, hf⟩ := pO_gd hf
  refine E_iald (n0 := 16) (f := S.2 4) dX12_lay_34 rfl (pin_in hi_5) ?_
  obtain ⟨hi_6, hf⟩ := pO_gd hf
  refine E_iast (n0 := 16) (f := S.2 4) (h' := hM (pAr (pAr (pAr S 2 (upd (S.2 2) v1.toNatClampNeg ((S.2 2) v2.toNatClampNeg))) 3 (upd (S.2 3) v1.toNatClampNeg ((S.2 3) v2.toNatClampNeg))) 4 (upd (S.2 4) v1.toNatClampNeg ((S.2 4) v2.toNatClampNeg)))) dX12_lay_35 rfl (pin_in hi_6) (sM_A4 (pAr (pAr S 2 (upd (S.2 2) v1.toNatClampNeg ((S.2 2) v2.toNatClampNeg))) 3 (upd (S.2 3) v1.toNatClampNeg ((S.2 3) v2.toNatClampNeg))) (upd (S.2 4) v1.toNatClampNeg ((S.2 4) v2.toNatClampNeg))) ?_
  refine E_aload_n dX12_lay_36 rfl ?_
  refine E_getf (v := .ref 6) dX12_lay_37 fl_X12_lay_37 rfl rfl ?_
  refine E_iload_n dX12_lay_40 rfl ?_
  refine E_aload_n dX12_lay_41 rfl ?_
  refine E_getf (v := .ref 6) dX12_lay_42 fl_X12_lay_37 rfl rfl ?_
  refine E_iload_n dX12_lay_45 rfl ?_
  obtain ⟨hi_7, hf⟩ := pO_gd hf
  refine E_iald (n0 := 16) (f := S.2 5) dX12_lay_46 rfl (pin_in hi_7) ?_
  obtain ⟨hi_8, hf⟩ := pO_gd hf
  refine E_iast (n0 := 16) (f := S.2 5) (h' := hM (pAr (pAr (pAr (pAr S 2 (upd (S.2 2) v1.toNatClampNeg ((S.2 2) v2.toNatClampNeg))) 3 (upd (S.2 3) v1.toNatClampNeg ((S.2 3) v2.toNatClampNeg))) 4 (upd (S.2 4) v1.toNatClampNeg ((S.2 4) v2.toNatClampNeg))) 5 (upd (S.2 5) v1.toNatClampNeg ((S.2 5) v2.toNatClampNeg)))) dX12_lay_47 rfl (pin_in hi_8) (sM_A5 (pAr (pAr (pAr S 2 (upd (S.2 2) v1.toNatClampNeg ((S.2 2) v2.toNatClampNeg))) 3 (upd (S.2 3) v1.toNatClampNeg ((S.2 3) v2.toNatClampNeg))) 4 (upd (S.2 4) v1.toNatClampNeg ((S.2 4) v2.toNatClampNeg))) (upd (S.2 5) v1.toNatClampNeg ((S.2 5) v2.toNatClampNeg))) ?_
  refine E_aload_n dX12_lay_48 rfl ?_
  refine E_getf (v := .ref 7) dX12_lay_49 fl_X12_lay_40 rfl rfl ?_
  refine E_iload_n dX12_lay_52 rfl ?_
  refine E_aload_n dX12_lay_53 rfl ?_
  refine E_getf (v := .ref 7) dX12_lay_54 fl_X12_lay_40 rfl rfl ?_
  refine E_iload_n dX12_lay_57 rfl ?_
  obtain ⟨hi_9, hf⟩ := pO_gd hf
  refine E_iald (n0 := 16) (f := S.2 6) dX12_lay_58 rfl (pin_in hi_9) ?_
  obtain ⟨hi_10, hf⟩ := pO_gd hf
  refine E_iast (n0 := 16) (f := S.2 6) (h' := hM (pAr (pAr (pAr (pAr (pAr S 2 (upd (S.2 2) v1.toNatClampNeg ((S.2 2) v2.toNatClampNeg))) 3 (upd (S.2 3) v1.toNatClampNeg ((S.2 3) v2.toNatClampNeg))) 4 (upd (S.2 4) v1.toNatClampNeg ((S.2 4) v2.toNatClampNeg))) 5 (upd (S.2 5) v1.toNatClampNeg ((S.2 5) v2.toNatClampNeg))) 6 (upd (S.2 6) v1.toNatClampNeg ((S.2 6) v2.toNatClampNeg)))) dX12_lay_59 rfl (pin_in hi_10) (sM_A6 (pAr (pAr (pAr (pAr S 2 (upd (S.2 2) v1.toNatClampNeg ((S.2 2) v2.toNatClampNeg))) 3 (upd (S.2 3) v1.toNatClampNeg ((S.2 3) v2.toNatClampNeg))) 4 (upd (S.2 4) v1.toNatClampNeg ((S.2 4) v2.toNatClampNeg))) 5 (upd (S.2 5) v1.toNatClampNeg ((S.2 5) v2.toNatClampNeg))) (upd (S.2 6) v1.toNatClampNeg ((S.2 6) v2.toNatClampNeg))) ?_
  refine E_aload_n dX12_lay_60 rfl ?_
  refine E_getf (v := .ref 8) dX12_lay_61 fl_X12_lay_43 rfl rfl ?_
  refine E_iload_n dX12_lay_64 rfl ?_
  refine E_aload_n dX12_lay_65 rfl ?_
  refine E_getf (v := .ref 8) dX12_lay_66 fl_X12_lay_43 rfl rfl ?_
  refine E_iload_n dX12_lay_69 rfl ?_
  obtain ⟨hi_11, hf⟩ := pO_gd hf
  refine E_iald (n0 := 16) (f := S.2 7) dX12_lay_70 rfl (pin_in hi_11) ?_
  obtain ⟨hi_12, hf⟩ := pO_gd hf
  refine E_iast (n0 := 16) (f := S.2 7) (h' := hM (pAr (pAr (pAr (pAr (pAr (pAr S 2 (upd (S.2 2) v1.toNatClampNeg ((S.2 2) v2.toNatClampNeg))) 3 (upd (S.2 3) v1.toNatClampNeg ((S.2 3) v2.toNatClampNeg))) 4 (upd (S.2 4) v1.toNatClampNeg ((S.2 4) v2.toNatClampNeg))) 5 (upd (S.2 5) v1.toNatClampNeg ((S.2 5) v2.toNatClampNeg))) 6 (upd (S.2 6) v1.toNatClampNeg ((S.2 6) v2.toNatClampNeg))) 7 (upd (S.2 7) v1.toNatClampNeg ((S.2 7) v2.toNatClampNeg)))) dX12_lay_71 rfl (pin_in hi_12) (sM_A7 (pAr (pAr (pAr (pAr (pAr S 2 (upd (S.2 2) v1.toNatClampNeg ((S.2 2) v2.toNatClampNeg))) 3 (upd (S.2 3) v1.toNatClampNeg ((S.2 3) v2.toNatClampNeg))) 4 (upd (S.2 4) v1.toNatClampNeg ((S.2 4) v2.toNatClampNeg))) 5 (upd (S.2 5) v1.toNatClampNeg ((S.2 5) v2.toNatClampNeg))) 6 (upd (S.2 6) v1.toNatClampNeg ((S.2 6) v2.toNatClampNeg))) (upd (S.2 7) v1.toNatClampNeg ((S.2 7) v2.toNatClampNeg))) ?_
  exact E_vret rfl dX12_lay_72 ⟨0, _, rfl, hf⟩
def g_X12_put_90 : Nat → PS → Int32 → Int32 → Int32 → Int32 → Int32 → Int32 → Int32 → Option ((Int32 × PS) ⊕ (PS × Int32))
  | 0, _, _, _, _, _, _, _, _ => none
  | fuel + 1, S, v1, v2, v3, v4, v5, v6, v7 =>
    if v7 ≤ (0 : Int32) then (some (.inr (S, v7))) else (pgd (pin (v7 - 1) 16) (if ((S.2 2) (v7 - 1).toNatClampNeg) ≤ v1 then (some (.inr (S, v7))) else (pbnd (f_X12_lay S v7 (v7 - 1)) (fun _ S_19 => g_X12_put_90 fuel S_19 v1 v2 v3 v4 v5 v6 (v7 + (-1))))))
set_option maxRecDepth 100000 in
theorem l_X12_put_90 (l : Launch) (D : va_G) (dA : Nat → ClassId) (ad : Nat → Nat) (d : Nat) (hd : 2 ≤ d) {Q : Int32 → List PC → Prop} : ∀ (fuel : Nat) (S : PS) (v1 : Int32) (v2 : Int32) (v3 : Int32) (v4 : Int32) (v5 : Int32) (v6 : Int32) (v7 : Int32), pO (g_X12_put_90 fuel S v1 v2 v3 v4 v5 v6 v7) (fun y => match y with
    | .inl x => Q x.1 (hM x.2)
    | .inr w => Ev l D dA ad wsX12_put cX12_put RX12 8 (some .int) d 38 (pKi D dA ad 38 Q) 124 [(0, .ref 0), (1, .int v1), (2, .int v2), (3, .int v3), (4, .int v4), (5, .int v5), (6, .int v6), (7, .int w.2)] [] (hM w.1)) → Ev l D dA ad wsX12_put cX12_put RX12 8 (some .int) d 38 (pKi D dA ad 38 Q) 90 [(0, .ref 0), (1, .int v1), (2, .int v2), (3, .int v3), (4, .int v4), (5, .int v5), (6, .int v6), (7, .int v7)] [] (hM S) := by
  intro fuel
  induction fuel with
  | zero =>
    intro S v1 v2 v3 v4 v5 v6 v7 hf
    exact hf.elim
  | succ fuel ih =>
    intro S v1 v2 v3 v4 v5 v6 v7 hf
    rw [g_X12_put_90] at hf
    refine E_iload dX12_put_90 rfl ?_
    refine E_if_le (tgt := 124) dX12_put_92 (by decide) (fun c_16 => ?_) (fun c_16 => ?_)
    · have hf := pO_pos c_16 hf
      exact E_sub (ls' := [(0, .ref 0), (1, .int v1), (2, .int v2), (3, .int v3), (4, .int v4), (5, .int v5), (6, .int v6), (7, .int v7)]) ⟨rfl, rfl, rfl, rfl, rfl, rfl, rfl, rfl, trivial⟩ hf
    · have hf := pO_neg c_16 hf
      refine E_aload_n dX12_put_95 rfl ?_
      refine E_getf (v := .ref 3) dX12_put_96 fl_X12_put_28 rfl rfl ?_
      refine E_iload dX12_put_99 rfl ?_
      refine E_iconst (v := 1) dX12_put_101 (by decide) ?_
      refine E_isub dX12_put_102 ?_
      obtain ⟨hi_17, hf⟩ := pO_gd hf
      refine E_iald (n0 := 16) (f := S.2 2) dX12_put_103 rfl (pin_in hi_17) ?_
      refine E_iload_n dX12_put_104 rfl ?_
      refine E_icmp_le (tgt := 124) dX12_put_105 (by decide) (fun c_18 => ?_) (fun c_18 => ?_)
      · have hf := pO_pos c_18 hf
        exact E_sub (ls' := [(0, .ref 0), (1, .int v1), (2, .int v2), (3, .int v3), (4, .int v4), (5, .int v5), (6, .int v6), (7, .int v7)]) ⟨rfl, rfl, rfl, rfl, rfl, rfl, rfl, rfl, trivial⟩ hf
      · have hf := pO_neg c_18 hf
        refine E_aload_n dX12_put_108 rfl ?_
        refine E_iload dX12_put_109 rfl ?_
        refine E_iload dX12_put_111 rfl ?_
        refine E_iconst (v := 1) dX12_put_113 (by decide) ?_
        refine E_isub dX12_put_114 ?_
        refine E_callVV (st := []) (c_X12_lay l D dA ad S v7 (v7 - 1) (pO_bnd hf)) mf_X12_lay rfl rfl gX12_put_X12_lay (pRc.of (ci := 12) rfl rfl) (by omega) rfl (Nat.le_of_ble_eq_true rfl) (by rfl) dX12_put_115 (fun h19 q19 => ?_)
        obtain ⟨r19, S_19, rfl, hf⟩ := q19
        dsimp only at hf
        refine E_iinc (v := v7 + (-1)) (ls' := [(0, .ref 0), (1, .int v1), (2, .int v2), (3, .int v3), (4, .int v4), (5, .int v5), (6, .int v6), (7, .int (v7 + (-1)))]) dX12_put_118 rfl rfl (by decide) rfl ?_
        refine E_goto (tgt := 90) dX12_put_121 (by decide) ?_
        exact E_sub (ls' := [(0, .ref 0), (1, .int v1), (2, .int v2), (3, .int v3), (4, .int v4), (5, .int v5), (6, .int v6), (7, .int (v7 + (-1)))]) ⟨rfl, rfl, rfl, rfl, rfl, rfl, rfl, rfl, trivial⟩ (ih S_19 v1 v2 v3 v4 v5 v6 (v7 + (-1)) hf)
theorem fl_X12_put_31 : pFL wsX12_put RX12 31 12 8 := ⟨RX12, TX12, 32, hi_X12_put_12, rfl, by decide, by decide +kernel⟩
theorem fl_X12_put_34 : pFL wsX12_put RX12 34 12 9 := ⟨RX12, TX12, 32, hi_X12_put_12, rfl, by decide, by decide +kernel⟩
theorem fl_X12_put_37 : pFL wsX12_put RX12 37 12 10 := ⟨RX12, TX12, 32, hi_X12_put_12, rfl, by decide, by decide +kernel⟩
theorem fl_X12_put_40 : pFL wsX12_put RX12 40 12 11 := ⟨RX12, TX12, 32, hi_X12_put_12, rfl, by decide, by decide +kernel⟩
theorem fl_X12_put_43 : pFL wsX12_put RX12 43 12 12 := ⟨RX12, TX12, 32, hi_X12_put_12, rfl, by decide, by decide +kernel⟩
theorem mf_X12_put : pMF yX12_put wsX12_put cX12_put 8 (some .int) 6 := ⟨⟨_, rfl⟩, by decide +kernel, by decide, by decide +kernel, by decide +kernel, by decide +kernel⟩
def f_X12_put (S : PS) (v1 : Int32) (v2 : Int32) (v3 : Int32) (v4 : Int32) (v5 : Int32) (v6 : Int32) : Option (Int32 × PS) :=
  pbnd (f_X12_isName S v1) (fun r1 S_1 => if r1 = (0 : Int32) then (some ((-1), S_1)) else (pbnd (f_X12_in S_1 v2 0 4) (fun r3 S_3 => if r3 = (0 : Int32) then (some ((-1), S_3)) else (pbnd (f_X12_in S_3 v3 1 999) (fun r5 S_5 => if r5 = (0 : Int32) then (some ((-1), S_5)) else (pbnd (f_X12_isSection S_5 v4) (fun r7 S_7 => if r7 = (0 : Int32) then (some ((-1), S_7)) else (pbnd (f_X12_in S_7 v5 (-20) 20) (fun r9 S_9 => if r9 = (0 : Int32) then (some ((-1), S_9)) else (pbnd (f_X12_in S_9 v6 0 40) (fun r11 S_11 => if r11 = (0 : Int32) then (some ((-1), S_11)) else (pbnd (f_X12_find S_11 v1) (fun r13 S_13 => if r13 < (0 : Int32) then (if (S_13.1 4) = (16 : Int32) then (some ((-3), S_13)) else (plp (g_X12_put_90 pfuel S_13 v1 v2 v3 v4 v5 v6 (S_13.1 4)) (fun w => (fun (S_20 : PS) (v7_20 : Int32) => pgd (pin v7_20 16) (pgd (pin v7_20 16) (pgd (pin v7_20 16) (pgd (pin v7_20 16) (pgd (pin v7_20 16) (pgd (pin v7_20 16) (some ((S_20.1 4) + 1, (pI (pAr (pAr (pAr (pAr (pAr (pAr S_20 2 (upd (S_20.2 2) v7_20.toNatClampNeg v1)) 3 (upd (S_20.2 3) v7_20.toNatClampNeg v2)) 4 (upd (S_20.2 4) v7_20.toNatClampNeg v3)) 5 (upd (S_20.2 5) v7_20.toNatClampNeg v4)) 6 (upd (S_20.2 6) v7_20.toNatClampNeg v5)) 7 (upd (S_20.2 7) v7_20.toNatClampNeg v6)) 4 ((S_20.1 4) + 1)))))))))) w.1 w.2))) else (some ((-5), S_13)))))))))))))))
set_option maxRecDepth 100000 in
theorem c_X12_put (l : Launch) (D : va_G) (dA : Nat → ClassId) (ad : Nat → Nat) (S : PS) (v1 : Int32) (v2 : Int32) (v3 : Int32) (v4 : Int32) (v5 : Int32) (v6 : Int32) {P : (Int32 × PS) → Prop} (hf : pO (f_X12_put S v1 v2 v3 v4 v5 v6) P) : CtI l D dA ad yX12_put wsX12_put 2 [.ref 0, .int v1, .int v2, .int v3, .int v4, .int v5, .int v6] (hM S) (fun r h' => ∃ S' : PS, h' = hM S' ∧ P (r, S')) := by
  refine CtI_of mf_X12_put rfl rfl (Nat.le_of_ble_eq_true rfl) rfl (hM_len S) ?_
  unfold f_X12_put at hf
  refine E_iload_n dX12_put_0 rfl ?_
  refine E_callSI (st := []) (c_X12_isName l D dA ad S v1 (pO_bnd hf)) mf_X12_isName rfl gX12_put_X12_isName (by omega) rfl (Nat.le_of_ble_eq_true rfl) (by rfl) dX12_put_1 (fun r1 h1 q1 => ?_)
  obtain ⟨S_1, rfl, hf⟩ := q1
  dsimp only at hf
  refine E_if_eq (tgt := 59) dX12_put_4 (by decide) (fun c_2 => ?_) (fun c_2 => ?_)
  · have hf := pO_pos c_2 hf
    refine E_iconst (v := (-1)) dX12_put_59 (by decide) ?_
    exact E_iret rfl dX12_put_60 ⟨_, rfl, hf⟩
  · have hf := pO_neg c_2 hf
    refine E_iload_n dX12_put_7 rfl ?_
    refine E_iconst (v := 0) dX12_put_8 (by decide) ?_
    refine E_iconst (v := 4) dX12_put_9 (by decide) ?_
    refine E_callSI (st := []) (c_X12_in l D dA ad S_1 v2 0 4 (pO_bnd hf)) mf_X12_in rfl gX12_put_X12_in (by omega) rfl (Nat.le_of_ble_eq_true rfl) (by rfl) dX12_put_10 (fun r3 h3 q3 => ?_)
    obtain ⟨S_3, rfl, hf⟩ := q3
    dsimp only at hf
    refine E_if_eq (tgt := 59) dX12_put_13 (by decide) (fun c_4 => ?_) (fun c_4 => ?_)
    · have hf := pO_pos c_4 hf
      refine E_iconst (v := (-1)) dX12_put_59 (by decide) ?_
      exact E_iret rfl dX12_put_60 ⟨_, rfl, hf⟩
    · have hf := pO_neg c_4 hf
      refine E_iload_n dX12_put_16 rfl ?_
      refine E_iconst (v := 1) dX12_put_17 (by decide) ?_
      refine E_sipush (v := 999) dX12_put_18 (by decide) ?_
      refine E_callSI (st := []) (c_X12_in l D dA ad S_3 v3 1 999 (pO_bnd hf)) mf_X12_in rfl gX12_put_X12_in (by omega) rfl (Nat.le_of_ble_eq_true rfl) (by rfl) dX12_put_21 (fun r5 h5 q5 => ?_)
      obtain ⟨S_5, rfl, hf⟩ := q5
      dsimp only at hf
      refine E_if_eq (tgt := 59) dX12_put_24 (by decide) (fun c_6 => ?_) (fun c_6 => ?_)
      · have hf := pO_pos c_6 hf
        refine E_iconst (v := (-1)) dX12_put_59 (by decide) ?_
        exact E_iret rfl dX12_put_60 ⟨_, rfl, hf⟩
      · have hf := pO_neg c_6 hf
        refine E_aload_n dX12_put_27 rfl ?_
        refine E_iload dX12_put_28 rfl ?_
        refine E_callVI (st := []) (c_X12_isSection l D dA ad S_5 v4 (pO_bnd hf)) mf_X12_isSection rfl rfl gX12_put_X12_isSection (pRc.of (ci := 12) rfl rfl) (by omega) rfl (Nat.le_of_ble_eq_true rfl) (by rfl) dX12_put_30 (fun r7 h7 q7 => ?_)
        obtain ⟨S_7, rfl, hf⟩ := q7
        dsimp only at hf
        refine E_if_eq (tgt := 59) dX12_put_33 (by decide) (fun c_8 => ?_) (fun c_8 => ?_)
        · have hf := pO_pos c_8 hf
          refine E_iconst (v := (-1)) dX12_put_59 (by decide) ?_
          exact E_iret rfl dX12_put_60 ⟨_, rfl, hf⟩
        · have hf := pO_neg c_8 hf
          refine E_iload dX12_put_36 rfl ?_
          refine E_bipush (v := (-20)) dX12_put_38 (by decide) ?_
          refine E_bipush (v := 20) dX12_put_40 (by decide) ?_
          refine E_callSI (st := []) (c_X12_in l D dA ad S_7 v5 (-20) 20 (pO_bnd hf)) mf_X12_in rfl gX12_put_X12_in (by omega) rfl (Nat.le_of_ble_eq_true rfl) (by rfl) dX12_put_42 (fun r9 h9 q9 => ?_)
          obtain ⟨S_9, rfl, hf⟩ := q9
          dsimp only at hf
          refine E_if_eq (tgt := 59) dX12_put_45 (by decide) (fun c_10 => ?_) (fun c_10 => ?_)
          · have hf := pO_pos c_10 hf
            refine E_iconst (v := (-1)) dX12_put_59 (by decide) ?_
            exact E_iret rfl dX12_put_60 ⟨_, rfl, hf⟩
          · have hf := pO_neg c_10 hf
            refine E_iload dX12_put_48 rfl ?_
            refine E_iconst (v := 0) dX12_put_50 (by decide) ?_
            refine E_bipush (v := 40) dX12_put_51 (by decide) ?_
            refine E_callSI (st := []) (c_X12_in l D dA ad S_9 v6 0 40 (pO_bnd hf)) mf_X12_in rfl gX12_put_X12_in (by omega) rfl (Nat.le_of_ble_eq_true rfl) (by rfl) dX12_put_53 (fun r11 h11 q11 => ?_)
            obtain ⟨S_11, rfl, hf⟩ := q11
            dsimp only at hf
            refine E_if_ne (tgt := 61) dX12_put_56 (by decide) (fun c_12 => ?_) (fun c_12 => ?_)
            · have hf := pO_neg c_12 hf
              refine E_aload_n dX12_put_61 rfl ?_
              refine E_iload_n dX12_put_62 rfl ?_
              refine E_callVI (st := []) (c_X12_find l D dA ad S_11 v1 (pO_bnd hf)) mf_X12_find rfl rfl gX12_put_X12_find (pRc.of (ci := 12) rfl rfl) (by omega) rfl (Nat.le_of_ble_eq_true rfl) (by rfl) dX12_put_63 (fun r13 h13 q13 => ?_)
              obtain ⟨S_13, rfl, hf⟩ := q13
              dsimp only at hf
              refine E_if_lt (tgt := 72) dX12_put_66 (by decide) (fun c_14 => ?_) (fun c_14 => ?_)
              · have hf := pO_pos c_14 hf
                refine E_aload_n dX12_put_72 rfl ?_
                refine E_getf (v := .int (S_13.1 4)) dX12_put_73 fl_X12_put_98 rfl rfl ?_
                refine E_bipush (v := 16) dX12_put_76 (by decide) ?_
                refine E_icmp_ne (tgt := 84) dX12_put_78 (by decide) (fun c_15 => ?_) (fun c_15 => ?_)
                · have hf := pO_neg c_15 hf
                  refine E_aload_n dX12_put_84 rfl ?_
                  refine E_getf (v := .int (S_13.1 4)) dX12_put_85 fl_X12_put_98 rfl rfl ?_
                  refine E_istore (ls' := [(0, .ref 0), (1, .int v1), (2, .int v2), (3, .int v3), (4, .int v4), (5, .int v5), (6, .int v6), (7, .int (S_13.1 4))]) dX12_put_88 (by decide) rfl ?_
                  refine E_sub (ls' := [(0, .ref 0), (1, .int v1), (2, .int v2), (3, .int v3), (4, .int v4), (5, .int v5), (6, .int v6), (7, .int (S_13.1 4))]) ⟨rfl, rfl, rfl, rfl, rfl, rfl, rfl, rfl, trivial⟩ ?_
                  refine l_X12_put_90 l D dA ad _ (by omega) pfuel S_13 v1 v2 v3 v4 v5 v6 (S_13.1 4) (pO_lp hf (fun x hx => ⟨x.2, rfl, hx⟩) (fun w20 hf => ?_))
                  obtain ⟨S_20, v7_20⟩ := w20
                  dsimp only at hf ⊢
                  refine E_aload_n dX12_put_124 rfl ?_
                  refine E_getf (v := .ref 3) dX12_put_125 fl_X12_put_28 rfl rfl ?_
                  refine E_iload dX12_put_128 rfl ?_
                  refine E_iload_n dX12_put_130 rfl ?_
                  obtain ⟨hi_21, hf⟩ := pO_gd hf
                  refine E_iast (n0 := 16) (f := S_20.2 2) (h' := hM (pAr S_20 2 (upd (S_20.2 2) v7_20.toNatClampNeg v1))) dX12_put_131 rfl (pin_in hi_21) (sM_A2 S_20 (upd (S_20.2 2) v7_20.toNatClampNeg v1)) ?_
                  refine E_aload_n dX12_put_132 rfl ?_
                  refine E_getf (v := .ref 4) dX12_put_133 fl_X12_put_31 rfl rfl ?_
                  refine E_iload dX12_put_136 rfl ?_
                  refine E_iload_n dX12_put_138 rfl ?_
                  obtain ⟨hi_22, hf⟩ := pO_gd hf
                  refine E_iast (n0 := 16) (f := S_20.2 3) (h' := hM (pAr (pAr S_20 2 (upd (S_20.2 2) v7_20.toNatClampNeg v1)) 3 (upd (S_20.2 3) v7_20.toNatClampNeg v2))) dX12_put_139 rfl (pin_in hi_22) (sM_A3 (pAr S_20 2 (upd (S_20.2 2) v7_20.toNatClampNeg v1)) (upd (S_20.2 3) v7_20.toNatClampNeg v2)) ?_
                  refine E_aload_n dX12_put_140 rfl ?_
                  refine E_getf (v := .ref 5) dX12_put_141 fl_X12_put_34 rfl rfl ?_
                  refine E_iload dX12_put_144 rfl ?_
                  refine E_iload_n dX12_put_146 rfl ?_
                  obtain ⟨hi_23, hf⟩ := pO_gd hf
                  refine E_iast (n0 := 16) (f := S_20.2 4) (h' := hM (pAr (pAr (pAr S_20 2 (upd (S_20.2 2) v7_20.toNatClampNeg v1)) 3 (upd (S_20.2 3) v7_20.toNatClampNeg v2)) 4 (upd (S_20.2 4) v7_20.toNatClampNeg v3))) dX12_put_147 rfl (pin_in hi_23) (sM_A4 (pAr (pAr S_20 2 (upd (S_20.2 2) v7_20.toNatClampNeg v1)) 3 (upd (S_20.2 3) v7_20.toNatClampNeg v2)) (upd (S_20.2 4) v7_20.toNatClampNeg v3)) ?_
                  refine E_aload_n dX12_put_148 rfl ?_
                  refine E_getf (v := .ref 6) dX12_put_149 fl_X12_put_37 rfl rfl ?_
                  refine E_iload dX12_put_152 rfl ?_
                  refine E_iload dX12_put_154 rfl ?_
                  obtain ⟨hi_24, hf⟩ := pO_gd hf
                  refine E_iast (n0 := 16) (f := S_20.2 5) (h' := hM (pAr (pAr (pAr (pAr S_20 2 (upd (S_20.2 2) v7_20.toNatClampNeg v1)) 3 (upd (S_20.2 3) v7_20.toNatClampNeg v2)) 4 (upd (S_20.2 4) v7_20.toNatClampNeg v3)) 5 (upd (S_20.2 5) v7_20.toNatClampNeg v4))) dX12_put_156 rfl (pin_in hi_24) (sM_A5 (pAr (pAr (pAr S_20 2 (upd (S_20.2 2) v7_20.toNatClampNeg v1)) 3 (upd (S_20.2 3) v7_20.toNatClampNeg v2)) 4 (upd (S_20.2 4) v7_20.toNatClampNeg v3)) (upd (S_20.2 5) v7_20.toNatClampNeg v4)) ?_
                  refine E_aload_n dX12_put_157 rfl ?_
                  refine E_getf (v := .ref 7) dX12_put_158 fl_X12_put_40 rfl rfl ?_
                  refine E_iload dX12_put_161 rfl ?_
                  refine E_iload dX12_put_163 rfl ?_
                  obtain ⟨hi_25, hf⟩ := pO_gd hf
                  refine E_iast (n0 := 16) (f := S_20.2 6) (h' := hM (pAr (pAr (pAr (pAr (pAr S_20 2 (upd (S_20.2 2) v7_20.toNatClampNeg v1)) 3 (upd (S_20.2 3) v7_20.toNatClampNeg v2)) 4 (upd (S_20.2 4) v7_20.toNatClampNeg v3)) 5 (upd (S_20.2 5) v7_20.toNatClampNeg v4)) 6 (upd (S_20.2 6) v7_20.toNatClampNeg v5))) dX12_put_165 rfl (pin_in hi_25) (sM_A6 (pAr (pAr (pAr (pAr S_20 2 (upd (S_20.2 2) v7_20.toNatClampNeg v1)) 3 (upd (S_20.2 3) v7_20.toNatClampNeg v2)) 4 (upd (S_20.2 4) v7_20.toNatClampNeg v3)) 5 (upd (S_20.2 5) v7_20.toNatClampNeg v4)) (upd (S_20.2 6) v7_20.toNatClampNeg v5)) ?_
                  refine E_aload_n dX12_put_166 rfl ?_
                  refine E_getf (v := .ref 8) dX12_put_167 fl_X12_put_43 rfl rfl ?_
                  refine E_iload dX12_put_170 rfl ?_
                  refine E_iload dX12_put_172 rfl ?_
                  obtain ⟨hi_26, hf⟩ := pO_gd hf
                  refine E_iast (n0 := 16) (f := S_20.2 7) (h' := hM (pAr (pAr (pAr (pAr (pAr (pAr S_20 2 (upd (S_20.2 2) v7_20.toNatClampNeg v1)) 3 (upd (S_20.2 3) v7_20.toNatClampNeg v2)) 4 (upd (S_20.2 4) v7_20.toNatClampNeg v3)) 5 (upd (S_20.2 5) v7_20.toNatClampNeg v4)) 6 (upd (S_20.2 6) v7_20.toNatClampNeg v5)) 7 (upd (S_20.2 7) v7_20.toNatClampNeg v6))) dX12_put_174 rfl (pin_in hi_26) (sM_A7 (pAr (pAr (pAr (pAr (pAr S_20 2 (upd (S_20.2 2) v7_20.toNatClampNeg v1)) 3 (upd (S_20.2 3) v7_20.toNatClampNeg v2)) 4 (upd (S_20.2 4) v7_20.toNatClampNeg v3)) 5 (upd (S_20.2 5) v7_20.toNatClampNeg v4)) 6 (upd (S_20.2 6) v7_20.toNatClampNeg v5)) (upd (S_20.2 7) v7_20.toNatClampNeg v6)) ?_
                  refine E_aload_n dX12_put_175 rfl ?_
                  refine E_dup dX12_put_176 rfl ?_
                  refine E_getf (v := .int (S_20.1 4)) dX12_put_177 fl_X12_put_98 rfl rfl ?_
                  refine E_iconst (v := 1) dX12_put_180 (by decide) ?_
                  refine E_iadd dX12_put_181 ?_
                  refine E_putf (h' := hM (pI (pAr (pAr (pAr (pAr (pAr (pAr S_20 2 (upd (S_20.2 2) v7_20.toNatClampNeg v1)) 3 (upd (S_20.2 3) v7_20.toNatClampNeg v2)) 4 (upd (S_20.2 4) v7_20.toNatClampNeg v3)) 5 (upd (S_20.2 5) v7_20.toNatClampNeg v4)) 6 (upd (S_20.2 6) v7_20.toNatClampNeg v5)) 7 (upd (S_20.2 7) v7_20.toNatClampNeg v6)) 4 ((S_20.1 4) + 1))) dX12_put_182 fl_X12_put_98 ft_12_6 rfl (Nat.lt_of_lt_of_eq (by decide : 6 < 32) rfl) rfl rfl ⟨_, rfl⟩ (sM_I4 (pAr (pAr (pAr (pAr (pAr (pAr S_20 2 (upd (S_20.2 2) v7_20.toNatClampNeg v1)) 3 (upd (S_20.2 3) v7_20.toNatClampNeg v2)) 4 (upd (S_20.2 4) v7_20.toNatClampNeg v3)) 5 (upd (S_20.2 5) v7_20.toNatClampNeg v4)) 6 (upd (S_20.2 6) v7_20.toNatClampNeg v5)) 7 (upd (S_20.2 7) v7_20.toNatClampNeg v6)) ((S_20.1 4) + 1)) ?_
                  refine E_aload_n dX12_put_185 rfl ?_
                  refine E_getf (v := .int ((S_20.1 4) + 1)) dX12_put_186 fl_X12_put_98 rfl rfl ?_
                  exact E_iret rfl dX12_put_189 ⟨_, rfl, hf⟩
                · have hf := pO_pos c_15 hf
                  refine E_bipush (v := (-3)) dX12_put_81 (by decide) ?_
                  exact E_iret rfl dX12_put_83 ⟨_, rfl, hf⟩
              · have hf := pO_neg c_14 hf
                refine E_bipush (v := (-5)) dX12_put_69 (by decide) ?_
                exact E_iret rfl dX12_put_71 ⟨_, rfl, hf⟩
            · have hf := pO_pos c_12 hf
              refine E_iconst (v := (-1)) dX12_put_59 (by decide) ?_
              exact E_iret rfl dX12_put_60 ⟨_, rfl, hf⟩
theorem hi_X12_weighs_12 : ∀ w ∈ u_ws RX12 TX12 32, w ∈ wsX12_weighs := fun w h => of_decide_eq_true (List.all_eq_true.mp (by decide +kernel : (u_ws RX12 TX12 32).all (fun w => decide (w ∈ wsX12_weighs)) = true) w h)
theorem fl_X12_weighs_34 : pFL wsX12_weighs RX12 34 12 9 := ⟨RX12, TX12, 32, hi_X12_weighs_12, rfl, by decide, by decide +kernel⟩
theorem fl_X12_weighs_95 : pFL wsX12_weighs RX12 95 12 3 := ⟨RX12, TX12, 32, hi_X12_weighs_12, rfl, by decide, by decide +kernel⟩
theorem fl_X12_weighs_31 : pFL wsX12_weighs RX12 31 12 8 := ⟨RX12, TX12, 32, hi_X12_weighs_12, rfl, by decide, by decide +kernel⟩
theorem mf_X12_weighs : pMF yX12_weighs wsX12_weighs cX12_weighs 4 (some .int) 1 := ⟨⟨_, rfl⟩, by decide +kernel, by decide, by decide +kernel, by decide +kernel, by decide +kernel⟩
def f_X12_weighs (S : PS) (v1 : Int32) : Option (Int32 × PS) :=
  pgd (pin v1 16) (if (S.1 3) = (1 : Int32) then (pgd (pin v1 16) (if ((S.2 3) v1.toNatClampNeg) = (2 : Int32) then (some (((S.2 4) v1.toNatClampNeg) + (((S.2 4) v1.toNatClampNeg) / 4), S)) else (pgd (pin v1 16) (if ((S.2 3) v1.toNatClampNeg) = (4 : Int32) then (some ((((S.2 4) v1.toNatClampNeg) + (((S.2 4) v1.toNatClampNeg) / 4)) + 3, S)) else (some ((S.2 4) v1.toNatClampNeg, S)))))) else (pgd (pin v1 16) (if ((S.2 3) v1.toNatClampNeg) = (2 : Int32) then (some (((S.2 4) v1.toNatClampNeg) + 0, S)) else (pgd (pin v1 16) (if ((S.2 3) v1.toNatClampNeg) = (4 : Int32) then (some ((((S.2 4) v1.toNatClampNeg) + 0) + 3, S)) else (some ((S.2 4) v1.toNatClampNeg, S)))))))
set_option maxRecDepth 100000 in
theorem c_X12_weighs (l : Launch) (D : va_G) (dA : Nat → ClassId) (ad : Nat → Nat) (S : PS) (v1 : Int32) {P : (Int32 × PS) → Prop} (hf : pO (f_X12_weighs S v1) P) : CtI l D dA ad yX12_weighs wsX12_weighs 0 [.ref 0, .int v1] (hM S) (fun r h' => ∃ S' : PS, h' = hM S' ∧ P (r, S')) := by
  refine CtI_of mf_X12_weighs rfl rfl (Nat.le_of_ble_eq_true rfl) rfl (hM_len S) ?_
  unfold f_X12_weighs at hf
  refine E_aload_n dX12_weighs_0 rfl ?_
  refine E_getf (v := .ref 5) dX12_weighs_1 fl_X12_weighs_34 rfl rfl ?_
  refine E_iload_n dX12_weighs_4 rfl ?_
  obtain ⟨hi_1, hf⟩ := pO_gd hf
  refine E_iald (n0 := 16) (f := S.2 4) dX12_weighs_5 rfl (pin_in hi_1) ?_
  refine E_istore_n (ls' := [(0, .ref 0), (1, .int v1), (2, .int ((S.2 4) v1.toNatClampNeg))]) dX12_weighs_6 (by decide) rfl ?_
  refine E_iload_n dX12_weighs_7 rfl ?_
  refine E_aload_n dX12_weighs_8 rfl ?_
  refine E_getf (v := .int (S.1 3)) dX12_weighs_9 fl_X12_weighs_95 rfl rfl ?_
  refine E_iconst (v := 1) dX12_weighs_12 (by decide) ?_
  refine E_icmp_ne (tgt := 22) dX12_weighs_13 (by decide) (fun c_2 => ?_) (fun c_2 => ?_)
  · have hf := pO_neg c_2 hf
    refine E_iconst (v := 0) dX12_weighs_22 (by decide) ?_
    refine E_iadd dX12_weighs_23 ?_
    refine E_istore_n (ls' := [(0, .ref 0), (1, .int v1), (2, .int ((S.2 4) v1.toNatClampNeg)), (3, .int (((S.2 4) v1.toNatClampNeg) + 0))]) dX12_weighs_24 (by decide) rfl ?_
    refine E_aload_n dX12_weighs_25 rfl ?_
    refine E_getf (v := .ref 4) dX12_weighs_26 fl_X12_weighs_31 rfl rfl ?_
    refine E_iload_n dX12_weighs_29 rfl ?_
    obtain ⟨hi_3, hf⟩ := pO_gd hf
    refine E_iald (n0 := 16) (f := S.2 3) dX12_weighs_30 rfl (pin_in hi_3) ?_
    refine E_iconst (v := 2) dX12_weighs_31 (by decide) ?_
    refine E_icmp_ne (tgt := 39) dX12_weighs_32 (by decide) (fun c_4 => ?_) (fun c_4 => ?_)
    · have hf := pO_neg c_4 hf
      refine E_aload_n dX12_weighs_39 rfl ?_
      refine E_getf (v := .ref 4) dX12_weighs_40 fl_X12_weighs_31 rfl rfl ?_
      refine E_iload_n dX12_weighs_43 rfl ?_
      obtain ⟨hi_5, hf⟩ := pO_gd hf
      refine E_iald (n0 := 16) (f := S.2 3) dX12_weighs_44 rfl (pin_in hi_5) ?_
      refine E_iconst (v := 4) dX12_weighs_45 (by decide) ?_
      refine E_icmp_ne (tgt := 55) dX12_weighs_46 (by decide) (fun c_6 => ?_) (fun c_6 => ?_)
      · have hf := pO_neg c_6 hf
        refine E_iload_n dX12_weighs_55 rfl ?_
        exact E_iret rfl dX12_weighs_56 ⟨_, rfl, hf⟩
      · have hf := pO_pos c_6 hf
        refine E_iload_n dX12_weighs_49 rfl ?_
        refine E_iconst (v := 3) dX12_weighs_50 (by decide) ?_
        refine E_iadd dX12_weighs_51 ?_
        refine E_goto (tgt := 56) dX12_weighs_52 (by decide) ?_
        exact E_iret rfl dX12_weighs_56 ⟨_, rfl, hf⟩
    · have hf := pO_pos c_4 hf
      refine E_iload_n dX12_weighs_35 rfl ?_
      refine E_goto (tgt := 56) dX12_weighs_36 (by decide) ?_
      exact E_iret rfl dX12_weighs_56 ⟨_, rfl, hf⟩
  · have hf := pO_pos c_2 hf
    refine E_iload_n dX12_weighs_16 rfl ?_
    refine E_iconst (v := 4) dX12_weighs_17 (by decide) ?_
    refine E_idiv dX12_weighs_18 (by decide) ?_
    refine E_goto (tgt := 23) dX12_weighs_19 (by decide) ?_
    refine E_iadd dX12_weighs_23 ?_
    refine E_istore_n (ls' := [(0, .ref 0), (1, .int v1), (2, .int ((S.2 4) v1.toNatClampNeg)), (3, .int (((S.2 4) v1.toNatClampNeg) + (((S.2 4) v1.toNatClampNeg) / 4)))]) dX12_weighs_24 (by decide) rfl ?_
    refine E_aload_n dX12_weighs_25 rfl ?_
    refine E_getf (v := .ref 4) dX12_weighs_26 fl_X12_weighs_31 rfl rfl ?_
    refine E_iload_n dX12_weighs_29 rfl ?_
    obtain ⟨hi_7, hf⟩ := pO_gd hf
    refine E_iald (n0 := 16) (f := S.2 3) dX12_weighs_30 rfl (pin_in hi_7) ?_
    refine E_iconst (v := 2) dX12_weighs_31 (by decide) ?_
    refine E_icmp_ne (tgt := 39) dX12_weighs_32 (by decide) (fun c_8 => ?_) (fun c_8 => ?_)
    · have hf := pO_neg c_8 hf
      refine E_aload_n dX12_weighs_39 rfl ?_
      refine E_getf (v := .ref 4) dX12_weighs_40 fl_X12_weighs_31 rfl rfl ?_
      refine E_iload_n dX12_weighs_43 rfl ?_
      obtain ⟨hi_9, hf⟩ := pO_gd hf
      refine E_iald (n0 := 16) (f := S.2 3) dX12_weighs_44 rfl (pin_in hi_9) ?_
      refine E_iconst (v := 4) dX12_weighs_45 (by decide) ?_
      refine E_icmp_ne (tgt := 55) dX12_weighs_46 (by decide) (fun c_10 => ?_) (fun c_10 => ?_)
      · have hf := pO_neg c_10 hf
        refine E_iload_n dX12_weighs_55 rfl ?_
        exact E_iret rfl dX12_weighs_56 ⟨_, rfl, hf⟩
      · have hf := pO_pos c_10 hf
        refine E_iload_n dX12_weighs_49 rfl ?_
        refine E_iconst (v := 3) dX12_weighs_50 (by decide) ?_
        refine E_iadd dX12_weighs_51 ?_
        refine E_goto (tgt := 56) dX12_weighs_52 (by decide) ?_
        exact E_iret rfl dX12_weighs_56 ⟨_, rfl, hf⟩
    · have hf := pO_pos c_8 hf
      refine E_iload_n dX12_weighs_35 rfl ?_
      refine E_goto (tgt := 56) dX12_weighs_36 (by decide) ?_
      exact E_iret rfl dX12_weighs_56 ⟨_, rfl, hf⟩
theorem hi_X12_take_12 : ∀ w ∈ u_ws RX12 TX12 32, w ∈ wsX12_take := fun w h => of_decide_eq_true (List.all_eq_true.mp (by decide +kernel : (u_ws RX12 TX12 32).all (fun w => decide (w ∈ wsX12_take)) = true) w h)
theorem fl_X12_take_98 : pFL wsX12_take RX12 98 12 6 := ⟨RX12, TX12, 32, hi_X12_take_12, rfl, by decide, by decide +kernel⟩
def g_X12_take_31 : Nat → PS → Int32 → Int32 → Option ((Int32 × PS) ⊕ (PS))
  | 0, _, _, _ => none
  | fuel + 1, S, v3, v4 =>
    if (S.1 4) ≤ (v4 + 1) then (some (.inr (S))) else (pbnd (f_X12_lay S v4 (v4 + 1)) (fun _ S_7 => g_X12_take_31 fuel S_7 v3 (v4 + 1)))
set_option maxRecDepth 100000 in
theorem l_X12_take_31 (l : Launch) (D : va_G) (dA : Nat → ClassId) (ad : Nat → Nat) (d : Nat) (hd : 1 ≤ d) {Q : Int32 → List PC → Prop} : ∀ (fuel : Nat) (S : PS) (v3 : Int32) (v4 : Int32), pO (g_X12_take_31 fuel S v3 v4) (fun y => match y with
    | .inl x => Q x.1 (hM x.2)
    | .inr w => Ev l D dA ad wsX12_take cX12_take RX12 5 (some .int) d 38 (pKi D dA ad 38 Q) 58 [(0, .ref 0), (3, .int v3)] [] (hM w)) → Ev l D dA ad wsX12_take cX12_take RX12 5 (some .int) d 38 (pKi D dA ad 38 Q) 31 [(0, .ref 0), (3, .int v3), (4, .int v4)] [] (hM S) := by
  intro fuel
  induction fuel with
  | zero =>
    intro S v3 v4 hf
    exact hf.elim
  | succ fuel ih =>
    intro S v3 v4 hf
    rw [g_X12_take_31] at hf
    refine E_iload dX12_take_31 rfl ?_
    refine E_iconst (v := 1) dX12_take_33 (by decide) ?_
    refine E_iadd dX12_take_34 ?_
    refine E_aload_n dX12_take_35 rfl ?_
    refine E_getf (v := .int (S.1 4)) dX12_take_36 fl_X12_take_98 rfl rfl ?_
    refine E_icmp_ge (tgt := 58) dX12_take_39 (by decide) (fun c_6 => ?_) (fun c_6 => ?_)
    · have hf := pO_pos c_6 hf
      exact E_sub (ls' := [(0, .ref 0), (3, .int v3)]) ⟨rfl, rfl, trivial⟩ hf
    · have hf := pO_neg c_6 hf
      refine E_aload_n dX12_take_42 rfl ?_
      refine E_iload dX12_take_43 rfl ?_
      refine E_iload dX12_take_45 rfl ?_
      refine E_iconst (v := 1) dX12_take_47 (by decide) ?_
      refine E_iadd dX12_take_48 ?_
      refine E_callVV (st := []) (c_X12_lay l D dA ad S v4 (v4 + 1) (pO_bnd hf)) mf_X12_lay rfl rfl gX12_take_X12_lay (pRc.of (ci := 12) rfl rfl) (by omega) rfl (Nat.le_of_ble_eq_true rfl) (by rfl) dX12_take_49 (fun h7 q7 => ?_)
      obtain ⟨r7, S_7, rfl, hf⟩ := q7
      dsimp only at hf
      refine E_iinc (v := v4 + 1) (ls' := [(0, .ref 0), (3, .int v3), (4, .int (v4 + 1))]) dX12_take_52 rfl rfl (by decide) rfl ?_
      refine E_goto (tgt := 31) dX12_take_55 (by decide) ?_
      exact E_sub (ls' := [(0, .ref 0), (3, .int v3), (4, .int (v4 + 1))]) ⟨rfl, rfl, rfl, trivial⟩ (ih S_7 v3 (v4 + 1) hf)
theorem mf_X12_take : pMF yX12_take wsX12_take cX12_take 5 (some .int) 1 := ⟨⟨_, rfl⟩, by decide +kernel, by decide, by decide +kernel, by decide +kernel, by decide +kernel⟩
def f_X12_take (S : PS) (v1 : Int32) : Option (Int32 × PS) :=
  pbnd (f_X12_isName S v1) (fun r1 S_1 => if r1 = (0 : Int32) then (some ((-1), S_1)) else (pbnd (f_X12_find S_1 v1) (fun r3 S_3 => if (0 : Int32) ≤ r3 then (pbnd (f_X12_weighs S_3 r3) (fun r5 S_5 => plp (g_X12_take_31 pfuel S_5 r5 r3) (fun (S_8 : PS) => some (r5, (pI S_8 4 ((S_8.1 4) - 1)))))) else (some ((-2), S_3)))))
set_option maxRecDepth 100000 in
theorem c_X12_take (l : Launch) (D : va_G) (dA : Nat → ClassId) (ad : Nat → Nat) (S : PS) (v1 : Int32) {P : (Int32 × PS) → Prop} (hf : pO (f_X12_take S v1) P) : CtI l D dA ad yX12_take wsX12_take 1 [.ref 0, .int v1] (hM S) (fun r h' => ∃ S' : PS, h' = hM S' ∧ P (r, S')) := by
  refine CtI_of mf_X12_take rfl rfl (Nat.le_of_ble_eq_true rfl) rfl (hM_len S) ?_
  unfold f_X12_take at hf
  refine E_iload_n dX12_take_0 rfl ?_
  refine E_callSI (st := []) (c_X12_isName l D dA ad S v1 (pO_bnd hf)) mf_X12_isName rfl gX12_take_X12_isName (by omega) rfl (Nat.le_of_ble_eq_true rfl) (by rfl) dX12_take_1 (fun r1 h1 q1 => ?_)
  obtain ⟨S_1, rfl, hf⟩ := q1
  dsimp only at hf
  refine E_if_ne (tgt := 9) dX12_take_4 (by decide) (fun c_2 => ?_) (fun c_2 => ?_)
  · have hf := pO_neg c_2 hf
    refine E_aload_n dX12_take_9 rfl ?_
    refine E_iload_n dX12_take_10 rfl ?_
    refine E_callVI (st := []) (c_X12_find l D dA ad S_1 v1 (pO_bnd hf)) mf_X12_find rfl rfl gX12_take_X12_find (pRc.of (ci := 12) rfl rfl) (by omega) rfl (Nat.le_of_ble_eq_true rfl) (by rfl) dX12_take_11 (fun r3 h3 q3 => ?_)
    obtain ⟨S_3, rfl, hf⟩ := q3
    dsimp only at hf
    refine E_istore_n (ls' := [(0, .ref 0), (1, .int v1), (2, .int r3)]) dX12_take_14 (by decide) rfl ?_
    refine E_iload_n dX12_take_15 rfl ?_
    refine E_if_ge (tgt := 22) dX12_take_16 (by decide) (fun c_4 => ?_) (fun c_4 => ?_)
    · have hf := pO_pos c_4 hf
      refine E_aload_n dX12_take_22 rfl ?_
      refine E_iload_n dX12_take_23 rfl ?_
      refine E_callVI (st := []) (c_X12_weighs l D dA ad S_3 r3 (pO_bnd hf)) mf_X12_weighs rfl rfl gX12_take_X12_weighs (pRc.of (ci := 12) rfl rfl) (by omega) rfl (Nat.le_of_ble_eq_true rfl) (by rfl) dX12_take_24 (fun r5 h5 q5 => ?_)
      obtain ⟨S_5, rfl, hf⟩ := q5
      dsimp only at hf
      refine E_istore_n (ls' := [(0, .ref 0), (1, .int v1), (2, .int r3), (3, .int r5)]) dX12_take_27 (by decide) rfl ?_
      refine E_iload_n dX12_take_28 rfl ?_
      refine E_istore (ls' := [(0, .ref 0), (1, .int v1), (2, .int r3), (3, .int r5), (4, .int r3)]) dX12_take_29 (by decide) rfl ?_
      refine E_sub (ls' := [(0, .ref 0), (3, .int r5), (4, .int r3)]) ⟨rfl, rfl, rfl, trivial⟩ ?_
      refine l_X12_take_31 l D dA ad _ (by omega) pfuel S_5 r5 r3 (pO_lp hf (fun x hx => ⟨x.2, rfl, hx⟩) (fun w8 hf => ?_))
      obtain ⟨S_8, rfl⟩ : ∃ z, z = w8 := ⟨_, rfl⟩
      dsimp only at hf ⊢
      refine E_aload_n dX12_take_58 rfl ?_
      refine E_dup dX12_take_59 rfl ?_
      refine E_getf (v := .int (S_8.1 4)) dX12_take_60 fl_X12_take_98 rfl rfl ?_
      refine E_iconst (v := 1) dX12_take_63 (by decide) ?_
      refine E_isub dX12_take_64 ?_
      refine E_putf (h' := hM (pI S_8 4 ((S_8.1 4) - 1))) dX12_take_65 fl_X12_take_98 ft_12_6 rfl (Nat.lt_of_lt_of_eq (by decide : 6 < 32) rfl) rfl rfl ⟨_, rfl⟩ (sM_I4 S_8 ((S_8.1 4) - 1)) ?_
      refine E_iload_n dX12_take_68 rfl ?_
      exact E_iret rfl dX12_take_69 ⟨_, rfl, hf⟩
    · have hf := pO_neg c_4 hf
      refine E_bipush (v := (-2)) dX12_take_19 (by decide) ?_
      exact E_iret rfl dX12_take_21 ⟨_, rfl, hf⟩
  · have hf := pO_pos c_2 hf
    refine E_iconst (v := (-1)) dX12_take_7 (by decide) ?_
    exact E_iret rfl dX12_take_8 ⟨_, rfl, hf⟩
theorem hi_X12_move_12 : ∀ w ∈ u_ws RX12 TX12 32, w ∈ wsX12_move := fun w h => of_decide_eq_true (List.all_eq_true.mp (by decide +kernel : (u_ws RX12 TX12 32).all (fun w => decide (w ∈ wsX12_move)) = true) w h)
theorem fl_X12_move_37 : pFL wsX12_move RX12 37 12 10 := ⟨RX12, TX12, 32, hi_X12_move_12, rfl, by decide, by decide +kernel⟩
theorem fl_X12_move_40 : pFL wsX12_move RX12 40 12 11 := ⟨RX12, TX12, 32, hi_X12_move_12, rfl, by decide, by decide +kernel⟩
theorem mf_X12_move : pMF yX12_move wsX12_move cX12_move 6 (some .int) 3 := ⟨⟨_, rfl⟩, by decide +kernel, by decide, by decide +kernel, by decide +kernel, by decide +kernel⟩
def f_X12_move (S : PS) (v1 : Int32) (v2 : Int32) (v3 : Int32) : Option (Int32 × PS) :=
  pbnd (f_X12_isName S v1) (fun r1 S_1 => if r1 = (0 : Int32) then (some ((-1), S_1)) else (pbnd (f_X12_isSection S_1 v2) (fun r3 S_3 => if r3 = (0 : Int32) then (some ((-1), S_3)) else (pbnd (f_X12_in S_3 v3 (-20) 20) (fun r5 S_5 => if r5 = (0 : Int32) then (some ((-1), S_5)) else (pbnd (f_X12_find S_5 v1) (fun r7 S_7 => if (0 : Int32) ≤ r7 then (pgd (pin r7 16) (pgd (pin r7 16) (pgd (pin r7 16) (some ((S_7.2 5) r7.toNatClampNeg, (pAr (pAr S_7 5 (upd (S_7.2 5) r7.toNatClampNeg v2)) 6 (upd (S_7.2 6) r7.toNatClampNeg v3))))))) else (some ((-2), S_7)))))))))
set_option maxRecDepth 100000 in
theorem c_X12_move (l : Launch) (D : va_G) (dA : Nat → ClassId) (ad : Nat → Nat) (S : PS) (v1 : Int32) (v2 : Int32) (v3 : Int32) {P : (Int32 × PS) → Prop} (hf : pO (f_X12_move S v1 v2 v3) P) : CtI l D dA ad yX12_move wsX12_move 2 [.ref 0, .int v1, .int v2, .int v3] (hM S) (fun r h' => ∃ S' : PS, h' = hM S' ∧ P (r, S')) := by
  refine CtI_of mf_X12_move rfl rfl (Nat.le_of_ble_eq_true rfl) rfl (hM_len S) ?_
  unfold f_X12_move at hf
  refine E_iload_n dX12_move_0 rfl ?_
  refine E_callSI (st := []) (c_X12_isName l D dA ad S v1 (pO_bnd hf)) mf_X12_isName rfl gX12_move_X12_isName (by omega) rfl (Nat.le_of_ble_eq_true rfl) (by rfl) dX12_move_1 (fun r1 h1 q1 => ?_)
  obtain ⟨S_1, rfl, hf⟩ := q1
  dsimp only at hf
  refine E_if_eq (tgt := 26) dX12_move_4 (by decide) (fun c_2 => ?_) (fun c_2 => ?_)
  · have hf := pO_pos c_2 hf
    refine E_iconst (v := (-1)) dX12_move_26 (by decide) ?_
    exact E_iret rfl dX12_move_27 ⟨_, rfl, hf⟩
  · have hf := pO_neg c_2 hf
    refine E_aload_n dX12_move_7 rfl ?_
    refine E_iload_n dX12_move_8 rfl ?_
    refine E_callVI (st := []) (c_X12_isSection l D dA ad S_1 v2 (pO_bnd hf)) mf_X12_isSection rfl rfl gX12_move_X12_isSection (pRc.of (ci := 12) rfl rfl) (by omega) rfl (Nat.le_of_ble_eq_true rfl) (by rfl) dX12_move_9 (fun r3 h3 q3 => ?_)
    obtain ⟨S_3, rfl, hf⟩ := q3
    dsimp only at hf
    refine E_if_eq (tgt := 26) dX12_move_12 (by decide) (fun c_4 => ?_) (fun c_4 => ?_)
    · have hf := pO_pos c_4 hf
      refine E_iconst (v := (-1)) dX12_move_26 (by decide) ?_
      exact E_iret rfl dX12_move_27 ⟨_, rfl, hf⟩
    · have hf := pO_neg c_4 hf
      refine E_iload_n dX12_move_15 rfl ?_
      refine E_bipush (v := (-20)) dX12_move_16 (by decide) ?_
      refine E_bipush (v := 20) dX12_move_18 (by decide) ?_
      refine E_callSI (st := []) (c_X12_in l D dA ad S_3 v3 (-20) 20 (pO_bnd hf)) mf_X12_in rfl gX12_move_X12_in (by omega) rfl (Nat.le_of_ble_eq_true rfl) (by rfl) dX12_move_20 (fun r5 h5 q5 => ?_)
      obtain ⟨S_5, rfl, hf⟩ := q5
      dsimp only at hf
      refine E_if_ne (tgt := 28) dX12_move_23 (by decide) (fun c_6 => ?_) (fun c_6 => ?_)
      · have hf := pO_neg c_6 hf
        refine E_aload_n dX12_move_28 rfl ?_
        refine E_iload_n dX12_move_29 rfl ?_
        refine E_callVI (st := []) (c_X12_find l D dA ad S_5 v1 (pO_bnd hf)) mf_X12_find rfl rfl gX12_move_X12_find (pRc.of (ci := 12) rfl rfl) (by omega) rfl (Nat.le_of_ble_eq_true rfl) (by rfl) dX12_move_30 (fun r7 h7 q7 => ?_)
        obtain ⟨S_7, rfl, hf⟩ := q7
        dsimp only at hf
        refine E_istore (ls' := [(0, .ref 0), (1, .int v1), (2, .int v2), (3, .int v3), (4, .int r7)]) dX12_move_33 (by decide) rfl ?_
        refine E_iload dX12_move_35 rfl ?_
        refine E_if_ge (tgt := 43) dX12_move_37 (by decide) (fun c_8 => ?_) (fun c_8 => ?_)
        · have hf := pO_pos c_8 hf
          refine E_aload_n dX12_move_43 rfl ?_
          refine E_getf (v := .ref 6) dX12_move_44 fl_X12_move_37 rfl rfl ?_
          refine E_iload dX12_move_47 rfl ?_
          obtain ⟨hi_9, hf⟩ := pO_gd hf
          refine E_iald (n0 := 16) (f := S_7.2 5) dX12_move_49 rfl (pin_in hi_9) ?_
          refine E_istore (ls' := [(0, .ref 0), (1, .int v1), (2, .int v2), (3, .int v3), (4, .int r7), (5, .int ((S_7.2 5) r7.toNatClampNeg))]) dX12_move_50 (by decide) rfl ?_
          refine E_aload_n dX12_move_52 rfl ?_
          refine E_getf (v := .ref 6) dX12_move_53 fl_X12_move_37 rfl rfl ?_
          refine E_iload dX12_move_56 rfl ?_
          refine E_iload_n dX12_move_58 rfl ?_
          obtain ⟨hi_10, hf⟩ := pO_gd hf
          refine E_iast (n0 := 16) (f := S_7.2 5) (h' := hM (pAr S_7 5 (upd (S_7.2 5) r7.toNatClampNeg v2))) dX12_move_59 rfl (pin_in hi_10) (sM_A5 S_7 (upd (S_7.2 5) r7.toNatClampNeg v2)) ?_
          refine E_aload_n dX12_move_60 rfl ?_
          refine E_getf (v := .ref 7) dX12_move_61 fl_X12_move_40 rfl rfl ?_
          refine E_iload dX12_move_64 rfl ?_
          refine E_iload_n dX12_move_66 rfl ?_
          obtain ⟨hi_11, hf⟩ := pO_gd hf
          refine E_iast (n0 := 16) (f := S_7.2 6) (h' := hM (pAr (pAr S_7 5 (upd (S_7.2 5) r7.toNatClampNeg v2)) 6 (upd (S_7.2 6) r7.toNatClampNeg v3))) dX12_move_67 rfl (pin_in hi_11) (sM_A6 (pAr S_7 5 (upd (S_7.2 5) r7.toNatClampNeg v2)) (upd (S_7.2 6) r7.toNatClampNeg v3)) ?_
          refine E_iload dX12_move_68 rfl ?_
          exact E_iret rfl dX12_move_70 ⟨_, rfl, hf⟩
        · have hf := pO_neg c_8 hf
          refine E_bipush (v := (-2)) dX12_move_40 (by decide) ?_
          exact E_iret rfl dX12_move_42 ⟨_, rfl, hf⟩
      · have hf := pO_pos c_6 hf
        refine E_iconst (v := (-1)) dX12_move_26 (by decide) ?_
        exact E_iret rfl dX12_move_27 ⟨_, rfl, hf⟩
theorem hi_X12_goods_12 : ∀ w ∈ u_ws RX12 TX12 32, w ∈ wsX12_goods := fun w h => of_decide_eq_true (List.all_eq_true.mp (by decide +kernel : (u_ws RX12 TX12 32).all (fun w => decide (w ∈ wsX12_goods)) = true) w h)
theorem fl_X12_goods_31 : pFL wsX12_goods RX12 31 12 8 := ⟨RX12, TX12, 32, hi_X12_goods_12, rfl, by decide, by decide +kernel⟩
theorem fl_X12_goods_34 : pFL wsX12_goods RX12 34 12 9 := ⟨RX12, TX12, 32, hi_X12_goods_12, rfl, by decide, by decide +kernel⟩
theorem fl_X12_goods_37 : pFL wsX12_goods RX12 37 12 10 := ⟨RX12, TX12, 32, hi_X12_goods_12, rfl, by decide, by decide +kernel⟩
theorem fl_X12_goods_40 : pFL wsX12_goods RX12 40 12 11 := ⟨RX12, TX12, 32, hi_X12_goods_12, rfl, by decide, by decide +kernel⟩
theorem fl_X12_goods_43 : pFL wsX12_goods RX12 43 12 12 := ⟨RX12, TX12, 32, hi_X12_goods_12, rfl, by decide, by decide +kernel⟩
theorem hi_X12_allWeight_12 : ∀ w ∈ u_ws RX12 TX12 32, w ∈ wsX12_allWeight := fun w h => of_decide_eq_true (List.all_eq_true.mp (by decide +kernel : (u_ws RX12 TX12 32).all (fun w => decide (w ∈ wsX12_allWeight)) = true) w h)
theorem fl_X12_allWeight_18 : pFL wsX12_allWeight RX12 18 12 2 := ⟨RX12, TX12, 32, hi_X12_allWeight_12, rfl, by decide, by decide +kernel⟩
theorem fl_X12_allWeight_98 : pFL wsX12_allWeight RX12 98 12 6 := ⟨RX12, TX12, 32, hi_X12_allWeight_12, rfl, by decide, by decide +kernel⟩
def g_X12_allWeight_7 : Nat → PS → Int32 → Int32 → Option ((Int32 × PS) ⊕ (PS × Int32))
  | 0, _, _, _ => none
  | fuel + 1, S, v1, v2 =>
    if (S.1 4) ≤ v2 then (some (.inr (S, v1))) else (pbnd (f_X12_weighs S v2) (fun r2 S_2 => g_X12_allWeight_7 fuel S_2 (v1 + r2) (v2 + 1)))
set_option maxRecDepth 100000 in
theorem l_X12_allWeight_7 (l : Launch) (D : va_G) (dA : Nat → ClassId) (ad : Nat → Nat) (d : Nat) (hd : 1 ≤ d) {Q : Int32 → List PC → Prop} : ∀ (fuel : Nat) (S : PS) (v1 : Int32) (v2 : Int32), pO (g_X12_allWeight_7 fuel S v1 v2) (fun y => match y with
    | .inl x => Q x.1 (hM x.2)
    | .inr w => Ev l D dA ad wsX12_allWeight cX12_allWeight RX12 3 (some .int) d 38 (pKi D dA ad 38 Q) 29 [(0, .ref 0), (1, .int w.2)] [] (hM w.1)) → Ev l D dA ad wsX12_allWeight cX12_allWeight RX12 3 (some .int) d 38 (pKi D dA ad 38 Q) 7 [(0, .ref 0), (1, .int v1), (2, .int v2)] [] (hM S) := by
  intro fuel
  induction fuel with
  | zero =>
    intro S v1 v2 hf
    exact hf.elim
  | succ fuel ih =>
    intro S v1 v2 hf
    rw [g_X12_allWeight_7] at hf
    refine E_iload_n dX12_allWeight_7 rfl ?_
    refine E_aload_n dX12_allWeight_8 rfl ?_
    refine E_getf (v := .int (S.1 4)) dX12_allWeight_9 fl_X12_allWeight_98 rfl rfl ?_
    refine E_icmp_ge (tgt := 29) dX12_allWeight_12 (by decide) (fun c_1 => ?_) (fun c_1 => ?_)
    · have hf := pO_pos c_1 hf
      exact E_sub (ls' := [(0, .ref 0), (1, .int v1)]) ⟨rfl, rfl, trivial⟩ hf
    · have hf := pO_neg c_1 hf
      refine E_iload_n dX12_allWeight_15 rfl ?_
      refine E_aload_n dX12_allWeight_16 rfl ?_
      refine E_iload_n dX12_allWeight_17 rfl ?_
      refine E_callVI (st := [.int v1]) (c_X12_weighs l D dA ad S v2 (pO_bnd hf)) mf_X12_weighs rfl rfl gX12_allWeight_X12_weighs (pRc.of (ci := 12) rfl rfl) (by omega) rfl (Nat.le_of_ble_eq_true rfl) (by rfl) dX12_allWeight_18 (fun r2 h2 q2 => ?_)
      obtain ⟨S_2, rfl, hf⟩ := q2
      dsimp only at hf
      refine E_iadd dX12_allWeight_21 ?_
      refine E_istore_n (ls' := [(0, .ref 0), (1, .int (v1 + r2)), (2, .int v2)]) dX12_allWeight_22 (by decide) rfl ?_
      refine E_iinc (v := v2 + 1) (ls' := [(0, .ref 0), (1, .int (v1 + r2)), (2, .int (v2 + 1))]) dX12_allWeight_23 rfl rfl (by decide) rfl ?_
      refine E_goto (tgt := 7) dX12_allWeight_26 (by decide) ?_
      exact E_sub (ls' := [(0, .ref 0), (1, .int (v1 + r2)), (2, .int (v2 + 1))]) ⟨rfl, rfl, rfl, trivial⟩ (ih S_2 (v1 + r2) (v2 + 1) hf)
theorem fl_X12_allWeight_55 : pFL wsX12_allWeight RX12 55 12 16 := ⟨RX12, TX12, 32, hi_X12_allWeight_12, rfl, by decide, by decide +kernel⟩
def g_X12_allWeight_31 : Nat → PS → Int32 → Int32 → Option ((Int32 × PS) ⊕ (PS × Int32))
  | 0, _, _, _ => none
  | fuel + 1, S, v1, v2 =>
    if (4 : Int32) ≤ v2 then (some (.inr (S, v1))) else (pgd (pin v2 4) (g_X12_allWeight_31 fuel S (v1 + ((S.2 11) v2.toNatClampNeg)) (v2 + 1)))
set_option maxRecDepth 100000 in
theorem l_X12_allWeight_31 (l : Launch) (D : va_G) (dA : Nat → ClassId) (ad : Nat → Nat) (d : Nat) (hd : 1 ≤ d) {Q : Int32 → List PC → Prop} : ∀ (fuel : Nat) (S : PS) (v1 : Int32) (v2 : Int32), pO (g_X12_allWeight_31 fuel S v1 v2) (fun y => match y with
    | .inl x => Q x.1 (hM x.2)
    | .inr w => Ev l D dA ad wsX12_allWeight cX12_allWeight RX12 3 (some .int) d 38 (pKi D dA ad 38 Q) 51 [(1, .int w.2)] [] (hM w.1)) → Ev l D dA ad wsX12_allWeight cX12_allWeight RX12 3 (some .int) d 38 (pKi D dA ad 38 Q) 31 [(0, .ref 0), (1, .int v1), (2, .int v2)] [] (hM S) := by
  intro fuel
  induction fuel with
  | zero =>
    intro S v1 v2 hf
    exact hf.elim
  | succ fuel ih =>
    intro S v1 v2 hf
    rw [g_X12_allWeight_31] at hf
    refine E_iload_n dX12_allWeight_31 rfl ?_
    refine E_iconst (v := 4) dX12_allWeight_32 (by decide) ?_
    refine E_icmp_ge (tgt := 51) dX12_allWeight_33 (by decide) (fun c_4 => ?_) (fun c_4 => ?_)
    · have hf := pO_pos c_4 hf
      exact E_sub (ls' := [(1, .int v1)]) ⟨rfl, trivial⟩ hf
    · have hf := pO_neg c_4 hf
      refine E_iload_n dX12_allWeight_36 rfl ?_
      refine E_aload_n dX12_allWeight_37 rfl ?_
      refine E_getf (v := .ref 12) dX12_allWeight_38 fl_X12_allWeight_55 rfl rfl ?_
      refine E_iload_n dX12_allWeight_41 rfl ?_
      obtain ⟨hi_5, hf⟩ := pO_gd hf
      refine E_iald (n0 := 4) (f := S.2 11) dX12_allWeight_42 rfl (pin_in hi_5) ?_
      refine E_iadd dX12_allWeight_43 ?_
      refine E_istore_n (ls' := [(0, .ref 0), (1, .int (v1 + ((S.2 11) v2.toNatClampNeg))), (2, .int v2)]) dX12_allWeight_44 (by decide) rfl ?_
      refine E_iinc (v := v2 + 1) (ls' := [(0, .ref 0), (1, .int (v1 + ((S.2 11) v2.toNatClampNeg))), (2, .int (v2 + 1))]) dX12_allWeight_45 rfl rfl (by decide) rfl ?_
      refine E_goto (tgt := 31) dX12_allWeight_48 (by decide) ?_
      exact E_sub (ls' := [(0, .ref 0), (1, .int (v1 + ((S.2 11) v2.toNatClampNeg))), (2, .int (v2 + 1))]) ⟨rfl, rfl, rfl, trivial⟩ (ih S (v1 + ((S.2 11) v2.toNatClampNeg)) (v2 + 1) hf)
theorem mf_X12_allWeight : pMF yX12_allWeight wsX12_allWeight cX12_allWeight 3 (some .int) 0 := ⟨⟨_, rfl⟩, by decide +kernel, by decide, by decide +kernel, by decide +kernel, by decide +kernel⟩
def f_X12_allWeight (S : PS) : Option (Int32 × PS) :=
  plp (g_X12_allWeight_7 pfuel S (S.1 2) 0) (fun w => (fun (S_3 : PS) (v1_3 : Int32) => plp (g_X12_allWeight_31 pfuel S_3 v1_3 0) (fun w => (fun (S_6 : PS) (v1_6 : Int32) => some (v1_6, S_6)) w.1 w.2)) w.1 w.2)
set_option maxRecDepth 100000 in
theorem c_X12_allWeight (l : Launch) (D : va_G) (dA : Nat → ClassId) (ad : Nat → Nat) (S : PS) {P : (Int32 × PS) → Prop} (hf : pO (f_X12_allWeight S) P) : CtI l D dA ad yX12_allWeight wsX12_allWeight 1 [.ref 0] (hM S) (fun r h' => ∃ S' : PS, h' = hM S' ∧ P (r, S')) := by
  refine CtI_of mf_X12_allWeight rfl rfl (Nat.le_of_ble_eq_true rfl) rfl (hM_len S) ?_
  unfold f_X12_allWeight at hf
  refine E_aload_n dX12_allWeight_0 rfl ?_
  refine E_getf (v := .int (S.1 2)) dX12_allWeight_1 fl_X12_allWeight_18 rfl rfl ?_
  refine E_istore_n (ls' := [(0, .ref 0), (1, .int (S.1 2))]) dX12_allWeight_4 (by decide) rfl ?_
  refine E_iconst (v := 0) dX12_allWeight_5 (by decide) ?_
  refine E_istore_n (ls' := [(0, .ref 0), (1, .int (S.1 2)), (2, .int 0)]) dX12_allWeight_6 (by decide) rfl ?_
  refine E_sub (ls' := [(0, .ref 0), (1, .int (S.1 2)), (2, .int 0)]) ⟨rfl, rfl, rfl, trivial⟩ ?_
  refine l_X12_allWeight_7 l D dA ad _ (by omega) pfuel S (S.1 2) 0 (pO_lp hf (fun x hx => ⟨x.2, rfl, hx⟩) (fun w3 hf => ?_))
  obtain ⟨S_3, v1_3⟩ := w3
  dsimp only at hf ⊢
  refine E_iconst (v := 0) dX12_allWeight_29 (by decide) ?_
  refine E_istore_n (ls' := [(0, .ref 0), (1, .int v1_3), (2, .int 0)]) dX12_allWeight_30 (by decide) rfl ?_
  refine E_sub (ls' := [(0, .ref 0), (1, .int v1_3), (2, .int 0)]) ⟨rfl, rfl, rfl, trivial⟩ ?_
  refine l_X12_allWeight_31 l D dA ad _ (by omega) pfuel S_3 v1_3 0 (pO_lp hf (fun x hx => ⟨x.2, rfl, hx⟩) (fun w6 hf => ?_))
  obtain ⟨S_6, v1_6⟩ := w6
  dsimp only at hf ⊢
  refine E_iload_n dX12_allWeight_51 rfl ?_
  exact E_iret rfl dX12_allWeight_52 ⟨_, rfl, hf⟩
theorem hi_X12_lineFor_12 : ∀ w ∈ u_ws RX12 TX12 32, w ∈ wsX12_lineFor := fun w h => of_decide_eq_true (List.all_eq_true.mp (by decide +kernel : (u_ws RX12 TX12 32).all (fun w => decide (w ∈ wsX12_lineFor)) = true) w h)
theorem fl_X12_lineFor_15 : pFL wsX12_lineFor RX12 15 12 1 := ⟨RX12, TX12, 32, hi_X12_lineFor_12, rfl, by decide, by decide +kernel⟩
theorem hi_X12_waterOfAll_12 : ∀ w ∈ u_ws RX12 TX12 32, w ∈ wsX12_waterOfAll := fun w h => of_decide_eq_true (List.all_eq_true.mp (by decide +kernel : (u_ws RX12 TX12 32).all (fun w => decide (w ∈ wsX12_waterOfAll)) = true) w h)
theorem fl_X12_waterOfAll_9 : pFL wsX12_waterOfAll RX12 9 12 0 := ⟨RX12, TX12, 32, hi_X12_waterOfAll_12, rfl, by decide, by decide +kernel⟩
theorem hi_X12_waterOf_12 : ∀ w ∈ u_ws RX12 TX12 32, w ∈ wsX12_waterOf := fun w h => of_decide_eq_true (List.all_eq_true.mp (by decide +kernel : (u_ws RX12 TX12 32).all (fun w => decide (w ∈ wsX12_waterOf)) = true) w h)
theorem fl_X12_waterOf_15 : pFL wsX12_waterOf RX12 15 12 1 := ⟨RX12, TX12, 32, hi_X12_waterOf_12, rfl, by decide, by decide +kernel⟩
theorem fl_X12_waterOf_21 : pFL wsX12_waterOf RX12 21 12 4 := ⟨RX12, TX12, 32, hi_X12_waterOf_12, rfl, by decide, by decide +kernel⟩
theorem fl_X12_waterOf_25 : pFL wsX12_waterOf RX12 25 12 5 := ⟨RX12, TX12, 32, hi_X12_waterOf_12, rfl, by decide, by decide +kernel⟩
theorem mf_X12_waterOf : pMF yX12_waterOf wsX12_waterOf cX12_waterOf 4 (some .int) 2 := ⟨⟨_, rfl⟩, by decide +kernel, by decide, by decide +kernel, by decide +kernel, by decide +kernel⟩
def f_X12_waterOf (S : PS) (v1 : Int32) (v2 : Int32) : Option (Int32 × PS) :=
  pgd (pin v1 10) (pgd (pin v1 10) (some (((S.2 0) v1.toNatClampNeg) * (pmax 0 ((pmax 0 (pmin (64 * (S.1 1)) v2)) - (64 * ((S.2 1) v1.toNatClampNeg)))), S)))
set_option maxRecDepth 100000 in
theorem c_X12_waterOf (l : Launch) (D : va_G) (dA : Nat → ClassId) (ad : Nat → Nat) (S : PS) (v1 : Int32) (v2 : Int32) {P : (Int32 × PS) → Prop} (hf : pO (f_X12_waterOf S v1 v2) P) : CtI l D dA ad yX12_waterOf wsX12_waterOf 1 [.ref 0, .int v1, .int v2] (hM S) (fun r h' => ∃ S' : PS, h' = hM S' ∧ P (r, S')) := by
  refine CtI_of mf_X12_waterOf rfl rfl (Nat.le_of_ble_eq_true rfl) rfl (hM_len S) ?_
  unfold f_X12_waterOf at hf
  refine E_iconst (v := 0) dX12_waterOf_0 (by decide) ?_
  refine E_bipush (v := 64) dX12_waterOf_1 (by decide) ?_
  refine E_aload_n dX12_waterOf_3 rfl ?_
  refine E_getf (v := .int (S.1 1)) dX12_waterOf_4 fl_X12_waterOf_15 rfl rfl ?_
  refine E_imul dX12_waterOf_7 ?_
  refine E_iload_n dX12_waterOf_8 rfl ?_
  refine E_mmin (by decide +kernel) (by decide +kernel) (by decide +kernel) (by decide +kernel) (by omega) (Nat.le_of_ble_eq_true rfl) (by rfl) dX12_waterOf_9 ?_
  refine E_mmax (by decide +kernel) (by decide +kernel) (by decide +kernel) (by decide +kernel) (by omega) (Nat.le_of_ble_eq_true rfl) (by rfl) dX12_waterOf_12 ?_
  refine E_istore_n (ls' := [(0, .ref 0), (1, .int v1), (2, .int v2), (3, .int (pmax 0 (pmin (64 * (S.1 1)) v2)))]) dX12_waterOf_15 (by decide) rfl ?_
  refine E_aload_n dX12_waterOf_16 rfl ?_
  refine E_getf (v := .ref 1) dX12_waterOf_17 fl_X12_waterOf_21 rfl rfl ?_
  refine E_iload_n dX12_waterOf_20 rfl ?_
  obtain ⟨hi_1, hf⟩ := pO_gd hf
  refine E_iald (n0 := 10) (f := S.2 0) dX12_waterOf_21 rfl (pin_in hi_1) ?_
  refine E_iconst (v := 0) dX12_waterOf_22 (by decide) ?_
  refine E_iload_n dX12_waterOf_23 rfl ?_
  refine E_bipush (v := 64) dX12_waterOf_24 (by decide) ?_
  refine E_aload_n dX12_waterOf_26 rfl ?_
  refine E_getf (v := .ref 2) dX12_waterOf_27 fl_X12_waterOf_25 rfl rfl ?_
  refine E_iload_n dX12_waterOf_30 rfl ?_
  obtain ⟨hi_2, hf⟩ := pO_gd hf
  refine E_iald (n0 := 10) (f := S.2 1) dX12_waterOf_31 rfl (pin_in hi_2) ?_
  refine E_imul dX12_waterOf_32 ?_
  refine E_isub dX12_waterOf_33 ?_
  refine E_mmax (by decide +kernel) (by decide +kernel) (by decide +kernel) (by decide +kernel) (by omega) (Nat.le_of_ble_eq_true rfl) (by rfl) dX12_waterOf_34 ?_
  refine E_imul dX12_waterOf_37 ?_
  exact E_iret rfl dX12_waterOf_38 ⟨_, rfl, hf⟩
def g_X12_waterOfAll_4 : Nat → PS → Int32 → Int32 → Int32 → Option ((Int32 × PS) ⊕ (PS × Int32))
  | 0, _, _, _, _ => none
  | fuel + 1, S, v1, v2, v3 =>
    if (S.1 0) ≤ v3 then (some (.inr (S, v2))) else (pbnd (f_X12_waterOf S v3 v1) (fun r2 S_2 => g_X12_waterOfAll_4 fuel S_2 v1 (v2 + r2) (v3 + 1)))
set_option maxRecDepth 100000 in
theorem l_X12_waterOfAll_4 (l : Launch) (D : va_G) (dA : Nat → ClassId) (ad : Nat → Nat) (d : Nat) (hd : 2 ≤ d) {Q : Int32 → List PC → Prop} : ∀ (fuel : Nat) (S : PS) (v1 : Int32) (v2 : Int32) (v3 : Int32), pO (g_X12_waterOfAll_4 fuel S v1 v2 v3) (fun y => match y with
    | .inl x => Q x.1 (hM x.2)
    | .inr w => Ev l D dA ad wsX12_waterOfAll cX12_waterOfAll RX12 4 (some .int) d 38 (pKi D dA ad 38 Q) 27 [(2, .int w.2)] [] (hM w.1)) → Ev l D dA ad wsX12_waterOfAll cX12_waterOfAll RX12 4 (some .int) d 38 (pKi D dA ad 38 Q) 4 [(0, .ref 0), (1, .int v1), (2, .int v2), (3, .int v3)] [] (hM S) := by
  intro fuel
  induction fuel with
  | zero =>
    intro S v1 v2 v3 hf
    exact hf.elim
  | succ fuel ih =>
    intro S v1 v2 v3 hf
    rw [g_X12_waterOfAll_4] at hf
    refine E_iload_n dX12_waterOfAll_4 rfl ?_
    refine E_aload_n dX12_waterOfAll_5 rfl ?_
    refine E_getf (v := .int (S.1 0)) dX12_waterOfAll_6 fl_X12_waterOfAll_9 rfl rfl ?_
    refine E_icmp_ge (tgt := 27) dX12_waterOfAll_9 (by decide) (fun c_1 => ?_) (fun c_1 => ?_)
    · have hf := pO_pos c_1 hf
      exact E_sub (ls' := [(2, .int v2)]) ⟨rfl, trivial⟩ hf
    · have hf := pO_neg c_1 hf
      refine E_iload_n dX12_waterOfAll_12 rfl ?_
      refine E_aload_n dX12_waterOfAll_13 rfl ?_
      refine E_iload_n dX12_waterOfAll_14 rfl ?_
      refine E_iload_n dX12_waterOfAll_15 rfl ?_
      refine E_callVI (st := [.int v2]) (c_X12_waterOf l D dA ad S v3 v1 (pO_bnd hf)) mf_X12_waterOf rfl rfl gX12_waterOfAll_X12_waterOf (pRc.of (ci := 12) rfl rfl) (by omega) rfl (Nat.le_of_ble_eq_true rfl) (by rfl) dX12_waterOfAll_16 (fun r2 h2 q2 => ?_)
      obtain ⟨S_2, rfl, hf⟩ := q2
      dsimp only at hf
      refine E_iadd dX12_waterOfAll_19 ?_
      refine E_istore_n (ls' := [(0, .ref 0), (1, .int v1), (2, .int (v2 + r2)), (3, .int v3)]) dX12_waterOfAll_20 (by decide) rfl ?_
      refine E_iinc (v := v3 + 1) (ls' := [(0, .ref 0), (1, .int v1), (2, .int (v2 + r2)), (3, .int (v3 + 1))]) dX12_waterOfAll_21 rfl rfl (by decide) rfl ?_
      refine E_goto (tgt := 4) dX12_waterOfAll_24 (by decide) ?_
      exact E_sub (ls' := [(0, .ref 0), (1, .int v1), (2, .int (v2 + r2)), (3, .int (v3 + 1))]) ⟨rfl, rfl, rfl, rfl, trivial⟩ (ih S_2 v1 (v2 + r2) (v3 + 1) hf)
theorem mf_X12_waterOfAll : pMF yX12_waterOfAll wsX12_waterOfAll cX12_waterOfAll 4 (some .int) 1 := ⟨⟨_, rfl⟩, by decide +kernel, by decide, by decide +kernel, by decide +kernel, by decide +kernel⟩
def f_X12_waterOfAll (S : PS) (v1 : Int32) : Option (Int32 × PS) :=
  plp (g_X12_waterOfAll_4 pfuel S v1 0 0) (fun w => (fun (S_3 : PS) (v2_3 : Int32) => some (v2_3, S_3)) w.1 w.2)
set_option maxRecDepth 100000 in
theorem c_X12_waterOfAll (l : Launch) (D : va_G) (dA : Nat → ClassId) (ad : Nat → Nat) (S : PS) (v1 : Int32) {P : (Int32 × PS) → Prop} (hf : pO (f_X12_waterOfAll S v1) P) : CtI l D dA ad yX12_waterOfAll wsX12_waterOfAll 2 [.ref 0, .int v1] (hM S) (fun r h' => ∃ S' : PS, h' = hM S' ∧ P (r, S')) := by
  refine CtI_of mf_X12_waterOfAll rfl rfl (Nat.le_of_ble_eq_true rfl) rfl (hM_len S) ?_
  unfold f_X12_waterOfAll at hf
  refine E_iconst (v := 0) dX12_waterOfAll_0 (by decide) ?_
  refine E_istore_n (ls' := [(0, .ref 0), (1, .int v1), (2, .int 0)]) dX12_waterOfAll_1 (by decide) rfl ?_
  refine E_iconst (v := 0) dX12_waterOfAll_2 (by decide) ?_
  refine E_istore_n (ls' := [(0, .ref 0), (1, .int v1), (2, .int 0), (3, .int 0)]) dX12_waterOfAll_3 (by decide) rfl ?_
  refine E_sub (ls' := [(0, .ref 0), (1, .int v1), (2, .int 0), (3, .int 0)]) ⟨rfl, rfl, rfl, rfl, trivial⟩ ?_
  refine l_X12_waterOfAll_4 l D dA ad _ (by omega) pfuel S v1 0 0 (pO_lp hf (fun x hx => ⟨x.2, rfl, hx⟩) (fun w3 hf => ?_))
  obtain ⟨S_3, v2_3⟩ := w3
  dsimp only at hf ⊢
  refine E_iload_n dX12_waterOfAll_27 rfl ?_
  exact E_iret rfl dX12_waterOfAll_28 ⟨_, rfl, hf⟩
def g_X12_lineFor_31 : Nat → PS → Int32 → Int32 → Int32 → Option ((Int32 × PS) ⊕ (PS × Int32))
  | 0, _, _, _, _ => none
  | fuel + 1, S, v1, v2, v3 =>
    if v3 ≤ v2 then (some (.inr (S, v2))) else (pbnd (f_X12_waterOfAll S ((v2 + v3) / 2)) (fun r4 S_4 => if r4 < (64 * v1) then (g_X12_lineFor_31 fuel S_4 v1 (((v2 + v3) / 2) + 1) v3) else (g_X12_lineFor_31 fuel S_4 v1 v2 ((v2 + v3) / 2))))
set_option maxRecDepth 100000 in
theorem l_X12_lineFor_31 (l : Launch) (D : va_G) (dA : Nat → ClassId) (ad : Nat → Nat) (d : Nat) (hd : 3 ≤ d) {Q : Int32 → List PC → Prop} : ∀ (fuel : Nat) (S : PS) (v1 : Int32) (v2 : Int32) (v3 : Int32), pO (g_X12_lineFor_31 fuel S v1 v2 v3) (fun y => match y with
    | .inl x => Q x.1 (hM x.2)
    | .inr w => Ev l D dA ad wsX12_lineFor cX12_lineFor RX12 5 (some .int) d 38 (pKi D dA ad 38 Q) 70 [(2, .int w.2)] [] (hM w.1)) → Ev l D dA ad wsX12_lineFor cX12_lineFor RX12 5 (some .int) d 38 (pKi D dA ad 38 Q) 31 [(0, .ref 0), (1, .int v1), (2, .int v2), (3, .int v3)] [] (hM S) := by
  intro fuel
  induction fuel with
  | zero =>
    intro S v1 v2 v3 hf
    exact hf.elim
  | succ fuel ih =>
    intro S v1 v2 v3 hf
    rw [g_X12_lineFor_31] at hf
    refine E_iload_n dX12_lineFor_31 rfl ?_
    refine E_iload_n dX12_lineFor_32 rfl ?_
    refine E_icmp_ge (tgt := 70) dX12_lineFor_33 (by decide) (fun c_3 => ?_) (fun c_3 => ?_)
    · have hf := pO_pos c_3 hf
      exact E_sub (ls' := [(2, .int v2)]) ⟨rfl, trivial⟩ hf
    · have hf := pO_neg c_3 hf
      refine E_iload_n dX12_lineFor_36 rfl ?_
      refine E_iload_n dX12_lineFor_37 rfl ?_
      refine E_iadd dX12_lineFor_38 ?_
      refine E_iconst (v := 2) dX12_lineFor_39 (by decide) ?_
      refine E_idiv dX12_lineFor_40 (by decide) ?_
      refine E_istore (ls' := [(0, .ref 0), (1, .int v1), (2, .int v2), (3, .int v3), (4, .int ((v2 + v3) / 2))]) dX12_lineFor_41 (by decide) rfl ?_
      refine E_aload_n dX12_lineFor_43 rfl ?_
      refine E_iload dX12_lineFor_44 rfl ?_
      refine E_callVI (st := []) (c_X12_waterOfAll l D dA ad S ((v2 + v3) / 2) (pO_bnd hf)) mf_X12_waterOfAll rfl rfl gX12_lineFor_X12_waterOfAll (pRc.of (ci := 12) rfl rfl) (by omega) rfl (Nat.le_of_ble_eq_true rfl) (by rfl) dX12_lineFor_46 (fun r4 h4 q4 => ?_)
      obtain ⟨S_4, rfl, hf⟩ := q4
      dsimp only at hf
      refine E_bipush (v := 64) dX12_lineFor_49 (by decide) ?_
      refine E_iload_n dX12_lineFor_51 rfl ?_
      refine E_imul dX12_lineFor_52 ?_
      refine E_icmp_lt (tgt := 62) dX12_lineFor_53 (by decide) (fun c_5 => ?_) (fun c_5 => ?_)
      · have hf := pO_pos c_5 hf
        refine E_iload dX12_lineFor_62 rfl ?_
        refine E_iconst (v := 1) dX12_lineFor_64 (by decide) ?_
        refine E_iadd dX12_lineFor_65 ?_
        refine E_istore_n (ls' := [(0, .ref 0), (1, .int v1), (2, .int (((v2 + v3) / 2) + 1)), (3, .int v3), (4, .int ((v2 + v3) / 2))]) dX12_lineFor_66 (by decide) rfl ?_
        refine E_goto (tgt := 31) dX12_lineFor_67 (by decide) ?_
        exact E_sub (ls' := [(0, .ref 0), (1, .int v1), (2, .int (((v2 + v3) / 2) + 1)), (3, .int v3)]) ⟨rfl, rfl, rfl, rfl, trivial⟩ (ih S_4 v1 (((v2 + v3) / 2) + 1) v3 hf)
      · have hf := pO_neg c_5 hf
        refine E_iload dX12_lineFor_56 rfl ?_
        refine E_istore_n (ls' := [(0, .ref 0), (1, .int v1), (2, .int v2), (3, .int ((v2 + v3) / 2)), (4, .int ((v2 + v3) / 2))]) dX12_lineFor_58 (by decide) rfl ?_
        refine E_goto (tgt := 67) dX12_lineFor_59 (by decide) ?_
        refine E_goto (tgt := 31) dX12_lineFor_67 (by decide) ?_
        exact E_sub (ls' := [(0, .ref 0), (1, .int v1), (2, .int v2), (3, .int ((v2 + v3) / 2))]) ⟨rfl, rfl, rfl, rfl, trivial⟩ (ih S_4 v1 v2 ((v2 + v3) / 2) hf)
theorem mf_X12_lineFor : pMF yX12_lineFor wsX12_lineFor cX12_lineFor 5 (some .int) 1 := ⟨⟨_, rfl⟩, by decide +kernel, by decide, by decide +kernel, by decide +kernel, by decide +kernel⟩
def f_X12_lineFor (S : PS) (v1 : Int32) : Option (Int32 × PS) :=
  pbnd (f_X12_waterOfAll S (64 * (S.1 1))) (fun r1 S_1 => if (64 * v1) ≤ r1 then (plp (g_X12_lineFor_31 pfuel S_1 v1 0 (64 * (S_1.1 1))) (fun w => (fun (S_6 : PS) (v2_6 : Int32) => some (v2_6, S_6)) w.1 w.2)) else (some ((-2), S_1)))
set_option maxRecDepth 100000 in
theorem c_X12_lineFor (l : Launch) (D : va_G) (dA : Nat → ClassId) (ad : Nat → Nat) (S : PS) (v1 : Int32) {P : (Int32 × PS) → Prop} (hf : pO (f_X12_lineFor S v1) P) : CtI l D dA ad yX12_lineFor wsX12_lineFor 3 [.ref 0, .int v1] (hM S) (fun r h' => ∃ S' : PS, h' = hM S' ∧ P (r, S')) := by
  refine CtI_of mf_X12_lineFor rfl rfl (Nat.le_of_ble_eq_true rfl) rfl (hM_len S) ?_
  unfold f_X12_lineFor at hf
  refine E_aload_n dX12_lineFor_0 rfl ?_
  refine E_bipush (v := 64) dX12_lineFor_1 (by decide) ?_
  refine E_aload_n dX12_lineFor_3 rfl ?_
  refine E_getf (v := .int (S.1 1)) dX12_lineFor_4 fl_X12_lineFor_15 rfl rfl ?_
  refine E_imul dX12_lineFor_7 ?_
  refine E_callVI (st := []) (c_X12_waterOfAll l D dA ad S (64 * (S.1 1)) (pO_bnd hf)) mf_X12_waterOfAll rfl rfl gX12_lineFor_X12_waterOfAll (pRc.of (ci := 12) rfl rfl) (by omega) rfl (Nat.le_of_ble_eq_true rfl) (by rfl) dX12_lineFor_8 (fun r1 h1 q1 => ?_)
  obtain ⟨S_1, rfl, hf⟩ := q1
  dsimp only at hf
  refine E_bipush (v := 64) dX12_lineFor_11 (by decide) ?_
  refine E_iload_n dX12_lineFor_13 rfl ?_
  refine E_imul dX12_lineFor_14 ?_
  refine E_icmp_ge (tgt := 21) dX12_lineFor_15 (by decide) (fun c_2 => ?_) (fun c_2 => ?_)
  · have hf := pO_pos c_2 hf
    refine E_iconst (v := 0) dX12_lineFor_21 (by decide) ?_
    refine E_istore_n (ls' := [(0, .ref 0), (1, .int v1), (2, .int 0)]) dX12_lineFor_22 (by decide) rfl ?_
    refine E_bipush (v := 64) dX12_lineFor_23 (by decide) ?_
    refine E_aload_n dX12_lineFor_25 rfl ?_
    refine E_getf (v := .int (S_1.1 1)) dX12_lineFor_26 fl_X12_lineFor_15 rfl rfl ?_
    refine E_imul dX12_lineFor_29 ?_
    refine E_istore_n (ls' := [(0, .ref 0), (1, .int v1), (2, .int 0), (3, .int (64 * (S_1.1 1)))]) dX12_lineFor_30 (by decide) rfl ?_
    refine E_sub (ls' := [(0, .ref 0), (1, .int v1), (2, .int 0), (3, .int (64 * (S_1.1 1)))]) ⟨rfl, rfl, rfl, rfl, trivial⟩ ?_
    refine l_X12_lineFor_31 l D dA ad _ (by omega) pfuel S_1 v1 0 (64 * (S_1.1 1)) (pO_lp hf (fun x hx => ⟨x.2, rfl, hx⟩) (fun w6 hf => ?_))
    obtain ⟨S_6, v2_6⟩ := w6
    dsimp only at hf ⊢
    refine E_iload_n dX12_lineFor_70 rfl ?_
    exact E_iret rfl dX12_lineFor_71 ⟨_, rfl, hf⟩
  · have hf := pO_neg c_2 hf
    refine E_bipush (v := (-2)) dX12_lineFor_18 (by decide) ?_
    exact E_iret rfl dX12_lineFor_20 ⟨_, rfl, hf⟩
theorem mf_X12_line : pMF yX12_line wsX12_line cX12_line 1 (some .int) 0 := ⟨⟨_, rfl⟩, by decide +kernel, by decide, by decide +kernel, by decide +kernel, by decide +kernel⟩
def f_X12_line (S : PS) : Option (Int32 × PS) :=
  pbnd (f_X12_allWeight S) (fun r1 S_1 => pbnd (f_X12_lineFor S_1 r1) (fun r2 S_2 => some (r2, S_2)))
set_option maxRecDepth 100000 in
theorem c_X12_line (l : Launch) (D : va_G) (dA : Nat → ClassId) (ad : Nat → Nat) (S : PS) {P : (Int32 × PS) → Prop} (hf : pO (f_X12_line S) P) : CtI l D dA ad yX12_line wsX12_line 4 [.ref 0] (hM S) (fun r h' => ∃ S' : PS, h' = hM S' ∧ P (r, S')) := by
  refine CtI_of mf_X12_line rfl rfl (Nat.le_of_ble_eq_true rfl) rfl (hM_len S) ?_
  unfold f_X12_line at hf
  refine E_aload_n dX12_line_0 rfl ?_
  refine E_aload_n dX12_line_1 rfl ?_
  refine E_callVI (st := [.ref 0]) (c_X12_allWeight l D dA ad S (pO_bnd hf)) mf_X12_allWeight rfl rfl gX12_line_X12_allWeight (pRc.of (ci := 12) rfl rfl) (by omega) rfl (Nat.le_of_ble_eq_true rfl) (by rfl) dX12_line_2 (fun r1 h1 q1 => ?_)
  obtain ⟨S_1, rfl, hf⟩ := q1
  dsimp only at hf
  refine E_callVI (st := []) (c_X12_lineFor l D dA ad S_1 r1 (pO_bnd hf)) mf_X12_lineFor rfl rfl gX12_line_X12_lineFor (pRc.of (ci := 12) rfl rfl) (by omega) rfl (Nat.le_of_ble_eq_true rfl) (by rfl) dX12_line_5 (fun r2 h2 q2 => ?_)
  obtain ⟨S_2, rfl, hf⟩ := q2
  dsimp only at hf
  exact E_iret rfl dX12_line_8 ⟨_, rfl, hf⟩
theorem hi_X12_righting_12 : ∀ w ∈ u_ws RX12 TX12 32, w ∈ wsX12_righting := fun w h => of_decide_eq_true (List.all_eq_true.mp (by decide +kernel : (u_ws RX12 TX12 32).all (fun w => decide (w ∈ wsX12_righting)) = true) w h)
theorem fl_X12_righting_9 : pFL wsX12_righting RX12 9 12 0 := ⟨RX12, TX12, 32, hi_X12_righting_12, rfl, by decide, by decide +kernel⟩
theorem fl_X12_righting_21 : pFL wsX12_righting RX12 21 12 4 := ⟨RX12, TX12, 32, hi_X12_righting_12, rfl, by decide, by decide +kernel⟩
theorem mf_X12_cube : pMF yX12_cube wsX12_cube cX12_cube 1 (some .int) 1 := ⟨⟨_, rfl⟩, by decide +kernel, by decide, by decide +kernel, by decide +kernel, by decide +kernel⟩
def f_X12_cube (S : PS) (v0 : Int32) : Option (Int32 × PS) :=
  some (((v0 * v0) * v0) / 12, S)
set_option maxRecDepth 100000 in
theorem c_X12_cube (l : Launch) (D : va_G) (dA : Nat → ClassId) (ad : Nat → Nat) (S : PS) (v0 : Int32) {P : (Int32 × PS) → Prop} (hf : pO (f_X12_cube S v0) P) : CtI l D dA ad yX12_cube wsX12_cube 0 [.int v0] (hM S) (fun r h' => ∃ S' : PS, h' = hM S' ∧ P (r, S')) := by
  refine CtI_of mf_X12_cube rfl rfl (Nat.le_of_ble_eq_true rfl) rfl (hM_len S) ?_
  unfold f_X12_cube at hf
  refine E_iload_n dX12_cube_0 rfl ?_
  refine E_iload_n dX12_cube_1 rfl ?_
  refine E_imul dX12_cube_2 ?_
  refine E_iload_n dX12_cube_3 rfl ?_
  refine E_imul dX12_cube_4 ?_
  refine E_bipush (v := 12) dX12_cube_5 (by decide) ?_
  refine E_idiv dX12_cube_7 (by decide) ?_
  exact E_iret rfl dX12_cube_8 ⟨_, rfl, hf⟩
def g_X12_righting_9 : Nat → PS → Int32 → Int32 → Int32 → Option ((Int32 × PS) ⊕ (PS × Int32))
  | 0, _, _, _, _ => none
  | fuel + 1, S, v1, v2, v3 =>
    if (S.1 0) ≤ v3 then (some (.inr (S, v2))) else (pbnd (f_X12_waterOf S v3 v1) (fun r3 S_3 => if r3 ≤ (0 : Int32) then (g_X12_righting_9 fuel S_3 v1 v2 (v3 + 1)) else (pgd (pin v3 10) (pbnd (f_X12_cube S_3 ((S_3.2 0) v3.toNatClampNeg)) (fun r6 S_6 => g_X12_righting_9 fuel S_6 v1 (v2 + r6) (v3 + 1))))))
set_option maxRecDepth 100000 in
theorem l_X12_righting_9 (l : Launch) (D : va_G) (dA : Nat → ClassId) (ad : Nat → Nat) (d : Nat) (hd : 5 ≤ d) {Q : Int32 → List PC → Prop} : ∀ (fuel : Nat) (S : PS) (v1 : Int32) (v2 : Int32) (v3 : Int32), pO (g_X12_righting_9 fuel S v1 v2 v3) (fun y => match y with
    | .inl x => Q x.1 (hM x.2)
    | .inr w => Ev l D dA ad wsX12_righting cX12_righting RX12 4 (some .int) d 38 (pKi D dA ad 38 Q) 44 [(0, .ref 0), (2, .int w.2)] [] (hM w.1)) → Ev l D dA ad wsX12_righting cX12_righting RX12 4 (some .int) d 38 (pKi D dA ad 38 Q) 9 [(0, .ref 0), (1, .int v1), (2, .int v2), (3, .int v3)] [] (hM S) := by
  intro fuel
  induction fuel with
  | zero =>
    intro S v1 v2 v3 hf
    exact hf.elim
  | succ fuel ih =>
    intro S v1 v2 v3 hf
    rw [g_X12_righting_9] at hf
    refine E_iload_n dX12_righting_9 rfl ?_
    refine E_aload_n dX12_righting_10 rfl ?_
    refine E_getf (v := .int (S.1 0)) dX12_righting_11 fl_X12_righting_9 rfl rfl ?_
    refine E_icmp_ge (tgt := 44) dX12_righting_14 (by decide) (fun c_2 => ?_) (fun c_2 => ?_)
    · have hf := pO_pos c_2 hf
      exact E_sub (ls' := [(0, .ref 0), (2, .int v2)]) ⟨rfl, rfl, trivial⟩ hf
    · have hf := pO_neg c_2 hf
      refine E_aload_n dX12_righting_17 rfl ?_
      refine E_iload_n dX12_righting_18 rfl ?_
      refine E_iload_n dX12_righting_19 rfl ?_
      refine E_callVI (st := []) (c_X12_waterOf l D dA ad S v3 v1 (pO_bnd hf)) mf_X12_waterOf rfl rfl gX12_righting_X12_waterOf (pRc.of (ci := 12) rfl rfl) (by omega) rfl (Nat.le_of_ble_eq_true rfl) (by rfl) dX12_righting_20 (fun r3 h3 q3 => ?_)
      obtain ⟨S_3, rfl, hf⟩ := q3
      dsimp only at hf
      refine E_if_le (tgt := 38) dX12_righting_23 (by decide) (fun c_4 => ?_) (fun c_4 => ?_)
      · have hf := pO_pos c_4 hf
        refine E_iinc (v := v3 + 1) (ls' := [(0, .ref 0), (1, .int v1), (2, .int v2), (3, .int (v3 + 1))]) dX12_righting_38 rfl rfl (by decide) rfl ?_
        refine E_goto (tgt := 9) dX12_righting_41 (by decide) ?_
        exact E_sub (ls' := [(0, .ref 0), (1, .int v1), (2, .int v2), (3, .int (v3 + 1))]) ⟨rfl, rfl, rfl, rfl, trivial⟩ (ih S_3 v1 v2 (v3 + 1) hf)
      · have hf := pO_neg c_4 hf
        refine E_iload_n dX12_righting_26 rfl ?_
        refine E_aload_n dX12_righting_27 rfl ?_
        refine E_getf (v := .ref 1) dX12_righting_28 fl_X12_righting_21 rfl rfl ?_
        refine E_iload_n dX12_righting_31 rfl ?_
        obtain ⟨hi_5, hf⟩ := pO_gd hf
        refine E_iald (n0 := 10) (f := S_3.2 0) dX12_righting_32 rfl (pin_in hi_5) ?_
        refine E_callSI (st := [.int v2]) (c_X12_cube l D dA ad S_3 ((S_3.2 0) v3.toNatClampNeg) (pO_bnd hf)) mf_X12_cube rfl gX12_righting_X12_cube (by omega) rfl (Nat.le_of_ble_eq_true rfl) (by rfl) dX12_righting_33 (fun r6 h6 q6 => ?_)
        obtain ⟨S_6, rfl, hf⟩ := q6
        dsimp only at hf
        refine E_iadd dX12_righting_36 ?_
        refine E_istore_n (ls' := [(0, .ref 0), (1, .int v1), (2, .int (v2 + r6)), (3, .int v3)]) dX12_righting_37 (by decide) rfl ?_
        refine E_iinc (v := v3 + 1) (ls' := [(0, .ref 0), (1, .int v1), (2, .int (v2 + r6)), (3, .int (v3 + 1))]) dX12_righting_38 rfl rfl (by decide) rfl ?_
        refine E_goto (tgt := 9) dX12_righting_41 (by decide) ?_
        exact E_sub (ls' := [(0, .ref 0), (1, .int v1), (2, .int (v2 + r6)), (3, .int (v3 + 1))]) ⟨rfl, rfl, rfl, rfl, trivial⟩ (ih S_6 v1 (v2 + r6) (v3 + 1) hf)
theorem hi_X12_isSlack_12 : ∀ w ∈ u_ws RX12 TX12 32, w ∈ wsX12_isSlack := fun w h => of_decide_eq_true (List.all_eq_true.mp (by decide +kernel : (u_ws RX12 TX12 32).all (fun w => decide (w ∈ wsX12_isSlack)) = true) w h)
theorem fl_X12_isSlack_49 : pFL wsX12_isSlack RX12 49 12 14 := ⟨RX12, TX12, 32, hi_X12_isSlack_12, rfl, by decide, by decide +kernel⟩
theorem fl_X12_isSlack_55 : pFL wsX12_isSlack RX12 55 12 16 := ⟨RX12, TX12, 32, hi_X12_isSlack_12, rfl, by decide, by decide +kernel⟩
theorem fl_X12_isSlack_52 : pFL wsX12_isSlack RX12 52 12 15 := ⟨RX12, TX12, 32, hi_X12_isSlack_12, rfl, by decide, by decide +kernel⟩
theorem mf_X12_isSlack : pMF yX12_isSlack wsX12_isSlack cX12_isSlack 2 (some .boolean) 1 := ⟨⟨_, rfl⟩, by decide +kernel, by decide, by decide +kernel, by decide +kernel, by decide +kernel⟩
def f_X12_isSlack (S : PS) (v1 : Int32) : Option (Int32 × PS) :=
  pgd (pin v1 4) (if ((S.2 9) v1.toNatClampNeg) ≤ (0 : Int32) then (some (0, S)) else (pgd (pin v1 4) (if ((S.2 11) v1.toNatClampNeg) = (0 : Int32) then (some (0, S)) else (pgd (pin v1 4) (pgd (pin v1 4) (if ((S.2 11) v1.toNatClampNeg) = ((S.2 10) v1.toNatClampNeg) then (some (0, S)) else (some (1, S))))))))
set_option maxRecDepth 100000 in
theorem c_X12_isSlack (l : Launch) (D : va_G) (dA : Nat → ClassId) (ad : Nat → Nat) (S : PS) (v1 : Int32) {P : (Int32 × PS) → Prop} (hf : pO (f_X12_isSlack S v1) P) : CtI l D dA ad yX12_isSlack wsX12_isSlack 0 [.ref 0, .int v1] (hM S) (fun r h' => ∃ S' : PS, h' = hM S' ∧ P (r, S')) := by
  refine CtI_of mf_X12_isSlack rfl rfl (Nat.le_of_ble_eq_true rfl) rfl (hM_len S) ?_
  unfold f_X12_isSlack at hf
  refine E_aload_n dX12_isSlack_0 rfl ?_
  refine E_getf (v := .ref 10) dX12_isSlack_1 fl_X12_isSlack_49 rfl rfl ?_
  refine E_iload_n dX12_isSlack_4 rfl ?_
  obtain ⟨hi_1, hf⟩ := pO_gd hf
  refine E_iald (n0 := 4) (f := S.2 9) dX12_isSlack_5 rfl (pin_in hi_1) ?_
  refine E_if_le (tgt := 37) dX12_isSlack_6 (by decide) (fun c_2 => ?_) (fun c_2 => ?_)
  · have hf := pO_pos c_2 hf
    refine E_iconst (v := 0) dX12_isSlack_37 (by decide) ?_
    exact E_zret rfl dX12_isSlack_38 (by decide) ⟨_, rfl, hf⟩
  · have hf := pO_neg c_2 hf
    refine E_aload_n dX12_isSlack_9 rfl ?_
    refine E_getf (v := .ref 12) dX12_isSlack_10 fl_X12_isSlack_55 rfl rfl ?_
    refine E_iload_n dX12_isSlack_13 rfl ?_
    obtain ⟨hi_3, hf⟩ := pO_gd hf
    refine E_iald (n0 := 4) (f := S.2 11) dX12_isSlack_14 rfl (pin_in hi_3) ?_
    refine E_if_eq (tgt := 37) dX12_isSlack_15 (by decide) (fun c_4 => ?_) (fun c_4 => ?_)
    · have hf := pO_pos c_4 hf
      refine E_iconst (v := 0) dX12_isSlack_37 (by decide) ?_
      exact E_zret rfl dX12_isSlack_38 (by decide) ⟨_, rfl, hf⟩
    · have hf := pO_neg c_4 hf
      refine E_aload_n dX12_isSlack_18 rfl ?_
      refine E_getf (v := .ref 12) dX12_isSlack_19 fl_X12_isSlack_55 rfl rfl ?_
      refine E_iload_n dX12_isSlack_22 rfl ?_
      obtain ⟨hi_5, hf⟩ := pO_gd hf
      refine E_iald (n0 := 4) (f := S.2 11) dX12_isSlack_23 rfl (pin_in hi_5) ?_
      refine E_aload_n dX12_isSlack_24 rfl ?_
      refine E_getf (v := .ref 11) dX12_isSlack_25 fl_X12_isSlack_52 rfl rfl ?_
      refine E_iload_n dX12_isSlack_28 rfl ?_
      obtain ⟨hi_6, hf⟩ := pO_gd hf
      refine E_iald (n0 := 4) (f := S.2 10) dX12_isSlack_29 rfl (pin_in hi_6) ?_
      refine E_icmp_eq (tgt := 37) dX12_isSlack_30 (by decide) (fun c_7 => ?_) (fun c_7 => ?_)
      · have hf := pO_pos c_7 hf
        refine E_iconst (v := 0) dX12_isSlack_37 (by decide) ?_
        exact E_zret rfl dX12_isSlack_38 (by decide) ⟨_, rfl, hf⟩
      · have hf := pO_neg c_7 hf
        refine E_iconst (v := 1) dX12_isSlack_33 (by decide) ?_
        refine E_goto (tgt := 38) dX12_isSlack_34 (by decide) ?_
        exact E_zret rfl dX12_isSlack_38 (by decide) ⟨_, rfl, hf⟩
theorem fl_X12_righting_49 : pFL wsX12_righting RX12 49 12 14 := ⟨RX12, TX12, 32, hi_X12_righting_12, rfl, by decide, by decide +kernel⟩
def g_X12_righting_46 : Nat → PS → Int32 → Int32 → Option ((Int32 × PS) ⊕ (PS × Int32))
  | 0, _, _, _ => none
  | fuel + 1, S, v2, v3 =>
    if (4 : Int32) ≤ v3 then (some (.inr (S, v2))) else (pbnd (f_X12_isSlack S v3) (fun r9 S_9 => if r9 = (0 : Int32) then (g_X12_righting_46 fuel S_9 v2 (v3 + 1)) else (pgd (pin v3 4) (pbnd (f_X12_cube S_9 ((S_9.2 9) v3.toNatClampNeg)) (fun r12 S_12 => g_X12_righting_46 fuel S_12 (v2 - r12) (v3 + 1))))))
set_option maxRecDepth 100000 in
theorem l_X12_righting_46 (l : Launch) (D : va_G) (dA : Nat → ClassId) (ad : Nat → Nat) (d : Nat) (hd : 5 ≤ d) {Q : Int32 → List PC → Prop} : ∀ (fuel : Nat) (S : PS) (v2 : Int32) (v3 : Int32), pO (g_X12_righting_46 fuel S v2 v3) (fun y => match y with
    | .inl x => Q x.1 (hM x.2)
    | .inr w => Ev l D dA ad wsX12_righting cX12_righting RX12 4 (some .int) d 38 (pKi D dA ad 38 Q) 77 [(0, .ref 0), (2, .int w.2)] [] (hM w.1)) → Ev l D dA ad wsX12_righting cX12_righting RX12 4 (some .int) d 38 (pKi D dA ad 38 Q) 46 [(0, .ref 0), (2, .int v2), (3, .int v3)] [] (hM S) := by
  intro fuel
  induction fuel with
  | zero =>
    intro S v2 v3 hf
    exact hf.elim
  | succ fuel ih =>
    intro S v2 v3 hf
    rw [g_X12_righting_46] at hf
    refine E_iload_n dX12_righting_46 rfl ?_
    refine E_iconst (v := 4) dX12_righting_47 (by decide) ?_
    refine E_icmp_ge (tgt := 77) dX12_righting_48 (by decide) (fun c_8 => ?_) (fun c_8 => ?_)
    · have hf := pO_pos c_8 hf
      exact E_sub (ls' := [(0, .ref 0), (2, .int v2)]) ⟨rfl, rfl, trivial⟩ hf
    · have hf := pO_neg c_8 hf
      refine E_aload_n dX12_righting_51 rfl ?_
      refine E_iload_n dX12_righting_52 rfl ?_
      refine E_callVI (st := []) (c_X12_isSlack l D dA ad S v3 (pO_bnd hf)) mf_X12_isSlack rfl rfl gX12_righting_X12_isSlack (pRc.of (ci := 12) rfl rfl) (by omega) rfl (Nat.le_of_ble_eq_true rfl) (by rfl) dX12_righting_53 (fun r9 h9 q9 => ?_)
      obtain ⟨S_9, rfl, hf⟩ := q9
      dsimp only at hf
      refine E_if_eq (tgt := 71) dX12_righting_56 (by decide) (fun c_10 => ?_) (fun c_10 => ?_)
      · have hf := pO_pos c_10 hf
        refine E_iinc (v := v3 + 1) (ls' := [(0, .ref 0), (2, .int v2), (3, .int (v3 + 1))]) dX12_righting_71 rfl rfl (by decide) rfl ?_
        refine E_goto (tgt := 46) dX12_righting_74 (by decide) ?_
        exact E_sub (ls' := [(0, .ref 0), (2, .int v2), (3, .int (v3 + 1))]) ⟨rfl, rfl, rfl, trivial⟩ (ih S_9 v2 (v3 + 1) hf)
      · have hf := pO_neg c_10 hf
        refine E_iload_n dX12_righting_59 rfl ?_
        refine E_aload_n dX12_righting_60 rfl ?_
        refine E_getf (v := .ref 10) dX12_righting_61 fl_X12_righting_49 rfl rfl ?_
        refine E_iload_n dX12_righting_64 rfl ?_
        obtain ⟨hi_11, hf⟩ := pO_gd hf
        refine E_iald (n0 := 4) (f := S_9.2 9) dX12_righting_65 rfl (pin_in hi_11) ?_
        refine E_callSI (st := [.int v2]) (c_X12_cube l D dA ad S_9 ((S_9.2 9) v3.toNatClampNeg) (pO_bnd hf)) mf_X12_cube rfl gX12_righting_X12_cube (by omega) rfl (Nat.le_of_ble_eq_true rfl) (by rfl) dX12_righting_66 (fun r12 h12 q12 => ?_)
        obtain ⟨S_12, rfl, hf⟩ := q12
        dsimp only at hf
        refine E_isub dX12_righting_69 ?_
        refine E_istore_n (ls' := [(0, .ref 0), (2, .int (v2 - r12)), (3, .int v3)]) dX12_righting_70 (by decide) rfl ?_
        refine E_iinc (v := v3 + 1) (ls' := [(0, .ref 0), (2, .int (v2 - r12)), (3, .int (v3 + 1))]) dX12_righting_71 rfl rfl (by decide) rfl ?_
        refine E_goto (tgt := 46) dX12_righting_74 (by decide) ?_
        exact E_sub (ls' := [(0, .ref 0), (2, .int (v2 - r12)), (3, .int (v3 + 1))]) ⟨rfl, rfl, rfl, trivial⟩ (ih S_12 (v2 - r12) (v3 + 1) hf)
theorem hi_X12_aloft_12 : ∀ w ∈ u_ws RX12 TX12 32, w ∈ wsX12_aloft := fun w h => of_decide_eq_true (List.all_eq_true.mp (by decide +kernel : (u_ws RX12 TX12 32).all (fun w => decide (w ∈ wsX12_aloft)) = true) w h)
theorem fl_X12_aloft_98 : pFL wsX12_aloft RX12 98 12 6 := ⟨RX12, TX12, 32, hi_X12_aloft_12, rfl, by decide, by decide +kernel⟩
theorem fl_X12_aloft_43 : pFL wsX12_aloft RX12 43 12 12 := ⟨RX12, TX12, 32, hi_X12_aloft_12, rfl, by decide, by decide +kernel⟩
def g_X12_aloft_4 : Nat → PS → Int32 → Int32 → Option ((Int32 × PS) ⊕ (PS × Int32))
  | 0, _, _, _ => none
  | fuel + 1, S, v1, v2 =>
    if (S.1 4) ≤ v2 then (some (.inr (S, v1))) else (pbnd (f_X12_weighs S v2) (fun r2 S_2 => pgd (pin v2 16) (g_X12_aloft_4 fuel S_2 (v1 + (r2 * ((S_2.2 7) v2.toNatClampNeg))) (v2 + 1))))
set_option maxRecDepth 100000 in
theorem l_X12_aloft_4 (l : Launch) (D : va_G) (dA : Nat → ClassId) (ad : Nat → Nat) (d : Nat) (hd : 1 ≤ d) {Q : Int32 → List PC → Prop} : ∀ (fuel : Nat) (S : PS) (v1 : Int32) (v2 : Int32), pO (g_X12_aloft_4 fuel S v1 v2) (fun y => match y with
    | .inl x => Q x.1 (hM x.2)
    | .inr w => Ev l D dA ad wsX12_aloft cX12_aloft RX12 3 (some .int) d 38 (pKi D dA ad 38 Q) 33 [(0, .ref 0), (1, .int w.2)] [] (hM w.1)) → Ev l D dA ad wsX12_aloft cX12_aloft RX12 3 (some .int) d 38 (pKi D dA ad 38 Q) 4 [(0, .ref 0), (1, .int v1), (2, .int v2)] [] (hM S) := by
  intro fuel
  induction fuel with
  | zero =>
    intro S v1 v2 hf
    exact hf.elim
  | succ fuel ih =>
    intro S v1 v2 hf
    rw [g_X12_aloft_4] at hf
    refine E_iload_n dX12_aloft_4 rfl ?_
    refine E_aload_n dX12_aloft_5 rfl ?_
    refine E_getf (v := .int (S.1 4)) dX12_aloft_6 fl_X12_aloft_98 rfl rfl ?_
    refine E_icmp_ge (tgt := 33) dX12_aloft_9 (by decide) (fun c_1 => ?_) (fun c_1 => ?_)
    · have hf := pO_pos c_1 hf
      exact E_sub (ls' := [(0, .ref 0), (1, .int v1)]) ⟨rfl, rfl, trivial⟩ hf
    · have hf := pO_neg c_1 hf
      refine E_iload_n dX12_aloft_12 rfl ?_
      refine E_aload_n dX12_aloft_13 rfl ?_
      refine E_iload_n dX12_aloft_14 rfl ?_
      refine E_callVI (st := [.int v1]) (c_X12_weighs l D dA ad S v2 (pO_bnd hf)) mf_X12_weighs rfl rfl gX12_aloft_X12_weighs (pRc.of (ci := 12) rfl rfl) (by omega) rfl (Nat.le_of_ble_eq_true rfl) (by rfl) dX12_aloft_15 (fun r2 h2 q2 => ?_)
      obtain ⟨S_2, rfl, hf⟩ := q2
      dsimp only at hf
      refine E_aload_n dX12_aloft_18 rfl ?_
      refine E_getf (v := .ref 8) dX12_aloft_19 fl_X12_aloft_43 rfl rfl ?_
      refine E_iload_n dX12_aloft_22 rfl ?_
      obtain ⟨hi_3, hf⟩ := pO_gd hf
      refine E_iald (n0 := 16) (f := S_2.2 7) dX12_aloft_23 rfl (pin_in hi_3) ?_
      refine E_imul dX12_aloft_24 ?_
      refine E_iadd dX12_aloft_25 ?_
      refine E_istore_n (ls' := [(0, .ref 0), (1, .int (v1 + (r2 * ((S_2.2 7) v2.toNatClampNeg)))), (2, .int v2)]) dX12_aloft_26 (by decide) rfl ?_
      refine E_iinc (v := v2 + 1) (ls' := [(0, .ref 0), (1, .int (v1 + (r2 * ((S_2.2 7) v2.toNatClampNeg)))), (2, .int (v2 + 1))]) dX12_aloft_27 rfl rfl (by decide) rfl ?_
      refine E_goto (tgt := 4) dX12_aloft_30 (by decide) ?_
      exact E_sub (ls' := [(0, .ref 0), (1, .int (v1 + (r2 * ((S_2.2 7) v2.toNatClampNeg)))), (2, .int (v2 + 1))]) ⟨rfl, rfl, rfl, trivial⟩ (ih S_2 (v1 + (r2 * ((S_2.2 7) v2.toNatClampNeg))) (v2 + 1) hf)
theorem fl_X12_aloft_55 : pFL wsX12_aloft RX12 55 12 16 := ⟨RX12, TX12, 32, hi_X12_aloft_12, rfl, by decide, by decide +kernel⟩
def g_X12_aloft_35 : Nat → PS → Int32 → Int32 → Option ((Int32 × PS) ⊕ (PS × Int32))
  | 0, _, _, _ => none
  | fuel + 1, S, v1, v2 =>
    if (4 : Int32) ≤ v2 then (some (.inr (S, v1))) else (pgd (pin v2 4) (g_X12_aloft_35 fuel S (v1 + (2 * ((S.2 11) v2.toNatClampNeg))) (v2 + 1)))
set_option maxRecDepth 100000 in
theorem l_X12_aloft_35 (l : Launch) (D : va_G) (dA : Nat → ClassId) (ad : Nat → Nat) (d : Nat) (hd : 1 ≤ d) {Q : Int32 → List PC → Prop} : ∀ (fuel : Nat) (S : PS) (v1 : Int32) (v2 : Int32), pO (g_X12_aloft_35 fuel S v1 v2) (fun y => match y with
    | .inl x => Q x.1 (hM x.2)
    | .inr w => Ev l D dA ad wsX12_aloft cX12_aloft RX12 3 (some .int) d 38 (pKi D dA ad 38 Q) 57 [(1, .int w.2)] [] (hM w.1)) → Ev l D dA ad wsX12_aloft cX12_aloft RX12 3 (some .int) d 38 (pKi D dA ad 38 Q) 35 [(0, .ref 0), (1, .int v1), (2, .int v2)] [] (hM S) := by
  intro fuel
  induction fuel with
  | zero =>
    intro S v1 v2 hf
    exact hf.elim
  | succ fuel ih =>
    intro S v1 v2 hf
    rw [g_X12_aloft_35] at hf
    refine E_iload_n dX12_aloft_35 rfl ?_
    refine E_iconst (v := 4) dX12_aloft_36 (by decide) ?_
    refine E_icmp_ge (tgt := 57) dX12_aloft_37 (by decide) (fun c_5 => ?_) (fun c_5 => ?_)
    · have hf := pO_pos c_5 hf
      exact E_sub (ls' := [(1, .int v1)]) ⟨rfl, trivial⟩ hf
    · have hf := pO_neg c_5 hf
      refine E_iload_n dX12_aloft_40 rfl ?_
      refine E_iconst (v := 2) dX12_aloft_41 (by decide) ?_
      refine E_aload_n dX12_aloft_42 rfl ?_
      refine E_getf (v := .ref 12) dX12_aloft_43 fl_X12_aloft_55 rfl rfl ?_
      refine E_iload_n dX12_aloft_46 rfl ?_
      obtain ⟨hi_6, hf⟩ := pO_gd hf
      refine E_iald (n0 := 4) (f := S.2 11) dX12_aloft_47 rfl (pin_in hi_6) ?_
      refine E_imul dX12_aloft_48 ?_
      refine E_iadd dX12_aloft_49 ?_
      refine E_istore_n (ls' := [(0, .ref 0), (1, .int (v1 + (2 * ((S.2 11) v2.toNatClampNeg)))), (2, .int v2)]) dX12_aloft_50 (by decide) rfl ?_
      refine E_iinc (v := v2 + 1) (ls' := [(0, .ref 0), (1, .int (v1 + (2 * ((S.2 11) v2.toNatClampNeg)))), (2, .int (v2 + 1))]) dX12_aloft_51 rfl rfl (by decide) rfl ?_
      refine E_goto (tgt := 35) dX12_aloft_54 (by decide) ?_
      exact E_sub (ls' := [(0, .ref 0), (1, .int (v1 + (2 * ((S.2 11) v2.toNatClampNeg)))), (2, .int (v2 + 1))]) ⟨rfl, rfl, rfl, trivial⟩ (ih S (v1 + (2 * ((S.2 11) v2.toNatClampNeg))) (v2 + 1) hf)
theorem mf_X12_aloft : pMF yX12_aloft wsX12_aloft cX12_aloft 3 (some .int) 0 := ⟨⟨_, rfl⟩, by decide +kernel, by decide, by decide +kernel, by decide +kernel, by decide +kernel⟩
def f_X12_aloft (S : PS) : Option (Int32 × PS) :=
  plp (g_X12_aloft_4 pfuel S 0 0) (fun w => (fun (S_4 : PS) (v1_4 : Int32) => plp (g_X12_aloft_35 pfuel S_4 v1_4 0) (fun w => (fun (S_7 : PS) (v1_7 : Int32) => some (v1_7, S_7)) w.1 w.2)) w.1 w.2)
set_option maxRecDepth 100000 in
theorem c_X12_aloft (l : Launch) (D : va_G) (dA : Nat → ClassId) (ad : Nat → Nat) (S : PS) {P : (Int32 × PS) → Prop} (hf : pO (f_X12_aloft S) P) : CtI l D dA ad yX12_aloft wsX12_aloft 1 [.ref 0] (hM S) (fun r h' => ∃ S' : PS, h' = hM S' ∧ P (r, S')) := by
  refine CtI_of mf_X12_aloft rfl rfl (Nat.le_of_ble_eq_true rfl) rfl (hM_len S) ?_
  unfold f_X12_aloft at hf
  refine E_iconst (v := 0) dX12_aloft_0 (by decide) ?_
  refine E_istore_n (ls' := [(0, .ref 0), (1, .int 0)]) dX12_aloft_1 (by decide) rfl ?_
  refine E_iconst (v := 0) dX12_aloft_2 (by decide) ?_
  refine E_istore_n (ls' := [(0, .ref 0), (1, .int 0), (2, .int 0)]) dX12_aloft_3 (by decide) rfl ?_
  refine E_sub (ls' := [(0, .ref 0), (1, .int 0), (2, .int 0)]) ⟨rfl, rfl, rfl, trivial⟩ ?_
  refine l_X12_aloft_4 l D dA ad _ (by omega) pfuel S 0 0 (pO_lp hf (fun x hx => ⟨x.2, rfl, hx⟩) (fun w4 hf => ?_))
  obtain ⟨S_4, v1_4⟩ := w4
  dsimp only at hf ⊢
  refine E_iconst (v := 0) dX12_aloft_33 (by decide) ?_
  refine E_istore_n (ls' := [(0, .ref 0), (1, .int v1_4), (2, .int 0)]) dX12_aloft_34 (by decide) rfl ?_
  refine E_sub (ls' := [(0, .ref 0), (1, .int v1_4), (2, .int 0)]) ⟨rfl, rfl, rfl, trivial⟩ ?_
  refine l_X12_aloft_35 l D dA ad _ (by omega) pfuel S_4 v1_4 0 (pO_lp hf (fun x hx => ⟨x.2, rfl, hx⟩) (fun w7 hf => ?_))
  obtain ⟨S_7, v1_7⟩ := w7
  dsimp only at hf ⊢
  refine E_iload_n dX12_aloft_57 rfl ?_
  exact E_iret rfl dX12_aloft_58 ⟨_, rfl, hf⟩
theorem mf_X12_righting : pMF yX12_righting wsX12_righting cX12_righting 4 (some .int) 0 := ⟨⟨_, rfl⟩, by decide +kernel, by decide, by decide +kernel, by decide +kernel, by decide +kernel⟩
def f_X12_righting (S : PS) : Option (Int32 × PS) :=
  pbnd (f_X12_line S) (fun r1 S_1 => plp (g_X12_righting_9 pfuel S_1 r1 0 0) (fun w => (fun (S_7 : PS) (v2_7 : Int32) => plp (g_X12_righting_46 pfuel S_7 v2_7 0) (fun w => (fun (S_13 : PS) (v2_13 : Int32) => pbnd (f_X12_aloft S_13) (fun r14 S_14 => some (v2_13 - (r14 / 16), S_14))) w.1 w.2)) w.1 w.2))
set_option maxRecDepth 100000 in
theorem c_X12_righting (l : Launch) (D : va_G) (dA : Nat → ClassId) (ad : Nat → Nat) (S : PS) {P : (Int32 × PS) → Prop} (hf : pO (f_X12_righting S) P) : CtI l D dA ad yX12_righting wsX12_righting 5 [.ref 0] (hM S) (fun r h' => ∃ S' : PS, h' = hM S' ∧ P (r, S')) := by
  refine CtI_of mf_X12_righting rfl rfl (Nat.le_of_ble_eq_true rfl) rfl (hM_len S) ?_
  unfold f_X12_righting at hf
  refine E_aload_n dX12_righting_0 rfl ?_
  refine E_callVI (st := []) (c_X12_line l D dA ad S (pO_bnd hf)) mf_X12_line rfl rfl gX12_righting_X12_line (pRc.of (ci := 12) rfl rfl) (by omega) rfl (Nat.le_of_ble_eq_true rfl) (by rfl) dX12_righting_1 (fun r1 h1 q1 => ?_)
  obtain ⟨S_1, rfl, hf⟩ := q1
  dsimp only at hf
  refine E_istore_n (ls' := [(0, .ref 0), (1, .int r1)]) dX12_righting_4 (by decide) rfl ?_
  refine E_iconst (v := 0) dX12_righting_5 (by decide) ?_
  refine E_istore_n (ls' := [(0, .ref 0), (1, .int r1), (2, .int 0)]) dX12_righting_6 (by decide) rfl ?_
  refine E_iconst (v := 0) dX12_righting_7 (by decide) ?_
  refine E_istore_n (ls' := [(0, .ref 0), (1, .int r1), (2, .int 0), (3, .int 0)]) dX12_righting_8 (by decide) rfl ?_
  refine E_sub (ls' := [(0, .ref 0), (1, .int r1), (2, .int 0), (3, .int 0)]) ⟨rfl, rfl, rfl, rfl, trivial⟩ ?_
  refine l_X12_righting_9 l D dA ad _ (by omega) pfuel S_1 r1 0 0 (pO_lp hf (fun x hx => ⟨x.2, rfl, hx⟩) (fun w7 hf => ?_))
  obtain ⟨S_7, v2_7⟩ := w7
  dsimp only at hf ⊢
  refine E_iconst (v := 0) dX12_righting_44 (by decide) ?_
  refine E_istore_n (ls' := [(0, .ref 0), (2, .int v2_7), (3, .int 0)]) dX12_righting_45 (by decide) rfl ?_
  refine E_sub (ls' := [(0, .ref 0), (2, .int v2_7), (3, .int 0)]) ⟨rfl, rfl, rfl, trivial⟩ ?_
  refine l_X12_righting_46 l D dA ad _ (by omega) pfuel S_7 v2_7 0 (pO_lp hf (fun x hx => ⟨x.2, rfl, hx⟩) (fun w13 hf => ?_))
  obtain ⟨S_13, v2_13⟩ := w13
  dsimp only at hf ⊢
  refine E_iload_n dX12_righting_77 rfl ?_
  refine E_aload_n dX12_righting_78 rfl ?_
  refine E_callVI (st := [.int v2_13]) (c_X12_aloft l D dA ad S_13 (pO_bnd hf)) mf_X12_aloft rfl rfl gX12_righting_X12_aloft (pRc.of (ci := 12) rfl rfl) (by omega) rfl (Nat.le_of_ble_eq_true rfl) (by rfl) dX12_righting_79 (fun r14 h14 q14 => ?_)
  obtain ⟨S_14, rfl, hf⟩ := q14
  dsimp only at hf
  refine E_bipush (v := 16) dX12_righting_82 (by decide) ?_
  refine E_idiv dX12_righting_84 (by decide) ?_
  refine E_isub dX12_righting_85 ?_
  exact E_iret rfl dX12_righting_86 ⟨_, rfl, hf⟩
theorem mf_X12_isUpright : pMF yX12_isUpright wsX12_isUpright cX12_isUpright 1 (some .boolean) 0 := ⟨⟨_, rfl⟩, by decide +kernel, by decide, by decide +kernel, by decide +kernel, by decide +kernel⟩
def f_X12_isUpright (S : PS) : Option (Int32 × PS) :=
  pbnd (f_X12_line S) (fun r1 S_1 => if r1 = ((-2) : Int32) then (some (0, S_1)) else (pbnd (f_X12_righting S_1) (fun r3 S_3 => if r3 ≤ (0 : Int32) then (some (0, S_3)) else (some (1, S_3)))))
set_option maxRecDepth 100000 in
theorem c_X12_isUpright (l : Launch) (D : va_G) (dA : Nat → ClassId) (ad : Nat → Nat) (S : PS) {P : (Int32 × PS) → Prop} (hf : pO (f_X12_isUpright S) P) : CtI l D dA ad yX12_isUpright wsX12_isUpright 6 [.ref 0] (hM S) (fun r h' => ∃ S' : PS, h' = hM S' ∧ P (r, S')) := by
  refine CtI_of mf_X12_isUpright rfl rfl (Nat.le_of_ble_eq_true rfl) rfl (hM_len S) ?_
  unfold f_X12_isUpright at hf
  refine E_aload_n dX12_isUpright_0 rfl ?_
  refine E_callVI (st := []) (c_X12_line l D dA ad S (pO_bnd hf)) mf_X12_line rfl rfl gX12_isUpright_X12_line (pRc.of (ci := 12) rfl rfl) (by omega) rfl (Nat.le_of_ble_eq_true rfl) (by rfl) dX12_isUpright_1 (fun r1 h1 q1 => ?_)
  obtain ⟨S_1, rfl, hf⟩ := q1
  dsimp only at hf
  refine E_bipush (v := (-2)) dX12_isUpright_4 (by decide) ?_
  refine E_icmp_eq (tgt := 20) dX12_isUpright_6 (by decide) (fun c_2 => ?_) (fun c_2 => ?_)
  · have hf := pO_pos c_2 hf
    refine E_iconst (v := 0) dX12_isUpright_20 (by decide) ?_
    exact E_zret rfl dX12_isUpright_21 (by decide) ⟨_, rfl, hf⟩
  · have hf := pO_neg c_2 hf
    refine E_aload_n dX12_isUpright_9 rfl ?_
    refine E_callVI (st := []) (c_X12_righting l D dA ad S_1 (pO_bnd hf)) mf_X12_righting rfl rfl gX12_isUpright_X12_righting (pRc.of (ci := 12) rfl rfl) (by omega) rfl (Nat.le_of_ble_eq_true rfl) (by rfl) dX12_isUpright_10 (fun r3 h3 q3 => ?_)
    obtain ⟨S_3, rfl, hf⟩ := q3
    dsimp only at hf
    refine E_if_le (tgt := 20) dX12_isUpright_13 (by decide) (fun c_4 => ?_) (fun c_4 => ?_)
    · have hf := pO_pos c_4 hf
      refine E_iconst (v := 0) dX12_isUpright_20 (by decide) ?_
      exact E_zret rfl dX12_isUpright_21 (by decide) ⟨_, rfl, hf⟩
    · have hf := pO_neg c_4 hf
      refine E_iconst (v := 1) dX12_isUpright_16 (by decide) ?_
      refine E_goto (tgt := 21) dX12_isUpright_17 (by decide) ?_
      exact E_zret rfl dX12_isUpright_21 (by decide) ⟨_, rfl, hf⟩
theorem hi_X12_aside_12 : ∀ w ∈ u_ws RX12 TX12 32, w ∈ wsX12_aside := fun w h => of_decide_eq_true (List.all_eq_true.mp (by decide +kernel : (u_ws RX12 TX12 32).all (fun w => decide (w ∈ wsX12_aside)) = true) w h)
theorem fl_X12_aside_98 : pFL wsX12_aside RX12 98 12 6 := ⟨RX12, TX12, 32, hi_X12_aside_12, rfl, by decide, by decide +kernel⟩
theorem fl_X12_aside_40 : pFL wsX12_aside RX12 40 12 11 := ⟨RX12, TX12, 32, hi_X12_aside_12, rfl, by decide, by decide +kernel⟩
def g_X12_aside_4 : Nat → PS → Int32 → Int32 → Option ((Int32 × PS) ⊕ (PS × Int32))
  | 0, _, _, _ => none
  | fuel + 1, S, v1, v2 =>
    if (S.1 4) ≤ v2 then (some (.inr (S, v1))) else (pbnd (f_X12_weighs S v2) (fun r2 S_2 => pgd (pin v2 16) (g_X12_aside_4 fuel S_2 (v1 + (r2 * ((S_2.2 6) v2.toNatClampNeg))) (v2 + 1))))
set_option maxRecDepth 100000 in
theorem l_X12_aside_4 (l : Launch) (D : va_G) (dA : Nat → ClassId) (ad : Nat → Nat) (d : Nat) (hd : 1 ≤ d) {Q : Int32 → List PC → Prop} : ∀ (fuel : Nat) (S : PS) (v1 : Int32) (v2 : Int32), pO (g_X12_aside_4 fuel S v1 v2) (fun y => match y with
    | .inl x => Q x.1 (hM x.2)
    | .inr w => Ev l D dA ad wsX12_aside cX12_aside RX12 3 (some .int) d 38 (pKi D dA ad 38 Q) 33 [(1, .int w.2)] [] (hM w.1)) → Ev l D dA ad wsX12_aside cX12_aside RX12 3 (some .int) d 38 (pKi D dA ad 38 Q) 4 [(0, .ref 0), (1, .int v1), (2, .int v2)] [] (hM S) := by
  intro fuel
  induction fuel with
  | zero =>
    intro S v1 v2 hf
    exact hf.elim
  | succ fuel ih =>
    intro S v1 v2 hf
    rw [g_X12_aside_4] at hf
    refine E_iload_n dX12_aside_4 rfl ?_
    refine E_aload_n dX12_aside_5 rfl ?_
    refine E_getf (v := .int (S.1 4)) dX12_aside_6 fl_X12_aside_98 rfl rfl ?_
    refine E_icmp_ge (tgt := 33) dX12_aside_9 (by decide) (fun c_1 => ?_) (fun c_1 => ?_)
    · have hf := pO_pos c_1 hf
      exact E_sub (ls' := [(1, .int v1)]) ⟨rfl, trivial⟩ hf
    · have hf := pO_neg c_1 hf
      refine E_iload_n dX12_aside_12 rfl ?_
      refine E_aload_n dX12_aside_13 rfl ?_
      refine E_iload_n dX12_aside_14 rfl ?_
      refine E_callVI (st := [.int v1]) (c_X12_weighs l D dA ad S v2 (pO_bnd hf)) mf_X12_weighs rfl rfl gX12_aside_X12_weighs (pRc.of (ci := 12) rfl rfl) (by omega) rfl (Nat.le_of_ble_eq_true rfl) (by rfl) dX12_aside_15 (fun r2 h2 q2 => ?_)
      obtain ⟨S_2, rfl, hf⟩ := q2
      dsimp only at hf
      refine E_aload_n dX12_aside_18 rfl ?_
      refine E_getf (v := .ref 7) dX12_aside_19 fl_X12_aside_40 rfl rfl ?_
      refine E_iload_n dX12_aside_22 rfl ?_
      obtain ⟨hi_3, hf⟩ := pO_gd hf
      refine E_iald (n0 := 16) (f := S_2.2 6) dX12_aside_23 rfl (pin_in hi_3) ?_
      refine E_imul dX12_aside_24 ?_
      refine E_iadd dX12_aside_25 ?_
      refine E_istore_n (ls' := [(0, .ref 0), (1, .int (v1 + (r2 * ((S_2.2 6) v2.toNatClampNeg)))), (2, .int v2)]) dX12_aside_26 (by decide) rfl ?_
      refine E_iinc (v := v2 + 1) (ls' := [(0, .ref 0), (1, .int (v1 + (r2 * ((S_2.2 6) v2.toNatClampNeg)))), (2, .int (v2 + 1))]) dX12_aside_27 rfl rfl (by decide) rfl ?_
      refine E_goto (tgt := 4) dX12_aside_30 (by decide) ?_
      exact E_sub (ls' := [(0, .ref 0), (1, .int (v1 + (r2 * ((S_2.2 6) v2.toNatClampNeg)))), (2, .int (v2 + 1))]) ⟨rfl, rfl, rfl, trivial⟩ (ih S_2 (v1 + (r2 * ((S_2.2 6) v2.toNatClampNeg))) (v2 + 1) hf)
theorem mf_X12_aside : pMF yX12_aside wsX12_aside cX12_aside 3 (some .int) 0 := ⟨⟨_, rfl⟩, by decide +kernel, by decide, by decide +kernel, by decide +kernel, by decide +kernel⟩
def f_X12_aside (S : PS) : Option (Int32 × PS) :=
  plp (g_X12_aside_4 pfuel S 0 0) (fun w => (fun (S_4 : PS) (v1_4 : Int32) => some (v1_4, S_4)) w.1 w.2)
set_option maxRecDepth 100000 in
theorem c_X12_aside (l : Launch) (D : va_G) (dA : Nat → ClassId) (ad : Nat → Nat) (S : PS) {P : (Int32 × PS) → Prop} (hf : pO (f_X12_aside S) P) : CtI l D dA ad yX12_aside wsX12_aside 1 [.ref 0] (hM S) (fun r h' => ∃ S' : PS, h' = hM S' ∧ P (r, S')) := by
  refine CtI_of mf_X12_aside rfl rfl (Nat.le_of_ble_eq_true rfl) rfl (hM_len S) ?_
  unfold f_X12_aside at hf
  refine E_iconst (v := 0) dX12_aside_0 (by decide) ?_
  refine E_istore_n (ls' := [(0, .ref 0), (1, .int 0)]) dX12_aside_1 (by decide) rfl ?_
  refine E_iconst (v := 0) dX12_aside_2 (by decide) ?_
  refine E_istore_n (ls' := [(0, .ref 0), (1, .int 0), (2, .int 0)]) dX12_aside_3 (by decide) rfl ?_
  refine E_sub (ls' := [(0, .ref 0), (1, .int 0), (2, .int 0)]) ⟨rfl, rfl, rfl, trivial⟩ ?_
  refine l_X12_aside_4 l D dA ad _ (by omega) pfuel S 0 0 (pO_lp hf (fun x hx => ⟨x.2, rfl, hx⟩) (fun w4 hf => ?_))
  obtain ⟨S_4, v1_4⟩ := w4
  dsimp only at hf ⊢
  refine E_iload_n dX12_aside_33 rfl ?_
  exact E_iret rfl dX12_aside_34 ⟨_, rfl, hf⟩
theorem mf_X12_heelNow : pMF yX12_heelNow wsX12_heelNow cX12_heelNow 1 (some .int) 0 := ⟨⟨_, rfl⟩, by decide +kernel, by decide, by decide +kernel, by decide +kernel, by decide +kernel⟩
def f_X12_heelNow (S : PS) : Option (Int32 × PS) :=
  pbnd (f_X12_aside S) (fun r1 S_1 => pbnd (f_X12_righting S_1) (fun r2 S_2 => pgd (pnz r2) (some ((64 * r1) / r2, S_2))))
set_option maxRecDepth 100000 in
theorem c_X12_heelNow (l : Launch) (D : va_G) (dA : Nat → ClassId) (ad : Nat → Nat) (S : PS) {P : (Int32 × PS) → Prop} (hf : pO (f_X12_heelNow S) P) : CtI l D dA ad yX12_heelNow wsX12_heelNow 6 [.ref 0] (hM S) (fun r h' => ∃ S' : PS, h' = hM S' ∧ P (r, S')) := by
  refine CtI_of mf_X12_heelNow rfl rfl (Nat.le_of_ble_eq_true rfl) rfl (hM_len S) ?_
  unfold f_X12_heelNow at hf
  refine E_bipush (v := 64) dX12_heelNow_0 (by decide) ?_
  refine E_aload_n dX12_heelNow_2 rfl ?_
  refine E_callVI (st := [.int 64]) (c_X12_aside l D dA ad S (pO_bnd hf)) mf_X12_aside rfl rfl gX12_heelNow_X12_aside (pRc.of (ci := 12) rfl rfl) (by omega) rfl (Nat.le_of_ble_eq_true rfl) (by rfl) dX12_heelNow_3 (fun r1 h1 q1 => ?_)
  obtain ⟨S_1, rfl, hf⟩ := q1
  dsimp only at hf
  refine E_imul dX12_heelNow_6 ?_
  refine E_aload_n dX12_heelNow_7 rfl ?_
  refine E_callVI (st := [.int (64 * r1)]) (c_X12_righting l D dA ad S_1 (pO_bnd hf)) mf_X12_righting rfl rfl gX12_heelNow_X12_righting (pRc.of (ci := 12) rfl rfl) (by omega) rfl (Nat.le_of_ble_eq_true rfl) (by rfl) dX12_heelNow_8 (fun r2 h2 q2 => ?_)
  obtain ⟨S_2, rfl, hf⟩ := q2
  dsimp only at hf
  obtain ⟨hz_3, hf⟩ := pO_gd hf
  refine E_idiv dX12_heelNow_11 (pnz_n hz_3) ?_
  exact E_iret rfl dX12_heelNow_12 ⟨_, rfl, hf⟩
theorem hi_X12_rolls_12 : ∀ w ∈ u_ws RX12 TX12 32, w ∈ wsX12_rolls := fun w h => of_decide_eq_true (List.all_eq_true.mp (by decide +kernel : (u_ws RX12 TX12 32).all (fun w => decide (w ∈ wsX12_rolls)) = true) w h)
theorem fl_X12_rolls_31 : pFL wsX12_rolls RX12 31 12 8 := ⟨RX12, TX12, 32, hi_X12_rolls_12, rfl, by decide, by decide +kernel⟩
theorem mf_X12_rolls : pMF yX12_rolls wsX12_rolls cX12_rolls 3 (some .int) 2 := ⟨⟨_, rfl⟩, by decide +kernel, by decide, by decide +kernel, by decide +kernel, by decide +kernel⟩
def f_X12_rolls (S : PS) (v1 : Int32) (v2 : Int32) : Option (Int32 × PS) :=
  pgd (pin v1 16) (if ((S.2 3) v1.toNatClampNeg) = (1 : Int32) then (some (v2 / 32, S)) else (pgd (pin v1 16) (if ((S.2 3) v1.toNatClampNeg) = (3 : Int32) then (some (2 * (v2 / 32), S)) else (some (0, S)))))
set_option maxRecDepth 100000 in
theorem c_X12_rolls (l : Launch) (D : va_G) (dA : Nat → ClassId) (ad : Nat → Nat) (S : PS) (v1 : Int32) (v2 : Int32) {P : (Int32 × PS) → Prop} (hf : pO (f_X12_rolls S v1 v2) P) : CtI l D dA ad yX12_rolls wsX12_rolls 0 [.ref 0, .int v1, .int v2] (hM S) (fun r h' => ∃ S' : PS, h' = hM S' ∧ P (r, S')) := by
  refine CtI_of mf_X12_rolls rfl rfl (Nat.le_of_ble_eq_true rfl) rfl (hM_len S) ?_
  unfold f_X12_rolls at hf
  refine E_aload_n dX12_rolls_0 rfl ?_
  refine E_getf (v := .ref 4) dX12_rolls_1 fl_X12_rolls_31 rfl rfl ?_
  refine E_iload_n dX12_rolls_4 rfl ?_
  obtain ⟨hi_1, hf⟩ := pO_gd hf
  refine E_iald (n0 := 16) (f := S.2 3) dX12_rolls_5 rfl (pin_in hi_1) ?_
  refine E_iconst (v := 1) dX12_rolls_6 (by decide) ?_
  refine E_icmp_ne (tgt := 17) dX12_rolls_7 (by decide) (fun c_2 => ?_) (fun c_2 => ?_)
  · have hf := pO_neg c_2 hf
    refine E_aload_n dX12_rolls_17 rfl ?_
    refine E_getf (v := .ref 4) dX12_rolls_18 fl_X12_rolls_31 rfl rfl ?_
    refine E_iload_n dX12_rolls_21 rfl ?_
    obtain ⟨hi_3, hf⟩ := pO_gd hf
    refine E_iald (n0 := 16) (f := S.2 3) dX12_rolls_22 rfl (pin_in hi_3) ?_
    refine E_iconst (v := 3) dX12_rolls_23 (by decide) ?_
    refine E_icmp_ne (tgt := 36) dX12_rolls_24 (by decide) (fun c_4 => ?_) (fun c_4 => ?_)
    · have hf := pO_neg c_4 hf
      refine E_iconst (v := 0) dX12_rolls_36 (by decide) ?_
      exact E_iret rfl dX12_rolls_37 ⟨_, rfl, hf⟩
    · have hf := pO_pos c_4 hf
      refine E_iconst (v := 2) dX12_rolls_27 (by decide) ?_
      refine E_iload_n dX12_rolls_28 rfl ?_
      refine E_bipush (v := 32) dX12_rolls_29 (by decide) ?_
      refine E_idiv dX12_rolls_31 (by decide) ?_
      refine E_imul dX12_rolls_32 ?_
      refine E_goto (tgt := 37) dX12_rolls_33 (by decide) ?_
      exact E_iret rfl dX12_rolls_37 ⟨_, rfl, hf⟩
  · have hf := pO_pos c_2 hf
    refine E_iload_n dX12_rolls_10 rfl ?_
    refine E_bipush (v := 32) dX12_rolls_11 (by decide) ?_
    refine E_idiv dX12_rolls_13 (by decide) ?_
    refine E_goto (tgt := 37) dX12_rolls_14 (by decide) ?_
    exact E_iret rfl dX12_rolls_37 ⟨_, rfl, hf⟩
theorem mf_X12_goods : pMF yX12_goods wsX12_goods cX12_goods 4 (some .int) 2 := ⟨⟨_, rfl⟩, by decide +kernel, by decide, by decide +kernel, by decide +kernel, by decide +kernel⟩
def f_X12_goods (S : PS) (v1 : Int32) (v2 : Int32) : Option (Int32 × PS) :=
  pbnd (f_X12_isName S v1) (fun r1 S_1 => if r1 = (0 : Int32) then (some ((-2147483648), S_1)) else (pbnd (f_X12_find S_1 v1) (fun r3 S_3 => if (0 : Int32) ≤ r3 then (if v2 = (0 : Int32) then (pgd (pin r3 16) (some ((S_3.2 3) r3.toNatClampNeg, S_3))) else (if v2 = (1 : Int32) then (pgd (pin r3 16) (some ((S_3.2 4) r3.toNatClampNeg, S_3))) else (if v2 = (2 : Int32) then (pgd (pin r3 16) (some ((S_3.2 5) r3.toNatClampNeg, S_3))) else (if v2 = (3 : Int32) then (pgd (pin r3 16) (some ((S_3.2 6) r3.toNatClampNeg, S_3))) else (if v2 = (4 : Int32) then (pgd (pin r3 16) (some ((S_3.2 7) r3.toNatClampNeg, S_3))) else (if v2 = (5 : Int32) then (pbnd (f_X12_weighs S_3 r3) (fun r16 S_16 => some (r16, S_16))) else (if v2 = (6 : Int32) then (pbnd (f_X12_isUpright S_3) (fun r18 S_18 => if r18 = (0 : Int32) then (some (0, S_18)) else (pbnd (f_X12_heelNow S_18) (fun r20 S_20 => pbnd (f_X12_rolls S_20 r3 r20) (fun r21 S_21 => some (r21, S_21)))))) else (some ((-2147483648), S_3))))))))) else (some ((-2147483648), S_3)))))
set_option maxRecDepth 100000 in
theorem c_X12_goods (l : Launch) (D : va_G) (dA : Nat → ClassId) (ad : Nat → Nat) (S : PS) (v1 : Int32) (v2 : Int32) {P : (Int32 × PS) → Prop} (hf : pO (f_X12_goods S v1 v2) P) : CtI l D dA ad yX12_goods wsX12_goods 7 [.ref 0, .int v1, .int v2] (hM S) (fun r h' => ∃ S' : PS, h' = hM S' ∧ P (r, S')) := by
  refine CtI_of mf_X12_goods rfl rfl (Nat.le_of_ble_eq_true rfl) rfl (hM_len S) ?_
  unfold f_X12_goods at hf
  refine E_iload_n dX12_goods_0 rfl ?_
  refine E_callSI (st := []) (c_X12_isName l D dA ad S v1 (pO_bnd hf)) mf_X12_isName rfl gX12_goods_X12_isName (by omega) rfl (Nat.le_of_ble_eq_true rfl) (by rfl) dX12_goods_1 (fun r1 h1 q1 => ?_)
  obtain ⟨S_1, rfl, hf⟩ := q1
  dsimp only at hf
  refine E_if_eq (tgt := 15) dX12_goods_4 (by decide) (fun c_2 => ?_) (fun c_2 => ?_)
  · have hf := pO_pos c_2 hf
    refine E_iconst (v := (-1)) dX12_goods_15 (by decide) ?_
    refine E_istore_n (ls' := [(0, .ref 0), (1, .int v1), (2, .int v2), (3, .int (-1))]) dX12_goods_16 (by decide) rfl ?_
    refine E_iload_n dX12_goods_17 rfl ?_
    refine E_if_ge (tgt := 24) dX12_goods_18 (by decide) (fun c => absurd c (by decide)) (fun _ => ?_)
    refine E_ldc (v := (-2147483648)) dX12_goods_21 (by decide +kernel) ?_
    exact E_iret rfl dX12_goods_23 ⟨_, rfl, hf⟩
  · have hf := pO_neg c_2 hf
    refine E_aload_n dX12_goods_7 rfl ?_
    refine E_iload_n dX12_goods_8 rfl ?_
    refine E_callVI (st := []) (c_X12_find l D dA ad S_1 v1 (pO_bnd hf)) mf_X12_find rfl rfl gX12_goods_X12_find (pRc.of (ci := 12) rfl rfl) (by omega) rfl (Nat.le_of_ble_eq_true rfl) (by rfl) dX12_goods_9 (fun r3 h3 q3 => ?_)
    obtain ⟨S_3, rfl, hf⟩ := q3
    dsimp only at hf
    refine E_goto (tgt := 16) dX12_goods_12 (by decide) ?_
    refine E_istore_n (ls' := [(0, .ref 0), (1, .int v1), (2, .int v2), (3, .int r3)]) dX12_goods_16 (by decide) rfl ?_
    refine E_iload_n dX12_goods_17 rfl ?_
    refine E_if_ge (tgt := 24) dX12_goods_18 (by decide) (fun c_4 => ?_) (fun c_4 => ?_)
    · have hf := pO_pos c_4 hf
      refine E_iload_n dX12_goods_24 rfl ?_
      by_cases k_5 : v2 = (0 : Int32)
      · have hf := pO_pos k_5 hf
        refine E_tableIn (off := 43) (tgt := 68) dX12_goods_25 (by rw [k_5]; decide) (by rw [k_5]; decide) (by rw [k_5]; rfl) (by decide) ?_
        refine E_aload_n dX12_goods_68 rfl ?_
        refine E_getf (v := .ref 4) dX12_goods_69 fl_X12_goods_31 rfl rfl ?_
        refine E_iload_n dX12_goods_72 rfl ?_
        obtain ⟨hi_6, hf⟩ := pO_gd hf
        refine E_iald (n0 := 16) (f := S_3.2 3) dX12_goods_73 rfl (pin_in hi_6) ?_
        exact E_iret rfl dX12_goods_74 ⟨_, rfl, hf⟩
      · have hf := pO_neg k_5 hf
        by_cases k_7 : v2 = (1 : Int32)
        · have hf := pO_pos k_7 hf
          refine E_tableIn (off := 50) (tgt := 75) dX12_goods_25 (by rw [k_7]; decide) (by rw [k_7]; decide) (by rw [k_7]; rfl) (by decide) ?_
          refine E_aload_n dX12_goods_75 rfl ?_
          refine E_getf (v := .ref 5) dX12_goods_76 fl_X12_goods_34 rfl rfl ?_
          refine E_iload_n dX12_goods_79 rfl ?_
          obtain ⟨hi_8, hf⟩ := pO_gd hf
          refine E_iald (n0 := 16) (f := S_3.2 4) dX12_goods_80 rfl (pin_in hi_8) ?_
          exact E_iret rfl dX12_goods_81 ⟨_, rfl, hf⟩
        · have hf := pO_neg k_7 hf
          by_cases k_9 : v2 = (2 : Int32)
          · have hf := pO_pos k_9 hf
            refine E_tableIn (off := 57) (tgt := 82) dX12_goods_25 (by rw [k_9]; decide) (by rw [k_9]; decide) (by rw [k_9]; rfl) (by decide) ?_
            refine E_aload_n dX12_goods_82 rfl ?_
            refine E_getf (v := .ref 6) dX12_goods_83 fl_X12_goods_37 rfl rfl ?_
            refine E_iload_n dX12_goods_86 rfl ?_
            obtain ⟨hi_10, hf⟩ := pO_gd hf
            refine E_iald (n0 := 16) (f := S_3.2 5) dX12_goods_87 rfl (pin_in hi_10) ?_
            exact E_iret rfl dX12_goods_88 ⟨_, rfl, hf⟩
          · have hf := pO_neg k_9 hf
            by_cases k_11 : v2 = (3 : Int32)
            · have hf := pO_pos k_11 hf
              refine E_tableIn (off := 64) (tgt := 89) dX12_goods_25 (by rw [k_11]; decide) (by rw [k_11]; decide) (by rw [k_11]; rfl) (by decide) ?_
              refine E_aload_n dX12_goods_89 rfl ?_
              refine E_getf (v := .ref 7) dX12_goods_90 fl_X12_goods_40 rfl rfl ?_
              refine E_iload_n dX12_goods_93 rfl ?_
              obtain ⟨hi_12, hf⟩ := pO_gd hf
              refine E_iald (n0 := 16) (f := S_3.2 6) dX12_goods_94 rfl (pin_in hi_12) ?_
              exact E_iret rfl dX12_goods_95 ⟨_, rfl, hf⟩
            · have hf := pO_neg k_11 hf
              by_cases k_13 : v2 = (4 : Int32)
              · have hf := pO_pos k_13 hf
                refine E_tableIn (off := 71) (tgt := 96) dX12_goods_25 (by rw [k_13]; decide) (by rw [k_13]; decide) (by rw [k_13]; rfl) (by decide) ?_
                refine E_aload_n dX12_goods_96 rfl ?_
                refine E_getf (v := .ref 8) dX12_goods_97 fl_X12_goods_43 rfl rfl ?_
                refine E_iload_n dX12_goods_100 rfl ?_
                obtain ⟨hi_14, hf⟩ := pO_gd hf
                refine E_iald (n0 := 16) (f := S_3.2 7) dX12_goods_101 rfl (pin_in hi_14) ?_
                exact E_iret rfl dX12_goods_102 ⟨_, rfl, hf⟩
              · have hf := pO_neg k_13 hf
                by_cases k_15 : v2 = (5 : Int32)
                · have hf := pO_pos k_15 hf
                  refine E_tableIn (off := 78) (tgt := 103) dX12_goods_25 (by rw [k_15]; decide) (by rw [k_15]; decide) (by rw [k_15]; rfl) (by decide) ?_
                  refine E_aload_n dX12_goods_103 rfl ?_
                  refine E_iload_n dX12_goods_104 rfl ?_
                  refine E_callVI (st := []) (c_X12_weighs l D dA ad S_3 r3 (pO_bnd hf)) mf_X12_weighs rfl rfl gX12_goods_X12_weighs (pRc.of (ci := 12) rfl rfl) (by omega) rfl (Nat.le_of_ble_eq_true rfl) (by rfl) dX12_goods_105 (fun r16 h16 q16 => ?_)
                  obtain ⟨S_16, rfl, hf⟩ := q16
                  dsimp only at hf
                  exact E_iret rfl dX12_goods_108 ⟨_, rfl, hf⟩
                · have hf := pO_neg k_15 hf
                  by_cases k_17 : v2 = (6 : Int32)
                  · have hf := pO_pos k_17 hf
                    refine E_tableIn (off := 84) (tgt := 109) dX12_goods_25 (by rw [k_17]; decide) (by rw [k_17]; decide) (by rw [k_17]; rfl) (by decide) ?_
                    refine E_aload_n dX12_goods_109 rfl ?_
                    refine E_callVI (st := []) (c_X12_isUpright l D dA ad S_3 (pO_bnd hf)) mf_X12_isUpright rfl rfl gX12_goods_X12_isUpright (pRc.of (ci := 12) rfl rfl) (by omega) rfl (Nat.le_of_ble_eq_true rfl) (by rfl) dX12_goods_110 (fun r18 h18 q18 => ?_)
                    obtain ⟨S_18, rfl, hf⟩ := q18
                    dsimp only at hf
                    refine E_if_eq (tgt := 128) dX12_goods_113 (by decide) (fun c_19 => ?_) (fun c_19 => ?_)
                    · have hf := pO_pos c_19 hf
                      refine E_iconst (v := 0) dX12_goods_128 (by decide) ?_
                      exact E_iret rfl dX12_goods_129 ⟨_, rfl, hf⟩
                    · have hf := pO_neg c_19 hf
                      refine E_aload_n dX12_goods_116 rfl ?_
                      refine E_iload_n dX12_goods_117 rfl ?_
                      refine E_aload_n dX12_goods_118 rfl ?_
                      refine E_callVI (st := [.int r3, .ref 0]) (c_X12_heelNow l D dA ad S_18 (pO_bnd hf)) mf_X12_heelNow rfl rfl gX12_goods_X12_heelNow (pRc.of (ci := 12) rfl rfl) (by omega) rfl (Nat.le_of_ble_eq_true rfl) (by rfl) dX12_goods_119 (fun r20 h20 q20 => ?_)
                      obtain ⟨S_20, rfl, hf⟩ := q20
                      dsimp only at hf
                      refine E_callVI (st := []) (c_X12_rolls l D dA ad S_20 r3 r20 (pO_bnd hf)) mf_X12_rolls rfl rfl gX12_goods_X12_rolls (pRc.of (ci := 12) rfl rfl) (by omega) rfl (Nat.le_of_ble_eq_true rfl) (by rfl) dX12_goods_122 (fun r21 h21 q21 => ?_)
                      obtain ⟨S_21, rfl, hf⟩ := q21
                      dsimp only at hf
                      refine E_goto (tgt := 129) dX12_goods_125 (by decide) ?_
                      exact E_iret rfl dX12_goods_129 ⟨_, rfl, hf⟩
                  · have hf := pO_neg k_17 hf
                    refine E_tableOut (tgt := 130) dX12_goods_25 (by have z0 := pti k_5 (by decide : (0 : Int32).toInt = 0); have z1 := pti k_7 (by decide : (1 : Int32).toInt = 1); have z2 := pti k_9 (by decide : (2 : Int32).toInt = 2); have z3 := pti k_11 (by decide : (3 : Int32).toInt = 3); have z4 := pti k_13 (by decide : (4 : Int32).toInt = 4); have z5 := pti k_15 (by decide : (5 : Int32).toInt = 5); have z6 := pti k_17 (by decide : (6 : Int32).toInt = 6); omega) (by decide) ?_
                    refine E_ldc (v := (-2147483648)) dX12_goods_130 (by decide +kernel) ?_
                    exact E_iret rfl dX12_goods_132 ⟨_, rfl, hf⟩
    · have hf := pO_neg c_4 hf
      refine E_ldc (v := (-2147483648)) dX12_goods_21 (by decide +kernel) ?_
      exact E_iret rfl dX12_goods_23 ⟨_, rfl, hf⟩
