theorem hi_X12_taken_12 : ∀ w ∈ u_ws RX12 TX12 32, w ∈ wsX12_taken := fun w h => of_decide_eq_true (List.all_eq_true.mp (by decide +kernel : (u_ws RX12 TX12 32).all (fun w => decide (w ∈ wsX12_taken)) = true) w h)
theorem fl_X12_taken_31 : pFL wsX12_taken RX12 31 12 8 := ⟨RX12, TX12, 32, hi_X12_taken_12, rfl, by decide, by decide +kernel⟩
theorem mf_X12_isUnder : pMF yX12_isUnder wsX12_isUnder cX12_isUnder 2 (some .boolean) 2 := ⟨⟨_, rfl⟩, by decide +kernel, by decide, by decide +kernel, by decide +kernel, by decide +kernel⟩
def f_X12_isUnder (S : PS) (v0 : Int32) (v1 : Int32) : Option (Int32 × PS) :=
  if v1 = (0 : Int32) then (some (1, S)) else (if v0 = v1 then (some (1, S)) else (if v0 = (3 : Int32) then (if v1 = (1 : Int32) then (some (1, S)) else (if v0 = (4 : Int32) then (if v1 = (2 : Int32) then (some (1, S)) else (some (0, S))) else (some (0, S)))) else (if v0 = (4 : Int32) then (if v1 = (2 : Int32) then (some (1, S)) else (some (0, S))) else (some (0, S)))))
set_option maxRecDepth 100000 in
theorem c_X12_isUnder (l : Launch) (D : va_G) (dA : Nat → ClassId) (ad : Nat → Nat) (S : PS) (v0 : Int32) (v1 : Int32) {P : (Int32 × PS) → Prop} (hf : pO (f_X12_isUnder S v0 v1) P) : CtI l D dA ad yX12_isUnder wsX12_isUnder 0 [.int v0, .int v1] (hM S) (fun r h' => ∃ S' : PS, h' = hM S' ∧ P (r, S')) := by
  refine CtI_of mf_X12_isUnder rfl rfl (Nat.le_of_ble_eq_true rfl) rfl (hM_len S) ?_
  unfold f_X12_isUnder at hf
  refine E_iload_n dX12_isUnder_0 rfl ?_
  refine E_if_eq (tgt := 29) dX12_isUnder_1 (by decide) (fun c_1 => ?_) (fun c_1 => ?_)
  · have hf := pO_pos c_1 hf
    refine E_iconst (v := 1) dX12_isUnder_29 (by decide) ?_
    refine E_goto (tgt := 34) dX12_isUnder_30 (by decide) ?_
    exact E_zret rfl dX12_isUnder_34 (by decide) ⟨_, rfl, hf⟩
  · have hf := pO_neg c_1 hf
    refine E_iload_n dX12_isUnder_4 rfl ?_
    refine E_iload_n dX12_isUnder_5 rfl ?_
    refine E_icmp_eq (tgt := 29) dX12_isUnder_6 (by decide) (fun c_2 => ?_) (fun c_2 => ?_)
    · have hf := pO_pos c_2 hf
      refine E_iconst (v := 1) dX12_isUnder_29 (by decide) ?_
      refine E_goto (tgt := 34) dX12_isUnder_30 (by decide) ?_
      exact E_zret rfl dX12_isUnder_34 (by decide) ⟨_, rfl, hf⟩
    · have hf := pO_neg c_2 hf
      refine E_iload_n dX12_isUnder_9 rfl ?_
      refine E_iconst (v := 3) dX12_isUnder_10 (by decide) ?_
      refine E_icmp_ne (tgt := 19) dX12_isUnder_11 (by decide) (fun c_3 => ?_) (fun c_3 => ?_)
      · have hf := pO_neg c_3 hf
        refine E_iload_n dX12_isUnder_19 rfl ?_
        refine E_iconst (v := 4) dX12_isUnder_20 (by decide) ?_
        refine E_icmp_ne (tgt := 33) dX12_isUnder_21 (by decide) (fun c_4 => ?_) (fun c_4 => ?_)
        · have hf := pO_neg c_4 hf
          refine E_iconst (v := 0) dX12_isUnder_33 (by decide) ?_
          exact E_zret rfl dX12_isUnder_34 (by decide) ⟨_, rfl, hf⟩
        · have hf := pO_pos c_4 hf
          refine E_iload_n dX12_isUnder_24 rfl ?_
          refine E_iconst (v := 2) dX12_isUnder_25 (by decide) ?_
          refine E_icmp_ne (tgt := 33) dX12_isUnder_26 (by decide) (fun c_5 => ?_) (fun c_5 => ?_)
          · have hf := pO_neg c_5 hf
            refine E_iconst (v := 0) dX12_isUnder_33 (by decide) ?_
            exact E_zret rfl dX12_isUnder_34 (by decide) ⟨_, rfl, hf⟩
          · have hf := pO_pos c_5 hf
            refine E_iconst (v := 1) dX12_isUnder_29 (by decide) ?_
            refine E_goto (tgt := 34) dX12_isUnder_30 (by decide) ?_
            exact E_zret rfl dX12_isUnder_34 (by decide) ⟨_, rfl, hf⟩
      · have hf := pO_pos c_3 hf
        refine E_iload_n dX12_isUnder_14 rfl ?_
        refine E_iconst (v := 1) dX12_isUnder_15 (by decide) ?_
        refine E_icmp_eq (tgt := 29) dX12_isUnder_16 (by decide) (fun c_6 => ?_) (fun c_6 => ?_)
        · have hf := pO_pos c_6 hf
          refine E_iconst (v := 1) dX12_isUnder_29 (by decide) ?_
          refine E_goto (tgt := 34) dX12_isUnder_30 (by decide) ?_
          exact E_zret rfl dX12_isUnder_34 (by decide) ⟨_, rfl, hf⟩
        · have hf := pO_neg c_6 hf
          refine E_iload_n dX12_isUnder_19 rfl ?_
          refine E_iconst (v := 4) dX12_isUnder_20 (by decide) ?_
          refine E_icmp_ne (tgt := 33) dX12_isUnder_21 (by decide) (fun c_7 => ?_) (fun c_7 => ?_)
          · have hf := pO_neg c_7 hf
            refine E_iconst (v := 0) dX12_isUnder_33 (by decide) ?_
            exact E_zret rfl dX12_isUnder_34 (by decide) ⟨_, rfl, hf⟩
          · have hf := pO_pos c_7 hf
            refine E_iload_n dX12_isUnder_24 rfl ?_
            refine E_iconst (v := 2) dX12_isUnder_25 (by decide) ?_
            refine E_icmp_ne (tgt := 33) dX12_isUnder_26 (by decide) (fun c_8 => ?_) (fun c_8 => ?_)
            · have hf := pO_neg c_8 hf
              refine E_iconst (v := 0) dX12_isUnder_33 (by decide) ?_
              exact E_zret rfl dX12_isUnder_34 (by decide) ⟨_, rfl, hf⟩
            · have hf := pO_pos c_8 hf
              refine E_iconst (v := 1) dX12_isUnder_29 (by decide) ?_
              refine E_goto (tgt := 34) dX12_isUnder_30 (by decide) ?_
              exact E_zret rfl dX12_isUnder_34 (by decide) ⟨_, rfl, hf⟩
theorem fl_X12_taken_34 : pFL wsX12_taken RX12 34 12 9 := ⟨RX12, TX12, 32, hi_X12_taken_12, rfl, by decide, by decide +kernel⟩
theorem mf_X12_taken : pMF yX12_taken wsX12_taken cX12_taken 4 (some .int) 2 := ⟨⟨_, rfl⟩, by decide +kernel, by decide, by decide +kernel, by decide +kernel, by decide +kernel⟩
def f_X12_taken (S : PS) (v1 : Int32) (v2 : Int32) : Option (Int32 × PS) :=
  pbnd (f_X12_isName S v1) (fun r1 S_1 => if r1 = (0 : Int32) then (some ((-1), S_1)) else (pbnd (f_X12_in S_1 v2 0 4) (fun r3 S_3 => if r3 = (0 : Int32) then (some ((-1), S_3)) else (pbnd (f_X12_find S_3 v1) (fun r5 S_5 => if (0 : Int32) ≤ r5 then (pgd (pin r5 16) (pbnd (f_X12_isUnder S_5 ((S_5.2 3) r5.toNatClampNeg) v2) (fun r8 S_8 => if r8 = (0 : Int32) then (some ((-5), S_8)) else (pgd (pin r5 16) (some ((S_8.2 4) r5.toNatClampNeg, S_8)))))) else (some ((-2), S_5)))))))
set_option maxRecDepth 100000 in
theorem c_X12_taken (l : Launch) (D : va_G) (dA : Nat → ClassId) (ad : Nat → Nat) (S : PS) (v1 : Int32) (v2 : Int32) {P : (Int32 × PS) → Prop} (hf : pO (f_X12_taken S v1 v2) P) : CtI l D dA ad yX12_taken wsX12_taken 1 [.ref 0, .int v1, .int v2] (hM S) (fun r h' => ∃ S' : PS, h' = hM S' ∧ P (r, S')) := by
  refine CtI_of mf_X12_taken rfl rfl (Nat.le_of_ble_eq_true rfl) rfl (hM_len S) ?_
  unfold f_X12_taken at hf
  refine E_iload_n dX12_taken_0 rfl ?_
  refine E_callSI (st := []) (c_X12_isName l D dA ad S v1 (pO_bnd hf)) mf_X12_isName rfl gX12_taken_X12_isName (by omega) rfl (Nat.le_of_ble_eq_true rfl) (by rfl) dX12_taken_1 (fun r1 h1 q1 => ?_)
  obtain ⟨S_1, rfl, hf⟩ := q1
  dsimp only at hf
  refine E_if_eq (tgt := 16) dX12_taken_4 (by decide) (fun c_2 => ?_) (fun c_2 => ?_)
  · have hf := pO_pos c_2 hf
    refine E_iconst (v := (-1)) dX12_taken_16 (by decide) ?_
    exact E_iret rfl dX12_taken_17 ⟨_, rfl, hf⟩
  · have hf := pO_neg c_2 hf
    refine E_iload_n dX12_taken_7 rfl ?_
    refine E_iconst (v := 0) dX12_taken_8 (by decide) ?_
    refine E_iconst (v := 4) dX12_taken_9 (by decide) ?_
    refine E_callSI (st := []) (c_X12_in l D dA ad S_1 v2 0 4 (pO_bnd hf)) mf_X12_in rfl gX12_taken_X12_in (by omega) rfl (Nat.le_of_ble_eq_true rfl) (by rfl) dX12_taken_10 (fun r3 h3 q3 => ?_)
    obtain ⟨S_3, rfl, hf⟩ := q3
    dsimp only at hf
    refine E_if_ne (tgt := 18) dX12_taken_13 (by decide) (fun c_4 => ?_) (fun c_4 => ?_)
    · have hf := pO_neg c_4 hf
      refine E_aload_n dX12_taken_18 rfl ?_
      refine E_iload_n dX12_taken_19 rfl ?_
      refine E_callVI (st := []) (c_X12_find l D dA ad S_3 v1 (pO_bnd hf)) mf_X12_find rfl rfl gX12_taken_X12_find (pRc.of (ci := 12) rfl rfl) (by omega) rfl (Nat.le_of_ble_eq_true rfl) (by rfl) dX12_taken_20 (fun r5 h5 q5 => ?_)
      obtain ⟨S_5, rfl, hf⟩ := q5
      dsimp only at hf
      refine E_istore_n (ls' := [(0, .ref 0), (1, .int v1), (2, .int v2), (3, .int r5)]) dX12_taken_23 (by decide) rfl ?_
      refine E_iload_n dX12_taken_24 rfl ?_
      refine E_if_ge (tgt := 31) dX12_taken_25 (by decide) (fun c_6 => ?_) (fun c_6 => ?_)
      · have hf := pO_pos c_6 hf
        refine E_aload_n dX12_taken_31 rfl ?_
        refine E_getf (v := .ref 4) dX12_taken_32 fl_X12_taken_31 rfl rfl ?_
        refine E_iload_n dX12_taken_35 rfl ?_
        obtain ⟨hi_7, hf⟩ := pO_gd hf
        refine E_iald (n0 := 16) (f := S_5.2 3) dX12_taken_36 rfl (pin_in hi_7) ?_
        refine E_iload_n dX12_taken_37 rfl ?_
        refine E_callSI (st := []) (c_X12_isUnder l D dA ad S_5 ((S_5.2 3) r5.toNatClampNeg) v2 (pO_bnd hf)) mf_X12_isUnder rfl gX12_taken_X12_isUnder (by omega) rfl (Nat.le_of_ble_eq_true rfl) (by rfl) dX12_taken_38 (fun r8 h8 q8 => ?_)
        obtain ⟨S_8, rfl, hf⟩ := q8
        dsimp only at hf
        refine E_if_eq (tgt := 53) dX12_taken_41 (by decide) (fun c_9 => ?_) (fun c_9 => ?_)
        · have hf := pO_pos c_9 hf
          refine E_bipush (v := (-5)) dX12_taken_53 (by decide) ?_
          exact E_iret rfl dX12_taken_55 ⟨_, rfl, hf⟩
        · have hf := pO_neg c_9 hf
          refine E_aload_n dX12_taken_44 rfl ?_
          refine E_getf (v := .ref 5) dX12_taken_45 fl_X12_taken_34 rfl rfl ?_
          refine E_iload_n dX12_taken_48 rfl ?_
          obtain ⟨hi_10, hf⟩ := pO_gd hf
          refine E_iald (n0 := 16) (f := S_8.2 4) dX12_taken_49 rfl (pin_in hi_10) ?_
          refine E_goto (tgt := 55) dX12_taken_50 (by decide) ?_
          exact E_iret rfl dX12_taken_55 ⟨_, rfl, hf⟩
      · have hf := pO_neg c_6 hf
        refine E_bipush (v := (-2)) dX12_taken_28 (by decide) ?_
        exact E_iret rfl dX12_taken_30 ⟨_, rfl, hf⟩
    · have hf := pO_pos c_4 hf
      refine E_iconst (v := (-1)) dX12_taken_16 (by decide) ?_
      exact E_iret rfl dX12_taken_17 ⟨_, rfl, hf⟩
theorem mf_X12_isTank : pMF yX12_isTank wsX12_isTank cX12_isTank 1 (some .boolean) 1 := ⟨⟨_, rfl⟩, by decide +kernel, by decide, by decide +kernel, by decide +kernel, by decide +kernel⟩
def f_X12_isTank (S : PS) (v0 : Int32) : Option (Int32 × PS) :=
  pbnd (f_X12_in S v0 0 3) (fun r1 S_1 => pgd (pbit r1) (some (r1, S_1)))
set_option maxRecDepth 100000 in
theorem c_X12_isTank (l : Launch) (D : va_G) (dA : Nat → ClassId) (ad : Nat → Nat) (S : PS) (v0 : Int32) {P : (Int32 × PS) → Prop} (hf : pO (f_X12_isTank S v0) P) : CtI l D dA ad yX12_isTank wsX12_isTank 1 [.int v0] (hM S) (fun r h' => ∃ S' : PS, h' = hM S' ∧ P (r, S')) := by
  refine CtI_of mf_X12_isTank rfl rfl (Nat.le_of_ble_eq_true rfl) rfl (hM_len S) ?_
  unfold f_X12_isTank at hf
  refine E_iload_n dX12_isTank_0 rfl ?_
  refine E_iconst (v := 0) dX12_isTank_1 (by decide) ?_
  refine E_iconst (v := 3) dX12_isTank_2 (by decide) ?_
  refine E_callSI (st := []) (c_X12_in l D dA ad S v0 0 3 (pO_bnd hf)) mf_X12_in rfl gX12_isTank_X12_in (by omega) rfl (Nat.le_of_ble_eq_true rfl) (by rfl) dX12_isTank_3 (fun r1 h1 q1 => ?_)
  obtain ⟨S_1, rfl, hf⟩ := q1
  dsimp only at hf
  obtain ⟨hn_2, hf⟩ := pO_gd hf
  exact E_zret rfl dX12_isTank_6 (pbit_n hn_2) ⟨_, rfl, hf⟩
theorem hi_X12_tank_12 : ∀ w ∈ u_ws RX12 TX12 32, w ∈ wsX12_tank := fun w h => of_decide_eq_true (List.all_eq_true.mp (by decide +kernel : (u_ws RX12 TX12 32).all (fun w => decide (w ∈ wsX12_tank)) = true) w h)
theorem fl_X12_tank_46 : pFL wsX12_tank RX12 46 12 13 := ⟨RX12, TX12, 32, hi_X12_tank_12, rfl, by decide, by decide +kernel⟩
theorem fl_X12_tank_49 : pFL wsX12_tank RX12 49 12 14 := ⟨RX12, TX12, 32, hi_X12_tank_12, rfl, by decide, by decide +kernel⟩
theorem fl_X12_tank_52 : pFL wsX12_tank RX12 52 12 15 := ⟨RX12, TX12, 32, hi_X12_tank_12, rfl, by decide, by decide +kernel⟩
theorem fl_X12_tank_55 : pFL wsX12_tank RX12 55 12 16 := ⟨RX12, TX12, 32, hi_X12_tank_12, rfl, by decide, by decide +kernel⟩
theorem mf_X12_tank : pMF yX12_tank wsX12_tank cX12_tank 5 (some .int) 4 := ⟨⟨_, rfl⟩, by decide +kernel, by decide, by decide +kernel, by decide +kernel, by decide +kernel⟩
def f_X12_tank (S : PS) (v1 : Int32) (v2 : Int32) (v3 : Int32) (v4 : Int32) : Option (Int32 × PS) :=
  pbnd (f_X12_isTank S v1) (fun r1 S_1 => if r1 = (0 : Int32) then (some ((-1), S_1)) else (pbnd (f_X12_isSection S_1 v2) (fun r3 S_3 => if r3 = (0 : Int32) then (some ((-1), S_3)) else (pbnd (f_X12_in S_3 v3 0 20) (fun r5 S_5 => if r5 = (0 : Int32) then (some ((-1), S_5)) else (pbnd (f_X12_in S_5 v4 0 999) (fun r7 S_7 => if r7 = (0 : Int32) then (some ((-1), S_7)) else (pgd (pin v1 4) (pgd (pin v1 4) (pgd (pin v1 4) (pgd (pin v1 4) (some (1, (pAr (pAr (pAr (pAr S_7 8 (upd (S_7.2 8) v1.toNatClampNeg v2)) 9 (upd (S_7.2 9) v1.toNatClampNeg v3)) 10 (upd (S_7.2 10) v1.toNatClampNeg v4)) 11 (upd (S_7.2 11) v1.toNatClampNeg 0)))))))))))))))
set_option maxRecDepth 100000 in
theorem c_X12_tank (l : Launch) (D : va_G) (dA : Nat → ClassId) (ad : Nat → Nat) (S : PS) (v1 : Int32) (v2 : Int32) (v3 : Int32) (v4 : Int32) {P : (Int32 × PS) → Prop} (hf : pO (f_X12_tank S v1 v2 v3 v4) P) : CtI l D dA ad yX12_tank wsX12_tank 2 [.ref 0, .int v1, .int v2, .int v3, .int v4] (hM S) (fun r h' => ∃ S' : PS, h' = hM S' ∧ P (r, S')) := by
  refine CtI_of mf_X12_tank rfl rfl (Nat.le_of_ble_eq_true rfl) rfl (hM_len S) ?_
  unfold f_X12_tank at hf
  refine E_iload_n dX12_tank_0 rfl ?_
  refine E_callSI (st := []) (c_X12_isTank l D dA ad S v1 (pO_bnd hf)) mf_X12_isTank rfl gX12_tank_X12_isTank (by omega) rfl (Nat.le_of_ble_eq_true rfl) (by rfl) dX12_tank_1 (fun r1 h1 q1 => ?_)
  obtain ⟨S_1, rfl, hf⟩ := q1
  dsimp only at hf
  refine E_if_eq (tgt := 37) dX12_tank_4 (by decide) (fun c_2 => ?_) (fun c_2 => ?_)
  · have hf := pO_pos c_2 hf
    refine E_iconst (v := (-1)) dX12_tank_37 (by decide) ?_
    exact E_iret rfl dX12_tank_38 ⟨_, rfl, hf⟩
  · have hf := pO_neg c_2 hf
    refine E_aload_n dX12_tank_7 rfl ?_
    refine E_iload_n dX12_tank_8 rfl ?_
    refine E_callVI (st := []) (c_X12_isSection l D dA ad S_1 v2 (pO_bnd hf)) mf_X12_isSection rfl rfl gX12_tank_X12_isSection (pRc.of (ci := 12) rfl rfl) (by omega) rfl (Nat.le_of_ble_eq_true rfl) (by rfl) dX12_tank_9 (fun r3 h3 q3 => ?_)
    obtain ⟨S_3, rfl, hf⟩ := q3
    dsimp only at hf
    refine E_if_eq (tgt := 37) dX12_tank_12 (by decide) (fun c_4 => ?_) (fun c_4 => ?_)
    · have hf := pO_pos c_4 hf
      refine E_iconst (v := (-1)) dX12_tank_37 (by decide) ?_
      exact E_iret rfl dX12_tank_38 ⟨_, rfl, hf⟩
    · have hf := pO_neg c_4 hf
      refine E_iload_n dX12_tank_15 rfl ?_
      refine E_iconst (v := 0) dX12_tank_16 (by decide) ?_
      refine E_bipush (v := 20) dX12_tank_17 (by decide) ?_
      refine E_callSI (st := []) (c_X12_in l D dA ad S_3 v3 0 20 (pO_bnd hf)) mf_X12_in rfl gX12_tank_X12_in (by omega) rfl (Nat.le_of_ble_eq_true rfl) (by rfl) dX12_tank_19 (fun r5 h5 q5 => ?_)
      obtain ⟨S_5, rfl, hf⟩ := q5
      dsimp only at hf
      refine E_if_eq (tgt := 37) dX12_tank_22 (by decide) (fun c_6 => ?_) (fun c_6 => ?_)
      · have hf := pO_pos c_6 hf
        refine E_iconst (v := (-1)) dX12_tank_37 (by decide) ?_
        exact E_iret rfl dX12_tank_38 ⟨_, rfl, hf⟩
      · have hf := pO_neg c_6 hf
        refine E_iload dX12_tank_25 rfl ?_
        refine E_iconst (v := 0) dX12_tank_27 (by decide) ?_
        refine E_sipush (v := 999) dX12_tank_28 (by decide) ?_
        refine E_callSI (st := []) (c_X12_in l D dA ad S_5 v4 0 999 (pO_bnd hf)) mf_X12_in rfl gX12_tank_X12_in (by omega) rfl (Nat.le_of_ble_eq_true rfl) (by rfl) dX12_tank_31 (fun r7 h7 q7 => ?_)
        obtain ⟨S_7, rfl, hf⟩ := q7
        dsimp only at hf
        refine E_if_ne (tgt := 39) dX12_tank_34 (by decide) (fun c_8 => ?_) (fun c_8 => ?_)
        · have hf := pO_neg c_8 hf
          refine E_aload_n dX12_tank_39 rfl ?_
          refine E_getf (v := .ref 9) dX12_tank_40 fl_X12_tank_46 rfl rfl ?_
          refine E_iload_n dX12_tank_43 rfl ?_
          refine E_iload_n dX12_tank_44 rfl ?_
          obtain ⟨hi_9, hf⟩ := pO_gd hf
          refine E_iast (n0 := 4) (f := S_7.2 8) (h' := hM (pAr S_7 8 (upd (S_7.2 8) v1.toNatClampNeg v2))) dX12_tank_45 rfl (pin_in hi_9) (sM_A8 S_7 (upd (S_7.2 8) v1.toNatClampNeg v2)) ?_
          refine E_aload_n dX12_tank_46 rfl ?_
          refine E_getf (v := .ref 10) dX12_tank_47 fl_X12_tank_49 rfl rfl ?_
          refine E_iload_n dX12_tank_50 rfl ?_
          refine E_iload_n dX12_tank_51 rfl ?_
          obtain ⟨hi_10, hf⟩ := pO_gd hf
          refine E_iast (n0 := 4) (f := S_7.2 9) (h' := hM (pAr (pAr S_7 8 (upd (S_7.2 8) v1.toNatClampNeg v2)) 9 (upd (S_7.2 9) v1.toNatClampNeg v3))) dX12_tank_52 rfl (pin_in hi_10) (sM_A9 (pAr S_7 8 (upd (S_7.2 8) v1.toNatClampNeg v2)) (upd (S_7.2 9) v1.toNatClampNeg v3)) ?_
          refine E_aload_n dX12_tank_53 rfl ?_
          refine E_getf (v := .ref 11) dX12_tank_54 fl_X12_tank_52 rfl rfl ?_
          refine E_iload_n dX12_tank_57 rfl ?_
          refine E_iload dX12_tank_58 rfl ?_
          obtain ⟨hi_11, hf⟩ := pO_gd hf
          refine E_iast (n0 := 4) (f := S_7.2 10) (h' := hM (pAr (pAr (pAr S_7 8 (upd (S_7.2 8) v1.toNatClampNeg v2)) 9 (upd (S_7.2 9) v1.toNatClampNeg v3)) 10 (upd (S_7.2 10) v1.toNatClampNeg v4))) dX12_tank_60 rfl (pin_in hi_11) (sM_A10 (pAr (pAr S_7 8 (upd (S_7.2 8) v1.toNatClampNeg v2)) 9 (upd (S_7.2 9) v1.toNatClampNeg v3)) (upd (S_7.2 10) v1.toNatClampNeg v4)) ?_
          refine E_aload_n dX12_tank_61 rfl ?_
          refine E_getf (v := .ref 12) dX12_tank_62 fl_X12_tank_55 rfl rfl ?_
          refine E_iload_n dX12_tank_65 rfl ?_
          refine E_iconst (v := 0) dX12_tank_66 (by decide) ?_
          obtain ⟨hi_12, hf⟩ := pO_gd hf
          refine E_iast (n0 := 4) (f := S_7.2 11) (h' := hM (pAr (pAr (pAr (pAr S_7 8 (upd (S_7.2 8) v1.toNatClampNeg v2)) 9 (upd (S_7.2 9) v1.toNatClampNeg v3)) 10 (upd (S_7.2 10) v1.toNatClampNeg v4)) 11 (upd (S_7.2 11) v1.toNatClampNeg 0))) dX12_tank_67 rfl (pin_in hi_12) (sM_A11 (pAr (pAr (pAr S_7 8 (upd (S_7.2 8) v1.toNatClampNeg v2)) 9 (upd (S_7.2 9) v1.toNatClampNeg v3)) 10 (upd (S_7.2 10) v1.toNatClampNeg v4)) (upd (S_7.2 11) v1.toNatClampNeg 0)) ?_
          refine E_iconst (v := 1) dX12_tank_68 (by decide) ?_
          exact E_iret rfl dX12_tank_69 ⟨_, rfl, hf⟩
        · have hf := pO_pos c_8 hf
          refine E_iconst (v := (-1)) dX12_tank_37 (by decide) ?_
          exact E_iret rfl dX12_tank_38 ⟨_, rfl, hf⟩
theorem hi_X12_fill_12 : ∀ w ∈ u_ws RX12 TX12 32, w ∈ wsX12_fill := fun w h => of_decide_eq_true (List.all_eq_true.mp (by decide +kernel : (u_ws RX12 TX12 32).all (fun w => decide (w ∈ wsX12_fill)) = true) w h)
theorem fl_X12_fill_49 : pFL wsX12_fill RX12 49 12 14 := ⟨RX12, TX12, 32, hi_X12_fill_12, rfl, by decide, by decide +kernel⟩
theorem fl_X12_fill_52 : pFL wsX12_fill RX12 52 12 15 := ⟨RX12, TX12, 32, hi_X12_fill_12, rfl, by decide, by decide +kernel⟩
theorem fl_X12_fill_55 : pFL wsX12_fill RX12 55 12 16 := ⟨RX12, TX12, 32, hi_X12_fill_12, rfl, by decide, by decide +kernel⟩
theorem mf_X12_fill : pMF yX12_fill wsX12_fill cX12_fill 4 (some .int) 2 := ⟨⟨_, rfl⟩, by decide +kernel, by decide, by decide +kernel, by decide +kernel, by decide +kernel⟩
def f_X12_fill (S : PS) (v1 : Int32) (v2 : Int32) : Option (Int32 × PS) :=
  pbnd (f_X12_isTank S v1) (fun r1 S_1 => if r1 = (0 : Int32) then (some ((-1), S_1)) else (if (0 : Int32) ≤ v2 then (pgd (pin v1 4) (if ((S_1.2 9) v1.toNatClampNeg) = (0 : Int32) then (some ((-5), S_1)) else (pgd (pin v1 4) (if v2 ≤ ((S_1.2 10) v1.toNatClampNeg) then (pgd (pin v1 4) (pgd (pin v1 4) (some ((S_1.2 11) v1.toNatClampNeg, (pAr S_1 11 (upd (S_1.2 11) v1.toNatClampNeg v2)))))) else (some ((-5), S_1)))))) else (some ((-1), S_1))))
set_option maxRecDepth 100000 in
theorem c_X12_fill (l : Launch) (D : va_G) (dA : Nat → ClassId) (ad : Nat → Nat) (S : PS) (v1 : Int32) (v2 : Int32) {P : (Int32 × PS) → Prop} (hf : pO (f_X12_fill S v1 v2) P) : CtI l D dA ad yX12_fill wsX12_fill 2 [.ref 0, .int v1, .int v2] (hM S) (fun r h' => ∃ S' : PS, h' = hM S' ∧ P (r, S')) := by
  refine CtI_of mf_X12_fill rfl rfl (Nat.le_of_ble_eq_true rfl) rfl (hM_len S) ?_
  unfold f_X12_fill at hf
  refine E_iload_n dX12_fill_0 rfl ?_
  refine E_callSI (st := []) (c_X12_isTank l D dA ad S v1 (pO_bnd hf)) mf_X12_isTank rfl gX12_fill_X12_isTank (by omega) rfl (Nat.le_of_ble_eq_true rfl) (by rfl) dX12_fill_1 (fun r1 h1 q1 => ?_)
  obtain ⟨S_1, rfl, hf⟩ := q1
  dsimp only at hf
  refine E_if_eq (tgt := 11) dX12_fill_4 (by decide) (fun c_2 => ?_) (fun c_2 => ?_)
  · have hf := pO_pos c_2 hf
    refine E_iconst (v := (-1)) dX12_fill_11 (by decide) ?_
    exact E_iret rfl dX12_fill_12 ⟨_, rfl, hf⟩
  · have hf := pO_neg c_2 hf
    refine E_iload_n dX12_fill_7 rfl ?_
    refine E_if_ge (tgt := 13) dX12_fill_8 (by decide) (fun c_3 => ?_) (fun c_3 => ?_)
    · have hf := pO_pos c_3 hf
      refine E_aload_n dX12_fill_13 rfl ?_
      refine E_getf (v := .ref 10) dX12_fill_14 fl_X12_fill_49 rfl rfl ?_
      refine E_iload_n dX12_fill_17 rfl ?_
      obtain ⟨hi_4, hf⟩ := pO_gd hf
      refine E_iald (n0 := 4) (f := S_1.2 9) dX12_fill_18 rfl (pin_in hi_4) ?_
      refine E_if_eq (tgt := 32) dX12_fill_19 (by decide) (fun c_5 => ?_) (fun c_5 => ?_)
      · have hf := pO_pos c_5 hf
        refine E_bipush (v := (-5)) dX12_fill_32 (by decide) ?_
        exact E_iret rfl dX12_fill_34 ⟨_, rfl, hf⟩
      · have hf := pO_neg c_5 hf
        refine E_iload_n dX12_fill_22 rfl ?_
        refine E_aload_n dX12_fill_23 rfl ?_
        refine E_getf (v := .ref 11) dX12_fill_24 fl_X12_fill_52 rfl rfl ?_
        refine E_iload_n dX12_fill_27 rfl ?_
        obtain ⟨hi_6, hf⟩ := pO_gd hf
        refine E_iald (n0 := 4) (f := S_1.2 10) dX12_fill_28 rfl (pin_in hi_6) ?_
        refine E_icmp_le (tgt := 35) dX12_fill_29 (by decide) (fun c_7 => ?_) (fun c_7 => ?_)
        · have hf := pO_pos c_7 hf
          refine E_aload_n dX12_fill_35 rfl ?_
          refine E_getf (v := .ref 12) dX12_fill_36 fl_X12_fill_55 rfl rfl ?_
          refine E_iload_n dX12_fill_39 rfl ?_
          obtain ⟨hi_8, hf⟩ := pO_gd hf
          refine E_iald (n0 := 4) (f := S_1.2 11) dX12_fill_40 rfl (pin_in hi_8) ?_
          refine E_istore_n (ls' := [(0, .ref 0), (1, .int v1), (2, .int v2), (3, .int ((S_1.2 11) v1.toNatClampNeg))]) dX12_fill_41 (by decide) rfl ?_
          refine E_aload_n dX12_fill_42 rfl ?_
          refine E_getf (v := .ref 12) dX12_fill_43 fl_X12_fill_55 rfl rfl ?_
          refine E_iload_n dX12_fill_46 rfl ?_
          refine E_iload_n dX12_fill_47 rfl ?_
          obtain ⟨hi_9, hf⟩ := pO_gd hf
          refine E_iast (n0 := 4) (f := S_1.2 11) (h' := hM (pAr S_1 11 (upd (S_1.2 11) v1.toNatClampNeg v2))) dX12_fill_48 rfl (pin_in hi_9) (sM_A11 S_1 (upd (S_1.2 11) v1.toNatClampNeg v2)) ?_
          refine E_iload_n dX12_fill_49 rfl ?_
          exact E_iret rfl dX12_fill_50 ⟨_, rfl, hf⟩
        · have hf := pO_neg c_7 hf
          refine E_bipush (v := (-5)) dX12_fill_32 (by decide) ?_
          exact E_iret rfl dX12_fill_34 ⟨_, rfl, hf⟩
    · have hf := pO_neg c_3 hf
      refine E_iconst (v := (-1)) dX12_fill_11 (by decide) ?_
      exact E_iret rfl dX12_fill_12 ⟨_, rfl, hf⟩
theorem hi_X12_along_12 : ∀ w ∈ u_ws RX12 TX12 32, w ∈ wsX12_along := fun w h => of_decide_eq_true (List.all_eq_true.mp (by decide +kernel : (u_ws RX12 TX12 32).all (fun w => decide (w ∈ wsX12_along)) = true) w h)
theorem fl_X12_along_18 : pFL wsX12_along RX12 18 12 2 := ⟨RX12, TX12, 32, hi_X12_along_12, rfl, by decide, by decide +kernel⟩
theorem fl_X12_along_9 : pFL wsX12_along RX12 9 12 0 := ⟨RX12, TX12, 32, hi_X12_along_12, rfl, by decide, by decide +kernel⟩
theorem fl_X12_along_98 : pFL wsX12_along RX12 98 12 6 := ⟨RX12, TX12, 32, hi_X12_along_12, rfl, by decide, by decide +kernel⟩
theorem fl_X12_along_37 : pFL wsX12_along RX12 37 12 10 := ⟨RX12, TX12, 32, hi_X12_along_12, rfl, by decide, by decide +kernel⟩
def g_X12_along_14 : Nat → PS → Int32 → Int32 → Option ((Int32 × PS) ⊕ (PS × Int32))
  | 0, _, _, _ => none
  | fuel + 1, S, v1, v2 =>
    if (S.1 4) ≤ v2 then (some (.inr (S, v1))) else (pbnd (f_X12_weighs S v2) (fun r2 S_2 => pgd (pin v2 16) (g_X12_along_14 fuel S_2 (v1 + ((r2 * 2) * ((S_2.2 5) v2.toNatClampNeg))) (v2 + 1))))
set_option maxRecDepth 100000 in
theorem l_X12_along_14 (l : Launch) (D : va_G) (dA : Nat → ClassId) (ad : Nat → Nat) (d : Nat) (hd : 1 ≤ d) {Q : Int32 → List PC → Prop} : ∀ (fuel : Nat) (S : PS) (v1 : Int32) (v2 : Int32), pO (g_X12_along_14 fuel S v1 v2) (fun y => match y with
    | .inl x => Q x.1 (hM x.2)
    | .inr w => Ev l D dA ad wsX12_along cX12_along RX12 3 (some .int) d 38 (pKi D dA ad 38 Q) 45 [(0, .ref 0), (1, .int w.2)] [] (hM w.1)) → Ev l D dA ad wsX12_along cX12_along RX12 3 (some .int) d 38 (pKi D dA ad 38 Q) 14 [(0, .ref 0), (1, .int v1), (2, .int v2)] [] (hM S) := by
  intro fuel
  induction fuel with
  | zero =>
    intro S v1 v2 hf
    exact hf.elim
  | succ fuel ih =>
    intro S v1 v2 hf
    rw [g_X12_along_14] at hf
    refine E_iload_n dX12_along_14 rfl ?_
    refine E_aload_n dX12_along_15 rfl ?_
    refine E_getf (v := .int (S.1 4)) dX12_along_16 fl_X12_along_98 rfl rfl ?_
    refine E_icmp_ge (tgt := 45) dX12_along_19 (by decide) (fun c_1 => ?_) (fun c_1 => ?_)
    · have hf := pO_pos c_1 hf
      exact E_sub (ls' := [(0, .ref 0), (1, .int v1)]) ⟨rfl, rfl, trivial⟩ hf
    · have hf := pO_neg c_1 hf
      refine E_iload_n dX12_along_22 rfl ?_
      refine E_aload_n dX12_along_23 rfl ?_
      refine E_iload_n dX12_along_24 rfl ?_
      refine E_callVI (st := [.int v1]) (c_X12_weighs l D dA ad S v2 (pO_bnd hf)) mf_X12_weighs rfl rfl gX12_along_X12_weighs (pRc.of (ci := 12) rfl rfl) (by omega) rfl (Nat.le_of_ble_eq_true rfl) (by rfl) dX12_along_25 (fun r2 h2 q2 => ?_)
      obtain ⟨S_2, rfl, hf⟩ := q2
      dsimp only at hf
      refine E_iconst (v := 2) dX12_along_28 (by decide) ?_
      refine E_imul dX12_along_29 ?_
      refine E_aload_n dX12_along_30 rfl ?_
      refine E_getf (v := .ref 6) dX12_along_31 fl_X12_along_37 rfl rfl ?_
      refine E_iload_n dX12_along_34 rfl ?_
      obtain ⟨hi_3, hf⟩ := pO_gd hf
      refine E_iald (n0 := 16) (f := S_2.2 5) dX12_along_35 rfl (pin_in hi_3) ?_
      refine E_imul dX12_along_36 ?_
      refine E_iadd dX12_along_37 ?_
      refine E_istore_n (ls' := [(0, .ref 0), (1, .int (v1 + ((r2 * 2) * ((S_2.2 5) v2.toNatClampNeg)))), (2, .int v2)]) dX12_along_38 (by decide) rfl ?_
      refine E_iinc (v := v2 + 1) (ls' := [(0, .ref 0), (1, .int (v1 + ((r2 * 2) * ((S_2.2 5) v2.toNatClampNeg)))), (2, .int (v2 + 1))]) dX12_along_39 rfl rfl (by decide) rfl ?_
      refine E_goto (tgt := 14) dX12_along_42 (by decide) ?_
      exact E_sub (ls' := [(0, .ref 0), (1, .int (v1 + ((r2 * 2) * ((S_2.2 5) v2.toNatClampNeg)))), (2, .int (v2 + 1))]) ⟨rfl, rfl, rfl, trivial⟩ (ih S_2 (v1 + ((r2 * 2) * ((S_2.2 5) v2.toNatClampNeg))) (v2 + 1) hf)
theorem fl_X12_along_55 : pFL wsX12_along RX12 55 12 16 := ⟨RX12, TX12, 32, hi_X12_along_12, rfl, by decide, by decide +kernel⟩
theorem fl_X12_along_46 : pFL wsX12_along RX12 46 12 13 := ⟨RX12, TX12, 32, hi_X12_along_12, rfl, by decide, by decide +kernel⟩
def g_X12_along_47 : Nat → PS → Int32 → Int32 → Option ((Int32 × PS) ⊕ (PS × Int32))
  | 0, _, _, _ => none
  | fuel + 1, S, v1, v2 =>
    if (4 : Int32) ≤ v2 then (some (.inr (S, v1))) else (pgd (pin v2 4) (pgd (pin v2 4) (g_X12_along_47 fuel S (v1 + ((((S.2 11) v2.toNatClampNeg) * 2) * ((S.2 8) v2.toNatClampNeg))) (v2 + 1))))
set_option maxRecDepth 100000 in
theorem l_X12_along_47 (l : Launch) (D : va_G) (dA : Nat → ClassId) (ad : Nat → Nat) (d : Nat) (hd : 1 ≤ d) {Q : Int32 → List PC → Prop} : ∀ (fuel : Nat) (S : PS) (v1 : Int32) (v2 : Int32), pO (g_X12_along_47 fuel S v1 v2) (fun y => match y with
    | .inl x => Q x.1 (hM x.2)
    | .inr w => Ev l D dA ad wsX12_along cX12_along RX12 3 (some .int) d 38 (pKi D dA ad 38 Q) 76 [(1, .int w.2)] [] (hM w.1)) → Ev l D dA ad wsX12_along cX12_along RX12 3 (some .int) d 38 (pKi D dA ad 38 Q) 47 [(0, .ref 0), (1, .int v1), (2, .int v2)] [] (hM S) := by
  intro fuel
  induction fuel with
  | zero =>
    intro S v1 v2 hf
    exact hf.elim
  | succ fuel ih =>
    intro S v1 v2 hf
    rw [g_X12_along_47] at hf
    refine E_iload_n dX12_along_47 rfl ?_
    refine E_iconst (v := 4) dX12_along_48 (by decide) ?_
    refine E_icmp_ge (tgt := 76) dX12_along_49 (by decide) (fun c_5 => ?_) (fun c_5 => ?_)
    · have hf := pO_pos c_5 hf
      exact E_sub (ls' := [(1, .int v1)]) ⟨rfl, trivial⟩ hf
    · have hf := pO_neg c_5 hf
      refine E_iload_n dX12_along_52 rfl ?_
      refine E_aload_n dX12_along_53 rfl ?_
      refine E_getf (v := .ref 12) dX12_along_54 fl_X12_along_55 rfl rfl ?_
      refine E_iload_n dX12_along_57 rfl ?_
      obtain ⟨hi_6, hf⟩ := pO_gd hf
      refine E_iald (n0 := 4) (f := S.2 11) dX12_along_58 rfl (pin_in hi_6) ?_
      refine E_iconst (v := 2) dX12_along_59 (by decide) ?_
      refine E_imul dX12_along_60 ?_
      refine E_aload_n dX12_along_61 rfl ?_
      refine E_getf (v := .ref 9) dX12_along_62 fl_X12_along_46 rfl rfl ?_
      refine E_iload_n dX12_along_65 rfl ?_
      obtain ⟨hi_7, hf⟩ := pO_gd hf
      refine E_iald (n0 := 4) (f := S.2 8) dX12_along_66 rfl (pin_in hi_7) ?_
      refine E_imul dX12_along_67 ?_
      refine E_iadd dX12_along_68 ?_
      refine E_istore_n (ls' := [(0, .ref 0), (1, .int (v1 + ((((S.2 11) v2.toNatClampNeg) * 2) * ((S.2 8) v2.toNatClampNeg)))), (2, .int v2)]) dX12_along_69 (by decide) rfl ?_
      refine E_iinc (v := v2 + 1) (ls' := [(0, .ref 0), (1, .int (v1 + ((((S.2 11) v2.toNatClampNeg) * 2) * ((S.2 8) v2.toNatClampNeg)))), (2, .int (v2 + 1))]) dX12_along_70 rfl rfl (by decide) rfl ?_
      refine E_goto (tgt := 47) dX12_along_73 (by decide) ?_
      exact E_sub (ls' := [(0, .ref 0), (1, .int (v1 + ((((S.2 11) v2.toNatClampNeg) * 2) * ((S.2 8) v2.toNatClampNeg)))), (2, .int (v2 + 1))]) ⟨rfl, rfl, rfl, trivial⟩ (ih S (v1 + ((((S.2 11) v2.toNatClampNeg) * 2) * ((S.2 8) v2.toNatClampNeg))) (v2 + 1) hf)
theorem mf_X12_along : pMF yX12_along wsX12_along cX12_along 3 (some .int) 0 := ⟨⟨_, rfl⟩, by decide +kernel, by decide, by decide +kernel, by decide +kernel, by decide +kernel⟩
def f_X12_along (S : PS) : Option (Int32 × PS) :=
  plp (g_X12_along_14 pfuel S ((S.1 2) * ((S.1 0) - 1)) 0) (fun w => (fun (S_4 : PS) (v1_4 : Int32) => plp (g_X12_along_47 pfuel S_4 v1_4 0) (fun w => (fun (S_8 : PS) (v1_8 : Int32) => some (v1_8, S_8)) w.1 w.2)) w.1 w.2)
set_option maxRecDepth 100000 in
theorem c_X12_along (l : Launch) (D : va_G) (dA : Nat → ClassId) (ad : Nat → Nat) (S : PS) {P : (Int32 × PS) → Prop} (hf : pO (f_X12_along S) P) : CtI l D dA ad yX12_along wsX12_along 1 [.ref 0] (hM S) (fun r h' => ∃ S' : PS, h' = hM S' ∧ P (r, S')) := by
  refine CtI_of mf_X12_along rfl rfl (Nat.le_of_ble_eq_true rfl) rfl (hM_len S) ?_
  unfold f_X12_along at hf
  refine E_aload_n dX12_along_0 rfl ?_
  refine E_getf (v := .int (S.1 2)) dX12_along_1 fl_X12_along_18 rfl rfl ?_
  refine E_aload_n dX12_along_4 rfl ?_
  refine E_getf (v := .int (S.1 0)) dX12_along_5 fl_X12_along_9 rfl rfl ?_
  refine E_iconst (v := 1) dX12_along_8 (by decide) ?_
  refine E_isub dX12_along_9 ?_
  refine E_imul dX12_along_10 ?_
  refine E_istore_n (ls' := [(0, .ref 0), (1, .int ((S.1 2) * ((S.1 0) - 1)))]) dX12_along_11 (by decide) rfl ?_
  refine E_iconst (v := 0) dX12_along_12 (by decide) ?_
  refine E_istore_n (ls' := [(0, .ref 0), (1, .int ((S.1 2) * ((S.1 0) - 1))), (2, .int 0)]) dX12_along_13 (by decide) rfl ?_
  refine E_sub (ls' := [(0, .ref 0), (1, .int ((S.1 2) * ((S.1 0) - 1))), (2, .int 0)]) ⟨rfl, rfl, rfl, trivial⟩ ?_
  refine l_X12_along_14 l D dA ad _ (by omega) pfuel S ((S.1 2) * ((S.1 0) - 1)) 0 (pO_lp hf (fun x hx => ⟨x.2, rfl, hx⟩) (fun w4 hf => ?_))
  obtain ⟨S_4, v1_4⟩ := w4
  dsimp only at hf ⊢
  refine E_iconst (v := 0) dX12_along_45 (by decide) ?_
  refine E_istore_n (ls' := [(0, .ref 0), (1, .int v1_4), (2, .int 0)]) dX12_along_46 (by decide) rfl ?_
  refine E_sub (ls' := [(0, .ref 0), (1, .int v1_4), (2, .int 0)]) ⟨rfl, rfl, rfl, trivial⟩ ?_
  refine l_X12_along_47 l D dA ad _ (by omega) pfuel S_4 v1_4 0 (pO_lp hf (fun x hx => ⟨x.2, rfl, hx⟩) (fun w8 hf => ?_))
  obtain ⟨S_8, v1_8⟩ := w8
  dsimp only at hf ⊢
  refine E_iload_n dX12_along_76 rfl ?_
  exact E_iret rfl dX12_along_77 ⟨_, rfl, hf⟩
theorem hi_X12_told_12 : ∀ w ∈ u_ws RX12 TX12 32, w ∈ wsX12_told := fun w h => of_decide_eq_true (List.all_eq_true.mp (by decide +kernel : (u_ws RX12 TX12 32).all (fun w => decide (w ∈ wsX12_told)) = true) w h)
theorem fl_X12_told_98 : pFL wsX12_told RX12 98 12 6 := ⟨RX12, TX12, 32, hi_X12_told_12, rfl, by decide, by decide +kernel⟩
def g_X12_slacks_4 : Nat → PS → Int32 → Int32 → Option ((Int32 × PS) ⊕ (PS × Int32))
  | 0, _, _, _ => none
  | fuel + 1, S, v1, v2 =>
    if (4 : Int32) ≤ v2 then (some (.inr (S, v1))) else (pbnd (f_X12_isSlack S v2) (fun r2 S_2 => if r2 = (0 : Int32) then (g_X12_slacks_4 fuel S_2 v1 (v2 + 1)) else (g_X12_slacks_4 fuel S_2 (v1 + 1) (v2 + 1))))
set_option maxRecDepth 100000 in
theorem l_X12_slacks_4 (l : Launch) (D : va_G) (dA : Nat → ClassId) (ad : Nat → Nat) (d : Nat) (hd : 1 ≤ d) {Q : Int32 → List PC → Prop} : ∀ (fuel : Nat) (S : PS) (v1 : Int32) (v2 : Int32), pO (g_X12_slacks_4 fuel S v1 v2) (fun y => match y with
    | .inl x => Q x.1 (hM x.2)
    | .inr w => Ev l D dA ad wsX12_slacks cX12_slacks RX12 3 (some .int) d 38 (pKi D dA ad 38 Q) 26 [(1, .int w.2)] [] (hM w.1)) → Ev l D dA ad wsX12_slacks cX12_slacks RX12 3 (some .int) d 38 (pKi D dA ad 38 Q) 4 [(0, .ref 0), (1, .int v1), (2, .int v2)] [] (hM S) := by
  intro fuel
  induction fuel with
  | zero =>
    intro S v1 v2 hf
    exact hf.elim
  | succ fuel ih =>
    intro S v1 v2 hf
    rw [g_X12_slacks_4] at hf
    refine E_iload_n dX12_slacks_4 rfl ?_
    refine E_iconst (v := 4) dX12_slacks_5 (by decide) ?_
    refine E_icmp_ge (tgt := 26) dX12_slacks_6 (by decide) (fun c_1 => ?_) (fun c_1 => ?_)
    · have hf := pO_pos c_1 hf
      exact E_sub (ls' := [(1, .int v1)]) ⟨rfl, trivial⟩ hf
    · have hf := pO_neg c_1 hf
      refine E_aload_n dX12_slacks_9 rfl ?_
      refine E_iload_n dX12_slacks_10 rfl ?_
      refine E_callVI (st := []) (c_X12_isSlack l D dA ad S v2 (pO_bnd hf)) mf_X12_isSlack rfl rfl gX12_slacks_X12_isSlack (pRc.of (ci := 12) rfl rfl) (by omega) rfl (Nat.le_of_ble_eq_true rfl) (by rfl) dX12_slacks_11 (fun r2 h2 q2 => ?_)
      obtain ⟨S_2, rfl, hf⟩ := q2
      dsimp only at hf
      refine E_if_eq (tgt := 20) dX12_slacks_14 (by decide) (fun c_3 => ?_) (fun c_3 => ?_)
      · have hf := pO_pos c_3 hf
        refine E_iinc (v := v2 + 1) (ls' := [(0, .ref 0), (1, .int v1), (2, .int (v2 + 1))]) dX12_slacks_20 rfl rfl (by decide) rfl ?_
        refine E_goto (tgt := 4) dX12_slacks_23 (by decide) ?_
        exact E_sub (ls' := [(0, .ref 0), (1, .int v1), (2, .int (v2 + 1))]) ⟨rfl, rfl, rfl, trivial⟩ (ih S_2 v1 (v2 + 1) hf)
      · have hf := pO_neg c_3 hf
        refine E_iinc (v := v1 + 1) (ls' := [(0, .ref 0), (1, .int (v1 + 1)), (2, .int v2)]) dX12_slacks_17 rfl rfl (by decide) rfl ?_
        refine E_iinc (v := v2 + 1) (ls' := [(0, .ref 0), (1, .int (v1 + 1)), (2, .int (v2 + 1))]) dX12_slacks_20 rfl rfl (by decide) rfl ?_
        refine E_goto (tgt := 4) dX12_slacks_23 (by decide) ?_
        exact E_sub (ls' := [(0, .ref 0), (1, .int (v1 + 1)), (2, .int (v2 + 1))]) ⟨rfl, rfl, rfl, trivial⟩ (ih S_2 (v1 + 1) (v2 + 1) hf)
theorem mf_X12_slacks : pMF yX12_slacks wsX12_slacks cX12_slacks 3 (some .int) 0 := ⟨⟨_, rfl⟩, by decide +kernel, by decide, by decide +kernel, by decide +kernel, by decide +kernel⟩
def f_X12_slacks (S : PS) : Option (Int32 × PS) :=
  plp (g_X12_slacks_4 pfuel S 0 0) (fun w => (fun (S_4 : PS) (v1_4 : Int32) => some (v1_4, S_4)) w.1 w.2)
set_option maxRecDepth 100000 in
theorem c_X12_slacks (l : Launch) (D : va_G) (dA : Nat → ClassId) (ad : Nat → Nat) (S : PS) {P : (Int32 × PS) → Prop} (hf : pO (f_X12_slacks S) P) : CtI l D dA ad yX12_slacks wsX12_slacks 1 [.ref 0] (hM S) (fun r h' => ∃ S' : PS, h' = hM S' ∧ P (r, S')) := by
  refine CtI_of mf_X12_slacks rfl rfl (Nat.le_of_ble_eq_true rfl) rfl (hM_len S) ?_
  unfold f_X12_slacks at hf
  refine E_iconst (v := 0) dX12_slacks_0 (by decide) ?_
  refine E_istore_n (ls' := [(0, .ref 0), (1, .int 0)]) dX12_slacks_1 (by decide) rfl ?_
  refine E_iconst (v := 0) dX12_slacks_2 (by decide) ?_
  refine E_istore_n (ls' := [(0, .ref 0), (1, .int 0), (2, .int 0)]) dX12_slacks_3 (by decide) rfl ?_
  refine E_sub (ls' := [(0, .ref 0), (1, .int 0), (2, .int 0)]) ⟨rfl, rfl, rfl, trivial⟩ ?_
  refine l_X12_slacks_4 l D dA ad _ (by omega) pfuel S 0 0 (pO_lp hf (fun x hx => ⟨x.2, rfl, hx⟩) (fun w4 hf => ?_))
  obtain ⟨S_4, v1_4⟩ := w4
  dsimp only at hf ⊢
  refine E_iload_n dX12_slacks_26 rfl ?_
  exact E_iret rfl dX12_slacks_27 ⟨_, rfl, hf⟩
theorem hi_X12_leastRise_12 : ∀ w ∈ u_ws RX12 TX12 32, w ∈ wsX12_leastRise := fun w h => of_decide_eq_true (List.all_eq_true.mp (by decide +kernel : (u_ws RX12 TX12 32).all (fun w => decide (w ∈ wsX12_leastRise)) = true) w h)
theorem fl_X12_leastRise_25 : pFL wsX12_leastRise RX12 25 12 5 := ⟨RX12, TX12, 32, hi_X12_leastRise_12, rfl, by decide, by decide +kernel⟩
theorem fl_X12_leastRise_9 : pFL wsX12_leastRise RX12 9 12 0 := ⟨RX12, TX12, 32, hi_X12_leastRise_12, rfl, by decide, by decide +kernel⟩
def g_X12_leastRise_9 : Nat → PS → Int32 → Int32 → Option ((Int32 × PS) ⊕ (PS × Int32))
  | 0, _, _, _ => none
  | fuel + 1, S, v1, v2 =>
    if (S.1 0) ≤ v2 then (some (.inr (S, v1))) else (pgd (pin v2 10) (g_X12_leastRise_9 fuel S (pmin v1 ((S.2 1) v2.toNatClampNeg)) (v2 + 1)))
set_option maxRecDepth 100000 in
theorem l_X12_leastRise_9 (l : Launch) (D : va_G) (dA : Nat → ClassId) (ad : Nat → Nat) (d : Nat) (hd : 1 ≤ d) {Q : Int32 → List PC → Prop} : ∀ (fuel : Nat) (S : PS) (v1 : Int32) (v2 : Int32), pO (g_X12_leastRise_9 fuel S v1 v2) (fun y => match y with
    | .inl x => Q x.1 (hM x.2)
    | .inr w => Ev l D dA ad wsX12_leastRise cX12_leastRise RX12 3 (some .int) d 38 (pKi D dA ad 38 Q) 34 [(1, .int w.2)] [] (hM w.1)) → Ev l D dA ad wsX12_leastRise cX12_leastRise RX12 3 (some .int) d 38 (pKi D dA ad 38 Q) 9 [(0, .ref 0), (1, .int v1), (2, .int v2)] [] (hM S) := by
  intro fuel
  induction fuel with
  | zero =>
    intro S v1 v2 hf
    exact hf.elim
  | succ fuel ih =>
    intro S v1 v2 hf
    rw [g_X12_leastRise_9] at hf
    refine E_iload_n dX12_leastRise_9 rfl ?_
    refine E_aload_n dX12_leastRise_10 rfl ?_
    refine E_getf (v := .int (S.1 0)) dX12_leastRise_11 fl_X12_leastRise_9 rfl rfl ?_
    refine E_icmp_ge (tgt := 34) dX12_leastRise_14 (by decide) (fun c_1 => ?_) (fun c_1 => ?_)
    · have hf := pO_pos c_1 hf
      exact E_sub (ls' := [(1, .int v1)]) ⟨rfl, trivial⟩ hf
    · have hf := pO_neg c_1 hf
      refine E_iload_n dX12_leastRise_17 rfl ?_
      refine E_aload_n dX12_leastRise_18 rfl ?_
      refine E_getf (v := .ref 2) dX12_leastRise_19 fl_X12_leastRise_25 rfl rfl ?_
      refine E_iload_n dX12_leastRise_22 rfl ?_
      obtain ⟨hi_2, hf⟩ := pO_gd hf
      refine E_iald (n0 := 10) (f := S.2 1) dX12_leastRise_23 rfl (pin_in hi_2) ?_
      refine E_mmin (by decide +kernel) (by decide +kernel) (by decide +kernel) (by decide +kernel) (by omega) (Nat.le_of_ble_eq_true rfl) (by rfl) dX12_leastRise_24 ?_
      refine E_istore_n (ls' := [(0, .ref 0), (1, .int (pmin v1 ((S.2 1) v2.toNatClampNeg))), (2, .int v2)]) dX12_leastRise_27 (by decide) rfl ?_
      refine E_iinc (v := v2 + 1) (ls' := [(0, .ref 0), (1, .int (pmin v1 ((S.2 1) v2.toNatClampNeg))), (2, .int (v2 + 1))]) dX12_leastRise_28 rfl rfl (by decide) rfl ?_
      refine E_goto (tgt := 9) dX12_leastRise_31 (by decide) ?_
      exact E_sub (ls' := [(0, .ref 0), (1, .int (pmin v1 ((S.2 1) v2.toNatClampNeg))), (2, .int (v2 + 1))]) ⟨rfl, rfl, rfl, trivial⟩ (ih S (pmin v1 ((S.2 1) v2.toNatClampNeg)) (v2 + 1) hf)
theorem mf_X12_leastRise : pMF yX12_leastRise wsX12_leastRise cX12_leastRise 3 (some .int) 0 := ⟨⟨_, rfl⟩, by decide +kernel, by decide, by decide +kernel, by decide +kernel, by decide +kernel⟩
def f_X12_leastRise (S : PS) : Option (Int32 × PS) :=
  plp (g_X12_leastRise_9 pfuel S ((S.2 1) 0) 1) (fun w => (fun (S_3 : PS) (v1_3 : Int32) => some (v1_3, S_3)) w.1 w.2)
set_option maxRecDepth 100000 in
theorem c_X12_leastRise (l : Launch) (D : va_G) (dA : Nat → ClassId) (ad : Nat → Nat) (S : PS) {P : (Int32 × PS) → Prop} (hf : pO (f_X12_leastRise S) P) : CtI l D dA ad yX12_leastRise wsX12_leastRise 1 [.ref 0] (hM S) (fun r h' => ∃ S' : PS, h' = hM S' ∧ P (r, S')) := by
  refine CtI_of mf_X12_leastRise rfl rfl (Nat.le_of_ble_eq_true rfl) rfl (hM_len S) ?_
  unfold f_X12_leastRise at hf
  refine E_aload_n dX12_leastRise_0 rfl ?_
  refine E_getf (v := .ref 2) dX12_leastRise_1 fl_X12_leastRise_25 rfl rfl ?_
  refine E_iconst (v := 0) dX12_leastRise_4 (by decide) ?_
  refine E_iald (n0 := 10) (f := S.2 1) dX12_leastRise_5 rfl (pin_in (by decide)) ?_
  refine E_val (y := (S.2 1) 0) rfl ?_
  refine E_istore_n (ls' := [(0, .ref 0), (1, .int ((S.2 1) 0))]) dX12_leastRise_6 (by decide) rfl ?_
  refine E_iconst (v := 1) dX12_leastRise_7 (by decide) ?_
  refine E_istore_n (ls' := [(0, .ref 0), (1, .int ((S.2 1) 0)), (2, .int 1)]) dX12_leastRise_8 (by decide) rfl ?_
  refine E_sub (ls' := [(0, .ref 0), (1, .int ((S.2 1) 0)), (2, .int 1)]) ⟨rfl, rfl, rfl, trivial⟩ ?_
  refine l_X12_leastRise_9 l D dA ad _ (by omega) pfuel S ((S.2 1) 0) 1 (pO_lp hf (fun x hx => ⟨x.2, rfl, hx⟩) (fun w3 hf => ?_))
  obtain ⟨S_3, v1_3⟩ := w3
  dsimp only at hf ⊢
  refine E_iload_n dX12_leastRise_34 rfl ?_
  exact E_iret rfl dX12_leastRise_35 ⟨_, rfl, hf⟩
theorem mf_X12_told : pMF yX12_told wsX12_told cX12_told 2 (some .int) 1 := ⟨⟨_, rfl⟩, by decide +kernel, by decide, by decide +kernel, by decide +kernel, by decide +kernel⟩
def f_X12_told (S : PS) (v1 : Int32) : Option (Int32 × PS) :=
  if v1 = (0 : Int32) then (pbnd (f_X12_allWeight S) (fun r2 S_2 => some (r2, S_2))) else (if v1 = (1 : Int32) then (pbnd (f_X12_along S) (fun r4 S_4 => some (r4, S_4))) else (if v1 = (2 : Int32) then (pbnd (f_X12_aside S) (fun r6 S_6 => some (r6, S_6))) else (if v1 = (3 : Int32) then (pbnd (f_X12_aloft S) (fun r8 S_8 => some (r8, S_8))) else (if v1 = (4 : Int32) then (pbnd (f_X12_line S) (fun r10 S_10 => if r10 = ((-2) : Int32) then (some ((-2147483648), S_10)) else (pbnd (f_X12_righting S_10) (fun r12 S_12 => some (r12, S_12))))) else (if v1 = (5 : Int32) then (some (S.1 4, S)) else (if v1 = (6 : Int32) then (pbnd (f_X12_slacks S) (fun r15 S_15 => some (r15, S_15))) else (if v1 = (7 : Int32) then (pbnd (f_X12_leastRise S) (fun r17 S_17 => some (r17, S_17))) else (some ((-2147483648), S)))))))))
set_option maxRecDepth 100000 in
theorem c_X12_told (l : Launch) (D : va_G) (dA : Nat → ClassId) (ad : Nat → Nat) (S : PS) (v1 : Int32) {P : (Int32 × PS) → Prop} (hf : pO (f_X12_told S v1) P) : CtI l D dA ad yX12_told wsX12_told 6 [.ref 0, .int v1] (hM S) (fun r h' => ∃ S' : PS, h' = hM S' ∧ P (r, S')) := by
  refine CtI_of mf_X12_told rfl rfl (Nat.le_of_ble_eq_true rfl) rfl (hM_len S) ?_
  unfold f_X12_told at hf
  refine E_iload_n dX12_told_0 rfl ?_
  by_cases k_1 : v1 = (0 : Int32)
  · have hf := pO_pos k_1 hf
    refine E_tableIn (off := 47) (tgt := 48) dX12_told_1 (by rw [k_1]; decide) (by rw [k_1]; decide) (by rw [k_1]; rfl) (by decide) ?_
    refine E_aload_n dX12_told_48 rfl ?_
    refine E_callVI (st := []) (c_X12_allWeight l D dA ad S (pO_bnd hf)) mf_X12_allWeight rfl rfl gX12_told_X12_allWeight (pRc.of (ci := 12) rfl rfl) (by omega) rfl (Nat.le_of_ble_eq_true rfl) (by rfl) dX12_told_49 (fun r2 h2 q2 => ?_)
    obtain ⟨S_2, rfl, hf⟩ := q2
    dsimp only at hf
    exact E_iret rfl dX12_told_52 ⟨_, rfl, hf⟩
  · have hf := pO_neg k_1 hf
    by_cases k_3 : v1 = (1 : Int32)
    · have hf := pO_pos k_3 hf
      refine E_tableIn (off := 52) (tgt := 53) dX12_told_1 (by rw [k_3]; decide) (by rw [k_3]; decide) (by rw [k_3]; rfl) (by decide) ?_
      refine E_aload_n dX12_told_53 rfl ?_
      refine E_callVI (st := []) (c_X12_along l D dA ad S (pO_bnd hf)) mf_X12_along rfl rfl gX12_told_X12_along (pRc.of (ci := 12) rfl rfl) (by omega) rfl (Nat.le_of_ble_eq_true rfl) (by rfl) dX12_told_54 (fun r4 h4 q4 => ?_)
      obtain ⟨S_4, rfl, hf⟩ := q4
      dsimp only at hf
      exact E_iret rfl dX12_told_57 ⟨_, rfl, hf⟩
    · have hf := pO_neg k_3 hf
      by_cases k_5 : v1 = (2 : Int32)
      · have hf := pO_pos k_5 hf
        refine E_tableIn (off := 57) (tgt := 58) dX12_told_1 (by rw [k_5]; decide) (by rw [k_5]; decide) (by rw [k_5]; rfl) (by decide) ?_
        refine E_aload_n dX12_told_58 rfl ?_
        refine E_callVI (st := []) (c_X12_aside l D dA ad S (pO_bnd hf)) mf_X12_aside rfl rfl gX12_told_X12_aside (pRc.of (ci := 12) rfl rfl) (by omega) rfl (Nat.le_of_ble_eq_true rfl) (by rfl) dX12_told_59 (fun r6 h6 q6 => ?_)
        obtain ⟨S_6, rfl, hf⟩ := q6
        dsimp only at hf
        exact E_iret rfl dX12_told_62 ⟨_, rfl, hf⟩
      · have hf := pO_neg k_5 hf
        by_cases k_7 : v1 = (3 : Int32)
        · have hf := pO_pos k_7 hf
          refine E_tableIn (off := 62) (tgt := 63) dX12_told_1 (by rw [k_7]; decide) (by rw [k_7]; decide) (by rw [k_7]; rfl) (by decide) ?_
          refine E_aload_n dX12_told_63 rfl ?_
          refine E_callVI (st := []) (c_X12_aloft l D dA ad S (pO_bnd hf)) mf_X12_aloft rfl rfl gX12_told_X12_aloft (pRc.of (ci := 12) rfl rfl) (by omega) rfl (Nat.le_of_ble_eq_true rfl) (by rfl) dX12_told_64 (fun r8 h8 q8 => ?_)
          obtain ⟨S_8, rfl, hf⟩ := q8
          dsimp only at hf
          exact E_iret rfl dX12_told_67 ⟨_, rfl, hf⟩
        · have hf := pO_neg k_7 hf
          by_cases k_9 : v1 = (4 : Int32)
          · have hf := pO_pos k_9 hf
            refine E_tableIn (off := 67) (tgt := 68) dX12_told_1 (by rw [k_9]; decide) (by rw [k_9]; decide) (by rw [k_9]; rfl) (by decide) ?_
            refine E_aload_n dX12_told_68 rfl ?_
            refine E_callVI (st := []) (c_X12_line l D dA ad S (pO_bnd hf)) mf_X12_line rfl rfl gX12_told_X12_line (pRc.of (ci := 12) rfl rfl) (by omega) rfl (Nat.le_of_ble_eq_true rfl) (by rfl) dX12_told_69 (fun r10 h10 q10 => ?_)
            obtain ⟨S_10, rfl, hf⟩ := q10
            dsimp only at hf
            refine E_bipush (v := (-2)) dX12_told_72 (by decide) ?_
            refine E_icmp_ne (tgt := 82) dX12_told_74 (by decide) (fun c_11 => ?_) (fun c_11 => ?_)
            · have hf := pO_neg c_11 hf
              refine E_aload_n dX12_told_82 rfl ?_
              refine E_callVI (st := []) (c_X12_righting l D dA ad S_10 (pO_bnd hf)) mf_X12_righting rfl rfl gX12_told_X12_righting (pRc.of (ci := 12) rfl rfl) (by omega) rfl (Nat.le_of_ble_eq_true rfl) (by rfl) dX12_told_83 (fun r12 h12 q12 => ?_)
              obtain ⟨S_12, rfl, hf⟩ := q12
              dsimp only at hf
              exact E_iret rfl dX12_told_86 ⟨_, rfl, hf⟩
            · have hf := pO_pos c_11 hf
              refine E_ldc (v := (-2147483648)) dX12_told_77 (by decide +kernel) ?_
              refine E_goto (tgt := 86) dX12_told_79 (by decide) ?_
              exact E_iret rfl dX12_told_86 ⟨_, rfl, hf⟩
          · have hf := pO_neg k_9 hf
            by_cases k_13 : v1 = (5 : Int32)
            · have hf := pO_pos k_13 hf
              refine E_tableIn (off := 86) (tgt := 87) dX12_told_1 (by rw [k_13]; decide) (by rw [k_13]; decide) (by rw [k_13]; rfl) (by decide) ?_
              refine E_aload_n dX12_told_87 rfl ?_
              refine E_getf (v := .int (S.1 4)) dX12_told_88 fl_X12_told_98 rfl rfl ?_
              exact E_iret rfl dX12_told_91 ⟨_, rfl, hf⟩
            · have hf := pO_neg k_13 hf
              by_cases k_14 : v1 = (6 : Int32)
              · have hf := pO_pos k_14 hf
                refine E_tableIn (off := 91) (tgt := 92) dX12_told_1 (by rw [k_14]; decide) (by rw [k_14]; decide) (by rw [k_14]; rfl) (by decide) ?_
                refine E_aload_n dX12_told_92 rfl ?_
                refine E_callVI (st := []) (c_X12_slacks l D dA ad S (pO_bnd hf)) mf_X12_slacks rfl rfl gX12_told_X12_slacks (pRc.of (ci := 12) rfl rfl) (by omega) rfl (Nat.le_of_ble_eq_true rfl) (by rfl) dX12_told_93 (fun r15 h15 q15 => ?_)
                obtain ⟨S_15, rfl, hf⟩ := q15
                dsimp only at hf
                exact E_iret rfl dX12_told_96 ⟨_, rfl, hf⟩
              · have hf := pO_neg k_14 hf
                by_cases k_16 : v1 = (7 : Int32)
                · have hf := pO_pos k_16 hf
                  refine E_tableIn (off := 96) (tgt := 97) dX12_told_1 (by rw [k_16]; decide) (by rw [k_16]; decide) (by rw [k_16]; rfl) (by decide) ?_
                  refine E_aload_n dX12_told_97 rfl ?_
                  refine E_callVI (st := []) (c_X12_leastRise l D dA ad S (pO_bnd hf)) mf_X12_leastRise rfl rfl gX12_told_X12_leastRise (pRc.of (ci := 12) rfl rfl) (by omega) rfl (Nat.le_of_ble_eq_true rfl) (by rfl) dX12_told_98 (fun r17 h17 q17 => ?_)
                  obtain ⟨S_17, rfl, hf⟩ := q17
                  dsimp only at hf
                  exact E_iret rfl dX12_told_101 ⟨_, rfl, hf⟩
                · have hf := pO_neg k_16 hf
                  refine E_tableOut (tgt := 102) dX12_told_1 (by have z0 := pti k_1 (by decide : (0 : Int32).toInt = 0); have z1 := pti k_3 (by decide : (1 : Int32).toInt = 1); have z2 := pti k_5 (by decide : (2 : Int32).toInt = 2); have z3 := pti k_7 (by decide : (3 : Int32).toInt = 3); have z4 := pti k_9 (by decide : (4 : Int32).toInt = 4); have z5 := pti k_13 (by decide : (5 : Int32).toInt = 5); have z6 := pti k_14 (by decide : (6 : Int32).toInt = 6); have z7 := pti k_16 (by decide : (7 : Int32).toInt = 7); omega) (by decide) ?_
                  refine E_ldc (v := (-2147483648)) dX12_told_102 (by decide +kernel) ?_
                  exact E_iret rfl dX12_told_104 ⟨_, rfl, hf⟩
theorem mf_X12_water : pMF yX12_water wsX12_water cX12_water 3 (some .int) 2 := ⟨⟨_, rfl⟩, by decide +kernel, by decide, by decide +kernel, by decide +kernel, by decide +kernel⟩
def f_X12_water (S : PS) (v1 : Int32) (v2 : Int32) : Option (Int32 × PS) :=
  if v1 = ((-1) : Int32) then (pbnd (f_X12_in S v2 (-9999) 9999) (fun r2 S_2 => if r2 = (0 : Int32) then (some ((-2147483648), S_2)) else (if v1 = ((-1) : Int32) then (pbnd (f_X12_waterOfAll S_2 v2) (fun r6 S_6 => some (r6, S_6))) else (pbnd (f_X12_waterOf S_2 v1 v2) (fun r5 S_5 => some (r5, S_5)))))) else (pbnd (f_X12_isSection S v1) (fun r7 S_7 => if r7 = (0 : Int32) then (some ((-2147483648), S_7)) else (pbnd (f_X12_in S_7 v2 (-9999) 9999) (fun r9 S_9 => if r9 = (0 : Int32) then (some ((-2147483648), S_9)) else (if v1 = ((-1) : Int32) then (pbnd (f_X12_waterOfAll S_9 v2) (fun r13 S_13 => some (r13, S_13))) else (pbnd (f_X12_waterOf S_9 v1 v2) (fun r12 S_12 => some (r12, S_12))))))))
set_option maxRecDepth 100000 in
theorem c_X12_water (l : Launch) (D : va_G) (dA : Nat → ClassId) (ad : Nat → Nat) (S : PS) (v1 : Int32) (v2 : Int32) {P : (Int32 × PS) → Prop} (hf : pO (f_X12_water S v1 v2) P) : CtI l D dA ad yX12_water wsX12_water 3 [.ref 0, .int v1, .int v2] (hM S) (fun r h' => ∃ S' : PS, h' = hM S' ∧ P (r, S')) := by
  refine CtI_of mf_X12_water rfl rfl (Nat.le_of_ble_eq_true rfl) rfl (hM_len S) ?_
  unfold f_X12_water at hf
  refine E_iload_n dX12_water_0 rfl ?_
  refine E_iconst (v := (-1)) dX12_water_1 (by decide) ?_
  refine E_icmp_eq (tgt := 13) dX12_water_2 (by decide) (fun c_1 => ?_) (fun c_1 => ?_)
  · have hf := pO_pos c_1 hf
    refine E_iload_n dX12_water_13 rfl ?_
    refine E_sipush (v := (-9999)) dX12_water_14 (by decide) ?_
    refine E_sipush (v := 9999) dX12_water_17 (by decide) ?_
    refine E_callSI (st := []) (c_X12_in l D dA ad S v2 (-9999) 9999 (pO_bnd hf)) mf_X12_in rfl gX12_water_X12_in (by omega) rfl (Nat.le_of_ble_eq_true rfl) (by rfl) dX12_water_20 (fun r2 h2 q2 => ?_)
    obtain ⟨S_2, rfl, hf⟩ := q2
    dsimp only at hf
    refine E_if_ne (tgt := 29) dX12_water_23 (by decide) (fun c_3 => ?_) (fun c_3 => ?_)
    · have hf := pO_neg c_3 hf
      refine E_iload_n dX12_water_29 rfl ?_
      refine E_iconst (v := (-1)) dX12_water_30 (by decide) ?_
      refine E_icmp_ne (tgt := 42) dX12_water_31 (by decide) (fun c_4 => ?_) (fun c_4 => ?_)
      · have hf := pO_neg c_4 hf
        refine E_aload_n dX12_water_42 rfl ?_
        refine E_iload_n dX12_water_43 rfl ?_
        refine E_iload_n dX12_water_44 rfl ?_
        refine E_callVI (st := []) (c_X12_waterOf l D dA ad S_2 v1 v2 (pO_bnd hf)) mf_X12_waterOf rfl rfl gX12_water_X12_waterOf (pRc.of (ci := 12) rfl rfl) (by omega) rfl (Nat.le_of_ble_eq_true rfl) (by rfl) dX12_water_45 (fun r5 h5 q5 => ?_)
        obtain ⟨S_5, rfl, hf⟩ := q5
        dsimp only at hf
        exact E_iret rfl dX12_water_48 ⟨_, rfl, hf⟩
      · have hf := pO_pos c_4 hf
        refine E_aload_n dX12_water_34 rfl ?_
        refine E_iload_n dX12_water_35 rfl ?_
        refine E_callVI (st := []) (c_X12_waterOfAll l D dA ad S_2 v2 (pO_bnd hf)) mf_X12_waterOfAll rfl rfl gX12_water_X12_waterOfAll (pRc.of (ci := 12) rfl rfl) (by omega) rfl (Nat.le_of_ble_eq_true rfl) (by rfl) dX12_water_36 (fun r6 h6 q6 => ?_)
        obtain ⟨S_6, rfl, hf⟩ := q6
        dsimp only at hf
        refine E_goto (tgt := 48) dX12_water_39 (by decide) ?_
        exact E_iret rfl dX12_water_48 ⟨_, rfl, hf⟩
    · have hf := pO_pos c_3 hf
      refine E_ldc (v := (-2147483648)) dX12_water_26 (by decide +kernel) ?_
      exact E_iret rfl dX12_water_28 ⟨_, rfl, hf⟩
  · have hf := pO_neg c_1 hf
    refine E_aload_n dX12_water_5 rfl ?_
    refine E_iload_n dX12_water_6 rfl ?_
    refine E_callVI (st := []) (c_X12_isSection l D dA ad S v1 (pO_bnd hf)) mf_X12_isSection rfl rfl gX12_water_X12_isSection (pRc.of (ci := 12) rfl rfl) (by omega) rfl (Nat.le_of_ble_eq_true rfl) (by rfl) dX12_water_7 (fun r7 h7 q7 => ?_)
    obtain ⟨S_7, rfl, hf⟩ := q7
    dsimp only at hf
    refine E_if_eq (tgt := 26) dX12_water_10 (by decide) (fun c_8 => ?_) (fun c_8 => ?_)
    · have hf := pO_pos c_8 hf
      refine E_ldc (v := (-2147483648)) dX12_water_26 (by decide +kernel) ?_
      exact E_iret rfl dX12_water_28 ⟨_, rfl, hf⟩
    · have hf := pO_neg c_8 hf
      refine E_iload_n dX12_water_13 rfl ?_
      refine E_sipush (v := (-9999)) dX12_water_14 (by decide) ?_
      refine E_sipush (v := 9999) dX12_water_17 (by decide) ?_
      refine E_callSI (st := []) (c_X12_in l D dA ad S_7 v2 (-9999) 9999 (pO_bnd hf)) mf_X12_in rfl gX12_water_X12_in (by omega) rfl (Nat.le_of_ble_eq_true rfl) (by rfl) dX12_water_20 (fun r9 h9 q9 => ?_)
      obtain ⟨S_9, rfl, hf⟩ := q9
      dsimp only at hf
      refine E_if_ne (tgt := 29) dX12_water_23 (by decide) (fun c_10 => ?_) (fun c_10 => ?_)
      · have hf := pO_neg c_10 hf
        refine E_iload_n dX12_water_29 rfl ?_
        refine E_iconst (v := (-1)) dX12_water_30 (by decide) ?_
        refine E_icmp_ne (tgt := 42) dX12_water_31 (by decide) (fun c_11 => ?_) (fun c_11 => ?_)
        · have hf := pO_neg c_11 hf
          refine E_aload_n dX12_water_42 rfl ?_
          refine E_iload_n dX12_water_43 rfl ?_
          refine E_iload_n dX12_water_44 rfl ?_
          refine E_callVI (st := []) (c_X12_waterOf l D dA ad S_9 v1 v2 (pO_bnd hf)) mf_X12_waterOf rfl rfl gX12_water_X12_waterOf (pRc.of (ci := 12) rfl rfl) (by omega) rfl (Nat.le_of_ble_eq_true rfl) (by rfl) dX12_water_45 (fun r12 h12 q12 => ?_)
          obtain ⟨S_12, rfl, hf⟩ := q12
          dsimp only at hf
          exact E_iret rfl dX12_water_48 ⟨_, rfl, hf⟩
        · have hf := pO_pos c_11 hf
          refine E_aload_n dX12_water_34 rfl ?_
          refine E_iload_n dX12_water_35 rfl ?_
          refine E_callVI (st := []) (c_X12_waterOfAll l D dA ad S_9 v2 (pO_bnd hf)) mf_X12_waterOfAll rfl rfl gX12_water_X12_waterOfAll (pRc.of (ci := 12) rfl rfl) (by omega) rfl (Nat.le_of_ble_eq_true rfl) (by rfl) dX12_water_36 (fun r13 h13 q13 => ?_)
          obtain ⟨S_13, rfl, hf⟩ := q13
          dsimp only at hf
          refine E_goto (tgt := 48) dX12_water_39 (by decide) ?_
          exact E_iret rfl dX12_water_48 ⟨_, rfl, hf⟩
      · have hf := pO_pos c_10 hf
        refine E_ldc (v := (-2147483648)) dX12_water_26 (by decide +kernel) ?_
        exact E_iret rfl dX12_water_28 ⟨_, rfl, hf⟩
theorem hi_X12_restOf_12 : ∀ w ∈ u_ws RX12 TX12 32, w ∈ wsX12_restOf := fun w h => of_decide_eq_true (List.all_eq_true.mp (by decide +kernel : (u_ws RX12 TX12 32).all (fun w => decide (w ∈ wsX12_restOf)) = true) w h)
theorem fl_X12_restOf_15 : pFL wsX12_restOf RX12 15 12 1 := ⟨RX12, TX12, 32, hi_X12_restOf_12, rfl, by decide, by decide +kernel⟩
theorem fl_X12_restOf_9 : pFL wsX12_restOf RX12 9 12 0 := ⟨RX12, TX12, 32, hi_X12_restOf_12, rfl, by decide, by decide +kernel⟩
theorem hi_X12_waterBy_12 : ∀ w ∈ u_ws RX12 TX12 32, w ∈ wsX12_waterBy := fun w h => of_decide_eq_true (List.all_eq_true.mp (by decide +kernel : (u_ws RX12 TX12 32).all (fun w => decide (w ∈ wsX12_waterBy)) = true) w h)
theorem fl_X12_waterBy_9 : pFL wsX12_waterBy RX12 9 12 0 := ⟨RX12, TX12, 32, hi_X12_waterBy_12, rfl, by decide, by decide +kernel⟩
def g_X12_waterBy_5 : Nat → PS → Int32 → Int32 → Int32 → Int32 → Option ((Int32 × PS) ⊕ (PS × Int32))
  | 0, _, _, _, _, _ => none
  | fuel + 1, S, v1, v2, v3, v4 =>
    if (S.1 0) ≤ v4 then (some (.inr (S, v3))) else (pbnd (f_X12_waterOf S v4 (v2 + (v1 * (((2 * v4) - (S.1 0)) + 1)))) (fun r2 S_2 => g_X12_waterBy_5 fuel S_2 v1 v2 (v3 + r2) (v4 + 1)))
set_option maxRecDepth 100000 in
theorem l_X12_waterBy_5 (l : Launch) (D : va_G) (dA : Nat → ClassId) (ad : Nat → Nat) (d : Nat) (hd : 2 ≤ d) {Q : Int32 → List PC → Prop} : ∀ (fuel : Nat) (S : PS) (v1 : Int32) (v2 : Int32) (v3 : Int32) (v4 : Int32), pO (g_X12_waterBy_5 fuel S v1 v2 v3 v4) (fun y => match y with
    | .inl x => Q x.1 (hM x.2)
    | .inr w => Ev l D dA ad wsX12_waterBy cX12_waterBy RX12 5 (some .int) d 38 (pKi D dA ad 38 Q) 44 [(3, .int w.2)] [] (hM w.1)) → Ev l D dA ad wsX12_waterBy cX12_waterBy RX12 5 (some .int) d 38 (pKi D dA ad 38 Q) 5 [(0, .ref 0), (1, .int v1), (2, .int v2), (3, .int v3), (4, .int v4)] [] (hM S) := by
  intro fuel
  induction fuel with
  | zero =>
    intro S v1 v2 v3 v4 hf
    exact hf.elim
  | succ fuel ih =>
    intro S v1 v2 v3 v4 hf
    rw [g_X12_waterBy_5] at hf
    refine E_iload dX12_waterBy_5 rfl ?_
    refine E_aload_n dX12_waterBy_7 rfl ?_
    refine E_getf (v := .int (S.1 0)) dX12_waterBy_8 fl_X12_waterBy_9 rfl rfl ?_
    refine E_icmp_ge (tgt := 44) dX12_waterBy_11 (by decide) (fun c_1 => ?_) (fun c_1 => ?_)
    · have hf := pO_pos c_1 hf
      exact E_sub (ls' := [(3, .int v3)]) ⟨rfl, trivial⟩ hf
    · have hf := pO_neg c_1 hf
      refine E_iload_n dX12_waterBy_14 rfl ?_
      refine E_aload_n dX12_waterBy_15 rfl ?_
      refine E_iload dX12_waterBy_16 rfl ?_
      refine E_iload_n dX12_waterBy_18 rfl ?_
      refine E_iload_n dX12_waterBy_19 rfl ?_
      refine E_iconst (v := 2) dX12_waterBy_20 (by decide) ?_
      refine E_iload dX12_waterBy_21 rfl ?_
      refine E_imul dX12_waterBy_23 ?_
      refine E_aload_n dX12_waterBy_24 rfl ?_
      refine E_getf (v := .int (S.1 0)) dX12_waterBy_25 fl_X12_waterBy_9 rfl rfl ?_
      refine E_isub dX12_waterBy_28 ?_
      refine E_iconst (v := 1) dX12_waterBy_29 (by decide) ?_
      refine E_iadd dX12_waterBy_30 ?_
      refine E_imul dX12_waterBy_31 ?_
      refine E_iadd dX12_waterBy_32 ?_
      refine E_callVI (st := [.int v3]) (c_X12_waterOf l D dA ad S v4 (v2 + (v1 * (((2 * v4) - (S.1 0)) + 1))) (pO_bnd hf)) mf_X12_waterOf rfl rfl gX12_waterBy_X12_waterOf (pRc.of (ci := 12) rfl rfl) (by omega) rfl (Nat.le_of_ble_eq_true rfl) (by rfl) dX12_waterBy_33 (fun r2 h2 q2 => ?_)
      obtain ⟨S_2, rfl, hf⟩ := q2
      dsimp only at hf
      refine E_iadd dX12_waterBy_36 ?_
      refine E_istore_n (ls' := [(0, .ref 0), (1, .int v1), (2, .int v2), (3, .int (v3 + r2)), (4, .int v4)]) dX12_waterBy_37 (by decide) rfl ?_
      refine E_iinc (v := v4 + 1) (ls' := [(0, .ref 0), (1, .int v1), (2, .int v2), (3, .int (v3 + r2)), (4, .int (v4 + 1))]) dX12_waterBy_38 rfl rfl (by decide) rfl ?_
      refine E_goto (tgt := 5) dX12_waterBy_41 (by decide) ?_
      exact E_sub (ls' := [(0, .ref 0), (1, .int v1), (2, .int v2), (3, .int (v3 + r2)), (4, .int (v4 + 1))]) ⟨rfl, rfl, rfl, rfl, rfl, trivial⟩ (ih S_2 v1 v2 (v3 + r2) (v4 + 1) hf)
theorem mf_X12_waterBy : pMF yX12_waterBy wsX12_waterBy cX12_waterBy 5 (some .int) 2 := ⟨⟨_, rfl⟩, by decide +kernel, by decide, by decide +kernel, by decide +kernel, by decide +kernel⟩
def f_X12_waterBy (S : PS) (v1 : Int32) (v2 : Int32) : Option (Int32 × PS) :=
  plp (g_X12_waterBy_5 pfuel S v1 v2 0 0) (fun w => (fun (S_3 : PS) (v3_3 : Int32) => some (v3_3, S_3)) w.1 w.2)
set_option maxRecDepth 100000 in
theorem c_X12_waterBy (l : Launch) (D : va_G) (dA : Nat → ClassId) (ad : Nat → Nat) (S : PS) (v1 : Int32) (v2 : Int32) {P : (Int32 × PS) → Prop} (hf : pO (f_X12_waterBy S v1 v2) P) : CtI l D dA ad yX12_waterBy wsX12_waterBy 2 [.ref 0, .int v1, .int v2] (hM S) (fun r h' => ∃ S' : PS, h' = hM S' ∧ P (r, S')) := by
  refine CtI_of mf_X12_waterBy rfl rfl (Nat.le_of_ble_eq_true rfl) rfl (hM_len S) ?_
  unfold f_X12_waterBy at hf
  refine E_iconst (v := 0) dX12_waterBy_0 (by decide) ?_
  refine E_istore_n (ls' := [(0, .ref 0), (1, .int v1), (2, .int v2), (3, .int 0)]) dX12_waterBy_1 (by decide) rfl ?_
  refine E_iconst (v := 0) dX12_waterBy_2 (by decide) ?_
  refine E_istore (ls' := [(0, .ref 0), (1, .int v1), (2, .int v2), (3, .int 0), (4, .int 0)]) dX12_waterBy_3 (by decide) rfl ?_
  refine E_sub (ls' := [(0, .ref 0), (1, .int v1), (2, .int v2), (3, .int 0), (4, .int 0)]) ⟨rfl, rfl, rfl, rfl, rfl, trivial⟩ ?_
  refine l_X12_waterBy_5 l D dA ad _ (by omega) pfuel S v1 v2 0 0 (pO_lp hf (fun x hx => ⟨x.2, rfl, hx⟩) (fun w3 hf => ?_))
  obtain ⟨S_3, v3_3⟩ := w3
  dsimp only at hf ⊢
  refine E_iload_n dX12_waterBy_44 rfl ?_
  exact E_iret rfl dX12_waterBy_45 ⟨_, rfl, hf⟩
def g_X12_restOf_44 : Nat → PS → Int32 → Int32 → Int32 → Int32 → Option ((Int32 × PS) ⊕ (PS × Int32))
  | 0, _, _, _, _, _ => none
  | fuel + 1, S, v1, v2, v3, v4 =>
    if v3 ≤ v4 then (some (.inr (S, v4))) else (pbnd (f_X12_waterBy S v1 ((v4 + v3) / 2)) (fun r5 S_5 => if r5 < v2 then (g_X12_restOf_44 fuel S_5 v1 v2 v3 (((v4 + v3) / 2) + 1)) else (g_X12_restOf_44 fuel S_5 v1 v2 ((v4 + v3) / 2) v4)))
set_option maxRecDepth 100000 in
theorem l_X12_restOf_44 (l : Launch) (D : va_G) (dA : Nat → ClassId) (ad : Nat → Nat) (d : Nat) (hd : 3 ≤ d) {Q : Int32 → List PC → Prop} : ∀ (fuel : Nat) (S : PS) (v1 : Int32) (v2 : Int32) (v3 : Int32) (v4 : Int32), pO (g_X12_restOf_44 fuel S v1 v2 v3 v4) (fun y => match y with
    | .inl x => Q x.1 (hM x.2)
    | .inr w => Ev l D dA ad wsX12_restOf cX12_restOf RX12 6 (some .int) d 38 (pKi D dA ad 38 Q) 84 [(4, .int w.2)] [] (hM w.1)) → Ev l D dA ad wsX12_restOf cX12_restOf RX12 6 (some .int) d 38 (pKi D dA ad 38 Q) 44 [(0, .ref 0), (1, .int v1), (2, .int v2), (3, .int v3), (4, .int v4)] [] (hM S) := by
  intro fuel
  induction fuel with
  | zero =>
    intro S v1 v2 v3 v4 hf
    exact hf.elim
  | succ fuel ih =>
    intro S v1 v2 v3 v4 hf
    rw [g_X12_restOf_44] at hf
    refine E_iload dX12_restOf_44 rfl ?_
    refine E_iload_n dX12_restOf_46 rfl ?_
    refine E_icmp_ge (tgt := 84) dX12_restOf_47 (by decide) (fun c_4 => ?_) (fun c_4 => ?_)
    · have hf := pO_pos c_4 hf
      exact E_sub (ls' := [(4, .int v4)]) ⟨rfl, trivial⟩ hf
    · have hf := pO_neg c_4 hf
      refine E_iload dX12_restOf_50 rfl ?_
      refine E_iload_n dX12_restOf_52 rfl ?_
      refine E_iadd dX12_restOf_53 ?_
      refine E_iconst (v := 2) dX12_restOf_54 (by decide) ?_
      refine E_idiv dX12_restOf_55 (by decide) ?_
      refine E_istore (ls' := [(0, .ref 0), (1, .int v1), (2, .int v2), (3, .int v3), (4, .int v4), (5, .int ((v4 + v3) / 2))]) dX12_restOf_56 (by decide) rfl ?_
      refine E_aload_n dX12_restOf_58 rfl ?_
      refine E_iload_n dX12_restOf_59 rfl ?_
      refine E_iload dX12_restOf_60 rfl ?_
      refine E_callVI (st := []) (c_X12_waterBy l D dA ad S v1 ((v4 + v3) / 2) (pO_bnd hf)) mf_X12_waterBy rfl rfl gX12_restOf_X12_waterBy (pRc.of (ci := 12) rfl rfl) (by omega) rfl (Nat.le_of_ble_eq_true rfl) (by rfl) dX12_restOf_62 (fun r5 h5 q5 => ?_)
      obtain ⟨S_5, rfl, hf⟩ := q5
      dsimp only at hf
      refine E_iload_n dX12_restOf_65 rfl ?_
      refine E_icmp_lt (tgt := 75) dX12_restOf_66 (by decide) (fun c_6 => ?_) (fun c_6 => ?_)
      · have hf := pO_pos c_6 hf
        refine E_iload dX12_restOf_75 rfl ?_
        refine E_iconst (v := 1) dX12_restOf_77 (by decide) ?_
        refine E_iadd dX12_restOf_78 ?_
        refine E_istore (ls' := [(0, .ref 0), (1, .int v1), (2, .int v2), (3, .int v3), (4, .int (((v4 + v3) / 2) + 1)), (5, .int ((v4 + v3) / 2))]) dX12_restOf_79 (by decide) rfl ?_
        refine E_goto (tgt := 44) dX12_restOf_81 (by decide) ?_
        exact E_sub (ls' := [(0, .ref 0), (1, .int v1), (2, .int v2), (3, .int v3), (4, .int (((v4 + v3) / 2) + 1))]) ⟨rfl, rfl, rfl, rfl, rfl, trivial⟩ (ih S_5 v1 v2 v3 (((v4 + v3) / 2) + 1) hf)
      · have hf := pO_neg c_6 hf
        refine E_iload dX12_restOf_69 rfl ?_
        refine E_istore_n (ls' := [(0, .ref 0), (1, .int v1), (2, .int v2), (3, .int ((v4 + v3) / 2)), (4, .int v4), (5, .int ((v4 + v3) / 2))]) dX12_restOf_71 (by decide) rfl ?_
        refine E_goto (tgt := 81) dX12_restOf_72 (by decide) ?_
        refine E_goto (tgt := 44) dX12_restOf_81 (by decide) ?_
        exact E_sub (ls' := [(0, .ref 0), (1, .int v1), (2, .int v2), (3, .int ((v4 + v3) / 2)), (4, .int v4)]) ⟨rfl, rfl, rfl, rfl, rfl, trivial⟩ (ih S_5 v1 v2 ((v4 + v3) / 2) v4 hf)
theorem mf_X12_restOf : pMF yX12_restOf wsX12_restOf cX12_restOf 6 (some .int) 1 := ⟨⟨_, rfl⟩, by decide +kernel, by decide, by decide +kernel, by decide +kernel, by decide +kernel⟩
def f_X12_restOf (S : PS) (v1 : Int32) : Option (Int32 × PS) :=
  pbnd (f_X12_allWeight S) (fun r1 S_1 => pbnd (f_X12_waterBy S_1 v1 ((64 * (S_1.1 1)) + (((S_1.1 0) - 1) * (pabs v1)))) (fun r2 S_2 => if (64 * r1) ≤ r2 then (plp (g_X12_restOf_44 pfuel S_2 v1 (64 * r1) ((64 * (S_1.1 1)) + (((S_1.1 0) - 1) * (pabs v1))) 0) (fun w => (fun (S_7 : PS) (v4_7 : Int32) => some (v4_7, S_7)) w.1 w.2)) else (some ((-2), S_2))))
set_option maxRecDepth 100000 in
theorem c_X12_restOf (l : Launch) (D : va_G) (dA : Nat → ClassId) (ad : Nat → Nat) (S : PS) (v1 : Int32) {P : (Int32 × PS) → Prop} (hf : pO (f_X12_restOf S v1) P) : CtI l D dA ad yX12_restOf wsX12_restOf 3 [.ref 0, .int v1] (hM S) (fun r h' => ∃ S' : PS, h' = hM S' ∧ P (r, S')) := by
  refine CtI_of mf_X12_restOf rfl rfl (Nat.le_of_ble_eq_true rfl) rfl (hM_len S) ?_
  unfold f_X12_restOf at hf
  refine E_bipush (v := 64) dX12_restOf_0 (by decide) ?_
  refine E_aload_n dX12_restOf_2 rfl ?_
  refine E_callVI (st := [.int 64]) (c_X12_allWeight l D dA ad S (pO_bnd hf)) mf_X12_allWeight rfl rfl gX12_restOf_X12_allWeight (pRc.of (ci := 12) rfl rfl) (by omega) rfl (Nat.le_of_ble_eq_true rfl) (by rfl) dX12_restOf_3 (fun r1 h1 q1 => ?_)
  obtain ⟨S_1, rfl, hf⟩ := q1
  dsimp only at hf
  refine E_imul dX12_restOf_6 ?_
  refine E_istore_n (ls' := [(0, .ref 0), (1, .int v1), (2, .int (64 * r1))]) dX12_restOf_7 (by decide) rfl ?_
  refine E_bipush (v := 64) dX12_restOf_8 (by decide) ?_
  refine E_aload_n dX12_restOf_10 rfl ?_
  refine E_getf (v := .int (S_1.1 1)) dX12_restOf_11 fl_X12_restOf_15 rfl rfl ?_
  refine E_imul dX12_restOf_14 ?_
  refine E_aload_n dX12_restOf_15 rfl ?_
  refine E_getf (v := .int (S_1.1 0)) dX12_restOf_16 fl_X12_restOf_9 rfl rfl ?_
  refine E_iconst (v := 1) dX12_restOf_19 (by decide) ?_
  refine E_isub dX12_restOf_20 ?_
  refine E_iload_n dX12_restOf_21 rfl ?_
  refine E_mabs (by decide +kernel) (by decide +kernel) (by decide +kernel) (by decide +kernel) (by omega) (Nat.le_of_ble_eq_true rfl) (by rfl) dX12_restOf_22 ?_
  refine E_imul dX12_restOf_25 ?_
  refine E_iadd dX12_restOf_26 ?_
  refine E_istore_n (ls' := [(0, .ref 0), (1, .int v1), (2, .int (64 * r1)), (3, .int ((64 * (S_1.1 1)) + (((S_1.1 0) - 1) * (pabs v1))))]) dX12_restOf_27 (by decide) rfl ?_
  refine E_aload_n dX12_restOf_28 rfl ?_
  refine E_iload_n dX12_restOf_29 rfl ?_
  refine E_iload_n dX12_restOf_30 rfl ?_
  refine E_callVI (st := []) (c_X12_waterBy l D dA ad S_1 v1 ((64 * (S_1.1 1)) + (((S_1.1 0) - 1) * (pabs v1))) (pO_bnd hf)) mf_X12_waterBy rfl rfl gX12_restOf_X12_waterBy (pRc.of (ci := 12) rfl rfl) (by omega) rfl (Nat.le_of_ble_eq_true rfl) (by rfl) dX12_restOf_31 (fun r2 h2 q2 => ?_)
  obtain ⟨S_2, rfl, hf⟩ := q2
  dsimp only at hf
  refine E_iload_n dX12_restOf_34 rfl ?_
  refine E_icmp_ge (tgt := 41) dX12_restOf_35 (by decide) (fun c_3 => ?_) (fun c_3 => ?_)
  · have hf := pO_pos c_3 hf
    refine E_iconst (v := 0) dX12_restOf_41 (by decide) ?_
    refine E_istore (ls' := [(0, .ref 0), (1, .int v1), (2, .int (64 * r1)), (3, .int ((64 * (S_1.1 1)) + (((S_1.1 0) - 1) * (pabs v1)))), (4, .int 0)]) dX12_restOf_42 (by decide) rfl ?_
    refine E_sub (ls' := [(0, .ref 0), (1, .int v1), (2, .int (64 * r1)), (3, .int ((64 * (S_1.1 1)) + (((S_1.1 0) - 1) * (pabs v1)))), (4, .int 0)]) ⟨rfl, rfl, rfl, rfl, rfl, trivial⟩ ?_
    refine l_X12_restOf_44 l D dA ad _ (by omega) pfuel S_2 v1 (64 * r1) ((64 * (S_1.1 1)) + (((S_1.1 0) - 1) * (pabs v1))) 0 (pO_lp hf (fun x hx => ⟨x.2, rfl, hx⟩) (fun w7 hf => ?_))
    obtain ⟨S_7, v4_7⟩ := w7
    dsimp only at hf ⊢
    refine E_iload dX12_restOf_84 rfl ?_
    exact E_iret rfl dX12_restOf_86 ⟨_, rfl, hf⟩
  · have hf := pO_neg c_3 hf
    refine E_bipush (v := (-2)) dX12_restOf_38 (by decide) ?_
    exact E_iret rfl dX12_restOf_40 ⟨_, rfl, hf⟩
theorem hi_X12_offBy_12 : ∀ w ∈ u_ws RX12 TX12 32, w ∈ wsX12_offBy := fun w h => of_decide_eq_true (List.all_eq_true.mp (by decide +kernel : (u_ws RX12 TX12 32).all (fun w => decide (w ∈ wsX12_offBy)) = true) w h)
theorem fl_X12_offBy_9 : pFL wsX12_offBy RX12 9 12 0 := ⟨RX12, TX12, 32, hi_X12_offBy_12, rfl, by decide, by decide +kernel⟩
def g_X12_offBy_5 : Nat → PS → Int32 → Int32 → Int32 → Int32 → Option ((Int32 × PS) ⊕ (PS × Int32))
  | 0, _, _, _, _, _ => none
  | fuel + 1, S, v1, v2, v3, v4 =>
    if (S.1 0) ≤ v4 then (some (.inr (S, v3))) else (pbnd (f_X12_waterOf S v4 (v2 + (v1 * (((2 * v4) - (S.1 0)) + 1)))) (fun r2 S_2 => g_X12_offBy_5 fuel S_2 v1 v2 (v3 + ((2 * v4) * r2)) (v4 + 1)))
set_option maxRecDepth 100000 in
theorem l_X12_offBy_5 (l : Launch) (D : va_G) (dA : Nat → ClassId) (ad : Nat → Nat) (d : Nat) (hd : 2 ≤ d) {Q : Int32 → List PC → Prop} : ∀ (fuel : Nat) (S : PS) (v1 : Int32) (v2 : Int32) (v3 : Int32) (v4 : Int32), pO (g_X12_offBy_5 fuel S v1 v2 v3 v4) (fun y => match y with
    | .inl x => Q x.1 (hM x.2)
    | .inr w => Ev l D dA ad wsX12_offBy cX12_offBy RX12 5 (some .int) d 38 (pKi D dA ad 38 Q) 49 [(0, .ref 0), (3, .int w.2)] [] (hM w.1)) → Ev l D dA ad wsX12_offBy cX12_offBy RX12 5 (some .int) d 38 (pKi D dA ad 38 Q) 5 [(0, .ref 0), (1, .int v1), (2, .int v2), (3, .int v3), (4, .int v4)] [] (hM S) := by
  intro fuel
  induction fuel with
  | zero =>
    intro S v1 v2 v3 v4 hf
    exact hf.elim
  | succ fuel ih =>
    intro S v1 v2 v3 v4 hf
    rw [g_X12_offBy_5] at hf
    refine E_iload dX12_offBy_5 rfl ?_
    refine E_aload_n dX12_offBy_7 rfl ?_
    refine E_getf (v := .int (S.1 0)) dX12_offBy_8 fl_X12_offBy_9 rfl rfl ?_
    refine E_icmp_ge (tgt := 49) dX12_offBy_11 (by decide) (fun c_1 => ?_) (fun c_1 => ?_)
    · have hf := pO_pos c_1 hf
      exact E_sub (ls' := [(0, .ref 0), (3, .int v3)]) ⟨rfl, rfl, trivial⟩ hf
    · have hf := pO_neg c_1 hf
      refine E_iload_n dX12_offBy_14 rfl ?_
      refine E_iconst (v := 2) dX12_offBy_15 (by decide) ?_
      refine E_iload dX12_offBy_16 rfl ?_
      refine E_imul dX12_offBy_18 ?_
      refine E_aload_n dX12_offBy_19 rfl ?_
      refine E_iload dX12_offBy_20 rfl ?_
      refine E_iload_n dX12_offBy_22 rfl ?_
      refine E_iload_n dX12_offBy_23 rfl ?_
      refine E_iconst (v := 2) dX12_offBy_24 (by decide) ?_
      refine E_iload dX12_offBy_25 rfl ?_
      refine E_imul dX12_offBy_27 ?_
      refine E_aload_n dX12_offBy_28 rfl ?_
      refine E_getf (v := .int (S.1 0)) dX12_offBy_29 fl_X12_offBy_9 rfl rfl ?_
      refine E_isub dX12_offBy_32 ?_
      refine E_iconst (v := 1) dX12_offBy_33 (by decide) ?_
      refine E_iadd dX12_offBy_34 ?_
      refine E_imul dX12_offBy_35 ?_
      refine E_iadd dX12_offBy_36 ?_
      refine E_callVI (st := [.int (2 * v4), .int v3]) (c_X12_waterOf l D dA ad S v4 (v2 + (v1 * (((2 * v4) - (S.1 0)) + 1))) (pO_bnd hf)) mf_X12_waterOf rfl rfl gX12_offBy_X12_waterOf (pRc.of (ci := 12) rfl rfl) (by omega) rfl (Nat.le_of_ble_eq_true rfl) (by rfl) dX12_offBy_37 (fun r2 h2 q2 => ?_)
      obtain ⟨S_2, rfl, hf⟩ := q2
      dsimp only at hf
      refine E_imul dX12_offBy_40 ?_
      refine E_iadd dX12_offBy_41 ?_
      refine E_istore_n (ls' := [(0, .ref 0), (1, .int v1), (2, .int v2), (3, .int (v3 + ((2 * v4) * r2))), (4, .int v4)]) dX12_offBy_42 (by decide) rfl ?_
      refine E_iinc (v := v4 + 1) (ls' := [(0, .ref 0), (1, .int v1), (2, .int v2), (3, .int (v3 + ((2 * v4) * r2))), (4, .int (v4 + 1))]) dX12_offBy_43 rfl rfl (by decide) rfl ?_
      refine E_goto (tgt := 5) dX12_offBy_46 (by decide) ?_
      exact E_sub (ls' := [(0, .ref 0), (1, .int v1), (2, .int v2), (3, .int (v3 + ((2 * v4) * r2))), (4, .int (v4 + 1))]) ⟨rfl, rfl, rfl, rfl, rfl, trivial⟩ (ih S_2 v1 v2 (v3 + ((2 * v4) * r2)) (v4 + 1) hf)
theorem mf_X12_offBy : pMF yX12_offBy wsX12_offBy cX12_offBy 5 (some .int) 2 := ⟨⟨_, rfl⟩, by decide +kernel, by decide, by decide +kernel, by decide +kernel, by decide +kernel⟩
def f_X12_offBy (S : PS) (v1 : Int32) (v2 : Int32) : Option (Int32 × PS) :=
  plp (g_X12_offBy_5 pfuel S v1 v2 0 0) (fun w => (fun (S_3 : PS) (v3_3 : Int32) => pbnd (f_X12_along S_3) (fun r4 S_4 => some (v3_3 - (64 * r4), S_4))) w.1 w.2)
set_option maxRecDepth 100000 in
theorem c_X12_offBy (l : Launch) (D : va_G) (dA : Nat → ClassId) (ad : Nat → Nat) (S : PS) (v1 : Int32) (v2 : Int32) {P : (Int32 × PS) → Prop} (hf : pO (f_X12_offBy S v1 v2) P) : CtI l D dA ad yX12_offBy wsX12_offBy 2 [.ref 0, .int v1, .int v2] (hM S) (fun r h' => ∃ S' : PS, h' = hM S' ∧ P (r, S')) := by
  refine CtI_of mf_X12_offBy rfl rfl (Nat.le_of_ble_eq_true rfl) rfl (hM_len S) ?_
  unfold f_X12_offBy at hf
  refine E_iconst (v := 0) dX12_offBy_0 (by decide) ?_
  refine E_istore_n (ls' := [(0, .ref 0), (1, .int v1), (2, .int v2), (3, .int 0)]) dX12_offBy_1 (by decide) rfl ?_
  refine E_iconst (v := 0) dX12_offBy_2 (by decide) ?_
  refine E_istore (ls' := [(0, .ref 0), (1, .int v1), (2, .int v2), (3, .int 0), (4, .int 0)]) dX12_offBy_3 (by decide) rfl ?_
  refine E_sub (ls' := [(0, .ref 0), (1, .int v1), (2, .int v2), (3, .int 0), (4, .int 0)]) ⟨rfl, rfl, rfl, rfl, rfl, trivial⟩ ?_
  refine l_X12_offBy_5 l D dA ad _ (by omega) pfuel S v1 v2 0 0 (pO_lp hf (fun x hx => ⟨x.2, rfl, hx⟩) (fun w3 hf => ?_))
  obtain ⟨S_3, v3_3⟩ := w3
  dsimp only at hf ⊢
  refine E_iload_n dX12_offBy_49 rfl ?_
  refine E_bipush (v := 64) dX12_offBy_50 (by decide) ?_
  refine E_aload_n dX12_offBy_52 rfl ?_
  refine E_callVI (st := [.int 64, .int v3_3]) (c_X12_along l D dA ad S_3 (pO_bnd hf)) mf_X12_along rfl rfl gX12_offBy_X12_along (pRc.of (ci := 12) rfl rfl) (by omega) rfl (Nat.le_of_ble_eq_true rfl) (by rfl) dX12_offBy_53 (fun r4 h4 q4 => ?_)
  obtain ⟨S_4, rfl, hf⟩ := q4
  dsimp only at hf
  refine E_imul dX12_offBy_56 ?_
  refine E_isub dX12_offBy_57 ?_
  exact E_iret rfl dX12_offBy_58 ⟨_, rfl, hf⟩
theorem mf_X12_isNearer : pMF yX12_isNearer wsX12_isNearer cX12_isNearer 4 (some .boolean) 4 := ⟨⟨_, rfl⟩, by decide +kernel, by decide, by decide +kernel, by decide +kernel, by decide +kernel⟩
def f_X12_isNearer (S : PS) (v0 : Int32) (v1 : Int32) (v2 : Int32) (v3 : Int32) : Option (Int32 × PS) :=
  if (pabs v0) = (pabs v2) then (if (pabs v1) = (pabs v3) then (if v3 ≤ v1 then (some (0, S)) else (some (1, S))) else (if (pabs v3) ≤ (pabs v1) then (some (0, S)) else (some (1, S)))) else (if (pabs v2) ≤ (pabs v0) then (some (0, S)) else (some (1, S)))
set_option maxRecDepth 100000 in
theorem c_X12_isNearer (l : Launch) (D : va_G) (dA : Nat → ClassId) (ad : Nat → Nat) (S : PS) (v0 : Int32) (v1 : Int32) (v2 : Int32) (v3 : Int32) {P : (Int32 × PS) → Prop} (hf : pO (f_X12_isNearer S v0 v1 v2 v3) P) : CtI l D dA ad yX12_isNearer wsX12_isNearer 1 [.int v0, .int v1, .int v2, .int v3] (hM S) (fun r h' => ∃ S' : PS, h' = hM S' ∧ P (r, S')) := by
  refine CtI_of mf_X12_isNearer rfl rfl (Nat.le_of_ble_eq_true rfl) rfl (hM_len S) ?_
  unfold f_X12_isNearer at hf
  refine E_iload_n dX12_isNearer_0 rfl ?_
  refine E_mabs (by decide +kernel) (by decide +kernel) (by decide +kernel) (by decide +kernel) (by omega) (Nat.le_of_ble_eq_true rfl) (by rfl) dX12_isNearer_1 ?_
  refine E_iload_n dX12_isNearer_4 rfl ?_
  refine E_mabs (by decide +kernel) (by decide +kernel) (by decide +kernel) (by decide +kernel) (by omega) (Nat.le_of_ble_eq_true rfl) (by rfl) dX12_isNearer_5 ?_
  refine E_icmp_eq (tgt := 28) dX12_isNearer_8 (by decide) (fun c_1 => ?_) (fun c_1 => ?_)
  · have hf := pO_pos c_1 hf
    refine E_iload_n dX12_isNearer_28 rfl ?_
    refine E_mabs (by decide +kernel) (by decide +kernel) (by decide +kernel) (by decide +kernel) (by omega) (Nat.le_of_ble_eq_true rfl) (by rfl) dX12_isNearer_29 ?_
    refine E_iload_n dX12_isNearer_32 rfl ?_
    refine E_mabs (by decide +kernel) (by decide +kernel) (by decide +kernel) (by decide +kernel) (by omega) (Nat.le_of_ble_eq_true rfl) (by rfl) dX12_isNearer_33 ?_
    refine E_icmp_eq (tgt := 58) dX12_isNearer_36 (by decide) (fun c_2 => ?_) (fun c_2 => ?_)
    · have hf := pO_pos c_2 hf
      refine E_iload_n dX12_isNearer_58 rfl ?_
      refine E_iload_n dX12_isNearer_59 rfl ?_
      refine E_icmp_ge (tgt := 67) dX12_isNearer_60 (by decide) (fun c_3 => ?_) (fun c_3 => ?_)
      · have hf := pO_pos c_3 hf
        refine E_iconst (v := 0) dX12_isNearer_67 (by decide) ?_
        exact E_zret rfl dX12_isNearer_68 (by decide) ⟨_, rfl, hf⟩
      · have hf := pO_neg c_3 hf
        refine E_iconst (v := 1) dX12_isNearer_63 (by decide) ?_
        refine E_goto (tgt := 68) dX12_isNearer_64 (by decide) ?_
        exact E_zret rfl dX12_isNearer_68 (by decide) ⟨_, rfl, hf⟩
    · have hf := pO_neg c_2 hf
      refine E_iload_n dX12_isNearer_39 rfl ?_
      refine E_mabs (by decide +kernel) (by decide +kernel) (by decide +kernel) (by decide +kernel) (by omega) (Nat.le_of_ble_eq_true rfl) (by rfl) dX12_isNearer_40 ?_
      refine E_iload_n dX12_isNearer_43 rfl ?_
      refine E_mabs (by decide +kernel) (by decide +kernel) (by decide +kernel) (by decide +kernel) (by omega) (Nat.le_of_ble_eq_true rfl) (by rfl) dX12_isNearer_44 ?_
      refine E_icmp_ge (tgt := 54) dX12_isNearer_47 (by decide) (fun c_4 => ?_) (fun c_4 => ?_)
      · have hf := pO_pos c_4 hf
        refine E_iconst (v := 0) dX12_isNearer_54 (by decide) ?_
        refine E_goto (tgt := 68) dX12_isNearer_55 (by decide) ?_
        exact E_zret rfl dX12_isNearer_68 (by decide) ⟨_, rfl, hf⟩
      · have hf := pO_neg c_4 hf
        refine E_iconst (v := 1) dX12_isNearer_50 (by decide) ?_
        refine E_goto (tgt := 68) dX12_isNearer_51 (by decide) ?_
        exact E_zret rfl dX12_isNearer_68 (by decide) ⟨_, rfl, hf⟩
  · have hf := pO_neg c_1 hf
    refine E_iload_n dX12_isNearer_11 rfl ?_
    refine E_mabs (by decide +kernel) (by decide +kernel) (by decide +kernel) (by decide +kernel) (by omega) (Nat.le_of_ble_eq_true rfl) (by rfl) dX12_isNearer_12 ?_
    refine E_iload_n dX12_isNearer_15 rfl ?_
    refine E_mabs (by decide +kernel) (by decide +kernel) (by decide +kernel) (by decide +kernel) (by omega) (Nat.le_of_ble_eq_true rfl) (by rfl) dX12_isNearer_16 ?_
    refine E_icmp_ge (tgt := 26) dX12_isNearer_19 (by decide) (fun c_5 => ?_) (fun c_5 => ?_)
    · have hf := pO_pos c_5 hf
      refine E_iconst (v := 0) dX12_isNearer_26 (by decide) ?_
      exact E_zret rfl dX12_isNearer_27 (by decide) ⟨_, rfl, hf⟩
    · have hf := pO_neg c_5 hf
      refine E_iconst (v := 1) dX12_isNearer_22 (by decide) ?_
      refine E_goto (tgt := 27) dX12_isNearer_23 (by decide) ?_
      exact E_zret rfl dX12_isNearer_27 (by decide) ⟨_, rfl, hf⟩
def g_X12_trim_24 : Nat → PS → Int32 → Int32 → Int32 → Int32 → Int32 → Option ((Int32 × PS) ⊕ (PS × Int32 × Int32 × Int32))
  | 0, _, _, _, _, _, _ => none
  | fuel + 1, S, v1, v2, v3, v4, v5 =>
    if (20 : Int32) < v5 then (some (.inr (S, v2, v3, v4))) else (pbnd (f_X12_restOf S v5) (fun r4 S_4 => if r4 = ((-2) : Int32) then (g_X12_trim_24 fuel S_4 v1 v2 v3 v4 (v5 + 1)) else (pbnd (f_X12_offBy S_4 v5 r4) (fun r6 S_6 => if v2 = ((-2147483648) : Int32) then (g_X12_trim_24 fuel S_6 v1 v5 r4 r6 (v5 + 1)) else (pbnd (f_X12_isNearer S_6 r6 v5 v4 v2) (fun r8 S_8 => if r8 = (0 : Int32) then (g_X12_trim_24 fuel S_8 v1 v2 v3 v4 (v5 + 1)) else (g_X12_trim_24 fuel S_8 v1 v5 r4 r6 (v5 + 1))))))))
set_option maxRecDepth 100000 in
theorem l_X12_trim_24 (l : Launch) (D : va_G) (dA : Nat → ClassId) (ad : Nat → Nat) (d : Nat) (hd : 4 ≤ d) {Q : Int32 → List PC → Prop} : ∀ (fuel : Nat) (S : PS) (v1 : Int32) (v2 : Int32) (v3 : Int32) (v4 : Int32) (v5 : Int32), pO (g_X12_trim_24 fuel S v1 v2 v3 v4 v5) (fun y => match y with
    | .inl x => Q x.1 (hM x.2)
    | .inr w => Ev l D dA ad wsX12_trim cX12_trim RX12 8 (some .int) d 38 (pKi D dA ad 38 Q) 97 [(1, .int v1), (2, .int w.2.1), (3, .int w.2.2.1), (4, .int w.2.2.2)] [] (hM w.1)) → Ev l D dA ad wsX12_trim cX12_trim RX12 8 (some .int) d 38 (pKi D dA ad 38 Q) 24 [(0, .ref 0), (1, .int v1), (2, .int v2), (3, .int v3), (4, .int v4), (5, .int v5)] [] (hM S) := by
  intro fuel
  induction fuel with
  | zero =>
    intro S v1 v2 v3 v4 v5 hf
    exact hf.elim
  | succ fuel ih =>
    intro S v1 v2 v3 v4 v5 hf
    rw [g_X12_trim_24] at hf
    refine E_iload dX12_trim_24 rfl ?_
    refine E_bipush (v := 20) dX12_trim_26 (by decide) ?_
    refine E_icmp_gt (tgt := 97) dX12_trim_28 (by decide) (fun c_3 => ?_) (fun c_3 => ?_)
    · have hf := pO_pos c_3 hf
      exact E_sub (ls' := [(1, .int v1), (2, .int v2), (3, .int v3), (4, .int v4)]) ⟨rfl, rfl, rfl, rfl, trivial⟩ hf
    · have hf := pO_neg c_3 hf
      refine E_aload_n dX12_trim_31 rfl ?_
      refine E_iload dX12_trim_32 rfl ?_
      refine E_callVI (st := []) (c_X12_restOf l D dA ad S v5 (pO_bnd hf)) mf_X12_restOf rfl rfl gX12_trim_X12_restOf (pRc.of (ci := 12) rfl rfl) (by omega) rfl (Nat.le_of_ble_eq_true rfl) (by rfl) dX12_trim_34 (fun r4 h4 q4 => ?_)
      obtain ⟨S_4, rfl, hf⟩ := q4
      dsimp only at hf
      refine E_istore (ls' := [(0, .ref 0), (1, .int v1), (2, .int v2), (3, .int v3), (4, .int v4), (5, .int v5), (6, .int r4)]) dX12_trim_37 (by decide) rfl ?_
      refine E_iload dX12_trim_39 rfl ?_
      refine E_bipush (v := (-2)) dX12_trim_41 (by decide) ?_
      refine E_icmp_ne (tgt := 49) dX12_trim_43 (by decide) (fun c_5 => ?_) (fun c_5 => ?_)
      · have hf := pO_neg c_5 hf
        refine E_aload_n dX12_trim_49 rfl ?_
        refine E_iload dX12_trim_50 rfl ?_
        refine E_iload dX12_trim_52 rfl ?_
        refine E_callVI (st := []) (c_X12_offBy l D dA ad S_4 v5 r4 (pO_bnd hf)) mf_X12_offBy rfl rfl gX12_trim_X12_offBy (pRc.of (ci := 12) rfl rfl) (by omega) rfl (Nat.le_of_ble_eq_true rfl) (by rfl) dX12_trim_54 (fun r6 h6 q6 => ?_)
        obtain ⟨S_6, rfl, hf⟩ := q6
        dsimp only at hf
        refine E_istore (ls' := [(0, .ref 0), (1, .int v1), (2, .int v2), (3, .int v3), (4, .int v4), (5, .int v5), (6, .int r4), (7, .int r6)]) dX12_trim_57 (by decide) rfl ?_
        refine E_iload_n dX12_trim_59 rfl ?_
        refine E_ldc (v := (-2147483648)) dX12_trim_60 (by decide +kernel) ?_
        refine E_icmp_eq (tgt := 81) dX12_trim_62 (by decide) (fun c_7 => ?_) (fun c_7 => ?_)
        · have hf := pO_pos c_7 hf
          refine E_iload dX12_trim_81 rfl ?_
          refine E_istore_n (ls' := [(0, .ref 0), (1, .int v1), (2, .int v5), (3, .int v3), (4, .int v4), (5, .int v5), (6, .int r4), (7, .int r6)]) dX12_trim_83 (by decide) rfl ?_
          refine E_iload dX12_trim_84 rfl ?_
          refine E_istore_n (ls' := [(0, .ref 0), (1, .int v1), (2, .int v5), (3, .int r4), (4, .int v4), (5, .int v5), (6, .int r4), (7, .int r6)]) dX12_trim_86 (by decide) rfl ?_
          refine E_iload dX12_trim_87 rfl ?_
          refine E_istore (ls' := [(0, .ref 0), (1, .int v1), (2, .int v5), (3, .int r4), (4, .int r6), (5, .int v5), (6, .int r4), (7, .int r6)]) dX12_trim_89 (by decide) rfl ?_
          refine E_iinc (v := v5 + 1) (ls' := [(0, .ref 0), (1, .int v1), (2, .int v5), (3, .int r4), (4, .int r6), (5, .int (v5 + 1)), (6, .int r4), (7, .int r6)]) dX12_trim_91 rfl rfl (by decide) rfl ?_
          refine E_goto (tgt := 24) dX12_trim_94 (by decide) ?_
          exact E_sub (ls' := [(0, .ref 0), (1, .int v1), (2, .int v5), (3, .int r4), (4, .int r6), (5, .int (v5 + 1))]) ⟨rfl, rfl, rfl, rfl, rfl, rfl, trivial⟩ (ih S_6 v1 v5 r4 r6 (v5 + 1) hf)
        · have hf := pO_neg c_7 hf
          refine E_iload dX12_trim_65 rfl ?_
          refine E_iload dX12_trim_67 rfl ?_
          refine E_iload dX12_trim_69 rfl ?_
          refine E_iload_n dX12_trim_71 rfl ?_
          refine E_callSI (st := []) (c_X12_isNearer l D dA ad S_6 r6 v5 v4 v2 (pO_bnd hf)) mf_X12_isNearer rfl gX12_trim_X12_isNearer (by omega) rfl (Nat.le_of_ble_eq_true rfl) (by rfl) dX12_trim_72 (fun r8 h8 q8 => ?_)
          obtain ⟨S_8, rfl, hf⟩ := q8
          dsimp only at hf
          refine E_if_ne (tgt := 81) dX12_trim_75 (by decide) (fun c_9 => ?_) (fun c_9 => ?_)
          · have hf := pO_neg c_9 hf
            refine E_iload dX12_trim_81 rfl ?_
            refine E_istore_n (ls' := [(0, .ref 0), (1, .int v1), (2, .int v5), (3, .int v3), (4, .int v4), (5, .int v5), (6, .int r4), (7, .int r6)]) dX12_trim_83 (by decide) rfl ?_
            refine E_iload dX12_trim_84 rfl ?_
            refine E_istore_n (ls' := [(0, .ref 0), (1, .int v1), (2, .int v5), (3, .int r4), (4, .int v4), (5, .int v5), (6, .int r4), (7, .int r6)]) dX12_trim_86 (by decide) rfl ?_
            refine E_iload dX12_trim_87 rfl ?_
            refine E_istore (ls' := [(0, .ref 0), (1, .int v1), (2, .int v5), (3, .int r4), (4, .int r6), (5, .int v5), (6, .int r4), (7, .int r6)]) dX12_trim_89 (by decide) rfl ?_
            refine E_iinc (v := v5 + 1) (ls' := [(0, .ref 0), (1, .int v1), (2, .int v5), (3, .int r4), (4, .int r6), (5, .int (v5 + 1)), (6, .int r4), (7, .int r6)]) dX12_trim_91 rfl rfl (by decide) rfl ?_
            refine E_goto (tgt := 24) dX12_trim_94 (by decide) ?_
            exact E_sub (ls' := [(0, .ref 0), (1, .int v1), (2, .int v5), (3, .int r4), (4, .int r6), (5, .int (v5 + 1))]) ⟨rfl, rfl, rfl, rfl, rfl, rfl, trivial⟩ (ih S_8 v1 v5 r4 r6 (v5 + 1) hf)
          · have hf := pO_pos c_9 hf
            refine E_goto (tgt := 91) dX12_trim_78 (by decide) ?_
            refine E_iinc (v := v5 + 1) (ls' := [(0, .ref 0), (1, .int v1), (2, .int v2), (3, .int v3), (4, .int v4), (5, .int (v5 + 1)), (6, .int r4), (7, .int r6)]) dX12_trim_91 rfl rfl (by decide) rfl ?_
            refine E_goto (tgt := 24) dX12_trim_94 (by decide) ?_
            exact E_sub (ls' := [(0, .ref 0), (1, .int v1), (2, .int v2), (3, .int v3), (4, .int v4), (5, .int (v5 + 1))]) ⟨rfl, rfl, rfl, rfl, rfl, rfl, trivial⟩ (ih S_8 v1 v2 v3 v4 (v5 + 1) hf)
      · have hf := pO_pos c_5 hf
        refine E_goto (tgt := 91) dX12_trim_46 (by decide) ?_
        refine E_iinc (v := v5 + 1) (ls' := [(0, .ref 0), (1, .int v1), (2, .int v2), (3, .int v3), (4, .int v4), (5, .int (v5 + 1)), (6, .int r4)]) dX12_trim_91 rfl rfl (by decide) rfl ?_
        refine E_goto (tgt := 24) dX12_trim_94 (by decide) ?_
        exact E_sub (ls' := [(0, .ref 0), (1, .int v1), (2, .int v2), (3, .int v3), (4, .int v4), (5, .int (v5 + 1))]) ⟨rfl, rfl, rfl, rfl, rfl, rfl, trivial⟩ (ih S_4 v1 v2 v3 v4 (v5 + 1) hf)
theorem mf_X12_trim : pMF yX12_trim wsX12_trim cX12_trim 8 (some .int) 1 := ⟨⟨_, rfl⟩, by decide +kernel, by decide, by decide +kernel, by decide +kernel, by decide +kernel⟩
def f_X12_trim (S : PS) (v1 : Int32) : Option (Int32 × PS) :=
  pbnd (f_X12_in S v1 0 2) (fun r1 S_1 => if r1 = (0 : Int32) then (some ((-2147483648), S_1)) else (plp (g_X12_trim_24 pfuel S_1 v1 (-2147483648) 0 0 (-20)) (fun w => (fun (S_10 : PS) (v2_10 : Int32) (v3_10 : Int32) (v4_10 : Int32) => if v2_10 = ((-2147483648) : Int32) then (some (v2_10, S_10)) else (if v1 = (0 : Int32) then (some (v2_10, S_10)) else (if v1 = (1 : Int32) then (some (v3_10, S_10)) else (some (v4_10, S_10))))) w.1 w.2.1 w.2.2.1 w.2.2.2)))
set_option maxRecDepth 100000 in
theorem c_X12_trim (l : Launch) (D : va_G) (dA : Nat → ClassId) (ad : Nat → Nat) (S : PS) (v1 : Int32) {P : (Int32 × PS) → Prop} (hf : pO (f_X12_trim S v1) P) : CtI l D dA ad yX12_trim wsX12_trim 4 [.ref 0, .int v1] (hM S) (fun r h' => ∃ S' : PS, h' = hM S' ∧ P (r, S')) := by
  refine CtI_of mf_X12_trim rfl rfl (Nat.le_of_ble_eq_true rfl) rfl (hM_len S) ?_
  unfold f_X12_trim at hf
  refine E_iload_n dX12_trim_0 rfl ?_
  refine E_iconst (v := 0) dX12_trim_1 (by decide) ?_
  refine E_iconst (v := 2) dX12_trim_2 (by decide) ?_
  refine E_callSI (st := []) (c_X12_in l D dA ad S v1 0 2 (pO_bnd hf)) mf_X12_in rfl gX12_trim_X12_in (by omega) rfl (Nat.le_of_ble_eq_true rfl) (by rfl) dX12_trim_3 (fun r1 h1 q1 => ?_)
  obtain ⟨S_1, rfl, hf⟩ := q1
  dsimp only at hf
  refine E_if_ne (tgt := 12) dX12_trim_6 (by decide) (fun c_2 => ?_) (fun c_2 => ?_)
  · have hf := pO_neg c_2 hf
    refine E_ldc (v := (-2147483648)) dX12_trim_12 (by decide +kernel) ?_
    refine E_istore_n (ls' := [(0, .ref 0), (1, .int v1), (2, .int (-2147483648))]) dX12_trim_14 (by decide) rfl ?_
    refine E_iconst (v := 0) dX12_trim_15 (by decide) ?_
    refine E_istore_n (ls' := [(0, .ref 0), (1, .int v1), (2, .int (-2147483648)), (3, .int 0)]) dX12_trim_16 (by decide) rfl ?_
    refine E_iconst (v := 0) dX12_trim_17 (by decide) ?_
    refine E_istore (ls' := [(0, .ref 0), (1, .int v1), (2, .int (-2147483648)), (3, .int 0), (4, .int 0)]) dX12_trim_18 (by decide) rfl ?_
    refine E_bipush (v := (-20)) dX12_trim_20 (by decide) ?_
    refine E_istore (ls' := [(0, .ref 0), (1, .int v1), (2, .int (-2147483648)), (3, .int 0), (4, .int 0), (5, .int (-20))]) dX12_trim_22 (by decide) rfl ?_
    refine E_sub (ls' := [(0, .ref 0), (1, .int v1), (2, .int (-2147483648)), (3, .int 0), (4, .int 0), (5, .int (-20))]) ⟨rfl, rfl, rfl, rfl, rfl, rfl, trivial⟩ ?_
    refine l_X12_trim_24 l D dA ad _ (by omega) pfuel S_1 v1 (-2147483648) 0 0 (-20) (pO_lp hf (fun x hx => ⟨x.2, rfl, hx⟩) (fun w10 hf => ?_))
    obtain ⟨S_10, v2_10, v3_10, v4_10⟩ := w10
    dsimp only at hf ⊢
    refine E_iload_n dX12_trim_97 rfl ?_
    refine E_ldc (v := (-2147483648)) dX12_trim_98 (by decide +kernel) ?_
    refine E_icmp_eq (tgt := 107) dX12_trim_100 (by decide) (fun c_11 => ?_) (fun c_11 => ?_)
    · have hf := pO_pos c_11 hf
      refine E_iload_n dX12_trim_107 rfl ?_
      refine E_goto (tgt := 122) dX12_trim_108 (by decide) ?_
      exact E_iret rfl dX12_trim_122 ⟨_, rfl, hf⟩
    · have hf := pO_neg c_11 hf
      refine E_iload_n dX12_trim_103 rfl ?_
      refine E_if_ne (tgt := 111) dX12_trim_104 (by decide) (fun c_12 => ?_) (fun c_12 => ?_)
      · have hf := pO_neg c_12 hf
        refine E_iload_n dX12_trim_111 rfl ?_
        refine E_iconst (v := 1) dX12_trim_112 (by decide) ?_
        refine E_icmp_ne (tgt := 120) dX12_trim_113 (by decide) (fun c_13 => ?_) (fun c_13 => ?_)
        · have hf := pO_neg c_13 hf
          refine E_iload dX12_trim_120 rfl ?_
          exact E_iret rfl dX12_trim_122 ⟨_, rfl, hf⟩
        · have hf := pO_pos c_13 hf
          refine E_iload_n dX12_trim_116 rfl ?_
          refine E_goto (tgt := 122) dX12_trim_117 (by decide) ?_
          exact E_iret rfl dX12_trim_122 ⟨_, rfl, hf⟩
      · have hf := pO_pos c_12 hf
        refine E_iload_n dX12_trim_107 rfl ?_
        refine E_goto (tgt := 122) dX12_trim_108 (by decide) ?_
        exact E_iret rfl dX12_trim_122 ⟨_, rfl, hf⟩
  · have hf := pO_pos c_2 hf
    refine E_ldc (v := (-2147483648)) dX12_trim_9 (by decide +kernel) ?_
    exact E_iret rfl dX12_trim_11 ⟨_, rfl, hf⟩
theorem mf_X12_off : pMF yX12_off wsX12_off cX12_off 3 (some .int) 1 := ⟨⟨_, rfl⟩, by decide +kernel, by decide, by decide +kernel, by decide +kernel, by decide +kernel⟩
def f_X12_off (S : PS) (v1 : Int32) : Option (Int32 × PS) :=
  pbnd (f_X12_in S v1 (-20) 20) (fun r1 S_1 => if r1 = (0 : Int32) then (some ((-2147483648), S_1)) else (pbnd (f_X12_restOf S_1 v1) (fun r3 S_3 => if r3 = ((-2) : Int32) then (some ((-2147483648), S_3)) else (pbnd (f_X12_offBy S_3 v1 r3) (fun r5 S_5 => some (r5, S_5))))))
set_option maxRecDepth 100000 in
theorem c_X12_off (l : Launch) (D : va_G) (dA : Nat → ClassId) (ad : Nat → Nat) (S : PS) (v1 : Int32) {P : (Int32 × PS) → Prop} (hf : pO (f_X12_off S v1) P) : CtI l D dA ad yX12_off wsX12_off 4 [.ref 0, .int v1] (hM S) (fun r h' => ∃ S' : PS, h' = hM S' ∧ P (r, S')) := by
  refine CtI_of mf_X12_off rfl rfl (Nat.le_of_ble_eq_true rfl) rfl (hM_len S) ?_
  unfold f_X12_off at hf
  refine E_iload_n dX12_off_0 rfl ?_
  refine E_bipush (v := (-20)) dX12_off_1 (by decide) ?_
  refine E_bipush (v := 20) dX12_off_3 (by decide) ?_
  refine E_callSI (st := []) (c_X12_in l D dA ad S v1 (-20) 20 (pO_bnd hf)) mf_X12_in rfl gX12_off_X12_in (by omega) rfl (Nat.le_of_ble_eq_true rfl) (by rfl) dX12_off_5 (fun r1 h1 q1 => ?_)
  obtain ⟨S_1, rfl, hf⟩ := q1
  dsimp only at hf
  refine E_if_ne (tgt := 14) dX12_off_8 (by decide) (fun c_2 => ?_) (fun c_2 => ?_)
  · have hf := pO_neg c_2 hf
    refine E_aload_n dX12_off_14 rfl ?_
    refine E_iload_n dX12_off_15 rfl ?_
    refine E_callVI (st := []) (c_X12_restOf l D dA ad S_1 v1 (pO_bnd hf)) mf_X12_restOf rfl rfl gX12_off_X12_restOf (pRc.of (ci := 12) rfl rfl) (by omega) rfl (Nat.le_of_ble_eq_true rfl) (by rfl) dX12_off_16 (fun r3 h3 q3 => ?_)
    obtain ⟨S_3, rfl, hf⟩ := q3
    dsimp only at hf
    refine E_istore_n (ls' := [(0, .ref 0), (1, .int v1), (2, .int r3)]) dX12_off_19 (by decide) rfl ?_
    refine E_iload_n dX12_off_20 rfl ?_
    refine E_bipush (v := (-2)) dX12_off_21 (by decide) ?_
    refine E_icmp_ne (tgt := 31) dX12_off_23 (by decide) (fun c_4 => ?_) (fun c_4 => ?_)
    · have hf := pO_neg c_4 hf
      refine E_aload_n dX12_off_31 rfl ?_
      refine E_iload_n dX12_off_32 rfl ?_
      refine E_iload_n dX12_off_33 rfl ?_
      refine E_callVI (st := []) (c_X12_offBy l D dA ad S_3 v1 r3 (pO_bnd hf)) mf_X12_offBy rfl rfl gX12_off_X12_offBy (pRc.of (ci := 12) rfl rfl) (by omega) rfl (Nat.le_of_ble_eq_true rfl) (by rfl) dX12_off_34 (fun r5 h5 q5 => ?_)
      obtain ⟨S_5, rfl, hf⟩ := q5
      dsimp only at hf
      exact E_iret rfl dX12_off_37 ⟨_, rfl, hf⟩
    · have hf := pO_pos c_4 hf
      refine E_ldc (v := (-2147483648)) dX12_off_26 (by decide +kernel) ?_
      refine E_goto (tgt := 37) dX12_off_28 (by decide) ?_
      exact E_iret rfl dX12_off_37 ⟨_, rfl, hf⟩
  · have hf := pO_pos c_2 hf
    refine E_ldc (v := (-2147483648)) dX12_off_11 (by decide +kernel) ?_
    exact E_iret rfl dX12_off_13 ⟨_, rfl, hf⟩
theorem hi_X12_heelBehind_12 : ∀ w ∈ u_ws RX12 TX12 32, w ∈ wsX12_heelBehind := fun w h => of_decide_eq_true (List.all_eq_true.mp (by decide +kernel : (u_ws RX12 TX12 32).all (fun w => decide (w ∈ wsX12_heelBehind)) = true) w h)
theorem fl_X12_heelBehind_98 : pFL wsX12_heelBehind RX12 98 12 6 := ⟨RX12, TX12, 32, hi_X12_heelBehind_12, rfl, by decide, by decide +kernel⟩
theorem fl_X12_heelBehind_40 : pFL wsX12_heelBehind RX12 40 12 11 := ⟨RX12, TX12, 32, hi_X12_heelBehind_12, rfl, by decide, by decide +kernel⟩
def g_X12_heelBehind_4 : Nat → PS → Int32 → Int32 → Int32 → Option ((Int32 × PS) ⊕ (PS × Int32))
  | 0, _, _, _, _ => none
  | fuel + 1, S, v1, v2, v3 =>
    if (S.1 4) ≤ v3 then (some (.inr (S, v2))) else (pbnd (f_X12_weighs S v3) (fun r2 S_2 => pgd (pin v3 16) (pbnd (f_X12_rolls S_2 v3 v1) (fun r4 S_4 => g_X12_heelBehind_4 fuel S_4 v1 (v2 + (r2 * (pmax (-20) (pmin 20 (((S_2.2 6) v3.toNatClampNeg) + r4))))) (v3 + 1)))))
set_option maxRecDepth 100000 in
theorem l_X12_heelBehind_4 (l : Launch) (D : va_G) (dA : Nat → ClassId) (ad : Nat → Nat) (d : Nat) (hd : 1 ≤ d) {Q : Int32 → List PC → Prop} : ∀ (fuel : Nat) (S : PS) (v1 : Int32) (v2 : Int32) (v3 : Int32), pO (g_X12_heelBehind_4 fuel S v1 v2 v3) (fun y => match y with
    | .inl x => Q x.1 (hM x.2)
    | .inr w => Ev l D dA ad wsX12_heelBehind cX12_heelBehind RX12 4 (some .int) d 38 (pKi D dA ad 38 Q) 50 [(0, .ref 0), (2, .int w.2)] [] (hM w.1)) → Ev l D dA ad wsX12_heelBehind cX12_heelBehind RX12 4 (some .int) d 38 (pKi D dA ad 38 Q) 4 [(0, .ref 0), (1, .int v1), (2, .int v2), (3, .int v3)] [] (hM S) := by
  intro fuel
  induction fuel with
  | zero =>
    intro S v1 v2 v3 hf
    exact hf.elim
  | succ fuel ih =>
    intro S v1 v2 v3 hf
    rw [g_X12_heelBehind_4] at hf
    refine E_iload_n dX12_heelBehind_4 rfl ?_
    refine E_aload_n dX12_heelBehind_5 rfl ?_
    refine E_getf (v := .int (S.1 4)) dX12_heelBehind_6 fl_X12_heelBehind_98 rfl rfl ?_
    refine E_icmp_ge (tgt := 50) dX12_heelBehind_9 (by decide) (fun c_1 => ?_) (fun c_1 => ?_)
    · have hf := pO_pos c_1 hf
      exact E_sub (ls' := [(0, .ref 0), (2, .int v2)]) ⟨rfl, rfl, trivial⟩ hf
    · have hf := pO_neg c_1 hf
      refine E_iload_n dX12_heelBehind_12 rfl ?_
      refine E_aload_n dX12_heelBehind_13 rfl ?_
      refine E_iload_n dX12_heelBehind_14 rfl ?_
      refine E_callVI (st := [.int v2]) (c_X12_weighs l D dA ad S v3 (pO_bnd hf)) mf_X12_weighs rfl rfl gX12_heelBehind_X12_weighs (pRc.of (ci := 12) rfl rfl) (by omega) rfl (Nat.le_of_ble_eq_true rfl) (by rfl) dX12_heelBehind_15 (fun r2 h2 q2 => ?_)
      obtain ⟨S_2, rfl, hf⟩ := q2
      dsimp only at hf
      refine E_bipush (v := (-20)) dX12_heelBehind_18 (by decide) ?_
      refine E_bipush (v := 20) dX12_heelBehind_20 (by decide) ?_
      refine E_aload_n dX12_heelBehind_22 rfl ?_
      refine E_getf (v := .ref 7) dX12_heelBehind_23 fl_X12_heelBehind_40 rfl rfl ?_
      refine E_iload_n dX12_heelBehind_26 rfl ?_
      obtain ⟨hi_3, hf⟩ := pO_gd hf
      refine E_iald (n0 := 16) (f := S_2.2 6) dX12_heelBehind_27 rfl (pin_in hi_3) ?_
      refine E_aload_n dX12_heelBehind_28 rfl ?_
      refine E_iload_n dX12_heelBehind_29 rfl ?_
      refine E_iload_n dX12_heelBehind_30 rfl ?_
      refine E_callVI (st := [.int ((S_2.2 6) v3.toNatClampNeg), .int 20, .int (-20), .int r2, .int v2]) (c_X12_rolls l D dA ad S_2 v3 v1 (pO_bnd hf)) mf_X12_rolls rfl rfl gX12_heelBehind_X12_rolls (pRc.of (ci := 12) rfl rfl) (by omega) rfl (Nat.le_of_ble_eq_true rfl) (by rfl) dX12_heelBehind_31 (fun r4 h4 q4 => ?_)
      obtain ⟨S_4, rfl, hf⟩ := q4
      dsimp only at hf
      refine E_iadd dX12_heelBehind_34 ?_
      refine E_mmin (by decide +kernel) (by decide +kernel) (by decide +kernel) (by decide +kernel) (by omega) (Nat.le_of_ble_eq_true rfl) (by rfl) dX12_heelBehind_35 ?_
      refine E_mmax (by decide +kernel) (by decide +kernel) (by decide +kernel) (by decide +kernel) (by omega) (Nat.le_of_ble_eq_true rfl) (by rfl) dX12_heelBehind_38 ?_
      refine E_imul dX12_heelBehind_41 ?_
      refine E_iadd dX12_heelBehind_42 ?_
      refine E_istore_n (ls' := [(0, .ref 0), (1, .int v1), (2, .int (v2 + (r2 * (pmax (-20) (pmin 20 (((S_2.2 6) v3.toNatClampNeg) + r4)))))), (3, .int v3)]) dX12_heelBehind_43 (by decide) rfl ?_
      refine E_iinc (v := v3 + 1) (ls' := [(0, .ref 0), (1, .int v1), (2, .int (v2 + (r2 * (pmax (-20) (pmin 20 (((S_2.2 6) v3.toNatClampNeg) + r4)))))), (3, .int (v3 + 1))]) dX12_heelBehind_44 rfl rfl (by decide) rfl ?_
      refine E_goto (tgt := 4) dX12_heelBehind_47 (by decide) ?_
      exact E_sub (ls' := [(0, .ref 0), (1, .int v1), (2, .int (v2 + (r2 * (pmax (-20) (pmin 20 (((S_2.2 6) v3.toNatClampNeg) + r4)))))), (3, .int (v3 + 1))]) ⟨rfl, rfl, rfl, rfl, trivial⟩ (ih S_4 v1 (v2 + (r2 * (pmax (-20) (pmin 20 (((S_2.2 6) v3.toNatClampNeg) + r4))))) (v3 + 1) hf)
theorem mf_X12_heelBehind : pMF yX12_heelBehind wsX12_heelBehind cX12_heelBehind 4 (some .int) 1 := ⟨⟨_, rfl⟩, by decide +kernel, by decide, by decide +kernel, by decide +kernel, by decide +kernel⟩
def f_X12_heelBehind (S : PS) (v1 : Int32) : Option (Int32 × PS) :=
  plp (g_X12_heelBehind_4 pfuel S v1 0 0) (fun w => (fun (S_5 : PS) (v2_5 : Int32) => pbnd (f_X12_righting S_5) (fun r6 S_6 => pgd (pnz r6) (some ((64 * v2_5) / r6, S_6)))) w.1 w.2)
set_option maxRecDepth 100000 in
theorem c_X12_heelBehind (l : Launch) (D : va_G) (dA : Nat → ClassId) (ad : Nat → Nat) (S : PS) (v1 : Int32) {P : (Int32 × PS) → Prop} (hf : pO (f_X12_heelBehind S v1) P) : CtI l D dA ad yX12_heelBehind wsX12_heelBehind 6 [.ref 0, .int v1] (hM S) (fun r h' => ∃ S' : PS, h' = hM S' ∧ P (r, S')) := by
  refine CtI_of mf_X12_heelBehind rfl rfl (Nat.le_of_ble_eq_true rfl) rfl (hM_len S) ?_
  unfold f_X12_heelBehind at hf
  refine E_iconst (v := 0) dX12_heelBehind_0 (by decide) ?_
  refine E_istore_n (ls' := [(0, .ref 0), (1, .int v1), (2, .int 0)]) dX12_heelBehind_1 (by decide) rfl ?_
  refine E_iconst (v := 0) dX12_heelBehind_2 (by decide) ?_
  refine E_istore_n (ls' := [(0, .ref 0), (1, .int v1), (2, .int 0), (3, .int 0)]) dX12_heelBehind_3 (by decide) rfl ?_
  refine E_sub (ls' := [(0, .ref 0), (1, .int v1), (2, .int 0), (3, .int 0)]) ⟨rfl, rfl, rfl, rfl, trivial⟩ ?_
  refine l_X12_heelBehind_4 l D dA ad _ (by omega) pfuel S v1 0 0 (pO_lp hf (fun x hx => ⟨x.2, rfl, hx⟩) (fun w5 hf => ?_))
  obtain ⟨S_5, v2_5⟩ := w5
  dsimp only at hf ⊢
  refine E_bipush (v := 64) dX12_heelBehind_50 (by decide) ?_
  refine E_iload_n dX12_heelBehind_52 rfl ?_
  refine E_imul dX12_heelBehind_53 ?_
  refine E_aload_n dX12_heelBehind_54 rfl ?_
  refine E_callVI (st := [.int (64 * v2_5)]) (c_X12_righting l D dA ad S_5 (pO_bnd hf)) mf_X12_righting rfl rfl gX12_heelBehind_X12_righting (pRc.of (ci := 12) rfl rfl) (by omega) rfl (Nat.le_of_ble_eq_true rfl) (by rfl) dX12_heelBehind_55 (fun r6 h6 q6 => ?_)
  obtain ⟨S_6, rfl, hf⟩ := q6
  dsimp only at hf
  obtain ⟨hz_7, hf⟩ := pO_gd hf
  refine E_idiv dX12_heelBehind_58 (pnz_n hz_7) ?_
  exact E_iret rfl dX12_heelBehind_59 ⟨_, rfl, hf⟩
def g_X12_heel_27 : Nat → PS → Int32 → Int32 → Int32 → Option ((Int32 × PS) ⊕ (PS × Int32))
  | 0, _, _, _, _ => none
  | fuel + 1, S, v1, v2, v3 =>
    if v1 ≤ v3 then (some (.inr (S, v2))) else (pbnd (f_X12_heelBehind S v2) (fun r7 S_7 => g_X12_heel_27 fuel S_7 v1 r7 (v3 + 1)))
set_option maxRecDepth 100000 in
theorem l_X12_heel_27 (l : Launch) (D : va_G) (dA : Nat → ClassId) (ad : Nat → Nat) (d : Nat) (hd : 7 ≤ d) {Q : Int32 → List PC → Prop} : ∀ (fuel : Nat) (S : PS) (v1 : Int32) (v2 : Int32) (v3 : Int32), pO (g_X12_heel_27 fuel S v1 v2 v3) (fun y => match y with
    | .inl x => Q x.1 (hM x.2)
    | .inr w => Ev l D dA ad wsX12_heel cX12_heel RX12 4 (some .int) d 38 (pKi D dA ad 38 Q) 44 [(2, .int w.2)] [] (hM w.1)) → Ev l D dA ad wsX12_heel cX12_heel RX12 4 (some .int) d 38 (pKi D dA ad 38 Q) 27 [(0, .ref 0), (1, .int v1), (2, .int v2), (3, .int v3)] [] (hM S) := by
  intro fuel
  induction fuel with
  | zero =>
    intro S v1 v2 v3 hf
    exact hf.elim
  | succ fuel ih =>
    intro S v1 v2 v3 hf
    rw [g_X12_heel_27] at hf
    refine E_iload_n dX12_heel_27 rfl ?_
    refine E_iload_n dX12_heel_28 rfl ?_
    refine E_icmp_ge (tgt := 44) dX12_heel_29 (by decide) (fun c_6 => ?_) (fun c_6 => ?_)
    · have hf := pO_pos c_6 hf
      exact E_sub (ls' := [(2, .int v2)]) ⟨rfl, trivial⟩ hf
    · have hf := pO_neg c_6 hf
      refine E_aload_n dX12_heel_32 rfl ?_
      refine E_iload_n dX12_heel_33 rfl ?_
      refine E_callVI (st := []) (c_X12_heelBehind l D dA ad S v2 (pO_bnd hf)) mf_X12_heelBehind rfl rfl gX12_heel_X12_heelBehind (pRc.of (ci := 12) rfl rfl) (by omega) rfl (Nat.le_of_ble_eq_true rfl) (by rfl) dX12_heel_34 (fun r7 h7 q7 => ?_)
      obtain ⟨S_7, rfl, hf⟩ := q7
      dsimp only at hf
      refine E_istore_n (ls' := [(0, .ref 0), (1, .int v1), (2, .int r7), (3, .int v3)]) dX12_heel_37 (by decide) rfl ?_
      refine E_iinc (v := v3 + 1) (ls' := [(0, .ref 0), (1, .int v1), (2, .int r7), (3, .int (v3 + 1))]) dX12_heel_38 rfl rfl (by decide) rfl ?_
      refine E_goto (tgt := 27) dX12_heel_41 (by decide) ?_
      exact E_sub (ls' := [(0, .ref 0), (1, .int v1), (2, .int r7), (3, .int (v3 + 1))]) ⟨rfl, rfl, rfl, rfl, trivial⟩ (ih S_7 v1 r7 (v3 + 1) hf)
theorem mf_X12_heel : pMF yX12_heel wsX12_heel cX12_heel 4 (some .int) 1 := ⟨⟨_, rfl⟩, by decide +kernel, by decide, by decide +kernel, by decide +kernel, by decide +kernel⟩
def f_X12_heel (S : PS) (v1 : Int32) : Option (Int32 × PS) :=
  pbnd (f_X12_in S v1 0 20) (fun r1 S_1 => if r1 = (0 : Int32) then (some ((-2147483648), S_1)) else (pbnd (f_X12_isUpright S_1) (fun r3 S_3 => if r3 = (0 : Int32) then (some ((-2147483648), S_3)) else (pbnd (f_X12_heelNow S_3) (fun r5 S_5 => plp (g_X12_heel_27 pfuel S_5 v1 r5 0) (fun w => (fun (S_8 : PS) (v2_8 : Int32) => some (v2_8, S_8)) w.1 w.2))))))
set_option maxRecDepth 100000 in
theorem c_X12_heel (l : Launch) (D : va_G) (dA : Nat → ClassId) (ad : Nat → Nat) (S : PS) (v1 : Int32) {P : (Int32 × PS) → Prop} (hf : pO (f_X12_heel S v1) P) : CtI l D dA ad yX12_heel wsX12_heel 7 [.ref 0, .int v1] (hM S) (fun r h' => ∃ S' : PS, h' = hM S' ∧ P (r, S')) := by
  refine CtI_of mf_X12_heel rfl rfl (Nat.le_of_ble_eq_true rfl) rfl (hM_len S) ?_
  unfold f_X12_heel at hf
  refine E_iload_n dX12_heel_0 rfl ?_
  refine E_iconst (v := 0) dX12_heel_1 (by decide) ?_
  refine E_bipush (v := 20) dX12_heel_2 (by decide) ?_
  refine E_callSI (st := []) (c_X12_in l D dA ad S v1 0 20 (pO_bnd hf)) mf_X12_in rfl gX12_heel_X12_in (by omega) rfl (Nat.le_of_ble_eq_true rfl) (by rfl) dX12_heel_4 (fun r1 h1 q1 => ?_)
  obtain ⟨S_1, rfl, hf⟩ := q1
  dsimp only at hf
  refine E_if_eq (tgt := 17) dX12_heel_7 (by decide) (fun c_2 => ?_) (fun c_2 => ?_)
  · have hf := pO_pos c_2 hf
    refine E_ldc (v := (-2147483648)) dX12_heel_17 (by decide +kernel) ?_
    exact E_iret rfl dX12_heel_19 ⟨_, rfl, hf⟩
  · have hf := pO_neg c_2 hf
    refine E_aload_n dX12_heel_10 rfl ?_
    refine E_callVI (st := []) (c_X12_isUpright l D dA ad S_1 (pO_bnd hf)) mf_X12_isUpright rfl rfl gX12_heel_X12_isUpright (pRc.of (ci := 12) rfl rfl) (by omega) rfl (Nat.le_of_ble_eq_true rfl) (by rfl) dX12_heel_11 (fun r3 h3 q3 => ?_)
    obtain ⟨S_3, rfl, hf⟩ := q3
    dsimp only at hf
    refine E_if_ne (tgt := 20) dX12_heel_14 (by decide) (fun c_4 => ?_) (fun c_4 => ?_)
    · have hf := pO_neg c_4 hf
      refine E_aload_n dX12_heel_20 rfl ?_
      refine E_callVI (st := []) (c_X12_heelNow l D dA ad S_3 (pO_bnd hf)) mf_X12_heelNow rfl rfl gX12_heel_X12_heelNow (pRc.of (ci := 12) rfl rfl) (by omega) rfl (Nat.le_of_ble_eq_true rfl) (by rfl) dX12_heel_21 (fun r5 h5 q5 => ?_)
      obtain ⟨S_5, rfl, hf⟩ := q5
      dsimp only at hf
      refine E_istore_n (ls' := [(0, .ref 0), (1, .int v1), (2, .int r5)]) dX12_heel_24 (by decide) rfl ?_
      refine E_iconst (v := 0) dX12_heel_25 (by decide) ?_
      refine E_istore_n (ls' := [(0, .ref 0), (1, .int v1), (2, .int r5), (3, .int 0)]) dX12_heel_26 (by decide) rfl ?_
      refine E_sub (ls' := [(0, .ref 0), (1, .int v1), (2, .int r5), (3, .int 0)]) ⟨rfl, rfl, rfl, rfl, trivial⟩ ?_
      refine l_X12_heel_27 l D dA ad _ (by omega) pfuel S_5 v1 r5 0 (pO_lp hf (fun x hx => ⟨x.2, rfl, hx⟩) (fun w8 hf => ?_))
      obtain ⟨S_8, v2_8⟩ := w8
      dsimp only at hf ⊢
      refine E_iload_n dX12_heel_44 rfl ?_
      exact E_iret rfl dX12_heel_45 ⟨_, rfl, hf⟩
    · have hf := pO_pos c_4 hf
      refine E_ldc (v := (-2147483648)) dX12_heel_17 (by decide +kernel) ?_
      exact E_iret rfl dX12_heel_19 ⟨_, rfl, hf⟩
def g_X12_steady_17 : Nat → PS → Int32 → Int32 → Option ((Int32 × PS) ⊕ (PS))
  | 0, _, _, _ => none
  | fuel + 1, S, v1, v2 =>
    if (20 : Int32) < v2 then (some (.inr (S))) else (pbnd (f_X12_heelBehind S v1) (fun r5 S_5 => if r5 = v1 then (some (.inl (v2, S_5))) else (g_X12_steady_17 fuel S_5 r5 (v2 + 1))))
set_option maxRecDepth 100000 in
theorem l_X12_steady_17 (l : Launch) (D : va_G) (dA : Nat → ClassId) (ad : Nat → Nat) (d : Nat) (hd : 7 ≤ d) {Q : Int32 → List PC → Prop} : ∀ (fuel : Nat) (S : PS) (v1 : Int32) (v2 : Int32), pO (g_X12_steady_17 fuel S v1 v2) (fun y => match y with
    | .inl x => Q x.1 (hM x.2)
    | .inr w => Ev l D dA ad wsX12_steady cX12_steady RX12 4 (some .int) d 38 (pKi D dA ad 38 Q) 44 [] [] (hM w)) → Ev l D dA ad wsX12_steady cX12_steady RX12 4 (some .int) d 38 (pKi D dA ad 38 Q) 17 [(0, .ref 0), (1, .int v1), (2, .int v2)] [] (hM S) := by
  intro fuel
  induction fuel with
  | zero =>
    intro S v1 v2 hf
    exact hf.elim
  | succ fuel ih =>
    intro S v1 v2 hf
    rw [g_X12_steady_17] at hf
    refine E_iload_n dX12_steady_17 rfl ?_
    refine E_bipush (v := 20) dX12_steady_18 (by decide) ?_
    refine E_icmp_gt (tgt := 44) dX12_steady_20 (by decide) (fun c_4 => ?_) (fun c_4 => ?_)
    · have hf := pO_pos c_4 hf
      exact E_sub (ls' := []) trivial hf
    · have hf := pO_neg c_4 hf
      refine E_aload_n dX12_steady_23 rfl ?_
      refine E_iload_n dX12_steady_24 rfl ?_
      refine E_callVI (st := []) (c_X12_heelBehind l D dA ad S v1 (pO_bnd hf)) mf_X12_heelBehind rfl rfl gX12_steady_X12_heelBehind (pRc.of (ci := 12) rfl rfl) (by omega) rfl (Nat.le_of_ble_eq_true rfl) (by rfl) dX12_steady_25 (fun r5 h5 q5 => ?_)
      obtain ⟨S_5, rfl, hf⟩ := q5
      dsimp only at hf
      refine E_istore_n (ls' := [(0, .ref 0), (1, .int v1), (2, .int v2), (3, .int r5)]) dX12_steady_28 (by decide) rfl ?_
      refine E_iload_n dX12_steady_29 rfl ?_
      refine E_iload_n dX12_steady_30 rfl ?_
      refine E_icmp_ne (tgt := 36) dX12_steady_31 (by decide) (fun c_6 => ?_) (fun c_6 => ?_)
      · have hf := pO_neg c_6 hf
        refine E_iload_n dX12_steady_36 rfl ?_
        refine E_istore_n (ls' := [(0, .ref 0), (1, .int r5), (2, .int v2), (3, .int r5)]) dX12_steady_37 (by decide) rfl ?_
        refine E_iinc (v := v2 + 1) (ls' := [(0, .ref 0), (1, .int r5), (2, .int (v2 + 1)), (3, .int r5)]) dX12_steady_38 rfl rfl (by decide) rfl ?_
        refine E_goto (tgt := 17) dX12_steady_41 (by decide) ?_
        exact E_sub (ls' := [(0, .ref 0), (1, .int r5), (2, .int (v2 + 1))]) ⟨rfl, rfl, rfl, trivial⟩ (ih S_5 r5 (v2 + 1) hf)
      · have hf := pO_pos c_6 hf
        refine E_iload_n dX12_steady_34 rfl ?_
        exact E_iret rfl dX12_steady_35 hf
theorem mf_X12_steady : pMF yX12_steady wsX12_steady cX12_steady 4 (some .int) 0 := ⟨⟨_, rfl⟩, by decide +kernel, by decide, by decide +kernel, by decide +kernel, by decide +kernel⟩
def f_X12_steady (S : PS) : Option (Int32 × PS) :=
  pbnd (f_X12_isUpright S) (fun r1 S_1 => if r1 = (0 : Int32) then (some ((-2), S_1)) else (pbnd (f_X12_heelNow S_1) (fun r3 S_3 => plp (g_X12_steady_17 pfuel S_3 r3 0) (fun (S_7 : PS) => some ((-2), S_7)))))
set_option maxRecDepth 100000 in
theorem c_X12_steady (l : Launch) (D : va_G) (dA : Nat → ClassId) (ad : Nat → Nat) (S : PS) {P : (Int32 × PS) → Prop} (hf : pO (f_X12_steady S) P) : CtI l D dA ad yX12_steady wsX12_steady 7 [.ref 0] (hM S) (fun r h' => ∃ S' : PS, h' = hM S' ∧ P (r, S')) := by
  refine CtI_of mf_X12_steady rfl rfl (Nat.le_of_ble_eq_true rfl) rfl (hM_len S) ?_
  unfold f_X12_steady at hf
  refine E_aload_n dX12_steady_0 rfl ?_
  refine E_callVI (st := []) (c_X12_isUpright l D dA ad S (pO_bnd hf)) mf_X12_isUpright rfl rfl gX12_steady_X12_isUpright (pRc.of (ci := 12) rfl rfl) (by omega) rfl (Nat.le_of_ble_eq_true rfl) (by rfl) dX12_steady_1 (fun r1 h1 q1 => ?_)
  obtain ⟨S_1, rfl, hf⟩ := q1
  dsimp only at hf
  refine E_if_ne (tgt := 10) dX12_steady_4 (by decide) (fun c_2 => ?_) (fun c_2 => ?_)
  · have hf := pO_neg c_2 hf
    refine E_aload_n dX12_steady_10 rfl ?_
    refine E_callVI (st := []) (c_X12_heelNow l D dA ad S_1 (pO_bnd hf)) mf_X12_heelNow rfl rfl gX12_steady_X12_heelNow (pRc.of (ci := 12) rfl rfl) (by omega) rfl (Nat.le_of_ble_eq_true rfl) (by rfl) dX12_steady_11 (fun r3 h3 q3 => ?_)
    obtain ⟨S_3, rfl, hf⟩ := q3
    dsimp only at hf
    refine E_istore_n (ls' := [(0, .ref 0), (1, .int r3)]) dX12_steady_14 (by decide) rfl ?_
    refine E_iconst (v := 0) dX12_steady_15 (by decide) ?_
    refine E_istore_n (ls' := [(0, .ref 0), (1, .int r3), (2, .int 0)]) dX12_steady_16 (by decide) rfl ?_
    refine E_sub (ls' := [(0, .ref 0), (1, .int r3), (2, .int 0)]) ⟨rfl, rfl, rfl, trivial⟩ ?_
    refine l_X12_steady_17 l D dA ad _ (by omega) pfuel S_3 r3 0 (pO_lp hf (fun x hx => ⟨x.2, rfl, hx⟩) (fun w7 hf => ?_))
    obtain ⟨S_7, rfl⟩ : ∃ z, z = w7 := ⟨_, rfl⟩
    dsimp only at hf ⊢
    refine E_bipush (v := (-2)) dX12_steady_44 (by decide) ?_
    exact E_iret rfl dX12_steady_46 ⟨_, rfl, hf⟩
  · have hf := pO_pos c_2 hf
    refine E_bipush (v := (-2)) dX12_steady_7 (by decide) ?_
    exact E_iret rfl dX12_steady_9 ⟨_, rfl, hf⟩
theorem mf_X12_grounded : pMF yX12_grounded wsX12_grounded cX12_grounded 3 (some .int) 1 := ⟨⟨_, rfl⟩, by decide +kernel, by decide, by decide +kernel, by decide +kernel, by decide +kernel⟩
def f_X12_grounded (S : PS) (v1 : Int32) : Option (Int32 × PS) :=
  pbnd (f_X12_in S v1 0 9999) (fun r1 S_1 => if r1 = (0 : Int32) then (some ((-1), S_1)) else (pbnd (f_X12_line S_1) (fun r3 S_3 => if r3 = ((-2) : Int32) then (some ((-5), S_3)) else (pbnd (f_X12_leastRise S_3) (fun r5 S_5 => if (r3 - (64 * r5)) ≤ v1 then (some (0, S_5)) else (some (1, S_5)))))))
set_option maxRecDepth 100000 in
theorem c_X12_grounded (l : Launch) (D : va_G) (dA : Nat → ClassId) (ad : Nat → Nat) (S : PS) (v1 : Int32) {P : (Int32 × PS) → Prop} (hf : pO (f_X12_grounded S v1) P) : CtI l D dA ad yX12_grounded wsX12_grounded 5 [.ref 0, .int v1] (hM S) (fun r h' => ∃ S' : PS, h' = hM S' ∧ P (r, S')) := by
  refine CtI_of mf_X12_grounded rfl rfl (Nat.le_of_ble_eq_true rfl) rfl (hM_len S) ?_
  unfold f_X12_grounded at hf
  refine E_iload_n dX12_grounded_0 rfl ?_
  refine E_iconst (v := 0) dX12_grounded_1 (by decide) ?_
  refine E_sipush (v := 9999) dX12_grounded_2 (by decide) ?_
  refine E_callSI (st := []) (c_X12_in l D dA ad S v1 0 9999 (pO_bnd hf)) mf_X12_in rfl gX12_grounded_X12_in (by omega) rfl (Nat.le_of_ble_eq_true rfl) (by rfl) dX12_grounded_5 (fun r1 h1 q1 => ?_)
  obtain ⟨S_1, rfl, hf⟩ := q1
  dsimp only at hf
  refine E_if_ne (tgt := 13) dX12_grounded_8 (by decide) (fun c_2 => ?_) (fun c_2 => ?_)
  · have hf := pO_neg c_2 hf
    refine E_aload_n dX12_grounded_13 rfl ?_
    refine E_callVI (st := []) (c_X12_line l D dA ad S_1 (pO_bnd hf)) mf_X12_line rfl rfl gX12_grounded_X12_line (pRc.of (ci := 12) rfl rfl) (by omega) rfl (Nat.le_of_ble_eq_true rfl) (by rfl) dX12_grounded_14 (fun r3 h3 q3 => ?_)
    obtain ⟨S_3, rfl, hf⟩ := q3
    dsimp only at hf
    refine E_istore_n (ls' := [(0, .ref 0), (1, .int v1), (2, .int r3)]) dX12_grounded_17 (by decide) rfl ?_
    refine E_iload_n dX12_grounded_18 rfl ?_
    refine E_bipush (v := (-2)) dX12_grounded_19 (by decide) ?_
    refine E_icmp_ne (tgt := 27) dX12_grounded_21 (by decide) (fun c_4 => ?_) (fun c_4 => ?_)
    · have hf := pO_neg c_4 hf
      refine E_iload_n dX12_grounded_27 rfl ?_
      refine E_bipush (v := 64) dX12_grounded_28 (by decide) ?_
      refine E_aload_n dX12_grounded_30 rfl ?_
      refine E_callVI (st := [.int 64, .int r3]) (c_X12_leastRise l D dA ad S_3 (pO_bnd hf)) mf_X12_leastRise rfl rfl gX12_grounded_X12_leastRise (pRc.of (ci := 12) rfl rfl) (by omega) rfl (Nat.le_of_ble_eq_true rfl) (by rfl) dX12_grounded_31 (fun r5 h5 q5 => ?_)
      obtain ⟨S_5, rfl, hf⟩ := q5
      dsimp only at hf
      refine E_imul dX12_grounded_34 ?_
      refine E_isub dX12_grounded_35 ?_
      refine E_iload_n dX12_grounded_36 rfl ?_
      refine E_icmp_le (tgt := 44) dX12_grounded_37 (by decide) (fun c_6 => ?_) (fun c_6 => ?_)
      · have hf := pO_pos c_6 hf
        refine E_iconst (v := 0) dX12_grounded_44 (by decide) ?_
        exact E_iret rfl dX12_grounded_45 ⟨_, rfl, hf⟩
      · have hf := pO_neg c_6 hf
        refine E_iconst (v := 1) dX12_grounded_40 (by decide) ?_
        refine E_goto (tgt := 45) dX12_grounded_41 (by decide) ?_
        exact E_iret rfl dX12_grounded_45 ⟨_, rfl, hf⟩
    · have hf := pO_pos c_4 hf
      refine E_bipush (v := (-5)) dX12_grounded_24 (by decide) ?_
      exact E_iret rfl dX12_grounded_26 ⟨_, rfl, hf⟩
  · have hf := pO_pos c_2 hf
    refine E_iconst (v := (-1)) dX12_grounded_11 (by decide) ?_
    exact E_iret rfl dX12_grounded_12 ⟨_, rfl, hf⟩
theorem mf_X12_lighten : pMF yX12_lighten wsX12_lighten cX12_lighten 2 (some .int) 1 := ⟨⟨_, rfl⟩, by decide +kernel, by decide, by decide +kernel, by decide +kernel, by decide +kernel⟩
def f_X12_lighten (S : PS) (v1 : Int32) : Option (Int32 × PS) :=
  pbnd (f_X12_in S v1 0 9999) (fun r1 S_1 => if r1 = (0 : Int32) then (some ((-1), S_1)) else (pbnd (f_X12_allWeight S_1) (fun r3 S_3 => pbnd (f_X12_leastRise S_3) (fun r4 S_4 => pbnd (f_X12_waterOfAll S_4 ((64 * r4) + v1)) (fun r5 S_5 => some (pmax 0 (r3 - (r5 / 64)), S_5))))))
set_option maxRecDepth 100000 in
theorem c_X12_lighten (l : Launch) (D : va_G) (dA : Nat → ClassId) (ad : Nat → Nat) (S : PS) (v1 : Int32) {P : (Int32 × PS) → Prop} (hf : pO (f_X12_lighten S v1) P) : CtI l D dA ad yX12_lighten wsX12_lighten 3 [.ref 0, .int v1] (hM S) (fun r h' => ∃ S' : PS, h' = hM S' ∧ P (r, S')) := by
  refine CtI_of mf_X12_lighten rfl rfl (Nat.le_of_ble_eq_true rfl) rfl (hM_len S) ?_
  unfold f_X12_lighten at hf
  refine E_iload_n dX12_lighten_0 rfl ?_
  refine E_iconst (v := 0) dX12_lighten_1 (by decide) ?_
  refine E_sipush (v := 9999) dX12_lighten_2 (by decide) ?_
  refine E_callSI (st := []) (c_X12_in l D dA ad S v1 0 9999 (pO_bnd hf)) mf_X12_in rfl gX12_lighten_X12_in (by omega) rfl (Nat.le_of_ble_eq_true rfl) (by rfl) dX12_lighten_5 (fun r1 h1 q1 => ?_)
  obtain ⟨S_1, rfl, hf⟩ := q1
  dsimp only at hf
  refine E_if_ne (tgt := 13) dX12_lighten_8 (by decide) (fun c_2 => ?_) (fun c_2 => ?_)
  · have hf := pO_neg c_2 hf
    refine E_iconst (v := 0) dX12_lighten_13 (by decide) ?_
    refine E_aload_n dX12_lighten_14 rfl ?_
    refine E_callVI (st := [.int 0]) (c_X12_allWeight l D dA ad S_1 (pO_bnd hf)) mf_X12_allWeight rfl rfl gX12_lighten_X12_allWeight (pRc.of (ci := 12) rfl rfl) (by omega) rfl (Nat.le_of_ble_eq_true rfl) (by rfl) dX12_lighten_15 (fun r3 h3 q3 => ?_)
    obtain ⟨S_3, rfl, hf⟩ := q3
    dsimp only at hf
    refine E_aload_n dX12_lighten_18 rfl ?_
    refine E_bipush (v := 64) dX12_lighten_19 (by decide) ?_
    refine E_aload_n dX12_lighten_21 rfl ?_
    refine E_callVI (st := [.int 64, .ref 0, .int r3, .int 0]) (c_X12_leastRise l D dA ad S_3 (pO_bnd hf)) mf_X12_leastRise rfl rfl gX12_lighten_X12_leastRise (pRc.of (ci := 12) rfl rfl) (by omega) rfl (Nat.le_of_ble_eq_true rfl) (by rfl) dX12_lighten_22 (fun r4 h4 q4 => ?_)
    obtain ⟨S_4, rfl, hf⟩ := q4
    dsimp only at hf
    refine E_imul dX12_lighten_25 ?_
    refine E_iload_n dX12_lighten_26 rfl ?_
    refine E_iadd dX12_lighten_27 ?_
    refine E_callVI (st := [.int r3, .int 0]) (c_X12_waterOfAll l D dA ad S_4 ((64 * r4) + v1) (pO_bnd hf)) mf_X12_waterOfAll rfl rfl gX12_lighten_X12_waterOfAll (pRc.of (ci := 12) rfl rfl) (by omega) rfl (Nat.le_of_ble_eq_true rfl) (by rfl) dX12_lighten_28 (fun r5 h5 q5 => ?_)
    obtain ⟨S_5, rfl, hf⟩ := q5
    dsimp only at hf
    refine E_bipush (v := 64) dX12_lighten_31 (by decide) ?_
    refine E_idiv dX12_lighten_33 (by decide) ?_
    refine E_isub dX12_lighten_34 ?_
    refine E_mmax (by decide +kernel) (by decide +kernel) (by decide +kernel) (by decide +kernel) (by omega) (Nat.le_of_ble_eq_true rfl) (by rfl) dX12_lighten_35 ?_
    exact E_iret rfl dX12_lighten_38 ⟨_, rfl, hf⟩
  · have hf := pO_pos c_2 hf
    refine E_iconst (v := (-1)) dX12_lighten_11 (by decide) ?_
    exact E_iret rfl dX12_lighten_12 ⟨_, rfl, hf⟩
theorem hi_X12_more_12 : ∀ w ∈ u_ws RX12 TX12 32, w ∈ wsX12_more := fun w h => of_decide_eq_true (List.all_eq_true.mp (by decide +kernel : (u_ws RX12 TX12 32).all (fun w => decide (w ∈ wsX12_more)) = true) w h)
theorem fl_X12_more_15 : pFL wsX12_more RX12 15 12 1 := ⟨RX12, TX12, 32, hi_X12_more_12, rfl, by decide, by decide +kernel⟩
theorem mf_X12_more : pMF yX12_more wsX12_more cX12_more 2 (some .int) 1 := ⟨⟨_, rfl⟩, by decide +kernel, by decide, by decide +kernel, by decide +kernel, by decide +kernel⟩
def f_X12_more (S : PS) (v1 : Int32) : Option (Int32 × PS) :=
  pbnd (f_X12_in S v1 0 (64 * (S.1 1))) (fun r1 S_1 => if r1 = (0 : Int32) then (some ((-2147483648), S_1)) else (pbnd (f_X12_waterOfAll S_1 v1) (fun r3 S_3 => pbnd (f_X12_allWeight S_3) (fun r4 S_4 => some ((r3 / 64) - r4, S_4)))))
set_option maxRecDepth 100000 in
theorem c_X12_more (l : Launch) (D : va_G) (dA : Nat → ClassId) (ad : Nat → Nat) (S : PS) (v1 : Int32) {P : (Int32 × PS) → Prop} (hf : pO (f_X12_more S v1) P) : CtI l D dA ad yX12_more wsX12_more 3 [.ref 0, .int v1] (hM S) (fun r h' => ∃ S' : PS, h' = hM S' ∧ P (r, S')) := by
  refine CtI_of mf_X12_more rfl rfl (Nat.le_of_ble_eq_true rfl) rfl (hM_len S) ?_
  unfold f_X12_more at hf
  refine E_iload_n dX12_more_0 rfl ?_
  refine E_iconst (v := 0) dX12_more_1 (by decide) ?_
  refine E_bipush (v := 64) dX12_more_2 (by decide) ?_
  refine E_aload_n dX12_more_4 rfl ?_
  refine E_getf (v := .int (S.1 1)) dX12_more_5 fl_X12_more_15 rfl rfl ?_
  refine E_imul dX12_more_8 ?_
  refine E_callSI (st := []) (c_X12_in l D dA ad S v1 0 (64 * (S.1 1)) (pO_bnd hf)) mf_X12_in rfl gX12_more_X12_in (by omega) rfl (Nat.le_of_ble_eq_true rfl) (by rfl) dX12_more_9 (fun r1 h1 q1 => ?_)
  obtain ⟨S_1, rfl, hf⟩ := q1
  dsimp only at hf
  refine E_if_ne (tgt := 18) dX12_more_12 (by decide) (fun c_2 => ?_) (fun c_2 => ?_)
  · have hf := pO_neg c_2 hf
    refine E_aload_n dX12_more_18 rfl ?_
    refine E_iload_n dX12_more_19 rfl ?_
    refine E_callVI (st := []) (c_X12_waterOfAll l D dA ad S_1 v1 (pO_bnd hf)) mf_X12_waterOfAll rfl rfl gX12_more_X12_waterOfAll (pRc.of (ci := 12) rfl rfl) (by omega) rfl (Nat.le_of_ble_eq_true rfl) (by rfl) dX12_more_20 (fun r3 h3 q3 => ?_)
    obtain ⟨S_3, rfl, hf⟩ := q3
    dsimp only at hf
    refine E_bipush (v := 64) dX12_more_23 (by decide) ?_
    refine E_idiv dX12_more_25 (by decide) ?_
    refine E_aload_n dX12_more_26 rfl ?_
    refine E_callVI (st := [.int (r3 / 64)]) (c_X12_allWeight l D dA ad S_3 (pO_bnd hf)) mf_X12_allWeight rfl rfl gX12_more_X12_allWeight (pRc.of (ci := 12) rfl rfl) (by omega) rfl (Nat.le_of_ble_eq_true rfl) (by rfl) dX12_more_27 (fun r4 h4 q4 => ?_)
    obtain ⟨S_4, rfl, hf⟩ := q4
    dsimp only at hf
    refine E_isub dX12_more_30 ?_
    exact E_iret rfl dX12_more_31 ⟨_, rfl, hf⟩
  · have hf := pO_pos c_2 hf
    refine E_ldc (v := (-2147483648)) dX12_more_15 (by decide +kernel) ?_
    exact E_iret rfl dX12_more_17 ⟨_, rfl, hf⟩
