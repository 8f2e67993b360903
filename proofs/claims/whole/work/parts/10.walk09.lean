theorem fl_X12_layReport_40 : pFL wsX12_layReport RX12 40 12 11 := ⟨RX12, TX12, 32, hi_X12_layReport_12, rfl, by decide, by decide +kernel⟩
def g_X12_layReport_7 : Nat → PS → Int32 → Option ((Int32 × PS) ⊕ (PS))
  | 0, _, _ => none
  | fuel + 1, S, v1 =>
    if (S.1 4) ≤ v1 then (some (.inr (S))) else (pgd (pin v1 16) (pbnd (f_X12_saysName 8 S ((S.2 2) v1.toNatClampNeg)) (fun _ S_3 => pgd (pin v1 16) (pgd (pin ((S_3.2 3) v1.toNatClampNeg) (pLen.getD 10 0)) (pbnd (f_X12_says S_3 (pch 10 ((S_3.2 3) v1.toNatClampNeg).toNatClampNeg)) (fun _ S_7 => pgd (pin v1 16) (pbnd (f_X12_saysNumber 8 S_7 ((S_7.2 4) v1.toNatClampNeg)) (fun _ S_9 => pbnd (f_X12_says S_9 64) (fun _ S_10 => pgd (pin v1 16) (pbnd (f_X12_saysNumber 8 S_10 ((S_10.2 5) v1.toNatClampNeg)) (fun _ S_12 => pgd (pin v1 16) (if ((S_12.2 6) v1.toNatClampNeg) = (0 : Int32) then (pbnd (f_X12_says S_12 59) (fun _ S_15 => g_X12_layReport_7 fuel S_15 (v1 + 1))) else (pgd (pin v1 16) (if (0 : Int32) ≤ ((S_12.2 6) v1.toNatClampNeg) then (pbnd (f_X12_says S_12 114) (fun _ S_18 => pgd (pin v1 16) (pbnd (f_X12_saysNumber 8 S_18 (pabs ((S_18.2 6) v1.toNatClampNeg))) (fun _ S_20 => pbnd (f_X12_says S_20 59) (fun _ S_21 => g_X12_layReport_7 fuel S_21 (v1 + 1)))))) else (pbnd (f_X12_says S_12 108) (fun _ S_22 => pgd (pin v1 16) (pbnd (f_X12_saysNumber 8 S_22 (pabs ((S_22.2 6) v1.toNatClampNeg))) (fun _ S_24 => pbnd (f_X12_says S_24 59) (fun _ S_25 => g_X12_layReport_7 fuel S_25 (v1 + 1))))))))))))))))))))
set_option maxRecDepth 100000 in
theorem l_X12_layReport_7 (l : Launch) (D : va_G) (dA : Nat → ClassId) (ad : Nat → Nat) (d : Nat) (hd : 10 ≤ d) {Q : List PC → Prop} : ∀ (fuel : Nat) (S : PS) (v1 : Int32), pO (g_X12_layReport_7 fuel S v1) (fun y => match y with
    | .inl x => Q (hM x.2)
    | .inr w => Ev l D dA ad wsX12_layReport cX12_layReport RX12 2 none d 38 (pKv D dA ad 38 Q) 120 [] [] (hM w)) → Ev l D dA ad wsX12_layReport cX12_layReport RX12 2 none d 38 (pKv D dA ad 38 Q) 7 [(0, .ref 0), (1, .int v1)] [] (hM S) := by
  intro fuel
  induction fuel with
  | zero =>
    intro S v1 hf
    exact hf.elim
  | succ fuel ih =>
    intro S v1 hf
    rw [g_X12_layReport_7] at hf
    refine E_iload_n dX12_layReport_7 rfl ?_
    refine E_aload_n dX12_layReport_8 rfl ?_
    refine E_getf (v := .int (S.1 4)) dX12_layReport_9 fl_X12_layReport_98 rfl rfl ?_
    refine E_icmp_ge (tgt := 120) dX12_layReport_12 (by decide) (fun c_1 => ?_) (fun c_1 => ?_)
    · have hf := pO_pos c_1 hf
      exact E_sub (ls' := []) trivial hf
    · have hf := pO_neg c_1 hf
      refine E_aload_n dX12_layReport_15 rfl ?_
      refine E_aload_n dX12_layReport_16 rfl ?_
      refine E_getf (v := .ref 3) dX12_layReport_17 fl_X12_layReport_28 rfl rfl ?_
      refine E_iload_n dX12_layReport_20 rfl ?_
      obtain ⟨hi_2, hf⟩ := pO_gd hf
      refine E_iald (n0 := 16) (f := S.2 2) dX12_layReport_21 rfl (pin_in hi_2) ?_
      refine E_callVV (st := []) (c_X12_saysName l D dA ad 8 S ((S.2 2) v1.toNatClampNeg) (pO_bnd hf)) mf_X12_saysName rfl rfl gX12_layReport_X12_saysName (pRc.of (ci := 12) rfl rfl) (by omega) rfl (Nat.le_of_ble_eq_true rfl) (by rfl) dX12_layReport_22 (fun h3 q3 => ?_)
      obtain ⟨r3, S_3, rfl, hf⟩ := q3
      dsimp only at hf
      refine E_aload_n dX12_layReport_25 rfl ?_
      refine E_ldcS (i := 10) (tx := "ckwgf") (by decide +kernel) dX12_layReport_26 ?_
      refine E_aload_n dX12_layReport_28 rfl ?_
      refine E_getf (v := .ref 4) dX12_layReport_29 fl_X12_layReport_31 rfl rfl ?_
      refine E_iload_n dX12_layReport_32 rfl ?_
      obtain ⟨hi_4, hf⟩ := pO_gd hf
      refine E_iald (n0 := 16) (f := S_3.2 3) dX12_layReport_33 rfl (pin_in hi_4) ?_
      obtain ⟨hi_6, hf⟩ := pO_gd hf
      refine E_callVI (st := [.ref 0]) (c_J0_charAt_5068e l D dA ad (i := 10) (by decide) (hM S_3) ((S_3.2 3) v1.toNatClampNeg) (pin_in hi_6)) mf_J0_charAt_5068e rfl rfl gX12_layReport_J0_charAt_5068e (Or.inr ⟨10, (by decide), rfl, rfl⟩) (by omega) rfl (Nat.le_of_ble_eq_true rfl) (by rfl) dX12_layReport_34 (fun r5 h5 q5 => ?_)
      obtain ⟨rfl, rfl⟩ := q5
      refine E_callVV (st := []) (c_X12_says l D dA ad S_3 (pch 10 ((S_3.2 3) v1.toNatClampNeg).toNatClampNeg) (pO_bnd hf)) mf_X12_says rfl rfl gX12_layReport_X12_says (pRc.of (ci := 12) rfl rfl) (by omega) rfl (Nat.le_of_ble_eq_true rfl) (by rfl) dX12_layReport_37 (fun h7 q7 => ?_)
      obtain ⟨r7, S_7, rfl, hf⟩ := q7
      dsimp only at hf
      refine E_aload_n dX12_layReport_40 rfl ?_
      refine E_aload_n dX12_layReport_41 rfl ?_
      refine E_getf (v := .ref 5) dX12_layReport_42 fl_X12_layReport_34 rfl rfl ?_
      refine E_iload_n dX12_layReport_45 rfl ?_
      obtain ⟨hi_8, hf⟩ := pO_gd hf
      refine E_iald (n0 := 16) (f := S_7.2 4) dX12_layReport_46 rfl (pin_in hi_8) ?_
      refine E_callVV (st := []) (c_X12_saysNumber l D dA ad 8 S_7 ((S_7.2 4) v1.toNatClampNeg) (pO_bnd hf)) mf_X12_saysNumber rfl rfl gX12_layReport_X12_saysNumber (pRc.of (ci := 12) rfl rfl) (by omega) rfl (Nat.le_of_ble_eq_true rfl) (by rfl) dX12_layReport_47 (fun h9 q9 => ?_)
      obtain ⟨r9, S_9, rfl, hf⟩ := q9
      dsimp only at hf
      refine E_aload_n dX12_layReport_50 rfl ?_
      refine E_bipush (v := 64) dX12_layReport_51 (by decide) ?_
      refine E_callVV (st := []) (c_X12_says l D dA ad S_9 64 (pO_bnd hf)) mf_X12_says rfl rfl gX12_layReport_X12_says (pRc.of (ci := 12) rfl rfl) (by omega) rfl (Nat.le_of_ble_eq_true rfl) (by rfl) dX12_layReport_53 (fun h10 q10 => ?_)
      obtain ⟨r10, S_10, rfl, hf⟩ := q10
      dsimp only at hf
      refine E_aload_n dX12_layReport_56 rfl ?_
      refine E_aload_n dX12_layReport_57 rfl ?_
      refine E_getf (v := .ref 6) dX12_layReport_58 fl_X12_layReport_37 rfl rfl ?_
      refine E_iload_n dX12_layReport_61 rfl ?_
      obtain ⟨hi_11, hf⟩ := pO_gd hf
      refine E_iald (n0 := 16) (f := S_10.2 5) dX12_layReport_62 rfl (pin_in hi_11) ?_
      refine E_callVV (st := []) (c_X12_saysNumber l D dA ad 8 S_10 ((S_10.2 5) v1.toNatClampNeg) (pO_bnd hf)) mf_X12_saysNumber rfl rfl gX12_layReport_X12_saysNumber (pRc.of (ci := 12) rfl rfl) (by omega) rfl (Nat.le_of_ble_eq_true rfl) (by rfl) dX12_layReport_63 (fun h12 q12 => ?_)
      obtain ⟨r12, S_12, rfl, hf⟩ := q12
      dsimp only at hf
      refine E_aload_n dX12_layReport_66 rfl ?_
      refine E_getf (v := .ref 7) dX12_layReport_67 fl_X12_layReport_40 rfl rfl ?_
      refine E_iload_n dX12_layReport_70 rfl ?_
      obtain ⟨hi_13, hf⟩ := pO_gd hf
      refine E_iald (n0 := 16) (f := S_12.2 6) dX12_layReport_71 rfl (pin_in hi_13) ?_
      refine E_if_eq (tgt := 108) dX12_layReport_72 (by decide) (fun c_14 => ?_) (fun c_14 => ?_)
      · have hf := pO_pos c_14 hf
        refine E_aload_n dX12_layReport_108 rfl ?_
        refine E_bipush (v := 59) dX12_layReport_109 (by decide) ?_
        refine E_callVV (st := []) (c_X12_says l D dA ad S_12 59 (pO_bnd hf)) mf_X12_says rfl rfl gX12_layReport_X12_says (pRc.of (ci := 12) rfl rfl) (by omega) rfl (Nat.le_of_ble_eq_true rfl) (by rfl) dX12_layReport_111 (fun h15 q15 => ?_)
        obtain ⟨r15, S_15, rfl, hf⟩ := q15
        dsimp only at hf
        refine E_iinc (v := v1 + 1) (ls' := [(0, .ref 0), (1, .int (v1 + 1))]) dX12_layReport_114 rfl rfl (by decide) rfl ?_
        refine E_goto (tgt := 7) dX12_layReport_117 (by decide) ?_
        exact E_sub (ls' := [(0, .ref 0), (1, .int (v1 + 1))]) ⟨rfl, rfl, trivial⟩ (ih S_15 (v1 + 1) hf)
      · have hf := pO_neg c_14 hf
        refine E_aload_n dX12_layReport_75 rfl ?_
        refine E_aload_n dX12_layReport_76 rfl ?_
        refine E_getf (v := .ref 7) dX12_layReport_77 fl_X12_layReport_40 rfl rfl ?_
        refine E_iload_n dX12_layReport_80 rfl ?_
        obtain ⟨hi_16, hf⟩ := pO_gd hf
        refine E_iald (n0 := 16) (f := S_12.2 6) dX12_layReport_81 rfl (pin_in hi_16) ?_
        refine E_if_ge (tgt := 90) dX12_layReport_82 (by decide) (fun c_17 => ?_) (fun c_17 => ?_)
        · have hf := pO_pos c_17 hf
          refine E_bipush (v := 114) dX12_layReport_90 (by decide) ?_
          refine E_callVV (st := []) (c_X12_says l D dA ad S_12 114 (pO_bnd hf)) mf_X12_says rfl rfl gX12_layReport_X12_says (pRc.of (ci := 12) rfl rfl) (by omega) rfl (Nat.le_of_ble_eq_true rfl) (by rfl) dX12_layReport_92 (fun h18 q18 => ?_)
          obtain ⟨r18, S_18, rfl, hf⟩ := q18
          dsimp only at hf
          refine E_aload_n dX12_layReport_95 rfl ?_
          refine E_aload_n dX12_layReport_96 rfl ?_
          refine E_getf (v := .ref 7) dX12_layReport_97 fl_X12_layReport_40 rfl rfl ?_
          refine E_iload_n dX12_layReport_100 rfl ?_
          obtain ⟨hi_19, hf⟩ := pO_gd hf
          refine E_iald (n0 := 16) (f := S_18.2 6) dX12_layReport_101 rfl (pin_in hi_19) ?_
          refine E_mabs (by decide +kernel) (by decide +kernel) (by decide +kernel) (by decide +kernel) (by omega) (Nat.le_of_ble_eq_true rfl) (by rfl) dX12_layReport_102 ?_
          refine E_callVV (st := []) (c_X12_saysNumber l D dA ad 8 S_18 (pabs ((S_18.2 6) v1.toNatClampNeg)) (pO_bnd hf)) mf_X12_saysNumber rfl rfl gX12_layReport_X12_saysNumber (pRc.of (ci := 12) rfl rfl) (by omega) rfl (Nat.le_of_ble_eq_true rfl) (by rfl) dX12_layReport_105 (fun h20 q20 => ?_)
          obtain ⟨r20, S_20, rfl, hf⟩ := q20
          dsimp only at hf
          refine E_aload_n dX12_layReport_108 rfl ?_
          refine E_bipush (v := 59) dX12_layReport_109 (by decide) ?_
          refine E_callVV (st := []) (c_X12_says l D dA ad S_20 59 (pO_bnd hf)) mf_X12_says rfl rfl gX12_layReport_X12_says (pRc.of (ci := 12) rfl rfl) (by omega) rfl (Nat.le_of_ble_eq_true rfl) (by rfl) dX12_layReport_111 (fun h21 q21 => ?_)
          obtain ⟨r21, S_21, rfl, hf⟩ := q21
          dsimp only at hf
          refine E_iinc (v := v1 + 1) (ls' := [(0, .ref 0), (1, .int (v1 + 1))]) dX12_layReport_114 rfl rfl (by decide) rfl ?_
          refine E_goto (tgt := 7) dX12_layReport_117 (by decide) ?_
          exact E_sub (ls' := [(0, .ref 0), (1, .int (v1 + 1))]) ⟨rfl, rfl, trivial⟩ (ih S_21 (v1 + 1) hf)
        · have hf := pO_neg c_17 hf
          refine E_bipush (v := 108) dX12_layReport_85 (by decide) ?_
          refine E_goto (tgt := 92) dX12_layReport_87 (by decide) ?_
          refine E_callVV (st := []) (c_X12_says l D dA ad S_12 108 (pO_bnd hf)) mf_X12_says rfl rfl gX12_layReport_X12_says (pRc.of (ci := 12) rfl rfl) (by omega) rfl (Nat.le_of_ble_eq_true rfl) (by rfl) dX12_layReport_92 (fun h22 q22 => ?_)
          obtain ⟨r22, S_22, rfl, hf⟩ := q22
          dsimp only at hf
          refine E_aload_n dX12_layReport_95 rfl ?_
          refine E_aload_n dX12_layReport_96 rfl ?_
          refine E_getf (v := .ref 7) dX12_layReport_97 fl_X12_layReport_40 rfl rfl ?_
          refine E_iload_n dX12_layReport_100 rfl ?_
          obtain ⟨hi_23, hf⟩ := pO_gd hf
          refine E_iald (n0 := 16) (f := S_22.2 6) dX12_layReport_101 rfl (pin_in hi_23) ?_
          refine E_mabs (by decide +kernel) (by decide +kernel) (by decide +kernel) (by decide +kernel) (by omega) (Nat.le_of_ble_eq_true rfl) (by rfl) dX12_layReport_102 ?_
          refine E_callVV (st := []) (c_X12_saysNumber l D dA ad 8 S_22 (pabs ((S_22.2 6) v1.toNatClampNeg)) (pO_bnd hf)) mf_X12_saysNumber rfl rfl gX12_layReport_X12_saysNumber (pRc.of (ci := 12) rfl rfl) (by omega) rfl (Nat.le_of_ble_eq_true rfl) (by rfl) dX12_layReport_105 (fun h24 q24 => ?_)
          obtain ⟨r24, S_24, rfl, hf⟩ := q24
          dsimp only at hf
          refine E_aload_n dX12_layReport_108 rfl ?_
          refine E_bipush (v := 59) dX12_layReport_109 (by decide) ?_
          refine E_callVV (st := []) (c_X12_says l D dA ad S_24 59 (pO_bnd hf)) mf_X12_says rfl rfl gX12_layReport_X12_says (pRc.of (ci := 12) rfl rfl) (by omega) rfl (Nat.le_of_ble_eq_true rfl) (by rfl) dX12_layReport_111 (fun h25 q25 => ?_)
          obtain ⟨r25, S_25, rfl, hf⟩ := q25
          dsimp only at hf
          refine E_iinc (v := v1 + 1) (ls' := [(0, .ref 0), (1, .int (v1 + 1))]) dX12_layReport_114 rfl rfl (by decide) rfl ?_
          refine E_goto (tgt := 7) dX12_layReport_117 (by decide) ?_
          exact E_sub (ls' := [(0, .ref 0), (1, .int (v1 + 1))]) ⟨rfl, rfl, trivial⟩ (ih S_25 (v1 + 1) hf)
theorem mf_X12_layReport : pMF yX12_layReport wsX12_layReport cX12_layReport 2 none 0 := ⟨⟨_, rfl⟩, by decide +kernel, by decide, by decide +kernel, by decide +kernel, by decide +kernel⟩
def f_X12_layReport (S : PS) : Option (Int32 × PS) :=
  plp (g_X12_layReport_7 pfuel (pI S 14 0) 0) (fun (S_26 : PS) => some (0, S_26))
set_option maxRecDepth 100000 in
theorem c_X12_layReport (l : Launch) (D : va_G) (dA : Nat → ClassId) (ad : Nat → Nat) (S : PS) {P : (Int32 × PS) → Prop} (hf : pO (f_X12_layReport S) P) : CtV l D dA ad yX12_layReport wsX12_layReport 10 [.ref 0] (hM S) (fun h' => ∃ (r0 : Int32) (S' : PS), h' = hM S' ∧ P (r0, S')) := by
  refine CtV_of mf_X12_layReport rfl rfl (Nat.le_of_ble_eq_true rfl) rfl (hM_len S) ?_
  unfold f_X12_layReport at hf
  refine E_aload_n dX12_layReport_0 rfl ?_
  refine E_iconst (v := 0) dX12_layReport_1 (by decide) ?_
  refine E_putf (h' := hM (pI S 14 0)) dX12_layReport_2 fl_X12_layReport_234 ft_12_20 rfl (Nat.lt_of_lt_of_eq (by decide : 20 < 32) rfl) rfl rfl ⟨_, rfl⟩ (sM_I14 S 0) ?_
  refine E_iconst (v := 0) dX12_layReport_5 (by decide) ?_
  refine E_istore_n (ls' := [(0, .ref 0), (1, .int 0)]) dX12_layReport_6 (by decide) rfl ?_
  refine E_sub (ls' := [(0, .ref 0), (1, .int 0)]) ⟨rfl, rfl, trivial⟩ ?_
  refine l_X12_layReport_7 l D dA ad _ (by omega) pfuel (pI S 14 0) 0 (pO_lp hf (fun x hx => ⟨x.1, x.2, rfl, hx⟩) (fun w26 hf => ?_))
  obtain ⟨S_26, rfl⟩ : ∃ z, z = w26 := ⟨_, rfl⟩
  dsimp only at hf ⊢
  exact E_vret rfl dX12_layReport_120 ⟨0, _, rfl, hf⟩
theorem hi_X12_say_12 : ∀ w ∈ u_ws RX12 TX12 32, w ∈ wsX12_say := fun w h => of_decide_eq_true (List.all_eq_true.mp (by decide +kernel : (u_ws RX12 TX12 32).all (fun w => decide (w ∈ wsX12_say)) = true) w h)
theorem fl_X12_say_234 : pFL wsX12_say RX12 234 12 20 := ⟨RX12, TX12, 32, hi_X12_say_12, rfl, by decide, by decide +kernel⟩
theorem fl_X12_say_64 : pFL wsX12_say RX12 64 12 19 := ⟨RX12, TX12, 32, hi_X12_say_12, rfl, by decide, by decide +kernel⟩
theorem mf_X12_say : pMF yX12_say wsX12_say cX12_say 2 (some .int) 1 := ⟨⟨_, rfl⟩, by decide +kernel, by decide, by decide +kernel, by decide +kernel, by decide +kernel⟩
def f_X12_say (S : PS) (v1 : Int32) : Option (Int32 × PS) :=
  if ((-1) : Int32) ≤ v1 then (pbnd (f_X12_layReport S) (fun _ S_2 => if v1 = ((-1) : Int32) then (some (S_2.1 14, S_2)) else (if (S_2.1 14) ≤ v1 then (some ((-2), S_2)) else (pgd (pin v1 320) (some ((S_2.2 34) v1.toNatClampNeg, S_2)))))) else (some ((-1), S))
set_option maxRecDepth 100000 in
theorem c_X12_say (l : Launch) (D : va_G) (dA : Nat → ClassId) (ad : Nat → Nat) (S : PS) (v1 : Int32) {P : (Int32 × PS) → Prop} (hf : pO (f_X12_say S v1) P) : CtI l D dA ad yX12_say wsX12_say 11 [.ref 0, .int v1] (hM S) (fun r h' => ∃ S' : PS, h' = hM S' ∧ P (r, S')) := by
  refine CtI_of mf_X12_say rfl rfl (Nat.le_of_ble_eq_true rfl) rfl (hM_len S) ?_
  unfold f_X12_say at hf
  refine E_iload_n dX12_say_0 rfl ?_
  refine E_iconst (v := (-1)) dX12_say_1 (by decide) ?_
  refine E_icmp_ge (tgt := 7) dX12_say_2 (by decide) (fun c_1 => ?_) (fun c_1 => ?_)
  · have hf := pO_pos c_1 hf
    refine E_aload_n dX12_say_7 rfl ?_
    refine E_callVV (st := []) (c_X12_layReport l D dA ad S (pO_bnd hf)) mf_X12_layReport rfl rfl gX12_say_X12_layReport (pRc.of (ci := 12) rfl rfl) (by omega) rfl (Nat.le_of_ble_eq_true rfl) (by rfl) dX12_say_8 (fun h2 q2 => ?_)
    obtain ⟨r2, S_2, rfl, hf⟩ := q2
    dsimp only at hf
    refine E_iload_n dX12_say_11 rfl ?_
    refine E_iconst (v := (-1)) dX12_say_12 (by decide) ?_
    refine E_icmp_ne (tgt := 23) dX12_say_13 (by decide) (fun c_3 => ?_) (fun c_3 => ?_)
    · have hf := pO_neg c_3 hf
      refine E_iload_n dX12_say_23 rfl ?_
      refine E_aload_n dX12_say_24 rfl ?_
      refine E_getf (v := .int (S_2.1 14)) dX12_say_25 fl_X12_say_234 rfl rfl ?_
      refine E_icmp_ge (tgt := 40) dX12_say_28 (by decide) (fun c_4 => ?_) (fun c_4 => ?_)
      · have hf := pO_pos c_4 hf
        refine E_bipush (v := (-2)) dX12_say_40 (by decide) ?_
        exact E_iret rfl dX12_say_42 ⟨_, rfl, hf⟩
      · have hf := pO_neg c_4 hf
        refine E_aload_n dX12_say_31 rfl ?_
        refine E_getf (v := .ref 15) dX12_say_32 fl_X12_say_64 rfl rfl ?_
        refine E_iload_n dX12_say_35 rfl ?_
        obtain ⟨hi_5, hf⟩ := pO_gd hf
        refine E_bald (n0 := 320) (f := S_2.2 34) dX12_say_36 rfl (pin_in hi_5) ?_
        refine E_goto (tgt := 42) dX12_say_37 (by decide) ?_
        exact E_iret rfl dX12_say_42 ⟨_, rfl, hf⟩
    · have hf := pO_pos c_3 hf
      refine E_aload_n dX12_say_16 rfl ?_
      refine E_getf (v := .int (S_2.1 14)) dX12_say_17 fl_X12_say_234 rfl rfl ?_
      refine E_goto (tgt := 42) dX12_say_20 (by decide) ?_
      exact E_iret rfl dX12_say_42 ⟨_, rfl, hf⟩
  · have hf := pO_neg c_1 hf
    refine E_iconst (v := (-1)) dX12_say_5 (by decide) ?_
    exact E_iret rfl dX12_say_6 ⟨_, rfl, hf⟩
theorem hi_X12_feed_12 : ∀ w ∈ u_ws RX12 TX12 32, w ∈ wsX12_feed := fun w h => of_decide_eq_true (List.all_eq_true.mp (by decide +kernel : (u_ws RX12 TX12 32).all (fun w => decide (w ∈ wsX12_feed)) = true) w h)
theorem fl_X12_feed_257 : pFL wsX12_feed RX12 257 12 22 := ⟨RX12, TX12, 32, hi_X12_feed_12, rfl, by decide, by decide +kernel⟩
theorem fl_X12_feed_68 : pFL wsX12_feed RX12 68 12 21 := ⟨RX12, TX12, 32, hi_X12_feed_12, rfl, by decide, by decide +kernel⟩
theorem ft_12_22 : pFT 12 22 .int := ⟨RX12, TX12, 32, tyX12, rfl, by decide, tyX12_ok, nmX12, rfl, by decide +kernel⟩
theorem mf_X12_feed : pMF yX12_feed wsX12_feed cX12_feed 2 (some .int) 1 := ⟨⟨_, rfl⟩, by decide +kernel, by decide, by decide +kernel, by decide +kernel, by decide +kernel⟩
def f_X12_feed (S : PS) (v1 : Int32) : Option (Int32 × PS) :=
  pbnd (f_X12_in S v1 32 126) (fun r1 S_1 => if r1 = (0 : Int32) then (some ((-1), S_1)) else (if (S_1.1 11) = (80 : Int32) then (some ((-3), S_1)) else (pgd (pin (S_1.1 11) 80) (some ((S_1.1 11) + 1, (pI (pAr S_1 28 (upd (S_1.2 28) (S_1.1 11).toNatClampNeg (vp_nar .byte v1.toInt8.toInt32))) 11 ((S_1.1 11) + 1)))))))
set_option maxRecDepth 100000 in
theorem c_X12_feed (l : Launch) (D : va_G) (dA : Nat → ClassId) (ad : Nat → Nat) (S : PS) (v1 : Int32) {P : (Int32 × PS) → Prop} (hf : pO (f_X12_feed S v1) P) : CtI l D dA ad yX12_feed wsX12_feed 1 [.ref 0, .int v1] (hM S) (fun r h' => ∃ S' : PS, h' = hM S' ∧ P (r, S')) := by
  refine CtI_of mf_X12_feed rfl rfl (Nat.le_of_ble_eq_true rfl) rfl (hM_len S) ?_
  unfold f_X12_feed at hf
  refine E_iload_n dX12_feed_0 rfl ?_
  refine E_bipush (v := 32) dX12_feed_1 (by decide) ?_
  refine E_bipush (v := 126) dX12_feed_3 (by decide) ?_
  refine E_callSI (st := []) (c_X12_in l D dA ad S v1 32 126 (pO_bnd hf)) mf_X12_in rfl gX12_feed_X12_in (by omega) rfl (Nat.le_of_ble_eq_true rfl) (by rfl) dX12_feed_5 (fun r1 h1 q1 => ?_)
  obtain ⟨S_1, rfl, hf⟩ := q1
  dsimp only at hf
  refine E_if_ne (tgt := 13) dX12_feed_8 (by decide) (fun c_2 => ?_) (fun c_2 => ?_)
  · have hf := pO_neg c_2 hf
    refine E_aload_n dX12_feed_13 rfl ?_
    refine E_getf (v := .int (S_1.1 11)) dX12_feed_14 fl_X12_feed_257 rfl rfl ?_
    refine E_bipush (v := 80) dX12_feed_17 (by decide) ?_
    refine E_icmp_ne (tgt := 25) dX12_feed_19 (by decide) (fun c_3 => ?_) (fun c_3 => ?_)
    · have hf := pO_neg c_3 hf
      refine E_aload_n dX12_feed_25 rfl ?_
      refine E_getf (v := .ref 16) dX12_feed_26 fl_X12_feed_68 rfl rfl ?_
      refine E_aload_n dX12_feed_29 rfl ?_
      refine E_getf (v := .int (S_1.1 11)) dX12_feed_30 fl_X12_feed_257 rfl rfl ?_
      refine E_iload_n dX12_feed_33 rfl ?_
      refine E_i2b dX12_feed_34 ?_
      obtain ⟨hi_4, hf⟩ := pO_gd hf
      refine E_bast (n0 := 80) (f := S_1.2 28) (h' := hM (pAr S_1 28 (upd (S_1.2 28) (S_1.1 11).toNatClampNeg (vp_nar .byte v1.toInt8.toInt32)))) dX12_feed_35 rfl (pin_in hi_4) (sM_A28 S_1 (upd (S_1.2 28) (S_1.1 11).toNatClampNeg (vp_nar .byte v1.toInt8.toInt32))) ?_
      refine E_aload_n dX12_feed_36 rfl ?_
      refine E_dup dX12_feed_37 rfl ?_
      refine E_getf (v := .int (S_1.1 11)) dX12_feed_38 fl_X12_feed_257 rfl rfl ?_
      refine E_iconst (v := 1) dX12_feed_41 (by decide) ?_
      refine E_iadd dX12_feed_42 ?_
      refine E_putf (h' := hM (pI (pAr S_1 28 (upd (S_1.2 28) (S_1.1 11).toNatClampNeg (vp_nar .byte v1.toInt8.toInt32))) 11 ((S_1.1 11) + 1))) dX12_feed_43 fl_X12_feed_257 ft_12_22 rfl (Nat.lt_of_lt_of_eq (by decide : 22 < 32) rfl) rfl rfl ⟨_, rfl⟩ (sM_I11 (pAr S_1 28 (upd (S_1.2 28) (S_1.1 11).toNatClampNeg (vp_nar .byte v1.toInt8.toInt32))) ((S_1.1 11) + 1)) ?_
      refine E_aload_n dX12_feed_46 rfl ?_
      refine E_getf (v := .int ((S_1.1 11) + 1)) dX12_feed_47 fl_X12_feed_257 rfl rfl ?_
      exact E_iret rfl dX12_feed_50 ⟨_, rfl, hf⟩
    · have hf := pO_pos c_3 hf
      refine E_bipush (v := (-3)) dX12_feed_22 (by decide) ?_
      exact E_iret rfl dX12_feed_24 ⟨_, rfl, hf⟩
  · have hf := pO_pos c_2 hf
    refine E_iconst (v := (-1)) dX12_feed_11 (by decide) ?_
    exact E_iret rfl dX12_feed_12 ⟨_, rfl, hf⟩
theorem hi_X12_wipe_12 : ∀ w ∈ u_ws RX12 TX12 32, w ∈ wsX12_wipe := fun w h => of_decide_eq_true (List.all_eq_true.mp (by decide +kernel : (u_ws RX12 TX12 32).all (fun w => decide (w ∈ wsX12_wipe)) = true) w h)
theorem fl_X12_wipe_257 : pFL wsX12_wipe RX12 257 12 22 := ⟨RX12, TX12, 32, hi_X12_wipe_12, rfl, by decide, by decide +kernel⟩
theorem mf_X12_wipe : pMF yX12_wipe wsX12_wipe cX12_wipe 2 (some .int) 0 := ⟨⟨_, rfl⟩, by decide +kernel, by decide, by decide +kernel, by decide +kernel, by decide +kernel⟩
def f_X12_wipe (S : PS) : Option (Int32 × PS) :=
  some (S.1 11, (pI S 11 0))
set_option maxRecDepth 100000 in
theorem c_X12_wipe (l : Launch) (D : va_G) (dA : Nat → ClassId) (ad : Nat → Nat) (S : PS) {P : (Int32 × PS) → Prop} (hf : pO (f_X12_wipe S) P) : CtI l D dA ad yX12_wipe wsX12_wipe 0 [.ref 0] (hM S) (fun r h' => ∃ S' : PS, h' = hM S' ∧ P (r, S')) := by
  refine CtI_of mf_X12_wipe rfl rfl (Nat.le_of_ble_eq_true rfl) rfl (hM_len S) ?_
  unfold f_X12_wipe at hf
  refine E_aload_n dX12_wipe_0 rfl ?_
  refine E_getf (v := .int (S.1 11)) dX12_wipe_1 fl_X12_wipe_257 rfl rfl ?_
  refine E_istore_n (ls' := [(0, .ref 0), (1, .int (S.1 11))]) dX12_wipe_4 (by decide) rfl ?_
  refine E_aload_n dX12_wipe_5 rfl ?_
  refine E_iconst (v := 0) dX12_wipe_6 (by decide) ?_
  refine E_putf (h' := hM (pI S 11 0)) dX12_wipe_7 fl_X12_wipe_257 ft_12_22 rfl (Nat.lt_of_lt_of_eq (by decide : 22 < 32) rfl) rfl rfl ⟨_, rfl⟩ (sM_I11 S 0) ?_
  refine E_iload_n dX12_wipe_10 rfl ?_
  exact E_iret rfl dX12_wipe_11 ⟨_, rfl, hf⟩
theorem hi_X12_takesAll_12 : ∀ w ∈ u_ws RX12 TX12 32, w ∈ wsX12_takesAll := fun w h => of_decide_eq_true (List.all_eq_true.mp (by decide +kernel : (u_ws RX12 TX12 32).all (fun w => decide (w ∈ wsX12_takesAll)) = true) w h)
theorem fl_X12_takesAll_260 : pFL wsX12_takesAll RX12 260 12 23 := ⟨RX12, TX12, 32, hi_X12_takesAll_12, rfl, by decide, by decide +kernel⟩
theorem ft_12_23 : pFT 12 23 .int := ⟨RX12, TX12, 32, tyX12, rfl, by decide, tyX12_ok, nmX12, rfl, by decide +kernel⟩
theorem fl_X12_takesAll_286 : pFL wsX12_takesAll RX12 286 12 24 := ⟨RX12, TX12, 32, hi_X12_takesAll_12, rfl, by decide, by decide +kernel⟩
theorem ft_12_24 : pFT 12 24 .int := ⟨RX12, TX12, 32, tyX12, rfl, by decide, tyX12_ok, nmX12, rfl, by decide +kernel⟩
theorem hi_X12_takesWord_12 : ∀ w ∈ u_ws RX12 TX12 32, w ∈ wsX12_takesWord := fun w h => of_decide_eq_true (List.all_eq_true.mp (by decide +kernel : (u_ws RX12 TX12 32).all (fun w => decide (w ∈ wsX12_takesWord)) = true) w h)
theorem fl_X12_takesWord_260 : pFL wsX12_takesWord RX12 260 12 23 := ⟨RX12, TX12, 32, hi_X12_takesWord_12, rfl, by decide, by decide +kernel⟩
theorem hi_X12_isLetter_12 : ∀ w ∈ u_ws RX12 TX12 32, w ∈ wsX12_isLetter := fun w h => of_decide_eq_true (List.all_eq_true.mp (by decide +kernel : (u_ws RX12 TX12 32).all (fun w => decide (w ∈ wsX12_isLetter)) = true) w h)
theorem fl_X12_isLetter_260 : pFL wsX12_isLetter RX12 260 12 23 := ⟨RX12, TX12, 32, hi_X12_isLetter_12, rfl, by decide, by decide +kernel⟩
theorem fl_X12_isLetter_257 : pFL wsX12_isLetter RX12 257 12 22 := ⟨RX12, TX12, 32, hi_X12_isLetter_12, rfl, by decide, by decide +kernel⟩
theorem fl_X12_isLetter_68 : pFL wsX12_isLetter RX12 68 12 21 := ⟨RX12, TX12, 32, hi_X12_isLetter_12, rfl, by decide, by decide +kernel⟩
theorem mf_X12_isLetter : pMF yX12_isLetter wsX12_isLetter cX12_isLetter 1 (some .boolean) 0 := ⟨⟨_, rfl⟩, by decide +kernel, by decide, by decide +kernel, by decide +kernel, by decide +kernel⟩
def f_X12_isLetter (S : PS) : Option (Int32 × PS) :=
  if (S.1 11) ≤ (S.1 12) then (some (0, S)) else (pgd (pin (S.1 12) 80) (pbnd (f_X12_in S ((S.2 28) (S.1 12).toNatClampNeg) 97 122) (fun r3 S_3 => if r3 = (0 : Int32) then (some (0, S_3)) else (some (1, S_3)))))
set_option maxRecDepth 100000 in
theorem c_X12_isLetter (l : Launch) (D : va_G) (dA : Nat → ClassId) (ad : Nat → Nat) (S : PS) {P : (Int32 × PS) → Prop} (hf : pO (f_X12_isLetter S) P) : CtI l D dA ad yX12_isLetter wsX12_isLetter 1 [.ref 0] (hM S) (fun r h' => ∃ S' : PS, h' = hM S' ∧ P (r, S')) := by
  refine CtI_of mf_X12_isLetter rfl rfl (Nat.le_of_ble_eq_true rfl) rfl (hM_len S) ?_
  unfold f_X12_isLetter at hf
  refine E_aload_n dX12_isLetter_0 rfl ?_
  refine E_getf (v := .int (S.1 12)) dX12_isLetter_1 fl_X12_isLetter_260 rfl rfl ?_
  refine E_aload_n dX12_isLetter_4 rfl ?_
  refine E_getf (v := .int (S.1 11)) dX12_isLetter_5 fl_X12_isLetter_257 rfl rfl ?_
  refine E_icmp_ge (tgt := 34) dX12_isLetter_8 (by decide) (fun c_1 => ?_) (fun c_1 => ?_)
  · have hf := pO_pos c_1 hf
    refine E_iconst (v := 0) dX12_isLetter_34 (by decide) ?_
    exact E_zret rfl dX12_isLetter_35 (by decide) ⟨_, rfl, hf⟩
  · have hf := pO_neg c_1 hf
    refine E_aload_n dX12_isLetter_11 rfl ?_
    refine E_getf (v := .ref 16) dX12_isLetter_12 fl_X12_isLetter_68 rfl rfl ?_
    refine E_aload_n dX12_isLetter_15 rfl ?_
    refine E_getf (v := .int (S.1 12)) dX12_isLetter_16 fl_X12_isLetter_260 rfl rfl ?_
    obtain ⟨hi_2, hf⟩ := pO_gd hf
    refine E_bald (n0 := 80) (f := S.2 28) dX12_isLetter_19 rfl (pin_in hi_2) ?_
    refine E_bipush (v := 97) dX12_isLetter_20 (by decide) ?_
    refine E_bipush (v := 122) dX12_isLetter_22 (by decide) ?_
    refine E_callSI (st := []) (c_X12_in l D dA ad S ((S.2 28) (S.1 12).toNatClampNeg) 97 122 (pO_bnd hf)) mf_X12_in rfl gX12_isLetter_X12_in (by omega) rfl (Nat.le_of_ble_eq_true rfl) (by rfl) dX12_isLetter_24 (fun r3 h3 q3 => ?_)
    obtain ⟨S_3, rfl, hf⟩ := q3
    dsimp only at hf
    refine E_if_eq (tgt := 34) dX12_isLetter_27 (by decide) (fun c_4 => ?_) (fun c_4 => ?_)
    · have hf := pO_pos c_4 hf
      refine E_iconst (v := 0) dX12_isLetter_34 (by decide) ?_
      exact E_zret rfl dX12_isLetter_35 (by decide) ⟨_, rfl, hf⟩
    · have hf := pO_neg c_4 hf
      refine E_iconst (v := 1) dX12_isLetter_30 (by decide) ?_
      refine E_goto (tgt := 35) dX12_isLetter_31 (by decide) ?_
      exact E_zret rfl dX12_isLetter_35 (by decide) ⟨_, rfl, hf⟩
def g_X12_takesWord_5 : Nat → PS → Int32 → Option ((Int32 × PS) ⊕ (PS))
  | 0, _, _ => none
  | fuel + 1, S, v1 =>
    pbnd (f_X12_isLetter S) (fun r1 S_1 => if r1 = (0 : Int32) then (some (.inr (S_1))) else (g_X12_takesWord_5 fuel (pI S_1 12 ((S_1.1 12) + 1)) v1))
set_option maxRecDepth 100000 in
theorem l_X12_takesWord_5 (l : Launch) (D : va_G) (dA : Nat → ClassId) (ad : Nat → Nat) (d : Nat) (hd : 2 ≤ d) {Q : Int32 → List PC → Prop} : ∀ (fuel : Nat) (S : PS) (v1 : Int32), pO (g_X12_takesWord_5 fuel S v1) (fun y => match y with
    | .inl x => Q x.1 (hM x.2)
    | .inr w => Ev l D dA ad wsX12_takesWord cX12_takesWord RX12 3 (some .boolean) d 38 (pKi D dA ad 38 Q) 25 [(0, .ref 0), (1, .int v1)] [] (hM w)) → Ev l D dA ad wsX12_takesWord cX12_takesWord RX12 3 (some .boolean) d 38 (pKi D dA ad 38 Q) 5 [(0, .ref 0), (1, .int v1)] [] (hM S) := by
  intro fuel
  induction fuel with
  | zero =>
    intro S v1 hf
    exact hf.elim
  | succ fuel ih =>
    intro S v1 hf
    rw [g_X12_takesWord_5] at hf
    refine E_aload_n dX12_takesWord_5 rfl ?_
    refine E_callVI (st := []) (c_X12_isLetter l D dA ad S (pO_bnd hf)) mf_X12_isLetter rfl rfl gX12_takesWord_X12_isLetter (pRc.of (ci := 12) rfl rfl) (by omega) rfl (Nat.le_of_ble_eq_true rfl) (by rfl) dX12_takesWord_6 (fun r1 h1 q1 => ?_)
    obtain ⟨S_1, rfl, hf⟩ := q1
    dsimp only at hf
    refine E_if_eq (tgt := 25) dX12_takesWord_9 (by decide) (fun c_2 => ?_) (fun c_2 => ?_)
    · have hf := pO_pos c_2 hf
      exact E_sub (ls' := [(0, .ref 0), (1, .int v1)]) ⟨rfl, rfl, trivial⟩ hf
    · have hf := pO_neg c_2 hf
      refine E_aload_n dX12_takesWord_12 rfl ?_
      refine E_dup dX12_takesWord_13 rfl ?_
      refine E_getf (v := .int (S_1.1 12)) dX12_takesWord_14 fl_X12_takesWord_260 rfl rfl ?_
      refine E_iconst (v := 1) dX12_takesWord_17 (by decide) ?_
      refine E_iadd dX12_takesWord_18 ?_
      refine E_putf (h' := hM (pI S_1 12 ((S_1.1 12) + 1))) dX12_takesWord_19 fl_X12_takesWord_260 ft_12_23 rfl (Nat.lt_of_lt_of_eq (by decide : 23 < 32) rfl) rfl rfl ⟨_, rfl⟩ (sM_I12 S_1 ((S_1.1 12) + 1)) ?_
      refine E_goto (tgt := 5) dX12_takesWord_22 (by decide) ?_
      exact E_sub (ls' := [(0, .ref 0), (1, .int v1)]) ⟨rfl, rfl, trivial⟩ (ih (pI S_1 12 ((S_1.1 12) + 1)) v1 hf)
theorem mf_X12_wordOf : pMF yX12_wordOf wsX12_wordOf cX12_wordOf 1 (some (.object "java/lang/String")) 1 := ⟨⟨_, rfl⟩, by decide +kernel, by decide, by decide +kernel, by decide +kernel, by decide +kernel⟩
def f_X12_wordOf (S : PS) (v0 : Int32) : Option (Nat × PS) :=
  if v0 = (0 : Int32) then (some ((0 + 1000), S)) else (if v0 = (1 : Int32) then (some ((1 + 1000), S)) else (if v0 = (2 : Int32) then (some ((2 + 1000), S)) else (if v0 = (3 : Int32) then (some ((3 + 1000), S)) else (some ((4 + 1000), S)))))
set_option maxRecDepth 100000 in
theorem c_X12_wordOf (l : Launch) (D : va_G) (dA : Nat → ClassId) (ad : Nat → Nat) (S : PS) (v0 : Int32) {P : (Nat × PS) → Prop} (hf : pO (f_X12_wordOf S v0) P) : CtR l D dA ad yX12_wordOf wsX12_wordOf 0 [.int v0] (hM S) (fun r h' => ∃ S' : PS, h' = hM S' ∧ P (r, S')) := by
  refine CtR_of mf_X12_wordOf rfl rfl (Nat.le_of_ble_eq_true rfl) rfl (hM_len S) ?_
  unfold f_X12_wordOf at hf
  refine E_iload_n dX12_wordOf_0 rfl ?_
  by_cases k_1 : v0 = (0 : Int32)
  · have hf := pO_pos k_1 hf
    refine E_tableIn (off := 31) (tgt := 32) dX12_wordOf_1 (by rw [k_1]; decide) (by rw [k_1]; decide) (by rw [k_1]; rfl) (by decide) ?_
    refine E_ldcSw (i := 0) (tx := "put") (by decide +kernel) dX12_wordOf_32 ?_
    exact E_aret rfl (Or.inl ⟨_, rfl⟩) dX12_wordOf_35 ⟨_, rfl, hf⟩
  · have hf := pO_neg k_1 hf
    by_cases k_2 : v0 = (1 : Int32)
    · have hf := pO_pos k_2 hf
      refine E_tableIn (off := 35) (tgt := 36) dX12_wordOf_1 (by rw [k_2]; decide) (by rw [k_2]; decide) (by rw [k_2]; rfl) (by decide) ?_
      refine E_ldcSw (i := 1) (tx := "move") (by decide +kernel) dX12_wordOf_36 ?_
      exact E_aret rfl (Or.inl ⟨_, rfl⟩) dX12_wordOf_39 ⟨_, rfl, hf⟩
    · have hf := pO_neg k_2 hf
      by_cases k_3 : v0 = (2 : Int32)
      · have hf := pO_pos k_3 hf
        refine E_tableIn (off := 39) (tgt := 40) dX12_wordOf_1 (by rw [k_3]; decide) (by rw [k_3]; decide) (by rw [k_3]; rfl) (by decide) ?_
        refine E_ldcSw (i := 2) (tx := "take") (by decide +kernel) dX12_wordOf_40 ?_
        exact E_aret rfl (Or.inl ⟨_, rfl⟩) dX12_wordOf_43 ⟨_, rfl, hf⟩
      · have hf := pO_neg k_3 hf
        by_cases k_4 : v0 = (3 : Int32)
        · have hf := pO_pos k_4 hf
          refine E_tableIn (off := 43) (tgt := 44) dX12_wordOf_1 (by rw [k_4]; decide) (by rw [k_4]; decide) (by rw [k_4]; rfl) (by decide) ?_
          refine E_ldcSw (i := 3) (tx := "fill") (by decide +kernel) dX12_wordOf_44 ?_
          exact E_aret rfl (Or.inl ⟨_, rfl⟩) dX12_wordOf_47 ⟨_, rfl, hf⟩
        · have hf := pO_neg k_4 hf
          refine E_tableOut (tgt := 48) dX12_wordOf_1 (by have z0 := pti k_1 (by decide : (0 : Int32).toInt = 0); have z1 := pti k_2 (by decide : (1 : Int32).toInt = 1); have z2 := pti k_3 (by decide : (2 : Int32).toInt = 2); have z3 := pti k_4 (by decide : (3 : Int32).toInt = 3); omega) (by decide) ?_
          refine E_ldcSw (i := 4) (tx := "wet") (by decide +kernel) dX12_wordOf_48 ?_
          exact E_aret rfl (Or.inl ⟨_, rfl⟩) dX12_wordOf_51 ⟨_, rfl, hf⟩
theorem hi_X12_isWord_12 : ∀ w ∈ u_ws RX12 TX12 32, w ∈ wsX12_isWord := fun w h => of_decide_eq_true (List.all_eq_true.mp (by decide +kernel : (u_ws RX12 TX12 32).all (fun w => decide (w ∈ wsX12_isWord)) = true) w h)
theorem fl_X12_isWord_68 : pFL wsX12_isWord RX12 68 12 21 := ⟨RX12, TX12, 32, hi_X12_isWord_12, rfl, by decide, by decide +kernel⟩
def g_X12_isWord_20 (i : Nat) : Nat → PS → Int32 → Int32 → Int32 → Int32 → Option ((Int32 × PS) ⊕ (PS × Int32))
  | 0, _, _, _, _, _ => none
  | fuel + 1, S, v2, v3, v4, v5 =>
    if v4 = (0 : Int32) then (some (.inr (S, v4))) else (if v3 ≤ v5 then (some (.inr (S, v4))) else (pgd (pin v5 80) (pgd (pin (v5 - v2) (pLen.getD i 0)) (if ((S.2 28) v5.toNatClampNeg) = (pch i (v5 - v2).toNatClampNeg) then (g_X12_isWord_20 i fuel S v2 v3 1 (v5 + 1)) else (g_X12_isWord_20 i fuel S v2 v3 0 (v5 + 1))))))
set_option maxRecDepth 100000 in
theorem l_X12_isWord_20 (l : Launch) (D : va_G) (dA : Nat → ClassId) (ad : Nat → Nat) (i : Nat) (hi : i < 11) (d : Nat) (hd : 5 ≤ d) {Q : Int32 → List PC → Prop} : ∀ (fuel : Nat) (S : PS) (v2 : Int32) (v3 : Int32) (v4 : Int32) (v5 : Int32), pO (g_X12_isWord_20 i fuel S v2 v3 v4 v5) (fun y => match y with
    | .inl x => Q x.1 (hM x.2)
    | .inr w => Ev l D dA ad wsX12_isWord cX12_isWord RX12 6 (some .boolean) d 38 (pKi D dA ad 38 Q) 62 [(4, .int w.2)] [] (hM w.1)) → Ev l D dA ad wsX12_isWord cX12_isWord RX12 6 (some .boolean) d 38 (pKi D dA ad 38 Q) 20 [(0, .ref 0), (1, .ref (i + 1000)), (2, .int v2), (3, .int v3), (4, .int v4), (5, .int v5)] [] (hM S) := by
  intro fuel
  induction fuel with
  | zero =>
    intro S v2 v3 v4 v5 hf
    exact hf.elim
  | succ fuel ih =>
    intro S v2 v3 v4 v5 hf
    rw [g_X12_isWord_20] at hf
    refine E_iload dX12_isWord_20 rfl ?_
    refine E_if_eq (tgt := 62) dX12_isWord_22 (by decide) (fun c_3 => ?_) (fun c_3 => ?_)
    · have hf := pO_pos c_3 hf
      exact E_sub (ls' := [(4, .int v4)]) ⟨rfl, trivial⟩ hf
    · have hf := pO_neg c_3 hf
      refine E_iload dX12_isWord_25 rfl ?_
      refine E_iload_n dX12_isWord_27 rfl ?_
      refine E_icmp_ge (tgt := 62) dX12_isWord_28 (by decide) (fun c_4 => ?_) (fun c_4 => ?_)
      · have hf := pO_pos c_4 hf
        exact E_sub (ls' := [(4, .int v4)]) ⟨rfl, trivial⟩ hf
      · have hf := pO_neg c_4 hf
        refine E_aload_n dX12_isWord_31 rfl ?_
        refine E_getf (v := .ref 16) dX12_isWord_32 fl_X12_isWord_68 rfl rfl ?_
        refine E_iload dX12_isWord_35 rfl ?_
        obtain ⟨hi_5, hf⟩ := pO_gd hf
        refine E_bald (n0 := 80) (f := S.2 28) dX12_isWord_37 rfl (pin_in hi_5) ?_
        refine E_aload_n dX12_isWord_38 rfl ?_
        refine E_iload dX12_isWord_39 rfl ?_
        refine E_iload_n dX12_isWord_41 rfl ?_
        refine E_isub dX12_isWord_42 ?_
        obtain ⟨hi_7, hf⟩ := pO_gd hf
        refine E_callVI (st := [.int ((S.2 28) v5.toNatClampNeg)]) (c_J0_charAt_5068e l D dA ad (i := i) hi (hM S) (v5 - v2) (pin_in hi_7)) mf_J0_charAt_5068e rfl rfl gX12_isWord_J0_charAt_5068e (Or.inr ⟨i, hi, rfl, rfl⟩) (by omega) rfl (Nat.le_of_ble_eq_true rfl) (by rfl) dX12_isWord_43 (fun r6 h6 q6 => ?_)
        obtain ⟨rfl, rfl⟩ := q6
        refine E_icmp_ne (tgt := 53) dX12_isWord_46 (by decide) (fun c_8 => ?_) (fun c_8 => ?_)
        · have hf := pO_neg c_8 hf
          refine E_iconst (v := 0) dX12_isWord_53 (by decide) ?_
          refine E_istore (ls' := [(0, .ref 0), (1, .ref (i + 1000)), (2, .int v2), (3, .int v3), (4, .int 0), (5, .int v5)]) dX12_isWord_54 (by decide) rfl ?_
          refine E_iinc (v := v5 + 1) (ls' := [(0, .ref 0), (1, .ref (i + 1000)), (2, .int v2), (3, .int v3), (4, .int 0), (5, .int (v5 + 1))]) dX12_isWord_56 rfl rfl (by decide) rfl ?_
          refine E_goto (tgt := 20) dX12_isWord_59 (by decide) ?_
          exact E_sub (ls' := [(0, .ref 0), (1, .ref (i + 1000)), (2, .int v2), (3, .int v3), (4, .int 0), (5, .int (v5 + 1))]) ⟨rfl, rfl, rfl, rfl, rfl, rfl, trivial⟩ (ih S v2 v3 0 (v5 + 1) hf)
        · have hf := pO_pos c_8 hf
          refine E_iconst (v := 1) dX12_isWord_49 (by decide) ?_
          refine E_goto (tgt := 54) dX12_isWord_50 (by decide) ?_
          refine E_istore (ls' := [(0, .ref 0), (1, .ref (i + 1000)), (2, .int v2), (3, .int v3), (4, .int 1), (5, .int v5)]) dX12_isWord_54 (by decide) rfl ?_
          refine E_iinc (v := v5 + 1) (ls' := [(0, .ref 0), (1, .ref (i + 1000)), (2, .int v2), (3, .int v3), (4, .int 1), (5, .int (v5 + 1))]) dX12_isWord_56 rfl rfl (by decide) rfl ?_
          refine E_goto (tgt := 20) dX12_isWord_59 (by decide) ?_
          exact E_sub (ls' := [(0, .ref 0), (1, .ref (i + 1000)), (2, .int v2), (3, .int v3), (4, .int 1), (5, .int (v5 + 1))]) ⟨rfl, rfl, rfl, rfl, rfl, rfl, trivial⟩ (ih S v2 v3 1 (v5 + 1) hf)
theorem mf_X12_isWord : pMF yX12_isWord wsX12_isWord cX12_isWord 6 (some .boolean) 3 := ⟨⟨_, rfl⟩, by decide +kernel, by decide, by decide +kernel, by decide +kernel, by decide +kernel⟩
def f_X12_isWord (S : PS) (i : Nat) (v2 : Int32) (v3 : Int32) : Option (Int32 × PS) :=
  if (v3 - v2) = (nI (pLen.getD i 0)) then (plp (g_X12_isWord_20 i pfuel S v2 v3 1 v2) (fun w => (fun (S_11 : PS) (v4_11 : Int32) => pgd (pbit v4_11) (some (v4_11, S_11))) w.1 w.2)) else (plp (g_X12_isWord_20 i pfuel S v2 v3 0 v2) (fun w => (fun (S_9 : PS) (v4_9 : Int32) => pgd (pbit v4_9) (some (v4_9, S_9))) w.1 w.2))
set_option maxRecDepth 100000 in
theorem c_X12_isWord (l : Launch) (D : va_G) (dA : Nat → ClassId) (ad : Nat → Nat) (S : PS) (i : Nat) (hi : i < 11) (v2 : Int32) (v3 : Int32) {P : (Int32 × PS) → Prop} (hf : pO (f_X12_isWord S i v2 v3) P) : CtI l D dA ad yX12_isWord wsX12_isWord 5 [.ref 0, .ref (i + 1000), .int v2, .int v3] (hM S) (fun r h' => ∃ S' : PS, h' = hM S' ∧ P (r, S')) := by
  refine CtI_of mf_X12_isWord rfl rfl (Nat.le_of_ble_eq_true rfl) rfl (hM_len S) ?_
  unfold f_X12_isWord at hf
  refine E_iload_n dX12_isWord_0 rfl ?_
  refine E_iload_n dX12_isWord_1 rfl ?_
  refine E_isub dX12_isWord_2 ?_
  refine E_aload_n dX12_isWord_3 rfl ?_
  refine E_callVI (st := [.int (v3 - v2)]) (c_J0_length_8abf5 l D dA ad (i := i) hi (hM S)) mf_J0_length_8abf5 rfl rfl gX12_isWord_J0_length_8abf5 (Or.inr ⟨i, hi, rfl, rfl⟩) (by omega) rfl (Nat.le_of_ble_eq_true rfl) (by rfl) dX12_isWord_4 (fun r1 h1 q1 => ?_)
  obtain ⟨rfl, rfl⟩ := q1
  refine E_icmp_ne (tgt := 14) dX12_isWord_7 (by decide) (fun c_2 => ?_) (fun c_2 => ?_)
  · have hf := pO_neg c_2 hf
    refine E_iconst (v := 0) dX12_isWord_14 (by decide) ?_
    refine E_istore (ls' := [(0, .ref 0), (1, .ref (i + 1000)), (2, .int v2), (3, .int v3), (4, .int 0)]) dX12_isWord_15 (by decide) rfl ?_
    refine E_iload_n dX12_isWord_17 rfl ?_
    refine E_istore (ls' := [(0, .ref 0), (1, .ref (i + 1000)), (2, .int v2), (3, .int v3), (4, .int 0), (5, .int v2)]) dX12_isWord_18 (by decide) rfl ?_
    refine E_sub (ls' := [(0, .ref 0), (1, .ref (i + 1000)), (2, .int v2), (3, .int v3), (4, .int 0), (5, .int v2)]) ⟨rfl, rfl, rfl, rfl, rfl, rfl, trivial⟩ ?_
    refine l_X12_isWord_20 l D dA ad i hi _ (by omega) pfuel S v2 v3 0 v2 (pO_lp hf (fun x hx => ⟨x.2, rfl, hx⟩) (fun w9 hf => ?_))
    obtain ⟨S_9, v4_9⟩ := w9
    dsimp only at hf ⊢
    refine E_iload dX12_isWord_62 rfl ?_
    obtain ⟨hn_10, hf⟩ := pO_gd hf
    exact E_zret rfl dX12_isWord_64 (pbit_n hn_10) ⟨_, rfl, hf⟩
  · have hf := pO_pos c_2 hf
    refine E_iconst (v := 1) dX12_isWord_10 (by decide) ?_
    refine E_goto (tgt := 15) dX12_isWord_11 (by decide) ?_
    refine E_istore (ls' := [(0, .ref 0), (1, .ref (i + 1000)), (2, .int v2), (3, .int v3), (4, .int 1)]) dX12_isWord_15 (by decide) rfl ?_
    refine E_iload_n dX12_isWord_17 rfl ?_
    refine E_istore (ls' := [(0, .ref 0), (1, .ref (i + 1000)), (2, .int v2), (3, .int v3), (4, .int 1), (5, .int v2)]) dX12_isWord_18 (by decide) rfl ?_
    refine E_sub (ls' := [(0, .ref 0), (1, .ref (i + 1000)), (2, .int v2), (3, .int v3), (4, .int 1), (5, .int v2)]) ⟨rfl, rfl, rfl, rfl, rfl, rfl, trivial⟩ ?_
    refine l_X12_isWord_20 l D dA ad i hi _ (by omega) pfuel S v2 v3 1 v2 (pO_lp hf (fun x hx => ⟨x.2, rfl, hx⟩) (fun w11 hf => ?_))
    obtain ⟨S_11, v4_11⟩ := w11
    dsimp only at hf ⊢
    refine E_iload dX12_isWord_62 rfl ?_
    obtain ⟨hn_12, hf⟩ := pO_gd hf
    exact E_zret rfl dX12_isWord_64 (pbit_n hn_12) ⟨_, rfl, hf⟩
def g_X12_takesWord_27 : Nat → PS → Int32 → Int32 → Option ((Int32 × PS) ⊕ (PS × Int32))
  | 0, _, _, _ => none
  | fuel + 1, S, v1, v2 =>
    if (4 : Int32) < v2 then (some (.inr (S, v2))) else (pbnd (f_X12_wordOf S v2) (fun r5 S_5 => pstr r5 (fun i5 => pbnd (f_X12_isWord S_5 i5 v1 (S_5.1 12)) (fun r6 S_6 => if r6 = (0 : Int32) then (g_X12_takesWord_27 fuel S_6 v1 (v2 + 1)) else (some (.inr (S_6, v2)))))))
set_option maxRecDepth 100000 in
theorem l_X12_takesWord_27 (l : Launch) (D : va_G) (dA : Nat → ClassId) (ad : Nat → Nat) (d : Nat) (hd : 6 ≤ d) {Q : Int32 → List PC → Prop} : ∀ (fuel : Nat) (S : PS) (v1 : Int32) (v2 : Int32), pO (g_X12_takesWord_27 fuel S v1 v2) (fun y => match y with
    | .inl x => Q x.1 (hM x.2)
    | .inr w => Ev l D dA ad wsX12_takesWord cX12_takesWord RX12 3 (some .boolean) d 38 (pKi D dA ad 38 Q) 54 [(0, .ref 0), (1, .int v1), (2, .int w.2)] [] (hM w.1)) → Ev l D dA ad wsX12_takesWord cX12_takesWord RX12 3 (some .boolean) d 38 (pKi D dA ad 38 Q) 27 [(0, .ref 0), (1, .int v1), (2, .int v2)] [] (hM S) := by
  intro fuel
  induction fuel with
  | zero =>
    intro S v1 v2 hf
    exact hf.elim
  | succ fuel ih =>
    intro S v1 v2 hf
    rw [g_X12_takesWord_27] at hf
    refine E_iload_n dX12_takesWord_27 rfl ?_
    refine E_iconst (v := 4) dX12_takesWord_28 (by decide) ?_
    refine E_icmp_gt (tgt := 54) dX12_takesWord_29 (by decide) (fun c_4 => ?_) (fun c_4 => ?_)
    · have hf := pO_pos c_4 hf
      exact E_sub (ls' := [(0, .ref 0), (1, .int v1), (2, .int v2)]) ⟨rfl, rfl, rfl, trivial⟩ hf
    · have hf := pO_neg c_4 hf
      refine E_aload_n dX12_takesWord_32 rfl ?_
      refine E_iload_n dX12_takesWord_33 rfl ?_
      refine E_callSR (st := [.ref 0]) (c_X12_wordOf l D dA ad S v2 (pO_bnd hf)) mf_X12_wordOf rfl gX12_takesWord_X12_wordOf (by omega) rfl (Nat.le_of_ble_eq_true rfl) (by rfl) dX12_takesWord_34 (fun r5 h5 q5 => ?_)
      obtain ⟨S_5, rfl, hf⟩ := q5
      dsimp only at hf
      obtain ⟨i5, hi5, ez5, hz5⟩ := pO_str hf
      clear hf
      subst ez5
      have hf := hz5
      refine E_iload_n dX12_takesWord_37 rfl ?_
      refine E_aload_n dX12_takesWord_38 rfl ?_
      refine E_getf (v := .int (S_5.1 12)) dX12_takesWord_39 fl_X12_takesWord_260 rfl rfl ?_
      refine E_callVI (st := []) (c_X12_isWord l D dA ad S_5 i5 hi5 v1 (S_5.1 12) (pO_bnd hf)) mf_X12_isWord rfl rfl gX12_takesWord_X12_isWord (pRc.of (ci := 12) rfl rfl) (by omega) rfl (Nat.le_of_ble_eq_true rfl) (by rfl) dX12_takesWord_42 (fun r6 h6 q6 => ?_)
      obtain ⟨S_6, rfl, hf⟩ := q6
      dsimp only at hf
      refine E_if_ne (tgt := 54) dX12_takesWord_45 (by decide) (fun c_7 => ?_) (fun c_7 => ?_)
      · have hf := pO_neg c_7 hf
        exact E_sub (ls' := [(0, .ref 0), (1, .int v1), (2, .int v2)]) ⟨rfl, rfl, rfl, trivial⟩ hf
      · have hf := pO_pos c_7 hf
        refine E_iinc (v := v2 + 1) (ls' := [(0, .ref 0), (1, .int v1), (2, .int (v2 + 1))]) dX12_takesWord_48 rfl rfl (by decide) rfl ?_
        refine E_goto (tgt := 27) dX12_takesWord_51 (by decide) ?_
        exact E_sub (ls' := [(0, .ref 0), (1, .int v1), (2, .int (v2 + 1))]) ⟨rfl, rfl, rfl, trivial⟩ (ih S_6 v1 (v2 + 1) hf)
theorem fl_X12_takesWord_71 : pFL wsX12_takesWord RX12 71 12 25 := ⟨RX12, TX12, 32, hi_X12_takesWord_12, rfl, by decide, by decide +kernel⟩
theorem fl_X12_takesWord_286 : pFL wsX12_takesWord RX12 286 12 24 := ⟨RX12, TX12, 32, hi_X12_takesWord_12, rfl, by decide, by decide +kernel⟩
theorem mf_X12_takesWord : pMF yX12_takesWord wsX12_takesWord cX12_takesWord 3 (some .boolean) 0 := ⟨⟨_, rfl⟩, by decide +kernel, by decide, by decide +kernel, by decide +kernel, by decide +kernel⟩
def f_X12_takesWord (S : PS) : Option (Int32 × PS) :=
  plp (g_X12_takesWord_5 pfuel S (S.1 12)) (fun (S_3 : PS) => plp (g_X12_takesWord_27 pfuel S_3 (S.1 12) 0) (fun w => (fun (S_8 : PS) (v2_8 : Int32) => if v2_8 ≤ (4 : Int32) then (pgd (pin (S_8.1 13) 80) (some (1, (pAr S_8 35 (upd (S_8.2 35) (S_8.1 13).toNatClampNeg v2_8))))) else (some (0, (pI S_8 12 (S.1 12))))) w.1 w.2))
set_option maxRecDepth 100000 in
theorem c_X12_takesWord (l : Launch) (D : va_G) (dA : Nat → ClassId) (ad : Nat → Nat) (S : PS) {P : (Int32 × PS) → Prop} (hf : pO (f_X12_takesWord S) P) : CtI l D dA ad yX12_takesWord wsX12_takesWord 6 [.ref 0] (hM S) (fun r h' => ∃ S' : PS, h' = hM S' ∧ P (r, S')) := by
  refine CtI_of mf_X12_takesWord rfl rfl (Nat.le_of_ble_eq_true rfl) rfl (hM_len S) ?_
  unfold f_X12_takesWord at hf
  refine E_aload_n dX12_takesWord_0 rfl ?_
  refine E_getf (v := .int (S.1 12)) dX12_takesWord_1 fl_X12_takesWord_260 rfl rfl ?_
  refine E_istore_n (ls' := [(0, .ref 0), (1, .int (S.1 12))]) dX12_takesWord_4 (by decide) rfl ?_
  refine E_sub (ls' := [(0, .ref 0), (1, .int (S.1 12))]) ⟨rfl, rfl, trivial⟩ ?_
  refine l_X12_takesWord_5 l D dA ad _ (by omega) pfuel S (S.1 12) (pO_lp hf (fun x hx => ⟨x.2, rfl, hx⟩) (fun w3 hf => ?_))
  obtain ⟨S_3, rfl⟩ : ∃ z, z = w3 := ⟨_, rfl⟩
  dsimp only at hf ⊢
  refine E_iconst (v := 0) dX12_takesWord_25 (by decide) ?_
  refine E_istore_n (ls' := [(0, .ref 0), (1, .int (S.1 12)), (2, .int 0)]) dX12_takesWord_26 (by decide) rfl ?_
  refine E_sub (ls' := [(0, .ref 0), (1, .int (S.1 12)), (2, .int 0)]) ⟨rfl, rfl, rfl, trivial⟩ ?_
  refine l_X12_takesWord_27 l D dA ad _ (by omega) pfuel S_3 (S.1 12) 0 (pO_lp hf (fun x hx => ⟨x.2, rfl, hx⟩) (fun w8 hf => ?_))
  obtain ⟨S_8, v2_8⟩ := w8
  dsimp only at hf ⊢
  refine E_iload_n dX12_takesWord_54 rfl ?_
  refine E_iconst (v := 4) dX12_takesWord_55 (by decide) ?_
  refine E_icmp_le (tgt := 66) dX12_takesWord_56 (by decide) (fun c_9 => ?_) (fun c_9 => ?_)
  · have hf := pO_pos c_9 hf
    refine E_aload_n dX12_takesWord_66 rfl ?_
    refine E_getf (v := .ref 17) dX12_takesWord_67 fl_X12_takesWord_71 rfl rfl ?_
    refine E_aload_n dX12_takesWord_70 rfl ?_
    refine E_getf (v := .int (S_8.1 13)) dX12_takesWord_71 fl_X12_takesWord_286 rfl rfl ?_
    refine E_iload_n dX12_takesWord_74 rfl ?_
    obtain ⟨hi_10, hf⟩ := pO_gd hf
    refine E_iast (n0 := 80) (f := S_8.2 35) (h' := hM (pAr S_8 35 (upd (S_8.2 35) (S_8.1 13).toNatClampNeg v2_8))) dX12_takesWord_75 rfl (pin_in hi_10) (sM_A35 S_8 (upd (S_8.2 35) (S_8.1 13).toNatClampNeg v2_8)) ?_
    refine E_iconst (v := 1) dX12_takesWord_76 (by decide) ?_
    exact E_zret rfl dX12_takesWord_77 (by decide) ⟨_, rfl, hf⟩
  · have hf := pO_neg c_9 hf
    refine E_aload_n dX12_takesWord_59 rfl ?_
    refine E_iload_n dX12_takesWord_60 rfl ?_
    refine E_putf (h' := hM (pI S_8 12 (S.1 12))) dX12_takesWord_61 fl_X12_takesWord_260 ft_12_23 rfl (Nat.lt_of_lt_of_eq (by decide : 23 < 32) rfl) rfl rfl ⟨_, rfl⟩ (sM_I12 S_8 (S.1 12)) ?_
    refine E_iconst (v := 0) dX12_takesWord_64 (by decide) ?_
    exact E_zret rfl dX12_takesWord_65 (by decide) ⟨_, rfl, hf⟩
theorem hi_X12_takesRest_12 : ∀ w ∈ u_ws RX12 TX12 32, w ∈ wsX12_takesRest := fun w h => of_decide_eq_true (List.all_eq_true.mp (by decide +kernel : (u_ws RX12 TX12 32).all (fun w => decide (w ∈ wsX12_takesRest)) = true) w h)
theorem fl_X12_takesRest_71 : pFL wsX12_takesRest RX12 71 12 25 := ⟨RX12, TX12, 32, hi_X12_takesRest_12, rfl, by decide, by decide +kernel⟩
theorem fl_X12_takesRest_286 : pFL wsX12_takesRest RX12 286 12 24 := ⟨RX12, TX12, 32, hi_X12_takesRest_12, rfl, by decide, by decide +kernel⟩
theorem hi_X12_isAt_12 : ∀ w ∈ u_ws RX12 TX12 32, w ∈ wsX12_isAt := fun w h => of_decide_eq_true (List.all_eq_true.mp (by decide +kernel : (u_ws RX12 TX12 32).all (fun w => decide (w ∈ wsX12_isAt)) = true) w h)
theorem fl_X12_isAt_260 : pFL wsX12_isAt RX12 260 12 23 := ⟨RX12, TX12, 32, hi_X12_isAt_12, rfl, by decide, by decide +kernel⟩
theorem fl_X12_isAt_257 : pFL wsX12_isAt RX12 257 12 22 := ⟨RX12, TX12, 32, hi_X12_isAt_12, rfl, by decide, by decide +kernel⟩
theorem fl_X12_isAt_68 : pFL wsX12_isAt RX12 68 12 21 := ⟨RX12, TX12, 32, hi_X12_isAt_12, rfl, by decide, by decide +kernel⟩
theorem mf_X12_isAt : pMF yX12_isAt wsX12_isAt cX12_isAt 2 (some .boolean) 1 := ⟨⟨_, rfl⟩, by decide +kernel, by decide, by decide +kernel, by decide +kernel, by decide +kernel⟩
def f_X12_isAt (S : PS) (v1 : Int32) : Option (Int32 × PS) :=
  if (S.1 11) ≤ (S.1 12) then (some (0, S)) else (pgd (pin (S.1 12) 80) (if ((S.2 28) (S.1 12).toNatClampNeg) = v1 then (some (1, S)) else (some (0, S))))
set_option maxRecDepth 100000 in
theorem c_X12_isAt (l : Launch) (D : va_G) (dA : Nat → ClassId) (ad : Nat → Nat) (S : PS) (v1 : Int32) {P : (Int32 × PS) → Prop} (hf : pO (f_X12_isAt S v1) P) : CtI l D dA ad yX12_isAt wsX12_isAt 0 [.ref 0, .int v1] (hM S) (fun r h' => ∃ S' : PS, h' = hM S' ∧ P (r, S')) := by
  refine CtI_of mf_X12_isAt rfl rfl (Nat.le_of_ble_eq_true rfl) rfl (hM_len S) ?_
  unfold f_X12_isAt at hf
  refine E_aload_n dX12_isAt_0 rfl ?_
  refine E_getf (v := .int (S.1 12)) dX12_isAt_1 fl_X12_isAt_260 rfl rfl ?_
  refine E_aload_n dX12_isAt_4 rfl ?_
  refine E_getf (v := .int (S.1 11)) dX12_isAt_5 fl_X12_isAt_257 rfl rfl ?_
  refine E_icmp_ge (tgt := 28) dX12_isAt_8 (by decide) (fun c_1 => ?_) (fun c_1 => ?_)
  · have hf := pO_pos c_1 hf
    refine E_iconst (v := 0) dX12_isAt_28 (by decide) ?_
    exact E_zret rfl dX12_isAt_29 (by decide) ⟨_, rfl, hf⟩
  · have hf := pO_neg c_1 hf
    refine E_aload_n dX12_isAt_11 rfl ?_
    refine E_getf (v := .ref 16) dX12_isAt_12 fl_X12_isAt_68 rfl rfl ?_
    refine E_aload_n dX12_isAt_15 rfl ?_
    refine E_getf (v := .int (S.1 12)) dX12_isAt_16 fl_X12_isAt_260 rfl rfl ?_
    obtain ⟨hi_2, hf⟩ := pO_gd hf
    refine E_bald (n0 := 80) (f := S.2 28) dX12_isAt_19 rfl (pin_in hi_2) ?_
    refine E_iload_n dX12_isAt_20 rfl ?_
    refine E_icmp_ne (tgt := 28) dX12_isAt_21 (by decide) (fun c_3 => ?_) (fun c_3 => ?_)
    · have hf := pO_neg c_3 hf
      refine E_iconst (v := 0) dX12_isAt_28 (by decide) ?_
      exact E_zret rfl dX12_isAt_29 (by decide) ⟨_, rfl, hf⟩
    · have hf := pO_pos c_3 hf
      refine E_iconst (v := 1) dX12_isAt_24 (by decide) ?_
      refine E_goto (tgt := 29) dX12_isAt_25 (by decide) ?_
      exact E_zret rfl dX12_isAt_29 (by decide) ⟨_, rfl, hf⟩
theorem hi_X12_takesBlank_12 : ∀ w ∈ u_ws RX12 TX12 32, w ∈ wsX12_takesBlank := fun w h => of_decide_eq_true (List.all_eq_true.mp (by decide +kernel : (u_ws RX12 TX12 32).all (fun w => decide (w ∈ wsX12_takesBlank)) = true) w h)
theorem fl_X12_takesBlank_260 : pFL wsX12_takesBlank RX12 260 12 23 := ⟨RX12, TX12, 32, hi_X12_takesBlank_12, rfl, by decide, by decide +kernel⟩
theorem mf_X12_takesBlank : pMF yX12_takesBlank wsX12_takesBlank cX12_takesBlank 1 (some .boolean) 0 := ⟨⟨_, rfl⟩, by decide +kernel, by decide, by decide +kernel, by decide +kernel, by decide +kernel⟩
def f_X12_takesBlank (S : PS) : Option (Int32 × PS) :=
  pbnd (f_X12_isAt S 32) (fun r1 S_1 => if r1 = (0 : Int32) then (some (0, S_1)) else (some (1, (pI S_1 12 ((S_1.1 12) + 1)))))
set_option maxRecDepth 100000 in
theorem c_X12_takesBlank (l : Launch) (D : va_G) (dA : Nat → ClassId) (ad : Nat → Nat) (S : PS) {P : (Int32 × PS) → Prop} (hf : pO (f_X12_takesBlank S) P) : CtI l D dA ad yX12_takesBlank wsX12_takesBlank 1 [.ref 0] (hM S) (fun r h' => ∃ S' : PS, h' = hM S' ∧ P (r, S')) := by
  refine CtI_of mf_X12_takesBlank rfl rfl (Nat.le_of_ble_eq_true rfl) rfl (hM_len S) ?_
  unfold f_X12_takesBlank at hf
  refine E_aload_n dX12_takesBlank_0 rfl ?_
  refine E_bipush (v := 32) dX12_takesBlank_1 (by decide) ?_
  refine E_callVI (st := []) (c_X12_isAt l D dA ad S 32 (pO_bnd hf)) mf_X12_isAt rfl rfl gX12_takesBlank_X12_isAt (pRc.of (ci := 12) rfl rfl) (by omega) rfl (Nat.le_of_ble_eq_true rfl) (by rfl) dX12_takesBlank_3 (fun r1 h1 q1 => ?_)
  obtain ⟨S_1, rfl, hf⟩ := q1
  dsimp only at hf
  refine E_if_ne (tgt := 11) dX12_takesBlank_6 (by decide) (fun c_2 => ?_) (fun c_2 => ?_)
  · have hf := pO_neg c_2 hf
    refine E_aload_n dX12_takesBlank_11 rfl ?_
    refine E_dup dX12_takesBlank_12 rfl ?_
    refine E_getf (v := .int (S_1.1 12)) dX12_takesBlank_13 fl_X12_takesBlank_260 rfl rfl ?_
    refine E_iconst (v := 1) dX12_takesBlank_16 (by decide) ?_
    refine E_iadd dX12_takesBlank_17 ?_
    refine E_putf (h' := hM (pI S_1 12 ((S_1.1 12) + 1))) dX12_takesBlank_18 fl_X12_takesBlank_260 ft_12_23 rfl (Nat.lt_of_lt_of_eq (by decide : 23 < 32) rfl) rfl rfl ⟨_, rfl⟩ (sM_I12 S_1 ((S_1.1 12) + 1)) ?_
    refine E_iconst (v := 1) dX12_takesBlank_21 (by decide) ?_
    exact E_zret rfl dX12_takesBlank_22 (by decide) ⟨_, rfl, hf⟩
  · have hf := pO_pos c_2 hf
    refine E_iconst (v := 0) dX12_takesBlank_9 (by decide) ?_
    exact E_zret rfl dX12_takesBlank_10 (by decide) ⟨_, rfl, hf⟩
theorem hi_X12_takesName_12 : ∀ w ∈ u_ws RX12 TX12 32, w ∈ wsX12_takesName := fun w h => of_decide_eq_true (List.all_eq_true.mp (by decide +kernel : (u_ws RX12 TX12 32).all (fun w => decide (w ∈ wsX12_takesName)) = true) w h)
theorem fl_X12_takesName_68 : pFL wsX12_takesName RX12 68 12 21 := ⟨RX12, TX12, 32, hi_X12_takesName_12, rfl, by decide, by decide +kernel⟩
theorem fl_X12_takesName_260 : pFL wsX12_takesName RX12 260 12 23 := ⟨RX12, TX12, 32, hi_X12_takesName_12, rfl, by decide, by decide +kernel⟩
def g_X12_takesName_20 : Nat → PS → Int32 → Int32 → Int32 → Option ((Int32 × PS) ⊕ (PS × Int32))
  | 0, _, _, _, _ => none
  | fuel + 1, S, v1, v2, v3 =>
    if (4 : Int32) ≤ v3 then (some (.inr (S, v2))) else (pbnd (f_X12_isLetter S) (fun r6 S_6 => if r6 = (0 : Int32) then (some (.inr (S_6, v2))) else (pgd (pin (S_6.1 12) 80) (g_X12_takesName_20 fuel (pI S_6 12 ((S_6.1 12) + 1)) v1 ((((27 * v2) + ((S_6.2 28) (S_6.1 12).toNatClampNeg)) - 97) + 1) (v3 + 1)))))
set_option maxRecDepth 100000 in
theorem l_X12_takesName_20 (l : Launch) (D : va_G) (dA : Nat → ClassId) (ad : Nat → Nat) (d : Nat) (hd : 2 ≤ d) {Q : Int32 → List PC → Prop} : ∀ (fuel : Nat) (S : PS) (v1 : Int32) (v2 : Int32) (v3 : Int32), pO (g_X12_takesName_20 fuel S v1 v2 v3) (fun y => match y with
    | .inl x => Q x.1 (hM x.2)
    | .inr w => Ev l D dA ad wsX12_takesName cX12_takesName RX12 4 (some .boolean) d 38 (pKi D dA ad 38 Q) 68 [(0, .ref 0), (1, .int v1), (2, .int w.2)] [] (hM w.1)) → Ev l D dA ad wsX12_takesName cX12_takesName RX12 4 (some .boolean) d 38 (pKi D dA ad 38 Q) 20 [(0, .ref 0), (1, .int v1), (2, .int v2), (3, .int v3)] [] (hM S) := by
  intro fuel
  induction fuel with
  | zero =>
    intro S v1 v2 v3 hf
    exact hf.elim
  | succ fuel ih =>
    intro S v1 v2 v3 hf
    rw [g_X12_takesName_20] at hf
    refine E_iload_n dX12_takesName_20 rfl ?_
    refine E_iconst (v := 4) dX12_takesName_21 (by decide) ?_
    refine E_icmp_ge (tgt := 68) dX12_takesName_22 (by decide) (fun c_5 => ?_) (fun c_5 => ?_)
    · have hf := pO_pos c_5 hf
      exact E_sub (ls' := [(0, .ref 0), (1, .int v1), (2, .int v2)]) ⟨rfl, rfl, rfl, trivial⟩ hf
    · have hf := pO_neg c_5 hf
      refine E_aload_n dX12_takesName_25 rfl ?_
      refine E_callVI (st := []) (c_X12_isLetter l D dA ad S (pO_bnd hf)) mf_X12_isLetter rfl rfl gX12_takesName_X12_isLetter (pRc.of (ci := 12) rfl rfl) (by omega) rfl (Nat.le_of_ble_eq_true rfl) (by rfl) dX12_takesName_26 (fun r6 h6 q6 => ?_)
      obtain ⟨S_6, rfl, hf⟩ := q6
      dsimp only at hf
      refine E_if_eq (tgt := 68) dX12_takesName_29 (by decide) (fun c_7 => ?_) (fun c_7 => ?_)
      · have hf := pO_pos c_7 hf
        exact E_sub (ls' := [(0, .ref 0), (1, .int v1), (2, .int v2)]) ⟨rfl, rfl, rfl, trivial⟩ hf
      · have hf := pO_neg c_7 hf
        refine E_bipush (v := 27) dX12_takesName_32 (by decide) ?_
        refine E_iload_n dX12_takesName_34 rfl ?_
        refine E_imul dX12_takesName_35 ?_
        refine E_aload_n dX12_takesName_36 rfl ?_
        refine E_getf (v := .ref 16) dX12_takesName_37 fl_X12_takesName_68 rfl rfl ?_
        refine E_aload_n dX12_takesName_40 rfl ?_
        refine E_getf (v := .int (S_6.1 12)) dX12_takesName_41 fl_X12_takesName_260 rfl rfl ?_
        obtain ⟨hi_8, hf⟩ := pO_gd hf
        refine E_bald (n0 := 80) (f := S_6.2 28) dX12_takesName_44 rfl (pin_in hi_8) ?_
        refine E_iadd dX12_takesName_45 ?_
        refine E_bipush (v := 97) dX12_takesName_46 (by decide) ?_
        refine E_isub dX12_takesName_48 ?_
        refine E_iconst (v := 1) dX12_takesName_49 (by decide) ?_
        refine E_iadd dX12_takesName_50 ?_
        refine E_istore_n (ls' := [(0, .ref 0), (1, .int v1), (2, .int ((((27 * v2) + ((S_6.2 28) (S_6.1 12).toNatClampNeg)) - 97) + 1)), (3, .int v3)]) dX12_takesName_51 (by decide) rfl ?_
        refine E_aload_n dX12_takesName_52 rfl ?_
        refine E_dup dX12_takesName_53 rfl ?_
        refine E_getf (v := .int (S_6.1 12)) dX12_takesName_54 fl_X12_takesName_260 rfl rfl ?_
        refine E_iconst (v := 1) dX12_takesName_57 (by decide) ?_
        refine E_iadd dX12_takesName_58 ?_
        refine E_putf (h' := hM (pI S_6 12 ((S_6.1 12) + 1))) dX12_takesName_59 fl_X12_takesName_260 ft_12_23 rfl (Nat.lt_of_lt_of_eq (by decide : 23 < 32) rfl) rfl rfl ⟨_, rfl⟩ (sM_I12 S_6 ((S_6.1 12) + 1)) ?_
        refine E_iinc (v := v3 + 1) (ls' := [(0, .ref 0), (1, .int v1), (2, .int ((((27 * v2) + ((S_6.2 28) (S_6.1 12).toNatClampNeg)) - 97) + 1)), (3, .int (v3 + 1))]) dX12_takesName_62 rfl rfl (by decide) rfl ?_
        refine E_goto (tgt := 20) dX12_takesName_65 (by decide) ?_
        exact E_sub (ls' := [(0, .ref 0), (1, .int v1), (2, .int ((((27 * v2) + ((S_6.2 28) (S_6.1 12).toNatClampNeg)) - 97) + 1)), (3, .int (v3 + 1))]) ⟨rfl, rfl, rfl, rfl, trivial⟩ (ih (pI S_6 12 ((S_6.1 12) + 1)) v1 ((((27 * v2) + ((S_6.2 28) (S_6.1 12).toNatClampNeg)) - 97) + 1) (v3 + 1) hf)
theorem fl_X12_takesName_74 : pFL wsX12_takesName RX12 74 12 26 := ⟨RX12, TX12, 32, hi_X12_takesName_12, rfl, by decide, by decide +kernel⟩
theorem fl_X12_takesName_286 : pFL wsX12_takesName RX12 286 12 24 := ⟨RX12, TX12, 32, hi_X12_takesName_12, rfl, by decide, by decide +kernel⟩
theorem mf_X12_takesName : pMF yX12_takesName wsX12_takesName cX12_takesName 4 (some .boolean) 1 := ⟨⟨_, rfl⟩, by decide +kernel, by decide, by decide +kernel, by decide +kernel, by decide +kernel⟩
def f_X12_takesName (S : PS) (v1 : Int32) : Option (Int32 × PS) :=
  pbnd (f_X12_takesBlank S) (fun r1 S_1 => if r1 = (0 : Int32) then (some (0, S_1)) else (pbnd (f_X12_isLetter S_1) (fun r3 S_3 => if r3 = (0 : Int32) then (some (0, S_3)) else (plp (g_X12_takesName_20 pfuel S_3 v1 0 0) (fun w => (fun (S_9 : PS) (v2_9 : Int32) => pgd (pin ((6 * (S_9.1 13)) + v1) 480) (pbnd (f_X12_isLetter (pAr S_9 36 (upd (S_9.2 36) ((6 * (S_9.1 13)) + v1).toNatClampNeg v2_9))) (fun r11 S_11 => if r11 = (0 : Int32) then (some (1, S_11)) else (some (0, S_11))))) w.1 w.2)))))
set_option maxRecDepth 100000 in
theorem c_X12_takesName (l : Launch) (D : va_G) (dA : Nat → ClassId) (ad : Nat → Nat) (S : PS) (v1 : Int32) {P : (Int32 × PS) → Prop} (hf : pO (f_X12_takesName S v1) P) : CtI l D dA ad yX12_takesName wsX12_takesName 2 [.ref 0, .int v1] (hM S) (fun r h' => ∃ S' : PS, h' = hM S' ∧ P (r, S')) := by
  refine CtI_of mf_X12_takesName rfl rfl (Nat.le_of_ble_eq_true rfl) rfl (hM_len S) ?_
  unfold f_X12_takesName at hf
  refine E_aload_n dX12_takesName_0 rfl ?_
  refine E_callVI (st := []) (c_X12_takesBlank l D dA ad S (pO_bnd hf)) mf_X12_takesBlank rfl rfl gX12_takesName_X12_takesBlank (pRc.of (ci := 12) rfl rfl) (by omega) rfl (Nat.le_of_ble_eq_true rfl) (by rfl) dX12_takesName_1 (fun r1 h1 q1 => ?_)
  obtain ⟨S_1, rfl, hf⟩ := q1
  dsimp only at hf
  refine E_if_eq (tgt := 14) dX12_takesName_4 (by decide) (fun c_2 => ?_) (fun c_2 => ?_)
  · have hf := pO_pos c_2 hf
    refine E_iconst (v := 0) dX12_takesName_14 (by decide) ?_
    exact E_zret rfl dX12_takesName_15 (by decide) ⟨_, rfl, hf⟩
  · have hf := pO_neg c_2 hf
    refine E_aload_n dX12_takesName_7 rfl ?_
    refine E_callVI (st := []) (c_X12_isLetter l D dA ad S_1 (pO_bnd hf)) mf_X12_isLetter rfl rfl gX12_takesName_X12_isLetter (pRc.of (ci := 12) rfl rfl) (by omega) rfl (Nat.le_of_ble_eq_true rfl) (by rfl) dX12_takesName_8 (fun r3 h3 q3 => ?_)
    obtain ⟨S_3, rfl, hf⟩ := q3
    dsimp only at hf
    refine E_if_ne (tgt := 16) dX12_takesName_11 (by decide) (fun c_4 => ?_) (fun c_4 => ?_)
    · have hf := pO_neg c_4 hf
      refine E_iconst (v := 0) dX12_takesName_16 (by decide) ?_
      refine E_istore_n (ls' := [(0, .ref 0), (1, .int v1), (2, .int 0)]) dX12_takesName_17 (by decide) rfl ?_
      refine E_iconst (v := 0) dX12_takesName_18 (by decide) ?_
      refine E_istore_n (ls' := [(0, .ref 0), (1, .int v1), (2, .int 0), (3, .int 0)]) dX12_takesName_19 (by decide) rfl ?_
      refine E_sub (ls' := [(0, .ref 0), (1, .int v1), (2, .int 0), (3, .int 0)]) ⟨rfl, rfl, rfl, rfl, trivial⟩ ?_
      refine l_X12_takesName_20 l D dA ad _ (by omega) pfuel S_3 v1 0 0 (pO_lp hf (fun x hx => ⟨x.2, rfl, hx⟩) (fun w9 hf => ?_))
      obtain ⟨S_9, v2_9⟩ := w9
      dsimp only at hf ⊢
      refine E_aload_n dX12_takesName_68 rfl ?_
      refine E_getf (v := .ref 18) dX12_takesName_69 fl_X12_takesName_74 rfl rfl ?_
      refine E_bipush (v := 6) dX12_takesName_72 (by decide) ?_
      refine E_aload_n dX12_takesName_74 rfl ?_
      refine E_getf (v := .int (S_9.1 13)) dX12_takesName_75 fl_X12_takesName_286 rfl rfl ?_
      refine E_imul dX12_takesName_78 ?_
      refine E_iload_n dX12_takesName_79 rfl ?_
      refine E_iadd dX12_takesName_80 ?_
      refine E_iload_n dX12_takesName_81 rfl ?_
      obtain ⟨hi_10, hf⟩ := pO_gd hf
      refine E_iast (n0 := 480) (f := S_9.2 36) (h' := hM (pAr S_9 36 (upd (S_9.2 36) ((6 * (S_9.1 13)) + v1).toNatClampNeg v2_9))) dX12_takesName_82 rfl (pin_in hi_10) (sM_A36 S_9 (upd (S_9.2 36) ((6 * (S_9.1 13)) + v1).toNatClampNeg v2_9)) ?_
      refine E_aload_n dX12_takesName_83 rfl ?_
      refine E_callVI (st := []) (c_X12_isLetter l D dA ad (pAr S_9 36 (upd (S_9.2 36) ((6 * (S_9.1 13)) + v1).toNatClampNeg v2_9)) (pO_bnd hf)) mf_X12_isLetter rfl rfl gX12_takesName_X12_isLetter (pRc.of (ci := 12) rfl rfl) (by omega) rfl (Nat.le_of_ble_eq_true rfl) (by rfl) dX12_takesName_84 (fun r11 h11 q11 => ?_)
      obtain ⟨S_11, rfl, hf⟩ := q11
      dsimp only at hf
      refine E_if_ne (tgt := 94) dX12_takesName_87 (by decide) (fun c_12 => ?_) (fun c_12 => ?_)
      · have hf := pO_neg c_12 hf
        refine E_iconst (v := 0) dX12_takesName_94 (by decide) ?_
        exact E_zret rfl dX12_takesName_95 (by decide) ⟨_, rfl, hf⟩
      · have hf := pO_pos c_12 hf
        refine E_iconst (v := 1) dX12_takesName_90 (by decide) ?_
        refine E_goto (tgt := 95) dX12_takesName_91 (by decide) ?_
        exact E_zret rfl dX12_takesName_95 (by decide) ⟨_, rfl, hf⟩
    · have hf := pO_pos c_4 hf
      refine E_iconst (v := 0) dX12_takesName_14 (by decide) ?_
      exact E_zret rfl dX12_takesName_15 (by decide) ⟨_, rfl, hf⟩
theorem hi_X12_isFigure_12 : ∀ w ∈ u_ws RX12 TX12 32, w ∈ wsX12_isFigure := fun w h => of_decide_eq_true (List.all_eq_true.mp (by decide +kernel : (u_ws RX12 TX12 32).all (fun w => decide (w ∈ wsX12_isFigure)) = true) w h)
theorem fl_X12_isFigure_260 : pFL wsX12_isFigure RX12 260 12 23 := ⟨RX12, TX12, 32, hi_X12_isFigure_12, rfl, by decide, by decide +kernel⟩
theorem fl_X12_isFigure_257 : pFL wsX12_isFigure RX12 257 12 22 := ⟨RX12, TX12, 32, hi_X12_isFigure_12, rfl, by decide, by decide +kernel⟩
theorem fl_X12_isFigure_68 : pFL wsX12_isFigure RX12 68 12 21 := ⟨RX12, TX12, 32, hi_X12_isFigure_12, rfl, by decide, by decide +kernel⟩
theorem mf_X12_isFigure : pMF yX12_isFigure wsX12_isFigure cX12_isFigure 1 (some .boolean) 0 := ⟨⟨_, rfl⟩, by decide +kernel, by decide, by decide +kernel, by decide +kernel, by decide +kernel⟩
def f_X12_isFigure (S : PS) : Option (Int32 × PS) :=
  if (S.1 11) ≤ (S.1 12) then (some (0, S)) else (pgd (pin (S.1 12) 80) (pbnd (f_X12_in S ((S.2 28) (S.1 12).toNatClampNeg) 48 57) (fun r3 S_3 => if r3 = (0 : Int32) then (some (0, S_3)) else (some (1, S_3)))))
set_option maxRecDepth 100000 in
theorem c_X12_isFigure (l : Launch) (D : va_G) (dA : Nat → ClassId) (ad : Nat → Nat) (S : PS) {P : (Int32 × PS) → Prop} (hf : pO (f_X12_isFigure S) P) : CtI l D dA ad yX12_isFigure wsX12_isFigure 1 [.ref 0] (hM S) (fun r h' => ∃ S' : PS, h' = hM S' ∧ P (r, S')) := by
  refine CtI_of mf_X12_isFigure rfl rfl (Nat.le_of_ble_eq_true rfl) rfl (hM_len S) ?_
  unfold f_X12_isFigure at hf
  refine E_aload_n dX12_isFigure_0 rfl ?_
  refine E_getf (v := .int (S.1 12)) dX12_isFigure_1 fl_X12_isFigure_260 rfl rfl ?_
  refine E_aload_n dX12_isFigure_4 rfl ?_
  refine E_getf (v := .int (S.1 11)) dX12_isFigure_5 fl_X12_isFigure_257 rfl rfl ?_
  refine E_icmp_ge (tgt := 34) dX12_isFigure_8 (by decide) (fun c_1 => ?_) (fun c_1 => ?_)
  · have hf := pO_pos c_1 hf
    refine E_iconst (v := 0) dX12_isFigure_34 (by decide) ?_
    exact E_zret rfl dX12_isFigure_35 (by decide) ⟨_, rfl, hf⟩
  · have hf := pO_neg c_1 hf
    refine E_aload_n dX12_isFigure_11 rfl ?_
    refine E_getf (v := .ref 16) dX12_isFigure_12 fl_X12_isFigure_68 rfl rfl ?_
    refine E_aload_n dX12_isFigure_15 rfl ?_
    refine E_getf (v := .int (S.1 12)) dX12_isFigure_16 fl_X12_isFigure_260 rfl rfl ?_
    obtain ⟨hi_2, hf⟩ := pO_gd hf
    refine E_bald (n0 := 80) (f := S.2 28) dX12_isFigure_19 rfl (pin_in hi_2) ?_
    refine E_bipush (v := 48) dX12_isFigure_20 (by decide) ?_
    refine E_bipush (v := 57) dX12_isFigure_22 (by decide) ?_
    refine E_callSI (st := []) (c_X12_in l D dA ad S ((S.2 28) (S.1 12).toNatClampNeg) 48 57 (pO_bnd hf)) mf_X12_in rfl gX12_isFigure_X12_in (by omega) rfl (Nat.le_of_ble_eq_true rfl) (by rfl) dX12_isFigure_24 (fun r3 h3 q3 => ?_)
    obtain ⟨S_3, rfl, hf⟩ := q3
    dsimp only at hf
    refine E_if_eq (tgt := 34) dX12_isFigure_27 (by decide) (fun c_4 => ?_) (fun c_4 => ?_)
    · have hf := pO_pos c_4 hf
      refine E_iconst (v := 0) dX12_isFigure_34 (by decide) ?_
      exact E_zret rfl dX12_isFigure_35 (by decide) ⟨_, rfl, hf⟩
    · have hf := pO_neg c_4 hf
      refine E_iconst (v := 1) dX12_isFigure_30 (by decide) ?_
      refine E_goto (tgt := 35) dX12_isFigure_31 (by decide) ?_
      exact E_zret rfl dX12_isFigure_35 (by decide) ⟨_, rfl, hf⟩
theorem hi_X12_takesNumber_12 : ∀ w ∈ u_ws RX12 TX12 32, w ∈ wsX12_takesNumber := fun w h => of_decide_eq_true (List.all_eq_true.mp (by decide +kernel : (u_ws RX12 TX12 32).all (fun w => decide (w ∈ wsX12_takesNumber)) = true) w h)
theorem fl_X12_takesNumber_68 : pFL wsX12_takesNumber RX12 68 12 21 := ⟨RX12, TX12, 32, hi_X12_takesNumber_12, rfl, by decide, by decide +kernel⟩
theorem fl_X12_takesNumber_260 : pFL wsX12_takesNumber RX12 260 12 23 := ⟨RX12, TX12, 32, hi_X12_takesNumber_12, rfl, by decide, by decide +kernel⟩
def g_X12_takesNumber_57 : Nat → PS → Int32 → Int32 → Int32 → Int32 → Option ((Int32 × PS) ⊕ (PS × Int32))
  | 0, _, _, _, _, _ => none
  | fuel + 1, S, v1, v3, v4, v5 =>
    if (3 : Int32) ≤ v5 then (some (.inr (S, v4))) else (pbnd (f_X12_isFigure S) (fun r7 S_7 => if r7 = (0 : Int32) then (some (.inr (S_7, v4))) else (pgd (pin (S_7.1 12) 80) (g_X12_takesNumber_57 fuel (pI S_7 12 ((S_7.1 12) + 1)) v1 v3 (((10 * v4) + ((S_7.2 28) (S_7.1 12).toNatClampNeg)) - 48) (v5 + 1)))))
set_option maxRecDepth 100000 in
theorem l_X12_takesNumber_57 (l : Launch) (D : va_G) (dA : Nat → ClassId) (ad : Nat → Nat) (d : Nat) (hd : 2 ≤ d) {Q : Int32 → List PC → Prop} : ∀ (fuel : Nat) (S : PS) (v1 : Int32) (v3 : Int32) (v4 : Int32) (v5 : Int32), pO (g_X12_takesNumber_57 fuel S v1 v3 v4 v5) (fun y => match y with
    | .inl x => Q x.1 (hM x.2)
    | .inr w => Ev l D dA ad wsX12_takesNumber cX12_takesNumber RX12 6 (some .boolean) d 38 (pKi D dA ad 38 Q) 106 [(0, .ref 0), (1, .int v1), (3, .int v3), (4, .int w.2)] [] (hM w.1)) → Ev l D dA ad wsX12_takesNumber cX12_takesNumber RX12 6 (some .boolean) d 38 (pKi D dA ad 38 Q) 57 [(0, .ref 0), (1, .int v1), (3, .int v3), (4, .int v4), (5, .int v5)] [] (hM S) := by
  intro fuel
  induction fuel with
  | zero =>
    intro S v1 v3 v4 v5 hf
    exact hf.elim
  | succ fuel ih =>
    intro S v1 v3 v4 v5 hf
    rw [g_X12_takesNumber_57] at hf
    refine E_iload dX12_takesNumber_57 rfl ?_
    refine E_iconst (v := 3) dX12_takesNumber_59 (by decide) ?_
    refine E_icmp_ge (tgt := 106) dX12_takesNumber_60 (by decide) (fun c_6 => ?_) (fun c_6 => ?_)
    · have hf := pO_pos c_6 hf
      exact E_sub (ls' := [(0, .ref 0), (1, .int v1), (3, .int v3), (4, .int v4)]) ⟨rfl, rfl, rfl, rfl, trivial⟩ hf
    · have hf := pO_neg c_6 hf
      refine E_aload_n dX12_takesNumber_63 rfl ?_
      refine E_callVI (st := []) (c_X12_isFigure l D dA ad S (pO_bnd hf)) mf_X12_isFigure rfl rfl gX12_takesNumber_X12_isFigure (pRc.of (ci := 12) rfl rfl) (by omega) rfl (Nat.le_of_ble_eq_true rfl) (by rfl) dX12_takesNumber_64 (fun r7 h7 q7 => ?_)
      obtain ⟨S_7, rfl, hf⟩ := q7
      dsimp only at hf
      refine E_if_eq (tgt := 106) dX12_takesNumber_67 (by decide) (fun c_8 => ?_) (fun c_8 => ?_)
      · have hf := pO_pos c_8 hf
        exact E_sub (ls' := [(0, .ref 0), (1, .int v1), (3, .int v3), (4, .int v4)]) ⟨rfl, rfl, rfl, rfl, trivial⟩ hf
      · have hf := pO_neg c_8 hf
        refine E_bipush (v := 10) dX12_takesNumber_70 (by decide) ?_
        refine E_iload dX12_takesNumber_72 rfl ?_
        refine E_imul dX12_takesNumber_74 ?_
        refine E_aload_n dX12_takesNumber_75 rfl ?_
        refine E_getf (v := .ref 16) dX12_takesNumber_76 fl_X12_takesNumber_68 rfl rfl ?_
        refine E_aload_n dX12_takesNumber_79 rfl ?_
        refine E_getf (v := .int (S_7.1 12)) dX12_takesNumber_80 fl_X12_takesNumber_260 rfl rfl ?_
        obtain ⟨hi_9, hf⟩ := pO_gd hf
        refine E_bald (n0 := 80) (f := S_7.2 28) dX12_takesNumber_83 rfl (pin_in hi_9) ?_
        refine E_iadd dX12_takesNumber_84 ?_
        refine E_bipush (v := 48) dX12_takesNumber_85 (by decide) ?_
        refine E_isub dX12_takesNumber_87 ?_
        refine E_istore (ls' := [(0, .ref 0), (1, .int v1), (3, .int v3), (4, .int (((10 * v4) + ((S_7.2 28) (S_7.1 12).toNatClampNeg)) - 48)), (5, .int v5)]) dX12_takesNumber_88 (by decide) rfl ?_
        refine E_aload_n dX12_takesNumber_90 rfl ?_
        refine E_dup dX12_takesNumber_91 rfl ?_
        refine E_getf (v := .int (S_7.1 12)) dX12_takesNumber_92 fl_X12_takesNumber_260 rfl rfl ?_
        refine E_iconst (v := 1) dX12_takesNumber_95 (by decide) ?_
        refine E_iadd dX12_takesNumber_96 ?_
        refine E_putf (h' := hM (pI S_7 12 ((S_7.1 12) + 1))) dX12_takesNumber_97 fl_X12_takesNumber_260 ft_12_23 rfl (Nat.lt_of_lt_of_eq (by decide : 23 < 32) rfl) rfl rfl ⟨_, rfl⟩ (sM_I12 S_7 ((S_7.1 12) + 1)) ?_
        refine E_iinc (v := v5 + 1) (ls' := [(0, .ref 0), (1, .int v1), (3, .int v3), (4, .int (((10 * v4) + ((S_7.2 28) (S_7.1 12).toNatClampNeg)) - 48)), (5, .int (v5 + 1))]) dX12_takesNumber_100 rfl rfl (by decide) rfl ?_
        refine E_goto (tgt := 57) dX12_takesNumber_103 (by decide) ?_
        exact E_sub (ls' := [(0, .ref 0), (1, .int v1), (3, .int v3), (4, .int (((10 * v4) + ((S_7.2 28) (S_7.1 12).toNatClampNeg)) - 48)), (5, .int (v5 + 1))]) ⟨rfl, rfl, rfl, rfl, rfl, trivial⟩ (ih (pI S_7 12 ((S_7.1 12) + 1)) v1 v3 (((10 * v4) + ((S_7.2 28) (S_7.1 12).toNatClampNeg)) - 48) (v5 + 1) hf)
theorem fl_X12_takesNumber_74 : pFL wsX12_takesNumber RX12 74 12 26 := ⟨RX12, TX12, 32, hi_X12_takesNumber_12, rfl, by decide, by decide +kernel⟩
theorem fl_X12_takesNumber_286 : pFL wsX12_takesNumber RX12 286 12 24 := ⟨RX12, TX12, 32, hi_X12_takesNumber_12, rfl, by decide, by decide +kernel⟩
theorem mf_X12_takesNumber : pMF yX12_takesNumber wsX12_takesNumber cX12_takesNumber 6 (some .boolean) 2 := ⟨⟨_, rfl⟩, by decide +kernel, by decide, by decide +kernel, by decide +kernel, by decide +kernel⟩
def f_X12_takesNumber (S : PS) (v1 : Int32) (v2 : Int32) : Option (Int32 × PS) :=
  pbnd (f_X12_takesBlank S) (fun r1 S_1 => if r1 = (0 : Int32) then (some (0, S_1)) else (if v2 = (0 : Int32) then (pbnd (f_X12_isFigure S_1) (fun r4 S_4 => if r4 = (0 : Int32) then (some (0, S_4)) else (plp (g_X12_takesNumber_57 pfuel S_4 v1 0 0 0) (fun w => (fun (S_10 : PS) (v4_10 : Int32) => pgd (pin ((6 * (S_10.1 13)) + v1) 480) (pbnd (f_X12_isFigure (pAr S_10 36 (upd (S_10.2 36) ((6 * (S_10.1 13)) + v1).toNatClampNeg v4_10))) (fun r12 S_12 => if r12 = (0 : Int32) then (some (1, S_12)) else (some (0, S_12))))) w.1 w.2)))) else (pbnd (f_X12_isAt S_1 45) (fun r14 S_14 => if r14 = (0 : Int32) then (pbnd (f_X12_isFigure S_14) (fun r16 S_16 => if r16 = (0 : Int32) then (some (0, S_16)) else (plp (g_X12_takesNumber_57 pfuel S_16 v1 0 0 0) (fun w => (fun (S_18 : PS) (v4_18 : Int32) => pgd (pin ((6 * (S_18.1 13)) + v1) 480) (pbnd (f_X12_isFigure (pAr S_18 36 (upd (S_18.2 36) ((6 * (S_18.1 13)) + v1).toNatClampNeg v4_18))) (fun r20 S_20 => if r20 = (0 : Int32) then (some (1, S_20)) else (some (0, S_20))))) w.1 w.2)))) else (pbnd (f_X12_isFigure (pI S_14 12 ((S_14.1 12) + 1))) (fun r22 S_22 => if r22 = (0 : Int32) then (some (0, S_22)) else (plp (g_X12_takesNumber_57 pfuel S_22 v1 1 0 0) (fun w => (fun (S_24 : PS) (v4_24 : Int32) => pgd (pin ((6 * (S_24.1 13)) + v1) 480) (pbnd (f_X12_isFigure (pAr S_24 36 (upd (S_24.2 36) ((6 * (S_24.1 13)) + v1).toNatClampNeg (-v4_24)))) (fun r26 S_26 => if r26 = (0 : Int32) then (some (1, S_26)) else (some (0, S_26))))) w.1 w.2))))))))
set_option maxRecDepth 100000 in
theorem c_X12_takesNumber (l : Launch) (D : va_G) (dA : Nat → ClassId) (ad : Nat → Nat) (S : PS) (v1 : Int32) (v2 : Int32) {P : (Int32 × PS) → Prop} (hf : pO (f_X12_takesNumber S v1 v2) P) : CtI l D dA ad yX12_takesNumber wsX12_takesNumber 2 [.ref 0, .int v1, .int v2] (hM S) (fun r h' => ∃ S' : PS, h' = hM S' ∧ P (r, S')) := by
  refine CtI_of mf_X12_takesNumber rfl rfl (Nat.le_of_ble_eq_true rfl) rfl (hM_len S) ?_
  unfold f_X12_takesNumber at hf
  refine E_aload_n dX12_takesNumber_0 rfl ?_
  refine E_callVI (st := []) (c_X12_takesBlank l D dA ad S (pO_bnd hf)) mf_X12_takesBlank rfl rfl gX12_takesNumber_X12_takesBlank (pRc.of (ci := 12) rfl rfl) (by omega) rfl (Nat.le_of_ble_eq_true rfl) (by rfl) dX12_takesNumber_1 (fun r1 h1 q1 => ?_)
  obtain ⟨S_1, rfl, hf⟩ := q1
  dsimp only at hf
  refine E_if_ne (tgt := 9) dX12_takesNumber_4 (by decide) (fun c_2 => ?_) (fun c_2 => ?_)
  · have hf := pO_neg c_2 hf
    refine E_iload_n dX12_takesNumber_9 rfl ?_
    refine E_if_eq (tgt := 26) dX12_takesNumber_10 (by decide) (fun c_3 => ?_) (fun c_3 => ?_)
    · have hf := pO_pos c_3 hf
      refine E_iconst (v := 0) dX12_takesNumber_26 (by decide) ?_
      refine E_istore_n (ls' := [(0, .ref 0), (1, .int v1), (2, .int v2), (3, .int 0)]) dX12_takesNumber_27 (by decide) rfl ?_
      refine E_iload_n dX12_takesNumber_28 rfl ?_
      refine E_if_eq (tgt := 42) dX12_takesNumber_29 (by decide) (fun _ => ?_) (fun c => absurd c (by decide))
      refine E_aload_n dX12_takesNumber_42 rfl ?_
      refine E_callVI (st := []) (c_X12_isFigure l D dA ad S_1 (pO_bnd hf)) mf_X12_isFigure rfl rfl gX12_takesNumber_X12_isFigure (pRc.of (ci := 12) rfl rfl) (by omega) rfl (Nat.le_of_ble_eq_true rfl) (by rfl) dX12_takesNumber_43 (fun r4 h4 q4 => ?_)
      obtain ⟨S_4, rfl, hf⟩ := q4
      dsimp only at hf
      refine E_if_ne (tgt := 51) dX12_takesNumber_46 (by decide) (fun c_5 => ?_) (fun c_5 => ?_)
      · have hf := pO_neg c_5 hf
        refine E_iconst (v := 0) dX12_takesNumber_51 (by decide) ?_
        refine E_istore (ls' := [(0, .ref 0), (1, .int v1), (2, .int v2), (3, .int 0), (4, .int 0)]) dX12_takesNumber_52 (by decide) rfl ?_
        refine E_iconst (v := 0) dX12_takesNumber_54 (by decide) ?_
        refine E_istore (ls' := [(0, .ref 0), (1, .int v1), (2, .int v2), (3, .int 0), (4, .int 0), (5, .int 0)]) dX12_takesNumber_55 (by decide) rfl ?_
        refine E_sub (ls' := [(0, .ref 0), (1, .int v1), (3, .int 0), (4, .int 0), (5, .int 0)]) ⟨rfl, rfl, rfl, rfl, rfl, trivial⟩ ?_
        refine l_X12_takesNumber_57 l D dA ad _ (by omega) pfuel S_4 v1 0 0 0 (pO_lp hf (fun x hx => ⟨x.2, rfl, hx⟩) (fun w10 hf => ?_))
        obtain ⟨S_10, v4_10⟩ := w10
        dsimp only at hf ⊢
        refine E_aload_n dX12_takesNumber_106 rfl ?_
        refine E_getf (v := .ref 18) dX12_takesNumber_107 fl_X12_takesNumber_74 rfl rfl ?_
        refine E_bipush (v := 6) dX12_takesNumber_110 (by decide) ?_
        refine E_aload_n dX12_takesNumber_112 rfl ?_
        refine E_getf (v := .int (S_10.1 13)) dX12_takesNumber_113 fl_X12_takesNumber_286 rfl rfl ?_
        refine E_imul dX12_takesNumber_116 ?_
        refine E_iload_n dX12_takesNumber_117 rfl ?_
        refine E_iadd dX12_takesNumber_118 ?_
        refine E_iload_n dX12_takesNumber_119 rfl ?_
        refine E_if_eq (tgt := 129) dX12_takesNumber_120 (by decide) (fun _ => ?_) (fun c => absurd c (by decide))
        refine E_iload dX12_takesNumber_129 rfl ?_
        obtain ⟨hi_11, hf⟩ := pO_gd hf
        refine E_iast (n0 := 480) (f := S_10.2 36) (h' := hM (pAr S_10 36 (upd (S_10.2 36) ((6 * (S_10.1 13)) + v1).toNatClampNeg v4_10))) dX12_takesNumber_131 rfl (pin_in hi_11) (sM_A36 S_10 (upd (S_10.2 36) ((6 * (S_10.1 13)) + v1).toNatClampNeg v4_10)) ?_
        refine E_aload_n dX12_takesNumber_132 rfl ?_
        refine E_callVI (st := []) (c_X12_isFigure l D dA ad (pAr S_10 36 (upd (S_10.2 36) ((6 * (S_10.1 13)) + v1).toNatClampNeg v4_10)) (pO_bnd hf)) mf_X12_isFigure rfl rfl gX12_takesNumber_X12_isFigure (pRc.of (ci := 12) rfl rfl) (by omega) rfl (Nat.le_of_ble_eq_true rfl) (by rfl) dX12_takesNumber_133 (fun r12 h12 q12 => ?_)
        obtain ⟨S_12, rfl, hf⟩ := q12
        dsimp only at hf
        refine E_if_ne (tgt := 143) dX12_takesNumber_136 (by decide) (fun c_13 => ?_) (fun c_13 => ?_)
        · have hf := pO_neg c_13 hf
          refine E_iconst (v := 0) dX12_takesNumber_143 (by decide) ?_
          exact E_zret rfl dX12_takesNumber_144 (by decide) ⟨_, rfl, hf⟩
        · have hf := pO_pos c_13 hf
          refine E_iconst (v := 1) dX12_takesNumber_139 (by decide) ?_
          refine E_goto (tgt := 144) dX12_takesNumber_140 (by decide) ?_
          exact E_zret rfl dX12_takesNumber_144 (by decide) ⟨_, rfl, hf⟩
      · have hf := pO_pos c_5 hf
        refine E_iconst (v := 0) dX12_takesNumber_49 (by decide) ?_
        exact E_zret rfl dX12_takesNumber_50 (by decide) ⟨_, rfl, hf⟩
    · have hf := pO_neg c_3 hf
      refine E_aload_n dX12_takesNumber_13 rfl ?_
      refine E_bipush (v := 45) dX12_takesNumber_14 (by decide) ?_
      refine E_callVI (st := []) (c_X12_isAt l D dA ad S_1 45 (pO_bnd hf)) mf_X12_isAt rfl rfl gX12_takesNumber_X12_isAt (pRc.of (ci := 12) rfl rfl) (by omega) rfl (Nat.le_of_ble_eq_true rfl) (by rfl) dX12_takesNumber_16 (fun r14 h14 q14 => ?_)
      obtain ⟨S_14, rfl, hf⟩ := q14
      dsimp only at hf
      refine E_if_eq (tgt := 26) dX12_takesNumber_19 (by decide) (fun c_15 => ?_) (fun c_15 => ?_)
      · have hf := pO_pos c_15 hf
        refine E_iconst (v := 0) dX12_takesNumber_26 (by decide) ?_
        refine E_istore_n (ls' := [(0, .ref 0), (1, .int v1), (2, .int v2), (3, .int 0)]) dX12_takesNumber_27 (by decide) rfl ?_
        refine E_iload_n dX12_takesNumber_28 rfl ?_
        refine E_if_eq (tgt := 42) dX12_takesNumber_29 (by decide) (fun _ => ?_) (fun c => absurd c (by decide))
        refine E_aload_n dX12_takesNumber_42 rfl ?_
        refine E_callVI (st := []) (c_X12_isFigure l D dA ad S_14 (pO_bnd hf)) mf_X12_isFigure rfl rfl gX12_takesNumber_X12_isFigure (pRc.of (ci := 12) rfl rfl) (by omega) rfl (Nat.le_of_ble_eq_true rfl) (by rfl) dX12_takesNumber_43 (fun r16 h16 q16 => ?_)
        obtain ⟨S_16, rfl, hf⟩ := q16
        dsimp only at hf
        refine E_if_ne (tgt := 51) dX12_takesNumber_46 (by decide) (fun c_17 => ?_) (fun c_17 => ?_)
        · have hf := pO_neg c_17 hf
          refine E_iconst (v := 0) dX12_takesNumber_51 (by decide) ?_
          refine E_istore (ls' := [(0, .ref 0), (1, .int v1), (2, .int v2), (3, .int 0), (4, .int 0)]) dX12_takesNumber_52 (by decide) rfl ?_
          refine E_iconst (v := 0) dX12_takesNumber_54 (by decide) ?_
          refine E_istore (ls' := [(0, .ref 0), (1, .int v1), (2, .int v2), (3, .int 0), (4, .int 0), (5, .int 0)]) dX12_takesNumber_55 (by decide) rfl ?_
          refine E_sub (ls' := [(0, .ref 0), (1, .int v1), (3, .int 0), (4, .int 0), (5, .int 0)]) ⟨rfl, rfl, rfl, rfl, rfl, trivial⟩ ?_
          refine l_X12_takesNumber_57 l D dA ad _ (by omega) pfuel S_16 v1 0 0 0 (pO_lp hf (fun x hx => ⟨x.2, rfl, hx⟩) (fun w18 hf => ?_))
          obtain ⟨S_18, v4_18⟩ := w18
          dsimp only at hf ⊢
          refine E_aload_n dX12_takesNumber_106 rfl ?_
          refine E_getf (v := .ref 18) dX12_takesNumber_107 fl_X12_takesNumber_74 rfl rfl ?_
          refine E_bipush (v := 6) dX12_takesNumber_110 (by decide) ?_
          refine E_aload_n dX12_takesNumber_112 rfl ?_
          refine E_getf (v := .int (S_18.1 13)) dX12_takesNumber_113 fl_X12_takesNumber_286 rfl rfl ?_
          refine E_imul dX12_takesNumber_116 ?_
          refine E_iload_n dX12_takesNumber_117 rfl ?_
          refine E_iadd dX12_takesNumber_118 ?_
          refine E_iload_n dX12_takesNumber_119 rfl ?_
          refine E_if_eq (tgt := 129) dX12_takesNumber_120 (by decide) (fun _ => ?_) (fun c => absurd c (by decide))
          refine E_iload dX12_takesNumber_129 rfl ?_
          obtain ⟨hi_19, hf⟩ := pO_gd hf
          refine E_iast (n0 := 480) (f := S_18.2 36) (h' := hM (pAr S_18 36 (upd (S_18.2 36) ((6 * (S_18.1 13)) + v1).toNatClampNeg v4_18))) dX12_takesNumber_131 rfl (pin_in hi_19) (sM_A36 S_18 (upd (S_18.2 36) ((6 * (S_18.1 13)) + v1).toNatClampNeg v4_18)) ?_
          refine E_aload_n dX12_takesNumber_132 rfl ?_
          refine E_callVI (st := []) (c_X12_isFigure l D dA ad (pAr S_18 36 (upd (S_18.2 36) ((6 * (S_18.1 13)) + v1).toNatClampNeg v4_18)) (pO_bnd hf)) mf_X12_isFigure rfl rfl gX12_takesNumber_X12_isFigure (pRc.of (ci := 12) rfl rfl) (by omega) rfl (Nat.le_of_ble_eq_true rfl) (by rfl) dX12_takesNumber_133 (fun r20 h20 q20 => ?_)
          obtain ⟨S_20, rfl, hf⟩ := q20
          dsimp only at hf
          refine E_if_ne (tgt := 143) dX12_takesNumber_136 (by decide) (fun c_21 => ?_) (fun c_21 => ?_)
          · have hf := pO_neg c_21 hf
            refine E_iconst (v := 0) dX12_takesNumber_143 (by decide) ?_
            exact E_zret rfl dX12_takesNumber_144 (by decide) ⟨_, rfl, hf⟩
          · have hf := pO_pos c_21 hf
            refine E_iconst (v := 1) dX12_takesNumber_139 (by decide) ?_
            refine E_goto (tgt := 144) dX12_takesNumber_140 (by decide) ?_
            exact E_zret rfl dX12_takesNumber_144 (by decide) ⟨_, rfl, hf⟩
        · have hf := pO_pos c_17 hf
          refine E_iconst (v := 0) dX12_takesNumber_49 (by decide) ?_
          exact E_zret rfl dX12_takesNumber_50 (by decide) ⟨_, rfl, hf⟩
      · have hf := pO_neg c_15 hf
        refine E_iconst (v := 1) dX12_takesNumber_22 (by decide) ?_
        refine E_goto (tgt := 27) dX12_takesNumber_23 (by decide) ?_
        refine E_istore_n (ls' := [(0, .ref 0), (1, .int v1), (2, .int v2), (3, .int 1)]) dX12_takesNumber_27 (by decide) rfl ?_
        refine E_iload_n dX12_takesNumber_28 rfl ?_
        refine E_if_eq (tgt := 42) dX12_takesNumber_29 (by decide) (fun c => absurd c (by decide)) (fun _ => ?_)
        refine E_aload_n dX12_takesNumber_32 rfl ?_
        refine E_dup dX12_takesNumber_33 rfl ?_
        refine E_getf (v := .int (S_14.1 12)) dX12_takesNumber_34 fl_X12_takesNumber_260 rfl rfl ?_
        refine E_iconst (v := 1) dX12_takesNumber_37 (by decide) ?_
        refine E_iadd dX12_takesNumber_38 ?_
        refine E_putf (h' := hM (pI S_14 12 ((S_14.1 12) + 1))) dX12_takesNumber_39 fl_X12_takesNumber_260 ft_12_23 rfl (Nat.lt_of_lt_of_eq (by decide : 23 < 32) rfl) rfl rfl ⟨_, rfl⟩ (sM_I12 S_14 ((S_14.1 12) + 1)) ?_
        refine E_aload_n dX12_takesNumber_42 rfl ?_
        refine E_callVI (st := []) (c_X12_isFigure l D dA ad (pI S_14 12 ((S_14.1 12) + 1)) (pO_bnd hf)) mf_X12_isFigure rfl rfl gX12_takesNumber_X12_isFigure (pRc.of (ci := 12) rfl rfl) (by omega) rfl (Nat.le_of_ble_eq_true rfl) (by rfl) dX12_takesNumber_43 (fun r22 h22 q22 => ?_)
        obtain ⟨S_22, rfl, hf⟩ := q22
        dsimp only at hf
        refine E_if_ne (tgt := 51) dX12_takesNumber_46 (by decide) (fun c_23 => ?_) (fun c_23 => ?_)
        · have hf := pO_neg c_23 hf
          refine E_iconst (v := 0) dX12_takesNumber_51 (by decide) ?_
          refine E_istore (ls' := [(0, .ref 0), (1, .int v1), (2, .int v2), (3, .int 1), (4, .int 0)]) dX12_takesNumber_52 (by decide) rfl ?_
          refine E_iconst (v := 0) dX12_takesNumber_54 (by decide) ?_
          refine E_istore (ls' := [(0, .ref 0), (1, .int v1), (2, .int v2), (3, .int 1), (4, .int 0), (5, .int 0)]) dX12_takesNumber_55 (by decide) rfl ?_
          refine E_sub (ls' := [(0, .ref 0), (1, .int v1), (3, .int 1), (4, .int 0), (5, .int 0)]) ⟨rfl, rfl, rfl, rfl, rfl, trivial⟩ ?_
          refine l_X12_takesNumber_57 l D dA ad _ (by omega) pfuel S_22 v1 1 0 0 (pO_lp hf (fun x hx => ⟨x.2, rfl, hx⟩) (fun w24 hf => ?_))
          obtain ⟨S_24, v4_24⟩ := w24
          dsimp only at hf ⊢
          refine E_aload_n dX12_takesNumber_106 rfl ?_
          refine E_getf (v := .ref 18) dX12_takesNumber_107 fl_X12_takesNumber_74 rfl rfl ?_
          refine E_bipush (v := 6) dX12_takesNumber_110 (by decide) ?_
          refine E_aload_n dX12_takesNumber_112 rfl ?_
          refine E_getf (v := .int (S_24.1 13)) dX12_takesNumber_113 fl_X12_takesNumber_286 rfl rfl ?_
          refine E_imul dX12_takesNumber_116 ?_
          refine E_iload_n dX12_takesNumber_117 rfl ?_
          refine E_iadd dX12_takesNumber_118 ?_
          refine E_iload_n dX12_takesNumber_119 rfl ?_
          refine E_if_eq (tgt := 129) dX12_takesNumber_120 (by decide) (fun c => absurd c (by decide)) (fun _ => ?_)
          refine E_iload dX12_takesNumber_123 rfl ?_
          refine E_ineg dX12_takesNumber_125 ?_
          refine E_goto (tgt := 131) dX12_takesNumber_126 (by decide) ?_
          obtain ⟨hi_25, hf⟩ := pO_gd hf
          refine E_iast (n0 := 480) (f := S_24.2 36) (h' := hM (pAr S_24 36 (upd (S_24.2 36) ((6 * (S_24.1 13)) + v1).toNatClampNeg (-v4_24)))) dX12_takesNumber_131 rfl (pin_in hi_25) (sM_A36 S_24 (upd (S_24.2 36) ((6 * (S_24.1 13)) + v1).toNatClampNeg (-v4_24))) ?_
          refine E_aload_n dX12_takesNumber_132 rfl ?_
          refine E_callVI (st := []) (c_X12_isFigure l D dA ad (pAr S_24 36 (upd (S_24.2 36) ((6 * (S_24.1 13)) + v1).toNatClampNeg (-v4_24))) (pO_bnd hf)) mf_X12_isFigure rfl rfl gX12_takesNumber_X12_isFigure (pRc.of (ci := 12) rfl rfl) (by omega) rfl (Nat.le_of_ble_eq_true rfl) (by rfl) dX12_takesNumber_133 (fun r26 h26 q26 => ?_)
          obtain ⟨S_26, rfl, hf⟩ := q26
          dsimp only at hf
          refine E_if_ne (tgt := 143) dX12_takesNumber_136 (by decide) (fun c_27 => ?_) (fun c_27 => ?_)
          · have hf := pO_neg c_27 hf
            refine E_iconst (v := 0) dX12_takesNumber_143 (by decide) ?_
            exact E_zret rfl dX12_takesNumber_144 (by decide) ⟨_, rfl, hf⟩
          · have hf := pO_pos c_27 hf
            refine E_iconst (v := 1) dX12_takesNumber_139 (by decide) ?_
            refine E_goto (tgt := 144) dX12_takesNumber_140 (by decide) ?_
            exact E_zret rfl dX12_takesNumber_144 (by decide) ⟨_, rfl, hf⟩
        · have hf := pO_pos c_23 hf
          refine E_iconst (v := 0) dX12_takesNumber_49 (by decide) ?_
          exact E_zret rfl dX12_takesNumber_50 (by decide) ⟨_, rfl, hf⟩
  · have hf := pO_pos c_2 hf
    refine E_iconst (v := 0) dX12_takesNumber_7 (by decide) ?_
    exact E_zret rfl dX12_takesNumber_8 (by decide) ⟨_, rfl, hf⟩
theorem mf_X12_takesRest : pMF yX12_takesRest wsX12_takesRest cX12_takesRest 1 (some .boolean) 0 := ⟨⟨_, rfl⟩, by decide +kernel, by decide, by decide +kernel, by decide +kernel, by decide +kernel⟩
def f_X12_takesRest (S : PS) : Option (Int32 × PS) :=
  pgd (pin (S.1 13) 80) (if ((S.2 35) (S.1 13).toNatClampNeg) = (0 : Int32) then (pbnd (f_X12_takesName S 0) (fun r3 S_3 => if r3 = (0 : Int32) then (some (0, S_3)) else (pbnd (f_X12_takesNumber S_3 1 0) (fun r5 S_5 => if r5 = (0 : Int32) then (some (0, S_5)) else (pbnd (f_X12_takesNumber S_5 2 0) (fun r7 S_7 => if r7 = (0 : Int32) then (some (0, S_7)) else (pbnd (f_X12_takesNumber S_7 3 0) (fun r9 S_9 => if r9 = (0 : Int32) then (some (0, S_9)) else (pbnd (f_X12_takesNumber S_9 4 1) (fun r11 S_11 => if r11 = (0 : Int32) then (some (0, S_11)) else (pbnd (f_X12_takesNumber S_11 5 0) (fun r13 S_13 => if r13 = (0 : Int32) then (some (0, S_13)) else (some (1, S_13)))))))))))))) else (if ((S.2 35) (S.1 13).toNatClampNeg) = (1 : Int32) then (pbnd (f_X12_takesName S 0) (fun r16 S_16 => if r16 = (0 : Int32) then (some (0, S_16)) else (pbnd (f_X12_takesNumber S_16 1 0) (fun r18 S_18 => if r18 = (0 : Int32) then (some (0, S_18)) else (pbnd (f_X12_takesNumber S_18 2 1) (fun r20 S_20 => if r20 = (0 : Int32) then (some (0, S_20)) else (some (1, S_20)))))))) else (if ((S.2 35) (S.1 13).toNatClampNeg) = (2 : Int32) then (pbnd (f_X12_takesName S 0) (fun r23 S_23 => pgd (pbit r23) (some (r23, S_23)))) else (if ((S.2 35) (S.1 13).toNatClampNeg) = (3 : Int32) then (pbnd (f_X12_takesNumber S 0 0) (fun r26 S_26 => if r26 = (0 : Int32) then (some (0, S_26)) else (pbnd (f_X12_takesNumber S_26 1 0) (fun r28 S_28 => if r28 = (0 : Int32) then (some (0, S_28)) else (some (1, S_28)))))) else (pbnd (f_X12_takesNumber S 0 0) (fun r30 S_30 => pgd (pbit r30) (some (r30, S_30))))))))
set_option maxRecDepth 100000 in
theorem c_X12_takesRest (l : Launch) (D : va_G) (dA : Nat → ClassId) (ad : Nat → Nat) (S : PS) {P : (Int32 × PS) → Prop} (hf : pO (f_X12_takesRest S) P) : CtI l D dA ad yX12_takesRest wsX12_takesRest 3 [.ref 0] (hM S) (fun r h' => ∃ S' : PS, h' = hM S' ∧ P (r, S')) := by
  refine CtI_of mf_X12_takesRest rfl rfl (Nat.le_of_ble_eq_true rfl) rfl (hM_len S) ?_
  unfold f_X12_takesRest at hf
  refine E_aload_n dX12_takesRest_0 rfl ?_
  refine E_getf (v := .ref 17) dX12_takesRest_1 fl_X12_takesRest_71 rfl rfl ?_
  refine E_aload_n dX12_takesRest_4 rfl ?_
  refine E_getf (v := .int (S.1 13)) dX12_takesRest_5 fl_X12_takesRest_286 rfl rfl ?_
  obtain ⟨hi_1, hf⟩ := pO_gd hf
  refine E_iald (n0 := 80) (f := S.2 35) dX12_takesRest_8 rfl (pin_in hi_1) ?_
  by_cases k_2 : ((S.2 35) (S.1 13).toNatClampNeg) = (0 : Int32)
  · have hf := pO_pos k_2 hf
    refine E_tableIn (off := 31) (tgt := 40) dX12_takesRest_9 (by rw [k_2]; decide) (by rw [k_2]; decide) (by rw [k_2]; rfl) (by decide) ?_
    refine E_aload_n dX12_takesRest_40 rfl ?_
    refine E_iconst (v := 0) dX12_takesRest_41 (by decide) ?_
    refine E_callVI (st := []) (c_X12_takesName l D dA ad S 0 (pO_bnd hf)) mf_X12_takesName rfl rfl gX12_takesRest_X12_takesName (pRc.of (ci := 12) rfl rfl) (by omega) rfl (Nat.le_of_ble_eq_true rfl) (by rfl) dX12_takesRest_42 (fun r3 h3 q3 => ?_)
    obtain ⟨S_3, rfl, hf⟩ := q3
    dsimp only at hf
    refine E_if_eq (tgt := 97) dX12_takesRest_45 (by decide) (fun c_4 => ?_) (fun c_4 => ?_)
    · have hf := pO_pos c_4 hf
      refine E_iconst (v := 0) dX12_takesRest_97 (by decide) ?_
      exact E_zret rfl dX12_takesRest_98 (by decide) ⟨_, rfl, hf⟩
    · have hf := pO_neg c_4 hf
      refine E_aload_n dX12_takesRest_48 rfl ?_
      refine E_iconst (v := 1) dX12_takesRest_49 (by decide) ?_
      refine E_iconst (v := 0) dX12_takesRest_50 (by decide) ?_
      refine E_callVI (st := []) (c_X12_takesNumber l D dA ad S_3 1 0 (pO_bnd hf)) mf_X12_takesNumber rfl rfl gX12_takesRest_X12_takesNumber (pRc.of (ci := 12) rfl rfl) (by omega) rfl (Nat.le_of_ble_eq_true rfl) (by rfl) dX12_takesRest_51 (fun r5 h5 q5 => ?_)
      obtain ⟨S_5, rfl, hf⟩ := q5
      dsimp only at hf
      refine E_if_eq (tgt := 97) dX12_takesRest_54 (by decide) (fun c_6 => ?_) (fun c_6 => ?_)
      · have hf := pO_pos c_6 hf
        refine E_iconst (v := 0) dX12_takesRest_97 (by decide) ?_
        exact E_zret rfl dX12_takesRest_98 (by decide) ⟨_, rfl, hf⟩
      · have hf := pO_neg c_6 hf
        refine E_aload_n dX12_takesRest_57 rfl ?_
        refine E_iconst (v := 2) dX12_takesRest_58 (by decide) ?_
        refine E_iconst (v := 0) dX12_takesRest_59 (by decide) ?_
        refine E_callVI (st := []) (c_X12_takesNumber l D dA ad S_5 2 0 (pO_bnd hf)) mf_X12_takesNumber rfl rfl gX12_takesRest_X12_takesNumber (pRc.of (ci := 12) rfl rfl) (by omega) rfl (Nat.le_of_ble_eq_true rfl) (by rfl) dX12_takesRest_60 (fun r7 h7 q7 => ?_)
        obtain ⟨S_7, rfl, hf⟩ := q7
        dsimp only at hf
        refine E_if_eq (tgt := 97) dX12_takesRest_63 (by decide) (fun c_8 => ?_) (fun c_8 => ?_)
        · have hf := pO_pos c_8 hf
          refine E_iconst (v := 0) dX12_takesRest_97 (by decide) ?_
          exact E_zret rfl dX12_takesRest_98 (by decide) ⟨_, rfl, hf⟩
        · have hf := pO_neg c_8 hf
          refine E_aload_n dX12_takesRest_66 rfl ?_
          refine E_iconst (v := 3) dX12_takesRest_67 (by decide) ?_
          refine E_iconst (v := 0) dX12_takesRest_68 (by decide) ?_
          refine E_callVI (st := []) (c_X12_takesNumber l D dA ad S_7 3 0 (pO_bnd hf)) mf_X12_takesNumber rfl rfl gX12_takesRest_X12_takesNumber (pRc.of (ci := 12) rfl rfl) (by omega) rfl (Nat.le_of_ble_eq_true rfl) (by rfl) dX12_takesRest_69 (fun r9 h9 q9 => ?_)
          obtain ⟨S_9, rfl, hf⟩ := q9
          dsimp only at hf
          refine E_if_eq (tgt := 97) dX12_takesRest_72 (by decide) (fun c_10 => ?_) (fun c_10 => ?_)
          · have hf := pO_pos c_10 hf
            refine E_iconst (v := 0) dX12_takesRest_97 (by decide) ?_
            exact E_zret rfl dX12_takesRest_98 (by decide) ⟨_, rfl, hf⟩
          · have hf := pO_neg c_10 hf
            refine E_aload_n dX12_takesRest_75 rfl ?_
            refine E_iconst (v := 4) dX12_takesRest_76 (by decide) ?_
            refine E_iconst (v := 1) dX12_takesRest_77 (by decide) ?_
            refine E_callVI (st := []) (c_X12_takesNumber l D dA ad S_9 4 1 (pO_bnd hf)) mf_X12_takesNumber rfl rfl gX12_takesRest_X12_takesNumber (pRc.of (ci := 12) rfl rfl) (by omega) rfl (Nat.le_of_ble_eq_true rfl) (by rfl) dX12_takesRest_78 (fun r11 h11 q11 => ?_)
            obtain ⟨S_11, rfl, hf⟩ := q11
            dsimp only at hf
            refine E_if_eq (tgt := 97) dX12_takesRest_81 (by decide) (fun c_12 => ?_) (fun c_12 => ?_)
            · have hf := pO_pos c_12 hf
              refine E_iconst (v := 0) dX12_takesRest_97 (by decide) ?_
              exact E_zret rfl dX12_takesRest_98 (by decide) ⟨_, rfl, hf⟩
            · have hf := pO_neg c_12 hf
              refine E_aload_n dX12_takesRest_84 rfl ?_
              refine E_iconst (v := 5) dX12_takesRest_85 (by decide) ?_
              refine E_iconst (v := 0) dX12_takesRest_86 (by decide) ?_
              refine E_callVI (st := []) (c_X12_takesNumber l D dA ad S_11 5 0 (pO_bnd hf)) mf_X12_takesNumber rfl rfl gX12_takesRest_X12_takesNumber (pRc.of (ci := 12) rfl rfl) (by omega) rfl (Nat.le_of_ble_eq_true rfl) (by rfl) dX12_takesRest_87 (fun r13 h13 q13 => ?_)
              obtain ⟨S_13, rfl, hf⟩ := q13
              dsimp only at hf
              refine E_if_eq (tgt := 97) dX12_takesRest_90 (by decide) (fun c_14 => ?_) (fun c_14 => ?_)
              · have hf := pO_pos c_14 hf
                refine E_iconst (v := 0) dX12_takesRest_97 (by decide) ?_
                exact E_zret rfl dX12_takesRest_98 (by decide) ⟨_, rfl, hf⟩
              · have hf := pO_neg c_14 hf
                refine E_iconst (v := 1) dX12_takesRest_93 (by decide) ?_
                refine E_goto (tgt := 98) dX12_takesRest_94 (by decide) ?_
                exact E_zret rfl dX12_takesRest_98 (by decide) ⟨_, rfl, hf⟩
  · have hf := pO_neg k_2 hf
    by_cases k_15 : ((S.2 35) (S.1 13).toNatClampNeg) = (1 : Int32)
    · have hf := pO_pos k_15 hf
      refine E_tableIn (off := 90) (tgt := 99) dX12_takesRest_9 (by rw [k_15]; decide) (by rw [k_15]; decide) (by rw [k_15]; rfl) (by decide) ?_
      refine E_aload_n dX12_takesRest_99 rfl ?_
      refine E_iconst (v := 0) dX12_takesRest_100 (by decide) ?_
      refine E_callVI (st := []) (c_X12_takesName l D dA ad S 0 (pO_bnd hf)) mf_X12_takesName rfl rfl gX12_takesRest_X12_takesName (pRc.of (ci := 12) rfl rfl) (by omega) rfl (Nat.le_of_ble_eq_true rfl) (by rfl) dX12_takesRest_101 (fun r16 h16 q16 => ?_)
      obtain ⟨S_16, rfl, hf⟩ := q16
      dsimp only at hf
      refine E_if_eq (tgt := 129) dX12_takesRest_104 (by decide) (fun c_17 => ?_) (fun c_17 => ?_)
      · have hf := pO_pos c_17 hf
        refine E_iconst (v := 0) dX12_takesRest_129 (by decide) ?_
        exact E_zret rfl dX12_takesRest_130 (by decide) ⟨_, rfl, hf⟩
      · have hf := pO_neg c_17 hf
        refine E_aload_n dX12_takesRest_107 rfl ?_
        refine E_iconst (v := 1) dX12_takesRest_108 (by decide) ?_
        refine E_iconst (v := 0) dX12_takesRest_109 (by decide) ?_
        refine E_callVI (st := []) (c_X12_takesNumber l D dA ad S_16 1 0 (pO_bnd hf)) mf_X12_takesNumber rfl rfl gX12_takesRest_X12_takesNumber (pRc.of (ci := 12) rfl rfl) (by omega) rfl (Nat.le_of_ble_eq_true rfl) (by rfl) dX12_takesRest_110 (fun r18 h18 q18 => ?_)
        obtain ⟨S_18, rfl, hf⟩ := q18
        dsimp only at hf
        refine E_if_eq (tgt := 129) dX12_takesRest_113 (by decide) (fun c_19 => ?_) (fun c_19 => ?_)
        · have hf := pO_pos c_19 hf
          refine E_iconst (v := 0) dX12_takesRest_129 (by decide) ?_
          exact E_zret rfl dX12_takesRest_130 (by decide) ⟨_, rfl, hf⟩
        · have hf := pO_neg c_19 hf
          refine E_aload_n dX12_takesRest_116 rfl ?_
          refine E_iconst (v := 2) dX12_takesRest_117 (by decide) ?_
          refine E_iconst (v := 1) dX12_takesRest_118 (by decide) ?_
          refine E_callVI (st := []) (c_X12_takesNumber l D dA ad S_18 2 1 (pO_bnd hf)) mf_X12_takesNumber rfl rfl gX12_takesRest_X12_takesNumber (pRc.of (ci := 12) rfl rfl) (by omega) rfl (Nat.le_of_ble_eq_true rfl) (by rfl) dX12_takesRest_119 (fun r20 h20 q20 => ?_)
          obtain ⟨S_20, rfl, hf⟩ := q20
          dsimp only at hf
          refine E_if_eq (tgt := 129) dX12_takesRest_122 (by decide) (fun c_21 => ?_) (fun c_21 => ?_)
          · have hf := pO_pos c_21 hf
            refine E_iconst (v := 0) dX12_takesRest_129 (by decide) ?_
            exact E_zret rfl dX12_takesRest_130 (by decide) ⟨_, rfl, hf⟩
          · have hf := pO_neg c_21 hf
            refine E_iconst (v := 1) dX12_takesRest_125 (by decide) ?_
            refine E_goto (tgt := 130) dX12_takesRest_126 (by decide) ?_
            exact E_zret rfl dX12_takesRest_130 (by decide) ⟨_, rfl, hf⟩
    · have hf := pO_neg k_15 hf
      by_cases k_22 : ((S.2 35) (S.1 13).toNatClampNeg) = (2 : Int32)
      · have hf := pO_pos k_22 hf
        refine E_tableIn (off := 122) (tgt := 131) dX12_takesRest_9 (by rw [k_22]; decide) (by rw [k_22]; decide) (by rw [k_22]; rfl) (by decide) ?_
        refine E_aload_n dX12_takesRest_131 rfl ?_
        refine E_iconst (v := 0) dX12_takesRest_132 (by decide) ?_
        refine E_callVI (st := []) (c_X12_takesName l D dA ad S 0 (pO_bnd hf)) mf_X12_takesName rfl rfl gX12_takesRest_X12_takesName (pRc.of (ci := 12) rfl rfl) (by omega) rfl (Nat.le_of_ble_eq_true rfl) (by rfl) dX12_takesRest_133 (fun r23 h23 q23 => ?_)
        obtain ⟨S_23, rfl, hf⟩ := q23
        dsimp only at hf
        obtain ⟨hn_24, hf⟩ := pO_gd hf
        exact E_zret rfl dX12_takesRest_136 (pbit_n hn_24) ⟨_, rfl, hf⟩
      · have hf := pO_neg k_22 hf
        by_cases k_25 : ((S.2 35) (S.1 13).toNatClampNeg) = (3 : Int32)
        · have hf := pO_pos k_25 hf
          refine E_tableIn (off := 128) (tgt := 137) dX12_takesRest_9 (by rw [k_25]; decide) (by rw [k_25]; decide) (by rw [k_25]; rfl) (by decide) ?_
          refine E_aload_n dX12_takesRest_137 rfl ?_
          refine E_iconst (v := 0) dX12_takesRest_138 (by decide) ?_
          refine E_iconst (v := 0) dX12_takesRest_139 (by decide) ?_
          refine E_callVI (st := []) (c_X12_takesNumber l D dA ad S 0 0 (pO_bnd hf)) mf_X12_takesNumber rfl rfl gX12_takesRest_X12_takesNumber (pRc.of (ci := 12) rfl rfl) (by omega) rfl (Nat.le_of_ble_eq_true rfl) (by rfl) dX12_takesRest_140 (fun r26 h26 q26 => ?_)
          obtain ⟨S_26, rfl, hf⟩ := q26
          dsimp only at hf
          refine E_if_eq (tgt := 159) dX12_takesRest_143 (by decide) (fun c_27 => ?_) (fun c_27 => ?_)
          · have hf := pO_pos c_27 hf
            refine E_iconst (v := 0) dX12_takesRest_159 (by decide) ?_
            exact E_zret rfl dX12_takesRest_160 (by decide) ⟨_, rfl, hf⟩
          · have hf := pO_neg c_27 hf
            refine E_aload_n dX12_takesRest_146 rfl ?_
            refine E_iconst (v := 1) dX12_takesRest_147 (by decide) ?_
            refine E_iconst (v := 0) dX12_takesRest_148 (by decide) ?_
            refine E_callVI (st := []) (c_X12_takesNumber l D dA ad S_26 1 0 (pO_bnd hf)) mf_X12_takesNumber rfl rfl gX12_takesRest_X12_takesNumber (pRc.of (ci := 12) rfl rfl) (by omega) rfl (Nat.le_of_ble_eq_true rfl) (by rfl) dX12_takesRest_149 (fun r28 h28 q28 => ?_)
            obtain ⟨S_28, rfl, hf⟩ := q28
            dsimp only at hf
            refine E_if_eq (tgt := 159) dX12_takesRest_152 (by decide) (fun c_29 => ?_) (fun c_29 => ?_)
            · have hf := pO_pos c_29 hf
              refine E_iconst (v := 0) dX12_takesRest_159 (by decide) ?_
              exact E_zret rfl dX12_takesRest_160 (by decide) ⟨_, rfl, hf⟩
            · have hf := pO_neg c_29 hf
              refine E_iconst (v := 1) dX12_takesRest_155 (by decide) ?_
              refine E_goto (tgt := 160) dX12_takesRest_156 (by decide) ?_
              exact E_zret rfl dX12_takesRest_160 (by decide) ⟨_, rfl, hf⟩
        · have hf := pO_neg k_25 hf
          refine E_tableOut (tgt := 161) dX12_takesRest_9 (by have z0 := pti k_2 (by decide : (0 : Int32).toInt = 0); have z1 := pti k_15 (by decide : (1 : Int32).toInt = 1); have z2 := pti k_22 (by decide : (2 : Int32).toInt = 2); have z3 := pti k_25 (by decide : (3 : Int32).toInt = 3); omega) (by decide) ?_
          refine E_aload_n dX12_takesRest_161 rfl ?_
          refine E_iconst (v := 0) dX12_takesRest_162 (by decide) ?_
          refine E_iconst (v := 0) dX12_takesRest_163 (by decide) ?_
          refine E_callVI (st := []) (c_X12_takesNumber l D dA ad S 0 0 (pO_bnd hf)) mf_X12_takesNumber rfl rfl gX12_takesRest_X12_takesNumber (pRc.of (ci := 12) rfl rfl) (by omega) rfl (Nat.le_of_ble_eq_true rfl) (by rfl) dX12_takesRest_164 (fun r30 h30 q30 => ?_)
          obtain ⟨S_30, rfl, hf⟩ := q30
          dsimp only at hf
          obtain ⟨hn_31, hf⟩ := pO_gd hf
          exact E_zret rfl dX12_takesRest_167 (pbit_n hn_31) ⟨_, rfl, hf⟩
theorem hi_X12_takesAct_12 : ∀ w ∈ u_ws RX12 TX12 32, w ∈ wsX12_takesAct := fun w h => of_decide_eq_true (List.all_eq_true.mp (by decide +kernel : (u_ws RX12 TX12 32).all (fun w => decide (w ∈ wsX12_takesAct)) = true) w h)
theorem fl_X12_takesAct_286 : pFL wsX12_takesAct RX12 286 12 24 := ⟨RX12, TX12, 32, hi_X12_takesAct_12, rfl, by decide, by decide +kernel⟩
theorem mf_X12_takesAct : pMF yX12_takesAct wsX12_takesAct cX12_takesAct 1 (some .boolean) 0 := ⟨⟨_, rfl⟩, by decide +kernel, by decide, by decide +kernel, by decide +kernel, by decide +kernel⟩
def f_X12_takesAct (S : PS) : Option (Int32 × PS) :=
  pbnd (f_X12_takesWord S) (fun r1 S_1 => if r1 = (0 : Int32) then (some (0, S_1)) else (pbnd (f_X12_takesRest S_1) (fun r3 S_3 => if r3 = (0 : Int32) then (some (0, S_3)) else (some (1, (pI S_3 13 ((S_3.1 13) + 1)))))))
set_option maxRecDepth 100000 in
theorem c_X12_takesAct (l : Launch) (D : va_G) (dA : Nat → ClassId) (ad : Nat → Nat) (S : PS) {P : (Int32 × PS) → Prop} (hf : pO (f_X12_takesAct S) P) : CtI l D dA ad yX12_takesAct wsX12_takesAct 7 [.ref 0] (hM S) (fun r h' => ∃ S' : PS, h' = hM S' ∧ P (r, S')) := by
  refine CtI_of mf_X12_takesAct rfl rfl (Nat.le_of_ble_eq_true rfl) rfl (hM_len S) ?_
  unfold f_X12_takesAct at hf
  refine E_aload_n dX12_takesAct_0 rfl ?_
  refine E_callVI (st := []) (c_X12_takesWord l D dA ad S (pO_bnd hf)) mf_X12_takesWord rfl rfl gX12_takesAct_X12_takesWord (pRc.of (ci := 12) rfl rfl) (by omega) rfl (Nat.le_of_ble_eq_true rfl) (by rfl) dX12_takesAct_1 (fun r1 h1 q1 => ?_)
  obtain ⟨S_1, rfl, hf⟩ := q1
  dsimp only at hf
  refine E_if_eq (tgt := 14) dX12_takesAct_4 (by decide) (fun c_2 => ?_) (fun c_2 => ?_)
  · have hf := pO_pos c_2 hf
    refine E_iconst (v := 0) dX12_takesAct_14 (by decide) ?_
    exact E_zret rfl dX12_takesAct_15 (by decide) ⟨_, rfl, hf⟩
  · have hf := pO_neg c_2 hf
    refine E_aload_n dX12_takesAct_7 rfl ?_
    refine E_callVI (st := []) (c_X12_takesRest l D dA ad S_1 (pO_bnd hf)) mf_X12_takesRest rfl rfl gX12_takesAct_X12_takesRest (pRc.of (ci := 12) rfl rfl) (by omega) rfl (Nat.le_of_ble_eq_true rfl) (by rfl) dX12_takesAct_8 (fun r3 h3 q3 => ?_)
    obtain ⟨S_3, rfl, hf⟩ := q3
    dsimp only at hf
    refine E_if_ne (tgt := 16) dX12_takesAct_11 (by decide) (fun c_4 => ?_) (fun c_4 => ?_)
    · have hf := pO_neg c_4 hf
      refine E_aload_n dX12_takesAct_16 rfl ?_
      refine E_dup dX12_takesAct_17 rfl ?_
      refine E_getf (v := .int (S_3.1 13)) dX12_takesAct_18 fl_X12_takesAct_286 rfl rfl ?_
      refine E_iconst (v := 1) dX12_takesAct_21 (by decide) ?_
      refine E_iadd dX12_takesAct_22 ?_
      refine E_putf (h' := hM (pI S_3 13 ((S_3.1 13) + 1))) dX12_takesAct_23 fl_X12_takesAct_286 ft_12_24 rfl (Nat.lt_of_lt_of_eq (by decide : 24 < 32) rfl) rfl rfl ⟨_, rfl⟩ (sM_I13 S_3 ((S_3.1 13) + 1)) ?_
      refine E_iconst (v := 1) dX12_takesAct_26 (by decide) ?_
      exact E_zret rfl dX12_takesAct_27 (by decide) ⟨_, rfl, hf⟩
    · have hf := pO_pos c_4 hf
      refine E_iconst (v := 0) dX12_takesAct_14 (by decide) ?_
      exact E_zret rfl dX12_takesAct_15 (by decide) ⟨_, rfl, hf⟩
theorem fl_X12_takesAll_257 : pFL wsX12_takesAll RX12 257 12 22 := ⟨RX12, TX12, 32, hi_X12_takesAll_12, rfl, by decide, by decide +kernel⟩
def g_X12_takesAll_19 : Nat → PS → Option ((Int32 × PS) ⊕ (PS))
  | 0, _ => none
  | fuel + 1, S =>
    if (S.1 11) ≤ (S.1 12) then (some (.inr (S))) else (pbnd (f_X12_isAt S 59) (fun r4 S_4 => if r4 = (0 : Int32) then (some (.inl (0, S_4))) else (pbnd (f_X12_takesAct (pI S_4 12 ((S_4.1 12) + 1))) (fun r6 S_6 => if r6 = (0 : Int32) then (some (.inl (0, S_6))) else (g_X12_takesAll_19 fuel S_6)))))
set_option maxRecDepth 100000 in
theorem l_X12_takesAll_19 (l : Launch) (D : va_G) (dA : Nat → ClassId) (ad : Nat → Nat) (d : Nat) (hd : 8 ≤ d) {Q : Int32 → List PC → Prop} : ∀ (fuel : Nat) (S : PS), pO (g_X12_takesAll_19 fuel S) (fun y => match y with
    | .inl x => Q x.1 (hM x.2)
    | .inr w => Ev l D dA ad wsX12_takesAll cX12_takesAll RX12 1 (some .boolean) d 38 (pKi D dA ad 38 Q) 60 [] [] (hM w)) → Ev l D dA ad wsX12_takesAll cX12_takesAll RX12 1 (some .boolean) d 38 (pKi D dA ad 38 Q) 19 [(0, .ref 0)] [] (hM S) := by
  intro fuel
  induction fuel with
  | zero =>
    intro S hf
    exact hf.elim
  | succ fuel ih =>
    intro S hf
    rw [g_X12_takesAll_19] at hf
    refine E_aload_n dX12_takesAll_19 rfl ?_
    refine E_getf (v := .int (S.1 12)) dX12_takesAll_20 fl_X12_takesAll_260 rfl rfl ?_
    refine E_aload_n dX12_takesAll_23 rfl ?_
    refine E_getf (v := .int (S.1 11)) dX12_takesAll_24 fl_X12_takesAll_257 rfl rfl ?_
    refine E_icmp_ge (tgt := 60) dX12_takesAll_27 (by decide) (fun c_3 => ?_) (fun c_3 => ?_)
    · have hf := pO_pos c_3 hf
      exact E_sub (ls' := []) trivial hf
    · have hf := pO_neg c_3 hf
      refine E_aload_n dX12_takesAll_30 rfl ?_
      refine E_bipush (v := 59) dX12_takesAll_31 (by decide) ?_
      refine E_callVI (st := []) (c_X12_isAt l D dA ad S 59 (pO_bnd hf)) mf_X12_isAt rfl rfl gX12_takesAll_X12_isAt (pRc.of (ci := 12) rfl rfl) (by omega) rfl (Nat.le_of_ble_eq_true rfl) (by rfl) dX12_takesAll_33 (fun r4 h4 q4 => ?_)
      obtain ⟨S_4, rfl, hf⟩ := q4
      dsimp only at hf
      refine E_if_ne (tgt := 41) dX12_takesAll_36 (by decide) (fun c_5 => ?_) (fun c_5 => ?_)
      · have hf := pO_neg c_5 hf
        refine E_aload_n dX12_takesAll_41 rfl ?_
        refine E_dup dX12_takesAll_42 rfl ?_
        refine E_getf (v := .int (S_4.1 12)) dX12_takesAll_43 fl_X12_takesAll_260 rfl rfl ?_
        refine E_iconst (v := 1) dX12_takesAll_46 (by decide) ?_
        refine E_iadd dX12_takesAll_47 ?_
        refine E_putf (h' := hM (pI S_4 12 ((S_4.1 12) + 1))) dX12_takesAll_48 fl_X12_takesAll_260 ft_12_23 rfl (Nat.lt_of_lt_of_eq (by decide : 23 < 32) rfl) rfl rfl ⟨_, rfl⟩ (sM_I12 S_4 ((S_4.1 12) + 1)) ?_
        refine E_aload_n dX12_takesAll_51 rfl ?_
        refine E_callVI (st := []) (c_X12_takesAct l D dA ad (pI S_4 12 ((S_4.1 12) + 1)) (pO_bnd hf)) mf_X12_takesAct rfl rfl gX12_takesAll_X12_takesAct (pRc.of (ci := 12) rfl rfl) (by omega) rfl (Nat.le_of_ble_eq_true rfl) (by rfl) dX12_takesAll_52 (fun r6 h6 q6 => ?_)
        obtain ⟨S_6, rfl, hf⟩ := q6
        dsimp only at hf
        refine E_if_ne (tgt := 19) dX12_takesAll_55 (by decide) (fun c_7 => ?_) (fun c_7 => ?_)
        · have hf := pO_neg c_7 hf
          exact E_sub (ls' := [(0, .ref 0)]) ⟨rfl, trivial⟩ (ih S_6 hf)
        · have hf := pO_pos c_7 hf
          refine E_iconst (v := 0) dX12_takesAll_58 (by decide) ?_
          exact E_zret rfl dX12_takesAll_59 (by decide) hf
      · have hf := pO_pos c_5 hf
        refine E_iconst (v := 0) dX12_takesAll_39 (by decide) ?_
        exact E_zret rfl dX12_takesAll_40 (by decide) hf
theorem mf_X12_takesAll : pMF yX12_takesAll wsX12_takesAll cX12_takesAll 1 (some .boolean) 0 := ⟨⟨_, rfl⟩, by decide +kernel, by decide, by decide +kernel, by decide +kernel, by decide +kernel⟩
def f_X12_takesAll (S : PS) : Option (Int32 × PS) :=
  pbnd (f_X12_takesAct (pI (pI S 12 0) 13 0)) (fun r1 S_1 => if r1 = (0 : Int32) then (some (0, S_1)) else (plp (g_X12_takesAll_19 pfuel S_1) (fun (S_8 : PS) => some (1, S_8))))
set_option maxRecDepth 100000 in
theorem c_X12_takesAll (l : Launch) (D : va_G) (dA : Nat → ClassId) (ad : Nat → Nat) (S : PS) {P : (Int32 × PS) → Prop} (hf : pO (f_X12_takesAll S) P) : CtI l D dA ad yX12_takesAll wsX12_takesAll 8 [.ref 0] (hM S) (fun r h' => ∃ S' : PS, h' = hM S' ∧ P (r, S')) := by
  refine CtI_of mf_X12_takesAll rfl rfl (Nat.le_of_ble_eq_true rfl) rfl (hM_len S) ?_
  unfold f_X12_takesAll at hf
  refine E_aload_n dX12_takesAll_0 rfl ?_
  refine E_iconst (v := 0) dX12_takesAll_1 (by decide) ?_
  refine E_putf (h' := hM (pI S 12 0)) dX12_takesAll_2 fl_X12_takesAll_260 ft_12_23 rfl (Nat.lt_of_lt_of_eq (by decide : 23 < 32) rfl) rfl rfl ⟨_, rfl⟩ (sM_I12 S 0) ?_
  refine E_aload_n dX12_takesAll_5 rfl ?_
  refine E_iconst (v := 0) dX12_takesAll_6 (by decide) ?_
  refine E_putf (h' := hM (pI (pI S 12 0) 13 0)) dX12_takesAll_7 fl_X12_takesAll_286 ft_12_24 rfl (Nat.lt_of_lt_of_eq (by decide : 24 < 32) rfl) rfl rfl ⟨_, rfl⟩ (sM_I13 (pI S 12 0) 0) ?_
  refine E_aload_n dX12_takesAll_10 rfl ?_
  refine E_callVI (st := []) (c_X12_takesAct l D dA ad (pI (pI S 12 0) 13 0) (pO_bnd hf)) mf_X12_takesAct rfl rfl gX12_takesAll_X12_takesAct (pRc.of (ci := 12) rfl rfl) (by omega) rfl (Nat.le_of_ble_eq_true rfl) (by rfl) dX12_takesAll_11 (fun r1 h1 q1 => ?_)
  obtain ⟨S_1, rfl, hf⟩ := q1
  dsimp only at hf
  refine E_if_ne (tgt := 19) dX12_takesAll_14 (by decide) (fun c_2 => ?_) (fun c_2 => ?_)
  · have hf := pO_neg c_2 hf
    refine E_sub (ls' := [(0, .ref 0)]) ⟨rfl, trivial⟩ ?_
    refine l_X12_takesAll_19 l D dA ad _ (by omega) pfuel S_1 (pO_lp hf (fun x hx => ⟨x.2, rfl, hx⟩) (fun w8 hf => ?_))
    obtain ⟨S_8, rfl⟩ : ∃ z, z = w8 := ⟨_, rfl⟩
    dsimp only at hf ⊢
    refine E_iconst (v := 1) dX12_takesAll_60 (by decide) ?_
    exact E_zret rfl dX12_takesAll_61 (by decide) ⟨_, rfl, hf⟩
  · have hf := pO_pos c_2 hf
    refine E_iconst (v := 0) dX12_takesAll_17 (by decide) ?_
    exact E_zret rfl dX12_takesAll_18 (by decide) ⟨_, rfl, hf⟩
theorem hi_X12_read_12 : ∀ w ∈ u_ws RX12 TX12 32, w ∈ wsX12_read := fun w h => of_decide_eq_true (List.all_eq_true.mp (by decide +kernel : (u_ws RX12 TX12 32).all (fun w => decide (w ∈ wsX12_read)) = true) w h)
theorem fl_X12_read_257 : pFL wsX12_read RX12 257 12 22 := ⟨RX12, TX12, 32, hi_X12_read_12, rfl, by decide, by decide +kernel⟩
theorem fl_X12_read_286 : pFL wsX12_read RX12 286 12 24 := ⟨RX12, TX12, 32, hi_X12_read_12, rfl, by decide, by decide +kernel⟩
theorem hi_X12_done_12 : ∀ w ∈ u_ws RX12 TX12 32, w ∈ wsX12_done := fun w h => of_decide_eq_true (List.all_eq_true.mp (by decide +kernel : (u_ws RX12 TX12 32).all (fun w => decide (w ∈ wsX12_done)) = true) w h)
theorem fl_X12_done_74 : pFL wsX12_done RX12 74 12 26 := ⟨RX12, TX12, 32, hi_X12_done_12, rfl, by decide, by decide +kernel⟩
theorem fl_X12_done_71 : pFL wsX12_done RX12 71 12 25 := ⟨RX12, TX12, 32, hi_X12_done_12, rfl, by decide, by decide +kernel⟩
theorem mf_X12_done : pMF yX12_done wsX12_done cX12_done 5 (some .int) 1 := ⟨⟨_, rfl⟩, by decide +kernel, by decide, by decide +kernel, by decide +kernel, by decide +kernel⟩
def f_X12_done (S : PS) (v1 : Int32) : Option (Int32 × PS) :=
  pgd (pin (6 * v1) 480) (pgd (pin ((6 * v1) + 1) 480) (pgd (pin ((6 * v1) + 2) 480) (pgd (pin v1 80) (if ((S.2 35) v1.toNatClampNeg) = (0 : Int32) then (pgd (pin ((6 * v1) + 3) 480) (pgd (pin ((6 * v1) + 4) 480) (pgd (pin ((6 * v1) + 5) 480) (pbnd (f_X12_put S ((S.2 36) (6 * v1).toNatClampNeg) ((S.2 36) ((6 * v1) + 1).toNatClampNeg) ((S.2 36) ((6 * v1) + 2).toNatClampNeg) ((S.2 36) ((6 * v1) + 3).toNatClampNeg) ((S.2 36) ((6 * v1) + 4).toNatClampNeg) ((S.2 36) ((6 * v1) + 5).toNatClampNeg)) (fun r9 S_9 => some (r9, S_9)))))) else (if ((S.2 35) v1.toNatClampNeg) = (1 : Int32) then (pbnd (f_X12_move S ((S.2 36) (6 * v1).toNatClampNeg) ((S.2 36) ((6 * v1) + 1).toNatClampNeg) ((S.2 36) ((6 * v1) + 2).toNatClampNeg)) (fun r11 S_11 => some (r11, S_11))) else (if ((S.2 35) v1.toNatClampNeg) = (2 : Int32) then (pbnd (f_X12_take S ((S.2 36) (6 * v1).toNatClampNeg)) (fun r13 S_13 => some (r13, S_13))) else (if ((S.2 35) v1.toNatClampNeg) = (3 : Int32) then (pbnd (f_X12_fill S ((S.2 36) (6 * v1).toNatClampNeg) ((S.2 36) ((6 * v1) + 1).toNatClampNeg)) (fun r15 S_15 => some (r15, S_15))) else (pbnd (f_X12_set S 2 ((S.2 36) (6 * v1).toNatClampNeg)) (fun r16 S_16 => some (r16, S_16))))))))))
set_option maxRecDepth 100000 in
theorem c_X12_done (l : Launch) (D : va_G) (dA : Nat → ClassId) (ad : Nat → Nat) (S : PS) (v1 : Int32) {P : (Int32 × PS) → Prop} (hf : pO (f_X12_done S v1) P) : CtI l D dA ad yX12_done wsX12_done 3 [.ref 0, .int v1] (hM S) (fun r h' => ∃ S' : PS, h' = hM S' ∧ P (r, S')) := by
  refine CtI_of mf_X12_done rfl rfl (Nat.le_of_ble_eq_true rfl) rfl (hM_len S) ?_
  unfold f_X12_done at hf
  refine E_aload_n dX12_done_0 rfl ?_
  refine E_getf (v := .ref 18) dX12_done_1 fl_X12_done_74 rfl rfl ?_
  refine E_bipush (v := 6) dX12_done_4 (by decide) ?_
  refine E_iload_n dX12_done_6 rfl ?_
  refine E_imul dX12_done_7 ?_
  obtain ⟨hi_1, hf⟩ := pO_gd hf
  refine E_iald (n0 := 480) (f := S.2 36) dX12_done_8 rfl (pin_in hi_1) ?_
  refine E_istore_n (ls' := [(0, .ref 0), (1, .int v1), (2, .int ((S.2 36) (6 * v1).toNatClampNeg))]) dX12_done_9 (by decide) rfl ?_
  refine E_aload_n dX12_done_10 rfl ?_
  refine E_getf (v := .ref 18) dX12_done_11 fl_X12_done_74 rfl rfl ?_
  refine E_bipush (v := 6) dX12_done_14 (by decide) ?_
  refine E_iload_n dX12_done_16 rfl ?_
  refine E_imul dX12_done_17 ?_
  refine E_iconst (v := 1) dX12_done_18 (by decide) ?_
  refine E_iadd dX12_done_19 ?_
  obtain ⟨hi_2, hf⟩ := pO_gd hf
  refine E_iald (n0 := 480) (f := S.2 36) dX12_done_20 rfl (pin_in hi_2) ?_
  refine E_istore_n (ls' := [(0, .ref 0), (1, .int v1), (2, .int ((S.2 36) (6 * v1).toNatClampNeg)), (3, .int ((S.2 36) ((6 * v1) + 1).toNatClampNeg))]) dX12_done_21 (by decide) rfl ?_
  refine E_aload_n dX12_done_22 rfl ?_
  refine E_getf (v := .ref 18) dX12_done_23 fl_X12_done_74 rfl rfl ?_
  refine E_bipush (v := 6) dX12_done_26 (by decide) ?_
  refine E_iload_n dX12_done_28 rfl ?_
  refine E_imul dX12_done_29 ?_
  refine E_iconst (v := 2) dX12_done_30 (by decide) ?_
  refine E_iadd dX12_done_31 ?_
  obtain ⟨hi_3, hf⟩ := pO_gd hf
  refine E_iald (n0 := 480) (f := S.2 36) dX12_done_32 rfl (pin_in hi_3) ?_
  refine E_istore (ls' := [(0, .ref 0), (1, .int v1), (2, .int ((S.2 36) (6 * v1).toNatClampNeg)), (3, .int ((S.2 36) ((6 * v1) + 1).toNatClampNeg)), (4, .int ((S.2 36) ((6 * v1) + 2).toNatClampNeg))]) dX12_done_33 (by decide) rfl ?_
  refine E_aload_n dX12_done_35 rfl ?_
  refine E_getf (v := .ref 17) dX12_done_36 fl_X12_done_71 rfl rfl ?_
  refine E_iload_n dX12_done_39 rfl ?_
  obtain ⟨hi_4, hf⟩ := pO_gd hf
  refine E_iald (n0 := 80) (f := S.2 35) dX12_done_40 rfl (pin_in hi_4) ?_
  by_cases k_5 : ((S.2 35) v1.toNatClampNeg) = (0 : Int32)
  · have hf := pO_pos k_5 hf
    refine E_tableIn (off := 31) (tgt := 72) dX12_done_41 (by rw [k_5]; decide) (by rw [k_5]; decide) (by rw [k_5]; rfl) (by decide) ?_
    refine E_aload_n dX12_done_72 rfl ?_
    refine E_iload_n dX12_done_73 rfl ?_
    refine E_iload_n dX12_done_74 rfl ?_
    refine E_iload dX12_done_75 rfl ?_
    refine E_aload_n dX12_done_77 rfl ?_
    refine E_getf (v := .ref 18) dX12_done_78 fl_X12_done_74 rfl rfl ?_
    refine E_bipush (v := 6) dX12_done_81 (by decide) ?_
    refine E_iload_n dX12_done_83 rfl ?_
    refine E_imul dX12_done_84 ?_
    refine E_iconst (v := 3) dX12_done_85 (by decide) ?_
    refine E_iadd dX12_done_86 ?_
    obtain ⟨hi_6, hf⟩ := pO_gd hf
    refine E_iald (n0 := 480) (f := S.2 36) dX12_done_87 rfl (pin_in hi_6) ?_
    refine E_aload_n dX12_done_88 rfl ?_
    refine E_getf (v := .ref 18) dX12_done_89 fl_X12_done_74 rfl rfl ?_
    refine E_bipush (v := 6) dX12_done_92 (by decide) ?_
    refine E_iload_n dX12_done_94 rfl ?_
    refine E_imul dX12_done_95 ?_
    refine E_iconst (v := 4) dX12_done_96 (by decide) ?_
    refine E_iadd dX12_done_97 ?_
    obtain ⟨hi_7, hf⟩ := pO_gd hf
    refine E_iald (n0 := 480) (f := S.2 36) dX12_done_98 rfl (pin_in hi_7) ?_
    refine E_aload_n dX12_done_99 rfl ?_
    refine E_getf (v := .ref 18) dX12_done_100 fl_X12_done_74 rfl rfl ?_
    refine E_bipush (v := 6) dX12_done_103 (by decide) ?_
    refine E_iload_n dX12_done_105 rfl ?_
    refine E_imul dX12_done_106 ?_
    refine E_iconst (v := 5) dX12_done_107 (by decide) ?_
    refine E_iadd dX12_done_108 ?_
    obtain ⟨hi_8, hf⟩ := pO_gd hf
    refine E_iald (n0 := 480) (f := S.2 36) dX12_done_109 rfl (pin_in hi_8) ?_
    refine E_callVI (st := []) (c_X12_put l D dA ad S ((S.2 36) (6 * v1).toNatClampNeg) ((S.2 36) ((6 * v1) + 1).toNatClampNeg) ((S.2 36) ((6 * v1) + 2).toNatClampNeg) ((S.2 36) ((6 * v1) + 3).toNatClampNeg) ((S.2 36) ((6 * v1) + 4).toNatClampNeg) ((S.2 36) ((6 * v1) + 5).toNatClampNeg) (pO_bnd hf)) mf_X12_put rfl rfl gX12_done_X12_put (pRc.of (ci := 12) rfl rfl) (by omega) rfl (Nat.le_of_ble_eq_true rfl) (by rfl) dX12_done_110 (fun r9 h9 q9 => ?_)
    obtain ⟨S_9, rfl, hf⟩ := q9
    dsimp only at hf
    exact E_iret rfl dX12_done_113 ⟨_, rfl, hf⟩
  · have hf := pO_neg k_5 hf
    by_cases k_10 : ((S.2 35) v1.toNatClampNeg) = (1 : Int32)
    · have hf := pO_pos k_10 hf
      refine E_tableIn (off := 73) (tgt := 114) dX12_done_41 (by rw [k_10]; decide) (by rw [k_10]; decide) (by rw [k_10]; rfl) (by decide) ?_
      refine E_aload_n dX12_done_114 rfl ?_
      refine E_iload_n dX12_done_115 rfl ?_
      refine E_iload_n dX12_done_116 rfl ?_
      refine E_iload dX12_done_117 rfl ?_
      refine E_callVI (st := []) (c_X12_move l D dA ad S ((S.2 36) (6 * v1).toNatClampNeg) ((S.2 36) ((6 * v1) + 1).toNatClampNeg) ((S.2 36) ((6 * v1) + 2).toNatClampNeg) (pO_bnd hf)) mf_X12_move rfl rfl gX12_done_X12_move (pRc.of (ci := 12) rfl rfl) (by omega) rfl (Nat.le_of_ble_eq_true rfl) (by rfl) dX12_done_119 (fun r11 h11 q11 => ?_)
      obtain ⟨S_11, rfl, hf⟩ := q11
      dsimp only at hf
      exact E_iret rfl dX12_done_122 ⟨_, rfl, hf⟩
    · have hf := pO_neg k_10 hf
      by_cases k_12 : ((S.2 35) v1.toNatClampNeg) = (2 : Int32)
      · have hf := pO_pos k_12 hf
        refine E_tableIn (off := 82) (tgt := 123) dX12_done_41 (by rw [k_12]; decide) (by rw [k_12]; decide) (by rw [k_12]; rfl) (by decide) ?_
        refine E_aload_n dX12_done_123 rfl ?_
        refine E_iload_n dX12_done_124 rfl ?_
        refine E_callVI (st := []) (c_X12_take l D dA ad S ((S.2 36) (6 * v1).toNatClampNeg) (pO_bnd hf)) mf_X12_take rfl rfl gX12_done_X12_take (pRc.of (ci := 12) rfl rfl) (by omega) rfl (Nat.le_of_ble_eq_true rfl) (by rfl) dX12_done_125 (fun r13 h13 q13 => ?_)
        obtain ⟨S_13, rfl, hf⟩ := q13
        dsimp only at hf
        exact E_iret rfl dX12_done_128 ⟨_, rfl, hf⟩
      · have hf := pO_neg k_12 hf
        by_cases k_14 : ((S.2 35) v1.toNatClampNeg) = (3 : Int32)
        · have hf := pO_pos k_14 hf
          refine E_tableIn (off := 88) (tgt := 129) dX12_done_41 (by rw [k_14]; decide) (by rw [k_14]; decide) (by rw [k_14]; rfl) (by decide) ?_
          refine E_aload_n dX12_done_129 rfl ?_
          refine E_iload_n dX12_done_130 rfl ?_
          refine E_iload_n dX12_done_131 rfl ?_
          refine E_callVI (st := []) (c_X12_fill l D dA ad S ((S.2 36) (6 * v1).toNatClampNeg) ((S.2 36) ((6 * v1) + 1).toNatClampNeg) (pO_bnd hf)) mf_X12_fill rfl rfl gX12_done_X12_fill (pRc.of (ci := 12) rfl rfl) (by omega) rfl (Nat.le_of_ble_eq_true rfl) (by rfl) dX12_done_132 (fun r15 h15 q15 => ?_)
          obtain ⟨S_15, rfl, hf⟩ := q15
          dsimp only at hf
          exact E_iret rfl dX12_done_135 ⟨_, rfl, hf⟩
        · have hf := pO_neg k_14 hf
          refine E_tableOut (tgt := 136) dX12_done_41 (by have z0 := pti k_5 (by decide : (0 : Int32).toInt = 0); have z1 := pti k_10 (by decide : (1 : Int32).toInt = 1); have z2 := pti k_12 (by decide : (2 : Int32).toInt = 2); have z3 := pti k_14 (by decide : (3 : Int32).toInt = 3); omega) (by decide) ?_
          refine E_aload_n dX12_done_136 rfl ?_
          refine E_iconst (v := 2) dX12_done_137 (by decide) ?_
          refine E_iload_n dX12_done_138 rfl ?_
          refine E_callVI (st := []) (c_X12_set l D dA ad S 2 ((S.2 36) (6 * v1).toNatClampNeg) (pO_bnd hf)) mf_X12_set rfl rfl gX12_done_X12_set (pRc.of (ci := 12) rfl rfl) (by omega) rfl (Nat.le_of_ble_eq_true rfl) (by rfl) dX12_done_139 (fun r16 h16 q16 => ?_)
          obtain ⟨S_16, rfl, hf⟩ := q16
          dsimp only at hf
          exact E_iret rfl dX12_done_142 ⟨_, rfl, hf⟩
