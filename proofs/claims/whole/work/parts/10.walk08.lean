theorem hi_X12_order_12 : ∀ w ∈ u_ws RX12 TX12 32, w ∈ wsX12_order := fun w h => of_decide_eq_true (List.all_eq_true.mp (by decide +kernel : (u_ws RX12 TX12 32).all (fun w => decide (w ∈ wsX12_order)) = true) w h)
theorem fl_X12_order_98 : pFL wsX12_order RX12 98 12 6 := ⟨RX12, TX12, 32, hi_X12_order_12, rfl, by decide, by decide +kernel⟩
theorem hi_X12_layRank_12 : ∀ w ∈ u_ws RX12 TX12 32, w ∈ wsX12_layRank := fun w h => of_decide_eq_true (List.all_eq_true.mp (by decide +kernel : (u_ws RX12 TX12 32).all (fun w => decide (w ∈ wsX12_layRank)) = true) w h)
theorem fl_X12_layRank_98 : pFL wsX12_layRank RX12 98 12 6 := ⟨RX12, TX12, 32, hi_X12_layRank_12, rfl, by decide, by decide +kernel⟩
theorem fl_X12_layRank_58 : pFL wsX12_layRank RX12 58 12 17 := ⟨RX12, TX12, 32, hi_X12_layRank_12, rfl, by decide, by decide +kernel⟩
theorem hi_X12_isAhead_12 : ∀ w ∈ u_ws RX12 TX12 32, w ∈ wsX12_isAhead := fun w h => of_decide_eq_true (List.all_eq_true.mp (by decide +kernel : (u_ws RX12 TX12 32).all (fun w => decide (w ∈ wsX12_isAhead)) = true) w h)
theorem fl_X12_isAhead_43 : pFL wsX12_isAhead RX12 43 12 12 := ⟨RX12, TX12, 32, hi_X12_isAhead_12, rfl, by decide, by decide +kernel⟩
theorem mf_X12_isAhead : pMF yX12_isAhead wsX12_isAhead cX12_isAhead 6 (some .boolean) 3 := ⟨⟨_, rfl⟩, by decide +kernel, by decide, by decide +kernel, by decide +kernel, by decide +kernel⟩
def f_X12_isAhead (S : PS) (v1 : Int32) (v2 : Int32) (v3 : Int32) : Option (Int32 × PS) :=
  if v1 = (0 : Int32) then (pbnd (f_X12_weighs S v2) (fun r12 S_12 => if v1 = (0 : Int32) then (pbnd (f_X12_weighs S_12 v3) (fun r18 S_18 => if r12 = r18 then (if v3 ≤ v2 then (some (0, S_18)) else (some (1, S_18))) else (if r12 ≤ r18 then (some (0, S_18)) else (some (1, S_18))))) else (pgd (pin v3 16) (if r12 = ((S_12.2 7) v3.toNatClampNeg) then (if v3 ≤ v2 then (some (0, S_12)) else (some (1, S_12))) else (if r12 ≤ ((S_12.2 7) v3.toNatClampNeg) then (some (0, S_12)) else (some (1, S_12))))))) else (pgd (pin v2 16) (if v1 = (0 : Int32) then (pbnd (f_X12_weighs S v3) (fun r8 S_8 => if ((S.2 7) v2.toNatClampNeg) = r8 then (if v3 ≤ v2 then (some (0, S_8)) else (some (1, S_8))) else (if ((S.2 7) v2.toNatClampNeg) ≤ r8 then (some (0, S_8)) else (some (1, S_8))))) else (pgd (pin v3 16) (if ((S.2 7) v2.toNatClampNeg) = ((S.2 7) v3.toNatClampNeg) then (if v3 ≤ v2 then (some (0, S)) else (some (1, S))) else (if ((S.2 7) v2.toNatClampNeg) ≤ ((S.2 7) v3.toNatClampNeg) then (some (0, S)) else (some (1, S)))))))
set_option maxRecDepth 100000 in
theorem c_X12_isAhead (l : Launch) (D : va_G) (dA : Nat → ClassId) (ad : Nat → Nat) (S : PS) (v1 : Int32) (v2 : Int32) (v3 : Int32) {P : (Int32 × PS) → Prop} (hf : pO (f_X12_isAhead S v1 v2 v3) P) : CtI l D dA ad yX12_isAhead wsX12_isAhead 1 [.ref 0, .int v1, .int v2, .int v3] (hM S) (fun r h' => ∃ S' : PS, h' = hM S' ∧ P (r, S')) := by
  refine CtI_of mf_X12_isAhead rfl rfl (Nat.le_of_ble_eq_true rfl) rfl (hM_len S) ?_
  unfold f_X12_isAhead at hf
  refine E_iload_n dX12_isAhead_0 rfl ?_
  refine E_if_ne (tgt := 12) dX12_isAhead_1 (by decide) (fun c_1 => ?_) (fun c_1 => ?_)
  · have hf := pO_neg c_1 hf
    refine E_aload_n dX12_isAhead_12 rfl ?_
    refine E_getf (v := .ref 8) dX12_isAhead_13 fl_X12_isAhead_43 rfl rfl ?_
    refine E_iload_n dX12_isAhead_16 rfl ?_
    obtain ⟨hi_2, hf⟩ := pO_gd hf
    refine E_iald (n0 := 16) (f := S.2 7) dX12_isAhead_17 rfl (pin_in hi_2) ?_
    refine E_istore (ls' := [(0, .ref 0), (1, .int v1), (2, .int v2), (3, .int v3), (4, .int ((S.2 7) v2.toNatClampNeg))]) dX12_isAhead_18 (by decide) rfl ?_
    refine E_iload_n dX12_isAhead_20 rfl ?_
    refine E_if_ne (tgt := 32) dX12_isAhead_21 (by decide) (fun c_3 => ?_) (fun c_3 => ?_)
    · have hf := pO_neg c_3 hf
      refine E_aload_n dX12_isAhead_32 rfl ?_
      refine E_getf (v := .ref 8) dX12_isAhead_33 fl_X12_isAhead_43 rfl rfl ?_
      refine E_iload_n dX12_isAhead_36 rfl ?_
      obtain ⟨hi_4, hf⟩ := pO_gd hf
      refine E_iald (n0 := 16) (f := S.2 7) dX12_isAhead_37 rfl (pin_in hi_4) ?_
      refine E_istore (ls' := [(0, .ref 0), (1, .int v1), (2, .int v2), (3, .int v3), (4, .int ((S.2 7) v2.toNatClampNeg)), (5, .int ((S.2 7) v3.toNatClampNeg))]) dX12_isAhead_38 (by decide) rfl ?_
      refine E_iload dX12_isAhead_40 rfl ?_
      refine E_iload dX12_isAhead_42 rfl ?_
      refine E_icmp_eq (tgt := 62) dX12_isAhead_44 (by decide) (fun c_5 => ?_) (fun c_5 => ?_)
      · have hf := pO_pos c_5 hf
        refine E_iload_n dX12_isAhead_62 rfl ?_
        refine E_iload_n dX12_isAhead_63 rfl ?_
        refine E_icmp_ge (tgt := 71) dX12_isAhead_64 (by decide) (fun c_6 => ?_) (fun c_6 => ?_)
        · have hf := pO_pos c_6 hf
          refine E_iconst (v := 0) dX12_isAhead_71 (by decide) ?_
          exact E_zret rfl dX12_isAhead_72 (by decide) ⟨_, rfl, hf⟩
        · have hf := pO_neg c_6 hf
          refine E_iconst (v := 1) dX12_isAhead_67 (by decide) ?_
          refine E_goto (tgt := 72) dX12_isAhead_68 (by decide) ?_
          exact E_zret rfl dX12_isAhead_72 (by decide) ⟨_, rfl, hf⟩
      · have hf := pO_neg c_5 hf
        refine E_iload dX12_isAhead_47 rfl ?_
        refine E_iload dX12_isAhead_49 rfl ?_
        refine E_icmp_le (tgt := 58) dX12_isAhead_51 (by decide) (fun c_7 => ?_) (fun c_7 => ?_)
        · have hf := pO_pos c_7 hf
          refine E_iconst (v := 0) dX12_isAhead_58 (by decide) ?_
          refine E_goto (tgt := 72) dX12_isAhead_59 (by decide) ?_
          exact E_zret rfl dX12_isAhead_72 (by decide) ⟨_, rfl, hf⟩
        · have hf := pO_neg c_7 hf
          refine E_iconst (v := 1) dX12_isAhead_54 (by decide) ?_
          refine E_goto (tgt := 72) dX12_isAhead_55 (by decide) ?_
          exact E_zret rfl dX12_isAhead_72 (by decide) ⟨_, rfl, hf⟩
    · have hf := pO_pos c_3 hf
      refine E_aload_n dX12_isAhead_24 rfl ?_
      refine E_iload_n dX12_isAhead_25 rfl ?_
      refine E_callVI (st := []) (c_X12_weighs l D dA ad S v3 (pO_bnd hf)) mf_X12_weighs rfl rfl gX12_isAhead_X12_weighs (pRc.of (ci := 12) rfl rfl) (by omega) rfl (Nat.le_of_ble_eq_true rfl) (by rfl) dX12_isAhead_26 (fun r8 h8 q8 => ?_)
      obtain ⟨S_8, rfl, hf⟩ := q8
      dsimp only at hf
      refine E_goto (tgt := 38) dX12_isAhead_29 (by decide) ?_
      refine E_istore (ls' := [(0, .ref 0), (1, .int v1), (2, .int v2), (3, .int v3), (4, .int ((S.2 7) v2.toNatClampNeg)), (5, .int r8)]) dX12_isAhead_38 (by decide) rfl ?_
      refine E_iload dX12_isAhead_40 rfl ?_
      refine E_iload dX12_isAhead_42 rfl ?_
      refine E_icmp_eq (tgt := 62) dX12_isAhead_44 (by decide) (fun c_9 => ?_) (fun c_9 => ?_)
      · have hf := pO_pos c_9 hf
        refine E_iload_n dX12_isAhead_62 rfl ?_
        refine E_iload_n dX12_isAhead_63 rfl ?_
        refine E_icmp_ge (tgt := 71) dX12_isAhead_64 (by decide) (fun c_10 => ?_) (fun c_10 => ?_)
        · have hf := pO_pos c_10 hf
          refine E_iconst (v := 0) dX12_isAhead_71 (by decide) ?_
          exact E_zret rfl dX12_isAhead_72 (by decide) ⟨_, rfl, hf⟩
        · have hf := pO_neg c_10 hf
          refine E_iconst (v := 1) dX12_isAhead_67 (by decide) ?_
          refine E_goto (tgt := 72) dX12_isAhead_68 (by decide) ?_
          exact E_zret rfl dX12_isAhead_72 (by decide) ⟨_, rfl, hf⟩
      · have hf := pO_neg c_9 hf
        refine E_iload dX12_isAhead_47 rfl ?_
        refine E_iload dX12_isAhead_49 rfl ?_
        refine E_icmp_le (tgt := 58) dX12_isAhead_51 (by decide) (fun c_11 => ?_) (fun c_11 => ?_)
        · have hf := pO_pos c_11 hf
          refine E_iconst (v := 0) dX12_isAhead_58 (by decide) ?_
          refine E_goto (tgt := 72) dX12_isAhead_59 (by decide) ?_
          exact E_zret rfl dX12_isAhead_72 (by decide) ⟨_, rfl, hf⟩
        · have hf := pO_neg c_11 hf
          refine E_iconst (v := 1) dX12_isAhead_54 (by decide) ?_
          refine E_goto (tgt := 72) dX12_isAhead_55 (by decide) ?_
          exact E_zret rfl dX12_isAhead_72 (by decide) ⟨_, rfl, hf⟩
  · have hf := pO_pos c_1 hf
    refine E_aload_n dX12_isAhead_4 rfl ?_
    refine E_iload_n dX12_isAhead_5 rfl ?_
    refine E_callVI (st := []) (c_X12_weighs l D dA ad S v2 (pO_bnd hf)) mf_X12_weighs rfl rfl gX12_isAhead_X12_weighs (pRc.of (ci := 12) rfl rfl) (by omega) rfl (Nat.le_of_ble_eq_true rfl) (by rfl) dX12_isAhead_6 (fun r12 h12 q12 => ?_)
    obtain ⟨S_12, rfl, hf⟩ := q12
    dsimp only at hf
    refine E_goto (tgt := 18) dX12_isAhead_9 (by decide) ?_
    refine E_istore (ls' := [(0, .ref 0), (1, .int v1), (2, .int v2), (3, .int v3), (4, .int r12)]) dX12_isAhead_18 (by decide) rfl ?_
    refine E_iload_n dX12_isAhead_20 rfl ?_
    refine E_if_ne (tgt := 32) dX12_isAhead_21 (by decide) (fun c_13 => ?_) (fun c_13 => ?_)
    · have hf := pO_neg c_13 hf
      refine E_aload_n dX12_isAhead_32 rfl ?_
      refine E_getf (v := .ref 8) dX12_isAhead_33 fl_X12_isAhead_43 rfl rfl ?_
      refine E_iload_n dX12_isAhead_36 rfl ?_
      obtain ⟨hi_14, hf⟩ := pO_gd hf
      refine E_iald (n0 := 16) (f := S_12.2 7) dX12_isAhead_37 rfl (pin_in hi_14) ?_
      refine E_istore (ls' := [(0, .ref 0), (1, .int v1), (2, .int v2), (3, .int v3), (4, .int r12), (5, .int ((S_12.2 7) v3.toNatClampNeg))]) dX12_isAhead_38 (by decide) rfl ?_
      refine E_iload dX12_isAhead_40 rfl ?_
      refine E_iload dX12_isAhead_42 rfl ?_
      refine E_icmp_eq (tgt := 62) dX12_isAhead_44 (by decide) (fun c_15 => ?_) (fun c_15 => ?_)
      · have hf := pO_pos c_15 hf
        refine E_iload_n dX12_isAhead_62 rfl ?_
        refine E_iload_n dX12_isAhead_63 rfl ?_
        refine E_icmp_ge (tgt := 71) dX12_isAhead_64 (by decide) (fun c_16 => ?_) (fun c_16 => ?_)
        · have hf := pO_pos c_16 hf
          refine E_iconst (v := 0) dX12_isAhead_71 (by decide) ?_
          exact E_zret rfl dX12_isAhead_72 (by decide) ⟨_, rfl, hf⟩
        · have hf := pO_neg c_16 hf
          refine E_iconst (v := 1) dX12_isAhead_67 (by decide) ?_
          refine E_goto (tgt := 72) dX12_isAhead_68 (by decide) ?_
          exact E_zret rfl dX12_isAhead_72 (by decide) ⟨_, rfl, hf⟩
      · have hf := pO_neg c_15 hf
        refine E_iload dX12_isAhead_47 rfl ?_
        refine E_iload dX12_isAhead_49 rfl ?_
        refine E_icmp_le (tgt := 58) dX12_isAhead_51 (by decide) (fun c_17 => ?_) (fun c_17 => ?_)
        · have hf := pO_pos c_17 hf
          refine E_iconst (v := 0) dX12_isAhead_58 (by decide) ?_
          refine E_goto (tgt := 72) dX12_isAhead_59 (by decide) ?_
          exact E_zret rfl dX12_isAhead_72 (by decide) ⟨_, rfl, hf⟩
        · have hf := pO_neg c_17 hf
          refine E_iconst (v := 1) dX12_isAhead_54 (by decide) ?_
          refine E_goto (tgt := 72) dX12_isAhead_55 (by decide) ?_
          exact E_zret rfl dX12_isAhead_72 (by decide) ⟨_, rfl, hf⟩
    · have hf := pO_pos c_13 hf
      refine E_aload_n dX12_isAhead_24 rfl ?_
      refine E_iload_n dX12_isAhead_25 rfl ?_
      refine E_callVI (st := []) (c_X12_weighs l D dA ad S_12 v3 (pO_bnd hf)) mf_X12_weighs rfl rfl gX12_isAhead_X12_weighs (pRc.of (ci := 12) rfl rfl) (by omega) rfl (Nat.le_of_ble_eq_true rfl) (by rfl) dX12_isAhead_26 (fun r18 h18 q18 => ?_)
      obtain ⟨S_18, rfl, hf⟩ := q18
      dsimp only at hf
      refine E_goto (tgt := 38) dX12_isAhead_29 (by decide) ?_
      refine E_istore (ls' := [(0, .ref 0), (1, .int v1), (2, .int v2), (3, .int v3), (4, .int r12), (5, .int r18)]) dX12_isAhead_38 (by decide) rfl ?_
      refine E_iload dX12_isAhead_40 rfl ?_
      refine E_iload dX12_isAhead_42 rfl ?_
      refine E_icmp_eq (tgt := 62) dX12_isAhead_44 (by decide) (fun c_19 => ?_) (fun c_19 => ?_)
      · have hf := pO_pos c_19 hf
        refine E_iload_n dX12_isAhead_62 rfl ?_
        refine E_iload_n dX12_isAhead_63 rfl ?_
        refine E_icmp_ge (tgt := 71) dX12_isAhead_64 (by decide) (fun c_20 => ?_) (fun c_20 => ?_)
        · have hf := pO_pos c_20 hf
          refine E_iconst (v := 0) dX12_isAhead_71 (by decide) ?_
          exact E_zret rfl dX12_isAhead_72 (by decide) ⟨_, rfl, hf⟩
        · have hf := pO_neg c_20 hf
          refine E_iconst (v := 1) dX12_isAhead_67 (by decide) ?_
          refine E_goto (tgt := 72) dX12_isAhead_68 (by decide) ?_
          exact E_zret rfl dX12_isAhead_72 (by decide) ⟨_, rfl, hf⟩
      · have hf := pO_neg c_19 hf
        refine E_iload dX12_isAhead_47 rfl ?_
        refine E_iload dX12_isAhead_49 rfl ?_
        refine E_icmp_le (tgt := 58) dX12_isAhead_51 (by decide) (fun c_21 => ?_) (fun c_21 => ?_)
        · have hf := pO_pos c_21 hf
          refine E_iconst (v := 0) dX12_isAhead_58 (by decide) ?_
          refine E_goto (tgt := 72) dX12_isAhead_59 (by decide) ?_
          exact E_zret rfl dX12_isAhead_72 (by decide) ⟨_, rfl, hf⟩
        · have hf := pO_neg c_21 hf
          refine E_iconst (v := 1) dX12_isAhead_54 (by decide) ?_
          refine E_goto (tgt := 72) dX12_isAhead_55 (by decide) ?_
          exact E_zret rfl dX12_isAhead_72 (by decide) ⟨_, rfl, hf⟩
def g_X12_layRank_12 : Nat → PS → Int32 → Int32 → Int32 → Option ((Int32 × PS) ⊕ (PS × Int32))
  | 0, _, _, _, _ => none
  | fuel + 1, S, v1, v2, v3 =>
    if (2 : Int32) ≤ v1 then (some (.inr (S, v3))) else (if v3 ≤ (0 : Int32) then (some (.inr (S, v3))) else (pgd (pin (v3 - 1) 16) (pbnd (f_X12_isAhead S v1 v2 ((S.2 30) (v3 - 1).toNatClampNeg)) (fun r5 S_5 => if r5 = (0 : Int32) then (some (.inr (S_5, v3))) else (pgd (pin (v3 - 1) 16) (pgd (pin v3 16) (g_X12_layRank_12 fuel (pAr S_5 30 (upd (S_5.2 30) v3.toNatClampNeg ((S_5.2 30) (v3 - 1).toNatClampNeg))) v1 v2 (v3 + (-1)))))))))
set_option maxRecDepth 100000 in
theorem l_X12_layRank_12 (l : Launch) (D : va_G) (dA : Nat → ClassId) (ad : Nat → Nat) (d : Nat) (hd : 2 ≤ d) {Q : List PC → Prop} : ∀ (fuel : Nat) (S : PS) (v1 : Int32) (v2 : Int32) (v3 : Int32), pO (g_X12_layRank_12 fuel S v1 v2 v3) (fun y => match y with
    | .inl x => Q (hM x.2)
    | .inr w => Ev l D dA ad wsX12_layRank cX12_layRank RX12 4 none d 38 (pKv D dA ad 38 Q) 58 [(0, .ref 0), (1, .int v1), (2, .int v2), (3, .int w.2)] [] (hM w.1)) → Ev l D dA ad wsX12_layRank cX12_layRank RX12 4 none d 38 (pKv D dA ad 38 Q) 12 [(0, .ref 0), (1, .int v1), (2, .int v2), (3, .int v3)] [] (hM S) := by
  intro fuel
  induction fuel with
  | zero =>
    intro S v1 v2 v3 hf
    exact hf.elim
  | succ fuel ih =>
    intro S v1 v2 v3 hf
    rw [g_X12_layRank_12] at hf
    refine E_iload_n dX12_layRank_12 rfl ?_
    refine E_iconst (v := 2) dX12_layRank_13 (by decide) ?_
    refine E_icmp_ge (tgt := 58) dX12_layRank_14 (by decide) (fun c_2 => ?_) (fun c_2 => ?_)
    · have hf := pO_pos c_2 hf
      exact E_sub (ls' := [(0, .ref 0), (1, .int v1), (2, .int v2), (3, .int v3)]) ⟨rfl, rfl, rfl, rfl, trivial⟩ hf
    · have hf := pO_neg c_2 hf
      refine E_iload_n dX12_layRank_17 rfl ?_
      refine E_if_le (tgt := 58) dX12_layRank_18 (by decide) (fun c_3 => ?_) (fun c_3 => ?_)
      · have hf := pO_pos c_3 hf
        exact E_sub (ls' := [(0, .ref 0), (1, .int v1), (2, .int v2), (3, .int v3)]) ⟨rfl, rfl, rfl, rfl, trivial⟩ hf
      · have hf := pO_neg c_3 hf
        refine E_aload_n dX12_layRank_21 rfl ?_
        refine E_iload_n dX12_layRank_22 rfl ?_
        refine E_iload_n dX12_layRank_23 rfl ?_
        refine E_aload_n dX12_layRank_24 rfl ?_
        refine E_getf (v := .ref 13) dX12_layRank_25 fl_X12_layRank_58 rfl rfl ?_
        refine E_iload_n dX12_layRank_28 rfl ?_
        refine E_iconst (v := 1) dX12_layRank_29 (by decide) ?_
        refine E_isub dX12_layRank_30 ?_
        obtain ⟨hi_4, hf⟩ := pO_gd hf
        refine E_iald (n0 := 16) (f := S.2 30) dX12_layRank_31 rfl (pin_in hi_4) ?_
        refine E_callVI (st := []) (c_X12_isAhead l D dA ad S v1 v2 ((S.2 30) (v3 - 1).toNatClampNeg) (pO_bnd hf)) mf_X12_isAhead rfl rfl gX12_layRank_X12_isAhead (pRc.of (ci := 12) rfl rfl) (by omega) rfl (Nat.le_of_ble_eq_true rfl) (by rfl) dX12_layRank_32 (fun r5 h5 q5 => ?_)
        obtain ⟨S_5, rfl, hf⟩ := q5
        dsimp only at hf
        refine E_if_eq (tgt := 58) dX12_layRank_35 (by decide) (fun c_6 => ?_) (fun c_6 => ?_)
        · have hf := pO_pos c_6 hf
          exact E_sub (ls' := [(0, .ref 0), (1, .int v1), (2, .int v2), (3, .int v3)]) ⟨rfl, rfl, rfl, rfl, trivial⟩ hf
        · have hf := pO_neg c_6 hf
          refine E_aload_n dX12_layRank_38 rfl ?_
          refine E_getf (v := .ref 13) dX12_layRank_39 fl_X12_layRank_58 rfl rfl ?_
          refine E_iload_n dX12_layRank_42 rfl ?_
          refine E_aload_n dX12_layRank_43 rfl ?_
          refine E_getf (v := .ref 13) dX12_layRank_44 fl_X12_layRank_58 rfl rfl ?_
          refine E_iload_n dX12_layRank_47 rfl ?_
          refine E_iconst (v := 1) dX12_layRank_48 (by decide) ?_
          refine E_isub dX12_layRank_49 ?_
          obtain ⟨hi_7, hf⟩ := pO_gd hf
          refine E_iald (n0 := 16) (f := S_5.2 30) dX12_layRank_50 rfl (pin_in hi_7) ?_
          obtain ⟨hi_8, hf⟩ := pO_gd hf
          refine E_iast (n0 := 16) (f := S_5.2 30) (h' := hM (pAr S_5 30 (upd (S_5.2 30) v3.toNatClampNeg ((S_5.2 30) (v3 - 1).toNatClampNeg)))) dX12_layRank_51 rfl (pin_in hi_8) (sM_A30 S_5 (upd (S_5.2 30) v3.toNatClampNeg ((S_5.2 30) (v3 - 1).toNatClampNeg))) ?_
          refine E_iinc (v := v3 + (-1)) (ls' := [(0, .ref 0), (1, .int v1), (2, .int v2), (3, .int (v3 + (-1)))]) dX12_layRank_52 rfl rfl (by decide) rfl ?_
          refine E_goto (tgt := 12) dX12_layRank_55 (by decide) ?_
          exact E_sub (ls' := [(0, .ref 0), (1, .int v1), (2, .int v2), (3, .int (v3 + (-1)))]) ⟨rfl, rfl, rfl, rfl, trivial⟩ (ih (pAr S_5 30 (upd (S_5.2 30) v3.toNatClampNeg ((S_5.2 30) (v3 - 1).toNatClampNeg))) v1 v2 (v3 + (-1)) hf)
def g_X12_layRank_2 : Nat → PS → Int32 → Int32 → Option ((Int32 × PS) ⊕ (PS))
  | 0, _, _, _ => none
  | fuel + 1, S, v1, v2 =>
    if (S.1 4) ≤ v2 then (some (.inr (S))) else (plq (g_X12_layRank_12 pfuel S v1 v2 v2) (fun w => (fun (S_9 : PS) (v3_9 : Int32) => pgd (pin v3_9 16) (g_X12_layRank_2 fuel (pAr S_9 30 (upd (S_9.2 30) v3_9.toNatClampNeg v2)) v1 (v2 + 1))) w.1 w.2))
set_option maxRecDepth 100000 in
theorem l_X12_layRank_2 (l : Launch) (D : va_G) (dA : Nat → ClassId) (ad : Nat → Nat) (d : Nat) (hd : 2 ≤ d) {Q : List PC → Prop} : ∀ (fuel : Nat) (S : PS) (v1 : Int32) (v2 : Int32), pO (g_X12_layRank_2 fuel S v1 v2) (fun y => match y with
    | .inl x => Q (hM x.2)
    | .inr w => Ev l D dA ad wsX12_layRank cX12_layRank RX12 4 none d 38 (pKv D dA ad 38 Q) 71 [(0, .ref 0), (1, .int v1)] [] (hM w)) → Ev l D dA ad wsX12_layRank cX12_layRank RX12 4 none d 38 (pKv D dA ad 38 Q) 2 [(0, .ref 0), (1, .int v1), (2, .int v2)] [] (hM S) := by
  intro fuel
  induction fuel with
  | zero =>
    intro S v1 v2 hf
    exact hf.elim
  | succ fuel ih =>
    intro S v1 v2 hf
    rw [g_X12_layRank_2] at hf
    refine E_iload_n dX12_layRank_2 rfl ?_
    refine E_aload_n dX12_layRank_3 rfl ?_
    refine E_getf (v := .int (S.1 4)) dX12_layRank_4 fl_X12_layRank_98 rfl rfl ?_
    refine E_icmp_ge (tgt := 71) dX12_layRank_7 (by decide) (fun c_1 => ?_) (fun c_1 => ?_)
    · have hf := pO_pos c_1 hf
      exact E_sub (ls' := [(0, .ref 0), (1, .int v1)]) ⟨rfl, rfl, trivial⟩ hf
    · have hf := pO_neg c_1 hf
      refine E_iload_n dX12_layRank_10 rfl ?_
      refine E_istore_n (ls' := [(0, .ref 0), (1, .int v1), (2, .int v2), (3, .int v2)]) dX12_layRank_11 (by decide) rfl ?_
      refine E_sub (ls' := [(0, .ref 0), (1, .int v1), (2, .int v2), (3, .int v2)]) ⟨rfl, rfl, rfl, rfl, trivial⟩ ?_
      refine l_X12_layRank_12 l D dA ad _ (by omega) pfuel S v1 v2 v2 (pO_lq hf (fun x hx => hx) (fun w9 hf => ?_))
      obtain ⟨S_9, v3_9⟩ := w9
      dsimp only at hf ⊢
      refine E_aload_n dX12_layRank_58 rfl ?_
      refine E_getf (v := .ref 13) dX12_layRank_59 fl_X12_layRank_58 rfl rfl ?_
      refine E_iload_n dX12_layRank_62 rfl ?_
      refine E_iload_n dX12_layRank_63 rfl ?_
      obtain ⟨hi_10, hf⟩ := pO_gd hf
      refine E_iast (n0 := 16) (f := S_9.2 30) (h' := hM (pAr S_9 30 (upd (S_9.2 30) v3_9.toNatClampNeg v2))) dX12_layRank_64 rfl (pin_in hi_10) (sM_A30 S_9 (upd (S_9.2 30) v3_9.toNatClampNeg v2)) ?_
      refine E_iinc (v := v2 + 1) (ls' := [(0, .ref 0), (1, .int v1), (2, .int (v2 + 1)), (3, .int v3_9)]) dX12_layRank_65 rfl rfl (by decide) rfl ?_
      refine E_goto (tgt := 2) dX12_layRank_68 (by decide) ?_
      exact E_sub (ls' := [(0, .ref 0), (1, .int v1), (2, .int (v2 + 1))]) ⟨rfl, rfl, rfl, trivial⟩ (ih (pAr S_9 30 (upd (S_9.2 30) v3_9.toNatClampNeg v2)) v1 (v2 + 1) hf)
theorem hi_X12_layBalanced_12 : ∀ w ∈ u_ws RX12 TX12 32, w ∈ wsX12_layBalanced := fun w h => of_decide_eq_true (List.all_eq_true.mp (by decide +kernel : (u_ws RX12 TX12 32).all (fun w => decide (w ∈ wsX12_layBalanced)) = true) w h)
theorem fl_X12_layBalanced_98 : pFL wsX12_layBalanced RX12 98 12 6 := ⟨RX12, TX12, 32, hi_X12_layBalanced_12, rfl, by decide, by decide +kernel⟩
theorem hi_X12_isRanked_12 : ∀ w ∈ u_ws RX12 TX12 32, w ∈ wsX12_isRanked := fun w h => of_decide_eq_true (List.all_eq_true.mp (by decide +kernel : (u_ws RX12 TX12 32).all (fun w => decide (w ∈ wsX12_isRanked)) = true) w h)
theorem fl_X12_isRanked_58 : pFL wsX12_isRanked RX12 58 12 17 := ⟨RX12, TX12, 32, hi_X12_isRanked_12, rfl, by decide, by decide +kernel⟩
def g_X12_isRanked_2 : Nat → PS → Int32 → Int32 → Int32 → Option ((Int32 × PS) ⊕ (PS))
  | 0, _, _, _, _ => none
  | fuel + 1, S, v1, v2, v3 =>
    if v2 ≤ v3 then (some (.inr (S))) else (pgd (pin v3 16) (if ((S.2 30) v3.toNatClampNeg) = v1 then (some (.inl (1, S))) else (g_X12_isRanked_2 fuel S v1 v2 (v3 + 1))))
set_option maxRecDepth 100000 in
theorem l_X12_isRanked_2 (l : Launch) (D : va_G) (dA : Nat → ClassId) (ad : Nat → Nat) (d : Nat) (hd : 0 ≤ d) {Q : Int32 → List PC → Prop} : ∀ (fuel : Nat) (S : PS) (v1 : Int32) (v2 : Int32) (v3 : Int32), pO (g_X12_isRanked_2 fuel S v1 v2 v3) (fun y => match y with
    | .inl x => Q x.1 (hM x.2)
    | .inr w => Ev l D dA ad wsX12_isRanked cX12_isRanked RX12 4 (some .boolean) d 38 (pKi D dA ad 38 Q) 25 [] [] (hM w)) → Ev l D dA ad wsX12_isRanked cX12_isRanked RX12 4 (some .boolean) d 38 (pKi D dA ad 38 Q) 2 [(0, .ref 0), (1, .int v1), (2, .int v2), (3, .int v3)] [] (hM S) := by
  intro fuel
  induction fuel with
  | zero =>
    intro S v1 v2 v3 hf
    exact hf.elim
  | succ fuel ih =>
    intro S v1 v2 v3 hf
    rw [g_X12_isRanked_2] at hf
    refine E_iload_n dX12_isRanked_2 rfl ?_
    refine E_iload_n dX12_isRanked_3 rfl ?_
    refine E_icmp_ge (tgt := 25) dX12_isRanked_4 (by decide) (fun c_1 => ?_) (fun c_1 => ?_)
    · have hf := pO_pos c_1 hf
      exact E_sub (ls' := []) trivial hf
    · have hf := pO_neg c_1 hf
      refine E_aload_n dX12_isRanked_7 rfl ?_
      refine E_getf (v := .ref 13) dX12_isRanked_8 fl_X12_isRanked_58 rfl rfl ?_
      refine E_iload_n dX12_isRanked_11 rfl ?_
      obtain ⟨hi_2, hf⟩ := pO_gd hf
      refine E_iald (n0 := 16) (f := S.2 30) dX12_isRanked_12 rfl (pin_in hi_2) ?_
      refine E_iload_n dX12_isRanked_13 rfl ?_
      refine E_icmp_ne (tgt := 19) dX12_isRanked_14 (by decide) (fun c_3 => ?_) (fun c_3 => ?_)
      · have hf := pO_neg c_3 hf
        refine E_iinc (v := v3 + 1) (ls' := [(0, .ref 0), (1, .int v1), (2, .int v2), (3, .int (v3 + 1))]) dX12_isRanked_19 rfl rfl (by decide) rfl ?_
        refine E_goto (tgt := 2) dX12_isRanked_22 (by decide) ?_
        exact E_sub (ls' := [(0, .ref 0), (1, .int v1), (2, .int v2), (3, .int (v3 + 1))]) ⟨rfl, rfl, rfl, rfl, trivial⟩ (ih S v1 v2 (v3 + 1) hf)
      · have hf := pO_pos c_3 hf
        refine E_iconst (v := 1) dX12_isRanked_17 (by decide) ?_
        exact E_zret rfl dX12_isRanked_18 (by decide) hf
theorem mf_X12_isRanked : pMF yX12_isRanked wsX12_isRanked cX12_isRanked 4 (some .boolean) 2 := ⟨⟨_, rfl⟩, by decide +kernel, by decide, by decide +kernel, by decide +kernel, by decide +kernel⟩
def f_X12_isRanked (S : PS) (v1 : Int32) (v2 : Int32) : Option (Int32 × PS) :=
  plp (g_X12_isRanked_2 pfuel S v1 v2 0) (fun (S_4 : PS) => some (0, S_4))
set_option maxRecDepth 100000 in
theorem c_X12_isRanked (l : Launch) (D : va_G) (dA : Nat → ClassId) (ad : Nat → Nat) (S : PS) (v1 : Int32) (v2 : Int32) {P : (Int32 × PS) → Prop} (hf : pO (f_X12_isRanked S v1 v2) P) : CtI l D dA ad yX12_isRanked wsX12_isRanked 0 [.ref 0, .int v1, .int v2] (hM S) (fun r h' => ∃ S' : PS, h' = hM S' ∧ P (r, S')) := by
  refine CtI_of mf_X12_isRanked rfl rfl (Nat.le_of_ble_eq_true rfl) rfl (hM_len S) ?_
  unfold f_X12_isRanked at hf
  refine E_iconst (v := 0) dX12_isRanked_0 (by decide) ?_
  refine E_istore_n (ls' := [(0, .ref 0), (1, .int v1), (2, .int v2), (3, .int 0)]) dX12_isRanked_1 (by decide) rfl ?_
  refine E_sub (ls' := [(0, .ref 0), (1, .int v1), (2, .int v2), (3, .int 0)]) ⟨rfl, rfl, rfl, rfl, trivial⟩ ?_
  refine l_X12_isRanked_2 l D dA ad _ (by omega) pfuel S v1 v2 0 (pO_lp hf (fun x hx => ⟨x.2, rfl, hx⟩) (fun w4 hf => ?_))
  obtain ⟨S_4, rfl⟩ : ∃ z, z = w4 := ⟨_, rfl⟩
  dsimp only at hf ⊢
  refine E_iconst (v := 0) dX12_isRanked_25 (by decide) ?_
  exact E_zret rfl dX12_isRanked_26 (by decide) ⟨_, rfl, hf⟩
theorem fl_X12_layBalanced_40 : pFL wsX12_layBalanced RX12 40 12 11 := ⟨RX12, TX12, 32, hi_X12_layBalanced_12, rfl, by decide, by decide +kernel⟩
theorem mf_X12_isLighter : pMF yX12_isLighter wsX12_isLighter cX12_isLighter 5 (some .boolean) 4 := ⟨⟨_, rfl⟩, by decide +kernel, by decide, by decide +kernel, by decide +kernel, by decide +kernel⟩
def f_X12_isLighter (S : PS) (v1 : Int32) (v2 : Int32) (v3 : Int32) (v4 : Int32) : Option (Int32 × PS) :=
  if (pabs v1) = (pabs v3) then (pbnd (f_X12_weighs S v2) (fun r2 S_2 => pbnd (f_X12_weighs S_2 v4) (fun r3 S_3 => if r2 ≤ r3 then (some (0, S_3)) else (some (1, S_3))))) else (if (pabs v3) ≤ (pabs v1) then (some (0, S)) else (some (1, S)))
set_option maxRecDepth 100000 in
theorem c_X12_isLighter (l : Launch) (D : va_G) (dA : Nat → ClassId) (ad : Nat → Nat) (S : PS) (v1 : Int32) (v2 : Int32) (v3 : Int32) (v4 : Int32) {P : (Int32 × PS) → Prop} (hf : pO (f_X12_isLighter S v1 v2 v3 v4) P) : CtI l D dA ad yX12_isLighter wsX12_isLighter 1 [.ref 0, .int v1, .int v2, .int v3, .int v4] (hM S) (fun r h' => ∃ S' : PS, h' = hM S' ∧ P (r, S')) := by
  refine CtI_of mf_X12_isLighter rfl rfl (Nat.le_of_ble_eq_true rfl) rfl (hM_len S) ?_
  unfold f_X12_isLighter at hf
  refine E_iload_n dX12_isLighter_0 rfl ?_
  refine E_mabs (by decide +kernel) (by decide +kernel) (by decide +kernel) (by decide +kernel) (by omega) (Nat.le_of_ble_eq_true rfl) (by rfl) dX12_isLighter_1 ?_
  refine E_iload_n dX12_isLighter_4 rfl ?_
  refine E_mabs (by decide +kernel) (by decide +kernel) (by decide +kernel) (by decide +kernel) (by omega) (Nat.le_of_ble_eq_true rfl) (by rfl) dX12_isLighter_5 ?_
  refine E_icmp_eq (tgt := 28) dX12_isLighter_8 (by decide) (fun c_1 => ?_) (fun c_1 => ?_)
  · have hf := pO_pos c_1 hf
    refine E_aload_n dX12_isLighter_28 rfl ?_
    refine E_iload_n dX12_isLighter_29 rfl ?_
    refine E_callVI (st := []) (c_X12_weighs l D dA ad S v2 (pO_bnd hf)) mf_X12_weighs rfl rfl gX12_isLighter_X12_weighs (pRc.of (ci := 12) rfl rfl) (by omega) rfl (Nat.le_of_ble_eq_true rfl) (by rfl) dX12_isLighter_30 (fun r2 h2 q2 => ?_)
    obtain ⟨S_2, rfl, hf⟩ := q2
    dsimp only at hf
    refine E_aload_n dX12_isLighter_33 rfl ?_
    refine E_iload dX12_isLighter_34 rfl ?_
    refine E_callVI (st := [.int r2]) (c_X12_weighs l D dA ad S_2 v4 (pO_bnd hf)) mf_X12_weighs rfl rfl gX12_isLighter_X12_weighs (pRc.of (ci := 12) rfl rfl) (by omega) rfl (Nat.le_of_ble_eq_true rfl) (by rfl) dX12_isLighter_36 (fun r3 h3 q3 => ?_)
    obtain ⟨S_3, rfl, hf⟩ := q3
    dsimp only at hf
    refine E_icmp_le (tgt := 46) dX12_isLighter_39 (by decide) (fun c_4 => ?_) (fun c_4 => ?_)
    · have hf := pO_pos c_4 hf
      refine E_iconst (v := 0) dX12_isLighter_46 (by decide) ?_
      exact E_zret rfl dX12_isLighter_47 (by decide) ⟨_, rfl, hf⟩
    · have hf := pO_neg c_4 hf
      refine E_iconst (v := 1) dX12_isLighter_42 (by decide) ?_
      refine E_goto (tgt := 47) dX12_isLighter_43 (by decide) ?_
      exact E_zret rfl dX12_isLighter_47 (by decide) ⟨_, rfl, hf⟩
  · have hf := pO_neg c_1 hf
    refine E_iload_n dX12_isLighter_11 rfl ?_
    refine E_mabs (by decide +kernel) (by decide +kernel) (by decide +kernel) (by decide +kernel) (by omega) (Nat.le_of_ble_eq_true rfl) (by rfl) dX12_isLighter_12 ?_
    refine E_iload_n dX12_isLighter_15 rfl ?_
    refine E_mabs (by decide +kernel) (by decide +kernel) (by decide +kernel) (by decide +kernel) (by omega) (Nat.le_of_ble_eq_true rfl) (by rfl) dX12_isLighter_16 ?_
    refine E_icmp_ge (tgt := 26) dX12_isLighter_19 (by decide) (fun c_5 => ?_) (fun c_5 => ?_)
    · have hf := pO_pos c_5 hf
      refine E_iconst (v := 0) dX12_isLighter_26 (by decide) ?_
      exact E_zret rfl dX12_isLighter_27 (by decide) ⟨_, rfl, hf⟩
    · have hf := pO_neg c_5 hf
      refine E_iconst (v := 1) dX12_isLighter_22 (by decide) ?_
      refine E_goto (tgt := 27) dX12_isLighter_23 (by decide) ?_
      exact E_zret rfl dX12_isLighter_27 (by decide) ⟨_, rfl, hf⟩
def g_X12_layBalanced_17 : Nat → PS → Int32 → Int32 → Int32 → Int32 → Option ((Int32 × PS) ⊕ (PS × Int32))
  | 0, _, _, _, _, _ => none
  | fuel + 1, S, v1, v2, v3, v4 =>
    if (S.1 4) ≤ v4 then (some (.inr (S, v3))) else (pbnd (f_X12_isRanked S v4 v2) (fun r3 S_3 => if r3 = (0 : Int32) then (if v3 < (0 : Int32) then (g_X12_layBalanced_17 fuel S_3 v1 v2 v4 (v4 + 1)) else (pbnd (f_X12_weighs S_3 v4) (fun r6 S_6 => pgd (pin v4 16) (pbnd (f_X12_weighs S_6 v3) (fun r8 S_8 => pgd (pin v3 16) (pbnd (f_X12_isLighter S_8 (v1 + (r6 * ((S_6.2 6) v4.toNatClampNeg))) v4 (v1 + (r8 * ((S_8.2 6) v3.toNatClampNeg))) v3) (fun r10 S_10 => if r10 = (0 : Int32) then (g_X12_layBalanced_17 fuel S_10 v1 v2 v3 (v4 + 1)) else (g_X12_layBalanced_17 fuel S_10 v1 v2 v4 (v4 + 1))))))))) else (g_X12_layBalanced_17 fuel S_3 v1 v2 v3 (v4 + 1))))
set_option maxRecDepth 100000 in
theorem l_X12_layBalanced_17 (l : Launch) (D : va_G) (dA : Nat → ClassId) (ad : Nat → Nat) (d : Nat) (hd : 2 ≤ d) {Q : List PC → Prop} : ∀ (fuel : Nat) (S : PS) (v1 : Int32) (v2 : Int32) (v3 : Int32) (v4 : Int32), pO (g_X12_layBalanced_17 fuel S v1 v2 v3 v4) (fun y => match y with
    | .inl x => Q (hM x.2)
    | .inr w => Ev l D dA ad wsX12_layBalanced cX12_layBalanced RX12 5 none d 38 (pKv D dA ad 38 Q) 92 [(0, .ref 0), (1, .int v1), (2, .int v2), (3, .int w.2)] [] (hM w.1)) → Ev l D dA ad wsX12_layBalanced cX12_layBalanced RX12 5 none d 38 (pKv D dA ad 38 Q) 17 [(0, .ref 0), (1, .int v1), (2, .int v2), (3, .int v3), (4, .int v4)] [] (hM S) := by
  intro fuel
  induction fuel with
  | zero =>
    intro S v1 v2 v3 v4 hf
    exact hf.elim
  | succ fuel ih =>
    intro S v1 v2 v3 v4 hf
    rw [g_X12_layBalanced_17] at hf
    refine E_iload dX12_layBalanced_17 rfl ?_
    refine E_aload_n dX12_layBalanced_19 rfl ?_
    refine E_getf (v := .int (S.1 4)) dX12_layBalanced_20 fl_X12_layBalanced_98 rfl rfl ?_
    refine E_icmp_ge (tgt := 92) dX12_layBalanced_23 (by decide) (fun c_2 => ?_) (fun c_2 => ?_)
    · have hf := pO_pos c_2 hf
      exact E_sub (ls' := [(0, .ref 0), (1, .int v1), (2, .int v2), (3, .int v3)]) ⟨rfl, rfl, rfl, rfl, trivial⟩ hf
    · have hf := pO_neg c_2 hf
      refine E_aload_n dX12_layBalanced_26 rfl ?_
      refine E_iload dX12_layBalanced_27 rfl ?_
      refine E_iload_n dX12_layBalanced_29 rfl ?_
      refine E_callVI (st := []) (c_X12_isRanked l D dA ad S v4 v2 (pO_bnd hf)) mf_X12_isRanked rfl rfl gX12_layBalanced_X12_isRanked (pRc.of (ci := 12) rfl rfl) (by omega) rfl (Nat.le_of_ble_eq_true rfl) (by rfl) dX12_layBalanced_30 (fun r3 h3 q3 => ?_)
      obtain ⟨S_3, rfl, hf⟩ := q3
      dsimp only at hf
      refine E_if_eq (tgt := 39) dX12_layBalanced_33 (by decide) (fun c_4 => ?_) (fun c_4 => ?_)
      · have hf := pO_pos c_4 hf
        refine E_iload_n dX12_layBalanced_39 rfl ?_
        refine E_if_lt (tgt := 83) dX12_layBalanced_40 (by decide) (fun c_5 => ?_) (fun c_5 => ?_)
        · have hf := pO_pos c_5 hf
          refine E_iload dX12_layBalanced_83 rfl ?_
          refine E_istore_n (ls' := [(0, .ref 0), (1, .int v1), (2, .int v2), (3, .int v4), (4, .int v4)]) dX12_layBalanced_85 (by decide) rfl ?_
          refine E_iinc (v := v4 + 1) (ls' := [(0, .ref 0), (1, .int v1), (2, .int v2), (3, .int v4), (4, .int (v4 + 1))]) dX12_layBalanced_86 rfl rfl (by decide) rfl ?_
          refine E_goto (tgt := 17) dX12_layBalanced_89 (by decide) ?_
          exact E_sub (ls' := [(0, .ref 0), (1, .int v1), (2, .int v2), (3, .int v4), (4, .int (v4 + 1))]) ⟨rfl, rfl, rfl, rfl, rfl, trivial⟩ (ih S_3 v1 v2 v4 (v4 + 1) hf)
        · have hf := pO_neg c_5 hf
          refine E_aload_n dX12_layBalanced_43 rfl ?_
          refine E_iload_n dX12_layBalanced_44 rfl ?_
          refine E_aload_n dX12_layBalanced_45 rfl ?_
          refine E_iload dX12_layBalanced_46 rfl ?_
          refine E_callVI (st := [.int v1, .ref 0]) (c_X12_weighs l D dA ad S_3 v4 (pO_bnd hf)) mf_X12_weighs rfl rfl gX12_layBalanced_X12_weighs (pRc.of (ci := 12) rfl rfl) (by omega) rfl (Nat.le_of_ble_eq_true rfl) (by rfl) dX12_layBalanced_48 (fun r6 h6 q6 => ?_)
          obtain ⟨S_6, rfl, hf⟩ := q6
          dsimp only at hf
          refine E_aload_n dX12_layBalanced_51 rfl ?_
          refine E_getf (v := .ref 7) dX12_layBalanced_52 fl_X12_layBalanced_40 rfl rfl ?_
          refine E_iload dX12_layBalanced_55 rfl ?_
          obtain ⟨hi_7, hf⟩ := pO_gd hf
          refine E_iald (n0 := 16) (f := S_6.2 6) dX12_layBalanced_57 rfl (pin_in hi_7) ?_
          refine E_imul dX12_layBalanced_58 ?_
          refine E_iadd dX12_layBalanced_59 ?_
          refine E_iload dX12_layBalanced_60 rfl ?_
          refine E_iload_n dX12_layBalanced_62 rfl ?_
          refine E_aload_n dX12_layBalanced_63 rfl ?_
          refine E_iload_n dX12_layBalanced_64 rfl ?_
          refine E_callVI (st := [.int v1, .int v4, .int (v1 + (r6 * ((S_6.2 6) v4.toNatClampNeg))), .ref 0]) (c_X12_weighs l D dA ad S_6 v3 (pO_bnd hf)) mf_X12_weighs rfl rfl gX12_layBalanced_X12_weighs (pRc.of (ci := 12) rfl rfl) (by omega) rfl (Nat.le_of_ble_eq_true rfl) (by rfl) dX12_layBalanced_65 (fun r8 h8 q8 => ?_)
          obtain ⟨S_8, rfl, hf⟩ := q8
          dsimp only at hf
          refine E_aload_n dX12_layBalanced_68 rfl ?_
          refine E_getf (v := .ref 7) dX12_layBalanced_69 fl_X12_layBalanced_40 rfl rfl ?_
          refine E_iload_n dX12_layBalanced_72 rfl ?_
          obtain ⟨hi_9, hf⟩ := pO_gd hf
          refine E_iald (n0 := 16) (f := S_8.2 6) dX12_layBalanced_73 rfl (pin_in hi_9) ?_
          refine E_imul dX12_layBalanced_74 ?_
          refine E_iadd dX12_layBalanced_75 ?_
          refine E_iload_n dX12_layBalanced_76 rfl ?_
          refine E_callVI (st := []) (c_X12_isLighter l D dA ad S_8 (v1 + (r6 * ((S_6.2 6) v4.toNatClampNeg))) v4 (v1 + (r8 * ((S_8.2 6) v3.toNatClampNeg))) v3 (pO_bnd hf)) mf_X12_isLighter rfl rfl gX12_layBalanced_X12_isLighter (pRc.of (ci := 12) rfl rfl) (by omega) rfl (Nat.le_of_ble_eq_true rfl) (by rfl) dX12_layBalanced_77 (fun r10 h10 q10 => ?_)
          obtain ⟨S_10, rfl, hf⟩ := q10
          dsimp only at hf
          refine E_if_eq (tgt := 86) dX12_layBalanced_80 (by decide) (fun c_11 => ?_) (fun c_11 => ?_)
          · have hf := pO_pos c_11 hf
            refine E_iinc (v := v4 + 1) (ls' := [(0, .ref 0), (1, .int v1), (2, .int v2), (3, .int v3), (4, .int (v4 + 1))]) dX12_layBalanced_86 rfl rfl (by decide) rfl ?_
            refine E_goto (tgt := 17) dX12_layBalanced_89 (by decide) ?_
            exact E_sub (ls' := [(0, .ref 0), (1, .int v1), (2, .int v2), (3, .int v3), (4, .int (v4 + 1))]) ⟨rfl, rfl, rfl, rfl, rfl, trivial⟩ (ih S_10 v1 v2 v3 (v4 + 1) hf)
          · have hf := pO_neg c_11 hf
            refine E_iload dX12_layBalanced_83 rfl ?_
            refine E_istore_n (ls' := [(0, .ref 0), (1, .int v1), (2, .int v2), (3, .int v4), (4, .int v4)]) dX12_layBalanced_85 (by decide) rfl ?_
            refine E_iinc (v := v4 + 1) (ls' := [(0, .ref 0), (1, .int v1), (2, .int v2), (3, .int v4), (4, .int (v4 + 1))]) dX12_layBalanced_86 rfl rfl (by decide) rfl ?_
            refine E_goto (tgt := 17) dX12_layBalanced_89 (by decide) ?_
            exact E_sub (ls' := [(0, .ref 0), (1, .int v1), (2, .int v2), (3, .int v4), (4, .int (v4 + 1))]) ⟨rfl, rfl, rfl, rfl, rfl, trivial⟩ (ih S_10 v1 v2 v4 (v4 + 1) hf)
      · have hf := pO_neg c_4 hf
        refine E_goto (tgt := 86) dX12_layBalanced_36 (by decide) ?_
        refine E_iinc (v := v4 + 1) (ls' := [(0, .ref 0), (1, .int v1), (2, .int v2), (3, .int v3), (4, .int (v4 + 1))]) dX12_layBalanced_86 rfl rfl (by decide) rfl ?_
        refine E_goto (tgt := 17) dX12_layBalanced_89 (by decide) ?_
        exact E_sub (ls' := [(0, .ref 0), (1, .int v1), (2, .int v2), (3, .int v3), (4, .int (v4 + 1))]) ⟨rfl, rfl, rfl, rfl, rfl, trivial⟩ (ih S_3 v1 v2 v3 (v4 + 1) hf)
theorem fl_X12_layBalanced_58 : pFL wsX12_layBalanced RX12 58 12 17 := ⟨RX12, TX12, 32, hi_X12_layBalanced_12, rfl, by decide, by decide +kernel⟩
def g_X12_layBalanced_4 : Nat → PS → Int32 → Int32 → Option ((Int32 × PS) ⊕ (PS))
  | 0, _, _, _ => none
  | fuel + 1, S, v1, v2 =>
    if (S.1 4) ≤ v2 then (some (.inr (S))) else (plq (g_X12_layBalanced_17 pfuel S v1 v2 (-1) 0) (fun w => (fun (S_12 : PS) (v3_12 : Int32) => pgd (pin v2 16) (pbnd (f_X12_weighs (pAr S_12 30 (upd (S_12.2 30) v2.toNatClampNeg v3_12)) v3_12) (fun r14 S_14 => pgd (pin v3_12 16) (g_X12_layBalanced_4 fuel S_14 (v1 + (r14 * ((S_14.2 6) v3_12.toNatClampNeg))) (v2 + 1))))) w.1 w.2))
set_option maxRecDepth 100000 in
theorem l_X12_layBalanced_4 (l : Launch) (D : va_G) (dA : Nat → ClassId) (ad : Nat → Nat) (d : Nat) (hd : 2 ≤ d) {Q : List PC → Prop} : ∀ (fuel : Nat) (S : PS) (v1 : Int32) (v2 : Int32), pO (g_X12_layBalanced_4 fuel S v1 v2) (fun y => match y with
    | .inl x => Q (hM x.2)
    | .inr w => Ev l D dA ad wsX12_layBalanced cX12_layBalanced RX12 5 none d 38 (pKv D dA ad 38 Q) 120 [] [] (hM w)) → Ev l D dA ad wsX12_layBalanced cX12_layBalanced RX12 5 none d 38 (pKv D dA ad 38 Q) 4 [(0, .ref 0), (1, .int v1), (2, .int v2)] [] (hM S) := by
  intro fuel
  induction fuel with
  | zero =>
    intro S v1 v2 hf
    exact hf.elim
  | succ fuel ih =>
    intro S v1 v2 hf
    rw [g_X12_layBalanced_4] at hf
    refine E_iload_n dX12_layBalanced_4 rfl ?_
    refine E_aload_n dX12_layBalanced_5 rfl ?_
    refine E_getf (v := .int (S.1 4)) dX12_layBalanced_6 fl_X12_layBalanced_98 rfl rfl ?_
    refine E_icmp_ge (tgt := 120) dX12_layBalanced_9 (by decide) (fun c_1 => ?_) (fun c_1 => ?_)
    · have hf := pO_pos c_1 hf
      exact E_sub (ls' := []) trivial hf
    · have hf := pO_neg c_1 hf
      refine E_iconst (v := (-1)) dX12_layBalanced_12 (by decide) ?_
      refine E_istore_n (ls' := [(0, .ref 0), (1, .int v1), (2, .int v2), (3, .int (-1))]) dX12_layBalanced_13 (by decide) rfl ?_
      refine E_iconst (v := 0) dX12_layBalanced_14 (by decide) ?_
      refine E_istore (ls' := [(0, .ref 0), (1, .int v1), (2, .int v2), (3, .int (-1)), (4, .int 0)]) dX12_layBalanced_15 (by decide) rfl ?_
      refine E_sub (ls' := [(0, .ref 0), (1, .int v1), (2, .int v2), (3, .int (-1)), (4, .int 0)]) ⟨rfl, rfl, rfl, rfl, rfl, trivial⟩ ?_
      refine l_X12_layBalanced_17 l D dA ad _ (by omega) pfuel S v1 v2 (-1) 0 (pO_lq hf (fun x hx => hx) (fun w12 hf => ?_))
      obtain ⟨S_12, v3_12⟩ := w12
      dsimp only at hf ⊢
      refine E_aload_n dX12_layBalanced_92 rfl ?_
      refine E_getf (v := .ref 13) dX12_layBalanced_93 fl_X12_layBalanced_58 rfl rfl ?_
      refine E_iload_n dX12_layBalanced_96 rfl ?_
      refine E_iload_n dX12_layBalanced_97 rfl ?_
      obtain ⟨hi_13, hf⟩ := pO_gd hf
      refine E_iast (n0 := 16) (f := S_12.2 30) (h' := hM (pAr S_12 30 (upd (S_12.2 30) v2.toNatClampNeg v3_12))) dX12_layBalanced_98 rfl (pin_in hi_13) (sM_A30 S_12 (upd (S_12.2 30) v2.toNatClampNeg v3_12)) ?_
      refine E_iload_n dX12_layBalanced_99 rfl ?_
      refine E_aload_n dX12_layBalanced_100 rfl ?_
      refine E_iload_n dX12_layBalanced_101 rfl ?_
      refine E_callVI (st := [.int v1]) (c_X12_weighs l D dA ad (pAr S_12 30 (upd (S_12.2 30) v2.toNatClampNeg v3_12)) v3_12 (pO_bnd hf)) mf_X12_weighs rfl rfl gX12_layBalanced_X12_weighs (pRc.of (ci := 12) rfl rfl) (by omega) rfl (Nat.le_of_ble_eq_true rfl) (by rfl) dX12_layBalanced_102 (fun r14 h14 q14 => ?_)
      obtain ⟨S_14, rfl, hf⟩ := q14
      dsimp only at hf
      refine E_aload_n dX12_layBalanced_105 rfl ?_
      refine E_getf (v := .ref 7) dX12_layBalanced_106 fl_X12_layBalanced_40 rfl rfl ?_
      refine E_iload_n dX12_layBalanced_109 rfl ?_
      obtain ⟨hi_15, hf⟩ := pO_gd hf
      refine E_iald (n0 := 16) (f := S_14.2 6) dX12_layBalanced_110 rfl (pin_in hi_15) ?_
      refine E_imul dX12_layBalanced_111 ?_
      refine E_iadd dX12_layBalanced_112 ?_
      refine E_istore_n (ls' := [(0, .ref 0), (1, .int (v1 + (r14 * ((S_14.2 6) v3_12.toNatClampNeg)))), (2, .int v2), (3, .int v3_12)]) dX12_layBalanced_113 (by decide) rfl ?_
      refine E_iinc (v := v2 + 1) (ls' := [(0, .ref 0), (1, .int (v1 + (r14 * ((S_14.2 6) v3_12.toNatClampNeg)))), (2, .int (v2 + 1)), (3, .int v3_12)]) dX12_layBalanced_114 rfl rfl (by decide) rfl ?_
      refine E_goto (tgt := 4) dX12_layBalanced_117 (by decide) ?_
      exact E_sub (ls' := [(0, .ref 0), (1, .int (v1 + (r14 * ((S_14.2 6) v3_12.toNatClampNeg)))), (2, .int (v2 + 1))]) ⟨rfl, rfl, rfl, trivial⟩ (ih S_14 (v1 + (r14 * ((S_14.2 6) v3_12.toNatClampNeg))) (v2 + 1) hf)
theorem mf_X12_layBalanced : pMF yX12_layBalanced wsX12_layBalanced cX12_layBalanced 5 none 0 := ⟨⟨_, rfl⟩, by decide +kernel, by decide, by decide +kernel, by decide +kernel, by decide +kernel⟩
def f_X12_layBalanced (S : PS) : Option (Int32 × PS) :=
  plp (g_X12_layBalanced_4 pfuel S 0 0) (fun (S_16 : PS) => some (0, S_16))
set_option maxRecDepth 100000 in
theorem c_X12_layBalanced (l : Launch) (D : va_G) (dA : Nat → ClassId) (ad : Nat → Nat) (S : PS) {P : (Int32 × PS) → Prop} (hf : pO (f_X12_layBalanced S) P) : CtV l D dA ad yX12_layBalanced wsX12_layBalanced 2 [.ref 0] (hM S) (fun h' => ∃ (r0 : Int32) (S' : PS), h' = hM S' ∧ P (r0, S')) := by
  refine CtV_of mf_X12_layBalanced rfl rfl (Nat.le_of_ble_eq_true rfl) rfl (hM_len S) ?_
  unfold f_X12_layBalanced at hf
  refine E_iconst (v := 0) dX12_layBalanced_0 (by decide) ?_
  refine E_istore_n (ls' := [(0, .ref 0), (1, .int 0)]) dX12_layBalanced_1 (by decide) rfl ?_
  refine E_iconst (v := 0) dX12_layBalanced_2 (by decide) ?_
  refine E_istore_n (ls' := [(0, .ref 0), (1, .int 0), (2, .int 0)]) dX12_layBalanced_3 (by decide) rfl ?_
  refine E_sub (ls' := [(0, .ref 0), (1, .int 0), (2, .int 0)]) ⟨rfl, rfl, rfl, trivial⟩ ?_
  refine l_X12_layBalanced_4 l D dA ad _ (by omega) pfuel S 0 0 (pO_lp hf (fun x hx => ⟨x.1, x.2, rfl, hx⟩) (fun w16 hf => ?_))
  obtain ⟨S_16, rfl⟩ : ∃ z, z = w16 := ⟨_, rfl⟩
  dsimp only at hf ⊢
  exact E_vret rfl dX12_layBalanced_120 ⟨0, _, rfl, hf⟩
theorem mf_X12_layRank : pMF yX12_layRank wsX12_layRank cX12_layRank 4 none 1 := ⟨⟨_, rfl⟩, by decide +kernel, by decide, by decide +kernel, by decide +kernel, by decide +kernel⟩
def f_X12_layRank (S : PS) (v1 : Int32) : Option (Int32 × PS) :=
  plp (g_X12_layRank_2 pfuel S v1 0) (fun (S_11 : PS) => if v1 = (3 : Int32) then (pbnd (f_X12_layBalanced S_11) (fun _ S_13 => some (0, S_13))) else (some (0, S_11)))
set_option maxRecDepth 100000 in
theorem c_X12_layRank (l : Launch) (D : va_G) (dA : Nat → ClassId) (ad : Nat → Nat) (S : PS) (v1 : Int32) {P : (Int32 × PS) → Prop} (hf : pO (f_X12_layRank S v1) P) : CtV l D dA ad yX12_layRank wsX12_layRank 3 [.ref 0, .int v1] (hM S) (fun h' => ∃ (r0 : Int32) (S' : PS), h' = hM S' ∧ P (r0, S')) := by
  refine CtV_of mf_X12_layRank rfl rfl (Nat.le_of_ble_eq_true rfl) rfl (hM_len S) ?_
  unfold f_X12_layRank at hf
  refine E_iconst (v := 0) dX12_layRank_0 (by decide) ?_
  refine E_istore_n (ls' := [(0, .ref 0), (1, .int v1), (2, .int 0)]) dX12_layRank_1 (by decide) rfl ?_
  refine E_sub (ls' := [(0, .ref 0), (1, .int v1), (2, .int 0)]) ⟨rfl, rfl, rfl, trivial⟩ ?_
  refine l_X12_layRank_2 l D dA ad _ (by omega) pfuel S v1 0 (pO_lp hf (fun x hx => ⟨x.1, x.2, rfl, hx⟩) (fun w11 hf => ?_))
  obtain ⟨S_11, rfl⟩ : ∃ z, z = w11 := ⟨_, rfl⟩
  dsimp only at hf ⊢
  refine E_iload_n dX12_layRank_71 rfl ?_
  refine E_iconst (v := 3) dX12_layRank_72 (by decide) ?_
  refine E_icmp_ne (tgt := 80) dX12_layRank_73 (by decide) (fun c_12 => ?_) (fun c_12 => ?_)
  · have hf := pO_neg c_12 hf
    exact E_vret rfl dX12_layRank_80 ⟨0, _, rfl, hf⟩
  · have hf := pO_pos c_12 hf
    refine E_aload_n dX12_layRank_76 rfl ?_
    refine E_callVV (st := []) (c_X12_layBalanced l D dA ad S_11 (pO_bnd hf)) mf_X12_layBalanced rfl rfl gX12_layRank_X12_layBalanced (pRc.of (ci := 12) rfl rfl) (by omega) rfl (Nat.le_of_ble_eq_true rfl) (by rfl) dX12_layRank_77 (fun h13 q13 => ?_)
    obtain ⟨r13, S_13, rfl, hf⟩ := q13
    dsimp only at hf
    exact E_vret rfl dX12_layRank_80 ⟨0, _, rfl, hf⟩
theorem fl_X12_order_28 : pFL wsX12_order RX12 28 12 7 := ⟨RX12, TX12, 32, hi_X12_order_12, rfl, by decide, by decide +kernel⟩
theorem fl_X12_order_58 : pFL wsX12_order RX12 58 12 17 := ⟨RX12, TX12, 32, hi_X12_order_12, rfl, by decide, by decide +kernel⟩
theorem mf_X12_order : pMF yX12_order wsX12_order cX12_order 3 (some .int) 2 := ⟨⟨_, rfl⟩, by decide +kernel, by decide, by decide +kernel, by decide +kernel, by decide +kernel⟩
def f_X12_order (S : PS) (v1 : Int32) (v2 : Int32) : Option (Int32 × PS) :=
  pbnd (f_X12_in S v1 0 3) (fun r1 S_1 => if r1 = (0 : Int32) then (some ((-1), S_1)) else (if (0 : Int32) ≤ v2 then (if v2 < (S_1.1 4) then (pbnd (f_X12_layRank S_1 v1) (fun _ S_5 => pgd (pin v2 16) (pgd (pin ((S_5.2 30) v2.toNatClampNeg) 16) (some ((S_5.2 2) ((S_5.2 30) v2.toNatClampNeg).toNatClampNeg, S_5))))) else (some ((-2), S_1))) else (some ((-1), S_1))))
set_option maxRecDepth 100000 in
theorem c_X12_order (l : Launch) (D : va_G) (dA : Nat → ClassId) (ad : Nat → Nat) (S : PS) (v1 : Int32) (v2 : Int32) {P : (Int32 × PS) → Prop} (hf : pO (f_X12_order S v1 v2) P) : CtI l D dA ad yX12_order wsX12_order 4 [.ref 0, .int v1, .int v2] (hM S) (fun r h' => ∃ S' : PS, h' = hM S' ∧ P (r, S')) := by
  refine CtI_of mf_X12_order rfl rfl (Nat.le_of_ble_eq_true rfl) rfl (hM_len S) ?_
  unfold f_X12_order at hf
  refine E_iload_n dX12_order_0 rfl ?_
  refine E_iconst (v := 0) dX12_order_1 (by decide) ?_
  refine E_iconst (v := 3) dX12_order_2 (by decide) ?_
  refine E_callSI (st := []) (c_X12_in l D dA ad S v1 0 3 (pO_bnd hf)) mf_X12_in rfl gX12_order_X12_in (by omega) rfl (Nat.le_of_ble_eq_true rfl) (by rfl) dX12_order_3 (fun r1 h1 q1 => ?_)
  obtain ⟨S_1, rfl, hf⟩ := q1
  dsimp only at hf
  refine E_if_eq (tgt := 13) dX12_order_6 (by decide) (fun c_2 => ?_) (fun c_2 => ?_)
  · have hf := pO_pos c_2 hf
    refine E_iconst (v := (-1)) dX12_order_13 (by decide) ?_
    exact E_iret rfl dX12_order_14 ⟨_, rfl, hf⟩
  · have hf := pO_neg c_2 hf
    refine E_iload_n dX12_order_9 rfl ?_
    refine E_if_ge (tgt := 15) dX12_order_10 (by decide) (fun c_3 => ?_) (fun c_3 => ?_)
    · have hf := pO_pos c_3 hf
      refine E_iload_n dX12_order_15 rfl ?_
      refine E_aload_n dX12_order_16 rfl ?_
      refine E_getf (v := .int (S_1.1 4)) dX12_order_17 fl_X12_order_98 rfl rfl ?_
      refine E_icmp_lt (tgt := 26) dX12_order_20 (by decide) (fun c_4 => ?_) (fun c_4 => ?_)
      · have hf := pO_pos c_4 hf
        refine E_aload_n dX12_order_26 rfl ?_
        refine E_iload_n dX12_order_27 rfl ?_
        refine E_callVV (st := []) (c_X12_layRank l D dA ad S_1 v1 (pO_bnd hf)) mf_X12_layRank rfl rfl gX12_order_X12_layRank (pRc.of (ci := 12) rfl rfl) (by omega) rfl (Nat.le_of_ble_eq_true rfl) (by rfl) dX12_order_28 (fun h5 q5 => ?_)
        obtain ⟨r5, S_5, rfl, hf⟩ := q5
        dsimp only at hf
        refine E_aload_n dX12_order_31 rfl ?_
        refine E_getf (v := .ref 3) dX12_order_32 fl_X12_order_28 rfl rfl ?_
        refine E_aload_n dX12_order_35 rfl ?_
        refine E_getf (v := .ref 13) dX12_order_36 fl_X12_order_58 rfl rfl ?_
        refine E_iload_n dX12_order_39 rfl ?_
        obtain ⟨hi_6, hf⟩ := pO_gd hf
        refine E_iald (n0 := 16) (f := S_5.2 30) dX12_order_40 rfl (pin_in hi_6) ?_
        obtain ⟨hi_7, hf⟩ := pO_gd hf
        refine E_iald (n0 := 16) (f := S_5.2 2) dX12_order_41 rfl (pin_in hi_7) ?_
        exact E_iret rfl dX12_order_42 ⟨_, rfl, hf⟩
      · have hf := pO_neg c_4 hf
        refine E_bipush (v := (-2)) dX12_order_23 (by decide) ?_
        exact E_iret rfl dX12_order_25 ⟨_, rfl, hf⟩
    · have hf := pO_neg c_3 hf
      refine E_iconst (v := (-1)) dX12_order_13 (by decide) ?_
      exact E_iret rfl dX12_order_14 ⟨_, rfl, hf⟩
theorem hi_X12_next_12 : ∀ w ∈ u_ws RX12 TX12 32, w ∈ wsX12_next := fun w h => of_decide_eq_true (List.all_eq_true.mp (by decide +kernel : (u_ws RX12 TX12 32).all (fun w => decide (w ∈ wsX12_next)) = true) w h)
theorem fl_X12_next_98 : pFL wsX12_next RX12 98 12 6 := ⟨RX12, TX12, 32, hi_X12_next_12, rfl, by decide, by decide +kernel⟩
theorem fl_X12_next_28 : pFL wsX12_next RX12 28 12 7 := ⟨RX12, TX12, 32, hi_X12_next_12, rfl, by decide, by decide +kernel⟩
def g_X12_next_15 : Nat → PS → Int32 → Int32 → Option ((Int32 × PS) ⊕ (PS))
  | 0, _, _, _ => none
  | fuel + 1, S, v1, v2 =>
    if (S.1 4) ≤ v2 then (some (.inr (S))) else (pgd (pin v2 16) (if ((S.2 2) v2.toNatClampNeg) ≤ v1 then (g_X12_next_15 fuel S v1 (v2 + 1)) else (pgd (pin v2 16) (some (.inl ((S.2 2) v2.toNatClampNeg, S))))))
set_option maxRecDepth 100000 in
theorem l_X12_next_15 (l : Launch) (D : va_G) (dA : Nat → ClassId) (ad : Nat → Nat) (d : Nat) (hd : 0 ≤ d) {Q : Int32 → List PC → Prop} : ∀ (fuel : Nat) (S : PS) (v1 : Int32) (v2 : Int32), pO (g_X12_next_15 fuel S v1 v2) (fun y => match y with
    | .inl x => Q x.1 (hM x.2)
    | .inr w => Ev l D dA ad wsX12_next cX12_next RX12 3 (some .int) d 38 (pKi D dA ad 38 Q) 46 [] [] (hM w)) → Ev l D dA ad wsX12_next cX12_next RX12 3 (some .int) d 38 (pKi D dA ad 38 Q) 15 [(0, .ref 0), (1, .int v1), (2, .int v2)] [] (hM S) := by
  intro fuel
  induction fuel with
  | zero =>
    intro S v1 v2 hf
    exact hf.elim
  | succ fuel ih =>
    intro S v1 v2 hf
    rw [g_X12_next_15] at hf
    refine E_iload_n dX12_next_15 rfl ?_
    refine E_aload_n dX12_next_16 rfl ?_
    refine E_getf (v := .int (S.1 4)) dX12_next_17 fl_X12_next_98 rfl rfl ?_
    refine E_icmp_ge (tgt := 46) dX12_next_20 (by decide) (fun c_2 => ?_) (fun c_2 => ?_)
    · have hf := pO_pos c_2 hf
      exact E_sub (ls' := []) trivial hf
    · have hf := pO_neg c_2 hf
      refine E_aload_n dX12_next_23 rfl ?_
      refine E_getf (v := .ref 3) dX12_next_24 fl_X12_next_28 rfl rfl ?_
      refine E_iload_n dX12_next_27 rfl ?_
      obtain ⟨hi_3, hf⟩ := pO_gd hf
      refine E_iald (n0 := 16) (f := S.2 2) dX12_next_28 rfl (pin_in hi_3) ?_
      refine E_iload_n dX12_next_29 rfl ?_
      refine E_icmp_le (tgt := 40) dX12_next_30 (by decide) (fun c_4 => ?_) (fun c_4 => ?_)
      · have hf := pO_pos c_4 hf
        refine E_iinc (v := v2 + 1) (ls' := [(0, .ref 0), (1, .int v1), (2, .int (v2 + 1))]) dX12_next_40 rfl rfl (by decide) rfl ?_
        refine E_goto (tgt := 15) dX12_next_43 (by decide) ?_
        exact E_sub (ls' := [(0, .ref 0), (1, .int v1), (2, .int (v2 + 1))]) ⟨rfl, rfl, rfl, trivial⟩ (ih S v1 (v2 + 1) hf)
      · have hf := pO_neg c_4 hf
        refine E_aload_n dX12_next_33 rfl ?_
        refine E_getf (v := .ref 3) dX12_next_34 fl_X12_next_28 rfl rfl ?_
        refine E_iload_n dX12_next_37 rfl ?_
        obtain ⟨hi_5, hf⟩ := pO_gd hf
        refine E_iald (n0 := 16) (f := S.2 2) dX12_next_38 rfl (pin_in hi_5) ?_
        exact E_iret rfl dX12_next_39 hf
theorem mf_X12_next : pMF yX12_next wsX12_next cX12_next 3 (some .int) 1 := ⟨⟨_, rfl⟩, by decide +kernel, by decide, by decide +kernel, by decide +kernel, by decide +kernel⟩
def f_X12_next (S : PS) (v1 : Int32) : Option (Int32 × PS) :=
  if v1 = (0 : Int32) then (plp (g_X12_next_15 pfuel S v1 0) (fun (S_6 : PS) => some ((-2), S_6))) else (pbnd (f_X12_isName S v1) (fun r7 S_7 => if r7 = (0 : Int32) then (some ((-1), S_7)) else (plp (g_X12_next_15 pfuel S_7 v1 0) (fun (S_9 : PS) => some ((-2), S_9)))))
set_option maxRecDepth 100000 in
theorem c_X12_next (l : Launch) (D : va_G) (dA : Nat → ClassId) (ad : Nat → Nat) (S : PS) (v1 : Int32) {P : (Int32 × PS) → Prop} (hf : pO (f_X12_next S v1) P) : CtI l D dA ad yX12_next wsX12_next 1 [.ref 0, .int v1] (hM S) (fun r h' => ∃ S' : PS, h' = hM S' ∧ P (r, S')) := by
  refine CtI_of mf_X12_next rfl rfl (Nat.le_of_ble_eq_true rfl) rfl (hM_len S) ?_
  unfold f_X12_next at hf
  refine E_iload_n dX12_next_0 rfl ?_
  refine E_if_eq (tgt := 13) dX12_next_1 (by decide) (fun c_1 => ?_) (fun c_1 => ?_)
  · have hf := pO_pos c_1 hf
    refine E_iconst (v := 0) dX12_next_13 (by decide) ?_
    refine E_istore_n (ls' := [(0, .ref 0), (1, .int v1), (2, .int 0)]) dX12_next_14 (by decide) rfl ?_
    refine E_sub (ls' := [(0, .ref 0), (1, .int v1), (2, .int 0)]) ⟨rfl, rfl, rfl, trivial⟩ ?_
    refine l_X12_next_15 l D dA ad _ (by omega) pfuel S v1 0 (pO_lp hf (fun x hx => ⟨x.2, rfl, hx⟩) (fun w6 hf => ?_))
    obtain ⟨S_6, rfl⟩ : ∃ z, z = w6 := ⟨_, rfl⟩
    dsimp only at hf ⊢
    refine E_bipush (v := (-2)) dX12_next_46 (by decide) ?_
    exact E_iret rfl dX12_next_48 ⟨_, rfl, hf⟩
  · have hf := pO_neg c_1 hf
    refine E_iload_n dX12_next_4 rfl ?_
    refine E_callSI (st := []) (c_X12_isName l D dA ad S v1 (pO_bnd hf)) mf_X12_isName rfl gX12_next_X12_isName (by omega) rfl (Nat.le_of_ble_eq_true rfl) (by rfl) dX12_next_5 (fun r7 h7 q7 => ?_)
    obtain ⟨S_7, rfl, hf⟩ := q7
    dsimp only at hf
    refine E_if_ne (tgt := 13) dX12_next_8 (by decide) (fun c_8 => ?_) (fun c_8 => ?_)
    · have hf := pO_neg c_8 hf
      refine E_iconst (v := 0) dX12_next_13 (by decide) ?_
      refine E_istore_n (ls' := [(0, .ref 0), (1, .int v1), (2, .int 0)]) dX12_next_14 (by decide) rfl ?_
      refine E_sub (ls' := [(0, .ref 0), (1, .int v1), (2, .int 0)]) ⟨rfl, rfl, rfl, trivial⟩ ?_
      refine l_X12_next_15 l D dA ad _ (by omega) pfuel S_7 v1 0 (pO_lp hf (fun x hx => ⟨x.2, rfl, hx⟩) (fun w9 hf => ?_))
      obtain ⟨S_9, rfl⟩ : ∃ z, z = w9 := ⟨_, rfl⟩
      dsimp only at hf ⊢
      refine E_bipush (v := (-2)) dX12_next_46 (by decide) ?_
      exact E_iret rfl dX12_next_48 ⟨_, rfl, hf⟩
    · have hf := pO_pos c_8 hf
      refine E_iconst (v := (-1)) dX12_next_11 (by decide) ?_
      exact E_iret rfl dX12_next_12 ⟨_, rfl, hf⟩
theorem hi_X12_turn_12 : ∀ w ∈ u_ws RX12 TX12 32, w ∈ wsX12_turn := fun w h => of_decide_eq_true (List.all_eq_true.mp (by decide +kernel : (u_ws RX12 TX12 32).all (fun w => decide (w ∈ wsX12_turn)) = true) w h)
theorem fl_X12_turn_98 : pFL wsX12_turn RX12 98 12 6 := ⟨RX12, TX12, 32, hi_X12_turn_12, rfl, by decide, by decide +kernel⟩
theorem fl_X12_turn_40 : pFL wsX12_turn RX12 40 12 11 := ⟨RX12, TX12, 32, hi_X12_turn_12, rfl, by decide, by decide +kernel⟩
theorem fl_X12_turn_28 : pFL wsX12_turn RX12 28 12 7 := ⟨RX12, TX12, 32, hi_X12_turn_12, rfl, by decide, by decide +kernel⟩
def g_X12_turn_16 : Nat → PS → Int32 → Int32 → Int32 → Int32 → Option ((Int32 × PS) ⊕ (PS × Int32))
  | 0, _, _, _, _, _ => none
  | fuel + 1, S, v1, v2, v3, v4 =>
    if (S.1 4) ≤ v4 then (some (.inr (S, v3))) else (pbnd (f_X12_weighs S v4) (fun r3 S_3 => pgd (pin v4 16) (if (pabs (v1 - ((2 * r3) * ((S_3.2 6) v4.toNatClampNeg)))) < v2 then (pgd (pin v4 16) (g_X12_turn_16 fuel S_3 v1 (pabs (v1 - ((2 * r3) * ((S_3.2 6) v4.toNatClampNeg)))) ((S_3.2 2) v4.toNatClampNeg) (v4 + 1))) else (g_X12_turn_16 fuel S_3 v1 v2 v3 (v4 + 1)))))
set_option maxRecDepth 100000 in
theorem l_X12_turn_16 (l : Launch) (D : va_G) (dA : Nat → ClassId) (ad : Nat → Nat) (d : Nat) (hd : 2 ≤ d) {Q : Int32 → List PC → Prop} : ∀ (fuel : Nat) (S : PS) (v1 : Int32) (v2 : Int32) (v3 : Int32) (v4 : Int32), pO (g_X12_turn_16 fuel S v1 v2 v3 v4) (fun y => match y with
    | .inl x => Q x.1 (hM x.2)
    | .inr w => Ev l D dA ad wsX12_turn cX12_turn RX12 6 (some .int) d 38 (pKi D dA ad 38 Q) 74 [(3, .int w.2)] [] (hM w.1)) → Ev l D dA ad wsX12_turn cX12_turn RX12 6 (some .int) d 38 (pKi D dA ad 38 Q) 16 [(0, .ref 0), (1, .int v1), (2, .int v2), (3, .int v3), (4, .int v4)] [] (hM S) := by
  intro fuel
  induction fuel with
  | zero =>
    intro S v1 v2 v3 v4 hf
    exact hf.elim
  | succ fuel ih =>
    intro S v1 v2 v3 v4 hf
    rw [g_X12_turn_16] at hf
    refine E_iload dX12_turn_16 rfl ?_
    refine E_aload_n dX12_turn_18 rfl ?_
    refine E_getf (v := .int (S.1 4)) dX12_turn_19 fl_X12_turn_98 rfl rfl ?_
    refine E_icmp_ge (tgt := 74) dX12_turn_22 (by decide) (fun c_2 => ?_) (fun c_2 => ?_)
    · have hf := pO_pos c_2 hf
      exact E_sub (ls' := [(3, .int v3)]) ⟨rfl, trivial⟩ hf
    · have hf := pO_neg c_2 hf
      refine E_iload_n dX12_turn_25 rfl ?_
      refine E_iconst (v := 2) dX12_turn_26 (by decide) ?_
      refine E_aload_n dX12_turn_27 rfl ?_
      refine E_iload dX12_turn_28 rfl ?_
      refine E_callVI (st := [.int 2, .int v1]) (c_X12_weighs l D dA ad S v4 (pO_bnd hf)) mf_X12_weighs rfl rfl gX12_turn_X12_weighs (pRc.of (ci := 12) rfl rfl) (by omega) rfl (Nat.le_of_ble_eq_true rfl) (by rfl) dX12_turn_30 (fun r3 h3 q3 => ?_)
      obtain ⟨S_3, rfl, hf⟩ := q3
      dsimp only at hf
      refine E_imul dX12_turn_33 ?_
      refine E_aload_n dX12_turn_34 rfl ?_
      refine E_getf (v := .ref 7) dX12_turn_35 fl_X12_turn_40 rfl rfl ?_
      refine E_iload dX12_turn_38 rfl ?_
      obtain ⟨hi_4, hf⟩ := pO_gd hf
      refine E_iald (n0 := 16) (f := S_3.2 6) dX12_turn_40 rfl (pin_in hi_4) ?_
      refine E_imul dX12_turn_41 ?_
      refine E_isub dX12_turn_42 ?_
      refine E_mabs (by decide +kernel) (by decide +kernel) (by decide +kernel) (by decide +kernel) (by omega) (Nat.le_of_ble_eq_true rfl) (by rfl) dX12_turn_43 ?_
      refine E_istore (ls' := [(0, .ref 0), (1, .int v1), (2, .int v2), (3, .int v3), (4, .int v4), (5, .int (pabs (v1 - ((2 * r3) * ((S_3.2 6) v4.toNatClampNeg)))))]) dX12_turn_46 (by decide) rfl ?_
      refine E_iload dX12_turn_48 rfl ?_
      refine E_iload_n dX12_turn_50 rfl ?_
      refine E_icmp_lt (tgt := 57) dX12_turn_51 (by decide) (fun c_5 => ?_) (fun c_5 => ?_)
      · have hf := pO_pos c_5 hf
        refine E_iload dX12_turn_57 rfl ?_
        refine E_istore_n (ls' := [(0, .ref 0), (1, .int v1), (2, .int (pabs (v1 - ((2 * r3) * ((S_3.2 6) v4.toNatClampNeg))))), (3, .int v3), (4, .int v4), (5, .int (pabs (v1 - ((2 * r3) * ((S_3.2 6) v4.toNatClampNeg)))))]) dX12_turn_59 (by decide) rfl ?_
        refine E_aload_n dX12_turn_60 rfl ?_
        refine E_getf (v := .ref 3) dX12_turn_61 fl_X12_turn_28 rfl rfl ?_
        refine E_iload dX12_turn_64 rfl ?_
        obtain ⟨hi_6, hf⟩ := pO_gd hf
        refine E_iald (n0 := 16) (f := S_3.2 2) dX12_turn_66 rfl (pin_in hi_6) ?_
        refine E_istore_n (ls' := [(0, .ref 0), (1, .int v1), (2, .int (pabs (v1 - ((2 * r3) * ((S_3.2 6) v4.toNatClampNeg))))), (3, .int ((S_3.2 2) v4.toNatClampNeg)), (4, .int v4), (5, .int (pabs (v1 - ((2 * r3) * ((S_3.2 6) v4.toNatClampNeg)))))]) dX12_turn_67 (by decide) rfl ?_
        refine E_iinc (v := v4 + 1) (ls' := [(0, .ref 0), (1, .int v1), (2, .int (pabs (v1 - ((2 * r3) * ((S_3.2 6) v4.toNatClampNeg))))), (3, .int ((S_3.2 2) v4.toNatClampNeg)), (4, .int (v4 + 1)), (5, .int (pabs (v1 - ((2 * r3) * ((S_3.2 6) v4.toNatClampNeg)))))]) dX12_turn_68 rfl rfl (by decide) rfl ?_
        refine E_goto (tgt := 16) dX12_turn_71 (by decide) ?_
        exact E_sub (ls' := [(0, .ref 0), (1, .int v1), (2, .int (pabs (v1 - ((2 * r3) * ((S_3.2 6) v4.toNatClampNeg))))), (3, .int ((S_3.2 2) v4.toNatClampNeg)), (4, .int (v4 + 1))]) ⟨rfl, rfl, rfl, rfl, rfl, trivial⟩ (ih S_3 v1 (pabs (v1 - ((2 * r3) * ((S_3.2 6) v4.toNatClampNeg)))) ((S_3.2 2) v4.toNatClampNeg) (v4 + 1) hf)
      · have hf := pO_neg c_5 hf
        refine E_goto (tgt := 68) dX12_turn_54 (by decide) ?_
        refine E_iinc (v := v4 + 1) (ls' := [(0, .ref 0), (1, .int v1), (2, .int v2), (3, .int v3), (4, .int (v4 + 1)), (5, .int (pabs (v1 - ((2 * r3) * ((S_3.2 6) v4.toNatClampNeg)))))]) dX12_turn_68 rfl rfl (by decide) rfl ?_
        refine E_goto (tgt := 16) dX12_turn_71 (by decide) ?_
        exact E_sub (ls' := [(0, .ref 0), (1, .int v1), (2, .int v2), (3, .int v3), (4, .int (v4 + 1))]) ⟨rfl, rfl, rfl, rfl, rfl, trivial⟩ (ih S_3 v1 v2 v3 (v4 + 1) hf)
theorem mf_X12_turn : pMF yX12_turn wsX12_turn cX12_turn 6 (some .int) 0 := ⟨⟨_, rfl⟩, by decide +kernel, by decide, by decide +kernel, by decide +kernel, by decide +kernel⟩
def f_X12_turn (S : PS) : Option (Int32 × PS) :=
  pbnd (f_X12_aside S) (fun r1 S_1 => plp (g_X12_turn_16 pfuel S_1 r1 (pabs r1) (-2) 0) (fun w => (fun (S_7 : PS) (v3_7 : Int32) => some (v3_7, S_7)) w.1 w.2))
set_option maxRecDepth 100000 in
theorem c_X12_turn (l : Launch) (D : va_G) (dA : Nat → ClassId) (ad : Nat → Nat) (S : PS) {P : (Int32 × PS) → Prop} (hf : pO (f_X12_turn S) P) : CtI l D dA ad yX12_turn wsX12_turn 2 [.ref 0] (hM S) (fun r h' => ∃ S' : PS, h' = hM S' ∧ P (r, S')) := by
  refine CtI_of mf_X12_turn rfl rfl (Nat.le_of_ble_eq_true rfl) rfl (hM_len S) ?_
  unfold f_X12_turn at hf
  refine E_aload_n dX12_turn_0 rfl ?_
  refine E_callVI (st := []) (c_X12_aside l D dA ad S (pO_bnd hf)) mf_X12_aside rfl rfl gX12_turn_X12_aside (pRc.of (ci := 12) rfl rfl) (by omega) rfl (Nat.le_of_ble_eq_true rfl) (by rfl) dX12_turn_1 (fun r1 h1 q1 => ?_)
  obtain ⟨S_1, rfl, hf⟩ := q1
  dsimp only at hf
  refine E_istore_n (ls' := [(0, .ref 0), (1, .int r1)]) dX12_turn_4 (by decide) rfl ?_
  refine E_iload_n dX12_turn_5 rfl ?_
  refine E_mabs (by decide +kernel) (by decide +kernel) (by decide +kernel) (by decide +kernel) (by omega) (Nat.le_of_ble_eq_true rfl) (by rfl) dX12_turn_6 ?_
  refine E_istore_n (ls' := [(0, .ref 0), (1, .int r1), (2, .int (pabs r1))]) dX12_turn_9 (by decide) rfl ?_
  refine E_bipush (v := (-2)) dX12_turn_10 (by decide) ?_
  refine E_istore_n (ls' := [(0, .ref 0), (1, .int r1), (2, .int (pabs r1)), (3, .int (-2))]) dX12_turn_12 (by decide) rfl ?_
  refine E_iconst (v := 0) dX12_turn_13 (by decide) ?_
  refine E_istore (ls' := [(0, .ref 0), (1, .int r1), (2, .int (pabs r1)), (3, .int (-2)), (4, .int 0)]) dX12_turn_14 (by decide) rfl ?_
  refine E_sub (ls' := [(0, .ref 0), (1, .int r1), (2, .int (pabs r1)), (3, .int (-2)), (4, .int 0)]) ⟨rfl, rfl, rfl, rfl, rfl, trivial⟩ ?_
  refine l_X12_turn_16 l D dA ad _ (by omega) pfuel S_1 r1 (pabs r1) (-2) 0 (pO_lp hf (fun x hx => ⟨x.2, rfl, hx⟩) (fun w7 hf => ?_))
  obtain ⟨S_7, v3_7⟩ := w7
  dsimp only at hf ⊢
  refine E_iload_n dX12_turn_74 rfl ?_
  exact E_iret rfl dX12_turn_75 ⟨_, rfl, hf⟩
theorem hi_X12_change_12 : ∀ w ∈ u_ws RX12 TX12 32, w ∈ wsX12_change := fun w h => of_decide_eq_true (List.all_eq_true.mp (by decide +kernel : (u_ws RX12 TX12 32).all (fun w => decide (w ∈ wsX12_change)) = true) w h)
theorem fl_X12_change_98 : pFL wsX12_change RX12 98 12 6 := ⟨RX12, TX12, 32, hi_X12_change_12, rfl, by decide, by decide +kernel⟩
theorem fl_X12_change_37 : pFL wsX12_change RX12 37 12 10 := ⟨RX12, TX12, 32, hi_X12_change_12, rfl, by decide, by decide +kernel⟩
theorem fl_X12_change_28 : pFL wsX12_change RX12 28 12 7 := ⟨RX12, TX12, 32, hi_X12_change_12, rfl, by decide, by decide +kernel⟩
def g_X12_change_61 : Nat → PS → Int32 → Int32 → Int32 → Int32 → Int32 → Int32 → Option ((Int32 × PS) ⊕ (PS × Int32 × Int32))
  | 0, _, _, _, _, _, _, _ => none
  | fuel + 1, S, v1, v3, v4, v5, v6, v7 =>
    if (S.1 4) ≤ v7 then (some (.inr (S, v4, v5))) else (pbnd (f_X12_weighs S v6) (fun r8 S_8 => pbnd (f_X12_weighs S_8 v7) (fun r9 S_9 => pgd (pin v7 16) (pgd (pin v6 16) (if (pabs (v3 - (64 * ((2 * (r8 - r9)) * (((S_9.2 5) v7.toNatClampNeg) - ((S_9.2 5) v6.toNatClampNeg)))))) < v4 then (if v1 = (0 : Int32) then (pgd (pin v6 16) (g_X12_change_61 fuel S_9 v1 v3 (pabs (v3 - (64 * ((2 * (r8 - r9)) * (((S_9.2 5) v7.toNatClampNeg) - ((S_9.2 5) v6.toNatClampNeg)))))) ((S_9.2 2) v6.toNatClampNeg) v6 (v7 + 1))) else (pgd (pin v7 16) (g_X12_change_61 fuel S_9 v1 v3 (pabs (v3 - (64 * ((2 * (r8 - r9)) * (((S_9.2 5) v7.toNatClampNeg) - ((S_9.2 5) v6.toNatClampNeg)))))) ((S_9.2 2) v7.toNatClampNeg) v6 (v7 + 1)))) else (g_X12_change_61 fuel S_9 v1 v3 v4 v5 v6 (v7 + 1)))))))
set_option maxRecDepth 100000 in
theorem l_X12_change_61 (l : Launch) (D : va_G) (dA : Nat → ClassId) (ad : Nat → Nat) (d : Nat) (hd : 4 ≤ d) {Q : Int32 → List PC → Prop} : ∀ (fuel : Nat) (S : PS) (v1 : Int32) (v3 : Int32) (v4 : Int32) (v5 : Int32) (v6 : Int32) (v7 : Int32), pO (g_X12_change_61 fuel S v1 v3 v4 v5 v6 v7) (fun y => match y with
    | .inl x => Q x.1 (hM x.2)
    | .inr w => Ev l D dA ad wsX12_change cX12_change RX12 10 (some .int) d 38 (pKi D dA ad 38 Q) 158 [(0, .ref 0), (1, .int v1), (3, .int v3), (4, .int w.2.1), (5, .int w.2.2), (6, .int v6)] [] (hM w.1)) → Ev l D dA ad wsX12_change cX12_change RX12 10 (some .int) d 38 (pKi D dA ad 38 Q) 61 [(0, .ref 0), (1, .int v1), (3, .int v3), (4, .int v4), (5, .int v5), (6, .int v6), (7, .int v7)] [] (hM S) := by
  intro fuel
  induction fuel with
  | zero =>
    intro S v1 v3 v4 v5 v6 v7 hf
    exact hf.elim
  | succ fuel ih =>
    intro S v1 v3 v4 v5 v6 v7 hf
    rw [g_X12_change_61] at hf
    refine E_iload dX12_change_61 rfl ?_
    refine E_aload_n dX12_change_63 rfl ?_
    refine E_getf (v := .int (S.1 4)) dX12_change_64 fl_X12_change_98 rfl rfl ?_
    refine E_icmp_ge (tgt := 158) dX12_change_67 (by decide) (fun c_7 => ?_) (fun c_7 => ?_)
    · have hf := pO_pos c_7 hf
      exact E_sub (ls' := [(0, .ref 0), (1, .int v1), (3, .int v3), (4, .int v4), (5, .int v5), (6, .int v6)]) ⟨rfl, rfl, rfl, rfl, rfl, rfl, trivial⟩ hf
    · have hf := pO_neg c_7 hf
      refine E_iconst (v := 2) dX12_change_70 (by decide) ?_
      refine E_aload_n dX12_change_71 rfl ?_
      refine E_iload dX12_change_72 rfl ?_
      refine E_callVI (st := [.int 2]) (c_X12_weighs l D dA ad S v6 (pO_bnd hf)) mf_X12_weighs rfl rfl gX12_change_X12_weighs (pRc.of (ci := 12) rfl rfl) (by omega) rfl (Nat.le_of_ble_eq_true rfl) (by rfl) dX12_change_74 (fun r8 h8 q8 => ?_)
      obtain ⟨S_8, rfl, hf⟩ := q8
      dsimp only at hf
      refine E_aload_n dX12_change_77 rfl ?_
      refine E_iload dX12_change_78 rfl ?_
      refine E_callVI (st := [.int r8, .int 2]) (c_X12_weighs l D dA ad S_8 v7 (pO_bnd hf)) mf_X12_weighs rfl rfl gX12_change_X12_weighs (pRc.of (ci := 12) rfl rfl) (by omega) rfl (Nat.le_of_ble_eq_true rfl) (by rfl) dX12_change_80 (fun r9 h9 q9 => ?_)
      obtain ⟨S_9, rfl, hf⟩ := q9
      dsimp only at hf
      refine E_isub dX12_change_83 ?_
      refine E_imul dX12_change_84 ?_
      refine E_aload_n dX12_change_85 rfl ?_
      refine E_getf (v := .ref 6) dX12_change_86 fl_X12_change_37 rfl rfl ?_
      refine E_iload dX12_change_89 rfl ?_
      obtain ⟨hi_10, hf⟩ := pO_gd hf
      refine E_iald (n0 := 16) (f := S_9.2 5) dX12_change_91 rfl (pin_in hi_10) ?_
      refine E_aload_n dX12_change_92 rfl ?_
      refine E_getf (v := .ref 6) dX12_change_93 fl_X12_change_37 rfl rfl ?_
      refine E_iload dX12_change_96 rfl ?_
      obtain ⟨hi_11, hf⟩ := pO_gd hf
      refine E_iald (n0 := 16) (f := S_9.2 5) dX12_change_98 rfl (pin_in hi_11) ?_
      refine E_isub dX12_change_99 ?_
      refine E_imul dX12_change_100 ?_
      refine E_istore (ls' := [(0, .ref 0), (1, .int v1), (3, .int v3), (4, .int v4), (5, .int v5), (6, .int v6), (7, .int v7), (8, .int ((2 * (r8 - r9)) * (((S_9.2 5) v7.toNatClampNeg) - ((S_9.2 5) v6.toNatClampNeg))))]) dX12_change_101 (by decide) rfl ?_
      refine E_iload_n dX12_change_103 rfl ?_
      refine E_bipush (v := 64) dX12_change_104 (by decide) ?_
      refine E_iload dX12_change_106 rfl ?_
      refine E_imul dX12_change_108 ?_
      refine E_isub dX12_change_109 ?_
      refine E_mabs (by decide +kernel) (by decide +kernel) (by decide +kernel) (by decide +kernel) (by omega) (Nat.le_of_ble_eq_true rfl) (by rfl) dX12_change_110 ?_
      refine E_istore (ls' := [(0, .ref 0), (1, .int v1), (3, .int v3), (4, .int v4), (5, .int v5), (6, .int v6), (7, .int v7), (8, .int ((2 * (r8 - r9)) * (((S_9.2 5) v7.toNatClampNeg) - ((S_9.2 5) v6.toNatClampNeg)))), (9, .int (pabs (v3 - (64 * ((2 * (r8 - r9)) * (((S_9.2 5) v7.toNatClampNeg) - ((S_9.2 5) v6.toNatClampNeg)))))))]) dX12_change_113 (by decide) rfl ?_
      refine E_iload dX12_change_115 rfl ?_
      refine E_iload dX12_change_117 rfl ?_
      refine E_icmp_lt (tgt := 125) dX12_change_119 (by decide) (fun c_12 => ?_) (fun c_12 => ?_)
      · have hf := pO_pos c_12 hf
        refine E_iload dX12_change_125 rfl ?_
        refine E_istore (ls' := [(0, .ref 0), (1, .int v1), (3, .int v3), (4, .int (pabs (v3 - (64 * ((2 * (r8 - r9)) * (((S_9.2 5) v7.toNatClampNeg) - ((S_9.2 5) v6.toNatClampNeg))))))), (5, .int v5), (6, .int v6), (7, .int v7), (8, .int ((2 * (r8 - r9)) * (((S_9.2 5) v7.toNatClampNeg) - ((S_9.2 5) v6.toNatClampNeg)))), (9, .int (pabs (v3 - (64 * ((2 * (r8 - r9)) * (((S_9.2 5) v7.toNatClampNeg) - ((S_9.2 5) v6.toNatClampNeg)))))))]) dX12_change_127 (by decide) rfl ?_
        refine E_iload_n dX12_change_129 rfl ?_
        refine E_if_ne (tgt := 143) dX12_change_130 (by decide) (fun c_13 => ?_) (fun c_13 => ?_)
        · have hf := pO_neg c_13 hf
          refine E_aload_n dX12_change_143 rfl ?_
          refine E_getf (v := .ref 3) dX12_change_144 fl_X12_change_28 rfl rfl ?_
          refine E_iload dX12_change_147 rfl ?_
          obtain ⟨hi_14, hf⟩ := pO_gd hf
          refine E_iald (n0 := 16) (f := S_9.2 2) dX12_change_149 rfl (pin_in hi_14) ?_
          refine E_istore (ls' := [(0, .ref 0), (1, .int v1), (3, .int v3), (4, .int (pabs (v3 - (64 * ((2 * (r8 - r9)) * (((S_9.2 5) v7.toNatClampNeg) - ((S_9.2 5) v6.toNatClampNeg))))))), (5, .int ((S_9.2 2) v7.toNatClampNeg)), (6, .int v6), (7, .int v7), (8, .int ((2 * (r8 - r9)) * (((S_9.2 5) v7.toNatClampNeg) - ((S_9.2 5) v6.toNatClampNeg)))), (9, .int (pabs (v3 - (64 * ((2 * (r8 - r9)) * (((S_9.2 5) v7.toNatClampNeg) - ((S_9.2 5) v6.toNatClampNeg)))))))]) dX12_change_150 (by decide) rfl ?_
          refine E_iinc (v := v7 + 1) (ls' := [(0, .ref 0), (1, .int v1), (3, .int v3), (4, .int (pabs (v3 - (64 * ((2 * (r8 - r9)) * (((S_9.2 5) v7.toNatClampNeg) - ((S_9.2 5) v6.toNatClampNeg))))))), (5, .int ((S_9.2 2) v7.toNatClampNeg)), (6, .int v6), (7, .int (v7 + 1)), (8, .int ((2 * (r8 - r9)) * (((S_9.2 5) v7.toNatClampNeg) - ((S_9.2 5) v6.toNatClampNeg)))), (9, .int (pabs (v3 - (64 * ((2 * (r8 - r9)) * (((S_9.2 5) v7.toNatClampNeg) - ((S_9.2 5) v6.toNatClampNeg)))))))]) dX12_change_152 rfl rfl (by decide) rfl ?_
          refine E_goto (tgt := 61) dX12_change_155 (by decide) ?_
          exact E_sub (ls' := [(0, .ref 0), (1, .int v1), (3, .int v3), (4, .int (pabs (v3 - (64 * ((2 * (r8 - r9)) * (((S_9.2 5) v7.toNatClampNeg) - ((S_9.2 5) v6.toNatClampNeg))))))), (5, .int ((S_9.2 2) v7.toNatClampNeg)), (6, .int v6), (7, .int (v7 + 1))]) ⟨rfl, rfl, rfl, rfl, rfl, rfl, rfl, trivial⟩ (ih S_9 v1 v3 (pabs (v3 - (64 * ((2 * (r8 - r9)) * (((S_9.2 5) v7.toNatClampNeg) - ((S_9.2 5) v6.toNatClampNeg)))))) ((S_9.2 2) v7.toNatClampNeg) v6 (v7 + 1) hf)
        · have hf := pO_pos c_13 hf
          refine E_aload_n dX12_change_133 rfl ?_
          refine E_getf (v := .ref 3) dX12_change_134 fl_X12_change_28 rfl rfl ?_
          refine E_iload dX12_change_137 rfl ?_
          obtain ⟨hi_15, hf⟩ := pO_gd hf
          refine E_iald (n0 := 16) (f := S_9.2 2) dX12_change_139 rfl (pin_in hi_15) ?_
          refine E_goto (tgt := 150) dX12_change_140 (by decide) ?_
          refine E_istore (ls' := [(0, .ref 0), (1, .int v1), (3, .int v3), (4, .int (pabs (v3 - (64 * ((2 * (r8 - r9)) * (((S_9.2 5) v7.toNatClampNeg) - ((S_9.2 5) v6.toNatClampNeg))))))), (5, .int ((S_9.2 2) v6.toNatClampNeg)), (6, .int v6), (7, .int v7), (8, .int ((2 * (r8 - r9)) * (((S_9.2 5) v7.toNatClampNeg) - ((S_9.2 5) v6.toNatClampNeg)))), (9, .int (pabs (v3 - (64 * ((2 * (r8 - r9)) * (((S_9.2 5) v7.toNatClampNeg) - ((S_9.2 5) v6.toNatClampNeg)))))))]) dX12_change_150 (by decide) rfl ?_
          refine E_iinc (v := v7 + 1) (ls' := [(0, .ref 0), (1, .int v1), (3, .int v3), (4, .int (pabs (v3 - (64 * ((2 * (r8 - r9)) * (((S_9.2 5) v7.toNatClampNeg) - ((S_9.2 5) v6.toNatClampNeg))))))), (5, .int ((S_9.2 2) v6.toNatClampNeg)), (6, .int v6), (7, .int (v7 + 1)), (8, .int ((2 * (r8 - r9)) * (((S_9.2 5) v7.toNatClampNeg) - ((S_9.2 5) v6.toNatClampNeg)))), (9, .int (pabs (v3 - (64 * ((2 * (r8 - r9)) * (((S_9.2 5) v7.toNatClampNeg) - ((S_9.2 5) v6.toNatClampNeg)))))))]) dX12_change_152 rfl rfl (by decide) rfl ?_
          refine E_goto (tgt := 61) dX12_change_155 (by decide) ?_
          exact E_sub (ls' := [(0, .ref 0), (1, .int v1), (3, .int v3), (4, .int (pabs (v3 - (64 * ((2 * (r8 - r9)) * (((S_9.2 5) v7.toNatClampNeg) - ((S_9.2 5) v6.toNatClampNeg))))))), (5, .int ((S_9.2 2) v6.toNatClampNeg)), (6, .int v6), (7, .int (v7 + 1))]) ⟨rfl, rfl, rfl, rfl, rfl, rfl, rfl, trivial⟩ (ih S_9 v1 v3 (pabs (v3 - (64 * ((2 * (r8 - r9)) * (((S_9.2 5) v7.toNatClampNeg) - ((S_9.2 5) v6.toNatClampNeg)))))) ((S_9.2 2) v6.toNatClampNeg) v6 (v7 + 1) hf)
      · have hf := pO_neg c_12 hf
        refine E_goto (tgt := 152) dX12_change_122 (by decide) ?_
        refine E_iinc (v := v7 + 1) (ls' := [(0, .ref 0), (1, .int v1), (3, .int v3), (4, .int v4), (5, .int v5), (6, .int v6), (7, .int (v7 + 1)), (8, .int ((2 * (r8 - r9)) * (((S_9.2 5) v7.toNatClampNeg) - ((S_9.2 5) v6.toNatClampNeg)))), (9, .int (pabs (v3 - (64 * ((2 * (r8 - r9)) * (((S_9.2 5) v7.toNatClampNeg) - ((S_9.2 5) v6.toNatClampNeg)))))))]) dX12_change_152 rfl rfl (by decide) rfl ?_
        refine E_goto (tgt := 61) dX12_change_155 (by decide) ?_
        exact E_sub (ls' := [(0, .ref 0), (1, .int v1), (3, .int v3), (4, .int v4), (5, .int v5), (6, .int v6), (7, .int (v7 + 1))]) ⟨rfl, rfl, rfl, rfl, rfl, rfl, rfl, trivial⟩ (ih S_9 v1 v3 v4 v5 v6 (v7 + 1) hf)
def g_X12_change_46 : Nat → PS → Int32 → Int32 → Int32 → Int32 → Int32 → Option ((Int32 × PS) ⊕ (PS × Int32))
  | 0, _, _, _, _, _, _ => none
  | fuel + 1, S, v1, v3, v4, v5, v6 =>
    if (S.1 4) ≤ v6 then (some (.inr (S, v5))) else (plq (g_X12_change_61 pfuel S v1 v3 v4 v5 v6 (v6 + 1)) (fun w => (fun (S_16 : PS) (v4_16 : Int32) (v5_16 : Int32) => g_X12_change_46 fuel S_16 v1 v3 v4_16 v5_16 (v6 + 1)) w.1 w.2.1 w.2.2))
set_option maxRecDepth 100000 in
theorem l_X12_change_46 (l : Launch) (D : va_G) (dA : Nat → ClassId) (ad : Nat → Nat) (d : Nat) (hd : 4 ≤ d) {Q : Int32 → List PC → Prop} : ∀ (fuel : Nat) (S : PS) (v1 : Int32) (v3 : Int32) (v4 : Int32) (v5 : Int32) (v6 : Int32), pO (g_X12_change_46 fuel S v1 v3 v4 v5 v6) (fun y => match y with
    | .inl x => Q x.1 (hM x.2)
    | .inr w => Ev l D dA ad wsX12_change cX12_change RX12 10 (some .int) d 38 (pKi D dA ad 38 Q) 164 [(5, .int w.2)] [] (hM w.1)) → Ev l D dA ad wsX12_change cX12_change RX12 10 (some .int) d 38 (pKi D dA ad 38 Q) 46 [(0, .ref 0), (1, .int v1), (3, .int v3), (4, .int v4), (5, .int v5), (6, .int v6)] [] (hM S) := by
  intro fuel
  induction fuel with
  | zero =>
    intro S v1 v3 v4 v5 v6 hf
    exact hf.elim
  | succ fuel ih =>
    intro S v1 v3 v4 v5 v6 hf
    rw [g_X12_change_46] at hf
    refine E_iload dX12_change_46 rfl ?_
    refine E_aload_n dX12_change_48 rfl ?_
    refine E_getf (v := .int (S.1 4)) dX12_change_49 fl_X12_change_98 rfl rfl ?_
    refine E_icmp_ge (tgt := 164) dX12_change_52 (by decide) (fun c_6 => ?_) (fun c_6 => ?_)
    · have hf := pO_pos c_6 hf
      exact E_sub (ls' := [(5, .int v5)]) ⟨rfl, trivial⟩ hf
    · have hf := pO_neg c_6 hf
      refine E_iload dX12_change_55 rfl ?_
      refine E_iconst (v := 1) dX12_change_57 (by decide) ?_
      refine E_iadd dX12_change_58 ?_
      refine E_istore (ls' := [(0, .ref 0), (1, .int v1), (3, .int v3), (4, .int v4), (5, .int v5), (6, .int v6), (7, .int (v6 + 1))]) dX12_change_59 (by decide) rfl ?_
      refine E_sub (ls' := [(0, .ref 0), (1, .int v1), (3, .int v3), (4, .int v4), (5, .int v5), (6, .int v6), (7, .int (v6 + 1))]) ⟨rfl, rfl, rfl, rfl, rfl, rfl, rfl, trivial⟩ ?_
      refine l_X12_change_61 l D dA ad _ (by omega) pfuel S v1 v3 v4 v5 v6 (v6 + 1) (pO_lq hf (fun x hx => hx) (fun w16 hf => ?_))
      obtain ⟨S_16, v4_16, v5_16⟩ := w16
      dsimp only at hf ⊢
      refine E_iinc (v := v6 + 1) (ls' := [(0, .ref 0), (1, .int v1), (3, .int v3), (4, .int v4_16), (5, .int v5_16), (6, .int (v6 + 1))]) dX12_change_158 rfl rfl (by decide) rfl ?_
      refine E_goto (tgt := 46) dX12_change_161 (by decide) ?_
      exact E_sub (ls' := [(0, .ref 0), (1, .int v1), (3, .int v3), (4, .int v4_16), (5, .int v5_16), (6, .int (v6 + 1))]) ⟨rfl, rfl, rfl, rfl, rfl, rfl, trivial⟩ (ih S_16 v1 v3 v4_16 v5_16 (v6 + 1) hf)
theorem mf_X12_change : pMF yX12_change wsX12_change cX12_change 10 (some .int) 1 := ⟨⟨_, rfl⟩, by decide +kernel, by decide, by decide +kernel, by decide +kernel, by decide +kernel⟩
def f_X12_change (S : PS) (v1 : Int32) : Option (Int32 × PS) :=
  pbnd (f_X12_in S v1 0 1) (fun r1 S_1 => if r1 = (0 : Int32) then (some ((-1), S_1)) else (pbnd (f_X12_restOf S_1 0) (fun r3 S_3 => if r3 = ((-2) : Int32) then (some ((-2), S_3)) else (pbnd (f_X12_offBy S_3 0 r3) (fun r5 S_5 => plp (g_X12_change_46 pfuel S_5 v1 r5 (pabs r5) (-2) 0) (fun w => (fun (S_17 : PS) (v5_17 : Int32) => some (v5_17, S_17)) w.1 w.2))))))
set_option maxRecDepth 100000 in
theorem c_X12_change (l : Launch) (D : va_G) (dA : Nat → ClassId) (ad : Nat → Nat) (S : PS) (v1 : Int32) {P : (Int32 × PS) → Prop} (hf : pO (f_X12_change S v1) P) : CtI l D dA ad yX12_change wsX12_change 4 [.ref 0, .int v1] (hM S) (fun r h' => ∃ S' : PS, h' = hM S' ∧ P (r, S')) := by
  refine CtI_of mf_X12_change rfl rfl (Nat.le_of_ble_eq_true rfl) rfl (hM_len S) ?_
  unfold f_X12_change at hf
  refine E_iload_n dX12_change_0 rfl ?_
  refine E_iconst (v := 0) dX12_change_1 (by decide) ?_
  refine E_iconst (v := 1) dX12_change_2 (by decide) ?_
  refine E_callSI (st := []) (c_X12_in l D dA ad S v1 0 1 (pO_bnd hf)) mf_X12_in rfl gX12_change_X12_in (by omega) rfl (Nat.le_of_ble_eq_true rfl) (by rfl) dX12_change_3 (fun r1 h1 q1 => ?_)
  obtain ⟨S_1, rfl, hf⟩ := q1
  dsimp only at hf
  refine E_if_ne (tgt := 11) dX12_change_6 (by decide) (fun c_2 => ?_) (fun c_2 => ?_)
  · have hf := pO_neg c_2 hf
    refine E_aload_n dX12_change_11 rfl ?_
    refine E_iconst (v := 0) dX12_change_12 (by decide) ?_
    refine E_callVI (st := []) (c_X12_restOf l D dA ad S_1 0 (pO_bnd hf)) mf_X12_restOf rfl rfl gX12_change_X12_restOf (pRc.of (ci := 12) rfl rfl) (by omega) rfl (Nat.le_of_ble_eq_true rfl) (by rfl) dX12_change_13 (fun r3 h3 q3 => ?_)
    obtain ⟨S_3, rfl, hf⟩ := q3
    dsimp only at hf
    refine E_istore_n (ls' := [(0, .ref 0), (1, .int v1), (2, .int r3)]) dX12_change_16 (by decide) rfl ?_
    refine E_iload_n dX12_change_17 rfl ?_
    refine E_bipush (v := (-2)) dX12_change_18 (by decide) ?_
    refine E_icmp_ne (tgt := 26) dX12_change_20 (by decide) (fun c_4 => ?_) (fun c_4 => ?_)
    · have hf := pO_neg c_4 hf
      refine E_aload_n dX12_change_26 rfl ?_
      refine E_iconst (v := 0) dX12_change_27 (by decide) ?_
      refine E_iload_n dX12_change_28 rfl ?_
      refine E_callVI (st := []) (c_X12_offBy l D dA ad S_3 0 r3 (pO_bnd hf)) mf_X12_offBy rfl rfl gX12_change_X12_offBy (pRc.of (ci := 12) rfl rfl) (by omega) rfl (Nat.le_of_ble_eq_true rfl) (by rfl) dX12_change_29 (fun r5 h5 q5 => ?_)
      obtain ⟨S_5, rfl, hf⟩ := q5
      dsimp only at hf
      refine E_istore_n (ls' := [(0, .ref 0), (1, .int v1), (2, .int r3), (3, .int r5)]) dX12_change_32 (by decide) rfl ?_
      refine E_iload_n dX12_change_33 rfl ?_
      refine E_mabs (by decide +kernel) (by decide +kernel) (by decide +kernel) (by decide +kernel) (by omega) (Nat.le_of_ble_eq_true rfl) (by rfl) dX12_change_34 ?_
      refine E_istore (ls' := [(0, .ref 0), (1, .int v1), (2, .int r3), (3, .int r5), (4, .int (pabs r5))]) dX12_change_37 (by decide) rfl ?_
      refine E_bipush (v := (-2)) dX12_change_39 (by decide) ?_
      refine E_istore (ls' := [(0, .ref 0), (1, .int v1), (2, .int r3), (3, .int r5), (4, .int (pabs r5)), (5, .int (-2))]) dX12_change_41 (by decide) rfl ?_
      refine E_iconst (v := 0) dX12_change_43 (by decide) ?_
      refine E_istore (ls' := [(0, .ref 0), (1, .int v1), (2, .int r3), (3, .int r5), (4, .int (pabs r5)), (5, .int (-2)), (6, .int 0)]) dX12_change_44 (by decide) rfl ?_
      refine E_sub (ls' := [(0, .ref 0), (1, .int v1), (3, .int r5), (4, .int (pabs r5)), (5, .int (-2)), (6, .int 0)]) ⟨rfl, rfl, rfl, rfl, rfl, rfl, trivial⟩ ?_
      refine l_X12_change_46 l D dA ad _ (by omega) pfuel S_5 v1 r5 (pabs r5) (-2) 0 (pO_lp hf (fun x hx => ⟨x.2, rfl, hx⟩) (fun w17 hf => ?_))
      obtain ⟨S_17, v5_17⟩ := w17
      dsimp only at hf ⊢
      refine E_iload dX12_change_164 rfl ?_
      exact E_iret rfl dX12_change_166 ⟨_, rfl, hf⟩
    · have hf := pO_pos c_4 hf
      refine E_bipush (v := (-2)) dX12_change_23 (by decide) ?_
      exact E_iret rfl dX12_change_25 ⟨_, rfl, hf⟩
  · have hf := pO_pos c_2 hf
    refine E_iconst (v := (-1)) dX12_change_9 (by decide) ?_
    exact E_iret rfl dX12_change_10 ⟨_, rfl, hf⟩
theorem mf_X12_isRow : pMF yX12_isRow wsX12_isRow cX12_isRow 1 (some .boolean) 1 := ⟨⟨_, rfl⟩, by decide +kernel, by decide, by decide +kernel, by decide +kernel, by decide +kernel⟩
def f_X12_isRow (S : PS) (v0 : Int32) : Option (Int32 × PS) :=
  pbnd (f_X12_in S v0 0 2) (fun r1 S_1 => pgd (pbit r1) (some (r1, S_1)))
set_option maxRecDepth 100000 in
theorem c_X12_isRow (l : Launch) (D : va_G) (dA : Nat → ClassId) (ad : Nat → Nat) (S : PS) (v0 : Int32) {P : (Int32 × PS) → Prop} (hf : pO (f_X12_isRow S v0) P) : CtI l D dA ad yX12_isRow wsX12_isRow 1 [.int v0] (hM S) (fun r h' => ∃ S' : PS, h' = hM S' ∧ P (r, S')) := by
  refine CtI_of mf_X12_isRow rfl rfl (Nat.le_of_ble_eq_true rfl) rfl (hM_len S) ?_
  unfold f_X12_isRow at hf
  refine E_iload_n dX12_isRow_0 rfl ?_
  refine E_iconst (v := 0) dX12_isRow_1 (by decide) ?_
  refine E_iconst (v := 2) dX12_isRow_2 (by decide) ?_
  refine E_callSI (st := []) (c_X12_in l D dA ad S v0 0 2 (pO_bnd hf)) mf_X12_in rfl gX12_isRow_X12_in (by omega) rfl (Nat.le_of_ble_eq_true rfl) (by rfl) dX12_isRow_3 (fun r1 h1 q1 => ?_)
  obtain ⟨S_1, rfl, hf⟩ := q1
  dsimp only at hf
  obtain ⟨hn_2, hf⟩ := pO_gd hf
  exact E_zret rfl dX12_isRow_6 (pbit_n hn_2) ⟨_, rfl, hf⟩
theorem hi_X12_fits_12 : ∀ w ∈ u_ws RX12 TX12 32, w ∈ wsX12_fits := fun w h => of_decide_eq_true (List.all_eq_true.mp (by decide +kernel : (u_ws RX12 TX12 32).all (fun w => decide (w ∈ wsX12_fits)) = true) w h)
theorem fl_X12_fits_77 : pFL wsX12_fits RX12 77 12 27 := ⟨RX12, TX12, 32, hi_X12_fits_12, rfl, by decide, by decide +kernel⟩
theorem fl_X12_fits_98 : pFL wsX12_fits RX12 98 12 6 := ⟨RX12, TX12, 32, hi_X12_fits_12, rfl, by decide, by decide +kernel⟩
theorem fl_X12_fits_34 : pFL wsX12_fits RX12 34 12 9 := ⟨RX12, TX12, 32, hi_X12_fits_12, rfl, by decide, by decide +kernel⟩
theorem hi_X12_layLines_12 : ∀ w ∈ u_ws RX12 TX12 32, w ∈ wsX12_layLines := fun w h => of_decide_eq_true (List.all_eq_true.mp (by decide +kernel : (u_ws RX12 TX12 32).all (fun w => decide (w ∈ wsX12_layLines)) = true) w h)
theorem fl_X12_layLines_61 : pFL wsX12_layLines RX12 61 12 18 := ⟨RX12, TX12, 32, hi_X12_layLines_12, rfl, by decide, by decide +kernel⟩
theorem fl_X12_layLines_98 : pFL wsX12_layLines RX12 98 12 6 := ⟨RX12, TX12, 32, hi_X12_layLines_12, rfl, by decide, by decide +kernel⟩
theorem fl_X12_layLines_58 : pFL wsX12_layLines RX12 58 12 17 := ⟨RX12, TX12, 32, hi_X12_layLines_12, rfl, by decide, by decide +kernel⟩
def g_X12_layLines_12 : Nat → PS → Int32 → Int32 → Int32 → Option ((Int32 × PS) ⊕ (PS))
  | 0, _, _, _, _ => none
  | fuel + 1, S, v1, v2, v3 =>
    if v1 ≤ v3 then (some (.inr (S))) else (pbnd (f_X12_lineFor S v2) (fun r4 S_4 => pgd (pin v3 17) (if (S_4.1 4) ≤ v3 then (g_X12_layLines_12 fuel (pAr S_4 31 (upd (S_4.2 31) v3.toNatClampNeg r4)) v1 v2 (v3 + 1)) else (pgd (pin v3 16) (pbnd (f_X12_weighs (pAr S_4 31 (upd (S_4.2 31) v3.toNatClampNeg r4)) ((S_4.2 30) v3.toNatClampNeg)) (fun r8 S_8 => g_X12_layLines_12 fuel S_8 v1 (v2 - r8) (v3 + 1)))))))
set_option maxRecDepth 100000 in
theorem l_X12_layLines_12 (l : Launch) (D : va_G) (dA : Nat → ClassId) (ad : Nat → Nat) (d : Nat) (hd : 4 ≤ d) {Q : List PC → Prop} : ∀ (fuel : Nat) (S : PS) (v1 : Int32) (v2 : Int32) (v3 : Int32), pO (g_X12_layLines_12 fuel S v1 v2 v3) (fun y => match y with
    | .inl x => Q (hM x.2)
    | .inr w => Ev l D dA ad wsX12_layLines cX12_layLines RX12 4 none d 38 (pKv D dA ad 38 Q) 55 [] [] (hM w)) → Ev l D dA ad wsX12_layLines cX12_layLines RX12 4 none d 38 (pKv D dA ad 38 Q) 12 [(0, .ref 0), (1, .int v1), (2, .int v2), (3, .int v3)] [] (hM S) := by
  intro fuel
  induction fuel with
  | zero =>
    intro S v1 v2 v3 hf
    exact hf.elim
  | succ fuel ih =>
    intro S v1 v2 v3 hf
    rw [g_X12_layLines_12] at hf
    refine E_iload_n dX12_layLines_12 rfl ?_
    refine E_iload_n dX12_layLines_13 rfl ?_
    refine E_icmp_ge (tgt := 55) dX12_layLines_14 (by decide) (fun c_3 => ?_) (fun c_3 => ?_)
    · have hf := pO_pos c_3 hf
      exact E_sub (ls' := []) trivial hf
    · have hf := pO_neg c_3 hf
      refine E_aload_n dX12_layLines_17 rfl ?_
      refine E_getf (v := .ref 14) dX12_layLines_18 fl_X12_layLines_61 rfl rfl ?_
      refine E_iload_n dX12_layLines_21 rfl ?_
      refine E_aload_n dX12_layLines_22 rfl ?_
      refine E_iload_n dX12_layLines_23 rfl ?_
      refine E_callVI (st := [.int v3, .ref 14]) (c_X12_lineFor l D dA ad S v2 (pO_bnd hf)) mf_X12_lineFor rfl rfl gX12_layLines_X12_lineFor (pRc.of (ci := 12) rfl rfl) (by omega) rfl (Nat.le_of_ble_eq_true rfl) (by rfl) dX12_layLines_24 (fun r4 h4 q4 => ?_)
      obtain ⟨S_4, rfl, hf⟩ := q4
      dsimp only at hf
      obtain ⟨hi_5, hf⟩ := pO_gd hf
      refine E_iast (n0 := 17) (f := S_4.2 31) (h' := hM (pAr S_4 31 (upd (S_4.2 31) v3.toNatClampNeg r4))) dX12_layLines_27 rfl (pin_in hi_5) (sM_A31 S_4 (upd (S_4.2 31) v3.toNatClampNeg r4)) ?_
      refine E_iload_n dX12_layLines_28 rfl ?_
      refine E_aload_n dX12_layLines_29 rfl ?_
      refine E_getf (v := .int (S_4.1 4)) dX12_layLines_30 fl_X12_layLines_98 rfl rfl ?_
      refine E_icmp_ge (tgt := 49) dX12_layLines_33 (by decide) (fun c_6 => ?_) (fun c_6 => ?_)
      · have hf := pO_pos c_6 hf
        refine E_iinc (v := v3 + 1) (ls' := [(0, .ref 0), (1, .int v1), (2, .int v2), (3, .int (v3 + 1))]) dX12_layLines_49 rfl rfl (by decide) rfl ?_
        refine E_goto (tgt := 12) dX12_layLines_52 (by decide) ?_
        exact E_sub (ls' := [(0, .ref 0), (1, .int v1), (2, .int v2), (3, .int (v3 + 1))]) ⟨rfl, rfl, rfl, rfl, trivial⟩ (ih (pAr S_4 31 (upd (S_4.2 31) v3.toNatClampNeg r4)) v1 v2 (v3 + 1) hf)
      · have hf := pO_neg c_6 hf
        refine E_iload_n dX12_layLines_36 rfl ?_
        refine E_aload_n dX12_layLines_37 rfl ?_
        refine E_aload_n dX12_layLines_38 rfl ?_
        refine E_getf (v := .ref 13) dX12_layLines_39 fl_X12_layLines_58 rfl rfl ?_
        refine E_iload_n dX12_layLines_42 rfl ?_
        obtain ⟨hi_7, hf⟩ := pO_gd hf
        refine E_iald (n0 := 16) (f := S_4.2 30) dX12_layLines_43 rfl (pin_in hi_7) ?_
        refine E_callVI (st := [.int v2]) (c_X12_weighs l D dA ad (pAr S_4 31 (upd (S_4.2 31) v3.toNatClampNeg r4)) ((S_4.2 30) v3.toNatClampNeg) (pO_bnd hf)) mf_X12_weighs rfl rfl gX12_layLines_X12_weighs (pRc.of (ci := 12) rfl rfl) (by omega) rfl (Nat.le_of_ble_eq_true rfl) (by rfl) dX12_layLines_44 (fun r8 h8 q8 => ?_)
        obtain ⟨S_8, rfl, hf⟩ := q8
        dsimp only at hf
        refine E_isub dX12_layLines_47 ?_
        refine E_istore_n (ls' := [(0, .ref 0), (1, .int v1), (2, .int (v2 - r8)), (3, .int v3)]) dX12_layLines_48 (by decide) rfl ?_
        refine E_iinc (v := v3 + 1) (ls' := [(0, .ref 0), (1, .int v1), (2, .int (v2 - r8)), (3, .int (v3 + 1))]) dX12_layLines_49 rfl rfl (by decide) rfl ?_
        refine E_goto (tgt := 12) dX12_layLines_52 (by decide) ?_
        exact E_sub (ls' := [(0, .ref 0), (1, .int v1), (2, .int (v2 - r8)), (3, .int (v3 + 1))]) ⟨rfl, rfl, rfl, rfl, trivial⟩ (ih S_8 v1 (v2 - r8) (v3 + 1) hf)
theorem mf_X12_layLines : pMF yX12_layLines wsX12_layLines cX12_layLines 4 none 1 := ⟨⟨_, rfl⟩, by decide +kernel, by decide, by decide +kernel, by decide +kernel, by decide +kernel⟩
def f_X12_layLines (S : PS) (v1 : Int32) : Option (Int32 × PS) :=
  pbnd (f_X12_layRank S 0) (fun _ S_1 => pbnd (f_X12_allWeight S_1) (fun r2 S_2 => plp (g_X12_layLines_12 pfuel S_2 v1 r2 0) (fun (S_9 : PS) => some (0, S_9))))
set_option maxRecDepth 100000 in
theorem c_X12_layLines (l : Launch) (D : va_G) (dA : Nat → ClassId) (ad : Nat → Nat) (S : PS) (v1 : Int32) {P : (Int32 × PS) → Prop} (hf : pO (f_X12_layLines S v1) P) : CtV l D dA ad yX12_layLines wsX12_layLines 4 [.ref 0, .int v1] (hM S) (fun h' => ∃ (r0 : Int32) (S' : PS), h' = hM S' ∧ P (r0, S')) := by
  refine CtV_of mf_X12_layLines rfl rfl (Nat.le_of_ble_eq_true rfl) rfl (hM_len S) ?_
  unfold f_X12_layLines at hf
  refine E_aload_n dX12_layLines_0 rfl ?_
  refine E_iconst (v := 0) dX12_layLines_1 (by decide) ?_
  refine E_callVV (st := []) (c_X12_layRank l D dA ad S 0 (pO_bnd hf)) mf_X12_layRank rfl rfl gX12_layLines_X12_layRank (pRc.of (ci := 12) rfl rfl) (by omega) rfl (Nat.le_of_ble_eq_true rfl) (by rfl) dX12_layLines_2 (fun h1 q1 => ?_)
  obtain ⟨r1, S_1, rfl, hf⟩ := q1
  dsimp only at hf
  refine E_aload_n dX12_layLines_5 rfl ?_
  refine E_callVI (st := []) (c_X12_allWeight l D dA ad S_1 (pO_bnd hf)) mf_X12_allWeight rfl rfl gX12_layLines_X12_allWeight (pRc.of (ci := 12) rfl rfl) (by omega) rfl (Nat.le_of_ble_eq_true rfl) (by rfl) dX12_layLines_6 (fun r2 h2 q2 => ?_)
  obtain ⟨S_2, rfl, hf⟩ := q2
  dsimp only at hf
  refine E_istore_n (ls' := [(0, .ref 0), (1, .int v1), (2, .int r2)]) dX12_layLines_9 (by decide) rfl ?_
  refine E_iconst (v := 0) dX12_layLines_10 (by decide) ?_
  refine E_istore_n (ls' := [(0, .ref 0), (1, .int v1), (2, .int r2), (3, .int 0)]) dX12_layLines_11 (by decide) rfl ?_
  refine E_sub (ls' := [(0, .ref 0), (1, .int v1), (2, .int r2), (3, .int 0)]) ⟨rfl, rfl, rfl, rfl, trivial⟩ ?_
  refine l_X12_layLines_12 l D dA ad _ (by omega) pfuel S_2 v1 r2 0 (pO_lp hf (fun x hx => ⟨x.1, x.2, rfl, hx⟩) (fun w9 hf => ?_))
  obtain ⟨S_9, rfl⟩ : ∃ z, z = w9 := ⟨_, rfl⟩
  dsimp only at hf ⊢
  exact E_vret rfl dX12_layLines_55 ⟨0, _, rfl, hf⟩
theorem hi_X12_isSo_12 : ∀ w ∈ u_ws RX12 TX12 32, w ∈ wsX12_isSo := fun w h => of_decide_eq_true (List.all_eq_true.mp (by decide +kernel : (u_ws RX12 TX12 32).all (fun w => decide (w ∈ wsX12_isSo)) = true) w h)
theorem fl_X12_isSo_61 : pFL wsX12_isSo RX12 61 12 18 := ⟨RX12, TX12, 32, hi_X12_isSo_12, rfl, by decide, by decide +kernel⟩
theorem fl_X12_isSo_82 : pFL wsX12_isSo RX12 82 12 28 := ⟨RX12, TX12, 32, hi_X12_isSo_12, rfl, by decide, by decide +kernel⟩
def g_X12_isSo_7 : Nat → PS → Int32 → Int32 → Int32 → Option ((Int32 × PS) ⊕ (PS))
  | 0, _, _, _, _ => none
  | fuel + 1, S, v1, v2, v3 =>
    if v2 ≤ v3 then (some (.inr (S))) else (pgd (pin v3 17) (pgd (pin v1 3) (pgd (pin v3 40) (if ((S.2 31) v3.toNatClampNeg) = ((S.2 (25 + v1.toNatClampNeg)) v3.toNatClampNeg) then (g_X12_isSo_7 fuel S v1 v2 (v3 + 1)) else (some (.inl (0, S)))))))
set_option maxRecDepth 100000 in
theorem l_X12_isSo_7 (l : Launch) (D : va_G) (dA : Nat → ClassId) (ad : Nat → Nat) (d : Nat) (hd : 5 ≤ d) {Q : Int32 → List PC → Prop} : ∀ (fuel : Nat) (S : PS) (v1 : Int32) (v2 : Int32) (v3 : Int32), pO (g_X12_isSo_7 fuel S v1 v2 v3) (fun y => match y with
    | .inl x => Q x.1 (hM x.2)
    | .inr w => Ev l D dA ad wsX12_isSo cX12_isSo RX12 4 (some .boolean) d 38 (pKi D dA ad 38 Q) 37 [] [] (hM w)) → Ev l D dA ad wsX12_isSo cX12_isSo RX12 4 (some .boolean) d 38 (pKi D dA ad 38 Q) 7 [(0, .ref 0), (1, .int v1), (2, .int v2), (3, .int v3)] [] (hM S) := by
  intro fuel
  induction fuel with
  | zero =>
    intro S v1 v2 v3 hf
    exact hf.elim
  | succ fuel ih =>
    intro S v1 v2 v3 hf
    rw [g_X12_isSo_7] at hf
    refine E_iload_n dX12_isSo_7 rfl ?_
    refine E_iload_n dX12_isSo_8 rfl ?_
    refine E_icmp_ge (tgt := 37) dX12_isSo_9 (by decide) (fun c_2 => ?_) (fun c_2 => ?_)
    · have hf := pO_pos c_2 hf
      exact E_sub (ls' := []) trivial hf
    · have hf := pO_neg c_2 hf
      refine E_aload_n dX12_isSo_12 rfl ?_
      refine E_getf (v := .ref 14) dX12_isSo_13 fl_X12_isSo_61 rfl rfl ?_
      refine E_iload_n dX12_isSo_16 rfl ?_
      obtain ⟨hi_3, hf⟩ := pO_gd hf
      refine E_iald (n0 := 17) (f := S.2 31) dX12_isSo_17 rfl (pin_in hi_3) ?_
      refine E_aload_n dX12_isSo_18 rfl ?_
      refine E_getf (v := .ref 20) dX12_isSo_19 fl_X12_isSo_82 rfl rfl ?_
      refine E_iload_n dX12_isSo_22 rfl ?_
      obtain ⟨hr_4, hf⟩ := pO_gd hf
      refine E_aald (k0 := 21 + v1.toNatClampNeg) dX12_isSo_23 rfl (pin_in hr_4) (if_pos (pin_lt hr_4)) ?_
      refine E_iload_n dX12_isSo_24 rfl ?_
      obtain ⟨hi_5, hf⟩ := pO_gd hf
      refine E_iald (n0 := 40) (f := S.2 (25 + v1.toNatClampNeg)) dX12_isSo_25 (gM_R21 S (pin_lt hr_4)) (pin_in hi_5) ?_
      refine E_icmp_eq (tgt := 31) dX12_isSo_26 (by decide) (fun c_6 => ?_) (fun c_6 => ?_)
      · have hf := pO_pos c_6 hf
        refine E_iinc (v := v3 + 1) (ls' := [(0, .ref 0), (1, .int v1), (2, .int v2), (3, .int (v3 + 1))]) dX12_isSo_31 rfl rfl (by decide) rfl ?_
        refine E_goto (tgt := 7) dX12_isSo_34 (by decide) ?_
        exact E_sub (ls' := [(0, .ref 0), (1, .int v1), (2, .int v2), (3, .int (v3 + 1))]) ⟨rfl, rfl, rfl, rfl, trivial⟩ (ih S v1 v2 (v3 + 1) hf)
      · have hf := pO_neg c_6 hf
        refine E_iconst (v := 0) dX12_isSo_29 (by decide) ?_
        exact E_zret rfl dX12_isSo_30 (by decide) hf
theorem mf_X12_isSo : pMF yX12_isSo wsX12_isSo cX12_isSo 4 (some .boolean) 2 := ⟨⟨_, rfl⟩, by decide +kernel, by decide, by decide +kernel, by decide +kernel, by decide +kernel⟩
def f_X12_isSo (S : PS) (v1 : Int32) (v2 : Int32) : Option (Int32 × PS) :=
  pbnd (f_X12_layLines S v2) (fun _ S_1 => plp (g_X12_isSo_7 pfuel S_1 v1 v2 0) (fun (S_7 : PS) => some (1, S_7)))
set_option maxRecDepth 100000 in
theorem c_X12_isSo (l : Launch) (D : va_G) (dA : Nat → ClassId) (ad : Nat → Nat) (S : PS) (v1 : Int32) (v2 : Int32) {P : (Int32 × PS) → Prop} (hf : pO (f_X12_isSo S v1 v2) P) : CtI l D dA ad yX12_isSo wsX12_isSo 5 [.ref 0, .int v1, .int v2] (hM S) (fun r h' => ∃ S' : PS, h' = hM S' ∧ P (r, S')) := by
  refine CtI_of mf_X12_isSo rfl rfl (Nat.le_of_ble_eq_true rfl) rfl (hM_len S) ?_
  unfold f_X12_isSo at hf
  refine E_aload_n dX12_isSo_0 rfl ?_
  refine E_iload_n dX12_isSo_1 rfl ?_
  refine E_callVV (st := []) (c_X12_layLines l D dA ad S v2 (pO_bnd hf)) mf_X12_layLines rfl rfl gX12_isSo_X12_layLines (pRc.of (ci := 12) rfl rfl) (by omega) rfl (Nat.le_of_ble_eq_true rfl) (by rfl) dX12_isSo_2 (fun h1 q1 => ?_)
  obtain ⟨r1, S_1, rfl, hf⟩ := q1
  dsimp only at hf
  refine E_iconst (v := 0) dX12_isSo_5 (by decide) ?_
  refine E_istore_n (ls' := [(0, .ref 0), (1, .int v1), (2, .int v2), (3, .int 0)]) dX12_isSo_6 (by decide) rfl ?_
  refine E_sub (ls' := [(0, .ref 0), (1, .int v1), (2, .int v2), (3, .int 0)]) ⟨rfl, rfl, rfl, rfl, trivial⟩ ?_
  refine l_X12_isSo_7 l D dA ad _ (by omega) pfuel S_1 v1 v2 0 (pO_lp hf (fun x hx => ⟨x.2, rfl, hx⟩) (fun w7 hf => ?_))
  obtain ⟨S_7, rfl⟩ : ∃ z, z = w7 := ⟨_, rfl⟩
  dsimp only at hf ⊢
  refine E_iconst (v := 1) dX12_isSo_37 (by decide) ?_
  exact E_zret rfl dX12_isSo_38 (by decide) ⟨_, rfl, hf⟩
def g_X12_fits_110 : Nat → PS → Int32 → Int32 → Int32 → Int32 → Int32 → Int32 → Int32 → Int32 → Option ((Int32 × PS) ⊕ (PS × Int32 × Int32))
  | 0, _, _, _, _, _, _, _, _, _ => none
  | fuel + 1, S, v1, v2, v4, v5, v6, v7, v8, v9 =>
    if v9 < (1 : Int32) then (some (.inr (S, v7, v8))) else (pgd (pin v5 16) (pbnd (f_X12_isSo (pAr S 4 (upd (S.2 4) v5.toNatClampNeg v9)) v1 v2) (fun r19 S_19 => if r19 = (0 : Int32) then (g_X12_fits_110 fuel S_19 v1 v2 v4 v5 v6 v7 v8 (v9 + (-1))) else (g_X12_fits_110 fuel S_19 v1 v2 v4 v5 v6 (v7 + 1) v9 (v9 + (-1))))))
set_option maxRecDepth 100000 in
theorem l_X12_fits_110 (l : Launch) (D : va_G) (dA : Nat → ClassId) (ad : Nat → Nat) (d : Nat) (hd : 6 ≤ d) {Q : Int32 → List PC → Prop} : ∀ (fuel : Nat) (S : PS) (v1 : Int32) (v2 : Int32) (v4 : Int32) (v5 : Int32) (v6 : Int32) (v7 : Int32) (v8 : Int32) (v9 : Int32), pO (g_X12_fits_110 fuel S v1 v2 v4 v5 v6 v7 v8 v9) (fun y => match y with
    | .inl x => Q x.1 (hM x.2)
    | .inr w => Ev l D dA ad wsX12_fits cX12_fits RX12 10 (some .int) d 38 (pKi D dA ad 38 Q) 150 [(0, .ref 0), (4, .int v4), (5, .int v5), (6, .int v6), (7, .int w.2.1), (8, .int w.2.2)] [] (hM w.1)) → Ev l D dA ad wsX12_fits cX12_fits RX12 10 (some .int) d 38 (pKi D dA ad 38 Q) 110 [(0, .ref 0), (1, .int v1), (2, .int v2), (4, .int v4), (5, .int v5), (6, .int v6), (7, .int v7), (8, .int v8), (9, .int v9)] [] (hM S) := by
  intro fuel
  induction fuel with
  | zero =>
    intro S v1 v2 v4 v5 v6 v7 v8 v9 hf
    exact hf.elim
  | succ fuel ih =>
    intro S v1 v2 v4 v5 v6 v7 v8 v9 hf
    rw [g_X12_fits_110] at hf
    refine E_iload dX12_fits_110 rfl ?_
    refine E_iconst (v := 1) dX12_fits_112 (by decide) ?_
    refine E_icmp_lt (tgt := 150) dX12_fits_113 (by decide) (fun c_17 => ?_) (fun c_17 => ?_)
    · have hf := pO_pos c_17 hf
      exact E_sub (ls' := [(0, .ref 0), (4, .int v4), (5, .int v5), (6, .int v6), (7, .int v7), (8, .int v8)]) ⟨rfl, rfl, rfl, rfl, rfl, rfl, trivial⟩ hf
    · have hf := pO_neg c_17 hf
      refine E_aload_n dX12_fits_116 rfl ?_
      refine E_getf (v := .ref 5) dX12_fits_117 fl_X12_fits_34 rfl rfl ?_
      refine E_iload dX12_fits_120 rfl ?_
      refine E_iload dX12_fits_122 rfl ?_
      obtain ⟨hi_18, hf⟩ := pO_gd hf
      refine E_iast (n0 := 16) (f := S.2 4) (h' := hM (pAr S 4 (upd (S.2 4) v5.toNatClampNeg v9))) dX12_fits_124 rfl (pin_in hi_18) (sM_A4 S (upd (S.2 4) v5.toNatClampNeg v9)) ?_
      refine E_aload_n dX12_fits_125 rfl ?_
      refine E_iload_n dX12_fits_126 rfl ?_
      refine E_iload_n dX12_fits_127 rfl ?_
      refine E_callVI (st := []) (c_X12_isSo l D dA ad (pAr S 4 (upd (S.2 4) v5.toNatClampNeg v9)) v1 v2 (pO_bnd hf)) mf_X12_isSo rfl rfl gX12_fits_X12_isSo (pRc.of (ci := 12) rfl rfl) (by omega) rfl (Nat.le_of_ble_eq_true rfl) (by rfl) dX12_fits_128 (fun r19 h19 q19 => ?_)
      obtain ⟨S_19, rfl, hf⟩ := q19
      dsimp only at hf
      refine E_if_ne (tgt := 137) dX12_fits_131 (by decide) (fun c_20 => ?_) (fun c_20 => ?_)
      · have hf := pO_neg c_20 hf
        refine E_iinc (v := v7 + 1) (ls' := [(0, .ref 0), (1, .int v1), (2, .int v2), (4, .int v4), (5, .int v5), (6, .int v6), (7, .int (v7 + 1)), (8, .int v8), (9, .int v9)]) dX12_fits_137 rfl rfl (by decide) rfl ?_
        refine E_iload dX12_fits_140 rfl ?_
        refine E_istore (ls' := [(0, .ref 0), (1, .int v1), (2, .int v2), (4, .int v4), (5, .int v5), (6, .int v6), (7, .int (v7 + 1)), (8, .int v9), (9, .int v9)]) dX12_fits_142 (by decide) rfl ?_
        refine E_iinc (v := v9 + (-1)) (ls' := [(0, .ref 0), (1, .int v1), (2, .int v2), (4, .int v4), (5, .int v5), (6, .int v6), (7, .int (v7 + 1)), (8, .int v9), (9, .int (v9 + (-1)))]) dX12_fits_144 rfl rfl (by decide) rfl ?_
        refine E_goto (tgt := 110) dX12_fits_147 (by decide) ?_
        exact E_sub (ls' := [(0, .ref 0), (1, .int v1), (2, .int v2), (4, .int v4), (5, .int v5), (6, .int v6), (7, .int (v7 + 1)), (8, .int v9), (9, .int (v9 + (-1)))]) ⟨rfl, rfl, rfl, rfl, rfl, rfl, rfl, rfl, rfl, trivial⟩ (ih S_19 v1 v2 v4 v5 v6 (v7 + 1) v9 (v9 + (-1)) hf)
      · have hf := pO_pos c_20 hf
        refine E_goto (tgt := 144) dX12_fits_134 (by decide) ?_
        refine E_iinc (v := v9 + (-1)) (ls' := [(0, .ref 0), (1, .int v1), (2, .int v2), (4, .int v4), (5, .int v5), (6, .int v6), (7, .int v7), (8, .int v8), (9, .int (v9 + (-1)))]) dX12_fits_144 rfl rfl (by decide) rfl ?_
        refine E_goto (tgt := 110) dX12_fits_147 (by decide) ?_
        exact E_sub (ls' := [(0, .ref 0), (1, .int v1), (2, .int v2), (4, .int v4), (5, .int v5), (6, .int v6), (7, .int v7), (8, .int v8), (9, .int (v9 + (-1)))]) ⟨rfl, rfl, rfl, rfl, rfl, rfl, rfl, rfl, rfl, trivial⟩ (ih S_19 v1 v2 v4 v5 v6 v7 v8 (v9 + (-1)) hf)
theorem mf_X12_fits : pMF yX12_fits wsX12_fits cX12_fits 10 (some .int) 4 := ⟨⟨_, rfl⟩, by decide +kernel, by decide, by decide +kernel, by decide +kernel, by decide +kernel⟩
def f_X12_fits (S : PS) (v1 : Int32) (v2 : Int32) (v3 : Int32) (v4 : Int32) : Option (Int32 × PS) :=
  pbnd (f_X12_isRow S v1) (fun r1 S_1 => if r1 = (0 : Int32) then (some ((-1), S_1)) else (pbnd (f_X12_in S_1 v2 0 17) (fun r3 S_3 => if r3 = (0 : Int32) then (some ((-1), S_3)) else (pbnd (f_X12_isName S_3 v3) (fun r5 S_5 => if r5 = (0 : Int32) then (some ((-1), S_5)) else (pbnd (f_X12_in S_5 v4 0 1) (fun r7 S_7 => if r7 = (0 : Int32) then (some ((-1), S_7)) else (pbnd (f_X12_find S_7 v3) (fun r9 S_9 => if (0 : Int32) ≤ r9 then (pgd (pin v1 3) (if (0 : Int32) ≤ ((S_9.2 24) v1.toNatClampNeg) then (pgd (pin v1 3) (if v2 ≤ ((S_9.2 24) v1.toNatClampNeg) then (if v2 ≤ ((S_9.1 4) + 1) then (pgd (pin r9 16) (plp (g_X12_fits_110 pfuel S_9 v1 v2 v4 r9 ((S_9.2 4) r9.toNatClampNeg) 0 (-2) 999) (fun w => (fun (S_21 : PS) (v7_21 : Int32) (v8_21 : Int32) => pgd (pin r9 16) (if v4 = (0 : Int32) then (some (v7_21, (pAr S_21 4 (upd (S_21.2 4) r9.toNatClampNeg ((S_9.2 4) r9.toNatClampNeg))))) else (some (v8_21, (pAr S_21 4 (upd (S_21.2 4) r9.toNatClampNeg ((S_9.2 4) r9.toNatClampNeg))))))) w.1 w.2.1 w.2.2))) else (some ((-5), S_9))) else (some ((-13), S_9)))) else (some ((-11), S_9)))) else (some ((-2), S_9)))))))))))
set_option maxRecDepth 100000 in
theorem c_X12_fits (l : Launch) (D : va_G) (dA : Nat → ClassId) (ad : Nat → Nat) (S : PS) (v1 : Int32) (v2 : Int32) (v3 : Int32) (v4 : Int32) {P : (Int32 × PS) → Prop} (hf : pO (f_X12_fits S v1 v2 v3 v4) P) : CtI l D dA ad yX12_fits wsX12_fits 6 [.ref 0, .int v1, .int v2, .int v3, .int v4] (hM S) (fun r h' => ∃ S' : PS, h' = hM S' ∧ P (r, S')) := by
  refine CtI_of mf_X12_fits rfl rfl (Nat.le_of_ble_eq_true rfl) rfl (hM_len S) ?_
  unfold f_X12_fits at hf
  refine E_iload_n dX12_fits_0 rfl ?_
  refine E_callSI (st := []) (c_X12_isRow l D dA ad S v1 (pO_bnd hf)) mf_X12_isRow rfl gX12_fits_X12_isRow (by omega) rfl (Nat.le_of_ble_eq_true rfl) (by rfl) dX12_fits_1 (fun r1 h1 q1 => ?_)
  obtain ⟨S_1, rfl, hf⟩ := q1
  dsimp only at hf
  refine E_if_eq (tgt := 34) dX12_fits_4 (by decide) (fun c_2 => ?_) (fun c_2 => ?_)
  · have hf := pO_pos c_2 hf
    refine E_iconst (v := (-1)) dX12_fits_34 (by decide) ?_
    exact E_iret rfl dX12_fits_35 ⟨_, rfl, hf⟩
  · have hf := pO_neg c_2 hf
    refine E_iload_n dX12_fits_7 rfl ?_
    refine E_iconst (v := 0) dX12_fits_8 (by decide) ?_
    refine E_bipush (v := 17) dX12_fits_9 (by decide) ?_
    refine E_callSI (st := []) (c_X12_in l D dA ad S_1 v2 0 17 (pO_bnd hf)) mf_X12_in rfl gX12_fits_X12_in (by omega) rfl (Nat.le_of_ble_eq_true rfl) (by rfl) dX12_fits_11 (fun r3 h3 q3 => ?_)
    obtain ⟨S_3, rfl, hf⟩ := q3
    dsimp only at hf
    refine E_if_eq (tgt := 34) dX12_fits_14 (by decide) (fun c_4 => ?_) (fun c_4 => ?_)
    · have hf := pO_pos c_4 hf
      refine E_iconst (v := (-1)) dX12_fits_34 (by decide) ?_
      exact E_iret rfl dX12_fits_35 ⟨_, rfl, hf⟩
    · have hf := pO_neg c_4 hf
      refine E_iload_n dX12_fits_17 rfl ?_
      refine E_callSI (st := []) (c_X12_isName l D dA ad S_3 v3 (pO_bnd hf)) mf_X12_isName rfl gX12_fits_X12_isName (by omega) rfl (Nat.le_of_ble_eq_true rfl) (by rfl) dX12_fits_18 (fun r5 h5 q5 => ?_)
      obtain ⟨S_5, rfl, hf⟩ := q5
      dsimp only at hf
      refine E_if_eq (tgt := 34) dX12_fits_21 (by decide) (fun c_6 => ?_) (fun c_6 => ?_)
      · have hf := pO_pos c_6 hf
        refine E_iconst (v := (-1)) dX12_fits_34 (by decide) ?_
        exact E_iret rfl dX12_fits_35 ⟨_, rfl, hf⟩
      · have hf := pO_neg c_6 hf
        refine E_iload dX12_fits_24 rfl ?_
        refine E_iconst (v := 0) dX12_fits_26 (by decide) ?_
        refine E_iconst (v := 1) dX12_fits_27 (by decide) ?_
        refine E_callSI (st := []) (c_X12_in l D dA ad S_5 v4 0 1 (pO_bnd hf)) mf_X12_in rfl gX12_fits_X12_in (by omega) rfl (Nat.le_of_ble_eq_true rfl) (by rfl) dX12_fits_28 (fun r7 h7 q7 => ?_)
        obtain ⟨S_7, rfl, hf⟩ := q7
        dsimp only at hf
        refine E_if_ne (tgt := 36) dX12_fits_31 (by decide) (fun c_8 => ?_) (fun c_8 => ?_)
        · have hf := pO_neg c_8 hf
          refine E_aload_n dX12_fits_36 rfl ?_
          refine E_iload_n dX12_fits_37 rfl ?_
          refine E_callVI (st := []) (c_X12_find l D dA ad S_7 v3 (pO_bnd hf)) mf_X12_find rfl rfl gX12_fits_X12_find (pRc.of (ci := 12) rfl rfl) (by omega) rfl (Nat.le_of_ble_eq_true rfl) (by rfl) dX12_fits_38 (fun r9 h9 q9 => ?_)
          obtain ⟨S_9, rfl, hf⟩ := q9
          dsimp only at hf
          refine E_istore (ls' := [(0, .ref 0), (1, .int v1), (2, .int v2), (3, .int v3), (4, .int v4), (5, .int r9)]) dX12_fits_41 (by decide) rfl ?_
          refine E_iload dX12_fits_43 rfl ?_
          refine E_if_ge (tgt := 51) dX12_fits_45 (by decide) (fun c_10 => ?_) (fun c_10 => ?_)
          · have hf := pO_pos c_10 hf
            refine E_aload_n dX12_fits_51 rfl ?_
            refine E_getf (v := .ref 19) dX12_fits_52 fl_X12_fits_77 rfl rfl ?_
            refine E_iload_n dX12_fits_55 rfl ?_
            obtain ⟨hi_11, hf⟩ := pO_gd hf
            refine E_iald (n0 := 3) (f := S_9.2 24) dX12_fits_56 rfl (pin_in hi_11) ?_
            refine E_if_ge (tgt := 63) dX12_fits_57 (by decide) (fun c_12 => ?_) (fun c_12 => ?_)
            · have hf := pO_pos c_12 hf
              refine E_aload_n dX12_fits_63 rfl ?_
              refine E_getf (v := .ref 19) dX12_fits_64 fl_X12_fits_77 rfl rfl ?_
              refine E_iload_n dX12_fits_67 rfl ?_
              obtain ⟨hi_13, hf⟩ := pO_gd hf
              refine E_iald (n0 := 3) (f := S_9.2 24) dX12_fits_68 rfl (pin_in hi_13) ?_
              refine E_iload_n dX12_fits_69 rfl ?_
              refine E_icmp_ge (tgt := 76) dX12_fits_70 (by decide) (fun c_14 => ?_) (fun c_14 => ?_)
              · have hf := pO_pos c_14 hf
                refine E_aload_n dX12_fits_76 rfl ?_
                refine E_getf (v := .int (S_9.1 4)) dX12_fits_77 fl_X12_fits_98 rfl rfl ?_
                refine E_iconst (v := 1) dX12_fits_80 (by decide) ?_
                refine E_iadd dX12_fits_81 ?_
                refine E_iload_n dX12_fits_82 rfl ?_
                refine E_icmp_ge (tgt := 89) dX12_fits_83 (by decide) (fun c_15 => ?_) (fun c_15 => ?_)
                · have hf := pO_pos c_15 hf
                  refine E_aload_n dX12_fits_89 rfl ?_
                  refine E_getf (v := .ref 5) dX12_fits_90 fl_X12_fits_34 rfl rfl ?_
                  refine E_iload dX12_fits_93 rfl ?_
                  obtain ⟨hi_16, hf⟩ := pO_gd hf
                  refine E_iald (n0 := 16) (f := S_9.2 4) dX12_fits_95 rfl (pin_in hi_16) ?_
                  refine E_istore (ls' := [(0, .ref 0), (1, .int v1), (2, .int v2), (3, .int v3), (4, .int v4), (5, .int r9), (6, .int ((S_9.2 4) r9.toNatClampNeg))]) dX12_fits_96 (by decide) rfl ?_
                  refine E_iconst (v := 0) dX12_fits_98 (by decide) ?_
                  refine E_istore (ls' := [(0, .ref 0), (1, .int v1), (2, .int v2), (3, .int v3), (4, .int v4), (5, .int r9), (6, .int ((S_9.2 4) r9.toNatClampNeg)), (7, .int 0)]) dX12_fits_99 (by decide) rfl ?_
                  refine E_bipush (v := (-2)) dX12_fits_101 (by decide) ?_
                  refine E_istore (ls' := [(0, .ref 0), (1, .int v1), (2, .int v2), (3, .int v3), (4, .int v4), (5, .int r9), (6, .int ((S_9.2 4) r9.toNatClampNeg)), (7, .int 0), (8, .int (-2))]) dX12_fits_103 (by decide) rfl ?_
                  refine E_sipush (v := 999) dX12_fits_105 (by decide) ?_
                  refine E_istore (ls' := [(0, .ref 0), (1, .int v1), (2, .int v2), (3, .int v3), (4, .int v4), (5, .int r9), (6, .int ((S_9.2 4) r9.toNatClampNeg)), (7, .int 0), (8, .int (-2)), (9, .int 999)]) dX12_fits_108 (by decide) rfl ?_
                  refine E_sub (ls' := [(0, .ref 0), (1, .int v1), (2, .int v2), (4, .int v4), (5, .int r9), (6, .int ((S_9.2 4) r9.toNatClampNeg)), (7, .int 0), (8, .int (-2)), (9, .int 999)]) ⟨rfl, rfl, rfl, rfl, rfl, rfl, rfl, rfl, rfl, trivial⟩ ?_
                  refine l_X12_fits_110 l D dA ad _ (by omega) pfuel S_9 v1 v2 v4 r9 ((S_9.2 4) r9.toNatClampNeg) 0 (-2) 999 (pO_lp hf (fun x hx => ⟨x.2, rfl, hx⟩) (fun w21 hf => ?_))
                  obtain ⟨S_21, v7_21, v8_21⟩ := w21
                  dsimp only at hf ⊢
                  refine E_aload_n dX12_fits_150 rfl ?_
                  refine E_getf (v := .ref 5) dX12_fits_151 fl_X12_fits_34 rfl rfl ?_
                  refine E_iload dX12_fits_154 rfl ?_
                  refine E_iload dX12_fits_156 rfl ?_
                  obtain ⟨hi_22, hf⟩ := pO_gd hf
                  refine E_iast (n0 := 16) (f := S_21.2 4) (h' := hM (pAr S_21 4 (upd (S_21.2 4) r9.toNatClampNeg ((S_9.2 4) r9.toNatClampNeg)))) dX12_fits_158 rfl (pin_in hi_22) (sM_A4 S_21 (upd (S_21.2 4) r9.toNatClampNeg ((S_9.2 4) r9.toNatClampNeg))) ?_
                  refine E_iload dX12_fits_159 rfl ?_
                  refine E_if_ne (tgt := 169) dX12_fits_161 (by decide) (fun c_23 => ?_) (fun c_23 => ?_)
                  · have hf := pO_neg c_23 hf
                    refine E_iload dX12_fits_169 rfl ?_
                    exact E_iret rfl dX12_fits_171 ⟨_, rfl, hf⟩
                  · have hf := pO_pos c_23 hf
                    refine E_iload dX12_fits_164 rfl ?_
                    refine E_goto (tgt := 171) dX12_fits_166 (by decide) ?_
                    exact E_iret rfl dX12_fits_171 ⟨_, rfl, hf⟩
                · have hf := pO_neg c_15 hf
                  refine E_bipush (v := (-5)) dX12_fits_86 (by decide) ?_
                  exact E_iret rfl dX12_fits_88 ⟨_, rfl, hf⟩
              · have hf := pO_neg c_14 hf
                refine E_bipush (v := (-13)) dX12_fits_73 (by decide) ?_
                exact E_iret rfl dX12_fits_75 ⟨_, rfl, hf⟩
            · have hf := pO_neg c_12 hf
              refine E_bipush (v := (-11)) dX12_fits_60 (by decide) ?_
              exact E_iret rfl dX12_fits_62 ⟨_, rfl, hf⟩
          · have hf := pO_neg c_10 hf
            refine E_bipush (v := (-2)) dX12_fits_48 (by decide) ?_
            exact E_iret rfl dX12_fits_50 ⟨_, rfl, hf⟩
        · have hf := pO_pos c_8 hf
          refine E_iconst (v := (-1)) dX12_fits_34 (by decide) ?_
          exact E_iret rfl dX12_fits_35 ⟨_, rfl, hf⟩
theorem hi_X12_layReport_12 : ∀ w ∈ u_ws RX12 TX12 32, w ∈ wsX12_layReport := fun w h => of_decide_eq_true (List.all_eq_true.mp (by decide +kernel : (u_ws RX12 TX12 32).all (fun w => decide (w ∈ wsX12_layReport)) = true) w h)
theorem fl_X12_layReport_234 : pFL wsX12_layReport RX12 234 12 20 := ⟨RX12, TX12, 32, hi_X12_layReport_12, rfl, by decide, by decide +kernel⟩
theorem ft_12_20 : pFT 12 20 .int := ⟨RX12, TX12, 32, tyX12, rfl, by decide, tyX12_ok, nmX12, rfl, by decide +kernel⟩
theorem fl_X12_layReport_98 : pFL wsX12_layReport RX12 98 12 6 := ⟨RX12, TX12, 32, hi_X12_layReport_12, rfl, by decide, by decide +kernel⟩
theorem fl_X12_layReport_28 : pFL wsX12_layReport RX12 28 12 7 := ⟨RX12, TX12, 32, hi_X12_layReport_12, rfl, by decide, by decide +kernel⟩
theorem hi_X12_says_12 : ∀ w ∈ u_ws RX12 TX12 32, w ∈ wsX12_says := fun w h => of_decide_eq_true (List.all_eq_true.mp (by decide +kernel : (u_ws RX12 TX12 32).all (fun w => decide (w ∈ wsX12_says)) = true) w h)
theorem fl_X12_says_64 : pFL wsX12_says RX12 64 12 19 := ⟨RX12, TX12, 32, hi_X12_says_12, rfl, by decide, by decide +kernel⟩
theorem fl_X12_says_234 : pFL wsX12_says RX12 234 12 20 := ⟨RX12, TX12, 32, hi_X12_says_12, rfl, by decide, by decide +kernel⟩
theorem mf_X12_says : pMF yX12_says wsX12_says cX12_says 2 none 1 := ⟨⟨_, rfl⟩, by decide +kernel, by decide, by decide +kernel, by decide +kernel, by decide +kernel⟩
def f_X12_says (S : PS) (v1 : Int32) : Option (Int32 × PS) :=
  pgd (pin (S.1 14) 320) (some (0, (pI (pAr S 34 (upd (S.2 34) (S.1 14).toNatClampNeg (vp_nar .byte v1.toInt8.toInt32))) 14 ((S.1 14) + 1))))
set_option maxRecDepth 100000 in
theorem c_X12_says (l : Launch) (D : va_G) (dA : Nat → ClassId) (ad : Nat → Nat) (S : PS) (v1 : Int32) {P : (Int32 × PS) → Prop} (hf : pO (f_X12_says S v1) P) : CtV l D dA ad yX12_says wsX12_says 0 [.ref 0, .int v1] (hM S) (fun h' => ∃ (r0 : Int32) (S' : PS), h' = hM S' ∧ P (r0, S')) := by
  refine CtV_of mf_X12_says rfl rfl (Nat.le_of_ble_eq_true rfl) rfl (hM_len S) ?_
  unfold f_X12_says at hf
  refine E_aload_n dX12_says_0 rfl ?_
  refine E_getf (v := .ref 15) dX12_says_1 fl_X12_says_64 rfl rfl ?_
  refine E_aload_n dX12_says_4 rfl ?_
  refine E_getf (v := .int (S.1 14)) dX12_says_5 fl_X12_says_234 rfl rfl ?_
  refine E_iload_n dX12_says_8 rfl ?_
  refine E_i2b dX12_says_9 ?_
  obtain ⟨hi_1, hf⟩ := pO_gd hf
  refine E_bast (n0 := 320) (f := S.2 34) (h' := hM (pAr S 34 (upd (S.2 34) (S.1 14).toNatClampNeg (vp_nar .byte v1.toInt8.toInt32)))) dX12_says_10 rfl (pin_in hi_1) (sM_A34 S (upd (S.2 34) (S.1 14).toNatClampNeg (vp_nar .byte v1.toInt8.toInt32))) ?_
  refine E_aload_n dX12_says_11 rfl ?_
  refine E_dup dX12_says_12 rfl ?_
  refine E_getf (v := .int (S.1 14)) dX12_says_13 fl_X12_says_234 rfl rfl ?_
  refine E_iconst (v := 1) dX12_says_16 (by decide) ?_
  refine E_iadd dX12_says_17 ?_
  refine E_putf (h' := hM (pI (pAr S 34 (upd (S.2 34) (S.1 14).toNatClampNeg (vp_nar .byte v1.toInt8.toInt32))) 14 ((S.1 14) + 1))) dX12_says_18 fl_X12_says_234 ft_12_20 rfl (Nat.lt_of_lt_of_eq (by decide : 20 < 32) rfl) rfl rfl ⟨_, rfl⟩ (sM_I14 (pAr S 34 (upd (S.2 34) (S.1 14).toNatClampNeg (vp_nar .byte v1.toInt8.toInt32))) ((S.1 14) + 1)) ?_
  exact E_vret rfl dX12_says_21 ⟨0, _, rfl, hf⟩
theorem mf_X12_saysName : pMF yX12_saysName wsX12_saysName cX12_saysName 2 none 1 := ⟨⟨_, rfl⟩, by decide +kernel, by decide, by decide +kernel, by decide +kernel, by decide +kernel⟩
def f_X12_saysName : Nat → PS → Int32 → Option (Int32 × PS)
  | 0, _, _ => none
  | fuel + 1, S, v1 =>
    if v1 < (27 : Int32) then (pbnd (f_X12_says S ((97 + (v1 - v1 / 27 * 27)) - 1)) (fun _ S_2 => some (0, S_2))) else (pbnd (f_X12_saysName fuel S (v1 / 27)) (fun _ S_3 => pbnd (f_X12_says S_3 ((97 + (v1 - v1 / 27 * 27)) - 1)) (fun _ S_4 => some (0, S_4))))
set_option maxRecDepth 100000 in
theorem c_X12_saysName (l : Launch) (D : va_G) (dA : Nat → ClassId) (ad : Nat → Nat) : ∀ (fuel : Nat) (S : PS) (v1 : Int32) {P : (Int32 × PS) → Prop} (hf : pO (f_X12_saysName fuel S v1) P), CtV l D dA ad yX12_saysName wsX12_saysName (1 + fuel) [.ref 0, .int v1] (hM S) (fun h' => ∃ (r0 : Int32) (S' : PS), h' = hM S' ∧ P (r0, S')) := by
  intro fuel
  induction fuel with
  | zero =>
    intro S v1 P hf
    exact hf.elim
  | succ fuel ih =>
    intro S v1 P hf
    rw [f_X12_saysName] at hf
    refine CtV_of mf_X12_saysName rfl rfl (Nat.le_of_ble_eq_true rfl) rfl (hM_len S) ?_
    refine E_iload_n dX12_saysName_0 rfl ?_
    refine E_bipush (v := 27) dX12_saysName_1 (by decide) ?_
    refine E_icmp_lt (tgt := 14) dX12_saysName_3 (by decide) (fun c_1 => ?_) (fun c_1 => ?_)
    · have hf := pO_pos c_1 hf
      refine E_aload_n dX12_saysName_14 rfl ?_
      refine E_bipush (v := 97) dX12_saysName_15 (by decide) ?_
      refine E_iload_n dX12_saysName_17 rfl ?_
      refine E_bipush (v := 27) dX12_saysName_18 (by decide) ?_
      refine E_irem dX12_saysName_20 (by decide) ?_
      refine E_iadd dX12_saysName_21 ?_
      refine E_iconst (v := 1) dX12_saysName_22 (by decide) ?_
      refine E_isub dX12_saysName_23 ?_
      refine E_callVV (st := []) (c_X12_says l D dA ad S ((97 + (v1 - v1 / 27 * 27)) - 1) (pO_bnd hf)) mf_X12_says rfl rfl gX12_saysName_X12_says (pRc.of (ci := 12) rfl rfl) (by omega) rfl (Nat.le_of_ble_eq_true rfl) (by rfl) dX12_saysName_24 (fun h2 q2 => ?_)
      obtain ⟨r2, S_2, rfl, hf⟩ := q2
      dsimp only at hf
      exact E_vret rfl dX12_saysName_27 ⟨0, _, rfl, hf⟩
    · have hf := pO_neg c_1 hf
      refine E_aload_n dX12_saysName_6 rfl ?_
      refine E_iload_n dX12_saysName_7 rfl ?_
      refine E_bipush (v := 27) dX12_saysName_8 (by decide) ?_
      refine E_idiv dX12_saysName_10 (by decide) ?_
      refine E_callVV (st := []) (ih S (v1 / 27) (pO_bnd hf)) mf_X12_saysName rfl rfl gX12_saysName_X12_saysName (pRc.of (ci := 12) rfl rfl) (by omega) rfl (Nat.le_of_ble_eq_true rfl) (by rfl) dX12_saysName_11 (fun h3 q3 => ?_)
      obtain ⟨r3, S_3, rfl, hf⟩ := q3
      dsimp only at hf
      refine E_aload_n dX12_saysName_14 rfl ?_
      refine E_bipush (v := 97) dX12_saysName_15 (by decide) ?_
      refine E_iload_n dX12_saysName_17 rfl ?_
      refine E_bipush (v := 27) dX12_saysName_18 (by decide) ?_
      refine E_irem dX12_saysName_20 (by decide) ?_
      refine E_iadd dX12_saysName_21 ?_
      refine E_iconst (v := 1) dX12_saysName_22 (by decide) ?_
      refine E_isub dX12_saysName_23 ?_
      refine E_callVV (st := []) (c_X12_says l D dA ad S_3 ((97 + (v1 - v1 / 27 * 27)) - 1) (pO_bnd hf)) mf_X12_says rfl rfl gX12_saysName_X12_says (pRc.of (ci := 12) rfl rfl) (by omega) rfl (Nat.le_of_ble_eq_true rfl) (by rfl) dX12_saysName_24 (fun h4 q4 => ?_)
      obtain ⟨r4, S_4, rfl, hf⟩ := q4
      dsimp only at hf
      exact E_vret rfl dX12_saysName_27 ⟨0, _, rfl, hf⟩
theorem fl_X12_layReport_31 : pFL wsX12_layReport RX12 31 12 8 := ⟨RX12, TX12, 32, hi_X12_layReport_12, rfl, by decide, by decide +kernel⟩
theorem fl_X12_layReport_34 : pFL wsX12_layReport RX12 34 12 9 := ⟨RX12, TX12, 32, hi_X12_layReport_12, rfl, by decide, by decide +kernel⟩
theorem mf_X12_saysNumber : pMF yX12_saysNumber wsX12_saysNumber cX12_saysNumber 2 none 1 := ⟨⟨_, rfl⟩, by decide +kernel, by decide, by decide +kernel, by decide +kernel, by decide +kernel⟩
def f_X12_saysNumber : Nat → PS → Int32 → Option (Int32 × PS)
  | 0, _, _ => none
  | fuel + 1, S, v1 =>
    if v1 < (10 : Int32) then (pbnd (f_X12_says S (48 + (v1 - v1 / 10 * 10))) (fun _ S_2 => some (0, S_2))) else (pbnd (f_X12_saysNumber fuel S (v1 / 10)) (fun _ S_3 => pbnd (f_X12_says S_3 (48 + (v1 - v1 / 10 * 10))) (fun _ S_4 => some (0, S_4))))
set_option maxRecDepth 100000 in
theorem c_X12_saysNumber (l : Launch) (D : va_G) (dA : Nat → ClassId) (ad : Nat → Nat) : ∀ (fuel : Nat) (S : PS) (v1 : Int32) {P : (Int32 × PS) → Prop} (hf : pO (f_X12_saysNumber fuel S v1) P), CtV l D dA ad yX12_saysNumber wsX12_saysNumber (1 + fuel) [.ref 0, .int v1] (hM S) (fun h' => ∃ (r0 : Int32) (S' : PS), h' = hM S' ∧ P (r0, S')) := by
  intro fuel
  induction fuel with
  | zero =>
    intro S v1 P hf
    exact hf.elim
  | succ fuel ih =>
    intro S v1 P hf
    rw [f_X12_saysNumber] at hf
    refine CtV_of mf_X12_saysNumber rfl rfl (Nat.le_of_ble_eq_true rfl) rfl (hM_len S) ?_
    refine E_iload_n dX12_saysNumber_0 rfl ?_
    refine E_bipush (v := 10) dX12_saysNumber_1 (by decide) ?_
    refine E_icmp_lt (tgt := 14) dX12_saysNumber_3 (by decide) (fun c_1 => ?_) (fun c_1 => ?_)
    · have hf := pO_pos c_1 hf
      refine E_aload_n dX12_saysNumber_14 rfl ?_
      refine E_bipush (v := 48) dX12_saysNumber_15 (by decide) ?_
      refine E_iload_n dX12_saysNumber_17 rfl ?_
      refine E_bipush (v := 10) dX12_saysNumber_18 (by decide) ?_
      refine E_irem dX12_saysNumber_20 (by decide) ?_
      refine E_iadd dX12_saysNumber_21 ?_
      refine E_callVV (st := []) (c_X12_says l D dA ad S (48 + (v1 - v1 / 10 * 10)) (pO_bnd hf)) mf_X12_says rfl rfl gX12_saysNumber_X12_says (pRc.of (ci := 12) rfl rfl) (by omega) rfl (Nat.le_of_ble_eq_true rfl) (by rfl) dX12_saysNumber_22 (fun h2 q2 => ?_)
      obtain ⟨r2, S_2, rfl, hf⟩ := q2
      dsimp only at hf
      exact E_vret rfl dX12_saysNumber_25 ⟨0, _, rfl, hf⟩
    · have hf := pO_neg c_1 hf
      refine E_aload_n dX12_saysNumber_6 rfl ?_
      refine E_iload_n dX12_saysNumber_7 rfl ?_
      refine E_bipush (v := 10) dX12_saysNumber_8 (by decide) ?_
      refine E_idiv dX12_saysNumber_10 (by decide) ?_
      refine E_callVV (st := []) (ih S (v1 / 10) (pO_bnd hf)) mf_X12_saysNumber rfl rfl gX12_saysNumber_X12_saysNumber (pRc.of (ci := 12) rfl rfl) (by omega) rfl (Nat.le_of_ble_eq_true rfl) (by rfl) dX12_saysNumber_11 (fun h3 q3 => ?_)
      obtain ⟨r3, S_3, rfl, hf⟩ := q3
      dsimp only at hf
      refine E_aload_n dX12_saysNumber_14 rfl ?_
      refine E_bipush (v := 48) dX12_saysNumber_15 (by decide) ?_
      refine E_iload_n dX12_saysNumber_17 rfl ?_
      refine E_bipush (v := 10) dX12_saysNumber_18 (by decide) ?_
      refine E_irem dX12_saysNumber_20 (by decide) ?_
      refine E_iadd dX12_saysNumber_21 ?_
      refine E_callVV (st := []) (c_X12_says l D dA ad S_3 (48 + (v1 - v1 / 10 * 10)) (pO_bnd hf)) mf_X12_says rfl rfl gX12_saysNumber_X12_says (pRc.of (ci := 12) rfl rfl) (by omega) rfl (Nat.le_of_ble_eq_true rfl) (by rfl) dX12_saysNumber_22 (fun h4 q4 => ?_)
      obtain ⟨r4, S_4, rfl, hf⟩ := q4
      dsimp only at hf
      exact E_vret rfl dX12_saysNumber_25 ⟨0, _, rfl, hf⟩
theorem fl_X12_layReport_37 : pFL wsX12_layReport RX12 37 12 10 := ⟨RX12, TX12, 32, hi_X12_layReport_12, rfl, by decide, by decide +kernel⟩
