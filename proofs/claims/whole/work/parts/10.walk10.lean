def g_X12_read_24 : Nat → PS → Int32 → Option ((Int32 × PS) ⊕ (PS))
  | 0, _, _ => none
  | fuel + 1, S, v2 =>
    if (S.1 13) ≤ v2 then (some (.inr (S))) else (pbnd (f_X12_done S v2) (fun r4 S_4 => if (0 : Int32) ≤ r4 then (g_X12_read_24 fuel S_4 (v2 + 1)) else (some (.inl ((-200) - v2, S_4)))))
set_option maxRecDepth 100000 in
theorem l_X12_read_24 (l : Launch) (D : va_G) (dA : Nat → ClassId) (ad : Nat → Nat) (d : Nat) (hd : 9 ≤ d) {Q : Int32 → List PC → Prop} : ∀ (fuel : Nat) (S : PS) (v2 : Int32), pO (g_X12_read_24 fuel S v2) (fun y => match y with
    | .inl x => Q x.1 (hM x.2)
    | .inr w => Ev l D dA ad wsX12_read cX12_read RX12 3 (some .int) d 38 (pKi D dA ad 38 Q) 52 [(0, .ref 0)] [] (hM w)) → Ev l D dA ad wsX12_read cX12_read RX12 3 (some .int) d 38 (pKi D dA ad 38 Q) 24 [(0, .ref 0), (2, .int v2)] [] (hM S) := by
  intro fuel
  induction fuel with
  | zero =>
    intro S v2 hf
    exact hf.elim
  | succ fuel ih =>
    intro S v2 hf
    rw [g_X12_read_24] at hf
    refine E_iload_n dX12_read_24 rfl ?_
    refine E_aload_n dX12_read_25 rfl ?_
    refine E_getf (v := .int (S.1 13)) dX12_read_26 fl_X12_read_286 rfl rfl ?_
    refine E_icmp_ge (tgt := 52) dX12_read_29 (by decide) (fun c_3 => ?_) (fun c_3 => ?_)
    · have hf := pO_pos c_3 hf
      exact E_sub (ls' := [(0, .ref 0)]) ⟨rfl, trivial⟩ hf
    · have hf := pO_neg c_3 hf
      refine E_aload_n dX12_read_32 rfl ?_
      refine E_iload_n dX12_read_33 rfl ?_
      refine E_callVI (st := []) (c_X12_done l D dA ad S v2 (pO_bnd hf)) mf_X12_done rfl rfl gX12_read_X12_done (pRc.of (ci := 12) rfl rfl) (by omega) rfl (Nat.le_of_ble_eq_true rfl) (by rfl) dX12_read_34 (fun r4 h4 q4 => ?_)
      obtain ⟨S_4, rfl, hf⟩ := q4
      dsimp only at hf
      refine E_if_ge (tgt := 46) dX12_read_37 (by decide) (fun c_5 => ?_) (fun c_5 => ?_)
      · have hf := pO_pos c_5 hf
        refine E_iinc (v := v2 + 1) (ls' := [(0, .ref 0), (2, .int (v2 + 1))]) dX12_read_46 rfl rfl (by decide) rfl ?_
        refine E_goto (tgt := 24) dX12_read_49 (by decide) ?_
        exact E_sub (ls' := [(0, .ref 0), (2, .int (v2 + 1))]) ⟨rfl, rfl, trivial⟩ (ih S_4 (v2 + 1) hf)
      · have hf := pO_neg c_5 hf
        refine E_sipush (v := (-200)) dX12_read_40 (by decide) ?_
        refine E_iload_n dX12_read_43 rfl ?_
        refine E_isub dX12_read_44 ?_
        exact E_iret rfl dX12_read_45 hf
theorem fl_X12_read_260 : pFL wsX12_read RX12 260 12 23 := ⟨RX12, TX12, 32, hi_X12_read_12, rfl, by decide, by decide +kernel⟩
theorem mf_X12_read : pMF yX12_read wsX12_read cX12_read 3 (some .int) 0 := ⟨⟨_, rfl⟩, by decide +kernel, by decide, by decide +kernel, by decide +kernel, by decide +kernel⟩
def f_X12_read (S : PS) : Option (Int32 × PS) :=
  pbnd (f_X12_takesAll S) (fun r1 S_1 => if r1 = (0 : Int32) then (some ((-100) - (S_1.1 12), (pI S_1 11 0))) else (plp (g_X12_read_24 pfuel (pI S_1 11 0) 0) (fun (S_6 : PS) => some (S_6.1 13, S_6))))
set_option maxRecDepth 100000 in
theorem c_X12_read (l : Launch) (D : va_G) (dA : Nat → ClassId) (ad : Nat → Nat) (S : PS) {P : (Int32 × PS) → Prop} (hf : pO (f_X12_read S) P) : CtI l D dA ad yX12_read wsX12_read 9 [.ref 0] (hM S) (fun r h' => ∃ S' : PS, h' = hM S' ∧ P (r, S')) := by
  refine CtI_of mf_X12_read rfl rfl (Nat.le_of_ble_eq_true rfl) rfl (hM_len S) ?_
  unfold f_X12_read at hf
  refine E_aload_n dX12_read_0 rfl ?_
  refine E_callVI (st := []) (c_X12_takesAll l D dA ad S (pO_bnd hf)) mf_X12_takesAll rfl rfl gX12_read_X12_takesAll (pRc.of (ci := 12) rfl rfl) (by omega) rfl (Nat.le_of_ble_eq_true rfl) (by rfl) dX12_read_1 (fun r1 h1 q1 => ?_)
  obtain ⟨S_1, rfl, hf⟩ := q1
  dsimp only at hf
  refine E_istore_n (ls' := [(0, .ref 0), (1, .int r1)]) dX12_read_4 (by decide) rfl ?_
  refine E_aload_n dX12_read_5 rfl ?_
  refine E_iconst (v := 0) dX12_read_6 (by decide) ?_
  refine E_putf (h' := hM (pI S_1 11 0)) dX12_read_7 fl_X12_read_257 ft_12_22 rfl (Nat.lt_of_lt_of_eq (by decide : 22 < 32) rfl) rfl rfl ⟨_, rfl⟩ (sM_I11 S_1 0) ?_
  refine E_iload_n dX12_read_10 rfl ?_
  refine E_if_ne (tgt := 22) dX12_read_11 (by decide) (fun c_2 => ?_) (fun c_2 => ?_)
  · have hf := pO_neg c_2 hf
    refine E_iconst (v := 0) dX12_read_22 (by decide) ?_
    refine E_istore_n (ls' := [(0, .ref 0), (1, .int r1), (2, .int 0)]) dX12_read_23 (by decide) rfl ?_
    refine E_sub (ls' := [(0, .ref 0), (2, .int 0)]) ⟨rfl, rfl, trivial⟩ ?_
    refine l_X12_read_24 l D dA ad _ (by omega) pfuel (pI S_1 11 0) 0 (pO_lp hf (fun x hx => ⟨x.2, rfl, hx⟩) (fun w6 hf => ?_))
    obtain ⟨S_6, rfl⟩ : ∃ z, z = w6 := ⟨_, rfl⟩
    dsimp only at hf ⊢
    refine E_aload_n dX12_read_52 rfl ?_
    refine E_getf (v := .int (S_6.1 13)) dX12_read_53 fl_X12_read_286 rfl rfl ?_
    exact E_iret rfl dX12_read_56 ⟨_, rfl, hf⟩
  · have hf := pO_pos c_2 hf
    refine E_bipush (v := (-100)) dX12_read_14 (by decide) ?_
    refine E_aload_n dX12_read_16 rfl ?_
    refine E_getf (v := .int (S_1.1 12)) dX12_read_17 fl_X12_read_260 rfl rfl ?_
    refine E_isub dX12_read_20 ?_
    exact E_iret rfl dX12_read_21 ⟨_, rfl, hf⟩
theorem hi_X12_row_12 : ∀ w ∈ u_ws RX12 TX12 32, w ∈ wsX12_row := fun w h => of_decide_eq_true (List.all_eq_true.mp (by decide +kernel : (u_ws RX12 TX12 32).all (fun w => decide (w ∈ wsX12_row)) = true) w h)
theorem fl_X12_row_77 : pFL wsX12_row RX12 77 12 27 := ⟨RX12, TX12, 32, hi_X12_row_12, rfl, by decide, by decide +kernel⟩
theorem fl_X12_row_82 : pFL wsX12_row RX12 82 12 28 := ⟨RX12, TX12, 32, hi_X12_row_12, rfl, by decide, by decide +kernel⟩
def g_X12_row_32 : Nat → PS → Int32 → Int32 → Option ((Int32 × PS) ⊕ (PS))
  | 0, _, _, _ => none
  | fuel + 1, S, v1, v3 =>
    if (40 : Int32) ≤ v3 then (some (.inr (S))) else (pgd (pin v1 3) (pgd (pin v3 40) (g_X12_row_32 fuel (pAr S (25 + v1.toNatClampNeg) (upd (S.2 (25 + v1.toNatClampNeg)) v3.toNatClampNeg 0)) v1 (v3 + 1))))
set_option maxRecDepth 100000 in
theorem l_X12_row_32 (l : Launch) (D : va_G) (dA : Nat → ClassId) (ad : Nat → Nat) (d : Nat) (hd : 2 ≤ d) {Q : Int32 → List PC → Prop} : ∀ (fuel : Nat) (S : PS) (v1 : Int32) (v3 : Int32), pO (g_X12_row_32 fuel S v1 v3) (fun y => match y with
    | .inl x => Q x.1 (hM x.2)
    | .inr w => Ev l D dA ad wsX12_row cX12_row RX12 4 (some .int) d 38 (pKi D dA ad 38 Q) 53 [] [] (hM w)) → Ev l D dA ad wsX12_row cX12_row RX12 4 (some .int) d 38 (pKi D dA ad 38 Q) 32 [(0, .ref 0), (1, .int v1), (3, .int v3)] [] (hM S) := by
  intro fuel
  induction fuel with
  | zero =>
    intro S v1 v3 hf
    exact hf.elim
  | succ fuel ih =>
    intro S v1 v3 hf
    rw [g_X12_row_32] at hf
    refine E_iload_n dX12_row_32 rfl ?_
    refine E_bipush (v := 40) dX12_row_33 (by decide) ?_
    refine E_icmp_ge (tgt := 53) dX12_row_35 (by decide) (fun c_6 => ?_) (fun c_6 => ?_)
    · have hf := pO_pos c_6 hf
      exact E_sub (ls' := []) trivial hf
    · have hf := pO_neg c_6 hf
      refine E_aload_n dX12_row_38 rfl ?_
      refine E_getf (v := .ref 20) dX12_row_39 fl_X12_row_82 rfl rfl ?_
      refine E_iload_n dX12_row_42 rfl ?_
      obtain ⟨hr_7, hf⟩ := pO_gd hf
      refine E_aald (k0 := 21 + v1.toNatClampNeg) dX12_row_43 rfl (pin_in hr_7) (if_pos (pin_lt hr_7)) ?_
      refine E_iload_n dX12_row_44 rfl ?_
      refine E_iconst (v := 0) dX12_row_45 (by decide) ?_
      obtain ⟨hi_8, hf⟩ := pO_gd hf
      refine E_iast (n0 := 40) (f := S.2 (25 + v1.toNatClampNeg)) (h' := hM (pAr S (25 + v1.toNatClampNeg) (upd (S.2 (25 + v1.toNatClampNeg)) v3.toNatClampNeg 0))) dX12_row_46 (gM_R21 S (pin_lt hr_7)) (pin_in hi_8) (sM_R21 S (pin_lt hr_7) (upd (S.2 (25 + v1.toNatClampNeg)) v3.toNatClampNeg 0)) ?_
      refine E_iinc (v := v3 + 1) (ls' := [(0, .ref 0), (1, .int v1), (3, .int (v3 + 1))]) dX12_row_47 rfl rfl (by decide) rfl ?_
      refine E_goto (tgt := 32) dX12_row_50 (by decide) ?_
      exact E_sub (ls' := [(0, .ref 0), (1, .int v1), (3, .int (v3 + 1))]) ⟨rfl, rfl, rfl, trivial⟩ (ih (pAr S (25 + v1.toNatClampNeg) (upd (S.2 (25 + v1.toNatClampNeg)) v3.toNatClampNeg 0)) v1 (v3 + 1) hf)
theorem mf_X12_row : pMF yX12_row wsX12_row cX12_row 4 (some .int) 2 := ⟨⟨_, rfl⟩, by decide +kernel, by decide, by decide +kernel, by decide +kernel, by decide +kernel⟩
def f_X12_row (S : PS) (v1 : Int32) (v2 : Int32) : Option (Int32 × PS) :=
  pbnd (f_X12_isRow S v1) (fun r1 S_1 => if r1 = (0 : Int32) then (some ((-1), S_1)) else (if v2 ≤ (40 : Int32) then (if ((-1) : Int32) ≤ v2 then (pgd (pin v1 3) (plp (g_X12_row_32 pfuel (pAr S_1 24 (upd (S_1.2 24) v1.toNatClampNeg v2)) v1 0) (fun (S_9 : PS) => some (1, S_9)))) else (some ((-14), S_1))) else (some ((-1), S_1))))
set_option maxRecDepth 100000 in
theorem c_X12_row (l : Launch) (D : va_G) (dA : Nat → ClassId) (ad : Nat → Nat) (S : PS) (v1 : Int32) (v2 : Int32) {P : (Int32 × PS) → Prop} (hf : pO (f_X12_row S v1 v2) P) : CtI l D dA ad yX12_row wsX12_row 2 [.ref 0, .int v1, .int v2] (hM S) (fun r h' => ∃ S' : PS, h' = hM S' ∧ P (r, S')) := by
  refine CtI_of mf_X12_row rfl rfl (Nat.le_of_ble_eq_true rfl) rfl (hM_len S) ?_
  unfold f_X12_row at hf
  refine E_iload_n dX12_row_0 rfl ?_
  refine E_callSI (st := []) (c_X12_isRow l D dA ad S v1 (pO_bnd hf)) mf_X12_isRow rfl gX12_row_X12_isRow (by omega) rfl (Nat.le_of_ble_eq_true rfl) (by rfl) dX12_row_1 (fun r1 h1 q1 => ?_)
  obtain ⟨S_1, rfl, hf⟩ := q1
  dsimp only at hf
  refine E_if_eq (tgt := 13) dX12_row_4 (by decide) (fun c_2 => ?_) (fun c_2 => ?_)
  · have hf := pO_pos c_2 hf
    refine E_iconst (v := (-1)) dX12_row_13 (by decide) ?_
    exact E_iret rfl dX12_row_14 ⟨_, rfl, hf⟩
  · have hf := pO_neg c_2 hf
    refine E_iload_n dX12_row_7 rfl ?_
    refine E_bipush (v := 40) dX12_row_8 (by decide) ?_
    refine E_icmp_le (tgt := 15) dX12_row_10 (by decide) (fun c_3 => ?_) (fun c_3 => ?_)
    · have hf := pO_pos c_3 hf
      refine E_iload_n dX12_row_15 rfl ?_
      refine E_iconst (v := (-1)) dX12_row_16 (by decide) ?_
      refine E_icmp_ge (tgt := 23) dX12_row_17 (by decide) (fun c_4 => ?_) (fun c_4 => ?_)
      · have hf := pO_pos c_4 hf
        refine E_aload_n dX12_row_23 rfl ?_
        refine E_getf (v := .ref 19) dX12_row_24 fl_X12_row_77 rfl rfl ?_
        refine E_iload_n dX12_row_27 rfl ?_
        refine E_iload_n dX12_row_28 rfl ?_
        obtain ⟨hi_5, hf⟩ := pO_gd hf
        refine E_iast (n0 := 3) (f := S_1.2 24) (h' := hM (pAr S_1 24 (upd (S_1.2 24) v1.toNatClampNeg v2))) dX12_row_29 rfl (pin_in hi_5) (sM_A24 S_1 (upd (S_1.2 24) v1.toNatClampNeg v2)) ?_
        refine E_iconst (v := 0) dX12_row_30 (by decide) ?_
        refine E_istore_n (ls' := [(0, .ref 0), (1, .int v1), (2, .int v2), (3, .int 0)]) dX12_row_31 (by decide) rfl ?_
        refine E_sub (ls' := [(0, .ref 0), (1, .int v1), (3, .int 0)]) ⟨rfl, rfl, rfl, trivial⟩ ?_
        refine l_X12_row_32 l D dA ad _ (by omega) pfuel (pAr S_1 24 (upd (S_1.2 24) v1.toNatClampNeg v2)) v1 0 (pO_lp hf (fun x hx => ⟨x.2, rfl, hx⟩) (fun w9 hf => ?_))
        obtain ⟨S_9, rfl⟩ : ∃ z, z = w9 := ⟨_, rfl⟩
        dsimp only at hf ⊢
        refine E_iconst (v := 1) dX12_row_53 (by decide) ?_
        exact E_iret rfl dX12_row_54 ⟨_, rfl, hf⟩
      · have hf := pO_neg c_4 hf
        refine E_bipush (v := (-14)) dX12_row_20 (by decide) ?_
        exact E_iret rfl dX12_row_22 ⟨_, rfl, hf⟩
    · have hf := pO_neg c_3 hf
      refine E_iconst (v := (-1)) dX12_row_13 (by decide) ?_
      exact E_iret rfl dX12_row_14 ⟨_, rfl, hf⟩
theorem hi_X12_store_12 : ∀ w ∈ u_ws RX12 TX12 32, w ∈ wsX12_store := fun w h => of_decide_eq_true (List.all_eq_true.mp (by decide +kernel : (u_ws RX12 TX12 32).all (fun w => decide (w ∈ wsX12_store)) = true) w h)
theorem fl_X12_store_77 : pFL wsX12_store RX12 77 12 27 := ⟨RX12, TX12, 32, hi_X12_store_12, rfl, by decide, by decide +kernel⟩
theorem fl_X12_store_82 : pFL wsX12_store RX12 82 12 28 := ⟨RX12, TX12, 32, hi_X12_store_12, rfl, by decide, by decide +kernel⟩
theorem mf_X12_store : pMF yX12_store wsX12_store cX12_store 4 (some .int) 3 := ⟨⟨_, rfl⟩, by decide +kernel, by decide, by decide +kernel, by decide +kernel, by decide +kernel⟩
def f_X12_store (S : PS) (v1 : Int32) (v2 : Int32) (v3 : Int32) : Option (Int32 × PS) :=
  pbnd (f_X12_isRow S v1) (fun r1 S_1 => if r1 = (0 : Int32) then (some ((-1), S_1)) else (pgd (pin v1 3) (if (0 : Int32) ≤ ((S_1.2 24) v1.toNatClampNeg) then (pgd (pin v1 3) (pbnd (f_X12_in S_1 v2 0 (((S_1.2 24) v1.toNatClampNeg) - 1)) (fun r6 S_6 => if r6 = (0 : Int32) then (some ((-13), S_6)) else (pgd (pin v1 3) (pgd (pin v2 40) (some (1, (pAr S_6 (25 + v1.toNatClampNeg) (upd (S_6.2 (25 + v1.toNatClampNeg)) v2.toNatClampNeg v3))))))))) else (some ((-11), S_1)))))
set_option maxRecDepth 100000 in
theorem c_X12_store (l : Launch) (D : va_G) (dA : Nat → ClassId) (ad : Nat → Nat) (S : PS) (v1 : Int32) (v2 : Int32) (v3 : Int32) {P : (Int32 × PS) → Prop} (hf : pO (f_X12_store S v1 v2 v3) P) : CtI l D dA ad yX12_store wsX12_store 2 [.ref 0, .int v1, .int v2, .int v3] (hM S) (fun r h' => ∃ S' : PS, h' = hM S' ∧ P (r, S')) := by
  refine CtI_of mf_X12_store rfl rfl (Nat.le_of_ble_eq_true rfl) rfl (hM_len S) ?_
  unfold f_X12_store at hf
  refine E_iload_n dX12_store_0 rfl ?_
  refine E_callSI (st := []) (c_X12_isRow l D dA ad S v1 (pO_bnd hf)) mf_X12_isRow rfl gX12_store_X12_isRow (by omega) rfl (Nat.le_of_ble_eq_true rfl) (by rfl) dX12_store_1 (fun r1 h1 q1 => ?_)
  obtain ⟨S_1, rfl, hf⟩ := q1
  dsimp only at hf
  refine E_if_ne (tgt := 9) dX12_store_4 (by decide) (fun c_2 => ?_) (fun c_2 => ?_)
  · have hf := pO_neg c_2 hf
    refine E_aload_n dX12_store_9 rfl ?_
    refine E_getf (v := .ref 19) dX12_store_10 fl_X12_store_77 rfl rfl ?_
    refine E_iload_n dX12_store_13 rfl ?_
    obtain ⟨hi_3, hf⟩ := pO_gd hf
    refine E_iald (n0 := 3) (f := S_1.2 24) dX12_store_14 rfl (pin_in hi_3) ?_
    refine E_if_ge (tgt := 21) dX12_store_15 (by decide) (fun c_4 => ?_) (fun c_4 => ?_)
    · have hf := pO_pos c_4 hf
      refine E_iload_n dX12_store_21 rfl ?_
      refine E_iconst (v := 0) dX12_store_22 (by decide) ?_
      refine E_aload_n dX12_store_23 rfl ?_
      refine E_getf (v := .ref 19) dX12_store_24 fl_X12_store_77 rfl rfl ?_
      refine E_iload_n dX12_store_27 rfl ?_
      obtain ⟨hi_5, hf⟩ := pO_gd hf
      refine E_iald (n0 := 3) (f := S_1.2 24) dX12_store_28 rfl (pin_in hi_5) ?_
      refine E_iconst (v := 1) dX12_store_29 (by decide) ?_
      refine E_isub dX12_store_30 ?_
      refine E_callSI (st := []) (c_X12_in l D dA ad S_1 v2 0 (((S_1.2 24) v1.toNatClampNeg) - 1) (pO_bnd hf)) mf_X12_in rfl gX12_store_X12_in (by omega) rfl (Nat.le_of_ble_eq_true rfl) (by rfl) dX12_store_31 (fun r6 h6 q6 => ?_)
      obtain ⟨S_6, rfl, hf⟩ := q6
      dsimp only at hf
      refine E_if_ne (tgt := 40) dX12_store_34 (by decide) (fun c_7 => ?_) (fun c_7 => ?_)
      · have hf := pO_neg c_7 hf
        refine E_aload_n dX12_store_40 rfl ?_
        refine E_getf (v := .ref 20) dX12_store_41 fl_X12_store_82 rfl rfl ?_
        refine E_iload_n dX12_store_44 rfl ?_
        obtain ⟨hr_8, hf⟩ := pO_gd hf
        refine E_aald (k0 := 21 + v1.toNatClampNeg) dX12_store_45 rfl (pin_in hr_8) (if_pos (pin_lt hr_8)) ?_
        refine E_iload_n dX12_store_46 rfl ?_
        refine E_iload_n dX12_store_47 rfl ?_
        obtain ⟨hi_9, hf⟩ := pO_gd hf
        refine E_iast (n0 := 40) (f := S_6.2 (25 + v1.toNatClampNeg)) (h' := hM (pAr S_6 (25 + v1.toNatClampNeg) (upd (S_6.2 (25 + v1.toNatClampNeg)) v2.toNatClampNeg v3))) dX12_store_48 (gM_R21 S_6 (pin_lt hr_8)) (pin_in hi_9) (sM_R21 S_6 (pin_lt hr_8) (upd (S_6.2 (25 + v1.toNatClampNeg)) v2.toNatClampNeg v3)) ?_
        refine E_iconst (v := 1) dX12_store_49 (by decide) ?_
        exact E_iret rfl dX12_store_50 ⟨_, rfl, hf⟩
      · have hf := pO_pos c_7 hf
        refine E_bipush (v := (-13)) dX12_store_37 (by decide) ?_
        exact E_iret rfl dX12_store_39 ⟨_, rfl, hf⟩
    · have hf := pO_neg c_4 hf
      refine E_bipush (v := (-11)) dX12_store_18 (by decide) ?_
      exact E_iret rfl dX12_store_20 ⟨_, rfl, hf⟩
  · have hf := pO_pos c_2 hf
    refine E_iconst (v := (-1)) dX12_store_7 (by decide) ?_
    exact E_iret rfl dX12_store_8 ⟨_, rfl, hf⟩
theorem hi_X12_get_12 : ∀ w ∈ u_ws RX12 TX12 32, w ∈ wsX12_get := fun w h => of_decide_eq_true (List.all_eq_true.mp (by decide +kernel : (u_ws RX12 TX12 32).all (fun w => decide (w ∈ wsX12_get)) = true) w h)
theorem fl_X12_get_77 : pFL wsX12_get RX12 77 12 27 := ⟨RX12, TX12, 32, hi_X12_get_12, rfl, by decide, by decide +kernel⟩
theorem fl_X12_get_82 : pFL wsX12_get RX12 82 12 28 := ⟨RX12, TX12, 32, hi_X12_get_12, rfl, by decide, by decide +kernel⟩
theorem mf_X12_get : pMF yX12_get wsX12_get cX12_get 3 (some .int) 2 := ⟨⟨_, rfl⟩, by decide +kernel, by decide, by decide +kernel, by decide +kernel, by decide +kernel⟩
def f_X12_get (S : PS) (v1 : Int32) (v2 : Int32) : Option (Int32 × PS) :=
  pbnd (f_X12_isRow S v1) (fun r1 S_1 => if r1 = (0 : Int32) then (some ((-2147483648), S_1)) else (pgd (pin v1 3) (if ((S_1.2 24) v1.toNatClampNeg) < (0 : Int32) then (some ((-2147483648), S_1)) else (pgd (pin v1 3) (pbnd (f_X12_in S_1 v2 0 (((S_1.2 24) v1.toNatClampNeg) - 1)) (fun r6 S_6 => if r6 = (0 : Int32) then (some ((-2147483648), S_6)) else (pgd (pin v1 3) (pgd (pin v2 40) (some ((S_6.2 (25 + v1.toNatClampNeg)) v2.toNatClampNeg, S_6))))))))))
set_option maxRecDepth 100000 in
theorem c_X12_get (l : Launch) (D : va_G) (dA : Nat → ClassId) (ad : Nat → Nat) (S : PS) (v1 : Int32) (v2 : Int32) {P : (Int32 × PS) → Prop} (hf : pO (f_X12_get S v1 v2) P) : CtI l D dA ad yX12_get wsX12_get 2 [.ref 0, .int v1, .int v2] (hM S) (fun r h' => ∃ S' : PS, h' = hM S' ∧ P (r, S')) := by
  refine CtI_of mf_X12_get rfl rfl (Nat.le_of_ble_eq_true rfl) rfl (hM_len S) ?_
  unfold f_X12_get at hf
  refine E_iload_n dX12_get_0 rfl ?_
  refine E_callSI (st := []) (c_X12_isRow l D dA ad S v1 (pO_bnd hf)) mf_X12_isRow rfl gX12_get_X12_isRow (by omega) rfl (Nat.le_of_ble_eq_true rfl) (by rfl) dX12_get_1 (fun r1 h1 q1 => ?_)
  obtain ⟨S_1, rfl, hf⟩ := q1
  dsimp only at hf
  refine E_if_eq (tgt := 43) dX12_get_4 (by decide) (fun c_2 => ?_) (fun c_2 => ?_)
  · have hf := pO_pos c_2 hf
    refine E_ldc (v := (-2147483648)) dX12_get_43 (by decide +kernel) ?_
    exact E_iret rfl dX12_get_45 ⟨_, rfl, hf⟩
  · have hf := pO_neg c_2 hf
    refine E_aload_n dX12_get_7 rfl ?_
    refine E_getf (v := .ref 19) dX12_get_8 fl_X12_get_77 rfl rfl ?_
    refine E_iload_n dX12_get_11 rfl ?_
    obtain ⟨hi_3, hf⟩ := pO_gd hf
    refine E_iald (n0 := 3) (f := S_1.2 24) dX12_get_12 rfl (pin_in hi_3) ?_
    refine E_if_lt (tgt := 43) dX12_get_13 (by decide) (fun c_4 => ?_) (fun c_4 => ?_)
    · have hf := pO_pos c_4 hf
      refine E_ldc (v := (-2147483648)) dX12_get_43 (by decide +kernel) ?_
      exact E_iret rfl dX12_get_45 ⟨_, rfl, hf⟩
    · have hf := pO_neg c_4 hf
      refine E_iload_n dX12_get_16 rfl ?_
      refine E_iconst (v := 0) dX12_get_17 (by decide) ?_
      refine E_aload_n dX12_get_18 rfl ?_
      refine E_getf (v := .ref 19) dX12_get_19 fl_X12_get_77 rfl rfl ?_
      refine E_iload_n dX12_get_22 rfl ?_
      obtain ⟨hi_5, hf⟩ := pO_gd hf
      refine E_iald (n0 := 3) (f := S_1.2 24) dX12_get_23 rfl (pin_in hi_5) ?_
      refine E_iconst (v := 1) dX12_get_24 (by decide) ?_
      refine E_isub dX12_get_25 ?_
      refine E_callSI (st := []) (c_X12_in l D dA ad S_1 v2 0 (((S_1.2 24) v1.toNatClampNeg) - 1) (pO_bnd hf)) mf_X12_in rfl gX12_get_X12_in (by omega) rfl (Nat.le_of_ble_eq_true rfl) (by rfl) dX12_get_26 (fun r6 h6 q6 => ?_)
      obtain ⟨S_6, rfl, hf⟩ := q6
      dsimp only at hf
      refine E_if_eq (tgt := 43) dX12_get_29 (by decide) (fun c_7 => ?_) (fun c_7 => ?_)
      · have hf := pO_pos c_7 hf
        refine E_ldc (v := (-2147483648)) dX12_get_43 (by decide +kernel) ?_
        exact E_iret rfl dX12_get_45 ⟨_, rfl, hf⟩
      · have hf := pO_neg c_7 hf
        refine E_aload_n dX12_get_32 rfl ?_
        refine E_getf (v := .ref 20) dX12_get_33 fl_X12_get_82 rfl rfl ?_
        refine E_iload_n dX12_get_36 rfl ?_
        obtain ⟨hr_8, hf⟩ := pO_gd hf
        refine E_aald (k0 := 21 + v1.toNatClampNeg) dX12_get_37 rfl (pin_in hr_8) (if_pos (pin_lt hr_8)) ?_
        refine E_iload_n dX12_get_38 rfl ?_
        obtain ⟨hi_9, hf⟩ := pO_gd hf
        refine E_iald (n0 := 40) (f := S_6.2 (25 + v1.toNatClampNeg)) dX12_get_39 (gM_R21 S_6 (pin_lt hr_8)) (pin_in hi_9) ?_
        refine E_goto (tgt := 45) dX12_get_40 (by decide) ?_
        exact E_iret rfl dX12_get_45 ⟨_, rfl, hf⟩
theorem hi_X12_film_12 : ∀ w ∈ u_ws RX12 TX12 32, w ∈ wsX12_film := fun w h => of_decide_eq_true (List.all_eq_true.mp (by decide +kernel : (u_ws RX12 TX12 32).all (fun w => decide (w ∈ wsX12_film)) = true) w h)
theorem fl_X12_film_98 : pFL wsX12_film RX12 98 12 6 := ⟨RX12, TX12, 32, hi_X12_film_12, rfl, by decide, by decide +kernel⟩
theorem fl_X12_film_77 : pFL wsX12_film RX12 77 12 27 := ⟨RX12, TX12, 32, hi_X12_film_12, rfl, by decide, by decide +kernel⟩
theorem fl_X12_film_82 : pFL wsX12_film RX12 82 12 28 := ⟨RX12, TX12, 32, hi_X12_film_12, rfl, by decide, by decide +kernel⟩
theorem fl_X12_film_61 : pFL wsX12_film RX12 61 12 18 := ⟨RX12, TX12, 32, hi_X12_film_12, rfl, by decide, by decide +kernel⟩
def g_X12_film_30 : Nat → PS → Int32 → Int32 → Int32 → Option ((Int32 × PS) ⊕ (PS))
  | 0, _, _, _, _ => none
  | fuel + 1, S, v1, v2, v3 =>
    if (40 : Int32) ≤ v3 then (some (.inr (S))) else (pgd (pin v1 3) (if v2 ≤ v3 then (pgd (pin v3 40) (g_X12_film_30 fuel (pAr S (25 + v1.toNatClampNeg) (upd (S.2 (25 + v1.toNatClampNeg)) v3.toNatClampNeg 0)) v1 v2 (v3 + 1))) else (pgd (pin v3 17) (pgd (pin v3 40) (g_X12_film_30 fuel (pAr S (25 + v1.toNatClampNeg) (upd (S.2 (25 + v1.toNatClampNeg)) v3.toNatClampNeg ((S.2 31) v3.toNatClampNeg))) v1 v2 (v3 + 1))))))
set_option maxRecDepth 100000 in
theorem l_X12_film_30 (l : Launch) (D : va_G) (dA : Nat → ClassId) (ad : Nat → Nat) (d : Nat) (hd : 5 ≤ d) {Q : Int32 → List PC → Prop} : ∀ (fuel : Nat) (S : PS) (v1 : Int32) (v2 : Int32) (v3 : Int32), pO (g_X12_film_30 fuel S v1 v2 v3) (fun y => match y with
    | .inl x => Q x.1 (hM x.2)
    | .inr w => Ev l D dA ad wsX12_film cX12_film RX12 4 (some .int) d 38 (pKi D dA ad 38 Q) 65 [(2, .int v2)] [] (hM w)) → Ev l D dA ad wsX12_film cX12_film RX12 4 (some .int) d 38 (pKi D dA ad 38 Q) 30 [(0, .ref 0), (1, .int v1), (2, .int v2), (3, .int v3)] [] (hM S) := by
  intro fuel
  induction fuel with
  | zero =>
    intro S v1 v2 v3 hf
    exact hf.elim
  | succ fuel ih =>
    intro S v1 v2 v3 hf
    rw [g_X12_film_30] at hf
    refine E_iload_n dX12_film_30 rfl ?_
    refine E_bipush (v := 40) dX12_film_31 (by decide) ?_
    refine E_icmp_ge (tgt := 65) dX12_film_33 (by decide) (fun c_5 => ?_) (fun c_5 => ?_)
    · have hf := pO_pos c_5 hf
      exact E_sub (ls' := [(2, .int v2)]) ⟨rfl, trivial⟩ hf
    · have hf := pO_neg c_5 hf
      refine E_aload_n dX12_film_36 rfl ?_
      refine E_getf (v := .ref 20) dX12_film_37 fl_X12_film_82 rfl rfl ?_
      refine E_iload_n dX12_film_40 rfl ?_
      obtain ⟨hr_6, hf⟩ := pO_gd hf
      refine E_aald (k0 := 21 + v1.toNatClampNeg) dX12_film_41 rfl (pin_in hr_6) (if_pos (pin_lt hr_6)) ?_
      refine E_iload_n dX12_film_42 rfl ?_
      refine E_iload_n dX12_film_43 rfl ?_
      refine E_iload_n dX12_film_44 rfl ?_
      refine E_icmp_ge (tgt := 57) dX12_film_45 (by decide) (fun c_7 => ?_) (fun c_7 => ?_)
      · have hf := pO_pos c_7 hf
        refine E_iconst (v := 0) dX12_film_57 (by decide) ?_
        obtain ⟨hi_8, hf⟩ := pO_gd hf
        refine E_iast (n0 := 40) (f := S.2 (25 + v1.toNatClampNeg)) (h' := hM (pAr S (25 + v1.toNatClampNeg) (upd (S.2 (25 + v1.toNatClampNeg)) v3.toNatClampNeg 0))) dX12_film_58 (gM_R21 S (pin_lt hr_6)) (pin_in hi_8) (sM_R21 S (pin_lt hr_6) (upd (S.2 (25 + v1.toNatClampNeg)) v3.toNatClampNeg 0)) ?_
        refine E_iinc (v := v3 + 1) (ls' := [(0, .ref 0), (1, .int v1), (2, .int v2), (3, .int (v3 + 1))]) dX12_film_59 rfl rfl (by decide) rfl ?_
        refine E_goto (tgt := 30) dX12_film_62 (by decide) ?_
        exact E_sub (ls' := [(0, .ref 0), (1, .int v1), (2, .int v2), (3, .int (v3 + 1))]) ⟨rfl, rfl, rfl, rfl, trivial⟩ (ih (pAr S (25 + v1.toNatClampNeg) (upd (S.2 (25 + v1.toNatClampNeg)) v3.toNatClampNeg 0)) v1 v2 (v3 + 1) hf)
      · have hf := pO_neg c_7 hf
        refine E_aload_n dX12_film_48 rfl ?_
        refine E_getf (v := .ref 14) dX12_film_49 fl_X12_film_61 rfl rfl ?_
        refine E_iload_n dX12_film_52 rfl ?_
        obtain ⟨hi_9, hf⟩ := pO_gd hf
        refine E_iald (n0 := 17) (f := S.2 31) dX12_film_53 rfl (pin_in hi_9) ?_
        refine E_goto (tgt := 58) dX12_film_54 (by decide) ?_
        obtain ⟨hi_10, hf⟩ := pO_gd hf
        refine E_iast (n0 := 40) (f := S.2 (25 + v1.toNatClampNeg)) (h' := hM (pAr S (25 + v1.toNatClampNeg) (upd (S.2 (25 + v1.toNatClampNeg)) v3.toNatClampNeg ((S.2 31) v3.toNatClampNeg)))) dX12_film_58 (gM_R21 S (pin_lt hr_6)) (pin_in hi_10) (sM_R21 S (pin_lt hr_6) (upd (S.2 (25 + v1.toNatClampNeg)) v3.toNatClampNeg ((S.2 31) v3.toNatClampNeg))) ?_
        refine E_iinc (v := v3 + 1) (ls' := [(0, .ref 0), (1, .int v1), (2, .int v2), (3, .int (v3 + 1))]) dX12_film_59 rfl rfl (by decide) rfl ?_
        refine E_goto (tgt := 30) dX12_film_62 (by decide) ?_
        exact E_sub (ls' := [(0, .ref 0), (1, .int v1), (2, .int v2), (3, .int (v3 + 1))]) ⟨rfl, rfl, rfl, rfl, trivial⟩ (ih (pAr S (25 + v1.toNatClampNeg) (upd (S.2 (25 + v1.toNatClampNeg)) v3.toNatClampNeg ((S.2 31) v3.toNatClampNeg))) v1 v2 (v3 + 1) hf)
theorem mf_X12_film : pMF yX12_film wsX12_film cX12_film 4 (some .int) 1 := ⟨⟨_, rfl⟩, by decide +kernel, by decide, by decide +kernel, by decide +kernel, by decide +kernel⟩
def f_X12_film (S : PS) (v1 : Int32) : Option (Int32 × PS) :=
  pbnd (f_X12_isRow S v1) (fun r1 S_1 => if r1 = (0 : Int32) then (some ((-1), S_1)) else (pbnd (f_X12_layLines S_1 ((S_1.1 4) + 1)) (fun _ S_3 => pgd (pin v1 3) (plp (g_X12_film_30 pfuel (pAr S_3 24 (upd (S_3.2 24) v1.toNatClampNeg ((S_1.1 4) + 1))) v1 ((S_1.1 4) + 1) 0) (fun (S_11 : PS) => some ((S_1.1 4) + 1, S_11))))))
set_option maxRecDepth 100000 in
theorem c_X12_film (l : Launch) (D : va_G) (dA : Nat → ClassId) (ad : Nat → Nat) (S : PS) (v1 : Int32) {P : (Int32 × PS) → Prop} (hf : pO (f_X12_film S v1) P) : CtI l D dA ad yX12_film wsX12_film 5 [.ref 0, .int v1] (hM S) (fun r h' => ∃ S' : PS, h' = hM S' ∧ P (r, S')) := by
  refine CtI_of mf_X12_film rfl rfl (Nat.le_of_ble_eq_true rfl) rfl (hM_len S) ?_
  unfold f_X12_film at hf
  refine E_iload_n dX12_film_0 rfl ?_
  refine E_callSI (st := []) (c_X12_isRow l D dA ad S v1 (pO_bnd hf)) mf_X12_isRow rfl gX12_film_X12_isRow (by omega) rfl (Nat.le_of_ble_eq_true rfl) (by rfl) dX12_film_1 (fun r1 h1 q1 => ?_)
  obtain ⟨S_1, rfl, hf⟩ := q1
  dsimp only at hf
  refine E_if_ne (tgt := 9) dX12_film_4 (by decide) (fun c_2 => ?_) (fun c_2 => ?_)
  · have hf := pO_neg c_2 hf
    refine E_aload_n dX12_film_9 rfl ?_
    refine E_getf (v := .int (S_1.1 4)) dX12_film_10 fl_X12_film_98 rfl rfl ?_
    refine E_iconst (v := 1) dX12_film_13 (by decide) ?_
    refine E_iadd dX12_film_14 ?_
    refine E_istore_n (ls' := [(0, .ref 0), (1, .int v1), (2, .int ((S_1.1 4) + 1))]) dX12_film_15 (by decide) rfl ?_
    refine E_aload_n dX12_film_16 rfl ?_
    refine E_iload_n dX12_film_17 rfl ?_
    refine E_callVV (st := []) (c_X12_layLines l D dA ad S_1 ((S_1.1 4) + 1) (pO_bnd hf)) mf_X12_layLines rfl rfl gX12_film_X12_layLines (pRc.of (ci := 12) rfl rfl) (by omega) rfl (Nat.le_of_ble_eq_true rfl) (by rfl) dX12_film_18 (fun h3 q3 => ?_)
    obtain ⟨r3, S_3, rfl, hf⟩ := q3
    dsimp only at hf
    refine E_aload_n dX12_film_21 rfl ?_
    refine E_getf (v := .ref 19) dX12_film_22 fl_X12_film_77 rfl rfl ?_
    refine E_iload_n dX12_film_25 rfl ?_
    refine E_iload_n dX12_film_26 rfl ?_
    obtain ⟨hi_4, hf⟩ := pO_gd hf
    refine E_iast (n0 := 3) (f := S_3.2 24) (h' := hM (pAr S_3 24 (upd (S_3.2 24) v1.toNatClampNeg ((S_1.1 4) + 1)))) dX12_film_27 rfl (pin_in hi_4) (sM_A24 S_3 (upd (S_3.2 24) v1.toNatClampNeg ((S_1.1 4) + 1))) ?_
    refine E_iconst (v := 0) dX12_film_28 (by decide) ?_
    refine E_istore_n (ls' := [(0, .ref 0), (1, .int v1), (2, .int ((S_1.1 4) + 1)), (3, .int 0)]) dX12_film_29 (by decide) rfl ?_
    refine E_sub (ls' := [(0, .ref 0), (1, .int v1), (2, .int ((S_1.1 4) + 1)), (3, .int 0)]) ⟨rfl, rfl, rfl, rfl, trivial⟩ ?_
    refine l_X12_film_30 l D dA ad _ (by omega) pfuel (pAr S_3 24 (upd (S_3.2 24) v1.toNatClampNeg ((S_1.1 4) + 1))) v1 ((S_1.1 4) + 1) 0 (pO_lp hf (fun x hx => ⟨x.2, rfl, hx⟩) (fun w11 hf => ?_))
    obtain ⟨S_11, rfl⟩ : ∃ z, z = w11 := ⟨_, rfl⟩
    dsimp only at hf ⊢
    refine E_iload_n dX12_film_65 rfl ?_
    exact E_iret rfl dX12_film_66 ⟨_, rfl, hf⟩
  · have hf := pO_pos c_2 hf
    refine E_iconst (v := (-1)) dX12_film_7 (by decide) ?_
    exact E_iret rfl dX12_film_8 ⟨_, rfl, hf⟩
theorem hi_X12_image_12 : ∀ w ∈ u_ws RX12 TX12 32, w ∈ wsX12_image := fun w h => of_decide_eq_true (List.all_eq_true.mp (by decide +kernel : (u_ws RX12 TX12 32).all (fun w => decide (w ∈ wsX12_image)) = true) w h)
theorem fl_X12_image_334 : pFL wsX12_image RX12 334 12 29 := ⟨RX12, TX12, 32, hi_X12_image_12, rfl, by decide, by decide +kernel⟩
theorem ft_12_29 : pFT 12 29 .boolean := ⟨RX12, TX12, 32, tyX12, rfl, by decide, tyX12_ok, nmX12, rfl, by decide +kernel⟩
theorem fl_X12_image_85 : pFL wsX12_image RX12 85 12 30 := ⟨RX12, TX12, 32, hi_X12_image_12, rfl, by decide, by decide +kernel⟩
theorem fl_X12_image_9 : pFL wsX12_image RX12 9 12 0 := ⟨RX12, TX12, 32, hi_X12_image_12, rfl, by decide, by decide +kernel⟩
theorem fl_X12_image_15 : pFL wsX12_image RX12 15 12 1 := ⟨RX12, TX12, 32, hi_X12_image_12, rfl, by decide, by decide +kernel⟩
theorem fl_X12_image_18 : pFL wsX12_image RX12 18 12 2 := ⟨RX12, TX12, 32, hi_X12_image_12, rfl, by decide, by decide +kernel⟩
theorem fl_X12_image_95 : pFL wsX12_image RX12 95 12 3 := ⟨RX12, TX12, 32, hi_X12_image_12, rfl, by decide, by decide +kernel⟩
theorem fl_X12_image_98 : pFL wsX12_image RX12 98 12 6 := ⟨RX12, TX12, 32, hi_X12_image_12, rfl, by decide, by decide +kernel⟩
theorem hi_X12_rowOf_12 : ∀ w ∈ u_ws RX12 TX12 32, w ∈ wsX12_rowOf := fun w h => of_decide_eq_true (List.all_eq_true.mp (by decide +kernel : (u_ws RX12 TX12 32).all (fun w => decide (w ∈ wsX12_rowOf)) = true) w h)
theorem fl_X12_rowOf_21 : pFL wsX12_rowOf RX12 21 12 4 := ⟨RX12, TX12, 32, hi_X12_rowOf_12, rfl, by decide, by decide +kernel⟩
theorem mf_X12_rowOf : pMF yX12_rowOf wsX12_rowOf cX12_rowOf 2 (some (.array .int)) 1 := ⟨⟨_, rfl⟩, by decide +kernel, by decide, by decide +kernel, by decide +kernel, by decide +kernel⟩
set_option maxRecDepth 100000 in
theorem c_X12_rowOf_0_k0 (l : Launch) (D : va_G) (dA : Nat → ClassId) (ad : Nat → Nat) (S : PS) : CtR l D dA ad yX12_rowOf wsX12_rowOf 0 [.ref 0, .int 0] (hM S) (fun r h' => r = 1 ∧ h' = hM S) := by
  refine CtR_of mf_X12_rowOf rfl rfl (Nat.le_of_ble_eq_true rfl) rfl (hM_len S) ?_
  refine E_iload_n dX12_rowOf_0 rfl ?_
  refine E_tableIn (off := 59) (tgt := 60) dX12_rowOf_1 (by decide) (by decide) (by rfl) (by decide) ?_
  refine E_aload_n dX12_rowOf_60 rfl ?_
  refine E_getf (v := .ref 1) dX12_rowOf_61 fl_X12_rowOf_21 rfl rfl ?_
  exact E_aret rfl (Or.inr ⟨_, rfl⟩) dX12_rowOf_64 ⟨rfl, rfl⟩
theorem fl_X12_image_88 : pFL wsX12_image RX12 88 12 31 := ⟨RX12, TX12, 32, hi_X12_image_12, rfl, by decide, by decide +kernel⟩
theorem fl_X12_rowOf_25 : pFL wsX12_rowOf RX12 25 12 5 := ⟨RX12, TX12, 32, hi_X12_rowOf_12, rfl, by decide, by decide +kernel⟩
set_option maxRecDepth 100000 in
theorem c_X12_rowOf_0_k1 (l : Launch) (D : va_G) (dA : Nat → ClassId) (ad : Nat → Nat) (S : PS) : CtR l D dA ad yX12_rowOf wsX12_rowOf 0 [.ref 0, .int 1] (hM S) (fun r h' => r = 2 ∧ h' = hM S) := by
  refine CtR_of mf_X12_rowOf rfl rfl (Nat.le_of_ble_eq_true rfl) rfl (hM_len S) ?_
  refine E_iload_n dX12_rowOf_0 rfl ?_
  refine E_tableIn (off := 64) (tgt := 65) dX12_rowOf_1 (by decide) (by decide) (by rfl) (by decide) ?_
  refine E_aload_n dX12_rowOf_65 rfl ?_
  refine E_getf (v := .ref 2) dX12_rowOf_66 fl_X12_rowOf_25 rfl rfl ?_
  exact E_aret rfl (Or.inr ⟨_, rfl⟩) dX12_rowOf_69 ⟨rfl, rfl⟩
theorem fl_X12_rowOf_28 : pFL wsX12_rowOf RX12 28 12 7 := ⟨RX12, TX12, 32, hi_X12_rowOf_12, rfl, by decide, by decide +kernel⟩
set_option maxRecDepth 100000 in
theorem c_X12_rowOf_0_k2 (l : Launch) (D : va_G) (dA : Nat → ClassId) (ad : Nat → Nat) (S : PS) : CtR l D dA ad yX12_rowOf wsX12_rowOf 0 [.ref 0, .int 2] (hM S) (fun r h' => r = 3 ∧ h' = hM S) := by
  refine CtR_of mf_X12_rowOf rfl rfl (Nat.le_of_ble_eq_true rfl) rfl (hM_len S) ?_
  refine E_iload_n dX12_rowOf_0 rfl ?_
  refine E_tableIn (off := 69) (tgt := 70) dX12_rowOf_1 (by decide) (by decide) (by rfl) (by decide) ?_
  refine E_aload_n dX12_rowOf_70 rfl ?_
  refine E_getf (v := .ref 3) dX12_rowOf_71 fl_X12_rowOf_28 rfl rfl ?_
  exact E_aret rfl (Or.inr ⟨_, rfl⟩) dX12_rowOf_74 ⟨rfl, rfl⟩
theorem fl_X12_rowOf_31 : pFL wsX12_rowOf RX12 31 12 8 := ⟨RX12, TX12, 32, hi_X12_rowOf_12, rfl, by decide, by decide +kernel⟩
set_option maxRecDepth 100000 in
theorem c_X12_rowOf_0_k3 (l : Launch) (D : va_G) (dA : Nat → ClassId) (ad : Nat → Nat) (S : PS) : CtR l D dA ad yX12_rowOf wsX12_rowOf 0 [.ref 0, .int 3] (hM S) (fun r h' => r = 4 ∧ h' = hM S) := by
  refine CtR_of mf_X12_rowOf rfl rfl (Nat.le_of_ble_eq_true rfl) rfl (hM_len S) ?_
  refine E_iload_n dX12_rowOf_0 rfl ?_
  refine E_tableIn (off := 74) (tgt := 75) dX12_rowOf_1 (by decide) (by decide) (by rfl) (by decide) ?_
  refine E_aload_n dX12_rowOf_75 rfl ?_
  refine E_getf (v := .ref 4) dX12_rowOf_76 fl_X12_rowOf_31 rfl rfl ?_
  exact E_aret rfl (Or.inr ⟨_, rfl⟩) dX12_rowOf_79 ⟨rfl, rfl⟩
theorem fl_X12_rowOf_34 : pFL wsX12_rowOf RX12 34 12 9 := ⟨RX12, TX12, 32, hi_X12_rowOf_12, rfl, by decide, by decide +kernel⟩
set_option maxRecDepth 100000 in
theorem c_X12_rowOf_0_k4 (l : Launch) (D : va_G) (dA : Nat → ClassId) (ad : Nat → Nat) (S : PS) : CtR l D dA ad yX12_rowOf wsX12_rowOf 0 [.ref 0, .int 4] (hM S) (fun r h' => r = 5 ∧ h' = hM S) := by
  refine CtR_of mf_X12_rowOf rfl rfl (Nat.le_of_ble_eq_true rfl) rfl (hM_len S) ?_
  refine E_iload_n dX12_rowOf_0 rfl ?_
  refine E_tableIn (off := 79) (tgt := 80) dX12_rowOf_1 (by decide) (by decide) (by rfl) (by decide) ?_
  refine E_aload_n dX12_rowOf_80 rfl ?_
  refine E_getf (v := .ref 5) dX12_rowOf_81 fl_X12_rowOf_34 rfl rfl ?_
  exact E_aret rfl (Or.inr ⟨_, rfl⟩) dX12_rowOf_84 ⟨rfl, rfl⟩
theorem fl_X12_rowOf_37 : pFL wsX12_rowOf RX12 37 12 10 := ⟨RX12, TX12, 32, hi_X12_rowOf_12, rfl, by decide, by decide +kernel⟩
set_option maxRecDepth 100000 in
theorem c_X12_rowOf_0_k5 (l : Launch) (D : va_G) (dA : Nat → ClassId) (ad : Nat → Nat) (S : PS) : CtR l D dA ad yX12_rowOf wsX12_rowOf 0 [.ref 0, .int 5] (hM S) (fun r h' => r = 6 ∧ h' = hM S) := by
  refine CtR_of mf_X12_rowOf rfl rfl (Nat.le_of_ble_eq_true rfl) rfl (hM_len S) ?_
  refine E_iload_n dX12_rowOf_0 rfl ?_
  refine E_tableIn (off := 84) (tgt := 85) dX12_rowOf_1 (by decide) (by decide) (by rfl) (by decide) ?_
  refine E_aload_n dX12_rowOf_85 rfl ?_
  refine E_getf (v := .ref 6) dX12_rowOf_86 fl_X12_rowOf_37 rfl rfl ?_
  exact E_aret rfl (Or.inr ⟨_, rfl⟩) dX12_rowOf_89 ⟨rfl, rfl⟩
theorem fl_X12_rowOf_40 : pFL wsX12_rowOf RX12 40 12 11 := ⟨RX12, TX12, 32, hi_X12_rowOf_12, rfl, by decide, by decide +kernel⟩
set_option maxRecDepth 100000 in
theorem c_X12_rowOf_0_k6 (l : Launch) (D : va_G) (dA : Nat → ClassId) (ad : Nat → Nat) (S : PS) : CtR l D dA ad yX12_rowOf wsX12_rowOf 0 [.ref 0, .int 6] (hM S) (fun r h' => r = 7 ∧ h' = hM S) := by
  refine CtR_of mf_X12_rowOf rfl rfl (Nat.le_of_ble_eq_true rfl) rfl (hM_len S) ?_
  refine E_iload_n dX12_rowOf_0 rfl ?_
  refine E_tableIn (off := 89) (tgt := 90) dX12_rowOf_1 (by decide) (by decide) (by rfl) (by decide) ?_
  refine E_aload_n dX12_rowOf_90 rfl ?_
  refine E_getf (v := .ref 7) dX12_rowOf_91 fl_X12_rowOf_40 rfl rfl ?_
  exact E_aret rfl (Or.inr ⟨_, rfl⟩) dX12_rowOf_94 ⟨rfl, rfl⟩
theorem fl_X12_rowOf_43 : pFL wsX12_rowOf RX12 43 12 12 := ⟨RX12, TX12, 32, hi_X12_rowOf_12, rfl, by decide, by decide +kernel⟩
set_option maxRecDepth 100000 in
theorem c_X12_rowOf_0_k7 (l : Launch) (D : va_G) (dA : Nat → ClassId) (ad : Nat → Nat) (S : PS) : CtR l D dA ad yX12_rowOf wsX12_rowOf 0 [.ref 0, .int 7] (hM S) (fun r h' => r = 8 ∧ h' = hM S) := by
  refine CtR_of mf_X12_rowOf rfl rfl (Nat.le_of_ble_eq_true rfl) rfl (hM_len S) ?_
  refine E_iload_n dX12_rowOf_0 rfl ?_
  refine E_tableIn (off := 94) (tgt := 95) dX12_rowOf_1 (by decide) (by decide) (by rfl) (by decide) ?_
  refine E_aload_n dX12_rowOf_95 rfl ?_
  refine E_getf (v := .ref 8) dX12_rowOf_96 fl_X12_rowOf_43 rfl rfl ?_
  exact E_aret rfl (Or.inr ⟨_, rfl⟩) dX12_rowOf_99 ⟨rfl, rfl⟩
theorem fl_X12_rowOf_46 : pFL wsX12_rowOf RX12 46 12 13 := ⟨RX12, TX12, 32, hi_X12_rowOf_12, rfl, by decide, by decide +kernel⟩
set_option maxRecDepth 100000 in
theorem c_X12_rowOf_0_k8 (l : Launch) (D : va_G) (dA : Nat → ClassId) (ad : Nat → Nat) (S : PS) : CtR l D dA ad yX12_rowOf wsX12_rowOf 0 [.ref 0, .int 8] (hM S) (fun r h' => r = 9 ∧ h' = hM S) := by
  refine CtR_of mf_X12_rowOf rfl rfl (Nat.le_of_ble_eq_true rfl) rfl (hM_len S) ?_
  refine E_iload_n dX12_rowOf_0 rfl ?_
  refine E_tableIn (off := 99) (tgt := 100) dX12_rowOf_1 (by decide) (by decide) (by rfl) (by decide) ?_
  refine E_aload_n dX12_rowOf_100 rfl ?_
  refine E_getf (v := .ref 9) dX12_rowOf_101 fl_X12_rowOf_46 rfl rfl ?_
  exact E_aret rfl (Or.inr ⟨_, rfl⟩) dX12_rowOf_104 ⟨rfl, rfl⟩
theorem fl_X12_rowOf_49 : pFL wsX12_rowOf RX12 49 12 14 := ⟨RX12, TX12, 32, hi_X12_rowOf_12, rfl, by decide, by decide +kernel⟩
set_option maxRecDepth 100000 in
theorem c_X12_rowOf_0_k9 (l : Launch) (D : va_G) (dA : Nat → ClassId) (ad : Nat → Nat) (S : PS) : CtR l D dA ad yX12_rowOf wsX12_rowOf 0 [.ref 0, .int 9] (hM S) (fun r h' => r = 10 ∧ h' = hM S) := by
  refine CtR_of mf_X12_rowOf rfl rfl (Nat.le_of_ble_eq_true rfl) rfl (hM_len S) ?_
  refine E_iload_n dX12_rowOf_0 rfl ?_
  refine E_tableIn (off := 104) (tgt := 105) dX12_rowOf_1 (by decide) (by decide) (by rfl) (by decide) ?_
  refine E_aload_n dX12_rowOf_105 rfl ?_
  refine E_getf (v := .ref 10) dX12_rowOf_106 fl_X12_rowOf_49 rfl rfl ?_
  exact E_aret rfl (Or.inr ⟨_, rfl⟩) dX12_rowOf_109 ⟨rfl, rfl⟩
theorem fl_X12_rowOf_52 : pFL wsX12_rowOf RX12 52 12 15 := ⟨RX12, TX12, 32, hi_X12_rowOf_12, rfl, by decide, by decide +kernel⟩
set_option maxRecDepth 100000 in
theorem c_X12_rowOf_0_k10 (l : Launch) (D : va_G) (dA : Nat → ClassId) (ad : Nat → Nat) (S : PS) : CtR l D dA ad yX12_rowOf wsX12_rowOf 0 [.ref 0, .int 10] (hM S) (fun r h' => r = 11 ∧ h' = hM S) := by
  refine CtR_of mf_X12_rowOf rfl rfl (Nat.le_of_ble_eq_true rfl) rfl (hM_len S) ?_
  refine E_iload_n dX12_rowOf_0 rfl ?_
  refine E_tableIn (off := 109) (tgt := 110) dX12_rowOf_1 (by decide) (by decide) (by rfl) (by decide) ?_
  refine E_aload_n dX12_rowOf_110 rfl ?_
  refine E_getf (v := .ref 11) dX12_rowOf_111 fl_X12_rowOf_52 rfl rfl ?_
  exact E_aret rfl (Or.inr ⟨_, rfl⟩) dX12_rowOf_114 ⟨rfl, rfl⟩
theorem fl_X12_rowOf_55 : pFL wsX12_rowOf RX12 55 12 16 := ⟨RX12, TX12, 32, hi_X12_rowOf_12, rfl, by decide, by decide +kernel⟩
set_option maxRecDepth 100000 in
theorem c_X12_rowOf_0_k11 (l : Launch) (D : va_G) (dA : Nat → ClassId) (ad : Nat → Nat) (S : PS) : CtR l D dA ad yX12_rowOf wsX12_rowOf 0 [.ref 0, .int 11] (hM S) (fun r h' => r = 12 ∧ h' = hM S) := by
  refine CtR_of mf_X12_rowOf rfl rfl (Nat.le_of_ble_eq_true rfl) rfl (hM_len S) ?_
  refine E_iload_n dX12_rowOf_0 rfl ?_
  refine E_tableOut (tgt := 115) dX12_rowOf_1 (by decide) (by decide) ?_
  refine E_aload_n dX12_rowOf_115 rfl ?_
  refine E_getf (v := .ref 12) dX12_rowOf_116 fl_X12_rowOf_55 rfl rfl ?_
  exact E_aret rfl (Or.inr ⟨_, rfl⟩) dX12_rowOf_119 ⟨rfl, rfl⟩
theorem mf_X12_image : pMF yX12_image wsX12_image cX12_image 2 (some .int) 0 := ⟨⟨_, rfl⟩, by decide +kernel, by decide, by decide +kernel, by decide +kernel, by decide +kernel⟩
def f_X12_image (S : PS) : Option (Int32 × PS) :=
  some (S.1 4, (pAr (pAr (pAr (pAr (pAr (pAr (pAr (pAr (pAr (pAr (pAr (pAr (pAr (pAr (pAr (pAr (pAr (pI S 10 1) 29 (upd (S.2 29) 0 (S.1 0))) 29 (upd (upd (S.2 29) 0 (S.1 0)) 1 (S.1 1))) 29 (upd (upd (upd (S.2 29) 0 (S.1 0)) 1 (S.1 1)) 2 (S.1 2))) 29 (upd (upd (upd (upd (S.2 29) 0 (S.1 0)) 1 (S.1 1)) 2 (S.1 2)) 3 (S.1 3))) 29 (upd (upd (upd (upd (upd (S.2 29) 0 (S.1 0)) 1 (S.1 1)) 2 (S.1 2)) 3 (S.1 3)) 4 (S.1 4))) 12 (va_cpy (S.2 0) (S.2 12) 0 0 10)) 13 (va_cpy (S.2 1) (S.2 13) 0 0 10)) 14 (va_cpy (S.2 2) (S.2 14) 0 0 16)) 15 (va_cpy (S.2 3) (S.2 15) 0 0 16)) 16 (va_cpy (S.2 4) (S.2 16) 0 0 16)) 17 (va_cpy (S.2 5) (S.2 17) 0 0 16)) 18 (va_cpy (S.2 6) (S.2 18) 0 0 16)) 19 (va_cpy (S.2 7) (S.2 19) 0 0 16)) 20 (va_cpy (S.2 8) (S.2 20) 0 0 4)) 21 (va_cpy (S.2 9) (S.2 21) 0 0 4)) 22 (va_cpy (S.2 10) (S.2 22) 0 0 4)) 23 (va_cpy (S.2 11) (S.2 23) 0 0 4)))
set_option maxRecDepth 100000 in
theorem c_X12_image (l : Launch) (D : va_G) (dA : Nat → ClassId) (ad : Nat → Nat) (S : PS) {P : (Int32 × PS) → Prop} (hf : pO (f_X12_image S) P) : CtI l D dA ad yX12_image wsX12_image 1 [.ref 0] (hM S) (fun r h' => ∃ S' : PS, h' = hM S' ∧ P (r, S')) := by
  refine CtI_of mf_X12_image rfl rfl (Nat.le_of_ble_eq_true rfl) rfl (hM_len S) ?_
  unfold f_X12_image at hf
  refine E_aload_n dX12_image_0 rfl ?_
  refine E_iconst (v := 1) dX12_image_1 (by decide) ?_
  refine E_putf (h' := hM (pI S 10 1)) dX12_image_2 fl_X12_image_334 ft_12_29 rfl (Nat.lt_of_lt_of_eq (by decide : 29 < 32) rfl) (by decide) (by decide) ⟨_, rfl⟩ (sM_I10 S 1) ?_
  refine E_aload_n dX12_image_5 rfl ?_
  refine E_getf (v := .ref 24) dX12_image_6 fl_X12_image_85 rfl rfl ?_
  refine E_iconst (v := 0) dX12_image_9 (by decide) ?_
  refine E_aload_n dX12_image_10 rfl ?_
  refine E_getf (v := .int (S.1 0)) dX12_image_11 fl_X12_image_9 rfl rfl ?_
  refine E_iast (n0 := 5) (f := S.2 29) (h' := hM (pAr (pI S 10 1) 29 (upd (S.2 29) 0 (S.1 0)))) dX12_image_14 rfl (pin_in (by decide)) (sM_A29 (pI S 10 1) (upd (S.2 29) 0 (S.1 0))) ?_
  refine E_aload_n dX12_image_15 rfl ?_
  refine E_getf (v := .ref 24) dX12_image_16 fl_X12_image_85 rfl rfl ?_
  refine E_iconst (v := 1) dX12_image_19 (by decide) ?_
  refine E_aload_n dX12_image_20 rfl ?_
  refine E_getf (v := .int (S.1 1)) dX12_image_21 fl_X12_image_15 rfl rfl ?_
  refine E_iast (n0 := 5) (f := upd (S.2 29) 0 (S.1 0)) (h' := hM (pAr (pAr (pI S 10 1) 29 (upd (S.2 29) 0 (S.1 0))) 29 (upd (upd (S.2 29) 0 (S.1 0)) 1 (S.1 1)))) dX12_image_24 rfl (pin_in (by decide)) (sM_A29 (pAr (pI S 10 1) 29 (upd (S.2 29) 0 (S.1 0))) (upd (upd (S.2 29) 0 (S.1 0)) 1 (S.1 1))) ?_
  refine E_aload_n dX12_image_25 rfl ?_
  refine E_getf (v := .ref 24) dX12_image_26 fl_X12_image_85 rfl rfl ?_
  refine E_iconst (v := 2) dX12_image_29 (by decide) ?_
  refine E_aload_n dX12_image_30 rfl ?_
  refine E_getf (v := .int (S.1 2)) dX12_image_31 fl_X12_image_18 rfl rfl ?_
  refine E_iast (n0 := 5) (f := upd (upd (S.2 29) 0 (S.1 0)) 1 (S.1 1)) (h' := hM (pAr (pAr (pAr (pI S 10 1) 29 (upd (S.2 29) 0 (S.1 0))) 29 (upd (upd (S.2 29) 0 (S.1 0)) 1 (S.1 1))) 29 (upd (upd (upd (S.2 29) 0 (S.1 0)) 1 (S.1 1)) 2 (S.1 2)))) dX12_image_34 rfl (pin_in (by decide)) (sM_A29 (pAr (pAr (pI S 10 1) 29 (upd (S.2 29) 0 (S.1 0))) 29 (upd (upd (S.2 29) 0 (S.1 0)) 1 (S.1 1))) (upd (upd (upd (S.2 29) 0 (S.1 0)) 1 (S.1 1)) 2 (S.1 2))) ?_
  refine E_aload_n dX12_image_35 rfl ?_
  refine E_getf (v := .ref 24) dX12_image_36 fl_X12_image_85 rfl rfl ?_
  refine E_iconst (v := 3) dX12_image_39 (by decide) ?_
  refine E_aload_n dX12_image_40 rfl ?_
  refine E_getf (v := .int (S.1 3)) dX12_image_41 fl_X12_image_95 rfl rfl ?_
  refine E_iast (n0 := 5) (f := upd (upd (upd (S.2 29) 0 (S.1 0)) 1 (S.1 1)) 2 (S.1 2)) (h' := hM (pAr (pAr (pAr (pAr (pI S 10 1) 29 (upd (S.2 29) 0 (S.1 0))) 29 (upd (upd (S.2 29) 0 (S.1 0)) 1 (S.1 1))) 29 (upd (upd (upd (S.2 29) 0 (S.1 0)) 1 (S.1 1)) 2 (S.1 2))) 29 (upd (upd (upd (upd (S.2 29) 0 (S.1 0)) 1 (S.1 1)) 2 (S.1 2)) 3 (S.1 3)))) dX12_image_44 rfl (pin_in (by decide)) (sM_A29 (pAr (pAr (pAr (pI S 10 1) 29 (upd (S.2 29) 0 (S.1 0))) 29 (upd (upd (S.2 29) 0 (S.1 0)) 1 (S.1 1))) 29 (upd (upd (upd (S.2 29) 0 (S.1 0)) 1 (S.1 1)) 2 (S.1 2))) (upd (upd (upd (upd (S.2 29) 0 (S.1 0)) 1 (S.1 1)) 2 (S.1 2)) 3 (S.1 3))) ?_
  refine E_aload_n dX12_image_45 rfl ?_
  refine E_getf (v := .ref 24) dX12_image_46 fl_X12_image_85 rfl rfl ?_
  refine E_iconst (v := 4) dX12_image_49 (by decide) ?_
  refine E_aload_n dX12_image_50 rfl ?_
  refine E_getf (v := .int (S.1 4)) dX12_image_51 fl_X12_image_98 rfl rfl ?_
  refine E_iast (n0 := 5) (f := upd (upd (upd (upd (S.2 29) 0 (S.1 0)) 1 (S.1 1)) 2 (S.1 2)) 3 (S.1 3)) (h' := hM (pAr (pAr (pAr (pAr (pAr (pI S 10 1) 29 (upd (S.2 29) 0 (S.1 0))) 29 (upd (upd (S.2 29) 0 (S.1 0)) 1 (S.1 1))) 29 (upd (upd (upd (S.2 29) 0 (S.1 0)) 1 (S.1 1)) 2 (S.1 2))) 29 (upd (upd (upd (upd (S.2 29) 0 (S.1 0)) 1 (S.1 1)) 2 (S.1 2)) 3 (S.1 3))) 29 (upd (upd (upd (upd (upd (S.2 29) 0 (S.1 0)) 1 (S.1 1)) 2 (S.1 2)) 3 (S.1 3)) 4 (S.1 4)))) dX12_image_54 rfl (pin_in (by decide)) (sM_A29 (pAr (pAr (pAr (pAr (pI S 10 1) 29 (upd (S.2 29) 0 (S.1 0))) 29 (upd (upd (S.2 29) 0 (S.1 0)) 1 (S.1 1))) 29 (upd (upd (upd (S.2 29) 0 (S.1 0)) 1 (S.1 1)) 2 (S.1 2))) 29 (upd (upd (upd (upd (S.2 29) 0 (S.1 0)) 1 (S.1 1)) 2 (S.1 2)) 3 (S.1 3))) (upd (upd (upd (upd (upd (S.2 29) 0 (S.1 0)) 1 (S.1 1)) 2 (S.1 2)) 3 (S.1 3)) 4 (S.1 4))) ?_
  refine E_iconst (v := 0) dX12_image_55 (by decide) ?_
  refine E_istore_n (ls' := [(0, .ref 0), (1, .int 0)]) dX12_image_56 (by decide) rfl ?_
  refine E_iload_n dX12_image_57 rfl ?_
  refine E_bipush (v := 12) dX12_image_58 (by decide) ?_
  refine E_icmp_ge (tgt := 91) dX12_image_60 (by decide) (fun c => absurd c (by decide)) (fun _ => ?_)
  refine E_aload_n dX12_image_63 rfl ?_
  refine E_iload_n dX12_image_64 rfl ?_
  refine E_callVR (st := []) (c_X12_rowOf_0_k0 l D dA ad (pAr (pAr (pAr (pAr (pAr (pI S 10 1) 29 (upd (S.2 29) 0 (S.1 0))) 29 (upd (upd (S.2 29) 0 (S.1 0)) 1 (S.1 1))) 29 (upd (upd (upd (S.2 29) 0 (S.1 0)) 1 (S.1 1)) 2 (S.1 2))) 29 (upd (upd (upd (upd (S.2 29) 0 (S.1 0)) 1 (S.1 1)) 2 (S.1 2)) 3 (S.1 3))) 29 (upd (upd (upd (upd (upd (S.2 29) 0 (S.1 0)) 1 (S.1 1)) 2 (S.1 2)) 3 (S.1 3)) 4 (S.1 4)))) mf_X12_rowOf rfl rfl gX12_image_X12_rowOf (pRc.of (ci := 12) rfl rfl) (by omega) rfl (Nat.le_of_ble_eq_true rfl) (by rfl) dX12_image_65 (fun r1 h1 q1 => ?_)
  obtain ⟨rfl, rfl⟩ := q1
  refine E_iconst (v := 0) dX12_image_68 (by decide) ?_
  refine E_aload_n dX12_image_69 rfl ?_
  refine E_getf (v := .ref 25) dX12_image_70 fl_X12_image_88 rfl rfl ?_
  refine E_iload_n dX12_image_73 rfl ?_
  refine E_aald (k0 := 26) dX12_image_74 rfl (pin_in (by decide)) rfl ?_
  refine E_iconst (v := 0) dX12_image_75 (by decide) ?_
  refine E_aload_n dX12_image_76 rfl ?_
  refine E_iload_n dX12_image_77 rfl ?_
  refine E_callVR (st := [.int 0, .ref 26, .int 0, .ref 1]) (c_X12_rowOf_0_k0 l D dA ad (pAr (pAr (pAr (pAr (pAr (pI S 10 1) 29 (upd (S.2 29) 0 (S.1 0))) 29 (upd (upd (S.2 29) 0 (S.1 0)) 1 (S.1 1))) 29 (upd (upd (upd (S.2 29) 0 (S.1 0)) 1 (S.1 1)) 2 (S.1 2))) 29 (upd (upd (upd (upd (S.2 29) 0 (S.1 0)) 1 (S.1 1)) 2 (S.1 2)) 3 (S.1 3))) 29 (upd (upd (upd (upd (upd (S.2 29) 0 (S.1 0)) 1 (S.1 1)) 2 (S.1 2)) 3 (S.1 3)) 4 (S.1 4)))) mf_X12_rowOf rfl rfl gX12_image_X12_rowOf (pRc.of (ci := 12) rfl rfl) (by omega) rfl (Nat.le_of_ble_eq_true rfl) (by rfl) dX12_image_78 (fun r2 h2 q2 => ?_)
  obtain ⟨rfl, rfl⟩ := q2
  refine E_alen dX12_image_81 rfl (by decide) ?_
  refine E_val (y := 10) rfl ?_
  refine E_copy (i := 0) (j := 0) (k0 := 10) (n0 := 10) (n1 := 16) (f := S.2 0) (g := S.2 12) (h' := hM (pAr (pAr (pAr (pAr (pAr (pAr (pI S 10 1) 29 (upd (S.2 29) 0 (S.1 0))) 29 (upd (upd (S.2 29) 0 (S.1 0)) 1 (S.1 1))) 29 (upd (upd (upd (S.2 29) 0 (S.1 0)) 1 (S.1 1)) 2 (S.1 2))) 29 (upd (upd (upd (upd (S.2 29) 0 (S.1 0)) 1 (S.1 1)) 2 (S.1 2)) 3 (S.1 3))) 29 (upd (upd (upd (upd (upd (S.2 29) 0 (S.1 0)) 1 (S.1 1)) 2 (S.1 2)) 3 (S.1 3)) 4 (S.1 4))) 12 (va_cpy (S.2 0) (S.2 12) 0 0 10))) (by decide +kernel) (by decide +kernel) (by decide +kernel) (by decide +kernel) rfl rfl (by decide) (by decide) (by decide) (by decide) (by omega) (Nat.le_of_ble_eq_true rfl) (by rfl) dX12_image_82 (sM_A12 (pAr (pAr (pAr (pAr (pAr (pI S 10 1) 29 (upd (S.2 29) 0 (S.1 0))) 29 (upd (upd (S.2 29) 0 (S.1 0)) 1 (S.1 1))) 29 (upd (upd (upd (S.2 29) 0 (S.1 0)) 1 (S.1 1)) 2 (S.1 2))) 29 (upd (upd (upd (upd (S.2 29) 0 (S.1 0)) 1 (S.1 1)) 2 (S.1 2)) 3 (S.1 3))) 29 (upd (upd (upd (upd (upd (S.2 29) 0 (S.1 0)) 1 (S.1 1)) 2 (S.1 2)) 3 (S.1 3)) 4 (S.1 4))) (va_cpy (S.2 0) (S.2 12) 0 0 10)) ?_
  refine E_iinc (v := 1) (ls' := [(0, .ref 0), (1, .int 1)]) dX12_image_85 rfl (by decide) (by decide) rfl ?_
  refine E_goto (tgt := 57) dX12_image_88 (by decide) ?_
  refine E_iload_n dX12_image_57 rfl ?_
  refine E_bipush (v := 12) dX12_image_58 (by decide) ?_
  refine E_icmp_ge (tgt := 91) dX12_image_60 (by decide) (fun c => absurd c (by decide)) (fun _ => ?_)
  refine E_aload_n dX12_image_63 rfl ?_
  refine E_iload_n dX12_image_64 rfl ?_
  refine E_callVR (st := []) (c_X12_rowOf_0_k1 l D dA ad (pAr (pAr (pAr (pAr (pAr (pAr (pI S 10 1) 29 (upd (S.2 29) 0 (S.1 0))) 29 (upd (upd (S.2 29) 0 (S.1 0)) 1 (S.1 1))) 29 (upd (upd (upd (S.2 29) 0 (S.1 0)) 1 (S.1 1)) 2 (S.1 2))) 29 (upd (upd (upd (upd (S.2 29) 0 (S.1 0)) 1 (S.1 1)) 2 (S.1 2)) 3 (S.1 3))) 29 (upd (upd (upd (upd (upd (S.2 29) 0 (S.1 0)) 1 (S.1 1)) 2 (S.1 2)) 3 (S.1 3)) 4 (S.1 4))) 12 (va_cpy (S.2 0) (S.2 12) 0 0 10))) mf_X12_rowOf rfl rfl gX12_image_X12_rowOf (pRc.of (ci := 12) rfl rfl) (by omega) rfl (Nat.le_of_ble_eq_true rfl) (by rfl) dX12_image_65 (fun r3 h3 q3 => ?_)
  obtain ⟨rfl, rfl⟩ := q3
  refine E_iconst (v := 0) dX12_image_68 (by decide) ?_
  refine E_aload_n dX12_image_69 rfl ?_
  refine E_getf (v := .ref 25) dX12_image_70 fl_X12_image_88 rfl rfl ?_
  refine E_iload_n dX12_image_73 rfl ?_
  refine E_aald (k0 := 27) dX12_image_74 rfl (pin_in (by decide)) rfl ?_
  refine E_iconst (v := 0) dX12_image_75 (by decide) ?_
  refine E_aload_n dX12_image_76 rfl ?_
  refine E_iload_n dX12_image_77 rfl ?_
  refine E_callVR (st := [.int 0, .ref 27, .int 0, .ref 2]) (c_X12_rowOf_0_k1 l D dA ad (pAr (pAr (pAr (pAr (pAr (pAr (pI S 10 1) 29 (upd (S.2 29) 0 (S.1 0))) 29 (upd (upd (S.2 29) 0 (S.1 0)) 1 (S.1 1))) 29 (upd (upd (upd (S.2 29) 0 (S.1 0)) 1 (S.1 1)) 2 (S.1 2))) 29 (upd (upd (upd (upd (S.2 29) 0 (S.1 0)) 1 (S.1 1)) 2 (S.1 2)) 3 (S.1 3))) 29 (upd (upd (upd (upd (upd (S.2 29) 0 (S.1 0)) 1 (S.1 1)) 2 (S.1 2)) 3 (S.1 3)) 4 (S.1 4))) 12 (va_cpy (S.2 0) (S.2 12) 0 0 10))) mf_X12_rowOf rfl rfl gX12_image_X12_rowOf (pRc.of (ci := 12) rfl rfl) (by omega) rfl (Nat.le_of_ble_eq_true rfl) (by rfl) dX12_image_78 (fun r4 h4 q4 => ?_)
  obtain ⟨rfl, rfl⟩ := q4
  refine E_alen dX12_image_81 rfl (by decide) ?_
  refine E_val (y := 10) rfl ?_
  refine E_copy (i := 0) (j := 0) (k0 := 10) (n0 := 10) (n1 := 16) (f := S.2 1) (g := S.2 13) (h' := hM (pAr (pAr (pAr (pAr (pAr (pAr (pAr (pI S 10 1) 29 (upd (S.2 29) 0 (S.1 0))) 29 (upd (upd (S.2 29) 0 (S.1 0)) 1 (S.1 1))) 29 (upd (upd (upd (S.2 29) 0 (S.1 0)) 1 (S.1 1)) 2 (S.1 2))) 29 (upd (upd (upd (upd (S.2 29) 0 (S.1 0)) 1 (S.1 1)) 2 (S.1 2)) 3 (S.1 3))) 29 (upd (upd (upd (upd (upd (S.2 29) 0 (S.1 0)) 1 (S.1 1)) 2 (S.1 2)) 3 (S.1 3)) 4 (S.1 4))) 12 (va_cpy (S.2 0) (S.2 12) 0 0 10)) 13 (va_cpy (S.2 1) (S.2 13) 0 0 10))) (by decide +kernel) (by decide +kernel) (by decide +kernel) (by decide +kernel) rfl rfl (by decide) (by decide) (by decide) (by decide) (by omega) (Nat.le_of_ble_eq_true rfl) (by rfl) dX12_image_82 (sM_A13 (pAr (pAr (pAr (pAr (pAr (pAr (pI S 10 1) 29 (upd (S.2 29) 0 (S.1 0))) 29 (upd (upd (S.2 29) 0 (S.1 0)) 1 (S.1 1))) 29 (upd (upd (upd (S.2 29) 0 (S.1 0)) 1 (S.1 1)) 2 (S.1 2))) 29 (upd (upd (upd (upd (S.2 29) 0 (S.1 0)) 1 (S.1 1)) 2 (S.1 2)) 3 (S.1 3))) 29 (upd (upd (upd (upd (upd (S.2 29) 0 (S.1 0)) 1 (S.1 1)) 2 (S.1 2)) 3 (S.1 3)) 4 (S.1 4))) 12 (va_cpy (S.2 0) (S.2 12) 0 0 10)) (va_cpy (S.2 1) (S.2 13) 0 0 10)) ?_
  refine E_iinc (v := 2) (ls' := [(0, .ref 0), (1, .int 2)]) dX12_image_85 rfl (by decide) (by decide) rfl ?_
  refine E_goto (tgt := 57) dX12_image_88 (by decide) ?_
  refine E_iload_n dX12_image_57 rfl ?_
  refine E_bipush (v := 12) dX12_image_58 (by decide) ?_
  refine E_icmp_ge (tgt := 91) dX12_image_60 (by decide) (fun c => absurd c (by decide)) (fun _ => ?_)
  refine E_aload_n dX12_image_63 rfl ?_
  refine E_iload_n dX12_image_64 rfl ?_
  refine E_callVR (st := []) (c_X12_rowOf_0_k2 l D dA ad (pAr (pAr (pAr (pAr (pAr (pAr (pAr (pI S 10 1) 29 (upd (S.2 29) 0 (S.1 0))) 29 (upd (upd (S.2 29) 0 (S.1 0)) 1 (S.1 1))) 29 (upd (upd (upd (S.2 29) 0 (S.1 0)) 1 (S.1 1)) 2 (S.1 2))) 29 (upd (upd (upd (upd (S.2 29) 0 (S.1 0)) 1 (S.1 1)) 2 (S.1 2)) 3 (S.1 3))) 29 (upd (upd (upd (upd (upd (S.2 29) 0 (S.1 0)) 1 (S.1 1)) 2 (S.1 2)) 3 (S.1 3)) 4 (S.1 4))) 12 (va_cpy (S.2 0) (S.2 12) 0 0 10)) 13 (va_cpy (S.2 1) (S.2 13) 0 0 10))) mf_X12_rowOf rfl rfl gX12_image_X12_rowOf (pRc.of (ci := 12) rfl rfl) (by omega) rfl (Nat.le_of_ble_eq_true rfl) (by rfl) dX12_image_65 (fun r5 h5 q5 => ?_)
  obtain ⟨rfl, rfl⟩ := q5
  refine E_iconst (v := 0) dX12_image_68 (by decide) ?_
  refine E_aload_n dX12_image_69 rfl ?_
  refine E_getf (v := .ref 25) dX12_image_70 fl_X12_image_88 rfl rfl ?_
  refine E_iload_n dX12_image_73 rfl ?_
  refine E_aald (k0 := 28) dX12_image_74 rfl (pin_in (by decide)) rfl ?_
  refine E_iconst (v := 0) dX12_image_75 (by decide) ?_
  refine E_aload_n dX12_image_76 rfl ?_
  refine E_iload_n dX12_image_77 rfl ?_
  refine E_callVR (st := [.int 0, .ref 28, .int 0, .ref 3]) (c_X12_rowOf_0_k2 l D dA ad (pAr (pAr (pAr (pAr (pAr (pAr (pAr (pI S 10 1) 29 (upd (S.2 29) 0 (S.1 0))) 29 (upd (upd (S.2 29) 0 (S.1 0)) 1 (S.1 1))) 29 (upd (upd (upd (S.2 29) 0 (S.1 0)) 1 (S.1 1)) 2 (S.1 2))) 29 (upd (upd (upd (upd (S.2 29) 0 (S.1 0)) 1 (S.1 1)) 2 (S.1 2)) 3 (S.1 3))) 29 (upd (upd (upd (upd (upd (S.2 29) 0 (S.1 0)) 1 (S.1 1)) 2 (S.1 2)) 3 (S.1 3)) 4 (S.1 4))) 12 (va_cpy (S.2 0) (S.2 12) 0 0 10)) 13 (va_cpy (S.2 1) (S.2 13) 0 0 10))) mf_X12_rowOf rfl rfl gX12_image_X12_rowOf (pRc.of (ci := 12) rfl rfl) (by omega) rfl (Nat.le_of_ble_eq_true rfl) (by rfl) dX12_image_78 (fun r6 h6 q6 => ?_)
  obtain ⟨rfl, rfl⟩ := q6
  refine E_alen dX12_image_81 rfl (by decide) ?_
  refine E_val (y := 16) rfl ?_
  refine E_copy (i := 0) (j := 0) (k0 := 16) (n0 := 16) (n1 := 16) (f := S.2 2) (g := S.2 14) (h' := hM (pAr (pAr (pAr (pAr (pAr (pAr (pAr (pAr (pI S 10 1) 29 (upd (S.2 29) 0 (S.1 0))) 29 (upd (upd (S.2 29) 0 (S.1 0)) 1 (S.1 1))) 29 (upd (upd (upd (S.2 29) 0 (S.1 0)) 1 (S.1 1)) 2 (S.1 2))) 29 (upd (upd (upd (upd (S.2 29) 0 (S.1 0)) 1 (S.1 1)) 2 (S.1 2)) 3 (S.1 3))) 29 (upd (upd (upd (upd (upd (S.2 29) 0 (S.1 0)) 1 (S.1 1)) 2 (S.1 2)) 3 (S.1 3)) 4 (S.1 4))) 12 (va_cpy (S.2 0) (S.2 12) 0 0 10)) 13 (va_cpy (S.2 1) (S.2 13) 0 0 10)) 14 (va_cpy (S.2 2) (S.2 14) 0 0 16))) (by decide +kernel) (by decide +kernel) (by decide +kernel) (by decide +kernel) rfl rfl (by decide) (by decide) (by decide) (by decide) (by omega) (Nat.le_of_ble_eq_true rfl) (by rfl) dX12_image_82 (sM_A14 (pAr (pAr (pAr (pAr (pAr (pAr (pAr (pI S 10 1) 29 (upd (S.2 29) 0 (S.1 0))) 29 (upd (upd (S.2 29) 0 (S.1 0)) 1 (S.1 1))) 29 (upd (upd (upd (S.2 29) 0 (S.1 0)) 1 (S.1 1)) 2 (S.1 2))) 29 (upd (upd (upd (upd (S.2 29) 0 (S.1 0)) 1 (S.1 1)) 2 (S.1 2)) 3 (S.1 3))) 29 (upd (upd (upd (upd (upd (S.2 29) 0 (S.1 0)) 1 (S.1 1)) 2 (S.1 2)) 3 (S.1 3)) 4 (S.1 4))) 12 (va_cpy (S.2 0) (S.2 12) 0 0 10)) 13 (va_cpy (S.2 1) (S.2 13) 0 0 10)) (va_cpy (S.2 2) (S.2 14) 0 0 16)) ?_
  refine E_iinc (v := 3) (ls' := [(0, .ref 0), (1, .int 3)]) dX12_image_85 rfl (by decide) (by decide) rfl ?_
  refine E_goto (tgt := 57) dX12_image_88 (by decide) ?_
  refine E_iload_n dX12_image_57 rfl ?_
  refine E_bipush (v := 12) dX12_image_58 (by decide) ?_
  refine E_icmp_ge (tgt := 91) dX12_image_60 (by decide) (fun c => absurd c (by decide)) (fun _ => ?_)
  refine E_aload_n dX12_image_63 rfl ?_
  refine E_iload_n dX12_image_64 rfl ?_
  refine E_callVR (st := []) (c_X12_rowOf_0_k3 l D dA ad (pAr (pAr (pAr (pAr (pAr (pAr (pAr (pAr (pI S 10 1) 29 (upd (S.2 29) 0 (S.1 0))) 29 (upd (upd (S.2 29) 0 (S.1 0)) 1 (S.1 1))) 29 (upd (upd (upd (S.2 29) 0 (S.1 0)) 1 (S.1 1)) 2 (S.1 2))) 29 (upd (upd (upd (upd (S.2 29) 0 (S.1 0)) 1 (S.1 1)) 2 (S.1 2)) 3 (S.1 3))) 29 (upd (upd (upd (upd (upd (S.2 29) 0 (S.1 0)) 1 (S.1 1)) 2 (S.1 2)) 3 (S.1 3)) 4 (S.1 4))) 12 (va_cpy (S.2 0) (S.2 12) 0 0 10)) 13 (va_cpy (S.2 1) (S.2 13) 0 0 10)) 14 (va_cpy (S.2 2) (S.2 14) 0 0 16))) mf_X12_rowOf rfl rfl gX12_image_X12_rowOf (pRc.of (ci := 12) rfl rfl) (by omega) rfl (Nat.le_of_ble_eq_true rfl) (by rfl) dX12_image_65 (fun r7 h7 q7 => ?_)
  obtain ⟨rfl, rfl⟩ := q7
  refine E_iconst (v := 0) dX12_image_68 (by decide) ?_
  refine E_aload_n dX12_image_69 rfl ?_
  refine E_getf (v := .ref 25) dX12_image_70 fl_X12_image_88 rfl rfl ?_
  refine E_iload_n dX12_image_73 rfl ?_
  refine E_aald (k0 := 29) dX12_image_74 rfl (pin_in (by decide)) rfl ?_
  refine E_iconst (v := 0) dX12_image_75 (by decide) ?_
  refine E_aload_n dX12_image_76 rfl ?_
  refine E_iload_n dX12_image_77 rfl ?_
  refine E_callVR (st := [.int 0, .ref 29, .int 0, .ref 4]) (c_X12_rowOf_0_k3 l D dA ad (pAr (pAr (pAr (pAr (pAr (pAr (pAr (pAr (pI S 10 1) 29 (upd (S.2 29) 0 (S.1 0))) 29 (upd (upd (S.2 29) 0 (S.1 0)) 1 (S.1 1))) 29 (upd (upd (upd (S.2 29) 0 (S.1 0)) 1 (S.1 1)) 2 (S.1 2))) 29 (upd (upd (upd (upd (S.2 29) 0 (S.1 0)) 1 (S.1 1)) 2 (S.1 2)) 3 (S.1 3))) 29 (upd (upd (upd (upd (upd (S.2 29) 0 (S.1 0)) 1 (S.1 1)) 2 (S.1 2)) 3 (S.1 3)) 4 (S.1 4))) 12 (va_cpy (S.2 0) (S.2 12) 0 0 10)) 13 (va_cpy (S.2 1) (S.2 13) 0 0 10)) 14 (va_cpy (S.2 2) (S.2 14) 0 0 16))) mf_X12_rowOf rfl rfl gX12_image_X12_rowOf (pRc.of (ci := 12) rfl rfl) (by omega) rfl (Nat.le_of_ble_eq_true rfl) (by rfl) dX12_image_78 (fun r8 h8 q8 => ?_)
  obtain ⟨rfl, rfl⟩ := q8
  refine E_alen dX12_image_81 rfl (by decide) ?_
  refine E_val (y := 16) rfl ?_
  refine E_copy (i := 0) (j := 0) (k0 := 16) (n0 := 16) (n1 := 16) (f := S.2 3) (g := S.2 15) (h' := hM (pAr (pAr (pAr (pAr (pAr (pAr (pAr (pAr (pAr (pI S 10 1) 29 (upd (S.2 29) 0 (S.1 0))) 29 (upd (upd (S.2 29) 0 (S.1 0)) 1 (S.1 1))) 29 (upd (upd (upd (S.2 29) 0 (S.1 0)) 1 (S.1 1)) 2 (S.1 2))) 29 (upd (upd (upd (upd (S.2 29) 0 (S.1 0)) 1 (S.1 1)) 2 (S.1 2)) 3 (S.1 3))) 29 (upd (upd (upd (upd (upd (S.2 29) 0 (S.1 0)) 1 (S.1 1)) 2 (S.1 2)) 3 (S.1 3)) 4 (S.1 4))) 12 (va_cpy (S.2 0) (S.2 12) 0 0 10)) 13 (va_cpy (S.2 1) (S.2 13) 0 0 10)) 14 (va_cpy (S.2 2) (S.2 14) 0 0 16)) 15 (va_cpy (S.2 3) (S.2 15) 0 0 16))) (by decide +kernel) (by decide +kernel) (by decide +kernel) (by decide +kernel) rfl rfl (by decide) (by decide) (by decide) (by decide) (by omega) (Nat.le_of_ble_eq_true rfl) (by rfl) dX12_image_82 (sM_A15 (pAr (pAr (pAr (pAr (pAr (pAr (pAr (pAr (pI S 10 1) 29 (upd (S.2 29) 0 (S.1 0))) 29 (upd (upd (S.2 29) 0 (S.1 0)) 1 (S.1 1))) 29 (upd (upd (upd (S.2 29) 0 (S.1 0)) 1 (S.1 1)) 2 (S.1 2))) 29 (upd (upd (upd (upd (S.2 29) 0 (S.1 0)) 1 (S.1 1)) 2 (S.1 2)) 3 (S.1 3))) 29 (upd (upd (upd (upd (upd (S.2 29) 0 (S.1 0)) 1 (S.1 1)) 2 (S.1 2)) 3 (S.1 3)) 4 (S.1 4))) 12 (va_cpy (S.2 0) (S.2 12) 0 0 10)) 13 (va_cpy (S.2 1) (S.2 13) 0 0 10)) 14 (va_cpy (S.2 2) (S.2 14) 0 0 16)) (va_cpy (S.2 3) (S.2 15) 0 0 16)) ?_
  refine E_iinc (v := 4) (ls' := [(0, .ref 0), (1, .int 4)]) dX12_image_85 rfl (by decide) (by decide) rfl ?_
  refine E_goto (tgt := 57) dX12_image_88 (by decide) ?_
  refine E_iload_n dX12_image_57 rfl ?_
  refine E_bipush (v := 12) dX12_image_58 (by decide) ?_
  refine E_icmp_ge (tgt := 91) dX12_image_60 (by decide) (fun c => absurd c (by decide)) (fun _ => ?_)
  refine E_aload_n dX12_image_63 rfl ?_
  refine E_iload_n dX12_image_64 rfl ?_
  refine E_callVR (st := []) (c_X12_rowOf_0_k4 l D dA ad (pAr (pAr (pAr (pAr (pAr (pAr (pAr (pAr (pAr (pI S 10 1) 29 (upd (S.2 29) 0 (S.1 0))) 29 (upd (upd (S.2 29) 0 (S.1 0)) 1 (S.1 1))) 29 (upd (upd (upd (S.2 29) 0 (S.1 0)) 1 (S.1 1)) 2 (S.1 2))) 29 (upd (upd (upd (upd (S.2 29) 0 (S.1 0)) 1 (S.1 1)) 2 (S.1 2)) 3 (S.1 3))) 29 (upd (upd (upd (upd (upd (S.2 29) 0 (S.1 0)) 1 (S.1 1)) 2 (S.1 2)) 3 (S.1 3)) 4 (S.1 4))) 12 (va_cpy (S.2 0) (S.2 12) 0 0 10)) 13 (va_cpy (S.2 1) (S.2 13) 0 0 10)) 14 (va_cpy (S.2 2) (S.2 14) 0 0 16)) 15 (va_cpy (S.2 3) (S.2 15) 0 0 16))) mf_X12_rowOf rfl rfl gX12_image_X12_rowOf (pRc.of (ci := 12) rfl rfl) (by omega) rfl (Nat.le_of_ble_eq_true rfl) (by rfl) dX12_image_65 (fun r9 h9 q9 => ?_)
  obtain ⟨rfl, rfl⟩ := q9
  refine E_iconst (v := 0) dX12_image_68 (by decide) ?_
  refine E_aload_n dX12_image_69 rfl ?_
  refine E_getf (v := .ref 25) dX12_image_70 fl_X12_image_88 rfl rfl ?_
  refine E_iload_n dX12_image_73 rfl ?_
  refine E_aald (k0 := 30) dX12_image_74 rfl (pin_in (by decide)) rfl ?_
  refine E_iconst (v := 0) dX12_image_75 (by decide) ?_
  refine E_aload_n dX12_image_76 rfl ?_
  refine E_iload_n dX12_image_77 rfl ?_
  refine E_callVR (st := [.int 0, .ref 30, .int 0, .ref 5]) (c_X12_rowOf_0_k4 l D dA ad (pAr (pAr (pAr (pAr (pAr (pAr (pAr (pAr (pAr (pI S 10 1) 29 (upd (S.2 29) 0 (S.1 0))) 29 (upd (upd (S.2 29) 0 (S.1 0)) 1 (S.1 1))) 29 (upd (upd (upd (S.2 29) 0 (S.1 0)) 1 (S.1 1)) 2 (S.1 2))) 29 (upd (upd (upd (upd (S.2 29) 0 (S.1 0)) 1 (S.1 1)) 2 (S.1 2)) 3 (S.1 3))) 29 (upd (upd (upd (upd (upd (S.2 29) 0 (S.1 0)) 1 (S.1 1)) 2 (S.1 2)) 3 (S.1 3)) 4 (S.1 4))) 12 (va_cpy (S.2 0) (S.2 12) 0 0 10)) 13 (va_cpy (S.2 1) (S.2 13) 0 0 10)) 14 (va_cpy (S.2 2) (S.2 14) 0 0 16)) 15 (va_cpy (S.2 3) (S.2 15) 0 0 16))) mf_X12_rowOf rfl rfl gX12_image_X12_rowOf (pRc.of (ci := 12) rfl rfl) (by omega) rfl (Nat.le_of_ble_eq_true rfl) (by rfl) dX12_image_78 (fun r10 h10 q10 => ?_)
  obtain ⟨rfl, rfl⟩ := q10
  refine E_alen dX12_image_81 rfl (by decide) ?_
  refine E_val (y := 16) rfl ?_
  refine E_copy (i := 0) (j := 0) (k0 := 16) (n0 := 16) (n1 := 16) (f := S.2 4) (g := S.2 16) (h' := hM (pAr (pAr (pAr (pAr (pAr (pAr (pAr (pAr (pAr (pAr (pI S 10 1) 29 (upd (S.2 29) 0 (S.1 0))) 29 (upd (upd (S.2 29) 0 (S.1 0)) 1 (S.1 1))) 29 (upd (upd (upd (S.2 29) 0 (S.1 0)) 1 (S.1 1)) 2 (S.1 2))) 29 (upd (upd (upd (upd (S.2 29) 0 (S.1 0)) 1 (S.1 1)) 2 (S.1 2)) 3 (S.1 3))) 29 (upd (upd (upd (upd (upd (S.2 29) 0 (S.1 0)) 1 (S.1 1)) 2 (S.1 2)) 3 (S.1 3)) 4 (S.1 4))) 12 (va_cpy (S.2 0) (S.2 12) 0 0 10)) 13 (va_cpy (S.2 1) (S.2 13) 0 0 10)) 14 (va_cpy (S.2 2) (S.2 14) 0 0 16)) 15 (va_cpy (S.2 3) (S.2 15) 0 0 16)) 16 (va_cpy (S.2 4) (S.2 16) 0 0 16))) (by decide +kernel) (by decide +kernel) (by decide +kernel) (by decide +kernel) rfl rfl (by decide) (by decide) (by decide) (by decide) (by omega) (Nat.le_of_ble_eq_true rfl) (by rfl) dX12_image_82 (sM_A16 (pAr (pAr (pAr (pAr (pAr (pAr (pAr (pAr (pAr (pI S 10 1) 29 (upd (S.2 29) 0 (S.1 0))) 29 (upd (upd (S.2 29) 0 (S.1 0)) 1 (S.1 1))) 29 (upd (upd (upd (S.2 29) 0 (S.1 0)) 1 (S.1 1)) 2 (S.1 2))) 29 (upd (upd (upd (upd (S.2 29) 0 (S.1 0)) 1 (S.1 1)) 2 (S.1 2)) 3 (S.1 3))) 29 (upd (upd (upd (upd (upd (S.2 29) 0 (S.1 0)) 1 (S.1 1)) 2 (S.1 2)) 3 (S.1 3)) 4 (S.1 4))) 12 (va_cpy (S.2 0) (S.2 12) 0 0 10)) 13 (va_cpy (S.2 1) (S.2 13) 0 0 10)) 14 (va_cpy (S.2 2) (S.2 14) 0 0 16)) 15 (va_cpy (S.2 3) (S.2 15) 0 0 16)) (va_cpy (S.2 4) (S.2 16) 0 0 16)) ?_
  refine E_iinc (v := 5) (ls' := [(0, .ref 0), (1, .int 5)]) dX12_image_85 rfl (by decide) (by decide) rfl ?_
  refine E_goto (tgt := 57) dX12_image_88 (by decide) ?_
  refine E_iload_n dX12_image_57 rfl ?_
  refine E_bipush (v := 12) dX12_image_58 (by decide) ?_
  refine E_icmp_ge (tgt := 91) dX12_image_60 (by decide) (fun c => absurd c (by decide)) (fun _ => ?_)
  refine E_aload_n dX12_image_63 rfl ?_
  refine E_iload_n dX12_image_64 rfl ?_
  refine E_callVR (st := []) (c_X12_rowOf_0_k5 l D dA ad (pAr (pAr (pAr (pAr (pAr (pAr (pAr (pAr (pAr (pAr (pI S 10 1) 29 (upd (S.2 29) 0 (S.1 0))) 29 (upd (upd (S.2 29) 0 (S.1 0)) 1 (S.1 1))) 29 (upd (upd (upd (S.2 29) 0 (S.1 0)) 1 (S.1 1)) 2 (S.1 2))) 29 (upd (upd (upd (upd (S.2 29) 0 (S.1 0)) 1 (S.1 1)) 2 (S.1 2)) 3 (S.1 3))) 29 (upd (upd (upd (upd (upd (S.2 29) 0 (S.1 0)) 1 (S.1 1)) 2 (S.1 2)) 3 (S.1 3)) 4 (S.1 4))) 12 (va_cpy (S.2 0) (S.2 12) 0 0 10)) 13 (va_cpy (S.2 1) (S.2 13) 0 0 10)) 14 (va_cpy (S.2 2) (S.2 14) 0 0 16)) 15 (va_cpy (S.2 3) (S.2 15) 0 0 16)) 16 (va_cpy (S.2 4) (S.2 16) 0 0 16))) mf_X12_rowOf rfl rfl gX12_image_X12_rowOf (pRc.of (ci := 12) rfl rfl) (by omega) rfl (Nat.le_of_ble_eq_true rfl) (by rfl) dX12_image_65 (fun r11 h11 q11 => ?_)
  obtain ⟨rfl, rfl⟩ := q11
  refine E_iconst (v := 0) dX12_image_68 (by decide) ?_
  refine E_aload_n dX12_image_69 rfl ?_
  refine E_getf (v := .ref 25) dX12_image_70 fl_X12_image_88 rfl rfl ?_
  refine E_iload_n dX12_image_73 rfl ?_
  refine E_aald (k0 := 31) dX12_image_74 rfl (pin_in (by decide)) rfl ?_
  refine E_iconst (v := 0) dX12_image_75 (by decide) ?_
  refine E_aload_n dX12_image_76 rfl ?_
  refine E_iload_n dX12_image_77 rfl ?_
  refine E_callVR (st := [.int 0, .ref 31, .int 0, .ref 6]) (c_X12_rowOf_0_k5 l D dA ad (pAr (pAr (pAr (pAr (pAr (pAr (pAr (pAr (pAr (pAr (pI S 10 1) 29 (upd (S.2 29) 0 (S.1 0))) 29 (upd (upd (S.2 29) 0 (S.1 0)) 1 (S.1 1))) 29 (upd (upd (upd (S.2 29) 0 (S.1 0)) 1 (S.1 1)) 2 (S.1 2))) 29 (upd (upd (upd (upd (S.2 29) 0 (S.1 0)) 1 (S.1 1)) 2 (S.1 2)) 3 (S.1 3))) 29 (upd (upd (upd (upd (upd (S.2 29) 0 (S.1 0)) 1 (S.1 1)) 2 (S.1 2)) 3 (S.1 3)) 4 (S.1 4))) 12 (va_cpy (S.2 0) (S.2 12) 0 0 10)) 13 (va_cpy (S.2 1) (S.2 13) 0 0 10)) 14 (va_cpy (S.2 2) (S.2 14) 0 0 16)) 15 (va_cpy (S.2 3) (S.2 15) 0 0 16)) 16 (va_cpy (S.2 4) (S.2 16) 0 0 16))) mf_X12_rowOf rfl rfl gX12_image_X12_rowOf (pRc.of (ci := 12) rfl rfl) (by omega) rfl (Nat.le_of_ble_eq_true rfl) (by rfl) dX12_image_78 (fun r12 h12 q12 => ?_)
  obtain ⟨rfl, rfl⟩ := q12
  refine E_alen dX12_image_81 rfl (by decide) ?_
  refine E_val (y := 16) rfl ?_
  refine E_copy (i := 0) (j := 0) (k0 := 16) (n0 := 16) (n1 := 16) (f := S.2 5) (g := S.2 17) (h' := hM (pAr (pAr (pAr (pAr (pAr (pAr (pAr (pAr (pAr (pAr (pAr (pI S 10 1) 29 (upd (S.2 29) 0 (S.1 0))) 29 (upd (upd (S.2 29) 0 (S.1 0)) 1 (S.1 1))) 29 (upd (upd (upd (S.2 29) 0 (S.1 0)) 1 (S.1 1)) 2 (S.1 2))) 29 (upd (upd (upd (upd (S.2 29) 0 (S.1 0)) 1 (S.1 1)) 2 (S.1 2)) 3 (S.1 3))) 29 (upd (upd (upd (upd (upd (S.2 29) 0 (S.1 0)) 1 (S.1 1)) 2 (S.1 2)) 3 (S.1 3)) 4 (S.1 4))) 12 (va_cpy (S.2 0) (S.2 12) 0 0 10)) 13 (va_cpy (S.2 1) (S.2 13) 0 0 10)) 14 (va_cpy (S.2 2) (S.2 14) 0 0 16)) 15 (va_cpy (S.2 3) (S.2 15) 0 0 16)) 16 (va_cpy (S.2 4) (S.2 16) 0 0 16)) 17 (va_cpy (S.2 5) (S.2 17) 0 0 16))) (by decide +kernel) (by decide +kernel) (by decide +kernel) (by decide +kernel) rfl rfl (by decide) (by decide) (by decide) (by decide) (by omega) (Nat.le_of_ble_eq_true rfl) (by rfl) dX12_image_82 (sM_A17 (pAr (pAr (pAr (pAr (pAr (pAr (pAr (pAr (pAr (pAr (pI S 10 1) 29 (upd (S.2 29) 0 (S.1 0))) 29 (upd (upd (S.2 29) 0 (S.1 0)) 1 (S.1 1))) 29 (upd (upd (upd (S.2 29) 0 (S.1 0)) 1 (S.1 1)) 2 (S.1 2))) 29 (upd (upd (upd (upd (S.2 29) 0 (S.1 0)) 1 (S.1 1)) 2 (S.1 2)) 3 (S.1 3))) 29 (upd (upd (upd (upd (upd (S.2 29) 0 (S.1 0)) 1 (S.1 1)) 2 (S.1 2)) 3 (S.1 3)) 4 (S.1 4))) 12 (va_cpy (S.2 0) (S.2 12) 0 0 10)) 13 (va_cpy (S.2 1) (S.2 13) 0 0 10)) 14 (va_cpy (S.2 2) (S.2 14) 0 0 16)) 15 (va_cpy (S.2 3) (S.2 15) 0 0 16)) 16 (va_cpy (S.2 4) (S.2 16) 0 0 16)) (va_cpy (S.2 5) (S.2 17) 0 0 16)) ?_
  refine E_iinc (v := 6) (ls' := [(0, .ref 0), (1, .int 6)]) dX12_image_85 rfl (by decide) (by decide) rfl ?_
  refine E_goto (tgt := 57) dX12_image_88 (by decide) ?_
  refine E_iload_n dX12_image_57 rfl ?_
  refine E_bipush (v := 12) dX12_image_58 (by decide) ?_
  refine E_icmp_ge (tgt := 91) dX12_image_60 (by decide) (fun c => absurd c (by decide)) (fun _ => ?_)
  refine E_aload_n dX12_image_63 rfl ?_
  refine E_iload_n dX12_image_64 rfl ?_
  refine E_callVR (st := []) (c_X12_rowOf_0_k6 l D dA ad (pAr (pAr (pAr (pAr (pAr (pAr (pAr (pAr (pAr (pAr (pAr (pI S 10 1) 29 (upd (S.2 29) 0 (S.1 0))) 29 (upd (upd (S.2 29) 0 (S.1 0)) 1 (S.1 1))) 29 (upd (upd (upd (S.2 29) 0 (S.1 0)) 1 (S.1 1)) 2 (S.1 2))) 29 (upd (upd (upd (upd (S.2 29) 0 (S.1 0)) 1 (S.1 1)) 2 (S.1 2)) 3 (S.1 3))) 29 (upd (upd (upd (upd (upd (S.2 29) 0 (S.1 0)) 1 (S.1 1)) 2 (S.1 2)) 3 (S.1 3)) 4 (S.1 4))) 12 (va_cpy (S.2 0) (S.2 12) 0 0 10)) 13 (va_cpy (S.2 1) (S.2 13) 0 0 10)) 14 (va_cpy (S.2 2) (S.2 14) 0 0 16)) 15 (va_cpy (S.2 3) (S.2 15) 0 0 16)) 16 (va_cpy (S.2 4) (S.2 16) 0 0 16)) 17 (va_cpy (S.2 5) (S.2 17) 0 0 16))) mf_X12_rowOf rfl rfl gX12_image_X12_rowOf (pRc.of (ci := 12) rfl rfl) (by omega) rfl (Nat.le_of_ble_eq_true rfl) (by rfl) dX12_image_65 (fun r13 h13 q13 => ?_)
  obtain ⟨rfl, rfl⟩ := q13
  refine E_iconst (v := 0) dX12_image_68 (by decide) ?_
  refine E_aload_n dX12_image_69 rfl ?_
  refine E_getf (v := .ref 25) dX12_image_70 fl_X12_image_88 rfl rfl ?_
  refine E_iload_n dX12_image_73 rfl ?_
  refine E_aald (k0 := 32) dX12_image_74 rfl (pin_in (by decide)) rfl ?_
  refine E_iconst (v := 0) dX12_image_75 (by decide) ?_
  refine E_aload_n dX12_image_76 rfl ?_
  refine E_iload_n dX12_image_77 rfl ?_
  refine E_callVR (st := [.int 0, .ref 32, .int 0, .ref 7]) (c_X12_rowOf_0_k6 l D dA ad (pAr (pAr (pAr (pAr (pAr (pAr (pAr (pAr (pAr (pAr (pAr (pI S 10 1) 29 (upd (S.2 29) 0 (S.1 0))) 29 (upd (upd (S.2 29) 0 (S.1 0)) 1 (S.1 1))) 29 (upd (upd (upd (S.2 29) 0 (S.1 0)) 1 (S.1 1)) 2 (S.1 2))) 29 (upd (upd (upd (upd (S.2 29) 0 (S.1 0)) 1 (S.1 1)) 2 (S.1 2)) 3 (S.1 3))) 29 (upd (upd (upd (upd (upd (S.2 29) 0 (S.1 0)) 1 (S.1 1)) 2 (S.1 2)) 3 (S.1 3)) 4 (S.1 4))) 12 (va_cpy (S.2 0) (S.2 12) 0 0 10)) 13 (va_cpy (S.2 1) (S.2 13) 0 0 10)) 14 (va_cpy (S.2 2) (S.2 14) 0 0 16)) 15 (va_cpy (S.2 3) (S.2 15) 0 0 16)) 16 (va_cpy (S.2 4) (S.2 16) 0 0 16)) 17 (va_cpy (S.2 5) (S.2 17) 0 0 16))) mf_X12_rowOf rfl rfl gX12_image_X12_rowOf (pRc.of (ci := 12) rfl rfl) (by omega) rfl (Nat.le_of_ble_eq_true rfl) (by rfl) dX12_image_78 (fun r14 h14 q14 => ?_)
  obtain ⟨rfl, rfl⟩ := q14
  refine E_alen dX12_image_81 rfl (by decide) ?_
  refine E_val (y := 16) rfl ?_
  refine E_copy (i := 0) (j := 0) (k0 := 16) (n0 := 16) (n1 := 16) (f := S.2 6) (g := S.2 18) (h' := hM (pAr (pAr (pAr (pAr (pAr (pAr (pAr (pAr (pAr (pAr (pAr (pAr (pI S 10 1) 29 (upd (S.2 29) 0 (S.1 0))) 29 (upd (upd (S.2 29) 0 (S.1 0)) 1 (S.1 1))) 29 (upd (upd (upd (S.2 29) 0 (S.1 0)) 1 (S.1 1)) 2 (S.1 2))) 29 (upd (upd (upd (upd (S.2 29) 0 (S.1 0)) 1 (S.1 1)) 2 (S.1 2)) 3 (S.1 3))) 29 (upd (upd (upd (upd (upd (S.2 29) 0 (S.1 0)) 1 (S.1 1)) 2 (S.1 2)) 3 (S.1 3)) 4 (S.1 4))) 12 (va_cpy (S.2 0) (S.2 12) 0 0 10)) 13 (va_cpy (S.2 1) (S.2 13) 0 0 10)) 14 (va_cpy (S.2 2) (S.2 14) 0 0 16)) 15 (va_cpy (S.2 3) (S.2 15) 0 0 16)) 16 (va_cpy (S.2 4) (S.2 16) 0 0 16)) 17 (va_cpy (S.2 5) (S.2 17) 0 0 16)) 18 (va_cpy (S.2 6) (S.2 18) 0 0 16))) (by decide +kernel) (by decide +kernel) (by decide +kernel) (by decide +kernel) rfl rfl (by decide) (by decide) (by decide) (by decide) (by omega) (Nat.le_of_ble_eq_true rfl) (by rfl) dX12_image_82 (sM_A18 (pAr (pAr (pAr (pAr (pAr (pAr (pAr (pAr (pAr (pAr (pAr (pI S 10 1) 29 (upd (S.2 29) 0 (S.1 0))) 29 (upd (upd (S.2 29) 0 (S.1 0)) 1 (S.1 1))) 29 (upd (upd (upd (S.2 29) 0 (S.1 0)) 1 (S.1 1)) 2 (S.1 2))) 29 (upd (upd (upd (upd (S.2 29) 0 (S.1 0)) 1 (S.1 1)) 2 (S.1 2)) 3 (S.1 3))) 29 (upd (upd (upd (upd (upd (S.2 29) 0 (S.1 0)) 1 (S.1 1)) 2 (S.1 2)) 3 (S.1 3)) 4 (S.1 4))) 12 (va_cpy (S.2 0) (S.2 12) 0 0 10)) 13 (va_cpy (S.2 1) (S.2 13) 0 0 10)) 14 (va_cpy (S.2 2) (S.2 14) 0 0 16)) 15 (va_cpy (S.2 3) (S.2 15) 0 0 16)) 16 (va_cpy (S.2 4) (S.2 16) 0 0 16)) 17 (va_cpy (S.2 5) (S.2 17) 0 0 16)) (va_cpy (S.2 6) (S.2 18) 0 0 16)) ?_
  refine E_iinc (v := 7) (ls' := [(0, .ref 0), (1, .int 7)]) dX12_image_85 rfl (by decide) (by decide) rfl ?_
  refine E_goto (tgt := 57) dX12_image_88 (by decide) ?_
  refine E_iload_n dX12_image_57 rfl ?_
  refine E_bipush (v := 12) dX12_image_58 (by decide) ?_
  refine E_icmp_ge (tgt := 91) dX12_image_60 (by decide) (fun c => absurd c (by decide)) (fun _ => ?_)
  refine E_aload_n dX12_image_63 rfl ?_
  refine E_iload_n dX12_image_64 rfl ?_
  refine E_callVR (st := []) (c_X12_rowOf_0_k7 l D dA ad (pAr (pAr (pAr (pAr (pAr (pAr (pAr (pAr (pAr (pAr (pAr (pAr (pI S 10 1) 29 (upd (S.2 29) 0 (S.1 0))) 29 (upd (upd (S.2 29) 0 (S.1 0)) 1 (S.1 1))) 29 (upd (upd (upd (S.2 29) 0 (S.1 0)) 1 (S.1 1)) 2 (S.1 2))) 29 (upd (upd (upd (upd (S.2 29) 0 (S.1 0)) 1 (S.1 1)) 2 (S.1 2)) 3 (S.1 3))) 29 (upd (upd (upd (upd (upd (S.2 29) 0 (S.1 0)) 1 (S.1 1)) 2 (S.1 2)) 3 (S.1 3)) 4 (S.1 4))) 12 (va_cpy (S.2 0) (S.2 12) 0 0 10)) 13 (va_cpy (S.2 1) (S.2 13) 0 0 10)) 14 (va_cpy (S.2 2) (S.2 14) 0 0 16)) 15 (va_cpy (S.2 3) (S.2 15) 0 0 16)) 16 (va_cpy (S.2 4) (S.2 16) 0 0 16)) 17 (va_cpy (S.2 5) (S.2 17) 0 0 16)) 18 (va_cpy (S.2 6) (S.2 18) 0 0 16))) mf_X12_rowOf rfl rfl gX12_image_X12_rowOf (pRc.of (ci := 12) rfl rfl) (by omega) rfl (Nat.le_of_ble_eq_true rfl) (by rfl) dX12_image_65 (fun r15 h15 q15 => ?_)
  obtain ⟨rfl, rfl⟩ := q15
  refine E_iconst (v := 0) dX12_image_68 (by decide) ?_
  refine E_aload_n dX12_image_69 rfl ?_
  refine E_getf (v := .ref 25) dX12_image_70 fl_X12_image_88 rfl rfl ?_
  refine E_iload_n dX12_image_73 rfl ?_
  refine E_aald (k0 := 33) dX12_image_74 rfl (pin_in (by decide)) rfl ?_
  refine E_iconst (v := 0) dX12_image_75 (by decide) ?_
  refine E_aload_n dX12_image_76 rfl ?_
  refine E_iload_n dX12_image_77 rfl ?_
  refine E_callVR (st := [.int 0, .ref 33, .int 0, .ref 8]) (c_X12_rowOf_0_k7 l D dA ad (pAr (pAr (pAr (pAr (pAr (pAr (pAr (pAr (pAr (pAr (pAr (pAr (pI S 10 1) 29 (upd (S.2 29) 0 (S.1 0))) 29 (upd (upd (S.2 29) 0 (S.1 0)) 1 (S.1 1))) 29 (upd (upd (upd (S.2 29) 0 (S.1 0)) 1 (S.1 1)) 2 (S.1 2))) 29 (upd (upd (upd (upd (S.2 29) 0 (S.1 0)) 1 (S.1 1)) 2 (S.1 2)) 3 (S.1 3))) 29 (upd (upd (upd (upd (upd (S.2 29) 0 (S.1 0)) 1 (S.1 1)) 2 (S.1 2)) 3 (S.1 3)) 4 (S.1 4))) 12 (va_cpy (S.2 0) (S.2 12) 0 0 10)) 13 (va_cpy (S.2 1) (S.2 13) 0 0 10)) 14 (va_cpy (S.2 2) (S.2 14) 0 0 16)) 15 (va_cpy (S.2 3) (S.2 15) 0 0 16)) 16 (va_cpy (S.2 4) (S.2 16) 0 0 16)) 17 (va_cpy (S.2 5) (S.2 17) 0 0 16)) 18 (va_cpy (S.2 6) (S.2 18) 0 0 16))) mf_X12_rowOf rfl rfl gX12_image_X12_rowOf (pRc.of (ci := 12) rfl rfl) (by omega) rfl (Nat.le_of_ble_eq_true rfl) (by rfl) dX12_image_78 (fun r16 h16 q16 => ?_)
  obtain ⟨rfl, rfl⟩ := q16
  refine E_alen dX12_image_81 rfl (by decide) ?_
  refine E_val (y := 16) rfl ?_
  refine E_copy (i := 0) (j := 0) (k0 := 16) (n0 := 16) (n1 := 16) (f := S.2 7) (g := S.2 19) (h' := hM (pAr (pAr (pAr (pAr (pAr (pAr (pAr (pAr (pAr (pAr (pAr (pAr (pAr (pI S 10 1) 29 (upd (S.2 29) 0 (S.1 0))) 29 (upd (upd (S.2 29) 0 (S.1 0)) 1 (S.1 1))) 29 (upd (upd (upd (S.2 29) 0 (S.1 0)) 1 (S.1 1)) 2 (S.1 2))) 29 (upd (upd (upd (upd (S.2 29) 0 (S.1 0)) 1 (S.1 1)) 2 (S.1 2)) 3 (S.1 3))) 29 (upd (upd (upd (upd (upd (S.2 29) 0 (S.1 0)) 1 (S.1 1)) 2 (S.1 2)) 3 (S.1 3)) 4 (S.1 4))) 12 (va_cpy (S.2 0) (S.2 12) 0 0 10)) 13 (va_cpy (S.2 1) (S.2 13) 0 0 10)) 14 (va_cpy (S.2 2) (S.2 14) 0 0 16)) 15 (va_cpy (S.2 3) (S.2 15) 0 0 16)) 16 (va_cpy (S.2 4) (S.2 16) 0 0 16)) 17 (va_cpy (S.2 5) (S.2 17) 0 0 16)) 18 (va_cpy (S.2 6) (S.2 18) 0 0 16)) 19 (va_cpy (S.2 7) (S.2 19) 0 0 16))) (by decide +kernel) (by decide +kernel) (by decide +kernel) (by decide +kernel) rfl rfl (by decide) (by decide) (by decide) (by decide) (by omega) (Nat.le_of_ble_eq_true rfl) (by rfl) dX12_image_82 (sM_A19 (pAr (pAr (pAr (pAr (pAr (pAr (pAr (pAr (pAr (pAr (pAr (pAr (pI S 10 1) 29 (upd (S.2 29) 0 (S.1 0))) 29 (upd (upd (S.2 29) 0 (S.1 0)) 1 (S.1 1))) 29 (upd (upd (upd (S.2 29) 0 (S.1 0)) 1 (S.1 1)) 2 (S.1 2))) 29 (upd (upd (upd (upd (S.2 29) 0 (S.1 0)) 1 (S.1 1)) 2 (S.1 2)) 3 (S.1 3))) 29 (upd (upd (upd (upd (upd (S.2 29) 0 (S.1 0)) 1 (S.1 1)) 2 (S.1 2)) 3 (S.1 3)) 4 (S.1 4))) 12 (va_cpy (S.2 0) (S.2 12) 0 0 10)) 13 (va_cpy (S.2 1) (S.2 13) 0 0 10)) 14 (va_cpy (S.2 2) (S.2 14) 0 0 16)) 15 (va_cpy (S.2 3) (S.2 15) 0 0 16)) 16 (va_cpy (S.2 4) (S.2 16) 0 0 16)) 17 (va_cpy (S.2 5) (S.2 17) 0 0 16)) 18 (va_cpy (S.2 6) (S.2 18) 0 0 16)) (va_cpy (S.2 7) (S.2 19) 0 0 16)) ?_
  refine E_iinc (v := 8) (ls' := [(0, .ref 0), (1, .int 8)]) dX12_image_85 rfl (by decide) (by decide) rfl ?_
  refine E_goto (tgt := 57) dX12_image_88 (by decide) ?_
  refine E_iload_n dX12_image_57 rfl ?_
  refine E_bipush (v := 12) dX12_image_58 (by decide) ?_
  refine E_icmp_ge (tgt := 91) dX12_image_60 (by decide) (fun c => absurd c (by decide)) (fun _ => ?_)
  refine E_aload_n dX12_image_63 rfl ?_
  refine E_iload_n dX12_image_64 rfl ?_
  refine E_callVR (st := []) (c_X12_rowOf_0_k8 l D dA ad (pAr (pAr (pAr (pAr (pAr (pAr (pAr (pAr (pAr (pAr (pAr (pAr (pAr (pI S 10 1) 29 (upd (S.2 29) 0 (S.1 0))) 29 (upd (upd (S.2 29) 0 (S.1 0)) 1 (S.1 1))) 29 (upd (upd (upd (S.2 29) 0 (S.1 0)) 1 (S.1 1)) 2 (S.1 2))) 29 (upd (upd (upd (upd (S.2 29) 0 (S.1 0)) 1 (S.1 1)) 2 (S.1 2)) 3 (S.1 3))) 29 (upd (upd (upd (upd (upd (S.2 29) 0 (S.1 0)) 1 (S.1 1)) 2 (S.1 2)) 3 (S.1 3)) 4 (S.1 4))) 12 (va_cpy (S.2 0) (S.2 12) 0 0 10)) 13 (va_cpy (S.2 1) (S.2 13) 0 0 10)) 14 (va_cpy (S.2 2) (S.2 14) 0 0 16)) 15 (va_cpy (S.2 3) (S.2 15) 0 0 16)) 16 (va_cpy (S.2 4) (S.2 16) 0 0 16)) 17 (va_cpy (S.2 5) (S.2 17) 0 0 16)) 18 (va_cpy (S.2 6) (S.2 18) 0 0 16)) 19 (va_cpy (S.2 7) (S.2 19) 0 0 16))) mf_X12_rowOf rfl rfl gX12_image_X12_rowOf (pRc.of (ci := 12) rfl rfl) (by omega) rfl (Nat.le_of_ble_eq_true rfl) (by rfl) dX12_image_65 (fun r17 h17 q17 => ?_)
  obtain ⟨rfl, rfl⟩ := q17
  refine E_iconst (v := 0) dX12_image_68 (by decide) ?_
  refine E_aload_n dX12_image_69 rfl ?_
  refine E_getf (v := .ref 25) dX12_image_70 fl_X12_image_88 rfl rfl ?_
  refine E_iload_n dX12_image_73 rfl ?_
  refine E_aald (k0 := 34) dX12_image_74 rfl (pin_in (by decide)) rfl ?_
  refine E_iconst (v := 0) dX12_image_75 (by decide) ?_
  refine E_aload_n dX12_image_76 rfl ?_
  refine E_iload_n dX12_image_77 rfl ?_
  refine E_callVR (st := [.int 0, .ref 34, .int 0, .ref 9]) (c_X12_rowOf_0_k8 l D dA ad (pAr (pAr (pAr (pAr (pAr (pAr (pAr (pAr (pAr (pAr (pAr (pAr (pAr (pI S 10 1) 29 (upd (S.2 29) 0 (S.1 0))) 29 (upd (upd (S.2 29) 0 (S.1 0)) 1 (S.1 1))) 29 (upd (upd (upd (S.2 29) 0 (S.1 0)) 1 (S.1 1)) 2 (S.1 2))) 29 (upd (upd (upd (upd (S.2 29) 0 (S.1 0)) 1 (S.1 1)) 2 (S.1 2)) 3 (S.1 3))) 29 (upd (upd (upd (upd (upd (S.2 29) 0 (S.1 0)) 1 (S.1 1)) 2 (S.1 2)) 3 (S.1 3)) 4 (S.1 4))) 12 (va_cpy (S.2 0) (S.2 12) 0 0 10)) 13 (va_cpy (S.2 1) (S.2 13) 0 0 10)) 14 (va_cpy (S.2 2) (S.2 14) 0 0 16)) 15 (va_cpy (S.2 3) (S.2 15) 0 0 16)) 16 (va_cpy (S.2 4) (S.2 16) 0 0 16)) 17 (va_cpy (S.2 5) (S.2 17) 0 0 16)) 18 (va_cpy (S.2 6) (S.2 18) 0 0 16)) 19 (va_cpy (S.2 7) (S.2 19) 0 0 16))) mf_X12_rowOf rfl rfl gX12_image_X12_rowOf (pRc.of (ci := 12) rfl rfl) (by omega) rfl (Nat.le_of_ble_eq_true rfl) (by rfl) dX12_image_78 (fun r18 h18 q18 => ?_)
  obtain ⟨rfl, rfl⟩ := q18
  refine E_alen dX12_image_81 rfl (by decide) ?_
  refine E_val (y := 4) rfl ?_
  refine E_copy (i := 0) (j := 0) (k0 := 4) (n0 := 4) (n1 := 16) (f := S.2 8) (g := S.2 20) (h' := hM (pAr (pAr (pAr (pAr (pAr (pAr (pAr (pAr (pAr (pAr (pAr (pAr (pAr (pAr (pI S 10 1) 29 (upd (S.2 29) 0 (S.1 0))) 29 (upd (upd (S.2 29) 0 (S.1 0)) 1 (S.1 1))) 29 (upd (upd (upd (S.2 29) 0 (S.1 0)) 1 (S.1 1)) 2 (S.1 2))) 29 (upd (upd (upd (upd (S.2 29) 0 (S.1 0)) 1 (S.1 1)) 2 (S.1 2)) 3 (S.1 3))) 29 (upd (upd (upd (upd (upd (S.2 29) 0 (S.1 0)) 1 (S.1 1)) 2 (S.1 2)) 3 (S.1 3)) 4 (S.1 4))) 12 (va_cpy (S.2 0) (S.2 12) 0 0 10)) 13 (va_cpy (S.2 1) (S.2 13) 0 0 10)) 14 (va_cpy (S.2 2) (S.2 14) 0 0 16)) 15 (va_cpy (S.2 3) (S.2 15) 0 0 16)) 16 (va_cpy (S.2 4) (S.2 16) 0 0 16)) 17 (va_cpy (S.2 5) (S.2 17) 0 0 16)) 18 (va_cpy (S.2 6) (S.2 18) 0 0 16)) 19 (va_cpy (S.2 7) (S.2 19) 0 0 16)) 20 (va_cpy (S.2 8) (S.2 20) 0 0 4))) (by decide +kernel) (by decide +kernel) (by decide +kernel) (by decide +kernel) rfl rfl (by decide) (by decide) (by decide) (by decide) (by omega) (Nat.le_of_ble_eq_true rfl) (by rfl) dX12_image_82 (sM_A20 (pAr (pAr (pAr (pAr (pAr (pAr (pAr (pAr (pAr (pAr (pAr (pAr (pAr (pI S 10 1) 29 (upd (S.2 29) 0 (S.1 0))) 29 (upd (upd (S.2 29) 0 (S.1 0)) 1 (S.1 1))) 29 (upd (upd (upd (S.2 29) 0 (S.1 0)) 1 (S.1 1)) 2 (S.1 2))) 29 (upd (upd (upd (upd (S.2 29) 0 (S.1 0)) 1 (S.1 1)) 2 (S.1 2)) 3 (S.1 3))) 29 (upd (upd (upd (upd (upd (S.2 29) 0 (S.1 0)) 1 (S.1 1)) 2 (S.1 2)) 3 (S.1 3)) 4 (S.1 4))) 12 (va_cpy (S.2 0) (S.2 12) 0 0 10)) 13 (va_cpy (S.2 1) (S.2 13) 0 0 10)) 14 (va_cpy (S.2 2) (S.2 14) 0 0 16)) 15 (va_cpy (S.2 3) (S.2 15) 0 0 16)) 16 (va_cpy (S.2 4) (S.2 16) 0 0 16)) 17 (va_cpy (S.2 5) (S.2 17) 0 0 16)) 18 (va_cpy (S.2 6) (S.2 18) 0 0 16)) 19 (va_cpy (S.2 7) (S.2 19) 0 0 16)) (va_cpy (S.2 8) (S.2 20) 0 0 4)) ?_
  refine E_iinc (v := 9) (ls' := [(0, .ref 0), (1, .int 9)]) dX12_image_85 rfl (by decide) (by decide) rfl ?_
  refine E_goto (tgt := 57) dX12_image_88 (by decide) ?_
  refine E_iload_n dX12_image_57 rfl ?_
  refine E_bipush (v := 12) dX12_image_58 (by decide) ?_
  refine E_icmp_ge (tgt := 91) dX12_image_60 (by decide) (fun c => absurd c (by decide)) (fun _ => ?_)
  refine E_aload_n dX12_image_63 rfl ?_
  refine E_iload_n dX12_image_64 rfl ?_
  refine E_callVR (st := []) (c_X12_rowOf_0_k9 l D dA ad (pAr (pAr (pAr (pAr (pAr (pAr (pAr (pAr (pAr (pAr (pAr (pAr (pAr (pAr (pI S 10 1) 29 (upd (S.2 29) 0 (S.1 0))) 29 (upd (upd (S.2 29) 0 (S.1 0)) 1 (S.1 1))) 29 (upd (upd (upd (S.2 29) 0 (S.1 0)) 1 (S.1 1)) 2 (S.1 2))) 29 (upd (upd (upd (upd (S.2 29) 0 (S.1 0)) 1 (S.1 1)) 2 (S.1 2)) 3 (S.1 3))) 29 (upd (upd (upd (upd (upd (S.2 29) 0 (S.1 0)) 1 (S.1 1)) 2 (S.1 2)) 3 (S.1 3)) 4 (S.1 4))) 12 (va_cpy (S.2 0) (S.2 12) 0 0 10)) 13 (va_cpy (S.2 1) (S.2 13) 0 0 10)) 14 (va_cpy (S.2 2) (S.2 14) 0 0 16)) 15 (va_cpy (S.2 3) (S.2 15) 0 0 16)) 16 (va_cpy (S.2 4) (S.2 16) 0 0 16)) 17 (va_cpy (S.2 5) (S.2 17) 0 0 16)) 18 (va_cpy (S.2 6) (S.2 18) 0 0 16)) 19 (va_cpy (S.2 7) (S.2 19) 0 0 16)) 20 (va_cpy (S.2 8) (S.2 20) 0 0 4))) mf_X12_rowOf rfl rfl gX12_image_X12_rowOf (pRc.of (ci := 12) rfl rfl) (by omega) rfl (Nat.le_of_ble_eq_true rfl) (by rfl) dX12_image_65 (fun r19 h19 q19 => ?_)
  obtain ⟨rfl, rfl⟩ := q19
  refine E_iconst (v := 0) dX12_image_68 (by decide) ?_
  refine E_aload_n dX12_image_69 rfl ?_
  refine E_getf (v := .ref 25) dX12_image_70 fl_X12_image_88 rfl rfl ?_
  refine E_iload_n dX12_image_73 rfl ?_
  refine E_aald (k0 := 35) dX12_image_74 rfl (pin_in (by decide)) rfl ?_
  refine E_iconst (v := 0) dX12_image_75 (by decide) ?_
  refine E_aload_n dX12_image_76 rfl ?_
  refine E_iload_n dX12_image_77 rfl ?_
  refine E_callVR (st := [.int 0, .ref 35, .int 0, .ref 10]) (c_X12_rowOf_0_k9 l D dA ad (pAr (pAr (pAr (pAr (pAr (pAr (pAr (pAr (pAr (pAr (pAr (pAr (pAr (pAr (pI S 10 1) 29 (upd (S.2 29) 0 (S.1 0))) 29 (upd (upd (S.2 29) 0 (S.1 0)) 1 (S.1 1))) 29 (upd (upd (upd (S.2 29) 0 (S.1 0)) 1 (S.1 1)) 2 (S.1 2))) 29 (upd (upd (upd (upd (S.2 29) 0 (S.1 0)) 1 (S.1 1)) 2 (S.1 2)) 3 (S.1 3))) 29 (upd (upd (upd (upd (upd (S.2 29) 0 (S.1 0)) 1 (S.1 1)) 2 (S.1 2)) 3 (S.1 3)) 4 (S.1 4))) 12 (va_cpy (S.2 0) (S.2 12) 0 0 10)) 13 (va_cpy (S.2 1) (S.2 13) 0 0 10)) 14 (va_cpy (S.2 2) (S.2 14) 0 0 16)) 15 (va_cpy (S.2 3) (S.2 15) 0 0 16)) 16 (va_cpy (S.2 4) (S.2 16) 0 0 16)) 17 (va_cpy (S.2 5) (S.2 17) 0 0 16)) 18 (va_cpy (S.2 6) (S.2 18) 0 0 16)) 19 (va_cpy (S.2 7) (S.2 19) 0 0 16)) 20 (va_cpy (S.2 8) (S.2 20) 0 0 4))) mf_X12_rowOf rfl rfl gX12_image_X12_rowOf (pRc.of (ci := 12) rfl rfl) (by omega) rfl (Nat.le_of_ble_eq_true rfl) (by rfl) dX12_image_78 (fun r20 h20 q20 => ?_)
  obtain ⟨rfl, rfl⟩ := q20
  refine E_alen dX12_image_81 rfl (by decide) ?_
  refine E_val (y := 4) rfl ?_
  refine E_copy (i := 0) (j := 0) (k0 := 4) (n0 := 4) (n1 := 16) (f := S.2 9) (g := S.2 21) (h' := hM (pAr (pAr (pAr (pAr (pAr (pAr (pAr (pAr (pAr (pAr (pAr (pAr (pAr (pAr (pAr (pI S 10 1) 29 (upd (S.2 29) 0 (S.1 0))) 29 (upd (upd (S.2 29) 0 (S.1 0)) 1 (S.1 1))) 29 (upd (upd (upd (S.2 29) 0 (S.1 0)) 1 (S.1 1)) 2 (S.1 2))) 29 (upd (upd (upd (upd (S.2 29) 0 (S.1 0)) 1 (S.1 1)) 2 (S.1 2)) 3 (S.1 3))) 29 (upd (upd (upd (upd (upd (S.2 29) 0 (S.1 0)) 1 (S.1 1)) 2 (S.1 2)) 3 (S.1 3)) 4 (S.1 4))) 12 (va_cpy (S.2 0) (S.2 12) 0 0 10)) 13 (va_cpy (S.2 1) (S.2 13) 0 0 10)) 14 (va_cpy (S.2 2) (S.2 14) 0 0 16)) 15 (va_cpy (S.2 3) (S.2 15) 0 0 16)) 16 (va_cpy (S.2 4) (S.2 16) 0 0 16)) 17 (va_cpy (S.2 5) (S.2 17) 0 0 16)) 18 (va_cpy (S.2 6) (S.2 18) 0 0 16)) 19 (va_cpy (S.2 7) (S.2 19) 0 0 16)) 20 (va_cpy (S.2 8) (S.2 20) 0 0 4)) 21 (va_cpy (S.2 9) (S.2 21) 0 0 4))) (by decide +kernel) (by decide +kernel) (by decide +kernel) (by decide +kernel) rfl rfl (by decide) (by decide) (by decide) (by decide) (by omega) (Nat.le_of_ble_eq_true rfl) (by rfl) dX12_image_82 (sM_A21 (pAr (pAr (pAr (pAr (pAr (pAr (pAr (pAr (pAr (pAr (pAr (pAr (pAr (pAr (pI S 10 1) 29 (upd (S.2 29) 0 (S.1 0))) 29 (upd (upd (S.2 29) 0 (S.1 0)) 1 (S.1 1))) 29 (upd (upd (upd (S.2 29) 0 (S.1 0)) 1 (S.1 1)) 2 (S.1 2))) 29 (upd (upd (upd (upd (S.2 29) 0 (S.1 0)) 1 (S.1 1)) 2 (S.1 2)) 3 (S.1 3))) 29 (upd (upd (upd (upd (upd (S.2 29) 0 (S.1 0)) 1 (S.1 1)) 2 (S.1 2)) 3 (S.1 3)) 4 (S.1 4))) 12 (va_cpy (S.2 0) (S.2 12) 0 0 10)) 13 (va_cpy (S.2 1) (S.2 13) 0 0 10)) 14 (va_cpy (S.2 2) (S.2 14) 0 0 16)) 15 (va_cpy (S.2 3) (S.2 15) 0 0 16)) 16 (va_cpy (S.2 4) (S.2 16) 0 0 16)) 17 (va_cpy (S.2 5) (S.2 17) 0 0 16)) 18 (va_cpy (S.2 6) (S.2 18) 0 0 16)) 19 (va_cpy (S.2 7) (S.2 19) 0 0 16)) 20 (va_cpy (S.2 8) (S.2 20) 0 0 4)) (va_cpy (S.2 9) (S.2 21) 0 0 4)) ?_
  refine E_iinc (v := 10) (ls' := [(0, .ref 0), (1, .int 10)]) dX12_image_85 rfl (by decide) (by decide) rfl ?_
  refine E_goto (tgt := 57) dX12_image_88 (by decide) ?_
  refine E_iload_n dX12_image_57 rfl ?_
  refine E_bipush (v := 12) dX12_image_58 (by decide) ?_
  refine E_icmp_ge (tgt := 91) dX12_image_60 (by decide) (fun c => absurd c (by decide)) (fun _ => ?_)
  refine E_aload_n dX12_image_63 rfl ?_
  refine E_iload_n dX12_image_64 rfl ?_
  refine E_callVR (st := []) (c_X12_rowOf_0_k10 l D dA ad (pAr (pAr (pAr (pAr (pAr (pAr (pAr (pAr (pAr (pAr (pAr (pAr (pAr (pAr (pAr (pI S 10 1) 29 (upd (S.2 29) 0 (S.1 0))) 29 (upd (upd (S.2 29) 0 (S.1 0)) 1 (S.1 1))) 29 (upd (upd (upd (S.2 29) 0 (S.1 0)) 1 (S.1 1)) 2 (S.1 2))) 29 (upd (upd (upd (upd (S.2 29) 0 (S.1 0)) 1 (S.1 1)) 2 (S.1 2)) 3 (S.1 3))) 29 (upd (upd (upd (upd (upd (S.2 29) 0 (S.1 0)) 1 (S.1 1)) 2 (S.1 2)) 3 (S.1 3)) 4 (S.1 4))) 12 (va_cpy (S.2 0) (S.2 12) 0 0 10)) 13 (va_cpy (S.2 1) (S.2 13) 0 0 10)) 14 (va_cpy (S.2 2) (S.2 14) 0 0 16)) 15 (va_cpy (S.2 3) (S.2 15) 0 0 16)) 16 (va_cpy (S.2 4) (S.2 16) 0 0 16)) 17 (va_cpy (S.2 5) (S.2 17) 0 0 16)) 18 (va_cpy (S.2 6) (S.2 18) 0 0 16)) 19 (va_cpy (S.2 7) (S.2 19) 0 0 16)) 20 (va_cpy (S.2 8) (S.2 20) 0 0 4)) 21 (va_cpy (S.2 9) (S.2 21) 0 0 4))) mf_X12_rowOf rfl rfl gX12_image_X12_rowOf (pRc.of (ci := 12) rfl rfl) (by omega) rfl (Nat.le_of_ble_eq_true rfl) (by rfl) dX12_image_65 (fun r21 h21 q21 => ?_)
  obtain ⟨rfl, rfl⟩ := q21
  refine E_iconst (v := 0) dX12_image_68 (by decide) ?_
  refine E_aload_n dX12_image_69 rfl ?_
  refine E_getf (v := .ref 25) dX12_image_70 fl_X12_image_88 rfl rfl ?_
  refine E_iload_n dX12_image_73 rfl ?_
  refine E_aald (k0 := 36) dX12_image_74 rfl (pin_in (by decide)) rfl ?_
  refine E_iconst (v := 0) dX12_image_75 (by decide) ?_
  refine E_aload_n dX12_image_76 rfl ?_
  refine E_iload_n dX12_image_77 rfl ?_
  refine E_callVR (st := [.int 0, .ref 36, .int 0, .ref 11]) (c_X12_rowOf_0_k10 l D dA ad (pAr (pAr (pAr (pAr (pAr (pAr (pAr (pAr (pAr (pAr (pAr (pAr (pAr (pAr (pAr (pI S 10 1) 29 (upd (S.2 29) 0 (S.1 0))) 29 (upd (upd (S.2 29) 0 (S.1 0)) 1 (S.1 1))) 29 (upd (upd (upd (S.2 29) 0 (S.1 0)) 1 (S.1 1)) 2 (S.1 2))) 29 (upd (upd (upd (upd (S.2 29) 0 (S.1 0)) 1 (S.1 1)) 2 (S.1 2)) 3 (S.1 3))) 29 (upd (upd (upd (upd (upd (S.2 29) 0 (S.1 0)) 1 (S.1 1)) 2 (S.1 2)) 3 (S.1 3)) 4 (S.1 4))) 12 (va_cpy (S.2 0) (S.2 12) 0 0 10)) 13 (va_cpy (S.2 1) (S.2 13) 0 0 10)) 14 (va_cpy (S.2 2) (S.2 14) 0 0 16)) 15 (va_cpy (S.2 3) (S.2 15) 0 0 16)) 16 (va_cpy (S.2 4) (S.2 16) 0 0 16)) 17 (va_cpy (S.2 5) (S.2 17) 0 0 16)) 18 (va_cpy (S.2 6) (S.2 18) 0 0 16)) 19 (va_cpy (S.2 7) (S.2 19) 0 0 16)) 20 (va_cpy (S.2 8) (S.2 20) 0 0 4)) 21 (va_cpy (S.2 9) (S.2 21) 0 0 4))) mf_X12_rowOf rfl rfl gX12_image_X12_rowOf (pRc.of (ci := 12) rfl rfl) (by omega) rfl (Nat.le_of_ble_eq_true rfl) (by rfl) dX12_image_78 (fun r22 h22 q22 => ?_)
  obtain ⟨rfl, rfl⟩ := q22
  refine E_alen dX12_image_81 rfl (by decide) ?_
  refine E_val (y := 4) rfl ?_
  refine E_copy (i := 0) (j := 0) (k0 := 4) (n0 := 4) (n1 := 16) (f := S.2 10) (g := S.2 22) (h' := hM (pAr (pAr (pAr (pAr (pAr (pAr (pAr (pAr (pAr (pAr (pAr (pAr (pAr (pAr (pAr (pAr (pI S 10 1) 29 (upd (S.2 29) 0 (S.1 0))) 29 (upd (upd (S.2 29) 0 (S.1 0)) 1 (S.1 1))) 29 (upd (upd (upd (S.2 29) 0 (S.1 0)) 1 (S.1 1)) 2 (S.1 2))) 29 (upd (upd (upd (upd (S.2 29) 0 (S.1 0)) 1 (S.1 1)) 2 (S.1 2)) 3 (S.1 3))) 29 (upd (upd (upd (upd (upd (S.2 29) 0 (S.1 0)) 1 (S.1 1)) 2 (S.1 2)) 3 (S.1 3)) 4 (S.1 4))) 12 (va_cpy (S.2 0) (S.2 12) 0 0 10)) 13 (va_cpy (S.2 1) (S.2 13) 0 0 10)) 14 (va_cpy (S.2 2) (S.2 14) 0 0 16)) 15 (va_cpy (S.2 3) (S.2 15) 0 0 16)) 16 (va_cpy (S.2 4) (S.2 16) 0 0 16)) 17 (va_cpy (S.2 5) (S.2 17) 0 0 16)) 18 (va_cpy (S.2 6) (S.2 18) 0 0 16)) 19 (va_cpy (S.2 7) (S.2 19) 0 0 16)) 20 (va_cpy (S.2 8) (S.2 20) 0 0 4)) 21 (va_cpy (S.2 9) (S.2 21) 0 0 4)) 22 (va_cpy (S.2 10) (S.2 22) 0 0 4))) (by decide +kernel) (by decide +kernel) (by decide +kernel) (by decide +kernel) rfl rfl (by decide) (by decide) (by decide) (by decide) (by omega) (Nat.le_of_ble_eq_true rfl) (by rfl) dX12_image_82 (sM_A22 (pAr (pAr (pAr (pAr (pAr (pAr (pAr (pAr (pAr (pAr (pAr (pAr (pAr (pAr (pAr (pI S 10 1) 29 (upd (S.2 29) 0 (S.1 0))) 29 (upd (upd (S.2 29) 0 (S.1 0)) 1 (S.1 1))) 29 (upd (upd (upd (S.2 29) 0 (S.1 0)) 1 (S.1 1)) 2 (S.1 2))) 29 (upd (upd (upd (upd (S.2 29) 0 (S.1 0)) 1 (S.1 1)) 2 (S.1 2)) 3 (S.1 3))) 29 (upd (upd (upd (upd (upd (S.2 29) 0 (S.1 0)) 1 (S.1 1)) 2 (S.1 2)) 3 (S.1 3)) 4 (S.1 4))) 12 (va_cpy (S.2 0) (S.2 12) 0 0 10)) 13 (va_cpy (S.2 1) (S.2 13) 0 0 10)) 14 (va_cpy (S.2 2) (S.2 14) 0 0 16)) 15 (va_cpy (S.2 3) (S.2 15) 0 0 16)) 16 (va_cpy (S.2 4) (S.2 16) 0 0 16)) 17 (va_cpy (S.2 5) (S.2 17) 0 0 16)) 18 (va_cpy (S.2 6) (S.2 18) 0 0 16)) 19 (va_cpy (S.2 7) (S.2 19) 0 0 16)) 20 (va_cpy (S.2 8) (S.2 20) 0 0 4)) 21 (va_cpy (S.2 9) (S.2 21) 0 0 4)) (va_cpy (S.2 10) (S.2 22) 0 0 4)) ?_
  refine E_iinc (v := 11) (ls' := [(0, .ref 0), (1, .int 11)]) dX12_image_85 rfl (by decide) (by decide) rfl ?_
  refine E_goto (tgt := 57) dX12_image_88 (by decide) ?_
  refine E_iload_n dX12_image_57 rfl ?_
  refine E_bipush (v := 12) dX12_image_58 (by decide) ?_
  refine E_icmp_ge (tgt := 91) dX12_image_60 (by decide) (fun c => absurd c (by decide)) (fun _ => ?_)
  refine E_aload_n dX12_image_63 rfl ?_
  refine E_iload_n dX12_image_64 rfl ?_
  refine E_callVR (st := []) (c_X12_rowOf_0_k11 l D dA ad (pAr (pAr (pAr (pAr (pAr (pAr (pAr (pAr (pAr (pAr (pAr (pAr (pAr (pAr (pAr (pAr (pI S 10 1) 29 (upd (S.2 29) 0 (S.1 0))) 29 (upd (upd (S.2 29) 0 (S.1 0)) 1 (S.1 1))) 29 (upd (upd (upd (S.2 29) 0 (S.1 0)) 1 (S.1 1)) 2 (S.1 2))) 29 (upd (upd (upd (upd (S.2 29) 0 (S.1 0)) 1 (S.1 1)) 2 (S.1 2)) 3 (S.1 3))) 29 (upd (upd (upd (upd (upd (S.2 29) 0 (S.1 0)) 1 (S.1 1)) 2 (S.1 2)) 3 (S.1 3)) 4 (S.1 4))) 12 (va_cpy (S.2 0) (S.2 12) 0 0 10)) 13 (va_cpy (S.2 1) (S.2 13) 0 0 10)) 14 (va_cpy (S.2 2) (S.2 14) 0 0 16)) 15 (va_cpy (S.2 3) (S.2 15) 0 0 16)) 16 (va_cpy (S.2 4) (S.2 16) 0 0 16)) 17 (va_cpy (S.2 5) (S.2 17) 0 0 16)) 18 (va_cpy (S.2 6) (S.2 18) 0 0 16)) 19 (va_cpy (S.2 7) (S.2 19) 0 0 16)) 20 (va_cpy (S.2 8) (S.2 20) 0 0 4)) 21 (va_cpy (S.2 9) (S.2 21) 0 0 4)) 22 (va_cpy (S.2 10) (S.2 22) 0 0 4))) mf_X12_rowOf rfl rfl gX12_image_X12_rowOf (pRc.of (ci := 12) rfl rfl) (by omega) rfl (Nat.le_of_ble_eq_true rfl) (by rfl) dX12_image_65 (fun r23 h23 q23 => ?_)
  obtain ⟨rfl, rfl⟩ := q23
  refine E_iconst (v := 0) dX12_image_68 (by decide) ?_
  refine E_aload_n dX12_image_69 rfl ?_
  refine E_getf (v := .ref 25) dX12_image_70 fl_X12_image_88 rfl rfl ?_
  refine E_iload_n dX12_image_73 rfl ?_
  refine E_aald (k0 := 37) dX12_image_74 rfl (pin_in (by decide)) rfl ?_
  refine E_iconst (v := 0) dX12_image_75 (by decide) ?_
  refine E_aload_n dX12_image_76 rfl ?_
  refine E_iload_n dX12_image_77 rfl ?_
  refine E_callVR (st := [.int 0, .ref 37, .int 0, .ref 12]) (c_X12_rowOf_0_k11 l D dA ad (pAr (pAr (pAr (pAr (pAr (pAr (pAr (pAr (pAr (pAr (pAr (pAr (pAr (pAr (pAr (pAr (pI S 10 1) 29 (upd (S.2 29) 0 (S.1 0))) 29 (upd (upd (S.2 29) 0 (S.1 0)) 1 (S.1 1))) 29 (upd (upd (upd (S.2 29) 0 (S.1 0)) 1 (S.1 1)) 2 (S.1 2))) 29 (upd (upd (upd (upd (S.2 29) 0 (S.1 0)) 1 (S.1 1)) 2 (S.1 2)) 3 (S.1 3))) 29 (upd (upd (upd (upd (upd (S.2 29) 0 (S.1 0)) 1 (S.1 1)) 2 (S.1 2)) 3 (S.1 3)) 4 (S.1 4))) 12 (va_cpy (S.2 0) (S.2 12) 0 0 10)) 13 (va_cpy (S.2 1) (S.2 13) 0 0 10)) 14 (va_cpy (S.2 2) (S.2 14) 0 0 16)) 15 (va_cpy (S.2 3) (S.2 15) 0 0 16)) 16 (va_cpy (S.2 4) (S.2 16) 0 0 16)) 17 (va_cpy (S.2 5) (S.2 17) 0 0 16)) 18 (va_cpy (S.2 6) (S.2 18) 0 0 16)) 19 (va_cpy (S.2 7) (S.2 19) 0 0 16)) 20 (va_cpy (S.2 8) (S.2 20) 0 0 4)) 21 (va_cpy (S.2 9) (S.2 21) 0 0 4)) 22 (va_cpy (S.2 10) (S.2 22) 0 0 4))) mf_X12_rowOf rfl rfl gX12_image_X12_rowOf (pRc.of (ci := 12) rfl rfl) (by omega) rfl (Nat.le_of_ble_eq_true rfl) (by rfl) dX12_image_78 (fun r24 h24 q24 => ?_)
  obtain ⟨rfl, rfl⟩ := q24
  refine E_alen dX12_image_81 rfl (by decide) ?_
  refine E_val (y := 4) rfl ?_
  refine E_copy (i := 0) (j := 0) (k0 := 4) (n0 := 4) (n1 := 16) (f := S.2 11) (g := S.2 23) (h' := hM (pAr (pAr (pAr (pAr (pAr (pAr (pAr (pAr (pAr (pAr (pAr (pAr (pAr (pAr (pAr (pAr (pAr (pI S 10 1) 29 (upd (S.2 29) 0 (S.1 0))) 29 (upd (upd (S.2 29) 0 (S.1 0)) 1 (S.1 1))) 29 (upd (upd (upd (S.2 29) 0 (S.1 0)) 1 (S.1 1)) 2 (S.1 2))) 29 (upd (upd (upd (upd (S.2 29) 0 (S.1 0)) 1 (S.1 1)) 2 (S.1 2)) 3 (S.1 3))) 29 (upd (upd (upd (upd (upd (S.2 29) 0 (S.1 0)) 1 (S.1 1)) 2 (S.1 2)) 3 (S.1 3)) 4 (S.1 4))) 12 (va_cpy (S.2 0) (S.2 12) 0 0 10)) 13 (va_cpy (S.2 1) (S.2 13) 0 0 10)) 14 (va_cpy (S.2 2) (S.2 14) 0 0 16)) 15 (va_cpy (S.2 3) (S.2 15) 0 0 16)) 16 (va_cpy (S.2 4) (S.2 16) 0 0 16)) 17 (va_cpy (S.2 5) (S.2 17) 0 0 16)) 18 (va_cpy (S.2 6) (S.2 18) 0 0 16)) 19 (va_cpy (S.2 7) (S.2 19) 0 0 16)) 20 (va_cpy (S.2 8) (S.2 20) 0 0 4)) 21 (va_cpy (S.2 9) (S.2 21) 0 0 4)) 22 (va_cpy (S.2 10) (S.2 22) 0 0 4)) 23 (va_cpy (S.2 11) (S.2 23) 0 0 4))) (by decide +kernel) (by decide +kernel) (by decide +kernel) (by decide +kernel) rfl rfl (by decide) (by decide) (by decide) (by decide) (by omega) (Nat.le_of_ble_eq_true rfl) (by rfl) dX12_image_82 (sM_A23 (pAr (pAr (pAr (pAr (pAr (pAr (pAr (pAr (pAr (pAr (pAr (pAr (pAr (pAr (pAr (pAr (pI S 10 1) 29 (upd (S.2 29) 0 (S.1 0))) 29 (upd (upd (S.2 29) 0 (S.1 0)) 1 (S.1 1))) 29 (upd (upd (upd (S.2 29) 0 (S.1 0)) 1 (S.1 1)) 2 (S.1 2))) 29 (upd (upd (upd (upd (S.2 29) 0 (S.1 0)) 1 (S.1 1)) 2 (S.1 2)) 3 (S.1 3))) 29 (upd (upd (upd (upd (upd (S.2 29) 0 (S.1 0)) 1 (S.1 1)) 2 (S.1 2)) 3 (S.1 3)) 4 (S.1 4))) 12 (va_cpy (S.2 0) (S.2 12) 0 0 10)) 13 (va_cpy (S.2 1) (S.2 13) 0 0 10)) 14 (va_cpy (S.2 2) (S.2 14) 0 0 16)) 15 (va_cpy (S.2 3) (S.2 15) 0 0 16)) 16 (va_cpy (S.2 4) (S.2 16) 0 0 16)) 17 (va_cpy (S.2 5) (S.2 17) 0 0 16)) 18 (va_cpy (S.2 6) (S.2 18) 0 0 16)) 19 (va_cpy (S.2 7) (S.2 19) 0 0 16)) 20 (va_cpy (S.2 8) (S.2 20) 0 0 4)) 21 (va_cpy (S.2 9) (S.2 21) 0 0 4)) 22 (va_cpy (S.2 10) (S.2 22) 0 0 4)) (va_cpy (S.2 11) (S.2 23) 0 0 4)) ?_
  refine E_iinc (v := 12) (ls' := [(0, .ref 0), (1, .int 12)]) dX12_image_85 rfl (by decide) (by decide) rfl ?_
  refine E_goto (tgt := 57) dX12_image_88 (by decide) ?_
  refine E_iload_n dX12_image_57 rfl ?_
  refine E_bipush (v := 12) dX12_image_58 (by decide) ?_
  refine E_icmp_ge (tgt := 91) dX12_image_60 (by decide) (fun _ => ?_) (fun c => absurd c (by decide))
  refine E_aload_n dX12_image_91 rfl ?_
  refine E_getf (v := .int (S.1 4)) dX12_image_92 fl_X12_image_98 rfl rfl ?_
  exact E_iret rfl dX12_image_95 ⟨_, rfl, hf⟩
theorem hi_X12_undo_12 : ∀ w ∈ u_ws RX12 TX12 32, w ∈ wsX12_undo := fun w h => of_decide_eq_true (List.all_eq_true.mp (by decide +kernel : (u_ws RX12 TX12 32).all (fun w => decide (w ∈ wsX12_undo)) = true) w h)
theorem fl_X12_undo_334 : pFL wsX12_undo RX12 334 12 29 := ⟨RX12, TX12, 32, hi_X12_undo_12, rfl, by decide, by decide +kernel⟩
theorem fl_X12_undo_85 : pFL wsX12_undo RX12 85 12 30 := ⟨RX12, TX12, 32, hi_X12_undo_12, rfl, by decide, by decide +kernel⟩
theorem fl_X12_undo_9 : pFL wsX12_undo RX12 9 12 0 := ⟨RX12, TX12, 32, hi_X12_undo_12, rfl, by decide, by decide +kernel⟩
theorem fl_X12_undo_15 : pFL wsX12_undo RX12 15 12 1 := ⟨RX12, TX12, 32, hi_X12_undo_12, rfl, by decide, by decide +kernel⟩
theorem fl_X12_undo_18 : pFL wsX12_undo RX12 18 12 2 := ⟨RX12, TX12, 32, hi_X12_undo_12, rfl, by decide, by decide +kernel⟩
theorem fl_X12_undo_95 : pFL wsX12_undo RX12 95 12 3 := ⟨RX12, TX12, 32, hi_X12_undo_12, rfl, by decide, by decide +kernel⟩
theorem fl_X12_undo_98 : pFL wsX12_undo RX12 98 12 6 := ⟨RX12, TX12, 32, hi_X12_undo_12, rfl, by decide, by decide +kernel⟩
theorem fl_X12_undo_88 : pFL wsX12_undo RX12 88 12 31 := ⟨RX12, TX12, 32, hi_X12_undo_12, rfl, by decide, by decide +kernel⟩
theorem mf_X12_undo : pMF yX12_undo wsX12_undo cX12_undo 2 (some .int) 0 := ⟨⟨_, rfl⟩, by decide +kernel, by decide, by decide +kernel, by decide +kernel, by decide +kernel⟩
def f_X12_undo (S : PS) : Option (Int32 × PS) :=
  if (S.1 10) = (0 : Int32) then (some ((-5), S)) else (some ((S.2 29) 4, (pAr (pAr (pAr (pAr (pAr (pAr (pAr (pAr (pAr (pAr (pAr (pAr (pI (pI (pI (pI (pI S 0 ((S.2 29) 0)) 1 ((S.2 29) 1)) 2 ((S.2 29) 2)) 3 ((S.2 29) 3)) 4 ((S.2 29) 4)) 0 (va_cpy (S.2 12) (S.2 0) 0 0 10)) 1 (va_cpy (S.2 13) (S.2 1) 0 0 10)) 2 (va_cpy (S.2 14) (S.2 2) 0 0 16)) 3 (va_cpy (S.2 15) (S.2 3) 0 0 16)) 4 (va_cpy (S.2 16) (S.2 4) 0 0 16)) 5 (va_cpy (S.2 17) (S.2 5) 0 0 16)) 6 (va_cpy (S.2 18) (S.2 6) 0 0 16)) 7 (va_cpy (S.2 19) (S.2 7) 0 0 16)) 8 (va_cpy (S.2 20) (S.2 8) 0 0 4)) 9 (va_cpy (S.2 21) (S.2 9) 0 0 4)) 10 (va_cpy (S.2 22) (S.2 10) 0 0 4)) 11 (va_cpy (S.2 23) (S.2 11) 0 0 4))))
set_option maxRecDepth 100000 in
theorem c_X12_undo (l : Launch) (D : va_G) (dA : Nat → ClassId) (ad : Nat → Nat) (S : PS) {P : (Int32 × PS) → Prop} (hf : pO (f_X12_undo S) P) : CtI l D dA ad yX12_undo wsX12_undo 1 [.ref 0] (hM S) (fun r h' => ∃ S' : PS, h' = hM S' ∧ P (r, S')) := by
  refine CtI_of mf_X12_undo rfl rfl (Nat.le_of_ble_eq_true rfl) rfl (hM_len S) ?_
  unfold f_X12_undo at hf
  refine E_aload_n dX12_undo_0 rfl ?_
  refine E_getf (v := .int (S.1 10)) dX12_undo_1 fl_X12_undo_334 rfl rfl ?_
  refine E_if_ne (tgt := 10) dX12_undo_4 (by decide) (fun c_1 => ?_) (fun c_1 => ?_)
  · have hf := pO_neg c_1 hf
    refine E_aload_n dX12_undo_10 rfl ?_
    refine E_aload_n dX12_undo_11 rfl ?_
    refine E_getf (v := .ref 24) dX12_undo_12 fl_X12_undo_85 rfl rfl ?_
    refine E_iconst (v := 0) dX12_undo_15 (by decide) ?_
    refine E_iald (n0 := 5) (f := S.2 29) dX12_undo_16 rfl (pin_in (by decide)) ?_
    refine E_val (y := (S.2 29) 0) rfl ?_
    refine E_putf (h' := hM (pI S 0 ((S.2 29) 0))) dX12_undo_17 fl_X12_undo_9 ft_12_0 rfl (Nat.lt_of_lt_of_eq (by decide : 0 < 32) rfl) rfl rfl ⟨_, rfl⟩ (sM_I0 S ((S.2 29) 0)) ?_
    refine E_aload_n dX12_undo_20 rfl ?_
    refine E_aload_n dX12_undo_21 rfl ?_
    refine E_getf (v := .ref 24) dX12_undo_22 fl_X12_undo_85 rfl rfl ?_
    refine E_iconst (v := 1) dX12_undo_25 (by decide) ?_
    refine E_iald (n0 := 5) (f := S.2 29) dX12_undo_26 rfl (pin_in (by decide)) ?_
    refine E_val (y := (S.2 29) 1) rfl ?_
    refine E_putf (h' := hM (pI (pI S 0 ((S.2 29) 0)) 1 ((S.2 29) 1))) dX12_undo_27 fl_X12_undo_15 ft_12_1 rfl (Nat.lt_of_lt_of_eq (by decide : 1 < 32) rfl) rfl rfl ⟨_, rfl⟩ (sM_I1 (pI S 0 ((S.2 29) 0)) ((S.2 29) 1)) ?_
    refine E_aload_n dX12_undo_30 rfl ?_
    refine E_aload_n dX12_undo_31 rfl ?_
    refine E_getf (v := .ref 24) dX12_undo_32 fl_X12_undo_85 rfl rfl ?_
    refine E_iconst (v := 2) dX12_undo_35 (by decide) ?_
    refine E_iald (n0 := 5) (f := S.2 29) dX12_undo_36 rfl (pin_in (by decide)) ?_
    refine E_val (y := (S.2 29) 2) rfl ?_
    refine E_putf (h' := hM (pI (pI (pI S 0 ((S.2 29) 0)) 1 ((S.2 29) 1)) 2 ((S.2 29) 2))) dX12_undo_37 fl_X12_undo_18 ft_12_2 rfl (Nat.lt_of_lt_of_eq (by decide : 2 < 32) rfl) rfl rfl ⟨_, rfl⟩ (sM_I2 (pI (pI S 0 ((S.2 29) 0)) 1 ((S.2 29) 1)) ((S.2 29) 2)) ?_
    refine E_aload_n dX12_undo_40 rfl ?_
    refine E_aload_n dX12_undo_41 rfl ?_
    refine E_getf (v := .ref 24) dX12_undo_42 fl_X12_undo_85 rfl rfl ?_
    refine E_iconst (v := 3) dX12_undo_45 (by decide) ?_
    refine E_iald (n0 := 5) (f := S.2 29) dX12_undo_46 rfl (pin_in (by decide)) ?_
    refine E_val (y := (S.2 29) 3) rfl ?_
    refine E_putf (h' := hM (pI (pI (pI (pI S 0 ((S.2 29) 0)) 1 ((S.2 29) 1)) 2 ((S.2 29) 2)) 3 ((S.2 29) 3))) dX12_undo_47 fl_X12_undo_95 ft_12_3 rfl (Nat.lt_of_lt_of_eq (by decide : 3 < 32) rfl) rfl rfl ⟨_, rfl⟩ (sM_I3 (pI (pI (pI S 0 ((S.2 29) 0)) 1 ((S.2 29) 1)) 2 ((S.2 29) 2)) ((S.2 29) 3)) ?_
    refine E_aload_n dX12_undo_50 rfl ?_
    refine E_aload_n dX12_undo_51 rfl ?_
    refine E_getf (v := .ref 24) dX12_undo_52 fl_X12_undo_85 rfl rfl ?_
    refine E_iconst (v := 4) dX12_undo_55 (by decide) ?_
    refine E_iald (n0 := 5) (f := S.2 29) dX12_undo_56 rfl (pin_in (by decide)) ?_
    refine E_val (y := (S.2 29) 4) rfl ?_
    refine E_putf (h' := hM (pI (pI (pI (pI (pI S 0 ((S.2 29) 0)) 1 ((S.2 29) 1)) 2 ((S.2 29) 2)) 3 ((S.2 29) 3)) 4 ((S.2 29) 4))) dX12_undo_57 fl_X12_undo_98 ft_12_6 rfl (Nat.lt_of_lt_of_eq (by decide : 6 < 32) rfl) rfl rfl ⟨_, rfl⟩ (sM_I4 (pI (pI (pI (pI S 0 ((S.2 29) 0)) 1 ((S.2 29) 1)) 2 ((S.2 29) 2)) 3 ((S.2 29) 3)) ((S.2 29) 4)) ?_
    refine E_iconst (v := 0) dX12_undo_60 (by decide) ?_
    refine E_istore_n (ls' := [(0, .ref 0), (1, .int 0)]) dX12_undo_61 (by decide) rfl ?_
    refine E_iload_n dX12_undo_62 rfl ?_
    refine E_bipush (v := 12) dX12_undo_63 (by decide) ?_
    refine E_icmp_ge (tgt := 96) dX12_undo_65 (by decide) (fun c => absurd c (by decide)) (fun _ => ?_)
    refine E_aload_n dX12_undo_68 rfl ?_
    refine E_getf (v := .ref 25) dX12_undo_69 fl_X12_undo_88 rfl rfl ?_
    refine E_iload_n dX12_undo_72 rfl ?_
    refine E_aald (k0 := 26) dX12_undo_73 rfl (pin_in (by decide)) rfl ?_
    refine E_iconst (v := 0) dX12_undo_74 (by decide) ?_
    refine E_aload_n dX12_undo_75 rfl ?_
    refine E_iload_n dX12_undo_76 rfl ?_
    refine E_callVR (st := [.int 0, .ref 26]) (c_X12_rowOf_0_k0 l D dA ad (pI (pI (pI (pI (pI S 0 ((S.2 29) 0)) 1 ((S.2 29) 1)) 2 ((S.2 29) 2)) 3 ((S.2 29) 3)) 4 ((S.2 29) 4))) mf_X12_rowOf rfl rfl gX12_undo_X12_rowOf (pRc.of (ci := 12) rfl rfl) (by omega) rfl (Nat.le_of_ble_eq_true rfl) (by rfl) dX12_undo_77 (fun r2 h2 q2 => ?_)
    obtain ⟨rfl, rfl⟩ := q2
    refine E_iconst (v := 0) dX12_undo_80 (by decide) ?_
    refine E_aload_n dX12_undo_81 rfl ?_
    refine E_iload_n dX12_undo_82 rfl ?_
    refine E_callVR (st := [.int 0, .ref 1, .int 0, .ref 26]) (c_X12_rowOf_0_k0 l D dA ad (pI (pI (pI (pI (pI S 0 ((S.2 29) 0)) 1 ((S.2 29) 1)) 2 ((S.2 29) 2)) 3 ((S.2 29) 3)) 4 ((S.2 29) 4))) mf_X12_rowOf rfl rfl gX12_undo_X12_rowOf (pRc.of (ci := 12) rfl rfl) (by omega) rfl (Nat.le_of_ble_eq_true rfl) (by rfl) dX12_undo_83 (fun r3 h3 q3 => ?_)
    obtain ⟨rfl, rfl⟩ := q3
    refine E_alen dX12_undo_86 rfl (by decide) ?_
    refine E_val (y := 10) rfl ?_
    refine E_copy (i := 0) (j := 0) (k0 := 10) (n0 := 16) (n1 := 10) (f := S.2 12) (g := S.2 0) (h' := hM (pAr (pI (pI (pI (pI (pI S 0 ((S.2 29) 0)) 1 ((S.2 29) 1)) 2 ((S.2 29) 2)) 3 ((S.2 29) 3)) 4 ((S.2 29) 4)) 0 (va_cpy (S.2 12) (S.2 0) 0 0 10))) (by decide +kernel) (by decide +kernel) (by decide +kernel) (by decide +kernel) rfl rfl (by decide) (by decide) (by decide) (by decide) (by omega) (Nat.le_of_ble_eq_true rfl) (by rfl) dX12_undo_87 (sM_A0 (pI (pI (pI (pI (pI S 0 ((S.2 29) 0)) 1 ((S.2 29) 1)) 2 ((S.2 29) 2)) 3 ((S.2 29) 3)) 4 ((S.2 29) 4)) (va_cpy (S.2 12) (S.2 0) 0 0 10)) ?_
    refine E_iinc (v := 1) (ls' := [(0, .ref 0), (1, .int 1)]) dX12_undo_90 rfl (by decide) (by decide) rfl ?_
    refine E_goto (tgt := 62) dX12_undo_93 (by decide) ?_
    refine E_iload_n dX12_undo_62 rfl ?_
    refine E_bipush (v := 12) dX12_undo_63 (by decide) ?_
    refine E_icmp_ge (tgt := 96) dX12_undo_65 (by decide) (fun c => absurd c (by decide)) (fun _ => ?_)
    refine E_aload_n dX12_undo_68 rfl ?_
    refine E_getf (v := .ref 25) dX12_undo_69 fl_X12_undo_88 rfl rfl ?_
    refine E_iload_n dX12_undo_72 rfl ?_
    refine E_aald (k0 := 27) dX12_undo_73 rfl (pin_in (by decide)) rfl ?_
    refine E_iconst (v := 0) dX12_undo_74 (by decide) ?_
    refine E_aload_n dX12_undo_75 rfl ?_
    refine E_iload_n dX12_undo_76 rfl ?_
    refine E_callVR (st := [.int 0, .ref 27]) (c_X12_rowOf_0_k1 l D dA ad (pAr (pI (pI (pI (pI (pI S 0 ((S.2 29) 0)) 1 ((S.2 29) 1)) 2 ((S.2 29) 2)) 3 ((S.2 29) 3)) 4 ((S.2 29) 4)) 0 (va_cpy (S.2 12) (S.2 0) 0 0 10))) mf_X12_rowOf rfl rfl gX12_undo_X12_rowOf (pRc.of (ci := 12) rfl rfl) (by omega) rfl (Nat.le_of_ble_eq_true rfl) (by rfl) dX12_undo_77 (fun r4 h4 q4 => ?_)
    obtain ⟨rfl, rfl⟩ := q4
    refine E_iconst (v := 0) dX12_undo_80 (by decide) ?_
    refine E_aload_n dX12_undo_81 rfl ?_
    refine E_iload_n dX12_undo_82 rfl ?_
    refine E_callVR (st := [.int 0, .ref 2, .int 0, .ref 27]) (c_X12_rowOf_0_k1 l D dA ad (pAr (pI (pI (pI (pI (pI S 0 ((S.2 29) 0)) 1 ((S.2 29) 1)) 2 ((S.2 29) 2)) 3 ((S.2 29) 3)) 4 ((S.2 29) 4)) 0 (va_cpy (S.2 12) (S.2 0) 0 0 10))) mf_X12_rowOf rfl rfl gX12_undo_X12_rowOf (pRc.of (ci := 12) rfl rfl) (by omega) rfl (Nat.le_of_ble_eq_true rfl) (by rfl) dX12_undo_83 (fun r5 h5 q5 => ?_)
    obtain ⟨rfl, rfl⟩ := q5
    refine E_alen dX12_undo_86 rfl (by decide) ?_
    refine E_val (y := 10) rfl ?_
    refine E_copy (i := 0) (j := 0) (k0 := 10) (n0 := 16) (n1 := 10) (f := S.2 13) (g := S.2 1) (h' := hM (pAr (pAr (pI (pI (pI (pI (pI S 0 ((S.2 29) 0)) 1 ((S.2 29) 1)) 2 ((S.2 29) 2)) 3 ((S.2 29) 3)) 4 ((S.2 29) 4)) 0 (va_cpy (S.2 12) (S.2 0) 0 0 10)) 1 (va_cpy (S.2 13) (S.2 1) 0 0 10))) (by decide +kernel) (by decide +kernel) (by decide +kernel) (by decide +kernel) rfl rfl (by decide) (by decide) (by decide) (by decide) (by omega) (Nat.le_of_ble_eq_true rfl) (by rfl) dX12_undo_87 (sM_A1 (pAr (pI (pI (pI (pI (pI S 0 ((S.2 29) 0)) 1 ((S.2 29) 1)) 2 ((S.2 29) 2)) 3 ((S.2 29) 3)) 4 ((S.2 29) 4)) 0 (va_cpy (S.2 12) (S.2 0) 0 0 10)) (va_cpy (S.2 13) (S.2 1) 0 0 10)) ?_
    refine E_iinc (v := 2) (ls' := [(0, .ref 0), (1, .int 2)]) dX12_undo_90 rfl (by decide) (by decide) rfl ?_
    refine E_goto (tgt := 62) dX12_undo_93 (by decide) ?_
    refine E_iload_n dX12_undo_62 rfl ?_
    refine E_bipush (v := 12) dX12_undo_63 (by decide) ?_
    refine E_icmp_ge (tgt := 96) dX12_undo_65 (by decide) (fun c => absurd c (by decide)) (fun _ => ?_)
    refine E_aload_n dX12_undo_68 rfl ?_
    refine E_getf (v := .ref 25) dX12_undo_69 fl_X12_undo_88 rfl rfl ?_
    refine E_iload_n dX12_undo_72 rfl ?_
    refine E_aald (k0 := 28) dX12_undo_73 rfl (pin_in (by decide)) rfl ?_
    refine E_iconst (v := 0) dX12_undo_74 (by decide) ?_
    refine E_aload_n dX12_undo_75 rfl ?_
    refine E_iload_n dX12_undo_76 rfl ?_
    refine E_callVR (st := [.int 0, .ref 28]) (c_X12_rowOf_0_k2 l D dA ad (pAr (pAr (pI (pI (pI (pI (pI S 0 ((S.2 29) 0)) 1 ((S.2 29) 1)) 2 ((S.2 29) 2)) 3 ((S.2 29) 3)) 4 ((S.2 29) 4)) 0 (va_cpy (S.2 12) (S.2 0) 0 0 10)) 1 (va_cpy (S.2 13) (S.2 1) 0 0 10))) mf_X12_rowOf rfl rfl gX12_undo_X12_rowOf (pRc.of (ci := 12) rfl rfl) (by omega) rfl (Nat.le_of_ble_eq_true rfl) (by rfl) dX12_undo_77 (fun r6 h6 q6 => ?_)
    obtain ⟨rfl, rfl⟩ := q6
    refine E_iconst (v := 0) dX12_undo_80 (by decide) ?_
    refine E_aload_n dX12_undo_81 rfl ?_
    refine E_iload_n dX12_undo_82 rfl ?_
    refine E_callVR (st := [.int 0, .ref 3, .int 0, .ref 28]) (c_X12_rowOf_0_k2 l D dA ad (pAr (pAr (pI (pI (pI (pI (pI S 0 ((S.2 29) 0)) 1 ((S.2 29) 1)) 2 ((S.2 29) 2)) 3 ((S.2 29) 3)) 4 ((S.2 29) 4)) 0 (va_cpy (S.2 12) (S.2 0) 0 0 10)) 1 (va_cpy (S.2 13) (S.2 1) 0 0 10))) mf_X12_rowOf rfl rfl gX12_undo_X12_rowOf (pRc.of (ci := 12) rfl rfl) (by omega) rfl (Nat.le_of_ble_eq_true rfl) (by rfl) dX12_undo_83 (fun r7 h7 q7 => ?_)
    obtain ⟨rfl, rfl⟩ := q7
    refine E_alen dX12_undo_86 rfl (by decide) ?_
    refine E_val (y := 16) rfl ?_
    refine E_copy (i := 0) (j := 0) (k0 := 16) (n0 := 16) (n1 := 16) (f := S.2 14) (g := S.2 2) (h' := hM (pAr (pAr (pAr (pI (pI (pI (pI (pI S 0 ((S.2 29) 0)) 1 ((S.2 29) 1)) 2 ((S.2 29) 2)) 3 ((S.2 29) 3)) 4 ((S.2 29) 4)) 0 (va_cpy (S.2 12) (S.2 0) 0 0 10)) 1 (va_cpy (S.2 13) (S.2 1) 0 0 10)) 2 (va_cpy (S.2 14) (S.2 2) 0 0 16))) (by decide +kernel) (by decide +kernel) (by decide +kernel) (by decide +kernel) rfl rfl (by decide) (by decide) (by decide) (by decide) (by omega) (Nat.le_of_ble_eq_true rfl) (by rfl) dX12_undo_87 (sM_A2 (pAr (pAr (pI (pI (pI (pI (pI S 0 ((S.2 29) 0)) 1 ((S.2 29) 1)) 2 ((S.2 29) 2)) 3 ((S.2 29) 3)) 4 ((S.2 29) 4)) 0 (va_cpy (S.2 12) (S.2 0) 0 0 10)) 1 (va_cpy (S.2 13) (S.2 1) 0 0 10)) (va_cpy (S.2 14) (S.2 2) 0 0 16)) ?_
    refine E_iinc (v := 3) (ls' := [(0, .ref 0), (1, .int 3)]) dX12_undo_90 rfl (by decide) (by decide) rfl ?_
    refine E_goto (tgt := 62) dX12_undo_93 (by decide) ?_
    refine E_iload_n dX12_undo_62 rfl ?_
    refine E_bipush (v := 12) dX12_undo_63 (by decide) ?_
    refine E_icmp_ge (tgt := 96) dX12_undo_65 (by decide) (fun c => absurd c (by decide)) (fun _ => ?_)
    refine E_aload_n dX12_undo_68 rfl ?_
    refine E_getf (v := .ref 25) dX12_undo_69 fl_X12_undo_88 rfl rfl ?_
    refine E_iload_n dX12_undo_72 rfl ?_
    refine E_aald (k0 := 29) dX12_undo_73 rfl (pin_in (by decide)) rfl ?_
    refine E_iconst (v := 0) dX12_undo_74 (by decide) ?_
    refine E_aload_n dX12_undo_75 rfl ?_
    refine E_iload_n dX12_undo_76 rfl ?_
    refine E_callVR (st := [.int 0, .ref 29]) (c_X12_rowOf_0_k3 l D dA ad (pAr (pAr (pAr (pI (pI (pI (pI (pI S 0 ((S.2 29) 0)) 1 ((S.2 29) 1)) 2 ((S.2 29) 2)) 3 ((S.2 29) 3)) 4 ((S.2 29) 4)) 0 (va_cpy (S.2 12) (S.2 0) 0 0 10)) 1 (va_cpy (S.2 13) (S.2 1) 0 0 10)) 2 (va_cpy (S.2 14) (S.2 2) 0 0 16))) mf_X12_rowOf rfl rfl gX12_undo_X12_rowOf (pRc.of (ci := 12) rfl rfl) (by omega) rfl (Nat.le_of_ble_eq_true rfl) (by rfl) dX12_undo_77 (fun r8 h8 q8 => ?_)
    obtain ⟨rfl, rfl⟩ := q8
    refine E_iconst (v := 0) dX12_undo_80 (by decide) ?_
    refine E_aload_n dX12_undo_81 rfl ?_
    refine E_iload_n dX12_undo_82 rfl ?_
    refine E_callVR (st := [.int 0, .ref 4, .int 0, .ref 29]) (c_X12_rowOf_0_k3 l D dA ad (pAr (pAr (pAr (pI (pI (pI (pI (pI S 0 ((S.2 29) 0)) 1 ((S.2 29) 1)) 2 ((S.2 29) 2)) 3 ((S.2 29) 3)) 4 ((S.2 29) 4)) 0 (va_cpy (S.2 12) (S.2 0) 0 0 10)) 1 (va_cpy (S.2 13) (S.2 1) 0 0 10)) 2 (va_cpy (S.2 14) (S.2 2) 0 0 16))) mf_X12_rowOf rfl rfl gX12_undo_X12_rowOf (pRc.of (ci := 12) rfl rfl) (by omega) rfl (Nat.le_of_ble_eq_true rfl) (by rfl) dX12_undo_83 (fun r9 h9 q9 => ?_)
    obtain ⟨rfl, rfl⟩ := q9
    refine E_alen dX12_undo_86 rfl (by decide) ?_
    refine E_val (y := 16) rfl ?_
    refine E_copy (i := 0) (j := 0) (k0 := 16) (n0 := 16) (n1 := 16) (f := S.2 15) (g := S.2 3) (h' := hM (pAr (pAr (pAr (pAr (pI (pI (pI (pI (pI S 0 ((S.2 29) 0)) 1 ((S.2 29) 1)) 2 ((S.2 29) 2)) 3 ((S.2 29) 3)) 4 ((S.2 29) 4)) 0 (va_cpy (S.2 12) (S.2 0) 0 0 10)) 1 (va_cpy (S.2 13) (S.2 1) 0 0 10)) 2 (va_cpy (S.2 14) (S.2 2) 0 0 16)) 3 (va_cpy (S.2 15) (S.2 3) 0 0 16))) (by decide +kernel) (by decide +kernel) (by decide +kernel) (by decide +kernel) rfl rfl (by decide) (by decide) (by decide) (by decide) (by omega) (Nat.le_of_ble_eq_true rfl) (by rfl) dX12_undo_87 (sM_A3 (pAr (pAr (pAr (pI (pI (pI (pI (pI S 0 ((S.2 29) 0)) 1 ((S.2 29) 1)) 2 ((S.2 29) 2)) 3 ((S.2 29) 3)) 4 ((S.2 29) 4)) 0 (va_cpy (S.2 12) (S.2 0) 0 0 10)) 1 (va_cpy (S.2 13) (S.2 1) 0 0 10)) 2 (va_cpy (S.2 14) (S.2 2) 0 0 16)) (va_cpy (S.2 15) (S.2 3) 0 0 16)) ?_
    refine E_iinc (v := 4) (ls' := [(0, .ref 0), (1, .int 4)]) dX12_undo_90 rfl (by decide) (by decide) rfl ?_
    refine E_goto (tgt := 62) dX12_undo_93 (by decide) ?_
    refine E_iload_n dX12_undo_62 rfl ?_
    refine E_bipush (v := 12) dX12_undo_63 (by decide) ?_
    refine E_icmp_ge (tgt := 96) dX12_undo_65 (by decide) (fun c => absurd c (by decide)) (fun _ => ?_)
    refine E_aload_n dX12_undo_68 rfl ?_
    refine E_getf (v := .ref 25) dX12_undo_69 fl_X12_undo_88 rfl rfl ?_
    refine E_iload_n dX12_undo_72 rfl ?_
    refine E_aald (k0 := 30) dX12_undo_73 rfl (pin_in (by decide)) rfl ?_
    refine E_iconst (v := 0) dX12_undo_74 (by decide) ?_
    refine E_aload_n dX12_undo_75 rfl ?_
    refine E_iload_n dX12_undo_76 rfl ?_
    refine E_callVR (st := [.int 0, .ref 30]) (c_X12_rowOf_0_k4 l D dA ad (pAr (pAr (pAr (pAr (pI (pI (pI (pI (pI S 0 ((S.2 29) 0)) 1 ((S.2 29) 1)) 2 ((S.2 29) 2)) 3 ((S.2 29) 3)) 4 ((S.2 29) 4)) 0 (va_cpy (S.2 12) (S.2 0) 0 0 10)) 1 (va_cpy (S.2 13) (S.2 1) 0 0 10)) 2 (va_cpy (S.2 14) (S.2 2) 0 0 16)) 3 (va_cpy (S.2 15) (S.2 3) 0 0 16))) mf_X12_rowOf rfl rfl gX12_undo_X12_rowOf (pRc.of (ci := 12) rfl rfl) (by omega) rfl (Nat.le_of_ble_eq_true rfl) (by rfl) dX12_undo_77 (fun r10 h10 q10 => ?_)
    obtain ⟨rfl, rfl⟩ := q10
    refine E_iconst (v := 0) dX12_undo_80 (by decide) ?_
    refine E_aload_n dX12_undo_81 rfl ?_
    refine E_iload_n dX12_undo_82 rfl ?_
    refine E_callVR (st := [.int 0, .ref 5, .int 0, .ref 30]) (c_X12_rowOf_0_k4 l D dA ad (pAr (pAr (pAr (pAr (pI (pI (pI (pI (pI S 0 ((S.2 29) 0)) 1 ((S.2 29) 1)) 2 ((S.2 29) 2)) 3 ((S.2 29) 3)) 4 ((S.2 29) 4)) 0 (va_cpy (S.2 12) (S.2 0) 0 0 10)) 1 (va_cpy (S.2 13) (S.2 1) 0 0 10)) 2 (va_cpy (S.2 14) (S.2 2) 0 0 16)) 3 (va_cpy (S.2 15) (S.2 3) 0 0 16))) mf_X12_rowOf rfl rfl gX12_undo_X12_rowOf (pRc.of (ci := 12) rfl rfl) (by omega) rfl (Nat.le_of_ble_eq_true rfl) (by rfl) dX12_undo_83 (fun r11 h11 q11 => ?_)
    obtain ⟨rfl, rfl⟩ := q11
    refine E_alen dX12_undo_86 rfl (by decide) ?_
    refine E_val (y := 16) rfl ?_
    refine E_copy (i := 0) (j := 0) (k0 := 16) (n0 := 16) (n1 := 16) (f := S.2 16) (g := S.2 4) (h' := hM (pAr (pAr (pAr (pAr (pAr (pI (pI (pI (pI (pI S 0 ((S.2 29) 0)) 1 ((S.2 29) 1)) 2 ((S.2 29) 2)) 3 ((S.2 29) 3)) 4 ((S.2 29) 4)) 0 (va_cpy (S.2 12) (S.2 0) 0 0 10)) 1 (va_cpy (S.2 13) (S.2 1) 0 0 10)) 2 (va_cpy (S.2 14) (S.2 2) 0 0 16)) 3 (va_cpy (S.2 15) (S.2 3) 0 0 16)) 4 (va_cpy (S.2 16) (S.2 4) 0 0 16))) (by decide +kernel) (by decide +kernel) (by decide +kernel) (by decide +kernel) rfl rfl (by decide) (by decide) (by decide) (by decide) (by omega) (Nat.le_of_ble_eq_true rfl) (by rfl) dX12_undo_87 (sM_A4 (pAr (pAr (pAr (pAr (pI (pI (pI (pI (pI S 0 ((S.2 29) 0)) 1 ((S.2 29) 1)) 2 ((S.2 29) 2)) 3 ((S.2 29) 3)) 4 ((S.2 29) 4)) 0 (va_cpy (S.2 12) (S.2 0) 0 0 10)) 1 (va_cpy (S.2 13) (S.2 1) 0 0 10)) 2 (va_cpy (S.2 14) (S.2 2) 0 0 16)) 3 (va_cpy (S.2 15) (S.2 3) 0 0 16)) (va_cpy (S.2 16) (S.2 4) 0 0 16)) ?_
    refine E_iinc (v := 5) (ls' := [(0, .ref 0), (1, .int 5)]) dX12_undo_90 rfl (by decide) (by decide) rfl ?_
    refine E_goto (tgt := 62) dX12_undo_93 (by decide) ?_
    refine E_iload_n dX12_undo_62 rfl ?_
    refine E_bipush (v := 12) dX12_undo_63 (by decide) ?_
    refine E_icmp_ge (tgt := 96) dX12_undo_65 (by decide) (fun c => absurd c (by decide)) (fun _ => ?_)
    refine E_aload_n dX12_undo_68 rfl ?_
    refine E_getf (v := .ref 25) dX12_undo_69 fl_X12_undo_88 rfl rfl ?_
    refine E_iload_n dX12_undo_72 rfl ?_
    refine E_aald (k0 := 31) dX12_undo_73 rfl (pin_in (by decide)) rfl ?_
    refine E_iconst (v := 0) dX12_undo_74 (by decide) ?_
    refine E_aload_n dX12_undo_75 rfl ?_
    refine E_iload_n dX12_undo_76 rfl ?_
    refine E_callVR (st := [.int 0, .ref 31]) (c_X12_rowOf_0_k5 l D dA ad (pAr (pAr (pAr (pAr (pAr (pI (pI (pI (pI (pI S 0 ((S.2 29) 0)) 1 ((S.2 29) 1)) 2 ((S.2 29) 2)) 3 ((S.2 29) 3)) 4 ((S.2 29) 4)) 0 (va_cpy (S.2 12) (S.2 0) 0 0 10)) 1 (va_cpy (S.2 13) (S.2 1) 0 0 10)) 2 (va_cpy (S.2 14) (S.2 2) 0 0 16)) 3 (va_cpy (S.2 15) (S.2 3) 0 0 16)) 4 (va_cpy (S.2 16) (S.2 4) 0 0 16))) mf_X12_rowOf rfl rfl gX12_undo_X12_rowOf (pRc.of (ci := 12) rfl rfl) (by omega) rfl (Nat.le_of_ble_eq_true rfl) (by rfl) dX12_undo_77 (fun r12 h12 q12 => ?_)
    obtain ⟨rfl, rfl⟩ := q12
    refine E_iconst (v := 0) dX12_undo_80 (by decide) ?_
    refine E_aload_n dX12_undo_81 rfl ?_
    refine E_iload_n dX12_undo_82 rfl ?_
    refine E_callVR (st := [.int 0, .ref 6, .int 0, .ref 31]) (c_X12_rowOf_0_k5 l D dA ad (pAr (pAr (pAr (pAr (pAr (pI (pI (pI (pI (pI S 0 ((S.2 29) 0)) 1 ((S.2 29) 1)) 2 ((S.2 29) 2)) 3 ((S.2 29) 3)) 4 ((S.2 29) 4)) 0 (va_cpy (S.2 12) (S.2 0) 0 0 10)) 1 (va_cpy (S.2 13) (S.2 1) 0 0 10)) 2 (va_cpy (S.2 14) (S.2 2) 0 0 16)) 3 (va_cpy (S.2 15) (S.2 3) 0 0 16)) 4 (va_cpy (S.2 16) (S.2 4) 0 0 16))) mf_X12_rowOf rfl rfl gX12_undo_X12_rowOf (pRc.of (ci := 12) rfl rfl) (by omega) rfl (Nat.le_of_ble_eq_true rfl) (by rfl) dX12_undo_83 (fun r13 h13 q13 => ?_)
    obtain ⟨rfl, rfl⟩ := q13
    refine E_alen dX12_undo_86 rfl (by decide) ?_
    refine E_val (y := 16) rfl ?_
    refine E_copy (i := 0) (j := 0) (k0 := 16) (n0 := 16) (n1 := 16) (f := S.2 17) (g := S.2 5) (h' := hM (pAr (pAr (pAr (pAr (pAr (pAr (pI (pI (pI (pI (pI S 0 ((S.2 29) 0)) 1 ((S.2 29) 1)) 2 ((S.2 29) 2)) 3 ((S.2 29) 3)) 4 ((S.2 29) 4)) 0 (va_cpy (S.2 12) (S.2 0) 0 0 10)) 1 (va_cpy (S.2 13) (S.2 1) 0 0 10)) 2 (va_cpy (S.2 14) (S.2 2) 0 0 16)) 3 (va_cpy (S.2 15) (S.2 3) 0 0 16)) 4 (va_cpy (S.2 16) (S.2 4) 0 0 16)) 5 (va_cpy (S.2 17) (S.2 5) 0 0 16))) (by decide +kernel) (by decide +kernel) (by decide +kernel) (by decide +kernel) rfl rfl (by decide) (by decide) (by decide) (by decide) (by omega) (Nat.le_of_ble_eq_true rfl) (by rfl) dX12_undo_87 (sM_A5 (pAr (pAr (pAr (pAr (pAr (pI (pI (pI (pI (pI S 0 ((S.2 29) 0)) 1 ((S.2 29) 1)) 2 ((S.2 29) 2)) 3 ((S.2 29) 3)) 4 ((S.2 29) 4)) 0 (va_cpy (S.2 12) (S.2 0) 0 0 10)) 1 (va_cpy (S.2 13) (S.2 1) 0 0 10)) 2 (va_cpy (S.2 14) (S.2 2) 0 0 16)) 3 (va_cpy (S.2 15) (S.2 3) 0 0 16)) 4 (va_cpy (S.2 16) (S.2 4) 0 0 16)) (va_cpy (S.2 17) (S.2 5) 0 0 16)) ?_
    refine E_iinc (v := 6) (ls' := [(0, .ref 0), (1, .int 6)]) dX12_undo_90 rfl (by decide) (by decide) rfl ?_
    refine E_goto (tgt := 62) dX12_undo_93 (by decide) ?_
    refine E_iload_n dX12_undo_62 rfl ?_
    refine E_bipush (v := 12) dX12_undo_63 (by decide) ?_
    refine E_icmp_ge (tgt := 96) dX12_undo_65 (by decide) (fun c => absurd c (by decide)) (fun _ => ?_)
    refine E_aload_n dX12_undo_68 rfl ?_
    refine E_getf (v := .ref 25) dX12_undo_69 fl_X12_undo_88 rfl rfl ?_
    refine E_iload_n dX12_undo_72 rfl ?_
    refine E_aald (k0 := 32) dX12_undo_73 rfl (pin_in (by decide)) rfl ?_
    refine E_iconst (v := 0) dX12_undo_74 (by decide) ?_
    refine E_aload_n dX12_undo_75 rfl ?_
    refine E_iload_n dX12_undo_76 rfl ?_
    refine E_callVR (st := [.int 0, .ref 32]) (c_X12_rowOf_0_k6 l D dA ad (pAr (pAr (pAr (pAr (pAr (pAr (pI (pI (pI (pI (pI S 0 ((S.2 29) 0)) 1 ((S.2 29) 1)) 2 ((S.2 29) 2)) 3 ((S.2 29) 3)) 4 ((S.2 29) 4)) 0 (va_cpy (S.2 12) (S.2 0) 0 0 10)) 1 (va_cpy (S.2 13) (S.2 1) 0 0 10)) 2 (va_cpy (S.2 14) (S.2 2) 0 0 16)) 3 (va_cpy (S.2 15) (S.2 3) 0 0 16)) 4 (va_cpy (S.2 16) (S.2 4) 0 0 16)) 5 (va_cpy (S.2 17) (S.2 5) 0 0 16))) mf_X12_rowOf rfl rfl gX12_undo_X12_rowOf (pRc.of (ci := 12) rfl rfl) (by omega) rfl (Nat.le_of_ble_eq_true rfl) (by rfl) dX12_undo_77 (fun r14 h14 q14 => ?_)
    obtain ⟨rfl, rfl⟩ := q14
    refine E_iconst (v := 0) dX12_undo_80 (by decide) ?_
    refine E_aload_n dX12_undo_81 rfl ?_
    refine E_iload_n dX12_undo_82 rfl ?_
    refine E_callVR (st := [.int 0, .ref 7, .int 0, .ref 32]) (c_X12_rowOf_0_k6 l D dA ad (pAr (pAr (pAr (pAr (pAr (pAr (pI (pI (pI (pI (pI S 0 ((S.2 29) 0)) 1 ((S.2 29) 1)) 2 ((S.2 29) 2)) 3 ((S.2 29) 3)) 4 ((S.2 29) 4)) 0 (va_cpy (S.2 12) (S.2 0) 0 0 10)) 1 (va_cpy (S.2 13) (S.2 1) 0 0 10)) 2 (va_cpy (S.2 14) (S.2 2) 0 0 16)) 3 (va_cpy (S.2 15) (S.2 3) 0 0 16)) 4 (va_cpy (S.2 16) (S.2 4) 0 0 16)) 5 (va_cpy (S.2 17) (S.2 5) 0 0 16))) mf_X12_rowOf rfl rfl gX12_undo_X12_rowOf (pRc.of (ci := 12) rfl rfl) (by omega) rfl (Nat.le_of_ble_eq_true rfl) (by rfl) dX12_undo_83 (fun r15 h15 q15 => ?_)
    obtain ⟨rfl, rfl⟩ := q15
    refine E_alen dX12_undo_86 rfl (by decide) ?_
    refine E_val (y := 16) rfl ?_
    refine E_copy (i := 0) (j := 0) (k0 := 16) (n0 := 16) (n1 := 16) (f := S.2 18) (g := S.2 6) (h' := hM (pAr (pAr (pAr (pAr (pAr (pAr (pAr (pI (pI (pI (pI (pI S 0 ((S.2 29) 0)) 1 ((S.2 29) 1)) 2 ((S.2 29) 2)) 3 ((S.2 29) 3)) 4 ((S.2 29) 4)) 0 (va_cpy (S.2 12) (S.2 0) 0 0 10)) 1 (va_cpy (S.2 13) (S.2 1) 0 0 10)) 2 (va_cpy (S.2 14) (S.2 2) 0 0 16)) 3 (va_cpy (S.2 15) (S.2 3) 0 0 16)) 4 (va_cpy (S.2 16) (S.2 4) 0 0 16)) 5 (va_cpy (S.2 17) (S.2 5) 0 0 16)) 6 (va_cpy (S.2 18) (S.2 6) 0 0 16))) (by decide +kernel) (by decide +kernel) (by decide +kernel) (by decide +kernel) rfl rfl (by decide) (by decide) (by decide) (by decide) (by omega) (Nat.le_of_ble_eq_true rfl) (by rfl) dX12_undo_87 (sM_A6 (pAr (pAr (pAr (pAr (pAr (pAr (pI (pI (pI (pI (pI S 0 ((S.2 29) 0)) 1 ((S.2 29) 1)) 2 ((S.2 29) 2)) 3 ((S.2 29) 3)) 4 ((S.2 29) 4)) 0 (va_cpy (S.2 12) (S.2 0) 0 0 10)) 1 (va_cpy (S.2 13) (S.2 1) 0 0 10)) 2 (va_cpy (S.2 14) (S.2 2) 0 0 16)) 3 (va_cpy (S.2 15) (S.2 3) 0 0 16)) 4 (va_cpy (S.2 16) (S.2 4) 0 0 16)) 5 (va_cpy (S.2 17) (S.2 5) 0 0 16)) (va_cpy (S.2 18) (S.2 6) 0 0 16)) ?_
    refine E_iinc (v := 7) (ls' := [(0, .ref 0), (1, .int 7)]) dX12_undo_90 rfl (by decide) (by decide) rfl ?_
    refine E_goto (tgt := 62) dX12_undo_93 (by decide) ?_
    refine E_iload_n dX12_undo_62 rfl ?_
    refine E_bipush (v := 12) dX12_undo_63 (by decide) ?_
    refine E_icmp_ge (tgt := 96) dX12_undo_65 (by decide) (fun c => absurd c (by decide)) (fun _ => ?_)
    refine E_aload_n dX12_undo_68 rfl ?_
    refine E_getf (v := .ref 25) dX12_undo_69 fl_X12_undo_88 rfl rfl ?_
    refine E_iload_n dX12_undo_72 rfl ?_
    refine E_aald (k0 := 33) dX12_undo_73 rfl (pin_in (by decide)) rfl ?_
    refine E_iconst (v := 0) dX12_undo_74 (by decide) ?_
    refine E_aload_n dX12_undo_75 rfl ?_
    refine E_iload_n dX12_undo_76 rfl ?_
    refine E_callVR (st := [.int 0, .ref 33]) (c_X12_rowOf_0_k7 l D dA ad (pAr (pAr (pAr (pAr (pAr (pAr (pAr (pI (pI (pI (pI (pI S 0 ((S.2 29) 0)) 1 ((S.2 29) 1)) 2 ((S.2 29) 2)) 3 ((S.2 29) 3)) 4 ((S.2 29) 4)) 0 (va_cpy (S.2 12) (S.2 0) 0 0 10)) 1 (va_cpy (S.2 13) (S.2 1) 0 0 10)) 2 (va_cpy (S.2 14) (S.2 2) 0 0 16)) 3 (va_cpy (S.2 15) (S.2 3) 0 0 16)) 4 (va_cpy (S.2 16) (S.2 4) 0 0 16)) 5 (va_cpy (S.2 17) (S.2 5) 0 0 16)) 6 (va_cpy (S.2 18) (S.2 6) 0 0 16))) mf_X12_rowOf rfl rfl gX12_undo_X12_rowOf (pRc.of (ci := 12) rfl rfl) (by omega) rfl (Nat.le_of_ble_eq_true rfl) (by rfl) dX12_undo_77 (fun r16 h16 q16 => ?_)
    obtain ⟨rfl, rfl⟩ := q16
    refine E_iconst (v := 0) dX12_undo_80 (by decide) ?_
    refine E_aload_n dX12_undo_81 rfl ?_
    refine E_iload_n dX12_undo_82 rfl ?_
    refine E_callVR (st := [.int 0, .ref 8, .int 0, .ref 33]) (c_X12_rowOf_0_k7 l D dA ad (pAr (pAr (pAr (pAr (pAr (pAr (pAr (pI (pI (pI (pI (pI S 0 ((S.2 29) 0)) 1 ((S.2 29) 1)) 2 ((S.2 29) 2)) 3 ((S.2 29) 3)) 4 ((S.2 29) 4)) 0 (va_cpy (S.2 12) (S.2 0) 0 0 10)) 1 (va_cpy (S.2 13) (S.2 1) 0 0 10)) 2 (va_cpy (S.2 14) (S.2 2) 0 0 16)) 3 (va_cpy (S.2 15) (S.2 3) 0 0 16)) 4 (va_cpy (S.2 16) (S.2 4) 0 0 16)) 5 (va_cpy (S.2 17) (S.2 5) 0 0 16)) 6 (va_cpy (S.2 18) (S.2 6) 0 0 16))) mf_X12_rowOf rfl rfl gX12_undo_X12_rowOf (pRc.of (ci := 12) rfl rfl) (by omega) rfl (Nat.le_of_ble_eq_true rfl) (by rfl) dX12_undo_83 (fun r17 h17 q17 => ?_)
    obtain ⟨rfl, rfl⟩ := q17
    refine E_alen dX12_undo_86 rfl (by decide) ?_
    refine E_val (y := 16) rfl ?_
    refine E_copy (i := 0) (j := 0) (k0 := 16) (n0 := 16) (n1 := 16) (f := S.2 19) (g := S.2 7) (h' := hM (pAr (pAr (pAr (pAr (pAr (pAr (pAr (pAr (pI (pI (pI (pI (pI S 0 ((S.2 29) 0)) 1 ((S.2 29) 1)) 2 ((S.2 29) 2)) 3 ((S.2 29) 3)) 4 ((S.2 29) 4)) 0 (va_cpy (S.2 12) (S.2 0) 0 0 10)) 1 (va_cpy (S.2 13) (S.2 1) 0 0 10)) 2 (va_cpy (S.2 14) (S.2 2) 0 0 16)) 3 (va_cpy (S.2 15) (S.2 3) 0 0 16)) 4 (va_cpy (S.2 16) (S.2 4) 0 0 16)) 5 (va_cpy (S.2 17) (S.2 5) 0 0 16)) 6 (va_cpy (S.2 18) (S.2 6) 0 0 16)) 7 (va_cpy (S.2 19) (S.2 7) 0 0 16))) (by decide +kernel) (by decide +kernel) (by decide +kernel) (by decide +kernel) rfl rfl (by decide) (by decide) (by decide) (by decide) (by omega) (Nat.le_of_ble_eq_true rfl) (by rfl) dX12_undo_87 (sM_A7 (pAr (pAr (pAr (pAr (pAr (pAr (pAr (pI (pI (pI (pI (pI S 0 ((S.2 29) 0)) 1 ((S.2 29) 1)) 2 ((S.2 29) 2)) 3 ((S.2 29) 3)) 4 ((S.2 29) 4)) 0 (va_cpy (S.2 12) (S.2 0) 0 0 10)) 1 (va_cpy (S.2 13) (S.2 1) 0 0 10)) 2 (va_cpy (S.2 14) (S.2 2) 0 0 16)) 3 (va_cpy (S.2 15) (S.2 3) 0 0 16)) 4 (va_cpy (S.2 16) (S.2 4) 0 0 16)) 5 (va_cpy (S.2 17) (S.2 5) 0 0 16)) 6 (va_cpy (S.2 18) (S.2 6) 0 0 16)) (va_cpy (S.2 19) (S.2 7) 0 0 16)) ?_
    refine E_iinc (v := 8) (ls' := [(0, .ref 0), (1, .int 8)]) dX12_undo_90 rfl (by decide) (by decide) rfl ?_
    refine E_goto (tgt := 62) dX12_undo_93 (by decide) ?_
    refine E_iload_n dX12_undo_62 rfl ?_
    refine E_bipush (v := 12) dX12_undo_63 (by decide) ?_
    refine E_icmp_ge (tgt := 96) dX12_undo_65 (by decide) (fun c => absurd c (by decide)) (fun _ => ?_)
    refine E_aload_n dX12_undo_68 rfl ?_
    refine E_getf (v := .ref 25) dX12_undo_69 fl_X12_undo_88 rfl rfl ?_
    refine E_iload_n dX12_undo_72 rfl ?_
    refine E_aald (k0 := 34) dX12_undo_73 rfl (pin_in (by decide)) rfl ?_
    refine E_iconst (v := 0) dX12_undo_74 (by decide) ?_
    refine E_aload_n dX12_undo_75 rfl ?_
    refine E_iload_n dX12_undo_76 rfl ?_
    refine E_callVR (st := [.int 0, .ref 34]) (c_X12_rowOf_0_k8 l D dA ad (pAr (pAr (pAr (pAr (pAr (pAr (pAr (pAr (pI (pI (pI (pI (pI S 0 ((S.2 29) 0)) 1 ((S.2 29) 1)) 2 ((S.2 29) 2)) 3 ((S.2 29) 3)) 4 ((S.2 29) 4)) 0 (va_cpy (S.2 12) (S.2 0) 0 0 10)) 1 (va_cpy (S.2 13) (S.2 1) 0 0 10)) 2 (va_cpy (S.2 14) (S.2 2) 0 0 16)) 3 (va_cpy (S.2 15) (S.2 3) 0 0 16)) 4 (va_cpy (S.2 16) (S.2 4) 0 0 16)) 5 (va_cpy (S.2 17) (S.2 5) 0 0 16)) 6 (va_cpy (S.2 18) (S.2 6) 0 0 16)) 7 (va_cpy (S.2 19) (S.2 7) 0 0 16))) mf_X12_rowOf rfl rfl gX12_undo_X12_rowOf (pRc.of (ci := 12) rfl rfl) (by omega) rfl (Nat.le_of_ble_eq_true rfl) (by rfl) dX12_undo_77 (fun r18 h18 q18 => ?_)
    obtain ⟨rfl, rfl⟩ := q18
    refine E_iconst (v := 0) dX12_undo_80 (by decide) ?_
    refine E_aload_n dX12_undo_81 rfl ?_
    refine E_iload_n dX12_undo_82 rfl ?_
    refine E_callVR (st := [.int 0, .ref 9, .int 0, .ref 34]) (c_X12_rowOf_0_k8 l D dA ad (pAr (pAr (pAr (pAr (pAr (pAr (pAr (pAr (pI (pI (pI (pI (pI S 0 ((S.2 29) 0)) 1 ((S.2 29) 1)) 2 ((S.2 29) 2)) 3 ((S.2 29) 3)) 4 ((S.2 29) 4)) 0 (va_cpy (S.2 12) (S.2 0) 0 0 10)) 1 (va_cpy (S.2 13) (S.2 1) 0 0 10)) 2 (va_cpy (S.2 14) (S.2 2) 0 0 16)) 3 (va_cpy (S.2 15) (S.2 3) 0 0 16)) 4 (va_cpy (S.2 16) (S.2 4) 0 0 16)) 5 (va_cpy (S.2 17) (S.2 5) 0 0 16)) 6 (va_cpy (S.2 18) (S.2 6) 0 0 16)) 7 (va_cpy (S.2 19) (S.2 7) 0 0 16))) mf_X12_rowOf rfl rfl gX12_undo_X12_rowOf (pRc.of (ci := 12) rfl rfl) (by omega) rfl (Nat.le_of_ble_eq_true rfl) (by rfl) dX12_undo_83 (fun r19 h19 q19 => ?_)
    obtain ⟨rfl, rfl⟩ := q19
    refine E_alen dX12_undo_86 rfl (by decide) ?_
    refine E_val (y := 4) rfl ?_
    refine E_copy (i := 0) (j := 0) (k0 := 4) (n0 := 16) (n1 := 4) (f := S.2 20) (g := S.2 8) (h' := hM (pAr (pAr (pAr (pAr (pAr (pAr (pAr (pAr (pAr (pI (pI (pI (pI (pI S 0 ((S.2 29) 0)) 1 ((S.2 29) 1)) 2 ((S.2 29) 2)) 3 ((S.2 29) 3)) 4 ((S.2 29) 4)) 0 (va_cpy (S.2 12) (S.2 0) 0 0 10)) 1 (va_cpy (S.2 13) (S.2 1) 0 0 10)) 2 (va_cpy (S.2 14) (S.2 2) 0 0 16)) 3 (va_cpy (S.2 15) (S.2 3) 0 0 16)) 4 (va_cpy (S.2 16) (S.2 4) 0 0 16)) 5 (va_cpy (S.2 17) (S.2 5) 0 0 16)) 6 (va_cpy (S.2 18) (S.2 6) 0 0 16)) 7 (va_cpy (S.2 19) (S.2 7) 0 0 16)) 8 (va_cpy (S.2 20) (S.2 8) 0 0 4))) (by decide +kernel) (by decide +kernel) (by decide +kernel) (by decide +kernel) rfl rfl (by decide) (by decide) (by decide) (by decide) (by omega) (Nat.le_of_ble_eq_true rfl) (by rfl) dX12_undo_87 (sM_A8 (pAr (pAr (pAr (pAr (pAr (pAr (pAr (pAr (pI (pI (pI (pI (pI S 0 ((S.2 29) 0)) 1 ((S.2 29) 1)) 2 ((S.2 29) 2)) 3 ((S.2 29) 3)) 4 ((S.2 29) 4)) 0 (va_cpy (S.2 12) (S.2 0) 0 0 10)) 1 (va_cpy (S.2 13) (S.2 1) 0 0 10)) 2 (va_cpy (S.2 14) (S.2 2) 0 0 16)) 3 (va_cpy (S.2 15) (S.2 3) 0 0 16)) 4 (va_cpy (S.2 16) (S.2 4) 0 0 16)) 5 (va_cpy (S.2 17) (S.2 5) 0 0 16)) 6 (va_cpy (S.2 18) (S.2 6) 0 0 16)) 7 (va_cpy (S.2 19) (S.2 7) 0 0 16)) (va_cpy (S.2 20) (S.2 8) 0 0 4)) ?_
    refine E_iinc (v := 9) (ls' := [(0, .ref 0), (1, .int 9)]) dX12_undo_90 rfl (by decide) (by decide) rfl ?_
    refine E_goto (tgt := 62) dX12_undo_93 (by decide) ?_
    refine E_iload_n dX12_undo_62 rfl ?_
    refine E_bipush (v := 12) dX12_undo_63 (by decide) ?_
    refine E_icmp_ge (tgt := 96) dX12_undo_65 (by decide) (fun c => absurd c (by decide)) (fun _ => ?_)
    refine E_aload_n dX12_undo_68 rfl ?_
    refine E_getf (v := .ref 25) dX12_undo_69 fl_X12_undo_88 rfl rfl ?_
    refine E_iload_n dX12_undo_72 rfl ?_
    refine E_aald (k0 := 35) dX12_undo_73 rfl (pin_in (by decide)) rfl ?_
    refine E_iconst (v := 0) dX12_undo_74 (by decide) ?_
    refine E_aload_n dX12_undo_75 rfl ?_
    refine E_iload_n dX12_undo_76 rfl ?_
    refine E_callVR (st := [.int 0, .ref 35]) (c_X12_rowOf_0_k9 l D dA ad (pAr (pAr (pAr (pAr (pAr (pAr (pAr (pAr (pAr (pI (pI (pI (pI (pI S 0 ((S.2 29) 0)) 1 ((S.2 29) 1)) 2 ((S.2 29) 2)) 3 ((S.2 29) 3)) 4 ((S.2 29) 4)) 0 (va_cpy (S.2 12) (S.2 0) 0 0 10)) 1 (va_cpy (S.2 13) (S.2 1) 0 0 10)) 2 (va_cpy (S.2 14) (S.2 2) 0 0 16)) 3 (va_cpy (S.2 15) (S.2 3) 0 0 16)) 4 (va_cpy (S.2 16) (S.2 4) 0 0 16)) 5 (va_cpy (S.2 17) (S.2 5) 0 0 16)) 6 (va_cpy (S.2 18) (S.2 6) 0 0 16)) 7 (va_cpy (S.2 19) (S.2 7) 0 0 16)) 8 (va_cpy (S.2 20) (S.2 8) 0 0 4))) mf_X12_rowOf rfl rfl gX12_undo_X12_rowOf (pRc.of (ci := 12) rfl rfl) (by omega) rfl (Nat.le_of_ble_eq_true rfl) (by rfl) dX12_undo_77 (fun r20 h20 q20 => ?_)
    obtain ⟨rfl, rfl⟩ := q20
    refine E_iconst (v := 0) dX12_undo_80 (by decide) ?_
    refine E_aload_n dX12_undo_81 rfl ?_
    refine E_iload_n dX12_undo_82 rfl ?_
    refine E_callVR (st := [.int 0, .ref 10, .int 0, .ref 35]) (c_X12_rowOf_0_k9 l D dA ad (pAr (pAr (pAr (pAr (pAr (pAr (pAr (pAr (pAr (pI (pI (pI (pI (pI S 0 ((S.2 29) 0)) 1 ((S.2 29) 1)) 2 ((S.2 29) 2)) 3 ((S.2 29) 3)) 4 ((S.2 29) 4)) 0 (va_cpy (S.2 12) (S.2 0) 0 0 10)) 1 (va_cpy (S.2 13) (S.2 1) 0 0 10)) 2 (va_cpy (S.2 14) (S.2 2) 0 0 16)) 3 (va_cpy (S.2 15) (S.2 3) 0 0 16)) 4 (va_cpy (S.2 16) (S.2 4) 0 0 16)) 5 (va_cpy (S.2 17) (S.2 5) 0 0 16)) 6 (va_cpy (S.2 18) (S.2 6) 0 0 16)) 7 (va_cpy (S.2 19) (S.2 7) 0 0 16)) 8 (va_cpy (S.2 20) (S.2 8) 0 0 4))) mf_X12_rowOf rfl rfl gX12_undo_X12_rowOf (pRc.of (ci := 12) rfl rfl) (by omega) rfl (Nat.le_of_ble_eq_true rfl) (by rfl) dX12_undo_83 (fun r21 h21 q21 => ?_)
    obtain ⟨rfl, rfl⟩ := q21
    refine E_alen dX12_undo_86 rfl (by decide) ?_
    refine E_val (y := 4) rfl ?_
    refine E_copy (i := 0) (j := 0) (k0 := 4) (n0 := 16) (n1 := 4) (f := S.2 21) (g := S.2 9) (h' := hM (pAr (pAr (pAr (pAr (pAr (pAr (pAr (pAr (pAr (pAr (pI (pI (pI (pI (pI S 0 ((S.2 29) 0)) 1 ((S.2 29) 1)) 2 ((S.2 29) 2)) 3 ((S.2 29) 3)) 4 ((S.2 29) 4)) 0 (va_cpy (S.2 12) (S.2 0) 0 0 10)) 1 (va_cpy (S.2 13) (S.2 1) 0 0 10)) 2 (va_cpy (S.2 14) (S.2 2) 0 0 16)) 3 (va_cpy (S.2 15) (S.2 3) 0 0 16)) 4 (va_cpy (S.2 16) (S.2 4) 0 0 16)) 5 (va_cpy (S.2 17) (S.2 5) 0 0 16)) 6 (va_cpy (S.2 18) (S.2 6) 0 0 16)) 7 (va_cpy (S.2 19) (S.2 7) 0 0 16)) 8 (va_cpy (S.2 20) (S.2 8) 0 0 4)) 9 (va_cpy (S.2 21) (S.2 9) 0 0 4))) (by decide +kernel) (by decide +kernel) (by decide +kernel) (by decide +kernel) rfl rfl (by decide) (by decide) (by decide) (by decide) (by omega) (Nat.le_of_ble_eq_true rfl) (by rfl) dX12_undo_87 (sM_A9 (pAr (pAr (pAr (pAr (pAr (pAr (pAr (pAr (pAr (pI (pI (pI (pI (pI S 0 ((S.2 29) 0)) 1 ((S.2 29) 1)) 2 ((S.2 29) 2)) 3 ((S.2 29) 3)) 4 ((S.2 29) 4)) 0 (va_cpy (S.2 12) (S.2 0) 0 0 10)) 1 (va_cpy (S.2 13) (S.2 1) 0 0 10)) 2 (va_cpy (S.2 14) (S.2 2) 0 0 16)) 3 (va_cpy (S.2 15) (S.2 3) 0 0 16)) 4 (va_cpy (S.2 16) (S.2 4) 0 0 16)) 5 (va_cpy (S.2 17) (S.2 5) 0 0 16)) 6 (va_cpy (S.2 18) (S.2 6) 0 0 16)) 7 (va_cpy (S.2 19) (S.2 7) 0 0 16)) 8 (va_cpy (S.2 20) (S.2 8) 0 0 4)) (va_cpy (S.2 21) (S.2 9) 0 0 4)) ?_
    refine E_iinc (v := 10) (ls' := [(0, .ref 0), (1, .int 10)]) dX12_undo_90 rfl (by decide) (by decide) rfl ?_
    refine E_goto (tgt := 62) dX12_undo_93 (by decide) ?_
    refine E_iload_n dX12_undo_62 rfl ?_
    refine E_bipush (v := 12) dX12_undo_63 (by decide) ?_
    refine E_icmp_ge (tgt := 96) dX12_undo_65 (by decide) (fun c => absurd c (by decide)) (fun _ => ?_)
    refine E_aload_n dX12_undo_68 rfl ?_
    refine E_getf (v := .ref 25) dX12_undo_69 fl_X12_undo_88 rfl rfl ?_
    refine E_iload_n dX12_undo_72 rfl ?_
    refine E_aald (k0 := 36) dX12_undo_73 rfl (pin_in (by decide)) rfl ?_
    refine E_iconst (v := 0) dX12_undo_74 (by decide) ?_
    refine E_aload_n dX12_undo_75 rfl ?_
    refine E_iload_n dX12_undo_76 rfl ?_
    refine E_callVR (st := [.int 0, .ref 36]) (c_X12_rowOf_0_k10 l D dA ad (pAr (pAr (pAr (pAr (pAr (pAr (pAr (pAr (pAr (pAr (pI (pI (pI (pI (pI S 0 ((S.2 29) 0)) 1 ((S.2 29) 1)) 2 ((S.2 29) 2)) 3 ((S.2 29) 3)) 4 ((S.2 29) 4)) 0 (va_cpy (S.2 12) (S.2 0) 0 0 10)) 1 (va_cpy (S.2 13) (S.2 1) 0 0 10)) 2 (va_cpy (S.2 14) (S.2 2) 0 0 16)) 3 (va_cpy (S.2 15) (S.2 3) 0 0 16)) 4 (va_cpy (S.2 16) (S.2 4) 0 0 16)) 5 (va_cpy (S.2 17) (S.2 5) 0 0 16)) 6 (va_cpy (S.2 18) (S.2 6) 0 0 16)) 7 (va_cpy (S.2 19) (S.2 7) 0 0 16)) 8 (va_cpy (S.2 20) (S.2 8) 0 0 4)) 9 (va_cpy (S.2 21) (S.2 9) 0 0 4))) mf_X12_rowOf rfl rfl gX12_undo_X12_rowOf (pRc.of (ci := 12) rfl rfl) (by omega) rfl (Nat.le_of_ble_eq_true rfl) (by rfl) dX12_undo_77 (fun r22 h22 q22 => ?_)
    obtain ⟨rfl, rfl⟩ := q22
    refine E_iconst (v := 0) dX12_undo_80 (by decide) ?_
    refine E_aload_n dX12_undo_81 rfl ?_
    refine E_iload_n dX12_undo_82 rfl ?_
    refine E_callVR (st := [.int 0, .ref 11, .int 0, .ref 36]) (c_X12_rowOf_0_k10 l D dA ad (pAr (pAr (pAr (pAr (pAr (pAr (pAr (pAr (pAr (pAr (pI (pI (pI (pI (pI S 0 ((S.2 29) 0)) 1 ((S.2 29) 1)) 2 ((S.2 29) 2)) 3 ((S.2 29) 3)) 4 ((S.2 29) 4)) 0 (va_cpy (S.2 12) (S.2 0) 0 0 10)) 1 (va_cpy (S.2 13) (S.2 1) 0 0 10)) 2 (va_cpy (S.2 14) (S.2 2) 0 0 16)) 3 (va_cpy (S.2 15) (S.2 3) 0 0 16)) 4 (va_cpy (S.2 16) (S.2 4) 0 0 16)) 5 (va_cpy (S.2 17) (S.2 5) 0 0 16)) 6 (va_cpy (S.2 18) (S.2 6) 0 0 16)) 7 (va_cpy (S.2 19) (S.2 7) 0 0 16)) 8 (va_cpy (S.2 20) (S.2 8) 0 0 4)) 9 (va_cpy (S.2 21) (S.2 9) 0 0 4))) mf_X12_rowOf rfl rfl gX12_undo_X12_rowOf (pRc.of (ci := 12) rfl rfl) (by omega) rfl (Nat.le_of_ble_eq_true rfl) (by rfl) dX12_undo_83 (fun r23 h23 q23 => ?_)
    obtain ⟨rfl, rfl⟩ := q23
    refine E_alen dX12_undo_86 rfl (by decide) ?_
    refine E_val (y := 4) rfl ?_
    refine E_copy (i := 0) (j := 0) (k0 := 4) (n0 := 16) (n1 := 4) (f := S.2 22) (g := S.2 10) (h' := hM (pAr (pAr (pAr (pAr (pAr (pAr (pAr (pAr (pAr (pAr (pAr (pI (pI (pI (pI (pI S 0 ((S.2 29) 0)) 1 ((S.2 29) 1)) 2 ((S.2 29) 2)) 3 ((S.2 29) 3)) 4 ((S.2 29) 4)) 0 (va_cpy (S.2 12) (S.2 0) 0 0 10)) 1 (va_cpy (S.2 13) (S.2 1) 0 0 10)) 2 (va_cpy (S.2 14) (S.2 2) 0 0 16)) 3 (va_cpy (S.2 15) (S.2 3) 0 0 16)) 4 (va_cpy (S.2 16) (S.2 4) 0 0 16)) 5 (va_cpy (S.2 17) (S.2 5) 0 0 16)) 6 (va_cpy (S.2 18) (S.2 6) 0 0 16)) 7 (va_cpy (S.2 19) (S.2 7) 0 0 16)) 8 (va_cpy (S.2 20) (S.2 8) 0 0 4)) 9 (va_cpy (S.2 21) (S.2 9) 0 0 4)) 10 (va_cpy (S.2 22) (S.2 10) 0 0 4))) (by decide +kernel) (by decide +kernel) (by decide +kernel) (by decide +kernel) rfl rfl (by decide) (by decide) (by decide) (by decide) (by omega) (Nat.le_of_ble_eq_true rfl) (by rfl) dX12_undo_87 (sM_A10 (pAr (pAr (pAr (pAr (pAr (pAr (pAr (pAr (pAr (pAr (pI (pI (pI (pI (pI S 0 ((S.2 29) 0)) 1 ((S.2 29) 1)) 2 ((S.2 29) 2)) 3 ((S.2 29) 3)) 4 ((S.2 29) 4)) 0 (va_cpy (S.2 12) (S.2 0) 0 0 10)) 1 (va_cpy (S.2 13) (S.2 1) 0 0 10)) 2 (va_cpy (S.2 14) (S.2 2) 0 0 16)) 3 (va_cpy (S.2 15) (S.2 3) 0 0 16)) 4 (va_cpy (S.2 16) (S.2 4) 0 0 16)) 5 (va_cpy (S.2 17) (S.2 5) 0 0 16)) 6 (va_cpy (S.2 18) (S.2 6) 0 0 16)) 7 (va_cpy (S.2 19) (S.2 7) 0 0 16)) 8 (va_cpy (S.2 20) (S.2 8) 0 0 4)) 9 (va_cpy (S.2 21) (S.2 9) 0 0 4)) (va_cpy (S.2 22) (S.2 10) 0 0 4)) ?_
    refine E_iinc (v := 11) (ls' := [(0, .ref 0), (1, .int 11)]) dX12_undo_90 rfl (by decide) (by decide) rfl ?_
    refine E_goto (tgt := 62) dX12_undo_93 (by decide) ?_
    refine E_iload_n dX12_undo_62 rfl ?_
    refine E_bipush (v := 12) dX12_undo_63 (by decide) ?_
    refine E_icmp_ge (tgt := 96) dX12_undo_65 (by decide) (fun c => absurd c (by decide)) (fun _ => ?_)
    refine E_aload_n dX12_undo_68 rfl ?_
    refine E_getf (v := .ref 25) dX12_undo_69 fl_X12_undo_88 rfl rfl ?_
    refine E_iload_n dX12_undo_72 rfl ?_
    refine E_aald (k0 := 37) dX12_undo_73 rfl (pin_in (by decide)) rfl ?_
    refine E_iconst (v := 0) dX12_undo_74 (by decide) ?_
    refine E_aload_n dX12_undo_75 rfl ?_
    refine E_iload_n dX12_undo_76 rfl ?_
    refine E_callVR (st := [.int 0, .ref 37]) (c_X12_rowOf_0_k11 l D dA ad (pAr (pAr (pAr (pAr (pAr (pAr (pAr (pAr (pAr (pAr (pAr (pI (pI (pI (pI (pI S 0 ((S.2 29) 0)) 1 ((S.2 29) 1)) 2 ((S.2 29) 2)) 3 ((S.2 29) 3)) 4 ((S.2 29) 4)) 0 (va_cpy (S.2 12) (S.2 0) 0 0 10)) 1 (va_cpy (S.2 13) (S.2 1) 0 0 10)) 2 (va_cpy (S.2 14) (S.2 2) 0 0 16)) 3 (va_cpy (S.2 15) (S.2 3) 0 0 16)) 4 (va_cpy (S.2 16) (S.2 4) 0 0 16)) 5 (va_cpy (S.2 17) (S.2 5) 0 0 16)) 6 (va_cpy (S.2 18) (S.2 6) 0 0 16)) 7 (va_cpy (S.2 19) (S.2 7) 0 0 16)) 8 (va_cpy (S.2 20) (S.2 8) 0 0 4)) 9 (va_cpy (S.2 21) (S.2 9) 0 0 4)) 10 (va_cpy (S.2 22) (S.2 10) 0 0 4))) mf_X12_rowOf rfl rfl gX12_undo_X12_rowOf (pRc.of (ci := 12) rfl rfl) (by omega) rfl (Nat.le_of_ble_eq_true rfl) (by rfl) dX12_undo_77 (fun r24 h24 q24 => ?_)
    obtain ⟨rfl, rfl⟩ := q24
    refine E_iconst (v := 0) dX12_undo_80 (by decide) ?_
    refine E_aload_n dX12_undo_81 rfl ?_
    refine E_iload_n dX12_undo_82 rfl ?_
    refine E_callVR (st := [.int 0, .ref 12, .int 0, .ref 37]) (c_X12_rowOf_0_k11 l D dA ad (pAr (pAr (pAr (pAr (pAr (pAr (pAr (pAr (pAr (pAr (pAr (pI (pI (pI (pI (pI S 0 ((S.2 29) 0)) 1 ((S.2 29) 1)) 2 ((S.2 29) 2)) 3 ((S.2 29) 3)) 4 ((S.2 29) 4)) 0 (va_cpy (S.2 12) (S.2 0) 0 0 10)) 1 (va_cpy (S.2 13) (S.2 1) 0 0 10)) 2 (va_cpy (S.2 14) (S.2 2) 0 0 16)) 3 (va_cpy (S.2 15) (S.2 3) 0 0 16)) 4 (va_cpy (S.2 16) (S.2 4) 0 0 16)) 5 (va_cpy (S.2 17) (S.2 5) 0 0 16)) 6 (va_cpy (S.2 18) (S.2 6) 0 0 16)) 7 (va_cpy (S.2 19) (S.2 7) 0 0 16)) 8 (va_cpy (S.2 20) (S.2 8) 0 0 4)) 9 (va_cpy (S.2 21) (S.2 9) 0 0 4)) 10 (va_cpy (S.2 22) (S.2 10) 0 0 4))) mf_X12_rowOf rfl rfl gX12_undo_X12_rowOf (pRc.of (ci := 12) rfl rfl) (by omega) rfl (Nat.le_of_ble_eq_true rfl) (by rfl) dX12_undo_83 (fun r25 h25 q25 => ?_)
    obtain ⟨rfl, rfl⟩ := q25
    refine E_alen dX12_undo_86 rfl (by decide) ?_
    refine E_val (y := 4) rfl ?_
    refine E_copy (i := 0) (j := 0) (k0 := 4) (n0 := 16) (n1 := 4) (f := S.2 23) (g := S.2 11) (h' := hM (pAr (pAr (pAr (pAr (pAr (pAr (pAr (pAr (pAr (pAr (pAr (pAr (pI (pI (pI (pI (pI S 0 ((S.2 29) 0)) 1 ((S.2 29) 1)) 2 ((S.2 29) 2)) 3 ((S.2 29) 3)) 4 ((S.2 29) 4)) 0 (va_cpy (S.2 12) (S.2 0) 0 0 10)) 1 (va_cpy (S.2 13) (S.2 1) 0 0 10)) 2 (va_cpy (S.2 14) (S.2 2) 0 0 16)) 3 (va_cpy (S.2 15) (S.2 3) 0 0 16)) 4 (va_cpy (S.2 16) (S.2 4) 0 0 16)) 5 (va_cpy (S.2 17) (S.2 5) 0 0 16)) 6 (va_cpy (S.2 18) (S.2 6) 0 0 16)) 7 (va_cpy (S.2 19) (S.2 7) 0 0 16)) 8 (va_cpy (S.2 20) (S.2 8) 0 0 4)) 9 (va_cpy (S.2 21) (S.2 9) 0 0 4)) 10 (va_cpy (S.2 22) (S.2 10) 0 0 4)) 11 (va_cpy (S.2 23) (S.2 11) 0 0 4))) (by decide +kernel) (by decide +kernel) (by decide +kernel) (by decide +kernel) rfl rfl (by decide) (by decide) (by decide) (by decide) (by omega) (Nat.le_of_ble_eq_true rfl) (by rfl) dX12_undo_87 (sM_A11 (pAr (pAr (pAr (pAr (pAr (pAr (pAr (pAr (pAr (pAr (pAr (pI (pI (pI (pI (pI S 0 ((S.2 29) 0)) 1 ((S.2 29) 1)) 2 ((S.2 29) 2)) 3 ((S.2 29) 3)) 4 ((S.2 29) 4)) 0 (va_cpy (S.2 12) (S.2 0) 0 0 10)) 1 (va_cpy (S.2 13) (S.2 1) 0 0 10)) 2 (va_cpy (S.2 14) (S.2 2) 0 0 16)) 3 (va_cpy (S.2 15) (S.2 3) 0 0 16)) 4 (va_cpy (S.2 16) (S.2 4) 0 0 16)) 5 (va_cpy (S.2 17) (S.2 5) 0 0 16)) 6 (va_cpy (S.2 18) (S.2 6) 0 0 16)) 7 (va_cpy (S.2 19) (S.2 7) 0 0 16)) 8 (va_cpy (S.2 20) (S.2 8) 0 0 4)) 9 (va_cpy (S.2 21) (S.2 9) 0 0 4)) 10 (va_cpy (S.2 22) (S.2 10) 0 0 4)) (va_cpy (S.2 23) (S.2 11) 0 0 4)) ?_
    refine E_iinc (v := 12) (ls' := [(0, .ref 0), (1, .int 12)]) dX12_undo_90 rfl (by decide) (by decide) rfl ?_
    refine E_goto (tgt := 62) dX12_undo_93 (by decide) ?_
    refine E_iload_n dX12_undo_62 rfl ?_
    refine E_bipush (v := 12) dX12_undo_63 (by decide) ?_
    refine E_icmp_ge (tgt := 96) dX12_undo_65 (by decide) (fun _ => ?_) (fun c => absurd c (by decide))
    refine E_aload_n dX12_undo_96 rfl ?_
    refine E_getf (v := .int ((S.2 29) 4)) dX12_undo_97 fl_X12_undo_98 rfl rfl ?_
    exact E_iret rfl dX12_undo_100 ⟨_, rfl, hf⟩
  · have hf := pO_pos c_1 hf
    refine E_bipush (v := (-5)) dX12_undo_7 (by decide) ?_
    exact E_iret rfl dX12_undo_9 ⟨_, rfl, hf⟩
