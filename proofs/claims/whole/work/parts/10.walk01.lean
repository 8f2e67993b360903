theorem fl_X2_waterOfSlope_9 : pFL wsX2_waterOfSlope RX2 9 2 0 := ⟨RX2, TX2, 6, hi_X2_waterOfSlope_2, rfl, by decide, by decide +kernel⟩
theorem hi_X2_draughtOf_2 : ∀ w ∈ u_ws RX2 TX2 6, w ∈ wsX2_draughtOf := fun w h => of_decide_eq_true (List.all_eq_true.mp (by decide +kernel : (u_ws RX2 TX2 6).all (fun w => decide (w ∈ wsX2_draughtOf)) = true) w h)
theorem fl_X2_draughtOf_9 : pFL wsX2_draughtOf RX2 9 2 0 := ⟨RX2, TX2, 6, hi_X2_draughtOf_2, rfl, by decide, by decide +kernel⟩
theorem mf_X2_draughtOf : pMF yX2_draughtOf wsX2_draughtOf cX2_draughtOf 4 (some .int) 3 := ⟨⟨_, rfl⟩, by decide +kernel, by decide, by decide +kernel, by decide +kernel, by decide +kernel⟩
def f_X2_draughtOf (S : PS) (v1 : Int32) (v2 : Int32) (v3 : Int32) : Option (Int32 × PS) :=
  some (v2 + (v3 * (((2 * v1) - (S.1 0)) + 1)), S)
set_option maxRecDepth 100000 in
theorem c_X2_draughtOf (l : Launch) (D : va_G) (dA : Nat → ClassId) (ad : Nat → Nat) (S : PS) (v1 : Int32) (v2 : Int32) (v3 : Int32) {P : (Int32 × PS) → Prop} (hf : pO (f_X2_draughtOf S v1 v2 v3) P) : CtI l D dA ad yX2_draughtOf wsX2_draughtOf 0 [.ref 2, .int v1, .int v2, .int v3] (hX S) (fun r h' => ∃ S' : PS, h' = hX S' ∧ P (r, S')) := by
  refine CtI_of mf_X2_draughtOf rfl rfl (Nat.le_of_ble_eq_true rfl) rfl (hX_len S) ?_
  unfold f_X2_draughtOf at hf
  refine E_iload_n dX2_draughtOf_0 rfl ?_
  refine E_iload_n dX2_draughtOf_1 rfl ?_
  refine E_iconst (v := 2) dX2_draughtOf_2 (by decide) ?_
  refine E_iload_n dX2_draughtOf_3 rfl ?_
  refine E_imul dX2_draughtOf_4 ?_
  refine E_aload_n dX2_draughtOf_5 rfl ?_
  refine E_getf (v := .int (S.1 0)) dX2_draughtOf_6 fl_X2_draughtOf_9 rfl rfl ?_
  refine E_isub dX2_draughtOf_9 ?_
  refine E_iconst (v := 1) dX2_draughtOf_10 (by decide) ?_
  refine E_iadd dX2_draughtOf_11 ?_
  refine E_imul dX2_draughtOf_12 ?_
  refine E_iadd dX2_draughtOf_13 ?_
  exact E_iret rfl dX2_draughtOf_14 ⟨_, rfl, hf⟩
theorem hi_X2_waterAt_2 : ∀ w ∈ u_ws RX2 TX2 6, w ∈ wsX2_waterAt := fun w h => of_decide_eq_true (List.all_eq_true.mp (by decide +kernel : (u_ws RX2 TX2 6).all (fun w => decide (w ∈ wsX2_waterAt)) = true) w h)
theorem fl_X2_waterAt_28 : pFL wsX2_waterAt RX2 28 2 5 := ⟨RX2, TX2, 6, hi_X2_waterAt_2, rfl, by decide, by decide +kernel⟩
theorem fl_X2_waterAt_24 : pFL wsX2_waterAt RX2 24 2 4 := ⟨RX2, TX2, 6, hi_X2_waterAt_2, rfl, by decide, by decide +kernel⟩
theorem mf_X2_waterAt : pMF yX2_waterAt wsX2_waterAt cX2_waterAt 4 (some .int) 2 := ⟨⟨_, rfl⟩, by decide +kernel, by decide, by decide +kernel, by decide +kernel, by decide +kernel⟩
def f_X2_waterAt (S : PS) (v1 : Int32) (v2 : Int32) : Option (Int32 × PS) :=
  pbnd (f_X2_top S) (fun r1 S_1 => pgd (pin v1 10) (if ((pmin v2 r1) - (64 * ((S_1.2 1) v1.toNatClampNeg))) ≤ (0 : Int32) then (some (0, S_1)) else (pgd (pin v1 10) (some (((S_1.2 0) v1.toNatClampNeg) * ((pmin v2 r1) - (64 * ((S_1.2 1) v1.toNatClampNeg))), S_1)))))
set_option maxRecDepth 100000 in
theorem c_X2_waterAt (l : Launch) (D : va_G) (dA : Nat → ClassId) (ad : Nat → Nat) (S : PS) (v1 : Int32) (v2 : Int32) {P : (Int32 × PS) → Prop} (hf : pO (f_X2_waterAt S v1 v2) P) : CtI l D dA ad yX2_waterAt wsX2_waterAt 1 [.ref 2, .int v1, .int v2] (hX S) (fun r h' => ∃ S' : PS, h' = hX S' ∧ P (r, S')) := by
  refine CtI_of mf_X2_waterAt rfl rfl (Nat.le_of_ble_eq_true rfl) rfl (hX_len S) ?_
  unfold f_X2_waterAt at hf
  refine E_iload_n dX2_waterAt_0 rfl ?_
  refine E_aload_n dX2_waterAt_1 rfl ?_
  refine E_callVI (st := [.int v2]) (c_X2_top l D dA ad S (pO_bnd hf)) mf_X2_top rfl rfl gX2_waterAt_X2_top (pRc.of (ci := 2) rfl rfl) (by omega) rfl (Nat.le_of_ble_eq_true rfl) (by rfl) dX2_waterAt_2 (fun r1 h1 q1 => ?_)
  obtain ⟨S_1, rfl, hf⟩ := q1
  dsimp only at hf
  refine E_mmin (by decide +kernel) (by decide +kernel) (by decide +kernel) (by decide +kernel) (by omega) (Nat.le_of_ble_eq_true rfl) (by rfl) dX2_waterAt_5 ?_
  refine E_bipush (v := 64) dX2_waterAt_8 (by decide) ?_
  refine E_aload_n dX2_waterAt_10 rfl ?_
  refine E_getf (v := .ref 4) dX2_waterAt_11 fl_X2_waterAt_28 rfl rfl ?_
  refine E_iload_n dX2_waterAt_14 rfl ?_
  obtain ⟨hi_2, hf⟩ := pO_gd hf
  refine E_iald (n0 := 10) (f := S_1.2 1) dX2_waterAt_15 rfl (pin_in hi_2) ?_
  refine E_imul dX2_waterAt_16 ?_
  refine E_isub dX2_waterAt_17 ?_
  refine E_istore_n (ls' := [(0, .ref 2), (1, .int v1), (2, .int v2), (3, .int ((pmin v2 r1) - (64 * ((S_1.2 1) v1.toNatClampNeg))))]) dX2_waterAt_18 (by decide) rfl ?_
  refine E_iload_n dX2_waterAt_19 rfl ?_
  refine E_if_le (tgt := 34) dX2_waterAt_20 (by decide) (fun c_3 => ?_) (fun c_3 => ?_)
  · have hf := pO_pos c_3 hf
    refine E_iconst (v := 0) dX2_waterAt_34 (by decide) ?_
    exact E_iret rfl dX2_waterAt_35 ⟨_, rfl, hf⟩
  · have hf := pO_neg c_3 hf
    refine E_aload_n dX2_waterAt_23 rfl ?_
    refine E_getf (v := .ref 3) dX2_waterAt_24 fl_X2_waterAt_24 rfl rfl ?_
    refine E_iload_n dX2_waterAt_27 rfl ?_
    obtain ⟨hi_4, hf⟩ := pO_gd hf
    refine E_iald (n0 := 10) (f := S_1.2 0) dX2_waterAt_28 rfl (pin_in hi_4) ?_
    refine E_iload_n dX2_waterAt_29 rfl ?_
    refine E_imul dX2_waterAt_30 ?_
    refine E_goto (tgt := 35) dX2_waterAt_31 (by decide) ?_
    exact E_iret rfl dX2_waterAt_35 ⟨_, rfl, hf⟩
def g_X2_waterOfSlope_5 : Nat → PS → Int32 → Int32 → Int32 → Int32 → Option ((Int32 × PS) ⊕ (PS × Int32))
  | 0, _, _, _, _, _ => none
  | fuel + 1, S, v1, v2, v3, v4 =>
    if (S.1 0) ≤ v4 then (some (.inr (S, v3))) else (pbnd (f_X2_draughtOf S v4 v1 v2) (fun r2 S_2 => pbnd (f_X2_waterAt S_2 v4 r2) (fun r3 S_3 => g_X2_waterOfSlope_5 fuel S_3 v1 v2 (v3 + r3) (v4 + 1))))
set_option maxRecDepth 100000 in
theorem l_X2_waterOfSlope_5 (l : Launch) (D : va_G) (dA : Nat → ClassId) (ad : Nat → Nat) (d : Nat) (hd : 2 ≤ d) {Q : Int32 → List PC → Prop} : ∀ (fuel : Nat) (S : PS) (v1 : Int32) (v2 : Int32) (v3 : Int32) (v4 : Int32), pO (g_X2_waterOfSlope_5 fuel S v1 v2 v3 v4) (fun y => match y with
    | .inl x => Q x.1 (hX x.2)
    | .inr w => Ev l D dA ad wsX2_waterOfSlope cX2_waterOfSlope RX2 5 (some .int) d 52 (pKi D dA ad 52 Q) 37 [(3, .int w.2)] [] (hX w.1)) → Ev l D dA ad wsX2_waterOfSlope cX2_waterOfSlope RX2 5 (some .int) d 52 (pKi D dA ad 52 Q) 5 [(0, .ref 2), (1, .int v1), (2, .int v2), (3, .int v3), (4, .int v4)] [] (hX S) := by
  intro fuel
  induction fuel with
  | zero =>
    intro S v1 v2 v3 v4 hf
    exact hf.elim
  | succ fuel ih =>
    intro S v1 v2 v3 v4 hf
    rw [g_X2_waterOfSlope_5] at hf
    refine E_iload dX2_waterOfSlope_5 rfl ?_
    refine E_aload_n dX2_waterOfSlope_7 rfl ?_
    refine E_getf (v := .int (S.1 0)) dX2_waterOfSlope_8 fl_X2_waterOfSlope_9 rfl rfl ?_
    refine E_icmp_ge (tgt := 37) dX2_waterOfSlope_11 (by decide) (fun c_1 => ?_) (fun c_1 => ?_)
    · have hf := pO_pos c_1 hf
      exact E_sub (ls' := [(3, .int v3)]) ⟨rfl, trivial⟩ hf
    · have hf := pO_neg c_1 hf
      refine E_iload_n dX2_waterOfSlope_14 rfl ?_
      refine E_aload_n dX2_waterOfSlope_15 rfl ?_
      refine E_iload dX2_waterOfSlope_16 rfl ?_
      refine E_aload_n dX2_waterOfSlope_18 rfl ?_
      refine E_iload dX2_waterOfSlope_19 rfl ?_
      refine E_iload_n dX2_waterOfSlope_21 rfl ?_
      refine E_iload_n dX2_waterOfSlope_22 rfl ?_
      refine E_callVI (st := [.int v4, .ref 2, .int v3]) (c_X2_draughtOf l D dA ad S v4 v1 v2 (pO_bnd hf)) mf_X2_draughtOf rfl rfl gX2_waterOfSlope_X2_draughtOf (pRc.of (ci := 2) rfl rfl) (by omega) rfl (Nat.le_of_ble_eq_true rfl) (by rfl) dX2_waterOfSlope_23 (fun r2 h2 q2 => ?_)
      obtain ⟨S_2, rfl, hf⟩ := q2
      dsimp only at hf
      refine E_callVI (st := [.int v3]) (c_X2_waterAt l D dA ad S_2 v4 r2 (pO_bnd hf)) mf_X2_waterAt rfl rfl gX2_waterOfSlope_X2_waterAt (pRc.of (ci := 2) rfl rfl) (by omega) rfl (Nat.le_of_ble_eq_true rfl) (by rfl) dX2_waterOfSlope_26 (fun r3 h3 q3 => ?_)
      obtain ⟨S_3, rfl, hf⟩ := q3
      dsimp only at hf
      refine E_iadd dX2_waterOfSlope_29 ?_
      refine E_istore_n (ls' := [(0, .ref 2), (1, .int v1), (2, .int v2), (3, .int (v3 + r3)), (4, .int v4)]) dX2_waterOfSlope_30 (by decide) rfl ?_
      refine E_iinc (v := v4 + 1) (ls' := [(0, .ref 2), (1, .int v1), (2, .int v2), (3, .int (v3 + r3)), (4, .int (v4 + 1))]) dX2_waterOfSlope_31 rfl rfl (by decide) rfl ?_
      refine E_goto (tgt := 5) dX2_waterOfSlope_34 (by decide) ?_
      exact E_sub (ls' := [(0, .ref 2), (1, .int v1), (2, .int v2), (3, .int (v3 + r3)), (4, .int (v4 + 1))]) ⟨rfl, rfl, rfl, rfl, rfl, trivial⟩ (ih S_3 v1 v2 (v3 + r3) (v4 + 1) hf)
theorem mf_X2_waterOfSlope : pMF yX2_waterOfSlope wsX2_waterOfSlope cX2_waterOfSlope 5 (some .int) 2 := ⟨⟨_, rfl⟩, by decide +kernel, by decide, by decide +kernel, by decide +kernel, by decide +kernel⟩
def f_X2_waterOfSlope (S : PS) (v1 : Int32) (v2 : Int32) : Option (Int32 × PS) :=
  plp (g_X2_waterOfSlope_5 pfuel S v1 v2 0 0) (fun w => (fun (S_4 : PS) (v3_4 : Int32) => some (v3_4, S_4)) w.1 w.2)
set_option maxRecDepth 100000 in
theorem c_X2_waterOfSlope (l : Launch) (D : va_G) (dA : Nat → ClassId) (ad : Nat → Nat) (S : PS) (v1 : Int32) (v2 : Int32) {P : (Int32 × PS) → Prop} (hf : pO (f_X2_waterOfSlope S v1 v2) P) : CtI l D dA ad yX2_waterOfSlope wsX2_waterOfSlope 2 [.ref 2, .int v1, .int v2] (hX S) (fun r h' => ∃ S' : PS, h' = hX S' ∧ P (r, S')) := by
  refine CtI_of mf_X2_waterOfSlope rfl rfl (Nat.le_of_ble_eq_true rfl) rfl (hX_len S) ?_
  unfold f_X2_waterOfSlope at hf
  refine E_iconst (v := 0) dX2_waterOfSlope_0 (by decide) ?_
  refine E_istore_n (ls' := [(0, .ref 2), (1, .int v1), (2, .int v2), (3, .int 0)]) dX2_waterOfSlope_1 (by decide) rfl ?_
  refine E_iconst (v := 0) dX2_waterOfSlope_2 (by decide) ?_
  refine E_istore (ls' := [(0, .ref 2), (1, .int v1), (2, .int v2), (3, .int 0), (4, .int 0)]) dX2_waterOfSlope_3 (by decide) rfl ?_
  refine E_sub (ls' := [(0, .ref 2), (1, .int v1), (2, .int v2), (3, .int 0), (4, .int 0)]) ⟨rfl, rfl, rfl, rfl, rfl, trivial⟩ ?_
  refine l_X2_waterOfSlope_5 l D dA ad _ (by omega) pfuel S v1 v2 0 0 (pO_lp hf (fun x hx => ⟨x.2, rfl, hx⟩) (fun w4 hf => ?_))
  obtain ⟨S_4, v3_4⟩ := w4
  dsimp only at hf ⊢
  refine E_iload_n dX2_waterOfSlope_37 rfl ?_
  exact E_iret rfl dX2_waterOfSlope_38 ⟨_, rfl, hf⟩
def g_X2_startOf_40 : Nat → PS → Int32 → Int32 → Int32 → Int32 → Int32 → Option ((Int32 × PS) ⊕ (PS × Int32))
  | 0, _, _, _, _, _, _ => none
  | fuel + 1, S, v1, v2, v3, v4, v5 =>
    if (32 : Int32) ≤ v5 then (some (.inr (S, v4))) else (if v4 ≤ v3 then (some (.inr (S, v4))) else (pbnd (f_X2_waterOfSlope S ((v3 + v4) / 2) v1) (fun r6 S_6 => if r6 < (64 * v2) then (g_X2_startOf_40 fuel S_6 v1 v2 (((v3 + v4) / 2) + 1) v4 (v5 + 1)) else (g_X2_startOf_40 fuel S_6 v1 v2 v3 ((v3 + v4) / 2) (v5 + 1)))))
set_option maxRecDepth 100000 in
theorem l_X2_startOf_40 (l : Launch) (D : va_G) (dA : Nat → ClassId) (ad : Nat → Nat) (d : Nat) (hd : 3 ≤ d) {Q : Int32 → List PC → Prop} : ∀ (fuel : Nat) (S : PS) (v1 : Int32) (v2 : Int32) (v3 : Int32) (v4 : Int32) (v5 : Int32), pO (g_X2_startOf_40 fuel S v1 v2 v3 v4 v5) (fun y => match y with
    | .inl x => Q x.1 (hX x.2)
    | .inr w => Ev l D dA ad wsX2_startOf cX2_startOf RX2 7 (some .int) d 52 (pKi D dA ad 52 Q) 93 [(4, .int w.2)] [] (hX w.1)) → Ev l D dA ad wsX2_startOf cX2_startOf RX2 7 (some .int) d 52 (pKi D dA ad 52 Q) 40 [(0, .ref 2), (1, .int v1), (2, .int v2), (3, .int v3), (4, .int v4), (5, .int v5)] [] (hX S) := by
  intro fuel
  induction fuel with
  | zero =>
    intro S v1 v2 v3 v4 v5 hf
    exact hf.elim
  | succ fuel ih =>
    intro S v1 v2 v3 v4 v5 hf
    rw [g_X2_startOf_40] at hf
    refine E_iload dX2_startOf_40 rfl ?_
    refine E_bipush (v := 32) dX2_startOf_42 (by decide) ?_
    refine E_icmp_ge (tgt := 93) dX2_startOf_44 (by decide) (fun c_4 => ?_) (fun c_4 => ?_)
    · have hf := pO_pos c_4 hf
      exact E_sub (ls' := [(4, .int v4)]) ⟨rfl, trivial⟩ hf
    · have hf := pO_neg c_4 hf
      refine E_iload_n dX2_startOf_47 rfl ?_
      refine E_iload dX2_startOf_48 rfl ?_
      refine E_icmp_ge (tgt := 93) dX2_startOf_50 (by decide) (fun c_5 => ?_) (fun c_5 => ?_)
      · have hf := pO_pos c_5 hf
        exact E_sub (ls' := [(4, .int v4)]) ⟨rfl, trivial⟩ hf
      · have hf := pO_neg c_5 hf
        refine E_iload_n dX2_startOf_53 rfl ?_
        refine E_iload dX2_startOf_54 rfl ?_
        refine E_iadd dX2_startOf_56 ?_
        refine E_iconst (v := 2) dX2_startOf_57 (by decide) ?_
        refine E_idiv dX2_startOf_58 (by decide) ?_
        refine E_istore (ls' := [(0, .ref 2), (1, .int v1), (2, .int v2), (3, .int v3), (4, .int v4), (5, .int v5), (6, .int ((v3 + v4) / 2))]) dX2_startOf_59 (by decide) rfl ?_
        refine E_aload_n dX2_startOf_61 rfl ?_
        refine E_iload dX2_startOf_62 rfl ?_
        refine E_iload_n dX2_startOf_64 rfl ?_
        refine E_callVI (st := []) (c_X2_waterOfSlope l D dA ad S ((v3 + v4) / 2) v1 (pO_bnd hf)) mf_X2_waterOfSlope rfl rfl gX2_startOf_X2_waterOfSlope (pRc.of (ci := 2) rfl rfl) (by omega) rfl (Nat.le_of_ble_eq_true rfl) (by rfl) dX2_startOf_65 (fun r6 h6 q6 => ?_)
        obtain ⟨S_6, rfl, hf⟩ := q6
        dsimp only at hf
        refine E_bipush (v := 64) dX2_startOf_68 (by decide) ?_
        refine E_iload_n dX2_startOf_70 rfl ?_
        refine E_imul dX2_startOf_71 ?_
        refine E_icmp_lt (tgt := 82) dX2_startOf_72 (by decide) (fun c_7 => ?_) (fun c_7 => ?_)
        · have hf := pO_pos c_7 hf
          refine E_iload dX2_startOf_82 rfl ?_
          refine E_iconst (v := 1) dX2_startOf_84 (by decide) ?_
          refine E_iadd dX2_startOf_85 ?_
          refine E_istore_n (ls' := [(0, .ref 2), (1, .int v1), (2, .int v2), (3, .int (((v3 + v4) / 2) + 1)), (4, .int v4), (5, .int v5), (6, .int ((v3 + v4) / 2))]) dX2_startOf_86 (by decide) rfl ?_
          refine E_iinc (v := v5 + 1) (ls' := [(0, .ref 2), (1, .int v1), (2, .int v2), (3, .int (((v3 + v4) / 2) + 1)), (4, .int v4), (5, .int (v5 + 1)), (6, .int ((v3 + v4) / 2))]) dX2_startOf_87 rfl rfl (by decide) rfl ?_
          refine E_goto (tgt := 40) dX2_startOf_90 (by decide) ?_
          exact E_sub (ls' := [(0, .ref 2), (1, .int v1), (2, .int v2), (3, .int (((v3 + v4) / 2) + 1)), (4, .int v4), (5, .int (v5 + 1))]) ⟨rfl, rfl, rfl, rfl, rfl, rfl, trivial⟩ (ih S_6 v1 v2 (((v3 + v4) / 2) + 1) v4 (v5 + 1) hf)
        · have hf := pO_neg c_7 hf
          refine E_iload dX2_startOf_75 rfl ?_
          refine E_istore (ls' := [(0, .ref 2), (1, .int v1), (2, .int v2), (3, .int v3), (4, .int ((v3 + v4) / 2)), (5, .int v5), (6, .int ((v3 + v4) / 2))]) dX2_startOf_77 (by decide) rfl ?_
          refine E_goto (tgt := 87) dX2_startOf_79 (by decide) ?_
          refine E_iinc (v := v5 + 1) (ls' := [(0, .ref 2), (1, .int v1), (2, .int v2), (3, .int v3), (4, .int ((v3 + v4) / 2)), (5, .int (v5 + 1)), (6, .int ((v3 + v4) / 2))]) dX2_startOf_87 rfl rfl (by decide) rfl ?_
          refine E_goto (tgt := 40) dX2_startOf_90 (by decide) ?_
          exact E_sub (ls' := [(0, .ref 2), (1, .int v1), (2, .int v2), (3, .int v3), (4, .int ((v3 + v4) / 2)), (5, .int (v5 + 1))]) ⟨rfl, rfl, rfl, rfl, rfl, rfl, trivial⟩ (ih S_6 v1 v2 v3 ((v3 + v4) / 2) (v5 + 1) hf)
theorem mf_X2_startOf : pMF yX2_startOf wsX2_startOf cX2_startOf 7 (some .int) 2 := ⟨⟨_, rfl⟩, by decide +kernel, by decide, by decide +kernel, by decide +kernel, by decide +kernel⟩
def f_X2_startOf (S : PS) (v1 : Int32) (v2 : Int32) : Option (Int32 × PS) :=
  pbnd (f_X2_top S) (fun r1 S_1 => pbnd (f_X2_waterOfSlope S_1 (r1 + (((S_1.1 0) - 1) * (pabs v1))) v1) (fun r2 S_2 => if (64 * v2) ≤ r2 then (plp (g_X2_startOf_40 pfuel S_2 v1 v2 0 (r1 + (((S_1.1 0) - 1) * (pabs v1))) 0) (fun w => (fun (S_8 : PS) (v4_8 : Int32) => some (v4_8, S_8)) w.1 w.2)) else (some ((-2), S_2))))
set_option maxRecDepth 100000 in
theorem c_X2_startOf (l : Launch) (D : va_G) (dA : Nat → ClassId) (ad : Nat → Nat) (S : PS) (v1 : Int32) (v2 : Int32) {P : (Int32 × PS) → Prop} (hf : pO (f_X2_startOf S v1 v2) P) : CtI l D dA ad yX2_startOf wsX2_startOf 3 [.ref 2, .int v1, .int v2] (hX S) (fun r h' => ∃ S' : PS, h' = hX S' ∧ P (r, S')) := by
  refine CtI_of mf_X2_startOf rfl rfl (Nat.le_of_ble_eq_true rfl) rfl (hX_len S) ?_
  unfold f_X2_startOf at hf
  refine E_iconst (v := 0) dX2_startOf_0 (by decide) ?_
  refine E_istore_n (ls' := [(0, .ref 2), (1, .int v1), (2, .int v2), (3, .int 0)]) dX2_startOf_1 (by decide) rfl ?_
  refine E_aload_n dX2_startOf_2 rfl ?_
  refine E_callVI (st := []) (c_X2_top l D dA ad S (pO_bnd hf)) mf_X2_top rfl rfl gX2_startOf_X2_top (pRc.of (ci := 2) rfl rfl) (by omega) rfl (Nat.le_of_ble_eq_true rfl) (by rfl) dX2_startOf_3 (fun r1 h1 q1 => ?_)
  obtain ⟨S_1, rfl, hf⟩ := q1
  dsimp only at hf
  refine E_aload_n dX2_startOf_6 rfl ?_
  refine E_getf (v := .int (S_1.1 0)) dX2_startOf_7 fl_X2_startOf_9 rfl rfl ?_
  refine E_iconst (v := 1) dX2_startOf_10 (by decide) ?_
  refine E_isub dX2_startOf_11 ?_
  refine E_iload_n dX2_startOf_12 rfl ?_
  refine E_mabs (by decide +kernel) (by decide +kernel) (by decide +kernel) (by decide +kernel) (by omega) (Nat.le_of_ble_eq_true rfl) (by rfl) dX2_startOf_13 ?_
  refine E_imul dX2_startOf_16 ?_
  refine E_iadd dX2_startOf_17 ?_
  refine E_istore (ls' := [(0, .ref 2), (1, .int v1), (2, .int v2), (3, .int 0), (4, .int (r1 + (((S_1.1 0) - 1) * (pabs v1))))]) dX2_startOf_18 (by decide) rfl ?_
  refine E_aload_n dX2_startOf_20 rfl ?_
  refine E_iload dX2_startOf_21 rfl ?_
  refine E_iload_n dX2_startOf_23 rfl ?_
  refine E_callVI (st := []) (c_X2_waterOfSlope l D dA ad S_1 (r1 + (((S_1.1 0) - 1) * (pabs v1))) v1 (pO_bnd hf)) mf_X2_waterOfSlope rfl rfl gX2_startOf_X2_waterOfSlope (pRc.of (ci := 2) rfl rfl) (by omega) rfl (Nat.le_of_ble_eq_true rfl) (by rfl) dX2_startOf_24 (fun r2 h2 q2 => ?_)
  obtain ⟨S_2, rfl, hf⟩ := q2
  dsimp only at hf
  refine E_bipush (v := 64) dX2_startOf_27 (by decide) ?_
  refine E_iload_n dX2_startOf_29 rfl ?_
  refine E_imul dX2_startOf_30 ?_
  refine E_icmp_ge (tgt := 37) dX2_startOf_31 (by decide) (fun c_3 => ?_) (fun c_3 => ?_)
  · have hf := pO_pos c_3 hf
    refine E_iconst (v := 0) dX2_startOf_37 (by decide) ?_
    refine E_istore (ls' := [(0, .ref 2), (1, .int v1), (2, .int v2), (3, .int 0), (4, .int (r1 + (((S_1.1 0) - 1) * (pabs v1)))), (5, .int 0)]) dX2_startOf_38 (by decide) rfl ?_
    refine E_sub (ls' := [(0, .ref 2), (1, .int v1), (2, .int v2), (3, .int 0), (4, .int (r1 + (((S_1.1 0) - 1) * (pabs v1)))), (5, .int 0)]) ⟨rfl, rfl, rfl, rfl, rfl, rfl, trivial⟩ ?_
    refine l_X2_startOf_40 l D dA ad _ (by omega) pfuel S_2 v1 v2 0 (r1 + (((S_1.1 0) - 1) * (pabs v1))) 0 (pO_lp hf (fun x hx => ⟨x.2, rfl, hx⟩) (fun w8 hf => ?_))
    obtain ⟨S_8, v4_8⟩ := w8
    dsimp only at hf ⊢
    refine E_iload dX2_startOf_93 rfl ?_
    exact E_iret rfl dX2_startOf_95 ⟨_, rfl, hf⟩
  · have hf := pO_neg c_3 hf
    refine E_bipush (v := (-2)) dX2_startOf_34 (by decide) ?_
    exact E_iret rfl dX2_startOf_36 ⟨_, rfl, hf⟩
theorem hi_X0_allRighting_2 : ∀ w ∈ u_ws RX2 TX2 6, w ∈ wsX0_allRighting := fun w h => of_decide_eq_true (List.all_eq_true.mp (by decide +kernel : (u_ws RX2 TX2 6).all (fun w => decide (w ∈ wsX0_allRighting)) = true) w h)
theorem fl_X0_allRighting_76 : pFL wsX0_allRighting RX0 76 2 0 := ⟨RX2, TX2, 6, hi_X0_allRighting_2, rfl, by decide, by decide +kernel⟩
theorem fl_X0_allRighting_111 : pFL wsX0_allRighting RX0 111 2 4 := ⟨RX2, TX2, 6, hi_X0_allRighting_2, rfl, by decide, by decide +kernel⟩
theorem mf_X11_cubeByTwelve : pMF yX11_cubeByTwelve wsX11_cubeByTwelve cX11_cubeByTwelve 1 (some .int) 1 := ⟨⟨_, rfl⟩, by decide +kernel, by decide, by decide +kernel, by decide +kernel, by decide +kernel⟩
def f_X11_cubeByTwelve (S : PS) (v0 : Int32) : Option (Int32 × PS) :=
  some (((v0 * v0) * v0) / 12, S)
set_option maxRecDepth 100000 in
theorem c_X11_cubeByTwelve (l : Launch) (D : va_G) (dA : Nat → ClassId) (ad : Nat → Nat) (S : PS) (v0 : Int32) {P : (Int32 × PS) → Prop} (hf : pO (f_X11_cubeByTwelve S v0) P) : CtI l D dA ad yX11_cubeByTwelve wsX11_cubeByTwelve 0 [.int v0] (hX S) (fun r h' => ∃ S' : PS, h' = hX S' ∧ P (r, S')) := by
  refine CtI_of mf_X11_cubeByTwelve rfl rfl (Nat.le_of_ble_eq_true rfl) rfl (hX_len S) ?_
  unfold f_X11_cubeByTwelve at hf
  refine E_iload_n dX11_cubeByTwelve_0 rfl ?_
  refine E_iload_n dX11_cubeByTwelve_1 rfl ?_
  refine E_imul dX11_cubeByTwelve_2 ?_
  refine E_iload_n dX11_cubeByTwelve_3 rfl ?_
  refine E_imul dX11_cubeByTwelve_4 ?_
  refine E_bipush (v := 12) dX11_cubeByTwelve_5 (by decide) ?_
  refine E_idiv dX11_cubeByTwelve_7 (by decide) ?_
  exact E_iret rfl dX11_cubeByTwelve_8 ⟨_, rfl, hf⟩
def g_X0_allRighting_26 : Nat → PS → Int32 → Int32 → Int32 → Option ((Int32 × PS) ⊕ (PS × Int32))
  | 0, _, _, _, _ => none
  | fuel + 1, S, v1, v2, v3 =>
    if (S.1 0) ≤ v3 then (some (.inr (S, v2))) else (pbnd (f_X2_waterAt S v3 v1) (fun r5 S_5 => if r5 ≤ (0 : Int32) then (g_X0_allRighting_26 fuel S_5 v1 v2 (v3 + 1)) else (pgd (pin v3 10) (pbnd (f_X11_cubeByTwelve S_5 ((S_5.2 0) v3.toNatClampNeg)) (fun r8 S_8 => g_X0_allRighting_26 fuel S_8 v1 (v2 + r8) (v3 + 1))))))
set_option maxRecDepth 100000 in
theorem l_X0_allRighting_26 (l : Launch) (D : va_G) (dA : Nat → ClassId) (ad : Nat → Nat) (d : Nat) (hd : 4 ≤ d) {Q : Int32 → List PC → Prop} : ∀ (fuel : Nat) (S : PS) (v1 : Int32) (v2 : Int32) (v3 : Int32), pO (g_X0_allRighting_26 fuel S v1 v2 v3) (fun y => match y with
    | .inl x => Q x.1 (hX x.2)
    | .inr w => Ev l D dA ad wsX0_allRighting cX0_allRighting RX0 4 (some .int) d 52 (pKi D dA ad 52 Q) 70 [(0, .ref 1), (2, .int w.2)] [] (hX w.1)) → Ev l D dA ad wsX0_allRighting cX0_allRighting RX0 4 (some .int) d 52 (pKi D dA ad 52 Q) 26 [(0, .ref 1), (1, .int v1), (2, .int v2), (3, .int v3)] [] (hX S) := by
  intro fuel
  induction fuel with
  | zero =>
    intro S v1 v2 v3 hf
    exact hf.elim
  | succ fuel ih =>
    intro S v1 v2 v3 hf
    rw [g_X0_allRighting_26] at hf
    refine E_iload_n dX0_allRighting_26 rfl ?_
    refine E_aload_n dX0_allRighting_27 rfl ?_
    refine E_getf (v := .ref 2) dX0_allRighting_28 fl_X0_allRighting_12 rfl rfl ?_
    refine E_getf (v := .int (S.1 0)) dX0_allRighting_31 fl_X0_allRighting_76 rfl rfl ?_
    refine E_icmp_ge (tgt := 70) dX0_allRighting_34 (by decide) (fun c_4 => ?_) (fun c_4 => ?_)
    · have hf := pO_pos c_4 hf
      exact E_sub (ls' := [(0, .ref 1), (2, .int v2)]) ⟨rfl, rfl, trivial⟩ hf
    · have hf := pO_neg c_4 hf
      refine E_aload_n dX0_allRighting_37 rfl ?_
      refine E_getf (v := .ref 2) dX0_allRighting_38 fl_X0_allRighting_12 rfl rfl ?_
      refine E_iload_n dX0_allRighting_41 rfl ?_
      refine E_iload_n dX0_allRighting_42 rfl ?_
      refine E_callVI (st := []) (c_X2_waterAt l D dA ad S v3 v1 (pO_bnd hf)) mf_X2_waterAt rfl rfl gX0_allRighting_X2_waterAt (pRc.of (ci := 2) rfl rfl) (by omega) rfl (Nat.le_of_ble_eq_true rfl) (by rfl) dX0_allRighting_43 (fun r5 h5 q5 => ?_)
      obtain ⟨S_5, rfl, hf⟩ := q5
      dsimp only at hf
      refine E_if_le (tgt := 64) dX0_allRighting_46 (by decide) (fun c_6 => ?_) (fun c_6 => ?_)
      · have hf := pO_pos c_6 hf
        refine E_iinc (v := v3 + 1) (ls' := [(0, .ref 1), (1, .int v1), (2, .int v2), (3, .int (v3 + 1))]) dX0_allRighting_64 rfl rfl (by decide) rfl ?_
        refine E_goto (tgt := 26) dX0_allRighting_67 (by decide) ?_
        exact E_sub (ls' := [(0, .ref 1), (1, .int v1), (2, .int v2), (3, .int (v3 + 1))]) ⟨rfl, rfl, rfl, rfl, trivial⟩ (ih S_5 v1 v2 (v3 + 1) hf)
      · have hf := pO_neg c_6 hf
        refine E_iload_n dX0_allRighting_49 rfl ?_
        refine E_aload_n dX0_allRighting_50 rfl ?_
        refine E_getf (v := .ref 2) dX0_allRighting_51 fl_X0_allRighting_12 rfl rfl ?_
        refine E_getf (v := .ref 3) dX0_allRighting_54 fl_X0_allRighting_111 rfl rfl ?_
        refine E_iload_n dX0_allRighting_57 rfl ?_
        obtain ⟨hi_7, hf⟩ := pO_gd hf
        refine E_iald (n0 := 10) (f := S_5.2 0) dX0_allRighting_58 rfl (pin_in hi_7) ?_
        refine E_callNI (st := [.int v2]) (c_X11_cubeByTwelve l D dA ad S_5 ((S_5.2 0) v3.toNatClampNeg) (pO_bnd hf)) mf_X11_cubeByTwelve rfl gX0_allRighting_X11_cubeByTwelve_n114 (by decide +kernel) (by decide +kernel) (by decide +kernel) (by omega) rfl (Nat.le_of_ble_eq_true rfl) (by rfl) dX0_allRighting_59 (fun r8 h8 q8 => ?_)
        obtain ⟨S_8, rfl, hf⟩ := q8
        dsimp only at hf
        refine E_iadd dX0_allRighting_62 ?_
        refine E_istore_n (ls' := [(0, .ref 1), (1, .int v1), (2, .int (v2 + r8)), (3, .int v3)]) dX0_allRighting_63 (by decide) rfl ?_
        refine E_iinc (v := v3 + 1) (ls' := [(0, .ref 1), (1, .int v1), (2, .int (v2 + r8)), (3, .int (v3 + 1))]) dX0_allRighting_64 rfl rfl (by decide) rfl ?_
        refine E_goto (tgt := 26) dX0_allRighting_67 (by decide) ?_
        exact E_sub (ls' := [(0, .ref 1), (1, .int v1), (2, .int (v2 + r8)), (3, .int (v3 + 1))]) ⟨rfl, rfl, rfl, rfl, trivial⟩ (ih S_8 v1 (v2 + r8) (v3 + 1) hf)
theorem fl_X0_allRighting_28 : pFL wsX0_allRighting RX0 28 0 2 := ⟨RX0, TX0, 3, hi_X0_allRighting_0, rfl, by decide, by decide +kernel⟩
theorem hi_X8_isSlack_8 : ∀ w ∈ u_ws RX8 TX8 4, w ∈ wsX8_isSlack := fun w h => of_decide_eq_true (List.all_eq_true.mp (by decide +kernel : (u_ws RX8 TX8 4).all (fun w => decide (w ∈ wsX8_isSlack)) = true) w h)
theorem fl_X8_isSlack_21 : pFL wsX8_isSlack RX8 21 8 3 := ⟨RX8, TX8, 4, hi_X8_isSlack_8, rfl, by decide, by decide +kernel⟩
theorem fl_X8_isSlack_18 : pFL wsX8_isSlack RX8 18 8 2 := ⟨RX8, TX8, 4, hi_X8_isSlack_8, rfl, by decide, by decide +kernel⟩
theorem mf_X8_isSlack : pMF yX8_isSlack wsX8_isSlack cX8_isSlack 2 (some .boolean) 1 := ⟨⟨_, rfl⟩, by decide +kernel, by decide, by decide +kernel, by decide +kernel, by decide +kernel⟩
def f_X8_isSlack (S : PS) (v1 : Int32) : Option (Int32 × PS) :=
  pgd (pin v1 4) (if ((S.2 11) v1.toNatClampNeg) = (0 : Int32) then (some (0, S)) else (pgd (pin v1 4) (pgd (pin v1 4) (if ((S.2 11) v1.toNatClampNeg) = ((S.2 10) v1.toNatClampNeg) then (some (0, S)) else (some (1, S))))))
set_option maxRecDepth 100000 in
theorem c_X8_isSlack (l : Launch) (D : va_G) (dA : Nat → ClassId) (ad : Nat → Nat) (S : PS) (v1 : Int32) {P : (Int32 × PS) → Prop} (hf : pO (f_X8_isSlack S v1) P) : CtI l D dA ad yX8_isSlack wsX8_isSlack 0 [.ref 12, .int v1] (hX S) (fun r h' => ∃ S' : PS, h' = hX S' ∧ P (r, S')) := by
  refine CtI_of mf_X8_isSlack rfl rfl (Nat.le_of_ble_eq_true rfl) rfl (hX_len S) ?_
  unfold f_X8_isSlack at hf
  refine E_aload_n dX8_isSlack_0 rfl ?_
  refine E_getf (v := .ref 16) dX8_isSlack_1 fl_X8_isSlack_21 rfl rfl ?_
  refine E_iload_n dX8_isSlack_4 rfl ?_
  obtain ⟨hi_1, hf⟩ := pO_gd hf
  refine E_iald (n0 := 4) (f := S.2 11) dX8_isSlack_5 rfl (pin_in hi_1) ?_
  refine E_if_eq (tgt := 28) dX8_isSlack_6 (by decide) (fun c_2 => ?_) (fun c_2 => ?_)
  · have hf := pO_pos c_2 hf
    refine E_iconst (v := 0) dX8_isSlack_28 (by decide) ?_
    exact E_zret rfl dX8_isSlack_29 (by decide) ⟨_, rfl, hf⟩
  · have hf := pO_neg c_2 hf
    refine E_aload_n dX8_isSlack_9 rfl ?_
    refine E_getf (v := .ref 16) dX8_isSlack_10 fl_X8_isSlack_21 rfl rfl ?_
    refine E_iload_n dX8_isSlack_13 rfl ?_
    obtain ⟨hi_3, hf⟩ := pO_gd hf
    refine E_iald (n0 := 4) (f := S.2 11) dX8_isSlack_14 rfl (pin_in hi_3) ?_
    refine E_aload_n dX8_isSlack_15 rfl ?_
    refine E_getf (v := .ref 15) dX8_isSlack_16 fl_X8_isSlack_18 rfl rfl ?_
    refine E_iload_n dX8_isSlack_19 rfl ?_
    obtain ⟨hi_4, hf⟩ := pO_gd hf
    refine E_iald (n0 := 4) (f := S.2 10) dX8_isSlack_20 rfl (pin_in hi_4) ?_
    refine E_icmp_eq (tgt := 28) dX8_isSlack_21 (by decide) (fun c_5 => ?_) (fun c_5 => ?_)
    · have hf := pO_pos c_5 hf
      refine E_iconst (v := 0) dX8_isSlack_28 (by decide) ?_
      exact E_zret rfl dX8_isSlack_29 (by decide) ⟨_, rfl, hf⟩
    · have hf := pO_neg c_5 hf
      refine E_iconst (v := 1) dX8_isSlack_24 (by decide) ?_
      refine E_goto (tgt := 29) dX8_isSlack_25 (by decide) ?_
      exact E_zret rfl dX8_isSlack_29 (by decide) ⟨_, rfl, hf⟩
theorem hi_X8_lostRighting_8 : ∀ w ∈ u_ws RX8 TX8 4, w ∈ wsX8_lostRighting := fun w h => of_decide_eq_true (List.all_eq_true.mp (by decide +kernel : (u_ws RX8 TX8 4).all (fun w => decide (w ∈ wsX8_lostRighting)) = true) w h)
theorem fl_X8_lostRighting_15 : pFL wsX8_lostRighting RX8 15 8 1 := ⟨RX8, TX8, 4, hi_X8_lostRighting_8, rfl, by decide, by decide +kernel⟩
def g_X8_lostRighting_4 : Nat → PS → Int32 → Int32 → Option ((Int32 × PS) ⊕ (PS × Int32))
  | 0, _, _, _ => none
  | fuel + 1, S, v1, v2 =>
    if (4 : Int32) ≤ v2 then (some (.inr (S, v1))) else (pbnd (f_X8_isSlack S v2) (fun r2 S_2 => if r2 = (0 : Int32) then (g_X8_lostRighting_4 fuel S_2 (v1 + 0) (v2 + 1)) else (pgd (pin v2 4) (pbnd (f_X11_cubeByTwelve S_2 ((S_2.2 9) v2.toNatClampNeg)) (fun r5 S_5 => g_X8_lostRighting_4 fuel S_5 (v1 + r5) (v2 + 1))))))
set_option maxRecDepth 100000 in
theorem l_X8_lostRighting_4 (l : Launch) (D : va_G) (dA : Nat → ClassId) (ad : Nat → Nat) (d : Nat) (hd : 1 ≤ d) {Q : Int32 → List PC → Prop} : ∀ (fuel : Nat) (S : PS) (v1 : Int32) (v2 : Int32), pO (g_X8_lostRighting_4 fuel S v1 v2) (fun y => match y with
    | .inl x => Q x.1 (hX x.2)
    | .inr w => Ev l D dA ad wsX8_lostRighting cX8_lostRighting RX8 3 (some .int) d 52 (pKi D dA ad 52 Q) 39 [(1, .int w.2)] [] (hX w.1)) → Ev l D dA ad wsX8_lostRighting cX8_lostRighting RX8 3 (some .int) d 52 (pKi D dA ad 52 Q) 4 [(0, .ref 12), (1, .int v1), (2, .int v2)] [] (hX S) := by
  intro fuel
  induction fuel with
  | zero =>
    intro S v1 v2 hf
    exact hf.elim
  | succ fuel ih =>
    intro S v1 v2 hf
    rw [g_X8_lostRighting_4] at hf
    refine E_iload_n dX8_lostRighting_4 rfl ?_
    refine E_iconst (v := 4) dX8_lostRighting_5 (by decide) ?_
    refine E_icmp_ge (tgt := 39) dX8_lostRighting_6 (by decide) (fun c_1 => ?_) (fun c_1 => ?_)
    · have hf := pO_pos c_1 hf
      exact E_sub (ls' := [(1, .int v1)]) ⟨rfl, trivial⟩ hf
    · have hf := pO_neg c_1 hf
      refine E_iload_n dX8_lostRighting_9 rfl ?_
      refine E_aload_n dX8_lostRighting_10 rfl ?_
      refine E_iload_n dX8_lostRighting_11 rfl ?_
      refine E_callVI (st := [.int v1]) (c_X8_isSlack l D dA ad S v2 (pO_bnd hf)) mf_X8_isSlack rfl rfl gX8_lostRighting_X8_isSlack (pRc.of (ci := 8) rfl rfl) (by omega) rfl (Nat.le_of_ble_eq_true rfl) (by rfl) dX8_lostRighting_12 (fun r2 h2 q2 => ?_)
      obtain ⟨S_2, rfl, hf⟩ := q2
      dsimp only at hf
      refine E_if_eq (tgt := 30) dX8_lostRighting_15 (by decide) (fun c_3 => ?_) (fun c_3 => ?_)
      · have hf := pO_pos c_3 hf
        refine E_iconst (v := 0) dX8_lostRighting_30 (by decide) ?_
        refine E_iadd dX8_lostRighting_31 ?_
        refine E_istore_n (ls' := [(0, .ref 12), (1, .int (v1 + 0)), (2, .int v2)]) dX8_lostRighting_32 (by decide) rfl ?_
        refine E_iinc (v := v2 + 1) (ls' := [(0, .ref 12), (1, .int (v1 + 0)), (2, .int (v2 + 1))]) dX8_lostRighting_33 rfl rfl (by decide) rfl ?_
        refine E_goto (tgt := 4) dX8_lostRighting_36 (by decide) ?_
        exact E_sub (ls' := [(0, .ref 12), (1, .int (v1 + 0)), (2, .int (v2 + 1))]) ⟨rfl, rfl, rfl, trivial⟩ (ih S_2 (v1 + 0) (v2 + 1) hf)
      · have hf := pO_neg c_3 hf
        refine E_aload_n dX8_lostRighting_18 rfl ?_
        refine E_getf (v := .ref 14) dX8_lostRighting_19 fl_X8_lostRighting_15 rfl rfl ?_
        refine E_iload_n dX8_lostRighting_22 rfl ?_
        obtain ⟨hi_4, hf⟩ := pO_gd hf
        refine E_iald (n0 := 4) (f := S_2.2 9) dX8_lostRighting_23 rfl (pin_in hi_4) ?_
        refine E_callNI (st := [.int v1]) (c_X11_cubeByTwelve l D dA ad S_2 ((S_2.2 9) v2.toNatClampNeg) (pO_bnd hf)) mf_X11_cubeByTwelve rfl gX8_lostRighting_X11_cubeByTwelve_n43 (by decide +kernel) (by decide +kernel) (by decide +kernel) (by omega) rfl (Nat.le_of_ble_eq_true rfl) (by rfl) dX8_lostRighting_24 (fun r5 h5 q5 => ?_)
        obtain ⟨S_5, rfl, hf⟩ := q5
        dsimp only at hf
        refine E_goto (tgt := 31) dX8_lostRighting_27 (by decide) ?_
        refine E_iadd dX8_lostRighting_31 ?_
        refine E_istore_n (ls' := [(0, .ref 12), (1, .int (v1 + r5)), (2, .int v2)]) dX8_lostRighting_32 (by decide) rfl ?_
        refine E_iinc (v := v2 + 1) (ls' := [(0, .ref 12), (1, .int (v1 + r5)), (2, .int (v2 + 1))]) dX8_lostRighting_33 rfl rfl (by decide) rfl ?_
        refine E_goto (tgt := 4) dX8_lostRighting_36 (by decide) ?_
        exact E_sub (ls' := [(0, .ref 12), (1, .int (v1 + r5)), (2, .int (v2 + 1))]) ⟨rfl, rfl, rfl, trivial⟩ (ih S_5 (v1 + r5) (v2 + 1) hf)
theorem mf_X8_lostRighting : pMF yX8_lostRighting wsX8_lostRighting cX8_lostRighting 3 (some .int) 0 := ⟨⟨_, rfl⟩, by decide +kernel, by decide, by decide +kernel, by decide +kernel, by decide +kernel⟩
def f_X8_lostRighting (S : PS) : Option (Int32 × PS) :=
  plp (g_X8_lostRighting_4 pfuel S 0 0) (fun w => (fun (S_6 : PS) (v1_6 : Int32) => some (v1_6, S_6)) w.1 w.2)
set_option maxRecDepth 100000 in
theorem c_X8_lostRighting (l : Launch) (D : va_G) (dA : Nat → ClassId) (ad : Nat → Nat) (S : PS) {P : (Int32 × PS) → Prop} (hf : pO (f_X8_lostRighting S) P) : CtI l D dA ad yX8_lostRighting wsX8_lostRighting 1 [.ref 12] (hX S) (fun r h' => ∃ S' : PS, h' = hX S' ∧ P (r, S')) := by
  refine CtI_of mf_X8_lostRighting rfl rfl (Nat.le_of_ble_eq_true rfl) rfl (hX_len S) ?_
  unfold f_X8_lostRighting at hf
  refine E_iconst (v := 0) dX8_lostRighting_0 (by decide) ?_
  refine E_istore_n (ls' := [(0, .ref 12), (1, .int 0)]) dX8_lostRighting_1 (by decide) rfl ?_
  refine E_iconst (v := 0) dX8_lostRighting_2 (by decide) ?_
  refine E_istore_n (ls' := [(0, .ref 12), (1, .int 0), (2, .int 0)]) dX8_lostRighting_3 (by decide) rfl ?_
  refine E_sub (ls' := [(0, .ref 12), (1, .int 0), (2, .int 0)]) ⟨rfl, rfl, rfl, trivial⟩ ?_
  refine l_X8_lostRighting_4 l D dA ad _ (by omega) pfuel S 0 0 (pO_lp hf (fun x hx => ⟨x.2, rfl, hx⟩) (fun w6 hf => ?_))
  obtain ⟨S_6, v1_6⟩ := w6
  dsimp only at hf ⊢
  refine E_iload_n dX8_lostRighting_39 rfl ?_
  exact E_iret rfl dX8_lostRighting_40 ⟨_, rfl, hf⟩
theorem hi_X0_allAloft_0 : ∀ w ∈ u_ws RX0 TX0 3, w ∈ wsX0_allAloft := fun w h => of_decide_eq_true (List.all_eq_true.mp (by decide +kernel : (u_ws RX0 TX0 3).all (fun w => decide (w ∈ wsX0_allAloft)) = true) w h)
theorem fl_X0_allAloft_21 : pFL wsX0_allAloft RX0 21 0 1 := ⟨RX0, TX0, 3, hi_X0_allAloft_0, rfl, by decide, by decide +kernel⟩
theorem hi_X0_allAloft_1 : ∀ w ∈ u_ws RX1 TX1 7, w ∈ wsX0_allAloft := fun w h => of_decide_eq_true (List.all_eq_true.mp (by decide +kernel : (u_ws RX1 TX1 7).all (fun w => decide (w ∈ wsX0_allAloft)) = true) w h)
theorem fl_X0_allAloft_36 : pFL wsX0_allAloft RX0 36 1 0 := ⟨RX1, TX1, 7, hi_X0_allAloft_1, rfl, by decide, by decide +kernel⟩
theorem fl_X0_allAloft_86 : pFL wsX0_allAloft RX0 86 1 6 := ⟨RX1, TX1, 7, hi_X0_allAloft_1, rfl, by decide, by decide +kernel⟩
def g_X0_allAloft_4 : Nat → PS → Int32 → Int32 → Option ((Int32 × PS) ⊕ (PS × Int32))
  | 0, _, _, _ => none
  | fuel + 1, S, v1, v2 =>
    if (S.1 4) ≤ v2 then (some (.inr (S, v1))) else (pbnd (f_X0_weighsAt S v2) (fun r2 S_2 => pgd (pin v2 16) (g_X0_allAloft_4 fuel S_2 (v1 + (r2 * ((S_2.2 7) v2.toNatClampNeg))) (v2 + 1))))
set_option maxRecDepth 100000 in
theorem l_X0_allAloft_4 (l : Launch) (D : va_G) (dA : Nat → ClassId) (ad : Nat → Nat) (d : Nat) (hd : 2 ≤ d) {Q : Int32 → List PC → Prop} : ∀ (fuel : Nat) (S : PS) (v1 : Int32) (v2 : Int32), pO (g_X0_allAloft_4 fuel S v1 v2) (fun y => match y with
    | .inl x => Q x.1 (hX x.2)
    | .inr w => Ev l D dA ad wsX0_allAloft cX0_allAloft RX0 3 (some .int) d 52 (pKi D dA ad 52 Q) 39 [(0, .ref 1), (1, .int w.2)] [] (hX w.1)) → Ev l D dA ad wsX0_allAloft cX0_allAloft RX0 3 (some .int) d 52 (pKi D dA ad 52 Q) 4 [(0, .ref 1), (1, .int v1), (2, .int v2)] [] (hX S) := by
  intro fuel
  induction fuel with
  | zero =>
    intro S v1 v2 hf
    exact hf.elim
  | succ fuel ih =>
    intro S v1 v2 hf
    rw [g_X0_allAloft_4] at hf
    refine E_iload_n dX0_allAloft_4 rfl ?_
    refine E_aload_n dX0_allAloft_5 rfl ?_
    refine E_getf (v := .ref 5) dX0_allAloft_6 fl_X0_allAloft_21 rfl rfl ?_
    refine E_getf (v := .int (S.1 4)) dX0_allAloft_9 fl_X0_allAloft_36 rfl rfl ?_
    refine E_icmp_ge (tgt := 39) dX0_allAloft_12 (by decide) (fun c_1 => ?_) (fun c_1 => ?_)
    · have hf := pO_pos c_1 hf
      exact E_sub (ls' := [(0, .ref 1), (1, .int v1)]) ⟨rfl, rfl, trivial⟩ hf
    · have hf := pO_neg c_1 hf
      refine E_iload_n dX0_allAloft_15 rfl ?_
      refine E_aload_n dX0_allAloft_16 rfl ?_
      refine E_iload_n dX0_allAloft_17 rfl ?_
      refine E_callVI (st := [.int v1]) (c_X0_weighsAt l D dA ad S v2 (pO_bnd hf)) mf_X0_weighsAt rfl rfl gX0_allAloft_X0_weighsAt (pRc.of (ci := 0) rfl rfl) (by omega) rfl (Nat.le_of_ble_eq_true rfl) (by rfl) dX0_allAloft_18 (fun r2 h2 q2 => ?_)
      obtain ⟨S_2, rfl, hf⟩ := q2
      dsimp only at hf
      refine E_aload_n dX0_allAloft_21 rfl ?_
      refine E_getf (v := .ref 5) dX0_allAloft_22 fl_X0_allAloft_21 rfl rfl ?_
      refine E_getf (v := .ref 11) dX0_allAloft_25 fl_X0_allAloft_86 rfl rfl ?_
      refine E_iload_n dX0_allAloft_28 rfl ?_
      obtain ⟨hi_3, hf⟩ := pO_gd hf
      refine E_iald (n0 := 16) (f := S_2.2 7) dX0_allAloft_29 rfl (pin_in hi_3) ?_
      refine E_imul dX0_allAloft_30 ?_
      refine E_iadd dX0_allAloft_31 ?_
      refine E_istore_n (ls' := [(0, .ref 1), (1, .int (v1 + (r2 * ((S_2.2 7) v2.toNatClampNeg)))), (2, .int v2)]) dX0_allAloft_32 (by decide) rfl ?_
      refine E_iinc (v := v2 + 1) (ls' := [(0, .ref 1), (1, .int (v1 + (r2 * ((S_2.2 7) v2.toNatClampNeg)))), (2, .int (v2 + 1))]) dX0_allAloft_33 rfl rfl (by decide) rfl ?_
      refine E_goto (tgt := 4) dX0_allAloft_36 (by decide) ?_
      exact E_sub (ls' := [(0, .ref 1), (1, .int (v1 + (r2 * ((S_2.2 7) v2.toNatClampNeg)))), (2, .int (v2 + 1))]) ⟨rfl, rfl, rfl, trivial⟩ (ih S_2 (v1 + (r2 * ((S_2.2 7) v2.toNatClampNeg))) (v2 + 1) hf)
theorem fl_X0_allAloft_28 : pFL wsX0_allAloft RX0 28 0 2 := ⟨RX0, TX0, 3, hi_X0_allAloft_0, rfl, by decide, by decide +kernel⟩
theorem hi_X0_allAloft_8 : ∀ w ∈ u_ws RX8 TX8 4, w ∈ wsX0_allAloft := fun w h => of_decide_eq_true (List.all_eq_true.mp (by decide +kernel : (u_ws RX8 TX8 4).all (fun w => decide (w ∈ wsX0_allAloft)) = true) w h)
theorem fl_X0_allAloft_73 : pFL wsX0_allAloft RX0 73 8 3 := ⟨RX8, TX8, 4, hi_X0_allAloft_8, rfl, by decide, by decide +kernel⟩
def g_X0_allAloft_41 : Nat → PS → Int32 → Int32 → Option ((Int32 × PS) ⊕ (PS × Int32))
  | 0, _, _, _ => none
  | fuel + 1, S, v1, v2 =>
    if (4 : Int32) ≤ v2 then (some (.inr (S, v1))) else (pgd (pin v2 4) (g_X0_allAloft_41 fuel S (v1 + (((S.2 11) v2.toNatClampNeg) * 2)) (v2 + 1)))
set_option maxRecDepth 100000 in
theorem l_X0_allAloft_41 (l : Launch) (D : va_G) (dA : Nat → ClassId) (ad : Nat → Nat) (d : Nat) (hd : 2 ≤ d) {Q : Int32 → List PC → Prop} : ∀ (fuel : Nat) (S : PS) (v1 : Int32) (v2 : Int32), pO (g_X0_allAloft_41 fuel S v1 v2) (fun y => match y with
    | .inl x => Q x.1 (hX x.2)
    | .inr w => Ev l D dA ad wsX0_allAloft cX0_allAloft RX0 3 (some .int) d 52 (pKi D dA ad 52 Q) 66 [(1, .int w.2)] [] (hX w.1)) → Ev l D dA ad wsX0_allAloft cX0_allAloft RX0 3 (some .int) d 52 (pKi D dA ad 52 Q) 41 [(0, .ref 1), (1, .int v1), (2, .int v2)] [] (hX S) := by
  intro fuel
  induction fuel with
  | zero =>
    intro S v1 v2 hf
    exact hf.elim
  | succ fuel ih =>
    intro S v1 v2 hf
    rw [g_X0_allAloft_41] at hf
    refine E_iload_n dX0_allAloft_41 rfl ?_
    refine E_iconst (v := 4) dX0_allAloft_42 (by decide) ?_
    refine E_icmp_ge (tgt := 66) dX0_allAloft_43 (by decide) (fun c_5 => ?_) (fun c_5 => ?_)
    · have hf := pO_pos c_5 hf
      exact E_sub (ls' := [(1, .int v1)]) ⟨rfl, trivial⟩ hf
    · have hf := pO_neg c_5 hf
      refine E_iload_n dX0_allAloft_46 rfl ?_
      refine E_aload_n dX0_allAloft_47 rfl ?_
      refine E_getf (v := .ref 12) dX0_allAloft_48 fl_X0_allAloft_28 rfl rfl ?_
      refine E_getf (v := .ref 16) dX0_allAloft_51 fl_X0_allAloft_73 rfl rfl ?_
      refine E_iload_n dX0_allAloft_54 rfl ?_
      obtain ⟨hi_6, hf⟩ := pO_gd hf
      refine E_iald (n0 := 4) (f := S.2 11) dX0_allAloft_55 rfl (pin_in hi_6) ?_
      refine E_iconst (v := 2) dX0_allAloft_56 (by decide) ?_
      refine E_imul dX0_allAloft_57 ?_
      refine E_iadd dX0_allAloft_58 ?_
      refine E_istore_n (ls' := [(0, .ref 1), (1, .int (v1 + (((S.2 11) v2.toNatClampNeg) * 2))), (2, .int v2)]) dX0_allAloft_59 (by decide) rfl ?_
      refine E_iinc (v := v2 + 1) (ls' := [(0, .ref 1), (1, .int (v1 + (((S.2 11) v2.toNatClampNeg) * 2))), (2, .int (v2 + 1))]) dX0_allAloft_60 rfl rfl (by decide) rfl ?_
      refine E_goto (tgt := 41) dX0_allAloft_63 (by decide) ?_
      exact E_sub (ls' := [(0, .ref 1), (1, .int (v1 + (((S.2 11) v2.toNatClampNeg) * 2))), (2, .int (v2 + 1))]) ⟨rfl, rfl, rfl, trivial⟩ (ih S (v1 + (((S.2 11) v2.toNatClampNeg) * 2)) (v2 + 1) hf)
theorem mf_X0_allAloft : pMF yX0_allAloft wsX0_allAloft cX0_allAloft 3 (some .int) 0 := ⟨⟨_, rfl⟩, by decide +kernel, by decide, by decide +kernel, by decide +kernel, by decide +kernel⟩
def f_X0_allAloft (S : PS) : Option (Int32 × PS) :=
  plp (g_X0_allAloft_4 pfuel S 0 0) (fun w => (fun (S_4 : PS) (v1_4 : Int32) => plp (g_X0_allAloft_41 pfuel S_4 v1_4 0) (fun w => (fun (S_7 : PS) (v1_7 : Int32) => some (v1_7, S_7)) w.1 w.2)) w.1 w.2)
set_option maxRecDepth 100000 in
theorem c_X0_allAloft (l : Launch) (D : va_G) (dA : Nat → ClassId) (ad : Nat → Nat) (S : PS) {P : (Int32 × PS) → Prop} (hf : pO (f_X0_allAloft S) P) : CtI l D dA ad yX0_allAloft wsX0_allAloft 2 [.ref 1] (hX S) (fun r h' => ∃ S' : PS, h' = hX S' ∧ P (r, S')) := by
  refine CtI_of mf_X0_allAloft rfl rfl (Nat.le_of_ble_eq_true rfl) rfl (hX_len S) ?_
  unfold f_X0_allAloft at hf
  refine E_iconst (v := 0) dX0_allAloft_0 (by decide) ?_
  refine E_istore_n (ls' := [(0, .ref 1), (1, .int 0)]) dX0_allAloft_1 (by decide) rfl ?_
  refine E_iconst (v := 0) dX0_allAloft_2 (by decide) ?_
  refine E_istore_n (ls' := [(0, .ref 1), (1, .int 0), (2, .int 0)]) dX0_allAloft_3 (by decide) rfl ?_
  refine E_sub (ls' := [(0, .ref 1), (1, .int 0), (2, .int 0)]) ⟨rfl, rfl, rfl, trivial⟩ ?_
  refine l_X0_allAloft_4 l D dA ad _ (by omega) pfuel S 0 0 (pO_lp hf (fun x hx => ⟨x.2, rfl, hx⟩) (fun w4 hf => ?_))
  obtain ⟨S_4, v1_4⟩ := w4
  dsimp only at hf ⊢
  refine E_iconst (v := 0) dX0_allAloft_39 (by decide) ?_
  refine E_istore_n (ls' := [(0, .ref 1), (1, .int v1_4), (2, .int 0)]) dX0_allAloft_40 (by decide) rfl ?_
  refine E_sub (ls' := [(0, .ref 1), (1, .int v1_4), (2, .int 0)]) ⟨rfl, rfl, rfl, trivial⟩ ?_
  refine l_X0_allAloft_41 l D dA ad _ (by omega) pfuel S_4 v1_4 0 (pO_lp hf (fun x hx => ⟨x.2, rfl, hx⟩) (fun w7 hf => ?_))
  obtain ⟨S_7, v1_7⟩ := w7
  dsimp only at hf ⊢
  refine E_iload_n dX0_allAloft_66 rfl ?_
  exact E_iret rfl dX0_allAloft_67 ⟨_, rfl, hf⟩
theorem mf_X0_allRighting : pMF yX0_allRighting wsX0_allRighting cX0_allRighting 4 (some .int) 0 := ⟨⟨_, rfl⟩, by decide +kernel, by decide, by decide +kernel, by decide +kernel, by decide +kernel⟩
def f_X0_allRighting (S : PS) : Option (Int32 × PS) :=
  pbnd (f_X0_allWeight S) (fun r1 S_1 => pbnd (f_X2_startOf S_1 0 r1) (fun r2 S_2 => if r2 = ((-2) : Int32) then (some ((-2147483648), S_2)) else (plp (g_X0_allRighting_26 pfuel S_2 r2 0 0) (fun w => (fun (S_9 : PS) (v2_9 : Int32) => pbnd (f_X8_lostRighting S_9) (fun r10 S_10 => pbnd (f_X0_allAloft S_10) (fun r11 S_11 => some ((v2_9 - r10) - (r11 / 16), S_11)))) w.1 w.2))))
set_option maxRecDepth 100000 in
theorem c_X0_allRighting (l : Launch) (D : va_G) (dA : Nat → ClassId) (ad : Nat → Nat) (S : PS) {P : (Int32 × PS) → Prop} (hf : pO (f_X0_allRighting S) P) : CtI l D dA ad yX0_allRighting wsX0_allRighting 4 [.ref 1] (hX S) (fun r h' => ∃ S' : PS, h' = hX S' ∧ P (r, S')) := by
  refine CtI_of mf_X0_allRighting rfl rfl (Nat.le_of_ble_eq_true rfl) rfl (hX_len S) ?_
  unfold f_X0_allRighting at hf
  refine E_aload_n dX0_allRighting_0 rfl ?_
  refine E_getf (v := .ref 2) dX0_allRighting_1 fl_X0_allRighting_12 rfl rfl ?_
  refine E_iconst (v := 0) dX0_allRighting_4 (by decide) ?_
  refine E_aload_n dX0_allRighting_5 rfl ?_
  refine E_callVI (st := [.int 0, .ref 2]) (c_X0_allWeight l D dA ad S (pO_bnd hf)) mf_X0_allWeight rfl rfl gX0_allRighting_X0_allWeight (pRc.of (ci := 0) rfl rfl) (by omega) rfl (Nat.le_of_ble_eq_true rfl) (by rfl) dX0_allRighting_6 (fun r1 h1 q1 => ?_)
  obtain ⟨S_1, rfl, hf⟩ := q1
  dsimp only at hf
  refine E_callVI (st := []) (c_X2_startOf l D dA ad S_1 0 r1 (pO_bnd hf)) mf_X2_startOf rfl rfl gX0_allRighting_X2_startOf (pRc.of (ci := 2) rfl rfl) (by omega) rfl (Nat.le_of_ble_eq_true rfl) (by rfl) dX0_allRighting_9 (fun r2 h2 q2 => ?_)
  obtain ⟨S_2, rfl, hf⟩ := q2
  dsimp only at hf
  refine E_istore_n (ls' := [(0, .ref 1), (1, .int r2)]) dX0_allRighting_12 (by decide) rfl ?_
  refine E_iload_n dX0_allRighting_13 rfl ?_
  refine E_bipush (v := (-2)) dX0_allRighting_14 (by decide) ?_
  refine E_icmp_ne (tgt := 22) dX0_allRighting_16 (by decide) (fun c_3 => ?_) (fun c_3 => ?_)
  · have hf := pO_neg c_3 hf
    refine E_iconst (v := 0) dX0_allRighting_22 (by decide) ?_
    refine E_istore_n (ls' := [(0, .ref 1), (1, .int r2), (2, .int 0)]) dX0_allRighting_23 (by decide) rfl ?_
    refine E_iconst (v := 0) dX0_allRighting_24 (by decide) ?_
    refine E_istore_n (ls' := [(0, .ref 1), (1, .int r2), (2, .int 0), (3, .int 0)]) dX0_allRighting_25 (by decide) rfl ?_
    refine E_sub (ls' := [(0, .ref 1), (1, .int r2), (2, .int 0), (3, .int 0)]) ⟨rfl, rfl, rfl, rfl, trivial⟩ ?_
    refine l_X0_allRighting_26 l D dA ad _ (by omega) pfuel S_2 r2 0 0 (pO_lp hf (fun x hx => ⟨x.2, rfl, hx⟩) (fun w9 hf => ?_))
    obtain ⟨S_9, v2_9⟩ := w9
    dsimp only at hf ⊢
    refine E_iload_n dX0_allRighting_70 rfl ?_
    refine E_aload_n dX0_allRighting_71 rfl ?_
    refine E_getf (v := .ref 12) dX0_allRighting_72 fl_X0_allRighting_28 rfl rfl ?_
    refine E_callVI (st := [.int v2_9]) (c_X8_lostRighting l D dA ad S_9 (pO_bnd hf)) mf_X8_lostRighting rfl rfl gX0_allRighting_X8_lostRighting (pRc.of (ci := 8) rfl rfl) (by omega) rfl (Nat.le_of_ble_eq_true rfl) (by rfl) dX0_allRighting_75 (fun r10 h10 q10 => ?_)
    obtain ⟨S_10, rfl, hf⟩ := q10
    dsimp only at hf
    refine E_isub dX0_allRighting_78 ?_
    refine E_aload_n dX0_allRighting_79 rfl ?_
    refine E_callVI (st := [.int (v2_9 - r10)]) (c_X0_allAloft l D dA ad S_10 (pO_bnd hf)) mf_X0_allAloft rfl rfl gX0_allRighting_X0_allAloft (pRc.of (ci := 0) rfl rfl) (by omega) rfl (Nat.le_of_ble_eq_true rfl) (by rfl) dX0_allRighting_80 (fun r11 h11 q11 => ?_)
    obtain ⟨S_11, rfl, hf⟩ := q11
    dsimp only at hf
    refine E_bipush (v := 16) dX0_allRighting_83 (by decide) ?_
    refine E_idiv dX0_allRighting_85 (by decide) ?_
    refine E_isub dX0_allRighting_86 ?_
    exact E_iret rfl dX0_allRighting_87 ⟨_, rfl, hf⟩
  · have hf := pO_pos c_3 hf
    refine E_ldc (v := (-2147483648)) dX0_allRighting_19 (by decide +kernel) ?_
    exact E_iret rfl dX0_allRighting_21 ⟨_, rfl, hf⟩
theorem hi_X0_asideRolledBy_0 : ∀ w ∈ u_ws RX0 TX0 3, w ∈ wsX0_asideRolledBy := fun w h => of_decide_eq_true (List.all_eq_true.mp (by decide +kernel : (u_ws RX0 TX0 3).all (fun w => decide (w ∈ wsX0_asideRolledBy)) = true) w h)
theorem fl_X0_asideRolledBy_21 : pFL wsX0_asideRolledBy RX0 21 0 1 := ⟨RX0, TX0, 3, hi_X0_asideRolledBy_0, rfl, by decide, by decide +kernel⟩
theorem hi_X0_asideRolledBy_1 : ∀ w ∈ u_ws RX1 TX1 7, w ∈ wsX0_asideRolledBy := fun w h => of_decide_eq_true (List.all_eq_true.mp (by decide +kernel : (u_ws RX1 TX1 7).all (fun w => decide (w ∈ wsX0_asideRolledBy)) = true) w h)
theorem fl_X0_asideRolledBy_36 : pFL wsX0_asideRolledBy RX0 36 1 0 := ⟨RX1, TX1, 7, hi_X0_asideRolledBy_1, rfl, by decide, by decide +kernel⟩
theorem fl_X0_asideRolledBy_89 : pFL wsX0_asideRolledBy RX0 89 1 5 := ⟨RX1, TX1, 7, hi_X0_asideRolledBy_1, rfl, by decide, by decide +kernel⟩
theorem fl_X0_asideRolledBy_53 : pFL wsX0_asideRolledBy RX0 53 1 2 := ⟨RX1, TX1, 7, hi_X0_asideRolledBy_1, rfl, by decide, by decide +kernel⟩
theorem mf_X11_rollsOf : pMF yX11_rollsOf wsX11_rollsOf cX11_rollsOf 2 (some .int) 2 := ⟨⟨_, rfl⟩, by decide +kernel, by decide, by decide +kernel, by decide +kernel, by decide +kernel⟩
def f_X11_rollsOf (S : PS) (v0 : Int32) (v1 : Int32) : Option (Int32 × PS) :=
  if v1 = ((-2147483648) : Int32) then (some (0, S)) else (if v0 = (1 : Int32) then (some (v1 / 32, S)) else (if v0 = (3 : Int32) then (some (2 * (v1 / 32), S)) else (some (0, S))))
set_option maxRecDepth 100000 in
theorem c_X11_rollsOf (l : Launch) (D : va_G) (dA : Nat → ClassId) (ad : Nat → Nat) (S : PS) (v0 : Int32) (v1 : Int32) {P : (Int32 × PS) → Prop} (hf : pO (f_X11_rollsOf S v0 v1) P) : CtI l D dA ad yX11_rollsOf wsX11_rollsOf 0 [.int v0, .int v1] (hX S) (fun r h' => ∃ S' : PS, h' = hX S' ∧ P (r, S')) := by
  refine CtI_of mf_X11_rollsOf rfl rfl (Nat.le_of_ble_eq_true rfl) rfl (hX_len S) ?_
  unfold f_X11_rollsOf at hf
  refine E_iload_n dX11_rollsOf_0 rfl ?_
  refine E_ldc (v := (-2147483648)) dX11_rollsOf_1 (by decide +kernel) ?_
  refine E_icmp_ne (tgt := 8) dX11_rollsOf_3 (by decide) (fun c_1 => ?_) (fun c_1 => ?_)
  · have hf := pO_neg c_1 hf
    refine E_iload_n dX11_rollsOf_8 rfl ?_
    by_cases k_2 : v0 = (1 : Int32)
    · have hf := pO_pos k_2 hf
      refine E_lookup (off := 27) (tgt := 36) dX11_rollsOf_9 (by decide) (by rw [k_2]; rfl) (by decide) ?_
      refine E_iload_n dX11_rollsOf_36 rfl ?_
      refine E_bipush (v := 32) dX11_rollsOf_37 (by decide) ?_
      refine E_idiv dX11_rollsOf_39 (by decide) ?_
      exact E_iret rfl dX11_rollsOf_40 ⟨_, rfl, hf⟩
    · have hf := pO_neg k_2 hf
      by_cases k_3 : v0 = (3 : Int32)
      · have hf := pO_pos k_3 hf
        refine E_lookup (off := 32) (tgt := 41) dX11_rollsOf_9 (by decide) (by rw [k_3]; rfl) (by decide) ?_
        refine E_iconst (v := 2) dX11_rollsOf_41 (by decide) ?_
        refine E_iload_n dX11_rollsOf_42 rfl ?_
        refine E_bipush (v := 32) dX11_rollsOf_43 (by decide) ?_
        refine E_idiv dX11_rollsOf_45 (by decide) ?_
        refine E_imul dX11_rollsOf_46 ?_
        exact E_iret rfl dX11_rollsOf_47 ⟨_, rfl, hf⟩
      · have hf := pO_neg k_3 hf
        refine E_lookup (off := 39) (tgt := 48) dX11_rollsOf_9 (by decide) (plook_d (fun q hq => by have z0 := pti k_2 (by decide : (1 : Int32).toInt = 1); have z1 := pti k_3 (by decide : (3 : Int32).toInt = 3); simp at hq; rcases hq with rfl | rfl <;> assumption)) (by decide) ?_
        refine E_iconst (v := 0) dX11_rollsOf_48 (by decide) ?_
        exact E_iret rfl dX11_rollsOf_49 ⟨_, rfl, hf⟩
  · have hf := pO_pos c_1 hf
    refine E_iconst (v := 0) dX11_rollsOf_6 (by decide) ?_
    exact E_iret rfl dX11_rollsOf_7 ⟨_, rfl, hf⟩
def g_X0_asideRolledBy_4 : Nat → PS → Int32 → Int32 → Int32 → Option ((Int32 × PS) ⊕ (PS × Int32))
  | 0, _, _, _, _ => none
  | fuel + 1, S, v1, v2, v3 =>
    if (S.1 4) ≤ v3 then (some (.inr (S, v2))) else (pgd (pin v3 16) (pgd (pin v3 16) (pbnd (f_X11_rollsOf S ((S.2 3) v3.toNatClampNeg) v1) (fun r4 S_4 => pbnd (f_X11_held S_4 (((S.2 6) v3.toNatClampNeg) + r4) (-20) 20) (fun r5 S_5 => pbnd (f_X0_weighsAt S_5 v3) (fun r6 S_6 => g_X0_asideRolledBy_4 fuel S_6 v1 (v2 + (r6 * r5)) (v3 + 1)))))))
set_option maxRecDepth 100000 in
theorem l_X0_asideRolledBy_4 (l : Launch) (D : va_G) (dA : Nat → ClassId) (ad : Nat → Nat) (d : Nat) (hd : 2 ≤ d) {Q : Int32 → List PC → Prop} : ∀ (fuel : Nat) (S : PS) (v1 : Int32) (v2 : Int32) (v3 : Int32), pO (g_X0_asideRolledBy_4 fuel S v1 v2 v3) (fun y => match y with
    | .inl x => Q x.1 (hX x.2)
    | .inr w => Ev l D dA ad wsX0_asideRolledBy cX0_asideRolledBy RX0 5 (some .int) d 52 (pKi D dA ad 52 Q) 64 [(2, .int w.2)] [] (hX w.1)) → Ev l D dA ad wsX0_asideRolledBy cX0_asideRolledBy RX0 5 (some .int) d 52 (pKi D dA ad 52 Q) 4 [(0, .ref 1), (1, .int v1), (2, .int v2), (3, .int v3)] [] (hX S) := by
  intro fuel
  induction fuel with
  | zero =>
    intro S v1 v2 v3 hf
    exact hf.elim
  | succ fuel ih =>
    intro S v1 v2 v3 hf
    rw [g_X0_asideRolledBy_4] at hf
    refine E_iload_n dX0_asideRolledBy_4 rfl ?_
    refine E_aload_n dX0_asideRolledBy_5 rfl ?_
    refine E_getf (v := .ref 5) dX0_asideRolledBy_6 fl_X0_asideRolledBy_21 rfl rfl ?_
    refine E_getf (v := .int (S.1 4)) dX0_asideRolledBy_9 fl_X0_asideRolledBy_36 rfl rfl ?_
    refine E_icmp_ge (tgt := 64) dX0_asideRolledBy_12 (by decide) (fun c_1 => ?_) (fun c_1 => ?_)
    · have hf := pO_pos c_1 hf
      exact E_sub (ls' := [(2, .int v2)]) ⟨rfl, trivial⟩ hf
    · have hf := pO_neg c_1 hf
      refine E_aload_n dX0_asideRolledBy_15 rfl ?_
      refine E_getf (v := .ref 5) dX0_asideRolledBy_16 fl_X0_asideRolledBy_21 rfl rfl ?_
      refine E_getf (v := .ref 10) dX0_asideRolledBy_19 fl_X0_asideRolledBy_89 rfl rfl ?_
      refine E_iload_n dX0_asideRolledBy_22 rfl ?_
      obtain ⟨hi_2, hf⟩ := pO_gd hf
      refine E_iald (n0 := 16) (f := S.2 6) dX0_asideRolledBy_23 rfl (pin_in hi_2) ?_
      refine E_aload_n dX0_asideRolledBy_24 rfl ?_
      refine E_getf (v := .ref 5) dX0_asideRolledBy_25 fl_X0_asideRolledBy_21 rfl rfl ?_
      refine E_getf (v := .ref 7) dX0_asideRolledBy_28 fl_X0_asideRolledBy_53 rfl rfl ?_
      refine E_iload_n dX0_asideRolledBy_31 rfl ?_
      obtain ⟨hi_3, hf⟩ := pO_gd hf
      refine E_iald (n0 := 16) (f := S.2 3) dX0_asideRolledBy_32 rfl (pin_in hi_3) ?_
      refine E_iload_n dX0_asideRolledBy_33 rfl ?_
      refine E_callNI (st := [.int ((S.2 6) v3.toNatClampNeg)]) (c_X11_rollsOf l D dA ad S ((S.2 3) v3.toNatClampNeg) v1 (pO_bnd hf)) mf_X11_rollsOf rfl gX0_asideRolledBy_X11_rollsOf_n92 (by decide +kernel) (by decide +kernel) (by decide +kernel) (by omega) rfl (Nat.le_of_ble_eq_true rfl) (by rfl) dX0_asideRolledBy_34 (fun r4 h4 q4 => ?_)
      obtain ⟨S_4, rfl, hf⟩ := q4
      dsimp only at hf
      refine E_iadd dX0_asideRolledBy_37 ?_
      refine E_bipush (v := (-20)) dX0_asideRolledBy_38 (by decide) ?_
      refine E_bipush (v := 20) dX0_asideRolledBy_40 (by decide) ?_
      refine E_callNI (st := []) (c_X11_held l D dA ad S_4 (((S.2 6) v3.toNatClampNeg) + r4) (-20) 20 (pO_bnd hf)) mf_X11_held rfl gX0_asideRolledBy_X11_held_n96 (by decide +kernel) (by decide +kernel) (by decide +kernel) (by omega) rfl (Nat.le_of_ble_eq_true rfl) (by rfl) dX0_asideRolledBy_42 (fun r5 h5 q5 => ?_)
      obtain ⟨S_5, rfl, hf⟩ := q5
      dsimp only at hf
      refine E_istore (ls' := [(0, .ref 1), (1, .int v1), (2, .int v2), (3, .int v3), (4, .int r5)]) dX0_asideRolledBy_45 (by decide) rfl ?_
      refine E_iload_n dX0_asideRolledBy_47 rfl ?_
      refine E_aload_n dX0_asideRolledBy_48 rfl ?_
      refine E_iload_n dX0_asideRolledBy_49 rfl ?_
      refine E_callVI (st := [.int v2]) (c_X0_weighsAt l D dA ad S_5 v3 (pO_bnd hf)) mf_X0_weighsAt rfl rfl gX0_asideRolledBy_X0_weighsAt (pRc.of (ci := 0) rfl rfl) (by omega) rfl (Nat.le_of_ble_eq_true rfl) (by rfl) dX0_asideRolledBy_50 (fun r6 h6 q6 => ?_)
      obtain ⟨S_6, rfl, hf⟩ := q6
      dsimp only at hf
      refine E_iload dX0_asideRolledBy_53 rfl ?_
      refine E_imul dX0_asideRolledBy_55 ?_
      refine E_iadd dX0_asideRolledBy_56 ?_
      refine E_istore_n (ls' := [(0, .ref 1), (1, .int v1), (2, .int (v2 + (r6 * r5))), (3, .int v3), (4, .int r5)]) dX0_asideRolledBy_57 (by decide) rfl ?_
      refine E_iinc (v := v3 + 1) (ls' := [(0, .ref 1), (1, .int v1), (2, .int (v2 + (r6 * r5))), (3, .int (v3 + 1)), (4, .int r5)]) dX0_asideRolledBy_58 rfl rfl (by decide) rfl ?_
      refine E_goto (tgt := 4) dX0_asideRolledBy_61 (by decide) ?_
      exact E_sub (ls' := [(0, .ref 1), (1, .int v1), (2, .int (v2 + (r6 * r5))), (3, .int (v3 + 1))]) ⟨rfl, rfl, rfl, rfl, trivial⟩ (ih S_6 v1 (v2 + (r6 * r5)) (v3 + 1) hf)
theorem mf_X0_asideRolledBy : pMF yX0_asideRolledBy wsX0_asideRolledBy cX0_asideRolledBy 5 (some .int) 1 := ⟨⟨_, rfl⟩, by decide +kernel, by decide, by decide +kernel, by decide +kernel, by decide +kernel⟩
def f_X0_asideRolledBy (S : PS) (v1 : Int32) : Option (Int32 × PS) :=
  plp (g_X0_asideRolledBy_4 pfuel S v1 0 0) (fun w => (fun (S_7 : PS) (v2_7 : Int32) => some (v2_7, S_7)) w.1 w.2)
set_option maxRecDepth 100000 in
theorem c_X0_asideRolledBy (l : Launch) (D : va_G) (dA : Nat → ClassId) (ad : Nat → Nat) (S : PS) (v1 : Int32) {P : (Int32 × PS) → Prop} (hf : pO (f_X0_asideRolledBy S v1) P) : CtI l D dA ad yX0_asideRolledBy wsX0_asideRolledBy 2 [.ref 1, .int v1] (hX S) (fun r h' => ∃ S' : PS, h' = hX S' ∧ P (r, S')) := by
  refine CtI_of mf_X0_asideRolledBy rfl rfl (Nat.le_of_ble_eq_true rfl) rfl (hX_len S) ?_
  unfold f_X0_asideRolledBy at hf
  refine E_iconst (v := 0) dX0_asideRolledBy_0 (by decide) ?_
  refine E_istore_n (ls' := [(0, .ref 1), (1, .int v1), (2, .int 0)]) dX0_asideRolledBy_1 (by decide) rfl ?_
  refine E_iconst (v := 0) dX0_asideRolledBy_2 (by decide) ?_
  refine E_istore_n (ls' := [(0, .ref 1), (1, .int v1), (2, .int 0), (3, .int 0)]) dX0_asideRolledBy_3 (by decide) rfl ?_
  refine E_sub (ls' := [(0, .ref 1), (1, .int v1), (2, .int 0), (3, .int 0)]) ⟨rfl, rfl, rfl, rfl, trivial⟩ ?_
  refine l_X0_asideRolledBy_4 l D dA ad _ (by omega) pfuel S v1 0 0 (pO_lp hf (fun x hx => ⟨x.2, rfl, hx⟩) (fun w7 hf => ?_))
  obtain ⟨S_7, v2_7⟩ := w7
  dsimp only at hf ⊢
  refine E_iload_n dX0_asideRolledBy_64 rfl ?_
  exact E_iret rfl dX0_asideRolledBy_65 ⟨_, rfl, hf⟩
theorem mf_X0_heelRolledBy : pMF yX0_heelRolledBy wsX0_heelRolledBy cX0_heelRolledBy 3 (some .int) 2 := ⟨⟨_, rfl⟩, by decide +kernel, by decide, by decide +kernel, by decide +kernel, by decide +kernel⟩
def f_X0_heelRolledBy (S : PS) (v1 : Int32) (v2 : Int32) : Option (Int32 × PS) :=
  if v2 ≤ (0 : Int32) then (some ((-2147483648), S)) else (pbnd (f_X0_asideRolledBy S v1) (fun r2 S_2 => pgd (pnz v2) (some ((64 * r2) / v2, S_2))))
set_option maxRecDepth 100000 in
theorem c_X0_heelRolledBy (l : Launch) (D : va_G) (dA : Nat → ClassId) (ad : Nat → Nat) (S : PS) (v1 : Int32) (v2 : Int32) {P : (Int32 × PS) → Prop} (hf : pO (f_X0_heelRolledBy S v1 v2) P) : CtI l D dA ad yX0_heelRolledBy wsX0_heelRolledBy 3 [.ref 1, .int v1, .int v2] (hX S) (fun r h' => ∃ S' : PS, h' = hX S' ∧ P (r, S')) := by
  refine CtI_of mf_X0_heelRolledBy rfl rfl (Nat.le_of_ble_eq_true rfl) rfl (hX_len S) ?_
  unfold f_X0_heelRolledBy at hf
  refine E_iload_n dX0_heelRolledBy_0 rfl ?_
  refine E_if_le (tgt := 17) dX0_heelRolledBy_1 (by decide) (fun c_1 => ?_) (fun c_1 => ?_)
  · have hf := pO_pos c_1 hf
    refine E_ldc (v := (-2147483648)) dX0_heelRolledBy_17 (by decide +kernel) ?_
    exact E_iret rfl dX0_heelRolledBy_19 ⟨_, rfl, hf⟩
  · have hf := pO_neg c_1 hf
    refine E_bipush (v := 64) dX0_heelRolledBy_4 (by decide) ?_
    refine E_aload_n dX0_heelRolledBy_6 rfl ?_
    refine E_iload_n dX0_heelRolledBy_7 rfl ?_
    refine E_callVI (st := [.int 64]) (c_X0_asideRolledBy l D dA ad S v1 (pO_bnd hf)) mf_X0_asideRolledBy rfl rfl gX0_heelRolledBy_X0_asideRolledBy (pRc.of (ci := 0) rfl rfl) (by omega) rfl (Nat.le_of_ble_eq_true rfl) (by rfl) dX0_heelRolledBy_8 (fun r2 h2 q2 => ?_)
    obtain ⟨S_2, rfl, hf⟩ := q2
    dsimp only at hf
    refine E_imul dX0_heelRolledBy_11 ?_
    refine E_iload_n dX0_heelRolledBy_12 rfl ?_
    obtain ⟨hz_3, hf⟩ := pO_gd hf
    refine E_idiv dX0_heelRolledBy_13 (pnz_n hz_3) ?_
    refine E_goto (tgt := 19) dX0_heelRolledBy_14 (by decide) ?_
    exact E_iret rfl dX0_heelRolledBy_19 ⟨_, rfl, hf⟩
def g_X0_heelBehind_22 : Nat → PS → Int32 → Int32 → Int32 → Int32 → Option ((Int32 × PS) ⊕ (PS × Int32))
  | 0, _, _, _, _, _ => none
  | fuel + 1, S, v1, v2, v3, v4 =>
    if v1 ≤ v4 then (some (.inr (S, v3))) else (pbnd (f_X0_heelRolledBy S v3 v2) (fun r5 S_5 => g_X0_heelBehind_22 fuel S_5 v1 v2 r5 (v4 + 1)))
set_option maxRecDepth 100000 in
theorem l_X0_heelBehind_22 (l : Launch) (D : va_G) (dA : Nat → ClassId) (ad : Nat → Nat) (d : Nat) (hd : 5 ≤ d) {Q : Int32 → List PC → Prop} : ∀ (fuel : Nat) (S : PS) (v1 : Int32) (v2 : Int32) (v3 : Int32) (v4 : Int32), pO (g_X0_heelBehind_22 fuel S v1 v2 v3 v4) (fun y => match y with
    | .inl x => Q x.1 (hX x.2)
    | .inr w => Ev l D dA ad wsX0_heelBehind cX0_heelBehind RX0 5 (some .int) d 52 (pKi D dA ad 52 Q) 41 [(3, .int w.2)] [] (hX w.1)) → Ev l D dA ad wsX0_heelBehind cX0_heelBehind RX0 5 (some .int) d 52 (pKi D dA ad 52 Q) 22 [(0, .ref 1), (1, .int v1), (2, .int v2), (3, .int v3), (4, .int v4)] [] (hX S) := by
  intro fuel
  induction fuel with
  | zero =>
    intro S v1 v2 v3 v4 hf
    exact hf.elim
  | succ fuel ih =>
    intro S v1 v2 v3 v4 hf
    rw [g_X0_heelBehind_22] at hf
    refine E_iload dX0_heelBehind_22 rfl ?_
    refine E_iload_n dX0_heelBehind_24 rfl ?_
    refine E_icmp_ge (tgt := 41) dX0_heelBehind_25 (by decide) (fun c_4 => ?_) (fun c_4 => ?_)
    · have hf := pO_pos c_4 hf
      exact E_sub (ls' := [(3, .int v3)]) ⟨rfl, trivial⟩ hf
    · have hf := pO_neg c_4 hf
      refine E_aload_n dX0_heelBehind_28 rfl ?_
      refine E_iload_n dX0_heelBehind_29 rfl ?_
      refine E_iload_n dX0_heelBehind_30 rfl ?_
      refine E_callVI (st := []) (c_X0_heelRolledBy l D dA ad S v3 v2 (pO_bnd hf)) mf_X0_heelRolledBy rfl rfl gX0_heelBehind_X0_heelRolledBy (pRc.of (ci := 0) rfl rfl) (by omega) rfl (Nat.le_of_ble_eq_true rfl) (by rfl) dX0_heelBehind_31 (fun r5 h5 q5 => ?_)
      obtain ⟨S_5, rfl, hf⟩ := q5
      dsimp only at hf
      refine E_istore_n (ls' := [(0, .ref 1), (1, .int v1), (2, .int v2), (3, .int r5), (4, .int v4)]) dX0_heelBehind_34 (by decide) rfl ?_
      refine E_iinc (v := v4 + 1) (ls' := [(0, .ref 1), (1, .int v1), (2, .int v2), (3, .int r5), (4, .int (v4 + 1))]) dX0_heelBehind_35 rfl rfl (by decide) rfl ?_
      refine E_goto (tgt := 22) dX0_heelBehind_38 (by decide) ?_
      exact E_sub (ls' := [(0, .ref 1), (1, .int v1), (2, .int v2), (3, .int r5), (4, .int (v4 + 1))]) ⟨rfl, rfl, rfl, rfl, rfl, trivial⟩ (ih S_5 v1 v2 r5 (v4 + 1) hf)
theorem mf_X0_heelBehind : pMF yX0_heelBehind wsX0_heelBehind cX0_heelBehind 5 (some .int) 1 := ⟨⟨_, rfl⟩, by decide +kernel, by decide, by decide +kernel, by decide +kernel, by decide +kernel⟩
def f_X0_heelBehind (S : PS) (v1 : Int32) : Option (Int32 × PS) :=
  pbnd (f_X0_allRighting S) (fun r1 S_1 => if (0 : Int32) < r1 then (pbnd (f_X0_heelRolledBy S_1 0 r1) (fun r3 S_3 => plp (g_X0_heelBehind_22 pfuel S_3 v1 r1 r3 0) (fun w => (fun (S_6 : PS) (v3_6 : Int32) => some (v3_6, S_6)) w.1 w.2))) else (some ((-2147483648), S_1)))
set_option maxRecDepth 100000 in
theorem c_X0_heelBehind (l : Launch) (D : va_G) (dA : Nat → ClassId) (ad : Nat → Nat) (S : PS) (v1 : Int32) {P : (Int32 × PS) → Prop} (hf : pO (f_X0_heelBehind S v1) P) : CtI l D dA ad yX0_heelBehind wsX0_heelBehind 5 [.ref 1, .int v1] (hX S) (fun r h' => ∃ S' : PS, h' = hX S' ∧ P (r, S')) := by
  refine CtI_of mf_X0_heelBehind rfl rfl (Nat.le_of_ble_eq_true rfl) rfl (hX_len S) ?_
  unfold f_X0_heelBehind at hf
  refine E_aload_n dX0_heelBehind_0 rfl ?_
  refine E_callVI (st := []) (c_X0_allRighting l D dA ad S (pO_bnd hf)) mf_X0_allRighting rfl rfl gX0_heelBehind_X0_allRighting (pRc.of (ci := 0) rfl rfl) (by omega) rfl (Nat.le_of_ble_eq_true rfl) (by rfl) dX0_heelBehind_1 (fun r1 h1 q1 => ?_)
  obtain ⟨S_1, rfl, hf⟩ := q1
  dsimp only at hf
  refine E_istore_n (ls' := [(0, .ref 1), (1, .int v1), (2, .int r1)]) dX0_heelBehind_4 (by decide) rfl ?_
  refine E_iload_n dX0_heelBehind_5 rfl ?_
  refine E_if_gt (tgt := 12) dX0_heelBehind_6 (by decide) (fun c_2 => ?_) (fun c_2 => ?_)
  · have hf := pO_pos c_2 hf
    refine E_aload_n dX0_heelBehind_12 rfl ?_
    refine E_iconst (v := 0) dX0_heelBehind_13 (by decide) ?_
    refine E_iload_n dX0_heelBehind_14 rfl ?_
    refine E_callVI (st := []) (c_X0_heelRolledBy l D dA ad S_1 0 r1 (pO_bnd hf)) mf_X0_heelRolledBy rfl rfl gX0_heelBehind_X0_heelRolledBy (pRc.of (ci := 0) rfl rfl) (by omega) rfl (Nat.le_of_ble_eq_true rfl) (by rfl) dX0_heelBehind_15 (fun r3 h3 q3 => ?_)
    obtain ⟨S_3, rfl, hf⟩ := q3
    dsimp only at hf
    refine E_istore_n (ls' := [(0, .ref 1), (1, .int v1), (2, .int r1), (3, .int r3)]) dX0_heelBehind_18 (by decide) rfl ?_
    refine E_iconst (v := 0) dX0_heelBehind_19 (by decide) ?_
    refine E_istore (ls' := [(0, .ref 1), (1, .int v1), (2, .int r1), (3, .int r3), (4, .int 0)]) dX0_heelBehind_20 (by decide) rfl ?_
    refine E_sub (ls' := [(0, .ref 1), (1, .int v1), (2, .int r1), (3, .int r3), (4, .int 0)]) ⟨rfl, rfl, rfl, rfl, rfl, trivial⟩ ?_
    refine l_X0_heelBehind_22 l D dA ad _ (by omega) pfuel S_3 v1 r1 r3 0 (pO_lp hf (fun x hx => ⟨x.2, rfl, hx⟩) (fun w6 hf => ?_))
    obtain ⟨S_6, v3_6⟩ := w6
    dsimp only at hf ⊢
    refine E_iload_n dX0_heelBehind_41 rfl ?_
    exact E_iret rfl dX0_heelBehind_42 ⟨_, rfl, hf⟩
  · have hf := pO_neg c_2 hf
    refine E_ldc (v := (-2147483648)) dX0_heelBehind_9 (by decide +kernel) ?_
    exact E_iret rfl dX0_heelBehind_11 ⟨_, rfl, hf⟩
theorem mf_X11_goods : pMF yX11_goods wsX11_goods cX11_goods 4 (some .int) 2 := ⟨⟨_, rfl⟩, by decide +kernel, by decide, by decide +kernel, by decide +kernel, by decide +kernel⟩
def f_X11_goods (S : PS) (v1 : Int32) (v2 : Int32) : Option (Int32 × PS) :=
  pbnd (f_X11_isName S v1) (fun r1 S_1 => if r1 = (0 : Int32) then (some ((-2147483648), S_1)) else (pbnd (f_X1_placeOf S_1 v1) (fun r3 S_3 => if (0 : Int32) ≤ r3 then (if v2 = (0 : Int32) then (pgd (pin r3 16) (some ((S_3.2 3) r3.toNatClampNeg, S_3))) else (if v2 = (1 : Int32) then (pgd (pin r3 16) (some ((S_3.2 4) r3.toNatClampNeg, S_3))) else (if v2 = (2 : Int32) then (pgd (pin r3 16) (some ((S_3.2 5) r3.toNatClampNeg, S_3))) else (if v2 = (3 : Int32) then (pgd (pin r3 16) (some ((S_3.2 6) r3.toNatClampNeg, S_3))) else (if v2 = (4 : Int32) then (pgd (pin r3 16) (some ((S_3.2 7) r3.toNatClampNeg, S_3))) else (if v2 = (5 : Int32) then (pbnd (f_X0_weighsAt S_3 r3) (fun r16 S_16 => some (r16, S_16))) else (if v2 = (6 : Int32) then (pgd (pin r3 16) (pbnd (f_X0_heelBehind S_3 0) (fun r19 S_19 => pbnd (f_X11_rollsOf S_19 ((S_3.2 3) r3.toNatClampNeg) r19) (fun r20 S_20 => some (r20, S_20))))) else (some ((-2147483648), S_3))))))))) else (some ((-2147483648), S_3)))))
set_option maxRecDepth 100000 in
theorem c_X11_goods (l : Launch) (D : va_G) (dA : Nat → ClassId) (ad : Nat → Nat) (S : PS) (v1 : Int32) (v2 : Int32) {P : (Int32 × PS) → Prop} (hf : pO (f_X11_goods S v1 v2) P) : CtI l D dA ad yX11_goods wsX11_goods 6 [.ref 0, .int v1, .int v2] (hX S) (fun r h' => ∃ S' : PS, h' = hX S' ∧ P (r, S')) := by
  refine CtI_of mf_X11_goods rfl rfl (Nat.le_of_ble_eq_true rfl) rfl (hX_len S) ?_
  unfold f_X11_goods at hf
  refine E_iload_n dX11_goods_0 rfl ?_
  refine E_callSI (st := []) (c_X11_isName l D dA ad S v1 (pO_bnd hf)) mf_X11_isName rfl gX11_goods_X11_isName (by omega) rfl (Nat.le_of_ble_eq_true rfl) (by rfl) dX11_goods_1 (fun r1 h1 q1 => ?_)
  obtain ⟨S_1, rfl, hf⟩ := q1
  dsimp only at hf
  refine E_if_ne (tgt := 10) dX11_goods_4 (by decide) (fun c_2 => ?_) (fun c_2 => ?_)
  · have hf := pO_neg c_2 hf
    refine E_aload_n dX11_goods_10 rfl ?_
    refine E_getf (v := .ref 1) dX11_goods_11 fl_X11_goods_12 rfl rfl ?_
    refine E_getf (v := .ref 5) dX11_goods_14 fl_X11_goods_131 rfl rfl ?_
    refine E_iload_n dX11_goods_17 rfl ?_
    refine E_callVI (st := []) (c_X1_placeOf l D dA ad S_1 v1 (pO_bnd hf)) mf_X1_placeOf rfl rfl gX11_goods_X1_placeOf (pRc.of (ci := 1) rfl rfl) (by omega) rfl (Nat.le_of_ble_eq_true rfl) (by rfl) dX11_goods_18 (fun r3 h3 q3 => ?_)
    obtain ⟨S_3, rfl, hf⟩ := q3
    dsimp only at hf
    refine E_istore_n (ls' := [(0, .ref 0), (1, .int v1), (2, .int v2), (3, .int r3)]) dX11_goods_21 (by decide) rfl ?_
    refine E_iload_n dX11_goods_22 rfl ?_
    refine E_if_ge (tgt := 29) dX11_goods_23 (by decide) (fun c_4 => ?_) (fun c_4 => ?_)
    · have hf := pO_pos c_4 hf
      refine E_iload_n dX11_goods_29 rfl ?_
      by_cases k_5 : v2 = (0 : Int32)
      · have hf := pO_pos k_5 hf
        refine E_tableIn (off := 42) (tgt := 72) dX11_goods_30 (by rw [k_5]; decide) (by rw [k_5]; decide) (by rw [k_5]; rfl) (by decide) ?_
        refine E_aload_n dX11_goods_72 rfl ?_
        refine E_getf (v := .ref 1) dX11_goods_73 fl_X11_goods_12 rfl rfl ?_
        refine E_getf (v := .ref 5) dX11_goods_76 fl_X11_goods_131 rfl rfl ?_
        refine E_getf (v := .ref 7) dX11_goods_79 fl_X11_goods_146 rfl rfl ?_
        refine E_iload_n dX11_goods_82 rfl ?_
        obtain ⟨hi_6, hf⟩ := pO_gd hf
        refine E_iald (n0 := 16) (f := S_3.2 3) dX11_goods_83 rfl (pin_in hi_6) ?_
        exact E_iret rfl dX11_goods_84 ⟨_, rfl, hf⟩
      · have hf := pO_neg k_5 hf
        by_cases k_7 : v2 = (1 : Int32)
        · have hf := pO_pos k_7 hf
          refine E_tableIn (off := 55) (tgt := 85) dX11_goods_30 (by rw [k_7]; decide) (by rw [k_7]; decide) (by rw [k_7]; rfl) (by decide) ?_
          refine E_aload_n dX11_goods_85 rfl ?_
          refine E_getf (v := .ref 1) dX11_goods_86 fl_X11_goods_12 rfl rfl ?_
          refine E_getf (v := .ref 5) dX11_goods_89 fl_X11_goods_131 rfl rfl ?_
          refine E_getf (v := .ref 8) dX11_goods_92 fl_X11_goods_149 rfl rfl ?_
          refine E_iload_n dX11_goods_95 rfl ?_
          obtain ⟨hi_8, hf⟩ := pO_gd hf
          refine E_iald (n0 := 16) (f := S_3.2 4) dX11_goods_96 rfl (pin_in hi_8) ?_
          exact E_iret rfl dX11_goods_97 ⟨_, rfl, hf⟩
        · have hf := pO_neg k_7 hf
          by_cases k_9 : v2 = (2 : Int32)
          · have hf := pO_pos k_9 hf
            refine E_tableIn (off := 68) (tgt := 98) dX11_goods_30 (by rw [k_9]; decide) (by rw [k_9]; decide) (by rw [k_9]; rfl) (by decide) ?_
            refine E_aload_n dX11_goods_98 rfl ?_
            refine E_getf (v := .ref 1) dX11_goods_99 fl_X11_goods_12 rfl rfl ?_
            refine E_getf (v := .ref 5) dX11_goods_102 fl_X11_goods_131 rfl rfl ?_
            refine E_getf (v := .ref 9) dX11_goods_105 fl_X11_goods_152 rfl rfl ?_
            refine E_iload_n dX11_goods_108 rfl ?_
            obtain ⟨hi_10, hf⟩ := pO_gd hf
            refine E_iald (n0 := 16) (f := S_3.2 5) dX11_goods_109 rfl (pin_in hi_10) ?_
            exact E_iret rfl dX11_goods_110 ⟨_, rfl, hf⟩
          · have hf := pO_neg k_9 hf
            by_cases k_11 : v2 = (3 : Int32)
            · have hf := pO_pos k_11 hf
              refine E_tableIn (off := 81) (tgt := 111) dX11_goods_30 (by rw [k_11]; decide) (by rw [k_11]; decide) (by rw [k_11]; rfl) (by decide) ?_
              refine E_aload_n dX11_goods_111 rfl ?_
              refine E_getf (v := .ref 1) dX11_goods_112 fl_X11_goods_12 rfl rfl ?_
              refine E_getf (v := .ref 5) dX11_goods_115 fl_X11_goods_131 rfl rfl ?_
              refine E_getf (v := .ref 10) dX11_goods_118 fl_X11_goods_155 rfl rfl ?_
              refine E_iload_n dX11_goods_121 rfl ?_
              obtain ⟨hi_12, hf⟩ := pO_gd hf
              refine E_iald (n0 := 16) (f := S_3.2 6) dX11_goods_122 rfl (pin_in hi_12) ?_
              exact E_iret rfl dX11_goods_123 ⟨_, rfl, hf⟩
            · have hf := pO_neg k_11 hf
              by_cases k_13 : v2 = (4 : Int32)
              · have hf := pO_pos k_13 hf
                refine E_tableIn (off := 94) (tgt := 124) dX11_goods_30 (by rw [k_13]; decide) (by rw [k_13]; decide) (by rw [k_13]; rfl) (by decide) ?_
                refine E_aload_n dX11_goods_124 rfl ?_
                refine E_getf (v := .ref 1) dX11_goods_125 fl_X11_goods_12 rfl rfl ?_
                refine E_getf (v := .ref 5) dX11_goods_128 fl_X11_goods_131 rfl rfl ?_
                refine E_getf (v := .ref 11) dX11_goods_131 fl_X11_goods_158 rfl rfl ?_
                refine E_iload_n dX11_goods_134 rfl ?_
                obtain ⟨hi_14, hf⟩ := pO_gd hf
                refine E_iald (n0 := 16) (f := S_3.2 7) dX11_goods_135 rfl (pin_in hi_14) ?_
                exact E_iret rfl dX11_goods_136 ⟨_, rfl, hf⟩
              · have hf := pO_neg k_13 hf
                by_cases k_15 : v2 = (5 : Int32)
                · have hf := pO_pos k_15 hf
                  refine E_tableIn (off := 107) (tgt := 137) dX11_goods_30 (by rw [k_15]; decide) (by rw [k_15]; decide) (by rw [k_15]; rfl) (by decide) ?_
                  refine E_aload_n dX11_goods_137 rfl ?_
                  refine E_getf (v := .ref 1) dX11_goods_138 fl_X11_goods_12 rfl rfl ?_
                  refine E_iload_n dX11_goods_141 rfl ?_
                  refine E_callVI (st := []) (c_X0_weighsAt l D dA ad S_3 r3 (pO_bnd hf)) mf_X0_weighsAt rfl rfl gX11_goods_X0_weighsAt (pRc.of (ci := 0) rfl rfl) (by omega) rfl (Nat.le_of_ble_eq_true rfl) (by rfl) dX11_goods_142 (fun r16 h16 q16 => ?_)
                  obtain ⟨S_16, rfl, hf⟩ := q16
                  dsimp only at hf
                  exact E_iret rfl dX11_goods_145 ⟨_, rfl, hf⟩
                · have hf := pO_neg k_15 hf
                  by_cases k_17 : v2 = (6 : Int32)
                  · have hf := pO_pos k_17 hf
                    refine E_tableIn (off := 116) (tgt := 146) dX11_goods_30 (by rw [k_17]; decide) (by rw [k_17]; decide) (by rw [k_17]; rfl) (by decide) ?_
                    refine E_aload_n dX11_goods_146 rfl ?_
                    refine E_getf (v := .ref 1) dX11_goods_147 fl_X11_goods_12 rfl rfl ?_
                    refine E_getf (v := .ref 5) dX11_goods_150 fl_X11_goods_131 rfl rfl ?_
                    refine E_getf (v := .ref 7) dX11_goods_153 fl_X11_goods_146 rfl rfl ?_
                    refine E_iload_n dX11_goods_156 rfl ?_
                    obtain ⟨hi_18, hf⟩ := pO_gd hf
                    refine E_iald (n0 := 16) (f := S_3.2 3) dX11_goods_157 rfl (pin_in hi_18) ?_
                    refine E_aload_n dX11_goods_158 rfl ?_
                    refine E_getf (v := .ref 1) dX11_goods_159 fl_X11_goods_12 rfl rfl ?_
                    refine E_iconst (v := 0) dX11_goods_162 (by decide) ?_
                    refine E_callVI (st := [.int ((S_3.2 3) r3.toNatClampNeg)]) (c_X0_heelBehind l D dA ad S_3 0 (pO_bnd hf)) mf_X0_heelBehind rfl rfl gX11_goods_X0_heelBehind (pRc.of (ci := 0) rfl rfl) (by omega) rfl (Nat.le_of_ble_eq_true rfl) (by rfl) dX11_goods_163 (fun r19 h19 q19 => ?_)
                    obtain ⟨S_19, rfl, hf⟩ := q19
                    dsimp only at hf
                    refine E_callSI (st := []) (c_X11_rollsOf l D dA ad S_19 ((S_3.2 3) r3.toNatClampNeg) r19 (pO_bnd hf)) mf_X11_rollsOf rfl gX11_goods_X11_rollsOf (by omega) rfl (Nat.le_of_ble_eq_true rfl) (by rfl) dX11_goods_166 (fun r20 h20 q20 => ?_)
                    obtain ⟨S_20, rfl, hf⟩ := q20
                    dsimp only at hf
                    exact E_iret rfl dX11_goods_169 ⟨_, rfl, hf⟩
                  · have hf := pO_neg k_17 hf
                    refine E_tableOut (tgt := 170) dX11_goods_30 (by have z0 := pti k_5 (by decide : (0 : Int32).toInt = 0); have z1 := pti k_7 (by decide : (1 : Int32).toInt = 1); have z2 := pti k_9 (by decide : (2 : Int32).toInt = 2); have z3 := pti k_11 (by decide : (3 : Int32).toInt = 3); have z4 := pti k_13 (by decide : (4 : Int32).toInt = 4); have z5 := pti k_15 (by decide : (5 : Int32).toInt = 5); have z6 := pti k_17 (by decide : (6 : Int32).toInt = 6); omega) (by decide) ?_
                    refine E_ldc (v := (-2147483648)) dX11_goods_170 (by decide +kernel) ?_
                    exact E_iret rfl dX11_goods_172 ⟨_, rfl, hf⟩
    · have hf := pO_neg c_4 hf
      refine E_ldc (v := (-2147483648)) dX11_goods_26 (by decide +kernel) ?_
      exact E_iret rfl dX11_goods_28 ⟨_, rfl, hf⟩
  · have hf := pO_pos c_2 hf
    refine E_ldc (v := (-2147483648)) dX11_goods_7 (by decide +kernel) ?_
    exact E_iret rfl dX11_goods_9 ⟨_, rfl, hf⟩
theorem hi_X11_taken_11 : ∀ w ∈ u_ws RX11 TX11 10, w ∈ wsX11_taken := fun w h => of_decide_eq_true (List.all_eq_true.mp (by decide +kernel : (u_ws RX11 TX11 10).all (fun w => decide (w ∈ wsX11_taken)) = true) w h)
theorem fl_X11_taken_12 : pFL wsX11_taken RX11 12 11 0 := ⟨RX11, TX11, 10, hi_X11_taken_11, rfl, by decide, by decide +kernel⟩
theorem hi_X11_taken_0 : ∀ w ∈ u_ws RX0 TX0 3, w ∈ wsX11_taken := fun w h => of_decide_eq_true (List.all_eq_true.mp (by decide +kernel : (u_ws RX0 TX0 3).all (fun w => decide (w ∈ wsX11_taken)) = true) w h)
theorem fl_X11_taken_131 : pFL wsX11_taken RX11 131 0 1 := ⟨RX0, TX0, 3, hi_X11_taken_0, rfl, by decide, by decide +kernel⟩
theorem hi_X11_taken_1 : ∀ w ∈ u_ws RX1 TX1 7, w ∈ wsX11_taken := fun w h => of_decide_eq_true (List.all_eq_true.mp (by decide +kernel : (u_ws RX1 TX1 7).all (fun w => decide (w ∈ wsX11_taken)) = true) w h)
theorem fl_X11_taken_146 : pFL wsX11_taken RX11 146 1 2 := ⟨RX1, TX1, 7, hi_X11_taken_1, rfl, by decide, by decide +kernel⟩
def g_X11_isOfKind_4 : Nat → PS → Int32 → Int32 → Int32 → Option ((Int32 × PS) ⊕ (PS))
  | 0, _, _, _, _ => none
  | fuel + 1, S, v1, v2, v3 =>
    if (5 : Int32) ≤ v3 then (some (.inr (S))) else (pbnd (f_X11_isKind S v2) (fun r2 S_2 => if r2 = (0 : Int32) then (some (.inr (S_2))) else (if v2 = v1 then (some (.inl (1, S_2))) else (pgd (pin v2 5) (g_X11_isOfKind_4 fuel S_2 v1 (pUnder v2.toNatClampNeg) (v3 + 1))))))
set_option maxRecDepth 100000 in
theorem l_X11_isOfKind_4 (l : Launch) (D : va_G) (dA : Nat → ClassId) (ad : Nat → Nat) (d : Nat) (hd : 2 ≤ d) {Q : Int32 → List PC → Prop} : ∀ (fuel : Nat) (S : PS) (v1 : Int32) (v2 : Int32) (v3 : Int32), pO (g_X11_isOfKind_4 fuel S v1 v2 v3) (fun y => match y with
    | .inl x => Q x.1 (hX x.2)
    | .inr w => Ev l D dA ad wsX11_isOfKind cX11_isOfKind RX11 4 (some .boolean) d 52 (pKi D dA ad 52 Q) 38 [] [] (hX w)) → Ev l D dA ad wsX11_isOfKind cX11_isOfKind RX11 4 (some .boolean) d 52 (pKi D dA ad 52 Q) 4 [(1, .int v1), (2, .int v2), (3, .int v3)] [] (hX S) := by
  intro fuel
  induction fuel with
  | zero =>
    intro S v1 v2 v3 hf
    exact hf.elim
  | succ fuel ih =>
    intro S v1 v2 v3 hf
    rw [g_X11_isOfKind_4] at hf
    refine E_iload_n dX11_isOfKind_4 rfl ?_
    refine E_under (by decide +kernel) dX11_isOfKind_5 ?_
    refine E_under_len dX11_isOfKind_8 ?_
    refine E_icmp_ge (tgt := 38) dX11_isOfKind_9 (by decide) (fun c_1 => ?_) (fun c_1 => ?_)
    · have hf := pO_pos c_1 hf
      exact E_sub (ls' := []) trivial hf
    · have hf := pO_neg c_1 hf
      refine E_iload_n dX11_isOfKind_12 rfl ?_
      refine E_callSI (st := []) (c_X11_isKind l D dA ad S v2 (pO_bnd hf)) mf_X11_isKind rfl gX11_isOfKind_X11_isKind (by omega) rfl (Nat.le_of_ble_eq_true rfl) (by rfl) dX11_isOfKind_13 (fun r2 h2 q2 => ?_)
      obtain ⟨S_2, rfl, hf⟩ := q2
      dsimp only at hf
      refine E_if_eq (tgt := 38) dX11_isOfKind_16 (by decide) (fun c_3 => ?_) (fun c_3 => ?_)
      · have hf := pO_pos c_3 hf
        exact E_sub (ls' := []) trivial hf
      · have hf := pO_neg c_3 hf
        refine E_iload_n dX11_isOfKind_19 rfl ?_
        refine E_iload_n dX11_isOfKind_20 rfl ?_
        refine E_icmp_ne (tgt := 26) dX11_isOfKind_21 (by decide) (fun c_4 => ?_) (fun c_4 => ?_)
        · have hf := pO_neg c_4 hf
          refine E_under (by decide +kernel) dX11_isOfKind_26 ?_
          refine E_iload_n dX11_isOfKind_29 rfl ?_
          obtain ⟨hi_5, hf⟩ := pO_gd hf
          refine E_under_ld (pin_in hi_5) dX11_isOfKind_30 ?_
          refine E_istore_n (ls' := [(1, .int v1), (2, .int (pUnder v2.toNatClampNeg)), (3, .int v3)]) dX11_isOfKind_31 (by decide) rfl ?_
          refine E_iinc (v := v3 + 1) (ls' := [(1, .int v1), (2, .int (pUnder v2.toNatClampNeg)), (3, .int (v3 + 1))]) dX11_isOfKind_32 rfl rfl (by decide) rfl ?_
          refine E_goto (tgt := 4) dX11_isOfKind_35 (by decide) ?_
          exact E_sub (ls' := [(1, .int v1), (2, .int (pUnder v2.toNatClampNeg)), (3, .int (v3 + 1))]) ⟨rfl, rfl, rfl, trivial⟩ (ih S_2 v1 (pUnder v2.toNatClampNeg) (v3 + 1) hf)
        · have hf := pO_pos c_4 hf
          refine E_iconst (v := 1) dX11_isOfKind_24 (by decide) ?_
          exact E_zret rfl dX11_isOfKind_25 (by decide) hf
theorem mf_X11_isOfKind : pMF yX11_isOfKind wsX11_isOfKind cX11_isOfKind 4 (some .boolean) 2 := ⟨⟨_, rfl⟩, by decide +kernel, by decide, by decide +kernel, by decide +kernel, by decide +kernel⟩
def f_X11_isOfKind (S : PS) (v0 : Int32) (v1 : Int32) : Option (Int32 × PS) :=
  plp (g_X11_isOfKind_4 pfuel S v1 v0 0) (fun (S_6 : PS) => some (0, S_6))
set_option maxRecDepth 100000 in
theorem c_X11_isOfKind (l : Launch) (D : va_G) (dA : Nat → ClassId) (ad : Nat → Nat) (S : PS) (v0 : Int32) (v1 : Int32) {P : (Int32 × PS) → Prop} (hf : pO (f_X11_isOfKind S v0 v1) P) : CtI l D dA ad yX11_isOfKind wsX11_isOfKind 2 [.int v0, .int v1] (hX S) (fun r h' => ∃ S' : PS, h' = hX S' ∧ P (r, S')) := by
  refine CtI_of mf_X11_isOfKind rfl rfl (Nat.le_of_ble_eq_true rfl) rfl (hX_len S) ?_
  unfold f_X11_isOfKind at hf
  refine E_iload_n dX11_isOfKind_0 rfl ?_
  refine E_istore_n (ls' := [(0, .int v0), (1, .int v1), (2, .int v0)]) dX11_isOfKind_1 (by decide) rfl ?_
  refine E_iconst (v := 0) dX11_isOfKind_2 (by decide) ?_
  refine E_istore_n (ls' := [(0, .int v0), (1, .int v1), (2, .int v0), (3, .int 0)]) dX11_isOfKind_3 (by decide) rfl ?_
  refine E_sub (ls' := [(1, .int v1), (2, .int v0), (3, .int 0)]) ⟨rfl, rfl, rfl, trivial⟩ ?_
  refine l_X11_isOfKind_4 l D dA ad _ (by omega) pfuel S v1 v0 0 (pO_lp hf (fun x hx => ⟨x.2, rfl, hx⟩) (fun w6 hf => ?_))
  obtain ⟨S_6, rfl⟩ : ∃ z, z = w6 := ⟨_, rfl⟩
  dsimp only at hf ⊢
  refine E_iconst (v := 0) dX11_isOfKind_38 (by decide) ?_
  exact E_zret rfl dX11_isOfKind_39 (by decide) ⟨_, rfl, hf⟩
theorem fl_X11_taken_149 : pFL wsX11_taken RX11 149 1 3 := ⟨RX1, TX1, 7, hi_X11_taken_1, rfl, by decide, by decide +kernel⟩
theorem mf_X11_taken : pMF yX11_taken wsX11_taken cX11_taken 4 (some .int) 2 := ⟨⟨_, rfl⟩, by decide +kernel, by decide, by decide +kernel, by decide +kernel, by decide +kernel⟩
def f_X11_taken (S : PS) (v1 : Int32) (v2 : Int32) : Option (Int32 × PS) :=
  pbnd (f_X11_isName S v1) (fun r1 S_1 => if r1 = (0 : Int32) then (some ((-1), S_1)) else (pbnd (f_X11_isKind S_1 v2) (fun r3 S_3 => if r3 = (0 : Int32) then (some ((-1), S_3)) else (pbnd (f_X1_placeOf S_3 v1) (fun r5 S_5 => if (0 : Int32) ≤ r5 then (pgd (pin r5 16) (pbnd (f_X11_isOfKind S_5 ((S_5.2 3) r5.toNatClampNeg) v2) (fun r8 S_8 => if r8 = (0 : Int32) then (some ((-5), S_8)) else (pgd (pin r5 16) (some ((S_8.2 4) r5.toNatClampNeg, S_8)))))) else (some ((-2), S_5)))))))
set_option maxRecDepth 100000 in
theorem c_X11_taken (l : Launch) (D : va_G) (dA : Nat → ClassId) (ad : Nat → Nat) (S : PS) (v1 : Int32) (v2 : Int32) {P : (Int32 × PS) → Prop} (hf : pO (f_X11_taken S v1 v2) P) : CtI l D dA ad yX11_taken wsX11_taken 3 [.ref 0, .int v1, .int v2] (hX S) (fun r h' => ∃ S' : PS, h' = hX S' ∧ P (r, S')) := by
  refine CtI_of mf_X11_taken rfl rfl (Nat.le_of_ble_eq_true rfl) rfl (hX_len S) ?_
  unfold f_X11_taken at hf
  refine E_iload_n dX11_taken_0 rfl ?_
  refine E_callSI (st := []) (c_X11_isName l D dA ad S v1 (pO_bnd hf)) mf_X11_isName rfl gX11_taken_X11_isName (by omega) rfl (Nat.le_of_ble_eq_true rfl) (by rfl) dX11_taken_1 (fun r1 h1 q1 => ?_)
  obtain ⟨S_1, rfl, hf⟩ := q1
  dsimp only at hf
  refine E_if_eq (tgt := 14) dX11_taken_4 (by decide) (fun c_2 => ?_) (fun c_2 => ?_)
  · have hf := pO_pos c_2 hf
    refine E_iconst (v := (-1)) dX11_taken_14 (by decide) ?_
    exact E_iret rfl dX11_taken_15 ⟨_, rfl, hf⟩
  · have hf := pO_neg c_2 hf
    refine E_iload_n dX11_taken_7 rfl ?_
    refine E_callSI (st := []) (c_X11_isKind l D dA ad S_1 v2 (pO_bnd hf)) mf_X11_isKind rfl gX11_taken_X11_isKind (by omega) rfl (Nat.le_of_ble_eq_true rfl) (by rfl) dX11_taken_8 (fun r3 h3 q3 => ?_)
    obtain ⟨S_3, rfl, hf⟩ := q3
    dsimp only at hf
    refine E_if_ne (tgt := 16) dX11_taken_11 (by decide) (fun c_4 => ?_) (fun c_4 => ?_)
    · have hf := pO_neg c_4 hf
      refine E_aload_n dX11_taken_16 rfl ?_
      refine E_getf (v := .ref 1) dX11_taken_17 fl_X11_taken_12 rfl rfl ?_
      refine E_getf (v := .ref 5) dX11_taken_20 fl_X11_taken_131 rfl rfl ?_
      refine E_iload_n dX11_taken_23 rfl ?_
      refine E_callVI (st := []) (c_X1_placeOf l D dA ad S_3 v1 (pO_bnd hf)) mf_X1_placeOf rfl rfl gX11_taken_X1_placeOf (pRc.of (ci := 1) rfl rfl) (by omega) rfl (Nat.le_of_ble_eq_true rfl) (by rfl) dX11_taken_24 (fun r5 h5 q5 => ?_)
      obtain ⟨S_5, rfl, hf⟩ := q5
      dsimp only at hf
      refine E_istore_n (ls' := [(0, .ref 0), (1, .int v1), (2, .int v2), (3, .int r5)]) dX11_taken_27 (by decide) rfl ?_
      refine E_iload_n dX11_taken_28 rfl ?_
      refine E_if_ge (tgt := 35) dX11_taken_29 (by decide) (fun c_6 => ?_) (fun c_6 => ?_)
      · have hf := pO_pos c_6 hf
        refine E_aload_n dX11_taken_35 rfl ?_
        refine E_getf (v := .ref 1) dX11_taken_36 fl_X11_taken_12 rfl rfl ?_
        refine E_getf (v := .ref 5) dX11_taken_39 fl_X11_taken_131 rfl rfl ?_
        refine E_getf (v := .ref 7) dX11_taken_42 fl_X11_taken_146 rfl rfl ?_
        refine E_iload_n dX11_taken_45 rfl ?_
        obtain ⟨hi_7, hf⟩ := pO_gd hf
        refine E_iald (n0 := 16) (f := S_5.2 3) dX11_taken_46 rfl (pin_in hi_7) ?_
        refine E_iload_n dX11_taken_47 rfl ?_
        refine E_callSI (st := []) (c_X11_isOfKind l D dA ad S_5 ((S_5.2 3) r5.toNatClampNeg) v2 (pO_bnd hf)) mf_X11_isOfKind rfl gX11_taken_X11_isOfKind (by omega) rfl (Nat.le_of_ble_eq_true rfl) (by rfl) dX11_taken_48 (fun r8 h8 q8 => ?_)
        obtain ⟨S_8, rfl, hf⟩ := q8
        dsimp only at hf
        refine E_if_eq (tgt := 69) dX11_taken_51 (by decide) (fun c_9 => ?_) (fun c_9 => ?_)
        · have hf := pO_pos c_9 hf
          refine E_bipush (v := (-5)) dX11_taken_69 (by decide) ?_
          exact E_iret rfl dX11_taken_71 ⟨_, rfl, hf⟩
        · have hf := pO_neg c_9 hf
          refine E_aload_n dX11_taken_54 rfl ?_
          refine E_getf (v := .ref 1) dX11_taken_55 fl_X11_taken_12 rfl rfl ?_
          refine E_getf (v := .ref 5) dX11_taken_58 fl_X11_taken_131 rfl rfl ?_
          refine E_getf (v := .ref 8) dX11_taken_61 fl_X11_taken_149 rfl rfl ?_
          refine E_iload_n dX11_taken_64 rfl ?_
          obtain ⟨hi_10, hf⟩ := pO_gd hf
          refine E_iald (n0 := 16) (f := S_8.2 4) dX11_taken_65 rfl (pin_in hi_10) ?_
          refine E_goto (tgt := 71) dX11_taken_66 (by decide) ?_
          exact E_iret rfl dX11_taken_71 ⟨_, rfl, hf⟩
      · have hf := pO_neg c_6 hf
        refine E_bipush (v := (-2)) dX11_taken_32 (by decide) ?_
        exact E_iret rfl dX11_taken_34 ⟨_, rfl, hf⟩
    · have hf := pO_pos c_4 hf
      refine E_iconst (v := (-1)) dX11_taken_14 (by decide) ?_
      exact E_iret rfl dX11_taken_15 ⟨_, rfl, hf⟩
theorem mf_X11_isTank : pMF yX11_isTank wsX11_isTank cX11_isTank 1 (some .boolean) 1 := ⟨⟨_, rfl⟩, by decide +kernel, by decide, by decide +kernel, by decide +kernel, by decide +kernel⟩
def f_X11_isTank (S : PS) (v0 : Int32) : Option (Int32 × PS) :=
  pbnd (f_X11_isWithin S v0 0 3) (fun r1 S_1 => pgd (pbit r1) (some (r1, S_1)))
set_option maxRecDepth 100000 in
theorem c_X11_isTank (l : Launch) (D : va_G) (dA : Nat → ClassId) (ad : Nat → Nat) (S : PS) (v0 : Int32) {P : (Int32 × PS) → Prop} (hf : pO (f_X11_isTank S v0) P) : CtI l D dA ad yX11_isTank wsX11_isTank 1 [.int v0] (hX S) (fun r h' => ∃ S' : PS, h' = hX S' ∧ P (r, S')) := by
  refine CtI_of mf_X11_isTank rfl rfl (Nat.le_of_ble_eq_true rfl) rfl (hX_len S) ?_
  unfold f_X11_isTank at hf
  refine E_iload_n dX11_isTank_0 rfl ?_
  refine E_iconst (v := 0) dX11_isTank_1 (by decide) ?_
  refine E_iconst (v := 3) dX11_isTank_2 (by decide) ?_
  refine E_callSI (st := []) (c_X11_isWithin l D dA ad S v0 0 3 (pO_bnd hf)) mf_X11_isWithin rfl gX11_isTank_X11_isWithin (by omega) rfl (Nat.le_of_ble_eq_true rfl) (by rfl) dX11_isTank_3 (fun r1 h1 q1 => ?_)
  obtain ⟨S_1, rfl, hf⟩ := q1
  dsimp only at hf
  obtain ⟨hn_2, hf⟩ := pO_gd hf
  exact E_zret rfl dX11_isTank_6 (pbit_n hn_2) ⟨_, rfl, hf⟩
theorem hi_X11_tank_11 : ∀ w ∈ u_ws RX11 TX11 10, w ∈ wsX11_tank := fun w h => of_decide_eq_true (List.all_eq_true.mp (by decide +kernel : (u_ws RX11 TX11 10).all (fun w => decide (w ∈ wsX11_tank)) = true) w h)
theorem fl_X11_tank_12 : pFL wsX11_tank RX11 12 11 0 := ⟨RX11, TX11, 10, hi_X11_tank_11, rfl, by decide, by decide +kernel⟩
theorem hi_X11_tank_0 : ∀ w ∈ u_ws RX0 TX0 3, w ∈ wsX11_tank := fun w h => of_decide_eq_true (List.all_eq_true.mp (by decide +kernel : (u_ws RX0 TX0 3).all (fun w => decide (w ∈ wsX11_tank)) = true) w h)
theorem fl_X11_tank_82 : pFL wsX11_tank RX11 82 0 0 := ⟨RX0, TX0, 3, hi_X11_tank_0, rfl, by decide, by decide +kernel⟩
theorem fl_X11_tank_182 : pFL wsX11_tank RX11 182 0 2 := ⟨RX0, TX0, 3, hi_X11_tank_0, rfl, by decide, by decide +kernel⟩
theorem hi_X11_tank_8 : ∀ w ∈ u_ws RX8 TX8 4, w ∈ wsX11_tank := fun w h => of_decide_eq_true (List.all_eq_true.mp (by decide +kernel : (u_ws RX8 TX8 4).all (fun w => decide (w ∈ wsX11_tank)) = true) w h)
theorem fl_X11_tank_186 : pFL wsX11_tank RX11 186 8 0 := ⟨RX8, TX8, 4, hi_X11_tank_8, rfl, by decide, by decide +kernel⟩
theorem fl_X11_tank_189 : pFL wsX11_tank RX11 189 8 1 := ⟨RX8, TX8, 4, hi_X11_tank_8, rfl, by decide, by decide +kernel⟩
theorem fl_X11_tank_192 : pFL wsX11_tank RX11 192 8 2 := ⟨RX8, TX8, 4, hi_X11_tank_8, rfl, by decide, by decide +kernel⟩
theorem fl_X11_tank_195 : pFL wsX11_tank RX11 195 8 3 := ⟨RX8, TX8, 4, hi_X11_tank_8, rfl, by decide, by decide +kernel⟩
theorem mf_X11_tank : pMF yX11_tank wsX11_tank cX11_tank 5 (some .int) 4 := ⟨⟨_, rfl⟩, by decide +kernel, by decide, by decide +kernel, by decide +kernel, by decide +kernel⟩
def f_X11_tank (S : PS) (v1 : Int32) (v2 : Int32) (v3 : Int32) (v4 : Int32) : Option (Int32 × PS) :=
  pbnd (f_X11_isTank S v1) (fun r1 S_1 => if r1 = (0 : Int32) then (some ((-1), S_1)) else (pbnd (f_X2_hasSection S_1 v2) (fun r3 S_3 => if r3 = (0 : Int32) then (some ((-1), S_3)) else (pbnd (f_X11_isWithin S_3 v3 0 20) (fun r5 S_5 => if r5 = (0 : Int32) then (some ((-1), S_5)) else (pbnd (f_X11_isWithin S_5 v4 0 999) (fun r7 S_7 => if r7 = (0 : Int32) then (some ((-1), S_7)) else (pgd (pin v1 4) (pgd (pin v1 4) (pgd (pin v1 4) (pgd (pin v1 4) (some (1, (pAr (pAr (pAr (pAr S_7 8 (upd (S_7.2 8) v1.toNatClampNeg v2)) 9 (upd (S_7.2 9) v1.toNatClampNeg v3)) 10 (upd (S_7.2 10) v1.toNatClampNeg v4)) 11 (upd (S_7.2 11) v1.toNatClampNeg 0)))))))))))))))
set_option maxRecDepth 100000 in
theorem c_X11_tank (l : Launch) (D : va_G) (dA : Nat → ClassId) (ad : Nat → Nat) (S : PS) (v1 : Int32) (v2 : Int32) (v3 : Int32) (v4 : Int32) {P : (Int32 × PS) → Prop} (hf : pO (f_X11_tank S v1 v2 v3 v4) P) : CtI l D dA ad yX11_tank wsX11_tank 2 [.ref 0, .int v1, .int v2, .int v3, .int v4] (hX S) (fun r h' => ∃ S' : PS, h' = hX S' ∧ P (r, S')) := by
  refine CtI_of mf_X11_tank rfl rfl (Nat.le_of_ble_eq_true rfl) rfl (hX_len S) ?_
  unfold f_X11_tank at hf
  refine E_iload_n dX11_tank_0 rfl ?_
  refine E_callSI (st := []) (c_X11_isTank l D dA ad S v1 (pO_bnd hf)) mf_X11_isTank rfl gX11_tank_X11_isTank (by omega) rfl (Nat.le_of_ble_eq_true rfl) (by rfl) dX11_tank_1 (fun r1 h1 q1 => ?_)
  obtain ⟨S_1, rfl, hf⟩ := q1
  dsimp only at hf
  refine E_if_eq (tgt := 21) dX11_tank_4 (by decide) (fun c_2 => ?_) (fun c_2 => ?_)
  · have hf := pO_pos c_2 hf
    refine E_iconst (v := (-1)) dX11_tank_21 (by decide) ?_
    exact E_iret rfl dX11_tank_22 ⟨_, rfl, hf⟩
  · have hf := pO_neg c_2 hf
    refine E_aload_n dX11_tank_7 rfl ?_
    refine E_getf (v := .ref 1) dX11_tank_8 fl_X11_tank_12 rfl rfl ?_
    refine E_getf (v := .ref 2) dX11_tank_11 fl_X11_tank_82 rfl rfl ?_
    refine E_iload_n dX11_tank_14 rfl ?_
    refine E_callVI (st := []) (c_X2_hasSection l D dA ad S_1 v2 (pO_bnd hf)) mf_X2_hasSection rfl rfl gX11_tank_X2_hasSection (pRc.of (ci := 2) rfl rfl) (by omega) rfl (Nat.le_of_ble_eq_true rfl) (by rfl) dX11_tank_15 (fun r3 h3 q3 => ?_)
    obtain ⟨S_3, rfl, hf⟩ := q3
    dsimp only at hf
    refine E_if_ne (tgt := 23) dX11_tank_18 (by decide) (fun c_4 => ?_) (fun c_4 => ?_)
    · have hf := pO_neg c_4 hf
      refine E_iload_n dX11_tank_23 rfl ?_
      refine E_iconst (v := 0) dX11_tank_24 (by decide) ?_
      refine E_bipush (v := 20) dX11_tank_25 (by decide) ?_
      refine E_callSI (st := []) (c_X11_isWithin l D dA ad S_3 v3 0 20 (pO_bnd hf)) mf_X11_isWithin rfl gX11_tank_X11_isWithin (by omega) rfl (Nat.le_of_ble_eq_true rfl) (by rfl) dX11_tank_27 (fun r5 h5 q5 => ?_)
      obtain ⟨S_5, rfl, hf⟩ := q5
      dsimp only at hf
      refine E_if_eq (tgt := 45) dX11_tank_30 (by decide) (fun c_6 => ?_) (fun c_6 => ?_)
      · have hf := pO_pos c_6 hf
        refine E_iconst (v := (-1)) dX11_tank_45 (by decide) ?_
        exact E_iret rfl dX11_tank_46 ⟨_, rfl, hf⟩
      · have hf := pO_neg c_6 hf
        refine E_iload dX11_tank_33 rfl ?_
        refine E_iconst (v := 0) dX11_tank_35 (by decide) ?_
        refine E_sipush (v := 999) dX11_tank_36 (by decide) ?_
        refine E_callSI (st := []) (c_X11_isWithin l D dA ad S_5 v4 0 999 (pO_bnd hf)) mf_X11_isWithin rfl gX11_tank_X11_isWithin (by omega) rfl (Nat.le_of_ble_eq_true rfl) (by rfl) dX11_tank_39 (fun r7 h7 q7 => ?_)
        obtain ⟨S_7, rfl, hf⟩ := q7
        dsimp only at hf
        refine E_if_ne (tgt := 47) dX11_tank_42 (by decide) (fun c_8 => ?_) (fun c_8 => ?_)
        · have hf := pO_neg c_8 hf
          refine E_aload_n dX11_tank_47 rfl ?_
          refine E_getf (v := .ref 1) dX11_tank_48 fl_X11_tank_12 rfl rfl ?_
          refine E_getf (v := .ref 12) dX11_tank_51 fl_X11_tank_182 rfl rfl ?_
          refine E_getf (v := .ref 13) dX11_tank_54 fl_X11_tank_186 rfl rfl ?_
          refine E_iload_n dX11_tank_57 rfl ?_
          refine E_iload_n dX11_tank_58 rfl ?_
          obtain ⟨hi_9, hf⟩ := pO_gd hf
          refine E_iast (n0 := 4) (f := S_7.2 8) (h' := hX (pAr S_7 8 (upd (S_7.2 8) v1.toNatClampNeg v2))) dX11_tank_59 rfl (pin_in hi_9) (sX_A8 S_7 (upd (S_7.2 8) v1.toNatClampNeg v2)) ?_
          refine E_aload_n dX11_tank_60 rfl ?_
          refine E_getf (v := .ref 1) dX11_tank_61 fl_X11_tank_12 rfl rfl ?_
          refine E_getf (v := .ref 12) dX11_tank_64 fl_X11_tank_182 rfl rfl ?_
          refine E_getf (v := .ref 14) dX11_tank_67 fl_X11_tank_189 rfl rfl ?_
          refine E_iload_n dX11_tank_70 rfl ?_
          refine E_iload_n dX11_tank_71 rfl ?_
          obtain ⟨hi_10, hf⟩ := pO_gd hf
          refine E_iast (n0 := 4) (f := S_7.2 9) (h' := hX (pAr (pAr S_7 8 (upd (S_7.2 8) v1.toNatClampNeg v2)) 9 (upd (S_7.2 9) v1.toNatClampNeg v3))) dX11_tank_72 rfl (pin_in hi_10) (sX_A9 (pAr S_7 8 (upd (S_7.2 8) v1.toNatClampNeg v2)) (upd (S_7.2 9) v1.toNatClampNeg v3)) ?_
          refine E_aload_n dX11_tank_73 rfl ?_
          refine E_getf (v := .ref 1) dX11_tank_74 fl_X11_tank_12 rfl rfl ?_
          refine E_getf (v := .ref 12) dX11_tank_77 fl_X11_tank_182 rfl rfl ?_
          refine E_getf (v := .ref 15) dX11_tank_80 fl_X11_tank_192 rfl rfl ?_
          refine E_iload_n dX11_tank_83 rfl ?_
          refine E_iload dX11_tank_84 rfl ?_
          obtain ⟨hi_11, hf⟩ := pO_gd hf
          refine E_iast (n0 := 4) (f := S_7.2 10) (h' := hX (pAr (pAr (pAr S_7 8 (upd (S_7.2 8) v1.toNatClampNeg v2)) 9 (upd (S_7.2 9) v1.toNatClampNeg v3)) 10 (upd (S_7.2 10) v1.toNatClampNeg v4))) dX11_tank_86 rfl (pin_in hi_11) (sX_A10 (pAr (pAr S_7 8 (upd (S_7.2 8) v1.toNatClampNeg v2)) 9 (upd (S_7.2 9) v1.toNatClampNeg v3)) (upd (S_7.2 10) v1.toNatClampNeg v4)) ?_
          refine E_aload_n dX11_tank_87 rfl ?_
          refine E_getf (v := .ref 1) dX11_tank_88 fl_X11_tank_12 rfl rfl ?_
          refine E_getf (v := .ref 12) dX11_tank_91 fl_X11_tank_182 rfl rfl ?_
          refine E_getf (v := .ref 16) dX11_tank_94 fl_X11_tank_195 rfl rfl ?_
          refine E_iload_n dX11_tank_97 rfl ?_
          refine E_iconst (v := 0) dX11_tank_98 (by decide) ?_
          obtain ⟨hi_12, hf⟩ := pO_gd hf
          refine E_iast (n0 := 4) (f := S_7.2 11) (h' := hX (pAr (pAr (pAr (pAr S_7 8 (upd (S_7.2 8) v1.toNatClampNeg v2)) 9 (upd (S_7.2 9) v1.toNatClampNeg v3)) 10 (upd (S_7.2 10) v1.toNatClampNeg v4)) 11 (upd (S_7.2 11) v1.toNatClampNeg 0))) dX11_tank_99 rfl (pin_in hi_12) (sX_A11 (pAr (pAr (pAr S_7 8 (upd (S_7.2 8) v1.toNatClampNeg v2)) 9 (upd (S_7.2 9) v1.toNatClampNeg v3)) 10 (upd (S_7.2 10) v1.toNatClampNeg v4)) (upd (S_7.2 11) v1.toNatClampNeg 0)) ?_
          refine E_iconst (v := 1) dX11_tank_100 (by decide) ?_
          exact E_iret rfl dX11_tank_101 ⟨_, rfl, hf⟩
        · have hf := pO_pos c_8 hf
          refine E_iconst (v := (-1)) dX11_tank_45 (by decide) ?_
          exact E_iret rfl dX11_tank_46 ⟨_, rfl, hf⟩
    · have hf := pO_pos c_4 hf
      refine E_iconst (v := (-1)) dX11_tank_21 (by decide) ?_
      exact E_iret rfl dX11_tank_22 ⟨_, rfl, hf⟩
theorem hi_X11_fill_11 : ∀ w ∈ u_ws RX11 TX11 10, w ∈ wsX11_fill := fun w h => of_decide_eq_true (List.all_eq_true.mp (by decide +kernel : (u_ws RX11 TX11 10).all (fun w => decide (w ∈ wsX11_fill)) = true) w h)
theorem fl_X11_fill_12 : pFL wsX11_fill RX11 12 11 0 := ⟨RX11, TX11, 10, hi_X11_fill_11, rfl, by decide, by decide +kernel⟩
theorem hi_X11_fill_0 : ∀ w ∈ u_ws RX0 TX0 3, w ∈ wsX11_fill := fun w h => of_decide_eq_true (List.all_eq_true.mp (by decide +kernel : (u_ws RX0 TX0 3).all (fun w => decide (w ∈ wsX11_fill)) = true) w h)
theorem fl_X11_fill_182 : pFL wsX11_fill RX11 182 0 2 := ⟨RX0, TX0, 3, hi_X11_fill_0, rfl, by decide, by decide +kernel⟩
theorem hi_X11_fill_8 : ∀ w ∈ u_ws RX8 TX8 4, w ∈ wsX11_fill := fun w h => of_decide_eq_true (List.all_eq_true.mp (by decide +kernel : (u_ws RX8 TX8 4).all (fun w => decide (w ∈ wsX11_fill)) = true) w h)
theorem fl_X11_fill_192 : pFL wsX11_fill RX11 192 8 2 := ⟨RX8, TX8, 4, hi_X11_fill_8, rfl, by decide, by decide +kernel⟩
theorem hi_X8_isThere_8 : ∀ w ∈ u_ws RX8 TX8 4, w ∈ wsX8_isThere := fun w h => of_decide_eq_true (List.all_eq_true.mp (by decide +kernel : (u_ws RX8 TX8 4).all (fun w => decide (w ∈ wsX8_isThere)) = true) w h)
theorem fl_X8_isThere_15 : pFL wsX8_isThere RX8 15 8 1 := ⟨RX8, TX8, 4, hi_X8_isThere_8, rfl, by decide, by decide +kernel⟩
theorem mf_X8_isThere : pMF yX8_isThere wsX8_isThere cX8_isThere 2 (some .boolean) 1 := ⟨⟨_, rfl⟩, by decide +kernel, by decide, by decide +kernel, by decide +kernel, by decide +kernel⟩
def f_X8_isThere (S : PS) (v1 : Int32) : Option (Int32 × PS) :=
  pgd (pin v1 4) (if ((S.2 9) v1.toNatClampNeg) ≤ (0 : Int32) then (some (0, S)) else (some (1, S)))
set_option maxRecDepth 100000 in
theorem c_X8_isThere (l : Launch) (D : va_G) (dA : Nat → ClassId) (ad : Nat → Nat) (S : PS) (v1 : Int32) {P : (Int32 × PS) → Prop} (hf : pO (f_X8_isThere S v1) P) : CtI l D dA ad yX8_isThere wsX8_isThere 0 [.ref 12, .int v1] (hX S) (fun r h' => ∃ S' : PS, h' = hX S' ∧ P (r, S')) := by
  refine CtI_of mf_X8_isThere rfl rfl (Nat.le_of_ble_eq_true rfl) rfl (hX_len S) ?_
  unfold f_X8_isThere at hf
  refine E_aload_n dX8_isThere_0 rfl ?_
  refine E_getf (v := .ref 14) dX8_isThere_1 fl_X8_isThere_15 rfl rfl ?_
  refine E_iload_n dX8_isThere_4 rfl ?_
  obtain ⟨hi_1, hf⟩ := pO_gd hf
  refine E_iald (n0 := 4) (f := S.2 9) dX8_isThere_5 rfl (pin_in hi_1) ?_
  refine E_if_le (tgt := 13) dX8_isThere_6 (by decide) (fun c_2 => ?_) (fun c_2 => ?_)
  · have hf := pO_pos c_2 hf
    refine E_iconst (v := 0) dX8_isThere_13 (by decide) ?_
    exact E_zret rfl dX8_isThere_14 (by decide) ⟨_, rfl, hf⟩
  · have hf := pO_neg c_2 hf
    refine E_iconst (v := 1) dX8_isThere_9 (by decide) ?_
    refine E_goto (tgt := 14) dX8_isThere_10 (by decide) ?_
    exact E_zret rfl dX8_isThere_14 (by decide) ⟨_, rfl, hf⟩
theorem fl_X11_fill_195 : pFL wsX11_fill RX11 195 8 3 := ⟨RX8, TX8, 4, hi_X11_fill_8, rfl, by decide, by decide +kernel⟩
theorem mf_X11_fill : pMF yX11_fill wsX11_fill cX11_fill 4 (some .int) 2 := ⟨⟨_, rfl⟩, by decide +kernel, by decide, by decide +kernel, by decide +kernel, by decide +kernel⟩
def f_X11_fill (S : PS) (v1 : Int32) (v2 : Int32) : Option (Int32 × PS) :=
  pbnd (f_X11_isTank S v1) (fun r1 S_1 => if r1 = (0 : Int32) then (some ((-1), S_1)) else (if (0 : Int32) ≤ v2 then (pgd (pin v1 4) (if ((S_1.2 10) v1.toNatClampNeg) < v2 then (some ((-5), S_1)) else (pbnd (f_X8_isThere S_1 v1) (fun r6 S_6 => if r6 = (0 : Int32) then (some ((-5), S_6)) else (pgd (pin v1 4) (pgd (pin v1 4) (some ((S_6.2 11) v1.toNatClampNeg, (pAr S_6 11 (upd (S_6.2 11) v1.toNatClampNeg v2)))))))))) else (some ((-1), S_1))))
set_option maxRecDepth 100000 in
theorem c_X11_fill (l : Launch) (D : va_G) (dA : Nat → ClassId) (ad : Nat → Nat) (S : PS) (v1 : Int32) (v2 : Int32) {P : (Int32 × PS) → Prop} (hf : pO (f_X11_fill S v1 v2) P) : CtI l D dA ad yX11_fill wsX11_fill 2 [.ref 0, .int v1, .int v2] (hX S) (fun r h' => ∃ S' : PS, h' = hX S' ∧ P (r, S')) := by
  refine CtI_of mf_X11_fill rfl rfl (Nat.le_of_ble_eq_true rfl) rfl (hX_len S) ?_
  unfold f_X11_fill at hf
  refine E_iload_n dX11_fill_0 rfl ?_
  refine E_callSI (st := []) (c_X11_isTank l D dA ad S v1 (pO_bnd hf)) mf_X11_isTank rfl gX11_fill_X11_isTank (by omega) rfl (Nat.le_of_ble_eq_true rfl) (by rfl) dX11_fill_1 (fun r1 h1 q1 => ?_)
  obtain ⟨S_1, rfl, hf⟩ := q1
  dsimp only at hf
  refine E_if_eq (tgt := 11) dX11_fill_4 (by decide) (fun c_2 => ?_) (fun c_2 => ?_)
  · have hf := pO_pos c_2 hf
    refine E_iconst (v := (-1)) dX11_fill_11 (by decide) ?_
    exact E_iret rfl dX11_fill_12 ⟨_, rfl, hf⟩
  · have hf := pO_neg c_2 hf
    refine E_iload_n dX11_fill_7 rfl ?_
    refine E_if_ge (tgt := 13) dX11_fill_8 (by decide) (fun c_3 => ?_) (fun c_3 => ?_)
    · have hf := pO_pos c_3 hf
      refine E_aload_n dX11_fill_13 rfl ?_
      refine E_getf (v := .ref 1) dX11_fill_14 fl_X11_fill_12 rfl rfl ?_
      refine E_getf (v := .ref 12) dX11_fill_17 fl_X11_fill_182 rfl rfl ?_
      refine E_getf (v := .ref 15) dX11_fill_20 fl_X11_fill_192 rfl rfl ?_
      refine E_iload_n dX11_fill_23 rfl ?_
      obtain ⟨hi_4, hf⟩ := pO_gd hf
      refine E_iald (n0 := 4) (f := S_1.2 10) dX11_fill_24 rfl (pin_in hi_4) ?_
      refine E_iload_n dX11_fill_25 rfl ?_
      refine E_icmp_lt (tgt := 43) dX11_fill_26 (by decide) (fun c_5 => ?_) (fun c_5 => ?_)
      · have hf := pO_pos c_5 hf
        refine E_bipush (v := (-5)) dX11_fill_43 (by decide) ?_
        exact E_iret rfl dX11_fill_45 ⟨_, rfl, hf⟩
      · have hf := pO_neg c_5 hf
        refine E_aload_n dX11_fill_29 rfl ?_
        refine E_getf (v := .ref 1) dX11_fill_30 fl_X11_fill_12 rfl rfl ?_
        refine E_getf (v := .ref 12) dX11_fill_33 fl_X11_fill_182 rfl rfl ?_
        refine E_iload_n dX11_fill_36 rfl ?_
        refine E_callVI (st := []) (c_X8_isThere l D dA ad S_1 v1 (pO_bnd hf)) mf_X8_isThere rfl rfl gX11_fill_X8_isThere (pRc.of (ci := 8) rfl rfl) (by omega) rfl (Nat.le_of_ble_eq_true rfl) (by rfl) dX11_fill_37 (fun r6 h6 q6 => ?_)
        obtain ⟨S_6, rfl, hf⟩ := q6
        dsimp only at hf
        refine E_if_ne (tgt := 46) dX11_fill_40 (by decide) (fun c_7 => ?_) (fun c_7 => ?_)
        · have hf := pO_neg c_7 hf
          refine E_aload_n dX11_fill_46 rfl ?_
          refine E_getf (v := .ref 1) dX11_fill_47 fl_X11_fill_12 rfl rfl ?_
          refine E_getf (v := .ref 12) dX11_fill_50 fl_X11_fill_182 rfl rfl ?_
          refine E_getf (v := .ref 16) dX11_fill_53 fl_X11_fill_195 rfl rfl ?_
          refine E_iload_n dX11_fill_56 rfl ?_
          obtain ⟨hi_8, hf⟩ := pO_gd hf
          refine E_iald (n0 := 4) (f := S_6.2 11) dX11_fill_57 rfl (pin_in hi_8) ?_
          refine E_istore_n (ls' := [(0, .ref 0), (1, .int v1), (2, .int v2), (3, .int ((S_6.2 11) v1.toNatClampNeg))]) dX11_fill_58 (by decide) rfl ?_
          refine E_aload_n dX11_fill_59 rfl ?_
          refine E_getf (v := .ref 1) dX11_fill_60 fl_X11_fill_12 rfl rfl ?_
          refine E_getf (v := .ref 12) dX11_fill_63 fl_X11_fill_182 rfl rfl ?_
          refine E_getf (v := .ref 16) dX11_fill_66 fl_X11_fill_195 rfl rfl ?_
          refine E_iload_n dX11_fill_69 rfl ?_
          refine E_iload_n dX11_fill_70 rfl ?_
          obtain ⟨hi_9, hf⟩ := pO_gd hf
          refine E_iast (n0 := 4) (f := S_6.2 11) (h' := hX (pAr S_6 11 (upd (S_6.2 11) v1.toNatClampNeg v2))) dX11_fill_71 rfl (pin_in hi_9) (sX_A11 S_6 (upd (S_6.2 11) v1.toNatClampNeg v2)) ?_
          refine E_iload_n dX11_fill_72 rfl ?_
          exact E_iret rfl dX11_fill_73 ⟨_, rfl, hf⟩
        · have hf := pO_pos c_7 hf
          refine E_bipush (v := (-5)) dX11_fill_43 (by decide) ?_
          exact E_iret rfl dX11_fill_45 ⟨_, rfl, hf⟩
    · have hf := pO_neg c_3 hf
      refine E_iconst (v := (-1)) dX11_fill_11 (by decide) ?_
      exact E_iret rfl dX11_fill_12 ⟨_, rfl, hf⟩
theorem hi_X11_told_11 : ∀ w ∈ u_ws RX11 TX11 10, w ∈ wsX11_told := fun w h => of_decide_eq_true (List.all_eq_true.mp (by decide +kernel : (u_ws RX11 TX11 10).all (fun w => decide (w ∈ wsX11_told)) = true) w h)
theorem fl_X11_told_12 : pFL wsX11_told RX11 12 11 0 := ⟨RX11, TX11, 10, hi_X11_told_11, rfl, by decide, by decide +kernel⟩
theorem hi_X0_allAlong_0 : ∀ w ∈ u_ws RX0 TX0 3, w ∈ wsX0_allAlong := fun w h => of_decide_eq_true (List.all_eq_true.mp (by decide +kernel : (u_ws RX0 TX0 3).all (fun w => decide (w ∈ wsX0_allAlong)) = true) w h)
theorem fl_X0_allAlong_12 : pFL wsX0_allAlong RX0 12 0 0 := ⟨RX0, TX0, 3, hi_X0_allAlong_0, rfl, by decide, by decide +kernel⟩
theorem hi_X0_allAlong_2 : ∀ w ∈ u_ws RX2 TX2 6, w ∈ wsX0_allAlong := fun w h => of_decide_eq_true (List.all_eq_true.mp (by decide +kernel : (u_ws RX2 TX2 6).all (fun w => decide (w ∈ wsX0_allAlong)) = true) w h)
theorem fl_X0_allAlong_67 : pFL wsX0_allAlong RX0 67 2 2 := ⟨RX2, TX2, 6, hi_X0_allAlong_2, rfl, by decide, by decide +kernel⟩
theorem fl_X0_allAlong_76 : pFL wsX0_allAlong RX0 76 2 0 := ⟨RX2, TX2, 6, hi_X0_allAlong_2, rfl, by decide, by decide +kernel⟩
theorem fl_X0_allAlong_21 : pFL wsX0_allAlong RX0 21 0 1 := ⟨RX0, TX0, 3, hi_X0_allAlong_0, rfl, by decide, by decide +kernel⟩
theorem hi_X0_allAlong_1 : ∀ w ∈ u_ws RX1 TX1 7, w ∈ wsX0_allAlong := fun w h => of_decide_eq_true (List.all_eq_true.mp (by decide +kernel : (u_ws RX1 TX1 7).all (fun w => decide (w ∈ wsX0_allAlong)) = true) w h)
theorem fl_X0_allAlong_36 : pFL wsX0_allAlong RX0 36 1 0 := ⟨RX1, TX1, 7, hi_X0_allAlong_1, rfl, by decide, by decide +kernel⟩
theorem fl_X0_allAlong_79 : pFL wsX0_allAlong RX0 79 1 4 := ⟨RX1, TX1, 7, hi_X0_allAlong_1, rfl, by decide, by decide +kernel⟩
def g_X0_allAlong_20 : Nat → PS → Int32 → Int32 → Option ((Int32 × PS) ⊕ (PS × Int32))
  | 0, _, _, _ => none
  | fuel + 1, S, v1, v2 =>
    if (S.1 4) ≤ v2 then (some (.inr (S, v1))) else (pbnd (f_X0_weighsAt S v2) (fun r2 S_2 => pgd (pin v2 16) (g_X0_allAlong_20 fuel S_2 (v1 + ((r2 * 2) * ((S_2.2 5) v2.toNatClampNeg))) (v2 + 1))))
set_option maxRecDepth 100000 in
theorem l_X0_allAlong_20 (l : Launch) (D : va_G) (dA : Nat → ClassId) (ad : Nat → Nat) (d : Nat) (hd : 2 ≤ d) {Q : Int32 → List PC → Prop} : ∀ (fuel : Nat) (S : PS) (v1 : Int32) (v2 : Int32), pO (g_X0_allAlong_20 fuel S v1 v2) (fun y => match y with
    | .inl x => Q x.1 (hX x.2)
    | .inr w => Ev l D dA ad wsX0_allAlong cX0_allAlong RX0 3 (some .int) d 52 (pKi D dA ad 52 Q) 57 [(0, .ref 1), (1, .int w.2)] [] (hX w.1)) → Ev l D dA ad wsX0_allAlong cX0_allAlong RX0 3 (some .int) d 52 (pKi D dA ad 52 Q) 20 [(0, .ref 1), (1, .int v1), (2, .int v2)] [] (hX S) := by
  intro fuel
  induction fuel with
  | zero =>
    intro S v1 v2 hf
    exact hf.elim
  | succ fuel ih =>
    intro S v1 v2 hf
    rw [g_X0_allAlong_20] at hf
    refine E_iload_n dX0_allAlong_20 rfl ?_
    refine E_aload_n dX0_allAlong_21 rfl ?_
    refine E_getf (v := .ref 5) dX0_allAlong_22 fl_X0_allAlong_21 rfl rfl ?_
    refine E_getf (v := .int (S.1 4)) dX0_allAlong_25 fl_X0_allAlong_36 rfl rfl ?_
    refine E_icmp_ge (tgt := 57) dX0_allAlong_28 (by decide) (fun c_1 => ?_) (fun c_1 => ?_)
    · have hf := pO_pos c_1 hf
      exact E_sub (ls' := [(0, .ref 1), (1, .int v1)]) ⟨rfl, rfl, trivial⟩ hf
    · have hf := pO_neg c_1 hf
      refine E_iload_n dX0_allAlong_31 rfl ?_
      refine E_aload_n dX0_allAlong_32 rfl ?_
      refine E_iload_n dX0_allAlong_33 rfl ?_
      refine E_callVI (st := [.int v1]) (c_X0_weighsAt l D dA ad S v2 (pO_bnd hf)) mf_X0_weighsAt rfl rfl gX0_allAlong_X0_weighsAt (pRc.of (ci := 0) rfl rfl) (by omega) rfl (Nat.le_of_ble_eq_true rfl) (by rfl) dX0_allAlong_34 (fun r2 h2 q2 => ?_)
      obtain ⟨S_2, rfl, hf⟩ := q2
      dsimp only at hf
      refine E_iconst (v := 2) dX0_allAlong_37 (by decide) ?_
      refine E_imul dX0_allAlong_38 ?_
      refine E_aload_n dX0_allAlong_39 rfl ?_
      refine E_getf (v := .ref 5) dX0_allAlong_40 fl_X0_allAlong_21 rfl rfl ?_
      refine E_getf (v := .ref 9) dX0_allAlong_43 fl_X0_allAlong_79 rfl rfl ?_
      refine E_iload_n dX0_allAlong_46 rfl ?_
      obtain ⟨hi_3, hf⟩ := pO_gd hf
      refine E_iald (n0 := 16) (f := S_2.2 5) dX0_allAlong_47 rfl (pin_in hi_3) ?_
      refine E_imul dX0_allAlong_48 ?_
      refine E_iadd dX0_allAlong_49 ?_
      refine E_istore_n (ls' := [(0, .ref 1), (1, .int (v1 + ((r2 * 2) * ((S_2.2 5) v2.toNatClampNeg)))), (2, .int v2)]) dX0_allAlong_50 (by decide) rfl ?_
      refine E_iinc (v := v2 + 1) (ls' := [(0, .ref 1), (1, .int (v1 + ((r2 * 2) * ((S_2.2 5) v2.toNatClampNeg)))), (2, .int (v2 + 1))]) dX0_allAlong_51 rfl rfl (by decide) rfl ?_
      refine E_goto (tgt := 20) dX0_allAlong_54 (by decide) ?_
      exact E_sub (ls' := [(0, .ref 1), (1, .int (v1 + ((r2 * 2) * ((S_2.2 5) v2.toNatClampNeg)))), (2, .int (v2 + 1))]) ⟨rfl, rfl, rfl, trivial⟩ (ih S_2 (v1 + ((r2 * 2) * ((S_2.2 5) v2.toNatClampNeg))) (v2 + 1) hf)
theorem fl_X0_allAlong_28 : pFL wsX0_allAlong RX0 28 0 2 := ⟨RX0, TX0, 3, hi_X0_allAlong_0, rfl, by decide, by decide +kernel⟩
theorem hi_X0_allAlong_8 : ∀ w ∈ u_ws RX8 TX8 4, w ∈ wsX0_allAlong := fun w h => of_decide_eq_true (List.all_eq_true.mp (by decide +kernel : (u_ws RX8 TX8 4).all (fun w => decide (w ∈ wsX0_allAlong)) = true) w h)
theorem fl_X0_allAlong_73 : pFL wsX0_allAlong RX0 73 8 3 := ⟨RX8, TX8, 4, hi_X0_allAlong_8, rfl, by decide, by decide +kernel⟩
theorem fl_X0_allAlong_82 : pFL wsX0_allAlong RX0 82 8 0 := ⟨RX8, TX8, 4, hi_X0_allAlong_8, rfl, by decide, by decide +kernel⟩
def g_X0_allAlong_59 : Nat → PS → Int32 → Int32 → Option ((Int32 × PS) ⊕ (PS × Int32))
  | 0, _, _, _ => none
  | fuel + 1, S, v1, v2 =>
    if (4 : Int32) ≤ v2 then (some (.inr (S, v1))) else (pgd (pin v2 4) (pgd (pin v2 4) (g_X0_allAlong_59 fuel S (v1 + ((((S.2 11) v2.toNatClampNeg) * 2) * ((S.2 8) v2.toNatClampNeg))) (v2 + 1))))
set_option maxRecDepth 100000 in
theorem l_X0_allAlong_59 (l : Launch) (D : va_G) (dA : Nat → ClassId) (ad : Nat → Nat) (d : Nat) (hd : 2 ≤ d) {Q : Int32 → List PC → Prop} : ∀ (fuel : Nat) (S : PS) (v1 : Int32) (v2 : Int32), pO (g_X0_allAlong_59 fuel S v1 v2) (fun y => match y with
    | .inl x => Q x.1 (hX x.2)
    | .inr w => Ev l D dA ad wsX0_allAlong cX0_allAlong RX0 3 (some .int) d 52 (pKi D dA ad 52 Q) 94 [(1, .int w.2)] [] (hX w.1)) → Ev l D dA ad wsX0_allAlong cX0_allAlong RX0 3 (some .int) d 52 (pKi D dA ad 52 Q) 59 [(0, .ref 1), (1, .int v1), (2, .int v2)] [] (hX S) := by
  intro fuel
  induction fuel with
  | zero =>
    intro S v1 v2 hf
    exact hf.elim
  | succ fuel ih =>
    intro S v1 v2 hf
    rw [g_X0_allAlong_59] at hf
    refine E_iload_n dX0_allAlong_59 rfl ?_
    refine E_iconst (v := 4) dX0_allAlong_60 (by decide) ?_
    refine E_icmp_ge (tgt := 94) dX0_allAlong_61 (by decide) (fun c_5 => ?_) (fun c_5 => ?_)
    · have hf := pO_pos c_5 hf
      exact E_sub (ls' := [(1, .int v1)]) ⟨rfl, trivial⟩ hf
    · have hf := pO_neg c_5 hf
      refine E_iload_n dX0_allAlong_64 rfl ?_
      refine E_aload_n dX0_allAlong_65 rfl ?_
      refine E_getf (v := .ref 12) dX0_allAlong_66 fl_X0_allAlong_28 rfl rfl ?_
      refine E_getf (v := .ref 16) dX0_allAlong_69 fl_X0_allAlong_73 rfl rfl ?_
      refine E_iload_n dX0_allAlong_72 rfl ?_
      obtain ⟨hi_6, hf⟩ := pO_gd hf
      refine E_iald (n0 := 4) (f := S.2 11) dX0_allAlong_73 rfl (pin_in hi_6) ?_
      refine E_iconst (v := 2) dX0_allAlong_74 (by decide) ?_
      refine E_imul dX0_allAlong_75 ?_
      refine E_aload_n dX0_allAlong_76 rfl ?_
      refine E_getf (v := .ref 12) dX0_allAlong_77 fl_X0_allAlong_28 rfl rfl ?_
      refine E_getf (v := .ref 13) dX0_allAlong_80 fl_X0_allAlong_82 rfl rfl ?_
      refine E_iload_n dX0_allAlong_83 rfl ?_
      obtain ⟨hi_7, hf⟩ := pO_gd hf
      refine E_iald (n0 := 4) (f := S.2 8) dX0_allAlong_84 rfl (pin_in hi_7) ?_
      refine E_imul dX0_allAlong_85 ?_
      refine E_iadd dX0_allAlong_86 ?_
      refine E_istore_n (ls' := [(0, .ref 1), (1, .int (v1 + ((((S.2 11) v2.toNatClampNeg) * 2) * ((S.2 8) v2.toNatClampNeg)))), (2, .int v2)]) dX0_allAlong_87 (by decide) rfl ?_
      refine E_iinc (v := v2 + 1) (ls' := [(0, .ref 1), (1, .int (v1 + ((((S.2 11) v2.toNatClampNeg) * 2) * ((S.2 8) v2.toNatClampNeg)))), (2, .int (v2 + 1))]) dX0_allAlong_88 rfl rfl (by decide) rfl ?_
      refine E_goto (tgt := 59) dX0_allAlong_91 (by decide) ?_
      exact E_sub (ls' := [(0, .ref 1), (1, .int (v1 + ((((S.2 11) v2.toNatClampNeg) * 2) * ((S.2 8) v2.toNatClampNeg)))), (2, .int (v2 + 1))]) ⟨rfl, rfl, rfl, trivial⟩ (ih S (v1 + ((((S.2 11) v2.toNatClampNeg) * 2) * ((S.2 8) v2.toNatClampNeg))) (v2 + 1) hf)
theorem mf_X0_allAlong : pMF yX0_allAlong wsX0_allAlong cX0_allAlong 3 (some .int) 0 := ⟨⟨_, rfl⟩, by decide +kernel, by decide, by decide +kernel, by decide +kernel, by decide +kernel⟩
def f_X0_allAlong (S : PS) : Option (Int32 × PS) :=
  plp (g_X0_allAlong_20 pfuel S ((S.1 2) * ((S.1 0) - 1)) 0) (fun w => (fun (S_4 : PS) (v1_4 : Int32) => plp (g_X0_allAlong_59 pfuel S_4 v1_4 0) (fun w => (fun (S_8 : PS) (v1_8 : Int32) => some (v1_8, S_8)) w.1 w.2)) w.1 w.2)
set_option maxRecDepth 100000 in
theorem c_X0_allAlong (l : Launch) (D : va_G) (dA : Nat → ClassId) (ad : Nat → Nat) (S : PS) {P : (Int32 × PS) → Prop} (hf : pO (f_X0_allAlong S) P) : CtI l D dA ad yX0_allAlong wsX0_allAlong 2 [.ref 1] (hX S) (fun r h' => ∃ S' : PS, h' = hX S' ∧ P (r, S')) := by
  refine CtI_of mf_X0_allAlong rfl rfl (Nat.le_of_ble_eq_true rfl) rfl (hX_len S) ?_
  unfold f_X0_allAlong at hf
  refine E_aload_n dX0_allAlong_0 rfl ?_
  refine E_getf (v := .ref 2) dX0_allAlong_1 fl_X0_allAlong_12 rfl rfl ?_
  refine E_getf (v := .int (S.1 2)) dX0_allAlong_4 fl_X0_allAlong_67 rfl rfl ?_
  refine E_aload_n dX0_allAlong_7 rfl ?_
  refine E_getf (v := .ref 2) dX0_allAlong_8 fl_X0_allAlong_12 rfl rfl ?_
  refine E_getf (v := .int (S.1 0)) dX0_allAlong_11 fl_X0_allAlong_76 rfl rfl ?_
  refine E_iconst (v := 1) dX0_allAlong_14 (by decide) ?_
  refine E_isub dX0_allAlong_15 ?_
  refine E_imul dX0_allAlong_16 ?_
  refine E_istore_n (ls' := [(0, .ref 1), (1, .int ((S.1 2) * ((S.1 0) - 1)))]) dX0_allAlong_17 (by decide) rfl ?_
  refine E_iconst (v := 0) dX0_allAlong_18 (by decide) ?_
  refine E_istore_n (ls' := [(0, .ref 1), (1, .int ((S.1 2) * ((S.1 0) - 1))), (2, .int 0)]) dX0_allAlong_19 (by decide) rfl ?_
  refine E_sub (ls' := [(0, .ref 1), (1, .int ((S.1 2) * ((S.1 0) - 1))), (2, .int 0)]) ⟨rfl, rfl, rfl, trivial⟩ ?_
  refine l_X0_allAlong_20 l D dA ad _ (by omega) pfuel S ((S.1 2) * ((S.1 0) - 1)) 0 (pO_lp hf (fun x hx => ⟨x.2, rfl, hx⟩) (fun w4 hf => ?_))
  obtain ⟨S_4, v1_4⟩ := w4
  dsimp only at hf ⊢
  refine E_iconst (v := 0) dX0_allAlong_57 (by decide) ?_
  refine E_istore_n (ls' := [(0, .ref 1), (1, .int v1_4), (2, .int 0)]) dX0_allAlong_58 (by decide) rfl ?_
  refine E_sub (ls' := [(0, .ref 1), (1, .int v1_4), (2, .int 0)]) ⟨rfl, rfl, rfl, trivial⟩ ?_
  refine l_X0_allAlong_59 l D dA ad _ (by omega) pfuel S_4 v1_4 0 (pO_lp hf (fun x hx => ⟨x.2, rfl, hx⟩) (fun w8 hf => ?_))
  obtain ⟨S_8, v1_8⟩ := w8
  dsimp only at hf ⊢
  refine E_iload_n dX0_allAlong_94 rfl ?_
  exact E_iret rfl dX0_allAlong_95 ⟨_, rfl, hf⟩
theorem mf_X0_allAside : pMF yX0_allAside wsX0_allAside cX0_allAside 1 (some .int) 0 := ⟨⟨_, rfl⟩, by decide +kernel, by decide, by decide +kernel, by decide +kernel, by decide +kernel⟩
def f_X0_allAside (S : PS) : Option (Int32 × PS) :=
  pbnd (f_X0_asideRolledBy S 0) (fun r1 S_1 => some (r1, S_1))
set_option maxRecDepth 100000 in
theorem c_X0_allAside (l : Launch) (D : va_G) (dA : Nat → ClassId) (ad : Nat → Nat) (S : PS) {P : (Int32 × PS) → Prop} (hf : pO (f_X0_allAside S) P) : CtI l D dA ad yX0_allAside wsX0_allAside 3 [.ref 1] (hX S) (fun r h' => ∃ S' : PS, h' = hX S' ∧ P (r, S')) := by
  refine CtI_of mf_X0_allAside rfl rfl (Nat.le_of_ble_eq_true rfl) rfl (hX_len S) ?_
  unfold f_X0_allAside at hf
  refine E_aload_n dX0_allAside_0 rfl ?_
  refine E_iconst (v := 0) dX0_allAside_1 (by decide) ?_
  refine E_callVI (st := []) (c_X0_asideRolledBy l D dA ad S 0 (pO_bnd hf)) mf_X0_asideRolledBy rfl rfl gX0_allAside_X0_asideRolledBy (pRc.of (ci := 0) rfl rfl) (by omega) rfl (Nat.le_of_ble_eq_true rfl) (by rfl) dX0_allAside_2 (fun r1 h1 q1 => ?_)
  obtain ⟨S_1, rfl, hf⟩ := q1
  dsimp only at hf
  exact E_iret rfl dX0_allAside_5 ⟨_, rfl, hf⟩
theorem hi_X11_told_0 : ∀ w ∈ u_ws RX0 TX0 3, w ∈ wsX11_told := fun w h => of_decide_eq_true (List.all_eq_true.mp (by decide +kernel : (u_ws RX0 TX0 3).all (fun w => decide (w ∈ wsX11_told)) = true) w h)
theorem fl_X11_told_131 : pFL wsX11_told RX11 131 0 1 := ⟨RX0, TX0, 3, hi_X11_told_0, rfl, by decide, by decide +kernel⟩
theorem hi_X11_told_1 : ∀ w ∈ u_ws RX1 TX1 7, w ∈ wsX11_told := fun w h => of_decide_eq_true (List.all_eq_true.mp (by decide +kernel : (u_ws RX1 TX1 7).all (fun w => decide (w ∈ wsX11_told)) = true) w h)
theorem fl_X11_told_140 : pFL wsX11_told RX11 140 1 0 := ⟨RX1, TX1, 7, hi_X11_told_1, rfl, by decide, by decide +kernel⟩
theorem fl_X11_told_182 : pFL wsX11_told RX11 182 0 2 := ⟨RX0, TX0, 3, hi_X11_told_0, rfl, by decide, by decide +kernel⟩
def g_X8_howManySlack_4 : Nat → PS → Int32 → Int32 → Option ((Int32 × PS) ⊕ (PS × Int32))
  | 0, _, _, _ => none
  | fuel + 1, S, v1, v2 =>
    if (4 : Int32) ≤ v2 then (some (.inr (S, v1))) else (pbnd (f_X8_isSlack S v2) (fun r2 S_2 => if r2 = (0 : Int32) then (g_X8_howManySlack_4 fuel S_2 (v1 + 0) (v2 + 1)) else (g_X8_howManySlack_4 fuel S_2 (v1 + 1) (v2 + 1))))
set_option maxRecDepth 100000 in
theorem l_X8_howManySlack_4 (l : Launch) (D : va_G) (dA : Nat → ClassId) (ad : Nat → Nat) (d : Nat) (hd : 1 ≤ d) {Q : Int32 → List PC → Prop} : ∀ (fuel : Nat) (S : PS) (v1 : Int32) (v2 : Int32), pO (g_X8_howManySlack_4 fuel S v1 v2) (fun y => match y with
    | .inl x => Q x.1 (hX x.2)
    | .inr w => Ev l D dA ad wsX8_howManySlack cX8_howManySlack RX8 3 (some .int) d 52 (pKi D dA ad 52 Q) 31 [(1, .int w.2)] [] (hX w.1)) → Ev l D dA ad wsX8_howManySlack cX8_howManySlack RX8 3 (some .int) d 52 (pKi D dA ad 52 Q) 4 [(0, .ref 12), (1, .int v1), (2, .int v2)] [] (hX S) := by
  intro fuel
  induction fuel with
  | zero =>
    intro S v1 v2 hf
    exact hf.elim
  | succ fuel ih =>
    intro S v1 v2 hf
    rw [g_X8_howManySlack_4] at hf
    refine E_iload_n dX8_howManySlack_4 rfl ?_
    refine E_iconst (v := 4) dX8_howManySlack_5 (by decide) ?_
    refine E_icmp_ge (tgt := 31) dX8_howManySlack_6 (by decide) (fun c_1 => ?_) (fun c_1 => ?_)
    · have hf := pO_pos c_1 hf
      exact E_sub (ls' := [(1, .int v1)]) ⟨rfl, trivial⟩ hf
    · have hf := pO_neg c_1 hf
      refine E_iload_n dX8_howManySlack_9 rfl ?_
      refine E_aload_n dX8_howManySlack_10 rfl ?_
      refine E_iload_n dX8_howManySlack_11 rfl ?_
      refine E_callVI (st := [.int v1]) (c_X8_isSlack l D dA ad S v2 (pO_bnd hf)) mf_X8_isSlack rfl rfl gX8_howManySlack_X8_isSlack (pRc.of (ci := 8) rfl rfl) (by omega) rfl (Nat.le_of_ble_eq_true rfl) (by rfl) dX8_howManySlack_12 (fun r2 h2 q2 => ?_)
      obtain ⟨S_2, rfl, hf⟩ := q2
      dsimp only at hf
      refine E_if_eq (tgt := 22) dX8_howManySlack_15 (by decide) (fun c_3 => ?_) (fun c_3 => ?_)
      · have hf := pO_pos c_3 hf
        refine E_iconst (v := 0) dX8_howManySlack_22 (by decide) ?_
        refine E_iadd dX8_howManySlack_23 ?_
        refine E_istore_n (ls' := [(0, .ref 12), (1, .int (v1 + 0)), (2, .int v2)]) dX8_howManySlack_24 (by decide) rfl ?_
        refine E_iinc (v := v2 + 1) (ls' := [(0, .ref 12), (1, .int (v1 + 0)), (2, .int (v2 + 1))]) dX8_howManySlack_25 rfl rfl (by decide) rfl ?_
        refine E_goto (tgt := 4) dX8_howManySlack_28 (by decide) ?_
        exact E_sub (ls' := [(0, .ref 12), (1, .int (v1 + 0)), (2, .int (v2 + 1))]) ⟨rfl, rfl, rfl, trivial⟩ (ih S_2 (v1 + 0) (v2 + 1) hf)
      · have hf := pO_neg c_3 hf
        refine E_iconst (v := 1) dX8_howManySlack_18 (by decide) ?_
        refine E_goto (tgt := 23) dX8_howManySlack_19 (by decide) ?_
        refine E_iadd dX8_howManySlack_23 ?_
        refine E_istore_n (ls' := [(0, .ref 12), (1, .int (v1 + 1)), (2, .int v2)]) dX8_howManySlack_24 (by decide) rfl ?_
        refine E_iinc (v := v2 + 1) (ls' := [(0, .ref 12), (1, .int (v1 + 1)), (2, .int (v2 + 1))]) dX8_howManySlack_25 rfl rfl (by decide) rfl ?_
        refine E_goto (tgt := 4) dX8_howManySlack_28 (by decide) ?_
        exact E_sub (ls' := [(0, .ref 12), (1, .int (v1 + 1)), (2, .int (v2 + 1))]) ⟨rfl, rfl, rfl, trivial⟩ (ih S_2 (v1 + 1) (v2 + 1) hf)
theorem mf_X8_howManySlack : pMF yX8_howManySlack wsX8_howManySlack cX8_howManySlack 3 (some .int) 0 := ⟨⟨_, rfl⟩, by decide +kernel, by decide, by decide +kernel, by decide +kernel, by decide +kernel⟩
def f_X8_howManySlack (S : PS) : Option (Int32 × PS) :=
  plp (g_X8_howManySlack_4 pfuel S 0 0) (fun w => (fun (S_4 : PS) (v1_4 : Int32) => some (v1_4, S_4)) w.1 w.2)
set_option maxRecDepth 100000 in
theorem c_X8_howManySlack (l : Launch) (D : va_G) (dA : Nat → ClassId) (ad : Nat → Nat) (S : PS) {P : (Int32 × PS) → Prop} (hf : pO (f_X8_howManySlack S) P) : CtI l D dA ad yX8_howManySlack wsX8_howManySlack 1 [.ref 12] (hX S) (fun r h' => ∃ S' : PS, h' = hX S' ∧ P (r, S')) := by
  refine CtI_of mf_X8_howManySlack rfl rfl (Nat.le_of_ble_eq_true rfl) rfl (hX_len S) ?_
  unfold f_X8_howManySlack at hf
  refine E_iconst (v := 0) dX8_howManySlack_0 (by decide) ?_
  refine E_istore_n (ls' := [(0, .ref 12), (1, .int 0)]) dX8_howManySlack_1 (by decide) rfl ?_
  refine E_iconst (v := 0) dX8_howManySlack_2 (by decide) ?_
  refine E_istore_n (ls' := [(0, .ref 12), (1, .int 0), (2, .int 0)]) dX8_howManySlack_3 (by decide) rfl ?_
  refine E_sub (ls' := [(0, .ref 12), (1, .int 0), (2, .int 0)]) ⟨rfl, rfl, rfl, trivial⟩ ?_
  refine l_X8_howManySlack_4 l D dA ad _ (by omega) pfuel S 0 0 (pO_lp hf (fun x hx => ⟨x.2, rfl, hx⟩) (fun w4 hf => ?_))
  obtain ⟨S_4, v1_4⟩ := w4
  dsimp only at hf ⊢
  refine E_iload_n dX8_howManySlack_31 rfl ?_
  exact E_iret rfl dX8_howManySlack_32 ⟨_, rfl, hf⟩
