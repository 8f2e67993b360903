theorem fl_X11_told_82 : pFL wsX11_told RX11 82 0 0 := ⟨RX0, TX0, 3, hi_X11_told_0, rfl, by decide, by decide +kernel⟩
theorem hi_X2_leastRise_2 : ∀ w ∈ u_ws RX2 TX2 6, w ∈ wsX2_leastRise := fun w h => of_decide_eq_true (List.all_eq_true.mp (by decide +kernel : (u_ws RX2 TX2 6).all (fun w => decide (w ∈ wsX2_leastRise)) = true) w h)
theorem fl_X2_leastRise_28 : pFL wsX2_leastRise RX2 28 2 5 := ⟨RX2, TX2, 6, hi_X2_leastRise_2, rfl, by decide, by decide +kernel⟩
theorem fl_X2_leastRise_9 : pFL wsX2_leastRise RX2 9 2 0 := ⟨RX2, TX2, 6, hi_X2_leastRise_2, rfl, by decide, by decide +kernel⟩
def g_X2_leastRise_9 : Nat → PS → Int32 → Int32 → Option ((Int32 × PS) ⊕ (PS × Int32))
  | 0, _, _, _ => none
  | fuel + 1, S, v1, v2 =>
    if (S.1 0) ≤ v2 then (some (.inr (S, v1))) else (pgd (pin v2 10) (g_X2_leastRise_9 fuel S (pmin v1 ((S.2 1) v2.toNatClampNeg)) (v2 + 1)))
set_option maxRecDepth 100000 in
theorem l_X2_leastRise_9 (l : Launch) (D : va_G) (dA : Nat → ClassId) (ad : Nat → Nat) (d : Nat) (hd : 1 ≤ d) {Q : Int32 → List PC → Prop} : ∀ (fuel : Nat) (S : PS) (v1 : Int32) (v2 : Int32), pO (g_X2_leastRise_9 fuel S v1 v2) (fun y => match y with
    | .inl x => Q x.1 (hX x.2)
    | .inr w => Ev l D dA ad wsX2_leastRise cX2_leastRise RX2 3 (some .int) d 52 (pKi D dA ad 52 Q) 34 [(1, .int w.2)] [] (hX w.1)) → Ev l D dA ad wsX2_leastRise cX2_leastRise RX2 3 (some .int) d 52 (pKi D dA ad 52 Q) 9 [(0, .ref 2), (1, .int v1), (2, .int v2)] [] (hX S) := by
  intro fuel
  induction fuel with
  | zero =>
    intro S v1 v2 hf
    exact hf.elim
  | succ fuel ih =>
    intro S v1 v2 hf
    rw [g_X2_leastRise_9] at hf
    refine E_iload_n dX2_leastRise_9 rfl ?_
    refine E_aload_n dX2_leastRise_10 rfl ?_
    refine E_getf (v := .int (S.1 0)) dX2_leastRise_11 fl_X2_leastRise_9 rfl rfl ?_
    refine E_icmp_ge (tgt := 34) dX2_leastRise_14 (by decide) (fun c_1 => ?_) (fun c_1 => ?_)
    · have hf := pO_pos c_1 hf
      exact E_sub (ls' := [(1, .int v1)]) ⟨rfl, trivial⟩ hf
    · have hf := pO_neg c_1 hf
      refine E_iload_n dX2_leastRise_17 rfl ?_
      refine E_aload_n dX2_leastRise_18 rfl ?_
      refine E_getf (v := .ref 4) dX2_leastRise_19 fl_X2_leastRise_28 rfl rfl ?_
      refine E_iload_n dX2_leastRise_22 rfl ?_
      obtain ⟨hi_2, hf⟩ := pO_gd hf
      refine E_iald (n0 := 10) (f := S.2 1) dX2_leastRise_23 rfl (pin_in hi_2) ?_
      refine E_mmin (by decide +kernel) (by decide +kernel) (by decide +kernel) (by decide +kernel) (by omega) (Nat.le_of_ble_eq_true rfl) (by rfl) dX2_leastRise_24 ?_
      refine E_istore_n (ls' := [(0, .ref 2), (1, .int (pmin v1 ((S.2 1) v2.toNatClampNeg))), (2, .int v2)]) dX2_leastRise_27 (by decide) rfl ?_
      refine E_iinc (v := v2 + 1) (ls' := [(0, .ref 2), (1, .int (pmin v1 ((S.2 1) v2.toNatClampNeg))), (2, .int (v2 + 1))]) dX2_leastRise_28 rfl rfl (by decide) rfl ?_
      refine E_goto (tgt := 9) dX2_leastRise_31 (by decide) ?_
      exact E_sub (ls' := [(0, .ref 2), (1, .int (pmin v1 ((S.2 1) v2.toNatClampNeg))), (2, .int (v2 + 1))]) ⟨rfl, rfl, rfl, trivial⟩ (ih S (pmin v1 ((S.2 1) v2.toNatClampNeg)) (v2 + 1) hf)
theorem mf_X2_leastRise : pMF yX2_leastRise wsX2_leastRise cX2_leastRise 3 (some .int) 0 := ⟨⟨_, rfl⟩, by decide +kernel, by decide, by decide +kernel, by decide +kernel, by decide +kernel⟩
def f_X2_leastRise (S : PS) : Option (Int32 × PS) :=
  plp (g_X2_leastRise_9 pfuel S ((S.2 1) 0) 1) (fun w => (fun (S_3 : PS) (v1_3 : Int32) => some (v1_3, S_3)) w.1 w.2)
set_option maxRecDepth 100000 in
theorem c_X2_leastRise (l : Launch) (D : va_G) (dA : Nat → ClassId) (ad : Nat → Nat) (S : PS) {P : (Int32 × PS) → Prop} (hf : pO (f_X2_leastRise S) P) : CtI l D dA ad yX2_leastRise wsX2_leastRise 1 [.ref 2] (hX S) (fun r h' => ∃ S' : PS, h' = hX S' ∧ P (r, S')) := by
  refine CtI_of mf_X2_leastRise rfl rfl (Nat.le_of_ble_eq_true rfl) rfl (hX_len S) ?_
  unfold f_X2_leastRise at hf
  refine E_aload_n dX2_leastRise_0 rfl ?_
  refine E_getf (v := .ref 4) dX2_leastRise_1 fl_X2_leastRise_28 rfl rfl ?_
  refine E_iconst (v := 0) dX2_leastRise_4 (by decide) ?_
  refine E_iald (n0 := 10) (f := S.2 1) dX2_leastRise_5 rfl (pin_in (by decide)) ?_
  refine E_val (y := (S.2 1) 0) rfl ?_
  refine E_istore_n (ls' := [(0, .ref 2), (1, .int ((S.2 1) 0))]) dX2_leastRise_6 (by decide) rfl ?_
  refine E_iconst (v := 1) dX2_leastRise_7 (by decide) ?_
  refine E_istore_n (ls' := [(0, .ref 2), (1, .int ((S.2 1) 0)), (2, .int 1)]) dX2_leastRise_8 (by decide) rfl ?_
  refine E_sub (ls' := [(0, .ref 2), (1, .int ((S.2 1) 0)), (2, .int 1)]) ⟨rfl, rfl, rfl, trivial⟩ ?_
  refine l_X2_leastRise_9 l D dA ad _ (by omega) pfuel S ((S.2 1) 0) 1 (pO_lp hf (fun x hx => ⟨x.2, rfl, hx⟩) (fun w3 hf => ?_))
  obtain ⟨S_3, v1_3⟩ := w3
  dsimp only at hf ⊢
  refine E_iload_n dX2_leastRise_34 rfl ?_
  exact E_iret rfl dX2_leastRise_35 ⟨_, rfl, hf⟩
theorem mf_X11_told : pMF yX11_told wsX11_told cX11_told 2 (some .int) 1 := ⟨⟨_, rfl⟩, by decide +kernel, by decide, by decide +kernel, by decide +kernel, by decide +kernel⟩
def f_X11_told (S : PS) (v1 : Int32) : Option (Int32 × PS) :=
  if v1 = (0 : Int32) then (pbnd (f_X0_allWeight S) (fun r2 S_2 => some (r2, S_2))) else (if v1 = (1 : Int32) then (pbnd (f_X0_allAlong S) (fun r4 S_4 => some (r4, S_4))) else (if v1 = (2 : Int32) then (pbnd (f_X0_allAside S) (fun r6 S_6 => some (r6, S_6))) else (if v1 = (3 : Int32) then (pbnd (f_X0_allAloft S) (fun r8 S_8 => some (r8, S_8))) else (if v1 = (4 : Int32) then (pbnd (f_X0_allRighting S) (fun r10 S_10 => some (r10, S_10))) else (if v1 = (5 : Int32) then (some (S.1 4, S)) else (if v1 = (6 : Int32) then (pbnd (f_X8_howManySlack S) (fun r13 S_13 => some (r13, S_13))) else (if v1 = (7 : Int32) then (pbnd (f_X2_leastRise S) (fun r15 S_15 => some (r15, S_15))) else (some ((-2147483648), S)))))))))
set_option maxRecDepth 100000 in
theorem c_X11_told (l : Launch) (D : va_G) (dA : Nat → ClassId) (ad : Nat → Nat) (S : PS) (v1 : Int32) {P : (Int32 × PS) → Prop} (hf : pO (f_X11_told S v1) P) : CtI l D dA ad yX11_told wsX11_told 5 [.ref 0, .int v1] (hX S) (fun r h' => ∃ S' : PS, h' = hX S' ∧ P (r, S')) := by
  refine CtI_of mf_X11_told rfl rfl (Nat.le_of_ble_eq_true rfl) rfl (hX_len S) ?_
  unfold f_X11_told at hf
  refine E_iload_n dX11_told_0 rfl ?_
  by_cases k_1 : v1 = (0 : Int32)
  · have hf := pO_pos k_1 hf
    refine E_tableIn (off := 47) (tgt := 48) dX11_told_1 (by rw [k_1]; decide) (by rw [k_1]; decide) (by rw [k_1]; rfl) (by decide) ?_
    refine E_aload_n dX11_told_48 rfl ?_
    refine E_getf (v := .ref 1) dX11_told_49 fl_X11_told_12 rfl rfl ?_
    refine E_callVI (st := []) (c_X0_allWeight l D dA ad S (pO_bnd hf)) mf_X0_allWeight rfl rfl gX11_told_X0_allWeight (pRc.of (ci := 0) rfl rfl) (by omega) rfl (Nat.le_of_ble_eq_true rfl) (by rfl) dX11_told_52 (fun r2 h2 q2 => ?_)
    obtain ⟨S_2, rfl, hf⟩ := q2
    dsimp only at hf
    exact E_iret rfl dX11_told_55 ⟨_, rfl, hf⟩
  · have hf := pO_neg k_1 hf
    by_cases k_3 : v1 = (1 : Int32)
    · have hf := pO_pos k_3 hf
      refine E_tableIn (off := 55) (tgt := 56) dX11_told_1 (by rw [k_3]; decide) (by rw [k_3]; decide) (by rw [k_3]; rfl) (by decide) ?_
      refine E_aload_n dX11_told_56 rfl ?_
      refine E_getf (v := .ref 1) dX11_told_57 fl_X11_told_12 rfl rfl ?_
      refine E_callVI (st := []) (c_X0_allAlong l D dA ad S (pO_bnd hf)) mf_X0_allAlong rfl rfl gX11_told_X0_allAlong (pRc.of (ci := 0) rfl rfl) (by omega) rfl (Nat.le_of_ble_eq_true rfl) (by rfl) dX11_told_60 (fun r4 h4 q4 => ?_)
      obtain ⟨S_4, rfl, hf⟩ := q4
      dsimp only at hf
      exact E_iret rfl dX11_told_63 ⟨_, rfl, hf⟩
    · have hf := pO_neg k_3 hf
      by_cases k_5 : v1 = (2 : Int32)
      · have hf := pO_pos k_5 hf
        refine E_tableIn (off := 63) (tgt := 64) dX11_told_1 (by rw [k_5]; decide) (by rw [k_5]; decide) (by rw [k_5]; rfl) (by decide) ?_
        refine E_aload_n dX11_told_64 rfl ?_
        refine E_getf (v := .ref 1) dX11_told_65 fl_X11_told_12 rfl rfl ?_
        refine E_callVI (st := []) (c_X0_allAside l D dA ad S (pO_bnd hf)) mf_X0_allAside rfl rfl gX11_told_X0_allAside (pRc.of (ci := 0) rfl rfl) (by omega) rfl (Nat.le_of_ble_eq_true rfl) (by rfl) dX11_told_68 (fun r6 h6 q6 => ?_)
        obtain ⟨S_6, rfl, hf⟩ := q6
        dsimp only at hf
        exact E_iret rfl dX11_told_71 ⟨_, rfl, hf⟩
      · have hf := pO_neg k_5 hf
        by_cases k_7 : v1 = (3 : Int32)
        · have hf := pO_pos k_7 hf
          refine E_tableIn (off := 71) (tgt := 72) dX11_told_1 (by rw [k_7]; decide) (by rw [k_7]; decide) (by rw [k_7]; rfl) (by decide) ?_
          refine E_aload_n dX11_told_72 rfl ?_
          refine E_getf (v := .ref 1) dX11_told_73 fl_X11_told_12 rfl rfl ?_
          refine E_callVI (st := []) (c_X0_allAloft l D dA ad S (pO_bnd hf)) mf_X0_allAloft rfl rfl gX11_told_X0_allAloft (pRc.of (ci := 0) rfl rfl) (by omega) rfl (Nat.le_of_ble_eq_true rfl) (by rfl) dX11_told_76 (fun r8 h8 q8 => ?_)
          obtain ⟨S_8, rfl, hf⟩ := q8
          dsimp only at hf
          exact E_iret rfl dX11_told_79 ⟨_, rfl, hf⟩
        · have hf := pO_neg k_7 hf
          by_cases k_9 : v1 = (4 : Int32)
          · have hf := pO_pos k_9 hf
            refine E_tableIn (off := 79) (tgt := 80) dX11_told_1 (by rw [k_9]; decide) (by rw [k_9]; decide) (by rw [k_9]; rfl) (by decide) ?_
            refine E_aload_n dX11_told_80 rfl ?_
            refine E_getf (v := .ref 1) dX11_told_81 fl_X11_told_12 rfl rfl ?_
            refine E_callVI (st := []) (c_X0_allRighting l D dA ad S (pO_bnd hf)) mf_X0_allRighting rfl rfl gX11_told_X0_allRighting (pRc.of (ci := 0) rfl rfl) (by omega) rfl (Nat.le_of_ble_eq_true rfl) (by rfl) dX11_told_84 (fun r10 h10 q10 => ?_)
            obtain ⟨S_10, rfl, hf⟩ := q10
            dsimp only at hf
            exact E_iret rfl dX11_told_87 ⟨_, rfl, hf⟩
          · have hf := pO_neg k_9 hf
            by_cases k_11 : v1 = (5 : Int32)
            · have hf := pO_pos k_11 hf
              refine E_tableIn (off := 87) (tgt := 88) dX11_told_1 (by rw [k_11]; decide) (by rw [k_11]; decide) (by rw [k_11]; rfl) (by decide) ?_
              refine E_aload_n dX11_told_88 rfl ?_
              refine E_getf (v := .ref 1) dX11_told_89 fl_X11_told_12 rfl rfl ?_
              refine E_getf (v := .ref 5) dX11_told_92 fl_X11_told_131 rfl rfl ?_
              refine E_getf (v := .int (S.1 4)) dX11_told_95 fl_X11_told_140 rfl rfl ?_
              exact E_iret rfl dX11_told_98 ⟨_, rfl, hf⟩
            · have hf := pO_neg k_11 hf
              by_cases k_12 : v1 = (6 : Int32)
              · have hf := pO_pos k_12 hf
                refine E_tableIn (off := 98) (tgt := 99) dX11_told_1 (by rw [k_12]; decide) (by rw [k_12]; decide) (by rw [k_12]; rfl) (by decide) ?_
                refine E_aload_n dX11_told_99 rfl ?_
                refine E_getf (v := .ref 1) dX11_told_100 fl_X11_told_12 rfl rfl ?_
                refine E_getf (v := .ref 12) dX11_told_103 fl_X11_told_182 rfl rfl ?_
                refine E_callVI (st := []) (c_X8_howManySlack l D dA ad S (pO_bnd hf)) mf_X8_howManySlack rfl rfl gX11_told_X8_howManySlack (pRc.of (ci := 8) rfl rfl) (by omega) rfl (Nat.le_of_ble_eq_true rfl) (by rfl) dX11_told_106 (fun r13 h13 q13 => ?_)
                obtain ⟨S_13, rfl, hf⟩ := q13
                dsimp only at hf
                exact E_iret rfl dX11_told_109 ⟨_, rfl, hf⟩
              · have hf := pO_neg k_12 hf
                by_cases k_14 : v1 = (7 : Int32)
                · have hf := pO_pos k_14 hf
                  refine E_tableIn (off := 109) (tgt := 110) dX11_told_1 (by rw [k_14]; decide) (by rw [k_14]; decide) (by rw [k_14]; rfl) (by decide) ?_
                  refine E_aload_n dX11_told_110 rfl ?_
                  refine E_getf (v := .ref 1) dX11_told_111 fl_X11_told_12 rfl rfl ?_
                  refine E_getf (v := .ref 2) dX11_told_114 fl_X11_told_82 rfl rfl ?_
                  refine E_callVI (st := []) (c_X2_leastRise l D dA ad S (pO_bnd hf)) mf_X2_leastRise rfl rfl gX11_told_X2_leastRise (pRc.of (ci := 2) rfl rfl) (by omega) rfl (Nat.le_of_ble_eq_true rfl) (by rfl) dX11_told_117 (fun r15 h15 q15 => ?_)
                  obtain ⟨S_15, rfl, hf⟩ := q15
                  dsimp only at hf
                  exact E_iret rfl dX11_told_120 ⟨_, rfl, hf⟩
                · have hf := pO_neg k_14 hf
                  refine E_tableOut (tgt := 121) dX11_told_1 (by have z0 := pti k_1 (by decide : (0 : Int32).toInt = 0); have z1 := pti k_3 (by decide : (1 : Int32).toInt = 1); have z2 := pti k_5 (by decide : (2 : Int32).toInt = 2); have z3 := pti k_7 (by decide : (3 : Int32).toInt = 3); have z4 := pti k_9 (by decide : (4 : Int32).toInt = 4); have z5 := pti k_11 (by decide : (5 : Int32).toInt = 5); have z6 := pti k_12 (by decide : (6 : Int32).toInt = 6); have z7 := pti k_14 (by decide : (7 : Int32).toInt = 7); omega) (by decide) ?_
                  refine E_ldc (v := (-2147483648)) dX11_told_121 (by decide +kernel) ?_
                  exact E_iret rfl dX11_told_123 ⟨_, rfl, hf⟩
theorem hi_X11_water_11 : ∀ w ∈ u_ws RX11 TX11 10, w ∈ wsX11_water := fun w h => of_decide_eq_true (List.all_eq_true.mp (by decide +kernel : (u_ws RX11 TX11 10).all (fun w => decide (w ∈ wsX11_water)) = true) w h)
theorem fl_X11_water_12 : pFL wsX11_water RX11 12 11 0 := ⟨RX11, TX11, 10, hi_X11_water_11, rfl, by decide, by decide +kernel⟩
theorem hi_X11_water_0 : ∀ w ∈ u_ws RX0 TX0 3, w ∈ wsX11_water := fun w h => of_decide_eq_true (List.all_eq_true.mp (by decide +kernel : (u_ws RX0 TX0 3).all (fun w => decide (w ∈ wsX11_water)) = true) w h)
theorem fl_X11_water_82 : pFL wsX11_water RX11 82 0 0 := ⟨RX0, TX0, 3, hi_X11_water_0, rfl, by decide, by decide +kernel⟩
theorem mf_X11_water : pMF yX11_water wsX11_water cX11_water 3 (some .int) 2 := ⟨⟨_, rfl⟩, by decide +kernel, by decide, by decide +kernel, by decide +kernel, by decide +kernel⟩
def f_X11_water (S : PS) (v1 : Int32) (v2 : Int32) : Option (Int32 × PS) :=
  pbnd (f_X11_isWithin S v2 (-9999) 9999) (fun r1 S_1 => if r1 = (0 : Int32) then (some ((-2147483648), S_1)) else (if v1 = ((-1) : Int32) then (pbnd (f_X2_waterOfSlope S_1 v2 0) (fun r7 S_7 => some (r7, S_7))) else (pbnd (f_X2_hasSection S_1 v1) (fun r4 S_4 => if r4 = (0 : Int32) then (some ((-2147483648), S_4)) else (pbnd (f_X2_waterAt S_4 v1 v2) (fun r6 S_6 => some (r6, S_6)))))))
set_option maxRecDepth 100000 in
theorem c_X11_water (l : Launch) (D : va_G) (dA : Nat → ClassId) (ad : Nat → Nat) (S : PS) (v1 : Int32) (v2 : Int32) {P : (Int32 × PS) → Prop} (hf : pO (f_X11_water S v1 v2) P) : CtI l D dA ad yX11_water wsX11_water 3 [.ref 0, .int v1, .int v2] (hX S) (fun r h' => ∃ S' : PS, h' = hX S' ∧ P (r, S')) := by
  refine CtI_of mf_X11_water rfl rfl (Nat.le_of_ble_eq_true rfl) rfl (hX_len S) ?_
  unfold f_X11_water at hf
  refine E_iload_n dX11_water_0 rfl ?_
  refine E_sipush (v := (-9999)) dX11_water_1 (by decide) ?_
  refine E_sipush (v := 9999) dX11_water_4 (by decide) ?_
  refine E_callSI (st := []) (c_X11_isWithin l D dA ad S v2 (-9999) 9999 (pO_bnd hf)) mf_X11_isWithin rfl gX11_water_X11_isWithin (by omega) rfl (Nat.le_of_ble_eq_true rfl) (by rfl) dX11_water_7 (fun r1 h1 q1 => ?_)
  obtain ⟨S_1, rfl, hf⟩ := q1
  dsimp only at hf
  refine E_if_ne (tgt := 16) dX11_water_10 (by decide) (fun c_2 => ?_) (fun c_2 => ?_)
  · have hf := pO_neg c_2 hf
    refine E_iload_n dX11_water_16 rfl ?_
    refine E_iconst (v := (-1)) dX11_water_17 (by decide) ?_
    refine E_icmp_ne (tgt := 34) dX11_water_18 (by decide) (fun c_3 => ?_) (fun c_3 => ?_)
    · have hf := pO_neg c_3 hf
      refine E_aload_n dX11_water_34 rfl ?_
      refine E_getf (v := .ref 1) dX11_water_35 fl_X11_water_12 rfl rfl ?_
      refine E_getf (v := .ref 2) dX11_water_38 fl_X11_water_82 rfl rfl ?_
      refine E_iload_n dX11_water_41 rfl ?_
      refine E_callVI (st := []) (c_X2_hasSection l D dA ad S_1 v1 (pO_bnd hf)) mf_X2_hasSection rfl rfl gX11_water_X2_hasSection (pRc.of (ci := 2) rfl rfl) (by omega) rfl (Nat.le_of_ble_eq_true rfl) (by rfl) dX11_water_42 (fun r4 h4 q4 => ?_)
      obtain ⟨S_4, rfl, hf⟩ := q4
      dsimp only at hf
      refine E_if_eq (tgt := 63) dX11_water_45 (by decide) (fun c_5 => ?_) (fun c_5 => ?_)
      · have hf := pO_pos c_5 hf
        refine E_ldc (v := (-2147483648)) dX11_water_63 (by decide +kernel) ?_
        exact E_iret rfl dX11_water_65 ⟨_, rfl, hf⟩
      · have hf := pO_neg c_5 hf
        refine E_aload_n dX11_water_48 rfl ?_
        refine E_getf (v := .ref 1) dX11_water_49 fl_X11_water_12 rfl rfl ?_
        refine E_getf (v := .ref 2) dX11_water_52 fl_X11_water_82 rfl rfl ?_
        refine E_iload_n dX11_water_55 rfl ?_
        refine E_iload_n dX11_water_56 rfl ?_
        refine E_callVI (st := []) (c_X2_waterAt l D dA ad S_4 v1 v2 (pO_bnd hf)) mf_X2_waterAt rfl rfl gX11_water_X2_waterAt (pRc.of (ci := 2) rfl rfl) (by omega) rfl (Nat.le_of_ble_eq_true rfl) (by rfl) dX11_water_57 (fun r6 h6 q6 => ?_)
        obtain ⟨S_6, rfl, hf⟩ := q6
        dsimp only at hf
        refine E_goto (tgt := 65) dX11_water_60 (by decide) ?_
        exact E_iret rfl dX11_water_65 ⟨_, rfl, hf⟩
    · have hf := pO_pos c_3 hf
      refine E_aload_n dX11_water_21 rfl ?_
      refine E_getf (v := .ref 1) dX11_water_22 fl_X11_water_12 rfl rfl ?_
      refine E_getf (v := .ref 2) dX11_water_25 fl_X11_water_82 rfl rfl ?_
      refine E_iload_n dX11_water_28 rfl ?_
      refine E_iconst (v := 0) dX11_water_29 (by decide) ?_
      refine E_callVI (st := []) (c_X2_waterOfSlope l D dA ad S_1 v2 0 (pO_bnd hf)) mf_X2_waterOfSlope rfl rfl gX11_water_X2_waterOfSlope (pRc.of (ci := 2) rfl rfl) (by omega) rfl (Nat.le_of_ble_eq_true rfl) (by rfl) dX11_water_30 (fun r7 h7 q7 => ?_)
      obtain ⟨S_7, rfl, hf⟩ := q7
      dsimp only at hf
      exact E_iret rfl dX11_water_33 ⟨_, rfl, hf⟩
  · have hf := pO_pos c_2 hf
    refine E_ldc (v := (-2147483648)) dX11_water_13 (by decide +kernel) ?_
    exact E_iret rfl dX11_water_15 ⟨_, rfl, hf⟩
theorem hi_X11_line_11 : ∀ w ∈ u_ws RX11 TX11 10, w ∈ wsX11_line := fun w h => of_decide_eq_true (List.all_eq_true.mp (by decide +kernel : (u_ws RX11 TX11 10).all (fun w => decide (w ∈ wsX11_line)) = true) w h)
theorem fl_X11_line_12 : pFL wsX11_line RX11 12 11 0 := ⟨RX11, TX11, 10, hi_X11_line_11, rfl, by decide, by decide +kernel⟩
theorem hi_X11_line_0 : ∀ w ∈ u_ws RX0 TX0 3, w ∈ wsX11_line := fun w h => of_decide_eq_true (List.all_eq_true.mp (by decide +kernel : (u_ws RX0 TX0 3).all (fun w => decide (w ∈ wsX11_line)) = true) w h)
theorem fl_X11_line_82 : pFL wsX11_line RX11 82 0 0 := ⟨RX0, TX0, 3, hi_X11_line_0, rfl, by decide, by decide +kernel⟩
theorem mf_X11_line : pMF yX11_line wsX11_line cX11_line 1 (some .int) 0 := ⟨⟨_, rfl⟩, by decide +kernel, by decide, by decide +kernel, by decide +kernel, by decide +kernel⟩
def f_X11_line (S : PS) : Option (Int32 × PS) :=
  pbnd (f_X0_allWeight S) (fun r1 S_1 => pbnd (f_X2_startOf S_1 0 r1) (fun r2 S_2 => some (r2, S_2)))
set_option maxRecDepth 100000 in
theorem c_X11_line (l : Launch) (D : va_G) (dA : Nat → ClassId) (ad : Nat → Nat) (S : PS) {P : (Int32 × PS) → Prop} (hf : pO (f_X11_line S) P) : CtI l D dA ad yX11_line wsX11_line 4 [.ref 0] (hX S) (fun r h' => ∃ S' : PS, h' = hX S' ∧ P (r, S')) := by
  refine CtI_of mf_X11_line rfl rfl (Nat.le_of_ble_eq_true rfl) rfl (hX_len S) ?_
  unfold f_X11_line at hf
  refine E_aload_n dX11_line_0 rfl ?_
  refine E_getf (v := .ref 1) dX11_line_1 fl_X11_line_12 rfl rfl ?_
  refine E_getf (v := .ref 2) dX11_line_4 fl_X11_line_82 rfl rfl ?_
  refine E_iconst (v := 0) dX11_line_7 (by decide) ?_
  refine E_aload_n dX11_line_8 rfl ?_
  refine E_getf (v := .ref 1) dX11_line_9 fl_X11_line_12 rfl rfl ?_
  refine E_callVI (st := [.int 0, .ref 2]) (c_X0_allWeight l D dA ad S (pO_bnd hf)) mf_X0_allWeight rfl rfl gX11_line_X0_allWeight (pRc.of (ci := 0) rfl rfl) (by omega) rfl (Nat.le_of_ble_eq_true rfl) (by rfl) dX11_line_12 (fun r1 h1 q1 => ?_)
  obtain ⟨S_1, rfl, hf⟩ := q1
  dsimp only at hf
  refine E_callVI (st := []) (c_X2_startOf l D dA ad S_1 0 r1 (pO_bnd hf)) mf_X2_startOf rfl rfl gX11_line_X2_startOf (pRc.of (ci := 2) rfl rfl) (by omega) rfl (Nat.le_of_ble_eq_true rfl) (by rfl) dX11_line_15 (fun r2 h2 q2 => ?_)
  obtain ⟨S_2, rfl, hf⟩ := q2
  dsimp only at hf
  exact E_iret rfl dX11_line_18 ⟨_, rfl, hf⟩
theorem hi_X11_trim_11 : ∀ w ∈ u_ws RX11 TX11 10, w ∈ wsX11_trim := fun w h => of_decide_eq_true (List.all_eq_true.mp (by decide +kernel : (u_ws RX11 TX11 10).all (fun w => decide (w ∈ wsX11_trim)) = true) w h)
theorem fl_X11_trim_49 : pFL wsX11_trim RX11 49 11 6 := ⟨RX11, TX11, 10, hi_X11_trim_11, rfl, by decide, by decide +kernel⟩
theorem fl_X11_trim_12 : pFL wsX11_trim RX11 12 11 0 := ⟨RX11, TX11, 10, hi_X11_trim_11, rfl, by decide, by decide +kernel⟩
theorem hi_X0_offOf_0 : ∀ w ∈ u_ws RX0 TX0 3, w ∈ wsX0_offOf := fun w h => of_decide_eq_true (List.all_eq_true.mp (by decide +kernel : (u_ws RX0 TX0 3).all (fun w => decide (w ∈ wsX0_offOf)) = true) w h)
theorem fl_X0_offOf_12 : pFL wsX0_offOf RX0 12 0 0 := ⟨RX0, TX0, 3, hi_X0_offOf_0, rfl, by decide, by decide +kernel⟩
theorem hi_X2_pullOfSlope_2 : ∀ w ∈ u_ws RX2 TX2 6, w ∈ wsX2_pullOfSlope := fun w h => of_decide_eq_true (List.all_eq_true.mp (by decide +kernel : (u_ws RX2 TX2 6).all (fun w => decide (w ∈ wsX2_pullOfSlope)) = true) w h)
theorem fl_X2_pullOfSlope_9 : pFL wsX2_pullOfSlope RX2 9 2 0 := ⟨RX2, TX2, 6, hi_X2_pullOfSlope_2, rfl, by decide, by decide +kernel⟩
def g_X2_pullOfSlope_5 : Nat → PS → Int32 → Int32 → Int32 → Int32 → Option ((Int32 × PS) ⊕ (PS × Int32))
  | 0, _, _, _, _, _ => none
  | fuel + 1, S, v1, v2, v3, v4 =>
    if (S.1 0) ≤ v4 then (some (.inr (S, v3))) else (pbnd (f_X2_draughtOf S v4 v1 v2) (fun r2 S_2 => pbnd (f_X2_waterAt S_2 v4 r2) (fun r3 S_3 => g_X2_pullOfSlope_5 fuel S_3 v1 v2 (v3 + ((r3 * 2) * v4)) (v4 + 1))))
set_option maxRecDepth 100000 in
theorem l_X2_pullOfSlope_5 (l : Launch) (D : va_G) (dA : Nat → ClassId) (ad : Nat → Nat) (d : Nat) (hd : 2 ≤ d) {Q : Int32 → List PC → Prop} : ∀ (fuel : Nat) (S : PS) (v1 : Int32) (v2 : Int32) (v3 : Int32) (v4 : Int32), pO (g_X2_pullOfSlope_5 fuel S v1 v2 v3 v4) (fun y => match y with
    | .inl x => Q x.1 (hX x.2)
    | .inr w => Ev l D dA ad wsX2_pullOfSlope cX2_pullOfSlope RX2 5 (some .int) d 52 (pKi D dA ad 52 Q) 42 [(3, .int w.2)] [] (hX w.1)) → Ev l D dA ad wsX2_pullOfSlope cX2_pullOfSlope RX2 5 (some .int) d 52 (pKi D dA ad 52 Q) 5 [(0, .ref 2), (1, .int v1), (2, .int v2), (3, .int v3), (4, .int v4)] [] (hX S) := by
  intro fuel
  induction fuel with
  | zero =>
    intro S v1 v2 v3 v4 hf
    exact hf.elim
  | succ fuel ih =>
    intro S v1 v2 v3 v4 hf
    rw [g_X2_pullOfSlope_5] at hf
    refine E_iload dX2_pullOfSlope_5 rfl ?_
    refine E_aload_n dX2_pullOfSlope_7 rfl ?_
    refine E_getf (v := .int (S.1 0)) dX2_pullOfSlope_8 fl_X2_pullOfSlope_9 rfl rfl ?_
    refine E_icmp_ge (tgt := 42) dX2_pullOfSlope_11 (by decide) (fun c_1 => ?_) (fun c_1 => ?_)
    · have hf := pO_pos c_1 hf
      exact E_sub (ls' := [(3, .int v3)]) ⟨rfl, trivial⟩ hf
    · have hf := pO_neg c_1 hf
      refine E_iload_n dX2_pullOfSlope_14 rfl ?_
      refine E_aload_n dX2_pullOfSlope_15 rfl ?_
      refine E_iload dX2_pullOfSlope_16 rfl ?_
      refine E_aload_n dX2_pullOfSlope_18 rfl ?_
      refine E_iload dX2_pullOfSlope_19 rfl ?_
      refine E_iload_n dX2_pullOfSlope_21 rfl ?_
      refine E_iload_n dX2_pullOfSlope_22 rfl ?_
      refine E_callVI (st := [.int v4, .ref 2, .int v3]) (c_X2_draughtOf l D dA ad S v4 v1 v2 (pO_bnd hf)) mf_X2_draughtOf rfl rfl gX2_pullOfSlope_X2_draughtOf (pRc.of (ci := 2) rfl rfl) (by omega) rfl (Nat.le_of_ble_eq_true rfl) (by rfl) dX2_pullOfSlope_23 (fun r2 h2 q2 => ?_)
      obtain ⟨S_2, rfl, hf⟩ := q2
      dsimp only at hf
      refine E_callVI (st := [.int v3]) (c_X2_waterAt l D dA ad S_2 v4 r2 (pO_bnd hf)) mf_X2_waterAt rfl rfl gX2_pullOfSlope_X2_waterAt (pRc.of (ci := 2) rfl rfl) (by omega) rfl (Nat.le_of_ble_eq_true rfl) (by rfl) dX2_pullOfSlope_26 (fun r3 h3 q3 => ?_)
      obtain ⟨S_3, rfl, hf⟩ := q3
      dsimp only at hf
      refine E_iconst (v := 2) dX2_pullOfSlope_29 (by decide) ?_
      refine E_imul dX2_pullOfSlope_30 ?_
      refine E_iload dX2_pullOfSlope_31 rfl ?_
      refine E_imul dX2_pullOfSlope_33 ?_
      refine E_iadd dX2_pullOfSlope_34 ?_
      refine E_istore_n (ls' := [(0, .ref 2), (1, .int v1), (2, .int v2), (3, .int (v3 + ((r3 * 2) * v4))), (4, .int v4)]) dX2_pullOfSlope_35 (by decide) rfl ?_
      refine E_iinc (v := v4 + 1) (ls' := [(0, .ref 2), (1, .int v1), (2, .int v2), (3, .int (v3 + ((r3 * 2) * v4))), (4, .int (v4 + 1))]) dX2_pullOfSlope_36 rfl rfl (by decide) rfl ?_
      refine E_goto (tgt := 5) dX2_pullOfSlope_39 (by decide) ?_
      exact E_sub (ls' := [(0, .ref 2), (1, .int v1), (2, .int v2), (3, .int (v3 + ((r3 * 2) * v4))), (4, .int (v4 + 1))]) ⟨rfl, rfl, rfl, rfl, rfl, trivial⟩ (ih S_3 v1 v2 (v3 + ((r3 * 2) * v4)) (v4 + 1) hf)
theorem mf_X2_pullOfSlope : pMF yX2_pullOfSlope wsX2_pullOfSlope cX2_pullOfSlope 5 (some .int) 2 := ⟨⟨_, rfl⟩, by decide +kernel, by decide, by decide +kernel, by decide +kernel, by decide +kernel⟩
def f_X2_pullOfSlope (S : PS) (v1 : Int32) (v2 : Int32) : Option (Int32 × PS) :=
  plp (g_X2_pullOfSlope_5 pfuel S v1 v2 0 0) (fun w => (fun (S_4 : PS) (v3_4 : Int32) => some (v3_4, S_4)) w.1 w.2)
set_option maxRecDepth 100000 in
theorem c_X2_pullOfSlope (l : Launch) (D : va_G) (dA : Nat → ClassId) (ad : Nat → Nat) (S : PS) (v1 : Int32) (v2 : Int32) {P : (Int32 × PS) → Prop} (hf : pO (f_X2_pullOfSlope S v1 v2) P) : CtI l D dA ad yX2_pullOfSlope wsX2_pullOfSlope 2 [.ref 2, .int v1, .int v2] (hX S) (fun r h' => ∃ S' : PS, h' = hX S' ∧ P (r, S')) := by
  refine CtI_of mf_X2_pullOfSlope rfl rfl (Nat.le_of_ble_eq_true rfl) rfl (hX_len S) ?_
  unfold f_X2_pullOfSlope at hf
  refine E_iconst (v := 0) dX2_pullOfSlope_0 (by decide) ?_
  refine E_istore_n (ls' := [(0, .ref 2), (1, .int v1), (2, .int v2), (3, .int 0)]) dX2_pullOfSlope_1 (by decide) rfl ?_
  refine E_iconst (v := 0) dX2_pullOfSlope_2 (by decide) ?_
  refine E_istore (ls' := [(0, .ref 2), (1, .int v1), (2, .int v2), (3, .int 0), (4, .int 0)]) dX2_pullOfSlope_3 (by decide) rfl ?_
  refine E_sub (ls' := [(0, .ref 2), (1, .int v1), (2, .int v2), (3, .int 0), (4, .int 0)]) ⟨rfl, rfl, rfl, rfl, rfl, trivial⟩ ?_
  refine l_X2_pullOfSlope_5 l D dA ad _ (by omega) pfuel S v1 v2 0 0 (pO_lp hf (fun x hx => ⟨x.2, rfl, hx⟩) (fun w4 hf => ?_))
  obtain ⟨S_4, v3_4⟩ := w4
  dsimp only at hf ⊢
  refine E_iload_n dX2_pullOfSlope_42 rfl ?_
  exact E_iret rfl dX2_pullOfSlope_43 ⟨_, rfl, hf⟩
theorem mf_X0_offOf : pMF yX0_offOf wsX0_offOf cX0_offOf 3 (some .int) 1 := ⟨⟨_, rfl⟩, by decide +kernel, by decide, by decide +kernel, by decide +kernel, by decide +kernel⟩
def f_X0_offOf (S : PS) (v1 : Int32) : Option (Int32 × PS) :=
  pbnd (f_X0_allWeight S) (fun r1 S_1 => pbnd (f_X2_startOf S_1 v1 r1) (fun r2 S_2 => if r2 = ((-2) : Int32) then (some ((-2147483648), S_2)) else (pbnd (f_X2_pullOfSlope S_2 r2 v1) (fun r4 S_4 => pbnd (f_X0_allAlong S_4) (fun r5 S_5 => some (r4 - (64 * r5), S_5))))))
set_option maxRecDepth 100000 in
theorem c_X0_offOf (l : Launch) (D : va_G) (dA : Nat → ClassId) (ad : Nat → Nat) (S : PS) (v1 : Int32) {P : (Int32 × PS) → Prop} (hf : pO (f_X0_offOf S v1) P) : CtI l D dA ad yX0_offOf wsX0_offOf 4 [.ref 1, .int v1] (hX S) (fun r h' => ∃ S' : PS, h' = hX S' ∧ P (r, S')) := by
  refine CtI_of mf_X0_offOf rfl rfl (Nat.le_of_ble_eq_true rfl) rfl (hX_len S) ?_
  unfold f_X0_offOf at hf
  refine E_aload_n dX0_offOf_0 rfl ?_
  refine E_getf (v := .ref 2) dX0_offOf_1 fl_X0_offOf_12 rfl rfl ?_
  refine E_iload_n dX0_offOf_4 rfl ?_
  refine E_aload_n dX0_offOf_5 rfl ?_
  refine E_callVI (st := [.int v1, .ref 2]) (c_X0_allWeight l D dA ad S (pO_bnd hf)) mf_X0_allWeight rfl rfl gX0_offOf_X0_allWeight (pRc.of (ci := 0) rfl rfl) (by omega) rfl (Nat.le_of_ble_eq_true rfl) (by rfl) dX0_offOf_6 (fun r1 h1 q1 => ?_)
  obtain ⟨S_1, rfl, hf⟩ := q1
  dsimp only at hf
  refine E_callVI (st := []) (c_X2_startOf l D dA ad S_1 v1 r1 (pO_bnd hf)) mf_X2_startOf rfl rfl gX0_offOf_X2_startOf (pRc.of (ci := 2) rfl rfl) (by omega) rfl (Nat.le_of_ble_eq_true rfl) (by rfl) dX0_offOf_9 (fun r2 h2 q2 => ?_)
  obtain ⟨S_2, rfl, hf⟩ := q2
  dsimp only at hf
  refine E_istore_n (ls' := [(0, .ref 1), (1, .int v1), (2, .int r2)]) dX0_offOf_12 (by decide) rfl ?_
  refine E_iload_n dX0_offOf_13 rfl ?_
  refine E_bipush (v := (-2)) dX0_offOf_14 (by decide) ?_
  refine E_icmp_ne (tgt := 24) dX0_offOf_16 (by decide) (fun c_3 => ?_) (fun c_3 => ?_)
  · have hf := pO_neg c_3 hf
    refine E_aload_n dX0_offOf_24 rfl ?_
    refine E_getf (v := .ref 2) dX0_offOf_25 fl_X0_offOf_12 rfl rfl ?_
    refine E_iload_n dX0_offOf_28 rfl ?_
    refine E_iload_n dX0_offOf_29 rfl ?_
    refine E_callVI (st := []) (c_X2_pullOfSlope l D dA ad S_2 r2 v1 (pO_bnd hf)) mf_X2_pullOfSlope rfl rfl gX0_offOf_X2_pullOfSlope (pRc.of (ci := 2) rfl rfl) (by omega) rfl (Nat.le_of_ble_eq_true rfl) (by rfl) dX0_offOf_30 (fun r4 h4 q4 => ?_)
    obtain ⟨S_4, rfl, hf⟩ := q4
    dsimp only at hf
    refine E_bipush (v := 64) dX0_offOf_33 (by decide) ?_
    refine E_aload_n dX0_offOf_35 rfl ?_
    refine E_callVI (st := [.int 64, .int r4]) (c_X0_allAlong l D dA ad S_4 (pO_bnd hf)) mf_X0_allAlong rfl rfl gX0_offOf_X0_allAlong (pRc.of (ci := 0) rfl rfl) (by omega) rfl (Nat.le_of_ble_eq_true rfl) (by rfl) dX0_offOf_36 (fun r5 h5 q5 => ?_)
    obtain ⟨S_5, rfl, hf⟩ := q5
    dsimp only at hf
    refine E_imul dX0_offOf_39 ?_
    refine E_isub dX0_offOf_40 ?_
    exact E_iret rfl dX0_offOf_41 ⟨_, rfl, hf⟩
  · have hf := pO_pos c_3 hf
    refine E_ldc (v := (-2147483648)) dX0_offOf_19 (by decide +kernel) ?_
    refine E_goto (tgt := 41) dX0_offOf_21 (by decide) ?_
    exact E_iret rfl dX0_offOf_41 ⟨_, rfl, hf⟩
theorem hi_X10_find_10 : ∀ w ∈ u_ws RX10 TX10 3, w ∈ wsX10_find := fun w h => of_decide_eq_true (List.all_eq_true.mp (by decide +kernel : (u_ws RX10 TX10 3).all (fun w => decide (w ∈ wsX10_find)) = true) w h)
theorem fl_X10_find_9 : pFL wsX10_find RX10 9 10 0 := ⟨RX10, TX10, 3, hi_X10_find_10, rfl, by decide, by decide +kernel⟩
theorem ft_10_0 : pFT 10 0 .int := ⟨RX10, TX10, 3, tyX10, rfl, by decide, tyX10_ok, nmX10, rfl, by decide +kernel⟩
theorem hi_X10_find_0 : ∀ w ∈ u_ws RX0 TX0 3, w ∈ wsX10_find := fun w h => of_decide_eq_true (List.all_eq_true.mp (by decide +kernel : (u_ws RX0 TX0 3).all (fun w => decide (w ∈ wsX10_find)) = true) w h)
theorem fl_X10_find_37 : pFL wsX10_find RX10 37 0 0 := ⟨RX0, TX0, 3, hi_X10_find_0, rfl, by decide, by decide +kernel⟩
theorem fl_X10_find_15 : pFL wsX10_find RX10 15 10 1 := ⟨RX10, TX10, 3, hi_X10_find_10, rfl, by decide, by decide +kernel⟩
theorem ft_10_1 : pFT 10 1 .int := ⟨RX10, TX10, 3, tyX10, rfl, by decide, tyX10_ok, nmX10, rfl, by decide +kernel⟩
theorem fl_X10_find_18 : pFL wsX10_find RX10 18 10 2 := ⟨RX10, TX10, 3, hi_X10_find_10, rfl, by decide, by decide +kernel⟩
theorem ft_10_2 : pFT 10 2 .int := ⟨RX10, TX10, 3, tyX10, rfl, by decide, tyX10_ok, nmX10, rfl, by decide +kernel⟩
def g_X10_find_10 : Nat → PS → Int32 → Int32 → Int32 → Option ((Int32 × PS) ⊕ (PS × Int32))
  | 0, _, _, _, _ => none
  | fuel + 1, S, v2, v3, v4 =>
    if (40 : Int32) < v4 then (some (.inr (S, v3))) else (if (v4 - v4 / 2 * 2) = (0 : Int32) then (pbnd (f_X0_offOf S (v4 / 2)) (fun r10 S_10 => if r10 = ((-2147483648) : Int32) then (g_X10_find_10 fuel S_10 v2 v3 (v4 + 1)) else (if v3 = (0 : Int32) then (pbnd (f_X2_startOf (pI S_10 14 (v4 / 2)) (v4 / 2) v2) (fun r13 S_13 => g_X10_find_10 fuel (pI (pI S_13 15 r13) 16 r10) v2 1 (v4 + 1))) else (if (pabs (S_10.1 16)) ≤ (pabs r10) then (g_X10_find_10 fuel S_10 v2 v3 (v4 + 1)) else (pbnd (f_X2_startOf (pI S_10 14 (v4 / 2)) (v4 / 2) v2) (fun r15 S_15 => g_X10_find_10 fuel (pI (pI S_15 15 r15) 16 r10) v2 1 (v4 + 1))))))) else (pbnd (f_X0_offOf S ((-(v4 / 2)) - 1)) (fun r4 S_4 => if r4 = ((-2147483648) : Int32) then (g_X10_find_10 fuel S_4 v2 v3 (v4 + 1)) else (if v3 = (0 : Int32) then (pbnd (f_X2_startOf (pI S_4 14 ((-(v4 / 2)) - 1)) ((-(v4 / 2)) - 1) v2) (fun r7 S_7 => g_X10_find_10 fuel (pI (pI S_7 15 r7) 16 r4) v2 1 (v4 + 1))) else (if (pabs (S_4.1 16)) ≤ (pabs r4) then (g_X10_find_10 fuel S_4 v2 v3 (v4 + 1)) else (pbnd (f_X2_startOf (pI S_4 14 ((-(v4 / 2)) - 1)) ((-(v4 / 2)) - 1) v2) (fun r9 S_9 => g_X10_find_10 fuel (pI (pI S_9 15 r9) 16 r4) v2 1 (v4 + 1))))))))
set_option maxRecDepth 100000 in
theorem l_X10_find_10 (l : Launch) (D : va_G) (dA : Nat → ClassId) (ad : Nat → Nat) (d : Nat) (hd : 5 ≤ d) {Q : Int32 → List PC → Prop} : ∀ (fuel : Nat) (S : PS) (v2 : Int32) (v3 : Int32) (v4 : Int32), pO (g_X10_find_10 fuel S v2 v3 v4) (fun y => match y with
    | .inl x => Q x.1 (hX x.2)
    | .inr w => Ev l D dA ad wsX10_find cX10_find RX10 7 (some .boolean) d 52 (pKi D dA ad 52 Q) 108 [(3, .int w.2)] [] (hX w.1)) → Ev l D dA ad wsX10_find cX10_find RX10 7 (some .boolean) d 52 (pKi D dA ad 52 Q) 10 [(0, .ref 45), (1, .ref 1), (2, .int v2), (3, .int v3), (4, .int v4)] [] (hX S) := by
  intro fuel
  induction fuel with
  | zero =>
    intro S v2 v3 v4 hf
    exact hf.elim
  | succ fuel ih =>
    intro S v2 v3 v4 hf
    rw [g_X10_find_10] at hf
    refine E_iload dX10_find_10 rfl ?_
    refine E_bipush (v := 40) dX10_find_12 (by decide) ?_
    refine E_icmp_gt (tgt := 108) dX10_find_14 (by decide) (fun c_2 => ?_) (fun c_2 => ?_)
    · have hf := pO_pos c_2 hf
      exact E_sub (ls' := [(3, .int v3)]) ⟨rfl, trivial⟩ hf
    · have hf := pO_neg c_2 hf
      refine E_iload dX10_find_17 rfl ?_
      refine E_iconst (v := 2) dX10_find_19 (by decide) ?_
      refine E_irem dX10_find_20 (by decide) ?_
      refine E_if_ne (tgt := 31) dX10_find_21 (by decide) (fun c_3 => ?_) (fun c_3 => ?_)
      · have hf := pO_neg c_3 hf
        refine E_iload dX10_find_31 rfl ?_
        refine E_iconst (v := 2) dX10_find_33 (by decide) ?_
        refine E_idiv dX10_find_34 (by decide) ?_
        refine E_ineg dX10_find_35 ?_
        refine E_iconst (v := 1) dX10_find_36 (by decide) ?_
        refine E_isub dX10_find_37 ?_
        refine E_istore (ls' := [(0, .ref 45), (1, .ref 1), (2, .int v2), (3, .int v3), (4, .int v4), (5, .int ((-(v4 / 2)) - 1))]) dX10_find_38 (by decide) rfl ?_
        refine E_aload_n dX10_find_40 rfl ?_
        refine E_iload dX10_find_41 rfl ?_
        refine E_callVI (st := []) (c_X0_offOf l D dA ad S ((-(v4 / 2)) - 1) (pO_bnd hf)) mf_X0_offOf rfl rfl gX10_find_X0_offOf (pRc.of (ci := 0) rfl rfl) (by omega) rfl (Nat.le_of_ble_eq_true rfl) (by rfl) dX10_find_43 (fun r4 h4 q4 => ?_)
        obtain ⟨S_4, rfl, hf⟩ := q4
        dsimp only at hf
        refine E_istore (ls' := [(0, .ref 45), (1, .ref 1), (2, .int v2), (3, .int v3), (4, .int v4), (5, .int ((-(v4 / 2)) - 1)), (6, .int r4)]) dX10_find_46 (by decide) rfl ?_
        refine E_iload dX10_find_48 rfl ?_
        refine E_ldc (v := (-2147483648)) dX10_find_50 (by decide +kernel) ?_
        refine E_icmp_eq (tgt := 102) dX10_find_52 (by decide) (fun c_5 => ?_) (fun c_5 => ?_)
        · have hf := pO_pos c_5 hf
          refine E_iinc (v := v4 + 1) (ls' := [(0, .ref 45), (1, .ref 1), (2, .int v2), (3, .int v3), (4, .int (v4 + 1)), (5, .int ((-(v4 / 2)) - 1)), (6, .int r4)]) dX10_find_102 rfl rfl (by decide) rfl ?_
          refine E_goto (tgt := 10) dX10_find_105 (by decide) ?_
          exact E_sub (ls' := [(0, .ref 45), (1, .ref 1), (2, .int v2), (3, .int v3), (4, .int (v4 + 1))]) ⟨rfl, rfl, rfl, rfl, rfl, trivial⟩ (ih S_4 v2 v3 (v4 + 1) hf)
        · have hf := pO_neg c_5 hf
          refine E_iload_n dX10_find_55 rfl ?_
          refine E_if_eq (tgt := 74) dX10_find_56 (by decide) (fun c_6 => ?_) (fun c_6 => ?_)
          · have hf := pO_pos c_6 hf
            refine E_iconst (v := 1) dX10_find_74 (by decide) ?_
            refine E_istore_n (ls' := [(0, .ref 45), (1, .ref 1), (2, .int v2), (3, .int 1), (4, .int v4), (5, .int ((-(v4 / 2)) - 1)), (6, .int r4)]) dX10_find_75 (by decide) rfl ?_
            refine E_aload_n dX10_find_76 rfl ?_
            refine E_iload dX10_find_77 rfl ?_
            refine E_putf (h' := hX (pI S_4 14 ((-(v4 / 2)) - 1))) dX10_find_79 fl_X10_find_9 ft_10_0 rfl (Nat.lt_of_lt_of_eq (by decide : 0 < 3) rfl) rfl rfl ⟨_, rfl⟩ (sX_I14 S_4 ((-(v4 / 2)) - 1)) ?_
            refine E_aload_n dX10_find_82 rfl ?_
            refine E_aload_n dX10_find_83 rfl ?_
            refine E_getf (v := .ref 2) dX10_find_84 fl_X10_find_37 rfl rfl ?_
            refine E_iload dX10_find_87 rfl ?_
            refine E_iload_n dX10_find_89 rfl ?_
            refine E_callVI (st := [.ref 45]) (c_X2_startOf l D dA ad (pI S_4 14 ((-(v4 / 2)) - 1)) ((-(v4 / 2)) - 1) v2 (pO_bnd hf)) mf_X2_startOf rfl rfl gX10_find_X2_startOf (pRc.of (ci := 2) rfl rfl) (by omega) rfl (Nat.le_of_ble_eq_true rfl) (by rfl) dX10_find_90 (fun r7 h7 q7 => ?_)
            obtain ⟨S_7, rfl, hf⟩ := q7
            dsimp only at hf
            refine E_putf (h' := hX (pI S_7 15 r7)) dX10_find_93 fl_X10_find_15 ft_10_1 rfl (Nat.lt_of_lt_of_eq (by decide : 1 < 3) rfl) rfl rfl ⟨_, rfl⟩ (sX_I15 S_7 r7) ?_
            refine E_aload_n dX10_find_96 rfl ?_
            refine E_iload dX10_find_97 rfl ?_
            refine E_putf (h' := hX (pI (pI S_7 15 r7) 16 r4)) dX10_find_99 fl_X10_find_18 ft_10_2 rfl (Nat.lt_of_lt_of_eq (by decide : 2 < 3) rfl) rfl rfl ⟨_, rfl⟩ (sX_I16 (pI S_7 15 r7) r4) ?_
            refine E_iinc (v := v4 + 1) (ls' := [(0, .ref 45), (1, .ref 1), (2, .int v2), (3, .int 1), (4, .int (v4 + 1)), (5, .int ((-(v4 / 2)) - 1)), (6, .int r4)]) dX10_find_102 rfl rfl (by decide) rfl ?_
            refine E_goto (tgt := 10) dX10_find_105 (by decide) ?_
            exact E_sub (ls' := [(0, .ref 45), (1, .ref 1), (2, .int v2), (3, .int 1), (4, .int (v4 + 1))]) ⟨rfl, rfl, rfl, rfl, rfl, trivial⟩ (ih (pI (pI S_7 15 r7) 16 r4) v2 1 (v4 + 1) hf)
          · have hf := pO_neg c_6 hf
            refine E_iload dX10_find_59 rfl ?_
            refine E_mabs (by decide +kernel) (by decide +kernel) (by decide +kernel) (by decide +kernel) (by omega) (Nat.le_of_ble_eq_true rfl) (by rfl) dX10_find_61 ?_
            refine E_aload_n dX10_find_64 rfl ?_
            refine E_getf (v := .int (S_4.1 16)) dX10_find_65 fl_X10_find_18 rfl rfl ?_
            refine E_mabs (by decide +kernel) (by decide +kernel) (by decide +kernel) (by decide +kernel) (by omega) (Nat.le_of_ble_eq_true rfl) (by rfl) dX10_find_68 ?_
            refine E_icmp_ge (tgt := 102) dX10_find_71 (by decide) (fun c_8 => ?_) (fun c_8 => ?_)
            · have hf := pO_pos c_8 hf
              refine E_iinc (v := v4 + 1) (ls' := [(0, .ref 45), (1, .ref 1), (2, .int v2), (3, .int v3), (4, .int (v4 + 1)), (5, .int ((-(v4 / 2)) - 1)), (6, .int r4)]) dX10_find_102 rfl rfl (by decide) rfl ?_
              refine E_goto (tgt := 10) dX10_find_105 (by decide) ?_
              exact E_sub (ls' := [(0, .ref 45), (1, .ref 1), (2, .int v2), (3, .int v3), (4, .int (v4 + 1))]) ⟨rfl, rfl, rfl, rfl, rfl, trivial⟩ (ih S_4 v2 v3 (v4 + 1) hf)
            · have hf := pO_neg c_8 hf
              refine E_iconst (v := 1) dX10_find_74 (by decide) ?_
              refine E_istore_n (ls' := [(0, .ref 45), (1, .ref 1), (2, .int v2), (3, .int 1), (4, .int v4), (5, .int ((-(v4 / 2)) - 1)), (6, .int r4)]) dX10_find_75 (by decide) rfl ?_
              refine E_aload_n dX10_find_76 rfl ?_
              refine E_iload dX10_find_77 rfl ?_
              refine E_putf (h' := hX (pI S_4 14 ((-(v4 / 2)) - 1))) dX10_find_79 fl_X10_find_9 ft_10_0 rfl (Nat.lt_of_lt_of_eq (by decide : 0 < 3) rfl) rfl rfl ⟨_, rfl⟩ (sX_I14 S_4 ((-(v4 / 2)) - 1)) ?_
              refine E_aload_n dX10_find_82 rfl ?_
              refine E_aload_n dX10_find_83 rfl ?_
              refine E_getf (v := .ref 2) dX10_find_84 fl_X10_find_37 rfl rfl ?_
              refine E_iload dX10_find_87 rfl ?_
              refine E_iload_n dX10_find_89 rfl ?_
              refine E_callVI (st := [.ref 45]) (c_X2_startOf l D dA ad (pI S_4 14 ((-(v4 / 2)) - 1)) ((-(v4 / 2)) - 1) v2 (pO_bnd hf)) mf_X2_startOf rfl rfl gX10_find_X2_startOf (pRc.of (ci := 2) rfl rfl) (by omega) rfl (Nat.le_of_ble_eq_true rfl) (by rfl) dX10_find_90 (fun r9 h9 q9 => ?_)
              obtain ⟨S_9, rfl, hf⟩ := q9
              dsimp only at hf
              refine E_putf (h' := hX (pI S_9 15 r9)) dX10_find_93 fl_X10_find_15 ft_10_1 rfl (Nat.lt_of_lt_of_eq (by decide : 1 < 3) rfl) rfl rfl ⟨_, rfl⟩ (sX_I15 S_9 r9) ?_
              refine E_aload_n dX10_find_96 rfl ?_
              refine E_iload dX10_find_97 rfl ?_
              refine E_putf (h' := hX (pI (pI S_9 15 r9) 16 r4)) dX10_find_99 fl_X10_find_18 ft_10_2 rfl (Nat.lt_of_lt_of_eq (by decide : 2 < 3) rfl) rfl rfl ⟨_, rfl⟩ (sX_I16 (pI S_9 15 r9) r4) ?_
              refine E_iinc (v := v4 + 1) (ls' := [(0, .ref 45), (1, .ref 1), (2, .int v2), (3, .int 1), (4, .int (v4 + 1)), (5, .int ((-(v4 / 2)) - 1)), (6, .int r4)]) dX10_find_102 rfl rfl (by decide) rfl ?_
              refine E_goto (tgt := 10) dX10_find_105 (by decide) ?_
              exact E_sub (ls' := [(0, .ref 45), (1, .ref 1), (2, .int v2), (3, .int 1), (4, .int (v4 + 1))]) ⟨rfl, rfl, rfl, rfl, rfl, trivial⟩ (ih (pI (pI S_9 15 r9) 16 r4) v2 1 (v4 + 1) hf)
      · have hf := pO_pos c_3 hf
        refine E_iload dX10_find_24 rfl ?_
        refine E_iconst (v := 2) dX10_find_26 (by decide) ?_
        refine E_idiv dX10_find_27 (by decide) ?_
        refine E_goto (tgt := 38) dX10_find_28 (by decide) ?_
        refine E_istore (ls' := [(0, .ref 45), (1, .ref 1), (2, .int v2), (3, .int v3), (4, .int v4), (5, .int (v4 / 2))]) dX10_find_38 (by decide) rfl ?_
        refine E_aload_n dX10_find_40 rfl ?_
        refine E_iload dX10_find_41 rfl ?_
        refine E_callVI (st := []) (c_X0_offOf l D dA ad S (v4 / 2) (pO_bnd hf)) mf_X0_offOf rfl rfl gX10_find_X0_offOf (pRc.of (ci := 0) rfl rfl) (by omega) rfl (Nat.le_of_ble_eq_true rfl) (by rfl) dX10_find_43 (fun r10 h10 q10 => ?_)
        obtain ⟨S_10, rfl, hf⟩ := q10
        dsimp only at hf
        refine E_istore (ls' := [(0, .ref 45), (1, .ref 1), (2, .int v2), (3, .int v3), (4, .int v4), (5, .int (v4 / 2)), (6, .int r10)]) dX10_find_46 (by decide) rfl ?_
        refine E_iload dX10_find_48 rfl ?_
        refine E_ldc (v := (-2147483648)) dX10_find_50 (by decide +kernel) ?_
        refine E_icmp_eq (tgt := 102) dX10_find_52 (by decide) (fun c_11 => ?_) (fun c_11 => ?_)
        · have hf := pO_pos c_11 hf
          refine E_iinc (v := v4 + 1) (ls' := [(0, .ref 45), (1, .ref 1), (2, .int v2), (3, .int v3), (4, .int (v4 + 1)), (5, .int (v4 / 2)), (6, .int r10)]) dX10_find_102 rfl rfl (by decide) rfl ?_
          refine E_goto (tgt := 10) dX10_find_105 (by decide) ?_
          exact E_sub (ls' := [(0, .ref 45), (1, .ref 1), (2, .int v2), (3, .int v3), (4, .int (v4 + 1))]) ⟨rfl, rfl, rfl, rfl, rfl, trivial⟩ (ih S_10 v2 v3 (v4 + 1) hf)
        · have hf := pO_neg c_11 hf
          refine E_iload_n dX10_find_55 rfl ?_
          refine E_if_eq (tgt := 74) dX10_find_56 (by decide) (fun c_12 => ?_) (fun c_12 => ?_)
          · have hf := pO_pos c_12 hf
            refine E_iconst (v := 1) dX10_find_74 (by decide) ?_
            refine E_istore_n (ls' := [(0, .ref 45), (1, .ref 1), (2, .int v2), (3, .int 1), (4, .int v4), (5, .int (v4 / 2)), (6, .int r10)]) dX10_find_75 (by decide) rfl ?_
            refine E_aload_n dX10_find_76 rfl ?_
            refine E_iload dX10_find_77 rfl ?_
            refine E_putf (h' := hX (pI S_10 14 (v4 / 2))) dX10_find_79 fl_X10_find_9 ft_10_0 rfl (Nat.lt_of_lt_of_eq (by decide : 0 < 3) rfl) rfl rfl ⟨_, rfl⟩ (sX_I14 S_10 (v4 / 2)) ?_
            refine E_aload_n dX10_find_82 rfl ?_
            refine E_aload_n dX10_find_83 rfl ?_
            refine E_getf (v := .ref 2) dX10_find_84 fl_X10_find_37 rfl rfl ?_
            refine E_iload dX10_find_87 rfl ?_
            refine E_iload_n dX10_find_89 rfl ?_
            refine E_callVI (st := [.ref 45]) (c_X2_startOf l D dA ad (pI S_10 14 (v4 / 2)) (v4 / 2) v2 (pO_bnd hf)) mf_X2_startOf rfl rfl gX10_find_X2_startOf (pRc.of (ci := 2) rfl rfl) (by omega) rfl (Nat.le_of_ble_eq_true rfl) (by rfl) dX10_find_90 (fun r13 h13 q13 => ?_)
            obtain ⟨S_13, rfl, hf⟩ := q13
            dsimp only at hf
            refine E_putf (h' := hX (pI S_13 15 r13)) dX10_find_93 fl_X10_find_15 ft_10_1 rfl (Nat.lt_of_lt_of_eq (by decide : 1 < 3) rfl) rfl rfl ⟨_, rfl⟩ (sX_I15 S_13 r13) ?_
            refine E_aload_n dX10_find_96 rfl ?_
            refine E_iload dX10_find_97 rfl ?_
            refine E_putf (h' := hX (pI (pI S_13 15 r13) 16 r10)) dX10_find_99 fl_X10_find_18 ft_10_2 rfl (Nat.lt_of_lt_of_eq (by decide : 2 < 3) rfl) rfl rfl ⟨_, rfl⟩ (sX_I16 (pI S_13 15 r13) r10) ?_
            refine E_iinc (v := v4 + 1) (ls' := [(0, .ref 45), (1, .ref 1), (2, .int v2), (3, .int 1), (4, .int (v4 + 1)), (5, .int (v4 / 2)), (6, .int r10)]) dX10_find_102 rfl rfl (by decide) rfl ?_
            refine E_goto (tgt := 10) dX10_find_105 (by decide) ?_
            exact E_sub (ls' := [(0, .ref 45), (1, .ref 1), (2, .int v2), (3, .int 1), (4, .int (v4 + 1))]) ⟨rfl, rfl, rfl, rfl, rfl, trivial⟩ (ih (pI (pI S_13 15 r13) 16 r10) v2 1 (v4 + 1) hf)
          · have hf := pO_neg c_12 hf
            refine E_iload dX10_find_59 rfl ?_
            refine E_mabs (by decide +kernel) (by decide +kernel) (by decide +kernel) (by decide +kernel) (by omega) (Nat.le_of_ble_eq_true rfl) (by rfl) dX10_find_61 ?_
            refine E_aload_n dX10_find_64 rfl ?_
            refine E_getf (v := .int (S_10.1 16)) dX10_find_65 fl_X10_find_18 rfl rfl ?_
            refine E_mabs (by decide +kernel) (by decide +kernel) (by decide +kernel) (by decide +kernel) (by omega) (Nat.le_of_ble_eq_true rfl) (by rfl) dX10_find_68 ?_
            refine E_icmp_ge (tgt := 102) dX10_find_71 (by decide) (fun c_14 => ?_) (fun c_14 => ?_)
            · have hf := pO_pos c_14 hf
              refine E_iinc (v := v4 + 1) (ls' := [(0, .ref 45), (1, .ref 1), (2, .int v2), (3, .int v3), (4, .int (v4 + 1)), (5, .int (v4 / 2)), (6, .int r10)]) dX10_find_102 rfl rfl (by decide) rfl ?_
              refine E_goto (tgt := 10) dX10_find_105 (by decide) ?_
              exact E_sub (ls' := [(0, .ref 45), (1, .ref 1), (2, .int v2), (3, .int v3), (4, .int (v4 + 1))]) ⟨rfl, rfl, rfl, rfl, rfl, trivial⟩ (ih S_10 v2 v3 (v4 + 1) hf)
            · have hf := pO_neg c_14 hf
              refine E_iconst (v := 1) dX10_find_74 (by decide) ?_
              refine E_istore_n (ls' := [(0, .ref 45), (1, .ref 1), (2, .int v2), (3, .int 1), (4, .int v4), (5, .int (v4 / 2)), (6, .int r10)]) dX10_find_75 (by decide) rfl ?_
              refine E_aload_n dX10_find_76 rfl ?_
              refine E_iload dX10_find_77 rfl ?_
              refine E_putf (h' := hX (pI S_10 14 (v4 / 2))) dX10_find_79 fl_X10_find_9 ft_10_0 rfl (Nat.lt_of_lt_of_eq (by decide : 0 < 3) rfl) rfl rfl ⟨_, rfl⟩ (sX_I14 S_10 (v4 / 2)) ?_
              refine E_aload_n dX10_find_82 rfl ?_
              refine E_aload_n dX10_find_83 rfl ?_
              refine E_getf (v := .ref 2) dX10_find_84 fl_X10_find_37 rfl rfl ?_
              refine E_iload dX10_find_87 rfl ?_
              refine E_iload_n dX10_find_89 rfl ?_
              refine E_callVI (st := [.ref 45]) (c_X2_startOf l D dA ad (pI S_10 14 (v4 / 2)) (v4 / 2) v2 (pO_bnd hf)) mf_X2_startOf rfl rfl gX10_find_X2_startOf (pRc.of (ci := 2) rfl rfl) (by omega) rfl (Nat.le_of_ble_eq_true rfl) (by rfl) dX10_find_90 (fun r15 h15 q15 => ?_)
              obtain ⟨S_15, rfl, hf⟩ := q15
              dsimp only at hf
              refine E_putf (h' := hX (pI S_15 15 r15)) dX10_find_93 fl_X10_find_15 ft_10_1 rfl (Nat.lt_of_lt_of_eq (by decide : 1 < 3) rfl) rfl rfl ⟨_, rfl⟩ (sX_I15 S_15 r15) ?_
              refine E_aload_n dX10_find_96 rfl ?_
              refine E_iload dX10_find_97 rfl ?_
              refine E_putf (h' := hX (pI (pI S_15 15 r15) 16 r10)) dX10_find_99 fl_X10_find_18 ft_10_2 rfl (Nat.lt_of_lt_of_eq (by decide : 2 < 3) rfl) rfl rfl ⟨_, rfl⟩ (sX_I16 (pI S_15 15 r15) r10) ?_
              refine E_iinc (v := v4 + 1) (ls' := [(0, .ref 45), (1, .ref 1), (2, .int v2), (3, .int 1), (4, .int (v4 + 1)), (5, .int (v4 / 2)), (6, .int r10)]) dX10_find_102 rfl rfl (by decide) rfl ?_
              refine E_goto (tgt := 10) dX10_find_105 (by decide) ?_
              exact E_sub (ls' := [(0, .ref 45), (1, .ref 1), (2, .int v2), (3, .int 1), (4, .int (v4 + 1))]) ⟨rfl, rfl, rfl, rfl, rfl, trivial⟩ (ih (pI (pI S_15 15 r15) 16 r10) v2 1 (v4 + 1) hf)
theorem mf_X10_find : pMF yX10_find wsX10_find cX10_find 7 (some .boolean) 1 := ⟨⟨_, rfl⟩, by decide +kernel, by decide, by decide +kernel, by decide +kernel, by decide +kernel⟩
def f_X10_find (S : PS) : Option (Int32 × PS) :=
  pbnd (f_X0_allWeight S) (fun r1 S_1 => plp (g_X10_find_10 pfuel S_1 r1 0 0) (fun w => (fun (S_16 : PS) (v3_16 : Int32) => pgd (pbit v3_16) (some (v3_16, S_16))) w.1 w.2))
set_option maxRecDepth 100000 in
theorem c_X10_find (l : Launch) (D : va_G) (dA : Nat → ClassId) (ad : Nat → Nat) (S : PS) {P : (Int32 × PS) → Prop} (hf : pO (f_X10_find S) P) : CtI l D dA ad yX10_find wsX10_find 5 [.ref 45, .ref 1] (hX S) (fun r h' => ∃ S' : PS, h' = hX S' ∧ P (r, S')) := by
  refine CtI_of mf_X10_find rfl rfl (Nat.le_of_ble_eq_true rfl) rfl (hX_len S) ?_
  unfold f_X10_find at hf
  refine E_aload_n dX10_find_0 rfl ?_
  refine E_callVI (st := []) (c_X0_allWeight l D dA ad S (pO_bnd hf)) mf_X0_allWeight rfl rfl gX10_find_X0_allWeight (pRc.of (ci := 0) rfl rfl) (by omega) rfl (Nat.le_of_ble_eq_true rfl) (by rfl) dX10_find_1 (fun r1 h1 q1 => ?_)
  obtain ⟨S_1, rfl, hf⟩ := q1
  dsimp only at hf
  refine E_istore_n (ls' := [(0, .ref 45), (1, .ref 1), (2, .int r1)]) dX10_find_4 (by decide) rfl ?_
  refine E_iconst (v := 0) dX10_find_5 (by decide) ?_
  refine E_istore_n (ls' := [(0, .ref 45), (1, .ref 1), (2, .int r1), (3, .int 0)]) dX10_find_6 (by decide) rfl ?_
  refine E_iconst (v := 0) dX10_find_7 (by decide) ?_
  refine E_istore (ls' := [(0, .ref 45), (1, .ref 1), (2, .int r1), (3, .int 0), (4, .int 0)]) dX10_find_8 (by decide) rfl ?_
  refine E_sub (ls' := [(0, .ref 45), (1, .ref 1), (2, .int r1), (3, .int 0), (4, .int 0)]) ⟨rfl, rfl, rfl, rfl, rfl, trivial⟩ ?_
  refine l_X10_find_10 l D dA ad _ (by omega) pfuel S_1 r1 0 0 (pO_lp hf (fun x hx => ⟨x.2, rfl, hx⟩) (fun w16 hf => ?_))
  obtain ⟨S_16, v3_16⟩ := w16
  dsimp only at hf ⊢
  refine E_iload_n dX10_find_108 rfl ?_
  obtain ⟨hn_17, hf⟩ := pO_gd hf
  exact E_zret rfl dX10_find_109 (pbit_n hn_17) ⟨_, rfl, hf⟩
theorem hi_X11_trim_10 : ∀ w ∈ u_ws RX10 TX10 3, w ∈ wsX11_trim := fun w h => of_decide_eq_true (List.all_eq_true.mp (by decide +kernel : (u_ws RX10 TX10 3).all (fun w => decide (w ∈ wsX11_trim)) = true) w h)
theorem fl_X11_trim_242 : pFL wsX11_trim RX11 242 10 2 := ⟨RX10, TX10, 3, hi_X11_trim_10, rfl, by decide, by decide +kernel⟩
theorem fl_X11_trim_239 : pFL wsX11_trim RX11 239 10 1 := ⟨RX10, TX10, 3, hi_X11_trim_10, rfl, by decide, by decide +kernel⟩
theorem fl_X11_trim_236 : pFL wsX11_trim RX11 236 10 0 := ⟨RX10, TX10, 3, hi_X11_trim_10, rfl, by decide, by decide +kernel⟩
theorem mf_X11_trim : pMF yX11_trim wsX11_trim cX11_trim 2 (some .int) 1 := ⟨⟨_, rfl⟩, by decide +kernel, by decide, by decide +kernel, by decide +kernel, by decide +kernel⟩
def f_X11_trim (S : PS) (v1 : Int32) : Option (Int32 × PS) :=
  pbnd (f_X11_isWithin S v1 0 2) (fun r1 S_1 => if r1 = (0 : Int32) then (some ((-2147483648), S_1)) else (pbnd (f_X10_find S_1) (fun r3 S_3 => if r3 = (0 : Int32) then (some ((-2147483648), S_3)) else (if v1 = (0 : Int32) then (some (S_3.1 14, S_3)) else (if v1 = (1 : Int32) then (some (S_3.1 15, S_3)) else (some (S_3.1 16, S_3)))))))
set_option maxRecDepth 100000 in
theorem c_X11_trim (l : Launch) (D : va_G) (dA : Nat → ClassId) (ad : Nat → Nat) (S : PS) (v1 : Int32) {P : (Int32 × PS) → Prop} (hf : pO (f_X11_trim S v1) P) : CtI l D dA ad yX11_trim wsX11_trim 6 [.ref 0, .int v1] (hX S) (fun r h' => ∃ S' : PS, h' = hX S' ∧ P (r, S')) := by
  refine CtI_of mf_X11_trim rfl rfl (Nat.le_of_ble_eq_true rfl) rfl (hX_len S) ?_
  unfold f_X11_trim at hf
  refine E_iload_n dX11_trim_0 rfl ?_
  refine E_iconst (v := 0) dX11_trim_1 (by decide) ?_
  refine E_iconst (v := 2) dX11_trim_2 (by decide) ?_
  refine E_callSI (st := []) (c_X11_isWithin l D dA ad S v1 0 2 (pO_bnd hf)) mf_X11_isWithin rfl gX11_trim_X11_isWithin (by omega) rfl (Nat.le_of_ble_eq_true rfl) (by rfl) dX11_trim_3 (fun r1 h1 q1 => ?_)
  obtain ⟨S_1, rfl, hf⟩ := q1
  dsimp only at hf
  refine E_if_eq (tgt := 23) dX11_trim_6 (by decide) (fun c_2 => ?_) (fun c_2 => ?_)
  · have hf := pO_pos c_2 hf
    refine E_ldc (v := (-2147483648)) dX11_trim_23 (by decide +kernel) ?_
    exact E_iret rfl dX11_trim_25 ⟨_, rfl, hf⟩
  · have hf := pO_neg c_2 hf
    refine E_aload_n dX11_trim_9 rfl ?_
    refine E_getf (v := .ref 45) dX11_trim_10 fl_X11_trim_49 rfl rfl ?_
    refine E_aload_n dX11_trim_13 rfl ?_
    refine E_getf (v := .ref 1) dX11_trim_14 fl_X11_trim_12 rfl rfl ?_
    refine E_callVI (st := []) (c_X10_find l D dA ad S_1 (pO_bnd hf)) mf_X10_find rfl rfl gX11_trim_X10_find (pRc.of (ci := 10) rfl rfl) (by omega) rfl (Nat.le_of_ble_eq_true rfl) (by rfl) dX11_trim_17 (fun r3 h3 q3 => ?_)
    obtain ⟨S_3, rfl, hf⟩ := q3
    dsimp only at hf
    refine E_if_ne (tgt := 26) dX11_trim_20 (by decide) (fun c_4 => ?_) (fun c_4 => ?_)
    · have hf := pO_neg c_4 hf
      refine E_iload_n dX11_trim_26 rfl ?_
      refine E_if_ne (tgt := 38) dX11_trim_27 (by decide) (fun c_5 => ?_) (fun c_5 => ?_)
      · have hf := pO_neg c_5 hf
        refine E_iload_n dX11_trim_38 rfl ?_
        refine E_iconst (v := 1) dX11_trim_39 (by decide) ?_
        refine E_icmp_ne (tgt := 53) dX11_trim_40 (by decide) (fun c_6 => ?_) (fun c_6 => ?_)
        · have hf := pO_neg c_6 hf
          refine E_aload_n dX11_trim_53 rfl ?_
          refine E_getf (v := .ref 45) dX11_trim_54 fl_X11_trim_49 rfl rfl ?_
          refine E_getf (v := .int (S_3.1 16)) dX11_trim_57 fl_X11_trim_242 rfl rfl ?_
          exact E_iret rfl dX11_trim_60 ⟨_, rfl, hf⟩
        · have hf := pO_pos c_6 hf
          refine E_aload_n dX11_trim_43 rfl ?_
          refine E_getf (v := .ref 45) dX11_trim_44 fl_X11_trim_49 rfl rfl ?_
          refine E_getf (v := .int (S_3.1 15)) dX11_trim_47 fl_X11_trim_239 rfl rfl ?_
          refine E_goto (tgt := 60) dX11_trim_50 (by decide) ?_
          exact E_iret rfl dX11_trim_60 ⟨_, rfl, hf⟩
      · have hf := pO_pos c_5 hf
        refine E_aload_n dX11_trim_30 rfl ?_
        refine E_getf (v := .ref 45) dX11_trim_31 fl_X11_trim_49 rfl rfl ?_
        refine E_getf (v := .int (S_3.1 14)) dX11_trim_34 fl_X11_trim_236 rfl rfl ?_
        exact E_iret rfl dX11_trim_37 ⟨_, rfl, hf⟩
    · have hf := pO_pos c_4 hf
      refine E_ldc (v := (-2147483648)) dX11_trim_23 (by decide +kernel) ?_
      exact E_iret rfl dX11_trim_25 ⟨_, rfl, hf⟩
theorem hi_X11_off_11 : ∀ w ∈ u_ws RX11 TX11 10, w ∈ wsX11_off := fun w h => of_decide_eq_true (List.all_eq_true.mp (by decide +kernel : (u_ws RX11 TX11 10).all (fun w => decide (w ∈ wsX11_off)) = true) w h)
theorem fl_X11_off_12 : pFL wsX11_off RX11 12 11 0 := ⟨RX11, TX11, 10, hi_X11_off_11, rfl, by decide, by decide +kernel⟩
theorem mf_X11_off : pMF yX11_off wsX11_off cX11_off 2 (some .int) 1 := ⟨⟨_, rfl⟩, by decide +kernel, by decide, by decide +kernel, by decide +kernel, by decide +kernel⟩
def f_X11_off (S : PS) (v1 : Int32) : Option (Int32 × PS) :=
  pbnd (f_X11_isWithin S v1 (-20) 20) (fun r1 S_1 => if r1 = (0 : Int32) then (some ((-2147483648), S_1)) else (pbnd (f_X0_offOf S_1 v1) (fun r3 S_3 => some (r3, S_3))))
set_option maxRecDepth 100000 in
theorem c_X11_off (l : Launch) (D : va_G) (dA : Nat → ClassId) (ad : Nat → Nat) (S : PS) (v1 : Int32) {P : (Int32 × PS) → Prop} (hf : pO (f_X11_off S v1) P) : CtI l D dA ad yX11_off wsX11_off 5 [.ref 0, .int v1] (hX S) (fun r h' => ∃ S' : PS, h' = hX S' ∧ P (r, S')) := by
  refine CtI_of mf_X11_off rfl rfl (Nat.le_of_ble_eq_true rfl) rfl (hX_len S) ?_
  unfold f_X11_off at hf
  refine E_iload_n dX11_off_0 rfl ?_
  refine E_bipush (v := (-20)) dX11_off_1 (by decide) ?_
  refine E_bipush (v := 20) dX11_off_3 (by decide) ?_
  refine E_callSI (st := []) (c_X11_isWithin l D dA ad S v1 (-20) 20 (pO_bnd hf)) mf_X11_isWithin rfl gX11_off_X11_isWithin (by omega) rfl (Nat.le_of_ble_eq_true rfl) (by rfl) dX11_off_5 (fun r1 h1 q1 => ?_)
  obtain ⟨S_1, rfl, hf⟩ := q1
  dsimp only at hf
  refine E_if_eq (tgt := 22) dX11_off_8 (by decide) (fun c_2 => ?_) (fun c_2 => ?_)
  · have hf := pO_pos c_2 hf
    refine E_ldc (v := (-2147483648)) dX11_off_22 (by decide +kernel) ?_
    exact E_iret rfl dX11_off_24 ⟨_, rfl, hf⟩
  · have hf := pO_neg c_2 hf
    refine E_aload_n dX11_off_11 rfl ?_
    refine E_getf (v := .ref 1) dX11_off_12 fl_X11_off_12 rfl rfl ?_
    refine E_iload_n dX11_off_15 rfl ?_
    refine E_callVI (st := []) (c_X0_offOf l D dA ad S_1 v1 (pO_bnd hf)) mf_X0_offOf rfl rfl gX11_off_X0_offOf (pRc.of (ci := 0) rfl rfl) (by omega) rfl (Nat.le_of_ble_eq_true rfl) (by rfl) dX11_off_16 (fun r3 h3 q3 => ?_)
    obtain ⟨S_3, rfl, hf⟩ := q3
    dsimp only at hf
    refine E_goto (tgt := 24) dX11_off_19 (by decide) ?_
    exact E_iret rfl dX11_off_24 ⟨_, rfl, hf⟩
theorem hi_X11_heel_11 : ∀ w ∈ u_ws RX11 TX11 10, w ∈ wsX11_heel := fun w h => of_decide_eq_true (List.all_eq_true.mp (by decide +kernel : (u_ws RX11 TX11 10).all (fun w => decide (w ∈ wsX11_heel)) = true) w h)
theorem fl_X11_heel_12 : pFL wsX11_heel RX11 12 11 0 := ⟨RX11, TX11, 10, hi_X11_heel_11, rfl, by decide, by decide +kernel⟩
theorem mf_X11_heel : pMF yX11_heel wsX11_heel cX11_heel 2 (some .int) 1 := ⟨⟨_, rfl⟩, by decide +kernel, by decide, by decide +kernel, by decide +kernel, by decide +kernel⟩
def f_X11_heel (S : PS) (v1 : Int32) : Option (Int32 × PS) :=
  pbnd (f_X11_isWithin S v1 0 20) (fun r1 S_1 => if r1 = (0 : Int32) then (some ((-2147483648), S_1)) else (pbnd (f_X0_heelBehind S_1 v1) (fun r3 S_3 => some (r3, S_3))))
set_option maxRecDepth 100000 in
theorem c_X11_heel (l : Launch) (D : va_G) (dA : Nat → ClassId) (ad : Nat → Nat) (S : PS) (v1 : Int32) {P : (Int32 × PS) → Prop} (hf : pO (f_X11_heel S v1) P) : CtI l D dA ad yX11_heel wsX11_heel 6 [.ref 0, .int v1] (hX S) (fun r h' => ∃ S' : PS, h' = hX S' ∧ P (r, S')) := by
  refine CtI_of mf_X11_heel rfl rfl (Nat.le_of_ble_eq_true rfl) rfl (hX_len S) ?_
  unfold f_X11_heel at hf
  refine E_iload_n dX11_heel_0 rfl ?_
  refine E_iconst (v := 0) dX11_heel_1 (by decide) ?_
  refine E_bipush (v := 20) dX11_heel_2 (by decide) ?_
  refine E_callSI (st := []) (c_X11_isWithin l D dA ad S v1 0 20 (pO_bnd hf)) mf_X11_isWithin rfl gX11_heel_X11_isWithin (by omega) rfl (Nat.le_of_ble_eq_true rfl) (by rfl) dX11_heel_4 (fun r1 h1 q1 => ?_)
  obtain ⟨S_1, rfl, hf⟩ := q1
  dsimp only at hf
  refine E_if_eq (tgt := 21) dX11_heel_7 (by decide) (fun c_2 => ?_) (fun c_2 => ?_)
  · have hf := pO_pos c_2 hf
    refine E_ldc (v := (-2147483648)) dX11_heel_21 (by decide +kernel) ?_
    exact E_iret rfl dX11_heel_23 ⟨_, rfl, hf⟩
  · have hf := pO_neg c_2 hf
    refine E_aload_n dX11_heel_10 rfl ?_
    refine E_getf (v := .ref 1) dX11_heel_11 fl_X11_heel_12 rfl rfl ?_
    refine E_iload_n dX11_heel_14 rfl ?_
    refine E_callVI (st := []) (c_X0_heelBehind l D dA ad S_1 v1 (pO_bnd hf)) mf_X0_heelBehind rfl rfl gX11_heel_X0_heelBehind (pRc.of (ci := 0) rfl rfl) (by omega) rfl (Nat.le_of_ble_eq_true rfl) (by rfl) dX11_heel_15 (fun r3 h3 q3 => ?_)
    obtain ⟨S_3, rfl, hf⟩ := q3
    dsimp only at hf
    refine E_goto (tgt := 23) dX11_heel_18 (by decide) ?_
    exact E_iret rfl dX11_heel_23 ⟨_, rfl, hf⟩
theorem hi_X11_steady_11 : ∀ w ∈ u_ws RX11 TX11 10, w ∈ wsX11_steady := fun w h => of_decide_eq_true (List.all_eq_true.mp (by decide +kernel : (u_ws RX11 TX11 10).all (fun w => decide (w ∈ wsX11_steady)) = true) w h)
theorem fl_X11_steady_12 : pFL wsX11_steady RX11 12 11 0 := ⟨RX11, TX11, 10, hi_X11_steady_11, rfl, by decide, by decide +kernel⟩
def g_X0_roundsTillSteady_21 : Nat → PS → Int32 → Int32 → Int32 → Option ((Int32 × PS) ⊕ (PS))
  | 0, _, _, _, _ => none
  | fuel + 1, S, v1, v2, v3 =>
    if (20 : Int32) < v3 then (some (.inr (S))) else (pbnd (f_X0_heelRolledBy S v2 v1) (fun r5 S_5 => if r5 = v2 then (some (.inl (v3, S_5))) else (g_X0_roundsTillSteady_21 fuel S_5 v1 r5 (v3 + 1))))
set_option maxRecDepth 100000 in
theorem l_X0_roundsTillSteady_21 (l : Launch) (D : va_G) (dA : Nat → ClassId) (ad : Nat → Nat) (d : Nat) (hd : 5 ≤ d) {Q : Int32 → List PC → Prop} : ∀ (fuel : Nat) (S : PS) (v1 : Int32) (v2 : Int32) (v3 : Int32), pO (g_X0_roundsTillSteady_21 fuel S v1 v2 v3) (fun y => match y with
    | .inl x => Q x.1 (hX x.2)
    | .inr w => Ev l D dA ad wsX0_roundsTillSteady cX0_roundsTillSteady RX0 5 (some .int) d 52 (pKi D dA ad 52 Q) 52 [] [] (hX w)) → Ev l D dA ad wsX0_roundsTillSteady cX0_roundsTillSteady RX0 5 (some .int) d 52 (pKi D dA ad 52 Q) 21 [(0, .ref 1), (1, .int v1), (2, .int v2), (3, .int v3)] [] (hX S) := by
  intro fuel
  induction fuel with
  | zero =>
    intro S v1 v2 v3 hf
    exact hf.elim
  | succ fuel ih =>
    intro S v1 v2 v3 hf
    rw [g_X0_roundsTillSteady_21] at hf
    refine E_iload_n dX0_roundsTillSteady_21 rfl ?_
    refine E_bipush (v := 20) dX0_roundsTillSteady_22 (by decide) ?_
    refine E_icmp_gt (tgt := 52) dX0_roundsTillSteady_24 (by decide) (fun c_4 => ?_) (fun c_4 => ?_)
    · have hf := pO_pos c_4 hf
      exact E_sub (ls' := []) trivial hf
    · have hf := pO_neg c_4 hf
      refine E_aload_n dX0_roundsTillSteady_27 rfl ?_
      refine E_iload_n dX0_roundsTillSteady_28 rfl ?_
      refine E_iload_n dX0_roundsTillSteady_29 rfl ?_
      refine E_callVI (st := []) (c_X0_heelRolledBy l D dA ad S v2 v1 (pO_bnd hf)) mf_X0_heelRolledBy rfl rfl gX0_roundsTillSteady_X0_heelRolledBy (pRc.of (ci := 0) rfl rfl) (by omega) rfl (Nat.le_of_ble_eq_true rfl) (by rfl) dX0_roundsTillSteady_30 (fun r5 h5 q5 => ?_)
      obtain ⟨S_5, rfl, hf⟩ := q5
      dsimp only at hf
      refine E_istore (ls' := [(0, .ref 1), (1, .int v1), (2, .int v2), (3, .int v3), (4, .int r5)]) dX0_roundsTillSteady_33 (by decide) rfl ?_
      refine E_iload dX0_roundsTillSteady_35 rfl ?_
      refine E_iload_n dX0_roundsTillSteady_37 rfl ?_
      refine E_icmp_ne (tgt := 43) dX0_roundsTillSteady_38 (by decide) (fun c_6 => ?_) (fun c_6 => ?_)
      · have hf := pO_neg c_6 hf
        refine E_iload dX0_roundsTillSteady_43 rfl ?_
        refine E_istore_n (ls' := [(0, .ref 1), (1, .int v1), (2, .int r5), (3, .int v3), (4, .int r5)]) dX0_roundsTillSteady_45 (by decide) rfl ?_
        refine E_iinc (v := v3 + 1) (ls' := [(0, .ref 1), (1, .int v1), (2, .int r5), (3, .int (v3 + 1)), (4, .int r5)]) dX0_roundsTillSteady_46 rfl rfl (by decide) rfl ?_
        refine E_goto (tgt := 21) dX0_roundsTillSteady_49 (by decide) ?_
        exact E_sub (ls' := [(0, .ref 1), (1, .int v1), (2, .int r5), (3, .int (v3 + 1))]) ⟨rfl, rfl, rfl, rfl, trivial⟩ (ih S_5 v1 r5 (v3 + 1) hf)
      · have hf := pO_pos c_6 hf
        refine E_iload_n dX0_roundsTillSteady_41 rfl ?_
        exact E_iret rfl dX0_roundsTillSteady_42 hf
theorem mf_X0_roundsTillSteady : pMF yX0_roundsTillSteady wsX0_roundsTillSteady cX0_roundsTillSteady 5 (some .int) 0 := ⟨⟨_, rfl⟩, by decide +kernel, by decide, by decide +kernel, by decide +kernel, by decide +kernel⟩
def f_X0_roundsTillSteady (S : PS) : Option (Int32 × PS) :=
  pbnd (f_X0_allRighting S) (fun r1 S_1 => if (0 : Int32) < r1 then (pbnd (f_X0_heelRolledBy S_1 0 r1) (fun r3 S_3 => plp (g_X0_roundsTillSteady_21 pfuel S_3 r1 r3 0) (fun (S_7 : PS) => some ((-2), S_7)))) else (some ((-2), S_1)))
set_option maxRecDepth 100000 in
theorem c_X0_roundsTillSteady (l : Launch) (D : va_G) (dA : Nat → ClassId) (ad : Nat → Nat) (S : PS) {P : (Int32 × PS) → Prop} (hf : pO (f_X0_roundsTillSteady S) P) : CtI l D dA ad yX0_roundsTillSteady wsX0_roundsTillSteady 5 [.ref 1] (hX S) (fun r h' => ∃ S' : PS, h' = hX S' ∧ P (r, S')) := by
  refine CtI_of mf_X0_roundsTillSteady rfl rfl (Nat.le_of_ble_eq_true rfl) rfl (hX_len S) ?_
  unfold f_X0_roundsTillSteady at hf
  refine E_aload_n dX0_roundsTillSteady_0 rfl ?_
  refine E_callVI (st := []) (c_X0_allRighting l D dA ad S (pO_bnd hf)) mf_X0_allRighting rfl rfl gX0_roundsTillSteady_X0_allRighting (pRc.of (ci := 0) rfl rfl) (by omega) rfl (Nat.le_of_ble_eq_true rfl) (by rfl) dX0_roundsTillSteady_1 (fun r1 h1 q1 => ?_)
  obtain ⟨S_1, rfl, hf⟩ := q1
  dsimp only at hf
  refine E_istore_n (ls' := [(0, .ref 1), (1, .int r1)]) dX0_roundsTillSteady_4 (by decide) rfl ?_
  refine E_iload_n dX0_roundsTillSteady_5 rfl ?_
  refine E_if_gt (tgt := 12) dX0_roundsTillSteady_6 (by decide) (fun c_2 => ?_) (fun c_2 => ?_)
  · have hf := pO_pos c_2 hf
    refine E_aload_n dX0_roundsTillSteady_12 rfl ?_
    refine E_iconst (v := 0) dX0_roundsTillSteady_13 (by decide) ?_
    refine E_iload_n dX0_roundsTillSteady_14 rfl ?_
    refine E_callVI (st := []) (c_X0_heelRolledBy l D dA ad S_1 0 r1 (pO_bnd hf)) mf_X0_heelRolledBy rfl rfl gX0_roundsTillSteady_X0_heelRolledBy (pRc.of (ci := 0) rfl rfl) (by omega) rfl (Nat.le_of_ble_eq_true rfl) (by rfl) dX0_roundsTillSteady_15 (fun r3 h3 q3 => ?_)
    obtain ⟨S_3, rfl, hf⟩ := q3
    dsimp only at hf
    refine E_istore_n (ls' := [(0, .ref 1), (1, .int r1), (2, .int r3)]) dX0_roundsTillSteady_18 (by decide) rfl ?_
    refine E_iconst (v := 0) dX0_roundsTillSteady_19 (by decide) ?_
    refine E_istore_n (ls' := [(0, .ref 1), (1, .int r1), (2, .int r3), (3, .int 0)]) dX0_roundsTillSteady_20 (by decide) rfl ?_
    refine E_sub (ls' := [(0, .ref 1), (1, .int r1), (2, .int r3), (3, .int 0)]) ⟨rfl, rfl, rfl, rfl, trivial⟩ ?_
    refine l_X0_roundsTillSteady_21 l D dA ad _ (by omega) pfuel S_3 r1 r3 0 (pO_lp hf (fun x hx => ⟨x.2, rfl, hx⟩) (fun w7 hf => ?_))
    obtain ⟨S_7, rfl⟩ : ∃ z, z = w7 := ⟨_, rfl⟩
    dsimp only at hf ⊢
    refine E_bipush (v := (-2)) dX0_roundsTillSteady_52 (by decide) ?_
    exact E_iret rfl dX0_roundsTillSteady_54 ⟨_, rfl, hf⟩
  · have hf := pO_neg c_2 hf
    refine E_bipush (v := (-2)) dX0_roundsTillSteady_9 (by decide) ?_
    exact E_iret rfl dX0_roundsTillSteady_11 ⟨_, rfl, hf⟩
theorem mf_X11_steady : pMF yX11_steady wsX11_steady cX11_steady 1 (some .int) 0 := ⟨⟨_, rfl⟩, by decide +kernel, by decide, by decide +kernel, by decide +kernel, by decide +kernel⟩
def f_X11_steady (S : PS) : Option (Int32 × PS) :=
  pbnd (f_X0_roundsTillSteady S) (fun r1 S_1 => some (r1, S_1))
set_option maxRecDepth 100000 in
theorem c_X11_steady (l : Launch) (D : va_G) (dA : Nat → ClassId) (ad : Nat → Nat) (S : PS) {P : (Int32 × PS) → Prop} (hf : pO (f_X11_steady S) P) : CtI l D dA ad yX11_steady wsX11_steady 6 [.ref 0] (hX S) (fun r h' => ∃ S' : PS, h' = hX S' ∧ P (r, S')) := by
  refine CtI_of mf_X11_steady rfl rfl (Nat.le_of_ble_eq_true rfl) rfl (hX_len S) ?_
  unfold f_X11_steady at hf
  refine E_aload_n dX11_steady_0 rfl ?_
  refine E_getf (v := .ref 1) dX11_steady_1 fl_X11_steady_12 rfl rfl ?_
  refine E_callVI (st := []) (c_X0_roundsTillSteady l D dA ad S (pO_bnd hf)) mf_X0_roundsTillSteady rfl rfl gX11_steady_X0_roundsTillSteady (pRc.of (ci := 0) rfl rfl) (by omega) rfl (Nat.le_of_ble_eq_true rfl) (by rfl) dX11_steady_4 (fun r1 h1 q1 => ?_)
  obtain ⟨S_1, rfl, hf⟩ := q1
  dsimp only at hf
  exact E_iret rfl dX11_steady_7 ⟨_, rfl, hf⟩
theorem hi_X11_grounded_11 : ∀ w ∈ u_ws RX11 TX11 10, w ∈ wsX11_grounded := fun w h => of_decide_eq_true (List.all_eq_true.mp (by decide +kernel : (u_ws RX11 TX11 10).all (fun w => decide (w ∈ wsX11_grounded)) = true) w h)
theorem fl_X11_grounded_12 : pFL wsX11_grounded RX11 12 11 0 := ⟨RX11, TX11, 10, hi_X11_grounded_11, rfl, by decide, by decide +kernel⟩
theorem hi_X11_grounded_0 : ∀ w ∈ u_ws RX0 TX0 3, w ∈ wsX11_grounded := fun w h => of_decide_eq_true (List.all_eq_true.mp (by decide +kernel : (u_ws RX0 TX0 3).all (fun w => decide (w ∈ wsX11_grounded)) = true) w h)
theorem fl_X11_grounded_82 : pFL wsX11_grounded RX11 82 0 0 := ⟨RX0, TX0, 3, hi_X11_grounded_0, rfl, by decide, by decide +kernel⟩
theorem mf_X11_grounded : pMF yX11_grounded wsX11_grounded cX11_grounded 3 (some .int) 1 := ⟨⟨_, rfl⟩, by decide +kernel, by decide, by decide +kernel, by decide +kernel, by decide +kernel⟩
def f_X11_grounded (S : PS) (v1 : Int32) : Option (Int32 × PS) :=
  pbnd (f_X11_isWithin S v1 0 9999) (fun r1 S_1 => if r1 = (0 : Int32) then (some ((-1), S_1)) else (pbnd (f_X0_allWeight S_1) (fun r3 S_3 => pbnd (f_X2_startOf S_3 0 r3) (fun r4 S_4 => if r4 = ((-2) : Int32) then (some ((-5), S_4)) else (pbnd (f_X2_leastRise S_4) (fun r6 S_6 => if (r4 - (64 * r6)) ≤ v1 then (some (0, S_6)) else (some (1, S_6))))))))
set_option maxRecDepth 100000 in
theorem c_X11_grounded (l : Launch) (D : va_G) (dA : Nat → ClassId) (ad : Nat → Nat) (S : PS) (v1 : Int32) {P : (Int32 × PS) → Prop} (hf : pO (f_X11_grounded S v1) P) : CtI l D dA ad yX11_grounded wsX11_grounded 4 [.ref 0, .int v1] (hX S) (fun r h' => ∃ S' : PS, h' = hX S' ∧ P (r, S')) := by
  refine CtI_of mf_X11_grounded rfl rfl (Nat.le_of_ble_eq_true rfl) rfl (hX_len S) ?_
  unfold f_X11_grounded at hf
  refine E_iload_n dX11_grounded_0 rfl ?_
  refine E_iconst (v := 0) dX11_grounded_1 (by decide) ?_
  refine E_sipush (v := 9999) dX11_grounded_2 (by decide) ?_
  refine E_callSI (st := []) (c_X11_isWithin l D dA ad S v1 0 9999 (pO_bnd hf)) mf_X11_isWithin rfl gX11_grounded_X11_isWithin (by omega) rfl (Nat.le_of_ble_eq_true rfl) (by rfl) dX11_grounded_5 (fun r1 h1 q1 => ?_)
  obtain ⟨S_1, rfl, hf⟩ := q1
  dsimp only at hf
  refine E_if_ne (tgt := 13) dX11_grounded_8 (by decide) (fun c_2 => ?_) (fun c_2 => ?_)
  · have hf := pO_neg c_2 hf
    refine E_aload_n dX11_grounded_13 rfl ?_
    refine E_getf (v := .ref 1) dX11_grounded_14 fl_X11_grounded_12 rfl rfl ?_
    refine E_getf (v := .ref 2) dX11_grounded_17 fl_X11_grounded_82 rfl rfl ?_
    refine E_iconst (v := 0) dX11_grounded_20 (by decide) ?_
    refine E_aload_n dX11_grounded_21 rfl ?_
    refine E_getf (v := .ref 1) dX11_grounded_22 fl_X11_grounded_12 rfl rfl ?_
    refine E_callVI (st := [.int 0, .ref 2]) (c_X0_allWeight l D dA ad S_1 (pO_bnd hf)) mf_X0_allWeight rfl rfl gX11_grounded_X0_allWeight (pRc.of (ci := 0) rfl rfl) (by omega) rfl (Nat.le_of_ble_eq_true rfl) (by rfl) dX11_grounded_25 (fun r3 h3 q3 => ?_)
    obtain ⟨S_3, rfl, hf⟩ := q3
    dsimp only at hf
    refine E_callVI (st := []) (c_X2_startOf l D dA ad S_3 0 r3 (pO_bnd hf)) mf_X2_startOf rfl rfl gX11_grounded_X2_startOf (pRc.of (ci := 2) rfl rfl) (by omega) rfl (Nat.le_of_ble_eq_true rfl) (by rfl) dX11_grounded_28 (fun r4 h4 q4 => ?_)
    obtain ⟨S_4, rfl, hf⟩ := q4
    dsimp only at hf
    refine E_istore_n (ls' := [(0, .ref 0), (1, .int v1), (2, .int r4)]) dX11_grounded_31 (by decide) rfl ?_
    refine E_iload_n dX11_grounded_32 rfl ?_
    refine E_bipush (v := (-2)) dX11_grounded_33 (by decide) ?_
    refine E_icmp_ne (tgt := 41) dX11_grounded_35 (by decide) (fun c_5 => ?_) (fun c_5 => ?_)
    · have hf := pO_neg c_5 hf
      refine E_iload_n dX11_grounded_41 rfl ?_
      refine E_bipush (v := 64) dX11_grounded_42 (by decide) ?_
      refine E_aload_n dX11_grounded_44 rfl ?_
      refine E_getf (v := .ref 1) dX11_grounded_45 fl_X11_grounded_12 rfl rfl ?_
      refine E_getf (v := .ref 2) dX11_grounded_48 fl_X11_grounded_82 rfl rfl ?_
      refine E_callVI (st := [.int 64, .int r4]) (c_X2_leastRise l D dA ad S_4 (pO_bnd hf)) mf_X2_leastRise rfl rfl gX11_grounded_X2_leastRise (pRc.of (ci := 2) rfl rfl) (by omega) rfl (Nat.le_of_ble_eq_true rfl) (by rfl) dX11_grounded_51 (fun r6 h6 q6 => ?_)
      obtain ⟨S_6, rfl, hf⟩ := q6
      dsimp only at hf
      refine E_imul dX11_grounded_54 ?_
      refine E_isub dX11_grounded_55 ?_
      refine E_iload_n dX11_grounded_56 rfl ?_
      refine E_icmp_le (tgt := 64) dX11_grounded_57 (by decide) (fun c_7 => ?_) (fun c_7 => ?_)
      · have hf := pO_pos c_7 hf
        refine E_iconst (v := 0) dX11_grounded_64 (by decide) ?_
        exact E_iret rfl dX11_grounded_65 ⟨_, rfl, hf⟩
      · have hf := pO_neg c_7 hf
        refine E_iconst (v := 1) dX11_grounded_60 (by decide) ?_
        refine E_goto (tgt := 65) dX11_grounded_61 (by decide) ?_
        exact E_iret rfl dX11_grounded_65 ⟨_, rfl, hf⟩
    · have hf := pO_pos c_5 hf
      refine E_bipush (v := (-5)) dX11_grounded_38 (by decide) ?_
      exact E_iret rfl dX11_grounded_40 ⟨_, rfl, hf⟩
  · have hf := pO_pos c_2 hf
    refine E_iconst (v := (-1)) dX11_grounded_11 (by decide) ?_
    exact E_iret rfl dX11_grounded_12 ⟨_, rfl, hf⟩
theorem hi_X11_lighten_11 : ∀ w ∈ u_ws RX11 TX11 10, w ∈ wsX11_lighten := fun w h => of_decide_eq_true (List.all_eq_true.mp (by decide +kernel : (u_ws RX11 TX11 10).all (fun w => decide (w ∈ wsX11_lighten)) = true) w h)
theorem fl_X11_lighten_12 : pFL wsX11_lighten RX11 12 11 0 := ⟨RX11, TX11, 10, hi_X11_lighten_11, rfl, by decide, by decide +kernel⟩
theorem hi_X11_lighten_0 : ∀ w ∈ u_ws RX0 TX0 3, w ∈ wsX11_lighten := fun w h => of_decide_eq_true (List.all_eq_true.mp (by decide +kernel : (u_ws RX0 TX0 3).all (fun w => decide (w ∈ wsX11_lighten)) = true) w h)
theorem fl_X11_lighten_82 : pFL wsX11_lighten RX11 82 0 0 := ⟨RX0, TX0, 3, hi_X11_lighten_0, rfl, by decide, by decide +kernel⟩
theorem mf_X2_carriedAt : pMF yX2_carriedAt wsX2_carriedAt cX2_carriedAt 2 (some .int) 1 := ⟨⟨_, rfl⟩, by decide +kernel, by decide, by decide +kernel, by decide +kernel, by decide +kernel⟩
def f_X2_carriedAt (S : PS) (v1 : Int32) : Option (Int32 × PS) :=
  pbnd (f_X2_waterOfSlope S v1 0) (fun r1 S_1 => some (r1 / 64, S_1))
set_option maxRecDepth 100000 in
theorem c_X2_carriedAt (l : Launch) (D : va_G) (dA : Nat → ClassId) (ad : Nat → Nat) (S : PS) (v1 : Int32) {P : (Int32 × PS) → Prop} (hf : pO (f_X2_carriedAt S v1) P) : CtI l D dA ad yX2_carriedAt wsX2_carriedAt 3 [.ref 2, .int v1] (hX S) (fun r h' => ∃ S' : PS, h' = hX S' ∧ P (r, S')) := by
  refine CtI_of mf_X2_carriedAt rfl rfl (Nat.le_of_ble_eq_true rfl) rfl (hX_len S) ?_
  unfold f_X2_carriedAt at hf
  refine E_aload_n dX2_carriedAt_0 rfl ?_
  refine E_iload_n dX2_carriedAt_1 rfl ?_
  refine E_iconst (v := 0) dX2_carriedAt_2 (by decide) ?_
  refine E_callVI (st := []) (c_X2_waterOfSlope l D dA ad S v1 0 (pO_bnd hf)) mf_X2_waterOfSlope rfl rfl gX2_carriedAt_X2_waterOfSlope (pRc.of (ci := 2) rfl rfl) (by omega) rfl (Nat.le_of_ble_eq_true rfl) (by rfl) dX2_carriedAt_3 (fun r1 h1 q1 => ?_)
  obtain ⟨S_1, rfl, hf⟩ := q1
  dsimp only at hf
  refine E_bipush (v := 64) dX2_carriedAt_6 (by decide) ?_
  refine E_idiv dX2_carriedAt_8 (by decide) ?_
  exact E_iret rfl dX2_carriedAt_9 ⟨_, rfl, hf⟩
theorem mf_X11_lighten : pMF yX11_lighten wsX11_lighten cX11_lighten 3 (some .int) 1 := ⟨⟨_, rfl⟩, by decide +kernel, by decide, by decide +kernel, by decide +kernel, by decide +kernel⟩
def f_X11_lighten (S : PS) (v1 : Int32) : Option (Int32 × PS) :=
  pbnd (f_X11_isWithin S v1 0 9999) (fun r1 S_1 => if r1 = (0 : Int32) then (some ((-1), S_1)) else (pbnd (f_X2_leastRise S_1) (fun r3 S_3 => pbnd (f_X2_carriedAt S_3 (v1 + (64 * r3))) (fun r4 S_4 => pbnd (f_X0_allWeight S_4) (fun r5 S_5 => some (pmax 0 (r5 - r4), S_5))))))
set_option maxRecDepth 100000 in
theorem c_X11_lighten (l : Launch) (D : va_G) (dA : Nat → ClassId) (ad : Nat → Nat) (S : PS) (v1 : Int32) {P : (Int32 × PS) → Prop} (hf : pO (f_X11_lighten S v1) P) : CtI l D dA ad yX11_lighten wsX11_lighten 4 [.ref 0, .int v1] (hX S) (fun r h' => ∃ S' : PS, h' = hX S' ∧ P (r, S')) := by
  refine CtI_of mf_X11_lighten rfl rfl (Nat.le_of_ble_eq_true rfl) rfl (hX_len S) ?_
  unfold f_X11_lighten at hf
  refine E_iload_n dX11_lighten_0 rfl ?_
  refine E_iconst (v := 0) dX11_lighten_1 (by decide) ?_
  refine E_sipush (v := 9999) dX11_lighten_2 (by decide) ?_
  refine E_callSI (st := []) (c_X11_isWithin l D dA ad S v1 0 9999 (pO_bnd hf)) mf_X11_isWithin rfl gX11_lighten_X11_isWithin (by omega) rfl (Nat.le_of_ble_eq_true rfl) (by rfl) dX11_lighten_5 (fun r1 h1 q1 => ?_)
  obtain ⟨S_1, rfl, hf⟩ := q1
  dsimp only at hf
  refine E_if_ne (tgt := 13) dX11_lighten_8 (by decide) (fun c_2 => ?_) (fun c_2 => ?_)
  · have hf := pO_neg c_2 hf
    refine E_aload_n dX11_lighten_13 rfl ?_
    refine E_getf (v := .ref 1) dX11_lighten_14 fl_X11_lighten_12 rfl rfl ?_
    refine E_getf (v := .ref 2) dX11_lighten_17 fl_X11_lighten_82 rfl rfl ?_
    refine E_iload_n dX11_lighten_20 rfl ?_
    refine E_bipush (v := 64) dX11_lighten_21 (by decide) ?_
    refine E_aload_n dX11_lighten_23 rfl ?_
    refine E_getf (v := .ref 1) dX11_lighten_24 fl_X11_lighten_12 rfl rfl ?_
    refine E_getf (v := .ref 2) dX11_lighten_27 fl_X11_lighten_82 rfl rfl ?_
    refine E_callVI (st := [.int 64, .int v1, .ref 2]) (c_X2_leastRise l D dA ad S_1 (pO_bnd hf)) mf_X2_leastRise rfl rfl gX11_lighten_X2_leastRise (pRc.of (ci := 2) rfl rfl) (by omega) rfl (Nat.le_of_ble_eq_true rfl) (by rfl) dX11_lighten_30 (fun r3 h3 q3 => ?_)
    obtain ⟨S_3, rfl, hf⟩ := q3
    dsimp only at hf
    refine E_imul dX11_lighten_33 ?_
    refine E_iadd dX11_lighten_34 ?_
    refine E_callVI (st := []) (c_X2_carriedAt l D dA ad S_3 (v1 + (64 * r3)) (pO_bnd hf)) mf_X2_carriedAt rfl rfl gX11_lighten_X2_carriedAt (pRc.of (ci := 2) rfl rfl) (by omega) rfl (Nat.le_of_ble_eq_true rfl) (by rfl) dX11_lighten_35 (fun r4 h4 q4 => ?_)
    obtain ⟨S_4, rfl, hf⟩ := q4
    dsimp only at hf
    refine E_istore_n (ls' := [(0, .ref 0), (1, .int v1), (2, .int r4)]) dX11_lighten_38 (by decide) rfl ?_
    refine E_iconst (v := 0) dX11_lighten_39 (by decide) ?_
    refine E_aload_n dX11_lighten_40 rfl ?_
    refine E_getf (v := .ref 1) dX11_lighten_41 fl_X11_lighten_12 rfl rfl ?_
    refine E_callVI (st := [.int 0]) (c_X0_allWeight l D dA ad S_4 (pO_bnd hf)) mf_X0_allWeight rfl rfl gX11_lighten_X0_allWeight (pRc.of (ci := 0) rfl rfl) (by omega) rfl (Nat.le_of_ble_eq_true rfl) (by rfl) dX11_lighten_44 (fun r5 h5 q5 => ?_)
    obtain ⟨S_5, rfl, hf⟩ := q5
    dsimp only at hf
    refine E_iload_n dX11_lighten_47 rfl ?_
    refine E_isub dX11_lighten_48 ?_
    refine E_mmax (by decide +kernel) (by decide +kernel) (by decide +kernel) (by decide +kernel) (by omega) (Nat.le_of_ble_eq_true rfl) (by rfl) dX11_lighten_49 ?_
    exact E_iret rfl dX11_lighten_52 ⟨_, rfl, hf⟩
  · have hf := pO_pos c_2 hf
    refine E_iconst (v := (-1)) dX11_lighten_11 (by decide) ?_
    exact E_iret rfl dX11_lighten_12 ⟨_, rfl, hf⟩
theorem hi_X11_more_11 : ∀ w ∈ u_ws RX11 TX11 10, w ∈ wsX11_more := fun w h => of_decide_eq_true (List.all_eq_true.mp (by decide +kernel : (u_ws RX11 TX11 10).all (fun w => decide (w ∈ wsX11_more)) = true) w h)
theorem fl_X11_more_12 : pFL wsX11_more RX11 12 11 0 := ⟨RX11, TX11, 10, hi_X11_more_11, rfl, by decide, by decide +kernel⟩
theorem hi_X11_more_0 : ∀ w ∈ u_ws RX0 TX0 3, w ∈ wsX11_more := fun w h => of_decide_eq_true (List.all_eq_true.mp (by decide +kernel : (u_ws RX0 TX0 3).all (fun w => decide (w ∈ wsX11_more)) = true) w h)
theorem fl_X11_more_82 : pFL wsX11_more RX11 82 0 0 := ⟨RX0, TX0, 3, hi_X11_more_0, rfl, by decide, by decide +kernel⟩
theorem mf_X11_more : pMF yX11_more wsX11_more cX11_more 2 (some .int) 1 := ⟨⟨_, rfl⟩, by decide +kernel, by decide, by decide +kernel, by decide +kernel, by decide +kernel⟩
def f_X11_more (S : PS) (v1 : Int32) : Option (Int32 × PS) :=
  pbnd (f_X2_top S) (fun r1 S_1 => pbnd (f_X11_isWithin S_1 v1 0 r1) (fun r2 S_2 => if r2 = (0 : Int32) then (some ((-2147483648), S_2)) else (pbnd (f_X2_carriedAt S_2 v1) (fun r4 S_4 => pbnd (f_X0_allWeight S_4) (fun r5 S_5 => some (r4 - r5, S_5))))))
set_option maxRecDepth 100000 in
theorem c_X11_more (l : Launch) (D : va_G) (dA : Nat → ClassId) (ad : Nat → Nat) (S : PS) (v1 : Int32) {P : (Int32 × PS) → Prop} (hf : pO (f_X11_more S v1) P) : CtI l D dA ad yX11_more wsX11_more 4 [.ref 0, .int v1] (hX S) (fun r h' => ∃ S' : PS, h' = hX S' ∧ P (r, S')) := by
  refine CtI_of mf_X11_more rfl rfl (Nat.le_of_ble_eq_true rfl) rfl (hX_len S) ?_
  unfold f_X11_more at hf
  refine E_iload_n dX11_more_0 rfl ?_
  refine E_iconst (v := 0) dX11_more_1 (by decide) ?_
  refine E_aload_n dX11_more_2 rfl ?_
  refine E_getf (v := .ref 1) dX11_more_3 fl_X11_more_12 rfl rfl ?_
  refine E_getf (v := .ref 2) dX11_more_6 fl_X11_more_82 rfl rfl ?_
  refine E_callVI (st := [.int 0, .int v1]) (c_X2_top l D dA ad S (pO_bnd hf)) mf_X2_top rfl rfl gX11_more_X2_top (pRc.of (ci := 2) rfl rfl) (by omega) rfl (Nat.le_of_ble_eq_true rfl) (by rfl) dX11_more_9 (fun r1 h1 q1 => ?_)
  obtain ⟨S_1, rfl, hf⟩ := q1
  dsimp only at hf
  refine E_callSI (st := []) (c_X11_isWithin l D dA ad S_1 v1 0 r1 (pO_bnd hf)) mf_X11_isWithin rfl gX11_more_X11_isWithin (by omega) rfl (Nat.le_of_ble_eq_true rfl) (by rfl) dX11_more_12 (fun r2 h2 q2 => ?_)
  obtain ⟨S_2, rfl, hf⟩ := q2
  dsimp only at hf
  refine E_if_ne (tgt := 21) dX11_more_15 (by decide) (fun c_3 => ?_) (fun c_3 => ?_)
  · have hf := pO_neg c_3 hf
    refine E_aload_n dX11_more_21 rfl ?_
    refine E_getf (v := .ref 1) dX11_more_22 fl_X11_more_12 rfl rfl ?_
    refine E_getf (v := .ref 2) dX11_more_25 fl_X11_more_82 rfl rfl ?_
    refine E_iload_n dX11_more_28 rfl ?_
    refine E_callVI (st := []) (c_X2_carriedAt l D dA ad S_2 v1 (pO_bnd hf)) mf_X2_carriedAt rfl rfl gX11_more_X2_carriedAt (pRc.of (ci := 2) rfl rfl) (by omega) rfl (Nat.le_of_ble_eq_true rfl) (by rfl) dX11_more_29 (fun r4 h4 q4 => ?_)
    obtain ⟨S_4, rfl, hf⟩ := q4
    dsimp only at hf
    refine E_aload_n dX11_more_32 rfl ?_
    refine E_getf (v := .ref 1) dX11_more_33 fl_X11_more_12 rfl rfl ?_
    refine E_callVI (st := [.int r4]) (c_X0_allWeight l D dA ad S_4 (pO_bnd hf)) mf_X0_allWeight rfl rfl gX11_more_X0_allWeight (pRc.of (ci := 0) rfl rfl) (by omega) rfl (Nat.le_of_ble_eq_true rfl) (by rfl) dX11_more_36 (fun r5 h5 q5 => ?_)
    obtain ⟨S_5, rfl, hf⟩ := q5
    dsimp only at hf
    refine E_isub dX11_more_39 ?_
    exact E_iret rfl dX11_more_40 ⟨_, rfl, hf⟩
  · have hf := pO_pos c_3 hf
    refine E_ldc (v := (-2147483648)) dX11_more_18 (by decide +kernel) ?_
    exact E_iret rfl dX11_more_20 ⟨_, rfl, hf⟩
theorem hi_X11_order_11 : ∀ w ∈ u_ws RX11 TX11 10, w ∈ wsX11_order := fun w h => of_decide_eq_true (List.all_eq_true.mp (by decide +kernel : (u_ws RX11 TX11 10).all (fun w => decide (w ∈ wsX11_order)) = true) w h)
theorem fl_X11_order_12 : pFL wsX11_order RX11 12 11 0 := ⟨RX11, TX11, 10, hi_X11_order_11, rfl, by decide, by decide +kernel⟩
theorem hi_X11_order_0 : ∀ w ∈ u_ws RX0 TX0 3, w ∈ wsX11_order := fun w h => of_decide_eq_true (List.all_eq_true.mp (by decide +kernel : (u_ws RX0 TX0 3).all (fun w => decide (w ∈ wsX11_order)) = true) w h)
theorem fl_X11_order_131 : pFL wsX11_order RX11 131 0 1 := ⟨RX0, TX0, 3, hi_X11_order_0, rfl, by decide, by decide +kernel⟩
theorem hi_X11_order_1 : ∀ w ∈ u_ws RX1 TX1 7, w ∈ wsX11_order := fun w h => of_decide_eq_true (List.all_eq_true.mp (by decide +kernel : (u_ws RX1 TX1 7).all (fun w => decide (w ∈ wsX11_order)) = true) w h)
theorem fl_X11_order_140 : pFL wsX11_order RX11 140 1 0 := ⟨RX1, TX1, 7, hi_X11_order_1, rfl, by decide, by decide +kernel⟩
theorem fl_X11_order_42 : pFL wsX11_order RX11 42 11 5 := ⟨RX11, TX11, 10, hi_X11_order_11, rfl, by decide, by decide +kernel⟩
theorem hi_X4_arrange_0 : ∀ w ∈ u_ws RX0 TX0 3, w ∈ wsX4_arrange := fun w h => of_decide_eq_true (List.all_eq_true.mp (by decide +kernel : (u_ws RX0 TX0 3).all (fun w => decide (w ∈ wsX4_arrange)) = true) w h)
theorem fl_X4_arrange_18 : pFL wsX4_arrange RX4 18 0 1 := ⟨RX0, TX0, 3, hi_X4_arrange_0, rfl, by decide, by decide +kernel⟩
theorem hi_X4_arrange_1 : ∀ w ∈ u_ws RX1 TX1 7, w ∈ wsX4_arrange := fun w h => of_decide_eq_true (List.all_eq_true.mp (by decide +kernel : (u_ws RX1 TX1 7).all (fun w => decide (w ∈ wsX4_arrange)) = true) w h)
theorem fl_X4_arrange_24 : pFL wsX4_arrange RX4 24 1 0 := ⟨RX1, TX1, 7, hi_X4_arrange_1, rfl, by decide, by decide +kernel⟩
theorem hi_X4_arrange_4 : ∀ w ∈ u_ws RX4 TX4 2, w ∈ wsX4_arrange := fun w h => of_decide_eq_true (List.all_eq_true.mp (by decide +kernel : (u_ws RX4 TX4 2).all (fun w => decide (w ∈ wsX4_arrange)) = true) w h)
theorem fl_X4_arrange_9 : pFL wsX4_arrange RX4 9 4 0 := ⟨RX4, TX4, 2, hi_X4_arrange_4, rfl, by decide, by decide +kernel⟩
def g_X4_arrange_2 : Nat → PS → Int32 → Int32 → Option ((Int32 × PS) ⊕ (PS))
  | 0, _, _, _ => none
  | fuel + 1, S, v2, v3 =>
    if (S.1 4) ≤ v3 then (some (.inr (S))) else (pgd (pin v3 16) (g_X4_arrange_2 fuel (pAr S 30 (upd (S.2 30) v3.toNatClampNeg v3)) v2 (v3 + 1)))
set_option maxRecDepth 100000 in
theorem l_X4_arrange_2 (l : Launch) (D : va_G) (dA : Nat → ClassId) (ad : Nat → Nat) (d : Nat) (hd : 0 ≤ d) {Q : List PC → Prop} : ∀ (fuel : Nat) (S : PS) (v2 : Int32) (v3 : Int32), pO (g_X4_arrange_2 fuel S v2 v3) (fun y => match y with
    | .inl x => Q (hX x.2)
    | .inr w => Ev l D dA ad wsX4_arrange cX4_arrange RX4 4 none d 52 (pKv D dA ad 52 Q) 26 [(0, .ref 42), (1, .ref 1), (2, .int v2)] [] (hX w)) → Ev l D dA ad wsX4_arrange cX4_arrange RX4 4 none d 52 (pKv D dA ad 52 Q) 2 [(0, .ref 42), (1, .ref 1), (2, .int v2), (3, .int v3)] [] (hX S) := by
  intro fuel
  induction fuel with
  | zero =>
    intro S v2 v3 hf
    exact hf.elim
  | succ fuel ih =>
    intro S v2 v3 hf
    rw [g_X4_arrange_2] at hf
    refine E_iload_n dX4_arrange_2 rfl ?_
    refine E_aload_n dX4_arrange_3 rfl ?_
    refine E_getf (v := .ref 5) dX4_arrange_4 fl_X4_arrange_18 rfl rfl ?_
    refine E_getf (v := .int (S.1 4)) dX4_arrange_7 fl_X4_arrange_24 rfl rfl ?_
    refine E_icmp_ge (tgt := 26) dX4_arrange_10 (by decide) (fun c_1 => ?_) (fun c_1 => ?_)
    · have hf := pO_pos c_1 hf
      exact E_sub (ls' := [(0, .ref 42), (1, .ref 1), (2, .int v2)]) ⟨rfl, rfl, rfl, trivial⟩ hf
    · have hf := pO_neg c_1 hf
      refine E_aload_n dX4_arrange_13 rfl ?_
      refine E_getf (v := .ref 43) dX4_arrange_14 fl_X4_arrange_9 rfl rfl ?_
      refine E_iload_n dX4_arrange_17 rfl ?_
      refine E_iload_n dX4_arrange_18 rfl ?_
      obtain ⟨hi_2, hf⟩ := pO_gd hf
      refine E_iast (n0 := 16) (f := S.2 30) (h' := hX (pAr S 30 (upd (S.2 30) v3.toNatClampNeg v3))) dX4_arrange_19 rfl (pin_in hi_2) (sX_A30 S (upd (S.2 30) v3.toNatClampNeg v3)) ?_
      refine E_iinc (v := v3 + 1) (ls' := [(0, .ref 42), (1, .ref 1), (2, .int v2), (3, .int (v3 + 1))]) dX4_arrange_20 rfl rfl (by decide) rfl ?_
      refine E_goto (tgt := 2) dX4_arrange_23 (by decide) ?_
      exact E_sub (ls' := [(0, .ref 42), (1, .ref 1), (2, .int v2), (3, .int (v3 + 1))]) ⟨rfl, rfl, rfl, rfl, trivial⟩ (ih (pAr S 30 (upd (S.2 30) v3.toNatClampNeg v3)) v2 (v3 + 1) hf)
theorem hi_X4_sort_0 : ∀ w ∈ u_ws RX0 TX0 3, w ∈ wsX4_sort := fun w h => of_decide_eq_true (List.all_eq_true.mp (by decide +kernel : (u_ws RX0 TX0 3).all (fun w => decide (w ∈ wsX4_sort)) = true) w h)
theorem fl_X4_sort_18 : pFL wsX4_sort RX4 18 0 1 := ⟨RX0, TX0, 3, hi_X4_sort_0, rfl, by decide, by decide +kernel⟩
theorem hi_X4_sort_1 : ∀ w ∈ u_ws RX1 TX1 7, w ∈ wsX4_sort := fun w h => of_decide_eq_true (List.all_eq_true.mp (by decide +kernel : (u_ws RX1 TX1 7).all (fun w => decide (w ∈ wsX4_sort)) = true) w h)
theorem fl_X4_sort_24 : pFL wsX4_sort RX4 24 1 0 := ⟨RX1, TX1, 7, hi_X4_sort_1, rfl, by decide, by decide +kernel⟩
theorem hi_X4_sort_4 : ∀ w ∈ u_ws RX4 TX4 2, w ∈ wsX4_sort := fun w h => of_decide_eq_true (List.all_eq_true.mp (by decide +kernel : (u_ws RX4 TX4 2).all (fun w => decide (w ∈ wsX4_sort)) = true) w h)
theorem fl_X4_sort_15 : pFL wsX4_sort RX4 15 4 1 := ⟨RX4, TX4, 2, hi_X4_sort_4, rfl, by decide, by decide +kernel⟩
theorem fl_X4_sort_9 : pFL wsX4_sort RX4 9 4 0 := ⟨RX4, TX4, 2, hi_X4_sort_4, rfl, by decide, by decide +kernel⟩
def g_X4_sort_44 : Nat → PS → Int32 → Int32 → Int32 → Option ((Int32 × PS) ⊕ (PS × Int32))
  | 0, _, _, _, _ => none
  | fuel + 1, S, v2, v3, v4 =>
    if v4 ≤ (0 : Int32) then (some (.inr (S, v4))) else (pgd (pin (v4 - 1) 16) (pgd (pin ((S.2 30) (v4 - 1).toNatClampNeg) 16) (pgd (pin v3 16) (if ((S.2 31) v3.toNatClampNeg) ≤ ((S.2 31) ((S.2 30) (v4 - 1).toNatClampNeg).toNatClampNeg) then (some (.inr (S, v4))) else (pgd (pin (v4 - 1) 16) (pgd (pin v4 16) (g_X4_sort_44 fuel (pAr S 30 (upd (S.2 30) v4.toNatClampNeg ((S.2 30) (v4 - 1).toNatClampNeg))) v2 v3 (v4 + (-1)))))))))
set_option maxRecDepth 100000 in
theorem l_X4_sort_44 (l : Launch) (D : va_G) (dA : Nat → ClassId) (ad : Nat → Nat) (d : Nat) (hd : 2 ≤ d) {Q : List PC → Prop} : ∀ (fuel : Nat) (S : PS) (v2 : Int32) (v3 : Int32) (v4 : Int32), pO (g_X4_sort_44 fuel S v2 v3 v4) (fun y => match y with
    | .inl x => Q (hX x.2)
    | .inr w => Ev l D dA ad wsX4_sort cX4_sort RX4 5 none d 52 (pKv D dA ad 52 Q) 94 [(0, .ref 42), (1, .ref 1), (2, .int v2), (3, .int v3), (4, .int w.2)] [] (hX w.1)) → Ev l D dA ad wsX4_sort cX4_sort RX4 5 none d 52 (pKv D dA ad 52 Q) 44 [(0, .ref 42), (1, .ref 1), (2, .int v2), (3, .int v3), (4, .int v4)] [] (hX S) := by
  intro fuel
  induction fuel with
  | zero =>
    intro S v2 v3 v4 hf
    exact hf.elim
  | succ fuel ih =>
    intro S v2 v3 v4 hf
    rw [g_X4_sort_44] at hf
    refine E_iload dX4_sort_44 rfl ?_
    refine E_if_le (tgt := 94) dX4_sort_46 (by decide) (fun c_5 => ?_) (fun c_5 => ?_)
    · have hf := pO_pos c_5 hf
      exact E_sub (ls' := [(0, .ref 42), (1, .ref 1), (2, .int v2), (3, .int v3), (4, .int v4)]) ⟨rfl, rfl, rfl, rfl, rfl, trivial⟩ hf
    · have hf := pO_neg c_5 hf
      refine E_aload_n dX4_sort_49 rfl ?_
      refine E_getf (v := .ref 44) dX4_sort_50 fl_X4_sort_15 rfl rfl ?_
      refine E_aload_n dX4_sort_53 rfl ?_
      refine E_getf (v := .ref 43) dX4_sort_54 fl_X4_sort_9 rfl rfl ?_
      refine E_iload dX4_sort_57 rfl ?_
      refine E_iconst (v := 1) dX4_sort_59 (by decide) ?_
      refine E_isub dX4_sort_60 ?_
      obtain ⟨hi_6, hf⟩ := pO_gd hf
      refine E_iald (n0 := 16) (f := S.2 30) dX4_sort_61 rfl (pin_in hi_6) ?_
      obtain ⟨hi_7, hf⟩ := pO_gd hf
      refine E_iald (n0 := 16) (f := S.2 31) dX4_sort_62 rfl (pin_in hi_7) ?_
      refine E_aload_n dX4_sort_63 rfl ?_
      refine E_getf (v := .ref 44) dX4_sort_64 fl_X4_sort_15 rfl rfl ?_
      refine E_iload_n dX4_sort_67 rfl ?_
      obtain ⟨hi_8, hf⟩ := pO_gd hf
      refine E_iald (n0 := 16) (f := S.2 31) dX4_sort_68 rfl (pin_in hi_8) ?_
      refine E_icmp_ge (tgt := 94) dX4_sort_69 (by decide) (fun c_9 => ?_) (fun c_9 => ?_)
      · have hf := pO_pos c_9 hf
        exact E_sub (ls' := [(0, .ref 42), (1, .ref 1), (2, .int v2), (3, .int v3), (4, .int v4)]) ⟨rfl, rfl, rfl, rfl, rfl, trivial⟩ hf
      · have hf := pO_neg c_9 hf
        refine E_aload_n dX4_sort_72 rfl ?_
        refine E_getf (v := .ref 43) dX4_sort_73 fl_X4_sort_9 rfl rfl ?_
        refine E_iload dX4_sort_76 rfl ?_
        refine E_aload_n dX4_sort_78 rfl ?_
        refine E_getf (v := .ref 43) dX4_sort_79 fl_X4_sort_9 rfl rfl ?_
        refine E_iload dX4_sort_82 rfl ?_
        refine E_iconst (v := 1) dX4_sort_84 (by decide) ?_
        refine E_isub dX4_sort_85 ?_
        obtain ⟨hi_10, hf⟩ := pO_gd hf
        refine E_iald (n0 := 16) (f := S.2 30) dX4_sort_86 rfl (pin_in hi_10) ?_
        obtain ⟨hi_11, hf⟩ := pO_gd hf
        refine E_iast (n0 := 16) (f := S.2 30) (h' := hX (pAr S 30 (upd (S.2 30) v4.toNatClampNeg ((S.2 30) (v4 - 1).toNatClampNeg)))) dX4_sort_87 rfl (pin_in hi_11) (sX_A30 S (upd (S.2 30) v4.toNatClampNeg ((S.2 30) (v4 - 1).toNatClampNeg))) ?_
        refine E_iinc (v := v4 + (-1)) (ls' := [(0, .ref 42), (1, .ref 1), (2, .int v2), (3, .int v3), (4, .int (v4 + (-1)))]) dX4_sort_88 rfl rfl (by decide) rfl ?_
        refine E_goto (tgt := 44) dX4_sort_91 (by decide) ?_
        exact E_sub (ls' := [(0, .ref 42), (1, .ref 1), (2, .int v2), (3, .int v3), (4, .int (v4 + (-1)))]) ⟨rfl, rfl, rfl, rfl, rfl, trivial⟩ (ih (pAr S 30 (upd (S.2 30) v4.toNatClampNeg ((S.2 30) (v4 - 1).toNatClampNeg))) v2 v3 (v4 + (-1)) hf)
theorem fl_X4_sort_38 : pFL wsX4_sort RX4 38 1 6 := ⟨RX1, TX1, 7, hi_X4_sort_1, rfl, by decide, by decide +kernel⟩
def g_X4_sort_2 : Nat → PS → Int32 → Int32 → Option ((Int32 × PS) ⊕ (PS))
  | 0, _, _, _ => none
  | fuel + 1, S, v2, v3 =>
    if (S.1 4) ≤ v3 then (some (.inr (S))) else (if v2 = (1 : Int32) then (pgd (pin v3 16) (pgd (pin v3 16) (plq (g_X4_sort_44 pfuel (pAr S 31 (upd (S.2 31) v3.toNatClampNeg ((S.2 7) v3.toNatClampNeg))) v2 v3 v3) (fun w => (fun (S_16 : PS) (v4_16 : Int32) => pgd (pin v4_16 16) (g_X4_sort_2 fuel (pAr S_16 30 (upd (S_16.2 30) v4_16.toNatClampNeg v3)) v2 (v3 + 1))) w.1 w.2)))) else (pbnd (f_X0_weighsAt S v3) (fun r3 S_3 => pgd (pin v3 16) (plq (g_X4_sort_44 pfuel (pAr S_3 31 (upd (S_3.2 31) v3.toNatClampNeg r3)) v2 v3 v3) (fun w => (fun (S_12 : PS) (v4_12 : Int32) => pgd (pin v4_12 16) (g_X4_sort_2 fuel (pAr S_12 30 (upd (S_12.2 30) v4_12.toNatClampNeg v3)) v2 (v3 + 1))) w.1 w.2)))))
set_option maxRecDepth 100000 in
theorem l_X4_sort_2 (l : Launch) (D : va_G) (dA : Nat → ClassId) (ad : Nat → Nat) (d : Nat) (hd : 2 ≤ d) {Q : List PC → Prop} : ∀ (fuel : Nat) (S : PS) (v2 : Int32) (v3 : Int32), pO (g_X4_sort_2 fuel S v2 v3) (fun y => match y with
    | .inl x => Q (hX x.2)
    | .inr w => Ev l D dA ad wsX4_sort cX4_sort RX4 5 none d 52 (pKv D dA ad 52 Q) 108 [] [] (hX w)) → Ev l D dA ad wsX4_sort cX4_sort RX4 5 none d 52 (pKv D dA ad 52 Q) 2 [(0, .ref 42), (1, .ref 1), (2, .int v2), (3, .int v3)] [] (hX S) := by
  intro fuel
  induction fuel with
  | zero =>
    intro S v2 v3 hf
    exact hf.elim
  | succ fuel ih =>
    intro S v2 v3 hf
    rw [g_X4_sort_2] at hf
    refine E_iload_n dX4_sort_2 rfl ?_
    refine E_aload_n dX4_sort_3 rfl ?_
    refine E_getf (v := .ref 5) dX4_sort_4 fl_X4_sort_18 rfl rfl ?_
    refine E_getf (v := .int (S.1 4)) dX4_sort_7 fl_X4_sort_24 rfl rfl ?_
    refine E_icmp_ge (tgt := 108) dX4_sort_10 (by decide) (fun c_1 => ?_) (fun c_1 => ?_)
    · have hf := pO_pos c_1 hf
      exact E_sub (ls' := []) trivial hf
    · have hf := pO_neg c_1 hf
      refine E_aload_n dX4_sort_13 rfl ?_
      refine E_getf (v := .ref 44) dX4_sort_14 fl_X4_sort_15 rfl rfl ?_
      refine E_iload_n dX4_sort_17 rfl ?_
      refine E_iload_n dX4_sort_18 rfl ?_
      refine E_iconst (v := 1) dX4_sort_19 (by decide) ?_
      refine E_icmp_ne (tgt := 35) dX4_sort_20 (by decide) (fun c_2 => ?_) (fun c_2 => ?_)
      · have hf := pO_neg c_2 hf
        refine E_aload_n dX4_sort_35 rfl ?_
        refine E_iload_n dX4_sort_36 rfl ?_
        refine E_callVI (st := [.int v3, .ref 44]) (c_X0_weighsAt l D dA ad S v3 (pO_bnd hf)) mf_X0_weighsAt rfl rfl gX4_sort_X0_weighsAt (pRc.of (ci := 0) rfl rfl) (by omega) rfl (Nat.le_of_ble_eq_true rfl) (by rfl) dX4_sort_37 (fun r3 h3 q3 => ?_)
        obtain ⟨S_3, rfl, hf⟩ := q3
        dsimp only at hf
        obtain ⟨hi_4, hf⟩ := pO_gd hf
        refine E_iast (n0 := 16) (f := S_3.2 31) (h' := hX (pAr S_3 31 (upd (S_3.2 31) v3.toNatClampNeg r3))) dX4_sort_40 rfl (pin_in hi_4) (sX_A31 S_3 (upd (S_3.2 31) v3.toNatClampNeg r3)) ?_
        refine E_iload_n dX4_sort_41 rfl ?_
        refine E_istore (ls' := [(0, .ref 42), (1, .ref 1), (2, .int v2), (3, .int v3), (4, .int v3)]) dX4_sort_42 (by decide) rfl ?_
        refine E_sub (ls' := [(0, .ref 42), (1, .ref 1), (2, .int v2), (3, .int v3), (4, .int v3)]) ⟨rfl, rfl, rfl, rfl, rfl, trivial⟩ ?_
        refine l_X4_sort_44 l D dA ad _ (by omega) pfuel (pAr S_3 31 (upd (S_3.2 31) v3.toNatClampNeg r3)) v2 v3 v3 (pO_lq hf (fun x hx => hx) (fun w12 hf => ?_))
        obtain ⟨S_12, v4_12⟩ := w12
        dsimp only at hf ⊢
        refine E_aload_n dX4_sort_94 rfl ?_
        refine E_getf (v := .ref 43) dX4_sort_95 fl_X4_sort_9 rfl rfl ?_
        refine E_iload dX4_sort_98 rfl ?_
        refine E_iload_n dX4_sort_100 rfl ?_
        obtain ⟨hi_13, hf⟩ := pO_gd hf
        refine E_iast (n0 := 16) (f := S_12.2 30) (h' := hX (pAr S_12 30 (upd (S_12.2 30) v4_12.toNatClampNeg v3))) dX4_sort_101 rfl (pin_in hi_13) (sX_A30 S_12 (upd (S_12.2 30) v4_12.toNatClampNeg v3)) ?_
        refine E_iinc (v := v3 + 1) (ls' := [(0, .ref 42), (1, .ref 1), (2, .int v2), (3, .int (v3 + 1)), (4, .int v4_12)]) dX4_sort_102 rfl rfl (by decide) rfl ?_
        refine E_goto (tgt := 2) dX4_sort_105 (by decide) ?_
        exact E_sub (ls' := [(0, .ref 42), (1, .ref 1), (2, .int v2), (3, .int (v3 + 1))]) ⟨rfl, rfl, rfl, rfl, trivial⟩ (ih (pAr S_12 30 (upd (S_12.2 30) v4_12.toNatClampNeg v3)) v2 (v3 + 1) hf)
      · have hf := pO_pos c_2 hf
        refine E_aload_n dX4_sort_23 rfl ?_
        refine E_getf (v := .ref 5) dX4_sort_24 fl_X4_sort_18 rfl rfl ?_
        refine E_getf (v := .ref 11) dX4_sort_27 fl_X4_sort_38 rfl rfl ?_
        refine E_iload_n dX4_sort_30 rfl ?_
        obtain ⟨hi_14, hf⟩ := pO_gd hf
        refine E_iald (n0 := 16) (f := S.2 7) dX4_sort_31 rfl (pin_in hi_14) ?_
        refine E_goto (tgt := 40) dX4_sort_32 (by decide) ?_
        obtain ⟨hi_15, hf⟩ := pO_gd hf
        refine E_iast (n0 := 16) (f := S.2 31) (h' := hX (pAr S 31 (upd (S.2 31) v3.toNatClampNeg ((S.2 7) v3.toNatClampNeg)))) dX4_sort_40 rfl (pin_in hi_15) (sX_A31 S (upd (S.2 31) v3.toNatClampNeg ((S.2 7) v3.toNatClampNeg))) ?_
        refine E_iload_n dX4_sort_41 rfl ?_
        refine E_istore (ls' := [(0, .ref 42), (1, .ref 1), (2, .int v2), (3, .int v3), (4, .int v3)]) dX4_sort_42 (by decide) rfl ?_
        refine E_sub (ls' := [(0, .ref 42), (1, .ref 1), (2, .int v2), (3, .int v3), (4, .int v3)]) ⟨rfl, rfl, rfl, rfl, rfl, trivial⟩ ?_
        refine l_X4_sort_44 l D dA ad _ (by omega) pfuel (pAr S 31 (upd (S.2 31) v3.toNatClampNeg ((S.2 7) v3.toNatClampNeg))) v2 v3 v3 (pO_lq hf (fun x hx => hx) (fun w16 hf => ?_))
        obtain ⟨S_16, v4_16⟩ := w16
        dsimp only at hf ⊢
        refine E_aload_n dX4_sort_94 rfl ?_
        refine E_getf (v := .ref 43) dX4_sort_95 fl_X4_sort_9 rfl rfl ?_
        refine E_iload dX4_sort_98 rfl ?_
        refine E_iload_n dX4_sort_100 rfl ?_
        obtain ⟨hi_17, hf⟩ := pO_gd hf
        refine E_iast (n0 := 16) (f := S_16.2 30) (h' := hX (pAr S_16 30 (upd (S_16.2 30) v4_16.toNatClampNeg v3))) dX4_sort_101 rfl (pin_in hi_17) (sX_A30 S_16 (upd (S_16.2 30) v4_16.toNatClampNeg v3)) ?_
        refine E_iinc (v := v3 + 1) (ls' := [(0, .ref 42), (1, .ref 1), (2, .int v2), (3, .int (v3 + 1)), (4, .int v4_16)]) dX4_sort_102 rfl rfl (by decide) rfl ?_
        refine E_goto (tgt := 2) dX4_sort_105 (by decide) ?_
        exact E_sub (ls' := [(0, .ref 42), (1, .ref 1), (2, .int v2), (3, .int (v3 + 1))]) ⟨rfl, rfl, rfl, rfl, trivial⟩ (ih (pAr S_16 30 (upd (S_16.2 30) v4_16.toNatClampNeg v3)) v2 (v3 + 1) hf)
theorem mf_X4_sort : pMF yX4_sort wsX4_sort cX4_sort 5 none 2 := ⟨⟨_, rfl⟩, by decide +kernel, by decide, by decide +kernel, by decide +kernel, by decide +kernel⟩
def f_X4_sort (S : PS) (v2 : Int32) : Option (Int32 × PS) :=
  plp (g_X4_sort_2 pfuel S v2 0) (fun (S_18 : PS) => some (0, S_18))
set_option maxRecDepth 100000 in
theorem c_X4_sort (l : Launch) (D : va_G) (dA : Nat → ClassId) (ad : Nat → Nat) (S : PS) (v2 : Int32) {P : (Int32 × PS) → Prop} (hf : pO (f_X4_sort S v2) P) : CtV l D dA ad yX4_sort wsX4_sort 2 [.ref 42, .ref 1, .int v2] (hX S) (fun h' => ∃ (r0 : Int32) (S' : PS), h' = hX S' ∧ P (r0, S')) := by
  refine CtV_of mf_X4_sort rfl rfl (Nat.le_of_ble_eq_true rfl) rfl (hX_len S) ?_
  unfold f_X4_sort at hf
  refine E_iconst (v := 0) dX4_sort_0 (by decide) ?_
  refine E_istore_n (ls' := [(0, .ref 42), (1, .ref 1), (2, .int v2), (3, .int 0)]) dX4_sort_1 (by decide) rfl ?_
  refine E_sub (ls' := [(0, .ref 42), (1, .ref 1), (2, .int v2), (3, .int 0)]) ⟨rfl, rfl, rfl, rfl, trivial⟩ ?_
  refine l_X4_sort_2 l D dA ad _ (by omega) pfuel S v2 0 (pO_lp hf (fun x hx => ⟨x.1, x.2, rfl, hx⟩) (fun w18 hf => ?_))
  obtain ⟨S_18, rfl⟩ : ∃ z, z = w18 := ⟨_, rfl⟩
  dsimp only at hf ⊢
  exact E_vret rfl dX4_sort_108 ⟨0, _, rfl, hf⟩
theorem hi_X4_balance_0 : ∀ w ∈ u_ws RX0 TX0 3, w ∈ wsX4_balance := fun w h => of_decide_eq_true (List.all_eq_true.mp (by decide +kernel : (u_ws RX0 TX0 3).all (fun w => decide (w ∈ wsX4_balance)) = true) w h)
theorem fl_X4_balance_18 : pFL wsX4_balance RX4 18 0 1 := ⟨RX0, TX0, 3, hi_X4_balance_0, rfl, by decide, by decide +kernel⟩
theorem hi_X4_balance_1 : ∀ w ∈ u_ws RX1 TX1 7, w ∈ wsX4_balance := fun w h => of_decide_eq_true (List.all_eq_true.mp (by decide +kernel : (u_ws RX1 TX1 7).all (fun w => decide (w ∈ wsX4_balance)) = true) w h)
theorem fl_X4_balance_24 : pFL wsX4_balance RX4 24 1 0 := ⟨RX1, TX1, 7, hi_X4_balance_1, rfl, by decide, by decide +kernel⟩
theorem hi_X4_balance_4 : ∀ w ∈ u_ws RX4 TX4 2, w ∈ wsX4_balance := fun w h => of_decide_eq_true (List.all_eq_true.mp (by decide +kernel : (u_ws RX4 TX4 2).all (fun w => decide (w ∈ wsX4_balance)) = true) w h)
theorem fl_X4_balance_9 : pFL wsX4_balance RX4 9 4 0 := ⟨RX4, TX4, 2, hi_X4_balance_4, rfl, by decide, by decide +kernel⟩
theorem hi_X4_comesAhead_0 : ∀ w ∈ u_ws RX0 TX0 3, w ∈ wsX4_comesAhead := fun w h => of_decide_eq_true (List.all_eq_true.mp (by decide +kernel : (u_ws RX0 TX0 3).all (fun w => decide (w ∈ wsX4_comesAhead)) = true) w h)
theorem fl_X4_comesAhead_18 : pFL wsX4_comesAhead RX4 18 0 1 := ⟨RX0, TX0, 3, hi_X4_comesAhead_0, rfl, by decide, by decide +kernel⟩
theorem hi_X4_comesAhead_1 : ∀ w ∈ u_ws RX1 TX1 7, w ∈ wsX4_comesAhead := fun w h => of_decide_eq_true (List.all_eq_true.mp (by decide +kernel : (u_ws RX1 TX1 7).all (fun w => decide (w ∈ wsX4_comesAhead)) = true) w h)
theorem fl_X4_comesAhead_49 : pFL wsX4_comesAhead RX4 49 1 5 := ⟨RX1, TX1, 7, hi_X4_comesAhead_1, rfl, by decide, by decide +kernel⟩
theorem mf_X4_comesAhead : pMF yX4_comesAhead wsX4_comesAhead cX4_comesAhead 9 (some .boolean) 4 := ⟨⟨_, rfl⟩, by decide +kernel, by decide, by decide +kernel, by decide +kernel, by decide +kernel⟩
def f_X4_comesAhead (S : PS) (v2 : Int32) (v3 : Int32) (v4 : Int32) : Option (Int32 × PS) :=
  pbnd (f_X0_weighsAt S v3) (fun r1 S_1 => pbnd (f_X0_weighsAt S_1 v4) (fun r2 S_2 => pgd (pin v3 16) (pgd (pin v4 16) (if (pabs (v2 + (r1 * ((S_2.2 6) v3.toNatClampNeg)))) = (pabs (v2 + (r2 * ((S_2.2 6) v4.toNatClampNeg)))) then (if r1 = r2 then (if v4 ≤ v3 then (some (0, S_2)) else (some (1, S_2))) else (if r1 ≤ r2 then (some (0, S_2)) else (some (1, S_2)))) else (if (pabs (v2 + (r2 * ((S_2.2 6) v4.toNatClampNeg)))) ≤ (pabs (v2 + (r1 * ((S_2.2 6) v3.toNatClampNeg)))) then (some (0, S_2)) else (some (1, S_2)))))))
set_option maxRecDepth 100000 in
theorem c_X4_comesAhead (l : Launch) (D : va_G) (dA : Nat → ClassId) (ad : Nat → Nat) (S : PS) (v2 : Int32) (v3 : Int32) (v4 : Int32) {P : (Int32 × PS) → Prop} (hf : pO (f_X4_comesAhead S v2 v3 v4) P) : CtI l D dA ad yX4_comesAhead wsX4_comesAhead 2 [.ref 42, .ref 1, .int v2, .int v3, .int v4] (hX S) (fun r h' => ∃ S' : PS, h' = hX S' ∧ P (r, S')) := by
  refine CtI_of mf_X4_comesAhead rfl rfl (Nat.le_of_ble_eq_true rfl) rfl (hX_len S) ?_
  unfold f_X4_comesAhead at hf
  refine E_aload_n dX4_comesAhead_0 rfl ?_
  refine E_iload_n dX4_comesAhead_1 rfl ?_
  refine E_callVI (st := []) (c_X0_weighsAt l D dA ad S v3 (pO_bnd hf)) mf_X0_weighsAt rfl rfl gX4_comesAhead_X0_weighsAt (pRc.of (ci := 0) rfl rfl) (by omega) rfl (Nat.le_of_ble_eq_true rfl) (by rfl) dX4_comesAhead_2 (fun r1 h1 q1 => ?_)
  obtain ⟨S_1, rfl, hf⟩ := q1
  dsimp only at hf
  refine E_istore (ls' := [(0, .ref 42), (1, .ref 1), (2, .int v2), (3, .int v3), (4, .int v4), (5, .int r1)]) dX4_comesAhead_5 (by decide) rfl ?_
  refine E_aload_n dX4_comesAhead_7 rfl ?_
  refine E_iload dX4_comesAhead_8 rfl ?_
  refine E_callVI (st := []) (c_X0_weighsAt l D dA ad S_1 v4 (pO_bnd hf)) mf_X0_weighsAt rfl rfl gX4_comesAhead_X0_weighsAt (pRc.of (ci := 0) rfl rfl) (by omega) rfl (Nat.le_of_ble_eq_true rfl) (by rfl) dX4_comesAhead_10 (fun r2 h2 q2 => ?_)
  obtain ⟨S_2, rfl, hf⟩ := q2
  dsimp only at hf
  refine E_istore (ls' := [(0, .ref 42), (1, .ref 1), (2, .int v2), (3, .int v3), (4, .int v4), (5, .int r1), (6, .int r2)]) dX4_comesAhead_13 (by decide) rfl ?_
  refine E_iload_n dX4_comesAhead_15 rfl ?_
  refine E_iload dX4_comesAhead_16 rfl ?_
  refine E_aload_n dX4_comesAhead_18 rfl ?_
  refine E_getf (v := .ref 5) dX4_comesAhead_19 fl_X4_comesAhead_18 rfl rfl ?_
  refine E_getf (v := .ref 10) dX4_comesAhead_22 fl_X4_comesAhead_49 rfl rfl ?_
  refine E_iload_n dX4_comesAhead_25 rfl ?_
  obtain ⟨hi_3, hf⟩ := pO_gd hf
  refine E_iald (n0 := 16) (f := S_2.2 6) dX4_comesAhead_26 rfl (pin_in hi_3) ?_
  refine E_imul dX4_comesAhead_27 ?_
  refine E_iadd dX4_comesAhead_28 ?_
  refine E_mabs (by decide +kernel) (by decide +kernel) (by decide +kernel) (by decide +kernel) (by omega) (Nat.le_of_ble_eq_true rfl) (by rfl) dX4_comesAhead_29 ?_
  refine E_istore (ls' := [(0, .ref 42), (1, .ref 1), (2, .int v2), (3, .int v3), (4, .int v4), (5, .int r1), (6, .int r2), (7, .int (pabs (v2 + (r1 * ((S_2.2 6) v3.toNatClampNeg)))))]) dX4_comesAhead_32 (by decide) rfl ?_
  refine E_iload_n dX4_comesAhead_34 rfl ?_
  refine E_iload dX4_comesAhead_35 rfl ?_
  refine E_aload_n dX4_comesAhead_37 rfl ?_
  refine E_getf (v := .ref 5) dX4_comesAhead_38 fl_X4_comesAhead_18 rfl rfl ?_
  refine E_getf (v := .ref 10) dX4_comesAhead_41 fl_X4_comesAhead_49 rfl rfl ?_
  refine E_iload dX4_comesAhead_44 rfl ?_
  obtain ⟨hi_4, hf⟩ := pO_gd hf
  refine E_iald (n0 := 16) (f := S_2.2 6) dX4_comesAhead_46 rfl (pin_in hi_4) ?_
  refine E_imul dX4_comesAhead_47 ?_
  refine E_iadd dX4_comesAhead_48 ?_
  refine E_mabs (by decide +kernel) (by decide +kernel) (by decide +kernel) (by decide +kernel) (by omega) (Nat.le_of_ble_eq_true rfl) (by rfl) dX4_comesAhead_49 ?_
  refine E_istore (ls' := [(0, .ref 42), (1, .ref 1), (2, .int v2), (3, .int v3), (4, .int v4), (5, .int r1), (6, .int r2), (7, .int (pabs (v2 + (r1 * ((S_2.2 6) v3.toNatClampNeg))))), (8, .int (pabs (v2 + (r2 * ((S_2.2 6) v4.toNatClampNeg)))))]) dX4_comesAhead_52 (by decide) rfl ?_
  refine E_iload dX4_comesAhead_54 rfl ?_
  refine E_iload dX4_comesAhead_56 rfl ?_
  refine E_icmp_eq (tgt := 74) dX4_comesAhead_58 (by decide) (fun c_5 => ?_) (fun c_5 => ?_)
  · have hf := pO_pos c_5 hf
    refine E_iload dX4_comesAhead_74 rfl ?_
    refine E_iload dX4_comesAhead_76 rfl ?_
    refine E_icmp_eq (tgt := 96) dX4_comesAhead_78 (by decide) (fun c_6 => ?_) (fun c_6 => ?_)
    · have hf := pO_pos c_6 hf
      refine E_iload_n dX4_comesAhead_96 rfl ?_
      refine E_iload dX4_comesAhead_97 rfl ?_
      refine E_icmp_ge (tgt := 106) dX4_comesAhead_99 (by decide) (fun c_7 => ?_) (fun c_7 => ?_)
      · have hf := pO_pos c_7 hf
        refine E_iconst (v := 0) dX4_comesAhead_106 (by decide) ?_
        exact E_zret rfl dX4_comesAhead_107 (by decide) ⟨_, rfl, hf⟩
      · have hf := pO_neg c_7 hf
        refine E_iconst (v := 1) dX4_comesAhead_102 (by decide) ?_
        refine E_goto (tgt := 107) dX4_comesAhead_103 (by decide) ?_
        exact E_zret rfl dX4_comesAhead_107 (by decide) ⟨_, rfl, hf⟩
    · have hf := pO_neg c_6 hf
      refine E_iload dX4_comesAhead_81 rfl ?_
      refine E_iload dX4_comesAhead_83 rfl ?_
      refine E_icmp_le (tgt := 92) dX4_comesAhead_85 (by decide) (fun c_8 => ?_) (fun c_8 => ?_)
      · have hf := pO_pos c_8 hf
        refine E_iconst (v := 0) dX4_comesAhead_92 (by decide) ?_
        refine E_goto (tgt := 107) dX4_comesAhead_93 (by decide) ?_
        exact E_zret rfl dX4_comesAhead_107 (by decide) ⟨_, rfl, hf⟩
      · have hf := pO_neg c_8 hf
        refine E_iconst (v := 1) dX4_comesAhead_88 (by decide) ?_
        refine E_goto (tgt := 107) dX4_comesAhead_89 (by decide) ?_
        exact E_zret rfl dX4_comesAhead_107 (by decide) ⟨_, rfl, hf⟩
  · have hf := pO_neg c_5 hf
    refine E_iload dX4_comesAhead_61 rfl ?_
    refine E_iload dX4_comesAhead_63 rfl ?_
    refine E_icmp_ge (tgt := 72) dX4_comesAhead_65 (by decide) (fun c_9 => ?_) (fun c_9 => ?_)
    · have hf := pO_pos c_9 hf
      refine E_iconst (v := 0) dX4_comesAhead_72 (by decide) ?_
      exact E_zret rfl dX4_comesAhead_73 (by decide) ⟨_, rfl, hf⟩
    · have hf := pO_neg c_9 hf
      refine E_iconst (v := 1) dX4_comesAhead_68 (by decide) ?_
      refine E_goto (tgt := 73) dX4_comesAhead_69 (by decide) ?_
      exact E_zret rfl dX4_comesAhead_73 (by decide) ⟨_, rfl, hf⟩
def g_X4_balance_23 : Nat → PS → Int32 → Int32 → Int32 → Int32 → Option ((Int32 × PS) ⊕ (PS × Int32))
  | 0, _, _, _, _, _ => none
  | fuel + 1, S, v2, v3, v4, v5 =>
    if (S.1 4) ≤ v5 then (some (.inr (S, v4))) else (pgd (pin v5 16) (pgd (pin v4 16) (pbnd (f_X4_comesAhead S v2 ((S.2 30) v5.toNatClampNeg) ((S.2 30) v4.toNatClampNeg)) (fun r5 S_5 => if r5 = (0 : Int32) then (g_X4_balance_23 fuel S_5 v2 v3 v4 (v5 + 1)) else (g_X4_balance_23 fuel S_5 v2 v3 v5 (v5 + 1))))))
set_option maxRecDepth 100000 in
theorem l_X4_balance_23 (l : Launch) (D : va_G) (dA : Nat → ClassId) (ad : Nat → Nat) (d : Nat) (hd : 3 ≤ d) {Q : List PC → Prop} : ∀ (fuel : Nat) (S : PS) (v2 : Int32) (v3 : Int32) (v4 : Int32) (v5 : Int32), pO (g_X4_balance_23 fuel S v2 v3 v4 v5) (fun y => match y with
    | .inl x => Q (hX x.2)
    | .inr w => Ev l D dA ad wsX4_balance cX4_balance RX4 6 none d 52 (pKv D dA ad 52 Q) 68 [(0, .ref 42), (1, .ref 1), (2, .int v2), (3, .int v3), (4, .int w.2)] [] (hX w.1)) → Ev l D dA ad wsX4_balance cX4_balance RX4 6 none d 52 (pKv D dA ad 52 Q) 23 [(0, .ref 42), (1, .ref 1), (2, .int v2), (3, .int v3), (4, .int v4), (5, .int v5)] [] (hX S) := by
  intro fuel
  induction fuel with
  | zero =>
    intro S v2 v3 v4 v5 hf
    exact hf.elim
  | succ fuel ih =>
    intro S v2 v3 v4 v5 hf
    rw [g_X4_balance_23] at hf
    refine E_iload dX4_balance_23 rfl ?_
    refine E_aload_n dX4_balance_25 rfl ?_
    refine E_getf (v := .ref 5) dX4_balance_26 fl_X4_balance_18 rfl rfl ?_
    refine E_getf (v := .int (S.1 4)) dX4_balance_29 fl_X4_balance_24 rfl rfl ?_
    refine E_icmp_ge (tgt := 68) dX4_balance_32 (by decide) (fun c_2 => ?_) (fun c_2 => ?_)
    · have hf := pO_pos c_2 hf
      exact E_sub (ls' := [(0, .ref 42), (1, .ref 1), (2, .int v2), (3, .int v3), (4, .int v4)]) ⟨rfl, rfl, rfl, rfl, rfl, trivial⟩ hf
    · have hf := pO_neg c_2 hf
      refine E_aload_n dX4_balance_35 rfl ?_
      refine E_aload_n dX4_balance_36 rfl ?_
      refine E_iload_n dX4_balance_37 rfl ?_
      refine E_aload_n dX4_balance_38 rfl ?_
      refine E_getf (v := .ref 43) dX4_balance_39 fl_X4_balance_9 rfl rfl ?_
      refine E_iload dX4_balance_42 rfl ?_
      obtain ⟨hi_3, hf⟩ := pO_gd hf
      refine E_iald (n0 := 16) (f := S.2 30) dX4_balance_44 rfl (pin_in hi_3) ?_
      refine E_aload_n dX4_balance_45 rfl ?_
      refine E_getf (v := .ref 43) dX4_balance_46 fl_X4_balance_9 rfl rfl ?_
      refine E_iload dX4_balance_49 rfl ?_
      obtain ⟨hi_4, hf⟩ := pO_gd hf
      refine E_iald (n0 := 16) (f := S.2 30) dX4_balance_51 rfl (pin_in hi_4) ?_
      refine E_callVI (st := []) (c_X4_comesAhead l D dA ad S v2 ((S.2 30) v5.toNatClampNeg) ((S.2 30) v4.toNatClampNeg) (pO_bnd hf)) mf_X4_comesAhead rfl rfl gX4_balance_X4_comesAhead (pRc.of (ci := 4) rfl rfl) (by omega) rfl (Nat.le_of_ble_eq_true rfl) (by rfl) dX4_balance_52 (fun r5 h5 q5 => ?_)
      obtain ⟨S_5, rfl, hf⟩ := q5
      dsimp only at hf
      refine E_if_eq (tgt := 62) dX4_balance_55 (by decide) (fun c_6 => ?_) (fun c_6 => ?_)
      · have hf := pO_pos c_6 hf
        refine E_iinc (v := v5 + 1) (ls' := [(0, .ref 42), (1, .ref 1), (2, .int v2), (3, .int v3), (4, .int v4), (5, .int (v5 + 1))]) dX4_balance_62 rfl rfl (by decide) rfl ?_
        refine E_goto (tgt := 23) dX4_balance_65 (by decide) ?_
        exact E_sub (ls' := [(0, .ref 42), (1, .ref 1), (2, .int v2), (3, .int v3), (4, .int v4), (5, .int (v5 + 1))]) ⟨rfl, rfl, rfl, rfl, rfl, rfl, trivial⟩ (ih S_5 v2 v3 v4 (v5 + 1) hf)
      · have hf := pO_neg c_6 hf
        refine E_iload dX4_balance_58 rfl ?_
        refine E_istore (ls' := [(0, .ref 42), (1, .ref 1), (2, .int v2), (3, .int v3), (4, .int v5), (5, .int v5)]) dX4_balance_60 (by decide) rfl ?_
        refine E_iinc (v := v5 + 1) (ls' := [(0, .ref 42), (1, .ref 1), (2, .int v2), (3, .int v3), (4, .int v5), (5, .int (v5 + 1))]) dX4_balance_62 rfl rfl (by decide) rfl ?_
        refine E_goto (tgt := 23) dX4_balance_65 (by decide) ?_
        exact E_sub (ls' := [(0, .ref 42), (1, .ref 1), (2, .int v2), (3, .int v3), (4, .int v5), (5, .int (v5 + 1))]) ⟨rfl, rfl, rfl, rfl, rfl, rfl, trivial⟩ (ih S_5 v2 v3 v5 (v5 + 1) hf)
theorem fl_X4_balance_49 : pFL wsX4_balance RX4 49 1 5 := ⟨RX1, TX1, 7, hi_X4_balance_1, rfl, by decide, by decide +kernel⟩
def g_X4_balance_4 : Nat → PS → Int32 → Int32 → Option ((Int32 × PS) ⊕ (PS))
  | 0, _, _, _ => none
  | fuel + 1, S, v2, v3 =>
    if (S.1 4) ≤ v3 then (some (.inr (S))) else (plq (g_X4_balance_23 pfuel S v2 v3 v3 (v3 + 1)) (fun w => (fun (S_7 : PS) (v4_7 : Int32) => pgd (pin v4_7 16) (pgd (pin v3 16) (pgd (pin v4_7 16) (pgd (pin v3 16) (pbnd (f_X0_weighsAt (pAr (pAr S_7 30 (upd (S_7.2 30) v4_7.toNatClampNeg ((S_7.2 30) v3.toNatClampNeg))) 30 (upd (upd (S_7.2 30) v4_7.toNatClampNeg ((S_7.2 30) v3.toNatClampNeg)) v3.toNatClampNeg ((S_7.2 30) v4_7.toNatClampNeg))) ((S_7.2 30) v4_7.toNatClampNeg)) (fun r12 S_12 => pgd (pin ((S_7.2 30) v4_7.toNatClampNeg) 16) (g_X4_balance_4 fuel S_12 (v2 + (r12 * ((S_12.2 6) ((S_7.2 30) v4_7.toNatClampNeg).toNatClampNeg))) (v3 + 1)))))))) w.1 w.2))
set_option maxRecDepth 100000 in
theorem l_X4_balance_4 (l : Launch) (D : va_G) (dA : Nat → ClassId) (ad : Nat → Nat) (d : Nat) (hd : 3 ≤ d) {Q : List PC → Prop} : ∀ (fuel : Nat) (S : PS) (v2 : Int32) (v3 : Int32), pO (g_X4_balance_4 fuel S v2 v3) (fun y => match y with
    | .inl x => Q (hX x.2)
    | .inr w => Ev l D dA ad wsX4_balance cX4_balance RX4 6 none d 52 (pKv D dA ad 52 Q) 124 [] [] (hX w)) → Ev l D dA ad wsX4_balance cX4_balance RX4 6 none d 52 (pKv D dA ad 52 Q) 4 [(0, .ref 42), (1, .ref 1), (2, .int v2), (3, .int v3)] [] (hX S) := by
  intro fuel
  induction fuel with
  | zero =>
    intro S v2 v3 hf
    exact hf.elim
  | succ fuel ih =>
    intro S v2 v3 hf
    rw [g_X4_balance_4] at hf
    refine E_iload_n dX4_balance_4 rfl ?_
    refine E_aload_n dX4_balance_5 rfl ?_
    refine E_getf (v := .ref 5) dX4_balance_6 fl_X4_balance_18 rfl rfl ?_
    refine E_getf (v := .int (S.1 4)) dX4_balance_9 fl_X4_balance_24 rfl rfl ?_
    refine E_icmp_ge (tgt := 124) dX4_balance_12 (by decide) (fun c_1 => ?_) (fun c_1 => ?_)
    · have hf := pO_pos c_1 hf
      exact E_sub (ls' := []) trivial hf
    · have hf := pO_neg c_1 hf
      refine E_iload_n dX4_balance_15 rfl ?_
      refine E_istore (ls' := [(0, .ref 42), (1, .ref 1), (2, .int v2), (3, .int v3), (4, .int v3)]) dX4_balance_16 (by decide) rfl ?_
      refine E_iload_n dX4_balance_18 rfl ?_
      refine E_iconst (v := 1) dX4_balance_19 (by decide) ?_
      refine E_iadd dX4_balance_20 ?_
      refine E_istore (ls' := [(0, .ref 42), (1, .ref 1), (2, .int v2), (3, .int v3), (4, .int v3), (5, .int (v3 + 1))]) dX4_balance_21 (by decide) rfl ?_
      refine E_sub (ls' := [(0, .ref 42), (1, .ref 1), (2, .int v2), (3, .int v3), (4, .int v3), (5, .int (v3 + 1))]) ⟨rfl, rfl, rfl, rfl, rfl, rfl, trivial⟩ ?_
      refine l_X4_balance_23 l D dA ad _ (by omega) pfuel S v2 v3 v3 (v3 + 1) (pO_lq hf (fun x hx => hx) (fun w7 hf => ?_))
      obtain ⟨S_7, v4_7⟩ := w7
      dsimp only at hf ⊢
      refine E_aload_n dX4_balance_68 rfl ?_
      refine E_getf (v := .ref 43) dX4_balance_69 fl_X4_balance_9 rfl rfl ?_
      refine E_iload dX4_balance_72 rfl ?_
      obtain ⟨hi_8, hf⟩ := pO_gd hf
      refine E_iald (n0 := 16) (f := S_7.2 30) dX4_balance_74 rfl (pin_in hi_8) ?_
      refine E_istore (ls' := [(0, .ref 42), (1, .ref 1), (2, .int v2), (3, .int v3), (4, .int v4_7), (5, .int ((S_7.2 30) v4_7.toNatClampNeg))]) dX4_balance_75 (by decide) rfl ?_
      refine E_aload_n dX4_balance_77 rfl ?_
      refine E_getf (v := .ref 43) dX4_balance_78 fl_X4_balance_9 rfl rfl ?_
      refine E_iload dX4_balance_81 rfl ?_
      refine E_aload_n dX4_balance_83 rfl ?_
      refine E_getf (v := .ref 43) dX4_balance_84 fl_X4_balance_9 rfl rfl ?_
      refine E_iload_n dX4_balance_87 rfl ?_
      obtain ⟨hi_9, hf⟩ := pO_gd hf
      refine E_iald (n0 := 16) (f := S_7.2 30) dX4_balance_88 rfl (pin_in hi_9) ?_
      obtain ⟨hi_10, hf⟩ := pO_gd hf
      refine E_iast (n0 := 16) (f := S_7.2 30) (h' := hX (pAr S_7 30 (upd (S_7.2 30) v4_7.toNatClampNeg ((S_7.2 30) v3.toNatClampNeg)))) dX4_balance_89 rfl (pin_in hi_10) (sX_A30 S_7 (upd (S_7.2 30) v4_7.toNatClampNeg ((S_7.2 30) v3.toNatClampNeg))) ?_
      refine E_aload_n dX4_balance_90 rfl ?_
      refine E_getf (v := .ref 43) dX4_balance_91 fl_X4_balance_9 rfl rfl ?_
      refine E_iload_n dX4_balance_94 rfl ?_
      refine E_iload dX4_balance_95 rfl ?_
      obtain ⟨hi_11, hf⟩ := pO_gd hf
      refine E_iast (n0 := 16) (f := upd (S_7.2 30) v4_7.toNatClampNeg ((S_7.2 30) v3.toNatClampNeg)) (h' := hX (pAr (pAr S_7 30 (upd (S_7.2 30) v4_7.toNatClampNeg ((S_7.2 30) v3.toNatClampNeg))) 30 (upd (upd (S_7.2 30) v4_7.toNatClampNeg ((S_7.2 30) v3.toNatClampNeg)) v3.toNatClampNeg ((S_7.2 30) v4_7.toNatClampNeg)))) dX4_balance_97 rfl (pin_in hi_11) (sX_A30 (pAr S_7 30 (upd (S_7.2 30) v4_7.toNatClampNeg ((S_7.2 30) v3.toNatClampNeg))) (upd (upd (S_7.2 30) v4_7.toNatClampNeg ((S_7.2 30) v3.toNatClampNeg)) v3.toNatClampNeg ((S_7.2 30) v4_7.toNatClampNeg))) ?_
      refine E_iload_n dX4_balance_98 rfl ?_
      refine E_aload_n dX4_balance_99 rfl ?_
      refine E_iload dX4_balance_100 rfl ?_
      refine E_callVI (st := [.int v2]) (c_X0_weighsAt l D dA ad (pAr (pAr S_7 30 (upd (S_7.2 30) v4_7.toNatClampNeg ((S_7.2 30) v3.toNatClampNeg))) 30 (upd (upd (S_7.2 30) v4_7.toNatClampNeg ((S_7.2 30) v3.toNatClampNeg)) v3.toNatClampNeg ((S_7.2 30) v4_7.toNatClampNeg))) ((S_7.2 30) v4_7.toNatClampNeg) (pO_bnd hf)) mf_X0_weighsAt rfl rfl gX4_balance_X0_weighsAt (pRc.of (ci := 0) rfl rfl) (by omega) rfl (Nat.le_of_ble_eq_true rfl) (by rfl) dX4_balance_102 (fun r12 h12 q12 => ?_)
      obtain ⟨S_12, rfl, hf⟩ := q12
      dsimp only at hf
      refine E_aload_n dX4_balance_105 rfl ?_
      refine E_getf (v := .ref 5) dX4_balance_106 fl_X4_balance_18 rfl rfl ?_
      refine E_getf (v := .ref 10) dX4_balance_109 fl_X4_balance_49 rfl rfl ?_
      refine E_iload dX4_balance_112 rfl ?_
      obtain ⟨hi_13, hf⟩ := pO_gd hf
      refine E_iald (n0 := 16) (f := S_12.2 6) dX4_balance_114 rfl (pin_in hi_13) ?_
      refine E_imul dX4_balance_115 ?_
      refine E_iadd dX4_balance_116 ?_
      refine E_istore_n (ls' := [(0, .ref 42), (1, .ref 1), (2, .int (v2 + (r12 * ((S_12.2 6) ((S_7.2 30) v4_7.toNatClampNeg).toNatClampNeg)))), (3, .int v3), (4, .int v4_7), (5, .int ((S_7.2 30) v4_7.toNatClampNeg))]) dX4_balance_117 (by decide) rfl ?_
      refine E_iinc (v := v3 + 1) (ls' := [(0, .ref 42), (1, .ref 1), (2, .int (v2 + (r12 * ((S_12.2 6) ((S_7.2 30) v4_7.toNatClampNeg).toNatClampNeg)))), (3, .int (v3 + 1)), (4, .int v4_7), (5, .int ((S_7.2 30) v4_7.toNatClampNeg))]) dX4_balance_118 rfl rfl (by decide) rfl ?_
      refine E_goto (tgt := 4) dX4_balance_121 (by decide) ?_
      exact E_sub (ls' := [(0, .ref 42), (1, .ref 1), (2, .int (v2 + (r12 * ((S_12.2 6) ((S_7.2 30) v4_7.toNatClampNeg).toNatClampNeg)))), (3, .int (v3 + 1))]) ⟨rfl, rfl, rfl, rfl, trivial⟩ (ih S_12 (v2 + (r12 * ((S_12.2 6) ((S_7.2 30) v4_7.toNatClampNeg).toNatClampNeg))) (v3 + 1) hf)
theorem mf_X4_balance : pMF yX4_balance wsX4_balance cX4_balance 6 none 1 := ⟨⟨_, rfl⟩, by decide +kernel, by decide, by decide +kernel, by decide +kernel, by decide +kernel⟩
def f_X4_balance (S : PS) : Option (Int32 × PS) :=
  plp (g_X4_balance_4 pfuel S 0 0) (fun (S_14 : PS) => some (0, S_14))
set_option maxRecDepth 100000 in
theorem c_X4_balance (l : Launch) (D : va_G) (dA : Nat → ClassId) (ad : Nat → Nat) (S : PS) {P : (Int32 × PS) → Prop} (hf : pO (f_X4_balance S) P) : CtV l D dA ad yX4_balance wsX4_balance 3 [.ref 42, .ref 1] (hX S) (fun h' => ∃ (r0 : Int32) (S' : PS), h' = hX S' ∧ P (r0, S')) := by
  refine CtV_of mf_X4_balance rfl rfl (Nat.le_of_ble_eq_true rfl) rfl (hX_len S) ?_
  unfold f_X4_balance at hf
  refine E_iconst (v := 0) dX4_balance_0 (by decide) ?_
  refine E_istore_n (ls' := [(0, .ref 42), (1, .ref 1), (2, .int 0)]) dX4_balance_1 (by decide) rfl ?_
  refine E_iconst (v := 0) dX4_balance_2 (by decide) ?_
  refine E_istore_n (ls' := [(0, .ref 42), (1, .ref 1), (2, .int 0), (3, .int 0)]) dX4_balance_3 (by decide) rfl ?_
  refine E_sub (ls' := [(0, .ref 42), (1, .ref 1), (2, .int 0), (3, .int 0)]) ⟨rfl, rfl, rfl, rfl, trivial⟩ ?_
  refine l_X4_balance_4 l D dA ad _ (by omega) pfuel S 0 0 (pO_lp hf (fun x hx => ⟨x.1, x.2, rfl, hx⟩) (fun w14 hf => ?_))
  obtain ⟨S_14, rfl⟩ : ∃ z, z = w14 := ⟨_, rfl⟩
  dsimp only at hf ⊢
  exact E_vret rfl dX4_balance_124 ⟨0, _, rfl, hf⟩
theorem mf_X4_arrange : pMF yX4_arrange wsX4_arrange cX4_arrange 4 none 2 := ⟨⟨_, rfl⟩, by decide +kernel, by decide, by decide +kernel, by decide +kernel, by decide +kernel⟩
def f_X4_arrange (S : PS) (v2 : Int32) : Option (Int32 × PS) :=
  plp (g_X4_arrange_2 pfuel S v2 0) (fun (S_3 : PS) => if v2 = (3 : Int32) then (pbnd (f_X4_balance S_3) (fun _ S_7 => some (0, S_7))) else (if v2 = (2 : Int32) then (some (0, S_3)) else (pbnd (f_X4_sort S_3 v2) (fun _ S_6 => some (0, S_6)))))
set_option maxRecDepth 100000 in
theorem c_X4_arrange (l : Launch) (D : va_G) (dA : Nat → ClassId) (ad : Nat → Nat) (S : PS) (v2 : Int32) {P : (Int32 × PS) → Prop} (hf : pO (f_X4_arrange S v2) P) : CtV l D dA ad yX4_arrange wsX4_arrange 4 [.ref 42, .ref 1, .int v2] (hX S) (fun h' => ∃ (r0 : Int32) (S' : PS), h' = hX S' ∧ P (r0, S')) := by
  refine CtV_of mf_X4_arrange rfl rfl (Nat.le_of_ble_eq_true rfl) rfl (hX_len S) ?_
  unfold f_X4_arrange at hf
  refine E_iconst (v := 0) dX4_arrange_0 (by decide) ?_
  refine E_istore_n (ls' := [(0, .ref 42), (1, .ref 1), (2, .int v2), (3, .int 0)]) dX4_arrange_1 (by decide) rfl ?_
  refine E_sub (ls' := [(0, .ref 42), (1, .ref 1), (2, .int v2), (3, .int 0)]) ⟨rfl, rfl, rfl, rfl, trivial⟩ ?_
  refine l_X4_arrange_2 l D dA ad _ (by omega) pfuel S v2 0 (pO_lp hf (fun x hx => ⟨x.1, x.2, rfl, hx⟩) (fun w3 hf => ?_))
  obtain ⟨S_3, rfl⟩ : ∃ z, z = w3 := ⟨_, rfl⟩
  dsimp only at hf ⊢
  refine E_iload_n dX4_arrange_26 rfl ?_
  refine E_iconst (v := 3) dX4_arrange_27 (by decide) ?_
  refine E_icmp_ne (tgt := 39) dX4_arrange_28 (by decide) (fun c_4 => ?_) (fun c_4 => ?_)
  · have hf := pO_neg c_4 hf
    refine E_iload_n dX4_arrange_39 rfl ?_
    refine E_iconst (v := 2) dX4_arrange_40 (by decide) ?_
    refine E_icmp_eq (tgt := 50) dX4_arrange_41 (by decide) (fun c_5 => ?_) (fun c_5 => ?_)
    · have hf := pO_pos c_5 hf
      exact E_vret rfl dX4_arrange_50 ⟨0, _, rfl, hf⟩
    · have hf := pO_neg c_5 hf
      refine E_aload_n dX4_arrange_44 rfl ?_
      refine E_aload_n dX4_arrange_45 rfl ?_
      refine E_iload_n dX4_arrange_46 rfl ?_
      refine E_callVV (st := []) (c_X4_sort l D dA ad S_3 v2 (pO_bnd hf)) mf_X4_sort rfl rfl gX4_arrange_X4_sort (pRc.of (ci := 4) rfl rfl) (by omega) rfl (Nat.le_of_ble_eq_true rfl) (by rfl) dX4_arrange_47 (fun h6 q6 => ?_)
      obtain ⟨r6, S_6, rfl, hf⟩ := q6
      dsimp only at hf
      exact E_vret rfl dX4_arrange_50 ⟨0, _, rfl, hf⟩
  · have hf := pO_pos c_4 hf
    refine E_aload_n dX4_arrange_31 rfl ?_
    refine E_aload_n dX4_arrange_32 rfl ?_
    refine E_callVV (st := []) (c_X4_balance l D dA ad S_3 (pO_bnd hf)) mf_X4_balance rfl rfl gX4_arrange_X4_balance (pRc.of (ci := 4) rfl rfl) (by omega) rfl (Nat.le_of_ble_eq_true rfl) (by rfl) dX4_arrange_33 (fun h7 q7 => ?_)
    obtain ⟨r7, S_7, rfl, hf⟩ := q7
    dsimp only at hf
    refine E_goto (tgt := 50) dX4_arrange_36 (by decide) ?_
    exact E_vret rfl dX4_arrange_50 ⟨0, _, rfl, hf⟩
