theorem hi_X12_count_12 : ∀ w ∈ u_ws RX12 TX12 32, w ∈ wsX12_count := fun w h => of_decide_eq_true (List.all_eq_true.mp (by decide +kernel : (u_ws RX12 TX12 32).all (fun w => decide (w ∈ wsX12_count)) = true) w h)
theorem fl_X12_count_9 : pFL wsX12_count RX12 9 12 0 := ⟨RX12, TX12, 32, hi_X12_count_12, rfl, by decide, by decide +kernel⟩
theorem fl_X12_count_98 : pFL wsX12_count RX12 98 12 6 := ⟨RX12, TX12, 32, hi_X12_count_12, rfl, by decide, by decide +kernel⟩
theorem fl_X12_count_15 : pFL wsX12_count RX12 15 12 1 := ⟨RX12, TX12, 32, hi_X12_count_12, rfl, by decide, by decide +kernel⟩
theorem fl_X12_count_18 : pFL wsX12_count RX12 18 12 2 := ⟨RX12, TX12, 32, hi_X12_count_12, rfl, by decide, by decide +kernel⟩
theorem fl_X12_count_95 : pFL wsX12_count RX12 95 12 3 := ⟨RX12, TX12, 32, hi_X12_count_12, rfl, by decide, by decide +kernel⟩
theorem fl_X12_count_257 : pFL wsX12_count RX12 257 12 22 := ⟨RX12, TX12, 32, hi_X12_count_12, rfl, by decide, by decide +kernel⟩
theorem hi_X12_tanksThere_12 : ∀ w ∈ u_ws RX12 TX12 32, w ∈ wsX12_tanksThere := fun w h => of_decide_eq_true (List.all_eq_true.mp (by decide +kernel : (u_ws RX12 TX12 32).all (fun w => decide (w ∈ wsX12_tanksThere)) = true) w h)
theorem fl_X12_tanksThere_49 : pFL wsX12_tanksThere RX12 49 12 14 := ⟨RX12, TX12, 32, hi_X12_tanksThere_12, rfl, by decide, by decide +kernel⟩
def g_X12_tanksThere_4 : Nat → PS → Int32 → Int32 → Option ((Int32 × PS) ⊕ (PS × Int32))
  | 0, _, _, _ => none
  | fuel + 1, S, v1, v2 =>
    if (4 : Int32) ≤ v2 then (some (.inr (S, v1))) else (pgd (pin v2 4) (if ((S.2 9) v2.toNatClampNeg) ≤ (0 : Int32) then (g_X12_tanksThere_4 fuel S v1 (v2 + 1)) else (g_X12_tanksThere_4 fuel S (v1 + 1) (v2 + 1))))
set_option maxRecDepth 100000 in
theorem l_X12_tanksThere_4 (l : Launch) (D : va_G) (dA : Nat → ClassId) (ad : Nat → Nat) (d : Nat) (hd : 0 ≤ d) {Q : Int32 → List PC → Prop} : ∀ (fuel : Nat) (S : PS) (v1 : Int32) (v2 : Int32), pO (g_X12_tanksThere_4 fuel S v1 v2) (fun y => match y with
    | .inl x => Q x.1 (hM x.2)
    | .inr w => Ev l D dA ad wsX12_tanksThere cX12_tanksThere RX12 3 (some .int) d 38 (pKi D dA ad 38 Q) 27 [(1, .int w.2)] [] (hM w.1)) → Ev l D dA ad wsX12_tanksThere cX12_tanksThere RX12 3 (some .int) d 38 (pKi D dA ad 38 Q) 4 [(0, .ref 0), (1, .int v1), (2, .int v2)] [] (hM S) := by
  intro fuel
  induction fuel with
  | zero =>
    intro S v1 v2 hf
    exact hf.elim
  | succ fuel ih =>
    intro S v1 v2 hf
    rw [g_X12_tanksThere_4] at hf
    refine E_iload_n dX12_tanksThere_4 rfl ?_
    refine E_iconst (v := 4) dX12_tanksThere_5 (by decide) ?_
    refine E_icmp_ge (tgt := 27) dX12_tanksThere_6 (by decide) (fun c_1 => ?_) (fun c_1 => ?_)
    · have hf := pO_pos c_1 hf
      exact E_sub (ls' := [(1, .int v1)]) ⟨rfl, trivial⟩ hf
    · have hf := pO_neg c_1 hf
      refine E_aload_n dX12_tanksThere_9 rfl ?_
      refine E_getf (v := .ref 10) dX12_tanksThere_10 fl_X12_tanksThere_49 rfl rfl ?_
      refine E_iload_n dX12_tanksThere_13 rfl ?_
      obtain ⟨hi_2, hf⟩ := pO_gd hf
      refine E_iald (n0 := 4) (f := S.2 9) dX12_tanksThere_14 rfl (pin_in hi_2) ?_
      refine E_if_le (tgt := 21) dX12_tanksThere_15 (by decide) (fun c_3 => ?_) (fun c_3 => ?_)
      · have hf := pO_pos c_3 hf
        refine E_iinc (v := v2 + 1) (ls' := [(0, .ref 0), (1, .int v1), (2, .int (v2 + 1))]) dX12_tanksThere_21 rfl rfl (by decide) rfl ?_
        refine E_goto (tgt := 4) dX12_tanksThere_24 (by decide) ?_
        exact E_sub (ls' := [(0, .ref 0), (1, .int v1), (2, .int (v2 + 1))]) ⟨rfl, rfl, rfl, trivial⟩ (ih S v1 (v2 + 1) hf)
      · have hf := pO_neg c_3 hf
        refine E_iinc (v := v1 + 1) (ls' := [(0, .ref 0), (1, .int (v1 + 1)), (2, .int v2)]) dX12_tanksThere_18 rfl rfl (by decide) rfl ?_
        refine E_iinc (v := v2 + 1) (ls' := [(0, .ref 0), (1, .int (v1 + 1)), (2, .int (v2 + 1))]) dX12_tanksThere_21 rfl rfl (by decide) rfl ?_
        refine E_goto (tgt := 4) dX12_tanksThere_24 (by decide) ?_
        exact E_sub (ls' := [(0, .ref 0), (1, .int (v1 + 1)), (2, .int (v2 + 1))]) ⟨rfl, rfl, rfl, trivial⟩ (ih S (v1 + 1) (v2 + 1) hf)
theorem mf_X12_tanksThere : pMF yX12_tanksThere wsX12_tanksThere cX12_tanksThere 3 (some .int) 0 := ⟨⟨_, rfl⟩, by decide +kernel, by decide, by decide +kernel, by decide +kernel, by decide +kernel⟩
def f_X12_tanksThere (S : PS) : Option (Int32 × PS) :=
  plp (g_X12_tanksThere_4 pfuel S 0 0) (fun w => (fun (S_4 : PS) (v1_4 : Int32) => some (v1_4, S_4)) w.1 w.2)
set_option maxRecDepth 100000 in
theorem c_X12_tanksThere (l : Launch) (D : va_G) (dA : Nat → ClassId) (ad : Nat → Nat) (S : PS) {P : (Int32 × PS) → Prop} (hf : pO (f_X12_tanksThere S) P) : CtI l D dA ad yX12_tanksThere wsX12_tanksThere 0 [.ref 0] (hM S) (fun r h' => ∃ S' : PS, h' = hM S' ∧ P (r, S')) := by
  refine CtI_of mf_X12_tanksThere rfl rfl (Nat.le_of_ble_eq_true rfl) rfl (hM_len S) ?_
  unfold f_X12_tanksThere at hf
  refine E_iconst (v := 0) dX12_tanksThere_0 (by decide) ?_
  refine E_istore_n (ls' := [(0, .ref 0), (1, .int 0)]) dX12_tanksThere_1 (by decide) rfl ?_
  refine E_iconst (v := 0) dX12_tanksThere_2 (by decide) ?_
  refine E_istore_n (ls' := [(0, .ref 0), (1, .int 0), (2, .int 0)]) dX12_tanksThere_3 (by decide) rfl ?_
  refine E_sub (ls' := [(0, .ref 0), (1, .int 0), (2, .int 0)]) ⟨rfl, rfl, rfl, trivial⟩ ?_
  refine l_X12_tanksThere_4 l D dA ad _ (by omega) pfuel S 0 0 (pO_lp hf (fun x hx => ⟨x.2, rfl, hx⟩) (fun w4 hf => ?_))
  obtain ⟨S_4, v1_4⟩ := w4
  dsimp only at hf ⊢
  refine E_iload_n dX12_tanksThere_27 rfl ?_
  exact E_iret rfl dX12_tanksThere_28 ⟨_, rfl, hf⟩
theorem mf_X12_count : pMF yX12_count wsX12_count cX12_count 2 (some .int) 1 := ⟨⟨_, rfl⟩, by decide +kernel, by decide, by decide +kernel, by decide +kernel, by decide +kernel⟩
def f_X12_count (S : PS) (v1 : Int32) : Option (Int32 × PS) :=
  if v1 = (0 : Int32) then (some (S.1 0, S)) else (if v1 = (1 : Int32) then (some (S.1 4, S)) else (if v1 = (2 : Int32) then (some (S.1 1, S)) else (if v1 = (3 : Int32) then (some (S.1 2, S)) else (if v1 = (4 : Int32) then (some (S.1 3, S)) else (if v1 = (5 : Int32) then (some (S.1 11, S)) else (if v1 = (6 : Int32) then (pbnd (f_X12_tanksThere S) (fun r8 S_8 => some (r8, S_8))) else (some ((-1), S))))))))
set_option maxRecDepth 100000 in
theorem c_X12_count (l : Launch) (D : va_G) (dA : Nat → ClassId) (ad : Nat → Nat) (S : PS) (v1 : Int32) {P : (Int32 × PS) → Prop} (hf : pO (f_X12_count S v1) P) : CtI l D dA ad yX12_count wsX12_count 1 [.ref 0, .int v1] (hM S) (fun r h' => ∃ S' : PS, h' = hM S' ∧ P (r, S')) := by
  refine CtI_of mf_X12_count rfl rfl (Nat.le_of_ble_eq_true rfl) rfl (hM_len S) ?_
  unfold f_X12_count at hf
  refine E_iload_n dX12_count_0 rfl ?_
  by_cases k_1 : v1 = (0 : Int32)
  · have hf := pO_pos k_1 hf
    refine E_tableIn (off := 43) (tgt := 44) dX12_count_1 (by rw [k_1]; decide) (by rw [k_1]; decide) (by rw [k_1]; rfl) (by decide) ?_
    refine E_aload_n dX12_count_44 rfl ?_
    refine E_getf (v := .int (S.1 0)) dX12_count_45 fl_X12_count_9 rfl rfl ?_
    exact E_iret rfl dX12_count_48 ⟨_, rfl, hf⟩
  · have hf := pO_neg k_1 hf
    by_cases k_2 : v1 = (1 : Int32)
    · have hf := pO_pos k_2 hf
      refine E_tableIn (off := 48) (tgt := 49) dX12_count_1 (by rw [k_2]; decide) (by rw [k_2]; decide) (by rw [k_2]; rfl) (by decide) ?_
      refine E_aload_n dX12_count_49 rfl ?_
      refine E_getf (v := .int (S.1 4)) dX12_count_50 fl_X12_count_98 rfl rfl ?_
      exact E_iret rfl dX12_count_53 ⟨_, rfl, hf⟩
    · have hf := pO_neg k_2 hf
      by_cases k_3 : v1 = (2 : Int32)
      · have hf := pO_pos k_3 hf
        refine E_tableIn (off := 53) (tgt := 54) dX12_count_1 (by rw [k_3]; decide) (by rw [k_3]; decide) (by rw [k_3]; rfl) (by decide) ?_
        refine E_aload_n dX12_count_54 rfl ?_
        refine E_getf (v := .int (S.1 1)) dX12_count_55 fl_X12_count_15 rfl rfl ?_
        exact E_iret rfl dX12_count_58 ⟨_, rfl, hf⟩
      · have hf := pO_neg k_3 hf
        by_cases k_4 : v1 = (3 : Int32)
        · have hf := pO_pos k_4 hf
          refine E_tableIn (off := 58) (tgt := 59) dX12_count_1 (by rw [k_4]; decide) (by rw [k_4]; decide) (by rw [k_4]; rfl) (by decide) ?_
          refine E_aload_n dX12_count_59 rfl ?_
          refine E_getf (v := .int (S.1 2)) dX12_count_60 fl_X12_count_18 rfl rfl ?_
          exact E_iret rfl dX12_count_63 ⟨_, rfl, hf⟩
        · have hf := pO_neg k_4 hf
          by_cases k_5 : v1 = (4 : Int32)
          · have hf := pO_pos k_5 hf
            refine E_tableIn (off := 63) (tgt := 64) dX12_count_1 (by rw [k_5]; decide) (by rw [k_5]; decide) (by rw [k_5]; rfl) (by decide) ?_
            refine E_aload_n dX12_count_64 rfl ?_
            refine E_getf (v := .int (S.1 3)) dX12_count_65 fl_X12_count_95 rfl rfl ?_
            exact E_iret rfl dX12_count_68 ⟨_, rfl, hf⟩
          · have hf := pO_neg k_5 hf
            by_cases k_6 : v1 = (5 : Int32)
            · have hf := pO_pos k_6 hf
              refine E_tableIn (off := 68) (tgt := 69) dX12_count_1 (by rw [k_6]; decide) (by rw [k_6]; decide) (by rw [k_6]; rfl) (by decide) ?_
              refine E_aload_n dX12_count_69 rfl ?_
              refine E_getf (v := .int (S.1 11)) dX12_count_70 fl_X12_count_257 rfl rfl ?_
              exact E_iret rfl dX12_count_73 ⟨_, rfl, hf⟩
            · have hf := pO_neg k_6 hf
              by_cases k_7 : v1 = (6 : Int32)
              · have hf := pO_pos k_7 hf
                refine E_tableIn (off := 73) (tgt := 74) dX12_count_1 (by rw [k_7]; decide) (by rw [k_7]; decide) (by rw [k_7]; rfl) (by decide) ?_
                refine E_aload_n dX12_count_74 rfl ?_
                refine E_callVI (st := []) (c_X12_tanksThere l D dA ad S (pO_bnd hf)) mf_X12_tanksThere rfl rfl gX12_count_X12_tanksThere (pRc.of (ci := 12) rfl rfl) (by omega) rfl (Nat.le_of_ble_eq_true rfl) (by rfl) dX12_count_75 (fun r8 h8 q8 => ?_)
                obtain ⟨S_8, rfl, hf⟩ := q8
                dsimp only at hf
                exact E_iret rfl dX12_count_78 ⟨_, rfl, hf⟩
              · have hf := pO_neg k_7 hf
                refine E_tableOut (tgt := 79) dX12_count_1 (by have z0 := pti k_1 (by decide : (0 : Int32).toInt = 0); have z1 := pti k_2 (by decide : (1 : Int32).toInt = 1); have z2 := pti k_3 (by decide : (2 : Int32).toInt = 2); have z3 := pti k_4 (by decide : (3 : Int32).toInt = 3); have z4 := pti k_5 (by decide : (4 : Int32).toInt = 4); have z5 := pti k_6 (by decide : (5 : Int32).toInt = 5); have z6 := pti k_7 (by decide : (6 : Int32).toInt = 6); omega) (by decide) ?_
                refine E_iconst (v := (-1)) dX12_count_79 (by decide) ?_
                exact E_iret rfl dX12_count_80 ⟨_, rfl, hf⟩
