/-! THE PURE PART, X: figures -/
theorem pdig {a d : Nat} (ha : a < 100000) (h1 : 0 < d) (h2 : d < 100000) : (nI a / nI d) - (nI a / nI d) / 10 * 10 = nI (a / d % 10) := by
  have hle : a / d ≤ a := Nat.div_le_self a d
  have e2 : nI (a / d) / 10 = nI (a / d / 10) := pk_div (a := a / d) (d := 10) (by omega) (by decide) (by decide)
  have e3 : nI (a / d / 10) * 10 = nI (a / d / 10 * 10) := pk_mul (a / d / 10) 10
  rw [pk_div (by omega) h1 (by omega), e2, e3, pk_sub (by omega)]
  congr 1
  omega
theorem ev_figStep {S P : PS} {L : List Nat} (h : pOut 22 S L P) {a d : Nat} (ha : a ≤ 999) (hd1 : 1 ≤ d) (hd2 : d ≤ 100) (hc : d ≤ a ∨ d = 1) (hL : L.length < 224) (fuel : Nat) : ∃ P', g_X5_addFigures_3 (fuel + 1) P (nI a) (nI d) = g_X5_addFigures_3 fuel P' (nI a) (nI (d / 10)) ∧ pOut 22 S (L ++ [48 + a / d % 10]) P' := by
  obtain ⟨P', e, hP⟩ := ev_addSign h (c := 48 + a / d % 10) (by omega) hL
  refine ⟨P', ?_, hP⟩
  have hnz : pnz (nI d) = true := pnz_pos (show (0 : Int32) < nI d from nI_lt (a := 0) (b := d) (by omega) (by omega))
  have e48 : (48 : Int32) + nI (a / d % 10) = nI (48 + a / d % 10) := nI_add 48 (a / d % 10)
  have ec := pchar7' ⟨48 + a / d % 10, by omega⟩
  dsimp only at ec
  have e10 : nI d / 10 = nI (d / 10) := pk_div (a := d) (d := 10) (by omega) (by decide) (by decide)
  rw [g_X5_addFigures_3, if_neg (nI_nle (by omega) (by omega)), g_t hnz, pdig (by omega) (by omega) (by omega), e48, ec, e, b_some, e10]
  by_cases hda : d ≤ a
  · rw [if_pos (nI_le hda (by omega))]
  · have hd : d = 1 := hc.resolve_left hda
    rw [if_neg (nI_ge (by omega) (by omega)), if_pos (by rw [hd]; rfl)]
theorem ev_figSkip {P : PS} {a d : Nat} (ha : a < d) (hd1 : 1 < d) (hd2 : d ≤ 100) (fuel : Nat) : g_X5_addFigures_3 (fuel + 1) P (nI a) (nI d) = g_X5_addFigures_3 fuel P (nI a) (nI (d / 10)) := by
  have e10 : nI d / 10 = nI (d / 10) := pk_div (a := d) (d := 10) (by omega) (by decide) (by decide)
  rw [g_X5_addFigures_3, if_neg (nI_nle (by omega) (by omega)), if_neg (nI_ge (by omega) (by omega)), if_neg (show ¬ nI d = (1 : Int32) from fun q => by
    have := (nI_eq (a := d) (b := 1) (by omega) (by decide)).mp q
    omega), e10]
def figs (a : Nat) : List Nat := if 100 ≤ a then [48 + a / 100 % 10, 48 + a / 10 % 10, 48 + a / 1 % 10] else if 10 ≤ a then [48 + a / 10 % 10, 48 + a / 1 % 10] else [48 + a / 1 % 10]
theorem figs_len (a : Nat) : (figs a).length ≤ 3 := by
  unfold figs
  by_cases h : 100 ≤ a
  · rw [if_pos h]; exact Nat.le_of_ble_eq_true rfl
  · rw [if_neg h]
    by_cases h : 10 ≤ a
    · rw [if_pos h]; exact Nat.le_of_ble_eq_true rfl
    · rw [if_neg h]; exact Nat.le_of_ble_eq_true rfl
theorem ev_addFigures {S P : PS} {L : List Nat} (h : pOut 22 S L P) {a : Nat} (ha : a ≤ 999) (hL : L.length + 3 ≤ 224) : ∃ P', f_X5_addFigures P (nI a) = some (0, P') ∧ pOut 22 S (L ++ figs a) P' := by
  have fin : ∀ (P' : PS) (fuel : Nat), g_X5_addFigures_3 (fuel + 1) P' (nI a) (nI 0) = some (.inr P') := fun P' fuel => by rw [g_X5_addFigures_3, if_pos (by decide)]
  unfold f_X5_addFigures figs
  rw [show pfuel = 4092 + 1 + 1 + 1 + 1 from rfl, show (100 : Int32) = nI 100 from rfl]
  have hl1 : ∀ x, (L ++ [x]).length = L.length + 1 := fun x => by rw [List.length_append]; rfl
  by_cases h100 : 100 ≤ a
  · rw [if_pos h100]
    obtain ⟨P1, e1, h1⟩ := ev_figStep h ha (d := 100) (by decide) (by decide) (Or.inl h100) (by omega) (4092 + 1 + 1 + 1)
    obtain ⟨P2, e2, h2⟩ := ev_figStep h1 ha (d := 10) (by decide) (by decide) (Or.inl (by omega)) (by rw [hl1]; omega) (4092 + 1 + 1)
    obtain ⟨P3, e3, h3⟩ := ev_figStep h2 ha (d := 1) (by decide) (by decide) (Or.inr rfl) (by rw [List.length_append, hl1]; show L.length + 1 + 1 < 224; omega) (4092 + 1)
    refine ⟨P3, ?_, ?_⟩
    · rw [e1, show 100 / 10 = 10 from rfl, e2, show 10 / 10 = 1 from rfl, e3, show 1 / 10 = 0 from rfl, fin, lp_r]
    · rw [List.append_assoc, List.append_assoc] at h3
      exact h3
  · rw [if_neg h100, ev_figSkip (by omega) (by decide) (by decide), show 100 / 10 = 10 from rfl]
    by_cases h10 : 10 ≤ a
    · rw [if_pos h10]
      obtain ⟨P2, e2, h2⟩ := ev_figStep h ha (d := 10) (by decide) (by decide) (Or.inl h10) (by omega) (4092 + 1 + 1)
      obtain ⟨P3, e3, h3⟩ := ev_figStep h2 ha (d := 1) (by decide) (by decide) (Or.inr rfl) (by rw [hl1]; omega) (4092 + 1)
      refine ⟨P3, ?_, ?_⟩
      · rw [e2, show 10 / 10 = 1 from rfl, e3, show 1 / 10 = 0 from rfl, fin, lp_r]
      · rw [List.append_assoc] at h3
        exact h3
    · rw [if_neg h10, ev_figSkip (by omega) (by decide) (by decide), show 10 / 10 = 1 from rfl]
      obtain ⟨P3, e3, h3⟩ := ev_figStep h ha (d := 1) (by decide) (by decide) (Or.inr rfl) (by omega) (4092 + 1)
      refine ⟨P3, ?_, h3⟩
      rw [e3, show 1 / 10 = 0 from rfl, fin, lp_r]
theorem ev_figM {S P : PS} {L : List Nat} (h : pOut 14 S L P) {a : Nat} (ha : a < 100000) (hL : L.length < 320) : ∃ P', f_X12_says P (48 + (nI a - nI a / 10 * 10)) = some (0, P') ∧ pOut 14 S (L ++ [48 + a % 10]) P' := by
  have e : (48 : Int32) + (nI a - nI a / 10 * 10) = nI (48 + a % 10) := by
    have e2 : nI a / 10 = nI (a / 10) := pk_div (a := a) (d := 10) (by omega) (by decide) (by decide)
    have e3 : nI (a / 10) * 10 = nI (a / 10 * 10) := pk_mul (a / 10) 10
    rw [e2, e3, pk_sub (by omega), show a - a / 10 * 10 = a % 10 by omega]
    exact nI_add 48 (a % 10)
  rw [e]
  exact ev_says h (by omega) hL
theorem ev_saysNumber {S P : PS} {L : List Nat} (h : pOut 14 S L P) {a : Nat} (ha : a ≤ 999) (hL : L.length + 3 ≤ 320) : ∃ P', f_X12_saysNumber 8 P (nI a) = some (0, P') ∧ pOut 14 S (L ++ figs a) P' := by
  have hl1 : ∀ x, (L ++ [x]).length = L.length + 1 := fun x => by rw [List.length_append]; rfl
  have base : ∀ (fuel : Nat) (b : Nat), b < 10 → ∃ P', f_X12_saysNumber (fuel + 1) P (nI b) = some (0, P') ∧ pOut 14 S (L ++ [48 + b % 10]) P' := by
    intro fuel b hb
    obtain ⟨P', e, hP⟩ := ev_figM h (a := b) (by omega) (by omega)
    refine ⟨P', ?_, hP⟩
    rw [f_X12_saysNumber, if_pos (show nI b < (10 : Int32) from nI_lt (a := b) (b := 10) hb (by decide)), e, b_some]
  have hge : ∀ b : Nat, 10 ≤ b → b < 100000 → ¬ nI b < (10 : Int32) := fun b hb hb2 => nI_nlt (a := b) (b := 10) hb (by omega)
  have e10 : ∀ b : Nat, b < 100000 → nI b / 10 = nI (b / 10) := fun b hb => pk_div (a := b) (d := 10) (by omega) (by decide) (by decide)
  unfold figs
  by_cases h100 : 100 ≤ a
  · rw [if_pos h100]
    obtain ⟨P1, e1, h1⟩ := base 5 (a / 10 / 10) (by omega)
    obtain ⟨P2, e2, h2⟩ := ev_figM h1 (a := a / 10) (by omega) (by rw [hl1]; omega)
    obtain ⟨P3, e3, h3⟩ := ev_figM h2 (a := a) (by omega) (by rw [List.length_append, hl1]; show L.length + 1 + 1 < 320; omega)
    refine ⟨P3, ?_, ?_⟩
    · rw [f_X12_saysNumber, if_neg (hge a (by omega) (by omega)), e10 a (by omega), f_X12_saysNumber, if_neg (hge (a / 10) (by omega) (by omega)), e10 (a / 10) (by omega), e1, b_some]
      dsimp only
      rw [← e10 (a / 10) (by omega), e2, b_some, b_some]
      dsimp only
      rw [← e10 a (by omega), e3, b_some]
    · rw [List.append_assoc, List.append_assoc, show a / 10 / 10 % 10 = a / 100 % 10 by omega] at h3
      rw [show a / 1 % 10 = a % 10 by omega]
      exact h3
  · rw [if_neg h100]
    by_cases h10 : 10 ≤ a
    · rw [if_pos h10]
      obtain ⟨P1, e1, h1⟩ := base 6 (a / 10) (by omega)
      obtain ⟨P3, e3, h3⟩ := ev_figM h1 (a := a) (by omega) (by rw [hl1]; omega)
      refine ⟨P3, ?_, ?_⟩
      · rw [f_X12_saysNumber, if_neg (hge a (by omega) (by omega)), e10 a (by omega), e1, b_some]
        dsimp only
        rw [← e10 a (by omega), e3, b_some]
      · rw [List.append_assoc] at h3
        rw [show a / 1 % 10 = a % 10 by omega]
        exact h3
    · rw [if_neg h10, show a / 1 % 10 = a % 10 by omega]
      exact base 7 a (by omega)
