/-! THE PURE PART, Y: letters -/
theorem pdig27 {a d : Nat} (ha : a < 1000000) (h1 : 0 < d) (h2 : d < 100000) : (nI a / nI d) - (nI a / nI d) / 27 * 27 = nI (a / d % 27) := by
  have hle : a / d ≤ a := Nat.div_le_self a d
  have e2 : nI (a / d) / 27 = nI (a / d / 27) := pk_div (a := a / d) (d := 27) (by omega) (by decide) (by decide)
  have e3 : nI (a / d / 27) * 27 = nI (a / d / 27 * 27) := pk_mul (a / d / 27) 27
  rw [pk_div (by omega) h1 (by omega), e2, e3, pk_sub (by omega)]
  congr 1
  omega
theorem ev_letStep {S P : PS} {L : List Nat} (h : pOut 22 S L P) {a d : Nat} (ha : a < 1000000) (hd1 : 1 ≤ d) (hd2 : d ≤ 20000) (hc : d ≤ a) (hL : L.length < 224) (fuel : Nat) : ∃ P', g_X5_addLetters_4 (fuel + 1) P (nI a) (nI d) = g_X5_addLetters_4 fuel P' (nI a) (nI (d / 27)) ∧ pOut 22 S (L ++ [96 + a / d % 27]) P' := by
  obtain ⟨P', e, hP⟩ := ev_addSign h (c := 96 + a / d % 27) (by omega) hL
  refine ⟨P', ?_, hP⟩
  have hnz : pnz (nI d) = true := pnz_pos (show (0 : Int32) < nI d from nI_lt (a := 0) (b := d) (by omega) (by omega))
  have e96 : (96 : Int32) + nI (a / d % 27) = nI (96 + a / d % 27) := nI_add 96 (a / d % 27)
  have ec := pchar7' ⟨96 + a / d % 27, by omega⟩
  dsimp only at ec
  have e27 : nI d / 27 = nI (d / 27) := pk_div (a := d) (d := 27) (by omega) (by decide) (by decide)
  rw [g_X5_addLetters_4, if_neg (nI_nle (by omega) (by omega)), if_neg (nI_nlt hc (by omega)), g_t hnz, pdig27 (by omega) (by omega) (by omega), e96, ec, e, b_some, e27]
theorem ev_letSkip {P : PS} {a d : Nat} (ha : a < d) (hd2 : d ≤ 20000) (fuel : Nat) : g_X5_addLetters_4 (fuel + 1) P (nI a) (nI d) = g_X5_addLetters_4 fuel P (nI a) (nI (d / 27)) := by
  have e27 : nI d / 27 = nI (d / 27) := pk_div (a := d) (d := 27) (by omega) (by decide) (by decide)
  rw [g_X5_addLetters_4, if_neg (nI_nle (by omega) (by omega)), if_pos (nI_lt ha (by omega)), e27]
