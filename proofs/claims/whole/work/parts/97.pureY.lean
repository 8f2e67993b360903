/-! THE PURE PART, Y: letters -/
theorem pdig27 {a d : Nat} (ha : a < 1000000) (h1 : 0 < d) (h2 : d < 100000) : (nI a / nI d) - (nI a / nI d) / 27 * 27 = nI (a / d % 27) := by
  have hle : a / d ≤ a := Nat.div_le_self a d
  have e2 : nI (a / d) / 27 = nI (a / d / 27) := pk_div (a := a / d) (d := 27) (by omega) (by decide) (by decide)
  have e3 : nI (a / d / 27) * 27 = nI (a / d / 27 * 27) := pk_mul (a / d / 27) 27
  rw [pk_div (by omega) h1 (by omega), e2, e3, pk_sub (by omega)]
  congr 1
  omega
theorem ev_letStep {S P : PS} {L : List Nat} (h : pOut 22 S L P) {a d : Nat} (ha : a < 1000000) (hd1 : 1 ≤ d) (hd2 : d ≤ 20000) (hc : d ≤ a) (hL : L.length < 224) (fuel : Nat) : ∃ P', g_X5_addLetters_4 (fuel + 1) P (nI a) (nI d) = g_X5_addLetters_4 fuel P' (nI a) (nI (d / 27)) ∧ pOut 22 S (L ++ [96 + a / d % 27]) P' := by
  obtain ⟨P', e, hP⟩ := ev_addSign h (c := 96 + a / d % 27) (by omega) hL
  refine ⟨P', ?_, hP⟩
  have hnz : pnz (nI d) = true := pnz_pos (show (0 : Int32) < nI d from nI_lt (a := 0) (b := d) (by omega) (by omega))
  have e96 : (96 : Int32) + nI (a / d % 27) = nI (96 + a / d % 27) := nI_add 96 (a / d % 27)
  have ec := pchar7' ⟨96 + a / d % 27, by omega⟩
  dsimp only at ec
  have e27 : nI d / 27 = nI (d / 27) := pk_div (a := d) (d := 27) (by omega) (by decide) (by decide)
  rw [g_X5_addLetters_4, if_neg (nI_nle (by omega) (by omega)), if_neg (nI_nlt hc (by omega)), g_t hnz, pdig27 (by omega) (by omega) (by omega), e96, ec, e, b_some, e27]
theorem ev_letSkip {P : PS} {a d : Nat} (ha : a < d) (hd2 : d ≤ 20000) (fuel : Nat) : g_X5_addLetters_4 (fuel + 1) P (nI a) (nI d) = g_X5_addLetters_4 fuel P (nI a) (nI (d / 27)) := by
  have e27 : nI d / 27 = nI (d / 27) := pk_div (a := d) (d := 27) (by omega) (by decide) (by decide)
  rw [g_X5_addLetters_4, if_neg (nI_nle (by omega) (by omega)), if_pos (nI_lt ha (by omega)), e27]
def lets (a : Nat) : List Nat := if 19683 ≤ a then [96 + a / 19683 % 27, 96 + a / 729 % 27, 96 + a / 27 % 27, 96 + a / 1 % 27] else if 729 ≤ a then [96 + a / 729 % 27, 96 + a / 27 % 27, 96 + a / 1 % 27] else if 27 ≤ a then [96 + a / 27 % 27, 96 + a / 1 % 27] else [96 + a / 1 % 27]
theorem plen1 (L : List Nat) (x : Nat) : (L ++ [x]).length = L.length + 1 := by rw [List.length_append]; rfl
theorem ev_addLetters {S P : PS} {L : List Nat} (h : pOut 22 S L P) {a : Nat} (h1 : 1 ≤ a) (ha : a < 1000000) (hL : L.length + 4 ≤ 224) : ∃ P', f_X5_addLetters P (nI a) = some (0, P') ∧ pOut 22 S (L ++ lets a) P' := by
  have fin : ∀ (P' : PS) (fuel : Nat), g_X5_addLetters_4 (fuel + 1) P' (nI a) (nI 0) = some (.inr P') := fun P' fuel => by rw [g_X5_addLetters_4, if_pos (by decide)]
  have s4 : ∀ {P : PS} {L : List Nat} (fuel : Nat), pOut 22 S L P → L.length < 224 → ∃ P', g_X5_addLetters_4 (fuel + 1 + 1) P (nI a) (nI 1) = some (.inr P') ∧ pOut 22 S (L ++ [96 + a / 1 % 27]) P' := by
    intro P L fuel h hL
    obtain ⟨P3, e3, h3⟩ := ev_letStep h ha (d := 1) (by decide) (by decide) h1 hL (fuel + 1)
    exact ⟨P3, by rw [e3, show 1 / 27 = 0 from rfl, fin], h3⟩
  have s3 : ∀ {P : PS} {L : List Nat} (fuel : Nat), 27 ≤ a → pOut 22 S L P → L.length + 1 < 224 → ∃ P', g_X5_addLetters_4 (fuel + 1 + 1 + 1) P (nI a) (nI 27) = some (.inr P') ∧ pOut 22 S (L ++ [96 + a / 27 % 27, 96 + a / 1 % 27]) P' := by
    intro P L fuel hc h hL
    obtain ⟨P1, e1, q1⟩ := ev_letStep h ha (d := 27) (by decide) (by decide) hc (by omega) (fuel + 1 + 1)
    obtain ⟨P2, e2, q2⟩ := s4 fuel q1 (by rw [plen1]; exact hL)
    rw [List.append_assoc] at q2
    exact ⟨P2, by rw [e1, show 27 / 27 = 1 from rfl, e2], q2⟩
  have s2 : ∀ {P : PS} {L : List Nat} (fuel : Nat), 729 ≤ a → pOut 22 S L P → L.length + 2 < 224 → ∃ P', g_X5_addLetters_4 (fuel + 1 + 1 + 1 + 1) P (nI a) (nI 729) = some (.inr P') ∧ pOut 22 S (L ++ [96 + a / 729 % 27, 96 + a / 27 % 27, 96 + a / 1 % 27]) P' := by
    intro P L fuel hc h hL
    obtain ⟨P1, e1, q1⟩ := ev_letStep h ha (d := 729) (by decide) (by decide) hc (by omega) (fuel + 1 + 1 + 1)
    obtain ⟨P2, e2, q2⟩ := s3 fuel (by omega) q1 (by rw [plen1]; omega)
    rw [List.append_assoc] at q2
    exact ⟨P2, by rw [e1, show 729 / 27 = 27 from rfl, e2], q2⟩
  unfold f_X5_addLetters lets
  rw [show pfuel = 4091 + 1 + 1 + 1 + 1 + 1 from rfl, show (19683 : Int32) = nI 19683 from rfl]
  by_cases c1 : 19683 ≤ a
  · rw [if_pos c1]
    obtain ⟨P1, e1, q1⟩ := ev_letStep h ha (d := 19683) (by decide) (by decide) c1 (by omega) (4091 + 1 + 1 + 1 + 1)
    obtain ⟨P2, e2, q2⟩ := s2 4091 (by omega) q1 (by rw [plen1]; omega)
    rw [List.append_assoc] at q2
    exact ⟨P2, by rw [e1, show 19683 / 27 = 729 from rfl, e2, lp_r], q2⟩
  · rw [if_neg c1, ev_letSkip (by omega) (by decide), show 19683 / 27 = 729 from rfl]
    by_cases c2 : 729 ≤ a
    · rw [if_pos c2]
      obtain ⟨P2, e2, q2⟩ := s2 4091 c2 h (by omega)
      exact ⟨P2, by rw [e2, lp_r], q2⟩
    · rw [if_neg c2, ev_letSkip (by omega) (by decide), show 729 / 27 = 27 from rfl]
      by_cases c3 : 27 ≤ a
      · rw [if_pos c3]
        obtain ⟨P2, e2, q2⟩ := s3 4091 c3 h (by omega)
        exact ⟨P2, by rw [e2, lp_r], q2⟩
      · rw [if_neg c3, ev_letSkip (by omega) (by decide), show 27 / 27 = 1 from rfl]
        obtain ⟨P2, e2, q2⟩ := s4 4091 h (by omega)
        exact ⟨P2, by rw [e2, lp_r], q2⟩
