/-! THE PURE PART, Z: the report -/
theorem pOut.a {q : Nat} {S P : PS} {L : List Nat} (h : pOut q S L P) {k : Nat} (hk : ¬ k = 34) : P.2 k = S.2 k := h.2.2.2 k hk
theorem pOut.i {q : Nat} {S P : PS} {L : List Nat} (h : pOut q S L P) {k : Nat} (hk : ¬ k = q) : P.1 k = S.1 k := h.2.2.1 k hk
theorem ev_nameM {S P : PS} {L : List Nat} (h : pOut 14 S L P) {a : Nat} (ha : a < 1000000) (hL : L.length < 320) : ∃ P', f_X12_says P ((97 + (nI a - nI a / 27 * 27)) - 1) = some (0, P') ∧ pOut 14 S (L ++ [96 + a % 27]) P' := by
  have e : ((97 : Int32) + (nI a - nI a / 27 * 27)) - 1 = nI (96 + a % 27) := by
    have e2 : nI a / 27 = nI (a / 27) := pk_div (a := a) (d := 27) (by omega) (by decide) (by decide)
    have e3 : nI (a / 27) * 27 = nI (a / 27 * 27) := pk_mul (a / 27) 27
    have e4 : (97 : Int32) + nI (a % 27) = nI (97 + a % 27) := nI_add 97 (a % 27)
    rw [e2, e3, pk_sub (by omega), show a - a / 27 * 27 = a % 27 by omega, e4]
    have := pk_sub (a := 97 + a % 27) (b := 1) (by omega)
    rw [show 96 + a % 27 = 97 + a % 27 - 1 by omega]
    exact this
  rw [e]
  exact ev_says h (by omega) hL
theorem ev_saysName {S P : PS} {L : List Nat} (h : pOut 14 S L P) {a : Nat} (ha : a ≤ 531440) (hL : L.length + 4 ≤ 320) : ∃ P', f_X12_saysName 8 P (nI a) = some (0, P') ∧ pOut 14 S (L ++ lets a) P' := by
  have hge : ∀ b : Nat, 27 ≤ b → b < 1000000 → ¬ nI b < (27 : Int32) := fun b hb hb2 => nI_nlt (a := b) (b := 27) hb (by omega)
  have e27 : ∀ b : Nat, b < 1000000 → nI b / 27 = nI (b / 27) := fun b hb => pk_div (a := b) (d := 27) (by omega) (by decide) (by decide)
  have base : ∀ (fuel b : Nat), b < 27 → ∃ P', f_X12_saysName (fuel + 1) P (nI b) = some (0, P') ∧ pOut 14 S (L ++ [96 + b % 27]) P' := by
    intro fuel b hb
    obtain ⟨P', e, hP⟩ := ev_nameM h (a := b) (by omega) (by omega)
    refine ⟨P', ?_, hP⟩
    rw [f_X12_saysName, if_pos (show nI b < (27 : Int32) from nI_lt (a := b) (b := 27) hb (by decide)), e, b_some]
  have step : ∀ (fuel b : Nat) {P1 : PS} {L1 : List Nat}, 27 ≤ b → b < 1000000 → f_X12_saysName fuel P (nI (b / 27)) = some (0, P1) → pOut 14 S L1 P1 → L1.length < 320 → ∃ P', f_X12_saysName (fuel + 1) P (nI b) = some (0, P') ∧ pOut 14 S (L1 ++ [96 + b % 27]) P' := by
    intro fuel b P1 L1 hb1 hb2 e0 h1 hl
    obtain ⟨P', e, hP⟩ := ev_nameM h1 (a := b) (by omega) hl
    refine ⟨P', ?_, hP⟩
    rw [f_X12_saysName, if_neg (hge b hb1 hb2), e27 b hb2, e0, b_some]
    dsimp only
    rw [← e27 b hb2, e, b_some]
  unfold lets
  by_cases c1 : 19683 ≤ a
  · rw [if_pos c1]
    obtain ⟨P1, e1, h1⟩ := base 4 (a / 27 / 27 / 27) (by omega)
    obtain ⟨P2, e2, h2⟩ := step 5 (a / 27 / 27) (by omega) (by omega) e1 h1 (by rw [plen1]; omega)
    obtain ⟨P3, e3, h3⟩ := step 6 (a / 27) (by omega) (by omega) e2 h2 (by rw [plen1, plen1]; omega)
    obtain ⟨P4, e4, h4⟩ := step 7 a (by omega) (by omega) e3 h3 (by rw [plen1, plen1, plen1]; omega)
    refine ⟨P4, e4, ?_⟩
    rw [List.append_assoc, List.append_assoc, List.append_assoc, show a / 27 / 27 / 27 % 27 = a / 19683 % 27 by omega, show a / 27 / 27 % 27 = a / 729 % 27 by omega] at h4
    rw [show a / 1 % 27 = a % 27 by omega]
    exact h4
  · rw [if_neg c1]
    by_cases c2 : 729 ≤ a
    · rw [if_pos c2]
      obtain ⟨P2, e2, h2⟩ := base 5 (a / 27 / 27) (by omega)
      obtain ⟨P3, e3, h3⟩ := step 6 (a / 27) (by omega) (by omega) e2 h2 (by rw [plen1]; omega)
      obtain ⟨P4, e4, h4⟩ := step 7 a (by omega) (by omega) e3 h3 (by rw [plen1, plen1]; omega)
      refine ⟨P4, e4, ?_⟩
      rw [List.append_assoc, List.append_assoc, show a / 27 / 27 % 27 = a / 729 % 27 by omega] at h4
      rw [show a / 1 % 27 = a % 27 by omega]
      exact h4
    · rw [if_neg c2]
      by_cases c3 : 27 ≤ a
      · rw [if_pos c3]
        obtain ⟨P3, e3, h3⟩ := base 6 (a / 27) (by omega)
        obtain ⟨P4, e4, h4⟩ := step 7 a (by omega) (by omega) e3 h3 (by rw [plen1]; omega)
        refine ⟨P4, e4, ?_⟩
        rw [List.append_assoc] at h4
        rw [show a / 1 % 27 = a % 27 by omega]
        exact h4
      · rw [if_neg c3, show a / 1 % 27 = a % 27 by omega]
        exact base 7 a (by omega)
theorem pabs_n {s : Int32} (h : rng s (-20) 20) : ∃ b : Nat, pabs s = nI b ∧ b ≤ 20 := by
  have e0 : (0 : Int32).toInt = 0 := rfl
  obtain ⟨h1, h2⟩ := h
  unfold pabs
  by_cases q : 0 ≤ s
  · rw [if_pos q]
    have q' := tle.mp q
    obtain ⟨b, hb, -, hb2, -⟩ := rngN (x := s) (lo := 0) (hi := 20) ⟨by omega, h2⟩ (by decide)
    exact ⟨b, hb, by omega⟩
  · rw [if_neg q]
    have q' : ¬ (0 : Int32).toInt ≤ s.toInt := fun z => q (tle.mpr z)
    have e : (0 - s).toInt = (0 : Int32).toInt - s.toInt := tsub (by omega) (by omega)
    obtain ⟨b, hb, -, hb2, -⟩ := rngN (x := 0 - s) (lo := 0) (hi := 20) ⟨by omega, by omega⟩ (by decide)
    exact ⟨b, hb, by omega⟩
def sdl (s : Int32) : List Nat := if s = 0 then [] else (if 0 ≤ s then 114 else 108) :: figs (pabs s).toNatClampNeg
theorem figs_len2 {a : Nat} (h : a < 100) : (figs a).length ≤ 2 := by
  unfold figs
  rw [if_neg (by omega)]
  by_cases h : 10 ≤ a
  · rw [if_pos h]; exact Nat.le_of_ble_eq_true rfl
  · rw [if_neg h]; exact Nat.le_of_ble_eq_true rfl
theorem figs_len1 {a : Nat} (h : a < 10) : (figs a).length ≤ 1 := by
  unfold figs
  rw [if_neg (by omega), if_neg (by omega)]
  exact Nat.le_of_ble_eq_true rfl
theorem lets_len (a : Nat) : (lets a).length ≤ 4 := by
  unfold lets
  by_cases h : 19683 ≤ a
  · rw [if_pos h]; exact Nat.le_of_ble_eq_true rfl
  · rw [if_neg h]
    by_cases h : 729 ≤ a
    · rw [if_pos h]; exact Nat.le_of_ble_eq_true rfl
    · rw [if_neg h]
      by_cases h : 27 ≤ a
      · rw [if_pos h]; exact Nat.le_of_ble_eq_true rfl
      · rw [if_neg h]; exact Nat.le_of_ble_eq_true rfl
theorem sdl_len {s : Int32} (hs : rng s (-20) 20) : (sdl s).length ≤ 3 := by
  unfold sdl
  by_cases h : s = 0
  · rw [if_pos h]; exact Nat.le_of_ble_eq_true rfl
  · rw [if_neg h, List.length_cons]
    obtain ⟨b, hb, hb2⟩ := pabs_n hs
    rw [hb, nI_clamp (by omega)]
    have := figs_len2 (a := b) (by omega)
    omega
theorem ev_addSide {S P : PS} {L : List Nat} (h : pOut 22 S L P) {s : Int32} (hs : rng s (-20) 20) (hL : L.length + 4 ≤ 224) : ∃ P', f_X5_addSide P s = some (0, P') ∧ pOut 22 S (L ++ sdl s) P' := by
  unfold f_X5_addSide sdl
  by_cases h0 : s = 0
  · rw [if_pos h0, if_pos h0, List.append_nil]
    exact ⟨P, rfl, h⟩
  · rw [if_neg h0, if_neg h0]
    obtain ⟨b, hb, hb2⟩ := pabs_n hs
    rw [hb, nI_clamp (by omega)]
    by_cases hp : 0 ≤ s
    · rw [if_pos hp, if_pos hp]
      obtain ⟨P1, e1, h1⟩ := ev_addSign h (c := 114) (by decide) (by omega)
      obtain ⟨P2, e2, h2⟩ := ev_addFigures h1 (a := b) (by omega) (by rw [plen1]; omega)
      rw [List.append_assoc] at h2
      refine ⟨P2, ?_, h2⟩
      rw [show (114 : Int32) = nI 114 from rfl, e1, b_some]
      dsimp only
      rw [e2, b_some]
    · rw [if_neg hp, if_neg hp]
      obtain ⟨P1, e1, h1⟩ := ev_addSign h (c := 108) (by decide) (by omega)
      obtain ⟨P2, e2, h2⟩ := ev_addFigures h1 (a := b) (by omega) (by rw [plen1]; omega)
      rw [List.append_assoc] at h2
      refine ⟨P2, ?_, h2⟩
      rw [show (108 : Int32) = nI 108 from rfl, e1, b_some]
      dsimp only
      rw [e2, b_some]
def pkc (k : Nat) : Nat := match k with
  | 0 => 99
  | 1 => 107
  | 2 => 119
  | 3 => 103
  | _ => 102
theorem pkc_sg {k : Nat} (h : k < 5) : pSigns k = nI (pkc k) ∧ pch 10 k = nI (pkc k) ∧ pkc k < 127 := by
  have : k = 0 ∨ k = 1 ∨ k = 2 ∨ k = 3 ∨ k = 4 := by omega
  rcases this with rfl | rfl | rfl | rfl | rfl <;> exact ⟨rfl, rfl, Nat.le_of_ble_eq_true rfl⟩
def pitm (S : PS) (j : Nat) (L : List Nat) : List Nat := ((((((L ++ lets (S.2 2 j).toNatClampNeg) ++ [pkc (S.2 3 j).toNatClampNeg]) ++ figs (S.2 4 j).toNatClampNeg) ++ [64]) ++ figs (S.2 5 j).toNatClampNeg) ++ sdl (S.2 6 j)) ++ [59]
theorem pitm_eq {S T : PS} (h : bE S T) : pitm T = pitm S := by
  obtain ⟨-, ⟨-, -, q2, q3, q4, q5, q6, -⟩, -⟩ := h
  unfold pitm
  rw [q2, q3, q4, q5, q6]
theorem pitm_len {S : PS} (hb : bOK S.1 S.2) {k : Nat} (hk : S.1 4 = nI k) (hk16 : k ≤ 16) {j : Nat} (hj : j < k) (L : List Nat) : (pitm S j L).length ≤ L.length + 14 := by
  obtain ⟨-, -, q3, q4, q5, -⟩ := hb.goods hk hj hk16
  obtain ⟨c, hc, -, hc2, -⟩ := rngN q4 (by decide)
  unfold pitm
  simp only [List.length_append, List.length_cons, List.length_nil, hc, nI_clamp (show c < 2 ^ 31 by omega)]
  have l1 := lets_len (S.2 2 j).toNatClampNeg
  have l2 := figs_len (S.2 4 j).toNatClampNeg
  have l3 := figs_len1 (a := c) (by omega)
  have l4 := sdl_len q5
  omega
theorem ev_writeStep {S P : PS} {L : List Nat} (hb : bOK S.1 S.2) {k : Nat} (hk : S.1 4 = nI k) (hk16 : k ≤ 16) (h : pOut 22 S L P) {j : Nat} (hj : j < k) (hL : L.length ≤ 14 * j) (fuel : Nat) : ∃ P', g_X5_write_7 (fuel + 1) P (nI j) = g_X5_write_7 fuel P' (nI (j + 1)) ∧ pOut 22 S (pitm S j L) P' := by
  obtain ⟨q1, q2, q3, q4, q5, -⟩ := hb.goods hk hj hk16
  obtain ⟨a, ha, ha1, ha2, -⟩ := rngN q1 (by decide)
  obtain ⟨d, hd, -, hd2, -⟩ := rngN q2 (by decide)
  obtain ⟨w, hw, -, hw2, -⟩ := rngN q3 (by decide)
  obtain ⟨c, hc, -, hc2, -⟩ := rngN q4 (by decide)
  have hp := pin_nI (show j < 16 by omega) (by decide : 16 < 2 ^ 31)
  obtain ⟨s1, -, s3⟩ := pkc_sg (k := d) (by omega)
  have ea : (S.2 2 j).toNatClampNeg = a := by rw [ha, nI_clamp (by omega)]
  have ed : (S.2 3 j).toNatClampNeg = d := by rw [hd, nI_clamp (by omega)]
  have ew : (S.2 4 j).toNatClampNeg = w := by rw [hw, nI_clamp (by omega)]
  have ec : (S.2 5 j).toNatClampNeg = c := by rw [hc, nI_clamp (by omega)]
  have l1 := lets_len a
  have l2 := figs_len w
  have l3 := figs_len1 (a := c) (by omega)
  have l4 := sdl_len q5
  obtain ⟨P1, e1, h1⟩ := ev_addLetters h (a := a) (by omega) (by omega) (by omega)
  obtain ⟨P2, e2, h2⟩ := ev_addSign h1 (c := pkc d) s3 (by rw [List.length_append]; omega)
  obtain ⟨P3, e3, h3⟩ := ev_addFigures h2 (a := w) (by omega) (by rw [plen1, List.length_append]; omega)
  obtain ⟨P4, e4, h4⟩ := ev_addSign h3 (c := 64) (by decide) (by rw [List.length_append, plen1, List.length_append]; omega)
  obtain ⟨P5, e5, h5⟩ := ev_addFigures h4 (a := c) (by omega) (by rw [plen1, List.length_append, plen1, List.length_append]; omega)
  obtain ⟨P6, e6, h6⟩ := ev_addSide h5 q5 (by rw [List.length_append, plen1, List.length_append, plen1, List.length_append]; omega)
  obtain ⟨P7, e7, h7⟩ := ev_addSign h6 (c := 59) (by decide) (by rw [List.length_append, List.length_append, plen1, List.length_append, plen1, List.length_append]; omega)
  refine ⟨P7, ?_, ?_⟩
  · rw [g_X5_write_7, h.i (k := 4) (by decide), hk, if_neg (nI_ge hj (by omega))]
    simp only [g_t hp, nI_clamp (show j < 2 ^ 31 by omega)]
    rw [h.a (k := 2) (by decide), ha, e1, b_some]
    dsimp only
    rw [h1.a (k := 3) (by decide), hd, g_t (pin_nI (show d < 5 by omega) (by decide)), nI_clamp (by omega), s1, e2, b_some]
    dsimp only
    rw [h2.a (k := 4) (by decide), hw, e3, b_some]
    dsimp only
    rw [show (64 : Int32) = nI 64 from rfl, e4, b_some]
    dsimp only
    rw [h4.a (k := 5) (by decide), hc, e5, b_some]
    dsimp only
    rw [h5.a (k := 6) (by decide), e6, b_some]
    dsimp only
    rw [show (59 : Int32) = nI 59 from rfl, e7, b_some, nI_1]
  · unfold pitm
    rw [ea, ed, ew, ec]
    exact h7
theorem ev_layStep {S P : PS} {L : List Nat} (hb : bOK S.1 S.2) {k : Nat} (hk : S.1 4 = nI k) (hk16 : k ≤ 16) (h : pOut 14 S L P) {j : Nat} (hj : j < k) (hL : L.length ≤ 14 * j) (fuel : Nat) : ∃ P', g_X12_layReport_7 (fuel + 1) P (nI j) = g_X12_layReport_7 fuel P' (nI (j + 1)) ∧ pOut 14 S (pitm S j L) P' := by
  obtain ⟨q1, q2, q3, q4, q5, -⟩ := hb.goods hk hj hk16
  obtain ⟨a, ha, ha1, ha2, -⟩ := rngN q1 (by decide)
  obtain ⟨d, hd, -, hd2, -⟩ := rngN q2 (by decide)
  obtain ⟨w, hw, -, hw2, -⟩ := rngN q3 (by decide)
  obtain ⟨c, hc, -, hc2, -⟩ := rngN q4 (by decide)
  obtain ⟨b, hbb, hb2⟩ := pabs_n q5
  have hp := pin_nI (show j < 16 by omega) (by decide : 16 < 2 ^ 31)
  obtain ⟨-, s1, s3⟩ := pkc_sg (k := d) (by omega)
  have ea : (S.2 2 j).toNatClampNeg = a := by rw [ha, nI_clamp (by omega)]
  have ed : (S.2 3 j).toNatClampNeg = d := by rw [hd, nI_clamp (by omega)]
  have ew : (S.2 4 j).toNatClampNeg = w := by rw [hw, nI_clamp (by omega)]
  have ec : (S.2 5 j).toNatClampNeg = c := by rw [hc, nI_clamp (by omega)]
  have l1 := lets_len a
  have l2 := figs_len w
  have l3 := figs_len1 (a := c) (by omega)
  have l4 := figs_len b
  obtain ⟨P1, e1, h1⟩ := ev_saysName h (a := a) (by omega) (by omega)
  obtain ⟨P2, e2, h2⟩ := ev_says h1 (c := pkc d) s3 (by rw [List.length_append]; omega)
  obtain ⟨P3, e3, h3⟩ := ev_saysNumber h2 (a := w) (by omega) (by rw [plen1, List.length_append]; omega)
  obtain ⟨P4, e4, h4⟩ := ev_says h3 (c := 64) (by decide) (by rw [List.length_append, plen1, List.length_append]; omega)
  obtain ⟨P5, e5, h5⟩ := ev_saysNumber h4 (a := c) (by omega) (by rw [plen1, List.length_append, plen1, List.length_append]; omega)
  have hl5 : (((((L ++ lets a) ++ [pkc d]) ++ figs w) ++ [64]) ++ figs c).length < 240 := by
    rw [List.length_append, plen1, List.length_append, plen1, List.length_append]; omega
  have head : g_X12_layReport_7 (fuel + 1) P (nI j) = (if P5.2 6 j = (0 : Int32) then (pbnd (f_X12_says P5 59) (fun _ S_15 => g_X12_layReport_7 fuel S_15 (nI j + 1))) else (if (0 : Int32) ≤ P5.2 6 j then (pbnd (f_X12_says P5 114) (fun _ S_18 => pbnd (f_X12_saysNumber 8 S_18 (pabs (S_18.2 6 j))) (fun _ S_20 => pbnd (f_X12_says S_20 59) (fun _ S_21 => g_X12_layReport_7 fuel S_21 (nI j + 1))))) else (pbnd (f_X12_says P5 108) (fun _ S_22 => pbnd (f_X12_saysNumber 8 S_22 (pabs (S_22.2 6 j))) (fun _ S_24 => pbnd (f_X12_says S_24 59) (fun _ S_25 => g_X12_layReport_7 fuel S_25 (nI j + 1))))))) := by
    rw [g_X12_layReport_7, h.i (k := 4) (by decide), hk, if_neg (nI_ge hj (by omega))]
    simp only [g_t hp, nI_clamp (show j < 2 ^ 31 by omega)]
    rw [h.a (k := 2) (by decide), ha, e1, b_some]
    dsimp only
    rw [h1.a (k := 3) (by decide), hd, g_t (pin_nI (show d < pLen.getD 10 0 from (by have : pLen.getD 10 0 = 5 := rfl; omega)) (by decide)), nI_clamp (by omega), s1, e2, b_some]
    dsimp only
    rw [h2.a (k := 4) (by decide), hw, e3, b_some]
    dsimp only
    rw [show (64 : Int32) = nI 64 from rfl, e4, b_some]
    dsimp only
    rw [h4.a (k := 5) (by decide), hc, e5, b_some]
  have tail : ∀ {P6 : PS} {L6 : List Nat}, pOut 14 S L6 P6 → L6.length < 320 → L6 = (((((L ++ lets a) ++ [pkc d]) ++ figs w) ++ [64]) ++ figs c) ++ sdl (S.2 6 j) → ∃ P', pbnd (f_X12_says P6 59) (fun _ S_15 => g_X12_layReport_7 fuel S_15 (nI j + 1)) = g_X12_layReport_7 fuel P' (nI (j + 1)) ∧ pOut 14 S (pitm S j L) P' := by
    intro P6 L6 h6 hl e6
    obtain ⟨P7, e7, h7⟩ := ev_says h6 (c := 59) (by decide) hl
    refine ⟨P7, ?_, ?_⟩
    · rw [show (59 : Int32) = nI 59 from rfl, e7, b_some, nI_1]
    · unfold pitm
      rw [ea, ed, ew, ec, ← e6]
      exact h7
  rw [head, h5.a (k := 6) (by decide)]
  by_cases h0 : S.2 6 j = 0
  · rw [if_pos h0]
    refine tail h5 (by omega) ?_
    unfold sdl
    rw [if_pos h0, List.append_nil]
  · rw [if_neg h0]
    have go : ∀ g : Nat, g < 127 → g = (if 0 ≤ S.2 6 j then 114 else 108) → ∃ P', pbnd (f_X12_says P5 (nI g)) (fun _ S_18 => pbnd (f_X12_saysNumber 8 S_18 (pabs (S_18.2 6 j))) (fun _ S_20 => pbnd (f_X12_says S_20 59) (fun _ S_21 => g_X12_layReport_7 fuel S_21 (nI j + 1)))) = g_X12_layReport_7 fuel P' (nI (j + 1)) ∧ pOut 14 S (pitm S j L) P' := by
      intro g hg eg
      obtain ⟨P6, e6, h6⟩ := ev_says h5 (c := g) hg (by omega)
      obtain ⟨P7, e7, h7⟩ := ev_saysNumber h6 (a := b) (by omega) (by rw [plen1]; omega)
      rw [e6, b_some]
      dsimp only
      rw [h6.a (k := 6) (by decide), hbb, e7, b_some]
      dsimp only
      refine tail h7 (by rw [List.length_append, plen1]; omega) ?_
      unfold sdl
      rw [if_neg h0, hbb, nI_clamp (by omega), ← eg, List.append_assoc] <;> rfl
    by_cases hp0 : 0 ≤ S.2 6 j
    · rw [if_pos hp0]
      exact go 114 (by decide) (by rw [if_pos hp0])
    · rw [if_neg hp0]
      exact go 108 (by decide) (by rw [if_neg hp0])
def pitms (S : PS) : Nat → Nat → List Nat → List Nat
  | 0, _, L => L
  | m + 1, j, L => pitms S m (j + 1) (pitm S j L)
theorem pitms_eq {S T : PS} (h : bE S T) : ∀ (m j : Nat) (L : List Nat), pitms T m j L = pitms S m j L := by
  intro m
  induction m with
  | zero => intro j L; rfl
  | succ m ih => intro j L; rw [pitms, pitms, pitm_eq h]; exact ih _ _
theorem pitms_len {S : PS} (hb : bOK S.1 S.2) {k : Nat} (hk : S.1 4 = nI k) (hk16 : k ≤ 16) : ∀ (m j : Nat) (L : List Nat), j + m = k → L.length ≤ 14 * j → (pitms S m j L).length ≤ 14 * k := by
  intro m
  induction m with
  | zero => intro j L h1 h2; rw [pitms]; omega
  | succ m ih =>
    intro j L h1 h2
    rw [pitms]
    have := pitm_len hb hk hk16 (j := j) (by omega) L
    exact ih (j + 1) _ (by omega) (by omega)
theorem ev_writeLoop {S : PS} (hb : bOK S.1 S.2) {k : Nat} (hk : S.1 4 = nI k) (hk16 : k ≤ 16) : ∀ (m j fuel : Nat) (P : PS) (L : List Nat), j + m = k → m < fuel → L.length ≤ 14 * j → pOut 22 S L P → ∃ P', g_X5_write_7 fuel P (nI j) = some (.inr P') ∧ pOut 22 S (pitms S m j L) P' := by
  intro m
  induction m with
  | zero =>
    intro j fuel P L hj hf hL h
    obtain ⟨fuel, rfl⟩ : ∃ z, fuel = z + 1 := ⟨fuel - 1, by omega⟩
    exact ⟨P, by rw [g_X5_write_7, h.i (k := 4) (by decide), hk, if_pos (nI_le (by omega) (by omega))], h⟩
  | succ m ih =>
    intro j fuel P L hj hf hL h
    obtain ⟨fuel, rfl⟩ : ∃ z, fuel = z + 1 := ⟨fuel - 1, by omega⟩
    obtain ⟨P1, e1, h1⟩ := ev_writeStep hb hk hk16 h (j := j) (by omega) hL fuel
    have := pitm_len hb hk hk16 (j := j) (by omega) L
    obtain ⟨P2, e2, h2⟩ := ih (j + 1) fuel P1 _ (by omega) (by omega) (by omega) h1
    exact ⟨P2, by rw [e1, e2], h2⟩
theorem ev_layLoop {S : PS} (hb : bOK S.1 S.2) {k : Nat} (hk : S.1 4 = nI k) (hk16 : k ≤ 16) : ∀ (m j fuel : Nat) (P : PS) (L : List Nat), j + m = k → m < fuel → L.length ≤ 14 * j → pOut 14 S L P → ∃ P', g_X12_layReport_7 fuel P (nI j) = some (.inr P') ∧ pOut 14 S (pitms S m j L) P' := by
  intro m
  induction m with
  | zero =>
    intro j fuel P L hj hf hL h
    obtain ⟨fuel, rfl⟩ : ∃ z, fuel = z + 1 := ⟨fuel - 1, by omega⟩
    exact ⟨P, by rw [g_X12_layReport_7, h.i (k := 4) (by decide), hk, if_pos (nI_le (by omega) (by omega))], h⟩
  | succ m ih =>
    intro j fuel P L hj hf hL h
    obtain ⟨fuel, rfl⟩ : ∃ z, fuel = z + 1 := ⟨fuel - 1, by omega⟩
    obtain ⟨P1, e1, h1⟩ := ev_layStep hb hk hk16 h (j := j) (by omega) hL fuel
    have := pitm_len hb hk hk16 (j := j) (by omega) L
    obtain ⟨P2, e2, h2⟩ := ih (j + 1) fuel P1 _ (by omega) (by omega) (by omega) h1
    exact ⟨P2, by rw [e1, e2], h2⟩
theorem pOut_nil (q : Nat) (S : PS) : pOut q S [] (pI S q 0) := ⟨if_pos rfl, fun i hi => absurd hi (Nat.not_lt_zero i), fun k hk => pI_out hk, fun k _ => rfl⟩
theorem eq_say : pEq1 Rel f_X11_say f_X12_say := by
  intro S T h v
  have hb := h.b
  obtain ⟨k, hk, hk16⟩ := h.x.k
  have hk' : T.1 4 = nI k := by rw [hb.1.2.2.2.2]; exact hk
  obtain ⟨P, e1, h1⟩ := ev_writeLoop h.x hk hk16 k 0 pfuel (pI S 22 0) [] (by omega) (pfuel_gt (by omega)) (Nat.zero_le _) (pOut_nil 22 S)
  obtain ⟨Q, e2, h2⟩ := ev_layLoop h.m hk' hk16 k 0 pfuel (pI T 14 0) [] (by omega) (pfuel_gt (by omega)) (Nat.zero_le _) (pOut_nil 14 T)
  have hl := pitms_len h.x hk hk16 k 0 [] (by omega) (Nat.zero_le _)
  rw [pitms_eq hb] at h2
  have hR : Rel P Q := h.same ⟨fun j hj => h1.i (by omega), fun j hj => h1.a (by omega)⟩ ⟨fun j hj => h2.i (by omega), fun j hj => h2.a (by omega)⟩
  have a1 : f_X5_write S = some (0, P) := by
    unfold f_X5_write
    rw [show (0 : Int32) = nI 0 from rfl] at e1 ⊢
    rw [e1, lp_r]
  have a2 : f_X12_layReport T = some (0, Q) := by
    unfold f_X12_layReport
    rw [show (0 : Int32) = nI 0 from rfl] at e2 ⊢
    rw [e2, lp_r]
  show pQ _ _
  unfold f_X11_say f_X12_say
  rw [a1, a2, b_some, b_some]
  dsimp only
  generalize hLL : pitms S k 0 [] = LL at h1 h2 hl
  refine pQ.ite (fun g1 => ?_) (fun _ => pQ.r h _)
  refine pQ.ite (fun _ => pQ.re hR (by rw [h1.1, h2.1])) (fun g2 => ?_)
  rw [h1.1, h2.1]
  refine pQ.ite (fun _ => pQ.r hR _) (fun g3 => ?_)
  have t1 := tle.mp g1
  have em : (-1 : Int32).toInt = -1 := rfl
  have t2 : ¬ v.toInt = -1 := fun q => g2 (tinj (q.trans em.symm))
  have t3 : ¬ (nI LL.length).toInt ≤ v.toInt := fun q => g3 (tle.mpr q)
  rw [nI_toInt (by omega)] at t3
  obtain ⟨i, rfl, -, hi, -⟩ := rngN (x := v) (lo := 0) (hi := (LL.length : Int) - 1) ⟨by omega, by omega⟩ (by decide)
  have hi' : i < LL.length := by omega
  rw [g_t (pin_nI (show i < 224 by omega) (by decide)), g_t (pin_nI (show i < 320 by omega) (by decide)), nI_clamp (by omega), h1.2.1 i hi', h2.2.1 i hi']
  exact pQ.r hR _
