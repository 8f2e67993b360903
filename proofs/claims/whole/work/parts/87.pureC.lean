/-! THE PURE PART, C: sums over goods and tanks -/
def psz (S : PS) : Nat := (S.1 4).toNatClampNeg
theorem psz_k {S : PS} {k : Nat} (hk : S.1 4 = nI k) (hk16 : k ≤ 16) : psz S = k := by unfold psz; rw [hk, nI_clamp (by omega)]
theorem n4_neg {j : Nat} (h : j < 4) : ¬ (4 : Int32) ≤ nI j := nI_ge (a := j) (b := 4) h (by decide)
theorem n4_pos : (4 : Int32) ≤ nI 4 := by decide
def pallW (S : PS) : Int32 := (S.1 2 + psum (pw S) (psz S)) + psum (S.2 11) 4
def palong (S : PS) : Int32 := (S.1 2 * (S.1 0 - 1) + psum (fun g => pw S g * 2 * S.2 5 g) (psz S)) + psum (fun t => S.2 11 t * 2 * S.2 8 t) 4
def paside (S : PS) : Int32 := psum (fun g => pw S g * S.2 6 g) (psz S)
def paloft (S : PS) : Int32 := psum (fun g => pw S g * S.2 7 g) (psz S) + psum (fun t => S.2 11 t * 2) 4
def pslk (S : PS) (t : Nat) : Int32 := if S.2 11 t = 0 then 0 else if S.2 11 t = S.2 10 t then 0 else 1
def pthr (S : PS) (t : Nat) : Int32 := if S.2 9 t ≤ 0 then 0 else 1
theorem psz_eq {S T : PS} (h : bE S T) : psz T = psz S := by unfold psz; rw [h.1.2.2.2.2]
theorem pallW_eq {S T : PS} (h : bE S T) : pallW T = pallW S := by
  unfold pallW
  rw [psz_eq h, show pw T = pw S from funext (pw_eq h), h.1.2.2.1, h.2.2.2.2.2]
theorem palong_eq {S T : PS} (h : bE S T) : palong T = palong S := by
  unfold palong
  rw [psz_eq h, show pw T = pw S from funext (pw_eq h), h.1.1, h.1.2.2.1, h.2.2.2.2.2, h.2.2.1, h.2.1.2.2.2.2.2.1]
theorem paside_eq {S T : PS} (h : bE S T) : paside T = paside S := by
  unfold paside
  rw [psz_eq h, show pw T = pw S from funext (pw_eq h), h.2.1.2.2.2.2.2.2.1]
theorem paloft_eq {S T : PS} (h : bE S T) : paloft T = paloft S := by
  unfold paloft
  rw [psz_eq h, show pw T = pw S from funext (pw_eq h), h.2.1.2.2.2.2.2.2.2, h.2.2.2.2.2]
theorem pslk_eq {S T : PS} (h : bE S T) (t : Nat) : pslk T t = pslk S t := by
  unfold pslk
  rw [h.2.2.2.2.1, h.2.2.2.2.2]
theorem pthr_eq {S T : PS} (h : bE S T) (t : Nat) : pthr T t = pthr S t := by
  unfold pthr
  rw [h.2.2.2.1]
theorem ev_X0_allWeight {S : PS} {k : Nat} (hk : S.1 4 = nI k) (hk16 : k ≤ 16) : f_X0_allWeight S = some (pallW S, S) := by
  unfold f_X0_allWeight pallW
  rw [psz_k hk hk16, psl (fun fuel a i => g_X0_allWeight_10 fuel S a i) S (pw S) k (fun fuel a j hj => by
    simp only [g_X0_allWeight_10]
    rw [hk, if_neg (nI_ge hj (by omega)), ev_X0_weighsAt S (by omega), b_some]
    simp only [nI_1]) (fun fuel a => by
    simp only [g_X0_allWeight_10]
    rw [hk, if_pos (nI_le (Nat.le_refl _) (by omega))]) (S.1 2) (by omega), lp_r]
  dsimp only
  rw [psl (fun fuel a i => g_X0_allWeight_37 fuel S a i) S (S.2 11) 4 (fun fuel a j hj => by
    simp only [g_X0_allWeight_37]
    rw [if_neg (n4_neg hj), g_t (pin_nI hj (by decide)), nI_clamp (by omega), nI_1]) (fun fuel a => by
    simp only [g_X0_allWeight_37]
    rw [if_pos n4_pos]) _ (by decide), lp_r]
theorem ev_X12_allWeight {S : PS} {k : Nat} (hk : S.1 4 = nI k) (hk16 : k ≤ 16) : f_X12_allWeight S = some (pallW S, S) := by
  unfold f_X12_allWeight pallW
  rw [psz_k hk hk16, psl (fun fuel a i => g_X12_allWeight_7 fuel S a i) S (pw S) k (fun fuel a j hj => by
    simp only [g_X12_allWeight_7]
    rw [hk, if_neg (nI_ge hj (by omega)), ev_X12_weighs0 S (by omega), b_some]
    simp only [nI_1]) (fun fuel a => by
    simp only [g_X12_allWeight_7]
    rw [hk, if_pos (nI_le (Nat.le_refl _) (by omega))]) (S.1 2) (by omega), lp_r]
  dsimp only
  rw [psl (fun fuel a i => g_X12_allWeight_31 fuel S a i) S (S.2 11) 4 (fun fuel a j hj => by
    simp only [g_X12_allWeight_31]
    rw [if_neg (n4_neg hj), g_t (pin_nI hj (by decide)), nI_clamp (by omega), nI_1]) (fun fuel a => by
    simp only [g_X12_allWeight_31]
    rw [if_pos n4_pos]) _ (by decide), lp_r]
theorem ev_X0_allAlong {S : PS} {k : Nat} (hk : S.1 4 = nI k) (hk16 : k ≤ 16) : f_X0_allAlong S = some (palong S, S) := by
  unfold f_X0_allAlong palong
  rw [psz_k hk hk16, psl (fun fuel a i => g_X0_allAlong_20 fuel S a i) S (fun g => pw S g * 2 * S.2 5 g) k (fun fuel a j hj => by
    simp only [g_X0_allAlong_20]
    rw [hk, if_neg (nI_ge hj (by omega)), ev_X0_weighsAt S (by omega), b_some]
    simp only [nI_1]
    rw [g_t (pin_nI (by omega) (by decide)), nI_clamp (by omega)]) (fun fuel a => by
    simp only [g_X0_allAlong_20]
    rw [hk, if_pos (nI_le (Nat.le_refl _) (by omega))]) _ (by omega), lp_r]
  dsimp only
  rw [psl (fun fuel a i => g_X0_allAlong_59 fuel S a i) S (fun t => S.2 11 t * 2 * S.2 8 t) 4 (fun fuel a j hj => by
    simp only [g_X0_allAlong_59]
    rw [if_neg (n4_neg hj), g_t (pin_nI hj (by decide)), g_t (pin_nI hj (by decide)), nI_clamp (by omega), nI_1]) (fun fuel a => by
    simp only [g_X0_allAlong_59]
    rw [if_pos n4_pos]) _ (by decide), lp_r]
theorem ev_X12_along {S : PS} {k : Nat} (hk : S.1 4 = nI k) (hk16 : k ≤ 16) : f_X12_along S = some (palong S, S) := by
  unfold f_X12_along palong
  rw [psz_k hk hk16, psl (fun fuel a i => g_X12_along_14 fuel S a i) S (fun g => pw S g * 2 * S.2 5 g) k (fun fuel a j hj => by
    simp only [g_X12_along_14]
    rw [hk, if_neg (nI_ge hj (by omega)), ev_X12_weighs0 S (by omega), b_some]
    simp only [nI_1]
    rw [g_t (pin_nI (by omega) (by decide)), nI_clamp (by omega)]) (fun fuel a => by
    simp only [g_X12_along_14]
    rw [hk, if_pos (nI_le (Nat.le_refl _) (by omega))]) _ (by omega), lp_r]
  dsimp only
  rw [psl (fun fuel a i => g_X12_along_47 fuel S a i) S (fun t => S.2 11 t * 2 * S.2 8 t) 4 (fun fuel a j hj => by
    simp only [g_X12_along_47]
    rw [if_neg (n4_neg hj), g_t (pin_nI hj (by decide)), g_t (pin_nI hj (by decide)), nI_clamp (by omega), nI_1]) (fun fuel a => by
    simp only [g_X12_along_47]
    rw [if_pos n4_pos]) _ (by decide), lp_r]
theorem ev_X0_allAloft {S : PS} {k : Nat} (hk : S.1 4 = nI k) (hk16 : k ≤ 16) : f_X0_allAloft S = some (paloft S, S) := by
  unfold f_X0_allAloft paloft
  rw [psz_k hk hk16, psl (fun fuel a i => g_X0_allAloft_4 fuel S a i) S (fun g => pw S g * S.2 7 g) k (fun fuel a j hj => by
    simp only [g_X0_allAloft_4]
    rw [hk, if_neg (nI_ge hj (by omega)), ev_X0_weighsAt S (by omega), b_some]
    simp only [nI_1]
    rw [g_t (pin_nI (by omega) (by decide)), nI_clamp (by omega)]) (fun fuel a => by
    simp only [g_X0_allAloft_4]
    rw [hk, if_pos (nI_le (Nat.le_refl _) (by omega))]) _ (by omega), lp_r]
  dsimp only
  rw [Int32.zero_add, psl (fun fuel a i => g_X0_allAloft_41 fuel S a i) S (fun t => S.2 11 t * 2) 4 (fun fuel a j hj => by
    simp only [g_X0_allAloft_41]
    rw [if_neg (n4_neg hj), g_t (pin_nI hj (by decide)), nI_clamp (by omega), nI_1]) (fun fuel a => by
    simp only [g_X0_allAloft_41]
    rw [if_pos n4_pos]) _ (by decide), lp_r]
theorem ev_X12_aloft {S : PS} {k : Nat} (hk : S.1 4 = nI k) (hk16 : k ≤ 16) : f_X12_aloft S = some (paloft S, S) := by
  unfold f_X12_aloft paloft
  rw [psz_k hk hk16, psl (fun fuel a i => g_X12_aloft_4 fuel S a i) S (fun g => pw S g * S.2 7 g) k (fun fuel a j hj => by
    simp only [g_X12_aloft_4]
    rw [hk, if_neg (nI_ge hj (by omega)), ev_X12_weighs0 S (by omega), b_some]
    simp only [nI_1]
    rw [g_t (pin_nI (by omega) (by decide)), nI_clamp (by omega)]) (fun fuel a => by
    simp only [g_X12_aloft_4]
    rw [hk, if_pos (nI_le (Nat.le_refl _) (by omega))]) _ (by omega), lp_r]
  dsimp only
  rw [Int32.zero_add, psl (fun fuel a i => g_X12_aloft_35 fuel S a i) S (fun t => S.2 11 t * 2) 4 (fun fuel a j hj => by
    simp only [g_X12_aloft_35]
    rw [if_neg (n4_neg hj), g_t (pin_nI hj (by decide)), nI_clamp (by omega), nI_1, Int32.mul_comm 2]) (fun fuel a => by
    simp only [g_X12_aloft_35]
    rw [if_pos n4_pos]) _ (by decide), lp_r]
theorem ev_X12_aside {S : PS} {k : Nat} (hk : S.1 4 = nI k) (hk16 : k ≤ 16) : f_X12_aside S = some (paside S, S) := by
  unfold f_X12_aside paside
  rw [psz_k hk hk16, psl (fun fuel a i => g_X12_aside_4 fuel S a i) S (fun g => pw S g * S.2 6 g) k (fun fuel a j hj => by
    simp only [g_X12_aside_4]
    rw [hk, if_neg (nI_ge hj (by omega)), ev_X12_weighs0 S (by omega), b_some]
    simp only [nI_1]
    rw [g_t (pin_nI (by omega) (by decide)), nI_clamp (by omega)]) (fun fuel a => by
    simp only [g_X12_aside_4]
    rw [hk, if_pos (nI_le (Nat.le_refl _) (by omega))]) _ (by omega), lp_r]
  dsimp only
  rw [Int32.zero_add]
/-! toInt -/
theorem tadd {x y : Int32} (h1 : -2147483648 ≤ x.toInt + y.toInt) (h2 : x.toInt + y.toInt ≤ 2147483647) : (x + y).toInt = x.toInt + y.toInt := by
  rw [Int32.toInt_add]
  exact Int.bmod_eq_of_le (by omega) (by omega)
theorem tsub {x y : Int32} (h1 : -2147483648 ≤ x.toInt - y.toInt) (h2 : x.toInt - y.toInt ≤ 2147483647) : (x - y).toInt = x.toInt - y.toInt := by
  rw [Int32.toInt_sub]
  exact Int.bmod_eq_of_le (by omega) (by omega)
theorem tmul {x y : Int32} (h1 : -2147483648 ≤ x.toInt * y.toInt) (h2 : x.toInt * y.toInt ≤ 2147483647) : (x * y).toInt = x.toInt * y.toInt := by
  rw [Int32.toInt_mul]
  exact Int.bmod_eq_of_le (by omega) (by omega)
theorem tle {x y : Int32} : x ≤ y ↔ x.toInt ≤ y.toInt := Int32.le_iff_toInt_le
theorem tlt {x y : Int32} : x < y ↔ x.toInt < y.toInt := Int32.lt_iff_toInt_lt
theorem tinj {x y : Int32} (h : x.toInt = y.toInt) : x = y := Int32.toInt_inj.mp h
theorem tmin (x y : Int32) : (pmin x y).toInt = min x.toInt y.toInt := by
  unfold pmin
  by_cases h : y < x
  · rw [if_pos h]
    have := tlt.mp h
    omega
  · rw [if_neg h]
    have : ¬ y.toInt < x.toInt := fun q => h (tlt.mpr q)
    omega
theorem tmax (x y : Int32) : (pmax x y).toInt = max x.toInt y.toInt := by
  unfold pmax
  by_cases h : x < y
  · rw [if_pos h]
    have := tlt.mp h
    omega
  · rw [if_neg h]
    have : ¬ x.toInt < y.toInt := fun q => h (tlt.mpr q)
    omega
theorem pmin_comm (x y : Int32) : pmin x y = pmin y x := tinj (by rw [tmin, tmin]; omega)
theorem pmax0 {x : Int32} (h : 0 ≤ x.toInt) : pmax 0 x = x := tinj (by rw [tmax]; show max 0 x.toInt = _; omega)
theorem pmax0n {x : Int32} (h : x.toInt ≤ 0) : pmax 0 x = 0 := tinj (by rw [tmax]; show max 0 x.toInt = 0; omega)
/-- slack tanks, tanks that are there -/
theorem ev_X8_isSlack (S : PS) {t : Nat} (ht : t < 4) : f_X8_isSlack S (nI t) = some (pslk S t, S) := by
  unfold f_X8_isSlack pslk
  have hp := pin_nI ht (by decide : 4 < 2 ^ 31)
  simp only [g_t hp, nI_clamp (show t < 2 ^ 31 by omega)]
  by_cases h1 : S.2 11 t = 0
  · rw [if_pos h1, if_pos h1]
  · rw [if_neg h1, if_neg h1]
    by_cases h2 : S.2 11 t = S.2 10 t
    · rw [if_pos h2, if_pos h2]
    · rw [if_neg h2, if_neg h2]
theorem ev_X12_isSlack {S : PS} (hb : bOK S.1 S.2) {t : Nat} (ht : t < 4) : f_X12_isSlack S (nI t) = some (pslk S t, S) := by
  unfold f_X12_isSlack pslk
  have hp := pin_nI ht (by decide : 4 < 2 ^ 31)
  simp only [g_t hp, nI_clamp (show t < 2 ^ 31 by omega)]
  by_cases h0 : S.2 9 t ≤ 0
  · rw [if_pos h0]
    obtain ⟨-, h9, -, -, hz⟩ := hb.tanks ht
    have e : S.2 9 t = 0 := tinj (by
      have := tle.mp h0
      have h90 := h9.1
      show (S.2 9 t).toInt = 0
      have e0 : (0 : Int32).toInt = 0 := rfl
      omega)
    rw [if_pos (hz e)]
  · rw [if_neg h0]
    by_cases h1 : S.2 11 t = 0
    · rw [if_pos h1, if_pos h1]
    · rw [if_neg h1, if_neg h1]
      by_cases h2 : S.2 11 t = S.2 10 t
      · rw [if_pos h2, if_pos h2]
      · rw [if_neg h2, if_neg h2]
theorem pslk_01 (S : PS) (t : Nat) : pslk S t = 0 ∨ pslk S t = 1 := by
  unfold pslk
  by_cases h1 : S.2 11 t = 0
  · rw [if_pos h1]; exact Or.inl rfl
  · rw [if_neg h1]
    by_cases h2 : S.2 11 t = S.2 10 t
    · rw [if_pos h2]; exact Or.inl rfl
    · rw [if_neg h2]; exact Or.inr rfl
theorem ev_X8_howManySlack (S : PS) : f_X8_howManySlack S = some (psum (pslk S) 4, S) := by
  unfold f_X8_howManySlack
  rw [psl (fun fuel a i => g_X8_howManySlack_4 fuel S a i) S (pslk S) 4 (fun fuel a j hj => by
    simp only [g_X8_howManySlack_4]
    rw [if_neg (n4_neg hj), ev_X8_isSlack S hj, b_some]
    simp only [nI_1]
    rcases pslk_01 S j with h | h <;> rw [h] <;> rfl) (fun fuel a => by
    simp only [g_X8_howManySlack_4]
    rw [if_pos n4_pos]) _ (by decide), lp_r]
  dsimp only
  rw [Int32.zero_add]
theorem ev_X12_slacks {S : PS} (hb : bOK S.1 S.2) : f_X12_slacks S = some (psum (pslk S) 4, S) := by
  unfold f_X12_slacks
  rw [psl (fun fuel a i => g_X12_slacks_4 fuel S a i) S (pslk S) 4 (fun fuel a j hj => by
    simp only [g_X12_slacks_4]
    rw [if_neg (n4_neg hj), ev_X12_isSlack hb hj, b_some]
    simp only [nI_1]
    rcases pslk_01 S j with h | h <;> rw [h]
    · rw [if_pos rfl, Int32.add_zero]
    · rw [if_neg (by decide)]) (fun fuel a => by
    simp only [g_X12_slacks_4]
    rw [if_pos n4_pos]) _ (by decide), lp_r]
  dsimp only
  rw [Int32.zero_add]
theorem ev_X8_isThere (S : PS) {t : Nat} (ht : t < 4) : f_X8_isThere S (nI t) = some (pthr S t, S) := by
  unfold f_X8_isThere pthr
  rw [g_t (pin_nI ht (by decide)), nI_clamp (by omega)]
  by_cases h : S.2 9 t ≤ 0
  · rw [if_pos h, if_pos h]
  · rw [if_neg h, if_neg h]
theorem ev_X8_howManyThere (S : PS) : f_X8_howManyThere S = some (psum (pthr S) 4, S) := by
  unfold f_X8_howManyThere
  rw [psl (fun fuel a i => g_X8_howManyThere_4 fuel S a i) S (pthr S) 4 (fun fuel a j hj => by
    simp only [g_X8_howManyThere_4]
    rw [if_neg (n4_neg hj), ev_X8_isThere S hj, b_some]
    simp only [nI_1]
    unfold pthr
    by_cases h : S.2 9 j ≤ 0
    · rw [if_pos h, if_pos rfl]
    · rw [if_neg h, if_neg (by decide)]) (fun fuel a => by
    simp only [g_X8_howManyThere_4]
    rw [if_pos n4_pos]) _ (by decide), lp_r]
  dsimp only
  rw [Int32.zero_add]
theorem ev_X12_tanksThere (S : PS) : f_X12_tanksThere S = some (psum (pthr S) 4, S) := by
  unfold f_X12_tanksThere
  rw [psl (fun fuel a i => g_X12_tanksThere_4 fuel S a i) S (pthr S) 4 (fun fuel a j hj => by
    simp only [g_X12_tanksThere_4]
    rw [if_neg (n4_neg hj), g_t (pin_nI hj (by decide)), nI_clamp (by omega)]
    simp only [nI_1]
    unfold pthr
    by_cases h : S.2 9 j ≤ 0
    · rw [if_pos h, if_pos h, Int32.add_zero]
    · rw [if_neg h, if_neg h]) (fun fuel a => by
    simp only [g_X12_tanksThere_4]
    rw [if_pos n4_pos]) _ (by decide), lp_r]
  dsimp only
  rw [Int32.zero_add]
/-- the least rise -/
def pmf (f : Nat → Int32) : Nat → Nat → Int32 → Int32
  | 0, _, a => a
  | m + 1, j, a => pmf f m (j + 1) (pmin a (f j))
def pn (S : PS) : Nat := (S.1 0).toNatClampNeg
theorem pn_n {S : PS} {n : Nat} (hn : S.1 0 = nI n) (h : n ≤ 10) : pn S = n := by unfold pn; rw [hn, nI_clamp (by omega)]
def plrise (S : PS) : Int32 := pmf (S.2 1) (pn S - 1) 1 (S.2 1 0)
theorem plrise_eq {S T : PS} (h : bE S T) : plrise T = plrise S := by
  unfold plrise pn
  rw [h.1.1, h.2.1.2.1]
theorem ev_X2_leastRise {S : PS} {n : Nat} (hn : S.1 0 = nI n) (h1 : 1 ≤ n) (h2 : n ≤ 10) : f_X2_leastRise S = some (plrise S, S) := by
  unfold f_X2_leastRise plrise
  rw [pn_n hn h2]
  have h : ∀ (m j fuel : Nat) (a : Int32), j + m = n → m < fuel → g_X2_leastRise_9 fuel S a (nI j) = some (.inr (S, pmf (S.2 1) m j a)) := by
    intro m
    induction m with
    | zero =>
      intro j fuel a hj hf
      obtain ⟨fuel, rfl⟩ : ∃ z, fuel = z + 1 := ⟨fuel - 1, by omega⟩
      rw [g_X2_leastRise_9, hn, if_pos (nI_le (by omega) (by omega))]
      rfl
    | succ m ih =>
      intro j fuel a hj hf
      obtain ⟨fuel, rfl⟩ : ∃ z, fuel = z + 1 := ⟨fuel - 1, by omega⟩
      rw [g_X2_leastRise_9, hn, if_neg (nI_ge (by omega) (by omega)), g_t (pin_nI (by omega) (by decide)), nI_clamp (by omega), nI_1]
      exact ih (j + 1) fuel _ (by omega) (by omega)
  rw [show (1 : Int32) = nI 1 from rfl, h (n - 1) 1 pfuel _ (by omega) (pfuel_gt (by omega)), lp_r]
theorem ev_X12_leastRise {S : PS} {n : Nat} (hn : S.1 0 = nI n) (h1 : 1 ≤ n) (h2 : n ≤ 10) : f_X12_leastRise S = some (plrise S, S) := by
  unfold f_X12_leastRise plrise
  rw [pn_n hn h2]
  have h : ∀ (m j fuel : Nat) (a : Int32), j + m = n → m < fuel → g_X12_leastRise_9 fuel S a (nI j) = some (.inr (S, pmf (S.2 1) m j a)) := by
    intro m
    induction m with
    | zero =>
      intro j fuel a hj hf
      obtain ⟨fuel, rfl⟩ : ∃ z, fuel = z + 1 := ⟨fuel - 1, by omega⟩
      rw [g_X12_leastRise_9, hn, if_pos (nI_le (by omega) (by omega))]
      rfl
    | succ m ih =>
      intro j fuel a hj hf
      obtain ⟨fuel, rfl⟩ : ∃ z, fuel = z + 1 := ⟨fuel - 1, by omega⟩
      rw [g_X12_leastRise_9, hn, if_neg (nI_ge (by omega) (by omega)), g_t (pin_nI (by omega) (by decide)), nI_clamp (by omega), nI_1]
      exact ih (j + 1) fuel _ (by omega) (by omega)
  rw [show (1 : Int32) = nI 1 from rfl, h (n - 1) 1 pfuel _ (by omega) (pfuel_gt (by omega)), lp_r]
