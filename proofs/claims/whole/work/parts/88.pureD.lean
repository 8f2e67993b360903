/-! THE PURE PART, D: water, by halving, how it lies -/
def pwat (S : PS) (i : Nat) (p : Int32) : Int32 := S.2 0 i * pmax 0 (pmax 0 (pmin (64 * S.1 1) p) - 64 * S.2 1 i)
theorem pwat_eq {S T : PS} (h : bE S T) : pwat T = pwat S := by
  funext i p
  unfold pwat
  rw [h.1.2.1, h.2.1.1, h.2.1.2.1]
theorem ev_X12_waterOf (S : PS) {i : Nat} (hi : i < 10) (p : Int32) : f_X12_waterOf S (nI i) p = some (pwat S i p, S) := by
  have hp := pin_nI hi (by decide : 10 < 2 ^ 31)
  unfold f_X12_waterOf pwat
  rw [g_t hp, g_t hp, nI_clamp (by omega)]
theorem t64 {x : Int32} {k : Nat} (h : x = nI k) : 64 * x = nI (64 * k) := by
  rw [h]
  exact pk_mul 64 k
/-- the class's water is that too -/
theorem ev_X2_waterAt {S : PS} (hb : bOK S.1 S.2) {i : Nat} (hi : i < 10) {p : Int32} (hp : rng p (-30000) 30000) : f_X2_waterAt S (nI i) p = some (pwat S i p, S) := by
  have hpi := pin_nI hi (by decide : 10 < 2 ^ 31)
  obtain ⟨d, hd, hd1, hd2⟩ := hb.deep
  obtain ⟨-, hr⟩ := hb.2.2.2.2.2.1 i hi
  obtain ⟨r, hr0, hr1, hr2, hr3⟩ := rngN hr (by decide)
  unfold f_X2_waterAt f_X2_top
  rw [b_some]
  dsimp only
  rw [g_t hpi, nI_clamp (by omega)]
  have e1 : (64 * S.1 1).toInt = 64 * (d : Int) := by rw [t64 hd, nI_toInt (by omega)]; omega
  have e2 : (64 * S.2 1 i).toInt = 64 * (r : Int) := by rw [t64 hr0, nI_toInt (by omega)]; omega
  have e3 : (pmin p (64 * S.1 1)).toInt = min p.toInt (64 * (d : Int)) := by rw [tmin, e1]
  have e4 : (pmin p (64 * S.1 1) - 64 * S.2 1 i).toInt = min p.toInt (64 * (d : Int)) - 64 * (r : Int) := by
    rw [tsub (by rw [e3, e2]; have := hp.1; omega) (by rw [e3, e2]; have := hp.2; omega), e3, e2]
  have e5 : (pmax 0 (pmin (64 * S.1 1) p)).toInt = max 0 (min p.toInt (64 * (d : Int))) := by
    rw [tmax, pmin_comm, e3]
    rfl
  have e6 : (pmax 0 (pmin (64 * S.1 1) p) - 64 * S.2 1 i).toInt = max 0 (min p.toInt (64 * (d : Int))) - 64 * (r : Int) := by
    rw [tsub (by rw [e5, e2]; have := hp.1; omega) (by rw [e5, e2]; have := hp.2; omega), e5, e2]
  by_cases hq : pmin p (64 * S.1 1) - 64 * S.2 1 i ≤ 0
  · rw [if_pos hq]
    have hq' := tle.mp hq
    rw [e4] at hq'
    have e0 : (0 : Int32).toInt = 0 := rfl
    rw [e0] at hq'
    have : pwat S i p = 0 := by
      unfold pwat
      rw [pmax0n (by rw [e6]; omega), Int32.mul_zero]
    rw [this]
  · rw [if_neg hq, g_t hpi]
    have hq' : ¬ (pmin p (64 * S.1 1) - 64 * S.2 1 i).toInt ≤ (0 : Int32).toInt := fun q => hq (tle.mpr q)
    rw [e4] at hq'
    have e0 : (0 : Int32).toInt = 0 := rfl
    rw [e0] at hq'
    have : pwat S i p = S.2 0 i * (pmin p (64 * S.1 1) - 64 * S.2 1 i) := by
      unfold pwat
      rw [pmax0 (x := pmax 0 (pmin (64 * S.1 1) p) - 64 * S.2 1 i) (by rw [e6]; omega), pmax0 (x := pmin (64 * S.1 1) p) (by rw [pmin_comm, e3]; omega), pmin_comm]
    rw [this]
/-- the draught of a section by a slope -/
def pdr (S : PS) (a b : Int32) (i : Nat) : Int32 := a + b * (2 * nI i - S.1 0 + 1)
theorem pdr_0 (S : PS) (a : Int32) (i : Nat) : pdr S a 0 i = a := by
  unfold pdr
  rw [Int32.zero_mul, Int32.add_zero]
theorem pdr_eq {S T : PS} (h : bE S T) : pdr T = pdr S := by
  funext a b i
  unfold pdr
  rw [h.1.1]
theorem pdr_rng {S : PS} {n : Nat} (hn : S.1 0 = nI n) (h10 : n ≤ 10) {a b : Int32} (ha : rng a (-20000) 20000) (hb : rng b (-20) 20) {i : Nat} (hi : i < n) : rng (pdr S a b i) (-30000) 30000 := by
  have e1 : (2 * nI i : Int32) = nI (2 * i) := pk_mul 2 i
  have e2 : (nI (2 * i) - nI n).toInt = 2 * (i : Int) - n := by
    rw [pk_sub_toInt (by omega) (by omega)]
    omega
  have e3 : (nI (2 * i) - nI n + 1).toInt = 2 * (i : Int) - n + 1 := by
    have e9 : (1 : Int32).toInt = 1 := rfl
    rw [tadd (by rw [e2, e9]; omega) (by rw [e2, e9]; omega), e2, e9]
  obtain ⟨b1, b2⟩ := hb
  obtain ⟨a1, a2⟩ := ha
  have hm : -200 ≤ b.toInt * (2 * (i : Int) - n + 1) ∧ b.toInt * (2 * (i : Int) - n + 1) ≤ 200 := by
    have c1 : -10 ≤ 2 * (i : Int) - n + 1 := by omega
    have c2 : 2 * (i : Int) - n + 1 ≤ 10 := by omega
    generalize 2 * (i : Int) - n + 1 = c at c1 c2
    generalize b.toInt = z at b1 b2
    have h1 := Int.mul_le_mul_of_nonneg_left c2 (show 0 ≤ 20 - z by omega)
    have h2 := Int.mul_le_mul_of_nonneg_left c2 (show 0 ≤ z + 20 by omega)
    have h3 := Int.mul_le_mul_of_nonneg_left c1 (show 0 ≤ 20 - z by omega)
    have h4 := Int.mul_le_mul_of_nonneg_left c1 (show 0 ≤ z + 20 by omega)
    rw [Int.sub_mul, Int.sub_mul] at h1 h3
    rw [Int.add_mul, Int.add_mul] at h2 h4
    constructor <;> omega
  have e4 : (b * (nI (2 * i) - nI n + 1)).toInt = b.toInt * (2 * (i : Int) - n + 1) := by
    rw [tmul (by rw [e3]; omega) (by rw [e3]; omega), e3]
  unfold rng pdr
  rw [e1, hn, tadd (by rw [e4]; omega) (by rw [e4]; omega), e4]
  omega
/-- water of all by a slope -/
def pW (S : PS) (b a : Int32) : Int32 := psum (fun i => pwat S i (pdr S a b i)) (pn S)
def pP (S : PS) (b a : Int32) : Int32 := psum (fun i => pwat S i (pdr S a b i) * 2 * nI i) (pn S)
theorem pn_eq {S T : PS} (h : bE S T) : pn T = pn S := by unfold pn; rw [h.1.1]
theorem pW_eq {S T : PS} (h : bE S T) : pW T = pW S := by
  funext b a
  unfold pW
  rw [pn_eq h, pwat_eq h, pdr_eq h]
theorem pP_eq {S T : PS} (h : bE S T) : pP T = pP S := by
  funext b a
  unfold pP
  rw [pn_eq h, pwat_eq h, pdr_eq h]
theorem ev_X2_waterOfSlope {S : PS} (hb : bOK S.1 S.2) {a b : Int32} (ha : rng a (-20000) 20000) (hbr : rng b (-20) 20) : f_X2_waterOfSlope S a b = some (pW S b a, S) := by
  obtain ⟨n, hn, h1, h2⟩ := hb.n
  unfold f_X2_waterOfSlope pW
  rw [pn_n hn h2, psl (fun fuel x i => g_X2_waterOfSlope_5 fuel S a b x i) S (fun i => pwat S i (pdr S a b i)) n (fun fuel x j hj => by
    simp only [g_X2_waterOfSlope_5]
    rw [if_neg (by rw [hn]; exact nI_ge hj (by omega))]
    unfold f_X2_draughtOf
    rw [b_some]
    dsimp only
    rw [show a + b * (2 * nI j - S.1 0 + 1) = pdr S a b j from rfl, ev_X2_waterAt hb (by omega) (pdr_rng hn h2 ha hbr hj), b_some, nI_1]) (fun fuel x => by
    simp only [g_X2_waterOfSlope_5]
    rw [if_pos (by rw [hn]; exact nI_le (Nat.le_refl _) (by omega))]) 0 (by omega), lp_r]
  dsimp only
  rw [Int32.zero_add]
theorem ev_X2_pullOfSlope {S : PS} (hb : bOK S.1 S.2) {a b : Int32} (ha : rng a (-20000) 20000) (hbr : rng b (-20) 20) : f_X2_pullOfSlope S a b = some (pP S b a, S) := by
  obtain ⟨n, hn, h1, h2⟩ := hb.n
  unfold f_X2_pullOfSlope pP
  rw [pn_n hn h2, psl (fun fuel x i => g_X2_pullOfSlope_5 fuel S a b x i) S (fun i => pwat S i (pdr S a b i) * 2 * nI i) n (fun fuel x j hj => by
    simp only [g_X2_pullOfSlope_5]
    rw [if_neg (by rw [hn]; exact nI_ge hj (by omega))]
    unfold f_X2_draughtOf
    rw [b_some]
    dsimp only
    rw [show a + b * (2 * nI j - S.1 0 + 1) = pdr S a b j from rfl, ev_X2_waterAt hb (by omega) (pdr_rng hn h2 ha hbr hj), b_some, nI_1]) (fun fuel x => by
    simp only [g_X2_pullOfSlope_5]
    rw [if_pos (by rw [hn]; exact nI_le (Nat.le_refl _) (by omega))]) 0 (by omega), lp_r]
  dsimp only
  rw [Int32.zero_add]
theorem ev_X12_waterBy {S : PS} {n : Nat} (hn : S.1 0 = nI n) (h2 : n ≤ 10) (a b : Int32) : f_X12_waterBy S b a = some (pW S b a, S) := by
  unfold f_X12_waterBy pW
  rw [pn_n hn h2, psl (fun fuel x i => g_X12_waterBy_5 fuel S b a x i) S (fun i => pwat S i (pdr S a b i)) n (fun fuel x j hj => by
    simp only [g_X12_waterBy_5]
    rw [if_neg (by rw [hn]; exact nI_ge hj (by omega)), ev_X12_waterOf S (by omega), b_some]
    simp only [nI_1]
    rfl) (fun fuel x => by
    simp only [g_X12_waterBy_5]
    rw [if_pos (by rw [hn]; exact nI_le (Nat.le_refl _) (by omega))]) 0 (by omega), lp_r]
  dsimp only
  rw [Int32.zero_add]
theorem ev_X12_waterOfAll {S : PS} {n : Nat} (hn : S.1 0 = nI n) (h2 : n ≤ 10) (a : Int32) : f_X12_waterOfAll S a = some (pW S 0 a, S) := by
  unfold f_X12_waterOfAll pW
  rw [pn_n hn h2, psl (fun fuel x i => g_X12_waterOfAll_4 fuel S a x i) S (fun i => pwat S i (pdr S a 0 i)) n (fun fuel x j hj => by
    simp only [g_X12_waterOfAll_4]
    rw [if_neg (by rw [hn]; exact nI_ge hj (by omega)), ev_X12_waterOf S (by omega), b_some]
    simp only [nI_1, pdr_0]) (fun fuel x => by
    simp only [g_X12_waterOfAll_4]
    rw [if_pos (by rw [hn]; exact nI_le (Nat.le_refl _) (by omega))]) 0 (by omega), lp_r]
  dsimp only
  rw [Int32.zero_add]
/-- by halving -/
def pbs (W : Nat → Bool) : Nat → Nat → Nat → Nat
  | 0, _, hi => hi
  | k + 1, lo, hi => if hi ≤ lo then hi else if W ((lo + hi) / 2) = true then pbs W k lo ((lo + hi) / 2) else pbs W k ((lo + hi) / 2 + 1) hi
theorem pbs_le (W : Nat → Bool) : ∀ (k lo hi : Nat), lo ≤ hi → lo ≤ pbs W k lo hi ∧ pbs W k lo hi ≤ hi := by
  intro k
  induction k with
  | zero => intro lo hi h; exact ⟨h, Nat.le_refl _⟩
  | succ k ih =>
    intro lo hi h
    rw [pbs]
    by_cases h1 : hi ≤ lo
    · rw [if_pos h1]; exact ⟨h, Nat.le_refl _⟩
    · rw [if_neg h1]
      by_cases h2 : W ((lo + hi) / 2) = true
      · rw [if_pos h2]
        obtain ⟨q1, q2⟩ := ih lo ((lo + hi) / 2) (by omega)
        exact ⟨q1, by omega⟩
      · rw [if_neg h2]
        obtain ⟨q1, q2⟩ := ih ((lo + hi) / 2 + 1) hi (by omega)
        exact ⟨by omega, q2⟩
theorem pbs_self (W : Nat → Bool) (k lo : Nat) : pbs W k lo lo = lo := by
  cases k
  · rfl
  · rw [pbs, if_pos (Nat.le_refl _)]
/-- whether it bears the weight -/
def pbear (S : PS) (b w : Int32) (a : Nat) : Bool := decide (¬ pW S b (nI a) < 64 * w)
def phigh (S : PS) (b : Int32) : Nat := (64 * S.1 1 + (S.1 0 - 1) * pabs b).toNatClampNeg
/-- the start of a slope; -2: none -/
def pstart (S : PS) (b w : Int32) : Int32 := if 64 * w ≤ pW S b (nI (phigh S b)) then nI (pbs (pbear S b w) 13 0 (phigh S b)) else -2
theorem pstart_eq {S T : PS} (h : bE S T) : pstart T = pstart S := by
  funext b w
  have e1 : phigh T b = phigh S b := by unfold phigh; rw [h.1.1, h.1.2.1]
  have e2 : pbear T b w = pbear S b w := by funext a; unfold pbear; rw [pW_eq h]
  unfold pstart
  rw [e1, e2, pW_eq h]
theorem phigh_k {S : PS} (hb : bOK S.1 S.2) {b : Int32} (hbr : rng b (-20) 20) : 64 * S.1 1 + (S.1 0 - 1) * pabs b = nI (phigh S b) ∧ phigh S b ≤ 4020 := by
  obtain ⟨n, hn, h1, h2⟩ := hb.n
  obtain ⟨d, hd, hd1, hd2⟩ := hb.deep
  have ea : ∃ c : Nat, pabs b = nI c ∧ c ≤ 20 := by
    unfold pabs
    obtain ⟨q1, q2⟩ := hbr
    have e0 : (0 : Int32).toInt = 0 := rfl
    by_cases h : 0 ≤ b
    · rw [if_pos h]
      have := tle.mp h
      obtain ⟨c, hc, hc1, hc2, -⟩ := rngN (x := b) (lo := 0) (hi := 20) ⟨by omega, q2⟩ (by decide)
      exact ⟨c, hc, by omega⟩
    · rw [if_neg h]
      have hn : ¬ (0 : Int32).toInt ≤ b.toInt := fun q => h (tle.mpr q)
      have e : ((0 : Int32) - b).toInt = - b.toInt := by
        rw [tsub (by rw [e0]; omega) (by rw [e0]; omega), e0]
        omega
      obtain ⟨c, hc, hc1, hc2, -⟩ := rngN (x := 0 - b) (lo := 0) (hi := 20) ⟨by rw [e]; omega, by rw [e]; omega⟩ (by decide)
      exact ⟨c, hc, by omega⟩
  obtain ⟨c, hc, hc20⟩ := ea
  have e : 64 * S.1 1 + (S.1 0 - 1) * pabs b = nI (64 * d + (n - 1) * c) := by
    have e1 : nI n - 1 = nI (n - 1) := pk_sub (a := n) (b := 1) (by omega)
    rw [hc, hn, t64 hd, e1, pk_mul, nI_add]
  have hle : (n - 1) * c ≤ 9 * 20 := Nat.mul_le_mul (by omega) hc20
  have e2 : phigh S b = 64 * d + (n - 1) * c := by
    unfold phigh
    rw [e, nI_clamp (by omega)]
  rw [e2]
  exact ⟨e, by omega⟩
theorem pmid {lo hi : Nat} (h1 : lo ≤ 5000) (h2 : hi ≤ 5000) : (nI lo + nI hi) / 2 = nI ((lo + hi) / 2) := by
  rw [nI_add]
  exact pk_div (a := lo + hi) (d := 2) (by omega) (by decide) (by decide)
theorem a_rng {a : Nat} (h : a ≤ 5000) : rng (nI a) (-20000) 20000 := (rng_nI (by omega)).mpr ⟨by omega, by omega⟩
theorem ev_startLoop {S : PS} (hb : bOK S.1 S.2) {b : Int32} (hbr : rng b (-20) 20) (w : Int32) : ∀ (k i lo hi fuel : Nat), lo ≤ hi → hi ≤ 5000 → hi - lo < 2 ^ k → i + k ≤ 32 → k < fuel → g_X2_startOf_40 fuel S b w (nI lo) (nI hi) (nI i) = some (.inr (S, nI (pbs (pbear S b w) k lo hi))) := by
  intro k
  induction k with
  | zero =>
    intro i lo hi fuel h1 h2 h3 h4 h5
    obtain ⟨fuel, rfl⟩ : ∃ z, fuel = z + 1 := ⟨fuel - 1, by omega⟩
    rw [g_X2_startOf_40, pbs]
    by_cases hc : (32 : Int32) ≤ nI i
    · rw [if_pos hc]
    · rw [if_neg hc, if_pos (nI_le (by omega) (by omega))]
  | succ k ih =>
    intro i lo hi fuel h1 h2 h3 h4 h5
    obtain ⟨fuel, rfl⟩ : ∃ z, fuel = z + 1 := ⟨fuel - 1, by omega⟩
    rw [g_X2_startOf_40, if_neg (show ¬ (32 : Int32) ≤ nI i from nI_ge (a := i) (b := 32) (by omega) (by decide)), pbs]
    have hpow : 2 ^ (k + 1) = 2 * 2 ^ k := by rw [Nat.pow_succ]; omega
    by_cases hc : hi ≤ lo
    · rw [if_pos hc, if_pos (nI_le (by omega) (by omega))]
    · rw [if_neg hc, if_neg (nI_ge (by omega) (by omega)), pmid (by omega) h2, ev_X2_waterOfSlope hb (a_rng (by omega)) hbr, b_some]
      dsimp only
      unfold pbear
      by_cases hw : pW S b (nI ((lo + hi) / 2)) < 64 * w
      · rw [if_pos hw, if_neg (by rw [decide_eq_true_eq]; exact fun q => q hw), nI_1, nI_1]
        exact ih (i + 1) _ hi fuel (by omega) h2 (by omega) (by omega) (by omega)
      · rw [if_neg hw, if_pos (by rw [decide_eq_true_eq]; exact hw), nI_1]
        exact ih (i + 1) lo _ fuel (by omega) (by omega) (by omega) (by omega) (by omega)
theorem ev_X2_startOf {S : PS} (hb : bOK S.1 S.2) {b : Int32} (hbr : rng b (-20) 20) (w : Int32) : f_X2_startOf S b w = some (pstart S b w, S) := by
  obtain ⟨e, hh⟩ := phigh_k hb hbr
  unfold f_X2_startOf f_X2_top pstart
  rw [b_some]
  dsimp only
  rw [e, ev_X2_waterOfSlope hb (a_rng (by omega)) hbr, b_some]
  dsimp only
  by_cases hc : 64 * w ≤ pW S b (nI (phigh S b))
  · rw [if_pos hc, if_pos hc, show (0 : Int32) = nI 0 from rfl, ev_startLoop hb hbr w 13 0 0 (phigh S b) pfuel (by omega) (by omega) (by omega) (by decide) (pfuel_gt (by decide)), lp_r]
  · rw [if_neg hc, if_neg hc]
theorem rng0 : rng (0 : Int32) (-20) 20 := by unfold rng; decide
theorem phigh0 {S : PS} (hb : bOK S.1 S.2) : 64 * S.1 1 = nI (phigh S 0) := by
  rw [← (phigh_k hb rng0).1, show pabs 0 = 0 from rfl, Int32.mul_zero, Int32.add_zero]
theorem ev_lineLoop {S : PS} {n : Nat} (hn : S.1 0 = nI n) (h10 : n ≤ 10) (w : Int32) : ∀ (k lo hi fuel : Nat), lo ≤ hi → hi ≤ 5000 → hi - lo < 2 ^ k → k < fuel → g_X12_lineFor_31 fuel S w (nI lo) (nI hi) = some (.inr (S, nI (pbs (pbear S 0 w) k lo hi))) := by
  intro k
  induction k with
  | zero =>
    intro lo hi fuel h1 h2 h3 h5
    obtain ⟨fuel, rfl⟩ : ∃ z, fuel = z + 1 := ⟨fuel - 1, by omega⟩
    rw [g_X12_lineFor_31, pbs, if_pos (nI_le (by omega) (by omega)), show lo = hi by omega]
  | succ k ih =>
    intro lo hi fuel h1 h2 h3 h5
    obtain ⟨fuel, rfl⟩ : ∃ z, fuel = z + 1 := ⟨fuel - 1, by omega⟩
    rw [g_X12_lineFor_31, pbs]
    have hpow : 2 ^ (k + 1) = 2 * 2 ^ k := by rw [Nat.pow_succ]; omega
    by_cases hc : hi ≤ lo
    · rw [if_pos hc, if_pos (nI_le (by omega) (by omega)), show lo = hi by omega]
    · rw [if_neg hc, if_neg (nI_ge (by omega) (by omega)), pmid (by omega) h2, ev_X12_waterOfAll hn h10, b_some]
      dsimp only
      unfold pbear
      by_cases hw : pW S 0 (nI ((lo + hi) / 2)) < 64 * w
      · rw [if_pos hw, if_neg (by rw [decide_eq_true_eq]; exact fun q => q hw), nI_1]
        exact ih _ hi fuel (by omega) h2 (by omega) (by omega)
      · rw [if_neg hw, if_pos (by rw [decide_eq_true_eq]; exact hw)]
        exact ih lo _ fuel (by omega) (by omega) (by omega) (by omega)
theorem ev_X12_lineFor {S : PS} (hb : bOK S.1 S.2) (w : Int32) : f_X12_lineFor S w = some (pstart S 0 w, S) := by
  obtain ⟨n, hn, h1, h2⟩ := hb.n
  have hh := (phigh_k hb rng0).2
  unfold f_X12_lineFor pstart
  rw [ev_X12_waterOfAll hn h2, b_some]
  dsimp only
  rw [phigh0 hb]
  by_cases hc : 64 * w ≤ pW S 0 (nI (phigh S 0))
  · have hl : g_X12_lineFor_31 pfuel S w 0 (nI (phigh S 0)) = some (.inr (S, nI (pbs (pbear S 0 w) 13 0 (phigh S 0)))) := ev_lineLoop hn h2 w 13 0 (phigh S 0) pfuel (by omega) (by omega) (by omega) (pfuel_gt (by decide))
    rw [if_pos hc, if_pos hc, hl, lp_r]
  · rw [if_neg hc, if_neg hc]
theorem ev_restLoop {S : PS} {n : Nat} (hn : S.1 0 = nI n) (h10 : n ≤ 10) (b w : Int32) : ∀ (k lo hi fuel : Nat), lo ≤ hi → hi ≤ 5000 → hi - lo < 2 ^ k → k < fuel → g_X12_restOf_44 fuel S b (64 * w) (nI hi) (nI lo) = some (.inr (S, nI (pbs (pbear S b w) k lo hi))) := by
  intro k
  induction k with
  | zero =>
    intro lo hi fuel h1 h2 h3 h5
    obtain ⟨fuel, rfl⟩ : ∃ z, fuel = z + 1 := ⟨fuel - 1, by omega⟩
    rw [g_X12_restOf_44, pbs, if_pos (nI_le (by omega) (by omega)), show lo = hi by omega]
  | succ k ih =>
    intro lo hi fuel h1 h2 h3 h5
    obtain ⟨fuel, rfl⟩ : ∃ z, fuel = z + 1 := ⟨fuel - 1, by omega⟩
    rw [g_X12_restOf_44, pbs]
    have hpow : 2 ^ (k + 1) = 2 * 2 ^ k := by rw [Nat.pow_succ]; omega
    by_cases hc : hi ≤ lo
    · rw [if_pos hc, if_pos (nI_le (by omega) (by omega)), show lo = hi by omega]
    · rw [if_neg hc, if_neg (nI_ge (by omega) (by omega)), pmid (by omega) h2, ev_X12_waterBy hn h10, b_some]
      dsimp only
      unfold pbear
      by_cases hw : pW S b (nI ((lo + hi) / 2)) < 64 * w
      · rw [if_pos hw, if_neg (by rw [decide_eq_true_eq]; exact fun q => q hw), nI_1]
        exact ih _ hi fuel (by omega) h2 (by omega) (by omega)
      · rw [if_neg hw, if_pos (by rw [decide_eq_true_eq]; exact hw)]
        exact ih lo _ fuel (by omega) (by omega) (by omega) (by omega)
theorem ev_X12_restOf {S : PS} (hb : bOK S.1 S.2) {b : Int32} (hbr : rng b (-20) 20) : f_X12_restOf S b = some (pstart S b (pallW S), S) := by
  obtain ⟨n, hn, h1, h2⟩ := hb.n
  obtain ⟨k, hk, hk16⟩ := hb.k
  obtain ⟨e, hh⟩ := phigh_k hb hbr
  unfold f_X12_restOf pstart
  rw [ev_X12_allWeight hk hk16, b_some]
  dsimp only
  rw [e, ev_X12_waterBy hn h2, b_some]
  dsimp only
  by_cases hc : 64 * pallW S ≤ pW S b (nI (phigh S b))
  · have hl : g_X12_restOf_44 pfuel S b (64 * pallW S) (nI (phigh S b)) 0 = some (.inr (S, nI (pbs (pbear S b (pallW S)) 13 0 (phigh S b)))) := ev_restLoop hn h2 b (pallW S) 13 0 (phigh S b) pfuel (by omega) (by omega) (by omega) (pfuel_gt (by decide))
    rw [if_pos hc, if_pos hc, hl, lp_r]
  · rw [if_neg hc, if_neg hc]
/-- a start is -2 or a small number -/
theorem pstart_cases {S : PS} (hb : bOK S.1 S.2) {b : Int32} (hbr : rng b (-20) 20) (w : Int32) : pstart S b w = -2 ∨ ∃ a : Nat, pstart S b w = nI a ∧ a ≤ 4020 := by
  unfold pstart
  by_cases hc : 64 * w ≤ pW S b (nI (phigh S b))
  · rw [if_pos hc]
    have h1 := (pbs_le (pbear S b w) 13 0 (phigh S b) (Nat.zero_le _)).2
    have h2 := (phigh_k hb hbr).2
    exact Or.inr ⟨_, rfl, by omega⟩
  · rw [if_neg hc]; exact Or.inl rfl
theorem nI_ne_m2 {a : Nat} (h : a < 2 ^ 31) : ¬ nI a = -2 := fun q => nI_pos h (by rw [q]; decide)
/-- off of a slope; the least int: none -/
def poff (S : PS) (b : Int32) : Int32 := if pstart S b (pallW S) = -2 then -2147483648 else pP S b (pstart S b (pallW S)) - 64 * palong S
theorem poff_eq {S T : PS} (h : bE S T) : poff T = poff S := by
  funext b
  unfold poff
  rw [pstart_eq h, pallW_eq h, pP_eq h, palong_eq h]
theorem ev_X0_offOf {S : PS} (hb : bOK S.1 S.2) {b : Int32} (hbr : rng b (-20) 20) : f_X0_offOf S b = some (poff S b, S) := by
  obtain ⟨k, hk, hk16⟩ := hb.k
  unfold f_X0_offOf poff
  rw [ev_X0_allWeight hk hk16, b_some]
  dsimp only
  rw [ev_X2_startOf hb hbr, b_some]
  dsimp only
  rcases pstart_cases hb hbr (pallW S) with h | ⟨a, h, ha⟩
  · rw [if_pos h, if_pos h]
  · have hne : ¬ pstart S b (pallW S) = -2 := by rw [h]; exact nI_ne_m2 (by omega)
    rw [if_neg hne, if_neg hne, ev_X2_pullOfSlope hb (by rw [h]; exact a_rng (by omega)) hbr, b_some]
    dsimp only
    rw [ev_X0_allAlong hk hk16, b_some]
theorem ev_X12_offBy {S : PS} (hb : bOK S.1 S.2) (a b : Int32) : f_X12_offBy S b a = some (pP S b a - 64 * palong S, S) := by
  obtain ⟨n, hn, h1, h2⟩ := hb.n
  obtain ⟨k, hk, hk16⟩ := hb.k
  unfold f_X12_offBy pP
  rw [pn_n hn h2, psl (fun fuel x i => g_X12_offBy_5 fuel S b a x i) S (fun i => pwat S i (pdr S a b i) * 2 * nI i) n (fun fuel x j hj => by
    simp only [g_X12_offBy_5]
    rw [if_neg (by rw [hn]; exact nI_ge hj (by omega)), ev_X12_waterOf S (by omega), b_some]
    simp only [nI_1]
    have e : 2 * nI j * pwat S j (pdr S a b j) = pwat S j (pdr S a b j) * 2 * nI j := by
      rw [Int32.mul_comm (2 * nI j), Int32.mul_assoc]
    rw [← e]
    rfl) (fun fuel x => by
    simp only [g_X12_offBy_5]
    rw [if_pos (by rw [hn]; exact nI_le (Nat.le_refl _) (by omega))]) 0 (by omega), lp_r]
  dsimp only
  rw [Int32.zero_add, ev_X12_along hk hk16, b_some]
