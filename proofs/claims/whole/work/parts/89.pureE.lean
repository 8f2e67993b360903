/-! THE PURE PART, E: righting, heel -/
theorem bE.ok {S T : PS} (h : bE S T) (hb : bOK S.1 S.2) : bOK T.1 T.2 := by
  unfold bOK at hb ⊢
  rw [h.1.1, h.1.2.1, h.1.2.2.1, h.1.2.2.2.1, h.1.2.2.2.2, h.2.1.1, h.2.1.2.1, h.2.1.2.2.1, h.2.1.2.2.2.1, h.2.1.2.2.2.2.1, h.2.1.2.2.2.2.2.1, h.2.1.2.2.2.2.2.2.1, h.2.1.2.2.2.2.2.2.2, h.2.2.1, h.2.2.2.1, h.2.2.2.2.1, h.2.2.2.2.2]
  exact hb
theorem Rel.b {S T : PS} (h : Rel S T) : bE S T := h.1.1
theorem Rel.x {S T : PS} (h : Rel S T) : bOK S.1 S.2 := h.1.2
theorem Rel.m {S T : PS} (h : Rel S T) : bOK T.1 T.2 := h.b.ok h.x
def pline (S : PS) : Int32 := pstart S 0 (pallW S)
theorem pline_eq {S T : PS} (h : bE S T) : pline T = pline S := by
  unfold pline
  rw [pstart_eq h, pallW_eq h]
theorem pline_cases {S : PS} (hb : bOK S.1 S.2) : pline S = -2 ∨ ∃ a : Nat, pline S = nI a ∧ a ≤ 4020 := pstart_cases hb rng0 _
theorem pline_rng {S : PS} (hb : bOK S.1 S.2) : rng (pline S) (-30000) 30000 := by
  rcases pline_cases hb with h | ⟨a, h, ha⟩
  · rw [h]; unfold rng; decide
  · rw [h]; exact (rng_nI (by omega)).mpr ⟨by omega, by omega⟩
theorem ev_X12_line {S : PS} (hb : bOK S.1 S.2) : f_X12_line S = some (pline S, S) := by
  obtain ⟨k, hk, hk16⟩ := hb.k
  unfold f_X12_line pline
  rw [ev_X12_allWeight hk hk16, b_some]
  dsimp only
  rw [ev_X12_lineFor hb, b_some]
def pcube (w : Int32) : Int32 := ((w * w) * w) / 12
def prl1 (S : PS) (i : Nat) : Int32 := if pwat S i (pline S) ≤ 0 then 0 else pcube (S.2 0 i)
def plost (S : PS) (t : Nat) : Int32 := if pslk S t = 0 then 0 else pcube (S.2 9 t)
def prt (S : PS) : Int32 := (psum (prl1 S) (pn S) - psum (plost S) 4) - paloft S / 16
def pright (S : PS) : Int32 := if pline S = -2 then -2147483648 else prt S
theorem prt_eq {S T : PS} (h : bE S T) : prt T = prt S := by
  unfold prt
  rw [pn_eq h, paloft_eq h, show prl1 T = prl1 S from by funext i; unfold prl1; rw [pwat_eq h, pline_eq h, h.2.1.1], show plost T = plost S from by funext t; unfold plost; rw [pslk_eq h, h.2.2.2.1]]
theorem pright_eq {S T : PS} (h : bE S T) : pright T = pright S := by
  unfold pright
  rw [pline_eq h, prt_eq h]
theorem ev_X8_lostRighting (S : PS) : f_X8_lostRighting S = some (psum (plost S) 4, S) := by
  unfold f_X8_lostRighting
  rw [psl (fun fuel a i => g_X8_lostRighting_4 fuel S a i) S (plost S) 4 (fun fuel a j hj => by
    simp only [g_X8_lostRighting_4]
    rw [if_neg (n4_neg hj), ev_X8_isSlack S hj, b_some]
    simp only [nI_1]
    unfold plost
    by_cases h : pslk S j = 0
    · rw [if_pos h, if_pos h]
    · rw [if_neg h, if_neg h, g_t (pin_nI hj (by decide)), nI_clamp (by omega)]
      rfl) (fun fuel a => by
    simp only [g_X8_lostRighting_4]
    rw [if_pos n4_pos]) 0 (by decide), lp_r]
  dsimp only
  rw [Int32.zero_add]
theorem ev_X0_allRighting {S : PS} (hb : bOK S.1 S.2) : f_X0_allRighting S = some (pright S, S) := by
  obtain ⟨k, hk, hk16⟩ := hb.k
  obtain ⟨n, hn, h1, h2⟩ := hb.n
  unfold f_X0_allRighting pright prt
  rw [ev_X0_allWeight hk hk16, b_some]
  dsimp only
  rw [ev_X2_startOf hb rng0, b_some]
  dsimp only
  rw [show pstart S 0 (pallW S) = pline S from rfl]
  by_cases hl : pline S = -2
  · rw [if_pos hl, if_pos hl]
  · rw [if_neg hl, if_neg hl, pn_n hn h2, psl (fun fuel a i => g_X0_allRighting_26 fuel S (pline S) a i) S (prl1 S) n (fun fuel a j hj => by
      simp only [g_X0_allRighting_26]
      rw [if_neg (by rw [hn]; exact nI_ge hj (by omega)), ev_X2_waterAt hb (by omega) (pline_rng hb), b_some]
      simp only [nI_1]
      unfold prl1
      by_cases h : pwat S j (pline S) ≤ 0
      · rw [if_pos h, if_pos h, Int32.add_zero]
      · rw [if_neg h, if_neg h, g_t (pin_nI (by omega) (by decide)), nI_clamp (by omega)]
        rfl) (fun fuel a => by
      simp only [g_X0_allRighting_26]
      rw [if_pos (by rw [hn]; exact nI_le (Nat.le_refl _) (by omega))]) 0 (by omega), lp_r]
    dsimp only
    rw [Int32.zero_add, ev_X8_lostRighting, b_some]
    dsimp only
    rw [ev_X0_allAloft hk hk16, b_some]
theorem psum_neg (f : Nat → Int32) (k : Nat) : psum (fun j => - f j) k = - psum f k := by
  induction k with
  | zero => show (0 : Int32) = - 0; decide
  | succ k ih =>
    show psum (fun j => - f j) k + - f k = - (psum f k + f k)
    rw [ih, Int32.neg_add, Int32.sub_eq_add_neg]
theorem ev_X12_righting {S : PS} (hb : bOK S.1 S.2) : f_X12_righting S = some (prt S, S) := by
  obtain ⟨k, hk, hk16⟩ := hb.k
  obtain ⟨n, hn, h1, h2⟩ := hb.n
  unfold f_X12_righting prt
  rw [ev_X12_line hb, b_some]
  dsimp only
  rw [pn_n hn h2, psl (fun fuel a i => g_X12_righting_9 fuel S (pline S) a i) S (prl1 S) n (fun fuel a j hj => by
      simp only [g_X12_righting_9]
      rw [if_neg (by rw [hn]; exact nI_ge hj (by omega)), ev_X12_waterOf S (by omega), b_some]
      simp only [nI_1]
      unfold prl1
      by_cases h : pwat S j (pline S) ≤ 0
      · rw [if_pos h, if_pos h, Int32.add_zero]
      · rw [if_neg h, if_neg h, g_t (pin_nI (by omega) (by decide)), nI_clamp (by omega)]
        rfl) (fun fuel a => by
      simp only [g_X12_righting_9]
      rw [if_pos (by rw [hn]; exact nI_le (Nat.le_refl _) (by omega))]) 0 (by omega), lp_r]
  dsimp only
  rw [psl (fun fuel a i => g_X12_righting_46 fuel S a i) S (fun t => - plost S t) 4 (fun fuel a j hj => by
    simp only [g_X12_righting_46]
    rw [if_neg (n4_neg hj), ev_X12_isSlack hb hj, b_some]
    simp only [nI_1]
    unfold plost
    by_cases h : pslk S j = 0
    · rw [if_pos h, if_pos h]
      show _ = g_X12_righting_46 fuel S (a + -0) _
      rw [show (-0 : Int32) = 0 from rfl, Int32.add_zero]
    · rw [if_neg h, if_neg h, g_t (pin_nI hj (by decide)), nI_clamp (by omega), ← Int32.sub_eq_add_neg]
      rfl) (fun fuel a => by
    simp only [g_X12_righting_46]
    rw [if_pos n4_pos]) _ (by decide), lp_r]
  dsimp only
  rw [Int32.zero_add, psum_neg, ← Int32.sub_eq_add_neg, ev_X12_aloft hk hk16, b_some]
/-- upright or not -/
theorem pright_pos {S : PS} (h : 0 < pright S) : pright S = prt S ∧ ¬ pline S = -2 ∧ 0 < prt S := by
  unfold pright at h ⊢
  by_cases hl : pline S = -2
  · rw [if_pos hl] at h
    exact absurd h (by decide)
  · rw [if_neg hl] at h ⊢
    exact ⟨rfl, hl, h⟩
theorem ev_X12_isUpright {S : PS} (hb : bOK S.1 S.2) : f_X12_isUpright S = some (if 0 < pright S then 1 else 0, S) := by
  unfold f_X12_isUpright
  rw [ev_X12_line hb, b_some]
  dsimp only
  by_cases hl : pline S = -2
  · have : ¬ 0 < pright S := fun q => (pright_pos q).2.1 hl
    rw [if_pos hl, if_neg this]
  · rw [if_neg hl, ev_X12_righting hb, b_some]
    dsimp only
    have e : pright S = prt S := if_neg hl
    rw [e]
    by_cases h : prt S ≤ 0
    · rw [if_pos h, if_neg (Int32.not_lt.mpr h)]
    · rw [if_neg h, if_pos (Int32.not_le.mp h)]
def pheld (x : Int32) : Int32 := pmax (-20) (pmin x 20)
def prl (k h : Int32) : Int32 := if k = 1 then h / 32 else if k = 3 then 2 * (h / 32) else 0
def prol (S : PS) (h : Int32) : Int32 := psum (fun g => pw S g * pheld (S.2 6 g + prl (S.2 3 g) h)) (psz S)
def pheel (S : PS) (R h : Int32) : Int32 := (64 * prol S h) / R
theorem prol_eq {S T : PS} (h : bE S T) : prol T = prol S := by
  funext x
  unfold prol
  rw [psz_eq h, show pw T = pw S from funext (pw_eq h), h.2.1.2.2.2.1, h.2.1.2.2.2.2.2.2.1]
theorem pheel_eq {S T : PS} (h : bE S T) : pheel T = pheel S := by
  funext R x
  unfold pheel
  rw [prol_eq h]
theorem ev_X11_rollsOf (S : PS) (k h : Int32) (hv : ¬ h = -2147483648) : f_X11_rollsOf S k h = some (prl k h, S) := by
  unfold f_X11_rollsOf prl
  rw [if_neg hv]
  by_cases h1 : k = 1
  · rw [if_pos h1, if_pos h1]
  · rw [if_neg h1, if_neg h1]
    by_cases h3 : k = 3
    · rw [if_pos h3, if_pos h3]
    · rw [if_neg h3, if_neg h3]
theorem ev_X12_rolls (S : PS) {g : Nat} (hg : g < 16) (h : Int32) : f_X12_rolls S (nI g) h = some (prl (S.2 3 g) h, S) := by
  have hp := pin_nI hg (by decide : 16 < 2 ^ 31)
  unfold f_X12_rolls prl
  simp only [g_t hp, nI_clamp (show g < 2 ^ 31 by omega)]
  by_cases h1 : S.2 3 g = 1
  · rw [if_pos h1, if_pos h1]
  · rw [if_neg h1, if_neg h1]
    by_cases h3 : S.2 3 g = 3
    · rw [if_pos h3, if_pos h3]
    · rw [if_neg h3, if_neg h3]
theorem ev_X0_asideRolledBy {S : PS} {k : Nat} (hk : S.1 4 = nI k) (hk16 : k ≤ 16) {h : Int32} (hv : ¬ h = -2147483648) : f_X0_asideRolledBy S h = some (prol S h, S) := by
  unfold f_X0_asideRolledBy prol
  rw [psz_k hk hk16, psl (fun fuel a i => g_X0_asideRolledBy_4 fuel S h a i) S (fun g => pw S g * pheld (S.2 6 g + prl (S.2 3 g) h)) k (fun fuel a j hj => by
    simp only [g_X0_asideRolledBy_4]
    rw [hk, if_neg (nI_ge hj (by omega)), g_t (pin_nI (by omega) (by decide)), g_t (pin_nI (by omega) (by decide)), nI_clamp (by omega), ev_X11_rollsOf S _ h hv, b_some]
    dsimp only
    unfold f_X11_held
    rw [b_some]
    dsimp only
    rw [ev_X0_weighsAt S (by omega), b_some]
    simp only [nI_1]
    rfl) (fun fuel a => by
    simp only [g_X0_asideRolledBy_4]
    rw [hk, if_pos (nI_le (Nat.le_refl _) (by omega))]) 0 (by omega), lp_r]
  dsimp only
  rw [Int32.zero_add]
theorem pheld_in {x : Int32} (h : rng x (-20) 20) : pheld x = x := by
  apply tinj
  obtain ⟨h1, h2⟩ := h
  unfold pheld
  rw [tmax, tmin]
  show max (-20) (min x.toInt 20) = x.toInt
  omega
theorem pheld_rng (x : Int32) : rng (pheld x) (-20) 20 := by
  unfold pheld rng
  rw [tmax, tmin]
  show -20 ≤ max (-20) (min x.toInt 20) ∧ max (-20) (min x.toInt 20) ≤ 20
  omega
theorem prl0 (k : Int32) : prl k 0 = 0 := by
  unfold prl
  by_cases h1 : k = 1
  · rw [if_pos h1]; rfl
  · rw [if_neg h1]
    by_cases h3 : k = 3
    · rw [if_pos h3]; rfl
    · rw [if_neg h3]
theorem prol0 {S : PS} (hb : bOK S.1 S.2) : prol S 0 = paside S := by
  obtain ⟨k, hk, hk16⟩ := hb.k
  unfold prol paside
  rw [psz_k hk hk16]
  apply psum_congr
  intro j hj
  rw [prl0, Int32.add_zero, pheld_in (hb.goods hk hj hk16).2.2.2.2.1]
theorem ev_X0_allAside {S : PS} (hb : bOK S.1 S.2) : f_X0_allAside S = some (paside S, S) := by
  obtain ⟨k, hk, hk16⟩ := hb.k
  unfold f_X0_allAside
  rw [ev_X0_asideRolledBy hk hk16 (by decide), b_some, prol0 hb]
/-- weights are small -/
theorem pw_rng {S : PS} (hb : bOK S.1 S.2) {k : Nat} (hk : S.1 4 = nI k) (hk16 : k ≤ 16) {g : Nat} (hg : g < k) : rng (pw S g) 0 1260 := by
  obtain ⟨-, -, hw, -⟩ := hb.goods hk hg hk16
  obtain ⟨w, hw0, hw1, hw2, -⟩ := rngN hw (by decide)
  have e : S.2 4 g + S.2 4 g / 4 = nI (w + w / 4) := by
    rw [hw0, show nI w / 4 = nI (w / 4) from pk_div (a := w) (d := 4) (by omega) (by decide) (by decide), nI_add]
  have hwool : ∃ c : Nat, pwool S g = nI c ∧ c ≤ 1250 := by
    unfold pwool
    by_cases h : S.1 3 = 1
    · rw [if_pos h, e]; exact ⟨_, rfl, by omega⟩
    · rw [if_neg h, hw0]; exact ⟨_, rfl, by omega⟩
  obtain ⟨c, hc, hc2⟩ := hwool
  unfold pw
  rw [hc]
  by_cases h2 : S.2 3 g = 2
  · rw [if_pos h2]; exact (rng_nI (by omega)).mpr ⟨by omega, by omega⟩
  · rw [if_neg h2]
    by_cases h4 : S.2 3 g = 4
    · rw [if_pos h4, show nI c + 3 = nI (c + 3) from nI_add c 3]; exact (rng_nI (by omega)).mpr ⟨by omega, by omega⟩
    · rw [if_neg h4, hw0]; exact (rng_nI (by omega)).mpr ⟨by omega, by omega⟩
theorem imul_bd {x y a b : Int} (h1 : 0 ≤ x) (h2 : x ≤ a) (h3 : -b ≤ y) (h4 : y ≤ b) (hb : 0 ≤ b) : -(a * b) ≤ x * y ∧ x * y ≤ a * b := by
  have q1 : x * y ≤ x * b := Int.mul_le_mul_of_nonneg_left h4 h1
  have q2 : x * b ≤ a * b := Int.mul_le_mul_of_nonneg_right h2 hb
  have q3 : x * (-b) ≤ x * y := Int.mul_le_mul_of_nonneg_left h3 h1
  rw [Int.mul_neg] at q3
  omega
/-- a sum of small things is small, and no wrap -/
theorem psum_rng {f : Nat → Int32} {c : Int} (hc : 0 ≤ c) (hc2 : c ≤ 100000) {k : Nat} (hk : k ≤ 20) (h : ∀ j, j < k → rng (f j) (-c) c) : rng (psum f k) (-(k * c)) (k * c) := by
  induction k with
  | zero => show rng 0 _ _; unfold rng; rw [show (0 : Int32).toInt = 0 from rfl]; omega
  | succ k ih =>
    have h1 := ih (by omega) (fun j hj => h j (by omega))
    have h2 := h k (by omega)
    unfold rng at h1 h2 ⊢
    have hk' : (k : Int) * c ≤ 20 * 100000 := by
      have q1 : (k : Int) * c ≤ 20 * c := Int.mul_le_mul_of_nonneg_right (by omega) hc
      omega
    have e : ((k + 1 : Nat) : Int) * c = (k : Int) * c + c := by rw [show ((k + 1 : Nat) : Int) = (k : Int) + 1 by omega, Int.add_mul, Int.one_mul]
    rw [e]
    show -(k * c + c) ≤ (psum f k + f k).toInt ∧ (psum f k + f k).toInt ≤ k * c + c
    rw [tadd (by omega) (by omega)]
    omega
theorem prol_rng {S : PS} (hb : bOK S.1 S.2) (h : Int32) : rng (prol S h) (-403200) 403200 := by
  obtain ⟨k, hk, hk16⟩ := hb.k
  unfold prol
  rw [psz_k hk hk16]
  have h1 := psum_rng (f := fun g => pw S g * pheld (S.2 6 g + prl (S.2 3 g) h)) (c := 25200) (by decide) (by decide) (k := k) (by omega) (fun j hj => by
    obtain ⟨a1, a2⟩ := pw_rng hb hk hk16 hj
    obtain ⟨b1, b2⟩ := pheld_rng (S.2 6 j + prl (S.2 3 j) h)
    have := imul_bd a1 a2 b1 b2 (by decide)
    unfold rng
    rw [tmul (by omega) (by omega)]
    omega)
  unfold rng at h1 ⊢
  omega
theorem pheel_ne {S : PS} (hb : bOK S.1 S.2) {R : Int32} (hR : 0 < R) (h : Int32) : ¬ pheel S R h = -2147483648 := by
  obtain ⟨h1, h2⟩ := prol_rng hb h
  have e64 : (64 : Int32).toInt = 64 := rfl
  have e : (64 * prol S h).toInt = 64 * (prol S h).toInt := by rw [tmul (by rw [e64]; omega) (by rw [e64]; omega), e64]
  have hR' := tlt.mp hR
  rw [show (0 : Int32).toInt = 0 from rfl] at hR'
  intro q
  have q' : (pheel S R h).toInt = -2147483648 := by rw [q]; rfl
  unfold pheel at q'
  rw [Int32.toInt_div, e] at q'
  have hb1 : ∀ a b : Int, -26000000 ≤ a → a ≤ 26000000 → 0 < b → -26000000 ≤ a.tdiv b ∧ a.tdiv b ≤ 26000000 := by
    intro a b a1 a2 b1
    obtain ⟨n, hn⟩ := Int.eq_ofNat_of_zero_le (show 0 ≤ b by omega)
    rcases Int.le_total 0 a with ha | ha
    · obtain ⟨m, hm⟩ := Int.eq_ofNat_of_zero_le ha
      rw [hm, hn, ← Int.ofNat_tdiv]
      have := Nat.div_le_self m n
      generalize m / n = q at this ⊢
      omega
    · obtain ⟨m, hm⟩ := Int.eq_ofNat_of_zero_le (show 0 ≤ -a by omega)
      have : a = -(m : Int) := by omega
      rw [this, hn, Int.neg_tdiv, ← Int.ofNat_tdiv]
      have := Nat.div_le_self m n
      generalize m / n = q at this ⊢
      omega
  have h3 := hb1 (64 * (prol S h).toInt) R.toInt (by omega) (by omega) hR'
  rw [Int.bmod_eq_of_le (by omega) (by omega)] at q'
  omega
theorem pnz_pos {R : Int32} (h : 0 < R) : pnz R = true := by
  unfold pnz
  rw [Bool.not_eq_true', decide_eq_false_iff_not]
  intro q
  rw [q] at h
  exact absurd h (by decide)
theorem ev_X0_heelRolledBy {S : PS} (hb : bOK S.1 S.2) {R h : Int32} (hR : 0 < R) (hv : ¬ h = -2147483648) : f_X0_heelRolledBy S h R = some (pheel S R h, S) := by
  obtain ⟨k, hk, hk16⟩ := hb.k
  unfold f_X0_heelRolledBy
  rw [if_neg (Int32.not_le.mpr hR), ev_X0_asideRolledBy hk hk16 hv, b_some]
  dsimp only
  rw [g_t (pnz_pos hR)]
  rfl
theorem ev_X12_heelNow {S : PS} (hb : bOK S.1 S.2) (hR : 0 < pright S) : f_X12_heelNow S = some (pheel S (pright S) 0, S) := by
  obtain ⟨k, hk, hk16⟩ := hb.k
  obtain ⟨e, -, hp⟩ := pright_pos hR
  unfold f_X12_heelNow
  rw [ev_X12_aside hk hk16, b_some]
  dsimp only
  rw [ev_X12_righting hb, b_some]
  dsimp only
  rw [g_t (pnz_pos hp), e]
  unfold pheel
  rw [prol0 hb]
theorem ev_X12_heelBehind {S : PS} (hb : bOK S.1 S.2) (hR : 0 < pright S) (h : Int32) : f_X12_heelBehind S h = some (pheel S (pright S) h, S) := by
  obtain ⟨k, hk, hk16⟩ := hb.k
  obtain ⟨e, -, hp⟩ := pright_pos hR
  unfold f_X12_heelBehind
  rw [psl (fun fuel a i => g_X12_heelBehind_4 fuel S h a i) S (fun g => pw S g * pheld (S.2 6 g + prl (S.2 3 g) h)) k (fun fuel a j hj => by
    simp only [g_X12_heelBehind_4]
    rw [hk, if_neg (nI_ge hj (by omega)), ev_X12_weighs0 S (by omega), b_some]
    dsimp only
    rw [g_t (pin_nI (by omega) (by decide)), nI_clamp (by omega), ev_X12_rolls S (by omega), b_some]
    simp only [nI_1]
    unfold pheld
    rw [pmin_comm 20]) (fun fuel a => by
    simp only [g_X12_heelBehind_4]
    rw [hk, if_pos (nI_le (Nat.le_refl _) (by omega))]) 0 (by omega), lp_r]
  dsimp only
  rw [Int32.zero_add, ev_X12_righting hb, b_some]
  dsimp only
  rw [g_t (pnz_pos hp), e]
  unfold pheel prol
  rw [psz_k hk hk16]
