/-! THE PURE PART, F: the commands that only read, first half -/
def pQ (f g : Option (Int32 × PS)) : Prop := ∃ (r : Int32) (S' T' : PS), f = some (r, S') ∧ g = some (r, T') ∧ Rel S' T'
theorem pQ.r {S T : PS} (h : Rel S T) (r : Int32) : pQ (some (r, S)) (some (r, T)) := ⟨r, S, T, rfl, rfl, h⟩
theorem pQ.re {S T : PS} (h : Rel S T) {r r' : Int32} (e : r' = r) : pQ (some (r, S)) (some (r', T)) := by rw [e]; exact pQ.r h r
theorem pQ.ite {c : Prop} [Decidable c] {f1 f2 g1 g2 : Option (Int32 × PS)} (h1 : c → pQ f1 g1) (h2 : ¬ c → pQ f2 g2) : pQ (if c then f1 else f2) (if c then g1 else g2) := by
  by_cases h : c
  · rw [if_pos h, if_pos h]; exact h1 h
  · rw [if_neg h, if_neg h]; exact h2 h
theorem pQ.bnd {f g : Option (Int32 × PS)} {k k' : Int32 → PS → Option (Int32 × PS)} (h : pQ f g) (hk : ∀ r S' T', Rel S' T' → pQ (k r S') (k' r T')) : pQ (pbnd f k) (pbnd g k') := by
  obtain ⟨r, S', T', e1, e2, hR⟩ := h
  rw [e1, e2, b_some, b_some]
  exact hk r S' T' hR
theorem pQ.bnds {S T : PS} {f g : Option (Int32 × PS)} {r r' : Int32} {k k' : Int32 → PS → Option (Int32 × PS)} (h1 : f = some (r, S)) (h2 : g = some (r', T)) (e : r' = r) (hk : pQ (k r S) (k' r T)) : pQ (pbnd f k) (pbnd g k') := by
  rw [h1, h2, b_some, b_some, e]
  exact hk
theorem pQ.gd {b b' : Bool} {f g : Option (Int32 × PS)} (h1 : b = true) (h2 : b' = true) (h : pQ f g) : pQ (pgd b f) (pgd b' g) := by
  rw [g_t h1, g_t h2]; exact h
theorem eq_told : pEq1 Rel f_X11_told f_X12_told := by
  intro S T h v
  have hb := h.b
  obtain ⟨k, hk, hk16⟩ := h.x.k
  obtain ⟨k', hk', hk16'⟩ := h.m.k
  obtain ⟨n, hn, hn2, hn10⟩ := h.x.n
  obtain ⟨n', hn', hn2', hn10'⟩ := h.m.n
  show pQ _ _
  unfold f_X11_told f_X12_told
  refine pQ.ite (fun _ => ?_) (fun _ => pQ.ite (fun _ => ?_) (fun _ => pQ.ite (fun _ => ?_) (fun _ => pQ.ite (fun _ => ?_) (fun _ => pQ.ite (fun _ => ?_) (fun _ => pQ.ite (fun _ => ?_) (fun _ => pQ.ite (fun _ => ?_) (fun _ => pQ.ite (fun _ => ?_) (fun _ => ?_))))))))
  · exact pQ.bnds (ev_X0_allWeight hk hk16) (ev_X12_allWeight hk' hk16') (pallW_eq hb) (pQ.r h _)
  · exact pQ.bnds (ev_X0_allAlong hk hk16) (ev_X12_along hk' hk16') (palong_eq hb) (pQ.r h _)
  · exact pQ.bnds (ev_X0_allAside h.x) (ev_X12_aside hk' hk16') (paside_eq hb) (pQ.r h _)
  · exact pQ.bnds (ev_X0_allAloft hk hk16) (ev_X12_aloft hk' hk16') (paloft_eq hb) (pQ.r h _)
  · rw [ev_X0_allRighting h.x, b_some, ev_X12_line h.m, b_some]
    dsimp only
    rw [pline_eq hb]
    unfold pright
    by_cases hl : pline S = -2
    · rw [if_pos hl, if_pos hl]; exact pQ.r h _
    · rw [if_neg hl, if_neg hl, ev_X12_righting h.m, b_some]
      exact pQ.re h (prt_eq hb)
  · exact pQ.re h hb.1.2.2.2.2
  · exact pQ.bnds (ev_X8_howManySlack S) (ev_X12_slacks h.m) (by rw [show pslk T = pslk S from funext (pslk_eq hb)]) (pQ.r h _)
  · exact pQ.bnds (ev_X2_leastRise hn (by omega) hn10) (ev_X12_leastRise hn' (by omega) hn10') (plrise_eq hb) (pQ.r h _)
  · exact pQ.r h _
theorem eq_count : pEq1 Rel f_X11_count f_X12_count := by
  intro S T h v
  have hb := h.b
  show pQ _ _
  unfold f_X11_count f_X12_count
  refine pQ.ite (fun _ => ?_) (fun _ => pQ.ite (fun _ => ?_) (fun _ => pQ.ite (fun _ => ?_) (fun _ => pQ.ite (fun _ => ?_) (fun _ => pQ.ite (fun _ => ?_) (fun _ => pQ.ite (fun _ => ?_) (fun _ => pQ.ite (fun _ => ?_) (fun _ => ?_)))))))
  · exact pQ.re h hb.1.1
  · exact pQ.re h hb.1.2.2.2.2
  · exact pQ.re h hb.1.2.1
  · exact pQ.re h hb.1.2.2.1
  · exact pQ.re h hb.1.2.2.2.1
  · exact pQ.re h h.2.2.2.1.1
  · exact pQ.bnds (ev_X8_howManyThere S) (ev_X12_tanksThere T) (by rw [show pthr T = pthr S from funext (pthr_eq hb)]) (pQ.r h _)
  · exact pQ.r h _
/-- sections -/
def psec (S : PS) (v : Int32) : Int32 := pwi v 0 (S.1 0 - 1)
theorem psec_eq {S T : PS} (h : bE S T) (v : Int32) : psec T v = psec S v := by unfold psec; rw [h.1.1]
theorem ev_X2_hasSection (S : PS) (v : Int32) : f_X2_hasSection S v = some (psec S v, S) := by
  unfold f_X2_hasSection psec
  rw [ev_X11_isWithin, b_some, g_t (pwi_bit _ _ _)]
theorem ev_X12_isSection (S : PS) (v : Int32) : f_X12_isSection S v = some (psec S v, S) := by
  unfold f_X12_isSection psec
  rw [ev_X12_in, b_some, g_t (pwi_bit _ _ _)]
theorem psec_in {S : PS} (hb : bOK S.1 S.2) {v : Int32} (h : ¬ psec S v = 0) : ∃ i : Nat, v = nI i ∧ i < 10 ∧ (i : Int) < (S.1 0).toInt := by
  obtain ⟨n, hn, h1, h2⟩ := hb.n
  have e : (S.1 0 - 1).toInt = (n : Int) - 1 := by rw [hn]; exact pk_sub_toInt (a := n) (b := 1) (by omega) (by omega)
  have hr : rng v 0 ((n : Int) - 1) := pwi_rng h rfl e
  obtain ⟨i, hi, hi1, hi2, -⟩ := rngN hr (by decide)
  refine ⟨i, hi, by omega, ?_⟩
  rw [hn, nI_toInt (by omega)]
  omega
theorem eq_water : pEq2 Rel f_X11_water f_X12_water := by
  intro S T h v1 v2
  have hb := h.b
  obtain ⟨n', hn', hn2', hn10'⟩ := h.m.n
  show pQ _ _
  unfold f_X11_water f_X12_water
  rw [ev_X11_isWithin, b_some]
  simp only [ev_X12_in, ev_X12_isSection, b_some]
  by_cases h1 : v1 = -1
  · simp only [if_pos h1]
    refine pQ.ite (fun _ => pQ.r h _) (fun h2 => ?_)
    have hr : rng v2 (-9999) 9999 := pwi_rng h2 rfl rfl
    exact pQ.bnds (ev_X2_waterOfSlope h.x ⟨by have := hr.1; omega, by have := hr.2; omega⟩ rng0) (ev_X12_waterOfAll hn' hn10' v2) (by rw [pW_eq hb]) (pQ.r h _)
  · simp only [if_neg h1, ev_X2_hasSection, b_some, psec_eq hb]
    by_cases h2 : pwi v2 (-9999) 9999 = 0
    · rw [if_pos h2]
      by_cases h3 : psec S v1 = 0
      · rw [if_pos h3]; exact pQ.r h _
      · rw [if_neg h3, if_pos h2]; exact pQ.r h _
    · rw [if_neg h2]
      refine pQ.ite (fun _ => pQ.r h _) (fun h3 => ?_)
      rw [if_neg h2]
      have hr : rng v2 (-9999) 9999 := pwi_rng h2 rfl rfl
      obtain ⟨i, rfl, hi, -⟩ := psec_in h.x h3
      exact pQ.bnds (ev_X2_waterAt h.x hi ⟨by have := hr.1; omega, by have := hr.2; omega⟩) (ev_X12_waterOf T hi v2) (by rw [pwat_eq hb]) (pQ.r h _)
theorem ev_X11_line {S : PS} (hb : bOK S.1 S.2) : f_X11_line S = some (pline S, S) := by
  obtain ⟨k, hk, hk16⟩ := hb.k
  unfold f_X11_line pline
  rw [ev_X0_allWeight hk hk16, b_some]
  dsimp only
  rw [ev_X2_startOf hb rng0, b_some]
theorem eq_line : pEq0 Rel f_X11_line f_X12_line := by
  intro S T h
  show pQ _ _
  rw [ev_X11_line h.x, ev_X12_line h.m, pline_eq h.b]
  exact pQ.r h _
theorem eq_off : pEq1 Rel f_X11_off f_X12_off := by
  intro S T h v
  have hb := h.b
  show pQ _ _
  unfold f_X11_off f_X12_off
  refine pQ.bnds (ev_X11_isWithin S v (-20) 20) (ev_X12_in T v (-20) 20) rfl (pQ.ite (fun _ => pQ.r h _) (fun h2 => ?_))
  have hr : rng v (-20) 20 := pwi_rng h2 rfl rfl
  rw [ev_X0_offOf h.x hr, b_some, ev_X12_restOf h.m hr, b_some, pstart_eq hb, pallW_eq hb]
  unfold poff
  dsimp only
  by_cases h3 : pstart S v (pallW S) = -2
  · rw [if_pos h3, if_pos h3]; exact pQ.r h _
  · rw [if_neg h3, if_neg h3, ev_X12_offBy h.m, b_some, pP_eq hb, palong_eq hb]
    exact pQ.r h _
theorem eq_grounded : pEq1 Rel f_X11_grounded f_X12_grounded := by
  intro S T h v
  have hb := h.b
  obtain ⟨k, hk, hk16⟩ := h.x.k
  obtain ⟨n, hn, hn2, hn10⟩ := h.x.n
  obtain ⟨n', hn', hn2', hn10'⟩ := h.m.n
  show pQ _ _
  unfold f_X11_grounded f_X12_grounded
  refine pQ.bnds (ev_X11_isWithin S v 0 9999) (ev_X12_in T v 0 9999) rfl (pQ.ite (fun _ => pQ.r h _) (fun h2 => ?_))
  rw [ev_X0_allWeight hk hk16, b_some]
  dsimp only
  refine pQ.bnds (show _ = some (pline S, S) from ev_X2_startOf h.x rng0 _) (ev_X12_line h.m) (pline_eq hb) (pQ.ite (fun _ => pQ.r h _) (fun h3 => ?_))
  exact pQ.bnds (ev_X2_leastRise hn (by omega) hn10) (ev_X12_leastRise hn' (by omega) hn10') (plrise_eq hb) (pQ.ite (fun _ => pQ.r h _) (fun h3 => pQ.r h _))
theorem ev_X2_carriedAt {S : PS} (hb : bOK S.1 S.2) {a : Int32} (ha : rng a (-20000) 20000) : f_X2_carriedAt S a = some (pW S 0 a / 64, S) := by
  unfold f_X2_carriedAt
  rw [ev_X2_waterOfSlope hb ha rng0, b_some]
theorem pmf_rng {f : Nat → Int32} {hi : Int} : ∀ (m j : Nat) (a : Int32), rng a 0 hi → (∀ i, i < j + m → rng (f i) 0 hi) → rng (pmf f m j a) 0 hi := by
  intro m
  induction m with
  | zero => intro j a ha _; exact ha
  | succ m ih =>
    intro j a ha hf
    rw [pmf]
    refine ih (j + 1) _ ?_ (fun i hi => hf i (by omega))
    have h2 := hf j (by omega)
    unfold rng at ha h2 ⊢
    rw [tmin]
    omega
theorem plrise_rng {S : PS} (hb : bOK S.1 S.2) : rng (plrise S) 0 30 := by
  obtain ⟨n, hn, h1, h2⟩ := hb.n
  unfold plrise
  rw [pn_n hn h2]
  exact pmf_rng (n - 1) 1 _ (hb.2.2.2.2.2.1 0 (by decide)).2 (fun i hi => (hb.2.2.2.2.2.1 i (by omega)).2)
theorem eq_lighten : pEq1 Rel f_X11_lighten f_X12_lighten := by
  intro S T h v
  have hb := h.b
  obtain ⟨k, hk, hk16⟩ := h.x.k
  obtain ⟨k', hk', hk16'⟩ := h.m.k
  obtain ⟨n, hn, hn2, hn10⟩ := h.x.n
  obtain ⟨n', hn', hn2', hn10'⟩ := h.m.n
  show pQ _ _
  unfold f_X11_lighten f_X12_lighten
  refine pQ.bnds (ev_X11_isWithin S v 0 9999) (ev_X12_in T v 0 9999) rfl (pQ.ite (fun _ => pQ.r h _) (fun h2 => ?_))
  obtain ⟨v0, hv0, hv1, hv2, -⟩ := rngN (pwi_rng (lo := 0) (hi := 9999) h2 rfl rfl) (by decide)
  obtain ⟨r0, hr0, hr1, hr2, -⟩ := rngN (plrise_rng h.x) (by decide)
  rw [ev_X2_leastRise hn (by omega) hn10, b_some, ev_X12_allWeight hk' hk16', b_some]
  dsimp only
  have hrr : rng (v + 64 * plrise S) (-20000) 20000 := by
    rw [hv0, t64 hr0, nI_add]
    exact (rng_nI (by omega)).mpr ⟨by omega, by omega⟩
  rw [ev_X2_carriedAt h.x hrr, b_some, ev_X12_leastRise hn' (by omega) hn10', b_some]
  dsimp only
  rw [ev_X0_allWeight hk hk16, b_some, ev_X12_waterOfAll hn' hn10', b_some]
  dsimp only
  rw [pallW_eq hb, pW_eq hb, plrise_eq hb, Int32.add_comm (64 * plrise S)]
  exact pQ.r h _
theorem eq_more : pEq1 Rel f_X11_more f_X12_more := by
  intro S T h v
  have hb := h.b
  obtain ⟨k, hk, hk16⟩ := h.x.k
  obtain ⟨k', hk', hk16'⟩ := h.m.k
  obtain ⟨n', hn', hn2', hn10'⟩ := h.m.n
  show pQ _ _
  unfold f_X11_more f_X12_more f_X2_top
  rw [b_some]
  refine pQ.bnds (ev_X11_isWithin S v 0 (64 * S.1 1)) (ev_X12_in T v 0 (64 * T.1 1)) (by rw [hb.1.2.1]) (pQ.ite (fun _ => pQ.r h _) (fun h2 => ?_))
  obtain ⟨d, hd, hd1, hd2⟩ := h.x.deep
  obtain ⟨v0, hv0, hv1, hv2, -⟩ := rngN (pwi_rng (lo := 0) (hi := 64 * (d : Int)) h2 rfl (by rw [t64 hd, nI_toInt (by omega)]; omega)) (by decide)
  rw [ev_X2_carriedAt h.x (by rw [hv0]; exact (rng_nI (by omega)).mpr ⟨by omega, by omega⟩), b_some, ev_X12_waterOfAll hn' hn10', b_some]
  dsimp only
  rw [ev_X0_allWeight hk hk16, b_some, ev_X12_allWeight hk' hk16', b_some]
  dsimp only
  rw [pallW_eq hb, pW_eq hb]
  exact pQ.r h _
/-- heel -/
def pit (f : Int32 → Int32) : Nat → Int32 → Int32
  | 0, x => x
  | n + 1, x => pit f n (f x)
theorem ev_heelX {S : PS} (hb : bOK S.1 S.2) {R : Int32} (hR : 0 < R) {n : Nat} (hn : n ≤ 100) : ∀ (m j fuel : Nat) (x : Int32), j + m = n → m < fuel → (¬ x = -2147483648) → g_X0_heelBehind_22 fuel S (nI n) R x (nI j) = some (.inr (S, pit (pheel S R) m x)) := by
  intro m
  induction m with
  | zero =>
    intro j fuel x hj hf hx
    obtain ⟨fuel, rfl⟩ : ∃ z, fuel = z + 1 := ⟨fuel - 1, by omega⟩
    rw [g_X0_heelBehind_22, if_pos (nI_le (by omega) (by omega))]
    rfl
  | succ m ih =>
    intro j fuel x hj hf hx
    obtain ⟨fuel, rfl⟩ : ∃ z, fuel = z + 1 := ⟨fuel - 1, by omega⟩
    rw [g_X0_heelBehind_22, if_neg (nI_ge (by omega) (by omega)), ev_X0_heelRolledBy hb hR hx, b_some, nI_1]
    exact ih (j + 1) fuel _ (by omega) (by omega) (pheel_ne hb hR x)
theorem ev_heelM {S : PS} (hb : bOK S.1 S.2) (hR : 0 < pright S) {n : Nat} (hn : n ≤ 100) : ∀ (m j fuel : Nat) (x : Int32), j + m = n → m < fuel → g_X12_heel_27 fuel S (nI n) x (nI j) = some (.inr (S, pit (pheel S (pright S)) m x)) := by
  intro m
  induction m with
  | zero =>
    intro j fuel x hj hf
    obtain ⟨fuel, rfl⟩ : ∃ z, fuel = z + 1 := ⟨fuel - 1, by omega⟩
    rw [g_X12_heel_27, if_pos (nI_le (by omega) (by omega))]
    rfl
  | succ m ih =>
    intro j fuel x hj hf
    obtain ⟨fuel, rfl⟩ : ∃ z, fuel = z + 1 := ⟨fuel - 1, by omega⟩
    rw [g_X12_heel_27, if_neg (nI_ge (by omega) (by omega)), ev_X12_heelBehind hb hR, b_some, nI_1]
    exact ih (j + 1) fuel _ (by omega) (by omega)
def pheelN (S : PS) (n : Nat) : Int32 := if 0 < pright S then pit (pheel S (pright S)) n (pheel S (pright S) 0) else -2147483648
theorem ev_X0_heelBehind {S : PS} (hb : bOK S.1 S.2) {n : Nat} (hn : n ≤ 100) : f_X0_heelBehind S (nI n) = some (pheelN S n, S) := by
  unfold f_X0_heelBehind pheelN
  rw [ev_X0_allRighting hb, b_some]
  dsimp only
  by_cases hR : 0 < pright S
  · rw [if_pos hR, if_pos hR, ev_X0_heelRolledBy hb hR (by decide), b_some]
    dsimp only
    rw [show (0 : Int32) = nI 0 from rfl, ev_heelX hb hR hn n 0 pfuel _ (by omega) (pfuel_gt (by omega)) (pheel_ne hb hR _), lp_r]
  · rw [if_neg hR, if_neg hR]
theorem eq_heel : pEq1 Rel f_X11_heel f_X12_heel := by
  intro S T h v
  have hb := h.b
  show pQ _ _
  unfold f_X11_heel f_X12_heel
  refine pQ.bnds (ev_X11_isWithin S v 0 20) (ev_X12_in T v 0 20) rfl (pQ.ite (fun _ => pQ.r h _) (fun h2 => ?_))
  obtain ⟨v0, rfl, hv1, hv2, -⟩ := rngN (pwi_rng (lo := 0) (hi := 20) h2 rfl rfl) (by decide)
  rw [ev_X0_heelBehind h.x (by omega), b_some, ev_X12_isUpright h.m, b_some]
  dsimp only
  unfold pheelN
  rw [pright_eq hb]
  by_cases hR : 0 < pright S
  · have hR' : 0 < pright T := by rw [pright_eq hb]; exact hR
    rw [if_pos hR, if_pos hR, if_neg (by decide), ev_X12_heelNow h.m hR', b_some]
    dsimp only
    rw [show (0 : Int32) = nI 0 from rfl, ev_heelM h.m hR' (n := v0) (by omega) v0 0 pfuel _ (by omega) (pfuel_gt (by omega)), lp_r, pheel_eq hb, pright_eq hb]
    exact pQ.r h _
  · rw [if_neg hR, if_neg hR, if_pos rfl]
    exact pQ.r h _
def pstd (f : Int32 → Int32) : Nat → Nat → Int32 → Int32
  | 0, _, _ => -2
  | m + 1, j, x => if f x = x then nI j else pstd f m (j + 1) (f x)
theorem ev_steadyX {S : PS} (hb : bOK S.1 S.2) {R : Int32} (hR : 0 < R) : ∀ (m j fuel : Nat) (x : Int32), j + m = 21 → m < fuel → (¬ x = -2147483648) → plp (g_X0_roundsTillSteady_21 fuel S R x (nI j)) (fun S' => some ((-2 : Int32), S')) = some (pstd (pheel S R) m j x, S) := by
  intro m
  induction m with
  | zero =>
    intro j fuel x hj hf hx
    obtain ⟨fuel, rfl⟩ : ∃ z, fuel = z + 1 := ⟨fuel - 1, by omega⟩
    rw [g_X0_roundsTillSteady_21, if_pos (by rw [show j = 21 by omega]; decide)]
    rfl
  | succ m ih =>
    intro j fuel x hj hf hx
    obtain ⟨fuel, rfl⟩ : ∃ z, fuel = z + 1 := ⟨fuel - 1, by omega⟩
    rw [g_X0_roundsTillSteady_21, if_neg (show ¬ (20 : Int32) < nI j from Int32.not_lt.mpr (nI_le (a := j) (b := 20) (by omega) (by decide))), ev_X0_heelRolledBy hb hR hx, b_some, pstd]
    dsimp only
    by_cases he : pheel S R x = x
    · rw [if_pos he, if_pos he]; rfl
    · rw [if_neg he, if_neg he, nI_1]
      exact ih (j + 1) fuel _ (by omega) (by omega) (pheel_ne hb hR x)
theorem ev_steadyM {S : PS} (hb : bOK S.1 S.2) (hR : 0 < pright S) : ∀ (m j fuel : Nat) (x : Int32), j + m = 21 → m < fuel → plp (g_X12_steady_17 fuel S x (nI j)) (fun S' => some ((-2 : Int32), S')) = some (pstd (pheel S (pright S)) m j x, S) := by
  intro m
  induction m with
  | zero =>
    intro j fuel x hj hf
    obtain ⟨fuel, rfl⟩ : ∃ z, fuel = z + 1 := ⟨fuel - 1, by omega⟩
    rw [g_X12_steady_17, if_pos (by rw [show j = 21 by omega]; decide)]
    rfl
  | succ m ih =>
    intro j fuel x hj hf
    obtain ⟨fuel, rfl⟩ : ∃ z, fuel = z + 1 := ⟨fuel - 1, by omega⟩
    rw [g_X12_steady_17, if_neg (show ¬ (20 : Int32) < nI j from Int32.not_lt.mpr (nI_le (a := j) (b := 20) (by omega) (by decide))), ev_X12_heelBehind hb hR, b_some, pstd]
    dsimp only
    by_cases he : pheel S (pright S) x = x
    · rw [if_pos he, if_pos he]; rfl
    · rw [if_neg he, if_neg he, nI_1]
      exact ih (j + 1) fuel _ (by omega) (by omega)
theorem eq_steady : pEq0 Rel f_X11_steady f_X12_steady := by
  intro S T h
  have hb := h.b
  show pQ _ _
  unfold f_X11_steady f_X12_steady f_X0_roundsTillSteady
  rw [ev_X0_allRighting h.x, b_some, ev_X12_isUpright h.m, b_some]
  dsimp only
  rw [pright_eq hb]
  by_cases hR : 0 < pright S
  · have hR' : 0 < pright T := by rw [pright_eq hb]; exact hR
    rw [if_pos hR, if_pos hR, if_neg (by decide), ev_X12_heelNow h.m hR', b_some, ev_X0_heelRolledBy h.x hR (by decide), b_some]
    dsimp only
    have e1 := ev_steadyX h.x hR 21 0 pfuel (pheel S (pright S) 0) rfl (pfuel_gt (by decide)) (pheel_ne h.x hR 0)
    have e2 := ev_steadyM h.m hR' 21 0 pfuel (pheel T (pright T) 0) rfl (pfuel_gt (by decide))
    rw [show nI 0 = (0 : Int32) from rfl] at e1 e2
    rw [e1, e2, b_some, pheel_eq hb, pright_eq hb]
    exact pQ.r h _
  · rw [if_neg hR, if_neg hR, if_pos rfl, b_some]
    exact pQ.r h _
/-- a place -/
theorem pfn_in (f : Nat → Int32) (v : Int32) (k : Nat) : pfn f v k 0 = -1 ∨ ∃ i, i < k ∧ pfn f v k 0 = nI i ∧ f i = v := by
  rcases pfn_spec f v k 0 with ⟨h, -⟩ | ⟨i, -, h2, h3, h4⟩
  · exact Or.inl h
  · exact Or.inr ⟨i, by omega, h3, h4⟩
theorem eq_goods : pEq2 Rel f_X11_goods f_X12_goods := by
  intro S T h v1 v2
  have hb := h.b
  obtain ⟨k, hk, hk16⟩ := h.x.k
  have hk' : T.1 4 = nI k := by rw [hb.1.2.2.2.2]; exact hk
  show pQ _ _
  unfold f_X11_goods f_X12_goods
  refine pQ.bnds (ev_X11_isName S v1) (ev_X12_isName T v1) rfl (pQ.ite (fun _ => pQ.r h _) (fun h2 => ?_))
  refine pQ.bnds (ev_X1_placeOf S v1 hk hk16) (ev_X12_find T v1 hk' hk16) (by rw [hb.2.1.2.2.1]) ?_
  rcases pfn_in (S.2 2) v1 k with e | ⟨i, hi, e, -⟩
  · rw [e, if_neg (by decide), if_neg (by decide)]
    exact pQ.r h _
  · rw [e]
    have hp := pin_nI (show i < 16 by omega) (by decide : 16 < 2 ^ 31)
    refine pQ.ite (fun _ => ?_) (fun _ => pQ.r h _)
    refine pQ.ite (fun _ => ?_) (fun _ => pQ.ite (fun _ => ?_) (fun _ => pQ.ite (fun _ => ?_) (fun _ => pQ.ite (fun _ => ?_) (fun _ => pQ.ite (fun _ => ?_) (fun _ => pQ.ite (fun _ => ?_) (fun _ => pQ.ite (fun _ => ?_) (fun _ => ?_)))))))
    · exact pQ.gd hp hp (pQ.re h (by rw [hb.2.1.2.2.2.1]))
    · exact pQ.gd hp hp (pQ.re h (by rw [hb.2.1.2.2.2.2.1]))
    · exact pQ.gd hp hp (pQ.re h (by rw [hb.2.1.2.2.2.2.2.1]))
    · exact pQ.gd hp hp (pQ.re h (by rw [hb.2.1.2.2.2.2.2.2.1]))
    · exact pQ.gd hp hp (pQ.re h (by rw [hb.2.1.2.2.2.2.2.2.2]))
    · exact pQ.bnds (ev_X0_weighsAt S (by omega)) (ev_X12_weighs hb (by omega)) rfl (pQ.r h _)
    · rw [g_t hp, show (0 : Int32) = nI 0 from rfl, ev_X0_heelBehind h.x (by omega), b_some, ev_X12_isUpright h.m, b_some, nI_clamp (by omega)]
      dsimp only
      unfold pheelN
      rw [pright_eq hb]
      by_cases hR : 0 < pright S
      · have hR' : 0 < pright T := by rw [pright_eq hb]; exact hR
        rw [if_pos hR, if_pos hR, if_neg (by decide), ev_X12_heelNow h.m hR', b_some, ev_X11_rollsOf S _ (pit (pheel S (pright S)) 0 (pheel S (pright S) 0)) (pheel_ne h.x hR 0), b_some]
        dsimp only
        rw [ev_X12_rolls T (by omega), b_some, pheel_eq hb, pright_eq hb, hb.2.1.2.2.2.1]
        exact pQ.r h _
      · rw [if_neg hR, if_neg hR, if_pos (by decide)]
        exact pQ.r h _
    · exact pQ.r h _
