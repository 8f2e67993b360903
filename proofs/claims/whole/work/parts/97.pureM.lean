/-! THE PURE PART, M: change -/
def chv (S : PS) (o : Int32) (j l : Nat) : Int32 := pabs (o - 64 * ((2 * (S.2 5 l - S.2 5 j)) * (pw S j - pw S l)))
def chi (S : PS) (o : Int32) (j : Nat) : Nat → Nat → Int32 × Option (Nat × Nat) → Int32 × Option (Nat × Nat)
  | 0, _, w => w
  | m + 1, l, w => chi S o j m (l + 1) (if w.1 ≤ chv S o j l then w else (chv S o j l, some (j, l)))
def cho (S : PS) (o : Int32) (k : Nat) : Nat → Nat → Int32 × Option (Nat × Nat) → Int32 × Option (Nat × Nat)
  | 0, _, w => w
  | m + 1, j, w => cho S o k m (j + 1) (chi S o j (k - 1 - j) (j + 1) w)
def pZ (S : PS) (a b : Int32) : PS := pI (pI S 17 a) 18 b
theorem pZ_self (S : PS) : pZ S (S.1 17) (S.1 18) = S := by
  have e : (pZ S (S.1 17) (S.1 18)).1 = S.1 := by
    funext j
    unfold pZ
    simp only [pI_1]
    by_cases h : j = 18
    · rw [if_pos h, h]
    · rw [if_neg h]
      by_cases h : j = 17
      · rw [if_pos h, h]
      · rw [if_neg h]
  exact ps_ext e (fun k => rfl)
theorem pZ_again (S : PS) (a b a' b' : Int32) : pI (pI (pZ S a b) 17 a') 18 b' = pZ S a' b' := by
  have e : (pI (pI (pZ S a b) 17 a') 18 b').1 = (pZ S a' b').1 := by
    funext j
    unfold pZ
    simp only [pI_1]
    by_cases h : j = 18
    · simp only [if_pos h]
    · simp only [if_neg h]
      by_cases h1 : j = 17
      · simp only [if_pos h1]
      · simp only [if_neg h1]
  exact ps_ext e (fun k => rfl)
def chf (w : Int32 × Option (Nat × Nat)) : Int32 := match w.2 with
  | none => 0
  | some _ => 1
def chg (k : Nat) (w : Int32 × Option (Nat × Nat)) (a b : Int32) : Prop := match w.2 with
  | none => True
  | some p => a = nI p.1 ∧ b = nI p.2 ∧ p.1 < k ∧ p.2 < k
theorem ev_X7_alongGained (S : PS) {j l : Nat} (hj : j < 16) (hl : l < 16) : f_X7_alongGained S (nI j) (nI l) = some ((2 * (S.2 5 l - S.2 5 j)) * (pw S j - pw S l), S) := by
  unfold f_X7_alongGained
  rw [g_t (pin_nI hl (by decide)), g_t (pin_nI hj (by decide)), ev_X0_weighsAt S hj, b_some]
  dsimp only
  rw [ev_X0_weighsAt S hl, b_some, nI_clamp (show j < 2 ^ 31 by omega), nI_clamp (show l < 2 ^ 31 by omega)]
theorem ev_changeIn {S : PS} {k : Nat} (hk : S.1 4 = nI k) (hk16 : k ≤ 16) (o : Int32) {j : Nat} (hj : j < k) : ∀ (m l fuel : Nat) (w : Int32 × Option (Nat × Nat)) (a b : Int32), l + m = k → m < fuel → chg k w a b → ∃ a' b', g_X7_find_43 fuel (pZ S a b) o w.1 (chf w) (nI j) (nI l) = some (.inr (pZ S a' b', (chi S o j m l w).1, chf (chi S o j m l w))) ∧ chg k (chi S o j m l w) a' b' := by
  intro m
  induction m with
  | zero =>
    intro l fuel w a b hl hf hg
    obtain ⟨fuel, rfl⟩ : ∃ z, fuel = z + 1 := ⟨fuel - 1, by omega⟩
    refine ⟨a, b, ?_, hg⟩
    rw [g_X7_find_43, show (pZ S a b).1 4 = nI k from hk, if_pos (nI_le (by omega) (by omega))]
    rfl
  | succ m ih =>
    intro l fuel w a b hl hf hg
    obtain ⟨fuel, rfl⟩ : ∃ z, fuel = z + 1 := ⟨fuel - 1, by omega⟩
    rw [g_X7_find_43, show (pZ S a b).1 4 = nI k from hk, if_neg (nI_ge (by omega) (by omega)), ev_X7_alongGained _ (by omega) (by omega), b_some]
    dsimp only
    rw [show pabs (o - 64 * ((2 * ((pZ S a b).2 5 l - (pZ S a b).2 5 j)) * (pw (pZ S a b) j - pw (pZ S a b) l))) = chv S o j l from rfl, pZ_again, nI_1, chi]
    by_cases hc : w.1 ≤ chv S o j l
    · rw [if_pos hc, if_pos hc]
      exact ih (l + 1) fuel w a b (by omega) (by omega) hg
    · rw [if_neg hc, if_neg hc]
      exact ih (l + 1) fuel (chv S o j l, some (j, l)) (nI j) (nI l) (by omega) (by omega) ⟨rfl, rfl, hj, by omega⟩
theorem ev_changeOut {S : PS} {k : Nat} (hk : S.1 4 = nI k) (hk16 : k ≤ 16) (o : Int32) : ∀ (m j fuel : Nat) (w : Int32 × Option (Nat × Nat)) (a b : Int32), j + m = k → m < fuel → chg k w a b → ∃ a' b', g_X7_find_25 fuel (pZ S a b) o w.1 (chf w) (nI j) = some (.inr (pZ S a' b', chf (cho S o k m j w))) ∧ chg k (cho S o k m j w) a' b' := by
  intro m
  induction m with
  | zero =>
    intro j fuel w a b hj hf hg
    obtain ⟨fuel, rfl⟩ : ∃ z, fuel = z + 1 := ⟨fuel - 1, by omega⟩
    refine ⟨a, b, ?_, hg⟩
    rw [g_X7_find_25, show (pZ S a b).1 4 = nI k from hk, if_pos (nI_le (by omega) (by omega))]
    rfl
  | succ m ih =>
    intro j fuel w a b hj hf hg
    obtain ⟨fuel, rfl⟩ : ∃ z, fuel = z + 1 := ⟨fuel - 1, by omega⟩
    obtain ⟨a1, b1, e, hg1⟩ := ev_changeIn hk hk16 o (show j < k by omega) (k - 1 - j) (j + 1) pfuel w a b (by omega) (pfuel_gt (by omega)) hg
    rw [g_X7_find_25, show (pZ S a b).1 4 = nI k from hk, if_neg (nI_ge (by omega) (by omega)), nI_1, e, lq_r]
    exact ih (j + 1) fuel _ a1 b1 (by omega) (by omega) hg1
def chn (S : PS) (v : Int32) (w : Int32 × Option (Nat × Nat)) : Int32 := match w.2 with
  | none => -2
  | some p => if v = 0 then S.2 2 p.1 else S.2 2 p.2
theorem ev_changeInM {S : PS} {k : Nat} (hk : S.1 4 = nI k) (hk16 : k ≤ 16) (o v : Int32) {j : Nat} (hj : j < k) : ∀ (m l fuel : Nat) (w : Int32 × Option (Nat × Nat)), l + m = k → m < fuel → g_X12_change_61 fuel S v o w.1 (chn S v w) (nI j) (nI l) = some (.inr (S, (chi S o j m l w).1, chn S v (chi S o j m l w))) := by
  intro m
  induction m with
  | zero =>
    intro l fuel w hl hf
    obtain ⟨fuel, rfl⟩ : ∃ z, fuel = z + 1 := ⟨fuel - 1, by omega⟩
    rw [g_X12_change_61, hk, if_pos (nI_le (by omega) (by omega))]
    rfl
  | succ m ih =>
    intro l fuel w hl hf
    obtain ⟨fuel, rfl⟩ : ∃ z, fuel = z + 1 := ⟨fuel - 1, by omega⟩
    have e : (2 * (pw S j - pw S l)) * (S.2 5 l - S.2 5 j) = (2 * (S.2 5 l - S.2 5 j)) * (pw S j - pw S l) := by
      rw [Int32.mul_assoc, Int32.mul_assoc, Int32.mul_comm (pw S j - pw S l)]
    rw [g_X12_change_61, hk, if_neg (nI_ge (by omega) (by omega)), ev_X12_weighs0 S (by omega), b_some]
    dsimp only
    rw [ev_X12_weighs0 S (by omega), b_some]
    dsimp only
    rw [g_t (pin_nI (show l < 16 by omega) (by decide)), g_t (pin_nI (show j < 16 by omega) (by decide)), g_t (pin_nI (show j < 16 by omega) (by decide)), g_t (pin_nI (show l < 16 by omega) (by decide)), nI_clamp (show j < 2 ^ 31 by omega), nI_clamp (show l < 2 ^ 31 by omega), e, show pabs (o - 64 * ((2 * (S.2 5 l - S.2 5 j)) * (pw S j - pw S l))) = chv S o j l from rfl, nI_1, chi]
    by_cases hc : w.1 ≤ chv S o j l
    · rw [if_neg (Int32.not_lt.mpr hc), if_pos hc]
      exact ih (l + 1) fuel w (by omega) (by omega)
    · rw [if_pos (Int32.not_le.mp hc), if_neg hc]
      have h := ih (l + 1) fuel (chv S o j l, some (j, l)) (by omega) (by omega)
      by_cases hv : v = 0
      · rw [if_pos hv]
        rw [show chn S v (chv S o j l, some (j, l)) = S.2 2 j from if_pos hv] at h
        exact h
      · rw [if_neg hv]
        rw [show chn S v (chv S o j l, some (j, l)) = S.2 2 l from if_neg hv] at h
        exact h
theorem ev_changeOutM {S : PS} {k : Nat} (hk : S.1 4 = nI k) (hk16 : k ≤ 16) (o v : Int32) : ∀ (m j fuel : Nat) (w : Int32 × Option (Nat × Nat)), j + m = k → m < fuel → g_X12_change_46 fuel S v o w.1 (chn S v w) (nI j) = some (.inr (S, chn S v (cho S o k m j w))) := by
  intro m
  induction m with
  | zero =>
    intro j fuel w hj hf
    obtain ⟨fuel, rfl⟩ : ∃ z, fuel = z + 1 := ⟨fuel - 1, by omega⟩
    rw [g_X12_change_46, hk, if_pos (nI_le (by omega) (by omega))]
    rfl
  | succ m ih =>
    intro j fuel w hj hf
    obtain ⟨fuel, rfl⟩ : ∃ z, fuel = z + 1 := ⟨fuel - 1, by omega⟩
    rw [g_X12_change_46, hk, if_neg (nI_ge (by omega) (by omega)), nI_1, ev_changeInM hk hk16 o v (show j < k by omega) (k - 1 - j) (j + 1) pfuel w (by omega) (pfuel_gt (by omega)), lq_r]
    exact ih (j + 1) fuel _ (by omega) (by omega)
theorem chv_eq {S T : PS} (h : bE S T) : chv T = chv S := by
  funext o j l
  unfold chv
  rw [pw_eq h, pw_eq h, h.2.1.2.2.2.2.2.1]
theorem chi_eq {S T : PS} (h : bE S T) (o : Int32) (j : Nat) : ∀ m l w, chi T o j m l w = chi S o j m l w := by
  intro m
  induction m with
  | zero => intro l w; rfl
  | succ m ih => intro l w; rw [chi, chi, chv_eq h, ih]
theorem cho_eq {S T : PS} (h : bE S T) (o : Int32) (k : Nat) : ∀ m j w, cho T o k m j w = cho S o k m j w := by
  intro m
  induction m with
  | zero => intro j w; rfl
  | succ m ih => intro j w; rw [cho, cho, chi_eq h, ih]
theorem eq_change : pEq1 Rel f_X11_change f_X12_change := by
  intro S T h v
  have hb := h.b
  obtain ⟨k, hk, hk16⟩ := h.x.k
  have hk' : T.1 4 = nI k := by rw [hb.1.2.2.2.2]; exact hk
  show pQ _ _
  unfold f_X11_change f_X12_change f_X7_find
  refine pQ.bnds (ev_X11_isWithin S v 0 1) (ev_X12_in T v 0 1) rfl (pQ.ite (fun _ => pQ.r h _) (fun h2 => ?_))
  rw [ev_X0_offOf h.x rng0, b_some, ev_X12_restOf h.m rng0, b_some]
  dsimp only
  rw [pstart_eq hb, pallW_eq hb]
  by_cases hl : pstart S 0 (pallW S) = -2
  · rw [if_pos ((poff_ne h.x).mpr hl), if_pos hl, b_some, if_pos rfl]
    exact pQ.r h _
  · rw [if_neg (fun q => hl ((poff_ne h.x).mp q)), if_neg hl, ev_X12_offBy h.m, b_some]
    dsimp only
    have eo : pP T 0 (pstart S 0 (pallW S)) - 64 * palong T = poff S 0 := by
      unfold poff
      rw [if_neg hl, pP_eq hb, palong_eq hb]
    rw [eo]
    have hM := ev_changeOutM hk' hk16 (poff S 0) v k 0 pfuel (pabs (poff S 0), none) (by omega) (pfuel_gt (by omega))
    obtain ⟨a', b', eX, hg⟩ := ev_changeOut hk hk16 (poff S 0) k 0 pfuel (pabs (poff S 0), none) (S.1 17) (S.1 18) (by omega) (pfuel_gt (by omega)) trivial
    rw [pZ_self] at eX
    rw [cho_eq hb] at hM
    have hM' : g_X12_change_46 pfuel T v (poff S 0) (pabs (poff S 0)) (-2) 0 = some (.inr (T, chn T v (cho S (poff S 0) k k 0 (pabs (poff S 0), none)))) := hM
    have eX' : g_X7_find_25 pfuel S (poff S 0) (pabs (poff S 0)) 0 0 = some (.inr (pZ S a' b', chf (cho S (poff S 0) k k 0 (pabs (poff S 0), none)))) := eX
    rw [eX', hM', lp_r, lp_r]
    generalize cho S (poff S 0) k k 0 (pabs (poff S 0), none) = w at hg ⊢
    have hR : Rel (pZ S a' b') T := h.same ⟨fun j hj => by unfold pZ; rw [pI_out (by omega), pI_out (by omega)], fun j hj => rfl⟩ (sameM.rf T)
    obtain ⟨w1, w2⟩ := w
    cases w2 with
    | none =>
      dsimp only
      rw [show chf (w1, none) = 0 from rfl, g_t (by decide), b_some, if_pos rfl]
      exact pQ.r hR _
    | some p =>
      obtain ⟨g1, g2, g3, g4⟩ := hg
      dsimp only
      rw [show chf (w1, some p) = 1 from rfl, g_t (by decide), b_some, if_neg (show ¬ (1 : Int32) = 0 by decide), show (pZ S a' b').1 17 = a' from rfl, show (pZ S a' b').1 18 = b' from rfl, g1, g2, nI_clamp (by omega), nI_clamp (by omega), g_t (pin_nI (show p.1 < 16 by omega) (by decide)), g_t (pin_nI (show p.2 < 16 by omega) (by decide))]
      rw [show chn T v (w1, some p) = if v = 0 then T.2 2 p.1 else T.2 2 p.2 from rfl, hb.2.1.2.2.1]
      by_cases hv : v = 0
      · rw [if_pos hv, if_pos hv]; rw [← g1, ← g2]; exact pQ.r hR _
      · rw [if_neg hv, if_neg hv]; rw [← g1, ← g2]; exact pQ.r hR _
