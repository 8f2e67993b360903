/-! THE PURE PART, T: order -/
def btm (S : PS) (s : Int32) (c : Nat) : Int := (pabs (s + pw S c * S.2 6 c)).toInt
def bl (S : PS) (s : Int32) (a b : Nat) : Prop := btm S s a < btm S s b ∨ (btm S s a = btm S s b ∧ ((pw S b).toInt < (pw S a).toInt ∨ ((pw S a).toInt = (pw S b).toInt ∧ a < b)))
def isMin (S : PS) (s : Int32) (R : Nat → Prop) (c : Nat) : Prop := R c ∧ ∀ d, R d → ¬ bl S s d c
theorem isMin_one {S : PS} {s : Int32} {R : Nat → Prop} {c d : Nat} (h : isMin S s R c) (h' : isMin S s R d) : c = d := by
  have q1 := h.2 d h'.1
  have q2 := h'.2 c h.1
  unfold bl at q1 q2
  omega
def bsm (S : PS) (f : Nat → Int32) : Nat → Int32
  | 0 => 0
  | j + 1 => bsm S f j + pw S (f j).toNatClampNeg * S.2 6 (f j).toNatClampNeg
def bRem (k : Nat) (f : Nat → Int32) (j : Nat) (c : Nat) : Prop := c < k ∧ ∀ i, i < j → ¬ f i = nI c
theorem bsm_congr (S : PS) {f g : Nat → Int32} {j : Nat} (h : ∀ i, i < j → f i = g i) : bsm S f j = bsm S g j := by
  induction j with
  | zero => rw [bsm, bsm]
  | succ j ih => rw [bsm, bsm, ih (fun i hi => h i (by omega)), h j (by omega)]
def bSq (S : PS) (k : Nat) (f : Nat → Int32) (j : Nat) : Prop := ∃ c, f j = nI c ∧ isMin S (bsm S f j) (bRem k f j) c
theorem bSq_congr {S : PS} {k : Nat} {f g : Nat → Int32} {j : Nat} (h : ∀ i, i ≤ j → f i = g i) (hq : bSq S k f j) : bSq S k g j := by
  obtain ⟨c, h1, h2, h3⟩ := hq
  refine ⟨c, by rw [← h j (Nat.le_refl j)]; exact h1, ⟨h2.1, fun i hi => by rw [← h i (by omega)]; exact h2.2 i hi⟩, fun d hd => ?_⟩
  rw [← bsm_congr S (fun i hi => h i (by omega))]
  exact h3 d ⟨hd.1, fun i hi => by rw [h i (by omega)]; exact hd.2 i hi⟩
theorem ev_comesAhead {S P : PS} (hE : bE S P) (s : Int32) {a b : Nat} (ha : a < 16) (hb : b < 16) : (f_X4_comesAhead P s (nI a) (nI b) = some (0, P) ∧ ¬ bl S s a b) ∨ (f_X4_comesAhead P s (nI a) (nI b) = some (1, P) ∧ bl S s a b) := by
  have e6 : P.2 6 = S.2 6 := hcE hE (by decide) (by decide)
  unfold f_X4_comesAhead bl btm
  rw [ev_X0_weighsAt P ha, b_some]
  dsimp only
  rw [ev_X0_weighsAt P hb, b_some, g_t (pin_nI ha (by decide)), g_t (pin_nI hb (by decide)), nI_clamp (show a < 2 ^ 31 by omega), nI_clamp (show b < 2 ^ 31 by omega), pw_eq hE, pw_eq hE, e6]
  dsimp only
  by_cases h1 : pabs (s + pw S a * S.2 6 a) = pabs (s + pw S b * S.2 6 b)
  · rw [if_pos h1, h1]
    by_cases h2 : pw S a = pw S b
    · rw [if_pos h2, h2]
      by_cases h3 : b ≤ a
      · rw [if_pos (nI_le h3 (by omega))]
        exact Or.inl ⟨rfl, by omega⟩
      · rw [if_neg (nI_ge (by omega) (by omega))]
        exact Or.inr ⟨rfl, by omega⟩
    · rw [if_neg h2]
      have h2' : ¬ (pw S a).toInt = (pw S b).toInt := fun q => h2 (tinj q)
      by_cases h3 : pw S a ≤ pw S b
      · rw [if_pos h3]
        have := tle.mp h3
        exact Or.inl ⟨rfl, by omega⟩
      · rw [if_neg h3]
        have : ¬ (pw S a).toInt ≤ (pw S b).toInt := fun q => h3 (tle.mpr q)
        exact Or.inr ⟨rfl, by omega⟩
  · rw [if_neg h1]
    have h1' : ¬ (pabs (s + pw S a * S.2 6 a)).toInt = (pabs (s + pw S b * S.2 6 b)).toInt := fun q => h1 (tinj q)
    by_cases h3 : pabs (s + pw S b * S.2 6 b) ≤ pabs (s + pw S a * S.2 6 a)
    · rw [if_pos h3]
      have := tle.mp h3
      exact Or.inl ⟨rfl, by omega⟩
    · rw [if_neg h3]
      have : ¬ (pabs (s + pw S b * S.2 6 b)).toInt ≤ (pabs (s + pw S a * S.2 6 a)).toInt := fun q => h3 (tle.mpr q)
      exact Or.inr ⟨rfl, by omega⟩
theorem bl_keep {S : PS} {s : Int32} {a b c : Nat} (h1 : bl S s a b) (h2 : ¬ bl S s c b) : ¬ bl S s c a := by
  unfold bl at h1 h2 ⊢
  omega
theorem ev_balIn {S : PS} {k : Nat} (hk : S.1 4 = nI k) (hk16 : k ≤ 16) (s : Int32) (v3 : Int32) {f g : Nat → Int32} (hf : ∀ i, i < k → ∃ c, c < k ∧ f i = nI c) {j : Nat} : ∀ (m i fuel p : Nat), i + m = k → m < fuel → j ≤ p → p < i → (∀ i', j ≤ i' → i' < i → ¬ bl S s (f i').toNatClampNeg (f p).toNatClampNeg) → ∃ p', g_X4_balance_23 fuel (pXO S f g) s v3 (nI p) (nI i) = some (.inr (pXO S f g, nI p')) ∧ j ≤ p' ∧ p' < k ∧ ∀ i', j ≤ i' → i' < k → ¬ bl S s (f i').toNatClampNeg (f p').toNatClampNeg := by
  intro m
  induction m with
  | zero =>
    intro i fuel p hi hfu hjp hpi h
    obtain ⟨fuel, rfl⟩ : ∃ z, fuel = z + 1 := ⟨fuel - 1, by omega⟩
    refine ⟨p, ?_, hjp, by omega, fun i' h1 h2 => h i' h1 (by omega)⟩
    rw [g_X4_balance_23, show (pXO S f g).1 4 = nI k from hk, if_pos (nI_le (by omega) (by omega))]
  | succ m ih =>
    intro i fuel p hi hfu hjp hpi h
    obtain ⟨fuel, rfl⟩ : ∃ z, fuel = z + 1 := ⟨fuel - 1, by omega⟩
    obtain ⟨a, ha, hfa⟩ := hf i (by omega)
    obtain ⟨b, hb, hfb⟩ := hf p (by omega)
    rw [g_X4_balance_23, show (pXO S f g).1 4 = nI k from hk, if_neg (nI_ge (by omega) (by omega)), g_t (pin_nI (show i < 16 by omega) (by decide)), g_t (pin_nI (show p < 16 by omega) (by decide)), nI_clamp (show i < 2 ^ 31 by omega), nI_clamp (show p < 2 ^ 31 by omega), show (pXO S f g).2 30 = f from rfl, hfa, hfb, nI_1]
    rw [hfb, nI_clamp (show b < 2 ^ 31 by omega)] at h
    rcases ev_comesAhead (pXO_E S f g) s (show a < 16 by omega) (show b < 16 by omega) with ⟨e, hn⟩ | ⟨e, hy⟩
    · rw [e, b_some, if_pos rfl]
      refine ih (i + 1) fuel p (by omega) (by omega) hjp (by omega) (fun i' h1 h2 => ?_)
      rw [hfb, nI_clamp (show b < 2 ^ 31 by omega)]
      by_cases ei : i' = i
      · rw [ei, hfa, nI_clamp (show a < 2 ^ 31 by omega)]; exact hn
      · exact h i' h1 (by omega)
    · rw [e, b_some]
      dsimp only
      rw [if_neg (show ¬ (1 : Int32) = 0 by decide)]
      refine ih (i + 1) fuel i (by omega) (by omega) (by omega) (by omega) (fun i' h1 h2 => ?_)
      rw [hfa, nI_clamp (show a < 2 ^ 31 by omega)]
      by_cases ei : i' = i
      · rw [ei, hfa, nI_clamp (show a < 2 ^ 31 by omega)]
        unfold bl
        omega
      · exact bl_keep hy (h i' h1 (by omega))
def bPerm (k : Nat) (f : Nat → Int32) : Prop := (∀ i, i < k → ∃ c, c < k ∧ f i = nI c) ∧ (∀ c, c < k → ∃ i, i < k ∧ f i = nI c) ∧ ∀ i i', i < k → i' < k → f i = f i' → i = i'
theorem bPerm_swap {k : Nat} {f : Nat → Int32} (h : bPerm k f) {j p : Nat} (hj : j < k) (hp : p < k) : bPerm k (upd (upd f p (f j)) j (f p)) := by
  obtain ⟨h1, h2, h3⟩ := h
  have hv : ∀ i, upd (upd f p (f j)) j (f p) i = f (if i = j then p else if i = p then j else i) := by
    intro i
    rw [upd_at, upd_at]
    by_cases e1 : i = j
    · rw [if_pos e1, if_pos e1]
    · rw [if_neg e1, if_neg e1]
      by_cases e2 : i = p
      · rw [if_pos e2, if_pos e2]
      · rw [if_neg e2, if_neg e2]
  have hs : ∀ i, i < k → (if i = j then p else if i = p then j else i) < k := by
    intro i hi
    by_cases e1 : i = j
    · rw [if_pos e1]; exact hp
    · rw [if_neg e1]
      by_cases e2 : i = p
      · rw [if_pos e2]; exact hj
      · rw [if_neg e2]; exact hi
  have hss : ∀ i, (if (if i = j then p else if i = p then j else i) = j then p else if (if i = j then p else if i = p then j else i) = p then j else (if i = j then p else if i = p then j else i)) = i := by
    intro i
    by_cases e1 : i = j
    · rw [if_pos e1]
      by_cases e3 : p = j
      · rw [if_pos e3]; omega
      · rw [if_neg e3, if_pos rfl]; omega
    · rw [if_neg e1]
      by_cases e2 : i = p
      · rw [if_pos e2, if_pos rfl]; omega
      · rw [if_neg e2, if_neg e1, if_neg e2]
  refine ⟨fun i hi => by rw [hv]; exact h1 _ (hs i hi), fun c hc => ?_, fun i i' hi hi' e => ?_⟩
  · obtain ⟨i, hi, e⟩ := h2 c hc
    exact ⟨_, hs i hi, by rw [hv, hss]; exact e⟩
  · rw [hv, hv] at e
    have := h3 _ _ (hs i hi) (hs i' hi') e
    rw [← hss i, this, hss i']
theorem ev_bal {S : PS} {k : Nat} (hk : S.1 4 = nI k) (hk16 : k ≤ 16) (g : Nat → Int32) : ∀ (m j fuel : Nat) (f : Nat → Int32), j + m = k → m < fuel → bPerm k f → (∀ i, i < j → bSq S k f i) → ∃ f', g_X4_balance_4 fuel (pXO S f g) (bsm S f j) (nI j) = some (.inr (pXO S f' g)) ∧ ∀ i, i < k → bSq S k f' i := by
  intro m
  induction m with
  | zero =>
    intro j fuel f hj hf hp h
    obtain ⟨fuel, rfl⟩ : ∃ z, fuel = z + 1 := ⟨fuel - 1, by omega⟩
    refine ⟨f, ?_, fun i hi => h i (by omega)⟩
    rw [g_X4_balance_4, show (pXO S f g).1 4 = nI k from hk, if_pos (nI_le (by omega) (by omega))]
  | succ m ih =>
    intro j fuel f hj hf hp h
    obtain ⟨fuel, rfl⟩ : ∃ z, fuel = z + 1 := ⟨fuel - 1, by omega⟩
    obtain ⟨p, e, hjp, hpk, hmin⟩ := ev_balIn hk hk16 (bsm S f j) (nI j) (g := g) hp.1 (j := j) (k - 1 - j) (j + 1) pfuel j (by omega) (pfuel_gt (by omega)) (Nat.le_refl j) (by omega) (fun i' h1 h2 => by
      rw [show i' = j by omega]
      unfold bl
      omega)
    obtain ⟨c, hc, hfc⟩ := hp.1 p hpk
    have hpin := pin_nI (show p < 16 by omega) (by decide : 16 < 2 ^ 31)
    have hjin := pin_nI (show j < 16 by omega) (by decide : 16 < 2 ^ 31)
    have hsw := bPerm_swap hp (show j < k by omega) hpk
    have hpre : ∀ i, i < j → upd (upd f p (f j)) j (f p) i = f i := fun i hi => by rw [upd_at, if_neg (by omega), upd_at, if_neg (by omega)]
    have hjat : upd (upd f p (f j)) j (f p) j = nI c := by rw [upd_at, if_pos rfl]; exact hfc
    have hsq : ∀ i, i < j + 1 → bSq S k (upd (upd f p (f j)) j (f p)) i := by
      intro i hi
      by_cases ei : i = j
      · rw [ei]
        refine ⟨c, hjat, ⟨hc, fun i' hi' q => ?_⟩, fun d hd => ?_⟩
        · have := hsw.2.2 i' j (by omega) (by omega) (by rw [q, hjat])
          omega
        · obtain ⟨i2, hi2, e2⟩ := hp.2.1 d hd.1
          have hge : j ≤ i2 := by
            by_cases q : j ≤ i2
            · exact q
            · exact absurd (by rw [hpre i2 (by omega)]; exact e2) (hd.2 i2 (by omega))
          have hdk : d < k := hd.1
          have := hmin i2 hge hi2
          rw [e2, hfc, nI_clamp (by omega), nI_clamp (by omega)] at this
          rw [bsm_congr S hpre]
          exact this
      · exact bSq_congr (fun i' hi' => (hpre i' (by omega)).symm) (h i (by omega))
    have hs1 : bsm S (upd (upd f p (f j)) j (f p)) (j + 1) = bsm S f j + pw S c * S.2 6 c := by
      rw [bsm, bsm_congr S hpre, hjat, nI_clamp (by omega)]
    obtain ⟨f', e', hq⟩ := ih (j + 1) fuel _ (by omega) (by omega) hsw hsq
    refine ⟨f', ?_, hq⟩
    rw [g_X4_balance_4, show (pXO S f g).1 4 = nI k from hk, if_neg (nI_ge (by omega) (by omega)), nI_1, e, lq_r]
    dsimp only
    rw [show (pXO S f g).2 30 = f from rfl, nI_clamp (show p < 2 ^ 31 by omega), nI_clamp (show j < 2 ^ 31 by omega), g_t hpin, g_t hjin, g_t hpin, g_t hjin, pXO_30, pXO_30, hfc, ev_X0_weighsAt _ (show c < 16 by omega), b_some]
    dsimp only
    rw [g_t (pin_nI (show c < 16 by omega) (by decide)), nI_clamp (show c < 2 ^ 31 by omega), ← e', hs1, hfc]
    rfl
