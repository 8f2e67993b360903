/-! THE PURE PART, O: film -/
theorem pAr_pAr (S : PS) (k : Nat) (f g : Nat → Int32) : pAr (pAr S k f) k g = pAr S k g := ps_ext rfl (fun j => by
  rw [pAr_2, pAr_2, pAr_2]
  by_cases h : j = k
  · rw [if_pos h, if_pos h]
  · rw [if_neg h, if_neg h, if_neg h])
theorem pAr_self (S : PS) (k : Nat) : pAr S k (S.2 k) = S := ps_ext rfl (fun j => by
  rw [pAr_2]
  by_cases h : j = k
  · rw [if_pos h, h]
  · rw [if_neg h])
/-- what is left when i are taken -/
def pwr (S : PS) : Nat → Int32
  | 0 => pallW S
  | i + 1 => pwr S i - pw S (pord S 0 i).toNatClampNeg
def pln (S : PS) (i : Nat) : Int32 := pstart S 0 (pwr S i)
theorem pwr_eq {S T : PS} (h : bE S T) : pwr T = pwr S := by
  funext i
  induction i with
  | zero => exact pallW_eq h
  | succ i ih => rw [pwr, pwr, ih, pord_eq h, pw_eq h]
theorem pln_eq {S T : PS} (h : bE S T) : pln T = pln S := by
  funext i
  unfold pln
  rw [pstart_eq h, pwr_eq h]
theorem bE.rf (S : PS) : bE S S := ⟨⟨rfl, rfl, rfl, rfl, rfl⟩, ⟨rfl, rfl, rfl, rfl, rfl, rfl, rfl, rfl⟩, rfl, rfl, rfl, rfl⟩
theorem bE.out {S T : PS} (h : bE S T) {c : Nat} (hc : 12 ≤ c) (f : Nat → Int32) : bE S (pAr T c f) := by
  unfold bE at h ⊢
  rw [pAr_1, pAr_out (by omega), pAr_out (by omega), pAr_out (by omega), pAr_out (by omega), pAr_out (by omega), pAr_out (by omega), pAr_out (by omega), pAr_out (by omega), pAr_out (by omega), pAr_out (by omega), pAr_out (by omega), pAr_out (by omega)]
  exact h
theorem bE.tr {S T U : PS} (h : bE S T) (h2 : bE T U) : bE S U := by
  obtain ⟨⟨a0, a1, a2, a3, a4⟩, ⟨b0, b1, b2, b3, b4, b5, b6, b7⟩, c0, c1, c2, c3⟩ := h
  obtain ⟨⟨d0, d1, d2, d3, d4⟩, ⟨e0, e1, e2, e3, e4, e5, e6, e7⟩, f0, f1, f2, f3⟩ := h2
  exact ⟨⟨d0.trans a0, d1.trans a1, d2.trans a2, d3.trans a3, d4.trans a4⟩, ⟨e0.trans b0, e1.trans b1, e2.trans b2, e3.trans b3, e4.trans b4, e5.trans b5, e6.trans b6, e7.trans b7⟩, f0.trans c0, f1.trans c1, f2.trans c2, f3.trans c3⟩
def pwl (line : Nat → Int32) (j k : Nat) (F : Nat → Int32) : Nat → Int32 := fun i => if j < i ∧ i ≤ k then line i else F i
theorem pwl_step (line : Nat → Int32) {j k : Nat} (h : j < k) (F : Nat → Int32) : pwl line (j + 1) k (upd F (j + 1) (line (j + 1))) = pwl line j k F := by
  funext i
  unfold pwl
  rw [upd_at]
  by_cases e : i = j + 1
  · rw [if_pos e, if_neg (by omega), if_pos (by omega), e]
  · rw [if_neg e]
    by_cases q : j + 1 < i ∧ i ≤ k
    · rw [if_pos q, if_pos (by omega)]
    · rw [if_neg q, if_neg (by omega)]
theorem pwl_end (line : Nat → Int32) (k : Nat) (F : Nat → Int32) : pwl line k k F = F := by
  funext i
  unfold pwl
  rw [if_neg (by omega)]
theorem ev_filmX {S Q : PS} (hb : bOK S.1 S.2) (hE : bE S Q) {k : Nat} (hk : S.1 4 = nI k) (hk16 : k ≤ 16) {r : Nat} (hr : r < 3) (ho : ∀ i, i < k → Q.2 30 i = pord S 0 i) : ∀ (m j fuel : Nat) (F : Nat → Int32), j + m = k → m < fuel → g_X3_writeLines_28 r fuel (pAr Q (25 + r) F) (pwr S j) (nI j) = some (.inr (pAr Q (25 + r) (pwl (pln S) j k F))) := by
  intro m
  induction m with
  | zero =>
    intro j fuel F hj hf
    obtain ⟨fuel, rfl⟩ : ∃ z, fuel = z + 1 := ⟨fuel - 1, by omega⟩
    rw [g_X3_writeLines_28, show (pAr Q (25 + r) F).1 4 = nI k from hE.1.2.2.2.2.trans hk, if_pos (nI_le (by omega) (by omega)), show j = k by omega, pwl_end]
  | succ m ih =>
    intro j fuel F hj hf
    obtain ⟨fuel, rfl⟩ : ∃ z, fuel = z + 1 := ⟨fuel - 1, by omega⟩
    have hEP : bE S (pAr Q (25 + r) F) := hE.out (c := 25 + r) (by omega) F
    obtain ⟨c, hc, hpc⟩ := pord_in hk hk16 0 (show j < k by omega)
    have e1 : pwr S j - pw S c = pwr S (j + 1) := by rw [pwr, hpc, nI_clamp (by omega)]
    rw [g_X3_writeLines_28, show (pAr Q (25 + r) F).1 4 = nI k from hE.1.2.2.2.2.trans hk, if_neg (nI_ge (by omega) (by omega)), g_t (pin_nI (show j < 16 by omega) (by decide)), nI_clamp (show j < 2 ^ 31 by omega), pAr_out (show ¬ 30 = 25 + r by omega), ho j (by omega), hpc, ev_X0_weighsAt _ (show c < 16 by omega), b_some]
    dsimp only
    rw [pw_eq hEP, e1, ev_X2_startOf (hEP.ok hb) rng0, b_some]
    dsimp only
    rw [pstart_eq hEP, nI_1, g_t (pin_nI (show j + 1 < 40 by omega) (by decide)), nI_clamp (show j + 1 < 2 ^ 31 by omega), pAr_pAr, ih (j + 1) fuel _ (by omega) (by omega), pAr_2, if_pos rfl, show pstart S 0 (pwr S (j + 1)) = pln S (j + 1) from rfl, pwl_step _ (by omega)]
/-- the model's lines -/
theorem ev_linesM {S : PS} (hb : bOK S.1 S.2) {k : Nat} (hk : S.1 4 = nI k) (hk16 : k ≤ 16) {n : Nat} (hn : n ≤ k + 1) {f : Nat → Int32} (ho : ∀ i, i < k → f i = pord S 0 i) : ∀ (m j fuel : Nat) (g : Nat → Int32) (w : Int32), j + m = n → m < fuel → (j < n → w = pwr S j) → (∀ i, i < j → g i = pln S i) → ∃ g', g_X12_layLines_12 fuel (pXO S f g) (nI n) w (nI j) = some (.inr (pXO S f g')) ∧ ∀ i, i < n → g' i = pln S i := by
  intro m
  induction m with
  | zero =>
    intro j fuel g w hj hf hw hg
    obtain ⟨fuel, rfl⟩ : ∃ z, fuel = z + 1 := ⟨fuel - 1, by omega⟩
    refine ⟨g, ?_, fun i hi => hg i (by omega)⟩
    rw [g_X12_layLines_12, if_pos (nI_le (by omega) (by omega))]
  | succ m ih =>
    intro j fuel g w hj hf hw hg
    obtain ⟨fuel, rfl⟩ : ∃ z, fuel = z + 1 := ⟨fuel - 1, by omega⟩
    have hE := pXO_E S f g
    have hg' : ∀ i, i < j + 1 → upd g j (pstart S 0 w) i = pln S i := by
      intro i hi
      rw [upd_at]
      by_cases e : i = j
      · rw [if_pos e, hw (by omega), e]; rfl
      · rw [if_neg e]; exact hg i (by omega)
    rw [g_X12_layLines_12, if_neg (nI_ge (by omega) (by omega)), ev_X12_lineFor (hE.ok hb), b_some]
    dsimp only
    rw [g_t (pin_nI (show j < 17 by omega) (by decide)), show (pXO S f g).1 4 = nI k from hk, nI_clamp (show j < 2 ^ 31 by omega), show (pXO S f g).2 31 = g from rfl, pXO_31, pstart_eq hE, show (pXO S f g).2 30 = f from rfl, nI_1]
    by_cases hj2 : k ≤ j
    · rw [if_pos (nI_le hj2 (by omega))]
      exact ih (j + 1) fuel _ w (by omega) (by omega) (fun q => by omega) hg'
    · obtain ⟨c, hc, hpc⟩ := pord_in hk hk16 0 (show j < k by omega)
      rw [if_neg (nI_ge (by omega) (by omega)), g_t (pin_nI (show j < 16 by omega) (by decide)), ho j (by omega), hpc, ev_X12_weighs0 _ (show c < 16 by omega), b_some]
      dsimp only
      refine ih (j + 1) fuel _ _ (by omega) (by omega) (fun q => ?_) hg'
      rw [pwr, hpc, nI_clamp (by omega), ← hw (by omega)]
      rfl
theorem ev_X12_layLines {S : PS} (hb : bOK S.1 S.2) {k : Nat} (hk : S.1 4 = nI k) (hk16 : k ≤ 16) {n : Nat} (hn : n ≤ k + 1) : ∃ f g, f_X12_layLines S (nI n) = some (0, pXO S f g) ∧ ∀ i, i < n → g i = pln S i := by
  unfold f_X12_layLines
  obtain ⟨f, e, ho⟩ := ev_X12_layRank hk hk16 (v := 0) (Or.inl rfl)
  have hE := pXO_E S f (S.2 31)
  obtain ⟨g', e2, hg⟩ := ev_linesM hb hk hk16 hn ho n 0 pfuel (S.2 31) (pallW S) (by omega) (pfuel_gt (by omega)) (fun _ => rfl) (fun i hi => by omega)
  have e2' : g_X12_layLines_12 pfuel (pXO S f (S.2 31)) (nI n) (pallW S) 0 = some (.inr (pXO S f g')) := e2
  rw [e, b_some]
  dsimp only
  rw [ev_X12_allWeight (S := pXO S f (S.2 31)) hk hk16, b_some]
  dsimp only
  rw [pallW_eq hE, e2', lp_r]
  exact ⟨f, g', rfl, hg⟩
def pwm (n : Nat) (g : Nat → Int32) (j : Nat) (F : Nat → Int32) : Nat → Int32 := fun i => if j ≤ i ∧ i < 40 then (if i < n then g i else 0) else F i
theorem ev_filmM (P : PS) {r : Nat} (hr : r < 3) {n : Nat} (hn : n ≤ 17) (g : Nat → Int32) (hg : P.2 31 = g) : ∀ (m j fuel : Nat) (F : Nat → Int32), j + m = 40 → m < fuel → g_X12_film_30 fuel (pAr P (25 + r) F) (nI r) (nI n) (nI j) = some (.inr (pAr P (25 + r) (pwm n g j F))) := by
  intro m
  induction m with
  | zero =>
    intro j fuel F hj hf
    obtain ⟨fuel, rfl⟩ : ∃ z, fuel = z + 1 := ⟨fuel - 1, by omega⟩
    obtain rfl : j = 40 := by omega
    have e : pwm n g 40 F = F := by
      funext i
      unfold pwm
      rw [if_neg (by omega)]
    rw [g_X12_film_30, if_pos (by decide), e]
  | succ m ih =>
    intro j fuel F hj hf
    obtain ⟨fuel, rfl⟩ : ∃ z, fuel = z + 1 := ⟨fuel - 1, by omega⟩
    have hst : ∀ x, x = (if j < n then g j else 0) → pwm n g (j + 1) (upd F j x) = pwm n g j F := by
      intro x hx
      funext i
      unfold pwm
      rw [upd_at]
      by_cases e : i = j
      · rw [if_pos e, if_neg (by omega), if_pos (by omega), e, hx]
      · rw [if_neg e]
        by_cases q : j + 1 ≤ i ∧ i < 40
        · rw [if_pos q, if_pos (show j ≤ i ∧ i < 40 by omega)]
        · rw [if_neg q, if_neg (show ¬ (j ≤ i ∧ i < 40) by omega)]
    rw [g_X12_film_30, if_neg (show ¬ (40 : Int32) ≤ nI j from nI_ge (a := j) (b := 40) (by omega) (by decide)), g_t (pin_nI hr (by decide)), nI_clamp (show r < 2 ^ 31 by omega), nI_clamp (show j < 2 ^ 31 by omega), pAr_2, if_pos rfl, pAr_pAr, pAr_pAr, pAr_out (show ¬ 31 = 25 + r by omega), hg, nI_1]
    by_cases hc : n ≤ j
    · rw [if_pos (nI_le hc (by omega)), g_t (pin_nI (show j < 40 by omega) (by decide)), ih (j + 1) fuel _ (by omega) (by omega), hst 0 (by rw [if_neg (by omega)])]
    · rw [if_neg (nI_ge (by omega) (by omega)), g_t (pin_nI (show j < 17 by omega) (by decide)), g_t (pin_nI (show j < 40 by omega) (by decide)), ih (j + 1) fuel _ (by omega) (by omega), hst (g j) (by rw [if_pos (by omega)])]
theorem pAr_at (S : PS) (k : Nat) (f : Nat → Int32) : (pAr S k f).2 k = f := if_pos rfl
theorem eq_film : pEq1 Rel f_X11_film f_X12_film := by
  intro S T h v
  have hb := h.b
  obtain ⟨k, hk, hk16⟩ := h.x.k
  have hk' : T.1 4 = nI k := by rw [hb.1.2.2.2.2]; exact hk
  show pQ _ _
  unfold f_X11_film f_X12_film
  refine pQ.bnds (ev_X11_isRow S v) (ev_X12_isRow T v) rfl (pQ.ite (fun _ => pQ.r h _) (fun h1 => ?_))
  obtain ⟨r, rfl, hr, -⟩ := pwi_nI (hi := 2) h1 rfl rfl
  have hv : rng (nI (k + 1)) (-1) 40 := (rng_nI (by omega)).mpr ⟨by omega, by omega⟩
  rw [hk, hk', nI_1, ev_X6_make S (by omega) hv, b_some]
  dsimp only
  rw [g_t (pin_nI (show r < 3 by omega) (by decide)), nI_clamp (show r < 2 ^ 31 by omega)]
  obtain ⟨fM, gM, eM, hgM⟩ := ev_X12_layLines h.m hk' hk16 (n := k + 1) (Nat.le_refl _)
  rw [eM, b_some]
  dsimp only
  rw [g_t (pin_nI (show r < 3 by omega) (by decide))]
  have hEX : bE S (pAr (pAr S 24 (upd (S.2 24) r (nI (k + 1)))) (25 + r) (pfil 40 0 (S.2 (25 + r)))) := ((bE.rf S).out (c := 24) (by decide) _).out (c := 25 + r) (by omega) _
  obtain ⟨f, g, eA, ho⟩ := ev_X4_arrange (S := pAr (pAr S 24 (upd (S.2 24) r (nI (k + 1)))) (25 + r) (pfil 40 0 (S.2 (25 + r)))) hk hk16 (v := 0) (by decide) (by decide)
  have hEQ := hEX.tr (pXO_E (pAr (pAr S 24 (upd (S.2 24) r (nI (k + 1)))) (25 + r) (pfil 40 0 (S.2 (25 + r)))) f g)
  have hl := ev_filmX h.x hEQ hk hk16 (show r < 3 by omega) (fun i hi => by rw [show (pXO (pAr (pAr S 24 (upd (S.2 24) r (nI (k + 1)))) (25 + r) (pfil 40 0 (S.2 (25 + r)))) f g).2 30 = f from rfl, ho i hi, pord_eq hEX]) k 0 pfuel (upd (pfil 40 0 (S.2 (25 + r))) 0 (pln S 0)) (by omega) (pfuel_gt (by omega))
  rw [show nI 0 = (0 : Int32) from rfl] at hl
  unfold f_X3_writeLines
  rw [eA, b_some]
  dsimp only
  rw [ev_X0_allWeight (S := pXO (pAr (pAr S 24 (upd (S.2 24) r (nI (k + 1)))) (25 + r) (pfil 40 0 (S.2 (25 + r)))) f g) hk hk16, b_some]
  dsimp only
  rw [ev_X2_startOf (hEQ.ok h.x) rng0, b_some]
  dsimp only
  have e25 : (pXO (pAr (pAr S 24 (upd (S.2 24) r (nI (k + 1)))) (25 + r) (pfil 40 0 (S.2 (25 + r)))) f g).2 (25 + r) = pfil 40 0 (S.2 (25 + r)) := by
    rw [pXO_at _ _ _ (by omega) (by omega), pAr_2, if_pos rfl]
  rw [pstart_eq hEQ, pallW_eq hEQ, e25, show pstart S 0 (pallW S) = pln S 0 from rfl, show pallW S = pwr S 0 from rfl, hl, lp_r]
  rw [b_some]
  dsimp only
  have eF := ev_filmM (pAr (pXO T fM gM) 24 (upd ((pXO T fM gM).2 24) r (nI (k + 1)))) (show r < 3 by omega) (show k + 1 ≤ 17 by omega) gM rfl 40 0 pfuel ((pAr (pXO T fM gM) 24 (upd ((pXO T fM gM).2 24) r (nI (k + 1)))).2 (25 + r)) rfl (pfuel_gt (by decide))
  rw [pAr_self, show nI 0 = (0 : Int32) from rfl] at eF
  rw [eF, lp_r]
  refine pQ.r ?_ _
  refine h.rows ⟨fun k hk => rfl, fun c hc => ?_⟩ ⟨fun k hk => rfl, fun c hc => ?_⟩ (fun c h1 h2 => ?_) (fun q hq => ?_)
  · rw [pAr_out (by omega), pXO_at _ _ _ (by omega) (by omega), pAr_out (by omega), pAr_out (by omega)]
  · rw [pAr_out (by omega), pAr_out (by omega), pXO_at _ _ _ (by omega) (by omega)]
  · by_cases e : c = 25 + r
    · rw [e, pAr_at, pAr_at, pAr_out (by omega), pXO_at _ _ _ (by omega) (by omega), h.rowE (25 + r) (by omega) (by omega)]
      funext i
      unfold pwm pwl
      rw [upd_at]
      unfold pfil
      by_cases hi0 : i = 0
      · rw [if_pos (by omega), if_pos (by omega), if_neg (by omega), if_pos hi0, hgM i (by omega), pln_eq hb, hi0]
      · by_cases hik : i ≤ k
        · rw [if_pos (by omega), if_pos (by omega), if_pos (by omega), hgM i (by omega), pln_eq hb]
        · by_cases hi4 : i < 40
          · rw [if_pos (by omega), if_neg (by omega), if_neg (by omega), if_neg hi0, if_pos hi4]
          · rw [if_neg (by omega), if_neg (by omega), if_neg hi0, if_neg hi4]
    · rw [pAr_out e, pAr_out e, pXO_at (pAr (pAr S 24 _) _ _) _ _ (by omega) (by omega), pAr_out e, pAr_2, pAr_2]
      by_cases e2 : c = 24
      · rw [if_pos e2, if_pos e2, pXO_at _ _ _ (by omega) (by omega), h.rowE 24 (by omega) (by omega)]
      · rw [if_neg e2, if_neg e2, pXO_at _ _ _ (by omega) (by omega), h.rowE c h1 h2]
  · rw [pAr_out (by omega), pXO_at _ _ _ (by omega) (by omega), pAr_out (by omega), pAr_2, if_pos rfl, upd_at]
    by_cases e : q = r
    · rw [if_pos e]; exact hv
    · rw [if_neg e]; exact h.rowR q hq
