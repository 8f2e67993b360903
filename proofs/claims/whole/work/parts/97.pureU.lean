/-! THE PURE PART, U: order, the model -/
theorem ev_ranked {P : PS} {f : Nat → Int32} (hf : P.2 30 = f) (c : Nat) {j : Nat} (hj : j ≤ 16) : ∀ (m i fuel : Nat), i + m = j → m < fuel → (∀ i', i' < i → ¬ f i' = nI c) → ((plp (g_X12_isRanked_2 fuel P (nI c) (nI j) (nI i)) (fun S' => some ((0 : Int32), S')) = some (0, P) ∧ ∀ i', i' < j → ¬ f i' = nI c) ∨ (plp (g_X12_isRanked_2 fuel P (nI c) (nI j) (nI i)) (fun S' => some ((0 : Int32), S')) = some (1, P) ∧ ¬ ∀ i', i' < j → ¬ f i' = nI c)) := by
  intro m
  induction m with
  | zero =>
    intro i fuel hi hfu h
    obtain ⟨fuel, rfl⟩ : ∃ z, fuel = z + 1 := ⟨fuel - 1, by omega⟩
    refine Or.inl ⟨?_, fun i' hi' => h i' (by omega)⟩
    rw [g_X12_isRanked_2, if_pos (nI_le (by omega) (by omega))]
    rfl
  | succ m ih =>
    intro i fuel hi hfu h
    obtain ⟨fuel, rfl⟩ : ∃ z, fuel = z + 1 := ⟨fuel - 1, by omega⟩
    rw [g_X12_isRanked_2, if_neg (nI_ge (by omega) (by omega)), g_t (pin_nI (show i < 16 by omega) (by decide)), nI_clamp (show i < 2 ^ 31 by omega), hf, nI_1]
    by_cases q : f i = nI c
    · rw [if_pos q]
      exact Or.inr ⟨rfl, fun hx => hx i (by omega) q⟩
    · rw [if_neg q]
      refine ih (i + 1) fuel (by omega) (by omega) (fun i' hi' => ?_)
      by_cases e : i' = i
      · rw [e]; exact q
      · exact h i' (by omega)
theorem ev_X12_isRanked {P : PS} {f : Nat → Int32} (hf : P.2 30 = f) (c : Nat) {j : Nat} (hj : j ≤ 16) : (f_X12_isRanked P (nI c) (nI j) = some (0, P) ∧ ∀ i', i' < j → ¬ f i' = nI c) ∨ (f_X12_isRanked P (nI c) (nI j) = some (1, P) ∧ ¬ ∀ i', i' < j → ¬ f i' = nI c) :=
  ev_ranked hf c hj j 0 pfuel (by omega) (pfuel_gt (by omega)) (fun i' hi' => by omega)
theorem ev_X12_isLighter {S P : PS} (hE : bE S P) (s : Int32) {a b : Nat} (ha : a < 16) (hb : b < a) : (f_X12_isLighter P (s + pw S a * S.2 6 a) (nI a) (s + pw S b * S.2 6 b) (nI b) = some (0, P) ∧ ¬ bl S s a b) ∨ (f_X12_isLighter P (s + pw S a * S.2 6 a) (nI a) (s + pw S b * S.2 6 b) (nI b) = some (1, P) ∧ bl S s a b) := by
  unfold f_X12_isLighter bl btm
  by_cases h1 : pabs (s + pw S a * S.2 6 a) = pabs (s + pw S b * S.2 6 b)
  · rw [if_pos h1, h1, ev_X12_weighs hE ha, b_some]
    dsimp only
    rw [ev_X12_weighs hE (show b < 16 by omega), b_some]
    dsimp only
    by_cases h3 : pw S a ≤ pw S b
    · rw [if_pos h3]
      have := tle.mp h3
      exact Or.inl ⟨rfl, by omega⟩
    · rw [if_neg h3]
      have : ¬ (pw S a).toInt ≤ (pw S b).toInt := fun q => h3 (tle.mpr q)
      exact Or.inr ⟨rfl, by omega⟩
  · rw [if_neg h1]
    have h1' : ¬ (pabs (s + pw S a * S.2 6 a)).toInt = (pabs (s + pw S b * S.2 6 b)).toInt := fun q => h1 (tinj q)
    by_cases h3 : pabs (s + pw S b * S.2 6 b) ≤ pabs (s + pw S a * S.2 6 a)
    · rw [if_pos h3]
      have := tle.mp h3
      exact Or.inl ⟨rfl, by omega⟩
    · rw [if_neg h3]
      have : ¬ (pabs (s + pw S b * S.2 6 b)).toInt ≤ (pabs (s + pw S a * S.2 6 a)).toInt := fun q => h3 (tle.mpr q)
      exact Or.inr ⟨rfl, by omega⟩
def bBest (S : PS) (s : Int32) (R : Nat → Prop) (d : Nat) (b : Int32) : Prop := (b = -1 ∧ ∀ c, c < d → ¬ R c) ∨ ∃ c, c < d ∧ b = nI c ∧ isMin S s (fun x => x < d ∧ R x) c
theorem ev_layIn {S P : PS} (hE : bE S P) {k : Nat} (hk : S.1 4 = nI k) (hk16 : k ≤ 16) (s : Int32) {f : Nat → Int32} (hf : P.2 30 = f) {j : Nat} (hj : j < k) : ∀ (m d fuel : Nat) (b : Int32), d + m = k → m < fuel → bBest S s (fun c => ∀ i, i < j → ¬ f i = nI c) d b → ∃ b', g_X12_layBalanced_17 fuel P s (nI j) b (nI d) = some (.inr (P, b')) ∧ bBest S s (fun c => ∀ i, i < j → ¬ f i = nI c) k b' := by
  have e6 : P.2 6 = S.2 6 := hcE hE (by decide) (by decide)
  intro m
  induction m with
  | zero =>
    intro d fuel b hd hfu h
    obtain ⟨fuel, rfl⟩ : ∃ z, fuel = z + 1 := ⟨fuel - 1, by omega⟩
    obtain rfl : d = k := by omega
    refine ⟨b, ?_, h⟩
    rw [g_X12_layBalanced_17, show P.1 4 = nI d from hE.1.2.2.2.2.trans hk, if_pos (nI_le (by omega) (by omega))]
  | succ m ih =>
    intro d fuel b hd hfu h
    obtain ⟨fuel, rfl⟩ : ∃ z, fuel = z + 1 := ⟨fuel - 1, by omega⟩
    rw [g_X12_layBalanced_17, show P.1 4 = nI k from hE.1.2.2.2.2.trans hk, if_neg (nI_ge (by omega) (by omega)), nI_1]
    rcases ev_X12_isRanked hf d (show j ≤ 16 by omega) with ⟨e, hno⟩ | ⟨e, hyes⟩
    · rw [e, b_some]
      dsimp only
      rw [if_pos rfl]
      rcases h with ⟨hb, hnone⟩ | ⟨c, hc, hb, hmin⟩
      · rw [hb, if_pos (by decide)]
        refine ih (d + 1) fuel _ (by omega) (by omega) (Or.inr ⟨d, by omega, rfl, ⟨by omega, hno⟩, fun x hx => ?_⟩)
        have hxd : x = d := by
          by_cases q : x = d
          · exact q
          · exact absurd hx.2 (hnone x (by have := hx.1; omega))
        rw [hxd]
        unfold bl
        omega
      · rw [hb, if_neg (nI_pos (by omega)), ev_X12_weighs hE (show d < 16 by omega), b_some]
        dsimp only
        rw [g_t (pin_nI (show d < 16 by omega) (by decide)), ev_X12_weighs hE (show c < 16 by omega), b_some]
        dsimp only
        rw [g_t (pin_nI (show c < 16 by omega) (by decide)), nI_clamp (show d < 2 ^ 31 by omega), nI_clamp (show c < 2 ^ 31 by omega), e6]
        rcases ev_X12_isLighter hE s (show d < 16 by omega) hc with ⟨e2, hn⟩ | ⟨e2, hy⟩
        · rw [e2, b_some]
          dsimp only
          rw [if_pos rfl]
          refine ih (d + 1) fuel _ (by omega) (by omega) (Or.inr ⟨c, by omega, rfl, ⟨by omega, hmin.1.2⟩, fun x hx => ?_⟩)
          by_cases q : x = d
          · rw [q]; exact hn
          · exact hmin.2 x ⟨by have := hx.1; omega, hx.2⟩
        · rw [e2, b_some]
          dsimp only
          rw [if_neg (show ¬ (1 : Int32) = 0 by decide)]
          refine ih (d + 1) fuel _ (by omega) (by omega) (Or.inr ⟨d, by omega, rfl, ⟨by omega, hno⟩, fun x hx => ?_⟩)
          by_cases q : x = d
          · rw [q]; unfold bl; omega
          · exact bl_keep hy (hmin.2 x ⟨by have := hx.1; omega, hx.2⟩)
    · rw [e, b_some]
      dsimp only
      rw [if_neg (show ¬ (1 : Int32) = 0 by decide)]
      refine ih (d + 1) fuel _ (by omega) (by omega) ?_
      rcases h with ⟨hb, hnone⟩ | ⟨c, hc, hb, hmin⟩
      · refine Or.inl ⟨hb, fun x hx => ?_⟩
        by_cases q : x = d
        · rw [q]; exact hyes
        · exact hnone x (by omega)
      · refine Or.inr ⟨c, by omega, hb, ⟨by omega, hmin.1.2⟩, fun x hx => ?_⟩
        by_cases q : x = d
        · rw [q] at hx; exact absurd hx.2 hyes
        · exact hmin.2 x ⟨by have := hx.1; omega, hx.2⟩
theorem ev_lay {S T : PS} (hE : bE S T) {k : Nat} (hk : S.1 4 = nI k) (hk16 : k ≤ 16) (g : Nat → Int32) {F : Nat → Int32} (hF : ∀ i, i < k → bSq S k F i) : ∀ (m j fuel : Nat) (f : Nat → Int32), j + m = k → m < fuel → (∀ i, i < j → f i = F i) → ∃ f', g_X12_layBalanced_4 fuel (pXO T f g) (bsm S F j) (nI j) = some (.inr (pXO T f' g)) ∧ ∀ i, i < k → f' i = F i := by
  intro m
  induction m with
  | zero =>
    intro j fuel f hj hf h
    obtain ⟨fuel, rfl⟩ : ∃ z, fuel = z + 1 := ⟨fuel - 1, by omega⟩
    refine ⟨f, ?_, fun i hi => h i (by omega)⟩
    rw [g_X12_layBalanced_4, show (pXO T f g).1 4 = nI k from hE.1.2.2.2.2.trans hk, if_pos (nI_le (by omega) (by omega))]
  | succ m ih =>
    intro j fuel f hj hf h
    obtain ⟨fuel, rfl⟩ : ∃ z, fuel = z + 1 := ⟨fuel - 1, by omega⟩
    have hEQ := hE.tr (pXO_E T f g)
    obtain ⟨b, e, hb⟩ := ev_layIn hEQ hk hk16 (bsm S F j) (f := f) rfl (show j < k by omega) k 0 pfuel (-1) (by omega) (pfuel_gt (by omega)) (Or.inl ⟨rfl, fun c hc => by omega⟩)
    have e' : g_X12_layBalanced_17 pfuel (pXO T f g) (bsm S F j) (nI j) (-1) 0 = some (.inr (pXO T f g, b)) := e
    obtain ⟨c, hFc, hmin⟩ := hF j (by omega)
    have hck : c < k := hmin.1.1
    have hbc : b = nI c := by
      rcases hb with ⟨-, hnone⟩ | ⟨d, hd, hbd, hdm⟩
      · exact absurd (fun i hi => by rw [h i hi]; exact hmin.1.2 i hi) (hnone c hck)
      · have : d = c := isMin_one (S := S) (s := bsm S F j) (R := bRem k F j) ⟨⟨hd, fun i hi => by rw [← h i hi]; exact hdm.1.2 i hi⟩, fun x hx => hdm.2 x ⟨hx.1, fun i hi => by rw [h i hi]; exact hx.2 i hi⟩⟩ hmin
        rw [hbd, this]
    have hs1 : bsm S F (j + 1) = bsm S F j + pw S c * S.2 6 c := by rw [bsm, hFc, nI_clamp (by omega)]
    obtain ⟨f', e2, h2⟩ := ih (j + 1) fuel (upd f j (nI c)) (by omega) (by omega) (fun i hi => by
      rw [upd_at]
      by_cases q : i = j
      · rw [if_pos q, q, hFc]
      · rw [if_neg q]; exact h i (by omega))
    refine ⟨f', ?_, h2⟩
    have hE2 := hE.tr (pXO_E T (upd f j (nI c)) g)
    rw [g_X12_layBalanced_4, show (pXO T f g).1 4 = nI k from hE.1.2.2.2.2.trans hk, if_neg (nI_ge (by omega) (by omega)), e', lq_r, nI_1, hbc]
    dsimp only
    rw [g_t (pin_nI (show j < 16 by omega) (by decide)), nI_clamp (show j < 2 ^ 31 by omega), show (pXO T f g).2 30 = f from rfl, pXO_30, ev_X12_weighs hE2 (show c < 16 by omega), b_some]
    dsimp only
    rw [g_t (pin_nI (show c < 16 by omega) (by decide)), nI_clamp (show c < 2 ^ 31 by omega), hcE hE2 (c := 6) (by decide) (by decide), ← hs1]
    exact e2
/-- any order -/
theorem ev_order {S T : PS} (hE : bE S T) {k : Nat} (hk : S.1 4 = nI k) (hk16 : k ≤ 16) {v : Int32} (hv : rng v 0 3) : ∃ f g f' g', f_X4_arrange S v = some (0, pXO S f g) ∧ f_X12_layRank T v = some (0, pXO T f' g') ∧ ∀ i, i < k → f' i = f i ∧ ∃ c, c < k ∧ f i = nI c := by
  have hk' : T.1 4 = nI k := hE.1.2.2.2.2.trans hk
  obtain ⟨x, rfl, -, hx, -⟩ := rngN hv (by decide)
  have hx' : x = 0 ∨ x = 1 ∨ x = 2 ∨ x = 3 := by omega
  have hs : ∀ w : Int32, (w = 0 ∨ w = 1) → ∃ f g f' g', f_X4_arrange S w = some (0, pXO S f g) ∧ f_X12_layRank T w = some (0, pXO T f' g') ∧ ∀ i, i < k → f' i = f i ∧ ∃ c, c < k ∧ f i = nI c := by
    intro w hw
    obtain ⟨f, g, e1, h1⟩ := ev_X4_arrange hk hk16 (v := w) (by rcases hw with rfl | rfl <;> decide) (by rcases hw with rfl | rfl <;> decide)
    obtain ⟨f', e2, h2⟩ := ev_X12_layRank hk' hk16 hw
    exact ⟨f, g, f', _, e1, e2, fun i hi => ⟨by rw [h2 i hi, h1 i hi, pord_eq hE], by rw [h1 i hi]; exact pord_in hk hk16 w hi⟩⟩
  have h2 : ∀ w : Int32, 2 ≤ w → ∃ f', g_X12_layRank_2 pfuel T w 0 = some (.inr (pXO T f' (T.2 31))) ∧ ∀ i, i < k → f' i = nI i := by
    intro w hw
    obtain ⟨f', e, h⟩ := ev_rank2 hk' hk16 hw (T.2 31) k 0 pfuel (T.2 30) (by omega) (pfuel_gt (by omega)) (fun i hi => by omega)
    rw [pXO_self] at e
    exact ⟨f', e, h⟩
  rcases hx' with rfl | rfl | rfl | rfl
  · exact hs _ (Or.inl rfl)
  · exact hs _ (Or.inr rfl)
  · obtain ⟨f, g, e1, h1⟩ := ev_X4_arrange2 hk hk16
    obtain ⟨f', e2, h2'⟩ := h2 2 (by decide)
    refine ⟨f, g, f', T.2 31, e1, ?_, fun i hi => ⟨by rw [h1 i hi, h2' i hi], i, hi, h1 i hi⟩⟩
    show f_X12_layRank T 2 = _
    unfold f_X12_layRank
    rw [e2, lp_r, if_neg (by decide)]
  · obtain ⟨fa, ea, ha⟩ := ev_arr0 hk hk16 3 (S.2 31) k 0 pfuel (S.2 30) (by omega) (pfuel_gt (by omega)) (fun i hi => by omega)
    rw [pXO_self] at ea
    have ea' : g_X4_arrange_2 pfuel S 3 0 = some (.inr (pXO S fa (S.2 31))) := ea
    obtain ⟨F, eb, hF⟩ := ev_bal hk hk16 (S.2 31) k 0 pfuel fa (by omega) (pfuel_gt (by omega)) ⟨fun i hi => ⟨i, hi, ha i hi⟩, fun c hc => ⟨c, hc, ha c hc⟩, fun i i' hi hi' e => by
      rw [ha i hi, ha i' hi'] at e
      exact (nI_eq (by omega) (by omega)).mp e⟩ (fun i hi => by omega)
    have eb' : g_X4_balance_4 pfuel (pXO S fa (S.2 31)) 0 0 = some (.inr (pXO S F (S.2 31))) := by
      rw [bsm] at eb
      exact eb
    obtain ⟨fb, ec, -⟩ := h2 3 (by decide)
    obtain ⟨f', ed, hd⟩ := ev_lay hE hk hk16 (T.2 31) hF k 0 pfuel fb (by omega) (pfuel_gt (by omega)) (fun i hi => by omega)
    have ed' : g_X12_layBalanced_4 pfuel (pXO T fb (T.2 31)) 0 0 = some (.inr (pXO T f' (T.2 31))) := by
      rw [bsm] at ed
      exact ed
    refine ⟨F, S.2 31, f', T.2 31, ?_, ?_, fun i hi => ⟨hd i hi, ?_⟩⟩
    · show f_X4_arrange S 3 = _
      unfold f_X4_arrange f_X4_balance
      rw [ea', lp_r, if_pos rfl, eb', lp_r, b_some]
    · show f_X12_layRank T 3 = _
      unfold f_X12_layRank f_X12_layBalanced
      rw [ec, lp_r, if_pos rfl, ed', lp_r, b_some]
    · obtain ⟨c, h1, h2⟩ := hF i hi
      exact ⟨c, h2.1.1, h1⟩
theorem eq_order : pEq2 Rel f_X11_order f_X12_order := by
  intro S T h v1 v2
  have hb := h.b
  obtain ⟨k, hk, hk16⟩ := h.x.k
  show pQ _ _
  unfold f_X11_order f_X12_order
  refine pQ.bnds (ev_X11_isWithin S v1 0 3) (ev_X12_in T v1 0 3) rfl (pQ.ite (fun _ => pQ.r h _) (fun g1 => ?_))
  refine pQ.ite (fun g2 => ?_) (fun _ => pQ.r h _)
  rw [hb.1.2.2.2.2]
  refine pQ.ite (fun g3 => ?_) (fun _ => pQ.r h _)
  obtain ⟨f, g, f', g', e1, e2, h3⟩ := ev_order hb hk hk16 (v := v1) (pwi_rng g1 rfl rfl)
  obtain ⟨i, hi, rfl⟩ := nI_of (fun q => absurd g2 (Int32.not_le.mpr q))
  rw [hk] at g3
  have hik : i < k := (nI_ltI hi (by omega)).mp g3
  obtain ⟨q1, c, hc, q2⟩ := h3 i hik
  have hR : Rel (pXO S f g) (pXO T f' g') := h.same (pXO_same S f g) (pXO_sameM T f' g')
  have hpi := pin_nI (show i < 16 by omega) (by decide : 16 < 2 ^ 31)
  have hpc := pin_nI (show c < 16 by omega) (by decide : 16 < 2 ^ 31)
  rw [e1, e2, b_some, b_some]
  dsimp only
  rw [g_t hpi, g_t hpi, nI_clamp (by omega), show (pXO S f g).2 30 = f from rfl, show (pXO T f' g').2 30 = f' from rfl, q1, q2, g_t hpc, g_t hpc]
  exact pQ.re hR (by rw [hcE hR.b (c := 2) (by decide) (by decide)])
