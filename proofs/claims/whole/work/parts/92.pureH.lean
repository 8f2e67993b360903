/-! THE PURE PART, H: hull, rows, tape, image -/
def pfr (j n : Nat) (v : Int32) (f : Nat → Int32) : Nat → Int32 := fun i => if j ≤ i ∧ i < n then v else f i
theorem pfr_upd {j n : Nat} (h : j < n) (v : Int32) (f : Nat → Int32) : pfr (j + 1) n v (upd f j v) = pfr j n v f := by
  funext i
  unfold pfr
  rw [upd_at]
  by_cases h1 : i = j
  · rw [if_pos h1, if_pos (show j ≤ i ∧ i < n by omega)]
    by_cases h2 : j + 1 ≤ i ∧ i < n
    · rw [if_pos h2]
    · rw [if_neg h2]
  · rw [if_neg h1]
    by_cases h2 : j + 1 ≤ i ∧ i < n
    · rw [if_pos h2, if_pos (by omega)]
    · rw [if_neg h2, if_neg (by omega)]
theorem pfr_end (n : Nat) (v : Int32) (f : Nat → Int32) : pfr n n v f = f := by
  funext i
  unfold pfr
  rw [if_neg (by omega)]
theorem pfr_0 (n : Nat) (v : Int32) (f : Nat → Int32) : pfr 0 n v f = pfil n v f := by
  funext i
  unfold pfr pfil
  by_cases h : i < n
  · rw [if_pos h, if_pos (by omega)]
  · rw [if_neg h, if_neg (by omega)]
def pV2 (T : PS) (j : Nat) : PS := (T.1, fun k => if k = 0 then pfr j 10 10 (T.2 0) else if k = 1 then pfr j 10 0 (T.2 1) else T.2 k)
def pV4 (T : PS) (j : Nat) : PS := (T.1, fun k => if k = 8 then pfr j 4 0 (T.2 8) else if k = 9 then pfr j 4 0 (T.2 9) else if k = 10 then pfr j 4 0 (T.2 10) else if k = 11 then pfr j 4 0 (T.2 11) else T.2 k)
theorem ps_ext {S T : PS} (h1 : S.1 = T.1) (h2 : ∀ k, S.2 k = T.2 k) : S = T := by
  cases S; cases T
  simp only at h1 h2
  rw [h1, funext h2]
theorem ev_anew1 : ∀ (m j fuel : Nat) (T : PS) (v : Int32), j + m = 10 → m < fuel → g_X12_anew_29 fuel T (nI j) = some (.inr (pV2 T j)) := by
  intro m
  induction m with
  | zero =>
    intro j fuel T v hj hf
    obtain ⟨fuel, rfl⟩ : ∃ z, fuel = z + 1 := ⟨fuel - 1, by omega⟩
    obtain rfl : j = 10 := by omega
    rw [g_X12_anew_29, if_pos (by decide)]
    have e : pV2 T 10 = T := ps_ext rfl (fun k => by
      unfold pV2
      by_cases h0 : k = 0
      · rw [h0]; exact pfr_end _ _ _
      · by_cases h1 : k = 1
        · rw [h1]; exact pfr_end _ _ _
        · show (if k = 0 then _ else if k = 1 then _ else _) = _
          rw [if_neg h0, if_neg h1])
    rw [e]
  | succ m ih =>
    intro j fuel T v hj hf
    obtain ⟨fuel, rfl⟩ : ∃ z, fuel = z + 1 := ⟨fuel - 1, by omega⟩
    have hp := pin_nI (show j < 10 by omega) (by decide : 10 < 2 ^ 31)
    rw [g_X12_anew_29, if_neg (show ¬ (10 : Int32) ≤ nI j from nI_ge (a := j) (b := 10) (by omega) (by decide)), g_t hp, g_t hp, nI_clamp (by omega), nI_1, ih (j + 1) fuel _ v (by omega) (by omega)]
    have e : pV2 (pAr (pAr T 0 (upd (T.2 0) j 10)) 1 (upd (T.2 1) j 0)) (j + 1) = pV2 T j := ps_ext rfl (fun k => by
      unfold pV2
      by_cases h0 : k = 0
      · rw [h0]; exact pfr_upd (by omega) _ _
      · by_cases h1 : k = 1
        · rw [h1]; exact pfr_upd (by omega) _ _
        · show (if k = 0 then _ else if k = 1 then _ else _) = (if k = 0 then _ else if k = 1 then _ else _)
          rw [if_neg h0, if_neg h1, if_neg h0, if_neg h1, pAr_out h1, pAr_out h0])
    rw [e]
theorem ev_anew2 : ∀ (m j fuel : Nat) (T : PS), j + m = 4 → m < fuel → g_X12_anew_58 fuel T (nI j) = some (.inr (pV4 T j)) := by
  intro m
  induction m with
  | zero =>
    intro j fuel T hj hf
    obtain ⟨fuel, rfl⟩ : ∃ z, fuel = z + 1 := ⟨fuel - 1, by omega⟩
    obtain rfl : j = 4 := by omega
    rw [g_X12_anew_58, if_pos (by decide)]
    have e : pV4 T 4 = T := ps_ext rfl (fun k => by
      unfold pV4
      by_cases h0 : k = 8
      · rw [h0]; exact pfr_end _ _ _
      · by_cases h1 : k = 9
        · rw [h1]; exact pfr_end _ _ _
        · by_cases h2 : k = 10
          · rw [h2]; exact pfr_end _ _ _
          · by_cases h3 : k = 11
            · rw [h3]; exact pfr_end _ _ _
            · show (if k = 8 then _ else if k = 9 then _ else if k = 10 then _ else if k = 11 then _ else _) = _
              rw [if_neg h0, if_neg h1, if_neg h2, if_neg h3])
    rw [e]
  | succ m ih =>
    intro j fuel T hj hf
    obtain ⟨fuel, rfl⟩ : ∃ z, fuel = z + 1 := ⟨fuel - 1, by omega⟩
    have hp := pin_nI (show j < 4 by omega) (by decide : 4 < 2 ^ 31)
    rw [g_X12_anew_58, if_neg (n4_neg (by omega)), g_t hp, g_t hp, g_t hp, g_t hp, nI_clamp (by omega), nI_1, ih (j + 1) fuel _ (by omega) (by omega)]
    have e : pV4 (pAr (pAr (pAr (pAr T 8 (upd (T.2 8) j 0)) 9 (upd (T.2 9) j 0)) 10 (upd (T.2 10) j 0)) 11 (upd (T.2 11) j 0)) (j + 1) = pV4 T j := ps_ext rfl (fun k => by
      unfold pV4
      by_cases h0 : k = 8
      · rw [h0]; exact pfr_upd (by omega) _ _
      · by_cases h1 : k = 9
        · rw [h1]; exact pfr_upd (by omega) _ _
        · by_cases h2 : k = 10
          · rw [h2]; exact pfr_upd (by omega) _ _
          · by_cases h3 : k = 11
            · rw [h3]; exact pfr_upd (by omega) _ _
            · show (if k = 8 then _ else if k = 9 then _ else if k = 10 then _ else if k = 11 then _ else _) = (if k = 8 then _ else if k = 9 then _ else if k = 10 then _ else if k = 11 then _ else _)
              rw [if_neg h0, if_neg h1, if_neg h2, if_neg h3, if_neg h0, if_neg h1, if_neg h2, if_neg h3, pAr_out h3, pAr_out h2, pAr_out h1, pAr_out h0])
    rw [e]
theorem pheld2 {v : Int32} (h : rng v 2 10) : pmax 2 (pmin v 10) = v := by
  apply tinj
  rw [tmax, tmin]
  obtain ⟨h1, h2⟩ := h
  show max 2 (min v.toInt 10) = v.toInt
  omega
theorem eq_hull : pEq1 Rel f_X11_hull f_X12_hull := by
  intro S T h v
  have hb := h.b
  show pQ _ _
  unfold f_X11_hull f_X12_hull
  refine pQ.bnds (ev_X11_isWithin S v 2 10) (ev_X12_in T v 2 10) rfl (pQ.ite (fun _ => pQ.r h _) (fun h2 => ?_))
  have hr : rng v 2 10 := pwi_rng h2 rfl rfl
  unfold f_X0_makeAsAtFirst f_X2_makeAsAtFirst f_X8_empty f_X11_held f_X12_anew
  rw [show (0 : Int32) = nI 0 from rfl, ev_anew1 10 0 pfuel _ v rfl (pfuel_gt (by decide)), lp_r]
  rw [ev_anew2 4 0 pfuel _ rfl (pfuel_gt (by decide)), lp_r, pheld2 hr]
  simp only [b_some]
  refine pQ.re ?_ hb.1.1
  refine h.boat ⟨fun j h1 h2 => ?_, fun j h1 h2 => ?_⟩ ⟨fun j h1 h2 => ?_, fun j h1 h2 => ?_⟩ ?_ ?_
  · simp only [pAr_1, pI_1]
    rw [if_neg (by omega), if_neg (by omega), if_neg (by omega), if_neg (by omega), if_neg (by omega)]
  · simp only [pAr_2, pI_2]
    rw [if_neg (by omega), if_neg (by omega), if_neg (by omega), if_neg (by omega), if_neg (by omega), if_neg (by omega)]
  · simp only [pV4, pV2, pI_1]
    rw [if_neg (by omega), if_neg (by omega), if_neg (by omega), if_neg (by omega), if_neg (by omega)]
  · simp only [pV4, pV2, pI_2]
    rw [if_neg (by omega), if_neg (by omega), if_neg (by omega), if_neg (by omega), if_neg (by omega), if_neg (by omega)]
  · obtain ⟨h0, ⟨a0, a1, a2, a3, a4, a5, a6, a7⟩, a8, a9, a10, a11⟩ := hb
    refine ⟨⟨rfl, rfl, rfl, rfl, rfl⟩, ⟨?_, ?_, a2, a3, a4, a5, a6, a7⟩, ?_, ?_, ?_, ?_⟩
    · show pfr 0 10 10 (T.2 0) = pfil 10 10 (S.2 0)
      rw [pfr_0, a0]
    · show pfr 0 10 0 (T.2 1) = pfil 10 0 (S.2 1)
      rw [pfr_0, a1]
    · show pfr 0 4 0 (T.2 8) = pfil 4 0 (S.2 8)
      rw [pfr_0, a8]
    · show pfr 0 4 0 (T.2 9) = pfil 4 0 (S.2 9)
      rw [pfr_0, a9]
    · show pfr 0 4 0 (T.2 10) = pfil 4 0 (S.2 10)
      rw [pfr_0, a10]
    · show pfr 0 4 0 (T.2 11) = pfil 4 0 (S.2 11)
      rw [pfr_0, a11]
  · refine ⟨hr, (by unfold rng; decide : rng (20 : Int32) 1 60), (by unfold rng; decide : rng (100 : Int32) 1 9999), (by unfold rng; decide : rng (0 : Int32) 0 1), (by unfold rng; decide : rng (0 : Int32) 0 16), fun j hj => ?_, fun j hj => ?_, fun j k hjk hk => ?_, fun t ht => ?_⟩
    · show rng (pfil 10 10 (S.2 0) j) 1 40 ∧ rng (pfil 10 0 (S.2 1) j) 0 30
      unfold pfil
      rw [if_pos hj, if_pos hj]
      unfold rng; decide
    · have hj' : (j : Int) < (0 : Int32).toInt := hj
      rw [show (0 : Int32).toInt = 0 from rfl] at hj'
      omega
    · have hj' : (k : Int) < (0 : Int32).toInt := hk
      rw [show (0 : Int32).toInt = 0 from rfl] at hj'
      omega
    · show rng (pfil 4 0 (S.2 8) t) 0 9 ∧ rng (pfil 4 0 (S.2 9) t) 0 20 ∧ rng (pfil 4 0 (S.2 10) t) 0 999 ∧ rng (pfil 4 0 (S.2 11) t) 0 999 ∧ (pfil 4 0 (S.2 9) t = 0 → pfil 4 0 (S.2 11) t = 0)
      unfold pfil
      simp only [if_pos ht]
      unfold rng; decide
/-- rows -/
theorem Rel.rows {S T S' T' : PS} (h : Rel S T) (hX : (∀ k, k ≤ 11 → S'.1 k = S.1 k) ∧ (∀ k, (k < 24 ∨ k = 28) → S'.2 k = S.2 k)) (hM : (∀ k, k ≤ 11 → T'.1 k = T.1 k) ∧ (∀ k, (k < 24 ∨ k = 28 ∨ k = 29) → T'.2 k = T.2 k)) (he : ∀ k, 24 ≤ k → k ≤ 27 → T'.2 k = S'.2 k) (hr : ∀ r, r < 3 → rng (S'.2 24 r) (-1) 40) : Rel S' T' := by
  obtain ⟨⟨h1, h2⟩, ⟨⟨h3, h4⟩, h5, h6, h7⟩, ⟨⟨h8, h9, h10, h11⟩, h12⟩, ⟨h13, h14⟩, h15, h16⟩ := h
  refine ⟨⟨h1.congr ⟨fun k hk => hX.1 k (by omega), fun k hk => hX.2 k (by omega)⟩ ⟨fun k hk => hM.1 k (by omega), fun k hk => hM.2 k (by omega)⟩, bOK_congr (fun k hk => hX.1 k (by omega)) (fun k hk => hX.2 k (by omega)) h2⟩, ⟨⟨?_, ?_⟩, fun k hk => ?_, fun k hk => ?_, fun q => ?_⟩, ⟨⟨he 24 (by decide) (by decide), he 25 (by decide) (by decide), he 26 (by decide) (by decide), he 27 (by decide) (by decide)⟩, hr⟩, ⟨?_, ?_⟩, ?_, ?_⟩
  · rw [hX.1 10 (by decide), hM.1 10 (by decide)]; exact h3
  · rw [hX.1 10 (by decide)]; exact h4
  · rw [hX.1 (5 + k) (by omega), hM.2 29 (by decide)]; exact h5 k hk
  · rw [hX.2 (12 + k) (by omega), hM.2 (12 + k) (by omega)]; exact h6 k hk
  · rw [hX.1 10 (by decide)] at q
    exact bOK_congr (fun k hk => hX.1 (5 + k) (by omega)) (fun k hk => hX.2 (12 + k) (by omega)) (h7 q)
  · rw [hX.1 11 (by decide), hM.1 11 (by decide)]; exact h13
  · rw [hX.2 28 (by decide), hM.2 28 (by decide)]; exact h14
  · rw [hX.1 11 (by decide)]; exact h15
  · rw [hX.1 11 (by decide), hX.2 28 (by decide)]; exact h16
theorem Rel.rowE {S T : PS} (h : Rel S T) : ∀ k, 24 ≤ k → k ≤ 27 → T.2 k = S.2 k := by
  intro k h1 h2
  obtain ⟨⟨h8, h9, h10, h11⟩, -⟩ := h.2.2.1
  have hk : k = 24 ∨ k = 25 ∨ k = 26 ∨ k = 27 := by omega
  rcases hk with rfl | rfl | rfl | rfl
  · exact h8
  · exact h9
  · exact h10
  · exact h11
theorem Rel.rowR {S T : PS} (h : Rel S T) : ∀ r, r < 3 → rng (S.2 24 r) (-1) 40 := h.2.2.1.2
theorem ev_X11_isRow (S : PS) (v : Int32) : f_X11_isRow S v = some (pwi v 0 2, S) := by
  unfold f_X11_isRow
  rw [ev_X11_isWithin, b_some, g_t (pwi_bit _ _ _)]
theorem ev_X12_isRow (S : PS) (v : Int32) : f_X12_isRow S v = some (pwi v 0 2, S) := by
  unfold f_X12_isRow
  rw [ev_X12_in, b_some, g_t (pwi_bit _ _ _)]
theorem ev_rowLoop {r : Nat} (hr : r < 3) : ∀ (m j fuel : Nat) (T : PS), j + m = 40 → m < fuel → g_X12_row_32 fuel T (nI r) (nI j) = some (.inr (pAr T (25 + r) (pfr j 40 0 (T.2 (25 + r))))) := by
  intro m
  induction m with
  | zero =>
    intro j fuel T hj hf
    obtain ⟨fuel, rfl⟩ : ∃ z, fuel = z + 1 := ⟨fuel - 1, by omega⟩
    obtain rfl : j = 40 := by omega
    rw [g_X12_row_32, if_pos (by decide), pfr_end]
    have e : pAr T (25 + r) (T.2 (25 + r)) = T := ps_ext rfl (fun k => by
      rw [pAr_2]
      by_cases h0 : k = 25 + r
      · rw [if_pos h0, h0]
      · rw [if_neg h0])
    rw [e]
  | succ m ih =>
    intro j fuel T hj hf
    obtain ⟨fuel, rfl⟩ : ∃ z, fuel = z + 1 := ⟨fuel - 1, by omega⟩
    rw [g_X12_row_32, if_neg (show ¬ (40 : Int32) ≤ nI j from nI_ge (a := j) (b := 40) (by omega) (by decide)), g_t (pin_nI hr (by decide)), g_t (pin_nI (show j < 40 by omega) (by decide)), nI_clamp (show j < 2 ^ 31 by omega), nI_clamp (show r < 2 ^ 31 by omega), nI_1, ih (j + 1) fuel _ (by omega) (by omega)]
    have e : pAr (pAr T (25 + r) (upd (T.2 (25 + r)) j 0)) (25 + r) (pfr (j + 1) 40 0 ((pAr T (25 + r) (upd (T.2 (25 + r)) j 0)).2 (25 + r))) = pAr T (25 + r) (pfr j 40 0 (T.2 (25 + r))) := ps_ext rfl (fun k => by
      rw [pAr_2, pAr_2, pAr_2, if_pos rfl, pfr_upd (by omega), pAr_2]
      by_cases h0 : k = 25 + r
      · rw [if_pos h0, if_pos h0]
      · rw [if_neg h0, if_neg h0, if_neg h0])
    rw [e]
theorem ev_X6_make (S : PS) {r : Nat} (hr : r < 3) {v : Int32} (hv : rng v (-1) 40) : f_X6_make S (nI r) v = some (0, pAr (pAr S 24 (upd (S.2 24) r v)) (25 + r) (pfil 40 0 (S.2 (25 + r)))) := by
  have hp := pin_nI hr (by decide : 3 < 2 ^ 31)
  unfold f_X6_make f_X11_held
  rw [b_some]
  dsimp only
  rw [g_t hp, g_t hp, nI_clamp (by omega), pAr_out (by omega)]
  have e : pmax (-1) (pmin v 40) = v := by
    apply tinj
    rw [tmax, tmin]
    obtain ⟨h1, h2⟩ := hv
    show max (-1) (min v.toInt 40) = v.toInt
    omega
  rw [e]
theorem eq_row : pEq2 Rel f_X11_row f_X12_row := by
  intro S T h v1 v2
  show pQ _ _
  unfold f_X11_row f_X12_row
  refine pQ.bnds (ev_X11_isRow S v1) (ev_X12_isRow T v1) rfl (pQ.ite (fun _ => pQ.r h _) (fun h1 => ?_))
  refine pQ.ite (fun h2 => ?_) (fun _ => pQ.r h _)
  refine pQ.ite (fun h3 => ?_) (fun _ => pQ.r h _)
  obtain ⟨r, rfl, hr, -⟩ := pwi_nI (hi := 2) h1 rfl rfl
  have hv : rng v2 (-1) 40 := ⟨tle.mp h3, tle.mp h2⟩
  rw [ev_X6_make S (by omega) hv, b_some, g_t (pin_nI (show r < 3 by omega) (by decide)), nI_clamp (by omega), show (0 : Int32) = nI 0 from rfl, ev_rowLoop (by omega) 40 0 pfuel _ rfl (pfuel_gt (by decide)), lp_r]
  dsimp only
  refine pQ.r ?_ _
  refine h.rows ⟨fun k hk => rfl, fun k hk => ?_⟩ ⟨fun k hk => rfl, fun k hk => ?_⟩ (fun k h1 h2 => ?_) (fun q hq => ?_)
  · rw [pAr_out (by omega), pAr_out (by omega)]
  · rw [pAr_out (by omega), pAr_out (by omega)]
  · simp only [pAr_2, pfr_0]
    by_cases e : k = 25 + r
    · rw [if_pos e, if_pos e, if_neg (show ¬ 25 + r = 24 by omega), h.rowE (25 + r) (by omega) (by omega)]
      rfl
    · rw [if_neg e, if_neg e]
      by_cases e2 : k = 24
      · rw [if_pos e2, if_pos e2, h.rowE 24 (by omega) (by omega)]
      · rw [if_neg e2, if_neg e2, h.rowE k h1 h2]
  · rw [pAr_out (by omega), pAr_2, if_pos rfl, upd_at]
    by_cases e : q = r
    · rw [if_pos e]; exact hv
    · rw [if_neg e]; exact h.rowR q hq
theorem plen {S T : PS} (h : Rel S T) {r : Nat} (hr : r < 3) {v : Int32} (hv : ¬ pwi v 0 (S.2 24 r - 1) = 0) : ∃ i, v = nI i ∧ i < 40 ∧ (i : Int) < (S.2 24 r).toInt := by
  obtain ⟨h1, h2⟩ := h.rowR r hr
  have e1 : (1 : Int32).toInt = 1 := rfl
  have e : (S.2 24 r - 1).toInt = (S.2 24 r).toInt - 1 := by rw [tsub (by rw [e1]; omega) (by rw [e1]; omega), e1]
  obtain ⟨i, hi, -, hi2, -⟩ := rngN (pwi_rng (lo := 0) (hi := (S.2 24 r).toInt - 1) hv rfl e) (by decide)
  exact ⟨i, hi, by omega, by omega⟩
theorem ev_X6_hasPlace (S : PS) {r : Nat} (hr : r < 3) (v : Int32) : f_X6_hasPlace S (nI r) v = some (pwi v 0 (S.2 24 r - 1), S) := by
  unfold f_X6_hasPlace
  rw [g_t (pin_nI hr (by decide)), nI_clamp (by omega), ev_X11_isWithin, b_some, g_t (pwi_bit _ _ _)]
theorem eq_get : pEq2 Rel f_X11_get f_X12_get := by
  intro S T h v1 v2
  show pQ _ _
  unfold f_X11_get f_X12_get
  refine pQ.bnds (ev_X11_isRow S v1) (ev_X12_isRow T v1) rfl (pQ.ite (fun _ => pQ.r h _) (fun h1 => ?_))
  obtain ⟨r, rfl, hr, -⟩ := pwi_nI (hi := 2) h1 rfl rfl
  have hp := pin_nI (show r < 3 by omega) (by decide : 3 < 2 ^ 31)
  simp only [ev_X6_hasPlace S (show r < 3 by omega), g_t hp, nI_clamp (show r < 2 ^ 31 by omega), h.rowE 24 (by decide) (by decide), ev_X12_in, b_some]
  by_cases hl : S.2 24 r < 0
  · rw [if_pos hl]
    have e : pwi v2 0 (S.2 24 r - 1) = 0 := by
      by_cases q : pwi v2 0 (S.2 24 r - 1) = 0
      · exact q
      · obtain ⟨i, -, -, hi⟩ := plen h (by omega) q
        have := tlt.mp hl
        have e0 : (0 : Int32).toInt = 0 := rfl
        omega
    rw [if_pos e]
    exact pQ.r h _
  · rw [if_neg hl]
    refine pQ.ite (fun _ => pQ.r h _) (fun h2 => ?_)
    obtain ⟨i, rfl, hi, -⟩ := plen h (by omega) h2
    have hp2 := pin_nI hi (by decide : 40 < 2 ^ 31)
    exact pQ.gd hp2 hp2 (pQ.re h (by rw [h.rowE (25 + r) (by omega) (by omega)]))
theorem ev_X6_isMissing (S : PS) {r : Nat} (hr : r < 3) : f_X6_isMissing S (nI r) = some (if 0 ≤ S.2 24 r then 0 else 1, S) := by
  unfold f_X6_isMissing
  rw [g_t (pin_nI hr (by decide)), nI_clamp (by omega)]
  by_cases h : 0 ≤ S.2 24 r
  · rw [if_pos h, if_pos h]
  · rw [if_neg h, if_neg h]
theorem eq_store : pEq3 Rel f_X11_store f_X12_store := by
  intro S T h v1 v2 v3
  show pQ _ _
  unfold f_X11_store f_X12_store
  refine pQ.bnds (ev_X11_isRow S v1) (ev_X12_isRow T v1) rfl (pQ.ite (fun _ => pQ.r h _) (fun h1 => ?_))
  obtain ⟨r, rfl, hr, -⟩ := pwi_nI (hi := 2) h1 rfl rfl
  have hp := pin_nI (show r < 3 by omega) (by decide : 3 < 2 ^ 31)
  simp only [ev_X6_hasPlace S (show r < 3 by omega), ev_X6_isMissing S (show r < 3 by omega), g_t hp, nI_clamp (show r < 2 ^ 31 by omega), h.rowE 24 (by decide) (by decide), ev_X12_in, b_some]
  by_cases hl : 0 ≤ S.2 24 r
  · rw [if_pos hl, if_pos hl, if_pos rfl]
    refine pQ.ite (fun _ => pQ.r h _) (fun h2 => ?_)
    obtain ⟨i, rfl, hi, -⟩ := plen h (by omega) h2
    have hp2 := pin_nI hi (by decide : 40 < 2 ^ 31)
    refine pQ.gd hp2 hp2 (pQ.r ?_ _)
    refine h.rows ⟨fun k hk => rfl, fun k hk => ?_⟩ ⟨fun k hk => rfl, fun k hk => ?_⟩ (fun k h1 h2 => ?_) (fun q hq => ?_)
    · rw [pAr_out (by omega)]
    · rw [pAr_out (by omega)]
    · rw [pAr_2, pAr_2, h.rowE k h1 h2, h.rowE (25 + r) (by omega) (by omega)]
    · rw [pAr_out (by omega)]
      exact h.rowR q hq
  · rw [if_neg hl, if_neg hl, if_neg (show ¬ (1 : Int32) = 0 by decide)]
    exact pQ.r h _
/-- the tape -/
theorem Rel.tape {S T S' T' : PS} (h : Rel S T) (hX : (∀ k, k ≤ 10 → S'.1 k = S.1 k) ∧ (∀ k, k ≤ 27 → S'.2 k = S.2 k)) (hM : (∀ k, k ≤ 10 → T'.1 k = T.1 k) ∧ (∀ k, (k ≤ 27 ∨ k = 29) → T'.2 k = T.2 k)) (he : T'.1 11 = S'.1 11 ∧ T'.2 28 = S'.2 28) (hr : rng (S'.1 11) 0 80 ∧ ∀ j : Nat, (j : Int) < (S'.1 11).toInt → rng (S'.2 28 j) 32 126) : Rel S' T' := by
  obtain ⟨⟨h1, h2⟩, ⟨⟨h3, h4⟩, h5, h6, h7⟩, ⟨⟨h8, h9, h10, h11⟩, h12⟩, -⟩ := h
  refine ⟨⟨h1.congr ⟨fun k hk => hX.1 k (by omega), fun k hk => hX.2 k (by omega)⟩ ⟨fun k hk => hM.1 k (by omega), fun k hk => hM.2 k (by omega)⟩, bOK_congr (fun k hk => hX.1 k (by omega)) (fun k hk => hX.2 k (by omega)) h2⟩, ⟨⟨?_, ?_⟩, fun k hk => ?_, fun k hk => ?_, fun q => ?_⟩, ⟨⟨?_, ?_, ?_, ?_⟩, ?_⟩, he, hr⟩
  · rw [hX.1 10 (by decide), hM.1 10 (by decide)]; exact h3
  · rw [hX.1 10 (by decide)]; exact h4
  · rw [hX.1 (5 + k) (by omega), hM.2 29 (by decide)]; exact h5 k hk
  · rw [hX.2 (12 + k) (by omega), hM.2 (12 + k) (by omega)]; exact h6 k hk
  · rw [hX.1 10 (by decide)] at q
    exact bOK_congr (fun k hk => hX.1 (5 + k) (by omega)) (fun k hk => hX.2 (12 + k) (by omega)) (h7 q)
  · rw [hX.2 24 (by decide), hM.2 24 (by decide)]; exact h8
  · rw [hX.2 25 (by decide), hM.2 25 (by decide)]; exact h9
  · rw [hX.2 26 (by decide), hM.2 26 (by decide)]; exact h10
  · rw [hX.2 27 (by decide), hM.2 27 (by decide)]; exact h11
  · rw [hX.2 24 (by decide)]; exact h12
theorem Rel.empty {S T : PS} (h : Rel S T) : Rel (pI S 11 0) (pI T 11 0) := by
  refine h.tape ⟨fun k hk => pI_out (by omega), fun k hk => rfl⟩ ⟨fun k hk => pI_out (by omega), fun k hk => rfl⟩ ⟨rfl, h.2.2.2.1.2⟩ ⟨(by unfold rng; decide : rng (0 : Int32) 0 80), fun j hj => ?_⟩
  have hj' : (j : Int) < (0 : Int32).toInt := hj
  rw [show (0 : Int32).toInt = 0 from rfl] at hj'
  omega
theorem eq_wipe : pEq0 Rel f_X11_wipe f_X12_wipe := by
  intro S T h
  show pQ _ _
  unfold f_X11_wipe f_X12_wipe
  exact pQ.re h.empty h.2.2.2.1.1
theorem pbyte : ∀ c : Fin 127, vp_nar .byte (nI c.1).toInt8.toInt32 = nI c.1 := by decide +kernel
theorem eq_feed : pEq1 Rel f_X11_feed f_X12_feed := by
  intro S T h v
  obtain ⟨⟨hl, ht⟩, hlr, htr⟩ := h.2.2.2
  show pQ _ _
  unfold f_X11_feed f_X12_feed
  refine pQ.bnds (ev_X11_isWithin S v 32 126) (ev_X12_in T v 32 126) rfl (pQ.ite (fun _ => pQ.r h _) (fun h1 => ?_))
  have hv : rng v 32 126 := pwi_rng h1 rfl rfl
  obtain ⟨c, rfl, hc1, hc2, -⟩ := rngN hv (by decide)
  obtain ⟨n, hn, -, hn2, -⟩ := rngN hlr (by decide)
  have eb := pbyte ⟨c, by omega⟩
  dsimp only at eb
  rw [hl, ht, hn, eb]
  by_cases hf : n = 80
  · rw [hf, if_neg (by decide), if_pos (by decide)]
    exact pQ.r h _
  · have e1 : nI n < (80 : Int32) := nI_lt (a := n) (b := 80) (by omega) (by decide)
    have e2 : ¬ nI n = (80 : Int32) := fun q => hf ((nI_eq (a := n) (b := 80) (by omega) (by decide)).mp q)
    have hp := pin_nI (show n < 80 by omega) (by decide : 80 < 2 ^ 31)
    rw [if_pos e1, if_neg e2, g_t hp, g_t hp, nI_clamp (by omega), nI_1]
    refine pQ.r ?_ _
    refine h.tape ⟨fun k hk => ?_, fun k hk => ?_⟩ ⟨fun k hk => ?_, fun k hk => ?_⟩ ⟨rfl, ?_⟩ ⟨?_, fun j hj => ?_⟩
    · rw [pI_out (by omega)]; rfl
    · rw [pI_2, pAr_out (by omega)]
    · rw [pI_out (by omega)]; rfl
    · rw [pI_2, pAr_out (by omega)]
    · rfl
    · show rng (nI (n + 1)) 0 80
      exact (rng_nI (by omega)).mpr ⟨by omega, by omega⟩
    · have hj' : (j : Int) < (nI (n + 1)).toInt := hj
      rw [nI_toInt (by omega)] at hj'
      show rng (upd (S.2 28) n (nI c) j) 32 126
      rw [upd_at]
      by_cases e : j = n
      · rw [if_pos e]; exact hv
      · rw [if_neg e]
        exact htr j (by rw [hn, nI_toInt (by omega)]; omega)
