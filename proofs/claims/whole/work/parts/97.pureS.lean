/-! THE PURE PART, S: fits -/
theorem eqb_eq {S T : PS} (h : bE S T) (L : Nat → Int32) : ∀ m i, eqb T L m i = eqb S L m i := by
  intro m
  induction m with
  | zero => intro i; rw [eqb, eqb]
  | succ m ih => intro i; rw [eqb, eqb, pln_eq h, ih]
theorem pSw_E {S T : PS} (h : bE S T) (i0 w : Nat) : bE (pSw S i0 w) (pSw T i0 w) := by
  unfold pSw
  rw [hcE h (c := 4) (by decide) (by decide)]
  exact h.setA 4 _
theorem upd_self (f : Nat → Int32) (i : Nat) : upd f i (f i) = f := by
  funext j
  rw [upd_at]
  by_cases h : j = i
  · rw [if_pos h, h]
  · rw [if_neg h]
theorem pHX_self {S P : PS} {i0 : Nat} (h1 : ∀ c, c ≤ 11 → P.1 c = S.1 c) (h2 : ∀ c, c ≤ 29 → P.2 c = S.2 c) : pHX S i0 P := ⟨h1, fun c hc _ => h2 c hc, S.2 4 i0, by rw [upd_self]; exact h2 4 (by decide)⟩
theorem pHX_back {S P : PS} {i0 : Nat} (h : pHX S i0 P) : (∀ c, c ≤ 11 → (pAr P 4 (upd (P.2 4) i0 (S.2 4 i0))).1 c = S.1 c) ∧ ∀ c, c ≤ 29 → (pAr P 4 (upd (P.2 4) i0 (S.2 4 i0))).2 c = S.2 c := by
  obtain ⟨h1, h2, w, h3⟩ := h
  refine ⟨h1, fun c hc => ?_⟩
  by_cases e : c = 4
  · rw [e, pAr_at, h3, upd_upd, upd_self]
  · rw [pAr_out e]; exact h2 c hc e
theorem ev_X3_want {S : PS} (hb : bOK S.1 S.2) {r : Nat} (hr : r < 3) {n : Nat} (hn : n ≤ 17) : ∃ a b, f_X3_want S r (nI n) = some (0, pXW (pI S 19 (nI n)) a b) ∧ ∀ i, i < n → a i = lea S (S.2 (25 + r) i) ∧ b i = mos S (S.2 (25 + r) i) := by
  have hbI : bOK (pI S 19 (nI n)).1 (pI S 19 (nI n)).2 := hb
  obtain ⟨a, b, e, h⟩ := ev_want (S := pI S 19 (nI n)) hbI hr hn n 0 pfuel (S.2 32) (S.2 33) (by omega) (pfuel_gt (by omega)) (fun i hi => by omega)
  have e' : g_X3_want_8 r pfuel (pXW (pI S 19 (nI n)) ((pI S 19 (nI n)).2 32) ((pI S 19 (nI n)).2 33)) (nI n) 0 = some (.inr (pXW (pI S 19 (nI n)) a b)) := e
  rw [pXW_self] at e'
  unfold f_X3_want
  rw [e', lp_r]
  exact ⟨a, b, rfl, h⟩
theorem eq_fits : pEq4 Rel f_X11_fits f_X12_fits := by
  intro S T h v1 v2 v3 v4
  have hb := h.b
  obtain ⟨k, hk, hk16⟩ := h.x.k
  have hk' : T.1 4 = nI k := by rw [hb.1.2.2.2.2]; exact hk
  show pQ _ _
  unfold f_X11_fits f_X12_fits
  refine pQ.bnds (ev_X11_isRow S v1) (ev_X12_isRow T v1) rfl (pQ.ite (fun _ => pQ.r h _) (fun g1 => ?_))
  refine pQ.bnds (ev_X11_isWithin S v2 0 17) (ev_X12_in T v2 0 17) rfl (pQ.ite (fun _ => pQ.r h _) (fun g2 => ?_))
  refine pQ.bnds (ev_X11_isName S v3) (ev_X12_isName T v3) rfl (pQ.ite (fun _ => pQ.r h _) (fun g3 => ?_))
  refine pQ.bnds (ev_X11_isWithin S v4 0 1) (ev_X12_in T v4 0 1) rfl (pQ.ite (fun _ => pQ.r h _) (fun g4 => ?_))
  refine pQ.bnds (ev_X1_placeOf S v3 hk hk16) (ev_X12_find T v3 hk' hk16) (by rw [hb.2.1.2.2.1]) ?_
  obtain ⟨r, rfl, hr, -⟩ := pwi_nI (hi := 2) g1 rfl rfl
  obtain ⟨n, rfl, hn17, -⟩ := pwi_nI (hi := 17) g2 rfl rfl
  have hp := pin_nI (show r < 3 by omega) (by decide : 3 < 2 ^ 31)
  rcases pfn_in (S.2 2) v3 k with e | ⟨i0, hi0, e, -⟩
  · rw [e, if_neg (by decide), if_neg (by decide)]
    exact pQ.r h _
  · rw [e]
    refine pQ.ite (fun _ => ?_) (fun _ => pQ.r h _)
    simp only [ev_X6_isMissing S (show r < 3 by omega), g_t hp, nI_clamp (show r < 2 ^ 31 by omega), h.rowE 24 (by decide) (by decide), b_some]
    by_cases hl : 0 ≤ S.2 24 r
    · rw [if_pos hl, if_pos hl, if_pos rfl]
      refine pQ.ite (fun _ => ?_) (fun _ => pQ.r h _)
      rw [hk, hk', nI_1]
      refine pQ.ite (fun hnk => ?_) (fun _ => pQ.r h _)
      have hn : n ≤ k + 1 := (nI_leI (by omega) (by omega)).mp hnk
      have hpi := pin_nI (show i0 < 16 by omega) (by decide : 16 < 2 ^ 31)
      obtain ⟨a, b, eW, hab⟩ := ev_X3_want h.x (show r < 3 by omega) hn17
      rw [eW, b_some]
      dsimp only
      unfold f_X3_tryWeights
      have hH : pHX S i0 (pI (pI (pXW (pI S 19 (nI n)) a b) 20 0) 21 (-2)) := pHX_self (fun c hc => by rw [pI_out (by omega), pI_out (by omega), show (pXW (pI S 19 (nI n)) a b).1 c = (pI S 19 (nI n)).1 c from rfl, pI_out (by omega)]) (fun c hc => by
        rw [pI_2, pI_2, pXW_at _ _ _ (by omega) (by omega), pI_2])
      obtain ⟨P', eX, hP', hc, hF⟩ := ev_tryX h.x hk hk16 hn hi0 (L := S.2 (25 + r)) hab (S.2 4 i0) 999 0 pfuel (pI (pI (pXW (pI S 19 (nI n)) a b) 20 0) 21 (-2)) (-2) rfl (pfuel_gt (by decide)) hH rfl rfl rfl (by rw [nA]; rfl) rfl (Or.inl ⟨rfl, fun v v1 v2 => by omega⟩)
      have hHM : pHX T i0 T := pHX_self (fun _ _ => rfl) (fun _ _ => rfl)
      obtain ⟨P2, l', eM, hP2, hF2⟩ := ev_tryM h.m hk' hk16 hn hi0 (show r < 3 by omega) (L := T.2 (25 + r)) rfl v4 (T.2 4 i0) 999 pfuel T (-2) (Nat.le_refl _) (pfuel_gt (by decide)) hHM (Or.inl ⟨rfl, fun v v1 v2 => by omega⟩)
      rw [Nat.sub_self] at eM
      have hok : (fun w => eqb (pSw T i0 w) (T.2 (25 + r)) n 0) = (fun w => eqb (pSw S i0 w) (S.2 (25 + r)) n 0) := by
        funext w
        rw [eqb_eq (pSw_E hb i0 w), h.rowE (25 + r) (by omega) (by omega)]
      rw [hok] at eM hF2
      have eX' : g_X3_tryWeights_25 pfuel (pI (pI (pXW (pI S 19 (nI n)) a b) 20 0) 21 (-2)) (nI i0) (S.2 4 i0) 1 = some (.inr P') := eX
      have eM' : g_X12_fits_110 pfuel T (nI r) (nI n) v4 (nI i0) (T.2 4 i0) 0 (-2) 999 = some (.inr (P2, nI (nA (fun w => eqb (pSw S i0 w) (S.2 (25 + r)) n 0) 999), l')) := eM
      rw [g_t hpi, nI_clamp (show i0 < 2 ^ 31 by omega), show (pXW (pI S 19 (nI n)) a b).2 4 i0 = S.2 4 i0 from rfl, eX', lp_r, g_t hpi, b_some, g_t hpi, eM', lp_r]
      dsimp only
      rw [g_t hpi]
      obtain ⟨x1, x2⟩ := pHX_back hP'
      obtain ⟨m1, m2⟩ := pHX_back hP2
      have hR : Rel (pAr P' 4 (upd (P'.2 4) i0 (S.2 4 i0))) (pAr P2 4 (upd (P2.2 4) i0 (T.2 4 i0))) := h.same ⟨x1, fun c hc => x2 c (by omega)⟩ ⟨m1, m2⟩
      refine pQ.ite (fun _ => pQ.re hR hc.symm) (fun _ => pQ.re hR (isF_one hF2 hF))
    · rw [if_neg hl, if_neg hl, if_neg (show ¬ (1 : Int32) = 0 by decide)]
      exact pQ.r h _
