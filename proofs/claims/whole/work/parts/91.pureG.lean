/-! THE PURE PART, G: the commands that write the boat -/
theorem pI_1 (S : PS) (k : Nat) (v : Int32) (j : Nat) : (pI S k v).1 j = if j = k then v else S.1 j := rfl
theorem pI_2 (S : PS) (k : Nat) (v : Int32) : (pI S k v).2 = S.2 := rfl
theorem pAr_1 (S : PS) (k : Nat) (f : Nat → Int32) : (pAr S k f).1 = S.1 := rfl
theorem pAr_2 (S : PS) (k : Nat) (f : Nat → Int32) (j : Nat) : (pAr S k f).2 j = if j = k then f else S.2 j := rfl
theorem upd_at (f : Nat → Int32) (k : Nat) (x : Int32) (j : Nat) : upd f k x j = if j = k then x else f j := rfl
theorem Rel.boat {S T S' T' : PS} (h : Rel S T) (hX : (∀ k, 5 ≤ k → k ≤ 11 → S'.1 k = S.1 k) ∧ (∀ k, 12 ≤ k → k ≤ 28 → S'.2 k = S.2 k)) (hM : (∀ k, 10 ≤ k → k ≤ 11 → T'.1 k = T.1 k) ∧ (∀ k, 12 ≤ k → k ≤ 29 → T'.2 k = T.2 k)) (hE : bE S' T') (hO : bOK S'.1 S'.2) : Rel S' T' := by
  obtain ⟨-, ⟨⟨h3, h4⟩, h5, h6, h7⟩, ⟨⟨h8, h9, h10, h11⟩, h12⟩, ⟨h13, h14⟩, h15, h16⟩ := h
  refine ⟨⟨hE, hO⟩, ⟨⟨?_, ?_⟩, fun k hk => ?_, fun k hk => ?_, fun q => ?_⟩, ⟨⟨?_, ?_, ?_, ?_⟩, ?_⟩, ⟨?_, ?_⟩, ?_, ?_⟩
  · rw [hX.1 10 (by decide) (by decide), hM.1 10 (by decide) (by decide)]; exact h3
  · rw [hX.1 10 (by decide) (by decide)]; exact h4
  · rw [hX.1 (5 + k) (by omega) (by omega), hM.2 29 (by decide) (by decide)]; exact h5 k hk
  · rw [hX.2 (12 + k) (by omega) (by omega), hM.2 (12 + k) (by omega) (by omega)]; exact h6 k hk
  · rw [hX.1 10 (by decide) (by decide)] at q
    exact bOK_congr (fun k hk => hX.1 (5 + k) (by omega) (by omega)) (fun k hk => hX.2 (12 + k) (by omega) (by omega)) (h7 q)
  · rw [hX.2 24 (by decide) (by decide), hM.2 24 (by decide) (by decide)]; exact h8
  · rw [hX.2 25 (by decide) (by decide), hM.2 25 (by decide) (by decide)]; exact h9
  · rw [hX.2 26 (by decide) (by decide), hM.2 26 (by decide) (by decide)]; exact h10
  · rw [hX.2 27 (by decide) (by decide), hM.2 27 (by decide) (by decide)]; exact h11
  · rw [hX.2 24 (by decide) (by decide)]; exact h12
  · rw [hX.1 11 (by decide) (by decide), hM.1 11 (by decide) (by decide)]; exact h13
  · rw [hX.2 28 (by decide) (by decide), hM.2 28 (by decide) (by decide)]; exact h14
  · rw [hX.1 11 (by decide) (by decide)]; exact h15
  · rw [hX.1 11 (by decide) (by decide), hX.2 28 (by decide) (by decide)]; exact h16
theorem pI_out {S : PS} {k : Nat} {v : Int32} {j : Nat} (h : ¬ j = k) : (pI S k v).1 j = S.1 j := if_neg h
theorem pAr_out {S : PS} {k : Nat} {f : Nat → Int32} {j : Nat} (h : ¬ j = k) : (pAr S k f).2 j = S.2 j := if_neg h
theorem bE.setI {S T : PS} (h : bE S T) (k : Nat) (v : Int32) : bE (pI S k v) (pI T k v) := by
  unfold bE at h ⊢
  obtain ⟨⟨h0, h1, h2, h3, h4⟩, h5⟩ := h
  simp only [pI_1, pI_2, h0, h1, h2, h3, h4]
  exact ⟨⟨trivial, trivial, trivial, trivial, trivial⟩, h5⟩
theorem bE.setA {S T : PS} (h : bE S T) (k : Nat) (f : Nat → Int32) : bE (pAr S k f) (pAr T k f) := by
  unfold bE at h ⊢
  obtain ⟨h0, ⟨a0, a1, a2, a3, a4, a5, a6, a7⟩, a8, a9, a10, a11⟩ := h
  simp only [pAr_1, pAr_2, a0, a1, a2, a3, a4, a5, a6, a7, a8, a9, a10, a11]
  exact ⟨h0, ⟨trivial, trivial, trivial, trivial, trivial, trivial, trivial, trivial⟩, trivial, trivial, trivial, trivial⟩
/-- one int of the boat, the same in both -/
theorem Rel.setI {S T : PS} (h : Rel S T) {k : Nat} (hk : k < 5) (v : Int32) (hO : bOK (pI S k v).1 (pI S k v).2) : Rel (pI S k v) (pI T k v) :=
  h.boat ⟨fun j h1 h2 => pI_out (by omega), fun j _ _ => rfl⟩ ⟨fun j h1 h2 => pI_out (by omega), fun j _ _ => rfl⟩ (h.b.setI k v) hO
theorem eq_set : pEq2 Rel f_X11_set f_X12_set := by
  intro S T h v1 v2
  have hb := h.b
  have hx := h.x
  show pQ _ _
  unfold f_X11_set f_X12_set f_X11_setDeep f_X11_setShell f_X11_setWet
  simp only [ev_X11_isWithin, ev_X12_in, b_some]
  refine pQ.ite (fun _ => ?_) (fun _ => pQ.ite (fun _ => ?_) (fun _ => pQ.ite (fun _ => ?_) (fun _ => pQ.r h _)))
  · by_cases h2 : pwi v2 1 60 = 0
    · rw [if_pos h2, if_pos h2, b_some]; exact pQ.r h _
    · rw [if_neg h2, if_neg h2, b_some]
      have hr : rng v2 1 60 := pwi_rng h2 rfl rfl
      refine pQ.re ?_ hb.1.2.1
      exact h.setI (k := 1) (by decide) v2 ⟨hx.1, hr, hx.2.2⟩
  · by_cases h2 : pwi v2 1 9999 = 0
    · rw [if_pos h2, if_pos h2, b_some]; exact pQ.r h _
    · rw [if_neg h2, if_neg h2, b_some]
      have hr : rng v2 1 9999 := pwi_rng h2 rfl rfl
      refine pQ.re ?_ hb.1.2.2.1
      exact h.setI (k := 2) (by decide) v2 ⟨hx.1, hx.2.1, hr, hx.2.2.2⟩
  · by_cases h2 : pwi v2 0 1 = 0
    · rw [if_pos h2, if_pos h2, b_some]; exact pQ.r h _
    · rw [if_neg h2, if_neg h2, b_some]
      have hr : rng v2 0 1 := pwi_rng h2 rfl rfl
      refine pQ.re ?_ hb.1.2.2.2.1
      exact h.setI (k := 3) (by decide) v2 ⟨hx.1, hx.2.1, hx.2.2.1, hr, hx.2.2.2.2⟩
theorem eq_section : pEq3 Rel f_X11_section f_X12_section := by
  intro S T h v1 v2 v3
  have hb := h.b
  have hx := h.x
  show pQ _ _
  unfold f_X11_section f_X12_section
  refine pQ.bnds (ev_X2_hasSection S v1) (ev_X12_isSection T v1) (psec_eq hb v1) (pQ.ite (fun _ => pQ.r h _) (fun h1 => ?_))
  refine pQ.bnds (ev_X11_isWithin S v2 1 40) (ev_X12_in T v2 1 40) rfl (pQ.ite (fun _ => pQ.r h _) (fun h2 => ?_))
  refine pQ.bnds (ev_X11_isWithin S v3 0 30) (ev_X12_in T v3 0 30) rfl (pQ.ite (fun _ => pQ.r h _) (fun h3 => ?_))
  obtain ⟨i, rfl, hi, -⟩ := psec_in hx h1
  have hr2 : rng v2 1 40 := pwi_rng h2 rfl rfl
  have hr3 : rng v3 0 30 := pwi_rng h3 rfl rfl
  have hp := pin_nI hi (by decide : 10 < 2 ^ 31)
  rw [g_t hp, g_t hp, g_t hp, g_t hp, g_t hp, g_t hp, g_t hp, g_t hp, nI_clamp (by omega), hb.2.1.1, hb.2.1.2.1]
  refine pQ.r ?_ _
  refine h.boat ⟨fun j h1 h2 => rfl, fun j h1 h2 => ?_⟩ ⟨fun j h1 h2 => rfl, fun j h1 h2 => ?_⟩ ((hb.setA 0 _).setA 1 _) ?_
  · rw [pAr_out (by omega), pAr_out (by omega)]
  · rw [pAr_out (by omega), pAr_out (by omega)]
  · refine ⟨hx.1, hx.2.1, hx.2.2.1, hx.2.2.2.1, hx.2.2.2.2.1, fun j hj => ?_, hx.2.2.2.2.2.2.1, hx.2.2.2.2.2.2.2.1, hx.2.2.2.2.2.2.2.2⟩
    show rng (upd (S.2 0) i v2 j) 1 40 ∧ rng (upd (S.2 1) i v3 j) 0 30
    rw [upd_at, upd_at]
    by_cases e : j = i
    · rw [if_pos e, if_pos e]; exact ⟨hr2, hr3⟩
    · rw [if_neg e, if_neg e]; exact hx.2.2.2.2.2.1 j hj
theorem ev_X11_isTank (S : PS) (v : Int32) : f_X11_isTank S v = some (pwi v 0 3, S) := by
  unfold f_X11_isTank
  rw [ev_X11_isWithin, b_some, g_t (pwi_bit _ _ _)]
theorem ev_X12_isTank (S : PS) (v : Int32) : f_X12_isTank S v = some (pwi v 0 3, S) := by
  unfold f_X12_isTank
  rw [ev_X12_in, b_some, g_t (pwi_bit _ _ _)]
theorem pwi_nI {v : Int32} {hi : Nat} {lo hi' : Int32} (h : ¬ pwi v lo hi' = 0) (h0 : lo.toInt = 0) (h1 : hi'.toInt = hi) : ∃ i : Nat, v = nI i ∧ i ≤ hi ∧ i < 2 ^ 31 := by
  obtain ⟨i, hi1, -, hi2, hi3⟩ := rngN (pwi_rng h h0 h1) (by decide)
  exact ⟨i, hi1, by omega, hi3⟩
theorem eq_tank : pEq4 Rel f_X11_tank f_X12_tank := by
  intro S T h v1 v2 v3 v4
  have hb := h.b
  have hx := h.x
  show pQ _ _
  unfold f_X11_tank f_X12_tank
  refine pQ.bnds (ev_X11_isTank S v1) (ev_X12_isTank T v1) rfl (pQ.ite (fun _ => pQ.r h _) (fun h1 => ?_))
  refine pQ.bnds (ev_X2_hasSection S v2) (ev_X12_isSection T v2) (psec_eq hb v2) (pQ.ite (fun _ => pQ.r h _) (fun h2 => ?_))
  refine pQ.bnds (ev_X11_isWithin S v3 0 20) (ev_X12_in T v3 0 20) rfl (pQ.ite (fun _ => pQ.r h _) (fun h3 => ?_))
  refine pQ.bnds (ev_X11_isWithin S v4 0 999) (ev_X12_in T v4 0 999) rfl (pQ.ite (fun _ => pQ.r h _) (fun h4 => ?_))
  obtain ⟨i, rfl, hi, -⟩ := pwi_nI (hi := 3) h1 rfl rfl
  obtain ⟨c, rfl, hc, -⟩ := psec_in hx h2
  have hr3 : rng v3 0 20 := pwi_rng h3 rfl rfl
  have hr4 : rng v4 0 999 := pwi_rng h4 rfl rfl
  have hp := pin_nI (show i < 4 by omega) (by decide : 4 < 2 ^ 31)
  rw [g_t hp, g_t hp, g_t hp, g_t hp, g_t hp, g_t hp, g_t hp, g_t hp, nI_clamp (by omega), hb.2.2.1, hb.2.2.2.1, hb.2.2.2.2.1, hb.2.2.2.2.2]
  refine pQ.r ?_ _
  refine h.boat ⟨fun j h1 h2 => rfl, fun j h1 h2 => ?_⟩ ⟨fun j h1 h2 => rfl, fun j h1 h2 => ?_⟩ ((((hb.setA 8 _).setA 9 _).setA 10 _).setA 11 _) ?_
  · rw [pAr_out (by omega), pAr_out (by omega), pAr_out (by omega), pAr_out (by omega)]
  · rw [pAr_out (by omega), pAr_out (by omega), pAr_out (by omega), pAr_out (by omega)]
  · refine ⟨hx.1, hx.2.1, hx.2.2.1, hx.2.2.2.1, hx.2.2.2.2.1, hx.2.2.2.2.2.1, hx.2.2.2.2.2.2.1, hx.2.2.2.2.2.2.2.1, fun t ht => ?_⟩
    show rng (upd (S.2 8) i (nI c) t) 0 9 ∧ rng (upd (S.2 9) i v3 t) 0 20 ∧ rng (upd (S.2 10) i v4 t) 0 999 ∧ rng (upd (S.2 11) i 0 t) 0 999 ∧ (upd (S.2 9) i v3 t = 0 → upd (S.2 11) i 0 t = 0)
    rw [upd_at, upd_at, upd_at, upd_at]
    by_cases e : t = i
    · rw [if_pos e, if_pos e, if_pos e, if_pos e]
      refine ⟨(rng_nI (by omega)).mpr ⟨by omega, by omega⟩, hr3, hr4, ?_, fun _ => rfl⟩
      unfold rng; decide
    · rw [if_neg e, if_neg e, if_neg e, if_neg e]; exact hx.tanks ht
theorem eq_fill : pEq2 Rel f_X11_fill f_X12_fill := by
  intro S T h v1 v2
  have hb := h.b
  have hx := h.x
  show pQ _ _
  unfold f_X11_fill f_X12_fill
  refine pQ.bnds (ev_X11_isTank S v1) (ev_X12_isTank T v1) rfl (pQ.ite (fun _ => pQ.r h _) (fun h1 => ?_))
  refine pQ.ite (fun h2 => ?_) (fun _ => pQ.r h _)
  obtain ⟨i, rfl, hi, -⟩ := pwi_nI (hi := 3) h1 rfl rfl
  have hp := pin_nI (show i < 4 by omega) (by decide : 4 < 2 ^ 31)
  obtain ⟨-, h9, h10, h11, hz⟩ := hx.tanks (show i < 4 by omega)
  simp only [g_t hp, nI_clamp (show i < 2 ^ 31 by omega), hb.2.2.2.1, hb.2.2.2.2.1, hb.2.2.2.2.2, ev_X8_isThere S (show i < 4 by omega), b_some]
  unfold pthr
  have e0 : (0 : Int32).toInt = 0 := rfl
  by_cases hw : S.2 9 i = 0
  · rw [if_pos hw, if_pos (show S.2 9 i ≤ 0 by rw [hw]; decide), if_pos rfl]
    by_cases hl : S.2 10 i < v2
    · rw [if_pos hl]; exact pQ.r h _
    · rw [if_neg hl]; exact pQ.r h _
  · have hw' : ¬ S.2 9 i ≤ 0 := fun q => hw (tinj (by
      have := tle.mp q
      have := h9.1
      omega))
    rw [if_neg hw, if_neg hw', if_neg (show ¬ (1 : Int32) = 0 by decide)]
    by_cases hl : S.2 10 i < v2
    · rw [if_pos hl, if_neg (Int32.not_le.mpr hl)]; exact pQ.r h _
    · rw [if_neg hl, if_pos (Int32.not_lt.mp hl)]
      refine pQ.r ?_ _
      refine h.boat ⟨fun j h1 h2 => rfl, fun j h1 h2 => pAr_out (by omega)⟩ ⟨fun j h1 h2 => rfl, fun j h1 h2 => pAr_out (by omega)⟩ (hb.setA 11 _) ?_
      refine ⟨hx.1, hx.2.1, hx.2.2.1, hx.2.2.2.1, hx.2.2.2.2.1, hx.2.2.2.2.2.1, hx.2.2.2.2.2.2.1, hx.2.2.2.2.2.2.2.1, fun t ht => ?_⟩
      show rng (S.2 8 t) 0 9 ∧ rng (S.2 9 t) 0 20 ∧ rng (S.2 10 t) 0 999 ∧ rng (upd (S.2 11) i v2 t) 0 999 ∧ (S.2 9 t = 0 → upd (S.2 11) i v2 t = 0)
      rw [upd_at]
      obtain ⟨q1, q2, q3, q4, q5⟩ := hx.tanks ht
      by_cases e : t = i
      · rw [if_pos e]
        refine ⟨q1, q2, q3, ?_, fun q => absurd (by rw [← e]; exact q) hw⟩
        have l1 := tle.mp h2
        have l2 := tle.mp (Int32.not_lt.mp hl)
        unfold rng at h10 ⊢
        omega
      · rw [if_neg e]; exact ⟨q1, q2, q3, q4, q5⟩
theorem ev_X11_isSide (S : PS) (v : Int32) : f_X11_isSide S v = some (pwi v (-20) 20, S) := by
  unfold f_X11_isSide
  rw [ev_X11_isWithin, b_some, g_t (pwi_bit _ _ _)]
theorem ev_X11_isKind (S : PS) (v : Int32) : f_X11_isKind S v = some (pwi v 0 4, S) := by
  unfold f_X11_isKind
  rw [ev_X11_isWithin, b_some, g_t (pwi_bit _ _ _)]
theorem eq_move : pEq3 Rel f_X11_move f_X12_move := by
  intro S T h v1 v2 v3
  have hb := h.b
  have hx := h.x
  obtain ⟨k, hk, hk16⟩ := h.x.k
  have hk' : T.1 4 = nI k := by rw [hb.1.2.2.2.2]; exact hk
  show pQ _ _
  unfold f_X11_move f_X12_move
  refine pQ.bnds (ev_X11_isName S v1) (ev_X12_isName T v1) rfl (pQ.ite (fun _ => pQ.r h _) (fun h1 => ?_))
  refine pQ.bnds (ev_X2_hasSection S v2) (ev_X12_isSection T v2) (psec_eq hb v2) (pQ.ite (fun _ => pQ.r h _) (fun h2 => ?_))
  refine pQ.bnds (ev_X11_isSide S v3) (ev_X12_in T v3 (-20) 20) rfl (pQ.ite (fun _ => pQ.r h _) (fun h3 => ?_))
  refine pQ.bnds (ev_X1_placeOf S v1 hk hk16) (ev_X12_find T v1 hk' hk16) (by rw [hb.2.1.2.2.1]) ?_
  obtain ⟨c, rfl, hc, -⟩ := psec_in hx h2
  have hr3 : rng v3 (-20) 20 := pwi_rng h3 rfl rfl
  rcases pfn_in (S.2 2) v1 k with e | ⟨i, hi, e, -⟩
  · rw [e, if_neg (by decide), if_neg (by decide)]
    exact pQ.r h _
  · rw [e]
    have hp := pin_nI (show i < 16 by omega) (by decide : 16 < 2 ^ 31)
    refine pQ.ite (fun _ => ?_) (fun _ => pQ.r h _)
    rw [g_t hp, g_t hp, g_t hp, g_t hp, g_t hp, g_t hp, nI_clamp (by omega), hb.2.1.2.2.2.2.2.1, hb.2.1.2.2.2.2.2.2.1]
    refine pQ.r ?_ _
    refine h.boat ⟨fun j h1 h2 => rfl, fun j h1 h2 => ?_⟩ ⟨fun j h1 h2 => rfl, fun j h1 h2 => ?_⟩ ((hb.setA 5 _).setA 6 _) ?_
    · rw [pAr_out (by omega), pAr_out (by omega)]
    · rw [pAr_out (by omega), pAr_out (by omega)]
    · refine ⟨hx.1, hx.2.1, hx.2.2.1, hx.2.2.2.1, hx.2.2.2.2.1, hx.2.2.2.2.2.1, fun j hj => ?_, hx.2.2.2.2.2.2.2.1, hx.2.2.2.2.2.2.2.2⟩
      obtain ⟨q1, q2, q3, q4, q5, q6⟩ := hx.2.2.2.2.2.2.1 j hj
      show rng (S.2 2 j) 1 531440 ∧ rng (S.2 3 j) 0 4 ∧ rng (S.2 4 j) 1 999 ∧ rng (upd (S.2 5) i (nI c) j) 0 9 ∧ rng (upd (S.2 6) i v3 j) (-20) 20 ∧ rng (S.2 7 j) 0 40
      rw [upd_at, upd_at]
      by_cases e : j = i
      · rw [if_pos e, if_pos e]
        exact ⟨q1, q2, q3, (rng_nI (by omega)).mpr ⟨by omega, by omega⟩, hr3, q6⟩
      · rw [if_neg e, if_neg e]; exact ⟨q1, q2, q3, q4, q5, q6⟩
/-- kinds -/
theorem ev_kind1 (S : PS) (v : Int32) (fuel : Nat) {a j : Nat} (ha : a < 5) (hj : j < 5) : g_X11_isOfKind_4 (fuel + 1) S v (nI a) (nI j) = if nI a = v then some (.inl (1, S)) else g_X11_isOfKind_4 fuel S v (pUnder a) (nI (j + 1)) := by
  have hp := pin_nI ha (by decide : 5 < 2 ^ 31)
  have hk : ¬ pwi (nI a) 0 4 = 0 := by
    have ha' : a = 0 ∨ a = 1 ∨ a = 2 ∨ a = 3 ∨ a = 4 := by omega
    rcases ha' with rfl | rfl | rfl | rfl | rfl <;> decide
  rw [g_X11_isOfKind_4, if_neg (show ¬ (5 : Int32) ≤ nI j from nI_ge (a := j) (b := 5) hj (by decide)), ev_X11_isKind, b_some]
  dsimp only
  rw [if_neg hk, g_t hp, nI_clamp (by omega), nI_1]
theorem ev_kind0 (S : PS) (v : Int32) (fuel : Nat) {j : Nat} (hj : j < 5) : g_X11_isOfKind_4 (fuel + 1) S v (-1) (nI j) = some (.inr S) := by
  rw [g_X11_isOfKind_4, if_neg (show ¬ (5 : Int32) ≤ nI j from nI_ge (a := j) (b := 5) hj (by decide)), ev_X11_isKind, b_some]
  dsimp only
  rw [if_pos (by decide)]
def pkd (a b : Nat) : Int32 := if b = 0 ∨ a = b ∨ (a = 3 ∧ b = 1) ∨ (a = 4 ∧ b = 2) then 1 else 0
theorem ev_X11_isOfKind (S : PS) {a b : Nat} (ha : a < 5) (hb : b < 5) : f_X11_isOfKind S (nI a) (nI b) = some (pkd a b, S) := by
  unfold f_X11_isOfKind
  rw [show pfuel = 4092 + 1 + 1 + 1 + 1 from rfl, show (0 : Int32) = nI 0 from rfl, ev_kind1 S _ _ ha (by decide)]
  have ha' : a = 0 ∨ a = 1 ∨ a = 2 ∨ a = 3 ∨ a = 4 := by omega
  have hb' : b = 0 ∨ b = 1 ∨ b = 2 ∨ b = 3 ∨ b = 4 := by omega
  rcases ha' with rfl | rfl | rfl | rfl | rfl
  · rw [show pUnder 0 = -1 from rfl, ev_kind0 S _ _ (by decide)]
    rcases hb' with rfl | rfl | rfl | rfl | rfl <;> rfl
  · rw [show pUnder 1 = nI 0 from rfl, ev_kind1 S _ _ (by decide) (by decide), show pUnder 0 = -1 from rfl, ev_kind0 S _ _ (by decide)]
    rcases hb' with rfl | rfl | rfl | rfl | rfl <;> rfl
  · rw [show pUnder 2 = nI 0 from rfl, ev_kind1 S _ _ (by decide) (by decide), show pUnder 0 = -1 from rfl, ev_kind0 S _ _ (by decide)]
    rcases hb' with rfl | rfl | rfl | rfl | rfl <;> rfl
  · rw [show pUnder 3 = nI 1 from rfl, ev_kind1 S _ _ (by decide) (by decide), show pUnder 1 = nI 0 from rfl, ev_kind1 S _ _ (by decide) (by decide), show pUnder 0 = -1 from rfl, ev_kind0 S _ _ (by decide)]
    rcases hb' with rfl | rfl | rfl | rfl | rfl <;> rfl
  · rw [show pUnder 4 = nI 2 from rfl, ev_kind1 S _ _ (by decide) (by decide), show pUnder 2 = nI 0 from rfl, ev_kind1 S _ _ (by decide) (by decide), show pUnder 0 = -1 from rfl, ev_kind0 S _ _ (by decide)]
    rcases hb' with rfl | rfl | rfl | rfl | rfl <;> rfl
theorem ev_X12_isUnder (S : PS) {a b : Nat} (ha : a < 5) (hb : b < 5) : f_X12_isUnder S (nI a) (nI b) = some (pkd a b, S) := by
  have ha' : a = 0 ∨ a = 1 ∨ a = 2 ∨ a = 3 ∨ a = 4 := by omega
  have hb' : b = 0 ∨ b = 1 ∨ b = 2 ∨ b = 3 ∨ b = 4 := by omega
  rcases ha' with rfl | rfl | rfl | rfl | rfl <;> rcases hb' with rfl | rfl | rfl | rfl | rfl <;> rfl
theorem eq_taken : pEq2 Rel f_X11_taken f_X12_taken := by
  intro S T h v1 v2
  have hb := h.b
  have hx := h.x
  obtain ⟨k, hk, hk16⟩ := h.x.k
  have hk' : T.1 4 = nI k := by rw [hb.1.2.2.2.2]; exact hk
  show pQ _ _
  unfold f_X11_taken f_X12_taken
  refine pQ.bnds (ev_X11_isName S v1) (ev_X12_isName T v1) rfl (pQ.ite (fun _ => pQ.r h _) (fun h1 => ?_))
  refine pQ.bnds (ev_X11_isKind S v2) (ev_X12_in T v2 0 4) rfl (pQ.ite (fun _ => pQ.r h _) (fun h2 => ?_))
  refine pQ.bnds (ev_X1_placeOf S v1 hk hk16) (ev_X12_find T v1 hk' hk16) (by rw [hb.2.1.2.2.1]) ?_
  obtain ⟨c, rfl, hc, -⟩ := pwi_nI (hi := 4) h2 rfl rfl
  rcases pfn_in (S.2 2) v1 k with e | ⟨i, hi, e, -⟩
  · rw [e, if_neg (by decide), if_neg (by decide)]
    exact pQ.r h _
  · rw [e]
    have hp := pin_nI (show i < 16 by omega) (by decide : 16 < 2 ^ 31)
    refine pQ.ite (fun _ => ?_) (fun _ => pQ.r h _)
    obtain ⟨-, hkind, -⟩ := hx.goods hk hi hk16
    obtain ⟨d, hd, -, hd2, -⟩ := rngN hkind (by decide)
    rw [g_t hp, g_t hp, nI_clamp (by omega), hb.2.1.2.2.2.1, hd]
    exact pQ.bnds (ev_X11_isOfKind S (by omega) (by omega)) (ev_X12_isUnder T (by omega) (by omega)) rfl (pQ.ite (fun _ => pQ.r h _) (fun _ => pQ.gd hp hp (pQ.re h (by rw [hb.2.1.2.2.2.2.1]))))
