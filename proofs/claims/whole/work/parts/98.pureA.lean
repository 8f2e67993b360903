/-! THE PURE PART, 98A: the acts of a text, with what stays -/
/-- what two boats become, and what stays -/
def bQ (S T S' T' : PS) : Prop := ((∀ k, 5 ≤ k → k ≤ 99 → S'.1 k = S.1 k) ∧ (∀ k, 12 ≤ k → k ≤ 99 → S'.2 k = S.2 k)) ∧ ((∀ k, 5 ≤ k → k ≤ 99 → T'.1 k = T.1 k) ∧ (∀ k, 12 ≤ k → k ≤ 99 → T'.2 k = T.2 k)) ∧ bE S' T' ∧ bOK S'.1 S'.2
theorem bQ.mk {S T S' T' : PS} (hX : (∀ k, 5 ≤ k → k ≤ 99 → S'.1 k = S.1 k) ∧ (∀ k, 12 ≤ k → k ≤ 99 → S'.2 k = S.2 k)) (hM : (∀ k, 5 ≤ k → k ≤ 99 → T'.1 k = T.1 k) ∧ (∀ k, 12 ≤ k → k ≤ 99 → T'.2 k = T.2 k)) (hE : bE S' T') (hO : bOK S'.1 S'.2) : bQ S T S' T' := ⟨hX, hM, hE, hO⟩
theorem bQ.rf {S T : PS} (hb : bE S T) (hx : bOK S.1 S.2) : bQ S T S T := ⟨⟨fun _ _ _ => rfl, fun _ _ _ => rfl⟩, ⟨fun _ _ _ => rfl, fun _ _ _ => rfl⟩, hb, hx⟩
theorem bQ.setI {S T : PS} (hb : bE S T) {k : Nat} (hk : k < 5) (v : Int32) (hO : bOK (pI S k v).1 (pI S k v).2) : bQ S T (pI S k v) (pI T k v) := bQ.mk ⟨fun j h1 h2 => pI_out (by omega), fun j _ _ => rfl⟩ ⟨fun j h1 h2 => pI_out (by omega), fun j _ _ => rfl⟩ (hb.setI k v) hO
def pq_B (S T : PS) (f g : Option (Int32 × PS)) : Prop := ∃ (r : Int32) (S' T' : PS), f = some (r, S') ∧ g = some (r, T') ∧ bQ S T S' T'
theorem pq_B.r {S T S' T' : PS} (h : bQ S T S' T') (r : Int32) : pq_B S T (some (r, S')) (some (r, T')) := ⟨r, S', T', rfl, rfl, h⟩
theorem pq_B.re {S T S' T' : PS} (h : bQ S T S' T') {r r' : Int32} (e : r' = r) : pq_B S T (some (r, S')) (some (r', T')) := by rw [e]; exact pq_B.r h r
theorem pq_B.ite {S T : PS} {c : Prop} [Decidable c] {f1 f2 g1 g2 : Option (Int32 × PS)} (h1 : c → pq_B S T f1 g1) (h2 : ¬ c → pq_B S T f2 g2) : pq_B S T (if c then f1 else f2) (if c then g1 else g2) := by
  by_cases h : c
  · rw [if_pos h, if_pos h]; exact h1 h
  · rw [if_neg h, if_neg h]; exact h2 h
theorem pq_B.bnds {S0 T0 S T : PS} {f g : Option (Int32 × PS)} {r r' : Int32} {k k' : Int32 → PS → Option (Int32 × PS)} (h1 : f = some (r, S)) (h2 : g = some (r', T)) (e : r' = r) (hk : pq_B S0 T0 (k r S) (k' r T)) : pq_B S0 T0 (pbnd f k) (pbnd g k') := by
  rw [h1, h2, e]; exact hk
theorem pq_B.gd {S T : PS} {b b' : Bool} {f g : Option (Int32 × PS)} (h1 : b = true) (h2 : b' = true) (h : pq_B S T f g) : pq_B S T (pgd b f) (pgd b' g) := by
  rw [h1, h2]; exact h
theorem bq_set {S T : PS} (hb : bE S T) (hx : bOK S.1 S.2) (v1 v2 : Int32) : pq_B S T (f_X11_set S v1 v2) (f_X12_set T v1 v2) := by
  unfold f_X11_set f_X12_set f_X11_setDeep f_X11_setShell f_X11_setWet
  simp only [ev_X11_isWithin, ev_X12_in, b_some]
  refine pq_B.ite (fun _ => ?_) (fun _ => pq_B.ite (fun _ => ?_) (fun _ => pq_B.ite (fun _ => ?_) (fun _ => pq_B.r (bQ.rf hb hx) _)))
  · by_cases h2 : pwi v2 1 60 = 0
    · rw [if_pos h2, if_pos h2, b_some]; exact pq_B.r (bQ.rf hb hx) _
    · rw [if_neg h2, if_neg h2, b_some]
      have hr : rng v2 1 60 := pwi_rng h2 rfl rfl
      refine pq_B.re ?_ hb.1.2.1
      exact bQ.setI hb (k := 1) (by decide) v2 ⟨hx.1, hr, hx.2.2⟩
  · by_cases h2 : pwi v2 1 9999 = 0
    · rw [if_pos h2, if_pos h2, b_some]; exact pq_B.r (bQ.rf hb hx) _
    · rw [if_neg h2, if_neg h2, b_some]
      have hr : rng v2 1 9999 := pwi_rng h2 rfl rfl
      refine pq_B.re ?_ hb.1.2.2.1
      exact bQ.setI hb (k := 2) (by decide) v2 ⟨hx.1, hx.2.1, hr, hx.2.2.2⟩
  · by_cases h2 : pwi v2 0 1 = 0
    · rw [if_pos h2, if_pos h2, b_some]; exact pq_B.r (bQ.rf hb hx) _
    · rw [if_neg h2, if_neg h2, b_some]
      have hr : rng v2 0 1 := pwi_rng h2 rfl rfl
      refine pq_B.re ?_ hb.1.2.2.2.1
      exact bQ.setI hb (k := 3) (by decide) v2 ⟨hx.1, hx.2.1, hx.2.2.1, hr, hx.2.2.2.2⟩
theorem bq_fill {S T : PS} (hb : bE S T) (hx : bOK S.1 S.2) (v1 v2 : Int32) : pq_B S T (f_X11_fill S v1 v2) (f_X12_fill T v1 v2) := by
  unfold f_X11_fill f_X12_fill
  refine pq_B.bnds (ev_X11_isTank S v1) (ev_X12_isTank T v1) rfl (pq_B.ite (fun _ => pq_B.r (bQ.rf hb hx) _) (fun h1 => ?_))
  refine pq_B.ite (fun h2 => ?_) (fun _ => pq_B.r (bQ.rf hb hx) _)
  obtain ⟨i, rfl, hi, -⟩ := pwi_nI (hi := 3) h1 rfl rfl
  have hp := pin_nI (show i < 4 by omega) (by decide : 4 < 2 ^ 31)
  obtain ⟨-, h9, h10, h11, hz⟩ := hx.tanks (show i < 4 by omega)
  simp only [g_t hp, nI_clamp (show i < 2 ^ 31 by omega), hb.2.2.2.1, hb.2.2.2.2.1, hb.2.2.2.2.2, ev_X8_isThere S (show i < 4 by omega), b_some]
  unfold pthr
  have e0 : (0 : Int32).toInt = 0 := rfl
  by_cases hw : S.2 9 i = 0
  · rw [if_pos hw, if_pos (show S.2 9 i ≤ 0 by rw [hw]; decide), if_pos rfl]
    by_cases hl : S.2 10 i < v2
    · rw [if_pos hl]; exact pq_B.r (bQ.rf hb hx) _
    · rw [if_neg hl]; exact pq_B.r (bQ.rf hb hx) _
  · have hw' : ¬ S.2 9 i ≤ 0 := fun q => hw (tinj (by
      have := tle.mp q
      have := h9.1
      omega))
    rw [if_neg hw, if_neg hw', if_neg (show ¬ (1 : Int32) = 0 by decide)]
    by_cases hl : S.2 10 i < v2
    · rw [if_pos hl, if_neg (Int32.not_le.mpr hl)]; exact pq_B.r (bQ.rf hb hx) _
    · rw [if_neg hl, if_pos (Int32.not_lt.mp hl)]
      refine pq_B.r ?_ _
      refine bQ.mk ⟨fun j h1 h2 => rfl, fun j h1 h2 => pAr_out (by omega)⟩ ⟨fun j h1 h2 => rfl, fun j h1 h2 => pAr_out (by omega)⟩ (hb.setA 11 _) ?_
      refine ⟨hx.1, hx.2.1, hx.2.2.1, hx.2.2.2.1, hx.2.2.2.2.1, hx.2.2.2.2.2.1, hx.2.2.2.2.2.2.1, hx.2.2.2.2.2.2.2.1, fun t ht => ?_⟩
      show rng (S.2 8 t) 0 9 ∧ rng (S.2 9 t) 0 20 ∧ rng (S.2 10 t) 0 999 ∧ rng (upd (S.2 11) i v2 t) 0 999 ∧ (S.2 9 t = 0 → upd (S.2 11) i v2 t = 0)
      rw [upd_at]
      obtain ⟨q1, q2, q3, q4, q5⟩ := hx.tanks ht
      by_cases e : t = i
      · rw [if_pos e]
        refine ⟨q1, q2, q3, ?_, fun q => absurd (by rw [← e]; exact q) hw⟩
        have l1 := tle.mp h2
        have l2 := tle.mp (Int32.not_lt.mp hl)
        unfold rng at h10 ⊢
        omega
      · rw [if_neg e]; exact ⟨q1, q2, q3, q4, q5⟩
theorem bq_move {S T : PS} (hb : bE S T) (hx : bOK S.1 S.2) (v1 v2 v3 : Int32) : pq_B S T (f_X11_move S v1 v2 v3) (f_X12_move T v1 v2 v3) := by
  obtain ⟨k, hk, hk16⟩ := hx.k
  have hk' : T.1 4 = nI k := by rw [hb.1.2.2.2.2]; exact hk
  unfold f_X11_move f_X12_move
  refine pq_B.bnds (ev_X11_isName S v1) (ev_X12_isName T v1) rfl (pq_B.ite (fun _ => pq_B.r (bQ.rf hb hx) _) (fun h1 => ?_))
  refine pq_B.bnds (ev_X2_hasSection S v2) (ev_X12_isSection T v2) (psec_eq hb v2) (pq_B.ite (fun _ => pq_B.r (bQ.rf hb hx) _) (fun h2 => ?_))
  refine pq_B.bnds (ev_X11_isSide S v3) (ev_X12_in T v3 (-20) 20) rfl (pq_B.ite (fun _ => pq_B.r (bQ.rf hb hx) _) (fun h3 => ?_))
  refine pq_B.bnds (ev_X1_placeOf S v1 hk hk16) (ev_X12_find T v1 hk' hk16) (by rw [hb.2.1.2.2.1]) ?_
  obtain ⟨c, rfl, hc, -⟩ := psec_in hx h2
  have hr3 : rng v3 (-20) 20 := pwi_rng h3 rfl rfl
  rcases pfn_in (S.2 2) v1 k with e | ⟨i, hi, e, -⟩
  · rw [e, if_neg (by decide), if_neg (by decide)]
    exact pq_B.r (bQ.rf hb hx) _
  · rw [e]
    have hp := pin_nI (show i < 16 by omega) (by decide : 16 < 2 ^ 31)
    refine pq_B.ite (fun _ => ?_) (fun _ => pq_B.r (bQ.rf hb hx) _)
    rw [g_t hp, g_t hp, g_t hp, g_t hp, g_t hp, g_t hp, nI_clamp (by omega), hb.2.1.2.2.2.2.2.1, hb.2.1.2.2.2.2.2.2.1]
    refine pq_B.r ?_ _
    refine bQ.mk ⟨fun j h1 h2 => rfl, fun j h1 h2 => ?_⟩ ⟨fun j h1 h2 => rfl, fun j h1 h2 => ?_⟩ ((hb.setA 5 _).setA 6 _) ?_
    · rw [pAr_out (by omega), pAr_out (by omega)]
    · rw [pAr_out (by omega), pAr_out (by omega)]
    · refine ⟨hx.1, hx.2.1, hx.2.2.1, hx.2.2.2.1, hx.2.2.2.2.1, hx.2.2.2.2.2.1, fun j hj => ?_, hx.2.2.2.2.2.2.2.1, hx.2.2.2.2.2.2.2.2⟩
      obtain ⟨q1, q2, q3, q4, q5, q6⟩ := hx.2.2.2.2.2.2.1 j hj
      show rng (S.2 2 j) 1 531440 ∧ rng (S.2 3 j) 0 4 ∧ rng (S.2 4 j) 1 999 ∧ rng (upd (S.2 5) i (nI c) j) 0 9 ∧ rng (upd (S.2 6) i v3 j) (-20) 20 ∧ rng (S.2 7 j) 0 40
      rw [upd_at, upd_at]
      by_cases e : j = i
      · rw [if_pos e, if_pos e]
        exact ⟨q1, q2, q3, (rng_nI (by omega)).mpr ⟨by omega, by omega⟩, hr3, q6⟩
      · rw [if_neg e, if_neg e]; exact ⟨q1, q2, q3, q4, q5, q6⟩
theorem bq_take {S T : PS} (hb : bE S T) (hx : bOK S.1 S.2) (v : Int32) : pq_B S T (f_X11_take S v) (f_X12_take T v) := by
  obtain ⟨k, hk, hk16⟩ := hx.k
  have hk' : T.1 4 = nI k := by rw [hb.1.2.2.2.2]; exact hk
  unfold f_X11_take f_X12_take
  refine pq_B.bnds (ev_X11_isName S v) (ev_X12_isName T v) rfl (pq_B.ite (fun _ => pq_B.r (bQ.rf hb hx) _) (fun h2 => ?_))
  refine pq_B.bnds (ev_X1_placeOf S v hk hk16) (ev_X12_find T v hk' hk16) (by rw [hb.2.1.2.2.1]) ?_
  rcases pfn_in (S.2 2) v k with e | ⟨i, hi, e, -⟩
  · rw [e, if_neg (by decide), if_neg (by decide)]
    exact pq_B.r (bQ.rf hb hx) _
  · rw [e]
    refine pq_B.ite (fun _ => ?_) (fun _ => pq_B.r (bQ.rf hb hx) _)
    have e1 : nI k - nI i - 1 = nI (k - 1 - i) := by
      rw [pk_sub (by omega)]
      have := pk_sub (a := k - i) (b := 1) (by omega)
      rw [show k - 1 - i = k - i - 1 by omega]
      exact this
    have hl := ev_takeLoop hk' hk16 (pw S i) hi (k - 1 - i) i pfuel (Nat.le_refl i) (by omega) (pfuel_gt (by omega))
    rw [Nat.sub_self, pMv_0] at hl
    have e2 : nI k - 1 = nI (k - 1) := pk_sub (a := k) (b := 1) (by omega)
    rw [ev_X0_weighsAt S (by omega), b_some, ev_X12_weighs hb (by omega), b_some]
    dsimp only
    unfold f_X1_closePlace
    rw [hk, e1, nI_1, ev_X1_copyPlaces S (by omega) (by omega), b_some, hl, lp_r]
    dsimp only
    rw [b_some]
    dsimp only
    rw [show (pMv S (i + 1) i (k - 1 - i)).1 4 = nI k from hk, show (pMv T (i + 1) i (k - 1 - i)).1 4 = nI k from hk', e2]
    refine pq_B.r ?_ _
    refine bQ.mk ⟨fun j h1 h2 => pI_out (by omega), fun j h1 h2 => pMv_out _ _ _ _ (by omega)⟩ ⟨fun j h1 h2 => pI_out (by omega), fun j h1 h2 => pMv_out _ _ _ _ (by omega)⟩ ?_ ?_
    · refine hb.cargo ⟨fun j hj => pI_out (by omega), fun c hc => pMv_out _ _ _ _ hc⟩ ⟨fun j hj => pI_out (by omega), fun c hc => pMv_out _ _ _ _ hc⟩ rfl (fun c h1 h2 => ?_)
      rw [pI_2, pI_2, pMv_in _ _ _ _ h1 h2, pMv_in _ _ _ _ h1 h2, hcE hb h1 h2]
    · have hg : ∀ j, j < k → _ := fun j hj => hx.goods hk (j := j) hj hk16
      have hs : ∀ a b, a < b → b < k → _ := fun a b hab hb => hx.sorted hk (i := a) (j := b) hab hb hk16
      obtain ⟨q0, q1, q2, q3, q4, q5, q6, q7, q8⟩ := hx
      refine ⟨q0, q1, q2, q3, (rng_nI (by omega)).mpr ⟨by omega, by omega⟩, q5, fun j hj => ?_, fun a b hab hb => ?_, q8⟩
      · have hj' : (j : Int) < (nI (k - 1)).toInt := hj
        rw [nI_toInt (by omega)] at hj'
        rw [pI_2, pMv_in _ _ _ _ (by decide) (by decide), pMv_in _ _ _ _ (by decide) (by decide), pMv_in _ _ _ _ (by decide) (by decide), pMv_in _ _ _ _ (by decide) (by decide), pMv_in _ _ _ _ (by decide) (by decide), pMv_in _ _ _ _ (by decide) (by decide)]
        by_cases hji : j < i
        · rw [pk_cpy_out (Or.inl hji), pk_cpy_out (Or.inl hji), pk_cpy_out (Or.inl hji), pk_cpy_out (Or.inl hji), pk_cpy_out (Or.inl hji), pk_cpy_out (Or.inl hji)]
          exact hg j (by omega)
        · rw [pk_cpy_in (by omega) (by omega), pk_cpy_in (by omega) (by omega), pk_cpy_in (by omega) (by omega), pk_cpy_in (by omega) (by omega), pk_cpy_in (by omega) (by omega), pk_cpy_in (by omega) (by omega)]
          exact hg _ (by omega)
      · have hb' : (b : Int) < (nI (k - 1)).toInt := hb
        rw [nI_toInt (by omega)] at hb'
        rw [pI_2, pMv_in _ _ _ _ (by decide) (by decide)]
        by_cases hbi : b < i
        · rw [pk_cpy_out (Or.inl hbi), pk_cpy_out (j := a) (by omega)]
          exact hs a b hab (by omega)
        · rw [pk_cpy_in (j := b) (by omega) (by omega)]
          by_cases hai : a < i
          · rw [pk_cpy_out (Or.inl hai)]
            exact hs a _ (by omega) (by omega)
          · rw [pk_cpy_in (j := a) (by omega) (by omega)]
            exact hs _ _ (by omega) (by omega)
theorem bq_put {S T : PS} (hb : bE S T) (hx : bOK S.1 S.2) (v1 v2 v3 v4 v5 v6 : Int32) : pq_B S T (f_X11_put S v1 v2 v3 v4 v5 v6) (f_X12_put T v1 v2 v3 v4 v5 v6) := by
  obtain ⟨k, hk, hk16⟩ := hx.k
  have hk' : T.1 4 = nI k := by rw [hb.1.2.2.2.2]; exact hk
  unfold f_X11_put f_X12_put
  refine pq_B.bnds (ev_X11_isName S v1) (ev_X12_isName T v1) rfl (pq_B.ite (fun _ => pq_B.r (bQ.rf hb hx) _) (fun g1 => ?_))
  refine pq_B.bnds (ev_X11_isKind S v2) (ev_X12_in T v2 0 4) rfl (pq_B.ite (fun _ => pq_B.r (bQ.rf hb hx) _) (fun g2 => ?_))
  refine pq_B.bnds (ev_X11_isWithin S v3 1 999) (ev_X12_in T v3 1 999) rfl (pq_B.ite (fun _ => pq_B.r (bQ.rf hb hx) _) (fun g3 => ?_))
  refine pq_B.bnds (ev_X2_hasSection S v4) (ev_X12_isSection T v4) (psec_eq hb v4) (pq_B.ite (fun _ => pq_B.r (bQ.rf hb hx) _) (fun g4 => ?_))
  refine pq_B.bnds (ev_X11_isSide S v5) (ev_X12_in T v5 (-20) 20) rfl (pq_B.ite (fun _ => pq_B.r (bQ.rf hb hx) _) (fun g5 => ?_))
  refine pq_B.bnds (ev_X11_isWithin S v6 0 40) (ev_X12_in T v6 0 40) rfl (pq_B.ite (fun _ => pq_B.r (bQ.rf hb hx) _) (fun g6 => ?_))
  refine pq_B.bnds (ev_X1_placeOf S v1 hk hk16) (ev_X12_find T v1 hk' hk16) (by rw [hb.2.1.2.2.1]) ?_
  have r1 : rng v1 1 531440 := (pname_cases v1).elim (fun q => absurd q g1) (fun q => q.2)
  have r2 : rng v2 0 4 := pwi_rng g2 rfl rfl
  have r3 : rng v3 1 999 := pwi_rng g3 rfl rfl
  obtain ⟨c4, hc4, hc4', -⟩ := psec_in hx g4
  have r4 : rng v4 0 9 := by rw [hc4]; exact (rng_nI (by omega)).mpr ⟨by omega, by omega⟩
  have r5 : rng v5 (-20) 20 := pwi_rng g5 rfl rfl
  have r6 : rng v6 0 40 := pwi_rng g6 rfl rfl
  rcases pfn_spec (S.2 2) v1 k 0 with ⟨e, hno⟩ | ⟨i, -, hi, e, -⟩
  · rw [e, if_pos (show (-1 : Int32) < 0 by decide), if_pos (show (-1 : Int32) < 0 by decide), hk, hk']
    by_cases hf : k = 16
    · rw [hf, if_neg (by decide), if_pos (by decide)]
      exact pq_B.r (bQ.rf hb hx) _
    · rw [if_pos (show nI k < (16 : Int32) from nI_lt (a := k) (b := 16) (by omega) (by decide)), if_neg (show ¬ nI k = (16 : Int32) from fun q => hf ((nI_eq (a := k) (b := 16) (by omega) (by decide)).mp q))]
      have hk15 : k < 16 := by omega
      have hpl := (pbh_le (S.2 2) v1 k 0).2
      obtain ⟨hlo, hat⟩ := pbh_spec (S.2 2) v1 k 0
      have hs : ∀ a b, a < b → b < k → (S.2 2 a).toInt < (S.2 2 b).toInt := fun a b hab hb => hx.sorted hk (i := a) (j := b) hab hb hk16
      have hhi : ∀ i, pbh (S.2 2) v1 k 0 ≤ i → i < k → v1 < S.2 2 i := by
        intro i h1 h2
        have h3 := hat (by omega)
        by_cases q : pbh (S.2 2) v1 k 0 = i
        · rw [← q]; exact h3
        · exact Int32.lt_trans h3 (tlt.mpr (hs _ i (by omega) h2))
      rw [ev_X1_openPlace v1 hk hk15, b_some]
      generalize pbh (S.2 2) v1 k 0 = p at hpl hlo hat hhi ⊢
      have hl := ev_putLoop (T := T) v1 v2 v3 v4 v5 v6 (k := k) (p := p) hk15 (fun i hi => by rw [hb.2.1.2.2.1]; exact hlo i (by omega) hi) (fun i h1 h2 => by rw [hb.2.1.2.2.1]; exact hhi i h1 h2) (k - p) pfuel (by omega) (pfuel_gt (by omega))
      rw [show p + (k - p) = k by omega, Nat.sub_self, pMv_0] at hl
      have hp := pin_nI (show p < 16 by omega) (by decide : 16 < 2 ^ 31)
      dsimp only
      rw [hl, lp_r]
      dsimp only
      rw [g_t hp, g_t hp, g_t hp, g_t hp, g_t hp, g_t hp, g_t hp, g_t hp, g_t hp, g_t hp, g_t hp, nI_clamp (by omega), show (pMv T p (p + 1) (k - p)).1 4 = nI k from hk', nI_1]
      have hX2 : ∃ S', S' = pAr (pAr (pAr (pAr (pAr (pAr (pI (pMv S p (p + 1) (k - p)) 4 (nI (k + 1))) 2 (pins (S.2 2) p k v1)) 3 (pins (S.2 3) p k v2)) 4 (pins (S.2 4) p k v3)) 5 (pins (S.2 5) p k v4)) 6 (pins (S.2 6) p k v5)) 7 (pins (S.2 7) p k v6) ∧ S'.1 4 = nI (k + 1) ∧ (∀ j, ¬ j = 4 → S'.1 j = S.1 j) ∧ (∀ c, (c < 2 ∨ 7 < c) → S'.2 c = S.2 c) ∧ (∀ c, 2 ≤ c → c ≤ 7 → S'.2 c = pins (S.2 c) p k (pcol v1 v2 v3 v4 v5 v6 c)) := by
        refine ⟨_, rfl, rfl, fun j hj => pI_out hj, fun c hc => ?_, fun c h1 h2 => ?_⟩
        · repeat rw [pAr_out (by omega)]
          rw [pI_2, pMv_out _ _ _ _ hc]
        · have : c = 2 ∨ c = 3 ∨ c = 4 ∨ c = 5 ∨ c = 6 ∨ c = 7 := by omega
          rcases this with rfl | rfl | rfl | rfl | rfl | rfl <;> rfl
      have hM2 : ∃ T', T' = pI (pAr (pAr (pAr (pAr (pAr (pAr (pMv T p (p + 1) (k - p)) 2 (pins (T.2 2) p k v1)) 3 (pins (T.2 3) p k v2)) 4 (pins (T.2 4) p k v3)) 5 (pins (T.2 5) p k v4)) 6 (pins (T.2 6) p k v5)) 7 (pins (T.2 7) p k v6)) 4 (nI (k + 1)) ∧ T'.1 4 = nI (k + 1) ∧ (∀ j, ¬ j = 4 → T'.1 j = T.1 j) ∧ (∀ c, (c < 2 ∨ 7 < c) → T'.2 c = T.2 c) ∧ (∀ c, 2 ≤ c → c ≤ 7 → T'.2 c = pins (T.2 c) p k (pcol v1 v2 v3 v4 v5 v6 c)) := by
        refine ⟨_, rfl, rfl, fun j hj => pI_out hj, fun c hc => ?_, fun c h1 h2 => ?_⟩
        · rw [pI_2]
          repeat rw [pAr_out (by omega)]
          rw [pMv_out _ _ _ _ hc]
        · have : c = 2 ∨ c = 3 ∨ c = 4 ∨ c = 5 ∨ c = 6 ∨ c = 7 := by omega
          rcases this with rfl | rfl | rfl | rfl | rfl | rfl <;> rfl
      obtain ⟨S', eS, s4, s1, s2, s3⟩ := hX2
      obtain ⟨T', eT, t4, t1, t2, t3⟩ := hM2
      have fin : pq_B S T (some (nI (k + 1), S')) (some (nI (k + 1), T')) := by
        refine pq_B.r ?_ _
        refine bQ.mk ⟨fun j h1 h2 => s1 j (by omega), fun j h1 h2 => s2 j (by omega)⟩ ⟨fun j h1 h2 => t1 j (by omega), fun j h1 h2 => t2 j (by omega)⟩ ?_ ?_
        · refine hb.cargo ⟨fun j hj => s1 j (by omega), fun c hc => s2 c hc⟩ ⟨fun j hj => t1 j (by omega), fun c hc => t2 c hc⟩ (by rw [s4, t4]) (fun c h1 h2 => ?_)
          rw [s3 c h1 h2, t3 c h1 h2, hcE hb h1 h2]
        · have hg : ∀ j, j < k → rng (S.2 2 j) 1 531440 ∧ rng (S.2 3 j) 0 4 ∧ rng (S.2 4 j) 1 999 ∧ rng (S.2 5 j) 0 9 ∧ rng (S.2 6 j) (-20) 20 ∧ rng (S.2 7 j) 0 40 := fun j hj => hx.goods hk (j := j) hj hk16
          obtain ⟨q0, q1, q2, q3, q4, q5, q6, q7, q8⟩ := hx
          have hlo' : ∀ i, i < p → (S.2 2 i).toInt < v1.toInt := by
            intro i hi
            have a1 := hlo i (by omega) hi
            have a2 := hno i (by omega) (by omega)
            have a3 : ¬ v1.toInt < (S.2 2 i).toInt := fun q => a1 (tlt.mpr q)
            have a4 : ¬ (S.2 2 i).toInt = v1.toInt := fun q => a2 (tinj q)
            omega
          have hhi' : ∀ i, p ≤ i → i < k → v1.toInt < (S.2 2 i).toInt := fun i h1 h2 => tlt.mp (hhi i h1 h2)
          refine ⟨by rw [s1 0 (by decide)]; exact q0, by rw [s1 1 (by decide)]; exact q1, by rw [s1 2 (by decide)]; exact q2, by rw [s1 3 (by decide)]; exact q3, by rw [s4]; exact (rng_nI (by omega)).mpr ⟨by omega, by omega⟩, by rw [s2 0 (by decide), s2 1 (by decide)]; exact q5, fun j hj => ?_, fun a b hab hbk => ?_, by rw [s2 8 (by decide), s2 9 (by decide), s2 10 (by decide), s2 11 (by decide)]; exact q8⟩
          · rw [s4, nI_toInt (by omega)] at hj
            rw [s3 2 (by decide) (by decide), s3 3 (by decide) (by decide), s3 4 (by decide) (by decide), s3 5 (by decide) (by decide), s3 6 (by decide) (by decide), s3 7 (by decide) (by decide)]
            rcases Nat.lt_trichotomy j p with hjp | hjp | hjp
            · rw [pins_lt hjp, pins_lt hjp, pins_lt hjp, pins_lt hjp, pins_lt hjp, pins_lt hjp]
              exact hg j (by omega)
            · rw [hjp, pins_eq, pins_eq, pins_eq, pins_eq, pins_eq, pins_eq]
              exact ⟨r1, r2, r3, r4, r5, r6⟩
            · rw [pins_gt hjp (by omega), pins_gt hjp (by omega), pins_gt hjp (by omega), pins_gt hjp (by omega), pins_gt hjp (by omega), pins_gt hjp (by omega)]
              exact hg (j - 1) (by omega)
          · rw [s4, nI_toInt (by omega)] at hbk
            rw [s3 2 (by decide) (by decide)]
            rcases Nat.lt_trichotomy b p with hbp | hbp | hbp
            · rw [pins_lt hbp, pins_lt (show a < p by omega)]
              exact hs a b hab (by omega)
            · rw [hbp, pins_eq, pins_lt (show a < p by omega)]
              exact hlo' a (by omega)
            · rw [pins_gt hbp (by omega)]
              rcases Nat.lt_trichotomy a p with hap | hap | hap
              · rw [pins_lt hap]
                exact Int.lt_trans (hlo' a hap) (hhi' (b - 1) (by omega) (by omega))
              · rw [hap, pins_eq]
                exact hhi' (b - 1) (by omega) (by omega)
              · rw [pins_gt hap (by omega)]
                exact hs (a - 1) (b - 1) (by omega) (by omega)
      rw [eS, eT] at fin
      exact fin
  · rw [e, if_neg (nI_pos (by omega)), if_neg (nI_pos (by omega))]
    exact pq_B.r (bQ.rf hb hx) _
