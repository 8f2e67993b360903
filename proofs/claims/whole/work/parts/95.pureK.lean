/-! THE PURE PART, K: put -/
def pins (f : Nat → Int32) (p k : Nat) (x : Int32) : Nat → Int32 := upd (va_cpy f f p (p + 1) (k - p)) p x
theorem pins_lt {f : Nat → Int32} {p k : Nat} {x : Int32} {j : Nat} (h : j < p) : pins f p k x j = f j := by
  unfold pins
  rw [upd_at, if_neg (by omega), pk_cpy_out (by omega)]
theorem pins_eq {f : Nat → Int32} {p k : Nat} {x : Int32} : pins f p k x p = x := by
  unfold pins
  rw [upd_at, if_pos rfl]
theorem pins_gt {f : Nat → Int32} {p k : Nat} {x : Int32} {j : Nat} (h : p < j) (h2 : j ≤ k) : pins f p k x j = f (j - 1) := by
  unfold pins
  rw [upd_at, if_neg (by omega), pk_cpy_in (by omega) (by omega)]
  congr 1
  omega
def pcol (v1 v2 v3 v4 v5 v6 : Int32) : Nat → Int32
  | 2 => v1
  | 3 => v2
  | 4 => v3
  | 5 => v4
  | 6 => v5
  | _ => v6
theorem ev_X1_openPlace {S : PS} (v : Int32) {k : Nat} (hk : S.1 4 = nI k) (hk16 : k < 16) : f_X1_openPlace S v = some (nI (pbh (S.2 2) v k 0), pAr (pI (pMv S (pbh (S.2 2) v k 0) (pbh (S.2 2) v k 0 + 1) (k - pbh (S.2 2) v k 0)) 4 (nI (k + 1))) 2 (pins (S.2 2) (pbh (S.2 2) v k 0) k v)) := by
  have hle := (pbh_le (S.2 2) v k 0).2
  unfold f_X1_openPlace
  rw [ev_X1_placeBehind v hk (by omega), b_some]
  generalize pbh (S.2 2) v k 0 = p at hle ⊢
  have hmin : ∀ a b : Nat, a ≤ b → b < 100 → pmin (nI a) (nI b) = nI a := by
    intro a b hab hb
    unfold pmin
    rw [if_neg (nI_nlt hab (by omega))]
  have e1 : pmin (nI p) 15 = nI p := hmin p 15 (by omega) (by decide)
  have e2 : pmin (nI k) 15 = nI k := hmin k 15 (by omega) (by decide)
  have e3 : nI k - nI p = nI (k - p) := pk_sub (by omega)
  have e4 : pmin (nI (k + 1)) 16 = nI (k + 1) := hmin (k + 1) 16 (by omega) (by decide)
  dsimp only
  rw [e1, hk, e2, e3, nI_1, ev_X1_copyPlaces S (by omega) (by omega), b_some]
  dsimp only
  rw [show (pMv S p (p + 1) (k - p)).1 4 = nI k from hk, nI_1, e4, g_t (pin_nI (show p < 16 by omega) (by decide)), nI_clamp (by omega), pMv_in _ _ _ _ (by decide) (by decide)]
  rfl
theorem eq_put : pEq6 Rel f_X11_put f_X12_put := by
  intro S T h v1 v2 v3 v4 v5 v6
  have hb := h.b
  have hx := h.x
  obtain ⟨k, hk, hk16⟩ := h.x.k
  have hk' : T.1 4 = nI k := by rw [hb.1.2.2.2.2]; exact hk
  show pQ _ _
  unfold f_X11_put f_X12_put
  refine pQ.bnds (ev_X11_isName S v1) (ev_X12_isName T v1) rfl (pQ.ite (fun _ => pQ.r h _) (fun g1 => ?_))
  refine pQ.bnds (ev_X11_isKind S v2) (ev_X12_in T v2 0 4) rfl (pQ.ite (fun _ => pQ.r h _) (fun g2 => ?_))
  refine pQ.bnds (ev_X11_isWithin S v3 1 999) (ev_X12_in T v3 1 999) rfl (pQ.ite (fun _ => pQ.r h _) (fun g3 => ?_))
  refine pQ.bnds (ev_X2_hasSection S v4) (ev_X12_isSection T v4) (psec_eq hb v4) (pQ.ite (fun _ => pQ.r h _) (fun g4 => ?_))
  refine pQ.bnds (ev_X11_isSide S v5) (ev_X12_in T v5 (-20) 20) rfl (pQ.ite (fun _ => pQ.r h _) (fun g5 => ?_))
  refine pQ.bnds (ev_X11_isWithin S v6 0 40) (ev_X12_in T v6 0 40) rfl (pQ.ite (fun _ => pQ.r h _) (fun g6 => ?_))
  refine pQ.bnds (ev_X1_placeOf S v1 hk hk16) (ev_X12_find T v1 hk' hk16) (by rw [hb.2.1.2.2.1]) ?_
  have r1 : rng v1 1 531440 := (pname_cases v1).elim (fun q => absurd q g1) (fun q => q.2)
  have r2 : rng v2 0 4 := pwi_rng g2 rfl rfl
  have r3 : rng v3 1 999 := pwi_rng g3 rfl rfl
  obtain ⟨c4, hc4, hc4', -⟩ := psec_in hx g4
  have r4 : rng v4 0 9 := by rw [hc4]; exact (rng_nI (by omega)).mpr ⟨by omega, by omega⟩
  have r5 : rng v5 (-20) 20 := pwi_rng g5 rfl rfl
  have r6 : rng v6 0 40 := pwi_rng g6 rfl rfl
  rcases pfn_spec (S.2 2) v1 k 0 with ⟨e, hno⟩ | ⟨i, -, hi, e, -⟩
  · rw [e, if_pos (show (-1 : Int32) < 0 by decide), if_pos (show (-1 : Int32) < 0 by decide), hk, hk']
    by_cases hf : k = 16
    · rw [hf, if_neg (by decide), if_pos (by decide)]
      exact pQ.r h _
    · rw [if_pos (show nI k < (16 : Int32) from nI_lt (a := k) (b := 16) (by omega) (by decide)), if_neg (show ¬ nI k = (16 : Int32) from fun q => hf ((nI_eq (a := k) (b := 16) (by omega) (by decide)).mp q))]
      have hk15 : k < 16 := by omega
      have hpl := (pbh_le (S.2 2) v1 k 0).2
      obtain ⟨hlo, hat⟩ := pbh_spec (S.2 2) v1 k 0
      have hs : ∀ a b, a < b → b < k → (S.2 2 a).toInt < (S.2 2 b).toInt := fun a b hab hb => hx.sorted hk (i := a) (j := b) hab hb hk16
      have hhi : ∀ i, pbh (S.2 2) v1 k 0 ≤ i → i < k → v1 < S.2 2 i := by
        intro i h1 h2
        have h3 := hat (by omega)
        by_cases q : pbh (S.2 2) v1 k 0 = i
        · rw [← q]; exact h3
        · exact Int32.lt_trans h3 (tlt.mpr (hs _ i (by omega) h2))
      rw [ev_X1_openPlace v1 hk hk15, b_some]
      generalize pbh (S.2 2) v1 k 0 = p at hpl hlo hat hhi ⊢
      have hl := ev_putLoop (T := T) v1 v2 v3 v4 v5 v6 (k := k) (p := p) hk15 (fun i hi => by rw [hb.2.1.2.2.1]; exact hlo i (by omega) hi) (fun i h1 h2 => by rw [hb.2.1.2.2.1]; exact hhi i h1 h2) (k - p) pfuel (by omega) (pfuel_gt (by omega))
      rw [show p + (k - p) = k by omega, Nat.sub_self, pMv_0] at hl
      have hp := pin_nI (show p < 16 by omega) (by decide : 16 < 2 ^ 31)
      dsimp only
      rw [hl, lp_r]
      dsimp only
      rw [g_t hp, g_t hp, g_t hp, g_t hp, g_t hp, g_t hp, g_t hp, g_t hp, g_t hp, g_t hp, g_t hp, nI_clamp (by omega), show (pMv T p (p + 1) (k - p)).1 4 = nI k from hk', nI_1]
      have hX2 : ∃ S', S' = pAr (pAr (pAr (pAr (pAr (pAr (pI (pMv S p (p + 1) (k - p)) 4 (nI (k + 1))) 2 (pins (S.2 2) p k v1)) 3 (pins (S.2 3) p k v2)) 4 (pins (S.2 4) p k v3)) 5 (pins (S.2 5) p k v4)) 6 (pins (S.2 6) p k v5)) 7 (pins (S.2 7) p k v6) ∧ S'.1 4 = nI (k + 1) ∧ (∀ j, ¬ j = 4 → S'.1 j = S.1 j) ∧ (∀ c, (c < 2 ∨ 7 < c) → S'.2 c = S.2 c) ∧ (∀ c, 2 ≤ c → c ≤ 7 → S'.2 c = pins (S.2 c) p k (pcol v1 v2 v3 v4 v5 v6 c)) := by
        refine ⟨_, rfl, rfl, fun j hj => pI_out hj, fun c hc => ?_, fun c h1 h2 => ?_⟩
        · repeat rw [pAr_out (by omega)]
          rw [pI_2, pMv_out _ _ _ _ hc]
        · have : c = 2 ∨ c = 3 ∨ c = 4 ∨ c = 5 ∨ c = 6 ∨ c = 7 := by omega
          rcases this with rfl | rfl | rfl | rfl | rfl | rfl <;> rfl
      have hM2 : ∃ T', T' = pI (pAr (pAr (pAr (pAr (pAr (pAr (pMv T p (p + 1) (k - p)) 2 (pins (T.2 2) p k v1)) 3 (pins (T.2 3) p k v2)) 4 (pins (T.2 4) p k v3)) 5 (pins (T.2 5) p k v4)) 6 (pins (T.2 6) p k v5)) 7 (pins (T.2 7) p k v6)) 4 (nI (k + 1)) ∧ T'.1 4 = nI (k + 1) ∧ (∀ j, ¬ j = 4 → T'.1 j = T.1 j) ∧ (∀ c, (c < 2 ∨ 7 < c) → T'.2 c = T.2 c) ∧ (∀ c, 2 ≤ c → c ≤ 7 → T'.2 c = pins (T.2 c) p k (pcol v1 v2 v3 v4 v5 v6 c)) := by
        refine ⟨_, rfl, rfl, fun j hj => pI_out hj, fun c hc => ?_, fun c h1 h2 => ?_⟩
        · rw [pI_2]
          repeat rw [pAr_out (by omega)]
          rw [pMv_out _ _ _ _ hc]
        · have : c = 2 ∨ c = 3 ∨ c = 4 ∨ c = 5 ∨ c = 6 ∨ c = 7 := by omega
          rcases this with rfl | rfl | rfl | rfl | rfl | rfl <;> rfl
      obtain ⟨S', eS, s4, s1, s2, s3⟩ := hX2
      obtain ⟨T', eT, t4, t1, t2, t3⟩ := hM2
      have fin : pQ (some (nI (k + 1), S')) (some (nI (k + 1), T')) := by
        refine pQ.r ?_ _
        refine h.boat ⟨fun j h1 h2 => s1 j (by omega), fun j h1 h2 => s2 j (by omega)⟩ ⟨fun j h1 h2 => t1 j (by omega), fun j h1 h2 => t2 j (by omega)⟩ ?_ ?_
        · refine hb.cargo ⟨fun j hj => s1 j (by omega), fun c hc => s2 c hc⟩ ⟨fun j hj => t1 j (by omega), fun c hc => t2 c hc⟩ (by rw [s4, t4]) (fun c h1 h2 => ?_)
          rw [s3 c h1 h2, t3 c h1 h2, hcE hb h1 h2]
        · have hg : ∀ j, j < k → rng (S.2 2 j) 1 531440 ∧ rng (S.2 3 j) 0 4 ∧ rng (S.2 4 j) 1 999 ∧ rng (S.2 5 j) 0 9 ∧ rng (S.2 6 j) (-20) 20 ∧ rng (S.2 7 j) 0 40 := fun j hj => hx.goods hk (j := j) hj hk16
          obtain ⟨q0, q1, q2, q3, q4, q5, q6, q7, q8⟩ := hx
          have hlo' : ∀ i, i < p → (S.2 2 i).toInt < v1.toInt := by
            intro i hi
            have a1 := hlo i (by omega) hi
            have a2 := hno i (by omega) (by omega)
            have a3 : ¬ v1.toInt < (S.2 2 i).toInt := fun q => a1 (tlt.mpr q)
            have a4 : ¬ (S.2 2 i).toInt = v1.toInt := fun q => a2 (tinj q)
            omega
          have hhi' : ∀ i, p ≤ i → i < k → v1.toInt < (S.2 2 i).toInt := fun i h1 h2 => tlt.mp (hhi i h1 h2)
          refine ⟨by rw [s1 0 (by decide)]; exact q0, by rw [s1 1 (by decide)]; exact q1, by rw [s1 2 (by decide)]; exact q2, by rw [s1 3 (by decide)]; exact q3, by rw [s4]; exact (rng_nI (by omega)).mpr ⟨by omega, by omega⟩, by rw [s2 0 (by decide), s2 1 (by decide)]; exact q5, fun j hj => ?_, fun a b hab hbk => ?_, by rw [s2 8 (by decide), s2 9 (by decide), s2 10 (by decide), s2 11 (by decide)]; exact q8⟩
          · rw [s4, nI_toInt (by omega)] at hj
            rw [s3 2 (by decide) (by decide), s3 3 (by decide) (by decide), s3 4 (by decide) (by decide), s3 5 (by decide) (by decide), s3 6 (by decide) (by decide), s3 7 (by decide) (by decide)]
            rcases Nat.lt_trichotomy j p with hjp | hjp | hjp
            · rw [pins_lt hjp, pins_lt hjp, pins_lt hjp, pins_lt hjp, pins_lt hjp, pins_lt hjp]
              exact hg j (by omega)
            · rw [hjp, pins_eq, pins_eq, pins_eq, pins_eq, pins_eq, pins_eq]
              exact ⟨r1, r2, r3, r4, r5, r6⟩
            · rw [pins_gt hjp (by omega), pins_gt hjp (by omega), pins_gt hjp (by omega), pins_gt hjp (by omega), pins_gt hjp (by omega), pins_gt hjp (by omega)]
              exact hg (j - 1) (by omega)
          · rw [s4, nI_toInt (by omega)] at hbk
            rw [s3 2 (by decide) (by decide)]
            rcases Nat.lt_trichotomy b p with hbp | hbp | hbp
            · rw [pins_lt hbp, pins_lt (show a < p by omega)]
              exact hs a b hab (by omega)
            · rw [hbp, pins_eq, pins_lt (show a < p by omega)]
              exact hlo' a (by omega)
            · rw [pins_gt hbp (by omega)]
              rcases Nat.lt_trichotomy a p with hap | hap | hap
              · rw [pins_lt hap]
                exact Int.lt_trans (hlo' a hap) (hhi' (b - 1) (by omega) (by omega))
              · rw [hap, pins_eq]
                exact hhi' (b - 1) (by omega) (by omega)
              · rw [pins_gt hap (by omega)]
                exact hs (a - 1) (b - 1) (by omega) (by omega)
      rw [eS, eT] at fin
      exact fin
  · rw [e, if_neg (nI_pos (by omega)), if_neg (nI_pos (by omega))]
    exact pQ.r h _
