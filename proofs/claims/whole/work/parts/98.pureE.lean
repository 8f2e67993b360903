/-! THE PURE PART, 98E: the acts are done -/
theorem tX_bE {S T : PS} (h : bE S T) (a : Nat) (c : Int32) (f : Nat → Int32) : bE (tX S a c f) T := h.congr ⟨fun k hk => by
  show (if k = 12 then nI a else if k = 13 then c else S.1 k) = S.1 k
  rw [if_neg (by omega), if_neg (by omega)], fun k hk => by
  show (if k = 29 then f else S.2 k) = S.2 k
  rw [if_neg (by omega)]⟩ ⟨fun _ _ => rfl, fun _ _ => rfl⟩
theorem tX_bOK {S : PS} (h : bOK S.1 S.2) (a : Nat) (c : Int32) (f : Nat → Int32) : bOK (tX S a c f).1 (tX S a c f).2 := bOK_congr (fun k hk => by
  show (if k = 12 then nI a else if k = 13 then c else S.1 k) = S.1 k
  rw [if_neg (by omega), if_neg (by omega)]) (fun k hk => by
  show (if k = 29 then f else S.2 k) = S.2 k
  rw [if_neg (by omega)]) h
theorem tX_i {S : PS} {a : Nat} {c : Int32} {f : Nat → Int32} {k : Nat} (h : ¬ k = 12) (h2 : ¬ k = 13) : (tX S a c f).1 k = S.1 k := by
  show (if k = 12 then nI a else if k = 13 then c else S.1 k) = S.1 k
  rw [if_neg h, if_neg h2]
theorem tX_a {S : PS} {a : Nat} {c : Int32} {f : Nat → Int32} {k : Nat} (h : ¬ k = 29) : (tX S a c f).2 k = S.2 k := by
  show (if k = 29 then f else S.2 k) = S.2 k
  rw [if_neg h]
theorem tM_i {S : PS} {a q : Nat} {w u : Nat → Int32} {k : Nat} (h : ¬ k = 12) (h2 : ¬ k = 13) : (tM S a q w u).1 k = S.1 k := by
  show (if k = 12 then nI a else if k = 13 then nI q else S.1 k) = S.1 k
  rw [if_neg h, if_neg h2]
theorem tM_a {S : PS} {a q : Nat} {w u : Nat → Int32} {k : Nat} (h : ¬ k = 35) (h2 : ¬ k = 36) : (tM S a q w u).2 k = S.2 k := by
  show (if k = 35 then w else if k = 36 then u else S.2 k) = S.2 k
  rw [if_neg h, if_neg h2]
/-- an act is done -/
theorem pq_B.eta {S T : PS} {f g : Option (Int32 × PS)} (h : pq_B S T f g) : pq_B S T (pbnd f (fun r2 S_2 => some (r2, S_2))) (pbnd g (fun r2 S_2 => some (r2, S_2))) := by
  obtain ⟨r, S', T', h1, h2, h3⟩ := h
  rw [h1, h2]
  exact pq_B.r h3 r
theorem ev_doAct {P Q : PS} (hb : bE P Q) (hx : bOK P.1 P.2) {i k : Nat} (hi : i < 5) (hk : k < 80) (vs : List Int32) (hl : vs.length = (pz_sh i).length) (h13 : P.1 13 = nI i) (hf : ∀ j, j < vs.length → P.2 29 j = vs.getD j 0) (hw : Q.2 35 k = nI i) (hu : ∀ j, j < vs.length → Q.2 36 (6 * k + j) = vs.getD j 0) : pq_B P Q (f_X11_doAct P) (f_X12_done Q (nI k)) := by
  have e6 : (6 : Int32) * nI k = nI (6 * k) := pk_mul 6 k
  have e7 : ∀ j, nI (6 * k) + nI j = nI (6 * k + j) := fun j => nI_add _ _
  have p7 : ∀ j, j < 6 → pin (nI (6 * k + j)) 480 = true := fun j hj => pin_nI (by omega) (by decide)
  have c7 : ∀ j, j < 6 → (nI (6 * k + j)).toNatClampNeg = 6 * k + j := fun j hj => nI_clamp (by omega)
  have hfu : ∀ j, j < (pz_sh i).length → Q.2 36 (6 * k + j) = P.2 29 j := fun j hj => by rw [hu j (by omega), hf j (by omega)]
  unfold f_X11_doAct f_X12_done
  rw [h13, e6, show (1 : Int32) = nI 1 from rfl, show (2 : Int32) = nI 2 from rfl, show (3 : Int32) = nI 3 from rfl, show (4 : Int32) = nI 4 from rfl, show (5 : Int32) = nI 5 from rfl, e7 1, e7 2, e7 3, e7 4, e7 5]
  rw [g_t (show pin (nI (6 * k)) 480 = true from p7 0 (by decide)), g_t (p7 1 (by decide)), g_t (p7 2 (by decide)), g_t (pin_nI hk (by decide)), nI_clamp (show k < 2 ^ 31 by omega), hw]
  have hcl : (nI (6 * k)).toNatClampNeg = 6 * k + 0 := c7 0 (by decide)
  have : i = 0 ∨ i = 1 ∨ i = 2 ∨ i = 3 ∨ i = 4 := by omega
  rcases this with rfl | rfl | rfl | rfl | rfl
  · rw [if_pos (by decide), if_pos (by decide), g_t (p7 3 (by decide)), g_t (p7 4 (by decide)), g_t (p7 5 (by decide)), hcl, c7 1 (by decide), c7 2 (by decide), c7 3 (by decide), c7 4 (by decide), c7 5 (by decide), hfu 0 (by decide), hfu 1 (by decide), hfu 2 (by decide), hfu 3 (by decide), hfu 4 (by decide), hfu 5 (by decide)]
    exact (bq_put hb hx _ _ _ _ _ _).eta
  · rw [if_neg (by decide), if_pos rfl, if_neg (by decide), if_pos rfl, hcl, c7 1 (by decide), c7 2 (by decide), hfu 0 (by decide), hfu 1 (by decide), hfu 2 (by decide)]
    exact (bq_move hb hx _ _ _).eta
  · rw [if_neg (by decide), if_neg (by decide), if_pos rfl, if_neg (by decide), if_neg (by decide), if_pos rfl, hcl, hfu 0 (by decide)]
    exact (bq_take hb hx _).eta
  · rw [if_neg (by decide), if_neg (by decide), if_neg (by decide), if_pos rfl, if_neg (by decide), if_neg (by decide), if_neg (by decide), if_pos rfl, hcl, c7 1 (by decide), hfu 0 (by decide), hfu 1 (by decide)]
    exact (bq_fill hb hx _ _).eta
  · rw [if_neg (by decide), if_neg (by decide), if_neg (by decide), if_neg (by decide), if_neg (by decide), if_neg (by decide), if_neg (by decide), if_neg (by decide), hcl, hfu 0 (by decide)]
    exact (bq_set hb hx _ _).eta
/-- what stays while acts are done -/
def pz_fr (P Q P' Q' : PS) : Prop := (∀ k, 5 ≤ k → k ≤ 11 → P'.1 k = P.1 k) ∧ (∀ k, 12 ≤ k → k ≤ 28 → P'.2 k = P.2 k) ∧ (∀ k, 5 ≤ k → k ≤ 11 → Q'.1 k = Q.1 k) ∧ (∀ k, 12 ≤ k → k ≤ 29 → Q'.2 k = Q.2 k) ∧ bE P' Q' ∧ bOK P'.1 P'.2
theorem pz_fr.tr {P Q P1 Q1 P2 Q2 : PS} (hp1 : ∀ k, 5 ≤ k → k ≤ 11 → P1.1 k = P.1 k) (hp2 : ∀ k, 12 ≤ k → k ≤ 28 → P1.2 k = P.2 k) (hq1 : ∀ k, 5 ≤ k → k ≤ 11 → Q1.1 k = Q.1 k) (hq2 : ∀ k, 12 ≤ k → k ≤ 29 → Q1.2 k = Q.2 k) (h : pz_fr P1 Q1 P2 Q2) : pz_fr P Q P2 Q2 := by
  obtain ⟨a1, a2, a3, a4, a5, a6⟩ := h
  exact ⟨fun k h1 h2 => by rw [a1 k h1 h2, hp1 k h1 h2], fun k h1 h2 => by rw [a2 k h1 h2, hp2 k h1 h2], fun k h1 h2 => by rw [a3 k h1 h2, hq1 k h1 h2], fun k h1 h2 => by rw [a4 k h1 h2, hq2 k h1 h2], a5, a6⟩
theorem ev_doAll {B : Nat → Int32} {n tot : Nat} {w u : Nat → Int32} (ht : tot ≤ 80) : ∀ (m a k fuel fuel' : Nat) (l : List (Nat × List Int32)) (P Q : PS), TB P B n → a ≤ n → k ≤ a → P.1 12 = nI a → bE P Q → bOK P.1 P.2 → Q.1 13 = nI tot → Q.2 35 = w → Q.2 36 = u → pz_text B n m a = .inr l → pz_enc k l w u → k + l.length = tot → m < fuel → m < fuel' → ∃ (r : Int32) (P' Q' : PS), plp (g_X11_doAllActs_10 fuel P (nI k)) (fun S_8 => some ((-200), S_8)) = some (r, P') ∧ plp (g_X12_read_24 fuel' Q (nI k)) (fun S_6 => some (S_6.1 13, S_6)) = some (r, Q') ∧ pz_fr P Q P' Q' := by
  intro m
  induction m with
  | zero => intro a k fuel fuel' l P Q _ _ _ _ _ _ _ _ _ h; rw [pz_text] at h; exact nomatch h
  | succ m ih =>
    intro a k fuel fuel' l P Q hT ha hka h12 hb hx hq hw hu htx henc hlen hf hf'
    obtain ⟨fuel, rfl⟩ : ∃ z, fuel = z + 1 := ⟨fuel - 1, by omega⟩
    obtain ⟨fuel', rfl⟩ : ∃ z, fuel' = z + 1 := ⟨fuel' - 1, by omega⟩
    have hn := hT.2.2
    have hra := ev_readsAct hT ha (P.1 13) (P.2 29)
    rw [tX_self h12] at hra
    rw [pz_text] at htx
    rcases hra with ⟨x, c', f', q1, q2⟩ | ⟨y, i, vs, q1, q2⟩
    · rw [q1] at htx; exact nomatch htx
    · obtain ⟨y1, y2, y3, y4⟩ : a < y ∧ y ≤ n ∧ i < 5 ∧ vs.length = (pz_sh i).length := by
        rcases pz_act_rng (B := B) ha with ⟨x', e1, e2⟩ | ⟨y', i', vs', e1, e2, e3, e4, e5⟩
        · rw [q1] at e1; exact nomatch e1
        · rw [q1] at e1
          obtain ⟨rfl, e6⟩ := Prod.mk.inj (Sum.inr.inj e1)
          obtain ⟨rfl, rfl⟩ := Prod.mk.inj e6
          exact ⟨e2, e3, e4, e5⟩
      rw [q1] at htx
      dsimp only at htx
      -- what the text says of the rest
      have hl : ∃ l', l = (i, vs) :: l' ∧ ((n ≤ y ∧ l' = []) ∨ (y < n ∧ B y = 59 ∧ pz_text B n m (y + 1) = .inr l')) := by
        by_cases hyn : n ≤ y
        · rw [if_pos hyn] at htx
          exact ⟨[], (Sum.inr.inj htx).symm, Or.inl ⟨hyn, rfl⟩⟩
        · rw [if_neg hyn] at htx
          by_cases h59 : B y = 59
          · rw [if_pos h59] at htx
            match hm : pz_text B n m (y + 1) with
            | .inl x =>
              rw [hm] at htx
              dsimp only at htx
              exact nomatch htx
            | .inr l' =>
              rw [hm] at htx
              dsimp only at htx
              exact ⟨l', (Sum.inr.inj htx).symm, Or.inr ⟨by omega, h59, by first | exact hm | rfl⟩⟩
          · rw [if_neg h59] at htx; exact nomatch htx
      obtain ⟨l', rfl, hl'⟩ := hl
      obtain ⟨n1, n2, n3⟩ := henc
      rw [List.length_cons] at hlen
      have hk80 : k < 80 := by omega
      have hdo := ev_doAct (P := tX P y (nI i) (pz_put (P.2 29) 0 vs)) (Q := Q) (tX_bE hb _ _ _) (tX_bOK hx _ _ _) y3 hk80 vs y4 rfl (fun j hj => by
        have := pz_put_in vs (P.2 29) 0 j hj
        rw [Nat.zero_add] at this
        exact this) (by rw [hw]; exact n1) (fun j hj => by rw [hu]; exact n2 j hj)
      obtain ⟨r, P3, Q3, d1, d2, ⟨f1, f2⟩, ⟨f3, f4⟩, f5, f6⟩ := hdo
      have g1 : ∀ k, 5 ≤ k → k ≤ 11 → P3.1 k = P.1 k := fun k h1 h2 => by rw [f1 k h1 (by omega), tX_i (by omega) (by omega)]
      have g2 : ∀ k, 12 ≤ k → k ≤ 28 → P3.2 k = P.2 k := fun k h1 h2 => by rw [f2 k h1 (by omega), tX_a (by omega)]
      have g3 : ∀ k, 5 ≤ k → k ≤ 11 → Q3.1 k = Q.1 k := fun k h1 h2 => f3 k h1 (by omega)
      have g4 : ∀ k, 12 ≤ k → k ≤ 29 → Q3.2 k = Q.2 k := fun k h1 h2 => f4 k h1 (by omega)
      have hT3 : TB P3 B n := ⟨by rw [g1 11 (by decide) (by decide)]; exact hT.1, by rw [g2 28 (by decide) (by decide)]; exact hT.2.1, hn⟩
      have h312 : P3.1 12 = nI y := by rw [f1 12 (by decide) (by decide)] <;> rfl
      have e1 : g_X11_doAllActs_10 (fuel + 1) P (nI k) = (if (0 : Int32) ≤ r then (if pbi (pz_at B n y 59) = 0 then (some (.inl (nI k + 1, P3))) else (g_X11_doAllActs_10 fuel (pI P3 12 (nI (y + 1))) (nI (k + 1)))) else (some (.inl ((-200) - nI k, P3)))) := by
        rw [g_X11_doAllActs_10, hT.1, if_neg (nI_ge (by omega) (by omega)), q2, b_some]
        dsimp only
        rw [if_neg (by decide), d1, b_some]
        dsimp only
        rw [ev_isPartedHere h312 hT3 y2, b_some]
        dsimp only
        rw [h312, nI_1 y, nI_1 k]
      have e2 : g_X12_read_24 (fuel' + 1) Q (nI k) = (if (0 : Int32) ≤ r then (g_X12_read_24 fuel' Q3 (nI (k + 1))) else (some (.inl ((-200) - nI k, Q3)))) := by
        rw [g_X12_read_24, hq, if_neg (nI_ge (by omega) (by omega)), d2, b_some]
        dsimp only
        rw [nI_1 k]
      have hq3 : Q3.1 13 = nI tot := by rw [f3 13 (by decide) (by decide)]; exact hq
      rw [e1, e2]
      by_cases hr : (0 : Int32) ≤ r
      · rw [if_pos hr, if_pos hr]
        rcases hl' with ⟨hyn, rfl⟩ | ⟨hyn, h59, htx'⟩
        · rw [show pz_at B n y 59 = false by unfold pz_at; rw [decide_eq_false (show ¬ y < n by omega), Bool.false_and], pbi_f, if_pos rfl, lp_l]
          have htot : tot = k + 1 := by rw [List.length_nil] at hlen; omega
          refine ⟨nI k + 1, P3, Q3, rfl, ?_, g1, g2, g3, g4, f5, f6⟩
          obtain ⟨fuel', rfl⟩ : ∃ z, fuel' = z + 1 := ⟨fuel' - 1, by omega⟩
          rw [g_X12_read_24, hq3, if_pos (nI_le (by omega) (by omega)), lp_r, hq3, htot, nI_1]
        · rw [show pz_at B n y 59 = true by unfold pz_at; rw [decide_eq_true hyn, decide_eq_true h59] <;> rfl, pbi_t, if_neg (by decide)]
          have hbb : bE (pI P3 12 (nI (y + 1))) Q3 := f5.congr ⟨fun k hk => pI_out (by omega), fun _ _ => rfl⟩ ⟨fun _ _ => rfl, fun _ _ => rfl⟩
          have hxx : bOK (pI P3 12 (nI (y + 1))).1 (pI P3 12 (nI (y + 1))).2 := bOK_congr (fun k hk => pI_out (by omega)) (fun _ _ => rfl) f6
          have hTT : TB (pI P3 12 (nI (y + 1))) B n := ⟨by rw [pI_out (by decide)]; exact hT3.1, hT3.2.1, hn⟩
          obtain ⟨r', P', Q', z1, z2, z3⟩ := ih (y + 1) (k + 1) fuel fuel' l' (pI P3 12 (nI (y + 1))) Q3 hTT (by omega) (by omega) rfl hbb hxx hq3 (by rw [f4 35 (by decide) (by decide)]; exact hw) (by rw [f4 36 (by decide) (by decide)]; exact hu) htx' n3 (by omega) (by omega) (by omega)
          exact ⟨r', P', Q', z1, z2, pz_fr.tr (P1 := pI P3 12 (nI (y + 1))) (Q1 := Q3) (fun k h1 h2 => by rw [pI_out (by omega)]; exact g1 k h1 h2) (fun k h1 h2 => g2 k h1 h2) g3 g4 z3⟩
      · rw [if_neg hr, if_neg hr, lp_l, lp_l]
        exact ⟨_, P3, Q3, rfl, rfl, g1, g2, g3, g4, f5, f6⟩
theorem eq_read : pEq0 Rel f_X11_read f_X12_read := by
  intro S T h
  obtain ⟨⟨h11, h28⟩, hlr, -⟩ := h.2.2.2
  obtain ⟨n, hn, -, hn80, -⟩ := rngN hlr (by decide)
  have hn' : n ≤ 80 := by omega
  have hT : TB S (S.2 28) n := ⟨hn, rfl, hn'⟩
  have hTM : TB T (S.2 28) n := ⟨by rw [h11]; exact hn, h28, hn'⟩
  have eX : pI S 12 0 = tX S 0 (S.1 13) (S.2 29) := by
    refine ps_ext (funext fun k => ?_) (fun k => ?_)
    · show (if k = 12 then 0 else S.1 k) = (if k = 12 then nI 0 else if k = 13 then S.1 13 else S.1 k)
      by_cases q : k = 12
      · rw [if_pos q, if_pos q] <;> rfl
      · rw [if_neg q, if_neg q]
        by_cases q : k = 13
        · rw [if_pos q, q]
        · rw [if_neg q]
    · show S.2 k = (if k = 29 then S.2 29 else S.2 k)
      by_cases q : k = 29
      · rw [if_pos q, q]
      · rw [if_neg q]
  have eM : pI (pI T 12 0) 13 0 = tM T 0 0 (T.2 35) (T.2 36) := by
    refine ps_ext (funext fun k => ?_) (fun k => ?_)
    · show (if k = 13 then 0 else if k = 12 then 0 else T.1 k) = (if k = 12 then nI 0 else if k = 13 then nI 0 else T.1 k)
      by_cases q : k = 12
      · rw [if_neg (by omega), if_pos q, if_pos q] <;> rfl
      · rw [if_neg q, if_neg q]
        by_cases q : k = 13
        · rw [if_pos q, if_pos q] <;> rfl
        · rw [if_neg q, if_neg q]
    · show T.2 k = (if k = 35 then T.2 35 else if k = 36 then T.2 36 else T.2 k)
      by_cases q : k = 35
      · rw [if_pos q, q]
      · rw [if_neg q]
        by_cases q : k = 36
        · rw [if_pos q, q]
        · rw [if_neg q]
  have eA : f_X12_takesAll T = plp (pz_F pfuel (tM T 0 0 (T.2 35) (T.2 36))) (fun S_8 => some (1, S_8)) := by
    unfold f_X12_takesAll pz_F
    rw [eM]
    cases f_X12_takesAct (tM T 0 0 (T.2 35) (T.2 36)) with
    | none => rfl
    | some x =>
      rw [b_some, b_some]
      by_cases q : x.1 = 0
      · rw [if_pos q, if_pos q] <;> rfl
      · rw [if_neg q, if_neg q]
  have hsX : ∀ (a : Nat) (c : Int32) (f : Nat → Int32), sameX S (tX S a c f) := fun a c f => ⟨fun k hk => tX_i (by omega) (by omega), fun k hk => tX_a (by omega)⟩
  have hsM : ∀ (a q : Nat) (w u : Nat → Int32), sameM T (tM T a q w u) := fun a q w u => ⟨fun k hk => tM_i (by omega) (by omega), fun k hk => tM_a (by omega) (by omega)⟩
  show pQ _ _
  unfold f_X11_read f_X12_read f_X9_findFault
  rw [eA, eX]
  rcases ev_findFault hT (n + 1) 0 0 pfuel (S.1 13) (S.2 29) (by omega) (by omega) (by omega) (pfuel_gt (by omega)) with ⟨x, c', f', q1, q2, q3⟩ | ⟨l, y, c', f', q1, q3⟩
  · rcases ev_takesAll hTM (n + 1) 0 0 pfuel (T.2 35) (T.2 36) (by omega) (by omega) (by omega) (pfuel_gt (by omega)) with ⟨x', q', w', u', p1, p2⟩ | ⟨l, y, w', u', p1, -⟩
    · rw [q1] at p1
      obtain rfl := Sum.inl.inj p1
      rw [show nI 0 = (0 : Int32) from rfl] at q3
      rw [q3, p2, lp_l, lp_l, b_some, b_some]
      dsimp only
      rw [if_neg (show ¬ nI x < (0 : Int32) from nI_pos (by omega)), if_pos rfl, show (tM T x q' w' u').1 12 = nI x from rfl]
      exact pQ.r (h.same (hsX _ _ _) (hsM _ _ _ _)).empty _
    · rw [q1] at p1; exact nomatch p1
  · rcases ev_takesAll hTM (n + 1) 0 0 pfuel (T.2 35) (T.2 36) (by omega) (by omega) (by omega) (pfuel_gt (by omega)) with ⟨x', q', w', u', p1, p2⟩ | ⟨l', y', w', u', p1, p2, p3, -, -, p6⟩
    · rw [q1] at p1; exact nomatch p1
    · rw [q1] at p1
      obtain rfl := Sum.inr.inj p1
      rw [Nat.zero_add] at p2 p6
      have hRt := h.same (hsX y c' f') (hsM y' l.length w' u')
      have hd := ev_doAll (B := S.2 28) (n := n) (w := w') (u := u') p6 (n + 1) 0 0 pfuel pfuel l (pI (tX S y c' f') 12 (nI 0)) (pI (tM T y' l.length w' u') 11 0) (by rw [tX_s12]; exact hT) (by omega) (by omega) rfl (by rw [tX_s12]; exact (tX_bE h.b _ _ _).congr ⟨fun _ _ => rfl, fun _ _ => rfl⟩ ⟨fun k hk => by rw [pI_out (by omega), tM_i (by omega) (by omega)], fun k hk => by rw [pI_2, tM_a (by omega) (by omega)]⟩) (by rw [tX_s12]; exact tX_bOK h.x _ _ _) rfl rfl rfl q1 p3 (by omega) (pfuel_gt (by omega)) (pfuel_gt (by omega))
      obtain ⟨r, P', Q', z1, z2, f1, f2, f3, f4, f5, f6⟩ := hd
      rw [show nI 0 = (0 : Int32) from rfl] at q3 z1 z2
      rw [q3, p2, lp_l, lp_r, b_some, b_some]
      dsimp only
      rw [if_pos (show (-1 : Int32) < 0 by decide), if_neg (show ¬ (1 : Int32) = 0 by decide)]
      unfold f_X11_doAllActs
      rw [z1, z2, b_some]
      dsimp only
      refine pQ.r ?_ _
      refine hRt.empty.boat ⟨fun k h1 h2 => ?_, fun k h1 h2 => ?_⟩ ⟨fun k h1 h2 => f3 k (by omega) h2, fun k h1 h2 => f4 k h1 h2⟩ ?_ ?_
      · by_cases q : k = 11
        · rw [q] <;> rfl
        · rw [pI_out q, pI_out q, f1 k h1 h2, pI_out (by omega)]
      · rw [pI_2, pI_2, f2 k h1 h2, pI_2]
      · exact f5.congr ⟨fun k hk => pI_out (by omega), fun _ _ => rfl⟩ ⟨fun _ _ => rfl, fun _ _ => rfl⟩
      · exact bOK_congr (fun k hk => pI_out (by omega)) (fun _ _ => rfl) f6
