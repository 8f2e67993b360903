/-! THE PURE PART, Q: fits -/
theorem pwi_iff (a b c : Int32) : ¬ pwi a b c = 0 ↔ b.toInt ≤ a.toInt ∧ a.toInt ≤ c.toInt := by
  rcases pwi_cases a b c with ⟨h, h2⟩ | ⟨h, h2⟩
  · exact ⟨fun q => absurd h q, fun q => absurd q h2⟩
  · exact ⟨fun _ => h2, fun _ => by rw [h]; decide⟩
def lea (S : PS) (L : Int32) : Int32 := if pwi L 0 (64 * S.1 1) = 0 then pW S 0 (64 * S.1 1) / 64 + 1 else pW S 0 (L - 1) / 64 + 1
def mos (S : PS) (L : Int32) : Int32 := if pwi L 0 (64 * S.1 1) = 0 then (if L = -2 then 2147483647 else 0) else pW S 0 L / 64
theorem pW64 {S : PS} (hb : bOK S.1 S.2) (x : Int32) : ∃ c : Nat, (pW S 0 x).toInt = c ∧ c ≤ 1536000 ∧ (pW S 0 x / 64).toInt = (c / 64 : Nat) ∧ (pW S 0 x / 64 + 1).toInt = (c / 64 : Nat) + 1 := by
  obtain ⟨c, hc, -, hc2, -⟩ := rngN (pW_rng hb 0 x) (by decide)
  have e : pW S 0 x / 64 = nI (c / 64) := by rw [hc]; exact pk_div (a := c) (d := 64) (by omega) (by decide) (by decide)
  refine ⟨c, by rw [hc, nI_toInt (by omega)], by omega, by rw [e, nI_toInt (by omega)], ?_⟩
  rw [e, nI_1, nI_toInt (by omega)]
  omega
theorem pbs_min (W : Nat → Bool) (N : Nat) : ∀ (k lo hi : Nat), lo ≤ hi → hi ≤ N → pbs (fun a => W (min a N)) k lo hi = pbs W k lo hi := by
  intro k
  induction k with
  | zero => intro lo hi _ _; rw [pbs, pbs]
  | succ k ih =>
    intro lo hi h1 h2
    rw [pbs, pbs]
    by_cases hc : hi ≤ lo
    · rw [if_pos hc, if_pos hc]
    · rw [if_neg hc, if_neg hc, show min ((lo + hi) / 2) N = (lo + hi) / 2 by omega]
      by_cases hx : W ((lo + hi) / 2) = true
      · rw [if_pos hx, if_pos hx]; exact ih _ _ (by omega) (by omega)
      · rw [if_neg hx, if_neg hx]; exact ih _ _ (by omega) (by omega)
theorem pfit {S : PS} (hb : bOK S.1 S.2) {w : Int32} (hw : rng w 1 40000) (L : Int32) : ¬ pwi w (lea S L) (mos S L) = 0 ↔ pstart S 0 w = L := by
  have ehi := phigh0 hb
  have hhi := (phigh_k hb rng0).2
  obtain ⟨w1, w2⟩ := hw
  have e64 : (64 : Int32).toInt = 64 := rfl
  have ew : (64 * w).toInt = 64 * w.toInt := by rw [tmul (by rw [e64]; omega) (by rw [e64]; omega), e64]
  obtain ⟨ch, hch, hch2, hch3, hch4⟩ := pW64 hb (nI (phigh S 0))
  have hbear : ∀ x, pbear S 0 w x = true ↔ 64 * w.toInt ≤ (pW S 0 (nI x)).toInt := by
    intro x
    unfold pbear
    rw [decide_eq_true_eq, tlt, ew]
    omega
  have hmono : ∀ a b, a ≤ b → b ≤ 5000 → pbear S 0 w a = true → pbear S 0 w b = true := by
    intro a b hab hb5 h
    rw [hbear] at h ⊢
    have := pW_mono hb (a := nI a) (c := nI b) (by rw [nI_toInt (by omega), nI_toInt (by omega)]; omega)
    omega
  have hif : (64 * w ≤ pW S 0 (nI (phigh S 0))) ↔ 64 * w.toInt ≤ (ch : Int) := by rw [tle, ew, hch]
  -- the found one, when there is one
  have hq : 64 * w.toInt ≤ (ch : Int) → ∃ q, pstart S 0 w = nI q ∧ q ≤ phigh S 0 ∧ 64 * w.toInt ≤ (pW S 0 (nI q)).toInt ∧ ∀ c, c < q → ¬ 64 * w.toInt ≤ (pW S 0 (nI c)).toInt := by
    intro h
    have hle := pbs_le (pbear S 0 w) 13 0 (phigh S 0) (Nat.zero_le _)
    have hsp := pbs_spec (fun a => pbear S 0 w (min a (phigh S 0))) (fun a b hab q => hmono _ _ (by omega) (by omega) q) 13 0 (phigh S 0) (Nat.zero_le _) (by omega) (by
      show pbear S 0 w (min (phigh S 0) (phigh S 0)) = true
      rw [Nat.min_self, hbear, hch]; exact h)
    rw [pbs_min (pbear S 0 w) (phigh S 0) 13 0 (phigh S 0) (Nat.zero_le _) (Nat.le_refl _)] at hsp
    obtain ⟨s1, s2⟩ := hsp
    refine ⟨pbs (pbear S 0 w) 13 0 (phigh S 0), ?_, hle.2, ?_, fun c hc => ?_⟩
    · unfold pstart
      rw [if_pos (hif.mpr h)]
    · rw [← hbear]
      rw [show min (pbs (pbear S 0 w) 13 0 (phigh S 0)) (phigh S 0) = pbs (pbear S 0 w) 13 0 (phigh S 0) by omega] at s1
      exact s1
    · rw [← hbear]
      have := s2 c (Nat.zero_le _) hc
      rw [show min c (phigh S 0) = c by omega] at this
      exact this
  have hnone : ¬ 64 * w.toInt ≤ (ch : Int) → pstart S 0 w = -2 := by
    intro h
    unfold pstart
    rw [if_neg (fun q => h (hif.mp q))]
  have e0 : (0 : Int32).toInt = 0 := rfl
  rw [pwi_iff]
  unfold lea mos
  rw [ehi]
  by_cases hr : pwi L 0 (nI (phigh S 0)) = 0
  · rw [if_pos hr, if_pos hr, hch4]
    by_cases hL : L = -2
    · rw [if_pos hL, hL, show (2147483647 : Int32).toInt = 2147483647 from rfl]
      constructor
      · intro h
        exact hnone (by omega)
      · intro h
        refine ⟨?_, by omega⟩
        by_cases hc : 64 * w.toInt ≤ (ch : Int)
        · obtain ⟨q, hq1, hq2, -⟩ := hq hc
          rw [h] at hq1
          exact absurd hq1.symm (nI_ne_m2 (by omega))
        · omega
    · rw [if_neg hL, e0]
      constructor
      · intro h; omega
      · intro h
        exfalso
        by_cases hc : 64 * w.toInt ≤ (ch : Int)
        · obtain ⟨q, hq1, hq2, -⟩ := hq hc
          rw [h] at hq1
          rw [hq1] at hr
          exact ((pwi_iff _ _ _).mpr ⟨by rw [e0, nI_toInt (by omega)]; omega, by rw [nI_toInt (by omega), nI_toInt (by omega)]; omega⟩) hr
        · exact hL (h ▸ hnone hc)
  · rw [if_neg hr, if_neg hr]
    have hr' := (pwi_iff _ _ _).mp hr
    rw [e0, nI_toInt (by omega)] at hr'
    obtain ⟨a, rfl, -, ha2, ha3⟩ := rngN (x := L) (lo := 0) (hi := (phigh S 0 : Int)) hr' (by decide)
    obtain ⟨cl, hcl, hcl2, hcl3, hcl4⟩ := pW64 hb (nI a - 1)
    obtain ⟨ca, hca, hca2, hca3, hca4⟩ := pW64 hb (nI a)
    have htop := pW_mono hb (a := nI a) (c := nI (phigh S 0)) (by rw [nI_toInt (by omega), nI_toInt (by omega)]; omega)
    rw [hca, hch] at htop
    rw [hcl4, hca3]
    constructor
    · intro h
      obtain ⟨q, hq1, hq2, hq3, hq4⟩ := hq (by omega)
      rw [hq1]
      have h1 : ¬ a < q := fun hx => hq4 a hx (by rw [hca]; omega)
      have h2 : ¬ q < a := by
        intro hx
        have e : nI a - 1 = nI (a - 1) := pk_sub (a := a) (b := 1) (by omega)
        have := pW_mono hb (a := nI q) (c := nI (a - 1)) (by rw [nI_toInt (by omega), nI_toInt (by omega)]; omega)
        rw [← e, hcl] at this
        omega
      rw [show q = a by omega]
    · intro h
      by_cases hc : 64 * w.toInt ≤ (ch : Int)
      · obtain ⟨q, hq1, hq2, hq3, hq4⟩ := hq hc
        rw [h] at hq1
        have hqa : a = q := (nI_eq (by omega) (by omega)).mp hq1
        rw [← hqa] at hq3 hq4
        rw [hca] at hq3
        refine ⟨?_, by omega⟩
        by_cases ha0 : a = 0
        · have := pW_low hb (a := nI a - 1) (by rw [ha0]; decide)
          rw [hcl] at this
          omega
        · have e : nI a - 1 = nI (a - 1) := pk_sub (a := a) (b := 1) (by omega)
          have := hq4 (a - 1) (by omega)
          rw [← e, hcl] at this
          omega
      · have := hnone hc
        rw [h] at this
        exact absurd this (nI_ne_m2 (by omega))
/-- what is wanted -/
def pXW (S : PS) (a b : Nat → Int32) : PS := (S.1, fun k => if k = 32 then a else if k = 33 then b else S.2 k)
theorem pXW_self (S : PS) : pXW S (S.2 32) (S.2 33) = S := ps_ext rfl (fun k => by
  show (if k = 32 then S.2 32 else if k = 33 then S.2 33 else S.2 k) = S.2 k
  by_cases h : k = 32
  · rw [if_pos h, h]
  · rw [if_neg h]
    by_cases h : k = 33
    · rw [if_pos h, h]
    · rw [if_neg h])
theorem pXW_32 (S : PS) (a b a' : Nat → Int32) : pAr (pXW S a b) 32 a' = pXW S a' b := ps_ext rfl (fun k => by
  rw [pAr_2]
  show (if k = 32 then a' else if k = 32 then a else if k = 33 then b else S.2 k) = (if k = 32 then a' else if k = 33 then b else S.2 k)
  by_cases h : k = 32
  · rw [if_pos h, if_pos h]
  · rw [if_neg h, if_neg h, if_neg h])
theorem pXW_33 (S : PS) (a b b' : Nat → Int32) : pAr (pXW S a b) 33 b' = pXW S a b' := ps_ext rfl (fun k => by
  rw [pAr_2]
  show (if k = 33 then b' else if k = 32 then a else if k = 33 then b else S.2 k) = (if k = 32 then a else if k = 33 then b' else S.2 k)
  by_cases h : k = 33
  · rw [if_pos h, if_pos h, if_neg (by omega)]
  · rw [if_neg h, if_neg h, if_neg h])
theorem pXW_E (S : PS) (a b : Nat → Int32) : bE S (pXW S a b) := ⟨⟨rfl, rfl, rfl, rfl, rfl⟩, ⟨rfl, rfl, rfl, rfl, rfl, rfl, rfl, rfl⟩, rfl, rfl, rfl, rfl⟩
theorem pXW_at (S : PS) (a b : Nat → Int32) {c : Nat} (h : ¬ c = 32) (h2 : ¬ c = 33) : (pXW S a b).2 c = S.2 c := by
  show (if c = 32 then a else if c = 33 then b else S.2 c) = S.2 c
  rw [if_neg h, if_neg h2]
theorem ev_want {S : PS} (hb : bOK S.1 S.2) {r : Nat} (hr : r < 3) {n : Nat} (hn : n ≤ 17) : ∀ (m j fuel : Nat) (a b : Nat → Int32), j + m = n → m < fuel → (∀ i, i < j → a i = lea S (S.2 (25 + r) i) ∧ b i = mos S (S.2 (25 + r) i)) → ∃ a' b', g_X3_want_8 r fuel (pXW S a b) (nI n) (nI j) = some (.inr (pXW S a' b')) ∧ ∀ i, i < n → a' i = lea S (S.2 (25 + r) i) ∧ b' i = mos S (S.2 (25 + r) i) := by
  intro m
  induction m with
  | zero =>
    intro j fuel a b hj hf h
    obtain ⟨fuel, rfl⟩ : ∃ z, fuel = z + 1 := ⟨fuel - 1, by omega⟩
    refine ⟨a, b, ?_, fun i hi => h i (by omega)⟩
    rw [g_X3_want_8, if_pos (nI_le (by omega) (by omega))]
  | succ m ih =>
    intro j fuel a b hj hf h
    obtain ⟨fuel, rfl⟩ : ∃ z, fuel = z + 1 := ⟨fuel - 1, by omega⟩
    have h40 := pin_nI (show j < 40 by omega) (by decide : 40 < 2 ^ 31)
    have h17 := pin_nI (show j < 17 by omega) (by decide : 17 < 2 ^ 31)
    have key : ∀ a' b', a' = upd a j (lea S (S.2 (25 + r) j)) → b' = upd b j (mos S (S.2 (25 + r) j)) → ∃ a2 b2, g_X3_want_8 r fuel (pXW S a' b') (nI n) (nI (j + 1)) = some (.inr (pXW S a2 b2)) ∧ ∀ i, i < n → a2 i = lea S (S.2 (25 + r) i) ∧ b2 i = mos S (S.2 (25 + r) i) := by
      intro a' b' ha hb'
      refine ih (j + 1) fuel a' b' (by omega) (by omega) (fun i hi => ?_)
      rw [ha, hb', upd_at, upd_at]
      by_cases e : i = j
      · rw [if_pos e, if_pos e, e]; exact ⟨rfl, rfl⟩
      · rw [if_neg e, if_neg e]; exact h i (by omega)
    have hE := pXW_E S a b
    have htop := phigh0 hb
    have hth := (phigh_k hb rng0).2
    have hrt : rng (64 * S.1 1) (-20000) 20000 := by rw [htop]; exact (rng_nI (by omega)).mpr ⟨by omega, by omega⟩
    have c1 : ∀ (a0 b0 : Nat → Int32) (x : Int32), rng x (-20000) 20000 → f_X2_carriedAt (pXW S a0 b0) x = some (pW S 0 x / 64, pXW S a0 b0) := fun a0 b0 x hx => by
      rw [ev_X2_carriedAt ((pXW_E S a0 b0).ok hb) hx, pW_eq (pXW_E S a0 b0)]
    have t1 : ∀ (a0 b0 : Nat → Int32), f_X2_top (pXW S a0 b0) = some (64 * S.1 1, pXW S a0 b0) := fun a0 b0 => rfl
    rw [g_X3_want_8, if_neg (nI_ge (by omega) (by omega)), g_t h40, t1, b_some]
    dsimp only
    rw [ev_X11_isWithin, b_some]
    dsimp only
    rw [nI_clamp (show j < 2 ^ 31 by omega), pXW_at S a b (show ¬ 25 + r = 32 by omega) (show ¬ 25 + r = 33 by omega)]
    by_cases hp : pwi (S.2 (25 + r) j) 0 (64 * S.1 1) = 0
    · simp only [if_pos hp, t1, b_some, c1 a b _ hrt, g_t h17, show (pXW S a b).2 32 = a from rfl, show (pXW S a b).2 33 = b from rfl, pXW_32, pXW_33, nI_1]
      have ha : upd a j (pW S 0 (64 * S.1 1) / 64 + 1) = upd a j (lea S (S.2 (25 + r) j)) := by unfold lea; rw [if_pos hp]
      by_cases h2 : S.2 (25 + r) j = -2
      · rw [if_pos h2]
        exact key _ _ ha (by unfold mos; rw [if_pos hp, if_pos h2])
      · rw [if_neg h2]
        refine key _ _ ha ?_
        unfold mos
        rw [if_pos hp, if_neg h2]
        funext i
        rw [upd_at, upd_at, upd_at]
        by_cases e : i = j
        · rw [if_pos e, if_pos e]
        · rw [if_neg e, if_neg e, if_neg e]
    · have hL := (pwi_iff _ _ _).mp hp
      rw [htop, nI_toInt (by omega)] at hL
      obtain ⟨l, hl, -, hl2, -⟩ := rngN (x := S.2 (25 + r) j) (lo := 0) (hi := (phigh S 0 : Int)) hL (by decide)
      have r1 : rng (S.2 (25 + r) j) (-20000) 20000 := by rw [hl]; exact (rng_nI (by omega)).mpr ⟨by omega, by omega⟩
      have r2 : rng (S.2 (25 + r) j - 1) (-20000) 20000 := by
        have e1 : (1 : Int32).toInt = 1 := rfl
        have := rsub r1 (show rng (1 : Int32) 1 1 by unfold rng; rw [e1]; omega) (by decide) (by decide)
        have e2 : (S.2 (25 + r) j).toInt = l := by rw [hl, nI_toInt (by omega)]
        unfold rng
        rw [tsub (by rw [e2, e1]; omega) (by rw [e2, e1]; omega), e2, e1]
        omega
      simp only [if_neg hp, c1 _ _ _ r2, b_some, g_t h17, show (pXW S a b).2 32 = a from rfl, show (pXW S a b).2 33 = b from rfl, pXW_32, c1 _ _ _ r1, nI_1]
      rw [pXW_33]
      exact key _ _ (by unfold lea; rw [if_neg hp]) (by unfold mos; rw [if_neg hp]; rfl)
