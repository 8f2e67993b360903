/-! THE PURE PART, R: fits, the loops -/
def chkb (V : PS) (a b : Nat → Int32) : Nat → Nat → Int32
  | 0, _ => 1
  | m + 1, i => if pwi (pwr V i) (a i) (b i) = 0 then 0 else chkb V a b m (i + 1)
def eqb (V : PS) (L : Nat → Int32) : Nat → Nat → Int32
  | 0, _ => 1
  | m + 1, i => if pln V i = L i then eqb V L m (i + 1) else 0
theorem chk_eqb {V : PS} (hb : bOK V.1 V.2) {k : Nat} (hk : V.1 4 = nI k) (hk16 : k ≤ 16) {n : Nat} (hn : n ≤ k + 1) {L a b : Nat → Int32} (h : ∀ i, i < n → a i = lea V (L i) ∧ b i = mos V (L i)) : ∀ m i, i + m = n → chkb V a b m i = eqb V L m i := by
  intro m
  induction m with
  | zero => intro i _; rw [chkb, eqb]
  | succ m ih =>
    intro i hi
    obtain ⟨h1, h2⟩ := h i (by omega)
    have hf := pfit hb (pwr_rng hb hk hk16 (show i ≤ k by omega)) (L i)
    rw [chkb, eqb, h1, h2]
    by_cases q : pln V i = L i
    · rw [if_neg (hf.mpr q), if_pos q]
      exact ih (i + 1) (by omega)
    · rw [if_neg q]
      by_cases q2 : pwi (pwr V i) (lea V (L i)) (mos V (L i)) = 0
      · rw [if_pos q2]
      · exact absurd (hf.mp q2) q
theorem ev_isSoX {V P : PS} (hE : bE V P) {k : Nat} (hk : V.1 4 = nI k) (hk16 : k ≤ 16) {n : Nat} (hn : n ≤ k + 1) (hn19 : P.1 19 = nI n) {a b : Nat → Int32} (ha : P.2 32 = a) (hb' : P.2 33 = b) (ho : ∀ i, i < k → P.2 30 i = pord V 0 i) : ∀ (m j fuel : Nat) (w : Int32), j + m = n → m < fuel → (j < n → w = pwr V j) → plp (g_X3_isSo_42 fuel P w (nI j)) (fun S' => some ((1 : Int32), S')) = some (chkb V a b m j, P) := by
  intro m
  induction m with
  | zero =>
    intro j fuel w hj hf hw
    obtain ⟨fuel, rfl⟩ : ∃ z, fuel = z + 1 := ⟨fuel - 1, by omega⟩
    rw [g_X3_isSo_42, hn19, if_pos (nI_le (by omega) (by omega)), chkb]
    rfl
  | succ m ih =>
    intro j fuel w hj hf hw
    obtain ⟨fuel, rfl⟩ : ∃ z, fuel = z + 1 := ⟨fuel - 1, by omega⟩
    have h17 := pin_nI (show j < 17 by omega) (by decide : 17 < 2 ^ 31)
    rw [g_X3_isSo_42, hn19, if_neg (nI_ge (by omega) (by omega)), g_t h17, g_t h17, ev_X11_isWithin, b_some]
    dsimp only
    rw [nI_clamp (show j < 2 ^ 31 by omega), ha, hb', hw (by omega), chkb]
    by_cases q : pwi (pwr V j) (a j) (b j) = 0
    · rw [if_pos q, if_pos q]; rfl
    · rw [if_neg q, if_neg q, show P.1 4 = nI k from hE.1.2.2.2.2.trans hk, nI_1]
      by_cases hkj : k ≤ j
      · rw [if_pos (nI_le hkj (by omega))]
        exact ih (j + 1) fuel _ (by omega) (by omega) (fun q => by omega)
      · obtain ⟨c, hc, hpc⟩ := pord_in hk hk16 0 (show j < k by omega)
        rw [if_neg (nI_ge (by omega) (by omega)), g_t (pin_nI (show j < 16 by omega) (by decide)), ho j (by omega), hpc, ev_X0_weighsAt _ (show c < 16 by omega), b_some]
        dsimp only
        refine ih (j + 1) fuel _ (by omega) (by omega) (fun q => ?_)
        rw [pwr, hpc, nI_clamp (by omega), pw_eq hE]
theorem ev_X3_isSo {V P : PS} (hE : bE V P) {k : Nat} (hk : V.1 4 = nI k) (hk16 : k ≤ 16) {n : Nat} (hn : n ≤ k + 1) (hn19 : P.1 19 = nI n) {a b : Nat → Int32} (ha : P.2 32 = a) (hb' : P.2 33 = b) : ∃ f g, f_X3_isSo P = some (chkb V a b n 0, pXO P f g) := by
  have hkP : P.1 4 = nI k := hE.1.2.2.2.2.trans hk
  obtain ⟨f, g, eA, ho⟩ := ev_X4_arrange (S := P) hkP hk16 (v := 0) (by decide) (by decide)
  have hEQ := hE.tr (pXO_E P f g)
  have hl := ev_isSoX hEQ hk hk16 hn (show (pXO P f g).1 19 = nI n from hn19) (a := a) (b := b) (by rw [pXO_at _ _ _ (by decide) (by decide)]; exact ha) (by rw [pXO_at _ _ _ (by decide) (by decide)]; exact hb') (fun i hi => by rw [show (pXO P f g).2 30 = f from rfl, ho i hi, pord_eq hE]) n 0 pfuel (pallW V) (by omega) (pfuel_gt (by omega)) (fun _ => rfl)
  rw [show nI 0 = (0 : Int32) from rfl] at hl
  unfold f_X3_isSo
  rw [ev_X0_allWeight hkP hk16, b_some]
  dsimp only
  rw [hn19, pallW_eq hE]
  by_cases hz : n = 0
  · subst hz
    rw [if_pos (by decide), eA, b_some]
    exact ⟨f, g, hl⟩
  · rw [if_neg (nI_nle (by omega) (by omega)), ev_X11_isWithin, b_some]
    dsimp only
    rw [ha, hb']
    by_cases q : pwi (pallW V) (a 0) (b 0) = 0
    · rw [if_pos q]
      refine ⟨P.2 30, P.2 31, ?_⟩
      obtain ⟨n', rfl⟩ : ∃ z, n = z + 1 := ⟨n - 1, by omega⟩
      rw [pXO_self, chkb, show pwr V 0 = pallW V from rfl, if_pos q]
    · rw [if_neg q, eA, b_some]
      exact ⟨f, g, hl⟩
theorem ev_isSoM (V : PS) {Q : PS} {r : Nat} (hr : r < 3) {n : Nat} (hn : n ≤ 17) {L : Nat → Int32} (hL : Q.2 (25 + r) = L) (hg : ∀ i, i < n → Q.2 31 i = pln V i) : ∀ (m j fuel : Nat), j + m = n → m < fuel → plp (g_X12_isSo_7 fuel Q (nI r) (nI n) (nI j)) (fun S' => some ((1 : Int32), S')) = some (eqb V L m j, Q) := by
  intro m
  induction m with
  | zero =>
    intro j fuel hj hf
    obtain ⟨fuel, rfl⟩ : ∃ z, fuel = z + 1 := ⟨fuel - 1, by omega⟩
    rw [g_X12_isSo_7, if_pos (nI_le (by omega) (by omega)), eqb]
    rfl
  | succ m ih =>
    intro j fuel hj hf
    obtain ⟨fuel, rfl⟩ : ∃ z, fuel = z + 1 := ⟨fuel - 1, by omega⟩
    rw [g_X12_isSo_7, if_neg (nI_ge (by omega) (by omega)), g_t (pin_nI (show j < 17 by omega) (by decide)), g_t (pin_nI hr (by decide)), g_t (pin_nI (show j < 40 by omega) (by decide)), nI_clamp (show j < 2 ^ 31 by omega), nI_clamp (show r < 2 ^ 31 by omega), hL, hg j (by omega), nI_1, eqb]
    by_cases q : pln V j = L j
    · rw [if_pos q, if_pos q]
      exact ih (j + 1) fuel (by omega) (by omega)
    · rw [if_neg q, if_neg q]; rfl
theorem ev_X12_isSo {V P : PS} (hE : bE V P) (hb : bOK V.1 V.2) {k : Nat} (hk : V.1 4 = nI k) (hk16 : k ≤ 16) {n : Nat} (hn : n ≤ k + 1) {r : Nat} (hr : r < 3) {L : Nat → Int32} (hL : P.2 (25 + r) = L) : ∃ f g, f_X12_isSo P (nI r) (nI n) = some (eqb V L n 0, pXO P f g) := by
  have hkP : P.1 4 = nI k := hE.1.2.2.2.2.trans hk
  obtain ⟨f, g, e, hg⟩ := ev_X12_layLines (S := P) (hE.ok hb) hkP hk16 hn
  have hl := ev_isSoM V (Q := pXO P f g) hr (show n ≤ 17 by omega) (L := L) (by rw [pXO_at _ _ _ (by omega) (by omega)]; exact hL) (fun i hi => by rw [show (pXO P f g).2 31 = g from rfl, hg i hi, pln_eq hE]) n 0 pfuel (by omega) (pfuel_gt (by omega))
  unfold f_X12_isSo
  rw [e, b_some]
  exact ⟨f, g, hl⟩
/-- counting -/
def nA (ok : Nat → Int32) : Nat → Nat
  | 0 => 0
  | j + 1 => nA ok j + (if ok (j + 1) = 0 then 0 else 1)
theorem nA_le (ok : Nat → Int32) : ∀ i j, i ≤ j → nA ok i ≤ nA ok j ∧ nA ok j ≤ nA ok i + (j - i) := by
  intro i j
  induction j with
  | zero => intro h; rw [show i = 0 by omega]; exact ⟨Nat.le_refl _, by omega⟩
  | succ j ih =>
    intro h
    by_cases e : i = j + 1
    · rw [e]; exact ⟨Nat.le_refl _, by omega⟩
    · obtain ⟨h1, h2⟩ := ih (by omega)
      rw [nA]
      by_cases q : ok (j + 1) = 0
      · rw [if_pos q]; omega
      · rw [if_neg q]; omega
theorem nA_0 (ok : Nat → Int32) : ∀ j, nA ok j = 0 → ∀ v, 1 ≤ v → v ≤ j → ok v = 0 := by
  intro j
  induction j with
  | zero => intro _ v h1 h2; omega
  | succ j ih =>
    intro h v h1 h2
    rw [nA] at h
    by_cases q : ok (j + 1) = 0
    · by_cases e : v = j + 1
      · rw [e]; exact q
      · exact ih (by omega) v h1 (by omega)
    · rw [if_neg q] at h; omega
/-- the first in (lo, hi] -/
def isF (ok : Nat → Int32) (lo hi : Nat) (l : Int32) : Prop := (l = -2 ∧ ∀ v, lo < v → v ≤ hi → ok v = 0) ∨ ∃ w, lo < w ∧ w ≤ hi ∧ l = nI w ∧ ¬ ok w = 0 ∧ ∀ v, lo < v → v < w → ok v = 0
theorem isF_one {ok : Nat → Int32} {lo hi : Nat} {l l' : Int32} (h : isF ok lo hi l) (h' : isF ok lo hi l') : l = l' := by
  rcases h with ⟨h1, h2⟩ | ⟨w, w1, w2, w3, w4, w5⟩
  · rcases h' with ⟨g1, g2⟩ | ⟨x, x1, x2, x3, x4, x5⟩
    · rw [h1, g1]
    · exact absurd (h2 x x1 x2) x4
  · rcases h' with ⟨g1, g2⟩ | ⟨x, x1, x2, x3, x4, x5⟩
    · exact absurd (g2 w w1 w2) w4
    · have : w = x := by
        rcases Nat.lt_trichotomy w x with q | q | q
        · exact absurd (x5 w w1 q) w4
        · exact q
        · exact absurd (w5 x x1 q) x4
      rw [w3, x3, this]
def pSw (S : PS) (i0 w : Nat) : PS := pAr S 4 (upd (S.2 4) i0 (nI w))
theorem pSw_ok {S : PS} (hb : bOK S.1 S.2) {i0 w : Nat} (h1 : 1 ≤ w) (h2 : w ≤ 999) : bOK (pSw S i0 w).1 (pSw S i0 w).2 := by
  obtain ⟨q0, q1, q2, q3, q4, q5, q6, q7, q8⟩ := hb
  refine ⟨q0, q1, q2, q3, q4, q5, fun j hj => ?_, q7, q8⟩
  obtain ⟨a1, a2, a3, a4⟩ := q6 j hj
  refine ⟨a1, a2, ?_, a4⟩
  show rng (upd (S.2 4) i0 (nI w) j) 1 999
  rw [upd_at]
  by_cases e : j = i0
  · rw [if_pos e]; exact (rng_nI (by omega)).mpr ⟨by omega, by omega⟩
  · rw [if_neg e]; exact a3
/-- a state in the search -/
def pHX (S : PS) (i0 : Nat) (P : PS) : Prop := (∀ c, c ≤ 11 → P.1 c = S.1 c) ∧ (∀ c, c ≤ 29 → ¬ c = 4 → P.2 c = S.2 c) ∧ ∃ w, P.2 4 = upd (S.2 4) i0 w
theorem upd_upd (f : Nat → Int32) (i : Nat) (a b : Int32) : upd (upd f i a) i b = upd f i b := by
  funext j
  rw [upd_at, upd_at, upd_at]
  by_cases h : j = i
  · rw [if_pos h, if_pos h]
  · rw [if_neg h, if_neg h, if_neg h]
theorem pHX_w {S P : PS} {i0 : Nat} (h : pHX S i0 P) (w : Nat) : bE (pSw S i0 w) (pAr P 4 (upd (P.2 4) i0 (nI w))) := by
  obtain ⟨h1, h2, w0, h3⟩ := h
  have g : ∀ c, c ≤ 29 → (pAr P 4 (upd (P.2 4) i0 (nI w))).2 c = (pSw S i0 w).2 c := by
    intro c hc
    unfold pSw
    rw [pAr_2, pAr_2]
    by_cases e : c = 4
    · rw [if_pos e, if_pos e, h3, upd_upd]
    · rw [if_neg e, if_neg e]; exact h2 c hc e
  exact ⟨⟨h1 0 (by decide), h1 1 (by decide), h1 2 (by decide), h1 3 (by decide), h1 4 (by decide)⟩, ⟨g 0 (by decide), g 1 (by decide), g 2 (by decide), g 3 (by decide), g 4 (by decide), g 5 (by decide), g 6 (by decide), g 7 (by decide)⟩, g 8 (by decide), g 9 (by decide), g 10 (by decide), g 11 (by decide)⟩
theorem pHX_next {S P : PS} {i0 : Nat} (h : pHX S i0 P) (w : Int32) (f g : Nat → Int32) : pHX S i0 (pXO (pAr P 4 (upd (P.2 4) i0 w)) f g) := by
  obtain ⟨h1, h2, w0, h3⟩ := h
  refine ⟨h1, fun c hc hc4 => ?_, w, ?_⟩
  · rw [pXO_at _ _ _ (by omega) (by omega), pAr_out hc4]
    exact h2 c hc hc4
  · rw [pXO_at _ _ _ (by decide) (by decide), pAr_at, h3, upd_upd]
theorem pHX_pI {S P : PS} {i0 : Nat} (h : pHX S i0 P) {c : Nat} (hc : 12 ≤ c) (v : Int32) : pHX S i0 (pI P c v) := ⟨fun j hj => by rw [pI_out (by omega)]; exact h.1 j hj, h.2.1, h.2.2⟩
theorem ev_tryX {S : PS} (hb : bOK S.1 S.2) {k : Nat} (hk : S.1 4 = nI k) (hk16 : k ≤ 16) {n : Nat} (hn : n ≤ k + 1) {i0 : Nat} (hi0 : i0 < k) {L a b : Nat → Int32} (hab : ∀ i, i < n → a i = lea S (L i) ∧ b i = mos S (L i)) (v4 : Int32) : ∀ (m j fuel : Nat) (P : PS) (l : Int32), j + m = 999 → m < fuel → pHX S i0 P → P.1 19 = nI n → P.2 32 = a → P.2 33 = b → P.1 20 = nI (nA (fun w => eqb (pSw S i0 w) L n 0) j) → P.1 21 = l → isF (fun w => eqb (pSw S i0 w) L n 0) 0 j l → ∃ P', g_X3_tryWeights_25 fuel P (nI i0) v4 (nI (j + 1)) = some (.inr P') ∧ pHX S i0 P' ∧ P'.1 20 = nI (nA (fun w => eqb (pSw S i0 w) L n 0) 999) ∧ isF (fun w => eqb (pSw S i0 w) L n 0) 0 999 (P'.1 21) := by
  intro m
  induction m with
  | zero =>
    intro j fuel P l hj hf hP h19 h32 h33 h20 h21 hF
    obtain ⟨fuel, rfl⟩ : ∃ z, fuel = z + 1 := ⟨fuel - 1, by omega⟩
    obtain rfl : j = 999 := by omega
    refine ⟨P, ?_, hP, h20, by rw [h21]; exact hF⟩
    rw [g_X3_tryWeights_25, if_pos (by decide)]
  | succ m ih =>
    intro j fuel P l hj hf hP h19 h32 h33 h20 h21 hF
    obtain ⟨fuel, rfl⟩ : ∃ z, fuel = z + 1 := ⟨fuel - 1, by omega⟩
    have hbw := pSw_ok hb (i0 := i0) (w := j + 1) (by omega) (by omega)
    obtain ⟨f, g, e⟩ := ev_X3_isSo (V := pSw S i0 (j + 1)) (P := pAr P 4 (upd (P.2 4) i0 (nI (j + 1)))) (pHX_w hP (j + 1)) hk hk16 hn h19 (a := a) (b := b) h32 h33
    have hce : chkb (pSw S i0 (j + 1)) a b n 0 = eqb (pSw S i0 (j + 1)) L n 0 := chk_eqb hbw hk hk16 hn (L := L) (fun i hi => hab i hi) n 0 (by omega)
    rw [hce] at e
    have hN := pHX_next hP (nI (j + 1)) f g
    have hle := nA_le (fun w => eqb (pSw S i0 w) L n 0) 0 j (by omega)
    have hA : nA (fun w => eqb (pSw S i0 w) L n 0) (j + 1) = nA (fun w => eqb (pSw S i0 w) L n 0) j + (if eqb (pSw S i0 (j + 1)) L n 0 = 0 then 0 else 1) := by rw [nA]
    rw [g_X3_tryWeights_25, if_neg (show ¬ (999 : Int32) < nI (j + 1) from Int32.not_lt.mpr (nI_le (a := j + 1) (b := 999) (by omega) (by decide))), g_t (pin_nI (show i0 < 16 by omega) (by decide)), nI_clamp (show i0 < 2 ^ 31 by omega), e, b_some]
    dsimp only
    rw [nI_1]
    have h0 : nA (fun w => eqb (pSw S i0 w) L n 0) 0 = 0 := by rw [nA]
    by_cases q : eqb (pSw S i0 (j + 1)) L n 0 = 0
    · rw [if_pos q]
      rw [if_pos q] at hA
      refine ih (j + 1) fuel _ l (by omega) (by omega) hN h19 h32 h33 (by rw [hA]; exact h20) h21 ?_
      rcases hF with ⟨f1, f2⟩ | ⟨w, w1, w2, w3, w4, w5⟩
      · refine Or.inl ⟨f1, fun v v1 v2 => ?_⟩
        by_cases ev : v = j + 1
        · rw [ev]; exact q
        · exact f2 v v1 (by omega)
      · exact Or.inr ⟨w, w1, by omega, w3, w4, w5⟩
    · rw [if_neg q]
      rw [if_neg q] at hA
      have h20' : (pXO (pAr P 4 (upd (P.2 4) i0 (nI (j + 1)))) f g).1 20 = nI (nA (fun w => eqb (pSw S i0 w) L n 0) j) := h20
      rw [h20', nI_1, ← hA]
      by_cases hz : nA (fun w => eqb (pSw S i0 w) L n 0) j = 0
      · rw [if_pos (by rw [hz]; rfl)]
        have hall := nA_0 _ j hz
        refine ih (j + 1) fuel _ (nI (j + 1)) (by omega) (by omega) (pHX_pI (pHX_pI hN (by decide) _) (by decide) _) h19 h32 h33 rfl rfl ?_
        exact Or.inr ⟨j + 1, by omega, by omega, rfl, q, fun v v1 v2 => hall v (by omega) (by omega)⟩
      · rw [if_neg (nI_ne0 (by omega) (by omega))]
        refine ih (j + 1) fuel _ l (by omega) (by omega) (pHX_pI hN (by decide) _) h19 h32 h33 rfl h21 ?_
        rcases hF with ⟨f1, f2⟩ | ⟨w, w1, w2, w3, w4, w5⟩
        · exfalso
          apply hz
          have : ∀ i, i ≤ j → nA (fun w => eqb (pSw S i0 w) L n 0) i = 0 := by
            intro i
            induction i with
            | zero => intro _; exact h0
            | succ i ihi =>
              intro hi
              rw [nA, ihi (by omega), if_pos (f2 (i + 1) (by omega) hi)]
          exact this j (Nat.le_refl j)
        · exact Or.inr ⟨w, w1, by omega, w3, w4, w5⟩
theorem ev_tryM {S : PS} (hb : bOK S.1 S.2) {k : Nat} (hk : S.1 4 = nI k) (hk16 : k ≤ 16) {n : Nat} (hn : n ≤ k + 1) {i0 : Nat} (hi0 : i0 < k) {r : Nat} (hr : r < 3) {L : Nat → Int32} (hL : S.2 (25 + r) = L) (v4 v6 : Int32) : ∀ (j fuel : Nat) (P : PS) (l : Int32), j ≤ 999 → j < fuel → pHX S i0 P → isF (fun w => eqb (pSw S i0 w) L n 0) j 999 l → ∃ P' l', g_X12_fits_110 fuel P (nI r) (nI n) v4 (nI i0) v6 (nI (nA (fun w => eqb (pSw S i0 w) L n 0) 999 - nA (fun w => eqb (pSw S i0 w) L n 0) j)) l (nI j) = some (.inr (P', nI (nA (fun w => eqb (pSw S i0 w) L n 0) 999), l')) ∧ pHX S i0 P' ∧ isF (fun w => eqb (pSw S i0 w) L n 0) 0 999 l' := by
  intro j
  induction j with
  | zero =>
    intro fuel P l hj hf hP hF
    obtain ⟨fuel, rfl⟩ : ∃ z, fuel = z + 1 := ⟨fuel - 1, by omega⟩
    refine ⟨P, l, ?_, hP, hF⟩
    have h0 : nA (fun w => eqb (pSw S i0 w) L n 0) 0 = 0 := by rw [nA]
    rw [g_X12_fits_110, if_pos (by decide), h0, Nat.sub_zero]
  | succ j ih =>
    intro fuel P l hj hf hP hF
    obtain ⟨fuel, rfl⟩ : ∃ z, fuel = z + 1 := ⟨fuel - 1, by omega⟩
    have hbw := pSw_ok hb (i0 := i0) (w := j + 1) (by omega) (by omega)
    have hL' : (pAr P 4 (upd (P.2 4) i0 (nI (j + 1)))).2 (25 + r) = L := by
      rw [pAr_out (by omega), hP.2.1 (25 + r) (by omega) (by omega)]; exact hL
    obtain ⟨f, g, e⟩ := ev_X12_isSo (V := pSw S i0 (j + 1)) (P := pAr P 4 (upd (P.2 4) i0 (nI (j + 1)))) (pHX_w hP (j + 1)) hbw hk hk16 hn hr hL'
    have hN := pHX_next hP (nI (j + 1)) f g
    have e1 : nI (j + 1) + (-1) = nI j := by rw [← nI_pred j, Int32.sub_eq_add_neg]
    have hA : nA (fun w => eqb (pSw S i0 w) L n 0) (j + 1) = nA (fun w => eqb (pSw S i0 w) L n 0) j + (if eqb (pSw S i0 (j + 1)) L n 0 = 0 then 0 else 1) := by rw [nA]
    have hle := (nA_le (fun w => eqb (pSw S i0 w) L n 0) (j + 1) 999 hj).1
    rw [g_X12_fits_110, if_neg (show ¬ nI (j + 1) < (1 : Int32) from nI_nlt (a := j + 1) (b := 1) (by omega) (by omega)), g_t (pin_nI (show i0 < 16 by omega) (by decide)), nI_clamp (show i0 < 2 ^ 31 by omega), e, b_some, e1]
    dsimp only
    by_cases q : eqb (pSw S i0 (j + 1)) L n 0 = 0
    · rw [if_pos q] at hA
      rw [if_pos q, show nA (fun w => eqb (pSw S i0 w) L n 0) 999 - nA (fun w => eqb (pSw S i0 w) L n 0) (j + 1) = nA (fun w => eqb (pSw S i0 w) L n 0) 999 - nA (fun w => eqb (pSw S i0 w) L n 0) j by omega]
      refine ih fuel _ l (by omega) (by omega) hN ?_
      rcases hF with ⟨f1, f2⟩ | ⟨w, w1, w2, w3, w4, w5⟩
      · refine Or.inl ⟨f1, fun v v1 v2 => ?_⟩
        by_cases ev : v = j + 1
        · rw [ev]; exact q
        · exact f2 v (by omega) v2
      · refine Or.inr ⟨w, by omega, w2, w3, w4, fun v v1 v2 => ?_⟩
        by_cases ev : v = j + 1
        · rw [ev]; exact q
        · exact w5 v (by omega) v2
    · rw [if_neg q] at hA
      rw [if_neg q, nI_1, show nA (fun w => eqb (pSw S i0 w) L n 0) 999 - nA (fun w => eqb (pSw S i0 w) L n 0) (j + 1) + 1 = nA (fun w => eqb (pSw S i0 w) L n 0) 999 - nA (fun w => eqb (pSw S i0 w) L n 0) j by omega]
      refine ih fuel _ (nI (j + 1)) (by omega) (by omega) hN ?_
      exact Or.inr ⟨j + 1, by omega, by omega, rfl, q, fun v v1 v2 => by omega⟩
