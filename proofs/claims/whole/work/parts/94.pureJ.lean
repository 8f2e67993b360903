/-! THE PURE PART, J: put and take -/
def pLay (S : PS) (a b : Nat) : PS := pAr (pAr (pAr (pAr (pAr (pAr S 2 (upd (S.2 2) a (S.2 2 b))) 3 (upd (S.2 3) a (S.2 3 b))) 4 (upd (S.2 4) a (S.2 4 b))) 5 (upd (S.2 5) a (S.2 5 b))) 6 (upd (S.2 6) a (S.2 6 b))) 7 (upd (S.2 7) a (S.2 7 b))
theorem ev_X12_lay (S : PS) {a b : Nat} (ha : a < 16) (hb : b < 16) : f_X12_lay S (nI a) (nI b) = some (0, pLay S a b) := by
  have h1 := pin_nI ha (by decide : 16 < 2 ^ 31)
  have h2 := pin_nI hb (by decide : 16 < 2 ^ 31)
  unfold f_X12_lay pLay
  rw [g_t h2, g_t h1, g_t h2, g_t h1, g_t h2, g_t h1, g_t h2, g_t h1, g_t h2, g_t h1, g_t h2, g_t h1, nI_clamp (show a < 2 ^ 31 by omega), nI_clamp (show b < 2 ^ 31 by omega)]
theorem pLay_1 (S : PS) (a b : Nat) : (pLay S a b).1 = S.1 := rfl
theorem pLay_in (S : PS) (a b : Nat) {c : Nat} (h1 : 2 ≤ c) (h2 : c ≤ 7) : (pLay S a b).2 c = upd (S.2 c) a (S.2 c b) := by
  have : c = 2 ∨ c = 3 ∨ c = 4 ∨ c = 5 ∨ c = 6 ∨ c = 7 := by omega
  rcases this with rfl | rfl | rfl | rfl | rfl | rfl <;> rfl
theorem pLay_out (S : PS) (a b : Nat) {c : Nat} (h : c < 2 ∨ 7 < c) : (pLay S a b).2 c = S.2 c := by
  unfold pLay
  repeat rw [pAr_out (by omega)]
/-- the cargo's columns, moved -/
def pMv (S : PS) (sp dp n : Nat) : PS := (S.1, fun c => if 2 ≤ c ∧ c ≤ 7 then va_cpy (S.2 c) (S.2 c) sp dp n else S.2 c)
theorem pMv_in (S : PS) (sp dp n : Nat) {c : Nat} (h1 : 2 ≤ c) (h2 : c ≤ 7) : (pMv S sp dp n).2 c = va_cpy (S.2 c) (S.2 c) sp dp n := if_pos ⟨h1, h2⟩
theorem pMv_out (S : PS) (sp dp n : Nat) {c : Nat} (h : c < 2 ∨ 7 < c) : (pMv S sp dp n).2 c = S.2 c := if_neg (by omega)
theorem pcpy_none {f g : Nat → Int32} (sp dp : Nat) : va_cpy f g sp dp 0 = g := by
  funext i
  exact pk_cpy_out (by omega)
theorem pMv_0 (S : PS) (sp dp : Nat) : pMv S sp dp 0 = S := ps_ext rfl (fun c => by
  by_cases h : 2 ≤ c ∧ c ≤ 7
  · rw [pMv_in _ _ _ _ h.1 h.2, pcpy_none]
  · rw [pMv_out _ _ _ _ (by omega)])
theorem pcpy_up (f : Nat → Int32) (j k : Nat) (h1 : 0 < j) (h2 : j ≤ k) : upd (va_cpy f f j (j + 1) (k - j)) j (va_cpy f f j (j + 1) (k - j) (j - 1)) = va_cpy f f (j - 1) (j - 1 + 1) (k - (j - 1)) := by
  funext i
  rw [upd_at, pk_cpy_out (j := j - 1) (by omega)]
  by_cases e : i = j
  · rw [if_pos e, pk_cpy_in (j := i) (by omega) (by omega)]
    congr 1
    omega
  · rw [if_neg e]
    by_cases q : j + 1 ≤ i ∧ i < j + 1 + (k - j)
    · rw [pk_cpy_in q.1 q.2, pk_cpy_in (by omega) (by omega)]
      congr 1
      omega
    · rw [pk_cpy_out (j := i) (by omega), pk_cpy_out (j := i) (by omega)]
theorem pcpy_dn (f : Nat → Int32) (i0 j : Nat) (h1 : i0 ≤ j) : upd (va_cpy f f (i0 + 1) i0 (j - i0)) j (va_cpy f f (i0 + 1) i0 (j - i0) (j + 1)) = va_cpy f f (i0 + 1) i0 (j + 1 - i0) := by
  funext i
  rw [upd_at, pk_cpy_out (j := j + 1) (by omega)]
  by_cases e : i = j
  · rw [if_pos e, pk_cpy_in (j := i) (by omega) (by omega)]
    congr 1
    omega
  · rw [if_neg e]
    by_cases q : i0 ≤ i ∧ i < i0 + (j - i0)
    · rw [pk_cpy_in q.1 q.2, pk_cpy_in (by omega) (by omega)]
    · rw [pk_cpy_out (j := i) (by omega), pk_cpy_out (j := i) (by omega)]
theorem pMv_up (S : PS) (j k : Nat) (h1 : 0 < j) (h2 : j ≤ k) : pLay (pMv S j (j + 1) (k - j)) j (j - 1) = pMv S (j - 1) (j - 1 + 1) (k - (j - 1)) := ps_ext rfl (fun c => by
  by_cases h : 2 ≤ c ∧ c ≤ 7
  · rw [pLay_in _ _ _ h.1 h.2, pMv_in _ _ _ _ h.1 h.2, pMv_in _ _ _ _ h.1 h.2, pcpy_up _ _ _ h1 h2]
  · rw [pLay_out _ _ _ (by omega), pMv_out _ _ _ _ (by omega), pMv_out _ _ _ _ (by omega)])
theorem pMv_dn (S : PS) (i0 j : Nat) (h1 : i0 ≤ j) : pLay (pMv S (i0 + 1) i0 (j - i0)) j (j + 1) = pMv S (i0 + 1) i0 (j + 1 - i0) := ps_ext rfl (fun c => by
  by_cases h : 2 ≤ c ∧ c ≤ 7
  · rw [pLay_in _ _ _ h.1 h.2, pMv_in _ _ _ _ h.1 h.2, pMv_in _ _ _ _ h.1 h.2, pcpy_dn _ _ _ h1]
  · rw [pLay_out _ _ _ (by omega), pMv_out _ _ _ _ (by omega), pMv_out _ _ _ _ (by omega)])
theorem ev_X1_copyPlaces (S : PS) {sp dp n : Nat} (h1 : sp + n ≤ 16) (h2 : dp + n ≤ 16) : f_X1_copyPlaces_5_5 S (nI sp) (nI dp) (nI n) = some (0, pMv S sp dp n) := by
  have hp : pcpy (nI sp) (nI dp) (nI n) 16 16 = true := by
    unfold pcpy
    rw [nI_clamp (by omega), nI_clamp (by omega), nI_clamp (by omega)]
    simp only [Bool.and_eq_true, Bool.not_eq_true', decide_eq_false_iff_not, decide_eq_true_eq]
    exact ⟨⟨⟨⟨nI_pos (by omega), nI_pos (by omega)⟩, nI_pos (by omega)⟩, h1⟩, h2⟩
  unfold f_X1_copyPlaces_5_5
  rw [g_t hp, g_t hp, g_t hp, g_t hp, g_t hp, g_t hp, nI_clamp (by omega), nI_clamp (by omega), nI_clamp (by omega)]
  congr 2
  refine ps_ext rfl (fun c => ?_)
  by_cases h : 2 ≤ c ∧ c ≤ 7
  · rw [pMv_in _ _ _ _ h.1 h.2]
    have : c = 2 ∨ c = 3 ∨ c = 4 ∨ c = 5 ∨ c = 6 ∨ c = 7 := by omega
    rcases this with rfl | rfl | rfl | rfl | rfl | rfl <;> rfl
  · rw [pMv_out _ _ _ _ (by omega)]
    repeat rw [pAr_out (by omega)]
/-- what is behind, and what before -/
theorem pbh_spec (f : Nat → Int32) (v : Int32) : ∀ (m j : Nat), (∀ i, j ≤ i → i < pbh f v m j → ¬ v < f i) ∧ (pbh f v m j < j + m → v < f (pbh f v m j)) := by
  intro m
  induction m with
  | zero => intro j; exact ⟨fun i h1 h2 => by rw [pbh] at h2; omega, fun h => by rw [pbh] at h; omega⟩
  | succ m ih =>
    intro j
    rw [pbh]
    by_cases h : v < f j
    · rw [if_pos h]; exact ⟨fun i h1 h2 => by omega, fun _ => h⟩
    · rw [if_neg h]
      obtain ⟨h1, h2⟩ := ih (j + 1)
      refine ⟨fun i q1 q2 => ?_, fun q => h2 (by omega)⟩
      by_cases e : i = j
      · rw [e]; exact h
      · exact h1 i (by omega) q2
theorem ev_putLoop {T : PS} (v1 v2 v3 v4 v5 v6 : Int32) {k p : Nat} (hk16 : k < 16) (hlo : ∀ i, i < p → ¬ v1 < T.2 2 i) (hhi : ∀ i, p ≤ i → i < k → v1 < T.2 2 i) : ∀ (m fuel : Nat), p + m ≤ k → m < fuel → g_X12_put_90 fuel (pMv T (p + m) (p + m + 1) (k - (p + m))) v1 v2 v3 v4 v5 v6 (nI (p + m)) = some (.inr (pMv T p (p + 1) (k - p), nI p)) := by
  intro m
  induction m with
  | zero =>
    intro fuel hj hf
    obtain ⟨fuel, rfl⟩ : ∃ z, fuel = z + 1 := ⟨fuel - 1, by omega⟩
    rw [g_X12_put_90]
    by_cases h0 : p = 0
    · rw [if_pos (show nI (p + 0) ≤ (0 : Int32) by rw [h0]; decide)]
      rfl
    · have e : nI (p + 0) - 1 = nI (p - 1) := pk_sub (a := p) (b := 1) (by omega)
      rw [if_neg (nI_nle (n := p + 0) (by omega) (by omega)), e, g_t (pin_nI (by omega) (by decide)), nI_clamp (by omega), pMv_in _ _ _ _ (by decide) (by decide), pk_cpy_out (by omega), if_pos (Int32.not_lt.mp (hlo (p - 1) (by omega)))]
      rfl
  | succ m ih =>
    intro fuel hj hf
    obtain ⟨fuel, rfl⟩ : ∃ z, fuel = z + 1 := ⟨fuel - 1, by omega⟩
    have e : nI (p + (m + 1)) - 1 = nI (p + m) := pk_sub (a := p + (m + 1)) (b := 1) (by omega)
    have e2 : nI (p + (m + 1)) + (-1) = nI (p + m) := by rw [← e, Int32.sub_eq_add_neg]
    rw [g_X12_put_90, if_neg (nI_nle (n := p + (m + 1)) (by omega) (by omega)), e, e2, g_t (pin_nI (by omega) (by decide)), nI_clamp (by omega), pMv_in _ _ _ _ (by decide) (by decide), pk_cpy_out (by omega), if_neg (Int32.not_le.mpr (hhi (p + m) (by omega) (by omega))), ev_X12_lay _ (by omega) (by omega), b_some]
    dsimp only
    have e3 := pMv_up T (p + (m + 1)) k (by omega) (by omega)
    rw [show p + (m + 1) - 1 = p + m by omega] at e3
    rw [e3]
    exact ih fuel (by omega) (by omega)
theorem ev_takeLoop {T : PS} {k : Nat} (hk : T.1 4 = nI k) (hk16 : k ≤ 16) (w : Int32) {i0 : Nat} (hi0 : i0 < k) : ∀ (m j fuel : Nat), i0 ≤ j → j + 1 + m = k → m < fuel → g_X12_take_31 fuel (pMv T (i0 + 1) i0 (j - i0)) w (nI j) = some (.inr (pMv T (i0 + 1) i0 (k - 1 - i0))) := by
  intro m
  induction m with
  | zero =>
    intro j fuel h0 hj hf
    obtain ⟨fuel, rfl⟩ : ∃ z, fuel = z + 1 := ⟨fuel - 1, by omega⟩
    rw [g_X12_take_31, nI_1, show (pMv T (i0 + 1) i0 (j - i0)).1 4 = nI k from hk, if_pos (nI_le (by omega) (by omega)), show j = k - 1 by omega]
  | succ m ih =>
    intro j fuel h0 hj hf
    obtain ⟨fuel, rfl⟩ : ∃ z, fuel = z + 1 := ⟨fuel - 1, by omega⟩
    rw [g_X12_take_31, nI_1, show (pMv T (i0 + 1) i0 (j - i0)).1 4 = nI k from hk, if_neg (nI_ge (by omega) (by omega)), ev_X12_lay _ (by omega) (by omega), b_some]
    dsimp only
    rw [pMv_dn T i0 j h0]
    exact ih (j + 1) fuel (by omega) (by omega) (by omega)
/-- two boats that differ in cargo columns and their number -/
theorem bE.cargo {S T S' T' : PS} (h : bE S T) (hX : (∀ k, k < 4 → S'.1 k = S.1 k) ∧ ∀ c, (c < 2 ∨ 7 < c) → S'.2 c = S.2 c) (hM : (∀ k, k < 4 → T'.1 k = T.1 k) ∧ ∀ c, (c < 2 ∨ 7 < c) → T'.2 c = T.2 c) (h4 : T'.1 4 = S'.1 4) (hc : ∀ c, 2 ≤ c → c ≤ 7 → T'.2 c = S'.2 c) : bE S' T' := by
  unfold bE at h ⊢
  rw [hX.1 0 (by decide), hX.1 1 (by decide), hX.1 2 (by decide), hX.1 3 (by decide), hX.2 0 (by decide), hX.2 1 (by decide), hX.2 8 (by decide), hX.2 9 (by decide), hX.2 10 (by decide), hX.2 11 (by decide)]
  rw [hM.1 0 (by decide), hM.1 1 (by decide), hM.1 2 (by decide), hM.1 3 (by decide), hM.2 0 (by decide), hM.2 1 (by decide), hM.2 8 (by decide), hM.2 9 (by decide), hM.2 10 (by decide), hM.2 11 (by decide)]
  obtain ⟨⟨h0, h1, h2, h3, -⟩, ⟨a0, a1, -⟩, a8⟩ := h
  exact ⟨⟨h0, h1, h2, h3, h4⟩, ⟨a0, a1, hc 2 (by decide) (by decide), hc 3 (by decide) (by decide), hc 4 (by decide) (by decide), hc 5 (by decide) (by decide), hc 6 (by decide) (by decide), hc 7 (by decide) (by decide)⟩, a8⟩
theorem hcE {S T : PS} (h : bE S T) {c : Nat} (h1 : 2 ≤ c) (h2 : c ≤ 7) : T.2 c = S.2 c := by
  have : c = 2 ∨ c = 3 ∨ c = 4 ∨ c = 5 ∨ c = 6 ∨ c = 7 := by omega
  obtain ⟨-, ⟨-, -, q2, q3, q4, q5, q6, q7⟩, -⟩ := h
  rcases this with rfl | rfl | rfl | rfl | rfl | rfl <;> assumption
theorem eq_take : pEq1 Rel f_X11_take f_X12_take := by
  intro S T h v
  have hb := h.b
  have hx := h.x
  obtain ⟨k, hk, hk16⟩ := h.x.k
  have hk' : T.1 4 = nI k := by rw [hb.1.2.2.2.2]; exact hk
  show pQ _ _
  unfold f_X11_take f_X12_take
  refine pQ.bnds (ev_X11_isName S v) (ev_X12_isName T v) rfl (pQ.ite (fun _ => pQ.r h _) (fun h2 => ?_))
  refine pQ.bnds (ev_X1_placeOf S v hk hk16) (ev_X12_find T v hk' hk16) (by rw [hb.2.1.2.2.1]) ?_
  rcases pfn_in (S.2 2) v k with e | ⟨i, hi, e, -⟩
  · rw [e, if_neg (by decide), if_neg (by decide)]
    exact pQ.r h _
  · rw [e]
    refine pQ.ite (fun _ => ?_) (fun _ => pQ.r h _)
    have e1 : nI k - nI i - 1 = nI (k - 1 - i) := by
      rw [pk_sub (by omega)]
      have := pk_sub (a := k - i) (b := 1) (by omega)
      rw [show k - 1 - i = k - i - 1 by omega]
      exact this
    have hl := ev_takeLoop hk' hk16 (pw S i) hi (k - 1 - i) i pfuel (Nat.le_refl i) (by omega) (pfuel_gt (by omega))
    rw [Nat.sub_self, pMv_0] at hl
    have e2 : nI k - 1 = nI (k - 1) := pk_sub (a := k) (b := 1) (by omega)
    rw [ev_X0_weighsAt S (by omega), b_some, ev_X12_weighs hb (by omega), b_some]
    dsimp only
    unfold f_X1_closePlace
    rw [hk, e1, nI_1, ev_X1_copyPlaces S (by omega) (by omega), b_some, hl, lp_r]
    dsimp only
    rw [b_some]
    dsimp only
    rw [show (pMv S (i + 1) i (k - 1 - i)).1 4 = nI k from hk, show (pMv T (i + 1) i (k - 1 - i)).1 4 = nI k from hk', e2]
    refine pQ.r ?_ _
    refine h.boat ⟨fun j h1 h2 => pI_out (by omega), fun j h1 h2 => pMv_out _ _ _ _ (by omega)⟩ ⟨fun j h1 h2 => pI_out (by omega), fun j h1 h2 => pMv_out _ _ _ _ (by omega)⟩ ?_ ?_
    · refine hb.cargo ⟨fun j hj => pI_out (by omega), fun c hc => pMv_out _ _ _ _ hc⟩ ⟨fun j hj => pI_out (by omega), fun c hc => pMv_out _ _ _ _ hc⟩ rfl (fun c h1 h2 => ?_)
      rw [pI_2, pI_2, pMv_in _ _ _ _ h1 h2, pMv_in _ _ _ _ h1 h2, hcE hb h1 h2]
    · have hg : ∀ j, j < k → _ := fun j hj => hx.goods hk (j := j) hj hk16
      have hs : ∀ a b, a < b → b < k → _ := fun a b hab hb => hx.sorted hk (i := a) (j := b) hab hb hk16
      obtain ⟨q0, q1, q2, q3, q4, q5, q6, q7, q8⟩ := hx
      refine ⟨q0, q1, q2, q3, (rng_nI (by omega)).mpr ⟨by omega, by omega⟩, q5, fun j hj => ?_, fun a b hab hb => ?_, q8⟩
      · have hj' : (j : Int) < (nI (k - 1)).toInt := hj
        rw [nI_toInt (by omega)] at hj'
        rw [pI_2, pMv_in _ _ _ _ (by decide) (by decide), pMv_in _ _ _ _ (by decide) (by decide), pMv_in _ _ _ _ (by decide) (by decide), pMv_in _ _ _ _ (by decide) (by decide), pMv_in _ _ _ _ (by decide) (by decide), pMv_in _ _ _ _ (by decide) (by decide)]
        by_cases hji : j < i
        · rw [pk_cpy_out (Or.inl hji), pk_cpy_out (Or.inl hji), pk_cpy_out (Or.inl hji), pk_cpy_out (Or.inl hji), pk_cpy_out (Or.inl hji), pk_cpy_out (Or.inl hji)]
          exact hg j (by omega)
        · rw [pk_cpy_in (by omega) (by omega), pk_cpy_in (by omega) (by omega), pk_cpy_in (by omega) (by omega), pk_cpy_in (by omega) (by omega), pk_cpy_in (by omega) (by omega), pk_cpy_in (by omega) (by omega)]
          exact hg _ (by omega)
      · have hb' : (b : Int) < (nI (k - 1)).toInt := hb
        rw [nI_toInt (by omega)] at hb'
        rw [pI_2, pMv_in _ _ _ _ (by decide) (by decide)]
        by_cases hbi : b < i
        · rw [pk_cpy_out (Or.inl hbi), pk_cpy_out (j := a) (by omega)]
          exact hs a b hab (by omega)
        · rw [pk_cpy_in (j := b) (by omega) (by omega)]
          by_cases hai : a < i
          · rw [pk_cpy_out (Or.inl hai)]
            exact hs a _ (by omega) (by omega)
          · rw [pk_cpy_in (j := a) (by omega) (by omega)]
            exact hs _ _ (by omega) (by omega)
