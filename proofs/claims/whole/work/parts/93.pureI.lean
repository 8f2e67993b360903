/-! THE PURE PART, I: image, undo, next, turn -/
theorem bOK_ext {I I' : Nat → Int32} {A A' : Nat → Nat → Int32} (h1 : ∀ k, k < 5 → I' k = I k) (h2 : ∀ k, k < 2 → ∀ j, j < 10 → A' k j = A k j) (h3 : ∀ k, 2 ≤ k → k < 8 → ∀ j, j < 16 → A' k j = A k j) (h4 : ∀ k, 8 ≤ k → k < 12 → ∀ j, j < 4 → A' k j = A k j) (h : bOK I A) : bOK I' A' := by
  obtain ⟨q0, q1, q2, q3, q4, q5, q6, q7, q8⟩ := h
  have hsz : (I 4).toInt ≤ 16 := q4.2
  refine ⟨by rw [h1 0 (by decide)]; exact q0, by rw [h1 1 (by decide)]; exact q1, by rw [h1 2 (by decide)]; exact q2, by rw [h1 3 (by decide)]; exact q3, by rw [h1 4 (by decide)]; exact q4, fun j hj => ?_, fun j hj => ?_, fun j k hjk hk => ?_, fun t ht => ?_⟩
  · rw [h2 0 (by decide) j hj, h2 1 (by decide) j hj]; exact q5 j hj
  · rw [h1 4 (by decide)] at hj
    have hj16 : j < 16 := by omega
    rw [h3 2 (by decide) (by decide) j hj16, h3 3 (by decide) (by decide) j hj16, h3 4 (by decide) (by decide) j hj16, h3 5 (by decide) (by decide) j hj16, h3 6 (by decide) (by decide) j hj16, h3 7 (by decide) (by decide) j hj16]
    exact q6 j hj
  · rw [h1 4 (by decide)] at hk
    rw [h3 2 (by decide) (by decide) j (by omega), h3 2 (by decide) (by decide) k (by omega)]
    exact q7 j k hjk hk
  · rw [h4 8 (by decide) (by decide) t ht, h4 9 (by decide) (by decide) t ht, h4 10 (by decide) (by decide) t ht, h4 11 (by decide) (by decide) t ht]
    exact q8 t ht
theorem pcpy16 : pcpy 0 0 16 16 16 = true := by decide +kernel
def pcn (k : Nat) : Nat := if k < 2 then 10 else if k < 8 then 16 else 4
theorem ev_imageX (S : PS) : ∃ S', f_X11_image S = some (S.1 4, S') ∧ (∀ k, k < 5 → S'.1 k = S.1 k ∧ S'.1 (5 + k) = S.1 k) ∧ S'.1 10 = 1 ∧ S'.1 11 = S.1 11 ∧ (∀ k, k < 12 → S'.2 (12 + k) = va_cpy (S.2 k) (S.2 (12 + k)) 0 0 (pcn k)) ∧ (∀ k, (k < 12 ∨ 24 ≤ k) → S'.2 k = S.2 k) := by
  unfold f_X11_image f_X0_copyFrom_17_1 f_X2_copyFrom_18_2 f_X1_copyFrom_21_5 f_X8_copyFrom_28_12 f_X1_copyPlaces_21_5
  simp only [b_some, g_t pcpy16]
  refine ⟨_, rfl, fun k hk => ?_, rfl, rfl, fun k hk => ?_, fun k hk => ?_⟩
  · have : k = 0 ∨ k = 1 ∨ k = 2 ∨ k = 3 ∨ k = 4 := by omega
    rcases this with rfl | rfl | rfl | rfl | rfl <;> exact ⟨rfl, rfl⟩
  · have : k = 0 ∨ k = 1 ∨ k = 2 ∨ k = 3 ∨ k = 4 ∨ k = 5 ∨ k = 6 ∨ k = 7 ∨ k = 8 ∨ k = 9 ∨ k = 10 ∨ k = 11 := by omega
    rcases this with rfl | rfl | rfl | rfl | rfl | rfl | rfl | rfl | rfl | rfl | rfl | rfl <;> rfl
  · rw [pI_2]
    repeat rw [pAr_out (by omega)]
    rw [pI_2]
    repeat rw [pAr_out (by omega)]
    rfl
theorem ev_imageM (S : PS) : ∃ S', f_X12_image S = some (S.1 4, S') ∧ (∀ k, k < 5 → S'.1 k = S.1 k ∧ S'.2 29 k = S.1 k) ∧ S'.1 10 = 1 ∧ S'.1 11 = S.1 11 ∧ (∀ k, k < 12 → S'.2 (12 + k) = va_cpy (S.2 k) (S.2 (12 + k)) 0 0 (pcn k)) ∧ (∀ k, (k < 12 ∨ (24 ≤ k ∧ k ≤ 28)) → S'.2 k = S.2 k) := by
  unfold f_X12_image
  refine ⟨_, rfl, fun k hk => ?_, rfl, rfl, fun k hk => ?_, fun k hk => ?_⟩
  · have : k = 0 ∨ k = 1 ∨ k = 2 ∨ k = 3 ∨ k = 4 := by omega
    rcases this with rfl | rfl | rfl | rfl | rfl <;> exact ⟨rfl, rfl⟩
  · have : k = 0 ∨ k = 1 ∨ k = 2 ∨ k = 3 ∨ k = 4 ∨ k = 5 ∨ k = 6 ∨ k = 7 ∨ k = 8 ∨ k = 9 ∨ k = 10 ∨ k = 11 := by omega
    rcases this with rfl | rfl | rfl | rfl | rfl | rfl | rfl | rfl | rfl | rfl | rfl | rfl <;> rfl
  · repeat rw [pAr_out (by omega)]
    rfl
theorem pcpy_ok {f g : Nat → Int32} {n j : Nat} (h : j < n) : va_cpy f g 0 0 n j = f j := by
  rw [pk_cpy_in (by omega) (by omega)]
  congr 1
  omega
theorem eq_image : pEq0 Rel f_X11_image f_X12_image := by
  intro S T h
  obtain ⟨S', e1, a1, a2, a3, a4, a5⟩ := ev_imageX S
  obtain ⟨T', e2, b1, b2, b3, b4, b5⟩ := ev_imageM T
  show pQ _ _
  rw [e1, e2]
  refine pQ.re ?_ h.b.1.2.2.2.2
  obtain ⟨⟨h1, h2⟩, ⟨⟨h3, h4⟩, h5, h6, h7⟩, ⟨⟨h8, h9, h10, h11⟩, h12⟩, ⟨h13, h14⟩, h15, h16⟩ := h
  have hI : ∀ k, k < 5 → T.1 k = S.1 k := by
    intro k hk
    have : k = 0 ∨ k = 1 ∨ k = 2 ∨ k = 3 ∨ k = 4 := by omega
    obtain ⟨⟨q0, q1, q2, q3, q4⟩, -⟩ := h1
    rcases this with rfl | rfl | rfl | rfl | rfl
    · exact q0
    · exact q1
    · exact q2
    · exact q3
    · exact q4
  have hA : ∀ k, k < 12 → T.2 k = S.2 k := by
    intro k hk
    have : k = 0 ∨ k = 1 ∨ k = 2 ∨ k = 3 ∨ k = 4 ∨ k = 5 ∨ k = 6 ∨ k = 7 ∨ k = 8 ∨ k = 9 ∨ k = 10 ∨ k = 11 := by omega
    obtain ⟨-, ⟨q0, q1, q2, q3, q4, q5, q6, q7⟩, q8, q9, q10, q11⟩ := h1
    rcases this with rfl | rfl | rfl | rfl | rfl | rfl | rfl | rfl | rfl | rfl | rfl | rfl <;> assumption
  refine ⟨⟨h1.congr ⟨fun k hk => (a1 k hk).1, fun k hk => a5 k (Or.inl hk)⟩ ⟨fun k hk => (b1 k hk).1, fun k hk => b5 k (Or.inl hk)⟩, bOK_congr (fun k hk => (a1 k hk).1) (fun k hk => a5 k (Or.inl hk)) h2⟩, ⟨⟨?_, ?_⟩, fun k hk => ?_, fun k hk => ?_, fun q => ?_⟩, ⟨⟨?_, ?_, ?_, ?_⟩, ?_⟩, ⟨?_, ?_⟩, ?_, ?_⟩
  · rw [a2, b2]
  · rw [a2]; exact Or.inr rfl
  · rw [(b1 k hk).2, (a1 k hk).2, hI k hk]
  · rw [a4 k hk, b4 k hk, hA k hk, h6 k hk]
  · refine bOK_ext (fun k hk => (a1 k hk).2) (fun k hk j hj => ?_) (fun k hk hk2 j hj => ?_) (fun k hk hk2 j hj => ?_) h2
    · show S'.2 (12 + k) j = _
      rw [a4 k (by omega), pcpy_ok (by unfold pcn; rw [if_pos hk]; exact hj)]
    · show S'.2 (12 + k) j = _
      rw [a4 k (by omega), pcpy_ok (by unfold pcn; rw [if_neg (by omega), if_pos hk2]; exact hj)]
    · show S'.2 (12 + k) j = _
      rw [a4 k (by omega), pcpy_ok (by unfold pcn; rw [if_neg (by omega), if_neg (by omega)]; exact hj)]
  · rw [a5 24 (by decide), b5 24 (by decide)]; exact h8
  · rw [a5 25 (by decide), b5 25 (by decide)]; exact h9
  · rw [a5 26 (by decide), b5 26 (by decide)]; exact h10
  · rw [a5 27 (by decide), b5 27 (by decide)]; exact h11
  · rw [a5 24 (by decide)]; exact h12
  · rw [a3, b3]; exact h13
  · rw [a5 28 (by decide), b5 28 (by decide)]; exact h14
  · rw [a3]; exact h15
  · rw [a3, a5 28 (by decide)]; exact h16
theorem ev_undoX (S : PS) (h : ¬ S.1 10 = 0) : ∃ S', f_X11_undo S = some (S.1 9, S') ∧ (∀ k, k < 5 → S'.1 k = S.1 (5 + k)) ∧ (∀ k, 5 ≤ k → k ≤ 11 → S'.1 k = S.1 k) ∧ (∀ k, k < 12 → S'.2 k = va_cpy (S.2 (12 + k)) (S.2 k) 0 0 (pcn k)) ∧ (∀ k, 12 ≤ k → S'.2 k = S.2 k) := by
  unfold f_X11_undo f_X0_copyFrom_1_17 f_X2_copyFrom_2_18 f_X1_copyFrom_5_21 f_X8_copyFrom_12_28 f_X1_copyPlaces_5_21
  rw [if_neg h]
  simp only [b_some, g_t pcpy16]
  refine ⟨_, rfl, fun k hk => ?_, fun k hk hk2 => ?_, fun k hk => ?_, fun k hk => ?_⟩
  · have : k = 0 ∨ k = 1 ∨ k = 2 ∨ k = 3 ∨ k = 4 := by omega
    rcases this with rfl | rfl | rfl | rfl | rfl <;> rfl
  · have : k = 5 ∨ k = 6 ∨ k = 7 ∨ k = 8 ∨ k = 9 ∨ k = 10 ∨ k = 11 := by omega
    rcases this with rfl | rfl | rfl | rfl | rfl | rfl | rfl <;> rfl
  · have : k = 0 ∨ k = 1 ∨ k = 2 ∨ k = 3 ∨ k = 4 ∨ k = 5 ∨ k = 6 ∨ k = 7 ∨ k = 8 ∨ k = 9 ∨ k = 10 ∨ k = 11 := by omega
    rcases this with rfl | rfl | rfl | rfl | rfl | rfl | rfl | rfl | rfl | rfl | rfl | rfl <;> rfl
  · repeat rw [pAr_out (by omega)]
    rw [pI_2]
    repeat rw [pAr_out (by omega)]
    rfl
theorem ev_undoM (S : PS) (h : ¬ S.1 10 = 0) : ∃ S', f_X12_undo S = some (S.2 29 4, S') ∧ (∀ k, k < 5 → S'.1 k = S.2 29 k) ∧ (∀ k, 5 ≤ k → k ≤ 11 → S'.1 k = S.1 k) ∧ (∀ k, k < 12 → S'.2 k = va_cpy (S.2 (12 + k)) (S.2 k) 0 0 (pcn k)) ∧ (∀ k, 12 ≤ k → S'.2 k = S.2 k) := by
  unfold f_X12_undo
  rw [if_neg h]
  refine ⟨_, rfl, fun k hk => ?_, fun k hk hk2 => ?_, fun k hk => ?_, fun k hk => ?_⟩
  · have : k = 0 ∨ k = 1 ∨ k = 2 ∨ k = 3 ∨ k = 4 := by omega
    rcases this with rfl | rfl | rfl | rfl | rfl <;> rfl
  · have : k = 5 ∨ k = 6 ∨ k = 7 ∨ k = 8 ∨ k = 9 ∨ k = 10 ∨ k = 11 := by omega
    rcases this with rfl | rfl | rfl | rfl | rfl | rfl | rfl <;> rfl
  · have : k = 0 ∨ k = 1 ∨ k = 2 ∨ k = 3 ∨ k = 4 ∨ k = 5 ∨ k = 6 ∨ k = 7 ∨ k = 8 ∨ k = 9 ∨ k = 10 ∨ k = 11 := by omega
    rcases this with rfl | rfl | rfl | rfl | rfl | rfl | rfl | rfl | rfl | rfl | rfl | rfl <;> rfl
  · repeat rw [pAr_out (by omega)]
    rfl
theorem eq_undo : pEq0 Rel f_X11_undo f_X12_undo := by
  intro S T h
  show pQ _ _
  have hk10 := h.2.1.1.1
  by_cases hz : S.1 10 = 0
  · unfold f_X11_undo f_X12_undo
    rw [hk10, if_pos hz, if_pos hz]
    exact pQ.r h _
  · obtain ⟨S', e1, a1, a2, a3, a4⟩ := ev_undoX S hz
    obtain ⟨T', e2, b1, b2, b3, b4⟩ := ev_undoM T (by rw [hk10]; exact hz)
    obtain ⟨⟨h1, h2⟩, ⟨⟨h3, h4⟩, h5, h6, h7⟩, -⟩ := id h
    have hA : ∀ k, k < 12 → T.2 k = S.2 k := by
      intro k hk
      have : k = 0 ∨ k = 1 ∨ k = 2 ∨ k = 3 ∨ k = 4 ∨ k = 5 ∨ k = 6 ∨ k = 7 ∨ k = 8 ∨ k = 9 ∨ k = 10 ∨ k = 11 := by omega
      obtain ⟨-, ⟨q0, q1, q2, q3, q4, q5, q6, q7⟩, q8, q9, q10, q11⟩ := h1
      rcases this with rfl | rfl | rfl | rfl | rfl | rfl | rfl | rfl | rfl | rfl | rfl | rfl <;> assumption
    have hI : ∀ k, k < 5 → T'.1 k = S'.1 k := fun k hk => by rw [a1 k hk, b1 k hk, h5 k hk]
    have hB : ∀ k, k < 12 → T'.2 k = S'.2 k := fun k hk => by rw [a3 k hk, b3 k hk, hA k hk, h6 k hk]
    rw [e1, e2]
    refine pQ.re ?_ (h5 4 (by decide))
    refine h.boat ⟨a2, fun k q1 q2 => a4 k q1⟩ ⟨fun k q1 q2 => b2 k (by omega) q2, fun k q1 q2 => b4 k q1⟩ ?_ ?_
    · exact ⟨⟨hI 0 (by decide), hI 1 (by decide), hI 2 (by decide), hI 3 (by decide), hI 4 (by decide)⟩, ⟨hB 0 (by decide), hB 1 (by decide), hB 2 (by decide), hB 3 (by decide), hB 4 (by decide), hB 5 (by decide), hB 6 (by decide), hB 7 (by decide)⟩, hB 8 (by decide), hB 9 (by decide), hB 10 (by decide), hB 11 (by decide)⟩
    · refine bOK_ext (fun k hk => a1 k hk) (fun k hk j hj => ?_) (fun k hk hk2 j hj => ?_) (fun k hk hk2 j hj => ?_) (h7 (h4.resolve_left hz))
      · rw [a3 k (by omega), pcpy_ok (by unfold pcn; rw [if_pos hk]; exact hj)]
      · rw [a3 k (by omega), pcpy_ok (by unfold pcn; rw [if_neg (by omega), if_pos hk2]; exact hj)]
      · rw [a3 k (by omega), pcpy_ok (by unfold pcn; rw [if_neg (by omega), if_neg (by omega)]; exact hj)]
/-- the place behind a name -/
def pbh (f : Nat → Int32) (v : Int32) : Nat → Nat → Nat
  | 0, j => j
  | m + 1, j => if v < f j then j else pbh f v m (j + 1)
theorem pbh_le (f : Nat → Int32) (v : Int32) : ∀ (m j : Nat), j ≤ pbh f v m j ∧ pbh f v m j ≤ j + m := by
  intro m
  induction m with
  | zero => intro j; exact ⟨Nat.le_refl _, Nat.le_refl _⟩
  | succ m ih =>
    intro j
    rw [pbh]
    by_cases h : v < f j
    · rw [if_pos h]; exact ⟨Nat.le_refl _, by omega⟩
    · rw [if_neg h]
      have := ih (j + 1)
      omega
theorem ev_behind {S : PS} (v : Int32) {k : Nat} (hk : S.1 4 = nI k) (hk16 : k ≤ 16) : ∀ (m j fuel : Nat), j + m = k → m < fuel → g_X1_placeBehind_2 fuel S v (nI j) = some (.inr (S, nI (pbh (S.2 2) v m j))) := by
  intro m
  induction m with
  | zero =>
    intro j fuel hj hf
    obtain ⟨fuel, rfl⟩ : ∃ z, fuel = z + 1 := ⟨fuel - 1, by omega⟩
    rw [g_X1_placeBehind_2, hk, if_pos (nI_le (by omega) (by omega))]
    rfl
  | succ m ih =>
    intro j fuel hj hf
    obtain ⟨fuel, rfl⟩ : ∃ z, fuel = z + 1 := ⟨fuel - 1, by omega⟩
    rw [g_X1_placeBehind_2, hk, if_neg (nI_ge (by omega) (by omega)), g_t (pin_nI (by omega) (by decide)), nI_clamp (by omega), pbh]
    by_cases h : v < S.2 2 j
    · rw [if_pos h, if_pos h]
    · rw [if_neg h, if_neg h, nI_1]
      exact ih (j + 1) fuel (by omega) (by omega)
theorem ev_X1_placeBehind {S : PS} (v : Int32) {k : Nat} (hk : S.1 4 = nI k) (hk16 : k ≤ 16) : f_X1_placeBehind S v = some (nI (pbh (S.2 2) v k 0), S) := by
  unfold f_X1_placeBehind
  rw [show (0 : Int32) = nI 0 from rfl, ev_behind v hk hk16 k 0 pfuel (by omega) (pfuel_gt (by omega)), lp_r]
theorem ev_nextM {S : PS} (v : Int32) {k : Nat} (hk : S.1 4 = nI k) (hk16 : k ≤ 16) : ∀ (m j fuel : Nat), j + m = k → m < fuel → plp (g_X12_next_15 fuel S v (nI j)) (fun S' => some ((-2 : Int32), S')) = some (if pbh (S.2 2) v m j < k then S.2 2 (pbh (S.2 2) v m j) else -2, S) := by
  intro m
  induction m with
  | zero =>
    intro j fuel hj hf
    obtain ⟨fuel, rfl⟩ : ∃ z, fuel = z + 1 := ⟨fuel - 1, by omega⟩
    rw [g_X12_next_15, hk, if_pos (nI_le (by omega) (by omega)), pbh, if_neg (by omega)]
    rfl
  | succ m ih =>
    intro j fuel hj hf
    obtain ⟨fuel, rfl⟩ : ∃ z, fuel = z + 1 := ⟨fuel - 1, by omega⟩
    rw [g_X12_next_15, hk, if_neg (nI_ge (by omega) (by omega)), g_t (pin_nI (by omega) (by decide)), g_t (pin_nI (by omega) (by decide)), nI_clamp (by omega), pbh]
    by_cases h : v < S.2 2 j
    · rw [if_neg (Int32.not_le.mpr h), if_pos h, if_pos (show j < k by omega)]
      rfl
    · rw [if_pos (Int32.not_lt.mp h), if_neg h, nI_1]
      exact ih (j + 1) fuel (by omega) (by omega)
theorem eq_next : pEq1 Rel f_X11_next f_X12_next := by
  intro S T h v
  have hb := h.b
  obtain ⟨k, hk, hk16⟩ := h.x.k
  have hk' : T.1 4 = nI k := by rw [hb.1.2.2.2.2]; exact hk
  have hM := ev_nextM v hk' hk16 k 0 pfuel (by omega) (pfuel_gt (by omega))
  rw [show nI 0 = (0 : Int32) from rfl, hb.2.1.2.2.1] at hM
  have hle := (pbh_le (S.2 2) v k 0).2
  have fin : pQ (if S.1 4 ≤ nI (pbh (S.2 2) v k 0) then some (-2, S) else pgd (pin (nI (pbh (S.2 2) v k 0)) 16) (some (S.2 2 (nI (pbh (S.2 2) v k 0)).toNatClampNeg, S))) (some (if pbh (S.2 2) v k 0 < k then S.2 2 (pbh (S.2 2) v k 0) else -2, T)) := by
    rw [hk]
    by_cases q : pbh (S.2 2) v k 0 < k
    · rw [if_neg (nI_ge q (by omega)), if_pos q, g_t (pin_nI (by omega) (by decide)), nI_clamp (by omega)]
      exact pQ.r h _
    · rw [if_pos (nI_le (by omega) (by omega)), if_neg q]
      exact pQ.r h _
  show pQ _ _
  unfold f_X11_next f_X12_next
  refine pQ.ite (fun h0 => ?_) (fun h0 => ?_)
  · rw [ev_X1_placeBehind v hk hk16, b_some, hM]
    exact fin
  · refine pQ.bnds (ev_X11_isName S v) (ev_X12_isName T v) rfl (pQ.ite (fun _ => pQ.r h _) (fun h2 => ?_))
    rw [ev_X1_placeBehind v hk hk16, b_some, hM]
    exact fin
/-- the best to turn: the place, -1: none -/
def ptv (S : PS) (a : Int32) (j : Nat) : Int32 := pabs (a - ((2 * pw S j) * S.2 6 j))
def ptn (S : PS) (a : Int32) : Nat → Nat → Int32 → Int32 → Int32
  | 0, _, _, g => g
  | m + 1, j, b, g => if b ≤ ptv S a j then ptn S a m (j + 1) b g else ptn S a m (j + 1) (ptv S a j) (nI j)
theorem ev_turnX {S : PS} (a : Int32) {k : Nat} (hk : S.1 4 = nI k) (hk16 : k ≤ 16) : ∀ (m j fuel : Nat) (b g : Int32), j + m = k → m < fuel → g_X0_bestToTurn_15 fuel S a b g (nI j) = some (.inr (S, ptn S a m j b g)) := by
  intro m
  induction m with
  | zero =>
    intro j fuel b g hj hf
    obtain ⟨fuel, rfl⟩ : ∃ z, fuel = z + 1 := ⟨fuel - 1, by omega⟩
    rw [g_X0_bestToTurn_15, hk, if_pos (nI_le (by omega) (by omega))]
    rfl
  | succ m ih =>
    intro j fuel b g hj hf
    obtain ⟨fuel, rfl⟩ : ∃ z, fuel = z + 1 := ⟨fuel - 1, by omega⟩
    rw [g_X0_bestToTurn_15, hk, if_neg (nI_ge (by omega) (by omega)), ev_X0_weighsAt S (by omega), b_some]
    dsimp only
    rw [g_t (pin_nI (by omega) (by decide)), nI_clamp (by omega), nI_1, ptn, show pabs (a - ((2 * pw S j) * S.2 6 j)) = ptv S a j from rfl]
    by_cases h : b ≤ ptv S a j
    · rw [if_pos h, if_pos h]
      exact ih (j + 1) fuel _ _ (by omega) (by omega)
    · rw [if_neg h, if_neg h]
      exact ih (j + 1) fuel _ _ (by omega) (by omega)
theorem ptn_cases (S : PS) (a : Int32) {k : Nat} : ∀ (m j : Nat) (b g : Int32), j + m = k → (g = -1 ∨ ∃ i, i < k ∧ g = nI i) → (ptn S a m j b g = -1 ∨ ∃ i, i < k ∧ ptn S a m j b g = nI i) := by
  intro m
  induction m with
  | zero => intro j b g _ h; exact h
  | succ m ih =>
    intro j b g hj h
    rw [ptn]
    by_cases q : b ≤ ptv S a j
    · rw [if_pos q]; exact ih (j + 1) b g (by omega) h
    · rw [if_neg q]; exact ih (j + 1) _ _ (by omega) (Or.inr ⟨j, by omega, rfl⟩)
/-- a name of a place -/
def pnm (S : PS) (g : Int32) : Int32 := if g = -1 then -2 else S.2 2 g.toNatClampNeg
theorem pnm_nI {S : PS} {i : Nat} (h : i < 100) : pnm S (nI i) = S.2 2 i := by
  unfold pnm
  rw [if_neg (fun q => nI_pos (n := i) (by omega) (by rw [q]; decide)), nI_clamp (by omega)]
theorem ev_turnM {S : PS} (a : Int32) {k : Nat} (hk : S.1 4 = nI k) (hk16 : k ≤ 16) : ∀ (m j fuel : Nat) (b g : Int32), j + m = k → m < fuel → g_X12_turn_16 fuel S a b (pnm S g) (nI j) = some (.inr (S, pnm S (ptn S a m j b g))) := by
  intro m
  induction m with
  | zero =>
    intro j fuel b g hj hf
    obtain ⟨fuel, rfl⟩ : ∃ z, fuel = z + 1 := ⟨fuel - 1, by omega⟩
    rw [g_X12_turn_16, hk, if_pos (nI_le (by omega) (by omega))]
    rfl
  | succ m ih =>
    intro j fuel b g hj hf
    obtain ⟨fuel, rfl⟩ : ∃ z, fuel = z + 1 := ⟨fuel - 1, by omega⟩
    rw [g_X12_turn_16, hk, if_neg (nI_ge (by omega) (by omega)), ev_X12_weighs0 S (by omega), b_some]
    dsimp only
    rw [g_t (pin_nI (by omega) (by decide)), g_t (pin_nI (by omega) (by decide)), nI_clamp (by omega), nI_1, ptn, show pabs (a - ((2 * pw S j) * S.2 6 j)) = ptv S a j from rfl]
    by_cases h : b ≤ ptv S a j
    · rw [if_neg (Int32.not_lt.mpr h), if_pos h]
      exact ih (j + 1) fuel _ _ (by omega) (by omega)
    · rw [if_pos (Int32.not_le.mp h), if_neg h]
      have e := ih (j + 1) fuel (ptv S a j) (nI j) (by omega) (by omega)
      rw [pnm_nI (by omega)] at e
      exact e
theorem ptn_eq {S T : PS} (h : bE S T) (a : Int32) : ∀ (m j : Nat) (b g : Int32), ptn T a m j b g = ptn S a m j b g := by
  have e : ∀ j, ptv T a j = ptv S a j := fun j => by
    unfold ptv
    rw [pw_eq h, h.2.1.2.2.2.2.2.2.1]
  intro m
  induction m with
  | zero => intro j b g; rfl
  | succ m ih =>
    intro j b g
    rw [ptn, ptn, e, ih, ih]
theorem eq_turn : pEq0 Rel f_X11_turn f_X12_turn := by
  intro S T h
  have hb := h.b
  obtain ⟨k, hk, hk16⟩ := h.x.k
  have hk' : T.1 4 = nI k := by rw [hb.1.2.2.2.2]; exact hk
  show pQ _ _
  unfold f_X11_turn f_X12_turn f_X0_bestToTurn
  have eX := ev_turnX (S := S) (paside S) hk hk16 k 0 pfuel (pabs (paside S)) (-1) (by omega) (pfuel_gt (by omega))
  have eM := ev_turnM (S := T) (paside T) hk' hk16 k 0 pfuel (pabs (paside T)) (-1) (by omega) (pfuel_gt (by omega))
  rw [show pnm T (-1) = -2 from rfl, ptn_eq hb, paside_eq hb] at eM
  rw [show nI 0 = (0 : Int32) from rfl] at eX eM
  rw [ev_X0_allAside h.x, b_some, ev_X12_aside hk' hk16, b_some, paside_eq hb]
  dsimp only
  rw [eX, eM, lp_r, lp_r, b_some]
  dsimp only
  rcases ptn_cases S (paside S) (k := k) k 0 (pabs (paside S)) (-1) (by omega) (Or.inl rfl) with e | ⟨i, hi, e⟩
  · rw [e, if_neg (by decide)]
    exact pQ.r h _
  · rw [e, if_pos (nI_pos' (by omega)), g_t (pin_nI (by omega) (by decide)), pnm_nI (by omega), nI_clamp (by omega), hb.2.1.2.2.1]
    exact pQ.r h _
