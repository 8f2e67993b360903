/-! THE PURE PART, N: sorted order -/
def pin1 (key : Nat → Int32) (j : Nat) : Nat → (Nat → Int32) → (Nat → Int32) × Nat
  | 0, f => (f, 0)
  | m + 1, f => if key j ≤ key (f m).toNatClampNeg then (f, m + 1) else pin1 key j m (upd f (m + 1) (f m))
def pso (key : Nat → Int32) : Nat → Nat → (Nat → Int32) → (Nat → Int32)
  | 0, _, f => f
  | m + 1, j, f => pso key m (j + 1) (upd (pin1 key j j f).1 (pin1 key j j f).2 (nI j))
theorem pin1_val (key : Nat → Int32) (j : Nat) : ∀ (m : Nat) (f : Nat → Int32), m ≤ j → (∀ i, i ≤ j → ¬ i = m → ∃ c, c < j ∧ f i = nI c) → (pin1 key j m f).2 ≤ j ∧ ∀ i, i ≤ j → ¬ i = (pin1 key j m f).2 → ∃ c, c < j ∧ (pin1 key j m f).1 i = nI c := by
  intro m
  induction m with
  | zero => intro f hm h; exact ⟨hm, h⟩
  | succ m ih =>
    intro f hm h
    rw [pin1]
    by_cases q : key j ≤ key (f m).toNatClampNeg
    · rw [if_pos q]; exact ⟨hm, h⟩
    · rw [if_neg q]
      refine ih _ (by omega) (fun i h1 h2 => ?_)
      rw [upd_at]
      by_cases e : i = m + 1
      · rw [if_pos e]; exact h m (by omega) (by omega)
      · rw [if_neg e]; exact h i h1 e
theorem pin1_agree (key : Nat → Int32) (j : Nat) : ∀ (m : Nat) (f g : Nat → Int32), m ≤ j → (∀ i, i ≤ j → ¬ i = m → f i = g i) → (pin1 key j m f).2 = (pin1 key j m g).2 ∧ ∀ i, i ≤ j → ¬ i = (pin1 key j m f).2 → (pin1 key j m f).1 i = (pin1 key j m g).1 i := by
  intro m
  induction m with
  | zero => intro f g hm h; exact ⟨rfl, h⟩
  | succ m ih =>
    intro f g hm h
    rw [pin1, pin1, h m (by omega) (by omega)]
    by_cases q : key j ≤ key (g m).toNatClampNeg
    · rw [if_pos q, if_pos q]; exact ⟨rfl, h⟩
    · rw [if_neg q, if_neg q]
      refine ih _ _ (by omega) (fun i h1 h2 => ?_)
      rw [upd_at, upd_at]
      by_cases e : i = m + 1
      · rw [if_pos e, if_pos e]
      · rw [if_neg e, if_neg e]; exact h i h1 e
theorem pso_val (key : Nat → Int32) {k : Nat} : ∀ (m j : Nat) (f : Nat → Int32), j + m = k → (∀ i, i < j → ∃ c, c < j ∧ f i = nI c) → ∀ i, i < k → ∃ c, c < k ∧ pso key m j f i = nI c := by
  intro m
  induction m with
  | zero => intro j f hj h; rw [show k = j by omega]; exact h
  | succ m ih =>
    intro j f hj h
    obtain ⟨h1, h2⟩ := pin1_val key j j f (Nat.le_refl j) (fun i q1 q2 => h i (by omega))
    refine ih (j + 1) _ (by omega) (fun i hi => ?_)
    rw [upd_at]
    by_cases e : i = (pin1 key j j f).2
    · rw [if_pos e]; exact ⟨j, by omega, rfl⟩
    · rw [if_neg e]
      obtain ⟨c, hc, hc2⟩ := h2 i (by omega) e
      exact ⟨c, by omega, hc2⟩
theorem pso_agree (key : Nat → Int32) {k : Nat} : ∀ (m j : Nat) (f g : Nat → Int32), j + m = k → (∀ i, i < j → f i = g i) → ∀ i, i < k → pso key m j f i = pso key m j g i := by
  intro m
  induction m with
  | zero => intro j f g hj h; rw [show k = j by omega]; exact h
  | succ m ih =>
    intro j f g hj h
    obtain ⟨h1, h2⟩ := pin1_agree key j j f g (Nat.le_refl j) (fun i q1 q2 => h i (by omega))
    refine ih (j + 1) _ _ (by omega) (fun i hi => ?_)
    rw [upd_at, upd_at, ← h1]
    by_cases e : i = (pin1 key j j f).2
    · rw [if_pos e, if_pos e]
    · rw [if_neg e, if_neg e]
      exact h2 i (by omega) e
/-- the states -/
def pXO (S : PS) (f g : Nat → Int32) : PS := (S.1, fun k => if k = 30 then f else if k = 31 then g else S.2 k)
theorem pXO_self (S : PS) : pXO S (S.2 30) (S.2 31) = S := ps_ext rfl (fun k => by
  show (if k = 30 then S.2 30 else if k = 31 then S.2 31 else S.2 k) = S.2 k
  by_cases h : k = 30
  · rw [if_pos h, h]
  · rw [if_neg h]
    by_cases h : k = 31
    · rw [if_pos h, h]
    · rw [if_neg h])
theorem pXO_30 (S : PS) (f g f' : Nat → Int32) : pAr (pXO S f g) 30 f' = pXO S f' g := ps_ext rfl (fun k => by
  rw [pAr_2]
  show (if k = 30 then f' else if k = 30 then f else if k = 31 then g else S.2 k) = (if k = 30 then f' else if k = 31 then g else S.2 k)
  by_cases h : k = 30
  · rw [if_pos h, if_pos h]
  · rw [if_neg h, if_neg h, if_neg h])
theorem pXO_31 (S : PS) (f g g' : Nat → Int32) : pAr (pXO S f g) 31 g' = pXO S f g' := ps_ext rfl (fun k => by
  rw [pAr_2]
  show (if k = 31 then g' else if k = 30 then f else if k = 31 then g else S.2 k) = (if k = 30 then f else if k = 31 then g' else S.2 k)
  by_cases h : k = 31
  · rw [if_pos h, if_pos h, if_neg (by omega)]
  · rw [if_neg h, if_neg h, if_neg h])
theorem pXO_E (S : PS) (f g : Nat → Int32) : bE S (pXO S f g) := ⟨⟨rfl, rfl, rfl, rfl, rfl⟩, ⟨rfl, rfl, rfl, rfl, rfl, rfl, rfl, rfl⟩, rfl, rfl, rfl, rfl⟩
theorem pXO_at (S : PS) (f g : Nat → Int32) {c : Nat} (h : ¬ c = 30) (h2 : ¬ c = 31) : (pXO S f g).2 c = S.2 c := by
  show (if c = 30 then f else if c = 31 then g else S.2 c) = S.2 c
  rw [if_neg h, if_neg h2]
theorem pXO_same (S : PS) (f g : Nat → Int32) : sameX S (pXO S f g) := ⟨fun k hk => rfl, fun k hk => pXO_at S f g (by omega) (by omega)⟩
theorem pXO_sameM (S : PS) (f g : Nat → Int32) : sameM S (pXO S f g) := ⟨fun k hk => rfl, fun k hk => pXO_at S f g (by omega) (by omega)⟩
def pky (S : PS) (v : Int32) (g : Nat) : Int32 := if v = 1 then S.2 7 g else pw S g
theorem pky_eq {S T : PS} (h : bE S T) (v : Int32) : pky T v = pky S v := by
  funext g
  unfold pky
  rw [pw_eq h, h.2.1.2.2.2.2.2.2.2]
theorem ev_arr0 {S : PS} {k : Nat} (hk : S.1 4 = nI k) (hk16 : k ≤ 16) (v : Int32) (g : Nat → Int32) : ∀ (m j fuel : Nat) (f : Nat → Int32), j + m = k → m < fuel → (∀ i, i < j → f i = nI i) → ∃ f', g_X4_arrange_2 fuel (pXO S f g) v (nI j) = some (.inr (pXO S f' g)) ∧ ∀ i, i < k → f' i = nI i := by
  intro m
  induction m with
  | zero =>
    intro j fuel f hj hf h
    obtain ⟨fuel, rfl⟩ : ∃ z, fuel = z + 1 := ⟨fuel - 1, by omega⟩
    refine ⟨f, ?_, fun i hi => h i (by omega)⟩
    rw [g_X4_arrange_2, show (pXO S f g).1 4 = nI k from hk, if_pos (nI_le (by omega) (by omega))]
  | succ m ih =>
    intro j fuel f hj hf h
    obtain ⟨fuel, rfl⟩ : ∃ z, fuel = z + 1 := ⟨fuel - 1, by omega⟩
    rw [g_X4_arrange_2, show (pXO S f g).1 4 = nI k from hk, if_neg (nI_ge (by omega) (by omega)), g_t (pin_nI (show j < 16 by omega) (by decide)), nI_clamp (show j < 2 ^ 31 by omega), nI_1, pXO_30]
    refine ih (j + 1) fuel _ (by omega) (by omega) (fun i hi => ?_)
    show upd f j (nI j) i = nI i
    rw [upd_at]
    by_cases e : i = j
    · rw [if_pos e, e]
    · rw [if_neg e]; exact h i (by omega)
theorem ev_sortIn (S : PS) (v : Int32) (g : Nat → Int32) {j : Nat} (hj : j < 16) (hg : ∀ c, c ≤ j → g c = pky S v c) : ∀ (m fuel : Nat) (f : Nat → Int32), m ≤ j → m < fuel → (∀ i, i < m → ∃ c, c < j ∧ f i = nI c) → g_X4_sort_44 fuel (pXO S f g) v (nI j) (nI m) = some (.inr (pXO S (pin1 (pky S v) j m f).1 g, nI (pin1 (pky S v) j m f).2)) := by
  intro m
  induction m with
  | zero =>
    intro fuel f hm hf h
    obtain ⟨fuel, rfl⟩ : ∃ z, fuel = z + 1 := ⟨fuel - 1, by omega⟩
    rw [g_X4_sort_44, if_pos (by decide)]
    rfl
  | succ m ih =>
    intro fuel f hm hf h
    obtain ⟨fuel, rfl⟩ : ∃ z, fuel = z + 1 := ⟨fuel - 1, by omega⟩
    obtain ⟨c, hc, hfc⟩ := h m (by omega)
    have e : nI (m + 1) - 1 = nI m := pk_sub (a := m + 1) (b := 1) (by omega)
    have e2 : nI (m + 1) + (-1) = nI m := by rw [← e, Int32.sub_eq_add_neg]
    rw [g_X4_sort_44, if_neg (nI_nle (n := m + 1) (by omega) (by omega)), e, e2, show (pXO S f g).2 30 = f from rfl, show (pXO S f g).2 31 = g from rfl, g_t (pin_nI (show m < 16 by omega) (by decide)), nI_clamp (show m < 2 ^ 31 by omega), hfc, g_t (pin_nI (show c < 16 by omega) (by decide)), g_t (pin_nI hj (by decide)), nI_clamp (show c < 2 ^ 31 by omega), nI_clamp (show j < 2 ^ 31 by omega), hg j (Nat.le_refl j), hg c (by omega), g_t (pin_nI (show m < 16 by omega) (by decide)), g_t (pin_nI (show m + 1 < 16 by omega) (by decide)), nI_clamp (show m + 1 < 2 ^ 31 by omega), pXO_30, pin1, hfc, nI_clamp (show c < 2 ^ 31 by omega)]
    by_cases q : pky S v j ≤ pky S v c
    · rw [if_pos q, if_pos q]
    · rw [if_neg q, if_neg q]
      refine ih fuel _ (by omega) (by omega) (fun i hi => ?_)
      rw [upd_at, if_neg (by omega)]
      exact h i (by omega)
theorem ev_sort {S : PS} {k : Nat} (hk : S.1 4 = nI k) (hk16 : k ≤ 16) (v : Int32) : ∀ (m j fuel : Nat) (f g : Nat → Int32), j + m = k → m < fuel → (∀ i, i < j → ∃ c, c < j ∧ f i = nI c) → (∀ c, c < j → g c = pky S v c) → ∃ g', g_X4_sort_2 fuel (pXO S f g) v (nI j) = some (.inr (pXO S (pso (pky S v) m j f) g')) := by
  intro m
  induction m with
  | zero =>
    intro j fuel f g hj hf h hg
    obtain ⟨fuel, rfl⟩ : ∃ z, fuel = z + 1 := ⟨fuel - 1, by omega⟩
    refine ⟨g, ?_⟩
    rw [g_X4_sort_2, show (pXO S f g).1 4 = nI k from hk, if_pos (nI_le (by omega) (by omega))]
    rfl
  | succ m ih =>
    intro j fuel f g hj hf h hg
    obtain ⟨fuel, rfl⟩ : ∃ z, fuel = z + 1 := ⟨fuel - 1, by omega⟩
    have hp := pin_nI (show j < 16 by omega) (by decide : 16 < 2 ^ 31)
    obtain ⟨h1, h2⟩ := pin1_val (pky S v) j j f (Nat.le_refl j) (fun i q1 q2 => h i (by omega))
    have hg' : ∀ c, c ≤ j → upd g j (pky S v j) c = pky S v c := by
      intro c hc
      rw [upd_at]
      by_cases e : c = j
      · rw [if_pos e, e]
      · rw [if_neg e]; exact hg c (by omega)
    have eI := ev_sortIn S v (upd g j (pky S v j)) (show j < 16 by omega) hg' j pfuel f (Nat.le_refl j) (pfuel_gt (by omega)) h
    obtain ⟨g', eg⟩ := ih (j + 1) fuel (upd (pin1 (pky S v) j j f).1 (pin1 (pky S v) j j f).2 (nI j)) (upd g j (pky S v j)) (by omega) (by omega) (fun i hi => by
      rw [upd_at]
      by_cases e : i = (pin1 (pky S v) j j f).2
      · rw [if_pos e]; exact ⟨j, by omega, rfl⟩
      · rw [if_neg e]
        obtain ⟨c, hc, hc2⟩ := h2 i (by omega) e
        exact ⟨c, by omega, hc2⟩) (fun c hc => hg' c (by omega))
    refine ⟨g', ?_⟩
    rw [g_X4_sort_2, show (pXO S f g).1 4 = nI k from hk, if_neg (nI_ge (by omega) (by omega)), pso, ← eg]
    have hp2 := pin_nI (show (pin1 (pky S v) j j f).2 < 16 by omega) (by decide : 16 < 2 ^ 31)
    by_cases hv : v = 1
    · have ek : (pXO S f g).2 7 j = pky S v j := by unfold pky; rw [if_pos hv]; rfl
      rw [if_pos hv, g_t hp, g_t hp, nI_clamp (show j < 2 ^ 31 by omega), show (pXO S f g).2 31 = g from rfl, ek, pXO_31, eI, lq_r]
      dsimp only
      rw [g_t hp2, nI_clamp (by omega), pXO_30, nI_1]
      rfl
    · have ek : pw (pXO S f g) j = pky S v j := by unfold pky; rw [if_neg hv]; rfl
      rw [if_neg hv, ev_X0_weighsAt _ (by omega), b_some]
      dsimp only
      rw [g_t hp, nI_clamp (show j < 2 ^ 31 by omega), show (pXO S f g).2 31 = g from rfl, ek, pXO_31, eI, lq_r]
      dsimp only
      rw [g_t hp2, nI_clamp (by omega), pXO_30, nI_1]
      rfl
/-- the rank by a key -/
def pord (S : PS) (v : Int32) : Nat → Int32 := pso (pky S v) (psz S) 0 (fun i => nI i)
theorem pord_eq {S T : PS} (h : bE S T) (v : Int32) : pord T v = pord S v := by
  unfold pord
  rw [pky_eq h, psz_eq h]
theorem pord_in {S : PS} {k : Nat} (hk : S.1 4 = nI k) (hk16 : k ≤ 16) (v : Int32) {i : Nat} (hi : i < k) : ∃ c, c < k ∧ pord S v i = nI c := by
  unfold pord
  rw [psz_k hk hk16]
  exact pso_val (pky S v) k 0 _ (by omega) (fun i hi => by omega) i hi
theorem ev_X4_arrange {S : PS} {k : Nat} (hk : S.1 4 = nI k) (hk16 : k ≤ 16) {v : Int32} (h2 : ¬ v = 2) (h3 : ¬ v = 3) : ∃ f g, f_X4_arrange S v = some (0, pXO S f g) ∧ ∀ i, i < k → f i = pord S v i := by
  unfold f_X4_arrange f_X4_sort
  obtain ⟨f', e1, -⟩ := ev_arr0 hk hk16 v (S.2 31) k 0 pfuel (S.2 30) (by omega) (pfuel_gt (by omega)) (fun i hi => by omega)
  rw [pXO_self] at e1
  have e1' : g_X4_arrange_2 pfuel S v 0 = some (.inr (pXO S f' (S.2 31))) := e1
  obtain ⟨g', e2⟩ := ev_sort hk hk16 v k 0 pfuel f' (S.2 31) (by omega) (pfuel_gt (by omega)) (fun i hi => by omega) (fun i hi => by omega)
  have e2' : g_X4_sort_2 pfuel (pXO S f' (S.2 31)) v 0 = some (.inr (pXO S (pso (pky S v) k 0 f') g')) := e2
  rw [e1', lp_r, if_neg h3, if_neg h2, e2', lp_r, b_some]
  refine ⟨_, _, rfl, fun i hi => ?_⟩
  unfold pord
  rw [psz_k hk hk16]
  exact pso_agree (pky S v) k 0 _ _ (by omega) (fun i hi => by omega) i hi
theorem ev_X4_arrange2 {S : PS} {k : Nat} (hk : S.1 4 = nI k) (hk16 : k ≤ 16) : ∃ f g, f_X4_arrange S 2 = some (0, pXO S f g) ∧ ∀ i, i < k → f i = nI i := by
  unfold f_X4_arrange
  obtain ⟨f', e1, h⟩ := ev_arr0 hk hk16 2 (S.2 31) k 0 pfuel (S.2 30) (by omega) (pfuel_gt (by omega)) (fun i hi => by omega)
  rw [pXO_self] at e1
  have e1' : g_X4_arrange_2 pfuel S 2 0 = some (.inr (pXO S f' (S.2 31))) := e1
  rw [e1', lp_r, if_neg (by decide), if_pos rfl]
  exact ⟨_, _, rfl, h⟩
/-- the model's -/
theorem ev_X12_isAhead (S : PS) {v : Int32} (hv : v = 0 ∨ v = 1) {a b : Nat} (hb : b < a) (ha : a < 16) : f_X12_isAhead S v (nI a) (nI b) = some (if pky S v a ≤ pky S v b then 0 else 1, S) := by
  have hp1 := pin_nI ha (by decide : 16 < 2 ^ 31)
  have hp2 := pin_nI (show b < 16 by omega) (by decide : 16 < 2 ^ 31)
  have hle : nI b ≤ nI a := nI_le (by omega) (by omega)
  unfold f_X12_isAhead pky
  rcases hv with rfl | rfl
  · rw [if_pos rfl, ev_X12_weighs0 S ha, b_some]
    dsimp only
    rw [if_pos rfl, ev_X12_weighs0 S (show b < 16 by omega), b_some]
    dsimp only
    rw [if_neg (show ¬ (0 : Int32) = 1 by decide), if_neg (show ¬ (0 : Int32) = 1 by decide)]
    by_cases h : pw S a = pw S b
    · rw [if_pos h, if_pos hle, if_pos (by rw [h]; exact Int32.le_refl _)]
    · rw [if_neg h]
      by_cases h1 : pw S a ≤ pw S b
      · rw [if_pos h1, if_pos h1]
      · rw [if_neg h1, if_neg h1]
  · rw [if_neg (show ¬ (1 : Int32) = 0 by decide), g_t hp1, if_neg (show ¬ (1 : Int32) = 0 by decide), g_t hp2, nI_clamp (show a < 2 ^ 31 by omega), nI_clamp (show b < 2 ^ 31 by omega), if_pos rfl, if_pos rfl]
    by_cases h : S.2 7 a = S.2 7 b
    · rw [if_pos h, if_pos hle, if_pos (by rw [h]; exact Int32.le_refl _)]
    · rw [if_neg h]
      by_cases h1 : S.2 7 a ≤ S.2 7 b
      · rw [if_pos h1, if_pos h1]
      · rw [if_neg h1, if_neg h1]
theorem ev_rankIn (S : PS) {v : Int32} (hv : v = 0 ∨ v = 1) (g : Nat → Int32) {j : Nat} (hj : j < 16) : ∀ (m fuel : Nat) (f : Nat → Int32), m ≤ j → m < fuel → (∀ i, i < m → ∃ c, c < j ∧ f i = nI c) → g_X12_layRank_12 fuel (pXO S f g) v (nI j) (nI m) = some (.inr (pXO S (pin1 (pky S v) j m f).1 g, nI (pin1 (pky S v) j m f).2)) := by
  have hv2 : ¬ (2 : Int32) ≤ v := by
    rcases hv with rfl | rfl <;> decide
  intro m
  induction m with
  | zero =>
    intro fuel f hm hf h
    obtain ⟨fuel, rfl⟩ : ∃ z, fuel = z + 1 := ⟨fuel - 1, by omega⟩
    rw [g_X12_layRank_12, if_neg hv2, if_pos (by decide)]
    rfl
  | succ m ih =>
    intro fuel f hm hf h
    obtain ⟨fuel, rfl⟩ : ∃ z, fuel = z + 1 := ⟨fuel - 1, by omega⟩
    obtain ⟨c, hc, hfc⟩ := h m (by omega)
    have e : nI (m + 1) - 1 = nI m := pk_sub (a := m + 1) (b := 1) (by omega)
    have e2 : nI (m + 1) + (-1) = nI m := by rw [← e, Int32.sub_eq_add_neg]
    rw [g_X12_layRank_12, if_neg hv2, if_neg (nI_nle (n := m + 1) (by omega) (by omega)), e, e2, show (pXO S f g).2 30 = f from rfl, g_t (pin_nI (show m < 16 by omega) (by decide)), nI_clamp (show m < 2 ^ 31 by omega), hfc, ev_X12_isAhead _ hv hc hj, b_some]
    dsimp only
    rw [show (pXO S f g).2 30 = f from rfl, hfc, show pky (pXO S f g) v = pky S v from rfl, g_t (pin_nI (show m < 16 by omega) (by decide)), g_t (pin_nI (show m + 1 < 16 by omega) (by decide)), nI_clamp (show m + 1 < 2 ^ 31 by omega), pXO_30, pin1, hfc, nI_clamp (show c < 2 ^ 31 by omega)]
    by_cases q : pky S v j ≤ pky S v c
    · rw [if_pos q, if_pos q, if_pos rfl]
    · rw [if_neg q, if_neg q, if_neg (by decide)]
      refine ih fuel _ (by omega) (by omega) (fun i hi => ?_)
      rw [upd_at, if_neg (by omega)]
      exact h i (by omega)
theorem ev_rank {S : PS} {k : Nat} (hk : S.1 4 = nI k) (hk16 : k ≤ 16) {v : Int32} (hv : v = 0 ∨ v = 1) (g : Nat → Int32) : ∀ (m j fuel : Nat) (f : Nat → Int32), j + m = k → m < fuel → (∀ i, i < j → ∃ c, c < j ∧ f i = nI c) → g_X12_layRank_2 fuel (pXO S f g) v (nI j) = some (.inr (pXO S (pso (pky S v) m j f) g)) := by
  intro m
  induction m with
  | zero =>
    intro j fuel f hj hf h
    obtain ⟨fuel, rfl⟩ : ∃ z, fuel = z + 1 := ⟨fuel - 1, by omega⟩
    rw [g_X12_layRank_2, show (pXO S f g).1 4 = nI k from hk, if_pos (nI_le (by omega) (by omega))]
    rfl
  | succ m ih =>
    intro j fuel f hj hf h
    obtain ⟨fuel, rfl⟩ : ∃ z, fuel = z + 1 := ⟨fuel - 1, by omega⟩
    obtain ⟨h1, h2⟩ := pin1_val (pky S v) j j f (Nat.le_refl j) (fun i q1 q2 => h i (by omega))
    rw [g_X12_layRank_2, show (pXO S f g).1 4 = nI k from hk, if_neg (nI_ge (by omega) (by omega)), ev_rankIn S hv g (show j < 16 by omega) j pfuel f (Nat.le_refl j) (pfuel_gt (by omega)) h, lq_r]
    dsimp only
    rw [g_t (pin_nI (show (pin1 (pky S v) j j f).2 < 16 by omega) (by decide)), nI_clamp (by omega), pXO_30, nI_1, pso]
    refine ih (j + 1) fuel _ (by omega) (by omega) (fun i hi => ?_)
    show ∃ c, c < j + 1 ∧ upd (pin1 (pky S v) j j f).1 (pin1 (pky S v) j j f).2 (nI j) i = nI c
    rw [upd_at]
    by_cases e : i = (pin1 (pky S v) j j f).2
    · rw [if_pos e]; exact ⟨j, by omega, rfl⟩
    · rw [if_neg e]
      obtain ⟨c, hc, hc2⟩ := h2 i (by omega) e
      exact ⟨c, by omega, hc2⟩
theorem ev_X12_layRank {S : PS} {k : Nat} (hk : S.1 4 = nI k) (hk16 : k ≤ 16) {v : Int32} (hv : v = 0 ∨ v = 1) : ∃ f, f_X12_layRank S v = some (0, pXO S f (S.2 31)) ∧ ∀ i, i < k → f i = pord S v i := by
  unfold f_X12_layRank
  have e1 := ev_rank hk hk16 hv (S.2 31) k 0 pfuel (S.2 30) (by omega) (pfuel_gt (by omega)) (fun i hi => by omega)
  rw [pXO_self] at e1
  have e1' : g_X12_layRank_2 pfuel S v 0 = some (.inr (pXO S (pso (pky S v) k 0 (S.2 30)) (S.2 31))) := e1
  have h3 : ¬ v = 3 := by rcases hv with rfl | rfl <;> decide
  rw [e1', lp_r, if_neg h3]
  refine ⟨_, rfl, fun i hi => ?_⟩
  unfold pord
  rw [psz_k hk hk16]
  exact pso_agree (pky S v) k 0 _ _ (by omega) (fun i hi => by omega) i hi
theorem ev_rank2 {S : PS} {k : Nat} (hk : S.1 4 = nI k) (hk16 : k ≤ 16) {v : Int32} (hv : 2 ≤ v) (g : Nat → Int32) : ∀ (m j fuel : Nat) (f : Nat → Int32), j + m = k → m < fuel → (∀ i, i < j → f i = nI i) → ∃ f', g_X12_layRank_2 fuel (pXO S f g) v (nI j) = some (.inr (pXO S f' g)) ∧ ∀ i, i < k → f' i = nI i := by
  intro m
  induction m with
  | zero =>
    intro j fuel f hj hf h
    obtain ⟨fuel, rfl⟩ : ∃ z, fuel = z + 1 := ⟨fuel - 1, by omega⟩
    refine ⟨f, ?_, fun i hi => h i (by omega)⟩
    rw [g_X12_layRank_2, show (pXO S f g).1 4 = nI k from hk, if_pos (nI_le (by omega) (by omega))]
  | succ m ih =>
    intro j fuel f hj hf h
    obtain ⟨fuel, rfl⟩ : ∃ z, fuel = z + 1 := ⟨fuel - 1, by omega⟩
    have e0 : g_X12_layRank_12 pfuel (pXO S f g) v (nI j) (nI j) = some (.inr (pXO S f g, nI j)) := by
      rw [show pfuel = 4095 + 1 from rfl, g_X12_layRank_12, if_pos hv]
    rw [g_X12_layRank_2, show (pXO S f g).1 4 = nI k from hk, if_neg (nI_ge (by omega) (by omega)), e0, lq_r]
    dsimp only
    rw [g_t (pin_nI (show j < 16 by omega) (by decide)), nI_clamp (show j < 2 ^ 31 by omega), pXO_30, nI_1]
    refine ih (j + 1) fuel _ (by omega) (by omega) (fun i hi => ?_)
    show upd f j (nI j) i = nI i
    rw [upd_at]
    by_cases e : i = j
    · rw [if_pos e, e]
    · rw [if_neg e]; exact h i (by omega)
