/-! THE PURE PART, B: names, places, weights, sums -/
theorem nI_lit (k : Nat) (c : Int32) (h : Int32.ofNat k = c) : c = nI k := h.symm
def pnq : Nat → Int32 → Int32
  | 0, _ => 1
  | n + 1, x => if x ≤ 0 then 1 else if x - x / 27 * 27 = 0 then 0 else pnq n (x / 27)
def pname (v : Int32) : Int32 := if v < 1 then 0 else if 531440 < v then 0 else pnq 4 v
theorem ev_isNameX (S : PS) : ∀ (n i fuel : Nat) (v : Int32), i + n = 4 → n < fuel → plp (g_X11_isName_17 fuel S v (nI i)) (fun S' => some ((1 : Int32), S')) = some (pnq n v, S) := by
  intro n
  induction n with
  | zero =>
    intro i fuel v hi hf
    obtain ⟨fuel, rfl⟩ : ∃ z, fuel = z + 1 := ⟨fuel - 1, by omega⟩
    rw [g_X11_isName_17, if_pos (show (4 : Int32) ≤ nI i from by rw [show i = 4 by omega]; decide)]
    rfl
  | succ n ih =>
    intro i fuel v hi hf
    obtain ⟨fuel, rfl⟩ : ∃ z, fuel = z + 1 := ⟨fuel - 1, by omega⟩
    rw [g_X11_isName_17, if_neg (show ¬ (4 : Int32) ≤ nI i from nI_ge (a := i) (b := 4) (by omega) (by decide)), pnq]
    by_cases h1 : v ≤ 0
    · rw [if_pos h1, if_pos h1]; rfl
    · rw [if_neg h1, if_neg h1]
      by_cases h2 : v - v / 27 * 27 = 0
      · rw [if_pos h2, if_pos h2]; rfl
      · rw [if_neg h2, if_neg h2, nI_1]
        exact ih (i + 1) fuel (v / 27) (by omega) (by omega)
theorem ev_X11_isName (S : PS) (v : Int32) : f_X11_isName S v = some (pname v, S) := by
  rw [f_X11_isName, ev_X11_isWithin, b_some]
  show (if pwi v 1 531440 = 0 then _ else _) = _
  unfold pwi pname
  by_cases h1 : v < 1
  · rw [if_pos h1, if_pos h1, if_pos rfl]
  · rw [if_neg h1, if_neg h1]
    by_cases h2 : 531440 < v
    · rw [if_pos h2, if_pos h2, if_pos rfl]
    · rw [if_neg h2, if_neg h2, if_neg (by decide)]
      exact ev_isNameX S 4 0 pfuel v rfl (pfuel_gt (by decide))
theorem ev_isNameM (S : PS) : ∀ (n fuel a : Nat), a < 27 ^ n → n ≤ 4 → n < fuel → plp (g_X12_isName_15 fuel S (nI a)) (fun S' => some ((1 : Int32), S')) = some (pnq n (nI a), S) := by
  intro n
  induction n with
  | zero =>
    intro fuel a ha hn hf
    obtain ⟨fuel, rfl⟩ : ∃ z, fuel = z + 1 := ⟨fuel - 1, by omega⟩
    rw [show a = 0 by omega, g_X12_isName_15, if_pos (by decide)]
    rfl
  | succ n ih =>
    intro fuel a ha hn hf
    obtain ⟨fuel, rfl⟩ : ∃ z, fuel = z + 1 := ⟨fuel - 1, by omega⟩
    have h27 : (27 : Nat) ^ (n + 1) ≤ 27 ^ 4 := Nat.pow_le_pow_right (by decide) hn
    have h27' : (27 : Nat) ^ 4 = 531441 := by decide
    rw [g_X12_isName_15, pnq]
    by_cases h1 : nI a ≤ 0
    · rw [if_pos h1, if_pos h1]; rfl
    · rw [if_neg h1, if_neg h1]
      by_cases h2 : nI a - nI a / 27 * 27 = 0
      · rw [if_pos h2, if_pos h2]; rfl
      · rw [if_neg h2, if_neg h2]
        have e : nI a / 27 = nI (a / 27) := pk_div (a := a) (d := 27) (by omega) (by decide) (by decide)
        rw [e]
        exact ih fuel (a / 27) (by rw [Nat.pow_succ] at ha; omega) (by omega) (by omega)
theorem ev_X12_isName (S : PS) (v : Int32) : f_X12_isName S v = some (pname v, S) := by
  unfold f_X12_isName pname
  by_cases h1 : v < 1
  · rw [if_pos h1, if_pos h1]
  · rw [if_neg h1, if_neg h1]
    by_cases h2 : v ≤ 531440
    · rw [if_pos h2, if_neg (Int32.not_lt.mpr h2)]
      have hneg : ¬ v < 0 := fun q => h1 (Int32.lt_trans q (by decide))
      obtain ⟨a, ha, rfl⟩ := nI_of hneg
      have h3 : a ≤ 531440 := (nI_leI ha (by decide : 531440 < 2 ^ 31)).mp h2
      exact ev_isNameM S 4 pfuel a (by omega) (Nat.le_refl 4) (pfuel_gt (by decide))
    · rw [if_neg h2, if_pos (Int32.not_le.mp h2)]
theorem pname_cases (v : Int32) : pname v = 0 ∨ (¬ pname v = 0 ∧ rng v 1 531440) := by
  by_cases h : pname v = 0
  · exact Or.inl h
  · refine Or.inr ⟨h, ?_⟩
    unfold pname at h
    by_cases h1 : v < 1
    · rw [if_pos h1] at h; exact absurd rfl h
    · rw [if_neg h1] at h
      by_cases h2 : 531440 < v
      · rw [if_pos h2] at h; exact absurd rfl h
      · have q1 := Int32.le_iff_toInt_le.mp (Int32.not_lt.mp h1)
        have q2 := Int32.le_iff_toInt_le.mp (Int32.not_lt.mp h2)
        exact ⟨q1, q2⟩
/-- the place of a name -/
def pfn (f : Nat → Int32) (v : Int32) : Nat → Nat → Int32
  | 0, _ => -1
  | m + 1, j => if f j = v then nI j else pfn f v m (j + 1)
theorem pfn_spec (f : Nat → Int32) (v : Int32) : ∀ (m j : Nat), (pfn f v m j = -1 ∧ ∀ i, j ≤ i → i < j + m → ¬ f i = v) ∨ ∃ i, j ≤ i ∧ i < j + m ∧ pfn f v m j = nI i ∧ f i = v := by
  intro m
  induction m with
  | zero => intro j; exact Or.inl ⟨rfl, fun i h1 h2 => by omega⟩
  | succ m ih =>
    intro j
    rw [pfn]
    by_cases h : f j = v
    · rw [if_pos h]
      exact Or.inr ⟨j, Nat.le_refl j, by omega, rfl, h⟩
    · rw [if_neg h]
      rcases ih (j + 1) with ⟨h1, h2⟩ | ⟨i, h1, h2, h3, h4⟩
      · refine Or.inl ⟨h1, fun i q1 q2 => ?_⟩
        by_cases e : i = j
        · rw [e]; exact h
        · exact h2 i (by omega) (by omega)
      · exact Or.inr ⟨i, by omega, by omega, h3, h4⟩
theorem ev_placeOf (S : PS) (v : Int32) {k : Nat} (hk : S.1 4 = nI k) (hk16 : k ≤ 16) : ∀ (m j fuel : Nat), j + m = k → m < fuel → plp (g_X1_placeOf_2 fuel S v (nI j)) (fun S' => some ((-1 : Int32), S')) = some (pfn (S.2 2) v m j, S) := by
  intro m
  induction m with
  | zero =>
    intro j fuel hj hf
    obtain ⟨fuel, rfl⟩ : ∃ z, fuel = z + 1 := ⟨fuel - 1, by omega⟩
    rw [g_X1_placeOf_2, hk, if_pos (nI_le (by omega) (by omega))]
    rfl
  | succ m ih =>
    intro j fuel hj hf
    obtain ⟨fuel, rfl⟩ : ∃ z, fuel = z + 1 := ⟨fuel - 1, by omega⟩
    rw [g_X1_placeOf_2, hk, if_neg (nI_ge (by omega) (by omega)), g_t (pin_nI (by omega) (by decide)), nI_clamp (by omega), pfn]
    by_cases h : S.2 2 j = v
    · rw [if_pos h, if_pos h]; rfl
    · rw [if_neg h, if_neg h, nI_1]
      exact ih (j + 1) fuel (by omega) (by omega)
theorem ev_X1_placeOf (S : PS) (v : Int32) {k : Nat} (hk : S.1 4 = nI k) (hk16 : k ≤ 16) : f_X1_placeOf S v = some (pfn (S.2 2) v k 0, S) := ev_placeOf S v hk hk16 k 0 pfuel (by omega) (pfuel_gt (by omega))
theorem ev_find (S : PS) (v : Int32) {k : Nat} (hk : S.1 4 = nI k) (hk16 : k ≤ 16) : ∀ (m j fuel : Nat), j + m = k → m < fuel → plp (g_X12_find_2 fuel S v (nI j)) (fun S' => some ((-1 : Int32), S')) = some (pfn (S.2 2) v m j, S) := by
  intro m
  induction m with
  | zero =>
    intro j fuel hj hf
    obtain ⟨fuel, rfl⟩ : ∃ z, fuel = z + 1 := ⟨fuel - 1, by omega⟩
    rw [g_X12_find_2, hk, if_pos (nI_le (by omega) (by omega))]
    rfl
  | succ m ih =>
    intro j fuel hj hf
    obtain ⟨fuel, rfl⟩ : ∃ z, fuel = z + 1 := ⟨fuel - 1, by omega⟩
    rw [g_X12_find_2, hk, if_neg (nI_ge (by omega) (by omega)), g_t (pin_nI (by omega) (by decide)), nI_clamp (by omega), pfn]
    by_cases h : S.2 2 j = v
    · rw [if_pos h, if_pos h]; rfl
    · rw [if_neg h, if_neg h, nI_1]
      exact ih (j + 1) fuel (by omega) (by omega)
theorem ev_X12_find (S : PS) (v : Int32) {k : Nat} (hk : S.1 4 = nI k) (hk16 : k ≤ 16) : f_X12_find S v = some (pfn (S.2 2) v k 0, S) := ev_find S v hk hk16 k 0 pfuel (by omega) (pfuel_gt (by omega))
/-- what one of the goods weighs -/
def pwool (S : PS) (g : Nat) : Int32 := if S.1 3 = 1 then S.2 4 g + S.2 4 g / 4 else S.2 4 g
def pw (S : PS) (g : Nat) : Int32 := if S.2 3 g = 2 then pwool S g else if S.2 3 g = 4 then pwool S g + 3 else S.2 4 g
theorem ev_X0_weighsAt (S : PS) {g : Nat} (hg : g < 16) : f_X0_weighsAt S (nI g) = some (pw S g, S) := by
  have hp := pin_nI hg (by decide : 16 < 2 ^ 31)
  unfold f_X0_weighsAt f_X0_woolWeighs pw pwool
  rw [g_t hp, nI_clamp (by omega)]
  by_cases h2 : S.2 3 g = 2
  · rw [if_pos h2, if_pos h2, g_t hp]
    by_cases hw : S.1 3 = 1
    · rw [if_pos hw, if_pos hw]; rfl
    · rw [if_neg hw, if_neg hw]; rfl
  · rw [if_neg h2, if_neg h2]
    by_cases h4 : S.2 3 g = 4
    · rw [if_pos h4, if_pos h4, g_t hp]
      by_cases hw : S.1 3 = 1
      · rw [if_pos hw, if_pos hw]; rfl
      · rw [if_neg hw, if_neg hw]; rfl
    · rw [if_neg h4, if_neg h4, g_t hp]
theorem ev_X12_weighs0 (S : PS) {g : Nat} (hg : g < 16) : f_X12_weighs S (nI g) = some (pw S g, S) := by
  have hp := pin_nI hg (by decide : 16 < 2 ^ 31)
  unfold f_X12_weighs pw pwool
  rw [g_t hp, nI_clamp (by omega)]
  by_cases hw : S.1 3 = 1
  · simp only [if_pos hw, g_t hp]
    by_cases h2 : S.2 3 g = 2
    · rw [if_pos h2, if_pos h2]
    · rw [if_neg h2, if_neg h2]
      by_cases h4 : S.2 3 g = 4
      · rw [if_pos h4, if_pos h4]
      · rw [if_neg h4, if_neg h4]
  · simp only [if_neg hw, g_t hp]
    by_cases h2 : S.2 3 g = 2
    · rw [if_pos h2, if_pos h2, Int32.add_zero]
    · rw [if_neg h2, if_neg h2]
      by_cases h4 : S.2 3 g = 4
      · rw [if_pos h4, if_pos h4, Int32.add_zero]
      · rw [if_neg h4, if_neg h4]
theorem pw_eq {S T : PS} (h : bE S T) (g : Nat) : pw T g = pw S g := by
  unfold pw pwool
  rw [h.1.2.2.2.1, h.2.1.2.2.2.1, h.2.1.2.2.2.2.1]
theorem ev_X12_weighs {S T : PS} (h : bE S T) {g : Nat} (hg : g < 16) : f_X12_weighs T (nI g) = some (pw S g, T) := by rw [ev_X12_weighs0 T hg, pw_eq h]
/-- a loop that adds -/
theorem psl {τ : Type} (g : Nat → Int32 → Int32 → Option (τ ⊕ (PS × Int32))) (S : PS) (t : Nat → Int32) (k : Nat) (hstep : ∀ fuel a j, j < k → g (fuel + 1) a (nI j) = g fuel (a + t j) (nI (j + 1))) (hexit : ∀ fuel a, g (fuel + 1) a (nI k) = some (.inr (S, a))) (a0 : Int32) (hk : k < 4096) : g pfuel a0 0 = some (.inr (S, a0 + psum t k)) := by
  have h : ∀ (m j fuel : Nat), j + m = k → m < fuel → g fuel (a0 + psum t j) (nI j) = some (.inr (S, a0 + psum t k)) := by
    intro m
    induction m with
    | zero =>
      intro j fuel hj hf
      obtain ⟨fuel, rfl⟩ : ∃ z, fuel = z + 1 := ⟨fuel - 1, by omega⟩
      rw [show j = k by omega, hexit]
    | succ m ih =>
      intro j fuel hj hf
      obtain ⟨fuel, rfl⟩ : ∃ z, fuel = z + 1 := ⟨fuel - 1, by omega⟩
      rw [hstep fuel _ j (by omega), Int32.add_assoc]
      exact ih (j + 1) fuel (by omega) (by omega)
  have h0 := h k 0 pfuel (by omega) (pfuel_gt hk)
  rw [show psum t 0 = 0 from rfl, Int32.add_zero] at h0
  exact h0
theorem psum_congr {f g : Nat → Int32} {k : Nat} (h : ∀ j, j < k → f j = g j) : psum f k = psum g k := by
  induction k with
  | zero => rfl
  | succ k ih =>
    show psum f k + f k = psum g k + g k
    rw [ih (fun j hj => h j (by omega)), h k (by omega)]
