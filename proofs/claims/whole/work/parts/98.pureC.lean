/-! THE PURE PART, 98C: names, numbers, what stands behind a word -/
theorem pz_run_stop {p : Nat → Bool} {a : Nat} (h : ¬ p a = true) (m : Nat) : pz_run p m a = a := by
  cases m with
  | zero => rfl
  | succ m => rw [pz_run, if_neg h]
theorem pz_run_go {p : Nat → Bool} {a : Nat} (h : p a = true) (m : Nat) : a < pz_run p (m + 1) a := by
  rw [pz_run, if_pos h]
  exact pz_run_ge p m (a + 1)
/-- what it comes to -/
def pz_v (p : Nat → Bool) (g : Int32 → Nat → Int32) : Nat → Nat → Int32 → Int32
  | 0, _, v => v
  | m + 1, a, v => if p a = true then pz_v p g m (a + 1) (g v a) else v
def pz_gl (B : Nat → Int32) (v : Int32) (a : Nat) : Int32 := ((v * 27 + B a) - 97) + 1
def pz_gf (B : Nat → Int32) (v : Int32) (a : Nat) : Int32 := (v * 10 + B a) - 48
theorem ev_nameLoopX {S : PS} {B : Nat → Int32} {n : Nat} (hT : TB S B n) (c : Int32) (f : Nat → Int32) (v1 : Int32) : ∀ (m a j fuel : Nat) (v : Int32), j + m = 4 → a ≤ n → m < fuel → g_X9_readsName_4 fuel (tX S a c f) v1 v (nI j) = if pz_lt B n (pz_run (pz_lt B n) m a) = true then some (.inl (0, tX S (pz_run (pz_lt B n) m a) c f)) else some (.inr (tX S (pz_run (pz_lt B n) m a) c f, pz_v (pz_lt B n) (pz_gl B) m a v, nI (j + (pz_run (pz_lt B n) m a - a)))) := by
  have hn := hT.2.2
  intro m
  induction m with
  | zero =>
    intro a j fuel v h1 ha hf
    obtain ⟨fuel, rfl⟩ : ∃ z, fuel = z + 1 := ⟨fuel - 1, by omega⟩
    rw [g_X9_readsName_4, show (tX S a c f).1 11 = nI n from hT.1, show (tX S a c f).1 12 = nI a from rfl, pz_run, pz_v, Nat.sub_self, Nat.add_zero]
    by_cases han : a < n
    · rw [if_neg (nI_ge han (by omega)), ev_isLetX (P := tX S a c f) (B := B) (n := n) rfl hT ha, b_some]
      dsimp only
      by_cases h : pz_lt B n a = true
      · rw [if_pos h, h, pbi_t, if_neg (by decide), if_pos (by rw [show j = 4 by omega] <;> rfl)]
      · rw [if_neg h]
        rw [Bool.not_eq_true] at h
        rw [h, pbi_f, if_pos rfl]
    · rw [if_pos (nI_le (by omega) (by omega)), if_neg (fun q => han (pz_lt_n q))]
  | succ m ih =>
    intro a j fuel v h1 ha hf
    obtain ⟨fuel, rfl⟩ : ∃ z, fuel = z + 1 := ⟨fuel - 1, by omega⟩
    by_cases h : pz_lt B n a = true
    · have han := pz_lt_n h
      have hg := pz_run_ge (pz_lt B n) m (a + 1)
      have e1 : pz_run (pz_lt B n) (m + 1) a = pz_run (pz_lt B n) m (a + 1) := by rw [pz_run, if_pos h]
      have e2 : pz_v (pz_lt B n) (pz_gl B) (m + 1) a v = pz_v (pz_lt B n) (pz_gl B) m (a + 1) (pz_gl B v a) := by rw [pz_v, if_pos h]
      rw [e1, e2, g_X9_readsName_4, show (tX S a c f).1 11 = nI n from hT.1, show (tX S a c f).1 12 = nI a from rfl, if_neg (nI_ge han (by omega)), ev_isLetX (P := tX S a c f) (B := B) (n := n) rfl hT ha, b_some]
      dsimp only
      rw [h, pbi_t, if_neg (by decide), if_neg (show ¬ nI j = (4 : Int32) from fun q => by
        have := (nI_eq (a := j) (b := 4) (by omega) (by decide)).mp q
        omega), show (tX S a c f).1 12 = nI a from rfl, g_t (pin_nI (by omega) (by decide)), nI_clamp (by omega), nI_1 a, tX_s12, nI_1 j, show (tX S a c f).2 28 = B from hT.2.1]
      have := ih (a + 1) (j + 1) fuel (pz_gl B v a) (by omega) (by omega) (by omega)
      rw [show j + 1 + (pz_run (pz_lt B n) m (a + 1) - (a + 1)) = j + (pz_run (pz_lt B n) m (a + 1) - a) by omega] at this
      exact this
    · have e1 : pz_run (pz_lt B n) (m + 1) a = a := pz_run_stop h _
      have e2 : pz_v (pz_lt B n) (pz_gl B) (m + 1) a v = v := by rw [pz_v, if_neg h]
      rw [e1, e2, Nat.sub_self, Nat.add_zero j, if_neg h, g_X9_readsName_4, show (tX S a c f).1 11 = nI n from hT.1, show (tX S a c f).1 12 = nI a from rfl]
      by_cases han : a < n
      · rw [if_neg (nI_ge han (by omega)), ev_isLetX (P := tX S a c f) (B := B) (n := n) rfl hT ha, b_some]
        dsimp only
        rw [Bool.not_eq_true] at h
        rw [h, pbi_f, if_pos rfl]
      · rw [if_pos (nI_le (by omega) (by omega))]
theorem ev_numLoopX {S : PS} {B : Nat → Int32} {n : Nat} (hT : TB S B n) (c : Int32) (f : Nat → Int32) (v1 v2 : Int32) : ∀ (m a j fuel : Nat) (v : Int32), j + m = 3 → a ≤ n → m < fuel → g_X9_readsNumber_5 fuel (tX S a c f) v1 v2 v (nI j) = if pz_fg B n (pz_run (pz_fg B n) m a) = true then some (.inl (0, tX S (pz_run (pz_fg B n) m a) c f)) else some (.inr (tX S (pz_run (pz_fg B n) m a) c f, pz_v (pz_fg B n) (pz_gf B) m a v, nI (j + (pz_run (pz_fg B n) m a - a)))) := by
  have hn := hT.2.2
  intro m
  induction m with
  | zero =>
    intro a j fuel v h1 ha hf
    obtain ⟨fuel, rfl⟩ : ∃ z, fuel = z + 1 := ⟨fuel - 1, by omega⟩
    rw [g_X9_readsNumber_5, show (tX S a c f).1 11 = nI n from hT.1, show (tX S a c f).1 12 = nI a from rfl, pz_run, pz_v, Nat.sub_self, Nat.add_zero]
    by_cases han : a < n
    · rw [if_neg (nI_ge han (by omega)), ev_isFigX (P := tX S a c f) (B := B) (n := n) rfl hT ha, b_some]
      dsimp only
      by_cases h : pz_fg B n a = true
      · rw [if_pos h, h, pbi_t, if_neg (by decide), if_pos (by rw [show j = 3 by omega] <;> rfl)]
      · rw [if_neg h]
        rw [Bool.not_eq_true] at h
        rw [h, pbi_f, if_pos rfl]
    · rw [if_pos (nI_le (by omega) (by omega)), if_neg (fun q => han (pz_fg_n q))]
  | succ m ih =>
    intro a j fuel v h1 ha hf
    obtain ⟨fuel, rfl⟩ : ∃ z, fuel = z + 1 := ⟨fuel - 1, by omega⟩
    by_cases h : pz_fg B n a = true
    · have han := pz_fg_n h
      have hg := pz_run_ge (pz_fg B n) m (a + 1)
      have e1 : pz_run (pz_fg B n) (m + 1) a = pz_run (pz_fg B n) m (a + 1) := by rw [pz_run, if_pos h]
      have e2 : pz_v (pz_fg B n) (pz_gf B) (m + 1) a v = pz_v (pz_fg B n) (pz_gf B) m (a + 1) (pz_gf B v a) := by rw [pz_v, if_pos h]
      rw [e1, e2, g_X9_readsNumber_5, show (tX S a c f).1 11 = nI n from hT.1, show (tX S a c f).1 12 = nI a from rfl, if_neg (nI_ge han (by omega)), ev_isFigX (P := tX S a c f) (B := B) (n := n) rfl hT ha, b_some]
      dsimp only
      rw [h, pbi_t, if_neg (by decide), if_neg (show ¬ nI j = (3 : Int32) from fun q => by
        have := (nI_eq (a := j) (b := 3) (by omega) (by decide)).mp q
        omega), show (tX S a c f).1 12 = nI a from rfl, g_t (pin_nI (by omega) (by decide)), nI_clamp (by omega), nI_1 a, tX_s12, nI_1 j, show (tX S a c f).2 28 = B from hT.2.1]
      have := ih (a + 1) (j + 1) fuel (pz_gf B v a) (by omega) (by omega) (by omega)
      rw [show j + 1 + (pz_run (pz_fg B n) m (a + 1) - (a + 1)) = j + (pz_run (pz_fg B n) m (a + 1) - a) by omega] at this
      exact this
    · have e1 : pz_run (pz_fg B n) (m + 1) a = a := pz_run_stop h _
      have e2 : pz_v (pz_fg B n) (pz_gf B) (m + 1) a v = v := by rw [pz_v, if_neg h]
      rw [e1, e2, Nat.sub_self, Nat.add_zero j, if_neg h, g_X9_readsNumber_5, show (tX S a c f).1 11 = nI n from hT.1, show (tX S a c f).1 12 = nI a from rfl]
      by_cases han : a < n
      · rw [if_neg (nI_ge han (by omega)), ev_isFigX (P := tX S a c f) (B := B) (n := n) rfl hT ha, b_some]
        dsimp only
        rw [Bool.not_eq_true] at h
        rw [h, pbi_f, if_pos rfl]
      · rw [if_pos (nI_le (by omega) (by omega))]
theorem ev_nameLoopM {T : PS} {B : Nat → Int32} {n : Nat} (hT : TB T B n) (q : Nat) (w u : Nat → Int32) (v1 : Int32) : ∀ (m a j fuel : Nat) (v : Int32), j + m = 4 → a ≤ n → m < fuel → g_X12_takesName_20 fuel (tM T a q w u) v1 v (nI j) = some (.inr (tM T (pz_run (pz_lt B n) m a) q w u, pz_v (pz_lt B n) (pz_gl B) m a v)) := by
  have hn := hT.2.2
  intro m
  induction m with
  | zero =>
    intro a j fuel v h1 ha hf
    obtain ⟨fuel, rfl⟩ : ∃ z, fuel = z + 1 := ⟨fuel - 1, by omega⟩
    rw [g_X12_takesName_20, if_pos (show (4 : Int32) ≤ nI j from nI_le (a := 4) (b := j) (by omega) (by omega))] <;> rfl
  | succ m ih =>
    intro a j fuel v h1 ha hf
    obtain ⟨fuel, rfl⟩ : ∃ z, fuel = z + 1 := ⟨fuel - 1, by omega⟩
    rw [g_X12_takesName_20, if_neg (show ¬ (4 : Int32) ≤ nI j from nI_ge (a := j) (b := 4) (by omega) (by decide)), ev_isLetM (P := tM T a q w u) (B := B) (n := n) rfl hT ha, b_some, pz_run, pz_v]
    dsimp only
    by_cases h : pz_lt B n a = true
    · have han := pz_lt_n h
      rw [if_pos h, if_pos h, h, pbi_t, if_neg (by decide), show (tM T a q w u).1 12 = nI a from rfl, g_t (pin_nI (by omega) (by decide)), nI_clamp (by omega), nI_1 a, tM_s12, nI_1 j, show (tM T a q w u).2 28 = B from hT.2.1, Int32.mul_comm 27 v]
      exact ih (a + 1) (j + 1) fuel (pz_gl B v a) (by omega) (by omega) (by omega)
    · rw [if_neg h, if_neg h]
      rw [Bool.not_eq_true] at h
      rw [h, pbi_f, if_pos rfl]
theorem ev_numLoopM {T : PS} {B : Nat → Int32} {n : Nat} (hT : TB T B n) (q : Nat) (w u : Nat → Int32) (v1 v3 : Int32) : ∀ (m a j fuel : Nat) (v : Int32), j + m = 3 → a ≤ n → m < fuel → g_X12_takesNumber_57 fuel (tM T a q w u) v1 v3 v (nI j) = some (.inr (tM T (pz_run (pz_fg B n) m a) q w u, pz_v (pz_fg B n) (pz_gf B) m a v)) := by
  have hn := hT.2.2
  intro m
  induction m with
  | zero =>
    intro a j fuel v h1 ha hf
    obtain ⟨fuel, rfl⟩ : ∃ z, fuel = z + 1 := ⟨fuel - 1, by omega⟩
    rw [g_X12_takesNumber_57, if_pos (show (3 : Int32) ≤ nI j from nI_le (a := 3) (b := j) (by omega) (by omega))] <;> rfl
  | succ m ih =>
    intro a j fuel v h1 ha hf
    obtain ⟨fuel, rfl⟩ : ∃ z, fuel = z + 1 := ⟨fuel - 1, by omega⟩
    rw [g_X12_takesNumber_57, if_neg (show ¬ (3 : Int32) ≤ nI j from nI_ge (a := j) (b := 3) (by omega) (by decide)), ev_isFigM (P := tM T a q w u) (B := B) (n := n) rfl hT ha, b_some, pz_run, pz_v]
    dsimp only
    by_cases h : pz_fg B n a = true
    · have han := pz_fg_n h
      rw [if_pos h, if_pos h, h, pbi_t, if_neg (by decide), show (tM T a q w u).1 12 = nI a from rfl, g_t (pin_nI (by omega) (by decide)), nI_clamp (by omega), nI_1 a, tM_s12, nI_1 j, show (tM T a q w u).2 28 = B from hT.2.1, Int32.mul_comm 10 v]
      exact ih (a + 1) (j + 1) fuel (pz_gf B v a) (by omega) (by omega) (by omega)
    · rw [if_neg h, if_neg h]
      rw [Bool.not_eq_true] at h
      rw [h, pbi_f, if_pos rfl]
/-- a name, a number, behind the blank -/
def pz_name (B : Nat → Int32) (n b : Nat) : Nat ⊕ (Nat × Int32) := if pz_lt B n b = true then (if pz_lt B n (pz_run (pz_lt B n) 4 b) = true then .inl (pz_run (pz_lt B n) 4 b) else .inr (pz_run (pz_lt B n) 4 b, pz_v (pz_lt B n) (pz_gl B) 4 b 0)) else .inl b
def pz_num (B : Nat → Int32) (n b : Nat) (s : Int32) : Nat ⊕ (Nat × Int32) := if pz_fg B n b = true then (if pz_fg B n (pz_run (pz_fg B n) 3 b) = true then .inl (pz_run (pz_fg B n) 3 b) else .inr (pz_run (pz_fg B n) 3 b, s * pz_v (pz_fg B n) (pz_gf B) 3 b 0)) else .inl b
def pz_part (B : Nat → Int32) (n t a : Nat) : Nat ⊕ (Nat × Int32) := if pz_at B n a 32 = true then (if t = 0 then pz_name B n (a + 1) else if t = 2 then (if pz_at B n (a + 1) 45 = true then pz_num B n (a + 2) (-1) else pz_num B n (a + 1) 1) else pz_num B n (a + 1) 1) else .inl a
/-- what a part's reading comes to, in the class and in the reference -/
def oX (S : PS) (c : Int32) (f : Nat → Int32) (k : Nat) (r : Nat ⊕ (Nat × Int32)) (o : Option (Int32 × PS)) : Prop := (∃ x f', r = .inl x ∧ o = some (0, tX S x c f')) ∨ ∃ x v, r = .inr (x, v) ∧ o = some (1, tX S x c (upd f k v))
def oM (T : PS) (q : Nat) (w u : Nat → Int32) (k : Nat) (r : Nat ⊕ (Nat × Int32)) (o : Option (Int32 × PS)) : Prop := (∃ x u', r = .inl x ∧ o = some (0, tM T x q w u')) ∨ ∃ x v, r = .inr (x, v) ∧ o = some (1, tM T x q w (upd u (6 * q + k) v))
theorem ev_readsName {S : PS} {B : Nat → Int32} {n : Nat} (hT : TB S B n) (c : Int32) (f : Nat → Int32) {k : Nat} (hk : k < 6) {b : Nat} (hb : b ≤ n) : oX S c f k (pz_name B n b) (f_X9_readsName (tX S b c f) (nI k)) := by
  have hl := ev_nameLoopX hT c f (nI k) 4 b 0 pfuel 0 (by omega) hb (pfuel_gt (by omega))
  unfold f_X9_readsName pz_name oX
  rw [show (0 : Int32) = nI 0 from rfl] at hl ⊢
  rw [hl]
  by_cases h : pz_lt B n b = true
  · rw [if_pos h]
    have hg : b < pz_run (pz_lt B n) 4 b := pz_run_go h 3
    have hn := hT.2.2
    have hr : pz_run (pz_lt B n) 4 b ≤ n := pz_run_le (fun _ h => pz_lt_n h) 4 b hb
    by_cases h2 : pz_lt B n (pz_run (pz_lt B n) 4 b) = true
    · rw [if_pos h2, if_pos h2, lp_l]
      exact Or.inl ⟨_, f, rfl, rfl⟩
    · rw [if_neg h2, if_neg h2, lp_r]
      dsimp only
      rw [g_t (pin_nI hk (by decide)), if_neg (nI_ge (by omega) (by omega)), nI_clamp (by omega), tX_s29]
      exact Or.inr ⟨_, _, rfl, rfl⟩
  · rw [if_neg h, pz_run_stop h, if_neg h, lp_r, Nat.sub_self]
    dsimp only
    rw [g_t (pin_nI hk (by decide)), if_pos (by decide), nI_clamp (by omega), tX_s29]
    exact Or.inl ⟨_, _, rfl, rfl⟩
theorem ev_readsNumber {S : PS} {B : Nat → Int32} {n : Nat} (hT : TB S B n) (c : Int32) (f : Nat → Int32) {k : Nat} (hk : k < 6) {b : Nat} (hb : b ≤ n) (s : Int32) : oX S c f k (pz_num B n b s) (f_X9_readsNumber (tX S b c f) (nI k) s) := by
  have hl := ev_numLoopX hT c f (nI k) s 3 b 0 pfuel 0 (by omega) hb (pfuel_gt (by omega))
  unfold f_X9_readsNumber pz_num oX
  rw [show (0 : Int32) = nI 0 from rfl] at hl ⊢
  rw [hl]
  by_cases h : pz_fg B n b = true
  · rw [if_pos h]
    have hg : b < pz_run (pz_fg B n) 3 b := pz_run_go h 2
    have hn := hT.2.2
    have hr : pz_run (pz_fg B n) 3 b ≤ n := pz_run_le (fun _ h => pz_fg_n h) 3 b hb
    by_cases h2 : pz_fg B n (pz_run (pz_fg B n) 3 b) = true
    · rw [if_pos h2, if_pos h2, lp_l]
      exact Or.inl ⟨_, f, rfl, rfl⟩
    · rw [if_neg h2, if_neg h2, lp_r]
      dsimp only
      rw [g_t (pin_nI hk (by decide)), if_neg (nI_ge (by omega) (by omega)), nI_clamp (by omega), tX_s29]
      exact Or.inr ⟨_, _, rfl, rfl⟩
  · rw [if_neg h, pz_run_stop h, if_neg h, lp_r, Nat.sub_self]
    dsimp only
    rw [g_t (pin_nI hk (by decide)), if_pos (by decide), nI_clamp (by omega), tX_s29]
    exact Or.inl ⟨_, _, rfl, rfl⟩
theorem oX.bit {S : PS} {c : Int32} {f : Nat → Int32} {k : Nat} {r : Nat ⊕ (Nat × Int32)} {o : Option (Int32 × PS)} (h : oX S c f k r o) : oX S c f k r (pbnd o (fun r7 S_7 => pgd (pbit r7) (some (r7, S_7)))) := by
  rcases h with ⟨x, f', h1, h2⟩ | ⟨x, v, h1, h2⟩
  · exact Or.inl ⟨x, f', h1, by rw [h2, b_some]; exact g_t (pbi_bit false) _⟩
  · exact Or.inr ⟨x, v, h1, by rw [h2, b_some]; exact g_t (pbi_bit true) _⟩
/-- the sign of a part in a shape -/
def pz_ch (t : Nat) : Int32 := if t = 0 then 97 else if t = 2 then 45 else 57
theorem ev_readsPart {S : PS} {B : Nat → Int32} {n : Nat} (hT : TB S B n) (c : Int32) (f : Nat → Int32) {k : Nat} (hk : k < 6) {a : Nat} (ha : a < n) (h32 : pz_at B n a 32 = true) (t : Nat) : oX S c f k (pz_part B n t a) (f_X9_readsPart (tX S (a + 1) c f) (nI k) (pz_ch t)) := by
  unfold f_X9_readsPart pz_part pz_ch
  rw [if_pos h32]
  by_cases h0 : t = 0
  · rw [if_pos h0, if_pos h0, if_pos rfl]
    exact (ev_readsName hT c f hk (by omega)).bit
  · rw [if_neg h0, if_neg h0]
    by_cases h2 : t = 2
    · rw [if_pos h2, if_pos h2, if_neg (show ¬ (45 : Int32) = 97 by decide), if_pos rfl, ev_isHere (P := tX S (a + 1) c f) (B := B) (n := n) rfl hT (by omega), b_some]
      dsimp only
      by_cases h45 : pz_at B n (a + 1) 45 = true
      · rw [if_pos h45, h45, pbi_t, if_neg (by decide), show (tX S (a + 1) c f).1 12 = nI (a + 1) from rfl, nI_1, tX_s12]
        exact (ev_readsNumber hT c f hk (by have := (pz_at_n h45).1; omega) (-1)).bit
      · rw [if_neg h45]
        rw [Bool.not_eq_true] at h45
        rw [h45, pbi_f, if_pos rfl]
        exact (ev_readsNumber hT c f hk (by omega) 1).bit
    · rw [if_neg h2, if_neg h2, if_neg (by decide), if_neg (by decide)]
      exact (ev_readsNumber hT c f hk (by omega) 1).bit
theorem ev_takesBlank {T : PS} {B : Nat → Int32} {n : Nat} (hT : TB T B n) (q : Nat) (w u : Nat → Int32) {a : Nat} (ha : a ≤ n) : f_X12_takesBlank (tM T a q w u) = if pz_at B n a 32 = true then some (1, tM T (a + 1) q w u) else some (0, tM T a q w u) := by
  unfold f_X12_takesBlank
  rw [ev_isAtM (P := tM T a q w u) (B := B) (n := n) rfl hT ha, b_some]
  dsimp only
  by_cases h : pz_at B n a 32 = true
  · rw [if_pos h, h, pbi_t, if_neg (by decide), show (tM T a q w u).1 12 = nI a from rfl, nI_1, tM_s12]
  · rw [if_neg h]
    rw [Bool.not_eq_true] at h
    rw [h, pbi_f, if_pos rfl]
theorem ev_takesName {T : PS} {B : Nat → Int32} {n : Nat} (hT : TB T B n) {q : Nat} (hq : q < 80) (w u : Nat → Int32) {k : Nat} (hk : k < 6) {a : Nat} (ha : a ≤ n) : oM T q w u k (pz_part B n 0 a) (f_X12_takesName (tM T a q w u) (nI k)) := by
  unfold f_X12_takesName pz_part pz_name oM
  rw [ev_takesBlank hT q w u ha]
  by_cases h32 : pz_at B n a 32 = true
  · have han := (pz_at_n h32).1
    have hn := hT.2.2
    rw [if_pos h32, if_pos h32, b_some, if_pos rfl]
    dsimp only
    rw [if_neg (show ¬ (1 : Int32) = 0 by decide), ev_isLetM (P := tM T (a + 1) q w u) (B := B) (n := n) rfl hT (by omega), b_some]
    dsimp only
    by_cases h : pz_lt B n (a + 1) = true
    · have hl := ev_nameLoopM hT q w u (nI k) 4 (a + 1) 0 pfuel 0 (by omega) (by omega) (pfuel_gt (by omega))
      have hr : pz_run (pz_lt B n) 4 (a + 1) ≤ n := pz_run_le (fun _ h => pz_lt_n h) 4 (a + 1) (by omega)
      rw [show nI 0 = (0 : Int32) from rfl] at hl
      have e6 : (6 : Int32) * nI q + nI k = nI (6 * q + k) := by
        have := pk_mul 6 q
        rw [show (6 : Int32) = nI 6 from rfl, this, nI_add]
      rw [if_pos h, h, pbi_t, if_neg (show ¬ (1 : Int32) = 0 by decide), hl, lp_r]
      dsimp only
      rw [show (tM T (pz_run (pz_lt B n) 4 (a + 1)) q w u).1 13 = nI q from rfl, e6, g_t (pin_nI (by omega) (by decide)), nI_clamp (by omega), tM_s36, show (tM T (pz_run (pz_lt B n) 4 (a + 1)) q w u).2 36 = u from rfl, ev_isLetM (P := tM T (pz_run (pz_lt B n) 4 (a + 1)) q w _) (B := B) (n := n) rfl hT hr, b_some]
      dsimp only
      by_cases h2 : pz_lt B n (pz_run (pz_lt B n) 4 (a + 1)) = true
      · rw [if_pos h2, h2, pbi_t, if_neg (show ¬ (1 : Int32) = 0 by decide)]
        exact Or.inl ⟨_, _, rfl, rfl⟩
      · rw [if_neg h2]
        rw [Bool.not_eq_true] at h2
        rw [h2, pbi_f, if_pos rfl]
        exact Or.inr ⟨_, _, rfl, rfl⟩
    · rw [if_neg h]
      rw [Bool.not_eq_true] at h
      rw [h, pbi_f, if_pos rfl]
      exact Or.inl ⟨_, _, rfl, rfl⟩
  · rw [if_neg h32, if_neg h32, b_some]
    dsimp only
    rw [if_pos rfl]
    exact Or.inl ⟨_, _, rfl, rfl⟩
/-- the number itself, in the reference -/
theorem ev_takesNum {T : PS} {B : Nat → Int32} {n : Nat} (hT : TB T B n) {q : Nat} (hq : q < 80) (w u : Nat → Int32) {k : Nat} (hk : k < 6) {b : Nat} (hb : b ≤ n) (v3 s : Int32) (sg : Int32 → Int32) (hs : ∀ v, sg v = s * v) : oM T q w u k (pz_num B n b s) (pbnd (f_X12_isFigure (tM T b q w u)) (fun r4 S_4 => if r4 = (0 : Int32) then (some (0, S_4)) else (plp (g_X12_takesNumber_57 pfuel S_4 (nI k) v3 0 0) (fun w => (fun (S_10 : PS) (v4_10 : Int32) => pgd (pin ((6 * (S_10.1 13)) + nI k) 480) (pbnd (f_X12_isFigure (pAr S_10 36 (upd (S_10.2 36) ((6 * (S_10.1 13)) + nI k).toNatClampNeg (sg v4_10)))) (fun r12 S_12 => if r12 = (0 : Int32) then (some (1, S_12)) else (some (0, S_12))))) w.1 w.2)))) := by
  have hn := hT.2.2
  unfold pz_num oM
  rw [ev_isFigM (P := tM T b q w u) (B := B) (n := n) rfl hT hb, b_some]
  dsimp only
  by_cases h : pz_fg B n b = true
  · have hl := ev_numLoopM hT q w u (nI k) v3 3 b 0 pfuel 0 (by omega) (by omega) (pfuel_gt (by omega))
    have hr : pz_run (pz_fg B n) 3 b ≤ n := pz_run_le (fun _ h => pz_fg_n h) 3 b hb
    rw [show nI 0 = (0 : Int32) from rfl] at hl
    have e6 : (6 : Int32) * nI q + nI k = nI (6 * q + k) := by
      have := pk_mul 6 q
      rw [show (6 : Int32) = nI 6 from rfl, this, nI_add]
    rw [if_pos h, h, pbi_t, if_neg (show ¬ (1 : Int32) = 0 by decide), hl, lp_r]
    dsimp only
    rw [show (tM T (pz_run (pz_fg B n) 3 b) q w u).1 13 = nI q from rfl, e6, g_t (pin_nI (by omega) (by decide)), nI_clamp (by omega), tM_s36, show (tM T (pz_run (pz_fg B n) 3 b) q w u).2 36 = u from rfl, hs, ev_isFigM (P := tM T (pz_run (pz_fg B n) 3 b) q w _) (B := B) (n := n) rfl hT hr, b_some]
    dsimp only
    by_cases h2 : pz_fg B n (pz_run (pz_fg B n) 3 b) = true
    · rw [if_pos h2, h2, pbi_t, if_neg (show ¬ (1 : Int32) = 0 by decide)]
      exact Or.inl ⟨_, _, rfl, rfl⟩
    · rw [if_neg h2]
      rw [Bool.not_eq_true] at h2
      rw [h2, pbi_f, if_pos rfl]
      exact Or.inr ⟨_, _, rfl, rfl⟩
  · rw [if_neg h]
    rw [Bool.not_eq_true] at h
    rw [h, pbi_f, if_pos rfl]
    exact Or.inl ⟨_, _, rfl, rfl⟩
theorem ev_takesNumber {T : PS} {B : Nat → Int32} {n : Nat} (hT : TB T B n) {q : Nat} (hq : q < 80) (w u : Nat → Int32) {k : Nat} (hk : k < 6) {a : Nat} (ha : a ≤ n) {t : Nat} (ht : t = 1 ∨ t = 2) : oM T q w u k (pz_part B n t a) (f_X12_takesNumber (tM T a q w u) (nI k) (if t = 2 then 1 else 0)) := by
  unfold f_X12_takesNumber pz_part
  rw [ev_takesBlank hT q w u ha, if_neg (show ¬ t = 0 by omega)]
  by_cases h32 : pz_at B n a 32 = true
  · have han := (pz_at_n h32).1
    rw [if_pos h32, if_pos h32, b_some]
    dsimp only
    rw [if_neg (show ¬ (1 : Int32) = 0 by decide)]
    by_cases h2 : t = 2
    · rw [if_pos h2, if_pos h2, if_neg (show ¬ (1 : Int32) = 0 by decide), ev_isAtM (P := tM T (a + 1) q w u) (B := B) (n := n) rfl hT (by omega), b_some]
      dsimp only
      by_cases h45 : pz_at B n (a + 1) 45 = true
      · have := (pz_at_n h45).1
        rw [if_pos h45, h45, pbi_t, if_neg (show ¬ (1 : Int32) = 0 by decide), show (tM T (a + 1) q w u).1 12 = nI (a + 1) from rfl, nI_1, tM_s12]
        exact ev_takesNum hT hq w u hk (by omega) 1 (-1) (fun v => -v) (fun v => Int32.neg_eq_neg_one_mul v)
      · rw [if_neg h45]
        rw [Bool.not_eq_true] at h45
        rw [h45, pbi_f, if_pos rfl]
        exact ev_takesNum hT hq w u hk (by omega) 0 1 (fun v => v) (fun v => (Int32.one_mul v).symm)
    · rw [if_neg h2, if_neg h2, if_pos rfl]
      exact ev_takesNum hT hq w u hk (by omega) 0 1 (fun v => v) (fun v => (Int32.one_mul v).symm)
  · rw [if_neg h32, if_neg h32, b_some]
    dsimp only
    rw [if_pos rfl]
    exact Or.inl ⟨_, _, rfl, rfl⟩
