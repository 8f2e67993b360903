/-! THE PURE PART, A: words -/
theorem b_some {α β : Type} (x : α × PS) (k : α → PS → Option β) : pbnd (some x) k = k x.1 x.2 := rfl
theorem g_t {β : Type} {b : Bool} (h : b = true) (k : Option β) : pgd b k = k := by rw [h]; rfl
theorem lp_r {τ ω : Type} (w : ω) (k : ω → Option τ) : plp (some (.inr w) : Option (τ ⊕ ω)) k = k w := rfl
theorem lp_l {τ ω : Type} (x : τ) (k : ω → Option τ) : plp (some (.inl x) : Option (τ ⊕ ω)) k = some x := rfl
theorem lq_r {τ ω ω' : Type} (w : ω) (k : ω → Option (τ ⊕ ω')) : plq (some (.inr w) : Option (τ ⊕ ω)) k = k w := rfl
theorem lq_l {τ ω ω' : Type} (x : τ) (k : ω → Option (τ ⊕ ω')) : plq (some (.inl x) : Option (τ ⊕ ω)) k = some (.inl x) := rfl
theorem pin_nI {j n : Nat} (h : j < n) (hn : n < 2 ^ 31) : pin (nI j) n = true := by
  unfold pin
  rw [nI_clamp (by omega)]
  simp only [Bool.and_eq_true, Bool.not_eq_true', decide_eq_false_iff_not, decide_eq_true_eq]
  exact ⟨nI_pos (by omega), h⟩
def rng (x : Int32) (lo hi : Int) : Prop := lo ≤ x.toInt ∧ x.toInt ≤ hi
theorem rngN {x : Int32} {lo hi : Int} (h : rng x lo hi) (h0 : 0 ≤ lo) : ∃ k : Nat, x = nI k ∧ lo ≤ (k : Int) ∧ (k : Int) ≤ hi ∧ k < 2 ^ 31 := by
  have hneg : ¬ x < 0 := fun q => by
    have := Int32.lt_iff_toInt_lt.mp q
    have e : (0 : Int32).toInt = 0 := rfl
    rw [e] at this
    have := h.1
    omega
  obtain ⟨k, hk, rfl⟩ := nI_of hneg
  have e := nI_toInt hk
  obtain ⟨h1, h2⟩ := h
  rw [e] at h1 h2
  exact ⟨k, rfl, h1, h2, hk⟩
theorem rng_nI {k : Nat} {lo hi : Int} (hk : k < 2 ^ 31) : rng (nI k) lo hi ↔ lo ≤ (k : Int) ∧ (k : Int) ≤ hi := by
  unfold rng
  rw [nI_toInt hk]
/-- within: 1, else 0 -/
def pwi (a b c : Int32) : Int32 := if a < b then 0 else if c < a then 0 else 1
theorem pwi_cases (a b c : Int32) : (pwi a b c = 0 ∧ ¬ (b.toInt ≤ a.toInt ∧ a.toInt ≤ c.toInt)) ∨ (pwi a b c = 1 ∧ b.toInt ≤ a.toInt ∧ a.toInt ≤ c.toInt) := by
  unfold pwi
  by_cases h1 : a < b
  · rw [if_pos h1]
    have := Int32.lt_iff_toInt_lt.mp h1
    exact Or.inl ⟨rfl, by omega⟩
  · rw [if_neg h1]
    have q1 : ¬ a.toInt < b.toInt := fun q => h1 (Int32.lt_iff_toInt_lt.mpr q)
    by_cases h2 : c < a
    · rw [if_pos h2]
      have := Int32.lt_iff_toInt_lt.mp h2
      exact Or.inl ⟨rfl, by omega⟩
    · rw [if_neg h2]
      have q2 : ¬ c.toInt < a.toInt := fun q => h2 (Int32.lt_iff_toInt_lt.mpr q)
      exact Or.inr ⟨rfl, by omega⟩
theorem pwi_bit (a b c : Int32) : pbit (pwi a b c) = true := by
  rcases pwi_cases a b c with ⟨h, -⟩ | ⟨h, -⟩ <;> rw [h] <;> decide
theorem pwi_rng {a b c : Int32} {lo hi : Int} (h : ¬ pwi a b c = 0) (hb : b.toInt = lo) (hc : c.toInt = hi) : rng a lo hi := by
  rcases pwi_cases a b c with ⟨q, -⟩ | ⟨-, q1, q2⟩
  · exact absurd q h
  · exact ⟨by omega, by omega⟩
theorem ev_X11_isWithin (S : PS) (a b c : Int32) : f_X11_isWithin S a b c = some (pwi a b c, S) := by
  unfold f_X11_isWithin pwi
  by_cases h1 : a < b
  · rw [if_pos h1, if_pos h1]
  · rw [if_neg h1, if_neg h1]
    by_cases h2 : c < a
    · rw [if_pos h2, if_pos h2]
    · rw [if_neg h2, if_neg h2]
theorem ev_X12_in (S : PS) (a b c : Int32) : f_X12_in S a b c = some (pwi a b c, S) := by
  unfold f_X12_in pwi
  by_cases h1 : a < b
  · rw [if_pos h1, if_pos h1]
  · rw [if_neg h1, if_neg h1]
    by_cases h2 : c < a
    · rw [if_pos h2, if_pos h2]
    · rw [if_neg h2, if_neg h2]
/-- a loop, counted -/
theorem ploop {α β : Type} (g : Nat → α → β) (st : Nat → α) (k : Nat) (r : β) (hstep : ∀ fuel j, j < k → g (fuel + 1) (st j) = g fuel (st (j + 1))) (hexit : ∀ fuel, g (fuel + 1) (st k) = r) : ∀ (j fuel : Nat), j ≤ k → k - j < fuel → g fuel (st j) = r := by
  intro j fuel
  induction fuel generalizing j with
  | zero => intro _ h; omega
  | succ fuel ih =>
    intro h1 h2
    by_cases e : j = k
    · subst e
      exact hexit fuel
    · rw [hstep fuel j (by omega)]
      exact ih (j + 1) (by omega) (by omega)
theorem pfuel_gt {k : Nat} (h : k < 4096) : k < pfuel := h
def psum (f : Nat → Int32) : Nat → Int32
  | 0 => 0
  | n + 1 => psum f n + f n
/-- what a boat is -/
def bOK (I : Nat → Int32) (A : Nat → Nat → Int32) : Prop :=
  rng (I 0) 2 10 ∧ rng (I 1) 1 60 ∧ rng (I 2) 1 9999 ∧ rng (I 3) 0 1 ∧ rng (I 4) 0 16 ∧
  (∀ j, j < 10 → rng (A 0 j) 1 40 ∧ rng (A 1 j) 0 30) ∧
  (∀ j : Nat, (j : Int) < (I 4).toInt → rng (A 2 j) 1 531440 ∧ rng (A 3 j) 0 4 ∧ rng (A 4 j) 1 999 ∧ rng (A 5 j) 0 9 ∧ rng (A 6 j) (-20) 20 ∧ rng (A 7 j) 0 40) ∧
  (∀ j k : Nat, j < k → (k : Int) < (I 4).toInt → (A 2 j).toInt < (A 2 k).toInt) ∧
  (∀ t, t < 4 → rng (A 8 t) 0 9 ∧ rng (A 9 t) 0 20 ∧ rng (A 10 t) 0 999 ∧ rng (A 11 t) 0 999 ∧ (A 9 t = 0 → A 11 t = 0))
/-- the boat's part of two states is one -/
def bE (S T : PS) : Prop := (T.1 0 = S.1 0 ∧ T.1 1 = S.1 1 ∧ T.1 2 = S.1 2 ∧ T.1 3 = S.1 3 ∧ T.1 4 = S.1 4) ∧ (T.2 0 = S.2 0 ∧ T.2 1 = S.2 1 ∧ T.2 2 = S.2 2 ∧ T.2 3 = S.2 3 ∧ T.2 4 = S.2 4 ∧ T.2 5 = S.2 5 ∧ T.2 6 = S.2 6 ∧ T.2 7 = S.2 7) ∧ (T.2 8 = S.2 8 ∧ T.2 9 = S.2 9 ∧ T.2 10 = S.2 10 ∧ T.2 11 = S.2 11)
def Rel (S T : PS) : Prop :=
  (bE S T ∧ bOK S.1 S.2) ∧
  ((T.1 10 = S.1 10 ∧ (S.1 10 = 0 ∨ S.1 10 = 1)) ∧ (∀ k, k < 5 → T.2 29 k = S.1 (5 + k)) ∧ (∀ k, k < 12 → T.2 (12 + k) = S.2 (12 + k)) ∧ (S.1 10 = 1 → bOK (fun k => S.1 (5 + k)) (fun k => S.2 (12 + k)))) ∧
  ((T.2 24 = S.2 24 ∧ T.2 25 = S.2 25 ∧ T.2 26 = S.2 26 ∧ T.2 27 = S.2 27) ∧ (∀ r, r < 3 → rng (S.2 24 r) (-1) 40)) ∧
  ((T.1 11 = S.1 11 ∧ T.2 28 = S.2 28) ∧ rng (S.1 11) 0 80 ∧ ∀ j : Nat, (j : Int) < (S.1 11).toInt → rng (S.2 28 j) 32 126)
def sameX (S S' : PS) : Prop := (∀ k, k ≤ 11 → S'.1 k = S.1 k) ∧ (∀ k, k ≤ 28 → S'.2 k = S.2 k)
def sameM (T T' : PS) : Prop := (∀ k, k ≤ 11 → T'.1 k = T.1 k) ∧ (∀ k, k ≤ 29 → T'.2 k = T.2 k)
theorem sameX.rf (S : PS) : sameX S S := ⟨fun _ _ => rfl, fun _ _ => rfl⟩
theorem sameM.rf (S : PS) : sameM S S := ⟨fun _ _ => rfl, fun _ _ => rfl⟩
theorem sameX.tr {S S1 S2 : PS} (h : sameX S S1) (h2 : sameX S1 S2) : sameX S S2 := ⟨fun k hk => (h2.1 k hk).trans (h.1 k hk), fun k hk => (h2.2 k hk).trans (h.2 k hk)⟩
theorem sameM.tr {S S1 S2 : PS} (h : sameM S S1) (h2 : sameM S1 S2) : sameM S S2 := ⟨fun k hk => (h2.1 k hk).trans (h.1 k hk), fun k hk => (h2.2 k hk).trans (h.2 k hk)⟩
theorem bOK_congr {I I' : Nat → Int32} {A A' : Nat → Nat → Int32} (h1 : ∀ k, k < 5 → I' k = I k) (h2 : ∀ k, k < 12 → A' k = A k) (h : bOK I A) : bOK I' A' := by
  unfold bOK at h ⊢
  rw [h1 0 (by decide), h1 1 (by decide), h1 2 (by decide), h1 3 (by decide), h1 4 (by decide), h2 0 (by decide), h2 1 (by decide), h2 2 (by decide), h2 3 (by decide), h2 4 (by decide), h2 5 (by decide), h2 6 (by decide), h2 7 (by decide), h2 8 (by decide), h2 9 (by decide), h2 10 (by decide), h2 11 (by decide)]
  exact h
theorem bE.congr {S T S' T' : PS} (hX : (∀ k, k < 5 → S'.1 k = S.1 k) ∧ (∀ k, k < 12 → S'.2 k = S.2 k)) (hM : (∀ k, k < 5 → T'.1 k = T.1 k) ∧ (∀ k, k < 12 → T'.2 k = T.2 k)) (h : bE S T) : bE S' T' := by
  unfold bE at h ⊢
  rw [hX.1 0 (by decide), hX.1 1 (by decide), hX.1 2 (by decide), hX.1 3 (by decide), hX.1 4 (by decide), hX.2 0 (by decide), hX.2 1 (by decide), hX.2 2 (by decide), hX.2 3 (by decide), hX.2 4 (by decide), hX.2 5 (by decide), hX.2 6 (by decide), hX.2 7 (by decide), hX.2 8 (by decide), hX.2 9 (by decide), hX.2 10 (by decide), hX.2 11 (by decide)]
  rw [hM.1 0 (by decide), hM.1 1 (by decide), hM.1 2 (by decide), hM.1 3 (by decide), hM.1 4 (by decide), hM.2 0 (by decide), hM.2 1 (by decide), hM.2 2 (by decide), hM.2 3 (by decide), hM.2 4 (by decide), hM.2 5 (by decide), hM.2 6 (by decide), hM.2 7 (by decide), hM.2 8 (by decide), hM.2 9 (by decide), hM.2 10 (by decide), hM.2 11 (by decide)]
  exact h
theorem Rel.same {S T S' T' : PS} (h : Rel S T) (hX : sameX S S') (hM : sameM T T') : Rel S' T' := by
  obtain ⟨⟨h1, h2⟩, ⟨⟨h3, h4⟩, h5, h6, h7⟩, ⟨⟨h8, h9, h10, h11⟩, h12⟩, ⟨h13, h14⟩, h15, h16⟩ := h
  refine ⟨⟨h1.congr ⟨fun k hk => hX.1 k (by omega), fun k hk => hX.2 k (by omega)⟩ ⟨fun k hk => hM.1 k (by omega), fun k hk => hM.2 k (by omega)⟩, bOK_congr (fun k hk => hX.1 k (by omega)) (fun k hk => hX.2 k (by omega)) h2⟩, ⟨⟨?_, ?_⟩, fun k hk => ?_, fun k hk => ?_, fun q => ?_⟩, ⟨⟨?_, ?_, ?_, ?_⟩, ?_⟩, ⟨?_, ?_⟩, ?_, ?_⟩
  · rw [hX.1 10 (by decide), hM.1 10 (by decide)]; exact h3
  · rw [hX.1 10 (by decide)]; exact h4
  · rw [hX.1 (5 + k) (by omega), hM.2 29 (by decide)]; exact h5 k hk
  · rw [hX.2 (12 + k) (by omega), hM.2 (12 + k) (by omega)]; exact h6 k hk
  · rw [hX.1 10 (by decide)] at q
    exact bOK_congr (fun k hk => hX.1 (5 + k) (by omega)) (fun k hk => hX.2 (12 + k) (by omega)) (h7 q)
  · rw [hX.2 24 (by decide), hM.2 24 (by decide)]; exact h8
  · rw [hX.2 25 (by decide), hM.2 25 (by decide)]; exact h9
  · rw [hX.2 26 (by decide), hM.2 26 (by decide)]; exact h10
  · rw [hX.2 27 (by decide), hM.2 27 (by decide)]; exact h11
  · rw [hX.2 24 (by decide)]; exact h12
  · rw [hX.1 11 (by decide), hM.1 11 (by decide)]; exact h13
  · rw [hX.2 28 (by decide), hM.2 28 (by decide)]; exact h14
  · rw [hX.1 11 (by decide)]; exact h15
  · rw [hX.1 11 (by decide), hX.2 28 (by decide)]; exact h16
/-- sizes as numbers -/
theorem bOK.n {I : Nat → Int32} {A : Nat → Nat → Int32} (h : bOK I A) : ∃ n : Nat, I 0 = nI n ∧ 2 ≤ n ∧ n ≤ 10 := by
  obtain ⟨k, e, h1, h2, -⟩ := rngN h.1 (by decide)
  exact ⟨k, e, by omega, by omega⟩
theorem bOK.k {I : Nat → Int32} {A : Nat → Nat → Int32} (h : bOK I A) : ∃ k : Nat, I 4 = nI k ∧ k ≤ 16 := by
  obtain ⟨k, e, h1, h2, -⟩ := rngN h.2.2.2.2.1 (by decide)
  exact ⟨k, e, by omega⟩
theorem bOK.deep {I : Nat → Int32} {A : Nat → Nat → Int32} (h : bOK I A) : ∃ k : Nat, I 1 = nI k ∧ 1 ≤ k ∧ k ≤ 60 := by
  obtain ⟨k, e, h1, h2, -⟩ := rngN h.2.1 (by decide)
  exact ⟨k, e, by omega, by omega⟩
theorem bOK.goods {I : Nat → Int32} {A : Nat → Nat → Int32} (h : bOK I A) {k : Nat} (hk : I 4 = nI k) {j : Nat} (hj : j < k) (hk16 : k ≤ 16) : rng (A 2 j) 1 531440 ∧ rng (A 3 j) 0 4 ∧ rng (A 4 j) 1 999 ∧ rng (A 5 j) 0 9 ∧ rng (A 6 j) (-20) 20 ∧ rng (A 7 j) 0 40 :=
  h.2.2.2.2.2.2.1 j (by rw [hk, nI_toInt (by omega)]; omega)
theorem bOK.sorted {I : Nat → Int32} {A : Nat → Nat → Int32} (h : bOK I A) {k : Nat} (hk : I 4 = nI k) {i j : Nat} (hij : i < j) (hj : j < k) (hk16 : k ≤ 16) : (A 2 i).toInt < (A 2 j).toInt :=
  h.2.2.2.2.2.2.2.1 i j hij (by rw [hk, nI_toInt (by omega)]; omega)
theorem bOK.tanks {I : Nat → Int32} {A : Nat → Nat → Int32} (h : bOK I A) {t : Nat} (ht : t < 4) : rng (A 8 t) 0 9 ∧ rng (A 9 t) 0 20 ∧ rng (A 10 t) 0 999 ∧ rng (A 11 t) 0 999 ∧ (A 9 t = 0 → A 11 t = 0) := h.2.2.2.2.2.2.2.2 t ht
