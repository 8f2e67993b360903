/-! THE PURE PART, 98D: acts, the whole text -/
theorem pz_name_le {B : Nat → Int32} {n b : Nat} (hb : b ≤ n) : (∀ x, pz_name B n b = .inl x → x ≤ n) ∧ ∀ x v, pz_name B n b = .inr (x, v) → x ≤ n := by
  have hr : pz_run (pz_lt B n) 4 b ≤ n := pz_run_le (fun _ h => pz_lt_n h) 4 b hb
  unfold pz_name
  by_cases h : pz_lt B n b = true
  · rw [if_pos h]
    by_cases h2 : pz_lt B n (pz_run (pz_lt B n) 4 b) = true
    · rw [if_pos h2]
      exact ⟨fun x e => by rw [← Sum.inl.inj e]; exact hr, fun x v e => nomatch e⟩
    · rw [if_neg h2]
      exact ⟨fun x e => (nomatch e), fun x v e => by obtain ⟨rfl, -⟩ := Prod.mk.inj (Sum.inr.inj e); exact hr⟩
  · rw [if_neg h]
    exact ⟨fun x e => by rw [← Sum.inl.inj e]; exact hb, fun x v e => nomatch e⟩
theorem pz_num_le {B : Nat → Int32} {n b : Nat} {s : Int32} (hb : b ≤ n) : (∀ x, pz_num B n b s = .inl x → x ≤ n) ∧ ∀ x v, pz_num B n b s = .inr (x, v) → x ≤ n := by
  have hr : pz_run (pz_fg B n) 3 b ≤ n := pz_run_le (fun _ h => pz_fg_n h) 3 b hb
  unfold pz_num
  by_cases h : pz_fg B n b = true
  · rw [if_pos h]
    by_cases h2 : pz_fg B n (pz_run (pz_fg B n) 3 b) = true
    · rw [if_pos h2]
      exact ⟨fun x e => by rw [← Sum.inl.inj e]; exact hr, fun x v e => nomatch e⟩
    · rw [if_neg h2]
      exact ⟨fun x e => (nomatch e), fun x v e => by obtain ⟨rfl, -⟩ := Prod.mk.inj (Sum.inr.inj e); exact hr⟩
  · rw [if_neg h]
    exact ⟨fun x e => by rw [← Sum.inl.inj e]; exact hb, fun x v e => nomatch e⟩
theorem pz_part_le {B : Nat → Int32} {n t a : Nat} (ha : a ≤ n) : (∀ x, pz_part B n t a = .inl x → x ≤ n) ∧ ∀ x v, pz_part B n t a = .inr (x, v) → x ≤ n := by
  unfold pz_part
  by_cases h32 : pz_at B n a 32 = true
  · have han := (pz_at_n h32).1
    rw [if_pos h32]
    by_cases h0 : t = 0
    · rw [if_pos h0]; exact pz_name_le han
    · rw [if_neg h0]
      by_cases h2 : t = 2
      · rw [if_pos h2]
        by_cases h45 : pz_at B n (a + 1) 45 = true
        · rw [if_pos h45]; exact pz_num_le (pz_at_n h45).1
        · rw [if_neg h45]; exact pz_num_le han
      · rw [if_neg h2]; exact pz_num_le han
  · rw [if_neg h32]
    exact ⟨fun x e => by rw [← Sum.inl.inj e]; exact ha, fun x v e => nomatch e⟩
/-- all that stands behind a word -/
def pz_rest (B : Nat → Int32) (n : Nat) : List Nat → Nat → Nat ⊕ (Nat × List Int32)
  | [], a => .inr (a, [])
  | t :: ts, a => match pz_part B n t a with
    | .inl x => .inl x
    | .inr y => match pz_rest B n ts y.1 with
      | .inl z => .inl z
      | .inr z => .inr (z.1, y.2 :: z.2)
theorem pz_rest_l {B : Nat → Int32} {n t a x : Nat} {ts : List Nat} (h : pz_part B n t a = .inl x) : pz_rest B n (t :: ts) a = .inl x := by
  simp only [pz_rest, h]
theorem pz_rest_rl {B : Nat → Int32} {n t a x z : Nat} {v : Int32} {ts : List Nat} (h : pz_part B n t a = .inr (x, v)) (h2 : pz_rest B n ts x = .inl z) : pz_rest B n (t :: ts) a = .inl z := by
  simp only [pz_rest, h, h2]
theorem pz_rest_rr {B : Nat → Int32} {n t a x z : Nat} {v : Int32} {vs : List Int32} {ts : List Nat} (h : pz_part B n t a = .inr (x, v)) (h2 : pz_rest B n ts x = .inr (z, vs)) : pz_rest B n (t :: ts) a = .inr (z, v :: vs) := by
  simp only [pz_rest, h, h2]
theorem pz_rest_le {B : Nat → Int32} {n : Nat} : ∀ (ts : List Nat) (a : Nat), a ≤ n → (∃ x, pz_rest B n ts a = .inl x ∧ x ≤ n) ∨ ∃ x vs, pz_rest B n ts a = .inr (x, vs) ∧ x ≤ n ∧ vs.length = ts.length := by
  intro ts
  induction ts with
  | nil => intro a ha; exact Or.inr ⟨a, [], rfl, ha, rfl⟩
  | cons t ts ih =>
    intro a ha
    obtain ⟨p1, p2⟩ := pz_part_le (B := B) (t := t) ha
    match hp : pz_part B n t a with
    | .inl x => exact Or.inl ⟨x, pz_rest_l hp, p1 x hp⟩
    | .inr (x, v) =>
      rcases ih x (p2 x v hp) with ⟨z, h1, h2⟩ | ⟨z, vs, h1, h2, h3⟩
      · exact Or.inl ⟨z, pz_rest_rl hp h1, h2⟩
      · exact Or.inr ⟨z, v :: vs, pz_rest_rr hp h1, h2, by rw [List.length_cons, List.length_cons, h3]⟩
/-- the grounds never go back -/
def pz_put (f : Nat → Int32) : Nat → List Int32 → Nat → Int32
  | _, [] => f
  | j, v :: vs => pz_put (upd f j v) (j + 1) vs
theorem pz_put_out : ∀ (vs : List Int32) (f : Nat → Int32) (j k : Nat), (k < j ∨ j + vs.length ≤ k) → pz_put f j vs k = f k := by
  intro vs
  induction vs with
  | nil => intro f j k _; rfl
  | cons v vs ih =>
    intro f j k h
    rw [List.length_cons] at h
    rw [pz_put, ih (upd f j v) (j + 1) k (by omega), upd_at, if_neg (by omega)]
theorem pz_put_in : ∀ (vs : List Int32) (f : Nat → Int32) (j k : Nat), k < vs.length → pz_put f j vs (j + k) = vs.getD k 0 := by
  intro vs
  induction vs with
  | nil => intro f j k h; exact absurd h (Nat.not_lt_zero k)
  | cons v vs ih =>
    intro f j k h
    rw [List.length_cons] at h
    rw [pz_put]
    cases k with
    | zero => rw [pz_put_out vs _ (j + 1) (j + 0) (by omega), upd_at, if_pos (by omega)] <;> rfl
    | succ k =>
      have := ih (upd f j v) (j + 1) k (by omega)
      rw [show j + (k + 1) = j + 1 + k by omega, this] <;> rfl
def pz_sh (i : Nat) : List Nat := match i with
  | 0 => [0, 1, 1, 1, 2, 1]
  | 1 => [0, 1, 2]
  | 2 => [0]
  | 3 => [1, 1]
  | _ => [1]
theorem pz_sh_ok {i : Nat} (hi : i < 5) : (pz_sh i).length = pLen.getD (i + 5) 0 ∧ (pz_sh i).length ≤ 6 ∧ ∀ t, t < (pz_sh i).length → pch (i + 5) t = pz_ch ((pz_sh i).getD t 0) := by
  have h1 : ∀ i : Fin 5, (pz_sh i.1).length = pLen.getD (i.1 + 5) 0 ∧ (pz_sh i.1).length ≤ 6 := by decide +kernel
  have h2 : ∀ i : Fin 5, ∀ t : Fin 6, t.1 < (pz_sh i.1).length → pch (i.1 + 5) t.1 = pz_ch ((pz_sh i.1).getD t.1 0) := by decide +kernel
  have q := h1 ⟨i, hi⟩
  exact ⟨q.1, q.2, fun t ht => h2 ⟨i, hi⟩ ⟨t, Nat.lt_of_lt_of_le ht q.2⟩ ht⟩
theorem ev_restX {S : PS} {B : Nat → Int32} {n : Nat} (hT : TB S B n) (c : Int32) {i : Nat} (hi : i < 11) : ∀ (ts : List Nat) (j a fuel : Nat) (f : Nat → Int32), (∀ t, t < ts.length → pch i (j + t) = pz_ch (ts.getD t 0)) → j + ts.length = pLen.getD i 0 → a ≤ n → ts.length < fuel → (∃ x f', pz_rest B n ts a = .inl x ∧ g_X9_readsAct_19 i fuel (tX S a c f) (nI j) = some (.inl (0, tX S x c f'))) ∨ (∃ x vs, pz_rest B n ts a = .inr (x, vs) ∧ g_X9_readsAct_19 i fuel (tX S a c f) (nI j) = some (.inr (tX S x c (pz_put f j vs)))) := by
  have hi6 := pLen_le i hi
  intro ts
  induction ts with
  | nil =>
    intro j a fuel f _ h1 ha hf
    obtain ⟨fuel, rfl⟩ : ∃ z, fuel = z + 1 := ⟨fuel - 1, by omega⟩
    rw [List.length_nil] at h1
    refine Or.inr ⟨a, [], rfl, ?_⟩
    rw [g_X9_readsAct_19, if_pos (nI_le (by omega) (by omega))] <;> rfl
  | cons t ts ih =>
    intro j a fuel f hch h1 ha hf
    rw [List.length_cons] at h1 hf
    obtain ⟨fuel, rfl⟩ : ∃ z, fuel = z + 1 := ⟨fuel - 1, by omega⟩
    have e0 : g_X9_readsAct_19 i (fuel + 1) (tX S a c f) (nI j) = (if pbi (pz_at B n a 32) = 0 then (some (.inl (0, tX S a c f))) else (pbnd (f_X9_readsPart (tX S (a + 1) c f) (nI j) (pz_ch t)) (fun r11 S_11 => if r11 = (0 : Int32) then (some (.inl (0, S_11))) else (g_X9_readsAct_19 i fuel S_11 (nI (j + 1)))))) := by
      have hc0 : pch i j = pz_ch t := hch 0 (by rw [List.length_cons]; omega)
      rw [g_X9_readsAct_19, if_neg (nI_ge (by omega) (by omega)), if_neg (show ¬ (6 : Int32) ≤ nI j from nI_ge (a := j) (b := 6) (by omega) (by decide)), ev_isHere (P := tX S a c f) (B := B) (n := n) rfl hT ha, b_some]
      dsimp only
      rw [g_t (pin_nI (by omega) (by omega)), show (tX S a c f).1 12 = nI a from rfl, nI_1 a, tX_s12, nI_clamp (by omega), hc0, nI_1 j]
    rw [e0]
    by_cases h32 : pz_at B n a 32 = true
    · have han := (pz_at_n h32).1
      rw [h32, pbi_t, if_neg (by decide)]
      rcases ev_readsPart hT c f (show j < 6 by omega) han h32 t with ⟨x, f', q1, q2⟩ | ⟨x, v, q1, q2⟩
      · refine Or.inl ⟨x, f', pz_rest_l q1, ?_⟩
        rw [q2, b_some] <;> rfl
      · have hx := (pz_part_le ha).2 x v q1
        rw [q2, b_some]
        dsimp only
        rw [if_neg (by decide)]
        rcases ih (j + 1) x fuel (upd f j v) (fun t' ht' => by
          have := hch (t' + 1) (by rw [List.length_cons]; omega)
          rw [show j + 1 + t' = j + (t' + 1) by omega, this]
          rfl) (by omega) hx (by omega) with ⟨z, f', q3, q4⟩ | ⟨z, vs, q3, q4⟩
        · exact Or.inl ⟨z, f', pz_rest_rl q1 q3, q4⟩
        · exact Or.inr ⟨z, v :: vs, pz_rest_rr q1 q3, q4⟩
    · refine Or.inl ⟨a, f, pz_rest_l (by unfold pz_part; rw [if_neg h32]), ?_⟩
      rw [Bool.not_eq_true] at h32
      rw [h32, pbi_f, if_pos rfl]
/-- the same in the reference -/
def oR (T : PS) (q : Nat) (w u : Nat → Int32) (k : Nat) (r : Nat ⊕ (Nat × List Int32)) (o : Option (Int32 × PS)) : Prop := (∃ x u', r = .inl x ∧ o = some (0, tM T x q w u')) ∨ ∃ x vs, r = .inr (x, vs) ∧ o = some (1, tM T x q w (pz_put u (6 * q + k) vs))
theorem oR.nil (T : PS) (B : Nat → Int32) (n a q : Nat) (w u : Nat → Int32) (k : Nat) : oR T q w u k (pz_rest B n [] a) (some (1, tM T a q w u)) := Or.inr ⟨a, [], rfl, rfl⟩
theorem oR.cons {T : PS} {B : Nat → Int32} {n a q : Nat} {w u : Nat → Int32} {k t : Nat} {ts : List Nat} {o : Option (Int32 × PS)} {K : PS → Option (Int32 × PS)} (ha : a ≤ n) (h : oM T q w u k (pz_part B n t a) o) (hK : ∀ x u', x ≤ n → oR T q w u' (k + 1) (pz_rest B n ts x) (K (tM T x q w u'))) : oR T q w u k (pz_rest B n (t :: ts) a) (pbnd o (fun r S => if r = (0 : Int32) then some (0, S) else K S)) := by
  rcases h with ⟨x, u', h1, h2⟩ | ⟨x, v, h1, h2⟩
  · exact Or.inl ⟨x, u', pz_rest_l h1, by rw [h2] <;> rfl⟩
  · have hx := (pz_part_le ha).2 x v h1
    rw [h2, b_some]
    dsimp only
    rw [if_neg (by decide)]
    rcases hK x (upd u (6 * q + k) v) hx with ⟨z, u', q1, q2⟩ | ⟨z, vs, q1, q2⟩
    · exact Or.inl ⟨z, u', pz_rest_rl h1 q1, q2⟩
    · exact Or.inr ⟨z, v :: vs, pz_rest_rr h1 q1, q2⟩
theorem oR.last {T : PS} {B : Nat → Int32} {n a q : Nat} {w u : Nat → Int32} {k t : Nat} {o : Option (Int32 × PS)} (h : oM T q w u k (pz_part B n t a) o) : oR T q w u k (pz_rest B n [t] a) (pbnd o (fun r23 S_23 => pgd (pbit r23) (some (r23, S_23)))) := by
  rcases h with ⟨x, u', h1, h2⟩ | ⟨x, v, h1, h2⟩
  · exact Or.inl ⟨x, u', pz_rest_l h1, by rw [h2, b_some]; exact g_t (pbi_bit false) _⟩
  · exact Or.inr ⟨x, [v], pz_rest_rr h1 rfl, by rw [h2, b_some]; exact g_t (pbi_bit true) _⟩
theorem ev_takesRest {T : PS} {B : Nat → Int32} {n : Nat} (hT : TB T B n) {q : Nat} (hq : q < 80) {i : Nat} (hi : i < 5) (w u : Nat → Int32) (hw : w q = nI i) {a : Nat} (ha : a ≤ n) : oR T q w u 0 (pz_rest B n (pz_sh i) a) (f_X12_takesRest (tM T a q w u)) := by
  have nm : ∀ {u : Nat → Int32} {k x : Nat}, k < 6 → x ≤ n → oM T q w u k (pz_part B n 0 x) (f_X12_takesName (tM T x q w u) (nI k)) := fun hk hx => ev_takesName hT hq w _ hk hx
  have n1 : ∀ {u : Nat → Int32} {k x : Nat}, k < 6 → x ≤ n → oM T q w u k (pz_part B n 1 x) (f_X12_takesNumber (tM T x q w u) (nI k) 0) := fun hk hx => ev_takesNumber hT hq w _ hk hx (t := 1) (Or.inl rfl)
  have n2 : ∀ {u : Nat → Int32} {k x : Nat}, k < 6 → x ≤ n → oM T q w u k (pz_part B n 2 x) (f_X12_takesNumber (tM T x q w u) (nI k) 1) := fun hk hx => ev_takesNumber hT hq w _ hk hx (t := 2) (Or.inr rfl)
  unfold f_X12_takesRest
  rw [show (tM T a q w u).1 13 = nI q from rfl, g_t (pin_nI hq (by decide)), nI_clamp (by omega), show (tM T a q w u).2 35 = w from rfl, hw]
  have : i = 0 ∨ i = 1 ∨ i = 2 ∨ i = 3 ∨ i = 4 := by omega
  rcases this with rfl | rfl | rfl | rfl | rfl
  · rw [if_pos (by decide)]
    exact oR.cons ha (nm (k := 0) (by decide) ha) (fun x1 u1 a1 => oR.cons a1 (n1 (k := 1) (by decide) a1) (fun x2 u2 a2 => oR.cons a2 (n1 (k := 2) (by decide) a2) (fun x3 u3 a3 => oR.cons a3 (n1 (k := 3) (by decide) a3) (fun x4 u4 a4 => oR.cons a4 (n2 (k := 4) (by decide) a4) (fun x5 u5 a5 => oR.cons (K := fun S => some (1, S)) a5 (n1 (k := 5) (by decide) a5) (fun x6 u6 a6 => oR.nil T B n x6 q w u6 6))))))
  · rw [if_neg (by decide), if_pos (by decide)]
    exact oR.cons ha (nm (k := 0) (by decide) ha) (fun x1 u1 a1 => oR.cons a1 (n1 (k := 1) (by decide) a1) (fun x2 u2 a2 => oR.cons (K := fun S => some (1, S)) a2 (n2 (k := 2) (by decide) a2) (fun x3 u3 a3 => oR.nil T B n x3 q w u3 3)))
  · rw [if_neg (by decide), if_neg (by decide), if_pos (by decide)]
    exact oR.last (nm (k := 0) (by decide) ha)
  · rw [if_neg (by decide), if_neg (by decide), if_neg (by decide), if_pos (by decide)]
    exact oR.cons ha (n1 (k := 0) (by decide) ha) (fun x1 u1 a1 => oR.cons (K := fun S => some (1, S)) a1 (n1 (k := 1) (by decide) a1) (fun x2 u2 a2 => oR.nil T B n x2 q w u2 2))
  · rw [if_neg (by decide), if_neg (by decide), if_neg (by decide), if_neg (by decide)]
    exact oR.last (n1 (k := 0) (by decide) ha)
/-- an act -/
def pz_act (B : Nat → Int32) (n a : Nat) : Nat ⊕ (Nat × Nat × List Int32) := if pz_i B n a < 5 then (match pz_rest B n (pz_sh (pz_i B n a)) (pz_e B n a) with
    | .inl x => .inl x
    | .inr y => .inr (y.1, pz_i B n a, y.2)) else .inl a
theorem pz_act_l {B : Nat → Int32} {n a x : Nat} (h : pz_i B n a < 5) (h2 : pz_rest B n (pz_sh (pz_i B n a)) (pz_e B n a) = .inl x) : pz_act B n a = .inl x := by
  simp only [pz_act, if_pos h, h2]
theorem pz_act_r {B : Nat → Int32} {n a x : Nat} {vs : List Int32} (h : pz_i B n a < 5) (h2 : pz_rest B n (pz_sh (pz_i B n a)) (pz_e B n a) = .inr (x, vs)) : pz_act B n a = .inr (x, pz_i B n a, vs) := by
  simp only [pz_act, if_pos h, h2]
theorem pz_rest_ge {B : Nat → Int32} {n : Nat} : ∀ (ts : List Nat) (a : Nat), ∀ x vs, pz_rest B n ts a = .inr (x, vs) → a ≤ x := by
  have hnm : ∀ b x v, pz_name B n b = .inr (x, v) → b ≤ x := by
    intro b x v e
    unfold pz_name at e
    by_cases h : pz_lt B n b = true
    · rw [if_pos h] at e
      by_cases h2 : pz_lt B n (pz_run (pz_lt B n) 4 b) = true
      · rw [if_pos h2] at e; exact nomatch e
      · rw [if_neg h2] at e
        obtain ⟨rfl, -⟩ := Prod.mk.inj (Sum.inr.inj e)
        exact pz_run_ge _ _ _
    · rw [if_neg h] at e; exact nomatch e
  have hnu : ∀ b s x v, pz_num B n b s = .inr (x, v) → b ≤ x := by
    intro b s x v e
    unfold pz_num at e
    by_cases h : pz_fg B n b = true
    · rw [if_pos h] at e
      by_cases h2 : pz_fg B n (pz_run (pz_fg B n) 3 b) = true
      · rw [if_pos h2] at e; exact nomatch e
      · rw [if_neg h2] at e
        obtain ⟨rfl, -⟩ := Prod.mk.inj (Sum.inr.inj e)
        exact pz_run_ge _ _ _
    · rw [if_neg h] at e; exact nomatch e
  have hpt : ∀ t a x v, pz_part B n t a = .inr (x, v) → a ≤ x := by
    intro t a x v e
    unfold pz_part at e
    by_cases h32 : pz_at B n a 32 = true
    · rw [if_pos h32] at e
      by_cases h0 : t = 0
      · rw [if_pos h0] at e; exact Nat.le_of_succ_le (hnm _ _ _ e)
      · rw [if_neg h0] at e
        by_cases h2 : t = 2
        · rw [if_pos h2] at e
          by_cases h45 : pz_at B n (a + 1) 45 = true
          · rw [if_pos h45] at e
            have := hnu _ _ _ _ e
            omega
          · rw [if_neg h45] at e; exact Nat.le_of_succ_le (hnu _ _ _ _ e)
        · rw [if_neg h2] at e; exact Nat.le_of_succ_le (hnu _ _ _ _ e)
    · rw [if_neg h32] at e; exact nomatch e
  intro ts
  induction ts with
  | nil =>
    intro a x vs e
    rw [pz_rest] at e
    obtain ⟨rfl, -⟩ := Prod.mk.inj (Sum.inr.inj e)
    exact Nat.le_refl _
  | cons t ts ih =>
    intro a x vs e
    match hp : pz_part B n t a with
    | .inl y => rw [pz_rest_l hp] at e; exact nomatch e
    | .inr (y, v) =>
      match hr : pz_rest B n ts y with
      | .inl z => rw [pz_rest_rl hp hr] at e; exact nomatch e
      | .inr (z, vs') =>
        rw [pz_rest_rr hp hr] at e
        obtain ⟨rfl, -⟩ := Prod.mk.inj (Sum.inr.inj e)
        exact Nat.le_trans (hpt _ _ _ _ hp) (ih y z vs' hr)
theorem pz_act_rng {B : Nat → Int32} {n a : Nat} (ha : a ≤ n) : (∃ x, pz_act B n a = .inl x ∧ x ≤ n) ∨ ∃ y i vs, pz_act B n a = .inr (y, i, vs) ∧ a < y ∧ y ≤ n ∧ i < 5 ∧ vs.length = (pz_sh i).length := by
  obtain ⟨r1, r2⟩ := pz_e_rng (B := B) ha
  by_cases h : pz_i B n a < 5
  · have h3 := pz_i_len h
    rcases pz_rest_le (B := B) (pz_sh (pz_i B n a)) (pz_e B n a) r2 with ⟨x, q1, q2⟩ | ⟨x, vs, q1, q2, q3⟩
    · exact Or.inl ⟨x, pz_act_l h q1, q2⟩
    · have := pz_rest_ge _ _ _ _ q1
      exact Or.inr ⟨x, _, vs, pz_act_r h q1, by omega, q2, h, q3⟩
  · exact Or.inl ⟨a, by unfold pz_act; rw [if_neg h], ha⟩
theorem ev_readsAct {S : PS} {B : Nat → Int32} {n : Nat} (hT : TB S B n) {a : Nat} (ha : a ≤ n) (c : Int32) (f : Nat → Int32) : (∃ x c' f', pz_act B n a = .inl x ∧ f_X9_readsAct (tX S a c f) = some (0, tX S x c' f')) ∨ ∃ y i vs, pz_act B n a = .inr (y, i, vs) ∧ f_X9_readsAct (tX S a c f) = some (1, tX S y (nI i) (pz_put f 0 vs)) := by
  unfold f_X9_readsAct
  rcases ev_readsWord hT ha c f with ⟨h, e⟩ | ⟨h, c', e⟩
  · obtain ⟨r1, r2⟩ := pz_e_rng (B := B) ha
    obtain ⟨s1, s2, s3⟩ := pz_sh_ok h
    rw [e, b_some]
    dsimp only
    rw [if_neg (by decide), show (tX S (pz_e B n a) (nI (pz_i B n a)) f).1 13 = nI (pz_i B n a) from rfl, ev_shapeOf _ h, b_some]
    dsimp only
    rw [pstr_ok (by omega)]
    rcases ev_restX hT (nI (pz_i B n a)) (i := pz_i B n a + 5) (by omega) (pz_sh (pz_i B n a)) 0 (pz_e B n a) pfuel f (fun t ht => by rw [Nat.zero_add]; exact s3 t ht) (by omega) r2 (pfuel_gt (by omega)) with ⟨x, f', q1, q2⟩ | ⟨x, vs, q1, q2⟩
    · refine Or.inl ⟨x, nI (pz_i B n a), f', pz_act_l h q1, ?_⟩
      rw [show (0 : Int32) = nI 0 from rfl] at q2 ⊢
      rw [q2, lp_l]
    · refine Or.inr ⟨x, _, vs, pz_act_r h q1, ?_⟩
      rw [show (0 : Int32) = nI 0 from rfl]
      rw [q2, lp_r]
  · refine Or.inl ⟨a, c', f, by unfold pz_act; rw [if_neg h], ?_⟩
    rw [e] <;> rfl
theorem ev_takesAct {T : PS} {B : Nat → Int32} {n : Nat} (hT : TB T B n) {a q : Nat} (ha : a ≤ n) (hq : q ≤ a) (w u : Nat → Int32) : (∃ x w' u', pz_act B n a = .inl x ∧ f_X12_takesAct (tM T a q w u) = some (0, tM T x q w' u')) ∨ ∃ y i vs, pz_act B n a = .inr (y, i, vs) ∧ f_X12_takesAct (tM T a q w u) = some (1, tM T y (q + 1) (upd w q (nI i)) (pz_put u (6 * q) vs)) := by
  have hn := hT.2.2
  unfold f_X12_takesAct
  rcases ev_takesWord hT ha hq w u with ⟨h, e⟩ | ⟨h, e⟩
  · obtain ⟨r1, r2⟩ := pz_e_rng (B := B) ha
    have h3 := pz_i_len h
    rw [e, b_some]
    dsimp only
    rw [if_neg (by decide)]
    rcases ev_takesRest hT (show q < 80 by omega) h (upd w q (nI (pz_i B n a))) u (by rw [upd_at, if_pos rfl]) r2 with ⟨x, u', q1, q2⟩ | ⟨x, vs, q1, q2⟩
    · refine Or.inl ⟨x, upd w q (nI (pz_i B n a)), u', pz_act_l h q1, ?_⟩
      rw [q2] <;> rfl
    · refine Or.inr ⟨x, _, vs, pz_act_r h q1, ?_⟩
      rw [q2, b_some]
      dsimp only
      rw [if_neg (by decide), show (tM T x q (upd w q (nI (pz_i B n a))) (pz_put u (6 * q + 0) vs)).1 13 = nI q from rfl, nI_1, tM_s13] <;> rfl
  · refine Or.inl ⟨a, w, u, by unfold pz_act; rw [if_neg h], ?_⟩
    rw [e] <;> rfl
/-- a text -/
def pz_text (B : Nat → Int32) (n : Nat) : Nat → Nat → Nat ⊕ List (Nat × List Int32)
  | 0, a => .inl a
  | m + 1, a => match pz_act B n a with
    | .inl x => .inl x
    | .inr y => if n ≤ y.1 then .inr [y.2] else if B y.1 = 59 then (match pz_text B n m (y.1 + 1) with
      | .inl x => .inl x
      | .inr l => .inr (y.2 :: l)) else .inl y.1
theorem ev_findFault {S : PS} {B : Nat → Int32} {n : Nat} (hT : TB S B n) : ∀ (m j a fuel : Nat) (c : Int32) (f : Nat → Int32), j + m = n + 1 → j ≤ a → a ≤ n → m < fuel → (∃ x c' f', pz_text B n m a = .inl x ∧ x ≤ n ∧ g_X9_findFault_7 fuel (tX S a c f) (nI j) = some (.inl (nI x, tX S x c' f'))) ∨ ∃ l y c' f', pz_text B n m a = .inr l ∧ g_X9_findFault_7 fuel (tX S a c f) (nI j) = some (.inl (-1, tX S y c' f')) := by
  have hn := hT.2.2
  intro m
  induction m with
  | zero => intro j a fuel c f h1 h2 h3 _; omega
  | succ m ih =>
    intro j a fuel c f h1 h2 h3 hf
    obtain ⟨fuel, rfl⟩ : ∃ z, fuel = z + 1 := ⟨fuel - 1, by omega⟩
    rw [g_X9_findFault_7, show (tX S a c f).1 11 = nI n from hT.1, if_neg (nI_nlt (by omega) (by omega)), pz_text]
    rcases ev_readsAct hT h3 c f with ⟨x, c', f', q1, q2⟩ | ⟨y, i, vs, q1, q2⟩
    · rw [q1, q2, b_some]
      refine Or.inl ⟨x, c', f', rfl, ?_, rfl⟩
      rcases pz_act_rng (B := B) h3 with ⟨x', e1, e2⟩ | ⟨y, i, vs, e1, -⟩
      · rw [q1] at e1
        rw [Sum.inl.inj e1]
        exact e2
      · rw [q1] at e1; exact nomatch e1
    · have hy : a < y ∧ y ≤ n := by
        rcases pz_act_rng (B := B) h3 with ⟨x', e1, e2⟩ | ⟨y', i', vs', e1, e2, e3, -⟩
        · rw [q1] at e1; exact nomatch e1
        · rw [q1] at e1
          obtain ⟨rfl, -⟩ := Prod.mk.inj (Sum.inr.inj e1)
          exact ⟨e2, e3⟩
      rw [q1, q2, b_some]
      dsimp only
      rw [if_neg (show ¬ (1 : Int32) = 0 by decide), show (tX S y (nI i) (pz_put f 0 vs)).1 12 = nI y from rfl, show (tX S y (nI i) (pz_put f 0 vs)).1 11 = nI n from hT.1]
      by_cases hyn : n ≤ y
      · rw [if_pos hyn, if_neg (nI_nlt hyn (by omega))]
        exact Or.inr ⟨_, y, _, _, rfl, rfl⟩
      · rw [if_neg hyn, if_pos (nI_lt (by omega) (by omega)), ev_isPartedHere (P := tX S y (nI i) (pz_put f 0 vs)) (B := B) (n := n) rfl hT hy.2, b_some]
        dsimp only
        by_cases h59 : B y = 59
        · rw [if_pos h59, show pz_at B n y 59 = true by unfold pz_at; rw [decide_eq_true (show y < n by omega), decide_eq_true h59] <;> rfl, pbi_t, if_neg (show ¬ (1 : Int32) = 0 by decide), show (tX S y (nI i) (pz_put f 0 vs)).1 12 = nI y from rfl, nI_1 y, nI_1 j, tX_s12]
          rcases ih (j + 1) (y + 1) fuel (nI i) (pz_put f 0 vs) (by omega) (by omega) (by omega) (by omega) with ⟨x, c', f', e1, e2, e3⟩ | ⟨l, z, c', f', e1, e2⟩
          · rw [e1, e3]
            exact Or.inl ⟨x, c', f', rfl, e2, rfl⟩
          · rw [e1, e2]
            exact Or.inr ⟨_, z, c', f', rfl, rfl⟩
        · rw [if_neg h59, show pz_at B n y 59 = false by unfold pz_at; rw [decide_eq_false h59, Bool.and_false], pbi_f, if_pos rfl]
          exact Or.inl ⟨y, _, _, rfl, hy.2, rfl⟩
/-- the acts, as the reference holds them -/
def pz_enc : Nat → List (Nat × List Int32) → (Nat → Int32) → (Nat → Int32) → Prop
  | _, [], _, _ => True
  | q, p :: l, w, u => w q = nI p.1 ∧ (∀ j, j < p.2.length → u (6 * q + j) = p.2.getD j 0) ∧ pz_enc (q + 1) l w u
def pz_F (fuel : Nat) (P : PS) : Option ((Int32 × PS) ⊕ PS) := pbnd (f_X12_takesAct P) (fun r6 S_6 => if r6 = (0 : Int32) then (some (.inl (0, S_6))) else (g_X12_takesAll_19 fuel S_6))
theorem ev_takesAll {T : PS} {B : Nat → Int32} {n : Nat} (hT : TB T B n) : ∀ (m a q fuel : Nat) (w u : Nat → Int32), n + 1 ≤ a + m → q ≤ a → a ≤ n → m < fuel → (∃ x q' w' u', pz_text B n m a = .inl x ∧ pz_F fuel (tM T a q w u) = some (.inl (0, tM T x q' w' u'))) ∨ ∃ l y w' u', pz_text B n m a = .inr l ∧ pz_F fuel (tM T a q w u) = some (.inr (tM T y (q + l.length) w' u')) ∧ pz_enc q l w' u' ∧ (∀ k, k < q → w' k = w k) ∧ (∀ k, k < 6 * q → u' k = u k) ∧ q + l.length ≤ 80 := by
  have hn := hT.2.2
  intro m
  induction m with
  | zero => intro a q fuel w u h1 h2 h3 _; omega
  | succ m ih =>
    intro a q fuel w u h1 h2 h3 hf
    obtain ⟨fuel, rfl⟩ : ∃ z, fuel = z + 1 := ⟨fuel - 1, by omega⟩
    unfold pz_F
    rw [pz_text]
    rcases ev_takesAct hT h3 h2 w u with ⟨x, w', u', q1, q2⟩ | ⟨y, i, vs, q1, q2⟩
    · rw [q1, q2, b_some]
      exact Or.inl ⟨x, q, w', u', rfl, rfl⟩
    · have hy : a < y ∧ y ≤ n ∧ i < 5 ∧ vs.length = (pz_sh i).length := by
        rcases pz_act_rng (B := B) h3 with ⟨x', e1, e2⟩ | ⟨y', i', vs', e1, e2, e3, e4, e5⟩
        · rw [q1] at e1; exact nomatch e1
        · rw [q1] at e1
          obtain ⟨rfl, e6⟩ := Prod.mk.inj (Sum.inr.inj e1)
          obtain ⟨rfl, rfl⟩ := Prod.mk.inj e6
          exact ⟨e2, e3, e4, e5⟩
      obtain ⟨y1, y2, y3, y4⟩ := hy
      have y5 := (pz_sh_ok y3).2.1
      rw [q1, q2, b_some]
      dsimp only
      rw [if_neg (show ¬ (1 : Int32) = 0 by decide), g_X12_takesAll_19, show (tM T y (q + 1) (upd w q (nI i)) (pz_put u (6 * q) vs)).1 12 = nI y from rfl, show (tM T y (q + 1) (upd w q (nI i)) (pz_put u (6 * q) vs)).1 11 = nI n from hT.1]
      by_cases hyn : n ≤ y
      · rw [if_pos hyn, if_pos (nI_le hyn (by omega))]
        refine Or.inr ⟨[(i, vs)], y, _, _, rfl, rfl, ⟨?_, fun j hj => pz_put_in vs u (6 * q) j hj, trivial⟩, fun k hk => ?_, fun k hk => pz_put_out vs u (6 * q) k (Or.inl hk), ?_⟩
        · rw [upd_at, if_pos rfl]
        · rw [upd_at, if_neg (by omega)]
        · show q + 1 ≤ 80
          omega
      · rw [if_neg hyn, if_neg (nI_ge (by omega) (by omega)), ev_isAtM (P := tM T y (q + 1) (upd w q (nI i)) (pz_put u (6 * q) vs)) (B := B) (n := n) rfl hT y2, b_some]
        dsimp only
        by_cases h59 : B y = 59
        · rw [if_pos h59, show pz_at B n y 59 = true by unfold pz_at; rw [decide_eq_true (show y < n by omega), decide_eq_true h59] <;> rfl, pbi_t, if_neg (show ¬ (1 : Int32) = 0 by decide), show (tM T y (q + 1) (upd w q (nI i)) (pz_put u (6 * q) vs)).1 12 = nI y from rfl, nI_1, tM_s12]
          rcases ih (y + 1) (q + 1) fuel (upd w q (nI i)) (pz_put u (6 * q) vs) (by omega) (by omega) (by omega) (by omega) with ⟨x, q', w', u', e1, e2⟩ | ⟨l, z, w', u', e1, e2, e3, e4, e5, e6⟩
          · unfold pz_F at e2
            rw [e1, e2]
            exact Or.inl ⟨x, q', w', u', rfl, rfl⟩
          · unfold pz_F at e2
            rw [e1, e2]
            refine Or.inr ⟨(i, vs) :: l, z, w', u', rfl, ?_, ⟨?_, fun j hj => ?_, e3⟩, fun k hk => ?_, fun k hk => ?_, ?_⟩
            · rw [List.length_cons, show q + (l.length + 1) = q + 1 + l.length by omega]
            · rw [e4 q (by omega), upd_at, if_pos rfl]
            · have hj' : j < vs.length := hj
              rw [e5 (6 * q + j) (by omega)]
              exact pz_put_in vs u (6 * q) j hj
            · rw [e4 k (by omega), upd_at, if_neg (by omega)]
            · rw [e5 k (by omega)]
              exact pz_put_out vs u (6 * q) k (Or.inl hk)
            · rw [List.length_cons]
              omega
        · rw [if_neg h59, show pz_at B n y 59 = false by unfold pz_at; rw [decide_eq_false h59, Bool.and_false], pbi_f, if_pos rfl]
          exact Or.inl ⟨y, _, _, _, rfl, rfl⟩
