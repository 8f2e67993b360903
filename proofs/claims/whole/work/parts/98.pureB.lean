/-! THE PURE PART, 98B: the tape's primitives -/
/-- the class and the reference while they read: place, act, parts; place, acts, words, numbers -/
def tX (S : PS) (a : Nat) (c : Int32) (f : Nat → Int32) : PS := (fun k => if k = 12 then nI a else if k = 13 then c else S.1 k, fun k => if k = 29 then f else S.2 k)
def tM (T : PS) (a q : Nat) (w u : Nat → Int32) : PS := (fun k => if k = 12 then nI a else if k = 13 then nI q else T.1 k, fun k => if k = 35 then w else if k = 36 then u else T.2 k)
theorem tX_s12 (S : PS) (a : Nat) (c : Int32) (f : Nat → Int32) (b : Nat) : pI (tX S a c f) 12 (nI b) = tX S b c f := by
  refine ps_ext (funext fun k => ?_) (fun k => rfl)
  show (if k = 12 then nI b else if k = 12 then nI a else if k = 13 then c else S.1 k) = (if k = 12 then nI b else if k = 13 then c else S.1 k)
  by_cases h : k = 12
  · rw [if_pos h, if_pos h]
  · rw [if_neg h, if_neg h, if_neg h]
theorem tX_s13 (S : PS) (a : Nat) (c : Int32) (f : Nat → Int32) (d : Int32) : pI (tX S a c f) 13 d = tX S a d f := by
  refine ps_ext (funext fun k => ?_) (fun k => rfl)
  show (if k = 13 then d else if k = 12 then nI a else if k = 13 then c else S.1 k) = (if k = 12 then nI a else if k = 13 then d else S.1 k)
  by_cases h : k = 13
  · rw [if_pos h, if_pos h, if_neg (by omega)]
  · rw [if_neg h, if_neg h, if_neg h]
theorem tX_s29 (S : PS) (a : Nat) (c : Int32) (f g : Nat → Int32) : pAr (tX S a c f) 29 g = tX S a c g := by
  refine ps_ext rfl (fun k => ?_)
  show (if k = 29 then g else if k = 29 then f else S.2 k) = (if k = 29 then g else S.2 k)
  by_cases h : k = 29
  · rw [if_pos h, if_pos h]
  · rw [if_neg h, if_neg h, if_neg h]
theorem tM_s12 (T : PS) (a q : Nat) (w u : Nat → Int32) (b : Nat) : pI (tM T a q w u) 12 (nI b) = tM T b q w u := by
  refine ps_ext (funext fun k => ?_) (fun k => rfl)
  show (if k = 12 then nI b else if k = 12 then nI a else if k = 13 then nI q else T.1 k) = (if k = 12 then nI b else if k = 13 then nI q else T.1 k)
  by_cases h : k = 12
  · rw [if_pos h, if_pos h]
  · rw [if_neg h, if_neg h, if_neg h]
theorem tM_s13 (T : PS) (a q : Nat) (w u : Nat → Int32) (b : Nat) : pI (tM T a q w u) 13 (nI b) = tM T a b w u := by
  refine ps_ext (funext fun k => ?_) (fun k => rfl)
  show (if k = 13 then nI b else if k = 12 then nI a else if k = 13 then nI q else T.1 k) = (if k = 12 then nI a else if k = 13 then nI b else T.1 k)
  by_cases h : k = 13
  · rw [if_pos h, if_pos h, if_neg (by omega)]
  · rw [if_neg h, if_neg h, if_neg h]
theorem tM_s35 (T : PS) (a q : Nat) (w u g : Nat → Int32) : pAr (tM T a q w u) 35 g = tM T a q g u := by
  refine ps_ext rfl (fun k => ?_)
  show (if k = 35 then g else if k = 35 then w else if k = 36 then u else T.2 k) = (if k = 35 then g else if k = 36 then u else T.2 k)
  by_cases h : k = 35
  · rw [if_pos h, if_pos h]
  · rw [if_neg h, if_neg h, if_neg h]
theorem tM_s36 (T : PS) (a q : Nat) (w u g : Nat → Int32) : pAr (tM T a q w u) 36 g = tM T a q w g := by
  refine ps_ext rfl (fun k => ?_)
  show (if k = 36 then g else if k = 35 then w else if k = 36 then u else T.2 k) = (if k = 35 then w else if k = 36 then g else T.2 k)
  by_cases h : k = 36
  · rw [if_pos h, if_pos h, if_neg (by omega)]
  · rw [if_neg h, if_neg h, if_neg h]
theorem tX_self {P : PS} {a : Nat} (h : P.1 12 = nI a) : tX P a (P.1 13) (P.2 29) = P := by
  refine ps_ext (funext fun k => ?_) (fun k => ?_)
  · show (if k = 12 then nI a else if k = 13 then P.1 13 else P.1 k) = P.1 k
    by_cases q : k = 12
    · rw [if_pos q, q, h]
    · rw [if_neg q]
      by_cases q : k = 13
      · rw [if_pos q, q]
      · rw [if_neg q]
  · show (if k = 29 then P.2 29 else P.2 k) = P.2 k
    by_cases q : k = 29
    · rw [if_pos q, q]
    · rw [if_neg q]
theorem tM_self {P : PS} {a q : Nat} (h : P.1 12 = nI a) (h2 : P.1 13 = nI q) : tM P a q (P.2 35) (P.2 36) = P := by
  refine ps_ext (funext fun k => ?_) (fun k => ?_)
  · show (if k = 12 then nI a else if k = 13 then nI q else P.1 k) = P.1 k
    by_cases q : k = 12
    · rw [if_pos q, q, h]
    · rw [if_neg q]
      by_cases q : k = 13
      · rw [if_pos q, q, h2]
      · rw [if_neg q]
  · show (if k = 35 then P.2 35 else if k = 36 then P.2 36 else P.2 k) = P.2 k
    by_cases q : k = 35
    · rw [if_pos q, q]
    · rw [if_neg q]
      by_cases q : k = 36
      · rw [if_pos q, q]
      · rw [if_neg q]
/-- bytes and how many -/
def TB (S : PS) (B : Nat → Int32) (n : Nat) : Prop := S.1 11 = nI n ∧ S.2 28 = B ∧ n ≤ 80
def pbi (b : Bool) : Int32 := if b = true then 1 else 0
theorem pbi_t : pbi true = 1 := rfl
theorem pbi_f : pbi false = 0 := rfl
theorem pbi_bit (b : Bool) : pbit (pbi b) = true := by cases b <;> rfl
def pz_at (B : Nat → Int32) (n a : Nat) (v : Int32) : Bool := decide (a < n) && decide (B a = v)
def pz_lt (B : Nat → Int32) (n a : Nat) : Bool := decide (a < n) && decide (¬ pwi (B a) 97 122 = 0)
def pz_fg (B : Nat → Int32) (n a : Nat) : Bool := decide (a < n) && decide (¬ pwi (B a) 48 57 = 0)
theorem pz_lt_n {B : Nat → Int32} {n a : Nat} (h : pz_lt B n a = true) : a < n := by
  unfold pz_lt at h
  rw [Bool.and_eq_true] at h
  exact of_decide_eq_true h.1
theorem pz_fg_n {B : Nat → Int32} {n a : Nat} (h : pz_fg B n a = true) : a < n := by
  unfold pz_fg at h
  rw [Bool.and_eq_true] at h
  exact of_decide_eq_true h.1
theorem pz_at_n {B : Nat → Int32} {n a : Nat} {v : Int32} (h : pz_at B n a v = true) : a < n ∧ B a = v := by
  unfold pz_at at h
  rw [Bool.and_eq_true] at h
  exact ⟨of_decide_eq_true h.1, of_decide_eq_true h.2⟩
theorem pwi_tape {a n : Nat} (ha : a ≤ 1000) (hn : n ≤ 80) : pwi (nI a) 0 (nI n - 1) = if a < n then 1 else 0 := by
  have e0 : (0 : Int32).toInt = 0 := rfl
  have e1 : (nI n - 1).toInt = (n : Int) - 1 := pk_sub_toInt (a := n) (b := 1) (by omega) (by decide)
  have e2 : (nI a).toInt = (a : Int) := nI_toInt (by omega)
  rcases pwi_cases (nI a) 0 (nI n - 1) with ⟨e, h⟩ | ⟨e, h1, h2⟩
  · rw [e0, e1, e2] at h
    rw [e, if_neg (by omega)]
  · rw [e1, e2] at h2
    rw [e, if_pos (by omega)]
theorem ev_isHere {P : PS} {B : Nat → Int32} {a n : Nat} (h12 : P.1 12 = nI a) (hT : TB P B n) (ha : a ≤ n) (v : Int32) : f_X9_isHere P v = some (pbi (pz_at B n a v), P) := by
  obtain ⟨h11, rfl, hn⟩ := hT
  unfold f_X9_isHere pz_at
  rw [h12, h11, ev_X11_isWithin, b_some, pwi_tape (by omega) hn]
  dsimp only
  by_cases h : a < n
  · rw [if_pos h, if_neg (by decide), h12, g_t (pin_nI (by omega) (by decide)), nI_clamp (by omega), decide_eq_true h, Bool.true_and]
    by_cases e : P.2 28 a = v
    · rw [if_pos e, decide_eq_true e] <;> rfl
    · rw [if_neg e, decide_eq_false e] <;> rfl
  · rw [if_neg h, if_pos rfl, decide_eq_false h, Bool.false_and] <;> rfl
theorem ev_isPartedHere {P : PS} {B : Nat → Int32} {a n : Nat} (h12 : P.1 12 = nI a) (hT : TB P B n) (ha : a ≤ n) : f_X9_isPartedHere P = some (pbi (pz_at B n a 59), P) := by
  unfold f_X9_isPartedHere
  rw [ev_isHere h12 hT ha, b_some, g_t (pbi_bit _)]
theorem ev_isLetX {P : PS} {B : Nat → Int32} {a n : Nat} (h12 : P.1 12 = nI a) (hT : TB P B n) (ha : a ≤ n) : f_X9_isLetterHere P = some (pbi (pz_lt B n a), P) := by
  obtain ⟨h11, rfl, hn⟩ := hT
  unfold f_X9_isLetterHere pz_lt
  rw [h12, h11, ev_X11_isWithin, b_some, pwi_tape (by omega) hn]
  dsimp only
  by_cases h : a < n
  · rw [if_pos h, if_neg (by decide), h12, g_t (pin_nI (by omega) (by decide)), nI_clamp (by omega), decide_eq_true h, Bool.true_and, ev_X11_isWithin, b_some]
    dsimp only
    by_cases e : pwi (P.2 28 a) 97 122 = 0
    · rw [if_pos e, decide_eq_false (fun q => q e)] <;> rfl
    · rw [if_neg e, decide_eq_true e] <;> rfl
  · rw [if_neg h, if_pos rfl, decide_eq_false h, Bool.false_and] <;> rfl
theorem ev_isFigX {P : PS} {B : Nat → Int32} {a n : Nat} (h12 : P.1 12 = nI a) (hT : TB P B n) (ha : a ≤ n) : f_X9_isFigureHere P = some (pbi (pz_fg B n a), P) := by
  obtain ⟨h11, rfl, hn⟩ := hT
  unfold f_X9_isFigureHere pz_fg
  rw [h12, h11, ev_X11_isWithin, b_some, pwi_tape (by omega) hn]
  dsimp only
  by_cases h : a < n
  · rw [if_pos h, if_neg (by decide), h12, g_t (pin_nI (by omega) (by decide)), nI_clamp (by omega), decide_eq_true h, Bool.true_and, ev_X11_isWithin, b_some]
    dsimp only
    by_cases e : pwi (P.2 28 a) 48 57 = 0
    · rw [if_pos e, decide_eq_false (fun q => q e)] <;> rfl
    · rw [if_neg e, decide_eq_true e] <;> rfl
  · rw [if_neg h, if_pos rfl, decide_eq_false h, Bool.false_and] <;> rfl
theorem ev_isAtM {P : PS} {B : Nat → Int32} {a n : Nat} (h12 : P.1 12 = nI a) (hT : TB P B n) (ha : a ≤ n) (v : Int32) : f_X12_isAt P v = some (pbi (pz_at B n a v), P) := by
  obtain ⟨h11, rfl, hn⟩ := hT
  unfold f_X12_isAt pz_at
  rw [h12, h11]
  by_cases h : a < n
  · rw [if_neg (nI_ge h (by omega)), g_t (pin_nI (by omega) (by decide)), nI_clamp (by omega), decide_eq_true h, Bool.true_and]
    by_cases e : P.2 28 a = v
    · rw [if_pos e, decide_eq_true e] <;> rfl
    · rw [if_neg e, decide_eq_false e] <;> rfl
  · rw [if_pos (nI_le (by omega) (by omega)), decide_eq_false h, Bool.false_and] <;> rfl
theorem ev_isLetM {P : PS} {B : Nat → Int32} {a n : Nat} (h12 : P.1 12 = nI a) (hT : TB P B n) (ha : a ≤ n) : f_X12_isLetter P = some (pbi (pz_lt B n a), P) := by
  obtain ⟨h11, rfl, hn⟩ := hT
  unfold f_X12_isLetter pz_lt
  rw [h12, h11]
  by_cases h : a < n
  · rw [if_neg (nI_ge h (by omega)), g_t (pin_nI (by omega) (by decide)), nI_clamp (by omega), decide_eq_true h, Bool.true_and, ev_X12_in, b_some]
    dsimp only
    by_cases e : pwi (P.2 28 a) 97 122 = 0
    · rw [if_pos e, decide_eq_false (fun q => q e)] <;> rfl
    · rw [if_neg e, decide_eq_true e] <;> rfl
  · rw [if_pos (nI_le (by omega) (by omega)), decide_eq_false h, Bool.false_and] <;> rfl
theorem ev_isFigM {P : PS} {B : Nat → Int32} {a n : Nat} (h12 : P.1 12 = nI a) (hT : TB P B n) (ha : a ≤ n) : f_X12_isFigure P = some (pbi (pz_fg B n a), P) := by
  obtain ⟨h11, rfl, hn⟩ := hT
  unfold f_X12_isFigure pz_fg
  rw [h12, h11]
  by_cases h : a < n
  · rw [if_neg (nI_ge h (by omega)), g_t (pin_nI (by omega) (by decide)), nI_clamp (by omega), decide_eq_true h, Bool.true_and, ev_X12_in, b_some]
    dsimp only
    by_cases e : pwi (P.2 28 a) 48 57 = 0
    · rw [if_pos e, decide_eq_false (fun q => q e)] <;> rfl
    · rw [if_neg e, decide_eq_true e] <;> rfl
  · rw [if_pos (nI_le (by omega) (by omega)), decide_eq_false h, Bool.false_and] <;> rfl
/-- how far it goes on -/
def pz_run (p : Nat → Bool) : Nat → Nat → Nat
  | 0, a => a
  | m + 1, a => if p a = true then pz_run p m (a + 1) else a
theorem pz_run_ge (p : Nat → Bool) : ∀ (m a : Nat), a ≤ pz_run p m a := by
  intro m
  induction m with
  | zero => intro a; exact Nat.le_refl _
  | succ m ih =>
    intro a
    rw [pz_run]
    by_cases h : p a = true
    · rw [if_pos h]; exact Nat.le_trans (Nat.le_succ a) (ih (a + 1))
    · rw [if_neg h]; exact Nat.le_refl _
theorem pz_run_le {p : Nat → Bool} {n : Nat} (hp : ∀ a, p a = true → a < n) : ∀ (m a : Nat), a ≤ n → pz_run p m a ≤ n := by
  intro m
  induction m with
  | zero => intro a h; exact h
  | succ m ih =>
    intro a ha
    rw [pz_run]
    by_cases h : p a = true
    · rw [if_pos h]; exact ih (a + 1) (hp a h)
    · rw [if_neg h]; exact ha
theorem ev_runX {S : PS} {B : Nat → Int32} {n : Nat} (hT : TB S B n) (c : Int32) (f : Nat → Int32) (v : Int32) : ∀ (m a fuel : Nat), a + m = n → m < fuel → g_X9_readsWord_5 fuel (tX S a c f) v = some (.inr (tX S (pz_run (pz_lt B n) m a) c f)) := by
  intro m
  induction m with
  | zero =>
    intro a fuel h1 hf
    obtain ⟨fuel, rfl⟩ : ∃ z, fuel = z + 1 := ⟨fuel - 1, by omega⟩
    rw [g_X9_readsWord_5, show (tX S a c f).1 11 = nI n from hT.1, show (tX S a c f).1 12 = nI a from rfl, if_pos (nI_le (by omega) (by have := hT.2.2; omega))] <;> rfl
  | succ m ih =>
    intro a fuel h1 hf
    obtain ⟨fuel, rfl⟩ : ∃ z, fuel = z + 1 := ⟨fuel - 1, by omega⟩
    have hn := hT.2.2
    rw [g_X9_readsWord_5, show (tX S a c f).1 11 = nI n from hT.1, show (tX S a c f).1 12 = nI a from rfl, if_neg (nI_ge (by omega) (by omega)), ev_isLetX (P := tX S a c f) (B := B) (n := n) rfl hT (by omega), b_some, pz_run]
    dsimp only
    by_cases h : pz_lt B n a = true
    · rw [h, pbi_t, if_neg (by decide), if_pos rfl, show (tX S a c f).1 12 = nI a from rfl, nI_1, tX_s12]
      exact ih (a + 1) fuel (by omega) (by omega)
    · rw [Bool.not_eq_true] at h
      rw [h, pbi_f, if_pos rfl, if_neg (by decide)]
theorem ev_runM {T : PS} {B : Nat → Int32} {n : Nat} (hT : TB T B n) (q : Nat) (w u : Nat → Int32) (v : Int32) : ∀ (m a fuel : Nat), a + m = n → m < fuel → g_X12_takesWord_5 fuel (tM T a q w u) v = some (.inr (tM T (pz_run (pz_lt B n) m a) q w u)) := by
  intro m
  induction m with
  | zero =>
    intro a fuel h1 hf
    obtain ⟨fuel, rfl⟩ : ∃ z, fuel = z + 1 := ⟨fuel - 1, by omega⟩
    have h : ¬ pz_lt B n a = true := fun q => by have := pz_lt_n q; omega
    rw [Bool.not_eq_true] at h
    rw [g_X12_takesWord_5, ev_isLetM (P := tM T a q w u) (B := B) (n := n) rfl hT (by omega), b_some, h] <;> rfl
  | succ m ih =>
    intro a fuel h1 hf
    obtain ⟨fuel, rfl⟩ : ∃ z, fuel = z + 1 := ⟨fuel - 1, by omega⟩
    have hn := hT.2.2
    rw [g_X12_takesWord_5, ev_isLetM (P := tM T a q w u) (B := B) (n := n) rfl hT (by omega), b_some, pz_run]
    dsimp only
    by_cases h : pz_lt B n a = true
    · rw [h, pbi_t, if_neg (by decide), if_pos rfl, show (tM T a q w u).1 12 = nI a from rfl, nI_1, tM_s12]
      exact ih (a + 1) fuel (by omega) (by omega)
    · rw [Bool.not_eq_true] at h
      rw [h, pbi_f, if_pos rfl, if_neg (by decide)]
/-- whether a word stands there -/
def pz_wm (B : Nat → Int32) (i s : Nat) : Nat → Nat → Bool
  | 0, _ => true
  | m + 1, j => decide (B (s + j) = pch i j) && pz_wm B i s m (j + 1)
theorem pLen_le (i : Nat) (h : i < 11) : pLen.getD i 0 ≤ 6 := by
  have : ∀ i : Fin 11, pLen.getD i.1 0 ≤ 6 := by decide
  exact this ⟨i, h⟩
theorem ev_wordX {P : PS} {i s : Nat} (hi : i < 11) (hl : s + pLen.getD i 0 ≤ 80) : ∀ (m j fuel : Nat), j + m = pLen.getD i 0 → m < fuel → plp (g_X9_isWord_15 i fuel P (nI s) (nI j)) (fun S9 => some ((1 : Int32), S9)) = some (pbi (pz_wm (P.2 28) i s m j), P) := by
  have hi6 := pLen_le i hi
  intro m
  induction m with
  | zero =>
    intro j fuel h1 hf
    obtain ⟨fuel, rfl⟩ : ∃ z, fuel = z + 1 := ⟨fuel - 1, by omega⟩
    rw [g_X9_isWord_15, if_pos (nI_le (by omega) (by omega))] <;> rfl
  | succ m ih =>
    intro j fuel h1 hf
    obtain ⟨fuel, rfl⟩ : ∃ z, fuel = z + 1 := ⟨fuel - 1, by omega⟩
    rw [g_X9_isWord_15, if_neg (nI_ge (by omega) (by omega)), nI_add, g_t (pin_nI (by omega) (by decide)), g_t (pin_nI (by omega) (by omega)), nI_clamp (by omega), nI_clamp (by omega), pz_wm, nI_1]
    by_cases h : P.2 28 (s + j) = pch i j
    · rw [if_pos h, decide_eq_true h, Bool.true_and]
      exact ih (j + 1) fuel (by omega) (by omega)
    · rw [if_neg h, decide_eq_false h, Bool.false_and] <;> rfl
theorem ev_wordM {P : PS} {i s : Nat} (hi : i < 11) (hl : s + pLen.getD i 0 ≤ 80) : ∀ (m j fuel : Nat), j + m = pLen.getD i 0 → m + 1 < fuel → g_X12_isWord_20 i fuel P (nI s) (nI (s + pLen.getD i 0)) 1 (nI (s + j)) = some (.inr (P, pbi (pz_wm (P.2 28) i s m j))) := by
  have hi6 := pLen_le i hi
  intro m
  induction m with
  | zero =>
    intro j fuel h1 hf
    obtain ⟨fuel, rfl⟩ : ∃ z, fuel = z + 1 := ⟨fuel - 1, by omega⟩
    rw [g_X12_isWord_20, if_neg (by decide), if_pos (nI_le (by omega) (by omega))] <;> rfl
  | succ m ih =>
    intro j fuel h1 hf
    obtain ⟨fuel, rfl⟩ : ∃ z, fuel = z + 1 + 1 := ⟨fuel - 2, by omega⟩
    have e : nI (s + j) - nI s = nI j := by rw [pk_sub (by omega), Nat.add_sub_cancel_left]
    rw [g_X12_isWord_20, if_neg (by decide), if_neg (nI_ge (by omega) (by omega)), e, g_t (pin_nI (by omega) (by decide)), g_t (pin_nI (by omega) (by omega)), nI_clamp (by omega), nI_clamp (by omega), pz_wm, nI_1]
    by_cases h : P.2 28 (s + j) = pch i j
    · rw [if_pos h, decide_eq_true h, Bool.true_and]
      exact ih (j + 1) (fuel + 1) (by omega) (by omega)
    · rw [if_neg h, decide_eq_false h, Bool.false_and, g_X12_isWord_20, if_pos rfl] <;> rfl
def pz_w (B : Nat → Int32) (s e i : Nat) : Bool := decide (e = s + pLen.getD i 0) && pz_wm B i s (pLen.getD i 0) 0
theorem ev_isWordX {P : PS} {s e i : Nat} (hi : i < 11) (hse : s ≤ e) (he : e ≤ 80) : f_X9_isWord P i (nI s) (nI e) = some (pbi (pz_w (P.2 28) s e i), P) := by
  have hi6 := pLen_le i hi
  unfold f_X9_isWord pz_w
  rw [pk_sub hse]
  by_cases h : e = s + pLen.getD i 0
  · rw [if_pos (by rw [h, Nat.add_sub_cancel_left]), decide_eq_true h, Bool.true_and]
    exact ev_wordX hi (by omega) (pLen.getD i 0) 0 pfuel (by omega) (pfuel_gt (by omega))
  · rw [if_neg (fun q => h (by have := (nI_eq (by omega) (by omega)).mp q; omega)), decide_eq_false h, Bool.false_and] <;> rfl
theorem ev_isWordM {P : PS} {s e i : Nat} (hi : i < 11) (hse : s ≤ e) (he : e ≤ 80) : f_X12_isWord P i (nI s) (nI e) = some (pbi (pz_w (P.2 28) s e i), P) := by
  have hi6 := pLen_le i hi
  unfold f_X12_isWord pz_w
  rw [pk_sub hse]
  by_cases h : e = s + pLen.getD i 0
  · have hw := ev_wordM (P := P) hi (s := s) (by omega) (pLen.getD i 0) 0 pfuel (by omega) (pfuel_gt (by omega))
    rw [if_pos (by rw [h, Nat.add_sub_cancel_left]), decide_eq_true h, Bool.true_and, h]
    rw [Nat.add_zero] at hw
    rw [hw, lp_r]
    dsimp only
    rw [g_t (pbi_bit _)]
  · rw [if_neg (fun q => h (by have := (nI_eq (by omega) (by omega)).mp q; omega)), decide_eq_false h, Bool.false_and]
    rw [show pfuel = 4095 + 1 from rfl, g_X12_isWord_20, if_pos rfl, lp_r]
    dsimp only
    rw [g_t (show pbit (0 : Int32) = true from pbi_bit false)] <;> rfl
theorem pstr_ok {β : Type} {i : Nat} (hi : i < 11) (k : Nat → Option β) : pstr (i + 1000) k = k i := by
  unfold pstr
  rw [if_pos ⟨by omega, by omega⟩, Nat.add_sub_cancel]
theorem ev_wordOfX (P : PS) {i : Nat} (hi : i < 5) : f_X9_wordOf P (nI i) = some (i + 1000, P) := by
  have : i = 0 ∨ i = 1 ∨ i = 2 ∨ i = 3 ∨ i = 4 := by omega
  rcases this with rfl | rfl | rfl | rfl | rfl <;> rfl
theorem ev_wordOfM (P : PS) {i : Nat} (hi : i < 5) : f_X12_wordOf P (nI i) = some (i + 1000, P) := by
  have : i = 0 ∨ i = 1 ∨ i = 2 ∨ i = 3 ∨ i = 4 := by omega
  rcases this with rfl | rfl | rfl | rfl | rfl <;> rfl
theorem ev_shapeOf (P : PS) {i : Nat} (hi : i < 5) : f_X9_shapeOf P (nI i) = some (i + 5 + 1000, P) := by
  have : i = 0 ∨ i = 1 ∨ i = 2 ∨ i = 3 ∨ i = 4 := by omega
  rcases this with rfl | rfl | rfl | rfl | rfl <;> rfl
/-- the first that is so -/
def pz_fw (q : Nat → Bool) : Nat → Nat → Nat
  | 0, i => i
  | m + 1, i => if q i = true then i else pz_fw q m (i + 1)
theorem pz_fw_spec (q : Nat → Bool) : ∀ (m i : Nat), i ≤ pz_fw q m i ∧ pz_fw q m i ≤ i + m ∧ (pz_fw q m i < i + m → q (pz_fw q m i) = true) := by
  intro m
  induction m with
  | zero => intro i; exact ⟨Nat.le_refl _, Nat.le_refl _, fun h => absurd h (Nat.lt_irrefl _)⟩
  | succ m ih =>
    intro i
    rw [pz_fw]
    by_cases h : q i = true
    · rw [if_pos h]; exact ⟨Nat.le_refl _, by omega, fun _ => h⟩
    · rw [if_neg h]
      obtain ⟨h1, h2, h3⟩ := ih (i + 1)
      exact ⟨by omega, by omega, fun q => h3 (by omega)⟩
theorem ev_findX {S : PS} {B : Nat → Int32} {n : Nat} (hT : TB S B n) {s e : Nat} (hse : s ≤ e) (he : e ≤ n) (f : Nat → Int32) : ∀ (m i fuel : Nat) (c : Int32), i + m = 5 → m < fuel → (pz_fw (pz_w B s e) m i < 5 ∧ g_X9_readsWord_38 fuel (tX S e c f) (nI s) (nI i) = some (.inl (1, tX S e (nI (pz_fw (pz_w B s e) m i)) f))) ∨ (¬ pz_fw (pz_w B s e) m i < 5 ∧ ∃ c', g_X9_readsWord_38 fuel (tX S e c f) (nI s) (nI i) = some (.inr (tX S e c' f))) := by
  intro m
  induction m with
  | zero =>
    intro i fuel c h1 hf
    obtain ⟨fuel, rfl⟩ : ∃ z, fuel = z + 1 := ⟨fuel - 1, by omega⟩
    refine Or.inr ⟨by rw [pz_fw]; omega, c, ?_⟩
    rw [g_X9_readsWord_38, if_pos (show (4 : Int32) < nI i from nI_lt (a := 4) (b := i) (by omega) (by omega))]
  | succ m ih =>
    intro i fuel c h1 hf
    obtain ⟨fuel, rfl⟩ : ∃ z, fuel = z + 1 := ⟨fuel - 1, by omega⟩
    have hn := hT.2.2
    have hB : (tX S e (nI i) f).2 28 = B := hT.2.1
    have e1 : g_X9_readsWord_38 (fuel + 1) (tX S e c f) (nI s) (nI i) = (if pbi (pz_w B s e i) = 0 then g_X9_readsWord_38 fuel (tX S e (nI i) f) (nI s) (nI (i + 1)) else some (.inl (1, tX S e (nI i) f))) := by
      rw [g_X9_readsWord_38, if_neg (show ¬ (4 : Int32) < nI i from nI_nlt (a := 4) (b := i) (by omega) (by decide)), tX_s13, ev_wordOfX _ (by omega), b_some]
      dsimp only
      rw [pstr_ok (by omega), show (tX S e (nI i) f).1 12 = nI e from rfl, ev_isWordX (by omega) hse (by omega), b_some]
      dsimp only
      rw [hB, nI_1 i]
    rw [e1, pz_fw]
    by_cases h : pz_w B s e i = true
    · rw [if_pos h, h, pbi_t, if_neg (by decide)]
      exact Or.inl ⟨by omega, rfl⟩
    · rw [if_neg h]
      rw [Bool.not_eq_true] at h
      rw [h, pbi_f, if_pos rfl]
      exact ih (i + 1) fuel _ (by omega) (by omega)
theorem ev_findM {P : PS} {B : Nat → Int32} {n : Nat} (hT : TB P B n) {s e : Nat} (hse : s ≤ e) (he : e ≤ n) (h12 : P.1 12 = nI e) : ∀ (m i fuel : Nat), i + m = 5 → m < fuel → g_X12_takesWord_27 fuel P (nI s) (nI i) = some (.inr (P, nI (pz_fw (pz_w B s e) m i))) := by
  intro m
  induction m with
  | zero =>
    intro i fuel h1 hf
    obtain ⟨fuel, rfl⟩ : ∃ z, fuel = z + 1 := ⟨fuel - 1, by omega⟩
    rw [g_X12_takesWord_27, if_pos (show (4 : Int32) < nI i from nI_lt (a := 4) (b := i) (by omega) (by omega))] <;> rfl
  | succ m ih =>
    intro i fuel h1 hf
    obtain ⟨fuel, rfl⟩ : ∃ z, fuel = z + 1 := ⟨fuel - 1, by omega⟩
    have hn := hT.2.2
    have hB : P.2 28 = B := hT.2.1
    rw [g_X12_takesWord_27, if_neg (show ¬ (4 : Int32) < nI i from nI_nlt (a := 4) (b := i) (by omega) (by decide)), ev_wordOfM _ (by omega), b_some]
    dsimp only
    rw [pstr_ok (by omega), h12, ev_isWordM (by omega) hse (by omega), b_some, hB, nI_1, pz_fw]
    dsimp only
    by_cases h : pz_w B s e i = true
    · rw [if_pos h, h, pbi_t, if_neg (by decide)]
    · rw [if_neg h]
      rw [Bool.not_eq_true] at h
      rw [h, pbi_f, if_pos rfl]
      exact ih (i + 1) fuel (by omega) (by omega)
/-- where the word ends, which it is (5: none) -/
def pz_e (B : Nat → Int32) (n a : Nat) : Nat := pz_run (pz_lt B n) (n - a) a
def pz_i (B : Nat → Int32) (n a : Nat) : Nat := pz_fw (pz_w B a (pz_e B n a)) 5 0
theorem pz_e_rng {B : Nat → Int32} {n a : Nat} (ha : a ≤ n) : a ≤ pz_e B n a ∧ pz_e B n a ≤ n := ⟨pz_run_ge _ _ _, pz_run_le (fun _ h => pz_lt_n h) _ _ ha⟩
theorem pz_i_len {B : Nat → Int32} {n a : Nat} (h : pz_i B n a < 5) : a + 3 ≤ pz_e B n a := by
  have h1 := (pz_fw_spec (pz_w B a (pz_e B n a)) 5 0).2.2 h
  have h2 : pz_w B a (pz_e B n a) (pz_i B n a) = true := h1
  unfold pz_w at h2
  rw [Bool.and_eq_true] at h2
  have h3 := of_decide_eq_true h2.1
  have h4 : ∀ i : Fin 5, 3 ≤ pLen.getD i.1 0 := by decide
  have h5 : 3 ≤ pLen.getD (pz_i B n a) 0 := h4 ⟨_, h⟩
  omega
theorem ev_readsWord {S : PS} {B : Nat → Int32} {n : Nat} (hT : TB S B n) {a : Nat} (ha : a ≤ n) (c : Int32) (f : Nat → Int32) : (pz_i B n a < 5 ∧ f_X9_readsWord (tX S a c f) = some (1, tX S (pz_e B n a) (nI (pz_i B n a)) f)) ∨ (¬ pz_i B n a < 5 ∧ ∃ c', f_X9_readsWord (tX S a c f) = some (0, tX S a c' f)) := by
  have hn := hT.2.2
  obtain ⟨r1, r2⟩ := pz_e_rng (B := B) ha
  have e0 : f_X9_readsWord (tX S a c f) = plp (g_X9_readsWord_38 pfuel (tX S (pz_e B n a) c f) (nI a) 0) (fun S_9 => some (0, (pI S_9 12 (nI a)))) := by
    unfold f_X9_readsWord
    rw [ev_runX hT c f _ (n - a) a pfuel (by omega) (pfuel_gt (by omega)), lp_r] <;> rfl
  rw [e0, show (0 : Int32) = nI 0 from rfl]
  rcases ev_findX hT r1 r2 f 5 0 pfuel c (by omega) (pfuel_gt (by omega)) with ⟨h1, h2⟩ | ⟨h1, c', h2⟩
  · refine Or.inl ⟨h1, ?_⟩
    rw [h2, lp_l] <;> rfl
  · refine Or.inr ⟨h1, c', ?_⟩
    rw [h2, lp_r, tX_s12]
theorem ev_takesWord {T : PS} {B : Nat → Int32} {n : Nat} (hT : TB T B n) {a q : Nat} (ha : a ≤ n) (hq : q ≤ a) (w u : Nat → Int32) : (pz_i B n a < 5 ∧ f_X12_takesWord (tM T a q w u) = some (1, tM T (pz_e B n a) q (upd w q (nI (pz_i B n a))) u)) ∨ (¬ pz_i B n a < 5 ∧ f_X12_takesWord (tM T a q w u) = some (0, tM T a q w u)) := by
  have hn := hT.2.2
  obtain ⟨r1, r2⟩ := pz_e_rng (B := B) ha
  have hle : pz_i B n a ≤ 5 := (pz_fw_spec (pz_w B a (pz_e B n a)) 5 0).2.1
  have e0 : f_X12_takesWord (tM T a q w u) = (if nI (pz_i B n a) ≤ (4 : Int32) then (pgd (pin (nI q) 80) (some (1, (pAr (tM T (pz_e B n a) q w u) 35 (upd w (nI q).toNatClampNeg (nI (pz_i B n a))))))) else (some (0, (pI (tM T (pz_e B n a) q w u) 12 (nI a))))) := by
    unfold f_X12_takesWord
    rw [ev_runM hT q w u _ (n - a) a pfuel (by omega) (pfuel_gt (by omega)), lp_r]
    show plp (g_X12_takesWord_27 pfuel (tM T (pz_e B n a) q w u) (nI a) (nI 0)) _ = _
    rw [ev_findM (P := tM T (pz_e B n a) q w u) (B := B) hT r1 r2 rfl 5 0 pfuel (by omega) (pfuel_gt (by omega)), lp_r] <;> rfl
  rw [e0]
  by_cases h : pz_i B n a < 5
  · have := pz_i_len h
    refine Or.inl ⟨h, ?_⟩
    rw [if_pos (show nI (pz_i B n a) ≤ (4 : Int32) from nI_le (a := pz_i B n a) (b := 4) (by omega) (by decide)), g_t (pin_nI (by omega) (by decide)), nI_clamp (by omega), tM_s35]
  · refine Or.inr ⟨h, ?_⟩
    rw [if_neg (show ¬ nI (pz_i B n a) ≤ (4 : Int32) from nI_ge (a := 4) (b := pz_i B n a) (by omega) (by omega)), tM_s12]
