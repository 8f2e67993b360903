/-! THE PURE PART, L: bounds; trim; change -/
theorem radd {x y : Int32} {a b c d : Int} (h1 : rng x a b) (h2 : rng y c d) (hl : -2147483648 ≤ a + c) (hh : b + d ≤ 2147483647) : rng (x + y) (a + c) (b + d) := by
  unfold rng at h1 h2 ⊢
  rw [tadd (by omega) (by omega)]
  omega
theorem rsub {x y : Int32} {a b c d : Int} (h1 : rng x a b) (h2 : rng y c d) (hl : -2147483648 ≤ a - d) (hh : b - c ≤ 2147483647) : rng (x - y) (a - d) (b - c) := by
  unfold rng at h1 h2 ⊢
  rw [tsub (by omega) (by omega)]
  omega
theorem rmulN {x y : Int32} {a b : Int} (h1 : rng x 0 a) (h2 : rng y 0 b) (hh : a * b ≤ 2147483647) : rng (x * y) 0 (a * b) := by
  unfold rng at h1 h2 ⊢
  have q0 : 0 ≤ x.toInt * y.toInt := Int.mul_nonneg h1.1 h2.1
  have q1 : x.toInt * y.toInt ≤ a * b := Int.le_trans (Int.mul_le_mul_of_nonneg_left h2.2 h1.1) (Int.mul_le_mul_of_nonneg_right h1.2 (by omega))
  rw [tmul (by omega) (by omega)]
  omega
theorem rwk {x : Int32} {a b c d : Int} (h : rng x a b) (h1 : c ≤ a) (h2 : b ≤ d) : rng x c d := by
  unfold rng at h ⊢
  omega
theorem psumN {f : Nat → Int32} {c : Int} (hc : 0 ≤ c) (hc2 : c ≤ 4000000) {k : Nat} (hk : k ≤ 20) (h : ∀ j, j < k → rng (f j) 0 c) : rng (psum f k) 0 (k * c) := by
  induction k with
  | zero => show rng 0 _ _; unfold rng; rw [show (0 : Int32).toInt = 0 from rfl]; omega
  | succ k ih =>
    have h1 := ih (by omega) (fun j hj => h j (by omega))
    have h2 := h k (by omega)
    unfold rng at h1 h2 ⊢
    have hk' : (k : Int) * c ≤ 20 * 4000000 := by
      have q1 : (k : Int) * c ≤ 20 * c := Int.mul_le_mul_of_nonneg_right (by omega) hc
      omega
    have e : ((k + 1 : Nat) : Int) * c = (k : Int) * c + c := by rw [show ((k + 1 : Nat) : Int) = (k : Int) + 1 by omega, Int.add_mul, Int.one_mul]
    rw [e]
    show 0 ≤ (psum f k + f k).toInt ∧ (psum f k + f k).toInt ≤ k * c + c
    rw [tadd (by omega) (by omega)]
    omega
theorem rlit (k : Nat) (h : k < 2 ^ 31) : rng (nI k) 0 k := (rng_nI h).mpr ⟨by omega, by omega⟩
theorem pwat_rng {S : PS} (hb : bOK S.1 S.2) {i : Nat} (hi : i < 10) (p : Int32) : rng (pwat S i p) 0 153600 := by
  obtain ⟨d, hd, hd1, hd2⟩ := hb.deep
  obtain ⟨hw, hr⟩ := hb.2.2.2.2.2.1 i hi
  obtain ⟨r, hr0, hr1, hr2, hr3⟩ := rngN hr (by decide)
  unfold pwat
  have e1 : (64 * S.1 1).toInt = 64 * (d : Int) := by rw [t64 hd, nI_toInt (by omega)]; omega
  have e2 : (64 * S.2 1 i).toInt = 64 * (r : Int) := by rw [t64 hr0, nI_toInt (by omega)]; omega
  have h1 : rng (pmax 0 (pmin (64 * S.1 1) p)) 0 3840 := by
    unfold rng
    rw [tmax, tmin, e1]
    show 0 ≤ max 0 (min (64 * (d : Int)) p.toInt) ∧ max 0 (min (64 * (d : Int)) p.toInt) ≤ 3840
    omega
  have h2 : rng (pmax 0 (pmax 0 (pmin (64 * S.1 1) p) - 64 * S.2 1 i)) 0 3840 := by
    have h3 := rsub h1 (show rng (64 * S.2 1 i) 0 1920 by unfold rng; rw [e2]; omega) (by decide) (by decide)
    unfold rng at h3 ⊢
    rw [tmax]
    show 0 ≤ max 0 _ ∧ max 0 _ ≤ _
    omega
  exact rmulN (rwk hw (by decide) (Int.le_refl 40)) h2 (by decide)
theorem pP_rng {S : PS} (hb : bOK S.1 S.2) (b a : Int32) : rng (pP S b a) 0 40000000 := by
  obtain ⟨n, hn, h1, h2⟩ := hb.n
  unfold pP
  rw [pn_n hn h2]
  have h3 := psumN (f := fun i => pwat S i (pdr S a b i) * 2 * nI i) (c := 153600 * 2 * 9) (by decide) (by decide) (k := n) (by omega) (fun j hj => rmulN (rmulN (pwat_rng hb (by omega) _) (rlit 2 (by decide)) (by decide)) (rwk (rlit j (by omega)) (by decide) (by omega)) (by decide))
  exact rwk h3 (by decide) (by omega)
theorem palong_rng {S : PS} (hb : bOK S.1 S.2) : rng (palong S) 0 530000 := by
  obtain ⟨n, hn, h1, h2⟩ := hb.n
  obtain ⟨k, hk, hk16⟩ := hb.k
  unfold palong
  rw [psz_k hk hk16]
  have e : S.1 0 - 1 = nI (n - 1) := by rw [hn]; exact pk_sub (a := n) (b := 1) (by omega)
  have a1 : rng (S.1 2 * (S.1 0 - 1)) 0 (9999 * 9) := rmulN (rwk hb.2.2.1 (by decide) (Int.le_refl _)) (by rw [e]; exact rwk (rlit (n - 1) (by omega)) (by decide) (by omega)) (by decide)
  have a2 := psumN (f := fun g => pw S g * 2 * S.2 5 g) (c := 1260 * 2 * 9) (by decide) (by decide) (k := k) (by omega) (fun j hj => rmulN (rmulN (pw_rng hb hk hk16 hj) (rlit 2 (by decide)) (by decide)) (hb.goods hk hj hk16).2.2.2.1 (by decide))
  have a3 := psumN (f := fun t => S.2 11 t * 2 * S.2 8 t) (c := 999 * 2 * 9) (by decide) (by decide) (k := 4) (by omega) (fun j hj => rmulN (rmulN (hb.tanks hj).2.2.2.1 (rlit 2 (by decide)) (by decide)) (hb.tanks hj).1 (by decide))
  have a4 := radd (radd a1 (rwk a2 (Int.le_refl 0) (show (k : Int) * (1260 * 2 * 9) ≤ 362880 by omega)) (by decide) (by decide)) a3 (by decide) (by decide)
  exact rwk a4 (by decide) (by decide)
theorem poff_rng {S : PS} (hb : bOK S.1 S.2) (b a : Int32) : rng (pP S b a - 64 * palong S) (-40000000) 40000000 := by
  have h1 := rmulN (rlit 64 (by decide)) (palong_rng hb) (by decide)
  exact rwk (rsub (pP_rng hb b a) h1 (by decide) (by decide)) (by decide) (by decide)
theorem poff_ne {S : PS} (hb : bOK S.1 S.2) {b : Int32} : poff S b = -2147483648 ↔ pstart S b (pallW S) = -2 := by
  unfold poff
  by_cases h : pstart S b (pallW S) = -2
  · rw [if_pos h]; exact ⟨fun _ => h, fun _ => rfl⟩
  · rw [if_neg h]
    refine ⟨fun q => ?_, fun q => absurd q h⟩
    have h1 := poff_rng hb b (pstart S b (pallW S))
    rw [q] at h1
    exact absurd h1.1 (by decide)
/-- keys -/
def kLt (S : PS) (b c : Int32) : Prop := (pabs (poff S b)).toInt < (pabs (poff S c)).toInt ∨ ((pabs (poff S b)).toInt = (pabs (poff S c)).toInt ∧ ((pabs b).toInt < (pabs c).toInt ∨ ((pabs b).toInt = (pabs c).toInt ∧ b.toInt < c.toInt)))
def pval (S : PS) (b : Int32) : Prop := ¬ pstart S b (pallW S) = -2
def isBest (S : PS) (P : Int32 → Prop) (r : Option Int32) : Prop := match r with
  | none => ∀ b, P b → ¬ pval S b
  | some b => P b ∧ pval S b ∧ ∀ c, P c → pval S c → ¬ kLt S c b
theorem isBest_one {S : PS} {P Q : Int32 → Prop} (hPQ : ∀ b, P b ↔ Q b) {r r' : Option Int32} (h : isBest S P r) (h' : isBest S Q r') : r = r' := by
  cases r with
  | none =>
    cases r' with
    | none => rfl
    | some c => exact absurd h'.2.1 (h c ((hPQ c).mpr h'.1))
  | some b =>
    cases r' with
    | none => exact absurd h.2.1 (h' b ((hPQ b).mp h.1))
    | some c =>
      have q1 := h.2.2 c ((hPQ c).mpr h'.1) h'.2.1
      have q2 := h'.2.2 b ((hPQ b).mp h.1) h.2.1
      unfold kLt at q1 q2
      have e : b.toInt = c.toInt := by omega
      rw [tinj e]
def eb (t : Nat) : Int32 := if t % 2 = 0 then nI (t / 2) else -(nI (t / 2)) - 1
def em (t : Nat) : Int32 := nI t - 20
theorem eb_rng : ∀ t : Fin 41, -20 ≤ (eb t.1).toInt ∧ (eb t.1).toInt ≤ 20 := by decide +kernel
theorem em_rng : ∀ t : Fin 41, -20 ≤ (em t.1).toInt ∧ (em t.1).toInt ≤ 20 := by decide +kernel
theorem eb_lt : ∀ t : Fin 41, ∀ s : Fin 41, s.1 < t.1 → ((pabs (eb s.1)).toInt < (pabs (eb t.1)).toInt ∨ ((pabs (eb s.1)).toInt = (pabs (eb t.1)).toInt ∧ (eb s.1).toInt < (eb t.1).toInt)) := by decide +kernel
theorem eb_em : ∀ t : Fin 41, ∃ s : Fin 41, eb t.1 = em s.1 := by decide +kernel
theorem em_eb : ∀ t : Fin 41, ∃ s : Fin 41, em t.1 = eb s.1 := by decide +kernel
theorem isBest_skip {S : PS} {P Q : Int32 → Prop} {c : Int32} (hQ : ∀ b, Q b ↔ P b ∨ b = c) (hc : ¬ pval S c) {r : Option Int32} (h : isBest S P r) : isBest S Q r := by
  cases r with
  | none =>
    intro b hb
    rcases (hQ b).mp hb with q | rfl
    · exact h b q
    · exact hc
  | some b =>
    refine ⟨(hQ b).mpr (Or.inl h.1), h.2.1, fun d hd hv => ?_⟩
    rcases (hQ d).mp hd with q | rfl
    · exact h.2.2 d q hv
    · exact absurd hv hc
theorem isBest_first {S : PS} {P Q : Int32 → Prop} {c : Int32} (hQ : ∀ b, Q b ↔ P b ∨ b = c) (hc : pval S c) (h : isBest S P none) : isBest S Q (some c) := by
  refine ⟨(hQ c).mpr (Or.inr rfl), hc, fun d hd hv => ?_⟩
  rcases (hQ d).mp hd with q | rfl
  · exact absurd hv (h d q)
  · unfold kLt; omega
theorem isBest_keep {S : PS} {P Q : Int32 → Prop} {b c : Int32} (hQ : ∀ b, Q b ↔ P b ∨ b = c) (h : isBest S P (some b)) (hk : ¬ kLt S c b) : isBest S Q (some b) := by
  refine ⟨(hQ b).mpr (Or.inl h.1), h.2.1, fun d hd hv => ?_⟩
  rcases (hQ d).mp hd with q | rfl
  · exact h.2.2 d q hv
  · exact hk
theorem isBest_new {S : PS} {P Q : Int32 → Prop} {b c : Int32} (hQ : ∀ b, Q b ↔ P b ∨ b = c) (hc : pval S c) (h : isBest S P (some b)) (hk : kLt S c b) : isBest S Q (some c) := by
  refine ⟨(hQ c).mpr (Or.inr rfl), hc, fun d hd hv q => ?_⟩
  rcases (hQ d).mp hd with q2 | rfl
  · apply h.2.2 d q2 hv
    unfold kLt at hk q ⊢
    omega
  · unfold kLt at q
    omega
def upto (e : Nat → Int32) (t : Nat) : Int32 → Prop := fun b => ∃ s, s < t ∧ b = e s
theorem upto_s (e : Nat → Int32) (t : Nat) : ∀ b, upto e (t + 1) b ↔ upto e t b ∨ b = e t := by
  intro b
  constructor
  · rintro ⟨s, hs, rfl⟩
    by_cases q : s = t
    · exact Or.inr (by rw [q])
    · exact Or.inl ⟨s, by omega, rfl⟩
  · rintro (⟨s, hs, rfl⟩ | rfl)
    · exact ⟨s, by omega, rfl⟩
    · exact ⟨t, by omega, rfl⟩
/-- the state of the search -/
def pY (S : PS) (a b c : Int32) : PS := pI (pI (pI S 14 a) 15 b) 16 c
theorem pY_E (S : PS) (a b c : Int32) : bE S (pY S a b c) := ⟨⟨rfl, rfl, rfl, rfl, rfl⟩, ⟨rfl, rfl, rfl, rfl, rfl, rfl, rfl, rfl⟩, rfl, rfl, rfl, rfl⟩
theorem pY_self (S : PS) : pY S (S.1 14) (S.1 15) (S.1 16) = S := by
  have e : (pY S (S.1 14) (S.1 15) (S.1 16)).1 = S.1 := by
    funext j
    unfold pY
    simp only [pI_1]
    by_cases h : j = 16
    · rw [if_pos h, h]
    · rw [if_neg h]
      by_cases h : j = 15
      · rw [if_pos h, h]
      · rw [if_neg h]
        by_cases h : j = 14
        · rw [if_pos h, h]
        · rw [if_neg h]
  exact ps_ext e (fun k => rfl)
theorem pY_again (S : PS) (a b c a' b' c' : Int32) : pI (pI (pI (pY S a b c) 14 a') 15 b') 16 c' = pY S a' b' c' := by
  have e : (pI (pI (pI (pY S a b c) 14 a') 15 b') 16 c').1 = (pY S a' b' c').1 := by
    funext j
    unfold pY
    simp only [pI_1]
    by_cases h : j = 16
    · simp only [if_pos h]
    · simp only [if_neg h]
      by_cases h1 : j = 15
      · simp only [if_pos h1]
      · simp only [if_neg h1]
        by_cases h2 : j = 14
        · simp only [if_pos h2]
        · simp only [if_neg h2]
  exact ps_ext e (fun k => rfl)
def pfl (r : Option Int32) : Int32 := match r with
  | none => 0
  | some _ => 1
def pgood (S : PS) (r : Option Int32) (a b c : Int32) : Prop := match r with
  | none => True
  | some d => a = d ∧ b = pstart S d (pallW S) ∧ c = poff S d
theorem ev_trimStep {S : PS} (hb : bOK S.1 S.2) {t : Nat} (ht : t < 41) (fuel : Nat) (a b c : Int32) (r : Option Int32) (hr : isBest S (upto eb t) r) (hg : pgood S r a b c) : ∃ r' a' b' c', g_X10_find_10 (fuel + 1) (pY S a b c) (pallW S) (pfl r) (nI t) = g_X10_find_10 fuel (pY S a' b' c') (pallW S) (pfl r') (nI (t + 1)) ∧ isBest S (upto eb (t + 1)) r' ∧ pgood S r' a' b' c' := by
  have hbY : bOK (pY S a b c).1 (pY S a b c).2 := (pY_E S a b c).ok hb
  have hrb : rng (eb t) (-20) 20 := eb_rng ⟨t, ht⟩
  have e1 : f_X0_offOf (pY S a b c) (eb t) = some (poff S (eb t), pY S a b c) := by rw [ev_X0_offOf hbY hrb, poff_eq (pY_E S a b c)]
  have e2 : f_X2_startOf (pI (pY S a b c) 14 (eb t)) (eb t) (pallW S) = some (pstart S (eb t) (pallW S), pI (pY S a b c) 14 (eb t)) := by
    have hE : bE S (pI (pY S a b c) 14 (eb t)) := ⟨⟨rfl, rfl, rfl, rfl, rfl⟩, ⟨rfl, rfl, rfl, rfl, rfl, rfl, rfl, rfl⟩, rfl, rfl, rfl, rfl⟩
    rw [ev_X2_startOf (hE.ok hb) hrb, pstart_eq hE]
  have key : ∀ e0 : Int32, e0 = eb t → ∃ r' a' b' c', pbnd (f_X0_offOf (pY S a b c) e0) (fun r10 S_10 => if r10 = ((-2147483648)) then (g_X10_find_10 fuel S_10 (pallW S) (pfl r) (nI t + 1)) else (if pfl r = (0) then (pbnd (f_X2_startOf (pI S_10 14 e0) e0 (pallW S)) (fun r13 S_13 => g_X10_find_10 fuel (pI (pI S_13 15 r13) 16 r10) (pallW S) 1 (nI t + 1))) else (if (pabs (S_10.1 16)) ≤ (pabs r10) then (g_X10_find_10 fuel S_10 (pallW S) (pfl r) (nI t + 1)) else (pbnd (f_X2_startOf (pI S_10 14 e0) e0 (pallW S)) (fun r15 S_15 => g_X10_find_10 fuel (pI (pI S_15 15 r15) 16 r10) (pallW S) 1 (nI t + 1)))))) = g_X10_find_10 fuel (pY S a' b' c') (pallW S) (pfl r') (nI (t + 1)) ∧ isBest S (upto eb (t + 1)) r' ∧ pgood S r' a' b' c' := by
    intro e0 he
    rw [he, e1, b_some, nI_1]
    dsimp only
    rw [e2, b_some]
    dsimp only
    rw [pY_again]
    by_cases hv : poff S (eb t) = -2147483648
    · rw [if_pos hv]
      exact ⟨r, a, b, c, rfl, isBest_skip (upto_s eb t) (fun q => q ((poff_ne hb).mp hv)) hr, hg⟩
    · rw [if_neg hv]
      have hval : pval S (eb t) := fun q => hv ((poff_ne hb).mpr q)
      cases r with
      | none =>
        rw [if_pos (show pfl none = 0 from rfl)]
        exact ⟨some (eb t), _, _, _, rfl, isBest_first (upto_s eb t) hval hr, rfl, rfl, rfl⟩
      | some d =>
        obtain ⟨g1, g2, g3⟩ := hg
        rw [if_neg (show ¬ pfl (some d) = 0 from by show ¬ (1 : Int32) = 0; decide), show (pY S a b c).1 16 = c from rfl, g3]
        by_cases hle : pabs (poff S d) ≤ pabs (poff S (eb t))
        · rw [if_pos hle]
          refine ⟨some d, a, b, c, by rw [g3], isBest_keep (upto_s eb t) hr ?_, g1, g2, g3⟩
          obtain ⟨s, hs, hd⟩ := hr.1
          have h1 := tle.mp hle
          have h2 := eb_lt ⟨t, ht⟩ ⟨s, by omega⟩ hs
          dsimp only at h2
          rw [← hd] at h2
          unfold kLt
          omega
        · rw [if_neg hle]
          refine ⟨some (eb t), _, _, _, rfl, isBest_new (upto_s eb t) hval hr ?_, rfl, rfl, rfl⟩
          have h1 : ¬ (pabs (poff S d)).toInt ≤ (pabs (poff S (eb t))).toInt := fun q => hle (tle.mpr q)
          unfold kLt
          omega
  rw [g_X10_find_10, if_neg (show ¬ (40 : Int32) < nI t from Int32.not_lt.mpr (nI_le (a := t) (b := 40) (by omega) (by decide)))]
  have e2' : nI t / 2 = nI (t / 2) := pk_div (a := t) (d := 2) (by omega) (by decide) (by decide)
  have e3 : nI (t / 2) * 2 = nI (t / 2 * 2) := pk_mul (t / 2) 2
  have e4 : nI t - nI (t / 2 * 2) = nI (t - t / 2 * 2) := pk_sub (by omega)
  rw [e2', e3, e4]
  by_cases hp : t % 2 = 0
  · rw [if_pos (show nI (t - t / 2 * 2) = 0 by rw [show t - t / 2 * 2 = 0 by omega]; rfl)]
    exact key (nI (t / 2)) (by unfold eb; rw [if_pos hp])
  · rw [if_neg (show ¬ nI (t - t / 2 * 2) = 0 by rw [show t - t / 2 * 2 = 1 by omega]; decide)]
    exact key (-(nI (t / 2)) - 1) (by unfold eb; rw [if_neg hp])
theorem ev_trimX {S : PS} (hb : bOK S.1 S.2) : ∀ (m t fuel : Nat) (a b c : Int32) (r : Option Int32), t + m = 41 → m < fuel → isBest S (upto eb t) r → pgood S r a b c → ∃ r' a' b' c', g_X10_find_10 fuel (pY S a b c) (pallW S) (pfl r) (nI t) = some (.inr (pY S a' b' c', pfl r')) ∧ isBest S (upto eb 41) r' ∧ pgood S r' a' b' c' := by
  intro m
  induction m with
  | zero =>
    intro t fuel a b c r ht hf hr hg
    obtain ⟨fuel, rfl⟩ : ∃ z, fuel = z + 1 := ⟨fuel - 1, by omega⟩
    obtain rfl : t = 41 := by omega
    refine ⟨r, a, b, c, ?_, hr, hg⟩
    rw [g_X10_find_10, if_pos (by decide)]
  | succ m ih =>
    intro t fuel a b c r ht hf hr hg
    obtain ⟨fuel, rfl⟩ : ∃ z, fuel = z + 1 := ⟨fuel - 1, by omega⟩
    obtain ⟨r1, a1, b1, c1, e, h1, h2⟩ := ev_trimStep hb (show t < 41 by omega) fuel a b c r hr hg
    rw [e]
    exact ih (t + 1) fuel a1 b1 c1 r1 (by omega) (by omega) h1 h2
/-- the model's search -/
def q1 (r : Option Int32) : Int32 := match r with
  | none => -2147483648
  | some b => b
def q2 (S : PS) (r : Option Int32) : Int32 := match r with
  | none => 0
  | some b => pstart S b (pallW S)
def q3 (S : PS) (r : Option Int32) : Int32 := match r with
  | none => 0
  | some b => poff S b
theorem ev_X12_isNearer (S T : PS) (c b : Int32) : (f_X12_isNearer T (poff S c) c (poff S b) b = some (0, T) ∧ ¬ kLt S c b) ∨ (f_X12_isNearer T (poff S c) c (poff S b) b = some (1, T) ∧ kLt S c b) := by
  unfold f_X12_isNearer kLt
  by_cases h1 : pabs (poff S c) = pabs (poff S b)
  · rw [if_pos h1, h1]
    by_cases h2 : pabs c = pabs b
    · rw [if_pos h2, h2]
      by_cases h3 : b ≤ c
      · rw [if_pos h3]
        have := tle.mp h3
        exact Or.inl ⟨rfl, by omega⟩
      · rw [if_neg h3]
        have : ¬ b.toInt ≤ c.toInt := fun q => h3 (tle.mpr q)
        exact Or.inr ⟨rfl, by omega⟩
    · rw [if_neg h2]
      have h2' : ¬ (pabs c).toInt = (pabs b).toInt := fun q => h2 (tinj q)
      by_cases h3 : pabs b ≤ pabs c
      · rw [if_pos h3]
        have := tle.mp h3
        exact Or.inl ⟨rfl, by omega⟩
      · rw [if_neg h3]
        have : ¬ (pabs b).toInt ≤ (pabs c).toInt := fun q => h3 (tle.mpr q)
        exact Or.inr ⟨rfl, by omega⟩
  · rw [if_neg h1]
    have h1' : ¬ (pabs (poff S c)).toInt = (pabs (poff S b)).toInt := fun q => h1 (tinj q)
    by_cases h3 : pabs (poff S b) ≤ pabs (poff S c)
    · rw [if_pos h3]
      have := tle.mp h3
      exact Or.inl ⟨rfl, by omega⟩
    · rw [if_neg h3]
      have : ¬ (pabs (poff S b)).toInt ≤ (pabs (poff S c)).toInt := fun q => h3 (tle.mpr q)
      exact Or.inr ⟨rfl, by omega⟩
theorem em_1 (t : Nat) : em t + 1 = em (t + 1) := by
  unfold em
  rw [← nI_1, Int32.sub_eq_add_neg, Int32.sub_eq_add_neg, Int32.add_assoc, Int32.add_comm (-20) 1, ← Int32.add_assoc]
theorem ev_trimM {S : PS} (hb : bOK S.1 S.2) (v1 : Int32) : ∀ (m t fuel : Nat) (r : Option Int32), t + m = 41 → m < fuel → isBest S (upto em t) r → ∃ r', g_X12_trim_24 fuel S v1 (q1 r) (q2 S r) (q3 S r) (em t) = some (.inr (S, q1 r', q2 S r', q3 S r')) ∧ isBest S (upto em 41) r' := by
  intro m
  induction m with
  | zero =>
    intro t fuel r ht hf hr
    obtain ⟨fuel, rfl⟩ : ∃ z, fuel = z + 1 := ⟨fuel - 1, by omega⟩
    obtain rfl : t = 41 := by omega
    refine ⟨r, ?_, hr⟩
    rw [g_X12_trim_24, if_pos (by decide)]
  | succ m ih =>
    intro t fuel r ht hf hr
    obtain ⟨fuel, rfl⟩ : ∃ z, fuel = z + 1 := ⟨fuel - 1, by omega⟩
    have hrb : rng (em t) (-20) 20 := em_rng ⟨t, by omega⟩
    have hlt : ¬ (20 : Int32) < em t := fun q => by
      have := tlt.mp q
      have e20 : (20 : Int32).toInt = 20 := rfl
      have := hrb.2
      omega
    rw [g_X12_trim_24, if_neg hlt, ev_X12_restOf hb hrb, b_some]
    dsimp only
    by_cases hv : pstart S (em t) (pallW S) = -2
    · rw [if_pos hv, em_1]
      exact ih (t + 1) fuel r (by omega) (by omega) (isBest_skip (upto_s em t) (fun q => q hv) hr)
    · have hoff : pP S (em t) (pstart S (em t) (pallW S)) - 64 * palong S = poff S (em t) := by unfold poff; rw [if_neg hv]
      rw [if_neg hv, ev_X12_offBy hb, b_some, hoff, em_1]
      dsimp only
      cases r with
      | none =>
        rw [if_pos (show q1 none = -2147483648 from rfl)]
        exact ih (t + 1) fuel (some (em t)) (by omega) (by omega) (isBest_first (upto_s em t) hv hr)
      | some d =>
        obtain ⟨s, hs, hd⟩ := hr.1
        have hne : ¬ q1 (some d) = -2147483648 := fun q => by
          have h1 := em_rng ⟨s, by omega⟩
          dsimp only at h1
          rw [← hd, show d = -2147483648 from q] at h1
          exact absurd h1.1 (by decide)
        rw [if_neg hne]
        rcases ev_X12_isNearer S S (em t) d with ⟨e, hk⟩ | ⟨e, hk⟩
        · rw [show f_X12_isNearer S (poff S (em t)) (em t) (q3 S (some d)) (q1 (some d)) = _ from e, b_some]
          dsimp only
          rw [if_pos rfl]
          exact ih (t + 1) fuel (some d) (by omega) (by omega) (isBest_keep (upto_s em t) hr hk)
        · rw [show f_X12_isNearer S (poff S (em t)) (em t) (q3 S (some d)) (q1 (some d)) = _ from e, b_some]
          dsimp only
          rw [if_neg (by decide)]
          exact ih (t + 1) fuel (some (em t)) (by omega) (by omega) (isBest_new (upto_s em t) hv hr hk)
theorem isBest_E {S T : PS} (h : bE S T) {P : Int32 → Prop} {r : Option Int32} (hr : isBest T P r) : isBest S P r := by
  have e1 : ∀ b, pval T b ↔ pval S b := fun b => by unfold pval; rw [pstart_eq h, pallW_eq h]
  have e2 : ∀ b c, kLt T b c ↔ kLt S b c := fun b c => by unfold kLt; rw [poff_eq h]
  cases r with
  | none => exact fun b hb q => hr b hb ((e1 b).mpr q)
  | some b => exact ⟨hr.1, (e1 b).mp hr.2.1, fun c hc hv q => hr.2.2 c hc ((e1 c).mpr hv) ((e2 c b).mpr q)⟩
theorem eq_trim : pEq1 Rel f_X11_trim f_X12_trim := by
  intro S T h v
  have hb := h.b
  obtain ⟨k, hk, hk16⟩ := h.x.k
  show pQ _ _
  unfold f_X11_trim f_X12_trim f_X10_find
  refine pQ.bnds (ev_X11_isWithin S v 0 2) (ev_X12_in T v 0 2) rfl (pQ.ite (fun _ => pQ.r h _) (fun h2 => ?_))
  have hn0 : isBest S (upto eb 0) none := by rintro b ⟨s, hs, -⟩; omega
  have hn1 : isBest T (upto em 0) none := by rintro b ⟨s, hs, -⟩; omega
  obtain ⟨r, a', b', c', e1, hr, hg⟩ := ev_trimX h.x 41 0 pfuel (S.1 14) (S.1 15) (S.1 16) none rfl (pfuel_gt (by decide)) hn0 trivial
  obtain ⟨r', e2, hr'⟩ := ev_trimM h.m v 41 0 pfuel none rfl (pfuel_gt (by decide)) hn1
  have er : r = r' := by
    refine isBest_one (fun b => ?_) hr (isBest_E hb hr')
    constructor
    · rintro ⟨s, hs, rfl⟩
      obtain ⟨q, hq⟩ := eb_em ⟨s, hs⟩
      exact ⟨q.1, q.2, hq⟩
    · rintro ⟨s, hs, rfl⟩
      obtain ⟨q, hq⟩ := em_eb ⟨s, hs⟩
      exact ⟨q.1, q.2, hq⟩
  subst er
  rw [pY_self] at e1
  have e1' : g_X10_find_10 pfuel S (pallW S) 0 0 = some (.inr (pY S a' b' c', pfl r)) := e1
  have e2' : g_X12_trim_24 pfuel T v (-2147483648) 0 0 (-20) = some (.inr (T, q1 r, q2 T r, q3 T r)) := e2
  rw [ev_X0_allWeight hk hk16, b_some]
  dsimp only
  rw [e1', e2', lp_r, lp_r]
  have hR : Rel (pY S a' b' c') T := h.same ⟨fun j hj => by unfold pY; rw [pI_out (by omega), pI_out (by omega), pI_out (by omega)], fun j hj => rfl⟩ (sameM.rf T)
  cases r with
  | none =>
    dsimp only
    rw [show pfl none = 0 from rfl, g_t (by decide), b_some, if_pos rfl, show q1 none = -2147483648 from rfl, if_pos rfl]
    exact pQ.r hR _
  | some d =>
    obtain ⟨s, hs, hd⟩ := hr.1
    have hne : ¬ d = -2147483648 := fun q => by
      have h1 := eb_rng ⟨s, by omega⟩
      dsimp only at h1
      rw [← hd, q] at h1
      exact absurd h1.1 (by decide)
    obtain ⟨g1, g2, g3⟩ := hg
    dsimp only
    rw [show pfl (some d) = 1 from rfl, g_t (by decide), b_some, if_neg (show ¬ (1 : Int32) = 0 by decide), show q1 (some d) = d from rfl, if_neg hne]
    refine pQ.ite (fun _ => pQ.re hR ?_) (fun _ => pQ.ite (fun _ => pQ.re hR ?_) (fun _ => pQ.re hR ?_))
    · exact g1.symm
    · show pstart T d (pallW T) = b'
      rw [pstart_eq hb, pallW_eq hb, g2]
    · show poff T d = c'
      rw [poff_eq hb, g3]
