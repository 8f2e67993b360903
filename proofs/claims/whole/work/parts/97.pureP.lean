/-! THE PURE PART, P: a line and its weights -/
def isum (h : Nat → Int) : Nat → Int
  | 0 => 0
  | n + 1 => isum h n + h n
theorem isum_congr {f g : Nat → Int} {k : Nat} (h : ∀ j, j < k → f j = g j) : isum f k = isum g k := by
  induction k with
  | zero => rfl
  | succ k ih =>
    show isum f k + f k = isum g k + g k
    rw [ih (fun j hj => h j (by omega)), h k (by omega)]
theorem isum_nn {f : Nat → Int} {k : Nat} (h : ∀ j, j < k → 0 ≤ f j) : 0 ≤ isum f k := by
  induction k with
  | zero => exact Int.le_refl _
  | succ k ih =>
    have a1 := ih (fun j hj => h j (by omega))
    have a2 := h k (by omega)
    show 0 ≤ isum f k + f k
    omega
theorem isum_mono {f : Nat → Int} {k : Nat} (h : ∀ j, j < k → 0 ≤ f j) (i : Nat) (hi : i ≤ k) : 0 ≤ isum f i ∧ isum f i ≤ isum f k := by
  refine ⟨isum_nn (fun j hj => h j (by omega)), ?_⟩
  induction k with
  | zero => rw [show i = 0 by omega]; exact Int.le_refl _
  | succ k ih =>
    have hk := h k (by omega)
    by_cases e : i = k + 1
    · rw [e]; exact Int.le_refl _
    · have q2 := ih (fun j hj => h j (by omega)) (by omega)
      show isum f i ≤ isum f k + f k
      omega
theorem isum_upd (F G : Nat → Int) {m n : Nat} (hm : m < n) (h : ∀ i, i < n → ¬ i = m → G i = F i) : isum G n = isum F n - F m + G m := by
  induction n with
  | zero => omega
  | succ n ih =>
    show isum G n + G n = isum F n + F n - F m + G m
    by_cases e : m = n
    · have : isum G n = isum F n := isum_congr (fun j hj => h j (by omega) (by omega))
      rw [this, e]
      omega
    · have q1 := ih (by omega) (fun i hi hne => h i (by omega) hne)
      have q2 := h n (by omega) (by omega)
      omega
theorem psum_toInt {f : Nat → Int32} {c : Int} (hc : 0 ≤ c) (hc2 : c ≤ 4000000) {k : Nat} (hk : k ≤ 20) (h : ∀ j, j < k → rng (f j) 0 c) : (psum f k).toInt = isum (fun j => (f j).toInt) k := by
  induction k with
  | zero => rfl
  | succ k ih =>
    have h1 := psumN hc hc2 (k := k) (by omega) (fun j hj => h j (by omega))
    have h2 := h k (by omega)
    have hk' : (k : Int) * c ≤ 20 * 4000000 := by
      have q1 : (k : Int) * c ≤ 20 * c := Int.mul_le_mul_of_nonneg_right (by omega) hc
      omega
    unfold rng at h1 h2
    show (psum f k + f k).toInt = isum (fun j => (f j).toInt) k + (f k).toInt
    rw [tadd (by omega) (by omega), ih (by omega) (fun j hj => h j (by omega))]
/-- the sort keeps sums -/
theorem pin1_sum (key : Nat → Int32) (h : Nat → Int) (j : Nat) : ∀ (m : Nat) (f : Nat → Int32), m ≤ j → isum (fun i => h ((pin1 key j m f).1 i).toNatClampNeg) (j + 1) - h ((pin1 key j m f).1 (pin1 key j m f).2).toNatClampNeg = isum (fun i => h (f i).toNatClampNeg) (j + 1) - h (f m).toNatClampNeg ∧ (pin1 key j m f).2 ≤ j := by
  intro m
  induction m with
  | zero => intro f hm; exact ⟨rfl, hm⟩
  | succ m ih =>
    intro f hm
    rw [pin1]
    by_cases q : key j ≤ key (f m).toNatClampNeg
    · rw [if_pos q]; exact ⟨rfl, hm⟩
    · rw [if_neg q]
      obtain ⟨h1, h2⟩ := ih (upd f (m + 1) (f m)) (by omega)
      refine ⟨?_, h2⟩
      rw [h1]
      have h3 := isum_upd (fun i => h (f i).toNatClampNeg) (fun i => h (upd f (m + 1) (f m) i).toNatClampNeg) (m := m + 1) (n := j + 1) (by omega) (fun i hi hne => by
        show h (upd f (m + 1) (f m) i).toNatClampNeg = _
        rw [upd_at, if_neg hne])
      rw [h3]
      have e1 : upd f (m + 1) (f m) (m + 1) = f m := by rw [upd_at, if_pos rfl]
      have e2 : upd f (m + 1) (f m) m = f m := by rw [upd_at, if_neg (by omega)]
      rw [e1, e2]
      omega
theorem pso_sum (key : Nat → Int32) (h : Nat → Int) {k : Nat} (hk : k < 100) : ∀ (m j : Nat) (f : Nat → Int32), j + m = k → isum (fun i => h (f i).toNatClampNeg) j = isum h j → isum (fun i => h (pso key m j f i).toNatClampNeg) k = isum h k := by
  intro m
  induction m with
  | zero => intro j f hj h0; rw [show k = j by omega]; exact h0
  | succ m ih =>
    intro j f hj h0
    refine ih (j + 1) _ (by omega) ?_
    obtain ⟨h1, h2⟩ := pin1_sum key h j j f (Nat.le_refl j)
    have h3 := isum_upd (fun i => h ((pin1 key j j f).1 i).toNatClampNeg) (fun i => h (upd (pin1 key j j f).1 (pin1 key j j f).2 (nI j) i).toNatClampNeg) (m := (pin1 key j j f).2) (n := j + 1) (by omega) (fun i hi hne => by
      show h (upd (pin1 key j j f).1 (pin1 key j j f).2 (nI j) i).toNatClampNeg = _
      rw [upd_at, if_neg hne])
    rw [h3]
    have e1 : upd (pin1 key j j f).1 (pin1 key j j f).2 (nI j) (pin1 key j j f).2 = nI j := by rw [upd_at, if_pos rfl]
    rw [e1, nI_clamp (by omega), h1]
    show isum (fun i => h (f i).toNatClampNeg) j + h (f j).toNatClampNeg - h (f j).toNatClampNeg + h j = isum h j + h j
    omega
theorem isum_z (h : Nat → Int) : isum h 0 = 0 := rfl
theorem pwr_rng {S : PS} (hb : bOK S.1 S.2) {k : Nat} (hk : S.1 4 = nI k) (hk16 : k ≤ 16) {i : Nat} (hi : i ≤ k) : rng (pwr S i) 1 40000 := by
  have hw : ∀ j, j < k → rng (pw S j) 0 1260 := fun j hj => pw_rng hb hk hk16 hj
  have a1 := psumN (f := pw S) (c := 1260) (by decide) (by decide) (k := k) (by omega) hw
  have t1 := psum_toInt (f := pw S) (c := 1260) (by decide) (by decide) (k := k) (by omega) hw
  have a2 := psumN (f := S.2 11) (c := 999) (by decide) (by decide) (k := 4) (by decide) (fun j hj => (hb.tanks hj).2.2.2.1)
  have a3 := hb.2.2.1
  have eall : (pallW S).toInt = (S.1 2).toInt + isum (fun j => (pw S j).toInt) k + (psum (S.2 11) 4).toInt := by
    unfold pallW
    rw [psz_k hk hk16]
    unfold rng at a1 a2 a3
    have e1 : (S.1 2 + psum (pw S) k).toInt = (S.1 2).toInt + (psum (pw S) k).toInt := tadd (by omega) (by omega)
    rw [tadd (by rw [e1]; omega) (by rw [e1]; omega), e1, t1]
  have hsum : isum (fun i => (pw S (pord S 0 i).toNatClampNeg).toInt) k = isum (fun j => (pw S j).toInt) k := by
    unfold pord
    rw [psz_k hk hk16]
    exact pso_sum (pky S 0) (fun j => (pw S j).toInt) (by omega) k 0 _ (by omega) (by rw [isum_z, isum_z])
  have hnn : ∀ j, j < k → 0 ≤ (pw S (pord S 0 j).toNatClampNeg).toInt := by
    intro j hj
    obtain ⟨c, hc, e⟩ := pord_in hk hk16 0 hj
    rw [e, nI_clamp (by omega)]
    exact (hw c hc).1
  have key : ∀ i, i ≤ k → (pwr S i).toInt = (pallW S).toInt - isum (fun i => (pw S (pord S 0 i).toNatClampNeg).toInt) i := by
    intro i
    induction i with
    | zero => intro _; show (pallW S).toInt = (pallW S).toInt - 0; omega
    | succ i ih =>
      intro hi
      have h1 := ih (by omega)
      have h2 := isum_mono hnn (i + 1) hi
      have h3 := isum_mono hnn i (by omega)
      have h4 := hnn i (by omega)
      have h5 : isum (fun i => (pw S (pord S 0 i).toNatClampNeg).toInt) (i + 1) = isum (fun i => (pw S (pord S 0 i).toNatClampNeg).toInt) i + (pw S (pord S 0 i).toNatClampNeg).toInt := rfl
      unfold rng at a1 a2 a3
      rw [t1] at a1
      show (pwr S i - pw S (pord S 0 i).toNatClampNeg).toInt = _
      rw [tsub (by omega) (by omega), h5]
      omega
  have h2 := isum_mono hnn i hi
  have h3 := key i hi
  unfold rng at a1 a2 a3 ⊢
  rw [t1] at a1
  omega
/-- by halving: the least -/
theorem pbs_spec (W : Nat → Bool) (hm : ∀ a b, a ≤ b → W a = true → W b = true) : ∀ (k lo hi : Nat), lo ≤ hi → hi - lo < 2 ^ k → W hi = true → W (pbs W k lo hi) = true ∧ ∀ c, lo ≤ c → c < pbs W k lo hi → ¬ W c = true := by
  intro k
  induction k with
  | zero =>
    intro lo hi h1 h2 h3
    rw [pbs]
    exact ⟨h3, fun c q1 q2 => by omega⟩
  | succ k ih =>
    intro lo hi h1 h2 h3
    have hpow : 2 ^ (k + 1) = 2 * 2 ^ k := by rw [Nat.pow_succ]; omega
    rw [pbs]
    by_cases hc : hi ≤ lo
    · rw [if_pos hc]; exact ⟨h3, fun c q1 q2 => by omega⟩
    · rw [if_neg hc]
      by_cases hw : W ((lo + hi) / 2) = true
      · rw [if_pos hw]
        exact ih lo _ (by omega) (by omega) hw
      · rw [if_neg hw]
        obtain ⟨q1, q2⟩ := ih ((lo + hi) / 2 + 1) hi (by omega) (by omega) h3
        refine ⟨q1, fun c c1 c2 q => ?_⟩
        by_cases hcm : c ≤ (lo + hi) / 2
        · exact hw (hm c _ hcm q)
        · exact q2 c (by omega) c2 q
theorem pwat_mono {S : PS} (hb : bOK S.1 S.2) {i : Nat} (hi : i < 10) {p q : Int32} (h : p.toInt ≤ q.toInt) : (pwat S i p).toInt ≤ (pwat S i q).toInt := by
  obtain ⟨d, hd, hd1, hd2⟩ := hb.deep
  obtain ⟨hw, hr⟩ := hb.2.2.2.2.2.1 i hi
  obtain ⟨r, hr0, hr1, hr2, hr3⟩ := rngN hr (by decide)
  have e1 : (64 * S.1 1).toInt = 64 * (d : Int) := by rw [t64 hd, nI_toInt (by omega)]; omega
  have e2 : (64 * S.2 1 i).toInt = 64 * (r : Int) := by rw [t64 hr0, nI_toInt (by omega)]; omega
  have e0 : (0 : Int32).toInt = 0 := rfl
  have e3 : ∀ x : Int32, (pmax 0 (pmax 0 (pmin (64 * S.1 1) x) - 64 * S.2 1 i)).toInt = max 0 (max 0 (min (64 * (d : Int)) x.toInt) - 64 * (r : Int)) := by
    intro x
    have q1 : (pmax 0 (pmin (64 * S.1 1) x)).toInt = max 0 (min (64 * (d : Int)) x.toInt) := by rw [tmax, tmin, e1, e0]
    rw [tmax, tsub (by rw [q1, e2]; omega) (by rw [q1, e2]; omega), q1, e2, e0]
  have e4 : ∀ x : Int32, (pwat S i x).toInt = (S.2 0 i).toInt * max 0 (max 0 (min (64 * (d : Int)) x.toInt) - 64 * (r : Int)) := by
    intro x
    obtain ⟨w1, w2⟩ := hw
    have b1 : 0 ≤ max 0 (max 0 (min (64 * (d : Int)) x.toInt) - 64 * (r : Int)) := by omega
    have b2 : max 0 (max 0 (min (64 * (d : Int)) x.toInt) - 64 * (r : Int)) ≤ 3840 := by omega
    have b3 := imul_bd (x := (S.2 0 i).toInt) (y := max 0 (max 0 (min (64 * (d : Int)) x.toInt) - 64 * (r : Int))) (a := 40) (b := 3840) (by omega) w2 (by omega) b2 (by decide)
    unfold pwat
    rw [tmul (by rw [e3]; omega) (by rw [e3]; omega), e3]
  rw [e4, e4]
  exact Int.mul_le_mul_of_nonneg_left (by omega) (by have := hw.1; omega)
theorem pW_rng {S : PS} (hb : bOK S.1 S.2) (b a : Int32) : rng (pW S b a) 0 1536000 := by
  obtain ⟨n, hn, h1, h2⟩ := hb.n
  unfold pW
  rw [pn_n hn h2]
  have h3 := psumN (f := fun i => pwat S i (pdr S a b i)) (c := 153600) (by decide) (by decide) (k := n) (by omega) (fun j hj => pwat_rng hb (by omega) _)
  exact rwk h3 (by decide) (by omega)
theorem isum_le {f g : Nat → Int} {k : Nat} (h : ∀ j, j < k → f j ≤ g j) : isum f k ≤ isum g k := by
  induction k with
  | zero => exact Int.le_refl _
  | succ k ih =>
    have h1 := ih (fun j hj => h j (by omega))
    have h2 := h k (by omega)
    show isum f k + f k ≤ isum g k + g k
    omega
theorem pW_mono {S : PS} (hb : bOK S.1 S.2) {a c : Int32} (h : a.toInt ≤ c.toInt) : (pW S 0 a).toInt ≤ (pW S 0 c).toInt := by
  obtain ⟨n, hn, h1, h2⟩ := hb.n
  unfold pW
  rw [pn_n hn h2, psum_toInt (c := 153600) (by decide) (by decide) (by omega) (fun j hj => pwat_rng hb (by omega) _), psum_toInt (c := 153600) (by decide) (by decide) (by omega) (fun j hj => pwat_rng hb (by omega) _)]
  refine isum_le (fun j hj => ?_)
  rw [pdr_0, pdr_0]
  exact pwat_mono hb (by omega) h
theorem pW_low {S : PS} (hb : bOK S.1 S.2) {a : Int32} (h : a.toInt ≤ 0) : (pW S 0 a).toInt = 0 := by
  obtain ⟨n, hn, h1, h2⟩ := hb.n
  unfold pW
  rw [pn_n hn h2, psum_toInt (c := 153600) (by decide) (by decide) (by omega) (fun j hj => pwat_rng hb (by omega) _)]
  have : isum (fun j => (pwat S j (pdr S a 0 j)).toInt) n ≤ isum (fun j => 0) n := by
    refine isum_le (fun j hj => ?_)
    rw [pdr_0]
    obtain ⟨d, hd, hd1, hd2⟩ := hb.deep
    obtain ⟨hw, hr⟩ := hb.2.2.2.2.2.1 j (by omega)
    obtain ⟨r, hr0, hr1, hr2, hr3⟩ := rngN hr (by decide)
    have e1 : (64 * S.1 1).toInt = 64 * (d : Int) := by rw [t64 hd, nI_toInt (by omega)]; omega
    have e2 : (64 * S.2 1 j).toInt = 64 * (r : Int) := by rw [t64 hr0, nI_toInt (by omega)]; omega
    have e0 : (0 : Int32).toInt = 0 := rfl
    have q1 : (pmax 0 (pmin (64 * S.1 1) a)).toInt = 0 := by rw [tmax, tmin, e1, e0]; omega
    have q2 : pmax 0 (pmax 0 (pmin (64 * S.1 1) a) - 64 * S.2 1 j) = 0 := pmax0n (by rw [tsub (by rw [q1, e2]; omega) (by rw [q1, e2]; omega), q1, e2]; omega)
    unfold pwat
    rw [q2, Int32.mul_zero]
    exact Int.le_refl _
  have z : ∀ m, isum (fun _ => (0 : Int)) m = 0 := by
    intro m
    induction m with
    | zero => rfl
    | succ m ih => show isum (fun _ => (0 : Int)) m + 0 = 0; omega
  have h3 := psum_toInt (f := fun i => pwat S i (pdr S a 0 i)) (c := 153600) (by decide) (by decide) (k := n) (by omega) (fun j hj => pwat_rng hb (by omega) _)
  have h4 := psumN (f := fun i => pwat S i (pdr S a 0 i)) (c := 153600) (by decide) (by decide) (k := n) (by omega) (fun j hj => pwat_rng hb (by omega) _)
  have h5 := h4.1
  rw [h3] at h5
  rw [z] at this
  omega
