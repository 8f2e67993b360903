/-! THE PURE PART, V: the start -/
def SXv : PS := pAr (pAr (pAr (pAr (pI (pAr (pAr (pI (pI (pI (pI SX0 0 4) 1 20) 2 100) 3 0) 0 (pfil 10 10 (SX0.2 0))) 1 (pfil 10 0 (SX0.2 1))) 4 0) 8 (pfil 4 0 (SX0.2 8))) 9 (pfil 4 0 (SX0.2 9))) 10 (pfil 4 0 (SX0.2 10))) 11 (pfil 4 0 (SX0.2 11))
theorem SX1_v : SX1 = SXv := by
  have e : f_X0_makeAsAtFirst SX0 4 = some (0, SXv) := by
    unfold f_X0_makeAsAtFirst f_X2_makeAsAtFirst f_X8_empty f_X11_held
    rw [pheld2 (by unfold rng; decide)]
    rfl
  unfold SX1
  rw [e]
  rfl
def SMv : PS := pV4 (pV2 (pI (pI (pI (pI (pI SM0 0 4) 1 20) 2 100) 3 0) 4 0) 0) 0
theorem SM1_v : SM1 = SMv := by
  have e : f_X12_anew SM0 4 = some (0, SMv) := by
    unfold f_X12_anew
    rw [show (0 : Int32) = nI 0 from rfl, ev_anew1 10 0 pfuel _ 4 rfl (pfuel_gt (by decide)), lp_r, ev_anew2 4 0 pfuel _ rfl (pfuel_gt (by decide)), lp_r]
    rfl
  unfold SM1
  rw [e]
  rfl
theorem start_rel : Rel SX1 SM3 := by
  unfold SM3
  rw [SX1_v, SM1_v]
  refine ⟨⟨⟨⟨rfl, rfl, rfl, rfl, rfl⟩, ⟨?_, ?_, rfl, rfl, rfl, rfl, rfl, rfl⟩, ?_, ?_, ?_, ?_⟩, ?_⟩, ⟨⟨rfl, Or.inl rfl⟩, fun k hk => ?_, fun k hk => ?_, fun q => ?_⟩, ⟨⟨rfl, rfl, rfl, rfl⟩, fun r hr => ?_⟩, ⟨rfl, rfl⟩, ?_, fun j hj => ?_⟩
  · show pfr 0 10 10 (SX0.2 0) = pfil 10 10 (SX0.2 0)
    rw [pfr_0]
  · show pfr 0 10 0 (SX0.2 1) = pfil 10 0 (SX0.2 1)
    rw [pfr_0]
  · show pfr 0 4 0 (SX0.2 8) = pfil 4 0 (SX0.2 8)
    rw [pfr_0]
  · show pfr 0 4 0 (SX0.2 9) = pfil 4 0 (SX0.2 9)
    rw [pfr_0]
  · show pfr 0 4 0 (SX0.2 10) = pfil 4 0 (SX0.2 10)
    rw [pfr_0]
  · show pfr 0 4 0 (SX0.2 11) = pfil 4 0 (SX0.2 11)
    rw [pfr_0]
  · refine ⟨(by unfold rng; decide : rng (4 : Int32) 2 10), (by unfold rng; decide : rng (20 : Int32) 1 60), (by unfold rng; decide : rng (100 : Int32) 1 9999), (by unfold rng; decide : rng (0 : Int32) 0 1), (by unfold rng; decide : rng (0 : Int32) 0 16), fun j hj => ?_, fun j hj => ?_, fun j k hjk hk => ?_, fun t ht => ?_⟩
    · show rng (pfil 10 10 (SX0.2 0) j) 1 40 ∧ rng (pfil 10 0 (SX0.2 1) j) 0 30
      unfold pfil
      rw [if_pos hj, if_pos hj]
      unfold rng; decide
    · have hj' : (j : Int) < (0 : Int32).toInt := hj
      rw [show (0 : Int32).toInt = 0 from rfl] at hj'
      omega
    · have hj' : (k : Int) < (0 : Int32).toInt := hk
      rw [show (0 : Int32).toInt = 0 from rfl] at hj'
      omega
    · show rng (pfil 4 0 (SX0.2 8) t) 0 9 ∧ rng (pfil 4 0 (SX0.2 9) t) 0 20 ∧ rng (pfil 4 0 (SX0.2 10) t) 0 999 ∧ rng (pfil 4 0 (SX0.2 11) t) 0 999 ∧ (pfil 4 0 (SX0.2 9) t = 0 → pfil 4 0 (SX0.2 11) t = 0)
      unfold pfil
      simp only [if_pos ht]
      unfold rng; decide
  · have : k = 0 ∨ k = 1 ∨ k = 2 ∨ k = 3 ∨ k = 4 := by omega
    rcases this with rfl | rfl | rfl | rfl | rfl <;> rfl
  · have : k = 0 ∨ k = 1 ∨ k = 2 ∨ k = 3 ∨ k = 4 ∨ k = 5 ∨ k = 6 ∨ k = 7 ∨ k = 8 ∨ k = 9 ∨ k = 10 ∨ k = 11 := by omega
    rcases this with rfl | rfl | rfl | rfl | rfl | rfl | rfl | rfl | rfl | rfl | rfl | rfl <;> rfl
  · have q' : (0 : Int32) = 1 := q
    exact absurd q' (by decide)
  · have : r = 0 ∨ r = 1 ∨ r = 2 := by omega
    have h1 : rng (-1 : Int32) (-1) 40 := by unfold rng; decide
    rcases this with rfl | rfl | rfl <;> exact h1
  · exact (by unfold rng; decide : rng (0 : Int32) 0 80)
  · have hj' : (j : Int) < (0 : Int32).toInt := hj
    rw [show (0 : Int32).toInt = 0 from rfl] at hj'
    omega
