/-! THE LAW: what stands outside of the worlds, at its entry -/
def ptm : Nat → Term := fun i => match i with
  | 0 => .string "BoatTrim$Tape" 85
  | 1 => .string "BoatTrim$Tape" 87
  | 2 => .string "BoatTrim$Tape" 89
  | 3 => .string "BoatTrim$Tape" 91
  | 4 => .string "BoatTrim$Tape" 93
  | 5 => .string "BoatTrim$Tape" 95
  | 6 => .string "BoatTrim$Tape" 97
  | 7 => .string "BoatTrim$Tape" 99
  | 8 => .string "BoatTrim$Tape" 101
  | 9 => .string "BoatTrim$Tape" 103
  | _ => .string "BoatTrimModel" 246
abbrev lw_fl : List Cond := flatC (Jvm.Cond.and given_1 narrow_1)
set_option maxRecDepth 1000000 in
theorem lx_ex : ∀ i : Nat, i < 11 → Cond.exactly (ptm i) "java/lang/String" ∈ lw_fl := by decide +kernel
set_option maxRecDepth 1000000 in
theorem lx_co : ∀ i : Nat, i < 11 → Cond.eq (.field (ptm i) "java/lang/String" "coder" "B") (.int 0) ∈ lw_fl := by decide +kernel
set_option maxRecDepth 1000000 in
theorem lx_ar : ∀ i : Nat, i < 11 → Cond.arrayOf (.field (ptm i) "java/lang/String" "value" "[B") .byte ∈ lw_fl := by decide +kernel
set_option maxRecDepth 1000000 in
theorem lx_le : ∀ i : Nat, i < 11 → Cond.eq (.length (.field (ptm i) "java/lang/String" "value" "[B")) (.int (Int32.ofNat (pLen.getD i 0))) ∈ lw_fl := by decide +kernel
set_option maxRecDepth 1000000 in
theorem lx_el : ∀ i : Nat, i < 11 → ∀ j : Nat, j < pLen.getD i 0 → Cond.eq (.elem (.field (ptm i) "java/lang/String" "value" "[B") (.int (Int32.ofNat j))) (.int ((pByt.getD i []).getD j 0)) ∈ lw_fl := by decide +kernel
set_option maxRecDepth 1000000 in
theorem lx_ne : ∀ i : Nat, i < 11 → ∀ j : Nat, j < 11 → i ≠ j → Cond.not (Cond.eq (ptm i) (ptm j)) ∈ lw_fl ∨ Cond.not (Cond.eq (ptm j) (ptm i)) ∈ lw_fl := by decide +kernel
set_option maxRecDepth 1000000 in
theorem lx_nest : ∀ q ∈ pNest, Cond.methodLinkNest q.1 q.2.1 q.2.2 "BoatTrim" ∈ lw_tbl := by decide +kernel
set_option maxRecDepth 1000000 in
theorem lx_sref : ∀ q ∈ pRef, Cond.stringRef q.1 q.2.1 q.2.2.1 ∈ lw_tbl ∧ (Term.string q.1 q.2.1 = ptm q.2.2.2 ∨ Cond.eq (ptm q.2.2.2) (Term.string q.1 q.2.1) ∈ lw_fl) ∧ q.2.2.2 < 11 := by decide +kernel
set_option maxRecDepth 100000 in
theorem lw_pX {b : Nat} {s : State} (hts : ∀ w ∈ lw_tbl, w.before #[Value.ref b] s = true) (hgv : (Jvm.Cond.and given_1 narrow_1).before #[Value.ref b] s = true) : ∃ ad : Nat → Nat, pX ad (fun q => s.heap.size ≤ q) s s.heap := by
  have hs := flat_of_before _ hgv
  have hA : ∀ a : Nat, a < s.heap.size → ¬ (fun q => s.heap.size ≤ q) a := fun a h q => absurd h (Nat.not_lt.mpr q)
  obtain ⟨adK, adV, hS, hev⟩ := vk_Sof (N := 11) (tm := ptm) (len := pLen) (byt := pByt) (A := fun q => s.heap.size ≤ q) (by decide) (fun i hi => hs _ (lx_ex i hi)) (fun i hi => hs _ (lx_co i hi)) (fun i hi => hs _ (lx_ar i hi)) (fun i hi => hs _ (lx_le i hi)) (fun i hi j hj => hs _ (lx_el i hi j hj)) (fun i j hi hj hij => (lx_ne i hi j hj hij).elim (fun h => Or.inl (hs _ h)) (fun h => Or.inr (hs _ h))) hA
  obtain ⟨tU, hU, hUT⟩ := va_Tof (tm := .static "BoatTrim" "UNDER" "[I") (ty := .int) (N := 5) (f := fun j => .int (pUnder j)) (A := fun q => s.heap.size ≤ q) (by decide) (hs _ (by decide +kernel)) (va_eqt (hs _ (by decide +kernel))) (fun j hj => by
    rcases (show j = 0 ∨ j = 1 ∨ j = 2 ∨ j = 3 ∨ j = 4 by omega) with rfl | rfl | rfl | rfl | rfl <;> exact va_eqt (hs _ (by decide +kernel))) hA
  obtain ⟨tS, hSg, hST⟩ := va_Tof (tm := .static "BoatTrim" "KIND_SIGNS" "[C") (ty := .char) (N := 5) (f := fun j => .int (pSigns j)) (A := fun q => s.heap.size ≤ q) (by decide) (hs _ (by decide +kernel)) (va_eqt (hs _ (by decide +kernel))) (fun j hj => by
    rcases (show j = 0 ∨ j = 1 ∨ j = 2 ∨ j = 3 ∨ j = 4 by omega) with rfl | rfl | rfl | rfl | rfl <;> exact va_eqt (hs _ (by decide +kernel))) hA
  have hF := va_Zqof (C := "jdk/internal/util/Preconditions") (n := "SIOOBE_FORMATTER") (d := "Ljava/util/function/BiFunction;") (A := fun q => s.heap.size ≤ q) (hts _ (by decide +kernel)) (hts _ (by decide +kernel)) (hs _ (by decide +kernel)) hA
  have hC := va_Zof (C := "java/lang/String") (n := "COMPACT_STRINGS") (d := "Z") (v := .int 1) (A := fun q => s.heap.size ≤ q) (hts _ (by decide +kernel)) (hts _ (by decide +kernel)) (va_eqt (hs _ (by decide +kernel))) hA
  have hZU := va_Zref (C := "BoatTrim") (n := "UNDER") (d := "[I") (A := fun q => s.heap.size ≤ q) (hts _ (by decide +kernel)) (hts _ (by decide +kernel)) hU hA
  have hZS := va_Zref (C := "BoatTrim") (n := "KIND_SIGNS") (d := "[C") (A := fun q => s.heap.size ≤ q) (hts _ (by decide +kernel)) (hts _ (by decide +kernel)) hSg hA
  obtain ⟨tF, hF⟩ : ∃ tF : Nat, va_Z "jdk/internal/util/Preconditions" "SIOOBE_FORMATTER" "Ljava/util/function/BiFunction;" .null (fun q => s.heap.size ≤ q) s s.heap ∨ va_Z "jdk/internal/util/Preconditions" "SIOOBE_FORMATTER" "Ljava/util/function/BiFunction;" (.ref tF) (fun q => s.heap.size ≤ q) s s.heap := by
    rcases hF with h | ⟨t, h⟩
    · exact ⟨0, Or.inl h⟩
    · exact ⟨t, Or.inr h⟩
  generalize had : (fun k : Nat => if k < 1100 then adK (k - 1000) else if k < 2000 then adV (k - 1100) else if k = 2000 then tU else if k = 2001 then tS else tF) = ad
  have aK : ∀ i, i < 11 → ad (i + 1000) = adK i := fun i hi => by
    rw [← had]
    show (if i + 1000 < 1100 then adK (i + 1000 - 1000) else _) = _
    rw [if_pos (by omega), Nat.add_sub_cancel]
  have aV : ∀ i, i < 11 → ad (i + 1100) = adV i := fun i hi => by
    rw [← had]
    show (if i + 1100 < 1100 then _ else if i + 1100 < 2000 then adV (i + 1100 - 1100) else _) = _
    rw [if_neg (by omega), if_pos (by omega), Nat.add_sub_cancel]
  have aU : ad 2000 = tU := by rw [← had]; rfl
  have aS : ad 2001 = tS := by rw [← had]; rfl
  have aF : ad 2002 = tF := by rw [← had]; rfl
  refine ⟨ad, fun q hq => va_Nw.of rfl (hts _ (lx_nest q hq)), va_Nw.of rfl (hts _ (by decide +kernel)), ⟨fun i hi => ?_, fun i j hi hj e => ?_⟩, fun q hq => ?_, by rw [aU]; exact hZU, by rw [aU]; exact hUT, by rw [aS]; exact hZS, by rw [aS]; exact hST, hC, by rw [aF]; exact hF⟩
  · dsimp only
    rw [aK i hi, aV i hi]
    exact hS.1 i hi
  · dsimp only at e
    rw [aK i hi, aK j hj] at e
    exact hS.2 i j hi hj e
  · obtain ⟨h1, h2, h3⟩ := lx_sref q hq
    rw [aK _ h3]
    refine vk_R.of (hts _ h1) ?_
    rcases h2 with h2 | h2
    · rw [h2]; exact hev _ h3
    · exact va_eqR (hs _ h2) (hev _ h3)
theorem va_AOA.spec {ty : FieldType} {u : State} (h : va_AOA ty u) : ∃ (c : ClassId) (k : Class) (comp : ClassId), u.vm.classes[c]? = some k ∧ k.kind = .array comp (.array ty) ∧ u.vm.findClass ("[" ++ (FieldType.array ty).toString) = some c := by
  unfold va_AOA Cond.before Cond.holds at h
  simp only [Cond.value, beq_iff_eq] at h
  cases hc : u.vm.findClass (FieldType.array ty).toString with
  | none => simp [hc] at h
  | some comp =>
    simp only [hc, Option.bind_some, Option.bind_eq_some_iff, Option.map_eq_some_iff] at h
    obtain ⟨c, hi, k, hk, hb⟩ := h
    cases hkind : k.kind with
    | array component ty2 =>
      rw [hkind] at hb
      simp at hb
      exact ⟨c, k, component, hk, by rw [hkind, hb.1], hb.2⟩
    | _ => rw [hkind] at hb; simp at hb
set_option maxRecDepth 100000 in
/-- the classes and the array classes, at the law's entry -/
theorem lw_K {b : Nat} {s : State} (hts : ∀ w ∈ lw_tbl, w.before #[Value.ref b] s = true) : ∃ (D : va_G) (dA : Nat → ClassId), va_K D vwCl (pT dA) s ∧ va_AOA .int s := by
  obtain ⟨c0, iS0, hKn0⟩ := u_known (C := RX0) (T := TX0) (N := 3) (n := 3) hts inX0 (hts (.instantiable RX0 3) (by decide +kernel))
  obtain ⟨c1, iS1, hKn1⟩ := u_known (C := RX1) (T := TX1) (N := 7) (n := 7) hts inX1 (hts (.instantiable RX1 7) (by decide +kernel))
  obtain ⟨c2, iS2, hKn2⟩ := u_known (C := RX2) (T := TX2) (N := 6) (n := 6) hts inX2 (hts (.instantiable RX2 6) (by decide +kernel))
  obtain ⟨c3, iS3, hKn3⟩ := u_known (C := RX3) (T := TX3) (N := 5) (n := 5) hts inX3 (hts (.instantiable RX3 5) (by decide +kernel))
  obtain ⟨c4, iS4, hKn4⟩ := u_known (C := RX4) (T := TX4) (N := 2) (n := 2) hts inX4 (hts (.instantiable RX4 2) (by decide +kernel))
  obtain ⟨c5, iS5, hKn5⟩ := u_known (C := RX5) (T := TX5) (N := 2) (n := 2) hts inX5 (hts (.instantiable RX5 2) (by decide +kernel))
  obtain ⟨c6, iS6, hKn6⟩ := u_known (C := RX6) (T := TX6) (N := 2) (n := 2) hts inX6 (hts (.instantiable RX6 2) (by decide +kernel))
  obtain ⟨c7, iS7, hKn7⟩ := u_known (C := RX7) (T := TX7) (N := 2) (n := 2) hts inX7 (hts (.instantiable RX7 2) (by decide +kernel))
  obtain ⟨c8, iS8, hKn8⟩ := u_known (C := RX8) (T := TX8) (N := 4) (n := 4) hts inX8 (hts (.instantiable RX8 4) (by decide +kernel))
  obtain ⟨c9, iS9, hKn9⟩ := u_known (C := RX9) (T := TX9) (N := 5) (n := 5) hts inX9 (hts (.instantiable RX9 5) (by decide +kernel))
  obtain ⟨c10, iS10, hKn10⟩ := u_known (C := RX10) (T := TX10) (N := 3) (n := 3) hts inX10 (hts (.instantiable RX10 3) (by decide +kernel))
  obtain ⟨c11, iS11, hKn11⟩ := u_known (C := RX11) (T := TX11) (N := 10) (n := 10) hts inX11 (hts (.instantiable RX11 10) (by decide +kernel))
  obtain ⟨c12, iS12, hKn12⟩ := u_known (C := RX12) (T := TX12) (N := 32) (n := 32) hts inX12 (hts (.instantiable RX12 32) (by decide +kernel))
  obtain ⟨dC, dI, hKc⟩ : ∃ (dC : Nat → ClassId) (dI : Nat → Nat → Nat), ∀ (k : Nat) (q : vw_C), vwCl[k]? = some q → u_Kn s q.1 q.2.1 q.2.2 (dC k) (dI k) := by
    refine ⟨fun k => match k with
      | 0 => c0
      | 1 => c1
      | 2 => c2
      | 3 => c3
      | 4 => c4
      | 5 => c5
      | 6 => c6
      | 7 => c7
      | 8 => c8
      | 9 => c9
      | 10 => c10
      | 11 => c11
      | _ => c12
      , fun k => match k with
      | 0 => iS0
      | 1 => iS1
      | 2 => iS2
      | 3 => iS3
      | 4 => iS4
      | 5 => iS5
      | 6 => iS6
      | 7 => iS7
      | 8 => iS8
      | 9 => iS9
      | 10 => iS10
      | 11 => iS11
      | _ => iS12
      , ?_⟩
    intro k q hq
    match k, hq with
    | 0, hq => cases hq; exact hKn0
    | 1, hq => cases hq; exact hKn1
    | 2, hq => cases hq; exact hKn2
    | 3, hq => cases hq; exact hKn3
    | 4, hq => cases hq; exact hKn4
    | 5, hq => cases hq; exact hKn5
    | 6, hq => cases hq; exact hKn6
    | 7, hq => cases hq; exact hKn7
    | 8, hq => cases hq; exact hKn8
    | 9, hq => cases hq; exact hKn9
    | 10, hq => cases hq; exact hKn10
    | 11, hq => cases hq; exact hKn11
    | 12, hq => cases hq; exact hKn12
    | k + 13, hq => simp [vwCl] at hq
  have hAO : va_AOA .int s := va_AOA.of (hts (.arrayOver (.array .int)) (by decide +kernel))
  obtain ⟨a0, k0, p0, f0, g0, h0⟩ := Cond.arrayClass_spec (hts (.arrayClass .int) (by decide +kernel))
  obtain ⟨a1, k1, p1', f1, g1, h1⟩ := Cond.arrayClass_spec (hts (.arrayClass .byte) (by decide +kernel))
  obtain ⟨a2, k2, p2, f2, g2, h2⟩ := Cond.arrayClass_spec (hts (.arrayClass .char) (by decide +kernel))
  obtain ⟨a3, k3, p3, g3, h3, f3⟩ := va_AOA.spec hAO
  refine ⟨(dC, dI), fun k => match k with
      | 0 => a0
      | 1 => a1
      | 2 => a2
      | _ => a3, ⟨hKc, fun k q hq => ?_⟩, hAO⟩
  match k, hq with
  | 0, hq => cases hq; exact ⟨fun n z => ⟨fun k h => by (cases h), k0, g0, p0, h0⟩, f0⟩
  | 1, hq => cases hq; exact ⟨fun n z => ⟨fun k h => by (cases h), k1, g1, p1', h1⟩, f1⟩
  | 2, hq => cases hq; exact ⟨fun n z => ⟨fun k h => by (cases h), k2, g2, p2, h2⟩, f2⟩
  | 3, hq => cases hq; exact ⟨fun n z => ⟨fun k h => by (cases h), k3, g3, p3, h3⟩, f3⟩
  | k + 4, hq => simp [pT] at hq
