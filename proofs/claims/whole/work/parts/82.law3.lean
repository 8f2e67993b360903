/-! FROM THE LAW'S ENTRY: two systems are made, then the loop -/
def SM3 : PS := (pAr (pAr (pAr SM1 24 (upd (SM1.2 24) 0 (-1))) 24 (upd ((pAr SM1 24 (upd (SM1.2 24) 0 (-1))).2 24) 1 (-1))) 24 (upd ((pAr (pAr SM1 24 (upd (SM1.2 24) 0 (-1))) 24 (upd ((pAr SM1 24 (upd (SM1.2 24) 0 (-1))).2 24) 1 (-1))).2 24) 2 (-1)))
theorem pok1 {ci : Nat} {fs : List Value} (h : fs.all (pvk 1) = true) : pokH [.inr (ci, fs)] := fun q hq => by
  rw [List.mem_singleton.mp hq]
  exact h
set_option maxRecDepth 100000 in
theorem whole_of {Rel : PS → PS → Prop} (hok : lw_ok Rel) (hR0 : Rel SX1 SM3) {p : Program} {e : Env} {s : State} {m : MethodId} {below : List Frame} {meth : Method} {c : Code} (l : Launch) {b L : Nat} {xs : Nat → Int32} (hL : L ≤ 3584) (C0 : lw_At p s m meth c b L xs) : W p l e room_1 s m #[Value.ref b] below meth c s.heap [] 0 0 (lw_Z below #[Value.ref b] s) (entryFrame m ([Value.ref b] : List Value).toArray 4) := by
  obtain ⟨hx, hb, hr, hml, hown, hts, hSX, hbl, hlocks, hgv⟩ := id C0
  have htsL : ∀ w ∈ wsL_law, w.before #[Value.ref b] s = true := fun w h => hts w (wsL_law_in w h)
  obtain ⟨D, dA, hK, hAO⟩ := lw_K hts
  obtain ⟨adC, hXC⟩ := lw_pX hts hgv
  have hA : ∀ q : Nat, s.heap.size ≤ q → (fun q : Nat => s.heap.size ≤ q) q := fun _ h => h
  have hS : va_S (fun q : Nat => s.heap.size ≤ q) s.heap s.heap [] := va_S.rf
  have hP : va_P D vwCl [] s.heap := fun k q h => by simp at h
  have hD : va_D (fun q : Nat => s.heap.size ≤ q) [] := ⟨fun i j p q h => by simp at h, fun k q h => by simp at h⟩
  have hl := lv_entry ([.ref b]) (n := 4) (Nat.le_of_ble_eq_true rfl)
  rw [lg_entry_eq]
  generalize (lg_sl ([.ref b]) ++ List.replicate (4 - (lg_sl ([.ref b])).length) Slot.unset).toArray = ls at hl ⊢
  have hl : lv_has ls 4 [(0, .ref b)] := hl
  refine va_new (ci := 11) (fs := [.null, .null, .int 0, .null, .null, .null, .null, .null, .null, .null]) (C := RX11) (T := TX11) (N := 10) hx hb hts inX11 tyX11 tyX11_ok hown (hts (.classLink RL 7 RX11) (by decide +kernel)) (hts (.instantiable RX11 10) (by decide +kernel)) (hts (.initialized RX11) (by decide +kernel)) hK hP hD hS hA rfl (fun j hj => by rcases (show j = 0 ∨ j = 1 ∨ j = 2 ∨ j = 3 ∨ j = 4 ∨ j = 5 ∨ j = 6 ∨ j = 7 ∨ j = 8 ∨ j = 9 by omega) with rfl | rfl | rfl | rfl | rfl | rfl | rfl | rfl | rfl | rfl <;> rfl) (Nat.le_of_ble_eq_true rfl) (Nat.le_of_ble_eq_true rfl) dL_law_0 (fun qX H hP hD hS => ?_)
  refine lv_dup hx hb dL_law_3 rfl ?_
  generalize hadX : va_up adC 0 qX = ad0
  have g0 : ad0 0 = qX := by rw [← hadX]; rfl
  have gag : ∀ k : Nat, 1000 ≤ k → ad0 k = adC k := fun k hk => by
    rw [← hadX]
    show (if k = 0 then qX else adC k) = adC k
    rw [if_neg (by omega)]
  have hw0 : pwd dA ad0 hcX_100 = [(qX, .inr (11, [.null, .null, .int 0, .null, .null, .null, .null, .null, .null, .null]))] := by rw [← g0]; rfl
  have hqX : s.heap.size ≤ qX := hD.2 0 _ rfl
  have hX0 : pX ad0 (fun q => s.heap.size ≤ q) s s.heap := pX_ag (n := 0) (fun k hk => gag k (hk.elim (fun h => absurd h (Nat.not_lt_zero k)) id)) hXC
  have hA1 : ∀ q : Nat, pA ad0 1 H.size q → s.heap.size ≤ q := fun q hq => by
    rcases hq with ⟨k, hk, rfl⟩ | hq
    · rw [show k = 0 by omega, g0]; exact hqX
    · exact Nat.le_trans hS.1 hq
  have hpre : ∀ U : State, U.heap = H → s.WarmedH U.vm → pPrc D dA ad0 [.ref 0] hcX_100 H.size ((.ref qX :: [] : List Value)).toArray U := fun U hU hW => ⟨⟨by rw [← g0]; rfl, by rw [hU], by rw [hU, hw0]; exact hP, va_K.moved hW.alike hK, by rw [hw0]; exact hD.weaken (fun _ _ _ _ => trivial), by rw [hU]; exact hX0.to hW hS.2.1 hA1⟩, va_AOA.moved hW.alike hAO⟩
  refine va_callv (va_runI (As := []) (rest := [.ref qX]) ⟨hx, hb, hml, hown, htsL⟩ (k_X11_init_0 l D dA (pok1 rfl) ad0 H.size) (cwI 0 htsL gL_law_X11_init rfl rfl rfl (htsL (.initialized RX11) (by decide +kernel)) (htsL (.methodLink RL 9 yX11_init) (by decide +kernel)) (htsL (.instanceMethod yX11_init) (by decide +kernel)) rfl (by decide +kernel) ⟨Nat.le_of_ble_eq_true rfl, Nat.le_of_ble_eq_true rfl⟩) ⟨pPrc_blind, hpre⟩ rfl rfl hl.1 rfl (lv_room (Nat.le_of_ble_eq_true rfl)) dL_law_4 ⟨Nat.le_of_ble_eq_true rfl, Nat.le_of_ble_eq_true rfl⟩) hS (fun q _ hq => hA1 q hq) hA1 (fun adX t H1 locs1 ht hvm hpost hB hz hk hS1 => ?_)
  obtain ⟨hP1, hK1, hD1⟩ := hB
  rw [ht] at hP1
  clear hP hD hk hpre hX0 hw0
  have hqX0 : adX 0 = qX := (hpost.1 0 (Or.inl (by decide))).trans g0
  have hXX : pX adX (fun q => s.heap.size ≤ q) s s.heap := pX_ag (n := 0) (fun k hk => ((hpost.1 k (Or.inr (hk.elim (fun h => absurd h (Nat.not_lt_zero k)) id))).trans (gag k (hk.elim (fun h => absurd h (Nat.not_lt_zero k)) id)))) hXC
  have hDX := pD_inj hD1
  rw [hX_len] at hDX
  have hDX2 : va_D (fun q : Nat => s.heap.size ≤ q) (pwd dA adX (hX SX1)) := hD1.weaken (fun k q _ hq => hA1 _ hq)
  refine lv_astore_n (lv' := [(1, .ref qX), (0, .ref b)]) hx hb dL_law_7 rfl hl (by decide) rfl (fun ls hl => ?_)
  refine va_new (ci := 12) (fs := [.int 0, .int 0, .int 0, .int 0, .null, .null, .int 0, .null, .null, .null, .null, .null, .null, .null, .null, .null, .null, .null, .null, .null, .int 0, .null, .int 0, .int 0, .int 0, .null, .null, .null, .null, .int 0, .null, .null]) (C := RX12) (T := TX12) (N := 32) hx hb hts inX12 tyX12 tyX12_ok hown (hts (.classLink RL 10 RX12) (by decide +kernel)) (hts (.instantiable RX12 32) (by decide +kernel)) (hts (.initialized RX12) (by decide +kernel)) hK hP1 hDX2 hS1 hA rfl (fun j hj => by rcases (show j = 0 ∨ j = 1 ∨ j = 2 ∨ j = 3 ∨ j = 4 ∨ j = 5 ∨ j = 6 ∨ j = 7 ∨ j = 8 ∨ j = 9 ∨ j = 10 ∨ j = 11 ∨ j = 12 ∨ j = 13 ∨ j = 14 ∨ j = 15 ∨ j = 16 ∨ j = 17 ∨ j = 18 ∨ j = 19 ∨ j = 20 ∨ j = 21 ∨ j = 22 ∨ j = 23 ∨ j = 24 ∨ j = 25 ∨ j = 26 ∨ j = 27 ∨ j = 28 ∨ j = 29 ∨ j = 30 ∨ j = 31 by omega) with rfl | rfl | rfl | rfl | rfl | rfl | rfl | rfl | rfl | rfl | rfl | rfl | rfl | rfl | rfl | rfl | rfl | rfl | rfl | rfl | rfl | rfl | rfl | rfl | rfl | rfl | rfl | rfl | rfl | rfl | rfl | rfl <;> rfl) (Nat.le_of_ble_eq_true rfl) (Nat.le_of_ble_eq_true rfl) dL_law_8 (fun qM H2 hP2 hD2 hS2 => ?_)
  refine lv_dup hx hb dL_law_11 rfl ?_
  have hlw : (pwd dA adX (hX SX1)).length = 52 := by unfold pwd; rw [List.length_mapIdx, hX_len]
  have hPX : va_P D vwCl (pwd dA adX (hX SX1)) H2 := fun k q hq => hP2 k q (by rw [List.getElem?_append_left (List.getElem?_eq_some_iff.mp hq).1]; exact hq)
  have hlast : (pwd dA adX (hX SX1) ++ [(qM, .inr (12, [.int 0, .int 0, .int 0, .int 0, .null, .null, .int 0, .null, .null, .null, .null, .null, .null, .null, .null, .null, .null, .null, .null, .null, .int 0, .null, .int 0, .int 0, .int 0, .null, .null, .null, .null, .int 0, .null, .null]))])[52]? = some (qM, .inr (12, [.int 0, .int 0, .int 0, .int 0, .null, .null, .int 0, .null, .null, .null, .null, .null, .null, .null, .null, .null, .null, .null, .null, .null, .int 0, .null, .int 0, .int 0, .int 0, .null, .null, .null, .null, .int 0, .null, .null])) := by
    rw [List.getElem?_append_right (Nat.le_of_eq hlw), hlw]
    rfl
  have hPM : va_P D vwCl [(qM, .inr (12, [.int 0, .int 0, .int 0, .int 0, .null, .null, .int 0, .null, .null, .null, .null, .null, .null, .null, .null, .null, .null, .null, .null, .null, .int 0, .null, .int 0, .int 0, .int 0, .null, .null, .null, .null, .int 0, .null, .null]))] H2 := fun k q hq => by
    have hk0 : k = 0 := by
      have := (List.getElem?_eq_some_iff.mp hq).1
      simp at this
      exact this
    subst hk0
    cases hq
    exact hP2 52 _ hlast
  have hqM : s.heap.size ≤ qM := hD2.2 52 _ hlast
  have hne : ∀ i : Nat, i < 52 → adX i ≠ qM := fun i hi e => by
    have h1 : (pwd dA adX (hX SX1) ++ [(qM, .inr (12, [.int 0, .int 0, .int 0, .int 0, .null, .null, .int 0, .null, .null, .null, .null, .null, .null, .null, .null, .null, .null, .null, .null, .null, .int 0, .null, .int 0, .int 0, .int 0, .null, .null, .null, .null, .int 0, .null, .null]))])[i]? = some (adX i, pcc dA adX ((hX SX1)[i]'(by rw [hX_len]; exact hi))) := by
      rw [List.getElem?_append_left (by rw [hlw]; exact hi)]
      exact pwd_get (List.getElem?_eq_getElem (by rw [hX_len]; exact hi))
    have := hD2.1 i 52 _ _ h1 hlast e
    omega
  have hltX : ∀ i : Nat, i < 52 → adX i < H2.size := fun i hi => (hPX i _ (pwd_get (List.getElem?_eq_getElem (by rw [hX_len]; exact hi)))).lt
  generalize hadM : va_up adC 0 qM = ad1
  have g1 : ad1 0 = qM := by rw [← hadM]; rfl
  have gag1 : ∀ k : Nat, 1000 ≤ k → ad1 k = adC k := fun k hk => by
    rw [← hadM]
    show (if k = 0 then qM else adC k) = adC k
    rw [if_neg (by omega)]
  have hw1 : pwd dA ad1 hcM_47 = [(qM, .inr (12, [.int 0, .int 0, .int 0, .int 0, .null, .null, .int 0, .null, .null, .null, .null, .null, .null, .null, .null, .null, .null, .null, .null, .null, .int 0, .null, .int 0, .int 0, .int 0, .null, .null, .null, .null, .int 0, .null, .null]))] := by rw [← g1]; rfl
  have hX1 : pX ad1 (fun q => s.heap.size ≤ q) s s.heap := pX_ag (n := 0) (fun k hk => gag1 k (hk.elim (fun h => absurd h (Nat.not_lt_zero k)) id)) hXC
  have hA2 : ∀ q : Nat, pA ad1 1 H2.size q → s.heap.size ≤ q := fun q hq => by
    rcases hq with ⟨k, hk, rfl⟩ | hq
    · rw [show k = 0 by omega, g1]; exact hqM
    · exact Nat.le_trans hS2.1 hq
  have hDM : va_D (fun _ => True) [(qM, (.inr (12, [.int 0, .int 0, .int 0, .int 0, .null, .null, .int 0, .null, .null, .null, .null, .null, .null, .null, .null, .null, .null, .null, .null, .null, .int 0, .null, .int 0, .int 0, .int 0, .null, .null, .null, .null, .int 0, .null, .null]) : va_E))] := by
    refine ⟨fun i j p q hi hj _ => ?_, fun _ _ _ => trivial⟩
    have h1 := (List.getElem?_eq_some_iff.mp hi).1
    have h2 := (List.getElem?_eq_some_iff.mp hj).1
    simp at h1 h2
    omega
  have hpre1 : ∀ U : State, U.heap = H2 → s.WarmedH U.vm → pPrc D dA ad1 [.ref 0] hcM_47 H2.size ((.ref qM :: [] : List Value)).toArray U := fun U hU hW => ⟨⟨by rw [← g1]; rfl, by rw [hU], by rw [hU, hw1]; exact hPM, va_K.moved hW.alike hK, by rw [hw1]; exact hDM, by rw [hU]; exact hX1.to hW hS2.2.1 hA2⟩, va_AOA.moved hW.alike hAO⟩
  refine va_callv (va_runI (As := []) (rest := [.ref qM]) ⟨hx, hb, hml, hown, htsL⟩ (k_X12_init_0 l D dA (pok1 rfl) ad1 H2.size) (cwI 0 htsL gL_law_X12_init rfl rfl rfl (htsL (.initialized RX12) (by decide +kernel)) (htsL (.methodLink RL 12 yX12_init) (by decide +kernel)) (htsL (.instanceMethod yX12_init) (by decide +kernel)) rfl (by decide +kernel) ⟨Nat.le_of_ble_eq_true rfl, Nat.le_of_ble_eq_true rfl⟩) ⟨pPrc_blind, hpre1⟩ rfl rfl hl.1 rfl (lv_room (Nat.le_of_ble_eq_true rfl)) dL_law_12 ⟨Nat.le_of_ble_eq_true rfl, Nat.le_of_ble_eq_true rfl⟩) hS2 (fun q _ hq => hA2 q hq) hA2 (fun adM t3 H3 locs3 ht3 hvm3 hpost3 hB3 hz3 hk3 hS3 => ?_)
  obtain ⟨hP3, hK3, hD3⟩ := hB3
  rw [ht3] at hP3
  have hqM0 : adM 0 = qM := (hpost3.1 0 (Or.inl (by decide))).trans g1
  have hXM : pX adM (fun q => s.heap.size ≤ q) s s.heap := pX_ag (n := 0) (fun k hk => ((hpost3.1 k (Or.inr (hk.elim (fun h => absurd h (Nat.not_lt_zero k)) id))).trans (gag1 k (hk.elim (fun h => absurd h (Nat.not_lt_zero k)) id)))) hXC
  have hDM3 := pD_inj hD3
  have hlenM : (hM (pAr (pAr (pAr SM1 24 (upd (SM1.2 24) 0 (-1))) 24 (upd ((pAr SM1 24 (upd (SM1.2 24) 0 (-1))).2 24) 1 (-1))) 24 (upd ((pAr (pAr SM1 24 (upd (SM1.2 24) 0 (-1))) 24 (upd ((pAr SM1 24 (upd (SM1.2 24) 0 (-1))).2 24) 1 (-1))).2 24) 2 (-1)))).length = 38 := hM_len _
  rw [hlenM] at hDM3
  have hA3 : ∀ k : Nat, k < 38 → adM k = qM ∨ H2.size ≤ adM k := fun k hk => by
    rcases hDM3.2 k hk with ⟨j, hj, e⟩ | h
    · left
      rw [e, show j = 0 from by change j < 1 at hj; omega, g1]
    · exact Or.inr h
  have hPX3 : va_P D vwCl (pwd dA adX (hX SX1)) H3 := hPX.kept (fun k q hkq => by
    have hlt := (hPX k q hkq).lt
    obtain ⟨k1, k2⟩ := pwd_at hkq
    rw [hX_len] at k1
    refine hk3 q.1 hlt (fun hq => ?_)
    rcases hq with ⟨j, hj, ej⟩ | hq
    · rw [k2, show j = 0 from by change j < 1 at hj; omega, g1] at ej
      exact hne k k1 ej
    · omega)
  refine lv_astore_n (lv' := [(2, .ref qM), (1, .ref qX), (0, .ref b)]) hx hb dL_law_15 rfl hl (by decide) rfl (fun ls hl => ?_)
  refine lv_iconst (v := nI (7 * 0)) hx hb dL_law_16 (by decide) ?_
  refine lv_istore_n (lv' := [(3, .int (nI (7 * 0))), (2, .ref qM), (1, .ref qX), (0, .ref b)]) hx hb dL_law_17 rfl hl (by decide) rfl (fun ls hl => ?_)
  refine W.widen (k := 600000) (n := 7302250) (Nat.le_of_ble_eq_true rfl) (Nat.le_of_ble_eq_true rfl) ?_
  refine law_loop (adX := adX) (adM := adM) (Rel := Rel) ⟨C0, hK, ⟨⟨hDX.1, fun k hk => hA1 _ (hDX.2 k hk)⟩, ⟨hDM3.1, fun k hk => hA2 _ (hDM3.2 k hk)⟩, fun i j hi hj e => ?_⟩, hXX, hXM⟩ hL hok (L + 1) 0 SX1 SM3 (by omega) (by omega) hR0 H3 locs3 ls ⟨hPX3, hP3, hS3⟩ (by unfold lwL; rw [hqX0, hqM0]; exact hl)
  rcases hA3 j hj with h | h
  · exact hne i hi (e.trans h)
  · have := hltX i hi
    omega
