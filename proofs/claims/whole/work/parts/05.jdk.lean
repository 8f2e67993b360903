/-! THE JDK'S OWN: text constants, Arrays.fill, arraycopy with places told as ints -/
def pch (i j : Nat) : Int32 := (pByt.getD i []).getD j 0
def pcpy (sp dp k : Int32) (n0 n1 : Nat) : Bool := !(decide (sp < 0)) && !(decide (dp < 0)) && !(decide (k < 0)) && decide (sp.toNatClampNeg + k.toNatClampNeg ≤ n0) && decide (dp.toNatClampNeg + k.toNatClampNeg ≤ n1)
theorem pcpy_n {sp dp k : Int32} {n0 n1 : Nat} (h : pcpy sp dp k n0 n1 = true) : ¬ sp < 0 ∧ ¬ dp < 0 ∧ ¬ k < 0 ∧ sp.toNatClampNeg + k.toNatClampNeg ≤ n0 ∧ dp.toNatClampNeg + k.toNatClampNeg ≤ n1 := by
  unfold pcpy at h
  simp only [Bool.and_eq_true, Bool.not_eq_true', decide_eq_false_iff_not, decide_eq_true_eq] at h
  exact ⟨h.1.1.1.1, h.1.1.1.2, h.1.1.2, h.1.2, h.2⟩
theorem pnI_self {x : Int32} (h : ¬ x < 0) : nI x.toNatClampNeg = x := by
  obtain ⟨j, hj, rfl⟩ := nI_of h
  rw [nI_clamp hj]
/-- ldc_w of a String constant -/
theorem pldcw {p : Program} {l : Launch} {e : Env} {R : Room} {s : State} {m : MethodId} {args : Array Value} {below : List Frame} {meth : Method} {c : Code} {T : State} {locs : List Loc} {cells slots : Nat}
    (X : Stand p l e R s m args below meth c T locs cells slots) (hexec : p.tables.exec = Jvm.exec) {own text : String} {index : Nat} {a : Addr} (hown : s.vm.findClass own = some m.cls)
    (hconst : (Cond.stringRef own index text).before args s = true) (hev : (Term.string own index).eval args s none [] s = some (.ref a)) {g : JFrame} (hg : g.method = m) (hdg : decode c.code g.pc = .ok (.ldc_w index, 3)) :
    ∀ target, Steps p.tables e below (T.setTop { g with pc := g.pc + 3, stack := .ref a :: g.stack }) target → Steps p.tables e below (T.setTop g) target := by
  obtain ⟨k, cf, i, a', hk, hcf, hcp, -, hr, hev'⟩ := Cond.stringRef_spec hown hconst
  cases hev.symm.trans hev'
  obtain ⟨k', hk', he⟩ := X.warmed.alike.2.2 _ _ hk
  have hr' : k'.resolved[index]? = some (some (.string a)) := by
    rcases X.warmed.entry hk hk' index with h | ⟨h, -⟩
    · rw [h]; exact hr
    · rw [hr] at h; cases h
  intro target hrest
  subst hg
  jvm_step X.here [hexec, hdg, ldc_w.wp_string (e := e) (s := T) (f := g) X.here.top hk' (by rw [he]; exact hcf) hcp hr']
  exact hrest
section EJDK
variable {l : Launch} {D : va_G} {dA : Nat → ClassId} {ad : Nat → Nat} {ws : List Cond} {cc : ByteArray} {own : String} {nL : Nat} {ret : Option FieldType} {d n : Nat} {K : pK} {pc : Nat} {ls : List (Nat × Value)} {st : List Value} {h : List PC}
theorem E_copyC {idx q0 q1 n0 n1 : Nat} {i j k0 : Int32} {f g : Nat → Int32} {h' : List PC} (hlink : Cond.methodLink own idx arraycopyName ∈ ws) (hnat : Cond.native arraycopyName ∈ ws) (hst : Cond.static arraycopyName ∈ ws) (hini : Cond.initialized "java/lang/System" ∈ ws) (he0 : h[q0]? = some (.inl (0, n0, .inl f))) (he1 : h[q1]? = some (.inl (0, n1, .inl g))) (hc : pcpy i j k0 n0 n1 = true) (h6 : n0 < 2 ^ 31) (h7 : n1 < 2 ^ 31) (hd : 1 ≤ d) (h8 : st.length ≤ 8) (h1 : st.all p1 = true) (hdg : decode cc pc = .ok (.invokestatic idx, 3)) (hh : h.set q1 (.inl (0, n1, .inl (va_cpy f g i.toNatClampNeg j.toNatClampNeg k0.toNatClampNeg))) = h') (kk : Ev l D dA ad ws cc own nL ret d n K (pc + 3) ls st h') : Ev l D dA ad ws cc own nL ret d n K pc ls (.int k0 :: .int j :: .ref q1 :: .int i :: .ref q0 :: st) h := by
  obtain ⟨c1, c2, c3, c4, c5⟩ := pcpy_n hc
  have e := E_copy (i := i.toNatClampNeg) (j := j.toNatClampNeg) (k0 := k0.toNatClampNeg) hlink hnat hst hini he0 he1 c4 c5 h6 h7 hd h8 h1 hdg hh kk
  rw [pnI_self c1, pnI_self c2, pnI_self c3] at e
  exact e
theorem E_ldcSw {idx i : Nat} {tx : String} (hm : (own, idx, tx, i) ∈ pRef) (hdg : decode cc pc = .ok (.ldc_w idx, 3)) (kk : Ev l D dA ad ws cc own nL ret d n K (pc + 3) ls (.ref (i + 1000) :: st) h) : Ev l D dA ad ws cc own nL ret d n K pc ls st h := by
  intro p e s m args below meth c H locs lsA E W0
  have k := kk p e s m args below meth c H locs lsA E W0
  obtain ⟨hx, hb, hml, hr, hlk, hown, hts, hKn, hX⟩ := E
  obtain ⟨xn, xf, xs, xr, x1, x2, x3, x4, x5, x6⟩ := hX
  have hZ := xr _ hm
  intro T hT X
  obtain ⟨t, a1, b1⟩ := k T hT X
  exact ⟨t, pldcw X hx hown (text := tx) (a := ad (i + 1000)) hZ.1 hZ.2 (g := F0 m pc lsA (st.map (pcv ad))) rfl (by rw [hb]; exact hdg) t a1, b1⟩
end EJDK
theorem mf_J0_coder_7d493 : pMF yJ0_coder_7d493 wsJ0_coder_7d493 cJ0_coder_7d493 1 (some .byte) 0 := ⟨⟨_, rfl⟩, by decide +kernel, by decide, by decide +kernel, by decide +kernel, by decide +kernel⟩
theorem mf_J0_length_8abf5 : pMF yJ0_length_8abf5 wsJ0_length_8abf5 cJ0_length_8abf5 1 (some .int) 0 := ⟨⟨_, rfl⟩, by decide +kernel, by decide, by decide +kernel, by decide +kernel, by decide +kernel⟩
theorem mf_J0_charAt_5068e : pMF yJ0_charAt_5068e wsJ0_charAt_5068e cJ0_charAt_5068e 2 (some .char) 1 := ⟨⟨_, rfl⟩, by decide +kernel, by decide, by decide +kernel, by decide +kernel, by decide +kernel⟩
theorem mf_J0_isLatin1_aae02 : pMF yJ0_isLatin1_aae02 wsJ0_isLatin1_aae02 cJ0_isLatin1_aae02 1 (some .boolean) 0 := ⟨⟨_, rfl⟩, by decide +kernel, by decide, by decide +kernel, by decide +kernel, by decide +kernel⟩
theorem mf_J1_charAt_3b067 : pMF yJ1_charAt_3b067 wsJ1_charAt_3b067 cJ1_charAt_3b067 2 (some .char) 2 := ⟨⟨_, rfl⟩, by decide +kernel, by decide, by decide +kernel, by decide +kernel, by decide +kernel⟩
theorem mf_J0_checkIndex_df160 : pMF yJ0_checkIndex_df160 wsJ0_checkIndex_df160 cJ0_checkIndex_df160 2 none 2 := ⟨⟨_, rfl⟩, by decide +kernel, by decide, by decide +kernel, by decide +kernel, by decide +kernel⟩
theorem mf_J3_checkIndex_8e157 : pMF yJ3_checkIndex_8e157 wsJ3_checkIndex_8e157 cJ3_checkIndex_8e157 3 (some .int) 3 := ⟨⟨_, rfl⟩, by decide +kernel, by decide, by decide +kernel, by decide +kernel, by decide +kernel⟩
theorem mf_J7_fill_53178 : pMF yJ7_fill_53178 wsJ7_fill_53178 cJ7_fill_53178 4 none 2 := ⟨⟨_, rfl⟩, by decide +kernel, by decide, by decide +kernel, by decide +kernel, by decide +kernel⟩
section CJDK
variable (l : Launch) (D : va_G) (dA : Nat → ClassId) (ad : Nat → Nat)
theorem c_J0_coder {i : Nat} (hi : i < 11) (h : List PC) : CtI l D dA ad yJ0_coder_7d493 wsJ0_coder_7d493 0 [.ref (i + 1000)] h (fun r h' => r = 0 ∧ h' = h) := by
  refine CtI_of mf_J0_coder_7d493 rfl (by rfl) (Nat.le_of_ble_eq_true rfl) rfl rfl ?_
  refine E_compact (by decide +kernel) dJ0_coder_7d493_0 ?_
  refine E_if_eq (tgt := 13) dJ0_coder_7d493_3 (by decide) (fun c => absurd c (by decide)) (fun _ => ?_)
  refine E_aload_n dJ0_coder_7d493_6 rfl ?_
  refine E_strcod hi (by decide +kernel) dJ0_coder_7d493_7 ?_
  refine E_goto (tgt := 14) dJ0_coder_7d493_10 (by decide) ?_
  exact E_zret rfl dJ0_coder_7d493_14 (by decide) ⟨rfl, rfl⟩
theorem c_J0_length_8abf5 {i : Nat} (hi : i < 11) (h : List PC) : CtI l D dA ad yJ0_length_8abf5 wsJ0_length_8abf5 1 [.ref (i + 1000)] h (fun r h' => r = nI (pLen.getD i 0) ∧ h' = h) := by
  refine CtI_of mf_J0_length_8abf5 rfl (by rfl) (Nat.le_of_ble_eq_true rfl) rfl rfl ?_
  refine E_aload_n dJ0_length_8abf5_0 rfl ?_
  refine E_strval hi (by decide +kernel) dJ0_length_8abf5_1 ?_
  refine E_strlen hi dJ0_length_8abf5_4 ?_
  refine E_aload_n dJ0_length_8abf5_5 rfl ?_
  refine E_callVI (st := [.int (nI (pLen.getD i 0))]) (c_J0_coder l D dA ad hi h) mf_J0_coder_7d493 rfl rfl gJ0_length_8abf5_J0_coder_7d493 (Or.inr ⟨i, hi, rfl, rfl⟩) (by decide) rfl (Nat.le_of_ble_eq_true rfl) (by rfl) dJ0_length_8abf5_6 (fun r h' q => ?_)
  obtain ⟨rfl, rfl⟩ := q
  refine E_ishr dJ0_length_8abf5_9 ?_
  refine E_iret rfl dJ0_length_8abf5_10 ⟨?_, rfl⟩
  exact sb_shr0 _
theorem c_J0_isLatin1 {i : Nat} (hi : i < 11) (h : List PC) : CtI l D dA ad yJ0_isLatin1_aae02 wsJ0_isLatin1_aae02 0 [.ref (i + 1000)] h (fun r h' => r = 1 ∧ h' = h) := by
  refine CtI_of mf_J0_isLatin1_aae02 rfl (by rfl) (Nat.le_of_ble_eq_true rfl) rfl rfl ?_
  refine E_compact (by decide +kernel) dJ0_isLatin1_aae02_0 ?_
  refine E_if_eq (tgt := 17) dJ0_isLatin1_aae02_3 (by decide) (fun c => absurd c (by decide)) (fun _ => ?_)
  refine E_aload_n dJ0_isLatin1_aae02_6 rfl ?_
  refine E_strcod hi (by decide +kernel) dJ0_isLatin1_aae02_7 ?_
  refine E_if_ne (tgt := 17) dJ0_isLatin1_aae02_10 (by decide) (fun c => absurd rfl c) (fun _ => ?_)
  refine E_iconst (v := 1) dJ0_isLatin1_aae02_13 (by decide) ?_
  refine E_goto (tgt := 18) dJ0_isLatin1_aae02_14 (by decide) ?_
  exact E_zret rfl dJ0_isLatin1_aae02_18 (by decide) ⟨rfl, rfl⟩
theorem c_J3_checkIndex (a b : Nat) (hab : a < b) (hb : b < 2 ^ 31) (z : Value) (hz : p1 z = true) (h : List PC) : CtI l D dA ad yJ3_checkIndex_8e157 wsJ3_checkIndex_8e157 0 [.int (nI a), .int (nI b), z] h (fun r h' => r = nI a ∧ h' = h) := by
  refine CtI_of (ls := [(0, .int (nI a)), (1, .int (nI b)), (2, z)]) mf_J3_checkIndex_8e157 rfl (by show (p1 z && true) = true; rw [hz]; rfl) (Nat.le_refl 3) rfl rfl ?_
  refine E_iload_n dJ3_checkIndex_8e157_0 rfl ?_
  refine E_if_lt (tgt := 9) dJ3_checkIndex_8e157_1 (by decide) (fun c => absurd c (nI_pos (by omega))) (fun _ => ?_)
  refine E_iload_n dJ3_checkIndex_8e157_4 rfl ?_
  refine E_iload_n dJ3_checkIndex_8e157_5 rfl ?_
  refine E_icmp_lt (tgt := 16) dJ3_checkIndex_8e157_6 (by decide) (fun _ => ?_) (fun c => absurd (nI_lt hab hb) c)
  refine E_iload_n dJ3_checkIndex_8e157_16 rfl ?_
  exact E_iret rfl dJ3_checkIndex_8e157_17 ⟨rfl, rfl⟩
theorem c_J0_checkIndex (a b : Nat) (hab : a < b) (hb : b < 2 ^ 31) (h : List PC) : CtV l D dA ad yJ0_checkIndex_df160 wsJ0_checkIndex_df160 1 [.int (nI a), .int (nI b)] h (fun h' => h' = h) := by
  refine CtV_of mf_J0_checkIndex_df160 rfl (by rfl) (Nat.le_of_ble_eq_true rfl) rfl rfl ?_
  refine E_iload_n dJ0_checkIndex_df160_0 rfl ?_
  refine E_iload_n dJ0_checkIndex_df160_1 rfl ?_
  refine E_formatter (by decide +kernel) dJ0_checkIndex_df160_2 ?_ ?_
  · refine E_callSI (st := []) (c_J3_checkIndex l D dA ad a b hab hb .null rfl h) mf_J3_checkIndex_8e157 rfl gJ0_checkIndex_df160_J3_checkIndex_8e157 (by decide) rfl (Nat.le_of_ble_eq_true rfl) (by rfl) dJ0_checkIndex_df160_5 (fun r h' q => ?_)
    obtain ⟨rfl, rfl⟩ := q
    refine E_pop dJ0_checkIndex_df160_8 rfl ?_
    exact E_vret rfl dJ0_checkIndex_df160_9 rfl
  · refine E_callSI (st := []) (c_J3_checkIndex l D dA ad a b hab hb (.ref 2002) rfl h) mf_J3_checkIndex_8e157 rfl gJ0_checkIndex_df160_J3_checkIndex_8e157 (by decide) rfl (Nat.le_of_ble_eq_true rfl) (by rfl) dJ0_checkIndex_df160_5 (fun r h' q => ?_)
    obtain ⟨rfl, rfl⟩ := q
    refine E_pop dJ0_checkIndex_df160_8 rfl ?_
    exact E_vret rfl dJ0_checkIndex_df160_9 rfl
theorem pLen_lt : ∀ i : Nat, i < 11 → pLen.getD i 0 < 2 ^ 31 := by decide +kernel
theorem pch_ok : ∀ i : Nat, i < 11 → ∀ j : Nat, j < pLen.getD i 0 → ((pch i j &&& 255).toUInt32 % 65536).toInt32 = pch i j ∧ pchr (pch i j) = true := by decide +kernel
theorem c_J1_charAt {i j : Nat} (hi : i < 11) (hj : j < pLen.getD i 0) (h : List PC) : CtI l D dA ad yJ1_charAt_3b067 wsJ1_charAt_3b067 2 [.ref (i + 1100), .int (nI j)] h (fun r h' => r = pch i j ∧ h' = h) := by
  have hL := pLen_lt i hi
  obtain ⟨e1, e2⟩ := pch_ok i hi j hj
  refine CtI_of mf_J1_charAt_3b067 rfl (by rfl) (Nat.le_of_ble_eq_true rfl) rfl rfl ?_
  refine E_iload_n dJ1_charAt_3b067_0 rfl ?_
  refine E_aload_n dJ1_charAt_3b067_1 rfl ?_
  refine E_strlen hi dJ1_charAt_3b067_2 ?_
  refine E_callSV (st := []) (c_J0_checkIndex l D dA ad j _ hj hL h) mf_J0_checkIndex_df160 rfl gJ1_charAt_3b067_J0_checkIndex_df160 (by decide) rfl (Nat.le_of_ble_eq_true rfl) (by rfl) dJ1_charAt_3b067_3 (fun h' q => ?_)
  obtain rfl := q
  refine E_aload_n dJ1_charAt_3b067_6 rfl ?_
  refine E_iload_n dJ1_charAt_3b067_7 rfl ?_
  refine E_strld hi hj (by omega) dJ1_charAt_3b067_8 ?_
  refine E_sipush (v := 255) dJ1_charAt_3b067_9 (by decide) ?_
  refine E_iand dJ1_charAt_3b067_12 ?_
  refine E_i2c dJ1_charAt_3b067_13 ?_
  refine E_val (y := pch i j) e1 ?_
  exact E_zret rfl dJ1_charAt_3b067_14 (pchr_n e2) ⟨rfl, rfl⟩
theorem c_J0_charAt_5068e {i : Nat} (hi : i < 11) (h : List PC) (x : Int32) (hx : vp_in x (pLen.getD i 0)) : CtI l D dA ad yJ0_charAt_5068e wsJ0_charAt_5068e 3 [.ref (i + 1000), .int x] h (fun r h' => r = pch i x.toNatClampNeg ∧ h' = h) := by
  have hL := pLen_lt i hi
  obtain ⟨j, hj, rfl⟩ := vp_in_of hx hL
  rw [nI_clamp (by omega)]
  obtain ⟨e1, e2⟩ := pch_ok i hi j hj
  refine CtI_of mf_J0_charAt_5068e rfl (by rfl) (Nat.le_of_ble_eq_true rfl) rfl rfl ?_
  refine E_aload_n dJ0_charAt_5068e_0 rfl ?_
  refine E_callVI (st := []) (c_J0_isLatin1 l D dA ad hi h) mf_J0_isLatin1_aae02 rfl rfl gJ0_charAt_5068e_J0_isLatin1_aae02 (Or.inr ⟨i, hi, rfl, rfl⟩) (by decide) rfl (Nat.le_of_ble_eq_true rfl) (by rfl) dJ0_charAt_5068e_1 (fun r h' q => ?_)
  obtain ⟨rfl, rfl⟩ := q
  refine E_if_eq (tgt := 16) dJ0_charAt_5068e_4 (by decide) (fun c => absurd c (by decide)) (fun _ => ?_)
  refine E_aload_n dJ0_charAt_5068e_7 rfl ?_
  refine E_strval hi (by decide +kernel) dJ0_charAt_5068e_8 ?_
  refine E_iload_n dJ0_charAt_5068e_11 rfl ?_
  refine E_callSI (st := []) (c_J1_charAt l D dA ad hi hj h') mf_J1_charAt_3b067 rfl gJ0_charAt_5068e_J1_charAt_3b067 (by decide) rfl (Nat.le_of_ble_eq_true rfl) (by rfl) dJ0_charAt_5068e_12 (fun r h'' q => ?_)
  obtain ⟨rfl, rfl⟩ := q
  exact E_zret rfl dJ0_charAt_5068e_15 (pchr_n e2) ⟨rfl, rfl⟩
theorem pset_set {h : List PC} {q : Nat} {a b : PC} : (h.set q a).set q b = h.set q b := List.set_set ..
theorem c_J7_fill_53178 {h : List PC} {q0 n0 : Nat} {f : Nat → Int32} {v : Int32} (he : h[q0]? = some (.inl (0, n0, .inl f))) (hn : n0 < 2 ^ 31) : CtV l D dA ad yJ7_fill_53178 wsJ7_fill_53178 0 [.ref q0, .int v] h (fun h' => h' = h.set q0 (.inl (0, n0, .inl (pfil n0 v f)))) := by
  refine CtV_of mf_J7_fill_53178 rfl (by rfl) (Nat.le_of_ble_eq_true rfl) rfl rfl ?_
  refine E_iconst (v := 0) dJ7_fill_53178_0 (by decide) ?_
  refine E_istore_n (ls' := [(0, .ref q0), (1, .int v), (2, .int 0)]) dJ7_fill_53178_1 (by decide) rfl ?_
  refine E_aload_n dJ7_fill_53178_2 rfl ?_
  refine E_alen dJ7_fill_53178_3 he (by decide) ?_
  refine E_istore_n (ls' := [(0, .ref q0), (1, .int v), (2, .int 0), (3, .int (nI n0))]) dJ7_fill_53178_4 (by decide) rfl ?_
  have hql : q0 < h.length := (List.getElem?_eq_some_iff.mp he).1
  have loop : ∀ (m i : Nat) (g : Nat → Int32), i + m = n0 → (∀ j, j < i → g j = v) → (∀ j, i ≤ j → g j = f j) → Ev l D dA ad wsJ7_fill_53178 cJ7_fill_53178 RJ7 4 none 0 h.length (pKv D dA ad h.length (fun h' => h' = h.set q0 (.inl (0, n0, .inl (pfil n0 v f))))) 5 [(0, .ref q0), (1, .int v), (2, .int (nI i)), (3, .int (nI n0))] [] (h.set q0 (.inl (0, n0, .inl g))) := by
    intro m
    induction m with
    | zero =>
      intro i g hi h1 h2
      refine E_iload_n dJ7_fill_53178_5 rfl ?_
      refine E_iload_n dJ7_fill_53178_6 rfl ?_
      refine E_icmp_ge (tgt := 20) dJ7_fill_53178_7 (by decide) (fun _ => ?_) (fun c => absurd (nI_le (by omega) (by omega)) c)
      refine E_vret rfl dJ7_fill_53178_20 ?_
      have e : g = pfil n0 v f := funext fun j => by
        unfold pfil
        by_cases hj : j < n0
        · rw [if_pos hj]; exact h1 j (by omega)
        · rw [if_neg hj]; exact h2 j (by omega)
      rw [e]
    | succ m ih =>
      intro i g hi h1 h2
      refine E_iload_n dJ7_fill_53178_5 rfl ?_
      refine E_iload_n dJ7_fill_53178_6 rfl ?_
      refine E_icmp_ge (tgt := 20) dJ7_fill_53178_7 (by decide) (fun c => absurd c (nI_ge (by omega) (by omega))) (fun _ => ?_)
      refine E_aload_n dJ7_fill_53178_10 rfl ?_
      refine E_iload_n dJ7_fill_53178_11 rfl ?_
      refine E_iload_n dJ7_fill_53178_12 rfl ?_
      refine E_iastN (n0 := n0) (f := g) (h' := h.set q0 (.inl (0, n0, .inl (upd g i v)))) dJ7_fill_53178_13 (by rw [List.getElem?_set_self hql]) (by omega) hn pset_set ?_
      refine E_iinc (v := nI (i + 1)) (ls' := [(0, .ref q0), (1, .int v), (2, .int (nI (i + 1))), (3, .int (nI n0))]) dJ7_fill_53178_14 rfl (nI_1 i) (by decide) rfl ?_
      refine E_goto (tgt := 5) dJ7_fill_53178_17 (by decide) ?_
      exact ih (i + 1) (upd g i v) (by omega) (fun j hj => by
        unfold upd
        by_cases e : j = i
        · rw [if_pos e]
        · rw [if_neg e]; exact h1 j (by omega)) (fun j hj => by
        unfold upd
        rw [if_neg (by omega)]; exact h2 j (by omega))
  have hs : h.set q0 (.inl (0, n0, .inl f)) = h := by
    apply List.ext_getElem?
    intro j
    by_cases e : q0 = j
    · subst e; rw [List.getElem?_set_self hql]; exact he.symm
    · rw [List.getElem?_set_ne e]
  have k := loop n0 0 f (by omega) (fun j hj => absurd hj (Nat.not_lt_zero j)) (fun _ _ => rfl)
  rw [hs] at k
  exact k
end CJDK
