/-! CONTRACTS: from a body to a contract, and their use at calls -/
theorem pargs_p1 : ∀ (as : List Value) (i : Nat), as.all p1 = true → (pargs i as).all (fun q => p1 q.2) = true := by
  intro as
  induction as with
  | nil => intro i _; rfl
  | cons v as ih =>
    intro i h
    rw [List.all_cons, Bool.and_eq_true] at h
    show (p1 v && (pargs (i + 1) as).all (fun q => p1 q.2)) = true
    rw [h.1, ih _ h.2]
    rfl
theorem pPre_blind {D : va_G} {dA : Nat → ClassId} {ad : Nat → Nat} {as : List Value} {h : List PC} {sz : Nat} : FrameBlind (pPre D dA ad as h sz) := by
  intro a U g mk q
  obtain ⟨q0, q1, qP, qK, qD, qX⟩ := q
  exact ⟨q0, q1, qP, va_K.moved (u := U) (U := U.calling g mk a) (Vm.Alike.refl U.vm) qK, qD, pX.same rfl qX⟩
/-- what a method's contract needs of its name, code and words -/
def pMF (y : MethodName) (ws : List Cond) (cc : ByteArray) (nL : Nat) (ret : Option FieldType) (np : Nat) : Prop := (∃ ws' : List Cond, ws = Cond.code y cc nL ret :: ws') ∧ plainName y.cls = true ∧ nL ≤ 45 ∧ y.cls ≠ "java/lang/invoke/MethodHandle" ∧ y.cls ≠ "java/lang/invoke/VarHandle" ∧ (parseMethodDescriptor y.desc).map (fun d => d.parameters.length) = some np
section CTOF
variable {l : Launch} {D : va_G} {dA : Nat → ClassId} {ad : Nat → Nat} {y : MethodName} {ws : List Cond} {cc : ByteArray} {nL np d : Nat} {ret : Option FieldType} {as : List Value} {h : List PC}
theorem ct_of {K : pK} (hF : pMF y ws cc nL ret np) (h1 : as.all p1 = true) (hlen : as.length ≤ nL) (body : Ev l D dA ad ws cc y.cls nL ret d h.length K 0 (pargs 0 as) [] h) :
    ∀ sz : Nat, Met l y ws (pR d) (pPre D dA ad as h sz) (K sz) 0 0 (pA ad h.length sz) := by
  obtain ⟨⟨ws', hw⟩, hy, -⟩ := hF
  intro sz
  refine Met.ofW (cc := cc) (maxL := nL) (ret := ret) hy hw ?_
  intro p e s m args below meth c s₁ B hml hv
  obtain ⟨rfl, hsz, hP, hK, hD0, hX⟩ := hv
  subst hsz
  have hl := lv_entry (as.map (pcv ad)) (n := nL) (by rw [psl_len as h1]; exact hlen)
  rw [lg_entry_eq]
  rw [pargs_eq as 0 h1] at hl
  generalize (lg_sl (as.map (pcv ad)) ++ List.replicate (nL - (lg_sl (as.map (pcv ad))).length) Slot.unset).toArray = lsA at hl ⊢
  exact body p e s m _ below meth c s.heap [] lsA ⟨B.exec, B.bytes, hml, B.returns, B.notSynchronized, findClass_of_methodNamed B.named, atoms_spec (ws := ws) B.pre, hK, hX⟩ ⟨rfl, hP, pD_self rfl hD0, va_S.rf, hl, pargs_p1 as 0 h1⟩
theorem CtI_of {Q : Int32 → List PC → Prop} {own : String} (hF : pMF y ws cc nL ret np) (ho : y.cls = own) (h1 : as.all p1 = true) (hlen : as.length ≤ nL) {ls : List (Nat × Value)} (hs : pargs 0 as = ls) {n : Nat} (hn : h.length = n) (body : Ev l D dA ad ws cc own nL ret d n (pKi D dA ad n Q) 0 ls [] h) : CtI l D dA ad y ws d as h Q := by
  subst ho; subst hs; subst hn
  exact ct_of hF h1 hlen body
theorem CtV_of {Q : List PC → Prop} {own : String} (hF : pMF y ws cc nL ret np) (ho : y.cls = own) (h1 : as.all p1 = true) (hlen : as.length ≤ nL) {ls : List (Nat × Value)} (hs : pargs 0 as = ls) {n : Nat} (hn : h.length = n) (body : Ev l D dA ad ws cc own nL ret d n (pKv D dA ad n Q) 0 ls [] h) : CtV l D dA ad y ws d as h Q := by
  subst ho; subst hs; subst hn
  exact ct_of hF h1 hlen body
theorem CtR_of {Q : Nat → List PC → Prop} {own : String} (hF : pMF y ws cc nL ret np) (ho : y.cls = own) (h1 : as.all p1 = true) (hlen : as.length ≤ nL) {ls : List (Nat × Value)} (hs : pargs 0 as = ls) {n : Nat} (hn : h.length = n) (body : Ev l D dA ad ws cc own nL ret d n (pKr D dA ad n Q) 0 ls [] h) : CtR l D dA ad y ws d as h Q := by
  subst ho; subst hs; subst hn
  exact ct_of hF h1 hlen body
theorem Met.conseq {Pc : Array Value → State → Prop} {Q1 Q2 : Array Value → State → Outcome → State → Prop} {rm : Room} {mc ms : Nat} {free : Addr → Prop} (h : Met l y ws rm Pc Q1 mc ms free) (hq : ∀ a s o t, Q1 a s o t → Q2 a s o t) : Met l y ws rm Pc Q2 mc ms free := by
  intro p e ha hc hk s m args below hf hfit hP hK
  obtain ⟨t, o, h1, h2, h3, h4, h5⟩ := h p e ha hc hk s m args below hf hfit hP hK
  exact ⟨t, o, h1, h2, h3, hq _ _ _ _ h4, h5⟩
theorem CtI.mono {Q1 Q2 : Int32 → List PC → Prop} (hC : CtI l D dA ad y ws d as h Q1) (hq : ∀ r h', Q1 r h' → Q2 r h') : CtI l D dA ad y ws d as h Q2 := fun sz => Met.conseq (hC sz) (fun _ _ _ _ q => by
  obtain ⟨⟨r, u, h1, h2, h3⟩, h4⟩ := q
  exact ⟨⟨r, u, h1, hq _ _ h2, h3⟩, h4⟩)
theorem CtV.mono {Q1 Q2 : List PC → Prop} (hC : CtV l D dA ad y ws d as h Q1) (hq : ∀ h', Q1 h' → Q2 h') : CtV l D dA ad y ws d as h Q2 := fun sz => Met.conseq (hC sz) (fun _ _ _ _ q => by
  obtain ⟨⟨u, h1, h2, h3⟩, h4⟩ := q
  exact ⟨⟨u, h1, hq _ h2, h3⟩, h4⟩)
end CTOF
/-- a receiver: an object of the world, or a String constant -/
def pRc (C : String) (b : Nat) (h : List PC) : Prop := (∃ (ci : Nat) (fs : List Value) (T : u_T) (N : Nat), h[b]? = some (.inr (ci, fs)) ∧ vwCl[ci]? = some (C, T, N)) ∨ (∃ i : Nat, i < 11 ∧ b = i + 1000 ∧ C = "java/lang/String")
theorem pRc.of {C : String} {b ci : Nat} {h : List PC} {fs : List Value} (h1 : h[b]? = some (.inr (ci, fs))) {T : u_T} {N : Nat} (h2 : vwCl[ci]? = some (C, T, N)) : pRc C b h := Or.inl ⟨ci, fs, T, N, h1, h2⟩
section ECALLS
variable {l : Launch} {D : va_G} {dA : Nat → ClassId} {ad : Nat → Nat} {ws : List Cond} {cc : ByteArray} {own : String} {nL : Nat} {ret : Option FieldType} {d n : Nat} {K : pK} {pc : Nat} {ls : List (Nat × Value)} {st : List Value} {h : List PC}
variable {y : MethodName} {wsY : List Cond} {cY : ByteArray} {nLY np dY : Nat} {retY : Option FieldType} {C : String} {idx b : Nat} {As st0 : List Value}
theorem E_callVI {Q : Int32 → List PC → Prop} (hC : CtI l D dA ad y wsY dY (.ref b :: As) h Q) (hF : pMF y wsY cY nLY retY np) (hnp : As.length = np) (hy : y.cls = C) (hG : GoodIn ws (wsV own idx C y wsY)) (hrc : pRc C b h) (hdd : dY + 1 ≤ d) (hs : As.reverse ++ .ref b :: st = st0) (h8 : st.length ≤ 8) (h1 : st.all p1 = true) (hdg : decode cc pc = .ok (.invokevirtual idx, 3)) (kk : ∀ (r : Int32) (h' : List PC), Q r h' → Ev l D dA ad ws cc own nL ret d n K (pc + 3) ls (.int r :: st) h') : Ev l D dA ad ws cc own nL ret d n K pc ls st0 h := by
  intro p e s m args below meth c H locs lsA E W0
  have E0 := E
  obtain ⟨hx, hb, hml, hr, hlk, hown, hts, hKn, hX⟩ := E
  obtain ⟨hn0, hP, hD, hS, hl, hl1⟩ := W0
  subst hn0
  subst hs
  obtain ⟨⟨ws', hw⟩, hpl, hm45, hy1, hy2, hy3⟩ := hF
  have hcs : (((st.map (pcv ad)).map fun v => v.category).sum) ≤ 8 := by rw [pcats st h1]; exact h8
  have hRR : (pR dY).frames + 1 ≤ (pR d).frames ∧ 8 + (nLY + 11) + (pR dY).locals ≤ (pR d).locals := by
    refine ⟨hdd, ?_⟩
    show 8 + (nLY + 11) + 64 * dY ≤ 64 * d
    omega
  have hrv : ∃ cellB : Cell, H[ad b]? = some cellB ∧ cellB.vm.isStatics = false ∧ s.vm.findClass C = some cellB.cls := by
    rcases hrc with ⟨ci, fs, T, N, q1, q2⟩ | ⟨i, q1, q2, q3⟩
    · exact va_recv hKn hP (q := (C, T, N)) q2 (pwd_get q1)
    · subst q2; subst q3
      exact vk_recv (i := i) hX.2.2.1 q1 hS
  refine va_calli (va_runV (As := As.map (pcv ad)) (rest := st.map (pcv ad)) (b := ad b) ⟨hx, hb, hml, hown, hts⟩ (hC H.size) (cwV np hts hG hw rfl rfl ⟨hy, hy1, hy2, hy3⟩ hRR) ⟨pPre_blind, hrv, fun U hU hW => ⟨rfl, by rw [hU], by rw [hU]; exact hP, va_K.moved hW.alike hKn, hD.weaken (fun _ _ _ _ => trivial), by rw [hU]; exact hX.to hW hS.2.1 (fun q hq => pA_grow hS.1 hq)⟩⟩ rfl (by rw [List.length_map]; exact hnp) hl.1 (by simp [List.map_reverse, pcv]) (lv_room hcs) hdg ⟨Nat.zero_le _, Nat.zero_le _⟩) hS (fun q _ hq => pA_grow hS.1 hq) (fun q hq => pA_grow hS.1 hq) (fun r u t H1 locs1 ht hvm hpost hB hz hk hS1 => ?_)
  obtain ⟨hP1, hK1, hD1, hlen⟩ := hB
  rw [ht] at hP1
  exact kk r u hpost p e s m args below meth c H1 locs1 lsA E0 ⟨hlen, hP1, hD1.weaken (fun k q _ hq => pA_grow hS.1 hq), hS1, hl, hl1⟩
theorem E_callVV {Q : List PC → Prop} (hC : CtV l D dA ad y wsY dY (.ref b :: As) h Q) (hF : pMF y wsY cY nLY retY np) (hnp : As.length = np) (hy : y.cls = C) (hG : GoodIn ws (wsV own idx C y wsY)) (hrc : pRc C b h) (hdd : dY + 1 ≤ d) (hs : As.reverse ++ .ref b :: st = st0) (h8 : st.length ≤ 8) (h1 : st.all p1 = true) (hdg : decode cc pc = .ok (.invokevirtual idx, 3)) (kk : ∀ h' : List PC, Q h' → Ev l D dA ad ws cc own nL ret d n K (pc + 3) ls st h') : Ev l D dA ad ws cc own nL ret d n K pc ls st0 h := by
  intro p e s m args below meth c H locs lsA E W0
  have E0 := E
  obtain ⟨hx, hb, hml, hr, hlk, hown, hts, hKn, hX⟩ := E
  obtain ⟨hn0, hP, hD, hS, hl, hl1⟩ := W0
  subst hn0
  subst hs
  obtain ⟨⟨ws', hw⟩, hpl, hm45, hy1, hy2, hy3⟩ := hF
  have hcs : (((st.map (pcv ad)).map fun v => v.category).sum) ≤ 8 := by rw [pcats st h1]; exact h8
  have hRR : (pR dY).frames + 1 ≤ (pR d).frames ∧ 8 + (nLY + 11) + (pR dY).locals ≤ (pR d).locals := by
    refine ⟨hdd, ?_⟩
    show 8 + (nLY + 11) + 64 * dY ≤ 64 * d
    omega
  have hrv : ∃ cellB : Cell, H[ad b]? = some cellB ∧ cellB.vm.isStatics = false ∧ s.vm.findClass C = some cellB.cls := by
    rcases hrc with ⟨ci, fs, T, N, q1, q2⟩ | ⟨i, q1, q2, q3⟩
    · exact va_recv hKn hP (q := (C, T, N)) q2 (pwd_get q1)
    · subst q2; subst q3
      exact vk_recv (i := i) hX.2.2.1 q1 hS
  refine va_callv (va_runV (As := As.map (pcv ad)) (rest := st.map (pcv ad)) (b := ad b) ⟨hx, hb, hml, hown, hts⟩ (hC H.size) (cwV np hts hG hw rfl rfl ⟨hy, hy1, hy2, hy3⟩ hRR) ⟨pPre_blind, hrv, fun U hU hW => ⟨rfl, by rw [hU], by rw [hU]; exact hP, va_K.moved hW.alike hKn, hD.weaken (fun _ _ _ _ => trivial), by rw [hU]; exact hX.to hW hS.2.1 (fun q hq => pA_grow hS.1 hq)⟩⟩ rfl (by rw [List.length_map]; exact hnp) hl.1 (by simp [List.map_reverse, pcv]) (lv_room hcs) hdg ⟨Nat.zero_le _, Nat.zero_le _⟩) hS (fun q _ hq => pA_grow hS.1 hq) (fun q hq => pA_grow hS.1 hq) (fun u t H1 locs1 ht hvm hpost hB hz hk hS1 => ?_)
  obtain ⟨hP1, hK1, hD1, hlen⟩ := hB
  rw [ht] at hP1
  exact kk u hpost p e s m args below meth c H1 locs1 lsA E0 ⟨hlen, hP1, hD1.weaken (fun k q _ hq => pA_grow hS.1 hq), hS1, hl, hl1⟩
theorem E_callVR {Q : Nat → List PC → Prop} (hC : CtR l D dA ad y wsY dY (.ref b :: As) h Q) (hF : pMF y wsY cY nLY retY np) (hnp : As.length = np) (hy : y.cls = C) (hG : GoodIn ws (wsV own idx C y wsY)) (hrc : pRc C b h) (hdd : dY + 1 ≤ d) (hs : As.reverse ++ .ref b :: st = st0) (h8 : st.length ≤ 8) (h1 : st.all p1 = true) (hdg : decode cc pc = .ok (.invokevirtual idx, 3)) (kk : ∀ (r : Nat) (h' : List PC), Q r h' → Ev l D dA ad ws cc own nL ret d n K (pc + 3) ls (.ref r :: st) h') : Ev l D dA ad ws cc own nL ret d n K pc ls st0 h := by
  intro p e s m args below meth c H locs lsA E W0
  have E0 := E
  obtain ⟨hx, hb, hml, hr, hlk, hown, hts, hKn, hX⟩ := E
  obtain ⟨hn0, hP, hD, hS, hl, hl1⟩ := W0
  subst hn0
  subst hs
  obtain ⟨⟨ws', hw⟩, hpl, hm45, hy1, hy2, hy3⟩ := hF
  have hcs : (((st.map (pcv ad)).map fun v => v.category).sum) ≤ 8 := by rw [pcats st h1]; exact h8
  have hRR : (pR dY).frames + 1 ≤ (pR d).frames ∧ 8 + (nLY + 11) + (pR dY).locals ≤ (pR d).locals := by
    refine ⟨hdd, ?_⟩
    show 8 + (nLY + 11) + 64 * dY ≤ 64 * d
    omega
  have hrv : ∃ cellB : Cell, H[ad b]? = some cellB ∧ cellB.vm.isStatics = false ∧ s.vm.findClass C = some cellB.cls := by
    rcases hrc with ⟨ci, fs, T, N, q1, q2⟩ | ⟨i, q1, q2, q3⟩
    · exact va_recv hKn hP (q := (C, T, N)) q2 (pwd_get q1)
    · subst q2; subst q3
      exact vk_recv (i := i) hX.2.2.1 q1 hS
  refine va_callr (va_runV (As := As.map (pcv ad)) (rest := st.map (pcv ad)) (b := ad b) ⟨hx, hb, hml, hown, hts⟩ (hC H.size) (cwV np hts hG hw rfl rfl ⟨hy, hy1, hy2, hy3⟩ hRR) ⟨pPre_blind, hrv, fun U hU hW => ⟨rfl, by rw [hU], by rw [hU]; exact hP, va_K.moved hW.alike hKn, hD.weaken (fun _ _ _ _ => trivial), by rw [hU]; exact hX.to hW hS.2.1 (fun q hq => pA_grow hS.1 hq)⟩⟩ rfl (by rw [List.length_map]; exact hnp) hl.1 (by simp [List.map_reverse, pcv]) (lv_room hcs) hdg ⟨Nat.zero_le _, Nat.zero_le _⟩) hS (fun q _ hq => pA_grow hS.1 hq) (fun q hq => pA_grow hS.1 hq) (fun u ra t H1 locs1 ht hvm hpost hB hz hk hS1 => ?_)
  obtain ⟨rfl, hP1, hK1, hD1, hlen⟩ := hB
  rw [ht] at hP1
  exact kk u.1 u.2 hpost p e s m args below meth c H1 locs1 lsA E0 ⟨hlen, hP1, hD1.weaken (fun k q _ hq => pA_grow hS.1 hq), hS1, hl, hl1⟩
theorem E_callSI {Q : Int32 → List PC → Prop} (hC : CtI l D dA ad y wsY dY As h Q) (hF : pMF y wsY cY nLY retY np) (hnp : As.length = np) (hG : GoodIn ws (va_wsS own idx y wsY)) (hdd : dY + 1 ≤ d) (hs : As.reverse ++ st = st0) (h8 : st.length ≤ 8) (h1 : st.all p1 = true) (hdg : decode cc pc = .ok (.invokestatic idx, 3)) (kk : ∀ (r : Int32) (h' : List PC), Q r h' → Ev l D dA ad ws cc own nL ret d n K (pc + 3) ls (.int r :: st) h') : Ev l D dA ad ws cc own nL ret d n K pc ls st0 h := by
  intro p e s m args below meth c H locs lsA E W0
  have E0 := E
  obtain ⟨hx, hb, hml, hr, hlk, hown, hts, hKn, hX⟩ := E
  obtain ⟨hn0, hP, hD, hS, hl, hl1⟩ := W0
  subst hn0
  subst hs
  obtain ⟨⟨ws', hw⟩, hpl, hm45, hy1, hy2, hy3⟩ := hF
  have hcs : (((st.map (pcv ad)).map fun v => v.category).sum) ≤ 8 := by rw [pcats st h1]; exact h8
  have hRR : (pR dY).frames + 1 ≤ (pR d).frames ∧ 8 + (nLY + 11) + (pR dY).locals ≤ (pR d).locals := by
    refine ⟨hdd, ?_⟩
    show 8 + (nLY + 11) + 64 * dY ≤ 64 * d
    omega
  refine va_calli (va_runS (As := As.map (pcv ad)) (rest := st.map (pcv ad)) ⟨hx, hb, hml, hown, hts⟩ (hC H.size) (va_cwS np hts hG hw rfl rfl ⟨hy1, hy2, hy3⟩ hRR) ⟨pPre_blind, fun U hU hW => ⟨rfl, by rw [hU], by rw [hU]; exact hP, va_K.moved hW.alike hKn, hD.weaken (fun _ _ _ _ => trivial), by rw [hU]; exact hX.to hW hS.2.1 (fun q hq => pA_grow hS.1 hq)⟩⟩ rfl (by rw [List.length_map]; exact hnp) hl.1 (by simp [List.map_reverse, pcv]) (lv_room hcs) hdg ⟨Nat.zero_le _, Nat.zero_le _⟩) hS (fun q _ hq => pA_grow hS.1 hq) (fun q hq => pA_grow hS.1 hq) (fun r u t H1 locs1 ht hvm hpost hB hz hk hS1 => ?_)
  obtain ⟨hP1, hK1, hD1, hlen⟩ := hB
  rw [ht] at hP1
  exact kk r u hpost p e s m args below meth c H1 locs1 lsA E0 ⟨hlen, hP1, hD1.weaken (fun k q _ hq => pA_grow hS.1 hq), hS1, hl, hl1⟩
theorem E_callSV {Q : List PC → Prop} (hC : CtV l D dA ad y wsY dY As h Q) (hF : pMF y wsY cY nLY retY np) (hnp : As.length = np) (hG : GoodIn ws (va_wsS own idx y wsY)) (hdd : dY + 1 ≤ d) (hs : As.reverse ++ st = st0) (h8 : st.length ≤ 8) (h1 : st.all p1 = true) (hdg : decode cc pc = .ok (.invokestatic idx, 3)) (kk : ∀ h' : List PC, Q h' → Ev l D dA ad ws cc own nL ret d n K (pc + 3) ls st h') : Ev l D dA ad ws cc own nL ret d n K pc ls st0 h := by
  intro p e s m args below meth c H locs lsA E W0
  have E0 := E
  obtain ⟨hx, hb, hml, hr, hlk, hown, hts, hKn, hX⟩ := E
  obtain ⟨hn0, hP, hD, hS, hl, hl1⟩ := W0
  subst hn0
  subst hs
  obtain ⟨⟨ws', hw⟩, hpl, hm45, hy1, hy2, hy3⟩ := hF
  have hcs : (((st.map (pcv ad)).map fun v => v.category).sum) ≤ 8 := by rw [pcats st h1]; exact h8
  have hRR : (pR dY).frames + 1 ≤ (pR d).frames ∧ 8 + (nLY + 11) + (pR dY).locals ≤ (pR d).locals := by
    refine ⟨hdd, ?_⟩
    show 8 + (nLY + 11) + 64 * dY ≤ 64 * d
    omega
  refine va_callv (va_runS (As := As.map (pcv ad)) (rest := st.map (pcv ad)) ⟨hx, hb, hml, hown, hts⟩ (hC H.size) (va_cwS np hts hG hw rfl rfl ⟨hy1, hy2, hy3⟩ hRR) ⟨pPre_blind, fun U hU hW => ⟨rfl, by rw [hU], by rw [hU]; exact hP, va_K.moved hW.alike hKn, hD.weaken (fun _ _ _ _ => trivial), by rw [hU]; exact hX.to hW hS.2.1 (fun q hq => pA_grow hS.1 hq)⟩⟩ rfl (by rw [List.length_map]; exact hnp) hl.1 (by simp [List.map_reverse, pcv]) (lv_room hcs) hdg ⟨Nat.zero_le _, Nat.zero_le _⟩) hS (fun q _ hq => pA_grow hS.1 hq) (fun q hq => pA_grow hS.1 hq) (fun u t H1 locs1 ht hvm hpost hB hz hk hS1 => ?_)
  obtain ⟨hP1, hK1, hD1, hlen⟩ := hB
  rw [ht] at hP1
  exact kk u hpost p e s m args below meth c H1 locs1 lsA E0 ⟨hlen, hP1, hD1.weaken (fun k q _ hq => pA_grow hS.1 hq), hS1, hl, hl1⟩
theorem E_callSR {Q : Nat → List PC → Prop} (hC : CtR l D dA ad y wsY dY As h Q) (hF : pMF y wsY cY nLY retY np) (hnp : As.length = np) (hG : GoodIn ws (va_wsS own idx y wsY)) (hdd : dY + 1 ≤ d) (hs : As.reverse ++ st = st0) (h8 : st.length ≤ 8) (h1 : st.all p1 = true) (hdg : decode cc pc = .ok (.invokestatic idx, 3)) (kk : ∀ (r : Nat) (h' : List PC), Q r h' → Ev l D dA ad ws cc own nL ret d n K (pc + 3) ls (.ref r :: st) h') : Ev l D dA ad ws cc own nL ret d n K pc ls st0 h := by
  intro p e s m args below meth c H locs lsA E W0
  have E0 := E
  obtain ⟨hx, hb, hml, hr, hlk, hown, hts, hKn, hX⟩ := E
  obtain ⟨hn0, hP, hD, hS, hl, hl1⟩ := W0
  subst hn0
  subst hs
  obtain ⟨⟨ws', hw⟩, hpl, hm45, hy1, hy2, hy3⟩ := hF
  have hcs : (((st.map (pcv ad)).map fun v => v.category).sum) ≤ 8 := by rw [pcats st h1]; exact h8
  have hRR : (pR dY).frames + 1 ≤ (pR d).frames ∧ 8 + (nLY + 11) + (pR dY).locals ≤ (pR d).locals := by
    refine ⟨hdd, ?_⟩
    show 8 + (nLY + 11) + 64 * dY ≤ 64 * d
    omega
  refine va_callr (va_runS (As := As.map (pcv ad)) (rest := st.map (pcv ad)) ⟨hx, hb, hml, hown, hts⟩ (hC H.size) (va_cwS np hts hG hw rfl rfl ⟨hy1, hy2, hy3⟩ hRR) ⟨pPre_blind, fun U hU hW => ⟨rfl, by rw [hU], by rw [hU]; exact hP, va_K.moved hW.alike hKn, hD.weaken (fun _ _ _ _ => trivial), by rw [hU]; exact hX.to hW hS.2.1 (fun q hq => pA_grow hS.1 hq)⟩⟩ rfl (by rw [List.length_map]; exact hnp) hl.1 (by simp [List.map_reverse, pcv]) (lv_room hcs) hdg ⟨Nat.zero_le _, Nat.zero_le _⟩) hS (fun q _ hq => pA_grow hS.1 hq) (fun q hq => pA_grow hS.1 hq) (fun u ra t H1 locs1 ht hvm hpost hB hz hk hS1 => ?_)
  obtain ⟨rfl, hP1, hK1, hD1, hlen⟩ := hB
  rw [ht] at hP1
  exact kk u.1 u.2 hpost p e s m args below meth c H1 locs1 lsA E0 ⟨hlen, hP1, hD1.weaken (fun k q _ hq => pA_grow hS.1 hq), hS1, hl, hl1⟩
theorem E_callNI {Q : Int32 → List PC → Prop} (hC : CtI l D dA ad y wsY dY As h Q) (hF : pMF y wsY cY nLY retY np) (hnp : As.length = np) (hG : GoodIn ws wsY) (hst : Cond.static y ∈ ws) (hini : Cond.initialized y.cls ∈ ws) (hnest : (own, idx, y) ∈ pNest) (hdd : dY + 1 ≤ d) (hs : As.reverse ++ st = st0) (h8 : st.length ≤ 8) (h1 : st.all p1 = true) (hdg : decode cc pc = .ok (.invokestatic idx, 3)) (kk : ∀ (r : Int32) (h' : List PC), Q r h' → Ev l D dA ad ws cc own nL ret d n K (pc + 3) ls (.int r :: st) h') : Ev l D dA ad ws cc own nL ret d n K pc ls st0 h := by
  intro p e s m args below meth c H locs lsA E W0
  have E0 := E
  obtain ⟨hx, hb, hml, hr, hlk, hown, hts, hKn, hX⟩ := E
  obtain ⟨hn0, hP, hD, hS, hl, hl1⟩ := W0
  subst hn0
  subst hs
  obtain ⟨⟨ws', hw⟩, hpl, hm45, hy1, hy2, hy3⟩ := hF
  have hcs : (((st.map (pcv ad)).map fun v => v.category).sum) ≤ 8 := by rw [pcats st h1]; exact h8
  have hRR : (pR dY).frames + 1 ≤ (pR d).frames ∧ 8 + (nLY + 11) + (pR dY).locals ≤ (pR d).locals := by
    refine ⟨hdd, ?_⟩
    show 8 + (nLY + 11) + 64 * dY ≤ 64 * d
    omega
  refine va_calli (va_runSN (As := As.map (pcv ad)) (rest := st.map (pcv ad)) ⟨hx, hb, hml, hown, hts⟩ (hC H.size) ⟨va_cnB np hts hG hw rfl rfl (hX.1 _ hnest) (hts _ hini) ⟨hy1, hy2, hy3⟩ hRR, hts _ hst, trivial⟩ ⟨pPre_blind, fun U hU hW => ⟨rfl, by rw [hU], by rw [hU]; exact hP, va_K.moved hW.alike hKn, hD.weaken (fun _ _ _ _ => trivial), by rw [hU]; exact hX.to hW hS.2.1 (fun q hq => pA_grow hS.1 hq)⟩⟩ rfl (by rw [List.length_map]; exact hnp) hl.1 (by simp [List.map_reverse, pcv]) (lv_room hcs) hdg ⟨Nat.zero_le _, Nat.zero_le _⟩) hS (fun q _ hq => pA_grow hS.1 hq) (fun q hq => pA_grow hS.1 hq) (fun r u t H1 locs1 ht hvm hpost hB hz hk hS1 => ?_)
  obtain ⟨hP1, hK1, hD1, hlen⟩ := hB
  rw [ht] at hP1
  exact kk r u hpost p e s m args below meth c H1 locs1 lsA E0 ⟨hlen, hP1, hD1.weaken (fun k q _ hq => pA_grow hS.1 hq), hS1, hl, hl1⟩
theorem E_callNV {Q : List PC → Prop} (hC : CtV l D dA ad y wsY dY As h Q) (hF : pMF y wsY cY nLY retY np) (hnp : As.length = np) (hG : GoodIn ws wsY) (hst : Cond.static y ∈ ws) (hini : Cond.initialized y.cls ∈ ws) (hnest : (own, idx, y) ∈ pNest) (hdd : dY + 1 ≤ d) (hs : As.reverse ++ st = st0) (h8 : st.length ≤ 8) (h1 : st.all p1 = true) (hdg : decode cc pc = .ok (.invokestatic idx, 3)) (kk : ∀ h' : List PC, Q h' → Ev l D dA ad ws cc own nL ret d n K (pc + 3) ls st h') : Ev l D dA ad ws cc own nL ret d n K pc ls st0 h := by
  intro p e s m args below meth c H locs lsA E W0
  have E0 := E
  obtain ⟨hx, hb, hml, hr, hlk, hown, hts, hKn, hX⟩ := E
  obtain ⟨hn0, hP, hD, hS, hl, hl1⟩ := W0
  subst hn0
  subst hs
  obtain ⟨⟨ws', hw⟩, hpl, hm45, hy1, hy2, hy3⟩ := hF
  have hcs : (((st.map (pcv ad)).map fun v => v.category).sum) ≤ 8 := by rw [pcats st h1]; exact h8
  have hRR : (pR dY).frames + 1 ≤ (pR d).frames ∧ 8 + (nLY + 11) + (pR dY).locals ≤ (pR d).locals := by
    refine ⟨hdd, ?_⟩
    show 8 + (nLY + 11) + 64 * dY ≤ 64 * d
    omega
  refine va_callv (va_runSN (As := As.map (pcv ad)) (rest := st.map (pcv ad)) ⟨hx, hb, hml, hown, hts⟩ (hC H.size) ⟨va_cnB np hts hG hw rfl rfl (hX.1 _ hnest) (hts _ hini) ⟨hy1, hy2, hy3⟩ hRR, hts _ hst, trivial⟩ ⟨pPre_blind, fun U hU hW => ⟨rfl, by rw [hU], by rw [hU]; exact hP, va_K.moved hW.alike hKn, hD.weaken (fun _ _ _ _ => trivial), by rw [hU]; exact hX.to hW hS.2.1 (fun q hq => pA_grow hS.1 hq)⟩⟩ rfl (by rw [List.length_map]; exact hnp) hl.1 (by simp [List.map_reverse, pcv]) (lv_room hcs) hdg ⟨Nat.zero_le _, Nat.zero_le _⟩) hS (fun q _ hq => pA_grow hS.1 hq) (fun q hq => pA_grow hS.1 hq) (fun u t H1 locs1 ht hvm hpost hB hz hk hS1 => ?_)
  obtain ⟨hP1, hK1, hD1, hlen⟩ := hB
  rw [ht] at hP1
  exact kk u hpost p e s m args below meth c H1 locs1 lsA E0 ⟨hlen, hP1, hD1.weaken (fun k q _ hq => pA_grow hS.1 hq), hS1, hl, hl1⟩
theorem E_callNR {Q : Nat → List PC → Prop} (hC : CtR l D dA ad y wsY dY As h Q) (hF : pMF y wsY cY nLY retY np) (hnp : As.length = np) (hG : GoodIn ws wsY) (hst : Cond.static y ∈ ws) (hini : Cond.initialized y.cls ∈ ws) (hnest : (own, idx, y) ∈ pNest) (hdd : dY + 1 ≤ d) (hs : As.reverse ++ st = st0) (h8 : st.length ≤ 8) (h1 : st.all p1 = true) (hdg : decode cc pc = .ok (.invokestatic idx, 3)) (kk : ∀ (r : Nat) (h' : List PC), Q r h' → Ev l D dA ad ws cc own nL ret d n K (pc + 3) ls (.ref r :: st) h') : Ev l D dA ad ws cc own nL ret d n K pc ls st0 h := by
  intro p e s m args below meth c H locs lsA E W0
  have E0 := E
  obtain ⟨hx, hb, hml, hr, hlk, hown, hts, hKn, hX⟩ := E
  obtain ⟨hn0, hP, hD, hS, hl, hl1⟩ := W0
  subst hn0
  subst hs
  obtain ⟨⟨ws', hw⟩, hpl, hm45, hy1, hy2, hy3⟩ := hF
  have hcs : (((st.map (pcv ad)).map fun v => v.category).sum) ≤ 8 := by rw [pcats st h1]; exact h8
  have hRR : (pR dY).frames + 1 ≤ (pR d).frames ∧ 8 + (nLY + 11) + (pR dY).locals ≤ (pR d).locals := by
    refine ⟨hdd, ?_⟩
    show 8 + (nLY + 11) + 64 * dY ≤ 64 * d
    omega
  refine va_callr (va_runSN (As := As.map (pcv ad)) (rest := st.map (pcv ad)) ⟨hx, hb, hml, hown, hts⟩ (hC H.size) ⟨va_cnB np hts hG hw rfl rfl (hX.1 _ hnest) (hts _ hini) ⟨hy1, hy2, hy3⟩ hRR, hts _ hst, trivial⟩ ⟨pPre_blind, fun U hU hW => ⟨rfl, by rw [hU], by rw [hU]; exact hP, va_K.moved hW.alike hKn, hD.weaken (fun _ _ _ _ => trivial), by rw [hU]; exact hX.to hW hS.2.1 (fun q hq => pA_grow hS.1 hq)⟩⟩ rfl (by rw [List.length_map]; exact hnp) hl.1 (by simp [List.map_reverse, pcv]) (lv_room hcs) hdg ⟨Nat.zero_le _, Nat.zero_le _⟩) hS (fun q _ hq => pA_grow hS.1 hq) (fun q hq => pA_grow hS.1 hq) (fun u ra t H1 locs1 ht hvm hpost hB hz hk hS1 => ?_)
  obtain ⟨rfl, hP1, hK1, hD1, hlen⟩ := hB
  rw [ht] at hP1
  exact kk u.1 u.2 hpost p e s m args below meth c H1 locs1 lsA E0 ⟨hlen, hP1, hD1.weaken (fun k q _ hq => pA_grow hS.1 hq), hS1, hl, hl1⟩
theorem E_under {idx : Nat} (hlink : Cond.fieldLink own idx "BoatTrim" "UNDER" "[I" ∈ ws) (hdg : decode cc pc = .ok (.getstatic idx, 3)) (kk : Ev l D dA ad ws cc own nL ret d n K (pc + 3) ls (.ref 2000 :: st) h) : Ev l D dA ad ws cc own nL ret d n K pc ls st h := by
  intro p e s m args below meth c H locs lsA E W0
  have k := kk p e s m args below meth c H locs lsA E W0
  obtain ⟨hx, hb, hml, hr, hlk, hown, hts, hKn, hX⟩ := E
  obtain ⟨hn0, hP, hD, hS, hl, hl1⟩ := W0
  obtain ⟨xn, xf, xs, xr, x1, x2, x3, x4, x5, x6⟩ := hX
  exact va_gets hx hb x1 hS hown (hts _ hlink) (fun _ q => q) hdg k
theorem E_signs {idx : Nat} (ho : own = "BoatTrim$Report") (hi : idx = 32) (hdg : decode cc pc = .ok (.getstatic idx, 3)) (kk : Ev l D dA ad ws cc own nL ret d n K (pc + 3) ls (.ref 2001 :: st) h) : Ev l D dA ad ws cc own nL ret d n K pc ls st h := by
  subst ho; subst hi
  intro p e s m args below meth c H locs lsA E W0
  have k := kk p e s m args below meth c H locs lsA E W0
  obtain ⟨hx, hb, hml, hr, hlk, hown, hts, hKn, hX⟩ := E
  obtain ⟨hn0, hP, hD, hS, hl, hl1⟩ := W0
  obtain ⟨xn, xf, xs, xr, x1, x2, x3, x4, x5, x6⟩ := hX
  exact va_getsN hx hb x3 hS hown (va_Nw.use rfl xf) (fun _ q => q) hdg k
theorem E_compact {idx : Nat} (hlink : Cond.fieldLink own idx "java/lang/String" "COMPACT_STRINGS" "Z" ∈ ws) (hdg : decode cc pc = .ok (.getstatic idx, 3)) (kk : Ev l D dA ad ws cc own nL ret d n K (pc + 3) ls (.int 1 :: st) h) : Ev l D dA ad ws cc own nL ret d n K pc ls st h := by
  intro p e s m args below meth c H locs lsA E W0
  have k := kk p e s m args below meth c H locs lsA E W0
  obtain ⟨hx, hb, hml, hr, hlk, hown, hts, hKn, hX⟩ := E
  obtain ⟨hn0, hP, hD, hS, hl, hl1⟩ := W0
  obtain ⟨xn, xf, xs, xr, x1, x2, x3, x4, x5, x6⟩ := hX
  exact va_gets hx hb x5 hS hown (hts _ hlink) (fun _ q => q) hdg k
theorem E_under_ld {i : Int32} (hin : vp_in i 5) (hdg : decode cc pc = .ok (.iaload, 1)) (kk : Ev l D dA ad ws cc own nL ret d n K (pc + 1) ls (.int (pUnder i.toNatClampNeg) :: st) h) : Ev l D dA ad ws cc own nL ret d n K pc ls (.int i :: .ref 2000 :: st) h := by
  intro p e s m args below meth c H locs lsA E W0
  have k := kk p e s m args below meth c H locs lsA E W0
  obtain ⟨hx, hb, hml, hr, hlk, hown, hts, hKn, hX⟩ := E
  obtain ⟨hn0, hP, hD, hS, hl, hl1⟩ := W0
  obtain ⟨xn, xf, xs, xr, x1, x2, x3, x4, x5, x6⟩ := hX
  exact va_ti hx hb x2 hS hin rfl hdg k
theorem E_signs_ld {i : Int32} (hin : vp_in i 5) (hdg : decode cc pc = .ok (.caload, 1)) (kk : Ev l D dA ad ws cc own nL ret d n K (pc + 1) ls (.int (pSigns i.toNatClampNeg) :: st) h) : Ev l D dA ad ws cc own nL ret d n K pc ls (.int i :: .ref 2001 :: st) h := by
  intro p e s m args below meth c H locs lsA E W0
  have k := kk p e s m args below meth c H locs lsA E W0
  obtain ⟨hx, hb, hml, hr, hlk, hown, hts, hKn, hX⟩ := E
  obtain ⟨hn0, hP, hD, hS, hl, hl1⟩ := W0
  obtain ⟨xn, xf, xs, xr, x1, x2, x3, x4, x5, x6⟩ := hX
  exact va_tc hx hb x4 hS hin rfl hdg k
theorem E_under_len (hdg : decode cc pc = .ok (.arraylength, 1)) (kk : Ev l D dA ad ws cc own nL ret d n K (pc + 1) ls (.int 5 :: st) h) : Ev l D dA ad ws cc own nL ret d n K pc ls (.ref 2000 :: st) h := by
  intro p e s m args below meth c H locs lsA E W0
  have k := kk p e s m args below meth c H locs lsA E W0
  obtain ⟨hx, hb, hml, hr, hlk, hown, hts, hKn, hX⟩ := E
  obtain ⟨hn0, hP, hD, hS, hl, hl1⟩ := W0
  obtain ⟨xn, xf, xs, xr, x1, x2, x3, x4, x5, x6⟩ := hX
  exact va_tlen hx hb x2 hS rfl hdg k
theorem E_ldcS {idx i : Nat} {tx : String} (hm : (own, idx, tx, i) ∈ pRef) (hdg : decode cc pc = .ok (.ldc idx, 2)) (kk : Ev l D dA ad ws cc own nL ret d n K (pc + 2) ls (.ref (i + 1000) :: st) h) : Ev l D dA ad ws cc own nL ret d n K pc ls st h := by
  intro p e s m args below meth c H locs lsA E W0
  have k := kk p e s m args below meth c H locs lsA E W0
  obtain ⟨hx, hb, hml, hr, hlk, hown, hts, hKn, hX⟩ := E
  obtain ⟨hn0, hP, hD, hS, hl, hl1⟩ := W0
  obtain ⟨xn, xf, xs, xr, x1, x2, x3, x4, x5, x6⟩ := hX
  exact va_ldcS hx hb hown (xr _ hm) hdg k
theorem E_strval {idx i : Nat} (hi : i < 11) (hlink : Cond.fieldLink own idx "java/lang/String" "value" "[B" ∈ ws) (hdg : decode cc pc = .ok (.getfield idx, 3)) (kk : Ev l D dA ad ws cc own nL ret d n K (pc + 3) ls (.ref (i + 1100) :: st) h) : Ev l D dA ad ws cc own nL ret d n K pc ls (.ref (i + 1000) :: st) h := by
  intro p e s m args below meth c H locs lsA E W0
  have k := kk p e s m args below meth c H locs lsA E W0
  obtain ⟨hx, hb, hml, hr, hlk, hown, hts, hKn, hX⟩ := E
  obtain ⟨hn0, hP, hD, hS, hl, hl1⟩ := W0
  obtain ⟨xn, xf, xs, xr, x1, x2, x3, x4, x5, x6⟩ := hX
  exact vk_getf hx hb (xs.1 i hi).2.2.1 hS hown (hts _ hlink) (fun _ q => q) hdg k
theorem E_strcod {idx i : Nat} (hi : i < 11) (hlink : Cond.fieldLink own idx "java/lang/String" "coder" "B" ∈ ws) (hdg : decode cc pc = .ok (.getfield idx, 3)) (kk : Ev l D dA ad ws cc own nL ret d n K (pc + 3) ls (.int 0 :: st) h) : Ev l D dA ad ws cc own nL ret d n K pc ls (.ref (i + 1000) :: st) h := by
  intro p e s m args below meth c H locs lsA E W0
  have k := kk p e s m args below meth c H locs lsA E W0
  obtain ⟨hx, hb, hml, hr, hlk, hown, hts, hKn, hX⟩ := E
  obtain ⟨hn0, hP, hD, hS, hl, hl1⟩ := W0
  obtain ⟨xn, xf, xs, xr, x1, x2, x3, x4, x5, x6⟩ := hX
  exact vk_getf hx hb (xs.1 i hi).2.1 hS hown (hts _ hlink) (fun _ q => q) hdg k
theorem E_strlen {i : Nat} (hi : i < 11) (hdg : decode cc pc = .ok (.arraylength, 1)) (kk : Ev l D dA ad ws cc own nL ret d n K (pc + 1) ls (.int (nI (pLen.getD i 0)) :: st) h) : Ev l D dA ad ws cc own nL ret d n K pc ls (.ref (i + 1100) :: st) h := by
  intro p e s m args below meth c H locs lsA E W0
  have k := kk p e s m args below meth c H locs lsA E W0
  obtain ⟨hx, hb, hml, hr, hlk, hown, hts, hKn, hX⟩ := E
  obtain ⟨hn0, hP, hD, hS, hl, hl1⟩ := W0
  obtain ⟨xn, xf, xs, xr, x1, x2, x3, x4, x5, x6⟩ := hX
  exact va_tlen hx hb (xs.1 i hi).2.2.2 hS rfl hdg k
theorem E_strld {i j : Nat} (hi : i < 11) (hj : j < pLen.getD i 0) (hj2 : j < 2 ^ 31) (hdg : decode cc pc = .ok (.baload, 1)) (kk : Ev l D dA ad ws cc own nL ret d n K (pc + 1) ls (.int ((pByt.getD i []).getD j 0) :: st) h) : Ev l D dA ad ws cc own nL ret d n K pc ls (.int (nI j) :: .ref (i + 1100) :: st) h := by
  intro p e s m args below meth c H locs lsA E W0
  have k := kk p e s m args below meth c H locs lsA E W0
  obtain ⟨hx, hb, hml, hr, hlk, hown, hts, hKn, hX⟩ := E
  obtain ⟨hn0, hP, hD, hS, hl, hl1⟩ := W0
  obtain ⟨xn, xf, xs, xr, x1, x2, x3, x4, x5, x6⟩ := hX
  exact va_tb hx hb (xs.1 i hi).2.2.2 hS (i := nI j) (fun q => q.elim (nI_pos hj2) (fun q => by rw [nI_clamp hj2] at q; omega)) (by show Value.int ((pByt.getD i []).getD (nI j).toNatClampNeg 0) = _; rw [nI_clamp hj2]; rfl) hdg k
theorem E_formatter {idx : Nat} (hlink : Cond.fieldLink own idx "jdk/internal/util/Preconditions" "SIOOBE_FORMATTER" "Ljava/util/function/BiFunction;" ∈ ws) (hdg : decode cc pc = .ok (.getstatic idx, 3)) (kk1 : Ev l D dA ad ws cc own nL ret d n K (pc + 3) ls (.null :: st) h) (kk : Ev l D dA ad ws cc own nL ret d n K (pc + 3) ls (.ref 2002 :: st) h) : Ev l D dA ad ws cc own nL ret d n K pc ls st h := by
  intro p e s m args below meth c H locs lsA E W0
  have k := kk p e s m args below meth c H locs lsA E W0
  obtain ⟨hx, hb, hml, hr, hlk, hown, hts, hKn, hX⟩ := E
  obtain ⟨hn0, hP, hD, hS, hl, hl1⟩ := W0
  obtain ⟨xn, xf, xs, xr, x1, x2, x3, x4, x5, x6⟩ := hX
  have k1 := kk1 p e s m args below meth c H locs lsA ⟨hx, hb, hml, hr, hlk, hown, hts, hKn, ⟨xn, xf, xs, xr, x1, x2, x3, x4, x5, x6⟩⟩ ⟨hn0, hP, hD, hS, hl, hl1⟩
  rcases x6 with x6 | x6
  · exact va_gets hx hb x6 hS hown (hts _ hlink) (fun _ q => q) hdg k1
  · exact va_gets hx hb x6 hS hown (hts _ hlink) (fun _ q => q) hdg k
def pmax (x y : Int32) : Int32 := if x < y then y else x
def pmin (x y : Int32) : Int32 := if y < x then y else x
def pabs (x : Int32) : Int32 := if 0 ≤ x then x else 0 - x
theorem E_mmax {idx : Nat} {x y : Int32} (hlink : Cond.methodLink own idx Lib.Math.max.name ∈ ws) (hst : Cond.static Lib.Math.max.name ∈ ws) (hini : Cond.initialized "java/lang/Math" ∈ ws) (hcode : Cond.code Lib.Math.max.name Lib.Math.max.code 2 (some .int) ∈ ws) (hd : 1 ≤ d) (h8 : st.length ≤ 8) (h1 : st.all p1 = true) (hdg : decode cc pc = .ok (.invokestatic idx, 3)) (kk : Ev l D dA ad ws cc own nL ret d n K (pc + 3) ls (.int (pmax x y) :: st) h) : Ev l D dA ad ws cc own nL ret d n K pc ls (.int y :: .int x :: st) h := by
  intro p e s m args below meth c H locs lsA E W0
  have k := kk p e s m args below meth c H locs lsA E W0
  obtain ⟨hx, hb, hml, hr, hlk, hown, hts, hKn, hX⟩ := E
  obtain ⟨hn0, hP, hD, hS, hl, hl1⟩ := W0
  have hcs := pcats (ad := ad) st h1
  exact va_mmax hx hb (hml.trans hl.1.symm) hown (hts _ hlink) (hts _ hst) (hts _ hini) (hts _ hcode) hd (by rw [hcs]; show st.length + 13 ≤ 64 * d; omega) (Nat.zero_le _) (Nat.zero_le _) hdg k
theorem E_mmin {idx : Nat} {x y : Int32} (hlink : Cond.methodLink own idx Lib.Math.min.name ∈ ws) (hst : Cond.static Lib.Math.min.name ∈ ws) (hini : Cond.initialized "java/lang/Math" ∈ ws) (hcode : Cond.code Lib.Math.min.name Lib.Math.min.code 2 (some .int) ∈ ws) (hd : 1 ≤ d) (h8 : st.length ≤ 8) (h1 : st.all p1 = true) (hdg : decode cc pc = .ok (.invokestatic idx, 3)) (kk : Ev l D dA ad ws cc own nL ret d n K (pc + 3) ls (.int (pmin x y) :: st) h) : Ev l D dA ad ws cc own nL ret d n K pc ls (.int y :: .int x :: st) h := by
  intro p e s m args below meth c H locs lsA E W0
  have k := kk p e s m args below meth c H locs lsA E W0
  obtain ⟨hx, hb, hml, hr, hlk, hown, hts, hKn, hX⟩ := E
  obtain ⟨hn0, hP, hD, hS, hl, hl1⟩ := W0
  have hcs := pcats (ad := ad) st h1
  exact va_mmin hx hb (hml.trans hl.1.symm) hown (hts _ hlink) (hts _ hst) (hts _ hini) (hts _ hcode) hd (by rw [hcs]; show st.length + 13 ≤ 64 * d; omega) (Nat.zero_le _) (Nat.zero_le _) hdg k
theorem E_mabs {idx : Nat} {x : Int32} (hlink : Cond.methodLink own idx Lib.Math.abs.name ∈ ws) (hst : Cond.static Lib.Math.abs.name ∈ ws) (hini : Cond.initialized "java/lang/Math" ∈ ws) (hcode : Cond.code Lib.Math.abs.name Lib.Math.abs.code 1 (some .int) ∈ ws) (hd : 1 ≤ d) (h8 : st.length ≤ 8) (h1 : st.all p1 = true) (hdg : decode cc pc = .ok (.invokestatic idx, 3)) (kk : Ev l D dA ad ws cc own nL ret d n K (pc + 3) ls (.int (pabs x) :: st) h) : Ev l D dA ad ws cc own nL ret d n K pc ls (.int x :: st) h := by
  intro p e s m args below meth c H locs lsA E W0
  have k := kk p e s m args below meth c H locs lsA E W0
  obtain ⟨hx, hb, hml, hr, hlk, hown, hts, hKn, hX⟩ := E
  obtain ⟨hn0, hP, hD, hS, hl, hl1⟩ := W0
  have hcs := pcats (ad := ad) st h1
  exact va_mabs hx hb (hml.trans hl.1.symm) hown (hts _ hlink) (hts _ hst) (hts _ hini) (hts _ hcode) hd (by rw [hcs]; show st.length + 13 ≤ 64 * d; omega) (Nat.zero_le _) (Nat.zero_le _) hdg k
theorem pnfw : nativeFrameWords "java/lang/System" "arraycopy" 5 ≤ 40 := by decide +kernel
theorem E_copy {idx q0 q1 n0 n1 i j k0 : Nat} {f g : Nat → Int32} {h' : List PC} (hlink : Cond.methodLink own idx arraycopyName ∈ ws) (hnat : Cond.native arraycopyName ∈ ws) (hst : Cond.static arraycopyName ∈ ws) (hini : Cond.initialized "java/lang/System" ∈ ws) (he0 : h[q0]? = some (.inl (0, n0, .inl f))) (he1 : h[q1]? = some (.inl (0, n1, .inl g))) (h4 : i + k0 ≤ n0) (h5 : j + k0 ≤ n1) (h6 : n0 < 2 ^ 31) (h7 : n1 < 2 ^ 31) (hd : 1 ≤ d) (h8 : st.length ≤ 8) (h1 : st.all p1 = true) (hdg : decode cc pc = .ok (.invokestatic idx, 3)) (hh : h.set q1 (.inl (0, n1, .inl (va_cpy f g i j k0))) = h') (kk : Ev l D dA ad ws cc own nL ret d n K (pc + 3) ls st h') : Ev l D dA ad ws cc own nL ret d n K pc ls (.int (nI k0) :: .int (nI j) :: .ref q1 :: .int (nI i) :: .ref q0 :: st) h := by
  intro p e s m args below meth c H locs lsA E W0
  have E0 := E
  obtain ⟨hx, hb, hml, hr, hlk, hown, hts, hKn, hX⟩ := E
  obtain ⟨hn0, hP, hD, hS, hl, hl1⟩ := W0
  have hcs := pcats (ad := ad) st h1
  have hnf := pnfw
  subst hh
  have ci : (nI i).toNatClampNeg = i := nI_clamp (by omega)
  have cj : (nI j).toNatClampNeg = j := nI_clamp (by omega)
  have ck : (nI k0).toNatClampNeg = k0 := nI_clamp (by omega)
  refine va_copyi hx hb (hml.trans hl.1.symm) hown (hts _ hlink) (hts _ hnat) (hts _ hst) (hts _ hini) hKn hP hD hS q0 q1 0 0 (c0 := dA 0) (c1 := dA 0) (n0 := n0) (n1 := n1) (f := f) (g := g) (ty := .int) (pwd_get he0) (pwd_get he1) rfl rfl rfl (nI_pos (by omega)) (nI_pos (by omega)) (nI_pos (by omega)) (by rw [ci, ck]; exact h4) (by rw [cj, ck]; exact h5) (fun _ _ => rfl) hd (by rw [hcs]; show st.length + (_ + 11) ≤ 64 * d; omega) hdg (fun H1 locs1 hP1 hD1 hS1 => ?_)
  rw [ci, cj, ck] at hP1 hD1
  have e9 : (pwd dA ad h).set q1 (ad q1, .inl (dA 0, n1, .inl (va_cpy f g i j k0))) = pwd dA ad (h.set q1 (.inl (0, n1, .inl (va_cpy f g i j k0)))) := by
    rw [← pwd_set]
    rfl
  rw [e9] at hP1 hD1
  exact kk p e s m args below meth c H1 locs1 lsA E0 ⟨by rw [List.length_set]; exact hn0, hP1, hD1, hS1, hl, hl1⟩
end ECALLS
