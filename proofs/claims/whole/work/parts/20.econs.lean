/-! CONSTRUCTORS: worlds that grow; the address map grows with them -/
def pvk (n : Nat) (v : Value) : Bool := match v with
  | .ref k => decide (k < n)
  | _ => true
def pokc (n : Nat) (q : PC) : Prop := match q with
  | .inl (_, _, .inr (.inr (.inr (.inr f)))) => ∀ j k : Nat, f j = some k → k < n
  | .inl _ => True
  | .inr (_, fs) => fs.all (pvk n) = true
def pokH (h : List PC) : Prop := ∀ q ∈ h, pokc h.length q
theorem pvk_le {n n' : Nat} (h : n ≤ n') {v : Value} (hv : pvk n v = true) : pvk n' v = true := by
  cases v <;> first | rfl | exact decide_eq_true (Nat.lt_of_lt_of_le (of_decide_eq_true hv) h)
theorem pvk_cv {n : Nat} {ad ad' : Nat → Nat} (ha : ∀ k, k < n → ad' k = ad k) {v : Value} (hv : pvk n v = true) : pcv ad' v = pcv ad v := by
  cases v with
  | ref k => exact congrArg Value.ref (ha k (of_decide_eq_true hv))
  | _ => rfl
theorem pokc_le {n n' : Nat} (h : n ≤ n') {q : PC} (hq : pokc n q) : pokc n' q := by
  rcases q with ⟨t, m, x⟩ | ⟨c, fs⟩
  · rcases x with f | f | f | f | f
    · trivial
    · trivial
    · trivial
    · trivial
    · exact fun j k e => Nat.lt_of_lt_of_le (hq j k e) h
  · exact List.all_eq_true.mpr fun v hv => pvk_le h (List.all_eq_true.mp hq v hv)
theorem pokc_cc {dA : Nat → ClassId} {n : Nat} {ad ad' : Nat → Nat} (ha : ∀ k, k < n → ad' k = ad k) {q : PC} (hq : pokc n q) : pcc dA ad' q = pcc dA ad q := by
  rcases q with ⟨t, m, x⟩ | ⟨c, fs⟩
  · rcases x with f | f | f | f | f
    · rfl
    · rfl
    · rfl
    · rfl
    · show (Sum.inl (dA t, (m, .inr (.inr (.inr (.inr (fun j => (f j).map ad')))))) : va_E) = .inl (dA t, (m, .inr (.inr (.inr (.inr (fun j => (f j).map ad))))))
      have e : (fun j => (f j).map ad') = (fun j => (f j).map ad) := funext fun j => by
        cases hj : f j with
        | none => rfl
        | some k => exact congrArg some (ha k (hq j k hj))
      rw [e]
  · show (Sum.inr (c, fs.map (pcv ad')) : va_E) = .inr (c, fs.map (pcv ad))
    rw [List.map_congr_left (fun v hv => pvk_cv ha (List.all_eq_true.mp hq v hv))]
theorem pwd_eq {dA : Nat → ClassId} {ad ad' : Nat → Nat} {h : List PC} (ha : ∀ k, k < h.length → ad' k = ad k) (hq : pokH h) : pwd dA ad' h = pwd dA ad h := by
  apply List.ext_getElem?
  intro k
  unfold pwd
  rw [List.getElem?_mapIdx, List.getElem?_mapIdx]
  cases e : h[k]? with
  | none => rfl
  | some q =>
    have h1 := ha k (List.getElem?_eq_some_iff.mp e).1
    have h2 : pcc dA ad' q = pcc dA ad q := pokc_cc ha (hq q (List.mem_of_getElem? e))
    show some (ad' k, pcc dA ad' q) = some (ad k, pcc dA ad q)
    rw [h1, h2]
theorem pwd_app {dA : Nat → ClassId} {ad : Nat → Nat} {h : List PC} {q : PC} : pwd dA ad (h ++ [q]) = pwd dA ad h ++ [(ad h.length, pcc dA ad q)] := by
  unfold pwd
  rw [List.mapIdx_append]
  simp
theorem pml_eq {n : Nat} {ad ad' : Nat → Nat} (ha : ∀ k, k < n → ad' k = ad k) {ls : List (Nat × Value)} (h : ls.all (fun q => pvk n q.2) = true) : pml ad' ls = pml ad ls := List.map_congr_left (fun q hq => by
  rw [pvk_cv ha (List.all_eq_true.mp h q hq)])
theorem pst_eq {n : Nat} {ad ad' : Nat → Nat} (ha : ∀ k, k < n → ad' k = ad k) {st : List Value} (h : st.all (pvk n) = true) : st.map (pcv ad') = st.map (pcv ad) := List.map_congr_left (fun v hv => pvk_cv ha (List.all_eq_true.mp h v hv))
theorem va_AOA.moved {ty : FieldType} {u U : State} (hvm : u.vm.Alike U.vm) (h : va_AOA ty u) : va_AOA ty U := by
  unfold va_AOA Cond.before Cond.holds at h ⊢
  simp only [Cond.value, beq_iff_eq] at h ⊢
  cases hc : u.vm.findClass (FieldType.array ty).toString with
  | none => simp [hc] at h
  | some comp =>
    simp only [hc, Option.bind_some, Option.bind_eq_some_iff, Option.map_eq_some_iff] at h
    obtain ⟨c, hi, k, hk, hb⟩ := h
    obtain ⟨k', hk', he⟩ := hvm.2.2 _ _ hk
    have q := (va_idx_bare u.vm comp).trans hi
    first | rw [hvm.bare_eq] at q | rw [← hvm.bare_eq] at q
    have hi' := (va_idx_bare U.vm comp).symm.trans q
    have f1 : U.vm.findClass (FieldType.array ty).toString = some comp := by rw [hvm.findClass]; exact hc
    have f2 : ∀ n : String, U.vm.findClass n = u.vm.findClass n := fun n => by rw [hvm.findClass]
    simp only [f1, Option.bind_some, Option.bind_eq_some_iff, Option.map_eq_some_iff]
    exact ⟨c, hi', k', hk', by rw [he, f2]; exact hb⟩
def pPrc (D : va_G) (dA : Nat → ClassId) (ad : Nat → Nat) (as : List Value) (h : List PC) (sz : Nat) : Array Value → State → Prop := fun v U => pPre D dA ad as h sz v U ∧ va_AOA .int U
theorem pPrc_blind {D : va_G} {dA : Nat → ClassId} {ad : Nat → Nat} {as : List Value} {h : List PC} {sz : Nat} : FrameBlind (pPrc D dA ad as h sz) := by
  intro a U g mk q
  exact ⟨pPre_blind a U g mk q.1, va_AOA.moved (u := U) (U := U.calling g mk a) (Vm.Alike.refl U.vm) q.2⟩
def pRc2 (d mc ms : Nat) : Room := { frames := d, cells := mc, slots := ms, locals := 64 * d }
def pBc (D : va_G) (dA : Nat → ClassId) (A : Nat → Prop) (h1 : List PC) (ad : Nat → Nat) (t : State) : Prop := va_P D vwCl (pwd dA ad h1) t.heap ∧ va_K D vwCl (pT dA) t ∧ va_D A (pwd dA ad h1)
def pag (n : Nat) (ad ad' : Nat → Nat) : Prop := ∀ k : Nat, k < n ∨ 1000 ≤ k → ad' k = ad k
def pKc (D : va_G) (dA : Nat → ClassId) (ad0 : Nat → Nat) (n0 : Nat) (h1 : List PC) : pK := fun sz => va_Qv (fun ad => pag n0 ad0 ad ∧ pokH h1) (pBc D dA (pA ad0 n0 sz) h1) (pA ad0 n0 sz)
/-- a constructor's contract: the world h becomes h1 -/
def Cc (l : Launch) (D : va_G) (dA : Nat → ClassId) (y : MethodName) (ws : List Cond) (d mc ms : Nat) (as : List Value) (h h1 : List PC) : Prop :=
  ∀ (ad0 : Nat → Nat) (sz : Nat), Met l y ws (pRc2 d mc ms) (pPrc D dA ad0 as h sz) (pKc D dA ad0 h.length h1 sz) mc ms (pA ad0 h.length sz)
theorem pX_ag {n : Nat} {ad ad' : Nat → Nat} {A : Nat → Prop} {U : State} {H : Heap} (ha : pag n ad ad') (h : pX ad A U H) : pX ad' A U H := by
  have e1 : (fun i => ad' (i + 1000)) = (fun i => ad (i + 1000)) := funext fun i => ha _ (Or.inr (by omega))
  have e2 : (fun i => ad' (i + 1100)) = (fun i => ad (i + 1100)) := funext fun i => ha _ (Or.inr (by omega))
  obtain ⟨hn, hf, h1, h2, h3, h4, h5, h6, h7, h8⟩ := h
  refine ⟨hn, hf, by rw [e1, e2]; exact h1, fun q hq => by rw [ha _ (Or.inr (by omega))]; exact h2 q hq, ?_, ?_, ?_, ?_, h7, ?_⟩
  · rw [ha 2000 (Or.inr (by decide))]; exact h3
  · rw [ha 2000 (Or.inr (by decide))]; exact h4
  · rw [ha 2001 (Or.inr (by decide))]; exact h5
  · rw [ha 2001 (Or.inr (by decide))]; exact h6
  · rw [ha 2002 (Or.inr (by decide))]; exact h8
def EHc (D : va_G) (dA : Nat → ClassId) (ad0 : Nat → Nat) (n0 : Nat) (ws : List Cond) (cc : ByteArray) (own : String) (nL : Nat) (p : Program) (s : State) (m : MethodId) (args : Array Value) (meth : Method) (c : Code) : Prop :=
  p.tables.exec = Jvm.exec ∧ c.code = cc ∧ c.maxLocals = nL ∧ meth.sig.returnType = none ∧ meth.locks = false ∧ s.vm.findClass own = some m.cls ∧ (∀ w ∈ ws, w.before args s = true) ∧ va_K D vwCl (pT dA) s ∧ pX ad0 (pA ad0 n0 s.heap.size) s s.heap ∧ meth.name = "<init>" ∧ va_AOA .int s
def EWc (D : va_G) (dA : Nat → ClassId) (ad0 : Nat → Nat) (n0 : Nat) (ad : Nat → Nat) (nL : Nat) (s : State) (h : List PC) (H : Heap) (locs : List Loc) (lsA : Array Slot) (ls : List (Nat × Value)) (st : List Value) : Prop :=
  pag n0 ad0 ad ∧ h.length ≤ 900 ∧ n0 ≤ h.length ∧ va_P D vwCl (pwd dA ad h) H ∧ va_D (pA ad0 n0 s.heap.size) (pwd dA ad h) ∧ va_S (pA ad0 n0 s.heap.size) s.heap H locs ∧ lv_has lsA nL (pml ad ls) ∧ ls.all (fun q => p1 q.2) = true ∧ pokH h ∧ ls.all (fun q => pvk h.length q.2) = true ∧ st.all (pvk h.length) = true
def Ec (l : Launch) (D : va_G) (dA : Nat → ClassId) (ws : List Cond) (cc : ByteArray) (own : String) (nL d mc ms n0 : Nat) (h1 : List PC) (cells slots pc : Nat) (ls : List (Nat × Value)) (st : List Value) (h : List PC) : Prop :=
  ∀ (ad0 ad : Nat → Nat) (p : Program) (e : Env) (s : State) (m : MethodId) (args : Array Value) (below : List Frame) (meth : Method) (c : Code) (H : Heap) (locs : List Loc) (lsA : Array Slot),
    EHc D dA ad0 n0 ws cc own nL p s m args meth c → EWc D dA ad0 n0 ad nL s h H locs lsA ls st → W p l e (pRc2 d mc ms) s m args below meth c H locs cells slots (MQ below (pKc D dA ad0 n0 h1 s.heap.size) args s mc ms (pA ad0 n0 s.heap.size)) (F0 m pc lsA (st.map (pcv ad)))
section CROWS
variable {l : Launch} {D : va_G} {dA : Nat → ClassId} {ws : List Cond} {cc : ByteArray} {own : String} {nL d mc ms n0 : Nat} {h1 : List PC} {cells slots pc : Nat} {ls : List (Nat × Value)} {st : List Value} {h : List PC}
theorem Cc_of {y : MethodName} {np : Nat} {as : List Value} (hF : pMF y ws cc nL none np) (ho : y.cls = own) (hin : y.name = "<init>") (h1p : as.all p1 = true) (hlen : as.length ≤ nL) (hs : pargs 0 as = ls) (hok : pokH h) (hlen2 : h.length ≤ 900) (hpv : as.all (pvk h.length) = true) (hpl : ls.all (fun q => pvk h.length q.2) = true) (body : Ec l D dA ws cc own nL d mc ms h.length h1 0 0 0 ls [] h) : Cc l D dA y ws d mc ms as h h1 := by
  subst ho; subst hs
  obtain ⟨⟨ws', hw⟩, hy, -⟩ := hF
  intro ad0 sz
  refine Met.ofW (cc := cc) (maxL := nL) (ret := none) hy hw ?_
  intro p e s m args below meth c s₁ B hml hv
  obtain ⟨⟨rfl, hsz, hP, hK, hD0, hX⟩, hAO⟩ := hv
  subst hsz
  have hl := lv_entry (as.map (pcv ad0)) (n := nL) (by rw [psl_len as h1p]; exact hlen)
  rw [lg_entry_eq]
  rw [pargs_eq as 0 h1p] at hl
  generalize (lg_sl (as.map (pcv ad0)) ++ List.replicate (nL - (lg_sl (as.map (pcv ad0))).length) Slot.unset).toArray = lsA at hl ⊢
  exact body ad0 ad0 p e s m _ below meth c s.heap [] lsA ⟨B.exec, B.bytes, hml, B.returns, B.notSynchronized, findClass_of_methodNamed B.named, atoms_spec (ws := ws) B.pre, hK, hX, (name_of_methodNamed B.named B.method).1.trans hin, hAO⟩ ⟨fun _ _ => rfl, hlen2, Nat.le_refl _, hP, pD_self rfl hD0, va_S.rf, hl, pargs_p1 as 0 h1p, hok, hpl, rfl⟩
theorem C_iconst {i : Int} {v : Int32} (hdg : decode cc pc = .ok (.iconst i, 1)) (hv : Int32.ofInt i = v) (kk : Ec l D dA ws cc own nL d mc ms n0 h1 cells slots (pc + 1) ls (.int v :: st) h) : Ec l D dA ws cc own nL d mc ms n0 h1 cells slots pc ls st h := by
  intro ad0 ad p e s m args below meth c H locs lsA E W0
  have E0 := E
  have W1 := W0
  obtain ⟨hx, hb, hml, hr, hlk, hown, hts, hKn, hX, hin, hAO⟩ := E
  obtain ⟨hag, hh9, hn0, hP, hD, hS, hl, hl1, hok, hol, hos⟩ := W0
  exact lv_iconst hx hb hdg hv (kk ad0 ad p e s m args below meth c H locs lsA E0 ⟨hag, hh9, hn0, hP, hD, hS, hl, hl1, hok, hol, by rw [List.all_cons, hos, show pvk h.length (.int v) = true from rfl]; rfl⟩)
theorem C_bipush {i : Int} {v : Int32} (hdg : decode cc pc = .ok (.bipush i, 2)) (hv : (Int8.ofInt i).toInt32 = v) (kk : Ec l D dA ws cc own nL d mc ms n0 h1 cells slots (pc + 2) ls (.int v :: st) h) : Ec l D dA ws cc own nL d mc ms n0 h1 cells slots pc ls st h := by
  intro ad0 ad p e s m args below meth c H locs lsA E W0
  have E0 := E
  have W1 := W0
  obtain ⟨hx, hb, hml, hr, hlk, hown, hts, hKn, hX, hin, hAO⟩ := E
  obtain ⟨hag, hh9, hn0, hP, hD, hS, hl, hl1, hok, hol, hos⟩ := W0
  exact lv_bipush hx hb hdg hv (kk ad0 ad p e s m args below meth c H locs lsA E0 ⟨hag, hh9, hn0, hP, hD, hS, hl, hl1, hok, hol, by rw [List.all_cons, hos, show pvk h.length (.int v) = true from rfl]; rfl⟩)
theorem C_sipush {i : Int} {v : Int32} (hdg : decode cc pc = .ok (.sipush i, 3)) (hv : (Int16.ofInt i).toInt32 = v) (kk : Ec l D dA ws cc own nL d mc ms n0 h1 cells slots (pc + 3) ls (.int v :: st) h) : Ec l D dA ws cc own nL d mc ms n0 h1 cells slots pc ls st h := by
  intro ad0 ad p e s m args below meth c H locs lsA E W0
  have E0 := E
  have W1 := W0
  obtain ⟨hx, hb, hml, hr, hlk, hown, hts, hKn, hX, hin, hAO⟩ := E
  obtain ⟨hag, hh9, hn0, hP, hD, hS, hl, hl1, hok, hol, hos⟩ := W0
  exact lv_sipush hx hb hdg hv (kk ad0 ad p e s m args below meth c H locs lsA E0 ⟨hag, hh9, hn0, hP, hD, hS, hl, hl1, hok, hol, by rw [List.all_cons, hos, show pvk h.length (.int v) = true from rfl]; rfl⟩)
theorem C_aload_n {k0 : Fin 4} {x : Nat} (hdg : decode cc pc = .ok (.aload_n k0, 1)) (hg : pg ls k0 = some (.ref x)) (kk : Ec l D dA ws cc own nL d mc ms n0 h1 cells slots (pc + 1) ls (.ref x :: st) h) : Ec l D dA ws cc own nL d mc ms n0 h1 cells slots pc ls st h := by
  intro ad0 ad p e s m args below meth c H locs lsA E W0
  have E0 := E
  have W1 := W0
  obtain ⟨hx, hb, hml, hr, hlk, hown, hts, hKn, hX, hin, hAO⟩ := E
  obtain ⟨hag, hh9, hn0, hP, hD, hS, hl, hl1, hok, hol, hos⟩ := W0
  exact lv_aload_n hx hb hdg rfl (pg_has hl hg) (kk ad0 ad p e s m args below meth c H locs lsA E0 ⟨hag, hh9, hn0, hP, hD, hS, hl, hl1, hok, hol, by rw [List.all_cons, hos, List.all_eq_true.mp hol _ (pg_mem hg)]; rfl⟩)
theorem C_iload_n {k0 : Fin 4} {x : Int32} (hdg : decode cc pc = .ok (.iload_n k0, 1)) (hg : pg ls k0 = some (.int x)) (kk : Ec l D dA ws cc own nL d mc ms n0 h1 cells slots (pc + 1) ls (.int x :: st) h) : Ec l D dA ws cc own nL d mc ms n0 h1 cells slots pc ls st h := by
  intro ad0 ad p e s m args below meth c H locs lsA E W0
  have E0 := E
  have W1 := W0
  obtain ⟨hx, hb, hml, hr, hlk, hown, hts, hKn, hX, hin, hAO⟩ := E
  obtain ⟨hag, hh9, hn0, hP, hD, hS, hl, hl1, hok, hol, hos⟩ := W0
  exact lv_iload_n hx hb hdg rfl (pg_has hl hg) (kk ad0 ad p e s m args below meth c H locs lsA E0 ⟨hag, hh9, hn0, hP, hD, hS, hl, hl1, hok, hol, by rw [List.all_cons, hos, show pvk h.length (.int x) = true from rfl]; rfl⟩)
theorem C_dup {v : Value} (hdg : decode cc pc = .ok (.dup, 1)) (h1p : p1 v = true) (kk : Ec l D dA ws cc own nL d mc ms n0 h1 cells slots (pc + 1) ls (v :: v :: st) h) : Ec l D dA ws cc own nL d mc ms n0 h1 cells slots pc ls (v :: st) h := by
  intro ad0 ad p e s m args below meth c H locs lsA E W0
  have E0 := E
  have W1 := W0
  obtain ⟨hx, hb, hml, hr, hlk, hown, hts, hKn, hX, hin, hAO⟩ := E
  obtain ⟨hag, hh9, hn0, hP, hD, hS, hl, hl1, hok, hol, hos⟩ := W0
  have h9 := hos
  rw [List.all_cons, Bool.and_eq_true] at h9
  exact lv_dup hx hb hdg (by rw [pcv_cat]; exact p1_cat h1p) (kk ad0 ad p e s m args below meth c H locs lsA E0 ⟨hag, hh9, hn0, hP, hD, hS, hl, hl1, hok, hol, by rw [List.all_cons, hos, h9.1]; rfl⟩)
theorem C_istore_n {k0 : Fin 4} {x : Int32} {ls' : List (Nat × Value)} (hdg : decode cc pc = .ok (.istore_n k0, 1)) (hn : k0 < nL) (hs : pst ls k0 (.int x) = ls') (kk : Ec l D dA ws cc own nL d mc ms n0 h1 cells slots (pc + 1) ls' st h) : Ec l D dA ws cc own nL d mc ms n0 h1 cells slots pc ls (.int x :: st) h := by
  intro ad0 ad p e s m args below meth c H locs lsA E W0
  have E0 := E
  have W1 := W0
  obtain ⟨hx, hb, hml, hr, hlk, hown, hts, hKn, hX, hin, hAO⟩ := E
  obtain ⟨hag, hh9, hn0, hP, hD, hS, hl, hl1, hok, hol, hos⟩ := W0
  subst hs
  have h9 := hos
  rw [List.all_cons, Bool.and_eq_true] at h9
  refine lv_istore_n (lv := pml ad ls) hx hb hdg rfl hl hn rfl (fun lsB hlB => ?_)
  exact kk ad0 ad p e s m args below meth c H locs lsB E0 ⟨hag, hh9, hn0, hP, hD, hS, pst_has (v := .int x) hlB hl1, List.all_eq_true.mpr fun q hq => by
    rcases pst_mem hq with e1 | e1
    · rw [e1]; rfl
    · exact List.all_eq_true.mp hl1 q e1.1, hok, List.all_eq_true.mpr fun q hq => by
    rcases pst_mem hq with e1 | e1
    · rw [e1]; rfl
    · exact List.all_eq_true.mp hol q e1.1, h9.2⟩
theorem C_iinc {k0 : Nat} {i : Int} {x v : Int32} {ls' : List (Nat × Value)} (hdg : decode cc pc = .ok (.iinc k0 i, 3)) (hg : pg ls k0 = some (.int x)) (hv : x + Int32.ofInt i = v) (hn : k0 < nL) (hs : pst ls k0 (.int v) = ls') (kk : Ec l D dA ws cc own nL d mc ms n0 h1 cells slots (pc + 3) ls' st h) : Ec l D dA ws cc own nL d mc ms n0 h1 cells slots pc ls st h := by
  intro ad0 ad p e s m args below meth c H locs lsA E W0
  have E0 := E
  have W1 := W0
  obtain ⟨hx, hb, hml, hr, hlk, hown, hts, hKn, hX, hin, hAO⟩ := E
  obtain ⟨hag, hh9, hn0, hP, hD, hS, hl, hl1, hok, hol, hos⟩ := W0
  subst hs
  obtain ⟨k9, hk9⟩ := List.getElem?_of_mem (List.mem_map.mpr ⟨(k0, .int x), pg_mem hg, rfl⟩ : (k0, pcv ad (.int x)) ∈ pml ad ls)
  refine lv_iinc (lv := pml ad ls) hx hb hdg hl hk9 hv hn rfl (fun lsB hlB => ?_)
  exact kk ad0 ad p e s m args below meth c H locs lsB E0 ⟨hag, hh9, hn0, hP, hD, hS, pst_has (v := .int v) hlB hl1, List.all_eq_true.mpr fun q hq => by
    rcases pst_mem hq with e1 | e1
    · rw [e1]; rfl
    · exact List.all_eq_true.mp hl1 q e1.1, hok, List.all_eq_true.mpr fun q hq => by
    rcases pst_mem hq with e1 | e1
    · rw [e1]; rfl
    · exact List.all_eq_true.mp hol q e1.1, hos⟩
theorem C_icmp_ge {x y : Int32} {off : Int} {tgt : Nat} (hdg : decode cc pc = .ok (.if_icmp .ge off, 3)) (ht : (pc : Int) + off = (tgt : Int)) (kt : y ≤ x → Ec l D dA ws cc own nL d mc ms n0 h1 cells slots tgt ls st h) (kf : ¬ y ≤ x → Ec l D dA ws cc own nL d mc ms n0 h1 cells slots (pc + 3) ls st h) : Ec l D dA ws cc own nL d mc ms n0 h1 cells slots pc ls (.int y :: .int x :: st) h := by
  intro ad0 ad p e s m args below meth c H locs lsA E W0
  have E0 := E
  have W1 := W0
  obtain ⟨hx, hb, hml, hr, hlk, hown, hts, hKn, hX, hin, hAO⟩ := E
  obtain ⟨hag, hh9, hn0, hP, hD, hS, hl, hl1, hok, hol, hos⟩ := W0
  rw [List.all_cons, List.all_cons, Bool.and_eq_true, Bool.and_eq_true] at hos
  exact lv_icmp_ge hx hb hdg ht (fun q => kt q ad0 ad p e s m args below meth c H locs lsA E0 ⟨hag, hh9, hn0, hP, hD, hS, hl, hl1, hok, hol, hos.2.2⟩) (fun q => kf q ad0 ad p e s m args below meth c H locs lsA E0 ⟨hag, hh9, hn0, hP, hD, hS, hl, hl1, hok, hol, hos.2.2⟩)
theorem C_goto {off : Int} {tgt : Nat} (hdg : decode cc pc = .ok (.goto off, 3)) (ht : (pc : Int) + off = (tgt : Int)) (kk : Ec l D dA ws cc own nL d mc ms n0 h1 cells slots tgt ls st h) : Ec l D dA ws cc own nL d mc ms n0 h1 cells slots pc ls st h := by
  intro ad0 ad p e s m args below meth c H locs lsA E W0
  have E0 := E
  have W1 := W0
  obtain ⟨hx, hb, hml, hr, hlk, hown, hts, hKn, hX, hin, hAO⟩ := E
  obtain ⟨hag, hh9, hn0, hP, hD, hS, hl, hl1, hok, hol, hos⟩ := W0
  exact lv_goto hx hb hdg ht (kk ad0 ad p e s m args below meth c H locs lsA E0 W1)
theorem C_objInit {idx b : Nat} (hlink : Cond.methodLink own idx objectInit ∈ ws) (hinst : Cond.instanceMethod objectInit ∈ ws) (hcode : Cond.code objectInit ⟨#[0xb1]⟩ 1 none ∈ ws) (hd : 1 ≤ d) (h1s : st.all p1 = true) (h8 : st.length ≤ 8) (hdg : decode cc pc = .ok (.invokespecial idx, 3)) (kk : Ec l D dA ws cc own nL d mc ms n0 h1 cells slots (pc + 3) ls st h) : Ec l D dA ws cc own nL d mc ms n0 h1 cells slots pc ls (.ref b :: st) h := by
  intro ad0 ad p e s m args below meth c H locs lsA E W0
  have E0 := E
  have W1 := W0
  obtain ⟨hx, hb, hml, hr, hlk, hown, hts, hKn, hX, hin, hAO⟩ := E
  obtain ⟨hag, hh9, hn0, hP, hD, hS, hl, hl1, hok, hol, hos⟩ := W0
  rw [List.all_cons, Bool.and_eq_true] at hos
  have hcs := pcats (ad := ad) st h1s
  refine W.objInit hx hb hown (hts _ hlink) (hts _ hinst) (hts _ hcode) rfl (by rw [hml]; exact hl.1) rfl hdg hd (by rw [hcs]; show 2 * 0 + st.length + 12 ≤ 64 * d; omega) ?_
  exact kk ad0 ad p e s m args below meth c H locs lsA E0 ⟨hag, hh9, hn0, hP, hD, hS, hl, hl1, hok, hol, hos.2⟩
theorem C_getf {idx q0 ci k0 : Nat} {fs : List Value} {v : Value} (hdg : decode cc pc = .ok (.getfield idx, 3)) (hF : pFL ws own idx ci k0) (he : h[q0]? = some (.inr (ci, fs))) (hv : fs[k0]? = some v) (kk : Ec l D dA ws cc own nL d mc ms n0 h1 cells slots (pc + 3) ls (v :: st) h) : Ec l D dA ws cc own nL d mc ms n0 h1 cells slots pc ls (.ref q0 :: st) h := by
  intro ad0 ad p e s m args below meth c H locs lsA E W0
  have E0 := E
  have W1 := W0
  obtain ⟨hx, hb, hml, hr, hlk, hown, hts, hKn, hX, hin, hAO⟩ := E
  obtain ⟨hag, hh9, hn0, hP, hD, hS, hl, hl1, hok, hol, hos⟩ := W0
  rw [List.all_cons, Bool.and_eq_true] at hos
  obtain ⟨C, T, N, g1, g2, g3, g4⟩ := hF
  have hv2 : (fs.map (pcv ad))[k0]? = some (pcv ad v) := by rw [List.getElem?_map, hv]; rfl
  have hvk : pvk h.length v = true := List.all_eq_true.mp (hok _ (List.mem_of_getElem? he)) v (List.mem_of_getElem? hv)
  exact va_get hx hb hts g1 hown hKn hP q0 (fs := fs.map (pcv ad)) (pwd_get he) g2 k0 g3 (hts _ g4) (fun _ h9 => h9) hv2 hdg (kk ad0 ad p e s m args below meth c H locs lsA E0 ⟨hag, hh9, hn0, hP, hD, hS, hl, hl1, hok, hol, by rw [List.all_cons, hos.2, hvk]; rfl⟩)
def pFTf (ci k : Nat) (ty : FieldType) : Prop := ∃ (C : String) (T : u_T) (N : Nat) (ty0 : Nat → FieldType), vwCl[ci]? = some (C, T, N) ∧ k < N ∧ (∀ k, k < N → parseFieldDescriptor (T k).2.2.1 = some (ty0 k)) ∧ (∀ a, a < N → ∀ b, b < N → a ≠ b → (T a).2.1 ≠ (T b).2.1) ∧ (T k).2.2.2 = true ∧ (T k).1 = C ∧ parseFieldDescriptor (T k).2.2.1 = some ty
theorem pokH_set {h : List PC} {q : Nat} {x : PC} (hok : pokH h) (hx : pokc h.length x) : pokH (h.set q x) := fun y hy => by
  rw [List.length_set]
  rcases List.mem_or_eq_of_mem_set hy with e | e
  · exact hok y e
  · rw [e]; exact hx
theorem pfs_set {n k : Nat} {fs : List Value} {v : Value} (hf : fs.all (pvk n) = true) (hv : pvk n v = true) : (fs.set k v).all (pvk n) = true := List.all_eq_true.mpr fun y hy => by
  rcases List.mem_or_eq_of_mem_set hy with e | e
  · exact List.all_eq_true.mp hf y e
  · rw [e]; exact hv
theorem C_putf {idx q0 ci k0 : Nat} {fs : List Value} {v : Value} {ty : FieldType} {h' : List PC} (hdg : decode cc pc = .ok (.putfield idx, 3)) (hF : pFL ws own idx ci k0) (hT : pFT ci k0 ty) (he : h[q0]? = some (.inr (ci, fs))) (hk : k0 < fs.length) (hnr : ∀ ad, narrow ty (pcv ad v) = pcv ad v) (hft : ∀ ad, fits ty (pcv ad v) = true) (hh : h.set q0 (.inr (ci, fs.set k0 v)) = h') (kk : Ec l D dA ws cc own nL d mc ms n0 h1 cells slots (pc + 3) ls st h') : Ec l D dA ws cc own nL d mc ms n0 h1 cells slots pc ls (v :: .ref q0 :: st) h := by
  intro ad0 ad p e s m args below meth c H locs lsA E W0
  have E0 := E
  have W1 := W0
  obtain ⟨hx, hb, hml, hr, hlk, hown, hts, hKn, hX, hin, hAO⟩ := E
  obtain ⟨hag, hh9, hn0, hP, hD, hS, hl, hl1, hok, hol, hos⟩ := W0
  rw [List.all_cons, List.all_cons, Bool.and_eq_true, Bool.and_eq_true] at hos
  obtain ⟨C, T, N, g1, g2, g3, g4⟩ := hF
  obtain ⟨C9, T9, N9, ty0, f1, f2, f3, f4, f5, f6⟩ := hT
  rw [g2] at f1
  cases f1
  subst hh
  refine va_put (v := pcv ad v) hx hb hts g1 ty0 f3 f4 hown hKn hP hD hS q0 (fs := fs.map (pcv ad)) (pwd_get he) g2 k0 g3 (hts _ g4) (fun _ h9 => h9) f5 f6 (hnr ad) (hft ad) (by rw [List.length_map]; exact hk) hdg (fun H1 locs1 hP1 hD1 hS1 => ?_)
  have e9 : (pwd dA ad h).set q0 (ad q0, .inr (ci, (fs.map (pcv ad)).set k0 (pcv ad v))) = pwd dA ad (h.set q0 (.inr (ci, fs.set k0 v))) := by
    rw [← pwd_set]
    show _ = (pwd dA ad h).set q0 (ad q0, .inr (ci, (fs.set k0 v).map (pcv ad)))
    rw [List.map_set]
  rw [e9] at hP1 hD1
  exact kk ad0 ad p e s m args below meth c H1 locs1 lsA E0 ⟨hag, by rw [List.length_set]; exact hh9, by rw [List.length_set]; exact hn0, hP1, hD1, hS1, hl, hl1, pokH_set hok (pfs_set (hok _ (List.mem_of_getElem? he)) hos.1), by rw [List.length_set]; exact hol, by rw [List.length_set]; exact hos.2.2⟩
theorem C_putfF {idx q0 ci k0 : Nat} {fs : List Value} {v : Value} {ty : FieldType} {h' : List PC} (hdg : decode cc pc = .ok (.putfield idx, 3)) (hF : pFL ws own idx ci k0) (hT : pFTf ci k0 ty) (he : h[q0]? = some (.inr (ci, fs))) (hk : k0 < fs.length) (hnr : ∀ ad, narrow ty (pcv ad v) = pcv ad v) (hft : ∀ ad, fits ty (pcv ad v) = true) (hown2 : (vwCl[ci]?).map (fun q => q.1) = some own) (hh : h.set q0 (.inr (ci, fs.set k0 v)) = h') (kk : Ec l D dA ws cc own nL d mc ms n0 h1 cells slots (pc + 3) ls st h') : Ec l D dA ws cc own nL d mc ms n0 h1 cells slots pc ls (v :: .ref q0 :: st) h := by
  intro ad0 ad p e s m args below meth c H locs lsA E W0
  have E0 := E
  have W1 := W0
  obtain ⟨hx, hb, hml, hr, hlk, hown, hts, hKn, hX, hin, hAO⟩ := E
  obtain ⟨hag, hh9, hn0, hP, hD, hS, hl, hl1, hok, hol, hos⟩ := W0
  rw [List.all_cons, List.all_cons, Bool.and_eq_true, Bool.and_eq_true] at hos
  obtain ⟨C, T, N, g1, g2, g3, g4⟩ := hF
  obtain ⟨C9, T9, N9, ty0, f1, f2, f3, f4, f5, f7, f6⟩ := hT
  rw [g2] at f1
  cases f1
  subst hh
  have ho : C = own := by rw [g2] at hown2; exact Option.some.inj hown2
  refine va_putF (v := pcv ad v) hx hb hts g1 ty0 f3 f4 hown hKn hP hD hS q0 (fs := fs.map (pcv ad)) (pwd_get he) g2 k0 g3 (hts _ g4) (fun _ h9 => h9) f5 hin (f7.trans ho) f6 (hnr ad) (hft ad) (by rw [List.length_map]; exact hk) hdg (fun H1 locs1 hP1 hD1 hS1 => ?_)
  have e9 : (pwd dA ad h).set q0 (ad q0, .inr (ci, (fs.map (pcv ad)).set k0 (pcv ad v))) = pwd dA ad (h.set q0 (.inr (ci, fs.set k0 v))) := by
    rw [← pwd_set]
    show _ = (pwd dA ad h).set q0 (ad q0, .inr (ci, (fs.set k0 v).map (pcv ad)))
    rw [List.map_set]
  rw [e9] at hP1 hD1
  exact kk ad0 ad p e s m args below meth c H1 locs1 lsA E0 ⟨hag, by rw [List.length_set]; exact hh9, by rw [List.length_set]; exact hn0, hP1, hD1, hS1, hl, hl1, pokH_set hok (pfs_set (hok _ (List.mem_of_getElem? he)) hos.1), by rw [List.length_set]; exact hol, by rw [List.length_set]; exact hos.2.2⟩
theorem C_iast {q0 nn j : Nat} {f : Nat → Int32} {x : Int32} {h' : List PC} (hdg : decode cc pc = .ok (.iastore, 1)) (he : h[q0]? = some (.inl (0, nn, .inl f))) (hj : j < nn) (hn9 : nn < 2 ^ 31) {i : Int32} (hi : i = nI j) (hh : h.set q0 (.inl (0, nn, .inl (upd f j x))) = h') (kk : Ec l D dA ws cc own nL d mc ms n0 h1 cells slots (pc + 1) ls st h') : Ec l D dA ws cc own nL d mc ms n0 h1 cells slots pc ls (.int x :: .int i :: .ref q0 :: st) h := by
  intro ad0 ad p e s m args below meth c H locs lsA E W0
  have E0 := E
  have W1 := W0
  obtain ⟨hx, hb, hml, hr, hlk, hown, hts, hKn, hX, hin, hAO⟩ := E
  obtain ⟨hag, hh9, hn0, hP, hD, hS, hl, hl1, hok, hol, hos⟩ := W0
  rw [List.all_cons, List.all_cons, List.all_cons, Bool.and_eq_true, Bool.and_eq_true, Bool.and_eq_true] at hos
  subst hh
  subst hi
  have ci : (nI j).toNatClampNeg = j := nI_clamp (by omega)
  refine va_iast hx hb hKn hP hD hS q0 0 (cA := dA 0) (n := nn) (f := f) (pwd_get he) rfl (vp_in_nI hj hn9) hdg (fun H1 locs1 hP1 hD1 hS1 => ?_)
  rw [ci] at hP1 hD1
  have e9 : (pwd dA ad h).set q0 (ad q0, .inl (dA 0, nn, .inl (upd f j x))) = pwd dA ad (h.set q0 (.inl (0, nn, .inl (upd f j x)))) := by
    rw [← pwd_set]
    rfl
  rw [e9] at hP1 hD1
  exact kk ad0 ad p e s m args below meth c H1 locs1 lsA E0 ⟨hag, by rw [List.length_set]; exact hh9, by rw [List.length_set]; exact hn0, hP1, hD1, hS1, hl, hl1, pokH_set hok trivial, by rw [List.length_set]; exact hol, by rw [List.length_set]; exact hos.2.2.2⟩
/-- the world grows by a cell: the address map too -/
theorem pgrow {ad0 ad : Nat → Nat} {s : State} {H H1 : Heap} {locs : List Loc} {lsA : Array Slot} {x : PC} {q : Nat} (W0 : EWc D dA ad0 n0 ad nL s h H locs lsA ls st) (h9 : h.length + 1 ≤ 900) (hx : pokc (h.length + 1) x) (hP1 : va_P D vwCl (pwd dA ad h ++ [(q, pcc dA (va_up ad h.length q) x)]) H1) (hD1 : va_D (pA ad0 n0 s.heap.size) (pwd dA ad h ++ [(q, pcc dA (va_up ad h.length q) x)])) (hS1 : va_S (pA ad0 n0 s.heap.size) s.heap H1 locs) :
    EWc D dA ad0 n0 (va_up ad h.length q) nL s (h ++ [x]) H1 locs lsA ls (.ref h.length :: st) ∧ (Value.ref h.length :: st).map (pcv (va_up ad h.length q)) = .ref q :: st.map (pcv ad) := by
  obtain ⟨hag, hh9, hn0, hP, hD, hS, hl, hl1, hok, hol, hos⟩ := W0
  have hup : ∀ k, k < h.length → va_up ad h.length q k = ad k := fun k hk => by
    unfold va_up
    rw [if_neg (by omega)]
  have hq : va_up ad h.length q h.length = q := by unfold va_up; rw [if_pos rfl]
  have hw : pwd dA (va_up ad h.length q) (h ++ [x]) = pwd dA ad h ++ [(q, pcc dA (va_up ad h.length q) x)] := by
    rw [pwd_app, pwd_eq hup hok, hq]
  have hlen : (h ++ [x]).length = h.length + 1 := by rw [List.length_append]; rfl
  refine ⟨⟨fun k hk => ?_, by rw [hlen]; exact h9, by rw [hlen]; omega, by rw [hw]; exact hP1, by rw [hw]; exact hD1, hS1, by rw [pml_eq hup hol]; exact hl, hl1, fun y hy => ?_, ?_, ?_⟩, ?_⟩
  · have e : va_up ad h.length q k = ad k := by
      unfold va_up
      rw [if_neg (by omega)]
    rw [e]
    exact hag k hk
  · rw [hlen]
    rcases List.mem_append.mp hy with e | e
    · exact pokc_le (Nat.le_succ _) (hok y e)
    · rw [List.mem_singleton.mp e]; exact hx
  · rw [hlen]
    exact List.all_eq_true.mpr fun y hy => pvk_le (Nat.le_succ _) (List.all_eq_true.mp hol y hy)
  · rw [hlen, List.all_cons, Bool.and_eq_true]
    exact ⟨decide_eq_true (Nat.lt_succ_self _), List.all_eq_true.mpr fun y hy => pvk_le (Nat.le_succ _) (List.all_eq_true.mp hos y hy)⟩
  · rw [List.map_cons, pst_eq hup hos]
    show Value.ref (va_up ad h.length q h.length) :: _ = _
    rw [hq]
theorem C_new {idx ci nf : Nat} {C : String} {T : u_T} {ty0 : Nat → FieldType} {fs : List Value} {h' : List PC} {b : Nat} (hw : ∀ w ∈ u_ws C T nf, w ∈ ws) (hty : ∀ k, k < nf → parseFieldDescriptor (T k).2.2.1 = some (ty0 k)) (hcl : Cond.classLink own idx C ∈ ws) (hinst : Cond.instantiable C nf ∈ ws) (hini : Cond.initialized C ∈ ws) (hc : vwCl[ci]? = some (C, T, nf)) (hfs : ∀ j, j < nf → defaultValue (ty0 j) = vp_V fs j) (hfr : fs.all (fun v => pvk 0 v) = true) (hcells : cells + 1 ≤ mc) (hslots : slots + nf ≤ ms) (h9 : h.length + 1 ≤ 900) (hdg : decode cc pc = .ok (.new idx, 3)) (hb9 : h.length = b) (hh : h ++ [.inr (ci, fs)] = h') (kk : Ec l D dA ws cc own nL d mc ms n0 h1 (cells + 1) (slots + nf) (pc + 3) ls (.ref b :: st) h') : Ec l D dA ws cc own nL d mc ms n0 h1 cells slots pc ls st h := by
  intro ad0 ad p e s m args below meth c H locs lsA E W0
  have E0 := E
  have W1 := W0
  obtain ⟨hx, hb, hml, hr, hlk, hown, hts, hKn, hX, hin, hAO⟩ := E
  obtain ⟨hag, hh9, hn0, hP, hD, hS, hl, hl1, hok, hol, hos⟩ := W0
  subst hh
  subst hb9
  refine va_new (fs := fs) hx hb hts hw ty0 hty hown (hts _ hcl) (hts _ hinst) (hts _ hini) hKn hP hD hS (fun q hq => Or.inr hq) hc hfs hcells hslots hdg (fun q H1 hP1 hD1 hS1 => ?_)
  have e1 : pcc dA (va_up ad h.length q) (.inr (ci, fs)) = .inr (ci, fs) := by
    show (Sum.inr (ci, fs.map _) : va_E) = _
    have : fs.map (pcv (va_up ad h.length q)) = fs := by
      rw [List.map_congr_left (g := id) (fun v hv => by
        have := List.all_eq_true.mp hfr v hv
        cases v <;> first | rfl | (simp [pvk] at this))]
      exact List.map_id fs
    rw [this]
  obtain ⟨g1, g2⟩ := pgrow (x := .inr (ci, fs)) W1 h9 (List.all_eq_true.mpr fun v hv => pvk_le (Nat.zero_le _) (List.all_eq_true.mp hfr v hv)) (by rw [e1]; exact hP1) (by rw [e1]; exact hD1) hS1
  rw [← g2]
  exact kk ad0 _ p e s m args below meth c H1 locs lsA E0 g1
theorem C_newa {atype : ArrayType} {t nn : Nat} {ty : FieldType} {i : Int32} {h' : List PC} {b : Nat} (harr : Cond.arrayClass (newarray.typeOf atype) ∈ ws) (hty : newarray.typeOf atype = ty) (ht : (pT dA)[t]? = some (dA t, ty)) (hprim : ∀ C, ty ≠ .object C) (hdv : defaultValue ty = .int 0) (hi : i = nI nn) (hn : nn < 2 ^ 20) (hbytes : nn * componentBytes ty ≤ 536870912) (hcells : cells + 1 ≤ mc) (hslots : slots + nn ≤ ms) (h9 : h.length + 1 ≤ 900) (hdg : decode cc pc = .ok (.newarray atype, 2)) (hb9 : h.length = b) (hh : h ++ [.inl (t, nn, .inl (fun _ => 0))] = h') (kk : Ec l D dA ws cc own nL d mc ms n0 h1 (cells + 1) (slots + nn) (pc + 2) ls (.ref b :: st) h') : Ec l D dA ws cc own nL d mc ms n0 h1 cells slots pc ls (.int i :: st) h := by
  intro ad0 ad p e s m args below meth c H locs lsA E W0
  have E0 := E
  have W1 := W0
  obtain ⟨hx, hb, hml, hr, hlk, hown, hts, hKn, hX, hin, hAO⟩ := E
  obtain ⟨hag, hh9, hn0, hP, hD, hS, hl, hl1, hok, hol, hos⟩ := W0
  subst hh
  subst hb9
  subst hi
  rw [List.all_cons, Bool.and_eq_true] at hos
  refine va_newa hx hb (hts _ harr) hty hKn hP hD hS (fun q hq => Or.inr hq) (a0 := (nn, .inl (fun _ => 0))) (N' := nn) (fun cA => by rw [hdv]; rfl) (nI_pos (by omega)) (nI_clamp (by omega)) hbytes hcells hslots hdg (fun q cA H1 hK1 hP1 hD1 hS1 => ?_)
  have ec : cA = dA t := by
    have k1 := (hK1.2 (pT dA).length (cA, ty) (by rw [List.getElem?_append_right (Nat.le_refl _), Nat.sub_self]; rfl)).2
    have k2 := (hKn.2 t _ ht).2
    unfold va_RA at k1 k2
    cases ty with
    | object C => exact absurd rfl (hprim C)
    | _ => exact Option.some.inj (k1.symm.trans k2)
  subst ec
  obtain ⟨g1, g2⟩ := pgrow (x := .inl (t, nn, .inl (fun _ => 0))) (st := st) ⟨hag, hh9, hn0, hP, hD, hS, hl, hl1, hok, hol, hos.2⟩ h9 trivial hP1 hD1 hS1
  rw [← g2]
  exact kk ad0 _ p e s m args below meth c H1 locs lsA E0 g1
theorem C_vret (hdg : decode cc pc = .ok (.return_, 1)) (hh : h = h1) (hcs : cells = mc) (hsl : slots = ms) : Ec l D dA ws cc own nL d mc ms n0 h1 cells slots pc ls [] h := by
  intro ad0 ad p e s m args below meth c H locs lsA E W0
  have E0 := E
  have W1 := W0
  obtain ⟨hx, hb, hml, hr, hlk, hown, hts, hKn, hX, hin, hAO⟩ := E
  obtain ⟨hag, hh9, hn0, hP, hD, hS, hl, hl1, hok, hol, hos⟩ := W0
  subst hh
  subst hcs
  subst hsl
  exact W.vret hx hb hr (fun t ht hW => ⟨⟨ad, rfl, ⟨hag, hok⟩, by rw [ht]; exact hP, va_K.moved hW.alike hKn, hD⟩, hS.F ht⟩) hS.2.2 hdg
variable {y : MethodName} {wsY : List Cond} {cY : ByteArray} {nLY np dY cY2 sY2 : Nat} {idx b : Nat} {As st0 : List Value}
theorem C_callN {h' : List PC} (hC : pokH h → Cc l D dA y wsY dY cY2 sY2 (.ref b :: As) h h') (hF : pMF y wsY cY nLY none np) (hnp : As.length = np) (hin9 : y.name = "<init>") (hG : GoodIn ws wsY) (hst : Cond.instanceMethod y ∈ ws) (hini : Cond.initialized y.cls ∈ ws) (hnest : (own, idx, y) ∈ pNest) (hdd : dY + 1 ≤ d) (hs : As.reverse ++ .ref b :: st = st0) (h8 : st.length ≤ 8) (h1s : st.all p1 = true) (hdg : decode cc pc = .ok (.invokespecial idx, 3)) (hcc : cells + cY2 ≤ mc) (hss : slots + sY2 ≤ ms) (hlen' : h'.length ≤ 900) (hle : h.length ≤ h'.length) (kk : Ec l D dA ws cc own nL d mc ms n0 h1 (cells + cY2) (slots + sY2) (pc + 3) ls st h') : Ec l D dA ws cc own nL d mc ms n0 h1 cells slots pc ls st0 h := by
  intro ad0 ad p e s m args below meth c H locs lsA E W0
  have E0 := E
  have W1 := W0
  obtain ⟨hx, hb, hml, hr, hlk, hown, hts, hKn, hX, hin, hAO⟩ := E
  obtain ⟨hag, hh9, hn0, hP, hD, hS, hl, hl1, hok, hol, hos⟩ := W0
  subst hs
  rw [List.all_append, List.all_cons, Bool.and_eq_true, Bool.and_eq_true] at hos
  obtain ⟨⟨ws', hw⟩, hpl, hm45, hy1, hy2, hy3⟩ := hF
  have hcs : (((st.map (pcv ad)).map fun v => v.category).sum) ≤ 8 := by rw [pcats st h1s]; exact h8
  have hRR : (pRc2 dY cY2 sY2).frames + 1 ≤ (pRc2 d mc ms).frames ∧ 8 + (nLY + 11) + (pRc2 dY cY2 sY2).locals ≤ (pRc2 d mc ms).locals := by
    refine ⟨hdd, ?_⟩
    show 8 + (nLY + 11) + 64 * dY ≤ 64 * d
    omega
  have hA1 : ∀ q : Nat, pA ad h.length H.size q → pA ad0 n0 s.heap.size q := fun q hq => by
    rcases hq with ⟨k, hk, rfl⟩ | hq
    · exact hD.2 k _ (pwd_get (List.getElem?_eq_getElem hk))
    · exact Or.inr (Nat.le_trans hS.1 hq)
  have hpre : ∀ U : State, U.heap = H → s.WarmedH U.vm → pPre D dA ad (.ref b :: As) h H.size ((.ref b :: As).map (pcv ad)).toArray U := fun U hU hW => ⟨rfl, by rw [hU], by rw [hU]; exact hP, va_K.moved hW.alike hKn, hD.weaken (fun _ _ _ _ => trivial), by rw [hU]; exact pX_ag (fun k hk => hag k hk) (hX.to hW hS.2.1 hA1)⟩
  refine va_callv (va_runIN (As := As.map (pcv ad)) (rest := st.map (pcv ad)) (b := ad b) ⟨hx, hb, hml, hown, hts⟩ (hC hok ad H.size) ⟨va_cnB np hts hG hw rfl rfl (hX.1 _ hnest) (hts _ hini) ⟨hy1, hy2, hy3⟩ hRR, hin9, hts _ hst⟩ ⟨pPrc_blind, fun U hU hW => ⟨hpre U hU hW, va_AOA.moved hW.alike hAO⟩⟩ rfl (by rw [List.length_map]; exact hnp) hl.1 (by simp [List.map_reverse, pcv]) (lv_room hcs) hdg ⟨hcc, hss⟩) hS (fun q _ hq => hA1 q hq) hA1 (fun u t H1 locs1 ht hvm hpost hB hz hk hS1 => ?_)
  obtain ⟨hP1, hK1, hD1⟩ := hB
  rw [ht] at hP1
  have hup : ∀ k, k < h.length → u k = ad k := fun k hk => hpost.1 k (Or.inl hk)
  rw [← pst_eq hup hos.2.2]
  exact kk ad0 u p e s m args below meth c H1 locs1 lsA E0 ⟨fun k hk => (hpost.1 k (hk.elim (fun g => Or.inl (by omega)) Or.inr)).trans (hag k hk), hlen', Nat.le_trans hn0 hle, hP1, hD1.weaken (fun k q _ hq => hA1 _ hq), hS1, by rw [pml_eq hup hol]; exact hl, hl1, hpost.2, List.all_eq_true.mpr fun q hq => pvk_le hle (List.all_eq_true.mp hol q hq), List.all_eq_true.mpr fun q hq => pvk_le hle (List.all_eq_true.mp hos.2.2 q hq)⟩
theorem C_callVV {C : String} {h' : List PC} (hC : ∀ ad, CtV l D dA ad y wsY dY (.ref b :: As) h (fun h9 => h9 = h')) (hF : pMF y wsY cY nLY none np) (hnp : As.length = np) (hy : y.cls = C) (hG : GoodIn ws (wsV own idx C y wsY)) (hrc : ∃ (ci : Nat) (fs : List Value) (T : u_T) (N : Nat), h[b]? = some (.inr (ci, fs)) ∧ vwCl[ci]? = some (C, T, N)) (hdd : dY + 1 ≤ d) (hs : As.reverse ++ .ref b :: st = st0) (h8 : st.length ≤ 8) (h1s : st.all p1 = true) (hdg : decode cc pc = .ok (.invokevirtual idx, 3)) (hcc : cells ≤ mc) (hss : slots ≤ ms) (hokh : pokH h → pokH h') (kk : Ec l D dA ws cc own nL d mc ms n0 h1 cells slots (pc + 3) ls st h') : Ec l D dA ws cc own nL d mc ms n0 h1 cells slots pc ls st0 h := by
  intro ad0 ad p e s m args below meth c H locs lsA E W0
  have E0 := E
  have W1 := W0
  obtain ⟨hx, hb, hml, hr, hlk, hown, hts, hKn, hX, hin, hAO⟩ := E
  obtain ⟨hag, hh9, hn0, hP, hD, hS, hl, hl1, hok, hol, hos⟩ := W0
  subst hs
  rw [List.all_append, List.all_cons, Bool.and_eq_true, Bool.and_eq_true] at hos
  obtain ⟨⟨ws', hw⟩, hpl, hm45, hy1, hy2, hy3⟩ := hF
  have hcs : (((st.map (pcv ad)).map fun v => v.category).sum) ≤ 8 := by rw [pcats st h1s]; exact h8
  have hRR : (pR dY).frames + 1 ≤ (pRc2 d mc ms).frames ∧ 8 + (nLY + 11) + (pR dY).locals ≤ (pRc2 d mc ms).locals := by
    refine ⟨hdd, ?_⟩
    show 8 + (nLY + 11) + 64 * dY ≤ 64 * d
    omega
  have hA1 : ∀ q : Nat, pA ad h.length H.size q → pA ad0 n0 s.heap.size q := fun q hq => by
    rcases hq with ⟨k, hk, rfl⟩ | hq
    · exact hD.2 k _ (pwd_get (List.getElem?_eq_getElem hk))
    · exact Or.inr (Nat.le_trans hS.1 hq)
  have hpre : ∀ U : State, U.heap = H → s.WarmedH U.vm → pPre D dA ad (.ref b :: As) h H.size ((.ref b :: As).map (pcv ad)).toArray U := fun U hU hW => ⟨rfl, by rw [hU], by rw [hU]; exact hP, va_K.moved hW.alike hKn, hD.weaken (fun _ _ _ _ => trivial), by rw [hU]; exact pX_ag (fun k hk => hag k hk) (hX.to hW hS.2.1 hA1)⟩
  have hrv : ∃ cellB : Cell, H[ad b]? = some cellB ∧ cellB.vm.isStatics = false ∧ s.vm.findClass C = some cellB.cls := by
    obtain ⟨ci, fs, T, N, q1, q2⟩ := hrc
    exact va_recv hKn hP (q := (C, T, N)) q2 (pwd_get q1)
  refine va_callv (va_runV (As := As.map (pcv ad)) (rest := st.map (pcv ad)) (b := ad b) ⟨hx, hb, hml, hown, hts⟩ (hC ad H.size) (cwV np hts hG hw rfl rfl ⟨hy, hy1, hy2, hy3⟩ hRR) ⟨pPre_blind, hrv, hpre⟩ rfl (by rw [List.length_map]; exact hnp) hl.1 (by simp [List.map_reverse, pcv]) (lv_room hcs) hdg ⟨hcc, hss⟩) hS (fun q _ hq => hA1 q hq) hA1 (fun u t H1 locs1 ht hvm hpost hB hz hk hS1 => ?_)
  obtain ⟨hP1, hK1, hD1, hlen⟩ := hB
  rw [ht] at hP1
  obtain rfl : u = h' := hpost
  exact kk ad0 ad p e s m args below meth c H1 locs1 lsA E0 ⟨hag, by rw [hlen]; exact hh9, by rw [hlen]; exact hn0, hP1, hD1.weaken (fun k q _ hq => hA1 _ hq), hS1, hl, hl1, hokh hok, by rw [hlen]; exact hol, by rw [hlen]; exact hos.2.2⟩
theorem C_mna {idx N' M' b : Nat} {i k0 : Int32} {h' : List PC} (hclink : Cond.classLink own idx ("[" ++ (FieldType.array FieldType.int).toString) ∈ ws) (harr : Cond.arrayClass .int ∈ ws) (hi : i = nI N') (hk0 : k0 = nI M') (hN : N' < 1000) (hM : M' < 1000) (hcells : cells + (1 + N') ≤ mc) (hslots : slots + (N' + N' * M') ≤ ms) (h9 : h.length + 1 + N' ≤ 900) (hdg : decode cc pc = .ok (.multianewarray idx 2, 4)) (hb9 : h.length = b) (hh : (h ++ [.inl (3, N', .inr (.inr (.inr (.inr (fun j => if j < N' then some (b + 1 + j) else none)))))]) ++ List.replicate N' (.inl (0, M', .inl (fun _ => 0))) = h') (kk : Ec l D dA ws cc own nL d mc ms n0 h1 (cells + 1 + N') (slots + N' + N' * M') (pc + 4) ls (.ref b :: st) h') : Ec l D dA ws cc own nL d mc ms n0 h1 cells slots pc ls (.int k0 :: .int i :: st) h := by
  intro ad0 ad p e s m args below meth c H locs lsA E W0
  have E0 := E
  have W1 := W0
  obtain ⟨hx, hb, hml, hr, hlk, hown, hts, hKn, hX, hin, hAO⟩ := E
  obtain ⟨hag, hh9, hn0, hP, hD, hS, hl, hl1, hok, hol, hos⟩ := W0
  subst hh
  subst hb9
  subst hi
  subst hk0
  rw [List.all_cons, List.all_cons, Bool.and_eq_true, Bool.and_eq_true] at hos
  have hcy : s.vm.findClass (FieldType.array .int).toString = some (dA 0) := (hKn.2 0 _ rfl).2
  have hP2 : va_P D vwCl (pwd dA ad h ++ va_pl [] (fun _ => .inr (0, []))) H := by
    rw [show va_pl [] (fun _ => (.inr (0, []) : va_E)) = [] from rfl, List.append_nil]; exact hP
  have hD2 : va_D (pA ad0 n0 s.heap.size) (pwd dA ad h ++ va_pl [] (fun _ => .inr (0, []))) := by
    rw [show va_pl [] (fun _ => (.inr (0, []) : va_E)) = [] from rfl, List.append_nil]; exact hD
  refine va_mna (ty := .int) (z := (M', .inl (fun _ => 0))) hx hb hown (hts _ hclink) hAO (hts _ harr) hcy hKn hP2 hD2 hS (fun q hq => Or.inr hq) (nI_pos (by omega)) (nI_pos (by omega)) (nI_clamp (by omega)) (nI_clamp (by omega)) (by omega) (by show M' * 4 ≤ _; omega) (by omega) rfl rfl hcells hslots (fun cA => by
    show ({ cls := cA, slots := Array.replicate M' (.int 0), vm := .none } : Cell) = _
    rw [arrV_new]
    rfl) hdg (fun q r cA H1 hinj hnl hK1 hP1 hD1 hS1 => ?_)
  have ec : cA = dA 3 := by
    have k1 := (hK1.2 (pT dA).length (cA, .array .int) (by rw [List.getElem?_append_right (Nat.le_refl _), Nat.sub_self]; rfl)).2
    exact Option.some.inj (k1.symm.trans (hKn.2 3 _ rfl).2)
  subst ec
  generalize had : (fun k : Nat => if k = h.length then q else if h.length < k ∧ k ≤ h.length + N' then r (k - h.length - 1) else ad k) = ad'
  have a1 : ∀ k, k < h.length → ad' k = ad k := fun k hk => by
    rw [← had]
    show (if k = h.length then q else if h.length < k ∧ k ≤ h.length + N' then r (k - h.length - 1) else ad k) = ad k
    rw [if_neg (by omega), if_neg (by omega)]
  have a2 : ad' h.length = q := by
    rw [← had]
    show (if h.length = h.length then q else _) = q
    rw [if_pos rfl]
  have a3 : ∀ j, j < N' → ad' (h.length + 1 + j) = r j := fun j hj => by
    rw [← had]
    show (if h.length + 1 + j = h.length then q else if h.length < h.length + 1 + j ∧ h.length + 1 + j ≤ h.length + N' then r (h.length + 1 + j - h.length - 1) else ad _) = r j
    rw [if_neg (by omega), if_pos (by omega)]
    congr 1
    omega
  have a4 : ∀ k, 1000 ≤ k → ad' k = ad k := fun k hk => by
    rw [← had]
    show (if k = h.length then q else if h.length < k ∧ k ≤ h.length + N' then r (k - h.length - 1) else ad k) = ad k
    rw [if_neg (by omega), if_neg (by omega)]
  have key : pwd dA ad' ((h ++ [.inl (3, N', .inr (.inr (.inr (.inr (fun j => if j < N' then some (h.length + 1 + j) else none)))))]) ++ List.replicate N' (.inl (0, M', .inl (fun _ => 0)))) = ((pwd dA ad h ++ [(q, .inl (dA 3, N', .inr (.inr (.inr (.inr (fun i => if i < N' then some (r i) else none))))))]) ++ va_pl ([] ++ (List.range N').map r) (vr_up (fun _ => .inr (0, [])) ((List.range N').map r) (.inl (dA 0, (M', .inl (fun _ => 0)))))) := by
    have w1 := pwd_eq (dA := dA) a1 hok
    have f1 : (fun j : Nat => (if j < N' then some (h.length + 1 + j) else none).map ad') = (fun i => if i < N' then some (r i) else none) := funext fun j => by
      by_cases hj : j < N'
      · rw [if_pos hj, if_pos hj]; exact congrArg some (a3 j hj)
      · rw [if_neg hj, if_neg hj]; rfl
    unfold pwd at w1 ⊢
    rw [List.mapIdx_append, List.mapIdx_append, w1]
    congr 1
    · congr 1
      show [(ad' (0 + h.length), (.inl (dA 3, pcf ad' (N', .inr (.inr (.inr (.inr (fun j => if j < N' then some (h.length + 1 + j) else none)))))) : va_E))] = _
      rw [Nat.zero_add, a2]
      show [(q, (.inl (dA 3, (N', .inr (.inr (.inr (.inr (fun j : Nat => (if j < N' then some (h.length + 1 + j) else none).map ad')))))) : va_E))] = _
      rw [f1]
    · apply List.ext_getElem?
      intro k
      rw [List.getElem?_mapIdx, List.getElem?_replicate]
      unfold va_pl
      rw [List.nil_append, List.map_map, List.getElem?_map]
      have hl9 : ∀ x : PC, k + (h ++ [x]).length = h.length + 1 + k := fun x => by
        rw [List.length_append]
        show k + (h.length + 1) = _
        omega
      by_cases hk : k < N'
      · rw [if_pos hk, List.getElem?_range hk]
        show some (ad' (k + (h ++ [_]).length), pcc dA ad' (.inl (0, M', .inl (fun _ => 0)))) = some (r k, vr_up _ _ _ (r k))
        rw [vr_up_in (List.mem_map.mpr ⟨k, List.mem_range.mpr hk, rfl⟩), hl9, a3 k hk]
        rfl
      · rw [if_neg hk, List.getElem?_eq_none (by rw [List.length_range]; omega)]
        rfl
  rw [← key] at hP1 hD1
  have hs : (Value.ref h.length :: st).map (pcv ad') = .ref q :: st.map (pcv ad) := by
    rw [List.map_cons, pst_eq a1 hos.2.2]
    show Value.ref (ad' h.length) :: _ = _
    rw [a2]
  rw [← hs]
  have hlen : ((h ++ [.inl (3, N', .inr (.inr (.inr (.inr (fun j => if j < N' then some (h.length + 1 + j) else none)))))]) ++ List.replicate N' (.inl (0, M', .inl (fun _ => 0))) : List PC).length = h.length + 1 + N' := by
    rw [List.length_append, List.length_append, List.length_replicate]
    rfl
  refine kk ad0 ad' p e s m args below meth c H1 locs lsA E0 ⟨fun k hk => (hk.elim (fun g => a1 k (by omega)) (fun g => a4 k g)).trans (hag k hk), by rw [hlen]; exact h9, by rw [hlen]; omega, hP1, hD1, hS1, by rw [pml_eq a1 hol]; exact hl, hl1, fun y hy => ?_, ?_, ?_⟩
  · rw [hlen]
    rcases List.mem_append.mp hy with e1 | e1
    · rcases List.mem_append.mp e1 with e2 | e2
      · exact pokc_le (by omega) (hok y e2)
      · rw [List.mem_singleton.mp e2]
        intro j k e3
        dsimp only at e3
        by_cases hj : j < N'
        · rw [if_pos hj] at e3
          cases e3
          omega
        · rw [if_neg hj] at e3
          cases e3
    · rw [List.eq_of_mem_replicate e1]
      trivial
  · rw [hlen]
    exact List.all_eq_true.mpr fun y hy => pvk_le (by omega) (List.all_eq_true.mp hol y hy)
  · rw [hlen]
    show (pvk (h.length + 1 + N') (.ref h.length) && st.all (pvk (h.length + 1 + N'))) = true
    rw [Bool.and_eq_true]
    have hlt : h.length < h.length + 1 + N' := by omega
    exact ⟨decide_eq_true hlt, List.all_eq_true.mpr fun y hy => pvk_le (by omega) (List.all_eq_true.mp hos.2.2 y hy)⟩
theorem C_hp {h' : List PC} (e : h = h') (k : Ec l D dA ws cc own nL d mc ms n0 h1 cells slots pc ls st h') : Ec l D dA ws cc own nL d mc ms n0 h1 cells slots pc ls st h := e ▸ k
end CROWS
theorem pok_aarr {n b N : Nat} (h : b + n ≤ N) : ∀ j k : Nat, (fun j => if j < n then some (b + j) else none) j = some k → k < N := by
  intro j k e
  dsimp only at e
  by_cases hj : j < n
  · rw [if_pos hj] at e
    cases e
    omega
  · rw [if_neg hj] at e
    cases e
theorem pok_X (S : PS) : pokH (hX S) := by
  have h : ∀ q ∈ hX S, pokc 52 q := List.forall_mem_cons.mpr ⟨rfl, List.forall_mem_cons.mpr ⟨rfl, List.forall_mem_cons.mpr ⟨rfl, List.forall_mem_cons.mpr ⟨trivial, List.forall_mem_cons.mpr ⟨trivial, List.forall_mem_cons.mpr ⟨rfl, List.forall_mem_cons.mpr ⟨trivial, List.forall_mem_cons.mpr ⟨trivial, List.forall_mem_cons.mpr ⟨trivial, List.forall_mem_cons.mpr ⟨trivial, List.forall_mem_cons.mpr ⟨trivial, List.forall_mem_cons.mpr ⟨trivial, List.forall_mem_cons.mpr ⟨rfl, List.forall_mem_cons.mpr ⟨trivial, List.forall_mem_cons.mpr ⟨trivial, List.forall_mem_cons.mpr ⟨trivial, List.forall_mem_cons.mpr ⟨trivial, List.forall_mem_cons.mpr ⟨rfl, List.forall_mem_cons.mpr ⟨rfl, List.forall_mem_cons.mpr ⟨trivial, List.forall_mem_cons.mpr ⟨trivial, List.forall_mem_cons.mpr ⟨rfl, List.forall_mem_cons.mpr ⟨trivial, List.forall_mem_cons.mpr ⟨trivial, List.forall_mem_cons.mpr ⟨trivial, List.forall_mem_cons.mpr ⟨trivial, List.forall_mem_cons.mpr ⟨trivial, List.forall_mem_cons.mpr ⟨trivial, List.forall_mem_cons.mpr ⟨rfl, List.forall_mem_cons.mpr ⟨trivial, List.forall_mem_cons.mpr ⟨trivial, List.forall_mem_cons.mpr ⟨trivial, List.forall_mem_cons.mpr ⟨trivial, List.forall_mem_cons.mpr ⟨rfl, List.forall_mem_cons.mpr ⟨trivial, List.forall_mem_cons.mpr ⟨pok_aarr (by decide), List.forall_mem_cons.mpr ⟨trivial, List.forall_mem_cons.mpr ⟨trivial, List.forall_mem_cons.mpr ⟨trivial, List.forall_mem_cons.mpr ⟨rfl, List.forall_mem_cons.mpr ⟨trivial, List.forall_mem_cons.mpr ⟨trivial, List.forall_mem_cons.mpr ⟨rfl, List.forall_mem_cons.mpr ⟨trivial, List.forall_mem_cons.mpr ⟨trivial, List.forall_mem_cons.mpr ⟨rfl, List.forall_mem_cons.mpr ⟨rfl, List.forall_mem_cons.mpr ⟨rfl, List.forall_mem_cons.mpr ⟨trivial, List.forall_mem_cons.mpr ⟨trivial, List.forall_mem_cons.mpr ⟨rfl, List.forall_mem_cons.mpr ⟨trivial, fun _ h => absurd h List.not_mem_nil⟩⟩⟩⟩⟩⟩⟩⟩⟩⟩⟩⟩⟩⟩⟩⟩⟩⟩⟩⟩⟩⟩⟩⟩⟩⟩⟩⟩⟩⟩⟩⟩⟩⟩⟩⟩⟩⟩⟩⟩⟩⟩⟩⟩⟩⟩⟩⟩⟩⟩⟩⟩
  intro q hq
  rw [hX_len]
  exact h q hq
theorem pok_M (S : PS) : pokH (hM S) := by
  have h : ∀ q ∈ hM S, pokc 38 q := List.forall_mem_cons.mpr ⟨rfl, List.forall_mem_cons.mpr ⟨trivial, List.forall_mem_cons.mpr ⟨trivial, List.forall_mem_cons.mpr ⟨trivial, List.forall_mem_cons.mpr ⟨trivial, List.forall_mem_cons.mpr ⟨trivial, List.forall_mem_cons.mpr ⟨trivial, List.forall_mem_cons.mpr ⟨trivial, List.forall_mem_cons.mpr ⟨trivial, List.forall_mem_cons.mpr ⟨trivial, List.forall_mem_cons.mpr ⟨trivial, List.forall_mem_cons.mpr ⟨trivial, List.forall_mem_cons.mpr ⟨trivial, List.forall_mem_cons.mpr ⟨trivial, List.forall_mem_cons.mpr ⟨trivial, List.forall_mem_cons.mpr ⟨trivial, List.forall_mem_cons.mpr ⟨trivial, List.forall_mem_cons.mpr ⟨trivial, List.forall_mem_cons.mpr ⟨trivial, List.forall_mem_cons.mpr ⟨trivial, List.forall_mem_cons.mpr ⟨pok_aarr (by decide), List.forall_mem_cons.mpr ⟨trivial, List.forall_mem_cons.mpr ⟨trivial, List.forall_mem_cons.mpr ⟨trivial, List.forall_mem_cons.mpr ⟨trivial, List.forall_mem_cons.mpr ⟨pok_aarr (by decide), List.forall_mem_cons.mpr ⟨trivial, List.forall_mem_cons.mpr ⟨trivial, List.forall_mem_cons.mpr ⟨trivial, List.forall_mem_cons.mpr ⟨trivial, List.forall_mem_cons.mpr ⟨trivial, List.forall_mem_cons.mpr ⟨trivial, List.forall_mem_cons.mpr ⟨trivial, List.forall_mem_cons.mpr ⟨trivial, List.forall_mem_cons.mpr ⟨trivial, List.forall_mem_cons.mpr ⟨trivial, List.forall_mem_cons.mpr ⟨trivial, List.forall_mem_cons.mpr ⟨trivial, fun _ h => absurd h List.not_mem_nil⟩⟩⟩⟩⟩⟩⟩⟩⟩⟩⟩⟩⟩⟩⟩⟩⟩⟩⟩⟩⟩⟩⟩⟩⟩⟩⟩⟩⟩⟩⟩⟩⟩⟩⟩⟩⟩⟩
  intro q hq
  rw [hM_len]
  exact h q hq
/-- the worlds as they begin, and behind the first call -/
def SX0 : PS := (fun k => if k = 21 then -2 else 0, fun k => if k = 24 then upd (upd (upd (fun _ => 0) 0 (-1)) 1 (-1)) 2 (-1) else fun _ => 0)
def SM0 : PS := (fun k => if k = 0 then 4 else if k = 1 then 20 else if k = 2 then 100 else 0, fun _ _ => 0)
def SX1 : PS := ((f_X0_makeAsAtFirst SX0 4).getD (0, SX0)).2
def SM1 : PS := ((f_X12_anew SM0 4).getD (0, SM0)).2
theorem pO_getD {α : Type} {o : Option (α × PS)} {x : α × PS} (h : o.isSome = true) : pO o (fun y => y.2 = (o.getD x).2) := by
  cases o
  · cases h
  · exact rfl
theorem cv_X0_makeAsAtFirst (l : Launch) (D : va_G) (dA : Nat → ClassId) (ad : Nat → Nat) : CtV l D dA ad yX0_makeAsAtFirst wsX0_makeAsAtFirst 3 [.ref 1, .int 4] (hX SX0) (fun h' => h' = hX SX1) :=
  (c_X0_makeAsAtFirst l D dA ad SX0 4 (pO_getD (x := (0, SX0)) (by decide +kernel))).mono (fun h' q => by
    obtain ⟨r0, S', rfl, e⟩ := q
    exact congrArg hX e)
theorem cv_X12_anew (l : Launch) (D : va_G) (dA : Nat → ClassId) (ad : Nat → Nat) : CtV l D dA ad yX12_anew wsX12_anew 0 [.ref 0, .int 4] (hM SM0) (fun h' => h' = hM SM1) :=
  (c_X12_anew l D dA ad SM0 4 (pO_getD (x := (0, SM0)) (by decide +kernel))).mono (fun h' q => by
    obtain ⟨r0, S', rfl, e⟩ := q
    exact congrArg hM e)
