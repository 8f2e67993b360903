/-! ABSTRACT WORLDS: cells by places, references as places; one address map for the whole of a system's life -/
abbrev PC : Type := (Nat × vp_A) ⊕ (Nat × List Value)
def pcv (ad : Nat → Nat) (v : Value) : Value := match v with
  | .ref k => .ref (ad k)
  | v => v
def pcf (ad : Nat → Nat) (x : vp_A) : vp_A := match x with
  | (n, .inr (.inr (.inr (.inr f)))) => (n, .inr (.inr (.inr (.inr (fun j => (f j).map ad)))))
  | x => x
def pcc (dA : Nat → ClassId) (ad : Nat → Nat) (q : PC) : va_E := match q with
  | .inl (t, x) => .inl (dA t, pcf ad x)
  | .inr (c, fs) => .inr (c, fs.map (pcv ad))
def pwd (dA : Nat → ClassId) (ad : Nat → Nat) (h : List PC) : va_W := h.mapIdx (fun k q => (ad k, pcc dA ad q))
theorem pwd_get {dA : Nat → ClassId} {ad : Nat → Nat} {h : List PC} {k : Nat} {q : PC} (e : h[k]? = some q) : (pwd dA ad h)[k]? = some (ad k, pcc dA ad q) := by
  unfold pwd
  rw [List.getElem?_mapIdx, e]
  rfl
theorem pwd_at {dA : Nat → ClassId} {ad : Nat → Nat} {h : List PC} {k : Nat} {x : Nat × va_E} (e : (pwd dA ad h)[k]? = some x) : k < h.length ∧ x.1 = ad k := by
  unfold pwd at e
  rw [List.getElem?_mapIdx] at e
  cases hk : h[k]? with
  | none => rw [hk] at e; cases e
  | some q =>
    rw [hk] at e
    cases e
    exact ⟨(List.getElem?_eq_some_iff.mp hk).1, rfl⟩
theorem pwd_set {dA : Nat → ClassId} {ad : Nat → Nat} {h : List PC} {k : Nat} {q : PC} : (pwd dA ad h).set k (ad k, pcc dA ad q) = pwd dA ad (h.set k q) := by
  unfold pwd
  rw [List.mapIdx_set]
/-- the cells that may change: the world's own, and what comes behind sz -/
def pA (ad : Nat → Nat) (n sz : Nat) : Nat → Prop := fun q => (∃ k : Nat, k < n ∧ q = ad k) ∨ sz ≤ q
theorem pA_grow {ad : Nat → Nat} {n sz sz' q : Nat} (h : sz ≤ sz') (hq : pA ad n sz' q) : pA ad n sz q := hq.elim Or.inl (fun h1 => Or.inr (Nat.le_trans h h1))
theorem pA_of_va {dA : Nat → ClassId} {ad : Nat → Nat} {h : List PC} {sz q : Nat} (hq : va_A (pwd dA ad h) sz q) : pA ad h.length sz q := by
  rcases hq with ⟨k, e, hk⟩ | hq
  · exact Or.inl ⟨k, (pwd_at hk).1, (pwd_at hk).2⟩
  · exact Or.inr hq
theorem va_of_pA {dA : Nat → ClassId} {ad : Nat → Nat} {h : List PC} {sz q : Nat} (hq : pA ad h.length sz q) : va_A (pwd dA ad h) sz q := by
  rcases hq with ⟨k, hk, rfl⟩ | hq
  · exact Or.inl ⟨k, _, pwd_get (List.getElem?_eq_getElem hk)⟩
  · exact Or.inr hq
theorem pD_self {dA : Nat → ClassId} {ad : Nat → Nat} {h : List PC} {A : Nat → Prop} {n sz : Nat} (hn : h.length = n) (hD : va_D A (pwd dA ad h)) : va_D (pA ad n sz) (pwd dA ad h) := ⟨hD.1, fun k x hk => Or.inl ⟨k, by rw [← hn]; exact (pwd_at hk).1, (pwd_at hk).2⟩⟩
/-- array classes of the worlds -/
def pT (dA : Nat → ClassId) : List (ClassId × FieldType) := [(dA 0, .int), (dA 1, .byte), (dA 2, .char), (dA 3, .array .int)]
def pLen : List Nat := [3, 4, 4, 4, 3, 6, 3, 1, 2, 1, 5]
def pByt : List (List Int32) := [[112, 117, 116], [109, 111, 118, 101], [116, 97, 107, 101], [102, 105, 108, 108], [119, 101, 116], [97, 57, 57, 57, 45, 57], [97, 57, 45], [97], [57, 57], [57], [99, 107, 119, 103, 102]]
/-- String constants: class, entry, text, number -/
def pRef : List (String × Nat × String × Nat) := [("BoatTrim$Tape", 85, "put", 0), ("BoatTrim$Tape", 87, "move", 1), ("BoatTrim$Tape", 89, "take", 2), ("BoatTrim$Tape", 91, "fill", 3), ("BoatTrim$Tape", 93, "wet", 4), ("BoatTrim$Tape", 95, "a999-9", 5), ("BoatTrim$Tape", 97, "a9-", 6), ("BoatTrim$Tape", 99, "a", 7), ("BoatTrim$Tape", 101, "99", 8), ("BoatTrim$Tape", 103, "9", 9), ("BoatTrimModel", 246, "ckwgf", 10), ("BoatTrimModel", 263, "put", 0), ("BoatTrimModel", 265, "move", 1), ("BoatTrimModel", 267, "take", 2), ("BoatTrimModel", 269, "fill", 3), ("BoatTrimModel", 271, "wet", 4)]
/-- links among nest mates -/
def pNest : List (String × Nat × MethodName) := [("BoatTrim", 11, ⟨"BoatTrim$Boat", "<init>", "()V"⟩), ("BoatTrim$Boat", 11, ⟨"BoatTrim$Hull", "<init>", "()V"⟩), ("BoatTrim$Boat", 20, ⟨"BoatTrim$Cargo", "<init>", "()V"⟩), ("BoatTrim$Boat", 27, ⟨"BoatTrim$Tanks", "<init>", "()V"⟩), ("BoatTrim", 27, ⟨"BoatTrim$Rows", "<init>", "()V"⟩), ("BoatTrim", 34, ⟨"BoatTrim$Tape", "<init>", "()V"⟩), ("BoatTrim", 41, ⟨"BoatTrim$Orders", "<init>", "()V"⟩), ("BoatTrim", 48, ⟨"BoatTrim$Trim", "<init>", "()V"⟩), ("BoatTrim", 55, ⟨"BoatTrim$Swap", "<init>", "()V"⟩), ("BoatTrim", 62, ⟨"BoatTrim$Landing", "<init>", "()V"⟩), ("BoatTrim", 69, ⟨"BoatTrim$Report", "<init>", "()V"⟩), ("BoatTrim$Hull", 31, ⟨"BoatTrim", "held", "(III)I"⟩), ("BoatTrim$Hull", 47, ⟨"BoatTrim", "isWithin", "(III)Z"⟩), ("BoatTrim$Boat", 114, ⟨"BoatTrim", "cubeByTwelve", "(I)I"⟩), ("BoatTrim$Tanks", 43, ⟨"BoatTrim", "cubeByTwelve", "(I)I"⟩), ("BoatTrim$Boat", 92, ⟨"BoatTrim", "rollsOf", "(II)I"⟩), ("BoatTrim$Boat", 96, ⟨"BoatTrim", "held", "(III)I"⟩), ("BoatTrim$Landing", 69, ⟨"BoatTrim", "isWithin", "(III)Z"⟩), ("BoatTrim$Tape", 81, ⟨"BoatTrim", "isWithin", "(III)Z"⟩), ("BoatTrim$Rows", 18, ⟨"BoatTrim", "held", "(III)I"⟩), ("BoatTrim$Rows", 30, ⟨"BoatTrim", "isWithin", "(III)Z"⟩)]
def pUnder : Nat → Int32 := fun j => match j with
  | 0 => -1
  | 1 => 0
  | 2 => 0
  | 3 => 1
  | _ => 2
def pSigns : Nat → Int32 := fun j => match j with
  | 0 => 99
  | 1 => 107
  | 2 => 119
  | 3 => 103
  | _ => 102
/-- what stands outside of the worlds, and stays: String constants, statics -/
def pX (ad : Nat → Nat) (A : Nat → Prop) (U : State) (H : Heap) : Prop :=
  (∀ q ∈ pNest, va_Nw (.methodLinkNest q.1 q.2.1 q.2.2 "BoatTrim") U) ∧ va_Nw (.fieldLinkNest "BoatTrim$Report" 32 "BoatTrim" "KIND_SIGNS" "[C" "BoatTrim") U ∧ vk_S 11 pLen pByt (fun i => ad (i + 1000)) (fun i => ad (i + 1100)) A U H ∧ (∀ q ∈ pRef, vk_R q.1 q.2.1 q.2.2.1 (ad (q.2.2.2 + 1000)) U) ∧
  va_Z "BoatTrim" "UNDER" "[I" (.ref (ad 2000)) A U H ∧ va_T .int (ad 2000) 5 (fun j => .int (pUnder j)) A U H ∧
  va_Z "BoatTrim" "KIND_SIGNS" "[C" (.ref (ad 2001)) A U H ∧ va_T .char (ad 2001) 5 (fun j => .int (pSigns j)) A U H ∧
  va_Z "java/lang/String" "COMPACT_STRINGS" "Z" (.int 1) A U H ∧
  (va_Z "jdk/internal/util/Preconditions" "SIOOBE_FORMATTER" "Ljava/util/function/BiFunction;" .null A U H ∨ va_Z "jdk/internal/util/Preconditions" "SIOOBE_FORMATTER" "Ljava/util/function/BiFunction;" (.ref (ad 2002)) A U H)
theorem pX.to {ad : Nat → Nat} {A B : Nat → Prop} {s U : State} {H0 H : Heap} (h : pX ad A s H0) (hW : s.WarmedH U.vm) (hq : ∀ a : Nat, a < H0.size → ¬ A a → H[a]? = H0[a]?) (hAB : ∀ q, B q → A q) : pX ad B U H := by
  have hv := hW.alike
  obtain ⟨hn, hf, h1, h2, h3, h4, h5, h6, h7, h8⟩ := h
  exact ⟨fun q hq => va_Nw.warmM hW (hn q hq), va_Nw.warmF hW hf, ((h1.kept hq).moved hv).narrow hAB, fun q hq => vk_R.warm hW (h2 q hq), ((h3.kept hq).moved hv).narrow hAB, ((h4.kept hq).moved hv).narrow hAB, ((h5.kept hq).moved hv).narrow hAB, ((h6.kept hq).moved hv).narrow hAB, ((h7.kept hq).moved hv).narrow hAB, h8.elim (fun h => Or.inl (((h.kept hq).moved hv).narrow hAB)) (fun h => Or.inr (((h.kept hq).moved hv).narrow hAB))⟩
theorem pX.same {ad : Nat → Nat} {A : Nat → Prop} {u U : State} {H : Heap} (hv : U.vm = u.vm) (h : pX ad A u H) : pX ad A U H := by
  have ha : u.vm.Alike U.vm := by rw [hv]; exact Vm.Alike.refl u.vm
  obtain ⟨hn, hf, h1, h2, h3, h4, h5, h6, h7, h8⟩ := h
  exact ⟨fun q hq => va_Nw.same rfl hv.symm (hn q hq), va_Nw.same rfl hv.symm hf, h1.moved ha, fun q hq => vk_R.same hv (h2 q hq), h3.moved ha, h4.moved ha, h5.moved ha, h6.moved ha, h7.moved ha, h8.elim (fun h => Or.inl (h.moved ha)) (fun h => Or.inr (h.moved ha))⟩
/-! LOCALS: a list of places and values -/
def pg : List (Nat × Value) → Nat → Option Value
  | [], _ => none
  | (k, v) :: l, i => match Nat.beq k i with
    | true => some v
    | false => pg l i
def pst : List (Nat × Value) → Nat → Value → List (Nat × Value)
  | [], i, v => [(i, v)]
  | (k, w) :: l, i, v => match Nat.beq k i with
    | true => (i, v) :: l.filter (fun q => !(Nat.beq q.1 i))
    | false => (k, w) :: pst l i v
abbrev pml (ad : Nat → Nat) (l : List (Nat × Value)) : List (Nat × Value) := l.map (fun q => (q.1, pcv ad q.2))
theorem pg_mem {l : List (Nat × Value)} {i : Nat} {v : Value} (h : pg l i = some v) : (i, v) ∈ l := by
  induction l with
  | nil => cases h
  | cons q l ih =>
    obtain ⟨k, w⟩ := q
    unfold pg at h
    cases e : Nat.beq k i with
    | true =>
      rw [e] at h
      cases h
      have := Nat.eq_of_beq_eq_true e
      subst this
      exact List.mem_cons_self
    | false =>
      rw [e] at h
      exact List.mem_cons_of_mem _ (ih h)
theorem pg_has {ad : Nat → Nat} {lsA : Array Slot} {nL : Nat} {l : List (Nat × Value)} (h : lv_has lsA nL (pml ad l)) {i : Nat} {v : Value} (hg : pg l i = some v) : lsA[i]? = some (.val (pcv ad v)) :=
  h.2.2 (i, pcv ad v) (List.mem_map.mpr ⟨(i, v), pg_mem hg, rfl⟩)
theorem pst_mem {l : List (Nat × Value)} {i : Nat} {v : Value} {q : Nat × Value} (h : q ∈ pst l i v) : q = (i, v) ∨ (q ∈ l ∧ ¬ q.1 = i) := by
  induction l with
  | nil => exact Or.inl (List.mem_singleton.mp h)
  | cons p l ih =>
    obtain ⟨k, w⟩ := p
    unfold pst at h
    cases e : Nat.beq k i with
    | true =>
      rw [e] at h
      rcases List.mem_cons.mp h with h | h
      · exact Or.inl h
      · obtain ⟨h1, h2⟩ := List.mem_filter.mp h
        refine Or.inr ⟨List.mem_cons_of_mem _ h1, fun e2 => ?_⟩
        rw [e2] at h2
        simp at h2
    | false =>
      rw [e] at h
      rcases List.mem_cons.mp h with h | h
      · refine Or.inr ⟨by rw [h]; exact List.mem_cons_self, fun e2 => ?_⟩
        rw [h] at e2
        have : k = i := e2
        rw [this] at e
        simp at e
      · rcases ih h with h | h
        · exact Or.inl h
        · exact Or.inr ⟨List.mem_cons_of_mem _ h.1, h.2⟩
/-- all values of one word -/
def p1 : Value → Bool
  | .long _ => false
  | .double _ => false
  | _ => true
theorem p1_cat {v : Value} (h : p1 v = true) : v.category = 1 := by cases v <;> first | rfl | cases h
theorem pcv_cat {ad : Nat → Nat} {v : Value} : (pcv ad v).category = v.category := by cases v <;> rfl
theorem pst_has {ad : Nat → Nat} {lsA : Array Slot} {nL i : Nat} {l : List (Nat × Value)} {v : Value} (h : lv_has lsA nL ((i, pcv ad v) :: (pml ad l).filter (fun q => !(q.1 == i) && !(q.1 + 1 == i && q.2.category == 2)))) (h1 : l.all (fun q => p1 q.2) = true) : lv_has lsA nL (pml ad (pst l i v)) := by
  refine ⟨h.1, h.2.1, fun q hq => ?_⟩
  obtain ⟨p, hp, rfl⟩ := List.mem_map.mp hq
  refine h.2.2 _ ?_
  rcases pst_mem hp with e | ⟨h2, h3⟩
  · rw [e]
    exact List.mem_cons_self
  · refine List.mem_cons_of_mem _ (List.mem_filter.mpr ⟨List.mem_map.mpr ⟨p, h2, rfl⟩, ?_⟩)
    have h4 := p1_cat (List.all_eq_true.mp h1 p h2)
    have h5 : (pcv ad p.2).category = 1 := by rw [pcv_cat]; exact h4
    simp [h3, h5]
def pargs : Nat → List Value → List (Nat × Value)
  | _, [] => []
  | i, v :: vs => (i, v) :: pargs (i + 1) vs
theorem pargs_eq {ad : Nat → Nat} : ∀ (as : List Value) (i : Nat), as.all p1 = true → lv_args i (as.map (pcv ad)) = pml ad (pargs i as) := by
  intro as
  induction as with
  | nil => intro i _; rfl
  | cons v as ih =>
    intro i h
    rw [List.all_cons, Bool.and_eq_true] at h
    have h1 : (pcv ad v).category = 1 := by rw [pcv_cat]; exact p1_cat h.1
    show (i, pcv ad v) :: lv_args (if (pcv ad v).category = 2 then i + 2 else i + 1) (as.map (pcv ad)) = _
    rw [h1, if_neg (by decide), ih _ h.2]
    rfl
theorem psl_len {ad : Nat → Nat} : ∀ (as : List Value), as.all p1 = true → (lg_sl (as.map (pcv ad))).length = as.length := by
  intro as
  induction as with
  | nil => intro _; rfl
  | cons v as ih =>
    intro h
    rw [List.all_cons, Bool.and_eq_true] at h
    have h1 : (pcv ad v).category = 1 := by rw [pcv_cat]; exact p1_cat h.1
    have h2 := ih h.2
    unfold lg_sl at h2 ⊢
    rw [List.map_cons, List.flatMap_cons, List.length_append, h2, h1, if_neg (by decide)]
    simp
    omega
theorem pcats {ad : Nat → Nat} : ∀ (st : List Value), st.all p1 = true → ((st.map (pcv ad)).map fun v => v.category).sum = st.length := by
  intro st
  induction st with
  | nil => intro _; rfl
  | cons v st ih =>
    intro h
    rw [List.all_cons, Bool.and_eq_true] at h
    have h1 : (pcv ad v).category = 1 := by rw [pcv_cat]; exact p1_cat h.1
    rw [List.map_cons, List.map_cons, List.sum_cons, ih h.2, h1, List.length_cons]
    omega
/-! THE JUDGEMENT -/
def pR (d : Nat) : Room := { frames := d, cells := 0, slots := 0, locals := 64 * d }
def pB (D : va_G) (dA : Nat → ClassId) (ad : Nat → Nat) (n : Nat) (A : Nat → Prop) (h : List PC) (t : State) : Prop := va_P D vwCl (pwd dA ad h) t.heap ∧ va_K D vwCl (pT dA) t ∧ va_D A (pwd dA ad h) ∧ h.length = n
def pPre (D : va_G) (dA : Nat → ClassId) (ad : Nat → Nat) (as : List Value) (h : List PC) (sz : Nat) : Array Value → State → Prop :=
  va_Pc (as.map (pcv ad)) (fun U => U.heap.size = sz ∧ va_P D vwCl (pwd dA ad h) U.heap ∧ va_K D vwCl (pT dA) U ∧ va_D (fun _ => True) (pwd dA ad h) ∧ pX ad (pA ad h.length sz) U U.heap)
abbrev pK : Type := Nat → Array Value → State → Outcome → State → Prop
def pKi (D : va_G) (dA : Nat → ClassId) (ad : Nat → Nat) (n : Nat) (Q : Int32 → List PC → Prop) : pK := fun sz => va_Qi Q (pB D dA ad n (pA ad n sz)) (pA ad n sz)
def pKv (D : va_G) (dA : Nat → ClassId) (ad : Nat → Nat) (n : Nat) (Q : List PC → Prop) : pK := fun sz => va_Qv Q (pB D dA ad n (pA ad n sz)) (pA ad n sz)
def pKr (D : va_G) (dA : Nat → ClassId) (ad : Nat → Nat) (n : Nat) (Q : Nat → List PC → Prop) : pK := fun sz => va_Qr (fun u : Nat × List PC => Q u.1 u.2) (fun u a t => a = ad u.1 ∧ pB D dA ad n (pA ad n sz) u.2 t) (pA ad n sz)
def CtI (l : Launch) (D : va_G) (dA : Nat → ClassId) (ad : Nat → Nat) (y : MethodName) (ws : List Cond) (d : Nat) (as : List Value) (h : List PC) (Q : Int32 → List PC → Prop) : Prop :=
  ∀ sz : Nat, Met l y ws (pR d) (pPre D dA ad as h sz) (pKi D dA ad h.length Q sz) 0 0 (pA ad h.length sz)
def CtV (l : Launch) (D : va_G) (dA : Nat → ClassId) (ad : Nat → Nat) (y : MethodName) (ws : List Cond) (d : Nat) (as : List Value) (h : List PC) (Q : List PC → Prop) : Prop :=
  ∀ sz : Nat, Met l y ws (pR d) (pPre D dA ad as h sz) (pKv D dA ad h.length Q sz) 0 0 (pA ad h.length sz)
def CtR (l : Launch) (D : va_G) (dA : Nat → ClassId) (ad : Nat → Nat) (y : MethodName) (ws : List Cond) (d : Nat) (as : List Value) (h : List PC) (Q : Nat → List PC → Prop) : Prop :=
  ∀ sz : Nat, Met l y ws (pR d) (pPre D dA ad as h sz) (pKr D dA ad h.length Q sz) 0 0 (pA ad h.length sz)
def EH (D : va_G) (dA : Nat → ClassId) (ad : Nat → Nat) (ws : List Cond) (cc : ByteArray) (own : String) (nL : Nat) (ret : Option FieldType) (n : Nat) (p : Program) (s : State) (m : MethodId) (args : Array Value) (meth : Method) (c : Code) : Prop :=
  p.tables.exec = Jvm.exec ∧ c.code = cc ∧ c.maxLocals = nL ∧ meth.sig.returnType = ret ∧ meth.locks = false ∧ s.vm.findClass own = some m.cls ∧ (∀ w ∈ ws, w.before args s = true) ∧ va_K D vwCl (pT dA) s ∧ pX ad (pA ad n s.heap.size) s s.heap
def EW (D : va_G) (dA : Nat → ClassId) (ad : Nat → Nat) (nL n : Nat) (s : State) (h : List PC) (H : Heap) (locs : List Loc) (lsA : Array Slot) (ls : List (Nat × Value)) : Prop :=
  h.length = n ∧ va_P D vwCl (pwd dA ad h) H ∧ va_D (pA ad n s.heap.size) (pwd dA ad h) ∧ va_S (pA ad n s.heap.size) s.heap H locs ∧ lv_has lsA nL (pml ad ls) ∧ ls.all (fun q => p1 q.2) = true
def Ev (l : Launch) (D : va_G) (dA : Nat → ClassId) (ad : Nat → Nat) (ws : List Cond) (cc : ByteArray) (own : String) (nL : Nat) (ret : Option FieldType) (d n : Nat) (K : pK) (pc : Nat) (ls : List (Nat × Value)) (st : List Value) (h : List PC) : Prop :=
  ∀ (p : Program) (e : Env) (s : State) (m : MethodId) (args : Array Value) (below : List Frame) (meth : Method) (c : Code) (H : Heap) (locs : List Loc) (lsA : Array Slot),
    EH D dA ad ws cc own nL ret n p s m args meth c → EW D dA ad nL n s h H locs lsA ls → W p l e (pR d) s m args below meth c H locs 0 0 (MQ below (K s.heap.size) args s 0 0 (pA ad n s.heap.size)) (F0 m pc lsA (st.map (pcv ad)))
section EROWS
variable {l : Launch} {D : va_G} {dA : Nat → ClassId} {ad : Nat → Nat} {ws : List Cond} {cc : ByteArray} {own : String} {nL : Nat} {ret : Option FieldType} {d n : Nat} {K : pK} {pc : Nat} {ls : List (Nat × Value)} {st : List Value} {h : List PC}
theorem E_iconst {i : Int} {v : Int32} (hdg : decode cc pc = .ok (.iconst i, 1)) (hv : Int32.ofInt i = v) (kk : Ev l D dA ad ws cc own nL ret d n K (pc + 1) ls (.int v :: st) h) : Ev l D dA ad ws cc own nL ret d n K pc ls st h := by
  intro p e s m args below meth c H locs lsA E W0
  have k := kk p e s m args below meth c H locs lsA E W0
  obtain ⟨hx, hb, hml, hr, hlk, hown, hts, hKn, hX⟩ := E
  obtain ⟨hn0, hP, hD, hS, hl, hl1⟩ := W0
  exact lv_iconst hx hb hdg hv k
theorem E_bipush {i : Int} {v : Int32} (hdg : decode cc pc = .ok (.bipush i, 2)) (hv : (Int8.ofInt i).toInt32 = v) (kk : Ev l D dA ad ws cc own nL ret d n K (pc + 2) ls (.int v :: st) h) : Ev l D dA ad ws cc own nL ret d n K pc ls st h := by
  intro p e s m args below meth c H locs lsA E W0
  have k := kk p e s m args below meth c H locs lsA E W0
  obtain ⟨hx, hb, hml, hr, hlk, hown, hts, hKn, hX⟩ := E
  obtain ⟨hn0, hP, hD, hS, hl, hl1⟩ := W0
  exact lv_bipush hx hb hdg hv k
theorem E_sipush {i : Int} {v : Int32} (hdg : decode cc pc = .ok (.sipush i, 3)) (hv : (Int16.ofInt i).toInt32 = v) (kk : Ev l D dA ad ws cc own nL ret d n K (pc + 3) ls (.int v :: st) h) : Ev l D dA ad ws cc own nL ret d n K pc ls st h := by
  intro p e s m args below meth c H locs lsA E W0
  have k := kk p e s m args below meth c H locs lsA E W0
  obtain ⟨hx, hb, hml, hr, hlk, hown, hts, hKn, hX⟩ := E
  obtain ⟨hn0, hP, hD, hS, hl, hl1⟩ := W0
  exact lv_sipush hx hb hdg hv k
theorem E_ldc {idx : Nat} {v : Int32} (hdg : decode cc pc = .ok (.ldc idx, 2)) (hc : Cond.constant own idx v ∈ ws) (kk : Ev l D dA ad ws cc own nL ret d n K (pc + 2) ls (.int v :: st) h) : Ev l D dA ad ws cc own nL ret d n K pc ls st h := by
  intro p e s m args below meth c H locs lsA E W0
  have k := kk p e s m args below meth c H locs lsA E W0
  obtain ⟨hx, hb, hml, hr, hlk, hown, hts, hKn, hX⟩ := E
  obtain ⟨hn0, hP, hD, hS, hl, hl1⟩ := W0
  exact lv_ldc hx hb hown (hts _ hc) hdg k
theorem E_ldcw {idx : Nat} {v : Int32} (hdg : decode cc pc = .ok (.ldc_w idx, 3)) (hc : Cond.constant own idx v ∈ ws) (kk : Ev l D dA ad ws cc own nL ret d n K (pc + 3) ls (.int v :: st) h) : Ev l D dA ad ws cc own nL ret d n K pc ls st h := by
  intro p e s m args below meth c H locs lsA E W0
  have k := kk p e s m args below meth c H locs lsA E W0
  obtain ⟨hx, hb, hml, hr, hlk, hown, hts, hKn, hX⟩ := E
  obtain ⟨hn0, hP, hD, hS, hl, hl1⟩ := W0
  exact lv_ldcw hx hb hown (hts _ hc) hdg k
theorem E_iload_n {k0 : Fin 4} {x : Int32} (hdg : decode cc pc = .ok (.iload_n k0, 1)) (hg : pg ls k0 = some (.int x)) (kk : Ev l D dA ad ws cc own nL ret d n K (pc + 1) ls (.int x :: st) h) : Ev l D dA ad ws cc own nL ret d n K pc ls st h := by
  intro p e s m args below meth c H locs lsA E W0
  have k := kk p e s m args below meth c H locs lsA E W0
  obtain ⟨hx, hb, hml, hr, hlk, hown, hts, hKn, hX⟩ := E
  obtain ⟨hn0, hP, hD, hS, hl, hl1⟩ := W0
  exact lv_iload_n hx hb hdg rfl (pg_has hl hg) k
theorem E_iload {k0 : Nat} {x : Int32} (hdg : decode cc pc = .ok (.iload k0, 2)) (hg : pg ls k0 = some (.int x)) (kk : Ev l D dA ad ws cc own nL ret d n K (pc + 2) ls (.int x :: st) h) : Ev l D dA ad ws cc own nL ret d n K pc ls st h := by
  intro p e s m args below meth c H locs lsA E W0
  have k := kk p e s m args below meth c H locs lsA E W0
  obtain ⟨hx, hb, hml, hr, hlk, hown, hts, hKn, hX⟩ := E
  obtain ⟨hn0, hP, hD, hS, hl, hl1⟩ := W0
  exact lv_iload hx hb hdg (pg_has hl hg) k
theorem E_aload_n {k0 : Fin 4} {x : Nat} (hdg : decode cc pc = .ok (.aload_n k0, 1)) (hg : pg ls k0 = some (.ref x)) (kk : Ev l D dA ad ws cc own nL ret d n K (pc + 1) ls (.ref x :: st) h) : Ev l D dA ad ws cc own nL ret d n K pc ls st h := by
  intro p e s m args below meth c H locs lsA E W0
  have k := kk p e s m args below meth c H locs lsA E W0
  obtain ⟨hx, hb, hml, hr, hlk, hown, hts, hKn, hX⟩ := E
  obtain ⟨hn0, hP, hD, hS, hl, hl1⟩ := W0
  exact lv_aload_n hx hb hdg rfl (pg_has hl hg) k
theorem E_aload {k0 : Nat} {x : Nat} (hdg : decode cc pc = .ok (.aload k0, 2)) (hg : pg ls k0 = some (.ref x)) (kk : Ev l D dA ad ws cc own nL ret d n K (pc + 2) ls (.ref x :: st) h) : Ev l D dA ad ws cc own nL ret d n K pc ls st h := by
  intro p e s m args below meth c H locs lsA E W0
  have k := kk p e s m args below meth c H locs lsA E W0
  obtain ⟨hx, hb, hml, hr, hlk, hown, hts, hKn, hX⟩ := E
  obtain ⟨hn0, hP, hD, hS, hl, hl1⟩ := W0
  exact lv_aload hx hb hdg (pg_has hl hg) k
theorem E_iadd {x y : Int32} (hdg : decode cc pc = .ok (.iadd, 1)) (kk : Ev l D dA ad ws cc own nL ret d n K (pc + 1) ls (.int (x + y) :: st) h) : Ev l D dA ad ws cc own nL ret d n K pc ls (.int y :: .int x :: st) h := by
  intro p e s m args below meth c H locs lsA E W0
  have k := kk p e s m args below meth c H locs lsA E W0
  obtain ⟨hx, hb, hml, hr, hlk, hown, hts, hKn, hX⟩ := E
  obtain ⟨hn0, hP, hD, hS, hl, hl1⟩ := W0
  exact lv_iadd hx hb hdg k
theorem E_isub {x y : Int32} (hdg : decode cc pc = .ok (.isub, 1)) (kk : Ev l D dA ad ws cc own nL ret d n K (pc + 1) ls (.int (x - y) :: st) h) : Ev l D dA ad ws cc own nL ret d n K pc ls (.int y :: .int x :: st) h := by
  intro p e s m args below meth c H locs lsA E W0
  have k := kk p e s m args below meth c H locs lsA E W0
  obtain ⟨hx, hb, hml, hr, hlk, hown, hts, hKn, hX⟩ := E
  obtain ⟨hn0, hP, hD, hS, hl, hl1⟩ := W0
  exact lv_isub hx hb hdg k
theorem E_imul {x y : Int32} (hdg : decode cc pc = .ok (.imul, 1)) (kk : Ev l D dA ad ws cc own nL ret d n K (pc + 1) ls (.int (x * y) :: st) h) : Ev l D dA ad ws cc own nL ret d n K pc ls (.int y :: .int x :: st) h := by
  intro p e s m args below meth c H locs lsA E W0
  have k := kk p e s m args below meth c H locs lsA E W0
  obtain ⟨hx, hb, hml, hr, hlk, hown, hts, hKn, hX⟩ := E
  obtain ⟨hn0, hP, hD, hS, hl, hl1⟩ := W0
  exact lv_imul hx hb hdg k
theorem E_iand {x y : Int32} (hdg : decode cc pc = .ok (.iand, 1)) (kk : Ev l D dA ad ws cc own nL ret d n K (pc + 1) ls (.int (x &&& y) :: st) h) : Ev l D dA ad ws cc own nL ret d n K pc ls (.int y :: .int x :: st) h := by
  intro p e s m args below meth c H locs lsA E W0
  have k := kk p e s m args below meth c H locs lsA E W0
  obtain ⟨hx, hb, hml, hr, hlk, hown, hts, hKn, hX⟩ := E
  obtain ⟨hn0, hP, hD, hS, hl, hl1⟩ := W0
  exact lv_iand hx hb hdg k
theorem E_ishr {x y : Int32} (hdg : decode cc pc = .ok (.ishr, 1)) (kk : Ev l D dA ad ws cc own nL ret d n K (pc + 1) ls (.int (x >>> (y &&& 31)) :: st) h) : Ev l D dA ad ws cc own nL ret d n K pc ls (.int y :: .int x :: st) h := by
  intro p e s m args below meth c H locs lsA E W0
  have k := kk p e s m args below meth c H locs lsA E W0
  obtain ⟨hx, hb, hml, hr, hlk, hown, hts, hKn, hX⟩ := E
  obtain ⟨hn0, hP, hD, hS, hl, hl1⟩ := W0
  exact lv_ishr hx hb hdg k
theorem E_idiv {x y : Int32} (hdg : decode cc pc = .ok (.idiv, 1)) (hne : ¬ y = 0) (kk : Ev l D dA ad ws cc own nL ret d n K (pc + 1) ls (.int (x / y) :: st) h) : Ev l D dA ad ws cc own nL ret d n K pc ls (.int y :: .int x :: st) h := by
  intro p e s m args below meth c H locs lsA E W0
  have k := kk p e s m args below meth c H locs lsA E W0
  obtain ⟨hx, hb, hml, hr, hlk, hown, hts, hKn, hX⟩ := E
  obtain ⟨hn0, hP, hD, hS, hl, hl1⟩ := W0
  exact lv_idiv hx hb hdg hne k
theorem E_irem {x y : Int32} (hdg : decode cc pc = .ok (.irem, 1)) (hne : ¬ y = 0) (kk : Ev l D dA ad ws cc own nL ret d n K (pc + 1) ls (.int (x - x / y * y) :: st) h) : Ev l D dA ad ws cc own nL ret d n K pc ls (.int y :: .int x :: st) h := by
  intro p e s m args below meth c H locs lsA E W0
  have k := kk p e s m args below meth c H locs lsA E W0
  obtain ⟨hx, hb, hml, hr, hlk, hown, hts, hKn, hX⟩ := E
  obtain ⟨hn0, hP, hD, hS, hl, hl1⟩ := W0
  exact lv_irem hx hb hdg hne k
theorem E_ineg {x : Int32} (hdg : decode cc pc = .ok (.ineg, 1)) (kk : Ev l D dA ad ws cc own nL ret d n K (pc + 1) ls (.int (-x) :: st) h) : Ev l D dA ad ws cc own nL ret d n K pc ls (.int x :: st) h := by
  intro p e s m args below meth c H locs lsA E W0
  have k := kk p e s m args below meth c H locs lsA E W0
  obtain ⟨hx, hb, hml, hr, hlk, hown, hts, hKn, hX⟩ := E
  obtain ⟨hn0, hP, hD, hS, hl, hl1⟩ := W0
  exact lv_ineg hx hb hdg k
theorem E_i2b {x : Int32} (hdg : decode cc pc = .ok (.i2b, 1)) (kk : Ev l D dA ad ws cc own nL ret d n K (pc + 1) ls (.int x.toInt8.toInt32 :: st) h) : Ev l D dA ad ws cc own nL ret d n K pc ls (.int x :: st) h := by
  intro p e s m args below meth c H locs lsA E W0
  have k := kk p e s m args below meth c H locs lsA E W0
  obtain ⟨hx, hb, hml, hr, hlk, hown, hts, hKn, hX⟩ := E
  obtain ⟨hn0, hP, hD, hS, hl, hl1⟩ := W0
  exact lv_i2b hx hb hdg rfl k
theorem E_i2c {x : Int32} (hdg : decode cc pc = .ok (.i2c, 1)) (kk : Ev l D dA ad ws cc own nL ret d n K (pc + 1) ls (.int (x.toUInt32 % 65536).toInt32 :: st) h) : Ev l D dA ad ws cc own nL ret d n K pc ls (.int x :: st) h := by
  intro p e s m args below meth c H locs lsA E W0
  have k := kk p e s m args below meth c H locs lsA E W0
  obtain ⟨hx, hb, hml, hr, hlk, hown, hts, hKn, hX⟩ := E
  obtain ⟨hn0, hP, hD, hS, hl, hl1⟩ := W0
  exact lv_i2c hx hb hdg rfl k
theorem E_dup {v : Value} (hdg : decode cc pc = .ok (.dup, 1)) (h1 : p1 v = true) (kk : Ev l D dA ad ws cc own nL ret d n K (pc + 1) ls (v :: v :: st) h) : Ev l D dA ad ws cc own nL ret d n K pc ls (v :: st) h := by
  intro p e s m args below meth c H locs lsA E W0
  have k := kk p e s m args below meth c H locs lsA E W0
  obtain ⟨hx, hb, hml, hr, hlk, hown, hts, hKn, hX⟩ := E
  obtain ⟨hn0, hP, hD, hS, hl, hl1⟩ := W0
  exact lv_dup hx hb hdg (by rw [pcv_cat]; exact p1_cat h1) k
theorem E_pop {v : Value} (hdg : decode cc pc = .ok (.pop, 1)) (h1 : p1 v = true) (kk : Ev l D dA ad ws cc own nL ret d n K (pc + 1) ls st h) : Ev l D dA ad ws cc own nL ret d n K pc ls (v :: st) h := by
  intro p e s m args below meth c H locs lsA E W0
  have k := kk p e s m args below meth c H locs lsA E W0
  obtain ⟨hx, hb, hml, hr, hlk, hown, hts, hKn, hX⟩ := E
  obtain ⟨hn0, hP, hD, hS, hl, hl1⟩ := W0
  exact lv_pop hx hb hdg (by rw [pcv_cat]; exact p1_cat h1) k
theorem E_top {x : Int32} (k : ∀ y : Int32, y = x → Ev l D dA ad ws cc own nL ret d n K pc ls (.int y :: st) h) : Ev l D dA ad ws cc own nL ret d n K pc ls (.int x :: st) h := k x rfl
theorem E_val {x y : Int32} (e : x = y) (k : Ev l D dA ad ws cc own nL ret d n K pc ls (.int y :: st) h) : Ev l D dA ad ws cc own nL ret d n K pc ls (.int x :: st) h := e ▸ k
theorem E_heap {h' : List PC} (e : h = h') (k : Ev l D dA ad ws cc own nL ret d n K pc ls st h') : Ev l D dA ad ws cc own nL ret d n K pc ls st h := e ▸ k
theorem E_istore_n {k0 : Fin 4} {x : Int32} {ls' : List (Nat × Value)} (hdg : decode cc pc = .ok (.istore_n k0, 1)) (hn : k0 < nL) (hs : pst ls k0 (.int x) = ls') (kk : Ev l D dA ad ws cc own nL ret d n K (pc + 1) ls' st h) : Ev l D dA ad ws cc own nL ret d n K pc ls (.int x :: st) h := by
  intro p e s m args below meth c H locs lsA E W0
  have E0 := E
  obtain ⟨hx, hb, hml, hr, hlk, hown, hts, hKn, hX⟩ := E
  obtain ⟨hn0, hP, hD, hS, hl, hl1⟩ := W0
  subst hs
  refine lv_istore_n (lv := pml ad ls) hx hb hdg rfl hl hn rfl (fun lsB hlB => ?_)
  exact kk p e s m args below meth c H locs lsB E0 ⟨hn0, hP, hD, hS, pst_has hlB hl1, List.all_eq_true.mpr fun q hq => by
    rcases pst_mem hq with e1 | e1
    · rw [e1]; rfl
    · exact List.all_eq_true.mp hl1 q e1.1⟩
theorem E_istore {k0 : Nat} {x : Int32} {ls' : List (Nat × Value)} (hdg : decode cc pc = .ok (.istore k0, 2)) (hn : k0 < nL) (hs : pst ls k0 (.int x) = ls') (kk : Ev l D dA ad ws cc own nL ret d n K (pc + 2) ls' st h) : Ev l D dA ad ws cc own nL ret d n K pc ls (.int x :: st) h := by
  intro p e s m args below meth c H locs lsA E W0
  have E0 := E
  obtain ⟨hx, hb, hml, hr, hlk, hown, hts, hKn, hX⟩ := E
  obtain ⟨hn0, hP, hD, hS, hl, hl1⟩ := W0
  subst hs
  refine lv_istore (lv := pml ad ls) hx hb hdg hl hn rfl (fun lsB hlB => ?_)
  exact kk p e s m args below meth c H locs lsB E0 ⟨hn0, hP, hD, hS, pst_has hlB hl1, List.all_eq_true.mpr fun q hq => by
    rcases pst_mem hq with e1 | e1
    · rw [e1]; rfl
    · exact List.all_eq_true.mp hl1 q e1.1⟩
theorem E_astore_n {k0 : Fin 4} {x : Nat} {ls' : List (Nat × Value)} (hdg : decode cc pc = .ok (.astore_n k0, 1)) (hn : k0 < nL) (hs : pst ls k0 (.ref x) = ls') (kk : Ev l D dA ad ws cc own nL ret d n K (pc + 1) ls' st h) : Ev l D dA ad ws cc own nL ret d n K pc ls (.ref x :: st) h := by
  intro p e s m args below meth c H locs lsA E W0
  have E0 := E
  obtain ⟨hx, hb, hml, hr, hlk, hown, hts, hKn, hX⟩ := E
  obtain ⟨hn0, hP, hD, hS, hl, hl1⟩ := W0
  subst hs
  refine lv_astore_n (lv := pml ad ls) hx hb hdg rfl hl hn rfl (fun lsB hlB => ?_)
  exact kk p e s m args below meth c H locs lsB E0 ⟨hn0, hP, hD, hS, pst_has hlB hl1, List.all_eq_true.mpr fun q hq => by
    rcases pst_mem hq with e1 | e1
    · rw [e1]; rfl
    · exact List.all_eq_true.mp hl1 q e1.1⟩
theorem E_astore {k0 : Nat} {x : Nat} {ls' : List (Nat × Value)} (hdg : decode cc pc = .ok (.astore k0, 2)) (hn : k0 < nL) (hs : pst ls k0 (.ref x) = ls') (kk : Ev l D dA ad ws cc own nL ret d n K (pc + 2) ls' st h) : Ev l D dA ad ws cc own nL ret d n K pc ls (.ref x :: st) h := by
  intro p e s m args below meth c H locs lsA E W0
  have E0 := E
  obtain ⟨hx, hb, hml, hr, hlk, hown, hts, hKn, hX⟩ := E
  obtain ⟨hn0, hP, hD, hS, hl, hl1⟩ := W0
  subst hs
  refine lv_astore (lv := pml ad ls) hx hb hdg hl hn rfl (fun lsB hlB => ?_)
  exact kk p e s m args below meth c H locs lsB E0 ⟨hn0, hP, hD, hS, pst_has hlB hl1, List.all_eq_true.mpr fun q hq => by
    rcases pst_mem hq with e1 | e1
    · rw [e1]; rfl
    · exact List.all_eq_true.mp hl1 q e1.1⟩
theorem E_iinc {k0 : Nat} {i : Int} {x v : Int32} {ls' : List (Nat × Value)} (hdg : decode cc pc = .ok (.iinc k0 i, 3)) (hg : pg ls k0 = some (.int x)) (hv : x + Int32.ofInt i = v) (hn : k0 < nL) (hs : pst ls k0 (.int v) = ls') (kk : Ev l D dA ad ws cc own nL ret d n K (pc + 3) ls' st h) : Ev l D dA ad ws cc own nL ret d n K pc ls st h := by
  intro p e s m args below meth c H locs lsA E W0
  have E0 := E
  obtain ⟨hx, hb, hml, hr, hlk, hown, hts, hKn, hX⟩ := E
  obtain ⟨hn0, hP, hD, hS, hl, hl1⟩ := W0
  subst hs
  obtain ⟨k9, hk9⟩ := List.getElem?_of_mem (List.mem_map.mpr ⟨(k0, .int x), pg_mem hg, rfl⟩ : (k0, pcv ad (.int x)) ∈ pml ad ls)
  refine lv_iinc (lv := pml ad ls) hx hb hdg hl hk9 hv hn rfl (fun lsB hlB => ?_)
  exact kk p e s m args below meth c H locs lsB E0 ⟨hn0, hP, hD, hS, pst_has (v := .int v) hlB hl1, List.all_eq_true.mpr fun q hq => by
    rcases pst_mem hq with e1 | e1
    · rw [e1]; rfl
    · exact List.all_eq_true.mp hl1 q e1.1⟩
theorem E_if_eq {x : Int32} {off : Int} {tgt : Nat} (hdg : decode cc pc = .ok (.ifCond .eq off, 3)) (ht : (pc : Int) + off = (tgt : Int)) (kt : x = 0 → Ev l D dA ad ws cc own nL ret d n K tgt ls st h) (kf : ¬ x = 0 → Ev l D dA ad ws cc own nL ret d n K (pc + 3) ls st h) : Ev l D dA ad ws cc own nL ret d n K pc ls (.int x :: st) h := by
  intro p e s m args below meth c H locs lsA E W0
  have hx := E.1
  have hb := E.2.1
  exact lv_if_eq hx hb hdg ht (fun q => kt q p e s m args below meth c H locs lsA E W0) (fun q => kf q p e s m args below meth c H locs lsA E W0)
theorem E_if_ne {x : Int32} {off : Int} {tgt : Nat} (hdg : decode cc pc = .ok (.ifCond .ne off, 3)) (ht : (pc : Int) + off = (tgt : Int)) (kt : ¬ x = 0 → Ev l D dA ad ws cc own nL ret d n K tgt ls st h) (kf : x = 0 → Ev l D dA ad ws cc own nL ret d n K (pc + 3) ls st h) : Ev l D dA ad ws cc own nL ret d n K pc ls (.int x :: st) h := by
  intro p e s m args below meth c H locs lsA E W0
  have hx := E.1
  have hb := E.2.1
  exact lv_if_ne hx hb hdg ht (fun q => kt q p e s m args below meth c H locs lsA E W0) (fun q => kf q p e s m args below meth c H locs lsA E W0)
theorem E_if_lt {x : Int32} {off : Int} {tgt : Nat} (hdg : decode cc pc = .ok (.ifCond .lt off, 3)) (ht : (pc : Int) + off = (tgt : Int)) (kt : x < 0 → Ev l D dA ad ws cc own nL ret d n K tgt ls st h) (kf : ¬ x < 0 → Ev l D dA ad ws cc own nL ret d n K (pc + 3) ls st h) : Ev l D dA ad ws cc own nL ret d n K pc ls (.int x :: st) h := by
  intro p e s m args below meth c H locs lsA E W0
  have hx := E.1
  have hb := E.2.1
  exact lv_if_lt hx hb hdg ht (fun q => kt q p e s m args below meth c H locs lsA E W0) (fun q => kf q p e s m args below meth c H locs lsA E W0)
theorem E_if_ge {x : Int32} {off : Int} {tgt : Nat} (hdg : decode cc pc = .ok (.ifCond .ge off, 3)) (ht : (pc : Int) + off = (tgt : Int)) (kt : 0 ≤ x → Ev l D dA ad ws cc own nL ret d n K tgt ls st h) (kf : ¬ 0 ≤ x → Ev l D dA ad ws cc own nL ret d n K (pc + 3) ls st h) : Ev l D dA ad ws cc own nL ret d n K pc ls (.int x :: st) h := by
  intro p e s m args below meth c H locs lsA E W0
  have hx := E.1
  have hb := E.2.1
  exact lv_if_ge hx hb hdg ht (fun q => kt q p e s m args below meth c H locs lsA E W0) (fun q => kf q p e s m args below meth c H locs lsA E W0)
theorem E_if_gt {x : Int32} {off : Int} {tgt : Nat} (hdg : decode cc pc = .ok (.ifCond .gt off, 3)) (ht : (pc : Int) + off = (tgt : Int)) (kt : 0 < x → Ev l D dA ad ws cc own nL ret d n K tgt ls st h) (kf : ¬ 0 < x → Ev l D dA ad ws cc own nL ret d n K (pc + 3) ls st h) : Ev l D dA ad ws cc own nL ret d n K pc ls (.int x :: st) h := by
  intro p e s m args below meth c H locs lsA E W0
  have hx := E.1
  have hb := E.2.1
  exact lv_if_gt hx hb hdg ht (fun q => kt q p e s m args below meth c H locs lsA E W0) (fun q => kf q p e s m args below meth c H locs lsA E W0)
theorem E_if_le {x : Int32} {off : Int} {tgt : Nat} (hdg : decode cc pc = .ok (.ifCond .le off, 3)) (ht : (pc : Int) + off = (tgt : Int)) (kt : x ≤ 0 → Ev l D dA ad ws cc own nL ret d n K tgt ls st h) (kf : ¬ x ≤ 0 → Ev l D dA ad ws cc own nL ret d n K (pc + 3) ls st h) : Ev l D dA ad ws cc own nL ret d n K pc ls (.int x :: st) h := by
  intro p e s m args below meth c H locs lsA E W0
  have hx := E.1
  have hb := E.2.1
  exact lv_if_le hx hb hdg ht (fun q => kt q p e s m args below meth c H locs lsA E W0) (fun q => kf q p e s m args below meth c H locs lsA E W0)
theorem E_icmp_eq {x y : Int32} {off : Int} {tgt : Nat} (hdg : decode cc pc = .ok (.if_icmp .eq off, 3)) (ht : (pc : Int) + off = (tgt : Int)) (kt : x = y → Ev l D dA ad ws cc own nL ret d n K tgt ls st h) (kf : ¬ x = y → Ev l D dA ad ws cc own nL ret d n K (pc + 3) ls st h) : Ev l D dA ad ws cc own nL ret d n K pc ls (.int y :: .int x :: st) h := by
  intro p e s m args below meth c H locs lsA E W0
  have hx := E.1
  have hb := E.2.1
  exact lv_icmp_eq hx hb hdg ht (fun q => kt q p e s m args below meth c H locs lsA E W0) (fun q => kf q p e s m args below meth c H locs lsA E W0)
theorem E_icmp_ne {x y : Int32} {off : Int} {tgt : Nat} (hdg : decode cc pc = .ok (.if_icmp .ne off, 3)) (ht : (pc : Int) + off = (tgt : Int)) (kt : ¬ x = y → Ev l D dA ad ws cc own nL ret d n K tgt ls st h) (kf : x = y → Ev l D dA ad ws cc own nL ret d n K (pc + 3) ls st h) : Ev l D dA ad ws cc own nL ret d n K pc ls (.int y :: .int x :: st) h := by
  intro p e s m args below meth c H locs lsA E W0
  have hx := E.1
  have hb := E.2.1
  exact lv_icmp_ne hx hb hdg ht (fun q => kt q p e s m args below meth c H locs lsA E W0) (fun q => kf q p e s m args below meth c H locs lsA E W0)
theorem E_icmp_lt {x y : Int32} {off : Int} {tgt : Nat} (hdg : decode cc pc = .ok (.if_icmp .lt off, 3)) (ht : (pc : Int) + off = (tgt : Int)) (kt : x < y → Ev l D dA ad ws cc own nL ret d n K tgt ls st h) (kf : ¬ x < y → Ev l D dA ad ws cc own nL ret d n K (pc + 3) ls st h) : Ev l D dA ad ws cc own nL ret d n K pc ls (.int y :: .int x :: st) h := by
  intro p e s m args below meth c H locs lsA E W0
  have hx := E.1
  have hb := E.2.1
  exact lv_icmp_lt hx hb hdg ht (fun q => kt q p e s m args below meth c H locs lsA E W0) (fun q => kf q p e s m args below meth c H locs lsA E W0)
theorem E_icmp_ge {x y : Int32} {off : Int} {tgt : Nat} (hdg : decode cc pc = .ok (.if_icmp .ge off, 3)) (ht : (pc : Int) + off = (tgt : Int)) (kt : y ≤ x → Ev l D dA ad ws cc own nL ret d n K tgt ls st h) (kf : ¬ y ≤ x → Ev l D dA ad ws cc own nL ret d n K (pc + 3) ls st h) : Ev l D dA ad ws cc own nL ret d n K pc ls (.int y :: .int x :: st) h := by
  intro p e s m args below meth c H locs lsA E W0
  have hx := E.1
  have hb := E.2.1
  exact lv_icmp_ge hx hb hdg ht (fun q => kt q p e s m args below meth c H locs lsA E W0) (fun q => kf q p e s m args below meth c H locs lsA E W0)
theorem E_icmp_gt {x y : Int32} {off : Int} {tgt : Nat} (hdg : decode cc pc = .ok (.if_icmp .gt off, 3)) (ht : (pc : Int) + off = (tgt : Int)) (kt : y < x → Ev l D dA ad ws cc own nL ret d n K tgt ls st h) (kf : ¬ y < x → Ev l D dA ad ws cc own nL ret d n K (pc + 3) ls st h) : Ev l D dA ad ws cc own nL ret d n K pc ls (.int y :: .int x :: st) h := by
  intro p e s m args below meth c H locs lsA E W0
  have hx := E.1
  have hb := E.2.1
  exact lv_icmp_gt hx hb hdg ht (fun q => kt q p e s m args below meth c H locs lsA E W0) (fun q => kf q p e s m args below meth c H locs lsA E W0)
theorem E_icmp_le {x y : Int32} {off : Int} {tgt : Nat} (hdg : decode cc pc = .ok (.if_icmp .le off, 3)) (ht : (pc : Int) + off = (tgt : Int)) (kt : x ≤ y → Ev l D dA ad ws cc own nL ret d n K tgt ls st h) (kf : ¬ x ≤ y → Ev l D dA ad ws cc own nL ret d n K (pc + 3) ls st h) : Ev l D dA ad ws cc own nL ret d n K pc ls (.int y :: .int x :: st) h := by
  intro p e s m args below meth c H locs lsA E W0
  have hx := E.1
  have hb := E.2.1
  exact lv_icmp_le hx hb hdg ht (fun q => kt q p e s m args below meth c H locs lsA E W0) (fun q => kf q p e s m args below meth c H locs lsA E W0)
theorem E_goto {off : Int} {tgt : Nat} (hdg : decode cc pc = .ok (.goto off, 3)) (ht : (pc : Int) + off = (tgt : Int)) (kk : Ev l D dA ad ws cc own nL ret d n K tgt ls st h) : Ev l D dA ad ws cc own nL ret d n K pc ls st h := by
  intro p e s m args below meth c H locs lsA E W0
  have k := kk p e s m args below meth c H locs lsA E W0
  obtain ⟨hx, hb, hml, hr, hlk, hown, hts, hKn, hX⟩ := E
  obtain ⟨hn0, hP, hD, hS, hl, hl1⟩ := W0
  exact lv_goto hx hb hdg ht k
theorem E_tableIn {dflt lo hi : Int} {offs : Array Int} {len : Nat} {x : Int32} {off : Int} {tgt : Nat} (hdg : decode cc pc = .ok (.tableswitch dflt lo hi offs, len)) (h1 : ¬ x.toInt < lo) (h2 : ¬ hi < x.toInt) (ho : offs[(x.toInt - lo).toNat]? = some off) (ht : (pc : Int) + off = (tgt : Int)) (kk : Ev l D dA ad ws cc own nL ret d n K tgt ls st h) : Ev l D dA ad ws cc own nL ret d n K pc ls (.int x :: st) h := by
  intro p e s m args below meth c H locs lsA E W0
  have k := kk p e s m args below meth c H locs lsA E W0
  obtain ⟨hx, hb, hml, hr, hlk, hown, hts, hKn, hX⟩ := E
  obtain ⟨hn0, hP, hD, hS, hl, hl1⟩ := W0
  exact lv_tableIn hx hb hdg h1 h2 ho ht k
theorem E_tableOut {dflt lo hi : Int} {offs : Array Int} {len : Nat} {x : Int32} {tgt : Nat} (hdg : decode cc pc = .ok (.tableswitch dflt lo hi offs, len)) (h1 : x.toInt < lo ∨ hi < x.toInt) (ht : (pc : Int) + dflt = (tgt : Int)) (kk : Ev l D dA ad ws cc own nL ret d n K tgt ls st h) : Ev l D dA ad ws cc own nL ret d n K pc ls (.int x :: st) h := by
  intro p e s m args below meth c H locs lsA E W0
  have k := kk p e s m args below meth c H locs lsA E W0
  obtain ⟨hx, hb, hml, hr, hlk, hown, hts, hKn, hX⟩ := E
  obtain ⟨hn0, hP, hD, hS, hl, hl1⟩ := W0
  exact lv_tableOut hx hb hdg h1 ht k
theorem E_lookup {dflt : Int} {pp : Array (Int × Int)} {len : Nat} {x : Int32} {off : Int} {tgt : Nat} (hdg : decode cc pc = .ok (.lookupswitch dflt pp, len)) (hp : (pp.toList.zip (pp.toList.drop 1)).all (fun (a, next) => a.1 < next.1) = true) (ho : Op.lookupswitch.offset pp.toList dflt x.toInt = off) (ht : (pc : Int) + off = (tgt : Int)) (kk : Ev l D dA ad ws cc own nL ret d n K tgt ls st h) : Ev l D dA ad ws cc own nL ret d n K pc ls (.int x :: st) h := by
  intro p e s m args below meth c H locs lsA E W0
  have k := kk p e s m args below meth c H locs lsA E W0
  obtain ⟨hx, hb, hml, hr, hlk, hown, hts, hKn, hX⟩ := E
  obtain ⟨hn0, hP, hD, hS, hl, hl1⟩ := W0
  exact lv_lookup hx hb hdg hp ho ht k
/-- a field's link: its class by number, its place -/
def pFL (ws : List Cond) (own : String) (idx ci k : Nat) : Prop := ∃ (C : String) (T : u_T) (N : Nat), (∀ w ∈ u_ws C T N, w ∈ ws) ∧ vwCl[ci]? = some (C, T, N) ∧ k < N ∧ Cond.fieldLink own idx (T k).1 (T k).2.1 (T k).2.2.1 ∈ ws
def pFT (ci k : Nat) (ty : FieldType) : Prop := ∃ (C : String) (T : u_T) (N : Nat) (ty0 : Nat → FieldType), vwCl[ci]? = some (C, T, N) ∧ k < N ∧ (∀ k, k < N → parseFieldDescriptor (T k).2.2.1 = some (ty0 k)) ∧ (∀ a, a < N → ∀ b, b < N → a ≠ b → (T a).2.1 ≠ (T b).2.1) ∧ (T k).2.2.2 = false ∧ parseFieldDescriptor (T k).2.2.1 = some ty
theorem E_getf {idx q0 ci k0 : Nat} {fs : List Value} {v : Value} (hdg : decode cc pc = .ok (.getfield idx, 3)) (hF : pFL ws own idx ci k0) (he : h[q0]? = some (.inr (ci, fs))) (hv : fs[k0]? = some v) (kk : Ev l D dA ad ws cc own nL ret d n K (pc + 3) ls (v :: st) h) : Ev l D dA ad ws cc own nL ret d n K pc ls (.ref q0 :: st) h := by
  intro p e s m args below meth c H locs lsA E W0
  have k := kk p e s m args below meth c H locs lsA E W0
  obtain ⟨hx, hb, hml, hr, hlk, hown, hts, hKn, hX⟩ := E
  obtain ⟨hn0, hP, hD, hS, hl, hl1⟩ := W0
  obtain ⟨C, T, N, h1, h2, h3, h4⟩ := hF
  have hv2 : (fs.map (pcv ad))[k0]? = some (pcv ad v) := by rw [List.getElem?_map, hv]; rfl
  exact va_get hx hb hts h1 hown hKn hP q0 (fs := fs.map (pcv ad)) (pwd_get he) h2 k0 h3 (hts _ h4) (fun _ h9 => h9) hv2 hdg k
theorem E_putf {idx q0 ci k0 : Nat} {fs : List Value} {v : Value} {ty : FieldType} {h' : List PC} (hdg : decode cc pc = .ok (.putfield idx, 3)) (hF : pFL ws own idx ci k0) (hT : pFT ci k0 ty) (he : h[q0]? = some (.inr (ci, fs))) (hk : k0 < fs.length) (hnr : narrow ty v = v) (hft : fits ty v = true) (hi : ∃ x, v = .int x) (hh : h.set q0 (.inr (ci, fs.set k0 v)) = h') (kk : Ev l D dA ad ws cc own nL ret d n K (pc + 3) ls st h') : Ev l D dA ad ws cc own nL ret d n K pc ls (v :: .ref q0 :: st) h := by
  intro p e s m args below meth c H locs lsA E W0
  have E0 := E
  obtain ⟨hx, hb, hml, hr, hlk, hown, hts, hKn, hX⟩ := E
  obtain ⟨hn0, hP, hD, hS, hl, hl1⟩ := W0
  obtain ⟨C, T, N, h1, h2, h3, h4⟩ := hF
  obtain ⟨C9, T9, N9, ty0, g1, g2, g3, g4, g5, g6⟩ := hT
  rw [h2] at g1
  cases g1
  obtain ⟨x, rfl⟩ := hi
  subst hh
  refine va_put (v := .int x) hx hb hts h1 ty0 g3 g4 hown hKn hP hD hS q0 (fs := fs.map (pcv ad)) (pwd_get he) h2 k0 h3 (hts _ h4) (fun _ h9 => h9) g5 g6 hnr hft (by rw [List.length_map]; exact hk) hdg (fun H1 locs1 hP1 hD1 hS1 => ?_)
  have e9 : (pwd dA ad h).set q0 (ad q0, .inr (ci, (fs.map (pcv ad)).set k0 (.int x))) = pwd dA ad (h.set q0 (.inr (ci, fs.set k0 (.int x)))) := by
    rw [← pwd_set]
    show _ = (pwd dA ad h).set q0 (ad q0, .inr (ci, (fs.set k0 (.int x)).map (pcv ad)))
    rw [List.map_set]
    rfl
  rw [e9] at hP1 hD1
  exact kk p e s m args below meth c H1 locs1 lsA E0 ⟨by rw [List.length_set]; exact hn0, hP1, hD1, hS1, hl, hl1⟩
theorem E_iald {q0 n0 : Nat} {f : Nat → Int32} {i : Int32} (hdg : decode cc pc = .ok (.iaload, 1)) (he : h[q0]? = some (.inl (0, n0, .inl f))) (hin : vp_in i n0) (kk : Ev l D dA ad ws cc own nL ret d n K (pc + 1) ls (.int (f i.toNatClampNeg) :: st) h) : Ev l D dA ad ws cc own nL ret d n K pc ls (.int i :: .ref q0 :: st) h := by
  intro p e s m args below meth c H locs lsA E W0
  have k := kk p e s m args below meth c H locs lsA E W0
  obtain ⟨hx, hb, hml, hr, hlk, hown, hts, hKn, hX⟩ := E
  obtain ⟨hn0, hP, hD, hS, hl, hl1⟩ := W0
  exact va_iald hx hb hKn hP q0 0 (cA := dA 0) (n := n0) (f := f) (pwd_get he) rfl hin hdg k
theorem E_ialdN {q0 n0 : Nat} {f : Nat → Int32} {j : Nat} (hdg : decode cc pc = .ok (.iaload, 1)) (he : h[q0]? = some (.inl (0, n0, .inl f))) (hj : j < n0) (hn0 : n0 < 2 ^ 31) (kk : Ev l D dA ad ws cc own nL ret d n K (pc + 1) ls (.int (f j) :: st) h) : Ev l D dA ad ws cc own nL ret d n K pc ls (.int (nI j) :: .ref q0 :: st) h := E_iald hdg he (vp_in_nI hj hn0) (by rw [nI_clamp (by omega)]; exact kk)
theorem E_bald {q0 n0 : Nat} {f : Nat → Int32} {i : Int32} (hdg : decode cc pc = .ok (.baload, 1)) (he : h[q0]? = some (.inl (1, n0, .inl f))) (hin : vp_in i n0) (kk : Ev l D dA ad ws cc own nL ret d n K (pc + 1) ls (.int (f i.toNatClampNeg) :: st) h) : Ev l D dA ad ws cc own nL ret d n K pc ls (.int i :: .ref q0 :: st) h := by
  intro p e s m args below meth c H locs lsA E W0
  have k := kk p e s m args below meth c H locs lsA E W0
  obtain ⟨hx, hb, hml, hr, hlk, hown, hts, hKn, hX⟩ := E
  obtain ⟨hn0, hP, hD, hS, hl, hl1⟩ := W0
  exact va_bald hx hb hKn hP q0 1 (cA := dA 1) (n := n0) (f := f) (pwd_get he) rfl hin hdg k
theorem E_baldN {q0 n0 : Nat} {f : Nat → Int32} {j : Nat} (hdg : decode cc pc = .ok (.baload, 1)) (he : h[q0]? = some (.inl (1, n0, .inl f))) (hj : j < n0) (hn0 : n0 < 2 ^ 31) (kk : Ev l D dA ad ws cc own nL ret d n K (pc + 1) ls (.int (f j) :: st) h) : Ev l D dA ad ws cc own nL ret d n K pc ls (.int (nI j) :: .ref q0 :: st) h := E_bald hdg he (vp_in_nI hj hn0) (by rw [nI_clamp (by omega)]; exact kk)
theorem E_cald {q0 n0 : Nat} {f : Nat → Int32} {i : Int32} (hdg : decode cc pc = .ok (.caload, 1)) (he : h[q0]? = some (.inl (2, n0, .inl f))) (hin : vp_in i n0) (kk : Ev l D dA ad ws cc own nL ret d n K (pc + 1) ls (.int (f i.toNatClampNeg) :: st) h) : Ev l D dA ad ws cc own nL ret d n K pc ls (.int i :: .ref q0 :: st) h := by
  intro p e s m args below meth c H locs lsA E W0
  have k := kk p e s m args below meth c H locs lsA E W0
  obtain ⟨hx, hb, hml, hr, hlk, hown, hts, hKn, hX⟩ := E
  obtain ⟨hn0, hP, hD, hS, hl, hl1⟩ := W0
  exact va_cald hx hb hKn hP q0 2 (cA := dA 2) (n := n0) (f := f) (pwd_get he) rfl hin hdg k
theorem E_caldN {q0 n0 : Nat} {f : Nat → Int32} {j : Nat} (hdg : decode cc pc = .ok (.caload, 1)) (he : h[q0]? = some (.inl (2, n0, .inl f))) (hj : j < n0) (hn0 : n0 < 2 ^ 31) (kk : Ev l D dA ad ws cc own nL ret d n K (pc + 1) ls (.int (f j) :: st) h) : Ev l D dA ad ws cc own nL ret d n K pc ls (.int (nI j) :: .ref q0 :: st) h := E_cald hdg he (vp_in_nI hj hn0) (by rw [nI_clamp (by omega)]; exact kk)
theorem E_iast {q0 n0 : Nat} {f : Nat → Int32} {i x : Int32} {h' : List PC} (hdg : decode cc pc = .ok (.iastore, 1)) (he : h[q0]? = some (.inl (0, n0, .inl f))) (hin : vp_in i n0) (hh : h.set q0 (.inl (0, n0, .inl (upd f i.toNatClampNeg x))) = h') (kk : Ev l D dA ad ws cc own nL ret d n K (pc + 1) ls st h') : Ev l D dA ad ws cc own nL ret d n K pc ls (.int x :: .int i :: .ref q0 :: st) h := by
  intro p e s m args below meth c H locs lsA E W0
  have E0 := E
  obtain ⟨hx, hb, hml, hr, hlk, hown, hts, hKn, hX⟩ := E
  obtain ⟨hn0, hP, hD, hS, hl, hl1⟩ := W0
  subst hh
  refine va_iast hx hb hKn hP hD hS q0 0 (cA := dA 0) (n := n0) (f := f) (pwd_get he) rfl hin hdg (fun H1 locs1 hP1 hD1 hS1 => ?_)
  have e9 : (pwd dA ad h).set q0 (ad q0, .inl (dA 0, n0, .inl (upd f i.toNatClampNeg x))) = pwd dA ad (h.set q0 (.inl (0, n0, .inl (upd f i.toNatClampNeg x)))) := by
    rw [← pwd_set]
    rfl
  rw [e9] at hP1 hD1
  exact kk p e s m args below meth c H1 locs1 lsA E0 ⟨by rw [List.length_set]; exact hn0, hP1, hD1, hS1, hl, hl1⟩
theorem E_iastN {q0 n0 j : Nat} {f : Nat → Int32} {x : Int32} {h' : List PC} (hdg : decode cc pc = .ok (.iastore, 1)) (he : h[q0]? = some (.inl (0, n0, .inl f))) (hj : j < n0) (hn0 : n0 < 2 ^ 31) (hh : h.set q0 (.inl (0, n0, .inl (upd f j x))) = h') (kk : Ev l D dA ad ws cc own nL ret d n K (pc + 1) ls st h') : Ev l D dA ad ws cc own nL ret d n K pc ls (.int x :: .int (nI j) :: .ref q0 :: st) h := E_iast hdg he (vp_in_nI hj hn0) (by rw [nI_clamp (by omega)]; exact hh) kk
theorem E_bast {q0 n0 : Nat} {f : Nat → Int32} {i x : Int32} {h' : List PC} (hdg : decode cc pc = .ok (.bastore, 1)) (he : h[q0]? = some (.inl (1, n0, .inl f))) (hin : vp_in i n0) (hh : h.set q0 (.inl (1, n0, .inl (upd f i.toNatClampNeg (vp_nar .byte x)))) = h') (kk : Ev l D dA ad ws cc own nL ret d n K (pc + 1) ls st h') : Ev l D dA ad ws cc own nL ret d n K pc ls (.int x :: .int i :: .ref q0 :: st) h := by
  intro p e s m args below meth c H locs lsA E W0
  have E0 := E
  obtain ⟨hx, hb, hml, hr, hlk, hown, hts, hKn, hX⟩ := E
  obtain ⟨hn0, hP, hD, hS, hl, hl1⟩ := W0
  subst hh
  refine va_bast hx hb hKn hP hD hS q0 1 (cA := dA 1) (n := n0) (f := f) (pwd_get he) rfl hin hdg (fun H1 locs1 hP1 hD1 hS1 => ?_)
  have e9 : (pwd dA ad h).set q0 (ad q0, .inl (dA 1, n0, .inl (upd f i.toNatClampNeg (vp_nar .byte x)))) = pwd dA ad (h.set q0 (.inl (1, n0, .inl (upd f i.toNatClampNeg (vp_nar .byte x))))) := by
    rw [← pwd_set]
    rfl
  rw [e9] at hP1 hD1
  exact kk p e s m args below meth c H1 locs1 lsA E0 ⟨by rw [List.length_set]; exact hn0, hP1, hD1, hS1, hl, hl1⟩
theorem E_bastN {q0 n0 j : Nat} {f : Nat → Int32} {x : Int32} {h' : List PC} (hdg : decode cc pc = .ok (.bastore, 1)) (he : h[q0]? = some (.inl (1, n0, .inl f))) (hj : j < n0) (hn0 : n0 < 2 ^ 31) (hh : h.set q0 (.inl (1, n0, .inl (upd f j (vp_nar .byte x)))) = h') (kk : Ev l D dA ad ws cc own nL ret d n K (pc + 1) ls st h') : Ev l D dA ad ws cc own nL ret d n K pc ls (.int x :: .int (nI j) :: .ref q0 :: st) h := E_bast hdg he (vp_in_nI hj hn0) (by rw [nI_clamp (by omega)]; exact hh) kk
theorem E_cast {q0 n0 : Nat} {f : Nat → Int32} {i x : Int32} {h' : List PC} (hdg : decode cc pc = .ok (.castore, 1)) (he : h[q0]? = some (.inl (2, n0, .inl f))) (hin : vp_in i n0) (hh : h.set q0 (.inl (2, n0, .inl (upd f i.toNatClampNeg (vp_nar .char x)))) = h') (kk : Ev l D dA ad ws cc own nL ret d n K (pc + 1) ls st h') : Ev l D dA ad ws cc own nL ret d n K pc ls (.int x :: .int i :: .ref q0 :: st) h := by
  intro p e s m args below meth c H locs lsA E W0
  have E0 := E
  obtain ⟨hx, hb, hml, hr, hlk, hown, hts, hKn, hX⟩ := E
  obtain ⟨hn0, hP, hD, hS, hl, hl1⟩ := W0
  subst hh
  refine va_cast hx hb hKn hP hD hS q0 2 (cA := dA 2) (n := n0) (f := f) (pwd_get he) rfl hin hdg (fun H1 locs1 hP1 hD1 hS1 => ?_)
  have e9 : (pwd dA ad h).set q0 (ad q0, .inl (dA 2, n0, .inl (upd f i.toNatClampNeg (vp_nar .char x)))) = pwd dA ad (h.set q0 (.inl (2, n0, .inl (upd f i.toNatClampNeg (vp_nar .char x))))) := by
    rw [← pwd_set]
    rfl
  rw [e9] at hP1 hD1
  exact kk p e s m args below meth c H1 locs1 lsA E0 ⟨by rw [List.length_set]; exact hn0, hP1, hD1, hS1, hl, hl1⟩
theorem E_castN {q0 n0 j : Nat} {f : Nat → Int32} {x : Int32} {h' : List PC} (hdg : decode cc pc = .ok (.castore, 1)) (he : h[q0]? = some (.inl (2, n0, .inl f))) (hj : j < n0) (hn0 : n0 < 2 ^ 31) (hh : h.set q0 (.inl (2, n0, .inl (upd f j (vp_nar .char x)))) = h') (kk : Ev l D dA ad ws cc own nL ret d n K (pc + 1) ls st h') : Ev l D dA ad ws cc own nL ret d n K pc ls (.int x :: .int (nI j) :: .ref q0 :: st) h := E_cast hdg he (vp_in_nI hj hn0) (by rw [nI_clamp (by omega)]; exact hh) kk
theorem E_aald {q0 n0 k0 : Nat} {f : Nat → Option Nat} {i : Int32} (hdg : decode cc pc = .ok (.aaload, 1)) (he : h[q0]? = some (.inl (3, n0, .inr (.inr (.inr (.inr f)))))) (hin : vp_in i n0) (hf : f i.toNatClampNeg = some k0) (kk : Ev l D dA ad ws cc own nL ret d n K (pc + 1) ls (.ref k0 :: st) h) : Ev l D dA ad ws cc own nL ret d n K pc ls (.int i :: .ref q0 :: st) h := by
  intro p e s m args below meth c H locs lsA E W0
  have k := kk p e s m args below meth c H locs lsA E W0
  obtain ⟨hx, hb, hml, hr, hlk, hown, hts, hKn, hX⟩ := E
  obtain ⟨hn0, hP, hD, hS, hl, hl1⟩ := W0
  have hlt : i.toNatClampNeg < n0 := Nat.not_le.mp fun q => hin (Or.inr q)
  have e1 : va_rf ((f i.toNatClampNeg).map ad) = .ref (ad k0) := by rw [hf]; rfl
  exact W.aald (v := .ref (ad k0)) (ty := .array .int) hx hb (hP q0 _ (pwd_get he)) ((hKn.2 3 _ rfl).1 n0 (fun j => va_rf ((f j).map ad))) rfl (fun q => by cases q) (by show ¬ (i < 0 ∨ (arrV _ _ _).slots.size ≤ _); rw [arrV_size]; exact hin) (by show (arrV (dA 3) n0 (fun j => va_rf ((f j).map ad))).slots[i.toNatClampNeg]? = _; rw [arrV_read _ _ hlt, e1]) rfl rfl hdg k
theorem E_alen {q0 n0 t : Nat} {f : Nat → Int32} (hdg : decode cc pc = .ok (.arraylength, 1)) (he : h[q0]? = some (.inl (t, n0, .inl f))) (ht : t < 3) (kk : Ev l D dA ad ws cc own nL ret d n K (pc + 1) ls (.int (nI n0) :: st) h) : Ev l D dA ad ws cc own nL ret d n K pc ls (.ref q0 :: st) h := by
  intro p e s m args below meth c H locs lsA E W0
  have k := kk p e s m args below meth c H locs lsA E W0
  obtain ⟨hx, hb, hml, hr, hlk, hown, hts, hKn, hX⟩ := E
  obtain ⟨hn0, hP, hD, hS, hl, hl1⟩ := W0
  have e1 : (pwd dA ad h)[q0]? = some (ad q0, .inl (dA t, n0, .inl f)) := pwd_get he
  rcases (show t = 0 ∨ t = 1 ∨ t = 2 by omega) with rfl | rfl | rfl
  · exact va_alen hx hb hKn hP q0 0 e1 (ty := .int) rfl rfl hdg k
  · exact va_alen hx hb hKn hP q0 1 e1 (ty := .byte) rfl rfl hdg k
  · exact va_alen hx hb hKn hP q0 2 e1 (ty := .char) rfl rfl hdg k
theorem E_iret {Q : Int32 → List PC → Prop} {v : Int32} (hr0 : ret = some .int) (hdg : decode cc pc = .ok (.ireturn, 1)) (hq : Q v h) : Ev l D dA ad ws cc own nL ret d n (pKi D dA ad n Q) pc ls [.int v] h := by
  intro p e s m args below meth c H locs lsA E W0
  have E0 := E
  obtain ⟨hx, hb, hml, hr, hlk, hown, hts, hKn, hX⟩ := E
  obtain ⟨hn0, hP, hD, hS, hl, hl1⟩ := W0
  exact W.iret (v := v) hx hb (by rw [hr, hr0]) (fun t ht hW => ⟨⟨v, h, rfl, hq, by rw [ht]; exact hP, va_K.moved hW.alike hKn, hD, hn0⟩, hS.F ht⟩) hS.2.2 hdg
theorem E_zret {Q : Int32 → List PC → Prop} {v : Int32} {ty : FieldType} (hr0 : ret = some ty) (hdg : decode cc pc = .ok (.ireturn, 1)) (hnr : narrow ty (.int v) = .int v) (hq : Q v h) : Ev l D dA ad ws cc own nL ret d n (pKi D dA ad n Q) pc ls [.int v] h := by
  intro p e s m args below meth c H locs lsA E W0
  have E0 := E
  obtain ⟨hx, hb, hml, hr, hlk, hown, hts, hKn, hX⟩ := E
  obtain ⟨hn0, hP, hD, hS, hl, hl1⟩ := W0
  exact W.zret (v := v) (ty := ty) hx hb (by rw [hr, hr0]) hnr (fun t ht hW => ⟨⟨v, h, rfl, hq, by rw [ht]; exact hP, va_K.moved hW.alike hKn, hD, hn0⟩, hS.F ht⟩) hS.2.2 hdg
theorem E_vret {Q : List PC → Prop} (hr0 : ret = none) (hdg : decode cc pc = .ok (.return_, 1)) (hq : Q h) : Ev l D dA ad ws cc own nL ret d n (pKv D dA ad n Q) pc ls [] h := by
  intro p e s m args below meth c H locs lsA E W0
  have E0 := E
  obtain ⟨hx, hb, hml, hr, hlk, hown, hts, hKn, hX⟩ := E
  obtain ⟨hn0, hP, hD, hS, hl, hl1⟩ := W0
  exact W.vret hx hb (by rw [hr, hr0]) (fun t ht hW => ⟨⟨h, rfl, hq, by rw [ht]; exact hP, va_K.moved hW.alike hKn, hD, hn0⟩, hS.F ht⟩) hS.2.2 hdg
theorem E_aret {Q : Nat → List PC → Prop} {k0 : Nat} {rt : FieldType} (hr0 : ret = some rt) (hrt : (∃ n, rt = .object n) ∨ ∃ t, rt = .array t) (hdg : decode cc pc = .ok (.areturn, 1)) (hq : Q k0 h) : Ev l D dA ad ws cc own nL ret d n (pKr D dA ad n Q) pc ls [.ref k0] h := by
  intro p e s m args below meth c H locs lsA E W0
  have E0 := E
  obtain ⟨hx, hb, hml, hr, hlk, hown, hts, hKn, hX⟩ := E
  obtain ⟨hn0, hP, hD, hS, hl, hl1⟩ := W0
  exact W.aret (v := .ref (ad k0)) (rt := rt) hx hb (by rw [hr, hr0]) hrt (Or.inr ⟨_, rfl⟩) (fun t ht hW => ⟨⟨(k0, h), ad k0, rfl, hq, rfl, by rw [ht]; exact hP, va_K.moved hW.alike hKn, hD, hn0⟩, hS.F ht⟩) hS.2.2 hdg
end EROWS
