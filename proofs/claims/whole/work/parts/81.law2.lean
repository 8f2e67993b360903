/-! THE LAW'S WALK: two worlds side by side -/
theorem pD_of {dA : Nat → ClassId} {ad : Nat → Nat} {h : List PC} {A : Nat → Prop} (hi : ∀ i j : Nat, i < h.length → j < h.length → ad i = ad j → i = j) (hA : ∀ k : Nat, k < h.length → A (ad k)) : va_D A (pwd dA ad h) :=
  ⟨fun i j p q hp hq e => by
    obtain ⟨a1, a2⟩ := pwd_at hp
    obtain ⟨b1, b2⟩ := pwd_at hq
    rw [a2, b2] at e
    exact hi i j a1 b1 e, fun k q hq => by
    obtain ⟨a1, a2⟩ := pwd_at hq
    rw [a2]
    exact hA k a1⟩
theorem pD_inj {dA : Nat → ClassId} {ad : Nat → Nat} {h : List PC} {A : Nat → Prop} (hD : va_D A (pwd dA ad h)) : (∀ i j : Nat, i < h.length → j < h.length → ad i = ad j → i = j) ∧ ∀ k : Nat, k < h.length → A (ad k) :=
  ⟨fun i j hi hj e => hD.1 i j _ _ (pwd_get (List.getElem?_eq_getElem hi)) (pwd_get (List.getElem?_eq_getElem hj)) e, fun k hk => hD.2 k _ (pwd_get (List.getElem?_eq_getElem hk))⟩
def LD (adX adM : Nat → Nat) (sz : Nat) : Prop := ((∀ i j : Nat, i < 52 → j < 52 → adX i = adX j → i = j) ∧ (∀ k : Nat, k < 52 → sz ≤ adX k)) ∧ ((∀ i j : Nat, i < 38 → j < 38 → adM i = adM j → i = j) ∧ (∀ k : Nat, k < 38 → sz ≤ adM k)) ∧ ∀ i j : Nat, i < 52 → j < 38 → adX i ≠ adM j
def LW (D : va_G) (dA : Nat → ClassId) (adX adM : Nat → Nat) (s : State) (S T : PS) (H : Heap) (locs : List Loc) : Prop := va_P D vwCl (pwd dA adX (hX S)) H ∧ va_P D vwCl (pwd dA adM (hM T)) H ∧ va_S (fun q => s.heap.size ≤ q) s.heap H locs
def LC (p : Program) (s : State) (m : MethodId) (meth : Method) (c : Code) (b L : Nat) (xs : Nat → Int32) (D : va_G) (dA : Nat → ClassId) (adX adM : Nat → Nat) : Prop :=
  lw_At p s m meth c b L xs ∧ va_K D vwCl (pT dA) s ∧ LD adX adM s.heap.size ∧ pX adX (fun q => s.heap.size ≤ q) s s.heap ∧ pX adM (fun q => s.heap.size ≤ q) s s.heap
def EL (p : Program) (l : Launch) (e : Env) (s : State) (m : MethodId) (below : List Frame) (meth : Method) (c : Code) (b : Nat) (D : va_G) (dA : Nat → ClassId) (adX adM : Nat → Nat) (pc : Nat) (ls : List (Nat × Value)) (st : List Value) (S T : PS) : Prop :=
  ∀ (H : Heap) (locs : List Loc) (lsA : Array Slot), LW D dA adX adM s S T H locs → lv_has lsA 4 ls → W p l e room_1 s m #[Value.ref b] below meth c H locs 600000 7302250 (lw_Z below #[Value.ref b] s) (F0 m pc lsA st)
section LAWR
variable {p : Program} {l : Launch} {e : Env} {s : State} {m : MethodId} {below : List Frame} {meth : Method} {c : Code} {b L : Nat} {xs : Nat → Int32} {D : va_G} {dA : Nat → ClassId} {adX adM : Nat → Nat} {S T : PS} {pc : Nat} {ls : List (Nat × Value)} {st : List Value}
theorem lw_ts (C : LC p s m meth c b L xs D dA adX adM) : ∀ w ∈ wsL_law, w.before #[Value.ref b] s = true := fun w h => C.1.2.2.2.2.2.1 w (wsL_law_in w h)
theorem pints {ad : Nat → Nat} : ∀ {As : List Value}, As.all (fun v => match v with | .int _ => true | _ => false) = true → As.map (pcv ad) = As := by
  intro As
  induction As with
  | nil => intro _; rfl
  | cons v As ih =>
    intro h
    rw [List.all_cons, Bool.and_eq_true] at h
    rw [List.map_cons, ih h.2]
    cases v <;> first | rfl | (exact absurd (show false = true from h.1) (by decide))

theorem EL_X (C : LC p s m meth c b L xs D dA adX adM) {y : MethodName} {wsY : List Cond} {cY : ByteArray} {nLY np dY idx : Nat} {retY : Option FieldType} {As st0 : List Value} {P : (Int32 × PS) → Prop} (hC : CtI l D dA adX y wsY dY (.ref 0 :: As) (hX S) (fun r h' => ∃ S' : PS, h' = hX S' ∧ P (r, S'))) (hF : pMF y wsY cY nLY retY np) (hnp : As.length = np) (hy : y.cls = RX11) (hG : GoodIn wsL_law (wsV RL idx RX11 y wsY)) (hints : As.all (fun v => match v with | .int _ => true | _ => false) = true) (hdd : dY ≤ 100) (hs : As.reverse ++ .ref (adX 0) :: st = st0) (h8 : (st.map fun v => v.category).sum ≤ 8) (hdg : decode code pc = .ok (.invokevirtual idx, 3)) (kk : ∀ (r : Int32) (S' : PS), P (r, S') → EL p l e s m below meth c b D dA adX adM (pc + 3) ls (.int r :: st) S' T) : EL p l e s m below meth c b D dA adX adM pc ls st0 S T := by
  intro H locs lsA hW hl
  have hts := lw_ts C
  obtain ⟨⟨hx, hb, hr, hml, hown, hts0, hSX, hbl, hlocks, hgv⟩, hK, hLD, hXX, hXM⟩ := C
  obtain ⟨hPX, hPM, hS⟩ := hW
  obtain ⟨⟨x1, x2⟩, ⟨m1, m2⟩, xm⟩ := hLD
  subst hs
  obtain ⟨⟨ws', hw⟩, hpl, hm45, hy1, hy2, hy3⟩ := hF
  have hRR : (pR dY).frames + 1 ≤ room_1.frames ∧ 8 + (nLY + 11) + (pR dY).locals ≤ room_1.locals := by
    refine ⟨?_, ?_⟩
    · show dY + 1 ≤ 2048
      omega
    · show 8 + (nLY + 11) + 64 * dY ≤ 84000
      omega
  have hAs : As.map (pcv adX) = As := pints hints
  have hDp : va_D (fun q => s.heap.size ≤ q) (pwd dA adX (hX S)) := pD_of x1 x2
  have hA1 : ∀ q : Nat, pA adX (hX S).length H.size q → s.heap.size ≤ q := fun q hq => by
    rcases hq with ⟨k, hk, rfl⟩ | hq
    · exact x2 k hk
    · exact Nat.le_trans hS.1 hq
  have hpre : ∀ U : State, U.heap = H → s.WarmedH U.vm → pPre D dA adX (.ref 0 :: As) (hX S) H.size ((.ref (adX 0) :: As : List Value)).toArray U := fun U hU hW => ⟨by show (_ : List Value).toArray = (pcv adX (.ref 0) :: As.map (pcv adX)).toArray; rw [hAs]; rfl, by rw [hU], by rw [hU]; exact hPX, va_K.moved hW.alike hK, hDp.weaken (fun _ _ _ _ => trivial), by rw [hU]; exact hXX.to hW hS.2.1 hA1⟩
  obtain ⟨fs0, hfs0⟩ : ∃ fs : List Value, (hX S)[0]? = some (.inr (11, fs)) := ⟨_, rfl⟩
  have hfs1 : (pwd dA adX (hX S))[0]? = some (adX 0, .inr (11, fs0.map (pcv adX))) := pwd_get hfs0
  have hrv : ∃ cellB : Cell, H[adX 0]? = some cellB ∧ cellB.vm.isStatics = false ∧ s.vm.findClass RX11 = some cellB.cls := va_recv hK hPX (q := vwCl.getD 11 (RL, TX0, 0)) rfl hfs1
  refine va_calli (va_runV (As := As) (rest := st) (b := adX 0) ⟨hx, hb, hml, hown, hts⟩ (hC H.size) (cwV np hts hG hw rfl rfl ⟨hy, hy1, hy2, hy3⟩ hRR) ⟨pPre_blind, hrv, hpre⟩ rfl hnp hl.1 rfl (lv_room h8) hdg ⟨Nat.le_refl _, Nat.le_refl _⟩) hS (fun q _ hq => hA1 q hq) hA1 (fun r u t H1 locs1 ht hvm hpost hB hz hk hS1 => ?_)
  obtain ⟨hP1, hK1, hD1, hlen⟩ := hB
  rw [ht] at hP1
  obtain ⟨S', rfl, hq⟩ := hpost
  have hPo : va_P D vwCl (pwd dA adM (hM T)) H1 := hPM.kept (fun k q hkq => by
    have hlt := (hPM k q hkq).lt
    obtain ⟨k1, k2⟩ := pwd_at hkq
    refine hk q.1 hlt (fun hq => ?_)
    rcases hq with ⟨j, hj, ej⟩ | hq
    · rw [k2] at ej
      exact xm j k hj k1 ej.symm
    · omega)
  exact kk r S' hq H1 locs1 lsA ⟨hP1, hPo, hS1⟩ hl

theorem EL_M (C : LC p s m meth c b L xs D dA adX adM) {y : MethodName} {wsY : List Cond} {cY : ByteArray} {nLY np dY idx : Nat} {retY : Option FieldType} {As st0 : List Value} {P : (Int32 × PS) → Prop} (hC : CtI l D dA adM y wsY dY (.ref 0 :: As) (hM T) (fun r h' => ∃ S' : PS, h' = hM S' ∧ P (r, S'))) (hF : pMF y wsY cY nLY retY np) (hnp : As.length = np) (hy : y.cls = RX12) (hG : GoodIn wsL_law (wsV RL idx RX12 y wsY)) (hints : As.all (fun v => match v with | .int _ => true | _ => false) = true) (hdd : dY ≤ 100) (hs : As.reverse ++ .ref (adM 0) :: st = st0) (h8 : (st.map fun v => v.category).sum ≤ 8) (hdg : decode code pc = .ok (.invokevirtual idx, 3)) (kk : ∀ (r : Int32) (S' : PS), P (r, S') → EL p l e s m below meth c b D dA adX adM (pc + 3) ls (.int r :: st) S S') : EL p l e s m below meth c b D dA adX adM pc ls st0 S T := by
  intro H locs lsA hW hl
  have hts := lw_ts C
  obtain ⟨⟨hx, hb, hr, hml, hown, hts0, hSX, hbl, hlocks, hgv⟩, hK, hLD, hXX, hXM⟩ := C
  obtain ⟨hPX, hPM, hS⟩ := hW
  obtain ⟨⟨x1, x2⟩, ⟨m1, m2⟩, xm⟩ := hLD
  subst hs
  obtain ⟨⟨ws', hw⟩, hpl, hm45, hy1, hy2, hy3⟩ := hF
  have hRR : (pR dY).frames + 1 ≤ room_1.frames ∧ 8 + (nLY + 11) + (pR dY).locals ≤ room_1.locals := by
    refine ⟨?_, ?_⟩
    · show dY + 1 ≤ 2048
      omega
    · show 8 + (nLY + 11) + 64 * dY ≤ 84000
      omega
  have hAs : As.map (pcv adM) = As := pints hints
  have hDp : va_D (fun q => s.heap.size ≤ q) (pwd dA adM (hM T)) := pD_of m1 m2
  have hA1 : ∀ q : Nat, pA adM (hM T).length H.size q → s.heap.size ≤ q := fun q hq => by
    rcases hq with ⟨k, hk, rfl⟩ | hq
    · exact m2 k hk
    · exact Nat.le_trans hS.1 hq
  have hpre : ∀ U : State, U.heap = H → s.WarmedH U.vm → pPre D dA adM (.ref 0 :: As) (hM T) H.size ((.ref (adM 0) :: As : List Value)).toArray U := fun U hU hW => ⟨by show (_ : List Value).toArray = (pcv adM (.ref 0) :: As.map (pcv adM)).toArray; rw [hAs]; rfl, by rw [hU], by rw [hU]; exact hPM, va_K.moved hW.alike hK, hDp.weaken (fun _ _ _ _ => trivial), by rw [hU]; exact hXM.to hW hS.2.1 hA1⟩
  obtain ⟨fs0, hfs0⟩ : ∃ fs : List Value, (hM T)[0]? = some (.inr (12, fs)) := ⟨_, rfl⟩
  have hfs1 : (pwd dA adM (hM T))[0]? = some (adM 0, .inr (12, fs0.map (pcv adM))) := pwd_get hfs0
  have hrv : ∃ cellB : Cell, H[adM 0]? = some cellB ∧ cellB.vm.isStatics = false ∧ s.vm.findClass RX12 = some cellB.cls := va_recv hK hPM (q := vwCl.getD 12 (RL, TX0, 0)) rfl hfs1
  refine va_calli (va_runV (As := As) (rest := st) (b := adM 0) ⟨hx, hb, hml, hown, hts⟩ (hC H.size) (cwV np hts hG hw rfl rfl ⟨hy, hy1, hy2, hy3⟩ hRR) ⟨pPre_blind, hrv, hpre⟩ rfl hnp hl.1 rfl (lv_room h8) hdg ⟨Nat.le_refl _, Nat.le_refl _⟩) hS (fun q _ hq => hA1 q hq) hA1 (fun r u t H1 locs1 ht hvm hpost hB hz hk hS1 => ?_)
  obtain ⟨hP1, hK1, hD1, hlen⟩ := hB
  rw [ht] at hP1
  obtain ⟨S', rfl, hq⟩ := hpost
  have hPo : va_P D vwCl (pwd dA adX (hX S)) H1 := hPX.kept (fun k q hkq => by
    have hlt := (hPX k q hkq).lt
    obtain ⟨k1, k2⟩ := pwd_at hkq
    refine hk q.1 hlt (fun hq => ?_)
    rcases hq with ⟨j, hj, ej⟩ | hq
    · rw [k2] at ej
      exact xm k j k1 hj ej
    · omega)
  exact kk r S' hq H1 locs1 lsA ⟨hPo, hP1, hS1⟩ hl

def lwL (b : Nat) (adX adM : Nat → Nat) (i : Nat) : List (Nat × Value) := [(3, .int (nI (7 * i))), (2, .ref (adM 0)), (1, .ref (adX 0)), (0, .ref b)]
theorem EL_arg (C : LC p s m meth c b L xs D dA adX adM) (hL : L ≤ 3584) {i j : Nat} (hj : 7 * i + j < L) {jj : Int} {dl : Nat} (hjj : Int32.ofInt jj = nI j) (d0 : decode code pc = .ok (.aload_n 0, 1)) (d1 : decode code (pc + 1) = .ok (.iload_n 3, 1)) (d2 : decode code (pc + 2) = .ok (.iconst jj, 1) ∧ dl = 3 ∨ decode code (pc + 2) = .ok (.bipush jj, 2) ∧ dl = 4 ∧ (Int8.ofInt jj).toInt32 = nI j) (d3 : decode code (pc + dl) = .ok (.iadd, 1)) (d4 : decode code (pc + dl + 1) = .ok (.iaload, 1)) (kk : EL p l e s m below meth c b D dA adX adM (pc + dl + 2) (lwL b adX adM i) (.int (xs (7 * i + j)) :: st) S T) : EL p l e s m below meth c b D dA adX adM pc (lwL b adX adM i) st S T := by
  intro H locs lsA hW hl
  have k := kk H locs lsA hW hl
  obtain ⟨⟨hx, hb, hr, hml, hown, hts0, hSX, hbl, hlocks, hgv⟩, hK, hLD, hXX, hXM⟩ := C
  obtain ⟨hPX, hPM, hS⟩ := hW
  have hbA : ¬ (fun q : Nat => s.heap.size ≤ q) b := Nat.not_le.mpr hbl
  refine lv_aload_n hx hb d0 rfl (lv_at hl 3 rfl) ?_
  refine lv_iload_n hx hb d1 rfl (lv_at hl 0 rfl) ?_
  have fin : W p l e room_1 s m #[Value.ref b] below meth c H locs 600000 7302250 (lw_Z below #[Value.ref b] s) (F0 m (pc + dl) lsA (.int (nI j) :: .int (nI (7 * i)) :: .ref b :: st)) := by
    refine lv_iadd hx hb d3 ?_
    rw [nI_add]
    refine va_sld hx hb hSX hbl hbA hS (vp_in_nI hj (by omega)) d4 ?_
    rw [nI_clamp (by omega)]
    exact k
  rcases d2 with ⟨d2, rfl⟩ | ⟨d2, rfl, h8⟩
  · exact lv_iconst (v := nI j) hx hb d2 hjj fin
  · exact lv_bipush (v := nI j) hx hb d2 h8 fin
theorem EL_ref (C : LC p s m meth c b L xs D dA adX adM) {i : Nat} {k0 : Fin 4} {x : Nat} (d0 : decode code pc = .ok (.aload_n k0, 1)) (kq : Nat) (hq : (lwL b adX adM i)[kq]? = some ((k0 : Nat), .ref x)) (kk : EL p l e s m below meth c b D dA adX adM (pc + 1) (lwL b adX adM i) (.ref x :: st) S T) : EL p l e s m below meth c b D dA adX adM pc (lwL b adX adM i) st S T := by
  intro H locs lsA hW hl
  have k := kk H locs lsA hW hl
  exact lv_aload_n C.1.1 C.1.2.1 d0 rfl (lv_at hl kq hq) k
theorem EL_eq (C : LC p s m meth c b L xs D dA adX adM) {x y : Int32} {off : Int} {tgt : Nat} (h : x = y) (d0 : decode code pc = .ok (.if_icmp .eq off, 3)) (ht : (pc : Int) + off = (tgt : Int)) (kk : EL p l e s m below meth c b D dA adX adM tgt ls st S T) : EL p l e s m below meth c b D dA adX adM pc ls (.int y :: .int x :: st) S T := by
  intro H locs lsA hW hl
  exact lv_icmp_eq C.1.1 C.1.2.1 d0 ht (fun _ => kk H locs lsA hW hl) (fun q => absurd h q)
theorem EL_tabIn (C : LC p s m meth c b L xs D dA adX adM) {dflt lo hi : Int} {offs : Array Int} {len : Nat} {x : Int32} {off : Int} {tgt : Nat} (hdg : decode code pc = .ok (.tableswitch dflt lo hi offs, len)) (h1 : ¬ x.toInt < lo) (h2 : ¬ hi < x.toInt) (ho : offs[(x.toInt - lo).toNat]? = some off) (ht : (pc : Int) + off = (tgt : Int)) (kk : EL p l e s m below meth c b D dA adX adM tgt ls st S T) : EL p l e s m below meth c b D dA adX adM pc ls (.int x :: st) S T := by
  intro H locs lsA hW hl
  exact lv_tableIn C.1.1 C.1.2.1 hdg h1 h2 ho ht (kk H locs lsA hW hl)
theorem EL_tabOut (C : LC p s m meth c b L xs D dA adX adM) {dflt lo hi : Int} {offs : Array Int} {len : Nat} {x : Int32} {tgt : Nat} (hdg : decode code pc = .ok (.tableswitch dflt lo hi offs, len)) (h1 : x.toInt < lo ∨ hi < x.toInt) (ht : (pc : Int) + dflt = (tgt : Int)) (kk : EL p l e s m below meth c b D dA adX adM tgt ls st S T) : EL p l e s m below meth c b D dA adX adM pc ls (.int x :: st) S T := by
  intro H locs lsA hW hl
  exact lv_tableOut C.1.1 C.1.2.1 hdg h1 ht (kk H locs lsA hW hl)
end LAWR

/-- the two answer alike, and stay related -/
def pEq0 (Rel : PS → PS → Prop) (f g : PS → Option (Int32 × PS)) : Prop := ∀ S T : PS, Rel S T → ∃ (r : Int32) (S' T' : PS), f S  = some (r, S') ∧ g T  = some (r, T') ∧ Rel S' T'

/-- the two answer alike, and stay related -/
def pEq1 (Rel : PS → PS → Prop) (f g : PS → Int32 → Option (Int32 × PS)) : Prop := ∀ S T : PS, Rel S T → ∀ v1 : Int32, ∃ (r : Int32) (S' T' : PS), f S v1 = some (r, S') ∧ g T v1 = some (r, T') ∧ Rel S' T'

/-- the two answer alike, and stay related -/
def pEq2 (Rel : PS → PS → Prop) (f g : PS → Int32 → Int32 → Option (Int32 × PS)) : Prop := ∀ S T : PS, Rel S T → ∀ v1 v2 : Int32, ∃ (r : Int32) (S' T' : PS), f S v1 v2 = some (r, S') ∧ g T v1 v2 = some (r, T') ∧ Rel S' T'

/-- the two answer alike, and stay related -/
def pEq3 (Rel : PS → PS → Prop) (f g : PS → Int32 → Int32 → Int32 → Option (Int32 × PS)) : Prop := ∀ S T : PS, Rel S T → ∀ v1 v2 v3 : Int32, ∃ (r : Int32) (S' T' : PS), f S v1 v2 v3 = some (r, S') ∧ g T v1 v2 v3 = some (r, T') ∧ Rel S' T'

/-- the two answer alike, and stay related -/
def pEq4 (Rel : PS → PS → Prop) (f g : PS → Int32 → Int32 → Int32 → Int32 → Option (Int32 × PS)) : Prop := ∀ S T : PS, Rel S T → ∀ v1 v2 v3 v4 : Int32, ∃ (r : Int32) (S' T' : PS), f S v1 v2 v3 v4 = some (r, S') ∧ g T v1 v2 v3 v4 = some (r, T') ∧ Rel S' T'

/-- the two answer alike, and stay related -/
def pEq5 (Rel : PS → PS → Prop) (f g : PS → Int32 → Int32 → Int32 → Int32 → Int32 → Option (Int32 × PS)) : Prop := ∀ S T : PS, Rel S T → ∀ v1 v2 v3 v4 v5 : Int32, ∃ (r : Int32) (S' T' : PS), f S v1 v2 v3 v4 v5 = some (r, S') ∧ g T v1 v2 v3 v4 v5 = some (r, T') ∧ Rel S' T'

/-- the two answer alike, and stay related -/
def pEq6 (Rel : PS → PS → Prop) (f g : PS → Int32 → Int32 → Int32 → Int32 → Int32 → Int32 → Option (Int32 × PS)) : Prop := ∀ S T : PS, Rel S T → ∀ v1 v2 v3 v4 v5 v6 : Int32, ∃ (r : Int32) (S' T' : PS), f S v1 v2 v3 v4 v5 v6 = some (r, S') ∧ g T v1 v2 v3 v4 v5 v6 = some (r, T') ∧ Rel S' T'

/-- what the pure part owes -/
def lw_ok (Rel : PS → PS → Prop) : Prop :=
  pEq1 Rel f_X11_hull f_X12_hull ∧
  pEq3 Rel f_X11_section f_X12_section ∧
  pEq2 Rel f_X11_set f_X12_set ∧
  pEq6 Rel f_X11_put f_X12_put ∧
  pEq1 Rel f_X11_take f_X12_take ∧
  pEq3 Rel f_X11_move f_X12_move ∧
  pEq2 Rel f_X11_goods f_X12_goods ∧
  pEq2 Rel f_X11_taken f_X12_taken ∧
  pEq4 Rel f_X11_tank f_X12_tank ∧
  pEq2 Rel f_X11_fill f_X12_fill ∧
  pEq1 Rel f_X11_told f_X12_told ∧
  pEq2 Rel f_X11_water f_X12_water ∧
  pEq0 Rel f_X11_line f_X12_line ∧
  pEq1 Rel f_X11_trim f_X12_trim ∧
  pEq1 Rel f_X11_off f_X12_off ∧
  pEq1 Rel f_X11_heel f_X12_heel ∧
  pEq0 Rel f_X11_steady f_X12_steady ∧
  pEq1 Rel f_X11_grounded f_X12_grounded ∧
  pEq1 Rel f_X11_lighten f_X12_lighten ∧
  pEq1 Rel f_X11_more f_X12_more ∧
  pEq2 Rel f_X11_order f_X12_order ∧
  pEq1 Rel f_X11_next f_X12_next ∧
  pEq0 Rel f_X11_turn f_X12_turn ∧
  pEq1 Rel f_X11_change f_X12_change ∧
  pEq4 Rel f_X11_fits f_X12_fits ∧
  pEq1 Rel f_X11_say f_X12_say ∧
  pEq1 Rel f_X11_feed f_X12_feed ∧
  pEq0 Rel f_X11_wipe f_X12_wipe ∧
  pEq0 Rel f_X11_read f_X12_read ∧
  pEq2 Rel f_X11_row f_X12_row ∧
  pEq3 Rel f_X11_store f_X12_store ∧
  pEq2 Rel f_X11_get f_X12_get ∧
  pEq1 Rel f_X11_film f_X12_film ∧
  pEq0 Rel f_X11_image f_X12_image ∧
  pEq0 Rel f_X11_undo f_X12_undo ∧
  pEq1 Rel f_X11_count f_X12_count
theorem pgt {L i : Nat} (hL : L ≤ 3584) (h : L < 7 * i + 7) (h2 : 7 * i ≤ L + 7) : nI L - 7 < nI (7 * i) := by
  rw [Int32.lt_iff_toInt_lt, nI_toInt (by omega)]
  have e : (nI L - 7).toInt = (L : Int) - 7 := pk_sub_toInt (a := L) (b := 7) (by omega) (by omega)
  rw [e]
  omega
section LAWC
variable {p : Program} {l : Launch} {e : Env} {s : State} {m : MethodId} {below : List Frame} {meth : Method} {c : Code} {b L : Nat} {xs : Nat → Int32} {D : va_G} {dA : Nat → ClassId} {adX adM : Nat → Nat} {S T : PS} {Rel : PS → PS → Prop}
set_option maxRecDepth 100000 in
theorem law_case0 (C : LC p s m meth c b L xs D dA adX adM) (hL : L ≤ 3584) {i : Nat} (hi : 7 * i + 7 ≤ L) (hR : Rel S T) (hE : pEq1 Rel f_X11_hull f_X12_hull) (kk : ∀ S1 T1 : PS, Rel S1 T1 → EL p l e s m below meth c b D dA adX adM 1202 (lwL b adX adM i) [] S1 T1) : EL p l e s m below meth c b D dA adX adM 192 (lwL b adX adM i) [] S T := by
  obtain ⟨r, S1, T1, h1, h2, h3⟩ := hE S T hR (xs (7 * i + 1))
  refine EL_ref C dL_law_192 2 rfl ?_
  refine EL_arg C hL (j := 1) (jj := 1) (dl := 3) (by omega) (by decide) dL_law_193 dL_law_194 (Or.inl ⟨dL_law_195, rfl⟩) dL_law_196 dL_law_197 ?_
  refine EL_X C (As := [.int (xs (7 * i + 1))]) (st := []) (P := fun y => y = (r, S1)) (c_X11_hull l D dA adX S (xs (7 * i + 1)) (pO_some h1)) mf_X11_hull rfl rfl gL_law_X11_hull rfl (by decide) rfl (Nat.le_of_ble_eq_true rfl) dL_law_198 (fun r1 S2 q => ?_)
  cases q
  refine EL_ref C dL_law_201 1 rfl ?_
  refine EL_arg C hL (j := 1) (jj := 1) (dl := 3) (by omega) (by decide) dL_law_202 dL_law_203 (Or.inl ⟨dL_law_204, rfl⟩) dL_law_205 dL_law_206 ?_
  refine EL_M C (As := [.int (xs (7 * i + 1))]) (st := [.int r]) (P := fun y => y = (r, T1)) (c_X12_hull l D dA adM T (xs (7 * i + 1)) (pO_some h2)) mf_X12_hull rfl rfl gL_law_X12_hull rfl (by decide) rfl (Nat.le_of_ble_eq_true rfl) dL_law_207 (fun r1 S2 q => ?_)
  cases q
  exact EL_eq C (tgt := 1202) rfl dL_law_210 (by decide) (kk S1 T1 h3)
set_option maxRecDepth 100000 in
theorem law_case1 (C : LC p s m meth c b L xs D dA adX adM) (hL : L ≤ 3584) {i : Nat} (hi : 7 * i + 7 ≤ L) (hR : Rel S T) (hE : pEq3 Rel f_X11_section f_X12_section) (kk : ∀ S1 T1 : PS, Rel S1 T1 → EL p l e s m below meth c b D dA adX adM 1202 (lwL b adX adM i) [] S1 T1) : EL p l e s m below meth c b D dA adX adM 215 (lwL b adX adM i) [] S T := by
  obtain ⟨r, S1, T1, h1, h2, h3⟩ := hE S T hR (xs (7 * i + 1)) (xs (7 * i + 2)) (xs (7 * i + 3))
  refine EL_ref C dL_law_215 2 rfl ?_
  refine EL_arg C hL (j := 1) (jj := 1) (dl := 3) (by omega) (by decide) dL_law_216 dL_law_217 (Or.inl ⟨dL_law_218, rfl⟩) dL_law_219 dL_law_220 ?_
  refine EL_arg C hL (j := 2) (jj := 2) (dl := 3) (by omega) (by decide) dL_law_221 dL_law_222 (Or.inl ⟨dL_law_223, rfl⟩) dL_law_224 dL_law_225 ?_
  refine EL_arg C hL (j := 3) (jj := 3) (dl := 3) (by omega) (by decide) dL_law_226 dL_law_227 (Or.inl ⟨dL_law_228, rfl⟩) dL_law_229 dL_law_230 ?_
  refine EL_X C (As := [.int (xs (7 * i + 1)), .int (xs (7 * i + 2)), .int (xs (7 * i + 3))]) (st := []) (P := fun y => y = (r, S1)) (c_X11_section l D dA adX S (xs (7 * i + 1)) (xs (7 * i + 2)) (xs (7 * i + 3)) (pO_some h1)) mf_X11_section rfl rfl gL_law_X11_section rfl (by decide) rfl (Nat.le_of_ble_eq_true rfl) dL_law_231 (fun r1 S2 q => ?_)
  cases q
  refine EL_ref C dL_law_234 1 rfl ?_
  refine EL_arg C hL (j := 1) (jj := 1) (dl := 3) (by omega) (by decide) dL_law_235 dL_law_236 (Or.inl ⟨dL_law_237, rfl⟩) dL_law_238 dL_law_239 ?_
  refine EL_arg C hL (j := 2) (jj := 2) (dl := 3) (by omega) (by decide) dL_law_240 dL_law_241 (Or.inl ⟨dL_law_242, rfl⟩) dL_law_243 dL_law_244 ?_
  refine EL_arg C hL (j := 3) (jj := 3) (dl := 3) (by omega) (by decide) dL_law_245 dL_law_246 (Or.inl ⟨dL_law_247, rfl⟩) dL_law_248 dL_law_249 ?_
  refine EL_M C (As := [.int (xs (7 * i + 1)), .int (xs (7 * i + 2)), .int (xs (7 * i + 3))]) (st := [.int r]) (P := fun y => y = (r, T1)) (c_X12_section l D dA adM T (xs (7 * i + 1)) (xs (7 * i + 2)) (xs (7 * i + 3)) (pO_some h2)) mf_X12_section rfl rfl gL_law_X12_section rfl (by decide) rfl (Nat.le_of_ble_eq_true rfl) dL_law_250 (fun r1 S2 q => ?_)
  cases q
  exact EL_eq C (tgt := 1202) rfl dL_law_253 (by decide) (kk S1 T1 h3)
set_option maxRecDepth 100000 in
theorem law_case2 (C : LC p s m meth c b L xs D dA adX adM) (hL : L ≤ 3584) {i : Nat} (hi : 7 * i + 7 ≤ L) (hR : Rel S T) (hE : pEq2 Rel f_X11_set f_X12_set) (kk : ∀ S1 T1 : PS, Rel S1 T1 → EL p l e s m below meth c b D dA adX adM 1202 (lwL b adX adM i) [] S1 T1) : EL p l e s m below meth c b D dA adX adM 258 (lwL b adX adM i) [] S T := by
  obtain ⟨r, S1, T1, h1, h2, h3⟩ := hE S T hR (xs (7 * i + 1)) (xs (7 * i + 2))
  refine EL_ref C dL_law_258 2 rfl ?_
  refine EL_arg C hL (j := 1) (jj := 1) (dl := 3) (by omega) (by decide) dL_law_259 dL_law_260 (Or.inl ⟨dL_law_261, rfl⟩) dL_law_262 dL_law_263 ?_
  refine EL_arg C hL (j := 2) (jj := 2) (dl := 3) (by omega) (by decide) dL_law_264 dL_law_265 (Or.inl ⟨dL_law_266, rfl⟩) dL_law_267 dL_law_268 ?_
  refine EL_X C (As := [.int (xs (7 * i + 1)), .int (xs (7 * i + 2))]) (st := []) (P := fun y => y = (r, S1)) (c_X11_set l D dA adX S (xs (7 * i + 1)) (xs (7 * i + 2)) (pO_some h1)) mf_X11_set rfl rfl gL_law_X11_set rfl (by decide) rfl (Nat.le_of_ble_eq_true rfl) dL_law_269 (fun r1 S2 q => ?_)
  cases q
  refine EL_ref C dL_law_272 1 rfl ?_
  refine EL_arg C hL (j := 1) (jj := 1) (dl := 3) (by omega) (by decide) dL_law_273 dL_law_274 (Or.inl ⟨dL_law_275, rfl⟩) dL_law_276 dL_law_277 ?_
  refine EL_arg C hL (j := 2) (jj := 2) (dl := 3) (by omega) (by decide) dL_law_278 dL_law_279 (Or.inl ⟨dL_law_280, rfl⟩) dL_law_281 dL_law_282 ?_
  refine EL_M C (As := [.int (xs (7 * i + 1)), .int (xs (7 * i + 2))]) (st := [.int r]) (P := fun y => y = (r, T1)) (c_X12_set l D dA adM T (xs (7 * i + 1)) (xs (7 * i + 2)) (pO_some h2)) mf_X12_set rfl rfl gL_law_X12_set rfl (by decide) rfl (Nat.le_of_ble_eq_true rfl) dL_law_283 (fun r1 S2 q => ?_)
  cases q
  exact EL_eq C (tgt := 1202) rfl dL_law_286 (by decide) (kk S1 T1 h3)
set_option maxRecDepth 100000 in
theorem law_case3 (C : LC p s m meth c b L xs D dA adX adM) (hL : L ≤ 3584) {i : Nat} (hi : 7 * i + 7 ≤ L) (hR : Rel S T) (hE : pEq6 Rel f_X11_put f_X12_put) (kk : ∀ S1 T1 : PS, Rel S1 T1 → EL p l e s m below meth c b D dA adX adM 1202 (lwL b adX adM i) [] S1 T1) : EL p l e s m below meth c b D dA adX adM 291 (lwL b adX adM i) [] S T := by
  obtain ⟨r, S1, T1, h1, h2, h3⟩ := hE S T hR (xs (7 * i + 1)) (xs (7 * i + 2)) (xs (7 * i + 3)) (xs (7 * i + 4)) (xs (7 * i + 5)) (xs (7 * i + 6))
  refine EL_ref C dL_law_291 2 rfl ?_
  refine EL_arg C hL (j := 1) (jj := 1) (dl := 3) (by omega) (by decide) dL_law_292 dL_law_293 (Or.inl ⟨dL_law_294, rfl⟩) dL_law_295 dL_law_296 ?_
  refine EL_arg C hL (j := 2) (jj := 2) (dl := 3) (by omega) (by decide) dL_law_297 dL_law_298 (Or.inl ⟨dL_law_299, rfl⟩) dL_law_300 dL_law_301 ?_
  refine EL_arg C hL (j := 3) (jj := 3) (dl := 3) (by omega) (by decide) dL_law_302 dL_law_303 (Or.inl ⟨dL_law_304, rfl⟩) dL_law_305 dL_law_306 ?_
  refine EL_arg C hL (j := 4) (jj := 4) (dl := 3) (by omega) (by decide) dL_law_307 dL_law_308 (Or.inl ⟨dL_law_309, rfl⟩) dL_law_310 dL_law_311 ?_
  refine EL_arg C hL (j := 5) (jj := 5) (dl := 3) (by omega) (by decide) dL_law_312 dL_law_313 (Or.inl ⟨dL_law_314, rfl⟩) dL_law_315 dL_law_316 ?_
  refine EL_arg C hL (j := 6) (jj := 6) (dl := 4) (by omega) (by decide) dL_law_317 dL_law_318 (Or.inr ⟨dL_law_319, rfl, by decide⟩) dL_law_321 dL_law_322 ?_
  refine EL_X C (As := [.int (xs (7 * i + 1)), .int (xs (7 * i + 2)), .int (xs (7 * i + 3)), .int (xs (7 * i + 4)), .int (xs (7 * i + 5)), .int (xs (7 * i + 6))]) (st := []) (P := fun y => y = (r, S1)) (c_X11_put l D dA adX S (xs (7 * i + 1)) (xs (7 * i + 2)) (xs (7 * i + 3)) (xs (7 * i + 4)) (xs (7 * i + 5)) (xs (7 * i + 6)) (pO_some h1)) mf_X11_put rfl rfl gL_law_X11_put rfl (by decide) rfl (Nat.le_of_ble_eq_true rfl) dL_law_323 (fun r1 S2 q => ?_)
  cases q
  refine EL_ref C dL_law_326 1 rfl ?_
  refine EL_arg C hL (j := 1) (jj := 1) (dl := 3) (by omega) (by decide) dL_law_327 dL_law_328 (Or.inl ⟨dL_law_329, rfl⟩) dL_law_330 dL_law_331 ?_
  refine EL_arg C hL (j := 2) (jj := 2) (dl := 3) (by omega) (by decide) dL_law_332 dL_law_333 (Or.inl ⟨dL_law_334, rfl⟩) dL_law_335 dL_law_336 ?_
  refine EL_arg C hL (j := 3) (jj := 3) (dl := 3) (by omega) (by decide) dL_law_337 dL_law_338 (Or.inl ⟨dL_law_339, rfl⟩) dL_law_340 dL_law_341 ?_
  refine EL_arg C hL (j := 4) (jj := 4) (dl := 3) (by omega) (by decide) dL_law_342 dL_law_343 (Or.inl ⟨dL_law_344, rfl⟩) dL_law_345 dL_law_346 ?_
  refine EL_arg C hL (j := 5) (jj := 5) (dl := 3) (by omega) (by decide) dL_law_347 dL_law_348 (Or.inl ⟨dL_law_349, rfl⟩) dL_law_350 dL_law_351 ?_
  refine EL_arg C hL (j := 6) (jj := 6) (dl := 4) (by omega) (by decide) dL_law_352 dL_law_353 (Or.inr ⟨dL_law_354, rfl, by decide⟩) dL_law_356 dL_law_357 ?_
  refine EL_M C (As := [.int (xs (7 * i + 1)), .int (xs (7 * i + 2)), .int (xs (7 * i + 3)), .int (xs (7 * i + 4)), .int (xs (7 * i + 5)), .int (xs (7 * i + 6))]) (st := [.int r]) (P := fun y => y = (r, T1)) (c_X12_put l D dA adM T (xs (7 * i + 1)) (xs (7 * i + 2)) (xs (7 * i + 3)) (xs (7 * i + 4)) (xs (7 * i + 5)) (xs (7 * i + 6)) (pO_some h2)) mf_X12_put rfl rfl gL_law_X12_put rfl (by decide) rfl (Nat.le_of_ble_eq_true rfl) dL_law_358 (fun r1 S2 q => ?_)
  cases q
  exact EL_eq C (tgt := 1202) rfl dL_law_361 (by decide) (kk S1 T1 h3)
set_option maxRecDepth 100000 in
theorem law_case4 (C : LC p s m meth c b L xs D dA adX adM) (hL : L ≤ 3584) {i : Nat} (hi : 7 * i + 7 ≤ L) (hR : Rel S T) (hE : pEq1 Rel f_X11_take f_X12_take) (kk : ∀ S1 T1 : PS, Rel S1 T1 → EL p l e s m below meth c b D dA adX adM 1202 (lwL b adX adM i) [] S1 T1) : EL p l e s m below meth c b D dA adX adM 366 (lwL b adX adM i) [] S T := by
  obtain ⟨r, S1, T1, h1, h2, h3⟩ := hE S T hR (xs (7 * i + 1))
  refine EL_ref C dL_law_366 2 rfl ?_
  refine EL_arg C hL (j := 1) (jj := 1) (dl := 3) (by omega) (by decide) dL_law_367 dL_law_368 (Or.inl ⟨dL_law_369, rfl⟩) dL_law_370 dL_law_371 ?_
  refine EL_X C (As := [.int (xs (7 * i + 1))]) (st := []) (P := fun y => y = (r, S1)) (c_X11_take l D dA adX S (xs (7 * i + 1)) (pO_some h1)) mf_X11_take rfl rfl gL_law_X11_take rfl (by decide) rfl (Nat.le_of_ble_eq_true rfl) dL_law_372 (fun r1 S2 q => ?_)
  cases q
  refine EL_ref C dL_law_375 1 rfl ?_
  refine EL_arg C hL (j := 1) (jj := 1) (dl := 3) (by omega) (by decide) dL_law_376 dL_law_377 (Or.inl ⟨dL_law_378, rfl⟩) dL_law_379 dL_law_380 ?_
  refine EL_M C (As := [.int (xs (7 * i + 1))]) (st := [.int r]) (P := fun y => y = (r, T1)) (c_X12_take l D dA adM T (xs (7 * i + 1)) (pO_some h2)) mf_X12_take rfl rfl gL_law_X12_take rfl (by decide) rfl (Nat.le_of_ble_eq_true rfl) dL_law_381 (fun r1 S2 q => ?_)
  cases q
  exact EL_eq C (tgt := 1202) rfl dL_law_384 (by decide) (kk S1 T1 h3)
set_option maxRecDepth 100000 in
theorem law_case5 (C : LC p s m meth c b L xs D dA adX adM) (hL : L ≤ 3584) {i : Nat} (hi : 7 * i + 7 ≤ L) (hR : Rel S T) (hE : pEq3 Rel f_X11_move f_X12_move) (kk : ∀ S1 T1 : PS, Rel S1 T1 → EL p l e s m below meth c b D dA adX adM 1202 (lwL b adX adM i) [] S1 T1) : EL p l e s m below meth c b D dA adX adM 389 (lwL b adX adM i) [] S T := by
  obtain ⟨r, S1, T1, h1, h2, h3⟩ := hE S T hR (xs (7 * i + 1)) (xs (7 * i + 2)) (xs (7 * i + 3))
  refine EL_ref C dL_law_389 2 rfl ?_
  refine EL_arg C hL (j := 1) (jj := 1) (dl := 3) (by omega) (by decide) dL_law_390 dL_law_391 (Or.inl ⟨dL_law_392, rfl⟩) dL_law_393 dL_law_394 ?_
  refine EL_arg C hL (j := 2) (jj := 2) (dl := 3) (by omega) (by decide) dL_law_395 dL_law_396 (Or.inl ⟨dL_law_397, rfl⟩) dL_law_398 dL_law_399 ?_
  refine EL_arg C hL (j := 3) (jj := 3) (dl := 3) (by omega) (by decide) dL_law_400 dL_law_401 (Or.inl ⟨dL_law_402, rfl⟩) dL_law_403 dL_law_404 ?_
  refine EL_X C (As := [.int (xs (7 * i + 1)), .int (xs (7 * i + 2)), .int (xs (7 * i + 3))]) (st := []) (P := fun y => y = (r, S1)) (c_X11_move l D dA adX S (xs (7 * i + 1)) (xs (7 * i + 2)) (xs (7 * i + 3)) (pO_some h1)) mf_X11_move rfl rfl gL_law_X11_move rfl (by decide) rfl (Nat.le_of_ble_eq_true rfl) dL_law_405 (fun r1 S2 q => ?_)
  cases q
  refine EL_ref C dL_law_408 1 rfl ?_
  refine EL_arg C hL (j := 1) (jj := 1) (dl := 3) (by omega) (by decide) dL_law_409 dL_law_410 (Or.inl ⟨dL_law_411, rfl⟩) dL_law_412 dL_law_413 ?_
  refine EL_arg C hL (j := 2) (jj := 2) (dl := 3) (by omega) (by decide) dL_law_414 dL_law_415 (Or.inl ⟨dL_law_416, rfl⟩) dL_law_417 dL_law_418 ?_
  refine EL_arg C hL (j := 3) (jj := 3) (dl := 3) (by omega) (by decide) dL_law_419 dL_law_420 (Or.inl ⟨dL_law_421, rfl⟩) dL_law_422 dL_law_423 ?_
  refine EL_M C (As := [.int (xs (7 * i + 1)), .int (xs (7 * i + 2)), .int (xs (7 * i + 3))]) (st := [.int r]) (P := fun y => y = (r, T1)) (c_X12_move l D dA adM T (xs (7 * i + 1)) (xs (7 * i + 2)) (xs (7 * i + 3)) (pO_some h2)) mf_X12_move rfl rfl gL_law_X12_move rfl (by decide) rfl (Nat.le_of_ble_eq_true rfl) dL_law_424 (fun r1 S2 q => ?_)
  cases q
  exact EL_eq C (tgt := 1202) rfl dL_law_427 (by decide) (kk S1 T1 h3)
set_option maxRecDepth 100000 in
theorem law_case6 (C : LC p s m meth c b L xs D dA adX adM) (hL : L ≤ 3584) {i : Nat} (hi : 7 * i + 7 ≤ L) (hR : Rel S T) (hE : pEq2 Rel f_X11_goods f_X12_goods) (kk : ∀ S1 T1 : PS, Rel S1 T1 → EL p l e s m below meth c b D dA adX adM 1202 (lwL b adX adM i) [] S1 T1) : EL p l e s m below meth c b D dA adX adM 432 (lwL b adX adM i) [] S T := by
  obtain ⟨r, S1, T1, h1, h2, h3⟩ := hE S T hR (xs (7 * i + 1)) (xs (7 * i + 2))
  refine EL_ref C dL_law_432 2 rfl ?_
  refine EL_arg C hL (j := 1) (jj := 1) (dl := 3) (by omega) (by decide) dL_law_433 dL_law_434 (Or.inl ⟨dL_law_435, rfl⟩) dL_law_436 dL_law_437 ?_
  refine EL_arg C hL (j := 2) (jj := 2) (dl := 3) (by omega) (by decide) dL_law_438 dL_law_439 (Or.inl ⟨dL_law_440, rfl⟩) dL_law_441 dL_law_442 ?_
  refine EL_X C (As := [.int (xs (7 * i + 1)), .int (xs (7 * i + 2))]) (st := []) (P := fun y => y = (r, S1)) (c_X11_goods l D dA adX S (xs (7 * i + 1)) (xs (7 * i + 2)) (pO_some h1)) mf_X11_goods rfl rfl gL_law_X11_goods rfl (by decide) rfl (Nat.le_of_ble_eq_true rfl) dL_law_443 (fun r1 S2 q => ?_)
  cases q
  refine EL_ref C dL_law_446 1 rfl ?_
  refine EL_arg C hL (j := 1) (jj := 1) (dl := 3) (by omega) (by decide) dL_law_447 dL_law_448 (Or.inl ⟨dL_law_449, rfl⟩) dL_law_450 dL_law_451 ?_
  refine EL_arg C hL (j := 2) (jj := 2) (dl := 3) (by omega) (by decide) dL_law_452 dL_law_453 (Or.inl ⟨dL_law_454, rfl⟩) dL_law_455 dL_law_456 ?_
  refine EL_M C (As := [.int (xs (7 * i + 1)), .int (xs (7 * i + 2))]) (st := [.int r]) (P := fun y => y = (r, T1)) (c_X12_goods l D dA adM T (xs (7 * i + 1)) (xs (7 * i + 2)) (pO_some h2)) mf_X12_goods rfl rfl gL_law_X12_goods rfl (by decide) rfl (Nat.le_of_ble_eq_true rfl) dL_law_457 (fun r1 S2 q => ?_)
  cases q
  exact EL_eq C (tgt := 1202) rfl dL_law_460 (by decide) (kk S1 T1 h3)
set_option maxRecDepth 100000 in
theorem law_case7 (C : LC p s m meth c b L xs D dA adX adM) (hL : L ≤ 3584) {i : Nat} (hi : 7 * i + 7 ≤ L) (hR : Rel S T) (hE : pEq2 Rel f_X11_taken f_X12_taken) (kk : ∀ S1 T1 : PS, Rel S1 T1 → EL p l e s m below meth c b D dA adX adM 1202 (lwL b adX adM i) [] S1 T1) : EL p l e s m below meth c b D dA adX adM 465 (lwL b adX adM i) [] S T := by
  obtain ⟨r, S1, T1, h1, h2, h3⟩ := hE S T hR (xs (7 * i + 1)) (xs (7 * i + 2))
  refine EL_ref C dL_law_465 2 rfl ?_
  refine EL_arg C hL (j := 1) (jj := 1) (dl := 3) (by omega) (by decide) dL_law_466 dL_law_467 (Or.inl ⟨dL_law_468, rfl⟩) dL_law_469 dL_law_470 ?_
  refine EL_arg C hL (j := 2) (jj := 2) (dl := 3) (by omega) (by decide) dL_law_471 dL_law_472 (Or.inl ⟨dL_law_473, rfl⟩) dL_law_474 dL_law_475 ?_
  refine EL_X C (As := [.int (xs (7 * i + 1)), .int (xs (7 * i + 2))]) (st := []) (P := fun y => y = (r, S1)) (c_X11_taken l D dA adX S (xs (7 * i + 1)) (xs (7 * i + 2)) (pO_some h1)) mf_X11_taken rfl rfl gL_law_X11_taken rfl (by decide) rfl (Nat.le_of_ble_eq_true rfl) dL_law_476 (fun r1 S2 q => ?_)
  cases q
  refine EL_ref C dL_law_479 1 rfl ?_
  refine EL_arg C hL (j := 1) (jj := 1) (dl := 3) (by omega) (by decide) dL_law_480 dL_law_481 (Or.inl ⟨dL_law_482, rfl⟩) dL_law_483 dL_law_484 ?_
  refine EL_arg C hL (j := 2) (jj := 2) (dl := 3) (by omega) (by decide) dL_law_485 dL_law_486 (Or.inl ⟨dL_law_487, rfl⟩) dL_law_488 dL_law_489 ?_
  refine EL_M C (As := [.int (xs (7 * i + 1)), .int (xs (7 * i + 2))]) (st := [.int r]) (P := fun y => y = (r, T1)) (c_X12_taken l D dA adM T (xs (7 * i + 1)) (xs (7 * i + 2)) (pO_some h2)) mf_X12_taken rfl rfl gL_law_X12_taken rfl (by decide) rfl (Nat.le_of_ble_eq_true rfl) dL_law_490 (fun r1 S2 q => ?_)
  cases q
  exact EL_eq C (tgt := 1202) rfl dL_law_493 (by decide) (kk S1 T1 h3)
set_option maxRecDepth 100000 in
theorem law_case8 (C : LC p s m meth c b L xs D dA adX adM) (hL : L ≤ 3584) {i : Nat} (hi : 7 * i + 7 ≤ L) (hR : Rel S T) (hE : pEq4 Rel f_X11_tank f_X12_tank) (kk : ∀ S1 T1 : PS, Rel S1 T1 → EL p l e s m below meth c b D dA adX adM 1202 (lwL b adX adM i) [] S1 T1) : EL p l e s m below meth c b D dA adX adM 498 (lwL b adX adM i) [] S T := by
  obtain ⟨r, S1, T1, h1, h2, h3⟩ := hE S T hR (xs (7 * i + 1)) (xs (7 * i + 2)) (xs (7 * i + 3)) (xs (7 * i + 4))
  refine EL_ref C dL_law_498 2 rfl ?_
  refine EL_arg C hL (j := 1) (jj := 1) (dl := 3) (by omega) (by decide) dL_law_499 dL_law_500 (Or.inl ⟨dL_law_501, rfl⟩) dL_law_502 dL_law_503 ?_
  refine EL_arg C hL (j := 2) (jj := 2) (dl := 3) (by omega) (by decide) dL_law_504 dL_law_505 (Or.inl ⟨dL_law_506, rfl⟩) dL_law_507 dL_law_508 ?_
  refine EL_arg C hL (j := 3) (jj := 3) (dl := 3) (by omega) (by decide) dL_law_509 dL_law_510 (Or.inl ⟨dL_law_511, rfl⟩) dL_law_512 dL_law_513 ?_
  refine EL_arg C hL (j := 4) (jj := 4) (dl := 3) (by omega) (by decide) dL_law_514 dL_law_515 (Or.inl ⟨dL_law_516, rfl⟩) dL_law_517 dL_law_518 ?_
  refine EL_X C (As := [.int (xs (7 * i + 1)), .int (xs (7 * i + 2)), .int (xs (7 * i + 3)), .int (xs (7 * i + 4))]) (st := []) (P := fun y => y = (r, S1)) (c_X11_tank l D dA adX S (xs (7 * i + 1)) (xs (7 * i + 2)) (xs (7 * i + 3)) (xs (7 * i + 4)) (pO_some h1)) mf_X11_tank rfl rfl gL_law_X11_tank rfl (by decide) rfl (Nat.le_of_ble_eq_true rfl) dL_law_519 (fun r1 S2 q => ?_)
  cases q
  refine EL_ref C dL_law_522 1 rfl ?_
  refine EL_arg C hL (j := 1) (jj := 1) (dl := 3) (by omega) (by decide) dL_law_523 dL_law_524 (Or.inl ⟨dL_law_525, rfl⟩) dL_law_526 dL_law_527 ?_
  refine EL_arg C hL (j := 2) (jj := 2) (dl := 3) (by omega) (by decide) dL_law_528 dL_law_529 (Or.inl ⟨dL_law_530, rfl⟩) dL_law_531 dL_law_532 ?_
  refine EL_arg C hL (j := 3) (jj := 3) (dl := 3) (by omega) (by decide) dL_law_533 dL_law_534 (Or.inl ⟨dL_law_535, rfl⟩) dL_law_536 dL_law_537 ?_
  refine EL_arg C hL (j := 4) (jj := 4) (dl := 3) (by omega) (by decide) dL_law_538 dL_law_539 (Or.inl ⟨dL_law_540, rfl⟩) dL_law_541 dL_law_542 ?_
  refine EL_M C (As := [.int (xs (7 * i + 1)), .int (xs (7 * i + 2)), .int (xs (7 * i + 3)), .int (xs (7 * i + 4))]) (st := [.int r]) (P := fun y => y = (r, T1)) (c_X12_tank l D dA adM T (xs (7 * i + 1)) (xs (7 * i + 2)) (xs (7 * i + 3)) (xs (7 * i + 4)) (pO_some h2)) mf_X12_tank rfl rfl gL_law_X12_tank rfl (by decide) rfl (Nat.le_of_ble_eq_true rfl) dL_law_543 (fun r1 S2 q => ?_)
  cases q
  exact EL_eq C (tgt := 1202) rfl dL_law_546 (by decide) (kk S1 T1 h3)
set_option maxRecDepth 100000 in
theorem law_case9 (C : LC p s m meth c b L xs D dA adX adM) (hL : L ≤ 3584) {i : Nat} (hi : 7 * i + 7 ≤ L) (hR : Rel S T) (hE : pEq2 Rel f_X11_fill f_X12_fill) (kk : ∀ S1 T1 : PS, Rel S1 T1 → EL p l e s m below meth c b D dA adX adM 1202 (lwL b adX adM i) [] S1 T1) : EL p l e s m below meth c b D dA adX adM 551 (lwL b adX adM i) [] S T := by
  obtain ⟨r, S1, T1, h1, h2, h3⟩ := hE S T hR (xs (7 * i + 1)) (xs (7 * i + 2))
  refine EL_ref C dL_law_551 2 rfl ?_
  refine EL_arg C hL (j := 1) (jj := 1) (dl := 3) (by omega) (by decide) dL_law_552 dL_law_553 (Or.inl ⟨dL_law_554, rfl⟩) dL_law_555 dL_law_556 ?_
  refine EL_arg C hL (j := 2) (jj := 2) (dl := 3) (by omega) (by decide) dL_law_557 dL_law_558 (Or.inl ⟨dL_law_559, rfl⟩) dL_law_560 dL_law_561 ?_
  refine EL_X C (As := [.int (xs (7 * i + 1)), .int (xs (7 * i + 2))]) (st := []) (P := fun y => y = (r, S1)) (c_X11_fill l D dA adX S (xs (7 * i + 1)) (xs (7 * i + 2)) (pO_some h1)) mf_X11_fill rfl rfl gL_law_X11_fill rfl (by decide) rfl (Nat.le_of_ble_eq_true rfl) dL_law_562 (fun r1 S2 q => ?_)
  cases q
  refine EL_ref C dL_law_565 1 rfl ?_
  refine EL_arg C hL (j := 1) (jj := 1) (dl := 3) (by omega) (by decide) dL_law_566 dL_law_567 (Or.inl ⟨dL_law_568, rfl⟩) dL_law_569 dL_law_570 ?_
  refine EL_arg C hL (j := 2) (jj := 2) (dl := 3) (by omega) (by decide) dL_law_571 dL_law_572 (Or.inl ⟨dL_law_573, rfl⟩) dL_law_574 dL_law_575 ?_
  refine EL_M C (As := [.int (xs (7 * i + 1)), .int (xs (7 * i + 2))]) (st := [.int r]) (P := fun y => y = (r, T1)) (c_X12_fill l D dA adM T (xs (7 * i + 1)) (xs (7 * i + 2)) (pO_some h2)) mf_X12_fill rfl rfl gL_law_X12_fill rfl (by decide) rfl (Nat.le_of_ble_eq_true rfl) dL_law_576 (fun r1 S2 q => ?_)
  cases q
  exact EL_eq C (tgt := 1202) rfl dL_law_579 (by decide) (kk S1 T1 h3)
set_option maxRecDepth 100000 in
theorem law_case10 (C : LC p s m meth c b L xs D dA adX adM) (hL : L ≤ 3584) {i : Nat} (hi : 7 * i + 7 ≤ L) (hR : Rel S T) (hE : pEq1 Rel f_X11_told f_X12_told) (kk : ∀ S1 T1 : PS, Rel S1 T1 → EL p l e s m below meth c b D dA adX adM 1202 (lwL b adX adM i) [] S1 T1) : EL p l e s m below meth c b D dA adX adM 584 (lwL b adX adM i) [] S T := by
  obtain ⟨r, S1, T1, h1, h2, h3⟩ := hE S T hR (xs (7 * i + 1))
  refine EL_ref C dL_law_584 2 rfl ?_
  refine EL_arg C hL (j := 1) (jj := 1) (dl := 3) (by omega) (by decide) dL_law_585 dL_law_586 (Or.inl ⟨dL_law_587, rfl⟩) dL_law_588 dL_law_589 ?_
  refine EL_X C (As := [.int (xs (7 * i + 1))]) (st := []) (P := fun y => y = (r, S1)) (c_X11_told l D dA adX S (xs (7 * i + 1)) (pO_some h1)) mf_X11_told rfl rfl gL_law_X11_told rfl (by decide) rfl (Nat.le_of_ble_eq_true rfl) dL_law_590 (fun r1 S2 q => ?_)
  cases q
  refine EL_ref C dL_law_593 1 rfl ?_
  refine EL_arg C hL (j := 1) (jj := 1) (dl := 3) (by omega) (by decide) dL_law_594 dL_law_595 (Or.inl ⟨dL_law_596, rfl⟩) dL_law_597 dL_law_598 ?_
  refine EL_M C (As := [.int (xs (7 * i + 1))]) (st := [.int r]) (P := fun y => y = (r, T1)) (c_X12_told l D dA adM T (xs (7 * i + 1)) (pO_some h2)) mf_X12_told rfl rfl gL_law_X12_told rfl (by decide) rfl (Nat.le_of_ble_eq_true rfl) dL_law_599 (fun r1 S2 q => ?_)
  cases q
  exact EL_eq C (tgt := 1202) rfl dL_law_602 (by decide) (kk S1 T1 h3)
set_option maxRecDepth 100000 in
theorem law_case11 (C : LC p s m meth c b L xs D dA adX adM) (hL : L ≤ 3584) {i : Nat} (hi : 7 * i + 7 ≤ L) (hR : Rel S T) (hE : pEq2 Rel f_X11_water f_X12_water) (kk : ∀ S1 T1 : PS, Rel S1 T1 → EL p l e s m below meth c b D dA adX adM 1202 (lwL b adX adM i) [] S1 T1) : EL p l e s m below meth c b D dA adX adM 607 (lwL b adX adM i) [] S T := by
  obtain ⟨r, S1, T1, h1, h2, h3⟩ := hE S T hR (xs (7 * i + 1)) (xs (7 * i + 2))
  refine EL_ref C dL_law_607 2 rfl ?_
  refine EL_arg C hL (j := 1) (jj := 1) (dl := 3) (by omega) (by decide) dL_law_608 dL_law_609 (Or.inl ⟨dL_law_610, rfl⟩) dL_law_611 dL_law_612 ?_
  refine EL_arg C hL (j := 2) (jj := 2) (dl := 3) (by omega) (by decide) dL_law_613 dL_law_614 (Or.inl ⟨dL_law_615, rfl⟩) dL_law_616 dL_law_617 ?_
  refine EL_X C (As := [.int (xs (7 * i + 1)), .int (xs (7 * i + 2))]) (st := []) (P := fun y => y = (r, S1)) (c_X11_water l D dA adX S (xs (7 * i + 1)) (xs (7 * i + 2)) (pO_some h1)) mf_X11_water rfl rfl gL_law_X11_water rfl (by decide) rfl (Nat.le_of_ble_eq_true rfl) dL_law_618 (fun r1 S2 q => ?_)
  cases q
  refine EL_ref C dL_law_621 1 rfl ?_
  refine EL_arg C hL (j := 1) (jj := 1) (dl := 3) (by omega) (by decide) dL_law_622 dL_law_623 (Or.inl ⟨dL_law_624, rfl⟩) dL_law_625 dL_law_626 ?_
  refine EL_arg C hL (j := 2) (jj := 2) (dl := 3) (by omega) (by decide) dL_law_627 dL_law_628 (Or.inl ⟨dL_law_629, rfl⟩) dL_law_630 dL_law_631 ?_
  refine EL_M C (As := [.int (xs (7 * i + 1)), .int (xs (7 * i + 2))]) (st := [.int r]) (P := fun y => y = (r, T1)) (c_X12_water l D dA adM T (xs (7 * i + 1)) (xs (7 * i + 2)) (pO_some h2)) mf_X12_water rfl rfl gL_law_X12_water rfl (by decide) rfl (Nat.le_of_ble_eq_true rfl) dL_law_632 (fun r1 S2 q => ?_)
  cases q
  exact EL_eq C (tgt := 1202) rfl dL_law_635 (by decide) (kk S1 T1 h3)
set_option maxRecDepth 100000 in
theorem law_case12 (C : LC p s m meth c b L xs D dA adX adM) (hL : L ≤ 3584) {i : Nat} (hi : 7 * i + 7 ≤ L) (hR : Rel S T) (hE : pEq0 Rel f_X11_line f_X12_line) (kk : ∀ S1 T1 : PS, Rel S1 T1 → EL p l e s m below meth c b D dA adX adM 1202 (lwL b adX adM i) [] S1 T1) : EL p l e s m below meth c b D dA adX adM 640 (lwL b adX adM i) [] S T := by
  obtain ⟨r, S1, T1, h1, h2, h3⟩ := hE S T hR
  refine EL_ref C dL_law_640 2 rfl ?_
  refine EL_X C (As := []) (st := []) (P := fun y => y = (r, S1)) (c_X11_line l D dA adX S  (pO_some h1)) mf_X11_line rfl rfl gL_law_X11_line rfl (by decide) rfl (Nat.le_of_ble_eq_true rfl) dL_law_641 (fun r1 S2 q => ?_)
  cases q
  refine EL_ref C dL_law_644 1 rfl ?_
  refine EL_M C (As := []) (st := [.int r]) (P := fun y => y = (r, T1)) (c_X12_line l D dA adM T  (pO_some h2)) mf_X12_line rfl rfl gL_law_X12_line rfl (by decide) rfl (Nat.le_of_ble_eq_true rfl) dL_law_645 (fun r1 S2 q => ?_)
  cases q
  exact EL_eq C (tgt := 1202) rfl dL_law_648 (by decide) (kk S1 T1 h3)
set_option maxRecDepth 100000 in
theorem law_case13 (C : LC p s m meth c b L xs D dA adX adM) (hL : L ≤ 3584) {i : Nat} (hi : 7 * i + 7 ≤ L) (hR : Rel S T) (hE : pEq1 Rel f_X11_trim f_X12_trim) (kk : ∀ S1 T1 : PS, Rel S1 T1 → EL p l e s m below meth c b D dA adX adM 1202 (lwL b adX adM i) [] S1 T1) : EL p l e s m below meth c b D dA adX adM 653 (lwL b adX adM i) [] S T := by
  obtain ⟨r, S1, T1, h1, h2, h3⟩ := hE S T hR (xs (7 * i + 1))
  refine EL_ref C dL_law_653 2 rfl ?_
  refine EL_arg C hL (j := 1) (jj := 1) (dl := 3) (by omega) (by decide) dL_law_654 dL_law_655 (Or.inl ⟨dL_law_656, rfl⟩) dL_law_657 dL_law_658 ?_
  refine EL_X C (As := [.int (xs (7 * i + 1))]) (st := []) (P := fun y => y = (r, S1)) (c_X11_trim l D dA adX S (xs (7 * i + 1)) (pO_some h1)) mf_X11_trim rfl rfl gL_law_X11_trim rfl (by decide) rfl (Nat.le_of_ble_eq_true rfl) dL_law_659 (fun r1 S2 q => ?_)
  cases q
  refine EL_ref C dL_law_662 1 rfl ?_
  refine EL_arg C hL (j := 1) (jj := 1) (dl := 3) (by omega) (by decide) dL_law_663 dL_law_664 (Or.inl ⟨dL_law_665, rfl⟩) dL_law_666 dL_law_667 ?_
  refine EL_M C (As := [.int (xs (7 * i + 1))]) (st := [.int r]) (P := fun y => y = (r, T1)) (c_X12_trim l D dA adM T (xs (7 * i + 1)) (pO_some h2)) mf_X12_trim rfl rfl gL_law_X12_trim rfl (by decide) rfl (Nat.le_of_ble_eq_true rfl) dL_law_668 (fun r1 S2 q => ?_)
  cases q
  exact EL_eq C (tgt := 1202) rfl dL_law_671 (by decide) (kk S1 T1 h3)
set_option maxRecDepth 100000 in
theorem law_case14 (C : LC p s m meth c b L xs D dA adX adM) (hL : L ≤ 3584) {i : Nat} (hi : 7 * i + 7 ≤ L) (hR : Rel S T) (hE : pEq1 Rel f_X11_off f_X12_off) (kk : ∀ S1 T1 : PS, Rel S1 T1 → EL p l e s m below meth c b D dA adX adM 1202 (lwL b adX adM i) [] S1 T1) : EL p l e s m below meth c b D dA adX adM 676 (lwL b adX adM i) [] S T := by
  obtain ⟨r, S1, T1, h1, h2, h3⟩ := hE S T hR (xs (7 * i + 1))
  refine EL_ref C dL_law_676 2 rfl ?_
  refine EL_arg C hL (j := 1) (jj := 1) (dl := 3) (by omega) (by decide) dL_law_677 dL_law_678 (Or.inl ⟨dL_law_679, rfl⟩) dL_law_680 dL_law_681 ?_
  refine EL_X C (As := [.int (xs (7 * i + 1))]) (st := []) (P := fun y => y = (r, S1)) (c_X11_off l D dA adX S (xs (7 * i + 1)) (pO_some h1)) mf_X11_off rfl rfl gL_law_X11_off rfl (by decide) rfl (Nat.le_of_ble_eq_true rfl) dL_law_682 (fun r1 S2 q => ?_)
  cases q
  refine EL_ref C dL_law_685 1 rfl ?_
  refine EL_arg C hL (j := 1) (jj := 1) (dl := 3) (by omega) (by decide) dL_law_686 dL_law_687 (Or.inl ⟨dL_law_688, rfl⟩) dL_law_689 dL_law_690 ?_
  refine EL_M C (As := [.int (xs (7 * i + 1))]) (st := [.int r]) (P := fun y => y = (r, T1)) (c_X12_off l D dA adM T (xs (7 * i + 1)) (pO_some h2)) mf_X12_off rfl rfl gL_law_X12_off rfl (by decide) rfl (Nat.le_of_ble_eq_true rfl) dL_law_691 (fun r1 S2 q => ?_)
  cases q
  exact EL_eq C (tgt := 1202) rfl dL_law_694 (by decide) (kk S1 T1 h3)
set_option maxRecDepth 100000 in
theorem law_case15 (C : LC p s m meth c b L xs D dA adX adM) (hL : L ≤ 3584) {i : Nat} (hi : 7 * i + 7 ≤ L) (hR : Rel S T) (hE : pEq1 Rel f_X11_heel f_X12_heel) (kk : ∀ S1 T1 : PS, Rel S1 T1 → EL p l e s m below meth c b D dA adX adM 1202 (lwL b adX adM i) [] S1 T1) : EL p l e s m below meth c b D dA adX adM 699 (lwL b adX adM i) [] S T := by
  obtain ⟨r, S1, T1, h1, h2, h3⟩ := hE S T hR (xs (7 * i + 1))
  refine EL_ref C dL_law_699 2 rfl ?_
  refine EL_arg C hL (j := 1) (jj := 1) (dl := 3) (by omega) (by decide) dL_law_700 dL_law_701 (Or.inl ⟨dL_law_702, rfl⟩) dL_law_703 dL_law_704 ?_
  refine EL_X C (As := [.int (xs (7 * i + 1))]) (st := []) (P := fun y => y = (r, S1)) (c_X11_heel l D dA adX S (xs (7 * i + 1)) (pO_some h1)) mf_X11_heel rfl rfl gL_law_X11_heel rfl (by decide) rfl (Nat.le_of_ble_eq_true rfl) dL_law_705 (fun r1 S2 q => ?_)
  cases q
  refine EL_ref C dL_law_708 1 rfl ?_
  refine EL_arg C hL (j := 1) (jj := 1) (dl := 3) (by omega) (by decide) dL_law_709 dL_law_710 (Or.inl ⟨dL_law_711, rfl⟩) dL_law_712 dL_law_713 ?_
  refine EL_M C (As := [.int (xs (7 * i + 1))]) (st := [.int r]) (P := fun y => y = (r, T1)) (c_X12_heel l D dA adM T (xs (7 * i + 1)) (pO_some h2)) mf_X12_heel rfl rfl gL_law_X12_heel rfl (by decide) rfl (Nat.le_of_ble_eq_true rfl) dL_law_714 (fun r1 S2 q => ?_)
  cases q
  exact EL_eq C (tgt := 1202) rfl dL_law_717 (by decide) (kk S1 T1 h3)
set_option maxRecDepth 100000 in
theorem law_case16 (C : LC p s m meth c b L xs D dA adX adM) (hL : L ≤ 3584) {i : Nat} (hi : 7 * i + 7 ≤ L) (hR : Rel S T) (hE : pEq0 Rel f_X11_steady f_X12_steady) (kk : ∀ S1 T1 : PS, Rel S1 T1 → EL p l e s m below meth c b D dA adX adM 1202 (lwL b adX adM i) [] S1 T1) : EL p l e s m below meth c b D dA adX adM 722 (lwL b adX adM i) [] S T := by
  obtain ⟨r, S1, T1, h1, h2, h3⟩ := hE S T hR
  refine EL_ref C dL_law_722 2 rfl ?_
  refine EL_X C (As := []) (st := []) (P := fun y => y = (r, S1)) (c_X11_steady l D dA adX S  (pO_some h1)) mf_X11_steady rfl rfl gL_law_X11_steady rfl (by decide) rfl (Nat.le_of_ble_eq_true rfl) dL_law_723 (fun r1 S2 q => ?_)
  cases q
  refine EL_ref C dL_law_726 1 rfl ?_
  refine EL_M C (As := []) (st := [.int r]) (P := fun y => y = (r, T1)) (c_X12_steady l D dA adM T  (pO_some h2)) mf_X12_steady rfl rfl gL_law_X12_steady rfl (by decide) rfl (Nat.le_of_ble_eq_true rfl) dL_law_727 (fun r1 S2 q => ?_)
  cases q
  exact EL_eq C (tgt := 1202) rfl dL_law_730 (by decide) (kk S1 T1 h3)
set_option maxRecDepth 100000 in
theorem law_case17 (C : LC p s m meth c b L xs D dA adX adM) (hL : L ≤ 3584) {i : Nat} (hi : 7 * i + 7 ≤ L) (hR : Rel S T) (hE : pEq1 Rel f_X11_grounded f_X12_grounded) (kk : ∀ S1 T1 : PS, Rel S1 T1 → EL p l e s m below meth c b D dA adX adM 1202 (lwL b adX adM i) [] S1 T1) : EL p l e s m below meth c b D dA adX adM 735 (lwL b adX adM i) [] S T := by
  obtain ⟨r, S1, T1, h1, h2, h3⟩ := hE S T hR (xs (7 * i + 1))
  refine EL_ref C dL_law_735 2 rfl ?_
  refine EL_arg C hL (j := 1) (jj := 1) (dl := 3) (by omega) (by decide) dL_law_736 dL_law_737 (Or.inl ⟨dL_law_738, rfl⟩) dL_law_739 dL_law_740 ?_
  refine EL_X C (As := [.int (xs (7 * i + 1))]) (st := []) (P := fun y => y = (r, S1)) (c_X11_grounded l D dA adX S (xs (7 * i + 1)) (pO_some h1)) mf_X11_grounded rfl rfl gL_law_X11_grounded rfl (by decide) rfl (Nat.le_of_ble_eq_true rfl) dL_law_741 (fun r1 S2 q => ?_)
  cases q
  refine EL_ref C dL_law_744 1 rfl ?_
  refine EL_arg C hL (j := 1) (jj := 1) (dl := 3) (by omega) (by decide) dL_law_745 dL_law_746 (Or.inl ⟨dL_law_747, rfl⟩) dL_law_748 dL_law_749 ?_
  refine EL_M C (As := [.int (xs (7 * i + 1))]) (st := [.int r]) (P := fun y => y = (r, T1)) (c_X12_grounded l D dA adM T (xs (7 * i + 1)) (pO_some h2)) mf_X12_grounded rfl rfl gL_law_X12_grounded rfl (by decide) rfl (Nat.le_of_ble_eq_true rfl) dL_law_750 (fun r1 S2 q => ?_)
  cases q
  exact EL_eq C (tgt := 1202) rfl dL_law_753 (by decide) (kk S1 T1 h3)
set_option maxRecDepth 100000 in
theorem law_case18 (C : LC p s m meth c b L xs D dA adX adM) (hL : L ≤ 3584) {i : Nat} (hi : 7 * i + 7 ≤ L) (hR : Rel S T) (hE : pEq1 Rel f_X11_lighten f_X12_lighten) (kk : ∀ S1 T1 : PS, Rel S1 T1 → EL p l e s m below meth c b D dA adX adM 1202 (lwL b adX adM i) [] S1 T1) : EL p l e s m below meth c b D dA adX adM 758 (lwL b adX adM i) [] S T := by
  obtain ⟨r, S1, T1, h1, h2, h3⟩ := hE S T hR (xs (7 * i + 1))
  refine EL_ref C dL_law_758 2 rfl ?_
  refine EL_arg C hL (j := 1) (jj := 1) (dl := 3) (by omega) (by decide) dL_law_759 dL_law_760 (Or.inl ⟨dL_law_761, rfl⟩) dL_law_762 dL_law_763 ?_
  refine EL_X C (As := [.int (xs (7 * i + 1))]) (st := []) (P := fun y => y = (r, S1)) (c_X11_lighten l D dA adX S (xs (7 * i + 1)) (pO_some h1)) mf_X11_lighten rfl rfl gL_law_X11_lighten rfl (by decide) rfl (Nat.le_of_ble_eq_true rfl) dL_law_764 (fun r1 S2 q => ?_)
  cases q
  refine EL_ref C dL_law_767 1 rfl ?_
  refine EL_arg C hL (j := 1) (jj := 1) (dl := 3) (by omega) (by decide) dL_law_768 dL_law_769 (Or.inl ⟨dL_law_770, rfl⟩) dL_law_771 dL_law_772 ?_
  refine EL_M C (As := [.int (xs (7 * i + 1))]) (st := [.int r]) (P := fun y => y = (r, T1)) (c_X12_lighten l D dA adM T (xs (7 * i + 1)) (pO_some h2)) mf_X12_lighten rfl rfl gL_law_X12_lighten rfl (by decide) rfl (Nat.le_of_ble_eq_true rfl) dL_law_773 (fun r1 S2 q => ?_)
  cases q
  exact EL_eq C (tgt := 1202) rfl dL_law_776 (by decide) (kk S1 T1 h3)
set_option maxRecDepth 100000 in
theorem law_case19 (C : LC p s m meth c b L xs D dA adX adM) (hL : L ≤ 3584) {i : Nat} (hi : 7 * i + 7 ≤ L) (hR : Rel S T) (hE : pEq1 Rel f_X11_more f_X12_more) (kk : ∀ S1 T1 : PS, Rel S1 T1 → EL p l e s m below meth c b D dA adX adM 1202 (lwL b adX adM i) [] S1 T1) : EL p l e s m below meth c b D dA adX adM 781 (lwL b adX adM i) [] S T := by
  obtain ⟨r, S1, T1, h1, h2, h3⟩ := hE S T hR (xs (7 * i + 1))
  refine EL_ref C dL_law_781 2 rfl ?_
  refine EL_arg C hL (j := 1) (jj := 1) (dl := 3) (by omega) (by decide) dL_law_782 dL_law_783 (Or.inl ⟨dL_law_784, rfl⟩) dL_law_785 dL_law_786 ?_
  refine EL_X C (As := [.int (xs (7 * i + 1))]) (st := []) (P := fun y => y = (r, S1)) (c_X11_more l D dA adX S (xs (7 * i + 1)) (pO_some h1)) mf_X11_more rfl rfl gL_law_X11_more rfl (by decide) rfl (Nat.le_of_ble_eq_true rfl) dL_law_787 (fun r1 S2 q => ?_)
  cases q
  refine EL_ref C dL_law_790 1 rfl ?_
  refine EL_arg C hL (j := 1) (jj := 1) (dl := 3) (by omega) (by decide) dL_law_791 dL_law_792 (Or.inl ⟨dL_law_793, rfl⟩) dL_law_794 dL_law_795 ?_
  refine EL_M C (As := [.int (xs (7 * i + 1))]) (st := [.int r]) (P := fun y => y = (r, T1)) (c_X12_more l D dA adM T (xs (7 * i + 1)) (pO_some h2)) mf_X12_more rfl rfl gL_law_X12_more rfl (by decide) rfl (Nat.le_of_ble_eq_true rfl) dL_law_796 (fun r1 S2 q => ?_)
  cases q
  exact EL_eq C (tgt := 1202) rfl dL_law_799 (by decide) (kk S1 T1 h3)
set_option maxRecDepth 100000 in
theorem law_case20 (C : LC p s m meth c b L xs D dA adX adM) (hL : L ≤ 3584) {i : Nat} (hi : 7 * i + 7 ≤ L) (hR : Rel S T) (hE : pEq2 Rel f_X11_order f_X12_order) (kk : ∀ S1 T1 : PS, Rel S1 T1 → EL p l e s m below meth c b D dA adX adM 1202 (lwL b adX adM i) [] S1 T1) : EL p l e s m below meth c b D dA adX adM 804 (lwL b adX adM i) [] S T := by
  obtain ⟨r, S1, T1, h1, h2, h3⟩ := hE S T hR (xs (7 * i + 1)) (xs (7 * i + 2))
  refine EL_ref C dL_law_804 2 rfl ?_
  refine EL_arg C hL (j := 1) (jj := 1) (dl := 3) (by omega) (by decide) dL_law_805 dL_law_806 (Or.inl ⟨dL_law_807, rfl⟩) dL_law_808 dL_law_809 ?_
  refine EL_arg C hL (j := 2) (jj := 2) (dl := 3) (by omega) (by decide) dL_law_810 dL_law_811 (Or.inl ⟨dL_law_812, rfl⟩) dL_law_813 dL_law_814 ?_
  refine EL_X C (As := [.int (xs (7 * i + 1)), .int (xs (7 * i + 2))]) (st := []) (P := fun y => y = (r, S1)) (c_X11_order l D dA adX S (xs (7 * i + 1)) (xs (7 * i + 2)) (pO_some h1)) mf_X11_order rfl rfl gL_law_X11_order rfl (by decide) rfl (Nat.le_of_ble_eq_true rfl) dL_law_815 (fun r1 S2 q => ?_)
  cases q
  refine EL_ref C dL_law_818 1 rfl ?_
  refine EL_arg C hL (j := 1) (jj := 1) (dl := 3) (by omega) (by decide) dL_law_819 dL_law_820 (Or.inl ⟨dL_law_821, rfl⟩) dL_law_822 dL_law_823 ?_
  refine EL_arg C hL (j := 2) (jj := 2) (dl := 3) (by omega) (by decide) dL_law_824 dL_law_825 (Or.inl ⟨dL_law_826, rfl⟩) dL_law_827 dL_law_828 ?_
  refine EL_M C (As := [.int (xs (7 * i + 1)), .int (xs (7 * i + 2))]) (st := [.int r]) (P := fun y => y = (r, T1)) (c_X12_order l D dA adM T (xs (7 * i + 1)) (xs (7 * i + 2)) (pO_some h2)) mf_X12_order rfl rfl gL_law_X12_order rfl (by decide) rfl (Nat.le_of_ble_eq_true rfl) dL_law_829 (fun r1 S2 q => ?_)
  cases q
  exact EL_eq C (tgt := 1202) rfl dL_law_832 (by decide) (kk S1 T1 h3)
set_option maxRecDepth 100000 in
theorem law_case21 (C : LC p s m meth c b L xs D dA adX adM) (hL : L ≤ 3584) {i : Nat} (hi : 7 * i + 7 ≤ L) (hR : Rel S T) (hE : pEq1 Rel f_X11_next f_X12_next) (kk : ∀ S1 T1 : PS, Rel S1 T1 → EL p l e s m below meth c b D dA adX adM 1202 (lwL b adX adM i) [] S1 T1) : EL p l e s m below meth c b D dA adX adM 837 (lwL b adX adM i) [] S T := by
  obtain ⟨r, S1, T1, h1, h2, h3⟩ := hE S T hR (xs (7 * i + 1))
  refine EL_ref C dL_law_837 2 rfl ?_
  refine EL_arg C hL (j := 1) (jj := 1) (dl := 3) (by omega) (by decide) dL_law_838 dL_law_839 (Or.inl ⟨dL_law_840, rfl⟩) dL_law_841 dL_law_842 ?_
  refine EL_X C (As := [.int (xs (7 * i + 1))]) (st := []) (P := fun y => y = (r, S1)) (c_X11_next l D dA adX S (xs (7 * i + 1)) (pO_some h1)) mf_X11_next rfl rfl gL_law_X11_next rfl (by decide) rfl (Nat.le_of_ble_eq_true rfl) dL_law_843 (fun r1 S2 q => ?_)
  cases q
  refine EL_ref C dL_law_846 1 rfl ?_
  refine EL_arg C hL (j := 1) (jj := 1) (dl := 3) (by omega) (by decide) dL_law_847 dL_law_848 (Or.inl ⟨dL_law_849, rfl⟩) dL_law_850 dL_law_851 ?_
  refine EL_M C (As := [.int (xs (7 * i + 1))]) (st := [.int r]) (P := fun y => y = (r, T1)) (c_X12_next l D dA adM T (xs (7 * i + 1)) (pO_some h2)) mf_X12_next rfl rfl gL_law_X12_next rfl (by decide) rfl (Nat.le_of_ble_eq_true rfl) dL_law_852 (fun r1 S2 q => ?_)
  cases q
  exact EL_eq C (tgt := 1202) rfl dL_law_855 (by decide) (kk S1 T1 h3)
set_option maxRecDepth 100000 in
theorem law_case22 (C : LC p s m meth c b L xs D dA adX adM) (hL : L ≤ 3584) {i : Nat} (hi : 7 * i + 7 ≤ L) (hR : Rel S T) (hE : pEq0 Rel f_X11_turn f_X12_turn) (kk : ∀ S1 T1 : PS, Rel S1 T1 → EL p l e s m below meth c b D dA adX adM 1202 (lwL b adX adM i) [] S1 T1) : EL p l e s m below meth c b D dA adX adM 860 (lwL b adX adM i) [] S T := by
  obtain ⟨r, S1, T1, h1, h2, h3⟩ := hE S T hR
  refine EL_ref C dL_law_860 2 rfl ?_
  refine EL_X C (As := []) (st := []) (P := fun y => y = (r, S1)) (c_X11_turn l D dA adX S  (pO_some h1)) mf_X11_turn rfl rfl gL_law_X11_turn rfl (by decide) rfl (Nat.le_of_ble_eq_true rfl) dL_law_861 (fun r1 S2 q => ?_)
  cases q
  refine EL_ref C dL_law_864 1 rfl ?_
  refine EL_M C (As := []) (st := [.int r]) (P := fun y => y = (r, T1)) (c_X12_turn l D dA adM T  (pO_some h2)) mf_X12_turn rfl rfl gL_law_X12_turn rfl (by decide) rfl (Nat.le_of_ble_eq_true rfl) dL_law_865 (fun r1 S2 q => ?_)
  cases q
  exact EL_eq C (tgt := 1202) rfl dL_law_868 (by decide) (kk S1 T1 h3)
set_option maxRecDepth 100000 in
theorem law_case23 (C : LC p s m meth c b L xs D dA adX adM) (hL : L ≤ 3584) {i : Nat} (hi : 7 * i + 7 ≤ L) (hR : Rel S T) (hE : pEq1 Rel f_X11_change f_X12_change) (kk : ∀ S1 T1 : PS, Rel S1 T1 → EL p l e s m below meth c b D dA adX adM 1202 (lwL b adX adM i) [] S1 T1) : EL p l e s m below meth c b D dA adX adM 873 (lwL b adX adM i) [] S T := by
  obtain ⟨r, S1, T1, h1, h2, h3⟩ := hE S T hR (xs (7 * i + 1))
  refine EL_ref C dL_law_873 2 rfl ?_
  refine EL_arg C hL (j := 1) (jj := 1) (dl := 3) (by omega) (by decide) dL_law_874 dL_law_875 (Or.inl ⟨dL_law_876, rfl⟩) dL_law_877 dL_law_878 ?_
  refine EL_X C (As := [.int (xs (7 * i + 1))]) (st := []) (P := fun y => y = (r, S1)) (c_X11_change l D dA adX S (xs (7 * i + 1)) (pO_some h1)) mf_X11_change rfl rfl gL_law_X11_change rfl (by decide) rfl (Nat.le_of_ble_eq_true rfl) dL_law_879 (fun r1 S2 q => ?_)
  cases q
  refine EL_ref C dL_law_882 1 rfl ?_
  refine EL_arg C hL (j := 1) (jj := 1) (dl := 3) (by omega) (by decide) dL_law_883 dL_law_884 (Or.inl ⟨dL_law_885, rfl⟩) dL_law_886 dL_law_887 ?_
  refine EL_M C (As := [.int (xs (7 * i + 1))]) (st := [.int r]) (P := fun y => y = (r, T1)) (c_X12_change l D dA adM T (xs (7 * i + 1)) (pO_some h2)) mf_X12_change rfl rfl gL_law_X12_change rfl (by decide) rfl (Nat.le_of_ble_eq_true rfl) dL_law_888 (fun r1 S2 q => ?_)
  cases q
  exact EL_eq C (tgt := 1202) rfl dL_law_891 (by decide) (kk S1 T1 h3)
set_option maxRecDepth 100000 in
theorem law_case24 (C : LC p s m meth c b L xs D dA adX adM) (hL : L ≤ 3584) {i : Nat} (hi : 7 * i + 7 ≤ L) (hR : Rel S T) (hE : pEq4 Rel f_X11_fits f_X12_fits) (kk : ∀ S1 T1 : PS, Rel S1 T1 → EL p l e s m below meth c b D dA adX adM 1202 (lwL b adX adM i) [] S1 T1) : EL p l e s m below meth c b D dA adX adM 896 (lwL b adX adM i) [] S T := by
  obtain ⟨r, S1, T1, h1, h2, h3⟩ := hE S T hR (xs (7 * i + 1)) (xs (7 * i + 2)) (xs (7 * i + 3)) (xs (7 * i + 4))
  refine EL_ref C dL_law_896 2 rfl ?_
  refine EL_arg C hL (j := 1) (jj := 1) (dl := 3) (by omega) (by decide) dL_law_897 dL_law_898 (Or.inl ⟨dL_law_899, rfl⟩) dL_law_900 dL_law_901 ?_
  refine EL_arg C hL (j := 2) (jj := 2) (dl := 3) (by omega) (by decide) dL_law_902 dL_law_903 (Or.inl ⟨dL_law_904, rfl⟩) dL_law_905 dL_law_906 ?_
  refine EL_arg C hL (j := 3) (jj := 3) (dl := 3) (by omega) (by decide) dL_law_907 dL_law_908 (Or.inl ⟨dL_law_909, rfl⟩) dL_law_910 dL_law_911 ?_
  refine EL_arg C hL (j := 4) (jj := 4) (dl := 3) (by omega) (by decide) dL_law_912 dL_law_913 (Or.inl ⟨dL_law_914, rfl⟩) dL_law_915 dL_law_916 ?_
  refine EL_X C (As := [.int (xs (7 * i + 1)), .int (xs (7 * i + 2)), .int (xs (7 * i + 3)), .int (xs (7 * i + 4))]) (st := []) (P := fun y => y = (r, S1)) (c_X11_fits l D dA adX S (xs (7 * i + 1)) (xs (7 * i + 2)) (xs (7 * i + 3)) (xs (7 * i + 4)) (pO_some h1)) mf_X11_fits rfl rfl gL_law_X11_fits rfl (by decide) rfl (Nat.le_of_ble_eq_true rfl) dL_law_917 (fun r1 S2 q => ?_)
  cases q
  refine EL_ref C dL_law_920 1 rfl ?_
  refine EL_arg C hL (j := 1) (jj := 1) (dl := 3) (by omega) (by decide) dL_law_921 dL_law_922 (Or.inl ⟨dL_law_923, rfl⟩) dL_law_924 dL_law_925 ?_
  refine EL_arg C hL (j := 2) (jj := 2) (dl := 3) (by omega) (by decide) dL_law_926 dL_law_927 (Or.inl ⟨dL_law_928, rfl⟩) dL_law_929 dL_law_930 ?_
  refine EL_arg C hL (j := 3) (jj := 3) (dl := 3) (by omega) (by decide) dL_law_931 dL_law_932 (Or.inl ⟨dL_law_933, rfl⟩) dL_law_934 dL_law_935 ?_
  refine EL_arg C hL (j := 4) (jj := 4) (dl := 3) (by omega) (by decide) dL_law_936 dL_law_937 (Or.inl ⟨dL_law_938, rfl⟩) dL_law_939 dL_law_940 ?_
  refine EL_M C (As := [.int (xs (7 * i + 1)), .int (xs (7 * i + 2)), .int (xs (7 * i + 3)), .int (xs (7 * i + 4))]) (st := [.int r]) (P := fun y => y = (r, T1)) (c_X12_fits l D dA adM T (xs (7 * i + 1)) (xs (7 * i + 2)) (xs (7 * i + 3)) (xs (7 * i + 4)) (pO_some h2)) mf_X12_fits rfl rfl gL_law_X12_fits rfl (by decide) rfl (Nat.le_of_ble_eq_true rfl) dL_law_941 (fun r1 S2 q => ?_)
  cases q
  exact EL_eq C (tgt := 1202) rfl dL_law_944 (by decide) (kk S1 T1 h3)
set_option maxRecDepth 100000 in
theorem law_case25 (C : LC p s m meth c b L xs D dA adX adM) (hL : L ≤ 3584) {i : Nat} (hi : 7 * i + 7 ≤ L) (hR : Rel S T) (hE : pEq1 Rel f_X11_say f_X12_say) (kk : ∀ S1 T1 : PS, Rel S1 T1 → EL p l e s m below meth c b D dA adX adM 1202 (lwL b adX adM i) [] S1 T1) : EL p l e s m below meth c b D dA adX adM 949 (lwL b adX adM i) [] S T := by
  obtain ⟨r, S1, T1, h1, h2, h3⟩ := hE S T hR (xs (7 * i + 1))
  refine EL_ref C dL_law_949 2 rfl ?_
  refine EL_arg C hL (j := 1) (jj := 1) (dl := 3) (by omega) (by decide) dL_law_950 dL_law_951 (Or.inl ⟨dL_law_952, rfl⟩) dL_law_953 dL_law_954 ?_
  refine EL_X C (As := [.int (xs (7 * i + 1))]) (st := []) (P := fun y => y = (r, S1)) (c_X11_say l D dA adX S (xs (7 * i + 1)) (pO_some h1)) mf_X11_say rfl rfl gL_law_X11_say rfl (by decide) rfl (Nat.le_of_ble_eq_true rfl) dL_law_955 (fun r1 S2 q => ?_)
  cases q
  refine EL_ref C dL_law_958 1 rfl ?_
  refine EL_arg C hL (j := 1) (jj := 1) (dl := 3) (by omega) (by decide) dL_law_959 dL_law_960 (Or.inl ⟨dL_law_961, rfl⟩) dL_law_962 dL_law_963 ?_
  refine EL_M C (As := [.int (xs (7 * i + 1))]) (st := [.int r]) (P := fun y => y = (r, T1)) (c_X12_say l D dA adM T (xs (7 * i + 1)) (pO_some h2)) mf_X12_say rfl rfl gL_law_X12_say rfl (by decide) rfl (Nat.le_of_ble_eq_true rfl) dL_law_964 (fun r1 S2 q => ?_)
  cases q
  exact EL_eq C (tgt := 1202) rfl dL_law_967 (by decide) (kk S1 T1 h3)
set_option maxRecDepth 100000 in
theorem law_case26 (C : LC p s m meth c b L xs D dA adX adM) (hL : L ≤ 3584) {i : Nat} (hi : 7 * i + 7 ≤ L) (hR : Rel S T) (hE : pEq1 Rel f_X11_feed f_X12_feed) (kk : ∀ S1 T1 : PS, Rel S1 T1 → EL p l e s m below meth c b D dA adX adM 1202 (lwL b adX adM i) [] S1 T1) : EL p l e s m below meth c b D dA adX adM 972 (lwL b adX adM i) [] S T := by
  obtain ⟨r, S1, T1, h1, h2, h3⟩ := hE S T hR (xs (7 * i + 1))
  refine EL_ref C dL_law_972 2 rfl ?_
  refine EL_arg C hL (j := 1) (jj := 1) (dl := 3) (by omega) (by decide) dL_law_973 dL_law_974 (Or.inl ⟨dL_law_975, rfl⟩) dL_law_976 dL_law_977 ?_
  refine EL_X C (As := [.int (xs (7 * i + 1))]) (st := []) (P := fun y => y = (r, S1)) (c_X11_feed l D dA adX S (xs (7 * i + 1)) (pO_some h1)) mf_X11_feed rfl rfl gL_law_X11_feed rfl (by decide) rfl (Nat.le_of_ble_eq_true rfl) dL_law_978 (fun r1 S2 q => ?_)
  cases q
  refine EL_ref C dL_law_981 1 rfl ?_
  refine EL_arg C hL (j := 1) (jj := 1) (dl := 3) (by omega) (by decide) dL_law_982 dL_law_983 (Or.inl ⟨dL_law_984, rfl⟩) dL_law_985 dL_law_986 ?_
  refine EL_M C (As := [.int (xs (7 * i + 1))]) (st := [.int r]) (P := fun y => y = (r, T1)) (c_X12_feed l D dA adM T (xs (7 * i + 1)) (pO_some h2)) mf_X12_feed rfl rfl gL_law_X12_feed rfl (by decide) rfl (Nat.le_of_ble_eq_true rfl) dL_law_987 (fun r1 S2 q => ?_)
  cases q
  exact EL_eq C (tgt := 1202) rfl dL_law_990 (by decide) (kk S1 T1 h3)
set_option maxRecDepth 100000 in
theorem law_case27 (C : LC p s m meth c b L xs D dA adX adM) (hL : L ≤ 3584) {i : Nat} (hi : 7 * i + 7 ≤ L) (hR : Rel S T) (hE : pEq0 Rel f_X11_wipe f_X12_wipe) (kk : ∀ S1 T1 : PS, Rel S1 T1 → EL p l e s m below meth c b D dA adX adM 1202 (lwL b adX adM i) [] S1 T1) : EL p l e s m below meth c b D dA adX adM 995 (lwL b adX adM i) [] S T := by
  obtain ⟨r, S1, T1, h1, h2, h3⟩ := hE S T hR
  refine EL_ref C dL_law_995 2 rfl ?_
  refine EL_X C (As := []) (st := []) (P := fun y => y = (r, S1)) (c_X11_wipe l D dA adX S  (pO_some h1)) mf_X11_wipe rfl rfl gL_law_X11_wipe rfl (by decide) rfl (Nat.le_of_ble_eq_true rfl) dL_law_996 (fun r1 S2 q => ?_)
  cases q
  refine EL_ref C dL_law_999 1 rfl ?_
  refine EL_M C (As := []) (st := [.int r]) (P := fun y => y = (r, T1)) (c_X12_wipe l D dA adM T  (pO_some h2)) mf_X12_wipe rfl rfl gL_law_X12_wipe rfl (by decide) rfl (Nat.le_of_ble_eq_true rfl) dL_law_1000 (fun r1 S2 q => ?_)
  cases q
  exact EL_eq C (tgt := 1202) rfl dL_law_1003 (by decide) (kk S1 T1 h3)
set_option maxRecDepth 100000 in
theorem law_case28 (C : LC p s m meth c b L xs D dA adX adM) (hL : L ≤ 3584) {i : Nat} (hi : 7 * i + 7 ≤ L) (hR : Rel S T) (hE : pEq0 Rel f_X11_read f_X12_read) (kk : ∀ S1 T1 : PS, Rel S1 T1 → EL p l e s m below meth c b D dA adX adM 1202 (lwL b adX adM i) [] S1 T1) : EL p l e s m below meth c b D dA adX adM 1008 (lwL b adX adM i) [] S T := by
  obtain ⟨r, S1, T1, h1, h2, h3⟩ := hE S T hR
  refine EL_ref C dL_law_1008 2 rfl ?_
  refine EL_X C (As := []) (st := []) (P := fun y => y = (r, S1)) (c_X11_read l D dA adX S  (pO_some h1)) mf_X11_read rfl rfl gL_law_X11_read rfl (by decide) rfl (Nat.le_of_ble_eq_true rfl) dL_law_1009 (fun r1 S2 q => ?_)
  cases q
  refine EL_ref C dL_law_1012 1 rfl ?_
  refine EL_M C (As := []) (st := [.int r]) (P := fun y => y = (r, T1)) (c_X12_read l D dA adM T  (pO_some h2)) mf_X12_read rfl rfl gL_law_X12_read rfl (by decide) rfl (Nat.le_of_ble_eq_true rfl) dL_law_1013 (fun r1 S2 q => ?_)
  cases q
  exact EL_eq C (tgt := 1202) rfl dL_law_1016 (by decide) (kk S1 T1 h3)
set_option maxRecDepth 100000 in
theorem law_case29 (C : LC p s m meth c b L xs D dA adX adM) (hL : L ≤ 3584) {i : Nat} (hi : 7 * i + 7 ≤ L) (hR : Rel S T) (hE : pEq2 Rel f_X11_row f_X12_row) (kk : ∀ S1 T1 : PS, Rel S1 T1 → EL p l e s m below meth c b D dA adX adM 1202 (lwL b adX adM i) [] S1 T1) : EL p l e s m below meth c b D dA adX adM 1021 (lwL b adX adM i) [] S T := by
  obtain ⟨r, S1, T1, h1, h2, h3⟩ := hE S T hR (xs (7 * i + 1)) (xs (7 * i + 2))
  refine EL_ref C dL_law_1021 2 rfl ?_
  refine EL_arg C hL (j := 1) (jj := 1) (dl := 3) (by omega) (by decide) dL_law_1022 dL_law_1023 (Or.inl ⟨dL_law_1024, rfl⟩) dL_law_1025 dL_law_1026 ?_
  refine EL_arg C hL (j := 2) (jj := 2) (dl := 3) (by omega) (by decide) dL_law_1027 dL_law_1028 (Or.inl ⟨dL_law_1029, rfl⟩) dL_law_1030 dL_law_1031 ?_
  refine EL_X C (As := [.int (xs (7 * i + 1)), .int (xs (7 * i + 2))]) (st := []) (P := fun y => y = (r, S1)) (c_X11_row l D dA adX S (xs (7 * i + 1)) (xs (7 * i + 2)) (pO_some h1)) mf_X11_row rfl rfl gL_law_X11_row rfl (by decide) rfl (Nat.le_of_ble_eq_true rfl) dL_law_1032 (fun r1 S2 q => ?_)
  cases q
  refine EL_ref C dL_law_1035 1 rfl ?_
  refine EL_arg C hL (j := 1) (jj := 1) (dl := 3) (by omega) (by decide) dL_law_1036 dL_law_1037 (Or.inl ⟨dL_law_1038, rfl⟩) dL_law_1039 dL_law_1040 ?_
  refine EL_arg C hL (j := 2) (jj := 2) (dl := 3) (by omega) (by decide) dL_law_1041 dL_law_1042 (Or.inl ⟨dL_law_1043, rfl⟩) dL_law_1044 dL_law_1045 ?_
  refine EL_M C (As := [.int (xs (7 * i + 1)), .int (xs (7 * i + 2))]) (st := [.int r]) (P := fun y => y = (r, T1)) (c_X12_row l D dA adM T (xs (7 * i + 1)) (xs (7 * i + 2)) (pO_some h2)) mf_X12_row rfl rfl gL_law_X12_row rfl (by decide) rfl (Nat.le_of_ble_eq_true rfl) dL_law_1046 (fun r1 S2 q => ?_)
  cases q
  exact EL_eq C (tgt := 1202) rfl dL_law_1049 (by decide) (kk S1 T1 h3)
set_option maxRecDepth 100000 in
theorem law_case30 (C : LC p s m meth c b L xs D dA adX adM) (hL : L ≤ 3584) {i : Nat} (hi : 7 * i + 7 ≤ L) (hR : Rel S T) (hE : pEq3 Rel f_X11_store f_X12_store) (kk : ∀ S1 T1 : PS, Rel S1 T1 → EL p l e s m below meth c b D dA adX adM 1202 (lwL b adX adM i) [] S1 T1) : EL p l e s m below meth c b D dA adX adM 1054 (lwL b adX adM i) [] S T := by
  obtain ⟨r, S1, T1, h1, h2, h3⟩ := hE S T hR (xs (7 * i + 1)) (xs (7 * i + 2)) (xs (7 * i + 3))
  refine EL_ref C dL_law_1054 2 rfl ?_
  refine EL_arg C hL (j := 1) (jj := 1) (dl := 3) (by omega) (by decide) dL_law_1055 dL_law_1056 (Or.inl ⟨dL_law_1057, rfl⟩) dL_law_1058 dL_law_1059 ?_
  refine EL_arg C hL (j := 2) (jj := 2) (dl := 3) (by omega) (by decide) dL_law_1060 dL_law_1061 (Or.inl ⟨dL_law_1062, rfl⟩) dL_law_1063 dL_law_1064 ?_
  refine EL_arg C hL (j := 3) (jj := 3) (dl := 3) (by omega) (by decide) dL_law_1065 dL_law_1066 (Or.inl ⟨dL_law_1067, rfl⟩) dL_law_1068 dL_law_1069 ?_
  refine EL_X C (As := [.int (xs (7 * i + 1)), .int (xs (7 * i + 2)), .int (xs (7 * i + 3))]) (st := []) (P := fun y => y = (r, S1)) (c_X11_store l D dA adX S (xs (7 * i + 1)) (xs (7 * i + 2)) (xs (7 * i + 3)) (pO_some h1)) mf_X11_store rfl rfl gL_law_X11_store rfl (by decide) rfl (Nat.le_of_ble_eq_true rfl) dL_law_1070 (fun r1 S2 q => ?_)
  cases q
  refine EL_ref C dL_law_1073 1 rfl ?_
  refine EL_arg C hL (j := 1) (jj := 1) (dl := 3) (by omega) (by decide) dL_law_1074 dL_law_1075 (Or.inl ⟨dL_law_1076, rfl⟩) dL_law_1077 dL_law_1078 ?_
  refine EL_arg C hL (j := 2) (jj := 2) (dl := 3) (by omega) (by decide) dL_law_1079 dL_law_1080 (Or.inl ⟨dL_law_1081, rfl⟩) dL_law_1082 dL_law_1083 ?_
  refine EL_arg C hL (j := 3) (jj := 3) (dl := 3) (by omega) (by decide) dL_law_1084 dL_law_1085 (Or.inl ⟨dL_law_1086, rfl⟩) dL_law_1087 dL_law_1088 ?_
  refine EL_M C (As := [.int (xs (7 * i + 1)), .int (xs (7 * i + 2)), .int (xs (7 * i + 3))]) (st := [.int r]) (P := fun y => y = (r, T1)) (c_X12_store l D dA adM T (xs (7 * i + 1)) (xs (7 * i + 2)) (xs (7 * i + 3)) (pO_some h2)) mf_X12_store rfl rfl gL_law_X12_store rfl (by decide) rfl (Nat.le_of_ble_eq_true rfl) dL_law_1089 (fun r1 S2 q => ?_)
  cases q
  exact EL_eq C (tgt := 1202) rfl dL_law_1092 (by decide) (kk S1 T1 h3)
set_option maxRecDepth 100000 in
theorem law_case31 (C : LC p s m meth c b L xs D dA adX adM) (hL : L ≤ 3584) {i : Nat} (hi : 7 * i + 7 ≤ L) (hR : Rel S T) (hE : pEq2 Rel f_X11_get f_X12_get) (kk : ∀ S1 T1 : PS, Rel S1 T1 → EL p l e s m below meth c b D dA adX adM 1202 (lwL b adX adM i) [] S1 T1) : EL p l e s m below meth c b D dA adX adM 1097 (lwL b adX adM i) [] S T := by
  obtain ⟨r, S1, T1, h1, h2, h3⟩ := hE S T hR (xs (7 * i + 1)) (xs (7 * i + 2))
  refine EL_ref C dL_law_1097 2 rfl ?_
  refine EL_arg C hL (j := 1) (jj := 1) (dl := 3) (by omega) (by decide) dL_law_1098 dL_law_1099 (Or.inl ⟨dL_law_1100, rfl⟩) dL_law_1101 dL_law_1102 ?_
  refine EL_arg C hL (j := 2) (jj := 2) (dl := 3) (by omega) (by decide) dL_law_1103 dL_law_1104 (Or.inl ⟨dL_law_1105, rfl⟩) dL_law_1106 dL_law_1107 ?_
  refine EL_X C (As := [.int (xs (7 * i + 1)), .int (xs (7 * i + 2))]) (st := []) (P := fun y => y = (r, S1)) (c_X11_get l D dA adX S (xs (7 * i + 1)) (xs (7 * i + 2)) (pO_some h1)) mf_X11_get rfl rfl gL_law_X11_get rfl (by decide) rfl (Nat.le_of_ble_eq_true rfl) dL_law_1108 (fun r1 S2 q => ?_)
  cases q
  refine EL_ref C dL_law_1111 1 rfl ?_
  refine EL_arg C hL (j := 1) (jj := 1) (dl := 3) (by omega) (by decide) dL_law_1112 dL_law_1113 (Or.inl ⟨dL_law_1114, rfl⟩) dL_law_1115 dL_law_1116 ?_
  refine EL_arg C hL (j := 2) (jj := 2) (dl := 3) (by omega) (by decide) dL_law_1117 dL_law_1118 (Or.inl ⟨dL_law_1119, rfl⟩) dL_law_1120 dL_law_1121 ?_
  refine EL_M C (As := [.int (xs (7 * i + 1)), .int (xs (7 * i + 2))]) (st := [.int r]) (P := fun y => y = (r, T1)) (c_X12_get l D dA adM T (xs (7 * i + 1)) (xs (7 * i + 2)) (pO_some h2)) mf_X12_get rfl rfl gL_law_X12_get rfl (by decide) rfl (Nat.le_of_ble_eq_true rfl) dL_law_1122 (fun r1 S2 q => ?_)
  cases q
  exact EL_eq C (tgt := 1202) rfl dL_law_1125 (by decide) (kk S1 T1 h3)
set_option maxRecDepth 100000 in
theorem law_case32 (C : LC p s m meth c b L xs D dA adX adM) (hL : L ≤ 3584) {i : Nat} (hi : 7 * i + 7 ≤ L) (hR : Rel S T) (hE : pEq1 Rel f_X11_film f_X12_film) (kk : ∀ S1 T1 : PS, Rel S1 T1 → EL p l e s m below meth c b D dA adX adM 1202 (lwL b adX adM i) [] S1 T1) : EL p l e s m below meth c b D dA adX adM 1130 (lwL b adX adM i) [] S T := by
  obtain ⟨r, S1, T1, h1, h2, h3⟩ := hE S T hR (xs (7 * i + 1))
  refine EL_ref C dL_law_1130 2 rfl ?_
  refine EL_arg C hL (j := 1) (jj := 1) (dl := 3) (by omega) (by decide) dL_law_1131 dL_law_1132 (Or.inl ⟨dL_law_1133, rfl⟩) dL_law_1134 dL_law_1135 ?_
  refine EL_X C (As := [.int (xs (7 * i + 1))]) (st := []) (P := fun y => y = (r, S1)) (c_X11_film l D dA adX S (xs (7 * i + 1)) (pO_some h1)) mf_X11_film rfl rfl gL_law_X11_film rfl (by decide) rfl (Nat.le_of_ble_eq_true rfl) dL_law_1136 (fun r1 S2 q => ?_)
  cases q
  refine EL_ref C dL_law_1139 1 rfl ?_
  refine EL_arg C hL (j := 1) (jj := 1) (dl := 3) (by omega) (by decide) dL_law_1140 dL_law_1141 (Or.inl ⟨dL_law_1142, rfl⟩) dL_law_1143 dL_law_1144 ?_
  refine EL_M C (As := [.int (xs (7 * i + 1))]) (st := [.int r]) (P := fun y => y = (r, T1)) (c_X12_film l D dA adM T (xs (7 * i + 1)) (pO_some h2)) mf_X12_film rfl rfl gL_law_X12_film rfl (by decide) rfl (Nat.le_of_ble_eq_true rfl) dL_law_1145 (fun r1 S2 q => ?_)
  cases q
  exact EL_eq C (tgt := 1202) rfl dL_law_1148 (by decide) (kk S1 T1 h3)
set_option maxRecDepth 100000 in
theorem law_case33 (C : LC p s m meth c b L xs D dA adX adM) (hL : L ≤ 3584) {i : Nat} (hi : 7 * i + 7 ≤ L) (hR : Rel S T) (hE : pEq0 Rel f_X11_image f_X12_image) (kk : ∀ S1 T1 : PS, Rel S1 T1 → EL p l e s m below meth c b D dA adX adM 1202 (lwL b adX adM i) [] S1 T1) : EL p l e s m below meth c b D dA adX adM 1153 (lwL b adX adM i) [] S T := by
  obtain ⟨r, S1, T1, h1, h2, h3⟩ := hE S T hR
  refine EL_ref C dL_law_1153 2 rfl ?_
  refine EL_X C (As := []) (st := []) (P := fun y => y = (r, S1)) (c_X11_image l D dA adX S  (pO_some h1)) mf_X11_image rfl rfl gL_law_X11_image rfl (by decide) rfl (Nat.le_of_ble_eq_true rfl) dL_law_1154 (fun r1 S2 q => ?_)
  cases q
  refine EL_ref C dL_law_1157 1 rfl ?_
  refine EL_M C (As := []) (st := [.int r]) (P := fun y => y = (r, T1)) (c_X12_image l D dA adM T  (pO_some h2)) mf_X12_image rfl rfl gL_law_X12_image rfl (by decide) rfl (Nat.le_of_ble_eq_true rfl) dL_law_1158 (fun r1 S2 q => ?_)
  cases q
  exact EL_eq C (tgt := 1202) rfl dL_law_1161 (by decide) (kk S1 T1 h3)
set_option maxRecDepth 100000 in
theorem law_case34 (C : LC p s m meth c b L xs D dA adX adM) (hL : L ≤ 3584) {i : Nat} (hi : 7 * i + 7 ≤ L) (hR : Rel S T) (hE : pEq0 Rel f_X11_undo f_X12_undo) (kk : ∀ S1 T1 : PS, Rel S1 T1 → EL p l e s m below meth c b D dA adX adM 1202 (lwL b adX adM i) [] S1 T1) : EL p l e s m below meth c b D dA adX adM 1166 (lwL b adX adM i) [] S T := by
  obtain ⟨r, S1, T1, h1, h2, h3⟩ := hE S T hR
  refine EL_ref C dL_law_1166 2 rfl ?_
  refine EL_X C (As := []) (st := []) (P := fun y => y = (r, S1)) (c_X11_undo l D dA adX S  (pO_some h1)) mf_X11_undo rfl rfl gL_law_X11_undo rfl (by decide) rfl (Nat.le_of_ble_eq_true rfl) dL_law_1167 (fun r1 S2 q => ?_)
  cases q
  refine EL_ref C dL_law_1170 1 rfl ?_
  refine EL_M C (As := []) (st := [.int r]) (P := fun y => y = (r, T1)) (c_X12_undo l D dA adM T  (pO_some h2)) mf_X12_undo rfl rfl gL_law_X12_undo rfl (by decide) rfl (Nat.le_of_ble_eq_true rfl) dL_law_1171 (fun r1 S2 q => ?_)
  cases q
  exact EL_eq C (tgt := 1202) rfl dL_law_1174 (by decide) (kk S1 T1 h3)
set_option maxRecDepth 100000 in
theorem law_case35 (C : LC p s m meth c b L xs D dA adX adM) (hL : L ≤ 3584) {i : Nat} (hi : 7 * i + 7 ≤ L) (hR : Rel S T) (hE : pEq1 Rel f_X11_count f_X12_count) (kk : ∀ S1 T1 : PS, Rel S1 T1 → EL p l e s m below meth c b D dA adX adM 1202 (lwL b adX adM i) [] S1 T1) : EL p l e s m below meth c b D dA adX adM 1179 (lwL b adX adM i) [] S T := by
  obtain ⟨r, S1, T1, h1, h2, h3⟩ := hE S T hR (xs (7 * i + 1))
  refine EL_ref C dL_law_1179 2 rfl ?_
  refine EL_arg C hL (j := 1) (jj := 1) (dl := 3) (by omega) (by decide) dL_law_1180 dL_law_1181 (Or.inl ⟨dL_law_1182, rfl⟩) dL_law_1183 dL_law_1184 ?_
  refine EL_X C (As := [.int (xs (7 * i + 1))]) (st := []) (P := fun y => y = (r, S1)) (c_X11_count l D dA adX S (xs (7 * i + 1)) (pO_some h1)) mf_X11_count rfl rfl gL_law_X11_count rfl (by decide) rfl (Nat.le_of_ble_eq_true rfl) dL_law_1185 (fun r1 S2 q => ?_)
  cases q
  refine EL_ref C dL_law_1188 1 rfl ?_
  refine EL_arg C hL (j := 1) (jj := 1) (dl := 3) (by omega) (by decide) dL_law_1189 dL_law_1190 (Or.inl ⟨dL_law_1191, rfl⟩) dL_law_1192 dL_law_1193 ?_
  refine EL_M C (As := [.int (xs (7 * i + 1))]) (st := [.int r]) (P := fun y => y = (r, T1)) (c_X12_count l D dA adM T (xs (7 * i + 1)) (pO_some h2)) mf_X12_count rfl rfl gL_law_X12_count rfl (by decide) rfl (Nat.le_of_ble_eq_true rfl) dL_law_1194 (fun r1 S2 q => ?_)
  cases q
  exact EL_eq C (tgt := 1202) rfl dL_law_1197 (by decide) (kk S1 T1 h3)
set_option maxRecDepth 100000 in
theorem law_body (C : LC p s m meth c b L xs D dA adX adM) (hL : L ≤ 3584) {i : Nat} (hi : 7 * i + 7 ≤ L) (hR : Rel S T) (hok : lw_ok Rel) (z : Int32) (kk : ∀ S1 T1 : PS, Rel S1 T1 → EL p l e s m below meth c b D dA adX adM 1202 (lwL b adX adM i) [] S1 T1) : EL p l e s m below meth c b D dA adX adM 33 (lwL b adX adM i) [.int z] S T := by
  by_cases k0 : z = (0 : Int32)
  · exact EL_tabIn C (off := 159) (tgt := 192) dL_law_33 (by rw [k0]; decide) (by rw [k0]; decide) (by rw [k0]; rfl) (by decide) (law_case0 C hL hi hR (hok.1) kk)
  by_cases k1 : z = (1 : Int32)
  · exact EL_tabIn C (off := 182) (tgt := 215) dL_law_33 (by rw [k1]; decide) (by rw [k1]; decide) (by rw [k1]; rfl) (by decide) (law_case1 C hL hi hR (hok.2.1) kk)
  by_cases k2 : z = (2 : Int32)
  · exact EL_tabIn C (off := 225) (tgt := 258) dL_law_33 (by rw [k2]; decide) (by rw [k2]; decide) (by rw [k2]; rfl) (by decide) (law_case2 C hL hi hR (hok.2.2.1) kk)
  by_cases k3 : z = (3 : Int32)
  · exact EL_tabIn C (off := 258) (tgt := 291) dL_law_33 (by rw [k3]; decide) (by rw [k3]; decide) (by rw [k3]; rfl) (by decide) (law_case3 C hL hi hR (hok.2.2.2.1) kk)
  by_cases k4 : z = (4 : Int32)
  · exact EL_tabIn C (off := 333) (tgt := 366) dL_law_33 (by rw [k4]; decide) (by rw [k4]; decide) (by rw [k4]; rfl) (by decide) (law_case4 C hL hi hR (hok.2.2.2.2.1) kk)
  by_cases k5 : z = (5 : Int32)
  · exact EL_tabIn C (off := 356) (tgt := 389) dL_law_33 (by rw [k5]; decide) (by rw [k5]; decide) (by rw [k5]; rfl) (by decide) (law_case5 C hL hi hR (hok.2.2.2.2.2.1) kk)
  by_cases k6 : z = (6 : Int32)
  · exact EL_tabIn C (off := 399) (tgt := 432) dL_law_33 (by rw [k6]; decide) (by rw [k6]; decide) (by rw [k6]; rfl) (by decide) (law_case6 C hL hi hR (hok.2.2.2.2.2.2.1) kk)
  by_cases k7 : z = (7 : Int32)
  · exact EL_tabIn C (off := 432) (tgt := 465) dL_law_33 (by rw [k7]; decide) (by rw [k7]; decide) (by rw [k7]; rfl) (by decide) (law_case7 C hL hi hR (hok.2.2.2.2.2.2.2.1) kk)
  by_cases k8 : z = (8 : Int32)
  · exact EL_tabIn C (off := 465) (tgt := 498) dL_law_33 (by rw [k8]; decide) (by rw [k8]; decide) (by rw [k8]; rfl) (by decide) (law_case8 C hL hi hR (hok.2.2.2.2.2.2.2.2.1) kk)
  by_cases k9 : z = (9 : Int32)
  · exact EL_tabIn C (off := 518) (tgt := 551) dL_law_33 (by rw [k9]; decide) (by rw [k9]; decide) (by rw [k9]; rfl) (by decide) (law_case9 C hL hi hR (hok.2.2.2.2.2.2.2.2.2.1) kk)
  by_cases k10 : z = (10 : Int32)
  · exact EL_tabIn C (off := 551) (tgt := 584) dL_law_33 (by rw [k10]; decide) (by rw [k10]; decide) (by rw [k10]; rfl) (by decide) (law_case10 C hL hi hR (hok.2.2.2.2.2.2.2.2.2.2.1) kk)
  by_cases k11 : z = (11 : Int32)
  · exact EL_tabIn C (off := 574) (tgt := 607) dL_law_33 (by rw [k11]; decide) (by rw [k11]; decide) (by rw [k11]; rfl) (by decide) (law_case11 C hL hi hR (hok.2.2.2.2.2.2.2.2.2.2.2.1) kk)
  by_cases k12 : z = (12 : Int32)
  · exact EL_tabIn C (off := 607) (tgt := 640) dL_law_33 (by rw [k12]; decide) (by rw [k12]; decide) (by rw [k12]; rfl) (by decide) (law_case12 C hL hi hR (hok.2.2.2.2.2.2.2.2.2.2.2.2.1) kk)
  by_cases k13 : z = (13 : Int32)
  · exact EL_tabIn C (off := 620) (tgt := 653) dL_law_33 (by rw [k13]; decide) (by rw [k13]; decide) (by rw [k13]; rfl) (by decide) (law_case13 C hL hi hR (hok.2.2.2.2.2.2.2.2.2.2.2.2.2.1) kk)
  by_cases k14 : z = (14 : Int32)
  · exact EL_tabIn C (off := 643) (tgt := 676) dL_law_33 (by rw [k14]; decide) (by rw [k14]; decide) (by rw [k14]; rfl) (by decide) (law_case14 C hL hi hR (hok.2.2.2.2.2.2.2.2.2.2.2.2.2.2.1) kk)
  by_cases k15 : z = (15 : Int32)
  · exact EL_tabIn C (off := 666) (tgt := 699) dL_law_33 (by rw [k15]; decide) (by rw [k15]; decide) (by rw [k15]; rfl) (by decide) (law_case15 C hL hi hR (hok.2.2.2.2.2.2.2.2.2.2.2.2.2.2.2.1) kk)
  by_cases k16 : z = (16 : Int32)
  · exact EL_tabIn C (off := 689) (tgt := 722) dL_law_33 (by rw [k16]; decide) (by rw [k16]; decide) (by rw [k16]; rfl) (by decide) (law_case16 C hL hi hR (hok.2.2.2.2.2.2.2.2.2.2.2.2.2.2.2.2.1) kk)
  by_cases k17 : z = (17 : Int32)
  · exact EL_tabIn C (off := 702) (tgt := 735) dL_law_33 (by rw [k17]; decide) (by rw [k17]; decide) (by rw [k17]; rfl) (by decide) (law_case17 C hL hi hR (hok.2.2.2.2.2.2.2.2.2.2.2.2.2.2.2.2.2.1) kk)
  by_cases k18 : z = (18 : Int32)
  · exact EL_tabIn C (off := 725) (tgt := 758) dL_law_33 (by rw [k18]; decide) (by rw [k18]; decide) (by rw [k18]; rfl) (by decide) (law_case18 C hL hi hR (hok.2.2.2.2.2.2.2.2.2.2.2.2.2.2.2.2.2.2.1) kk)
  by_cases k19 : z = (19 : Int32)
  · exact EL_tabIn C (off := 748) (tgt := 781) dL_law_33 (by rw [k19]; decide) (by rw [k19]; decide) (by rw [k19]; rfl) (by decide) (law_case19 C hL hi hR (hok.2.2.2.2.2.2.2.2.2.2.2.2.2.2.2.2.2.2.2.1) kk)
  by_cases k20 : z = (20 : Int32)
  · exact EL_tabIn C (off := 771) (tgt := 804) dL_law_33 (by rw [k20]; decide) (by rw [k20]; decide) (by rw [k20]; rfl) (by decide) (law_case20 C hL hi hR (hok.2.2.2.2.2.2.2.2.2.2.2.2.2.2.2.2.2.2.2.2.1) kk)
  by_cases k21 : z = (21 : Int32)
  · exact EL_tabIn C (off := 804) (tgt := 837) dL_law_33 (by rw [k21]; decide) (by rw [k21]; decide) (by rw [k21]; rfl) (by decide) (law_case21 C hL hi hR (hok.2.2.2.2.2.2.2.2.2.2.2.2.2.2.2.2.2.2.2.2.2.1) kk)
  by_cases k22 : z = (22 : Int32)
  · exact EL_tabIn C (off := 827) (tgt := 860) dL_law_33 (by rw [k22]; decide) (by rw [k22]; decide) (by rw [k22]; rfl) (by decide) (law_case22 C hL hi hR (hok.2.2.2.2.2.2.2.2.2.2.2.2.2.2.2.2.2.2.2.2.2.2.1) kk)
  by_cases k23 : z = (23 : Int32)
  · exact EL_tabIn C (off := 840) (tgt := 873) dL_law_33 (by rw [k23]; decide) (by rw [k23]; decide) (by rw [k23]; rfl) (by decide) (law_case23 C hL hi hR (hok.2.2.2.2.2.2.2.2.2.2.2.2.2.2.2.2.2.2.2.2.2.2.2.1) kk)
  by_cases k24 : z = (24 : Int32)
  · exact EL_tabIn C (off := 863) (tgt := 896) dL_law_33 (by rw [k24]; decide) (by rw [k24]; decide) (by rw [k24]; rfl) (by decide) (law_case24 C hL hi hR (hok.2.2.2.2.2.2.2.2.2.2.2.2.2.2.2.2.2.2.2.2.2.2.2.2.1) kk)
  by_cases k25 : z = (25 : Int32)
  · exact EL_tabIn C (off := 916) (tgt := 949) dL_law_33 (by rw [k25]; decide) (by rw [k25]; decide) (by rw [k25]; rfl) (by decide) (law_case25 C hL hi hR (hok.2.2.2.2.2.2.2.2.2.2.2.2.2.2.2.2.2.2.2.2.2.2.2.2.2.1) kk)
  by_cases k26 : z = (26 : Int32)
  · exact EL_tabIn C (off := 939) (tgt := 972) dL_law_33 (by rw [k26]; decide) (by rw [k26]; decide) (by rw [k26]; rfl) (by decide) (law_case26 C hL hi hR (hok.2.2.2.2.2.2.2.2.2.2.2.2.2.2.2.2.2.2.2.2.2.2.2.2.2.2.1) kk)
  by_cases k27 : z = (27 : Int32)
  · exact EL_tabIn C (off := 962) (tgt := 995) dL_law_33 (by rw [k27]; decide) (by rw [k27]; decide) (by rw [k27]; rfl) (by decide) (law_case27 C hL hi hR (hok.2.2.2.2.2.2.2.2.2.2.2.2.2.2.2.2.2.2.2.2.2.2.2.2.2.2.2.1) kk)
  by_cases k28 : z = (28 : Int32)
  · exact EL_tabIn C (off := 975) (tgt := 1008) dL_law_33 (by rw [k28]; decide) (by rw [k28]; decide) (by rw [k28]; rfl) (by decide) (law_case28 C hL hi hR (hok.2.2.2.2.2.2.2.2.2.2.2.2.2.2.2.2.2.2.2.2.2.2.2.2.2.2.2.2.1) kk)
  by_cases k29 : z = (29 : Int32)
  · exact EL_tabIn C (off := 988) (tgt := 1021) dL_law_33 (by rw [k29]; decide) (by rw [k29]; decide) (by rw [k29]; rfl) (by decide) (law_case29 C hL hi hR (hok.2.2.2.2.2.2.2.2.2.2.2.2.2.2.2.2.2.2.2.2.2.2.2.2.2.2.2.2.2.1) kk)
  by_cases k30 : z = (30 : Int32)
  · exact EL_tabIn C (off := 1021) (tgt := 1054) dL_law_33 (by rw [k30]; decide) (by rw [k30]; decide) (by rw [k30]; rfl) (by decide) (law_case30 C hL hi hR (hok.2.2.2.2.2.2.2.2.2.2.2.2.2.2.2.2.2.2.2.2.2.2.2.2.2.2.2.2.2.2.1) kk)
  by_cases k31 : z = (31 : Int32)
  · exact EL_tabIn C (off := 1064) (tgt := 1097) dL_law_33 (by rw [k31]; decide) (by rw [k31]; decide) (by rw [k31]; rfl) (by decide) (law_case31 C hL hi hR (hok.2.2.2.2.2.2.2.2.2.2.2.2.2.2.2.2.2.2.2.2.2.2.2.2.2.2.2.2.2.2.2.1) kk)
  by_cases k32 : z = (32 : Int32)
  · exact EL_tabIn C (off := 1097) (tgt := 1130) dL_law_33 (by rw [k32]; decide) (by rw [k32]; decide) (by rw [k32]; rfl) (by decide) (law_case32 C hL hi hR (hok.2.2.2.2.2.2.2.2.2.2.2.2.2.2.2.2.2.2.2.2.2.2.2.2.2.2.2.2.2.2.2.2.1) kk)
  by_cases k33 : z = (33 : Int32)
  · exact EL_tabIn C (off := 1120) (tgt := 1153) dL_law_33 (by rw [k33]; decide) (by rw [k33]; decide) (by rw [k33]; rfl) (by decide) (law_case33 C hL hi hR (hok.2.2.2.2.2.2.2.2.2.2.2.2.2.2.2.2.2.2.2.2.2.2.2.2.2.2.2.2.2.2.2.2.2.1) kk)
  by_cases k34 : z = (34 : Int32)
  · exact EL_tabIn C (off := 1133) (tgt := 1166) dL_law_33 (by rw [k34]; decide) (by rw [k34]; decide) (by rw [k34]; rfl) (by decide) (law_case34 C hL hi hR (hok.2.2.2.2.2.2.2.2.2.2.2.2.2.2.2.2.2.2.2.2.2.2.2.2.2.2.2.2.2.2.2.2.2.2.1) kk)
  by_cases k35 : z = (35 : Int32)
  · exact EL_tabIn C (off := 1146) (tgt := 1179) dL_law_33 (by rw [k35]; decide) (by rw [k35]; decide) (by rw [k35]; rfl) (by decide) (law_case35 C hL hi hR (hok.2.2.2.2.2.2.2.2.2.2.2.2.2.2.2.2.2.2.2.2.2.2.2.2.2.2.2.2.2.2.2.2.2.2.2) kk)
  exact EL_tabOut C (tgt := 1202) dL_law_33 (by have z0 := pti k0 (by decide : (0 : Int32).toInt = 0); have z1 := pti k1 (by decide : (1 : Int32).toInt = 1); have z2 := pti k2 (by decide : (2 : Int32).toInt = 2); have z3 := pti k3 (by decide : (3 : Int32).toInt = 3); have z4 := pti k4 (by decide : (4 : Int32).toInt = 4); have z5 := pti k5 (by decide : (5 : Int32).toInt = 5); have z6 := pti k6 (by decide : (6 : Int32).toInt = 6); have z7 := pti k7 (by decide : (7 : Int32).toInt = 7); have z8 := pti k8 (by decide : (8 : Int32).toInt = 8); have z9 := pti k9 (by decide : (9 : Int32).toInt = 9); have z10 := pti k10 (by decide : (10 : Int32).toInt = 10); have z11 := pti k11 (by decide : (11 : Int32).toInt = 11); have z12 := pti k12 (by decide : (12 : Int32).toInt = 12); have z13 := pti k13 (by decide : (13 : Int32).toInt = 13); have z14 := pti k14 (by decide : (14 : Int32).toInt = 14); have z15 := pti k15 (by decide : (15 : Int32).toInt = 15); have z16 := pti k16 (by decide : (16 : Int32).toInt = 16); have z17 := pti k17 (by decide : (17 : Int32).toInt = 17); have z18 := pti k18 (by decide : (18 : Int32).toInt = 18); have z19 := pti k19 (by decide : (19 : Int32).toInt = 19); have z20 := pti k20 (by decide : (20 : Int32).toInt = 20); have z21 := pti k21 (by decide : (21 : Int32).toInt = 21); have z22 := pti k22 (by decide : (22 : Int32).toInt = 22); have z23 := pti k23 (by decide : (23 : Int32).toInt = 23); have z24 := pti k24 (by decide : (24 : Int32).toInt = 24); have z25 := pti k25 (by decide : (25 : Int32).toInt = 25); have z26 := pti k26 (by decide : (26 : Int32).toInt = 26); have z27 := pti k27 (by decide : (27 : Int32).toInt = 27); have z28 := pti k28 (by decide : (28 : Int32).toInt = 28); have z29 := pti k29 (by decide : (29 : Int32).toInt = 29); have z30 := pti k30 (by decide : (30 : Int32).toInt = 30); have z31 := pti k31 (by decide : (31 : Int32).toInt = 31); have z32 := pti k32 (by decide : (32 : Int32).toInt = 32); have z33 := pti k33 (by decide : (33 : Int32).toInt = 33); have z34 := pti k34 (by decide : (34 : Int32).toInt = 34); have z35 := pti k35 (by decide : (35 : Int32).toInt = 35); omega) (by decide) (kk S T hR)
/-- the law's loop -/
theorem law_loop (C : LC p s m meth c b L xs D dA adX adM) (hL : L ≤ 3584) (hok : lw_ok Rel) : ∀ (n i : Nat) (S T : PS), L + 7 ≤ 7 * i + 7 * n → 7 * i ≤ L + 7 → Rel S T → EL p l e s m below meth c b D dA adX adM 18 (lwL b adX adM i) [] S T := by
  intro n
  induction n with
  | zero =>
    intro i S T h1 h2 hR H locs lsA hW hl
    obtain ⟨⟨hx, hb, hr, hml, hown, hts0, hSX, hbl, hlocks, hgv⟩, hK, hLD, hXX, hXM⟩ := C
    have hbA : ¬ (fun q : Nat => s.heap.size ≤ q) b := Nat.not_le.mpr hbl
    refine lv_iload_n hx hb dL_law_18 rfl (lv_at hl 0 rfl) ?_
    refine lv_aload_n hx hb dL_law_19 rfl (lv_at hl 3 rfl) ?_
    refine va_slen hx hb hSX hbl hbA hW.2.2 dL_law_20 ?_
    refine lv_bipush (v := 7) hx hb dL_law_21 (by decide) ?_
    refine lv_isub hx hb dL_law_23 ?_
    refine lv_icmp_gt (tgt := 1208) hx hb dL_law_24 (by decide) (fun _ => ?_) (fun q => absurd (pgt hL (by omega) (by omega)) q)
    refine lv_iconst (v := 1) hx hb dL_law_1208 (by decide) ?_
    refine va_forget (fun q hq => hW.2.2.2.2 q hq) ?_
    exact lw_ret hx hb hr hlocks dL_law_1209
  | succ n ih =>
    intro i S T h1 h2 hR H locs lsA hW hl
    have C0 := C
    obtain ⟨⟨hx, hb, hr, hml, hown, hts0, hSX, hbl, hlocks, hgv⟩, hK, hLD, hXX, hXM⟩ := C
    have hbA : ¬ (fun q : Nat => s.heap.size ≤ q) b := Nat.not_le.mpr hbl
    refine lv_iload_n hx hb dL_law_18 rfl (lv_at hl 0 rfl) ?_
    refine lv_aload_n hx hb dL_law_19 rfl (lv_at hl 3 rfl) ?_
    refine va_slen hx hb hSX hbl hbA hW.2.2 dL_law_20 ?_
    refine lv_bipush (v := 7) hx hb dL_law_21 (by decide) ?_
    refine lv_isub hx hb dL_law_23 ?_
    refine lv_icmp_gt (tgt := 1208) hx hb dL_law_24 (by decide) (fun _ => ?_) (fun q => ?_)
    · refine lv_iconst (v := 1) hx hb dL_law_1208 (by decide) ?_
      refine va_forget (fun q hq => hW.2.2.2.2 q hq) ?_
      exact lw_ret hx hb hr hlocks dL_law_1209
    · have hi : 7 * i + 7 ≤ L := by
        rcases Nat.lt_or_ge L (7 * i + 7) with g | g
        · exact absurd (pgt hL g h2) q
        · exact g
      refine lv_aload_n hx hb dL_law_27 rfl (lv_at hl 3 rfl) ?_
      refine lv_iload_n hx hb dL_law_28 rfl (lv_at hl 0 rfl) ?_
      refine va_sld hx hb hSX hbl hbA hW.2.2 (vp_in_nI (show 7 * i < L by omega) (by omega)) dL_law_29 ?_
      refine lv_bipush (v := 63) hx hb dL_law_30 (by decide) ?_
      refine lv_iand hx hb dL_law_32 ?_
      refine law_body C0 hL hi hR hok _ (fun S1 T1 h3 => ?_) H locs lsA hW hl
      intro H locs lsA hW hl
      refine lv_iinc (v := nI (7 * (i + 1))) (lv' := lwL b adX adM (i + 1)) hx hb dL_law_1202 hl (k := 0) rfl (by show nI (7 * i) + 7 = _; exact nI_add (7 * i) 7) (by decide) rfl (fun ls hl => ?_)
      refine lv_goto (tgt := 18) hx hb dL_law_1205 (by decide) ?_
      exact ih (i + 1) S1 T1 (by omega) (by omega) h3 H locs ls hW hl
end LAWC
