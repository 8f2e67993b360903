/-! ===== BEGIN words of one list among another's, by their places ===== -/
theorem goodIn_r {big : List Cond} (ws : List Cond) (ps : List Nat) (hp : ws = ps.filterMap (fun i => big[i]?)) (h : ws.all goodWord = true) : GoodIn big ws := by
  intro w hw
  have h1 := List.all_eq_true.mp h w hw
  rw [hp] at hw
  obtain ⟨i, -, hi⟩ := List.mem_filterMap.mp hw
  have hm : w ∈ big := by first | exact List.mem_of_getElem? hi | exact List.getElem?_mem hi
  exact ⟨hm, good_of_word h1⟩
theorem goodIn_app {big a b : List Cond} (ha : GoodIn big a) (hb : GoodIn big b) : GoodIn big (a ++ b) := fun w h => (List.mem_append.mp h).elim (ha w) (hb w)
theorem goodIn_ca {big a b : List Cond} {c : Cond} (ha : GoodIn big (c :: a)) (hb : GoodIn big b) : GoodIn big (c :: (a ++ b)) := fun w h => (List.mem_cons.mp h).elim (fun e => ha w (List.mem_cons.mpr (Or.inl e))) (fun h => (List.mem_append.mp h).elim (fun h => ha w (List.mem_cons.mpr (Or.inr h))) (hb w))
theorem goodIn_sub {big ws : List Cond} (hm : ∀ w ∈ ws, w ∈ big) (h : ws.all goodWord = true) : GoodIn big ws := fun w hw => ⟨hm w hw, good_of_word (List.all_eq_true.mp h w hw)⟩
/-! ===== END ===== -/

/-! ===== BEGIN new T[n][m]: the outer array a place, the inner ones among the pooled ===== -/
/-- f, but v at every address of l -/
def vr_up {α : Type} (f : Nat → α) (l : List Nat) (v : α) : Nat → α := fun a => if a ∈ l then v else f a
theorem vr_up_in {α : Type} {f : Nat → α} {l : List Nat} {v : α} {a : Nat} (h : a ∈ l) : vr_up f l v a = v := if_pos h
theorem vr_up_ne {α : Type} {f : Nat → α} {l : List Nat} {v : α} {a : Nat} (h : a ∉ l) : vr_up f l v a = f a := if_neg h
theorem vr_rows {L l : List Nat} {f : Nat → va_E} {e : va_E} (h : ∀ a, a ∈ l → a ∉ L) : va_pl L f ++ l.map (fun a => (a, e)) = va_pl (L ++ l) (vr_up f l e) := by
  unfold va_pl
  rw [List.map_append]
  congr 1
  · apply List.map_congr_left
    intro a ha
    rw [vr_up_ne (fun q => h a q ha)]
  · apply List.map_congr_left
    intro a ha
    rw [vr_up_in ha]
theorem vr_lay {X rows : va_W} {x : Nat × va_E} {pl : va_W} {D : va_G} {cl : List vw_C} {H : Heap} (hP : va_P D cl (((X ++ pl) ++ [x]) ++ rows) H) : va_P D cl ((X ++ [x]) ++ (pl ++ rows)) H := by
  rw [List.append_assoc (X ++ pl)] at hP
  have h := va_P.swap hP
  rw [← List.append_assoc X] at h
  have h2 := va_P.swap h
  rw [List.append_assoc (X ++ [x])] at h2
  exact h2
theorem vr_layD {X rows : va_W} {x : Nat × va_E} {pl : va_W} {A : Nat → Prop} (hD : va_D A (((X ++ pl) ++ [x]) ++ rows)) : va_D A ((X ++ [x]) ++ (pl ++ rows)) := by
  rw [List.append_assoc (X ++ pl)] at hD
  have h := va_D.swap hD
  rw [← List.append_assoc X] at h
  have h2 := va_D.swap h
  rw [List.append_assoc (X ++ [x])] at h2
  exact h2
theorem vr_outer (c : ClassId) (N h0 : Nat) : ∀ i : Nat, Jvm.Free.Multi.outerC c N h0 i = arrV c N (fun j => va_rf (if j < i then some (h0 + 1 + j) else none))
  | 0 => by
    show ({ cls := c, slots := Array.replicate N .null, vm := .none } : Cell) = _
    rw [arrV_new]
    refine congrArg (arrV c N) (funext fun j => ?_)
    simp [va_rf]
  | i + 1 => by
    show (Jvm.Free.Multi.outerC c N h0 i).setSlot i (.ref (h0 + 1 + i)) = _
    rw [vr_outer c N h0 i, arrV_store]
    refine congrArg (arrV c N) (funext fun j => ?_)
    by_cases e : j = i
    · subst e
      simp [updV, va_rf]
    · by_cases h : j < i
      · simp [updV, e, h, Nat.lt_succ_of_lt h]
      · simp [updV, e, h, show ¬ j < i + 1 by omega]
section VGM
variable {p : Program} {l : Launch} {e : Env} {R : Room} {s : State} {m : MethodId} {args : Array Value} {below : List Frame} {meth : Method} {c : Code} {H : Heap} {locs : List Loc} {cells slots : Nat} {Q : State → Prop}
variable {cc : ByteArray} {pc : Nat} {ls : Array Slot} {rest : List Value} {D : va_G} {cl : List vw_C} {A : Nat → Prop} {a : Nat} {tys : List (ClassId × FieldType)} {ws : va_W} {H0 : Heap}
theorem va_mna {X : va_W} {L : List Nat} {f : Nat → va_E} {cc : ByteArray} (hexec : p.tables.exec = Jvm.exec) (hb : c.code = cc) {own : String} {index : Nat} {ty : FieldType} {cy : ClassId} (hown : s.vm.findClass own = some m.cls) (hclink : (Cond.classLink own index ("[" ++ (FieldType.array ty).toString)).before args s = true) (hover : va_AOA ty s) (harr : (Cond.arrayClass ty).before args s = true) (hcy : s.vm.findClass (FieldType.array ty).toString = some cy)
    (hK : va_K D cl tys s) (hP : va_P D cl (X ++ va_pl L f) H) (hD : va_D A (X ++ va_pl L f)) (hS : va_S A H0 H locs) (hA : ∀ q, H0.size ≤ q → A q) {n k : Int32} {N' K' : Nat} {z : vp_A} (hn : ¬ n < 0) (hk : ¬ k < 0) (hN : n.toNatClampNeg = N') (hM : k.toNatClampNeg = K')
    (hb1 : N' * 4 ≤ 536870912) (hb2 : K' * componentBytes ty ≤ 536870912) (hb3 : K' ≤ 536870912) (hdf : fits ty (defaultValue ty) = true) (hdd : (defaultValue ty).isDefault = true) (hcells : cells + (1 + N') ≤ R.cells) (hslots : slots + (N' + N' * K') ≤ R.slots) (hz : ∀ c : ClassId, Jvm.Free.Multi.innerC c K' (defaultValue ty) = vp_cell c z) (hdg : decode cc pc = .ok (.multianewarray index 2, 4))
    (kk : ∀ (q : Nat) (r : Nat → Nat) (cA : ClassId) (H1 : Heap), (∀ i j : Nat, i < N' → j < N' → r i = r j → i = j) → (∀ i : Nat, i < N' → r i ∉ L) → va_K D cl (tys ++ [(cA, .array ty)]) s →
      va_P D cl ((X ++ [(q, .inl (cA, N', .inr (.inr (.inr (.inr (fun i => if i < N' then some (r i) else none))))))]) ++ va_pl (L ++ (List.range N').map r) (vr_up f ((List.range N').map r) (.inl (cy, z)))) H1 → va_D A ((X ++ [(q, .inl (cA, N', .inr (.inr (.inr (.inr (fun i => if i < N' then some (r i) else none))))))]) ++ va_pl (L ++ (List.range N').map r) (vr_up f ((List.range N').map r) (.inl (cy, z)))) → va_S A H0 H1 locs →
      W p l e R s m args below meth c H1 locs (cells + 1 + N') (slots + N' + N' * K') Q (F0 m (pc + 4) ls (.ref q :: rest))) : W p l e R s m args below meth c H locs cells slots Q (F0 m pc ls (.int k :: .int n :: rest)) := by
  subst hN
  subst hM
  intro T hT Xs
  obtain ⟨vm₁, cA, comp, -, fA, fC, hO, -, X', step⟩ := Xs.multianewarray2F hexec hown hclink (va_AOA.use hover) harr (g := F0 m pc ls (.int k :: .int n :: rest)) rfl (by rw [hb]; exact hdg) rfl hn hk hb1 hb2 hb3 hdf hdd hcells hslots
  have ec : some cy = some comp := hcy.symm.trans fC
  cases ec
  generalize hF : Jvm.Free.Multi.fill (T.setVm vm₁) cA cy n.toNatClampNeg k.toNatClampNeg (defaultValue ty) n.toNatClampNeg = F at X' step
  have hTh : (T.setVm vm₁).heap = H := hT
  obtain ⟨f1, f2, -, -⟩ := Jvm.Free.Multi.fill_facts (T.setVm vm₁) cA cy n.toNatClampNeg k.toNatClampNeg (defaultValue ty) n.toNatClampNeg
  rw [hF, hTh] at f1 f2
  have hold : ∀ x : Nat, x < H.size → F.heap[x]? = H[x]? := fun x hx => by
    have := Jvm.Free.Multi.fill_old (T.setVm vm₁) cA cy n.toNatClampNeg k.toNatClampNeg (defaultValue ty) (a := x) (by rw [hTh]; exact hx) n.toNatClampNeg
    rw [hF, hTh] at this
    exact this
  have hrow : ∀ j : Nat, j < n.toNatClampNeg → F.heap[H.size + 1 + j]? = some (vp_cell cy z) := fun j hj => by
    have := Jvm.Free.Multi.fill_inner (T.setVm vm₁) cA cy n.toNatClampNeg k.toNatClampNeg (defaultValue ty) n.toNatClampNeg j hj
    rw [hF, hTh, hz] at this
    exact this
  have hout : Jvm.Free.Multi.outerC cA n.toNatClampNeg H.size n.toNatClampNeg = vp_cell cA (n.toNatClampNeg, .inr (.inr (.inr (.inr (fun i => if i < n.toNatClampNeg then some (H.size + 1 + i) else none))))) := by
    rw [vp_cell_q]
    exact vr_outer cA n.toNatClampNeg H.size n.toNatClampNeg
  rw [hout] at f2
  have hlt : ∀ a, a ∈ L → a < H.size := fun a ha => by
    obtain ⟨k9, hk9⟩ := va_pl_get (X := X) (f := f) ha
    exact (hP k9 _ hk9).lt
  have hnl : ∀ i : Nat, i < n.toNatClampNeg → H.size + 1 + i ∉ L := fun i _ h => by
    have := hlt _ h
    omega
  have hnm : ∀ a, a ∈ (List.range n.toNatClampNeg).map (fun i => H.size + 1 + i) → a ∉ L := fun a ha h => by
    obtain ⟨i, -, rfl⟩ := List.mem_map.mp ha
    have := hlt _ h
    omega
  have hP0 : va_P D cl (X ++ va_pl L f) F.heap := hP.kept (fun k9 x hx => hold x.1 ((hP k9 x hx).lt))
  have hP1 : va_P D cl ((X ++ va_pl L f) ++ [(H.size, .inl (cA, n.toNatClampNeg, .inr (.inr (.inr (.inr (fun i => if i < n.toNatClampNeg then some (H.size + 1 + i) else none))))))]) F.heap := hP0.app (fun k9 x hx => by
    have h0 : k9 < 1 := (List.getElem?_eq_some_iff.mp hx).1
    rw [show k9 = 0 by omega] at hx
    cases hx
    exact f2)
  have hP2 : va_P D cl (((X ++ va_pl L f) ++ [(H.size, .inl (cA, n.toNatClampNeg, .inr (.inr (.inr (.inr (fun i => if i < n.toNatClampNeg then some (H.size + 1 + i) else none))))))]) ++ ((List.range n.toNatClampNeg).map (fun i => H.size + 1 + i)).map (fun a => (a, .inl (cy, z)))) F.heap := hP1.app (fun k9 x hx => by
    obtain ⟨a, ha, rfl⟩ := List.mem_map.mp (List.mem_of_getElem? hx)
    obtain ⟨i, hi, rfl⟩ := List.mem_map.mp ha
    exact hrow i (List.mem_range.mp hi))
  have hD2 : va_D A (((X ++ va_pl L f) ++ [(H.size, .inl (cA, n.toNatClampNeg, .inr (.inr (.inr (.inr (fun i => if i < n.toNatClampNeg then some (H.size + 1 + i) else none))))))]) ++ ((List.range n.toNatClampNeg).map (fun i => H.size + 1 + i)).map (fun a => (a, .inl (cy, z)))) := by
    have hD1 := hD.push (e := .inl (cA, n.toNatClampNeg, .inr (.inr (.inr (.inr (fun i => if i < n.toNatClampNeg then some (H.size + 1 + i) else none)))))) hP rfl (hA _ hS.1)
    generalize hW1 : (X ++ va_pl L f) ++ [(H.size, .inl (cA, n.toNatClampNeg, .inr (.inr (.inr (.inr (fun i => if i < n.toNatClampNeg then some (H.size + 1 + i) else none))))))] = W1 at hD1 hP1 ⊢
    have hle : ∀ (k9 : Nat) (x : Nat × va_E), W1[k9]? = some x → x.1 ≤ H.size := fun k9 x hx => by
      rw [← hW1] at hx
      by_cases hl : k9 < (X ++ va_pl L f).length
      · rw [List.getElem?_append_left hl] at hx
        exact Nat.le_of_lt ((hP k9 x hx).lt)
      · rw [List.getElem?_append_right (by omega)] at hx
        have h0 : k9 - (X ++ va_pl L f).length < 1 := (List.getElem?_eq_some_iff.mp hx).1
        rw [show k9 - (X ++ va_pl L f).length = 0 by omega] at hx
        cases hx
        exact Nat.le_refl _
    have hr : ∀ (k9 : Nat) (x : Nat × va_E), (((List.range n.toNatClampNeg).map (fun i => H.size + 1 + i)).map (fun a => ((a, .inl (cy, z)) : Nat × va_E)))[k9]? = some x → x.1 = H.size + 1 + k9 := fun k9 x hx => by
      rw [List.getElem?_map, List.getElem?_map] at hx
      by_cases h9 : k9 < n.toNatClampNeg
      · rw [List.getElem?_range h9] at hx
        cases hx
        rfl
      · have hn0 : (List.range n.toNatClampNeg)[k9]? = none := List.getElem?_eq_none (by rw [List.length_range]; omega)
        rw [hn0] at hx
        cases hx
    refine ⟨fun i j x y hi hj hxy => ?_, fun k9 x hx => ?_⟩
    · by_cases h1 : i < W1.length <;> by_cases h2 : j < W1.length
      · rw [List.getElem?_append_left h1] at hi
        rw [List.getElem?_append_left h2] at hj
        exact hD1.1 i j x y hi hj hxy
      · rw [List.getElem?_append_left h1] at hi
        rw [List.getElem?_append_right (by omega)] at hj
        have := hle _ _ hi
        have := hr _ _ hj
        omega
      · rw [List.getElem?_append_right (by omega)] at hi
        rw [List.getElem?_append_left h2] at hj
        have := hle _ _ hj
        have := hr _ _ hi
        omega
      · rw [List.getElem?_append_right (by omega)] at hi hj
        have := hr _ _ hi
        have := hr _ _ hj
        omega
    · by_cases h1 : k9 < W1.length
      · rw [List.getElem?_append_left h1] at hx
        exact hD1.2 k9 x hx
      · rw [List.getElem?_append_right (by omega)] at hx
        have := hr _ _ hx
        exact hA _ (by have := hS.1; omega)
  have hAr : ArrOfT s cA (.array ty) := fun N9 z9 => by
    obtain ⟨-, k9, hk9, cm9, hkk9⟩ := (hO 0 0 0).1
    exact ⟨(fun q hq => by cases hq), k9, hk9, cm9, hkk9⟩
  have hK2 : va_K D cl (tys ++ [(cA, .array ty)]) s := ⟨hK.1, fun k9 x hx => by
    by_cases hl : k9 < tys.length
    · rw [List.getElem?_append_left hl] at hx
      exact hK.2 k9 x hx
    · rw [List.getElem?_append_right (by omega)] at hx
      have h0 : k9 - tys.length < 1 := (List.getElem?_eq_some_iff.mp hx).1
      rw [show k9 - tys.length = 0 by omega] at hx
      cases hx
      exact ⟨hAr, fA⟩⟩
  obtain ⟨t, a1, b1⟩ := kk H.size (fun i => H.size + 1 + i) cA F.heap (fun i j _ _ h => by have h9 : H.size + 1 + i = H.size + 1 + j := h; omega) hnl hK2 (by rw [← vr_rows hnm]; exact vr_lay hP2) (by rw [← vr_rows hnm]; exact vr_layD hD2) ⟨by rw [f1]; have := hS.1; omega, fun x h1 h2 => (hold x (Nat.lt_of_lt_of_le h1 hS.1)).trans (hS.2.1 x h1 h2), hS.2.2⟩ F rfl X'
  refine ⟨t, step t ?_, b1⟩
  have e : T.heap.size = H.size := by rw [hT]
  rw [e]
  exact a1
end VGM
/-! ===== END ===== -/

/-! ===== BEGIN printed: names, fields, word lists, decode rows ===== -/
def RX0 : String := "BoatTrim$Boat"
def TX0 : u_T := fun k => match k with
  | 0 => ("BoatTrim$Boat", "hull", "LBoatTrim$Hull;", true)
  | 1 => ("BoatTrim$Boat", "cargo", "LBoatTrim$Cargo;", true)
  | _ => ("BoatTrim$Boat", "tanks", "LBoatTrim$Tanks;", true)
def tyX0 : Nat → FieldType := fun k => match k with
  | 0 => .object "BoatTrim$Hull"
  | 1 => .object "BoatTrim$Cargo"
  | _ => .object "BoatTrim$Tanks"
abbrev wsX00 : List Cond := u_ws RX0 TX0 3
theorem nmX0 : ∀ a, a < 3 → ∀ b, b < 3 → a ≠ b → (TX0 a).2.1 ≠ (TX0 b).2.1 := by decide +kernel
theorem tyX0_ok : ∀ k, k < 3 → parseFieldDescriptor (TX0 k).2.2.1 = some (tyX0 k) := by decide +kernel
abbrev cX0_init : ByteArray := prog_2_method_1_code
def yX0_init : MethodName := ⟨RX0, "<init>", "()V"⟩
abbrev cX0_makeAsAtFirst : ByteArray := prog_2_method_2_code
def yX0_makeAsAtFirst : MethodName := ⟨RX0, "makeAsAtFirst", "(I)V"⟩
abbrev cX0_copyFrom : ByteArray := prog_2_method_3_code
def yX0_copyFrom : MethodName := ⟨RX0, "copyFrom", "(LBoatTrim$Boat;)V"⟩
abbrev cX0_weighsAt : ByteArray := prog_2_method_4_code
def yX0_weighsAt : MethodName := ⟨RX0, "weighsAt", "(I)I"⟩
abbrev cX0_woolWeighs : ByteArray := prog_2_method_5_code
def yX0_woolWeighs : MethodName := ⟨RX0, "woolWeighs", "(I)I"⟩
abbrev cX0_allWeight : ByteArray := prog_2_method_6_code
def yX0_allWeight : MethodName := ⟨RX0, "allWeight", "()I"⟩
abbrev cX0_allAlong : ByteArray := prog_2_method_7_code
def yX0_allAlong : MethodName := ⟨RX0, "allAlong", "()I"⟩
abbrev cX0_allAside : ByteArray := prog_2_method_8_code
def yX0_allAside : MethodName := ⟨RX0, "allAside", "()I"⟩
abbrev cX0_allAloft : ByteArray := prog_2_method_9_code
def yX0_allAloft : MethodName := ⟨RX0, "allAloft", "()I"⟩
abbrev cX0_asideRolledBy : ByteArray := prog_2_method_10_code
def yX0_asideRolledBy : MethodName := ⟨RX0, "asideRolledBy", "(I)I"⟩
abbrev cX0_allRighting : ByteArray := prog_2_method_11_code
def yX0_allRighting : MethodName := ⟨RX0, "allRighting", "()I"⟩
abbrev cX0_heelRolledBy : ByteArray := prog_2_method_12_code
def yX0_heelRolledBy : MethodName := ⟨RX0, "heelRolledBy", "(II)I"⟩
abbrev cX0_heelBehind : ByteArray := prog_2_method_13_code
def yX0_heelBehind : MethodName := ⟨RX0, "heelBehind", "(I)I"⟩
abbrev cX0_roundsTillSteady : ByteArray := prog_2_method_14_code
def yX0_roundsTillSteady : MethodName := ⟨RX0, "roundsTillSteady", "()I"⟩
abbrev cX0_offOf : ByteArray := prog_2_method_15_code
def yX0_offOf : MethodName := ⟨RX0, "offOf", "(I)I"⟩
abbrev cX0_bestToTurn : ByteArray := prog_2_method_16_code
def yX0_bestToTurn : MethodName := ⟨RX0, "bestToTurn", "()I"⟩
def RX1 : String := "BoatTrim$Cargo"
def TX1 : u_T := fun k => match k with
  | 0 => ("BoatTrim$Cargo", "size", "I", false)
  | 1 => ("BoatTrim$Cargo", "name", "[I", true)
  | 2 => ("BoatTrim$Cargo", "kind", "[I", true)
  | 3 => ("BoatTrim$Cargo", "weight", "[I", true)
  | 4 => ("BoatTrim$Cargo", "section", "[I", true)
  | 5 => ("BoatTrim$Cargo", "side", "[I", true)
  | _ => ("BoatTrim$Cargo", "up", "[I", true)
def tyX1 : Nat → FieldType := fun k => match k with
  | 0 => .int
  | 1 => .array .int
  | 2 => .array .int
  | 3 => .array .int
  | 4 => .array .int
  | 5 => .array .int
  | _ => .array .int
abbrev wsX10 : List Cond := u_ws RX1 TX1 7
theorem nmX1 : ∀ a, a < 7 → ∀ b, b < 7 → a ≠ b → (TX1 a).2.1 ≠ (TX1 b).2.1 := by decide +kernel
theorem tyX1_ok : ∀ k, k < 7 → parseFieldDescriptor (TX1 k).2.2.1 = some (tyX1 k) := by decide +kernel
abbrev cX1_init : ByteArray := prog_3_method_1_code
def yX1_init : MethodName := ⟨RX1, "<init>", "()V"⟩
abbrev cX1_copyFrom : ByteArray := prog_3_method_2_code
def yX1_copyFrom : MethodName := ⟨RX1, "copyFrom", "(LBoatTrim$Cargo;)V"⟩
abbrev cX1_placeBehind : ByteArray := prog_3_method_3_code
def yX1_placeBehind : MethodName := ⟨RX1, "placeBehind", "(I)I"⟩
abbrev cX1_placeOf : ByteArray := prog_3_method_4_code
def yX1_placeOf : MethodName := ⟨RX1, "placeOf", "(I)I"⟩
abbrev cX1_openPlace : ByteArray := prog_3_method_5_code
def yX1_openPlace : MethodName := ⟨RX1, "openPlace", "(I)I"⟩
abbrev cX1_closePlace : ByteArray := prog_3_method_6_code
def yX1_closePlace : MethodName := ⟨RX1, "closePlace", "(I)V"⟩
abbrev cX1_copyPlaces : ByteArray := prog_3_method_7_code
def yX1_copyPlaces : MethodName := ⟨RX1, "copyPlaces", "(LBoatTrim$Cargo;III)V"⟩
def RX2 : String := "BoatTrim$Hull"
def TX2 : u_T := fun k => match k with
  | 0 => ("BoatTrim$Hull", "sections", "I", false)
  | 1 => ("BoatTrim$Hull", "deep", "I", false)
  | 2 => ("BoatTrim$Hull", "shell", "I", false)
  | 3 => ("BoatTrim$Hull", "wet", "I", false)
  | 4 => ("BoatTrim$Hull", "wide", "[I", true)
  | _ => ("BoatTrim$Hull", "rise", "[I", true)
def tyX2 : Nat → FieldType := fun k => match k with
  | 0 => .int
  | 1 => .int
  | 2 => .int
  | 3 => .int
  | 4 => .array .int
  | _ => .array .int
abbrev wsX20 : List Cond := u_ws RX2 TX2 6
theorem nmX2 : ∀ a, a < 6 → ∀ b, b < 6 → a ≠ b → (TX2 a).2.1 ≠ (TX2 b).2.1 := by decide +kernel
theorem tyX2_ok : ∀ k, k < 6 → parseFieldDescriptor (TX2 k).2.2.1 = some (tyX2 k) := by decide +kernel
abbrev cX2_init : ByteArray := prog_4_method_1_code
def yX2_init : MethodName := ⟨RX2, "<init>", "()V"⟩
abbrev cX2_makeAsAtFirst : ByteArray := prog_4_method_2_code
def yX2_makeAsAtFirst : MethodName := ⟨RX2, "makeAsAtFirst", "(I)V"⟩
abbrev cX2_copyFrom : ByteArray := prog_4_method_3_code
def yX2_copyFrom : MethodName := ⟨RX2, "copyFrom", "(LBoatTrim$Hull;)V"⟩
abbrev cX2_hasSection : ByteArray := prog_4_method_4_code
def yX2_hasSection : MethodName := ⟨RX2, "hasSection", "(I)Z"⟩
abbrev cX2_top : ByteArray := prog_4_method_5_code
def yX2_top : MethodName := ⟨RX2, "top", "()I"⟩
abbrev cX2_leastRise : ByteArray := prog_4_method_6_code
def yX2_leastRise : MethodName := ⟨RX2, "leastRise", "()I"⟩
abbrev cX2_waterAt : ByteArray := prog_4_method_7_code
def yX2_waterAt : MethodName := ⟨RX2, "waterAt", "(II)I"⟩
abbrev cX2_draughtOf : ByteArray := prog_4_method_8_code
def yX2_draughtOf : MethodName := ⟨RX2, "draughtOf", "(III)I"⟩
abbrev cX2_waterOfSlope : ByteArray := prog_4_method_9_code
def yX2_waterOfSlope : MethodName := ⟨RX2, "waterOfSlope", "(II)I"⟩
abbrev cX2_pullOfSlope : ByteArray := prog_4_method_10_code
def yX2_pullOfSlope : MethodName := ⟨RX2, "pullOfSlope", "(II)I"⟩
abbrev cX2_startOf : ByteArray := prog_4_method_11_code
def yX2_startOf : MethodName := ⟨RX2, "startOf", "(II)I"⟩
abbrev cX2_carriedAt : ByteArray := prog_4_method_12_code
def yX2_carriedAt : MethodName := ⟨RX2, "carriedAt", "(I)I"⟩
def RX3 : String := "BoatTrim$Landing"
def TX3 : u_T := fun k => match k with
  | 0 => ("BoatTrim$Landing", "least", "[I", true)
  | 1 => ("BoatTrim$Landing", "most", "[I", true)
  | 2 => ("BoatTrim$Landing", "wanted", "I", false)
  | 3 => ("BoatTrim$Landing", "fitting", "I", false)
  | _ => ("BoatTrim$Landing", "leastFitting", "I", false)
def tyX3 : Nat → FieldType := fun k => match k with
  | 0 => .array .int
  | 1 => .array .int
  | 2 => .int
  | 3 => .int
  | _ => .int
abbrev wsX30 : List Cond := u_ws RX3 TX3 5
theorem nmX3 : ∀ a, a < 5 → ∀ b, b < 5 → a ≠ b → (TX3 a).2.1 ≠ (TX3 b).2.1 := by decide +kernel
theorem tyX3_ok : ∀ k, k < 5 → parseFieldDescriptor (TX3 k).2.2.1 = some (tyX3 k) := by decide +kernel
abbrev cX3_init : ByteArray := prog_5_method_1_code
def yX3_init : MethodName := ⟨RX3, "<init>", "()V"⟩
abbrev cX3_writeLines : ByteArray := prog_5_method_2_code
def yX3_writeLines : MethodName := ⟨RX3, "writeLines", "(LBoatTrim$Boat;LBoatTrim$Orders;[I)V"⟩
abbrev cX3_want : ByteArray := prog_5_method_3_code
def yX3_want : MethodName := ⟨RX3, "want", "(LBoatTrim$Hull;[II)V"⟩
abbrev cX3_tryWeights : ByteArray := prog_5_method_4_code
def yX3_tryWeights : MethodName := ⟨RX3, "tryWeights", "(LBoatTrim$Boat;LBoatTrim$Orders;I)V"⟩
abbrev cX3_isSo : ByteArray := prog_5_method_5_code
def yX3_isSo : MethodName := ⟨RX3, "isSo", "(LBoatTrim$Boat;LBoatTrim$Orders;)Z"⟩
def RX4 : String := "BoatTrim$Orders"
def TX4 : u_T := fun k => match k with
  | 0 => ("BoatTrim$Orders", "places", "[I", true)
  | _ => ("BoatTrim$Orders", "keys", "[I", true)
def tyX4 : Nat → FieldType := fun k => match k with
  | 0 => .array .int
  | _ => .array .int
abbrev wsX40 : List Cond := u_ws RX4 TX4 2
theorem nmX4 : ∀ a, a < 2 → ∀ b, b < 2 → a ≠ b → (TX4 a).2.1 ≠ (TX4 b).2.1 := by decide +kernel
theorem tyX4_ok : ∀ k, k < 2 → parseFieldDescriptor (TX4 k).2.2.1 = some (tyX4 k) := by decide +kernel
abbrev cX4_init : ByteArray := prog_6_method_1_code
def yX4_init : MethodName := ⟨RX4, "<init>", "()V"⟩
abbrev cX4_arrange : ByteArray := prog_6_method_2_code
def yX4_arrange : MethodName := ⟨RX4, "arrange", "(LBoatTrim$Boat;I)V"⟩
abbrev cX4_sort : ByteArray := prog_6_method_3_code
def yX4_sort : MethodName := ⟨RX4, "sort", "(LBoatTrim$Boat;I)V"⟩
abbrev cX4_balance : ByteArray := prog_6_method_4_code
def yX4_balance : MethodName := ⟨RX4, "balance", "(LBoatTrim$Boat;)V"⟩
abbrev cX4_comesAhead : ByteArray := prog_6_method_5_code
def yX4_comesAhead : MethodName := ⟨RX4, "comesAhead", "(LBoatTrim$Boat;III)Z"⟩
def RX5 : String := "BoatTrim$Report"
def TX5 : u_T := fun k => match k with
  | 0 => ("BoatTrim$Report", "length", "I", false)
  | _ => ("BoatTrim$Report", "signs", "[C", true)
def tyX5 : Nat → FieldType := fun k => match k with
  | 0 => .int
  | _ => .array .char
abbrev wsX50 : List Cond := u_ws RX5 TX5 2
theorem nmX5 : ∀ a, a < 2 → ∀ b, b < 2 → a ≠ b → (TX5 a).2.1 ≠ (TX5 b).2.1 := by decide +kernel
theorem tyX5_ok : ∀ k, k < 2 → parseFieldDescriptor (TX5 k).2.2.1 = some (tyX5 k) := by decide +kernel
abbrev cX5_init : ByteArray := prog_7_method_1_code
def yX5_init : MethodName := ⟨RX5, "<init>", "()V"⟩
abbrev cX5_write : ByteArray := prog_7_method_2_code
def yX5_write : MethodName := ⟨RX5, "write", "(LBoatTrim$Cargo;)V"⟩
abbrev cX5_addLetters : ByteArray := prog_7_method_3_code
def yX5_addLetters : MethodName := ⟨RX5, "addLetters", "(I)V"⟩
abbrev cX5_addFigures : ByteArray := prog_7_method_4_code
def yX5_addFigures : MethodName := ⟨RX5, "addFigures", "(I)V"⟩
abbrev cX5_addSide : ByteArray := prog_7_method_5_code
def yX5_addSide : MethodName := ⟨RX5, "addSide", "(I)V"⟩
abbrev cX5_addSign : ByteArray := prog_7_method_6_code
def yX5_addSign : MethodName := ⟨RX5, "addSign", "(C)V"⟩
def RX6 : String := "BoatTrim$Rows"
def TX6 : u_T := fun k => match k with
  | 0 => ("BoatTrim$Rows", "size", "[I", true)
  | _ => ("BoatTrim$Rows", "places", "[[I", true)
def tyX6 : Nat → FieldType := fun k => match k with
  | 0 => .array .int
  | _ => .array (.array .int)
abbrev wsX60 : List Cond := u_ws RX6 TX6 2
theorem nmX6 : ∀ a, a < 2 → ∀ b, b < 2 → a ≠ b → (TX6 a).2.1 ≠ (TX6 b).2.1 := by decide +kernel
theorem tyX6_ok : ∀ k, k < 2 → parseFieldDescriptor (TX6 k).2.2.1 = some (tyX6 k) := by decide +kernel
abbrev cX6_init : ByteArray := prog_8_method_1_code
def yX6_init : MethodName := ⟨RX6, "<init>", "()V"⟩
abbrev cX6_make : ByteArray := prog_8_method_2_code
def yX6_make : MethodName := ⟨RX6, "make", "(II)V"⟩
abbrev cX6_isMissing : ByteArray := prog_8_method_3_code
def yX6_isMissing : MethodName := ⟨RX6, "isMissing", "(I)Z"⟩
abbrev cX6_hasPlace : ByteArray := prog_8_method_4_code
def yX6_hasPlace : MethodName := ⟨RX6, "hasPlace", "(II)Z"⟩
def RX7 : String := "BoatTrim$Swap"
def TX7 : u_T := fun k => match k with
  | 0 => ("BoatTrim$Swap", "one", "I", false)
  | _ => ("BoatTrim$Swap", "other", "I", false)
def tyX7 : Nat → FieldType := fun k => match k with
  | 0 => .int
  | _ => .int
abbrev wsX70 : List Cond := u_ws RX7 TX7 2
theorem nmX7 : ∀ a, a < 2 → ∀ b, b < 2 → a ≠ b → (TX7 a).2.1 ≠ (TX7 b).2.1 := by decide +kernel
theorem tyX7_ok : ∀ k, k < 2 → parseFieldDescriptor (TX7 k).2.2.1 = some (tyX7 k) := by decide +kernel
abbrev cX7_init : ByteArray := prog_9_method_1_code
def yX7_init : MethodName := ⟨RX7, "<init>", "()V"⟩
abbrev cX7_find : ByteArray := prog_9_method_2_code
def yX7_find : MethodName := ⟨RX7, "find", "(LBoatTrim$Boat;)Z"⟩
abbrev cX7_alongGained : ByteArray := prog_9_method_3_code
def yX7_alongGained : MethodName := ⟨RX7, "alongGained", "(LBoatTrim$Boat;II)I"⟩
def RX8 : String := "BoatTrim$Tanks"
def TX8 : u_T := fun k => match k with
  | 0 => ("BoatTrim$Tanks", "section", "[I", true)
  | 1 => ("BoatTrim$Tanks", "breadth", "[I", true)
  | 2 => ("BoatTrim$Tanks", "holds", "[I", true)
  | _ => ("BoatTrim$Tanks", "has", "[I", true)
def tyX8 : Nat → FieldType := fun k => match k with
  | 0 => .array .int
  | 1 => .array .int
  | 2 => .array .int
  | _ => .array .int
abbrev wsX80 : List Cond := u_ws RX8 TX8 4
theorem nmX8 : ∀ a, a < 4 → ∀ b, b < 4 → a ≠ b → (TX8 a).2.1 ≠ (TX8 b).2.1 := by decide +kernel
theorem tyX8_ok : ∀ k, k < 4 → parseFieldDescriptor (TX8 k).2.2.1 = some (tyX8 k) := by decide +kernel
abbrev cX8_init : ByteArray := prog_10_method_1_code
def yX8_init : MethodName := ⟨RX8, "<init>", "()V"⟩
abbrev cX8_empty : ByteArray := prog_10_method_2_code
def yX8_empty : MethodName := ⟨RX8, "empty", "()V"⟩
abbrev cX8_copyFrom : ByteArray := prog_10_method_3_code
def yX8_copyFrom : MethodName := ⟨RX8, "copyFrom", "(LBoatTrim$Tanks;)V"⟩
abbrev cX8_isThere : ByteArray := prog_10_method_4_code
def yX8_isThere : MethodName := ⟨RX8, "isThere", "(I)Z"⟩
abbrev cX8_isSlack : ByteArray := prog_10_method_5_code
def yX8_isSlack : MethodName := ⟨RX8, "isSlack", "(I)Z"⟩
abbrev cX8_howManyThere : ByteArray := prog_10_method_6_code
def yX8_howManyThere : MethodName := ⟨RX8, "howManyThere", "()I"⟩
abbrev cX8_howManySlack : ByteArray := prog_10_method_7_code
def yX8_howManySlack : MethodName := ⟨RX8, "howManySlack", "()I"⟩
abbrev cX8_lostRighting : ByteArray := prog_10_method_8_code
def yX8_lostRighting : MethodName := ⟨RX8, "lostRighting", "()I"⟩
def RX9 : String := "BoatTrim$Tape"
def TX9 : u_T := fun k => match k with
  | 0 => ("BoatTrim$Tape", "length", "I", false)
  | 1 => ("BoatTrim$Tape", "bytes", "[B", true)
  | 2 => ("BoatTrim$Tape", "at", "I", false)
  | 3 => ("BoatTrim$Tape", "act", "I", false)
  | _ => ("BoatTrim$Tape", "parts", "[I", true)
def tyX9 : Nat → FieldType := fun k => match k with
  | 0 => .int
  | 1 => .array .byte
  | 2 => .int
  | 3 => .int
  | _ => .array .int
abbrev wsX90 : List Cond := u_ws RX9 TX9 5
theorem nmX9 : ∀ a, a < 5 → ∀ b, b < 5 → a ≠ b → (TX9 a).2.1 ≠ (TX9 b).2.1 := by decide +kernel
theorem tyX9_ok : ∀ k, k < 5 → parseFieldDescriptor (TX9 k).2.2.1 = some (tyX9 k) := by decide +kernel
abbrev cX9_init : ByteArray := prog_11_method_1_code
def yX9_init : MethodName := ⟨RX9, "<init>", "()V"⟩
abbrev cX9_findFault : ByteArray := prog_11_method_2_code
def yX9_findFault : MethodName := ⟨RX9, "findFault", "()I"⟩
abbrev cX9_isPartedHere : ByteArray := prog_11_method_3_code
def yX9_isPartedHere : MethodName := ⟨RX9, "isPartedHere", "()Z"⟩
abbrev cX9_readsAct : ByteArray := prog_11_method_4_code
def yX9_readsAct : MethodName := ⟨RX9, "readsAct", "()Z"⟩
abbrev cX9_readsWord : ByteArray := prog_11_method_5_code
def yX9_readsWord : MethodName := ⟨RX9, "readsWord", "()Z"⟩
abbrev cX9_isWord : ByteArray := prog_11_method_6_code
def yX9_isWord : MethodName := ⟨RX9, "isWord", "(Ljava/lang/String;II)Z"⟩
abbrev cX9_readsPart : ByteArray := prog_11_method_7_code
def yX9_readsPart : MethodName := ⟨RX9, "readsPart", "(IC)Z"⟩
abbrev cX9_readsName : ByteArray := prog_11_method_8_code
def yX9_readsName : MethodName := ⟨RX9, "readsName", "(I)Z"⟩
abbrev cX9_readsNumber : ByteArray := prog_11_method_9_code
def yX9_readsNumber : MethodName := ⟨RX9, "readsNumber", "(II)Z"⟩
abbrev cX9_isHere : ByteArray := prog_11_method_10_code
def yX9_isHere : MethodName := ⟨RX9, "isHere", "(C)Z"⟩
abbrev cX9_isLetterHere : ByteArray := prog_11_method_11_code
def yX9_isLetterHere : MethodName := ⟨RX9, "isLetterHere", "()Z"⟩
abbrev cX9_isFigureHere : ByteArray := prog_11_method_12_code
def yX9_isFigureHere : MethodName := ⟨RX9, "isFigureHere", "()Z"⟩
abbrev cX9_wordOf : ByteArray := prog_11_method_13_code
def yX9_wordOf : MethodName := ⟨RX9, "wordOf", "(I)Ljava/lang/String;"⟩
abbrev cX9_shapeOf : ByteArray := prog_11_method_14_code
def yX9_shapeOf : MethodName := ⟨RX9, "shapeOf", "(I)Ljava/lang/String;"⟩
def RX10 : String := "BoatTrim$Trim"
def TX10 : u_T := fun k => match k with
  | 0 => ("BoatTrim$Trim", "slope", "I", false)
  | 1 => ("BoatTrim$Trim", "start", "I", false)
  | _ => ("BoatTrim$Trim", "off", "I", false)
def tyX10 : Nat → FieldType := fun k => match k with
  | 0 => .int
  | 1 => .int
  | _ => .int
abbrev wsX100 : List Cond := u_ws RX10 TX10 3
theorem nmX10 : ∀ a, a < 3 → ∀ b, b < 3 → a ≠ b → (TX10 a).2.1 ≠ (TX10 b).2.1 := by decide +kernel
theorem tyX10_ok : ∀ k, k < 3 → parseFieldDescriptor (TX10 k).2.2.1 = some (tyX10 k) := by decide +kernel
abbrev cX10_init : ByteArray := prog_12_method_1_code
def yX10_init : MethodName := ⟨RX10, "<init>", "()V"⟩
abbrev cX10_find : ByteArray := prog_12_method_2_code
def yX10_find : MethodName := ⟨RX10, "find", "(LBoatTrim$Boat;)Z"⟩
def RX11 : String := "BoatTrim"
def TX11 : u_T := fun k => match k with
  | 0 => ("BoatTrim", "boat", "LBoatTrim$Boat;", true)
  | 1 => ("BoatTrim", "kept", "LBoatTrim$Boat;", true)
  | 2 => ("BoatTrim", "isKept", "Z", false)
  | 3 => ("BoatTrim", "rows", "LBoatTrim$Rows;", true)
  | 4 => ("BoatTrim", "tape", "LBoatTrim$Tape;", true)
  | 5 => ("BoatTrim", "orders", "LBoatTrim$Orders;", true)
  | 6 => ("BoatTrim", "trims", "LBoatTrim$Trim;", true)
  | 7 => ("BoatTrim", "swap", "LBoatTrim$Swap;", true)
  | 8 => ("BoatTrim", "landing", "LBoatTrim$Landing;", true)
  | _ => ("BoatTrim", "report", "LBoatTrim$Report;", true)
def tyX11 : Nat → FieldType := fun k => match k with
  | 0 => .object "BoatTrim$Boat"
  | 1 => .object "BoatTrim$Boat"
  | 2 => .boolean
  | 3 => .object "BoatTrim$Rows"
  | 4 => .object "BoatTrim$Tape"
  | 5 => .object "BoatTrim$Orders"
  | 6 => .object "BoatTrim$Trim"
  | 7 => .object "BoatTrim$Swap"
  | 8 => .object "BoatTrim$Landing"
  | _ => .object "BoatTrim$Report"
abbrev wsX110 : List Cond := u_ws RX11 TX11 10
theorem nmX11 : ∀ a, a < 10 → ∀ b, b < 10 → a ≠ b → (TX11 a).2.1 ≠ (TX11 b).2.1 := by decide +kernel
theorem tyX11_ok : ∀ k, k < 10 → parseFieldDescriptor (TX11 k).2.2.1 = some (tyX11 k) := by decide +kernel
abbrev cX11_init : ByteArray := prog_1_method_1_code
def yX11_init : MethodName := ⟨RX11, "<init>", "()V"⟩
abbrev cX11_hull : ByteArray := prog_1_method_2_code
def yX11_hull : MethodName := ⟨RX11, "hull", "(I)I"⟩
abbrev cX11_section : ByteArray := prog_1_method_3_code
def yX11_section : MethodName := ⟨RX11, "section", "(III)I"⟩
abbrev cX11_set : ByteArray := prog_1_method_4_code
def yX11_set : MethodName := ⟨RX11, "set", "(II)I"⟩
abbrev cX11_setDeep : ByteArray := prog_1_method_5_code
def yX11_setDeep : MethodName := ⟨RX11, "setDeep", "(I)I"⟩
abbrev cX11_setShell : ByteArray := prog_1_method_6_code
def yX11_setShell : MethodName := ⟨RX11, "setShell", "(I)I"⟩
abbrev cX11_setWet : ByteArray := prog_1_method_7_code
def yX11_setWet : MethodName := ⟨RX11, "setWet", "(I)I"⟩
abbrev cX11_put : ByteArray := prog_1_method_8_code
def yX11_put : MethodName := ⟨RX11, "put", "(IIIIII)I"⟩
abbrev cX11_take : ByteArray := prog_1_method_9_code
def yX11_take : MethodName := ⟨RX11, "take", "(I)I"⟩
abbrev cX11_move : ByteArray := prog_1_method_10_code
def yX11_move : MethodName := ⟨RX11, "move", "(III)I"⟩
abbrev cX11_goods : ByteArray := prog_1_method_11_code
def yX11_goods : MethodName := ⟨RX11, "goods", "(II)I"⟩
abbrev cX11_taken : ByteArray := prog_1_method_12_code
def yX11_taken : MethodName := ⟨RX11, "taken", "(II)I"⟩
abbrev cX11_tank : ByteArray := prog_1_method_13_code
def yX11_tank : MethodName := ⟨RX11, "tank", "(IIII)I"⟩
abbrev cX11_fill : ByteArray := prog_1_method_14_code
def yX11_fill : MethodName := ⟨RX11, "fill", "(II)I"⟩
abbrev cX11_told : ByteArray := prog_1_method_15_code
def yX11_told : MethodName := ⟨RX11, "told", "(I)I"⟩
abbrev cX11_water : ByteArray := prog_1_method_16_code
def yX11_water : MethodName := ⟨RX11, "water", "(II)I"⟩
abbrev cX11_line : ByteArray := prog_1_method_17_code
def yX11_line : MethodName := ⟨RX11, "line", "()I"⟩
abbrev cX11_trim : ByteArray := prog_1_method_18_code
def yX11_trim : MethodName := ⟨RX11, "trim", "(I)I"⟩
abbrev cX11_off : ByteArray := prog_1_method_19_code
def yX11_off : MethodName := ⟨RX11, "off", "(I)I"⟩
abbrev cX11_heel : ByteArray := prog_1_method_20_code
def yX11_heel : MethodName := ⟨RX11, "heel", "(I)I"⟩
abbrev cX11_steady : ByteArray := prog_1_method_21_code
def yX11_steady : MethodName := ⟨RX11, "steady", "()I"⟩
abbrev cX11_grounded : ByteArray := prog_1_method_22_code
def yX11_grounded : MethodName := ⟨RX11, "grounded", "(I)I"⟩
abbrev cX11_lighten : ByteArray := prog_1_method_23_code
def yX11_lighten : MethodName := ⟨RX11, "lighten", "(I)I"⟩
abbrev cX11_more : ByteArray := prog_1_method_24_code
def yX11_more : MethodName := ⟨RX11, "more", "(I)I"⟩
abbrev cX11_order : ByteArray := prog_1_method_25_code
def yX11_order : MethodName := ⟨RX11, "order", "(II)I"⟩
abbrev cX11_next : ByteArray := prog_1_method_26_code
def yX11_next : MethodName := ⟨RX11, "next", "(I)I"⟩
abbrev cX11_turn : ByteArray := prog_1_method_27_code
def yX11_turn : MethodName := ⟨RX11, "turn", "()I"⟩
abbrev cX11_change : ByteArray := prog_1_method_28_code
def yX11_change : MethodName := ⟨RX11, "change", "(I)I"⟩
abbrev cX11_fits : ByteArray := prog_1_method_29_code
def yX11_fits : MethodName := ⟨RX11, "fits", "(IIII)I"⟩
abbrev cX11_say : ByteArray := prog_1_method_30_code
def yX11_say : MethodName := ⟨RX11, "say", "(I)I"⟩
abbrev cX11_feed : ByteArray := prog_1_method_31_code
def yX11_feed : MethodName := ⟨RX11, "feed", "(I)I"⟩
abbrev cX11_wipe : ByteArray := prog_1_method_32_code
def yX11_wipe : MethodName := ⟨RX11, "wipe", "()I"⟩
abbrev cX11_read : ByteArray := prog_1_method_33_code
def yX11_read : MethodName := ⟨RX11, "read", "()I"⟩
abbrev cX11_doAllActs : ByteArray := prog_1_method_34_code
def yX11_doAllActs : MethodName := ⟨RX11, "doAllActs", "()I"⟩
abbrev cX11_doAct : ByteArray := prog_1_method_35_code
def yX11_doAct : MethodName := ⟨RX11, "doAct", "()I"⟩
abbrev cX11_row : ByteArray := prog_1_method_36_code
def yX11_row : MethodName := ⟨RX11, "row", "(II)I"⟩
abbrev cX11_store : ByteArray := prog_1_method_37_code
def yX11_store : MethodName := ⟨RX11, "store", "(III)I"⟩
abbrev cX11_get : ByteArray := prog_1_method_38_code
def yX11_get : MethodName := ⟨RX11, "get", "(II)I"⟩
abbrev cX11_film : ByteArray := prog_1_method_39_code
def yX11_film : MethodName := ⟨RX11, "film", "(I)I"⟩
abbrev cX11_image : ByteArray := prog_1_method_40_code
def yX11_image : MethodName := ⟨RX11, "image", "()I"⟩
abbrev cX11_undo : ByteArray := prog_1_method_41_code
def yX11_undo : MethodName := ⟨RX11, "undo", "()I"⟩
abbrev cX11_count : ByteArray := prog_1_method_42_code
def yX11_count : MethodName := ⟨RX11, "count", "(I)I"⟩
abbrev cX11_isWithin : ByteArray := prog_1_method_43_code
def yX11_isWithin : MethodName := ⟨RX11, "isWithin", "(III)Z"⟩
abbrev cX11_held : ByteArray := prog_1_method_44_code
def yX11_held : MethodName := ⟨RX11, "held", "(III)I"⟩
abbrev cX11_isName : ByteArray := prog_1_method_45_code
def yX11_isName : MethodName := ⟨RX11, "isName", "(I)Z"⟩
abbrev cX11_isKind : ByteArray := prog_1_method_46_code
def yX11_isKind : MethodName := ⟨RX11, "isKind", "(I)Z"⟩
abbrev cX11_isSide : ByteArray := prog_1_method_47_code
def yX11_isSide : MethodName := ⟨RX11, "isSide", "(I)Z"⟩
abbrev cX11_isTank : ByteArray := prog_1_method_48_code
def yX11_isTank : MethodName := ⟨RX11, "isTank", "(I)Z"⟩
abbrev cX11_isRow : ByteArray := prog_1_method_49_code
def yX11_isRow : MethodName := ⟨RX11, "isRow", "(I)Z"⟩
abbrev cX11_isOfKind : ByteArray := prog_1_method_50_code
def yX11_isOfKind : MethodName := ⟨RX11, "isOfKind", "(II)Z"⟩
abbrev cX11_rollsOf : ByteArray := prog_1_method_51_code
def yX11_rollsOf : MethodName := ⟨RX11, "rollsOf", "(II)I"⟩
abbrev cX11_cubeByTwelve : ByteArray := prog_1_method_52_code
def yX11_cubeByTwelve : MethodName := ⟨RX11, "cubeByTwelve", "(I)I"⟩
def RX12 : String := "BoatTrimModel"
def TX12 : u_T := fun k => match k with
  | 0 => ("BoatTrimModel", "n", "I", false)
  | 1 => ("BoatTrimModel", "deep", "I", false)
  | 2 => ("BoatTrimModel", "shell", "I", false)
  | 3 => ("BoatTrimModel", "wet", "I", false)
  | 4 => ("BoatTrimModel", "wide", "[I", true)
  | 5 => ("BoatTrimModel", "rise", "[I", true)
  | 6 => ("BoatTrimModel", "many", "I", false)
  | 7 => ("BoatTrimModel", "names", "[I", true)
  | 8 => ("BoatTrimModel", "kinds", "[I", true)
  | 9 => ("BoatTrimModel", "weights", "[I", true)
  | 10 => ("BoatTrimModel", "sections", "[I", true)
  | 11 => ("BoatTrimModel", "sides", "[I", true)
  | 12 => ("BoatTrimModel", "ups", "[I", true)
  | 13 => ("BoatTrimModel", "tankSection", "[I", true)
  | 14 => ("BoatTrimModel", "breadth", "[I", true)
  | 15 => ("BoatTrimModel", "tankHolds", "[I", true)
  | 16 => ("BoatTrimModel", "tankHas", "[I", true)
  | 17 => ("BoatTrimModel", "rank", "[I", true)
  | 18 => ("BoatTrimModel", "lines", "[I", true)
  | 19 => ("BoatTrimModel", "signs", "[B", true)
  | 20 => ("BoatTrimModel", "signed", "I", false)
  | 21 => ("BoatTrimModel", "tape", "[B", true)
  | 22 => ("BoatTrimModel", "taped", "I", false)
  | 23 => ("BoatTrimModel", "at", "I", false)
  | 24 => ("BoatTrimModel", "acts", "I", false)
  | 25 => ("BoatTrimModel", "words", "[I", true)
  | 26 => ("BoatTrimModel", "numbers", "[I", true)
  | 27 => ("BoatTrimModel", "lengths", "[I", true)
  | 28 => ("BoatTrimModel", "rows", "[[I", true)
  | 29 => ("BoatTrimModel", "isKept", "Z", false)
  | 30 => ("BoatTrimModel", "keptNumbers", "[I", true)
  | _ => ("BoatTrimModel", "keptRows", "[[I", true)
def tyX12 : Nat → FieldType := fun k => match k with
  | 0 => .int
  | 1 => .int
  | 2 => .int
  | 3 => .int
  | 4 => .array .int
  | 5 => .array .int
  | 6 => .int
  | 7 => .array .int
  | 8 => .array .int
  | 9 => .array .int
  | 10 => .array .int
  | 11 => .array .int
  | 12 => .array .int
  | 13 => .array .int
  | 14 => .array .int
  | 15 => .array .int
  | 16 => .array .int
  | 17 => .array .int
  | 18 => .array .int
  | 19 => .array .byte
  | 20 => .int
  | 21 => .array .byte
  | 22 => .int
  | 23 => .int
  | 24 => .int
  | 25 => .array .int
  | 26 => .array .int
  | 27 => .array .int
  | 28 => .array (.array .int)
  | 29 => .boolean
  | 30 => .array .int
  | _ => .array (.array .int)
abbrev wsX120 : List Cond := u_ws RX12 TX12 32
theorem nmX12 : ∀ a, a < 32 → ∀ b, b < 32 → a ≠ b → (TX12 a).2.1 ≠ (TX12 b).2.1 := by decide +kernel
theorem tyX12_ok : ∀ k, k < 32 → parseFieldDescriptor (TX12 k).2.2.1 = some (tyX12 k) := by decide +kernel
abbrev cX12_init : ByteArray := prog_14_method_1_code
def yX12_init : MethodName := ⟨RX12, "<init>", "()V"⟩
abbrev cX12_in : ByteArray := prog_14_method_2_code
def yX12_in : MethodName := ⟨RX12, "in", "(III)Z"⟩
abbrev cX12_anew : ByteArray := prog_14_method_3_code
def yX12_anew : MethodName := ⟨RX12, "anew", "(I)V"⟩
abbrev cX12_isSection : ByteArray := prog_14_method_4_code
def yX12_isSection : MethodName := ⟨RX12, "isSection", "(I)Z"⟩
abbrev cX12_isTank : ByteArray := prog_14_method_5_code
def yX12_isTank : MethodName := ⟨RX12, "isTank", "(I)Z"⟩
abbrev cX12_hull : ByteArray := prog_14_method_6_code
def yX12_hull : MethodName := ⟨RX12, "hull", "(I)I"⟩
abbrev cX12_section : ByteArray := prog_14_method_7_code
def yX12_section : MethodName := ⟨RX12, "section", "(III)I"⟩
abbrev cX12_set : ByteArray := prog_14_method_8_code
def yX12_set : MethodName := ⟨RX12, "set", "(II)I"⟩
abbrev cX12_isName : ByteArray := prog_14_method_9_code
def yX12_isName : MethodName := ⟨RX12, "isName", "(I)Z"⟩
abbrev cX12_find : ByteArray := prog_14_method_10_code
def yX12_find : MethodName := ⟨RX12, "find", "(I)I"⟩
abbrev cX12_lay : ByteArray := prog_14_method_11_code
def yX12_lay : MethodName := ⟨RX12, "lay", "(II)V"⟩
abbrev cX12_put : ByteArray := prog_14_method_12_code
def yX12_put : MethodName := ⟨RX12, "put", "(IIIIII)I"⟩
abbrev cX12_take : ByteArray := prog_14_method_13_code
def yX12_take : MethodName := ⟨RX12, "take", "(I)I"⟩
abbrev cX12_move : ByteArray := prog_14_method_14_code
def yX12_move : MethodName := ⟨RX12, "move", "(III)I"⟩
abbrev cX12_weighs : ByteArray := prog_14_method_15_code
def yX12_weighs : MethodName := ⟨RX12, "weighs", "(I)I"⟩
abbrev cX12_rolls : ByteArray := prog_14_method_16_code
def yX12_rolls : MethodName := ⟨RX12, "rolls", "(II)I"⟩
abbrev cX12_isUnder : ByteArray := prog_14_method_17_code
def yX12_isUnder : MethodName := ⟨RX12, "isUnder", "(II)Z"⟩
abbrev cX12_goods : ByteArray := prog_14_method_18_code
def yX12_goods : MethodName := ⟨RX12, "goods", "(II)I"⟩
abbrev cX12_taken : ByteArray := prog_14_method_19_code
def yX12_taken : MethodName := ⟨RX12, "taken", "(II)I"⟩
abbrev cX12_tank : ByteArray := prog_14_method_20_code
def yX12_tank : MethodName := ⟨RX12, "tank", "(IIII)I"⟩
abbrev cX12_fill : ByteArray := prog_14_method_21_code
def yX12_fill : MethodName := ⟨RX12, "fill", "(II)I"⟩
abbrev cX12_isSlack : ByteArray := prog_14_method_22_code
def yX12_isSlack : MethodName := ⟨RX12, "isSlack", "(I)Z"⟩
abbrev cX12_slacks : ByteArray := prog_14_method_23_code
def yX12_slacks : MethodName := ⟨RX12, "slacks", "()I"⟩
abbrev cX12_tanksThere : ByteArray := prog_14_method_24_code
def yX12_tanksThere : MethodName := ⟨RX12, "tanksThere", "()I"⟩
abbrev cX12_allWeight : ByteArray := prog_14_method_25_code
def yX12_allWeight : MethodName := ⟨RX12, "allWeight", "()I"⟩
abbrev cX12_along : ByteArray := prog_14_method_26_code
def yX12_along : MethodName := ⟨RX12, "along", "()I"⟩
abbrev cX12_aside : ByteArray := prog_14_method_27_code
def yX12_aside : MethodName := ⟨RX12, "aside", "()I"⟩
abbrev cX12_aloft : ByteArray := prog_14_method_28_code
def yX12_aloft : MethodName := ⟨RX12, "aloft", "()I"⟩
abbrev cX12_leastRise : ByteArray := prog_14_method_29_code
def yX12_leastRise : MethodName := ⟨RX12, "leastRise", "()I"⟩
abbrev cX12_told : ByteArray := prog_14_method_30_code
def yX12_told : MethodName := ⟨RX12, "told", "(I)I"⟩
abbrev cX12_waterOf : ByteArray := prog_14_method_31_code
def yX12_waterOf : MethodName := ⟨RX12, "waterOf", "(II)I"⟩
abbrev cX12_waterOfAll : ByteArray := prog_14_method_32_code
def yX12_waterOfAll : MethodName := ⟨RX12, "waterOfAll", "(I)I"⟩
abbrev cX12_water : ByteArray := prog_14_method_33_code
def yX12_water : MethodName := ⟨RX12, "water", "(II)I"⟩
abbrev cX12_lineFor : ByteArray := prog_14_method_34_code
def yX12_lineFor : MethodName := ⟨RX12, "lineFor", "(I)I"⟩
abbrev cX12_line : ByteArray := prog_14_method_35_code
def yX12_line : MethodName := ⟨RX12, "line", "()I"⟩
abbrev cX12_waterBy : ByteArray := prog_14_method_36_code
def yX12_waterBy : MethodName := ⟨RX12, "waterBy", "(II)I"⟩
abbrev cX12_restOf : ByteArray := prog_14_method_37_code
def yX12_restOf : MethodName := ⟨RX12, "restOf", "(I)I"⟩
abbrev cX12_offBy : ByteArray := prog_14_method_38_code
def yX12_offBy : MethodName := ⟨RX12, "offBy", "(II)I"⟩
abbrev cX12_isNearer : ByteArray := prog_14_method_39_code
def yX12_isNearer : MethodName := ⟨RX12, "isNearer", "(IIII)Z"⟩
abbrev cX12_trim : ByteArray := prog_14_method_40_code
def yX12_trim : MethodName := ⟨RX12, "trim", "(I)I"⟩
abbrev cX12_off : ByteArray := prog_14_method_41_code
def yX12_off : MethodName := ⟨RX12, "off", "(I)I"⟩
abbrev cX12_cube : ByteArray := prog_14_method_42_code
def yX12_cube : MethodName := ⟨RX12, "cube", "(I)I"⟩
abbrev cX12_righting : ByteArray := prog_14_method_43_code
def yX12_righting : MethodName := ⟨RX12, "righting", "()I"⟩
abbrev cX12_isUpright : ByteArray := prog_14_method_44_code
def yX12_isUpright : MethodName := ⟨RX12, "isUpright", "()Z"⟩
abbrev cX12_heelNow : ByteArray := prog_14_method_45_code
def yX12_heelNow : MethodName := ⟨RX12, "heelNow", "()I"⟩
abbrev cX12_heelBehind : ByteArray := prog_14_method_46_code
def yX12_heelBehind : MethodName := ⟨RX12, "heelBehind", "(I)I"⟩
abbrev cX12_heel : ByteArray := prog_14_method_47_code
def yX12_heel : MethodName := ⟨RX12, "heel", "(I)I"⟩
abbrev cX12_steady : ByteArray := prog_14_method_48_code
def yX12_steady : MethodName := ⟨RX12, "steady", "()I"⟩
abbrev cX12_grounded : ByteArray := prog_14_method_49_code
def yX12_grounded : MethodName := ⟨RX12, "grounded", "(I)I"⟩
abbrev cX12_lighten : ByteArray := prog_14_method_50_code
def yX12_lighten : MethodName := ⟨RX12, "lighten", "(I)I"⟩
abbrev cX12_more : ByteArray := prog_14_method_51_code
def yX12_more : MethodName := ⟨RX12, "more", "(I)I"⟩
abbrev cX12_isAhead : ByteArray := prog_14_method_52_code
def yX12_isAhead : MethodName := ⟨RX12, "isAhead", "(III)Z"⟩
abbrev cX12_layRank : ByteArray := prog_14_method_53_code
def yX12_layRank : MethodName := ⟨RX12, "layRank", "(I)V"⟩
abbrev cX12_isRanked : ByteArray := prog_14_method_54_code
def yX12_isRanked : MethodName := ⟨RX12, "isRanked", "(II)Z"⟩
abbrev cX12_layBalanced : ByteArray := prog_14_method_55_code
def yX12_layBalanced : MethodName := ⟨RX12, "layBalanced", "()V"⟩
abbrev cX12_isLighter : ByteArray := prog_14_method_56_code
def yX12_isLighter : MethodName := ⟨RX12, "isLighter", "(IIII)Z"⟩
abbrev cX12_order : ByteArray := prog_14_method_57_code
def yX12_order : MethodName := ⟨RX12, "order", "(II)I"⟩
abbrev cX12_next : ByteArray := prog_14_method_58_code
def yX12_next : MethodName := ⟨RX12, "next", "(I)I"⟩
abbrev cX12_turn : ByteArray := prog_14_method_59_code
def yX12_turn : MethodName := ⟨RX12, "turn", "()I"⟩
abbrev cX12_change : ByteArray := prog_14_method_60_code
def yX12_change : MethodName := ⟨RX12, "change", "(I)I"⟩
abbrev cX12_layLines : ByteArray := prog_14_method_61_code
def yX12_layLines : MethodName := ⟨RX12, "layLines", "(I)V"⟩
abbrev cX12_isSo : ByteArray := prog_14_method_62_code
def yX12_isSo : MethodName := ⟨RX12, "isSo", "(II)Z"⟩
abbrev cX12_fits : ByteArray := prog_14_method_63_code
def yX12_fits : MethodName := ⟨RX12, "fits", "(IIII)I"⟩
abbrev cX12_says : ByteArray := prog_14_method_64_code
def yX12_says : MethodName := ⟨RX12, "says", "(I)V"⟩
abbrev cX12_saysNumber : ByteArray := prog_14_method_65_code
def yX12_saysNumber : MethodName := ⟨RX12, "saysNumber", "(I)V"⟩
abbrev cX12_saysName : ByteArray := prog_14_method_66_code
def yX12_saysName : MethodName := ⟨RX12, "saysName", "(I)V"⟩
abbrev cX12_layReport : ByteArray := prog_14_method_67_code
def yX12_layReport : MethodName := ⟨RX12, "layReport", "()V"⟩
abbrev cX12_say : ByteArray := prog_14_method_68_code
def yX12_say : MethodName := ⟨RX12, "say", "(I)I"⟩
abbrev cX12_feed : ByteArray := prog_14_method_69_code
def yX12_feed : MethodName := ⟨RX12, "feed", "(I)I"⟩
abbrev cX12_wipe : ByteArray := prog_14_method_70_code
def yX12_wipe : MethodName := ⟨RX12, "wipe", "()I"⟩
abbrev cX12_isAt : ByteArray := prog_14_method_71_code
def yX12_isAt : MethodName := ⟨RX12, "isAt", "(C)Z"⟩
abbrev cX12_isLetter : ByteArray := prog_14_method_72_code
def yX12_isLetter : MethodName := ⟨RX12, "isLetter", "()Z"⟩
abbrev cX12_isFigure : ByteArray := prog_14_method_73_code
def yX12_isFigure : MethodName := ⟨RX12, "isFigure", "()Z"⟩
abbrev cX12_wordOf : ByteArray := prog_14_method_74_code
def yX12_wordOf : MethodName := ⟨RX12, "wordOf", "(I)Ljava/lang/String;"⟩
abbrev cX12_isWord : ByteArray := prog_14_method_75_code
def yX12_isWord : MethodName := ⟨RX12, "isWord", "(Ljava/lang/String;II)Z"⟩
abbrev cX12_takesWord : ByteArray := prog_14_method_76_code
def yX12_takesWord : MethodName := ⟨RX12, "takesWord", "()Z"⟩
abbrev cX12_takesBlank : ByteArray := prog_14_method_77_code
def yX12_takesBlank : MethodName := ⟨RX12, "takesBlank", "()Z"⟩
abbrev cX12_takesName : ByteArray := prog_14_method_78_code
def yX12_takesName : MethodName := ⟨RX12, "takesName", "(I)Z"⟩
abbrev cX12_takesNumber : ByteArray := prog_14_method_79_code
def yX12_takesNumber : MethodName := ⟨RX12, "takesNumber", "(IZ)Z"⟩
abbrev cX12_takesRest : ByteArray := prog_14_method_80_code
def yX12_takesRest : MethodName := ⟨RX12, "takesRest", "()Z"⟩
abbrev cX12_takesAct : ByteArray := prog_14_method_81_code
def yX12_takesAct : MethodName := ⟨RX12, "takesAct", "()Z"⟩
abbrev cX12_takesAll : ByteArray := prog_14_method_82_code
def yX12_takesAll : MethodName := ⟨RX12, "takesAll", "()Z"⟩
abbrev cX12_done : ByteArray := prog_14_method_83_code
def yX12_done : MethodName := ⟨RX12, "done", "(I)I"⟩
abbrev cX12_read : ByteArray := prog_14_method_84_code
def yX12_read : MethodName := ⟨RX12, "read", "()I"⟩
abbrev cX12_isRow : ByteArray := prog_14_method_85_code
def yX12_isRow : MethodName := ⟨RX12, "isRow", "(I)Z"⟩
abbrev cX12_row : ByteArray := prog_14_method_86_code
def yX12_row : MethodName := ⟨RX12, "row", "(II)I"⟩
abbrev cX12_store : ByteArray := prog_14_method_87_code
def yX12_store : MethodName := ⟨RX12, "store", "(III)I"⟩
abbrev cX12_get : ByteArray := prog_14_method_88_code
def yX12_get : MethodName := ⟨RX12, "get", "(II)I"⟩
abbrev cX12_film : ByteArray := prog_14_method_89_code
def yX12_film : MethodName := ⟨RX12, "film", "(I)I"⟩
abbrev cX12_rowOf : ByteArray := prog_14_method_90_code
def yX12_rowOf : MethodName := ⟨RX12, "rowOf", "(I)[I"⟩
abbrev cX12_image : ByteArray := prog_14_method_91_code
def yX12_image : MethodName := ⟨RX12, "image", "()I"⟩
abbrev cX12_undo : ByteArray := prog_14_method_92_code
def yX12_undo : MethodName := ⟨RX12, "undo", "()I"⟩
abbrev cX12_count : ByteArray := prog_14_method_93_code
def yX12_count : MethodName := ⟨RX12, "count", "(I)I"⟩
def RJx145de : String := "java/io/Serializable"
def TJx145de : u_T := fun k => match k with
  | _ => ("", "", "", false)
def tyJx145de : Nat → FieldType := fun k => match k with
  | _ => .int
abbrev wsJx145de0 : List Cond := u_ws RJx145de TJx145de 0
theorem nmJx145de : ∀ a, a < 0 → ∀ b, b < 0 → a ≠ b → (TJx145de a).2.1 ≠ (TJx145de b).2.1 := by decide +kernel
theorem tyJx145de_ok : ∀ k, k < 0 → parseFieldDescriptor (TJx145de k).2.2.1 = some (tyJx145de k) := by decide +kernel
def RJx9f9b0 : String := "java/lang/CharSequence"
def TJx9f9b0 : u_T := fun k => match k with
  | _ => ("", "", "", false)
def tyJx9f9b0 : Nat → FieldType := fun k => match k with
  | _ => .int
abbrev wsJx9f9b00 : List Cond := u_ws RJx9f9b0 TJx9f9b0 0
theorem nmJx9f9b0 : ∀ a, a < 0 → ∀ b, b < 0 → a ≠ b → (TJx9f9b0 a).2.1 ≠ (TJx9f9b0 b).2.1 := by decide +kernel
theorem tyJx9f9b0_ok : ∀ k, k < 0 → parseFieldDescriptor (TJx9f9b0 k).2.2.1 = some (tyJx9f9b0 k) := by decide +kernel
def RJxb160c : String := "java/lang/Comparable"
def TJxb160c : u_T := fun k => match k with
  | _ => ("", "", "", false)
def tyJxb160c : Nat → FieldType := fun k => match k with
  | _ => .int
abbrev wsJxb160c0 : List Cond := u_ws RJxb160c TJxb160c 0
theorem nmJxb160c : ∀ a, a < 0 → ∀ b, b < 0 → a ≠ b → (TJxb160c a).2.1 ≠ (TJxb160c b).2.1 := by decide +kernel
theorem tyJxb160c_ok : ∀ k, k < 0 → parseFieldDescriptor (TJxb160c k).2.2.1 = some (tyJxb160c k) := by decide +kernel
def RJ9 : String := "java/lang/Math"
def TJ9 : u_T := fun k => match k with
  | _ => ("", "", "", false)
def tyJ9 : Nat → FieldType := fun k => match k with
  | _ => .int
abbrev wsJ90 : List Cond := u_ws RJ9 TJ9 0
theorem nmJ9 : ∀ a, a < 0 → ∀ b, b < 0 → a ≠ b → (TJ9 a).2.1 ≠ (TJ9 b).2.1 := by decide +kernel
theorem tyJ9_ok : ∀ k, k < 0 → parseFieldDescriptor (TJ9 k).2.2.1 = some (tyJ9 k) := by decide +kernel
abbrev cJ9_abs_0f7a4 : ByteArray := prog_15_method_59_code
def yJ9_abs_0f7a4 : MethodName := ⟨RJ9, "abs", "(I)I"⟩
abbrev cJ9_max_7cf53 : ByteArray := prog_15_method_65_code
def yJ9_max_7cf53 : MethodName := ⟨RJ9, "max", "(II)I"⟩
abbrev cJ9_min_7cf53 : ByteArray := prog_15_method_69_code
def yJ9_min_7cf53 : MethodName := ⟨RJ9, "min", "(II)I"⟩
def RJ0 : String := "java/lang/String"
def TJ0 : u_T := fun k => match k with
  | _ => ("", "", "", false)
def tyJ0 : Nat → FieldType := fun k => match k with
  | _ => .int
abbrev wsJ00 : List Cond := u_ws RJ0 TJ0 0
theorem nmJ0 : ∀ a, a < 0 → ∀ b, b < 0 → a ≠ b → (TJ0 a).2.1 ≠ (TJ0 b).2.1 := by decide +kernel
theorem tyJ0_ok : ∀ k, k < 0 → parseFieldDescriptor (TJ0 k).2.2.1 = some (tyJ0 k) := by decide +kernel
abbrev cJ0_length_8abf5 : ByteArray := prog_16_method_54_code
def yJ0_length_8abf5 : MethodName := ⟨RJ0, "length", "()I"⟩
abbrev cJ0_charAt_5068e : ByteArray := prog_16_method_56_code
def yJ0_charAt_5068e : MethodName := ⟨RJ0, "charAt", "(I)C"⟩
abbrev cJ0_coder_7d493 : ByteArray := prog_16_method_152_code
def yJ0_coder_7d493 : MethodName := ⟨RJ0, "coder", "()B"⟩
abbrev cJ0_isLatin1_aae02 : ByteArray := prog_16_method_154_code
def yJ0_isLatin1_aae02 : MethodName := ⟨RJ0, "isLatin1", "()Z"⟩
abbrev cJ0_checkIndex_df160 : ByteArray := prog_16_method_155_code
def yJ0_checkIndex_df160 : MethodName := ⟨RJ0, "checkIndex", "(II)V"⟩
def RJ1 : String := "java/lang/StringLatin1"
def TJ1 : u_T := fun k => match k with
  | _ => ("", "", "", false)
def tyJ1 : Nat → FieldType := fun k => match k with
  | _ => .int
abbrev wsJ10 : List Cond := u_ws RJ1 TJ1 0
theorem nmJ1 : ∀ a, a < 0 → ∀ b, b < 0 → a ≠ b → (TJ1 a).2.1 ≠ (TJ1 b).2.1 := by decide +kernel
theorem tyJ1_ok : ∀ k, k < 0 → parseFieldDescriptor (TJ1 k).2.2.1 = some (tyJ1 k) := by decide +kernel
abbrev cJ1_charAt_3b067 : ByteArray := prog_17_method_2_code
def yJ1_charAt_3b067 : MethodName := ⟨RJ1, "charAt", "([BI)C"⟩
def RJ2 : String := "java/lang/StringUTF16"
def TJ2 : u_T := fun k => match k with
  | _ => ("", "", "", false)
def tyJ2 : Nat → FieldType := fun k => match k with
  | _ => .int
abbrev wsJ20 : List Cond := u_ws RJ2 TJ2 0
theorem nmJ2 : ∀ a, a < 0 → ∀ b, b < 0 → a ≠ b → (TJ2 a).2.1 ≠ (TJ2 b).2.1 := by decide +kernel
theorem tyJ2_ok : ∀ k, k < 0 → parseFieldDescriptor (TJ2 k).2.2.1 = some (tyJ2 k) := by decide +kernel
abbrev cJ2_getChar_3b067 : ByteArray := prog_18_method_5_code
def yJ2_getChar_3b067 : MethodName := ⟨RJ2, "getChar", "([BI)C"⟩
abbrev cJ2_length_9d52b : ByteArray := prog_18_method_6_code
def yJ2_length_9d52b : MethodName := ⟨RJ2, "length", "([B)I"⟩
abbrev cJ2_charAt_3b067 : ByteArray := prog_18_method_83_code
def yJ2_charAt_3b067 : MethodName := ⟨RJ2, "charAt", "([BI)C"⟩
abbrev cJ2_checkIndex_2214a : ByteArray := prog_18_method_91_code
def yJ2_checkIndex_2214a : MethodName := ⟨RJ2, "checkIndex", "(I[B)V"⟩
def RJ10 : String := "java/lang/System"
def TJ10 : u_T := fun k => match k with
  | _ => ("", "", "", false)
def tyJ10 : Nat → FieldType := fun k => match k with
  | _ => .int
abbrev wsJ100 : List Cond := u_ws RJ10 TJ10 0
theorem nmJ10 : ∀ a, a < 0 → ∀ b, b < 0 → a ≠ b → (TJ10 a).2.1 ≠ (TJ10 b).2.1 := by decide +kernel
theorem tyJ10_ok : ∀ k, k < 0 → parseFieldDescriptor (TJ10 k).2.2.1 = some (tyJ10 k) := by decide +kernel
def RJxfd54e : String := "java/lang/constant/Constable"
def TJxfd54e : u_T := fun k => match k with
  | _ => ("", "", "", false)
def tyJxfd54e : Nat → FieldType := fun k => match k with
  | _ => .int
abbrev wsJxfd54e0 : List Cond := u_ws RJxfd54e TJxfd54e 0
theorem nmJxfd54e : ∀ a, a < 0 → ∀ b, b < 0 → a ≠ b → (TJxfd54e a).2.1 ≠ (TJxfd54e b).2.1 := by decide +kernel
theorem tyJxfd54e_ok : ∀ k, k < 0 → parseFieldDescriptor (TJxfd54e k).2.2.1 = some (tyJxfd54e k) := by decide +kernel
def RJx3cf43 : String := "java/lang/constant/ConstantDesc"
def TJx3cf43 : u_T := fun k => match k with
  | _ => ("", "", "", false)
def tyJx3cf43 : Nat → FieldType := fun k => match k with
  | _ => .int
abbrev wsJx3cf430 : List Cond := u_ws RJx3cf43 TJx3cf43 0
theorem nmJx3cf43 : ∀ a, a < 0 → ∀ b, b < 0 → a ≠ b → (TJx3cf43 a).2.1 ≠ (TJx3cf43 b).2.1 := by decide +kernel
theorem tyJx3cf43_ok : ∀ k, k < 0 → parseFieldDescriptor (TJx3cf43 k).2.2.1 = some (tyJx3cf43 k) := by decide +kernel
def RJ7 : String := "java/util/Arrays"
def TJ7 : u_T := fun k => match k with
  | _ => ("", "", "", false)
def tyJ7 : Nat → FieldType := fun k => match k with
  | _ => .int
abbrev wsJ70 : List Cond := u_ws RJ7 TJ7 0
theorem nmJ7 : ∀ a, a < 0 → ∀ b, b < 0 → a ≠ b → (TJ7 a).2.1 ≠ (TJ7 b).2.1 := by decide +kernel
theorem tyJ7_ok : ∀ k, k < 0 → parseFieldDescriptor (TJ7 k).2.2.1 = some (tyJ7 k) := by decide +kernel
abbrev cJ7_fill_53178 : ByteArray := prog_20_method_103_code
def yJ7_fill_53178 : MethodName := ⟨RJ7, "fill", "([II)V"⟩
def RJ3 : String := "jdk/internal/util/Preconditions"
def TJ3 : u_T := fun k => match k with
  | _ => ("", "", "", false)
def tyJ3 : Nat → FieldType := fun k => match k with
  | _ => .int
abbrev wsJ30 : List Cond := u_ws RJ3 TJ3 0
theorem nmJ3 : ∀ a, a < 0 → ∀ b, b < 0 → a ≠ b → (TJ3 a).2.1 ≠ (TJ3 b).2.1 := by decide +kernel
theorem tyJ3_ok : ∀ k, k < 0 → parseFieldDescriptor (TJ3 k).2.2.1 = some (tyJ3 k) := by decide +kernel
abbrev cJ3_checkIndex_8e157 : ByteArray := prog_21_method_11_code
def yJ3_checkIndex_8e157 : MethodName := ⟨RJ3, "checkIndex", "(IILjava/util/function/BiFunction;)I"⟩
def RL : String := "BoatTrimLaw"
abbrev cL_law : ByteArray := code
def yL_law : MethodName := ⟨RL, "law", "([I)Z"⟩
def wsX2_init : List Cond := .code yX2_init cX2_init 1 none :: ([.methodLink RX2 3 objectInit, .instanceMethod objectInit, .code objectInit ⟨#[0xb1]⟩ 1 none, .fieldLink RX2 9 "BoatTrim$Hull" "sections" "I", .fieldLink RX2 15 "BoatTrim$Hull" "deep" "I", .fieldLink RX2 18 "BoatTrim$Hull" "shell" "I", .fieldLink RX2 21 "BoatTrim$Hull" "wet" "I", .arrayClass .int, .fieldLink RX2 24 "BoatTrim$Hull" "wide" "[I", .fieldLink RX2 28 "BoatTrim$Hull" "rise" "[I"] ++ wsX20)
def wsX1_init : List Cond := .code yX1_init cX1_init 1 none :: ([.methodLink RX1 3 objectInit, .instanceMethod objectInit, .code objectInit ⟨#[0xb1]⟩ 1 none, .fieldLink RX1 9 "BoatTrim$Cargo" "size" "I", .arrayClass .int, .fieldLink RX1 15 "BoatTrim$Cargo" "name" "[I", .fieldLink RX1 19 "BoatTrim$Cargo" "kind" "[I", .fieldLink RX1 22 "BoatTrim$Cargo" "weight" "[I", .fieldLink RX1 25 "BoatTrim$Cargo" "section" "[I", .fieldLink RX1 28 "BoatTrim$Cargo" "side" "[I", .fieldLink RX1 31 "BoatTrim$Cargo" "up" "[I"] ++ wsX10)
def wsX8_init : List Cond := .code yX8_init cX8_init 1 none :: ([.methodLink RX8 3 objectInit, .instanceMethod objectInit, .code objectInit ⟨#[0xb1]⟩ 1 none, .arrayClass .int, .fieldLink RX8 9 "BoatTrim$Tanks" "section" "[I", .fieldLink RX8 15 "BoatTrim$Tanks" "breadth" "[I", .fieldLink RX8 18 "BoatTrim$Tanks" "holds" "[I", .fieldLink RX8 21 "BoatTrim$Tanks" "has" "[I"] ++ wsX80)
def wsX0_init_r1 : List Cond := [Cond.methodLink RX0 3 objectInit, Cond.instanceMethod objectInit, Cond.code objectInit ⟨#[0xb1]⟩ 1 none, Cond.classLink RX0 9 RX2, Cond.instantiable RX2 6, Cond.initialized RX2, Cond.fieldLink RX0 12 "BoatTrim$Boat" "hull" "LBoatTrim$Hull;", Cond.classLink RX0 18 RX1, Cond.instantiable RX1 7, Cond.initialized RX1, Cond.fieldLink RX0 21 "BoatTrim$Boat" "cargo" "LBoatTrim$Cargo;", Cond.classLink RX0 25 RX8, Cond.instantiable RX8 4, Cond.initialized RX8, Cond.fieldLink RX0 28 "BoatTrim$Boat" "tanks" "LBoatTrim$Tanks;", Cond.instanceMethod yX2_init, Cond.code yX2_init cX2_init 1 none, Cond.methodLink RX2 3 objectInit, Cond.fieldLink RX2 9 "BoatTrim$Hull" "sections" "I", Cond.fieldLink RX2 15 "BoatTrim$Hull" "deep" "I", Cond.fieldLink RX2 18 "BoatTrim$Hull" "shell" "I", Cond.fieldLink RX2 21 "BoatTrim$Hull" "wet" "I", Cond.arrayClass .int, Cond.fieldLink RX2 24 "BoatTrim$Hull" "wide" "[I"]
def wsX0_init_r2 : List Cond := [Cond.fieldLink RX2 28 "BoatTrim$Hull" "rise" "[I", Cond.instanceMethod yX1_init, Cond.code yX1_init cX1_init 1 none, Cond.methodLink RX1 3 objectInit, Cond.fieldLink RX1 9 "BoatTrim$Cargo" "size" "I", Cond.fieldLink RX1 15 "BoatTrim$Cargo" "name" "[I", Cond.fieldLink RX1 19 "BoatTrim$Cargo" "kind" "[I", Cond.fieldLink RX1 22 "BoatTrim$Cargo" "weight" "[I", Cond.fieldLink RX1 25 "BoatTrim$Cargo" "section" "[I", Cond.fieldLink RX1 28 "BoatTrim$Cargo" "side" "[I", Cond.fieldLink RX1 31 "BoatTrim$Cargo" "up" "[I", Cond.instanceMethod yX8_init, Cond.code yX8_init cX8_init 1 none, Cond.methodLink RX8 3 objectInit, Cond.fieldLink RX8 9 "BoatTrim$Tanks" "section" "[I", Cond.fieldLink RX8 15 "BoatTrim$Tanks" "breadth" "[I", Cond.fieldLink RX8 18 "BoatTrim$Tanks" "holds" "[I", Cond.fieldLink RX8 21 "BoatTrim$Tanks" "has" "[I"]
def wsX0_init : List Cond := .code yX0_init cX0_init 1 none :: ((wsX0_init_r1 ++ wsX0_init_r2) ++ wsX20 ++ wsX00 ++ wsX10 ++ wsX80)
def wsX11_held : List Cond := .code yX11_held cX11_held 3 (some .int) :: ([.methodLink RX11 386 Lib.Math.min.name, .static Lib.Math.min.name, .initialized "java/lang/Math", .code Lib.Math.min.name Lib.Math.min.code 2 (some .int), .methodLink RX11 254 Lib.Math.max.name, .static Lib.Math.max.name, .code Lib.Math.max.name Lib.Math.max.code 2 (some .int)])
def wsJ7_fill_53178 : List Cond := .code yJ7_fill_53178 cJ7_fill_53178 4 none :: ([])
def wsX2_makeAsAtFirst : List Cond := .code yX2_makeAsAtFirst cX2_makeAsAtFirst 2 none :: ([.fieldLink RX2 9 "BoatTrim$Hull" "sections" "I", .fieldLink RX2 15 "BoatTrim$Hull" "deep" "I", .fieldLink RX2 18 "BoatTrim$Hull" "shell" "I", .fieldLink RX2 21 "BoatTrim$Hull" "wet" "I", .fieldLink RX2 24 "BoatTrim$Hull" "wide" "[I", .fieldLink RX2 28 "BoatTrim$Hull" "rise" "[I", .static yX11_held, .initialized RX11, .code yX11_held cX11_held 3 (some .int), .methodLink RX11 386 Lib.Math.min.name, .static Lib.Math.min.name, .initialized "java/lang/Math", .code Lib.Math.min.name Lib.Math.min.code 2 (some .int), .methodLink RX11 254 Lib.Math.max.name, .static Lib.Math.max.name, .code Lib.Math.max.name Lib.Math.max.code 2 (some .int), .methodLink RX2 35 yJ7_fill_53178, .static yJ7_fill_53178, .initialized RJ7, .code yJ7_fill_53178 cJ7_fill_53178 4 none] ++ wsX20)
def wsX8_empty : List Cond := .code yX8_empty cX8_empty 1 none :: ([.fieldLink RX8 9 "BoatTrim$Tanks" "section" "[I", .fieldLink RX8 15 "BoatTrim$Tanks" "breadth" "[I", .fieldLink RX8 18 "BoatTrim$Tanks" "holds" "[I", .fieldLink RX8 21 "BoatTrim$Tanks" "has" "[I", .methodLink RX8 24 yJ7_fill_53178, .static yJ7_fill_53178, .initialized RJ7, .code yJ7_fill_53178 cJ7_fill_53178 4 none] ++ wsX80)
def wsX0_makeAsAtFirst_r1 : List Cond := [Cond.fieldLink RX0 12 "BoatTrim$Boat" "hull" "LBoatTrim$Hull;", Cond.fieldLink RX0 21 "BoatTrim$Boat" "cargo" "LBoatTrim$Cargo;", Cond.fieldLink RX0 36 "BoatTrim$Cargo" "size" "I", Cond.fieldLink RX0 28 "BoatTrim$Boat" "tanks" "LBoatTrim$Tanks;", Cond.methodLink RX0 32 yX2_makeAsAtFirst, Cond.instanceMethod yX2_makeAsAtFirst, Cond.selects RX2 yX2_makeAsAtFirst yX2_makeAsAtFirst, Cond.initialized RX2, Cond.code yX2_makeAsAtFirst cX2_makeAsAtFirst 2 none, Cond.fieldLink RX2 9 "BoatTrim$Hull" "sections" "I", Cond.fieldLink RX2 15 "BoatTrim$Hull" "deep" "I", Cond.fieldLink RX2 18 "BoatTrim$Hull" "shell" "I", Cond.fieldLink RX2 21 "BoatTrim$Hull" "wet" "I", Cond.fieldLink RX2 24 "BoatTrim$Hull" "wide" "[I", Cond.fieldLink RX2 28 "BoatTrim$Hull" "rise" "[I", Cond.static yX11_held, Cond.initialized RX11, Cond.code yX11_held cX11_held 3 (some .int), Cond.methodLink RX11 386 Lib.Math.min.name, Cond.static Lib.Math.min.name, Cond.initialized "java/lang/Math", Cond.code Lib.Math.min.name Lib.Math.min.code 2 (some .int), Cond.methodLink RX11 254 Lib.Math.max.name, Cond.static Lib.Math.max.name]
def wsX0_makeAsAtFirst_r2 : List Cond := [Cond.code Lib.Math.max.name Lib.Math.max.code 2 (some .int), Cond.methodLink RX2 35 yJ7_fill_53178, Cond.static yJ7_fill_53178, Cond.initialized RJ7, Cond.code yJ7_fill_53178 cJ7_fill_53178 4 none, Cond.methodLink RX0 40 yX8_empty, Cond.instanceMethod yX8_empty, Cond.selects RX8 yX8_empty yX8_empty, Cond.initialized RX8, Cond.code yX8_empty cX8_empty 1 none, Cond.fieldLink RX8 9 "BoatTrim$Tanks" "section" "[I", Cond.fieldLink RX8 15 "BoatTrim$Tanks" "breadth" "[I", Cond.fieldLink RX8 18 "BoatTrim$Tanks" "holds" "[I", Cond.fieldLink RX8 21 "BoatTrim$Tanks" "has" "[I", Cond.methodLink RX8 24 yJ7_fill_53178]
def wsX0_makeAsAtFirst : List Cond := .code yX0_makeAsAtFirst cX0_makeAsAtFirst 2 none :: ((wsX0_makeAsAtFirst_r1 ++ wsX0_makeAsAtFirst_r2) ++ wsX00 ++ wsX10 ++ wsX20 ++ wsX80)
def wsX2_copyFrom : List Cond := .code yX2_copyFrom cX2_copyFrom 2 none :: ([.fieldLink RX2 9 "BoatTrim$Hull" "sections" "I", .fieldLink RX2 15 "BoatTrim$Hull" "deep" "I", .fieldLink RX2 18 "BoatTrim$Hull" "shell" "I", .fieldLink RX2 21 "BoatTrim$Hull" "wet" "I", .fieldLink RX2 24 "BoatTrim$Hull" "wide" "[I", .methodLink RX2 41 arraycopyName, .native arraycopyName, .static arraycopyName, .initialized "java/lang/System", .fieldLink RX2 28 "BoatTrim$Hull" "rise" "[I"] ++ wsX20)
def wsX1_copyPlaces : List Cond := .code yX1_copyPlaces cX1_copyPlaces 5 none :: ([.fieldLink RX1 15 "BoatTrim$Cargo" "name" "[I", .methodLink RX1 48 arraycopyName, .native arraycopyName, .static arraycopyName, .initialized "java/lang/System", .fieldLink RX1 19 "BoatTrim$Cargo" "kind" "[I", .fieldLink RX1 22 "BoatTrim$Cargo" "weight" "[I", .fieldLink RX1 25 "BoatTrim$Cargo" "section" "[I", .fieldLink RX1 28 "BoatTrim$Cargo" "side" "[I", .fieldLink RX1 31 "BoatTrim$Cargo" "up" "[I"] ++ wsX10)
def wsX1_copyFrom : List Cond := .code yX1_copyFrom cX1_copyFrom 2 none :: ([.fieldLink RX1 9 "BoatTrim$Cargo" "size" "I", .methodLink RX1 34 yX1_copyPlaces, .instanceMethod yX1_copyPlaces, .selects RX1 yX1_copyPlaces yX1_copyPlaces, .initialized RX1, .code yX1_copyPlaces cX1_copyPlaces 5 none, .fieldLink RX1 15 "BoatTrim$Cargo" "name" "[I", .methodLink RX1 48 arraycopyName, .native arraycopyName, .static arraycopyName, .initialized "java/lang/System", .fieldLink RX1 19 "BoatTrim$Cargo" "kind" "[I", .fieldLink RX1 22 "BoatTrim$Cargo" "weight" "[I", .fieldLink RX1 25 "BoatTrim$Cargo" "section" "[I", .fieldLink RX1 28 "BoatTrim$Cargo" "side" "[I", .fieldLink RX1 31 "BoatTrim$Cargo" "up" "[I"] ++ wsX10)
def wsX8_copyFrom : List Cond := .code yX8_copyFrom cX8_copyFrom 2 none :: ([.fieldLink RX8 9 "BoatTrim$Tanks" "section" "[I", .methodLink RX8 30 arraycopyName, .native arraycopyName, .static arraycopyName, .initialized "java/lang/System", .fieldLink RX8 15 "BoatTrim$Tanks" "breadth" "[I", .fieldLink RX8 18 "BoatTrim$Tanks" "holds" "[I", .fieldLink RX8 21 "BoatTrim$Tanks" "has" "[I"] ++ wsX80)
def wsX0_copyFrom_r1 : List Cond := [Cond.fieldLink RX0 12 "BoatTrim$Boat" "hull" "LBoatTrim$Hull;", Cond.fieldLink RX0 21 "BoatTrim$Boat" "cargo" "LBoatTrim$Cargo;", Cond.fieldLink RX0 28 "BoatTrim$Boat" "tanks" "LBoatTrim$Tanks;", Cond.methodLink RX0 43 yX2_copyFrom, Cond.instanceMethod yX2_copyFrom, Cond.selects RX2 yX2_copyFrom yX2_copyFrom, Cond.initialized RX2, Cond.code yX2_copyFrom cX2_copyFrom 2 none, Cond.fieldLink RX2 9 "BoatTrim$Hull" "sections" "I", Cond.fieldLink RX2 15 "BoatTrim$Hull" "deep" "I", Cond.fieldLink RX2 18 "BoatTrim$Hull" "shell" "I", Cond.fieldLink RX2 21 "BoatTrim$Hull" "wet" "I", Cond.fieldLink RX2 24 "BoatTrim$Hull" "wide" "[I", Cond.methodLink RX2 41 arraycopyName, Cond.native arraycopyName, Cond.static arraycopyName, Cond.initialized "java/lang/System", Cond.fieldLink RX2 28 "BoatTrim$Hull" "rise" "[I", Cond.methodLink RX0 47 yX1_copyFrom, Cond.instanceMethod yX1_copyFrom, Cond.selects RX1 yX1_copyFrom yX1_copyFrom, Cond.initialized RX1, Cond.code yX1_copyFrom cX1_copyFrom 2 none, Cond.fieldLink RX1 9 "BoatTrim$Cargo" "size" "I"]
def wsX0_copyFrom_r2 : List Cond := [Cond.methodLink RX1 34 yX1_copyPlaces, Cond.instanceMethod yX1_copyPlaces, Cond.selects RX1 yX1_copyPlaces yX1_copyPlaces, Cond.code yX1_copyPlaces cX1_copyPlaces 5 none, Cond.fieldLink RX1 15 "BoatTrim$Cargo" "name" "[I", Cond.methodLink RX1 48 arraycopyName, Cond.fieldLink RX1 19 "BoatTrim$Cargo" "kind" "[I", Cond.fieldLink RX1 22 "BoatTrim$Cargo" "weight" "[I", Cond.fieldLink RX1 25 "BoatTrim$Cargo" "section" "[I", Cond.fieldLink RX1 28 "BoatTrim$Cargo" "side" "[I", Cond.fieldLink RX1 31 "BoatTrim$Cargo" "up" "[I", Cond.methodLink RX0 50 yX8_copyFrom, Cond.instanceMethod yX8_copyFrom, Cond.selects RX8 yX8_copyFrom yX8_copyFrom, Cond.initialized RX8, Cond.code yX8_copyFrom cX8_copyFrom 2 none, Cond.fieldLink RX8 9 "BoatTrim$Tanks" "section" "[I", Cond.methodLink RX8 30 arraycopyName, Cond.fieldLink RX8 15 "BoatTrim$Tanks" "breadth" "[I", Cond.fieldLink RX8 18 "BoatTrim$Tanks" "holds" "[I", Cond.fieldLink RX8 21 "BoatTrim$Tanks" "has" "[I"]
def wsX0_copyFrom : List Cond := .code yX0_copyFrom cX0_copyFrom 2 none :: ((wsX0_copyFrom_r1 ++ wsX0_copyFrom_r2) ++ wsX00 ++ wsX20 ++ wsX10 ++ wsX80)
def wsX0_woolWeighs : List Cond := .code yX0_woolWeighs cX0_woolWeighs 2 (some .int) :: ([.fieldLink RX0 12 "BoatTrim$Boat" "hull" "LBoatTrim$Hull;", .fieldLink RX0 64 "BoatTrim$Hull" "wet" "I"] ++ wsX00 ++ wsX20)
def wsX0_weighsAt : List Cond := .code yX0_weighsAt cX0_weighsAt 2 (some .int) :: ([.fieldLink RX0 21 "BoatTrim$Boat" "cargo" "LBoatTrim$Cargo;", .fieldLink RX0 53 "BoatTrim$Cargo" "kind" "[I", .fieldLink RX0 57 "BoatTrim$Cargo" "weight" "[I", .methodLink RX0 60 yX0_woolWeighs, .instanceMethod yX0_woolWeighs, .selects RX0 yX0_woolWeighs yX0_woolWeighs, .initialized RX0, .code yX0_woolWeighs cX0_woolWeighs 2 (some .int), .fieldLink RX0 12 "BoatTrim$Boat" "hull" "LBoatTrim$Hull;", .fieldLink RX0 64 "BoatTrim$Hull" "wet" "I"] ++ wsX00 ++ wsX10 ++ wsX20)
def wsX0_allWeight : List Cond := .code yX0_allWeight cX0_allWeight 3 (some .int) :: ([.fieldLink RX0 12 "BoatTrim$Boat" "hull" "LBoatTrim$Hull;", .fieldLink RX0 67 "BoatTrim$Hull" "shell" "I", .fieldLink RX0 21 "BoatTrim$Boat" "cargo" "LBoatTrim$Cargo;", .fieldLink RX0 36 "BoatTrim$Cargo" "size" "I", .fieldLink RX0 28 "BoatTrim$Boat" "tanks" "LBoatTrim$Tanks;", .fieldLink RX0 73 "BoatTrim$Tanks" "has" "[I", .methodLink RX0 70 yX0_weighsAt, .instanceMethod yX0_weighsAt, .selects RX0 yX0_weighsAt yX0_weighsAt, .initialized RX0, .code yX0_weighsAt cX0_weighsAt 2 (some .int), .fieldLink RX0 53 "BoatTrim$Cargo" "kind" "[I", .fieldLink RX0 57 "BoatTrim$Cargo" "weight" "[I", .methodLink RX0 60 yX0_woolWeighs, .instanceMethod yX0_woolWeighs, .selects RX0 yX0_woolWeighs yX0_woolWeighs, .code yX0_woolWeighs cX0_woolWeighs 2 (some .int), .fieldLink RX0 64 "BoatTrim$Hull" "wet" "I"] ++ wsX00 ++ wsX20 ++ wsX10 ++ wsX80)
def wsX0_allAlong : List Cond := .code yX0_allAlong cX0_allAlong 3 (some .int) :: ([.fieldLink RX0 12 "BoatTrim$Boat" "hull" "LBoatTrim$Hull;", .fieldLink RX0 67 "BoatTrim$Hull" "shell" "I", .fieldLink RX0 76 "BoatTrim$Hull" "sections" "I", .fieldLink RX0 21 "BoatTrim$Boat" "cargo" "LBoatTrim$Cargo;", .fieldLink RX0 36 "BoatTrim$Cargo" "size" "I", .fieldLink RX0 79 "BoatTrim$Cargo" "section" "[I", .fieldLink RX0 28 "BoatTrim$Boat" "tanks" "LBoatTrim$Tanks;", .fieldLink RX0 73 "BoatTrim$Tanks" "has" "[I", .fieldLink RX0 82 "BoatTrim$Tanks" "section" "[I", .methodLink RX0 70 yX0_weighsAt, .instanceMethod yX0_weighsAt, .selects RX0 yX0_weighsAt yX0_weighsAt, .initialized RX0, .code yX0_weighsAt cX0_weighsAt 2 (some .int), .fieldLink RX0 53 "BoatTrim$Cargo" "kind" "[I", .fieldLink RX0 57 "BoatTrim$Cargo" "weight" "[I", .methodLink RX0 60 yX0_woolWeighs, .instanceMethod yX0_woolWeighs, .selects RX0 yX0_woolWeighs yX0_woolWeighs, .code yX0_woolWeighs cX0_woolWeighs 2 (some .int), .fieldLink RX0 64 "BoatTrim$Hull" "wet" "I"] ++ wsX00 ++ wsX20 ++ wsX10 ++ wsX80)
def wsX11_rollsOf : List Cond := .code yX11_rollsOf cX11_rollsOf 2 (some .int) :: ([.constant RX11 167 (-2147483648)])
def wsX0_asideRolledBy_r1 : List Cond := [Cond.fieldLink RX0 21 "BoatTrim$Boat" "cargo" "LBoatTrim$Cargo;", Cond.fieldLink RX0 36 "BoatTrim$Cargo" "size" "I", Cond.fieldLink RX0 89 "BoatTrim$Cargo" "side" "[I", Cond.fieldLink RX0 53 "BoatTrim$Cargo" "kind" "[I", Cond.static yX11_rollsOf, Cond.initialized RX11, Cond.code yX11_rollsOf cX11_rollsOf 2 (some .int), Cond.constant RX11 167 (-2147483648), Cond.static yX11_held, Cond.code yX11_held cX11_held 3 (some .int), Cond.methodLink RX11 386 Lib.Math.min.name, Cond.static Lib.Math.min.name, Cond.initialized "java/lang/Math", Cond.code Lib.Math.min.name Lib.Math.min.code 2 (some .int), Cond.methodLink RX11 254 Lib.Math.max.name, Cond.static Lib.Math.max.name, Cond.code Lib.Math.max.name Lib.Math.max.code 2 (some .int), Cond.methodLink RX0 70 yX0_weighsAt, Cond.instanceMethod yX0_weighsAt, Cond.selects RX0 yX0_weighsAt yX0_weighsAt, Cond.initialized RX0, Cond.code yX0_weighsAt cX0_weighsAt 2 (some .int), Cond.fieldLink RX0 57 "BoatTrim$Cargo" "weight" "[I", Cond.methodLink RX0 60 yX0_woolWeighs]
def wsX0_asideRolledBy_r2 : List Cond := [Cond.instanceMethod yX0_woolWeighs, Cond.selects RX0 yX0_woolWeighs yX0_woolWeighs, Cond.code yX0_woolWeighs cX0_woolWeighs 2 (some .int), Cond.fieldLink RX0 12 "BoatTrim$Boat" "hull" "LBoatTrim$Hull;", Cond.fieldLink RX0 64 "BoatTrim$Hull" "wet" "I"]
def wsX0_asideRolledBy : List Cond := .code yX0_asideRolledBy cX0_asideRolledBy 5 (some .int) :: ((wsX0_asideRolledBy_r1 ++ wsX0_asideRolledBy_r2) ++ wsX00 ++ wsX10 ++ wsX20)
def wsX0_allAside_r1 : List Cond := [Cond.methodLink RX0 83 yX0_asideRolledBy, Cond.instanceMethod yX0_asideRolledBy, Cond.selects RX0 yX0_asideRolledBy yX0_asideRolledBy, Cond.initialized RX0, Cond.code yX0_asideRolledBy cX0_asideRolledBy 5 (some .int), Cond.fieldLink RX0 21 "BoatTrim$Boat" "cargo" "LBoatTrim$Cargo;", Cond.fieldLink RX0 36 "BoatTrim$Cargo" "size" "I", Cond.fieldLink RX0 89 "BoatTrim$Cargo" "side" "[I", Cond.fieldLink RX0 53 "BoatTrim$Cargo" "kind" "[I", Cond.static yX11_rollsOf, Cond.initialized RX11, Cond.code yX11_rollsOf cX11_rollsOf 2 (some .int), Cond.constant RX11 167 (-2147483648), Cond.static yX11_held, Cond.code yX11_held cX11_held 3 (some .int), Cond.methodLink RX11 386 Lib.Math.min.name, Cond.static Lib.Math.min.name, Cond.initialized "java/lang/Math", Cond.code Lib.Math.min.name Lib.Math.min.code 2 (some .int), Cond.methodLink RX11 254 Lib.Math.max.name, Cond.static Lib.Math.max.name, Cond.code Lib.Math.max.name Lib.Math.max.code 2 (some .int), Cond.methodLink RX0 70 yX0_weighsAt, Cond.instanceMethod yX0_weighsAt]
def wsX0_allAside_r2 : List Cond := [Cond.selects RX0 yX0_weighsAt yX0_weighsAt, Cond.code yX0_weighsAt cX0_weighsAt 2 (some .int), Cond.fieldLink RX0 57 "BoatTrim$Cargo" "weight" "[I", Cond.methodLink RX0 60 yX0_woolWeighs, Cond.instanceMethod yX0_woolWeighs, Cond.selects RX0 yX0_woolWeighs yX0_woolWeighs, Cond.code yX0_woolWeighs cX0_woolWeighs 2 (some .int), Cond.fieldLink RX0 12 "BoatTrim$Boat" "hull" "LBoatTrim$Hull;", Cond.fieldLink RX0 64 "BoatTrim$Hull" "wet" "I"]
def wsX0_allAside : List Cond := .code yX0_allAside cX0_allAside 1 (some .int) :: ((wsX0_allAside_r1 ++ wsX0_allAside_r2) ++ wsX00 ++ wsX10 ++ wsX20)
def wsX0_allAloft : List Cond := .code yX0_allAloft cX0_allAloft 3 (some .int) :: ([.fieldLink RX0 21 "BoatTrim$Boat" "cargo" "LBoatTrim$Cargo;", .fieldLink RX0 36 "BoatTrim$Cargo" "size" "I", .fieldLink RX0 86 "BoatTrim$Cargo" "up" "[I", .fieldLink RX0 28 "BoatTrim$Boat" "tanks" "LBoatTrim$Tanks;", .fieldLink RX0 73 "BoatTrim$Tanks" "has" "[I", .methodLink RX0 70 yX0_weighsAt, .instanceMethod yX0_weighsAt, .selects RX0 yX0_weighsAt yX0_weighsAt, .initialized RX0, .code yX0_weighsAt cX0_weighsAt 2 (some .int), .fieldLink RX0 53 "BoatTrim$Cargo" "kind" "[I", .fieldLink RX0 57 "BoatTrim$Cargo" "weight" "[I", .methodLink RX0 60 yX0_woolWeighs, .instanceMethod yX0_woolWeighs, .selects RX0 yX0_woolWeighs yX0_woolWeighs, .code yX0_woolWeighs cX0_woolWeighs 2 (some .int), .fieldLink RX0 12 "BoatTrim$Boat" "hull" "LBoatTrim$Hull;", .fieldLink RX0 64 "BoatTrim$Hull" "wet" "I"] ++ wsX00 ++ wsX10 ++ wsX80 ++ wsX20)
def wsX2_top : List Cond := .code yX2_top cX2_top 1 (some .int) :: ([.fieldLink RX2 15 "BoatTrim$Hull" "deep" "I"] ++ wsX20)
def wsX2_draughtOf : List Cond := .code yX2_draughtOf cX2_draughtOf 4 (some .int) :: ([.fieldLink RX2 9 "BoatTrim$Hull" "sections" "I"] ++ wsX20)
def wsX2_waterAt : List Cond := .code yX2_waterAt cX2_waterAt 4 (some .int) :: ([.methodLink RX2 51 Lib.Math.min.name, .static Lib.Math.min.name, .initialized "java/lang/Math", .code Lib.Math.min.name Lib.Math.min.code 2 (some .int), .fieldLink RX2 28 "BoatTrim$Hull" "rise" "[I", .fieldLink RX2 24 "BoatTrim$Hull" "wide" "[I", .methodLink RX2 57 yX2_top, .instanceMethod yX2_top, .selects RX2 yX2_top yX2_top, .initialized RX2, .code yX2_top cX2_top 1 (some .int), .fieldLink RX2 15 "BoatTrim$Hull" "deep" "I"] ++ wsX20)
def wsX2_waterOfSlope : List Cond := .code yX2_waterOfSlope cX2_waterOfSlope 5 (some .int) :: ([.fieldLink RX2 9 "BoatTrim$Hull" "sections" "I", .methodLink RX2 61 yX2_draughtOf, .instanceMethod yX2_draughtOf, .selects RX2 yX2_draughtOf yX2_draughtOf, .initialized RX2, .code yX2_draughtOf cX2_draughtOf 4 (some .int), .methodLink RX2 64 yX2_waterAt, .instanceMethod yX2_waterAt, .selects RX2 yX2_waterAt yX2_waterAt, .code yX2_waterAt cX2_waterAt 4 (some .int), .methodLink RX2 51 Lib.Math.min.name, .static Lib.Math.min.name, .initialized "java/lang/Math", .code Lib.Math.min.name Lib.Math.min.code 2 (some .int), .fieldLink RX2 28 "BoatTrim$Hull" "rise" "[I", .fieldLink RX2 24 "BoatTrim$Hull" "wide" "[I", .methodLink RX2 57 yX2_top, .instanceMethod yX2_top, .selects RX2 yX2_top yX2_top, .code yX2_top cX2_top 1 (some .int), .fieldLink RX2 15 "BoatTrim$Hull" "deep" "I"] ++ wsX20)
def wsX2_startOf_r1 : List Cond := [Cond.fieldLink RX2 9 "BoatTrim$Hull" "sections" "I", Cond.methodLink RX2 67 Lib.Math.abs.name, Cond.static Lib.Math.abs.name, Cond.initialized "java/lang/Math", Cond.code Lib.Math.abs.name Lib.Math.abs.code 1 (some .int), Cond.methodLink RX2 57 yX2_top, Cond.instanceMethod yX2_top, Cond.selects RX2 yX2_top yX2_top, Cond.initialized RX2, Cond.code yX2_top cX2_top 1 (some .int), Cond.fieldLink RX2 15 "BoatTrim$Hull" "deep" "I", Cond.methodLink RX2 71 yX2_waterOfSlope, Cond.instanceMethod yX2_waterOfSlope, Cond.selects RX2 yX2_waterOfSlope yX2_waterOfSlope, Cond.code yX2_waterOfSlope cX2_waterOfSlope 5 (some .int), Cond.methodLink RX2 61 yX2_draughtOf, Cond.instanceMethod yX2_draughtOf, Cond.selects RX2 yX2_draughtOf yX2_draughtOf, Cond.code yX2_draughtOf cX2_draughtOf 4 (some .int), Cond.methodLink RX2 64 yX2_waterAt, Cond.instanceMethod yX2_waterAt, Cond.selects RX2 yX2_waterAt yX2_waterAt, Cond.code yX2_waterAt cX2_waterAt 4 (some .int), Cond.methodLink RX2 51 Lib.Math.min.name]
def wsX2_startOf_r2 : List Cond := [Cond.static Lib.Math.min.name, Cond.code Lib.Math.min.name Lib.Math.min.code 2 (some .int), Cond.fieldLink RX2 28 "BoatTrim$Hull" "rise" "[I", Cond.fieldLink RX2 24 "BoatTrim$Hull" "wide" "[I"]
def wsX2_startOf : List Cond := .code yX2_startOf cX2_startOf 7 (some .int) :: ((wsX2_startOf_r1 ++ wsX2_startOf_r2) ++ wsX20)
def wsX11_cubeByTwelve : List Cond := .code yX11_cubeByTwelve cX11_cubeByTwelve 1 (some .int) :: ([])
def wsX8_isSlack : List Cond := .code yX8_isSlack cX8_isSlack 2 (some .boolean) :: ([.fieldLink RX8 21 "BoatTrim$Tanks" "has" "[I", .fieldLink RX8 18 "BoatTrim$Tanks" "holds" "[I"] ++ wsX80)
def wsX8_lostRighting : List Cond := .code yX8_lostRighting cX8_lostRighting 3 (some .int) :: ([.fieldLink RX8 15 "BoatTrim$Tanks" "breadth" "[I", .methodLink RX8 40 yX8_isSlack, .instanceMethod yX8_isSlack, .selects RX8 yX8_isSlack yX8_isSlack, .initialized RX8, .code yX8_isSlack cX8_isSlack 2 (some .boolean), .fieldLink RX8 21 "BoatTrim$Tanks" "has" "[I", .fieldLink RX8 18 "BoatTrim$Tanks" "holds" "[I", .static yX11_cubeByTwelve, .initialized RX11, .code yX11_cubeByTwelve cX11_cubeByTwelve 1 (some .int)] ++ wsX80)
def wsX0_allRighting_r1 : List Cond := [Cond.fieldLink RX0 12 "BoatTrim$Boat" "hull" "LBoatTrim$Hull;", Cond.constant RX0 107 (-2147483648), Cond.fieldLink RX0 76 "BoatTrim$Hull" "sections" "I", Cond.fieldLink RX0 111 "BoatTrim$Hull" "wide" "[I", Cond.fieldLink RX0 28 "BoatTrim$Boat" "tanks" "LBoatTrim$Tanks;", Cond.methodLink RX0 100 yX0_allWeight, Cond.instanceMethod yX0_allWeight, Cond.selects RX0 yX0_allWeight yX0_allWeight, Cond.initialized RX0, Cond.code yX0_allWeight cX0_allWeight 3 (some .int), Cond.fieldLink RX0 67 "BoatTrim$Hull" "shell" "I", Cond.fieldLink RX0 21 "BoatTrim$Boat" "cargo" "LBoatTrim$Cargo;", Cond.fieldLink RX0 36 "BoatTrim$Cargo" "size" "I", Cond.fieldLink RX0 73 "BoatTrim$Tanks" "has" "[I", Cond.methodLink RX0 70 yX0_weighsAt, Cond.instanceMethod yX0_weighsAt, Cond.selects RX0 yX0_weighsAt yX0_weighsAt, Cond.code yX0_weighsAt cX0_weighsAt 2 (some .int), Cond.fieldLink RX0 53 "BoatTrim$Cargo" "kind" "[I", Cond.fieldLink RX0 57 "BoatTrim$Cargo" "weight" "[I", Cond.methodLink RX0 60 yX0_woolWeighs, Cond.instanceMethod yX0_woolWeighs, Cond.selects RX0 yX0_woolWeighs yX0_woolWeighs, Cond.code yX0_woolWeighs cX0_woolWeighs 2 (some .int)]
def wsX0_allRighting_r2 : List Cond := [Cond.fieldLink RX0 64 "BoatTrim$Hull" "wet" "I", Cond.methodLink RX0 104 yX2_startOf, Cond.instanceMethod yX2_startOf, Cond.selects RX2 yX2_startOf yX2_startOf, Cond.initialized RX2, Cond.code yX2_startOf cX2_startOf 7 (some .int), Cond.fieldLink RX2 9 "BoatTrim$Hull" "sections" "I", Cond.methodLink RX2 67 Lib.Math.abs.name, Cond.static Lib.Math.abs.name, Cond.initialized "java/lang/Math", Cond.code Lib.Math.abs.name Lib.Math.abs.code 1 (some .int), Cond.methodLink RX2 57 yX2_top, Cond.instanceMethod yX2_top, Cond.selects RX2 yX2_top yX2_top, Cond.code yX2_top cX2_top 1 (some .int), Cond.fieldLink RX2 15 "BoatTrim$Hull" "deep" "I", Cond.methodLink RX2 71 yX2_waterOfSlope, Cond.instanceMethod yX2_waterOfSlope, Cond.selects RX2 yX2_waterOfSlope yX2_waterOfSlope, Cond.code yX2_waterOfSlope cX2_waterOfSlope 5 (some .int), Cond.methodLink RX2 61 yX2_draughtOf, Cond.instanceMethod yX2_draughtOf, Cond.selects RX2 yX2_draughtOf yX2_draughtOf, Cond.code yX2_draughtOf cX2_draughtOf 4 (some .int)]
def wsX0_allRighting_r3 : List Cond := [Cond.methodLink RX2 64 yX2_waterAt, Cond.instanceMethod yX2_waterAt, Cond.selects RX2 yX2_waterAt yX2_waterAt, Cond.code yX2_waterAt cX2_waterAt 4 (some .int), Cond.methodLink RX2 51 Lib.Math.min.name, Cond.static Lib.Math.min.name, Cond.code Lib.Math.min.name Lib.Math.min.code 2 (some .int), Cond.fieldLink RX2 28 "BoatTrim$Hull" "rise" "[I", Cond.fieldLink RX2 24 "BoatTrim$Hull" "wide" "[I", Cond.methodLink RX0 108 yX2_waterAt, Cond.static yX11_cubeByTwelve, Cond.initialized RX11, Cond.code yX11_cubeByTwelve cX11_cubeByTwelve 1 (some .int), Cond.methodLink RX0 117 yX8_lostRighting, Cond.instanceMethod yX8_lostRighting, Cond.selects RX8 yX8_lostRighting yX8_lostRighting, Cond.initialized RX8, Cond.code yX8_lostRighting cX8_lostRighting 3 (some .int), Cond.fieldLink RX8 15 "BoatTrim$Tanks" "breadth" "[I", Cond.methodLink RX8 40 yX8_isSlack, Cond.instanceMethod yX8_isSlack, Cond.selects RX8 yX8_isSlack yX8_isSlack, Cond.code yX8_isSlack cX8_isSlack 2 (some .boolean), Cond.fieldLink RX8 21 "BoatTrim$Tanks" "has" "[I"]
def wsX0_allRighting_r4 : List Cond := [Cond.fieldLink RX8 18 "BoatTrim$Tanks" "holds" "[I", Cond.methodLink RX0 120 yX0_allAloft, Cond.instanceMethod yX0_allAloft, Cond.selects RX0 yX0_allAloft yX0_allAloft, Cond.code yX0_allAloft cX0_allAloft 3 (some .int), Cond.fieldLink RX0 86 "BoatTrim$Cargo" "up" "[I"]
def wsX0_allRighting : List Cond := .code yX0_allRighting cX0_allRighting 4 (some .int) :: ((wsX0_allRighting_r1 ++ (wsX0_allRighting_r2 ++ (wsX0_allRighting_r3 ++ wsX0_allRighting_r4))) ++ wsX00 ++ wsX20 ++ wsX10 ++ wsX80)
def wsX0_heelRolledBy_r1 : List Cond := [Cond.constant RX0 107 (-2147483648), Cond.methodLink RX0 83 yX0_asideRolledBy, Cond.instanceMethod yX0_asideRolledBy, Cond.selects RX0 yX0_asideRolledBy yX0_asideRolledBy, Cond.initialized RX0, Cond.code yX0_asideRolledBy cX0_asideRolledBy 5 (some .int), Cond.fieldLink RX0 21 "BoatTrim$Boat" "cargo" "LBoatTrim$Cargo;", Cond.fieldLink RX0 36 "BoatTrim$Cargo" "size" "I", Cond.fieldLink RX0 89 "BoatTrim$Cargo" "side" "[I", Cond.fieldLink RX0 53 "BoatTrim$Cargo" "kind" "[I", Cond.static yX11_rollsOf, Cond.initialized RX11, Cond.code yX11_rollsOf cX11_rollsOf 2 (some .int), Cond.constant RX11 167 (-2147483648), Cond.static yX11_held, Cond.code yX11_held cX11_held 3 (some .int), Cond.methodLink RX11 386 Lib.Math.min.name, Cond.static Lib.Math.min.name, Cond.initialized "java/lang/Math", Cond.code Lib.Math.min.name Lib.Math.min.code 2 (some .int), Cond.methodLink RX11 254 Lib.Math.max.name, Cond.static Lib.Math.max.name, Cond.code Lib.Math.max.name Lib.Math.max.code 2 (some .int), Cond.methodLink RX0 70 yX0_weighsAt]
def wsX0_heelRolledBy_r2 : List Cond := [Cond.instanceMethod yX0_weighsAt, Cond.selects RX0 yX0_weighsAt yX0_weighsAt, Cond.code yX0_weighsAt cX0_weighsAt 2 (some .int), Cond.fieldLink RX0 57 "BoatTrim$Cargo" "weight" "[I", Cond.methodLink RX0 60 yX0_woolWeighs, Cond.instanceMethod yX0_woolWeighs, Cond.selects RX0 yX0_woolWeighs yX0_woolWeighs, Cond.code yX0_woolWeighs cX0_woolWeighs 2 (some .int), Cond.fieldLink RX0 12 "BoatTrim$Boat" "hull" "LBoatTrim$Hull;", Cond.fieldLink RX0 64 "BoatTrim$Hull" "wet" "I"]
def wsX0_heelRolledBy : List Cond := .code yX0_heelRolledBy cX0_heelRolledBy 3 (some .int) :: ((wsX0_heelRolledBy_r1 ++ wsX0_heelRolledBy_r2) ++ wsX00 ++ wsX10 ++ wsX20)
def wsX0_heelBehind_r1 : List Cond := [Cond.constant RX0 107 (-2147483648), Cond.methodLink RX0 123 yX0_allRighting, Cond.instanceMethod yX0_allRighting, Cond.selects RX0 yX0_allRighting yX0_allRighting, Cond.initialized RX0, Cond.code yX0_allRighting cX0_allRighting 4 (some .int), Cond.fieldLink RX0 12 "BoatTrim$Boat" "hull" "LBoatTrim$Hull;", Cond.fieldLink RX0 76 "BoatTrim$Hull" "sections" "I", Cond.fieldLink RX0 111 "BoatTrim$Hull" "wide" "[I", Cond.fieldLink RX0 28 "BoatTrim$Boat" "tanks" "LBoatTrim$Tanks;", Cond.methodLink RX0 100 yX0_allWeight, Cond.instanceMethod yX0_allWeight, Cond.selects RX0 yX0_allWeight yX0_allWeight, Cond.code yX0_allWeight cX0_allWeight 3 (some .int), Cond.fieldLink RX0 67 "BoatTrim$Hull" "shell" "I", Cond.fieldLink RX0 21 "BoatTrim$Boat" "cargo" "LBoatTrim$Cargo;", Cond.fieldLink RX0 36 "BoatTrim$Cargo" "size" "I", Cond.fieldLink RX0 73 "BoatTrim$Tanks" "has" "[I", Cond.methodLink RX0 70 yX0_weighsAt, Cond.instanceMethod yX0_weighsAt, Cond.selects RX0 yX0_weighsAt yX0_weighsAt, Cond.code yX0_weighsAt cX0_weighsAt 2 (some .int), Cond.fieldLink RX0 53 "BoatTrim$Cargo" "kind" "[I", Cond.fieldLink RX0 57 "BoatTrim$Cargo" "weight" "[I"]
def wsX0_heelBehind_r2 : List Cond := [Cond.methodLink RX0 60 yX0_woolWeighs, Cond.instanceMethod yX0_woolWeighs, Cond.selects RX0 yX0_woolWeighs yX0_woolWeighs, Cond.code yX0_woolWeighs cX0_woolWeighs 2 (some .int), Cond.fieldLink RX0 64 "BoatTrim$Hull" "wet" "I", Cond.methodLink RX0 104 yX2_startOf, Cond.instanceMethod yX2_startOf, Cond.selects RX2 yX2_startOf yX2_startOf, Cond.initialized RX2, Cond.code yX2_startOf cX2_startOf 7 (some .int), Cond.fieldLink RX2 9 "BoatTrim$Hull" "sections" "I", Cond.methodLink RX2 67 Lib.Math.abs.name, Cond.static Lib.Math.abs.name, Cond.initialized "java/lang/Math", Cond.code Lib.Math.abs.name Lib.Math.abs.code 1 (some .int), Cond.methodLink RX2 57 yX2_top, Cond.instanceMethod yX2_top, Cond.selects RX2 yX2_top yX2_top, Cond.code yX2_top cX2_top 1 (some .int), Cond.fieldLink RX2 15 "BoatTrim$Hull" "deep" "I", Cond.methodLink RX2 71 yX2_waterOfSlope, Cond.instanceMethod yX2_waterOfSlope, Cond.selects RX2 yX2_waterOfSlope yX2_waterOfSlope, Cond.code yX2_waterOfSlope cX2_waterOfSlope 5 (some .int)]
def wsX0_heelBehind_r3 : List Cond := [Cond.methodLink RX2 61 yX2_draughtOf, Cond.instanceMethod yX2_draughtOf, Cond.selects RX2 yX2_draughtOf yX2_draughtOf, Cond.code yX2_draughtOf cX2_draughtOf 4 (some .int), Cond.methodLink RX2 64 yX2_waterAt, Cond.instanceMethod yX2_waterAt, Cond.selects RX2 yX2_waterAt yX2_waterAt, Cond.code yX2_waterAt cX2_waterAt 4 (some .int), Cond.methodLink RX2 51 Lib.Math.min.name, Cond.static Lib.Math.min.name, Cond.code Lib.Math.min.name Lib.Math.min.code 2 (some .int), Cond.fieldLink RX2 28 "BoatTrim$Hull" "rise" "[I", Cond.fieldLink RX2 24 "BoatTrim$Hull" "wide" "[I", Cond.methodLink RX0 108 yX2_waterAt, Cond.static yX11_cubeByTwelve, Cond.initialized RX11, Cond.code yX11_cubeByTwelve cX11_cubeByTwelve 1 (some .int), Cond.methodLink RX0 117 yX8_lostRighting, Cond.instanceMethod yX8_lostRighting, Cond.selects RX8 yX8_lostRighting yX8_lostRighting, Cond.initialized RX8, Cond.code yX8_lostRighting cX8_lostRighting 3 (some .int), Cond.fieldLink RX8 15 "BoatTrim$Tanks" "breadth" "[I", Cond.methodLink RX8 40 yX8_isSlack]
def wsX0_heelBehind_r4 : List Cond := [Cond.instanceMethod yX8_isSlack, Cond.selects RX8 yX8_isSlack yX8_isSlack, Cond.code yX8_isSlack cX8_isSlack 2 (some .boolean), Cond.fieldLink RX8 21 "BoatTrim$Tanks" "has" "[I", Cond.fieldLink RX8 18 "BoatTrim$Tanks" "holds" "[I", Cond.methodLink RX0 120 yX0_allAloft, Cond.instanceMethod yX0_allAloft, Cond.selects RX0 yX0_allAloft yX0_allAloft, Cond.code yX0_allAloft cX0_allAloft 3 (some .int), Cond.fieldLink RX0 86 "BoatTrim$Cargo" "up" "[I", Cond.methodLink RX0 126 yX0_heelRolledBy, Cond.instanceMethod yX0_heelRolledBy, Cond.selects RX0 yX0_heelRolledBy yX0_heelRolledBy, Cond.code yX0_heelRolledBy cX0_heelRolledBy 3 (some .int), Cond.methodLink RX0 83 yX0_asideRolledBy, Cond.instanceMethod yX0_asideRolledBy, Cond.selects RX0 yX0_asideRolledBy yX0_asideRolledBy, Cond.code yX0_asideRolledBy cX0_asideRolledBy 5 (some .int), Cond.fieldLink RX0 89 "BoatTrim$Cargo" "side" "[I", Cond.static yX11_rollsOf, Cond.code yX11_rollsOf cX11_rollsOf 2 (some .int), Cond.constant RX11 167 (-2147483648), Cond.static yX11_held, Cond.code yX11_held cX11_held 3 (some .int)]
def wsX0_heelBehind_r5 : List Cond := [Cond.methodLink RX11 386 Lib.Math.min.name, Cond.methodLink RX11 254 Lib.Math.max.name, Cond.static Lib.Math.max.name, Cond.code Lib.Math.max.name Lib.Math.max.code 2 (some .int)]
def wsX0_heelBehind : List Cond := .code yX0_heelBehind cX0_heelBehind 5 (some .int) :: ((wsX0_heelBehind_r1 ++ (wsX0_heelBehind_r2 ++ (wsX0_heelBehind_r3 ++ (wsX0_heelBehind_r4 ++ wsX0_heelBehind_r5)))) ++ wsX00 ++ wsX20 ++ wsX10 ++ wsX80)
def wsX0_roundsTillSteady_r1 : List Cond := [Cond.methodLink RX0 123 yX0_allRighting, Cond.instanceMethod yX0_allRighting, Cond.selects RX0 yX0_allRighting yX0_allRighting, Cond.initialized RX0, Cond.code yX0_allRighting cX0_allRighting 4 (some .int), Cond.fieldLink RX0 12 "BoatTrim$Boat" "hull" "LBoatTrim$Hull;", Cond.constant RX0 107 (-2147483648), Cond.fieldLink RX0 76 "BoatTrim$Hull" "sections" "I", Cond.fieldLink RX0 111 "BoatTrim$Hull" "wide" "[I", Cond.fieldLink RX0 28 "BoatTrim$Boat" "tanks" "LBoatTrim$Tanks;", Cond.methodLink RX0 100 yX0_allWeight, Cond.instanceMethod yX0_allWeight, Cond.selects RX0 yX0_allWeight yX0_allWeight, Cond.code yX0_allWeight cX0_allWeight 3 (some .int), Cond.fieldLink RX0 67 "BoatTrim$Hull" "shell" "I", Cond.fieldLink RX0 21 "BoatTrim$Boat" "cargo" "LBoatTrim$Cargo;", Cond.fieldLink RX0 36 "BoatTrim$Cargo" "size" "I", Cond.fieldLink RX0 73 "BoatTrim$Tanks" "has" "[I", Cond.methodLink RX0 70 yX0_weighsAt, Cond.instanceMethod yX0_weighsAt, Cond.selects RX0 yX0_weighsAt yX0_weighsAt, Cond.code yX0_weighsAt cX0_weighsAt 2 (some .int), Cond.fieldLink RX0 53 "BoatTrim$Cargo" "kind" "[I", Cond.fieldLink RX0 57 "BoatTrim$Cargo" "weight" "[I"]
def wsX0_roundsTillSteady_r2 : List Cond := [Cond.methodLink RX0 60 yX0_woolWeighs, Cond.instanceMethod yX0_woolWeighs, Cond.selects RX0 yX0_woolWeighs yX0_woolWeighs, Cond.code yX0_woolWeighs cX0_woolWeighs 2 (some .int), Cond.fieldLink RX0 64 "BoatTrim$Hull" "wet" "I", Cond.methodLink RX0 104 yX2_startOf, Cond.instanceMethod yX2_startOf, Cond.selects RX2 yX2_startOf yX2_startOf, Cond.initialized RX2, Cond.code yX2_startOf cX2_startOf 7 (some .int), Cond.fieldLink RX2 9 "BoatTrim$Hull" "sections" "I", Cond.methodLink RX2 67 Lib.Math.abs.name, Cond.static Lib.Math.abs.name, Cond.initialized "java/lang/Math", Cond.code Lib.Math.abs.name Lib.Math.abs.code 1 (some .int), Cond.methodLink RX2 57 yX2_top, Cond.instanceMethod yX2_top, Cond.selects RX2 yX2_top yX2_top, Cond.code yX2_top cX2_top 1 (some .int), Cond.fieldLink RX2 15 "BoatTrim$Hull" "deep" "I", Cond.methodLink RX2 71 yX2_waterOfSlope, Cond.instanceMethod yX2_waterOfSlope, Cond.selects RX2 yX2_waterOfSlope yX2_waterOfSlope, Cond.code yX2_waterOfSlope cX2_waterOfSlope 5 (some .int)]
def wsX0_roundsTillSteady_r3 : List Cond := [Cond.methodLink RX2 61 yX2_draughtOf, Cond.instanceMethod yX2_draughtOf, Cond.selects RX2 yX2_draughtOf yX2_draughtOf, Cond.code yX2_draughtOf cX2_draughtOf 4 (some .int), Cond.methodLink RX2 64 yX2_waterAt, Cond.instanceMethod yX2_waterAt, Cond.selects RX2 yX2_waterAt yX2_waterAt, Cond.code yX2_waterAt cX2_waterAt 4 (some .int), Cond.methodLink RX2 51 Lib.Math.min.name, Cond.static Lib.Math.min.name, Cond.code Lib.Math.min.name Lib.Math.min.code 2 (some .int), Cond.fieldLink RX2 28 "BoatTrim$Hull" "rise" "[I", Cond.fieldLink RX2 24 "BoatTrim$Hull" "wide" "[I", Cond.methodLink RX0 108 yX2_waterAt, Cond.static yX11_cubeByTwelve, Cond.initialized RX11, Cond.code yX11_cubeByTwelve cX11_cubeByTwelve 1 (some .int), Cond.methodLink RX0 117 yX8_lostRighting, Cond.instanceMethod yX8_lostRighting, Cond.selects RX8 yX8_lostRighting yX8_lostRighting, Cond.initialized RX8, Cond.code yX8_lostRighting cX8_lostRighting 3 (some .int), Cond.fieldLink RX8 15 "BoatTrim$Tanks" "breadth" "[I", Cond.methodLink RX8 40 yX8_isSlack]
def wsX0_roundsTillSteady_r4 : List Cond := [Cond.instanceMethod yX8_isSlack, Cond.selects RX8 yX8_isSlack yX8_isSlack, Cond.code yX8_isSlack cX8_isSlack 2 (some .boolean), Cond.fieldLink RX8 21 "BoatTrim$Tanks" "has" "[I", Cond.fieldLink RX8 18 "BoatTrim$Tanks" "holds" "[I", Cond.methodLink RX0 120 yX0_allAloft, Cond.instanceMethod yX0_allAloft, Cond.selects RX0 yX0_allAloft yX0_allAloft, Cond.code yX0_allAloft cX0_allAloft 3 (some .int), Cond.fieldLink RX0 86 "BoatTrim$Cargo" "up" "[I", Cond.methodLink RX0 126 yX0_heelRolledBy, Cond.instanceMethod yX0_heelRolledBy, Cond.selects RX0 yX0_heelRolledBy yX0_heelRolledBy, Cond.code yX0_heelRolledBy cX0_heelRolledBy 3 (some .int), Cond.methodLink RX0 83 yX0_asideRolledBy, Cond.instanceMethod yX0_asideRolledBy, Cond.selects RX0 yX0_asideRolledBy yX0_asideRolledBy, Cond.code yX0_asideRolledBy cX0_asideRolledBy 5 (some .int), Cond.fieldLink RX0 89 "BoatTrim$Cargo" "side" "[I", Cond.static yX11_rollsOf, Cond.code yX11_rollsOf cX11_rollsOf 2 (some .int), Cond.constant RX11 167 (-2147483648), Cond.static yX11_held, Cond.code yX11_held cX11_held 3 (some .int)]
def wsX0_roundsTillSteady_r5 : List Cond := [Cond.methodLink RX11 386 Lib.Math.min.name, Cond.methodLink RX11 254 Lib.Math.max.name, Cond.static Lib.Math.max.name, Cond.code Lib.Math.max.name Lib.Math.max.code 2 (some .int)]
def wsX0_roundsTillSteady : List Cond := .code yX0_roundsTillSteady cX0_roundsTillSteady 5 (some .int) :: ((wsX0_roundsTillSteady_r1 ++ (wsX0_roundsTillSteady_r2 ++ (wsX0_roundsTillSteady_r3 ++ (wsX0_roundsTillSteady_r4 ++ wsX0_roundsTillSteady_r5)))) ++ wsX00 ++ wsX20 ++ wsX10 ++ wsX80)
def wsX2_pullOfSlope : List Cond := .code yX2_pullOfSlope cX2_pullOfSlope 5 (some .int) :: ([.fieldLink RX2 9 "BoatTrim$Hull" "sections" "I", .methodLink RX2 61 yX2_draughtOf, .instanceMethod yX2_draughtOf, .selects RX2 yX2_draughtOf yX2_draughtOf, .initialized RX2, .code yX2_draughtOf cX2_draughtOf 4 (some .int), .methodLink RX2 64 yX2_waterAt, .instanceMethod yX2_waterAt, .selects RX2 yX2_waterAt yX2_waterAt, .code yX2_waterAt cX2_waterAt 4 (some .int), .methodLink RX2 51 Lib.Math.min.name, .static Lib.Math.min.name, .initialized "java/lang/Math", .code Lib.Math.min.name Lib.Math.min.code 2 (some .int), .fieldLink RX2 28 "BoatTrim$Hull" "rise" "[I", .fieldLink RX2 24 "BoatTrim$Hull" "wide" "[I", .methodLink RX2 57 yX2_top, .instanceMethod yX2_top, .selects RX2 yX2_top yX2_top, .code yX2_top cX2_top 1 (some .int), .fieldLink RX2 15 "BoatTrim$Hull" "deep" "I"] ++ wsX20)
def wsX0_offOf_r1 : List Cond := [Cond.fieldLink RX0 12 "BoatTrim$Boat" "hull" "LBoatTrim$Hull;", Cond.constant RX0 107 (-2147483648), Cond.methodLink RX0 100 yX0_allWeight, Cond.instanceMethod yX0_allWeight, Cond.selects RX0 yX0_allWeight yX0_allWeight, Cond.initialized RX0, Cond.code yX0_allWeight cX0_allWeight 3 (some .int), Cond.fieldLink RX0 67 "BoatTrim$Hull" "shell" "I", Cond.fieldLink RX0 21 "BoatTrim$Boat" "cargo" "LBoatTrim$Cargo;", Cond.fieldLink RX0 36 "BoatTrim$Cargo" "size" "I", Cond.fieldLink RX0 28 "BoatTrim$Boat" "tanks" "LBoatTrim$Tanks;", Cond.fieldLink RX0 73 "BoatTrim$Tanks" "has" "[I", Cond.methodLink RX0 70 yX0_weighsAt, Cond.instanceMethod yX0_weighsAt, Cond.selects RX0 yX0_weighsAt yX0_weighsAt, Cond.code yX0_weighsAt cX0_weighsAt 2 (some .int), Cond.fieldLink RX0 53 "BoatTrim$Cargo" "kind" "[I", Cond.fieldLink RX0 57 "BoatTrim$Cargo" "weight" "[I", Cond.methodLink RX0 60 yX0_woolWeighs, Cond.instanceMethod yX0_woolWeighs, Cond.selects RX0 yX0_woolWeighs yX0_woolWeighs, Cond.code yX0_woolWeighs cX0_woolWeighs 2 (some .int), Cond.fieldLink RX0 64 "BoatTrim$Hull" "wet" "I", Cond.methodLink RX0 104 yX2_startOf]
def wsX0_offOf_r2 : List Cond := [Cond.instanceMethod yX2_startOf, Cond.selects RX2 yX2_startOf yX2_startOf, Cond.initialized RX2, Cond.code yX2_startOf cX2_startOf 7 (some .int), Cond.fieldLink RX2 9 "BoatTrim$Hull" "sections" "I", Cond.methodLink RX2 67 Lib.Math.abs.name, Cond.static Lib.Math.abs.name, Cond.initialized "java/lang/Math", Cond.code Lib.Math.abs.name Lib.Math.abs.code 1 (some .int), Cond.methodLink RX2 57 yX2_top, Cond.instanceMethod yX2_top, Cond.selects RX2 yX2_top yX2_top, Cond.code yX2_top cX2_top 1 (some .int), Cond.fieldLink RX2 15 "BoatTrim$Hull" "deep" "I", Cond.methodLink RX2 71 yX2_waterOfSlope, Cond.instanceMethod yX2_waterOfSlope, Cond.selects RX2 yX2_waterOfSlope yX2_waterOfSlope, Cond.code yX2_waterOfSlope cX2_waterOfSlope 5 (some .int), Cond.methodLink RX2 61 yX2_draughtOf, Cond.instanceMethod yX2_draughtOf, Cond.selects RX2 yX2_draughtOf yX2_draughtOf, Cond.code yX2_draughtOf cX2_draughtOf 4 (some .int), Cond.methodLink RX2 64 yX2_waterAt, Cond.instanceMethod yX2_waterAt]
def wsX0_offOf_r3 : List Cond := [Cond.selects RX2 yX2_waterAt yX2_waterAt, Cond.code yX2_waterAt cX2_waterAt 4 (some .int), Cond.methodLink RX2 51 Lib.Math.min.name, Cond.static Lib.Math.min.name, Cond.code Lib.Math.min.name Lib.Math.min.code 2 (some .int), Cond.fieldLink RX2 28 "BoatTrim$Hull" "rise" "[I", Cond.fieldLink RX2 24 "BoatTrim$Hull" "wide" "[I", Cond.methodLink RX0 129 yX2_pullOfSlope, Cond.instanceMethod yX2_pullOfSlope, Cond.selects RX2 yX2_pullOfSlope yX2_pullOfSlope, Cond.code yX2_pullOfSlope cX2_pullOfSlope 5 (some .int), Cond.methodLink RX0 132 yX0_allAlong, Cond.instanceMethod yX0_allAlong, Cond.selects RX0 yX0_allAlong yX0_allAlong, Cond.code yX0_allAlong cX0_allAlong 3 (some .int), Cond.fieldLink RX0 76 "BoatTrim$Hull" "sections" "I", Cond.fieldLink RX0 79 "BoatTrim$Cargo" "section" "[I", Cond.fieldLink RX0 82 "BoatTrim$Tanks" "section" "[I"]
def wsX0_offOf : List Cond := .code yX0_offOf cX0_offOf 3 (some .int) :: ((wsX0_offOf_r1 ++ (wsX0_offOf_r2 ++ wsX0_offOf_r3)) ++ wsX00 ++ wsX20 ++ wsX10 ++ wsX80)
def wsX0_bestToTurn_r1 : List Cond := [Cond.methodLink RX0 138 Lib.Math.abs.name, Cond.static Lib.Math.abs.name, Cond.initialized "java/lang/Math", Cond.code Lib.Math.abs.name Lib.Math.abs.code 1 (some .int), Cond.fieldLink RX0 21 "BoatTrim$Boat" "cargo" "LBoatTrim$Cargo;", Cond.fieldLink RX0 36 "BoatTrim$Cargo" "size" "I", Cond.fieldLink RX0 89 "BoatTrim$Cargo" "side" "[I", Cond.methodLink RX0 135 yX0_allAside, Cond.instanceMethod yX0_allAside, Cond.selects RX0 yX0_allAside yX0_allAside, Cond.initialized RX0, Cond.code yX0_allAside cX0_allAside 1 (some .int), Cond.methodLink RX0 83 yX0_asideRolledBy, Cond.instanceMethod yX0_asideRolledBy, Cond.selects RX0 yX0_asideRolledBy yX0_asideRolledBy, Cond.code yX0_asideRolledBy cX0_asideRolledBy 5 (some .int), Cond.fieldLink RX0 53 "BoatTrim$Cargo" "kind" "[I", Cond.static yX11_rollsOf, Cond.initialized RX11, Cond.code yX11_rollsOf cX11_rollsOf 2 (some .int), Cond.constant RX11 167 (-2147483648), Cond.static yX11_held, Cond.code yX11_held cX11_held 3 (some .int), Cond.methodLink RX11 386 Lib.Math.min.name]
def wsX0_bestToTurn_r2 : List Cond := [Cond.static Lib.Math.min.name, Cond.code Lib.Math.min.name Lib.Math.min.code 2 (some .int), Cond.methodLink RX11 254 Lib.Math.max.name, Cond.static Lib.Math.max.name, Cond.code Lib.Math.max.name Lib.Math.max.code 2 (some .int), Cond.methodLink RX0 70 yX0_weighsAt, Cond.instanceMethod yX0_weighsAt, Cond.selects RX0 yX0_weighsAt yX0_weighsAt, Cond.code yX0_weighsAt cX0_weighsAt 2 (some .int), Cond.fieldLink RX0 57 "BoatTrim$Cargo" "weight" "[I", Cond.methodLink RX0 60 yX0_woolWeighs, Cond.instanceMethod yX0_woolWeighs, Cond.selects RX0 yX0_woolWeighs yX0_woolWeighs, Cond.code yX0_woolWeighs cX0_woolWeighs 2 (some .int), Cond.fieldLink RX0 12 "BoatTrim$Boat" "hull" "LBoatTrim$Hull;", Cond.fieldLink RX0 64 "BoatTrim$Hull" "wet" "I"]
def wsX0_bestToTurn : List Cond := .code yX0_bestToTurn cX0_bestToTurn 6 (some .int) :: ((wsX0_bestToTurn_r1 ++ wsX0_bestToTurn_r2) ++ wsX00 ++ wsX10 ++ wsX20)
def wsX1_placeBehind : List Cond := .code yX1_placeBehind cX1_placeBehind 3 (some .int) :: ([.fieldLink RX1 9 "BoatTrim$Cargo" "size" "I", .fieldLink RX1 15 "BoatTrim$Cargo" "name" "[I"] ++ wsX10)
def wsX1_placeOf : List Cond := .code yX1_placeOf cX1_placeOf 3 (some .int) :: ([.fieldLink RX1 9 "BoatTrim$Cargo" "size" "I", .fieldLink RX1 15 "BoatTrim$Cargo" "name" "[I"] ++ wsX10)
def wsX1_openPlace : List Cond := .code yX1_openPlace cX1_openPlace 3 (some .int) :: ([.methodLink RX1 42 Lib.Math.min.name, .static Lib.Math.min.name, .initialized "java/lang/Math", .code Lib.Math.min.name Lib.Math.min.code 2 (some .int), .fieldLink RX1 9 "BoatTrim$Cargo" "size" "I", .fieldLink RX1 15 "BoatTrim$Cargo" "name" "[I", .methodLink RX1 38 yX1_placeBehind, .instanceMethod yX1_placeBehind, .selects RX1 yX1_placeBehind yX1_placeBehind, .initialized RX1, .code yX1_placeBehind cX1_placeBehind 3 (some .int), .methodLink RX1 34 yX1_copyPlaces, .instanceMethod yX1_copyPlaces, .selects RX1 yX1_copyPlaces yX1_copyPlaces, .code yX1_copyPlaces cX1_copyPlaces 5 none, .methodLink RX1 48 arraycopyName, .native arraycopyName, .static arraycopyName, .initialized "java/lang/System", .fieldLink RX1 19 "BoatTrim$Cargo" "kind" "[I", .fieldLink RX1 22 "BoatTrim$Cargo" "weight" "[I", .fieldLink RX1 25 "BoatTrim$Cargo" "section" "[I", .fieldLink RX1 28 "BoatTrim$Cargo" "side" "[I", .fieldLink RX1 31 "BoatTrim$Cargo" "up" "[I"] ++ wsX10)
def wsX1_closePlace : List Cond := .code yX1_closePlace cX1_closePlace 2 none :: ([.fieldLink RX1 9 "BoatTrim$Cargo" "size" "I", .methodLink RX1 34 yX1_copyPlaces, .instanceMethod yX1_copyPlaces, .selects RX1 yX1_copyPlaces yX1_copyPlaces, .initialized RX1, .code yX1_copyPlaces cX1_copyPlaces 5 none, .fieldLink RX1 15 "BoatTrim$Cargo" "name" "[I", .methodLink RX1 48 arraycopyName, .native arraycopyName, .static arraycopyName, .initialized "java/lang/System", .fieldLink RX1 19 "BoatTrim$Cargo" "kind" "[I", .fieldLink RX1 22 "BoatTrim$Cargo" "weight" "[I", .fieldLink RX1 25 "BoatTrim$Cargo" "section" "[I", .fieldLink RX1 28 "BoatTrim$Cargo" "side" "[I", .fieldLink RX1 31 "BoatTrim$Cargo" "up" "[I"] ++ wsX10)
def wsX11_isWithin : List Cond := .code yX11_isWithin cX11_isWithin 3 (some .boolean) :: ([])
def wsX2_hasSection : List Cond := .code yX2_hasSection cX2_hasSection 2 (some .boolean) :: ([.fieldLink RX2 9 "BoatTrim$Hull" "sections" "I", .static yX11_isWithin, .initialized RX11, .code yX11_isWithin cX11_isWithin 3 (some .boolean)] ++ wsX20)
def wsX2_leastRise : List Cond := .code yX2_leastRise cX2_leastRise 3 (some .int) :: ([.fieldLink RX2 28 "BoatTrim$Hull" "rise" "[I", .fieldLink RX2 9 "BoatTrim$Hull" "sections" "I", .methodLink RX2 51 Lib.Math.min.name, .static Lib.Math.min.name, .initialized "java/lang/Math", .code Lib.Math.min.name Lib.Math.min.code 2 (some .int)] ++ wsX20)
def wsX2_carriedAt_r1 : List Cond := [Cond.methodLink RX2 71 yX2_waterOfSlope, Cond.instanceMethod yX2_waterOfSlope, Cond.selects RX2 yX2_waterOfSlope yX2_waterOfSlope, Cond.initialized RX2, Cond.code yX2_waterOfSlope cX2_waterOfSlope 5 (some .int), Cond.fieldLink RX2 9 "BoatTrim$Hull" "sections" "I", Cond.methodLink RX2 61 yX2_draughtOf, Cond.instanceMethod yX2_draughtOf, Cond.selects RX2 yX2_draughtOf yX2_draughtOf, Cond.code yX2_draughtOf cX2_draughtOf 4 (some .int), Cond.methodLink RX2 64 yX2_waterAt, Cond.instanceMethod yX2_waterAt, Cond.selects RX2 yX2_waterAt yX2_waterAt, Cond.code yX2_waterAt cX2_waterAt 4 (some .int), Cond.methodLink RX2 51 Lib.Math.min.name, Cond.static Lib.Math.min.name, Cond.initialized "java/lang/Math", Cond.code Lib.Math.min.name Lib.Math.min.code 2 (some .int), Cond.fieldLink RX2 28 "BoatTrim$Hull" "rise" "[I", Cond.fieldLink RX2 24 "BoatTrim$Hull" "wide" "[I", Cond.methodLink RX2 57 yX2_top, Cond.instanceMethod yX2_top, Cond.selects RX2 yX2_top yX2_top, Cond.code yX2_top cX2_top 1 (some .int)]
def wsX2_carriedAt_r2 : List Cond := [Cond.fieldLink RX2 15 "BoatTrim$Hull" "deep" "I"]
def wsX2_carriedAt : List Cond := .code yX2_carriedAt cX2_carriedAt 2 (some .int) :: ((wsX2_carriedAt_r1 ++ wsX2_carriedAt_r2) ++ wsX20)
def wsX3_init : List Cond := .code yX3_init cX3_init 1 none :: ([.methodLink RX3 3 objectInit, .instanceMethod objectInit, .code objectInit ⟨#[0xb1]⟩ 1 none, .arrayClass .int, .fieldLink RX3 9 "BoatTrim$Landing" "least" "[I", .fieldLink RX3 15 "BoatTrim$Landing" "most" "[I", .fieldLink RX3 18 "BoatTrim$Landing" "wanted" "I", .fieldLink RX3 22 "BoatTrim$Landing" "fitting" "I", .fieldLink RX3 25 "BoatTrim$Landing" "leastFitting" "I"] ++ wsX30)
def wsX4_comesAhead : List Cond := .code yX4_comesAhead cX4_comesAhead 9 (some .boolean) :: ([.fieldLink RX4 18 "BoatTrim$Boat" "cargo" "LBoatTrim$Cargo;", .fieldLink RX4 49 "BoatTrim$Cargo" "side" "[I", .methodLink RX4 52 Lib.Math.abs.name, .static Lib.Math.abs.name, .initialized "java/lang/Math", .code Lib.Math.abs.name Lib.Math.abs.code 1 (some .int), .methodLink RX4 41 yX0_weighsAt, .instanceMethod yX0_weighsAt, .selects RX0 yX0_weighsAt yX0_weighsAt, .initialized RX0, .code yX0_weighsAt cX0_weighsAt 2 (some .int), .fieldLink RX0 21 "BoatTrim$Boat" "cargo" "LBoatTrim$Cargo;", .fieldLink RX0 53 "BoatTrim$Cargo" "kind" "[I", .fieldLink RX0 57 "BoatTrim$Cargo" "weight" "[I", .methodLink RX0 60 yX0_woolWeighs, .instanceMethod yX0_woolWeighs, .selects RX0 yX0_woolWeighs yX0_woolWeighs, .code yX0_woolWeighs cX0_woolWeighs 2 (some .int), .fieldLink RX0 12 "BoatTrim$Boat" "hull" "LBoatTrim$Hull;", .fieldLink RX0 64 "BoatTrim$Hull" "wet" "I"] ++ wsX00 ++ wsX10 ++ wsX20)
def wsX4_balance_r1 : List Cond := [Cond.fieldLink RX4 18 "BoatTrim$Boat" "cargo" "LBoatTrim$Cargo;", Cond.fieldLink RX4 24 "BoatTrim$Cargo" "size" "I", Cond.fieldLink RX4 9 "BoatTrim$Orders" "places" "[I", Cond.fieldLink RX4 49 "BoatTrim$Cargo" "side" "[I", Cond.methodLink RX4 45 yX4_comesAhead, Cond.instanceMethod yX4_comesAhead, Cond.selects RX4 yX4_comesAhead yX4_comesAhead, Cond.initialized RX4, Cond.code yX4_comesAhead cX4_comesAhead 9 (some .boolean), Cond.methodLink RX4 52 Lib.Math.abs.name, Cond.static Lib.Math.abs.name, Cond.initialized "java/lang/Math", Cond.code Lib.Math.abs.name Lib.Math.abs.code 1 (some .int), Cond.methodLink RX4 41 yX0_weighsAt, Cond.instanceMethod yX0_weighsAt, Cond.selects RX0 yX0_weighsAt yX0_weighsAt, Cond.initialized RX0, Cond.code yX0_weighsAt cX0_weighsAt 2 (some .int), Cond.fieldLink RX0 21 "BoatTrim$Boat" "cargo" "LBoatTrim$Cargo;", Cond.fieldLink RX0 53 "BoatTrim$Cargo" "kind" "[I", Cond.fieldLink RX0 57 "BoatTrim$Cargo" "weight" "[I", Cond.methodLink RX0 60 yX0_woolWeighs, Cond.instanceMethod yX0_woolWeighs, Cond.selects RX0 yX0_woolWeighs yX0_woolWeighs]
def wsX4_balance_r2 : List Cond := [Cond.code yX0_woolWeighs cX0_woolWeighs 2 (some .int), Cond.fieldLink RX0 12 "BoatTrim$Boat" "hull" "LBoatTrim$Hull;", Cond.fieldLink RX0 64 "BoatTrim$Hull" "wet" "I"]
def wsX4_balance : List Cond := .code yX4_balance cX4_balance 6 none :: ((wsX4_balance_r1 ++ wsX4_balance_r2) ++ wsX00 ++ wsX10 ++ wsX40 ++ wsX20)
def wsX4_sort : List Cond := .code yX4_sort cX4_sort 5 none :: ([.fieldLink RX4 18 "BoatTrim$Boat" "cargo" "LBoatTrim$Cargo;", .fieldLink RX4 24 "BoatTrim$Cargo" "size" "I", .fieldLink RX4 15 "BoatTrim$Orders" "keys" "[I", .fieldLink RX4 38 "BoatTrim$Cargo" "up" "[I", .fieldLink RX4 9 "BoatTrim$Orders" "places" "[I", .methodLink RX4 41 yX0_weighsAt, .instanceMethod yX0_weighsAt, .selects RX0 yX0_weighsAt yX0_weighsAt, .initialized RX0, .code yX0_weighsAt cX0_weighsAt 2 (some .int), .fieldLink RX0 21 "BoatTrim$Boat" "cargo" "LBoatTrim$Cargo;", .fieldLink RX0 53 "BoatTrim$Cargo" "kind" "[I", .fieldLink RX0 57 "BoatTrim$Cargo" "weight" "[I", .methodLink RX0 60 yX0_woolWeighs, .instanceMethod yX0_woolWeighs, .selects RX0 yX0_woolWeighs yX0_woolWeighs, .code yX0_woolWeighs cX0_woolWeighs 2 (some .int), .fieldLink RX0 12 "BoatTrim$Boat" "hull" "LBoatTrim$Hull;", .fieldLink RX0 64 "BoatTrim$Hull" "wet" "I"] ++ wsX00 ++ wsX10 ++ wsX40 ++ wsX20)
def wsX4_arrange_r1 : List Cond := [Cond.fieldLink RX4 18 "BoatTrim$Boat" "cargo" "LBoatTrim$Cargo;", Cond.fieldLink RX4 24 "BoatTrim$Cargo" "size" "I", Cond.fieldLink RX4 9 "BoatTrim$Orders" "places" "[I", Cond.methodLink RX4 30 yX4_balance, Cond.instanceMethod yX4_balance, Cond.selects RX4 yX4_balance yX4_balance, Cond.initialized RX4, Cond.code yX4_balance cX4_balance 6 none, Cond.fieldLink RX4 49 "BoatTrim$Cargo" "side" "[I", Cond.methodLink RX4 45 yX4_comesAhead, Cond.instanceMethod yX4_comesAhead, Cond.selects RX4 yX4_comesAhead yX4_comesAhead, Cond.code yX4_comesAhead cX4_comesAhead 9 (some .boolean), Cond.methodLink RX4 52 Lib.Math.abs.name, Cond.static Lib.Math.abs.name, Cond.initialized "java/lang/Math", Cond.code Lib.Math.abs.name Lib.Math.abs.code 1 (some .int), Cond.methodLink RX4 41 yX0_weighsAt, Cond.instanceMethod yX0_weighsAt, Cond.selects RX0 yX0_weighsAt yX0_weighsAt, Cond.initialized RX0, Cond.code yX0_weighsAt cX0_weighsAt 2 (some .int), Cond.fieldLink RX0 21 "BoatTrim$Boat" "cargo" "LBoatTrim$Cargo;", Cond.fieldLink RX0 53 "BoatTrim$Cargo" "kind" "[I"]
def wsX4_arrange_r2 : List Cond := [Cond.fieldLink RX0 57 "BoatTrim$Cargo" "weight" "[I", Cond.methodLink RX0 60 yX0_woolWeighs, Cond.instanceMethod yX0_woolWeighs, Cond.selects RX0 yX0_woolWeighs yX0_woolWeighs, Cond.code yX0_woolWeighs cX0_woolWeighs 2 (some .int), Cond.fieldLink RX0 12 "BoatTrim$Boat" "hull" "LBoatTrim$Hull;", Cond.fieldLink RX0 64 "BoatTrim$Hull" "wet" "I", Cond.methodLink RX4 34 yX4_sort, Cond.instanceMethod yX4_sort, Cond.selects RX4 yX4_sort yX4_sort, Cond.code yX4_sort cX4_sort 5 none, Cond.fieldLink RX4 15 "BoatTrim$Orders" "keys" "[I", Cond.fieldLink RX4 38 "BoatTrim$Cargo" "up" "[I"]
def wsX4_arrange : List Cond := .code yX4_arrange cX4_arrange 4 none :: ((wsX4_arrange_r1 ++ wsX4_arrange_r2) ++ wsX00 ++ wsX10 ++ wsX40 ++ wsX20)
def wsX3_writeLines_r1 : List Cond := [Cond.fieldLink RX3 40 "BoatTrim$Boat" "hull" "LBoatTrim$Hull;", Cond.fieldLink RX3 50 "BoatTrim$Boat" "cargo" "LBoatTrim$Cargo;", Cond.fieldLink RX3 54 "BoatTrim$Cargo" "size" "I", Cond.fieldLink RX3 59 "BoatTrim$Orders" "places" "[I", Cond.methodLink RX3 28 yX4_arrange, Cond.instanceMethod yX4_arrange, Cond.selects RX4 yX4_arrange yX4_arrange, Cond.initialized RX4, Cond.code yX4_arrange cX4_arrange 4 none, Cond.fieldLink RX4 18 "BoatTrim$Boat" "cargo" "LBoatTrim$Cargo;", Cond.fieldLink RX4 24 "BoatTrim$Cargo" "size" "I", Cond.fieldLink RX4 9 "BoatTrim$Orders" "places" "[I", Cond.methodLink RX4 30 yX4_balance, Cond.instanceMethod yX4_balance, Cond.selects RX4 yX4_balance yX4_balance, Cond.code yX4_balance cX4_balance 6 none, Cond.fieldLink RX4 49 "BoatTrim$Cargo" "side" "[I", Cond.methodLink RX4 45 yX4_comesAhead, Cond.instanceMethod yX4_comesAhead, Cond.selects RX4 yX4_comesAhead yX4_comesAhead, Cond.code yX4_comesAhead cX4_comesAhead 9 (some .boolean), Cond.methodLink RX4 52 Lib.Math.abs.name, Cond.static Lib.Math.abs.name, Cond.initialized "java/lang/Math"]
def wsX3_writeLines_r2 : List Cond := [Cond.code Lib.Math.abs.name Lib.Math.abs.code 1 (some .int), Cond.methodLink RX4 41 yX0_weighsAt, Cond.instanceMethod yX0_weighsAt, Cond.selects RX0 yX0_weighsAt yX0_weighsAt, Cond.initialized RX0, Cond.code yX0_weighsAt cX0_weighsAt 2 (some .int), Cond.fieldLink RX0 21 "BoatTrim$Boat" "cargo" "LBoatTrim$Cargo;", Cond.fieldLink RX0 53 "BoatTrim$Cargo" "kind" "[I", Cond.fieldLink RX0 57 "BoatTrim$Cargo" "weight" "[I", Cond.methodLink RX0 60 yX0_woolWeighs, Cond.instanceMethod yX0_woolWeighs, Cond.selects RX0 yX0_woolWeighs yX0_woolWeighs, Cond.code yX0_woolWeighs cX0_woolWeighs 2 (some .int), Cond.fieldLink RX0 12 "BoatTrim$Boat" "hull" "LBoatTrim$Hull;", Cond.fieldLink RX0 64 "BoatTrim$Hull" "wet" "I", Cond.methodLink RX4 34 yX4_sort, Cond.instanceMethod yX4_sort, Cond.selects RX4 yX4_sort yX4_sort, Cond.code yX4_sort cX4_sort 5 none, Cond.fieldLink RX4 15 "BoatTrim$Orders" "keys" "[I", Cond.fieldLink RX4 38 "BoatTrim$Cargo" "up" "[I", Cond.methodLink RX3 34 yX0_allWeight, Cond.instanceMethod yX0_allWeight, Cond.selects RX0 yX0_allWeight yX0_allWeight]
def wsX3_writeLines_r3 : List Cond := [Cond.code yX0_allWeight cX0_allWeight 3 (some .int), Cond.fieldLink RX0 67 "BoatTrim$Hull" "shell" "I", Cond.fieldLink RX0 36 "BoatTrim$Cargo" "size" "I", Cond.fieldLink RX0 28 "BoatTrim$Boat" "tanks" "LBoatTrim$Tanks;", Cond.fieldLink RX0 73 "BoatTrim$Tanks" "has" "[I", Cond.methodLink RX0 70 yX0_weighsAt, Cond.methodLink RX3 44 yX2_startOf, Cond.instanceMethod yX2_startOf, Cond.selects RX2 yX2_startOf yX2_startOf, Cond.initialized RX2, Cond.code yX2_startOf cX2_startOf 7 (some .int), Cond.fieldLink RX2 9 "BoatTrim$Hull" "sections" "I", Cond.methodLink RX2 67 Lib.Math.abs.name, Cond.methodLink RX2 57 yX2_top, Cond.instanceMethod yX2_top, Cond.selects RX2 yX2_top yX2_top, Cond.code yX2_top cX2_top 1 (some .int), Cond.fieldLink RX2 15 "BoatTrim$Hull" "deep" "I", Cond.methodLink RX2 71 yX2_waterOfSlope, Cond.instanceMethod yX2_waterOfSlope, Cond.selects RX2 yX2_waterOfSlope yX2_waterOfSlope, Cond.code yX2_waterOfSlope cX2_waterOfSlope 5 (some .int), Cond.methodLink RX2 61 yX2_draughtOf, Cond.instanceMethod yX2_draughtOf]
def wsX3_writeLines_r4 : List Cond := [Cond.selects RX2 yX2_draughtOf yX2_draughtOf, Cond.code yX2_draughtOf cX2_draughtOf 4 (some .int), Cond.methodLink RX2 64 yX2_waterAt, Cond.instanceMethod yX2_waterAt, Cond.selects RX2 yX2_waterAt yX2_waterAt, Cond.code yX2_waterAt cX2_waterAt 4 (some .int), Cond.methodLink RX2 51 Lib.Math.min.name, Cond.static Lib.Math.min.name, Cond.code Lib.Math.min.name Lib.Math.min.code 2 (some .int), Cond.fieldLink RX2 28 "BoatTrim$Hull" "rise" "[I", Cond.fieldLink RX2 24 "BoatTrim$Hull" "wide" "[I", Cond.methodLink RX3 62 yX0_weighsAt]
def wsX3_writeLines : List Cond := .code yX3_writeLines cX3_writeLines 6 none :: ((wsX3_writeLines_r1 ++ (wsX3_writeLines_r2 ++ (wsX3_writeLines_r3 ++ wsX3_writeLines_r4))) ++ wsX00 ++ wsX10 ++ wsX40 ++ wsX20 ++ wsX80)
def wsX3_want_r1 : List Cond := [Cond.fieldLink RX3 18 "BoatTrim$Landing" "wanted" "I", Cond.fieldLink RX3 9 "BoatTrim$Landing" "least" "[I", Cond.fieldLink RX3 15 "BoatTrim$Landing" "most" "[I", Cond.constant RX3 78 (2147483647), Cond.methodLink RX3 66 yX2_top, Cond.instanceMethod yX2_top, Cond.selects RX2 yX2_top yX2_top, Cond.initialized RX2, Cond.code yX2_top cX2_top 1 (some .int), Cond.fieldLink RX2 15 "BoatTrim$Hull" "deep" "I", Cond.static yX11_isWithin, Cond.initialized RX11, Cond.code yX11_isWithin cX11_isWithin 3 (some .boolean), Cond.methodLink RX3 73 yX2_carriedAt, Cond.instanceMethod yX2_carriedAt, Cond.selects RX2 yX2_carriedAt yX2_carriedAt, Cond.code yX2_carriedAt cX2_carriedAt 2 (some .int), Cond.methodLink RX2 71 yX2_waterOfSlope, Cond.instanceMethod yX2_waterOfSlope, Cond.selects RX2 yX2_waterOfSlope yX2_waterOfSlope, Cond.code yX2_waterOfSlope cX2_waterOfSlope 5 (some .int), Cond.fieldLink RX2 9 "BoatTrim$Hull" "sections" "I", Cond.methodLink RX2 61 yX2_draughtOf, Cond.instanceMethod yX2_draughtOf]
def wsX3_want_r2 : List Cond := [Cond.selects RX2 yX2_draughtOf yX2_draughtOf, Cond.code yX2_draughtOf cX2_draughtOf 4 (some .int), Cond.methodLink RX2 64 yX2_waterAt, Cond.instanceMethod yX2_waterAt, Cond.selects RX2 yX2_waterAt yX2_waterAt, Cond.code yX2_waterAt cX2_waterAt 4 (some .int), Cond.methodLink RX2 51 Lib.Math.min.name, Cond.static Lib.Math.min.name, Cond.initialized "java/lang/Math", Cond.code Lib.Math.min.name Lib.Math.min.code 2 (some .int), Cond.fieldLink RX2 28 "BoatTrim$Hull" "rise" "[I", Cond.fieldLink RX2 24 "BoatTrim$Hull" "wide" "[I", Cond.methodLink RX2 57 yX2_top]
def wsX3_want : List Cond := .code yX3_want cX3_want 7 none :: ((wsX3_want_r1 ++ wsX3_want_r2) ++ wsX30 ++ wsX20)
def wsX3_isSo_r1 : List Cond := [Cond.fieldLink RX3 18 "BoatTrim$Landing" "wanted" "I", Cond.fieldLink RX3 9 "BoatTrim$Landing" "least" "[I", Cond.fieldLink RX3 15 "BoatTrim$Landing" "most" "[I", Cond.fieldLink RX3 50 "BoatTrim$Boat" "cargo" "LBoatTrim$Cargo;", Cond.fieldLink RX3 54 "BoatTrim$Cargo" "size" "I", Cond.fieldLink RX3 59 "BoatTrim$Orders" "places" "[I", Cond.methodLink RX3 34 yX0_allWeight, Cond.instanceMethod yX0_allWeight, Cond.selects RX0 yX0_allWeight yX0_allWeight, Cond.initialized RX0, Cond.code yX0_allWeight cX0_allWeight 3 (some .int), Cond.fieldLink RX0 12 "BoatTrim$Boat" "hull" "LBoatTrim$Hull;", Cond.fieldLink RX0 67 "BoatTrim$Hull" "shell" "I", Cond.fieldLink RX0 21 "BoatTrim$Boat" "cargo" "LBoatTrim$Cargo;", Cond.fieldLink RX0 36 "BoatTrim$Cargo" "size" "I", Cond.fieldLink RX0 28 "BoatTrim$Boat" "tanks" "LBoatTrim$Tanks;", Cond.fieldLink RX0 73 "BoatTrim$Tanks" "has" "[I", Cond.methodLink RX0 70 yX0_weighsAt, Cond.instanceMethod yX0_weighsAt, Cond.selects RX0 yX0_weighsAt yX0_weighsAt, Cond.code yX0_weighsAt cX0_weighsAt 2 (some .int), Cond.fieldLink RX0 53 "BoatTrim$Cargo" "kind" "[I", Cond.fieldLink RX0 57 "BoatTrim$Cargo" "weight" "[I", Cond.methodLink RX0 60 yX0_woolWeighs]
def wsX3_isSo_r2 : List Cond := [Cond.instanceMethod yX0_woolWeighs, Cond.selects RX0 yX0_woolWeighs yX0_woolWeighs, Cond.code yX0_woolWeighs cX0_woolWeighs 2 (some .int), Cond.fieldLink RX0 64 "BoatTrim$Hull" "wet" "I", Cond.static yX11_isWithin, Cond.initialized RX11, Cond.code yX11_isWithin cX11_isWithin 3 (some .boolean), Cond.methodLink RX3 28 yX4_arrange, Cond.instanceMethod yX4_arrange, Cond.selects RX4 yX4_arrange yX4_arrange, Cond.initialized RX4, Cond.code yX4_arrange cX4_arrange 4 none, Cond.fieldLink RX4 18 "BoatTrim$Boat" "cargo" "LBoatTrim$Cargo;", Cond.fieldLink RX4 24 "BoatTrim$Cargo" "size" "I", Cond.fieldLink RX4 9 "BoatTrim$Orders" "places" "[I", Cond.methodLink RX4 30 yX4_balance, Cond.instanceMethod yX4_balance, Cond.selects RX4 yX4_balance yX4_balance, Cond.code yX4_balance cX4_balance 6 none, Cond.fieldLink RX4 49 "BoatTrim$Cargo" "side" "[I", Cond.methodLink RX4 45 yX4_comesAhead, Cond.instanceMethod yX4_comesAhead, Cond.selects RX4 yX4_comesAhead yX4_comesAhead, Cond.code yX4_comesAhead cX4_comesAhead 9 (some .boolean)]
def wsX3_isSo_r3 : List Cond := [Cond.methodLink RX4 52 Lib.Math.abs.name, Cond.static Lib.Math.abs.name, Cond.initialized "java/lang/Math", Cond.code Lib.Math.abs.name Lib.Math.abs.code 1 (some .int), Cond.methodLink RX4 41 yX0_weighsAt, Cond.methodLink RX4 34 yX4_sort, Cond.instanceMethod yX4_sort, Cond.selects RX4 yX4_sort yX4_sort, Cond.code yX4_sort cX4_sort 5 none, Cond.fieldLink RX4 15 "BoatTrim$Orders" "keys" "[I", Cond.fieldLink RX4 38 "BoatTrim$Cargo" "up" "[I", Cond.methodLink RX3 62 yX0_weighsAt]
def wsX3_isSo : List Cond := .code yX3_isSo cX3_isSo 5 (some .boolean) :: ((wsX3_isSo_r1 ++ (wsX3_isSo_r2 ++ wsX3_isSo_r3)) ++ wsX30 ++ wsX00 ++ wsX10 ++ wsX40 ++ wsX20 ++ wsX80)
def wsX3_tryWeights_r1 : List Cond := [Cond.fieldLink RX3 50 "BoatTrim$Boat" "cargo" "LBoatTrim$Cargo;", Cond.fieldLink RX3 79 "BoatTrim$Cargo" "weight" "[I", Cond.fieldLink RX3 22 "BoatTrim$Landing" "fitting" "I", Cond.fieldLink RX3 25 "BoatTrim$Landing" "leastFitting" "I", Cond.methodLink RX3 82 yX3_isSo, Cond.instanceMethod yX3_isSo, Cond.selects RX3 yX3_isSo yX3_isSo, Cond.initialized RX3, Cond.code yX3_isSo cX3_isSo 5 (some .boolean), Cond.fieldLink RX3 18 "BoatTrim$Landing" "wanted" "I", Cond.fieldLink RX3 9 "BoatTrim$Landing" "least" "[I", Cond.fieldLink RX3 15 "BoatTrim$Landing" "most" "[I", Cond.fieldLink RX3 54 "BoatTrim$Cargo" "size" "I", Cond.fieldLink RX3 59 "BoatTrim$Orders" "places" "[I", Cond.methodLink RX3 34 yX0_allWeight, Cond.instanceMethod yX0_allWeight, Cond.selects RX0 yX0_allWeight yX0_allWeight, Cond.initialized RX0, Cond.code yX0_allWeight cX0_allWeight 3 (some .int), Cond.fieldLink RX0 12 "BoatTrim$Boat" "hull" "LBoatTrim$Hull;", Cond.fieldLink RX0 67 "BoatTrim$Hull" "shell" "I", Cond.fieldLink RX0 21 "BoatTrim$Boat" "cargo" "LBoatTrim$Cargo;", Cond.fieldLink RX0 36 "BoatTrim$Cargo" "size" "I", Cond.fieldLink RX0 28 "BoatTrim$Boat" "tanks" "LBoatTrim$Tanks;"]
def wsX3_tryWeights_r2 : List Cond := [Cond.fieldLink RX0 73 "BoatTrim$Tanks" "has" "[I", Cond.methodLink RX0 70 yX0_weighsAt, Cond.instanceMethod yX0_weighsAt, Cond.selects RX0 yX0_weighsAt yX0_weighsAt, Cond.code yX0_weighsAt cX0_weighsAt 2 (some .int), Cond.fieldLink RX0 53 "BoatTrim$Cargo" "kind" "[I", Cond.fieldLink RX0 57 "BoatTrim$Cargo" "weight" "[I", Cond.methodLink RX0 60 yX0_woolWeighs, Cond.instanceMethod yX0_woolWeighs, Cond.selects RX0 yX0_woolWeighs yX0_woolWeighs, Cond.code yX0_woolWeighs cX0_woolWeighs 2 (some .int), Cond.fieldLink RX0 64 "BoatTrim$Hull" "wet" "I", Cond.static yX11_isWithin, Cond.initialized RX11, Cond.code yX11_isWithin cX11_isWithin 3 (some .boolean), Cond.methodLink RX3 28 yX4_arrange, Cond.instanceMethod yX4_arrange, Cond.selects RX4 yX4_arrange yX4_arrange, Cond.initialized RX4, Cond.code yX4_arrange cX4_arrange 4 none, Cond.fieldLink RX4 18 "BoatTrim$Boat" "cargo" "LBoatTrim$Cargo;", Cond.fieldLink RX4 24 "BoatTrim$Cargo" "size" "I", Cond.fieldLink RX4 9 "BoatTrim$Orders" "places" "[I", Cond.methodLink RX4 30 yX4_balance]
def wsX3_tryWeights_r3 : List Cond := [Cond.instanceMethod yX4_balance, Cond.selects RX4 yX4_balance yX4_balance, Cond.code yX4_balance cX4_balance 6 none, Cond.fieldLink RX4 49 "BoatTrim$Cargo" "side" "[I", Cond.methodLink RX4 45 yX4_comesAhead, Cond.instanceMethod yX4_comesAhead, Cond.selects RX4 yX4_comesAhead yX4_comesAhead, Cond.code yX4_comesAhead cX4_comesAhead 9 (some .boolean), Cond.methodLink RX4 52 Lib.Math.abs.name, Cond.static Lib.Math.abs.name, Cond.initialized "java/lang/Math", Cond.code Lib.Math.abs.name Lib.Math.abs.code 1 (some .int), Cond.methodLink RX4 41 yX0_weighsAt, Cond.methodLink RX4 34 yX4_sort, Cond.instanceMethod yX4_sort, Cond.selects RX4 yX4_sort yX4_sort, Cond.code yX4_sort cX4_sort 5 none, Cond.fieldLink RX4 15 "BoatTrim$Orders" "keys" "[I", Cond.fieldLink RX4 38 "BoatTrim$Cargo" "up" "[I", Cond.methodLink RX3 62 yX0_weighsAt]
def wsX3_tryWeights : List Cond := .code yX3_tryWeights cX3_tryWeights 6 none :: ((wsX3_tryWeights_r1 ++ (wsX3_tryWeights_r2 ++ wsX3_tryWeights_r3)) ++ wsX00 ++ wsX10 ++ wsX30 ++ wsX40 ++ wsX20 ++ wsX80)
def wsX4_init : List Cond := .code yX4_init cX4_init 1 none :: ([.methodLink RX4 3 objectInit, .instanceMethod objectInit, .code objectInit ⟨#[0xb1]⟩ 1 none, .arrayClass .int, .fieldLink RX4 9 "BoatTrim$Orders" "places" "[I", .fieldLink RX4 15 "BoatTrim$Orders" "keys" "[I"] ++ wsX40)
def wsX5_init : List Cond := .code yX5_init cX5_init 1 none :: ([.methodLink RX5 3 objectInit, .instanceMethod objectInit, .code objectInit ⟨#[0xb1]⟩ 1 none, .fieldLink RX5 9 "BoatTrim$Report" "length" "I", .arrayClass .char, .fieldLink RX5 15 "BoatTrim$Report" "signs" "[C"] ++ wsX50)
def wsX5_addSign : List Cond := .code yX5_addSign cX5_addSign 2 none :: ([.fieldLink RX5 9 "BoatTrim$Report" "length" "I", .fieldLink RX5 15 "BoatTrim$Report" "signs" "[C"] ++ wsX50)
def wsX5_addLetters : List Cond := .code yX5_addLetters cX5_addLetters 3 none :: ([.methodLink RX5 38 yX5_addSign, .instanceMethod yX5_addSign, .selects RX5 yX5_addSign yX5_addSign, .initialized RX5, .code yX5_addSign cX5_addSign 2 none, .fieldLink RX5 9 "BoatTrim$Report" "length" "I", .fieldLink RX5 15 "BoatTrim$Report" "signs" "[C"] ++ wsX50)
def wsX5_addFigures : List Cond := .code yX5_addFigures cX5_addFigures 3 none :: ([.methodLink RX5 38 yX5_addSign, .instanceMethod yX5_addSign, .selects RX5 yX5_addSign yX5_addSign, .initialized RX5, .code yX5_addSign cX5_addSign 2 none, .fieldLink RX5 9 "BoatTrim$Report" "length" "I", .fieldLink RX5 15 "BoatTrim$Report" "signs" "[C"] ++ wsX50)
def wsX5_addSide : List Cond := .code yX5_addSide cX5_addSide 2 none :: ([.methodLink RX5 57 Lib.Math.abs.name, .static Lib.Math.abs.name, .initialized "java/lang/Math", .code Lib.Math.abs.name Lib.Math.abs.code 1 (some .int), .methodLink RX5 38 yX5_addSign, .instanceMethod yX5_addSign, .selects RX5 yX5_addSign yX5_addSign, .initialized RX5, .code yX5_addSign cX5_addSign 2 none, .fieldLink RX5 9 "BoatTrim$Report" "length" "I", .fieldLink RX5 15 "BoatTrim$Report" "signs" "[C", .methodLink RX5 45 yX5_addFigures, .instanceMethod yX5_addFigures, .selects RX5 yX5_addFigures yX5_addFigures, .code yX5_addFigures cX5_addFigures 3 none] ++ wsX50)
def wsX5_write_r1 : List Cond := [Cond.fieldLink RX5 9 "BoatTrim$Report" "length" "I", Cond.fieldLink RX5 19 "BoatTrim$Cargo" "size" "I", Cond.fieldLink RX5 24 "BoatTrim$Cargo" "name" "[I", Cond.fieldLink RX5 35 "BoatTrim$Cargo" "kind" "[I", Cond.fieldLink RX5 42 "BoatTrim$Cargo" "weight" "[I", Cond.fieldLink RX5 48 "BoatTrim$Cargo" "section" "[I", Cond.fieldLink RX5 51 "BoatTrim$Cargo" "side" "[I", Cond.methodLink RX5 28 yX5_addLetters, Cond.instanceMethod yX5_addLetters, Cond.selects RX5 yX5_addLetters yX5_addLetters, Cond.initialized RX5, Cond.code yX5_addLetters cX5_addLetters 3 none, Cond.methodLink RX5 38 yX5_addSign, Cond.instanceMethod yX5_addSign, Cond.selects RX5 yX5_addSign yX5_addSign, Cond.code yX5_addSign cX5_addSign 2 none, Cond.fieldLink RX5 15 "BoatTrim$Report" "signs" "[C", Cond.methodLink RX5 45 yX5_addFigures, Cond.instanceMethod yX5_addFigures, Cond.selects RX5 yX5_addFigures yX5_addFigures, Cond.code yX5_addFigures cX5_addFigures 3 none, Cond.methodLink RX5 54 yX5_addSide, Cond.instanceMethod yX5_addSide, Cond.selects RX5 yX5_addSide yX5_addSide]
def wsX5_write_r2 : List Cond := [Cond.code yX5_addSide cX5_addSide 2 none, Cond.methodLink RX5 57 Lib.Math.abs.name, Cond.static Lib.Math.abs.name, Cond.initialized "java/lang/Math", Cond.code Lib.Math.abs.name Lib.Math.abs.code 1 (some .int)]
def wsX5_write : List Cond := .code yX5_write cX5_write 3 none :: ((wsX5_write_r1 ++ wsX5_write_r2) ++ wsX50 ++ wsX10)
def wsX6_init : List Cond := .code yX6_init cX6_init 1 none :: ([.methodLink RX6 1 objectInit, .instanceMethod objectInit, .code objectInit ⟨#[0xb1]⟩ 1 none, .arrayClass .int, .fieldLink RX6 7 "BoatTrim$Rows" "size" "[I", .classLink RX6 13 "[[I", .fieldLink RX6 15 "BoatTrim$Rows" "places" "[[I"] ++ wsX60)
def wsX6_make : List Cond := .code yX6_make cX6_make 3 none :: ([.fieldLink RX6 7 "BoatTrim$Rows" "size" "[I", .fieldLink RX6 15 "BoatTrim$Rows" "places" "[[I", .static yX11_held, .initialized RX11, .code yX11_held cX11_held 3 (some .int), .methodLink RX11 386 Lib.Math.min.name, .static Lib.Math.min.name, .initialized "java/lang/Math", .code Lib.Math.min.name Lib.Math.min.code 2 (some .int), .methodLink RX11 254 Lib.Math.max.name, .static Lib.Math.max.name, .code Lib.Math.max.name Lib.Math.max.code 2 (some .int), .methodLink RX6 24 yJ7_fill_53178, .static yJ7_fill_53178, .initialized RJ7, .code yJ7_fill_53178 cJ7_fill_53178 4 none] ++ wsX60)
def wsX6_isMissing : List Cond := .code yX6_isMissing cX6_isMissing 2 (some .boolean) :: ([.fieldLink RX6 7 "BoatTrim$Rows" "size" "[I"] ++ wsX60)
def wsX6_hasPlace : List Cond := .code yX6_hasPlace cX6_hasPlace 3 (some .boolean) :: ([.fieldLink RX6 7 "BoatTrim$Rows" "size" "[I", .static yX11_isWithin, .initialized RX11, .code yX11_isWithin cX11_isWithin 3 (some .boolean)] ++ wsX60)
def wsX7_init : List Cond := .code yX7_init cX7_init 1 none :: ([.methodLink RX7 3 objectInit, .instanceMethod objectInit, .code objectInit ⟨#[0xb1]⟩ 1 none, .fieldLink RX7 9 "BoatTrim$Swap" "one" "I", .fieldLink RX7 15 "BoatTrim$Swap" "other" "I"] ++ wsX70)
def wsX7_alongGained : List Cond := .code yX7_alongGained cX7_alongGained 5 (some .int) :: ([.fieldLink RX7 30 "BoatTrim$Boat" "cargo" "LBoatTrim$Cargo;", .fieldLink RX7 43 "BoatTrim$Cargo" "section" "[I", .methodLink RX7 47 yX0_weighsAt, .instanceMethod yX0_weighsAt, .selects RX0 yX0_weighsAt yX0_weighsAt, .initialized RX0, .code yX0_weighsAt cX0_weighsAt 2 (some .int), .fieldLink RX0 21 "BoatTrim$Boat" "cargo" "LBoatTrim$Cargo;", .fieldLink RX0 53 "BoatTrim$Cargo" "kind" "[I", .fieldLink RX0 57 "BoatTrim$Cargo" "weight" "[I", .methodLink RX0 60 yX0_woolWeighs, .instanceMethod yX0_woolWeighs, .selects RX0 yX0_woolWeighs yX0_woolWeighs, .code yX0_woolWeighs cX0_woolWeighs 2 (some .int), .fieldLink RX0 12 "BoatTrim$Boat" "hull" "LBoatTrim$Hull;", .fieldLink RX0 64 "BoatTrim$Hull" "wet" "I"] ++ wsX00 ++ wsX10 ++ wsX20)
def wsX7_find_r1 : List Cond := [Cond.constant RX7 24 (-2147483648), Cond.methodLink RX7 25 Lib.Math.abs.name, Cond.static Lib.Math.abs.name, Cond.initialized "java/lang/Math", Cond.code Lib.Math.abs.name Lib.Math.abs.code 1 (some .int), Cond.fieldLink RX7 30 "BoatTrim$Boat" "cargo" "LBoatTrim$Cargo;", Cond.fieldLink RX7 34 "BoatTrim$Cargo" "size" "I", Cond.fieldLink RX7 9 "BoatTrim$Swap" "one" "I", Cond.fieldLink RX7 15 "BoatTrim$Swap" "other" "I", Cond.methodLink RX7 18 yX0_offOf, Cond.instanceMethod yX0_offOf, Cond.selects RX0 yX0_offOf yX0_offOf, Cond.initialized RX0, Cond.code yX0_offOf cX0_offOf 3 (some .int), Cond.fieldLink RX0 12 "BoatTrim$Boat" "hull" "LBoatTrim$Hull;", Cond.constant RX0 107 (-2147483648), Cond.methodLink RX0 100 yX0_allWeight, Cond.instanceMethod yX0_allWeight, Cond.selects RX0 yX0_allWeight yX0_allWeight, Cond.code yX0_allWeight cX0_allWeight 3 (some .int), Cond.fieldLink RX0 67 "BoatTrim$Hull" "shell" "I", Cond.fieldLink RX0 21 "BoatTrim$Boat" "cargo" "LBoatTrim$Cargo;", Cond.fieldLink RX0 36 "BoatTrim$Cargo" "size" "I", Cond.fieldLink RX0 28 "BoatTrim$Boat" "tanks" "LBoatTrim$Tanks;"]
def wsX7_find_r2 : List Cond := [Cond.fieldLink RX0 73 "BoatTrim$Tanks" "has" "[I", Cond.methodLink RX0 70 yX0_weighsAt, Cond.instanceMethod yX0_weighsAt, Cond.selects RX0 yX0_weighsAt yX0_weighsAt, Cond.code yX0_weighsAt cX0_weighsAt 2 (some .int), Cond.fieldLink RX0 53 "BoatTrim$Cargo" "kind" "[I", Cond.fieldLink RX0 57 "BoatTrim$Cargo" "weight" "[I", Cond.methodLink RX0 60 yX0_woolWeighs, Cond.instanceMethod yX0_woolWeighs, Cond.selects RX0 yX0_woolWeighs yX0_woolWeighs, Cond.code yX0_woolWeighs cX0_woolWeighs 2 (some .int), Cond.fieldLink RX0 64 "BoatTrim$Hull" "wet" "I", Cond.methodLink RX0 104 yX2_startOf, Cond.instanceMethod yX2_startOf, Cond.selects RX2 yX2_startOf yX2_startOf, Cond.initialized RX2, Cond.code yX2_startOf cX2_startOf 7 (some .int), Cond.fieldLink RX2 9 "BoatTrim$Hull" "sections" "I", Cond.methodLink RX2 67 Lib.Math.abs.name, Cond.methodLink RX2 57 yX2_top, Cond.instanceMethod yX2_top, Cond.selects RX2 yX2_top yX2_top, Cond.code yX2_top cX2_top 1 (some .int), Cond.fieldLink RX2 15 "BoatTrim$Hull" "deep" "I"]
def wsX7_find_r3 : List Cond := [Cond.methodLink RX2 71 yX2_waterOfSlope, Cond.instanceMethod yX2_waterOfSlope, Cond.selects RX2 yX2_waterOfSlope yX2_waterOfSlope, Cond.code yX2_waterOfSlope cX2_waterOfSlope 5 (some .int), Cond.methodLink RX2 61 yX2_draughtOf, Cond.instanceMethod yX2_draughtOf, Cond.selects RX2 yX2_draughtOf yX2_draughtOf, Cond.code yX2_draughtOf cX2_draughtOf 4 (some .int), Cond.methodLink RX2 64 yX2_waterAt, Cond.instanceMethod yX2_waterAt, Cond.selects RX2 yX2_waterAt yX2_waterAt, Cond.code yX2_waterAt cX2_waterAt 4 (some .int), Cond.methodLink RX2 51 Lib.Math.min.name, Cond.static Lib.Math.min.name, Cond.code Lib.Math.min.name Lib.Math.min.code 2 (some .int), Cond.fieldLink RX2 28 "BoatTrim$Hull" "rise" "[I", Cond.fieldLink RX2 24 "BoatTrim$Hull" "wide" "[I", Cond.methodLink RX0 129 yX2_pullOfSlope, Cond.instanceMethod yX2_pullOfSlope, Cond.selects RX2 yX2_pullOfSlope yX2_pullOfSlope, Cond.code yX2_pullOfSlope cX2_pullOfSlope 5 (some .int), Cond.methodLink RX0 132 yX0_allAlong, Cond.instanceMethod yX0_allAlong, Cond.selects RX0 yX0_allAlong yX0_allAlong]
def wsX7_find_r4 : List Cond := [Cond.code yX0_allAlong cX0_allAlong 3 (some .int), Cond.fieldLink RX0 76 "BoatTrim$Hull" "sections" "I", Cond.fieldLink RX0 79 "BoatTrim$Cargo" "section" "[I", Cond.fieldLink RX0 82 "BoatTrim$Tanks" "section" "[I", Cond.methodLink RX7 39 yX7_alongGained, Cond.instanceMethod yX7_alongGained, Cond.selects RX7 yX7_alongGained yX7_alongGained, Cond.initialized RX7, Cond.code yX7_alongGained cX7_alongGained 5 (some .int), Cond.fieldLink RX7 43 "BoatTrim$Cargo" "section" "[I", Cond.methodLink RX7 47 yX0_weighsAt]
def wsX7_find : List Cond := .code yX7_find cX7_find 8 (some .boolean) :: ((wsX7_find_r1 ++ (wsX7_find_r2 ++ (wsX7_find_r3 ++ wsX7_find_r4))) ++ wsX00 ++ wsX10 ++ wsX70 ++ wsX20 ++ wsX80)
def wsX8_isThere : List Cond := .code yX8_isThere cX8_isThere 2 (some .boolean) :: ([.fieldLink RX8 15 "BoatTrim$Tanks" "breadth" "[I"] ++ wsX80)
def wsX8_howManyThere : List Cond := .code yX8_howManyThere cX8_howManyThere 3 (some .int) :: ([.methodLink RX8 36 yX8_isThere, .instanceMethod yX8_isThere, .selects RX8 yX8_isThere yX8_isThere, .initialized RX8, .code yX8_isThere cX8_isThere 2 (some .boolean), .fieldLink RX8 15 "BoatTrim$Tanks" "breadth" "[I"] ++ wsX80)
def wsX8_howManySlack : List Cond := .code yX8_howManySlack cX8_howManySlack 3 (some .int) :: ([.methodLink RX8 40 yX8_isSlack, .instanceMethod yX8_isSlack, .selects RX8 yX8_isSlack yX8_isSlack, .initialized RX8, .code yX8_isSlack cX8_isSlack 2 (some .boolean), .fieldLink RX8 21 "BoatTrim$Tanks" "has" "[I", .fieldLink RX8 18 "BoatTrim$Tanks" "holds" "[I"] ++ wsX80)
def wsX9_init : List Cond := .code yX9_init cX9_init 1 none :: ([.methodLink RX9 3 objectInit, .instanceMethod objectInit, .code objectInit ⟨#[0xb1]⟩ 1 none, .fieldLink RX9 9 "BoatTrim$Tape" "length" "I", .arrayClass .byte, .fieldLink RX9 15 "BoatTrim$Tape" "bytes" "[B", .fieldLink RX9 19 "BoatTrim$Tape" "at" "I", .fieldLink RX9 22 "BoatTrim$Tape" "act" "I", .arrayClass .int, .fieldLink RX9 25 "BoatTrim$Tape" "parts" "[I"] ++ wsX90)
def wsX9_isLetterHere : List Cond := .code yX9_isLetterHere cX9_isLetterHere 1 (some .boolean) :: ([.fieldLink RX9 19 "BoatTrim$Tape" "at" "I", .fieldLink RX9 9 "BoatTrim$Tape" "length" "I", .fieldLink RX9 15 "BoatTrim$Tape" "bytes" "[B", .static yX11_isWithin, .initialized RX11, .code yX11_isWithin cX11_isWithin 3 (some .boolean)] ++ wsX90)
def wsX9_wordOf : List Cond := .code yX9_wordOf cX9_wordOf 1 (some (.object "java/lang/String")) :: ([])
def wsJ0_coder_7d493 : List Cond := .code yJ0_coder_7d493 cJ0_coder_7d493 1 (some .byte) :: ([.fieldLink RJ0 38 "java/lang/String" "COMPACT_STRINGS" "Z", .fieldLink RJ0 15 "java/lang/String" "coder" "B"])
def wsJ0_length_8abf5 : List Cond := .code yJ0_length_8abf5 cJ0_length_8abf5 1 (some .int) :: ([.fieldLink RJ0 9 "java/lang/String" "value" "[B", .methodLink RJ0 335 yJ0_coder_7d493, .instanceMethod yJ0_coder_7d493, .selects RJ0 yJ0_coder_7d493 yJ0_coder_7d493, .initialized RJ0, .code yJ0_coder_7d493 cJ0_coder_7d493 1 (some .byte), .fieldLink RJ0 38 "java/lang/String" "COMPACT_STRINGS" "Z", .fieldLink RJ0 15 "java/lang/String" "coder" "B"])
def wsJ0_isLatin1_aae02 : List Cond := .code yJ0_isLatin1_aae02 cJ0_isLatin1_aae02 1 (some .boolean) :: ([.fieldLink RJ0 38 "java/lang/String" "COMPACT_STRINGS" "Z", .fieldLink RJ0 15 "java/lang/String" "coder" "B"])
def wsJ3_checkIndex_8e157 : List Cond := .code yJ3_checkIndex_8e157 cJ3_checkIndex_8e157 3 (some .int) :: ([])
def wsJ0_checkIndex_df160 : List Cond := .code yJ0_checkIndex_df160 cJ0_checkIndex_df160 2 none :: ([.fieldLink RJ0 1053 "jdk/internal/util/Preconditions" "SIOOBE_FORMATTER" "Ljava/util/function/BiFunction;", .methodLink RJ0 1059 yJ3_checkIndex_8e157, .static yJ3_checkIndex_8e157, .initialized RJ3, .code yJ3_checkIndex_8e157 cJ3_checkIndex_8e157 3 (some .int)])
def wsJ1_charAt_3b067 : List Cond := .code yJ1_charAt_3b067 cJ1_charAt_3b067 2 (some .char) :: ([.methodLink RJ1 9 yJ0_checkIndex_df160, .static yJ0_checkIndex_df160, .initialized RJ0, .code yJ0_checkIndex_df160 cJ0_checkIndex_df160 2 none, .fieldLink RJ0 1053 "jdk/internal/util/Preconditions" "SIOOBE_FORMATTER" "Ljava/util/function/BiFunction;", .methodLink RJ0 1059 yJ3_checkIndex_8e157, .static yJ3_checkIndex_8e157, .initialized RJ3, .code yJ3_checkIndex_8e157 cJ3_checkIndex_8e157 3 (some .int)])
def wsJ2_length_9d52b : List Cond := .code yJ2_length_9d52b cJ2_length_9d52b 1 (some .int) :: ([])
def wsJ2_checkIndex_2214a : List Cond := .code yJ2_checkIndex_2214a cJ2_checkIndex_2214a 2 none :: ([.methodLink RJ2 48 yJ2_length_9d52b, .static yJ2_length_9d52b, .initialized RJ2, .code yJ2_length_9d52b cJ2_length_9d52b 1 (some .int), .methodLink RJ2 414 yJ0_checkIndex_df160, .static yJ0_checkIndex_df160, .initialized RJ0, .code yJ0_checkIndex_df160 cJ0_checkIndex_df160 2 none, .fieldLink RJ0 1053 "jdk/internal/util/Preconditions" "SIOOBE_FORMATTER" "Ljava/util/function/BiFunction;", .methodLink RJ0 1059 yJ3_checkIndex_8e157, .static yJ3_checkIndex_8e157, .initialized RJ3, .code yJ3_checkIndex_8e157 cJ3_checkIndex_8e157 3 (some .int)])
def wsJ2_getChar_3b067 : List Cond := .code yJ2_getChar_3b067 cJ2_getChar_3b067 2 (some .char) :: ([.fieldLink RJ2 44 "java/lang/StringUTF16" "$assertionsDisabled" "Z", .fieldLink RJ2 59 "java/lang/StringUTF16" "HI_BYTE_SHIFT" "I", .fieldLink RJ2 63 "java/lang/StringUTF16" "LO_BYTE_SHIFT" "I", .methodLink RJ2 48 yJ2_length_9d52b, .static yJ2_length_9d52b, .initialized RJ2, .code yJ2_length_9d52b cJ2_length_9d52b 1 (some .int)])
def wsJ2_charAt_3b067 : List Cond := .code yJ2_charAt_3b067 cJ2_charAt_3b067 2 (some .char) :: ([.methodLink RJ2 67 yJ2_checkIndex_2214a, .static yJ2_checkIndex_2214a, .initialized RJ2, .code yJ2_checkIndex_2214a cJ2_checkIndex_2214a 2 none, .methodLink RJ2 48 yJ2_length_9d52b, .static yJ2_length_9d52b, .code yJ2_length_9d52b cJ2_length_9d52b 1 (some .int), .methodLink RJ2 414 yJ0_checkIndex_df160, .static yJ0_checkIndex_df160, .initialized RJ0, .code yJ0_checkIndex_df160 cJ0_checkIndex_df160 2 none, .fieldLink RJ0 1053 "jdk/internal/util/Preconditions" "SIOOBE_FORMATTER" "Ljava/util/function/BiFunction;", .methodLink RJ0 1059 yJ3_checkIndex_8e157, .static yJ3_checkIndex_8e157, .initialized RJ3, .code yJ3_checkIndex_8e157 cJ3_checkIndex_8e157 3 (some .int), .methodLink RJ2 71 yJ2_getChar_3b067, .static yJ2_getChar_3b067, .code yJ2_getChar_3b067 cJ2_getChar_3b067 2 (some .char), .fieldLink RJ2 44 "java/lang/StringUTF16" "$assertionsDisabled" "Z", .fieldLink RJ2 59 "java/lang/StringUTF16" "HI_BYTE_SHIFT" "I", .fieldLink RJ2 63 "java/lang/StringUTF16" "LO_BYTE_SHIFT" "I"])
def wsJ0_charAt_5068e_r1 : List Cond := [Cond.fieldLink RJ0 9 "java/lang/String" "value" "[B", Cond.methodLink RJ0 492 yJ0_isLatin1_aae02, Cond.instanceMethod yJ0_isLatin1_aae02, Cond.selects RJ0 yJ0_isLatin1_aae02 yJ0_isLatin1_aae02, Cond.initialized RJ0, Cond.code yJ0_isLatin1_aae02 cJ0_isLatin1_aae02 1 (some .boolean), Cond.fieldLink RJ0 38 "java/lang/String" "COMPACT_STRINGS" "Z", Cond.fieldLink RJ0 15 "java/lang/String" "coder" "B", Cond.methodLink RJ0 495 yJ1_charAt_3b067, Cond.static yJ1_charAt_3b067, Cond.initialized RJ1, Cond.code yJ1_charAt_3b067 cJ1_charAt_3b067 2 (some .char), Cond.methodLink RJ1 9 yJ0_checkIndex_df160, Cond.static yJ0_checkIndex_df160, Cond.code yJ0_checkIndex_df160 cJ0_checkIndex_df160 2 none, Cond.fieldLink RJ0 1053 "jdk/internal/util/Preconditions" "SIOOBE_FORMATTER" "Ljava/util/function/BiFunction;", Cond.methodLink RJ0 1059 yJ3_checkIndex_8e157, Cond.static yJ3_checkIndex_8e157, Cond.initialized RJ3, Cond.code yJ3_checkIndex_8e157 cJ3_checkIndex_8e157 3 (some .int), Cond.methodLink RJ0 498 yJ2_charAt_3b067, Cond.static yJ2_charAt_3b067, Cond.initialized RJ2, Cond.code yJ2_charAt_3b067 cJ2_charAt_3b067 2 (some .char)]
def wsJ0_charAt_5068e_r2 : List Cond := [Cond.methodLink RJ2 67 yJ2_checkIndex_2214a, Cond.static yJ2_checkIndex_2214a, Cond.code yJ2_checkIndex_2214a cJ2_checkIndex_2214a 2 none, Cond.methodLink RJ2 48 yJ2_length_9d52b, Cond.static yJ2_length_9d52b, Cond.code yJ2_length_9d52b cJ2_length_9d52b 1 (some .int), Cond.methodLink RJ2 414 yJ0_checkIndex_df160, Cond.methodLink RJ2 71 yJ2_getChar_3b067, Cond.static yJ2_getChar_3b067, Cond.code yJ2_getChar_3b067 cJ2_getChar_3b067 2 (some .char), Cond.fieldLink RJ2 44 "java/lang/StringUTF16" "$assertionsDisabled" "Z", Cond.fieldLink RJ2 59 "java/lang/StringUTF16" "HI_BYTE_SHIFT" "I", Cond.fieldLink RJ2 63 "java/lang/StringUTF16" "LO_BYTE_SHIFT" "I"]
def wsJ0_charAt_5068e : List Cond := .code yJ0_charAt_5068e cJ0_charAt_5068e 2 (some .char) :: ((wsJ0_charAt_5068e_r1 ++ wsJ0_charAt_5068e_r2))
def wsX9_isWord_r1 : List Cond := [Cond.fieldLink RX9 15 "BoatTrim$Tape" "bytes" "[B", Cond.methodLink RX9 47 yJ0_length_8abf5, Cond.instanceMethod yJ0_length_8abf5, Cond.selects RJ0 yJ0_length_8abf5 yJ0_length_8abf5, Cond.initialized RJ0, Cond.code yJ0_length_8abf5 cJ0_length_8abf5 1 (some .int), Cond.fieldLink RJ0 9 "java/lang/String" "value" "[B", Cond.methodLink RJ0 335 yJ0_coder_7d493, Cond.instanceMethod yJ0_coder_7d493, Cond.selects RJ0 yJ0_coder_7d493 yJ0_coder_7d493, Cond.code yJ0_coder_7d493 cJ0_coder_7d493 1 (some .byte), Cond.fieldLink RJ0 38 "java/lang/String" "COMPACT_STRINGS" "Z", Cond.fieldLink RJ0 15 "java/lang/String" "coder" "B", Cond.methodLink RX9 52 yJ0_charAt_5068e, Cond.instanceMethod yJ0_charAt_5068e, Cond.selects RJ0 yJ0_charAt_5068e yJ0_charAt_5068e, Cond.code yJ0_charAt_5068e cJ0_charAt_5068e 2 (some .char), Cond.methodLink RJ0 492 yJ0_isLatin1_aae02, Cond.instanceMethod yJ0_isLatin1_aae02, Cond.selects RJ0 yJ0_isLatin1_aae02 yJ0_isLatin1_aae02, Cond.code yJ0_isLatin1_aae02 cJ0_isLatin1_aae02 1 (some .boolean), Cond.methodLink RJ0 495 yJ1_charAt_3b067, Cond.static yJ1_charAt_3b067, Cond.initialized RJ1]
def wsX9_isWord_r2 : List Cond := [Cond.code yJ1_charAt_3b067 cJ1_charAt_3b067 2 (some .char), Cond.methodLink RJ1 9 yJ0_checkIndex_df160, Cond.static yJ0_checkIndex_df160, Cond.code yJ0_checkIndex_df160 cJ0_checkIndex_df160 2 none, Cond.fieldLink RJ0 1053 "jdk/internal/util/Preconditions" "SIOOBE_FORMATTER" "Ljava/util/function/BiFunction;", Cond.methodLink RJ0 1059 yJ3_checkIndex_8e157, Cond.static yJ3_checkIndex_8e157, Cond.initialized RJ3, Cond.code yJ3_checkIndex_8e157 cJ3_checkIndex_8e157 3 (some .int), Cond.methodLink RJ0 498 yJ2_charAt_3b067, Cond.static yJ2_charAt_3b067, Cond.initialized RJ2, Cond.code yJ2_charAt_3b067 cJ2_charAt_3b067 2 (some .char), Cond.methodLink RJ2 67 yJ2_checkIndex_2214a, Cond.static yJ2_checkIndex_2214a, Cond.code yJ2_checkIndex_2214a cJ2_checkIndex_2214a 2 none, Cond.methodLink RJ2 48 yJ2_length_9d52b, Cond.static yJ2_length_9d52b, Cond.code yJ2_length_9d52b cJ2_length_9d52b 1 (some .int), Cond.methodLink RJ2 414 yJ0_checkIndex_df160, Cond.methodLink RJ2 71 yJ2_getChar_3b067, Cond.static yJ2_getChar_3b067, Cond.code yJ2_getChar_3b067 cJ2_getChar_3b067 2 (some .char), Cond.fieldLink RJ2 44 "java/lang/StringUTF16" "$assertionsDisabled" "Z"]
def wsX9_isWord_r3 : List Cond := [Cond.fieldLink RJ2 59 "java/lang/StringUTF16" "HI_BYTE_SHIFT" "I", Cond.fieldLink RJ2 63 "java/lang/StringUTF16" "LO_BYTE_SHIFT" "I"]
def wsX9_isWord : List Cond := .code yX9_isWord cX9_isWord 5 (some .boolean) :: ((wsX9_isWord_r1 ++ (wsX9_isWord_r2 ++ wsX9_isWord_r3)) ++ wsX90)
def wsX9_readsWord_r1 : List Cond := [Cond.fieldLink RX9 19 "BoatTrim$Tape" "at" "I", Cond.fieldLink RX9 9 "BoatTrim$Tape" "length" "I", Cond.fieldLink RX9 22 "BoatTrim$Tape" "act" "I", Cond.methodLink RX9 60 yX9_isLetterHere, Cond.instanceMethod yX9_isLetterHere, Cond.selects RX9 yX9_isLetterHere yX9_isLetterHere, Cond.initialized RX9, Cond.code yX9_isLetterHere cX9_isLetterHere 1 (some .boolean), Cond.fieldLink RX9 15 "BoatTrim$Tape" "bytes" "[B", Cond.static yX11_isWithin, Cond.initialized RX11, Cond.code yX11_isWithin cX11_isWithin 3 (some .boolean), Cond.methodLink RX9 63 yX9_wordOf, Cond.static yX9_wordOf, Cond.code yX9_wordOf cX9_wordOf 1 (some (.object "java/lang/String")), Cond.methodLink RX9 66 yX9_isWord, Cond.instanceMethod yX9_isWord, Cond.selects RX9 yX9_isWord yX9_isWord, Cond.code yX9_isWord cX9_isWord 5 (some .boolean), Cond.methodLink RX9 47 yJ0_length_8abf5, Cond.instanceMethod yJ0_length_8abf5, Cond.selects RJ0 yJ0_length_8abf5 yJ0_length_8abf5, Cond.initialized RJ0, Cond.code yJ0_length_8abf5 cJ0_length_8abf5 1 (some .int)]
def wsX9_readsWord_r2 : List Cond := [Cond.fieldLink RJ0 9 "java/lang/String" "value" "[B", Cond.methodLink RJ0 335 yJ0_coder_7d493, Cond.instanceMethod yJ0_coder_7d493, Cond.selects RJ0 yJ0_coder_7d493 yJ0_coder_7d493, Cond.code yJ0_coder_7d493 cJ0_coder_7d493 1 (some .byte), Cond.fieldLink RJ0 38 "java/lang/String" "COMPACT_STRINGS" "Z", Cond.fieldLink RJ0 15 "java/lang/String" "coder" "B", Cond.methodLink RX9 52 yJ0_charAt_5068e, Cond.instanceMethod yJ0_charAt_5068e, Cond.selects RJ0 yJ0_charAt_5068e yJ0_charAt_5068e, Cond.code yJ0_charAt_5068e cJ0_charAt_5068e 2 (some .char), Cond.methodLink RJ0 492 yJ0_isLatin1_aae02, Cond.instanceMethod yJ0_isLatin1_aae02, Cond.selects RJ0 yJ0_isLatin1_aae02 yJ0_isLatin1_aae02, Cond.code yJ0_isLatin1_aae02 cJ0_isLatin1_aae02 1 (some .boolean), Cond.methodLink RJ0 495 yJ1_charAt_3b067, Cond.static yJ1_charAt_3b067, Cond.initialized RJ1, Cond.code yJ1_charAt_3b067 cJ1_charAt_3b067 2 (some .char), Cond.methodLink RJ1 9 yJ0_checkIndex_df160, Cond.static yJ0_checkIndex_df160, Cond.code yJ0_checkIndex_df160 cJ0_checkIndex_df160 2 none, Cond.fieldLink RJ0 1053 "jdk/internal/util/Preconditions" "SIOOBE_FORMATTER" "Ljava/util/function/BiFunction;", Cond.methodLink RJ0 1059 yJ3_checkIndex_8e157]
def wsX9_readsWord_r3 : List Cond := [Cond.static yJ3_checkIndex_8e157, Cond.initialized RJ3, Cond.code yJ3_checkIndex_8e157 cJ3_checkIndex_8e157 3 (some .int), Cond.methodLink RJ0 498 yJ2_charAt_3b067, Cond.static yJ2_charAt_3b067, Cond.initialized RJ2, Cond.code yJ2_charAt_3b067 cJ2_charAt_3b067 2 (some .char), Cond.methodLink RJ2 67 yJ2_checkIndex_2214a, Cond.static yJ2_checkIndex_2214a, Cond.code yJ2_checkIndex_2214a cJ2_checkIndex_2214a 2 none, Cond.methodLink RJ2 48 yJ2_length_9d52b, Cond.static yJ2_length_9d52b, Cond.code yJ2_length_9d52b cJ2_length_9d52b 1 (some .int), Cond.methodLink RJ2 414 yJ0_checkIndex_df160, Cond.methodLink RJ2 71 yJ2_getChar_3b067, Cond.static yJ2_getChar_3b067, Cond.code yJ2_getChar_3b067 cJ2_getChar_3b067 2 (some .char), Cond.fieldLink RJ2 44 "java/lang/StringUTF16" "$assertionsDisabled" "Z", Cond.fieldLink RJ2 59 "java/lang/StringUTF16" "HI_BYTE_SHIFT" "I", Cond.fieldLink RJ2 63 "java/lang/StringUTF16" "LO_BYTE_SHIFT" "I"]
def wsX9_readsWord : List Cond := .code yX9_readsWord cX9_readsWord 3 (some .boolean) :: ((wsX9_readsWord_r1 ++ (wsX9_readsWord_r2 ++ wsX9_readsWord_r3)) ++ wsX90)
def wsX9_shapeOf : List Cond := .code yX9_shapeOf cX9_shapeOf 1 (some (.object "java/lang/String")) :: ([])
def wsX9_isHere : List Cond := .code yX9_isHere cX9_isHere 2 (some .boolean) :: ([.fieldLink RX9 19 "BoatTrim$Tape" "at" "I", .fieldLink RX9 9 "BoatTrim$Tape" "length" "I", .fieldLink RX9 15 "BoatTrim$Tape" "bytes" "[B", .static yX11_isWithin, .initialized RX11, .code yX11_isWithin cX11_isWithin 3 (some .boolean)] ++ wsX90)
def wsX9_readsName : List Cond := .code yX9_readsName cX9_readsName 4 (some .boolean) :: ([.fieldLink RX9 19 "BoatTrim$Tape" "at" "I", .fieldLink RX9 9 "BoatTrim$Tape" "length" "I", .fieldLink RX9 15 "BoatTrim$Tape" "bytes" "[B", .fieldLink RX9 25 "BoatTrim$Tape" "parts" "[I", .methodLink RX9 60 yX9_isLetterHere, .instanceMethod yX9_isLetterHere, .selects RX9 yX9_isLetterHere yX9_isLetterHere, .initialized RX9, .code yX9_isLetterHere cX9_isLetterHere 1 (some .boolean), .static yX11_isWithin, .initialized RX11, .code yX11_isWithin cX11_isWithin 3 (some .boolean)] ++ wsX90)
def wsX9_isFigureHere : List Cond := .code yX9_isFigureHere cX9_isFigureHere 1 (some .boolean) :: ([.fieldLink RX9 19 "BoatTrim$Tape" "at" "I", .fieldLink RX9 9 "BoatTrim$Tape" "length" "I", .fieldLink RX9 15 "BoatTrim$Tape" "bytes" "[B", .static yX11_isWithin, .initialized RX11, .code yX11_isWithin cX11_isWithin 3 (some .boolean)] ++ wsX90)
def wsX9_readsNumber : List Cond := .code yX9_readsNumber cX9_readsNumber 5 (some .boolean) :: ([.fieldLink RX9 19 "BoatTrim$Tape" "at" "I", .fieldLink RX9 9 "BoatTrim$Tape" "length" "I", .fieldLink RX9 15 "BoatTrim$Tape" "bytes" "[B", .fieldLink RX9 25 "BoatTrim$Tape" "parts" "[I", .methodLink RX9 78 yX9_isFigureHere, .instanceMethod yX9_isFigureHere, .selects RX9 yX9_isFigureHere yX9_isFigureHere, .initialized RX9, .code yX9_isFigureHere cX9_isFigureHere 1 (some .boolean), .static yX11_isWithin, .initialized RX11, .code yX11_isWithin cX11_isWithin 3 (some .boolean)] ++ wsX90)
def wsX9_readsPart_r1 : List Cond := [Cond.fieldLink RX9 19 "BoatTrim$Tape" "at" "I", Cond.methodLink RX9 70 yX9_readsName, Cond.instanceMethod yX9_readsName, Cond.selects RX9 yX9_readsName yX9_readsName, Cond.initialized RX9, Cond.code yX9_readsName cX9_readsName 4 (some .boolean), Cond.fieldLink RX9 9 "BoatTrim$Tape" "length" "I", Cond.fieldLink RX9 15 "BoatTrim$Tape" "bytes" "[B", Cond.fieldLink RX9 25 "BoatTrim$Tape" "parts" "[I", Cond.methodLink RX9 60 yX9_isLetterHere, Cond.instanceMethod yX9_isLetterHere, Cond.selects RX9 yX9_isLetterHere yX9_isLetterHere, Cond.code yX9_isLetterHere cX9_isLetterHere 1 (some .boolean), Cond.static yX11_isWithin, Cond.initialized RX11, Cond.code yX11_isWithin cX11_isWithin 3 (some .boolean), Cond.methodLink RX9 36 yX9_isHere, Cond.instanceMethod yX9_isHere, Cond.selects RX9 yX9_isHere yX9_isHere, Cond.code yX9_isHere cX9_isHere 2 (some .boolean), Cond.methodLink RX9 74 yX9_readsNumber, Cond.instanceMethod yX9_readsNumber, Cond.selects RX9 yX9_readsNumber yX9_readsNumber, Cond.code yX9_readsNumber cX9_readsNumber 5 (some .boolean)]
def wsX9_readsPart_r2 : List Cond := [Cond.methodLink RX9 78 yX9_isFigureHere, Cond.instanceMethod yX9_isFigureHere, Cond.selects RX9 yX9_isFigureHere yX9_isFigureHere, Cond.code yX9_isFigureHere cX9_isFigureHere 1 (some .boolean)]
def wsX9_readsPart : List Cond := .code yX9_readsPart cX9_readsPart 4 (some .boolean) :: ((wsX9_readsPart_r1 ++ wsX9_readsPart_r2) ++ wsX90)
def wsX9_readsAct_r1 : List Cond := [Cond.fieldLink RX9 22 "BoatTrim$Tape" "act" "I", Cond.fieldLink RX9 25 "BoatTrim$Tape" "parts" "[I", Cond.fieldLink RX9 19 "BoatTrim$Tape" "at" "I", Cond.methodLink RX9 40 yX9_readsWord, Cond.instanceMethod yX9_readsWord, Cond.selects RX9 yX9_readsWord yX9_readsWord, Cond.initialized RX9, Cond.code yX9_readsWord cX9_readsWord 3 (some .boolean), Cond.fieldLink RX9 9 "BoatTrim$Tape" "length" "I", Cond.methodLink RX9 60 yX9_isLetterHere, Cond.instanceMethod yX9_isLetterHere, Cond.selects RX9 yX9_isLetterHere yX9_isLetterHere, Cond.code yX9_isLetterHere cX9_isLetterHere 1 (some .boolean), Cond.fieldLink RX9 15 "BoatTrim$Tape" "bytes" "[B", Cond.static yX11_isWithin, Cond.initialized RX11, Cond.code yX11_isWithin cX11_isWithin 3 (some .boolean), Cond.methodLink RX9 63 yX9_wordOf, Cond.static yX9_wordOf, Cond.code yX9_wordOf cX9_wordOf 1 (some (.object "java/lang/String")), Cond.methodLink RX9 66 yX9_isWord, Cond.instanceMethod yX9_isWord, Cond.selects RX9 yX9_isWord yX9_isWord, Cond.code yX9_isWord cX9_isWord 5 (some .boolean)]
def wsX9_readsAct_r2 : List Cond := [Cond.methodLink RX9 47 yJ0_length_8abf5, Cond.instanceMethod yJ0_length_8abf5, Cond.selects RJ0 yJ0_length_8abf5 yJ0_length_8abf5, Cond.initialized RJ0, Cond.code yJ0_length_8abf5 cJ0_length_8abf5 1 (some .int), Cond.fieldLink RJ0 9 "java/lang/String" "value" "[B", Cond.methodLink RJ0 335 yJ0_coder_7d493, Cond.instanceMethod yJ0_coder_7d493, Cond.selects RJ0 yJ0_coder_7d493 yJ0_coder_7d493, Cond.code yJ0_coder_7d493 cJ0_coder_7d493 1 (some .byte), Cond.fieldLink RJ0 38 "java/lang/String" "COMPACT_STRINGS" "Z", Cond.fieldLink RJ0 15 "java/lang/String" "coder" "B", Cond.methodLink RX9 52 yJ0_charAt_5068e, Cond.instanceMethod yJ0_charAt_5068e, Cond.selects RJ0 yJ0_charAt_5068e yJ0_charAt_5068e, Cond.code yJ0_charAt_5068e cJ0_charAt_5068e 2 (some .char), Cond.methodLink RJ0 492 yJ0_isLatin1_aae02, Cond.instanceMethod yJ0_isLatin1_aae02, Cond.selects RJ0 yJ0_isLatin1_aae02 yJ0_isLatin1_aae02, Cond.code yJ0_isLatin1_aae02 cJ0_isLatin1_aae02 1 (some .boolean), Cond.methodLink RJ0 495 yJ1_charAt_3b067, Cond.static yJ1_charAt_3b067, Cond.initialized RJ1, Cond.code yJ1_charAt_3b067 cJ1_charAt_3b067 2 (some .char)]
def wsX9_readsAct_r3 : List Cond := [Cond.methodLink RJ1 9 yJ0_checkIndex_df160, Cond.static yJ0_checkIndex_df160, Cond.code yJ0_checkIndex_df160 cJ0_checkIndex_df160 2 none, Cond.fieldLink RJ0 1053 "jdk/internal/util/Preconditions" "SIOOBE_FORMATTER" "Ljava/util/function/BiFunction;", Cond.methodLink RJ0 1059 yJ3_checkIndex_8e157, Cond.static yJ3_checkIndex_8e157, Cond.initialized RJ3, Cond.code yJ3_checkIndex_8e157 cJ3_checkIndex_8e157 3 (some .int), Cond.methodLink RJ0 498 yJ2_charAt_3b067, Cond.static yJ2_charAt_3b067, Cond.initialized RJ2, Cond.code yJ2_charAt_3b067 cJ2_charAt_3b067 2 (some .char), Cond.methodLink RJ2 67 yJ2_checkIndex_2214a, Cond.static yJ2_checkIndex_2214a, Cond.code yJ2_checkIndex_2214a cJ2_checkIndex_2214a 2 none, Cond.methodLink RJ2 48 yJ2_length_9d52b, Cond.static yJ2_length_9d52b, Cond.code yJ2_length_9d52b cJ2_length_9d52b 1 (some .int), Cond.methodLink RJ2 414 yJ0_checkIndex_df160, Cond.methodLink RJ2 71 yJ2_getChar_3b067, Cond.static yJ2_getChar_3b067, Cond.code yJ2_getChar_3b067 cJ2_getChar_3b067 2 (some .char), Cond.fieldLink RJ2 44 "java/lang/StringUTF16" "$assertionsDisabled" "Z", Cond.fieldLink RJ2 59 "java/lang/StringUTF16" "HI_BYTE_SHIFT" "I"]
def wsX9_readsAct_r4 : List Cond := [Cond.fieldLink RJ2 63 "java/lang/StringUTF16" "LO_BYTE_SHIFT" "I", Cond.methodLink RX9 43 yX9_shapeOf, Cond.static yX9_shapeOf, Cond.code yX9_shapeOf cX9_shapeOf 1 (some (.object "java/lang/String")), Cond.methodLink RX9 36 yX9_isHere, Cond.instanceMethod yX9_isHere, Cond.selects RX9 yX9_isHere yX9_isHere, Cond.code yX9_isHere cX9_isHere 2 (some .boolean), Cond.methodLink RX9 56 yX9_readsPart, Cond.instanceMethod yX9_readsPart, Cond.selects RX9 yX9_readsPart yX9_readsPart, Cond.code yX9_readsPart cX9_readsPart 4 (some .boolean), Cond.methodLink RX9 70 yX9_readsName, Cond.instanceMethod yX9_readsName, Cond.selects RX9 yX9_readsName yX9_readsName, Cond.code yX9_readsName cX9_readsName 4 (some .boolean), Cond.methodLink RX9 74 yX9_readsNumber, Cond.instanceMethod yX9_readsNumber, Cond.selects RX9 yX9_readsNumber yX9_readsNumber, Cond.code yX9_readsNumber cX9_readsNumber 5 (some .boolean), Cond.methodLink RX9 78 yX9_isFigureHere, Cond.instanceMethod yX9_isFigureHere, Cond.selects RX9 yX9_isFigureHere yX9_isFigureHere, Cond.code yX9_isFigureHere cX9_isFigureHere 1 (some .boolean)]
def wsX9_readsAct : List Cond := .code yX9_readsAct cX9_readsAct 3 (some .boolean) :: ((wsX9_readsAct_r1 ++ (wsX9_readsAct_r2 ++ (wsX9_readsAct_r3 ++ wsX9_readsAct_r4))) ++ wsX90)
def wsX9_isPartedHere : List Cond := .code yX9_isPartedHere cX9_isPartedHere 1 (some .boolean) :: ([.methodLink RX9 36 yX9_isHere, .instanceMethod yX9_isHere, .selects RX9 yX9_isHere yX9_isHere, .initialized RX9, .code yX9_isHere cX9_isHere 2 (some .boolean), .fieldLink RX9 19 "BoatTrim$Tape" "at" "I", .fieldLink RX9 9 "BoatTrim$Tape" "length" "I", .fieldLink RX9 15 "BoatTrim$Tape" "bytes" "[B", .static yX11_isWithin, .initialized RX11, .code yX11_isWithin cX11_isWithin 3 (some .boolean)] ++ wsX90)
def wsX9_findFault_r1 : List Cond := [Cond.fieldLink RX9 19 "BoatTrim$Tape" "at" "I", Cond.fieldLink RX9 9 "BoatTrim$Tape" "length" "I", Cond.methodLink RX9 29 yX9_readsAct, Cond.instanceMethod yX9_readsAct, Cond.selects RX9 yX9_readsAct yX9_readsAct, Cond.initialized RX9, Cond.code yX9_readsAct cX9_readsAct 3 (some .boolean), Cond.fieldLink RX9 22 "BoatTrim$Tape" "act" "I", Cond.fieldLink RX9 25 "BoatTrim$Tape" "parts" "[I", Cond.methodLink RX9 40 yX9_readsWord, Cond.instanceMethod yX9_readsWord, Cond.selects RX9 yX9_readsWord yX9_readsWord, Cond.code yX9_readsWord cX9_readsWord 3 (some .boolean), Cond.methodLink RX9 60 yX9_isLetterHere, Cond.instanceMethod yX9_isLetterHere, Cond.selects RX9 yX9_isLetterHere yX9_isLetterHere, Cond.code yX9_isLetterHere cX9_isLetterHere 1 (some .boolean), Cond.fieldLink RX9 15 "BoatTrim$Tape" "bytes" "[B", Cond.static yX11_isWithin, Cond.initialized RX11, Cond.code yX11_isWithin cX11_isWithin 3 (some .boolean), Cond.methodLink RX9 63 yX9_wordOf, Cond.static yX9_wordOf, Cond.code yX9_wordOf cX9_wordOf 1 (some (.object "java/lang/String"))]
def wsX9_findFault_r2 : List Cond := [Cond.methodLink RX9 66 yX9_isWord, Cond.instanceMethod yX9_isWord, Cond.selects RX9 yX9_isWord yX9_isWord, Cond.code yX9_isWord cX9_isWord 5 (some .boolean), Cond.methodLink RX9 47 yJ0_length_8abf5, Cond.instanceMethod yJ0_length_8abf5, Cond.selects RJ0 yJ0_length_8abf5 yJ0_length_8abf5, Cond.initialized RJ0, Cond.code yJ0_length_8abf5 cJ0_length_8abf5 1 (some .int), Cond.fieldLink RJ0 9 "java/lang/String" "value" "[B", Cond.methodLink RJ0 335 yJ0_coder_7d493, Cond.instanceMethod yJ0_coder_7d493, Cond.selects RJ0 yJ0_coder_7d493 yJ0_coder_7d493, Cond.code yJ0_coder_7d493 cJ0_coder_7d493 1 (some .byte), Cond.fieldLink RJ0 38 "java/lang/String" "COMPACT_STRINGS" "Z", Cond.fieldLink RJ0 15 "java/lang/String" "coder" "B", Cond.methodLink RX9 52 yJ0_charAt_5068e, Cond.instanceMethod yJ0_charAt_5068e, Cond.selects RJ0 yJ0_charAt_5068e yJ0_charAt_5068e, Cond.code yJ0_charAt_5068e cJ0_charAt_5068e 2 (some .char), Cond.methodLink RJ0 492 yJ0_isLatin1_aae02, Cond.instanceMethod yJ0_isLatin1_aae02, Cond.selects RJ0 yJ0_isLatin1_aae02 yJ0_isLatin1_aae02, Cond.code yJ0_isLatin1_aae02 cJ0_isLatin1_aae02 1 (some .boolean)]
def wsX9_findFault_r3 : List Cond := [Cond.methodLink RJ0 495 yJ1_charAt_3b067, Cond.static yJ1_charAt_3b067, Cond.initialized RJ1, Cond.code yJ1_charAt_3b067 cJ1_charAt_3b067 2 (some .char), Cond.methodLink RJ1 9 yJ0_checkIndex_df160, Cond.static yJ0_checkIndex_df160, Cond.code yJ0_checkIndex_df160 cJ0_checkIndex_df160 2 none, Cond.fieldLink RJ0 1053 "jdk/internal/util/Preconditions" "SIOOBE_FORMATTER" "Ljava/util/function/BiFunction;", Cond.methodLink RJ0 1059 yJ3_checkIndex_8e157, Cond.static yJ3_checkIndex_8e157, Cond.initialized RJ3, Cond.code yJ3_checkIndex_8e157 cJ3_checkIndex_8e157 3 (some .int), Cond.methodLink RJ0 498 yJ2_charAt_3b067, Cond.static yJ2_charAt_3b067, Cond.initialized RJ2, Cond.code yJ2_charAt_3b067 cJ2_charAt_3b067 2 (some .char), Cond.methodLink RJ2 67 yJ2_checkIndex_2214a, Cond.static yJ2_checkIndex_2214a, Cond.code yJ2_checkIndex_2214a cJ2_checkIndex_2214a 2 none, Cond.methodLink RJ2 48 yJ2_length_9d52b, Cond.static yJ2_length_9d52b, Cond.code yJ2_length_9d52b cJ2_length_9d52b 1 (some .int), Cond.methodLink RJ2 414 yJ0_checkIndex_df160, Cond.methodLink RJ2 71 yJ2_getChar_3b067]
def wsX9_findFault_r4 : List Cond := [Cond.static yJ2_getChar_3b067, Cond.code yJ2_getChar_3b067 cJ2_getChar_3b067 2 (some .char), Cond.fieldLink RJ2 44 "java/lang/StringUTF16" "$assertionsDisabled" "Z", Cond.fieldLink RJ2 59 "java/lang/StringUTF16" "HI_BYTE_SHIFT" "I", Cond.fieldLink RJ2 63 "java/lang/StringUTF16" "LO_BYTE_SHIFT" "I", Cond.methodLink RX9 43 yX9_shapeOf, Cond.static yX9_shapeOf, Cond.code yX9_shapeOf cX9_shapeOf 1 (some (.object "java/lang/String")), Cond.methodLink RX9 36 yX9_isHere, Cond.instanceMethod yX9_isHere, Cond.selects RX9 yX9_isHere yX9_isHere, Cond.code yX9_isHere cX9_isHere 2 (some .boolean), Cond.methodLink RX9 56 yX9_readsPart, Cond.instanceMethod yX9_readsPart, Cond.selects RX9 yX9_readsPart yX9_readsPart, Cond.code yX9_readsPart cX9_readsPart 4 (some .boolean), Cond.methodLink RX9 70 yX9_readsName, Cond.instanceMethod yX9_readsName, Cond.selects RX9 yX9_readsName yX9_readsName, Cond.code yX9_readsName cX9_readsName 4 (some .boolean), Cond.methodLink RX9 74 yX9_readsNumber, Cond.instanceMethod yX9_readsNumber, Cond.selects RX9 yX9_readsNumber yX9_readsNumber, Cond.code yX9_readsNumber cX9_readsNumber 5 (some .boolean)]
def wsX9_findFault_r5 : List Cond := [Cond.methodLink RX9 78 yX9_isFigureHere, Cond.instanceMethod yX9_isFigureHere, Cond.selects RX9 yX9_isFigureHere yX9_isFigureHere, Cond.code yX9_isFigureHere cX9_isFigureHere 1 (some .boolean), Cond.methodLink RX9 33 yX9_isPartedHere, Cond.instanceMethod yX9_isPartedHere, Cond.selects RX9 yX9_isPartedHere yX9_isPartedHere, Cond.code yX9_isPartedHere cX9_isPartedHere 1 (some .boolean)]
def wsX9_findFault : List Cond := .code yX9_findFault cX9_findFault 2 (some .int) :: ((wsX9_findFault_r1 ++ (wsX9_findFault_r2 ++ (wsX9_findFault_r3 ++ (wsX9_findFault_r4 ++ wsX9_findFault_r5)))) ++ wsX90)
def wsX10_init : List Cond := .code yX10_init cX10_init 1 none :: ([.methodLink RX10 3 objectInit, .instanceMethod objectInit, .code objectInit ⟨#[0xb1]⟩ 1 none, .fieldLink RX10 9 "BoatTrim$Trim" "slope" "I", .fieldLink RX10 15 "BoatTrim$Trim" "start" "I", .fieldLink RX10 18 "BoatTrim$Trim" "off" "I"] ++ wsX100)
def wsX10_find_r1 : List Cond := [Cond.constant RX10 31 (-2147483648), Cond.methodLink RX10 32 Lib.Math.abs.name, Cond.static Lib.Math.abs.name, Cond.initialized "java/lang/Math", Cond.code Lib.Math.abs.name Lib.Math.abs.code 1 (some .int), Cond.fieldLink RX10 18 "BoatTrim$Trim" "off" "I", Cond.fieldLink RX10 9 "BoatTrim$Trim" "slope" "I", Cond.fieldLink RX10 37 "BoatTrim$Boat" "hull" "LBoatTrim$Hull;", Cond.fieldLink RX10 15 "BoatTrim$Trim" "start" "I", Cond.methodLink RX10 21 yX0_allWeight, Cond.instanceMethod yX0_allWeight, Cond.selects RX0 yX0_allWeight yX0_allWeight, Cond.initialized RX0, Cond.code yX0_allWeight cX0_allWeight 3 (some .int), Cond.fieldLink RX0 12 "BoatTrim$Boat" "hull" "LBoatTrim$Hull;", Cond.fieldLink RX0 67 "BoatTrim$Hull" "shell" "I", Cond.fieldLink RX0 21 "BoatTrim$Boat" "cargo" "LBoatTrim$Cargo;", Cond.fieldLink RX0 36 "BoatTrim$Cargo" "size" "I", Cond.fieldLink RX0 28 "BoatTrim$Boat" "tanks" "LBoatTrim$Tanks;", Cond.fieldLink RX0 73 "BoatTrim$Tanks" "has" "[I", Cond.methodLink RX0 70 yX0_weighsAt, Cond.instanceMethod yX0_weighsAt, Cond.selects RX0 yX0_weighsAt yX0_weighsAt, Cond.code yX0_weighsAt cX0_weighsAt 2 (some .int)]
def wsX10_find_r2 : List Cond := [Cond.fieldLink RX0 53 "BoatTrim$Cargo" "kind" "[I", Cond.fieldLink RX0 57 "BoatTrim$Cargo" "weight" "[I", Cond.methodLink RX0 60 yX0_woolWeighs, Cond.instanceMethod yX0_woolWeighs, Cond.selects RX0 yX0_woolWeighs yX0_woolWeighs, Cond.code yX0_woolWeighs cX0_woolWeighs 2 (some .int), Cond.fieldLink RX0 64 "BoatTrim$Hull" "wet" "I", Cond.methodLink RX10 27 yX0_offOf, Cond.instanceMethod yX0_offOf, Cond.selects RX0 yX0_offOf yX0_offOf, Cond.code yX0_offOf cX0_offOf 3 (some .int), Cond.constant RX0 107 (-2147483648), Cond.methodLink RX0 100 yX0_allWeight, Cond.methodLink RX0 104 yX2_startOf, Cond.instanceMethod yX2_startOf, Cond.selects RX2 yX2_startOf yX2_startOf, Cond.initialized RX2, Cond.code yX2_startOf cX2_startOf 7 (some .int), Cond.fieldLink RX2 9 "BoatTrim$Hull" "sections" "I", Cond.methodLink RX2 67 Lib.Math.abs.name, Cond.methodLink RX2 57 yX2_top, Cond.instanceMethod yX2_top, Cond.selects RX2 yX2_top yX2_top, Cond.code yX2_top cX2_top 1 (some .int)]
def wsX10_find_r3 : List Cond := [Cond.fieldLink RX2 15 "BoatTrim$Hull" "deep" "I", Cond.methodLink RX2 71 yX2_waterOfSlope, Cond.instanceMethod yX2_waterOfSlope, Cond.selects RX2 yX2_waterOfSlope yX2_waterOfSlope, Cond.code yX2_waterOfSlope cX2_waterOfSlope 5 (some .int), Cond.methodLink RX2 61 yX2_draughtOf, Cond.instanceMethod yX2_draughtOf, Cond.selects RX2 yX2_draughtOf yX2_draughtOf, Cond.code yX2_draughtOf cX2_draughtOf 4 (some .int), Cond.methodLink RX2 64 yX2_waterAt, Cond.instanceMethod yX2_waterAt, Cond.selects RX2 yX2_waterAt yX2_waterAt, Cond.code yX2_waterAt cX2_waterAt 4 (some .int), Cond.methodLink RX2 51 Lib.Math.min.name, Cond.static Lib.Math.min.name, Cond.code Lib.Math.min.name Lib.Math.min.code 2 (some .int), Cond.fieldLink RX2 28 "BoatTrim$Hull" "rise" "[I", Cond.fieldLink RX2 24 "BoatTrim$Hull" "wide" "[I", Cond.methodLink RX0 129 yX2_pullOfSlope, Cond.instanceMethod yX2_pullOfSlope, Cond.selects RX2 yX2_pullOfSlope yX2_pullOfSlope, Cond.code yX2_pullOfSlope cX2_pullOfSlope 5 (some .int), Cond.methodLink RX0 132 yX0_allAlong, Cond.instanceMethod yX0_allAlong]
def wsX10_find_r4 : List Cond := [Cond.selects RX0 yX0_allAlong yX0_allAlong, Cond.code yX0_allAlong cX0_allAlong 3 (some .int), Cond.fieldLink RX0 76 "BoatTrim$Hull" "sections" "I", Cond.fieldLink RX0 79 "BoatTrim$Cargo" "section" "[I", Cond.fieldLink RX0 82 "BoatTrim$Tanks" "section" "[I", Cond.methodLink RX10 41 yX2_startOf]
def wsX10_find : List Cond := .code yX10_find cX10_find 7 (some .boolean) :: ((wsX10_find_r1 ++ (wsX10_find_r2 ++ (wsX10_find_r3 ++ wsX10_find_r4))) ++ wsX100 ++ wsX00 ++ wsX20 ++ wsX10 ++ wsX80)
def wsX11_init_r1 : List Cond := [Cond.methodLink RX11 3 objectInit, Cond.instanceMethod objectInit, Cond.code objectInit ⟨#[0xb1]⟩ 1 none, Cond.classLink RX11 9 RX0, Cond.instantiable RX0 3, Cond.initialized RX0, Cond.fieldLink RX11 12 "BoatTrim" "boat" "LBoatTrim$Boat;", Cond.fieldLink RX11 18 "BoatTrim" "kept" "LBoatTrim$Boat;", Cond.fieldLink RX11 21 "BoatTrim" "isKept" "Z", Cond.classLink RX11 25 RX6, Cond.instantiable RX6 2, Cond.initialized RX6, Cond.fieldLink RX11 28 "BoatTrim" "rows" "LBoatTrim$Rows;", Cond.classLink RX11 32 RX9, Cond.instantiable RX9 5, Cond.initialized RX9, Cond.fieldLink RX11 35 "BoatTrim" "tape" "LBoatTrim$Tape;", Cond.classLink RX11 39 RX4, Cond.instantiable RX4 2, Cond.initialized RX4, Cond.fieldLink RX11 42 "BoatTrim" "orders" "LBoatTrim$Orders;", Cond.classLink RX11 46 RX10, Cond.instantiable RX10 3, Cond.initialized RX10]
def wsX11_init_r2 : List Cond := [Cond.fieldLink RX11 49 "BoatTrim" "trims" "LBoatTrim$Trim;", Cond.classLink RX11 53 RX7, Cond.instantiable RX7 2, Cond.initialized RX7, Cond.fieldLink RX11 56 "BoatTrim" "swap" "LBoatTrim$Swap;", Cond.classLink RX11 60 RX3, Cond.instantiable RX3 5, Cond.initialized RX3, Cond.fieldLink RX11 63 "BoatTrim" "landing" "LBoatTrim$Landing;", Cond.classLink RX11 67 RX5, Cond.instantiable RX5 2, Cond.initialized RX5, Cond.fieldLink RX11 70 "BoatTrim" "report" "LBoatTrim$Report;", Cond.instanceMethod yX0_init, Cond.code yX0_init cX0_init 1 none, Cond.methodLink RX0 3 objectInit, Cond.classLink RX0 9 RX2, Cond.instantiable RX2 6, Cond.initialized RX2, Cond.fieldLink RX0 12 "BoatTrim$Boat" "hull" "LBoatTrim$Hull;", Cond.classLink RX0 18 RX1, Cond.instantiable RX1 7, Cond.initialized RX1, Cond.fieldLink RX0 21 "BoatTrim$Boat" "cargo" "LBoatTrim$Cargo;"]
def wsX11_init_r3 : List Cond := [Cond.classLink RX0 25 RX8, Cond.instantiable RX8 4, Cond.initialized RX8, Cond.fieldLink RX0 28 "BoatTrim$Boat" "tanks" "LBoatTrim$Tanks;", Cond.instanceMethod yX2_init, Cond.code yX2_init cX2_init 1 none, Cond.methodLink RX2 3 objectInit, Cond.fieldLink RX2 9 "BoatTrim$Hull" "sections" "I", Cond.fieldLink RX2 15 "BoatTrim$Hull" "deep" "I", Cond.fieldLink RX2 18 "BoatTrim$Hull" "shell" "I", Cond.fieldLink RX2 21 "BoatTrim$Hull" "wet" "I", Cond.arrayClass .int, Cond.fieldLink RX2 24 "BoatTrim$Hull" "wide" "[I", Cond.fieldLink RX2 28 "BoatTrim$Hull" "rise" "[I", Cond.instanceMethod yX1_init, Cond.code yX1_init cX1_init 1 none, Cond.methodLink RX1 3 objectInit, Cond.fieldLink RX1 9 "BoatTrim$Cargo" "size" "I", Cond.fieldLink RX1 15 "BoatTrim$Cargo" "name" "[I", Cond.fieldLink RX1 19 "BoatTrim$Cargo" "kind" "[I", Cond.fieldLink RX1 22 "BoatTrim$Cargo" "weight" "[I", Cond.fieldLink RX1 25 "BoatTrim$Cargo" "section" "[I", Cond.fieldLink RX1 28 "BoatTrim$Cargo" "side" "[I", Cond.fieldLink RX1 31 "BoatTrim$Cargo" "up" "[I"]
def wsX11_init_r4 : List Cond := [Cond.instanceMethod yX8_init, Cond.code yX8_init cX8_init 1 none, Cond.methodLink RX8 3 objectInit, Cond.fieldLink RX8 9 "BoatTrim$Tanks" "section" "[I", Cond.fieldLink RX8 15 "BoatTrim$Tanks" "breadth" "[I", Cond.fieldLink RX8 18 "BoatTrim$Tanks" "holds" "[I", Cond.fieldLink RX8 21 "BoatTrim$Tanks" "has" "[I", Cond.instanceMethod yX6_init, Cond.code yX6_init cX6_init 1 none, Cond.methodLink RX6 1 objectInit, Cond.fieldLink RX6 7 "BoatTrim$Rows" "size" "[I", Cond.classLink RX6 13 "[[I", Cond.fieldLink RX6 15 "BoatTrim$Rows" "places" "[[I", Cond.instanceMethod yX9_init, Cond.code yX9_init cX9_init 1 none, Cond.methodLink RX9 3 objectInit, Cond.fieldLink RX9 9 "BoatTrim$Tape" "length" "I", Cond.arrayClass .byte, Cond.fieldLink RX9 15 "BoatTrim$Tape" "bytes" "[B", Cond.fieldLink RX9 19 "BoatTrim$Tape" "at" "I", Cond.fieldLink RX9 22 "BoatTrim$Tape" "act" "I", Cond.fieldLink RX9 25 "BoatTrim$Tape" "parts" "[I", Cond.instanceMethod yX4_init, Cond.code yX4_init cX4_init 1 none]
def wsX11_init_r5 : List Cond := [Cond.methodLink RX4 3 objectInit, Cond.fieldLink RX4 9 "BoatTrim$Orders" "places" "[I", Cond.fieldLink RX4 15 "BoatTrim$Orders" "keys" "[I", Cond.instanceMethod yX10_init, Cond.code yX10_init cX10_init 1 none, Cond.methodLink RX10 3 objectInit, Cond.fieldLink RX10 9 "BoatTrim$Trim" "slope" "I", Cond.fieldLink RX10 15 "BoatTrim$Trim" "start" "I", Cond.fieldLink RX10 18 "BoatTrim$Trim" "off" "I", Cond.instanceMethod yX7_init, Cond.code yX7_init cX7_init 1 none, Cond.methodLink RX7 3 objectInit, Cond.fieldLink RX7 9 "BoatTrim$Swap" "one" "I", Cond.fieldLink RX7 15 "BoatTrim$Swap" "other" "I", Cond.instanceMethod yX3_init, Cond.code yX3_init cX3_init 1 none, Cond.methodLink RX3 3 objectInit, Cond.fieldLink RX3 9 "BoatTrim$Landing" "least" "[I", Cond.fieldLink RX3 15 "BoatTrim$Landing" "most" "[I", Cond.fieldLink RX3 18 "BoatTrim$Landing" "wanted" "I", Cond.fieldLink RX3 22 "BoatTrim$Landing" "fitting" "I", Cond.fieldLink RX3 25 "BoatTrim$Landing" "leastFitting" "I", Cond.instanceMethod yX5_init, Cond.code yX5_init cX5_init 1 none]
def wsX11_init_r6 : List Cond := [Cond.methodLink RX5 3 objectInit, Cond.fieldLink RX5 9 "BoatTrim$Report" "length" "I", Cond.arrayClass .char, Cond.fieldLink RX5 15 "BoatTrim$Report" "signs" "[C", Cond.methodLink RX11 74 yX0_makeAsAtFirst, Cond.instanceMethod yX0_makeAsAtFirst, Cond.selects RX0 yX0_makeAsAtFirst yX0_makeAsAtFirst, Cond.code yX0_makeAsAtFirst cX0_makeAsAtFirst 2 none, Cond.fieldLink RX0 36 "BoatTrim$Cargo" "size" "I", Cond.methodLink RX0 32 yX2_makeAsAtFirst, Cond.instanceMethod yX2_makeAsAtFirst, Cond.selects RX2 yX2_makeAsAtFirst yX2_makeAsAtFirst, Cond.code yX2_makeAsAtFirst cX2_makeAsAtFirst 2 none, Cond.static yX11_held, Cond.initialized RX11, Cond.code yX11_held cX11_held 3 (some .int), Cond.methodLink RX11 386 Lib.Math.min.name, Cond.static Lib.Math.min.name, Cond.initialized "java/lang/Math", Cond.code Lib.Math.min.name Lib.Math.min.code 2 (some .int), Cond.methodLink RX11 254 Lib.Math.max.name, Cond.static Lib.Math.max.name, Cond.code Lib.Math.max.name Lib.Math.max.code 2 (some .int), Cond.methodLink RX2 35 yJ7_fill_53178]
def wsX11_init_r7 : List Cond := [Cond.static yJ7_fill_53178, Cond.initialized RJ7, Cond.code yJ7_fill_53178 cJ7_fill_53178 4 none, Cond.methodLink RX0 40 yX8_empty, Cond.instanceMethod yX8_empty, Cond.selects RX8 yX8_empty yX8_empty, Cond.code yX8_empty cX8_empty 1 none, Cond.methodLink RX8 24 yJ7_fill_53178]
def wsX11_init : List Cond := .code yX11_init cX11_init 1 none :: ((wsX11_init_r1 ++ (wsX11_init_r2 ++ (wsX11_init_r3 ++ (wsX11_init_r4 ++ (wsX11_init_r5 ++ (wsX11_init_r6 ++ wsX11_init_r7)))))) ++ wsX00 ++ wsX110 ++ wsX60 ++ wsX90 ++ wsX40 ++ wsX100 ++ wsX70 ++ wsX30 ++ wsX50 ++ wsX20 ++ wsX10 ++ wsX80)
def wsX11_hull_r1 : List Cond := [Cond.fieldLink RX11 12 "BoatTrim" "boat" "LBoatTrim$Boat;", Cond.fieldLink RX11 82 "BoatTrim$Boat" "hull" "LBoatTrim$Hull;", Cond.fieldLink RX11 86 "BoatTrim$Hull" "sections" "I", Cond.methodLink RX11 78 yX11_isWithin, Cond.static yX11_isWithin, Cond.initialized RX11, Cond.code yX11_isWithin cX11_isWithin 3 (some .boolean), Cond.methodLink RX11 74 yX0_makeAsAtFirst, Cond.instanceMethod yX0_makeAsAtFirst, Cond.selects RX0 yX0_makeAsAtFirst yX0_makeAsAtFirst, Cond.initialized RX0, Cond.code yX0_makeAsAtFirst cX0_makeAsAtFirst 2 none, Cond.fieldLink RX0 12 "BoatTrim$Boat" "hull" "LBoatTrim$Hull;", Cond.fieldLink RX0 21 "BoatTrim$Boat" "cargo" "LBoatTrim$Cargo;", Cond.fieldLink RX0 36 "BoatTrim$Cargo" "size" "I", Cond.fieldLink RX0 28 "BoatTrim$Boat" "tanks" "LBoatTrim$Tanks;", Cond.methodLink RX0 32 yX2_makeAsAtFirst, Cond.instanceMethod yX2_makeAsAtFirst, Cond.selects RX2 yX2_makeAsAtFirst yX2_makeAsAtFirst, Cond.initialized RX2, Cond.code yX2_makeAsAtFirst cX2_makeAsAtFirst 2 none, Cond.fieldLink RX2 9 "BoatTrim$Hull" "sections" "I", Cond.fieldLink RX2 15 "BoatTrim$Hull" "deep" "I", Cond.fieldLink RX2 18 "BoatTrim$Hull" "shell" "I"]
def wsX11_hull_r2 : List Cond := [Cond.fieldLink RX2 21 "BoatTrim$Hull" "wet" "I", Cond.fieldLink RX2 24 "BoatTrim$Hull" "wide" "[I", Cond.fieldLink RX2 28 "BoatTrim$Hull" "rise" "[I", Cond.static yX11_held, Cond.code yX11_held cX11_held 3 (some .int), Cond.methodLink RX11 386 Lib.Math.min.name, Cond.static Lib.Math.min.name, Cond.initialized "java/lang/Math", Cond.code Lib.Math.min.name Lib.Math.min.code 2 (some .int), Cond.methodLink RX11 254 Lib.Math.max.name, Cond.static Lib.Math.max.name, Cond.code Lib.Math.max.name Lib.Math.max.code 2 (some .int), Cond.methodLink RX2 35 yJ7_fill_53178, Cond.static yJ7_fill_53178, Cond.initialized RJ7, Cond.code yJ7_fill_53178 cJ7_fill_53178 4 none, Cond.methodLink RX0 40 yX8_empty, Cond.instanceMethod yX8_empty, Cond.selects RX8 yX8_empty yX8_empty, Cond.initialized RX8, Cond.code yX8_empty cX8_empty 1 none, Cond.fieldLink RX8 9 "BoatTrim$Tanks" "section" "[I", Cond.fieldLink RX8 15 "BoatTrim$Tanks" "breadth" "[I", Cond.fieldLink RX8 18 "BoatTrim$Tanks" "holds" "[I"]
def wsX11_hull_r3 : List Cond := [Cond.fieldLink RX8 21 "BoatTrim$Tanks" "has" "[I", Cond.methodLink RX8 24 yJ7_fill_53178]
def wsX11_hull : List Cond := .code yX11_hull cX11_hull 3 (some .int) :: ((wsX11_hull_r1 ++ (wsX11_hull_r2 ++ wsX11_hull_r3)) ++ wsX110 ++ wsX00 ++ wsX20 ++ wsX10 ++ wsX80)
def wsX11_section : List Cond := .code yX11_section cX11_section 5 (some .int) :: ([.fieldLink RX11 12 "BoatTrim" "boat" "LBoatTrim$Boat;", .fieldLink RX11 82 "BoatTrim$Boat" "hull" "LBoatTrim$Hull;", .fieldLink RX11 96 "BoatTrim$Hull" "wide" "[I", .fieldLink RX11 100 "BoatTrim$Hull" "rise" "[I", .methodLink RX11 92 yX2_hasSection, .instanceMethod yX2_hasSection, .selects RX2 yX2_hasSection yX2_hasSection, .initialized RX2, .code yX2_hasSection cX2_hasSection 2 (some .boolean), .fieldLink RX2 9 "BoatTrim$Hull" "sections" "I", .static yX11_isWithin, .initialized RX11, .code yX11_isWithin cX11_isWithin 3 (some .boolean), .methodLink RX11 78 yX11_isWithin] ++ wsX110 ++ wsX00 ++ wsX20)
def wsX11_setDeep : List Cond := .code yX11_setDeep cX11_setDeep 3 (some .int) :: ([.fieldLink RX11 12 "BoatTrim" "boat" "LBoatTrim$Boat;", .fieldLink RX11 82 "BoatTrim$Boat" "hull" "LBoatTrim$Hull;", .fieldLink RX11 113 "BoatTrim$Hull" "deep" "I", .methodLink RX11 78 yX11_isWithin, .static yX11_isWithin, .initialized RX11, .code yX11_isWithin cX11_isWithin 3 (some .boolean)] ++ wsX110 ++ wsX00 ++ wsX20)
def wsX11_setShell : List Cond := .code yX11_setShell cX11_setShell 3 (some .int) :: ([.fieldLink RX11 12 "BoatTrim" "boat" "LBoatTrim$Boat;", .fieldLink RX11 82 "BoatTrim$Boat" "hull" "LBoatTrim$Hull;", .fieldLink RX11 116 "BoatTrim$Hull" "shell" "I", .methodLink RX11 78 yX11_isWithin, .static yX11_isWithin, .initialized RX11, .code yX11_isWithin cX11_isWithin 3 (some .boolean)] ++ wsX110 ++ wsX00 ++ wsX20)
def wsX11_setWet : List Cond := .code yX11_setWet cX11_setWet 3 (some .int) :: ([.fieldLink RX11 12 "BoatTrim" "boat" "LBoatTrim$Boat;", .fieldLink RX11 82 "BoatTrim$Boat" "hull" "LBoatTrim$Hull;", .fieldLink RX11 119 "BoatTrim$Hull" "wet" "I", .methodLink RX11 78 yX11_isWithin, .static yX11_isWithin, .initialized RX11, .code yX11_isWithin cX11_isWithin 3 (some .boolean)] ++ wsX110 ++ wsX00 ++ wsX20)
def wsX11_set : List Cond := .code yX11_set cX11_set 3 (some .int) :: ([.methodLink RX11 103 yX11_setDeep, .instanceMethod yX11_setDeep, .selects RX11 yX11_setDeep yX11_setDeep, .initialized RX11, .code yX11_setDeep cX11_setDeep 3 (some .int), .fieldLink RX11 12 "BoatTrim" "boat" "LBoatTrim$Boat;", .fieldLink RX11 82 "BoatTrim$Boat" "hull" "LBoatTrim$Hull;", .fieldLink RX11 113 "BoatTrim$Hull" "deep" "I", .methodLink RX11 78 yX11_isWithin, .static yX11_isWithin, .code yX11_isWithin cX11_isWithin 3 (some .boolean), .methodLink RX11 107 yX11_setShell, .instanceMethod yX11_setShell, .selects RX11 yX11_setShell yX11_setShell, .code yX11_setShell cX11_setShell 3 (some .int), .fieldLink RX11 116 "BoatTrim$Hull" "shell" "I", .methodLink RX11 110 yX11_setWet, .instanceMethod yX11_setWet, .selects RX11 yX11_setWet yX11_setWet, .code yX11_setWet cX11_setWet 3 (some .int), .fieldLink RX11 119 "BoatTrim$Hull" "wet" "I"] ++ wsX110 ++ wsX00 ++ wsX20)
def wsX11_isName : List Cond := .code yX11_isName cX11_isName 3 (some .boolean) :: ([.constant RX11 389 (531440), .methodLink RX11 78 yX11_isWithin, .static yX11_isWithin, .initialized RX11, .code yX11_isWithin cX11_isWithin 3 (some .boolean)])
def wsX11_isKind : List Cond := .code yX11_isKind cX11_isKind 1 (some .boolean) :: ([.methodLink RX11 78 yX11_isWithin, .static yX11_isWithin, .initialized RX11, .code yX11_isWithin cX11_isWithin 3 (some .boolean)])
def wsX11_isSide : List Cond := .code yX11_isSide cX11_isSide 1 (some .boolean) :: ([.methodLink RX11 78 yX11_isWithin, .static yX11_isWithin, .initialized RX11, .code yX11_isWithin cX11_isWithin 3 (some .boolean)])
def wsX11_put_r1 : List Cond := [Cond.fieldLink RX11 12 "BoatTrim" "boat" "LBoatTrim$Boat;", Cond.fieldLink RX11 82 "BoatTrim$Boat" "hull" "LBoatTrim$Hull;", Cond.fieldLink RX11 131 "BoatTrim$Boat" "cargo" "LBoatTrim$Cargo;", Cond.fieldLink RX11 140 "BoatTrim$Cargo" "size" "I", Cond.fieldLink RX11 146 "BoatTrim$Cargo" "kind" "[I", Cond.fieldLink RX11 149 "BoatTrim$Cargo" "weight" "[I", Cond.fieldLink RX11 152 "BoatTrim$Cargo" "section" "[I", Cond.fieldLink RX11 155 "BoatTrim$Cargo" "side" "[I", Cond.fieldLink RX11 158 "BoatTrim$Cargo" "up" "[I", Cond.methodLink RX11 122 yX11_isName, Cond.static yX11_isName, Cond.initialized RX11, Cond.code yX11_isName cX11_isName 3 (some .boolean), Cond.constant RX11 389 (531440), Cond.methodLink RX11 78 yX11_isWithin, Cond.static yX11_isWithin, Cond.code yX11_isWithin cX11_isWithin 3 (some .boolean), Cond.methodLink RX11 125 yX11_isKind, Cond.static yX11_isKind, Cond.code yX11_isKind cX11_isKind 1 (some .boolean), Cond.methodLink RX11 92 yX2_hasSection, Cond.instanceMethod yX2_hasSection, Cond.selects RX2 yX2_hasSection yX2_hasSection, Cond.initialized RX2]
def wsX11_put_r2 : List Cond := [Cond.code yX2_hasSection cX2_hasSection 2 (some .boolean), Cond.fieldLink RX2 9 "BoatTrim$Hull" "sections" "I", Cond.methodLink RX11 128 yX11_isSide, Cond.static yX11_isSide, Cond.code yX11_isSide cX11_isSide 1 (some .boolean), Cond.methodLink RX11 135 yX1_placeOf, Cond.instanceMethod yX1_placeOf, Cond.selects RX1 yX1_placeOf yX1_placeOf, Cond.initialized RX1, Cond.code yX1_placeOf cX1_placeOf 3 (some .int), Cond.fieldLink RX1 9 "BoatTrim$Cargo" "size" "I", Cond.fieldLink RX1 15 "BoatTrim$Cargo" "name" "[I", Cond.methodLink RX11 143 yX1_openPlace, Cond.instanceMethod yX1_openPlace, Cond.selects RX1 yX1_openPlace yX1_openPlace, Cond.code yX1_openPlace cX1_openPlace 3 (some .int), Cond.methodLink RX1 42 Lib.Math.min.name, Cond.static Lib.Math.min.name, Cond.initialized "java/lang/Math", Cond.code Lib.Math.min.name Lib.Math.min.code 2 (some .int), Cond.methodLink RX1 38 yX1_placeBehind, Cond.instanceMethod yX1_placeBehind, Cond.selects RX1 yX1_placeBehind yX1_placeBehind, Cond.code yX1_placeBehind cX1_placeBehind 3 (some .int)]
def wsX11_put_r3 : List Cond := [Cond.methodLink RX1 34 yX1_copyPlaces, Cond.instanceMethod yX1_copyPlaces, Cond.selects RX1 yX1_copyPlaces yX1_copyPlaces, Cond.code yX1_copyPlaces cX1_copyPlaces 5 none, Cond.methodLink RX1 48 arraycopyName, Cond.native arraycopyName, Cond.static arraycopyName, Cond.initialized "java/lang/System", Cond.fieldLink RX1 19 "BoatTrim$Cargo" "kind" "[I", Cond.fieldLink RX1 22 "BoatTrim$Cargo" "weight" "[I", Cond.fieldLink RX1 25 "BoatTrim$Cargo" "section" "[I", Cond.fieldLink RX1 28 "BoatTrim$Cargo" "side" "[I", Cond.fieldLink RX1 31 "BoatTrim$Cargo" "up" "[I"]
def wsX11_put : List Cond := .code yX11_put cX11_put 9 (some .int) :: ((wsX11_put_r1 ++ (wsX11_put_r2 ++ wsX11_put_r3)) ++ wsX110 ++ wsX00 ++ wsX10 ++ wsX20)
def wsX11_take_r1 : List Cond := [Cond.fieldLink RX11 12 "BoatTrim" "boat" "LBoatTrim$Boat;", Cond.fieldLink RX11 131 "BoatTrim$Boat" "cargo" "LBoatTrim$Cargo;", Cond.methodLink RX11 122 yX11_isName, Cond.static yX11_isName, Cond.initialized RX11, Cond.code yX11_isName cX11_isName 3 (some .boolean), Cond.constant RX11 389 (531440), Cond.methodLink RX11 78 yX11_isWithin, Cond.static yX11_isWithin, Cond.code yX11_isWithin cX11_isWithin 3 (some .boolean), Cond.methodLink RX11 135 yX1_placeOf, Cond.instanceMethod yX1_placeOf, Cond.selects RX1 yX1_placeOf yX1_placeOf, Cond.initialized RX1, Cond.code yX1_placeOf cX1_placeOf 3 (some .int), Cond.fieldLink RX1 9 "BoatTrim$Cargo" "size" "I", Cond.fieldLink RX1 15 "BoatTrim$Cargo" "name" "[I", Cond.methodLink RX11 161 yX0_weighsAt, Cond.instanceMethod yX0_weighsAt, Cond.selects RX0 yX0_weighsAt yX0_weighsAt, Cond.initialized RX0, Cond.code yX0_weighsAt cX0_weighsAt 2 (some .int), Cond.fieldLink RX0 21 "BoatTrim$Boat" "cargo" "LBoatTrim$Cargo;", Cond.fieldLink RX0 53 "BoatTrim$Cargo" "kind" "[I"]
def wsX11_take_r2 : List Cond := [Cond.fieldLink RX0 57 "BoatTrim$Cargo" "weight" "[I", Cond.methodLink RX0 60 yX0_woolWeighs, Cond.instanceMethod yX0_woolWeighs, Cond.selects RX0 yX0_woolWeighs yX0_woolWeighs, Cond.code yX0_woolWeighs cX0_woolWeighs 2 (some .int), Cond.fieldLink RX0 12 "BoatTrim$Boat" "hull" "LBoatTrim$Hull;", Cond.fieldLink RX0 64 "BoatTrim$Hull" "wet" "I", Cond.methodLink RX11 164 yX1_closePlace, Cond.instanceMethod yX1_closePlace, Cond.selects RX1 yX1_closePlace yX1_closePlace, Cond.code yX1_closePlace cX1_closePlace 2 none, Cond.methodLink RX1 34 yX1_copyPlaces, Cond.instanceMethod yX1_copyPlaces, Cond.selects RX1 yX1_copyPlaces yX1_copyPlaces, Cond.code yX1_copyPlaces cX1_copyPlaces 5 none, Cond.methodLink RX1 48 arraycopyName, Cond.native arraycopyName, Cond.static arraycopyName, Cond.initialized "java/lang/System", Cond.fieldLink RX1 19 "BoatTrim$Cargo" "kind" "[I", Cond.fieldLink RX1 22 "BoatTrim$Cargo" "weight" "[I", Cond.fieldLink RX1 25 "BoatTrim$Cargo" "section" "[I", Cond.fieldLink RX1 28 "BoatTrim$Cargo" "side" "[I", Cond.fieldLink RX1 31 "BoatTrim$Cargo" "up" "[I"]
def wsX11_take : List Cond := .code yX11_take cX11_take 4 (some .int) :: ((wsX11_take_r1 ++ wsX11_take_r2) ++ wsX110 ++ wsX00 ++ wsX10 ++ wsX20)
def wsX11_move_r1 : List Cond := [Cond.fieldLink RX11 12 "BoatTrim" "boat" "LBoatTrim$Boat;", Cond.fieldLink RX11 82 "BoatTrim$Boat" "hull" "LBoatTrim$Hull;", Cond.fieldLink RX11 131 "BoatTrim$Boat" "cargo" "LBoatTrim$Cargo;", Cond.fieldLink RX11 152 "BoatTrim$Cargo" "section" "[I", Cond.fieldLink RX11 155 "BoatTrim$Cargo" "side" "[I", Cond.methodLink RX11 122 yX11_isName, Cond.static yX11_isName, Cond.initialized RX11, Cond.code yX11_isName cX11_isName 3 (some .boolean), Cond.constant RX11 389 (531440), Cond.methodLink RX11 78 yX11_isWithin, Cond.static yX11_isWithin, Cond.code yX11_isWithin cX11_isWithin 3 (some .boolean), Cond.methodLink RX11 92 yX2_hasSection, Cond.instanceMethod yX2_hasSection, Cond.selects RX2 yX2_hasSection yX2_hasSection, Cond.initialized RX2, Cond.code yX2_hasSection cX2_hasSection 2 (some .boolean), Cond.fieldLink RX2 9 "BoatTrim$Hull" "sections" "I", Cond.methodLink RX11 128 yX11_isSide, Cond.static yX11_isSide, Cond.code yX11_isSide cX11_isSide 1 (some .boolean), Cond.methodLink RX11 135 yX1_placeOf, Cond.instanceMethod yX1_placeOf]
def wsX11_move_r2 : List Cond := [Cond.selects RX1 yX1_placeOf yX1_placeOf, Cond.initialized RX1, Cond.code yX1_placeOf cX1_placeOf 3 (some .int), Cond.fieldLink RX1 9 "BoatTrim$Cargo" "size" "I", Cond.fieldLink RX1 15 "BoatTrim$Cargo" "name" "[I"]
def wsX11_move : List Cond := .code yX11_move cX11_move 6 (some .int) :: ((wsX11_move_r1 ++ wsX11_move_r2) ++ wsX110 ++ wsX00 ++ wsX10 ++ wsX20)
def wsX11_goods_r1 : List Cond := [Cond.constant RX11 167 (-2147483648), Cond.fieldLink RX11 12 "BoatTrim" "boat" "LBoatTrim$Boat;", Cond.fieldLink RX11 131 "BoatTrim$Boat" "cargo" "LBoatTrim$Cargo;", Cond.fieldLink RX11 146 "BoatTrim$Cargo" "kind" "[I", Cond.fieldLink RX11 149 "BoatTrim$Cargo" "weight" "[I", Cond.fieldLink RX11 152 "BoatTrim$Cargo" "section" "[I", Cond.fieldLink RX11 155 "BoatTrim$Cargo" "side" "[I", Cond.fieldLink RX11 158 "BoatTrim$Cargo" "up" "[I", Cond.methodLink RX11 122 yX11_isName, Cond.static yX11_isName, Cond.initialized RX11, Cond.code yX11_isName cX11_isName 3 (some .boolean), Cond.constant RX11 389 (531440), Cond.methodLink RX11 78 yX11_isWithin, Cond.static yX11_isWithin, Cond.code yX11_isWithin cX11_isWithin 3 (some .boolean), Cond.methodLink RX11 135 yX1_placeOf, Cond.instanceMethod yX1_placeOf, Cond.selects RX1 yX1_placeOf yX1_placeOf, Cond.initialized RX1, Cond.code yX1_placeOf cX1_placeOf 3 (some .int), Cond.fieldLink RX1 9 "BoatTrim$Cargo" "size" "I", Cond.fieldLink RX1 15 "BoatTrim$Cargo" "name" "[I", Cond.methodLink RX11 161 yX0_weighsAt]
def wsX11_goods_r2 : List Cond := [Cond.instanceMethod yX0_weighsAt, Cond.selects RX0 yX0_weighsAt yX0_weighsAt, Cond.initialized RX0, Cond.code yX0_weighsAt cX0_weighsAt 2 (some .int), Cond.fieldLink RX0 21 "BoatTrim$Boat" "cargo" "LBoatTrim$Cargo;", Cond.fieldLink RX0 53 "BoatTrim$Cargo" "kind" "[I", Cond.fieldLink RX0 57 "BoatTrim$Cargo" "weight" "[I", Cond.methodLink RX0 60 yX0_woolWeighs, Cond.instanceMethod yX0_woolWeighs, Cond.selects RX0 yX0_woolWeighs yX0_woolWeighs, Cond.code yX0_woolWeighs cX0_woolWeighs 2 (some .int), Cond.fieldLink RX0 12 "BoatTrim$Boat" "hull" "LBoatTrim$Hull;", Cond.fieldLink RX0 64 "BoatTrim$Hull" "wet" "I", Cond.methodLink RX11 168 yX0_heelBehind, Cond.instanceMethod yX0_heelBehind, Cond.selects RX0 yX0_heelBehind yX0_heelBehind, Cond.code yX0_heelBehind cX0_heelBehind 5 (some .int), Cond.constant RX0 107 (-2147483648), Cond.methodLink RX0 123 yX0_allRighting, Cond.instanceMethod yX0_allRighting, Cond.selects RX0 yX0_allRighting yX0_allRighting, Cond.code yX0_allRighting cX0_allRighting 4 (some .int), Cond.fieldLink RX0 76 "BoatTrim$Hull" "sections" "I", Cond.fieldLink RX0 111 "BoatTrim$Hull" "wide" "[I"]
def wsX11_goods_r3 : List Cond := [Cond.fieldLink RX0 28 "BoatTrim$Boat" "tanks" "LBoatTrim$Tanks;", Cond.methodLink RX0 100 yX0_allWeight, Cond.instanceMethod yX0_allWeight, Cond.selects RX0 yX0_allWeight yX0_allWeight, Cond.code yX0_allWeight cX0_allWeight 3 (some .int), Cond.fieldLink RX0 67 "BoatTrim$Hull" "shell" "I", Cond.fieldLink RX0 36 "BoatTrim$Cargo" "size" "I", Cond.fieldLink RX0 73 "BoatTrim$Tanks" "has" "[I", Cond.methodLink RX0 70 yX0_weighsAt, Cond.methodLink RX0 104 yX2_startOf, Cond.instanceMethod yX2_startOf, Cond.selects RX2 yX2_startOf yX2_startOf, Cond.initialized RX2, Cond.code yX2_startOf cX2_startOf 7 (some .int), Cond.fieldLink RX2 9 "BoatTrim$Hull" "sections" "I", Cond.methodLink RX2 67 Lib.Math.abs.name, Cond.static Lib.Math.abs.name, Cond.initialized "java/lang/Math", Cond.code Lib.Math.abs.name Lib.Math.abs.code 1 (some .int), Cond.methodLink RX2 57 yX2_top, Cond.instanceMethod yX2_top, Cond.selects RX2 yX2_top yX2_top, Cond.code yX2_top cX2_top 1 (some .int), Cond.fieldLink RX2 15 "BoatTrim$Hull" "deep" "I"]
def wsX11_goods_r4 : List Cond := [Cond.methodLink RX2 71 yX2_waterOfSlope, Cond.instanceMethod yX2_waterOfSlope, Cond.selects RX2 yX2_waterOfSlope yX2_waterOfSlope, Cond.code yX2_waterOfSlope cX2_waterOfSlope 5 (some .int), Cond.methodLink RX2 61 yX2_draughtOf, Cond.instanceMethod yX2_draughtOf, Cond.selects RX2 yX2_draughtOf yX2_draughtOf, Cond.code yX2_draughtOf cX2_draughtOf 4 (some .int), Cond.methodLink RX2 64 yX2_waterAt, Cond.instanceMethod yX2_waterAt, Cond.selects RX2 yX2_waterAt yX2_waterAt, Cond.code yX2_waterAt cX2_waterAt 4 (some .int), Cond.methodLink RX2 51 Lib.Math.min.name, Cond.static Lib.Math.min.name, Cond.code Lib.Math.min.name Lib.Math.min.code 2 (some .int), Cond.fieldLink RX2 28 "BoatTrim$Hull" "rise" "[I", Cond.fieldLink RX2 24 "BoatTrim$Hull" "wide" "[I", Cond.methodLink RX0 108 yX2_waterAt, Cond.static yX11_cubeByTwelve, Cond.code yX11_cubeByTwelve cX11_cubeByTwelve 1 (some .int), Cond.methodLink RX0 117 yX8_lostRighting, Cond.instanceMethod yX8_lostRighting, Cond.selects RX8 yX8_lostRighting yX8_lostRighting, Cond.initialized RX8]
def wsX11_goods_r5 : List Cond := [Cond.code yX8_lostRighting cX8_lostRighting 3 (some .int), Cond.fieldLink RX8 15 "BoatTrim$Tanks" "breadth" "[I", Cond.methodLink RX8 40 yX8_isSlack, Cond.instanceMethod yX8_isSlack, Cond.selects RX8 yX8_isSlack yX8_isSlack, Cond.code yX8_isSlack cX8_isSlack 2 (some .boolean), Cond.fieldLink RX8 21 "BoatTrim$Tanks" "has" "[I", Cond.fieldLink RX8 18 "BoatTrim$Tanks" "holds" "[I", Cond.methodLink RX0 120 yX0_allAloft, Cond.instanceMethod yX0_allAloft, Cond.selects RX0 yX0_allAloft yX0_allAloft, Cond.code yX0_allAloft cX0_allAloft 3 (some .int), Cond.fieldLink RX0 86 "BoatTrim$Cargo" "up" "[I", Cond.methodLink RX0 126 yX0_heelRolledBy, Cond.instanceMethod yX0_heelRolledBy, Cond.selects RX0 yX0_heelRolledBy yX0_heelRolledBy, Cond.code yX0_heelRolledBy cX0_heelRolledBy 3 (some .int), Cond.methodLink RX0 83 yX0_asideRolledBy, Cond.instanceMethod yX0_asideRolledBy, Cond.selects RX0 yX0_asideRolledBy yX0_asideRolledBy, Cond.code yX0_asideRolledBy cX0_asideRolledBy 5 (some .int), Cond.fieldLink RX0 89 "BoatTrim$Cargo" "side" "[I", Cond.static yX11_rollsOf, Cond.code yX11_rollsOf cX11_rollsOf 2 (some .int)]
def wsX11_goods_r6 : List Cond := [Cond.static yX11_held, Cond.code yX11_held cX11_held 3 (some .int), Cond.methodLink RX11 386 Lib.Math.min.name, Cond.methodLink RX11 254 Lib.Math.max.name, Cond.static Lib.Math.max.name, Cond.code Lib.Math.max.name Lib.Math.max.code 2 (some .int), Cond.methodLink RX11 171 yX11_rollsOf]
def wsX11_goods : List Cond := .code yX11_goods cX11_goods 4 (some .int) :: ((wsX11_goods_r1 ++ (wsX11_goods_r2 ++ (wsX11_goods_r3 ++ (wsX11_goods_r4 ++ (wsX11_goods_r5 ++ wsX11_goods_r6))))) ++ wsX110 ++ wsX00 ++ wsX10 ++ wsX20 ++ wsX80)
def wsX11_isOfKind : List Cond := .code yX11_isOfKind cX11_isOfKind 4 (some .boolean) :: ([.fieldLink RX11 390 "BoatTrim" "UNDER" "[I", .methodLink RX11 125 yX11_isKind, .static yX11_isKind, .initialized RX11, .code yX11_isKind cX11_isKind 1 (some .boolean), .methodLink RX11 78 yX11_isWithin, .static yX11_isWithin, .code yX11_isWithin cX11_isWithin 3 (some .boolean)])
def wsX11_taken_r1 : List Cond := [Cond.fieldLink RX11 12 "BoatTrim" "boat" "LBoatTrim$Boat;", Cond.fieldLink RX11 131 "BoatTrim$Boat" "cargo" "LBoatTrim$Cargo;", Cond.fieldLink RX11 146 "BoatTrim$Cargo" "kind" "[I", Cond.fieldLink RX11 149 "BoatTrim$Cargo" "weight" "[I", Cond.methodLink RX11 122 yX11_isName, Cond.static yX11_isName, Cond.initialized RX11, Cond.code yX11_isName cX11_isName 3 (some .boolean), Cond.constant RX11 389 (531440), Cond.methodLink RX11 78 yX11_isWithin, Cond.static yX11_isWithin, Cond.code yX11_isWithin cX11_isWithin 3 (some .boolean), Cond.methodLink RX11 125 yX11_isKind, Cond.static yX11_isKind, Cond.code yX11_isKind cX11_isKind 1 (some .boolean), Cond.methodLink RX11 135 yX1_placeOf, Cond.instanceMethod yX1_placeOf, Cond.selects RX1 yX1_placeOf yX1_placeOf, Cond.initialized RX1, Cond.code yX1_placeOf cX1_placeOf 3 (some .int), Cond.fieldLink RX1 9 "BoatTrim$Cargo" "size" "I", Cond.fieldLink RX1 15 "BoatTrim$Cargo" "name" "[I", Cond.methodLink RX11 175 yX11_isOfKind, Cond.static yX11_isOfKind]
def wsX11_taken_r2 : List Cond := [Cond.code yX11_isOfKind cX11_isOfKind 4 (some .boolean), Cond.fieldLink RX11 390 "BoatTrim" "UNDER" "[I"]
def wsX11_taken : List Cond := .code yX11_taken cX11_taken 4 (some .int) :: ((wsX11_taken_r1 ++ wsX11_taken_r2) ++ wsX110 ++ wsX00 ++ wsX10)
def wsX11_isTank : List Cond := .code yX11_isTank cX11_isTank 1 (some .boolean) :: ([.methodLink RX11 78 yX11_isWithin, .static yX11_isWithin, .initialized RX11, .code yX11_isWithin cX11_isWithin 3 (some .boolean)])
def wsX11_tank : List Cond := .code yX11_tank cX11_tank 5 (some .int) :: ([.fieldLink RX11 12 "BoatTrim" "boat" "LBoatTrim$Boat;", .fieldLink RX11 82 "BoatTrim$Boat" "hull" "LBoatTrim$Hull;", .fieldLink RX11 182 "BoatTrim$Boat" "tanks" "LBoatTrim$Tanks;", .fieldLink RX11 186 "BoatTrim$Tanks" "section" "[I", .fieldLink RX11 189 "BoatTrim$Tanks" "breadth" "[I", .fieldLink RX11 192 "BoatTrim$Tanks" "holds" "[I", .fieldLink RX11 195 "BoatTrim$Tanks" "has" "[I", .methodLink RX11 179 yX11_isTank, .static yX11_isTank, .initialized RX11, .code yX11_isTank cX11_isTank 1 (some .boolean), .methodLink RX11 78 yX11_isWithin, .static yX11_isWithin, .code yX11_isWithin cX11_isWithin 3 (some .boolean), .methodLink RX11 92 yX2_hasSection, .instanceMethod yX2_hasSection, .selects RX2 yX2_hasSection yX2_hasSection, .initialized RX2, .code yX2_hasSection cX2_hasSection 2 (some .boolean), .fieldLink RX2 9 "BoatTrim$Hull" "sections" "I"] ++ wsX110 ++ wsX00 ++ wsX80 ++ wsX20)
def wsX11_fill : List Cond := .code yX11_fill cX11_fill 4 (some .int) :: ([.fieldLink RX11 12 "BoatTrim" "boat" "LBoatTrim$Boat;", .fieldLink RX11 182 "BoatTrim$Boat" "tanks" "LBoatTrim$Tanks;", .fieldLink RX11 192 "BoatTrim$Tanks" "holds" "[I", .fieldLink RX11 195 "BoatTrim$Tanks" "has" "[I", .methodLink RX11 179 yX11_isTank, .static yX11_isTank, .initialized RX11, .code yX11_isTank cX11_isTank 1 (some .boolean), .methodLink RX11 78 yX11_isWithin, .static yX11_isWithin, .code yX11_isWithin cX11_isWithin 3 (some .boolean), .methodLink RX11 198 yX8_isThere, .instanceMethod yX8_isThere, .selects RX8 yX8_isThere yX8_isThere, .initialized RX8, .code yX8_isThere cX8_isThere 2 (some .boolean), .fieldLink RX8 15 "BoatTrim$Tanks" "breadth" "[I"] ++ wsX110 ++ wsX00 ++ wsX80)
def wsX11_told_r1 : List Cond := [Cond.fieldLink RX11 12 "BoatTrim" "boat" "LBoatTrim$Boat;", Cond.fieldLink RX11 131 "BoatTrim$Boat" "cargo" "LBoatTrim$Cargo;", Cond.fieldLink RX11 140 "BoatTrim$Cargo" "size" "I", Cond.fieldLink RX11 182 "BoatTrim$Boat" "tanks" "LBoatTrim$Tanks;", Cond.fieldLink RX11 82 "BoatTrim$Boat" "hull" "LBoatTrim$Hull;", Cond.constant RX11 167 (-2147483648), Cond.methodLink RX11 201 yX0_allWeight, Cond.instanceMethod yX0_allWeight, Cond.selects RX0 yX0_allWeight yX0_allWeight, Cond.initialized RX0, Cond.code yX0_allWeight cX0_allWeight 3 (some .int), Cond.fieldLink RX0 12 "BoatTrim$Boat" "hull" "LBoatTrim$Hull;", Cond.fieldLink RX0 67 "BoatTrim$Hull" "shell" "I", Cond.fieldLink RX0 21 "BoatTrim$Boat" "cargo" "LBoatTrim$Cargo;", Cond.fieldLink RX0 36 "BoatTrim$Cargo" "size" "I", Cond.fieldLink RX0 28 "BoatTrim$Boat" "tanks" "LBoatTrim$Tanks;", Cond.fieldLink RX0 73 "BoatTrim$Tanks" "has" "[I", Cond.methodLink RX0 70 yX0_weighsAt, Cond.instanceMethod yX0_weighsAt, Cond.selects RX0 yX0_weighsAt yX0_weighsAt, Cond.code yX0_weighsAt cX0_weighsAt 2 (some .int), Cond.fieldLink RX0 53 "BoatTrim$Cargo" "kind" "[I", Cond.fieldLink RX0 57 "BoatTrim$Cargo" "weight" "[I", Cond.methodLink RX0 60 yX0_woolWeighs]
def wsX11_told_r2 : List Cond := [Cond.instanceMethod yX0_woolWeighs, Cond.selects RX0 yX0_woolWeighs yX0_woolWeighs, Cond.code yX0_woolWeighs cX0_woolWeighs 2 (some .int), Cond.fieldLink RX0 64 "BoatTrim$Hull" "wet" "I", Cond.methodLink RX11 205 yX0_allAlong, Cond.instanceMethod yX0_allAlong, Cond.selects RX0 yX0_allAlong yX0_allAlong, Cond.code yX0_allAlong cX0_allAlong 3 (some .int), Cond.fieldLink RX0 76 "BoatTrim$Hull" "sections" "I", Cond.fieldLink RX0 79 "BoatTrim$Cargo" "section" "[I", Cond.fieldLink RX0 82 "BoatTrim$Tanks" "section" "[I", Cond.methodLink RX11 208 yX0_allAside, Cond.instanceMethod yX0_allAside, Cond.selects RX0 yX0_allAside yX0_allAside, Cond.code yX0_allAside cX0_allAside 1 (some .int), Cond.methodLink RX0 83 yX0_asideRolledBy, Cond.instanceMethod yX0_asideRolledBy, Cond.selects RX0 yX0_asideRolledBy yX0_asideRolledBy, Cond.code yX0_asideRolledBy cX0_asideRolledBy 5 (some .int), Cond.fieldLink RX0 89 "BoatTrim$Cargo" "side" "[I", Cond.static yX11_rollsOf, Cond.initialized RX11, Cond.code yX11_rollsOf cX11_rollsOf 2 (some .int), Cond.static yX11_held]
def wsX11_told_r3 : List Cond := [Cond.code yX11_held cX11_held 3 (some .int), Cond.methodLink RX11 386 Lib.Math.min.name, Cond.static Lib.Math.min.name, Cond.initialized "java/lang/Math", Cond.code Lib.Math.min.name Lib.Math.min.code 2 (some .int), Cond.methodLink RX11 254 Lib.Math.max.name, Cond.static Lib.Math.max.name, Cond.code Lib.Math.max.name Lib.Math.max.code 2 (some .int), Cond.methodLink RX11 211 yX0_allAloft, Cond.instanceMethod yX0_allAloft, Cond.selects RX0 yX0_allAloft yX0_allAloft, Cond.code yX0_allAloft cX0_allAloft 3 (some .int), Cond.fieldLink RX0 86 "BoatTrim$Cargo" "up" "[I", Cond.methodLink RX11 214 yX0_allRighting, Cond.instanceMethod yX0_allRighting, Cond.selects RX0 yX0_allRighting yX0_allRighting, Cond.code yX0_allRighting cX0_allRighting 4 (some .int), Cond.constant RX0 107 (-2147483648), Cond.fieldLink RX0 111 "BoatTrim$Hull" "wide" "[I", Cond.methodLink RX0 100 yX0_allWeight, Cond.methodLink RX0 104 yX2_startOf, Cond.instanceMethod yX2_startOf, Cond.selects RX2 yX2_startOf yX2_startOf, Cond.initialized RX2]
def wsX11_told_r4 : List Cond := [Cond.code yX2_startOf cX2_startOf 7 (some .int), Cond.fieldLink RX2 9 "BoatTrim$Hull" "sections" "I", Cond.methodLink RX2 67 Lib.Math.abs.name, Cond.static Lib.Math.abs.name, Cond.code Lib.Math.abs.name Lib.Math.abs.code 1 (some .int), Cond.methodLink RX2 57 yX2_top, Cond.instanceMethod yX2_top, Cond.selects RX2 yX2_top yX2_top, Cond.code yX2_top cX2_top 1 (some .int), Cond.fieldLink RX2 15 "BoatTrim$Hull" "deep" "I", Cond.methodLink RX2 71 yX2_waterOfSlope, Cond.instanceMethod yX2_waterOfSlope, Cond.selects RX2 yX2_waterOfSlope yX2_waterOfSlope, Cond.code yX2_waterOfSlope cX2_waterOfSlope 5 (some .int), Cond.methodLink RX2 61 yX2_draughtOf, Cond.instanceMethod yX2_draughtOf, Cond.selects RX2 yX2_draughtOf yX2_draughtOf, Cond.code yX2_draughtOf cX2_draughtOf 4 (some .int), Cond.methodLink RX2 64 yX2_waterAt, Cond.instanceMethod yX2_waterAt, Cond.selects RX2 yX2_waterAt yX2_waterAt, Cond.code yX2_waterAt cX2_waterAt 4 (some .int), Cond.methodLink RX2 51 Lib.Math.min.name, Cond.fieldLink RX2 28 "BoatTrim$Hull" "rise" "[I"]
def wsX11_told_r5 : List Cond := [Cond.fieldLink RX2 24 "BoatTrim$Hull" "wide" "[I", Cond.methodLink RX0 108 yX2_waterAt, Cond.static yX11_cubeByTwelve, Cond.code yX11_cubeByTwelve cX11_cubeByTwelve 1 (some .int), Cond.methodLink RX0 117 yX8_lostRighting, Cond.instanceMethod yX8_lostRighting, Cond.selects RX8 yX8_lostRighting yX8_lostRighting, Cond.initialized RX8, Cond.code yX8_lostRighting cX8_lostRighting 3 (some .int), Cond.fieldLink RX8 15 "BoatTrim$Tanks" "breadth" "[I", Cond.methodLink RX8 40 yX8_isSlack, Cond.instanceMethod yX8_isSlack, Cond.selects RX8 yX8_isSlack yX8_isSlack, Cond.code yX8_isSlack cX8_isSlack 2 (some .boolean), Cond.fieldLink RX8 21 "BoatTrim$Tanks" "has" "[I", Cond.fieldLink RX8 18 "BoatTrim$Tanks" "holds" "[I", Cond.methodLink RX0 120 yX0_allAloft, Cond.methodLink RX11 217 yX8_howManySlack, Cond.instanceMethod yX8_howManySlack, Cond.selects RX8 yX8_howManySlack yX8_howManySlack, Cond.code yX8_howManySlack cX8_howManySlack 3 (some .int), Cond.methodLink RX11 220 yX2_leastRise, Cond.instanceMethod yX2_leastRise, Cond.selects RX2 yX2_leastRise yX2_leastRise]
def wsX11_told_r6 : List Cond := [Cond.code yX2_leastRise cX2_leastRise 3 (some .int)]
def wsX11_told : List Cond := .code yX11_told cX11_told 2 (some .int) :: ((wsX11_told_r1 ++ (wsX11_told_r2 ++ (wsX11_told_r3 ++ (wsX11_told_r4 ++ (wsX11_told_r5 ++ wsX11_told_r6))))) ++ wsX110 ++ wsX00 ++ wsX10 ++ wsX20 ++ wsX80)
def wsX11_water_r1 : List Cond := [Cond.constant RX11 167 (-2147483648), Cond.fieldLink RX11 12 "BoatTrim" "boat" "LBoatTrim$Boat;", Cond.fieldLink RX11 82 "BoatTrim$Boat" "hull" "LBoatTrim$Hull;", Cond.methodLink RX11 78 yX11_isWithin, Cond.static yX11_isWithin, Cond.initialized RX11, Cond.code yX11_isWithin cX11_isWithin 3 (some .boolean), Cond.methodLink RX11 223 yX2_waterOfSlope, Cond.instanceMethod yX2_waterOfSlope, Cond.selects RX2 yX2_waterOfSlope yX2_waterOfSlope, Cond.initialized RX2, Cond.code yX2_waterOfSlope cX2_waterOfSlope 5 (some .int), Cond.fieldLink RX2 9 "BoatTrim$Hull" "sections" "I", Cond.methodLink RX2 61 yX2_draughtOf, Cond.instanceMethod yX2_draughtOf, Cond.selects RX2 yX2_draughtOf yX2_draughtOf, Cond.code yX2_draughtOf cX2_draughtOf 4 (some .int), Cond.methodLink RX2 64 yX2_waterAt, Cond.instanceMethod yX2_waterAt, Cond.selects RX2 yX2_waterAt yX2_waterAt, Cond.code yX2_waterAt cX2_waterAt 4 (some .int), Cond.methodLink RX2 51 Lib.Math.min.name, Cond.static Lib.Math.min.name, Cond.initialized "java/lang/Math"]
def wsX11_water_r2 : List Cond := [Cond.code Lib.Math.min.name Lib.Math.min.code 2 (some .int), Cond.fieldLink RX2 28 "BoatTrim$Hull" "rise" "[I", Cond.fieldLink RX2 24 "BoatTrim$Hull" "wide" "[I", Cond.methodLink RX2 57 yX2_top, Cond.instanceMethod yX2_top, Cond.selects RX2 yX2_top yX2_top, Cond.code yX2_top cX2_top 1 (some .int), Cond.fieldLink RX2 15 "BoatTrim$Hull" "deep" "I", Cond.methodLink RX11 92 yX2_hasSection, Cond.instanceMethod yX2_hasSection, Cond.selects RX2 yX2_hasSection yX2_hasSection, Cond.code yX2_hasSection cX2_hasSection 2 (some .boolean), Cond.methodLink RX11 226 yX2_waterAt]
def wsX11_water : List Cond := .code yX11_water cX11_water 3 (some .int) :: ((wsX11_water_r1 ++ wsX11_water_r2) ++ wsX110 ++ wsX00 ++ wsX20)
def wsX11_line_r1 : List Cond := [Cond.fieldLink RX11 12 "BoatTrim" "boat" "LBoatTrim$Boat;", Cond.fieldLink RX11 82 "BoatTrim$Boat" "hull" "LBoatTrim$Hull;", Cond.methodLink RX11 201 yX0_allWeight, Cond.instanceMethod yX0_allWeight, Cond.selects RX0 yX0_allWeight yX0_allWeight, Cond.initialized RX0, Cond.code yX0_allWeight cX0_allWeight 3 (some .int), Cond.fieldLink RX0 12 "BoatTrim$Boat" "hull" "LBoatTrim$Hull;", Cond.fieldLink RX0 67 "BoatTrim$Hull" "shell" "I", Cond.fieldLink RX0 21 "BoatTrim$Boat" "cargo" "LBoatTrim$Cargo;", Cond.fieldLink RX0 36 "BoatTrim$Cargo" "size" "I", Cond.fieldLink RX0 28 "BoatTrim$Boat" "tanks" "LBoatTrim$Tanks;", Cond.fieldLink RX0 73 "BoatTrim$Tanks" "has" "[I", Cond.methodLink RX0 70 yX0_weighsAt, Cond.instanceMethod yX0_weighsAt, Cond.selects RX0 yX0_weighsAt yX0_weighsAt, Cond.code yX0_weighsAt cX0_weighsAt 2 (some .int), Cond.fieldLink RX0 53 "BoatTrim$Cargo" "kind" "[I", Cond.fieldLink RX0 57 "BoatTrim$Cargo" "weight" "[I", Cond.methodLink RX0 60 yX0_woolWeighs, Cond.instanceMethod yX0_woolWeighs, Cond.selects RX0 yX0_woolWeighs yX0_woolWeighs, Cond.code yX0_woolWeighs cX0_woolWeighs 2 (some .int), Cond.fieldLink RX0 64 "BoatTrim$Hull" "wet" "I"]
def wsX11_line_r2 : List Cond := [Cond.methodLink RX11 229 yX2_startOf, Cond.instanceMethod yX2_startOf, Cond.selects RX2 yX2_startOf yX2_startOf, Cond.initialized RX2, Cond.code yX2_startOf cX2_startOf 7 (some .int), Cond.fieldLink RX2 9 "BoatTrim$Hull" "sections" "I", Cond.methodLink RX2 67 Lib.Math.abs.name, Cond.static Lib.Math.abs.name, Cond.initialized "java/lang/Math", Cond.code Lib.Math.abs.name Lib.Math.abs.code 1 (some .int), Cond.methodLink RX2 57 yX2_top, Cond.instanceMethod yX2_top, Cond.selects RX2 yX2_top yX2_top, Cond.code yX2_top cX2_top 1 (some .int), Cond.fieldLink RX2 15 "BoatTrim$Hull" "deep" "I", Cond.methodLink RX2 71 yX2_waterOfSlope, Cond.instanceMethod yX2_waterOfSlope, Cond.selects RX2 yX2_waterOfSlope yX2_waterOfSlope, Cond.code yX2_waterOfSlope cX2_waterOfSlope 5 (some .int), Cond.methodLink RX2 61 yX2_draughtOf, Cond.instanceMethod yX2_draughtOf, Cond.selects RX2 yX2_draughtOf yX2_draughtOf, Cond.code yX2_draughtOf cX2_draughtOf 4 (some .int), Cond.methodLink RX2 64 yX2_waterAt]
def wsX11_line_r3 : List Cond := [Cond.instanceMethod yX2_waterAt, Cond.selects RX2 yX2_waterAt yX2_waterAt, Cond.code yX2_waterAt cX2_waterAt 4 (some .int), Cond.methodLink RX2 51 Lib.Math.min.name, Cond.static Lib.Math.min.name, Cond.code Lib.Math.min.name Lib.Math.min.code 2 (some .int), Cond.fieldLink RX2 28 "BoatTrim$Hull" "rise" "[I", Cond.fieldLink RX2 24 "BoatTrim$Hull" "wide" "[I"]
def wsX11_line : List Cond := .code yX11_line cX11_line 1 (some .int) :: ((wsX11_line_r1 ++ (wsX11_line_r2 ++ wsX11_line_r3)) ++ wsX110 ++ wsX00 ++ wsX20 ++ wsX10 ++ wsX80)
def wsX11_trim_r1 : List Cond := [Cond.fieldLink RX11 49 "BoatTrim" "trims" "LBoatTrim$Trim;", Cond.fieldLink RX11 12 "BoatTrim" "boat" "LBoatTrim$Boat;", Cond.constant RX11 167 (-2147483648), Cond.fieldLink RX11 236 "BoatTrim$Trim" "slope" "I", Cond.fieldLink RX11 239 "BoatTrim$Trim" "start" "I", Cond.fieldLink RX11 242 "BoatTrim$Trim" "off" "I", Cond.methodLink RX11 78 yX11_isWithin, Cond.static yX11_isWithin, Cond.initialized RX11, Cond.code yX11_isWithin cX11_isWithin 3 (some .boolean), Cond.methodLink RX11 232 yX10_find, Cond.instanceMethod yX10_find, Cond.selects RX10 yX10_find yX10_find, Cond.initialized RX10, Cond.code yX10_find cX10_find 7 (some .boolean), Cond.constant RX10 31 (-2147483648), Cond.methodLink RX10 32 Lib.Math.abs.name, Cond.static Lib.Math.abs.name, Cond.initialized "java/lang/Math", Cond.code Lib.Math.abs.name Lib.Math.abs.code 1 (some .int), Cond.fieldLink RX10 18 "BoatTrim$Trim" "off" "I", Cond.fieldLink RX10 9 "BoatTrim$Trim" "slope" "I", Cond.fieldLink RX10 37 "BoatTrim$Boat" "hull" "LBoatTrim$Hull;", Cond.fieldLink RX10 15 "BoatTrim$Trim" "start" "I"]
def wsX11_trim_r2 : List Cond := [Cond.methodLink RX10 21 yX0_allWeight, Cond.instanceMethod yX0_allWeight, Cond.selects RX0 yX0_allWeight yX0_allWeight, Cond.initialized RX0, Cond.code yX0_allWeight cX0_allWeight 3 (some .int), Cond.fieldLink RX0 12 "BoatTrim$Boat" "hull" "LBoatTrim$Hull;", Cond.fieldLink RX0 67 "BoatTrim$Hull" "shell" "I", Cond.fieldLink RX0 21 "BoatTrim$Boat" "cargo" "LBoatTrim$Cargo;", Cond.fieldLink RX0 36 "BoatTrim$Cargo" "size" "I", Cond.fieldLink RX0 28 "BoatTrim$Boat" "tanks" "LBoatTrim$Tanks;", Cond.fieldLink RX0 73 "BoatTrim$Tanks" "has" "[I", Cond.methodLink RX0 70 yX0_weighsAt, Cond.instanceMethod yX0_weighsAt, Cond.selects RX0 yX0_weighsAt yX0_weighsAt, Cond.code yX0_weighsAt cX0_weighsAt 2 (some .int), Cond.fieldLink RX0 53 "BoatTrim$Cargo" "kind" "[I", Cond.fieldLink RX0 57 "BoatTrim$Cargo" "weight" "[I", Cond.methodLink RX0 60 yX0_woolWeighs, Cond.instanceMethod yX0_woolWeighs, Cond.selects RX0 yX0_woolWeighs yX0_woolWeighs, Cond.code yX0_woolWeighs cX0_woolWeighs 2 (some .int), Cond.fieldLink RX0 64 "BoatTrim$Hull" "wet" "I", Cond.methodLink RX10 27 yX0_offOf, Cond.instanceMethod yX0_offOf]
def wsX11_trim_r3 : List Cond := [Cond.selects RX0 yX0_offOf yX0_offOf, Cond.code yX0_offOf cX0_offOf 3 (some .int), Cond.constant RX0 107 (-2147483648), Cond.methodLink RX0 100 yX0_allWeight, Cond.methodLink RX0 104 yX2_startOf, Cond.instanceMethod yX2_startOf, Cond.selects RX2 yX2_startOf yX2_startOf, Cond.initialized RX2, Cond.code yX2_startOf cX2_startOf 7 (some .int), Cond.fieldLink RX2 9 "BoatTrim$Hull" "sections" "I", Cond.methodLink RX2 67 Lib.Math.abs.name, Cond.methodLink RX2 57 yX2_top, Cond.instanceMethod yX2_top, Cond.selects RX2 yX2_top yX2_top, Cond.code yX2_top cX2_top 1 (some .int), Cond.fieldLink RX2 15 "BoatTrim$Hull" "deep" "I", Cond.methodLink RX2 71 yX2_waterOfSlope, Cond.instanceMethod yX2_waterOfSlope, Cond.selects RX2 yX2_waterOfSlope yX2_waterOfSlope, Cond.code yX2_waterOfSlope cX2_waterOfSlope 5 (some .int), Cond.methodLink RX2 61 yX2_draughtOf, Cond.instanceMethod yX2_draughtOf, Cond.selects RX2 yX2_draughtOf yX2_draughtOf, Cond.code yX2_draughtOf cX2_draughtOf 4 (some .int)]
def wsX11_trim_r4 : List Cond := [Cond.methodLink RX2 64 yX2_waterAt, Cond.instanceMethod yX2_waterAt, Cond.selects RX2 yX2_waterAt yX2_waterAt, Cond.code yX2_waterAt cX2_waterAt 4 (some .int), Cond.methodLink RX2 51 Lib.Math.min.name, Cond.static Lib.Math.min.name, Cond.code Lib.Math.min.name Lib.Math.min.code 2 (some .int), Cond.fieldLink RX2 28 "BoatTrim$Hull" "rise" "[I", Cond.fieldLink RX2 24 "BoatTrim$Hull" "wide" "[I", Cond.methodLink RX0 129 yX2_pullOfSlope, Cond.instanceMethod yX2_pullOfSlope, Cond.selects RX2 yX2_pullOfSlope yX2_pullOfSlope, Cond.code yX2_pullOfSlope cX2_pullOfSlope 5 (some .int), Cond.methodLink RX0 132 yX0_allAlong, Cond.instanceMethod yX0_allAlong, Cond.selects RX0 yX0_allAlong yX0_allAlong, Cond.code yX0_allAlong cX0_allAlong 3 (some .int), Cond.fieldLink RX0 76 "BoatTrim$Hull" "sections" "I", Cond.fieldLink RX0 79 "BoatTrim$Cargo" "section" "[I", Cond.fieldLink RX0 82 "BoatTrim$Tanks" "section" "[I", Cond.methodLink RX10 41 yX2_startOf]
def wsX11_trim : List Cond := .code yX11_trim cX11_trim 2 (some .int) :: ((wsX11_trim_r1 ++ (wsX11_trim_r2 ++ (wsX11_trim_r3 ++ wsX11_trim_r4))) ++ wsX110 ++ wsX100 ++ wsX00 ++ wsX20 ++ wsX10 ++ wsX80)
def wsX11_off_r1 : List Cond := [Cond.fieldLink RX11 12 "BoatTrim" "boat" "LBoatTrim$Boat;", Cond.constant RX11 167 (-2147483648), Cond.methodLink RX11 78 yX11_isWithin, Cond.static yX11_isWithin, Cond.initialized RX11, Cond.code yX11_isWithin cX11_isWithin 3 (some .boolean), Cond.methodLink RX11 245 yX0_offOf, Cond.instanceMethod yX0_offOf, Cond.selects RX0 yX0_offOf yX0_offOf, Cond.initialized RX0, Cond.code yX0_offOf cX0_offOf 3 (some .int), Cond.fieldLink RX0 12 "BoatTrim$Boat" "hull" "LBoatTrim$Hull;", Cond.constant RX0 107 (-2147483648), Cond.methodLink RX0 100 yX0_allWeight, Cond.instanceMethod yX0_allWeight, Cond.selects RX0 yX0_allWeight yX0_allWeight, Cond.code yX0_allWeight cX0_allWeight 3 (some .int), Cond.fieldLink RX0 67 "BoatTrim$Hull" "shell" "I", Cond.fieldLink RX0 21 "BoatTrim$Boat" "cargo" "LBoatTrim$Cargo;", Cond.fieldLink RX0 36 "BoatTrim$Cargo" "size" "I", Cond.fieldLink RX0 28 "BoatTrim$Boat" "tanks" "LBoatTrim$Tanks;", Cond.fieldLink RX0 73 "BoatTrim$Tanks" "has" "[I", Cond.methodLink RX0 70 yX0_weighsAt, Cond.instanceMethod yX0_weighsAt]
def wsX11_off_r2 : List Cond := [Cond.selects RX0 yX0_weighsAt yX0_weighsAt, Cond.code yX0_weighsAt cX0_weighsAt 2 (some .int), Cond.fieldLink RX0 53 "BoatTrim$Cargo" "kind" "[I", Cond.fieldLink RX0 57 "BoatTrim$Cargo" "weight" "[I", Cond.methodLink RX0 60 yX0_woolWeighs, Cond.instanceMethod yX0_woolWeighs, Cond.selects RX0 yX0_woolWeighs yX0_woolWeighs, Cond.code yX0_woolWeighs cX0_woolWeighs 2 (some .int), Cond.fieldLink RX0 64 "BoatTrim$Hull" "wet" "I", Cond.methodLink RX0 104 yX2_startOf, Cond.instanceMethod yX2_startOf, Cond.selects RX2 yX2_startOf yX2_startOf, Cond.initialized RX2, Cond.code yX2_startOf cX2_startOf 7 (some .int), Cond.fieldLink RX2 9 "BoatTrim$Hull" "sections" "I", Cond.methodLink RX2 67 Lib.Math.abs.name, Cond.static Lib.Math.abs.name, Cond.initialized "java/lang/Math", Cond.code Lib.Math.abs.name Lib.Math.abs.code 1 (some .int), Cond.methodLink RX2 57 yX2_top, Cond.instanceMethod yX2_top, Cond.selects RX2 yX2_top yX2_top, Cond.code yX2_top cX2_top 1 (some .int), Cond.fieldLink RX2 15 "BoatTrim$Hull" "deep" "I"]
def wsX11_off_r3 : List Cond := [Cond.methodLink RX2 71 yX2_waterOfSlope, Cond.instanceMethod yX2_waterOfSlope, Cond.selects RX2 yX2_waterOfSlope yX2_waterOfSlope, Cond.code yX2_waterOfSlope cX2_waterOfSlope 5 (some .int), Cond.methodLink RX2 61 yX2_draughtOf, Cond.instanceMethod yX2_draughtOf, Cond.selects RX2 yX2_draughtOf yX2_draughtOf, Cond.code yX2_draughtOf cX2_draughtOf 4 (some .int), Cond.methodLink RX2 64 yX2_waterAt, Cond.instanceMethod yX2_waterAt, Cond.selects RX2 yX2_waterAt yX2_waterAt, Cond.code yX2_waterAt cX2_waterAt 4 (some .int), Cond.methodLink RX2 51 Lib.Math.min.name, Cond.static Lib.Math.min.name, Cond.code Lib.Math.min.name Lib.Math.min.code 2 (some .int), Cond.fieldLink RX2 28 "BoatTrim$Hull" "rise" "[I", Cond.fieldLink RX2 24 "BoatTrim$Hull" "wide" "[I", Cond.methodLink RX0 129 yX2_pullOfSlope, Cond.instanceMethod yX2_pullOfSlope, Cond.selects RX2 yX2_pullOfSlope yX2_pullOfSlope, Cond.code yX2_pullOfSlope cX2_pullOfSlope 5 (some .int), Cond.methodLink RX0 132 yX0_allAlong, Cond.instanceMethod yX0_allAlong, Cond.selects RX0 yX0_allAlong yX0_allAlong]
def wsX11_off_r4 : List Cond := [Cond.code yX0_allAlong cX0_allAlong 3 (some .int), Cond.fieldLink RX0 76 "BoatTrim$Hull" "sections" "I", Cond.fieldLink RX0 79 "BoatTrim$Cargo" "section" "[I", Cond.fieldLink RX0 82 "BoatTrim$Tanks" "section" "[I"]
def wsX11_off : List Cond := .code yX11_off cX11_off 2 (some .int) :: ((wsX11_off_r1 ++ (wsX11_off_r2 ++ (wsX11_off_r3 ++ wsX11_off_r4))) ++ wsX110 ++ wsX00 ++ wsX20 ++ wsX10 ++ wsX80)
def wsX11_heel_r1 : List Cond := [Cond.fieldLink RX11 12 "BoatTrim" "boat" "LBoatTrim$Boat;", Cond.constant RX11 167 (-2147483648), Cond.methodLink RX11 78 yX11_isWithin, Cond.static yX11_isWithin, Cond.initialized RX11, Cond.code yX11_isWithin cX11_isWithin 3 (some .boolean), Cond.methodLink RX11 168 yX0_heelBehind, Cond.instanceMethod yX0_heelBehind, Cond.selects RX0 yX0_heelBehind yX0_heelBehind, Cond.initialized RX0, Cond.code yX0_heelBehind cX0_heelBehind 5 (some .int), Cond.constant RX0 107 (-2147483648), Cond.methodLink RX0 123 yX0_allRighting, Cond.instanceMethod yX0_allRighting, Cond.selects RX0 yX0_allRighting yX0_allRighting, Cond.code yX0_allRighting cX0_allRighting 4 (some .int), Cond.fieldLink RX0 12 "BoatTrim$Boat" "hull" "LBoatTrim$Hull;", Cond.fieldLink RX0 76 "BoatTrim$Hull" "sections" "I", Cond.fieldLink RX0 111 "BoatTrim$Hull" "wide" "[I", Cond.fieldLink RX0 28 "BoatTrim$Boat" "tanks" "LBoatTrim$Tanks;", Cond.methodLink RX0 100 yX0_allWeight, Cond.instanceMethod yX0_allWeight, Cond.selects RX0 yX0_allWeight yX0_allWeight, Cond.code yX0_allWeight cX0_allWeight 3 (some .int)]
def wsX11_heel_r2 : List Cond := [Cond.fieldLink RX0 67 "BoatTrim$Hull" "shell" "I", Cond.fieldLink RX0 21 "BoatTrim$Boat" "cargo" "LBoatTrim$Cargo;", Cond.fieldLink RX0 36 "BoatTrim$Cargo" "size" "I", Cond.fieldLink RX0 73 "BoatTrim$Tanks" "has" "[I", Cond.methodLink RX0 70 yX0_weighsAt, Cond.instanceMethod yX0_weighsAt, Cond.selects RX0 yX0_weighsAt yX0_weighsAt, Cond.code yX0_weighsAt cX0_weighsAt 2 (some .int), Cond.fieldLink RX0 53 "BoatTrim$Cargo" "kind" "[I", Cond.fieldLink RX0 57 "BoatTrim$Cargo" "weight" "[I", Cond.methodLink RX0 60 yX0_woolWeighs, Cond.instanceMethod yX0_woolWeighs, Cond.selects RX0 yX0_woolWeighs yX0_woolWeighs, Cond.code yX0_woolWeighs cX0_woolWeighs 2 (some .int), Cond.fieldLink RX0 64 "BoatTrim$Hull" "wet" "I", Cond.methodLink RX0 104 yX2_startOf, Cond.instanceMethod yX2_startOf, Cond.selects RX2 yX2_startOf yX2_startOf, Cond.initialized RX2, Cond.code yX2_startOf cX2_startOf 7 (some .int), Cond.fieldLink RX2 9 "BoatTrim$Hull" "sections" "I", Cond.methodLink RX2 67 Lib.Math.abs.name, Cond.static Lib.Math.abs.name, Cond.initialized "java/lang/Math"]
def wsX11_heel_r3 : List Cond := [Cond.code Lib.Math.abs.name Lib.Math.abs.code 1 (some .int), Cond.methodLink RX2 57 yX2_top, Cond.instanceMethod yX2_top, Cond.selects RX2 yX2_top yX2_top, Cond.code yX2_top cX2_top 1 (some .int), Cond.fieldLink RX2 15 "BoatTrim$Hull" "deep" "I", Cond.methodLink RX2 71 yX2_waterOfSlope, Cond.instanceMethod yX2_waterOfSlope, Cond.selects RX2 yX2_waterOfSlope yX2_waterOfSlope, Cond.code yX2_waterOfSlope cX2_waterOfSlope 5 (some .int), Cond.methodLink RX2 61 yX2_draughtOf, Cond.instanceMethod yX2_draughtOf, Cond.selects RX2 yX2_draughtOf yX2_draughtOf, Cond.code yX2_draughtOf cX2_draughtOf 4 (some .int), Cond.methodLink RX2 64 yX2_waterAt, Cond.instanceMethod yX2_waterAt, Cond.selects RX2 yX2_waterAt yX2_waterAt, Cond.code yX2_waterAt cX2_waterAt 4 (some .int), Cond.methodLink RX2 51 Lib.Math.min.name, Cond.static Lib.Math.min.name, Cond.code Lib.Math.min.name Lib.Math.min.code 2 (some .int), Cond.fieldLink RX2 28 "BoatTrim$Hull" "rise" "[I", Cond.fieldLink RX2 24 "BoatTrim$Hull" "wide" "[I", Cond.methodLink RX0 108 yX2_waterAt]
def wsX11_heel_r4 : List Cond := [Cond.static yX11_cubeByTwelve, Cond.code yX11_cubeByTwelve cX11_cubeByTwelve 1 (some .int), Cond.methodLink RX0 117 yX8_lostRighting, Cond.instanceMethod yX8_lostRighting, Cond.selects RX8 yX8_lostRighting yX8_lostRighting, Cond.initialized RX8, Cond.code yX8_lostRighting cX8_lostRighting 3 (some .int), Cond.fieldLink RX8 15 "BoatTrim$Tanks" "breadth" "[I", Cond.methodLink RX8 40 yX8_isSlack, Cond.instanceMethod yX8_isSlack, Cond.selects RX8 yX8_isSlack yX8_isSlack, Cond.code yX8_isSlack cX8_isSlack 2 (some .boolean), Cond.fieldLink RX8 21 "BoatTrim$Tanks" "has" "[I", Cond.fieldLink RX8 18 "BoatTrim$Tanks" "holds" "[I", Cond.methodLink RX0 120 yX0_allAloft, Cond.instanceMethod yX0_allAloft, Cond.selects RX0 yX0_allAloft yX0_allAloft, Cond.code yX0_allAloft cX0_allAloft 3 (some .int), Cond.fieldLink RX0 86 "BoatTrim$Cargo" "up" "[I", Cond.methodLink RX0 126 yX0_heelRolledBy, Cond.instanceMethod yX0_heelRolledBy, Cond.selects RX0 yX0_heelRolledBy yX0_heelRolledBy, Cond.code yX0_heelRolledBy cX0_heelRolledBy 3 (some .int), Cond.methodLink RX0 83 yX0_asideRolledBy]
def wsX11_heel_r5 : List Cond := [Cond.instanceMethod yX0_asideRolledBy, Cond.selects RX0 yX0_asideRolledBy yX0_asideRolledBy, Cond.code yX0_asideRolledBy cX0_asideRolledBy 5 (some .int), Cond.fieldLink RX0 89 "BoatTrim$Cargo" "side" "[I", Cond.static yX11_rollsOf, Cond.code yX11_rollsOf cX11_rollsOf 2 (some .int), Cond.static yX11_held, Cond.code yX11_held cX11_held 3 (some .int), Cond.methodLink RX11 386 Lib.Math.min.name, Cond.methodLink RX11 254 Lib.Math.max.name, Cond.static Lib.Math.max.name, Cond.code Lib.Math.max.name Lib.Math.max.code 2 (some .int)]
def wsX11_heel : List Cond := .code yX11_heel cX11_heel 2 (some .int) :: ((wsX11_heel_r1 ++ (wsX11_heel_r2 ++ (wsX11_heel_r3 ++ (wsX11_heel_r4 ++ wsX11_heel_r5)))) ++ wsX110 ++ wsX00 ++ wsX20 ++ wsX10 ++ wsX80)
def wsX11_steady_r1 : List Cond := [Cond.fieldLink RX11 12 "BoatTrim" "boat" "LBoatTrim$Boat;", Cond.methodLink RX11 248 yX0_roundsTillSteady, Cond.instanceMethod yX0_roundsTillSteady, Cond.selects RX0 yX0_roundsTillSteady yX0_roundsTillSteady, Cond.initialized RX0, Cond.code yX0_roundsTillSteady cX0_roundsTillSteady 5 (some .int), Cond.methodLink RX0 123 yX0_allRighting, Cond.instanceMethod yX0_allRighting, Cond.selects RX0 yX0_allRighting yX0_allRighting, Cond.code yX0_allRighting cX0_allRighting 4 (some .int), Cond.fieldLink RX0 12 "BoatTrim$Boat" "hull" "LBoatTrim$Hull;", Cond.constant RX0 107 (-2147483648), Cond.fieldLink RX0 76 "BoatTrim$Hull" "sections" "I", Cond.fieldLink RX0 111 "BoatTrim$Hull" "wide" "[I", Cond.fieldLink RX0 28 "BoatTrim$Boat" "tanks" "LBoatTrim$Tanks;", Cond.methodLink RX0 100 yX0_allWeight, Cond.instanceMethod yX0_allWeight, Cond.selects RX0 yX0_allWeight yX0_allWeight, Cond.code yX0_allWeight cX0_allWeight 3 (some .int), Cond.fieldLink RX0 67 "BoatTrim$Hull" "shell" "I", Cond.fieldLink RX0 21 "BoatTrim$Boat" "cargo" "LBoatTrim$Cargo;", Cond.fieldLink RX0 36 "BoatTrim$Cargo" "size" "I", Cond.fieldLink RX0 73 "BoatTrim$Tanks" "has" "[I", Cond.methodLink RX0 70 yX0_weighsAt]
def wsX11_steady_r2 : List Cond := [Cond.instanceMethod yX0_weighsAt, Cond.selects RX0 yX0_weighsAt yX0_weighsAt, Cond.code yX0_weighsAt cX0_weighsAt 2 (some .int), Cond.fieldLink RX0 53 "BoatTrim$Cargo" "kind" "[I", Cond.fieldLink RX0 57 "BoatTrim$Cargo" "weight" "[I", Cond.methodLink RX0 60 yX0_woolWeighs, Cond.instanceMethod yX0_woolWeighs, Cond.selects RX0 yX0_woolWeighs yX0_woolWeighs, Cond.code yX0_woolWeighs cX0_woolWeighs 2 (some .int), Cond.fieldLink RX0 64 "BoatTrim$Hull" "wet" "I", Cond.methodLink RX0 104 yX2_startOf, Cond.instanceMethod yX2_startOf, Cond.selects RX2 yX2_startOf yX2_startOf, Cond.initialized RX2, Cond.code yX2_startOf cX2_startOf 7 (some .int), Cond.fieldLink RX2 9 "BoatTrim$Hull" "sections" "I", Cond.methodLink RX2 67 Lib.Math.abs.name, Cond.static Lib.Math.abs.name, Cond.initialized "java/lang/Math", Cond.code Lib.Math.abs.name Lib.Math.abs.code 1 (some .int), Cond.methodLink RX2 57 yX2_top, Cond.instanceMethod yX2_top, Cond.selects RX2 yX2_top yX2_top, Cond.code yX2_top cX2_top 1 (some .int)]
def wsX11_steady_r3 : List Cond := [Cond.fieldLink RX2 15 "BoatTrim$Hull" "deep" "I", Cond.methodLink RX2 71 yX2_waterOfSlope, Cond.instanceMethod yX2_waterOfSlope, Cond.selects RX2 yX2_waterOfSlope yX2_waterOfSlope, Cond.code yX2_waterOfSlope cX2_waterOfSlope 5 (some .int), Cond.methodLink RX2 61 yX2_draughtOf, Cond.instanceMethod yX2_draughtOf, Cond.selects RX2 yX2_draughtOf yX2_draughtOf, Cond.code yX2_draughtOf cX2_draughtOf 4 (some .int), Cond.methodLink RX2 64 yX2_waterAt, Cond.instanceMethod yX2_waterAt, Cond.selects RX2 yX2_waterAt yX2_waterAt, Cond.code yX2_waterAt cX2_waterAt 4 (some .int), Cond.methodLink RX2 51 Lib.Math.min.name, Cond.static Lib.Math.min.name, Cond.code Lib.Math.min.name Lib.Math.min.code 2 (some .int), Cond.fieldLink RX2 28 "BoatTrim$Hull" "rise" "[I", Cond.fieldLink RX2 24 "BoatTrim$Hull" "wide" "[I", Cond.methodLink RX0 108 yX2_waterAt, Cond.static yX11_cubeByTwelve, Cond.initialized RX11, Cond.code yX11_cubeByTwelve cX11_cubeByTwelve 1 (some .int), Cond.methodLink RX0 117 yX8_lostRighting, Cond.instanceMethod yX8_lostRighting]
def wsX11_steady_r4 : List Cond := [Cond.selects RX8 yX8_lostRighting yX8_lostRighting, Cond.initialized RX8, Cond.code yX8_lostRighting cX8_lostRighting 3 (some .int), Cond.fieldLink RX8 15 "BoatTrim$Tanks" "breadth" "[I", Cond.methodLink RX8 40 yX8_isSlack, Cond.instanceMethod yX8_isSlack, Cond.selects RX8 yX8_isSlack yX8_isSlack, Cond.code yX8_isSlack cX8_isSlack 2 (some .boolean), Cond.fieldLink RX8 21 "BoatTrim$Tanks" "has" "[I", Cond.fieldLink RX8 18 "BoatTrim$Tanks" "holds" "[I", Cond.methodLink RX0 120 yX0_allAloft, Cond.instanceMethod yX0_allAloft, Cond.selects RX0 yX0_allAloft yX0_allAloft, Cond.code yX0_allAloft cX0_allAloft 3 (some .int), Cond.fieldLink RX0 86 "BoatTrim$Cargo" "up" "[I", Cond.methodLink RX0 126 yX0_heelRolledBy, Cond.instanceMethod yX0_heelRolledBy, Cond.selects RX0 yX0_heelRolledBy yX0_heelRolledBy, Cond.code yX0_heelRolledBy cX0_heelRolledBy 3 (some .int), Cond.methodLink RX0 83 yX0_asideRolledBy, Cond.instanceMethod yX0_asideRolledBy, Cond.selects RX0 yX0_asideRolledBy yX0_asideRolledBy, Cond.code yX0_asideRolledBy cX0_asideRolledBy 5 (some .int), Cond.fieldLink RX0 89 "BoatTrim$Cargo" "side" "[I"]
def wsX11_steady_r5 : List Cond := [Cond.static yX11_rollsOf, Cond.code yX11_rollsOf cX11_rollsOf 2 (some .int), Cond.constant RX11 167 (-2147483648), Cond.static yX11_held, Cond.code yX11_held cX11_held 3 (some .int), Cond.methodLink RX11 386 Lib.Math.min.name, Cond.methodLink RX11 254 Lib.Math.max.name, Cond.static Lib.Math.max.name, Cond.code Lib.Math.max.name Lib.Math.max.code 2 (some .int)]
def wsX11_steady : List Cond := .code yX11_steady cX11_steady 1 (some .int) :: ((wsX11_steady_r1 ++ (wsX11_steady_r2 ++ (wsX11_steady_r3 ++ (wsX11_steady_r4 ++ wsX11_steady_r5)))) ++ wsX110 ++ wsX00 ++ wsX20 ++ wsX10 ++ wsX80)
def wsX11_grounded_r1 : List Cond := [Cond.fieldLink RX11 12 "BoatTrim" "boat" "LBoatTrim$Boat;", Cond.fieldLink RX11 82 "BoatTrim$Boat" "hull" "LBoatTrim$Hull;", Cond.methodLink RX11 78 yX11_isWithin, Cond.static yX11_isWithin, Cond.initialized RX11, Cond.code yX11_isWithin cX11_isWithin 3 (some .boolean), Cond.methodLink RX11 201 yX0_allWeight, Cond.instanceMethod yX0_allWeight, Cond.selects RX0 yX0_allWeight yX0_allWeight, Cond.initialized RX0, Cond.code yX0_allWeight cX0_allWeight 3 (some .int), Cond.fieldLink RX0 12 "BoatTrim$Boat" "hull" "LBoatTrim$Hull;", Cond.fieldLink RX0 67 "BoatTrim$Hull" "shell" "I", Cond.fieldLink RX0 21 "BoatTrim$Boat" "cargo" "LBoatTrim$Cargo;", Cond.fieldLink RX0 36 "BoatTrim$Cargo" "size" "I", Cond.fieldLink RX0 28 "BoatTrim$Boat" "tanks" "LBoatTrim$Tanks;", Cond.fieldLink RX0 73 "BoatTrim$Tanks" "has" "[I", Cond.methodLink RX0 70 yX0_weighsAt, Cond.instanceMethod yX0_weighsAt, Cond.selects RX0 yX0_weighsAt yX0_weighsAt, Cond.code yX0_weighsAt cX0_weighsAt 2 (some .int), Cond.fieldLink RX0 53 "BoatTrim$Cargo" "kind" "[I", Cond.fieldLink RX0 57 "BoatTrim$Cargo" "weight" "[I", Cond.methodLink RX0 60 yX0_woolWeighs]
def wsX11_grounded_r2 : List Cond := [Cond.instanceMethod yX0_woolWeighs, Cond.selects RX0 yX0_woolWeighs yX0_woolWeighs, Cond.code yX0_woolWeighs cX0_woolWeighs 2 (some .int), Cond.fieldLink RX0 64 "BoatTrim$Hull" "wet" "I", Cond.methodLink RX11 229 yX2_startOf, Cond.instanceMethod yX2_startOf, Cond.selects RX2 yX2_startOf yX2_startOf, Cond.initialized RX2, Cond.code yX2_startOf cX2_startOf 7 (some .int), Cond.fieldLink RX2 9 "BoatTrim$Hull" "sections" "I", Cond.methodLink RX2 67 Lib.Math.abs.name, Cond.static Lib.Math.abs.name, Cond.initialized "java/lang/Math", Cond.code Lib.Math.abs.name Lib.Math.abs.code 1 (some .int), Cond.methodLink RX2 57 yX2_top, Cond.instanceMethod yX2_top, Cond.selects RX2 yX2_top yX2_top, Cond.code yX2_top cX2_top 1 (some .int), Cond.fieldLink RX2 15 "BoatTrim$Hull" "deep" "I", Cond.methodLink RX2 71 yX2_waterOfSlope, Cond.instanceMethod yX2_waterOfSlope, Cond.selects RX2 yX2_waterOfSlope yX2_waterOfSlope, Cond.code yX2_waterOfSlope cX2_waterOfSlope 5 (some .int), Cond.methodLink RX2 61 yX2_draughtOf]
def wsX11_grounded_r3 : List Cond := [Cond.instanceMethod yX2_draughtOf, Cond.selects RX2 yX2_draughtOf yX2_draughtOf, Cond.code yX2_draughtOf cX2_draughtOf 4 (some .int), Cond.methodLink RX2 64 yX2_waterAt, Cond.instanceMethod yX2_waterAt, Cond.selects RX2 yX2_waterAt yX2_waterAt, Cond.code yX2_waterAt cX2_waterAt 4 (some .int), Cond.methodLink RX2 51 Lib.Math.min.name, Cond.static Lib.Math.min.name, Cond.code Lib.Math.min.name Lib.Math.min.code 2 (some .int), Cond.fieldLink RX2 28 "BoatTrim$Hull" "rise" "[I", Cond.fieldLink RX2 24 "BoatTrim$Hull" "wide" "[I", Cond.methodLink RX11 220 yX2_leastRise, Cond.instanceMethod yX2_leastRise, Cond.selects RX2 yX2_leastRise yX2_leastRise, Cond.code yX2_leastRise cX2_leastRise 3 (some .int)]
def wsX11_grounded : List Cond := .code yX11_grounded cX11_grounded 3 (some .int) :: ((wsX11_grounded_r1 ++ (wsX11_grounded_r2 ++ wsX11_grounded_r3)) ++ wsX110 ++ wsX00 ++ wsX20 ++ wsX10 ++ wsX80)
def wsX11_lighten_r1 : List Cond := [Cond.fieldLink RX11 12 "BoatTrim" "boat" "LBoatTrim$Boat;", Cond.fieldLink RX11 82 "BoatTrim$Boat" "hull" "LBoatTrim$Hull;", Cond.methodLink RX11 254 Lib.Math.max.name, Cond.static Lib.Math.max.name, Cond.initialized "java/lang/Math", Cond.code Lib.Math.max.name Lib.Math.max.code 2 (some .int), Cond.methodLink RX11 78 yX11_isWithin, Cond.static yX11_isWithin, Cond.initialized RX11, Cond.code yX11_isWithin cX11_isWithin 3 (some .boolean), Cond.methodLink RX11 220 yX2_leastRise, Cond.instanceMethod yX2_leastRise, Cond.selects RX2 yX2_leastRise yX2_leastRise, Cond.initialized RX2, Cond.code yX2_leastRise cX2_leastRise 3 (some .int), Cond.fieldLink RX2 28 "BoatTrim$Hull" "rise" "[I", Cond.fieldLink RX2 9 "BoatTrim$Hull" "sections" "I", Cond.methodLink RX2 51 Lib.Math.min.name, Cond.static Lib.Math.min.name, Cond.code Lib.Math.min.name Lib.Math.min.code 2 (some .int), Cond.methodLink RX11 251 yX2_carriedAt, Cond.instanceMethod yX2_carriedAt, Cond.selects RX2 yX2_carriedAt yX2_carriedAt, Cond.code yX2_carriedAt cX2_carriedAt 2 (some .int)]
def wsX11_lighten_r2 : List Cond := [Cond.methodLink RX2 71 yX2_waterOfSlope, Cond.instanceMethod yX2_waterOfSlope, Cond.selects RX2 yX2_waterOfSlope yX2_waterOfSlope, Cond.code yX2_waterOfSlope cX2_waterOfSlope 5 (some .int), Cond.methodLink RX2 61 yX2_draughtOf, Cond.instanceMethod yX2_draughtOf, Cond.selects RX2 yX2_draughtOf yX2_draughtOf, Cond.code yX2_draughtOf cX2_draughtOf 4 (some .int), Cond.methodLink RX2 64 yX2_waterAt, Cond.instanceMethod yX2_waterAt, Cond.selects RX2 yX2_waterAt yX2_waterAt, Cond.code yX2_waterAt cX2_waterAt 4 (some .int), Cond.fieldLink RX2 24 "BoatTrim$Hull" "wide" "[I", Cond.methodLink RX2 57 yX2_top, Cond.instanceMethod yX2_top, Cond.selects RX2 yX2_top yX2_top, Cond.code yX2_top cX2_top 1 (some .int), Cond.fieldLink RX2 15 "BoatTrim$Hull" "deep" "I", Cond.methodLink RX11 201 yX0_allWeight, Cond.instanceMethod yX0_allWeight, Cond.selects RX0 yX0_allWeight yX0_allWeight, Cond.initialized RX0, Cond.code yX0_allWeight cX0_allWeight 3 (some .int), Cond.fieldLink RX0 12 "BoatTrim$Boat" "hull" "LBoatTrim$Hull;"]
def wsX11_lighten_r3 : List Cond := [Cond.fieldLink RX0 67 "BoatTrim$Hull" "shell" "I", Cond.fieldLink RX0 21 "BoatTrim$Boat" "cargo" "LBoatTrim$Cargo;", Cond.fieldLink RX0 36 "BoatTrim$Cargo" "size" "I", Cond.fieldLink RX0 28 "BoatTrim$Boat" "tanks" "LBoatTrim$Tanks;", Cond.fieldLink RX0 73 "BoatTrim$Tanks" "has" "[I", Cond.methodLink RX0 70 yX0_weighsAt, Cond.instanceMethod yX0_weighsAt, Cond.selects RX0 yX0_weighsAt yX0_weighsAt, Cond.code yX0_weighsAt cX0_weighsAt 2 (some .int), Cond.fieldLink RX0 53 "BoatTrim$Cargo" "kind" "[I", Cond.fieldLink RX0 57 "BoatTrim$Cargo" "weight" "[I", Cond.methodLink RX0 60 yX0_woolWeighs, Cond.instanceMethod yX0_woolWeighs, Cond.selects RX0 yX0_woolWeighs yX0_woolWeighs, Cond.code yX0_woolWeighs cX0_woolWeighs 2 (some .int), Cond.fieldLink RX0 64 "BoatTrim$Hull" "wet" "I"]
