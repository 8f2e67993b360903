/-! THE PURE PART, W: signs -/
def pOut (q : Nat) (S : PS) (L : List Nat) (P : PS) : Prop := P.1 q = nI L.length ∧ (∀ i, i < L.length → P.2 34 i = nI (L.getD i 0)) ∧ (∀ k, ¬ k = q → P.1 k = S.1 k) ∧ ∀ k, ¬ k = 34 → P.2 k = S.2 k
theorem pOut_add {q : Nat} {S P : PS} {L : List Nat} (h : pOut q S L P) (c : Nat) : pOut q S (L ++ [c]) (pI (pAr P 34 (upd (P.2 34) L.length (nI c))) q (nI (L.length + 1))) := by
  obtain ⟨h1, h2, h3, h4⟩ := h
  refine ⟨?_, fun i hi => ?_, fun k hk => ?_, fun k hk => ?_⟩
  · rw [pI_1, if_pos rfl, List.length_append]
    rfl
  · rw [pI_2, pAr_at, upd_at]
    rw [List.length_append] at hi
    have hi' : i < L.length + 1 := hi
    by_cases e : i = L.length
    · rw [if_pos e, e]
      congr 1
      rw [List.getD_eq_getElem?_getD, List.getElem?_append_right (Nat.le_refl _), Nat.sub_self]
      rfl
    · rw [if_neg e, h2 i (by omega)]
      congr 1
      rw [List.getD_eq_getElem?_getD, List.getD_eq_getElem?_getD, List.getElem?_append_left (by omega)]
  · rw [pI_out hk]; exact h3 k hk
  · rw [pI_2, pAr_out hk]; exact h4 k hk
theorem pchar7 : ∀ c : Fin 127, vp_nar .char (nI c.1) = nI c.1 := by decide +kernel
theorem pchar7' : ∀ c : Fin 127, ((nI c.1).toUInt32 % 65536).toInt32 = nI c.1 := by decide +kernel
theorem ev_addSign {S P : PS} {L : List Nat} (h : pOut 22 S L P) {c : Nat} (hc : c < 127) (hL : L.length < 224) : ∃ P', f_X5_addSign P (nI c) = some (0, P') ∧ pOut 22 S (L ++ [c]) P' := by
  refine ⟨_, ?_, pOut_add h c⟩
  have e := pchar7 ⟨c, hc⟩
  dsimp only at e
  unfold f_X5_addSign
  rw [h.1, if_pos (show nI L.length < (224 : Int32) from nI_lt (a := L.length) (b := 224) hL (by decide)), g_t (pin_nI hL (by decide)), nI_clamp (by omega), e, nI_1]
theorem ev_says {S P : PS} {L : List Nat} (h : pOut 14 S L P) {c : Nat} (hc : c < 127) (hL : L.length < 320) : ∃ P', f_X12_says P (nI c) = some (0, P') ∧ pOut 14 S (L ++ [c]) P' := by
  refine ⟨_, ?_, pOut_add h c⟩
  have e := pbyte ⟨c, hc⟩
  dsimp only at e
  unfold f_X12_says
  rw [h.1, g_t (pin_nI hL (by decide)), nI_clamp (by omega), e, nI_1]
