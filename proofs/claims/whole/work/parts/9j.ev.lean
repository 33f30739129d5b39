/-! WHAT IS KNOWN OF THE START, and stays known -/
def evW (D : va_G) (cA : Nat → ClassId) (E : aE) (adV : Nat → Nat) (U : State) (H : Heap) : Prop :=
  (va_K D vwCl (tysW cA) U ∧ (∀ w ∈ nestWs, va_Nw w U) ∧ ∀ own idx k, scon own idx = some k → vk_R (oName own) idx (sTexts.getD k "") (E.2.2 k) U) ∧ jS (aA E.1) E.2.2 adV U H ∧ xEv E U H
section EVW
variable {D : va_G} {cA : Nat → ClassId} {E : aE} {adV : Nat → Nat}
theorem evW_has : evHas D cA E (evW D cA E adV) := fun _ _ h => h.1
theorem evW_ok : evOK (aA E.1) (evW D cA E adV) := by
  refine ⟨fun s U H hW h => ?_, fun U H H' hz hq h => ⟨h.1, h.2.1.kept hq, h.2.2.1, h.2.2.2.1.kept hq, h.2.2.2.2.kept hq⟩⟩
  obtain ⟨⟨h1, h2, h3⟩, h4, h5, h6, h7⟩ := h
  refine ⟨⟨va_K.moved hW.alike h1, fun w hw => ?_, fun own idx k hk => vk_R.warm hW (h3 own idx k hk)⟩, h4.moved hW.alike, fun w hw => ?_, vx_Zq.moved hW.alike h6, vx_Zq.moved hW.alike h7⟩
  · obtain ⟨a, i, x, h, e⟩ := nest_is w hw
    have h9 := h2 w hw
    subst e
    exact va_Nw.warmM hW h9
  · have h9 := h5 w hw
    simp only [xBad, List.mem_cons, List.not_mem_nil, or_false] at hw
    rcases hw with e | e | e | e <;> subst e
    · exact va_Nw.warmD hW h9
    · exact va_Nw.warmD hW h9
    · exact va_Nw.warmD hW h9
    · exact va_Nw.warmC hW h9
end EVW
def tmL : List (String × Nat) := [("RenvoiDesk$Reader", 38), ("RenvoiDesk$Reader", 44), ("RenvoiDesk$Reader", 46), ("RenvoiDesk$Reader", 48), ("RenvoiDesk$Reader", 50), ("RenvoiDesk$Reader", 52), ("RenvoiDesk$Reader", 54), ("RenvoiDesk$Reader", 56), ("RenvoiDesk", 94)]
def tmW (i : Nat) : Term := .string (tmL.getD i ("", 0)).1 (tmL.getD i ("", 0)).2
def flW : List Cond := flatC (Jvm.Cond.and given_1 narrow_1)
theorem nr_ex : ∀ i, i < 9 → Cond.exactly (tmW i) "java/lang/String" ∈ flW := by decide +kernel
theorem nr_co : ∀ i, i < 9 → Cond.eq (.field (tmW i) "java/lang/String" "coder" "B") (.int 0) ∈ flW := by decide +kernel
theorem nr_ar : ∀ i, i < 9 → Cond.arrayOf (.field (tmW i) "java/lang/String" "value" "[B") .byte ∈ flW := by decide +kernel
theorem nr_le : ∀ i, i < 9 → Cond.eq (.length (.field (tmW i) "java/lang/String" "value" "[B")) (.int (Int32.ofNat (lenW.getD i 0))) ∈ flW := by decide +kernel
theorem nr_el : ∀ i, i < 9 → ∀ j, j < lenW.getD i 0 → Cond.eq (.elem (.field (tmW i) "java/lang/String" "value" "[B") (.int (Int32.ofNat j))) (.int ((bytW.getD i []).getD j 0)) ∈ flW := by decide +kernel
theorem nr_ne : ∀ i, i < 9 → ∀ j, j < 9 → i ≠ j → Cond.not (Cond.eq (tmW i) (tmW j)) ∈ flW ∨ Cond.not (Cond.eq (tmW j) (tmW i)) ∈ flW := by decide +kernel
theorem nr_co2 : ∀ own, own < 12 → ∀ e ∈ sconL.getD own [], Cond.stringRef (oName own) e.1 (sTexts.getD e.2 "") ∈ lw_tbl ∧ e.2 < 9 ∧ (tmW e.2 = .string (oName own) e.1 ∨ Cond.eq (tmW e.2) (.string (oName own) e.1) ∈ flW) := by decide +kernel
theorem xBad_in : ∀ w ∈ xBad, w ∈ lw_tbl := by decide +kernel
