/-! the class empties the boxes -/
def xEB (c j : Nat) : Prop := (c = 130 ∨ c = 137 ∨ c = 144) ∧ j = 2
theorem c_emptyBoxes (h : CH) : ∃ h', f_X11_emptyBoxes h = some ((), h') ∧ CBx (fun _ => none) h' ∧ Fr xEB h h' := by
  have st : ∀ (m k : Nat) (g : CH), k < 3 → f_X11_emptyBoxes_L2 (m + 1) (nI k) g = f_X11_emptyBoxes_L2 m (nI (k + 1)) (sI g (130 + 7 * k) 2 (nI 0)) := by
    intro m k g hk
    conv => lhs; unfold f_X11_emptyBoxes_L2
    rw [if_pos (by rw [uI_lt (by omega) (by omega)]; exact hk), c_boxAt, isF_nI hk (by omega), if_pos rfl, uI_toNat (by omega), clp_some, jn_eq, uI_add]
    have : k = 0 ∨ k = 1 ∨ k = 2 := by omega
    rcases this with e | e | e <;> subst e <;> rfl
  unfold f_X11_emptyBoxes
  show ∃ h', f_X11_emptyBoxes_L2 (99996 + 1 + 1 + 1 + 1) (nI 0) h = _ ∧ _
  rw [st _ 0 _ (by omega), st _ 1 _ (by omega), st _ 2 _ (by omega)]
  refine ⟨_, rfl, fun j hj => ?_, ?_⟩
  · have : j = 0 ∨ j = 1 ∨ j = 2 := by omega
    rcases this with e | e | e <;> subst e <;> rfl
  · exact ((Fr.sI (by unfold xEB; omega)).tr (Fr.sI (by unfold xEB; omega))).tr (Fr.sI (by unfold xEB; omega))
