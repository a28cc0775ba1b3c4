/-! making: the reference's end -/
def modW (h : CH) : CH := h
theorem mod_tail {κ : Kz} {h : CH} (C : Cz κ cX12_init RX12 2 9 800 41 6546) (Z : ∀ (pc : Nat) (ls : List (Nat × Value)), decode cX12_init pc = .ok (.return_, 1) → Iz κ 193 [] 41 6546 pc ls [] (modW h)) : Iz κ 193 [] 41 6546 334 [(0, .ref (ksz κ + 151))] [] h := by
  sorry
