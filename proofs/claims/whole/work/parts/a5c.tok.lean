/-! making: the words -/
def tokW (h : CH) : CH := h
theorem tok_loop {κ : Kz} {h : CH} (C : Cz κ cX8_init RX8 3 8 400 4 4827) (Z : ∀ (pc : Nat) (ls : List (Nat × Value)), decode cX8_init pc = .ok (.return_, 1) → Iz κ 7 [(0, 4), (0, 5), (0, 6), (0, 7), (0, 8), (0, 9), (0, 10), (0, 11), (0, 12), (0, 13), (0, 14), (0, 15)] 4 4827 pc ls [] (tokW h)) : Iz κ 7 [(0, 4), (0, 5), (0, 6), (0, 7), (0, 8), (0, 9), (0, 10), (0, 11), (0, 12), (0, 13), (0, 14), (0, 15)] 4 4827 95 [(0, .ref (ksz κ + 2)), (1, .ref (ksz κ + 1))] [] h := by
  sorry
