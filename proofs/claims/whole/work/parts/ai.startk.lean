/-! the start: the array classes -/
theorem start_K {args : Array Value} {s : State} (hts : ∀ w ∈ TS, w.before args s = true) (hA1 : AOq s) (hA2 : va_AO "TwoFaces$Papers" s) : ∃ (D : va_G) (cid : Nat → ClassId), va_K D vwCl (tysOf cid) s := by
  obtain ⟨D, hD⟩ := start_D hts
  obtain ⟨c0, k0, m0, a0, b0, d0⟩ := Cond.arrayClass_spec (hts _ ac_int)
  obtain ⟨c1, k1, m1, a1, b1, d1⟩ := Cond.arrayClass_spec (hts _ ac_byte)
  obtain ⟨c2, k2, m2, a2, b2, d2⟩ := Cond.arrayClass_spec (hts _ ac_boolean)
  obtain ⟨c3, k3, m3, a3, b3, d3⟩ := Cond.arrayClass_spec (hts _ ac_long)
  obtain ⟨m4, c4, k4, -, b4, d4, a4⟩ := Cond.arrayOver_specA hA1
  obtain ⟨m5, c5, k5, f5, -, b5, d5, a5⟩ := Cond.arrayOver_spec hA2
  refine ⟨D, fun i => [c0, c1, c2, c3, c4, c5].getD i c0, hD, fun k q hq => ?_⟩
  have hk : k < 6 := (List.getElem?_eq_some_iff.mp hq).1
  have hv : k = 0 ∨ k = 1 ∨ k = 2 ∨ k = 3 ∨ k = 4 ∨ k = 5 := by omega
  rcases hv with rfl | rfl | rfl | rfl | rfl | rfl <;> cases hq
  · exact ⟨fun n z => ⟨fun k h => (by cases h), k0, b0, m0, d0⟩, a0⟩
  · exact ⟨fun n z => ⟨fun k h => (by cases h), k1, b1, m1, d1⟩, a1⟩
  · exact ⟨fun n z => ⟨fun k h => (by cases h), k2, b2, m2, d2⟩, a2⟩
  · exact ⟨fun n z => ⟨fun k h => (by cases h), k3, b3, m3, d3⟩, a3⟩
  · exact ⟨fun n z => ⟨fun k h => (by cases h), k4, b4, m4, d4⟩, a4⟩
  · exact ⟨fun n z => ⟨fun k h => (by cases h), k5, b5, m5, d5⟩, k5, m5, b5, d5, f5, a5⟩
