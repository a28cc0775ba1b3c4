/-! the start: what the tables say of the classes -/
theorem nl_known {own : String} {idx ci N : Nat} (hL : NLk own idx ci N) {args : Array Value} {s : State} (hts : ∀ w ∈ TS, w.before args s = true) : ∃ q : ClassId × (Nat → Nat), ∀ r : vw_C, vwCl[ci]? = some r → u_Kn s r.1 r.2.1 r.2.2 q.1 q.2 := by
  obtain ⟨C1, T1, ty0, hc, hN, l1, l2, l3, hin, hty, hkd⟩ := hL
  obtain ⟨cC, iS, h⟩ := u_known hts hin (hts _ l2)
  refine ⟨(cC, iS), fun r hr => ?_⟩
  cases Option.some.inj (hr.symm.trans hc)
  exact h
theorem start_D {args : Array Value} {s : State} (hts : ∀ w ∈ TS, w.before args s = true) : ∃ D : va_G, ∀ (c : Nat) (q : vw_C), vwCl[c]? = some q → u_Kn s q.1 q.2.1 q.2.2 (D.1 c) (D.2 c) := by
  have h0 : ∀ ci : Nat, ∃ q : ClassId × (Nat → Nat), ∀ r : vw_C, vwCl[ci]? = some r → u_Kn s r.1 r.2.1 r.2.2 q.1 q.2 := by
    intro ci
    rcases Nat.lt_or_ge ci 13 with g | g
    · have hv : ci = 0 ∨ ci = 1 ∨ ci = 2 ∨ ci = 3 ∨ ci = 4 ∨ ci = 5 ∨ ci = 6 ∨ ci = 7 ∨ ci = 8 ∨ ci = 9 ∨ ci = 10 ∨ ci = 11 ∨ ci = 12 := by omega
      rcases hv with rfl | rfl | rfl | rfl | rfl | rfl | rfl | rfl | rfl | rfl | rfl | rfl | rfl
      · exact nl_known nlX11_63 hts
      · exact nl_known nlX11_72 hts
      · exact nl_known nlX11_52 hts
      · exact nl_known nlX11_79 hts
      · exact nl_known nlX11_97 hts
      · exact nl_known nlX11_42 hts
      · exact nl_known nlX11_142 hts
      · exact nl_known nlX11_88 hts
      · exact nl_known nlX11_23 hts
      · exact nl_known nlX11_32 hts
      · exact nl_known nlX11_114 hts
      · exact nl_known nlL_7 hts
      · exact nl_known nlL_10 hts
    · refine ⟨(default, fun _ => 0), fun r hr => ?_⟩
      have hl : vwCl.length = 13 := by decide +kernel
      have := (List.getElem?_eq_some_iff.mp hr).1
      omega
  obtain ⟨f, hf⟩ := Classical.axiomOfChoice h0
  exact ⟨(fun c => (f c).1, fun c => (f c).2), fun c q hq => hf c q hq⟩
