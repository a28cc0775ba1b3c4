/-! the start: all that a state must give -/
theorem start_Kw {args : Array Value} {s : State} (hts : ∀ w ∈ lw_tbl, w.before args s = true) (hg : (Jvm.Cond.and given_1 narrow_1).before args s = true) : ∃ (D : va_G) (cid : Nat → ClassId), Kw D cid s.heap.size s := by
  have hT : ∀ w ∈ TS, w.before args s = true := fun w h => hts w (TS_in w h)
  have hA1 : AOq s := (hts (Cond.arrayOver (.array .int)) (List.mem_of_getElem? (i := 270) (by decide +kernel)))
  have hA2 : va_AO "TwoFaces$Papers" s := va_AO.of (hts _ (List.mem_of_getElem? (i := 410) (by decide +kernel)))
  obtain ⟨D, cid, hK⟩ := start_K hT hA1 hA2
  exact ⟨D, cid, hK, hA1, hA2, ⟨va_Nw.of rfl (hts _ (List.mem_of_getElem? (i := 265) (by decide +kernel))), va_Nw.of rfl (hts _ (List.mem_of_getElem? (i := 322) (by decide +kernel))), va_Nw.of rfl (hts _ (List.mem_of_getElem? (i := 373) (by decide +kernel)))⟩, start_S hg (hts _ (List.mem_of_getElem? (i := 153) (by decide +kernel))) (hts _ (List.mem_of_getElem? (i := 163) (by decide +kernel))) (hts _ (List.mem_of_getElem? (i := 122) (by decide +kernel))) (hts _ (List.mem_of_getElem? (i := 179) (by decide +kernel))) (hts _ (List.mem_of_getElem? (i := 124) (by decide +kernel)))⟩
