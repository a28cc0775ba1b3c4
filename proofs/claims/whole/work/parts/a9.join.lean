/-! town() and rules(): the new object joins the world -/
theorem va_callgx {p : Program} {l : Launch} {e : Env} {R : Room} {s : State} {m : MethodId} {args : Array Value} {below : List Frame} {meth : Method} {c : Code} {H : Heap} {locs : List Loc} {cells slots : Nat} {Q : State → Prop} {pc : Nat} {ls : Array Slot} {rest st0 : List Value} {A0 A1 : Nat → Prop} {H0 : Heap} {mc ms : Nat} {free : Addr → Prop} {rv : Option Value} {B : State → Prop}
    (hr : va_Run p l e R s m args below meth c H locs cells slots mc ms (F0 m pc ls st0) rest (fun st oc t => (oc = .returned rv ∧ B t) ∧ va_F A1 st t) free) (hS : va_S A0 H0 H locs) (hA : ∀ q, q < H.size → A1 q → A0 q) (hf : ∀ q, free q → A0 q)
    (kk : ∀ (t : State) (H1 : Heap) (locs1 : List Loc), t.heap = H1 → s.vm.Alike t.vm → B t → va_S A0 H0 H1 locs1 → H.size ≤ H1.size → (∀ q, q < H.size → ¬ A1 q → H1[q]? = H[q]?) → W p l e R s m args below meth c H1 locs1 (cells + mc) (slots + ms) Q (F0 m (pc + 3) ls (rv.toList ++ rest))) : W p l e R s m args below meth c H locs cells slots Q (F0 m pc ls st0) := by
  intro T hT X
  obtain ⟨v, st₀, t, T', L, h0, X', hL, e1, e2, ⟨⟨hv, hb⟩, hz, hk⟩, st⟩ := hr T hT X
  cases hv
  rw [h0] at hz hk
  obtain ⟨t2, a1, b1⟩ := kk t T'.heap (locs ++ L) e1.symm (by rw [← e2]; exact X'.warmed.alike) hb
    ⟨Nat.le_trans hS.1 (by rw [e1]; exact hz), fun q h1 h2 => by rw [e1, hk q (Nat.lt_of_lt_of_le h1 hS.1) (fun z => h2 (hA q (Nat.lt_of_lt_of_le h1 hS.1) z))]; exact hS.2.1 q h1 h2, fun q hq => by
      rcases List.mem_append.mp hq with h | h
      · exact hS.2.2 q h
      · exact hf _ (hL q h)⟩ (by rw [e1]; exact hz) (fun q h1 h2 => by rw [e1]; exact hk q h1 h2) T' rfl X'
  exact ⟨t2, st t2 a1, b1⟩
def dfl (ci : Nat) : List Value := (List.range (FT.getD ci []).length).map (fun j => if (FT.getD ci []).getD j 9 = 0 then .int 0 else if (FT.getD ci []).getD j 9 = 1 then .long 0 else .null)
def adx (ad : Nat → Nat) (n x : Nat) (a : Nat) : Nat := if a = n then x else ad a
theorem rf_small : ∀ a, a < 193 → ∀ j b, RF a j = some b → b < 193 := by
  have h1 : ∀ r ∈ RT.take 193, ∀ v ∈ r, v ≤ 193 := by decide +kernel
  intro a ha j b hb
  unfold RF at hb
  have hg : (RT.getD a []).getD j 0 = b + 1 := by
    revert hb
    cases (RT.getD a []).getD j 0 with
    | zero => intro hb; cases hb
    | succ n => intro hb; cases hb; rfl
  have hla : a < RT.length := by
    rcases Nat.lt_or_ge a RT.length with g | g
    · exact g
    · rw [List.getD_eq_getElem?_getD, List.getD_eq_getElem?_getD, List.getElem?_eq_none g] at hg
      simp at hg
  have hm : RT[a] ∈ RT.take 193 := by
    rw [List.mem_take_iff_getElem]
    exact ⟨a, by omega, rfl⟩
  have hra : RT.getD a [] = RT[a] := by rw [List.getD_eq_getElem?_getD, List.getElem?_eq_getElem hla]; rfl
  rw [hra, List.getD_eq_getElem?_getD] at hg
  have hlj : j < RT[a].length := by
    rcases Nat.lt_or_ge j RT[a].length with g | g
    · exact g
    · rw [List.getElem?_eq_none g] at hg
      simp at hg
  rw [List.getElem?_eq_getElem hlj] at hg
  have := h1 _ hm _ (List.getElem_mem hlj)
  simp at hg
  omega
theorem wl_join {cid : Nat → ClassId} {ad : Nat → Nat} {h h' : CH} {n x : Nat} (hn : 193 ≤ n) (h1 : ∀ a, a ≠ n → h'.1 a = h.1 a) (h2 : h'.2 = h.2) : wl cid (adx ad n x) (List.range 193 ++ [n]) h' = wl cid ad (List.range 193) h ++ [(x, cellE cid (adx ad n x) h' n)] := by
  unfold wl
  rw [List.map_append]
  congr 1
  · apply List.map_congr_left
    intro a ha
    have ha := List.mem_range.mp ha
    have e0 : adx ad n x a = ad a := if_neg (by omega)
    have hR : ∀ j, (RF a j).map (adx ad n x) = (RF a j).map ad := by
      intro j
      cases hr : RF a j with
      | none => rfl
      | some b =>
        have := rf_small a ha j b hr
        show some (adx ad n x b) = some (ad b)
        rw [show adx ad n x b = ad b from if_neg (by omega)]
    have e3 : ∀ ci, fv (adx ad n x) h' a ci = fv ad h a ci := by
      intro ci
      funext j
      unfold fv
      rw [h1 a (by omega), h2, hR]
    rw [e0]
    unfold cellE cellK fvs
    simp only [e3, hR]
    rw [h1 a (by omega), h2]
  · show [(adx ad n x n, _)] = _
    rw [show adx ad n x n = x from if_pos rfl]

