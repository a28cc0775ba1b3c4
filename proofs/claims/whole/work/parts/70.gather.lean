/-! rings: the class gathers one -/
def pe : Option Nat → Int32
  | none => -1
  | some m => nI m
def ov (f : Nat → Bool) (a : Nat) (o : Nat → Option Nat) (j : Nat) : Option Nat := if f j = true then some a else o j
def xGA (a : Nat) (c j : Nat) : Prop := c = 127 ∨ c = 129 ∨ (c = 128 ∧ j = a)
def GI (t : Tn) (p : Pp) (k : Int32) (h0 : CH) (a : Nat) (o : Nat → Option Nat) (f : Nat → Bool) (h : CH) : Prop := (∀ j, j < 40 → h.1 127 j = pe (ov f a o j)) ∧ Fr (xGA a) h0 h ∧ (∀ i, f i = true → Rc (pN p) (gC p k) (hgB t p) a i) ∧ f a = true ∧ (∀ q, q < cz f (pN p) → ∃ i, i < pN p ∧ f i = true ∧ h.1 129 q = nI i) ∧ (∀ i, f i = true → ∃ q, q < cz f (pN p) ∧ h.1 129 q = nI i)
theorem pe_n {o : Option Nat} (h : ∀ m, o = some m → m < 40) : (pe o = -1) = (o = none) := by
  cases o with
  | none => exact propext ⟨fun _ => rfl, fun _ => rfl⟩
  | some m =>
    have := h m rfl
    show (nI m = -1) = _
    rw [uI_ne1 (by omega)]
    exact propext ⟨fun q => q.elim, fun q => by cases q⟩
theorem c_gat35 {t : Tn} (hV : VT t) {p : Pp} (hP : VP (tF t) p) {k : Int32} {h0 : CH} (hT : CT 7 t h0) (hC : CP 71 p h0) {a : Nat} (ha : a < pN p) (hca : gC p k a = true) {o : Nat → Option Nat} (ho : ∀ j m, o j = some m → m < 40) {m i : Nat} (hi : i < pN p) (K : Int32 → CH → Option (Unit × CH)) : ∀ n l, l ≤ pN p → pN p < n + l → ∀ f h, GI t p k h0 a o f h → f i = true → m < cz f (pN p) → h.1 129 m = nI i → ∃ f' h', f_X4_gather_L35 (nI a) k (nI m) K n (nI (cz f (pN p))) (nI l) h = K (nI (cz f' (pN p))) h' ∧ GI t p k h0 a o f' h' ∧ (∀ q, q < cz f (pN p) → h'.1 129 q = h.1 129 q) ∧ cz f (pN p) ≤ cz f' (pN p) ∧ (∀ j, f j = true → f' j = true) ∧ (∀ j, l ≤ j → j < pN p → gC p k j = true → hgB t p i j = true → (f' j = true ∨ o j ≠ none)) := by
  have hN := hP.1
  refine loop_up (fun n l => ∀ f h, GI t p k h0 a o f h → f i = true → m < cz f (pN p) → h.1 129 m = nI i → ∃ f' h', f_X4_gather_L35 (nI a) k (nI m) K n (nI (cz f (pN p))) (nI l) h = K (nI (cz f' (pN p))) h' ∧ GI t p k h0 a o f' h' ∧ (∀ q, q < cz f (pN p) → h'.1 129 q = h.1 129 q) ∧ cz f (pN p) ≤ cz f' (pN p) ∧ (∀ j, f j = true → f' j = true) ∧ (∀ j, l ≤ j → j < pN p → gC p k j = true → hgB t p i j = true → (f' j = true ∨ o j ≠ none))) (pN p) ?_ ?_
  · intro n l hl ih f h hI hfi hm hrow
    have hI0 := hI
    obtain ⟨g1, g2, g3, g4, g5, g6⟩ := hI
    have hT' : CT 7 t h := hT.fr g2 (fun a k h1 h2 h3 => by unfold xGA at h3; omega) hV
    have hC' : CP 71 p h := hC.fr g2 (fun a k h1 h2 h3 => by unfold xGA at h3; omega)
    have wl := cz_le f (pN p)
    have skip : (gC p k l = true → hgB t p i l = true → (f l = true ∨ o l ≠ none)) → ∃ f' h', f_X4_gather_L35 (nI a) k (nI m) K n (nI (cz f (pN p))) (nI (l + 1)) h = K (nI (cz f' (pN p))) h' ∧ GI t p k h0 a o f' h' ∧ (∀ q, q < cz f (pN p) → h'.1 129 q = h.1 129 q) ∧ cz f (pN p) ≤ cz f' (pN p) ∧ (∀ j, f j = true → f' j = true) ∧ (∀ j, l ≤ j → j < pN p → gC p k j = true → hgB t p i j = true → (f' j = true ∨ o j ≠ none)) := by
      intro sk
      obtain ⟨f', h', e1, e2, e3, e4, e5, e6⟩ := ih f h hI0 hfi hm hrow
      refine ⟨f', h', e1, e2, e3, e4, e5, fun j j1 j2 j3 j4 => ?_⟩
      by_cases e : j = l
      · rw [e] at j3 j4 ⊢
        rcases sk j3 j4 with z | z
        · exact Or.inl (e5 l z)
        · exact Or.inr z
      · exact e6 j (by omega) j2 j3 j4
    unfold f_X4_gather_L35
    have l71 : h.1 71 0 = nI (pN p) := hC'.1
    rw [l71, if_pos (by rw [uI_lt (by omega) (by omega)]; exact hl), if_pos (by rw [uI_lt (by omega) (by omega)]; omega), rdA_nI (by omega) (by omega), jn_eq, g1 l (by omega), uI_add]
    have hov : ∀ m, ov f a o l = some m → m < 40 := by
      intro m hm
      unfold ov at hm
      cases hfl : f l
      · rw [hfl] at hm; exact ho l m (by simpa using hm)
      · rw [hfl] at hm; have : some a = some m := by simpa using hm
        cases this; omega
    simp only [pe_n hov]
    by_cases c0 : ov f a o l = none
    · rw [if_pos c0]
      have hfl : f l = false := by
        unfold ov at c0
        cases z : f l
        · rfl
        · rw [z] at c0; simp at c0
      have hol : o l = none := by unfold ov at c0; rw [hfl] at c0; simpa using c0
      rw [c_counts _ _ hC' hP, clp_some, ifB]
      cases hcl : cnt p (nI l) k
      · exact skip (fun q => absurd (show cnt p (nI l) k = true from q) (by rw [hcl]; simp))
      simp only [if_true]
      rw [rdA_nI (by omega) (by omega), hrow, c_hang hV hP hT' hC' hi hl, clp_some, ifB]
      cases hh : hgB t p i l
      · exact skip (fun _ q => absurd q (by rw [hh]; simp))
      simp only [if_true]
      have gr := cz_ad hfl _ hl
      have gl := cz_le (ad1 f l) (pN p)
      rw [if_pos (by rw [uI_lt (by omega) (by omega)]; omega), wrA_nI (by omega) (by omega), wrA_nI (by omega) (by omega), uI_add, ← gr]
      have nI' : GI t p k h0 a o (ad1 f l) (sI (sI h 127 l (nI a)) 129 (cz f (pN p)) (nI l)) := by
        refine ⟨fun j hj => ?_, (g2.tr (Fr.sI (by unfold xGA; omega))).tr (Fr.sI (by unfold xGA; omega)), fun j hj => ?_, ?_, fun q hq => ?_, fun j hj => ?_⟩
        · rw [sI_1, if_neg (by omega), sI_1]
          unfold ov ad1
          by_cases e : j = l
          · rw [if_pos ⟨rfl, e⟩]; simp [e, pe]
          · rw [if_neg (fun q => e q.2), g1 j hj]; simp [e, ov]
        · unfold ad1 at hj
          by_cases e : j = l
          · rw [e]; exact (g3 i hfi).st hi hl hcl hh
          · exact g3 j (by simpa [e] using hj)
        · unfold ad1; rw [g4]; simp
        · rw [gr] at hq
          by_cases e : q = cz f (pN p)
          · exact ⟨l, hl, by unfold ad1; simp, by rw [sI_1, if_pos ⟨rfl, e⟩]⟩
          · obtain ⟨j, j1, j2, j3⟩ := g5 q (by omega)
            exact ⟨j, j1, by unfold ad1; rw [j2]; simp, by rw [sI_1, if_neg (fun z => e z.2), sI_1, if_neg (by omega)]; exact j3⟩
        · rw [gr]
          by_cases e : j = l
          · exact ⟨cz f (pN p), by omega, by rw [sI_1, if_pos ⟨rfl, rfl⟩, e]⟩
          · unfold ad1 at hj
            obtain ⟨q, q1, q2⟩ := g6 j (by simpa [e] using hj)
            exact ⟨q, by omega, by rw [sI_1, if_neg (by omega), sI_1, if_neg (by omega)]; exact q2⟩
      obtain ⟨f', h', e1, e2, e3, e4, e5, e6⟩ := ih (ad1 f l) _ nI' (by unfold ad1; rw [hfi]; simp) (by omega) (by rw [sI_1, if_neg (by omega), sI_1, if_neg (by omega)]; exact hrow)
      refine ⟨f', h', e1, e2, fun q hq => ?_, by omega, fun j hj => e5 j (by unfold ad1; rw [hj]; simp), fun j j1 j2 j3 j4 => ?_⟩
      · rw [e3 q (by omega), sI_1, if_neg (by omega), sI_1, if_neg (by omega)]
      · by_cases e : j = l
        · exact Or.inl (e5 j (by unfold ad1; simp [e]))
        · exact e6 j (by omega) j2 j3 j4
    · rw [if_neg c0]
      refine skip (fun _ _ => ?_)
      cases hfl : f l
      · refine Or.inr fun z => c0 ?_
        unfold ov; rw [hfl, z]; rfl
      · exact Or.inl rfl
  · intro n f h hI hfi hm hrow
    have hI0 := hI
    obtain ⟨g1, g2, g3, g4, g5, g6⟩ := hI
    have hC' : CP 71 p h := hC.fr g2 (fun a k h1 h2 h3 => by unfold xGA at h3; omega)
    have l71 : h.1 71 0 = nI (pN p) := hC'.1
    unfold f_X4_gather_L35
    rw [l71, if_neg (by rw [uI_lt (by omega) (by omega)]; omega)]
    exact ⟨f, h, rfl, hI0, fun _ _ => rfl, Nat.le_refl _, fun _ z => z, fun j j1 j2 => by omega⟩
