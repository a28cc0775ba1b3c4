/-! rings: the class's parts -/
theorem c_gat19 {t : Tn} (hV : VT t) {p : Pp} (hP : VP (tF t) p) {k : Int32} {h0 : CH} (hT : CT 7 t h0) (hC : CP 71 p h0) {a : Nat} (ha : a < pN p) (hca : gC p k a = true) {o : Nat → Option Nat} (ho : ∀ j m, o j = some m → m < 40) (free : ∀ j, rkN t p k a j = true → o j = none) : ∀ r n nx f h, nx + r = pN p → r < n → nx ≤ cz f (pN p) → GI t p k h0 a o f h → (∀ q, q < nx → ∀ i, h.1 129 q = nI i → i < pN p → ∀ j, j < pN p → gC p k j = true → hgB t p i j = true → (f j = true ∨ o j ≠ none)) → ∃ h', f_X4_gather_L19 (nI a) k n (nI (cz f (pN p))) (nI nx) h = some ((), h') ∧ (∀ j, j < 40 → h'.1 127 j = pe (ov (rkN t p k a) a o j)) ∧ h'.1 128 a = nI (cz (rkN t p k a) (pN p)) ∧ Fr (xGA a) h0 h' := by
  have hN := hP.1
  have done : ∀ f h, GI t p k h0 a o f h → (∀ q, q < cz f (pN p) → ∀ i, h.1 129 q = nI i → i < pN p → ∀ j, j < pN p → gC p k j = true → hgB t p i j = true → (f j = true ∨ o j ≠ none)) → ∃ h', (wrA h 128 40 (nI a) (nI (cz f (pN p))) fun h_4 => some ((), h_4)) = some ((), h') ∧ (∀ j, j < 40 → h'.1 127 j = pe (ov (rkN t p k a) a o j)) ∧ h'.1 128 a = nI (cz (rkN t p k a) (pN p)) ∧ Fr (xGA a) h0 h' := by
    intro f h hI pr
    obtain ⟨g1, g2, g3, g4, g5, g6⟩ := hI
    have ef : f = rkN t p k a := by
      funext i
      have h1 : f i = true ↔ rkN t p k a i = true := by
        refine ⟨fun q => rk_iff.2 (g3 i q), fun q => (rk_iff.1 q) (fun i => f i = true) g4 (fun i j h1 h2 h3 h4 h5 => ?_)⟩
        obtain ⟨q, q1, q2⟩ := g6 i h1
        rcases pr q q1 i q2 h2 j h3 h4 h5 with z | z
        · exact z
        · exact absurd (free j (rk_iff.2 ((g3 i h1).st h2 h3 h4 h5))) z
      cases z1 : f i <;> cases z2 : rkN t p k a i
      · rfl
      · rw [h1.2 z2] at z1; cases z1
      · rw [h1.1 z1] at z2; cases z2
      · rfl
    rw [wrA_nI (by omega) (by omega)]
    rw [ef] at g1 ⊢
    refine ⟨_, rfl, fun j hj => ?_, ?_, g2.tr (Fr.sI (by unfold xGA; omega))⟩
    · rw [sI_1, if_neg (by omega)]; exact g1 j hj
    · rw [sI_1, if_pos ⟨rfl, rfl⟩]
  intro r
  induction r with
  | zero =>
    intro n nx f h hr hn hle hI pr
    obtain ⟨n, rfl⟩ : ∃ z, n = z + 1 := ⟨n - 1, by omega⟩
    have wl := cz_le f (pN p)
    unfold f_X4_gather_L19
    rw [jn_eq, if_neg (by rw [uI_lt (by omega) (by omega)]; omega)]
    exact done f h hI (fun q hq => pr q (by omega))
  | succ r ih =>
    intro n nx f h hr hn hle hI pr
    obtain ⟨n, rfl⟩ : ∃ z, n = z + 1 := ⟨n - 1, by omega⟩
    have wl := cz_le f (pN p)
    unfold f_X4_gather_L19
    rw [jn_eq]
    by_cases c : nx < cz f (pN p)
    · rw [if_pos (by rw [uI_lt (by omega) (by omega)]; exact c), if_pos (by rw [uI_lt (by omega) (by omega)]; omega), uI_add]
      obtain ⟨i, i1, i2, i3⟩ := hI.2.2.2.2.1 nx c
      obtain ⟨f', h', e1, e2, e3, e4, e5, e6⟩ := c_gat35 hV hP hT hC ha hca ho i1 (fun (x3_7 : Int32) (h_8 : CH) => f_X4_gather_L19 (nI a) k n (x3_7) (nI (nx + 1)) h_8) FU 0 (by omega) (by unfold FU; omega) f h hI i2 c i3
      rw [e1]
      refine ih n (nx + 1) f' h' (by omega) (by omega) (by omega) e2 (fun q hq i' hi' hi2 j j1 j2 j3 => ?_)
      by_cases e : q = nx
      · rw [e, e3 nx c, i3] at hi'
        have : i = i' := by rw [uI_inj (by omega) (by omega)] at hi'; exact hi'
        rw [← this] at j3
        exact e6 j (by omega) j1 j2 j3
      · rw [e3 q (by omega)] at hi'
        rcases pr q (by omega) i' hi' hi2 j j1 j2 j3 with z | z
        · exact Or.inl (e5 j z)
        · exact Or.inr z
    · rw [if_neg (by rw [uI_lt (by omega) (by omega)]; exact c)]
      exact done f h hI (fun q hq => pr q (by omega))
theorem c_gather {t : Tn} (hV : VT t) {p : Pp} (hP : VP (tF t) p) {k : Int32} {h0 : CH} (hT : CT 7 t h0) (hC : CP 71 p h0) {a : Nat} (ha : a < pN p) (hca : gC p k a = true) {o : Nat → Option Nat} (ho : ∀ j m, o j = some m → m < 40) (free : ∀ j, rkN t p k a j = true → o j = none) (h1 : ∀ j, j < 40 → h0.1 127 j = pe (o j)) : ∃ h', f_X4_gather (nI a) k h0 = some ((), h') ∧ (∀ j, j < 40 → h'.1 127 j = pe (ov (rkN t p k a) a o j)) ∧ h'.1 128 a = nI (cz (rkN t p k a) (pN p)) ∧ Fr (xGA a) h0 h' := by
  have hN := hP.1
  unfold f_X4_gather
  rw [wrA_nI (by omega) (by omega), wrA_nI (by omega) (by omega)]
  have e1 := cz_1 a (pN p) ha
  have := c_gat19 hV hP hT hC ha hca ho free (pN p) FU 0 (fun i => decide (i = a)) (sI (sI h0 129 0 (nI a)) 127 a (nI a)) (by omega) (by unfold FU; omega) (by omega) ⟨fun j hj => ?_, (Fr.sI (by unfold xGA; omega)).tr (Fr.sI (by unfold xGA; omega)), fun i hi => by rw [of_decide_eq_true hi]; exact Rc.rf a, by simp, fun q hq => ⟨a, ha, by simp, ?_⟩, fun i hi => ⟨0, by omega, ?_⟩⟩ (fun q hq => by omega)
  · rw [e1] at this; exact this
  · rw [sI_1]
    unfold ov
    by_cases e : j = a
    · rw [if_pos ⟨rfl, e⟩]; simp [e, pe]
    · rw [if_neg (fun q => e q.2), sI_1, if_neg (by omega), h1 j hj]; simp [e]
  · rw [e1] at hq
    rw [sI_1, if_neg (by omega), sI_1, if_pos ⟨rfl, by omega⟩]
  · rw [sI_1, if_neg (by omega), sI_1, if_pos ⟨rfl, rfl⟩, of_decide_eq_true hi]
def fi (f : Nat → Bool) : Nat → Bool
  | 0 => true
  | n + 1 => fi f n && !f n
theorem fi_iff (f : Nat → Bool) : ∀ n, fi f n = true ↔ ∀ j, j < n → f j = false := by
  intro n
  induction n with
  | zero => exact ⟨fun _ j hj => by omega, fun _ => rfl⟩
  | succ n ih =>
    unfold fi
    rw [Bool.and_eq_true, ih]
    refine ⟨fun h j hj => ?_, fun h => ⟨fun j hj => h j (by omega), by rw [h n (by omega)]; rfl⟩⟩
    by_cases e : j = n
    · rw [e]; simpa using h.2
    · exact h.1 j (by omega)
noncomputable def fs (t : Tn) (p : Pp) (k : Int32) (n : Nat) : Bool := gC p k n && fi (rkN t p k n) n
noncomputable def ow (t : Tn) (p : Pp) (k : Int32) : Nat → Nat → Option Nat
  | 0, _ => none
  | n + 1, j => if (fs t p k n && rkN t p k n j) = true then some n else ow t p k n j
theorem ow_some {t : Tn} {p : Pp} {k : Int32} {j m : Nat} : ∀ n, ow t p k n j = some m → m < n ∧ fs t p k m = true ∧ rkN t p k m j = true := by
  intro n
  induction n with
  | zero => intro h; cases h
  | succ n ih =>
    intro h
    unfold ow at h
    by_cases c : (fs t p k n && rkN t p k n j) = true
    · rw [if_pos c] at h
      cases h
      rw [Bool.and_eq_true] at c
      exact ⟨by omega, c.1, c.2⟩
    · rw [if_neg c] at h
      have := ih h
      exact ⟨by omega, this.2⟩
theorem ow_none {t : Tn} {p : Pp} {k : Int32} {j : Nat} : ∀ n, ow t p k n j = none → ∀ m, m < n → fs t p k m = true → rkN t p k m j = false := by
  intro n
  induction n with
  | zero => intro _ m hm; omega
  | succ n ih =>
    intro h m hm hf
    unfold ow at h
    by_cases c : (fs t p k n && rkN t p k n j) = true
    · rw [if_pos c] at h; cases h
    · rw [if_neg c] at h
      by_cases e : m = n
      · rw [e] at hf ⊢
        rw [hf] at c
        simpa using c
      · exact ih h m (by omega) hf
theorem rkN_sy {t : Tn} (hV : VT t) (hS : VS t) {p : Pp} (hP : VP (tF t) p) {k : Int32} {a b : Nat} (ha : a < pN p) (hc : gC p k a = true) (h : rkN t p k a b = true) : rkN t p k b a = true ∧ b < pN p ∧ gC p k b = true := by
  have r := rk_iff.1 h
  exact ⟨rk_iff.2 (r.sy (fun i j hi hj => hgB_sym hV hS hP hi hj) ha hc), r.mem ha hc⟩
theorem rkN_tr {t : Tn} {p : Pp} {k : Int32} {a b c : Nat} (h : rkN t p k a b = true) (h2 : rkN t p k b c = true) : rkN t p k a c = true := rk_iff.2 ((rk_iff.1 h).tr (rk_iff.1 h2))
theorem fs_ex {t : Tn} (hV : VT t) (hS : VS t) {p : Pp} (hP : VP (tF t) p) {k : Int32} {l : Nat} : ∀ n j, j < n → j < pN p → gC p k j = true → rkN t p k j l = true → ∃ m, m ≤ j ∧ fs t p k m = true ∧ rkN t p k m l = true := by
  intro n
  induction n with
  | zero => intro j hj; omega
  | succ n ih =>
    intro j hj hjN hc hr
    by_cases c : fi (rkN t p k j) j = true
    · exact ⟨j, Nat.le_refl _, by unfold fs; rw [hc, c]; rfl, hr⟩
    · have ex : ∃ i, i < j ∧ rkN t p k j i = true := by
        refine Classical.byContradiction fun no => c ((fi_iff _ _).2 fun i hi => ?_)
        cases z : rkN t p k j i
        · rfl
        · exact absurd ⟨i, hi, z⟩ no
      obtain ⟨i, hi, z⟩ := ex
      obtain ⟨s1, s2, s3⟩ := rkN_sy hV hS hP hjN hc z
      obtain ⟨m, m1, m2, m3⟩ := ih i (by omega) s2 s3 (rkN_tr s1 hr)
      exact ⟨m, by omega, m2, m3⟩
theorem fs_ow {t : Tn} (hV : VT t) (hS : VS t) {p : Pp} (hP : VP (tF t) p) {k : Int32} {l : Nat} (hl : l < pN p) (hc : gC p k l = true) : fs t p k l = true ↔ ow t p k l l = none := by
  refine ⟨fun h => ?_, fun h => ?_⟩
  · cases e : ow t p k l l with
    | none => rfl
    | some m =>
      exfalso
      obtain ⟨m1, m2, m3⟩ := ow_some l e
      unfold fs at h m2
      rw [Bool.and_eq_true] at h m2
      have := (rkN_sy hV hS hP (by omega) m2.1 m3).1
      rw [(fi_iff _ _).1 h.2 m m1] at this
      cases this
  · unfold fs
    rw [hc, Bool.true_and]
    refine (fi_iff _ _).2 fun j hj => ?_
    cases z : rkN t p k l j
    · rfl
    · exfalso
      obtain ⟨s1, s2, s3⟩ := rkN_sy hV hS hP hl hc z
      obtain ⟨m, m1, m2, m3⟩ := fs_ex hV hS hP (j + 1) j (by omega) s2 s3 s1
      rw [ow_none l h m (by omega) m2] at m3
      cases m3
theorem fs_free {t : Tn} (hV : VT t) (hS : VS t) {p : Pp} (hP : VP (tF t) p) {k : Int32} {a : Nat} (ha : a < pN p) (hf : fs t p k a = true) : ∀ j, rkN t p k a j = true → ow t p k a j = none := by
  intro j hj
  cases e : ow t p k a j with
  | none => rfl
  | some m =>
    exfalso
    obtain ⟨m1, m2, m3⟩ := ow_some a e
    unfold fs at hf m2
    rw [Bool.and_eq_true] at hf m2
    have := rkN_tr hj (rkN_sy hV hS hP (by omega) m2.1 m3).1
    rw [(fi_iff _ _).1 hf.2 m m1] at this
    cases this
