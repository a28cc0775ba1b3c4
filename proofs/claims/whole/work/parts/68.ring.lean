/-! rings: what hangs together -/
def Rc (N : Nat) (C : Nat → Bool) (H : Nat → Nat → Bool) (a b : Nat) : Prop := ∀ S : Nat → Prop, S a → (∀ i j, S i → i < N → j < N → C j = true → H i j = true → S j) → S b
theorem Rc.rf {N : Nat} {C : Nat → Bool} {H : Nat → Nat → Bool} (a : Nat) : Rc N C H a a := fun _ h _ => h
theorem Rc.st {N : Nat} {C : Nat → Bool} {H : Nat → Nat → Bool} {a i j : Nat} (r : Rc N C H a i) (hi : i < N) (hj : j < N) (hc : C j = true) (hh : H i j = true) : Rc N C H a j := fun S h1 h2 => h2 i j (r S h1 h2) hi hj hc hh
theorem Rc.tr {N : Nat} {C : Nat → Bool} {H : Nat → Nat → Bool} {a b c : Nat} (r : Rc N C H a b) (q : Rc N C H b c) : Rc N C H a c := fun S h1 h2 => q S (r S h1 h2) h2
theorem Rc.mem {N : Nat} {C : Nat → Bool} {H : Nat → Nat → Bool} {a b : Nat} (r : Rc N C H a b) (ha : a < N) (hc : C a = true) : b < N ∧ C b = true := r (fun i => i < N ∧ C i = true) ⟨ha, hc⟩ (fun _ _ _ _ hj hc _ => ⟨hj, hc⟩)
theorem Rc.sy {N : Nat} {C : Nat → Bool} {H : Nat → Nat → Bool} (sym : ∀ i j, i < N → j < N → H i j = H j i) {a b : Nat} (r : Rc N C H a b) (ha : a < N) (hc : C a = true) : Rc N C H b a := by
  refine (r (fun i => Rc N C H i a ∧ i < N ∧ C i = true) ⟨Rc.rf a, ha, hc⟩ (fun i j hi h1 h2 h3 h4 => ⟨?_, h2, h3⟩)).1
  exact ((Rc.rf j).st h2 h1 hi.2.2 (by rw [sym j i h2 h1]; exact h4)).tr hi.1
noncomputable def rk (N : Nat) (C : Nat → Bool) (H : Nat → Nat → Bool) (a b : Nat) : Bool := @decide (Rc N C H a b) (Classical.propDecidable _)
theorem rk_iff {N : Nat} {C : Nat → Bool} {H : Nat → Nat → Bool} {a b : Nat} : rk N C H a b = true ↔ Rc N C H a b := by
  unfold rk
  exact @decide_eq_true_iff _ (Classical.propDecidable _)
def cz (f : Nat → Bool) : Nat → Nat
  | 0 => 0
  | n + 1 => cz f n + bN (f n)
theorem cz_le (f : Nat → Bool) : ∀ n, cz f n ≤ n := by
  intro n
  induction n with
  | zero => exact Nat.le_refl _
  | succ n ih => unfold cz bN; split <;> omega
/-- one more -/
def ad1 (f : Nat → Bool) (j : Nat) : Nat → Bool := fun i => decide (i = j) || f i
theorem cz_lo (f : Nat → Bool) (j : Nat) : ∀ n, n ≤ j → cz (ad1 f j) n = cz f n := by
  intro n
  induction n with
  | zero => intro _; rfl
  | succ n ih =>
    intro hn
    unfold cz
    rw [ih (by omega)]
    have : ad1 f j n = f n := by unfold ad1; simp [show ¬ n = j by omega]
    rw [this]
theorem cz_ad {f : Nat → Bool} {j : Nat} (h : f j = false) : ∀ n, j < n → cz (ad1 f j) n = cz f n + 1 := by
  intro n
  induction n with
  | zero => intro h; omega
  | succ n ih =>
    intro hn
    unfold cz
    by_cases e : n = j
    · subst e
      rw [cz_lo _ _ _ (Nat.le_refl _), h]
      have : ad1 f n n = true := by unfold ad1; simp
      rw [this]; rfl
    · rw [ih (by omega)]
      have : ad1 f j n = f n := by unfold ad1; simp [e]
      rw [this]; omega
theorem cz_cg {f g : Nat → Bool} : ∀ n, (∀ i, i < n → f i = g i) → cz f n = cz g n := by
  intro n
  induction n with
  | zero => intro _; rfl
  | succ n ih => intro h; unfold cz; rw [ih (fun i hi => h i (by omega)), h n (by omega)]
theorem cz_1 (a : Nat) : ∀ n, a < n → cz (fun i => decide (i = a)) n = 1 := by
  intro n h
  have e : cz (ad1 (fun _ => false) a) n = cz (fun i => decide (i = a)) n := cz_cg n (fun i _ => by unfold ad1; simp)
  rw [← e, cz_ad rfl n h]
  have : ∀ n, cz (fun _ => false) n = 0 := by
    intro n; induction n with
    | zero => rfl
    | succ n ih => unfold cz; rw [ih]; rfl
  rw [this]
/-- the papers' graph at k -/
def gC (p : Pp) (k : Int32) (i : Nat) : Bool := cnt p (nI i) k
def RI (t : Tn) (p : Pp) (k : Int32) (h0 : CH) (a : Nat) (f : Nat → Bool) (h : CH) : Prop := (∀ i, i < 40 → h.1 184 i = bI (f i)) ∧ Fr (fun c _ => c = 184) h0 h ∧ (∀ i, f i = true → Rc (pN p) (gC p k) (hgB t p) a i) ∧ f a = true
theorem vz_1 : vp_nar .boolean (nI 1) = nI 1 := by decide
theorem vz_0 : vp_nar .boolean (nI 0) = nI 0 := by decide
theorem m_ring58 {bk : Nat} {t : Tn} (hV : VT t) (hS : VS t) {p : Pp} (hP : VP (tF t) p) {k : Int32} {h0 : CH} (hM : MT bk t h0) (hC : MP p h0) {a : Nat} (ha : a < pN p) (hca : gC p k a = true) {j : Nat} (hj : j < pN p) (K : Int32 → Int32 → CH → Option (Int32 × CH)) : ∀ n l, l ≤ pN p → pN p < n + l → ∀ f h (x4 : Int32), RI t p k h0 a f h → ∃ f' h' x4', f_X12_layRing_L58 k (nI j) K n (nI (cz f (pN p))) x4 (nI l) h = K (nI (cz f' (pN p))) x4' h' ∧ RI t p k h0 a f' h' ∧ ((f' = f ∧ x4' = x4 ∧ (f j = false → gC p k j = true → ∀ i, l ≤ i → i < pN p → f i = true → hgB t p j i = false)) ∨ (x4' = nI 1 ∧ cz f (pN p) < cz f' (pN p))) := by
  have hN := hP.1
  refine loop_up (fun n l => ∀ f h (x4 : Int32), RI t p k h0 a f h → ∃ f' h' x4', f_X12_layRing_L58 k (nI j) K n (nI (cz f (pN p))) x4 (nI l) h = K (nI (cz f' (pN p))) x4' h' ∧ RI t p k h0 a f' h' ∧ ((f' = f ∧ x4' = x4 ∧ (f j = false → gC p k j = true → ∀ i, l ≤ i → i < pN p → f i = true → hgB t p j i = false)) ∨ (x4' = nI 1 ∧ cz f (pN p) < cz f' (pN p)))) (pN p) ?_ ?_
  · intro n l hl ih f h x4 hI
    obtain ⟨i1, i2, i3, i4⟩ := hI
    have hM' : MT bk t h := hM.fr i2 (fun a k h1 h2 h3 => by omega) (by omega)
    have hC' : MP p h := hC.fr i2 (fun a k h1 h2 h3 => by omega) (by omega) (by omega)
    unfold f_X12_layRing_L58
    rw [hC'.1, if_pos (by rw [uI_lt (by omega) (by omega)]; exact hl), rdA_nI (by omega) (by omega), i1 j (by omega), ifB]
    cases hfj : f j
    · simp only [Bool.false_eq_true, if_false]
      rw [m_counts _ _ hC' hP, clp_some, ifB]
      cases hcj : cnt p (nI j) k
      · exact ⟨f, h, x4, rfl, ⟨i1, i2, i3, i4⟩, Or.inl ⟨rfl, rfl, fun _ q => absurd (show cnt p (nI j) k = true from q) (by rw [hcj]; simp)⟩⟩
      simp only [if_true]
      rw [rdA_nI (by omega) (by omega), i1 l (by omega), jn_eq, ifB]
      cases hfl : f l
      · simp only [Bool.false_eq_true, if_false]
        rw [uI_add]
        obtain ⟨f', h', x4', e1, e2, e3⟩ := ih f h x4 ⟨i1, i2, i3, i4⟩
        refine ⟨f', h', x4', e1, e2, ?_⟩
        rcases e3 with ⟨z1, z2, z3⟩ | z
        · refine Or.inl ⟨z1, z2, fun q1 q2 i q3 q4 q5 => ?_⟩
          by_cases e : i = l
          · rw [e, hfl] at q5; cases q5
          · exact z3 hfj q2 i (by omega) q4 q5
        · exact Or.inr z
      · simp only [if_true]
        rw [m_hangs hV hP hM' hC' hj hl, clp_some, ifB]
        cases hh : hgB t p j l
        · simp only [Bool.false_eq_true, if_false]
          rw [uI_add]
          obtain ⟨f', h', x4', e1, e2, e3⟩ := ih f h x4 ⟨i1, i2, i3, i4⟩
          refine ⟨f', h', x4', e1, e2, ?_⟩
          rcases e3 with ⟨z1, z2, z3⟩ | z
          · refine Or.inl ⟨z1, z2, fun q1 q2 i q3 q4 q5 => ?_⟩
            by_cases e : i = l
            · rw [e]; exact hh
            · exact z3 hfj q2 i (by omega) q4 q5
          · exact Or.inr z
        · simp only [if_true]
          rw [wrZ_nI (by omega) (by omega), vz_1, uI_add, uI_add, ← cz_ad hfj _ hj]
          have nI' : RI t p k h0 a (ad1 f j) (sI h 184 j (nI 1)) := by
            refine ⟨fun i hi => ?_, i2.tr (Fr.sI rfl), fun i hi => ?_, ?_⟩
            · rw [sI_1]
              unfold ad1
              by_cases e : i = j
              · rw [if_pos ⟨rfl, e⟩]; simp [e, bI]
              · rw [if_neg (fun q => e q.2), i1 i hi]; simp [e]
            · unfold ad1 at hi
              by_cases e : i = j
              · rw [e]
                exact (i3 l hfl).st hl hj hcj (by rw [hgB_sym hV hS hP hl hj]; exact hh)
              · exact i3 i (by simpa [e] using hi)
            · unfold ad1; rw [i4]; simp
          obtain ⟨f', h', x4', e1, e2, e3⟩ := ih (ad1 f j) _ (nI 1) nI'
          have grow := cz_ad hfj _ hj
          refine ⟨f', h', x4', e1, e2, Or.inr ?_⟩
          rcases e3 with ⟨z1, z2, z3⟩ | ⟨z1, z2⟩
          · refine ⟨z2, ?_⟩; rw [z1]; omega
          · exact ⟨z1, by omega⟩
    · simp only [if_true]
      exact ⟨f, h, x4, rfl, ⟨i1, i2, i3, i4⟩, Or.inl ⟨rfl, rfl, fun q => absurd q (by simp)⟩⟩
  · intro n f h x4 hI
    have hI0 := hI
    obtain ⟨i1, i2, i3, i4⟩ := hI
    have hC' : MP p h := hC.fr i2 (fun a k h1 h2 h3 => by omega) (by omega) (by omega)
    unfold f_X12_layRing_L58
    rw [hC'.1, if_neg (by rw [uI_lt (by omega) (by omega)]; omega)]
    exact ⟨f, h, x4, rfl, hI0, Or.inl ⟨rfl, rfl, fun _ _ i q1 q2 => by omega⟩⟩
