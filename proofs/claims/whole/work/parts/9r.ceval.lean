/-! the class weighs its codes -/
theorem okc_1 {bar : Bool} {P : Nat} {c : Cd} (hP1 : 1 ≤ P) (h : okc bar P c) : (∀ (V : Nat → Int32) (s : List Int32), ∃ v, evR V c s = v :: s) ∧ sfe c 0 ∧ ∀ x ∈ c, opn bar P x := by
  obtain ⟨T, n, i, u, r, h1, h2⟩ := h
  have b := gS_B n 0 0 i u r (by omega) h1
  have g := gS_1 hP1 n 0 0 i u r h1
  rw [h2] at g
  exact ⟨g.2.1, g.2.2.1 0 (by have := b.2.2.1; omega), g.2.2.2⟩
theorem evR_congr {V W : Nat → Int32} : ∀ (c : Cd) (s : List Int32), (∀ x ∈ c, x.1 = 1 → V x.2 = W x.2) → evR V c s = evR W c s := by
  intro c
  induction c with
  | nil => intro s _; rfl
  | cons x c ih =>
    intro s h
    show stp V x (evR V c s) = stp W x (evR W c s)
    rw [ih s (fun y hy => h y (List.mem_cons_of_mem _ hy))]
    unfold stp
    by_cases c1 : x.1 = 1
    · rw [h x (List.mem_cons_self ..) c1]
    · rw [if_neg c1, if_neg c1]
theorem snoc : ∀ D : Cd, D = [] ∨ ∃ L b, D = L ++ [b] := by
  intro D
  induction D with
  | nil => exact Or.inl rfl
  | cons x D ih =>
    rcases ih with z | ⟨L, b, z⟩
    · exact Or.inr ⟨[], x, by rw [z]; rfl⟩
    · exact Or.inr ⟨x :: L, b, by rw [z]; rfl⟩
theorem sfe_split : ∀ (a b : Cd) (d : Nat), sfe (a ++ b) d → sfe b d := by
  intro a
  induction a with
  | nil => intro b d h; exact h
  | cons x a ih => intro b d h; exact ih b d h.1
def SK (a : Nat) : List Int32 → CH → Prop
  | [], _ => True
  | v :: s, h => h.1 a s.length = v ∧ SK a s h
theorem SK.fz {a : Nat} {S : Nat → Nat → Prop} {h h' : CH} (hF : Fr S h h') : ∀ {s : List Int32}, SK a s h → (∀ k, k < s.length → ¬ S a k) → SK a s h' := by
  intro s
  induction s with
  | nil => intro _ _; trivial
  | cons v s ih =>
    intro c hS
    exact ⟨by rw [hF.1 _ _ (hS _ (by rw [List.length_cons]; omega))]; exact c.1, ih c.2 (fun k hk => hS k (by rw [List.length_cons]; omega))⟩
theorem CKg_at {a : Nat} {h : CH} : ∀ (A : Cd) (x : Nat × Nat) (B : Cd), CKg a (A ++ x :: B) h → h.1 a B.length = nI x.1 ∧ h.1 (a + 1) B.length = nI x.2 := by
  intro A
  induction A with
  | nil => intro x B c; exact ⟨c.1, c.2.1⟩
  | cons y A ih => intro x B c; exact ih x B c.2.2
theorem CKg.fr {a : Nat} {S : Nat → Nat → Prop} {h h' : CH} (hF : Fr S h h') (h1 : ∀ k, ¬ S a k) (h2 : ∀ k, ¬ S (a + 1) k) : ∀ {C : Cd}, CKg a C h → CKg a C h' := by
  intro C
  induction C with
  | nil => intro _; trivial
  | cons x C ih => intro c; exact ⟨by rw [hF.1 _ _ (h1 _)]; exact c.1, by rw [hF.1 _ _ (h2 _)]; exact c.2.1, ih c.2.2⟩
theorem nI_m1 (k : Nat) : nI (k + 1) + -1 = nI k := by
  rw [show nI (k + 1) = nI k + nI 1 from (uI_add k 1).symm, Int32.add_assoc, show nI 1 + -1 = 0 from by decide, Int32.add_zero]
theorem c_joined {t : Nat} (h3 : 3 ≤ t) (h10 : t ≤ 10) (a b : Int32) (h : CH) : f_X5_joined (nI t) a b h = some (jnd t a b) := by
  unfold f_X5_joined jnd
  simp only [uI_inj (show t < 2147483648 by omega) (show 3 < 2147483648 by omega), uI_inj (show t < 2147483648 by omega) (show 4 < 2147483648 by omega), uI_inj (show t < 2147483648 by omega) (show 5 < 2147483648 by omega), uI_inj (show t < 2147483648 by omega) (show 6 < 2147483648 by omega), uI_inj (show t < 2147483648 by omega) (show 7 < 2147483648 by omega), uI_inj (show t < 2147483648 by omega) (show 8 < 2147483648 by omega), uI_inj (show t < 2147483648 by omega) (show 9 < 2147483648 by omega), jn_eq]
  repeat' split
  all_goals rfl
def xS62 (a _ : Nat) : Prop := a = 62
set_option maxHeartbeats 4000000 in
theorem c_resL {c C pre post : Cd} {f : Nat} {bar : Bool} {P : Nat} {V : Nat → Int32} (hC : C = post ++ (c ++ pre)) (hpre : pre.length = f) (hl : C.length < 800) (hP : P ≤ 8) (h1 : sfe c 0) (h2 : ∀ x ∈ c, opn bar P x) {v : Int32} (hv : evR V c [] = [v]) : ∀ k D C' g h, D.length = k → c = D ++ C' → k < g → CKg 59 C h → (∀ i, i < 12 → h.1 61 i = V i) → SK 62 (evR V C' []) h → ∃ h', f_X5_result_55_L9 (nI (f + c.length)) g (nI (evR V C' []).length) (nI (f + C'.length)) h = some (v, h') ∧ Fr xS62 h h' := by
  have hcl : f + c.length < 800 := by rw [hC, List.length_append, List.length_append] at hl; omega
  intro k
  induction k with
  | zero =>
    intro D C' g h hD hc hg _ _ sk
    obtain ⟨g, rfl⟩ : ∃ y, g = y + 1 := ⟨g - 1, by omega⟩
    have : D = [] := List.length_eq_zero_iff.1 hD
    subst this
    have hc : c = C' := hc
    subst hc
    rw [hv] at sk ⊢
    refine ⟨h, ?_, Fr.rf⟩
    unfold f_X5_result_55_L9
    rw [jn_eq, if_neg (by rw [uI_lt (by omega) (by omega)]; omega), show ([v] : List Int32).length = 1 from rfl, if_neg (by decide), uI_sub (by omega), rdA_nI (by omega) (by omega)]
    exact congrArg (fun z => some (z, h)) sk.1
  | succ k ih =>
    intro D C' g h hD hc hg ck hval sk
    obtain ⟨g, rfl⟩ : ∃ y, g = y + 1 := ⟨g - 1, by omega⟩
    rcases snoc D with z | ⟨D', x, z⟩
    · rw [z] at hD; cases hD
    subst z
    have hD' : D'.length = k := by rw [List.length_append] at hD; have : ([x] : Cd).length = 1 := rfl; omega
    have hc2 : c = D' ++ (x :: C') := by rw [hc, List.append_assoc]; rfl
    have hlen : c.length = D'.length + 1 + C'.length := by rw [hc2, List.length_append, List.length_cons]; omega
    have hs := (sfe_split D' (x :: C') 0 (by rw [← hc2]; exact h1)).2 V [] rfl
    have ho := h2 x (by rw [hc2]; exact List.mem_append_right _ (List.mem_cons_self ..))
    have at1 : h.1 59 (f + C'.length) = nI x.1 ∧ h.1 60 (f + C'.length) = nI x.2 := by
      have e : C = (post ++ D') ++ x :: (C' ++ pre) := by rw [hC, hc2]; simp [List.append_assoc]
      have := CKg_at (post ++ D') x (C' ++ pre) (e ▸ ck)
      rw [List.length_append, hpre, Nat.add_comm] at this
      exact this
    have ev : evR V (x :: C') [] = stp V x (evR V C' []) := rfl
    have fin : ∀ h3 n, n = (evR V (x :: C') []).length → SK 62 (evR V (x :: C') []) h3 → Fr xS62 h h3 → ∃ h', f_X5_result_55_L9 (nI (f + c.length)) g (nI n) (nI (f + C'.length + 1)) h3 = some (v, h') ∧ Fr xS62 h h' := by
      intro h3 n hn sk3 f3
      subst hn
      obtain ⟨h', g1, g2⟩ := ih D' (x :: C') g h3 hD' hc2 (by omega) (ck.fr f3 (fun k => by unfold xS62; omega) (fun k => by unfold xS62; omega)) (fun i hi => by rw [f3.1 _ _ (by unfold xS62; omega)]; exact hval i hi) sk3
      exact ⟨h', g1, f3.tr g2⟩
    generalize hS : evR V C' [] = s at *
    unfold f_X5_result_55_L9
    rw [jn_eq, if_pos (by rw [uI_lt (by omega) (by omega)]; omega), if_pos (by rw [uI_lt (by omega) (by omega)]; omega), rdA_nI (by omega) (by omega), at1.1, jn_eq, jn_eq, uI_add]
    by_cases c0 : x.1 = 0
    · have s40 := hs.1 (by omega)
      rw [if_pos (show nI x.1 = 0 from by rw [c0]; rfl), if_pos (by rw [uI_lt (by omega) (by omega)]; exact s40), jn_eq, if_pos (show nI x.1 = 0 from by rw [c0]; rfl), rdA_nI (by omega) (by omega), at1.2]
      dsimp only
      rw [wrA_nI (by omega) (by omega), uI_add]
      have g3 : Fr (fun a k => a = 62 ∧ k = s.length) h (sI h 62 s.length (nI x.2)) := Fr.sI ⟨rfl, rfl⟩
      have es : evR V (x :: C') [] = nI x.2 :: s := by rw [ev]; unfold stp; rw [if_pos c0]
      exact fin _ _ (by rw [es]; rfl) (by rw [es]; exact ⟨sI_at, sk.fz g3 (fun k hk => by omega)⟩) (g3.mono (fun a k q => q.1))
    by_cases c1 : x.1 = 1
    · have s40 := hs.1 (by omega)
      have x12 : x.2 < 12 := by have := (ho.2 c1).2; omega
      have ev1 : f_X5_valueAt_55 (nI x.2) h = some (V x.2) := by
        unfold f_X5_valueAt_55
        rw [if_neg (lt0n (by omega)), if_pos (by rw [uI_lt (by omega) (by omega)]; exact x12), rdA_nI (by omega) (by omega), hval _ x12]
      rw [if_neg (show ¬ nI x.1 = 0 from by rw [c1]; decide), if_pos (show nI x.1 = nI 1 from by rw [c1]), if_pos (by rw [uI_lt (by omega) (by omega)]; exact s40), jn_eq, if_neg (show ¬ nI x.1 = 0 from by rw [c1]; decide), rdA_nI (by omega) (by omega), at1.2, ev1, clp_some]
      dsimp only
      rw [wrA_nI (by omega) (by omega), uI_add]
      have g3 : Fr (fun a k => a = 62 ∧ k = s.length) h (sI h 62 s.length (V x.2)) := Fr.sI ⟨rfl, rfl⟩
      have es : evR V (x :: C') [] = V x.2 :: s := by rw [ev]; unfold stp; rw [if_neg c0, if_pos c1]
      exact fin _ _ (by rw [es]; rfl) (by rw [es]; exact ⟨sI_at, sk.fz g3 (fun k hk => by omega)⟩) (g3.mono (fun a k q => q.1))
    have x10 := ho.1
    rw [if_neg (show ¬ nI x.1 = 0 from by rw [uI_eq0 (by omega)]; exact c0), if_neg (show ¬ nI x.1 = nI 1 from by rw [uI_inj (by omega) (by omega)]; exact c1)]
    by_cases c2 : x.1 = 2
    · have s1 := hs.2.1 c2
      rw [if_pos (show nI x.1 = nI 2 from by rw [c2])]
      cases s with
      | nil => exact absurd s1 (by decide)
      | cons a s =>
        have s40 : s.length + 1 ≤ 40 := hs.2.2.2
        rw [show (a :: s).length = s.length + 1 from rfl, if_neg (by rw [uI_lt (by omega) (by omega)]; omega), uI_sub (by omega), show s.length + 1 - 1 = s.length by omega, rdA_nI (by omega) (by omega), sk.1, jn_eq]
        have es : evR V (x :: C') [] = (if a = 0 then nI 1 else nI 0) :: s := by rw [ev]; unfold stp; rw [if_neg c0, if_neg c1, if_pos c2]
        have g3 : ∀ w, Fr (fun a k => a = 62 ∧ k = s.length) h (sI h 62 s.length w) := fun w => Fr.sI ⟨rfl, rfl⟩
        by_cases ca : a = 0
        · rw [if_pos ca]
          dsimp only
          rw [wrA_nI (by omega) (by omega)]
          rw [if_pos ca] at es
          exact fin _ _ (by rw [es]; rfl) (by rw [es]; exact ⟨sI_at, sk.2.fz (g3 _) (fun k hk => by omega)⟩) ((g3 _).mono (fun a k q => q.1))
        · rw [if_neg ca]
          dsimp only
          rw [wrA_nI (by omega) (by omega)]
          rw [if_neg ca] at es
          exact fin _ _ (by rw [es]; rfl) (by rw [es]; exact ⟨sI_at, sk.2.fz (g3 _) (fun k hk => by omega)⟩) ((g3 _).mono (fun a k q => q.1))
    · rw [if_neg (show ¬ nI x.1 = nI 2 from by rw [uI_inj (by omega) (by omega)]; exact c2)]
      have s2 := hs.2.2.1 (by omega)
      have s40 := hs.2.2.2
      cases s with
      | nil => exact absurd s2 (by decide)
      | cons b s =>
        cases s with
        | nil => exact absurd (show 2 ≤ 1 from s2) (by decide)
        | cons a s =>
          have s40 : s.length + 1 + 1 ≤ 40 := s40
          have b62 : h.1 62 (s.length + 1) = b := sk.1
          have a62 : h.1 62 s.length = a := sk.2.1
          rw [show (b :: a :: s).length = s.length + 1 + 1 from rfl, if_neg (by rw [uI_lt (by omega) (by omega)]; omega), nI_m1, uI_sub (by omega), show s.length + 1 - 1 = s.length by omega, rdA_nI (by omega) (by omega), a62, rdA_nI (by omega) (by omega), b62, c_joined (by omega) x10, clp_some, wrA_nI (by omega) (by omega)]
          have g3 : Fr (fun a k => a = 62 ∧ k = s.length) h (sI h 62 s.length (jnd x.1 a b)) := Fr.sI ⟨rfl, rfl⟩
          have es : evR V (x :: C') [] = jnd x.1 a b :: s := by rw [ev]; unfold stp; rw [if_neg c0, if_neg c1, if_neg c2]
          exact fin _ _ (by rw [es]; rfl) (by rw [es]; exact ⟨sI_at, sk.2.2.fz g3 (fun k hk => by omega)⟩) (g3.mono (fun a k q => q.1))
def tpv : List Int32 → Int32
  | [] => nI 0
  | v :: _ => v
theorem mx0 (f : Nat) (hf : f < 2147483648) : mx (nI 0) (nI f) = nI f := by
  unfold mx
  by_cases c : nI 0 < nI f
  · rw [if_pos c]
  · rw [uI_lt (by omega) hf] at c
    rw [if_neg (by rw [uI_lt (by omega) hf]; exact c), show f = 0 by omega]
theorem c_res {C c : Cd} {f : Nat} {bar : Bool} {P : Nat} {h : CH} (hC : sgm C f c) (hl : C.length < 800) (hP1 : 1 ≤ P) (hP : P ≤ 8) (ho : okc bar P c) (ck : CKg 59 C h) : PO SR h (f_X5_result_55 (nI f) (nI (f + c.length)) h) (tpv (evR (h.1 61) c [])) := by
  obtain ⟨post, pre, h1, h2⟩ := hC
  obtain ⟨o1, o2, o3⟩ := okc_1 hP1 ho
  obtain ⟨v, hv⟩ := o1 (h.1 61) []
  have hcl : f + c.length < 800 := by rw [h1, List.length_append, List.length_append] at hl; omega
  obtain ⟨h', g1, g2⟩ := c_resL h1 h2 hl hP o2 o3 hv c.length c [] FU h rfl (by rw [List.append_nil]) (by show c.length < 100000; omega) ck (fun _ _ => rfl) trivial
  refine ⟨h', ?_, g2.mono (fun a k q => Or.inr q)⟩
  unfold f_X5_result_55
  rw [mx0 _ (by omega), hv]
  exact g1
