/-! the model weighs its codes -/
theorem CMk_at {b : Nat} {h : CH} : ∀ (A : Cd) (x : Nat × Nat) (B : Cd), CMk b (A ++ x :: B) h → h.1 168 (b + B.length) = nI x.1 ∧ h.1 169 (b + B.length) = nI x.2 := by
  intro A
  induction A with
  | nil => intro x B c; exact ⟨c.1, c.2.1⟩
  | cons y A ih => intro x B c; exact ih x B c.2.2
theorem CMk.fr {b : Nat} {S : Nat → Nat → Prop} {h h' : CH} (hF : Fr S h h') (h1 : ∀ k, ¬ S 168 k) (h2 : ∀ k, ¬ S 169 k) {C : Cd} (c : CMk b C h) : CMk b C h' := c.fz (Fz.fr (L := fun _ _ => False) hF) (fun k _ _ => ⟨h1 k, h2 k⟩)
theorem m_two {bar : Bool} {x : Nat × Nat} (h3 : 3 ≤ x.1) (h10 : x.1 ≤ 10) (a b : Int32) (h : CH) : f_X12_two (nI (enS bar x).1) a b h = some (jnd x.1 a b) ∧ f_X12_isLetter (nI (enS bar x).1) h = some (nI 0) ∧ (nI (enS bar x).1 = nI 126) = False := by
  have hx : x.1 = 3 ∨ x.1 = 4 ∨ x.1 = 5 ∨ x.1 = 6 ∨ x.1 = 7 ∨ x.1 = 8 ∨ x.1 = 9 ∨ x.1 = 10 := by omega
  rcases hx with e | e | e | e | e | e | e | e
  · have e1 : (enS bar x).1 = 42 := by unfold enS; rw [e]; rfl
    rw [e1, e]
    refine ⟨?_, by rw [m_isLetter (by omega)]; rfl, by rw [uI_inj (by omega) (by omega)]; exact eq_false (by omega)⟩
    unfold f_X12_two jnd
    rw [if_neg (show ¬ nI 42 = nI 38 by decide), if_pos rfl, if_pos rfl]
  · have e1 : (enS bar x).1 = 43 := by unfold enS; rw [e]; rfl
    rw [e1, e]
    refine ⟨?_, by rw [m_isLetter (by omega)]; rfl, by rw [uI_inj (by omega) (by omega)]; exact eq_false (by omega)⟩
    unfold f_X12_two jnd
    rw [if_neg (show ¬ nI 43 = nI 38 by decide), if_neg (show ¬ nI 43 = nI 42 by decide), if_pos rfl, if_neg (show ¬ 4 = 3 by decide), if_pos rfl]
  · have e1 : (enS bar x).1 = 45 := by unfold enS; rw [e]; rfl
    rw [e1, e]
    refine ⟨?_, by rw [m_isLetter (by omega)]; rfl, by rw [uI_inj (by omega) (by omega)]; exact eq_false (by omega)⟩
    unfold f_X12_two jnd
    rw [if_neg (show ¬ nI 45 = nI 38 by decide), if_neg (show ¬ nI 45 = nI 42 by decide), if_neg (show ¬ nI 45 = nI 43 by decide), if_pos rfl, if_neg (show ¬ 5 = 3 by decide), if_neg (show ¬ 5 = 4 by decide), if_pos rfl]
  · have e1 : (enS bar x).1 = 60 := by unfold enS; rw [e]; rfl
    rw [e1, e]
    refine ⟨?_, by rw [m_isLetter (by omega)]; rfl, by rw [uI_inj (by omega) (by omega)]; exact eq_false (by omega)⟩
    unfold f_X12_two jnd
    rw [if_neg (show ¬ nI 60 = nI 38 by decide), if_neg (show ¬ nI 60 = nI 42 by decide), if_neg (show ¬ nI 60 = nI 43 by decide), if_neg (show ¬ nI 60 = nI 45 by decide), if_pos rfl, if_neg (show ¬ 6 = 3 by decide), if_neg (show ¬ 6 = 4 by decide), if_neg (show ¬ 6 = 5 by decide), if_pos rfl]
    repeat' split
    all_goals rfl
  · have e1 : (enS bar x).1 = 62 := by unfold enS; rw [e]; rfl
    rw [e1, e]
    refine ⟨?_, by rw [m_isLetter (by omega)]; rfl, by rw [uI_inj (by omega) (by omega)]; exact eq_false (by omega)⟩
    unfold f_X12_two jnd
    rw [if_neg (show ¬ nI 62 = nI 38 by decide), if_neg (show ¬ nI 62 = nI 42 by decide), if_neg (show ¬ nI 62 = nI 43 by decide), if_neg (show ¬ nI 62 = nI 45 by decide), if_neg (show ¬ nI 62 = nI 60 by decide), if_neg (show ¬ nI 62 = nI 61 by decide), if_pos rfl, if_neg (show ¬ 7 = 3 by decide), if_neg (show ¬ 7 = 4 by decide), if_neg (show ¬ 7 = 5 by decide), if_neg (show ¬ 7 = 6 by decide), if_pos rfl]
    repeat' split
    all_goals rfl
  · have e1 : (enS bar x).1 = 61 := by unfold enS; rw [e]; rfl
    rw [e1, e]
    refine ⟨?_, by rw [m_isLetter (by omega)]; rfl, by rw [uI_inj (by omega) (by omega)]; exact eq_false (by omega)⟩
    unfold f_X12_two jnd
    rw [if_neg (show ¬ nI 61 = nI 38 by decide), if_neg (show ¬ nI 61 = nI 42 by decide), if_neg (show ¬ nI 61 = nI 43 by decide), if_neg (show ¬ nI 61 = nI 45 by decide), if_neg (show ¬ nI 61 = nI 60 by decide), if_pos rfl, if_neg (show ¬ 8 = 3 by decide), if_neg (show ¬ 8 = 4 by decide), if_neg (show ¬ 8 = 5 by decide), if_neg (show ¬ 8 = 6 by decide), if_neg (show ¬ 8 = 7 by decide), if_pos rfl]
    repeat' split
    all_goals rfl
  · have e1 : (enS bar x).1 = 38 := by unfold enS; rw [e]; rfl
    rw [e1, e]
    refine ⟨?_, by rw [m_isLetter (by omega)]; rfl, by rw [uI_inj (by omega) (by omega)]; exact eq_false (by omega)⟩
    unfold f_X12_two jnd
    rw [if_pos rfl, if_neg (show ¬ 9 = 3 by decide), if_neg (show ¬ 9 = 4 by decide), if_neg (show ¬ 9 = 5 by decide), if_neg (show ¬ 9 = 6 by decide), if_neg (show ¬ 9 = 7 by decide), if_neg (show ¬ 9 = 8 by decide), if_pos rfl]
    repeat' split
    all_goals rfl
  · have e1 : (enS bar x).1 = 124 := by unfold enS; rw [e]; rfl
    rw [e1, e]
    refine ⟨?_, by rw [m_isLetter (by omega)]; rfl, by rw [uI_inj (by omega) (by omega)]; exact eq_false (by omega)⟩
    unfold f_X12_two jnd
    rw [if_neg (show ¬ nI 124 = nI 38 by decide), if_neg (show ¬ nI 124 = nI 42 by decide), if_neg (show ¬ nI 124 = nI 43 by decide), if_neg (show ¬ nI 124 = nI 45 by decide), if_neg (show ¬ nI 124 = nI 60 by decide), if_neg (show ¬ nI 124 = nI 61 by decide), if_neg (show ¬ nI 124 = nI 62 by decide), if_neg (show ¬ 10 = 3 by decide), if_neg (show ¬ 10 = 4 by decide), if_neg (show ¬ 10 = 5 by decide), if_neg (show ¬ 10 = 6 by decide), if_neg (show ¬ 10 = 7 by decide), if_neg (show ¬ 10 = 8 by decide), if_neg (show ¬ 10 = 9 by decide), jn_eq]
    repeat' split
    all_goals rfl
theorem n126 : (nI 126 = nI 126) = True := eq_true rfl
def x172 (a _ : Nat) : Prop := a = 172
/-- what a value's letter is worth -/
def wth (bar : Bool) (P : Nat) (V : Nat → Int32) (h : CH) : Prop := ∀ x : Nat × Nat, opn bar P x → x.1 = 1 → ∀ g, Fr x172 h g → f_X12_worth (nI (enS bar x).1) (nI (enS bar x).2) g = some (V x.2)
theorem enS_1 {bar : Bool} {x : Nat × Nat} (c : x.1 ≤ 1) : 97 ≤ (enS bar x).1 ∧ (enS bar x).1 ≤ 122 := by
  unfold enS
  by_cases c0 : x.1 = 0
  · rw [if_pos c0]; exact ⟨by show 97 ≤ 110; omega, by show 110 ≤ 122; omega⟩
  · rw [if_neg c0, if_pos (show x.1 = 1 by omega)]
    repeat' split
    all_goals exact ⟨by dsimp only; omega, by dsimp only; omega⟩
set_option maxHeartbeats 4000000 in
theorem m_holL {r : Nat} (hr : r < 14) {M c pre post : Cd} {f : Nat} {bar : Bool} {P : Nat} {V : Nat → Int32} (hM : M = post ++ (enc bar c ++ pre)) (hpre : pre.length = f) (hl : M.length ≤ 400) (h1 : sfe c 0) (h2 : ∀ x ∈ c, opn bar P x) {v : Int32} (hv : evR V c [] = [v]) {h0 : CH} (hw : wth bar P V h0) : ∀ k D C' g h, D.length = k → c = D ++ C' → k < g → Fr x172 h0 h → CMk 0 M h → h.1 174 r = nI (f + c.length) → SK 172 (evR V C' []) h → ∃ h', f_X12_holds_L9 (nI r) g (nI (evR V C' []).length) (nI (f + C'.length)) h = some (bI (decide (¬ v = 0)), h') ∧ Fr x172 h h' := by
  have hcl : f + c.length ≤ 400 := by rw [hM, List.length_append, List.length_append, enc_len] at hl; omega
  intro k
  induction k with
  | zero =>
    intro D C' g h hD hc hg f0 _ h174 sk
    obtain ⟨g, rfl⟩ : ∃ y, g = y + 1 := ⟨g - 1, by omega⟩
    have : D = [] := List.length_eq_zero_iff.1 hD
    subst this
    have hc : c = C' := hc
    subst hc
    rw [hv] at sk ⊢
    refine ⟨h, ?_, Fr.rf⟩
    unfold f_X12_holds_L9
    rw [rdA_nI (by omega) (by omega), h174, if_neg (by rw [uI_lt (by omega) (by omega)]; omega), rdA_nI (by omega) (by omega), show h.1 172 0 = v from sk.1]
    by_cases c0 : v = 0
    · rw [if_pos c0, decide_eq_false (fun z => z c0)]; rfl
    · rw [if_neg c0, decide_eq_true (p := ¬ v = 0) c0]; rfl
  | succ k ih =>
    intro D C' g h hD hc hg f0 ck h174 sk
    obtain ⟨g, rfl⟩ : ∃ y, g = y + 1 := ⟨g - 1, by omega⟩
    rcases snoc D with z | ⟨D', x, z⟩
    · rw [z] at hD; cases hD
    subst z
    have hD' : D'.length = k := by rw [List.length_append] at hD; have : ([x] : Cd).length = 1 := rfl; omega
    have hc2 : c = D' ++ (x :: C') := by rw [hc, List.append_assoc]; rfl
    have hlen : c.length = D'.length + 1 + C'.length := by rw [hc2, List.length_append, List.length_cons]; omega
    have hs := (sfe_split D' (x :: C') 0 (by rw [← hc2]; exact h1)).2 V [] rfl
    have ho := h2 x (by rw [hc2]; exact List.mem_append_right _ (List.mem_cons_self ..))
    have at1 : h.1 168 (f + C'.length) = nI (enS bar x).1 ∧ h.1 169 (f + C'.length) = nI (enS bar x).2 := by
      have e : M = (post ++ enc bar D') ++ enS bar x :: (enc bar C' ++ pre) := by rw [hM, hc2, enc_app, enc_cons]; simp [List.append_assoc]
      have := CMk_at (post ++ enc bar D') (enS bar x) (enc bar C' ++ pre) (e ▸ ck)
      rw [List.length_append, enc_len, hpre, Nat.zero_add, Nat.add_comm] at this
      exact this
    have ev : evR V (x :: C') [] = stp V x (evR V C' []) := rfl
    have fin : ∀ h3 n, n = (evR V (x :: C') []).length → SK 172 (evR V (x :: C') []) h3 → Fr x172 h h3 → ∃ h', f_X12_holds_L9 (nI r) g (nI n) (nI (f + C'.length + 1)) h3 = some (bI (decide (¬ v = 0)), h') ∧ Fr x172 h h' := by
      intro h3 n hn sk3 f3
      subst hn
      obtain ⟨h', g1, g2⟩ := ih D' (x :: C') g h3 hD' hc2 (by omega) (f0.tr f3) (ck.fr f3 (fun k => by unfold x172; omega) (fun k => by unfold x172; omega)) (by rw [f3.1 _ _ (by unfold x172; omega)]; exact h174) sk3
      exact ⟨h', g1, f3.tr g2⟩
    have x10 := ho.1
    have s40 := hs.2.2.2
    generalize hS : evR V C' [] = s at *
    unfold f_X12_holds_L9
    rw [rdA_nI (by omega) (by omega), h174, if_pos (by rw [uI_lt (by omega) (by omega)]; omega), rdA_nI (by omega) (by omega), at1.1, jn_eq, uI_add]
    by_cases c01 : x.1 ≤ 1
    · have sl := hs.1 c01
      have en := enS_1 (bar := bar) c01
      have ew : ∃ w, f_X12_worth (nI (enS bar x).1) (nI (enS bar x).2) h = some w ∧ evR V (x :: C') [] = w :: s := by
        by_cases c0 : x.1 = 0
        · have e1 : (enS bar x).1 = 110 := by unfold enS; rw [if_pos c0]
          have e2 : (enS bar x).2 = x.2 := by unfold enS; rw [if_pos c0]
          refine ⟨nI x.2, ?_, by rw [ev]; unfold stp; rw [if_pos c0]⟩
          rw [e1, e2]
          unfold f_X12_worth
          rw [if_neg (by decide), if_neg (by decide), if_neg (by decide), if_neg (by decide), if_neg (by decide), if_pos rfl]
        · exact ⟨V x.2, hw x ho (by omega) h f0, by rw [ev]; unfold stp; rw [if_neg c0, if_pos (by omega)]⟩
      obtain ⟨w, w1, w2⟩ := ew
      rw [if_neg (show ¬ nI (enS bar x).1 = nI 126 from by rw [uI_inj (by omega) (by omega)]; omega), m_isLetter (by omega), clp_some, ifB, if_pos (show isL (enS bar x).1 = true from decide_eq_true ⟨en.1, en.2⟩), rdA_nI (by omega) (by omega), at1.2, w1, clp_some, wrA_nI (by omega) (by omega), uI_add]
      have g3 : Fr (fun a k => a = 172 ∧ k = s.length) h (sI h 172 s.length w) := Fr.sI ⟨rfl, rfl⟩
      exact fin _ _ (by rw [w2]; rfl) (by rw [w2]; exact ⟨sI_at, sk.fz g3 (fun k hk => by omega)⟩) (g3.mono (fun a k q => q.1))
    by_cases c2 : x.1 = 2
    · have s1 := hs.2.1 c2
      have e1 : (enS bar x).1 = 126 := by unfold enS; rw [c2]; rfl
      rw [e1, if_pos rfl]
      cases s with
      | nil => exact absurd s1 (by decide)
      | cons a s =>
        have s40 : s.length + 1 ≤ 40 := s40
        rw [show (a :: s).length = s.length + 1 from rfl, uI_sub (by omega), show s.length + 1 - 1 = s.length by omega, rdA_nI (by omega) (by omega), sk.1, jn_eq]
        have es : evR V (x :: C') [] = (if a = 0 then nI 1 else nI 0) :: s := by rw [ev]; unfold stp; rw [if_neg (by omega), if_neg (by omega), if_pos c2]
        have g3 : ∀ w, Fr (fun a k => a = 172 ∧ k = s.length) h (sI h 172 s.length w) := fun w => Fr.sI ⟨rfl, rfl⟩
        by_cases ca : a = 0
        · rw [if_pos ca]
          dsimp only
          rw [wrA_nI (by omega) (by omega)]
          rw [if_pos ca] at es
          exact fin _ _ (by rw [es]; rfl) (by rw [es]; exact ⟨sI_at, sk.2.fz (g3 _) (fun k hk => by omega)⟩) ((g3 _).mono (fun a k q => q.1))
        · rw [if_neg ca]
          dsimp only
          rw [wrA_nI (by omega) (by omega)]
          rw [if_neg ca] at es
          exact fin _ _ (by rw [es]; rfl) (by rw [es]; exact ⟨sI_at, sk.2.fz (g3 _) (fun k hk => by omega)⟩) ((g3 _).mono (fun a k q => q.1))
    · have s2 := hs.2.2.1 (by omega)
      cases s with
      | nil => exact absurd s2 (by decide)
      | cons b s =>
        cases s with
        | nil => exact absurd (show 2 ≤ 1 from s2) (by decide)
        | cons a s =>
          have s40 : s.length + 1 + 1 ≤ 40 := s40
          have b62 : h.1 172 (s.length + 1) = b := sk.1
          have a62 : h.1 172 s.length = a := sk.2.1
          obtain ⟨t1, t2, t3⟩ := m_two (bar := bar) (x := x) (by omega) x10 a b h
          rw [if_neg (by rw [t3]; exact id), t2, clp_some, if_pos (show nI 0 = 0 by decide), show (b :: a :: s).length = s.length + 1 + 1 from rfl, nI_m1, uI_sub (by omega), show s.length + 1 - 1 = s.length by omega, rdA_nI (by omega) (by omega), a62, rdA_nI (by omega) (by omega), b62, t1, clp_some, wrA_nI (by omega) (by omega)]
          have g3 : Fr (fun a k => a = 172 ∧ k = s.length) h (sI h 172 s.length (jnd x.1 a b)) := Fr.sI ⟨rfl, rfl⟩
          have es : evR V (x :: C') [] = jnd x.1 a b :: s := by rw [ev]; unfold stp; rw [if_neg (by omega), if_neg (by omega), if_neg c2]
          exact fin _ _ (by rw [es]; rfl) (by rw [es]; exact ⟨sI_at, sk.2.2.fz g3 (fun k hk => by omega)⟩) (g3.mono (fun a k q => q.1))
theorem m_holds {r : Nat} (hr : r < 14) {M c : Cd} {f : Nat} {bar : Bool} {P : Nat} {V : Nat → Int32} {h : CH} (hM : sgm M f (enc bar c)) (hl : M.length ≤ 400) (hP1 : 1 ≤ P) (ho : okc bar P c) (hw : wth bar P V h) (ck : CMk 0 M h) (h173 : h.1 173 r = nI f) (h174 : h.1 174 r = nI (f + c.length)) : ∃ h', f_X12_holds (nI r) h = some (bI (decide (¬ tpv (evR V c []) = 0)), h') ∧ Fr x172 h h' := by
  obtain ⟨post, pre, h1, h2⟩ := hM
  obtain ⟨o1, o2, o3⟩ := okc_1 hP1 ho
  obtain ⟨v, hv⟩ := o1 V []
  have hcl : f + c.length ≤ 400 := by rw [h1, List.length_append, List.length_append, enc_len] at hl; omega
  obtain ⟨h', g1, g2⟩ := m_holL hr h1 h2 hl o2 o3 hv hw c.length c [] FU h rfl (by rw [List.append_nil]) (by show c.length < 100000; omega) Fr.rf ck h174 trivial
  refine ⟨h', ?_, g2⟩
  unfold f_X12_holds
  rw [rdA_nI (by omega) (by omega), h173, hv]
  exact g1
