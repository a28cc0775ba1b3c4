/-! the model reads tokens -/
def Mx (rl : Bool) (n : Nat) (X : Nat → Nat) (h : CH) : Prop := h.1 151 3 = nI n ∧ h.1 151 11 = bI rl ∧ ∀ j, j < n → (h.1 153 j &&& nI 255) = nI (X j)
theorem Mx.fz {rl : Bool} {n : Nat} {X : Nat → Nat} {S L : Nat → Nat → Prop} {h h' : CH} (c : Mx rl n X h) (hF : Fz S L h h') (h1 : ¬ S 151 3) (h2 : ¬ S 151 11) (h3 : ∀ j, ¬ S 153 j) : Mx rl n X h' := by
  obtain ⟨c1, c2, c3⟩ := c
  exact ⟨by rw [hF.1 _ _ h1]; exact c1, by rw [hF.1 _ _ h2]; exact c2, fun j hj => by rw [hF.1 _ _ (h3 j)]; exact c3 j hj⟩
theorem m_sign {rl : Bool} {n : Nat} {X : Nat → Nat} {h : CH} (hX : TX n X) (hL : Mx rl n X h) {j : Nat} (hj : j < 2147483648) : f_X12_sign (nI j) h = some (nI (X j)) := by
  have hn := hX.1
  unfold f_X12_sign
  rw [hL.1]
  by_cases c : j < n
  · rw [if_pos (by rw [uI_lt (by omega) (by omega)]; exact c), rdA_nI (by omega) (by omega), hL.2.2 j c]
  · rw [if_neg (by rw [uI_lt (by omega) (by omega)]; exact c), hX.2.2 j (by omega)]
theorem m_isLetter {x : Nat} (hx : x < 2147483648) (h : CH) : f_X12_isLetter (nI x) h = some (bI (isL x)) := by
  unfold f_X12_isLetter isL
  simp only [uI_lt hx (show 97 < 2147483648 by omega), uI_lt (show 122 < 2147483648 by omega) hx]
  by_cases c : x < 97
  · rw [if_pos c, decide_eq_false (by omega)]; rfl
  · by_cases c2 : 122 < x
    · rw [if_neg c, if_pos c2, decide_eq_false (by omega)]; rfl
    · rw [if_neg c, if_neg c2, decide_eq_true (by omega)]; rfl
theorem m_isDigit {x : Nat} (hx : x < 2147483648) (h : CH) : f_X12_isDigit (nI x) h = some (bI (isD x)) := by
  unfold f_X12_isDigit isD
  simp only [uI_lt hx (show 48 < 2147483648 by omega), uI_lt (show 57 < 2147483648 by omega) hx]
  by_cases c : x < 48
  · rw [if_pos c, decide_eq_false (by omega)]; rfl
  · by_cases c2 : 57 < x
    · rw [if_neg c, if_pos c2, decide_eq_false (by omega)]; rfl
    · rw [if_neg c, if_neg c2, decide_eq_true (by omega)]; rfl
theorem m_isSign {rl : Bool} {x : Nat} (hx : x < 2147483648) {h : CH} (hr : h.1 151 11 = bI rl) : f_X12_isSign (nI x) h = some (bI (isS rl x)) := by
  unfold f_X12_isSign isS
  rw [hr]
  simp (disch := omega) only [jn_eq, uI_inj]
  by_cases c59 : x = 59
  · subst c59; cases rl <;> rfl
  by_cases z : x = 40 ∨ x = 41 ∨ x = 42 ∨ x = 43 ∨ x = 45 ∨ x = 60 ∨ x = 61 ∨ x = 62
  · rcases z with e | e | e | e | e | e | e | e <;> subst e <;> cases rl <;> rfl
  · rw [if_neg c59, decide_eq_false c59, decide_eq_false z]
    cases rl with
    | false => rw [if_pos (show bI false = 0 by decide)]; rfl
    | true =>
      rw [if_neg (show ¬ bI true = 0 by decide), if_neg (by omega), if_neg (by omega), if_neg (by omega), if_neg (by omega), if_neg (by omega), if_neg (by omega), if_neg (by omega), if_neg (by omega)]
      rfl
theorem m_ltL {rl : Bool} {n : Nat} {X : Nat → Nat} (hX : TX n X) {s : Nat} (hs : s ≤ n) : ∀ f j h, Mx rl n X h → h.1 151 7 = nI j → s ≤ j → j ≤ exN isL X n s → exN isL X n s - j < f →
    ∃ h', (∀ k, f_X12_goOn_L119 k f h = k h') ∧ h'.1 151 7 = nI (exN isL X n s) ∧ Fz (fun a i => a = 151 ∧ i = 7) (fun _ _ => False) h h' := by
  have hn := hX.1
  obtain ⟨l1, l2, l3, l4⟩ := exN_sp (p := isL) hX (by decide) s
  have l4 := l4 hs
  generalize exN isL X n s = e at *
  intro f
  induction f with
  | zero => intro j h _ _ _ _ h2; omega
  | succ f ih =>
    intro j h hL h7 h1 h2 h3
    have hx : X j < 2147483648 := by have := hX.2.1 j; omega
    by_cases ce : j = e
    · refine ⟨h, fun k => ?_, by rw [h7, ce], Fz.rf⟩
      unfold f_X12_goOn_L119
      rw [h7, m_sign hX hL (by omega), clp_some, m_isLetter hx, clp_some, ifB, ce, l3, if_neg (by decide)]
    · have hl := l2 j h1 (by omega)
      have hF : Fz (fun a i => a = 151 ∧ i = 7) (fun _ _ => False) h (sI h 151 7 (nI (j + 1))) := Fz.sI ⟨rfl, rfl⟩
      obtain ⟨h', g1, g2, g3⟩ := ih (j + 1) (sI h 151 7 (nI (j + 1))) (hL.fz hF (by omega) (by omega) (by intro i; omega)) sI_at (by omega) (by omega) (by omega)
      refine ⟨h', fun k => ?_, g2, hF.tr g3⟩
      unfold f_X12_goOn_L119
      rw [h7, m_sign hX hL (by omega), clp_some, m_isLetter hx, clp_some, ifB, if_pos hl, wrF_eq, uI_add]
      exact g1 k
theorem m_nmL {rl : Bool} {n : Nat} {X : Nat → Nat} (hX : TX n X) {s : Nat} (hs : s ≤ n) : ∀ f m h, Mx rl n X h → h.1 151 6 = nI s → h.1 151 7 = nI (exN isL X n s) → h.2 151 10 = nL (w8 (ltr X s m)) → m ≤ 8 → s + m ≤ exN isL X n s → 8 - m < f →
    ∃ h', (∀ k, f_X12_goOn_L156 k f (nI (s + m)) h = k h') ∧ (¬ 8 < exN isL X n s - s → h'.2 151 10 = nL (w8 (ltr X s (exN isL X n s - s)))) ∧ Fz (fun _ _ => False) (fun a i => a = 151 ∧ i = 10) h h' := by
  have hn := hX.1
  obtain ⟨l1, l2, l3, l4⟩ := exN_sp (p := isL) hX (by decide) s
  have l4 := l4 hs
  generalize exN isL X n s = e at *
  intro f
  induction f with
  | zero => intro m h _ _ _ _ _ _ h2; omega
  | succ f ih =>
    intro m h hL h6 h7 h10 hm he hf
    have x1 : (nI (s + m) < nI e) = (s + m < e) := uI_lt (by omega) (by omega)
    have x2 : (nI (s + m) < nI (s + 8)) = (s + m < s + 8) := uI_lt (by omega) (by omega)
    by_cases c1 : s + m < e
    · by_cases c2 : s + m < s + 8
      · have hl := l2 (s + m) (by omega) c1
        have hx := of_decide_eq_true hl
        have gd := ltr_gd (X := X) (s := s) m (fun k h1 h2 => l2 k h1 (by omega))
        have lt := w8_lt _ gd.2
        rw [gd.1] at lt
        have p7 : (256:Nat) ^ m ≤ 256 ^ 7 := Nat.pow_le_pow_right (by omega) (by omega)
        have ew : w8 (ltr X s m) * 256 + X (s + m) = w8 (ltr X s (m + 1)) := by
          show _ = w8 (ltr X s m) * 256 + (96 + (X (s + m) - 96))
          omega
        have hF : Fz (fun _ _ => False) (fun a i => a = 151 ∧ i = 10) h (sL h 151 10 (nL (w8 (ltr X s (m + 1))))) := Fz.sL ⟨rfl, rfl⟩
        obtain ⟨h', g1, g2, g3⟩ := ih (m + 1) (sL h 151 10 (nL (w8 (ltr X s (m + 1))))) (hL.fz hF id id (fun _ => id)) (by rw [sL_1]; exact h6) (by rw [sL_1]; exact h7) (by rw [sL_2, if_pos ⟨rfl, rfl⟩]) (by omega) (by omega) (by omega)
        refine ⟨h', fun k => ?_, g2, hF.tr g3⟩
        unfold f_X12_goOn_L156
        rw [h7, h6, uI_add]
        simp only [x1, x2]
        rw [if_pos c1, if_pos c2, m_sign hX hL (by omega), clp_some, wrJ_eq, h10, nL_sh (by omega) (by omega), ew, uI_add]
        exact g1 k
      · refine ⟨h, fun k => ?_, fun z => absurd (by omega) z, Fz.rf⟩
        unfold f_X12_goOn_L156
        rw [h7, h6, uI_add]
        simp only [x1, x2]
        rw [if_pos c1, if_neg c2]
    · refine ⟨h, fun k => ?_, fun z => by rw [h10, show m = e - s by omega], Fz.rf⟩
      unfold f_X12_goOn_L156
      rw [h7, h6, uI_add]
      simp only [x1]
      rw [if_neg c1]
theorem m_dgL {rl : Bool} {n : Nat} {X : Nat → Nat} (hX : TX n X) {s : Nat} (hs : s ≤ n) : ∀ f m h, Mx rl n X h → h.1 151 6 = nI s → h.1 151 7 = nI (s + m) → (m ≤ 4 → h.1 151 9 = nI (dgt X s m)) → s + m ≤ exN isD X n s → exN isD X n s - (s + m) < f →
    ∃ h', (∀ k, f_X12_goOn_L259 k f h = k h') ∧ h'.1 151 7 = nI (exN isD X n s) ∧ (¬ 4 < exN isD X n s - s → h'.1 151 9 = nI (dgt X s (exN isD X n s - s))) ∧ Fz (fun a i => a = 151 ∧ (i = 7 ∨ i = 9)) (fun _ _ => False) h h' := by
  have hn := hX.1
  obtain ⟨l1, l2, l3, l4⟩ := exN_sp (p := isD) hX (by decide) s
  have l4 := l4 hs
  generalize exN isD X n s = e at *
  intro f
  induction f with
  | zero => intro m h _ _ _ _ _ h2; omega
  | succ f ih =>
    intro m h hL h6 h7 h9 he hf
    have hx0 := hX.2.1 (s + m)
    have hx : X (s + m) < 2147483648 := by omega
    by_cases ce : s + m = e
    · refine ⟨h, fun k => ?_, by rw [h7, ce], fun z => by rw [h9 (by omega), show m = e - s by omega], Fz.rf⟩
      unfold f_X12_goOn_L259
      rw [h7, m_sign hX hL (by omega), clp_some, m_isDigit hx, clp_some, ifB, ce, l3, if_neg (by decide)]
    · have hl := l2 (s + m) (by omega) (by omega)
      have hx2 := of_decide_eq_true hl
      have x4 : (nI m < nI 4) = (m < 4) := uI_lt (by omega) (by omega)
      by_cases c4 : m < 4
      · have hF : Fz (fun a i => a = 151 ∧ (i = 7 ∨ i = 9)) (fun _ _ => False) h (sI (sI h 151 9 (nI (dgt X s (m + 1)))) 151 7 (nI (s + m + 1))) := (Fz.sI (by omega)).tr (Fz.sI (by omega))
        obtain ⟨h', g1, g2, g3, g4⟩ := ih (m + 1) (sI (sI h 151 9 (nI (dgt X s (m + 1)))) 151 7 (nI (s + m + 1))) (hL.fz hF (by omega) (by omega) (by intro i; omega)) (by rw [sI_ne (by omega), sI_ne (by omega)]; exact h6) sI_at (fun _ => by rw [sI_ne (by omega), sI_at]) (by omega) (by omega)
        refine ⟨h', fun k => ?_, g2, g3, hF.tr g4⟩
        have ed : 10 * dgt X s m + X (s + m) - 48 = dgt X s (m + 1) := by
          show _ = dgt X s m * 10 + (X (s + m) - 48)
          omega
        unfold f_X12_goOn_L259
        rw [h7, m_sign hX hL (by omega), clp_some, m_isDigit hx, clp_some, ifB, if_pos hl, jn_eq, h6, uI_sub (by omega), show s + m - s = m by omega]
        simp only [x4]
        rw [if_pos c4, clp_some, wrF_eq, h9 (by omega), uI_mul, uI_add, uI_sub (by omega), ed, wrF_eq, sI_ne (by omega), h7, uI_add]
        exact g1 k
      · have hF : Fz (fun a i => a = 151 ∧ (i = 7 ∨ i = 9)) (fun _ _ => False) h (sI h 151 7 (nI (s + m + 1))) := Fz.sI (by omega)
        obtain ⟨h', g1, g2, g3, g4⟩ := ih (m + 1) (sI h 151 7 (nI (s + m + 1))) (hL.fz hF (by omega) (by omega) (by intro i; omega)) (by rw [sI_ne (by omega)]; exact h6) sI_at (fun z => by omega) (by omega) (by omega)
        refine ⟨h', fun k => ?_, g2, g3, hF.tr g4⟩
        unfold f_X12_goOn_L259
        rw [h7, m_sign hX hL (by omega), clp_some, m_isDigit hx, clp_some, ifB, if_pos hl, jn_eq, h6, uI_sub (by omega), show s + m - s = m by omega]
        simp only [x4]
        rw [if_neg c4, wrF_eq, h7, uI_add]
        exact g1 k
/-- the model's kinds of token -/
def kt (c : Nat) : Nat := if c ≤ 23 then 3 else if c = 24 then 2 else if c = 25 then 4 else if c = 26 then 0 else if c = 27 then 1 else 5
def TK (x : Tk) (h : CH) : Prop := h.1 151 6 = nI (kS x) ∧ (¬ kLast x → h.1 151 7 = nI (kE x)) ∧ h.1 151 8 = nI (kt (kC x)) ∧ (kC x = 25 → h.1 151 9 = nI (kV x)) ∧ (kC x ≤ 24 → h.2 151 10 = nL (w8 (kW x)))
def xG (a k : Nat) : Prop := a = 151 ∧ 6 ≤ k ∧ k ≤ 9
def lG (a k : Nat) : Prop := a = 151 ∧ k = 10
set_option maxHeartbeats 4000000 in
theorem m_goE {rl : Bool} {n : Nat} {X : Nat → Nat} (hX : TX n X) {j : Nat} (hj : j ≤ n) {f : Nat} {h : CH} (hL : Mx rl n X h) (h6 : h.1 151 6 = nI (exN isB X n j)) : ∃ h', f_X12_goOn_L8 (f + 1) h = some ((), h') ∧ TK (tok rl n X j) h' ∧ Fz xG lG h h' := by
  have hn := hX.1
  have sp := tok_sp (rl := rl) hX hj
  obtain ⟨l1, l2, l3, l4⟩ := exN_sp (p := isB) hX (by decide) j
  have l4 := l4 hj
  unfold tok at sp ⊢
  generalize exN isB X n j = s at *
  unfold f_X12_goOn_L8
  have hx0 := hX.2.1 s
  have hx : X s < 2147483648 := by omega
  have x1 : (nI s < nI n) = (s < n) := uI_lt (by omega) (by omega)
  rw [jn_eq, h6, hL.1]
  simp only [x1]
  by_cases cn : s < n
  · have nb : ¬ (X s = 32 ∨ X s = 10) := of_decide_eq_false l3
    rw [if_neg (show ¬ n ≤ s by omega)] at sp ⊢
    rw [if_pos cn, m_sign hX hL (by omega), clp_some, jn_eq, if_neg (show ¬ nI (X s) = nI 32 from by rw [uI_inj hx (by omega)]; omega), clp_some, if_neg (show ¬ nI (X s) = nI 10 from by rw [uI_inj hx (by omega)]; omega), clp_some, wrF_eq, uI_add]
    have gF : Fz xG lG h (sI h 151 7 (nI (s + 1))) := Fz.sI (by unfold xG; omega)
    have g6 : (sI h 151 7 (nI (s + 1))).1 151 6 = nI s := by rw [sI_ne (by omega)]; exact h6
    have g7 : (sI h 151 7 (nI (s + 1))).1 151 7 = nI (s + 1) := sI_at
    have gL : Mx rl n X (sI h 151 7 (nI (s + 1))) := hL.fz gF (by unfold xG; omega) (by unfold xG; omega) (by intro i; unfold xG; omega)
    generalize sI h 151 7 (nI (s + 1)) = g at *
    rw [g6, gL.1]
    simp only [x1]
    rw [if_pos cn, m_isLetter hx, clp_some, ifB]
    by_cases c2 : isL (X s) = true
    · rw [if_pos c2] at sp ⊢
      rw [if_pos c2]
      obtain ⟨e1, e2, e3, e4⟩ := exN_sp (p := isL) hX (by decide) s
      have e4 := e4 l4
      have es : s + 1 ≤ exN isL X n s := by
        by_cases z : exN isL X n s = s
        · rw [z, c2] at e3; exact absurd e3 (by decide)
        · omega
      obtain ⟨h2, a1, a2, a3⟩ := m_ltL (rl := rl) hX l4 FU (s + 1) g gL g7 (by omega) es (by show _ < 100000; omega)
      have a6 : h2.1 151 6 = nI s := by rw [a3.1 _ _ (by omega)]; exact g6
      have aL := gL.fz a3 (by omega) (by omega) (by intro i; omega)
      rw [a1, wrJ_eq]
      have bF : Fz xG lG g (sL h2 151 10 0) := (a3.mono (fun a k q => by unfold xG; omega) (fun a k q => q.elim)).tr (Fz.sL ⟨rfl, rfl⟩)
      have b6 : (sL h2 151 10 0).1 151 6 = nI s := a6
      have b7 : (sL h2 151 10 0).1 151 7 = nI (exN isL X n s) := a2
      have b10 : (sL h2 151 10 0).2 151 10 = nL (w8 (ltr X s 0)) := by rw [sL_2, if_pos ⟨rfl, rfl⟩]; rfl
      have bL : Mx rl n X (sL h2 151 10 0) := aL
      generalize sL h2 151 10 0 = h3 at *
      rw [b6]
      obtain ⟨h4, d1, d2, d3⟩ := m_nmL hX l4 FU 0 h3 bL b6 b7 b10 (by omega) (by omega) (by show _ < 100000; omega)
      rw [show nI s = nI (s + 0) from rfl, d1, jn_eq]
      have d6 : h4.1 151 6 = nI s := by rw [d3.1 _ _ id]; exact b6
      have d7 : h4.1 151 7 = nI (exN isL X n s) := by rw [d3.1 _ _ id]; exact b7
      have dF : Fz xG lG h h4 := (gF.tr bF).tr (d3.mono (fun a k q => q.elim) (fun a k q => q))
      have x8 : (nI 8 < nI (exN isL X n s) - nI s) = (8 < exN isL X n s - s) := by rw [uI_sub (by omega), uI_lt (by omega) (by omega)]
      rw [d6, d7]
      simp only [x8]
      by_cases c8 : 8 < exN isL X n s - s
      · rw [if_pos c8] at sp ⊢
        rw [if_pos c8, wrF_eq]
        exact ⟨_, rfl, ⟨by rw [sI_ne (by omega)]; exact d6, fun z => absurd (Or.inr rfl) z, sI_at, fun z => absurd z (by simp [kC]), fun z => absurd z (by simp [kC])⟩, dF.tr (Fz.sI (by unfold xG; omega))⟩
      · rw [if_neg c8] at sp ⊢
        have gd := ltr_gd (X := X) (s := s) (exN isL X n s - s) (fun k h1 h2 => e2 k h1 (by omega))
        have gg : gl (ltr X s (exN isL X n s - s)) := ⟨by omega, gd.2⟩
        have rl := rsv_le (ltr X s (exN isL X n s - s))
        rw [if_neg c8, d2 c8, m_isKept gg, clp_some, ifB]
        by_cases c9 : rsv (ltr X s (exN isL X n s - s)) < 24
        · rw [if_pos (decide_eq_true c9), wrF_eq]
          refine ⟨_, rfl, ⟨by rw [sI_ne (by omega)]; exact d6, fun z => by rw [sI_ne (by omega)]; exact d7, ?_, fun z => ?_, fun z => by rw [sI_2]; exact d2 c8⟩, dF.tr (Fz.sI (by unfold xG; omega))⟩
          · rw [sI_at]
            show nI 3 = nI (kt (rsv (ltr X s (exN isL X n s - s))))
            unfold kt
            rw [if_pos (by omega)]
          · exact absurd (show rsv (ltr X s (exN isL X n s - s)) = 25 from z) (by omega)
        · rw [if_neg (by rw [decide_eq_false c9]; decide), wrF_eq]
          refine ⟨_, rfl, ⟨by rw [sI_ne (by omega)]; exact d6, fun z => by rw [sI_ne (by omega)]; exact d7, ?_, fun z => ?_, fun z => by rw [sI_2]; exact d2 c8⟩, dF.tr (Fz.sI (by unfold xG; omega))⟩
          · rw [sI_at]
            show nI 2 = nI (kt (rsv (ltr X s (exN isL X n s - s))))
            unfold kt
            rw [if_neg (by omega), if_pos (by omega)]
          · exact absurd (show rsv (ltr X s (exN isL X n s - s)) = 25 from z) (by omega)
    · rw [if_neg c2] at sp ⊢
      rw [if_neg c2, m_isDigit hx, clp_some, ifB]
      by_cases c3 : isD (X s) = true
      · rw [if_pos c3] at sp ⊢
        rw [if_pos c3, wrF_eq, wrF_eq, sI_ne (by omega), g6]
        obtain ⟨e1, e2, e3, e4⟩ := exN_sp (p := isD) hX (by decide) s
        have e4 := e4 l4
        have bF : Fz xG lG g (sI (sI g 151 9 (nI 0)) 151 7 (nI s)) := (Fz.sI (by unfold xG; omega)).tr (Fz.sI (by unfold xG; omega))
        have b6 : (sI (sI g 151 9 (nI 0)) 151 7 (nI s)).1 151 6 = nI s := by rw [sI_ne (by omega), sI_ne (by omega)]; exact g6
        have b7 : (sI (sI g 151 9 (nI 0)) 151 7 (nI s)).1 151 7 = nI (s + 0) := sI_at
        have b9 : (sI (sI g 151 9 (nI 0)) 151 7 (nI s)).1 151 9 = nI (dgt X s 0) := by rw [sI_ne (by omega), sI_at]; rfl
        have bL : Mx rl n X (sI (sI g 151 9 (nI 0)) 151 7 (nI s)) := gL.fz bF (by unfold xG; omega) (by unfold xG; omega) (by intro i; unfold xG; omega)
        generalize sI (sI g 151 9 (nI 0)) 151 7 (nI s) = h3 at *
        obtain ⟨h4, d1, d2, d3, d4⟩ := m_dgL hX l4 FU 0 h3 bL b6 b7 (fun _ => b9) (by omega) (by show _ < 100000; omega)
        rw [d1, jn_eq, jn_eq]
        have d6 : h4.1 151 6 = nI s := by rw [d4.1 _ _ (by omega)]; exact b6
        have dF : Fz xG lG h h4 := (gF.tr bF).tr (d4.mono (fun a k q => by unfold xG; omega) (fun a k q => q.elim))
        have dL := bL.fz d4 (by omega) (by omega) (by intro i; omega)
        have x8 : (nI 4 < nI (exN isD X n s) - nI s) = (4 < exN isD X n s - s) := by rw [uI_sub (by omega), uI_lt (by omega) (by omega)]
        rw [d6, d2]
        simp only [x8]
        have hxe : X (exN isD X n s) < 2147483648 := by have := hX.2.1 (exN isD X n s); omega
        by_cases c8 : 4 < exN isD X n s - s
        · rw [if_pos (Or.inl c8)] at sp ⊢
          rw [if_pos c8, wrF_eq]
          exact ⟨_, rfl, ⟨by rw [sI_ne (by omega)]; exact d6, fun z => absurd (Or.inr rfl) z, sI_at, fun z => absurd z (by simp [kC]), fun z => absurd z (by simp [kC])⟩, dF.tr (Fz.sI (by unfold xG; omega))⟩
        · rw [if_neg c8, m_sign hX dL (by omega), clp_some, m_isLetter hxe, clp_some, ifB]
          by_cases c9 : isL (X (exN isD X n s)) = true
          · rw [if_pos (Or.inr c9)] at sp ⊢
            rw [if_pos c9, wrF_eq]
            exact ⟨_, rfl, ⟨by rw [sI_ne (by omega)]; exact d6, fun z => absurd (Or.inr rfl) z, sI_at, fun z => absurd z (by simp [kC]), fun z => absurd z (by simp [kC])⟩, dF.tr (Fz.sI (by unfold xG; omega))⟩
          · rw [if_neg (show ¬ (4 < exN isD X n s - s ∨ isL (X (exN isD X n s)) = true) from fun z => z.elim c8 c9)] at sp ⊢
            rw [if_neg c9, wrF_eq]
            exact ⟨_, rfl, ⟨by rw [sI_ne (by omega)]; exact d6, fun z => by rw [sI_ne (by omega)]; exact d2, sI_at, fun z => by rw [sI_ne (by omega)]; exact d3 c8, fun z => absurd z (by simp [kC])⟩, dF.tr (Fz.sI (by unfold xG; omega))⟩
      · rw [if_neg c3] at sp ⊢
        rw [if_neg c3, m_isSign (rl := rl) hx gL.2.1, clp_some]
        simp only [jn_eq]
        rw [ifB]
        by_cases c4 : isS rl (X s) = true
        · rw [if_pos c4] at sp ⊢
          rw [if_pos c4, wrF_eq]
          have hk := isS_rg c4
          refine ⟨_, rfl, ⟨by rw [sI_ne (by omega)]; exact g6, fun z => by rw [sI_ne (by omega)]; exact g7, ?_, fun z => ?_, fun z => ?_⟩, (gF.tr (Fz.sI (by unfold xG; omega)))⟩
          · rw [sI_at]
            show nI 5 = nI (kt (X s))
            unfold kt
            rw [if_neg (by omega), if_neg (by omega), if_neg (by omega), if_neg (by omega), if_neg (by omega)]
          · exact absurd (show X s = 25 from z) (by omega)
          · exact absurd (show X s ≤ 24 from z) (by omega)
        · rw [if_neg c4] at sp ⊢
          rw [if_neg c4, wrF_eq]
          exact ⟨_, rfl, ⟨by rw [sI_ne (by omega)]; exact g6, fun z => absurd (Or.inr rfl) z, sI_at, fun z => absurd z (by simp [kC]), fun z => absurd z (by simp [kC])⟩, gF.tr (Fz.sI (by unfold xG; omega))⟩
  · rw [if_pos (show n ≤ s by omega)] at sp ⊢
    rw [if_neg cn, m_sign hX hL (by omega), clp_some, wrF_eq, uI_add]
    have gF : Fz xG lG h (sI h 151 7 (nI (s + 1))) := Fz.sI (by unfold xG; omega)
    have g6 : (sI h 151 7 (nI (s + 1))).1 151 6 = nI s := by rw [sI_ne (by omega)]; exact h6
    have gL : Mx rl n X (sI h 151 7 (nI (s + 1))) := hL.fz gF (by unfold xG; omega) (by unfold xG; omega) (by intro i; unfold xG; omega)
    generalize sI h 151 7 (nI (s + 1)) = g at *
    rw [g6, gL.1]
    simp only [x1]
    rw [if_neg cn, wrF_eq, wrF_eq, wrF_eq]
    have es : s = n := by omega
    refine ⟨_, rfl, ⟨?_, fun z => absurd (Or.inl rfl) z, ?_, fun z => absurd z (by simp [kC]), fun z => absurd z (by simp [kC])⟩, gF.tr (((Fz.sI (by unfold xG; omega)).tr (Fz.sI (by unfold xG; omega))).tr (Fz.sI (by unfold xG; omega)))⟩
    · rw [sI_ne (by omega), sI_at, sI_ne (by omega), gL.1, es]; rfl
    · rw [sI_ne (by omega), sI_ne (by omega), sI_at]; rfl
theorem m_goL {rl : Bool} {n : Nat} {X : Nat → Nat} (hX : TX n X) {j : Nat} (hj : j ≤ n) : ∀ f m h, Mx rl n X h → h.1 151 6 = nI (j + m) → j + m ≤ exN isB X n j → exN isB X n j - (j + m) < f → ∃ h', f_X12_goOn_L8 f h = some ((), h') ∧ TK (tok rl n X j) h' ∧ Fz xG lG h h' := by
  have hn := hX.1
  obtain ⟨l1, l2, l3, l4⟩ := exN_sp (p := isB) hX (by decide) j
  have l4 := l4 hj
  intro f
  induction f with
  | zero => intro m h _ _ _ h2; omega
  | succ f ih =>
    intro m h hL h6 he hf
    by_cases ce : j + m = exN isB X n j
    · exact m_goE hX hj hL (by rw [h6, ce])
    · have hl := l2 (j + m) (by omega) (by omega)
      have hx0 := hX.2.1 (j + m)
      have hx : X (j + m) < 2147483648 := by omega
      have hF : Fz xG lG h (sI h 151 6 (nI (j + m + 1))) := Fz.sI (by unfold xG; omega)
      obtain ⟨h', g1, g2, g3⟩ := ih (m + 1) (sI h 151 6 (nI (j + m + 1))) (hL.fz hF (by unfold xG; omega) (by unfold xG; omega) (by intro i; unfold xG; omega)) sI_at (by omega) (by omega)
      refine ⟨h', ?_, g2, hF.tr g3⟩
      unfold f_X12_goOn_L8
      rw [jn_eq, h6, hL.1, if_pos (by rw [uI_lt (by omega) (by omega)]; omega), m_sign hX hL (by omega), clp_some, jn_eq, wrF_eq, uI_add]
      rcases of_decide_eq_true hl with e | e
      · rw [if_pos (by rw [e])]
        exact g1
      · rw [if_neg (by rw [uI_inj hx (by omega)]; omega), clp_some, if_pos (by rw [e])]
        exact g1
theorem m_goOn {rl : Bool} {n : Nat} {X : Nat → Nat} (hX : TX n X) {j : Nat} (hj : j ≤ n) {h : CH} (hL : Mx rl n X h) (h7 : h.1 151 7 = nI j) : ∃ h', f_X12_goOn h = some ((), h') ∧ TK (tok rl n X j) h' ∧ Fz xG lG h h' := by
  have hn := hX.1
  obtain ⟨l1, l2, l3, l4⟩ := exN_sp (p := isB) hX (by decide) j
  have l4 := l4 hj
  unfold f_X12_goOn
  rw [wrF_eq, h7]
  have hF : Fz xG lG h (sI h 151 6 (nI j)) := Fz.sI (by unfold xG; omega)
  obtain ⟨h', g1, g2, g3⟩ := m_goL hX hj FU 0 (sI h 151 6 (nI j)) (hL.fz hF (by unfold xG; omega) (by unfold xG; omega) (by intro i; unfold xG; omega)) sI_at (by omega) (by show _ < 100000; omega)
  exact ⟨h', g1, g2, hF.tr g3⟩
