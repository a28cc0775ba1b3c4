/-! the class reads tokens -/
def LX (rl : Bool) (n : Nat) (X : Nat → Nat) (h : CH) : Prop := h.1 2 5 = nI n ∧ h.1 2 6 = bI rl ∧ (∀ j, j < n → (h.1 1 j &&& nI 255) = nI (X j)) ∧ ∀ r, r < 24 → h.2 3 r = nL (w5 (lw r))
theorem LX.fz {rl : Bool} {n : Nat} {X : Nat → Nat} {S L : Nat → Nat → Prop} {h h' : CH} (c : LX rl n X h) (hF : Fz S L h h') (h1 : ¬ S 2 5) (h2 : ¬ S 2 6) (h3 : ∀ j, ¬ S 1 j) (h4 : ∀ j, ¬ L 3 j) : LX rl n X h' := by
  obtain ⟨c1, c2, c3, c4⟩ := c
  exact ⟨by rw [hF.1 _ _ h1]; exact c1, by rw [hF.1 _ _ h2]; exact c2, fun j hj => by rw [hF.1 _ _ (h3 j)]; exact c3 j hj, fun r hr => by rw [hF.2 _ _ (h4 r)]; exact c4 r hr⟩
theorem c_byteAt {rl : Bool} {n : Nat} {X : Nat → Nat} {h : CH} (hX : TX n X) (hL : LX rl n X h) {j : Nat} (hj : j < 2147483648) : f_X8_byteAt (nI j) h = some (nI (X j)) := by
  have hn := hX.1
  unfold f_X8_byteAt
  rw [hL.1]
  by_cases c : j < n
  · have c2 : j < 1600 := by omega
    simp (disch := omega) only [clp_some, cl_some, jn_eq, uI_add, uI_mul, uI_lt, uI_lt0, uI_0lt, uI_eq0, uI_inj, uI_ne1, n1_ne, n1_lt, uI_lt1, rdA_nI, rdQ_nI, rdL_nI, wrA_nI, wrL_nI, wrF_eq, wrJ_eq, dvd_nI, ite_true, ite_false, if_true, if_false, bI_t, bI_f, bI_0, decide_true, decide_false, Nat.one_ne_zero, Nat.reduceEqDiff, Nat.reduceLT, Nat.reduceLeDiff, Nat.reduceAdd, Nat.reduceMul, Nat.reduceSub, Nat.reduceDiv, c, c2]
    rw [hL.2.2.1 j c]
  · simp (disch := omega) only [clp_some, cl_some, jn_eq, uI_add, uI_mul, uI_lt, uI_lt0, uI_0lt, uI_eq0, uI_inj, uI_ne1, n1_ne, n1_lt, uI_lt1, rdA_nI, rdQ_nI, rdL_nI, wrA_nI, wrL_nI, wrF_eq, wrJ_eq, dvd_nI, ite_true, ite_false, if_true, if_false, bI_t, bI_f, bI_0, decide_true, decide_false, Nat.one_ne_zero, Nat.reduceEqDiff, Nat.reduceLT, Nat.reduceLeDiff, Nat.reduceAdd, Nat.reduceMul, Nat.reduceSub, Nat.reduceDiv, c]
    rw [hX.2.2 j (by omega)]
theorem c_isLetter {x : Nat} (hx : x < 2147483648) (h : CH) : f_X8_isLetter (nI x) h = some (bI (isL x)) := by
  unfold f_X8_isLetter isL
  simp only [uI_lt hx (show 97 < 2147483648 by omega), uI_lt (show 122 < 2147483648 by omega) hx]
  by_cases c : x < 97
  · rw [if_pos c, decide_eq_false (by omega)]; rfl
  · by_cases c2 : 122 < x
    · rw [if_neg c, if_pos c2, decide_eq_false (by omega)]; rfl
    · rw [if_neg c, if_neg c2, decide_eq_true (by omega)]; rfl
theorem c_isDigit {x : Nat} (hx : x < 2147483648) (h : CH) : f_X8_isDigit (nI x) h = some (bI (isD x)) := by
  unfold f_X8_isDigit isD
  simp only [uI_lt hx (show 48 < 2147483648 by omega), uI_lt (show 57 < 2147483648 by omega) hx]
  by_cases c : x < 48
  · rw [if_pos c, decide_eq_false (by omega)]; rfl
  · by_cases c2 : 57 < x
    · rw [if_neg c, if_pos c2, decide_eq_false (by omega)]; rfl
    · rw [if_neg c, if_neg c2, decide_eq_true (by omega)]; rfl
theorem c_isBlank {x : Nat} (hx : x < 2147483648) (h : CH) : f_X8_isBlank (nI x) h = some (bI (isB x)) := by
  unfold f_X8_isBlank isB
  simp only [jn_eq, uI_inj hx (show 32 < 2147483648 by omega), uI_inj hx (show 10 < 2147483648 by omega)]
  by_cases c : x = 32
  · rw [if_pos c, decide_eq_true (Or.inl c)]; rfl
  · by_cases c2 : x = 10
    · rw [if_neg c, if_pos c2, decide_eq_true (Or.inr c2)]; rfl
    · rw [if_neg c, if_neg c2, decide_eq_false (by omega)]; rfl
theorem c_isSign {rl : Bool} {x : Nat} (hx : x < 2147483648) {h : CH} (hr : h.1 2 6 = bI rl) : f_X8_isSign (nI x) h = some (bI (isS rl x)) := by
  unfold f_X8_isSign isS
  rw [hr]
  simp (disch := omega) only [uI_inj, rz_b]
  by_cases c59 : x = 59
  · subst c59; cases rl <;> rfl
  by_cases z : x = 40 ∨ x = 41 ∨ x = 42 ∨ x = 43 ∨ x = 45 ∨ x = 60 ∨ x = 61 ∨ x = 62
  · rcases z with e | e | e | e | e | e | e | e <;> subst e <;> cases rl <;> rfl
  · rw [if_neg (by omega), if_neg (by omega), if_neg (by omega), if_neg (by omega), if_neg (by omega), if_neg (by omega), if_neg (by omega), if_neg (by omega), if_neg (by omega), decide_eq_false c59, decide_eq_false z]
    cases rl <;> rfl
theorem c_rsvL {l : List Nat} (hl : gl l) {h : CH} (hR : ∀ r, r < 24 → h.2 3 r = nL (w5 (lw r))) : ∀ m i f, i + m = 24 → m < f → f_X8_readWord_L83 (nL (w5 l)) h f (nI i) = some (nI (fnd (fun r => decide (lw r = l)) m i), h) := by
  intro m
  induction m with
  | zero =>
    intro i f hi hf
    obtain ⟨g, rfl⟩ : ∃ g, f = g + 1 := ⟨f - 1, by omega⟩
    unfold f_X8_readWord_L83
    rw [if_neg (by rw [uI_lt (by omega) (by omega)]; omega), show i = 24 by omega]
    rfl
  | succ m ih =>
    intro i f hi hf
    obtain ⟨g, rfl⟩ : ∃ g, f = g + 1 := ⟨f - 1, by omega⟩
    unfold f_X8_readWord_L83
    rw [if_pos (by rw [uI_lt (by omega) (by omega)]; omega), rdL_nI (by omega) (by omega), hR i (by omega)]
    have e := lg5 (lw_gl (show i < 24 by omega)) hl
    unfold fnd
    by_cases c : lw i = l
    · rw [if_pos (e.mpr c), if_pos (decide_eq_true c)]
    · rw [if_neg (fun z => c (e.mp z)), if_neg (by rw [decide_eq_false c]; decide), uI_add]
      exact ih (i + 1) g (by omega) (by omega)
theorem c_rwL {rl : Bool} {n : Nat} {X : Nat → Nat} (hX : TX n X) {s c : Nat} (hs : s ≤ n) (hc : c < 1601) : ∀ f k h, LX rl n X h → exN isL X n s - (s + k) < f → s + k ≤ exN isL X n s → h.1 2 7 = nI (s + k) → h.1 2 8 = nI c →
    ∃ h', f_X8_readWord_L10 (nI s) f (nL (w5 (ltr X s k))) (nI (s + k)) h = some (nI (if 8 < exN isL X n s - s then 27 else rsv (ltr X s (exN isL X n s - s))), h') ∧ h'.1 2 7 = nI (exN isL X n s) ∧ (¬ 8 < exN isL X n s - s → h'.2 6 c = nL (w5 (ltr X s (exN isL X n s - s)))) ∧ Fz (fun a j => a = 2 ∧ j = 7) (fun a j => a = 6 ∧ j = c) h h' := by
  have hn := hX.1
  obtain ⟨l1, l2, l3, l4⟩ := exN_sp (p := isL) hX (by decide) s
  have l4 := l4 hs
  generalize exN isL X n s = e at *
  intro f
  induction f with
  | zero => intro k h _ h2; omega
  | succ f ih =>
    intro k h hL hf hk h7 h8
    unfold f_X8_readWord_L10
    rw [jn_eq, hL.1]
    have x1 : (nI (s + k) < nI n) = (s + k < n) := uI_lt (by omega) (by omega)
    simp only [x1]
    by_cases ce : s + k = e
    · have ex : ∃ h', (if nI 8 < h.1 2 7 - nI s then some (nI 27, h) else wrL h 6 1601 (h.1 2 8) (nL (w5 (ltr X s k))) fun h_3 => f_X8_readWord_L83 (nL (w5 (ltr X s k))) h_3 FU (nI 0)) = some (nI (if 8 < e - s then 27 else rsv (ltr X s (e - s))), h') ∧ h'.1 2 7 = nI e ∧ (¬ 8 < e - s → h'.2 6 c = nL (w5 (ltr X s (e - s)))) ∧ Fz (fun a j => a = 2 ∧ j = 7) (fun a j => a = 6 ∧ j = c) h h' := by
        have y8 : (nI 8 < nI (e - s)) = (8 < e - s) := uI_lt (by omega) (by omega)
        rw [h7, h8, uI_sub (by omega), show s + k - s = e - s by omega, show k = e - s by omega]
        simp only [y8]
        by_cases c8 : 8 < e - s
        · rw [if_pos c8, if_pos c8]
          exact ⟨h, rfl, by rw [h7, ce], fun z => absurd c8 z, Fz.rf⟩
        · rw [if_neg c8, if_neg c8, wrL_nI (by omega) (by omega)]
          have g := ltr_gd (X := X) (s := s) (e - s) (fun j h1 h2 => l2 j h1 (by omega))
          have gg : gl (ltr X s (e - s)) := ⟨by omega, g.2⟩
          refine ⟨_, c_rsvL gg (fun r hr => ?_) 24 0 FU (by omega) (by show 24 < 100000; omega), ?_, fun _ => ?_, Fz.sL ⟨rfl, rfl⟩⟩
          · rw [sL_2, if_neg (by omega)]; exact hL.2.2.2 r hr
          · rw [sL_1, h7, ce]
          · rw [sL_2, if_pos ⟨rfl, rfl⟩]
      have l3c : isL (X (s + k)) = false := by rw [ce]; exact l3
      by_cases cn : s + k < n
      · rw [if_pos cn, c_byteAt hX hL (by omega), clp_some, c_isLetter (by have := hX.2.1 (s + k); omega), clp_some, l3c, if_pos (by rw [bI_0])]
        exact ex
      · rw [if_neg cn]
        exact ex
    · have cn : s + k < n := by omega
      have hl := l2 (s + k) (by omega) (by omega)
      have hx := of_decide_eq_true hl
      rw [if_pos cn, c_byteAt hX hL (by omega), clp_some, c_isLetter (by omega), clp_some, hl, if_neg (by rw [bI_0]; decide), clp_some]
      unfold f_X8_withLetter
      rw [clp_some, wrF_eq, uI_add]
      have e1 : nL (w5 (ltr X s k)) * 32 + (nI (X (s + k)) - nI 97 + nI 1).toInt64 = nL (w5 (ltr X s (k + 1))) := by
        rw [uI_sub (by omega), uI_add, nI_i64 (by omega), show (32 : Int64) = nL 32 from rfl, nL_mul, nL_add]
        show nL _ = nL (w5 (ltr X s k) * 32 + (X (s + k) - 96))
        congr 2
        omega
      rw [e1]
      have hF : Fz (fun a j => a = 2 ∧ j = 7) (fun a j => a = 6 ∧ j = c) h (sI h 2 7 (nI (s + k + 1))) := Fz.sI ⟨rfl, rfl⟩
      obtain ⟨h', g1, g2, g3, g4⟩ := ih (k + 1) (sI h 2 7 (nI (s + k + 1))) (hL.fz hF (by omega) (by omega) (by intro j; omega) (by intro j; omega)) (by omega) (by omega) (by rw [sI_1, if_pos ⟨rfl, rfl⟩]; rfl) (by rw [sI_1, if_neg (by omega)]; exact h8)
      exact ⟨h', g1, g2, g3, hF.tr g4⟩
theorem c_readWord {rl : Bool} {n : Nat} {X : Nat → Nat} (hX : TX n X) {s c : Nat} (hs : s ≤ n) (hc : c < 1601) {h : CH} (hL : LX rl n X h) (h7 : h.1 2 7 = nI s) (h8 : h.1 2 8 = nI c) :
    ∃ h', f_X8_readWord h = some (nI (if 8 < exN isL X n s - s then 27 else rsv (ltr X s (exN isL X n s - s))), h') ∧ h'.1 2 7 = nI (exN isL X n s) ∧ (¬ 8 < exN isL X n s - s → h'.2 6 c = nL (w5 (ltr X s (exN isL X n s - s)))) ∧ Fz (fun a j => a = 2 ∧ j = 7) (fun a j => a = 6 ∧ j = c) h h' := by
  have hn := hX.1
  obtain ⟨l1, l2, l3, l4⟩ := exN_sp (p := isL) hX (by decide) s
  have l4 := l4 hs
  unfold f_X8_readWord
  rw [h7]
  exact c_rwL hX hs hc FU 0 h hL (by show _ < 100000; omega) l1 h7 h8
theorem c_rnL {rl : Bool} {n : Nat} {X : Nat → Nat} (hX : TX n X) {s c : Nat} (hs : s ≤ n) (hc : c < 1601) : ∀ f k h, LX rl n X h → exN isD X n s - (s + k) < f → s + k ≤ exN isD X n s → h.1 2 7 = nI (s + k) → h.1 2 8 = nI c →
    ∃ h', f_X8_readNumber_L9 (nI s) f (nI (dgt X s k)) (nI (s + k)) h = some (nI (if 4 < exN isD X n s - s ∨ isL (X (exN isD X n s)) = true then 27 else 25), h') ∧ h'.1 2 7 = nI (exN isD X n s) ∧ (¬ 4 < exN isD X n s - s → h'.2 6 c = nL (dgt X s (exN isD X n s - s))) ∧ Fz (fun a j => a = 2 ∧ j = 7) (fun a j => a = 6 ∧ j = c) h h' := by
  have hn := hX.1
  obtain ⟨l1, l2, l3, l4⟩ := exN_sp (p := isD) hX (by decide) s
  have l4 := l4 hs
  generalize exN isD X n s = e at *
  intro f
  induction f with
  | zero => intro k h _ h2; omega
  | succ f ih =>
    intro k h hL hf hk h7 h8
    unfold f_X8_readNumber_L9
    rw [jn_eq, hL.1]
    have x1 : (nI (s + k) < nI n) = (s + k < n) := uI_lt (by omega) (by omega)
    simp only [x1]
    by_cases ce : s + k = e
    · have ex : ∃ h', (wrL h 6 1601 (h.1 2 8) (nI (dgt X s k)).toInt64 fun h_2 => jn (some (nI 27, h_2)) fun (j_3 : Option (Int32 × CH)) => (if nI 4 < h_2.1 2 7 - nI s then j_3 else clp (f_X8_byteAt (h_2.1 2 7) h_2) fun v_5 => clp (f_X8_isLetter v_5 h_2) fun v_6 => (if v_6 = 0 then some (nI 25, h_2) else j_3))) = some (nI (if 4 < e - s ∨ isL (X e) = true then 27 else 25), h') ∧ h'.1 2 7 = nI e ∧ (¬ 4 < e - s → h'.2 6 c = nL (dgt X s (e - s))) ∧ Fz (fun a j => a = 2 ∧ j = 7) (fun a j => a = 6 ∧ j = c) h h' := by
        have hF : Fz (fun a j => a = 2 ∧ j = 7) (fun a j => a = 6 ∧ j = c) h (sL h 6 c (nI (dgt X s k)).toInt64) := Fz.sL ⟨rfl, rfl⟩
        have hL2 := hL.fz hF (by omega) (by omega) (by intro j; omega) (by intro j; omega)
        have y8 : (nI 4 < nI (e - s)) = (4 < e - s) := uI_lt (by omega) (by omega)
        rw [h8, wrL_nI (by omega) (by omega), jn_eq, sL_1, h7, uI_sub (by omega), show s + k - s = e - s by omega, show k = e - s by omega, show s + (e - s) = e by omega]
        simp only [y8]
        refine ⟨sL h 6 c (nI (dgt X s (e - s))).toInt64, ?_, by rw [sL_1, h7, ce], fun z => ?_, by rw [show e - s = k by omega]; exact hF⟩
        · by_cases c8 : 4 < e - s
          · rw [if_pos c8, if_pos (Or.inl c8)]
          · rw [if_neg c8]
            rw [show k = e - s by omega] at hL2
            rw [c_byteAt hX hL2 (by omega), clp_some, c_isLetter (by have := hX.2.1 e; omega), clp_some, ifB]
            by_cases cl : isL (X e) = true
            · rw [if_pos cl, if_pos (Or.inr cl)]
            · rw [if_neg cl, if_neg (fun q => q.elim c8 cl)]
        · rw [sL_2, if_pos ⟨rfl, rfl⟩]
          have g := dgt_lt (X := X) (s := s) (e - s) (fun j h1 h2 => l2 j h1 (by omega))
          have h10 : (10:Nat) ^ (e - s) ≤ 10 ^ 4 := Nat.pow_le_pow_right (by omega) (by omega)
          exact nI_i64 (by omega)
      have l3c : isD (X (s + k)) = false := by rw [ce]; exact l3
      by_cases cn : s + k < n
      · rw [if_pos cn, c_byteAt hX hL (by omega), clp_some, c_isDigit (by have := hX.2.1 (s + k); omega), clp_some, l3c, if_pos (by rw [bI_0])]
        exact ex
      · rw [if_neg cn]
        exact ex
    · have cn : s + k < n := by omega
      have hl := l2 (s + k) (by omega) (by omega)
      have hx := of_decide_eq_true hl
      rw [if_pos cn, c_byteAt hX hL (by omega), clp_some, c_isDigit (by omega), clp_some, hl, if_neg (by rw [bI_0]; decide), clp_some, wrF_eq, uI_add]
      have e1 : nI (dgt X s k) * nI 10 + (nI (X (s + k)) - nI 48) = nI (dgt X s (k + 1)) := by
        rw [uI_sub (by omega), uI_mul, uI_add]
        rfl
      rw [e1]
      have hF : Fz (fun a j => a = 2 ∧ j = 7) (fun a j => a = 6 ∧ j = c) h (sI h 2 7 (nI (s + k + 1))) := Fz.sI ⟨rfl, rfl⟩
      obtain ⟨h', g1, g2, g3, g4⟩ := ih (k + 1) (sI h 2 7 (nI (s + k + 1))) (hL.fz hF (by omega) (by omega) (by intro j; omega) (by intro j; omega)) (by omega) (by omega) (by rw [sI_1, if_pos ⟨rfl, rfl⟩]; rfl) (by rw [sI_1, if_neg (by omega)]; exact h8)
      exact ⟨h', g1, g2, g3, hF.tr g4⟩
theorem c_readNumber {rl : Bool} {n : Nat} {X : Nat → Nat} (hX : TX n X) {s c : Nat} (hs : s ≤ n) (hc : c < 1601) {h : CH} (hL : LX rl n X h) (h7 : h.1 2 7 = nI s) (h8 : h.1 2 8 = nI c) :
    ∃ h', f_X8_readNumber h = some (nI (if 4 < exN isD X n s - s ∨ isL (X (exN isD X n s)) = true then 27 else 25), h') ∧ h'.1 2 7 = nI (exN isD X n s) ∧ (¬ 4 < exN isD X n s - s → h'.2 6 c = nL (dgt X s (exN isD X n s - s))) ∧ Fz (fun a j => a = 2 ∧ j = 7) (fun a j => a = 6 ∧ j = c) h h' := by
  have hn := hX.1
  obtain ⟨l1, l2, l3, l4⟩ := exN_sp (p := isD) hX (by decide) s
  have l4 := l4 hs
  unfold f_X8_readNumber
  rw [h7]
  exact c_rnL hX hs hc FU 0 h hL (by show _ < 100000; omega) l1 h7 h8
