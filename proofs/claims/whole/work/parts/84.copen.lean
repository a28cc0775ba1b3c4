/-! the class cuts a text into tokens -/
/-- the table's row c holds token x -/
def Rw (x : Tk) (c : Nat) (h : CH) : Prop := h.1 4 c = nI (kC x) ∧ h.1 5 c = nI (kS x) ∧ (kC x = 25 → h.2 6 c = nL (kV x)) ∧ (kC x ≤ 24 → h.2 6 c = nL (w5 (kW x)))
def xRT (c : Nat) (a k : Nat) : Prop := (a = 2 ∧ (k = 7 ∨ k = 8)) ∨ (a = 4 ∧ k = c) ∨ (a = 5 ∧ k = c)
def lRT (c : Nat) (a k : Nat) : Prop := a = 6 ∧ k = c
theorem c_readKind {rl : Bool} {n : Nat} {X : Nat → Nat} (hX : TX n X) {j c : Nat} (hj : j ≤ n) (hc : c < 1601) {h : CH} (hL : LX rl n X h) (h7 : h.1 2 7 = nI (exN isB X n j)) (h8 : h.1 2 8 = nI c) :
    ∃ h', f_X8_readKind (nI (X (exN isB X n j))) h = some (nI (kC (tok rl n X j)), h') ∧ (¬ kLast (tok rl n X j) → h'.1 2 7 = nI (kE (tok rl n X j))) ∧ (kC (tok rl n X j) = 25 → h'.2 6 c = nL (kV (tok rl n X j))) ∧ (kC (tok rl n X j) ≤ 24 → h'.2 6 c = nL (w5 (kW (tok rl n X j)))) ∧ Fz (fun a k => a = 2 ∧ k = 7) (lRT c) h h' := by
  have hn := hX.1
  have sp := tok_sp (rl := rl) hX hj
  obtain ⟨b1, b2, b3, b4⟩ := exN_sp (p := isB) hX (by decide) j
  have b4 := b4 hj
  unfold f_X8_readKind
  have x1 : (nI (exN isB X n j) < nI n) = (exN isB X n j < n) := uI_lt (by omega) (by omega)
  rw [h7, hL.1]
  simp only [x1]
  unfold tok at sp ⊢
  generalize exN isB X n j = s at *
  have hxs : X s < 2147483648 := by have := hX.2.1 s; omega
  by_cases c1 : n ≤ s
  · rw [if_pos c1] at sp ⊢
    rw [if_neg (by omega)]
    exact ⟨h, rfl, fun z => absurd (Or.inl rfl) z, fun z => absurd z (by simp [kC]), fun z => absurd z (by simp [kC]), Fz.rf⟩
  rw [if_neg c1] at sp ⊢
  rw [if_pos (by omega), c_isLetter hxs, clp_some, ifB]
  by_cases c2 : isL (X s) = true
  · rw [if_pos c2] at sp ⊢
    rw [if_pos c2]
    obtain ⟨h', g1, g2, g3, g4⟩ := c_readWord hX b4 hc hL h7 h8
    rw [g1, cl_some]
    by_cases c8 : 8 < exN isL X n s - s
    · rw [if_pos c8] at sp ⊢
      rw [if_pos c8]
      exact ⟨h', rfl, fun z => absurd (Or.inr rfl) z, fun z => absurd z (by simp [kC]), fun z => absurd z (by simp [kC]), g4⟩
    · rw [if_neg c8] at sp ⊢
      rw [if_neg c8]
      refine ⟨h', rfl, fun _ => g2, fun z => ?_, fun _ => g3 c8, g4⟩
      exact absurd (show rsv _ = 25 from z) (by have := rsv_le (ltr X s (exN isL X n s - s)); omega)
  rw [if_neg c2] at sp ⊢
  rw [if_neg c2, c_isDigit hxs, clp_some, ifB]
  by_cases c4 : isD (X s) = true
  · rw [if_pos c4] at sp ⊢
    rw [if_pos c4]
    obtain ⟨h', g1, g2, g3, g4⟩ := c_readNumber hX b4 hc hL h7 h8
    rw [g1, cl_some]
    by_cases c8 : 4 < exN isD X n s - s ∨ isL (X (exN isD X n s)) = true
    · rw [if_pos c8] at sp ⊢
      rw [if_pos c8]
      exact ⟨h', rfl, fun z => absurd (Or.inr rfl) z, fun z => absurd z (by simp [kC]), fun z => absurd z (by simp [kC]), g4⟩
    · rw [if_neg c8] at sp ⊢
      rw [if_neg c8]
      exact ⟨h', rfl, fun _ => g2, fun _ => g3 (fun z => c8 (Or.inl z)), fun z => absurd z (by simp [kC]), g4⟩
  rw [if_neg c4] at sp ⊢
  have hF : Fz (fun a k => a = 2 ∧ k = 7) (lRT c) h (sI h 2 7 (nI (s + 1))) := Fz.sI ⟨rfl, rfl⟩
  rw [if_neg c4, wrF_eq, uI_add, c_isSign (rl := rl) hxs (by rw [sI_1, if_neg (by omega)]; exact hL.2.1), clp_some, ifB]
  by_cases c5 : isS rl (X s) = true
  · rw [if_pos c5] at sp ⊢
    rw [if_pos c5]
    refine ⟨_, rfl, fun _ => by rw [sI_1, if_pos ⟨rfl, rfl⟩]; rfl, fun z => ?_, fun z => ?_, hF⟩
    · have := isS_rg c5; exact absurd (show X s = 25 from z) (by omega)
    · have := isS_rg c5; exact absurd (show X s ≤ 24 from z) (by omega)
  · rw [if_neg c5] at sp ⊢
    rw [if_neg c5]
    exact ⟨_, rfl, fun z => absurd (Or.inr rfl) z, fun z => absurd z (by simp [kC]), fun z => absurd z (by simp [kC]), hF⟩
theorem c_rtL {rl : Bool} {n : Nat} {X : Nat → Nat} (hX : TX n X) {j c : Nat} (hj : j ≤ n) (hc : c < 1601) : ∀ f k h, LX rl n X h → exN isB X n j - (j + k) < f → j + k ≤ exN isB X n j → h.1 2 7 = nI (j + k) → h.1 2 8 = nI c →
    ∃ h', f_X8_readToken_L5 f (nI (j + k)) h = some (bI (decide (¬ kLast (tok rl n X j))), h') ∧ h'.1 2 8 = nI (c + 1) ∧ Rw (tok rl n X j) c h' ∧ (¬ kLast (tok rl n X j) → h'.1 2 7 = nI (kE (tok rl n X j))) ∧ Fz (xRT c) (lRT c) h h' := by
  have hn := hX.1
  obtain ⟨l1, l2, l3, l4⟩ := exN_sp (p := isB) hX (by decide) j
  have l4 := l4 hj
  intro f
  induction f with
  | zero => intro k h _ h2; omega
  | succ f ih =>
    intro k h hL hf hk h7 h8
    unfold f_X8_readToken_L5
    rw [jn_eq, hL.1]
    have x1 : (nI (j + k) < nI n) = (j + k < n) := uI_lt (by omega) (by omega)
    simp only [x1]
    by_cases ce : j + k = exN isB X n j
    · have hk : kS (tok rl n X j) = exN isB X n j := by unfold tok kS; split <;> (try rfl); split <;> (try (split <;> rfl)); split <;> (try (split <;> rfl))
      have ex : ∃ h', (if h.1 2 8 < nI 1601 then wrA h 5 1601 (h.1 2 8) (h.1 2 7) fun h_3 => wrL h_3 6 1601 (h_3.1 2 8) 0 fun h_4 => clp (f_X8_byteAt (h_4.1 2 7) h_4) fun v_5 => cl (f_X8_readKind v_5 h_4) fun v_6 h_7 => wrA h_7 4 1601 (h_7.1 2 8) v_6 fun h_8 => wrF h_8 2 8 (h_8.1 2 8 + nI 1) fun h_9 => (if v_6 = nI 26 then some (nI 0, h_9) else (if v_6 = nI 27 then some (nI 0, h_9) else some (nI 1, h_9))) else some (nI 0, h)) = some (bI (decide (¬ kLast (tok rl n X j))), h') ∧ h'.1 2 8 = nI (c + 1) ∧ Rw (tok rl n X j) c h' ∧ (¬ kLast (tok rl n X j) → h'.1 2 7 = nI (kE (tok rl n X j))) ∧ Fz (xRT c) (lRT c) h h' := by
        have f1 : Fz (xRT c) (lRT c) h (sI h 5 c (nI (j + k))) := Fz.sI (Or.inr (Or.inr ⟨rfl, rfl⟩))
        have f2 : Fz (xRT c) (lRT c) (sI h 5 c (nI (j + k))) (sL (sI h 5 c (nI (j + k))) 6 c 0) := Fz.sL ⟨rfl, rfl⟩
        have f12 := f1.tr f2
        have a7 : (sL (sI h 5 c (nI (j + k))) 6 c 0).1 2 7 = nI (exN isB X n j) := by rw [sL_1, sI_1, if_neg (by omega), h7, ce]
        have a8 : (sL (sI h 5 c (nI (j + k))) 6 c 0).1 2 8 = nI c := by rw [sL_1, sI_1, if_neg (by omega), h8]
        have a5 : (sL (sI h 5 c (nI (j + k))) 6 c 0).1 5 c = nI (exN isB X n j) := by rw [sL_1, sI_1, if_pos ⟨rfl, rfl⟩, ce]
        have hL2 : LX rl n X (sL (sI h 5 c (nI (j + k))) 6 c 0) := hL.fz f12 (by unfold xRT; omega) (by unfold xRT; omega) (by intro i; unfold xRT; omega) (by intro i; unfold lRT; omega)
        rw [h8, if_pos (by rw [uI_lt (by omega) (by omega)]; omega), wrA_nI (by omega) (by omega), h7, show (sI h 5 c (nI (j + k))).1 2 8 = nI c from by rw [sI_1, if_neg (by omega)]; exact h8, wrL_nI (by omega) (by omega)]
        generalize sL (sI h 5 c (nI (j + k))) 6 c 0 = h4 at *
        rw [a7, c_byteAt hX hL2 (by omega), clp_some]
        obtain ⟨h', g1, g2, g3, g4, g5⟩ := c_readKind hX hj hc hL2 a7 a8
        rw [g1, cl_some]
        have b8 : h'.1 2 8 = nI c := by rw [g5.1 _ _ (by omega)]; exact a8
        have b5 : h'.1 5 c = nI (exN isB X n j) := by rw [g5.1 _ _ (by omega)]; exact a5
        rw [b8, wrA_nI (by omega) (by omega), wrF_eq, show (sI h' 4 c (nI (kC (tok rl n X j)))).1 2 8 = nI c from by rw [sI_1, if_neg (by omega)]; exact b8, uI_add]
        have sp := tok_sp (rl := rl) hX hj
        have hkc : kC (tok rl n X j) < 2147483648 := by omega
        have f3 : Fz (xRT c) (lRT c) h' (sI (sI h' 4 c (nI (kC (tok rl n X j)))) 2 8 (nI (c + 1))) := (Fz.sI (Or.inr (Or.inl ⟨rfl, rfl⟩))).tr (Fz.sI (Or.inl ⟨rfl, Or.inr rfl⟩))
        have ftot : Fz (xRT c) (lRT c) h (sI (sI h' 4 c (nI (kC (tok rl n X j)))) 2 8 (nI (c + 1))) := (f12.tr (g5.mono (fun x k q => Or.inl ⟨q.1, Or.inl q.2⟩) (fun _ _ q => q))).tr f3
        have hR : Rw (tok rl n X j) c (sI (sI h' 4 c (nI (kC (tok rl n X j)))) 2 8 (nI (c + 1))) := by
          refine ⟨by rw [sI_1, if_neg (by omega), sI_1, if_pos ⟨rfl, rfl⟩], by rw [sI_1, if_neg (by omega), sI_1, if_neg (by omega), b5, hk], fun z => g3 z, fun z => g4 z⟩
        refine ⟨sI (sI h' 4 c (nI (kC (tok rl n X j)))) 2 8 (nI (c + 1)), ?_, by rw [sI_1, if_pos ⟨rfl, rfl⟩], hR, fun z => by rw [sI_1, if_neg (by omega), sI_1, if_neg (by omega)]; exact g2 z, ftot⟩
        simp only [uI_inj hkc (show 26 < 2147483648 by omega), uI_inj hkc (show 27 < 2147483648 by omega)]
        by_cases q1 : kC (tok rl n X j) = 26
        · rw [if_pos q1, decide_eq_false (fun z => z (Or.inl q1))]; rfl
        · rw [if_neg q1]
          by_cases q2 : kC (tok rl n X j) = 27
          · rw [if_pos q2, decide_eq_false (fun z => z (Or.inr q2))]; rfl
          · rw [if_neg q2, decide_eq_true (p := ¬ kLast (tok rl n X j)) (fun z => z.elim q1 q2)]; rfl
      have l3c : isB (X (j + k)) = false := by rw [ce]; exact l3
      by_cases cn : j + k < n
      · rw [if_pos cn, c_byteAt hX hL (by omega), clp_some, c_isBlank (by have := hX.2.1 (j + k); omega), clp_some, l3c, if_pos (by rw [bI_0])]
        exact ex
      · rw [if_neg cn]
        exact ex
    · have cn : j + k < n := by omega
      have hl := l2 (j + k) (by omega) (by omega)
      have hx := of_decide_eq_true hl
      rw [if_pos cn, c_byteAt hX hL (by omega), clp_some, c_isBlank (by omega), clp_some, hl, if_neg (by rw [bI_0]; decide), wrF_eq, uI_add]
      have hF : Fz (xRT c) (lRT c) h (sI h 2 7 (nI (j + k + 1))) := Fz.sI (Or.inl ⟨rfl, Or.inl rfl⟩)
      obtain ⟨h', g1, g2, g3, g4, g5⟩ := ih (k + 1) (sI h 2 7 (nI (j + k + 1))) (hL.fz hF (by unfold xRT; omega) (by unfold xRT; omega) (by intro i; unfold xRT; omega) (by intro i; unfold lRT; omega)) (by omega) (by omega) (by rw [sI_1, if_pos ⟨rfl, rfl⟩]; rfl) (by rw [sI_1, if_neg (by omega)]; exact h8)
      exact ⟨h', g1, g2, g3, g4, hF.tr g5⟩
/-- the whole table -/
def TBL (T : Nat → Tk) (N : Nat) (h : CH) : Prop := h.1 2 8 = nI (N + 1) ∧ ∀ i, i ≤ N → Rw (T i) i h
theorem Rw.fz {S L : Nat → Nat → Prop} {x : Tk} {c : Nat} {h h' : CH} (r : Rw x c h) (hF : Fz S L h h') (h1 : ¬ S 4 c) (h2 : ¬ S 5 c) (h3 : ¬ L 6 c) : Rw x c h' := by
  obtain ⟨r1, r2, r3, r4⟩ := r
  exact ⟨by rw [hF.1 _ _ h1]; exact r1, by rw [hF.1 _ _ h2]; exact r2, fun z => by rw [hF.2 _ _ h3]; exact r3 z, fun z => by rw [hF.2 _ _ h3]; exact r4 z⟩
theorem TBL.fz {S L : Nat → Nat → Prop} {T : Nat → Tk} {N : Nat} {h h' : CH} (t : TBL T N h) (hF : Fz S L h h') (h0 : ¬ S 2 8) (h1 : ∀ c, ¬ S 4 c) (h2 : ∀ c, ¬ S 5 c) (h3 : ∀ c, ¬ L 6 c) : TBL T N h' :=
  ⟨by rw [hF.1 _ _ h0]; exact t.1, fun i hi => (t.2 i hi).fz hF (h1 i) (h2 i) (h3 i)⟩
/-- at token i -/
def CU (T : Nat → Tk) (N i : Nat) (h : CH) : Prop := TBL T N h ∧ i ≤ N ∧ h.1 2 9 = nI i ∧ h.1 2 10 = nI (kC (T i)) ∧ (kC (T i) = 25 → h.1 2 11 = nI (kV (T i))) ∧ (kC (T i) ≤ 24 → h.2 2 12 = nL (w5 (kW (T i))))
def xSt (a k : Nat) : Prop := a = 2 ∧ 9 ≤ k ∧ k ≤ 11
def lSt (a k : Nat) : Prop := a = 2 ∧ k = 12
theorem c_step0 {T : Nat → Tk} {N i n : Nat} {h : CH} (hT : TG n T N) (t : TBL T N h) (hi : i ≤ N) (h9 : h.1 2 9 + nI 1 = nI i) : ∃ h', f_X8_step h = some ((), h') ∧ CU T N i h' ∧ Fz xSt lSt h h' := by
  have hn := hT.1
  have hN := hT.2.2.1
  unfold f_X8_step
  have t2 := t.2 i hi
  rw [jn_eq, h9, t.1, if_pos (by rw [uI_lt (by omega) (by omega)]; omega), wrF_eq]
  have e9 : (sI h 2 9 (nI i)).1 2 9 = nI i := by rw [sI_1, if_pos ⟨rfl, rfl⟩]
  simp only [e9]
  rw [if_neg (lt0n (by omega)), if_pos (by rw [uI_lt (by omega) (by omega)]; omega), rdA_nI (by omega) (by omega), wrF_eq]
  have e9b : (sI (sI h 2 9 (nI i)) 2 10 ((sI h 2 9 (nI i)).1 4 i)).1 2 9 = nI i := by rw [sI_1, if_neg (by omega)]; exact e9
  rw [e9b, rdL_nI (by omega) (by omega), wrJ_eq, sL_1, e9b, rdL_nI (by omega) (by omega), wrF_eq]
  have q : ∀ v, (sI h 2 9 v).2 = h.2 := fun _ => rfl
  have q4 : (sI h 2 9 (nI i)).1 4 i = nI (kC (T i)) := by rw [sI_1, if_neg (by omega)]; exact t2.1
  rw [q4]
  have hF : Fz xSt lSt h (sI (sL (sI (sI h 2 9 (nI i)) 2 10 (nI (kC (T i)))) 2 12 (h.2 6 i)) 2 11 ((h.2 6 i).toInt32)) := (((Fz.sI (by unfold xSt; omega)).tr (Fz.sI (by unfold xSt; omega))).tr (Fz.sL (by unfold lSt; omega))).tr (Fz.sI (by unfold xSt; omega))
  refine ⟨sI (sL (sI (sI h 2 9 (nI i)) 2 10 (nI (kC (T i)))) 2 12 (h.2 6 i)) 2 11 ((h.2 6 i).toInt32), ?_, ⟨t.fz hF (by unfold xSt; omega) (by intro c; unfold xSt; omega) (by intro c; unfold xSt; omega) (by intro c; unfold lSt; omega), hi, ?_, ?_, fun z => ?_, fun z => ?_⟩, hF⟩
  · rw [sI_2, sI_2, sL_2, if_neg (by omega), sI_2, sI_2]
  · rw [sI_1, if_neg (by omega), sL_1, sI_1, if_neg (by omega), sI_1, if_pos ⟨rfl, rfl⟩]
  · rw [sI_1, if_neg (by omega), sL_1, sI_1, if_pos ⟨rfl, rfl⟩]
  · rw [sI_1, if_pos ⟨rfl, rfl⟩, t2.2.2.1 z, nL_i32]
  · rw [sI_2, sL_2, if_pos ⟨rfl, rfl⟩, t2.2.2.2 z]
theorem c_step {T : Nat → Tk} {N i n : Nat} {h : CH} (hT : TG n T N) (u : CU T N i h) (hi : ¬ kLast (T i)) : i + 1 ≤ N ∧ ∃ h', f_X8_step h = some ((), h') ∧ CU T N (i + 1) h' ∧ Fz xSt lSt h h' := by
  obtain ⟨u1, u2, u3, -⟩ := u
  have : i < N := by
    by_cases e : i = N
    · exact absurd (e ▸ hT.2.1) hi
    · omega
  exact ⟨this, c_step0 hT u1 this (by rw [u3, uI_add])⟩
/-- a fault at token i -/
def flK (T : Nat → Tk) (i k : Nat) : Nat := if kC (T i) = 27 then 1 else k
def xRf (a k : Nat) : Prop := a = 2 ∧ (k = 13 ∨ k = 14)
theorem c_refuse {T : Nat → Tk} {N i n : Nat} {h : CH} (hT : TG n T N) (u : CU T N i h) (k : Nat) : ∃ h', f_X8_refuse (nI k) h = some (nI 0, h') ∧ h'.1 2 13 = nI (flK T i k) ∧ h'.1 2 14 = nI (kS (T i)) ∧ Fz xRf (fun _ _ => False) h h' := by
  obtain ⟨u1, u2, u3, u4, -⟩ := u
  have hn := hT.1
  have hN := hT.2.2.1
  have hk : kC (T i) < 2147483648 := by
    by_cases e : i = N
    · have := hT.2.1; unfold kLast at this; rw [e]; omega
    · have := (hT.2.2.2.1 i (by omega)).2; omega
  unfold f_X8_refuse
  have x1 : (nI (kC (T i)) = nI 27) = (kC (T i) = 27) := uI_inj hk (by omega)
  simp only [jn_eq]
  rw [u4]
  simp only [x1]
  have st : ∀ v, ∃ h', (wrF h 2 13 v fun h_3 => jn (fun (s_4 : Int32) => wrF h_3 2 14 s_4 fun h_6 => some (nI 0, h_6)) fun (j_5 : Int32 → Option (Int32 × CH)) => jn (j_5 (-1)) fun (j_7 : Option (Int32 × CH)) => (if h_3.1 2 9 < 0 then j_7 else (if h_3.1 2 9 < nI 1601 then rdA h_3 5 1601 (h_3.1 2 9) fun v_10 => j_5 v_10 else j_7))) = some (nI 0, h') ∧ h'.1 2 13 = v ∧ h'.1 2 14 = nI (kS (T i)) ∧ Fz xRf (fun _ _ => False) h h' := by
    intro v
    have e9 : (sI h 2 13 v).1 2 9 = nI i := by rw [sI_1, if_neg (by omega)]; exact u3
    rw [wrF_eq, jn_eq, jn_eq, e9, if_neg (lt0n (by omega)), if_pos (by rw [uI_lt (by omega) (by omega)]; omega), rdA_nI (by omega) (by omega), show (sI h 2 13 v).1 5 i = nI (kS (T i)) from by rw [sI_1, if_neg (by omega)]; exact (u1.2 i u2).2.1]
    exact ⟨_, rfl, by rw [sI_1, if_neg (by omega), sI_1, if_pos ⟨rfl, rfl⟩], by rw [sI_1, if_pos ⟨rfl, rfl⟩], (Fz.sI (by unfold xRf; omega)).tr (Fz.sI (by unfold xRf; omega))⟩
  unfold flK
  by_cases c : kC (T i) = 27
  · rw [if_pos c, if_pos c]; exact st _
  · rw [if_neg c, if_neg c]; exact st _
