/-! papers -/
abbrev Pp : Type := Nat × Nat × (Nat → Int32) × (Nat → Int32) × (Nat → Int32) × (Nat → Int32) × (Nat → Int32) × (Nat → Int32)
def pN (p : Pp) : Nat := p.1
def pT (p : Pp) : Nat := p.2.1
def pfa (p : Pp) : Nat → Int32 := p.2.2.1
def pot (p : Pp) : Nat → Int32 := p.2.2.2.1
def psh (p : Pp) : Nat → Int32 := p.2.2.2.2.1
def ppl (p : Pp) : Nat → Int32 := p.2.2.2.2.2.1
def pto (p : Pp) : Nat → Int32 := p.2.2.2.2.2.2.1
def pun (p : Pp) : Nat → Int32 := p.2.2.2.2.2.2.2
def VP (F : Nat) (p : Pp) : Prop := pN p ≤ 40 ∧ pT p ≤ 100000 ∧ ∀ i, i < pN p → (∃ n, n < F ∧ pfa p i = nI n) ∧ (∃ n, n < F ∧ pot p i = nI n) ∧ (∃ n, n ≤ 10 ∧ psh p i = nI n) ∧ (∃ n, n ≤ 6099 ∧ n / 10 % 10 < 4 ∧ ppl p i = nI n) ∧ (∃ n, n ≤ 100000 ∧ pto p i = nI n) ∧ (pun p i = -1 ∨ ∃ n, n ≤ 100000 ∧ pun p i = nI n)
def CP (b : Nat) (p : Pp) (h : CH) : Prop := h.1 b 0 = nI (pN p) ∧ h.1 b 1 = nI (pT p) ∧ ∀ i, i < pN p → h.1 (b + 1) i = pfa p i ∧ h.1 (b + 2) i = pot p i ∧ h.1 (b + 3) i = psh p i ∧ h.1 (b + 4) i = ppl p i ∧ h.1 (b + 5) i = pto p i ∧ h.1 (b + 6) i = pun p i
def MP (p : Pp) (h : CH) : Prop := h.1 151 60 = nI (pN p) ∧ h.1 151 61 = nI (pT p) ∧ ∀ i, i < pN p → h.1 178 i = pfa p i ∧ h.1 179 i = pot p i ∧ h.1 180 i = psh p i ∧ h.1 181 i = ppl p i ∧ h.1 182 i = pto p i ∧ h.1 183 i = pun p i
theorem CP.fr {S : Nat → Nat → Prop} {b : Nat} {p : Pp} {h h' : CH} (c : CP b p h) (hF : Fr S h h') (hS : ∀ a k, b ≤ a → a ≤ b + 6 → ¬ S a k) : CP b p h' := by
  obtain ⟨c1, c2, c3⟩ := c
  have g : ∀ a k, b ≤ a → a ≤ b + 6 → h'.1 a k = h.1 a k := fun a k h1 h2 => hF.1 a k (hS a k h1 h2)
  refine ⟨by rw [g _ _ (by omega) (by omega)]; exact c1, by rw [g _ _ (by omega) (by omega)]; exact c2, fun i hi => ?_⟩
  obtain ⟨d1, d2, d3, d4, d5, d6⟩ := c3 i hi
  exact ⟨by rw [g _ _ (by omega) (by omega)]; exact d1, by rw [g _ _ (by omega) (by omega)]; exact d2, by rw [g _ _ (by omega) (by omega)]; exact d3, by rw [g _ _ (by omega) (by omega)]; exact d4, by rw [g _ _ (by omega) (by omega)]; exact d5, by rw [g _ _ (by omega) (by omega)]; exact d6⟩
theorem MP.fr {S : Nat → Nat → Prop} {p : Pp} {h h' : CH} (c : MP p h) (hF : Fr S h h') (hS : ∀ a k, 178 ≤ a → a ≤ 183 → ¬ S a k) (h60 : ¬ S 151 60) (h61 : ¬ S 151 61) : MP p h' := by
  obtain ⟨c1, c2, c3⟩ := c
  have g : ∀ a k, 178 ≤ a → a ≤ 183 → h'.1 a k = h.1 a k := fun a k h1 h2 => hF.1 a k (hS a k h1 h2)
  refine ⟨by rw [hF.1 _ _ h60]; exact c1, by rw [hF.1 _ _ h61]; exact c2, fun i hi => ?_⟩
  obtain ⟨d1, d2, d3, d4, d5, d6⟩ := c3 i hi
  exact ⟨by rw [g _ _ (by omega) (by omega)]; exact d1, by rw [g _ _ (by omega) (by omega)]; exact d2, by rw [g _ _ (by omega) (by omega)]; exact d3, by rw [g _ _ (by omega) (by omega)]; exact d4, by rw [g _ _ (by omega) (by omega)]; exact d5, by rw [g _ _ (by omega) (by omega)]; exact d6⟩
theorem CP.tc {p : Pp} {h h' : CH} (c : CP 71 p h) (hF : Fr TC h h') : CP 71 p h' := c.fr hF (fun a k h1 h2 h3 => by unfold TC at h3; omega)
theorem MP.tm {p : Pp} {h h' : CH} (c : MP p h) (hF : Fr TM h h') : MP p h' := c.fr hF (fun a k h1 h2 h3 => by unfold TM at h3; omega) (by unfold TM; omega) (by unfold TM; omega)
theorem c_hasP {p : Pp} {h : CH} (x : Int32) (hC : CP 71 p h) (hn : pN p ≤ 40) : f_X2_has_71 x h = some (bI (isF (pN p) x)) := by
  unfold f_X2_has_71
  rw [hC.1, isF_if]
  cases hx : isF (pN p) x
  · rfl
  obtain ⟨k, hk, rfl⟩ := isF_of hx (by omega)
  have hk2 : k < 40 := by omega
  simp (disch := omega) only [clp_some, cl_some, jn_eq, uI_add, uI_mul, uI_lt, uI_lt0, uI_0lt, uI_eq0, uI_inj, uI_ne1, n1_ne, n1_lt, uI_lt1, rdA_nI, rdQ_nI, rdL_nI, wrA_nI, wrL_nI, wrF_eq, wrJ_eq, dvd_nI, ite_true, ite_false, if_true, if_false, bI_t, bI_f, bI_0, decide_true, decide_false, Nat.one_ne_zero, Nat.reduceEqDiff, Nat.reduceLT, Nat.reduceLeDiff, Nat.reduceAdd, Nat.reduceMul, Nat.reduceSub, Nat.reduceDiv, hk2]
/-- counts as known at k -/
def cnt (p : Pp) (x k : Int32) : Bool := isF (pN p) x && (!decide (k < pto p x.toNatClampNeg) && (decide (pun p x.toNatClampNeg = -1) || decide (k < pun p x.toNatClampNeg)))
theorem c_counts {F : Nat} {p : Pp} {h : CH} (x k : Int32) (hC : CP 71 p h) (hV : VP F p) : f_X2_counts_71 x k h = some (bI (cnt p x k)) := by
  unfold f_X2_counts_71 cnt
  rw [c_hasP x hC hV.1, clp_some, ifB]
  cases hx : isF (pN p) x
  · rfl
  have v1 := hV.1
  obtain ⟨i, hi, rfl⟩ := isF_of hx (by omega)
  obtain ⟨d1, d2, d3, d4, d5, d6⟩ := hC.2.2 i hi
  have d5 : h.1 76 i = pto p i := d5
  have d6 : h.1 77 i = pun p i := d6
  simp only [if_true, jn_eq]
  rw [rdA_nI (by omega) (by omega), rdA_nI (by omega) (by omega), rdA_nI (by omega) (by omega), uI_toNat (by omega), d5, d6]
  by_cases c1 : k < pto p i
  · simp [c1, bI]
  · by_cases c2 : pun p i = -1
    · simp [c1, c2, bI]
    · by_cases c3 : k < pun p i <;> simp [c1, c2, c3, bI]
theorem un_neg {F : Nat} {p : Pp} (hV : VP F p) {i : Nat} (hi : i < pN p) : (pun p i < 0) = (pun p i = -1) := by
  rcases (hV.2.2 i hi).2.2.2.2.2 with e | ⟨n, hn, e⟩
  · rw [e]; decide
  · rw [e, uI_lt0 (by omega), uI_ne1 (by omega)]
theorem m_counts {F : Nat} {p : Pp} {h : CH} (x k : Int32) (hC : MP p h) (hV : VP F p) : f_X12_counts x k h = some (bI (cnt p x k)) := by
  have v1 := hV.1
  unfold f_X12_counts cnt
  rw [hC.1, m_isIn, clp_some, inR_F (by omega), ifB]
  cases hx : isF (pN p) x
  · rfl
  obtain ⟨i, hi, rfl⟩ := isF_of hx (by omega)
  obtain ⟨d1, d2, d3, d4, d5, d6⟩ := hC.2.2 i hi
  simp only [if_true, jn_eq]
  rw [rdA_nI (by omega) (by omega), rdA_nI (by omega) (by omega), rdA_nI (by omega) (by omega), uI_toNat (by omega), d5, d6]
  simp only [un_neg hV hi]
  by_cases c1 : k < pto p i
  · simp [c1, bI]
  · by_cases c2 : pun p i = -1
    · simp [c1, c2, bI]
    · by_cases c3 : k < pun p i <;> simp [c1, c2, c3, bI]
/-- a new paper -/
def up1 (f : Nat → Int32) (n : Nat) (v : Int32) : Nat → Int32 := fun i => if i = n then v else f i
def ppN (p : Pp) (f o s q : Int32) : Pp := (pN p + 1, pT p, up1 (pfa p) (pN p) f, up1 (pot p) (pN p) o, up1 (psh p) (pN p) s, up1 (ppl p) (pN p) q, up1 (pto p) (pN p) (nI (pT p)), up1 (pun p) (pN p) (-1))
/-- a place: 100 * year + 10 * printer + street -/
def plB (q : Int32) : Bool := inR (nI 0) (nI 6099) q && decide (q / nI 10 - q / nI 10 / nI 10 * nI 10 < nI 4)
def paB (t : Tn) (p : Pp) (f o s q : Int32) : Bool := isF (tF t) f && (isF (tF t) o && (inR (nI 0) (nI 10) s && (plB q && decide (pN p < 40))))
theorem VP.ppN {t : Tn} {p : Pp} (hV : VP (tF t) p) (h3 : tF t ≤ 16) {f o s q : Int32} (hb : paB t p f o s q = true) : VP (tF t) (ppN p f o s q) := by
  unfold paB plB at hb
  simp only [Bool.and_eq_true] at hb
  obtain ⟨h1, h2, hs, ⟨hq, hq2⟩, hn⟩ := hb
  obtain ⟨a, ha, rfl⟩ := isF_of h1 (by omega)
  obtain ⟨b, hb, rfl⟩ := isF_of h2 (by omega)
  obtain ⟨c, hc, rfl⟩ := inR_nI (by omega) hs
  obtain ⟨d, hd, rfl⟩ := inR_nI (by omega) hq
  have hn := of_decide_eq_true hn
  have hq2 := of_decide_eq_true hq2
  rw [uI_div (by omega) (by omega), uI_rem (by omega) (by omega), uI_lt (by omega) (by omega)] at hq2
  obtain ⟨v1, v2, v3⟩ := hV
  refine ⟨by show pN p + 1 ≤ 40; omega, v2, fun i hi => ?_⟩
  have hi : i < pN p + 1 := hi
  show (∃ n, n < tF t ∧ up1 (pfa p) (pN p) (nI a) i = nI n) ∧ (∃ n, n < tF t ∧ up1 (pot p) (pN p) (nI b) i = nI n) ∧ (∃ n, n ≤ 10 ∧ up1 (psh p) (pN p) (nI c) i = nI n) ∧ (∃ n, n ≤ 6099 ∧ n / 10 % 10 < 4 ∧ up1 (ppl p) (pN p) (nI d) i = nI n) ∧ (∃ n, n ≤ 100000 ∧ up1 (pto p) (pN p) (nI (pT p)) i = nI n) ∧ (up1 (pun p) (pN p) (-1) i = -1 ∨ ∃ n, n ≤ 100000 ∧ up1 (pun p) (pN p) (-1) i = nI n)
  unfold up1
  by_cases e : i = pN p
  · simp only [e, if_true]
    exact ⟨⟨a, ha, rfl⟩, ⟨b, hb, rfl⟩, ⟨c, hc, rfl⟩, ⟨d, hd, hq2, rfl⟩, ⟨pT p, v2, rfl⟩, Or.inl trivial⟩
  · simp only [e, if_false]
    exact v3 i (by omega)
def SP (a _ : Nat) : Prop := 71 ≤ a ∧ a ≤ 77
def SPm (a k : Nat) : Prop := (178 ≤ a ∧ a ≤ 183) ∨ (a = 151 ∧ (k = 60 ∨ k = 61))
theorem c_isPlace (q : Int32) (h : CH) : f_X11_isPlace q h = some (bI (plB q)) := by
  unfold f_X11_isPlace plB
  by_cases h0 : q < 0
  · rw [if_pos h0]
    have : inR (nI 0) (nI 6099) q = false := by unfold inR; rw [← uI_z]; simp [h0]
    rw [this]; rfl
  · rw [if_neg h0, c_isYear, clp_some, ifB]
    obtain ⟨k, hk, rfl⟩ := uI_of h0
    have e1 : inR (nI 0) (nI 60) (nI k / nI 100) = inR (nI 0) (nI 6099) (nI k) := by
      rw [uI_div hk (by omega)]
      unfold inR
      rw [← uI_z]
      simp only [uI_lt0 (show k < 2147483648 by omega), uI_lt0 (show k / 100 < 2147483648 by omega), uI_lt (show 60 < 2147483648 by omega) (show k / 100 < 2147483648 by omega), uI_lt (show 6099 < 2147483648 by omega) hk]
      congr 1
      simp only [not_false_eq_true, true_and, eq_iff_iff]
      omega
    rw [e1]
    cases inR (nI 0) (nI 6099) (nI k)
    · rfl
    simp only [if_true, Bool.true_and]
    by_cases c : nI k / nI 10 - nI k / nI 10 / nI 10 * nI 10 < nI 4 <;> simp [c, bI]
theorem c_paper {t : Tn} {p : Pp} {h : CH} (f o s q : Int32) (hT : CT 7 t h) (hVT : VT t) (hC : CP 71 p h) (hV : VP (tF t) p) : (paB t p f o s q = true → ∃ h', f_X11_paper f o s q h = some (nI (pN p), h') ∧ CP 71 (ppN p f o s q) h' ∧ Fr SP h h') ∧ (paB t p f o s q = false → f_X11_paper f o s q h = some (-1, h)) := by
  have v3 := hVT.2.2.1
  have v1 := hV.1
  unfold f_X11_paper paB
  rw [c_has f hT.2.2.1 v3, clp_some, ifB, c_has o hT.2.2.1 v3, clp_some, ifB, c_isShare, clp_some, ifB, c_isPlace, clp_some, ifB]
  cases isF (tF t) f
  · exact ⟨fun q => absurd q (by simp), fun _ => rfl⟩
  cases isF (tF t) o
  · exact ⟨fun q => absurd q (by simp), fun _ => rfl⟩
  cases inR (nI 0) (nI 10) s
  · exact ⟨fun q => absurd q (by simp), fun _ => rfl⟩
  cases plB q
  · exact ⟨fun q => absurd q (by simp), fun _ => rfl⟩
  simp only [Bool.true_and, if_true]
  unfold f_X2_tell_71
  rw [hC.1]
  simp only [uI_lt (show pN p < 2147483648 by omega) (show 40 < 2147483648 by omega)]
  by_cases c : pN p < 40
  · refine ⟨fun _ => ?_, fun q => absurd c (of_decide_eq_false q)⟩
    rw [if_pos c]
    generalize hn : pN p = n at c
    have h0 : h.1 71 0 = nI n := by rw [← hn]; exact hC.1
    simp (disch := omega) only [clp_some, cl_some, jn_eq, uI_add, uI_mul, uI_lt, uI_lt0, uI_0lt, uI_eq0, uI_inj, uI_ne1, n1_ne, n1_lt, uI_lt1, rdA_nI, rdQ_nI, rdL_nI, wrA_nI, wrL_nI, wrF_eq, wrJ_eq, dvd_nI, ite_true, ite_false, if_true, if_false, bI_t, bI_f, bI_0, decide_true, decide_false, Nat.one_ne_zero, Nat.reduceEqDiff, Nat.reduceLT, Nat.reduceLeDiff, Nat.reduceAdd, Nat.reduceMul, Nat.reduceSub, Nat.reduceDiv, sI_1, h0, show ¬ ((71:Nat) = 72) by decide, show ¬ ((71:Nat) = 73) by decide, show ¬ ((71:Nat) = 74) by decide, show ¬ ((71:Nat) = 75) by decide, show ¬ ((71:Nat) = 76) by decide, show ¬ ((71:Nat) = 77) by decide, false_and, and_self]
    rw [uI_sub (by omega), Nat.add_sub_cancel]
    generalize hH : sI (sI (sI (sI (sI (sI (sI h 72 n f) 73 n o) 74 n s) 75 n q) 76 n (h.1 71 1)) 77 n (-1)) 71 0 (nI (n + 1)) = H
    have e : ∀ x j, H.1 x j = if x = 71 ∧ j = 0 then nI (n + 1) else if x = 77 ∧ j = n then -1 else if x = 76 ∧ j = n then h.1 71 1 else if x = 75 ∧ j = n then q else if x = 74 ∧ j = n then s else if x = 73 ∧ j = n then o else if x = 72 ∧ j = n then f else h.1 x j := by
      intro x j
      rw [← hH]
      rfl
    obtain ⟨c1, c2, c3⟩ := hC
    refine ⟨H, rfl, ⟨?_, ?_, fun i hi => ?_⟩, fun x k hx => ?_, by rw [← hH]; rfl⟩
    · rw [e]; simp; show nI (n + 1) = nI (pN p + 1); rw [hn]
    · rw [e]; simp; exact c2
    · have hi : i < n + 1 := by have : i < pN p + 1 := hi; omega
      have k1 : H.1 72 i = up1 (pfa p) (pN p) f i := by
        rw [e]; unfold up1; rw [hn]
        by_cases z : i = n
        · simp [z]
        · simp [z]; exact (c3 i (by omega)).1
      have k2 : H.1 73 i = up1 (pot p) (pN p) o i := by
        rw [e]; unfold up1; rw [hn]
        by_cases z : i = n
        · simp [z]
        · simp [z]; exact (c3 i (by omega)).2.1
      have k3 : H.1 74 i = up1 (psh p) (pN p) s i := by
        rw [e]; unfold up1; rw [hn]
        by_cases z : i = n
        · simp [z]
        · simp [z]; exact (c3 i (by omega)).2.2.1
      have k4 : H.1 75 i = up1 (ppl p) (pN p) q i := by
        rw [e]; unfold up1; rw [hn]
        by_cases z : i = n
        · simp [z]
        · simp [z]; exact (c3 i (by omega)).2.2.2.1
      have k5 : H.1 76 i = up1 (pto p) (pN p) (nI (pT p)) i := by
        rw [e]; unfold up1; rw [hn]
        by_cases z : i = n
        · simp [z]; exact c2
        · simp [z]; exact (c3 i (by omega)).2.2.2.2.1
      have k6 : H.1 77 i = up1 (pun p) (pN p) (-1) i := by
        rw [e]; unfold up1; rw [hn]
        by_cases z : i = n
        · simp [z]
        · simp [z]; exact (c3 i (by omega)).2.2.2.2.2
      exact ⟨k1, k2, k3, k4, k5, k6⟩
    · unfold SP at hx
      rw [e]
      have n1 : ¬ (x = 71 ∧ k = 0) := by omega
      have n2 : ∀ z j, 72 ≤ z → z ≤ 77 → ¬ (x = z ∧ k = j) := by intro z j h1 h2; omega
      simp only [n1, n2, Nat.reduceLeDiff, if_false]
  · refine ⟨fun q => absurd (of_decide_eq_true q) c, fun _ => ?_⟩
    rw [if_neg c, cl_some]
theorem m_paper {bk : Nat} {t : Tn} {p : Pp} {h : CH} (f o s q : Int32) (hT : MT bk t h) (hVT : VT t) (hC : MP p h) (hV : VP (tF t) p) : (paB t p f o s q = true → ∃ h', f_X12_paper f o s q h = some (nI (pN p), h') ∧ MP (ppN p f o s q) h' ∧ Fr SPm h h') ∧ (paB t p f o s q = false → f_X12_paper f o s q h = some (-1, h)) := by
  have v3 := hVT.2.2.1
  have v1 := hV.1
  unfold f_X12_paper paB plB
  rw [m_isFace hT hVT, clp_some, ifB, m_isFace hT hVT, clp_some, ifB, m_isIn, clp_some, ifB, m_isIn, clp_some, ifB]
  cases isF (tF t) f
  · exact ⟨fun q => absurd q (by simp), fun _ => rfl⟩
  cases isF (tF t) o
  · exact ⟨fun q => absurd q (by simp), fun _ => rfl⟩
  cases inR (nI 0) (nI 10) s
  · exact ⟨fun q => absurd q (by simp), fun _ => rfl⟩
  cases inR (nI 0) (nI 6099) q
  · exact ⟨fun q => absurd q (by simp), fun _ => rfl⟩
  simp only [Bool.true_and, if_true]
  by_cases cq : ¬ q / nI 10 - q / nI 10 / nI 10 * nI 10 < nI 4
  · rw [if_neg cq]
    exact ⟨fun q => absurd q (by simp [cq]), fun _ => rfl⟩
  have cq : q / nI 10 - q / nI 10 / nI 10 * nI 10 < nI 4 := Classical.byContradiction cq
  rw [if_pos cq, hC.1]
  simp only [uI_inj (show pN p < 2147483648 by omega) (show 40 < 2147483648 by omega), cq, decide_true, Bool.true_and]
  by_cases c : pN p = 40
  · refine ⟨fun q => absurd (of_decide_eq_true q) (by omega), fun _ => ?_⟩
    rw [if_pos c]
  · refine ⟨fun _ => ?_, fun q => absurd (show pN p < 40 by omega) (of_decide_eq_false q)⟩
    rw [if_neg c]
    generalize hn : pN p = n at c
    have h0 : h.1 151 60 = nI n := by rw [← hn]; exact hC.1
    have hn40 : n < 40 := by omega
    simp (disch := omega) only [clp_some, cl_some, jn_eq, uI_add, uI_mul, uI_lt, uI_lt0, uI_0lt, uI_eq0, uI_inj, uI_ne1, n1_ne, n1_lt, uI_lt1, rdA_nI, rdQ_nI, rdL_nI, wrA_nI, wrL_nI, wrF_eq, wrJ_eq, dvd_nI, ite_true, ite_false, if_true, if_false, bI_t, bI_f, bI_0, decide_true, decide_false, Nat.one_ne_zero, Nat.reduceEqDiff, Nat.reduceLT, Nat.reduceLeDiff, Nat.reduceAdd, Nat.reduceMul, Nat.reduceSub, Nat.reduceDiv, sI_1, h0, show ¬ ((151:Nat) = 178) by decide, show ¬ ((151:Nat) = 179) by decide, show ¬ ((151:Nat) = 180) by decide, show ¬ ((151:Nat) = 181) by decide, show ¬ ((151:Nat) = 182) by decide, show ¬ ((151:Nat) = 183) by decide, false_and, and_self]
    rw [uI_sub (by omega), Nat.add_sub_cancel]
    generalize hH : sI (sI (sI (sI (sI (sI (sI h 178 n f) 179 n o) 180 n s) 181 n q) 182 n (h.1 151 61)) 183 n (-1)) 151 60 (nI (n + 1)) = H
    have e : ∀ x j, H.1 x j = if x = 151 ∧ j = 60 then nI (n + 1) else if x = 183 ∧ j = n then -1 else if x = 182 ∧ j = n then h.1 151 61 else if x = 181 ∧ j = n then q else if x = 180 ∧ j = n then s else if x = 179 ∧ j = n then o else if x = 178 ∧ j = n then f else h.1 x j := by
      intro x j
      rw [← hH]
      rfl
    obtain ⟨c1, c2, c3⟩ := hC
    refine ⟨H, rfl, ⟨?_, ?_, fun i hi => ?_⟩, fun x k hx => ?_, by rw [← hH]; rfl⟩
    · rw [e]; simp; show nI (n + 1) = nI (pN p + 1); rw [hn]
    · rw [e]; simp; exact c2
    · have hi : i < n + 1 := by have : i < pN p + 1 := hi; omega
      have k1 : H.1 178 i = up1 (pfa p) (pN p) f i := by
        rw [e]; unfold up1; rw [hn]
        by_cases z : i = n
        · simp [z]
        · simp [z]; exact (c3 i (by omega)).1
      have k2 : H.1 179 i = up1 (pot p) (pN p) o i := by
        rw [e]; unfold up1; rw [hn]
        by_cases z : i = n
        · simp [z]
        · simp [z]; exact (c3 i (by omega)).2.1
      have k3 : H.1 180 i = up1 (psh p) (pN p) s i := by
        rw [e]; unfold up1; rw [hn]
        by_cases z : i = n
        · simp [z]
        · simp [z]; exact (c3 i (by omega)).2.2.1
      have k4 : H.1 181 i = up1 (ppl p) (pN p) q i := by
        rw [e]; unfold up1; rw [hn]
        by_cases z : i = n
        · simp [z]
        · simp [z]; exact (c3 i (by omega)).2.2.2.1
      have k5 : H.1 182 i = up1 (pto p) (pN p) (nI (pT p)) i := by
        rw [e]; unfold up1; rw [hn]
        by_cases z : i = n
        · simp [z]; exact c2
        · simp [z]; exact (c3 i (by omega)).2.2.2.2.1
      have k6 : H.1 183 i = up1 (pun p) (pN p) (-1) i := by
        rw [e]; unfold up1; rw [hn]
        by_cases z : i = n
        · simp [z]
        · simp [z]; exact (c3 i (by omega)).2.2.2.2.2
      exact ⟨k1, k2, k3, k4, k5, k6⟩
    · unfold SPm at hx
      rw [e]
      have n1 : ¬ (x = 151 ∧ k = 60) := by omega
      have n2 : ∀ z j, 178 ≤ z → z ≤ 183 → ¬ (x = z ∧ k = j) := by intro z j h1 h2; omega
      simp only [n1, n2, Nat.reduceLeDiff, if_false]
