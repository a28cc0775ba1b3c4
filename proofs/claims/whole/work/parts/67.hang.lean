/-! two papers hang together -/
def pf (p : Pp) (i : Nat) : Nat := (pfa p i).toNatClampNeg
def pq (p : Pp) (i : Nat) : Nat := (ppl p i).toNatClampNeg
theorem pfq {t : Tn} (hV : VT t) {p : Pp} (hP : VP (tF t) p) {i : Nat} (hi : i < pN p) : pf p i < tF t ∧ pfa p i = nI (pf p i) ∧ pq p i ≤ 6099 ∧ pq p i / 10 % 10 < 4 ∧ ppl p i = nI (pq p i) := by
  have v3 := hV.2.2.1
  obtain ⟨⟨a, ha, ea⟩, -, -, ⟨q, hq, hq2, eq⟩, -⟩ := hP.2.2 i hi
  unfold pf pq
  rw [ea, eq, uI_toNat (by omega), uI_toNat (by omega)]
  exact ⟨ha, rfl, hq, hq2, rfl⟩
def scB (p : Pp) (i j : Nat) : Bool := decide (pq p i % 100 = pq p j % 100) && decide (pq p i / 100 - pq p j / 100 + (pq p j / 100 - pq p i / 100) ≤ 2)
def hgB (t : Tn) (p : Pp) (i j : Nat) : Bool := decide (pf p i = pf p j) || ((fnN t (pf p i)).testBit (pf p j) || scB p i j)
/-- friends know each other both ways -/
def VS (t : Tn) : Prop := ∀ a b, a < tF t → b < tF t → (fnN t a).testBit b = (fnN t b).testBit a
theorem scB_sym (p : Pp) (i j : Nat) : scB p i j = scB p j i := by
  unfold scB
  congr 1
  · exact decide_eq_decide.2 ⟨fun h => h.symm, fun h => h.symm⟩
  · exact decide_eq_decide.2 ⟨fun h => by omega, fun h => by omega⟩
theorem hgB_sym {t : Tn} (hV : VT t) (hS : VS t) {p : Pp} (hP : VP (tF t) p) {i j : Nat} (hi : i < pN p) (hj : j < pN p) : hgB t p i j = hgB t p j i := by
  unfold hgB
  rw [hS _ _ (pfq hV hP hi).1 (pfq hV hP hj).1, scB_sym]
  congr 1
  exact decide_eq_decide.2 ⟨fun h => h.symm, fun h => h.symm⟩
theorem fnN16 {t : Tn} (hV : VT t) {f : Nat} (hf : f < tF t) : fnN t f < 65536 := p16 hV (fnN_lt hV hf).1
theorem c_hang {t : Tn} (hV : VT t) {p : Pp} (hP : VP (tF t) p) {h : CH} (hT : CT 7 t h) (hC : CP 71 p h) {i j : Nat} (hi : i < pN p) (hj : j < pN p) : f_X4_hang (nI i) (nI j) h = some (bI (hgB t p i j)) := by
  have v3 := hV.2.2.1
  have hN := hP.1
  obtain ⟨a1, a2, a3, a4, a5⟩ := pfq hV hP hi
  obtain ⟨b1, b2, b3, b4, b5⟩ := pfq hV hP hj
  have pl : ∀ z, z < pN p → h.1 75 z = ppl p z := fun z hz => (hC.2.2 z hz).2.2.2.1
  have fr : ∀ f, f < 16 → h.1 28 f = tfr t f := hT.2.2.2.2.2.2.2.1
  have prn : ∀ z, z < pN p → pq p z ≤ 6099 → ppl p z = nI (pq p z) → f_X2_printerOf_71 (nI z) h = some (nI (pq p z / 10 % 10)) := by
    intro z hz hl e
    rw [(c_of71 hC hN hz).2.2.2]
    unfold qP
    rw [e, uI_div (by omega) (by omega), uI_rem (by omega) (by omega)]
  have str : ∀ z, z < pN p → pq p z ≤ 6099 → ppl p z = nI (pq p z) → f_X2_streetOf_71 (nI z) h = some (nI (pq p z % 10)) := by
    intro z hz hl e
    unfold f_X2_streetOf_71
    rw [c_hasP _ hC hN, isF_nI hz (by omega), clp_some, if_neg (by decide), rdA_nI (by omega) (by omega), pl z hz, e, uI_rem (by omega) (by omega)]
  have yr : ∀ z, z < pN p → pq p z ≤ 6099 → ppl p z = nI (pq p z) → f_X2_yearOf_71 (nI z) h = some (nI (pq p z / 100)) := by
    intro z hz hl e
    unfold f_X2_yearOf_71
    rw [c_hasP _ hC hN, isF_nI hz (by omega), clp_some, if_neg (by decide), rdA_nI (by omega) (by omega), pl z hz, e, uI_div (by omega) (by omega)]
  unfold f_X4_hang hgB
  rw [(c_of71 hC hN hi).1, clp_some, (c_of71 hC hN hj).1, clp_some, jn_eq, a2, b2]
  have hx : (nI (pf p i) = nI (pf p j)) = (pf p i = pf p j) := uI_inj (by omega) (by omega)
  simp only [hx]
  by_cases e1 : pf p i = pf p j
  · simp [e1, bI]
  simp only [e1, if_false, decide_false, Bool.false_or]
  have ke : f_X9_knowEachOther_7 (nI (pf p i)) (nI (pf p j)) h = some (bI ((fnN t (pf p i)).testBit (pf p j))) := by
    unfold f_X9_knowEachOther_7
    rw [c_has1 hT.2.2.1 v3 a1, clp_some, if_neg (by decide), c_has1 hT.2.2.1 v3 b1, clp_some, if_neg (by decide), rdA_nI (by omega) (by omega), fr _ (by omega), (fnN_lt hV a1).2]
    simp only [tb_if (fnN16 hV a1) (show pf p j < 16 by omega)]
    cases (fnN t (pf p i)).testBit (pf p j) <;> rfl
  rw [ke, clp_some, ifB]
  cases (fnN t (pf p i)).testBit (pf p j)
  · simp only [Bool.false_eq_true, if_false, Bool.false_or]
    have sc : f_X4_isSameCorner (nI i) (nI j) h = some (bI (scB p i j)) := by
      unfold f_X4_isSameCorner scB
      rw [prn i hi a3 a5, prn j hj b3 b5, str i hi a3 a5, str j hj b3 b5, yr i hi a3 a5, yr j hj b3 b5]
      simp only [clp_some]
      rw [ab_nI (by omega) (by omega)]
      have h1 : (nI (pq p i / 10 % 10) = nI (pq p j / 10 % 10)) = (pq p i / 10 % 10 = pq p j / 10 % 10) := uI_inj (by omega) (by omega)
      have h2 : (nI (pq p i % 10) = nI (pq p j % 10)) = (pq p i % 10 = pq p j % 10) := uI_inj (by omega) (by omega)
      have h3 : (nI 2 < nI (pq p i / 100 - pq p j / 100 + (pq p j / 100 - pq p i / 100))) = (2 < pq p i / 100 - pq p j / 100 + (pq p j / 100 - pq p i / 100)) := uI_lt (by omega) (by omega)
      simp only [h1, h2, h3]
      have h4 : (pq p i % 100 = pq p j % 100) ↔ (pq p i / 10 % 10 = pq p j / 10 % 10 ∧ pq p i % 10 = pq p j % 10) := by omega
      by_cases c1 : pq p i / 10 % 10 = pq p j / 10 % 10
      · by_cases c2 : pq p i % 10 = pq p j % 10
        · have c3 := h4.2 ⟨c1, c2⟩
          by_cases c4 : 2 < pq p i / 100 - pq p j / 100 + (pq p j / 100 - pq p i / 100)
          · rw [if_pos c1, if_pos c2, if_pos c4]
            have : ¬ pq p i / 100 - pq p j / 100 + (pq p j / 100 - pq p i / 100) ≤ 2 := by omega
            simp [this, bI]
          · rw [if_pos c1, if_pos c2, if_neg c4]
            have : pq p i / 100 - pq p j / 100 + (pq p j / 100 - pq p i / 100) ≤ 2 := by omega
            simp [this, c3, bI]
        · rw [if_pos c1, if_neg c2]
          have c3 : ¬ pq p i % 100 = pq p j % 100 := fun q => c2 (h4.1 q).2
          simp [c3, bI]
      · rw [if_neg c1]
        have c3 : ¬ pq p i % 100 = pq p j % 100 := fun q => c1 (h4.1 q).1
        simp [c3, bI]
    rw [sc, clp_some, ifB]
    cases scB p i j <;> rfl
  · rfl
theorem m_hangs {bk : Nat} {t : Tn} (hV : VT t) {p : Pp} (hP : VP (tF t) p) {h : CH} (hM : MT bk t h) (hC : MP p h) {i j : Nat} (hi : i < pN p) (hj : j < pN p) : f_X12_hangs (nI i) (nI j) h = some (bI (hgB t p i j)) := by
  have v3 := hV.2.2.1
  have hN := hP.1
  obtain ⟨a1, a2, a3, a4, a5⟩ := pfq hV hP hi
  obtain ⟨b1, b2, b3, b4, b5⟩ := pfq hV hP hj
  obtain ⟨m0, m1, -, -, -, -, -, -, -, mf, -⟩ := hM
  have pl : ∀ z, z < pN p → h.1 181 z = ppl p z := fun z hz => (hC.2.2 z hz).2.2.2.1
  have fa : ∀ z, z < pN p → h.1 178 z = pfa p z := fun z hz => (hC.2.2 z hz).1
  unfold f_X12_hangs hgB scB
  simp (disch := omega) only [jn_eq, m_sizeOf, clp_some, rdA_nI, pl i hi, pl j hj, fa i hi, fa j hj, a2, b2, a5, b5, m1]
  rw [uI_rem (a := pq p i) (b := 100) (by omega) (by omega), uI_rem (a := pq p j) (b := 100) (by omega) (by omega)]
  simp (disch := omega) only [rdA_nI, b2, fa j hj, uI_mul, uI_add, mf _ a1, (fnN_lt hV a1).2, uI_div]
  rw [ab_nI (by omega) (by omega)]
  have h1 : (nI (pq p i % 100) = nI (pq p j % 100)) = (pq p i % 100 = pq p j % 100) := uI_inj (by omega) (by omega)
  have h2 : (nI (pf p i) = nI (pf p j)) = (pf p i = pf p j) := uI_inj (by omega) (by omega)
  have h3 : (nI 2 < nI (pq p i / 100 - pq p j / 100 + (pq p j / 100 - pq p i / 100))) = (2 < pq p i / 100 - pq p j / 100 + (pq p j / 100 - pq p i / 100)) := uI_lt (by omega) (by omega)
  simp only [h1, h2, h3, tb_if (fnN16 hV a1) (show pf p j < 16 by omega)]
  by_cases c1 : pq p i % 100 = pq p j % 100
  · by_cases c2 : 2 < pq p i / 100 - pq p j / 100 + (pq p j / 100 - pq p i / 100)
    · have c3 : ¬ pq p i / 100 - pq p j / 100 + (pq p j / 100 - pq p i / 100) ≤ 2 := by omega
      by_cases c4 : pf p i = pf p j
      · simp [c1, c2, c4, bI]
      · cases (fnN t (pf p i)).testBit (pf p j) <;> simp [c1, c2, c3, c4, bI] <;> decide
    · have c3 : pq p i / 100 - pq p j / 100 + (pq p j / 100 - pq p i / 100) ≤ 2 := by omega
      simp [c1, c2, c3, bI]
      intro q; exact absurd q (by decide)
  · by_cases c4 : pf p i = pf p j
    · simp [c1, c4, bI]
    · cases (fnN t (pf p i)).testBit (pf p j) <;> simp [c1, c4, bI] <;> decide
