/-! rings and ring: the reference -/
theorem m_ring {bk : Nat} {t : Tn} {p : Pp} {h : CH} (x k : Int32) (hM : MT bk t h) (hV : VT t) (hS : VS t) (hC : MP p h) (hP : VP (tF t) p) : PO TM h (f_X12_ring x k h) (riA t p x k) := by
  have hN := hP.1
  unfold f_X12_ring riA
  rw [m_counts _ _ hC hP, clp_some, ifB]
  cases hc : cnt p x k
  · exact PO.mk Fr.rf
  simp only [if_true]
  obtain ⟨i, hi, rfl⟩ := cnt_F hc hN
  obtain ⟨h', e1, e2⟩ := m_layRing hV hS hP hM hC hi (show gC p k i = true from hc)
  rw [e1, cl_some, uI_toNat (by omega)]
  exact PO.mk (e2.2.1.mono (fun c j hx => by unfold TM; omega))
theorem m_isFirst {bk : Nat} {t : Tn} (hV : VT t) (hS : VS t) {p : Pp} (hP : VP (tF t) p) {k : Int32} {h0 : CH} (hM : MT bk t h0) (hC : MP p h0) {a : Nat} (ha : a < pN p) (hca : gC p k a = true) : PO (fun c _ => c = 184) h0 (f_X12_isFirst (nI a) k h0) (bI (fi (rkN t p k a) a)) := by
  have hN := hP.1
  unfold f_X12_isFirst
  obtain ⟨h', e1, e2⟩ := m_layRing hV hS hP hM hC ha hca
  rw [e1, cl_some]
  have G := loop_FU (fun n l => fi (rkN t p k a) l = true → f_X12_isFirst_L9 (nI a) h' n (nI l) = some (bI (fi (rkN t p k a) a), h')) a (by omega) ?_ ?_
  · rw [G rfl]
    exact PO.mk e2.2.1
  · intro n l hl ih hf
    unfold f_X12_isFirst_L9
    rw [if_pos (by rw [uI_lt (by omega) (by omega)]; exact hl), rdA_nI (by omega) (by omega), e2.1 l (by omega), ifB, uI_add]
    cases z : rkN t p k a l
    · simp only [Bool.false_eq_true, if_false]
      exact ih (by unfold fi; rw [hf, z]; rfl)
    · simp only [if_true]
      have : fi (rkN t p k a) a = false := by
        cases y : fi (rkN t p k a) a
        · rfl
        · rw [(fi_iff _ _).1 y l hl] at z; cases z
      rw [this]; rfl
  · intro n hf
    unfold f_X12_isFirst_L9
    rw [if_neg (by rw [uI_lt (by omega) (by omega)]; omega), hf]
    rfl
theorem m_rings {bk : Nat} {t : Tn} {p : Pp} {h : CH} (w k : Int32) (hM : MT bk t h) (hV : VT t) (hS : VS t) (hC : MP p h) (hP : VP (tF t) p) : PO TM h (f_X12_rings w k h) (rnA t p w k) := by
  have hN := hP.1
  unfold f_X12_rings rnA
  rw [m_isIn, clp_some, ifB]
  cases inR (nI 0) (nI 2) w
  · exact PO.mk Fr.rf
  simp only [if_true]
  have G := loop_FU (fun n l => l ≤ pN p → ∀ h1, Fr (fun c _ => c = 184) h h1 → PO (fun c _ => c = 184) h (f_X12_rings_L22 w k n (nI (rg t p k l).1) (nI (rg t p k l).2.1) (rg t p k l).2.2 (nI l) h1) (if w = nI 0 then nI (rg t p k (pN p)).1 else if w = nI 1 then nI (rg t p k (pN p)).2.1 else (rg t p k (pN p)).2.2)) (pN p) (by omega) ?_ ?_
  · obtain ⟨h', e1, e2⟩ := G (by omega) h Fr.rf
    exact ⟨h', e1, e2.mono (fun c j hx => by unfold TM; omega)⟩
  · intro n l hl ih _ h1 hF
    have ih := ih (by omega)
    have hM' : MT bk t h1 := hM.fr hF (fun a k h1 h2 h3 => by omega) (by omega)
    have hC' : MP p h1 := hC.fr hF (fun a k h1 h2 h3 => by omega) (by omega) (by omega)
    unfold f_X12_rings_L22
    rw [hC'.1, if_pos (by rw [uI_lt (by omega) (by omega)]; exact hl), m_counts _ _ hC' hP, clp_some, jn_eq, ifB, uI_add]
    cases hc : cnt p (nI l) k
    · simp only [Bool.false_eq_true, if_false]
      have hf : fs t p k l = false := by unfold fs gC; rw [hc]; rfl
      have := ih h1 hF
      rw [rg, hf] at this
      simpa using this
    · simp only [if_true]
      have hc : gC p k l = true := hc
      obtain ⟨h2, e1, e2⟩ := m_isFirst hV hS hP hM' hC' hl hc
      rw [e1, cl_some, ifB]
      have f2 := hF.tr e2
      cases hfi : fi (rkN t p k l) l
      · simp only [Bool.false_eq_true, if_false]
        have hf : fs t p k l = false := by unfold fs; rw [hfi, hc]; rfl
        have := ih h2 f2
        rw [rg, hf] at this
        simpa using this
      · simp only [if_true]
        have hf : fs t p k l = true := by unfold fs; rw [hfi, hc]; rfl
        have hM2 : MT bk t h2 := hM.fr f2 (fun a k h1 h2 h3 => by omega) (by omega)
        have hC2 : MP p h2 := hC.fr f2 (fun a k h1 h2 h3 => by omega) (by omega) (by omega)
        obtain ⟨h3, g1, g2⟩ := m_layRing hV hS hP hM2 hC2 hl hc
        have f3 := f2.tr g2.2.1
        rw [g1, cl_some, uI_add]
        have w1 := rg_le (t := t) (p := p) (k := k) l
        have w2 := sz_le t p k l
        have hx : (nI (rg t p k l).2.1 < nI (cz (rkN t p k l) (pN p))) = ((rg t p k l).2.1 < sz t p k l) := uI_lt (by omega) (by unfold sz at w2; omega)
        simp only [hx]
        have := ih h3 f3
        rw [rg, hf] at this
        by_cases d : (rg t p k l).2.1 < sz t p k l
        · rw [if_pos d]
          simp only [if_true, d] at this
          exact this
        · rw [if_neg d]
          simp only [if_true, d, if_false] at this
          exact this
  · intro n _ h1 hF
    have hC' : MP p h1 := hC.fr hF (fun a k h1 h2 h3 => by omega) (by omega) (by omega)
    unfold f_X12_rings_L22
    rw [hC'.1, if_neg (by rw [uI_lt (by omega) (by omega)]; omega)]
    by_cases w0 : w = nI 0
    · rw [if_pos (show w = 0 from w0), if_pos w0]; exact PO.mk hF
    rw [if_neg (show ¬ w = 0 from w0), if_neg w0]
    by_cases w1 : w = nI 1
    · rw [if_pos w1, if_pos w1]; exact PO.mk hF
    rw [if_neg w1, if_neg w1]; exact PO.mk hF
