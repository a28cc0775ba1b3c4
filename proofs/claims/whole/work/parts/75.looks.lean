/-! looks: the class -/
def xSH (a _ : Nat) : Prop := a = 80 ∨ a = 61 ∨ a = 62
theorem c_shownF {t : Tn} {R : Ru} {h : CH} {a b k : Nat} (hk : k ≤ 10) (p : Int32) (w : WC t R h) (ha : a < tF t) (hb : b < tF t) (hp : inR (-1) (nI 3) p = true) : PO xSH h (f_X0_shown (nI a) (nI b) (nI k) p h) (sgS t R a b (nI k) p) := by
  obtain ⟨w1, w2, w3, w4, w5⟩ := w
  unfold f_X0_shown
  rw [c_developInto _ _ w3 w1 (Or.inl rfl) ha hb hp, cl_some]
  have hF : Fr TC h (rowS h 80 8 (row8 (tP t) (fun i => pri t p (mixv t a b (nI k) i)))) := Fr.rowS (fun _ => by unfold TC; omega)
  have hF2 : Fr xSH h (rowS h 80 8 (row8 (tP t) (fun i => pri t p (mixv t a b (nI k) i)))) := Fr.rowS (fun _ => by unfold xSH; omega)
  rw [(w3.tc hF w1).1]
  have v2 := w1.2.1
  have hpi : PIC (tP t) ((rowS h 80 8 (row8 (tP t) (fun i => pri t p (mixv t a b (nI k) i)))).1 80) := fun i hi => by
    rw [rowS_in (by omega)]
    unfold row8
    rw [if_pos hi]
    exact pic_v w1 ha hb hk hp hi
  have e : R.2 ((rowS h 80 8 (row8 (tP t) (fun i => pri t p (mixv t a b (nI k) i)))).1 80) = sgS t R a b (nI k) p := w2 _ _ (fun i hi => by
    rw [rowS_in (by omega)]
    unfold row8
    rw [if_pos hi])
  rw [← e]
  exact PO.cl ((w5 _ hF hpi).go hF2 (fun x k q => by unfold SR at q; unfold xSH; omega)) (fun h1 hF1 => PO.mk hF1)
def xCS (a _ : Nat) : Prop := a = 80 ∨ a = 61 ∨ a = 62 ∨ a = 125
theorem xCS_TC {h h' : CH} (f : Fr xCS h h') : Fr TC h h' := f.mono (fun c j hx => by unfold xCS at hx; unfold TC; omega)
theorem c_cntShow {t : Tn} {R : Ru} {p : Pp} {k : Int32} {h0 : CH} (w : WC t R h0) (hC : CP 71 p h0) (hP : VP (tF t) p) : ∃ h', f_X7_countShowing k h0 = some ((), h') ∧ (∀ r, r < 4 → h'.1 125 r = nI (shN t R p k r (pN p))) ∧ Fr xCS h0 h' := by
  have hN := hP.1
  have hV := w.1
  have v3 := hV.2.2.1
  unfold f_X7_countShowing
  have L22 : ∀ h, Fr xCS h0 h → (∀ r, r < 4 → h.1 125 r = nI (shN t R p k r 0)) → ∃ h', f_X7_countShowing_L22 k FU (nI 0) h = some ((), h') ∧ (∀ r, r < 4 → h'.1 125 r = nI (shN t R p k r (pN p))) ∧ Fr xCS h0 h' := by
    refine loop_FU (fun n l => ∀ h, Fr xCS h0 h → (∀ r, r < 4 → h.1 125 r = nI (shN t R p k r l)) → ∃ h', f_X7_countShowing_L22 k n (nI l) h = some ((), h') ∧ (∀ r, r < 4 → h'.1 125 r = nI (shN t R p k r (pN p))) ∧ Fr xCS h0 h') (pN p) (by omega) ?_ ?_
    · intro n l hl ih h hF inv
      have w' := w.tc (xCS_TC hF)
      have hC' := hC.tc (xCS_TC hF)
      have l71 : h.1 71 0 = nI (pN p) := hC'.1
      obtain ⟨o1, o2, o3, o4⟩ := c_of71 hC' hN hl
      obtain ⟨hQ, ea, eb, es⟩ := VQ_qP hV hP hl
      obtain ⟨pr1, pr2⟩ := prN_q hV hP hl
      have skip : shB t R p k l = false → ∀ h1, Fr xCS h0 h1 → (∀ r, r < 4 → h1.1 125 r = nI (shN t R p k r l)) → ∃ h', f_X7_countShowing_L22 k n (nI (l + 1)) h1 = some ((), h') ∧ (∀ r, r < 4 → h'.1 125 r = nI (shN t R p k r (pN p))) ∧ Fr xCS h0 h' := by
        intro hs h1 f1 inv1
        refine ih h1 f1 (fun r hr => ?_)
        rw [shN, hs, Bool.and_false]
        exact inv1 r hr
      unfold f_X7_countShowing_L22
      rw [l71, if_pos (by rw [uI_lt (by omega) (by omega)]; exact hl), o4, clp_some, jn_eq, pr1, uI_add]
      have n1 : (nI (prN p l) < 0) = False := uI_lt0 (by omega)
      have n2 : (nI (prN p l) < nI 4) = True := by rw [uI_lt (by omega) (by omega)]; exact eq_true (by omega)
      simp only [n1, n2, if_false, if_true]
      rw [c_counts _ _ hC' hP, clp_some, ifB]
      cases hc : cnt p (nI l) k
      · exact skip (by unfold shB gC; rw [hc]; rfl) h hF inv
      simp only [if_true]
      have im : f_X2_isMixed_71 (nI l) h = some (bI (mxP p l)) := by
        unfold f_X2_isMixed_71 mxP
        rw [o3, clp_some, o1, clp_some, o2, clp_some, ea, eb, es]
        obtain ⟨q1, q2, q3, q4⟩ := hQ
        have h1 : (nI (qP p l).1 = nI (qP p l).2.1) = ((qP p l).1 = (qP p l).2.1) := uI_inj (by omega) (by omega)
        have h2 : (nI (qP p l).2.2.1 < nI 1) = ((qP p l).2.2.1 < 1) := uI_lt (by omega) (by omega)
        have h3 : (nI (qP p l).2.2.1 < nI 10) = ((qP p l).2.2.1 < 10) := uI_lt (by omega) (by omega)
        simp only [h1, h2, h3]
        by_cases c1 : (qP p l).1 = (qP p l).2.1
        · simp [c1, bI]
        · by_cases c2 : (qP p l).2.2.1 < 1
          · have : (qP p l).2.2.1 = 0 := by omega
            simp [c1, this, bI]
          · by_cases c3 : (qP p l).2.2.1 < 10
            · have : 0 < (qP p l).2.2.1 := by omega
              have c2' : ¬ (qP p l).2.2.1 = 0 := by omega
              simp [c1, c2', c3, this, bI]
            · have c2' : ¬ (qP p l).2.2.1 = 0 := by omega
              simp [c1, c2', c3, bI]
      rw [im, clp_some, ifB]
      cases hm : mxP p l
      · exact skip (by unfold shB; rw [hm, Bool.false_and, Bool.and_false]) h hF inv
      simp only [if_true]
      rw [o1, clp_some, o2, clp_some, o3, clp_some, ea, eb, es]
      obtain ⟨h1, e1, e2⟩ := c_shownF hQ.2.2.1 (nI (prN p l)) w' hQ.1 hQ.2.1 (by rw [← pr1]; exact hQ.2.2.2)
      have f1 : Fr xCS h0 h1 := hF.tr (e2.mono (fun c j hx => by unfold xSH at hx; unfold xCS; omega))
      have inv1 : ∀ r, r < 4 → h1.1 125 r = nI (shN t R p k r l) := fun r hr => by rw [e2.1 _ _ (by unfold xSH; omega)]; exact inv r hr
      have ps : sgS t R (qP p l).1 (qP p l).2.1 (nI (qP p l).2.2.1) (nI (prN p l)) = pS t R p l := by unfold pS; rw [pr1]
      rw [e1, cl_some, ps, rdA_nI (by omega) (by omega), jn_eq, inv1 _ pr2]
      have hc : gC p k l = true := hc
      by_cases z : pS t R p l = 0
      · simp only [if_pos z]
        rw [wrA_nI (by omega) (by omega), uI_add, Nat.add_zero]
        refine skip (by unfold shB; rw [z]; simp) _ (f1.tr (Fr.sI (by unfold xCS; omega))) (fun r hr => ?_)
        rw [sI_1]
        by_cases e : r = prN p l
        · rw [if_pos ⟨rfl, e⟩, e]; first | rfl | simp
        · rw [if_neg (fun q => e q.2)]; exact inv1 r hr
      · simp only [if_neg z]
        rw [wrA_nI (by omega) (by omega), uI_add]
        have hs : shB t R p k l = true := by unfold shB; rw [hc, hm]; simp [z]
        refine ih _ (f1.tr (Fr.sI (by unfold xCS; omega))) (fun r hr => ?_)
        rw [sI_1, shN, hs]
        by_cases e : r = prN p l
        · rw [if_pos ⟨rfl, e⟩, ← e]; simp [bN]
        · rw [if_neg (fun q => e q.2), inv1 r hr]; simp [bN, show ¬ prN p l = r from fun q => e q.symm]
    · intro n h hF inv
      have hC' := hC.tc (xCS_TC hF)
      have l71 : h.1 71 0 = nI (pN p) := hC'.1
      unfold f_X7_countShowing_L22
      rw [l71, if_neg (by rw [uI_lt (by omega) (by omega)]; omega)]
      exact ⟨h, rfl, inv, hF⟩
  have G := loop_FU (fun n l => ∀ h, Fr xCS h0 h → (∀ r, r < l → h.1 125 r = nI 0) → ∃ h', f_X7_countShowing_L2 k n (nI l) h = some ((), h') ∧ (∀ r, r < 4 → h'.1 125 r = nI (shN t R p k r (pN p))) ∧ Fr xCS h0 h') 4 (by omega) ?_ ?_
  · exact G h0 Fr.rf (fun r hr => by omega)
  · intro n l hl ih h hF inv
    unfold f_X7_countShowing_L2
    rw [if_pos (by rw [uI_lt (by omega) (by omega)]; exact hl), wrA_nI hl (by omega), uI_add]
    refine ih _ (hF.tr (Fr.sI (by unfold xCS; omega))) (fun r hr => ?_)
    rw [sI_1]
    by_cases e : r = l
    · rw [if_pos ⟨rfl, e⟩]
    · rw [if_neg (fun q => e q.2)]; exact inv r (by omega)
  · intro n h hF inv
    unfold f_X7_countShowing_L2
    rw [if_neg (by rw [uI_lt (by omega) (by omega)]; omega)]
    exact L22 h hF inv
theorem c_showingOf {g : Nat → Nat} {h : CH} {m : Nat} (hm : m < 16) (hg : ∀ r, r < 4 → h.1 125 r = nI (g r)) : f_X7_showingOf (nI m) h = some (nI (b4 m g 4)) := by
  unfold f_X7_showingOf
  refine loop_FU (fun n l => f_X7_showingOf_L4 (nI m) h n (nI (b4 m g l)) (nI l) = some (nI (b4 m g 4))) 4 (by omega) ?_ ?_
  · intro n l hl ih
    unfold f_X7_showingOf_L4
    rw [if_pos (by rw [uI_lt (by omega) (by omega)]; exact hl), jn_eq, rdA_nI hl (by omega), hg l hl, uI_add, uI_add]
    simp only [tb_if (show m < 65536 by omega) (show l < 16 by omega)]
    rw [b4] at ih
    cases z : m.testBit l
    · rw [z] at ih; simpa using ih
    · rw [z] at ih; simpa using ih
  · intro n
    unfold f_X7_showingOf_L4
    rw [if_neg (by rw [uI_lt (by omega) (by omega)]; omega)]
theorem c_costOfSet {t : Tn} (hV : VT t) {h : CH} (hT : CT 7 t h) {m : Nat} (hm : m < 16) : f_X7_costOf (nI m) h = some (nI (coM t m)) := by
  have cs : ∀ r, r < 4 → h.1 30 r = tcs t r := hT.2.2.2.2.2.2.2.2.2
  unfold f_X7_costOf coM
  refine loop_FU (fun n l => f_X7_costOf_L4 (nI m) h n (nI (b4 m (csN t) l)) (nI l) = some (nI (b4 m (csN t) 4))) 4 (by omega) ?_ ?_
  · intro n l hl ih
    unfold f_X7_costOf_L4
    have co : f_X9_costOf_7 (nI l) h = some (nI (csN t l)) := by
      unfold f_X9_costOf_7
      have n1 : (nI l < 0) = False := uI_lt0 (by omega)
      have n2 : (nI l < nI 4) = True := by rw [uI_lt (by omega) (by omega)]; exact eq_true (by omega)
      simp only [n1, n2, if_false, if_true]
      rw [rdA_nI (by omega) (by omega), cs l hl, (csN_ok hV hl).1]
    rw [if_pos (by rw [uI_lt (by omega) (by omega)]; exact hl), jn_eq, co, clp_some, uI_add, uI_add]
    simp only [tb_if (show m < 65536 by omega) (show l < 16 by omega)]
    rw [b4] at ih
    cases z : m.testBit l
    · rw [z] at ih; simpa using ih
    · rw [z] at ih; simpa using ih
  · intro n
    unfold f_X7_costOf_L4
    rw [if_neg (by rw [uI_lt (by omega) (by omega)]; omega)]
theorem c_looks {t : Tn} {R : Ru} {p : Pp} {h0 : CH} (x w k : Int32) (wc : WC t R h0) (hC : CP 71 p h0) (hP : VP (tF t) p) : PO TC h0 (f_X11_looks x w k h0) (loA t R p x w k) := by
  have hN := hP.1
  have hV := wc.1
  unfold f_X11_looks loA
  have e0 : ∀ (B : Nat) (u v : Option (Int32 × CH)) (w : Int32), (if w < 0 then u else if nI B < w then u else v) = (if inR (nI 0) (nI B) w = true then v else u) := by
    intro B u v w
    unfold inR
    rw [← uI_z]
    by_cases h1 : w < 0
    · simp [h1]
    · by_cases h2 : nI B < w
      · simp [h1, h2]
      · simp [h1, h2]
  rw [e0 999, e0 1]
  cases hx : inR (nI 0) (nI 999) x
  · exact PO.mk Fr.rf
  cases hw : inR (nI 0) (nI 1) w
  · exact PO.mk Fr.rf
  simp only [if_true]
  obtain ⟨B, hB, rfl⟩ := inR_nI (by omega) hx
  rw [uI_toNat (by omega)]
  obtain ⟨h1, e1, e2, e3⟩ := c_cntShow (k := k) wc hC hP
  unfold f_X7_look
  rw [e1, cl_some, wrF_eq, wrF_eq]
  have f1 := xCS_TC e3
  have G := loop_FU (fun n m => ∀ h, Fr (fun c j => c = 121 ∧ (j = 10 ∨ j = 11)) h1 h → h.1 121 10 = nI (lk t R p k B m).1 → h.1 121 11 = nI (lk t R p k B m).2 → ∃ h', f_X7_look_L17 (nI B) n (nI m) h = some ((), h') ∧ h'.1 121 10 = nI (lk t R p k B 16).1 ∧ h'.1 121 11 = nI (lk t R p k B 16).2 ∧ Fr (fun c j => c = 121 ∧ (j = 10 ∨ j = 11)) h1 h') 16 (by omega) ?_ ?_
  · obtain ⟨h', g1, g2, g3, g4⟩ := G (sI (sI h1 121 10 (nI 0)) 121 11 (nI 0)) ((Fr.sI (by omega)).tr (Fr.sI (by omega))) (by rw [sI_1, if_neg (by omega), sI_1, if_pos ⟨rfl, rfl⟩]; rfl) (by rw [sI_1, if_pos ⟨rfl, rfl⟩]; rfl)
    rw [g1, cl_some, g2, g3]
    have fz : Fr TC h0 h' := f1.tr (g4.mono (fun c j hx => by unfold TC; omega))
    by_cases w0 : w = nI 0
    · rw [if_pos (show w = 0 from w0), if_pos w0]; exact PO.mk fz
    · rw [if_neg (show ¬ w = 0 from w0), if_neg w0]; exact PO.mk fz
  · intro n m hm ih h hF i1 i2
    have hT : CT 7 t h := (wc.2.2.1.tc f1 hV).fr hF (fun a k h1 h2 h3 => by omega) hV
    have sh : f_X7_showingOf (nI m) h = some (nI (shM t R p k m (pN p))) := by
      rw [shM_eq hV hP _ (Nat.le_refl _)]
      exact c_showingOf hm (fun r hr => by rw [hF.1 _ _ (by omega)]; exact e2 r hr)
    have l1 := (lk_le (t := t) (R := R) (p := p) (k := k) (B := B) m).2
    have l2 := shM_le (t := t) (R := R) (p := p) (k := k) (m := m) (pN p)
    have l3 := coM_le hV m
    unfold f_X7_look_L17
    rw [if_pos (by rw [uI_lt (by omega) (by omega)]; exact hm), sh, clp_some, jn_eq, i2, c_costOfSet hV hT hm, clp_some, wrF_eq, wrF_eq, uI_add]
    have x1 : (nI (lk t R p k B m).2 < nI (shM t R p k m (pN p))) = ((lk t R p k B m).2 < shM t R p k m (pN p)) := uI_lt (by omega) (by omega)
    have x2 : (nI B < nI (coM t m)) = (B < coM t m) := uI_lt (by omega) (by omega)
    simp only [x1, x2]
    by_cases c1 : (lk t R p k B m).2 < shM t R p k m (pN p)
    · by_cases c2 : B < coM t m
      · rw [if_pos c1, if_pos c2]
        refine ih h hF ?_ ?_
        · rw [lk, if_pos c1, if_pos c2]; exact i1
        · rw [lk, if_pos c1, if_pos c2]; exact i2
      · rw [if_pos c1, if_neg c2]
        refine ih _ ((hF.tr (Fr.sI (by omega))).tr (Fr.sI (by omega))) ?_ ?_
        · rw [lk, if_pos c1, if_neg c2, sI_1, if_neg (by omega), sI_1, if_pos ⟨rfl, rfl⟩]
        · rw [lk, if_pos c1, if_neg c2, sI_1, if_pos ⟨rfl, rfl⟩]
    · rw [if_neg c1]
      refine ih h hF ?_ ?_
      · rw [lk, if_neg c1]; exact i1
      · rw [lk, if_neg c1]; exact i2
  · intro n h hF i1 i2
    unfold f_X7_look_L17
    rw [if_neg (by rw [uI_lt (by omega) (by omega)]; omega)]
    exact ⟨h, rfl, i1, i2, hF⟩
