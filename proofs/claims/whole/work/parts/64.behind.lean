/-! behind: the class's answer -/
theorem su_dec {t : Tn} {Q : Qn} {c m b : Nat} {n : Nat} : su t Q c m (n + 1) b = (if b = Q.1 then su t Q c m n (b + 1) else if b = c then su t Q c m n (b + 1) else if m < lf t Q b then su t Q c m n (b + 1) else false) := rfl
theorem c_isSureL {t : Tn} (hV : VT t) {Q : Qn} (hQ : VQ t Q) {h : CH} {c m : Nat} (hT : CT 7 t h) (h8 : h.1 121 8 = nI Q.1) (h7 : h.1 121 7 = nI (qD t Q Q.1 10)) (hD : FD t Q (tF t) h) (hc : bs t Q (tF t) = some c) (hm : m < 100000) : f_X7_isSure_L15 (nI m) h FU (nI 0) = some (bI (su t Q c m (tF t) 0)) := by
  have v3 := hV.2.2.1
  have q1 := hQ.1
  have lc := bs_lt _ _ hc
  have h9 : h.1 121 9 = nI c := by rw [hD.1, hc]; rfl
  have own := (qD_nI hV hQ hQ.1 (show 10 ≤ 10 by omega)).2
  have G := loop_FU (fun n k => k ≤ tF t → f_X7_isSure_L15 (nI m) h n (nI k) = some (bI (su t Q c m (tF t - k) k))) (tF t) (by omega) ?_ ?_
  · exact G (by omega)
  · intro n k hk ih _
    have ih := ih (by omega)
    unfold f_X7_isSure_L15
    rw [jn_eq, hT.2.2.1, if_pos (by rw [uI_lt (by omega) (by omega)]; exact hk), if_pos (by rw [uI_lt (by omega) (by omega)]; omega), jn_eq, uI_add, ih, h8, h9]
    rw [show tF t - k = (tF t - (k + 1)) + 1 by omega, su_dec]
    simp only [uI_inj (show k < 2147483648 by omega) (show Q.1 < 2147483648 by omega), uI_inj (show k < 2147483648 by omega) (show c < 2147483648 by omega)]
    by_cases e1 : k = Q.1
    · rw [if_pos e1, if_pos e1]
    rw [if_neg e1, if_neg e1]
    by_cases e2 : k = c
    · rw [if_pos e2, if_pos e2]
    rw [if_neg e2, if_neg e2, rdA_nI (by omega) (by omega), (hD.2 k hk e1).1]
    have l := (le_le hV hQ hk 9 (by omega)).1
    have hx : (nI m < nI (lf t Q k)) = (m < lf t Q k) := uI_lt (by omega) (by unfold lf; omega)
    simp only [hx]
    by_cases e3 : m < lf t Q k
    · rw [if_pos e3, if_pos e3]
    · rw [if_neg e3, if_neg e3]; rfl
  · intro n _
    unfold f_X7_isSure_L15
    rw [jn_eq, hT.2.2.1, if_neg (by rw [uI_lt (by omega) (by omega)]; omega), h7, Nat.sub_self]
    unfold su
    have hx : (nI m < nI (qD t Q Q.1 10)) = (m < qD t Q Q.1 10) := uI_lt (by omega) (by omega)
    simp only [hx]
    by_cases e : m < qD t Q Q.1 10 <;> simp [e, bI]
def qP (p : Pp) (i : Nat) : Qn := ((pfa p i).toNatClampNeg, (pot p i).toNatClampNeg, (psh p i).toNatClampNeg, ppl p i / nI 10 - ppl p i / nI 10 / nI 10 * nI 10)
theorem VQ_qP {t : Tn} (hV : VT t) {p : Pp} (hP : VP (tF t) p) {i : Nat} (hi : i < pN p) : VQ t (qP p i) ∧ pfa p i = nI (qP p i).1 ∧ pot p i = nI (qP p i).2.1 ∧ psh p i = nI (qP p i).2.2.1 := by
  have v3 := hV.2.2.1
  obtain ⟨⟨a, ha, ea⟩, ⟨b, hb, eb⟩, ⟨s, hs, es⟩, ⟨q, hq, hq2, eq⟩, -⟩ := hP.2.2 i hi
  unfold qP VQ
  rw [ea, eb, es, eq, uI_toNat (by omega), uI_toNat (by omega), uI_toNat (by omega), uI_div (by omega) (by omega), uI_rem (by omega) (by omega)]
  refine ⟨⟨ha, hb, hs, ?_⟩, rfl, rfl, rfl⟩
  generalize q / 10 % 10 = z at hq2
  show inR (-1) (nI 3) (nI z) = true
  have : z = 0 ∨ z = 1 ∨ z = 2 ∨ z = 3 := by omega
  rcases this with e | e | e | e <;> subst e <;> decide
theorem c_of71 {p : Pp} {h : CH} {i : Nat} (hC : CP 71 p h) (hN : pN p ≤ 40) (hi : i < pN p) : f_X2_faceOf_71 (nI i) h = some (pfa p i) ∧ f_X2_otherOf_71 (nI i) h = some (pot p i) ∧ f_X2_shareOf_71 (nI i) h = some (psh p i) ∧ f_X2_printerOf_71 (nI i) h = some (qP p i).2.2.2 := by
  obtain ⟨d1, d2, d3, d4, d5, d6⟩ := hC.2.2 i hi
  unfold f_X2_faceOf_71 f_X2_otherOf_71 f_X2_shareOf_71 f_X2_printerOf_71
  rw [c_hasP _ hC hN, isF_nI hi (by omega), clp_some, clp_some, clp_some, clp_some]
  simp only [show ¬ (bI true = 0) by decide, if_false]
  rw [rdA_nI (by omega) (by omega), rdA_nI (by omega) (by omega), rdA_nI (by omega) (by omega), rdA_nI (by omega) (by omega)]
  refine ⟨congrArg some d1, congrArg some d2, congrArg some d3, ?_⟩
  have d4 : h.1 75 i = ppl p i := d4
  rw [d4]
  rfl
theorem c_seek {t : Tn} (hV : VT t) {p : Pp} (hP : VP (tF t) p) {i : Nat} (hi : i < pN p) {h : CH} (hT : CT 7 t h) (hC : CP 71 p h) : ∃ h', f_X7_seek (nI i) h = some ((), h') ∧ FD t (qP p i) (tF t) h' ∧ h'.1 121 8 = nI (qP p i).1 ∧ h'.1 121 7 = nI (qD t (qP p i) (qP p i).1 10) ∧ Fr TC h h' := by
  have v3 := hV.2.2.1
  have v2 := hV.2.1
  obtain ⟨hQ, ea, eb, es⟩ := VQ_qP hV hP hi
  obtain ⟨o1, o2, o3, o4⟩ := c_of71 hC hP.1 hi
  unfold f_X7_seek
  rw [o4, clp_some, o1, clp_some, wrF_eq]
  generalize hA : sI h 121 8 (pfa p i) = A
  have fA : Fr TC h A := by rw [← hA]; exact Fr.sI (by unfold TC; omega)
  have A8 : A.1 121 8 = nI (qP p i).1 := by rw [← hA, sI_1, if_pos ⟨rfl, rfl⟩]; exact ea
  obtain ⟨o1, o2, o3, o4⟩ := c_of71 (hC.tc fA) hP.1 hi
  rw [o2, clp_some, o3, clp_some, A8, eb]
  generalize hq : qP p i = Q at *
  rw [c_developInto _ _ (hT.tc fA hV) hV (Or.inr rfl) hQ.1 hQ.2.1 hQ.2.2.2, cl_some]
  generalize hB : rowS A 122 8 (row8 (tP t) fun j => pri t Q.2.2.2 (mixv t Q.1 Q.2.1 (psh p i) j)) = B
  have fB : Fr TC h B := fA.tr (by rw [← hB]; exact Fr.rowS (fun _ => by unfold TC; omega))
  have B8 : B.1 121 8 = nI Q.1 := by rw [← hB, rowS_ne (by omega)]; exact A8
  unfold f_X0_develop
  rw [B8, c_developInto _ _ (hT.tc fB hV) hV (Or.inl rfl) hQ.1 hQ.1 hQ.2.2.2, cl_some, cl_some]
  generalize hE : rowS B 80 8 (row8 (tP t) fun j => pri t Q.2.2.2 (mixv t Q.1 Q.1 (nI 10) j)) = E
  have fE : Fr TC h E := fB.tr (by rw [← hE]; exact Fr.rowS (fun _ => by unfold TC; omega))
  have E2 : ∀ j, j < tP t → E.1 122 j = qU t Q j := by
    intro j hj
    rw [← hE, rowS_ne (by omega), ← hB, rowS_in (by omega), es]
    unfold row8; rw [if_pos hj]; rfl
  have E8 : E.1 121 8 = nI Q.1 := by rw [← hE, rowS_ne (by omega)]; exact B8
  have eD : farS (tP t) (E.1 122) (E.1 80) = nI (qD t Q Q.1 10) := by
    rw [← (qD_nI hV hQ hQ.1 (show 10 ≤ 10 by omega)).1]
    refine farS_congr (fun j hj => E2 j hj) (fun j hj => ?_)
    rw [← hE, rowS_in (by omega)]
    unfold row8; rw [if_pos hj]; rfl
  rw [c_apart 122 80 (hT.tc fE hV).1 v2, clp_some, eD, wrF_eq, wrF_eq]
  generalize hG : sI (sI E 121 7 (nI (qD t Q Q.1 10))) 121 9 (-1) = G
  have e : ∀ a j, G.1 a j = if a = 121 ∧ j = 9 then -1 else if a = 121 ∧ j = 7 then nI (qD t Q Q.1 10) else E.1 a j := by intro a j; rw [← hG]; rfl
  have fG : Fr TC h G := by rw [← hG]; exact (fE.tr (Fr.sI (by unfold TC; omega))).tr (Fr.sI (by unfold TC; omega))
  obtain ⟨h', e1, e2, e3⟩ := c_seekL hV hQ G (hT.tc fG hV) (by rw [e, if_neg (by omega), if_neg (by omega)]; exact E8) (fun j hj => by rw [e, if_neg (by omega), if_neg (by omega)]; exact E2 j hj) (by rw [e, if_pos ⟨rfl, rfl⟩])
  refine ⟨h', e1, e2, ?_, ?_, fG.tr (e3.mono (fun c j hx => by unfold xSK at hx; unfold TC; omega))⟩
  · rw [e3.1 _ _ (by unfold xSK; omega), e, if_neg (by omega), if_neg (by omega)]; exact E8
  · rw [e3.1 _ _ (by unfold xSK; omega), e, if_neg (by omega), if_pos ⟨rfl, rfl⟩]
def bhV (t : Tn) (Q : Qn) (w : Int32) (c : Nat) : Int32 := if w = nI 0 then nI c else if w = nI 1 then nI (ls t Q c) else if w = nI 2 then nI (lf t Q c) else bI (su t Q c (lf t Q c + (tnr t).toNatClampNeg) (tF t) 0)
def bhA (t : Tn) (p : Pp) (x w k : Int32) : Int32 := if inR (nI 0) (nI 3) w = true then if cnt p x k = true then match bs t (qP p x.toNatClampNeg) (tF t) with | none => -1 | some c => bhV t (qP p x.toNatClampNeg) w c else -1 else -1
theorem cnt_F {p : Pp} {x k : Int32} (h : cnt p x k = true) (hN : pN p ≤ 40) : ∃ i, i < pN p ∧ x = nI i := by
  unfold cnt at h
  rw [Bool.and_eq_true] at h
  exact isF_of h.1 (by omega)
theorem c_behind {t : Tn} {p : Pp} {h : CH} (x w k : Int32) (hT : CT 7 t h) (hVT : VT t) (hC : CP 71 p h) (hV : VP (tF t) p) : PO TC h (f_X11_behind x w k h) (bhA t p x w k) := by
  have v3 := hVT.2.2.1
  have q0 := hVT.2.2.2.2.1
  obtain ⟨nr, hnr, enr⟩ := q0
  unfold f_X11_behind bhA
  have e0 : ∀ (u v : Option (Int32 × CH)), (if w < 0 then u else if nI 3 < w then u else v) = (if inR (nI 0) (nI 3) w = true then v else u) := by
    intro u v
    unfold inR
    rw [← uI_z]
    by_cases h1 : w < 0
    · simp [h1]
    · by_cases h2 : nI 3 < w
      · simp [h1, h2]
      · simp [h1, h2]
  rw [e0]
  cases hw : inR (nI 0) (nI 3) w
  · exact PO.mk Fr.rf
  simp only [if_true]
  rw [c_counts x k hC hV, clp_some, ifB]
  cases hk : cnt p x k
  · exact PO.mk Fr.rf
  simp only [if_true]
  obtain ⟨i, hi, rfl⟩ := cnt_F hk hV.1
  have hiN := hV.1
  rw [uI_toNat (by omega), hT.2.2.1]
  have hx : (nI (tF t) < nI 2) = (tF t < 2) := uI_lt (by omega) (by omega)
  simp only [hx]
  obtain ⟨hQ, -⟩ := VQ_qP hVT hV hi
  have b2 := bs_2 (t := t) hQ.1
  obtain ⟨h', e1, e2, e3, e4, e5⟩ := c_seek hVT hV hi hT hC
  rw [e1]
  generalize hq : qP p i = Q at *
  cases hb : bs t Q (tF t) with
  | none =>
    rw [hb] at b2
    rw [if_pos (b2 ▸ rfl)]
    exact PO.mk Fr.rf
  | some c =>
    rw [hb] at b2
    rw [if_neg (by rw [← b2]; exact fun z => by cases z)]
    rw [cl_some]
    have lc := bs_lt _ _ hb
    have l := (le_le hVT hQ lc.1 9 (by omega))
    have h9 : h'.1 121 9 = nI c := by rw [e2.1, hb]; rfl
    have hT' := hT.tc e5 hVT
    have ff := c_foundFar hVT (Nat.le_refl _) hT' hb h9 (e2.2 c lc.1 lc.2).1
    have fs : f_X7_foundShare h' = some (nI (ls t Q c)) := by
      unfold f_X7_foundShare
      rw [h9, c_has1 hT'.2.2.1 v3 lc.1, clp_some, if_neg (by decide), rdA_nI (by omega) (by omega), (e2.2 c lc.1 lc.2).2]
    show PO TC h _ (bhV t Q w c)
    unfold bhV
    by_cases w0 : w = nI 0
    · rw [if_pos w0, if_pos w0, h9]; exact PO.mk e5
    rw [if_neg w0, if_neg w0]
    by_cases w1 : w = nI 1
    · rw [if_pos w1, if_pos w1, fs, clp_some]; exact PO.mk e5
    rw [if_neg w1, if_neg w1]
    by_cases w2 : w = nI 2
    · rw [if_pos w2, if_pos w2, ff, clp_some]; exact PO.mk e5
    rw [if_neg w2, if_neg w2]
    unfold f_X7_isSure
    rw [ff, clp_some, hT'.2.1, enr, uI_add, uI_toNat (by omega)]
    have ll : lf t Q c ≤ 792 := l.2.2 (by omega)
    rw [c_isSureL hVT hQ hT' e3 e4 e2 hb (by omega), clp_some, ifB]
    cases su t Q c (lf t Q c + nr) (tF t) 0
    · exact PO.mk e5
    · exact PO.mk e5
