/-! behind: the reference -/
theorem m_printerOf {p : Pp} {h : CH} {i : Nat} (hC : MP p h) (hi : i < pN p) (hN : pN p ≤ 40) : f_X12_printerOf (nI i) h = some (qP p i).2.2.2 := by
  obtain ⟨d1, d2, d3, d4, d5, d6⟩ := hC.2.2 i hi
  unfold f_X12_printerOf
  rw [rdA_nI (by omega) (by omega), d4]
  rfl
def xLB (c j : Nat) : Prop := c = 176 ∨ (c = 151 ∧ j = 63)
theorem m_leastBy {bk : Nat} {t : Tn} (hV : VT t) {p : Pp} (hP : VP (tF t) p) {i : Nat} (hi : i < pN p) {b : Nat} (hb : b < tF t) (h0 : CH) (hM : MT bk t h0) (hC : MP p h0) (h2 : ∀ j, j < tP t → h0.1 177 j = qU t (qP p i) j) : ∃ h', f_X12_leastBy (nI i) (nI b) h0 = some (nI (lf t (qP p i) b), h') ∧ h'.1 151 63 = nI (ls t (qP p i) b) ∧ Fr xLB h0 h' := by
  have v3 := hV.2.2.1
  have v2 := hV.2.1
  have hN := hP.1
  obtain ⟨hQ, ea, eb, es⟩ := VQ_qP hV hP hi
  unfold f_X12_leastBy
  have G := loop_FU (fun n k => ∀ h : CH, Fr xLB h0 h → (0 < k → h.1 151 63 = nI (le t (qP p i) b k).2) → ∃ h', f_X12_leastBy_L7 (nI i) (nI b) n (nI (le t (qP p i) b k).1) (nI (k + 1)) h = some (nI (lf t (qP p i) b), h') ∧ h'.1 151 63 = nI (ls t (qP p i) b) ∧ Fr xLB h0 h') 9 (by omega) ?_ ?_
  · exact G h0 Fr.rf (fun h => absurd h (by omega))
  · intro n k hk ih h hF inv
    have hM' : MT bk t h := hM.fr hF (fun a k h1 h2 h3 => by unfold xLB at h3; omega) (by unfold xLB; omega)
    have hC' : MP p h := hC.fr hF (fun a k h1 h2 h3 => by unfold xLB at h3; omega) (by unfold xLB; omega) (by unfold xLB; omega)
    unfold f_X12_leastBy_L7
    rw [if_neg (by rw [uI_lt (by omega) (by omega)]; omega), rdA_nI (by omega) (by omega), (hC'.2.2 i hi).1, m_printerOf hC' hi hN, clp_some, ea, m_layMix _ _ hM' hV hQ.1 hb hQ.2.2.2, cl_some]
    generalize hH : rowS h 176 (tP t) (fun j => pri t (qP p i).2.2.2 (mixv t (qP p i).1 b (nI (k + 1)) j)) = H
    have fH : Fr xLB h H := by rw [← hH]; exact Fr.rowS (fun _ => Or.inl rfl)
    have eD : farS (tP t) (H.1 176) (H.1 177) = nI (qD t (qP p i) b (k + 1)) := by
      rw [← qI_sym hV hQ hb (show k + 1 ≤ 10 by omega)]
      refine farS_congr (fun j hj => ?_) (fun j hj => ?_)
      · rw [← hH, rowS_in hj]; rfl
      · rw [(hF.tr fH).1 _ _ (by unfold xLB; omega)]; exact h2 j hj
    have d := (qD_nI hV hQ hb (show k + 1 ≤ 10 by omega)).2
    have l := (le_le hV hQ hb k (by omega)).1
    rw [m_farBeside (hM'.fr fH (fun a k h1 h2 h3 => by unfold xLB at h3; omega) (by unfold xLB; omega)) hV, clp_some, eD, jn_eq, wrF_eq, uI_add]
    have hx : (nI (qD t (qP p i) b (k + 1)) < nI (le t (qP p i) b k).1) = (qD t (qP p i) b (k + 1) < (le t (qP p i) b k).1) := uI_lt (by omega) (by omega)
    simp only [hx]
    by_cases c : qD t (qP p i) b (k + 1) < (le t (qP p i) b k).1
    · rw [if_pos c]
      have := ih (sI H 151 63 (nI (k + 1))) ((hF.tr fH).tr (Fr.sI (Or.inr ⟨rfl, rfl⟩))) (fun _ => by rw [le, if_pos c, sI_1, if_pos ⟨rfl, rfl⟩])
      rw [le, if_pos c] at this
      exact this
    · rw [if_neg c]
      have := ih H (hF.tr fH) (fun h0 => by
        rw [le, if_neg c, ← hH, rowS_ne (by omega)]
        refine inv (Nat.pos_of_ne_zero fun z => c ?_)
        subst z
        show _ < 100000
        omega)
      rw [le, if_neg c] at this
      exact this
  · intro n h hF inv
    unfold f_X12_leastBy_L7
    rw [if_pos (by rw [uI_lt (by omega) (by omega)]; omega)]
    exact ⟨h, rfl, inv (by omega), hF⟩
def xFB (c j : Nat) : Prop := c = 176 ∨ (c = 151 ∧ 62 ≤ j ∧ j ≤ 64)
def fo4 (t : Tn) (Q : Qn) : Option Nat → Int32
  | none => nI 100000
  | some c => nI (lf t Q c)
theorem m_findL {bk : Nat} {t : Tn} (hV : VT t) {p : Pp} (hP : VP (tF t) p) {i : Nat} (hi : i < pN p) (h0 : CH) (hM : MT bk t h0) (hC : MP p h0) (h2 : ∀ j, j < tP t → h0.1 177 j = qU t (qP p i) j) (h62 : h0.1 151 62 = -1) (h64 : h0.1 151 64 = nI 100000) : (∀ c, bs t (qP p i) (tF t) = some c → ∃ h', f_X12_findBehind_L23 (nI i) FU (nI 0) h0 = some (nI 1, h') ∧ h'.1 151 62 = nI c ∧ h'.1 151 63 = nI (ls t (qP p i) c) ∧ h'.1 151 64 = nI (lf t (qP p i) c) ∧ Fr xFB h0 h') ∧ (bs t (qP p i) (tF t) = none → PO xFB h0 (f_X12_findBehind_L23 (nI i) FU (nI 0) h0) (nI 0)) := by
  have v3 := hV.2.2.1
  have hN := hP.1
  obtain ⟨hQ, ea, eb, es⟩ := VQ_qP hV hP hi
  have q1 := hQ.1
  have G := loop_FU (fun n k => ∀ h : CH, Fr xFB h0 h → h.1 151 62 = fo (bs t (qP p i) k) → h.1 151 64 = fo4 t (qP p i) (bs t (qP p i) k) → (∀ c, bs t (qP p i) (tF t) = some c → ∃ h', f_X12_findBehind_L23 (nI i) n (nI k) h = some (nI 1, h') ∧ h'.1 151 62 = nI c ∧ h'.1 151 63 = nI (ls t (qP p i) c) ∧ h'.1 151 64 = nI (lf t (qP p i) c) ∧ Fr xFB h0 h') ∧ (bs t (qP p i) (tF t) = none → PO xFB h0 (f_X12_findBehind_L23 (nI i) n (nI k) h) (nI 0))) (tF t) (by omega) ?_ ?_
  · exact G h0 Fr.rf h62 h64
  · intro n k hk ih h hF i2 i4
    have hM' : MT bk t h := hM.fr hF (fun a k h1 h2 h3 => by unfold xFB at h3; omega) (by unfold xFB; omega)
    have hC' : MP p h := hC.fr hF (fun a k h1 h2 h3 => by unfold xFB at h3; omega) (by unfold xFB; omega) (by unfold xFB; omega)
    have h2' : ∀ j, j < tP t → h.1 177 j = qU t (qP p i) j := fun j hj => by rw [hF.1 _ _ (by unfold xFB; omega)]; exact h2 j hj
    unfold f_X12_findBehind_L23
    rw [m_many hM', clp_some, if_pos (by rw [uI_lt (by omega) (by omega)]; exact hk), rdA_nI (by omega) (by omega), (hC'.2.2 i hi).1, ea, jn_eq]
    simp only [uI_inj (show k < 2147483648 by omega) (show (qP p i).1 < 2147483648 by omega), uI_add]
    by_cases e : k = (qP p i).1
    · rw [if_pos e]
      refine ih h hF ?_ ?_
      · rw [bs, if_pos e]; exact i2
      · rw [bs, if_pos e]; exact i4
    · rw [if_neg e]
      obtain ⟨h1, e1, e2, e3⟩ := m_leastBy hV hP hi hk h hM' hC' h2'
      rw [e1, cl_some]
      have f1 : Fr xFB h0 h1 := hF.tr (e3.mono (fun c j hx => by unfold xLB at hx; unfold xFB; omega))
      have l2 : h1.1 151 62 = h.1 151 62 := e3.1 _ _ (by unfold xLB; omega)
      have l4 : h1.1 151 64 = h.1 151 64 := e3.1 _ _ (by unfold xLB; omega)
      have le1 := (le_le hV hQ hk 9 (by omega)).2.2 (by omega)
      have lk : lf t (qP p i) k ≤ 792 := le1
      have set : bs t (qP p i) (k + 1) = some k → (∀ c, bs t (qP p i) (tF t) = some c → ∃ h', f_X12_findBehind_L23 (nI i) n (nI (k + 1)) (sI (sI h1 151 62 (nI k)) 151 64 (nI (lf t (qP p i) k))) = some (nI 1, h') ∧ h'.1 151 62 = nI c ∧ h'.1 151 63 = nI (ls t (qP p i) c) ∧ h'.1 151 64 = nI (lf t (qP p i) c) ∧ Fr xFB h0 h') ∧ (bs t (qP p i) (tF t) = none → PO xFB h0 (f_X12_findBehind_L23 (nI i) n (nI (k + 1)) (sI (sI h1 151 62 (nI k)) 151 64 (nI (lf t (qP p i) k)))) (nI 0)) := by
        intro z
        refine ih _ ((f1.tr (Fr.sI (by unfold xFB; omega))).tr (Fr.sI (by unfold xFB; omega))) ?_ ?_
        · rw [z, sI_1, if_neg (by omega), sI_1, if_pos ⟨rfl, rfl⟩]; rfl
        · rw [z, sI_1, if_pos ⟨rfl, rfl⟩]; rfl
      rw [wrF_eq, wrF_eq, l4, i4]
      cases hb : bs t (qP p i) k with
      | none =>
        have z : bs t (qP p i) (k + 1) = some k := by rw [bs, if_neg e, hb]
        have hx : (nI (lf t (qP p i) k) < fo4 t (qP p i) none) = True := by
          show (nI (lf t (qP p i) k) < nI 100000) = True
          rw [uI_lt (by omega) (by omega)]; exact eq_true (by omega)
        simp only [hx, if_true]
        exact set z
      | some c =>
        have lc := bs_lt k c hb
        have le2 := (le_le hV hQ (show c < tF t by omega) 9 (by omega)).2.2 (by omega)
        have lk2 : lf t (qP p i) c ≤ 792 := le2
        have hx : (nI (lf t (qP p i) k) < fo4 t (qP p i) (some c)) = (lf t (qP p i) k < lf t (qP p i) c) := uI_lt (by omega) (by omega)
        simp only [hx]
        by_cases z : lf t (qP p i) k < lf t (qP p i) c
        · simp only [z, if_true]
          exact set (by rw [bs, if_neg e, hb]; exact if_pos z)
        · simp only [z, if_false]
          have z2 : bs t (qP p i) (k + 1) = some c := by rw [bs, if_neg e, hb]; exact if_neg z
          refine ih h1 f1 ?_ ?_
          · rw [z2, l2, i2, hb]
          · rw [z2, l4, i4, hb]
  · intro n h hF i2 i4
    have hM' : MT bk t h := hM.fr hF (fun a k h1 h2 h3 => by unfold xFB at h3; omega) (by unfold xFB; omega)
    have hC' : MP p h := hC.fr hF (fun a k h1 h2 h3 => by unfold xFB at h3; omega) (by unfold xFB; omega) (by unfold xFB; omega)
    have h2' : ∀ j, j < tP t → h.1 177 j = qU t (qP p i) j := fun j hj => by rw [hF.1 _ _ (by unfold xFB; omega)]; exact h2 j hj
    unfold f_X12_findBehind_L23
    rw [m_many hM', clp_some, if_neg (by rw [uI_lt (by omega) (by omega)]; omega), jn_eq]
    refine ⟨fun c hb => ?_, fun hb => ?_⟩
    · have lc := bs_lt _ c hb
      have n2 : h.1 151 62 = nI c := by rw [i2, hb]; rfl
      have ng : (nI c < 0) = False := uI_lt0 (by omega)
      rw [n2]
      obtain ⟨h1, e1, e2, e3⟩ := m_leastBy hV hP hi lc.1 h hM' hC' h2'
      simp only [ng, if_false]
      rw [e1, cl_some, wrF_eq]
      have l2 : (sI h1 151 64 (nI (lf t (qP p i) c))).1 151 62 = nI c := by rw [sI_1, if_neg (by omega), e3.1 _ _ (by unfold xLB; omega)]; exact n2
      rw [l2]
      simp only [ng, if_false]
      exact ⟨_, rfl, l2, by rw [sI_1, if_neg (by omega)]; exact e2, by rw [sI_1, if_pos ⟨rfl, rfl⟩], (hF.tr (e3.mono (fun c j hx => by unfold xLB at hx; unfold xFB; omega))).tr (Fr.sI (by unfold xFB; omega))⟩
    · have n2 : h.1 151 62 = -1 := by rw [i2, hb]; rfl
      simp only [n2, show ((-1 : Int32) < 0) = True from eq_true (by decide), if_true]
      exact PO.mk hF
