/-! behind: the class -/
def xCM (b : Nat) (c j : Nat) : Prop := c = 80 ∨ ((c = 123 ∨ c = 124) ∧ j = b)
theorem c_cmpL {t : Tn} (hV : VT t) {Q : Qn} (hQ : VQ t Q) {b : Nat} (hb : b < tF t) (h0 : CH) (hT : CT 7 t h0) (h8 : h0.1 121 8 = nI Q.1) (h2 : ∀ i, i < tP t → h0.1 122 i = qU t Q i) : ∃ h', f_X7_compareMixes (nI b) Q.2.2.2 h0 = some ((), h') ∧ h'.1 123 b = nI (lf t Q b) ∧ h'.1 124 b = nI (ls t Q b) ∧ Fr (xCM b) h0 h' := by
  have v3 := hV.2.2.1
  have v2 := hV.2.1
  unfold f_X7_compareMixes
  have G := loop_FU (fun n k => ∀ h : CH, Fr (xCM b) h0 h → (0 < k → h.1 123 b = nI (le t Q b k).1 ∧ h.1 124 b = nI (le t Q b k).2) → ∃ h', f_X7_compareMixes_L2 (nI b) Q.2.2.2 n (nI (k + 1)) h = some ((), h') ∧ h'.1 123 b = nI (lf t Q b) ∧ h'.1 124 b = nI (ls t Q b) ∧ Fr (xCM b) h0 h') 9 (by omega) ?_ ?_
  · exact G h0 Fr.rf (fun h => absurd h (by omega))
  · intro n k hk ih h hF inv
    have hT' : CT 7 t h := hT.fr hF (fun a k h1 h2 h3 => by unfold xCM at h3; omega) hV
    have h8' : h.1 121 8 = nI Q.1 := by rw [hF.1 _ _ (by unfold xCM; omega)]; exact h8
    unfold f_X7_compareMixes_L2
    rw [if_pos (by rw [uI_lt (by omega) (by omega)]; omega), h8']
    unfold f_X0_develop
    rw [c_developInto (nI (k + 1)) Q.2.2.2 hT' hV (Or.inl rfl) hQ.1 hb hQ.2.2.2, cl_some, cl_some]
    generalize hH : rowS h 80 8 (row8 (tP t) fun i => pri t Q.2.2.2 (mixv t Q.1 b (nI (k + 1)) i)) = H
    have fH : Fr (xCM b) h H := by rw [← hH]; exact Fr.rowS (fun _ => Or.inl rfl)
    have g0 : H.1 7 0 = nI (tP t) := by rw [fH.1 _ _ (by unfold xCM; omega)]; exact hT'.1
    have d := qD_nI hV hQ hb (show k + 1 ≤ 10 by omega)
    have eD : farS (tP t) (H.1 122) (H.1 80) = nI (qD t Q b (k + 1)) := by
      rw [← d.1]
      refine farS_congr (fun i hi => ?_) (fun i hi => ?_)
      · rw [(hF.tr fH).1 _ _ (by unfold xCM; omega)]; exact h2 i hi
      · rw [← hH, rowS_in (by omega)]
        unfold row8; rw [if_pos hi]; rfl
    rw [c_apart 122 80 g0 v2, clp_some, eD, jn_eq, jn_eq]
    rw [rdA_nI (by omega) (by omega), uI_add]
    simp only [wrA_nI (show b < 16 by omega) (show (16:Nat) ≤ 2147483648 by omega)]
    have st : (∃ h', f_X7_compareMixes_L2 (nI b) Q.2.2.2 n (nI (k + 1 + 1)) (sI (sI H 123 b (nI (qD t Q b (k + 1)))) 124 b (nI (k + 1))) = some ((), h') ∧ h'.1 123 b = nI (lf t Q b) ∧ h'.1 124 b = nI (ls t Q b) ∧ Fr (xCM b) h0 h') ∨ ¬ qD t Q b (k + 1) < (le t Q b k).1 := by
      by_cases c : qD t Q b (k + 1) < (le t Q b k).1
      · refine Or.inl (ih _ ?_ (fun _ => ?_))
        · exact ((hF.tr fH).tr (Fr.sI (Or.inr ⟨Or.inl rfl, rfl⟩))).tr (Fr.sI (Or.inr ⟨Or.inr rfl, rfl⟩))
        · rw [le, if_pos c]
          refine ⟨?_, ?_⟩
          · rw [sI_1, if_neg (by omega), sI_1, if_pos ⟨rfl, rfl⟩]
          · rw [sI_1, if_pos ⟨rfl, rfl⟩]
      · exact Or.inr c
    by_cases e : k = 0
    · have c : qD t Q b (k + 1) < (le t Q b k).1 := by rw [e]; show _ < 100000; have := (qD_nI hV hQ hb (show 0 + 1 ≤ 10 by omega)).2; omega
      rw [if_pos (by rw [e])]
      rcases st with s | s
      · exact s
      · exact absurd c s
    · rw [if_neg (by rw [uI_inj (by omega) (by omega)]; omega)]
      have inv := inv (by omega)
      have l := (le_le hV hQ hb k (by omega)).1
      have i1 : H.1 123 b = nI (le t Q b k).1 := by rw [← hH, rowS_ne (by omega)]; exact inv.1
      have i2 : H.1 124 b = nI (le t Q b k).2 := by rw [← hH, rowS_ne (by omega)]; exact inv.2
      rw [i1]
      simp only [uI_lt (show qD t Q b (k + 1) < 2147483648 by omega) (show (le t Q b k).1 < 2147483648 by omega)]
      by_cases c : qD t Q b (k + 1) < (le t Q b k).1
      · rw [if_pos c]
        rcases st with s | s
        · exact s
        · exact absurd c s
      · rw [if_neg c]
        refine ih H (hF.tr fH) (fun _ => ?_)
        rw [le, if_neg c]
        exact ⟨i1, i2⟩
  · intro n h hF inv
    unfold f_X7_compareMixes_L2
    rw [if_neg (by rw [uI_lt (by omega) (by omega)]; omega)]
    obtain ⟨i1, i2⟩ := inv (by omega)
    exact ⟨h, rfl, i1, i2, hF⟩
def xSK (c j : Nat) : Prop := c = 80 ∨ c = 123 ∨ c = 124 ∨ (c = 121 ∧ j = 9)
def FD (t : Tn) (Q : Qn) (k : Nat) (h : CH) : Prop := h.1 121 9 = fo (bs t Q k) ∧ ∀ b, b < k → b ≠ Q.1 → h.1 123 b = nI (lf t Q b) ∧ h.1 124 b = nI (ls t Q b)
theorem c_foundFar {t : Tn} (hV : VT t) {Q : Qn} {h : CH} {k : Nat} (hk : k ≤ tF t) (hT : CT 7 t h) {c : Nat} (hc : bs t Q k = some c) (h1 : h.1 121 9 = nI c) (hL : h.1 123 c = nI (lf t Q c)) : f_X7_foundFar h = some (nI (lf t Q c)) := by
  have v3 := hV.2.2.1
  have l := (bs_lt k c hc).1
  unfold f_X7_foundFar
  rw [h1, c_has1 hT.2.2.1 v3 (by omega), clp_some, if_neg (by decide), rdA_nI (by omega) (by omega), hL]
theorem c_seekL {t : Tn} (hV : VT t) {Q : Qn} (hQ : VQ t Q) (h0 : CH) (hT : CT 7 t h0) (h8 : h0.1 121 8 = nI Q.1) (h2 : ∀ i, i < tP t → h0.1 122 i = qU t Q i) (h9 : h0.1 121 9 = -1) : ∃ h', f_X7_seek_L93 Q.2.2.2 FU (nI 0) h0 = some ((), h') ∧ FD t Q (tF t) h' ∧ Fr xSK h0 h' := by
  have v3 := hV.2.2.1
  have G := loop_FU (fun n k => ∀ h : CH, Fr xSK h0 h → FD t Q k h → ∃ h', f_X7_seek_L93 Q.2.2.2 n (nI k) h = some ((), h') ∧ FD t Q (tF t) h' ∧ Fr xSK h0 h') (tF t) (by omega) ?_ ?_
  · exact G h0 Fr.rf ⟨h9, fun b hb => absurd hb (by omega)⟩
  · intro n k hk ih h hF hD
    have hT' : CT 7 t h := hT.fr hF (fun a k h1 h2 h3 => by unfold xSK at h3; omega) hV
    have h8' : h.1 121 8 = nI Q.1 := by rw [hF.1 _ _ (by unfold xSK; omega)]; exact h8
    have h2' : ∀ i, i < tP t → h.1 122 i = qU t Q i := fun i hi => by rw [hF.1 _ _ (by unfold xSK; omega)]; exact h2 i hi
    unfold f_X7_seek_L93
    rw [hT'.2.2.1, if_pos (by rw [uI_lt (by omega) (by omega)]; exact hk), if_pos (by rw [uI_lt (by omega) (by omega)]; omega), h8', jn_eq]
    have q1 := hQ.1
    simp only [uI_inj (show k < 2147483648 by omega) (show Q.1 < 2147483648 by omega), uI_add]
    by_cases e : k = Q.1
    · rw [if_pos e]
      refine ih h hF ⟨?_, fun b hb hn => hD.2 b (by omega) hn⟩
      rw [bs, if_pos e]
      exact hD.1
    · rw [if_neg e]
      obtain ⟨h1, e1, e2, e3, e4⟩ := c_cmpL hV hQ hk h hT' h8' h2'
      rw [e1, cl_some, jn_eq]
      have f1 : Fr xSK h0 h1 := hF.tr (e4.mono (fun c j hx => by unfold xCM at hx; unfold xSK; omega))
      have hT1 : CT 7 t h1 := hT.fr f1 (fun a k h1 h2 h3 => by unfold xSK at h3; omega) hV
      have l9 : h1.1 121 9 = h.1 121 9 := e4.1 _ _ (by unfold xCM; omega)
      have old : ∀ b, b < k + 1 → b ≠ Q.1 → h1.1 123 b = nI (lf t Q b) ∧ h1.1 124 b = nI (ls t Q b) := by
        intro b hb hn
        by_cases z : b = k
        · rw [z]; exact ⟨e2, e3⟩
        · rw [e4.1 _ _ (by unfold xCM; omega), e4.1 _ _ (by unfold xCM; omega)]
          exact hD.2 b (by omega) hn
      have set : ∃ h', f_X7_seek_L93 Q.2.2.2 n (nI (k + 1)) (sI h1 121 9 (nI k)) = some ((), h') ∧ FD t Q (tF t) h' ∧ Fr xSK h0 h' ∨ ¬ bs t Q (k + 1) = some k := by
        by_cases z : bs t Q (k + 1) = some k
        · have := ih (sI h1 121 9 (nI k)) (f1.tr (Fr.sI (by unfold xSK; omega))) ⟨by rw [z, sI_1, if_pos ⟨rfl, rfl⟩]; rfl, fun b hb hn => by rw [sI_1, sI_1, if_neg (by omega), if_neg (by omega)]; exact old b hb hn⟩
          obtain ⟨h', w⟩ := this
          exact ⟨h', Or.inl w⟩
        · exact ⟨h1, Or.inr z⟩
      rw [wrF_eq, l9, hD.1]
      cases hb : bs t Q k with
      | none =>
        rw [if_pos (show fo none = -1 from rfl)]
        have z : bs t Q (k + 1) = some k := by rw [bs, if_neg e, hb]
        obtain ⟨h', w | w⟩ := set
        · exact ⟨h', w⟩
        · exact absurd z w
      | some c =>
        have lc := bs_lt k c hb
        have le1 := (le_le hV hQ hk 9 (by omega)).1
        have le2 := (le_le hV hQ (show c < tF t by omega) 9 (by omega)).1
        have oc := old c (by omega) lc.2
        have n9 : h1.1 121 9 = nI c := by rw [l9, hD.1, hb]; rfl
        rw [if_neg (by show ¬ nI c = -1; rw [uI_ne1 (by omega)]; exact id), rdA_nI (by omega) (by omega), c_foundFar hV (show k ≤ tF t by omega) hT1 hb n9 oc.1, clp_some, e2]
        have hx : (nI (lf t Q k) < nI (lf t Q c)) = (lf t Q k < lf t Q c) := uI_lt (by unfold lf; omega) (by unfold lf; omega)
        simp only [hx]
        by_cases z : lf t Q k < lf t Q c
        · rw [if_pos z]
          have z2 : bs t Q (k + 1) = some k := by rw [bs, if_neg e, hb]; exact if_pos z
          obtain ⟨h', w | w⟩ := set
          · exact ⟨h', w⟩
          · exact absurd z2 w
        · rw [if_neg z]
          refine ih h1 f1 ⟨?_, old⟩
          rw [n9, bs, if_neg e, hb]
          show _ = fo (if lf t Q k < lf t Q c then some k else some c)
          rw [if_neg z]
          rfl
  · intro n h hF hD
    have hT' : CT 7 t h := hT.fr hF (fun a k h1 h2 h3 => by unfold xSK at h3; omega) hV
    unfold f_X7_seek_L93
    rw [hT'.2.2.1, if_neg (by rw [uI_lt (by omega) (by omega)]; omega)]
    exact ⟨h, rfl, hD, hF⟩
