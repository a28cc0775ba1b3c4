/-! untell, later -/
def utB (p : Pp) (x : Int32) : Bool := isF (pN p) x && decide (pun p x.toNatClampNeg = -1)
def ppU (p : Pp) (x : Int32) : Pp := (pN p, pT p, pfa p, pot p, psh p, ppl p, pto p, up1 (pun p) x.toNatClampNeg (nI (pT p)))
def ppT (p : Pp) (by' : Nat) : Pp := (pN p, pT p + by', pfa p, pot p, psh p, ppl p, pto p, pun p)
theorem VP.ppU {F : Nat} {p : Pp} (hV : VP F p) (x : Int32) : VP F (ppU p x) := by
  obtain ⟨v1, v2, v3⟩ := hV
  refine ⟨v1, v2, fun i hi => ?_⟩
  obtain ⟨a1, a2, a3, a4, a5, a6⟩ := v3 i hi
  refine ⟨a1, a2, a3, a4, a5, ?_⟩
  show (up1 (pun p) x.toNatClampNeg (nI (pT p)) i = -1 ∨ ∃ n, n ≤ 100000 ∧ up1 (pun p) x.toNatClampNeg (nI (pT p)) i = nI n)
  unfold up1
  by_cases e : i = x.toNatClampNeg
  · rw [if_pos e]; exact Or.inr ⟨pT p, v2, rfl⟩
  · rw [if_neg e]; exact a6
theorem c_untell {F : Nat} {p : Pp} {h : CH} (x : Int32) (hC : CP 71 p h) (hV : VP F p) : (utB p x = true → ∃ h', f_X11_untell x h = some (nI 1, h') ∧ CP 71 (ppU p x) h' ∧ Fr SP h h') ∧ (utB p x = false → f_X11_untell x h = some (nI 0, h)) := by
  have v1 := hV.1
  unfold f_X11_untell f_X2_takeBack_71 utB
  rw [c_hasP x hC v1, clp_some, ifB]
  cases hx : isF (pN p) x
  · refine ⟨fun q => absurd q (by simp), fun _ => ?_⟩
    simp only [Bool.false_eq_true, if_false]
    rw [cl_some, rz_0]
  obtain ⟨i, hi, rfl⟩ := isF_of hx (by omega)
  obtain ⟨c1, c2, c3⟩ := hC
  obtain ⟨d1, d2, d3, d4, d5, d6⟩ := c3 i hi
  have d6 : h.1 77 i = pun p i := d6
  simp only [if_true, Bool.true_and]
  rw [rdA_nI (by omega) (by omega), wrA_nI (by omega) (by omega), uI_toNat (by omega), d6]
  by_cases c : pun p i = -1
  · refine ⟨fun _ => ?_, fun q => absurd c (of_decide_eq_false q)⟩
    rw [if_pos c, cl_some, rz_1]
    refine ⟨_, rfl, ⟨?_, ?_, fun j hj => ?_⟩, Fr.sI (by unfold SP; omega)⟩
    · exact c1
    · exact c2
    · obtain ⟨e1, e2, e3, e4, e5, e6⟩ := c3 j hj
      refine ⟨?_, ?_, ?_, ?_, ?_, ?_⟩
      · rw [sI_1, if_neg (by omega)]; exact e1
      · rw [sI_1, if_neg (by omega)]; exact e2
      · rw [sI_1, if_neg (by omega)]; exact e3
      · rw [sI_1, if_neg (by omega)]; exact e4
      · rw [sI_1, if_neg (by omega)]; exact e5
      · show (if 77 = 77 ∧ j = i then h.1 71 1 else h.1 77 j) = up1 (pun p) (nI i).toNatClampNeg (nI (pT p)) j
        unfold up1
        rw [uI_toNat (by omega)]
        by_cases z : j = i
        · simp [z]; exact c2
        · simp [z]; exact e6
  · refine ⟨fun q => absurd (of_decide_eq_true q) c, fun _ => ?_⟩
    rw [if_neg c, cl_some, rz_0]
theorem m_untell {F : Nat} {p : Pp} {h : CH} (x : Int32) (hC : MP p h) (hV : VP F p) : (utB p x = true → ∃ h', f_X12_untell x h = some (nI 1, h') ∧ MP (ppU p x) h' ∧ Fr SPm h h') ∧ (utB p x = false → f_X12_untell x h = some (nI 0, h)) := by
  have v1 := hV.1
  unfold f_X12_untell utB
  rw [hC.1, m_isIn, clp_some, inR_F (by omega), ifB]
  cases hx : isF (pN p) x
  · refine ⟨fun q => absurd q (by simp), fun _ => rfl⟩
  obtain ⟨i, hi, rfl⟩ := isF_of hx (by omega)
  obtain ⟨c1, c2, c3⟩ := hC
  obtain ⟨d1, d2, d3, d4, d5, d6⟩ := c3 i hi
  simp only [if_true, Bool.true_and]
  rw [rdA_nI (by omega) (by omega), wrA_nI (by omega) (by omega), uI_toNat (by omega), d6]
  simp only [un_neg hV hi]
  by_cases c : pun p i = -1
  · refine ⟨fun _ => ?_, fun q => absurd c (of_decide_eq_false q)⟩
    rw [if_pos c]
    refine ⟨_, rfl, ⟨?_, ?_, fun j hj => ?_⟩, Fr.sI (by unfold SPm; omega)⟩
    · exact c1
    · exact c2
    · obtain ⟨e1, e2, e3, e4, e5, e6⟩ := c3 j hj
      refine ⟨?_, ?_, ?_, ?_, ?_, ?_⟩
      · rw [sI_1, if_neg (by omega)]; exact e1
      · rw [sI_1, if_neg (by omega)]; exact e2
      · rw [sI_1, if_neg (by omega)]; exact e3
      · rw [sI_1, if_neg (by omega)]; exact e4
      · rw [sI_1, if_neg (by omega)]; exact e5
      · show (if 183 = 183 ∧ j = i then h.1 151 61 else h.1 183 j) = up1 (pun p) (nI i).toNatClampNeg (nI (pT p)) j
        unfold up1
        rw [uI_toNat (by omega)]
        by_cases z : j = i
        · simp [z]; exact c2
        · simp [z]; exact e6
  · refine ⟨fun q => absurd (of_decide_eq_true q) c, fun _ => ?_⟩
    rw [if_neg c]
def laB (p : Pp) (x : Int32) : Bool := inR (nI 0) (nI 1000) x && decide (pT p + x.toNatClampNeg ≤ 100000)
theorem VP.ppT {F : Nat} {p : Pp} (hV : VP F p) {x : Int32} (h : laB p x = true) : VP F (ppT p x.toNatClampNeg) := by
  unfold laB at h
  rw [Bool.and_eq_true] at h
  exact ⟨hV.1, of_decide_eq_true h.2, hV.2.2⟩
theorem c_later {F : Nat} {p : Pp} {h : CH} (x : Int32) (hC : CP 71 p h) (hV : VP F p) : (laB p x = true → ∃ h', f_X11_later x h = some (nI (pT p + x.toNatClampNeg), h') ∧ CP 71 (ppT p x.toNatClampNeg) h' ∧ Fr SP h h') ∧ (laB p x = false → f_X11_later x h = some (-1, h)) := by
  have v2 := hV.2.1
  unfold f_X11_later laB
  rw [inR_if]
  cases hx : inR (nI 0) (nI 1000) x
  · exact ⟨fun q => absurd q (by simp), fun _ => rfl⟩
  obtain ⟨k, hk, rfl⟩ := inR_nI (by omega) hx
  obtain ⟨c1, c2, c3⟩ := hC
  simp only [if_true, Bool.true_and]
  rw [c2, uI_add, uI_toNat (by omega)]
  simp only [uI_lt (show 100000 < 2147483648 by omega) (show pT p + k < 2147483648 by omega)]
  by_cases c : 100000 < pT p + k
  · exact ⟨fun q => absurd (of_decide_eq_true q) (by omega), fun _ => by rw [if_pos c]⟩
  · refine ⟨fun _ => ?_, fun q => absurd (show pT p + k ≤ 100000 by omega) (of_decide_eq_false q)⟩
    rw [if_neg c, wrF_eq]
    refine ⟨_, rfl, ⟨c1, rfl, fun i hi => ?_⟩, Fr.sI (by unfold SP; omega)⟩
    obtain ⟨e1, e2, e3, e4, e5, e6⟩ := c3 i hi
    refine ⟨?_, ?_, ?_, ?_, ?_, ?_⟩
    · rw [sI_1, if_neg (by omega)]; exact e1
    · rw [sI_1, if_neg (by omega)]; exact e2
    · rw [sI_1, if_neg (by omega)]; exact e3
    · rw [sI_1, if_neg (by omega)]; exact e4
    · rw [sI_1, if_neg (by omega)]; exact e5
    · rw [sI_1, if_neg (by omega)]; exact e6
theorem m_later {F : Nat} {p : Pp} {h : CH} (x : Int32) (hC : MP p h) (hV : VP F p) : (laB p x = true → ∃ h', f_X12_later x h = some (nI (pT p + x.toNatClampNeg), h') ∧ MP (ppT p x.toNatClampNeg) h' ∧ Fr SPm h h') ∧ (laB p x = false → f_X12_later x h = some (-1, h)) := by
  have v2 := hV.2.1
  unfold f_X12_later laB
  rw [m_isIn, clp_some, ifB]
  cases hx : inR (nI 0) (nI 1000) x
  · exact ⟨fun q => absurd q (by simp), fun _ => rfl⟩
  obtain ⟨k, hk, rfl⟩ := inR_nI (by omega) hx
  obtain ⟨c1, c2, c3⟩ := hC
  simp only [if_true, Bool.true_and]
  rw [c2, uI_add, uI_toNat (by omega)]
  simp only [uI_lt (show 100000 < 2147483648 by omega) (show pT p + k < 2147483648 by omega)]
  by_cases c : 100000 < pT p + k
  · exact ⟨fun q => absurd (of_decide_eq_true q) (by omega), fun _ => by rw [if_pos c]⟩
  · refine ⟨fun _ => ?_, fun q => absurd (show pT p + k ≤ 100000 by omega) (of_decide_eq_false q)⟩
    rw [if_neg c, wrF_eq]
    refine ⟨_, rfl, ⟨c1, rfl, fun i hi => ?_⟩, Fr.sI (by unfold SPm; omega)⟩
    obtain ⟨e1, e2, e3, e4, e5, e6⟩ := c3 i hi
    refine ⟨?_, ?_, ?_, ?_, ?_, ?_⟩
    · rw [sI_1, if_neg (by omega)]; exact e1
    · rw [sI_1, if_neg (by omega)]; exact e2
    · rw [sI_1, if_neg (by omega)]; exact e3
    · rw [sI_1, if_neg (by omega)]; exact e4
    · rw [sI_1, if_neg (by omega)]; exact e5
    · rw [sI_1, if_neg (by omega)]; exact e6
