/-! the calls of the gate, both sides -/
/-- a triangle summed by its rows or by its columns -/
theorem tri_sum (g : Nat → Nat → Int32) : ∀ F, smI F (fun a => smI (F - (a + 1)) (fun j => g a (a + 1 + j))) = smI F (fun b => smI b (fun a => g a b)) := by
  have add : ∀ n (u v : Nat → Int32), smI n (fun i => u i + v i) = smI n u + smI n v := by
    intro n u v
    induction n with
    | zero => rfl
    | succ n ih =>
      rw [smI, smI, smI, ih]
      rw [Int32.add_assoc, Int32.add_assoc]
      congr 1
      rw [← Int32.add_assoc, ← Int32.add_assoc, Int32.add_comm (smI n v)]
  intro F
  induction F with
  | zero => rfl
  | succ F ih =>
    have e1 : smI (F + 1) (fun a => smI (F + 1 - (a + 1)) (fun j => g a (a + 1 + j))) = smI F (fun a => smI (F - (a + 1)) (fun j => g a (a + 1 + j)) + g a F) := by
      rw [smI]
      have e0 : smI (F + 1 - (F + 1)) (fun j => g F (F + 1 + j)) = nI 0 := by rw [Nat.sub_self]; rfl
      rw [e0, ← uI_z, Int32.add_zero]
      refine smI_congr (fun a ha => ?_)
      have e2 : F + 1 - (a + 1) = (F - (a + 1)) + 1 := by omega
      rw [e2, smI]
      congr 2
      omega
    rw [e1, add, ih, smI]
theorem m_twins {bk : Nat} {t : Tn} {R : Ru} {h : CH} (y l : Int32) (w : WM bk t R h) : PO TM h (f_X12_twins y l h) (if wh y l = true then twS t R y l else -1) := by
  have v3 := w.1.2.2.1
  unfold f_X12_twins
  rw [m_isWhen, clp_some, ifB]
  cases wh y l
  · exact PO.mk Fr.rf
  simp only [if_true]
  have et : twS t R y l = smI (tF t) (fun a => smI a (fun b => bI (twn t R y l a b))) := by
    unfold twS
    rw [tri_sum (fun a b => bI (twn t R y l a b))]
    refine smI_congr (fun a ha => smI_congr (fun b hb => ?_))
    unfold twn
    rw [Bool.and_comm]
  rw [et]
  refine loop_FU (fun n k => ∀ h2, Fr TM h h2 → PO TM h (f_X12_twins_L15 y l n (smI k (fun a => smI a (fun b => bI (twn t R y l a b)))) (nI k) h2) (smI (tF t) (fun a => smI a (fun b => bI (twn t R y l a b))))) (tF t) (by omega) ?_ ?_ h Fr.rf
  · intro n a ha ih h2 hF2
    have w2 := w.tm hF2
    rw [f_X12_twins_L15, m_many w2.2.2.1]
    simp (disch := omega) only [clp_some, cl_some, jn_eq, uI_add, uI_mul, uI_lt, uI_lt0, uI_0lt, uI_eq0, uI_inj, uI_ne1, n1_ne, n1_lt, uI_lt1, rdA_nI, rdQ_nI, rdL_nI, wrA_nI, wrL_nI, wrF_eq, wrJ_eq, dvd_nI, ite_true, ite_false, if_true, if_false, bI_t, bI_f, bI_0, decide_true, decide_false, Nat.one_ne_zero, Nat.reduceEqDiff, Nat.reduceLT, Nat.reduceLeDiff, Nat.reduceAdd, Nat.reduceMul, Nat.reduceSub, Nat.reduceDiv, ha]
    generalize hx0 : smI a (fun a => smI a (fun b => bI (twn t R y l a b))) = x0
    have inner := loop_FU (fun n' j => ∀ h3, Fr TM h h3 → PO TM h (f_X12_twins_L27 y l (nI a) (fun x3_5 h_6 => f_X12_twins_L15 y l n x3_5 (nI (a + 1)) h_6) n' (x0 + smI j (fun b => bI (twn t R y l a b))) (nI j) h3) (smI (tF t) (fun a => smI a (fun b => bI (twn t R y l a b))))) a (by omega) ?_ ?_ h2 hF2
    · have e : x0 + smI 0 (fun b => bI (twn t R y l a b)) = x0 := Int32.add_zero x0
      rw [e] at inner
      exact inner
    · intro n' b hb ih' h3 hF3
      have w3 := w.tm hF3
      have hbF : b < tF t := by omega
      rw [f_X12_twins_L27]
      simp (disch := omega) only [clp_some, cl_some, jn_eq, uI_add, uI_mul, uI_lt, uI_lt0, uI_0lt, uI_eq0, uI_inj, uI_ne1, n1_ne, n1_lt, uI_lt1, rdA_nI, rdQ_nI, rdL_nI, wrA_nI, wrL_nI, wrF_eq, wrJ_eq, dvd_nI, ite_true, ite_false, if_true, if_false, bI_t, bI_f, bI_0, decide_true, decide_false, Nat.one_ne_zero, Nat.reduceEqDiff, Nat.reduceLT, Nat.reduceLeDiff, Nat.reduceAdd, Nat.reduceMul, Nat.reduceSub, Nat.reduceDiv, hb]
      have no : ∀ h4, Fr TM h h4 → twn t R y l a b = false → PO TM h (f_X12_twins_L27 y l (nI a) (fun x3_5 h_6 => f_X12_twins_L15 y l n x3_5 (nI (a + 1)) h_6) n' (x0 + smI b (fun b => bI (twn t R y l a b)) + nI 0) (nI (b + 1)) h4) (smI (tF t) (fun a => smI a (fun b => bI (twn t R y l a b)))) := by
        intro h4 hF4 e
        have := ih' h4 hF4
        rw [sm_s0 (by rw [e]; rfl)] at this
        rw [← uI_z, Int32.add_zero]
        exact this
      obtain ⟨h4, e4, hF4⟩ := m_isPassOf y l w3 ha hbF
      have hF4' := hF3.tr hF4
      rw [e4, cl_some, ifB]
      cases hA : mpas t R y l a (ttl t b)
      · simp only [Bool.false_eq_true, if_false]
        exact no h4 hF4' (by unfold twn; simp [hA])
      · simp only [if_true]
        have w4 := w.tm hF4'
        obtain ⟨h5, e5, hF5⟩ := m_isPassOf y l w4 hbF ha
        have hF5' := hF4'.tr hF5
        rw [e5, cl_some, ifB]
        cases hB : mpas t R y l b (ttl t a)
        · simp only [Bool.false_eq_true, if_false]
          exact no h5 hF5' (by unfold twn; simp [hB])
        · simp only [if_true]
          have := ih' h5 hF5'
          rw [sm_s1 (by unfold twn; simp [hA, hB, bI]), ← Int32.add_assoc] at this
          exact this
    · intro n' h3 hF3
      rw [f_X12_twins_L27]
      simp (disch := omega) only [clp_some, cl_some, jn_eq, uI_add, uI_mul, uI_lt, uI_lt0, uI_0lt, uI_eq0, uI_inj, uI_ne1, n1_ne, n1_lt, uI_lt1, rdA_nI, rdQ_nI, rdL_nI, wrA_nI, wrL_nI, wrF_eq, wrJ_eq, dvd_nI, ite_true, ite_false, if_true, if_false, bI_t, bI_f, bI_0, decide_true, decide_false, Nat.one_ne_zero, Nat.reduceEqDiff, Nat.reduceLT, Nat.reduceLeDiff, Nat.reduceAdd, Nat.reduceMul, Nat.reduceSub, Nat.reduceDiv, Nat.lt_irrefl]
      rw [← hx0]
      exact ih h3 hF3
  · intro n h2 hF2
    have w2 := w.tm hF2
    rw [f_X12_twins_L15, m_many w2.2.2.1]
    simp (disch := omega) only [clp_some, cl_some, jn_eq, uI_add, uI_mul, uI_lt, uI_lt0, uI_0lt, uI_eq0, uI_inj, uI_ne1, n1_ne, n1_lt, uI_lt1, rdA_nI, rdQ_nI, rdL_nI, wrA_nI, wrL_nI, wrF_eq, wrJ_eq, dvd_nI, ite_true, ite_false, if_true, if_false, bI_t, bI_f, bI_0, decide_true, decide_false, Nat.one_ne_zero, Nat.reduceEqDiff, Nat.reduceLT, Nat.reduceLeDiff, Nat.reduceAdd, Nat.reduceMul, Nat.reduceSub, Nat.reduceDiv, Nat.lt_irrefl]
    exact PO.mk hF2
/-- the first year, from k on, in which f is held -/
def unF (t : Tn) (R : Ru) (l : Int32) (f : Nat) : Nat → Nat → Int32
  | 0, _ => -1
  | d + 1, k => if mpas t R (nI k) l f (ttl t f) = true then unF t R l f d (k + 1) else nI k
def ckF (t : Tn) (x : Int32) (P : Nat → Int32) (N : Int32) : Int32 := if isF (tF t) x = true then P x.toNatClampNeg else N
theorem c_until {t : Tn} {R : Ru} {h : CH} (x l : Int32) (w : WC t R h) : PO TC h (f_X11_until x l h) (if isF (tF t) x = true then (if inR (nI 0) (nI 9) l = true then unF t R l x.toNatClampNeg 61 0 else -1) else -1) := by
  have v3 := w.1.2.2.1
  unfold f_X11_until
  rw [c_has x w.2.2.1.2.2.1 v3, clp_some, ifB]
  cases hx : isF (tF t) x
  · exact PO.mk Fr.rf
  obtain ⟨f, hf, rfl⟩ := isF_of hx (by omega)
  simp only [if_true]
  rw [c_isLight, clp_some, ifB, uI_toNat (by omega)]
  cases inR (nI 0) (nI 9) l
  · exact PO.mk Fr.rf
  simp only [if_true]
  refine loop_FU (fun n k => ∀ h2, Fr TC h h2 → PO TC h (f_X11_until_L22 (nI f) l n (nI k) h2) (unF t R l f (61 - k) k)) 61 (by omega) ?_ ?_ h Fr.rf
  · intro n k hk ih h2 hF2
    have w2 := w.tc hF2
    rw [f_X11_until_L22]
    have e60 : ¬ 60 < k := by omega
    simp (disch := omega) only [clp_some, cl_some, jn_eq, uI_add, uI_mul, uI_lt, uI_lt0, uI_0lt, uI_eq0, uI_inj, uI_ne1, n1_ne, n1_lt, uI_lt1, rdA_nI, rdQ_nI, rdL_nI, wrA_nI, wrL_nI, wrF_eq, wrJ_eq, dvd_nI, ite_true, ite_false, if_true, if_false, bI_t, bI_f, bI_0, decide_true, decide_false, Nat.one_ne_zero, Nat.reduceEqDiff, Nat.reduceLT, Nat.reduceLeDiff, Nat.reduceAdd, Nat.reduceMul, Nat.reduceSub, Nat.reduceDiv, e60]
    obtain ⟨h3, e3, hF3, g3⟩ := c_open (nI k) l w2.2.2.1 w.1
    have w3 := w2.tc hF3
    rw [e3, cl_some]
    obtain ⟨h4, e4, hF4⟩ := c_letsInWith w3 g3 hf hf
    have hF4' := (hF2.tr hF3).tr (hF4.mono (fun x k q => SG_TC x k (SR_SG x k q)))
    have ed : 61 - k = (61 - (k + 1)) + 1 := by omega
    rw [e4, cl_some, ifB, ed, unF]
    cases mpas t R (nI k) l f (ttl t f)
    · simp only [Bool.false_eq_true, if_false]; exact PO.mk hF4'
    · simp only [if_true]; exact ih h4 hF4'
  · intro n h2 hF2
    rw [f_X11_until_L22]
    simp (disch := omega) only [clp_some, cl_some, jn_eq, uI_add, uI_mul, uI_lt, uI_lt0, uI_0lt, uI_eq0, uI_inj, uI_ne1, n1_ne, n1_lt, uI_lt1, rdA_nI, rdQ_nI, rdL_nI, wrA_nI, wrL_nI, wrF_eq, wrJ_eq, dvd_nI, ite_true, ite_false, if_true, if_false, bI_t, bI_f, bI_0, decide_true, decide_false, Nat.one_ne_zero, Nat.reduceEqDiff, Nat.reduceLT, Nat.reduceLeDiff, Nat.reduceAdd, Nat.reduceMul, Nat.reduceSub, Nat.reduceDiv]
    exact PO.mk hF2
theorem wh0 (l : Int32) : wh (nI 0) l = inR (nI 0) (nI 9) l := by
  unfold wh
  rw [show inR (nI 0) (nI 60) (nI 0) = true from by decide, Bool.true_and]
theorem m_until {bk : Nat} {t : Tn} {R : Ru} {h : CH} (x l : Int32) (w : WM bk t R h) : PO TM h (f_X12_until x l h) (if isF (tF t) x = true then (if inR (nI 0) (nI 9) l = true then unF t R l x.toNatClampNeg 61 0 else -1) else -1) := by
  have v3 := w.1.2.2.1
  unfold f_X12_until
  rw [m_isFace w.2.2.1 w.1, clp_some, ifB]
  cases hx : isF (tF t) x
  · exact PO.mk Fr.rf
  obtain ⟨f, hf, rfl⟩ := isF_of hx (by omega)
  simp only [if_true]
  rw [m_isWhen, clp_some, ifB, uI_toNat (by omega), wh0]
  cases inR (nI 0) (nI 9) l
  · exact PO.mk Fr.rf
  simp only [if_true]
  refine loop_FU (fun n k => ∀ h2, Fr TM h h2 → PO TM h (f_X12_until_L20 (nI f) l n (nI k) h2) (unF t R l f (61 - k) k)) 61 (by omega) ?_ ?_ h Fr.rf
  · intro n k hk ih h2 hF2
    have w2 := w.tm hF2
    rw [f_X12_until_L20]
    have e60 : ¬ 60 < k := by omega
    simp (disch := omega) only [clp_some, cl_some, jn_eq, uI_add, uI_mul, uI_lt, uI_lt0, uI_0lt, uI_eq0, uI_inj, uI_ne1, n1_ne, n1_lt, uI_lt1, rdA_nI, rdQ_nI, rdL_nI, wrA_nI, wrL_nI, wrF_eq, wrJ_eq, dvd_nI, ite_true, ite_false, if_true, if_false, bI_t, bI_f, bI_0, decide_true, decide_false, Nat.one_ne_zero, Nat.reduceEqDiff, Nat.reduceLT, Nat.reduceLeDiff, Nat.reduceAdd, Nat.reduceMul, Nat.reduceSub, Nat.reduceDiv, e60]
    obtain ⟨h4, e4, hF4⟩ := m_isPassOf (nI k) l w2 hf hf
    have hF4' := hF2.tr hF4
    have ed : 61 - k = (61 - (k + 1)) + 1 := by omega
    rw [e4, cl_some, ifB, ed, unF]
    cases mpas t R (nI k) l f (ttl t f)
    · simp only [Bool.false_eq_true, if_false]; exact PO.mk hF4'
    · simp only [if_true]; exact ih h4 hF4'
  · intro n h2 hF2
    rw [f_X12_until_L20]
    simp (disch := omega) only [clp_some, cl_some, jn_eq, uI_add, uI_mul, uI_lt, uI_lt0, uI_0lt, uI_eq0, uI_inj, uI_ne1, n1_ne, n1_lt, uI_lt1, rdA_nI, rdQ_nI, rdL_nI, wrA_nI, wrL_nI, wrF_eq, wrJ_eq, dvd_nI, ite_true, ite_false, if_true, if_false, bI_t, bI_f, bI_0, decide_true, decide_false, Nat.one_ne_zero, Nat.reduceEqDiff, Nat.reduceLT, Nat.reduceLeDiff, Nat.reduceAdd, Nat.reduceMul, Nat.reduceSub, Nat.reduceDiv]
    exact PO.mk hF2
/-! passes, both, able -/
def psA (t : Tn) (R : Ru) (a b y l : Int32) : Int32 := if isF (tF t) a = true then (if isF (tF t) b = true then (if wh y l = true then bI (mpas t R y l a.toNatClampNeg (ttl t b.toNatClampNeg)) else -1) else -1) else -1
theorem c_passes {t : Tn} {R : Ru} {h : CH} (a b y l : Int32) (w : WC t R h) : PO TC h (f_X11_passes a b y l h) (psA t R a b y l) := by
  have v3 := w.1.2.2.1
  unfold f_X11_passes psA
  rw [c_has a w.2.2.1.2.2.1 v3, clp_some, ifB]
  cases ha : isF (tF t) a
  · exact PO.mk Fr.rf
  simp only [if_true]
  rw [c_has b w.2.2.1.2.2.1 v3, clp_some, ifB]
  cases hb : isF (tF t) b
  · exact PO.mk Fr.rf
  simp only [if_true]
  rw [c_isWhen, clp_some, ifB]
  cases wh y l
  · exact PO.mk Fr.rf
  simp only [if_true]
  obtain ⟨f, hf, rfl⟩ := isF_of ha (by omega)
  obtain ⟨g, hg, rfl⟩ := isF_of hb (by omega)
  rw [uI_toNat (by omega), uI_toNat (by omega)]
  obtain ⟨h3, e3, hF3, g3⟩ := c_open y l w.2.2.1 w.1
  rw [e3, cl_some]
  refine PO.cl ((c_letsInWith (w.tc hF3) g3 hf hg).go hF3 (fun x k q => SG_TC x k (SR_SG x k q))) (fun h4 hF4 => ?_)
  rw [ifB]
  cases mpas t R y l f (ttl t g) <;> exact PO.mk hF4
theorem m_passes {bk : Nat} {t : Tn} {R : Ru} {h : CH} (a b y l : Int32) (w : WM bk t R h) : PO TM h (f_X12_passes a b y l h) (psA t R a b y l) := by
  have v3 := w.1.2.2.1
  unfold f_X12_passes psA
  rw [m_isFace w.2.2.1 w.1, clp_some, jn_eq, ifB]
  cases ha : isF (tF t) a
  · exact PO.mk Fr.rf
  simp only [if_true]
  rw [m_isFace w.2.2.1 w.1, clp_some, ifB]
  cases hb : isF (tF t) b
  · exact PO.mk Fr.rf
  simp only [if_true]
  rw [m_isWhen, clp_some, ifB]
  cases wh y l
  · exact PO.mk Fr.rf
  simp only [if_true]
  obtain ⟨f, hf, rfl⟩ := isF_of ha (by omega)
  obtain ⟨g, hg, rfl⟩ := isF_of hb (by omega)
  rw [uI_toNat (by omega), uI_toNat (by omega)]
  refine PO.cl (m_isPassOf y l w hf hg) (fun h4 hF4 => ?_)
  rw [ifB]
  cases mpas t R y l f (ttl t g) <;> exact PO.mk hF4
theorem mxB_of {t : Tn} {a b s : Int32} (hV : VT t) (h : mxB t a b s = true) : ∃ f g k, f < tF t ∧ g < tF t ∧ k ≤ 10 ∧ a = nI f ∧ b = nI g ∧ s = nI k ∧ ¬ f = g := by
  have v3 := hV.2.2.1
  unfold mxB at h
  simp only [Bool.and_eq_true] at h
  obtain ⟨h1, h2, h3, h4⟩ := h
  obtain ⟨f, hf, rfl⟩ := isF_of h1 (by omega)
  obtain ⟨g, hg, rfl⟩ := isF_of h2 (by omega)
  have h5 := of_decide_eq_true h4
  obtain ⟨k, hk, rfl⟩ := uI_of (x := s) h5.1
  have h6 := h5.2
  rw [uI_lt (by omega) hk] at h6
  exact ⟨f, g, k, hf, hg, by omega, rfl, rfl, rfl, fun e => (of_decide_eq_true h3) (by rw [e])⟩
def boA (t : Tn) (R : Ru) (a b s y l : Int32) : Int32 := if mxB t a b s = true then (if wh y l = true then whoS t R y l a.toNatClampNeg b.toNatClampNeg s else -1) else -1
theorem c_both {t : Tn} {R : Ru} {h : CH} (a b s y l : Int32) (w : WC t R h) : PO TC h (f_X11_both a b s y l h) (boA t R a b s y l) := by
  have v3 := w.1.2.2.1
  unfold f_X11_both boA
  rw [c_isMix w.2.2.1 w.1, clp_some, ifB]
  cases hm : mxB t a b s
  · exact PO.mk Fr.rf
  simp only [if_true]
  rw [c_isWhen, clp_some, ifB]
  cases wh y l
  · exact PO.mk Fr.rf
  simp only [if_true]
  obtain ⟨f, g, k, hf, hg, hk, rfl, rfl, rfl, -⟩ := mxB_of w.1 hm
  rw [uI_toNat (by omega), uI_toNat (by omega)]
  obtain ⟨h3, e3, hF3, g3⟩ := c_open y l w.2.2.1 w.1
  rw [e3, cl_some]
  exact PO.cl ((c_whoPasses (nI k) (w.tc hF3) g3 hf hg).go hF3 SG_TC) (fun h4 hF4 => PO.mk hF4)
theorem m_both {bk : Nat} {t : Tn} {R : Ru} {h : CH} (a b s y l : Int32) (w : WM bk t R h) : PO TM h (f_X12_both a b s y l h) (boA t R a b s y l) := by
  have v3 := w.1.2.2.1
  unfold f_X12_both boA
  rw [m_isMix w.2.2.1 w.1, clp_some, ifB]
  cases hm : mxB t a b s
  · exact PO.mk Fr.rf
  simp only [if_true]
  rw [m_isWhen, clp_some, ifB]
  cases wh y l
  · exact PO.mk Fr.rf
  simp only [if_true]
  obtain ⟨f, g, k, hf, hg, hk, rfl, rfl, rfl, -⟩ := mxB_of w.1 hm
  rw [uI_toNat (by omega), uI_toNat (by omega)]
  obtain ⟨h3, e3, m3, hF3⟩ := MXm.lay (nI k) w hf hg
  rw [e3, cl_some]
  obtain ⟨h4, e4, hF4⟩ := m3.pass hf y l
  have m4 := m3.sa hF4
  have hF4' := hF3.tr (hF4.mono SA_TM)
  rw [e4, cl_some, jn_eq, ifB]
  obtain ⟨h5, e5, hF5⟩ := m4.pass hg y l
  have hF5' := hF4'.tr (hF5.mono SA_TM)
  simp only [jn_eq, e5, cl_some, ifB]
  unfold whoS
  cases mpas t R y l f (mixv t f g (nI k)) <;> cases mpas t R y l g (mixv t f g (nI k)) <;> exact PO.mk hF5'
def ablA (t : Tn) (R : Ru) (a b y l : Int32) : Int32 := if isF (tF t) a = true then (if isF (tF t) b = true then (if a < b then (if wh y l = true then (bst t R y l a.toNatClampNeg b.toNatClampNeg 11).1 else -1) else -1) else -1) else -1
theorem c_able {t : Tn} {R : Ru} {h : CH} (a b y l : Int32) (w : WC t R h) : PO TC h (f_X11_able a b y l h) (ablA t R a b y l) := by
  have v3 := w.1.2.2.1
  unfold f_X11_able ablA
  rw [c_has a w.2.2.1.2.2.1 v3, clp_some, ifB]
  cases ha : isF (tF t) a
  · exact PO.mk Fr.rf
  simp only [if_true]
  rw [c_has b w.2.2.1.2.2.1 v3, clp_some, ifB]
  cases hb : isF (tF t) b
  · exact PO.mk Fr.rf
  simp only [if_true]
  by_cases hab : a < b
  · rw [if_pos hab, if_pos hab, c_isWhen, clp_some, ifB]
    cases wh y l
    · exact PO.mk Fr.rf
    simp only [if_true]
    obtain ⟨f, hf, rfl⟩ := isF_of ha (by omega)
    obtain ⟨g, hg, rfl⟩ := isF_of hb (by omega)
    rw [uI_toNat (by omega), uI_toNat (by omega)]
    obtain ⟨h3, e3, hF3, g3⟩ := c_open y l w.2.2.1 w.1
    rw [e3, cl_some]
    exact PO.cl ((c_bestShare (w.tc hF3) g3 hf hg).go hF3 SG_TC) (fun h4 hF4 => PO.mk hF4)
  · rw [if_neg hab, if_neg hab]
    exact PO.mk Fr.rf
theorem m_able {bk : Nat} {t : Tn} {R : Ru} {h : CH} (a b y l : Int32) (w : WM bk t R h) : PO TM h (f_X12_able a b y l h) (ablA t R a b y l) := by
  have v3 := w.1.2.2.1
  unfold f_X12_able ablA
  rw [m_isFace w.2.2.1 w.1, clp_some, ifB]
  cases ha : isF (tF t) a
  · exact PO.mk Fr.rf
  simp only [if_true]
  rw [m_isFace w.2.2.1 w.1, clp_some, ifB]
  cases hb : isF (tF t) b
  · exact PO.mk Fr.rf
  simp only [if_true]
  by_cases hab : a < b
  · rw [if_pos hab, if_pos hab, m_isWhen, clp_some, ifB]
    cases wh y l
    · exact PO.mk Fr.rf
    simp only [if_true]
    obtain ⟨f, hf, rfl⟩ := isF_of ha (by omega)
    obtain ⟨g, hg, rfl⟩ := isF_of hb (by omega)
    rw [uI_toNat (by omega), uI_toNat (by omega)]
    exact PO.cl (m_bestShare y l w hf hg) (fun h4 hF4 => PO.mk hF4)
  · rw [if_neg hab, if_neg hab]
    exact PO.mk Fr.rf
theorem c_pairs {t : Tn} {R : Ru} {h : CH} (y l : Int32) (w : WC t R h) : PO TC h (f_X11_pairs y l h) (if wh y l = true then prS t R y l else -1) := by
  unfold f_X11_pairs
  rw [c_isWhen, clp_some, ifB]
  cases wh y l
  · exact PO.mk Fr.rf
  simp only [if_true]
  obtain ⟨h3, e3, hF3, g3⟩ := c_open y l w.2.2.1 w.1
  rw [e3, cl_some]
  exact PO.cl ((c_countAble (w.tc hF3) g3).go hF3 SG_TC) (fun h4 hF4 => PO.mk hF4)
theorem c_twins {t : Tn} {R : Ru} {h : CH} (y l : Int32) (w : WC t R h) : PO TC h (f_X11_twins y l h) (if wh y l = true then twS t R y l else -1) := by
  unfold f_X11_twins
  rw [c_isWhen, clp_some, ifB]
  cases wh y l
  · exact PO.mk Fr.rf
  simp only [if_true]
  obtain ⟨h3, e3, hF3, g3⟩ := c_open y l w.2.2.1 w.1
  rw [e3, cl_some]
  exact PO.cl ((c_countTwins (w.tc hF3) g3).go hF3 SG_TC) (fun h4 hF4 => PO.mk hF4)
theorem c_pair {t : Tn} {R : Ru} {h : CH} (i y l : Int32) (w : WC t R h) : PO TC h (f_X11_pair i y l h) (if i < 0 then -1 else if wh y l = true then paF t R y l (tF t) 0 i else -1) := by
  unfold f_X11_pair
  by_cases e : i < 0
  · rw [if_pos e, if_pos e]; exact PO.mk Fr.rf
  rw [if_neg e, if_neg e, c_isWhen, clp_some, ifB]
  cases wh y l
  · exact PO.mk Fr.rf
  simp only [if_true]
  obtain ⟨h3, e3, hF3, g3⟩ := c_open y l w.2.2.1 w.1
  rw [e3, cl_some]
  exact PO.cl ((c_ableAt i (w.tc hF3) g3).go hF3 SG_TC) (fun h4 hF4 => PO.mk hF4)
def gaA (t : Tn) (R : Ru) (what k y l : Int32) : Int32 := if inR (nI 0) (nI 1) what = true then (if inR (-1) (nI 3) k = true then (if wh y l = true then (if what = 0 then flS t R y l k else hdS t R y l k) else -1) else -1) else -1
theorem c_gate {t : Tn} {R : Ru} {h : CH} (what k y l : Int32) (w : WC t R h) : PO TC h (f_X11_gate what k y l h) (gaA t R what k y l) := by
  unfold f_X11_gate gaA
  have e1 : ∀ {σ : Type} (u v : σ), (if what < 0 then u else if nI 1 < what then u else v) = (if inR (nI 0) (nI 1) what = true then v else u) := by
    intro σ u v
    unfold inR
    rw [← uI_z]
    by_cases q : what < 0
    · simp [q]
    · by_cases q2 : nI 1 < what <;> simp [q, q2]
  have e2 : ∀ {σ : Type} (u v : σ), (if k < -1 then u else if k < nI 4 then v else u) = (if inR (-1) (nI 3) k = true then v else u) := by
    intro σ u v
    unfold inR
    simp only [lt4_le3]
    by_cases q : k < -1
    · simp [q]
    · by_cases q2 : nI 3 < k <;> simp [q, q2]
  rw [e1, e2]
  cases inR (nI 0) (nI 1) what
  · exact PO.mk Fr.rf
  simp only [if_true]
  cases inR (-1) (nI 3) k
  · exact PO.mk Fr.rf
  simp only [if_true]
  rw [c_isWhen, clp_some, ifB]
  cases wh y l
  · exact PO.mk Fr.rf
  simp only [if_true]
  obtain ⟨h3, e3, hF3, g3⟩ := c_open y l w.2.2.1 w.1
  rw [e3, cl_some]
  by_cases q : what = 0
  · rw [if_pos q, if_pos q]
    exact PO.cl ((c_countFalse k (w.tc hF3) g3).go hF3 SG_TC) (fun h4 hF4 => PO.mk hF4)
  · rw [if_neg q, if_neg q]
    exact PO.cl ((c_countHeld k (w.tc hF3) g3).go hF3 SG_TC) (fun h4 hF4 => PO.mk hF4)
theorem m_gate {bk : Nat} {t : Tn} {R : Ru} {h : CH} (what k y l : Int32) (w : WM bk t R h) : PO TM h (f_X12_gate what k y l h) (gaA t R what k y l) := by
  unfold f_X12_gate gaA
  rw [m_isIn, clp_some, ifB]
  cases hw : inR (nI 0) (nI 1) what
  · exact PO.mk Fr.rf
  simp only [if_true]
  rw [m_isIn, clp_some, ifB]
  cases hk : inR (-1) (nI 3) k
  · exact PO.mk Fr.rf
  simp only [if_true]
  rw [m_isWhen, clp_some, ifB]
  cases wh y l
  · exact PO.mk Fr.rf
  simp only [if_true]
  have hw2 := of_decide_eq_true hw
  obtain ⟨q, hq, rfl⟩ := uI_of (x := what) hw2.1
  have hw3 := hw2.2
  rw [uI_lt (by omega) hq] at hw3
  have : q = 0 ∨ q = 1 := by omega
  rcases this with rfl | rfl
  · rw [if_pos (show nI 0 = 0 from rfl)]; exact m_gateF k y l w hk
  · rw [if_neg (show ¬ nI 1 = 0 by decide)]; exact m_gateH k y l w hk
