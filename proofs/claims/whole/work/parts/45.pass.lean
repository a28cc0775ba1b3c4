/-! who passes -/
theorem ifB {α : Type} (b : Bool) {d : Decidable (bI b = 0)} (x y : α) : (@ite _ (bI b = 0) d x y) = (if b = true then y else x) := by cases b <;> simp [bI_0]
theorem farS_congr {P : Nat} {u u' v v' : Nat → Int32} (hu : ∀ i, i < P → u i = u' i) (hv : ∀ i, i < P → v i = v' i) : farS P u v = farS P u' v' := smI_congr (fun i hi => by rw [hu i hi, hv i hi])
def mpas (t : Tn) (R : Ru) (y l : Int32) (f : Nat) (g : Nat → Int32) : Bool := R.1 (farS (tP t) (lvz t f y l) g) (tkd t f) y l
theorem mpas_congr {t : Tn} {R : Ru} {y l : Int32} {f : Nat} {g g' : Nat → Int32} (h : ∀ i, i < tP t → g i = g' i) : mpas t R y l f g = mpas t R y l f g' := by
  unfold mpas
  rw [farS_congr (fun _ _ => rfl) h]
theorem c_apartPic {t : Tn} {y l : Int32} {h : CH} {a b : Nat} (hC : CT 7 t h) (hV : VT t) (hG : GO t y l h) (ha : a < tF t) (hb : b < tF t) : f_X1_apartFromPicture (nI a) (nI b) h = some (farS (tP t) (lvz t a y l) (ttl t b)) := by
  have v2 := hV.2.1
  have v3 := hV.2.2.1
  unfold f_X1_apartFromPicture
  rw [c_has1 hC.2.2.1 v3 ha, c_has1 hC.2.2.1 v3 hb]
  simp (disch := omega) only [clp_some, cl_some, jn_eq, uI_add, uI_mul, uI_lt, uI_lt0, uI_0lt, uI_eq0, uI_inj, uI_ne1, n1_ne, n1_lt, uI_lt1, rdA_nI, rdQ_nI, rdL_nI, wrA_nI, wrL_nI, wrF_eq, wrJ_eq, dvd_nI, ite_true, ite_false, if_true, if_false, bI_t, bI_f, bI_0, decide_true, decide_false, Nat.one_ne_zero, Nat.reduceEqDiff, Nat.reduceLT, Nat.reduceLeDiff, Nat.reduceAdd, Nat.reduceMul, Nat.reduceSub, Nat.reduceDiv]
  rw [c_apart _ _ hC.1 v2, clp_some, farS_congr (fun i hi => (hG.2.2 a ha i hi).1) (fun i hi => (hG.2.2 b hb i hi).2)]
theorem c_lets {t : Tn} {R : Ru} {y l : Int32} {h : CH} {a : Nat} (far : Int32) (w : WC t R h) (hG : GO t y l h) (ha : a < tF t) : PO SR h (f_X1_lets (nI a) far h) (bI (R.1 far (tkd t a) y l)) := by
  obtain ⟨w1, w2, w3, w4, w5⟩ := w
  unfold f_X1_lets
  rw [c_kindOf w3 w1 ha, clp_some, hG.1, hG.2.1]
  refine PO.cl (w4 h Fr.rf far (tkd t a) y l) (fun h1 hF => ?_)
  rw [rz_b]
  exact PO.mk hF
theorem c_letsInWith {t : Tn} {R : Ru} {y l : Int32} {h : CH} {a b : Nat} (w : WC t R h) (hG : GO t y l h) (ha : a < tF t) (hb : b < tF t) : PO SR h (f_X1_letsInWith (nI a) (nI b) h) (bI (mpas t R y l a (ttl t b))) := by
  unfold f_X1_letsInWith
  rw [c_apartPic w.2.2.1 w.1 hG ha hb, clp_some]
  refine PO.cl (c_lets _ w hG ha) (fun h1 hF => ?_)
  rw [rz_b]
  exact PO.mk hF
theorem c_makeMix {t : Tn} {h : CH} {a b : Nat} (s : Int32) (hC : CT 7 t h) (hV : VT t) (ha : a < tF t) (hb : b < tF t) : f_X1_makeMix (nI a) (nI b) s h = some ((), rowS h 116 (tP t) (mixv t a b s)) := by
  have v2 := hV.2.1
  unfold f_X1_makeMix
  have hrow : ∀ k, CT 7 t (rowS h 116 k (mixv t a b s)) := fun k => hC.tc (Fr.rowS (fun _ => by unfold TC; omega)) hV
  have G := loop_FU (fun n k => f_X1_makeMix_L3 (nI a) (nI b) s n (nI k) (rowS h 116 k (mixv t a b s)) = some ((), rowS h 116 (tP t) (mixv t a b s))) (tP t) (by omega) ?_ ?_
  · rw [rowS_0] at G; exact G
  · intro n k hk ih
    show f_X1_makeMix_L3 _ _ _ (n + 1) _ _ = _
    have hk8 : k < 8 := by omega
    rw [f_X1_makeMix_L3, (hrow k).1]
    simp (disch := omega) only [clp_some, cl_some, jn_eq, uI_add, uI_mul, uI_lt, uI_lt0, uI_0lt, uI_eq0, uI_inj, uI_ne1, n1_ne, n1_lt, uI_lt1, rdA_nI, rdQ_nI, rdL_nI, wrA_nI, wrL_nI, wrF_eq, wrJ_eq, dvd_nI, ite_true, ite_false, if_true, if_false, bI_t, bI_f, bI_0, decide_true, decide_false, Nat.one_ne_zero, Nat.reduceEqDiff, Nat.reduceLT, Nat.reduceLeDiff, Nat.reduceAdd, Nat.reduceMul, Nat.reduceSub, Nat.reduceDiv, hk, hk8]
    rw [c_mixed _ (hrow k) hV ha hb hk, clp_some, rowS_s]
    exact ih
  · intro n
    show f_X1_makeMix_L3 _ _ _ (n + 1) _ _ = _
    rw [f_X1_makeMix_L3, (hrow _).1]
    simp (disch := omega) only [clp_some, cl_some, jn_eq, uI_add, uI_mul, uI_lt, uI_lt0, uI_0lt, uI_eq0, uI_inj, uI_ne1, n1_ne, n1_lt, uI_lt1, rdA_nI, rdQ_nI, rdL_nI, wrA_nI, wrL_nI, wrF_eq, wrJ_eq, dvd_nI, ite_true, ite_false, if_true, if_false, bI_t, bI_f, bI_0, decide_true, decide_false, Nat.one_ne_zero, Nat.reduceEqDiff, Nat.reduceLT, Nat.reduceLeDiff, Nat.reduceAdd, Nat.reduceMul, Nat.reduceSub, Nat.reduceDiv, Nat.lt_irrefl]
theorem c_apartMix {t : Tn} {y l : Int32} {h : CH} {a : Nat} {g : Nat → Int32} (hC : CT 7 t h) (hV : VT t) (hG : GO t y l h) (ha : a < tF t) (hg : ∀ i, i < tP t → h.1 116 i = g i) : f_X1_apartFromMix (nI a) h = some (farS (tP t) (lvz t a y l) g) := by
  have v2 := hV.2.1
  have v3 := hV.2.2.1
  unfold f_X1_apartFromMix
  rw [c_has1 hC.2.2.1 v3 ha]
  simp (disch := omega) only [clp_some, cl_some, jn_eq, uI_add, uI_mul, uI_lt, uI_lt0, uI_0lt, uI_eq0, uI_inj, uI_ne1, n1_ne, n1_lt, uI_lt1, rdA_nI, rdQ_nI, rdL_nI, wrA_nI, wrL_nI, wrF_eq, wrJ_eq, dvd_nI, ite_true, ite_false, if_true, if_false, bI_t, bI_f, bI_0, decide_true, decide_false, Nat.one_ne_zero, Nat.reduceEqDiff, Nat.reduceLT, Nat.reduceLeDiff, Nat.reduceAdd, Nat.reduceMul, Nat.reduceSub, Nat.reduceDiv]
  rw [c_apart _ _ hC.1 v2, clp_some, farS_congr (fun i hi => (hG.2.2 a ha i hi).1) hg]
/-- behind the making of a mix: the world, and the mix -/
def MX (t : Tn) (R : Ru) (y l : Int32) (g : Nat → Int32) (h : CH) : Prop := WC t R h ∧ GO t y l h ∧ ∀ i, i < tP t → h.1 116 i = g i
theorem MX.sr {t : Tn} {R : Ru} {y l : Int32} {g : Nat → Int32} {h h' : CH} (m : MX t R y l g h) (hF : Fr SR h h') : MX t R y l g h' := by
  obtain ⟨m1, m2, m3⟩ := m
  exact ⟨m1.tc (hF.mono (fun x k q => by unfold SR at q; unfold TC; omega)), m2.sg (hF.mono SR_SG) m1.1, fun i hi => by rw [hF.1 _ _ (by unfold SR; omega)]; exact m3 i hi⟩
theorem MX.of {t : Tn} {R : Ru} {y l : Int32} {h : CH} (g : Nat → Int32) (w : WC t R h) (hG : GO t y l h) : MX t R y l g (rowS h 116 (tP t) g) ∧ Fr SG h (rowS h 116 (tP t) g) := by
  have hF : Fr SG h (rowS h 116 (tP t) g) := Fr.rowS (fun _ => by unfold SG; omega)
  exact ⟨⟨w.tc (hF.mono SG_TC), hG.sg hF w.1, fun i hi => rowS_in hi⟩, hF⟩
theorem MX.lets {t : Tn} {R : Ru} {y l : Int32} {g : Nat → Int32} {h : CH} {a : Nat} (m : MX t R y l g h) (ha : a < tF t) : PO SR h (f_X1_lets (nI a) (farS (tP t) (lvz t a y l) g) h) (bI (mpas t R y l a g)) := c_lets _ m.1 m.2.1 ha
theorem MX.apart {t : Tn} {R : Ru} {y l : Int32} {g : Nat → Int32} {h : CH} {a : Nat} (m : MX t R y l g h) (ha : a < tF t) : f_X1_apartFromMix (nI a) h = some (farS (tP t) (lvz t a y l) g) := c_apartMix m.1.2.2.1 m.1.1 m.2.1 ha m.2.2
def whoS (t : Tn) (R : Ru) (y l : Int32) (a b : Nat) (s : Int32) : Int32 := bI (mpas t R y l a (mixv t a b s)) + (if mpas t R y l b (mixv t a b s) = true then nI 2 else nI 0)
theorem c_whoPasses {t : Tn} {R : Ru} {y l : Int32} {h : CH} {a b : Nat} (s : Int32) (w : WC t R h) (hG : GO t y l h) (ha : a < tF t) (hb : b < tF t) : PO SG h (f_X1_whoPasses (nI a) (nI b) s h) (whoS t R y l a b s) := by
  unfold f_X1_whoPasses whoS
  rw [c_makeMix s w.2.2.1 w.1 ha hb, cl_some]
  obtain ⟨m, hF⟩ := MX.of (mixv t a b s) w hG
  rw [m.apart ha, clp_some]
  refine PO.go (S' := SR) ?_ hF SR_SG
  refine PO.cl (m.lets ha) (fun h1 hF1 => ?_)
  have m1 := m.sr hF1
  simp only [jn_eq, bI_0, m1.apart hb, clp_some]
  cases hA : mpas t R y l a (mixv t a b s)
  · simp only [if_true]
    refine PO.cl ((m1.lets hb).go hF1 (fun _ _ q => q)) (fun h2 hF2 => ?_)
    rw [ifB]
    cases hB : mpas t R y l b (mixv t a b s) <;> simp [bI_f, bI_t] <;> exact PO.mk hF2
  · simp only [Bool.true_eq_false, if_false]
    refine PO.cl ((m1.lets hb).go hF1 (fun _ _ q => q)) (fun h2 hF2 => ?_)
    rw [ifB]
    cases hB : mpas t R y l b (mixv t a b s) <;> simp [bI_f, bI_t] <;> exact PO.mk hF2
/-- the best share: of the first k shares (share, greater far) -/
def grS (t : Tn) (y l : Int32) (a b : Nat) (s : Int32) : Int32 := mx (farS (tP t) (lvz t a y l) (mixv t a b s)) (farS (tP t) (lvz t b y l) (mixv t a b s))
def bpS (t : Tn) (R : Ru) (y l : Int32) (a b : Nat) (s : Int32) : Bool := mpas t R y l a (mixv t a b s) && mpas t R y l b (mixv t a b s)
def bst (t : Tn) (R : Ru) (y l : Int32) (a b : Nat) : Nat → Int32 × Int32
  | 0 => (-1, nI 0)
  | k + 1 => if bpS t R y l a b (nI k) = true ∧ ((bst t R y l a b k).1 = -1 ∨ grS t y l a b (nI k) < (bst t R y l a b k).2) then (nI k, grS t y l a b (nI k)) else bst t R y l a b k
theorem bst_1 {t : Tn} {R : Ru} {y l : Int32} {a b : Nat} : ∀ k, k ≤ 11 → (bst t R y l a b k).1 = -1 ∨ ∃ s, s < k ∧ (bst t R y l a b k).1 = nI s := by
  intro k
  induction k with
  | zero => intro _; exact Or.inl rfl
  | succ k ih =>
    intro hk
    rw [bst]
    by_cases c : bpS t R y l a b (nI k) = true ∧ ((bst t R y l a b k).1 = -1 ∨ grS t y l a b (nI k) < (bst t R y l a b k).2)
    · rw [if_pos c]; exact Or.inr ⟨k, by omega, rfl⟩
    · rw [if_neg c]
      rcases ih (by omega) with h1 | ⟨s, h1, h2⟩
      · exact Or.inl h1
      · exact Or.inr ⟨s, by omega, h2⟩
theorem bst_lt0 {t : Tn} {R : Ru} {y l : Int32} {a b k : Nat} (hk : k ≤ 11) : ((bst t R y l a b k).1 < 0) = ((bst t R y l a b k).1 = -1) := by
  rcases bst_1 (t := t) (R := R) (y := y) (l := l) (a := a) (b := b) k hk with h1 | ⟨s, h1, h2⟩
  · rw [h1]; decide
  · rw [h2, uI_lt0 (by omega), uI_ne1 (by omega)]
/-- able: by some share both pass -/
def ablS (t : Tn) (R : Ru) (y l : Int32) (a b : Nat) : Bool := decide (¬ (bst t R y l a b 11).1 = -1)
theorem bst_able {t : Tn} {R : Ru} {y l : Int32} {a b : Nat} : ∀ k, k ≤ 11 → ((bst t R y l a b k).1 = -1 ↔ ∀ s, s < k → bpS t R y l a b (nI s) = false) := by
  intro k
  induction k with
  | zero => intro _; exact ⟨fun _ s hs => absurd hs (Nat.not_lt_zero s), fun _ => rfl⟩
  | succ k ih =>
    intro hk
    have ih := ih (by omega)
    rw [bst]
    by_cases c : bpS t R y l a b (nI k) = true ∧ ((bst t R y l a b k).1 = -1 ∨ grS t y l a b (nI k) < (bst t R y l a b k).2)
    · rw [if_pos c]
      refine ⟨fun e => ?_, fun g => ?_⟩
      · exact absurd e (by rw [uI_ne1 (by omega)]; exact id)
      · rw [g k (by omega)] at c; exact absurd c.1 (by decide)
    · rw [if_neg c, ih]
      refine ⟨fun g s hs => ?_, fun g s hs => g s (by omega)⟩
      by_cases e : s = k
      · subst e
        cases hb : bpS t R y l a b (nI s) with
        | false => rfl
        | true => exact absurd ⟨hb, Or.inl (ih.mpr g)⟩ c
      · exact g s (by omega)
theorem c_bestShare {t : Tn} {R : Ru} {y l : Int32} {h : CH} {a b : Nat} (w : WC t R h) (hG : GO t y l h) (ha : a < tF t) (hb : b < tF t) : PO SG h (f_X1_bestShare (nI a) (nI b) h) (bst t R y l a b 11).1 := by
  unfold f_X1_bestShare
  refine loop_FU (fun n k => ∀ h2, Fr SG h h2 → PO SG h (f_X1_bestShare_L8 (nI a) (nI b) n (bst t R y l a b k).1 (bst t R y l a b k).2 (nI k) h2) (bst t R y l a b 11).1) 11 (by omega) ?_ ?_ h Fr.rf
  · intro n k hk ih h2 hF2
    have w2 := w.tc (hF2.mono SG_TC)
    have g2 := hG.sg hF2 w.1
    rw [f_X1_bestShare_L8]
    have e10 : ¬ 10 < k := by omega
    simp (disch := omega) only [clp_some, cl_some, jn_eq, uI_add, uI_mul, uI_lt, uI_lt0, uI_0lt, uI_eq0, uI_inj, uI_ne1, n1_ne, n1_lt, uI_lt1, rdA_nI, rdQ_nI, rdL_nI, wrA_nI, wrL_nI, wrF_eq, wrJ_eq, dvd_nI, ite_true, ite_false, if_true, if_false, bI_t, bI_f, bI_0, decide_true, decide_false, Nat.one_ne_zero, Nat.reduceEqDiff, Nat.reduceLT, Nat.reduceLeDiff, Nat.reduceAdd, Nat.reduceMul, Nat.reduceSub, Nat.reduceDiv, e10]
    rw [c_makeMix _ w2.2.2.1 w.1 ha hb, cl_some]
    obtain ⟨m, hF⟩ := MX.of (mixv t a b (nI k)) w2 g2
    have hFm := hF2.tr hF
    rw [m.apart ha, clp_some, m.apart hb, clp_some]
    have step : ∀ h3, Fr SG h h3 → ∀ c : Bool, (c = true ↔ (bst t R y l a b k).1 = -1 ∨ grS t y l a b (nI k) < (bst t R y l a b k).2) → (c = false → PO SG h (f_X1_bestShare_L8 (nI a) (nI b) n (bst t R y l a b k).1 (bst t R y l a b k).2 (nI (k + 1)) h3) (bst t R y l a b 11).1) := by
      intro h3 hF3 c hc hcf
      have : bst t R y l a b (k + 1) = bst t R y l a b k := by
        rw [bst, if_neg]
        intro q
        have := hc.mpr q.2
        rw [hcf] at this
        exact absurd this (by decide)
      rw [← this]
      exact ih h3 hF3
    have go : ∀ h3, Fr SG h h3 → bpS t R y l a b (nI k) = false → PO SG h (f_X1_bestShare_L8 (nI a) (nI b) n (bst t R y l a b k).1 (bst t R y l a b k).2 (nI (k + 1)) h3) (bst t R y l a b 11).1 := by
      intro h3 hF3 hp
      have : bst t R y l a b (k + 1) = bst t R y l a b k := by
        rw [bst, if_neg]
        intro q
        rw [hp] at q
        exact absurd q.1 (by decide)
      rw [← this]
      exact ih h3 hF3
    have body : ((bst t R y l a b k).1 = -1 ∨ grS t y l a b (nI k) < (bst t R y l a b k).2) → PO SG h (cl (f_X1_lets (nI a) (farS (tP t) (lvz t a y l) (mixv t a b (nI k))) (rowS h2 116 (tP t) (mixv t a b (nI k)))) fun v_10 h_11 => if v_10 = 0 then f_X1_bestShare_L8 (nI a) (nI b) n (bst t R y l a b k).1 (bst t R y l a b k).2 (nI (k + 1)) h_11 else cl (f_X1_lets (nI b) (farS (tP t) (lvz t b y l) (mixv t a b (nI k))) h_11) fun v_13 h_14 => if v_13 = 0 then f_X1_bestShare_L8 (nI a) (nI b) n (bst t R y l a b k).1 (bst t R y l a b k).2 (nI (k + 1)) h_14 else f_X1_bestShare_L8 (nI a) (nI b) n (nI k) (mx (farS (tP t) (lvz t a y l) (mixv t a b (nI k))) (farS (tP t) (lvz t b y l) (mixv t a b (nI k)))) (nI (k + 1)) h_14) (bst t R y l a b 11).1 := by
      intro hc
      obtain ⟨h3, e3, hF3⟩ := m.lets ha
      rw [e3, cl_some, ifB]
      have m3 := m.sr hF3
      have hF3' := hFm.tr (hF3.mono SR_SG)
      cases hA : mpas t R y l a (mixv t a b (nI k))
      · simp only [Bool.false_eq_true, if_false]
        exact go h3 hF3' (by unfold bpS; rw [hA]; rfl)
      · simp only [if_true]
        obtain ⟨h4, e4, hF4⟩ := m3.lets hb
        rw [e4, cl_some, ifB]
        have hF4' := hF3'.tr (hF4.mono SR_SG)
        cases hB : mpas t R y l b (mixv t a b (nI k))
        · simp only [Bool.false_eq_true, if_false]
          exact go h4 hF4' (by unfold bpS; rw [hA, hB]; rfl)
        · simp only [if_true]
          have : bst t R y l a b (k + 1) = (nI k, grS t y l a b (nI k)) := by
            rw [bst, if_pos ⟨by unfold bpS; rw [hA, hB]; rfl, hc⟩]
          have ih4 := ih h4 hF4'
          rw [this] at ih4
          exact ih4
    by_cases c1 : (bst t R y l a b k).1 = -1
    · rw [if_pos c1]; exact body (Or.inl c1)
    · rw [if_neg c1]
      by_cases c2 : grS t y l a b (nI k) < (bst t R y l a b k).2
      · have c2' : mx (farS (tP t) (lvz t a y l) (mixv t a b (nI k))) (farS (tP t) (lvz t b y l) (mixv t a b (nI k))) < (bst t R y l a b k).2 := c2
        rw [if_pos c2']; exact body (Or.inr c2)
      · have c2' : ¬ mx (farS (tP t) (lvz t a y l) (mixv t a b (nI k))) (farS (tP t) (lvz t b y l) (mixv t a b (nI k))) < (bst t R y l a b k).2 := c2
        rw [if_neg c2']
        exact step _ hFm false ⟨fun q => absurd q (by decide), fun q => (q.elim c1 c2).elim⟩ rfl
  · intro n h2 hF2
    rw [f_X1_bestShare_L8]
    simp (disch := omega) only [clp_some, cl_some, jn_eq, uI_add, uI_mul, uI_lt, uI_lt0, uI_0lt, uI_eq0, uI_inj, uI_ne1, n1_ne, n1_lt, uI_lt1, rdA_nI, rdQ_nI, rdL_nI, wrA_nI, wrL_nI, wrF_eq, wrJ_eq, dvd_nI, ite_true, ite_false, if_true, if_false, bI_t, bI_f, bI_0, decide_true, decide_false, Nat.one_ne_zero, Nat.reduceEqDiff, Nat.reduceLT, Nat.reduceLeDiff, Nat.reduceAdd, Nat.reduceMul, Nat.reduceSub, Nat.reduceDiv]
    exact PO.mk hF2
/-! the reference -/
def ML (t : Tn) (R : Ru) (h : CH) : Prop := ∀ h', Fr TM h h' → ∀ f, f < tF t → ∀ y l : Int32, PO SA h' (f_X12_isPass (nI f) y l h') (bI (mpas t R y l f (h'.1 176)))
def MS (t : Tn) (R : Ru) (h : CH) : Prop := ∀ h', Fr TM h h' → PIC (tP t) (h'.1 176) → PO SA h' (f_X12_signsOf h') (R.2 (h'.1 176))
def WM (bk : Nat) (t : Tn) (R : Ru) (h : CH) : Prop := VT t ∧ SGok (tP t) R ∧ MT bk t h ∧ ML t R h ∧ MS t R h
theorem WM.tm {bk : Nat} {t : Tn} {R : Ru} {h h' : CH} (w : WM bk t R h) (hF : Fr TM h h') : WM bk t R h' := by
  obtain ⟨w1, w2, w3, w4, w5⟩ := w
  exact ⟨w1, w2, w3.tm hF, fun h2 hF2 => w4 h2 (hF.tr hF2), fun h2 hF2 => w5 h2 (hF.tr hF2)⟩
theorem SA_TM : ∀ x k, SA x k → TM x k := fun x k h => by unfold SA at h; unfold TM; omega
theorem mix_self {t : Tn} (hV : VT t) {b i : Nat} (hb : b < tF t) (hi : i < tP t) : mixv t b b (nI 10) i = ttl t b i := by
  obtain ⟨v1, v2, v3, v4, v5, v6, v7, v8, -⟩ := hV
  obtain ⟨m, hm, em⟩ := v8 b hb i hi
  unfold mixv
  rw [em, uI_sub (by omega), uI_mul, uI_mul, uI_add, uI_div (by omega) (by omega)]
  congr 1
  omega
theorem pri_no {t : Tn} (v : Int32) : pri t (-1) v = v := by
  unfold pri
  rw [if_pos (by decide)]
theorem inR_no : inR (-1) (nI 3) (-1) = true := by decide
theorem m_isPassOf {bk : Nat} {t : Tn} {R : Ru} {h : CH} {a b : Nat} (y l : Int32) (w : WM bk t R h) (ha : a < tF t) (hb : b < tF t) : PO TM h (f_X12_isPassOf (nI a) (nI b) y l h) (bI (mpas t R y l a (ttl t b))) := by
  obtain ⟨w1, w2, w3, w4, w5⟩ := w
  unfold f_X12_isPassOf
  rw [m_layMix _ _ w3 w1 hb hb inR_no, cl_some]
  have hF : Fr TM h (rowS h 176 (tP t) fun i => pri t (-1) (mixv t b b (nI 10) i)) := Fr.rowS (fun _ => by unfold TM; omega)
  refine PO.cl ((w4 _ hF a ha y l).go hF SA_TM) (fun h1 hF1 => ?_)
  rw [rz_b, mpas_congr (g' := ttl t b) (fun i hi => by rw [rowS_in hi, pri_no, mix_self w1 hb hi])]
  exact PO.mk hF1
