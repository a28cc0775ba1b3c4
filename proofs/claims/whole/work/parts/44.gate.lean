/-! answers that leave all but S as it was -/
def PO {ρ : Type} (S : Nat → Nat → Prop) (h0 : CH) (o : Option (ρ × CH)) (v : ρ) : Prop := ∃ h2, o = some (v, h2) ∧ Fr S h0 h2
theorem PO.mk {ρ : Type} {S : Nat → Nat → Prop} {h0 h : CH} {v : ρ} (hF : Fr S h0 h) : PO S h0 (some (v, h)) v := ⟨h, rfl, hF⟩
theorem PO.cl {σ ρ : Type} {S : Nat → Nat → Prop} {h0 : CH} {o : Option (ρ × CH)} {v : ρ} {K : ρ → CH → Option (σ × CH)} {w : σ} (a : PO S h0 o v) (k : ∀ h1, Fr S h0 h1 → PO S h0 (K v h1) w) : PO S h0 (cl o K) w := by
  obtain ⟨h2, rfl, hF⟩ := a
  exact k h2 hF
theorem PO.go {ρ : Type} {S S' : Nat → Nat → Prop} {h0 h : CH} {o : Option (ρ × CH)} {v : ρ} (a : PO S' h o v) (hF : Fr S h0 h) (hs : ∀ x k, S' x k → S x k) : PO S h0 o v := by
  obtain ⟨h2, e, hF2⟩ := a
  exact ⟨h2, e, hF.tr (hF2.mono hs)⟩
theorem PO.eq {ρ : Type} {S : Nat → Nat → Prop} {h0 : CH} {o : Option (ρ × CH)} {v w : ρ} (a : PO S h0 o v) (e : v = w) : PO S h0 o w := e ▸ a
/-- what the rules say: who passes (far, kind, year, light), which signs a picture shows -/
abbrev Ru : Type := (Int32 → Int32 → Int32 → Int32 → Bool) × ((Nat → Int32) → Int32)
def CL (R : Ru) (h : CH) : Prop := ∀ h', Fr TC h h' → ∀ far kd y l : Int32, PO SR h' (f_X5_lets_55 far kd y l h') (bI (R.1 far kd y l))
/-- a picture: P measures of 0 .. 99 -/
def PIC (P : Nat) (g : Nat → Int32) : Prop := ∀ i, i < P → ∃ n, n ≤ 99 ∧ g i = nI n
def CS (t : Tn) (R : Ru) (h : CH) : Prop := ∀ h', Fr TC h h' → PIC (tP t) (h'.1 80) → PO SR h' (f_X5_shownBy_55 80 (nI (tP t)) h') (R.2 (h'.1 80))
def SGok (P : Nat) (R : Ru) : Prop := ∀ u v : Nat → Int32, (∀ i, i < P → u i = v i) → R.2 u = R.2 v
/-- the class's side of a town with rules -/
def WC (t : Tn) (R : Ru) (h : CH) : Prop := VT t ∧ SGok (tP t) R ∧ CT 7 t h ∧ CL R h ∧ CS t R h
theorem WC.tc {t : Tn} {R : Ru} {h h' : CH} (w : WC t R h) (hF : Fr TC h h') : WC t R h' := by
  obtain ⟨w1, w2, w3, w4, w5⟩ := w
  exact ⟨w1, w2, w3.tc hF w1, fun h2 hF2 => w4 h2 (hF.tr hF2), fun h2 hF2 => w5 h2 (hF.tr hF2)⟩
/-! the class's small tests -/
theorem c_isYear (y : Int32) (h : CH) : f_X11_isYear y h = some (bI (inR (nI 0) (nI 60) y)) := by
  unfold f_X11_isYear inR
  by_cases h1 : y < 0
  · have h1' : y < nI 0 := h1
    simp [h1, h1', bI]
  · have h1' : ¬ y < nI 0 := h1
    by_cases h2 : nI 60 < y <;> simp [h1, h1', h2, bI]
theorem c_isLight (y : Int32) (h : CH) : f_X11_isLight y h = some (bI (inR (nI 0) (nI 9) y)) := by
  unfold f_X11_isLight inR
  by_cases h1 : y < 0
  · have h1' : y < nI 0 := h1
    simp [h1, h1', bI]
  · have h1' : ¬ y < nI 0 := h1
    by_cases h2 : nI 9 < y <;> simp [h1, h1', h2, bI]
theorem c_isShare (y : Int32) (h : CH) : f_X11_isShare y h = some (bI (inR (nI 0) (nI 10) y)) := by
  unfold f_X11_isShare inR
  by_cases h1 : y < 0
  · have h1' : y < nI 0 := h1
    simp [h1, h1', bI]
  · have h1' : ¬ y < nI 0 := h1
    by_cases h2 : nI 10 < y <;> simp [h1, h1', h2, bI]
theorem c_isPrice (y : Int32) (h : CH) : f_X11_isPrice y h = some (bI (inR (nI 0) (nI 99) y)) := by
  unfold f_X11_isPrice inR
  by_cases h1 : y < 0
  · have h1' : y < nI 0 := h1
    simp [h1, h1', bI]
  · have h1' : ¬ y < nI 0 := h1
    by_cases h2 : nI 99 < y <;> simp [h1, h1', h2, bI]
theorem lt4_le3 (y : Int32) : (y < nI 4) = ¬ nI 3 < y := by
  have e3 : (nI 3).toInt = 3 := uI_toInt (by decide)
  have e4 : (nI 4).toInt = 4 := uI_toInt (by decide)
  simp only [Int32.lt_iff_toInt_lt, e3, e4]
  refine propext ⟨fun h => by omega, fun h => by omega⟩
theorem c_isPrinterOrNot (y : Int32) (h : CH) : f_X11_isPrinterOrNot y h = some (bI (inR (-1) (nI 3) y)) := by
  unfold f_X11_isPrinterOrNot inR
  simp only [lt4_le3]
  by_cases h1 : y < -1
  · simp [h1, bI]
  · by_cases h2 : nI 3 < y <;> simp [h1, h2, bI]
theorem c_isWhen (y l : Int32) (h : CH) : f_X11_isWhen y l h = some (bI (wh y l)) := by
  unfold f_X11_isWhen wh
  rw [c_isYear, clp_some, c_isLight]
  cases inR (nI 0) (nI 60) y <;> cases inR (nI 0) (nI 9) l <;> simp [bI, clp_some] <;> decide
def mxB (t : Tn) (a b s : Int32) : Bool := isF (tF t) a && (isF (tF t) b && (decide (¬ a = b) && inR (nI 0) (nI 10) s))
theorem c_isMix {t : Tn} {h : CH} (hC : CT 7 t h) (hV : VT t) (a b s : Int32) : f_X11_isMix a b s h = some (bI (mxB t a b s)) := by
  unfold f_X11_isMix mxB
  simp only [c_has a hC.2.2.1 hV.2.2.1, c_has b hC.2.2.1 hV.2.2.1, c_isShare, clp_some, bI_0]
  cases isF (tF t) a <;> cases isF (tF t) b <;> by_cases e : a = b <;> cases inR (nI 0) (nI 10) s <;> simp [e, bI_t, bI_f]
theorem m_isMix {bk : Nat} {t : Tn} {h : CH} (hM : MT bk t h) (hV : VT t) (a b s : Int32) : f_X12_isMix a b s h = some (bI (mxB t a b s)) := by
  unfold f_X12_isMix mxB
  simp only [m_isFace hM hV, m_isIn, clp_some, bI_0]
  cases isF (tF t) a <;> cases isF (tF t) b <;> by_cases e : a = b <;> cases inR (nI 0) (nI 10) s <;> simp [e, bI_t, bI_f]
/-! the gate -/
def SG (a _ : Nat) : Prop := a = 61 ∨ a = 62 ∨ a = 116
def GO (t : Tn) (y l : Int32) (h : CH) : Prop := h.1 81 5 = y ∧ h.1 81 6 = l ∧ ∀ f, f < tF t → ∀ i, i < tP t → h.1 (83 + f) i = lvz t f y l i ∧ h.1 (100 + f) i = ttl t f i
theorem GO.sg {t : Tn} {y l : Int32} {h h' : CH} (g : GO t y l h) (hF : Fr SG h h') (hV : VT t) : GO t y l h' := by
  obtain ⟨g1, g2, g3⟩ := g
  have hf16 := hV.2.2.1
  refine ⟨?_, ?_, fun f hf i hi => ⟨?_, ?_⟩⟩
  · rw [hF.1 _ _ (by unfold SG; omega)]; exact g1
  · rw [hF.1 _ _ (by unfold SG; omega)]; exact g2
  · rw [hF.1 _ _ (by unfold SG; omega)]; exact (g3 f hf i hi).1
  · rw [hF.1 _ _ (by unfold SG; omega)]; exact (g3 f hf i hi).2
theorem SG_TC : ∀ x k, SG x k → TC x k := fun x k h => by unfold SG at h; unfold TC; omega
theorem SR_SG : ∀ x k, SR x k → SG x k := fun x k h => by unfold SR at h; unfold SG; omega
theorem c_open {t : Tn} {h : CH} (y l : Int32) (hC : CT 7 t h) (hV : VT t) : ∃ h1, f_X1_open y l h = some ((), h1) ∧ Fr TC h h1 ∧ GO t y l h1 := by
  have v2 := hV.2.1
  have v3 := hV.2.2.1
  unfold f_X1_open
  simp only [wrF_eq]
  generalize hh0 : sI (sI h 81 5 y) 81 6 l = h0
  have F0 : Fr TC h h0 := by rw [← hh0]; exact (Fr.sI (by unfold TC; omega)).tr (Fr.sI (by unfold TC; omega))
  have y0 : h0.1 81 5 = y ∧ h0.1 81 6 = l := by rw [← hh0]; exact ⟨rfl, rfl⟩
  have outer : ∀ n k, k ≤ tF t → tF t < n + k → ∀ h2, Fr TC h h2 → h2.1 81 5 = y → h2.1 81 6 = l → (∀ f, f < k → ∀ i, i < tP t → h2.1 (83 + f) i = lvz t f y l i ∧ h2.1 (100 + f) i = ttl t f i) → ∃ h1, f_X1_open_L12 n (nI k) h2 = some ((), h1) ∧ Fr TC h h1 ∧ GO t y l h1 := by
    refine loop_up (fun n k => ∀ h2, Fr TC h h2 → h2.1 81 5 = y → h2.1 81 6 = l → (∀ f, f < k → ∀ i, i < tP t → h2.1 (83 + f) i = lvz t f y l i ∧ h2.1 (100 + f) i = ttl t f i) → ∃ h1, f_X1_open_L12 n (nI k) h2 = some ((), h1) ∧ Fr TC h h1 ∧ GO t y l h1) (tF t) ?_ ?_
    · intro n k hk ih h2 hF2 hy hl hrows
      have hC2 := hC.tc hF2 hV
      have hk16 : k < 16 := by omega
      rw [f_X1_open_L12, hC2.2.2.1]
      simp (disch := omega) only [clp_some, cl_some, jn_eq, uI_add, uI_mul, uI_lt, uI_lt0, uI_0lt, uI_eq0, uI_inj, uI_ne1, n1_ne, n1_lt, uI_lt1, rdA_nI, rdQ_nI, rdL_nI, wrA_nI, wrL_nI, wrF_eq, wrJ_eq, dvd_nI, ite_true, ite_false, if_true, if_false, bI_t, bI_f, bI_0, decide_true, decide_false, Nat.one_ne_zero, Nat.reduceEqDiff, Nat.reduceLT, Nat.reduceLeDiff, Nat.reduceAdd, Nat.reduceMul, Nat.reduceSub, Nat.reduceDiv, hk, hk16]
      have inner : ∀ n' j, j ≤ tP t → tP t < n' + j → ∀ h3, Fr TC h h3 → h3.1 81 5 = y → h3.1 81 6 = l → (∀ f, f < k → ∀ i, i < tP t → h3.1 (83 + f) i = lvz t f y l i ∧ h3.1 (100 + f) i = ttl t f i) → (∀ i, i < j → h3.1 (83 + k) i = lvz t k y l i ∧ h3.1 (100 + k) i = ttl t k i) → ∃ h1, f_X1_open_L32 (nI k) (fun h_5 => f_X1_open_L12 n (nI (k + 1)) h_5) n' (nI j) h3 = some ((), h1) ∧ Fr TC h h1 ∧ GO t y l h1 := by
        refine loop_up (fun n' j => ∀ h3, Fr TC h h3 → h3.1 81 5 = y → h3.1 81 6 = l → (∀ f, f < k → ∀ i, i < tP t → h3.1 (83 + f) i = lvz t f y l i ∧ h3.1 (100 + f) i = ttl t f i) → (∀ i, i < j → h3.1 (83 + k) i = lvz t k y l i ∧ h3.1 (100 + k) i = ttl t k i) → ∃ h1, f_X1_open_L32 (nI k) (fun h_5 => f_X1_open_L12 n (nI (k + 1)) h_5) n' (nI j) h3 = some ((), h1) ∧ Fr TC h h1 ∧ GO t y l h1) (tP t) ?_ ?_
        · intro n' j hj ih' h3 hF3 hy3 hl3 hr3 hr4
          have hC3 := hC.tc hF3 hV
          have hj8 : j < 8 := by omega
          rw [f_X1_open_L32, hC3.1]
          simp (disch := omega) only [clp_some, cl_some, jn_eq, uI_add, uI_mul, uI_lt, uI_lt0, uI_0lt, uI_eq0, uI_inj, uI_ne1, n1_ne, n1_lt, uI_lt1, rdA_nI, rdQ_nI, rdL_nI, wrA_nI, wrL_nI, wrF_eq, wrJ_eq, dvd_nI, ite_true, ite_false, if_true, if_false, bI_t, bI_f, bI_0, decide_true, decide_false, Nat.one_ne_zero, Nat.reduceEqDiff, Nat.reduceLT, Nat.reduceLeDiff, Nat.reduceAdd, Nat.reduceMul, Nat.reduceSub, Nat.reduceDiv, hj, hj8]
          rw [c_measureIn _ hC3 hV hk hj, clp_some, hl3, hy3]
          generalize hh4 : sI h3 (83 + k) j (mn (nI 99) (mz t k j y + l)) = h4
          have hF4 : Fr TC h h4 := by rw [← hh4]; exact hF3.tr (Fr.sI (by unfold TC; omega))
          have hC4 := hC.tc hF4 hV
          rw [c_measureIn _ hC4 hV hk hj, clp_some, mz0 hV hk hj]
          have e5 : ∀ x i, (sI h4 (100 + k) j (ttl t k j)).1 x i = if x = 100 + k ∧ i = j then ttl t k j else if x = 83 + k ∧ i = j then lvz t k y l j else h3.1 x i := by
            intro x i; rw [← hh4]; rfl
          refine ih' _ (hF4.tr (Fr.sI (by unfold TC; omega))) ?_ ?_ ?_ ?_
          · rw [e5, if_neg (by omega), if_neg (by omega)]; exact hy3
          · rw [e5, if_neg (by omega), if_neg (by omega)]; exact hl3
          · intro f hf i hi
            rw [e5, if_neg (by omega), if_neg (by omega), e5, if_neg (by omega), if_neg (by omega)]
            exact hr3 f hf i hi
          · intro i hi
            rw [e5, e5, if_neg (by omega)]
            by_cases e : i = j
            · subst e; simp
            · rw [if_neg (by omega), if_neg (by omega), if_neg (by omega)]
              exact hr4 i (by omega)
        · intro n' h3 hF3 hy3 hl3 hr3 hr4
          have hC3 := hC.tc hF3 hV
          rw [f_X1_open_L32, hC3.1]
          simp (disch := omega) only [clp_some, cl_some, jn_eq, uI_add, uI_mul, uI_lt, uI_lt0, uI_0lt, uI_eq0, uI_inj, uI_ne1, n1_ne, n1_lt, uI_lt1, rdA_nI, rdQ_nI, rdL_nI, wrA_nI, wrL_nI, wrF_eq, wrJ_eq, dvd_nI, ite_true, ite_false, if_true, if_false, bI_t, bI_f, bI_0, decide_true, decide_false, Nat.one_ne_zero, Nat.reduceEqDiff, Nat.reduceLT, Nat.reduceLeDiff, Nat.reduceAdd, Nat.reduceMul, Nat.reduceSub, Nat.reduceDiv, Nat.lt_irrefl]
          refine ih h3 hF3 hy3 hl3 (fun f hf i hi => ?_)
          by_cases e : f = k
          · subst e; exact hr4 i hi
          · exact hr3 f (by omega) i hi
      exact inner FU 0 (Nat.zero_le _) (by show tP t < 100000 + 0; omega) h2 hF2 hy hl hrows (fun i hi => absurd hi (Nat.not_lt_zero i))
    · intro n h2 hF2 hy hl hrows
      have hC2 := hC.tc hF2 hV
      rw [f_X1_open_L12, hC2.2.2.1]
      simp (disch := omega) only [clp_some, cl_some, jn_eq, uI_add, uI_mul, uI_lt, uI_lt0, uI_0lt, uI_eq0, uI_inj, uI_ne1, n1_ne, n1_lt, uI_lt1, rdA_nI, rdQ_nI, rdL_nI, wrA_nI, wrL_nI, wrF_eq, wrJ_eq, dvd_nI, ite_true, ite_false, if_true, if_false, bI_t, bI_f, bI_0, decide_true, decide_false, Nat.one_ne_zero, Nat.reduceEqDiff, Nat.reduceLT, Nat.reduceLeDiff, Nat.reduceAdd, Nat.reduceMul, Nat.reduceSub, Nat.reduceDiv, Nat.lt_irrefl]
      exact ⟨h2, rfl, hF2, hy, hl, hrows⟩
  exact outer FU 0 (Nat.zero_le _) (by show tF t < 100000 + 0; omega) h0 F0 y0.1 y0.2 (fun f hf => absurd hf (Nat.not_lt_zero f))
