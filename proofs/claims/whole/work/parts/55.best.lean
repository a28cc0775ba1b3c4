/-! the best bar -/
theorem smN_add (n : Nat) (u v : Nat → Nat) : smN n (fun i => u i + v i) = smN n u + smN n v := by
  induction n with
  | zero => rfl
  | succ n ih => rw [smN, smN, smN, ih]; omega
theorem smN_swap (g : Nat → Nat → Nat) (n : Nat) : ∀ m, smN m (fun v => smN n (fun a => g a v)) = smN n (fun a => smN m (fun v => g a v)) := by
  intro m
  induction m with
  | zero =>
    show 0 = smN n (fun a => 0)
    rw [smN_const]; omega
  | succ m ih =>
    rw [smN, ih, ← smN_add]
    rfl
theorem smN_ind (p : Bool) (x : Nat) : ∀ T, smN T (fun v => bN (p && decide (x = v))) = bN (p && decide (x < T)) := by
  intro T
  induction T with
  | zero => cases p <;> simp [smN, bN]
  | succ T ih =>
    rw [smN, ih]
    cases p
    · simp [bN]
    · by_cases c1 : x < T
      · simp [bN, c1, show ¬ x = T by omega, show x < T + 1 by omega]
      · by_cases c2 : x = T
        · subst c2; simp [bN]
        · simp [bN, c1, c2, show ¬ x < T + 1 by omega]
theorem smN_pick (P : Nat → Bool) (a : Nat) : ∀ n, smN n (fun b => bN (decide (a = b) && P b)) = if a < n then bN (P a) else 0 := by
  intro n
  induction n with
  | zero => rfl
  | succ n ih =>
    rw [smN, ih]
    by_cases c1 : a < n
    · simp [c1, show ¬ a = n by omega, show a < n + 1 by omega, bN]
    · by_cases c2 : a = n
      · subst c2; simp
      · simp [c1, c2, show ¬ a < n + 1 by omega, bN]
def cF (t : Tn) (y l : Int32) (v : Nat) : Nat := smN (tF t) (fun a => smN (tF t) (fun b => bN (!decide (a = b) && decide (fN t y l a b = v))))
def cH (t : Tn) (y l : Int32) (v : Nat) : Nat := smN (tF t) (fun a => smN (tF t) (fun b => bN (decide (a = b) && decide (fN t y l a b = v))))
theorem cF_pre (t : Tn) (y l : Int32) (T : Nat) : smN (T + 1) (cF t y l) = smN (tF t) (fun a => foN t y l T a) := by
  unfold cF
  rw [smN_swap (fun a v => smN (tF t) (fun b => bN (!decide (a = b) && decide (fN t y l a b = v)))) (tF t)]
  refine smN_congr (fun a ha => ?_)
  rw [smN_swap (fun b v => bN (!decide (a = b) && decide (fN t y l a b = v))) (tF t)]
  unfold foN
  refine smN_congr (fun b hb => ?_)
  rw [smN_ind]
  congr 1
  rw [show decide (fN t y l a b < T + 1) = decide (fN t y l a b ≤ T) by simp [Nat.lt_succ_iff]]
  by_cases e : a = b <;> simp [e, Ne.symm, eq_comm]
theorem cH_pre (t : Tn) (y l : Int32) (T : Nat) : smN (T + 1) (cH t y l) + hdN t y l T (-1) = tF t := by
  unfold cH
  rw [smN_swap (fun a v => smN (tF t) (fun b => bN (decide (a = b) && decide (fN t y l a b = v)))) (tF t)]
  have e1 : smN (tF t) (fun a => smN (T + 1) (fun v => smN (tF t) (fun b => bN (decide (a = b) && decide (fN t y l a b = v))))) = smN (tF t) (fun a => bN (decide (fN t y l a a ≤ T))) := by
    refine smN_congr (fun a ha => ?_)
    rw [smN_swap (fun b v => bN (decide (a = b) && decide (fN t y l a b = v))) (tF t)]
    have e2 : smN (tF t) (fun b => smN (T + 1) (fun v => bN (decide (a = b) && decide (fN t y l a b = v)))) = smN (tF t) (fun b => bN (decide (a = b) && decide (fN t y l a b ≤ T))) := by
      refine smN_congr (fun b hb => ?_)
      rw [smN_ind]
      simp [Nat.lt_succ_iff]
    rw [e2, smN_pick (fun b => decide (fN t y l a b ≤ T)), if_pos ha]
  rw [e1]
  unfold hdN
  rw [← smN_add]
  have e3 : smN (tF t) (fun a => bN (decide (fN t y l a a ≤ T)) + bN (ofK t (-1) a && decide (T < fN t y l a a))) = smN (tF t) (fun _ => 1) := by
    refine smN_congr (fun a ha => ?_)
    have : ofK t (-1) a = true := by unfold ofK; simp
    rw [this, Bool.true_and]
    by_cases c : fN t y l a a ≤ T
    · simp [c, bN, show ¬ T < fN t y l a a by omega]
    · simp [c, bN, show T < fN t y l a a by omega]
  rw [e3, smN_const, Nat.mul_one]
def S2 (a _ : Nat) : Prop := a = 119 ∨ a = 120
theorem S2_TC : ∀ x k, S2 x k → TC x k := fun x k h => by unfold S2 at h; unfold TC; omega
theorem c_count {t : Tn} {R : Ru} {h : CH} {y l : Int32} (w : WC t R h) (hG : GO t y l h) (hw : wh y l = true) : ∃ h1, f_X3_countByFar h = some ((), h1) ∧ Fr S2 h h1 ∧ ∀ v, v ≤ 800 → h1.1 119 v = nI (cF t y l v) ∧ h1.1 120 v = nI (cH t y l v) := by
  have v3 := w.1.2.2.1
  unfold f_X3_countByFar
  have outer := loop_up (fun n A => ∀ h2, Fr S2 h h2 → (∀ v, v ≤ 800 → h2.1 119 v = nI (smN A (fun a => smN (tF t) (fun b => bN (!decide (a = b) && decide (fN t y l a b = v))))) ∧ h2.1 120 v = nI (smN A (fun a => smN (tF t) (fun b => bN (decide (a = b) && decide (fN t y l a b = v)))))) → ∃ h1, f_X3_countByFar_L31 n (nI A) h2 = some ((), h1) ∧ Fr S2 h h1 ∧ ∀ v, v ≤ 800 → h1.1 119 v = nI (cF t y l v) ∧ h1.1 120 v = nI (cH t y l v)) (tF t) ?_ ?_ FU 0 (Nat.zero_le _) (by show tF t < 100000 + 0; omega)
  · have first := loop_up (fun n k => ∀ h2, Fr S2 h h2 → (∀ v, v < k → h2.1 119 v = nI 0 ∧ h2.1 120 v = nI 0) → ∃ h1, f_X3_countByFar_L2 n (nI k) h2 = some ((), h1) ∧ Fr S2 h h1 ∧ ∀ v, v ≤ 800 → h1.1 119 v = nI (cF t y l v) ∧ h1.1 120 v = nI (cH t y l v)) 801 ?_ ?_ FU 0 (by omega) (by decide) h Fr.rf (fun v hv => absurd hv (Nat.not_lt_zero v))
    · exact first
    · intro n k hk ih h2 hF2 hz
      rw [f_X3_countByFar_L2]
      have h8 : ¬ 800 < k := by omega
      simp (disch := omega) only [clp_some, cl_some, jn_eq, uI_add, uI_mul, uI_lt, uI_lt0, uI_0lt, uI_eq0, uI_inj, uI_ne1, n1_ne, n1_lt, uI_lt1, rdA_nI, rdQ_nI, rdL_nI, wrA_nI, wrL_nI, wrF_eq, wrJ_eq, dvd_nI, ite_true, ite_false, if_true, if_false, bI_t, bI_f, bI_0, decide_true, decide_false, Nat.one_ne_zero, Nat.reduceEqDiff, Nat.reduceLT, Nat.reduceLeDiff, Nat.reduceAdd, Nat.reduceMul, Nat.reduceSub, Nat.reduceDiv, h8]
      refine ih _ ((hF2.tr (Fr.sI (by unfold S2; omega))).tr (Fr.sI (by unfold S2; omega))) (fun v hv => ?_)
      have e5 : ∀ x i, (sI (sI h2 119 k (nI 0)) 120 k (nI 0)).1 x i = if x = 120 ∧ i = k then nI 0 else if x = 119 ∧ i = k then nI 0 else h2.1 x i := fun _ _ => rfl
      rw [e5, e5]
      by_cases e : v = k
      · subst e; simp
      · simp [e]; exact hz v (by omega)
    · intro n h2 hF2 hz
      rw [f_X3_countByFar_L2]
      simp (disch := omega) only [clp_some, cl_some, jn_eq, uI_add, uI_mul, uI_lt, uI_lt0, uI_0lt, uI_eq0, uI_inj, uI_ne1, n1_ne, n1_lt, uI_lt1, rdA_nI, rdQ_nI, rdL_nI, wrA_nI, wrL_nI, wrF_eq, wrJ_eq, dvd_nI, ite_true, ite_false, if_true, if_false, bI_t, bI_f, bI_0, decide_true, decide_false, Nat.one_ne_zero, Nat.reduceEqDiff, Nat.reduceLT, Nat.reduceLeDiff, Nat.reduceAdd, Nat.reduceMul, Nat.reduceSub, Nat.reduceDiv]
      exact outer h2 hF2 (fun v hv => hz v (by omega))
  · intro n a ha ih h2 hF2 hq
    have w2 := w.tc (hF2.mono S2_TC)
    rw [f_X3_countByFar_L31, w2.2.2.1.2.2.1]
    simp (disch := omega) only [clp_some, cl_some, jn_eq, uI_add, uI_mul, uI_lt, uI_lt0, uI_0lt, uI_eq0, uI_inj, uI_ne1, n1_ne, n1_lt, uI_lt1, rdA_nI, rdQ_nI, rdL_nI, wrA_nI, wrL_nI, wrF_eq, wrJ_eq, dvd_nI, ite_true, ite_false, if_true, if_false, bI_t, bI_f, bI_0, decide_true, decide_false, Nat.one_ne_zero, Nat.reduceEqDiff, Nat.reduceLT, Nat.reduceLeDiff, Nat.reduceAdd, Nat.reduceMul, Nat.reduceSub, Nat.reduceDiv, ha]
    have inner := loop_up (fun n' B => ∀ h3, Fr S2 h h3 → (∀ v, v ≤ 800 → h3.1 119 v = nI (smN a (fun a => smN (tF t) (fun b => bN (!decide (a = b) && decide (fN t y l a b = v)))) + smN B (fun b => bN (!decide (a = b) && decide (fN t y l a b = v)))) ∧ h3.1 120 v = nI (smN a (fun a => smN (tF t) (fun b => bN (decide (a = b) && decide (fN t y l a b = v)))) + smN B (fun b => bN (decide (a = b) && decide (fN t y l a b = v))))) → ∃ h1, f_X3_countByFar_L44 (nI a) (fun h_3 => f_X3_countByFar_L31 n (nI (a + 1)) h_3) n' (nI B) h3 = some ((), h1) ∧ Fr S2 h h1 ∧ ∀ v, v ≤ 800 → h1.1 119 v = nI (cF t y l v) ∧ h1.1 120 v = nI (cH t y l v)) (tF t) ?_ ?_ FU 0 (Nat.zero_le _) (by show tF t < 100000 + 0; omega) h2 hF2 (fun v hv => hq v hv)
    · exact inner
    · intro n' b hb ih' h3 hF3 hr
      have w3 := w.tc (hF3.mono S2_TC)
      have g3 := hG.bars hF3 (fun x k hx q => by unfold S2 at q; omega) w.1
      obtain ⟨e1, e2⟩ := fN_eq w.1 hw (a := a) hb
      rw [f_X3_countByFar_L44, w3.2.2.1.2.2.1]
      simp (disch := omega) only [clp_some, cl_some, jn_eq, uI_add, uI_mul, uI_lt, uI_lt0, uI_0lt, uI_eq0, uI_inj, uI_ne1, n1_ne, n1_lt, uI_lt1, rdA_nI, rdQ_nI, rdL_nI, wrA_nI, wrL_nI, wrF_eq, wrJ_eq, dvd_nI, ite_true, ite_false, if_true, if_false, bI_t, bI_f, bI_0, decide_true, decide_false, Nat.one_ne_zero, Nat.reduceEqDiff, Nat.reduceLT, Nat.reduceLeDiff, Nat.reduceAdd, Nat.reduceMul, Nat.reduceSub, Nat.reduceDiv, hb]
      rw [c_apartPic w3.2.2.1 w.1 g3 ha hb, clp_some, e1]
      generalize hf : fN t y l a b = x at e2
      have h8 : ¬ 800 < x := by omega
      obtain ⟨r1, r2⟩ := hr x (by omega)
      have fin : ∀ p q : Nat, p = bN (!decide (a = b)) → q = bN (decide (a = b)) → ∃ h1, f_X3_countByFar_L44 (nI a) (fun h_3 => f_X3_countByFar_L31 n (nI (a + 1)) h_3) n' (nI (b + 1)) (sI (sI h3 119 x (h3.1 119 x + nI p)) 120 x (h3.1 120 x + nI q)) = some ((), h1) ∧ Fr S2 h h1 ∧ ∀ v, v ≤ 800 → h1.1 119 v = nI (cF t y l v) ∧ h1.1 120 v = nI (cH t y l v) := by
        intro p q hp hq
        refine ih' _ ((hF3.tr (Fr.sI (by unfold S2; omega))).tr (Fr.sI (by unfold S2; omega))) (fun v hv => ?_)
        have e5 : ∀ z i, (sI (sI h3 119 x (h3.1 119 x + nI p)) 120 x (h3.1 120 x + nI q)).1 z i = if z = 120 ∧ i = x then h3.1 120 x + nI q else if z = 119 ∧ i = x then h3.1 119 x + nI p else h3.1 z i := fun _ _ => rfl
        rw [e5, e5, smN, smN, hf, ← Nat.add_assoc, ← Nat.add_assoc]
        by_cases e : v = x
        · subst e
          simp only [show ¬ ((119:Nat) = 120) by decide, false_and, if_false, and_self, if_true, r1, r2, uI_add, decide_true, Bool.and_true, ← hp, ← hq]
        · have n1 : ∀ c : Bool, bN (c && decide (x = v)) = 0 := fun c => by simp [Ne.symm e, bN]
          simp only [e, and_false, if_false, n1, Nat.add_zero]
          exact hr v hv
      simp (disch := omega) only [clp_some, cl_some, jn_eq, uI_add, uI_mul, uI_lt, uI_lt0, uI_0lt, uI_eq0, uI_inj, uI_ne1, n1_ne, n1_lt, uI_lt1, rdA_nI, rdQ_nI, rdL_nI, wrA_nI, wrL_nI, wrF_eq, wrJ_eq, dvd_nI, ite_true, ite_false, if_true, if_false, bI_t, bI_f, bI_0, decide_true, decide_false, Nat.one_ne_zero, Nat.reduceEqDiff, Nat.reduceLT, Nat.reduceLeDiff, Nat.reduceAdd, Nat.reduceMul, Nat.reduceSub, Nat.reduceDiv, h8]
      by_cases e : a = b
      · have f1 := fin 0 1 (by simp [e, bN]) (by simp [e, bN])
        simp only [e, if_true]
        rw [e] at f1
        simpa (disch := omega) only [clp_some, cl_some, jn_eq, uI_add, uI_mul, uI_lt, uI_lt0, uI_0lt, uI_eq0, uI_inj, uI_ne1, n1_ne, n1_lt, uI_lt1, rdA_nI, rdQ_nI, rdL_nI, wrA_nI, wrL_nI, wrF_eq, wrJ_eq, dvd_nI, ite_true, ite_false, if_true, if_false, bI_t, bI_f, bI_0, decide_true, decide_false, Nat.one_ne_zero, Nat.reduceEqDiff, Nat.reduceLT, Nat.reduceLeDiff, Nat.reduceAdd, Nat.reduceMul, Nat.reduceSub, Nat.reduceDiv, sI_1, show ¬ ((120:Nat) = 119) by decide, false_and] using f1
      · have f1 := fin 1 0 (by simp [e, bN]) (by simp [e, bN])
        simp only [e, if_false]
        simpa (disch := omega) only [clp_some, cl_some, jn_eq, uI_add, uI_mul, uI_lt, uI_lt0, uI_0lt, uI_eq0, uI_inj, uI_ne1, n1_ne, n1_lt, uI_lt1, rdA_nI, rdQ_nI, rdL_nI, wrA_nI, wrL_nI, wrF_eq, wrJ_eq, dvd_nI, ite_true, ite_false, if_true, if_false, bI_t, bI_f, bI_0, decide_true, decide_false, Nat.one_ne_zero, Nat.reduceEqDiff, Nat.reduceLT, Nat.reduceLeDiff, Nat.reduceAdd, Nat.reduceMul, Nat.reduceSub, Nat.reduceDiv, sI_1, show ¬ ((120:Nat) = 119) by decide, false_and] using f1
    · intro n' h3 hF3 hr
      have w3 := w.tc (hF3.mono S2_TC)
      rw [f_X3_countByFar_L44, w3.2.2.1.2.2.1]
      simp (disch := omega) only [clp_some, cl_some, jn_eq, uI_add, uI_mul, uI_lt, uI_lt0, uI_0lt, uI_eq0, uI_inj, uI_ne1, n1_ne, n1_lt, uI_lt1, rdA_nI, rdQ_nI, rdL_nI, wrA_nI, wrL_nI, wrF_eq, wrJ_eq, dvd_nI, ite_true, ite_false, if_true, if_false, bI_t, bI_f, bI_0, decide_true, decide_false, Nat.one_ne_zero, Nat.reduceEqDiff, Nat.reduceLT, Nat.reduceLeDiff, Nat.reduceAdd, Nat.reduceMul, Nat.reduceSub, Nat.reduceDiv, Nat.lt_irrefl]
      exact ih h3 hF3 hr
  · intro n h2 hF2 hq
    have w2 := w.tc (hF2.mono S2_TC)
    rw [f_X3_countByFar_L31, w2.2.2.1.2.2.1]
    simp (disch := omega) only [clp_some, cl_some, jn_eq, uI_add, uI_mul, uI_lt, uI_lt0, uI_0lt, uI_eq0, uI_inj, uI_ne1, n1_ne, n1_lt, uI_lt1, rdA_nI, rdQ_nI, rdL_nI, wrA_nI, wrL_nI, wrF_eq, wrJ_eq, dvd_nI, ite_true, ite_false, if_true, if_false, bI_t, bI_f, bI_0, decide_true, decide_false, Nat.one_ne_zero, Nat.reduceEqDiff, Nat.reduceLT, Nat.reduceLeDiff, Nat.reduceAdd, Nat.reduceMul, Nat.reduceSub, Nat.reduceDiv, Nat.lt_irrefl]
    exact ⟨h2, rfl, hF2, hq⟩
def bbS (t : Tn) (y l f g : Int32) : Nat → Int32 × Int32
  | 0 => (nI 0, coS t y l 0 f g)
  | k + 1 => if coS t y l (k + 1) f g < (bbS t y l f g k).2 then (nI (k + 1), coS t y l (k + 1) f g) else bbS t y l f g k
theorem c_cheapest {t : Tn} {R : Ru} {h : CH} {y l : Int32} (f g : Int32) (w : WC t R h) (hG : GO t y l h) (hw : wh y l = true) : PO TC h (f_X3_cheapest f g h) (bbS t y l f g 800).1 := by
  have v3 := w.1.2.2.1
  unfold f_X3_cheapest
  obtain ⟨h1, e1, hF1, hc⟩ := c_count w hG hw
  have w1 := w.tc (hF1.mono S2_TC)
  rw [e1, cl_some, w1.2.2.1.2.2.1]
  have hle : ∀ k, smN (k + 1) (cH t y l) ≤ tF t := fun k => by have := cH_pre t y l k; omega
  have L := loop_up (fun n k => ∀ p : Int32 × Int32, (∀ j, k = j + 1 → p = bbS t y l f g j) → (k = 0 → p = (nI 0, nI 0)) → PO TC h (f_X3_cheapest_L24 f g h1 n p.1 p.2 (nI (smN k (cF t y l))) (nI (tF t - smN k (cH t y l))) (nI k)) (bbS t y l f g 800).1) 801 ?_ ?_ FU 0 (by omega) (by decide) (nI 0, nI 0) (fun j hj => absurd hj (by omega)) (fun _ => rfl)
  · exact L
  · intro n k hk ih p hp hp0
    rw [f_X3_cheapest_L24]
    have h8 : ¬ 800 < k := by omega
    obtain ⟨r1, r2⟩ := hc k (by omega)
    have hs : smN (k + 1) (cH t y l) = smN k (cH t y l) + cH t y l k := rfl
    have hk2 := hle k
    simp (disch := omega) only [clp_some, cl_some, jn_eq, uI_add, uI_mul, uI_lt, uI_lt0, uI_0lt, uI_eq0, uI_inj, uI_ne1, n1_ne, n1_lt, uI_lt1, rdA_nI, rdQ_nI, rdL_nI, wrA_nI, wrL_nI, wrF_eq, wrJ_eq, dvd_nI, ite_true, ite_false, if_true, if_false, bI_t, bI_f, bI_0, decide_true, decide_false, Nat.one_ne_zero, Nat.reduceEqDiff, Nat.reduceLT, Nat.reduceLeDiff, Nat.reduceAdd, Nat.reduceMul, Nat.reduceSub, Nat.reduceDiv, h8, r1, r2]
    rw [uI_sub (show cH t y l k ≤ tF t - smN k (cH t y l) by omega)]
    have eF : nI (smN k (cF t y l) + cF t y l k) = nI (smN (tF t) (fun a => foN t y l k a)) := by
      have := cF_pre t y l k
      rw [smN] at this
      rw [this]
    have eH : tF t - smN k (cH t y l) - cH t y l k = hdN t y l k (-1) := by
      have := cH_pre t y l k
      omega
    have ihk := ih (bbS t y l f g k) (fun j hj => by rw [show k = j by omega]) (fun q => absurd q (by omega))
    have e7 : nI (tF t - smN (k + 1) (cH t y l)) = nI (tF t - smN k (cH t y l) - cH t y l k) := congrArg nI (by rw [hs]; omega)
    rw [e7] at ihk
    have e8 : f * nI (smN k (cF t y l) + cF t y l k) + g * nI (tF t - smN k (cH t y l) - cH t y l k) = coS t y l k f g := by rw [eF, eH]; rfl
    rw [e8]
    by_cases z : k = 0
    · simp only [z, if_true]
      rw [z] at ihk
      exact ihk
    · simp only [z, if_false]
      obtain ⟨j, rfl⟩ : ∃ j, k = j + 1 := ⟨k - 1, by omega⟩
      have hpj := hp j rfl
      rw [hpj]
      rw [bbS] at ihk
      by_cases c : coS t y l (j + 1) f g < (bbS t y l f g j).2
      · rw [if_pos c]
        rw [if_pos c] at ihk
        exact ihk
      · rw [if_neg c]
        rw [if_neg c] at ihk
        exact ihk
  · intro n p hp hp0
    rw [f_X3_cheapest_L24]
    simp (disch := omega) only [clp_some, cl_some, jn_eq, uI_add, uI_mul, uI_lt, uI_lt0, uI_0lt, uI_eq0, uI_inj, uI_ne1, n1_ne, n1_lt, uI_lt1, rdA_nI, rdQ_nI, rdL_nI, wrA_nI, wrL_nI, wrF_eq, wrJ_eq, dvd_nI, ite_true, ite_false, if_true, if_false, bI_t, bI_f, bI_0, decide_true, decide_false, Nat.one_ne_zero, Nat.reduceEqDiff, Nat.reduceLT, Nat.reduceLeDiff, Nat.reduceAdd, Nat.reduceMul, Nat.reduceSub, Nat.reduceDiv]
    rw [hp 800 rfl]
    exact PO.mk (hF1.mono S2_TC)
def bbA (t : Tn) (f g y l : Int32) : Int32 := if inR (nI 0) (nI 99) f = true then (if inR (nI 0) (nI 99) g = true then (if wh y l = true then (bbS t y l f g 800).1 else -1) else -1) else -1
theorem c_bestBar {t : Tn} {R : Ru} {h : CH} (f g y l : Int32) (w : WC t R h) : PO TC h (f_X11_bestBar f g y l h) (bbA t f g y l) := by
  unfold f_X11_bestBar bbA
  rw [c_isPrice, clp_some, ifB]
  cases inR (nI 0) (nI 99) f
  · exact PO.mk Fr.rf
  simp only [if_true]
  rw [c_isPrice, clp_some, ifB]
  cases inR (nI 0) (nI 99) g
  · exact PO.mk Fr.rf
  simp only [if_true]
  rw [c_isWhen, clp_some, ifB]
  cases hw : wh y l
  · exact PO.mk Fr.rf
  simp only [if_true]
  obtain ⟨h3, e3, hF3, g3⟩ := c_open y l w.2.2.1 w.1
  rw [e3, cl_some]
  exact PO.cl ((c_cheapest f g (w.tc hF3) g3 hw).go hF3 (fun _ _ q => q)) (fun h4 hF4 => PO.mk hF4)
theorem m_bestBar {bk : Nat} {t : Tn} {R : Ru} {h : CH} (f g y l : Int32) (w : WM bk t R h) : PO TM h (f_X12_bestBar f g y l h) (bbA t f g y l) := by
  unfold f_X12_bestBar bbA
  rw [m_isCost, clp_some, ifB]
  cases inR (nI 0) (nI 99) f
  · exact PO.mk Fr.rf
  cases inR (nI 0) (nI 99) g
  · exact PO.mk Fr.rf
  simp only [Bool.and_self, if_true]
  rw [m_isWhen, clp_some, ifB]
  cases hw : wh y l
  · exact PO.mk Fr.rf
  simp only [if_true]
  obtain ⟨h3, e3, hF3⟩ := m_costOf (T := 0) f g y l w hw (by omega)
  rw [e3, cl_some]
  have key : ∀ N, N = 800 → PO TM h (f_X12_bestBar_L37 f g y l FU (nI 0) (coS t y l 0 f g) (nI 1) h3) (bbS t y l f g N).1 := by
    intro N hN
    refine loop_FU (fun n k => ∀ h2, Fr TM h h2 → PO TM h (f_X12_bestBar_L37 f g y l n (bbS t y l f g k).1 (bbS t y l f g k).2 (nI (k + 1)) h2) (bbS t y l f g N).1) N (by omega) ?_ ?_ h3 hF3
    · intro n k hk ih h2 hF2
      rw [f_X12_bestBar_L37]
      have h8 : ¬ 800 < k + 1 := by omega
      simp (disch := omega) only [clp_some, cl_some, jn_eq, uI_add, uI_mul, uI_lt, uI_lt0, uI_0lt, uI_eq0, uI_inj, uI_ne1, n1_ne, n1_lt, uI_lt1, rdA_nI, rdQ_nI, rdL_nI, wrA_nI, wrL_nI, wrF_eq, wrJ_eq, dvd_nI, ite_true, ite_false, if_true, if_false, bI_t, bI_f, bI_0, decide_true, decide_false, Nat.one_ne_zero, Nat.reduceEqDiff, Nat.reduceLT, Nat.reduceLeDiff, Nat.reduceAdd, Nat.reduceMul, Nat.reduceSub, Nat.reduceDiv, h8]
      obtain ⟨h4, e4, hF4⟩ := m_costOf (T := k + 1) f g y l (w.tm hF2) hw (by omega)
      rw [e4, cl_some]
      have ih4 := ih h4 (hF2.tr hF4)
      rw [bbS] at ih4
      by_cases c : coS t y l (k + 1) f g < (bbS t y l f g k).2
      · rw [if_pos c]; rw [if_pos c] at ih4; exact ih4
      · rw [if_neg c]; rw [if_neg c] at ih4; exact ih4
    · intro n h2 hF2
      rw [f_X12_bestBar_L37]
      have h8 : 800 < N + 1 := by omega
      simp (disch := omega) only [clp_some, cl_some, jn_eq, uI_add, uI_mul, uI_lt, uI_lt0, uI_0lt, uI_eq0, uI_inj, uI_ne1, n1_ne, n1_lt, uI_lt1, rdA_nI, rdQ_nI, rdL_nI, wrA_nI, wrL_nI, wrF_eq, wrJ_eq, dvd_nI, ite_true, ite_false, if_true, if_false, bI_t, bI_f, bI_0, decide_true, decide_false, Nat.one_ne_zero, Nat.reduceEqDiff, Nat.reduceLT, Nat.reduceLeDiff, Nat.reduceAdd, Nat.reduceMul, Nat.reduceSub, Nat.reduceDiv, h8]
      exact PO.mk hF2
  exact key 800 rfl
