/-! the model reads a line of rules -/
def mQ (q : Rq) (M : Cd) (h : CH) : Prop := M.length = (qc q).length ∧ (∀ k, k < qn q → sgm M (qf q k) (enc false (qk q k))) ∧ (∀ f c, qb q = some (f, c) → sgm M f (enc true c)) ∧ h.1 151 41 = nI (qn q) ∧ h.1 151 46 = bI (qb q).isSome ∧ h.1 151 43 = nI (qLn q) ∧ h.1 151 37 = nI (qu q) ∧ h.1 151 36 = nI (400 + M.length) ∧ CMk 400 M h ∧ (∀ k, k < qn q → h.2 175 k = nL (w8 (qm q k)) ∧ h.1 173 (8 + k) = nI (400 + qf q k) ∧ h.1 174 (8 + k) = nI (400 + qf q k + (qk q k).length)) ∧ (∀ f c, qb q = some (f, c) → h.1 173 7 = nI (400 + f) ∧ h.1 174 7 = nI (400 + f + c.length))
def xRM (a k : Nat) : Prop := xQ a k ∨ (a = 151 ∧ (k = 41 ∨ k = 43 ∨ k = 46 ∨ k = 47)) ∨ ((a = 173 ∨ a = 174) ∧ 7 ≤ k)
def lRM (a k : Nat) : Prop := lG a k ∨ a = 175
def mBk (n : Nat) (X : Nat → Nat) (bk P : Nat) (h : CH) : Prop := Mx true n X h ∧ bk ≤ 1 ∧ h.1 151 26 = nI bk ∧ h.1 154 bk = nI P
theorem mBk.fz {n bk P : Nat} {X : Nat → Nat} {S L : Nat → Nat → Prop} {h h' : CH} (c : mBk n X bk P h) (hF : Fz S L h h') (h1 : ∀ k, k = 3 ∨ k = 11 ∨ k = 26 → ¬ S 151 k) (h2 : ∀ k, ¬ S 153 k) (h3 : ∀ k, ¬ S 154 k) : mBk n X bk P h' := by
  obtain ⟨c1, c2, c3, c4⟩ := c
  exact ⟨c1.fz hF (h1 _ (by omega)) (h1 _ (by omega)) h2, c2, by rw [hF.1 _ _ (h1 _ (by omega))]; exact c3, by rw [hF.1 _ _ (h3 _)]; exact c4⟩
theorem mBk.m {n bk P : Nat} {X : Nat → Nat} {h h' : CH} (c : mBk n X bk P h) (hF : Fz xRM lRM h h') : mBk n X bk P h' := c.fz hF (fun k hk => by unfold xRM xQ; omega) (fun k => by unfold xRM xQ; omega) (fun k => by unfold xRM xQ; omega)
theorem xQ_M : ∀ a k, xQ a k → xRM a k := fun _ _ q => Or.inl q
theorem lG_M : ∀ a k, lG a k → lRM a k := fun _ _ q => Or.inl q
theorem xM_M : ∀ a k, xM a k → xRM a k := fun a k q => Or.inl (xM_Q a k q)
def Mrl (n : Nat) (X : Nat → Nat) (N P i : Nat) (r : Ex (Nat × Rq)) (h : CH) : Prop := match r with
  | .error e => Mf n e h
  | .ok x => Mu (tks true n X) N x.1 h ∧ (∃ M', mQ x.2 M' h) ∧ Vq P x.2 ∧ i + 3 ≤ x.1
/-- a line out of place -/
theorem m_rlX {n : Nat} {X : Nat → Nat} {N i P bk : Nat} {h : CH} (hB : TXN true n X N) (hb : mBk n X bk P h) (u : Mu (tks true n X) N i h) (hf : (kC (tks true n X i) = 10 ∧ ¬ h.1 151 46 = 0) ∨ (kC (tks true n X i) ≠ 10 ∧ (kC (tks true n X i) ≠ 11 ∨ h.1 151 41 = nI 6))) : ∃ h', f_X12_readRule h = some ((), h') ∧ Mrl n X N P i (.error (flK (tks true n X) i 2, kS (tks true n X i))) h' ∧ Fz xRM lRM h h' := by
  obtain ⟨b1, e1, f1⟩ := m_isW (j := i) (h := h) hB.2.1 (fun _ g => k8_10 g) (by omega)
  obtain ⟨b2, e2, f2⟩ := m_isW (j := i) (h := h) hB.2.1 (fun _ g => k8_11 g) (by omega)
  have f1 := f1 u
  have f2 := f2 u
  obtain ⟨h', g1, g2, g3⟩ := m_mis1 hB.2.1 u
  refine ⟨h', ?_, g2, g3.mono xM_M lG_M⟩
  have mg := m_good0 g2
  unfold f_X12_readRule
  rw [e1, clp_some, f1]
  rcases hf with ⟨c1, c2⟩ | ⟨c1, c2⟩
  · rw [decide_eq_true c1]
    have q1 : (bI true = 0) = False := zz1
    have q2 : (h.1 151 46 = 0) = False := eq_false c2
    rw [jn_eq, jn_eq, jn_eq]
    simp only [q1, q2, if_false, g1, cl_some, mg, clp_some, zz0, if_true]
  · rw [decide_eq_false c1, e2, f2]
    have q1 : (bI false = 0) = True := zz0
    rw [jn_eq, jn_eq, jn_eq]
    simp only [q1, if_true, g1, cl_some, mg, clp_some, zz0]
    by_cases c3 : kC (tks true n X i) = 11
    · have c4 : (h.1 151 41 = nI 6) = True := eq_true (by rcases c2 with z | z; exact absurd c3 z; exact z)
      simp only [c3, c4, decide_true, bI_t, zz1, if_false, if_true]
    · simp only [c3, decide_false, bI_f, zz0, if_true]
set_option maxHeartbeats 4000000 in
theorem m_rlB {n : Nat} {X : Nat → Nat} {N i P bk : Nat} {q : Rq} {M : Cd} {h : CH} (hB : TXN true n X N) (hP1 : 1 ≤ P) (hP : P ≤ 8) (hb : mBk n X bk P h) (u : Mu (tks true n X) N i h) (mq : mQ q M h) (hV : Vq P q) (hc : kC (tks true n X i) = 10) (hf : (qb q).isSome = false) : ∃ h', f_X12_readRule h = some ((), h') ∧ Mrl n X N P i (sRl (tks true n X) P i q) h' ∧ Fz xRM lRM h h' := by
  obtain ⟨b1, e1, f1⟩ := m_isW (j := i) (h := h) hB.2.1 (fun _ g => k8_10 g) (by omega)
  have f1 := f1 u
  obtain ⟨q1, q2, q3, q4, q5, q6, q7, q8, q9, q10, q11⟩ := mq
  have v1 := hV.1
  have v2 := hV.2.1
  have v3 := hV.2.2.1
  have z46 : (h.1 151 46 = 0) = True := by rw [q5, hf]; exact zz0
  have zt : (bI true = 0) = False := zz1
  unfold f_X12_readRule
  rw [e1, clp_some, f1, decide_eq_true hc]
  simp only [jn_eq, z46, zt, if_true, if_false, ite_self]
  rw [m_good1 u.2.1, clp_some, if_neg (by decide)]
  obtain ⟨li, h2, a2, u2, L2, f2⟩ := m_next hB hb.1 u (by unfold kLast; omega)
  have F2 : Fz xRM lRM h h2 := f2.mono (fun a k q => xM_M a k (xG_M a k q)) lG_M
  have q2' : ∀ a k, ¬ xG a k → h2.1 a k = h.1 a k := f2.1
  rw [a2, cl_some, m_good1 u2.2.1, clp_some, if_neg (by decide), wrG_b]
  have g3 : Fz (fun a k => a = 151 ∧ k = 47) (fun _ _ => False) h2 (sI h2 151 47 (bI true)) := Fz.sI ⟨rfl, rfl⟩
  rw [g3.1 151 36 (by omega), q2' 151 36 (by unfold xG; omega), q8, wrA_nI (by omega) (by omega)]
  have g4 : Fz (fun a k => a = 173 ∧ k = 7) (fun _ _ => False) (sI h2 151 47 (bI true)) (sI (sI h2 151 47 (bI true)) 173 7 (nI (400 + M.length))) := Fz.sI ⟨rfl, rfl⟩
  have g34 : Fz (fun a k => (a = 151 ∧ k = 47) ∨ (a = 173 ∧ k = 7)) (fun _ _ => False) h2 (sI (sI h2 151 47 (bI true)) 173 7 (nI (400 + M.length))) := (g3.mono (fun _ _ q => Or.inl q) (fun _ _ q => q)).tr (g4.mono (fun _ _ q => Or.inr q) (fun _ _ q => q))
  have e47 : (sI (sI h2 151 47 (bI true)) 173 7 (nI (400 + M.length))).1 151 47 = bI true := by rw [sI_ne (by omega), sI_at]
  have e173 : (sI (sI h2 151 47 (bI true)) 173 7 (nI (400 + M.length))).1 173 7 = nI (400 + M.length) := sI_at
  generalize sI (sI h2 151 47 (bI true)) 173 7 (nI (400 + M.length)) = h4 at *
  have F4 : Fz xRM lRM h h4 := F2.tr (g34.mono (fun a k q => by unfold xRM; omega) (fun _ _ q => q.elim))
  have hb4 := hb.m F4
  have u4 := u2.p g34 (fun k h1 h2 => by omega)
  have M4 : CMk 400 M h4 := (q9.fz f2 (fun k _ _ => ⟨by unfold xG; omega, by unfold xG; omega⟩)).fz g34 (fun k _ _ => ⟨by omega, by omega⟩)
  obtain ⟨h5, a5, c5, f5, r5⟩ := m_e (bar := true) hB hP1 hP ⟨hb4.1, hb4.2.1, hb4.2.2.1, hb4.2.2.2, e47⟩ u4 (by rw [g34.1 _ _ (by omega), q2' _ _ (by unfold xG; omega)]; exact q7) (by rw [g34.1 _ _ (by omega), q2' _ _ (by unfold xG; omega)]; exact q8) M4 v2 (by omega)
  rw [a5, cl_some]
  have F5 : Fz xRM lRM h h5 := F4.tr (f5.mono xQ_M lG_M)
  rw [wrA_nI (by omega) (by omega), wrG_1, wrF_eq, wrF_eq]
  have o41 : h5.1 151 41 = nI (qn q) := by rw [f5.1 _ _ (by unfold xQ; omega), g34.1 _ _ (by omega), q2' _ _ (by unfold xG; omega)]; exact q4
  have o43 : h5.1 151 43 = nI (qLn q) := by rw [f5.1 _ _ (by unfold xQ; omega), g34.1 _ _ (by omega), q2' _ _ (by unfold xG; omega)]; exact q6
  have w41 : (sI (sI h5 174 7 (h5.1 151 36)) 151 46 (nI 1)).1 151 41 + nI 0 = nI (qn q) := by rw [sI_ne (by omega), sI_ne (by omega), o41, uI_add, Nat.add_zero]
  rw [w41]
  have w43 : (sI (sI (sI h5 174 7 (h5.1 151 36)) 151 46 (nI 1)) 151 41 (nI (qn q))).1 151 43 + nI 1 = nI (qLn q + 1) := by rw [sI_ne (by omega), sI_ne (by omega), sI_ne (by omega), o43, uI_add]
  rw [w43]
  have g6 : Fz (fun a k => (a = 174 ∧ k = 7) ∨ (a = 151 ∧ (k = 46 ∨ k = 41 ∨ k = 43))) (fun _ _ => False) h5 (sI (sI (sI (sI h5 174 7 (h5.1 151 36)) 151 46 (nI 1)) 151 41 (nI (qn q))) 151 43 (nI (qLn q + 1))) := (((Fz.sI (by omega)).tr (Fz.sI (by omega))).tr (Fz.sI (by omega))).tr (Fz.sI (by omega))
  have k174 : (sI (sI (sI (sI h5 174 7 (h5.1 151 36)) 151 46 (nI 1)) 151 41 (nI (qn q))) 151 43 (nI (qLn q + 1))).1 174 7 = h5.1 151 36 := by rw [sI_ne (by omega), sI_ne (by omega), sI_ne (by omega), sI_at]
  have k46 : (sI (sI (sI (sI h5 174 7 (h5.1 151 36)) 151 46 (nI 1)) 151 41 (nI (qn q))) 151 43 (nI (qLn q + 1))).1 151 46 = nI 1 := by rw [sI_ne (by omega), sI_ne (by omega), sI_at]
  have k41 : (sI (sI (sI (sI h5 174 7 (h5.1 151 36)) 151 46 (nI 1)) 151 41 (nI (qn q))) 151 43 (nI (qLn q + 1))).1 151 41 = nI (qn q) := by rw [sI_ne (by omega), sI_at]
  have k43 : (sI (sI (sI (sI h5 174 7 (h5.1 151 36)) 151 46 (nI 1)) 151 41 (nI (qn q))) 151 43 (nI (qLn q + 1))).1 151 43 = nI (qLn q + 1) := sI_at
  generalize sI (sI (sI (sI h5 174 7 (h5.1 151 36)) 151 46 (nI 1)) 151 41 (nI (qn q))) 151 43 (nI (qLn q + 1)) = h6 at *
  have F6 : Fz xRM lRM h h6 := F5.tr (g6.mono (fun a k q => by unfold xRM; omega) (fun _ _ q => q.elim))
  have hb6 := hb.m F6
  have sr : sRl (tks true n X) P i q = bd (gS (tks true n X) true P 100 0 0 (i + 1) (qu q)) fun r => bd (sTk (tks true n X) r.1 59) fun j => .ok (j, qBar q r) := by
    unfold sRl
    rw [if_pos hc, if_neg (by rw [hf]; decide)]
  rw [sr]
  have fl : ∀ e, Mf n e h5 → ∃ h', (clp (f_X12_is (nI 59) h6) fun v_25 => cl (f_X12_must v_25 h6) fun _ h_26 => some ((), h_26)) = some ((), h') ∧ Mf n e h' ∧ Fz xRM lRM h h' := by
    intro e me
    have me6 := me.fz g6 (fun k h1 h2 => by omega)
    obtain ⟨h7, t1, t2, t3, t4⟩ := m_tl (j := 0) (r := (.error e : Ex Unit)) hB hb6.1 me6
    exact ⟨h7, t1, t2, F6.tr (t4.mono xM_M lG_M)⟩
  cases eg : gS (tks true n X) true P 100 0 0 (i + 1) (qu q) with
  | error e =>
    rw [eg] at r5
    obtain ⟨h7, t1, t2, t3⟩ := fl e r5
    exact ⟨h7, t1, t2, t3⟩
  | ok r =>
    rw [eg] at r5
    have br := gS_B 100 0 0 _ _ r (by omega) eg
    rcases r5 with ⟨u5, p37, p36, pM⟩ | ⟨me, k59⟩
    · have u6 := u5.p g6 (fun k h1 h2 => by omega)
      obtain ⟨h7, t1, t2, t3, t4⟩ := m_tl (j := r.1) (r := (.ok () : Ex Unit)) hB hb6.1 u6
      refine ⟨h7, t1, ?_, F6.tr (t4.mono xM_M lG_M)⟩
      show Mrl n X N P i (bd (sTk (tks true n X) r.1 59) fun j => .ok (j, qBar q r)) h7
      cases es : sTk (tks true n X) r.1 59 with
      | error e =>
        have t2 : Mg (tks true n X) N n (r.1 + 1) (bd (sTk (tks true n X) r.1 59) fun _ => (.ok () : Ex Unit)) h7 := t2
        rw [es] at t2
        exact t2
      | ok j =>
        have t2 : Mg (tks true n X) N n (r.1 + 1) (bd (sTk (tks true n X) r.1 59) fun _ => (.ok () : Ex Unit)) h7 := t2
        rw [es] at t2
        obtain ⟨ej, -⟩ := sTk_ok es
        subst ej
        have lb := br.1
        have oQ : ∀ a k, ¬ xQ a k → ¬ ((a = 151 ∧ (k = 41 ∨ k = 43 ∨ k = 46 ∨ k = 47)) ∨ ((a = 173 ∨ a = 174) ∧ k = 7)) → h7.1 a k = h.1 a k := fun a k n1 n2 => by
          rw [t4.1 _ _ (fun z => n1 (xM_Q a k z)), g6.1 _ _ (by omega), f5.1 _ _ n1, g34.1 _ _ (by omega), q2' _ _ (fun z => n1 (xG_Q a k z))]
        refine ⟨t2, ⟨enc true r.2.2 ++ M, ?_, fun k hk => sgm_up (q2 k hk), fun f c ef => ?_, ?_, ?_, ?_, ?_, ?_, ?_, fun k hk => ?_, fun f c ef => ?_⟩, qBar_V hV eg, by show i + 3 ≤ r.1 + 1; omega⟩
        · show (enc true r.2.2 ++ M).length = (r.2.2 ++ qc q).length
          rw [List.length_append, List.length_append, enc_len, q1]
        · have ef : some ((qc q).length, r.2.2) = some (f, c) := ef
          cases ef
          rw [← q1]
          exact sgm_new
        · rw [t4.1 _ _ (by unfold xM; omega)]; exact k41
        · rw [t4.1 _ _ (by unfold xM; omega)]; exact k46
        · rw [t4.1 _ _ (by unfold xM; omega), k43]
          show nI (qLn q + 1) = nI (qn q + 1)
          unfold qLn
          rw [if_neg (by rw [hf]; decide)]
        · rw [t4.1 _ _ (by unfold xM; omega), g6.1 _ _ (by omega)]; exact p37
        · rw [t4.1 _ _ (by unfold xM; omega), g6.1 _ _ (by omega)]; exact p36
        · exact (pM.fz g6 (fun k _ _ => ⟨by omega, by omega⟩)).fz t4 (fun k _ _ => ⟨by unfold xM; omega, by unfold xM; omega⟩)
        · have := q10 k hk
          exact ⟨by rw [t4.2 _ _ (by unfold lG; omega), g6.2 _ _ id, f5.2 _ _ (by unfold lG; omega), g34.2 _ _ id, f2.2 _ _ (by unfold lG; omega)]; exact this.1, by rw [oQ _ _ (by unfold xQ; omega) (by omega)]; exact this.2.1, by rw [oQ _ _ (by unfold xQ; omega) (by omega)]; exact this.2.2⟩
        · have ef : some ((qc q).length, r.2.2) = some (f, c) := ef
          cases ef
          refine ⟨?_, ?_⟩
          · rw [t4.1 _ _ (by unfold xM; omega), g6.1 _ _ (by omega), f5.1 _ _ (by unfold xQ; omega), e173, q1]
          · rw [t4.1 _ _ (by unfold xM; omega), k174, p36, List.length_append, enc_len, q1]
            exact congrArg nI (by omega)
    · obtain ⟨h7, t1, t2, t3⟩ := fl _ me
      refine ⟨h7, t1, ?_, t3⟩
      show Mrl n X N P i (bd (sTk (tks true n X) r.1 59) fun j => .ok (j, qBar q r)) h7
      have es : sTk (tks true n X) r.1 59 = .error (flK (tks true n X) r.1 2, kS (tks true n X r.1)) := by unfold sTk; rw [if_neg k59]
      rw [es]
      exact t2
theorem sr_eq {T : Nat → Tk} {P i : Nat} {q : Rq} (hc : kC (T i) = 11) (h6 : qn q < 6) : sRl T P i q = bd (bd (qNm T (i + 1) q) fun _ => bd (sTk T (i + 1 + 1) 12) fun _ => (.ok () : Ex Unit)) fun _ => bd (gS T false P 100 0 0 (i + 3) (qu q)) fun r => bd (sTk T r.1 59) fun j => .ok (j, qSig q (kW (T (i + 1))) r) := by
  unfold sRl qNm
  rw [if_neg (by omega), if_pos hc, if_neg (by omega)]
  by_cases c : kC (T (i + 1)) = 24
  · rw [if_pos c, if_pos c]
    by_cases z : fnd (fun k => decide (qm q k = kW (T (i + 1)))) (qn q) 0 < qn q
    · rw [if_pos z, if_pos z, bd_er, bd_er]
      have : flK T (i + 1) 3 = 3 := by unfold flK; rw [if_neg (by omega)]
      rw [this]
    · rw [if_neg z, if_neg z]
      simp only [bd_as, bd_ok]
  · rw [if_neg c, if_neg c, bd_er, bd_er]
theorem tl46 {h : CH} {b : Bool} {o : CH → Option (Unit × CH)} (e : h.1 151 46 = bI b) : (if h.1 151 46 = 0 then wrG h 151 46 (nI 0) o else wrG h 151 46 (nI 1) o) = o h := by
  rw [e]
  cases b with
  | true => rw [if_neg (by decide), wrG_1, sI_id (by rw [e]; rfl)]
  | false => rw [if_pos (by decide), wrG_0, sI_id (by rw [e]; rfl)]
set_option maxHeartbeats 4000000 in
theorem m_rlS {n : Nat} {X : Nat → Nat} {N i P bk : Nat} {q : Rq} {M : Cd} {h : CH} (hB : TXN true n X N) (hP1 : 1 ≤ P) (hP : P ≤ 8) (hb : mBk n X bk P h) (u : Mu (tks true n X) N i h) (mq : mQ q M h) (hV : Vq P q) (hc : kC (tks true n X i) = 11) (h6 : qn q < 6) : ∃ h', f_X12_readRule h = some ((), h') ∧ Mrl n X N P i (sRl (tks true n X) P i q) h' ∧ Fz xRM lRM h h' := by
  obtain ⟨b1, e1, f1⟩ := m_isW (j := i) (h := h) hB.2.1 (fun _ g => k8_10 g) (by omega)
  obtain ⟨b2, e2, f2⟩ := m_isW (j := i) (h := h) hB.2.1 (fun _ g => k8_11 g) (by omega)
  have f1 := f1 u
  have f2 := f2 u
  obtain ⟨q1, q2, q3, q4, q5, q6, q7, q8, q9, q10, q11⟩ := mq
  have v1 := hV.1
  have v2 := hV.2.1
  have v3 := hV.2.2.1
  have z41 : (h.1 151 41 = nI 6) = False := by rw [q4, uI_inj (by omega) (by omega)]; exact eq_false (by omega)
  have zf : (bI false = 0) = True := zz0
  have zt : (bI true = 0) = False := zz1
  unfold f_X12_readRule
  rw [e1, clp_some, f1, decide_eq_false (by omega), e2, f2, decide_eq_true hc]
  simp only [jn_eq, z41, zf, zt, if_true, if_false, clp_some]
  rw [m_good1 u.2.1, clp_some, if_neg (by decide)]
  obtain ⟨li, h2, a2, u2, L2, f2⟩ := m_next hB hb.1 u (by unfold kLast; omega)
  have F2 : Fz xRM lRM h h2 := f2.mono (fun a k q => xM_M a k (xG_M a k q)) lG_M
  have q2' : ∀ a k, ¬ xG a k → h2.1 a k = h.1 a k := f2.1
  obtain ⟨h3, a3, g3, n3, L3, f3⟩ := m_signName hB L2 hV h6 u2 ⟨by rw [q2' _ _ (by unfold xG; omega)]; exact q4, fun k hk => by rw [f2.2 _ _ (by unfold lG; omega)]; exact (q10 k hk).1⟩
  have F3 : Fz xRM lRM h h3 := F2.tr (f3.mono xM_M (fun a k q => by
    rcases q with q | q
    · exact Or.inl q
    · exact Or.inr q.1))
  rw [a2, cl_some, a3, cl_some, sr_eq hc h6, q2' 151 41 (by unfold xG; omega), q4, uI_add]
  cases er : (bd (qNm (tks true n X) (i + 1) q) fun _ => bd (sTk (tks true n X) (i + 1 + 1) 12) fun _ => (.ok () : Ex Unit)) with
  | error e =>
    rw [er] at g3
    have g3 : Mf n e h3 := g3
    rw [m_good0 g3, clp_some, if_pos (by decide)]
    exact ⟨h3, rfl, g3, F3⟩
  | ok _ =>
    rw [er] at g3
    have u3 : Mu (tks true n X) N (i + 3) h3 := g3
    obtain ⟨y1, y2, y3⟩ := bd_inv er
    have n3 := n3 y2
    have o3 : ∀ a k, ¬ xM a k → h3.1 a k = h.1 a k := fun a k z => by rw [f3.1 _ _ z, q2' _ _ (fun y => z (xG_M a k y))]
    rw [m_good1 u3.2.1, clp_some, if_neg (by decide), wrG_b]
    have g4 : Fz (fun a k => a = 151 ∧ k = 47) (fun _ _ => False) h3 (sI h3 151 47 (bI false)) := Fz.sI ⟨rfl, rfl⟩
    rw [g4.1 151 36 (by omega), o3 151 36 (by unfold xM; omega), q8, wrA_nI (by omega) (by omega)]
    have g34 : Fz (fun a k => (a = 151 ∧ k = 47) ∨ (a = 173 ∧ k = 8 + qn q)) (fun _ _ => False) h3 (sI (sI h3 151 47 (bI false)) 173 (8 + qn q) (nI (400 + M.length))) := (g4.mono (fun _ _ q => Or.inl q) (fun _ _ q => q)).tr (Fz.sI (Or.inr ⟨rfl, rfl⟩))
    have e47 : (sI (sI h3 151 47 (bI false)) 173 (8 + qn q) (nI (400 + M.length))).1 151 47 = bI false := by rw [sI_ne (by omega), sI_at]
    have e173 : (sI (sI h3 151 47 (bI false)) 173 (8 + qn q) (nI (400 + M.length))).1 173 (8 + qn q) = nI (400 + M.length) := sI_at
    generalize sI (sI h3 151 47 (bI false)) 173 (8 + qn q) (nI (400 + M.length)) = h4 at *
    have F4 : Fz xRM lRM h h4 := F3.tr (g34.mono (fun a k q => by unfold xRM; omega) (fun _ _ q => q.elim))
    have hb4 := hb.m F4
    have u4 := u3.p g34 (fun k h1 h2 => by omega)
    have M4 : CMk 400 M h4 := ((q9.fz f2 (fun k _ _ => ⟨by unfold xG; omega, by unfold xG; omega⟩)).fz f3 (fun k _ _ => ⟨by unfold xM; omega, by unfold xM; omega⟩)).fz g34 (fun k _ _ => ⟨by omega, by omega⟩)
    obtain ⟨h5, a5, c5, f5, r5⟩ := m_e (bar := false) hB hP1 hP ⟨hb4.1, hb4.2.1, hb4.2.2.1, hb4.2.2.2, e47⟩ u4 (by rw [g34.1 _ _ (by omega), o3 _ _ (by unfold xM; omega)]; exact q7) (by rw [g34.1 _ _ (by omega), o3 _ _ (by unfold xM; omega)]; exact q8) M4 v2 (by omega)
    rw [a5, cl_some]
    have F5 : Fz xRM lRM h h5 := F4.tr (f5.mono xQ_M lG_M)
    have o5 : ∀ a k, ¬ xQ a k → ¬ ((a = 151 ∧ k = 47) ∨ (a = 173 ∧ k = 8 + qn q)) → h5.1 a k = h.1 a k := fun a k z1 z2 => by rw [f5.1 _ _ z1, g34.1 _ _ z2, o3 _ _ (fun y => z1 (xM_Q a k y))]
    rw [wrA_nI (by omega) (by omega), tl46 (b := (qb q).isSome) (by rw [sI_ne (by omega), o5 _ _ (by unfold xQ; omega) (by omega)]; exact q5), wrF_eq, wrF_eq]
    have w41 : (sI h5 174 (8 + qn q) (h5.1 151 36)).1 151 41 + nI 1 = nI (qn q + 1) := by rw [sI_ne (by omega), o5 _ _ (by unfold xQ; omega) (by omega), q4, uI_add]
    rw [w41]
    have w43 : (sI (sI h5 174 (8 + qn q) (h5.1 151 36)) 151 41 (nI (qn q + 1))).1 151 43 + nI 1 = nI (qLn q + 1) := by rw [sI_ne (by omega), sI_ne (by omega), o5 _ _ (by unfold xQ; omega) (by omega), q6, uI_add]
    rw [w43]
    have g6 : Fz (fun a k => (a = 174 ∧ k = 8 + qn q) ∨ (a = 151 ∧ (k = 41 ∨ k = 43))) (fun _ _ => False) h5 (sI (sI (sI h5 174 (8 + qn q) (h5.1 151 36)) 151 41 (nI (qn q + 1))) 151 43 (nI (qLn q + 1))) := ((Fz.sI (by omega)).tr (Fz.sI (by omega))).tr (Fz.sI (by omega))
    have k174 : (sI (sI (sI h5 174 (8 + qn q) (h5.1 151 36)) 151 41 (nI (qn q + 1))) 151 43 (nI (qLn q + 1))).1 174 (8 + qn q) = h5.1 151 36 := by rw [sI_ne (by omega), sI_ne (by omega), sI_at]
    have k41 : (sI (sI (sI h5 174 (8 + qn q) (h5.1 151 36)) 151 41 (nI (qn q + 1))) 151 43 (nI (qLn q + 1))).1 151 41 = nI (qn q + 1) := by rw [sI_ne (by omega), sI_at]
    have k43 : (sI (sI (sI h5 174 (8 + qn q) (h5.1 151 36)) 151 41 (nI (qn q + 1))) 151 43 (nI (qLn q + 1))).1 151 43 = nI (qLn q + 1) := sI_at
    generalize sI (sI (sI h5 174 (8 + qn q) (h5.1 151 36)) 151 41 (nI (qn q + 1))) 151 43 (nI (qLn q + 1)) = h6' at *
    have F6 : Fz xRM lRM h h6' := F5.tr (g6.mono (fun a k q => by unfold xRM; omega) (fun _ _ q => q.elim))
    have hb6 := hb.m F6
    have fl : ∀ e, Mf n e h5 → ∃ h', (clp (f_X12_is (nI 59) h6') fun v_25 => cl (f_X12_must v_25 h6') fun _ h_26 => some ((), h_26)) = some ((), h') ∧ Mf n e h' ∧ Fz xRM lRM h h' := by
      intro e me
      have me6 := me.fz g6 (fun k h1 h2 => by omega)
      obtain ⟨h7, t1, t2, t3, t4⟩ := m_tl (j := 0) (r := (.error e : Ex Unit)) hB hb6.1 me6
      exact ⟨h7, t1, t2, F6.tr (t4.mono xM_M lG_M)⟩
    show ∃ h', _ ∧ Mrl n X N P i (bd (gS (tks true n X) false P 100 0 0 (i + 3) (qu q)) fun r => bd (sTk (tks true n X) r.1 59) fun j => .ok (j, qSig q (kW (tks true n X (i + 1))) r)) h' ∧ _
    cases eg : gS (tks true n X) false P 100 0 0 (i + 3) (qu q) with
    | error e =>
      rw [eg] at r5
      obtain ⟨h7, t1, t2, t3⟩ := fl e r5
      exact ⟨h7, t1, t2, t3⟩
    | ok r =>
      rw [eg] at r5
      have br := gS_B 100 0 0 _ _ r (by omega) eg
      rcases r5 with ⟨u5, p37, p36, pM⟩ | ⟨me, k59⟩
      · have u6 := u5.p g6 (fun k h1 h2 => by omega)
        obtain ⟨h7, t1, t2, t3, t4⟩ := m_tl (j := r.1) (r := (.ok () : Ex Unit)) hB hb6.1 u6
        refine ⟨h7, t1, ?_, F6.tr (t4.mono xM_M lG_M)⟩
        show Mrl n X N P i (bd (sTk (tks true n X) r.1 59) fun j => .ok (j, qSig q (kW (tks true n X (i + 1))) r)) h7
        have t2 : Mg (tks true n X) N n (r.1 + 1) (bd (sTk (tks true n X) r.1 59) fun _ => (.ok () : Ex Unit)) h7 := t2
        cases es : sTk (tks true n X) r.1 59 with
        | error e => rw [es] at t2; exact t2
        | ok j =>
          rw [es] at t2
          obtain ⟨ej, -⟩ := sTk_ok es
          subst ej
          have lb := br.1
          have k24 : kC (tks true n X (i + 1)) = 24 := by
            unfold qNm at y2
            by_cases c24 : kC (tks true n X (i + 1)) = 24
            · exact c24
            · rw [if_neg c24] at y2; cases y2
          have gg := (hB.2.1.2.2.2.2 (i + 1) u2.1).2.2.2 (by omega)
          have oQ : ∀ a k, ¬ xQ a k → ¬ ((a = 151 ∧ (k = 41 ∨ k = 43 ∨ k = 47)) ∨ ((a = 173 ∨ a = 174) ∧ k = 8 + qn q)) → h7.1 a k = h.1 a k := fun a k n1 n2 => by
            rw [t4.1 _ _ (fun z => n1 (xM_Q a k z)), g6.1 _ _ (by omega), o5 _ _ n1 (by omega)]
          refine ⟨t2, ⟨enc false r.2.2 ++ M, ?_, fun k hk => ?_, fun f c ef => sgm_up (q3 f c ef), ?_, ?_, ?_, ?_, ?_, ?_, fun k hk => ?_, fun f c ef => ?_⟩, qSig_V hV h6 gg.1 eg, by show i + 3 ≤ r.1 + 1; omega⟩
          · show (enc false r.2.2 ++ M).length = (r.2.2 ++ qc q).length
            rw [List.length_append, List.length_append, enc_len, q1]
          · have hk : k < qn q + 1 := hk
            show sgm (enc false r.2.2 ++ M) (if k = qn q then (qc q).length else qf q k) (enc false (if k = qn q then r.2.2 else qk q k))
            by_cases e : k = qn q
            · rw [if_pos e, if_pos e, ← q1]; exact sgm_new
            · rw [if_neg e, if_neg e]; exact sgm_up (q2 k (by omega))
          · rw [t4.1 _ _ (by unfold xM; omega)]; exact k41
          · rw [oQ _ _ (by unfold xQ; omega) (by omega)]; exact q5
          · rw [t4.1 _ _ (by unfold xM; omega), k43]
            show nI (qLn q + 1) = nI (qn q + 1 + _)
            unfold qLn
            exact congrArg nI (by show qn q + (if (qb q).isSome = true then 1 else 0) + 1 = qn q + 1 + (if (qb q).isSome = true then 1 else 0); omega)
          · rw [t4.1 _ _ (by unfold xM; omega), g6.1 _ _ (by omega)]; exact p37
          · rw [t4.1 _ _ (by unfold xM; omega), g6.1 _ _ (by omega)]; exact p36
          · exact (pM.fz g6 (fun k _ _ => ⟨by omega, by omega⟩)).fz t4 (fun k _ _ => ⟨by unfold xM; omega, by unfold xM; omega⟩)
          · have hk : k < qn q + 1 := hk
            show _ = nL (w8 (if k = qn q then kW (tks true n X (i + 1)) else qm q k)) ∧ _ = nI (400 + (if k = qn q then (qc q).length else qf q k)) ∧ _ = nI (400 + (if k = qn q then (qc q).length else qf q k) + (if k = qn q then r.2.2 else qk q k).length)
            have oL : ∀ k, h7.2 175 k = h3.2 175 k := fun k => by rw [t4.2 _ _ (by unfold lG; omega), g6.2 _ _ id, f5.2 _ _ (by unfold lG; omega), g34.2 _ _ id]
            by_cases e : k = qn q
            · rw [if_pos e, if_pos e, if_pos e, e]
              refine ⟨by rw [oL]; exact n3, ?_, ?_⟩
              · rw [t4.1 _ _ (by unfold xM; omega), g6.1 _ _ (by omega), f5.1 _ _ (by unfold xQ; omega), e173, q1]
              · rw [t4.1 _ _ (by unfold xM; omega), k174, p36, List.length_append, enc_len, q1]
                exact congrArg nI (by omega)
            · rw [if_neg e, if_neg e, if_neg e]
              have := q10 k (by omega)
              exact ⟨by rw [oL, f3.2 _ _ (by unfold lG; omega), f2.2 _ _ (by unfold lG; omega)]; exact this.1, by rw [oQ _ _ (by unfold xQ; omega) (by omega)]; exact this.2.1, by rw [oQ _ _ (by unfold xQ; omega) (by omega)]; exact this.2.2⟩
          · have := q11 f c ef
            exact ⟨by rw [oQ _ _ (by unfold xQ; omega) (by omega)]; exact this.1, by rw [oQ _ _ (by unfold xQ; omega) (by omega)]; exact this.2⟩
      · obtain ⟨h7, t1, t2, t3⟩ := fl _ me
        refine ⟨h7, t1, ?_, t3⟩
        show Mrl n X N P i (bd (sTk (tks true n X) r.1 59) fun j => .ok (j, qSig q (kW (tks true n X (i + 1))) r)) h7
        have es : sTk (tks true n X) r.1 59 = .error (flK (tks true n X) r.1 2, kS (tks true n X r.1)) := by unfold sTk; rw [if_neg k59]
        rw [es]
        exact t2
