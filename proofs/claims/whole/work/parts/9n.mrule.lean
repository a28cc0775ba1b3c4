/-! the model reads an expression whole, a sign's name -/
set_option maxHeartbeats 4000000 in
theorem m_e {n : Nat} {X : Nat → Nat} {N bk P i u : Nat} {bar : Bool} {m : Cd} {h : CH} (hB : TXN true n X N) (hP1 : 1 ≤ P) (hP : P ≤ 8) (hc : Mc n X bk P bar h) (hu : Mu (tks true n X) N i h) (h37 : h.1 151 37 = nI u) (h36 : h.1 151 36 = nI (400 + m.length)) (hm : CMk 400 m h) (hu40 : u ≤ 40) (hml : m.length ≤ 9 * u) : ∃ h', f_X12_e h = some ((), h') ∧ Mc n X bk P bar h' ∧ Fz xQ lG h h' ∧ (match gS (tks true n X) bar P 100 0 0 i u with
    | .error e => Mf n e h'
    | .ok r => (Mu (tks true n X) N r.1 h' ∧ h'.1 151 37 = nI r.2.1 ∧ h'.1 151 36 = nI (400 + (enc bar r.2.2 ++ m).length) ∧ CMk 400 (enc bar r.2.2 ++ m) h') ∨ (Mf n (flK (tks true n X) r.1 2, kS (tks true n X r.1)) h' ∧ kC (tks true n X r.1) ≠ 59)) := by
  have hn := hB.1.1
  have hN := hB.2.1.2.2.1
  unfold f_X12_e
  rw [wrF_eq, wrF_eq]
  have g1 : Fz (fun a k => a = 151 ∧ (k = 38 ∨ k = 39)) (fun _ _ => False) h (sI (sI h 151 39 (nI 0)) 151 38 (nI 0)) := (Fz.sI (by omega)).tr (Fz.sI (by omega))
  have F1 : Fz xQ lG h (sI (sI h 151 39 (nI 0)) 151 38 (nI 0)) := g1.mono (fun a k q => by unfold xQ; omega) (fun _ _ q => q.elim)
  have p1 : Mp u 0 [] m (sI (sI h 151 39 (nI 0)) 151 38 (nI 0)) := by
    refine ⟨?_, sI_at, ?_, trivial, ?_, hm.fz g1 (fun k _ _ => ⟨by omega, by omega⟩)⟩
    · rw [g1.1 _ _ (by omega)]; exact h37
    · rw [sI_ne (by omega), sI_at]; rfl
    · rw [g1.1 _ _ (by omega)]; exact h36
  have u1 := hu.p g1 (fun k h1 h2 => by omega)
  generalize sI (sI h 151 39 (nI 0)) 151 38 (nI 0) = h1 at *
  obtain ⟨h2, e2, p2, f2⟩ := m_push (a := 8) (b := 0) p1 (by decide)
  have F2 : Fz xQ lG h h2 := F1.tr (f2.mono (fun a k q => by unfold xQ; omega) (fun _ _ q => q.elim))
  have u2 := u1.p f2 (fun k h1 h2 => by omega)
  have c2 := hc.q F2
  rw [e2, cl_some]
  have hg := m_gm hB hP1 hP 100 0 0 (by omega) (by omega) (by omega) i u (8, 0) [] m h2 ⟨u2, c2, p2, fun p hp => by rw [List.mem_singleton.1 hp]; show 8 < 9; omega, Or.inl rfl, Or.inl (by show 6 < 8; omega), fun z => by omega, hu40, by omega, by decide, hml⟩
  cases eg : gS (tks true n X) bar P 100 0 0 i u with
  | error e =>
    rw [eg] at hg
    obtain ⟨c, h', k1, k2, k3, k4, k5⟩ := hg
    refine ⟨h', ?_, k3, F2.tr k4, k2⟩
    have := k1 (FU - c)
    rw [show FU - c + c = FU from by show 100000 - c + c = 100000; omega] at this
    exact this
  | ok r =>
    rw [eg] at hg
    obtain ⟨pd, m', c, h3, s3, gb, l3, xt, f3⟩ := hg
    obtain ⟨b1, b2, b3, b4, b5, b6, b7⟩ := gb
    have b6 : pd.length ≤ 5 + nots pd := b6
    have br := gS_B 100 0 0 _ _ r (by omega) eg
    have lr := gB_len br (C := m) hml
    have lN := b1.1
    have r40 := br.2.2.1
    have l90 : (pd ++ [(8, 0)]).length ≤ 90 := by rw [List.length_append]; show pd.length + 1 ≤ 90; omega
    have l0 : 0 < (pd ++ [(8, 0)]).length := by rw [List.length_append]; show 0 < pd.length + 1; omega
    have lf : pd.length + m'.length ≤ 9 * r.2.1 := by
      have := congrArg List.length b4
      rw [flm_len, List.length_append, enc_len] at this
      rw [List.length_append] at lr
      omega
    have t9 : ∀ p ∈ pd ++ [(8, 0)], p.1 < 9 := fun p hp => by
      rcases List.mem_append.1 hp with z | z
      · have := b5 p z; omega
      · rw [List.mem_singleton.1 z]; show 8 < 9; omega
    have e3 : f_X12_e_L19 FU (nI 1) h2 = f_X12_e_L19 (99998 - c + 1 + 1) (nI 0) h3 := by
      have := s3 (99998 - c + 1 + 1)
      rw [show 99998 - c + 1 + 1 + c = FU from by show 99998 - c + 1 + 1 + c = 100000; omega] at this
      exact this
    rw [e3, e_b b1 b3 l0 l90]
    by_cases cr : kC (tks true n X r.1) = 60 ∨ kC (tks true n X r.1) = 61 ∨ kC (tks true n X r.1) = 62
    · have hcm := xt.2.2.1 (by omega) cr
      have hr4 : rkH (kC (tks true n X r.1)) = 4 := by rcases cr with z | z | z <;> rw [z] <;> rfl
      obtain ⟨h4, q1, q2, q3⟩ := m_cmpE hB b2 b1 b3 hr4 hcm (btm_app (Or.inl rfl)) t9 l90 l0
      exact ⟨h4, by rw [q1, cl_some, e_f q2], b2.q q3, (F2.tr f3).tr q3, Or.inr ⟨q2, by omega⟩⟩
    · have hr0 : rkH (kC (tks true n X r.1)) = 0 := by
        have x1 := xt.1 (by omega)
        have x2 := xt.2.1 (by omega)
        have x3 := xt.2.2.2.1 (by omega)
        have x4 := xt.2.2.2.2 rfl
        unfold rkH
        rw [if_neg x3, if_neg x4, if_neg (fun z => cr (Or.inl z)), if_neg (fun z => cr (Or.inr (Or.inr z))), if_neg (fun z => cr (Or.inr (Or.inl z))), if_neg x2.1, if_neg x2.2, if_neg x1]
      obtain ⟨h4, q1, q2, q3, q4, -⟩ := m_clo hB b2 b1 b3 hr0 (Or.inr rfl) (fun p hp => (b5 p hp).2) (by omega) (fun z => absurd z (by decide)) (by omega) l90
      obtain ⟨q5, q6⟩ := q4 rfl
      rw [b4] at q6
      obtain ⟨d1, d2, d3, d4, d5, d6⟩ := q6
      refine ⟨h4, ?_, q2, (F2.tr f3).tr q3, Or.inl ⟨q5, d1, d5, d6⟩⟩
      rw [q1, cl_some]
      conv => lhs; unfold f_X12_e_L19
      rw [m_good1 q5.2.1, clp_some, if_neg (by decide), d3, if_neg (by decide)]
def m_nmT (h : CH) : Option (Unit × CH) := wrL h 175 6 (h.1 151 41) (h.2 151 10) fun h_4 => jn (fun (s_5 : Int32) => cl (f_X12_must s_5 h_4) fun _ h_7 => clp (f_X12_isWord 2003330414 h_7) fun v_8 => cl (f_X12_must v_8 h_7) fun _ h_9 => some ((), h_9)) fun (j_6 : Int32 → Option (Unit × CH)) => (if h_4.1 151 8 = nI 2 then j_6 (nI 1) else j_6 (nI 0))
def qNm (T : Nat → Tk) (i : Nat) (q : Rq) : Ex Unit := if kC (T i) = 24 then (if fnd (fun k => decide (qm q k = kW (T i))) (qn q) 0 < qn q then .error (3, kS (T i)) else .ok ()) else .error (flK T i 2, kS (T i))
/-- the names so far -/
def Mnm (q : Rq) (h : CH) : Prop := h.1 151 41 = nI (qn q) ∧ ∀ k, k < qn q → h.2 175 k = nL (w8 (qm q k))
theorem m_sgL {n : Nat} {X : Nat → Nat} {N i P : Nat} {q : Rq} (hB : TXN true n X N) (hV : Vq P q) (hc : kC (tks true n X i) = 24) : ∀ m x g h, x + m = qn q → m < g → Mu (tks true n X) N i h → Mnm q h → ∃ h', f_X12_readSignName_L14 g (nI x) h = m_nmT h' ∧ Mg (tks true n X) N n i (if fnd (fun k => decide (qm q k = kW (tks true n X i))) m x < qn q then .error (3, kS (tks true n X i)) else .ok () : Ex Unit) h' ∧ Fz xM lG h h' := by
  have h6 := hV.1
  intro m
  induction m with
  | zero =>
    intro x g h hx hg u c
    obtain ⟨g, rfl⟩ : ∃ y, g = y + 1 := ⟨g - 1, by omega⟩
    refine ⟨h, ?_, ?_, Fz.rf⟩
    · conv => lhs; unfold f_X12_readSignName_L14
      rw [jn_eq, c.1, if_neg (by rw [uI_lt (by omega) (by omega)]; omega)]
      unfold m_nmT
      rw [c.1]
    · rw [if_neg (by show ¬ x < qn q; omega)]; exact u
  | succ m ih =>
    intro x g h hx hg u c
    obtain ⟨g, rfl⟩ : ∃ y, g = y + 1 := ⟨g - 1, by omega⟩
    have gg := (hB.2.1.2.2.2.2 i u.1).2.2.2 (by omega)
    have e := lg8 (hV.2.2.2.1 x (by omega)).1 gg.1
    have en : h.2 151 10 = nL (w8 (kW (tks true n X i))) := u.2.2.2.2.2.2.2 (by omega)
    by_cases z : qm q x = kW (tks true n X i)
    · obtain ⟨h', g1, g2, g3⟩ := m_fails1 hB.2.1 u (show 1 ≤ 3 by omega) (by omega)
      obtain ⟨g, rfl⟩ : ∃ y, g = y + 1 := ⟨g - 1, by omega⟩
      refine ⟨h', ?_, ?_, g3⟩
      · conv => lhs; unfold f_X12_readSignName_L14
        rw [jn_eq, c.1, if_pos (by rw [uI_lt (by omega) (by omega)]; omega), m_good1 u.2.1, clp_some, if_neg (by decide), rdL_nI (by omega) (by omega), c.2 x (by omega), en, jn_eq, if_pos (e.mpr z), g1, cl_some]
        dsimp only
        conv => lhs; unfold f_X12_readSignName_L14
        rw [jn_eq, m_good0 g2, clp_some, if_pos (show nI 0 = 0 by decide)]
        unfold m_nmT
        split <;> rfl
      · unfold fnd
        rw [if_pos (show (decide (qm q x = kW (tks true n X i))) = true from decide_eq_true z), if_pos (by omega)]
        exact g2
    · obtain ⟨h', g1, g2, g3⟩ := ih (x + 1) g h (by omega) (by omega) u c
      refine ⟨h', ?_, ?_, g3⟩
      · conv => lhs; unfold f_X12_readSignName_L14
        rw [jn_eq, c.1, if_pos (by rw [uI_lt (by omega) (by omega)]; omega), m_good1 u.2.1, clp_some, if_neg (by decide), rdL_nI (by omega) (by omega), c.2 x (by omega), en, jn_eq, if_neg (fun y => z (e.mp y)), uI_add]
        exact g1
      · unfold fnd
        rw [if_neg (show ¬ (decide (qm q x = kW (tks true n X i))) = true from by simp [z])]
        exact g2
theorem m_signName {n : Nat} {X : Nat → Nat} {N i P : Nat} {q : Rq} {h : CH} (hB : TXN true n X N) (hL : Mx true n X h) (hV : Vq P q) (h6 : qn q < 6) (u : Mu (tks true n X) N i h) (c : Mnm q h) : ∃ h', f_X12_readSignName h = some ((), h') ∧ Mg (tks true n X) N n (i + 2) (bd (qNm (tks true n X) i q) fun _ => bd (sTk (tks true n X) (i + 1) 12) fun _ => .ok ()) h' ∧ (qNm (tks true n X) i q = .ok () → h'.2 175 (qn q) = nL (w8 (kW (tks true n X i)))) ∧ Mx true n X h' ∧ Fz xM (fun a k => lG a k ∨ (a = 175 ∧ k = qn q)) h h' := by
  unfold f_X12_readSignName
  have st : ∃ h1, (∀ J : CH → Option (Unit × CH), (∀ g, J g = f_X12_readSignName_L14 FU (nI 0) g) → (jn J fun (j_2 : CH → Option (Unit × CH)) => (if h.1 151 8 = nI 2 then j_2 h else cl (f_X12_misplaced h) fun _ h_20 => j_2 h_20)) = m_nmT h1) ∧ Mg (tks true n X) N n i (qNm (tks true n X) i q) h1 ∧ Fz xM lG h h1 := by
    unfold qNm
    have x2 : (h.1 151 8 = nI 2) = (kC (tks true n X i) = 24) := by rw [u.2.2.2.2.2.1, ktq_of (by omega), ktq_2]
    by_cases c24 : kC (tks true n X i) = 24
    · obtain ⟨h1, k1, k2, k3⟩ := m_sgL hB hV c24 (qn q) 0 FU h (by omega) (by show _ < 100000; omega) u c
      refine ⟨h1, fun J hJ => ?_, by rw [if_pos c24]; exact k2, k3⟩
      rw [jn_eq, if_pos (by rw [x2]; exact c24), hJ, k1]
    · obtain ⟨h1, g1, g2, g3⟩ := m_mis1 hB.2.1 u
      refine ⟨h1, fun J hJ => ?_, by rw [if_neg c24]; exact g2, g3⟩
      rw [jn_eq, if_neg (by rw [x2]; exact c24), g1, cl_some, hJ]
      show f_X12_readSignName_L14 (99999 + 1) (nI 0) h1 = m_nmT h1
      conv => lhs; unfold f_X12_readSignName_L14
      rw [jn_eq, m_good0 g2, clp_some, if_pos (show nI 0 = 0 by decide)]
      unfold m_nmT
      split <;> rfl
  obtain ⟨h1, a1, g1, f1⟩ := st
  rw [a1 _ (fun g => rfl)]
  have L1 := hL.fz f1 (by unfold xM; omega) (by unfold xM; omega) (by intro k; unfold xM; omega)
  unfold m_nmT
  rw [f1.1 151 41 (by unfold xM; omega), c.1, wrL_nI (by omega) (by omega)]
  have k2 : Fz (fun _ _ => False) (fun a k => a = 175 ∧ k = qn q) h1 (sL h1 175 (qn q) (h1.2 151 10)) := Fz.sL ⟨rfl, rfl⟩
  have e175 : (sL h1 175 (qn q) (h1.2 151 10)).2 175 (qn q) = h1.2 151 10 := by rw [sL_2, if_pos ⟨rfl, rfl⟩]
  generalize sL h1 175 (qn q) (h1.2 151 10) = h2 at *
  have G2 := g1.fz k2 (by intro k h1 h2; exact id) (by omega)
  have L2 := L1.fz k2 id id (fun _ => id)
  have jb : ∀ J : Int32 → Option (Unit × CH), (jn J fun (j_6 : Int32 → Option (Unit × CH)) => (if h2.1 151 8 = nI 2 then j_6 (nI 1) else j_6 (nI 0))) = J (bI (decide (h2.1 151 8 = nI 2))) := by
    intro J
    rw [jn_eq]
    by_cases c : h2.1 151 8 = nI 2
    · rw [if_pos c, decide_eq_true c]; rfl
    · rw [if_neg c, decide_eq_false c]; rfl
  rw [jb]
  obtain ⟨h3, a3, g3, L3, f3⟩ := m_must (k := 24) hB L2 G2 (b := decide (h2.1 151 8 = nI 2)) (fun u2 => by
    have : (h2.1 151 8 = nI 2) = (kC (tks true n X i) = 24) := by rw [u2.2.2.2.2.2.1, ktq_of (by omega), ktq_2]
    exact decide_eq_decide.2 (by rw [this])) (by omega) (by omega)
  rw [a3, cl_some]
  obtain ⟨bw, bw1, bw2⟩ := m_isW (j := i + 1) (h := h3) hB.2.1 (fun _ g => k8_12 g) (by omega)
  obtain ⟨h4, a4, g4, L4, f4⟩ := m_must (k := 12) hB L3 g3 bw2 (by omega) (by omega)
  rw [bw1, clp_some, a4, cl_some]
  refine ⟨h4, rfl, ?_, fun eq => ?_, L4, ((f1.mono (fun _ _ q => q) (fun _ _ q => Or.inl q)).tr (k2.mono (fun _ _ q => q.elim) (fun _ _ q => Or.inr q))).tr ((f3.tr f4).mono (fun _ _ q => q) (fun _ _ q => Or.inl q))⟩
  · have e : (bd (bd (qNm (tks true n X) i q) fun a => bd (sTk (tks true n X) i 24) fun _ => (.ok a : Ex Unit)) fun a => bd (sTk (tks true n X) (i + 1) 12) fun _ => (.ok a : Ex Unit)) = bd (qNm (tks true n X) i q) fun _ => bd (sTk (tks true n X) (i + 1) 12) fun _ => .ok () := by
      unfold qNm
      by_cases c24 : kC (tks true n X i) = 24
      · have : sTk (tks true n X) i 24 = .ok (i + 1) := by unfold sTk; rw [if_pos c24]
        rw [if_pos c24, this]
        split <;> rfl
      · rw [if_neg c24]; rfl
    rw [← e]
    exact g4
  · rw [f4.2 _ _ (by unfold lG; omega), f3.2 _ _ (by unfold lG; omega), e175]
    rw [eq] at g1
    have u1 : Mu (tks true n X) N i h1 := g1
    have k24 : kC (tks true n X i) = 24 := by
      unfold qNm at eq
      by_cases c24 : kC (tks true n X i) = 24
      · exact c24
      · rw [if_neg c24] at eq; cases eq
    exact u1.2.2.2.2.2.2.2 (by omega)
