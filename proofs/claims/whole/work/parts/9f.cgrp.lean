/-! the class reads expressions: all parts -/
theorem c_readVal {T : Nat → Tk} {N i n u P v : Nat} {bar : Bool} {C : Cd} {h0 h : CH} (hT : TG n T N) (s : Sq T N bar P i u C h) (hF : Fz xE lP h0 h) (nl : ¬ kLast (T i)) (hl : C.length < 800) (hv : v < 2147483648) : CO xE lP h0 (f_X6_readValue (nI v) h) (.ok (i + 1, u, [(1, v)]) : Ex Gr) (fun r h' => Sq T N bar P r.1 r.2.1 (r.2.2 ++ C) h') := by
  unfold f_X6_readValue
  rw [if_neg (by rw [uI_ne1 hv]; exact id)]
  obtain ⟨h4, e4, s4, hF4⟩ := c_put63 (a := 1) (b := v) s hF hl
  rw [e4, cl_some]
  refine CO.step hT s4.1 nl hF4 xP_E lP_E (fun h2 hi2 u2 g2 hF2 => ?_)
  exact ⟨h2, rfl, s4.st u2 g2, hF2⟩
theorem c_val (bar : Bool) {T : Nat → Tk} {N i n u P : Nat} {C : Cd} {h : CH} (hT : TG n T N) (s : Sq T N bar P i u C h) : ∃ x, (∀ J : Int32 → Option (Int32 × CH), (if h.1 194 3 = 0 then clp (f_X6_signValueHere h) fun v_17 => J v_17 else clp (f_X6_barValueHere h) fun v_18 => J v_18) = J x) ∧ (match vlH bar (kC (T i)) with
    | none => x = -1
    | some v => x = nI v ∧ v < 4 ∧ ¬ kLast (T i)) := by
  have hc := kC_lt hT s.1.2.1
  have y : ∀ k, k < 100 → (nI (kC (T i)) = nI k) = (kC (T i) = k) := fun k hk => uI_inj (by omega) (by omega)
  unfold f_X6_signValueHere f_X6_barValueHere vlH
  rw [s.2.2.2.1, s.1.2.2.2.1]
  simp only [y 2 (by omega), y 13 (by omega), y 14 (by omega), y 15 (by omega), y 16 (by omega), y 17 (by omega), y 18 (by omega), y 19 (by omega)]
  cases bar with
  | true =>
    rw [if_pos rfl]
    by_cases c1 : kC (T i) = 2
    · refine ⟨nI 1, fun J => by rw [if_neg (by decide), if_pos c1, clp_some], ?_⟩
      rw [if_pos c1]; exact ⟨rfl, by omega, by unfold kLast; omega⟩
    by_cases c2 : kC (T i) = 13
    · refine ⟨nI 0, fun J => by rw [if_neg (by decide), if_neg c1, if_pos c2, clp_some], ?_⟩
      rw [if_neg c1, if_pos c2]; exact ⟨rfl, by omega, by unfold kLast; omega⟩
    by_cases c3 : kC (T i) = 14
    · refine ⟨nI 2, fun J => by rw [if_neg (by decide), if_neg c1, if_neg c2, if_pos c3, clp_some], ?_⟩
      rw [if_neg c1, if_neg c2, if_pos c3]; exact ⟨rfl, by omega, by unfold kLast; omega⟩
    by_cases c4 : kC (T i) = 15
    · refine ⟨nI 3, fun J => by rw [if_neg (by decide), if_neg c1, if_neg c2, if_neg c3, if_pos c4, clp_some], ?_⟩
      rw [if_neg c1, if_neg c2, if_neg c3, if_pos c4]; exact ⟨rfl, by omega, by unfold kLast; omega⟩
    refine ⟨-1, fun J => by rw [if_neg (by decide), if_neg c1, if_neg c2, if_neg c3, if_neg c4, clp_some], ?_⟩
    rw [if_neg c1, if_neg c2, if_neg c3, if_neg c4]
  | false =>
    rw [if_neg (show ¬ (false = true) by decide)]
    by_cases c1 : kC (T i) = 16
    · refine ⟨nI 0, fun J => by rw [if_pos (by decide), if_pos c1, clp_some], ?_⟩
      rw [if_pos c1]; exact ⟨rfl, by omega, by unfold kLast; omega⟩
    by_cases c2 : kC (T i) = 17
    · refine ⟨nI 1, fun J => by rw [if_pos (by decide), if_neg c1, if_pos c2, clp_some], ?_⟩
      rw [if_neg c1, if_pos c2]; exact ⟨rfl, by omega, by unfold kLast; omega⟩
    by_cases c3 : kC (T i) = 18
    · refine ⟨nI 2, fun J => by rw [if_pos (by decide), if_neg c1, if_neg c2, if_pos c3, clp_some], ?_⟩
      rw [if_neg c1, if_neg c2, if_pos c3]; exact ⟨rfl, by omega, by unfold kLast; omega⟩
    by_cases c4 : kC (T i) = 19
    · refine ⟨nI 3, fun J => by rw [if_pos (by decide), if_neg c1, if_neg c2, if_neg c3, if_pos c4, clp_some], ?_⟩
      rw [if_neg c1, if_neg c2, if_neg c3, if_pos c4]; exact ⟨rfl, by omega, by unfold kLast; omega⟩
    refine ⟨-1, fun J => by rw [if_pos (by decide), if_neg c1, if_neg c2, if_neg c3, if_neg c4, clp_some], ?_⟩
    rw [if_neg c1, if_neg c2, if_neg c3, if_neg c4]
set_option maxHeartbeats 4000000 in
theorem c_grp {T : Nat → Tk} {N nn P : Nat} {bar : Bool} (hT : TG nn T N) (hP1 : 1 ≤ P) (hP : P ≤ 8) : ∀ n k w, k ≤ 7 → w ≤ 7 → 8 * (7 - w) + (8 - k) ≤ n → GP T N bar P n k w := by
  intro n
  induction n with
  | zero => intro k w hk hw h; omega
  | succ n ih =>
    intro k w hk hw hn i u C h0 h h7 hu hC s hF
    have hc := kC_lt hT s.1.2.1
    have y : ∀ k, k < 100 → (nI (kC (T i)) = nI k) = (kC (T i) = k) := fun k hk => uI_inj (by omega) (by omega)
    have y6 : (nI 6 < nI w) = (6 < w) := uI_lt (by omega) (by omega)
    unfold f_grp gS
    by_cases k0 : k = 0
    · rw [if_pos k0, if_pos k0]
      unfold b_X6_readE
      have g := ih 1 w (by omega) hw (by omega)
      refine CO.bie (g i u C h0 h (fun z => by omega) hu hC s hF) (fun r h2 er s2 hF2 => ?_)
      have b := gS_B n 1 w i u r hw er
      have lb := gB_len b hC
      rw [List.length_append] at lb
      exact c_lpE hT hw g 40 0 FU r h2 (by omega) (by show _ < 100000; omega) (by omega) b.2.2.1 s2 hF2
    rw [if_neg k0, if_neg k0]
    by_cases k1 : k = 1
    · rw [if_pos k1, if_pos k1]
      unfold b_X6_readBoth
      have g := ih 2 w (by omega) hw (by omega)
      refine CO.bie (g i u C h0 h (fun z => by omega) hu hC s hF) (fun r h2 er s2 hF2 => ?_)
      have b := gS_B n 2 w i u r hw er
      have lb := gB_len b hC
      rw [List.length_append] at lb
      exact c_lpBoth hT hw g 40 0 FU r h2 (by omega) (by show _ < 100000; omega) (by omega) b.2.2.1 s2 hF2
    rw [if_neg k1, if_neg k1]
    by_cases k2 : k = 2
    · rw [if_pos k2, if_pos k2]
      unfold b_X6_readOne
      rw [s.1.2.2.2.1]
      simp only [y 23 (by omega), y6]
      by_cases c : kC (T i) = 23
      · rw [if_pos c, if_pos c]
        by_cases cw : 6 < w
        · rw [if_pos cw, if_pos cw]
          exact c_erR hT s.1 hF 2 _
        · rw [if_neg cw, if_neg cw, uI_add]
          refine CO.step hT s.1 (by unfold kLast; omega) hF xP_E lP_E (fun h2 hi2 u2 g2 hF2 => ?_)
          have s2 := s.st u2 g2
          have g := ih 2 (w + 1) (by omega) (by omega) (by omega)
          refine CO.bie (g (i + 1) u C h0 h2 (fun z => by omega) hu hC s2 hF2) (fun r h3 er s3 hF3 => ?_)
          have b := gS_B n 2 (w + 1) (i + 1) u r (by omega) er
          have lb := gB_len b hC
          obtain ⟨h4, e4, s4, hF4⟩ := c_put63 (a := 2) (b := 0) s3 hF3 (by have := b.2.2.1; omega)
          rw [e4, cl_some]
          exact ⟨h4, rfl, s4, hF4⟩
      · rw [if_neg c, if_neg c]
        exact (ih 3 w (by omega) hw (by omega) i u C h0 h (fun z => by omega) hu hC s hF).last
    rw [if_neg k2, if_neg k2]
    by_cases k3 : k = 3
    · rw [if_pos k3, if_pos k3]
      unfold b_X6_readRelation
      have g := ih 4 w (by omega) hw (by omega)
      refine CO.bie (g i u C h0 h (fun z => by omega) hu hC s hF) (fun r h2 er s2 hF2 => ?_)
      have b := gS_B n 4 w i u r hw er
      have lb := gB_len b hC
      have hc2 := kC_lt hT s2.1.2.1
      have y2 : ∀ k, k < 100 → (nI (kC (T r.1)) = nI k) = (kC (T r.1) = k) := fun k hk => uI_inj (by omega) (by omega)
      have go : ∀ a, a < 100 → ¬ kLast (T r.1) → CO xE lP h0 (if nI a = -1 then some (nI 1, h2) else cl (f_X8_step h2) fun _ h_6 => cl (f_grp n 4 (nI w) h_6) fun v_7 h_8 => (if v_7 = 0 then some (nI 0, h_8) else cl (f_X5_put_63 (nI a) (nI 0) h_8) fun _ h_10 => some (nI 1, h_10))) (bd (gS T bar P n 4 w (r.1 + 1) r.2.1) fun q => .ok (q.1, q.2.1, (a, 0) :: (q.2.2 ++ r.2.2))) (fun r h' => Sq T N bar P r.1 r.2.1 (r.2.2 ++ C) h') := by
        intro a ha nl
        rw [if_neg (by rw [uI_ne1 (by omega)]; exact id)]
        refine CO.step hT s2.1 nl hF2 xP_E lP_E (fun h3 hi3 u3 g3 hF3 => ?_)
        have s3 := s2.st u3 g3
        refine CO.bie (g (r.1 + 1) r.2.1 (r.2.2 ++ C) h0 h3 (fun z => by omega) b.2.2.1 (by omega) s3 hF3) (fun q h4 eq s4 hF4 => ?_)
        have bq := gS_B n 4 w _ _ q hw eq
        have lq := gB_len bq (C := r.2.2 ++ C) (by omega)
        obtain ⟨h5, e5, s5, hF5⟩ := c_put63 (a := a) (b := 0) s4 hF4 (by have := bq.2.2.1; omega)
        rw [e5, cl_some]
        have le : (a, 0) :: (q.2.2 ++ (r.2.2 ++ C)) = ((a, 0) :: (q.2.2 ++ r.2.2)) ++ C := by rw [List.cons_append, List.append_assoc]
        rw [le] at s5
        exact ⟨h5, rfl, s5, hF5⟩
      unfold f_X6_relationHere rlH
      rw [s2.1.2.2.2.1]
      simp only [y2 60 (by omega), y2 61 (by omega), y2 62 (by omega)]
      by_cases c1 : kC (T r.1) = 60
      · simp only [if_pos c1, clp_some]
        exact go 6 (by omega) (by unfold kLast; omega)
      by_cases c2 : kC (T r.1) = 61
      · simp only [if_neg c1, if_pos c2, clp_some]
        exact go 8 (by omega) (by unfold kLast; omega)
      by_cases c3 : kC (T r.1) = 62
      · simp only [if_neg c1, if_neg c2, if_pos c3, clp_some]
        exact go 7 (by omega) (by unfold kLast; omega)
      simp only [if_neg c1, if_neg c2, if_neg c3, clp_some]
      rw [if_pos trivial]
      exact ⟨h2, rfl, s2, hF2⟩
    rw [if_neg k3, if_neg k3]
    by_cases k4 : k = 4
    · rw [if_pos k4, if_pos k4]
      unfold b_X6_readSum
      have g := ih 5 w (by omega) hw (by omega)
      refine CO.bie (g i u C h0 h (fun z => by omega) hu hC s hF) (fun r h2 er s2 hF2 => ?_)
      have b := gS_B n 5 w i u r hw er
      have lb := gB_len b hC
      rw [List.length_append] at lb
      exact c_lpSum hT hw g 40 0 FU r h2 (by omega) (by show _ < 100000; omega) (by omega) b.2.2.1 s2 hF2
    rw [if_neg k4, if_neg k4]
    by_cases k5 : k = 5
    · rw [if_pos k5, if_pos k5]
      unfold b_X6_readTerm
      have g := ih 6 w (by omega) hw (by omega)
      refine CO.bie (g i u C h0 h (fun z => by omega) hu hC s hF) (fun r h2 er s2 hF2 => ?_)
      have b := gS_B n 6 w i u r hw er
      have lb := gB_len b hC
      rw [List.length_append] at lb
      exact c_lpTerm hT hw g 40 0 FU r h2 (by omega) (by show _ < 100000; omega) (by omega) b.2.2.1 s2 hF2
    rw [if_neg k5, if_neg k5]
    by_cases k6 : k = 6
    · rw [if_pos k6, if_pos k6]
      unfold b_X6_readUnit
      by_cases cu : 40 ≤ u
      · rw [if_pos cu]
        rw [s.2.2.2.2.2.1, if_neg (by rw [uI_lt (by omega) (by omega)]; omega)]
        exact c_erR hT s.1 hF 2 _
      rw [if_neg cu, s.2.2.2.2.2.1, if_pos (by rw [uI_lt (by omega) (by omega)]; omega), wrF_eq, uI_add]
      have gF : Fz (fun a k => a = 63 ∧ k = 1) (fun _ _ => False) h (sI h 63 1 (nI (u + 1))) := Fz.sI ⟨rfl, rfl⟩
      have s1 : Sq T N bar P i (u + 1) C (sI h 63 1 (nI (u + 1))) := by
        obtain ⟨z0, z1, z2, z3, z4, z5, z6, z7⟩ := s
        refine ⟨z0.fz gF (by intro k hk; omega) (by intro c; omega) (by intro c; omega) (by intro c; exact id) id, ?_, ?_, ?_, ?_, sI_at, ?_, z7.fz gF (fun k _ => ⟨by omega, by omega⟩)⟩
        · rw [gF.1 _ _ (by omega)]; exact z1
        · rw [gF.1 _ _ (by omega)]; exact z2
        · rw [gF.1 _ _ (by omega)]; exact z3
        · rw [gF.1 _ _ (by omega)]; exact z4
        · rw [gF.1 _ _ (by omega)]; exact z6
      have hF1 : Fz xE lP h0 (sI h 63 1 (nI (u + 1))) := hF.tr (gF.mono (fun a k q => by unfold xE; omega) (fun _ _ q => q.elim))
      generalize sI h 63 1 (nI (u + 1)) = h1 at *
      rw [s1.1.2.2.2.1]
      simp only [y 20 (by omega), y 25 (by omega), y 40 (by omega)]
      by_cases c1 : kC (T i) = 20
      · rw [if_pos c1, if_pos c1]
        refine CO.last ?_
        unfold f_X6_readAt
        rw [s1.2.2.2.1]
        cases hb : bar with
        | true =>
          rw [if_neg (by decide), if_pos rfl]
          exact c_erR hT s1.1 hF1 2 _
        | false =>
          subst hb
          rw [if_pos (by decide), if_neg (by decide)]
          refine CO.step hT s1.1 (by unfold kLast; omega) hF1 xP_E lP_E (fun h2 hi2 u2 g2 hF2 => ?_)
          have s2 := s1.st u2 g2
          rw [s2.2.2.2.2.1, uI_sub hP1]
          refine CO.bie (c_nmR hT s2.1 hF2 (by omega) (by omega)) (fun v h3 ev p hF3 => ?_)
          obtain ⟨rfl, p1, p2, p3, p4, p5⟩ := p
          rw [p3, uI_add]
          exact CO.bie (f := fun r => .ok r) (c_readVal hT s2 hF2 (by unfold kLast; omega) (by omega) (by omega)) (fun r h' _ p hF => ⟨h', rfl, p, hF⟩)
      rw [if_neg c1, if_neg c1]
      by_cases c2 : kC (T i) = 25
      · rw [if_pos c2, if_pos c2, s1.1.2.2.2.2.1 c2]
        obtain ⟨h4, e4, s4, hF4⟩ := c_put63 (a := 0) (b := kV (T i)) s1 hF1 (by omega)
        rw [e4, cl_some]
        refine CO.step hT s4.1 (by unfold kLast; omega) hF4 xP_E lP_E (fun h2 hi2 u2 g2 hF2 => ?_)
        exact ⟨h2, rfl, s4.st u2 g2, hF2⟩
      rw [if_neg c2, if_neg c2]
      by_cases c3 : kC (T i) = 40
      · rw [if_pos c3, if_pos c3]
        exact (ih 7 w (by omega) hw (by omega) i (u + 1) C h0 h1 (fun _ => c3) (by omega) (by omega) s1 hF1).last
      rw [if_neg c3, if_neg c3, jn_eq]
      obtain ⟨x, x1, x2⟩ := c_val bar hT s1
      rw [x1]
      refine CO.last ?_
      cases ev : vlH bar (kC (T i)) with
      | none =>
        rw [ev] at x2
        have x2 : x = -1 := x2
        unfold f_X6_readValue
        rw [x2, if_pos rfl]
        exact c_erR hT s1.1 hF1 2 _
      | some v =>
        rw [ev] at x2
        obtain ⟨x3, x4, x5⟩ := x2
        rw [x3]
        exact c_readVal hT s1 hF1 x5 (by omega) (by omega)
    rw [if_neg k6, if_neg k6]
    have k7 : k = 7 := by omega
    rw [if_pos k7]
    unfold b_X6_readInner
    simp only [y6]
    by_cases cw : 6 < w
    · rw [if_pos cw, if_pos cw]
      exact c_erR hT s.1 hF 2 _
    · rw [if_neg cw, if_neg cw, uI_add]
      have nl : ¬ kLast (T i) := by
        have := h7 k7
        unfold kLast
        omega
      refine CO.step hT s.1 nl hF xP_E lP_E (fun h2 hi2 u2 g2 hF2 => ?_)
      have s2 := s.st u2 g2
      refine CO.bie (ih 0 (w + 1) (by omega) (by omega) (by omega) (i + 1) u C h0 h2 (fun z => by omega) hu hC s2 hF2) (fun r h3 er s3 hF3 => ?_)
      exact CO.bie (c_tkR hT s3 hF3 (by omega) (by omega)) (fun j h' _ p hF => ⟨h', rfl, p.1 ▸ p.2, hF⟩)
