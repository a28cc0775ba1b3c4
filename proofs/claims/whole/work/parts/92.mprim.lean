/-! the model's readers: good and faulty states -/
def TXN (rl : Bool) (n : Nat) (X : Nat → Nat) (N : Nat) : Prop := TX n X ∧ TG n (tks rl n X) N ∧ ∀ i, i ≤ N → tkp rl n X i ≤ n
def Mu (T : Nat → Tk) (N i : Nat) (h : CH) : Prop := i ≤ N ∧ h.1 151 4 = nI 0 ∧ h.1 151 5 = -1 ∧ TK (T i) h
def Mf (n : Nat) (e : Nat × Nat) (h : CH) : Prop := h.1 151 4 = nI e.1 ∧ 1 ≤ e.1 ∧ e.1 < 100 ∧ h.1 151 5 = nI e.2 ∧ ∃ a, a ≤ n ∧ h.1 151 6 = nI a
def Mg {α : Type} (T : Nat → Tk) (N n j : Nat) (r : Ex α) (h : CH) : Prop := match r with
  | .error e => Mf n e h
  | .ok _ => Mu T N j h
def xM (a k : Nat) : Prop := a = 151 ∧ 4 ≤ k ∧ k ≤ 9
theorem xG_M : ∀ a k, xG a k → xM a k := fun a k q => by unfold xG at q; unfold xM; omega
theorem TK.fz {S L : Nat → Nat → Prop} {x : Tk} {h h' : CH} (c : TK x h) (hF : Fz S L h h') (h1 : ∀ k, 6 ≤ k → k ≤ 9 → ¬ S 151 k) (h2 : ¬ L 151 10) : TK x h' := by
  obtain ⟨c1, c2, c3, c4, c5⟩ := c
  exact ⟨by rw [hF.1 _ _ (h1 6 (by omega) (by omega))]; exact c1, fun z => by rw [hF.1 _ _ (h1 7 (by omega) (by omega))]; exact c2 z, by rw [hF.1 _ _ (h1 8 (by omega) (by omega))]; exact c3, fun z => by rw [hF.1 _ _ (h1 9 (by omega) (by omega))]; exact c4 z, fun z => by rw [hF.2 _ _ h2]; exact c5 z⟩
theorem Mu.fz {S L : Nat → Nat → Prop} {T : Nat → Tk} {N i : Nat} {h h' : CH} (c : Mu T N i h) (hF : Fz S L h h') (h1 : ∀ k, 4 ≤ k → k ≤ 9 → ¬ S 151 k) (h2 : ¬ L 151 10) : Mu T N i h' := by
  obtain ⟨c1, c2, c3, c4⟩ := c
  exact ⟨c1, by rw [hF.1 _ _ (h1 4 (by omega) (by omega))]; exact c2, by rw [hF.1 _ _ (h1 5 (by omega) (by omega))]; exact c3, c4.fz hF (fun k a b => h1 k (by omega) b) h2⟩
theorem Mf.fz {S L : Nat → Nat → Prop} {n : Nat} {e : Nat × Nat} {h h' : CH} (c : Mf n e h) (hF : Fz S L h h') (h1 : ∀ k, 4 ≤ k → k ≤ 9 → ¬ S 151 k) : Mf n e h' := by
  obtain ⟨c1, c2, c3, c4, a, c5, c6⟩ := c
  exact ⟨by rw [hF.1 _ _ (h1 4 (by omega) (by omega))]; exact c1, c2, c3, by rw [hF.1 _ _ (h1 5 (by omega) (by omega))]; exact c4, a, c5, by rw [hF.1 _ _ (h1 6 (by omega) (by omega))]; exact c6⟩
theorem Mg.fz {α : Type} {S L : Nat → Nat → Prop} {T : Nat → Tk} {N n j : Nat} {r : Ex α} {h h' : CH} (c : Mg T N n j r h) (hF : Fz S L h h') (h1 : ∀ k, 4 ≤ k → k ≤ 9 → ¬ S 151 k) (h2 : ¬ L 151 10) : Mg T N n j r h' := by
  cases r with
  | error e => exact Mf.fz c hF h1
  | ok a => exact Mu.fz c hF h1 h2
theorem m_good1 {h : CH} (h4 : h.1 151 4 = nI 0) : f_X12_isGood h = some (nI 1) := by
  unfold f_X12_isGood
  rw [h4, if_pos (by decide)]
theorem m_good0 {n : Nat} {e : Nat × Nat} {h : CH} (c : Mf n e h) : f_X12_isGood h = some (nI 0) := by
  obtain ⟨c1, c2, c3, -⟩ := c
  unfold f_X12_isGood
  rw [c1, if_neg (by rw [uI_eq0 (by omega)]; omega)]
theorem m_next {rl : Bool} {n : Nat} {X : Nat → Nat} {N i : Nat} {h : CH} (hB : TXN rl n X N) (hL : Mx rl n X h) (u : Mu (tks rl n X) N i h) (hi : ¬ kLast (tks rl n X i)) : i + 1 ≤ N ∧ ∃ h', f_X12_goOn h = some ((), h') ∧ Mu (tks rl n X) N (i + 1) h' ∧ Mx rl n X h' ∧ Fz xG lG h h' := by
  obtain ⟨hX, hT, hp⟩ := hB
  obtain ⟨u1, u2, u3, u4⟩ := u
  have lt : i < N := by
    by_cases e : i = N
    · exact absurd (e ▸ hT.2.1) hi
    · omega
  obtain ⟨h', g1, g2, g3⟩ := m_goOn (rl := rl) hX (hp (i + 1) lt) hL (u4.2.1 hi)
  exact ⟨lt, h', g1, ⟨lt, by rw [g3.1 _ _ (by unfold xG; omega)]; exact u2, by rw [g3.1 _ _ (by unfold xG; omega)]; exact u3, g2⟩, hL.fz g3 (by unfold xG; omega) (by unfold xG; omega) (by intro k; unfold xG; omega), g3⟩
theorem m_fails0 {n : Nat} {e : Nat × Nat} {h : CH} (c : Mf n e h) (k p : Int32) : f_X12_fails k p h = some ((), h) := by
  obtain ⟨c1, c2, c3, -⟩ := c
  unfold f_X12_fails
  rw [c1, if_pos (by rw [uI_0lt (by omega)]; omega)]
theorem m_fails1 {T : Nat → Tk} {N n j : Nat} {h : CH} (hT : TG n T N) (u : Mu T N j h) {k : Nat} (h1 : 1 ≤ k) (h2 : k < 100) : ∃ h', f_X12_fails (nI k) (h.1 151 6) h = some ((), h') ∧ Mf n (k, kS (T j)) h' ∧ Fz xM lG h h' := by
  obtain ⟨u1, u2, u3, u4⟩ := u
  unfold f_X12_fails
  rw [u2, if_neg (by decide), wrF_eq, wrF_eq, u4.1]
  refine ⟨_, rfl, ⟨by rw [sI_ne (by omega), sI_at], h1, h2, sI_at, kS (T j), (hT.2.2.2.2 j u1).2.1, by rw [sI_ne (by omega), sI_ne (by omega)]; exact u4.1⟩, (Fz.sI (by unfold xM; omega)).tr (Fz.sI (by unfold xM; omega))⟩
theorem ktq_1 {c : Nat} : (nI (kt c) = nI 1) = (c = 27) := by
  unfold kt
  refine propext ⟨fun h => ?_, fun h => ?_⟩
  · by_cases c1 : c ≤ 23
    · rw [if_pos c1] at h; exact absurd h (by decide)
    rw [if_neg c1] at h
    by_cases c2 : c = 24
    · rw [if_pos c2] at h; exact absurd h (by decide)
    rw [if_neg c2] at h
    by_cases c3 : c = 25
    · rw [if_pos c3] at h; exact absurd h (by decide)
    rw [if_neg c3] at h
    by_cases c4 : c = 26
    · rw [if_pos c4] at h; exact absurd h (by decide)
    rw [if_neg c4] at h
    by_cases c5 : c = 27
    · exact c5
    rw [if_neg c5] at h
    exact absurd h (by decide)
  · subst h; rfl
theorem ktq_of {c k : Nat} (hk : k < 6) : (nI (kt c) = nI k) = (kt c = k) := by
  have : kt c < 6 := by
    unfold kt
    split
    · omega
    · split
      · omega
      · split
        · omega
        · split
          · omega
          · split <;> omega
  exact uI_inj (by omega) (by omega)
theorem ktq_3 {c : Nat} : (kt c = 3) = (c ≤ 23) := by
  unfold kt
  refine propext ⟨fun h => ?_, fun h => by rw [if_pos h]⟩
  by_cases c1 : c ≤ 23
  · exact c1
  rw [if_neg c1] at h
  split at h
  · omega
  · split at h
    · omega
    · split at h
      · omega
      · split at h <;> omega
theorem ktq_2 {c : Nat} : (kt c = 2) = (c = 24) := by
  unfold kt
  refine propext ⟨fun h => ?_, fun h => by subst h; rfl⟩
  split at h
  · omega
  · split at h
    · omega
    · split at h
      · omega
      · split at h
        · omega
        · split at h <;> omega
theorem ktq_4 {c : Nat} : (kt c = 4) = (c = 25) := by
  unfold kt
  refine propext ⟨fun h => ?_, fun h => by subst h; rfl⟩
  split at h
  · omega
  · split at h
    · omega
    · split at h
      · omega
      · split at h
        · omega
        · split at h <;> omega
theorem ktq_0 {c : Nat} : (kt c = 0) = (c = 26) := by
  unfold kt
  refine propext ⟨fun h => ?_, fun h => by subst h; rfl⟩
  split at h
  · omega
  · split at h
    · omega
    · split at h
      · omega
      · split at h
        · omega
        · split at h <;> omega
theorem ktq_5 {c : Nat} : (kt c = 5) = (28 ≤ c) := by
  unfold kt
  refine propext ⟨fun h => ?_, fun h => by rw [if_neg (by omega), if_neg (by omega), if_neg (by omega), if_neg (by omega), if_neg (by omega)]⟩
  split at h
  · omega
  · split at h
    · omega
    · split at h
      · omega
      · split at h
        · omega
        · split at h <;> omega
theorem m_mis1 {T : Nat → Tk} {N n j : Nat} {h : CH} (hT : TG n T N) (u : Mu T N j h) : ∃ h', f_X12_misplaced h = some ((), h') ∧ Mf n (flK T j 2, kS (T j)) h' ∧ Fz xM lG h h' := by
  unfold f_X12_misplaced flK
  simp only [jn_eq]
  rw [u.2.2.2.2.2.1]
  simp only [ktq_1]
  by_cases c : kC (T j) = 27
  · rw [if_pos c, if_pos c]
    obtain ⟨h', g1, g2, g3⟩ := m_fails1 hT u (show 1 ≤ 1 by omega) (by omega)
    exact ⟨h', by rw [g1, cl_some], g2, g3⟩
  · rw [if_neg c, if_neg c]
    obtain ⟨h', g1, g2, g3⟩ := m_fails1 hT u (show 1 ≤ 2 by omega) (by omega)
    exact ⟨h', by rw [g1, cl_some], g2, g3⟩
theorem m_mis0 {n : Nat} {e : Nat × Nat} {h : CH} (c : Mf n e h) : f_X12_misplaced h = some ((), h) := by
  unfold f_X12_misplaced
  simp only [jn_eq]
  rw [m_fails0 c, m_fails0 c]
  simp only [cl_some, ite_self]
theorem m_must {α : Type} {rl : Bool} {n : Nat} {X : Nat → Nat} {N j k : Nat} {h : CH} {r : Ex α} {b : Bool} (hB : TXN rl n X N) (hL : Mx rl n X h) (g : Mg (tks rl n X) N n j r h) (hb : Mu (tks rl n X) N j h → b = decide (kC (tks rl n X j) = k)) (hk : k ≠ 26) (hk2 : k ≠ 27) : ∃ h', f_X12_must (bI b) h = some ((), h') ∧ Mg (tks rl n X) N n (j + 1) (bd r fun a => bd (sTk (tks rl n X) j k) fun _ => .ok a) h' ∧ Mx rl n X h' ∧ Fz xM lG h h' := by
  unfold f_X12_must
  cases r with
  | error e =>
    rw [m_good0 g, clp_some, if_pos (by decide)]
    exact ⟨h, rfl, g, hL, Fz.rf⟩
  | ok a =>
    have u : Mu (tks rl n X) N j h := g
    rw [m_good1 u.2.1, clp_some, if_neg (by decide), ifB]
    have hb := hb u
    unfold sTk
    by_cases c : kC (tks rl n X j) = k
    · rw [decide_eq_true c] at hb
      rw [if_pos hb, if_pos c]
      obtain ⟨-, h', g1, g2, g3, g4⟩ := m_next hB hL u (by unfold kLast; omega)
      exact ⟨h', by rw [g1, cl_some], g2, g3, g4.mono xG_M (fun _ _ q => q)⟩
    · rw [decide_eq_false c] at hb
      rw [if_neg (by rw [hb]; decide), if_neg c]
      obtain ⟨h', g1, g2, g3⟩ := m_mis1 hB.2.1 u
      exact ⟨h', by rw [g1, cl_some], g2, hL.fz g3 (by unfold xM; omega) (by unfold xM; omega) (by intro k; unfold xM; omega), g3⟩
set_option maxHeartbeats 4000000 in
theorem m_num {α : Type} {rl : Bool} {n : Nat} {X : Nat → Nat} {N j lo hi : Nat} {h : CH} {r : Ex α} (hB : TXN rl n X N) (hL : Mx rl n X h) (g : Mg (tks rl n X) N n j r h) (h1 : lo ≤ hi) (h2 : hi < 10000) : ∃ v h', f_X12_numeral (nI lo) (nI hi) h = some (nI v, h') ∧ Mg (tks rl n X) N n (j + 1) (bd r fun a => bd (sNm (tks rl n X) j lo hi) fun w => .ok (a, w)) h' ∧ lo ≤ v ∧ v ≤ hi ∧ (∀ a w, r = .ok a → sNm (tks rl n X) j lo hi = .ok w → v = w) ∧ Mx rl n X h' ∧ Fz xM lG h h' := by
  unfold f_X12_numeral
  simp only [jn_eq]
  cases r with
  | error e =>
    rw [m_good0 g, clp_some, if_pos (by decide)]
    exact ⟨lo, h, rfl, g, Nat.le_refl _, h1, fun a w z => (by cases z), hL, Fz.rf⟩
  | ok a =>
    have u : Mu (tks rl n X) N j h := g
    have vn := (hB.2.1.2.2.2.2 j u.1).2.2.1
    rw [m_good1 u.2.1, clp_some, if_neg (by decide), u.2.2.2.2.2.1]
    simp only [ktq_of (show 4 < 6 by omega), ktq_4]
    unfold sNm
    by_cases c : kC (tks rl n X j) = 25
    · have vn := vn c
      simp only [if_pos c]
      have e9 := u.2.2.2.2.2.2.1 c
      rw [clp_some, if_neg (by decide), e9]
      simp only [uI_lt (show kV (tks rl n X j) < 2147483648 by omega) (show lo < 2147483648 by omega), uI_lt (show hi < 2147483648 by omega) (show kV (tks rl n X j) < 2147483648 by omega)]
      by_cases c1 : kV (tks rl n X j) < lo ∨ hi < kV (tks rl n X j)
      · obtain ⟨h', g1, g2, g3⟩ := m_fails1 hB.2.1 u (show 1 ≤ 4 by omega) (by omega)
        rw [if_neg (show ¬ (lo ≤ kV (tks rl n X j) ∧ kV (tks rl n X j) ≤ hi) by omega)]
        refine ⟨lo, h', ?_, g2, Nat.le_refl _, h1, fun a w _ z => (by cases z), hL.fz g3 (by unfold xM; omega) (by unfold xM; omega) (by intro k; unfold xM; omega), g3⟩
        rw [g1]
        simp only [cl_some]
        rw [m_good0 g2, clp_some, if_pos (show nI 0 = 0 by decide), clp_some, if_pos (show nI 0 = 0 by decide)]
        by_cases c2 : kV (tks rl n X j) < lo
        · rw [if_pos c2]
        · rw [if_neg c2, if_pos (by omega)]
      · rw [if_neg (by omega), if_neg (by omega), if_pos (show lo ≤ kV (tks rl n X j) ∧ kV (tks rl n X j) ≤ hi by omega), clp_some, if_neg (show ¬ nI 1 = 0 by decide)]
        obtain ⟨-, h', g1, g2, g3, g4⟩ := m_next hB hL u (by unfold kLast; omega)
        rw [g1, cl_some, m_good1 g2.2.1, clp_some, if_neg (by decide)]
        exact ⟨_, h', rfl, g2, by omega, by omega, fun a w _ z => (by cases z; rfl), g3, g4.mono xG_M (fun _ _ q => q)⟩
    · simp only [if_neg c]
      obtain ⟨h', g1, g2, g3⟩ := m_mis1 hB.2.1 u
      refine ⟨lo, h', ?_, g2, Nat.le_refl _, h1, fun a w _ z => (by cases z), hL.fz g3 (by unfold xM; omega) (by unfold xM; omega) (by intro k; unfold xM; omega), g3⟩
      have z0 : nI 0 = 0 := by decide
      rw [g1, cl_some, m_good0 g2, clp_some, if_pos z0, clp_some, if_pos z0, clp_some, if_pos z0]
theorem tok_X {rl : Bool} {n : Nat} {X : Nat → Nat} {j : Nat} (h : 28 ≤ kC (tok rl n X j)) : X (kS (tok rl n X j)) = kC (tok rl n X j) := by
  unfold tok at h ⊢
  generalize exN isB X n j = s at *
  by_cases c1 : n ≤ s
  · rw [if_pos c1] at h; exact absurd h (by simp [kC])
  rw [if_neg c1] at h ⊢
  by_cases c2 : isL (X s) = true
  · rw [if_pos c2] at h
    by_cases c3 : 8 < exN isL X n s - s
    · rw [if_pos c3] at h; exact absurd h (by simp [kC])
    · rw [if_neg c3] at h
      have := rsv_le (ltr X s (exN isL X n s - s))
      exact absurd (show 28 ≤ rsv (ltr X s (exN isL X n s - s)) from h) (by omega)
  rw [if_neg c2] at h ⊢
  by_cases c4 : isD (X s) = true
  · rw [if_pos c4] at h
    by_cases c3 : 4 < exN isD X n s - s ∨ isL (X (exN isD X n s)) = true
    · rw [if_pos c3] at h; exact absurd h (by simp [kC])
    · rw [if_neg c3] at h; exact absurd h (by simp [kC])
  rw [if_neg c4] at h ⊢
  by_cases c5 : isS rl (X s) = true
  · rw [if_pos c5]; rfl
  · rw [if_neg c5] at h; exact absurd h (by simp [kC])
theorem m_is {α : Type} {rl : Bool} {n : Nat} {X : Nat → Nat} {N j c : Nat} {h : CH} {r : Ex α} (hB : TXN rl n X N) (hL : Mx rl n X h) (g : Mg (tks rl n X) N n j r h) (hc : 28 ≤ c) (hc2 : c < 256) : ∃ b, f_X12_is (nI c) h = some (bI b) ∧ (Mu (tks rl n X) N j h → b = decide (kC (tks rl n X j) = c)) := by
  have hn := hB.1.1
  have ex : ∃ a, a ≤ n ∧ h.1 151 6 = nI a ∧ (Mu (tks rl n X) N j h → a = kS (tks rl n X j)) := by
    cases r with
    | error e =>
      obtain ⟨c1, c2, c3, c4, a, c5, c6⟩ := (g : Mf n e h)
      refine ⟨a, c5, c6, fun u => ?_⟩
      have := u.2.1
      rw [c1, uI_inj (by omega) (by omega)] at this
      omega
    | ok a =>
      have u : Mu (tks rl n X) N j h := g
      exact ⟨_, (hB.2.1.2.2.2.2 j u.1).2.1, u.2.2.2.1, fun _ => rfl⟩
  obtain ⟨a, ha, h6, hu⟩ := ex
  unfold f_X12_is
  have xa : X a < 256 := hB.1.2.1 a
  rw [h6, m_sign hB.1 hL (by omega), clp_some]
  by_cases c5 : h.1 151 8 = nI 5
  · rw [if_pos c5]
    have x1 : (nI (X a) = nI c) = (X a = c) := uI_inj (by omega) (by omega)
    simp only [x1]
    refine ⟨decide (X a = c), ?_, fun u => ?_⟩
    · by_cases z : X a = c
      · rw [if_pos z, decide_eq_true z]; rfl
      · rw [if_neg z, decide_eq_false z]; rfl
    · have k5 := u.2.2.2.2.2.1
      rw [k5, ktq_of (by omega), ktq_5] at c5
      rw [hu u]
      exact decide_eq_decide.2 (by rw [show X (kS (tks rl n X j)) = kC (tks rl n X j) from tok_X c5])
  · rw [if_neg c5]
    refine ⟨false, rfl, fun u => ?_⟩
    have k5 := u.2.2.2.2.2.1
    rw [k5, ktq_of (by omega), ktq_5] at c5
    exact (decide_eq_false (by omega)).symm
theorem m_isW {T : Nat → Tk} {n N j k : Nat} {h : CH} {W : Int64} (hT : TG n T N) (hW : ∀ l, gl l → (lg_cmp (nL (w8 l)) W = 0) = (rsv l = k)) (hk : k < 24) : ∃ b, f_X12_isWord W h = some (bI b) ∧ (Mu T N j h → b = decide (kC (T j) = k)) := by
  unfold f_X12_isWord
  by_cases c3 : h.1 151 8 = nI 3
  · rw [if_pos c3]
    by_cases z : lg_cmp (h.2 151 10) W = 0
    · refine ⟨true, by rw [if_pos z]; rfl, fun u => ?_⟩
      have k3 := u.2.2.2.2.2.1
      rw [k3, ktq_of (by omega), ktq_3] at c3
      have gg := (hT.2.2.2.2 j u.1).2.2.2 (by omega)
      rw [u.2.2.2.2.2.2.2 (by omega), hW _ gg.1, gg.2] at z
      exact (decide_eq_true z).symm
    · refine ⟨false, by rw [if_neg z]; rfl, fun u => ?_⟩
      have k3 := u.2.2.2.2.2.1
      rw [k3, ktq_of (by omega), ktq_3] at c3
      have gg := (hT.2.2.2.2 j u.1).2.2.2 (by omega)
      rw [u.2.2.2.2.2.2.2 (by omega), hW _ gg.1, gg.2] at z
      exact (decide_eq_false z).symm
  · rw [if_neg c3]
    refine ⟨false, rfl, fun u => ?_⟩
    have k3 := u.2.2.2.2.2.1
    rw [k3, ktq_of (by omega), ktq_3] at c3
    exact (decide_eq_false (by omega)).symm
/-- a word, then a number -/
theorem m_after {α : Type} {rl : Bool} {n : Nat} {X : Nat → Nat} {N j k lo hi : Nat} {h : CH} {r : Ex α} {W : Int64} (hB : TXN rl n X N) (hL : Mx rl n X h) (g : Mg (tks rl n X) N n j r h) (hW : ∀ l, gl l → (lg_cmp (nL (w8 l)) W = 0) = (rsv l = k)) (hk : k < 24) (h1 : lo ≤ hi) (h2 : hi < 10000) : ∃ v h', f_X12_after W (nI lo) (nI hi) h = some (nI v, h') ∧ Mg (tks rl n X) N n (j + 2) (bd r fun a => bd (sTk (tks rl n X) j k) fun _ => bd (sNm (tks rl n X) (j + 1) lo hi) fun w => .ok (a, w)) h' ∧ lo ≤ v ∧ v ≤ hi ∧ (∀ a i w, r = .ok a → sTk (tks rl n X) j k = .ok i → sNm (tks rl n X) (j + 1) lo hi = .ok w → v = w) ∧ Mx rl n X h' ∧ Fz xM lG h h' := by
  unfold f_X12_after
  obtain ⟨b, b1, b2⟩ := m_isW (j := j) (h := h) hB.2.1 hW hk
  rw [b1, clp_some]
  obtain ⟨h2', c1, c2, c3, c4⟩ := m_must hB hL g b2 (by omega) (by omega)
  rw [c1, cl_some]
  obtain ⟨v, h3, d1, d2, d3, d4, d5, d6, d7⟩ := m_num hB c3 c2 h1 h2
  rw [d1, cl_some]
  refine ⟨v, h3, rfl, ?_, d3, d4, fun a i w z1 z2 z3 => d5 a w (by rw [z1]; show bd (sTk _ j k) _ = _; rw [z2]; rfl) z3, d6, c4.tr d7⟩
  have e : (bd (bd r fun a => bd (sTk (tks rl n X) j k) fun _ => (.ok a : Ex α)) fun a => bd (sNm (tks rl n X) (j + 1) lo hi) fun w => (.ok (a, w) : Ex (α × Nat))) = bd r fun a => bd (sTk (tks rl n X) j k) fun _ => bd (sNm (tks rl n X) (j + 1) lo hi) fun w => .ok (a, w) := by
    cases r with
    | error e => rfl
    | ok a =>
      show bd (bd (sTk (tks rl n X) j k) fun _ => (.ok a : Ex α)) _ = bd (sTk (tks rl n X) j k) _
      cases sTk (tks rl n X) j k <;> rfl
  rw [← e]
  exact d2
