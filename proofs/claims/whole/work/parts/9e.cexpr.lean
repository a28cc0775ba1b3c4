/-! the class reads expressions -/
theorem CO.bie {α β : Type} {S L : Nat → Nat → Prop} {h0 : CH} {o : Option (Int32 × CH)} {r : Ex α} {P : α → CH → Prop} {K : CH → Option (Int32 × CH)} {f : α → Ex β} {Q : β → CH → Prop} (c : CO S L h0 o r P) (k : ∀ a h', r = .ok a → P a h' → Fz S L h0 h' → CO S L h0 (K h') (f a) Q) : CO S L h0 (cl o fun v h => if v = 0 then some (nI 0, h) else K h) (bd r f) Q := by
  cases r with
  | error e =>
    obtain ⟨h', rfl, c1, c2, c3⟩ := c
    exact ⟨h', by rw [cl_some, if_pos (show nI 0 = 0 by decide)], c1, c2, c3⟩
  | ok a =>
    obtain ⟨h', rfl, c1, c2⟩ := c
    rw [cl_some, if_neg (show ¬ nI 1 = 0 by decide)]
    exact k a h' rfl c1 c2
def CK : Cd → CH → Prop
  | [], _ => True
  | x :: C, h => h.1 67 C.length = nI x.1 ∧ h.1 68 C.length = nI x.2 ∧ CK C h
theorem CK.fz {S L : Nat → Nat → Prop} {h h' : CH} (hF : Fz S L h h') : ∀ {C : Cd}, CK C h → (∀ k, k < C.length → ¬ S 67 k ∧ ¬ S 68 k) → CK C h' := by
  intro C
  induction C with
  | nil => intro _ _; trivial
  | cons x C ih =>
    intro c hS
    obtain ⟨c1, c2, c3⟩ := c
    have hl := hS C.length (by rw [List.length_cons]; omega)
    exact ⟨by rw [hF.1 _ _ hl.1]; exact c1, by rw [hF.1 _ _ hl.2]; exact c2, ih c3 (fun k hk => hS k (by rw [List.length_cons]; omega))⟩
def Sq (T : Nat → Tk) (N : Nat) (bar : Bool) (P i u : Nat) (C : Cd) (h : CH) : Prop := CU T N i h ∧ h.1 2 13 = nI 0 ∧ h.1 2 14 = -1 ∧ h.1 194 3 = bI bar ∧ h.1 194 2 = nI P ∧ h.1 63 1 = nI u ∧ h.1 63 5 = nI C.length ∧ CK C h
def xE (a k : Nat) : Prop := (a = 2 ∧ 9 ≤ k ∧ k ≤ 14) ∨ (a = 63 ∧ (k = 1 ∨ k = 5)) ∨ a = 67 ∨ a = 68
theorem xP_E : ∀ a k, xP a k → xE a k := fun a k q => by unfold xP at q; unfold xE; omega
theorem lP_E : ∀ a k, lP a k → lP a k := fun _ _ q => q
theorem Sq.fz {T : Nat → Tk} {N i j u P : Nat} {bar : Bool} {C : Cd} {S L : Nat → Nat → Prop} {h h' : CH} (s : Sq T N bar P i u C h) (uj : CU T N j h') (hF : Fz S L h h') (h1 : ∀ k, k = 13 ∨ k = 14 → ¬ S 2 k) (h2 : ∀ k, ¬ S 194 k) (h3 : ∀ k, ¬ S 63 k) (h4 : ∀ k, ¬ S 67 k) (h5 : ∀ k, ¬ S 68 k) : Sq T N bar P j u C h' := by
  obtain ⟨-, s1, s2, s3, s4, s5, s6, s7⟩ := s
  exact ⟨uj, by rw [hF.1 _ _ (h1 _ (by omega))]; exact s1, by rw [hF.1 _ _ (h1 _ (by omega))]; exact s2, by rw [hF.1 _ _ (h2 _)]; exact s3, by rw [hF.1 _ _ (h2 _)]; exact s4, by rw [hF.1 _ _ (h3 _)]; exact s5, by rw [hF.1 _ _ (h3 _)]; exact s6, s7.fz hF (fun k _ => ⟨h4 k, h5 k⟩)⟩
theorem Sq.st {T : Nat → Tk} {N i j u P : Nat} {bar : Bool} {C : Cd} {h h' : CH} (s : Sq T N bar P i u C h) (uj : CU T N j h') (hF : Fz xSt lSt h h') : Sq T N bar P j u C h' := s.fz uj hF (fun k hk => by unfold xSt; omega) (fun k => by unfold xSt; omega) (fun k => by unfold xSt; omega) (fun k => by unfold xSt; omega) (fun k => by unfold xSt; omega)
theorem c_tkR {T : Nat → Tk} {N i n u P : Nat} {bar : Bool} {C : Cd} {h0 h : CH} (hT : TG n T N) (s : Sq T N bar P i u C h) (hF : Fz xE lP h0 h) {k : Nat} (hk : k < 26 ∨ 28 ≤ k) (hk2 : k < 100) : CO xE lP h0 (f_X8_take (nI k) h) (sTk T i k) (fun j h' => j = i + 1 ∧ Sq T N bar P (i + 1) u C h') :=
  (c_take hT s.1 hk hk2).go hF xP_E lP_E (fun j h' p g => ⟨p.1, by
    obtain ⟨-, s1, s2, s3, s4, s5, s6, s7⟩ := s
    refine ⟨p.2.2.1, by rw [p.2.2.2.1]; exact s1, by rw [p.2.2.2.2]; exact s2, ?_, ?_, ?_, ?_, s7.fz g (fun k _ => ⟨by unfold xP; omega, by unfold xP; omega⟩)⟩
    · rw [g.1 _ _ (by unfold xP; omega)]; exact s3
    · rw [g.1 _ _ (by unfold xP; omega)]; exact s4
    · rw [g.1 _ _ (by unfold xP; omega)]; exact s5
    · rw [g.1 _ _ (by unfold xP; omega)]; exact s6⟩)
theorem c_nmR {T : Nat → Tk} {N i n : Nat} {h0 h : CH} (hT : TG n T N) (u : CU T N i h) (hF : Fz xE lP h0 h) {lo hi : Nat} (h1 : lo < 10000) (h2 : hi < 10000) : CO xE lP h0 (f_X8_isNumber (nI lo) (nI hi) h) (sNm T i lo hi) (fun v h' => h' = h ∧ kC (T i) = 25 ∧ v = kV (T i) ∧ h.1 2 11 = nI v ∧ lo ≤ v ∧ v ≤ hi) :=
  (c_num hT u h1 h2).go hF xP_E lP_E (fun _ _ p _ => p)
theorem c_erR {α : Type} {T : Nat → Tk} {N i n : Nat} {h0 h : CH} (hT : TG n T N) (u : CU T N i h) (hF : Fz xE lP h0 h) (k : Nat) (P : α → CH → Prop) : CO xE lP h0 (cl (f_X8_refuse (nI k) h) fun v h => rz v (v, h)) (.error (flK T i k, kS (T i)) : Ex α) P :=
  ((c_err hT u k P).go hF xP_E lP_E (fun _ _ p _ => p)).last
/-- a step that the class lays behind the others -/
theorem c_put63 {T : Nat → Tk} {N i u P a b : Nat} {bar : Bool} {C : Cd} {h0 h : CH} (s : Sq T N bar P i u C h) (hF : Fz xE lP h0 h) (hl : C.length < 800) : ∃ h', f_X5_put_63 (nI a) (nI b) h = some ((), h') ∧ Sq T N bar P i u ((a, b) :: C) h' ∧ Fz xE lP h0 h' := by
  obtain ⟨u1, s1, s2, s3, s4, s5, s6, s7⟩ := s
  unfold f_X5_put_63
  rw [s6, if_pos (by rw [uI_lt (by omega) (by omega)]; exact hl), wrA_nI (by omega) (by omega), sI_ne (by omega), s6, wrA_nI (by omega) (by omega), wrF_eq, sI_ne (by omega), sI_ne (by omega), s6, uI_add]
  have g : Fz (fun q k => (q = 63 ∧ k = 5) ∨ ((q = 67 ∨ q = 68) ∧ k = C.length)) (fun _ _ => False) h (sI (sI (sI h 67 C.length (nI a)) 68 C.length (nI b)) 63 5 (nI (C.length + 1))) := ((Fz.sI (by omega)).tr (Fz.sI (by omega))).tr (Fz.sI (by omega))
  refine ⟨_, rfl, ⟨u1.fz g (by intro k hk; omega) (by intro c; omega) (by intro c; omega) (by intro c; exact id) id, ?_, ?_, ?_, ?_, ?_, ?_, ?_, ?_, s7.fz g (fun k hk => ⟨by omega, by omega⟩)⟩, hF.tr (g.mono (fun a k q => by unfold xE; omega) (fun _ _ q => q.elim))⟩
  · rw [g.1 _ _ (by omega)]; exact s1
  · rw [g.1 _ _ (by omega)]; exact s2
  · rw [g.1 _ _ (by omega)]; exact s3
  · rw [g.1 _ _ (by omega)]; exact s4
  · rw [g.1 _ _ (by omega)]; exact s5
  · rw [sI_at, List.length_cons]
  · rw [sI_ne (by omega), sI_ne (by omega), sI_at]
  · rw [sI_ne (by omega), sI_at]
/-- what a part's reader does -/
def GP (T : Nat → Tk) (N : Nat) (bar : Bool) (P n k w : Nat) : Prop := ∀ i u C h0 h, (k = 7 → kC (T i) = 40) → u ≤ 40 → C.length ≤ 9 * u → Sq T N bar P i u C h → Fz xE lP h0 h → CO xE lP h0 (f_grp n k (nI w) h) (gS T bar P n k w i u) (fun r h' => Sq T N bar P r.1 r.2.1 (r.2.2 ++ C) h')
theorem gB_len {w i u : Nat} {q : Gr} {C : Cd} (h : gB w i u q) (hC : C.length ≤ 9 * u) : (q.2.2 ++ C).length + 1 ≤ 9 * q.2.1 := by
  obtain ⟨h1, h2, h3, h4⟩ := h
  rw [List.length_append]
  have : (9 - w) * (q.2.1 - u) ≤ 9 * (q.2.1 - u) := Nat.mul_le_mul_right _ (by omega)
  omega

set_option maxHeartbeats 4000000 in
theorem c_lpTerm {T : Nat → Tk} {N n m w P : Nat} {bar : Bool} {C : Cd} {h0 : CH} (hT : TG n T N) (hw : w ≤ 7) (hg : GP T N bar P m 6 w) : ∀ k x f r h, x + k = 40 → k < f → r.2.2.length + C.length ≤ 9 * r.2.1 → r.2.1 ≤ 40 → Sq T N bar P r.1 r.2.1 (r.2.2 ++ C) h → Fz xE lP h0 h → CO xE lP h0 (b_X6_readTerm_L12 (f_grp m) (nI w) f (nI x) h) (lpS (gS T bar P m 6 w) opT T k r) (fun q h' => Sq T N bar P q.1 q.2.1 (q.2.2 ++ C) h') := by
  intro k
  induction k with
  | zero =>
    intro x f r h h1 h2 h3 h4 s hF
    obtain ⟨f, rfl⟩ : ∃ y, f = y + 1 := ⟨f - 1, by omega⟩
    unfold b_X6_readTerm_L12 lpS
    rw [if_neg (by rw [uI_lt (by omega) (by omega)]; omega)]
    exact ⟨h, rfl, s, hF⟩
  | succ k ih =>
    intro x f r h h1 h2 h3 h4 s hF
    obtain ⟨f, rfl⟩ : ∃ y, f = y + 1 := ⟨f - 1, by omega⟩
    have hc := kC_lt hT s.1.2.1
    have y : (nI (kC (T r.1)) = nI 42) = (kC (T r.1) = 42) := uI_inj (by omega) (by omega)
    unfold b_X6_readTerm_L12 lpS
    rw [if_pos (by rw [uI_lt (by omega) (by omega)]; omega), s.1.2.2.2.1]
    simp only [y]
    unfold opT
    by_cases c : kC (T r.1) = 42
    · rw [if_pos c, if_pos c]
      refine CO.step hT s.1 (by unfold kLast; omega) hF xP_E lP_E (fun h2 hi2 u2 g2 hF2 => ?_)
      have s2 := s.st u2 g2
      refine CO.bie (hg _ _ _ h0 h2 (fun z => by omega) h4 (by rw [List.length_append]; omega) s2 hF2) (fun q h3' eq s3 hF3 => ?_)
      have bq := gS_B m 6 w _ _ q hw eq
      have lq := gB_len bq (C := r.2.2 ++ C) (by rw [List.length_append]; omega)
      obtain ⟨h4', e4, s4, hF4⟩ := c_put63 (a := 3) (b := 0) s3 hF3 (by have := bq.2.2.1; omega)
      rw [e4, cl_some, uI_add]
      have le : (3, 0) :: (q.2.2 ++ (r.2.2 ++ C)) = ((3, 0) :: (q.2.2 ++ r.2.2)) ++ C := by rw [List.cons_append, List.append_assoc]
      rw [le] at s4
      have ll : ((3, 0) :: (q.2.2 ++ r.2.2) : Cd).length + C.length ≤ 9 * q.2.1 := by
        rw [List.length_cons, List.length_append]
        rw [List.length_append, List.length_append] at lq
        omega
      exact ih (x + 1) f (q.1, q.2.1, (3, 0) :: (q.2.2 ++ r.2.2)) h4' (by omega) (by omega) ll bq.2.2.1 s4 hF4
    · rw [if_neg c, if_neg c]
      exact ⟨h, rfl, s, hF⟩

set_option maxHeartbeats 4000000 in
theorem c_lpBoth {T : Nat → Tk} {N n m w P : Nat} {bar : Bool} {C : Cd} {h0 : CH} (hT : TG n T N) (hw : w ≤ 7) (hg : GP T N bar P m 2 w) : ∀ k x f r h, x + k = 40 → k < f → r.2.2.length + C.length ≤ 9 * r.2.1 → r.2.1 ≤ 40 → Sq T N bar P r.1 r.2.1 (r.2.2 ++ C) h → Fz xE lP h0 h → CO xE lP h0 (b_X6_readBoth_L12 (f_grp m) (nI w) f (nI x) h) (lpS (gS T bar P m 2 w) opB T k r) (fun q h' => Sq T N bar P q.1 q.2.1 (q.2.2 ++ C) h') := by
  intro k
  induction k with
  | zero =>
    intro x f r h h1 h2 h3 h4 s hF
    obtain ⟨f, rfl⟩ : ∃ y, f = y + 1 := ⟨f - 1, by omega⟩
    unfold b_X6_readBoth_L12 lpS
    rw [if_neg (by rw [uI_lt (by omega) (by omega)]; omega)]
    exact ⟨h, rfl, s, hF⟩
  | succ k ih =>
    intro x f r h h1 h2 h3 h4 s hF
    obtain ⟨f, rfl⟩ : ∃ y, f = y + 1 := ⟨f - 1, by omega⟩
    have hc := kC_lt hT s.1.2.1
    have y : (nI (kC (T r.1)) = nI 21) = (kC (T r.1) = 21) := uI_inj (by omega) (by omega)
    unfold b_X6_readBoth_L12 lpS
    rw [if_pos (by rw [uI_lt (by omega) (by omega)]; omega), s.1.2.2.2.1]
    simp only [y]
    unfold opB
    by_cases c : kC (T r.1) = 21
    · rw [if_pos c, if_pos c]
      refine CO.step hT s.1 (by unfold kLast; omega) hF xP_E lP_E (fun h2 hi2 u2 g2 hF2 => ?_)
      have s2 := s.st u2 g2
      refine CO.bie (hg _ _ _ h0 h2 (fun z => by omega) h4 (by rw [List.length_append]; omega) s2 hF2) (fun q h3' eq s3 hF3 => ?_)
      have bq := gS_B m 2 w _ _ q hw eq
      have lq := gB_len bq (C := r.2.2 ++ C) (by rw [List.length_append]; omega)
      obtain ⟨h4', e4, s4, hF4⟩ := c_put63 (a := 9) (b := 0) s3 hF3 (by have := bq.2.2.1; omega)
      rw [e4, cl_some, uI_add]
      have le : (9, 0) :: (q.2.2 ++ (r.2.2 ++ C)) = ((9, 0) :: (q.2.2 ++ r.2.2)) ++ C := by rw [List.cons_append, List.append_assoc]
      rw [le] at s4
      have ll : ((9, 0) :: (q.2.2 ++ r.2.2) : Cd).length + C.length ≤ 9 * q.2.1 := by
        rw [List.length_cons, List.length_append]
        rw [List.length_append, List.length_append] at lq
        omega
      exact ih (x + 1) f (q.1, q.2.1, (9, 0) :: (q.2.2 ++ r.2.2)) h4' (by omega) (by omega) ll bq.2.2.1 s4 hF4
    · rw [if_neg c, if_neg c]
      exact ⟨h, rfl, s, hF⟩

set_option maxHeartbeats 4000000 in
theorem c_lpE {T : Nat → Tk} {N n m w P : Nat} {bar : Bool} {C : Cd} {h0 : CH} (hT : TG n T N) (hw : w ≤ 7) (hg : GP T N bar P m 1 w) : ∀ k x f r h, x + k = 40 → k < f → r.2.2.length + C.length ≤ 9 * r.2.1 → r.2.1 ≤ 40 → Sq T N bar P r.1 r.2.1 (r.2.2 ++ C) h → Fz xE lP h0 h → CO xE lP h0 (b_X6_readE_L12 (f_grp m) (nI w) f (nI x) h) (lpS (gS T bar P m 1 w) opE T k r) (fun q h' => Sq T N bar P q.1 q.2.1 (q.2.2 ++ C) h') := by
  intro k
  induction k with
  | zero =>
    intro x f r h h1 h2 h3 h4 s hF
    obtain ⟨f, rfl⟩ : ∃ y, f = y + 1 := ⟨f - 1, by omega⟩
    unfold b_X6_readE_L12 lpS
    rw [if_neg (by rw [uI_lt (by omega) (by omega)]; omega)]
    exact ⟨h, rfl, s, hF⟩
  | succ k ih =>
    intro x f r h h1 h2 h3 h4 s hF
    obtain ⟨f, rfl⟩ : ∃ y, f = y + 1 := ⟨f - 1, by omega⟩
    have hc := kC_lt hT s.1.2.1
    have y : (nI (kC (T r.1)) = nI 22) = (kC (T r.1) = 22) := uI_inj (by omega) (by omega)
    unfold b_X6_readE_L12 lpS
    rw [if_pos (by rw [uI_lt (by omega) (by omega)]; omega), s.1.2.2.2.1]
    simp only [y]
    unfold opE
    by_cases c : kC (T r.1) = 22
    · rw [if_pos c, if_pos c]
      refine CO.step hT s.1 (by unfold kLast; omega) hF xP_E lP_E (fun h2 hi2 u2 g2 hF2 => ?_)
      have s2 := s.st u2 g2
      refine CO.bie (hg _ _ _ h0 h2 (fun z => by omega) h4 (by rw [List.length_append]; omega) s2 hF2) (fun q h3' eq s3 hF3 => ?_)
      have bq := gS_B m 1 w _ _ q hw eq
      have lq := gB_len bq (C := r.2.2 ++ C) (by rw [List.length_append]; omega)
      obtain ⟨h4', e4, s4, hF4⟩ := c_put63 (a := 10) (b := 0) s3 hF3 (by have := bq.2.2.1; omega)
      rw [e4, cl_some, uI_add]
      have le : (10, 0) :: (q.2.2 ++ (r.2.2 ++ C)) = ((10, 0) :: (q.2.2 ++ r.2.2)) ++ C := by rw [List.cons_append, List.append_assoc]
      rw [le] at s4
      have ll : ((10, 0) :: (q.2.2 ++ r.2.2) : Cd).length + C.length ≤ 9 * q.2.1 := by
        rw [List.length_cons, List.length_append]
        rw [List.length_append, List.length_append] at lq
        omega
      exact ih (x + 1) f (q.1, q.2.1, (10, 0) :: (q.2.2 ++ r.2.2)) h4' (by omega) (by omega) ll bq.2.2.1 s4 hF4
    · rw [if_neg c, if_neg c]
      exact ⟨h, rfl, s, hF⟩

set_option maxHeartbeats 4000000 in
theorem c_lpSum {T : Nat → Tk} {N n m w P : Nat} {bar : Bool} {C : Cd} {h0 : CH} (hT : TG n T N) (hw : w ≤ 7) (hg : GP T N bar P m 5 w) : ∀ k x f r h, x + k = 40 → k < f → r.2.2.length + C.length ≤ 9 * r.2.1 → r.2.1 ≤ 40 → Sq T N bar P r.1 r.2.1 (r.2.2 ++ C) h → Fz xE lP h0 h → CO xE lP h0 (b_X6_readSum_L12 (f_grp m) (nI w) f (nI x) h) (lpS (gS T bar P m 5 w) opS T k r) (fun q h' => Sq T N bar P q.1 q.2.1 (q.2.2 ++ C) h') := by
  intro k
  induction k with
  | zero =>
    intro x f r h h1 h2 h3 h4 s hF
    obtain ⟨f, rfl⟩ : ∃ y, f = y + 1 := ⟨f - 1, by omega⟩
    unfold b_X6_readSum_L12 lpS
    rw [if_neg (by rw [uI_lt (by omega) (by omega)]; omega)]
    exact ⟨h, rfl, s, hF⟩
  | succ k ih =>
    intro x f r h h1 h2 h3 h4 s hF
    obtain ⟨f, rfl⟩ : ∃ y, f = y + 1 := ⟨f - 1, by omega⟩
    have hc := kC_lt hT s.1.2.1
    have y1 : (nI (kC (T r.1)) = nI 43) = (kC (T r.1) = 43) := uI_inj (by omega) (by omega)
    have y2 : (nI (kC (T r.1)) = nI 45) = (kC (T r.1) = 45) := uI_inj (by omega) (by omega)
    unfold b_X6_readSum_L12 lpS
    rw [if_pos (by rw [uI_lt (by omega) (by omega)]; omega)]
    simp only [jn_eq]
    rw [s.1.2.2.2.1]
    simp only [y1, y2]
    unfold opS
    have go : ∀ a, (¬ kLast (T r.1)) → CO xE lP h0 (cl (f_X8_step h) fun _ h_8 => cl (f_grp m 5 (nI w) h_8) fun v_9 h_10 => (if v_9 = 0 then some (nI 0, h_10) else cl (f_X5_put_63 (nI a) (nI 0) h_10) fun _ h_12 => b_X6_readSum_L12 (f_grp m) (nI w) f (nI x + nI 1) h_12)) (bd (gS T bar P m 5 w (r.1 + 1) r.2.1) fun q => lpS (gS T bar P m 5 w) opS T k (q.1, q.2.1, (a, 0) :: (q.2.2 ++ r.2.2))) (fun q h' => Sq T N bar P q.1 q.2.1 (q.2.2 ++ C) h') := by
      intro a nl
      refine CO.step hT s.1 nl hF xP_E lP_E (fun h2 hi2 u2 g2 hF2 => ?_)
      have s2 := s.st u2 g2
      refine CO.bie (hg _ _ _ h0 h2 (fun z => by omega) h4 (by rw [List.length_append]; omega) s2 hF2) (fun q h3' eq s3 hF3 => ?_)
      have bq := gS_B m 5 w _ _ q hw eq
      have lq := gB_len bq (C := r.2.2 ++ C) (by rw [List.length_append]; omega)
      obtain ⟨h4', e4, s4, hF4⟩ := c_put63 (a := a) (b := 0) s3 hF3 (by have := bq.2.2.1; omega)
      rw [e4, cl_some, uI_add]
      have le : (a, 0) :: (q.2.2 ++ (r.2.2 ++ C)) = ((a, 0) :: (q.2.2 ++ r.2.2)) ++ C := by rw [List.cons_append, List.append_assoc]
      rw [le] at s4
      have ll : ((a, 0) :: (q.2.2 ++ r.2.2) : Cd).length + C.length ≤ 9 * q.2.1 := by
        rw [List.length_cons, List.length_append]
        rw [List.length_append, List.length_append] at lq
        omega
      exact ih (x + 1) f (q.1, q.2.1, (a, 0) :: (q.2.2 ++ r.2.2)) h4' (by omega) (by omega) ll bq.2.2.1 s4 hF4
    by_cases c : kC (T r.1) = 43
    · simp only [if_pos c]
      exact go 4 (by unfold kLast; omega)
    · simp only [if_neg c]
      by_cases c2 : kC (T r.1) = 45
      · simp only [if_pos c2]
        exact go 5 (by unfold kLast; omega)
      · simp only [if_neg c2]
        exact ⟨h, rfl, s, hF⟩
