/-! the model's pile of an expression -/
def enS (bar : Bool) (x : Nat × Nat) : Nat × Nat :=
  if x.1 = 0 then (110, x.2)
  else if x.1 = 1 then (if bar = true then (if x.2 = 0 then (102, 0) else if x.2 = 1 then (107, 0) else if x.2 = 2 then (121, 0) else (108, 0)) else (if x.2 = 0 then (115, 0) else if x.2 = 1 then (101, 0) else if x.2 = 2 then (109, 0) else if x.2 = 3 then (113, 0) else (97, x.2 - 4)))
  else if x.1 = 2 then (126, 0) else if x.1 = 3 then (42, 0) else if x.1 = 4 then (43, 0) else if x.1 = 5 then (45, 0) else if x.1 = 6 then (60, 0) else if x.1 = 7 then (62, 0) else if x.1 = 8 then (61, 0) else if x.1 = 9 then (38, 0) else (124, 0)
def enc (bar : Bool) (C : Cd) : Cd := C.map (enS bar)
theorem enc_app (bar : Bool) (C D : Cd) : enc bar (C ++ D) = enc bar C ++ enc bar D := List.map_append
theorem enc_cons (bar : Bool) (x : Nat × Nat) (C : Cd) : enc bar (x :: C) = enS bar x :: enc bar C := rfl
theorem enc_len (bar : Bool) (C : Cd) : (enc bar C).length = C.length := List.length_map _
def CMk (b : Nat) : Cd → CH → Prop
  | [], _ => True
  | x :: C, h => h.1 168 (b + C.length) = nI x.1 ∧ h.1 169 (b + C.length) = nI x.2 ∧ CMk b C h
theorem CMk.fz {b : Nat} {S L : Nat → Nat → Prop} {h h' : CH} (hF : Fz S L h h') : ∀ {C : Cd}, CMk b C h → (∀ k, b ≤ k → k < b + C.length → ¬ S 168 k ∧ ¬ S 169 k) → CMk b C h' := by
  intro C
  induction C with
  | nil => intro _ _; trivial
  | cons x C ih =>
    intro c hS
    obtain ⟨c1, c2, c3⟩ := c
    have hl := hS (b + C.length) (by omega) (by rw [List.length_cons]; omega)
    exact ⟨by rw [hF.1 _ _ hl.1]; exact c1, by rw [hF.1 _ _ hl.2]; exact c2, ih c3 (fun k h1 h2 => hS k h1 (by rw [List.length_cons]; omega))⟩
def PLk : Cd → CH → Prop
  | [], _ => True
  | x :: C, h => h.1 170 C.length = nI x.1 ∧ h.1 171 C.length = nI x.2 ∧ PLk C h
theorem PLk.fz {S L : Nat → Nat → Prop} {h h' : CH} (hF : Fz S L h h') : ∀ {C : Cd}, PLk C h → (∀ k, k < C.length → ¬ S 170 k ∧ ¬ S 171 k) → PLk C h' := by
  intro C
  induction C with
  | nil => intro _ _; trivial
  | cons x C ih =>
    intro c hS
    obtain ⟨c1, c2, c3⟩ := c
    have hl := hS C.length (by rw [List.length_cons]; omega)
    exact ⟨by rw [hF.1 _ _ hl.1]; exact c1, by rw [hF.1 _ _ hl.2]; exact c2, ih c3 (fun k hk => hS k (by rw [List.length_cons]; omega))⟩
/-- what does not change in an expression: the text, the town's points, bar or sign -/
def Mc (n : Nat) (X : Nat → Nat) (bk P : Nat) (bar : Bool) (h : CH) : Prop := Mx true n X h ∧ bk ≤ 1 ∧ h.1 151 26 = nI bk ∧ h.1 154 bk = nI P ∧ h.1 151 47 = bI bar
theorem Mc.fz {n bk P : Nat} {X : Nat → Nat} {bar : Bool} {S L : Nat → Nat → Prop} {h h' : CH} (c : Mc n X bk P bar h) (hF : Fz S L h h') (h1 : ∀ k, k = 3 ∨ k = 11 ∨ k = 26 ∨ k = 47 → ¬ S 151 k) (h2 : ∀ k, ¬ S 153 k) (h3 : ∀ k, ¬ S 154 k) : Mc n X bk P bar h' := by
  obtain ⟨c1, c2, c3, c4, c5⟩ := c
  exact ⟨c1.fz hF (h1 _ (by omega)) (h1 _ (by omega)) h2, c2, by rw [hF.1 _ _ (h1 _ (by omega))]; exact c3, by rw [hF.1 _ _ (h3 _)]; exact c4, by rw [hF.1 _ _ (h1 _ (by omega))]; exact c5⟩
/-- units, within, pile, code -/
def Mp (u w : Nat) (Pl m : Cd) (h : CH) : Prop := h.1 151 37 = nI u ∧ h.1 151 38 = nI w ∧ h.1 151 39 = nI Pl.length ∧ PLk Pl h ∧ h.1 151 36 = nI (400 + m.length) ∧ CMk 400 m h
def xQ (a k : Nat) : Prop := (a = 151 ∧ (4 ≤ k ∧ k ≤ 9 ∨ 36 ≤ k ∧ k ≤ 39)) ∨ ((a = 168 ∨ a = 169) ∧ 400 ≤ k) ∨ a = 170 ∨ a = 171
theorem xM_Q : ∀ a k, xM a k → xQ a k := fun a k q => by unfold xM at q; unfold xQ; omega
theorem xG_Q : ∀ a k, xG a k → xQ a k := fun a k q => by unfold xG at q; unfold xQ; omega
theorem Mc.q {n bk P : Nat} {X : Nat → Nat} {bar : Bool} {h h' : CH} (c : Mc n X bk P bar h) (hF : Fz xQ lG h h') : Mc n X bk P bar h' := c.fz hF (fun k hk => by unfold xQ; omega) (fun k => by unfold xQ; omega) (fun k => by unfold xQ; omega)
theorem Mp.fz {u w : Nat} {Pl m : Cd} {S L : Nat → Nat → Prop} {h h' : CH} (c : Mp u w Pl m h) (hF : Fz S L h h') (h1 : ∀ k, 36 ≤ k → k ≤ 39 → ¬ S 151 k) (h2 : ∀ a k, 168 ≤ a → a ≤ 171 → ¬ S a k) : Mp u w Pl m h' := by
  obtain ⟨c1, c2, c3, c4, c5, c6⟩ := c
  exact ⟨by rw [hF.1 _ _ (h1 _ (by omega) (by omega))]; exact c1, by rw [hF.1 _ _ (h1 _ (by omega) (by omega))]; exact c2, by rw [hF.1 _ _ (h1 _ (by omega) (by omega))]; exact c3, c4.fz hF (fun k _ => ⟨h2 _ _ (by omega) (by omega), h2 _ _ (by omega) (by omega)⟩), by rw [hF.1 _ _ (h1 _ (by omega) (by omega))]; exact c5, c6.fz hF (fun k _ _ => ⟨h2 _ _ (by omega) (by omega), h2 _ _ (by omega) (by omega)⟩)⟩
theorem Mp.m {u w : Nat} {Pl m : Cd} {h h' : CH} (c : Mp u w Pl m h) (hF : Fz xM lG h h') : Mp u w Pl m h' := c.fz hF (fun k h1 h2 => by unfold xM; omega) (fun a k h1 h2 => by unfold xM; omega)
theorem Mp.g {u w : Nat} {Pl m : Cd} {h h' : CH} (c : Mp u w Pl m h) (hF : Fz xG lG h h') : Mp u w Pl m h' := c.m (hF.mono xG_M (fun _ _ q => q))
theorem m_emit {u w a b : Nat} {Pl m : Cd} {h : CH} (c : Mp u w Pl m h) (hl : m.length < 400) : ∃ h', f_X12_emit (nI a) (nI b) h = some ((), h') ∧ Mp u w Pl ((a, b) :: m) h' ∧ Fz (fun q k => (q = 151 ∧ k = 36) ∨ ((q = 168 ∨ q = 169) ∧ k = 400 + m.length)) (fun _ _ => False) h h' := by
  obtain ⟨c1, c2, c3, c4, c5, c6⟩ := c
  unfold f_X12_emit
  rw [c5, wrA_nI (by omega) (by omega), sI_ne (by omega), c5, wrA_nI (by omega) (by omega), wrF_eq, sI_ne (by omega), sI_ne (by omega), c5, uI_add]
  have g : Fz (fun q k => (q = 151 ∧ k = 36) ∨ ((q = 168 ∨ q = 169) ∧ k = 400 + m.length)) (fun _ _ => False) h (sI (sI (sI h 168 (400 + m.length) (nI a)) 169 (400 + m.length) (nI b)) 151 36 (nI (400 + m.length + 1))) := ((Fz.sI (by omega)).tr (Fz.sI (by omega))).tr (Fz.sI (by omega))
  refine ⟨_, rfl, ⟨?_, ?_, ?_, c4.fz g (fun k _ => ⟨by omega, by omega⟩), ?_, ?_, ?_, c6.fz g (fun k h1 h2 => ⟨by omega, by omega⟩)⟩, g⟩
  · rw [g.1 _ _ (by omega)]; exact c1
  · rw [g.1 _ _ (by omega)]; exact c2
  · rw [g.1 _ _ (by omega)]; exact c3
  · rw [sI_at, List.length_cons]; rfl
  · rw [sI_ne (by omega), sI_ne (by omega), sI_at]
  · rw [sI_ne (by omega), sI_at]
theorem m_push {u w a b : Nat} {Pl m : Cd} {h : CH} (c : Mp u w Pl m h) (hl : Pl.length < 90) : ∃ h', f_X12_pushE (nI a) (nI b) h = some ((), h') ∧ Mp u w ((a, b) :: Pl) m h' ∧ Fz (fun q k => (q = 151 ∧ k = 39) ∨ q = 170 ∨ q = 171) (fun _ _ => False) h h' := by
  obtain ⟨c1, c2, c3, c4, c5, c6⟩ := c
  unfold f_X12_pushE
  rw [c3, wrA_nI (by omega) (by omega), sI_ne (by omega), c3, wrA_nI (by omega) (by omega), wrF_eq, sI_ne (by omega), sI_ne (by omega), c3, uI_add]
  have g : Fz (fun q k => (q = 151 ∧ k = 39) ∨ ((q = 170 ∨ q = 171) ∧ k = Pl.length)) (fun _ _ => False) h (sI (sI (sI h 170 Pl.length (nI a)) 171 Pl.length (nI b)) 151 39 (nI (Pl.length + 1))) := ((Fz.sI (by omega)).tr (Fz.sI (by omega))).tr (Fz.sI (by omega))
  refine ⟨_, rfl, ⟨?_, ?_, ?_, ⟨?_, ?_, c4.fz g (fun k hk => ⟨by omega, by omega⟩)⟩, ?_, c6.fz g (fun k h1 h2 => ⟨by omega, by omega⟩)⟩, g.mono (fun a k q => by omega) (fun _ _ q => q)⟩
  · rw [g.1 _ _ (by omega)]; exact c1
  · rw [g.1 _ _ (by omega)]; exact c2
  · rw [sI_at, List.length_cons]
  · rw [sI_ne (by omega), sI_ne (by omega), sI_at]
  · rw [sI_ne (by omega), sI_at]
  · rw [g.1 _ _ (by omega)]; exact c5
/-- what comes off the pile, in the code -/
def flm : Cd → Cd → Cd
  | [], m => m
  | p :: ps, m => flm ps ((p.2, 0) :: m)
theorem flm_len : ∀ (pd m : Cd), (flm pd m).length = pd.length + m.length := by
  intro pd
  induction pd with
  | nil => intro m; simp [flm]
  | cons p ps ih => intro m; unfold flm; rw [ih, List.length_cons, List.length_cons]; omega
theorem flm_app : ∀ (a b m : Cd), flm (a ++ b) m = flm b (flm a m) := by
  intro a
  induction a with
  | nil => intro b m; rfl
  | cons p ps ih => intro b m; exact ih b _
def nots : Cd → Nat
  | [] => 0
  | p :: ps => (if p.1 = 3 then 1 else 0) + nots ps
theorem nots_app : ∀ (a b : Cd), nots (a ++ b) = nots a + nots b := by
  intro a
  induction a with
  | nil => intro b; simp [nots]
  | cons p ps ih => intro b; show _ + nots (ps ++ b) = _ + nots ps + nots b; rw [ih]; omega
/-- behind the pops -/
def m_bT (x1 : Int32) (h : CH) : Option (Int32 × CH) := (if 0 < x1 then jn (fun (s_8 : Int32) (s_9 : Int32) => cl (f_X12_pushE s_9 s_8 h) fun _ h_11 => cl (f_X12_goOn h_11) fun _ h_12 => some (nI 1, h_12)) fun (j_10 : Int32 → Int32 → Option (Int32 × CH)) => (if x1 = nI 2 then j_10 (nI 38) x1 else (if x1 = nI 1 then j_10 (nI 124) x1 else clp (f_X12_sign (h.1 151 6) h) fun v_15 => j_10 v_15 x1)) else wrF h 151 39 (h.1 151 39 - nI 1) fun h_16 => rdA h_16 170 90 (h_16.1 151 39) fun v_17 => (if v_17 = nI 7 then wrF h_16 151 38 (h_16.1 151 38 - nI 1) fun h_19 => clp (f_X12_is (nI 41) h_19) fun v_20 => cl (f_X12_must v_20 h_19) fun _ h_21 => some (nI 0, h_21) else some (nI 0, h_16)))
set_option maxHeartbeats 4000000 in
theorem m_pop {x : Nat × Nat} {St : Cd} {r : Nat} (hr : r ≤ 6) (hx : 6 < x.1 ∨ x.1 < r) (hx9 : x.1 < 9) {u : Nat} : ∀ pd f w m h, (∀ p ∈ pd, r ≤ p.1 ∧ p.1 ≤ 6) → pd.length < f → nots pd ≤ w → pd.length + m.length ≤ 400 → (pd ++ x :: St).length ≤ 90 → Mp u w (pd ++ x :: St) m h → ∃ h', f_X12_behindUnit_L23 (nI r) f h = m_bT (nI r) h' ∧ Mp u (w - nots pd) (x :: St) (flm pd m) h' ∧ Fz (fun q k => (q = 151 ∧ (k = 36 ∨ k = 38 ∨ k = 39)) ∨ ((q = 168 ∨ q = 169) ∧ 400 ≤ k)) (fun _ _ => False) h h' := by
  intro pd
  induction pd with
  | nil =>
    intro f w m h _ hf _ _ hl c
    obtain ⟨f, rfl⟩ : ∃ y, f = y + 1 := ⟨f - 1, by have : 0 < f := hf; omega⟩
    refine ⟨h, ?_, c, Fz.rf⟩
    obtain ⟨c1, c2, c3, c4, c5, c6⟩ := c
    have hl : St.length + 1 ≤ 90 := hl
    have c3 : h.1 151 39 = nI (St.length + 1) := c3
    have c4 : h.1 170 St.length = nI x.1 := c4.1
    conv => lhs; unfold f_X12_behindUnit_L23
    rw [c3, uI_sub (by omega), show St.length + 1 - 1 = St.length by omega, rdA_nI (by omega) (by omega), c4, jn_eq, rdA_nI (by omega) (by omega), c4]
    have e : (if 0 < nI r then jn (fun (s_8 : Int32) (s_9 : Int32) => cl (f_X12_pushE s_9 s_8 h) fun _ h_11 => cl (f_X12_goOn h_11) fun _ h_12 => some (nI 1, h_12)) fun (j_10 : Int32 → Int32 → Option (Int32 × CH)) => (if nI r = nI 2 then j_10 (nI 38) (nI r) else (if nI r = nI 1 then j_10 (nI 124) (nI r) else clp (f_X12_sign (h.1 151 6) h) fun v_15 => j_10 v_15 (nI r))) else wrF h 151 39 (nI St.length) fun h_16 => rdA h_16 170 90 (h_16.1 151 39) fun v_17 => (if v_17 = nI 7 then wrF h_16 151 38 (h_16.1 151 38 - nI 1) fun h_19 => clp (f_X12_is (nI 41) h_19) fun v_20 => cl (f_X12_must v_20 h_19) fun _ h_21 => some (nI 0, h_21) else some (nI 0, h_16))) = m_bT (nI r) h := by
      unfold m_bT
      rw [c3, uI_sub (by omega), show St.length + 1 - 1 = St.length by omega]
    rw [e]
    by_cases c7 : 6 < x.1
    · rw [if_pos (by rw [uI_lt (by omega) (by omega)]; exact c7)]
    · rw [if_neg (by rw [uI_lt (by omega) (by omega)]; exact c7), if_pos (by rw [uI_lt (by omega) (by omega)]; omega)]
  | cons p ps ih =>
    intro f w m h hp hf hw hm hl c
    obtain ⟨f, rfl⟩ : ∃ y, f = y + 1 := ⟨f - 1, by rw [List.length_cons] at hf; omega⟩
    rw [List.length_cons] at hf hm
    have hp0 := hp p (List.mem_cons_self ..)
    obtain ⟨c1, c2, c3, c4, c5, c6⟩ := c
    have hl : (ps ++ x :: St).length + 1 ≤ 90 := hl
    have c3 : h.1 151 39 = nI ((ps ++ x :: St).length + 1) := c3
    have c4a : h.1 170 (ps ++ x :: St).length = nI p.1 := c4.1
    have c4b : h.1 171 (ps ++ x :: St).length = nI p.2 := c4.2.1
    have c4c : PLk (ps ++ x :: St) h := c4.2.2
    generalize hL : (ps ++ x :: St).length = L at *
    have hnw : nots (p :: ps) = (if p.1 = 3 then 1 else 0) + nots ps := rfl
    rw [hnw] at hw
    have st : ∀ g w', Mp u w' (ps ++ x :: St) m g → nots ps ≤ w' → Fz (fun q k => (q = 151 ∧ (k = 38 ∨ k = 39))) (fun _ _ => False) h g → ∃ h', (rdA g 171 90 (nI L) fun v_29 => cl (f_X12_emit v_29 (nI 0) g) fun _ h_30 => f_X12_behindUnit_L23 (nI r) f h_30) = m_bT (nI r) h' ∧ Mp u (w' - nots ps) (x :: St) (flm ps ((p.2, 0) :: m)) h' ∧ Fz (fun q k => (q = 151 ∧ (k = 36 ∨ k = 38 ∨ k = 39)) ∨ ((q = 168 ∨ q = 169) ∧ 400 ≤ k)) (fun _ _ => False) h h' := by
      intro g w' cg hw' gF
      rw [rdA_nI (by omega) (by omega), gF.1 _ _ (by omega), c4b]
      obtain ⟨h2, e2, k2, f2⟩ := m_emit (a := p.2) (b := 0) cg (by omega)
      rw [e2, cl_some]
      obtain ⟨h3, e3, k3, f3⟩ := ih f w' ((p.2, 0) :: m) h2 (fun z hz => hp z (List.mem_cons_of_mem _ hz)) (by omega) hw' (by rw [List.length_cons]; omega) (by omega) k2
      exact ⟨h3, e3, k3, ((gF.mono (fun a k q => by omega) (fun _ _ q => q)).tr (f2.mono (fun a k q => by omega) (fun _ _ q => q))).tr f3⟩
    conv => enter [1, h', 1, 1]; unfold f_X12_behindUnit_L23
    rw [c3, uI_sub (by omega), show L + 1 - 1 = L by omega, rdA_nI (by omega) (by omega), c4a, jn_eq, if_neg (show ¬ nI 6 < nI p.1 from by rw [uI_lt (by omega) (by omega)]; omega), rdA_nI (by omega) (by omega), c4a, if_neg (show ¬ nI p.1 < nI r from by rw [uI_lt (by omega) (by omega)]; omega), wrF_eq, sI_at, rdA_nI (by omega) (by omega), sI_ne (by omega), c4a, jn_eq]
    have g1 : Fz (fun q k => (q = 151 ∧ (k = 38 ∨ k = 39))) (fun _ _ => False) h (sI h 151 39 (nI L)) := Fz.sI (by omega)
    have M1 : Mp u w (ps ++ x :: St) m (sI h 151 39 (nI L)) := by
      refine ⟨?_, ?_, ?_, c4c.fz g1 (fun k _ => ⟨by omega, by omega⟩), ?_, c6.fz g1 (fun k _ _ => ⟨by omega, by omega⟩)⟩
      · rw [sI_ne (by omega)]; exact c1
      · rw [sI_ne (by omega)]; exact c2
      · rw [sI_at, hL]
      · rw [sI_ne (by omega)]; exact c5
    by_cases cp : p.1 = 3
    · rw [if_pos cp] at hw
      rw [if_pos (show nI p.1 = nI 3 from by rw [cp]), wrF_eq, sI_ne (by omega), c2, uI_sub (by omega)]
      dsimp only
      rw [sI_ne (by omega), sI_at]
      have g2 : Fz (fun q k => (q = 151 ∧ (k = 38 ∨ k = 39))) (fun _ _ => False) h (sI (sI h 151 39 (nI L)) 151 38 (nI (w - 1))) := g1.tr (Fz.sI (by omega))
      have M2 : Mp u (w - 1) (ps ++ x :: St) m (sI (sI h 151 39 (nI L)) 151 38 (nI (w - 1))) := by
        obtain ⟨d1, d2, d3, d4, d5, d6⟩ := M1
        have gg : Fz (fun q k => q = 151 ∧ k = 38) (fun _ _ => False) (sI h 151 39 (nI L)) (sI (sI h 151 39 (nI L)) 151 38 (nI (w - 1))) := Fz.sI ⟨rfl, rfl⟩
        refine ⟨?_, sI_at, ?_, d4.fz gg (fun k _ => ⟨by omega, by omega⟩), ?_, d6.fz gg (fun k _ _ => ⟨by omega, by omega⟩)⟩
        · rw [gg.1 _ _ (by omega)]; exact d1
        · rw [gg.1 _ _ (by omega)]; exact d3
        · rw [gg.1 _ _ (by omega)]; exact d5
      obtain ⟨h', q1, q2, q3⟩ := st _ (w - 1) M2 (by omega) g2
      refine ⟨h', q1, ?_, q3⟩
      rw [hnw, if_pos cp, show w - (1 + nots ps) = w - 1 - nots ps by omega]
      exact q2
    · rw [if_neg cp] at hw
      rw [if_neg (show ¬ nI p.1 = nI 3 from by rw [uI_inj (by omega) (by omega)]; exact cp)]
      dsimp only
      rw [sI_at]
      obtain ⟨h', q1, q2, q3⟩ := st _ w M1 (by omega) g1
      refine ⟨h', q1, ?_, q3⟩
      rw [hnw, if_neg cp, Nat.zero_add]
      exact q2
