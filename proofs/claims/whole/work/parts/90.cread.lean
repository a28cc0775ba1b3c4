/-! the class reads a whole town -/
theorem c_line {T : Nat → Tk} {N i n : Nat} {d : Dr} {h : CH} (hT : TG n T N) (hV : VD d) (s : ST T N i d h) : CO xT lT h (f_X10_readLine h) (sLn T i d) (QL T N i) := by
  have hc := kC_lt hT s.1.2.1
  have x : ∀ k, k < 100 → (nI (kC (T i)) = nI k) = (kC (T i) = k) := fun k hk => uI_inj (by omega) (by omega)
  unfold f_X10_readLine sLn
  rw [s.1.2.2.2.1]
  simp only [x 0 (by omega), x 1 (by omega), x 5 (by omega), x 6 (by omega), x 9 (by omega)]
  by_cases c0 : kC (T i) = 0
  · rw [if_pos c0, if_pos c0]; exact (c_readPoints hT hV s c0).last
  rw [if_neg c0, if_neg c0]
  by_cases c1 : kC (T i) = 1
  · rw [if_pos c1, if_pos c1]; exact (c_readFace hT hV s c1).last
  rw [if_neg c1, if_neg c1]
  by_cases c5 : kC (T i) = 5
  · rw [if_pos c5, if_pos c5]; exact (c_readKnows hT hV s c5).last
  rw [if_neg c5, if_neg c5]
  by_cases c6 : kC (T i) = 6
  · rw [if_pos c6, if_pos c6]; exact (c_readPrinter hT hV s c6).last
  rw [if_neg c6, if_neg c6]
  by_cases c9 : kC (T i) = 9
  · rw [if_pos c9, if_pos c9]; exact (c_readNear hT hV s c9).last
  rw [if_neg c9, if_neg c9]
  exact c_er hT s.1 Fz.rf 2 _
/-- a whole text, line for line -/
def sTw (T : Nat → Tk) : Nat → Nat → Dr → Ex Dr
  | 0, _, d => .ok d
  | k + 1, i, d => if kC (T i) = 26 then .ok d else bd (sLn T i d) fun q => sTw T k q.1 q.2
theorem c_rdL {T : Nat → Tk} {N n : Nat} {h0 : CH} (hT : TG n T N) : ∀ k i d g x h, 2 * x ≤ i → N < i + k → k < g → ST T N i d h → VD d → Fz xT lT h0 h → CO xT lT h0 (f_X10_read_L9 g (nI x) h) (sTw T k i d) (fun d' h' => CD d' h' ∧ VD d' ∧ h'.1 2 13 = nI 0 ∧ h'.1 2 14 = -1) := by
  have hn := hT.1
  have hN := hT.2.2.1
  intro k
  induction k with
  | zero => intro i d g x h _ h2 _ s; have := s.1.2.1; omega
  | succ k ih =>
    intro i d g x h h1 h2 h3 s hV hF
    obtain ⟨g, rfl⟩ : ∃ y, g = y + 1 := ⟨g - 1, by omega⟩
    have hi := s.1.2.1
    have hc := kC_lt hT hi
    have y : (nI (kC (T i)) = nI 26) = (kC (T i) = 26) := uI_inj (by omega) (by omega)
    unfold f_X10_read_L9 sTw
    rw [if_pos (by rw [uI_lt (by omega) (by omega)]; omega), s.1.2.2.2.1]
    simp only [y]
    by_cases c : kC (T i) = 26
    · rw [if_pos c, if_pos c]
      exact ⟨h, rfl, ⟨s.2.1, hV, s.2.2.1, s.2.2.2⟩, hF⟩
    · rw [if_neg c, if_neg c]
      refine CO.bi ((c_line hT hV s).go hF (fun _ _ q => q) (fun _ _ q => q) (fun a h' p _ => p)) (fun q h4 p hF4 => ?_)
      obtain ⟨p1, p2, p3⟩ := p
      rw [uI_add]
      exact ih q.1 q.2 g (x + 1) h4 (by omega) (by omega) (by omega) p1 p2 hF4
def t0 : Tn := (5, 0, 0, nI 20, fun _ => nI 0, fun _ => nI 0, fun _ _ => nI 0, fun _ => nI 0, fun _ => nI 0, fun _ => nI 0)
def d0 : Dr := (t0, fun _ => [], false, false, 0)
theorem t0_V : VT t0 := ⟨by decide, by decide, by decide, by decide, ⟨20, by decide, rfl⟩, fun f hf => absurd hf (Nat.not_lt_zero f), fun f hf => absurd hf (Nat.not_lt_zero f), fun f hf => absurd hf (Nat.not_lt_zero f), fun p _ => ⟨0, by omega, rfl⟩, fun p _ => ⟨0, by omega, rfl⟩, fun f _ _ => rfl, fun f hf => absurd hf (Nat.not_lt_zero f)⟩
theorem t0_S : VS t0 := fun a _ ha => absurd ha (Nat.not_lt_zero a)
theorem d0_V : VD d0 := ⟨t0_V, t0_S, fun f hf => absurd hf (Nat.not_lt_zero f), by decide⟩
theorem c_clr2 : ∀ m g h, m ≤ 4 → 4 - m < g → (∀ p, p < m → h.1 53 p = nI 0 ∧ h.1 54 p = nI 0) → ∃ h', f_X9_clear_31_L44 g (nI m) h = some ((), h') ∧ (∀ p, p < 4 → h'.1 53 p = nI 0 ∧ h'.1 54 p = nI 0) ∧ Fr (fun a _ => a = 53 ∨ a = 54) h h' := by
  intro m g
  induction g generalizing m with
  | zero => intro h _ h2; omega
  | succ g ih =>
    intro h h1 h2 hp
    unfold f_X9_clear_31_L44
    by_cases c : m < 4
    · rw [if_pos (by rw [uI_lt (by omega) (by omega)]; exact c), c_setPr _ _ (by omega), cl_some, uI_add]
      obtain ⟨h', g1, g2, g3⟩ := ih (m + 1) (sI (sI h 53 m (nI 0)) 54 m (nI 0)) (by omega) (by omega) (fun p h3 => by
        by_cases e : p = m
        · rw [e, sI_ne (by omega), sI_at, sI_at]; exact ⟨rfl, rfl⟩
        · rw [sI_ne (by omega), sI_ne (by omega), sI_ne (by omega), sI_ne (by omega)]; exact hp p (by omega))
      exact ⟨h', g1, g2, ((Fr.sI (by omega)).tr (Fr.sI (by omega))).tr g3⟩
    · rw [if_neg (by rw [uI_lt (by omega) (by omega)]; exact c)]
      exact ⟨h, rfl, fun p h3 => hp p (by omega), Fr.rf⟩
theorem c_clr1 : ∀ m g h, m ≤ 16 → 16 - m < g → (∀ p, p < m → h.1 52 p = nI 0) → ∃ h', f_X9_clear_31_L23 g (nI m) h = some ((), h') ∧ (∀ p, p < 16 → h'.1 52 p = nI 0) ∧ (∀ p, p < 4 → h'.1 53 p = nI 0 ∧ h'.1 54 p = nI 0) ∧ Fr (fun a _ => 52 ≤ a ∧ a ≤ 54) h h' := by
  intro m g
  induction g generalizing m with
  | zero => intro h _ h2; omega
  | succ g ih =>
    intro h h1 h2 hp
    unfold f_X9_clear_31_L23
    by_cases c : m < 16
    · rw [if_pos (by rw [uI_lt (by omega) (by omega)]; exact c), wrA_nI (by omega) (by omega), uI_add]
      obtain ⟨h', g1, g2, g3, g4⟩ := ih (m + 1) (sI h 52 m (nI 0)) (by omega) (by omega) (fun p h3 => by
        by_cases e : p = m
        · rw [e, sI_at]
        · rw [sI_ne (by omega)]; exact hp p (by omega))
      exact ⟨h', g1, g2, g3, (Fr.sI (by omega)).tr g4⟩
    · rw [if_neg (by rw [uI_lt (by omega) (by omega)]; exact c)]
      obtain ⟨h', g1, g2, g3⟩ := c_clr2 0 FU h (by omega) (by show _ < 100000; omega) (fun p h3 => by omega)
      exact ⟨h', g1, fun p h3 => by rw [g3.1 _ _ (by omega)]; exact hp p (by omega), g2, g3.mono (fun a k q => by omega)⟩
theorem c_clear31 (h : CH) : ∃ h', f_X9_clear_31 h = some ((), h') ∧ CT 31 t0 h' ∧ Fr (fun a _ => 31 ≤ a ∧ a ≤ 54) h h' := by
  unfold f_X9_clear_31
  simp only [wrF_eq]
  have hF : Fr (fun a _ => 31 ≤ a ∧ a ≤ 54) h (sI (sI (sI (sI h 31 0 (nI 5)) 31 1 (nI 20)) 31 2 (nI 0)) 31 3 (nI 0)) := (((Fr.sI (by omega)).tr (Fr.sI (by omega))).tr (Fr.sI (by omega))).tr (Fr.sI (by omega))
  have e0 : (sI (sI (sI (sI h 31 0 (nI 5)) 31 1 (nI 20)) 31 2 (nI 0)) 31 3 (nI 0)).1 31 0 = nI 5 := by rw [sI_ne (by omega), sI_ne (by omega), sI_ne (by omega), sI_at]
  have e1 : (sI (sI (sI (sI h 31 0 (nI 5)) 31 1 (nI 20)) 31 2 (nI 0)) 31 3 (nI 0)).1 31 1 = nI 20 := by rw [sI_ne (by omega), sI_ne (by omega), sI_at]
  have e2 : (sI (sI (sI (sI h 31 0 (nI 5)) 31 1 (nI 20)) 31 2 (nI 0)) 31 3 (nI 0)).1 31 2 = nI 0 := by rw [sI_ne (by omega), sI_at]
  have e3 : (sI (sI (sI (sI h 31 0 (nI 5)) 31 1 (nI 20)) 31 2 (nI 0)) 31 3 (nI 0)).1 31 3 = nI 0 := by rw [sI_at]
  generalize sI (sI (sI (sI h 31 0 (nI 5)) 31 1 (nI 20)) 31 2 (nI 0)) 31 3 (nI 0) = g at *
  obtain ⟨h', g1, g2, g3, g4⟩ := c_clr1 0 FU g (by omega) (by show _ < 100000; omega) (fun p h3 => by omega)
  refine ⟨h', g1, ⟨?_, ?_, ?_, ?_, fun f hf => absurd hf (Nat.not_lt_zero f), fun f hf => absurd hf (Nat.not_lt_zero f), fun f hf => absurd hf (Nat.not_lt_zero f), g2, fun p hp => (g3 p hp).1, fun p hp => (g3 p hp).2⟩, hF.tr (g4.mono (fun a k q => by omega))⟩
  · rw [g4.1 _ _ (by omega)]; exact e0
  · rw [g4.1 _ _ (by omega)]; exact e1
  · rw [g4.1 _ _ (by omega)]; exact e2
  · rw [g4.1 _ _ (by omega)]; exact e3
theorem c_read {T : Nat → Tk} {N n : Nat} {h : CH} (hT : TG n T N) (u : CU T N 0 h) (h2 : h.1 193 2 = nI 0) (h3 : h.1 193 3 = nI 0) (h4 : h.1 193 4 = nI 0) (h13 : h.1 2 13 = nI 0) (h14 : h.1 2 14 = -1) : CO xT lT h (f_X10_read h) (sTw T (N + 1) 0 d0) (fun d' h' => CD d' h' ∧ VD d' ∧ h'.1 2 13 = nI 0 ∧ h'.1 2 14 = -1) := by
  have hn := hT.1
  have hN := hT.2.2.1
  unfold f_X10_read
  obtain ⟨g, g1, g2, g3⟩ := c_clear31 h
  rw [g1, cl_some]
  have gF : Fz (fun a _ => 31 ≤ a ∧ a ≤ 54) (fun _ _ => False) h g := Fz.fr g3
  have u2 := u.fz gF (by intro k hk; omega) (by intro c; omega) (by intro c; omega) (by intro c; exact id) id
  exact c_rdL hT (N + 1) 0 d0 FU 0 g (by omega) (by omega) (by show _ < 100000; omega) ⟨u2, ⟨g2, fun f hf => absurd hf (Nat.not_lt_zero f), by rw [gF.1 _ _ (by omega)]; exact h2, by rw [gF.1 _ _ (by omega)]; exact h3, by rw [gF.1 _ _ (by omega)]; exact h4⟩, by rw [gF.1 _ _ (by omega)]; exact h13, by rw [gF.1 _ _ (by omega)]; exact h14⟩ d0_V (gF.mono (fun a k q => by unfold xT; omega) (fun _ _ q => q.elim))
