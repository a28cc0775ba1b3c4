/-! the model reads a unit -/
def wcH (bar : Bool) (t : Nat) : Nat := if bar = true then (if t = 13 then 102 else if t = 2 then 107 else if t = 14 then 121 else if t = 15 then 108 else 0) else (if t = 16 then 115 else if t = 17 then 101 else if t = 18 then 109 else if t = 19 then 113 else if t = 20 then 97 else 0)
theorem wcH_lt (bar : Bool) (t : Nat) : wcH bar t < 128 := by
  unfold wcH
  repeat' split
  all_goals omega
theorem m_word {n : Nat} {X : Nat → Nat} {N i bk P : Nat} {bar : Bool} {h : CH} (hB : TXN true n X N) (hc : Mc n X bk P bar h) (u : Mu (tks true n X) N i h) : f_X12_wordHere h = some (nI (wcH bar (kC (tks true n X i)))) := by
  obtain ⟨b1, e1, f1⟩ := m_isW (j := i) (h := h) hB.2.1 (fun _ g => k8_13 g) (by omega)
  obtain ⟨b2, e2, f2⟩ := m_isW (j := i) (h := h) hB.2.1 (fun _ g => k8_2 g) (by omega)
  obtain ⟨b3, e3, f3⟩ := m_isW (j := i) (h := h) hB.2.1 (fun _ g => k8_14 g) (by omega)
  obtain ⟨b4, e4, f4⟩ := m_isW (j := i) (h := h) hB.2.1 (fun _ g => k8_15 g) (by omega)
  obtain ⟨b5, e5, f5⟩ := m_isW (j := i) (h := h) hB.2.1 (fun _ g => k8_16 g) (by omega)
  obtain ⟨b6, e6, f6⟩ := m_isW (j := i) (h := h) hB.2.1 (fun _ g => k8_17 g) (by omega)
  obtain ⟨b7, e7, f7⟩ := m_isW (j := i) (h := h) hB.2.1 (fun _ g => k8_18 g) (by omega)
  obtain ⟨b8, e8, f8⟩ := m_isW (j := i) (h := h) hB.2.1 (fun _ g => k8_19 g) (by omega)
  obtain ⟨b9, e9, f9⟩ := m_isW (j := i) (h := h) hB.2.1 (fun _ g => k8_20 g) (by omega)
  unfold f_X12_wordHere wcH
  rw [hc.2.2.2.2]
  cases bar with
  | true =>
    rw [if_neg (by decide), if_pos rfl, e1, clp_some, ifB, f1 u]
    by_cases c1 : kC (tks true n X i) = 13
    · rw [if_pos (decide_eq_true c1), if_pos c1]
    rw [if_neg (by simp [c1]), if_neg c1, e2, clp_some, ifB, f2 u]
    by_cases c2 : kC (tks true n X i) = 2
    · rw [if_pos (decide_eq_true c2), if_pos c2]
    rw [if_neg (by simp [c2]), if_neg c2, e3, clp_some, ifB, f3 u]
    by_cases c3 : kC (tks true n X i) = 14
    · rw [if_pos (decide_eq_true c3), if_pos c3]
    rw [if_neg (by simp [c3]), if_neg c3, e4, clp_some, ifB, f4 u]
    by_cases c4 : kC (tks true n X i) = 15
    · rw [if_pos (decide_eq_true c4), if_pos c4]
    rw [if_neg (by simp [c4]), if_neg c4]
  | false =>
    rw [if_pos (by decide), if_neg (show ¬ (false = true) by decide), e5, clp_some, ifB, f5 u]
    by_cases c1 : kC (tks true n X i) = 16
    · rw [if_pos (decide_eq_true c1), if_pos c1]
    rw [if_neg (by simp [c1]), if_neg c1, e6, clp_some, ifB, f6 u]
    by_cases c2 : kC (tks true n X i) = 17
    · rw [if_pos (decide_eq_true c2), if_pos c2]
    rw [if_neg (by simp [c2]), if_neg c2, e7, clp_some, ifB, f7 u]
    by_cases c3 : kC (tks true n X i) = 18
    · rw [if_pos (decide_eq_true c3), if_pos c3]
    rw [if_neg (by simp [c3]), if_neg c3, e8, clp_some, ifB, f8 u]
    by_cases c4 : kC (tks true n X i) = 19
    · rw [if_pos (decide_eq_true c4), if_pos c4]
    rw [if_neg (by simp [c4]), if_neg c4, e9, clp_some, ifB, f9 u]
    by_cases c5 : kC (tks true n X i) = 20
    · rw [if_pos (decide_eq_true c5), if_pos c5]
    rw [if_neg (by simp [c5]), if_neg c5]
theorem zz0 : (nI 0 = 0) = True := n00
theorem zz1 : (nI 1 = 0) = False := n10
theorem bI_z (b : Bool) : (bI b = 0) = (¬ b = true) := by rw [bI_0]; cases b <;> simp
set_option maxHeartbeats 4000000 in
theorem m_unitN {n : Nat} {X : Nat → Nat} {N i bk P u w : Nat} {bar : Bool} {x : Nat × Nat} {St m : Cd} {h : CH} (hB : TXN true n X N) (hc : Mc n X bk P bar h) (hu : Mu (tks true n X) N i h) (hp : Mp u w (x :: St) m h) (h9 : x.1 < 9) (hu40 : u ≤ 40) (hw7 : w ≤ 7) (hl : (x :: St).length < 90) (ht : kC (tks true n X i) = 23) (hx : x.1 ≤ 3 ∨ 7 ≤ x.1) (hw : w < 7) : ∃ h', f_X12_unit h = some (nI 1, h') ∧ i + 1 ≤ N ∧ Mu (tks true n X) N (i + 1) h' ∧ Mc n X bk P bar h' ∧ Mp u (w + 1) ((3, 126) :: x :: St) m h' ∧ Fz xQ lG h h' := by
  have hl : St.length + 1 < 90 := hl
  have hx9 : x.1 < 9 := h9
  have g : Mg (tks true n X) N n i (.ok () : Ex Unit) h := hu
  obtain ⟨b23, e23, f23⟩ := m_isW (j := i) (h := h) hB.2.1 (fun _ g => k8_23 g) (by omega)
  obtain ⟨b40, e40, f40⟩ := m_is hB hc.1 g (show 28 ≤ 40 by omega) (by omega)
  have f23 := f23 hu
  have f40 := f40 hu
  have ew := m_word hB hc hu
  obtain ⟨p1, p2, p3, p4, p5, p6⟩ := id hp
  have p3 : h.1 151 39 = nI (St.length + 1) := p3
  have lw := wcH_lt bar (kC (tks true n X i))
  have y3 : (nI 3 < nI x.1) = (3 < x.1) := uI_lt (by omega) (by omega)
  have y7 : (nI x.1 < nI 7) = (x.1 < 7) := uI_lt (by omega) (by omega)
  have yu : (nI u = nI 40) = (u = 40) := uI_inj (by omega) (by omega)
  have yw : (nI w = nI 7) = (w = 7) := uI_inj (by omega) (by omega)
  have yc : (nI (wcH bar (kC (tks true n X i))) = 0) = (wcH bar (kC (tks true n X i)) = 0) := uI_eq0 (by omega)
  have ya : (nI (wcH bar (kC (tks true n X i))) = nI 97) = (wcH bar (kC (tks true n X i)) = 97) := uI_inj (by omega) (by omega)
  have y4 : (h.1 151 8 = nI 4) = (kC (tks true n X i) = 25) := by rw [hu.2.2.2.2.2.1, ktq_of (by omega), ktq_4]
  have er : ∀ K : Int32 → Option (Int32 × CH), rdA h 170 90 (nI St.length) K = K (nI x.1) := fun K => by rw [rdA_nI (by omega) (by omega), p4.1]
  unfold f_X12_unit
  rw [p3, uI_sub (by omega), show St.length + 1 - 1 = St.length by omega, rdA_nI (by omega) (by omega), p4.1, e23, e40, ew, f23, f40]
  have q1 : (kC (tks true n X i) = 40) = False := by rw [ht]; simp
  have q3 : (kC (tks true n X i) = 23) = True := eq_true ht
  have q4 : (w = 7) = False := eq_false (by omega)
  have q5 : (if 3 < x.1 then (if x.1 < 7 then (False : Prop) else True) else True) = True := by
    rcases hx with z | z
    · rw [if_neg (by omega)]
    · by_cases y : 3 < x.1
      · rw [if_pos y, if_neg (by omega)]
      · rw [if_neg y]
  have go : ∃ h', (cl (f_X12_goOn (sI h 151 37 (nI u + nI 0))) fun _ h_18 => cl (f_X12_pushE (nI 3) (nI 126) h_18) fun _ h_22 => wrF h_22 151 38 (h_22.1 151 38 + nI 1) fun h_23 => some (nI 1, h_23)) = some (nI 1, h') ∧ i + 1 ≤ N ∧ Mu (tks true n X) N (i + 1) h' ∧ Mc n X bk P bar h' ∧ Mp u (w + 1) ((3, 126) :: x :: St) m h' ∧ Fz xQ lG h h' := by
    rw [uI_add, Nat.add_zero, sI_id p1]
    obtain ⟨li, h3, e3, u3, L3, f3⟩ := m_next hB hc.1 hu (by unfold kLast; omega)
    have F3 : Fz xQ lG h h3 := f3.mono xG_Q (fun _ _ q => q)
    obtain ⟨h4, e4, k4, f4⟩ := m_push (a := 3) (b := 126) (hp.g f3) hl
    have F4 := F3.tr (f4.mono (S' := xQ) (L' := lG) (fun a k q => by unfold xQ; omega) (fun _ _ q => q.elim))
    have u4 := u3.p f4 (fun k h1 h2 => by omega)
    obtain ⟨d1, d2, d3, d4, d5, d6⟩ := k4
    have g5 : Fz (fun a k => a = 151 ∧ k = 38) (fun _ _ => False) h4 (sI h4 151 38 (nI (w + 1))) := Fz.sI ⟨rfl, rfl⟩
    have F5 := F4.tr (g5.mono (S' := xQ) (L' := lG) (fun a k q => by unfold xQ; omega) (fun _ _ q => q.elim))
    refine ⟨_, by rw [e3, cl_some, e4, cl_some, wrF_eq, d2, uI_add], li, u4.p g5 (fun k h1 h2 => by omega), hc.q F5, ⟨?_, sI_at, ?_, d4.fz g5 (fun k _ => ⟨by omega, by omega⟩), ?_, d6.fz g5 (fun k _ _ => ⟨by omega, by omega⟩)⟩, F5⟩
    · rw [g5.1 _ _ (by omega)]; exact d1
    · rw [g5.1 _ _ (by omega)]; exact d3
    · rw [g5.1 _ _ (by omega)]; exact d5
  simp only [jn_eq, clp_some, er, y3, y7, p1, p2, yu, yw, yc, ya, y4, bI_z, zz0, zz1, decide_eq_true_eq, not_true_eq_false, not_false_eq_true, if_true, if_false, ite_self, q1, q3, q4]
  rw [m_good1 hu.2.1]
  simp only [jn_eq, clp_some, er, y3, y7, p1, p2, yu, yw, yc, ya, y4, bI_z, zz0, zz1, decide_eq_true_eq, not_true_eq_false, not_false_eq_true, if_true, if_false, ite_self, q1, q3, q4]
  by_cases y : 3 < x.1
  · have y2 : ¬ x.1 < 7 := by omega
    simp only [if_pos y, if_neg y2]
    exact go
  · simp only [if_neg y]
    exact go
set_option maxHeartbeats 4000000 in
theorem m_unitV {n : Nat} {X : Nat → Nat} {N i bk P u w : Nat} {bar : Bool} {x : Nat × Nat} {St m : Cd} {h : CH} (hB : TXN true n X N) (hc : Mc n X bk P bar h) (hu : Mu (tks true n X) N i h) (hp : Mp u w (x :: St) m h) (h9 : x.1 < 9) (hu40 : u ≤ 40) (hw7 : w ≤ 7) (hl : (x :: St).length < 90) (ht : kC (tks true n X i) ≠ 23) (ht2 : kC (tks true n X i) ≠ 40) (hv : kC (tks true n X i) = 25 ∧ wcH bar (kC (tks true n X i)) = 0 ∨ wcH bar (kC (tks true n X i)) ≠ 0 ∧ wcH bar (kC (tks true n X i)) ≠ 97) (nl : ¬ kLast (tks true n X i)) (hu4 : u < 40) (hm : m.length < 400) : ∃ h', f_X12_unit h = some (nI 0, h') ∧ i + 1 ≤ N ∧ Mu (tks true n X) N (i + 1) h' ∧ Mc n X bk P bar h' ∧ Mp (u + 1) w (x :: St) ((if wcH bar (kC (tks true n X i)) = 0 then (110, kV (tks true n X i)) else (wcH bar (kC (tks true n X i)), 0)) :: m) h' ∧ Fz xQ lG h h' := by
  have hl : St.length + 1 < 90 := hl
  have hx9 : x.1 < 9 := h9
  have g : Mg (tks true n X) N n i (.ok () : Ex Unit) h := hu
  obtain ⟨b23, e23, f23⟩ := m_isW (j := i) (h := h) hB.2.1 (fun _ g => k8_23 g) (by omega)
  obtain ⟨b40, e40, f40⟩ := m_is hB hc.1 g (show 28 ≤ 40 by omega) (by omega)
  have f23 := f23 hu
  have f40 := f40 hu
  have ew := m_word hB hc hu
  obtain ⟨p1, p2, p3, p4, p5, p6⟩ := id hp
  have p3 : h.1 151 39 = nI (St.length + 1) := p3
  have lw := wcH_lt bar (kC (tks true n X i))
  have y3 : (nI 3 < nI x.1) = (3 < x.1) := uI_lt (by omega) (by omega)
  have y7 : (nI x.1 < nI 7) = (x.1 < 7) := uI_lt (by omega) (by omega)
  have yu : (nI u = nI 40) = (u = 40) := uI_inj (by omega) (by omega)
  have yw : (nI w = nI 7) = (w = 7) := uI_inj (by omega) (by omega)
  have yc : (nI (wcH bar (kC (tks true n X i))) = 0) = (wcH bar (kC (tks true n X i)) = 0) := uI_eq0 (by omega)
  have ya : (nI (wcH bar (kC (tks true n X i))) = nI 97) = (wcH bar (kC (tks true n X i)) = 97) := uI_inj (by omega) (by omega)
  have y4 : (h.1 151 8 = nI 4) = (kC (tks true n X i) = 25) := by rw [hu.2.2.2.2.2.1, ktq_of (by omega), ktq_4]
  have er : ∀ K : Int32 → Option (Int32 × CH), rdA h 170 90 (nI St.length) K = K (nI x.1) := fun K => by rw [rdA_nI (by omega) (by omega), p4.1]
  unfold f_X12_unit
  rw [p3, uI_sub (by omega), show St.length + 1 - 1 = St.length by omega, rdA_nI (by omega) (by omega), p4.1, e23, e40, ew, f23, f40]
  have q1 : (kC (tks true n X i) = 40) = False := eq_false ht2
  have q3 : (kC (tks true n X i) = 23) = False := eq_false ht
  have q4 : (u = 40) = False := eq_false (by omega)
  have g5 : Fz (fun a k => a = 151 ∧ k = 37) (fun _ _ => False) h (sI h 151 37 (nI (u + 1))) := Fz.sI ⟨rfl, rfl⟩
  have F5 : Fz xQ lG h (sI h 151 37 (nI (u + 1))) := g5.mono (fun a k q => by unfold xQ; omega) (fun _ _ q => q.elim)
  have k5 : Mp (u + 1) w (x :: St) m (sI h 151 37 (nI (u + 1))) := ⟨sI_at, by rw [g5.1 _ _ (by omega)]; exact p2, by rw [g5.1 _ _ (by omega)]; exact p3, p4.fz g5 (fun k _ => ⟨by omega, by omega⟩), by rw [g5.1 _ _ (by omega)]; exact p5, p6.fz g5 (fun k _ _ => ⟨by omega, by omega⟩)⟩
  have u5 := hu.p g5 (fun k h1 h2 => by omega)
  have c5 := hc.q F5
  have go : ∀ a b, ∃ h', (cl (f_X12_goOn (sI h 151 37 (nI u + nI 1))) fun _ h_18 => cl (f_X12_emit (nI a) (nI b) h_18) fun _ h_32 => some (nI 0, h_32)) = some (nI 0, h') ∧ i + 1 ≤ N ∧ Mu (tks true n X) N (i + 1) h' ∧ Mc n X bk P bar h' ∧ Mp (u + 1) w (x :: St) ((a, b) :: m) h' ∧ Fz xQ lG h h' := by
    intro a b
    rw [uI_add]
    obtain ⟨li, h3, e3, u3, L3, f3⟩ := m_next hB c5.1 u5 nl
    have F3 : Fz xQ lG h h3 := F5.tr (f3.mono xG_Q (fun _ _ q => q))
    obtain ⟨h4, e4, k4, f4⟩ := m_emit (a := a) (b := b) (k5.g f3) hm
    have F4 := F3.tr (f4.mono (S' := xQ) (L' := lG) (fun a k q => by unfold xQ; omega) (fun _ _ q => q.elim))
    have u4 := u3.p f4 (fun k h1 h2 => by omega)
    exact ⟨h4, by rw [e3, cl_some, e4, cl_some], li, u4, hc.q F4, k4, F4⟩
  rcases hv with ⟨v1, v2⟩ | ⟨v1, v2⟩
  · have q5 : (wcH bar (kC (tks true n X i)) = 0) = True := eq_true v2
    have q6 : (kC (tks true n X i) = 25) = True := eq_true v1
    have q7 : (wcH bar (kC (tks true n X i)) = 97) = False := eq_false (by omega)
    have q9 : h.1 151 9 = nI (kV (tks true n X i)) := hu.2.2.2.2.2.2.1 v1
    simp only [jn_eq, clp_some, er, y3, y7, p1, p2, yu, yw, yc, ya, y4, bI_z, zz0, zz1, decide_eq_true_eq, not_true_eq_false, not_false_eq_true, if_true, if_false, ite_self, q1, q3, q4, q5, q6, q7]
    rw [m_good1 hu.2.1]
    simp only [jn_eq, clp_some, er, y3, y7, p1, p2, yu, yw, yc, ya, y4, bI_z, zz0, zz1, decide_eq_true_eq, not_true_eq_false, not_false_eq_true, if_true, if_false, ite_self, q1, q3, q4, q5, q6, q7, wrF_eq]
    rw [sI_ne (by omega), q9]
    exact go 110 (kV (tks true n X i))
  · have q5 : (wcH bar (kC (tks true n X i)) = 0) = False := eq_false v1
    have q7 : (wcH bar (kC (tks true n X i)) = 97) = False := eq_false v2
    simp only [jn_eq, clp_some, er, y3, y7, p1, p2, yu, yw, yc, ya, y4, bI_z, zz0, zz1, decide_eq_true_eq, not_true_eq_false, not_false_eq_true, if_true, if_false, ite_self, q1, q3, q4, q5, q7]
    rw [m_good1 hu.2.1]
    simp only [jn_eq, clp_some, er, y3, y7, p1, p2, yu, yw, yc, ya, y4, bI_z, zz0, zz1, decide_eq_true_eq, not_true_eq_false, not_false_eq_true, if_true, if_false, ite_self, q1, q3, q4, q5, q7, wrF_eq]
    exact go _ 0
set_option maxHeartbeats 4000000 in
theorem m_unitP {n : Nat} {X : Nat → Nat} {N i bk P u w : Nat} {bar : Bool} {x : Nat × Nat} {St m : Cd} {h : CH} (hB : TXN true n X N) (hc : Mc n X bk P bar h) (hu : Mu (tks true n X) N i h) (hp : Mp u w (x :: St) m h) (h9 : x.1 < 9) (hu40 : u ≤ 40) (hw7 : w ≤ 7) (hl : (x :: St).length < 90) (ht : kC (tks true n X i) = 40) (hu4 : u < 40) (hw : w < 7) : ∃ h', f_X12_unit h = some (nI 1, h') ∧ i + 1 ≤ N ∧ Mu (tks true n X) N (i + 1) h' ∧ Mc n X bk P bar h' ∧ Mp (u + 1) (w + 1) ((7, 126) :: x :: St) m h' ∧ Fz xQ lG h h' := by
  have hl : St.length + 1 < 90 := hl
  have hx9 : x.1 < 9 := h9
  have g : Mg (tks true n X) N n i (.ok () : Ex Unit) h := hu
  obtain ⟨b23, e23, f23⟩ := m_isW (j := i) (h := h) hB.2.1 (fun _ g => k8_23 g) (by omega)
  obtain ⟨b40, e40, f40⟩ := m_is hB hc.1 g (show 28 ≤ 40 by omega) (by omega)
  have f23 := f23 hu
  have f40 := f40 hu
  have ew := m_word hB hc hu
  obtain ⟨p1, p2, p3, p4, p5, p6⟩ := id hp
  have p3 : h.1 151 39 = nI (St.length + 1) := p3
  have lw := wcH_lt bar (kC (tks true n X i))
  have y3 : (nI 3 < nI x.1) = (3 < x.1) := uI_lt (by omega) (by omega)
  have y7 : (nI x.1 < nI 7) = (x.1 < 7) := uI_lt (by omega) (by omega)
  have yu : (nI u = nI 40) = (u = 40) := uI_inj (by omega) (by omega)
  have yw : (nI w = nI 7) = (w = 7) := uI_inj (by omega) (by omega)
  have yc : (nI (wcH bar (kC (tks true n X i))) = 0) = (wcH bar (kC (tks true n X i)) = 0) := uI_eq0 (by omega)
  have ya : (nI (wcH bar (kC (tks true n X i))) = nI 97) = (wcH bar (kC (tks true n X i)) = 97) := uI_inj (by omega) (by omega)
  have y4 : (h.1 151 8 = nI 4) = (kC (tks true n X i) = 25) := by rw [hu.2.2.2.2.2.1, ktq_of (by omega), ktq_4]
  have er : ∀ K : Int32 → Option (Int32 × CH), rdA h 170 90 (nI St.length) K = K (nI x.1) := fun K => by rw [rdA_nI (by omega) (by omega), p4.1]
  unfold f_X12_unit
  rw [p3, uI_sub (by omega), show St.length + 1 - 1 = St.length by omega, rdA_nI (by omega) (by omega), p4.1, e23, e40, ew, f23, f40]
  have q1 : (kC (tks true n X i) = 40) = True := eq_true ht
  have q3 : (kC (tks true n X i) = 23) = False := eq_false (by omega)
  have q2 : (w = 7) = False := eq_false (by omega)
  have q4 : (u = 40) = False := eq_false (by omega)
  have q5 : (wcH bar (kC (tks true n X i)) = 0) = True := by rw [ht]; cases bar <;> exact eq_true rfl
  have q6 : (kC (tks true n X i) = 25) = False := eq_false (by omega)
  have g5 : Fz (fun a k => a = 151 ∧ k = 37) (fun _ _ => False) h (sI h 151 37 (nI (u + 1))) := Fz.sI ⟨rfl, rfl⟩
  have F5 : Fz xQ lG h (sI h 151 37 (nI (u + 1))) := g5.mono (fun a k q => by unfold xQ; omega) (fun _ _ q => q.elim)
  have k5 : Mp (u + 1) w (x :: St) m (sI h 151 37 (nI (u + 1))) := ⟨sI_at, by rw [g5.1 _ _ (by omega)]; exact p2, by rw [g5.1 _ _ (by omega)]; exact p3, p4.fz g5 (fun k _ => ⟨by omega, by omega⟩), by rw [g5.1 _ _ (by omega)]; exact p5, p6.fz g5 (fun k _ _ => ⟨by omega, by omega⟩)⟩
  have u5 := hu.p g5 (fun k h1 h2 => by omega)
  have c5 := hc.q F5
  simp only [jn_eq, clp_some, er, y3, y7, p1, p2, yu, yw, yc, ya, y4, bI_z, zz0, zz1, decide_eq_true_eq, not_true_eq_false, not_false_eq_true, if_true, if_false, ite_self, q1, q2, q3, q4, q5, q6]
  rw [m_good1 hu.2.1]
  simp only [jn_eq, clp_some, er, y3, y7, p1, p2, yu, yw, yc, ya, y4, bI_z, zz0, zz1, decide_eq_true_eq, not_true_eq_false, not_false_eq_true, if_true, if_false, ite_self, q1, q2, q3, q4, q5, q6, wrF_eq]
  rw [uI_add]
  obtain ⟨li, h3, e3, u3, L3, f3⟩ := m_next hB c5.1 u5 (by unfold kLast; omega)
  have F3 : Fz xQ lG h h3 := F5.tr (f3.mono xG_Q (fun _ _ q => q))
  obtain ⟨h4, e4, k4, f4⟩ := m_push (a := 7) (b := 126) (k5.g f3) hl
  have F4 := F3.tr (f4.mono (S' := xQ) (L' := lG) (fun a k q => by unfold xQ; omega) (fun _ _ q => q.elim))
  have u4 := u3.p f4 (fun k h1 h2 => by omega)
  obtain ⟨d1, d2, d3, d4, d5, d6⟩ := k4
  have g6 : Fz (fun a k => a = 151 ∧ k = 38) (fun _ _ => False) h4 (sI h4 151 38 (nI (w + 1))) := Fz.sI ⟨rfl, rfl⟩
  have F6 := F4.tr (g6.mono (S' := xQ) (L' := lG) (fun a k q => by unfold xQ; omega) (fun _ _ q => q.elim))
  refine ⟨_, by rw [e3, cl_some, e4, cl_some, d2, uI_add], li, u4.p g6 (fun k h1 h2 => by omega), hc.q F6, ⟨?_, sI_at, ?_, d4.fz g6 (fun k _ => ⟨by omega, by omega⟩), ?_, d6.fz g6 (fun k _ _ => ⟨by omega, by omega⟩)⟩, F6⟩
  · rw [g6.1 _ _ (by omega)]; exact d1
  · rw [g6.1 _ _ (by omega)]; exact d3
  · rw [g6.1 _ _ (by omega)]; exact d5
set_option maxHeartbeats 4000000 in
theorem m_unitA {n : Nat} {X : Nat → Nat} {N i bk P u w : Nat} {bar : Bool} {x : Nat × Nat} {St m : Cd} {h : CH} (hB : TXN true n X N) (hc : Mc n X bk P bar h) (hu : Mu (tks true n X) N i h) (hp : Mp u w (x :: St) m h) (h9 : x.1 < 9) (hu40 : u ≤ 40) (hw7 : w ≤ 7) (hl : (x :: St).length < 90) (hP1 : 1 ≤ P) (hP : P ≤ 8) (hb : bar = false) (ht : kC (tks true n X i) = 20) (hu4 : u < 40) (hm : m.length < 400) : ∃ h', f_X12_unit h = some (nI 0, h') ∧ Mc n X bk P bar h' ∧ Fz xQ lG h h' ∧ (match sNm (tks true n X) (i + 1) 0 (P - 1) with
    | .error e => Mf n e h'
    | .ok v => Mu (tks true n X) N (i + 2) h' ∧ Mp (u + 1) w (x :: St) ((97, v) :: m) h') := by
  have hl : St.length + 1 < 90 := hl
  have hx9 : x.1 < 9 := h9
  have g : Mg (tks true n X) N n i (.ok () : Ex Unit) h := hu
  obtain ⟨b23, e23, f23⟩ := m_isW (j := i) (h := h) hB.2.1 (fun _ g => k8_23 g) (by omega)
  obtain ⟨b40, e40, f40⟩ := m_is hB hc.1 g (show 28 ≤ 40 by omega) (by omega)
  have f23 := f23 hu
  have f40 := f40 hu
  have ew := m_word hB hc hu
  obtain ⟨p1, p2, p3, p4, p5, p6⟩ := id hp
  have p3 : h.1 151 39 = nI (St.length + 1) := p3
  have lw := wcH_lt bar (kC (tks true n X i))
  have y3 : (nI 3 < nI x.1) = (3 < x.1) := uI_lt (by omega) (by omega)
  have y7 : (nI x.1 < nI 7) = (x.1 < 7) := uI_lt (by omega) (by omega)
  have yu : (nI u = nI 40) = (u = 40) := uI_inj (by omega) (by omega)
  have yw : (nI w = nI 7) = (w = 7) := uI_inj (by omega) (by omega)
  have yc : (nI (wcH bar (kC (tks true n X i))) = 0) = (wcH bar (kC (tks true n X i)) = 0) := uI_eq0 (by omega)
  have ya : (nI (wcH bar (kC (tks true n X i))) = nI 97) = (wcH bar (kC (tks true n X i)) = 97) := uI_inj (by omega) (by omega)
  have y4 : (h.1 151 8 = nI 4) = (kC (tks true n X i) = 25) := by rw [hu.2.2.2.2.2.1, ktq_of (by omega), ktq_4]
  have er : ∀ K : Int32 → Option (Int32 × CH), rdA h 170 90 (nI St.length) K = K (nI x.1) := fun K => by rw [rdA_nI (by omega) (by omega), p4.1]
  unfold f_X12_unit
  rw [p3, uI_sub (by omega), show St.length + 1 - 1 = St.length by omega, rdA_nI (by omega) (by omega), p4.1, e23, e40, ew, f23, f40]
  have q1 : (kC (tks true n X i) = 40) = False := eq_false (by omega)
  have q3 : (kC (tks true n X i) = 23) = False := eq_false (by omega)
  have q4 : (u = 40) = False := eq_false (by omega)
  have w97 : wcH bar (kC (tks true n X i)) = 97 := by rw [ht, hb]; rfl
  have q5 : (wcH bar (kC (tks true n X i)) = 0) = False := eq_false (by omega)
  have q7 : (wcH bar (kC (tks true n X i)) = 97) = True := eq_true w97
  have g5 : Fz (fun a k => a = 151 ∧ k = 37) (fun _ _ => False) h (sI h 151 37 (nI (u + 1))) := Fz.sI ⟨rfl, rfl⟩
  have F5 : Fz xQ lG h (sI h 151 37 (nI (u + 1))) := g5.mono (fun a k q => by unfold xQ; omega) (fun _ _ q => q.elim)
  have k5 : Mp (u + 1) w (x :: St) m (sI h 151 37 (nI (u + 1))) := ⟨sI_at, by rw [g5.1 _ _ (by omega)]; exact p2, by rw [g5.1 _ _ (by omega)]; exact p3, p4.fz g5 (fun k _ => ⟨by omega, by omega⟩), by rw [g5.1 _ _ (by omega)]; exact p5, p6.fz g5 (fun k _ _ => ⟨by omega, by omega⟩)⟩
  have u5 := hu.p g5 (fun k h1 h2 => by omega)
  have c5 := hc.q F5
  simp only [jn_eq, clp_some, er, y3, y7, p1, p2, yu, yw, yc, ya, y4, bI_z, zz0, zz1, decide_eq_true_eq, not_true_eq_false, not_false_eq_true, if_true, if_false, ite_self, q1, q3, q4, q5, q7]
  rw [m_good1 hu.2.1]
  simp only [jn_eq, clp_some, er, y3, y7, p1, p2, yu, yw, yc, ya, y4, bI_z, zz0, zz1, decide_eq_true_eq, not_true_eq_false, not_false_eq_true, if_true, if_false, ite_self, q1, q3, q4, q5, q7, wrF_eq]
  rw [uI_add]
  obtain ⟨li, h3, e3, u3, L3, f3⟩ := m_next hB c5.1 u5 (by unfold kLast; omega)
  have F3 : Fz xQ lG h h3 := F5.tr (f3.mono xG_Q (fun _ _ q => q))
  have c3 := hc.q F3
  have G3 : Mg (tks true n X) N n (i + 1) (.ok () : Ex Unit) h3 := u3
  obtain ⟨v, h4, e4, k4, v1, v2, v3, L4, f4⟩ := m_num (lo := 0) (hi := P - 1) hB L3 G3 (by omega) (by omega)
  have F4 : Fz xQ lG h h4 := F3.tr (f4.mono xM_Q (fun _ _ q => q))
  obtain ⟨h6, e6, k6, f6⟩ := m_emit (a := 97) (b := v) ((k5.g f3).m f4) hm
  have F6 := F4.tr (f6.mono (S' := xQ) (L' := lG) (fun a k q => by unfold xQ; omega) (fun _ _ q => q.elim))
  have hb1 := hc.2.1
  refine ⟨h6, by rw [e3, cl_some, c3.2.2.1, rdA_nI (by omega) (by omega), c3.2.2.2.1, uI_sub hP1, e4, cl_some, w97, e6, cl_some], hc.q F6, F6, ?_⟩
  revert k4
  cases es : sNm (tks true n X) (i + 1) 0 (P - 1) with
  | error e =>
    intro k4
    exact Mf.fz (h := h4) k4 f6 (fun k h1 h2 => by omega)
  | ok z =>
    intro k4
    have k4 : Mu (tks true n X) N (i + 2) h4 := k4
    have ev := v3 () z rfl es
    subst ev
    exact ⟨k4.p f6 (fun k h1 h2 => by omega), k6⟩
set_option maxHeartbeats 4000000 in
theorem m_unitB {n : Nat} {X : Nat → Nat} {N i bk P u w : Nat} {bar : Bool} {x : Nat × Nat} {St m : Cd} {h : CH} (hB : TXN true n X N) (hc : Mc n X bk P bar h) (hu : Mu (tks true n X) N i h) (hp : Mp u w (x :: St) m h) (h9 : x.1 < 9) (hu40 : u ≤ 40) (hw7 : w ≤ 7) (hl : (x :: St).length < 90) (hbad : (kC (tks true n X i) = 23 ∧ (x.1 ≤ 3 ∨ 7 ≤ x.1) ∧ w = 7) ∨ (kC (tks true n X i) = 23 ∧ 4 ≤ x.1 ∧ x.1 ≤ 6) ∨ (kC (tks true n X i) ≠ 23 ∧ (u = 40 ∨ (wcH bar (kC (tks true n X i)) = 0 ∧ kC (tks true n X i) ≠ 25 ∧ kC (tks true n X i) ≠ 40) ∨ (kC (tks true n X i) = 40 ∧ w = 7)))) : ∃ h', f_X12_unit h = some (nI 1, h') ∧ Mf n (flK (tks true n X) i 2, kS (tks true n X i)) h' ∧ Mc n X bk P bar h' ∧ Fz xQ lG h h' := by
  have hl : St.length + 1 < 90 := hl
  have hx9 : x.1 < 9 := h9
  have g : Mg (tks true n X) N n i (.ok () : Ex Unit) h := hu
  obtain ⟨b23, e23, f23⟩ := m_isW (j := i) (h := h) hB.2.1 (fun _ g => k8_23 g) (by omega)
  obtain ⟨b40, e40, f40⟩ := m_is hB hc.1 g (show 28 ≤ 40 by omega) (by omega)
  have f23 := f23 hu
  have f40 := f40 hu
  have ew := m_word hB hc hu
  obtain ⟨p1, p2, p3, p4, p5, p6⟩ := id hp
  have p3 : h.1 151 39 = nI (St.length + 1) := p3
  have lw := wcH_lt bar (kC (tks true n X i))
  have y3 : (nI 3 < nI x.1) = (3 < x.1) := uI_lt (by omega) (by omega)
  have y7 : (nI x.1 < nI 7) = (x.1 < 7) := uI_lt (by omega) (by omega)
  have yu : (nI u = nI 40) = (u = 40) := uI_inj (by omega) (by omega)
  have yw : (nI w = nI 7) = (w = 7) := uI_inj (by omega) (by omega)
  have yc : (nI (wcH bar (kC (tks true n X i))) = 0) = (wcH bar (kC (tks true n X i)) = 0) := uI_eq0 (by omega)
  have ya : (nI (wcH bar (kC (tks true n X i))) = nI 97) = (wcH bar (kC (tks true n X i)) = 97) := uI_inj (by omega) (by omega)
  have y4 : (h.1 151 8 = nI 4) = (kC (tks true n X i) = 25) := by rw [hu.2.2.2.2.2.1, ktq_of (by omega), ktq_4]
  have er : ∀ K : Int32 → Option (Int32 × CH), rdA h 170 90 (nI St.length) K = K (nI x.1) := fun K => by rw [rdA_nI (by omega) (by omega), p4.1]
  unfold f_X12_unit
  rw [p3, uI_sub (by omega), show St.length + 1 - 1 = St.length by omega, rdA_nI (by omega) (by omega), p4.1, e23, e40, ew, f23, f40]
  obtain ⟨h', m1, m2, m3⟩ := m_mis1 hB.2.1 hu
  have F := m3.mono (S' := xQ) (L' := lG) xM_Q (fun _ _ q => q)
  refine ⟨h', ?_, m2, hc.q F, F⟩
  have mg := m_good0 m2
  rcases hbad with ⟨b1, b2, b3⟩ | ⟨b1, b2, b3⟩ | ⟨b1, b2⟩
  · have q3 : (kC (tks true n X i) = 23) = True := eq_true b1
    have q1 : (kC (tks true n X i) = 40) = False := eq_false (by omega)
    have q4 : (w = 7) = True := eq_true b3
    simp only [jn_eq, clp_some, er, y3, y7, p1, p2, yu, yw, yc, ya, y4, bI_z, zz0, zz1, decide_eq_true_eq, not_true_eq_false, not_false_eq_true, if_true, if_false, ite_self, q1, q3, q4, m1, cl_some, mg]
    by_cases y : 3 < x.1
    · have y2 : ¬ x.1 < 7 := by omega
      simp only [if_pos y, if_neg y2]
    · simp only [if_neg y]
  · have q3 : (kC (tks true n X i) = 23) = True := eq_true b1
    have q1 : (kC (tks true n X i) = 40) = False := eq_false (by omega)
    have q5 : (wcH bar (kC (tks true n X i)) = 0) = True := by rw [b1]; cases bar <;> exact eq_true rfl
    have q6 : (kC (tks true n X i) = 25) = False := eq_false (by omega)
    have y2 : (3 < x.1) = True := eq_true (by omega)
    have y3b : (x.1 < 7) = True := eq_true (by omega)
    simp only [jn_eq, clp_some, er, y3, y7, p1, p2, yu, yw, yc, ya, y4, bI_z, zz0, zz1, decide_eq_true_eq, not_true_eq_false, not_false_eq_true, if_true, if_false, ite_self, q1, q3, q5, q6, y2, y3b, m1, cl_some, mg]
  · have q3 : (kC (tks true n X i) = 23) = False := eq_false b1
    rcases b2 with b2 | ⟨b2, b3, b4⟩ | ⟨b2, b3⟩
    · have q4 : (u = 40) = True := eq_true b2
      simp only [jn_eq, clp_some, er, y3, y7, p1, p2, yu, yw, yc, ya, y4, bI_z, zz0, zz1, decide_eq_true_eq, not_true_eq_false, not_false_eq_true, if_true, if_false, ite_self, q3, q4, m1, cl_some, mg]
    · have q5 : (wcH bar (kC (tks true n X i)) = 0) = True := eq_true b2
      have q6 : (kC (tks true n X i) = 25) = False := eq_false b3
      have q1 : (kC (tks true n X i) = 40) = False := eq_false b4
      simp only [jn_eq, clp_some, er, y3, y7, p1, p2, yu, yw, yc, ya, y4, bI_z, zz0, zz1, decide_eq_true_eq, not_true_eq_false, not_false_eq_true, if_true, if_false, ite_self, q1, q3, q5, q6, m1, cl_some, mg]
    · have q1 : (kC (tks true n X i) = 40) = True := eq_true b2
      have q4 : (w = 7) = True := eq_true b3
      simp only [jn_eq, clp_some, er, y3, y7, p1, p2, yu, yw, yc, ya, y4, bI_z, zz0, zz1, decide_eq_true_eq, not_true_eq_false, not_false_eq_true, if_true, if_false, ite_self, q1, q3, q4, m1, cl_some, mg]
