/-! the start: what holds between the calls, before the first -/
def h00 : CH := (fun _ _ => 0, fun _ _ => 0)
def hE : CH := hz_151 (hz_0 h00)
def q00 : Rq := (0, fun _ => [], fun _ => 0, fun _ => [], none, 0, [])
def p00 : Pp := (0, 0, fun _ => 0, fun _ => 0, fun _ => 0, fun _ => 0, fun _ => 0, fun _ => 0)
theorem tail_340 (g : Nat) (h : CH) : f_X12_tail_L340 (g + 4) (nI 0) h = some ((), sI (sI (sI h 185 0 (-1)) 185 1 (-1)) 185 2 (-1)) := by
  rw [f_X12_tail_L340, if_pos (by decide), wrA_nI (by decide) (by decide), nI_add, f_X12_tail_L340, if_pos (by decide), wrA_nI (by decide) (by decide), nI_add, f_X12_tail_L340, if_pos (by decide), wrA_nI (by decide) (by decide), nI_add, f_X12_tail_L340, if_neg (by decide)]
theorem hE_w : ∀ r, r < 24 → hE.2 3 r = nL (w5 (lw r)) := by decide +kernel
theorem hE_0 : ∀ q ∈ [(7, 2), (7, 3), (0, 1), (0, 2), (55, 0), (55, 1), (55, 2), (71, 0), (71, 1), (130, 2), (137, 2), (144, 2), (151, 26), (151, 27), (151, 40), (151, 42), (151, 44), (151, 45), (151, 60), (151, 61), (151, 2), (151, 4)], hE.1 q.1 q.2 = nI 0 := by decide +kernel
theorem hE_a : ∀ f, f < 16 → hE.1 28 f = nI 0 := by decide +kernel
theorem hE_b : ∀ p, p < 4 → hE.1 29 p = nI 0 ∧ hE.1 30 p = nI 0 := by decide +kernel
theorem hE_n : hE.1 7 0 = nI 5 ∧ hE.1 7 1 = nI 20 ∧ hE.1 0 3 = -1 ∧ hE.1 151 5 = -1 := by decide +kernel
theorem iv_start : ∃ h1, f_X12_tail hE = some ((), h1) ∧ Iv h1 := by
  have z : ∀ a k, (a, k) ∈ [(7, 2), (7, 3), (0, 1), (0, 2), (55, 0), (55, 1), (55, 2), (71, 0), (71, 1), (130, 2), (137, 2), (144, 2), (151, 26), (151, 27), (151, 40), (151, 42), (151, 44), (151, 45), (151, 60), (151, 61), (151, 2), (151, 4)] → hE.1 a k = nI 0 := fun a k h => hE_0 (a, k) h
  obtain ⟨n1, n2, n3, n4⟩ := hE_n
  obtain ⟨h', e1, hM, hF⟩ := m_clearBank (rb := 0) (by decide) (z 151 27 (by decide))
  have e2 : f_X12_tail hE = some ((), sI (sI (sI h' 185 0 (-1)) 185 1 (-1)) 185 2 (-1)) := by
    unfold f_X12_tail
    rw [e1]
    exact tail_340 99996 h'
  refine ⟨_, e2, ?_⟩
  have g : ∀ a k, a ≠ 185 → (sI (sI (sI h' 185 0 (-1)) 185 1 (-1)) 185 2 (-1)).1 a k = h'.1 a k := fun a k ha => by rw [sI_ne (by omega), sI_ne (by omega), sI_ne (by omega)]
  have g2 : (sI (sI (sI h' 185 0 (-1)) 185 1 (-1)) 185 2 (-1)).2 = hE.2 := hF.2
  have g185 : ∀ j, j < 3 → (sI (sI (sI h' 185 0 (-1)) 185 1 (-1)) 185 2 (-1)).1 185 j = -1 := by
    intro j hj
    have hv : j = 0 ∨ j = 1 ∨ j = 2 := by omega
    rcases hv with rfl | rfl | rfl
    · rw [sI_ne (by omega), sI_ne (by omega), sI_at]
    · rw [sI_ne (by omega), sI_at]
    · rw [sI_at]
  generalize sI (sI (sI h' 185 0 (-1)) 185 1 (-1)) 185 2 (-1) = h1 at g g2 g185
  have G : ∀ a k, a < 154 → h1.1 a k = hE.1 a k := fun a k ha => (g a k (by omega)).trans (hF.1 a k (by omega))
  obtain ⟨m0, m1, m2, m3, m4, m5, m6, m7, m8, m9, m10, m11, -⟩ := hM
  refine ⟨t0, q00, p00, fun _ => none, 0, fun _ => 0, nI 0, -1, 0, [], ⟨t0_V, t0_S, ⟨by decide, by decide, fun i hi => absurd hi (Nat.not_lt_zero i)⟩, fun j _ => trivial, by decide⟩, ⟨?_, ?_, ?_, ?_, ?_, ?_, ?_, ?_, ?_⟩, ⟨?_, ?_, ?_, ?_, ?_, ?_, ?_, ?_⟩⟩
  · refine ⟨(G _ _ (by omega)).trans n1, (G _ _ (by omega)).trans n2, (G _ _ (by omega)).trans (z _ _ (by decide)), (G _ _ (by omega)).trans (z _ _ (by decide)), fun f hf => absurd hf (Nat.not_lt_zero f), fun f hf => absurd hf (Nat.not_lt_zero f), fun f hf => absurd hf (Nat.not_lt_zero f), fun f hf => (G _ _ (by omega)).trans (hE_a f hf), fun p hp => (G _ _ (by omega)).trans (hE_b p hp).1, fun p hp => (G _ _ (by omega)).trans (hE_b p hp).2⟩
  · refine ⟨⟨by decide, by decide, by decide, fun k hk => absurd hk (Nat.not_lt_zero k), fun f c e => by cases e⟩, ⟨(G _ _ (by omega)).trans (z _ _ (by decide)), (G _ _ (by omega)).trans (z _ _ (by decide)), fun f c e => (by cases e), fun k hk => absurd hk (Nat.not_lt_zero k)⟩, (G _ _ (by omega)).trans (z _ _ (by decide)), trivial⟩
  · exact ⟨(G _ _ (by omega)).trans (z _ _ (by decide)), (G _ _ (by omega)).trans (z _ _ (by decide)), fun i hi => absurd hi (Nat.not_lt_zero i)⟩
  · intro j hj
    have hv : j = 0 ∨ j = 1 ∨ j = 2 := by omega
    rcases hv with rfl | rfl | rfl
    · exact (G _ _ (by omega)).trans (z 130 2 (by decide))
    · exact (G _ _ (by omega)).trans (z 137 2 (by decide))
    · exact (G _ _ (by omega)).trans (z 144 2 (by decide))
  · exact (G _ _ (by omega)).trans (z _ _ (by decide))
  · intro j hj
    exact absurd hj (Nat.not_lt_zero j)
  · exact (G _ _ (by omega)).trans (z _ _ (by decide))
  · exact (G _ _ (by omega)).trans n3
  · intro r hr
    rw [g2]
    exact hE_w r hr
  · refine ⟨by decide, (G _ _ (by omega)).trans (z _ _ (by decide)), (g _ _ (by omega)).trans m2, (g _ _ (by omega)).trans m3, (g _ _ (by omega)).trans m4, (g _ _ (by omega)).trans m5, fun f hf => absurd hf (Nat.not_lt_zero f), fun f hf => absurd hf (Nat.not_lt_zero f), fun f hf => absurd hf (Nat.not_lt_zero f), fun f hf => absurd hf (Nat.not_lt_zero f), fun p hp => (g _ _ (by omega)).trans (m10 p hp), fun p hp => (g _ _ (by omega)).trans (m11 p hp)⟩
  · refine ⟨⟨by decide, by decide, by decide, fun k hk => absurd hk (Nat.not_lt_zero k), fun f c e => by cases e⟩, rfl, fun k hk => absurd hk (Nat.not_lt_zero k), fun f c e => (by cases e), (G _ _ (by omega)).trans (z _ _ (by decide)), (G _ _ (by omega)).trans (z _ _ (by decide)), (G _ _ (by omega)).trans (z _ _ (by decide)), (G _ _ (by omega)).trans (z _ _ (by decide)), trivial, fun k hk => absurd hk (Nat.not_lt_zero k), fun f c e => (by cases e)⟩
  · exact ⟨(G _ _ (by omega)).trans (z _ _ (by decide)), (G _ _ (by omega)).trans (z _ _ (by decide)), fun i hi => absurd hi (Nat.not_lt_zero i)⟩
  · intro j hj
    exact g185 j hj
  · exact (G _ _ (by omega)).trans (z _ _ (by decide))
  · intro j hj
    exact absurd hj (Nat.not_lt_zero j)
  · exact (G _ _ (by omega)).trans (z _ _ (by decide))
  · exact (G _ _ (by omega)).trans n4
