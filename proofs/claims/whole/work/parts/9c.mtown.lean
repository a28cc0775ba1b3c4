/-! the model reads a town: the whole call -/
def xMw (rb a k : Nat) : Prop := xB rb a k ∨ a = 153 ∨ (a = 151 ∧ (k = 2 ∨ k = 3 ∨ k = 11 ∨ k = 27))
def xMo (rb a k : Nat) : Prop := xMw rb a k ∨ (a = 151 ∧ (k = 26 ∨ k = 40 ∨ k = 42 ∨ k = 44 ∨ k = 45 ∨ k = 60)) ∨ a = 185
theorem m_bx (K : CH → Option (Int32 × CH)) (h : CH) : f_X12_town_L88 K FU (nI 0) h = K (sI (sI (sI h 185 0 (-1)) 185 1 (-1)) 185 2 (-1)) := by
  have st : ∀ (m k : Nat) (g : CH), k < 3 → f_X12_town_L88 K (m + 1) (nI k) g = f_X12_town_L88 K m (nI (k + 1)) (sI g 185 k (-1)) := by
    intro m k g hk
    conv => lhs; unfold f_X12_town_L88
    rw [if_pos (by rw [uI_lt (by omega) (by omega)]; exact hk), wrA_nI (by omega) (by omega), uI_add]
  show f_X12_town_L88 K (99996 + 1 + 1 + 1 + 1) (nI 0) h = _
  rw [st _ 0 _ (by omega), st _ 1 _ (by omega), st _ 2 _ (by omega)]
  conv => lhs; unfold f_X12_town_L88
  rw [if_neg (by decide)]
theorem MT.fz {S L : Nat → Nat → Prop} {b : Nat} {t : Tn} {h h' : CH} (hC : MT b t h) (hF : Fz S L h h') (hV : VT t) (hS1 : ∀ a, 154 ≤ a → a ≤ 157 → ¬ S a b) (hS2 : ∀ a k, 158 ≤ a → a ≤ 159 → 16 * b ≤ k → k < 16 * b + 16 → ¬ S a k) (hS3 : ∀ k, 128 * b ≤ k → k < 128 * b + 128 → ¬ S 160 k) (hS4 : ∀ k, 16 * b ≤ k → k < 16 * b + 16 → ¬ S 161 k) (hS5 : ∀ a k, 162 ≤ a → a ≤ 163 → 4 * b ≤ k → k < 4 * b + 4 → ¬ S a k) (hS6 : ¬ S 151 26) : MT b t h' := by
  have h16 := hV.2.2.1
  have h8 := hV.2.1
  obtain ⟨c0, c1, c2, c3, c4, c5, c6, c7, c8, c9, c10, c11⟩ := hC
  refine ⟨c0, ?_, ?_, ?_, ?_, ?_, fun f hf => ?_, fun f hf => ?_, fun f hf i hi => ?_, fun f hf => ?_, fun f hf => ?_, fun f hf => ?_⟩
  · rw [hF.1 _ _ hS6]; exact c1
  · rw [hF.1 _ _ (hS1 _ (by omega) (by omega))]; exact c2
  · rw [hF.1 _ _ (hS1 _ (by omega) (by omega))]; exact c3
  · rw [hF.1 _ _ (hS1 _ (by omega) (by omega))]; exact c4
  · rw [hF.1 _ _ (hS1 _ (by omega) (by omega))]; exact c5
  · rw [hF.1 _ _ (hS2 _ _ (by omega) (by omega) (by omega) (by omega))]; exact c6 f hf
  · rw [hF.1 _ _ (hS2 _ _ (by omega) (by omega) (by omega) (by omega))]; exact c7 f hf
  · rw [hF.1 _ _ (hS3 _ (by omega) (by omega))]; exact c8 f hf i hi
  · rw [hF.1 _ _ (hS4 _ (by omega) (by omega))]; exact c9 f hf
  · rw [hF.1 _ _ (hS5 _ _ (by omega) (by omega) (by omega) (by omega))]; exact c10 f hf
  · rw [hF.1 _ _ (hS5 _ _ (by omega) (by omega) (by omega) (by omega))]; exact c11 f hf
set_option maxHeartbeats 4000000 in
theorem m_town {n bk : Nat} {X : Nat → Nat} {N : Nat} {h : CH} (hb : bk ≤ 1) (hB : TXN false n X N) (h26 : h.1 151 26 = nI bk) (h2 : h.1 151 2 = nI n) (hx : ∀ j, j < n → (h.1 152 j &&& nI 255) = nI (X j)) : match sTw (tks false n X) (N + 1) 0 d0 with
    | .error e => ∃ h', f_X12_town h = some (-1, h') ∧ h'.1 151 2 = nI 0 ∧ h'.1 151 4 = nI e.1 ∧ h'.1 151 5 = nI e.2 ∧ Fz (xMw (1 - bk)) lB h h'
    | .ok d => ∃ h', f_X12_town h = some (nI (dF d), h') ∧ h'.1 151 2 = nI 0 ∧ h'.1 151 4 = nI 0 ∧ h'.1 151 5 = -1 ∧ MT (1 - bk) (dt d) h' ∧ VD d ∧ h'.1 151 40 = nI 0 ∧ h'.1 151 42 = nI 0 ∧ h'.1 151 44 = nI 0 ∧ h'.1 151 45 = nI 0 ∧ h'.1 151 60 = nI 0 ∧ MBx (fun _ => none) h' ∧ Fz (xMo (1 - bk)) lB h h' := by
  obtain ⟨hX, hT, hp⟩ := id hB
  have hn := hX.1
  have hN := hT.2.2.1
  unfold f_X12_town
  obtain ⟨g1, a1, a2, a3, a4, a5, a6, a7⟩ := m_takeTape (rl := false) hn h2 hx
  rw [show nI 0 = bI false from rfl, a1, cl_some, wrF_eq, a7.1 _ _ (by omega), h26, uI_sub hb]
  have f2 : Fr (fun a k => a = 151 ∧ k = 27) g1 (sI g1 151 27 (nI (1 - bk))) := Fr.sI ⟨rfl, rfl⟩
  have e27 : (sI g1 151 27 (nI (1 - bk))).1 151 27 = nI (1 - bk) := sI_at
  generalize sI g1 151 27 (nI (1 - bk)) = g2 at *
  obtain ⟨g3, b1, b2, b3⟩ := m_clearBank (show 1 - bk ≤ 1 by omega) e27
  rw [b1, cl_some]
  have F13 : Fr (fun a k => (a = 151 ∧ k = 27) ∨ ((154 ≤ a ∧ a ≤ 157 ∨ a = 164 ∨ a = 165) ∧ k = 1 - bk) ∨ (a = 161 ∧ 16 * (1 - bk) ≤ k ∧ k < 16 * (1 - bk) + 16) ∨ ((a = 162 ∨ a = 163 ∨ a = 166) ∧ 4 * (1 - bk) ≤ k ∧ k < 4 * (1 - bk) + 4)) g1 g3 := (f2.mono (fun a k q => Or.inl q)).tr (b3.mono (fun a k q => Or.inr q))
  have L3 : Mx false n X g3 := a2.fz (Fz.fr (L := fun _ _ => False) F13) (by omega) (by omega) (by intro k; omega)
  obtain ⟨g4, c1, c2, c3⟩ := m_goOn (rl := false) hX (Nat.zero_le n) L3 (by rw [F13.1 _ _ (by omega)]; exact a6)
  rw [c1, cl_some]
  have L4 := L3.fz c3 (by unfold xG; omega) (by unfold xG; omega) (by intro k; unfold xG; omega)
  have u4 : Mu (tks false n X) N 0 g4 := ⟨Nat.zero_le _, by rw [c3.1 _ _ (by unfold xG; omega), F13.1 _ _ (by omega)]; exact a3, by rw [c3.1 _ _ (by unfold xG; omega), F13.1 _ _ (by omega)]; exact a4, c2⟩
  have d4 := b2.tk (c3.mono xG_M (fun _ _ q => q))
  obtain ⟨g5, e1, e2, e3⟩ := m_twL (rb := 1 - bk) hB (N + 1) 0 d0 FU g4 (by omega) (by show _ < 100000; omega) L4 u4 d4 d0_V
  rw [e1]
  have FT : Fz (xMw (1 - bk)) lB h g5 := by
    have w1 : Fz (xMw (1 - bk)) lB h g1 := (Fz.fr a7).mono (fun a k q => by
      rcases q with q | ⟨q1, q2⟩
      · exact Or.inr (Or.inl q)
      · by_cases z : 4 ≤ k ∧ k ≤ 9
        · exact Or.inl (Or.inl ⟨q1, z.1, z.2⟩)
        · exact Or.inr (Or.inr ⟨q1, by omega⟩)) (fun _ _ q => q)
    have w2 := w1.tr ((Fz.fr (L := lB) F13).mono (fun a k q => by
      rcases q with q | ⟨q1, q2⟩ | q | ⟨q1, q2, q3⟩
      · exact Or.inr (Or.inr ⟨q.1, by omega⟩)
      · by_cases z : a ≤ 157
        · exact Or.inl (Or.inr (Or.inl ⟨by omega, z, q2⟩))
        · exact Or.inl (Or.inr (Or.inr (Or.inl ⟨by omega, by omega, q2⟩)))
      · exact Or.inl (Or.inr (Or.inr (Or.inr (Or.inr (Or.inl q)))))
      · by_cases z : a = 166
        · exact Or.inl (Or.inr (Or.inr (Or.inr (Or.inr (Or.inr (Or.inr (Or.inr ⟨z, q2, q3⟩)))))))
        · exact Or.inl (Or.inr (Or.inr (Or.inr (Or.inr (Or.inr (Or.inr (Or.inl ⟨by omega, by omega, q2, q3⟩)))))))) (fun _ _ q => q))
    have w3 := w2.tr (c3.mono (fun a k q => Or.inl (Or.inl (xG_M a k q))) lG_B)
    exact w3.tr (e3.mono (fun a k q => Or.inl q) (fun _ _ q => q))
  have t2 : g5.1 151 2 = nI 0 := by
    rw [e3.1 _ _ (by unfold xB xM; omega), c3.1 _ _ (by unfold xG; omega), F13.1 _ _ (by omega)]; exact a5
  cases es : sTw (tks false n X) (N + 1) 0 d0 with
  | error e =>
    rw [es] at e2
    have e2 : Mf n e g5 := e2
    refine ⟨g5, ?_, t2, e2.1, e2.2.2.2.1, FT⟩
    unfold m_twT
    rw [m_good0 e2, clp_some, if_pos (by decide)]
  | ok d =>
    rw [es] at e2
    obtain ⟨d5, d6, d7, d8⟩ := e2
    have h16 : dF d ≤ 16 := d6.1.2.2.1
    have q27 : g5.1 151 27 = nI (1 - bk) := d5.2.1
    unfold m_twT
    rw [m_good1 d7, clp_some, if_neg (by decide), q27, wrF_eq, wrF_eq, wrF_eq, wrF_eq, wrF_eq, wrG_0, m_bx]
    have F6 : Fr (fun a k => (a = 151 ∧ (k = 26 ∨ k = 40 ∨ k = 42 ∨ k = 44 ∨ k = 45 ∨ k = 60)) ∨ a = 185) g5 (sI (sI (sI (sI (sI (sI (sI (sI (sI g5 151 26 (nI (1 - bk))) 151 60 (nI 0)) 151 42 (nI 0)) 151 40 (nI 0)) 151 44 (nI 0)) 151 45 (nI 0)) 185 0 (-1)) 185 1 (-1)) 185 2 (-1)) := ((((((((Fr.sI (by omega)).tr (Fr.sI (by omega))).tr (Fr.sI (by omega))).tr (Fr.sI (by omega))).tr (Fr.sI (by omega))).tr (Fr.sI (by omega))).tr (Fr.sI (by omega))).tr (Fr.sI (by omega))).tr (Fr.sI (by omega))
    have y26 : (sI (sI (sI (sI (sI (sI (sI (sI (sI g5 151 26 (nI (1 - bk))) 151 60 (nI 0)) 151 42 (nI 0)) 151 40 (nI 0)) 151 44 (nI 0)) 151 45 (nI 0)) 185 0 (-1)) 185 1 (-1)) 185 2 (-1)).1 151 26 = nI (1 - bk) := by rw [sI_ne (by omega), sI_ne (by omega), sI_ne (by omega), sI_ne (by omega), sI_ne (by omega), sI_ne (by omega), sI_ne (by omega), sI_ne (by omega), sI_at]
    have y60 : (sI (sI (sI (sI (sI (sI (sI (sI (sI g5 151 26 (nI (1 - bk))) 151 60 (nI 0)) 151 42 (nI 0)) 151 40 (nI 0)) 151 44 (nI 0)) 151 45 (nI 0)) 185 0 (-1)) 185 1 (-1)) 185 2 (-1)).1 151 60 = nI 0 := by rw [sI_ne (by omega), sI_ne (by omega), sI_ne (by omega), sI_ne (by omega), sI_ne (by omega), sI_ne (by omega), sI_ne (by omega), sI_at]
    have y42 : (sI (sI (sI (sI (sI (sI (sI (sI (sI g5 151 26 (nI (1 - bk))) 151 60 (nI 0)) 151 42 (nI 0)) 151 40 (nI 0)) 151 44 (nI 0)) 151 45 (nI 0)) 185 0 (-1)) 185 1 (-1)) 185 2 (-1)).1 151 42 = nI 0 := by rw [sI_ne (by omega), sI_ne (by omega), sI_ne (by omega), sI_ne (by omega), sI_ne (by omega), sI_ne (by omega), sI_at]
    have y40 : (sI (sI (sI (sI (sI (sI (sI (sI (sI g5 151 26 (nI (1 - bk))) 151 60 (nI 0)) 151 42 (nI 0)) 151 40 (nI 0)) 151 44 (nI 0)) 151 45 (nI 0)) 185 0 (-1)) 185 1 (-1)) 185 2 (-1)).1 151 40 = nI 0 := by rw [sI_ne (by omega), sI_ne (by omega), sI_ne (by omega), sI_ne (by omega), sI_ne (by omega), sI_at]
    have y44 : (sI (sI (sI (sI (sI (sI (sI (sI (sI g5 151 26 (nI (1 - bk))) 151 60 (nI 0)) 151 42 (nI 0)) 151 40 (nI 0)) 151 44 (nI 0)) 151 45 (nI 0)) 185 0 (-1)) 185 1 (-1)) 185 2 (-1)).1 151 44 = nI 0 := by rw [sI_ne (by omega), sI_ne (by omega), sI_ne (by omega), sI_ne (by omega), sI_at]
    have y45 : (sI (sI (sI (sI (sI (sI (sI (sI (sI g5 151 26 (nI (1 - bk))) 151 60 (nI 0)) 151 42 (nI 0)) 151 40 (nI 0)) 151 44 (nI 0)) 151 45 (nI 0)) 185 0 (-1)) 185 1 (-1)) 185 2 (-1)).1 151 45 = nI 0 := by rw [sI_ne (by omega), sI_ne (by omega), sI_ne (by omega), sI_at]
    have yb : ∀ j, j < 3 → (sI (sI (sI (sI (sI (sI (sI (sI (sI g5 151 26 (nI (1 - bk))) 151 60 (nI 0)) 151 42 (nI 0)) 151 40 (nI 0)) 151 44 (nI 0)) 151 45 (nI 0)) 185 0 (-1)) 185 1 (-1)) 185 2 (-1)).1 185 j = -1 := by
      intro j hj
      have : j = 0 ∨ j = 1 ∨ j = 2 := by omega
      rcases this with e | e | e <;> subst e
      · rw [sI_ne (by omega), sI_ne (by omega), sI_at]
      · rw [sI_ne (by omega), sI_at]
      · rw [sI_at]
    generalize sI (sI (sI (sI (sI (sI (sI (sI (sI g5 151 26 (nI (1 - bk))) 151 60 (nI 0)) 151 42 (nI 0)) 151 40 (nI 0)) 151 44 (nI 0)) 151 45 (nI 0)) 185 0 (-1)) 185 1 (-1)) 185 2 (-1) = g6 at *
    obtain ⟨c0, c1, c2, c3, c4, c5, c6, c7, c8, c9, c10, c11, c12, c13, c14, c15⟩ := d5
    have hs : ∀ a k, 152 ≤ a → a ≤ 184 → g6.1 a k = g5.1 a k := fun a k q1 q2 => F6.1 _ _ (by omega)
    refine ⟨g6, ?_, ?_, ?_, ?_, ⟨c0, y26, (hs _ _ (by omega) (by omega)).trans c2, (hs _ _ (by omega) (by omega)).trans c3, (hs _ _ (by omega) (by omega)).trans c4, (hs _ _ (by omega) (by omega)).trans c5, fun f hf => (hs _ _ (by omega) (by omega)).trans (c6 f hf), fun f hf => (hs _ _ (by omega) (by omega)).trans (c7 f hf), fun f hf i hi => (hs _ _ (by omega) (by omega)).trans (c8 f hf i hi), fun f hf => (hs _ _ (by omega) (by omega)).trans (c9 f (by have : f < dF d := hf; omega)), fun f hf => (hs _ _ (by omega) (by omega)).trans (c10 f hf), fun f hf => (hs _ _ (by omega) (by omega)).trans (c11 f hf)⟩, d6, y40, y42, y44, y45, y60, fun j hj => yb j hj, ?_⟩
    · rw [y26, rdA_nI (by omega) (by omega), hs _ _ (by omega) (by omega), c4]
    · rw [F6.1 _ _ (by omega)]; exact t2
    · rw [F6.1 _ _ (by omega)]; exact d7
    · rw [F6.1 _ _ (by omega)]; exact d8
    · exact (FT.mono (fun a k q => Or.inl q) (fun _ _ q => q)).tr ((Fz.fr F6).mono (fun a k q => by
        rcases q with q | q
        · exact Or.inr (Or.inl q)
        · exact Or.inr (Or.inr q)) (fun _ _ q => q))
