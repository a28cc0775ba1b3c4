/-! the class reads a face line -/
theorem c_setM {d : Dr} {h : CH} (cd : CD d h) (hF : dF d < 16) {k : Nat} (hk : k < 8) (v : Int32) : f_X9_setNextMeasure_31 (nI k) v h = some ((), sI h (36 + dF d) k v) := by
  have e2 : h.1 31 2 = nI (dF d) := cd.1.2.2.1
  unfold f_X9_setNextMeasure_31
  rw [e2, if_pos (by rw [uI_lt (by omega) (by omega)]; omega), if_neg (lt0n (by omega)), if_pos (by rw [uI_lt (by omega) (by omega)]; omega), rdQ_nI (by omega) (by omega), wrA_nI (by omega) (by omega)]
set_option maxHeartbeats 4000000 in
theorem c_rowL {T : Nat → Tk} {N n : Nat} {d : Dr} {h0 : CH} (hT : TG n T N) (hV : VD d) (h16 : dF d < 16) {i : Nat} : ∀ k m g h, m + k = tP (dt d) → k < g → ST T N (i + m) d h → (∀ j, j < m → h.1 (36 + dF d) j = nI (kV (T (i + j))) ∧ kV (T (i + j)) ≤ 99) → Fz xT lT h0 h → CO xT lT h0 (f_X10_readRow_L15 g (nI m) h) (sRw T i k m) (fun _ h' => ST T N (i + tP (dt d)) d h' ∧ ∀ j, j < tP (dt d) → h'.1 (36 + dF d) j = nI (kV (T (i + j))) ∧ kV (T (i + j)) ≤ 99) := by
  have h8 : tP (dt d) ≤ 8 := hV.1.2.1
  intro k
  induction k with
  | zero =>
    intro m g h hm hg s hr hF
    obtain ⟨g, rfl⟩ : ∃ x, g = x + 1 := ⟨g - 1, by omega⟩
    unfold f_X10_readRow_L15 sRw
    rw [s.2.1.1.1, if_neg (by rw [uI_lt (by omega) (by omega)]; omega)]
    have e : m = tP (dt d) := by omega
    subst e
    exact ⟨h, rfl, ⟨s, hr⟩, hF⟩
  | succ k ih =>
    intro m g h hm hg s hr hF
    obtain ⟨g, rfl⟩ : ∃ x, g = x + 1 := ⟨g - 1, by omega⟩
    unfold f_X10_readRow_L15 sRw
    rw [s.2.1.1.1, if_pos (by rw [uI_lt (by omega) (by omega)]; omega)]
    refine CO.bi (c_nm hT s.1 hF (by omega) (by omega)) (fun v h2 p hF2 => ?_)
    obtain ⟨rfl, p1, p2, p3, p4, p5⟩ := p
    rw [p3, c_setM s.2.1 h16 (by omega), cl_some, uI_add]
    have gF : Fz (fun a j => a = 36 + dF d ∧ j = m) (fun _ _ => False) h2 (sI h2 (36 + dF d) m (nI v)) := Fz.sI ⟨rfl, rfl⟩
    have u3 := s.1.fz gF (by intro k hk; omega) (by intro c; omega) (by intro c; omega) (by intro c; exact id) id
    have s3 : ST T N (i + m) d (sI h2 (36 + dF d) m (nI v)) := ⟨u3, s.2.1.fz gF (fun a k q => by omega) (fun k => id), by rw [gF.1 _ _ (by omega)]; exact s.2.2.1, by rw [gF.1 _ _ (by omega)]; exact s.2.2.2⟩
    have hF3 : Fz xT lT h0 (sI h2 (36 + dF d) m (nI v)) := hF2.tr (gF.mono (fun a k q => by unfold xT; omega) (fun a k q => q.elim))
    have r3 : ∀ j, j < m + 1 → (sI h2 (36 + dF d) m (nI v)).1 (36 + dF d) j = nI (kV (T (i + j))) ∧ kV (T (i + j)) ≤ 99 := by
      intro j hj
      by_cases e : j = m
      · rw [e, sI_at, p2]
        exact ⟨rfl, by omega⟩
      · rw [sI_ne (by omega)]
        exact hr j (by omega)
    generalize sI h2 (36 + dF d) m (nI v) = h3 at *
    refine CO.step hT u3 (by unfold kLast; omega) hF3 xP_T lP_T (fun h4 hi4 u4 g4 hF4 => ?_)
    have s4 : ST T N (i + (m + 1)) d h4 := s3.pr u4 g4
    exact ih (m + 1) g h4 (by omega) (by omega) s4 (fun j hj => by rw [g4.1 _ _ (by unfold xSt; omega)]; exact r3 j hj) hF4
theorem c_readRow {T : Nat → Tk} {N i n : Nat} {d : Dr} {h0 h : CH} (hT : TG n T N) (hV : VD d) (h16 : dF d < 16) (s : ST T N i d h) (hF : Fz xT lT h0 h) : CO xT lT h0 (f_X10_readRow h) (bd (sTk T i 4) fun _ => sRw T (i + 1) (tP (dt d)) 0) (fun _ h' => ST T N (i + 1 + tP (dt d)) d h' ∧ ∀ j, j < tP (dt d) → h'.1 (36 + dF d) j = nI (kV (T (i + 1 + j))) ∧ kV (T (i + 1 + j)) ≤ 99) := by
  have h8 : tP (dt d) ≤ 8 := hV.1.2.1
  unfold f_X10_readRow
  refine CO.bi (c_tk hT s hF (by omega) (by omega)) (fun j h2 p hF2 => ?_)
  obtain ⟨-, -, s2, -⟩ := p
  exact c_rowL hT hV h16 (tP (dt d)) 0 FU h2 (by omega) (by show _ < 100000; omega) s2 (fun j hj => by omega) hF2
theorem c_addF {d : Dr} {h : CH} (cd : CD d h) (hF : dF d < 16) (l : Int64) (k r : Int32) : f_X9_add_31 l k r h = some ((), sI (sI (sI (sL h 32 (dF d) l) 33 (dF d) k) 34 (dF d) r) 31 2 (nI (dF d + 1))) := by
  have e2 : h.1 31 2 = nI (dF d) := cd.1.2.2.1
  unfold f_X9_add_31
  rw [e2, if_pos (by rw [uI_lt (by omega) (by omega)]; omega), wrL_nI (by omega) (by omega), sL_1, e2, wrA_nI (by omega) (by omega), sI_ne (by omega), sL_1, e2, wrA_nI (by omega) (by omega), sI_ne (by omega), sI_ne (by omega), sL_1, e2, wrF_eq, uI_add]
theorem dFace_V {d : Dr} {l : List Nat} {k r : Nat} {g : Nat → Nat} (hV : VD d) (h16 : dF d < 16) (hl : gl l) (hk : k ≤ 3) (hr : r ≤ 9) (hg : ∀ j, j < tP (dt d) → g j ≤ 99) : VD (dFace d l k r g) := by
  have hV0 := hV
  obtain ⟨⟨v1, v2, v3, v4, v5, v6, v7, v8, v9, v10, v11, v12⟩, w2, w3, w4⟩ := hV
  have hs : ∀ f, f < dF d + 1 → f ≠ dF d → f < dF d := fun f h1 h2 => by omega
  have fz : fnN (dt d) (dF d) = 0 := by
    unfold fnN
    rw [v11 (dF d) h16 (Nat.le_refl _), uI_toNat (by omega)]
  refine ⟨⟨v1, v2, by show dF d + 1 ≤ 16; omega, v4, v5, fun f hf => ?_, fun f hf => ?_, fun f hf j hj => ?_, v9, v10, fun f h1 h2 => v11 f h1 (by have h2 : dF d + 1 ≤ f := h2; show dF d ≤ f; omega), fun f hf => ?_⟩, fun x y hx hy => ?_, fun f hf => ?_, w4⟩
  · by_cases e : f = dF d
    · exact ⟨k, hk, if_pos e⟩
    · obtain ⟨m, hm, em⟩ := v6 f (hs f hf e)
      exact ⟨m, hm, (if_neg e).trans em⟩
  · by_cases e : f = dF d
    · exact ⟨r, hr, if_pos e⟩
    · obtain ⟨m, hm, em⟩ := v7 f (hs f hf e)
      exact ⟨m, hm, (if_neg e).trans em⟩
  · by_cases e : f = dF d
    · exact ⟨g j, hg j hj, congrFun (if_pos e) j⟩
    · obtain ⟨m, hm, em⟩ := v8 f (hs f hf e) j hj
      exact ⟨m, hm, (congrFun (if_neg e) j).trans em⟩
  · have p : (2:Nat) ^ dF d < 2 ^ (dF d + 1) := Nat.pow_lt_pow_right (by omega) (by omega)
    by_cases e : f = dF d
    · exact ⟨0, Nat.two_pow_pos _, e ▸ v11 (dF d) h16 (Nat.le_refl _)⟩
    · obtain ⟨m, hm, em⟩ := v12 f (hs f hf e)
      exact ⟨m, Nat.lt_trans hm p, em⟩
  · show (fnN (dt d) x).testBit y = (fnN (dt d) y).testBit x
    have ou : ∀ z, z < dF d → (fnN (dt d) z).testBit (dF d) = false := fun z hz => Nat.testBit_lt_two_pow (fnN_lt hV0.1 hz).1
    by_cases e1 : x = dF d
    · rw [e1, fz, Nat.zero_testBit]
      by_cases e2 : y = dF d
      · rw [e2, fz, Nat.zero_testBit]
      · exact (ou y (hs y hy e2)).symm
    · by_cases e2 : y = dF d
      · rw [e2, fz, Nat.zero_testBit]
        exact ou x (hs x hx e1)
      · exact w2 x y (hs x hx e1) (hs y hy e2)
  · show gl (if f = dF d then l else dn d f)
    by_cases e : f = dF d
    · rw [if_pos e]; exact hl
    · rw [if_neg e]; exact w3 f (hs f hf e)
set_option maxHeartbeats 4000000 in
theorem c_readFace {T : Nat → Tk} {N i n : Nat} {d : Dr} {h : CH} (hT : TG n T N) (hV : VD d) (s : ST T N i d h) (hc : kC (T i) = 1) : CO xT lT h (f_X10_readFace h) (sFac T i d) (QL T N i) := by
  have nl : ¬ kLast (T i) := by unfold kLast; omega
  have h16 : dF d ≤ 16 := hV.1.2.2.1
  unfold f_X10_readFace sFac
  have x : (nI (dF d) < nI 16) = (dF d < 16) := uI_lt (by omega) (by omega)
  rw [show h.1 31 2 = nI (dF d) from s.2.1.1.2.2.1]
  simp only [x]
  by_cases c : dF d < 16
  · rw [if_pos c, if_neg (by omega)]
    refine CO.step hT s.1 nl Fz.rf xP_T lP_T (fun h1 hi1 u1 g1 hF1 => ?_)
    have s1 : ST T N (i + 1) d h1 := s.pr u1 g1
    have hc1 := kC_lt hT u1.2.1
    have y : (nI (kC (T (i + 1))) = nI 24) = (kC (T (i + 1)) = 24) := uI_inj (by omega) (by omega)
    rw [u1.2.2.2.1]
    simp only [y]
    by_cases c1 : kC (T (i + 1)) = 24
    · have gg := (hT.2.2.2.2 (i + 1) u1.2.1).2.2.2 (by omega)
      rw [if_pos c1, if_pos c1, u1.2.2.2.2.2 (by omega), c_named s1.2.1 hV gg.1, clp_some]
      by_cases c2 : nmd d (kW (T (i + 1))) < dF d
      · simp only [if_pos c2]
        rw [if_neg (by rw [uI_ne1 (by omega)]; exact id)]
        exact c_er hT u1 hF1 3 _
      · simp only [if_neg c2]
        rw [if_pos trivial]
        refine CO.step hT u1 (by unfold kLast; omega) hF1 xP_T lP_T (fun h2 hi2 u2 g2 hF2 => ?_)
        have s2 : ST T N (i + 2) d h2 := s1.pr u2 g2
        refine CO.bi (c_tk hT s2 hF2 (by omega) (by omega)) (fun j h3 p hF3 => ?_)
        obtain ⟨-, -, s3, -⟩ := p
        refine CO.bi (c_nm hT s3.1 hF3 (by omega) (by omega)) (fun kk h4 p hF4 => ?_)
        obtain ⟨rfl, p1, p2, p3, p4, p5⟩ := p
        refine CO.step hT s3.1 (by unfold kLast; omega) hF3 xP_T lP_T (fun h5 hi5 u5 g5 hF5 => ?_)
        have s5 : ST T N (i + 4) d h5 := s3.pr u5 g5
        refine CO.bi (c_tk hT s5 hF5 (by omega) (by omega)) (fun j h6 p hF6 => ?_)
        obtain ⟨-, -, s6, -⟩ := p
        refine CO.bi (c_nm hT s6.1 hF6 (by omega) (by omega)) (fun r h7 p hF7 => ?_)
        obtain ⟨rfl, q1, q2, q3, q4, q5⟩ := p
        refine CO.step hT s6.1 (by unfold kLast; omega) hF6 xP_T lP_T (fun h8 hi8 u8 g8 hF8 => ?_)
        have s8 : ST T N (i + 6) d h8 := s6.pr u8 g8
        rw [← bd_as]
        refine CO.bi (c_readRow hT hV c s8 hF8) (fun j h9 p hF9 => ?_)
        obtain ⟨s9, r9⟩ := p
        refine CO.bi (c_tk hT s9 hF9 (by omega) (by omega)) (fun j h10 p hF10 => ?_)
        obtain ⟨rfl, -, s10, f10⟩ := p
        rw [p3, q3, c_addF s10.2.1 c, cl_some]
        have gF : Fz (fun q k => q = 33 ∨ q = 34 ∨ (q = 31 ∧ k = 2)) (fun q k => q = 32) h10 (sI (sI (sI (sL h10 32 (dF d) (nL (w5 (kW (T (i + 1)))))) 33 (dF d) (nI kk)) 34 (dF d) (nI r)) 31 2 (nI (dF d + 1))) := by
          refine (((Fz.sL ?_).tr (Fz.sI ?_)).tr (Fz.sI ?_)).tr (Fz.sI ?_)
          · show 32 = 32; rfl
          · omega
          · omega
          · omega
        have u11 := s10.1.fz gF (by intro k hk; omega) (by intro c; omega) (by intro c; omega) (by intro c; omega) (by omega)
        have r10 : ∀ j, j < tP (dt d) → h10.1 (36 + dF d) j = nI (kV (T (i + 7 + j))) ∧ kV (T (i + 7 + j)) ≤ 99 := fun j hj => by rw [f10.1 _ _ (by unfold xP; omega)]; exact r9 j hj
        refine ⟨_, rfl, ⟨⟨u11, ?_, by rw [gF.1 _ _ (by omega)]; exact s10.2.2.1, by rw [gF.1 _ _ (by omega)]; exact s10.2.2.2⟩, dFace_V hV c gg.1 p5 q5 (fun j hj => (r10 j hj).2), by show i + 2 ≤ i + 7 + tP (dt d) + 1; omega⟩, hF10.tr (gF.mono (S' := xT) (L' := lT) (fun a k q => by unfold xT; omega) (fun a k q => Or.inr q))⟩
        obtain ⟨⟨c0, c1, c2, c3, c4, c5, c6, c7, c8, c9⟩, m2, m3, m4, m5⟩ := s10.2.1
        have hs : ∀ f, f < dF d + 1 → f ≠ dF d → f < dF d := fun f h1 h2 => by omega
        refine ⟨⟨?_, ?_, ?_, ?_, fun f hf => ?_, fun f hf => ?_, fun f hf k hk => ?_, fun f hf => ?_, fun f hf => ?_, fun f hf => ?_⟩, fun f hf => ?_, ?_, ?_, ?_⟩
        · rw [gF.1 _ _ (by omega)]; exact c0
        · rw [gF.1 _ _ (by omega)]; exact c1
        · rw [sI_at]; rfl
        · rw [gF.1 _ _ (by omega)]; exact c3
        · show _ = if f = dF d then nI kk else tkd (dt d) f
          rw [sI_ne (by omega), sI_ne (by omega), sI_1]
          by_cases e : f = dF d
          · rw [if_pos ⟨rfl, e⟩, if_pos e]
          · rw [if_neg (fun z => e z.2), if_neg e, sL_1]; exact c4 f (hs f hf e)
        · show _ = if f = dF d then nI r else tdr (dt d) f
          rw [sI_ne (by omega), sI_1]
          by_cases e : f = dF d
          · rw [if_pos ⟨rfl, e⟩, if_pos e]
          · rw [if_neg (fun z => e z.2), if_neg e, sI_ne (by omega), sL_1]; exact c5 f (hs f hf e)
        · have hf2 : f < dF d + 1 := hf
          rw [gF.1 _ _ (by omega)]
          by_cases e : f = dF d
          · rw [show ttl (dt (dFace d (kW (T (i + 1))) kk r (fun m => kV (T (i + 7 + m))))) f = (fun k => nI (kV (T (i + 7 + k)))) from if_pos e, show 31 + 5 + f = 36 + dF d by omega]
            exact (r10 k hk).1
          · rw [show ttl (dt (dFace d (kW (T (i + 1))) kk r (fun m => kV (T (i + 7 + m))))) f = ttl (dt d) f from if_neg e]
            exact c6 f (hs f hf e) k hk
        · rw [gF.1 _ _ (by omega)]; exact c7 f hf
        · rw [gF.1 _ _ (by omega)]; exact c8 f hf
        · rw [gF.1 _ _ (by omega)]; exact c9 f hf
        · show _ = nL (w5 (if f = dF d then kW (T (i + 1)) else dn d f))
          rw [sI_2, sI_2, sI_2, sL_2]
          by_cases e : f = dF d
          · rw [if_pos ⟨rfl, e⟩, if_pos e]
          · rw [if_neg (fun z => e z.2), if_neg e]; exact m2 f (hs f hf e)
        · rw [gF.1 _ _ (by omega)]; exact m3
        · rw [gF.1 _ _ (by omega)]; exact m4
        · rw [gF.1 _ _ (by omega)]; exact m5
    · rw [if_neg c1, if_neg c1]
      exact c_er hT u1 hF1 2 _
  · rw [if_neg c, if_pos (by omega)]
    exact c_er hT s.1 Fz.rf 2 _
