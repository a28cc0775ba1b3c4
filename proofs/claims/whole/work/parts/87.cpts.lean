/-! the class reads points, near, printer lines -/
def QL (T : Nat → Tk) (N i : Nat) (q : Nat × Dr) (h : CH) : Prop := ST T N q.1 q.2 h ∧ VD q.2 ∧ i + 2 ≤ q.1
theorem sI_ne {h : CH} {a k b j : Nat} {v : Int32} (e : ¬ (b = a ∧ j = k)) : (sI h a k v).1 b j = h.1 b j := by rw [sI_1, if_neg e]
theorem sI_at {h : CH} {a k : Nat} {v : Int32} : (sI h a k v).1 a k = v := by rw [sI_1, if_pos ⟨rfl, rfl⟩]
theorem dPts_V {d : Dr} {v : Nat} (hV : VD d) (h1 : 3 ≤ v) (h2 : v ≤ 8) (hF : dF d = 0) : VD (dPts d v) := by
  obtain ⟨⟨v1, v2, v3, v4, v5, v6, v7, v8, v9, v10, v11, v12⟩, w2, w3, w4⟩ := hV
  refine ⟨⟨h1, h2, v3, v4, v5, v6, v7, fun f hf => ?_, v9, v10, v11, v12⟩, w2, w3, w4⟩
  have : f < dF d := hf
  omega
theorem dNear_V {d : Dr} {v : Nat} (hV : VD d) (h2 : v ≤ 800) : VD (dNear d v) := by
  obtain ⟨⟨v1, v2, v3, v4, v5, v6, v7, v8, v9, v10, v11, v12⟩, w2, w3, w4⟩ := hV
  exact ⟨⟨v1, v2, v3, v4, ⟨v, h2, rfl⟩, v6, v7, v8, v9, v10, v11, v12⟩, w2, w3, w4⟩
theorem dPrt_V {d : Dr} {p b c : Nat} (hV : VD d) (h1 : p ≤ 3) (h2 : b ≤ 9) (h3 : c ≤ 99) : VD (dPrt d p b c) := by
  obtain ⟨⟨v1, v2, v3, v4, v5, v6, v7, v8, v9, v10, v11, v12⟩, w2, w3, w4⟩ := hV
  refine ⟨⟨v1, v2, v3, v4, v5, v6, v7, v8, fun q hq => ?_, fun q hq => ?_, v11, v12⟩, w2, w3, ?_⟩
  · by_cases e : q = p
    · exact ⟨b, h2, if_pos e⟩
    · obtain ⟨m, hm, em⟩ := v9 q hq
      exact ⟨m, hm, (if_neg e).trans em⟩
  · by_cases e : q = p
    · exact ⟨c, h3, if_pos e⟩
    · obtain ⟨m, hm, em⟩ := v10 q hq
      exact ⟨m, hm, (if_neg e).trans em⟩
  · show dm d ||| 2 ^ p < 2 ^ 4
    exact Nat.or_lt_two_pow w4 (Nat.pow_lt_pow_right (by omega) (by omega))
set_option maxHeartbeats 4000000 in
theorem c_readPoints {T : Nat → Tk} {N i n : Nat} {d : Dr} {h : CH} (hT : TG n T N) (hV : VD d) (s : ST T N i d h) (hc : kC (T i) = 0) : CO xT lT h (f_X10_readPoints h) (sPts T i d) (QL T N i) := by
  have nl : ¬ kLast (T i) := by unfold kLast; omega
  have h16 := hV.1.2.2.1
  obtain ⟨u, cd, f13, f14⟩ := s
  unfold f_X10_readPoints sPts
  rw [jn_eq, cd.2.2.1, cd.1.2.2.1]
  have e0 : (0 < nI (tF (dt d))) = (0 < dF d) := uI_0lt (by omega)
  simp only [e0]
  cases hp : dp d with
  | true => rw [if_neg (by decide), if_pos (Or.inl rfl)]; exact c_er hT u Fz.rf 2 _
  | false =>
    rw [if_pos (show bI false = 0 from rfl)]
    by_cases hF : 0 < dF d
    · rw [if_pos hF, if_pos (Or.inr hF)]; exact c_er hT u Fz.rf 2 _
    · rw [if_neg hF, if_neg (by simp [hF])]
      refine CO.step hT u nl Fz.rf xP_T lP_T (fun h2 hi2 u2 g2 hF2 => ?_)
      refine CO.bi (c_nm hT u2 hF2 (by omega) (by omega)) (fun v h3 p hF3 => ?_)
      obtain ⟨rfl, p1, p2, p3, p4, p5⟩ := p
      have cd3 := cd.st g2
      rw [p3, wrF_eq, wrG_1]
      have gF : Fz (fun a k => (a = 31 ∧ k = 0) ∨ (a = 193 ∧ k = 2)) (fun _ _ => False) h3 (sI (sI h3 31 0 (nI v)) 193 2 (nI 1)) := (Fz.sI (by omega)).tr (Fz.sI (by omega))
      have u4 := u2.fz gF (by intro k hk; omega) (by intro c; omega) (by intro c; omega) (by intro c; exact id) id
      have g13 : (sI (sI h3 31 0 (nI v)) 193 2 (nI 1)).1 2 13 = nI 0 := by rw [gF.1 _ _ (by omega), g2.1 _ _ (by unfold xSt; omega)]; exact f13
      have g14 : (sI (sI h3 31 0 (nI v)) 193 2 (nI 1)).1 2 14 = -1 := by rw [gF.1 _ _ (by omega), g2.1 _ _ (by unfold xSt; omega)]; exact f14
      have cd4 : CD (dPts d v) (sI (sI h3 31 0 (nI v)) 193 2 (nI 1)) := by
        obtain ⟨⟨c0, c1, c2, c3, c4, c5, c6, c7, c8, c9⟩, m2, m3, m4, m5⟩ := cd3
        refine ⟨⟨?_, ?_, ?_, ?_, fun f hf => ?_, fun f hf => ?_, fun f hf => ?_, fun f hf => ?_, fun f hf => ?_, fun f hf => ?_⟩, m2, ?_, ?_, ?_⟩
        · rw [sI_ne (by omega), sI_at]; rfl
        · rw [sI_ne (by omega), sI_ne (by omega)]; exact c1
        · rw [sI_ne (by omega), sI_ne (by omega)]; exact c2
        · rw [sI_ne (by omega), sI_ne (by omega)]; exact c3
        · rw [sI_ne (by omega), sI_ne (by omega)]; exact c4 f hf
        · rw [sI_ne (by omega), sI_ne (by omega)]; exact c5 f hf
        · exact absurd hf (by show ¬ f < dF d; omega)
        · rw [sI_ne (by omega), sI_ne (by omega)]; exact c7 f hf
        · rw [sI_ne (by omega), sI_ne (by omega)]; exact c8 f hf
        · rw [sI_ne (by omega), sI_ne (by omega)]; exact c9 f hf
        · rw [sI_at]; rfl
        · rw [sI_ne (by omega), sI_ne (by omega)]; exact m4
        · rw [sI_ne (by omega), sI_ne (by omega)]; exact m5
      have hF4 : Fz xT lT h (sI (sI h3 31 0 (nI v)) 193 2 (nI 1)) := hF3.tr (gF.mono (fun a k q => by unfold xT; omega) (fun a k q => q.elim))
      generalize sI (sI h3 31 0 (nI v)) 193 2 (nI 1) = h4 at *
      refine CO.step hT u4 (by unfold kLast; omega) hF4 xP_T lP_T (fun h5 hi5 u5 g5 hF5 => ?_)
      have s5 : ST T N (i + 1 + 1) (dPts d v) h5 := ST.st ⟨u4, cd4, g13, g14⟩ g5 u5
      refine CO.lm (c_tk hT s5 hF5 (by omega) (by omega)) (fun j h' p _ => ?_)
      exact ⟨p.1 ▸ p.2.2.1, dPts_V hV p4 p5 (by omega), by rw [p.1]; omega⟩
set_option maxHeartbeats 4000000 in
theorem c_readNear {T : Nat → Tk} {N i n : Nat} {d : Dr} {h : CH} (hT : TG n T N) (hV : VD d) (s : ST T N i d h) (hc : kC (T i) = 9) : CO xT lT h (f_X10_readNear h) (sNear T i d) (QL T N i) := by
  have nl : ¬ kLast (T i) := by unfold kLast; omega
  have h16 := hV.1.2.2.1
  obtain ⟨u, cd, f13, f14⟩ := s
  unfold f_X10_readNear sNear
  rw [cd.2.2.2.1]
  cases hp : dq d with
  | true => rw [if_neg (by decide), if_pos rfl]; exact c_er hT u Fz.rf 2 _
  | false =>
    rw [if_pos (show bI false = 0 from rfl), if_neg (by decide)]
    refine CO.step hT u nl Fz.rf xP_T lP_T (fun h2 hi2 u2 g2 hF2 => ?_)
    refine CO.bi (c_nm hT u2 hF2 (by omega) (by omega)) (fun v h3 p hF3 => ?_)
    obtain ⟨rfl, p1, p2, p3, p4, p5⟩ := p
    have cd3 := cd.st g2
    rw [p3, wrF_eq, wrG_1]
    have gF : Fz (fun a k => (a = 31 ∧ k = 1) ∨ (a = 193 ∧ k = 3)) (fun _ _ => False) h3 (sI (sI h3 31 1 (nI v)) 193 3 (nI 1)) := (Fz.sI (by omega)).tr (Fz.sI (by omega))
    have u4 := u2.fz gF (by intro k hk; omega) (by intro c; omega) (by intro c; omega) (by intro c; exact id) id
    have g13 : (sI (sI h3 31 1 (nI v)) 193 3 (nI 1)).1 2 13 = nI 0 := by rw [gF.1 _ _ (by omega), g2.1 _ _ (by unfold xSt; omega)]; exact f13
    have g14 : (sI (sI h3 31 1 (nI v)) 193 3 (nI 1)).1 2 14 = -1 := by rw [gF.1 _ _ (by omega), g2.1 _ _ (by unfold xSt; omega)]; exact f14
    have cd4 : CD (dNear d v) (sI (sI h3 31 1 (nI v)) 193 3 (nI 1)) := by
      obtain ⟨⟨c0, c1, c2, c3, c4, c5, c6, c7, c8, c9⟩, m2, m3, m4, m5⟩ := cd3
      refine ⟨⟨?_, ?_, ?_, ?_, fun f hf => ?_, fun f hf => ?_, fun f hf k hk => ?_, fun f hf => ?_, fun f hf => ?_, fun f hf => ?_⟩, m2, ?_, ?_, ?_⟩
      · rw [sI_ne (by omega), sI_ne (by omega)]; exact c0
      · rw [sI_ne (by omega), sI_at]; rfl
      · rw [sI_ne (by omega), sI_ne (by omega)]; exact c2
      · rw [sI_ne (by omega), sI_ne (by omega)]; exact c3
      · rw [sI_ne (by omega), sI_ne (by omega)]; exact c4 f hf
      · rw [sI_ne (by omega), sI_ne (by omega)]; exact c5 f hf
      · have : f < tF (dt d) := hf
        rw [sI_ne (by omega), sI_ne (by omega)]; exact c6 f hf k hk
      · rw [sI_ne (by omega), sI_ne (by omega)]; exact c7 f hf
      · rw [sI_ne (by omega), sI_ne (by omega)]; exact c8 f hf
      · rw [sI_ne (by omega), sI_ne (by omega)]; exact c9 f hf
      · rw [sI_ne (by omega), sI_ne (by omega)]; exact m3
      · rw [sI_at]; rfl
      · rw [sI_ne (by omega), sI_ne (by omega)]; exact m5
    have hF4 : Fz xT lT h (sI (sI h3 31 1 (nI v)) 193 3 (nI 1)) := hF3.tr (gF.mono (fun a k q => by unfold xT; omega) (fun a k q => q.elim))
    generalize sI (sI h3 31 1 (nI v)) 193 3 (nI 1) = h4 at *
    refine CO.step hT u4 (by unfold kLast; omega) hF4 xP_T lP_T (fun h5 hi5 u5 g5 hF5 => ?_)
    have s5 : ST T N (i + 1 + 1) (dNear d v) h5 := ST.st ⟨u4, cd4, g13, g14⟩ g5 u5
    refine CO.lm (c_tk hT s5 hF5 (by omega) (by omega)) (fun j h' p _ => ?_)
    exact ⟨p.1 ▸ p.2.2.1, dNear_V hV p5, by rw [p.1]; omega⟩
theorem c_setPr {h : CH} {p : Nat} (b c : Int32) (hp : p ≤ 3) : f_X9_setPrinter_31 (nI p) b c h = some ((), sI (sI h 53 p b) 54 p c) := by
  unfold f_X9_setPrinter_31
  rw [if_neg (lt0n (by omega)), if_pos (by rw [uI_lt (by omega) (by omega)]; omega), wrA_nI (by omega) (by omega), wrA_nI (by omega) (by omega)]
theorem ST.pr {T : Nat → Tk} {N i j : Nat} {d : Dr} {h h' : CH} (s : ST T N i d h) (u : CU T N j h') (hF : Fz xSt lSt h h') : ST T N j d h' :=
  ⟨u, s.2.1.st hF, by rw [hF.1 _ _ (by unfold xSt; omega)]; exact s.2.2.1, by rw [hF.1 _ _ (by unfold xSt; omega)]; exact s.2.2.2⟩
set_option maxHeartbeats 4000000 in
theorem c_readPrinter {T : Nat → Tk} {N i n : Nat} {d : Dr} {h : CH} (hT : TG n T N) (hV : VD d) (s : ST T N i d h) (hc : kC (T i) = 6) : CO xT lT h (f_X10_readPrinter h) (sPrt T i d) (QL T N i) := by
  have nl : ¬ kLast (T i) := by unfold kLast; omega
  have h16 := hV.1.2.2.1
  have h4 := hV.2.2.2
  unfold f_X10_readPrinter sPrt
  refine CO.step hT s.1 nl Fz.rf xP_T lP_T (fun h1 hi1 u1 g1 hF1 => ?_)
  have s1 : ST T N (i + 1) d h1 := s.pr u1 g1
  refine CO.bi (c_nm hT u1 hF1 (by omega) (by omega)) (fun p h3 pp hF3 => ?_)
  obtain ⟨rfl, p1, p2, p3, p4, p5⟩ := pp
  rw [s1.2.1.2.2.2.2, p3]
  simp only [tb_if (show dm d < 65536 by omega) (show p < 16 by omega)]
  by_cases tb : (dm d).testBit p = true
  · rw [if_pos tb, if_pos tb]; exact c_er hT u1 hF1 3 _
  rw [if_neg tb, if_neg tb]
  refine CO.step hT u1 (by unfold kLast; omega) hF1 xP_T lP_T (fun h5 hi5 u5 g5 hF5 => ?_)
  have s5 : ST T N (i + 2) d h5 := s1.pr u5 g5
  refine CO.bi (c_tk hT s5 hF5 (by omega) (by omega)) (fun j6 h6 p6 hF6 => ?_)
  obtain ⟨-, -, s6, -⟩ := p6
  refine CO.bi (c_nm hT s6.1 hF6 (by omega) (by omega)) (fun b h7 pp hF7 => ?_)
  obtain ⟨rfl, q1, q2, q3, q4, q5⟩ := pp
  refine CO.step hT s6.1 (by unfold kLast; omega) hF6 xP_T lP_T (fun h8 hi8 u8 g8 hF8 => ?_)
  have s8 : ST T N (i + 4) d h8 := s6.pr u8 g8
  refine CO.bi (c_tk hT s8 hF8 (by omega) (by omega)) (fun j9 h9 p9 hF9 => ?_)
  obtain ⟨-, -, s9, -⟩ := p9
  refine CO.bi (c_nm hT s9.1 hF9 (by omega) (by omega)) (fun c h10 pp hF10 => ?_)
  obtain ⟨rfl, r1, r2, r3, r4, r5⟩ := pp
  rw [q3, r3, c_setPr _ _ p5, cl_some, wrF_eq]
  have e4 : (sI (sI h10 53 p (nI b)) 54 p (nI c)).1 193 4 = nI (dm d) := by rw [sI_ne (by omega), sI_ne (by omega)]; exact s9.2.1.2.2.2.2
  rw [e4, sh_nI (by omega), or_nI]
  have gF : Fz (fun a k => a = 53 ∨ a = 54 ∨ (a = 193 ∧ k = 4)) (fun _ _ => False) h10 (sI (sI (sI h10 53 p (nI b)) 54 p (nI c)) 193 4 (nI (dm d ||| 2 ^ p))) := ((Fz.sI (by omega)).tr (Fz.sI (by omega))).tr (Fz.sI (by omega))
  have u11 := s9.1.fz gF (by intro k hk; omega) (by intro c; omega) (by intro c; omega) (by intro c; exact id) id
  have cd : CD (dPrt d p b c) (sI (sI (sI h10 53 p (nI b)) 54 p (nI c)) 193 4 (nI (dm d ||| 2 ^ p))) := by
    obtain ⟨⟨c0, c1, c2, c3, c4, c5, c6, c7, c8, c9⟩, m2, m3, m4, m5⟩ := s9.2.1
    refine ⟨⟨?_, ?_, ?_, ?_, fun f hf => ?_, fun f hf => ?_, fun f hf k hk => ?_, fun f hf => ?_, fun f hf => ?_, fun f hf => ?_⟩, m2, ?_, ?_, ?_⟩
    · rw [gF.1 _ _ (by omega)]; exact c0
    · rw [gF.1 _ _ (by omega)]; exact c1
    · rw [gF.1 _ _ (by omega)]; exact c2
    · rw [gF.1 _ _ (by omega)]; exact c3
    · rw [gF.1 _ _ (by omega)]; exact c4 f hf
    · rw [gF.1 _ _ (by omega)]; exact c5 f hf
    · have : f < tF (dt d) := hf
      rw [gF.1 _ _ (by omega)]; exact c6 f hf k hk
    · rw [gF.1 _ _ (by omega)]; exact c7 f hf
    · show _ = if f = p then nI b else tbl (dt d) f
      rw [sI_ne (by omega), sI_ne (by omega), sI_1]
      by_cases e : f = p
      · rw [if_pos ⟨rfl, e⟩, if_pos e]
      · rw [if_neg (fun z => e z.2), if_neg e]; exact c8 f hf
    · show _ = if f = p then nI c else tcs (dt d) f
      rw [sI_ne (by omega), sI_1]
      by_cases e : f = p
      · rw [if_pos ⟨rfl, e⟩, if_pos e]
      · rw [if_neg (fun z => e z.2), if_neg e, sI_ne (by omega)]; exact c9 f hf
    · rw [gF.1 _ _ (by omega)]; exact m3
    · rw [gF.1 _ _ (by omega)]; exact m4
    · rw [sI_at]; rfl
  have hF11 := hF10.tr (gF.mono (S' := xT) (L' := lT) (fun a k q => by unfold xT; omega) (fun a k q => q.elim))
  have g13 : (sI (sI (sI h10 53 p (nI b)) 54 p (nI c)) 193 4 (nI (dm d ||| 2 ^ p))).1 2 13 = nI 0 := by rw [gF.1 _ _ (by omega)]; exact s9.2.2.1
  have g14 : (sI (sI (sI h10 53 p (nI b)) 54 p (nI c)) 193 4 (nI (dm d ||| 2 ^ p))).1 2 14 = -1 := by rw [gF.1 _ _ (by omega)]; exact s9.2.2.2
  generalize sI (sI (sI h10 53 p (nI b)) 54 p (nI c)) 193 4 (nI (dm d ||| 2 ^ p)) = h11 at *
  refine CO.step hT u11 (by unfold kLast; omega) hF11 xP_T lP_T (fun h12 hi12 u12 g12 hF12 => ?_)
  have s12 : ST T N (i + 6) (dPrt d p b c) h12 := ST.pr ⟨u11, cd, g13, g14⟩ u12 g12
  refine CO.lm (c_tk hT s12 hF12 (by omega) (by omega)) (fun j h' p _ => ?_)
  exact ⟨p.1 ▸ p.2.2.1, dPrt_V hV p5 q5 r5, by rw [p.1]; omega⟩
