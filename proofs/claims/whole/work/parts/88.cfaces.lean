/-! the class reads faces and knows lines -/
theorem bd_as {α β γ : Type} (r : Ex α) (f : α → Ex β) (g : β → Ex γ) : bd (bd r f) g = bd r (fun a => bd (f a) g) := by cases r <;> rfl
theorem c_namedL {d : Dr} {h : CH} (cd : CD d h) (hV : VD d) {l : List Nat} (hl : gl l) : ∀ m i g, i + m = dF d → m < g → f_X9_named_31_L2 (nL (w5 l)) h g (nI i) = some (if fnd (fun f => decide (dn d f = l)) m i < dF d then nI (fnd (fun f => decide (dn d f = l)) m i) else -1) := by
  have h16 : dF d ≤ 16 := hV.1.2.2.1
  have e2 : h.1 31 2 = nI (dF d) := cd.1.2.2.1
  intro m
  induction m with
  | zero =>
    intro i f hi hf
    obtain ⟨g, rfl⟩ : ∃ g, f = g + 1 := ⟨f - 1, by omega⟩
    unfold f_X9_named_31_L2
    rw [e2, if_neg (by rw [uI_lt (by omega) (by omega)]; omega), if_neg (by show ¬ i < dF d; omega)]
  | succ m ih =>
    intro i f hi hf
    obtain ⟨g, rfl⟩ : ∃ g, f = g + 1 := ⟨f - 1, by omega⟩
    unfold f_X9_named_31_L2
    rw [e2, if_pos (by rw [uI_lt (by omega) (by omega)]; omega), if_pos (by rw [uI_lt (by omega) (by omega)]; omega), rdL_nI (by omega) (by omega), cd.2.1 i (by omega)]
    have e := lg5 (hV.2.2.1 i (by omega)) hl
    unfold fnd
    by_cases c : dn d i = l
    · rw [if_pos (e.mpr c), if_pos (decide_eq_true c), if_pos (by omega)]
    · rw [if_neg (fun z => c (e.mp z)), if_neg (show ¬ ((decide (dn d i = l)) = true) from by simp [c]), uI_add]
      exact ih (i + 1) g (by omega) (by omega)
theorem c_named {d : Dr} {h : CH} (cd : CD d h) (hV : VD d) {l : List Nat} (hl : gl l) : f_X9_named_31 (nL (w5 l)) h = some (if nmd d l < dF d then nI (nmd d l) else -1) := by
  have h16 : dF d ≤ 16 := hV.1.2.2.1
  unfold f_X9_named_31 nmd
  exact c_namedL cd hV hl (dF d) 0 FU (by omega) (by show _ < 100000; omega)
theorem c_faceHere {T : Nat → Tk} {N i n : Nat} {d : Dr} {h : CH} (hT : TG n T N) (hV : VD d) (s : ST T N i d h) : (∀ e, sFc T i d = .error e → ∃ h', f_X10_faceHere h = some (-1, h') ∧ h'.1 2 13 = nI e.1 ∧ h'.1 2 14 = nI e.2 ∧ Fz xP lP h h') ∧ (∀ a, sFc T i d = .ok a → f_X10_faceHere h = some (nI a, h) ∧ a < dF d ∧ kC (T i) = 24) := by
  have h16 : dF d ≤ 16 := hV.1.2.2.1
  have hc := kC_lt hT s.1.2.1
  have x : (nI (kC (T i)) = nI 24) = (kC (T i) = 24) := uI_inj (by omega) (by omega)
  unfold f_X10_faceHere sFc
  simp only [jn_eq]
  rw [s.1.2.2.2.1]
  by_cases c : kC (T i) = 24
  · have g := (hT.2.2.2.2 i s.1.2.1).2.2.2 (by omega)
    simp only [x, if_pos c]
    rw [s.1.2.2.2.2.2 (by omega), c_named s.2.1 hV g.1, clp_some]
    by_cases z : nmd d (kW (T i)) < dF d
    · simp only [if_pos z]
      rw [if_neg (by rw [uI_ne1 (by omega)]; exact id)]
      refine ⟨fun e he => (by cases he), fun a ha => ?_⟩
      cases ha
      exact ⟨rfl, z, c⟩
    · simp only [if_neg z]
      rw [if_pos trivial]
      refine ⟨fun e he => ?_, fun a ha => by cases ha⟩
      cases he
      obtain ⟨h', g1, g2, g3, g4⟩ := c_err (α := Nat) hT s.1 5 (fun _ _ => True)
      exact ⟨h', by rw [g1, cl_some], g2, g3, g4⟩
  · simp only [x, if_neg c]
    rw [if_pos trivial]
    refine ⟨fun e he => ?_, fun a ha => by cases ha⟩
    cases he
    obtain ⟨h', g1, g2, g3, g4⟩ := c_err (α := Nat) hT s.1 2 (fun _ _ => True)
    exact ⟨h', by rw [g1, cl_some], g2, g3, g4⟩
theorem CO.fc {β : Type} {T : Nat → Tk} {N i n : Nat} {d : Dr} {h0 h : CH} {K : Int32 → CH → Option (Int32 × CH)} {f : Nat → Ex β} {Q : β → CH → Prop} (hT : TG n T N) (hV : VD d) (s : ST T N i d h) (hF : Fz xT lT h0 h) (k : ∀ a, a < dF d → kC (T i) = 24 → CO xT lT h0 (K (nI a) h) (f a) Q) : CO xT lT h0 (cl (f_X10_faceHere h) fun v h4 => if v = -1 then some (nI 0, h4) else K v h4) (bd (sFc T i d) f) Q := by
  have h16 : dF d ≤ 16 := hV.1.2.2.1
  have g := c_faceHere hT hV s
  cases e : sFc T i d with
  | error x =>
    obtain ⟨h', g1, g2, g3, g4⟩ := g.1 x e
    exact ⟨h', by rw [g1, cl_some, if_pos rfl], g2, g3, hF.tr (g4.mono xP_T lP_T)⟩
  | ok a =>
    obtain ⟨g1, g2, g3⟩ := g.2 a e
    rw [g1, cl_some, if_neg (by rw [uI_ne1 (by omega)]; exact id)]
    exact k a g2 g3
theorem c_has31 {d : Dr} {h : CH} (cd : CD d h) (hV : VD d) {a : Nat} (ha : a < dF d) : f_X9_has_31 (nI a) h = some (nI 1) := by
  have h16 : dF d ≤ 16 := hV.1.2.2.1
  have e2 : h.1 31 2 = nI (dF d) := cd.1.2.2.1
  unfold f_X9_has_31
  rw [if_neg (lt0n (by omega)), e2, if_pos (by rw [uI_lt (by omega) (by omega)]; exact ha), if_pos (by rw [uI_lt (by omega) (by omega)]; omega)]
theorem fn_16 {d : Dr} (hV : VD d) {a : Nat} (ha : a < dF d) : fnN (dt d) a < 65536 ∧ tfr (dt d) a = nI (fnN (dt d) a) := by
  obtain ⟨g1, g2⟩ := fnN_lt hV.1 ha
  have : (2:Nat) ^ tF (dt d) ≤ 2 ^ 16 := Nat.pow_le_pow_right (by omega) hV.1.2.2.1
  exact ⟨by omega, g2⟩
theorem c_kno {d : Dr} {h : CH} (cd : CD d h) (hV : VD d) {a b : Nat} (ha : a < dF d) (hb : b < dF d) : f_X9_knowEachOther_31 (nI a) (nI b) h = some (bI ((fnN (dt d) a).testBit b)) := by
  have h16 : dF d ≤ 16 := hV.1.2.2.1
  have ef : h.1 52 a = nI (fnN (dt d) a) := (cd.1.2.2.2.2.2.2.2.1 a (by omega)).trans (fn_16 hV ha).2
  unfold f_X9_knowEachOther_31
  rw [c_has31 cd hV ha, clp_some, if_neg (by decide), c_has31 cd hV hb, clp_some, if_neg (by decide), rdA_nI (by omega) (by omega), ef]
  simp only [tb_if (fn_16 hV ha).1 (show b < 16 by omega)]
  cases (fnN (dt d) a).testBit b <;> rfl
theorem c_addK {d : Dr} {h : CH} (cd : CD d h) (hV : VD d) {a b : Nat} (ha : a < dF d) (hb : b < dF d) (hab : a ≠ b) : f_X9_addKnows_31 (nI a) (nI b) h = some ((), sI (sI (sI h 52 a (nI (fnN (dt d) a ||| 2 ^ b))) 52 b (nI (fnN (dt d) b ||| 2 ^ a))) 31 3 (nI (tK (dt d) + 1))) := by
  have h16 : dF d ≤ 16 := hV.1.2.2.1
  have ea : h.1 52 a = nI (fnN (dt d) a) := (cd.1.2.2.2.2.2.2.2.1 a (by omega)).trans (fn_16 hV ha).2
  have eb : h.1 52 b = nI (fnN (dt d) b) := (cd.1.2.2.2.2.2.2.2.1 b (by omega)).trans (fn_16 hV hb).2
  unfold f_X9_addKnows_31
  rw [c_has31 cd hV ha, clp_some, if_neg (by decide), c_has31 cd hV hb, clp_some, if_neg (by decide), rdA_nI (by omega) (by omega), ea, sh_nI (by omega), or_nI, wrA_nI (by omega) (by omega), rdA_nI (by omega) (by omega), sI_ne (by omega), eb, sh_nI (by omega), or_nI, wrA_nI (by omega) (by omega), wrF_eq, sI_ne (by omega), sI_ne (by omega), cd.1.2.2.2.1, uI_add]
theorem fnN_K {d : Dr} (hV : VD d) {a b : Nat} (ha : a < dF d) (hb : b < dF d) (hab : a ≠ b) {x : Nat} (hx : x < dF d) : (tfr (dt (dKnw d a b)) x = nI (fnN (dt (dKnw d a b)) x)) ∧ fnN (dt (dKnw d a b)) x < 2 ^ dF d ∧ ∀ y, (fnN (dt (dKnw d a b)) x).testBit y = ((fnN (dt d) x).testBit y || decide ((x = b ∧ y = a) ∨ (x = a ∧ y = b))) := by
  have h16 : dF d ≤ 16 := hV.1.2.2.1
  have pa : 2 ^ a < 2 ^ dF d := Nat.pow_lt_pow_right (by omega) ha
  have pb : 2 ^ b < 2 ^ dF d := Nat.pow_lt_pow_right (by omega) hb
  have p16 : (2:Nat) ^ dF d ≤ 2 ^ 16 := Nat.pow_le_pow_right (by omega) h16
  have key : ∀ m, tfr (dt (dKnw d a b)) x = nI m → m < 2 ^ dF d → (∀ y, m.testBit y = ((fnN (dt d) x).testBit y || decide ((x = b ∧ y = a) ∨ (x = a ∧ y = b)))) → (tfr (dt (dKnw d a b)) x = nI (fnN (dt (dKnw d a b)) x)) ∧ fnN (dt (dKnw d a b)) x < 2 ^ dF d ∧ ∀ y, (fnN (dt (dKnw d a b)) x).testBit y = ((fnN (dt d) x).testBit y || decide ((x = b ∧ y = a) ∨ (x = a ∧ y = b))) := by
    intro m e1 e2 e3
    have e4 : fnN (dt (dKnw d a b)) x = m := by
      unfold fnN
      rw [e1, uI_toNat (by omega)]
    rw [e4]
    exact ⟨e1, e2, e3⟩
  have hd : tfr (dt (dKnw d a b)) x = if x = b then nI (fnN (dt d) b ||| 2 ^ a) else if x = a then nI (fnN (dt d) a ||| 2 ^ b) else tfr (dt d) x := rfl
  by_cases c1 : x = b
  · rw [if_pos c1] at hd
    refine key _ hd (Nat.or_lt_two_pow (fnN_lt hV.1 hb).1 pa) (fun y => ?_)
    rw [Nat.testBit_or, Nat.testBit_two_pow, c1]
    congr 1
    exact decide_eq_decide.2 ⟨fun z => Or.inl ⟨rfl, z.symm⟩, fun z => by omega⟩
  rw [if_neg c1] at hd
  by_cases c2 : x = a
  · rw [if_pos c2] at hd
    refine key _ hd (Nat.or_lt_two_pow (fnN_lt hV.1 ha).1 pb) (fun y => ?_)
    rw [Nat.testBit_or, Nat.testBit_two_pow, c2]
    congr 1
    exact decide_eq_decide.2 ⟨fun z => Or.inr ⟨rfl, z.symm⟩, fun z => by omega⟩
  rw [if_neg c2] at hd
  refine key _ (hd.trans (fn_16 hV hx).2) (fnN_lt hV.1 hx).1 (fun y => ?_)
  rw [decide_eq_false (by omega), Bool.or_false]
theorem dKnw_V {d : Dr} {a b : Nat} (hV : VD d) (ha : a < dF d) (hb : b < dF d) (hab : a ≠ b) (hK : tK (dt d) < 20) : VD (dKnw d a b) := by
  have hV0 := hV
  obtain ⟨⟨v1, v2, v3, v4, v5, v6, v7, v8, v9, v10, v11, v12⟩, w2, w3, w4⟩ := hV
  refine ⟨⟨v1, v2, v3, hK, v5, v6, v7, v8, v9, v10, fun f h1 h2 => ?_, fun f hf => ?_⟩, fun x y hx hy => ?_, w3, w4⟩
  · have h2 : dF d ≤ f := h2
    show (if f = b then nI (fnN (dt d) b ||| 2 ^ a) else if f = a then nI (fnN (dt d) a ||| 2 ^ b) else tfr (dt d) f) = nI 0
    rw [if_neg (by omega), if_neg (by omega)]
    exact v11 f h1 h2
  · obtain ⟨g1, g2, -⟩ := fnN_K hV0 ha hb hab (show f < dF d from hf)
    exact ⟨_, g2, g1⟩
  · obtain ⟨-, -, g1⟩ := fnN_K hV0 ha hb hab (show x < dF d from hx)
    obtain ⟨-, -, g2⟩ := fnN_K hV0 ha hb hab (show y < dF d from hy)
    show (fnN (dt (dKnw d a b)) x).testBit y = (fnN (dt (dKnw d a b)) y).testBit x
    rw [g1, g2, w2 x y hx hy]
    congr 1
    exact decide_eq_decide.2 ⟨fun z => by omega, fun z => by omega⟩
set_option maxHeartbeats 4000000 in
theorem c_readKnows {T : Nat → Tk} {N i n : Nat} {d : Dr} {h : CH} (hT : TG n T N) (hV : VD d) (s : ST T N i d h) (hc : kC (T i) = 5) : CO xT lT h (f_X10_readKnows h) (sKnw T i d) (QL T N i) := by
  have nl : ¬ kLast (T i) := by unfold kLast; omega
  have h16 : dF d ≤ 16 := hV.1.2.2.1
  have h20 : tK (dt d) ≤ 20 := hV.1.2.2.2.1
  unfold f_X10_readKnows sKnw
  have x : (nI (tK (dt d)) < nI 20) = (tK (dt d) < 20) := uI_lt (by omega) (by omega)
  rw [s.2.1.1.2.2.2.1]
  simp only [x]
  by_cases c : tK (dt d) < 20
  · rw [if_pos c, if_neg (by omega)]
    refine CO.step hT s.1 nl Fz.rf xP_T lP_T (fun h1 hi1 u1 g1 hF1 => ?_)
    have s1 : ST T N (i + 1) d h1 := s.pr u1 g1
    refine CO.fc hT hV s1 hF1 (fun a ha ka => ?_)
    refine CO.step hT u1 (by unfold kLast; omega) hF1 xP_T lP_T (fun h2 hi2 u2 g2 hF2 => ?_)
    have s2 : ST T N (i + 2) d h2 := s1.pr u2 g2
    refine CO.fc hT hV s2 hF2 (fun b hb kb => ?_)
    have y : (nI a = nI b) = (a = b) := uI_inj (by omega) (by omega)
    rw [jn_eq]
    simp only [y]
    by_cases c1 : a = b
    · rw [if_pos c1, if_pos (Or.inl c1)]
      exact c_er hT s2.1 hF2 3 _
    rw [if_neg c1, c_kno s2.2.1 hV ha hb, clp_some, ifB]
    by_cases c2 : (fnN (dt d) a).testBit b = true
    · rw [if_pos c2, if_pos (Or.inr c2)]
      exact c_er hT s2.1 hF2 3 _
    rw [if_neg c2, if_neg (fun z => z.elim c1 c2)]
    refine CO.step hT s2.1 (by unfold kLast; omega) hF2 xP_T lP_T (fun h3 hi3 u3 g3 hF3 => ?_)
    have s3 : ST T N (i + 3) d h3 := s2.pr u3 g3
    refine CO.bi (c_tk hT s3 hF3 (by omega) (by omega)) (fun j h4 p hF4 => ?_)
    obtain ⟨rfl, -, s4, -⟩ := p
    rw [c_addK s4.2.1 hV ha hb c1, cl_some]
    have gF : Fz (fun q k => q = 52 ∨ (q = 31 ∧ k = 3)) (fun _ _ => False) h4 (sI (sI (sI h4 52 a (nI (fnN (dt d) a ||| 2 ^ b))) 52 b (nI (fnN (dt d) b ||| 2 ^ a))) 31 3 (nI (tK (dt d) + 1))) := ((Fz.sI (by omega)).tr (Fz.sI (by omega))).tr (Fz.sI (by omega))
    have u5 := s4.1.fz gF (by intro k hk; omega) (by intro c; omega) (by intro c; omega) (by intro c; exact id) id
    refine ⟨_, rfl, ⟨⟨u5, ?_, by rw [gF.1 _ _ (by omega)]; exact s4.2.2.1, by rw [gF.1 _ _ (by omega)]; exact s4.2.2.2⟩, dKnw_V hV ha hb c1 c, by show i + 2 ≤ i + 3 + 1; omega⟩, hF4.tr (gF.mono (S' := xT) (L' := lT) (fun a k q => by unfold xT; omega) (fun a k q => q.elim))⟩
    obtain ⟨⟨c0, c1, c2, c3, c4, c5, c6, c7, c8, c9⟩, m2, m3, m4, m5⟩ := s4.2.1
    refine ⟨⟨?_, ?_, ?_, ?_, fun f hf => ?_, fun f hf => ?_, fun f hf k hk => ?_, fun f hf => ?_, fun f hf => ?_, fun f hf => ?_⟩, m2, ?_, ?_, ?_⟩
    · rw [gF.1 _ _ (by omega)]; exact c0
    · rw [gF.1 _ _ (by omega)]; exact c1
    · rw [gF.1 _ _ (by omega)]; exact c2
    · rw [sI_at]; rfl
    · rw [gF.1 _ _ (by omega)]; exact c4 f hf
    · rw [gF.1 _ _ (by omega)]; exact c5 f hf
    · have : f < dF d := hf
      rw [gF.1 _ _ (by omega)]; exact c6 f hf k hk
    · show _ = if f = b then nI (fnN (dt d) b ||| 2 ^ a) else if f = a then nI (fnN (dt d) a ||| 2 ^ b) else tfr (dt d) f
      rw [sI_ne (by omega), sI_1]
      by_cases e : f = b
      · rw [if_pos ⟨rfl, e⟩, if_pos e]
      · rw [if_neg (fun z => e z.2), if_neg e, sI_1]
        by_cases e2 : f = a
        · rw [if_pos ⟨rfl, e2⟩, if_pos e2]
        · rw [if_neg (fun z => e2 z.2), if_neg e2]; exact c7 f hf
    · rw [gF.1 _ _ (by omega)]; exact c8 f hf
    · rw [gF.1 _ _ (by omega)]; exact c9 f hf
    · rw [gF.1 _ _ (by omega)]; exact m3
    · rw [gF.1 _ _ (by omega)]; exact m4
    · rw [gF.1 _ _ (by omega)]; exact m5
  · rw [if_neg c, if_pos (by omega)]
    exact c_er hT s.1 Fz.rf 2 _
