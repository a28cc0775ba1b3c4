/-! the model reads a knows line -/
theorem m_fhL {rl : Bool} {n : Nat} {X : Nat → Nat} {N j rb : Nat} {d : Dr} {h : CH} (hB : TXN rl n X N) (u : Mu (tks rl n X) N j h) (m : Md rb d h) (hV : VD d) : ∀ k i g, i + k = dF d → k < g → f_X12_faceHere_L2 h g (nI i) = some (if kC (tks rl n X j) = 24 ∧ fnd (fun f => decide (dn d f = kW (tks rl n X j))) k i < dF d then nI (fnd (fun f => decide (dn d f = kW (tks rl n X j))) k i) else -1) := by
  have h16 : dF d ≤ 16 := hV.1.2.2.1
  obtain ⟨c0, c1, c2, c3, c4, c5, c6, c7, c8, c9, c10, c11, c12, c13, c14, c15⟩ := m
  have x2 : (h.1 151 8 = nI 2) = (kC (tks rl n X j) = 24) := by rw [u.2.2.2.2.2.1, ktq_of (by omega), ktq_2]
  intro k
  induction k with
  | zero =>
    intro i g hi hg
    obtain ⟨g, rfl⟩ : ∃ x, g = x + 1 := ⟨g - 1, by omega⟩
    unfold f_X12_faceHere_L2
    rw [c1, rdA_nI (by omega) (by omega), c4, if_neg (by rw [uI_lt (by omega) (by omega)]; omega), if_neg (by intro z; have : i < dF d := z.2; omega)]
  | succ k ih =>
    intro i g hi hg
    obtain ⟨g, rfl⟩ : ∃ x, g = x + 1 := ⟨g - 1, by omega⟩
    unfold f_X12_faceHere_L2
    rw [c1, rdA_nI (by omega) (by omega), c4, if_pos (by rw [uI_lt (by omega) (by omega)]; omega), jn_eq, uI_add]
    simp only [x2]
    by_cases c : kC (tks rl n X j) = 24
    · have gg := (hB.2.1.2.2.2.2 j u.1).2.2.2 (by omega)
      rw [if_pos c, uI_mul, uI_add, rdL_nI (by omega) (by omega), c15 i (by omega), u.2.2.2.2.2.2.2 (by omega)]
      have e := lg8 (hV.2.2.1 i (by omega)) gg.1
      unfold fnd
      by_cases z : dn d i = kW (tks rl n X j)
      · rw [if_pos (e.mpr z), if_pos (decide_eq_true z), if_pos ⟨c, by omega⟩]
      · rw [if_neg (fun y => z (e.mp y)), if_neg (show ¬ ((decide (dn d i = kW (tks rl n X j))) = true) from by simp [z])]
        exact ih (i + 1) g (by omega) (by omega)
    · rw [if_neg c, ih (i + 1) g (by omega) (by omega), if_neg (fun z => c z.1), if_neg (fun z => c z.1)]
theorem m_faceHere {rl : Bool} {n : Nat} {X : Nat → Nat} {N j rb : Nat} {d : Dr} {h : CH} (hB : TXN rl n X N) (u : Mu (tks rl n X) N j h) (m : Md rb d h) (hV : VD d) : f_X12_faceHere h = some (if kC (tks rl n X j) = 24 ∧ nmd d (kW (tks rl n X j)) < dF d then nI (nmd d (kW (tks rl n X j))) else -1) := by
  have h16 : dF d ≤ 16 := hV.1.2.2.1
  unfold f_X12_faceHere nmd
  exact m_fhL hB u m hV (dF d) 0 FU (by omega) (by show _ < 100000; omega)
theorem sFc_ok {T : Nat → Tk} {i a : Nat} {d : Dr} (h : sFc T i d = .ok a) : kC (T i) = 24 ∧ a < dF d := by
  unfold sFc at h
  by_cases c : kC (T i) = 24
  · rw [if_pos c] at h
    by_cases z : nmd d (kW (T i)) < dF d
    · rw [if_pos z] at h; cases h; exact ⟨c, z⟩
    · rw [if_neg z] at h; cases h
  · rw [if_neg c] at h; cases h
set_option maxHeartbeats 4000000 in
theorem m_aFace {α : Type} {rl : Bool} {n : Nat} {X : Nat → Nat} {N j rb : Nat} {d : Dr} {h : CH} {r : Ex α} {mk : Int32} {mm : Nat} (hB : TXN rl n X N) (hL : Mx rl n X h) (g : Mg (tks rl n X) N n j r h) (m : Md rb d h) (hV : VD d) (hm : ∀ x, r = .ok x → mk = nI mm ∧ mm < 65536) : ∃ a h', f_X12_aFace mk h = some (nI a, h') ∧ a < 16 ∧ Mg (tks rl n X) N n (j + 1) (bd r fun x => bd (sFc (tks rl n X) j d) fun b => if mm.testBit b = true then .error (3, kS (tks rl n X j)) else .ok (x, b)) h' ∧ (∀ x b, r = .ok x → sFc (tks rl n X) j d = .ok b → a = b) ∧ Mx rl n X h' ∧ Fz xM lG h h' := by
  have h16 : dF d ≤ 16 := hV.1.2.2.1
  have n1 : (-1 : Int32) < 0 := by decide
  have z0 : nI 0 = 0 := by decide
  unfold f_X12_aFace
  simp only [jn_eq]
  cases r with
  | error e =>
    rw [m_good0 g, clp_some, if_pos (by decide)]
    exact ⟨0, h, rfl, by omega, g, fun x b z => (by cases z), hL, Fz.rf⟩
  | ok x =>
    have u : Mu (tks rl n X) N j h := g
    obtain ⟨hm1, hm2⟩ := hm x rfl
    subst hm1
    have x2 : (h.1 151 8 = nI 2) = (kC (tks rl n X j) = 24) := by rw [u.2.2.2.2.2.1, ktq_of (by omega), ktq_2]
    rw [m_good1 u.2.1, clp_some, if_neg (by decide), m_faceHere hB u m hV]
    simp only [x2, clp_some]
    unfold sFc
    by_cases c : kC (tks rl n X j) = 24
    · by_cases z : nmd d (kW (tks rl n X j)) < dF d
      · simp only [if_pos c, if_pos z, if_pos (show kC (tks rl n X j) = 24 ∧ nmd d (kW (tks rl n X j)) < dF d from ⟨c, z⟩), if_neg (lt0n (show nmd d (kW (tks rl n X j)) < 2147483648 by omega)), tb_if hm2 (show nmd d (kW (tks rl n X j)) < 16 by omega)]
        by_cases tb : mm.testBit (nmd d (kW (tks rl n X j))) = true
        · obtain ⟨h', g1, g2, g3⟩ := m_fails1 hB.2.1 u (show 1 ≤ 3 by omega) (by omega)
          refine ⟨nmd d (kW (tks rl n X j)), h', ?_, by omega, ?_, fun x b _ q => (by cases q; rfl), hL.fz g3 (by unfold xM; omega) (by unfold xM; omega) (by intro k; unfold xM; omega), g3⟩
          · rw [if_pos tb, g1, cl_some, m_good0 g2, clp_some, if_pos z0]
          · show Mg _ _ _ _ (if mm.testBit (nmd d (kW (tks rl n X j))) = true then _ else _) _
            rw [if_pos tb]
            exact g2
        · obtain ⟨-, h', g1, g2, g3, g4⟩ := m_next hB hL u (by unfold kLast; omega)
          refine ⟨nmd d (kW (tks rl n X j)), h', ?_, by omega, ?_, fun x b _ q => (by cases q; rfl), g3, g4.mono xG_M (fun _ _ q => q)⟩
          · rw [if_neg tb, if_neg (show ¬ nI 1 = 0 by decide), g1, cl_some]
          · show Mg _ _ _ _ (if mm.testBit (nmd d (kW (tks rl n X j))) = true then _ else _) _
            rw [if_neg tb]
            exact g2
      · simp only [if_pos c, if_neg z, if_neg (show ¬ (kC (tks rl n X j) = 24 ∧ nmd d (kW (tks rl n X j)) < dF d) from fun q => z q.2), if_pos n1]
        obtain ⟨h', g1, g2, g3⟩ := m_fails1 hB.2.1 u (show 1 ≤ 5 by omega) (by omega)
        refine ⟨0, h', ?_, by omega, ?_, fun x b _ q => (by cases q), hL.fz g3 (by unfold xM; omega) (by unfold xM; omega) (by intro k; unfold xM; omega), g3⟩
        · rw [g1, cl_some, m_good0 g2, clp_some, if_pos z0]
        · have : flK (tks rl n X) j 5 = 5 := by unfold flK; rw [if_neg (by omega)]
          rw [this]
          exact g2
    · simp only [if_neg c, if_neg (show ¬ (kC (tks rl n X j) = 24 ∧ nmd d (kW (tks rl n X j)) < dF d) from fun q => c q.1), if_pos n1]
      obtain ⟨h', g1, g2, g3⟩ := m_mis1 hB.2.1 u
      refine ⟨0, h', ?_, by omega, g2, fun x b _ q => (by cases q), hL.fz g3 (by unfold xM; omega) (by unfold xM; omega) (by intro k; unfold xM; omega), g3⟩
      rw [g1, cl_some, m_good0 g2, clp_some, if_pos z0]
def kwS (T : Nat → Tk) (i : Nat) (d : Dr) : Ex (Nat × Nat) := bd (sFc T i d) fun a => bd (sFc T (i + 1) d) fun b => if a = b ∨ (fnN (dt d) a).testBit b = true then .error (flK T (i + 1) 3, kS (T (i + 1))) else .ok (a, b)
set_option maxHeartbeats 4000000 in
theorem m_readKnows {rl : Bool} {n : Nat} {X : Nat → Nat} {N i rb : Nat} {d : Dr} {h : CH} (hB : TXN rl n X N) (hL : Mx rl n X h) (u : Mu (tks rl n X) N i h) (m : Md rb d h) (hV : VD d) (hK : tK (dt d) < 20) : ∃ h', f_X12_readKnows h = some ((), h') ∧ Mg (tks rl n X) N n (i + 2) (kwS (tks rl n X) i d) h' ∧ (∀ q, kwS (tks rl n X) i d = .ok q → Md rb (dKnw d q.1 q.2) h' ∧ q.1 < dF d ∧ q.2 < dF d ∧ q.1 ≠ q.2) ∧ Mx rl n X h' ∧ Fz (fun a k => xM a k ∨ (a = 156 ∧ k = rb) ∨ (a = 161 ∧ 16 * rb ≤ k ∧ k < 16 * rb + 16)) lG h h' := by
  have h16 : dF d ≤ 16 := hV.1.2.2.1
  have g0 : Mg (tks rl n X) N n i (.ok () : Ex Unit) h := u
  obtain ⟨c0, c1, c2, c3, c4, c5, c6, c7, c8, c9, c10, c11, c12, c13, c14, c15⟩ := id m
  unfold f_X12_readKnows
  obtain ⟨a, h1, a1, la, g1, v1, L1, f1⟩ := m_aFace (mm := 0) (mk := nI 0) hB hL g0 m hV (fun _ _ => ⟨rfl, by omega⟩)
  have m1 := m.tk f1
  have b1 : h1.1 151 27 = nI rb := m1.2.1
  have e161 : h1.1 161 (16 * rb + a) = tfr (dt d) a := m1.2.2.2.2.2.2.2.2.2.1 a la
  rw [a1, cl_some, b1, uI_mul, uI_add, rdA_nI (by omega) (by omega), e161]
  have hmk : ∀ x, (bd (.ok () : Ex Unit) fun x => bd (sFc (tks rl n X) i d) fun b => if (0:Nat).testBit b = true then .error (3, kS (tks rl n X i)) else (.ok (x, b) : Ex (Unit × Nat))) = .ok x → (tfr (dt d) a ||| nI 1 <<< (nI a &&& 31)) = nI (fnN (dt d) a ||| 2 ^ a) ∧ fnN (dt d) a ||| 2 ^ a < 65536 := by
    intro x hx
    obtain ⟨b, hb1, hb2⟩ := bd_inv (show (bd (sFc (tks rl n X) i d) fun b => if (0:Nat).testBit b = true then .error (3, kS (tks rl n X i)) else (.ok ((), b) : Ex (Unit × Nat))) = .ok x from hx)
    have ab := v1 () b rfl hb1
    have lb := (sFc_ok hb1).2
    subst ab
    rw [(fn_16 hV lb).2, sh_nI (by omega), or_nI]
    have : 2 ^ a < 2 ^ 16 := Nat.pow_lt_pow_right (by omega) (by omega)
    exact ⟨rfl, Nat.or_lt_two_pow (n := 16) (fn_16 hV lb).1 this⟩
  obtain ⟨b, h2, a2, lb, g2, v2, L2, f2⟩ := m_aFace (mm := fnN (dt d) a ||| 2 ^ a) (mk := tfr (dt d) a ||| nI 1 <<< (nI a &&& 31)) hB L1 g1 m1 hV hmk
  have m2 := m1.tk f2
  have G : Mg (tks rl n X) N n (i + 2) (kwS (tks rl n X) i d) h2 ∧ ∀ q, kwS (tks rl n X) i d = .ok q → q = (a, b) ∧ a < dF d ∧ b < dF d ∧ a ≠ b ∧ Mu (tks rl n X) N (i + 2) h2 := by
    unfold kwS
    cases e1 : sFc (tks rl n X) i d with
    | error e => rw [e1] at g2; exact ⟨g2, fun q z => (by cases z)⟩
    | ok a' =>
      have := v1 () a' rfl e1
      subst this
      have la2 := (sFc_ok e1).2
      rw [e1] at g2
      have z0 : (if (0:Nat).testBit a = true then .error (3, kS (tks rl n X i)) else (.ok ((), a) : Ex (Unit × Nat))) = .ok ((), a) := by rw [Nat.zero_testBit]; rfl
      simp only [bd_ok, z0] at g2 v2
      cases e2 : sFc (tks rl n X) (i + 1) d with
      | error e => rw [e2] at g2; exact ⟨g2, fun q z => (by cases z)⟩
      | ok b' =>
        have := v2 ((), a) b' (by rw [e1]; simp only [bd_ok, z0]) e2
        subst this
        obtain ⟨kb, lb2⟩ := sFc_ok e2
        rw [e2] at g2
        simp only [bd_ok, Nat.testBit_or, Nat.testBit_two_pow] at g2 ⊢
        by_cases c : a = b ∨ (fnN (dt d) a).testBit b = true
        · have c' : ((fnN (dt d) a).testBit b || decide (a = b)) = true := by
            rcases c with c | c
            · rw [decide_eq_true c, Bool.or_true]
            · rw [c]; rfl
          rw [if_pos c'] at g2
          rw [if_pos c]
          have : flK (tks rl n X) (i + 1) 3 = 3 := by unfold flK; rw [if_neg (by omega)]
          rw [this]
          exact ⟨g2, fun q z => (by cases z)⟩
        · have c' : ¬ ((fnN (dt d) a).testBit b || decide (a = b)) = true := by
            intro z
            rcases Bool.or_eq_true_iff.1 z with z | z
            · exact c (Or.inr z)
            · exact c (Or.inl (of_decide_eq_true z))
          rw [if_neg c'] at g2
          rw [if_neg c]
          exact ⟨g2, fun q z => (by cases z; exact ⟨rfl, la2, lb2, fun y => c (Or.inl y), g2⟩)⟩
  obtain ⟨G1, G2⟩ := G
  have F2 : Fz xM lG h h2 := f1.tr f2
  rw [a2, cl_some]
  cases ek : kwS (tks rl n X) i d with
  | error e =>
    rw [ek] at G1
    rw [m_good0 G1, clp_some, if_pos (by decide)]
    exact ⟨h2, rfl, G1, fun q z => (by cases z), L2, F2.mono (fun _ _ q => Or.inl q) (fun _ _ q => q)⟩
  | ok q =>
    obtain ⟨eq, ha, hb, hab, u2⟩ := G2 q ek
    subst eq
    have ea : h2.1 161 (16 * rb + a) = nI (fnN (dt d) a) := (m2.2.2.2.2.2.2.2.2.2.1 a la).trans (fn_16 hV ha).2
    have eb : h2.1 161 (16 * rb + b) = nI (fnN (dt d) b) := (m2.2.2.2.2.2.2.2.2.2.1 b lb).trans (fn_16 hV hb).2
    have eb2 : h2.1 151 27 = nI rb := m2.2.1
    rw [m_good1 u2.2.1, clp_some, if_neg (by decide), eb2, uI_mul, uI_add, rdA_nI (by omega) (by omega), ea, sh_nI (by omega), or_nI, wrA_nI (by omega) (by omega), sI_ne (by omega), eb2, uI_mul, uI_add, rdA_nI (by omega) (by omega), sI_ne (by omega), eb, sh_nI (by omega), or_nI, wrA_nI (by omega) (by omega), sI_ne (by omega), sI_ne (by omega), eb2, rdA_nI (by omega) (by omega), sI_ne (by omega), sI_ne (by omega), m2.2.2.2.2.2.1, uI_add, wrA_nI (by omega) (by omega)]
    have k3 : Fz (fun q k => (q = 156 ∧ k = rb) ∨ (q = 161 ∧ 16 * rb ≤ k ∧ k < 16 * rb + 16)) (fun _ _ => False) h2 (sI (sI (sI h2 161 (16 * rb + a) (nI (fnN (dt d) a ||| 2 ^ b))) 161 (16 * rb + b) (nI (fnN (dt d) b ||| 2 ^ a))) 156 rb (nI (tK (dt d) + 1))) := ((Fz.sI (by omega)).tr (Fz.sI (by omega))).tr (Fz.sI (by omega))
    refine ⟨_, rfl, Mu.fz u2 k3 (by intro k h1 h2; omega) id, fun q z => ?_, L2.fz k3 (by omega) (by omega) (by intro k; omega), (F2.mono (fun _ _ q => Or.inl q) (fun _ _ q => q)).tr (k3.mono (fun _ _ q => Or.inr q) (fun _ _ q => q.elim))⟩
    cases z
    refine ⟨?_, ha, hb, hab⟩
    obtain ⟨c0, c1, c2, c3, c4, c5, c6, c7, c8, c9, c10, c11, c12, c13, c14, c15⟩ := m2
    refine ⟨c0, ?_, ?_, ?_, ?_, ?_, fun f hf => ?_, fun f hf => ?_, fun f hf k hk => ?_, fun f hf => ?_, fun f hf => ?_, fun f hf => ?_, ?_, ?_, fun f hf => ?_, fun f hf => ?_⟩
    · rw [k3.1 _ _ (by omega)]; exact c1
    · rw [k3.1 _ _ (by omega)]; exact c2
    · rw [k3.1 _ _ (by omega)]; exact c3
    · rw [k3.1 _ _ (by omega)]; exact c4
    · rw [sI_at]; rfl
    · rw [k3.1 _ _ (by omega)]; exact c6 f hf
    · rw [k3.1 _ _ (by omega)]; exact c7 f hf
    · rw [k3.1 _ _ (by omega)]; exact c8 f hf k hk
    · show _ = if f = b then nI (fnN (dt d) b ||| 2 ^ a) else if f = a then nI (fnN (dt d) a ||| 2 ^ b) else tfr (dt d) f
      rw [sI_ne (by omega), sI_1]
      by_cases e : f = b
      · rw [if_pos ⟨rfl, by rw [e]⟩, if_pos e]
      · rw [if_neg (fun z => e (by omega)), if_neg e, sI_1]
        by_cases e2 : f = a
        · rw [if_pos ⟨rfl, by rw [e2]⟩, if_pos e2]
        · rw [if_neg (fun z => e2 (by omega)), if_neg e2]; exact c9 f hf
    · rw [k3.1 _ _ (by omega)]; exact c10 f hf
    · rw [k3.1 _ _ (by omega)]; exact c11 f hf
    · rw [k3.1 _ _ (by omega)]; exact c12
    · rw [k3.1 _ _ (by omega)]; exact c13
    · rw [k3.1 _ _ (by omega)]; exact c14 f hf
    · rw [k3.2 _ _ id]; exact c15 f hf
set_option maxHeartbeats 4000000 in
theorem m_lineK {rl : Bool} {n : Nat} {X : Nat → Nat} {N i rb : Nat} {d : Dr} {h : CH} (hB : TXN rl n X N) (hL : Mx rl n X h) (u : Mu (tks rl n X) N i h) (m : Md rb d h) (hV : VD d) (hc : kC (tks rl n X i) = 5) (hf : tK (dt d) < 20) : ∃ h', f_X12_readLine h = some ((), h') ∧ Mln (tks rl n X) N n rb (sKnw (tks rl n X) i d) h' ∧ Mx rl n X h' ∧ Fz (xB rb) lB h h' := by
  have h16 : dF d ≤ 16 := hV.1.2.2.1
  have h20 : tK (dt d) ≤ 20 := hV.1.2.2.2.1
  have fu := m_isFull hB u m hV
  rw [if_neg (by omega), if_neg (by omega), if_pos hc, decide_eq_false (by omega)] at fu
  unfold f_X12_readLine
  have l0 := wd_L hB.2.1 u (fun _ g => k8_0 g) (by omega)
  have l1 := wd_L hB.2.1 u (fun _ g => k8_1 g) (by omega)
  have l5 := wd_L hB.2.1 u (fun _ g => k8_5 g) (by omega)
  have l6 := wd_L hB.2.1 u (fun _ g => k8_6 g) (by omega)
  have l9 := wd_L hB.2.1 u (fun _ g => k8_9 g) (by omega)
  have d0 : (5 = 0) = False := by simp
  have d1 : (5 = 1) = False := by simp
  have d6 : (5 = 6) = False := by simp
  have d9 : (5 = 9) = False := by simp
  have t3 : (h.1 151 8 = nI 3) = True := by
    rw [u.2.2.2.2.2.1, ktq_of (by omega), ktq_3]
    exact eq_true (by omega)
  simp only [l0, l1, l5, l6, l9, hc, d0, d1, d6, d9, t3, if_true, if_false, jn_eq]
  rw [fu, clp_some, if_pos (by decide), m_good1 u.2.1, clp_some, if_neg (by decide)]
  obtain ⟨-, h1, a1, u1, L1, f1⟩ := m_next hB hL u (by unfold kLast; omega)
  rw [a1, cl_some]
  obtain ⟨h3, a3, G3, v3, L3, f3⟩ := m_readKnows hB L1 u1 (m.tk (f1.mono xG_M (fun _ _ q => q))) hV hf
  rw [a3, cl_some]
  have F03 : Fz (fun a k => xM a k ∨ (a = 156 ∧ k = rb) ∨ (a = 161 ∧ 16 * rb ≤ k ∧ k < 16 * rb + 16)) lG h h3 := (f1.mono (fun a k q => Or.inl (xG_M a k q)) (fun _ _ q => q)).tr f3
  have b3 : h3.1 151 27 = nI rb := by rw [F03.1 _ _ (by unfold xM; omega)]; exact m.2.1
  have b165 : h3.1 165 rb = bI (dq d) := by rw [F03.1 _ _ (by unfold xM; omega)]; exact m.2.2.2.2.2.2.2.2.2.2.2.2.2.1
  have c0 := m.1
  have tl : ∀ o : CH → Option (Unit × CH), (rdA h3 165 2 (h3.1 151 27) fun v_18 => (if v_18 = 0 then wrZ h3 165 2 (h3.1 151 27) (nI 0) o else wrZ h3 165 2 (h3.1 151 27) (nI 1) o)) = o h3 := by
    intro o
    rw [b3, rdA_nI (by omega) (by omega), b165, ifB, wrZ_nI (by omega) (by omega), wrZ_nI (by omega) (by omega), vzb_0, vzb_1]
    cases hq : dq d with
    | true => rw [if_pos rfl, sI_id (by rw [b165, hq]; rfl)]
    | false => rw [if_neg (by decide), sI_id (by rw [b165, hq]; rfl)]
  rw [tl]
  obtain ⟨h4, a4, g4, L4, f4⟩ := m_tl hB L3 G3
  have FT := F03.tr (f4.mono (fun _ _ q => Or.inl q) (fun _ _ q => q))
  refine ⟨h4, a4, ?_, L4, FT.mono (fun a k q => by
    rcases q with q | q
    · exact Or.inl q
    · unfold xB; omega) lG_B⟩
  have key := g4.mp (fun q => (i + 4, dKnw d q.1 q.2))
  have eq : (bd (bd (kwS (tks rl n X) (i + 1) d) fun a => bd (sTk (tks rl n X) (i + 1 + 2) 59) fun _ => .ok a) fun q => .ok (i + 4, dKnw d q.1 q.2)) = sKnw (tks rl n X) i d := by
    unfold sKnw kwS
    rw [if_neg (by omega)]
    simp only [bd_as]
    congr 1
    funext a
    congr 1
    funext b
    by_cases c : a = b ∨ (fnN (dt d) a).testBit b = true
    · rw [if_pos c, if_pos c, bd_er]
    · rw [if_neg c, if_neg c]
      simp only [bd_ok]
      cases e2 : sTk (tks rl n X) (i + 1 + 2) 59 with
      | error e => rfl
      | ok j =>
        obtain ⟨ej, -⟩ := sTk_ok e2
        rw [ej]; rfl
  rw [eq] at key
  cases es : sKnw (tks rl n X) i d with
  | error e => rw [es] at key; exact key
  | ok q =>
    rw [es] at key
    rw [← eq] at es
    obtain ⟨x1, y1, z1⟩ := bd_inv es
    obtain ⟨x2, y2, z2⟩ := bd_inv y1
    obtain ⟨w1, w2, w3, w4⟩ := v3 x2 y2
    obtain ⟨x3, y3, z3⟩ := bd_inv z2
    cases z3
    cases z1
    exact ⟨key, w1.tk f4, dKnw_V hV w2 w3 w4 hf⟩
