/-! image, back -/
def cpL (d s : Nat) : Nat → Int32 → CH → Option (Unit × CH)
  | 0, _, _ => none
  | n + 1, x2, h =>
    (if (x2) < (h.1 d 0) then (if (x2) < ((nI 40)) then rdA h (s + 1) 40 (x2) fun v_5 => wrA h (d + 1) 40 (x2) (v_5) fun h_6 => rdA h_6 (s + 2) 40 (x2) fun v_7 => wrA h_6 (d + 2) 40 (x2) (v_7) fun h_8 => rdA h_8 (s + 3) 40 (x2) fun v_9 => wrA h_8 (d + 3) 40 (x2) (v_9) fun h_10 => rdA h_10 (s + 4) 40 (x2) fun v_11 => wrA h_10 (d + 4) 40 (x2) (v_11) fun h_12 => rdA h_12 (s + 5) 40 (x2) fun v_13 => wrA h_12 (d + 5) 40 (x2) (v_13) fun h_14 => rdA h_14 (s + 6) 40 (x2) fun v_15 => wrA h_14 (d + 6) 40 (x2) (v_15) fun h_16 => cpL d s n (x2 + (nI 1)) h_16 else some ((), h)) else some ((), h))
def cpC (d s : Nat) (h : CH) : Option (Unit × CH) :=
  wrF h d 0 (h.1 s 0) fun h_1 => wrF h_1 d 1 (h_1.1 s 1) fun h_2 => cpL d s FU ((nI 0)) h_2
theorem cpL_1 : ∀ n x h, f_X2_copyFrom_130_71_L18 n x h = cpL 130 71 n x h := by
  intro n; induction n with
  | zero => intro x h; rfl
  | succ n ih => intro x h; unfold f_X2_copyFrom_130_71_L18 cpL; simp only [ih]
theorem cpL_2 : ∀ n x h, f_X2_copyFrom_137_71_L18 n x h = cpL 137 71 n x h := by
  intro n; induction n with
  | zero => intro x h; rfl
  | succ n ih => intro x h; unfold f_X2_copyFrom_137_71_L18 cpL; simp only [ih]
theorem cpL_3 : ∀ n x h, f_X2_copyFrom_144_71_L18 n x h = cpL 144 71 n x h := by
  intro n; induction n with
  | zero => intro x h; rfl
  | succ n ih => intro x h; unfold f_X2_copyFrom_144_71_L18 cpL; simp only [ih]
theorem cpL_4 : ∀ n x h, f_X2_copyFrom_71_130_L18 n x h = cpL 71 130 n x h := by
  intro n; induction n with
  | zero => intro x h; rfl
  | succ n ih => intro x h; unfold f_X2_copyFrom_71_130_L18 cpL; simp only [ih]
theorem cpL_5 : ∀ n x h, f_X2_copyFrom_71_137_L18 n x h = cpL 71 137 n x h := by
  intro n; induction n with
  | zero => intro x h; rfl
  | succ n ih => intro x h; unfold f_X2_copyFrom_71_137_L18 cpL; simp only [ih]
theorem cpL_6 : ∀ n x h, f_X2_copyFrom_71_144_L18 n x h = cpL 71 144 n x h := by
  intro n; induction n with
  | zero => intro x h; rfl
  | succ n ih => intro x h; unfold f_X2_copyFrom_71_144_L18 cpL; simp only [ih]
theorem cpL_ok {d s N : Nat} (hN : N ≤ 40) (hds : s + 6 < d ∨ d + 6 < s) : ∀ h : CH, h.1 d 0 = nI N → ∃ h', cpL d s FU (nI 0) h = some ((), h') ∧ (∀ a j, h'.1 a j = if d + 1 ≤ a ∧ a ≤ d + 6 ∧ 0 ≤ j ∧ j < N then h.1 (a - d + s) j else h.1 a j) ∧ h'.2 = h.2 := by
  refine loop_FU (fun n k => ∀ h : CH, h.1 d 0 = nI N → ∃ h', cpL d s n (nI k) h = some ((), h') ∧ (∀ a j, h'.1 a j = if d + 1 ≤ a ∧ a ≤ d + 6 ∧ k ≤ j ∧ j < N then h.1 (a - d + s) j else h.1 a j) ∧ h'.2 = h.2) N (by omega) ?_ ?_
  · intro n k hk ih h h0
    unfold cpL
    rw [h0]
    have hk40 : k < 40 := by omega
    have n1 : ∀ i j, 1 ≤ i → i ≤ 6 → 1 ≤ j → j ≤ 6 → (s + i = d + j) = False := fun i j _ _ _ _ => eq_false (by omega)
    simp (disch := omega) only [clp_some, cl_some, jn_eq, uI_add, uI_mul, uI_lt, uI_lt0, uI_0lt, uI_eq0, uI_inj, uI_ne1, n1_ne, n1_lt, uI_lt1, rdA_nI, rdQ_nI, rdL_nI, wrA_nI, wrL_nI, wrF_eq, wrJ_eq, dvd_nI, ite_true, ite_false, if_true, if_false, bI_t, bI_f, bI_0, decide_true, decide_false, Nat.one_ne_zero, Nat.reduceEqDiff, Nat.reduceLT, Nat.reduceLeDiff, Nat.reduceAdd, Nat.reduceMul, Nat.reduceSub, Nat.reduceDiv, hk, hk40, sI_1, n1, false_and]
    generalize hH : sI (sI (sI (sI (sI (sI h (d + 1) k (h.1 (s + 1) k)) (d + 2) k (h.1 (s + 2) k)) (d + 3) k (h.1 (s + 3) k)) (d + 4) k (h.1 (s + 4) k)) (d + 5) k (h.1 (s + 5) k)) (d + 6) k (h.1 (s + 6) k) = H
    have e : ∀ a j, H.1 a j = if d + 1 ≤ a ∧ a ≤ d + 6 ∧ j = k then h.1 (a - d + s) j else h.1 a j := by
      intro a j
      rw [← hH]
      simp only [sI_1]
      by_cases z : j = k
      · subst z
        by_cases z6 : a = d + 6
        · subst z6; simp; exact congrArg (fun q => h.1 q j) (by omega)
        by_cases z5 : a = d + 5
        · subst z5; simp; exact congrArg (fun q => h.1 q j) (by omega)
        by_cases z4 : a = d + 4
        · subst z4; simp; exact congrArg (fun q => h.1 q j) (by omega)
        by_cases z3 : a = d + 3
        · subst z3; simp; exact congrArg (fun q => h.1 q j) (by omega)
        by_cases z2 : a = d + 2
        · subst z2; simp; exact congrArg (fun q => h.1 q j) (by omega)
        by_cases z1 : a = d + 1
        · subst z1; simp; exact congrArg (fun q => h.1 q j) (by omega)
        rw [if_neg (by omega), if_neg (by omega), if_neg (by omega), if_neg (by omega), if_neg (by omega), if_neg (by omega), if_neg (by omega)]
      · simp only [z, and_false, if_false]
    obtain ⟨h', e1, e2, e3⟩ := ih H (by rw [e, if_neg (by omega)]; exact h0)
    refine ⟨h', e1, fun a j => ?_, by rw [e3, ← hH]; rfl⟩
    rw [e2]
    by_cases z : d + 1 ≤ a ∧ a ≤ d + 6
    · by_cases z1 : k + 1 ≤ j ∧ j < N
      · rw [if_pos (by omega), if_pos (by omega), e, if_neg (by omega)]
      · by_cases z2 : j = k
        · rw [if_neg (by omega), if_pos (by omega), e, if_pos (by omega)]
        · rw [if_neg (by omega), if_neg (by omega), e, if_neg (by omega)]
    · rw [if_neg (by omega), if_neg (by omega), e, if_neg (by omega)]
  · intro n h h0
    unfold cpL
    rw [h0]
    refine ⟨h, ?_, fun a j => by rw [if_neg (by omega)], rfl⟩
    simp (disch := omega) only [clp_some, cl_some, jn_eq, uI_add, uI_mul, uI_lt, uI_lt0, uI_0lt, uI_eq0, uI_inj, uI_ne1, n1_ne, n1_lt, uI_lt1, rdA_nI, rdQ_nI, rdL_nI, wrA_nI, wrL_nI, wrF_eq, wrJ_eq, dvd_nI, ite_true, ite_false, if_true, if_false, bI_t, bI_f, bI_0, decide_true, decide_false, Nat.one_ne_zero, Nat.reduceEqDiff, Nat.reduceLT, Nat.reduceLeDiff, Nat.reduceAdd, Nat.reduceMul, Nat.reduceSub, Nat.reduceDiv, Nat.lt_irrefl]
def SX (d : Nat) (a k : Nat) : Prop := (a = d ∧ k < 2) ∨ (d + 1 ≤ a ∧ a ≤ d + 6)
theorem cpC_ok {d s : Nat} {p : Pp} {h : CH} (hC : CP s p h) (hN : pN p ≤ 40) (hds : s + 6 < d ∨ d + 6 < s) : ∃ h', cpC d s h = some ((), h') ∧ CP d p h' ∧ Fr (SX d) h h' := by
  unfold cpC
  rw [wrF_eq, wrF_eq]
  obtain ⟨c1, c2, c3⟩ := hC
  have e1 : (sI h d 0 (h.1 s 0)).1 s 1 = nI (pT p) := by rw [sI_1, if_neg (by omega)]; exact c2
  rw [e1, c1]
  generalize hH : sI (sI h d 0 (nI (pN p))) d 1 (nI (pT p)) = H
  have e : ∀ a j, H.1 a j = if a = d ∧ j = 1 then nI (pT p) else if a = d ∧ j = 0 then nI (pN p) else h.1 a j := by intro a j; rw [← hH]; rfl
  obtain ⟨h', f1, f2, f3⟩ := cpL_ok hN hds H (by rw [e]; simp)
  refine ⟨h', f1, ⟨?_, ?_, fun i hi => ?_⟩, fun a k hS => ?_, by rw [f3, ← hH]; rfl⟩
  · rw [f2, if_neg (by omega), e]; simp
  · rw [f2, if_neg (by omega), e]; simp
  · have g : ∀ z, 1 ≤ z → z ≤ 6 → h'.1 (d + z) i = h.1 (s + z) i := by
      intro z z1 z2
      rw [f2, if_pos (by omega), e, if_neg (by omega), if_neg (by omega)]
      exact congrArg (fun q => h.1 q i) (by omega)
    obtain ⟨d1, d2, d3, d4, d5, d6⟩ := c3 i hi
    exact ⟨(g 1 (by omega) (by omega)).trans d1, (g 2 (by omega) (by omega)).trans d2, (g 3 (by omega) (by omega)).trans d3, (g 4 (by omega) (by omega)).trans d4, (g 5 (by omega) (by omega)).trans d5, (g 6 (by omega) (by omega)).trans d6⟩
  · unfold SX at hS
    rw [f2, if_neg (by omega), e, if_neg (by omega), if_neg (by omega)]
abbrev Bxs : Type := Nat → Option Pp
def CB1 (j : Nat) (o : Option Pp) (h : CH) : Prop := match o with | none => h.1 (130 + 7 * j) 2 = nI 0 | some p => h.1 (130 + 7 * j) 2 = nI 1 ∧ CP (130 + 7 * j) p h
def CBx (bx : Bxs) (h : CH) : Prop := ∀ j, j < 3 → CB1 j (bx j) h
def MB1 (j : Nat) (o : Option Pp) (h : CH) : Prop := match o with | none => h.1 185 j = -1 | some p => h.1 185 j = nI (pN p) ∧ h.1 186 j = nI (pT p) ∧ ∀ i, i < pN p → h.1 187 (40 * j + i) = pfa p i ∧ h.1 188 (40 * j + i) = pot p i ∧ h.1 189 (40 * j + i) = psh p i ∧ h.1 190 (40 * j + i) = ppl p i ∧ h.1 191 (40 * j + i) = pto p i ∧ h.1 192 (40 * j + i) = pun p i
def MBx (bx : Bxs) (h : CH) : Prop := ∀ j, j < 3 → MB1 j (bx j) h
def VB (F : Nat) (bx : Bxs) : Prop := ∀ j, j < 3 → match bx j with | none => True | some p => VP F p
def bxS (bx : Bxs) (j : Nat) (p : Pp) : Bxs := fun i => if i = j then some p else bx i
theorem CB1.fr {S : Nat → Nat → Prop} {j : Nat} {o : Option Pp} {h h' : CH} (c : CB1 j o h) (hF : Fr S h h') (hS : ∀ a k, 130 + 7 * j ≤ a → a ≤ 130 + 7 * j + 6 → ¬ S a k) : CB1 j o h' := by
  cases o with
  | none => show h'.1 _ 2 = _; rw [hF.1 _ _ (hS _ _ (by omega) (by omega))]; exact c
  | some p => exact ⟨by rw [hF.1 _ _ (hS _ _ (by omega) (by omega))]; exact c.1, c.2.fr hF (fun a k h1 h2 => hS a k h1 h2)⟩
theorem CBx.fr {S : Nat → Nat → Prop} {bx : Bxs} {h h' : CH} (c : CBx bx h) (hF : Fr S h h') (hS : ∀ a k, 130 ≤ a → a ≤ 150 → ¬ S a k) : CBx bx h' := fun j hj => (c j hj).fr hF (fun a k h1 h2 => hS a k (by omega) (by omega))
theorem MB1.fr {S : Nat → Nat → Prop} {j : Nat} {o : Option Pp} {h h' : CH} (c : MB1 j o h) (hF : Fr S h h') (h5 : ¬ S 185 j) (h6 : ¬ S 186 j) (hS : ∀ a k, 187 ≤ a → a ≤ 192 → 40 * j ≤ k → k < 40 * j + 40 → ¬ S a k) (hV : match o with | none => True | some p => pN p ≤ 40) : MB1 j o h' := by
  cases o with
  | none => show h'.1 185 j = _; rw [hF.1 _ _ h5]; exact c
  | some p =>
    have hV : pN p ≤ 40 := hV
    obtain ⟨c1, c2, c3⟩ := c
    refine ⟨by rw [hF.1 _ _ h5]; exact c1, by rw [hF.1 _ _ h6]; exact c2, fun i hi => ?_⟩
    obtain ⟨d1, d2, d3, d4, d5, d6⟩ := c3 i hi
    have g : ∀ a, 187 ≤ a → a ≤ 192 → h'.1 a (40 * j + i) = h.1 a (40 * j + i) := fun a h1 h2 => hF.1 _ _ (hS a _ h1 h2 (by omega) (by omega))
    exact ⟨(g _ (by omega) (by omega)).trans d1, (g _ (by omega) (by omega)).trans d2, (g _ (by omega) (by omega)).trans d3, (g _ (by omega) (by omega)).trans d4, (g _ (by omega) (by omega)).trans d5, (g _ (by omega) (by omega)).trans d6⟩
theorem VB.n {F : Nat} {bx : Bxs} (hV : VB F bx) {j : Nat} (hj : j < 3) : match bx j with | none => True | some p => pN p ≤ 40 := by
  have := hV j hj
  revert this
  cases bx j with
  | none => exact fun _ => trivial
  | some p => exact fun h => h.1
theorem MBx.fr {S : Nat → Nat → Prop} {F : Nat} {bx : Bxs} {h h' : CH} (c : MBx bx h) (hF : Fr S h h') (hS : ∀ a k, 185 ≤ a → a ≤ 192 → ¬ S a k) (hV : VB F bx) : MBx bx h' := fun j hj => (c j hj).fr hF (hS _ _ (by omega) (by omega)) (hS _ _ (by omega) (by omega)) (fun a k h1 h2 _ _ => hS a k (by omega) (by omega)) (hV.n hj)
theorem c_boxAt (x : Int32) (h : CH) : f_X11_boxAt x h = some (if isF 3 x = true then some (130 + 7 * x.toNatClampNeg) else none) := by
  unfold f_X11_boxAt
  rw [jn_eq, isF_if]
  cases hx : isF 3 x
  · rfl
  obtain ⟨k, hk, rfl⟩ := isF_of hx (by omega)
  simp only [if_true]
  rw [rdO_nI (by omega) (by omega), uI_toNat (by omega)]
  have : k = 0 ∨ k = 1 ∨ k = 2 := by omega
  rcases this with e | e | e <;> subst e <;> rfl
def SB (a _ : Nat) : Prop := 130 ≤ a ∧ a ≤ 150
def SBm (a _ : Nat) : Prop := 185 ≤ a ∧ a ≤ 192
theorem c_image1 {d j : Nat} {p : Pp} {bx : Bxs} {h : CH} (hC : CP 71 p h) (hB : CBx bx h) (hj : j < 3) (hd : d = 130 + 7 * j) (hN : pN p ≤ 40) : ∃ h', (cl (cpC d 71 h) fun _ h_3 => wrG h_3 d 2 ((nI 1)) fun h_4 => some ((h_4.1 71 0), h_4)) = some (nI (pN p), h') ∧ CBx (bxS bx j p) h' ∧ Fr SB h h' := by
  obtain ⟨h1, e1, e2, e3⟩ := cpC_ok (d := d) hC hN (Or.inl (by omega))
  rw [e1, cl_some, wrG_1]
  have e4 : Fr SB h (sI h1 d 2 (nI 1)) := (e3.mono (fun a k hx => by unfold SX at hx; unfold SB; omega)).tr (Fr.sI (by unfold SB; omega))
  refine ⟨_, ?_, fun i hi => ?_, e4⟩
  · rw [e4.1 _ _ (by unfold SB; omega), hC.1]
  · unfold bxS
    by_cases z : i = j
    · rw [if_pos z]
      subst z
      refine ⟨by rw [sI_1, if_pos (by omega)], ?_⟩
      rw [← hd]
      obtain ⟨c1, c2, c3⟩ := e2
      refine ⟨by rw [sI_1, if_neg (by omega)]; exact c1, by rw [sI_1, if_neg (by omega)]; exact c2, fun l hl => ?_⟩
      obtain ⟨d1, d2, d3, d4, d5, d6⟩ := c3 l hl
      exact ⟨by rw [sI_1, if_neg (by omega)]; exact d1, by rw [sI_1, if_neg (by omega)]; exact d2, by rw [sI_1, if_neg (by omega)]; exact d3, by rw [sI_1, if_neg (by omega)]; exact d4, by rw [sI_1, if_neg (by omega)]; exact d5, by rw [sI_1, if_neg (by omega)]; exact d6⟩
    · rw [if_neg z]
      have := (hB i hi).fr e3 (fun a k h1 h2 h3 => by unfold SX at h3; omega)
      refine this.fr (Fr.sI (S := fun a k => a = d) rfl) (fun a k h1 h2 h3 => by omega)
theorem c_image {p : Pp} {bx : Bxs} {h : CH} (x : Int32) (hC : CP 71 p h) (hB : CBx bx h) (hN : pN p ≤ 40) : (isF 3 x = true → ∃ h', f_X11_image x h = some (nI (pN p), h') ∧ CBx (bxS bx x.toNatClampNeg p) h' ∧ Fr SB h h') ∧ (isF 3 x = false → f_X11_image x h = some (-1, h)) := by
  unfold f_X11_image
  rw [c_boxAt, clp_some]
  cases hx : isF 3 x
  · exact ⟨fun q => absurd q (by simp), fun _ => rfl⟩
  refine ⟨fun _ => ?_, fun q => absurd q (by simp)⟩
  obtain ⟨k, hk, rfl⟩ := isF_of hx (by omega)
  rw [uI_toNat (by omega)]
  have : k = 0 ∨ k = 1 ∨ k = 2 := by omega
  rcases this with e | e | e <;> subst e
  · have := c_image1 (d := 130) (j := 0) hC hB (by omega) rfl hN
    have q : f_X2_copyFrom_130_71 h = cpC 130 71 h := by unfold f_X2_copyFrom_130_71 cpC; simp only [cpL_1]
    rw [← q] at this
    exact this
  · have := c_image1 (d := 137) (j := 1) hC hB (by omega) rfl hN
    have q : f_X2_copyFrom_137_71 h = cpC 137 71 h := by unfold f_X2_copyFrom_137_71 cpC; simp only [cpL_2]
    rw [← q] at this
    exact this
  · have := c_image1 (d := 144) (j := 2) hC hB (by omega) rfl hN
    have q : f_X2_copyFrom_144_71 h = cpC 144 71 h := by unfold f_X2_copyFrom_144_71 cpC; simp only [cpL_3]
    rw [← q] at this
    exact this
def bxG (bx : Bxs) (x : Int32) : Option Pp := if isF 3 x = true then bx x.toNatClampNeg else none
theorem c_back1 {d j : Nat} {bx : Bxs} {h : CH} (hB : CBx bx h) (hj : j < 3) (hd : d = 130 + 7 * j) (hV : match bx j with | none => True | some p => pN p ≤ 40) : (∀ p, bx j = some p → ∃ h', (if (h.1 d 2) = 0 then some (((-1)), h) else cl (cpC 71 d h) fun _ h_4 => some ((h_4.1 71 0), h_4)) = some (nI (pN p), h') ∧ CP 71 p h' ∧ Fr SP h h') ∧ (bx j = none → (if (h.1 d 2) = 0 then some (((-1)), h) else cl (cpC 71 d h) fun _ h_4 => some ((h_4.1 71 0), h_4)) = some (-1, h)) := by
  have b := hB j hj
  refine ⟨fun p e => ?_, fun e => ?_⟩
  · rw [e] at b hV
    obtain ⟨b1, b2⟩ := b
    rw [← hd] at b1 b2
    rw [b1]
    obtain ⟨h1, e1, e2, e3⟩ := cpC_ok (d := 71) b2 hV (Or.inr (by omega))
    rw [e1, cl_some, if_neg (by decide)]
    refine ⟨_, by rw [e2.1], e2, e3.mono (fun a k hx => by unfold SX at hx; unfold SP; omega)⟩
  · rw [e] at b
    have b1 : h.1 d 2 = nI 0 := by rw [hd]; exact b
    rw [b1, if_pos (show nI 0 = 0 from rfl)]
theorem c_back {F : Nat} {bx : Bxs} {h : CH} (x : Int32) (hB : CBx bx h) (hV : VB F bx) : (∀ p, bxG bx x = some p → ∃ h', f_X11_back x h = some (nI (pN p), h') ∧ CP 71 p h' ∧ Fr SP h h') ∧ (bxG bx x = none → f_X11_back x h = some (-1, h)) := by
  unfold f_X11_back bxG
  rw [c_boxAt, clp_some]
  cases hx : isF 3 x
  · exact ⟨fun p q => absurd q (by simp), fun _ => rfl⟩
  obtain ⟨k, hk, rfl⟩ := isF_of hx (by omega)
  rw [uI_toNat (by omega)]
  have : k = 0 ∨ k = 1 ∨ k = 2 := by omega
  rcases this with e | e | e <;> subst e
  · have := c_back1 (d := 130) (j := 0) hB (by omega) rfl (hV.n (by omega))
    have q : f_X2_copyFrom_71_130 h = cpC 71 130 h := by unfold f_X2_copyFrom_71_130 cpC; simp only [cpL_4]
    rw [← q] at this
    exact this
  · have := c_back1 (d := 137) (j := 1) hB (by omega) rfl (hV.n (by omega))
    have q : f_X2_copyFrom_71_137 h = cpC 71 137 h := by unfold f_X2_copyFrom_71_137 cpC; simp only [cpL_5]
    rw [← q] at this
    exact this
  · have := c_back1 (d := 144) (j := 2) hB (by omega) rfl (hV.n (by omega))
    have q : f_X2_copyFrom_71_144 h = cpC 71 144 h := by unfold f_X2_copyFrom_71_144 cpC; simp only [cpL_6]
    rw [← q] at this
    exact this
