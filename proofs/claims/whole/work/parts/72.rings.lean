/-! rings and ring: the class -/
noncomputable def sz (t : Tn) (p : Pp) (k : Int32) (m : Nat) : Nat := cz (rkN t p k m) (pN p)
noncomputable def rg (t : Tn) (p : Pp) (k : Int32) : Nat → Nat × Nat × Int32
  | 0 => (0, 0, -1)
  | n + 1 => if fs t p k n = true then ((rg t p k n).1 + 1, (if (rg t p k n).2.1 < sz t p k n then sz t p k n else (rg t p k n).2.1), (if (rg t p k n).2.1 < sz t p k n then nI n else (rg t p k n).2.2)) else rg t p k n
theorem sz_le (t : Tn) (p : Pp) (k : Int32) (m : Nat) : sz t p k m ≤ pN p := cz_le _ _
theorem rg_or {t : Tn} {p : Pp} {k : Int32} : ∀ n, (rg t p k n).1 ≤ n ∧ (((rg t p k n).2.2 = -1 ∧ (rg t p k n).2.1 = 0) ∨ ∃ m, m < n ∧ fs t p k m = true ∧ (rg t p k n).2.2 = nI m ∧ (rg t p k n).2.1 = sz t p k m) := by
  intro n
  induction n with
  | zero => exact ⟨Nat.le_refl _, Or.inl ⟨rfl, rfl⟩⟩
  | succ n ih =>
    obtain ⟨i1, i2⟩ := ih
    unfold rg
    by_cases c : fs t p k n = true
    · rw [if_pos c]
      refine ⟨by show _ + 1 ≤ n + 1; omega, ?_⟩
      by_cases d : (rg t p k n).2.1 < sz t p k n
      · simp only [d, if_true]
        exact Or.inr ⟨n, by omega, c, rfl, rfl⟩
      · simp only [d, if_false]
        rcases i2 with z | ⟨m, m1, m2⟩
        · exact Or.inl z
        · exact Or.inr ⟨m, by omega, m2⟩
    · rw [if_neg c]
      refine ⟨by omega, ?_⟩
      rcases i2 with z | ⟨m, m1, m2⟩
      · exact Or.inl z
      · exact Or.inr ⟨m, by omega, m2⟩
theorem rg_le {t : Tn} {p : Pp} {k : Int32} (n : Nat) : (rg t p k n).2.1 ≤ pN p := by
  rcases (rg_or (t := t) (p := p) (k := k) n).2 with z | ⟨m, -, -, -, e⟩
  · rw [z.2]; omega
  · rw [e]; exact sz_le _ _ _ _
def xPA (c j : Nat) : Prop := c = 127 ∨ c = 128 ∨ c = 129 ∨ (c = 126 ∧ (j = 5 ∨ j = 6))
def PT (t : Tn) (p : Pp) (k : Int32) (l : Nat) (h : CH) : Prop := (∀ j, j < 40 → h.1 127 j = pe (ow t p k l j)) ∧ (∀ m, m < l → fs t p k m = true → h.1 128 m = nI (sz t p k m)) ∧ h.1 126 5 = nI (rg t p k l).1 ∧ h.1 126 6 = (rg t p k l).2.2
theorem c_greatest {t : Tn} {p : Pp} {k : Int32} {l : Nat} {h : CH} (hN : pN p ≤ 40) (hl : l ≤ pN p) (h2 : ∀ m, m < l → fs t p k m = true → h.1 128 m = nI (sz t p k m)) (h6 : h.1 126 6 = (rg t p k l).2.2) : f_X4_greatestSize h = some (nI (rg t p k l).2.1) := by
  unfold f_X4_greatestSize
  rw [h6]
  rcases (rg_or (t := t) (p := p) (k := k) l).2 with ⟨z1, z2⟩ | ⟨m, m1, m2, m3, m4⟩
  · rw [z1, z2, if_pos (by decide)]
  · have ng : (nI m < 0) = False := uI_lt0 (by omega)
    have n4 : (nI m < nI 40) = True := by rw [uI_lt (by omega) (by omega)]; exact eq_true (by omega)
    rw [m3, m4]
    simp only [ng, n4, if_false, if_true]
    rw [rdA_nI (by omega) (by omega), h2 m m1 m2]
theorem c_part {t : Tn} (hV : VT t) (hS : VS t) {p : Pp} (hP : VP (tF t) p) {k : Int32} {h0 : CH} (hT : CT 7 t h0) (hC : CP 71 p h0) : ∃ h', f_X4_part k h0 = some ((), h') ∧ PT t p k (pN p) h' ∧ Fr xPA h0 h' := by
  have hN := hP.1
  have L40 : ∀ h, Fr xPA h0 h → PT t p k 0 h → ∃ h', f_X4_part_L40 k FU (nI 0) h = some ((), h') ∧ PT t p k (pN p) h' ∧ Fr xPA h0 h' := by
    have G := loop_FU (fun n l => ∀ h, Fr xPA h0 h → PT t p k l h → ∃ h', f_X4_part_L40 k n (nI l) h = some ((), h') ∧ PT t p k (pN p) h' ∧ Fr xPA h0 h') (pN p) (by omega) ?_ ?_
    · exact G
    · intro n l hl ih h hF hPT
      obtain ⟨p1, p2, p3, p4⟩ := hPT
      have hT' : CT 7 t h := hT.fr hF (fun a k h1 h2 h3 => by unfold xPA at h3; omega) hV
      have hC' : CP 71 p h := hC.fr hF (fun a k h1 h2 h3 => by unfold xPA at h3; omega)
      have l71 : h.1 71 0 = nI (pN p) := hC'.1
      have ho : ∀ j m, ow t p k l j = some m → m < 40 := fun j m e => by have := (ow_some l e).1; omega
      have skip : fs t p k l = false → ∃ h', f_X4_part_L40 k n (nI (l + 1)) h = some ((), h') ∧ PT t p k (pN p) h' ∧ Fr xPA h0 h' := by
        intro hf
        refine ih h hF ⟨fun j hj => ?_, fun m hm hfm => ?_, ?_, ?_⟩
        · rw [ow, hf]; simpa using p1 j hj
        · by_cases e : m = l
          · rw [e, hf] at hfm; cases hfm
          · exact p2 m (by omega) hfm
        · rw [rg, hf]; simpa using p3
        · rw [rg, hf]; simpa using p4
      unfold f_X4_part_L40
      rw [l71, if_pos (by rw [uI_lt (by omega) (by omega)]; exact hl), if_pos (by rw [uI_lt (by omega) (by omega)]; omega), rdA_nI (by omega) (by omega), jn_eq, p1 l (by omega), uI_add]
      simp only [pe_n (fun m e => ho l m e)]
      by_cases c0 : ow t p k l l = none
      · rw [if_pos c0, c_counts _ _ hC' hP, clp_some, ifB]
        cases hcl : cnt p (nI l) k
        · exact skip (by unfold fs gC; rw [hcl]; rfl)
        simp only [if_true]
        have hcl : gC p k l = true := hcl
        have hf : fs t p k l = true := (fs_ow hV hS hP hl hcl).2 c0
        obtain ⟨h1, e1, e2, e3, e4⟩ := c_gather hV hP hT' hC' hl hcl ho (fs_free hV hS hP hl hf) p1
        rw [e1, cl_some, wrF_eq]
        have q5 : h1.1 126 5 = nI (rg t p k l).1 := by rw [e4.1 _ _ (by unfold xGA; omega)]; exact p3
        have q6 : h1.1 126 6 = (rg t p k l).2.2 := by rw [e4.1 _ _ (by unfold xGA; omega)]; exact p4
        rw [q5, uI_add]
        generalize hA : sI h1 126 5 (nI ((rg t p k l).1 + 1)) = A
        have eA : ∀ c j, A.1 c j = if c = 126 ∧ j = 5 then nI ((rg t p k l).1 + 1) else h1.1 c j := by intro c j; rw [← hA]; rfl
        have fA : Fr xPA h0 A := by rw [← hA]; exact (hF.tr (e4.mono (fun c j hx => by unfold xGA at hx; unfold xPA; omega))).tr (Fr.sI (by unfold xPA; omega))
        have old : ∀ m, m < l + 1 → fs t p k m = true → A.1 128 m = nI (sz t p k m) := by
          intro m hm hfm
          rw [eA, if_neg (by omega)]
          by_cases e : m = l
          · rw [e]; exact e3
          · rw [e4.1 _ _ (by unfold xGA; omega)]; exact p2 m (by omega) hfm
        have A7 : ∀ j, j < 40 → A.1 127 j = pe (ow t p k (l + 1) j) := by
          intro j hj
          rw [eA, if_neg (by omega), e2 j hj, ow, hf, Bool.true_and]
          rfl
        have A6 : A.1 126 6 = (rg t p k l).2.2 := by rw [eA, if_neg (by omega)]; exact q6
        have A5 : A.1 126 5 = nI ((rg t p k l).1 + 1) := by rw [eA, if_pos ⟨rfl, rfl⟩]
        rw [rdA_nI (by omega) (by omega), old l (by omega) hf, c_greatest hN (by omega) (fun m hm hfm => old m (by omega) hfm) A6, clp_some, wrF_eq]
        have w1 := rg_le (t := t) (p := p) (k := k) l
        have w2 := sz_le t p k l
        have hx : (nI (rg t p k l).2.1 < nI (sz t p k l)) = ((rg t p k l).2.1 < sz t p k l) := uI_lt (by omega) (by omega)
        simp only [hx]
        by_cases d : (rg t p k l).2.1 < sz t p k l
        · rw [if_pos d]
          refine ih _ (fA.tr (Fr.sI (by unfold xPA; omega))) ⟨fun j hj => ?_, fun m hm hfm => ?_, ?_, ?_⟩
          · rw [sI_1, if_neg (by omega)]; exact A7 j hj
          · rw [sI_1, if_neg (by omega)]; exact old m hm hfm
          · rw [sI_1, if_neg (by omega), A5, rg, if_pos hf]
          · rw [sI_1, if_pos ⟨rfl, rfl⟩, rg, if_pos hf]; simp [d]
        · rw [if_neg d]
          refine ih _ fA ⟨A7, old, ?_, ?_⟩
          · rw [A5, rg, if_pos hf]
          · rw [A6, rg, if_pos hf]; simp [d]
      · rw [if_neg c0]
        refine skip ?_
        cases e : ow t p k l l with
        | none => exact absurd e c0
        | some m =>
          obtain ⟨m1, m2, m3⟩ := ow_some l e
          have hcm : gC p k m = true := by unfold fs at m2; rw [Bool.and_eq_true] at m2; exact m2.1
          have hcl := (rkN_sy hV hS hP (by omega) hcm m3).2.2
          cases hf : fs t p k l
          · rfl
          · exact absurd ((fs_ow hV hS hP hl hcl).1 hf) c0
    · intro n h hF hPT
      have hC' : CP 71 p h := hC.fr hF (fun a k h1 h2 h3 => by unfold xPA at h3; omega)
      have l71 : h.1 71 0 = nI (pN p) := hC'.1
      unfold f_X4_part_L40
      rw [l71, if_neg (by rw [uI_lt (by omega) (by omega)]; omega)]
      exact ⟨h, rfl, hPT, hF⟩
  unfold f_X4_part
  rw [wrF_eq, wrF_eq]
  have G := loop_FU (fun n l => ∀ h, Fr xPA h0 h → h.1 126 5 = nI 0 → h.1 126 6 = -1 → (∀ j, j < l → h.1 127 j = -1) → ∃ h', f_X4_part_L12 k n (nI l) h = some ((), h') ∧ PT t p k (pN p) h' ∧ Fr xPA h0 h') 40 (by omega) ?_ ?_
  · refine G _ ((Fr.sI (by unfold xPA; omega)).tr (Fr.sI (by unfold xPA; omega))) ?_ ?_ (fun j hj => by omega)
    · rw [sI_1, if_neg (by omega), sI_1, if_pos ⟨rfl, rfl⟩]
    · rw [sI_1, if_pos ⟨rfl, rfl⟩]
  · intro n l hl ih h hF h5 h6 h7
    unfold f_X4_part_L12
    rw [if_pos (by rw [uI_lt (by omega) (by omega)]; exact hl), wrA_nI hl (by omega), wrA_nI hl (by omega), uI_add]
    refine ih _ ((hF.tr (Fr.sI (by unfold xPA; omega))).tr (Fr.sI (by unfold xPA; omega))) ?_ ?_ (fun j hj => ?_)
    · rw [sI_1, if_neg (by omega), sI_1, if_neg (by omega)]; exact h5
    · rw [sI_1, if_neg (by omega), sI_1, if_neg (by omega)]; exact h6
    · rw [sI_1, if_neg (by omega), sI_1]
      by_cases e : j = l
      · rw [if_pos ⟨rfl, e⟩]
      · rw [if_neg (fun q => e q.2)]; exact h7 j (by omega)
  · intro n h hF h5 h6 h7
    unfold f_X4_part_L12
    rw [if_neg (by rw [uI_lt (by omega) (by omega)]; omega)]
    exact L40 h hF ⟨fun j hj => h7 j hj, fun m hm => by omega, h5, h6⟩
noncomputable def rnA (t : Tn) (p : Pp) (w k : Int32) : Int32 := if inR (nI 0) (nI 2) w = true then (if w = nI 0 then nI (rg t p k (pN p)).1 else if w = nI 1 then nI (rg t p k (pN p)).2.1 else (rg t p k (pN p)).2.2) else -1
noncomputable def riA (t : Tn) (p : Pp) (x k : Int32) : Int32 := if cnt p x k = true then nI (sz t p k x.toNatClampNeg) else -1
theorem xPA_TC {h h' : CH} (f : Fr xPA h h') : Fr TC h h' := f.mono (fun c j hx => by unfold xPA at hx; unfold TC; omega)
theorem c_rings {t : Tn} {p : Pp} {h : CH} (w k : Int32) (hT : CT 7 t h) (hV : VT t) (hS : VS t) (hC : CP 71 p h) (hP : VP (tF t) p) : PO TC h (f_X11_rings w k h) (rnA t p w k) := by
  unfold f_X11_rings rnA
  have e0 : ∀ (u v : Option (Int32 × CH)), (if w < 0 then u else if nI 2 < w then u else v) = (if inR (nI 0) (nI 2) w = true then v else u) := by
    intro u v
    unfold inR
    rw [← uI_z]
    by_cases h1 : w < 0
    · simp [h1]
    · by_cases h2 : nI 2 < w
      · simp [h1, h2]
      · simp [h1, h2]
  rw [e0]
  cases inR (nI 0) (nI 2) w
  · exact PO.mk Fr.rf
  simp only [if_true]
  obtain ⟨h', e1, ⟨q1, q2, q3, q4⟩, e3⟩ := c_part hV hS hP (k := k) hT hC
  rw [e1, cl_some, q3, q4, c_greatest hP.1 (Nat.le_refl _) q2 q4, clp_some]
  by_cases w0 : w = nI 0
  · rw [if_pos w0, if_pos w0]; exact PO.mk (xPA_TC e3)
  rw [if_neg w0, if_neg w0]
  by_cases w1 : w = nI 1
  · rw [if_pos w1, if_pos w1]; exact PO.mk (xPA_TC e3)
  rw [if_neg w1, if_neg w1]; exact PO.mk (xPA_TC e3)
theorem c_ring {t : Tn} {p : Pp} {h : CH} (x k : Int32) (hT : CT 7 t h) (hV : VT t) (hS : VS t) (hC : CP 71 p h) (hP : VP (tF t) p) : PO TC h (f_X11_ring x k h) (riA t p x k) := by
  have hN := hP.1
  unfold f_X11_ring riA
  rw [c_counts _ _ hC hP, clp_some, ifB]
  cases hc : cnt p x k
  · exact PO.mk Fr.rf
  simp only [if_true]
  obtain ⟨i, hi, rfl⟩ := cnt_F hc hN
  have hc : gC p k i = true := hc
  obtain ⟨h', e1, ⟨q1, q2, q3, q4⟩, e3⟩ := c_part hV hS hP (k := k) hT hC
  rw [e1, cl_some, uI_toNat (by omega)]
  have so : f_X4_sizeOfPartOf (nI i) h' = some (nI (sz t p k i)) := by
    unfold f_X4_sizeOfPartOf
    have n1 : (nI i < 0) = False := uI_lt0 (by omega)
    have n2 : (nI i < nI 40) = True := by rw [uI_lt (by omega) (by omega)]; exact eq_true (by omega)
    simp only [jn_eq, n1, n2, if_false, if_true]
    rw [rdA_nI (by omega) (by omega), q1 i (by omega)]
    obtain ⟨m, m1, m2, m3⟩ := fs_ex hV hS hP (i + 1) i (by omega) hi hc (rk_iff.2 (Rc.rf i))
    cases e : ow t p k (pN p) i with
    | none => rw [ow_none _ e m (by omega) m2] at m3; cases m3
    | some b =>
      obtain ⟨b1, b2, b3⟩ := ow_some _ e
      have hcb : gC p k b = true := by unfold fs at b2; rw [Bool.and_eq_true] at b2; exact b2.1
      have sy := (rkN_sy hV hS hP b1 hcb b3).1
      have n3 : (nI b < 0) = False := uI_lt0 (by omega)
      have n4 : (nI b < nI 40) = True := by rw [uI_lt (by omega) (by omega)]; exact eq_true (by omega)
      show (if nI b < 0 then some (-1) else if nI b < nI 40 then rdA h' 128 40 (nI b) fun v_5 => some v_5 else some (-1)) = _
      simp only [n3, n4, if_false, if_true]
      rw [rdA_nI (by omega) (by omega), q2 b b1 b2]
      refine congrArg (fun z => some (nI z)) (cz_cg _ fun j hj => ?_)
      cases z1 : rkN t p k b j <;> cases z2 : rkN t p k i j
      · rfl
      · rw [rkN_tr b3 z2] at z1; cases z1
      · rw [rkN_tr sy z1] at z2; cases z2
      · rfl
  rw [so, clp_some]
  exact PO.mk (xPA_TC e3)
