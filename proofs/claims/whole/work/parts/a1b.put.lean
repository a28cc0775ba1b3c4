/-! making: a field put -/
theorem z_putG {κ : Kz} {cc : ByteArray} {own : String} {nL fr lo ce sl : Nat} (C : Cz κ cc own nL fr lo ce sl) {n : Nat} {U : List (Nat × Nat)} {cells slots pc : Nat} {ls : List (Nat × Value)} {st : List Value} {h : CH} (pc' : Nat) {idx ci k a : Nat} {ty : FieldType} {fin : Bool} {kd : Nat} {v : Value} (U' : List (Nat × Nat)) (h' : CH) (hd : decode cc pc = .ok (.putfield idx, 3)) (hF : FL own idx ci k ty fin kd) (hk : KT.getD a (9, 0) = (0, ci)) (ha : a < n) (hcl : (vwCl[ci]?).map (fun q => (q.2.1 k).1) = some own) (hnw : narrow ty v = v) (hfit : fits ty v = true) (hset : (fvus (ksz κ) U h a ci).set k v = fvus (ksz κ) U' h' a ci) (hoth : ∀ b, b ≠ a → (∀ j, RU U' b j = RU U b j) ∧ h'.1 b = h.1 b ∧ h'.2 b = h.2 b) (hn : pc + 3 = pc') (kk : Iz κ n U' cells slots pc' ls st h') : Iz κ n U cells slots pc ls (v :: .ref (ksz κ + a) :: st) h := by
  obtain ⟨p, l, e, R, s, m, args, below, meth, c, D, cid, sz, Q⟩ := κ
  obtain ⟨⟨hx, hb, hml, hown, hts⟩, hKw, hsz, hfr, hlo, hce2, hsl2, hini⟩ := C
  have hK := hKw.1
  subst hn
  intro hv H locs ls0 hs hP hS hl
  obtain ⟨C1, T1, N1, ty0, hc, hN, hkN, hlk, hin, hty, hnm, e1, e2, e3⟩ := hF
  have he2 : (wu cid sz n U h)[a]? = some (sz + a, .inr (ci, fvus sz U h a ci)) := by rw [wu_get ha]; unfold cellU; rw [hk]; rfl
  have hdecl : (T1 k).1 = own := by rw [hc] at hcl; exact Option.some.inj hcl
  have hset : (fvus sz U h a ci).set k v = fvus sz U' h' a ci := hset
  have hcell : (Sum.inr (ci, (fvus sz U h a ci).set k v) : va_E) = cellU cid sz U' h' a := by rw [hset]; unfold cellU; rw [hk]; rfl
  have hap := va_apart (own := own) hts hin ty0 hty hnm hK hc
  obtain ⟨r, hr1, cell, q1, q2, q3, q4⟩ := hP a _ he2
  have hr : r = (C1, T1, N1) := Option.some.inj (hr1.symm.trans hc)
  subst hr
  obtain ⟨hSl, hfc, kC, hkC, hkind⟩ := hK.1 ci _ hc
  obtain ⟨cf, kf, fi, f, hi, hsl⟩ := hSl k hkN
  have hlay := hts _ (hin _ (u_in_lay hkN))
  have hst := (u_facts hfc hkC (u_lays hts hin hkN) hi).1
  have hkl : k < (fvus sz U h a ci).length := by rw [fvus_len, ← hN]; exact hkN
  have hpd : parseFieldDescriptor (T1 k).2.2.1 = some ty := by rw [hty k hkN, e1]
  have fin1 : ∀ (H1 : Heap) (locs1 : List Loc), H1[sz + a]? = some (cell.setSlot (D.2 ci k) v) → H1.size = H.size → (∀ q, q ≠ sz + a → H1[q]? = H[q]?) → va_S (Az sz) s.heap H1 locs1 → W p l e R s m args below meth c H1 locs1 cells slots Q (F0 m (pc + 3) ls0 st) := by
    intro H1 locs1 g1 g2 g3 hS1
    have hat : va_at D vwCl (sz + a, .inr (ci, (fvus sz U h a ci).set k v)) H1 := ⟨_, hc, t_OB.to (V := updV (vp_V (fvus sz U h a ci)) k v) ⟨_, g1, q2, q3, t_set q4 hap hkN v⟩ (fun j _ => vp_updV_set hkl v j)⟩
    have hP1 := hP.set wu_D he2 hat g3
    rw [hcell, wu_set (fun b hb => cellU_ext (hoth b hb).1 (hoth b hb).2.1 (hoth b hb).2.2)] at hP1
    refine kk (fun b hb => ?_) H1 locs1 ls0 (by omega) hP1 hS1 hl
    obtain ⟨-, y1, y2⟩ := hoth b (by omega)
    rw [y1, y2]
    exact hv b hb
  have hAa : Az sz (sz + a) := Nat.le_add_right _ _
  unfold u_lay at hlay
  cases fin with
  | true =>
    rw [if_pos e2] at hlay
    have hcf : m.cls = cf := by
      obtain ⟨_, _, c', _, _, _, -, -, hf', -, -, -, hown2, -⟩ := Cond.laysFinal_spec hlay
      have w1 : c' = cf := by have := hi.symm.trans hf'; simp at this; exact this.1.symm
      rw [hdecl] at hown2
      rw [← w1]
      exact Option.some.inj (hown.symm.trans hown2)
    have h6 := u_fits hfc hkC hkind (Or.inr hlay) hi hpd hnw hfit
    refine W.putFinK (g := F0 m pc ls0 (v :: .ref (sz + a) :: st)) (rest := st) hx hb hown (hts _ hlk) hi hst hcf hini (by rw [q2]; exact h6) q1 q3 (by rw [hsl]; exact k2_hasslot (q4 k hkN)) rfl rfl hd fun H1 g1 g2 g3 => ?_
    rw [hsl] at g1 ⊢
    exact fin1 H1 _ g1 g2 g3 (hS.put g2 g3 hAa)
  | false =>
    rw [if_neg (by rw [e2]; decide)] at hlay
    have h6 := u_store hfc hkC hkind hlay hi hpd hnw hfit
    refine W.putK (g := F0 m pc ls0 (v :: .ref (sz + a) :: st)) (rest := st) hx hb (f := f) ⟨hown, hts _ hlk, ⟨_, _, _, hi⟩, hst⟩ (by rw [q2]; exact h6) q1 q3 (by rw [hsl]; exact k2_hasslot (q4 k hkN)) rfl rfl hd fun H1 g1 g2 g3 => ?_
    rw [hsl] at g1 ⊢
    exact fin1 H1 _ g1 g2 g3 (hS.put g2 g3 hAa)
