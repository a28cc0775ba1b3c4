/-! making: a field put -/
theorem z_putG {κ : Kz} {cc : ByteArray} {own : String} {nL fr lo ce sl : Nat} (C : Cz κ cc own nL fr lo ce sl) {n : Nat} {U : List (Nat × Nat)} {cells slots pc : Nat} {ls : List (Nat × Value)} {st : List Value} {h : CH} (pc' : Nat) {idx ci k a : Nat} {ty : FieldType} {fin : Bool} {kd : Nat} {v : Value} (U' : List (Nat × Nat)) (h' : CH) (hd : decode cc pc = .ok (.putfield idx, 3)) (hF : FL own idx ci k ty fin kd) (hk : KT.getD a (9, 0) = (0, ci)) (ha : a < n) (hcl : (vwCl[ci]?).map (fun q => (q.2.1 k).1) = some own) (hnw : narrow ty v = v) (hfit : fits ty v = true) (hset : (fvus (ksz κ) U h a ci).set k v = fvus (ksz κ) U' h' a ci) (hoth : ∀ b, b ≠ a → (∀ j, RU U' b j = RU U b j) ∧ h'.1 b = h.1 b ∧ h'.2 b = h.2 b) (hn : pc + 3 = pc') (kk : Iz κ n U' cells slots pc' ls st h') : Iz κ n U cells slots pc ls (v :: .ref (ksz κ + a) :: st) h := by
  obtain ⟨p, l, e, R, s, m, args, below, meth, c, D, cid, sz, Q⟩ := κ
  obtain ⟨⟨hx, hb, hml, hown, hts⟩, hKw, hsz, hfr, hlo, hce2, hsl2, hini⟩ := C
  have hK := hKw.1
  subst hn
  intro hv H locs ls0 hs hP hS hl
  obtain ⟨C1, T1, N1, ty0, hc, hN, hkN, hlk, hin, hty, hnm, e1, e2, e3⟩ := hF
  have he2 : (wu cid sz n U h)[a]? = some (sz + a, .inr (ci, fvus sz U h a ci)) := by rw [wu_get ha]; unfold cellU; rw [hk]; rfl
  have hdecl : (T1 k).1 = own := by rw [hc] at hcl; exact Option.some.inj hcl
  have hset : (fvus sz U h a ci).set k v = fvus sz U' h' a ci := hset
  have hcell : (Sum.inr (ci, (fvus sz U h a ci).set k v) : va_E) = cellU cid sz U' h' a := by rw [hset]; unfold cellU; rw [hk]; rfl
  sorry
