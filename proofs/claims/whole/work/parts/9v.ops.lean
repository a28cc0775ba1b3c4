/-! both sides together: what holds between the calls -/
def IC (t : Tn) (q : Rq) (p : Pp) (bx : Bxs) (n : Nat) (B : Nat → Int32) (fk fp : Int32) (h : CH) : Prop := CT 7 t h ∧ RC (tP t) q h ∧ CP 71 p h ∧ CBx bx h ∧ h.1 0 1 = nI n ∧ (∀ j, j < n → h.1 1 j = B j) ∧ h.1 0 2 = fk ∧ h.1 0 3 = fp ∧ ∀ r, r < 24 → h.2 3 r = nL (w5 (lw r))
def IM (t : Tn) (q : Rq) (p : Pp) (bx : Bxs) (n : Nat) (B : Nat → Int32) (fk fp : Int32) (bk : Nat) (M : Cd) (h : CH) : Prop := MT bk t h ∧ RM (tP t) q M h ∧ MP p h ∧ MBx bx h ∧ h.1 151 2 = nI n ∧ (∀ j, j < n → h.1 152 j = B j) ∧ h.1 151 4 = fk ∧ h.1 151 5 = fp
def GV (t : Tn) (p : Pp) (bx : Bxs) (n : Nat) : Prop := VT t ∧ VS t ∧ VP (tF t) p ∧ VB (tF t) bx ∧ n ≤ 1600
def Iv (h : CH) : Prop := ∃ t q p bx n B fk fp bk M, GV t p bx n ∧ IC t q p bx n B fk fp h ∧ IM t q p bx n B fk fp bk M h
def Op2 (fX fM : CH → Option (Int32 × CH)) (h : CH) : Prop := ∃ v h1 h2, fX h = some (v, h1) ∧ fM h1 = some (v, h2) ∧ Iv h2
def Op1 (fX fM : CH → Option Int32) (h : CH) : Prop := ∃ v, fX h = some v ∧ fM h = some v
theorem CB1.fz {S L : Nat → Nat → Prop} {bx : Bxs} {h h' : CH} (c : CBx bx h) (hF : Fz S L h h') (hS : ∀ a k, 130 ≤ a → a ≤ 150 → ¬ S a k) : CBx bx h' := by
  have g : ∀ a k, 130 ≤ a → a ≤ 150 → h'.1 a k = h.1 a k := fun a k h1 h2 => hF.1 a k (hS a k h1 h2)
  intro j hj
  have cj := c j hj
  revert cj
  cases bx j with
  | none => intro cj; show h'.1 (130 + 7 * j) 2 = _; rw [g _ _ (by omega) (by omega)]; exact cj
  | some p =>
    intro cj
    obtain ⟨c1, c2, c3, c4⟩ := cj
    refine ⟨by rw [g _ _ (by omega) (by omega)]; exact c1, by rw [g _ _ (by omega) (by omega)]; exact c2, by rw [g _ _ (by omega) (by omega)]; exact c3, fun i hi => ?_⟩
    obtain ⟨d1, d2, d3, d4, d5, d6⟩ := c4 i hi
    exact ⟨by rw [g _ _ (by omega) (by omega)]; exact d1, by rw [g _ _ (by omega) (by omega)]; exact d2, by rw [g _ _ (by omega) (by omega)]; exact d3, by rw [g _ _ (by omega) (by omega)]; exact d4, by rw [g _ _ (by omega) (by omega)]; exact d5, by rw [g _ _ (by omega) (by omega)]; exact d6⟩
theorem CP.fz {S L : Nat → Nat → Prop} {p : Pp} {h h' : CH} (c : CP 71 p h) (hF : Fz S L h h') (hS : ∀ a k, 71 ≤ a → a ≤ 77 → ¬ S a k) : CP 71 p h' := by
  have g : ∀ a k, 71 ≤ a → a ≤ 77 → h'.1 a k = h.1 a k := fun a k h1 h2 => hF.1 a k (hS a k h1 h2)
  obtain ⟨c2, c3, c4⟩ := c
  refine ⟨by rw [g _ _ (by omega) (by omega)]; exact c2, by rw [g _ _ (by omega) (by omega)]; exact c3, fun i hi => ?_⟩
  obtain ⟨d1, d2, d3, d4, d5, d6⟩ := c4 i hi
  exact ⟨by rw [g _ _ (by omega) (by omega)]; exact d1, by rw [g _ _ (by omega) (by omega)]; exact d2, by rw [g _ _ (by omega) (by omega)]; exact d3, by rw [g _ _ (by omega) (by omega)]; exact d4, by rw [g _ _ (by omega) (by omega)]; exact d5, by rw [g _ _ (by omega) (by omega)]; exact d6⟩
theorem CKg.fz {a : Nat} {S L : Nat → Nat → Prop} {h h' : CH} (hF : Fz S L h h') (h1 : ∀ k, ¬ S a k) (h2 : ∀ k, ¬ S (a + 1) k) : ∀ {C : Cd}, CKg a C h → CKg a C h' := by
  intro C
  induction C with
  | nil => intro _; trivial
  | cons x C ih => intro c; exact ⟨by rw [hF.1 _ _ (h1 _)]; exact c.1, by rw [hF.1 _ _ (h2 _)]; exact c.2.1, ih c.2.2⟩
theorem RC.fz {P : Nat} {q : Rq} {S L : Nat → Nat → Prop} {h h' : CH} (r : RC P q h) (hF : Fz S L h h') (hS : ∀ a k, 55 ≤ a → a ≤ 60 → ¬ S a k) (hL : ∀ k, ¬ L 56 k) : RC P q h' := by
  obtain ⟨r1, r2, r3, r4⟩ := r
  exact ⟨r1, r2.fz hF (fun k _ => hS _ _ (by omega) (by omega)) (fun k => hS _ _ (by omega) (by omega)) (fun k => hS _ _ (by omega) (by omega)) hL, by rw [hF.1 _ _ (hS _ _ (by omega) (by omega))]; exact r3, r4.fz hF (fun k => hS _ _ (by omega) (by omega)) (fun k => hS _ _ (by omega) (by omega))⟩
theorem RM.fz {P : Nat} {q : Rq} {M : Cd} {S L : Nat → Nat → Prop} {h h' : CH} (r : RM P q M h) (hF : Fz S L h h') (h1 : ∀ k, k = 40 ∨ k = 42 ∨ k = 44 ∨ k = 45 → ¬ S 151 k) (h2 : ∀ k, k < 400 → ¬ S 168 k ∧ ¬ S 169 k) (h3 : ∀ k, k < 7 → ¬ S 173 k ∧ ¬ S 174 k) : RM P q M h' := by
  have rl := r.len
  obtain ⟨r1, r2, r3, r4, r5, r6, r7, r8, r9, r10, r11⟩ := r
  have r6q := r1.1
  exact ⟨r1, r2, r3, r4, by rw [hF.1 _ _ (h1 _ (by omega))]; exact r5, by rw [hF.1 _ _ (h1 _ (by omega))]; exact r6, by rw [hF.1 _ _ (h1 _ (by omega))]; exact r7, by rw [hF.1 _ _ (h1 _ (by omega))]; exact r8, r9.fz hF (fun k _ hk => h2 k (by omega)), fun k hk => ⟨by rw [hF.1 _ _ (h3 _ (by omega)).1]; exact (r10 k hk).1, by rw [hF.1 _ _ (h3 _ (by omega)).2]; exact (r10 k hk).2⟩, fun f c e => ⟨by rw [hF.1 _ _ (h3 _ (by omega)).1]; exact (r11 f c e).1, by rw [hF.1 _ _ (h3 _ (by omega)).2]; exact (r11 f c e).2⟩⟩
theorem MP.fz {S L : Nat → Nat → Prop} {p : Pp} {h h' : CH} (c : MP p h) (hF : Fz S L h h') (hS : ∀ a k, 178 ≤ a → a ≤ 183 → ¬ S a k) (h60 : ¬ S 151 60) (h61 : ¬ S 151 61) : MP p h' := by
  have g : ∀ a k, 178 ≤ a → a ≤ 183 → h'.1 a k = h.1 a k := fun a k h1 h2 => hF.1 a k (hS a k h1 h2)
  obtain ⟨c2, c3, c4⟩ := c
  refine ⟨by rw [hF.1 _ _ h60]; exact c2, by rw [hF.1 _ _ h61]; exact c3, fun i hi => ?_⟩
  obtain ⟨d1, d2, d3, d4, d5, d6⟩ := c4 i hi
  exact ⟨by rw [g _ _ (by omega) (by omega)]; exact d1, by rw [g _ _ (by omega) (by omega)]; exact d2, by rw [g _ _ (by omega) (by omega)]; exact d3, by rw [g _ _ (by omega) (by omega)]; exact d4, by rw [g _ _ (by omega) (by omega)]; exact d5, by rw [g _ _ (by omega) (by omega)]; exact d6⟩
theorem MBx.fz {S L : Nat → Nat → Prop} {bx : Bxs} {h h' : CH} (c : MBx bx h) (hF : Fz S L h h') (hS : ∀ a k, 185 ≤ a → a ≤ 192 → ¬ S a k) : MBx bx h' := by
  have g : ∀ a k, 185 ≤ a → a ≤ 192 → h'.1 a k = h.1 a k := fun a k h1 h2 => hF.1 a k (hS a k h1 h2)
  intro j hj
  have cj := c j hj
  revert cj
  cases bx j with
  | none => intro cj; show h'.1 185 j = _; rw [g _ _ (by omega) (by omega)]; exact cj
  | some p =>
    intro cj
    obtain ⟨c1, c2, c4⟩ := cj
    refine ⟨by rw [g _ _ (by omega) (by omega)]; exact c1, by rw [g _ _ (by omega) (by omega)]; exact c2, fun i hi => ?_⟩
    obtain ⟨d1, d2, d3, d4, d5, d6⟩ := c4 i hi
    exact ⟨by rw [g _ _ (by omega) (by omega)]; exact d1, by rw [g _ _ (by omega) (by omega)]; exact d2, by rw [g _ _ (by omega) (by omega)]; exact d3, by rw [g _ _ (by omega) (by omega)]; exact d4, by rw [g _ _ (by omega) (by omega)]; exact d5, by rw [g _ _ (by omega) (by omega)]; exact d6⟩
theorem IC.fz {t : Tn} {q : Rq} {p : Pp} {bx : Bxs} {n : Nat} {B : Nat → Int32} {fk fp : Int32} {S L : Nat → Nat → Prop} {h h' : CH} (hV : VT t) (c : IC t q p bx n B fk fp h) (hF : Fz S L h h') (h1 : ∀ a k, (a ≤ 1 ∨ (7 ≤ a ∧ a ≤ 30) ∨ (55 ≤ a ∧ a ≤ 60) ∨ (71 ≤ a ∧ a ≤ 77) ∨ (130 ≤ a ∧ a ≤ 150)) → ¬ S a k) (h2 : ∀ a k, a = 3 ∨ a = 56 → ¬ L a k) : IC t q p bx n B fk fp h' := by
  obtain ⟨c1, c2, c3, c4, c5, c6, c7, c8, c9⟩ := c
  have h16 := hV.2.2.1
  exact ⟨c1.fz hF (fun a k z => h1 a k (by omega)), c2.fz hF (fun a k z1 z2 => h1 a k (by omega)) (fun k => h2 _ _ (by omega)), c3.fz hF (fun a k z1 z2 => h1 a k (by omega)), CB1.fz c4 hF (fun a k z1 z2 => h1 a k (by omega)), by rw [hF.1 _ _ (h1 _ _ (by omega))]; exact c5, fun j hj => by rw [hF.1 _ _ (h1 _ _ (by omega))]; exact c6 j hj, by rw [hF.1 _ _ (h1 _ _ (by omega))]; exact c7, by rw [hF.1 _ _ (h1 _ _ (by omega))]; exact c8, fun r hr => by rw [hF.2 _ _ (h2 _ _ (by omega))]; exact c9 r hr⟩
theorem IM.fz {t : Tn} {q : Rq} {p : Pp} {bx : Bxs} {n bk : Nat} {M : Cd} {B : Nat → Int32} {fk fp : Int32} {S L : Nat → Nat → Prop} {h h' : CH} (hV : VT t) (c : IM t q p bx n B fk fp bk M h) (hF : Fz S L h h') (h1 : ∀ a k, a = 152 ∨ (154 ≤ a ∧ a ≤ 163) ∨ a = 168 ∨ a = 169 ∨ a = 173 ∨ a = 174 ∨ (178 ≤ a ∧ a ≤ 183) ∨ (185 ≤ a ∧ a ≤ 192) → ¬ S a k) (h2 : ∀ k, k = 2 ∨ k = 4 ∨ k = 5 ∨ k = 26 ∨ k = 40 ∨ k = 42 ∨ k = 44 ∨ k = 45 ∨ k = 60 ∨ k = 61 → ¬ S 151 k) : IM t q p bx n B fk fp bk M h' := by
  obtain ⟨c1, c2, c3, c4, c5, c6, c7, c8⟩ := c
  exact ⟨c1.fz hF hV (fun a z1 z2 => h1 a _ (by omega)) (fun a k z1 z2 _ _ => h1 a k (by omega)) (fun k _ _ => h1 _ k (by omega)) (fun k _ _ => h1 _ k (by omega)) (fun a k z1 z2 _ _ => h1 a k (by omega)) (h2 _ (by omega)), c2.fz hF (fun k hk => h2 k (by omega)) (fun k _ => ⟨h1 _ _ (by omega), h1 _ _ (by omega)⟩) (fun k _ => ⟨h1 _ _ (by omega), h1 _ _ (by omega)⟩), c3.fz hF (fun a k z1 z2 => h1 a k (by omega)) (h2 _ (by omega)) (h2 _ (by omega)), c4.fz hF (fun a k z1 z2 => h1 a k (by omega)), by rw [hF.1 _ _ (h2 _ (by omega))]; exact c5, fun j hj => by rw [hF.1 _ _ (h1 _ _ (by omega))]; exact c6 j hj, by rw [hF.1 _ _ (h2 _ (by omega))]; exact c7, by rw [hF.1 _ _ (h2 _ (by omega))]; exact c8⟩
section
theorem IC.tc {t : Tn} {q : Rq} {p : Pp} {bx : Bxs} {n : Nat} {B : Nat → Int32} {fk fp : Int32} {h h' : CH} (hV : VT t) (c : IC t q p bx n B fk fp h) (hF : Fr TC h h') : IC t q p bx n B fk fp h' := c.fz hV (Fz.fr (L := fun _ _ => False) hF) (fun a k z => by unfold TC; omega) (fun _ _ _ => id)
theorem IC.tm {t : Tn} {q : Rq} {p : Pp} {bx : Bxs} {n : Nat} {B : Nat → Int32} {fk fp : Int32} {h h' : CH} (hV : VT t) (c : IC t q p bx n B fk fp h) (hF : Fr TM h h') : IC t q p bx n B fk fp h' := c.fz hV (Fz.fr (L := fun _ _ => False) hF) (fun a k z => by unfold TM; omega) (fun _ _ _ => id)
theorem IM.tc {t : Tn} {q : Rq} {p : Pp} {bx : Bxs} {n bk : Nat} {M : Cd} {B : Nat → Int32} {fk fp : Int32} {h h' : CH} (hV : VT t) (c : IM t q p bx n B fk fp bk M h) (hF : Fr TC h h') : IM t q p bx n B fk fp bk M h' := c.fz hV (Fz.fr (L := fun _ _ => False) hF) (fun a k z => by unfold TC; omega) (fun k z => by unfold TC; omega)
theorem IM.tm {t : Tn} {q : Rq} {p : Pp} {bx : Bxs} {n bk : Nat} {M : Cd} {B : Nat → Int32} {fk fp : Int32} {h h' : CH} (hV : VT t) (c : IM t q p bx n B fk fp bk M h) (hF : Fr TM h h') : IM t q p bx n B fk fp bk M h' := c.fz hV (Fz.fr (L := fun _ _ => False) hF) (fun a k z => by unfold TM; omega) (fun k z => by unfold TM; omega)
end
theorem IC.wc {t : Tn} {q : Rq} {p : Pp} {bx : Bxs} {n : Nat} {B : Nat → Int32} {fk fp : Int32} {h : CH} (hV : VT t) (c : IC t q p bx n B fk fp h) : WC t (RuQ (tP t) q) h := by
  have hP1 : 1 ≤ tP t := by have := hV.1; omega
  exact ⟨hV, RuQ_ok hP1 c.2.1.1, c.1, c_letsQ hP1 hV.2.1 c.2.1, c_shownBy hV c.2.1⟩
theorem IM.wm {t : Tn} {q : Rq} {p : Pp} {bx : Bxs} {n bk : Nat} {M : Cd} {B : Nat → Int32} {fk fp : Int32} {h : CH} (hV : VT t) (c : IM t q p bx n B fk fp bk M h) : WM bk t (RuQ (tP t) q) h := by
  have hP1 : 1 ≤ tP t := by have := hV.1; omega
  exact ⟨hV, RuQ_ok hP1 c.2.1.1, c.1, m_letsQ c.1 hV c.2.1, m_signsQ c.1 hV c.2.1⟩
theorem exw {P : Prop} {d : Decidable P} {x y : Option Int32} (hx : ∃ v, x = some v) (hy : ∃ v, y = some v) : ∃ v, (@ite _ P d x y) = some v := by
  by_cases c : P
  · rw [if_pos c]; exact hx
  · rw [if_neg c]; exact hy
theorem op_PO {t : Tn} {q : Rq} {p : Pp} {bx : Bxs} {n bk : Nat} {M : Cd} {B : Nat → Int32} {fk fp : Int32} {h : CH} (gv : GV t p bx n) (ic : IC t q p bx n B fk fp h) (im : IM t q p bx n B fk fp bk M h) {fX fM : CH → Option (Int32 × CH)} {v : Int32} (c : PO TC h (fX h) v) (m : ∀ g, IM t q p bx n B fk fp bk M g → PO TM g (fM g) v) : Op2 fX fM h := by
  obtain ⟨h1, e1, f1⟩ := c
  have im1 := im.tc gv.1 f1
  have ic1 := ic.tc gv.1 f1
  obtain ⟨h2, e2, f2⟩ := m h1 im1
  exact ⟨v, h1, h2, e1, e2, t, q, p, bx, n, B, fk, fp, bk, M, gv, ic1.tm gv.1 f2, im1.tm gv.1 f2⟩
theorem op_passes {h : CH} (hI : Iv h) (a b c d : Int32) : Op2 (f_X11_passes a b c d) (f_X12_passes a b c d) h := by
  obtain ⟨t, q, p, bx, n, B, fk, fp, bk, M, gv, ic, im⟩ := hI
  exact op_PO gv ic im (c_passes a b c d (ic.wc gv.1)) (fun g ig => m_passes a b c d (ig.wm gv.1))
theorem op_both {h : CH} (hI : Iv h) (a b c d e : Int32) : Op2 (f_X11_both a b c d e) (f_X12_both a b c d e) h := by
  obtain ⟨t, q, p, bx, n, B, fk, fp, bk, M, gv, ic, im⟩ := hI
  exact op_PO gv ic im (c_both a b c d e (ic.wc gv.1)) (fun g ig => m_both a b c d e (ig.wm gv.1))
theorem op_able {h : CH} (hI : Iv h) (a b c d : Int32) : Op2 (f_X11_able a b c d) (f_X12_able a b c d) h := by
  obtain ⟨t, q, p, bx, n, B, fk, fp, bk, M, gv, ic, im⟩ := hI
  exact op_PO gv ic im (c_able a b c d (ic.wc gv.1)) (fun g ig => m_able a b c d (ig.wm gv.1))
theorem op_pairs {h : CH} (hI : Iv h) (a b : Int32) : Op2 (f_X11_pairs a b) (f_X12_pairs a b) h := by
  obtain ⟨t, q, p, bx, n, B, fk, fp, bk, M, gv, ic, im⟩ := hI
  exact op_PO gv ic im (c_pairs a b (ic.wc gv.1)) (fun g ig => m_pairs a b (ig.wm gv.1))
theorem op_pair {h : CH} (hI : Iv h) (a b c : Int32) : Op2 (f_X11_pair a b c) (f_X12_pair a b c) h := by
  obtain ⟨t, q, p, bx, n, B, fk, fp, bk, M, gv, ic, im⟩ := hI
  exact op_PO gv ic im (c_pair a b c (ic.wc gv.1)) (fun g ig => m_pair a b c (ig.wm gv.1))
theorem op_gate {h : CH} (hI : Iv h) (a b c d : Int32) : Op2 (f_X11_gate a b c d) (f_X12_gate a b c d) h := by
  obtain ⟨t, q, p, bx, n, B, fk, fp, bk, M, gv, ic, im⟩ := hI
  exact op_PO gv ic im (c_gate a b c d (ic.wc gv.1)) (fun g ig => m_gate a b c d (ig.wm gv.1))
theorem op_twins {h : CH} (hI : Iv h) (a b : Int32) : Op2 (f_X11_twins a b) (f_X12_twins a b) h := by
  obtain ⟨t, q, p, bx, n, B, fk, fp, bk, M, gv, ic, im⟩ := hI
  exact op_PO gv ic im (c_twins a b (ic.wc gv.1)) (fun g ig => m_twins a b (ig.wm gv.1))
theorem op_until {h : CH} (hI : Iv h) (a b : Int32) : Op2 (f_X11_until a b) (f_X12_until a b) h := by
  obtain ⟨t, q, p, bx, n, B, fk, fp, bk, M, gv, ic, im⟩ := hI
  exact op_PO gv ic im (c_until a b (ic.wc gv.1)) (fun g ig => m_until a b (ig.wm gv.1))
theorem op_signs {h : CH} (hI : Iv h) (a b c d : Int32) : Op2 (f_X11_signs a b c d) (f_X12_signs a b c d) h := by
  obtain ⟨t, q, p, bx, n, B, fk, fp, bk, M, gv, ic, im⟩ := hI
  exact op_PO gv ic im (c_signs a b c d (ic.wc gv.1)) (fun g ig => m_signs a b c d (ig.wm gv.1))
theorem op_caught {h : CH} (hI : Iv h) (a b : Int32) : Op2 (f_X11_caught a b) (f_X12_caught a b) h := by
  obtain ⟨t, q, p, bx, n, B, fk, fp, bk, M, gv, ic, im⟩ := hI
  exact op_PO gv ic im (c_caught a b (ic.wc gv.1)) (fun g ig => m_caught a b (ig.wm gv.1))
theorem op_cost {h : CH} (hI : Iv h) (a b c d e : Int32) : Op2 (f_X11_cost a b c d e) (f_X12_cost a b c d e) h := by
  obtain ⟨t, q, p, bx, n, B, fk, fp, bk, M, gv, ic, im⟩ := hI
  exact op_PO gv ic im (c_cost a b c d e (ic.wc gv.1)) (fun g ig => m_cost a b c d e (ig.wm gv.1))
theorem op_bestBar {h : CH} (hI : Iv h) (a b c d : Int32) : Op2 (f_X11_bestBar a b c d) (f_X12_bestBar a b c d) h := by
  obtain ⟨t, q, p, bx, n, B, fk, fp, bk, M, gv, ic, im⟩ := hI
  exact op_PO gv ic im (c_bestBar a b c d (ic.wc gv.1)) (fun g ig => m_bestBar a b c d (ig.wm gv.1))
theorem op_fair {h : CH} (hI : Iv h) (a b c d : Int32) : Op2 (f_X11_fair a b c d) (f_X12_fair a b c d) h := by
  obtain ⟨t, q, p, bx, n, B, fk, fp, bk, M, gv, ic, im⟩ := hI
  exact op_PO gv ic im (c_fair a b c d (ic.wc gv.1)) (fun g ig => m_fair a b c d (ig.wm gv.1))
theorem op_mix {h : CH} (hI : Iv h) (a b c d e : Int32) : Op2 (f_X11_mix a b c d e) (f_X12_mix a b c d e) h := by
  obtain ⟨t, q, p, bx, n, B, fk, fp, bk, M, gv, ic, im⟩ := hI
  exact op_PO gv ic im (c_mix a b c d e ic.1 gv.1) (fun g ig => m_mix a b c d e ig.1 gv.1)
theorem op_behind {h : CH} (hI : Iv h) (a b c : Int32) : Op2 (f_X11_behind a b c) (f_X12_behind a b c) h := by
  obtain ⟨t, q, p, bx, n, B, fk, fp, bk, M, gv, ic, im⟩ := hI
  exact op_PO gv ic im (c_behind a b c ic.1 gv.1 ic.2.2.1 gv.2.2.1) (fun g ig => m_behind a b c ig.1 gv.1 ig.2.2.1 gv.2.2.1)
theorem op_rings {h : CH} (hI : Iv h) (a b : Int32) : Op2 (f_X11_rings a b) (f_X12_rings a b) h := by
  obtain ⟨t, q, p, bx, n, B, fk, fp, bk, M, gv, ic, im⟩ := hI
  exact op_PO gv ic im (c_rings a b ic.1 gv.1 gv.2.1 ic.2.2.1 gv.2.2.1) (fun g ig => m_rings a b ig.1 gv.1 gv.2.1 ig.2.2.1 gv.2.2.1)
theorem op_ring {h : CH} (hI : Iv h) (a b : Int32) : Op2 (f_X11_ring a b) (f_X12_ring a b) h := by
  obtain ⟨t, q, p, bx, n, B, fk, fp, bk, M, gv, ic, im⟩ := hI
  exact op_PO gv ic im (c_ring a b ic.1 gv.1 gv.2.1 ic.2.2.1 gv.2.2.1) (fun g ig => m_ring a b ig.1 gv.1 gv.2.1 ig.2.2.1 gv.2.2.1)
theorem op_looks {h : CH} (hI : Iv h) (a b c : Int32) : Op2 (f_X11_looks a b c) (f_X12_looks a b c) h := by
  obtain ⟨t, q, p, bx, n, B, fk, fp, bk, M, gv, ic, im⟩ := hI
  exact op_PO gv ic im (c_looks a b c (ic.wc gv.1) ic.2.2.1 gv.2.2.1) (fun g ig => m_looks a b c (ig.wm gv.1) ig.2.2.1 gv.2.2.1)
theorem op_face {h : CH} (hI : Iv h) (a b c : Int32) : Op1 (f_X11_face a b c) (f_X12_face a b c) h := by
  obtain ⟨t, q, p, bx, n, B, fk, fp, bk, M, gv, ic, im⟩ := hI
  exact ⟨_, c_face a b c ic.1 gv.1, m_face a b c im.1 gv.1⟩
theorem op_far {h : CH} (hI : Iv h) (a b c d : Int32) : Op1 (f_X11_far a b c d) (f_X12_far a b c d) h := by
  obtain ⟨t, q, p, bx, n, B, fk, fp, bk, M, gv, ic, im⟩ := hI
  exact ⟨_, c_far a b c d ic.1 gv.1, m_far a b c d im.1 gv.1⟩
theorem op_between {h : CH} (hI : Iv h) (a b : Int32) : Op1 (f_X11_between a b) (f_X12_between a b) h := by
  obtain ⟨t, q, p, bx, n, B, fk, fp, bk, M, gv, ic, im⟩ := hI
  exact ⟨_, c_between a b ic.1 gv.1, m_between a b im.1 gv.1⟩
theorem op_measure {h : CH} (hI : Iv h) (a b : Int32) : Op1 (f_X11_measure a b) (f_X12_measure a b) h := by
  obtain ⟨t, q, p, bx, n, B, fk, fp, bk, M, gv, ic, im⟩ := hI
  exact ⟨_, c_measure a b ic.1 gv.1, m_measure a b im.1 gv.1⟩
theorem op_fault {h : CH} (hI : Iv h) (a : Int32) : Op1 (f_X11_fault a) (f_X12_fault a) h := by
  obtain ⟨t, q, p, bx, n, B, fk, fp, bk, M, gv, ic, im⟩ := hI
  unfold Op1 f_X11_fault f_X12_fault
  rw [ic.2.2.2.2.2.2.1, ic.2.2.2.2.2.2.2.1, im.2.2.2.2.2.2.1, im.2.2.2.2.2.2.2]
  have := exw (P := a = nI 0) (d := inferInstance) ⟨fk, rfl⟩ (exw (P := a = nI 1) (d := inferInstance) ⟨fp, rfl⟩ ⟨(-1 : Int32), rfl⟩)
  obtain ⟨v, hv⟩ := this
  exact ⟨v, hv, hv⟩
theorem op_about {h : CH} (hI : Iv h) (a : Int32) : Op1 (f_X11_about a) (f_X12_about a) h := by
  obtain ⟨t, q, p, bx, n, B, fk, fp, bk, M, gv, ic, im⟩ := hI
  have hb := im.1.1
  unfold Op1 f_X11_about f_X12_about
  rw [m_many im.1, m_pointMany im.1, clp_some, clp_some, ic.1.2.2.1, ic.1.1, ic.2.1.2.1.1, ic.2.2.1.1, ic.2.2.1.2.1, ic.2.2.2.2.1, ic.2.1.2.2.1, ic.1.2.2.2.1, ic.1.2.1, im.2.1.2.2.2.2.1, im.2.2.1.1, im.2.2.1.2.1, im.2.2.2.2.1, im.2.1.2.2.2.2.2.2.2.1, im.1.2.1, rdA_nI (by omega) (by omega), rdA_nI (by omega) (by omega), im.1.2.2.2.2.2.1, im.1.2.2.2.1]
  obtain ⟨v, hv⟩ := exw (P := a = nI 0) (d := inferInstance) ⟨nI (tF t), rfl⟩ (exw (P := a = nI 1) (d := inferInstance) ⟨nI (tP t), rfl⟩ (exw (P := a = nI 2) (d := inferInstance) ⟨nI (qn q), rfl⟩ (exw (P := a = nI 3) (d := inferInstance) ⟨nI (pN p), rfl⟩ (exw (P := a = nI 4) (d := inferInstance) ⟨nI (pT p), rfl⟩ (exw (P := a = nI 5) (d := inferInstance) ⟨nI n, rfl⟩ (exw (P := a = nI 6) (d := inferInstance) ⟨nI (qu q), rfl⟩ (exw (P := a = nI 7) (d := inferInstance) ⟨nI (tK t), rfl⟩ (exw (P := a = nI 8) (d := inferInstance) ⟨tnr t, rfl⟩ ⟨(-1 : Int32), rfl⟩))))))))
  exact ⟨v, hv, hv⟩
