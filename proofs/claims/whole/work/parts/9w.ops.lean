/-! both sides together: calls that change something -/
theorem IC.m {t : Tn} {q : Rq} {p : Pp} {bx : Bxs} {n : Nat} {B : Nat → Int32} {fk fp : Int32} {S L : Nat → Nat → Prop} {h h' : CH} (hV : VT t) (c : IC t q p bx n B fk fp h) (hF : Fz S L h h') (h1 : ∀ a k, a ≤ 150 → ¬ S a k) (h2 : ∀ a k, a ≤ 150 → ¬ L a k) : IC t q p bx n B fk fp h' := c.fz hV hF (fun a k z => h1 a k (by omega)) (fun a k z => h2 a k (by omega))
theorem IM.c {t : Tn} {q : Rq} {p : Pp} {bx : Bxs} {n bk : Nat} {M : Cd} {B : Nat → Int32} {fk fp : Int32} {S L : Nat → Nat → Prop} {h h' : CH} (hV : VT t) (c : IM t q p bx n B fk fp bk M h) (hF : Fz S L h h') (h1 : ∀ a k, 151 ≤ a → a ≤ 192 → ¬ S a k) : IM t q p bx n B fk fp bk M h' := c.fz hV hF (fun a k z => h1 a k (by omega) (by omega)) (fun k z => h1 _ k (by omega) (by omega))
theorem ic_pp {t : Tn} {q : Rq} {p p2 : Pp} {bx : Bxs} {n : Nat} {B : Nat → Int32} {fk fp : Int32} {h h' : CH} (hV : VT t) (c : IC t q p bx n B fk fp h) (hF : Fr SP h h') (hp : CP 71 p2 h') : IC t q p2 bx n B fk fp h' := by
  have g := Fz.fr (L := fun _ _ => False) hF
  obtain ⟨c1, c2, c3, c4, c5, c6, c7, c8, c9⟩ := c
  have h16 := hV.2.2.1
  exact ⟨c1.fz g (fun a k z => by unfold SP; omega), c2.fz g (fun a k z1 z2 => by unfold SP; omega) (fun _ => id), hp, CB1.fz c4 g (fun a k z1 z2 => by unfold SP; omega), by rw [g.1 _ _ (by unfold SP; omega)]; exact c5, fun j hj => by rw [g.1 _ _ (by unfold SP; omega)]; exact c6 j hj, by rw [g.1 _ _ (by unfold SP; omega)]; exact c7, by rw [g.1 _ _ (by unfold SP; omega)]; exact c8, fun r hr => by rw [hF.2]; exact c9 r hr⟩
theorem im_pp {t : Tn} {q : Rq} {p p2 : Pp} {bx : Bxs} {n bk : Nat} {M : Cd} {B : Nat → Int32} {fk fp : Int32} {h h' : CH} (hV : VT t) (c : IM t q p bx n B fk fp bk M h) (hF : Fr SPm h h') (hp : MP p2 h') : IM t q p2 bx n B fk fp bk M h' := by
  have g := Fz.fr (L := fun _ _ => False) hF
  obtain ⟨c1, c2, c3, c4, c5, c6, c7, c8⟩ := c
  exact ⟨c1.fz g hV (fun a z1 z2 => by unfold SPm; omega) (fun a k z1 z2 _ _ => by unfold SPm; omega) (fun k _ _ => by unfold SPm; omega) (fun k _ _ => by unfold SPm; omega) (fun a k z1 z2 _ _ => by unfold SPm; omega) (by unfold SPm; omega), c2.fz g (fun k hk => by unfold SPm; omega) (fun k _ => ⟨by unfold SPm; omega, by unfold SPm; omega⟩) (fun k _ => ⟨by unfold SPm; omega, by unfold SPm; omega⟩), hp, c4.fz g (fun a k z1 z2 => by unfold SPm; omega), by rw [g.1 _ _ (by unfold SPm; omega)]; exact c5, fun j hj => by rw [g.1 _ _ (by unfold SPm; omega)]; exact c6 j hj, by rw [g.1 _ _ (by unfold SPm; omega)]; exact c7, by rw [g.1 _ _ (by unfold SPm; omega)]; exact c8⟩
/-- papers change on both sides -/
theorem op_pp {t : Tn} {q : Rq} {p p2 : Pp} {bx : Bxs} {n bk : Nat} {M : Cd} {B : Nat → Int32} {fk fp : Int32} {h : CH} (gv : GV t p bx n) (hV2 : VP (tF t) p2) (ic : IC t q p bx n B fk fp h) (im : IM t q p bx n B fk fp bk M h) {fX fM : CH → Option (Int32 × CH)} {v : Int32} (c : ∃ h', fX h = some (v, h') ∧ CP 71 p2 h' ∧ Fr SP h h') (m : ∀ g, IM t q p bx n B fk fp bk M g → ∃ h', fM g = some (v, h') ∧ MP p2 h' ∧ Fr SPm g h') : Op2 fX fM h := by
  obtain ⟨h1, e1, p1, f1⟩ := c
  have ic1 := ic_pp gv.1 ic f1 p1
  have im1 := im.c gv.1 (Fz.fr (L := fun _ _ => False) f1) (fun a k z1 z2 => by unfold SP; omega)
  obtain ⟨h2, e2, p3, f2⟩ := m h1 im1
  exact ⟨v, h1, h2, e1, e2, t, q, p2, bx, n, B, fk, fp, bk, M, ⟨gv.1, gv.2.1, hV2, gv.2.2.2.1, gv.2.2.2.2⟩, ic1.m gv.1 (Fz.fr (L := fun _ _ => False) f2) (fun a k z => by unfold SPm; omega) (fun _ _ _ => id), im_pp gv.1 im1 f2 p3⟩
theorem op_id {t : Tn} {q : Rq} {p : Pp} {bx : Bxs} {n bk : Nat} {M : Cd} {B : Nat → Int32} {fk fp : Int32} {h : CH} (gv : GV t p bx n) (ic : IC t q p bx n B fk fp h) (im : IM t q p bx n B fk fp bk M h) {fX fM : CH → Option (Int32 × CH)} {v : Int32} (c : fX h = some (v, h)) (m : fM h = some (v, h)) : Op2 fX fM h := ⟨v, h, h, c, m, t, q, p, bx, n, B, fk, fp, bk, M, gv, ic, im⟩
theorem op_paper {h : CH} (hI : Iv h) (a b c d : Int32) : Op2 (f_X11_paper a b c d) (f_X12_paper a b c d) h := by
  obtain ⟨t, q, p, bx, n, B, fk, fp, bk, M, gv, ic, im⟩ := hI
  have hc := c_paper a b c d ic.1 gv.1 ic.2.2.1 gv.2.2.1
  cases hb : paB t p a b c d with
  | true => exact op_pp gv (gv.2.2.1.ppN gv.1.2.2.1 hb) ic im (hc.1 hb) (fun g ig => (m_paper a b c d ig.1 gv.1 ig.2.2.1 gv.2.2.1).1 hb)
  | false => exact op_id gv ic im (hc.2 hb) ((m_paper a b c d im.1 gv.1 im.2.2.1 gv.2.2.1).2 hb)
theorem op_untell {h : CH} (hI : Iv h) (a : Int32) : Op2 (f_X11_untell a) (f_X12_untell a) h := by
  obtain ⟨t, q, p, bx, n, B, fk, fp, bk, M, gv, ic, im⟩ := hI
  have hc := c_untell a ic.2.2.1 gv.2.2.1
  cases hb : utB p a with
  | true => exact op_pp gv (gv.2.2.1.ppU a) ic im (hc.1 hb) (fun g ig => (m_untell a ig.2.2.1 gv.2.2.1).1 hb)
  | false => exact op_id gv ic im (hc.2 hb) ((m_untell a im.2.2.1 gv.2.2.1).2 hb)
theorem op_later {h : CH} (hI : Iv h) (a : Int32) : Op2 (f_X11_later a) (f_X12_later a) h := by
  obtain ⟨t, q, p, bx, n, B, fk, fp, bk, M, gv, ic, im⟩ := hI
  have hc := c_later a ic.2.2.1 gv.2.2.1
  cases hb : laB p a with
  | true => exact op_pp gv (gv.2.2.1.ppT hb) ic im (hc.1 hb) (fun g ig => (m_later a ig.2.2.1 gv.2.2.1).1 hb)
  | false => exact op_id gv ic im (hc.2 hb) ((m_later a im.2.2.1 gv.2.2.1).2 hb)
theorem op_back {h : CH} (hI : Iv h) (a : Int32) : Op2 (f_X11_back a) (f_X12_back a) h := by
  obtain ⟨t, q, p, bx, n, B, fk, fp, bk, M, gv, ic, im⟩ := hI
  have hc := c_back a ic.2.2.2.1 gv.2.2.2.1
  cases hb : bxG bx a with
  | some p2 =>
    have hV2 : VP (tF t) p2 := by
      unfold bxG at hb
      cases hx : isF 3 a with
      | false => rw [hx, if_neg (by decide)] at hb; cases hb
      | true =>
        rw [hx, if_pos rfl] at hb
        obtain ⟨k, hk, rfl⟩ := isF_of hx (by omega)
        rw [uI_toNat (by omega)] at hb
        have := gv.2.2.2.1 k hk
        rw [hb] at this
        exact this
    exact op_pp gv hV2 ic im (hc.1 p2 hb) (fun g ig => (m_back a ig.2.2.2.1 gv.2.2.2.1).1 p2 hb)
  | none => exact op_id gv ic im (hc.2 hb) ((m_back a im.2.2.2.1 gv.2.2.2.1).2 hb)
theorem op_image {h : CH} (hI : Iv h) (a : Int32) : Op2 (f_X11_image a) (f_X12_image a) h := by
  obtain ⟨t, q, p, bx, n, B, fk, fp, bk, M, gv, ic, im⟩ := hI
  have hc := c_image a ic.2.2.1 ic.2.2.2.1 gv.2.2.1.1
  cases hb : isF 3 a with
  | true =>
    obtain ⟨h1, e1, b1, f1⟩ := hc.1 hb
    have g1 := Fz.fr (L := fun _ _ => False) f1
    have im1 := im.c gv.1 g1 (fun a k z1 z2 => by unfold SB; omega)
    obtain ⟨h2, e2, b2, f2⟩ := (m_image a im1.2.2.1 im1.2.2.2.1 gv.2.2.1.1 gv.2.2.2.1).1 hb
    have g2 := Fz.fr (L := fun _ _ => False) f2
    obtain ⟨k, hk, rfl⟩ := isF_of hb (by omega)
    have hVB : VB (tF t) (bxS bx (nI k).toNatClampNeg p) := by
      intro j hj
      unfold bxS
      by_cases e : j = (nI k).toNatClampNeg
      · rw [if_pos e]; exact gv.2.2.1
      · rw [if_neg e]; exact gv.2.2.2.1 j hj
    have ic1 : IC t q p (bxS bx (nI k).toNatClampNeg p) n B fk fp h1 := by
      obtain ⟨c1, c2, c3, c4, c5, c6, c7, c8, c9⟩ := ic
      have h16 := gv.1.2.2.1
      exact ⟨c1.fz g1 (fun a k z => by unfold SB; omega), c2.fz g1 (fun a k z1 z2 => by unfold SB; omega) (fun _ => id), c3.fz g1 (fun a k z1 z2 => by unfold SB; omega), b1, by rw [g1.1 _ _ (by unfold SB; omega)]; exact c5, fun j hj => by rw [g1.1 _ _ (by unfold SB; omega)]; exact c6 j hj, by rw [g1.1 _ _ (by unfold SB; omega)]; exact c7, by rw [g1.1 _ _ (by unfold SB; omega)]; exact c8, fun r hr => by rw [f1.2]; exact c9 r hr⟩
    refine ⟨_, h1, h2, e1, e2, t, q, p, _, n, B, fk, fp, bk, M, ⟨gv.1, gv.2.1, gv.2.2.1, hVB, gv.2.2.2.2⟩, ic1.m gv.1 g2 (fun a k z => by unfold SBm; omega) (fun _ _ _ => id), ?_⟩
    obtain ⟨c1, c2, c3, c4, c5, c6, c7, c8⟩ := im1
    exact ⟨c1.fz g2 gv.1 (fun a z1 z2 => by unfold SBm; omega) (fun a k z1 z2 _ _ => by unfold SBm; omega) (fun k _ _ => by unfold SBm; omega) (fun k _ _ => by unfold SBm; omega) (fun a k z1 z2 _ _ => by unfold SBm; omega) (by unfold SBm; omega), c2.fz g2 (fun k hk => by unfold SBm; omega) (fun k _ => ⟨by unfold SBm; omega, by unfold SBm; omega⟩) (fun k _ => ⟨by unfold SBm; omega, by unfold SBm; omega⟩), c3.fz g2 (fun a k z1 z2 => by unfold SBm; omega) (by unfold SBm; omega) (by unfold SBm; omega), b2, by rw [g2.1 _ _ (by unfold SBm; omega)]; exact c5, fun j hj => by rw [g2.1 _ _ (by unfold SBm; omega)]; exact c6 j hj, by rw [g2.1 _ _ (by unfold SBm; omega)]; exact c7, by rw [g2.1 _ _ (by unfold SBm; omega)]; exact c8⟩
  | false => exact op_id gv ic im (hc.2 hb) ((m_image a im.2.2.1 im.2.2.2.1 gv.2.2.1.1 gv.2.2.2.1).2 hb)
/-- the tape's and the fault's cells change on both sides -/
theorem ic_tp {t : Tn} {q : Rq} {p : Pp} {bx : Bxs} {n n2 : Nat} {B B2 : Nat → Int32} {fk fp fk2 fp2 : Int32} {S L : Nat → Nat → Prop} {h h' : CH} (hV : VT t) (c : IC t q p bx n B fk fp h) (hF : Fz S L h h') (hS : ∀ a k, (7 ≤ a ∧ a ≤ 30) ∨ (55 ≤ a ∧ a ≤ 60) ∨ (71 ≤ a ∧ a ≤ 77) ∨ (130 ≤ a ∧ a ≤ 150) → ¬ S a k) (hL : ∀ a k, a = 3 ∨ a = 56 → ¬ L a k) (h1 : h'.1 0 1 = nI n2) (h2 : ∀ j, j < n2 → h'.1 1 j = B2 j) (h3 : h'.1 0 2 = fk2) (h4 : h'.1 0 3 = fp2) : IC t q p bx n2 B2 fk2 fp2 h' := by
  obtain ⟨c1, c2, c3, c4, c5, c6, c7, c8, c9⟩ := c
  have h16 := hV.2.2.1
  exact ⟨c1.fz hF (fun a k z => hS a k (by omega)), c2.fz hF (fun a k z1 z2 => hS a k (by omega)) (fun k => hL _ _ (by omega)), c3.fz hF (fun a k z1 z2 => hS a k (by omega)), CB1.fz c4 hF (fun a k z1 z2 => hS a k (by omega)), h1, h2, h3, h4, fun r hr => by rw [hF.2 _ _ (hL _ _ (by omega))]; exact c9 r hr⟩
theorem im_tp {t : Tn} {q : Rq} {p : Pp} {bx : Bxs} {n n2 bk : Nat} {M : Cd} {B B2 : Nat → Int32} {fk fp fk2 fp2 : Int32} {h h' : CH} {S L : Nat → Nat → Prop} (hV : VT t) (c : IM t q p bx n B fk fp bk M h) (hF : Fz S L h h') (hT : MT bk t h') (hR : RM (tP t) q M h') (h1 : ∀ a k, (178 ≤ a ∧ a ≤ 183) ∨ (185 ≤ a ∧ a ≤ 192) → ¬ S a k) (h2 : ¬ S 151 60) (h3 : ¬ S 151 61) (e1 : h'.1 151 2 = nI n2) (e2 : ∀ j, j < n2 → h'.1 152 j = B2 j) (e3 : h'.1 151 4 = fk2) (e4 : h'.1 151 5 = fp2) : IM t q p bx n2 B2 fk2 fp2 bk M h' := by
  obtain ⟨c1, c2, c3, c4, c5, c6, c7, c8⟩ := c
  exact ⟨hT, hR, c3.fz hF (fun a k z1 z2 => h1 a k (by omega)) h2 h3, c4.fz hF (fun a k z1 z2 => h1 a k (by omega)), e1, e2, e3, e4⟩
theorem op_end {h : CH} (hI : Iv h) (a : Int32) : Op2 (f_X11_end a) (f_X12_end a) h := by
  obtain ⟨t, q, p, bx, n, B, fk, fp, bk, M, gv, ic, im⟩ := hI
  have hn := gv.2.2.2.2
  by_cases c0 : a < 0
  · exact op_id gv ic im (v := -1) (by unfold f_X11_end; rw [if_pos c0]) (by unfold f_X12_end; rw [if_pos c0])
  obtain ⟨k, hk, rfl⟩ := uI_of c0
  by_cases c1 : n < k
  · exact op_id gv ic im (v := -1) (by unfold f_X11_end; rw [if_neg c0, ic.2.2.2.2.1, if_pos (by rw [uI_lt (by omega) hk]; exact c1)]) (by unfold f_X12_end; rw [if_neg c0, im.2.2.2.2.1, if_pos (by rw [uI_lt (by omega) hk]; exact c1)])
  · have g1 : Fz (fun a k => a = 0 ∧ k = 1) (fun _ _ => False) h (sI h 0 1 (nI k)) := Fz.sI ⟨rfl, rfl⟩
    have g2 : Fz (fun a k => a = 151 ∧ k = 2) (fun _ _ => False) (sI h 0 1 (nI k)) (sI (sI h 0 1 (nI k)) 151 2 (nI k)) := Fz.sI ⟨rfl, rfl⟩
    have ic1 : IC t q p bx k B fk fp (sI h 0 1 (nI k)) := ic_tp gv.1 ic g1 (fun a k z => by omega) (fun _ _ _ => id) sI_at (fun j hj => by rw [g1.1 _ _ (by omega)]; exact ic.2.2.2.2.2.1 j (by omega)) (by rw [g1.1 _ _ (by omega)]; exact ic.2.2.2.2.2.2.1) (by rw [g1.1 _ _ (by omega)]; exact ic.2.2.2.2.2.2.2.1)
    have im1 := im.c gv.1 g1 (fun a k z1 z2 => by omega)
    refine ⟨nI k, _, _, by unfold f_X11_end; rw [if_neg c0, ic.2.2.2.2.1, if_neg (by rw [uI_lt (by omega) hk]; exact c1), wrF_eq], by unfold f_X12_end; rw [if_neg c0, im1.2.2.2.2.1, if_neg (by rw [uI_lt (by omega) hk]; exact c1), wrF_eq], t, q, p, bx, k, B, fk, fp, bk, M, ⟨gv.1, gv.2.1, gv.2.2.1, gv.2.2.2.1, by omega⟩, ic1.m gv.1 g2 (fun a k z => by omega) (fun _ _ _ => id), ?_⟩
    exact im_tp gv.1 im1 g2 (im1.1.fz g2 gv.1 (fun a z1 z2 => by omega) (fun a k z1 z2 _ _ => by omega) (fun k _ _ => by omega) (fun k _ _ => by omega) (fun a k z1 z2 _ _ => by omega) (by omega)) (im1.2.1.fz g2 (fun k hk => by omega) (fun k _ => ⟨by omega, by omega⟩) (fun k _ => ⟨by omega, by omega⟩)) (fun a k z => by omega) (by omega) (by omega) sI_at (fun j hj => by rw [g2.1 _ _ (by omega)]; exact im1.2.2.2.2.2.1 j (by omega)) (by rw [g2.1 _ _ (by omega)]; exact im1.2.2.2.2.2.2.1) (by rw [g2.1 _ _ (by omega)]; exact im1.2.2.2.2.2.2.2)
theorem op_feed {h : CH} (hI : Iv h) (a b c d e : Int32) : Op2 (f_X11_feed a b c d e) (f_X12_feed a b c d e) h := by
  obtain ⟨t, q, p, bx, n, B, fk, fp, bk, M, gv, ic, im⟩ := hI
  have hn := gv.2.2.2.2
  have hc := c_feed (a := a) (b := b) (c := c) (d := d) (e := e) hn ic.2.2.2.2.1
  by_cases c0 : n + 20 ≤ 1600
  · obtain ⟨h1, e1, t1, b1, f1⟩ := hc.1 c0
    have g1 := Fz.fr (L := fun _ _ => False) f1
    have ic1 : IC t q p bx (n + 20) (fun j => if n ≤ j ∧ j < n + 20 then fdB a b c d e (j - n) else B j) fk fp h1 := ic_tp gv.1 ic g1 (fun a k z => by unfold xTP; omega) (fun _ _ _ => id) t1 (fun j hj => by
      rw [b1]
      by_cases z : n ≤ j ∧ j < n + 20
      · rw [if_pos z, if_pos z]
      · rw [if_neg z, if_neg z]; exact ic.2.2.2.2.2.1 j (by omega)) (by rw [g1.1 _ _ (by unfold xTP; omega)]; exact ic.2.2.2.2.2.2.1) (by rw [g1.1 _ _ (by unfold xTP; omega)]; exact ic.2.2.2.2.2.2.2.1)
    have im1 := im.c gv.1 g1 (fun a k z1 z2 => by unfold xTP; omega)
    obtain ⟨h2, e2, t2, b2, f2⟩ := (m_feed (a := a) (b := b) (c := c) (d := d) (e := e) hn im1.2.2.2.2.1).1 c0
    have g2 := Fz.fr (L := fun _ _ => False) f2
    refine ⟨nI (n + 20), h1, h2, e1, e2, t, q, p, bx, n + 20, _, fk, fp, bk, M, ⟨gv.1, gv.2.1, gv.2.2.1, gv.2.2.2.1, c0⟩, ic1.m gv.1 g2 (fun a k z => by unfold xTQ; omega) (fun _ _ _ => id), ?_⟩
    exact im_tp gv.1 im1 g2 (im1.1.fz g2 gv.1 (fun a z1 z2 => by unfold xTQ; omega) (fun a k z1 z2 _ _ => by unfold xTQ; omega) (fun k _ _ => by unfold xTQ; omega) (fun k _ _ => by unfold xTQ; omega) (fun a k z1 z2 _ _ => by unfold xTQ; omega) (by unfold xTQ; omega)) (im1.2.1.fz g2 (fun k hk => by unfold xTQ; omega) (fun k _ => ⟨by unfold xTQ; omega, by unfold xTQ; omega⟩) (fun k _ => ⟨by unfold xTQ; omega, by unfold xTQ; omega⟩)) (fun a k z => by unfold xTQ; omega) (by unfold xTQ; omega) (by unfold xTQ; omega) t2 (fun j hj => by
      rw [b2]
      by_cases z : n ≤ j ∧ j < n + 20
      · rw [if_pos z, if_pos z]
      · rw [if_neg z, if_neg z]; exact im1.2.2.2.2.2.1 j (by omega)) (by rw [g2.1 _ _ (by unfold xTQ; omega)]; exact im1.2.2.2.2.2.2.1) (by rw [g2.1 _ _ (by unfold xTQ; omega)]; exact im1.2.2.2.2.2.2.2)
  · exact op_id gv ic im (hc.2 (by omega)) ((m_feed hn im.2.2.2.2.1).2 (by omega))
