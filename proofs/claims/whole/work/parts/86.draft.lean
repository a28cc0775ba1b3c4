/-! the draft of a town: what the class's cells 31 .. 54 and 193 hold of it -/
abbrev Dr : Type := Tn × (Nat → List Nat) × Bool × Bool × Nat
def dt (d : Dr) : Tn := d.1
def dn (d : Dr) : Nat → List Nat := d.2.1
def dp (d : Dr) : Bool := d.2.2.1
def dq (d : Dr) : Bool := d.2.2.2.1
def dm (d : Dr) : Nat := d.2.2.2.2
def dF (d : Dr) : Nat := tF (dt d)
def CD (d : Dr) (h : CH) : Prop := CT 31 (dt d) h ∧ (∀ f, f < dF d → h.2 32 f = nL (w5 (dn d f))) ∧ h.1 193 2 = bI (dp d) ∧ h.1 193 3 = bI (dq d) ∧ h.1 193 4 = nI (dm d)
def VD (d : Dr) : Prop := VT (dt d) ∧ VS (dt d) ∧ (∀ f, f < dF d → gl (dn d f)) ∧ dm d < 16
theorem CT.fz {S L : Nat → Nat → Prop} {b : Nat} {t : Tn} {h h' : CH} (c : CT b t h) (hF : Fz S L h h') (hS : ∀ a k, (b ≤ a ∧ a ≤ b + 3 ∨ b + 5 ≤ a ∧ a < b + 5 + tF t ∨ b + 21 ≤ a ∧ a ≤ b + 23) → ¬ S a k) : CT b t h' := by
  obtain ⟨c0, c1, c2, c3, c4, c5, c6, c7, c8, c9⟩ := c
  have g : ∀ a k, (b ≤ a ∧ a ≤ b + 3 ∨ b + 5 ≤ a ∧ a < b + 5 + tF t ∨ b + 21 ≤ a ∧ a ≤ b + 23) → h'.1 a k = h.1 a k := fun a k h1 => hF.1 a k (hS a k h1)
  refine ⟨?_, ?_, ?_, ?_, ?_, ?_, ?_, ?_, ?_, ?_⟩
  · rw [g _ _ (by omega)]; exact c0
  · rw [g _ _ (by omega)]; exact c1
  · rw [g _ _ (by omega)]; exact c2
  · rw [g _ _ (by omega)]; exact c3
  · intro f hf; rw [g _ _ (by omega)]; exact c4 f hf
  · intro f hf; rw [g _ _ (by omega)]; exact c5 f hf
  · intro f hf i hi; rw [g _ _ (by omega)]; exact c6 f hf i hi
  · intro f hf; rw [g _ _ (by omega)]; exact c7 f hf
  · intro f hf; rw [g _ _ (by omega)]; exact c8 f hf
  · intro f hf; rw [g _ _ (by omega)]; exact c9 f hf
theorem CD.fz {S L : Nat → Nat → Prop} {d : Dr} {h h' : CH} (c : CD d h) (hF : Fz S L h h') (hS : ∀ a k, (31 ≤ a ∧ a ≤ 34 ∨ 36 ≤ a ∧ a < 36 + dF d ∨ 52 ≤ a ∧ a ≤ 54 ∨ a = 193) → ¬ S a k) (hL : ∀ k, ¬ L 32 k) : CD d h' := by
  obtain ⟨c1, c2, c3, c4, c5⟩ := c
  refine ⟨c1.fz hF (fun a k q => hS a k (by unfold dF; omega)), fun f hf => by rw [hF.2 _ _ (hL f)]; exact c2 f hf, ?_, ?_, ?_⟩
  · rw [hF.1 _ _ (hS _ _ (by omega))]; exact c3
  · rw [hF.1 _ _ (hS _ _ (by omega))]; exact c4
  · rw [hF.1 _ _ (hS _ _ (by omega))]; exact c5
/-- the class, at token i with draft d, no fault yet -/
def ST (T : Nat → Tk) (N i : Nat) (d : Dr) (h : CH) : Prop := CU T N i h ∧ CD d h ∧ h.1 2 13 = nI 0 ∧ h.1 2 14 = -1
def xT (a k : Nat) : Prop := (a = 2 ∧ 9 ≤ k ∧ k ≤ 14) ∨ (31 ≤ a ∧ a ≤ 54) ∨ (a = 193 ∧ 2 ≤ k ∧ k ≤ 4)
def lT (a k : Nat) : Prop := (a = 2 ∧ k = 12) ∨ a = 32
theorem xP_T : ∀ a k, xP a k → xT a k := fun a k q => by unfold xP at q; unfold xT; omega
theorem lP_T : ∀ a k, lP a k → lT a k := fun a k q => by unfold lP at q; unfold lT; omega
theorem CD.st {d : Dr} {h h' : CH} (c : CD d h) (hF : Fz xSt lSt h h') : CD d h' := c.fz hF (fun a k q => by unfold xSt; omega) (fun k => by unfold lSt; omega)
theorem CD.pr {d : Dr} {h h' : CH} (c : CD d h) (hF : Fz xP lP h h') : CD d h' := c.fz hF (fun a k q => by unfold xP; omega) (fun k => by unfold lP; omega)
theorem ST.st {T : Nat → Tk} {N i : Nat} {d : Dr} {h h' : CH} (s : ST T N i d h) (hF : Fz xSt lSt h h') (u : CU T N (i + 1) h') : ST T N (i + 1) d h' :=
  ⟨u, s.2.1.st hF, by rw [hF.1 _ _ (by unfold xSt; omega)]; exact s.2.2.1, by rw [hF.1 _ _ (by unfold xSt; omega)]; exact s.2.2.2⟩
theorem CO.bi {α β : Type} {S L : Nat → Nat → Prop} {h0 : CH} {o : Option (Int32 × CH)} {r : Ex α} {P : α → CH → Prop} {K : CH → Option (Int32 × CH)} {f : α → Ex β} {Q : β → CH → Prop} (c : CO S L h0 o r P) (k : ∀ a h', P a h' → Fz S L h0 h' → CO S L h0 (K h') (f a) Q) : CO S L h0 (cl o fun v h => if v = 0 then some (nI 0, h) else K h) (bd r f) Q :=
  CO.bind c (fun h' => if_pos rfl) (fun a h' p hF => by
    have : (if nI 1 = 0 then some (nI 0, h') else K h') = K h' := if_neg (by decide)
    rw [this]
    exact k a h' p hF)
theorem CO.lm {α β : Type} {S L : Nat → Nat → Prop} {h0 : CH} {o : Option (Int32 × CH)} {r : Ex α} {P : α → CH → Prop} {f : α → β} {Q : β → CH → Prop} (c : CO S L h0 o r P) (k : ∀ a h', P a h' → Fz S L h0 h' → Q (f a) h') : CO S L h0 (cl o fun v h => rz v (v, h)) (bd r fun a => .ok (f a)) Q :=
  CO.bind c (fun h' => rz_0 _) (fun a h' p hF => ⟨h', rz_1 _, k a h' p hF, hF⟩)
/-- a take of the class, from a state with a draft -/
theorem c_tk {T : Nat → Tk} {N i n : Nat} {d : Dr} {h0 h : CH} (hT : TG n T N) (s : ST T N i d h) (hF : Fz xT lT h0 h) {k : Nat} (hk : k < 26 ∨ 28 ≤ k) (hk2 : k < 100) : CO xT lT h0 (f_X8_take (nI k) h) (sTk T i k) (fun j h' => j = i + 1 ∧ kC (T i) = k ∧ ST T N (i + 1) d h' ∧ Fz xP lP h h') :=
  (c_take hT s.1 hk hk2).go hF xP_T lP_T (fun j h' p g => ⟨p.1, p.2.1, ⟨p.2.2.1, s.2.1.pr g, by rw [p.2.2.2.1]; exact s.2.2.1, by rw [p.2.2.2.2]; exact s.2.2.2⟩, g⟩)
theorem c_nm {T : Nat → Tk} {N i n : Nat} {h0 h : CH} (hT : TG n T N) (u : CU T N i h) (hF : Fz xT lT h0 h) {lo hi : Nat} (h1 : lo < 10000) (h2 : hi < 10000) : CO xT lT h0 (f_X8_isNumber (nI lo) (nI hi) h) (sNm T i lo hi) (fun v h' => h' = h ∧ kC (T i) = 25 ∧ v = kV (T i) ∧ h.1 2 11 = nI v ∧ lo ≤ v ∧ v ≤ hi) :=
  (c_num hT u h1 h2).go hF xP_T lP_T (fun _ _ p _ => p)
theorem c_er {α : Type} {T : Nat → Tk} {N i n : Nat} {h0 h : CH} (hT : TG n T N) (u : CU T N i h) (hF : Fz xT lT h0 h) (k : Nat) (P : α → CH → Prop) : CO xT lT h0 (cl (f_X8_refuse (nI k) h) fun v h => rz v (v, h)) (.error (flK T i k, kS (T i)) : Ex α) P :=
  ((c_err hT u k P).go hF xP_T lP_T (fun _ _ p _ => p)).last
/-- what a line changes -/
def dPts (d : Dr) (v : Nat) : Dr := ((v, (dt d).2), dn d, true, dq d, dm d)
def dNear (d : Dr) (v : Nat) : Dr := ((tP (dt d), tF (dt d), tK (dt d), nI v, (dt d).2.2.2.2), dn d, dp d, true, dm d)
def dPrt (d : Dr) (p b c : Nat) : Dr := ((tP (dt d), tF (dt d), tK (dt d), tnr (dt d), tkd (dt d), tdr (dt d), ttl (dt d), tfr (dt d), (fun q => if q = p then nI b else tbl (dt d) q), (fun q => if q = p then nI c else tcs (dt d) q)), dn d, dp d, dq d, dm d ||| 2 ^ p)
def dKnw (d : Dr) (a b : Nat) : Dr := ((tP (dt d), tF (dt d), tK (dt d) + 1, tnr (dt d), tkd (dt d), tdr (dt d), ttl (dt d), (fun f => if f = b then nI (fnN (dt d) b ||| 2 ^ a) else if f = a then nI (fnN (dt d) a ||| 2 ^ b) else tfr (dt d) f), tbl (dt d), tcs (dt d)), dn d, dp d, dq d, dm d)
def dFace (d : Dr) (l : List Nat) (k r : Nat) (g : Nat → Nat) : Dr := ((tP (dt d), tF (dt d) + 1, tK (dt d), tnr (dt d), (fun f => if f = tF (dt d) then nI k else tkd (dt d) f), (fun f => if f = tF (dt d) then nI r else tdr (dt d) f), (fun f => if f = tF (dt d) then fun i => nI (g i) else ttl (dt d) f), tfr (dt d), tbl (dt d), tcs (dt d)), (fun f => if f = tF (dt d) then l else dn d f), dp d, dq d, dm d)
/-- the lines, as the document says them -/
def sPts (T : Nat → Tk) (i : Nat) (d : Dr) : Ex (Nat × Dr) := if dp d = true ∨ 0 < dF d then .error (flK T i 2, kS (T i)) else bd (sNm T (i + 1) 3 8) fun v => bd (sTk T (i + 2) 59) fun j => .ok (j, dPts d v)
def sNear (T : Nat → Tk) (i : Nat) (d : Dr) : Ex (Nat × Dr) := if dq d = true then .error (flK T i 2, kS (T i)) else bd (sNm T (i + 1) 0 800) fun v => bd (sTk T (i + 2) 59) fun j => .ok (j, dNear d v)
def sPrt (T : Nat → Tk) (i : Nat) (d : Dr) : Ex (Nat × Dr) := bd (sNm T (i + 1) 0 3) fun p => if (dm d).testBit p = true then .error (flK T (i + 1) 3, kS (T (i + 1))) else bd (sTk T (i + 2) 7) fun _ => bd (sNm T (i + 3) 0 9) fun b => bd (sTk T (i + 4) 8) fun _ => bd (sNm T (i + 5) 0 99) fun c => bd (sTk T (i + 6) 59) fun j => .ok (j, dPrt d p b c)
def nmd (d : Dr) (l : List Nat) : Nat := fnd (fun f => decide (dn d f = l)) (dF d) 0
def sFc (T : Nat → Tk) (i : Nat) (d : Dr) : Ex Nat := if kC (T i) = 24 then (if nmd d (kW (T i)) < dF d then .ok (nmd d (kW (T i))) else .error (flK T i 5, kS (T i))) else .error (flK T i 2, kS (T i))
def sKnw (T : Nat → Tk) (i : Nat) (d : Dr) : Ex (Nat × Dr) := if 20 ≤ tK (dt d) then .error (flK T i 2, kS (T i)) else bd (sFc T (i + 1) d) fun a => bd (sFc T (i + 2) d) fun b => if a = b ∨ (fnN (dt d) a).testBit b = true then .error (flK T (i + 2) 3, kS (T (i + 2))) else bd (sTk T (i + 3) 59) fun j => .ok (j, dKnw d a b)
def sRw (T : Nat → Tk) (i : Nat) : Nat → Nat → Ex Unit
  | 0, _ => .ok ()
  | k + 1, m => bd (sNm T (i + m) 0 99) fun _ => sRw T i k (m + 1)
def sFac (T : Nat → Tk) (i : Nat) (d : Dr) : Ex (Nat × Dr) := if 16 ≤ dF d then .error (flK T i 2, kS (T i)) else if kC (T (i + 1)) = 24 then (if nmd d (kW (T (i + 1))) < dF d then .error (flK T (i + 1) 3, kS (T (i + 1))) else bd (sTk T (i + 2) 2) fun _ => bd (sNm T (i + 3) 0 3) fun k => bd (sTk T (i + 4) 3) fun _ => bd (sNm T (i + 5) 0 9) fun r => bd (sTk T (i + 6) 4) fun _ => bd (sRw T (i + 7) (tP (dt d)) 0) fun _ => bd (sTk T (i + 7 + tP (dt d)) 59) fun j => .ok (j, dFace d (kW (T (i + 1))) k r (fun m => kV (T (i + 7 + m))))) else .error (flK T (i + 1) 2, kS (T (i + 1)))
def sLn (T : Nat → Tk) (i : Nat) (d : Dr) : Ex (Nat × Dr) := if kC (T i) = 0 then sPts T i d else if kC (T i) = 1 then sFac T i d else if kC (T i) = 5 then sKnw T i d else if kC (T i) = 6 then sPrt T i d else if kC (T i) = 9 then sNear T i d else .error (flK T i 2, kS (T i))
