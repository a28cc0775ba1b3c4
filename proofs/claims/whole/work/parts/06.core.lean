/-! THE CLEAN MACHINE: the heap as two tables of numbers (ints, longs) over the fixed cells; 'Imp κ pc ls st h o': from this place the method comes to its end with o's answer, if o has one -/
abbrev CH : Type := (Nat → Nat → Int32) × (Nat → Nat → Int64)
def sI (h : CH) (a k : Nat) (v : Int32) : CH := (fun b j => if b = a ∧ j = k then v else h.1 b j, h.2)
def sL (h : CH) (a k : Nat) (v : Int64) : CH := (h.1, fun b j => if b = a ∧ j = k then v else h.2 b j)
def inb (i : Int32) (n : Nat) : Bool := decide (¬ (i < 0 ∨ n ≤ i.toNatClampNeg))
theorem vp_of_inb {i : Int32} {n : Nat} (h : inb i n = true) : vp_in i n := by
  unfold inb at h
  have h2 : ¬ (i < 0 ∨ n ≤ i.toNatClampNeg) := of_decide_eq_true h
  exact h2
/-! what the walked functions are written with -/
def rdA {σ : Type} (h : CH) (a n : Nat) (i : Int32) (K : Int32 → Option σ) : Option σ := if inb i n = true then K (h.1 a i.toNatClampNeg) else none
def rdL {σ : Type} (h : CH) (a n : Nat) (i : Int32) (K : Int64 → Option σ) : Option σ := if inb i n = true then K (h.2 a i.toNatClampNeg) else none
def rdQ {σ : Type} (b n : Nat) (i : Int32) (K : Nat → Option σ) : Option σ := if inb i n = true then K (b + i.toNatClampNeg) else none
def rdO {σ : Type} (a n : Nat) (i : Int32) (K : Option Nat → Option σ) : Option σ := if inb i n = true then K (RF a i.toNatClampNeg) else none
def wrA {σ : Type} (h : CH) (a n : Nat) (i v : Int32) (K : CH → Option σ) : Option σ := if inb i n = true then K (sI h a i.toNatClampNeg v) else none
def wrB {σ : Type} (h : CH) (a n : Nat) (i v : Int32) (K : CH → Option σ) : Option σ := if inb i n = true then K (sI h a i.toNatClampNeg (vp_nar .byte v)) else none
def wrZ {σ : Type} (h : CH) (a n : Nat) (i v : Int32) (K : CH → Option σ) : Option σ := if inb i n = true then K (sI h a i.toNatClampNeg (vp_nar .boolean v)) else none
def wrL {σ : Type} (h : CH) (a n : Nat) (i : Int32) (v : Int64) (K : CH → Option σ) : Option σ := if inb i n = true then K (sL h a i.toNatClampNeg v) else none
def wrF {σ : Type} (h : CH) (a k : Nat) (v : Int32) (K : CH → Option σ) : Option σ := K (sI h a k v)
def wrG {σ : Type} (h : CH) (a k : Nat) (v : Int32) (K : CH → Option σ) : Option σ := if v = 0 ∨ v = 1 then K (sI h a k v) else none
def wrJ {σ : Type} (h : CH) (a k : Nat) (v : Int64) (K : CH → Option σ) : Option σ := K (sL h a k v)
def dvd {σ : Type} (y : Int32) (o : Option σ) : Option σ := if y = 0 then none else o
def cl {σ ρ : Type} (o : Option (ρ × CH)) (K : ρ → CH → Option σ) : Option σ := o.bind fun q => K q.1 q.2
def clp {σ ρ : Type} (o : Option ρ) (K : ρ → Option σ) : Option σ := o.bind K
def jn {σ : Type} {γ : Sort 1} (J : γ) (B : γ → Option σ) : Option σ := B J
def rz {σ : Type} (x : Int32) (v : σ) : Option σ := if x = 0 ∨ x = 1 then some v else none
/-! the world -/
def fv (ad : Nat → Nat) (h : CH) (a ci k : Nat) : Value := if (FT.getD ci []).getD k 9 = 0 then .int (h.1 a k) else if (FT.getD ci []).getD k 9 = 1 then .long (h.2 a k) else va_rf ((RF a k).map ad)
def fvs (ad : Nat → Nat) (h : CH) (a ci : Nat) : List Value := (List.range (FT.getD ci []).length).map (fv ad h a ci)
def cellK (cid : Nat → ClassId) (ad : Nat → Nat) (h : CH) (a : Nat) (q : Nat × Nat) : va_E :=
  if q.1 = 0 then .inr (q.2, fvs ad h a q.2)
  else if q.1 = 1 then .inl (cid 0, q.2, .inl (h.1 a))
  else if q.1 = 2 then .inl (cid 1, q.2, .inl (h.1 a))
  else if q.1 = 3 then .inl (cid 2, q.2, .inl (h.1 a))
  else if q.1 = 4 then .inl (cid 3, q.2, .inr (.inl (h.2 a)))
  else if q.1 = 5 then .inl (cid 4, q.2, .inr (.inr (.inr (.inr (fun j => (RF a j).map ad)))))
  else .inl (cid 5, q.2, .inr (.inr (.inr (.inr (fun j => (RF a j).map ad)))))
def cellE (cid : Nat → ClassId) (ad : Nat → Nat) (h : CH) (a : Nat) : va_E := cellK cid ad h a (KT.getD a (9, 0))
def wl (cid : Nat → ClassId) (ad : Nat → Nat) (lv : List Nat) (h : CH) : va_W := lv.map (fun a => (ad a, cellE cid ad h a))
def tysOf (cid : Nat → ClassId) : List (ClassId × FieldType) := [(cid 0, .int), (cid 1, .byte), (cid 2, .boolean), (cid 3, .long), (cid 4, .array .int), (cid 5, .object "TwoFaces$Papers")]
theorem fvs_get {ad : Nat → Nat} {h : CH} {a ci k : Nat} (hk : k < (FT.getD ci []).length) : (fvs ad h a ci)[k]? = some (fv ad h a ci k) := by
  unfold fvs
  rw [List.getElem?_map, List.getElem?_range hk]
  rfl
theorem fvs_len {ad : Nat → Nat} {h : CH} {a ci : Nat} : (fvs ad h a ci).length = (FT.getD ci []).length := by simp [fvs]
theorem wl_get {cid : Nat → ClassId} {ad : Nat → Nat} {lv : List Nat} {h : CH} {a : Nat} (ha : a ∈ lv) : ∃ q0 : Nat, lv[q0]? = some a ∧ (wl cid ad lv h)[q0]? = some (ad a, cellE cid ad h a) := by
  obtain ⟨q0, hq⟩ := List.getElem?_of_mem ha
  exact ⟨q0, hq, by unfold wl; rw [List.getElem?_map, hq]; rfl⟩
theorem wl_set {cid : Nat → ClassId} {ad : Nat → Nat} {lv : List Nat} (hn : lv.Nodup) {q0 a : Nat} (hq : lv[q0]? = some a) {h h' : CH} (he : ∀ b, b ≠ a → cellE cid ad h' b = cellE cid ad h b) : (wl cid ad lv h).set q0 (ad a, cellE cid ad h' a) = wl cid ad lv h' := by
  apply List.ext_getElem?
  intro j
  unfold wl
  rw [List.getElem?_set, List.length_map, List.getElem?_map, List.getElem?_map]
  have hl := (List.getElem?_eq_some_iff.mp hq).1
  by_cases e : q0 = j
  · subst e
    rw [if_pos rfl, if_pos hl, hq]
    rfl
  · rw [if_neg e]
    cases hj : lv[j]? with
    | none => rfl
    | some b =>
      have hb : b ≠ a := by
        intro h1
        subst h1
        have F := List.pairwise_iff_getElem.mp hn
        have l1 := (List.getElem?_eq_some_iff.mp hq)
        have l2 := (List.getElem?_eq_some_iff.mp hj)
        obtain ⟨g1, g2⟩ := l1
        obtain ⟨g3, g4⟩ := l2
        rcases Nat.lt_trichotomy q0 j with g | g | g
        · exact F q0 j g1 g3 g (g2.trans g4.symm)
        · exact e g
        · exact F j q0 g3 g1 g (g4.trans g2.symm)
      show some (ad b, cellE cid ad h b) = some (ad b, cellE cid ad h' b)
      rw [he b hb]
theorem cellE_sI {cid : Nat → ClassId} {ad : Nat → Nat} {h : CH} {a k : Nat} {v : Int32} {b : Nat} (hb : b ≠ a) : cellE cid ad (sI h a k v) b = cellE cid ad h b := by
  have e : (sI h a k v).1 b = h.1 b := by funext j; simp [sI, hb]
  have e2 : (sI h a k v).2 = h.2 := rfl
  unfold cellE cellK fvs
  have e3 : ∀ ci, fv ad (sI h a k v) b ci = fv ad h b ci := by
    intro ci
    funext j
    unfold fv
    rw [e, e2]
  rw [e, e2, e3]
theorem cellE_sL {cid : Nat → ClassId} {ad : Nat → Nat} {h : CH} {a k : Nat} {v : Int64} {b : Nat} (hb : b ≠ a) : cellE cid ad (sL h a k v) b = cellE cid ad h b := by
  have e : (sL h a k v).2 b = h.2 b := by funext j; simp [sL, hb]
  have e2 : (sL h a k v).1 = h.1 := rfl
  unfold cellE cellK fvs
  have e3 : ∀ ci, fv ad (sL h a k v) b ci = fv ad h b ci := by
    intro ci
    funext j
    unfold fv
    rw [e, e2]
  rw [e, e2, e3]
/-! the context of a method's walk -/
def Kx (σ : Type) : Type _ := Program × Launch × Env × Room × State × MethodId × Array Value × List Frame × Method × Code × va_G × (Nat → ClassId) × (Nat → Nat) × List Nat × (Nat → Prop) × Nat × Nat × (σ → State → Prop)
def kad {σ : Type} (κ : Kx σ) : Nat → Nat := match κ with
  | (_, _, _, _, _, _, _, _, _, _, _, _, ad, _) => ad
def Imp {σ : Type} (κ : Kx σ) (pc : Nat) (ls : List (Nat × Value)) (st : List Value) (h : CH) (o : Option σ) : Prop := match κ with
  | (p, l, e, R, s, m, args, below, meth, c, D, cid, ad, lv, A, cells, slots, Q) =>
    ∀ v, o = some v → ∀ (H : Heap) (locs : List Loc) (ls0 : Array Slot), va_P D vwCl (wl cid ad lv h) H → va_D A (wl cid ad lv h) → va_S A s.heap H locs → lv_has ls0 c.maxLocals ls → W p l e R s m args below meth c H locs cells slots (Q v) (F0 m pc ls0 st)
def Cx {σ : Type} (κ : Kx σ) (cc : ByteArray) (own : String) (nL fr lo : Nat) (T : List Nat) : Prop := match κ with
  | (p, l, e, R, s, m, args, below, meth, c, D, cid, ad, lv, A, cells, slots, Q) =>
    CallFix p m c cc nL s args TS own ∧ va_K D vwCl (tysOf cid) s ∧ lv.Nodup ∧ (∀ a, a < NP → a ∈ lv) ∧ (∀ a ∈ T, a ∈ lv) ∧ (∀ q, s.heap.size ≤ q → A q) ∧ fr ≤ R.frames ∧ lo ≤ R.locals ∧ cells ≤ R.cells ∧ slots ≤ R.slots
def Rt {σ : Type} (κ : Kx σ) (ret : Option FieldType) (enc : σ → (Nat → Nat) → Option Value) (hp : σ → CH) : Prop := match κ with
  | (p, l, e, R, s, m, args, below, meth, c, D, cid, ad, lv, A, cells, slots, Q) =>
    meth.sig.returnType = ret ∧ meth.locks = false ∧ ∃ (Qc : σ → Array Value → State → Outcome → State → Prop) (free : Addr → Prop), (∀ v, Q v = MQ below (Qc v) args s cells slots free) ∧
      ∀ (v : σ) (H : Heap) (locs : List Loc), va_P D vwCl (wl cid ad lv (hp v)) H → va_D A (wl cid ad lv (hp v)) → va_S A s.heap H locs → (∀ t : State, t.heap = H → s.WarmedH t.vm → Qc v args s (.returned (enc v ad)) t) ∧ ∀ q ∈ locs, free q.base
def okid (a : Nat) (T : List Nat) : Bool := decide (a < NP) || T.contains a
def okT (T' T : List Nat) : Bool := T'.all (fun a => T.contains a)
theorem imp_none {σ : Type} {κ : Kx σ} {pc : Nat} {ls : List (Nat × Value)} {st : List Value} {h : CH} : Imp κ pc ls st h none := by
  obtain ⟨p, l, e, R, s, m, args, below, meth, c, D, cid, ad, lv, A, cells, slots, Q⟩ := κ
  intro v hv
  cases hv
theorem imp_sub {σ : Type} {κ : Kx σ} {pc : Nat} {ls : List (Nat × Value)} (ls' : List (Nat × Value)) (ks : List Nat) {st : List Value} {h : CH} {o : Option σ} (hl : lv_pick ls ks = ls') (k : Imp κ pc ls' st h o) : Imp κ pc ls st h o := by
  obtain ⟨p, l, e, R, s, m, args, below, meth, c, D, cid, ad, lv, A, cells, slots, Q⟩ := κ
  intro v hv H locs ls0 hP hD hS hls
  exact k v hv H locs ls0 hP hD hS (lv_sub hls ks hl)
theorem imp_ite {σ : Type} {κ : Kx σ} {pc : Nat} {ls : List (Nat × Value)} {st : List Value} {h : CH} {P : Prop} {d : Decidable P} {o1 o2 : Option σ} (k1 : P → Imp κ pc ls st h o1) (k2 : ¬ P → Imp κ pc ls st h o2) : Imp κ pc ls st h (@ite _ P d o1 o2) := by
  by_cases hp : P
  · rw [if_pos hp]; exact k1 hp
  · rw [if_neg hp]; exact k2 hp
theorem imp_jn {σ : Type} {κ : Kx σ} {pc : Nat} {ls : List (Nat × Value)} {st : List Value} {h : CH} {γ : Sort 1} {J : γ} {B : γ → Option σ} (P : γ → Prop) (hJ : P J) (k : ∀ j, P j → Imp κ pc ls st h (B j)) : Imp κ pc ls st h (jn J B) := k J hJ
theorem rfl_of_mem {a : Nat} {T : List Nat} (h : okid a T = true) {lv : List Nat} (h1 : ∀ a, a < NP → a ∈ lv) (h2 : ∀ a ∈ T, a ∈ lv) : a ∈ lv := by
  unfold okid at h
  rcases Bool.or_eq_true_iff.mp h with g | g
  · exact h1 a (of_decide_eq_true g)
  · exact h2 a (by simpa using g)
theorem okid_lt {a : Nat} (h : a < NP) {T : List Nat} : okid a T = true := by
  unfold okid
  rw [decide_eq_true h]
  rfl
def FU : Nat := 100000
/-- max, min, abs as the library's rows say them -/
def mx (x y : Int32) : Int32 := if x < y then y else x
def mn (x y : Int32) : Int32 := if y < x then y else x
def ab (x : Int32) : Int32 := if 0 ≤ x then x else 0 - x
/-- the first eight of a row into another -/
def cpA {σ : Type} (h : CH) (a b : Nat) (K : CH → Option σ) : Option σ := K (fun c j => if c = b ∧ j < 8 then h.1 a j else h.1 c j, h.2)
theorem ts_out {x : Int32} {lo hi : Int} (h : ∀ v : Int, lo ≤ v → v ≤ hi → ¬ x = Int32.ofInt v) : x.toInt < lo ∨ hi < x.toInt := by
  by_cases h1 : x.toInt < lo
  · exact Or.inl h1
  · by_cases h2 : hi < x.toInt
    · exact Or.inr h2
    · exact absurd (Int32.ofInt_toInt x).symm (h x.toInt (by omega) (by omega))
