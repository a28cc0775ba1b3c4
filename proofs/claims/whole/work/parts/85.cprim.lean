/-! the class's readers: the first token, take, numbers; and what a reader answers -/
def xOp (a k : Nat) : Prop := (a = 2 ∧ 5 ≤ k ∧ k ≤ 14) ∨ a = 4 ∨ a = 5
def lOp (a k : Nat) : Prop := a = 6 ∨ (a = 2 ∧ k = 12)
theorem c_opL {rl : Bool} {n : Nat} {X : Nat → Nat} (hX : TX n X) {N : Nat} (hT : TG n (tks rl n X) N) (hp : ∀ i, i ≤ N → tkp rl n X i ≤ n) : ∀ f i h, i ≤ N + 1 → N + 1 - i < f → LX rl n X h → h.1 2 8 = nI i → (i ≤ N → h.1 2 7 = nI (tkp rl n X i)) → (∀ k, k < i → Rw (tks rl n X k) k h) →
    ∃ h', f_X8_open_L43 f (bI (decide (i ≤ N))) (nI i) h = some ((), h') ∧ CU (tks rl n X) N 0 h' ∧ h'.1 2 13 = h.1 2 13 ∧ h'.1 2 14 = h.1 2 14 ∧ Fz xOp lOp h h' := by
  have hn := hX.1
  have hN := hT.2.2.1
  intro f
  induction f with
  | zero => intro i h _ h2; omega
  | succ f ih =>
    intro i h hi hf hL h8 h7 hR
    unfold f_X8_open_L43
    rw [jn_eq]
    by_cases ci : i ≤ N
    · rw [if_pos (by rw [uI_lt (by omega) (by omega)]; omega), decide_eq_true ci, if_neg (by rw [bI_0]; decide)]
      unfold f_X8_readToken
      rw [h7 ci]
      have s0 := exN_sp (p := isB) hX (by decide) (tkp rl n X i)
      obtain ⟨h', g1, g2, g3, g4, g5⟩ := c_rtL hX (hp i ci) (show i < 1601 by omega) FU 0 h hL (by show _ < 100000; have := s0.2.2.2 (hp i ci); omega) s0.1 (h7 ci) h8
      rw [show nI (tkp rl n X i) = nI (tkp rl n X i + 0) from rfl, g1, cl_some, uI_add]
      have e1 : decide (¬ kLast (tok rl n X (tkp rl n X i))) = decide (i + 1 ≤ N) := by
        apply decide_eq_decide.2
        show ¬ kLast (tks rl n X i) ↔ _
        constructor
        · intro z
          by_cases e : i = N
          · exact absurd (e ▸ hT.2.1) z
          · omega
        · intro z
          exact (hT.2.2.2.1 i (by omega)).1
      rw [e1]
      obtain ⟨h2, k1, k2, k3, k4, k5⟩ := ih (i + 1) h' (by omega) (by omega) (hL.fz g5 (by unfold xRT; omega) (by unfold xRT; omega) (by intro j; unfold xRT; omega) (by intro j; unfold lRT; omega)) g2 (fun z => g4 ((hT.2.2.2.1 i (by omega)).1)) (fun k hk => by
        by_cases e : k = i
        · rw [e]; exact g3
        · exact (hR k (by omega)).fz g5 (by unfold xRT; omega) (by unfold xRT; omega) (by unfold lRT; omega))
      refine ⟨h2, k1, k2, ?_, ?_, (g5.mono (fun a k q => by unfold xRT at q; unfold xOp; omega) (fun a k q => by unfold lRT at q; unfold lOp; omega)).tr k5⟩
      · rw [k3, g5.1 _ _ (by unfold xRT; omega)]
      · rw [k4, g5.1 _ _ (by unfold xRT; omega)]
    · have ex : ∃ h', (wrF h 2 9 (-1) fun h_8 => cl (f_X8_step h_8) fun _ h_9 => some ((), h_9)) = some ((), h') ∧ CU (tks rl n X) N 0 h' ∧ h'.1 2 13 = h.1 2 13 ∧ h'.1 2 14 = h.1 2 14 ∧ Fz xOp lOp h h' := by
        rw [wrF_eq]
        have hF : Fz xOp lOp h (sI h 2 9 (-1)) := Fz.sI (by unfold xOp; omega)
        have t : TBL (tks rl n X) N (sI h 2 9 (-1)) := ⟨by rw [sI_1, if_neg (by omega), h8, show i = N + 1 by omega], fun k hk => (hR k (by omega)).fz (Fz.sI (S := fun a k => a = 2 ∧ k = 9) (L := fun _ _ => False) ⟨rfl, rfl⟩) (by omega) (by omega) (fun z => z)⟩
        obtain ⟨h', g1, g2, g3⟩ := c_step0 hT t (Nat.zero_le N) (by rw [sI_1, if_pos ⟨rfl, rfl⟩]; decide)
        rw [g1, cl_some]
        refine ⟨h', rfl, g2, ?_, ?_, hF.tr (g3.mono (fun a k q => by unfold xSt at q; unfold xOp; omega) (fun a k q => by unfold lSt at q; unfold lOp; omega))⟩
        · rw [g3.1 _ _ (by unfold xSt; omega), sI_1, if_neg (by omega)]
        · rw [g3.1 _ _ (by unfold xSt; omega), sI_1, if_neg (by omega)]
      rw [decide_eq_false ci, if_pos (show bI false = 0 from rfl)]
      by_cases c2 : nI i < nI 1601
      · rw [if_pos c2]; exact ex
      · rw [if_neg c2]; exact ex
theorem c_openT {rl : Bool} {n : Nat} {X : Nat → Nat} (hX : TX n X) {N : Nat} (hT : TG n (tks rl n X) N) (hp : ∀ i, i ≤ N → tkp rl n X i ≤ n) {h : CH} (hx : ∀ j, j < n → (h.1 1 j &&& nI 255) = nI (X j)) (hr : ∀ r, r < 24 → h.2 3 r = nL (w5 (lw r))) :
    ∃ h', f_X8_open (nI n) (bI rl) h = some ((), h') ∧ CU (tks rl n X) N 0 h' ∧ h'.1 2 13 = nI 0 ∧ h'.1 2 14 = -1 ∧ Fz xOp lOp h h' := by
  have hn := hX.1
  unfold f_X8_open
  have em : mn (nI n) (nI 1600) = nI n := by
    unfold mn
    rw [if_neg (by rw [uI_lt (by omega) (by omega)]; omega)]
  rw [em, wrF_eq, wrG_b, wrF_eq, wrF_eq, wrF_eq, wrF_eq]
  have hF : Fz xOp lOp h (sI (sI (sI (sI (sI (sI h 2 5 (nI n)) 2 6 (bI rl)) 2 13 (nI 0)) 2 14 (-1)) 2 7 (nI 0)) 2 8 (nI 0)) := (((((Fz.sI (by unfold xOp; omega)).tr (Fz.sI (by unfold xOp; omega))).tr (Fz.sI (by unfold xOp; omega))).tr (Fz.sI (by unfold xOp; omega))).tr (Fz.sI (by unfold xOp; omega))).tr (Fz.sI (by unfold xOp; omega))
  have e5 : (sI (sI (sI (sI (sI (sI h 2 5 (nI n)) 2 6 (bI rl)) 2 13 (nI 0)) 2 14 (-1)) 2 7 (nI 0)) 2 8 (nI 0)).1 2 5 = nI n := by simp [sI_1]
  have e6 : (sI (sI (sI (sI (sI (sI h 2 5 (nI n)) 2 6 (bI rl)) 2 13 (nI 0)) 2 14 (-1)) 2 7 (nI 0)) 2 8 (nI 0)).1 2 6 = bI rl := by simp [sI_1]
  have e7 : (sI (sI (sI (sI (sI (sI h 2 5 (nI n)) 2 6 (bI rl)) 2 13 (nI 0)) 2 14 (-1)) 2 7 (nI 0)) 2 8 (nI 0)).1 2 7 = nI 0 := by simp [sI_1]
  have e8 : (sI (sI (sI (sI (sI (sI h 2 5 (nI n)) 2 6 (bI rl)) 2 13 (nI 0)) 2 14 (-1)) 2 7 (nI 0)) 2 8 (nI 0)).1 2 8 = nI 0 := by simp [sI_1]
  have e13 : (sI (sI (sI (sI (sI (sI h 2 5 (nI n)) 2 6 (bI rl)) 2 13 (nI 0)) 2 14 (-1)) 2 7 (nI 0)) 2 8 (nI 0)).1 2 13 = nI 0 := by simp [sI_1]
  have e14 : (sI (sI (sI (sI (sI (sI h 2 5 (nI n)) 2 6 (bI rl)) 2 13 (nI 0)) 2 14 (-1)) 2 7 (nI 0)) 2 8 (nI 0)).1 2 14 = -1 := by simp [sI_1]
  have hN := hT.2.2.1
  generalize (sI (sI (sI (sI (sI (sI h 2 5 (nI n)) 2 6 (bI rl)) 2 13 (nI 0)) 2 14 (-1)) 2 7 (nI 0)) 2 8 (nI 0)) = g at *
  obtain ⟨h', g1, g2, g3, g4, g5⟩ := c_opL hX hT hp FU 0 g (Nat.zero_le _) (by show _ < 100000; omega) ⟨e5, e6, fun j hj => by rw [hF.1 _ _ (by unfold xOp; omega)]; exact hx j hj, fun r hr2 => by rw [hF.2 _ _ (by unfold lOp; omega)]; exact hr r hr2⟩ e8 (fun _ => e7) (fun k hk => by omega)
  exact ⟨h', g1, g2, by rw [g3, e13], by rw [g4, e14], hF.tr g5⟩
/-- what a reader of a text says: a fault and its place, or a value -/
abbrev Ex (α : Type) : Type := Except (Nat × Nat) α
def bd {α β : Type} (r : Ex α) (f : α → Ex β) : Ex β := match r with
  | .error e => .error e
  | .ok a => f a
def sTk (T : Nat → Tk) (i k : Nat) : Ex Nat := if kC (T i) = k then .ok (i + 1) else .error (flK T i 2, kS (T i))
def sNm (T : Nat → Tk) (i lo hi : Nat) : Ex Nat := if kC (T i) = 25 then (if lo ≤ kV (T i) ∧ kV (T i) ≤ hi then .ok (kV (T i)) else .error (4, kS (T i))) else .error (flK T i 2, kS (T i))
def CO {α : Type} (S L : Nat → Nat → Prop) (h0 : CH) (o : Option (Int32 × CH)) (r : Ex α) (P : α → CH → Prop) : Prop := match r with
  | .error e => ∃ h', o = some (nI 0, h') ∧ h'.1 2 13 = nI e.1 ∧ h'.1 2 14 = nI e.2 ∧ Fz S L h0 h'
  | .ok a => ∃ h', o = some (nI 1, h') ∧ P a h' ∧ Fz S L h0 h'
theorem CO.bind {α β : Type} {S L : Nat → Nat → Prop} {h0 : CH} {o : Option (Int32 × CH)} {r : Ex α} {P : α → CH → Prop} {K : Int32 → CH → Option (Int32 × CH)} {f : α → Ex β} {Q : β → CH → Prop} (c : CO S L h0 o r P) (hz : ∀ h', K (nI 0) h' = some (nI 0, h')) (k : ∀ a h', P a h' → Fz S L h0 h' → CO S L h0 (K (nI 1) h') (f a) Q) : CO S L h0 (cl o K) (bd r f) Q := by
  cases r with
  | error e =>
    obtain ⟨h', rfl, c1, c2, c3⟩ := c
    exact ⟨h', by rw [cl_some, hz], c1, c2, c3⟩
  | ok a =>
    obtain ⟨h', rfl, c1, c2⟩ := c
    rw [cl_some]
    exact k a h' c1 c2
theorem CO.last {α : Type} {S L : Nat → Nat → Prop} {h0 : CH} {o : Option (Int32 × CH)} {r : Ex α} {P : α → CH → Prop} (c : CO S L h0 o r P) : CO S L h0 (cl o fun v h => rz v (v, h)) r P := by
  cases r with
  | error e =>
    obtain ⟨h', rfl, c1, c2, c3⟩ := c
    exact ⟨h', by rw [cl_some, rz_0], c1, c2, c3⟩
  | ok a =>
    obtain ⟨h', rfl, c1, c2⟩ := c
    exact ⟨h', by rw [cl_some, rz_1], c1, c2⟩
theorem CO.go {α : Type} {S L S' L' : Nat → Nat → Prop} {h0 h : CH} {o : Option (Int32 × CH)} {r : Ex α} {P Q : α → CH → Prop} (c : CO S' L' h o r P) (hF : Fz S L h0 h) (hs : ∀ x k, S' x k → S x k) (hl : ∀ x k, L' x k → L x k) (hp : ∀ a h', P a h' → Fz S' L' h h' → Q a h') : CO S L h0 o r Q := by
  cases r with
  | error e =>
    obtain ⟨h', rfl, c1, c2, c3⟩ := c
    exact ⟨h', rfl, c1, c2, hF.tr (c3.mono hs hl)⟩
  | ok a =>
    obtain ⟨h', rfl, c1, c2⟩ := c
    exact ⟨h', rfl, hp a h' c1 c2, hF.tr (c2.mono hs hl)⟩
theorem kC_lt {T : Nat → Tk} {n N i : Nat} (hT : TG n T N) (hi : i ≤ N) : kC (T i) < 100 := by
  by_cases e : i = N
  · have := hT.2.1; unfold kLast at this; rw [e]; omega
  · have := (hT.2.2.2.1 i (by omega)).2; omega
/-- cells that a primitive may write -/
def xP (a k : Nat) : Prop := a = 2 ∧ 9 ≤ k ∧ k ≤ 14
def lP (a k : Nat) : Prop := a = 2 ∧ k = 12
theorem c_err {α : Type} {T : Nat → Tk} {N i n : Nat} {h : CH} (hT : TG n T N) (u : CU T N i h) (k : Nat) (P : α → CH → Prop) : CO xP lP h (f_X8_refuse (nI k) h) (.error (flK T i k, kS (T i)) : Ex α) P := by
  obtain ⟨h', g1, g2, g3, g4⟩ := c_refuse hT u k
  exact ⟨h', g1, g2, g3, g4.mono (fun a k q => by unfold xRf at q; unfold xP; omega) (fun a k q => q.elim)⟩
theorem c_take {T : Nat → Tk} {N i n : Nat} {h : CH} (hT : TG n T N) (u : CU T N i h) {k : Nat} (hk : k < 26 ∨ 28 ≤ k) (hk2 : k < 100) : CO xP lP h (f_X8_take (nI k) h) (sTk T i k) (fun j h' => j = i + 1 ∧ kC (T i) = k ∧ CU T N (i + 1) h' ∧ h'.1 2 13 = h.1 2 13 ∧ h'.1 2 14 = h.1 2 14) := by
  have hc := kC_lt hT u.2.1
  unfold f_X8_take sTk
  rw [u.2.2.2.1]
  have x1 : (nI (kC (T i)) = nI k) = (kC (T i) = k) := uI_inj (by omega) (by omega)
  simp only [x1]
  by_cases c : kC (T i) = k
  · rw [if_pos c, if_pos c]
    obtain ⟨-, h', g1, g2, g3⟩ := c_step hT u (by unfold kLast; omega)
    rw [g1, cl_some]
    exact ⟨h', rfl, ⟨rfl, c, g2, by rw [g3.1 _ _ (by unfold xSt; omega)], by rw [g3.1 _ _ (by unfold xSt; omega)]⟩, g3.mono (fun a k q => by unfold xSt at q; unfold xP; omega) (fun a k q => by unfold lSt at q; unfold lP; omega)⟩
  · rw [if_neg c, if_neg c]
    exact (c_err hT u 2 _).last
theorem c_num {T : Nat → Tk} {N i n : Nat} {h : CH} (hT : TG n T N) (u : CU T N i h) {lo hi : Nat} (h1 : lo < 10000) (h2 : hi < 10000) : CO xP lP h (f_X8_isNumber (nI lo) (nI hi) h) (sNm T i lo hi) (fun v h' => h' = h ∧ kC (T i) = 25 ∧ v = kV (T i) ∧ h.1 2 11 = nI v ∧ lo ≤ v ∧ v ≤ hi) := by
  have hc := kC_lt hT u.2.1
  unfold f_X8_isNumber sNm
  rw [u.2.2.2.1]
  have x1 : (nI (kC (T i)) = nI 25) = (kC (T i) = 25) := uI_inj (by omega) (by omega)
  simp only [x1]
  by_cases c : kC (T i) = 25
  · rw [if_pos c, if_pos c, jn_eq, jn_eq, u.2.2.2.2.1 c]
    have hv := (hT.2.2.2.2 i u.2.1).2.2.1 c
    simp only [uI_lt (show kV (T i) < 2147483648 by omega) (show lo < 2147483648 by omega), uI_lt (show hi < 2147483648 by omega) (show kV (T i) < 2147483648 by omega)]
    have e4 : flK T i 4 = 4 := by unfold flK; rw [if_neg (by omega)]
    have er := c_err (α := Nat) hT u 4 (fun v h' => h' = h ∧ kC (T i) = 25 ∧ v = kV (T i) ∧ h.1 2 11 = nI v ∧ lo ≤ v ∧ v ≤ hi)
    rw [e4] at er
    obtain ⟨h', g1, g2, g3, g4⟩ := er
    have er2 : ∃ h', (cl (f_X8_refuse (nI 4) h) fun v_5 h_6 => if v_5 = 0 then some (nI 0, h_6) else some (nI 1, h_6)) = some (nI 0, h') ∧ h'.1 2 13 = nI 4 ∧ h'.1 2 14 = nI (kS (T i)) ∧ Fz xP lP h h' := ⟨h', by rw [g1, cl_some]; rfl, g2, g3, g4⟩
    by_cases c1 : kV (T i) < lo
    · rw [if_pos c1, if_neg (by omega)]; exact er2
    · rw [if_neg c1]
      by_cases c2 : hi < kV (T i)
      · rw [if_pos c2, if_neg (by omega)]; exact er2
      · rw [if_neg c2, if_pos (by omega)]
        exact ⟨h, rfl, ⟨rfl, c, rfl, rfl, by omega, by omega⟩, Fz.rf⟩
  · rw [if_neg c, if_neg c]
    exact (c_err hT u 2 _).last
theorem CU.fz {S L : Nat → Nat → Prop} {T : Nat → Tk} {N i : Nat} {h h' : CH} (u : CU T N i h) (hF : Fz S L h h') (h0 : ∀ k, k ≤ 12 → ¬ S 2 k) (h1 : ∀ c, ¬ S 4 c) (h2 : ∀ c, ¬ S 5 c) (h3 : ∀ c, ¬ L 6 c) (h4 : ¬ L 2 12) : CU T N i h' := by
  obtain ⟨u1, u2, u3, u4, u5, u6⟩ := u
  exact ⟨u1.fz hF (h0 8 (by omega)) h1 h2 h3, u2, by rw [hF.1 _ _ (h0 9 (by omega))]; exact u3, by rw [hF.1 _ _ (h0 10 (by omega))]; exact u4, fun z => by rw [hF.1 _ _ (h0 11 (by omega))]; exact u5 z, fun z => by rw [hF.2 _ _ h4]; exact u6 z⟩
/-- a step of the cursor -/
theorem CO.step {α : Type} {S L : Nat → Nat → Prop} {T : Nat → Tk} {N i n : Nat} {h0 h : CH} {K : CH → Option (Int32 × CH)} {r : Ex α} {Q : α → CH → Prop} (hT : TG n T N) (u : CU T N i h) (hi : ¬ kLast (T i)) (hF : Fz S L h0 h) (hs : ∀ x k, xP x k → S x k) (hl : ∀ x k, lP x k → L x k) (k : ∀ h', i + 1 ≤ N → CU T N (i + 1) h' → Fz xSt lSt h h' → Fz S L h0 h' → CO S L h0 (K h') r Q) : CO S L h0 (cl (f_X8_step h) fun _ h' => K h') r Q := by
  obtain ⟨hi2, h', g1, g2, g3⟩ := c_step hT u hi
  rw [g1, cl_some]
  exact k h' hi2 g2 g3 (hF.tr (g3.mono (fun x k q => hs x k (by unfold xSt at q; unfold xP; omega)) (fun x k q => hl x k (by unfold lSt at q; unfold lP; omega))))
