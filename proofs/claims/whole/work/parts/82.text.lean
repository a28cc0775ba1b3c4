/-! the text, cut into tokens -/
theorem lt0n {a : Nat} (ha : a < 2147483648) : ¬ nI a < 0 := by rw [uI_lt0 ha]; exact id
def Fz (S L : Nat → Nat → Prop) (h h' : CH) : Prop := (∀ a k, ¬ S a k → h'.1 a k = h.1 a k) ∧ (∀ a k, ¬ L a k → h'.2 a k = h.2 a k)
theorem Fz.rf {S L : Nat → Nat → Prop} {h : CH} : Fz S L h h := ⟨fun _ _ _ => rfl, fun _ _ _ => rfl⟩
theorem Fz.tr {S L : Nat → Nat → Prop} {h h1 h2 : CH} (a : Fz S L h h1) (b : Fz S L h1 h2) : Fz S L h h2 := ⟨fun x k hx => (b.1 x k hx).trans (a.1 x k hx), fun x k hx => (b.2 x k hx).trans (a.2 x k hx)⟩
theorem Fz.mono {S L S' L' : Nat → Nat → Prop} {h h1 : CH} (a : Fz S L h h1) (hs : ∀ x k, S x k → S' x k) (hl : ∀ x k, L x k → L' x k) : Fz S' L' h h1 := ⟨fun x k hx => a.1 x k (fun z => hx (hs x k z)), fun x k hx => a.2 x k (fun z => hx (hl x k z))⟩
theorem Fz.sI {S L : Nat → Nat → Prop} {h : CH} {a k : Nat} {v : Int32} (hS : S a k) : Fz S L h (sI h a k v) := by
  refine ⟨fun x j hx => ?_, fun _ _ _ => rfl⟩
  show (if x = a ∧ j = k then v else h.1 x j) = h.1 x j
  by_cases e : x = a ∧ j = k
  · exact absurd (by rw [e.1, e.2]; exact hS) hx
  · rw [if_neg e]
theorem Fz.sL {S L : Nat → Nat → Prop} {h : CH} {a k : Nat} {v : Int64} (hS : L a k) : Fz S L h (sL h a k v) := by
  refine ⟨fun _ _ _ => rfl, fun x j hx => ?_⟩
  show (if x = a ∧ j = k then v else h.2 x j) = h.2 x j
  by_cases e : x = a ∧ j = k
  · exact absurd (by rw [e.1, e.2]; exact hS) hx
  · rw [if_neg e]
theorem Fz.fr {S L : Nat → Nat → Prop} {h h' : CH} (a : Fr S h h') : Fz S L h h' := ⟨a.1, fun x k _ => by rw [a.2]⟩
/-- a text of n bytes, 0 behind it -/
def TX (n : Nat) (X : Nat → Nat) : Prop := n ≤ 1600 ∧ (∀ j, X j < 256) ∧ ∀ j, n ≤ j → X j = 0
def isL (x : Nat) : Bool := decide (97 ≤ x ∧ x ≤ 122)
def isD (x : Nat) : Bool := decide (48 ≤ x ∧ x ≤ 57)
def isB (x : Nat) : Bool := decide (x = 32 ∨ x = 10)
def isS (rl : Bool) (x : Nat) : Bool := decide (x = 59) || (rl && decide (x = 40 ∨ x = 41 ∨ x = 42 ∨ x = 43 ∨ x = 45 ∨ x = 60 ∨ x = 61 ∨ x = 62))
theorem isS_rg {rl : Bool} {x : Nat} (c : isS rl x = true) : 40 ≤ x ∧ x ≤ 62 := by
  unfold isS at c
  rcases Bool.or_eq_true_iff.1 c with h | h
  · have := of_decide_eq_true h; omega
  · have := of_decide_eq_true (Bool.and_eq_true_iff.1 h).2; omega
def ext (q : Nat → Bool) : Nat → Nat → Nat
  | 0, j => j
  | m + 1, j => if q j = true then ext q m (j + 1) else j
def exN (p : Nat → Bool) (X : Nat → Nat) (n j : Nat) : Nat := ext (fun k => p (X k)) (n - j) j
theorem ext_sp {q : Nat → Bool} {n : Nat} (hq : ∀ k, n ≤ k → q k = false) : ∀ m j, n - j ≤ m → j ≤ ext q m j ∧ (∀ k, j ≤ k → k < ext q m j → q k = true) ∧ q (ext q m j) = false ∧ (j ≤ n → ext q m j ≤ n) := by
  intro m
  induction m with
  | zero => intro j hj; exact ⟨Nat.le_refl _, fun k h1 h2 => by simp [ext] at h2; omega, hq _ (by simp [ext]; omega), fun h => h⟩
  | succ m ih =>
    intro j hj
    unfold ext
    by_cases c : q j = true
    · rw [if_pos c]
      have hjn : j < n := by
        by_cases z : j < n
        · exact z
        · rw [hq j (by omega)] at c; exact absurd c (by decide)
      obtain ⟨a1, a2, a3, a4⟩ := ih (j + 1) (by omega)
      refine ⟨by omega, fun k h1 h2 => ?_, a3, fun _ => a4 hjn⟩
      by_cases e : k = j
      · rw [e]; exact c
      · exact a2 k (by omega) h2
    · rw [if_neg c]
      exact ⟨Nat.le_refl _, fun k h1 h2 => by omega, by simpa using c, fun h => h⟩
theorem exN_sp {p : Nat → Bool} {X : Nat → Nat} {n : Nat} (hX : TX n X) (hp : p 0 = false) (j : Nat) : j ≤ exN p X n j ∧ (∀ k, j ≤ k → k < exN p X n j → p (X k) = true) ∧ p (X (exN p X n j)) = false ∧ (j ≤ n → exN p X n j ≤ n) :=
  ext_sp (q := fun k => p (X k)) (fun k hk => by rw [hX.2.2 k hk]; exact hp) (n - j) j (Nat.le_refl _)
def ltr (X : Nat → Nat) (s : Nat) : Nat → List Nat
  | 0 => []
  | m + 1 => (X (s + m) - 96) :: ltr X s m
def dgt (X : Nat → Nat) (s : Nat) : Nat → Nat
  | 0 => 0
  | m + 1 => dgt X s m * 10 + (X (s + m) - 48)
theorem ltr_gd {X : Nat → Nat} {s : Nat} : ∀ m, (∀ k, s ≤ k → k < s + m → isL (X k) = true) → (ltr X s m).length = m ∧ ∀ d ∈ ltr X s m, 1 ≤ d ∧ d ≤ 26 := by
  intro m
  induction m with
  | zero => intro _; exact ⟨rfl, fun d hd => by simp [ltr] at hd⟩
  | succ m ih =>
    intro h
    obtain ⟨a1, a2⟩ := ih (fun k h1 h2 => h k h1 (by omega))
    refine ⟨by simp [ltr, a1], fun d hd => ?_⟩
    have := of_decide_eq_true (h (s + m) (by omega) (by omega))
    simp only [ltr, List.mem_cons] at hd
    rcases hd with e | e
    · omega
    · exact a2 d e
theorem dgt_lt {X : Nat → Nat} {s : Nat} : ∀ m, (∀ k, s ≤ k → k < s + m → isD (X k) = true) → dgt X s m < 10 ^ m := by
  intro m
  induction m with
  | zero => intro _; exact Nat.one_pos
  | succ m ih =>
    intro h
    have a := ih (fun k h1 h2 => h k h1 (by omega))
    have := of_decide_eq_true (h (s + m) (by omega) (by omega))
    simp only [dgt, Nat.pow_succ]
    omega
/-- a token: what it is (0 .. 23 a kept word, 24 a name, 25 a number, 26 the end, 27 none, else a sign's byte), from, to, its number, its letters -/
abbrev Tk : Type := Nat × Nat × Nat × Nat × List Nat
def kC (x : Tk) : Nat := x.1
def kS (x : Tk) : Nat := x.2.1
def kE (x : Tk) : Nat := x.2.2.1
def kV (x : Tk) : Nat := x.2.2.2.1
def kW (x : Tk) : List Nat := x.2.2.2.2
def tok (rl : Bool) (n : Nat) (X : Nat → Nat) (j : Nat) : Tk :=
  if n ≤ exN isB X n j then (26, exN isB X n j, exN isB X n j, 0, [])
  else if isL (X (exN isB X n j)) = true then
    (if 8 < exN isL X n (exN isB X n j) - exN isB X n j then (27, exN isB X n j, exN isL X n (exN isB X n j), 0, [])
     else (rsv (ltr X (exN isB X n j) (exN isL X n (exN isB X n j) - exN isB X n j)), exN isB X n j, exN isL X n (exN isB X n j), 0, ltr X (exN isB X n j) (exN isL X n (exN isB X n j) - exN isB X n j)))
  else if isD (X (exN isB X n j)) = true then
    (if 4 < exN isD X n (exN isB X n j) - exN isB X n j ∨ isL (X (exN isD X n (exN isB X n j))) = true then (27, exN isB X n j, exN isD X n (exN isB X n j), 0, [])
     else (25, exN isB X n j, exN isD X n (exN isB X n j), dgt X (exN isB X n j) (exN isD X n (exN isB X n j) - exN isB X n j), []))
  else (if isS rl (X (exN isB X n j)) = true then X (exN isB X n j) else 27, exN isB X n j, exN isB X n j + 1, 0, [])
/-- what a token can be -/
theorem tok_sp {rl : Bool} {n : Nat} {X : Nat → Nat} (hX : TX n X) {j : Nat} (hj : j ≤ n) :
    j ≤ kS (tok rl n X j) ∧ kS (tok rl n X j) ≤ n ∧ (kC (tok rl n X j) = 26 ∨ kC (tok rl n X j) = 27 ∨ (kS (tok rl n X j) < kE (tok rl n X j) ∧ kE (tok rl n X j) ≤ n ∧ (kC (tok rl n X j) ≤ 25 ∨ (40 ≤ kC (tok rl n X j) ∧ kC (tok rl n X j) ≤ 62)))) ∧ (kC (tok rl n X j) = 25 → kV (tok rl n X j) ≤ 9999) ∧ (kC (tok rl n X j) ≤ 24 → gl (kW (tok rl n X j)) ∧ rsv (kW (tok rl n X j)) = kC (tok rl n X j)) := by
  obtain ⟨b1, b2, b3, b4⟩ := exN_sp (p := isB) hX (by decide) j
  have b4 := b4 hj
  unfold tok
  generalize exN isB X n j = s at *
  by_cases c1 : n ≤ s
  · rw [if_pos c1]
    exact ⟨b1, b4, Or.inl rfl, fun h => absurd h (by simp [kC]), fun h => absurd h (by simp [kC])⟩
  rw [if_neg c1]
  by_cases c2 : isL (X s) = true
  · rw [if_pos c2]
    obtain ⟨l1, l2, l3, l4⟩ := exN_sp (p := isL) hX (by decide) s
    have l4 := l4 b4
    have ls : exN isL X n s ≠ s := fun e => by rw [e, c2] at l3; exact absurd l3 (by decide)
    generalize exN isL X n s = e at *
    by_cases c3 : 8 < e - s
    · rw [if_pos c3]
      exact ⟨b1, b4, Or.inr (Or.inl rfl), fun h => absurd h (by simp [kC]), fun h => absurd h (by simp [kC])⟩
    rw [if_neg c3]
    have g := ltr_gd (X := X) (s := s) (e - s) (fun k h1 h2 => l2 k h1 (by omega))
    have hr := rsv_le (ltr X s (e - s))
    refine ⟨b1, b4, Or.inr (Or.inr ⟨?_, l4, Or.inl ?_⟩), fun h => ?_, fun _ => ⟨⟨?_, g.2⟩, rfl⟩⟩
    · show s < e; omega
    · show rsv _ ≤ 25; omega
    · exact absurd (show rsv _ = 25 from h) (by omega)
    · show (ltr X s (e - s)).length ≤ 8; omega
  rw [if_neg c2]
  by_cases c4 : isD (X s) = true
  · rw [if_pos c4]
    obtain ⟨l1, l2, l3, l4⟩ := exN_sp (p := isD) hX (by decide) s
    have l4 := l4 b4
    have ls : exN isD X n s ≠ s := fun e => by rw [e, c4] at l3; exact absurd l3 (by decide)
    generalize exN isD X n s = e at *
    by_cases c3 : 4 < e - s ∨ isL (X e) = true
    · rw [if_pos c3]
      exact ⟨b1, b4, Or.inr (Or.inl rfl), fun h => absurd h (by simp [kC]), fun h => absurd h (by simp [kC])⟩
    rw [if_neg c3]
    have g := dgt_lt (X := X) (s := s) (e - s) (fun k h1 h2 => l2 k h1 (by omega))
    have h10 : (10:Nat) ^ (e - s) ≤ 10 ^ 4 := Nat.pow_le_pow_right (by omega) (by omega)
    refine ⟨b1, b4, Or.inr (Or.inr ⟨?_, l4, Or.inl ?_⟩), fun h => ?_, fun h => absurd h (by simp [kC])⟩
    · show s < e; omega
    · show 25 ≤ 25; omega
    · show dgt X s (e - s) ≤ 9999; omega
  rw [if_neg c4]
  by_cases c5 : isS rl (X s) = true
  · have hs : 40 ≤ X s ∧ X s ≤ 62 := by
      unfold isS at c5
      rcases Bool.or_eq_true_iff.1 c5 with h | h
      · have := of_decide_eq_true h; omega
      · have := of_decide_eq_true (Bool.and_eq_true_iff.1 h).2; omega
    rw [if_pos c5]
    refine ⟨b1, b4, Or.inr (Or.inr ⟨?_, ?_, Or.inr hs⟩), fun h => ?_, fun h => ?_⟩
    · show s < s + 1; omega
    · show s + 1 ≤ n; omega
    · exact absurd (show X s = 25 from h) (by omega)
    · exact absurd (show X s ≤ 24 from h) (by omega)
  · rw [if_neg c5]
    exact ⟨b1, b4, Or.inr (Or.inl rfl), fun h => absurd h (by simp [kC]), fun h => absurd h (by simp [kC])⟩
/-- the tokens one behind another -/
def tkp (rl : Bool) (n : Nat) (X : Nat → Nat) : Nat → Nat
  | 0 => 0
  | i + 1 => kE (tok rl n X (tkp rl n X i))
def tks (rl : Bool) (n : Nat) (X : Nat → Nat) (i : Nat) : Tk := tok rl n X (tkp rl n X i)
abbrev kLast (x : Tk) : Prop := kC x = 26 ∨ kC x = 27
/-- T's tokens up to the N-th, which is the end, or none -/
def TG (n : Nat) (T : Nat → Tk) (N : Nat) : Prop := n ≤ 1600 ∧ kLast (T N) ∧ N ≤ n ∧ (∀ i, i < N → ¬ kLast (T i) ∧ (kC (T i) ≤ 25 ∨ (40 ≤ kC (T i) ∧ kC (T i) ≤ 62))) ∧ ∀ i, i ≤ N → i ≤ kS (T i) ∧ kS (T i) ≤ n ∧ (kC (T i) = 25 → kV (T i) ≤ 9999) ∧ (kC (T i) ≤ 24 → gl (kW (T i)) ∧ rsv (kW (T i)) = kC (T i))
theorem tkp_le {rl : Bool} {n : Nat} {X : Nat → Nat} (hX : TX n X) : ∀ i, (∀ k, k < i → ¬ kLast (tks rl n X k)) → i ≤ tkp rl n X i ∧ tkp rl n X i ≤ n := by
  intro i
  induction i with
  | zero => intro _; exact ⟨Nat.le_refl _, Nat.zero_le _⟩
  | succ i ih =>
    intro h
    obtain ⟨a1, a2⟩ := ih (fun k hk => h k (by omega))
    obtain ⟨s1, s2, s3, -⟩ := tok_sp (rl := rl) hX a2
    have hl := h i (by omega)
    unfold kLast tks at hl
    show i + 1 ≤ kE (tok rl n X (tkp rl n X i)) ∧ kE (tok rl n X (tkp rl n X i)) ≤ n
    rcases s3 with e | e | e
    · exact absurd (Or.inl e) hl
    · exact absurd (Or.inr e) hl
    · omega
theorem tks_N {rl : Bool} {n : Nat} {X : Nat → Nat} (hX : TX n X) : ∃ N, TG n (tks rl n X) N ∧ ∀ i, i ≤ N → tkp rl n X i ≤ n := by
  have ex : ∃ N, kLast (tks rl n X N) ∧ ∀ k, k < N → ¬ kLast (tks rl n X k) := by
    by_cases z : ∃ N, kLast (tks rl n X N)
    · obtain ⟨N, hN⟩ := z
      induction N using Nat.strongRecOn with
      | ind N ih =>
        by_cases y : ∃ k, k < N ∧ kLast (tks rl n X k)
        · obtain ⟨k, hk, hk2⟩ := y; exact ih k hk hk2
        · exact ⟨N, hN, fun k hk h => y ⟨k, hk, h⟩⟩
    · have := (tkp_le (rl := rl) hX (n + 1) (fun k _ h => z ⟨k, h⟩))
      omega
  obtain ⟨N, hN, hk⟩ := ex
  have hp : ∀ i, i ≤ N → i ≤ tkp rl n X i ∧ tkp rl n X i ≤ n := fun i hi => tkp_le hX i (fun k h => hk k (by omega))
  refine ⟨N, ⟨hX.1, hN, ?_, fun i hi => ⟨hk i hi, ?_⟩, fun i hi => ?_⟩, fun i hi => (hp i hi).2⟩
  · have := hp N (Nat.le_refl _); omega
  · obtain ⟨s1, s2, s3, s4⟩ := tok_sp (rl := rl) hX (hp i (by omega)).2
    have := hk i hi
    unfold kLast tks at this
    rcases s3 with e | e | e
    · exact absurd (Or.inl e) this
    · exact absurd (Or.inr e) this
    · exact e.2.2
  · obtain ⟨s1, s2, s3, s4, s5⟩ := tok_sp (rl := rl) hX (hp i hi).2
    have := (hp i hi).1
    exact ⟨by unfold tks; omega, s2, s4, s5⟩
