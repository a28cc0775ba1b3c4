/-! numbers: nI n, the int of a count; what the walked functions' words do at such numbers -/
theorem clp_some {σ ρ : Type} (x : ρ) (K : ρ → Option σ) : clp (some x) K = K x := rfl
theorem cl_some {σ ρ : Type} (x : ρ) (h : CH) (K : ρ → CH → Option σ) : cl (some (x, h)) K = K x h := rfl
theorem jn_eq {σ : Type} {γ : Sort 1} (J : γ) (B : γ → Option σ) : jn J B = B J := rfl
theorem uI_toInt {k : Nat} (h : k < 2147483648) : (nI k).toInt = (k : Int) := Int32.toInt_ofNat_of_lt h
theorem uI_toNat {k : Nat} (h : k < 2147483648) : (nI k).toNatClampNeg = k := Int32.toNatClampNeg_ofNat_of_lt h
theorem uI_add (a b : Nat) : nI a + nI b = nI (a + b) := (Int32.ofNat_add a b).symm
theorem uI_mul (a b : Nat) : nI a * nI b = nI (a * b) := (Int32.ofNat_mul a b).symm
theorem uI_sub {a b : Nat} (h : b ≤ a) : nI a - nI b = nI (a - b) := (Int32.ofNat_sub a b h).symm
theorem uI_lt {a b : Nat} (ha : a < 2147483648) (hb : b < 2147483648) : (nI a < nI b) = (a < b) := by
  rw [Int32.lt_iff_toInt_lt, uI_toInt ha, uI_toInt hb]
  exact propext Int.ofNat_lt
theorem uI_inj {a b : Nat} (ha : a < 2147483648) (hb : b < 2147483648) : (nI a = nI b) = (a = b) := by
  refine propext ⟨fun e => ?_, fun e => by rw [e]⟩
  have e2 := congrArg Int32.toInt e
  rw [uI_toInt ha, uI_toInt hb] at e2
  omega
theorem uI_z : (0 : Int32) = nI 0 := rfl
theorem uI_lt0 {a : Nat} (ha : a < 2147483648) : (nI a < 0) = False := by
  rw [uI_z, uI_lt ha (by decide)]
  simp
theorem uI_0lt {a : Nat} (ha : a < 2147483648) : ((0 : Int32) < nI a) = (0 < a) := by rw [uI_z, uI_lt (by decide) ha]
theorem uI_eq0 {a : Nat} (ha : a < 2147483648) : (nI a = 0) = (a = 0) := by rw [uI_z, uI_inj ha (by decide)]
theorem uI_ne1 {a : Nat} (ha : a < 2147483648) : (nI a = -1) = False := by
  refine eq_false fun e => ?_
  have e2 := congrArg Int32.toInt e
  rw [uI_toInt ha, show (-1 : Int32).toInt = -1 from by decide] at e2
  omega
theorem n1_ne {a : Nat} (ha : a < 2147483648) : (-1 = nI a) = False := by
  refine eq_false fun e => ?_
  have := (uI_ne1 ha).mp e.symm
  exact this
theorem n1_lt {a : Nat} (ha : a < 2147483648) : ((-1 : Int32) < nI a) = True := by
  refine eq_true ?_
  rw [Int32.lt_iff_toInt_lt, uI_toInt ha, show (-1 : Int32).toInt = -1 from by decide]
  omega
theorem uI_lt1 {a : Nat} (ha : a < 2147483648) : (nI a < (-1 : Int32)) = False := by
  refine eq_false ?_
  rw [Int32.lt_iff_toInt_lt, uI_toInt ha, show (-1 : Int32).toInt = -1 from by decide]
  omega
theorem uI_div {a b : Nat} (ha : a < 2147483648) (hb : b < 2147483648) : nI a / nI b = nI (a / b) := by
  apply Int32.toInt_inj.mp
  rw [Int32.toInt_div_of_ne_right _ _ (by intro e; exact (uI_ne1 hb).mp e), uI_toInt ha, uI_toInt hb, uI_toInt (Nat.lt_of_le_of_lt (Nat.div_le_self a b) ha)]
  rw [Int.tdiv_eq_ediv_of_nonneg (Int.natCast_nonneg a)]
  exact (Int.natCast_ediv a b).symm
theorem uI_of {x : Int32} (h : ¬ x < 0) : ∃ k, k < 2147483648 ∧ x = nI k := by
  have h1 : 0 ≤ x := Int32.not_lt.mp h
  refine ⟨x.toNatClampNeg, ?_, (Int32.ofNat_toNatClampNeg x h1).symm⟩
  have := Int32.toInt_lt x
  have h2 : x.toInt.toNat = x.toNatClampNeg := Int32.toNat_toInt x
  omega
/-- an int within 0 .. n - 1 -/
theorem uI_in {x : Int32} {n : Nat} (h : ¬ x < 0) (hx : x < nI n) (hn : n < 2147483648) : ∃ k, k < n ∧ x = nI k := by
  obtain ⟨k, hk, rfl⟩ := uI_of h
  rw [uI_lt hk hn] at hx
  exact ⟨k, hx, rfl⟩
theorem inb_nI {k n : Nat} (hk : k < 2147483648) : inb (nI k) n = decide (k < n) := by
  unfold inb
  simp only [uI_lt0 hk, uI_toNat hk]
  by_cases h : k < n
  · simp [h]
  · simp [h]
theorem rdA_nI {σ : Type} {h : CH} {a N k : Nat} {K : Int32 → Option σ} (hk : k < N) (hN : N ≤ 2147483648) : rdA h a N (nI k) K = K (h.1 a k) := by
  unfold rdA
  rw [inb_nI (by omega), uI_toNat (by omega), decide_eq_true hk, if_pos rfl]
theorem rdL_nI {σ : Type} {h : CH} {a N k : Nat} {K : Int64 → Option σ} (hk : k < N) (hN : N ≤ 2147483648) : rdL h a N (nI k) K = K (h.2 a k) := by
  unfold rdL
  rw [inb_nI (by omega), uI_toNat (by omega), decide_eq_true hk, if_pos rfl]
theorem rdQ_nI {σ : Type} {b N k : Nat} {K : Nat → Option σ} (hk : k < N) (hN : N ≤ 2147483648) : rdQ b N (nI k) K = K (b + k) := by
  unfold rdQ
  rw [inb_nI (by omega), uI_toNat (by omega), decide_eq_true hk, if_pos rfl]
theorem rdO_nI {σ : Type} {a N k : Nat} {K : Option Nat → Option σ} (hk : k < N) (hN : N ≤ 2147483648) : rdO a N (nI k) K = K (RF a k) := by
  unfold rdO
  rw [inb_nI (by omega), uI_toNat (by omega), decide_eq_true hk, if_pos rfl]
theorem wrA_nI {σ : Type} {h : CH} {a N k : Nat} {v : Int32} {K : CH → Option σ} (hk : k < N) (hN : N ≤ 2147483648) : wrA h a N (nI k) v K = K (sI h a k v) := by
  unfold wrA
  rw [inb_nI (by omega), uI_toNat (by omega), decide_eq_true hk, if_pos rfl]
theorem wrB_nI {σ : Type} {h : CH} {a N k : Nat} {v : Int32} {K : CH → Option σ} (hk : k < N) (hN : N ≤ 2147483648) : wrB h a N (nI k) v K = K (sI h a k (vp_nar .byte v)) := by
  unfold wrB
  rw [inb_nI (by omega), uI_toNat (by omega), decide_eq_true hk, if_pos rfl]
theorem wrZ_nI {σ : Type} {h : CH} {a N k : Nat} {v : Int32} {K : CH → Option σ} (hk : k < N) (hN : N ≤ 2147483648) : wrZ h a N (nI k) v K = K (sI h a k (vp_nar .boolean v)) := by
  unfold wrZ
  rw [inb_nI (by omega), uI_toNat (by omega), decide_eq_true hk, if_pos rfl]
theorem wrL_nI {σ : Type} {h : CH} {a N k : Nat} {v : Int64} {K : CH → Option σ} (hk : k < N) (hN : N ≤ 2147483648) : wrL h a N (nI k) v K = K (sL h a k v) := by
  unfold wrL
  rw [inb_nI (by omega), uI_toNat (by omega), decide_eq_true hk, if_pos rfl]
theorem wrF_eq {σ : Type} {h : CH} {a k : Nat} {v : Int32} {K : CH → Option σ} : wrF h a k v K = K (sI h a k v) := rfl
theorem wrJ_eq {σ : Type} {h : CH} {a k : Nat} {v : Int64} {K : CH → Option σ} : wrJ h a k v K = K (sL h a k v) := rfl
theorem wrG_0 {σ : Type} {h : CH} {a k : Nat} {K : CH → Option σ} : wrG h a k (nI 0) K = K (sI h a k (nI 0)) := by unfold wrG; exact if_pos (Or.inl rfl)
theorem wrG_1 {σ : Type} {h : CH} {a k : Nat} {K : CH → Option σ} : wrG h a k (nI 1) K = K (sI h a k (nI 1)) := by unfold wrG; exact if_pos (Or.inr rfl)
theorem rz_0 {σ : Type} (v : σ) : rz (nI 0) v = some v := by unfold rz; exact if_pos (Or.inl rfl)
theorem rz_1 {σ : Type} (v : σ) : rz (nI 1) v = some v := by unfold rz; exact if_pos (Or.inr rfl)
theorem dvd_nI {σ : Type} {k : Nat} {o : Option σ} (hk : 0 < k) (h2 : k < 2147483648) : dvd (nI k) o = o := by
  unfold dvd
  rw [if_neg (by rw [uI_eq0 h2]; omega)]
/-- a truth as an int -/
def bI (b : Bool) : Int32 := if b then nI 1 else nI 0
theorem bI_t : bI true = nI 1 := rfl
theorem bI_f : bI false = nI 0 := rfl
theorem bI_0 (b : Bool) : (bI b = 0) = (b = false) := by cases b <;> simp [bI] <;> decide
theorem bI_ite {P : Prop} {d : Decidable P} {σ : Type} (f : Int32 → σ) : (if P then f (nI 1) else f (nI 0)) = f (bI (decide P)) := by by_cases h : P <;> simp [h, bI]
theorem wrG_b {σ : Type} {h : CH} {a k : Nat} {b : Bool} {K : CH → Option σ} : wrG h a k (bI b) K = K (sI h a k (bI b)) := by cases b; exact wrG_0; exact wrG_1
theorem rz_b {σ : Type} (b : Bool) (v : σ) : rz (bI b) v = some v := by cases b; exact rz_0 v; exact rz_1 v
/-- sums -/
def smI : Nat → (Nat → Int32) → Int32
  | 0, _ => nI 0
  | n + 1, g => smI n g + g n
theorem smI_congr {n : Nat} {f g : Nat → Int32} (h : ∀ k, k < n → f k = g k) : smI n f = smI n g := by
  induction n with
  | zero => rfl
  | succ n ih => rw [smI, smI, ih (fun k hk => h k (by omega)), h n (by omega)]
/-- loops that go up -/
theorem loop_up (G : Nat → Nat → Prop) (N : Nat) (step : ∀ n k, k < N → G n (k + 1) → G (n + 1) k) (exit : ∀ n, G (n + 1) N) : ∀ n k, k ≤ N → N < n + k → G n k := by
  intro n
  induction n with
  | zero => intro k h1 h2; omega
  | succ n ih =>
    intro k h1 h2
    by_cases e : k = N
    · subst e; exact exit n
    · exact step n k (by omega) (ih (k + 1) (by omega) (by omega))
theorem loop_FU (G : Nat → Nat → Prop) (N : Nat) (hN : N < 100000) (step : ∀ n k, k < N → G n (k + 1) → G (n + 1) k) (exit : ∀ n, G (n + 1) N) : G FU 0 :=
  loop_up G N step exit FU 0 (Nat.zero_le _) (by show N < 100000 + 0; omega)
theorem sI_1 (h : CH) (a k : Nat) (v : Int32) (b j : Nat) : (sI h a k v).1 b j = if b = a ∧ j = k then v else h.1 b j := rfl
theorem sI_2 (h : CH) (a k : Nat) (v : Int32) : (sI h a k v).2 = h.2 := rfl
theorem sL_1 (h : CH) (a k : Nat) (v : Int64) : (sL h a k v).1 = h.1 := rfl
theorem sL_2 (h : CH) (a k : Nat) (v : Int64) (b j : Nat) : (sL h a k v).2 b j = if b = a ∧ j = k then v else h.2 b j := rfl
