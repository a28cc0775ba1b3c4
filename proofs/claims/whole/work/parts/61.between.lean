/-! sets of faces as bits; between -/
theorem tb_nI {m k : Nat} (hm : m < 65536) (hk : k < 16) : ((nI m >>> (nI k &&& 31)) &&& nI 1) = nI (if m.testBit k = true then 1 else 0) := by
  have e1 : (nI k &&& 31 : Int32) = nI k := by
    have : ∀ k : Fin 16, (nI k.1 &&& 31 : Int32) = nI k.1 := by decide
    exact this ⟨k, hk⟩
  rw [e1]
  apply Int32.toBitVec_inj.1
  rw [Int32.toBitVec_and, Int32.toBitVec_shiftRight]
  have e2 : (nI k).toBitVec.smod 32 = BitVec.ofNat 32 k := by
    have : ∀ k : Fin 16, (nI k.1).toBitVec.smod 32 = BitVec.ofNat 32 k.1 := by decide
    exact this ⟨k, hk⟩
  rw [e2]
  have e3 : (nI m).toBitVec = BitVec.ofNat 32 m := rfl
  rw [e3, BitVec.sshiftRight_eq', BitVec.sshiftRight_eq_of_msb_false (by rw [BitVec.msb_eq_decide]; simp; omega)]
  apply BitVec.eq_of_toNat_eq
  rw [BitVec.toNat_and, BitVec.toNat_ushiftRight, BitVec.toNat_ofNat, BitVec.toNat_ofNat, Nat.mod_eq_of_lt (by omega), Nat.mod_eq_of_lt (by omega)]
  have e4 : (nI 1).toBitVec.toNat = 1 := rfl
  rw [e4, Nat.and_one_is_mod]
  have e5 : m.testBit k = decide (m >>> k % 2 = 1) := by
    rw [Nat.testBit, Nat.and_comm, Nat.and_one_is_mod]
    have : m >>> k % 2 < 2 := Nat.mod_lt _ (by omega)
    by_cases c : m >>> k % 2 = 1
    · simp [c]
    · have : m >>> k % 2 = 0 := by omega
      simp [this]
  rw [e5]
  have : m >>> k % 2 < 2 := Nat.mod_lt _ (by omega)
  by_cases c : m >>> k % 2 = 1
  · simp [c]; decide
  · have : m >>> k % 2 = 0 := by omega
    simp [this]; decide
theorem or_nI {a b : Nat} : (nI a ||| nI b) = nI (a ||| b) := by
  apply Int32.toBitVec_inj.1
  rw [Int32.toBitVec_or]
  exact (BitVec.ofNat_or ..).symm
theorem sh_nI {k : Nat} (hk : k < 16) : (nI 1 <<< (nI k &&& 31)) = nI (2 ^ k) := by
  have : ∀ k : Fin 16, (nI 1 <<< (nI k.1 &&& 31)) = nI (2 ^ k.1) := by decide
  exact this ⟨k, hk⟩
theorem tb_if {m k : Nat} (hm : m < 65536) (hk : k < 16) : (((nI m >>> (nI k &&& 31)) &&& nI 1) = nI 1) = (m.testBit k = true) := by
  rw [tb_nI hm hk]
  cases m.testBit k <;> simp <;> decide
theorem tb_if0 {m k : Nat} (hm : m < 65536) (hk : k < 16) : (((nI m >>> (nI k &&& 31)) &&& nI 1) = 0) = (m.testBit k = false) := by
  rw [tb_nI hm hk]
  cases m.testBit k <;> simp <;> decide
/-- friends as a number -/
def fnN (t : Tn) (f : Nat) : Nat := (tfr t f).toNatClampNeg
theorem fnN_lt {t : Tn} (hV : VT t) {f : Nat} (hf : f < tF t) : fnN t f < 2 ^ tF t ∧ tfr t f = nI (fnN t f) := by
  obtain ⟨m, h1, h2⟩ := hV.2.2.2.2.2.2.2.2.2.2.2 f hf
  have h16 : (2:Nat) ^ tF t ≤ 2 ^ 16 := Nat.pow_le_pow_right (by omega) hV.2.2.1
  unfold fnN
  rw [h2, uI_toNat (by omega)]
  exact ⟨h1, rfl⟩
/-- the set with friends of faces below n added -/
def wfN (t : Tn) (m : Nat) : Nat → Nat
  | 0 => m
  | n + 1 => if m.testBit n = true then wfN t m n ||| fnN t n else wfN t m n
theorem wfN_lt {t : Tn} (hV : VT t) {m : Nat} (hm : m < 2 ^ tF t) : ∀ n, n ≤ tF t → wfN t m n < 2 ^ tF t := by
  intro n
  induction n with
  | zero => intro _; exact hm
  | succ n ih =>
    intro hn
    unfold wfN
    cases m.testBit n
    · simpa using ih (by omega)
    · simpa using Nat.or_lt_two_pow (ih (by omega)) (fnN_lt hV (by omega)).1
theorem p16 {t : Tn} (hV : VT t) {m : Nat} (hm : m < 2 ^ tF t) : m < 65536 := by
  have h16 : (2:Nat) ^ tF t ≤ 2 ^ 16 := Nat.pow_le_pow_right (by omega) hV.2.2.1
  omega
theorem c_withFriends {t : Tn} {h : CH} (hC : CT 7 t h) (hV : VT t) {m : Nat} (hm : m < 2 ^ tF t) : f_X9_withFriends_7 (nI m) h = some (nI (wfN t m (tF t))) := by
  have hF := hV.2.2.1
  obtain ⟨-, -, -, -, -, -, -, hfr, -⟩ := hC
  have m16 := p16 hV hm
  unfold f_X9_withFriends_7
  have hd : ∀ n, n ≤ 16 → tF t ≤ n → (if n ≤ tF t then wfN t m n else wfN t m (tF t)) = wfN t m (tF t) := by
    intro n h1 h2
    by_cases c : n ≤ tF t
    · have : n = tF t := by omega
      rw [this]; simp
    · rw [if_neg c]
  refine loop_FU (fun n k => f_X9_withFriends_7_L4 (nI m) h n (nI (if k ≤ tF t then wfN t m k else wfN t m (tF t))) (nI k) = some (nI (wfN t m (tF t)))) 16 (by omega) ?_ ?_
  · intro n k hk ih
    unfold f_X9_withFriends_7_L4
    rw [if_pos (by rw [uI_lt (by omega) (by omega)]; exact hk), jn_eq]
    simp only [tb_if m16 hk]
    rw [rdA_nI hk (by omega), hfr k hk, uI_add]
    by_cases c : k < tF t
    · rw [(fnN_lt hV c).2, or_nI]
      rw [if_pos (show k + 1 ≤ tF t by omega)] at ih
      rw [if_pos (show k ≤ tF t by omega)]
      rw [wfN] at ih
      cases h1 : m.testBit k
      · rw [h1] at ih; simpa using ih
      · rw [h1] at ih; simpa using ih
    · have z : m.testBit k = false := Nat.testBit_lt_two_pow (Nat.lt_of_lt_of_le hm (Nat.pow_le_pow_right (by omega) (by omega)))
      rw [z]
      simp only [Bool.false_eq_true, if_false]
      rw [hd k (by omega) (by omega)]
      rw [if_neg (by omega)] at ih
      exact ih
  · intro n
    unfold f_X9_withFriends_7_L4
    rw [if_neg (by rw [uI_lt (by omega) (by omega)]; omega), hd 16 (by omega) hF]
theorem m_withFriends {bk : Nat} {t : Tn} {h : CH} (hM : MT bk t h) (hV : VT t) {m : Nat} (hm : m < 2 ^ tF t) (x2 x4 : Int32) (K : Int32 → Option Int32) : f_X12_between_L39 x2 (nI m) x4 h K FU (nI m) (nI 0) = K (nI (wfN t m (tF t))) := by
  have hF := hV.2.2.1
  have hM0 := hM
  obtain ⟨c0, c1, -, -, -, -, -, -, -, hfr, -⟩ := hM
  have m16 := p16 hV hm
  refine loop_FU (fun n k => f_X12_between_L39 x2 (nI m) x4 h K n (nI (wfN t m k)) (nI k) = K (nI (wfN t m (tF t)))) (tF t) (by omega) ?_ ?_
  · intro n k hk ih
    unfold f_X12_between_L39
    rw [m_many hM0, clp_some, if_pos (by rw [uI_lt (by omega) (by omega)]; exact hk), jn_eq, c1]
    simp only [tb_if m16 (show k < 16 by omega)]
    rw [uI_mul, uI_add, rdA_nI (by omega) (by omega), hfr k hk, uI_add, (fnN_lt hV hk).2, or_nI]
    rw [wfN] at ih
    have z : (nI (wfN t m k) ||| nI 0) = nI (wfN t m k) := by rw [or_nI, Nat.or_zero]
    rw [z]
    cases h1 : m.testBit k
    · rw [h1] at ih; simpa using ih
    · rw [h1] at ih; simpa using ih
  · intro n
    unfold f_X12_between_L39
    rw [m_many hM0, clp_some, if_neg (by rw [uI_lt (by omega) (by omega)]; omega)]
theorem wfN_mono (t : Tn) (m i : Nat) (hi : m.testBit i = true) : ∀ n, (wfN t m n).testBit i = true := by
  intro n
  induction n with
  | zero => exact hi
  | succ n ih =>
    unfold wfN
    cases m.testBit n
    · simpa using ih
    · simp [ih]
def cb (m : Nat) : Nat → Nat
  | 0 => 0
  | n + 1 => cb m n + (if m.testBit n = true then 1 else 0)
theorem cb_le (m : Nat) : ∀ n, cb m n ≤ n := by
  intro n
  induction n with
  | zero => exact Nat.le_refl _
  | succ n ih => unfold cb; split <;> omega
theorem cb_mono {m m' : Nat} (h : ∀ i, m.testBit i = true → m'.testBit i = true) : ∀ n, cb m n ≤ cb m' n := by
  intro n
  induction n with
  | zero => exact Nat.le_refl _
  | succ n ih =>
    unfold cb
    by_cases c : m.testBit n = true
    · rw [if_pos c, if_pos (h n c)]; omega
    · rw [if_neg c]; omega
theorem cb_strict {m m' : Nat} (h : ∀ i, m.testBit i = true → m'.testBit i = true) {j : Nat} (h1 : m.testBit j = false) (h2 : m'.testBit j = true) : ∀ n, j < n → cb m n < cb m' n := by
  intro n
  induction n with
  | zero => intro h; omega
  | succ n ih =>
    intro hn
    unfold cb
    by_cases e : j = n
    · subst e
      have := cb_mono h j
      rw [h1, h2]
      simp
      omega
    · have := ih (by omega)
      by_cases c : m.testBit n = true
      · rw [if_pos c, if_pos (h n c)]; omega
      · rw [if_neg c]; omega
theorem cb_full {m : Nat} : ∀ n, n ≤ cb m n → ∀ i, i < n → m.testBit i = true := by
  intro n
  induction n with
  | zero => intro _ i hi; omega
  | succ n ih =>
    intro hn i hi
    unfold cb at hn
    have l := cb_le m n
    by_cases c : m.testBit n = true
    · rw [if_pos c] at hn
      by_cases e : i = n
      · rw [e]; exact c
      · exact ih (by omega) i (by omega)
    · rw [if_neg c] at hn; omega
def bwL (t : Tn) (y : Nat) : Nat → Nat → Nat → Int32
  | 0, _, _ => -1
  | n + 1, m, k => if m.testBit y = true then nI k else bwL t y n (wfN t m (tF t)) (k + 1)
theorem bwL_fix {t : Tn} {y m : Nat} (h1 : m.testBit y = false) (h2 : wfN t m (tF t) = m) : ∀ n k, bwL t y n m k = -1 := by
  intro n
  induction n with
  | zero => intro k; rfl
  | succ n ih => intro k; unfold bwL; rw [h1, h2]; simpa using ih (k + 1)
theorem c_steps {t : Tn} {h : CH} (hC : CT 7 t h) (hV : VT t) {y : Nat} (hy : y < tF t) : ∀ r n k m, r < n → r + k = 16 → m < 2 ^ tF t → f_X9_steps_7_L7 (nI y) h n (nI m) (nI k) = some (bwL t y r m k) := by
  have hF := hV.2.2.1
  intro r
  induction r with
  | zero =>
    intro n k m hn hk hm
    obtain ⟨n, rfl⟩ : ∃ z, n = z + 1 := ⟨n - 1, by omega⟩
    unfold f_X9_steps_7_L7
    rw [if_neg (by rw [uI_lt (by omega) (by omega)]; omega)]
    rfl
  | succ r ih =>
    intro n k m hn hk hm
    obtain ⟨n, rfl⟩ : ∃ z, n = z + 1 := ⟨n - 1, by omega⟩
    unfold f_X9_steps_7_L7 bwL
    rw [if_pos (by rw [uI_lt (by omega) (by omega)]; omega), c_withFriends hC hV hm, clp_some, uI_add]
    simp only [tb_if (p16 hV hm) (show y < 16 by omega)]
    rw [ih n (k + 1) _ (by omega) (by omega) (wfN_lt hV hm _ (Nat.le_refl _))]
    cases m.testBit y <;> rfl
theorem m_steps {bk : Nat} {t : Tn} {h : CH} (hM : MT bk t h) (hV : VT t) {y : Nat} (hy : y < tF t) : ∀ r n k m, r < n → k + r ≤ 100 → m < 2 ^ tF t → tF t ≤ cb m (tF t) + r → f_X12_between_L25 (nI y) h n (nI m) (nI k) = some (bwL t y (r + 1) m k) := by
  have hF := hV.2.2.1
  intro r
  induction r with
  | zero =>
    intro n k m hn hk hm hc
    obtain ⟨n, rfl⟩ : ∃ z, n = z + 1 := ⟨n - 1, by omega⟩
    unfold f_X12_between_L25 bwL
    have : m.testBit y = true := cb_full (tF t) (by omega) y hy
    simp only [tb_if0 (p16 hV hm) (show y < 16 by omega), this]
    rfl
  | succ r ih =>
    intro n k m hn hk hm hc
    obtain ⟨n, rfl⟩ : ∃ z, n = z + 1 := ⟨n - 1, by omega⟩
    unfold f_X12_between_L25 bwL
    simp only [tb_if0 (p16 hV hm) (show y < 16 by omega)]
    cases h1 : m.testBit y
    · rw [if_pos rfl, m_withFriends hM hV hm]
      have l := wfN_lt hV hm _ (Nat.le_refl _)
      have q1 := p16 hV hm
      have q2 := p16 hV l
      simp only [uI_inj (show wfN t m (tF t) < 2147483648 by omega) (show m < 2147483648 by omega)]
      simp only [Bool.false_eq_true, if_false]
      by_cases c : wfN t m (tF t) = m
      · rw [if_pos c, c, bwL_fix h1 c]
      · rw [if_neg c, uI_add]
        refine ih n (k + 1) _ (by omega) (by omega) l ?_
        have mono : ∀ i, m.testBit i = true → (wfN t m (tF t)).testBit i = true := fun i hi => wfN_mono t m i hi _
        have ex : ∃ j, j < tF t ∧ m.testBit j = false ∧ (wfN t m (tF t)).testBit j = true := by
          refine Classical.byContradiction fun no => c ?_
          apply Nat.eq_of_testBit_eq
          intro i
          by_cases hi : i < tF t
          · cases e1 : m.testBit i
            · cases e2 : (wfN t m (tF t)).testBit i
              · rfl
              · exact absurd ⟨i, hi, e1, e2⟩ no
            · exact mono i e1
          · have pw : (2:Nat) ^ tF t ≤ 2 ^ i := Nat.pow_le_pow_right (by omega) (by omega)
            rw [Nat.testBit_lt_two_pow (by omega), Nat.testBit_lt_two_pow (by omega)]
        obtain ⟨j, j1, j2, j3⟩ := ex
        have := cb_strict mono j2 j3 (tF t) j1
        omega
    · rfl
def btw (t : Tn) (x y : Int32) : Int32 := if isF (tF t) x = true then if isF (tF t) y = true then bwL t y.toNatClampNeg 16 (2 ^ x.toNatClampNeg) 0 else -1 else -1
theorem c_between {t : Tn} {h : CH} (x y : Int32) (hC : CT 7 t h) (hV : VT t) : f_X11_between x y h = some (btw t x y) := by
  have hF := hV.2.2.1
  unfold f_X11_between btw
  rw [c_has x hC.2.2.1 hF, clp_some, ifB, c_has y hC.2.2.1 hF, clp_some, ifB]
  cases hx : isF (tF t) x
  · rfl
  cases hy : isF (tF t) y
  · rfl
  obtain ⟨i, hi, rfl⟩ := isF_of hx (by omega)
  obtain ⟨j, hj, rfl⟩ := isF_of hy (by omega)
  simp only [if_true]
  rw [uI_toNat (by omega), uI_toNat (by omega)]
  unfold f_X9_steps_7
  rw [sh_nI (by omega), c_steps hC hV hj 16 FU 0 _ (by unfold FU; omega) (by omega) (Nat.pow_lt_pow_right (by omega) hi), clp_some]
theorem m_between {bk : Nat} {t : Tn} {h : CH} (x y : Int32) (hM : MT bk t h) (hV : VT t) : f_X12_between x y h = some (btw t x y) := by
  have hF := hV.2.2.1
  unfold f_X12_between btw
  rw [m_isFace hM hV x, clp_some, ifB, m_isFace hM hV y, clp_some, ifB]
  cases hx : isF (tF t) x
  · rfl
  cases hy : isF (tF t) y
  · rfl
  obtain ⟨i, hi, rfl⟩ := isF_of hx (by omega)
  obtain ⟨j, hj, rfl⟩ := isF_of hy (by omega)
  simp only [if_true]
  rw [uI_toNat (by omega), uI_toNat (by omega), sh_nI (by omega)]
  refine m_steps hM hV hj 15 FU 0 _ (by unfold FU; omega) (by omega) (Nat.pow_lt_pow_right (by omega) hi) ?_
  have := cb_strict (m := 0) (m' := 2 ^ i) (fun k hk => by simp at hk) (j := i) (by simp) (by simp) (tF t) hi
  omega
