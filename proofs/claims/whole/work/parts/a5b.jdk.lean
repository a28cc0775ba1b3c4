/-! making: the members of String that the words are read by -/
def RJ0 : String := "java/lang/String"
def RJ1 : String := "java/lang/StringLatin1"
def RJ3 : String := "jdk/internal/util/Preconditions"
abbrev cJ0_length_8abf5 : ByteArray := prog_16_method_54_code
def yJ0_length_8abf5 : MethodName := ⟨RJ0, "length", "()I"⟩
abbrev cJ0_charAt_5068e : ByteArray := prog_16_method_56_code
def yJ0_charAt_5068e : MethodName := ⟨RJ0, "charAt", "(I)C"⟩
abbrev cJ0_coder_7d493 : ByteArray := prog_16_method_152_code
def yJ0_coder_7d493 : MethodName := ⟨RJ0, "coder", "()B"⟩
abbrev cJ0_isLatin1_aae02 : ByteArray := prog_16_method_154_code
def yJ0_isLatin1_aae02 : MethodName := ⟨RJ0, "isLatin1", "()Z"⟩
abbrev cJ0_checkIndex_df160 : ByteArray := prog_16_method_155_code
def yJ0_checkIndex_df160 : MethodName := ⟨RJ0, "checkIndex", "(II)V"⟩
abbrev cJ1_charAt_3b067 : ByteArray := prog_17_method_2_code
def yJ1_charAt_3b067 : MethodName := ⟨RJ1, "charAt", "([BI)C"⟩
abbrev cJ3_checkIndex_8e157 : ByteArray := prog_20_method_11_code
def yJ3_checkIndex_8e157 : MethodName := ⟨RJ3, "checkIndex", "(IILjava/util/function/BiFunction;)I"⟩
theorem dJ0_length_8abf5_0 : decode cJ0_length_8abf5 0 = .ok (.aload_n 0, 1) := by decide +kernel
theorem dJ0_length_8abf5_1 : decode cJ0_length_8abf5 1 = .ok (.getfield 9, 3) := by decide +kernel
theorem dJ0_length_8abf5_4 : decode cJ0_length_8abf5 4 = .ok (.arraylength, 1) := by decide +kernel
theorem dJ0_length_8abf5_5 : decode cJ0_length_8abf5 5 = .ok (.aload_n 0, 1) := by decide +kernel
theorem dJ0_length_8abf5_6 : decode cJ0_length_8abf5 6 = .ok (.invokevirtual 335, 3) := by decide +kernel
theorem dJ0_length_8abf5_9 : decode cJ0_length_8abf5 9 = .ok (.ishr, 1) := by decide +kernel
theorem dJ0_length_8abf5_10 : decode cJ0_length_8abf5 10 = .ok (.ireturn, 1) := by decide +kernel
theorem dJ0_charAt_5068e_0 : decode cJ0_charAt_5068e 0 = .ok (.aload_n 0, 1) := by decide +kernel
theorem dJ0_charAt_5068e_1 : decode cJ0_charAt_5068e 1 = .ok (.invokevirtual 492, 3) := by decide +kernel
theorem dJ0_charAt_5068e_4 : decode cJ0_charAt_5068e 4 = .ok (.ifCond .eq 12, 3) := by decide +kernel
theorem dJ0_charAt_5068e_7 : decode cJ0_charAt_5068e 7 = .ok (.aload_n 0, 1) := by decide +kernel
theorem dJ0_charAt_5068e_8 : decode cJ0_charAt_5068e 8 = .ok (.getfield 9, 3) := by decide +kernel
theorem dJ0_charAt_5068e_11 : decode cJ0_charAt_5068e 11 = .ok (.iload_n 1, 1) := by decide +kernel
theorem dJ0_charAt_5068e_12 : decode cJ0_charAt_5068e 12 = .ok (.invokestatic 495, 3) := by decide +kernel
theorem dJ0_charAt_5068e_15 : decode cJ0_charAt_5068e 15 = .ok (.ireturn, 1) := by decide +kernel
theorem dJ0_charAt_5068e_16 : decode cJ0_charAt_5068e 16 = .ok (.aload_n 0, 1) := by decide +kernel
theorem dJ0_charAt_5068e_17 : decode cJ0_charAt_5068e 17 = .ok (.getfield 9, 3) := by decide +kernel
theorem dJ0_charAt_5068e_20 : decode cJ0_charAt_5068e 20 = .ok (.iload_n 1, 1) := by decide +kernel
theorem dJ0_charAt_5068e_21 : decode cJ0_charAt_5068e 21 = .ok (.invokestatic 498, 3) := by decide +kernel
theorem dJ0_charAt_5068e_24 : decode cJ0_charAt_5068e 24 = .ok (.ireturn, 1) := by decide +kernel
theorem dJ0_coder_7d493_0 : decode cJ0_coder_7d493 0 = .ok (.getstatic 38, 3) := by decide +kernel
theorem dJ0_coder_7d493_3 : decode cJ0_coder_7d493 3 = .ok (.ifCond .eq 10, 3) := by decide +kernel
theorem dJ0_coder_7d493_6 : decode cJ0_coder_7d493 6 = .ok (.aload_n 0, 1) := by decide +kernel
theorem dJ0_coder_7d493_7 : decode cJ0_coder_7d493 7 = .ok (.getfield 15, 3) := by decide +kernel
theorem dJ0_coder_7d493_10 : decode cJ0_coder_7d493 10 = .ok (.goto 4, 3) := by decide +kernel
theorem dJ0_coder_7d493_13 : decode cJ0_coder_7d493 13 = .ok (.iconst 1, 1) := by decide +kernel
theorem dJ0_coder_7d493_14 : decode cJ0_coder_7d493 14 = .ok (.ireturn, 1) := by decide +kernel
theorem dJ0_isLatin1_aae02_0 : decode cJ0_isLatin1_aae02 0 = .ok (.getstatic 38, 3) := by decide +kernel
theorem dJ0_isLatin1_aae02_3 : decode cJ0_isLatin1_aae02 3 = .ok (.ifCond .eq 14, 3) := by decide +kernel
theorem dJ0_isLatin1_aae02_6 : decode cJ0_isLatin1_aae02 6 = .ok (.aload_n 0, 1) := by decide +kernel
theorem dJ0_isLatin1_aae02_7 : decode cJ0_isLatin1_aae02 7 = .ok (.getfield 15, 3) := by decide +kernel
theorem dJ0_isLatin1_aae02_10 : decode cJ0_isLatin1_aae02 10 = .ok (.ifCond .ne 7, 3) := by decide +kernel
theorem dJ0_isLatin1_aae02_13 : decode cJ0_isLatin1_aae02 13 = .ok (.iconst 1, 1) := by decide +kernel
theorem dJ0_isLatin1_aae02_14 : decode cJ0_isLatin1_aae02 14 = .ok (.goto 4, 3) := by decide +kernel
theorem dJ0_isLatin1_aae02_17 : decode cJ0_isLatin1_aae02 17 = .ok (.iconst 0, 1) := by decide +kernel
theorem dJ0_isLatin1_aae02_18 : decode cJ0_isLatin1_aae02 18 = .ok (.ireturn, 1) := by decide +kernel
theorem dJ0_checkIndex_df160_0 : decode cJ0_checkIndex_df160 0 = .ok (.iload_n 0, 1) := by decide +kernel
theorem dJ0_checkIndex_df160_1 : decode cJ0_checkIndex_df160 1 = .ok (.iload_n 1, 1) := by decide +kernel
theorem dJ0_checkIndex_df160_2 : decode cJ0_checkIndex_df160 2 = .ok (.getstatic 1053, 3) := by decide +kernel
theorem dJ0_checkIndex_df160_5 : decode cJ0_checkIndex_df160 5 = .ok (.invokestatic 1059, 3) := by decide +kernel
theorem dJ0_checkIndex_df160_8 : decode cJ0_checkIndex_df160 8 = .ok (.pop, 1) := by decide +kernel
theorem dJ0_checkIndex_df160_9 : decode cJ0_checkIndex_df160 9 = .ok (.return_, 1) := by decide +kernel
theorem dJ1_charAt_3b067_0 : decode cJ1_charAt_3b067 0 = .ok (.iload_n 1, 1) := by decide +kernel
theorem dJ1_charAt_3b067_1 : decode cJ1_charAt_3b067 1 = .ok (.aload_n 0, 1) := by decide +kernel
theorem dJ1_charAt_3b067_2 : decode cJ1_charAt_3b067 2 = .ok (.arraylength, 1) := by decide +kernel
theorem dJ1_charAt_3b067_3 : decode cJ1_charAt_3b067 3 = .ok (.invokestatic 9, 3) := by decide +kernel
theorem dJ1_charAt_3b067_6 : decode cJ1_charAt_3b067 6 = .ok (.aload_n 0, 1) := by decide +kernel
theorem dJ1_charAt_3b067_7 : decode cJ1_charAt_3b067 7 = .ok (.iload_n 1, 1) := by decide +kernel
theorem dJ1_charAt_3b067_8 : decode cJ1_charAt_3b067 8 = .ok (.baload, 1) := by decide +kernel
theorem dJ1_charAt_3b067_9 : decode cJ1_charAt_3b067 9 = .ok (.sipush 255, 3) := by decide +kernel
theorem dJ1_charAt_3b067_12 : decode cJ1_charAt_3b067 12 = .ok (.iand, 1) := by decide +kernel
theorem dJ1_charAt_3b067_13 : decode cJ1_charAt_3b067 13 = .ok (.i2c, 1) := by decide +kernel
theorem dJ1_charAt_3b067_14 : decode cJ1_charAt_3b067 14 = .ok (.ireturn, 1) := by decide +kernel
theorem dJ3_checkIndex_8e157_0 : decode cJ3_checkIndex_8e157 0 = .ok (.iload_n 0, 1) := by decide +kernel
theorem dJ3_checkIndex_8e157_1 : decode cJ3_checkIndex_8e157 1 = .ok (.ifCond .lt 8, 3) := by decide +kernel
theorem dJ3_checkIndex_8e157_4 : decode cJ3_checkIndex_8e157 4 = .ok (.iload_n 0, 1) := by decide +kernel
theorem dJ3_checkIndex_8e157_5 : decode cJ3_checkIndex_8e157 5 = .ok (.iload_n 1, 1) := by decide +kernel
theorem dJ3_checkIndex_8e157_6 : decode cJ3_checkIndex_8e157 6 = .ok (.if_icmp .lt 10, 3) := by decide +kernel
theorem dJ3_checkIndex_8e157_9 : decode cJ3_checkIndex_8e157 9 = .ok (.aload_n 2, 1) := by decide +kernel
theorem dJ3_checkIndex_8e157_10 : decode cJ3_checkIndex_8e157 10 = .ok (.iload_n 0, 1) := by decide +kernel
theorem dJ3_checkIndex_8e157_11 : decode cJ3_checkIndex_8e157 11 = .ok (.iload_n 1, 1) := by decide +kernel
theorem dJ3_checkIndex_8e157_12 : decode cJ3_checkIndex_8e157 12 = .ok (.invokestatic 95, 3) := by decide +kernel
theorem dJ3_checkIndex_8e157_15 : decode cJ3_checkIndex_8e157 15 = .ok (.athrow, 1) := by decide +kernel
theorem dJ3_checkIndex_8e157_16 : decode cJ3_checkIndex_8e157 16 = .ok (.iload_n 0, 1) := by decide +kernel
theorem dJ3_checkIndex_8e157_17 : decode cJ3_checkIndex_8e157 17 = .ok (.ireturn, 1) := by decide +kernel
theorem lsX8_64 : LV RX8 64 yJ0_length_8abf5 cJ0_length_8abf5 1 (some .int) 0 := ⟨ts_all _ [154, 155, 156, 122, 157] (by decide +kernel) (by decide +kernel), by decide +kernel, by decide +kernel⟩
theorem lsX8_69 : LV RX8 69 yJ0_charAt_5068e cJ0_charAt_5068e 2 (some .char) 1 := ⟨ts_all _ [164, 165, 166, 122, 167] (by decide +kernel) (by decide +kernel), by decide +kernel, by decide +kernel⟩
theorem lsJ0_335 : LV RJ0 335 yJ0_coder_7d493 cJ0_coder_7d493 1 (some .byte) 0 := ⟨ts_all _ [158, 159, 160, 122, 161] (by decide +kernel) (by decide +kernel), by decide +kernel, by decide +kernel⟩
theorem lsJ0_492 : LV RJ0 492 yJ0_isLatin1_aae02 cJ0_isLatin1_aae02 1 (some .boolean) 0 := ⟨ts_all _ [168, 169, 170, 122, 171] (by decide +kernel) (by decide +kernel), by decide +kernel, by decide +kernel⟩
def LSj (own : String) (idx : Nat) (y : MethodName) (b : ByteArray) (mL : Nat) (ret : Option FieldType) (np : Nat) : Prop := (∀ w ∈ ([.methodLink own idx y, .static y, .initialized y.cls, .code y b mL ret] : List Cond), w ∈ TS) ∧ (y.cls ≠ "java/lang/invoke/MethodHandle" ∧ y.cls ≠ "java/lang/invoke/VarHandle") ∧ (parseMethodDescriptor y.desc).map (fun d => d.parameters.length) = some np
theorem lsJ0_495 : LSj RJ0 495 yJ1_charAt_3b067 cJ1_charAt_3b067 2 (some .char) 2 := ⟨ts_all _ [172, 173, 123, 174] (by decide +kernel) (by decide +kernel), by decide +kernel, by decide +kernel⟩
theorem lsJ1_9 : LSj RJ1 9 yJ0_checkIndex_df160 cJ0_checkIndex_df160 2 none 2 := ⟨ts_all _ [175, 176, 122, 177] (by decide +kernel) (by decide +kernel), by decide +kernel, by decide +kernel⟩
theorem lsJ0_1059 : LSj RJ0 1059 yJ3_checkIndex_8e157 cJ3_checkIndex_8e157 3 (some .int) 3 := ⟨ts_all _ [180, 181, 124, 182] (by decide +kernel) (by decide +kernel), by decide +kernel, by decide +kernel⟩
theorem ljX8_73 : LSj RX8 73 yX8_withLetter cX8_withLetter 3 (some .long) 2 := ⟨ts_all _ [202, 203, 121, 204] (by decide +kernel) (by decide +kernel), by decide +kernel, by decide +kernel⟩
theorem fjJ0_9 : Cond.fieldLink RJ0 9 "java/lang/String" "value" "[B" ∈ TS := ts_of 2057 (by decide +kernel) (by decide +kernel)
theorem fjJ0_15 : Cond.fieldLink RJ0 15 "java/lang/String" "coder" "B" ∈ TS := ts_of 2058 (by decide +kernel) (by decide +kernel)
theorem fjJ0_38 : Cond.fieldLink RJ0 38 "java/lang/String" "COMPACT_STRINGS" "Z" ∈ TS := ts_of 162 (by decide +kernel) (by decide +kernel)
theorem fjJ0_1053 : Cond.fieldLink RJ0 1053 "jdk/internal/util/Preconditions" "SIOOBE_FORMATTER" "Ljava/util/function/BiFunction;" ∈ TS := ts_of 178 (by decide +kernel) (by decide +kernel)
theorem kjX8_116 : Cond.constantLong RX8 116 32 ∈ TS := ts_of 205 (by decide +kernel) (by decide +kernel)
def FF : Nat → Prop := fun _ => False
def SW (A : Nat → Prop) (adK adV : Nat → Nat) (U : State) : Prop := vk_S 1 [192] [wby] adK adV A U U.heap ∧ va_Z "java/lang/String" "COMPACT_STRINGS" "Z" (.int 1) A U U.heap ∧ va_Zq "jdk/internal/util/Preconditions" "SIOOBE_FORMATTER" "Ljava/util/function/BiFunction;" A U U.heap
theorem SW.go {A : Nat → Prop} {adK adV : Nat → Nat} {u U : State} (hal : u.vm.Alike U.vm) (hq : ∀ a : Nat, a < u.heap.size → ¬ A a → U.heap[a]? = u.heap[a]?) (h : SW A adK adV u) : SW FF adK adV U :=
  ⟨((h.1.moved hal).kept hq).narrow (fun _ z => z.elim), ((h.2.1.moved hal).kept hq).narrow (fun _ z => z.elim), ((h.2.2.moved hal).kept hq).narrow (fun _ z => z.elim)⟩
/-- a member's contract: the heap stays -/
def MJ (y : MethodName) (b : ByteArray) (n : Nat) (ret : Option FieldType) (d : Nat) (As : (Nat → Nat) → (Nat → Nat) → List Value) (rv : Option Value) : Prop :=
  ∀ (l : Launch) (adK adV : Nat → Nat) (H0 : Heap), Met l y (Cond.code y b n ret :: TS) { frames := d, cells := 0, slots := 0, locals := 40 * d } (va_Pc (As adK adV) (fun S => S.heap = H0 ∧ SW FF adK adV S)) (fun _ st oc t => (oc = .returned rv ∧ t.heap = H0) ∧ va_F FF st t) 0 0 FF
theorem mj_of {y : MethodName} {b : ByteArray} {n : Nat} {ret : Option FieldType} {d : Nat} {As : (Nat → Nat) → (Nat → Nat) → List Value} {rv : Option Value} (own : String) (hy : plainName y.cls = true) (hown : y.cls = own) (hfit : ∀ k v, (lg_sl (As k v)).length ≤ n)
    (body : ∀ (p : Program) (l : Launch) (e : Env) (R : Room) (s : State) (m : MethodId) (args : Array Value) (below : List Frame) (meth : Method) (c : Code) (adK adV : Nat → Nat) (ls0 : Array Slot), CallFix p m c b n s args TS own → SW FF adK adV s → d ≤ R.frames → 40 * d ≤ R.locals → meth.sig.returnType = ret → meth.locks = false → lv_has ls0 c.maxLocals (lv_args 0 (As adK adV)) →
      W p l e R s m args below meth c s.heap [] 0 0 (MQ below (fun _ st oc t => (oc = .returned rv ∧ t.heap = s.heap) ∧ va_F FF st t) args s 0 0 FF) (F0 m 0 ls0 [])) : MJ y b n ret d As rv := by
  intro l adK adV H0
  refine Met.ofW (cc := b) (maxL := n) (ret := ret) hy rfl ?_
  intro p e s m args below meth c s₁ B hml hv
  obtain ⟨rfl, hH, hF⟩ := hv
  have hx := B.exec
  have hb := B.bytes
  have hr := B.returns
  have hts0 := atoms_spec (ws := Cond.code y b n ret :: TS) B.pre
  have hts : ∀ w ∈ TS, w.before (As adK adV).toArray s = true := fun w h => hts0 w (List.mem_cons_of_mem _ h)
  have hcls : s.vm.findClass own = some m.cls := by rw [← hown]; exact findClass_of_methodNamed B.named
  have hlocks := B.notSynchronized
  have hl := lv_entry (As adK adV) (n := n) (hfit adK adV)
  rw [lg_entry_eq]
  generalize (lg_sl (As adK adV) ++ List.replicate (n - (lg_sl (As adK adV)).length) Slot.unset).toArray = ls at hl ⊢
  have hl2 : lv_has ls c.maxLocals (lv_args 0 (As adK adV)) := by rw [hml]; exact hl
  subst hH
  exact body p l e (headSpec (Cond.code y b n ret :: TS) { frames := d, cells := 0, slots := 0, locals := 40 * d }).room s m (As adK adV).toArray below meth c adK adV ls ⟨hx, hb, hml, hcls, hts⟩ hF (Nat.le_refl _) (Nat.le_refl _) hr hlocks hl2
theorem mj_blind {av : List Value} {H0 : Heap} {adK adV : Nat → Nat} : FrameBlind (va_Pc av (fun S => S.heap = H0 ∧ SW FF adK adV S)) := by
  intro a S g mk q
  obtain ⟨q0, q1, qF⟩ := q
  exact ⟨q0, q1, SW.go (u := S) (U := S.calling g mk a) (Vm.Alike.refl S.vm) (fun _ _ _ => rfl) qF⟩
section JDK
variable {p : Program} {l : Launch} {e : Env} {R : Room} {s : State} {m : MethodId} {args : Array Value} {below : List Frame} {meth : Method} {c : Code} {H : Heap} {locs : List Loc} {cells slots : Nat} {Q : State → Prop}
variable {cc : ByteArray} {pc : Nat} {ls : Array Slot} {A : Nat → Prop}
theorem j_callV {own : String} {nL idx np mL d : Nat} {y : MethodName} {b : ByteArray} {ret : Option FieldType} {As : (Nat → Nat) → (Nat → Nat) → List Value} {rv : Option Value} {av stk st : List Value} {adK adV : Nat → Nat} (S : CallFix p m c cc nL s args TS own) (hF : SW A adK adV s) (hS : va_S A s.heap H locs) (hL : LV own idx y b mL ret np) (hM : MJ y b mL ret d As rv) (hd : decode cc pc = .ok (.invokevirtual idx, 3)) (hcl : y.cls = "java/lang/String") (hAs : As adK adV = .ref (adK 0) :: av) (hnp : av.length = np) (hsz : ls.size = nL) (hst : (st.map fun v => v.category).sum ≤ 8) (hs : stk = av.reverse ++ .ref (adK 0) :: st) (hfr : d + 1 ≤ R.frames) (hlo : 8 + (mL + 11) + 40 * d ≤ R.locals) (hce : cells ≤ R.cells) (hsl : slots ≤ R.slots)
    (kk : ∀ locs1, va_S A s.heap H locs1 → W p l e R s m args below meth c H locs1 cells slots Q (F0 m (pc + 3) ls (rv.toList ++ st))) : W p l e R s m args below meth c H locs cells slots Q (F0 m pc ls stk) := by
  have hts := S.2.2.2.2
  have hrec := vk_recv hF.1 (i := 0) (by decide) hS
  rw [← hcl] at hrec
  have hpre : PreV s H y.cls (adK 0) (va_Pc (As adK adV) (fun S => S.heap = H ∧ SW FF adK adV S)) av :=
    ⟨mj_blind, hrec, fun U hU hW => ⟨by rw [hAs], hU, SW.go hW.alike (fun a h1 h2 => by rw [hU]; exact hS.2.1 a h1 h2) hF⟩⟩
  refine va_callg (va_runV (g := F0 m pc ls stk) S (hM l adK adV H) (cwV np hts (ts_goodV hL) rfl rfl rfl ⟨rfl, hL.2.1.1, hL.2.1.2, hL.2.2⟩ ⟨hfr, hlo⟩) hpre rfl hnp hsz hs (lv_room hst) hd ⟨hce, hsl⟩) hS (fun q _ h => h.elim) (fun q h => h.elim) (fun t H1 locs1 ht hvm hB hS1 => ?_)
  have e : H1 = H := by rw [← ht]; exact hB
  subst e
  exact kk locs1 hS1
theorem j_callS {own : String} {nL idx np mL d : Nat} {y : MethodName} {b : ByteArray} {ret : Option FieldType} {As : (Nat → Nat) → (Nat → Nat) → List Value} {rv : Option Value} {av stk st : List Value} {adK adV : Nat → Nat} (S : CallFix p m c cc nL s args TS own) (hF : SW A adK adV s) (hS : va_S A s.heap H locs) (hL : LSj own idx y b mL ret np) (hM : MJ y b mL ret d As rv) (hd : decode cc pc = .ok (.invokestatic idx, 3)) (hAs : As adK adV = av) (hnp : av.length = np) (hsz : ls.size = nL) (hst : (st.map fun v => v.category).sum ≤ 8) (hs : stk = av.reverse ++ st) (hfr : d + 1 ≤ R.frames) (hlo : 8 + (mL + 11) + 40 * d ≤ R.locals) (hce : cells ≤ R.cells) (hsl : slots ≤ R.slots)
    (kk : ∀ locs1, va_S A s.heap H locs1 → W p l e R s m args below meth c H locs1 cells slots Q (F0 m (pc + 3) ls (rv.toList ++ st))) : W p l e R s m args below meth c H locs cells slots Q (F0 m pc ls stk) := by
  have hts := S.2.2.2.2
  have hG : GoodIn TS (va_wsS own idx y (Cond.code y b mL ret :: TS)) := by
    intro w hw
    have hm : w ∈ TS := by
      unfold va_wsS at hw
      rcases List.mem_append.mp hw with g | g
      · simp only [List.mem_cons, List.not_mem_nil, or_false] at g
        rcases g with rfl | rfl | rfl <;> exact hL.1 _ (by simp)
      · rcases List.mem_cons.mp g with g | g
        · exact hL.1 w (by rw [g]; simp)
        · exact g
    exact ⟨hm, TS_good w hm⟩
  have hpre : PreS s H (va_Pc (As adK adV) (fun S => S.heap = H ∧ SW FF adK adV S)) av :=
    ⟨mj_blind, fun U hU hW => ⟨by rw [hAs], hU, SW.go hW.alike (fun a h1 h2 => by rw [hU]; exact hS.2.1 a h1 h2) hF⟩⟩
  refine va_callg (va_runS (g := F0 m pc ls stk) S (hM l adK adV H) (va_cwS np hts hG rfl rfl rfl ⟨hL.2.1.1, hL.2.1.2, hL.2.2⟩ ⟨hfr, hlo⟩) hpre rfl hnp hsz hs (lv_room hst) hd ⟨hce, hsl⟩) hS (fun q _ h => h.elim) (fun q h => h.elim) (fun t H1 locs1 ht hvm hB hS1 => ?_)
  have e : H1 = H := by rw [← ht]; exact hB
  subst e
  exact kk locs1 hS1
end JDK
theorem mj_coder : MJ yJ0_coder_7d493 cJ0_coder_7d493 1 (some .byte) 1 (fun adK _ => [.ref (adK 0)]) (some (.int 0)) := by
  refine mj_of RJ0 (by decide +kernel) rfl (fun _ _ => Nat.le_of_ble_eq_true rfl) ?_
  intro p l e R s m args below meth c adK adV ls0 S hF hfr hlo hr hlk hl
  obtain ⟨hx, hb, hml, hown, hts⟩ := S
  refine va_gets hx hb hF.2.1 va_S.rf hown (hts _ fjJ0_38) (fun _ h => h) dJ0_coder_7d493_0 ?_
  refine lv_if_eq hx hb dJ0_coder_7d493_3 (tgt := 13) (by decide) (fun h => absurd h (by decide)) (fun _ => ?_)
  refine lv_aload_n hx hb dJ0_coder_7d493_6 rfl (lv_at hl 0 rfl) ?_
  refine vk_getf hx hb (hF.1.1 0 (by decide)).2.1 va_S.rf hown (hts _ fjJ0_15) (fun _ h => h) dJ0_coder_7d493_7 ?_
  refine lv_goto hx hb dJ0_coder_7d493_10 (tgt := 14) (by decide) ?_
  exact W.zret hx hb hr (by decide +kernel) (fun t ht hW => ⟨⟨rfl, ht⟩, va_S.rf.F ht⟩) (fun q hq => by cases hq) dJ0_coder_7d493_14 hlk
theorem mj_isLatin1 : MJ yJ0_isLatin1_aae02 cJ0_isLatin1_aae02 1 (some .boolean) 1 (fun adK _ => [.ref (adK 0)]) (some (.int 1)) := by
  refine mj_of RJ0 (by decide +kernel) rfl (fun _ _ => Nat.le_of_ble_eq_true rfl) ?_
  intro p l e R s m args below meth c adK adV ls0 S hF hfr hlo hr hlk hl
  obtain ⟨hx, hb, hml, hown, hts⟩ := S
  refine va_gets hx hb hF.2.1 va_S.rf hown (hts _ fjJ0_38) (fun _ h => h) dJ0_isLatin1_aae02_0 ?_
  refine lv_if_eq hx hb dJ0_isLatin1_aae02_3 (tgt := 17) (by decide) (fun h => absurd h (by decide)) (fun _ => ?_)
  refine lv_aload_n hx hb dJ0_isLatin1_aae02_6 rfl (lv_at hl 0 rfl) ?_
  refine vk_getf hx hb (hF.1.1 0 (by decide)).2.1 va_S.rf hown (hts _ fjJ0_15) (fun _ h => h) dJ0_isLatin1_aae02_7 ?_
  refine lv_if_ne hx hb dJ0_isLatin1_aae02_10 (tgt := 17) (by decide) (fun h => absurd rfl h) (fun _ => ?_)
  refine lv_iconst hx hb dJ0_isLatin1_aae02_13 (v := 1) (by decide) ?_
  refine lv_goto hx hb dJ0_isLatin1_aae02_14 (tgt := 18) (by decide) ?_
  exact W.zret hx hb hr (by decide +kernel) (fun t ht hW => ⟨⟨rfl, ht⟩, va_S.rf.F ht⟩) (fun q hq => by cases hq) dJ0_isLatin1_aae02_18 hlk
theorem mj_length : MJ yJ0_length_8abf5 cJ0_length_8abf5 1 (some .int) 2 (fun adK _ => [.ref (adK 0)]) (some (.int (nI 192))) := by
  refine mj_of RJ0 (by decide +kernel) rfl (fun _ _ => Nat.le_of_ble_eq_true rfl) ?_
  intro p l e R s m args below meth c adK adV ls0 S hF hfr hlo hr hlk hl
  have S0 := S
  obtain ⟨hx, hb, hml, hown, hts⟩ := S
  refine lv_aload_n hx hb dJ0_length_8abf5_0 rfl (lv_at hl 0 rfl) ?_
  refine vk_getf hx hb (hF.1.1 0 (by decide)).2.2.1 va_S.rf hown (hts _ fjJ0_9) (fun _ h => h) dJ0_length_8abf5_1 ?_
  refine va_tlen hx hb (hF.1.1 0 (by decide)).2.2.2 va_S.rf (v := nI 192) rfl dJ0_length_8abf5_4 ?_
  refine lv_aload_n hx hb dJ0_length_8abf5_5 rfl (lv_at hl 0 rfl) ?_
  refine j_callV (ret := some .byte) (av := []) (st := [.int (nI 192)]) S0 hF va_S.rf lsJ0_335 mj_coder dJ0_length_8abf5_6 rfl rfl rfl (hl.1.trans hml) (by decide) rfl (by omega) (by omega) (Nat.zero_le _) (Nat.zero_le _) (fun locs1 hS1 => ?_)
  refine lv_ishr hx hb dJ0_length_8abf5_9 ?_
  have e : nI 192 >>> ((0 : Int32) &&& 31) = nI 192 := by decide +kernel
  rw [e]
  exact W.iret hx hb hr (fun t ht hW => ⟨⟨rfl, ht⟩, hS1.F ht⟩) hS1.2.2 dJ0_length_8abf5_10 hlk
theorem mj_check3 {k n : Nat} {v : Value} (hv : v.category = 1) (hk : k < n) (hn : n < 2147483648) : MJ yJ3_checkIndex_8e157 cJ3_checkIndex_8e157 3 (some .int) 1 (fun _ _ => [.int (nI k), .int (nI n), v]) (some (.int (nI k))) := by
  refine mj_of RJ3 (by decide +kernel) rfl (fun _ _ => ?_) ?_
  · cases v <;> first | exact Nat.le_of_ble_eq_true rfl | cases hv | (simp [Value.category] at hv)
  intro p l e R s m args below meth c adK adV ls0 S hF hfr hlo hr hlk hl
  obtain ⟨hx, hb, hml, hown, hts⟩ := S
  refine lv_iload_n hx hb dJ3_checkIndex_8e157_0 rfl (lv_at hl 0 rfl) ?_
  refine lv_if_lt hx hb dJ3_checkIndex_8e157_1 (tgt := 9) (by decide) (fun h => absurd h (nI_pos (by omega))) (fun _ => ?_)
  refine lv_iload_n hx hb dJ3_checkIndex_8e157_4 rfl (lv_at hl 0 rfl) ?_
  refine lv_iload_n hx hb dJ3_checkIndex_8e157_5 rfl (lv_at hl 1 rfl) ?_
  refine lv_icmp_lt hx hb dJ3_checkIndex_8e157_6 (tgt := 16) (by decide) (fun _ => ?_) (fun h => absurd (nI_lt hk (by omega)) h)
  refine lv_iload_n hx hb dJ3_checkIndex_8e157_16 rfl (lv_at hl 0 rfl) ?_
  exact W.iret hx hb hr (fun t ht hW => ⟨⟨rfl, ht⟩, va_S.rf.F ht⟩) (fun q hq => by cases hq) dJ3_checkIndex_8e157_17 hlk
theorem mj_check0 {k n : Nat} (hk : k < n) (hn : n < 2147483648) : MJ yJ0_checkIndex_df160 cJ0_checkIndex_df160 2 none 2 (fun _ _ => [.int (nI k), .int (nI n)]) none := by
  refine mj_of RJ0 (by decide +kernel) rfl (fun _ _ => Nat.le_of_ble_eq_true rfl) ?_
  intro p l e R s m args below meth c adK adV ls0 S hF hfr hlo hr hlk hl
  have S0 := S
  obtain ⟨hx, hb, hml, hown, hts⟩ := S
  refine lv_iload_n hx hb dJ0_checkIndex_df160_0 rfl (lv_at hl 0 rfl) ?_
  refine lv_iload_n hx hb dJ0_checkIndex_df160_1 rfl (lv_at hl 1 rfl) ?_
  have go : ∀ v : Value, v.category = 1 → va_Z "jdk/internal/util/Preconditions" "SIOOBE_FORMATTER" "Ljava/util/function/BiFunction;" v FF s s.heap → W p l e R s m args below meth c s.heap [] 0 0 (MQ below (fun _ st oc t => (oc = .returned none ∧ t.heap = s.heap) ∧ va_F FF st t) args s 0 0 FF) (F0 m 2 ls0 [.int (nI n), .int (nI k)]) := by
    intro v hv hZ
    refine va_gets hx hb hZ va_S.rf hown (hts _ fjJ0_1053) (fun _ h => h) dJ0_checkIndex_df160_2 ?_
    refine j_callS (av := [.int (nI k), .int (nI n), v]) (st := []) S0 hF va_S.rf lsJ0_1059 (mj_check3 hv hk hn) dJ0_checkIndex_df160_5 rfl rfl (hl.1.trans hml) (by decide) rfl (by omega) (by omega) (Nat.zero_le _) (Nat.zero_le _) (fun locs1 hS1 => ?_)
    refine lv_pop hx hb dJ0_checkIndex_df160_8 rfl ?_
    exact W.vret hx hb hr (fun t ht hW => ⟨⟨rfl, ht⟩, hS1.F ht⟩) hS1.2.2 dJ0_checkIndex_df160_9 hlk
  rcases hF.2.2 with h | ⟨t, h⟩
  · exact go _ rfl h
  · exact go _ rfl h
theorem wby_len : wby.length = 192 := by decide +kernel
theorem wby_ok : ∀ b ∈ wby, ((b &&& 255).toUInt32 % 65536).toInt32 = b ∧ narrow .char (.int b) = .int b := by decide +kernel
theorem wby_at {k : Nat} (hk : k < 192) : ((wby.getD k 0 &&& 255).toUInt32 % 65536).toInt32 = wby.getD k 0 ∧ narrow .char (.int (wby.getD k 0)) = .int (wby.getD k 0) := by
  have h2 : k < wby.length := by rw [wby_len]; exact hk
  have e : wby.getD k 0 = wby[k] := by rw [List.getD_eq_getElem?_getD, List.getElem?_eq_getElem h2]; rfl
  rw [e]
  exact wby_ok _ (List.getElem_mem h2)
theorem mj_char1 {k : Nat} (hk : k < 192) : MJ yJ1_charAt_3b067 cJ1_charAt_3b067 2 (some .char) 3 (fun _ adV => [.ref (adV 0), .int (nI k)]) (some (.int (wby.getD k 0))) := by
  refine mj_of RJ1 (by decide +kernel) rfl (fun _ _ => Nat.le_of_ble_eq_true rfl) ?_
  intro p l e R s m args below meth c adK adV ls0 S hF hfr hlo hr hlk hl
  have S0 := S
  obtain ⟨hx, hb, hml, hown, hts⟩ := S
  refine lv_iload_n hx hb dJ1_charAt_3b067_0 rfl (lv_at hl 1 rfl) ?_
  refine lv_aload_n hx hb dJ1_charAt_3b067_1 rfl (lv_at hl 0 rfl) ?_
  refine va_tlen hx hb (hF.1.1 0 (by decide)).2.2.2 va_S.rf (v := nI 192) rfl dJ1_charAt_3b067_2 ?_
  refine j_callS (av := [.int (nI k), .int (nI 192)]) (st := []) S0 hF va_S.rf lsJ1_9 (mj_check0 hk (by decide)) dJ1_charAt_3b067_3 rfl rfl (hl.1.trans hml) (by decide) rfl (by omega) (by omega) (Nat.zero_le _) (Nat.zero_le _) (fun locs1 hS1 => ?_)
  refine lv_aload_n hx hb dJ1_charAt_3b067_6 rfl (lv_at hl 0 rfl) ?_
  refine lv_iload_n hx hb dJ1_charAt_3b067_7 rfl (lv_at hl 1 rfl) ?_
  refine va_tb hx hb (hF.1.1 0 (by decide)).2.2.2 hS1 (v := .int (wby.getD k 0)) (vp_in_nI hk (by decide)) (congrArg (fun j => Value.int (wby.getD j 0)) (nI_clamp (by omega))) dJ1_charAt_3b067_8 ?_
  refine lv_sipush hx hb dJ1_charAt_3b067_9 (v := 255) (by decide) ?_
  refine lv_iand hx hb dJ1_charAt_3b067_12 ?_
  refine lv_i2c hx hb dJ1_charAt_3b067_13 (wby_at hk).1 ?_
  exact W.zret hx hb hr (wby_at hk).2 (fun t ht hW => ⟨⟨rfl, ht⟩, hS1.F ht⟩) hS1.2.2 dJ1_charAt_3b067_14 hlk
theorem mj_charAt {k : Nat} (hk : k < 192) : MJ yJ0_charAt_5068e cJ0_charAt_5068e 2 (some .char) 4 (fun adK _ => [.ref (adK 0), .int (nI k)]) (some (.int (wby.getD k 0))) := by
  refine mj_of RJ0 (by decide +kernel) rfl (fun _ _ => Nat.le_of_ble_eq_true rfl) ?_
  intro p l e R s m args below meth c adK adV ls0 S hF hfr hlo hr hlk hl
  have S0 := S
  obtain ⟨hx, hb, hml, hown, hts⟩ := S
  refine lv_aload_n hx hb dJ0_charAt_5068e_0 rfl (lv_at hl 0 rfl) ?_
  refine j_callV (ret := some .boolean) (av := []) (st := []) S0 hF va_S.rf lsJ0_492 mj_isLatin1 dJ0_charAt_5068e_1 rfl rfl rfl (hl.1.trans hml) (by decide) rfl (by omega) (by omega) (Nat.zero_le _) (Nat.zero_le _) (fun locs1 hS1 => ?_)
  refine lv_if_eq hx hb dJ0_charAt_5068e_4 (tgt := 16) (by decide) (fun h => absurd h (by decide)) (fun _ => ?_)
  refine lv_aload_n hx hb dJ0_charAt_5068e_7 rfl (lv_at hl 0 rfl) ?_
  refine vk_getf hx hb (hF.1.1 0 (by decide)).2.2.1 hS1 hown (hts _ fjJ0_9) (fun _ h => h) dJ0_charAt_5068e_8 ?_
  refine lv_iload_n hx hb dJ0_charAt_5068e_11 rfl (lv_at hl 1 rfl) ?_
  refine j_callS (av := [.ref (adV 0), .int (nI k)]) (st := []) S0 hF hS1 lsJ0_495 (mj_char1 hk) dJ0_charAt_5068e_12 rfl rfl (hl.1.trans hml) (by decide) rfl (by omega) (by omega) (Nat.zero_le _) (Nat.zero_le _) (fun locs2 hS2 => ?_)
  exact W.zret hx hb hr (wby_at hk).2 (fun t ht hW => ⟨⟨rfl, ht⟩, hS2.F ht⟩) hS2.2.2 dJ0_charAt_5068e_15 hlk
theorem mj_letter (x0 : Int64) (x2 : Int32) : MJ yX8_withLetter cX8_withLetter 3 (some .long) 1 (fun _ _ => [.long x0, .int x2]) (some (.long (x0 * 32 + (x2 - 97 + 1).toInt64))) := by
  refine mj_of RX8 (by decide +kernel) rfl (fun _ _ => Nat.le_of_ble_eq_true rfl) ?_
  intro p l e R s m args below meth c adK adV ls0 S hF hfr hlo hr hlk hl
  obtain ⟨hx, hb, hml, hown, hts⟩ := S
  refine lv_lload_n hx hb dX8_withLetter_0 rfl (lv_at hl 0 rfl) ?_
  refine lv_ldc2 hx hb hown (hts _ kjX8_116) dX8_withLetter_1 ?_
  refine lv_lmul hx hb dX8_withLetter_4 ?_
  refine lv_iload_n hx hb dX8_withLetter_5 rfl (lv_at hl 1 rfl) ?_
  refine lv_bipush hx hb dX8_withLetter_6 (v := 97) (by decide) ?_
  refine lv_isub hx hb dX8_withLetter_8 ?_
  refine lv_iconst hx hb dX8_withLetter_9 (v := 1) (by decide) ?_
  refine lv_iadd hx hb dX8_withLetter_10 ?_
  refine lv_i2l hx hb dX8_withLetter_11 rfl ?_
  refine lv_ladd hx hb dX8_withLetter_12 ?_
  exact W.lret hx hb hr (fun t ht hW => ⟨⟨rfl, ht⟩, va_S.rf.F ht⟩) (fun q hq => by cases hq) dX8_withLetter_13 hlk
