theorem r_iconst {σ : Type} {κ : Kx σ} {cc : ByteArray} {own : String} {nL fr lo : Nat} {T : List Nat} (C : Cx κ cc own nL fr lo T) {pc : Nat} (n : Nat) {ls : List (Nat × Value)} {st : List Value} {h : CH} {o : Option σ} {i : Int} (w : Int32) (hw : Int32.ofInt i = w) (hd : decode cc pc = .ok (.iconst i, 1)) (hn : pc + 1 = n) (k : Imp κ n ls (.int w :: st) h o) : Imp κ pc ls (st) h o := by
  obtain ⟨p, l, e, R, s, m, args, below, meth, c, D, cid, ad, lv, A, cells, slots, Q⟩ := κ
  obtain ⟨⟨hx, hb, hml, hown, hts⟩, -⟩ := C
  subst hn
  intro v hv H locs ls0 hP hD hS hl
  exact lv_iconst hx hb hd hw (k v hv H locs ls0 hP hD hS hl)
theorem r_bipush {σ : Type} {κ : Kx σ} {cc : ByteArray} {own : String} {nL fr lo : Nat} {T : List Nat} (C : Cx κ cc own nL fr lo T) {pc : Nat} (n : Nat) {ls : List (Nat × Value)} {st : List Value} {h : CH} {o : Option σ} {i : Int} (w : Int32) (hw : (Int8.ofInt i).toInt32 = w) (hd : decode cc pc = .ok (.bipush i, 2)) (hn : pc + 2 = n) (k : Imp κ n ls (.int w :: st) h o) : Imp κ pc ls (st) h o := by
  obtain ⟨p, l, e, R, s, m, args, below, meth, c, D, cid, ad, lv, A, cells, slots, Q⟩ := κ
  obtain ⟨⟨hx, hb, hml, hown, hts⟩, -⟩ := C
  subst hn
  intro v hv H locs ls0 hP hD hS hl
  exact lv_bipush hx hb hd hw (k v hv H locs ls0 hP hD hS hl)
theorem r_sipush {σ : Type} {κ : Kx σ} {cc : ByteArray} {own : String} {nL fr lo : Nat} {T : List Nat} (C : Cx κ cc own nL fr lo T) {pc : Nat} (n : Nat) {ls : List (Nat × Value)} {st : List Value} {h : CH} {o : Option σ} {i : Int} (w : Int32) (hw : (Int16.ofInt i).toInt32 = w) (hd : decode cc pc = .ok (.sipush i, 3)) (hn : pc + 3 = n) (k : Imp κ n ls (.int w :: st) h o) : Imp κ pc ls (st) h o := by
  obtain ⟨p, l, e, R, s, m, args, below, meth, c, D, cid, ad, lv, A, cells, slots, Q⟩ := κ
  obtain ⟨⟨hx, hb, hml, hown, hts⟩, -⟩ := C
  subst hn
  intro v hv H locs ls0 hP hD hS hl
  exact lv_sipush hx hb hd hw (k v hv H locs ls0 hP hD hS hl)
theorem r_lconst {σ : Type} {κ : Kx σ} {cc : ByteArray} {own : String} {nL fr lo : Nat} {T : List Nat} (C : Cx κ cc own nL fr lo T) {pc : Nat} (n : Nat) {ls : List (Nat × Value)} {st : List Value} {h : CH} {o : Option σ} {i : Fin 2} (w : Int64) (hw : Int64.ofNat (i : Nat) = w) (hd : decode cc pc = .ok (.lconst i, 1)) (hn : pc + 1 = n) (k : Imp κ n ls (.long w :: st) h o) : Imp κ pc ls (st) h o := by
  obtain ⟨p, l, e, R, s, m, args, below, meth, c, D, cid, ad, lv, A, cells, slots, Q⟩ := κ
  obtain ⟨⟨hx, hb, hml, hown, hts⟩, -⟩ := C
  subst hn
  intro v hv H locs ls0 hP hD hS hl
  exact lv_lconst hx hb hd hw (k v hv H locs ls0 hP hD hS hl)
theorem r_iload_n {σ : Type} {κ : Kx σ} {cc : ByteArray} {own : String} {nL fr lo : Nat} {T : List Nat} (C : Cx κ cc own nL fr lo T) {pc : Nat} (n : Nat) {ls : List (Nat × Value)} {st : List Value} {h : CH} {o : Option σ} {i : Fin 4} {x : Int32} (j : Nat) (hj : ls[j]? = some ((i : Nat), .int x)) (hd : decode cc pc = .ok (.iload_n i, 1)) (hn : pc + 1 = n) (k : Imp κ n ls (.int x :: st) h o) : Imp κ pc ls (st) h o := by
  obtain ⟨p, l, e, R, s, m, args, below, meth, c, D, cid, ad, lv, A, cells, slots, Q⟩ := κ
  obtain ⟨⟨hx, hb, hml, hown, hts⟩, -⟩ := C
  subst hn
  intro v hv H locs ls0 hP hD hS hl
  exact lv_iload_n hx hb hd rfl (lv_at hl j hj) (k v hv H locs ls0 hP hD hS hl)
theorem r_iload {σ : Type} {κ : Kx σ} {cc : ByteArray} {own : String} {nL fr lo : Nat} {T : List Nat} (C : Cx κ cc own nL fr lo T) {pc : Nat} (n : Nat) {ls : List (Nat × Value)} {st : List Value} {h : CH} {o : Option σ} {i : Nat} {x : Int32} (j : Nat) (hj : ls[j]? = some (i, .int x)) (hd : decode cc pc = .ok (.iload i, 2)) (hn : pc + 2 = n) (k : Imp κ n ls (.int x :: st) h o) : Imp κ pc ls (st) h o := by
  obtain ⟨p, l, e, R, s, m, args, below, meth, c, D, cid, ad, lv, A, cells, slots, Q⟩ := κ
  obtain ⟨⟨hx, hb, hml, hown, hts⟩, -⟩ := C
  subst hn
  intro v hv H locs ls0 hP hD hS hl
  exact lv_iload hx hb hd (lv_at hl j hj) (k v hv H locs ls0 hP hD hS hl)
theorem r_lload_n {σ : Type} {κ : Kx σ} {cc : ByteArray} {own : String} {nL fr lo : Nat} {T : List Nat} (C : Cx κ cc own nL fr lo T) {pc : Nat} (n : Nat) {ls : List (Nat × Value)} {st : List Value} {h : CH} {o : Option σ} {i : Fin 4} {x : Int64} (j : Nat) (hj : ls[j]? = some ((i : Nat), .long x)) (hd : decode cc pc = .ok (.lload_n i, 1)) (hn : pc + 1 = n) (k : Imp κ n ls (.long x :: st) h o) : Imp κ pc ls (st) h o := by
  obtain ⟨p, l, e, R, s, m, args, below, meth, c, D, cid, ad, lv, A, cells, slots, Q⟩ := κ
  obtain ⟨⟨hx, hb, hml, hown, hts⟩, -⟩ := C
  subst hn
  intro v hv H locs ls0 hP hD hS hl
  exact lv_lload_n hx hb hd rfl (lv_at hl j hj) (k v hv H locs ls0 hP hD hS hl)
theorem r_lload {σ : Type} {κ : Kx σ} {cc : ByteArray} {own : String} {nL fr lo : Nat} {T : List Nat} (C : Cx κ cc own nL fr lo T) {pc : Nat} (n : Nat) {ls : List (Nat × Value)} {st : List Value} {h : CH} {o : Option σ} {i : Nat} {x : Int64} (j : Nat) (hj : ls[j]? = some (i, .long x)) (hd : decode cc pc = .ok (.lload i, 2)) (hn : pc + 2 = n) (k : Imp κ n ls (.long x :: st) h o) : Imp κ pc ls (st) h o := by
  obtain ⟨p, l, e, R, s, m, args, below, meth, c, D, cid, ad, lv, A, cells, slots, Q⟩ := κ
  obtain ⟨⟨hx, hb, hml, hown, hts⟩, -⟩ := C
  subst hn
  intro v hv H locs ls0 hP hD hS hl
  exact lv_lload hx hb hd (lv_at hl j hj) (k v hv H locs ls0 hP hD hS hl)
theorem r_aload_n {σ : Type} {κ : Kx σ} {cc : ByteArray} {own : String} {nL fr lo : Nat} {T : List Nat} (C : Cx κ cc own nL fr lo T) {pc : Nat} (n : Nat) {ls : List (Nat × Value)} {st : List Value} {h : CH} {o : Option σ} {i : Fin 4} {x : Nat} (j : Nat) (hj : ls[j]? = some ((i : Nat), .ref x)) (hd : decode cc pc = .ok (.aload_n i, 1)) (hn : pc + 1 = n) (k : Imp κ n ls (.ref x :: st) h o) : Imp κ pc ls (st) h o := by
  obtain ⟨p, l, e, R, s, m, args, below, meth, c, D, cid, ad, lv, A, cells, slots, Q⟩ := κ
  obtain ⟨⟨hx, hb, hml, hown, hts⟩, -⟩ := C
  subst hn
  intro v hv H locs ls0 hP hD hS hl
  exact lv_aload_n hx hb hd rfl (lv_at hl j hj) (k v hv H locs ls0 hP hD hS hl)
theorem r_aload {σ : Type} {κ : Kx σ} {cc : ByteArray} {own : String} {nL fr lo : Nat} {T : List Nat} (C : Cx κ cc own nL fr lo T) {pc : Nat} (n : Nat) {ls : List (Nat × Value)} {st : List Value} {h : CH} {o : Option σ} {i : Nat} {x : Nat} (j : Nat) (hj : ls[j]? = some (i, .ref x)) (hd : decode cc pc = .ok (.aload i, 2)) (hn : pc + 2 = n) (k : Imp κ n ls (.ref x :: st) h o) : Imp κ pc ls (st) h o := by
  obtain ⟨p, l, e, R, s, m, args, below, meth, c, D, cid, ad, lv, A, cells, slots, Q⟩ := κ
  obtain ⟨⟨hx, hb, hml, hown, hts⟩, -⟩ := C
  subst hn
  intro v hv H locs ls0 hP hD hS hl
  exact lv_aload hx hb hd (lv_at hl j hj) (k v hv H locs ls0 hP hD hS hl)
theorem r_aload_nN {σ : Type} {κ : Kx σ} {cc : ByteArray} {own : String} {nL fr lo : Nat} {T : List Nat} (C : Cx κ cc own nL fr lo T) {pc : Nat} (n : Nat) {ls : List (Nat × Value)} {st : List Value} {h : CH} {o : Option σ} {i : Fin 4} (j : Nat) (hj : ls[j]? = some ((i : Nat), .null)) (hd : decode cc pc = .ok (.aload_n i, 1)) (hn : pc + 1 = n) (k : Imp κ n ls (.null :: st) h o) : Imp κ pc ls (st) h o := by
  obtain ⟨p, l, e, R, s, m, args, below, meth, c, D, cid, ad, lv, A, cells, slots, Q⟩ := κ
  obtain ⟨⟨hx, hb, hml, hown, hts⟩, -⟩ := C
  subst hn
  intro v hv H locs ls0 hP hD hS hl
  exact lv_aload_nN hx hb hd rfl (lv_at hl j hj) (k v hv H locs ls0 hP hD hS hl)
theorem r_aloadN {σ : Type} {κ : Kx σ} {cc : ByteArray} {own : String} {nL fr lo : Nat} {T : List Nat} (C : Cx κ cc own nL fr lo T) {pc : Nat} (n : Nat) {ls : List (Nat × Value)} {st : List Value} {h : CH} {o : Option σ} {i : Nat} (j : Nat) (hj : ls[j]? = some (i, .null)) (hd : decode cc pc = .ok (.aload i, 2)) (hn : pc + 2 = n) (k : Imp κ n ls (.null :: st) h o) : Imp κ pc ls (st) h o := by
  obtain ⟨p, l, e, R, s, m, args, below, meth, c, D, cid, ad, lv, A, cells, slots, Q⟩ := κ
  obtain ⟨⟨hx, hb, hml, hown, hts⟩, -⟩ := C
  subst hn
  intro v hv H locs ls0 hP hD hS hl
  exact lv_aloadN hx hb hd (lv_at hl j hj) (k v hv H locs ls0 hP hD hS hl)
theorem r_null {σ : Type} {κ : Kx σ} {cc : ByteArray} {own : String} {nL fr lo : Nat} {T : List Nat} (C : Cx κ cc own nL fr lo T) {pc : Nat} (n : Nat) {ls : List (Nat × Value)} {st : List Value} {h : CH} {o : Option σ}  (hd : decode cc pc = .ok (.aconst_null, 1)) (hn : pc + 1 = n) (k : Imp κ n ls (.null :: st) h o) : Imp κ pc ls (st) h o := by
  obtain ⟨p, l, e, R, s, m, args, below, meth, c, D, cid, ad, lv, A, cells, slots, Q⟩ := κ
  obtain ⟨⟨hx, hb, hml, hown, hts⟩, -⟩ := C
  subst hn
  intro v hv H locs ls0 hP hD hS hl
  exact lv_null hx hb hd  (k v hv H locs ls0 hP hD hS hl)
theorem r_iadd {σ : Type} {κ : Kx σ} {cc : ByteArray} {own : String} {nL fr lo : Nat} {T : List Nat} (C : Cx κ cc own nL fr lo T) {pc : Nat} (n : Nat) {ls : List (Nat × Value)} {st : List Value} {h : CH} {o : Option σ} {x y : Int32} (hd : decode cc pc = .ok (.iadd, 1)) (hn : pc + 1 = n) (k : Imp κ n ls (.int (x + y) :: st) h o) : Imp κ pc ls (.int y :: .int x :: st) h o := by
  obtain ⟨p, l, e, R, s, m, args, below, meth, c, D, cid, ad, lv, A, cells, slots, Q⟩ := κ
  obtain ⟨⟨hx, hb, hml, hown, hts⟩, -⟩ := C
  subst hn
  intro v hv H locs ls0 hP hD hS hl
  exact lv_iadd hx hb hd  (k v hv H locs ls0 hP hD hS hl)
theorem r_isub {σ : Type} {κ : Kx σ} {cc : ByteArray} {own : String} {nL fr lo : Nat} {T : List Nat} (C : Cx κ cc own nL fr lo T) {pc : Nat} (n : Nat) {ls : List (Nat × Value)} {st : List Value} {h : CH} {o : Option σ} {x y : Int32} (hd : decode cc pc = .ok (.isub, 1)) (hn : pc + 1 = n) (k : Imp κ n ls (.int (x - y) :: st) h o) : Imp κ pc ls (.int y :: .int x :: st) h o := by
  obtain ⟨p, l, e, R, s, m, args, below, meth, c, D, cid, ad, lv, A, cells, slots, Q⟩ := κ
  obtain ⟨⟨hx, hb, hml, hown, hts⟩, -⟩ := C
  subst hn
  intro v hv H locs ls0 hP hD hS hl
  exact lv_isub hx hb hd  (k v hv H locs ls0 hP hD hS hl)
theorem r_imul {σ : Type} {κ : Kx σ} {cc : ByteArray} {own : String} {nL fr lo : Nat} {T : List Nat} (C : Cx κ cc own nL fr lo T) {pc : Nat} (n : Nat) {ls : List (Nat × Value)} {st : List Value} {h : CH} {o : Option σ} {x y : Int32} (hd : decode cc pc = .ok (.imul, 1)) (hn : pc + 1 = n) (k : Imp κ n ls (.int (x * y) :: st) h o) : Imp κ pc ls (.int y :: .int x :: st) h o := by
  obtain ⟨p, l, e, R, s, m, args, below, meth, c, D, cid, ad, lv, A, cells, slots, Q⟩ := κ
  obtain ⟨⟨hx, hb, hml, hown, hts⟩, -⟩ := C
  subst hn
  intro v hv H locs ls0 hP hD hS hl
  exact lv_imul hx hb hd  (k v hv H locs ls0 hP hD hS hl)
theorem r_iand {σ : Type} {κ : Kx σ} {cc : ByteArray} {own : String} {nL fr lo : Nat} {T : List Nat} (C : Cx κ cc own nL fr lo T) {pc : Nat} (n : Nat) {ls : List (Nat × Value)} {st : List Value} {h : CH} {o : Option σ} {x y : Int32} (hd : decode cc pc = .ok (.iand, 1)) (hn : pc + 1 = n) (k : Imp κ n ls (.int (x &&& y) :: st) h o) : Imp κ pc ls (.int y :: .int x :: st) h o := by
  obtain ⟨p, l, e, R, s, m, args, below, meth, c, D, cid, ad, lv, A, cells, slots, Q⟩ := κ
  obtain ⟨⟨hx, hb, hml, hown, hts⟩, -⟩ := C
  subst hn
  intro v hv H locs ls0 hP hD hS hl
  exact lv_iand hx hb hd  (k v hv H locs ls0 hP hD hS hl)
theorem r_ior {σ : Type} {κ : Kx σ} {cc : ByteArray} {own : String} {nL fr lo : Nat} {T : List Nat} (C : Cx κ cc own nL fr lo T) {pc : Nat} (n : Nat) {ls : List (Nat × Value)} {st : List Value} {h : CH} {o : Option σ} {x y : Int32} (hd : decode cc pc = .ok (.ior, 1)) (hn : pc + 1 = n) (k : Imp κ n ls (.int (x ||| y) :: st) h o) : Imp κ pc ls (.int y :: .int x :: st) h o := by
  obtain ⟨p, l, e, R, s, m, args, below, meth, c, D, cid, ad, lv, A, cells, slots, Q⟩ := κ
  obtain ⟨⟨hx, hb, hml, hown, hts⟩, -⟩ := C
  subst hn
  intro v hv H locs ls0 hP hD hS hl
  exact lv_ior hx hb hd  (k v hv H locs ls0 hP hD hS hl)
theorem r_ishl {σ : Type} {κ : Kx σ} {cc : ByteArray} {own : String} {nL fr lo : Nat} {T : List Nat} (C : Cx κ cc own nL fr lo T) {pc : Nat} (n : Nat) {ls : List (Nat × Value)} {st : List Value} {h : CH} {o : Option σ} {x y : Int32} (hd : decode cc pc = .ok (.ishl, 1)) (hn : pc + 1 = n) (k : Imp κ n ls (.int (x <<< (y &&& 31)) :: st) h o) : Imp κ pc ls (.int y :: .int x :: st) h o := by
  obtain ⟨p, l, e, R, s, m, args, below, meth, c, D, cid, ad, lv, A, cells, slots, Q⟩ := κ
  obtain ⟨⟨hx, hb, hml, hown, hts⟩, -⟩ := C
  subst hn
  intro v hv H locs ls0 hP hD hS hl
  exact lv_ishl hx hb hd  (k v hv H locs ls0 hP hD hS hl)
theorem r_ishr {σ : Type} {κ : Kx σ} {cc : ByteArray} {own : String} {nL fr lo : Nat} {T : List Nat} (C : Cx κ cc own nL fr lo T) {pc : Nat} (n : Nat) {ls : List (Nat × Value)} {st : List Value} {h : CH} {o : Option σ} {x y : Int32} (hd : decode cc pc = .ok (.ishr, 1)) (hn : pc + 1 = n) (k : Imp κ n ls (.int (x >>> (y &&& 31)) :: st) h o) : Imp κ pc ls (.int y :: .int x :: st) h o := by
  obtain ⟨p, l, e, R, s, m, args, below, meth, c, D, cid, ad, lv, A, cells, slots, Q⟩ := κ
  obtain ⟨⟨hx, hb, hml, hown, hts⟩, -⟩ := C
  subst hn
  intro v hv H locs ls0 hP hD hS hl
  exact lv_ishr hx hb hd  (k v hv H locs ls0 hP hD hS hl)
theorem r_ladd {σ : Type} {κ : Kx σ} {cc : ByteArray} {own : String} {nL fr lo : Nat} {T : List Nat} (C : Cx κ cc own nL fr lo T) {pc : Nat} (n : Nat) {ls : List (Nat × Value)} {st : List Value} {h : CH} {o : Option σ} {x y : Int64} (hd : decode cc pc = .ok (.ladd, 1)) (hn : pc + 1 = n) (k : Imp κ n ls (.long (x + y) :: st) h o) : Imp κ pc ls (.long y :: .long x :: st) h o := by
  obtain ⟨p, l, e, R, s, m, args, below, meth, c, D, cid, ad, lv, A, cells, slots, Q⟩ := κ
  obtain ⟨⟨hx, hb, hml, hown, hts⟩, -⟩ := C
  subst hn
  intro v hv H locs ls0 hP hD hS hl
  exact lv_ladd hx hb hd  (k v hv H locs ls0 hP hD hS hl)
theorem r_lmul {σ : Type} {κ : Kx σ} {cc : ByteArray} {own : String} {nL fr lo : Nat} {T : List Nat} (C : Cx κ cc own nL fr lo T) {pc : Nat} (n : Nat) {ls : List (Nat × Value)} {st : List Value} {h : CH} {o : Option σ} {x y : Int64} (hd : decode cc pc = .ok (.lmul, 1)) (hn : pc + 1 = n) (k : Imp κ n ls (.long (x * y) :: st) h o) : Imp κ pc ls (.long y :: .long x :: st) h o := by
  obtain ⟨p, l, e, R, s, m, args, below, meth, c, D, cid, ad, lv, A, cells, slots, Q⟩ := κ
  obtain ⟨⟨hx, hb, hml, hown, hts⟩, -⟩ := C
  subst hn
  intro v hv H locs ls0 hP hD hS hl
  exact lv_lmul hx hb hd  (k v hv H locs ls0 hP hD hS hl)
theorem r_lor {σ : Type} {κ : Kx σ} {cc : ByteArray} {own : String} {nL fr lo : Nat} {T : List Nat} (C : Cx κ cc own nL fr lo T) {pc : Nat} (n : Nat) {ls : List (Nat × Value)} {st : List Value} {h : CH} {o : Option σ} {x y : Int64} (hd : decode cc pc = .ok (.lor, 1)) (hn : pc + 1 = n) (k : Imp κ n ls (.long (x ||| y) :: st) h o) : Imp κ pc ls (.long y :: .long x :: st) h o := by
  obtain ⟨p, l, e, R, s, m, args, below, meth, c, D, cid, ad, lv, A, cells, slots, Q⟩ := κ
  obtain ⟨⟨hx, hb, hml, hown, hts⟩, -⟩ := C
  subst hn
  intro v hv H locs ls0 hP hD hS hl
  exact lv_lor hx hb hd  (k v hv H locs ls0 hP hD hS hl)
theorem r_iushr {σ : Type} {κ : Kx σ} {cc : ByteArray} {own : String} {nL fr lo : Nat} {T : List Nat} (C : Cx κ cc own nL fr lo T) {pc : Nat} (n : Nat) {ls : List (Nat × Value)} {st : List Value} {h : CH} {o : Option σ} {x y : Int32} (hd : decode cc pc = .ok (.iushr, 1)) (hn : pc + 1 = n) (k : Imp κ n ls (.int ((x.toUInt32 >>> (y.toUInt32 &&& Int32.toUInt32 31)).toInt32) :: st) h o) : Imp κ pc ls (.int y :: .int x :: st) h o := by
  obtain ⟨p, l, e, R, s, m, args, below, meth, c, D, cid, ad, lv, A, cells, slots, Q⟩ := κ
  obtain ⟨⟨hx, hb, hml, hown, hts⟩, -⟩ := C
  subst hn
  intro v hv H locs ls0 hP hD hS hl
  exact lv_iushr hx hb hd rfl (k v hv H locs ls0 hP hD hS hl)
theorem r_lshl {σ : Type} {κ : Kx σ} {cc : ByteArray} {own : String} {nL fr lo : Nat} {T : List Nat} (C : Cx κ cc own nL fr lo T) {pc : Nat} (n : Nat) {ls : List (Nat × Value)} {st : List Value} {h : CH} {o : Option σ} {x : Int64} {y : Int32} (hd : decode cc pc = .ok (.lshl, 1)) (hn : pc + 1 = n) (k : Imp κ n ls (.long (x <<< (y.toInt64 &&& 63)) :: st) h o) : Imp κ pc ls (.int y :: .long x :: st) h o := by
  obtain ⟨p, l, e, R, s, m, args, below, meth, c, D, cid, ad, lv, A, cells, slots, Q⟩ := κ
  obtain ⟨⟨hx, hb, hml, hown, hts⟩, -⟩ := C
  subst hn
  intro v hv H locs ls0 hP hD hS hl
  exact lv_lshl hx hb hd rfl (k v hv H locs ls0 hP hD hS hl)
theorem r_ineg {σ : Type} {κ : Kx σ} {cc : ByteArray} {own : String} {nL fr lo : Nat} {T : List Nat} (C : Cx κ cc own nL fr lo T) {pc : Nat} (n : Nat) {ls : List (Nat × Value)} {st : List Value} {h : CH} {o : Option σ} {x : Int32} (hd : decode cc pc = .ok (.ineg, 1)) (hn : pc + 1 = n) (k : Imp κ n ls (.int (-x) :: st) h o) : Imp κ pc ls (.int x :: st) h o := by
  obtain ⟨p, l, e, R, s, m, args, below, meth, c, D, cid, ad, lv, A, cells, slots, Q⟩ := κ
  obtain ⟨⟨hx, hb, hml, hown, hts⟩, -⟩ := C
  subst hn
  intro v hv H locs ls0 hP hD hS hl
  exact lv_ineg hx hb hd  (k v hv H locs ls0 hP hD hS hl)
theorem r_i2l {σ : Type} {κ : Kx σ} {cc : ByteArray} {own : String} {nL fr lo : Nat} {T : List Nat} (C : Cx κ cc own nL fr lo T) {pc : Nat} (n : Nat) {ls : List (Nat × Value)} {st : List Value} {h : CH} {o : Option σ} {x : Int32} (hd : decode cc pc = .ok (.i2l, 1)) (hn : pc + 1 = n) (k : Imp κ n ls (.long x.toInt64 :: st) h o) : Imp κ pc ls (.int x :: st) h o := by
  obtain ⟨p, l, e, R, s, m, args, below, meth, c, D, cid, ad, lv, A, cells, slots, Q⟩ := κ
  obtain ⟨⟨hx, hb, hml, hown, hts⟩, -⟩ := C
  subst hn
  intro v hv H locs ls0 hP hD hS hl
  exact lv_i2l hx hb hd rfl (k v hv H locs ls0 hP hD hS hl)
theorem r_l2i {σ : Type} {κ : Kx σ} {cc : ByteArray} {own : String} {nL fr lo : Nat} {T : List Nat} (C : Cx κ cc own nL fr lo T) {pc : Nat} (n : Nat) {ls : List (Nat × Value)} {st : List Value} {h : CH} {o : Option σ} {x : Int64} (hd : decode cc pc = .ok (.l2i, 1)) (hn : pc + 1 = n) (k : Imp κ n ls (.int x.toInt32 :: st) h o) : Imp κ pc ls (.long x :: st) h o := by
  obtain ⟨p, l, e, R, s, m, args, below, meth, c, D, cid, ad, lv, A, cells, slots, Q⟩ := κ
  obtain ⟨⟨hx, hb, hml, hown, hts⟩, -⟩ := C
  subst hn
  intro v hv H locs ls0 hP hD hS hl
  exact lv_l2i hx hb hd rfl (k v hv H locs ls0 hP hD hS hl)
theorem r_i2b {σ : Type} {κ : Kx σ} {cc : ByteArray} {own : String} {nL fr lo : Nat} {T : List Nat} (C : Cx κ cc own nL fr lo T) {pc : Nat} (n : Nat) {ls : List (Nat × Value)} {st : List Value} {h : CH} {o : Option σ} {x : Int32} (hd : decode cc pc = .ok (.i2b, 1)) (hn : pc + 1 = n) (k : Imp κ n ls (.int x.toInt8.toInt32 :: st) h o) : Imp κ pc ls (.int x :: st) h o := by
  obtain ⟨p, l, e, R, s, m, args, below, meth, c, D, cid, ad, lv, A, cells, slots, Q⟩ := κ
  obtain ⟨⟨hx, hb, hml, hown, hts⟩, -⟩ := C
  subst hn
  intro v hv H locs ls0 hP hD hS hl
  exact lv_i2b hx hb hd rfl (k v hv H locs ls0 hP hD hS hl)
theorem r_lcmp {σ : Type} {κ : Kx σ} {cc : ByteArray} {own : String} {nL fr lo : Nat} {T : List Nat} (C : Cx κ cc own nL fr lo T) {pc : Nat} (n : Nat) {ls : List (Nat × Value)} {st : List Value} {h : CH} {o : Option σ} {x y : Int64} (hd : decode cc pc = .ok (.lcmp, 1)) (hn : pc + 1 = n) (k : Imp κ n ls (.int (lg_cmp x y) :: st) h o) : Imp κ pc ls (.long y :: .long x :: st) h o := by
  obtain ⟨p, l, e, R, s, m, args, below, meth, c, D, cid, ad, lv, A, cells, slots, Q⟩ := κ
  obtain ⟨⟨hx, hb, hml, hown, hts⟩, -⟩ := C
  subst hn
  intro v hv H locs ls0 hP hD hS hl
  exact W.lcmp hx hb hd  (k v hv H locs ls0 hP hD hS hl)
theorem r_dup {σ : Type} {κ : Kx σ} {cc : ByteArray} {own : String} {nL fr lo : Nat} {T : List Nat} (C : Cx κ cc own nL fr lo T) {pc : Nat} (n : Nat) {ls : List (Nat × Value)} {st : List Value} {h : CH} {o : Option σ} {a : Value} (ha : a.category = 1) (hd : decode cc pc = .ok (.dup, 1)) (hn : pc + 1 = n) (k : Imp κ n ls (a :: a :: st) h o) : Imp κ pc ls (a :: st) h o := by
  obtain ⟨p, l, e, R, s, m, args, below, meth, c, D, cid, ad, lv, A, cells, slots, Q⟩ := κ
  obtain ⟨⟨hx, hb, hml, hown, hts⟩, -⟩ := C
  subst hn
  intro v hv H locs ls0 hP hD hS hl
  exact lv_dup hx hb hd ha (k v hv H locs ls0 hP hD hS hl)
theorem r_dup2 {σ : Type} {κ : Kx σ} {cc : ByteArray} {own : String} {nL fr lo : Nat} {T : List Nat} (C : Cx κ cc own nL fr lo T) {pc : Nat} (n : Nat) {ls : List (Nat × Value)} {st : List Value} {h : CH} {o : Option σ} {a b : Value} (ha : a.category = 1) (hb2 : b.category = 1) (hd : decode cc pc = .ok (.dup2, 1)) (hn : pc + 1 = n) (k : Imp κ n ls (a :: b :: a :: b :: st) h o) : Imp κ pc ls (a :: b :: st) h o := by
  obtain ⟨p, l, e, R, s, m, args, below, meth, c, D, cid, ad, lv, A, cells, slots, Q⟩ := κ
  obtain ⟨⟨hx, hb, hml, hown, hts⟩, -⟩ := C
  subst hn
  intro v hv H locs ls0 hP hD hS hl
  exact lv_dup2_11 hx hb hd ha hb2 (k v hv H locs ls0 hP hD hS hl)
theorem r_pop {σ : Type} {κ : Kx σ} {cc : ByteArray} {own : String} {nL fr lo : Nat} {T : List Nat} (C : Cx κ cc own nL fr lo T) {pc : Nat} (n : Nat) {ls : List (Nat × Value)} {st : List Value} {h : CH} {o : Option σ} {a : Value} (ha : a.category = 1) (hd : decode cc pc = .ok (.pop, 1)) (hn : pc + 1 = n) (k : Imp κ n ls (st) h o) : Imp κ pc ls (a :: st) h o := by
  obtain ⟨p, l, e, R, s, m, args, below, meth, c, D, cid, ad, lv, A, cells, slots, Q⟩ := κ
  obtain ⟨⟨hx, hb, hml, hown, hts⟩, -⟩ := C
  subst hn
  intro v hv H locs ls0 hP hD hS hl
  exact lv_pop hx hb hd ha (k v hv H locs ls0 hP hD hS hl)
theorem r_istore {σ : Type} {κ : Kx σ} {cc : ByteArray} {own : String} {nL fr lo : Nat} {T : List Nat} (C : Cx κ cc own nL fr lo T) {pc : Nat} (n : Nat) {ls : List (Nat × Value)} {st : List Value} {h : CH} {o : Option σ} {i : Nat} {x : Int32} (ls' : List (Nat × Value)) (hd : decode cc pc = .ok (.istore i, 2)) (hi : i < nL) (hl' : (i, Value.int x) :: ls.filter (fun q => !(q.1 == i) && !(q.1 + 1 == i && q.2.category == 2)) = ls') (hn : pc + 2 = n) (k : Imp κ n ls' st h o) : Imp κ pc ls (Value.int x :: st) h o := by
  obtain ⟨p, l, e, R, s, m, args, below, meth, c, D, cid, ad, lv, A, cells, slots, Q⟩ := κ
  obtain ⟨⟨hx, hb, hml, hown, hts⟩, -⟩ := C
  subst hn
  intro v hv H locs ls0 hP hD hS hl
  exact lv_istore hx hb hd  hl (by rw [hml]; exact hi) hl' (fun ls1 hl1 => k v hv H locs ls1 hP hD hS hl1)
theorem r_astore {σ : Type} {κ : Kx σ} {cc : ByteArray} {own : String} {nL fr lo : Nat} {T : List Nat} (C : Cx κ cc own nL fr lo T) {pc : Nat} (n : Nat) {ls : List (Nat × Value)} {st : List Value} {h : CH} {o : Option σ} {i : Nat} {x : Nat} (ls' : List (Nat × Value)) (hd : decode cc pc = .ok (.astore i, 2)) (hi : i < nL) (hl' : (i, Value.ref x) :: ls.filter (fun q => !(q.1 == i) && !(q.1 + 1 == i && q.2.category == 2)) = ls') (hn : pc + 2 = n) (k : Imp κ n ls' st h o) : Imp κ pc ls (Value.ref x :: st) h o := by
  obtain ⟨p, l, e, R, s, m, args, below, meth, c, D, cid, ad, lv, A, cells, slots, Q⟩ := κ
  obtain ⟨⟨hx, hb, hml, hown, hts⟩, -⟩ := C
  subst hn
  intro v hv H locs ls0 hP hD hS hl
  exact lv_astore hx hb hd  hl (by rw [hml]; exact hi) hl' (fun ls1 hl1 => k v hv H locs ls1 hP hD hS hl1)
theorem r_astoreN {σ : Type} {κ : Kx σ} {cc : ByteArray} {own : String} {nL fr lo : Nat} {T : List Nat} (C : Cx κ cc own nL fr lo T) {pc : Nat} (n : Nat) {ls : List (Nat × Value)} {st : List Value} {h : CH} {o : Option σ} {i : Nat} (ls' : List (Nat × Value)) (hd : decode cc pc = .ok (.astore i, 2)) (hi : i < nL) (hl' : (i, Value.null) :: ls.filter (fun q => !(q.1 == i) && !(q.1 + 1 == i && q.2.category == 2)) = ls') (hn : pc + 2 = n) (k : Imp κ n ls' st h o) : Imp κ pc ls (Value.null :: st) h o := by
  obtain ⟨p, l, e, R, s, m, args, below, meth, c, D, cid, ad, lv, A, cells, slots, Q⟩ := κ
  obtain ⟨⟨hx, hb, hml, hown, hts⟩, -⟩ := C
  subst hn
  intro v hv H locs ls0 hP hD hS hl
  exact lv_astoreN hx hb hd  hl (by rw [hml]; exact hi) hl' (fun ls1 hl1 => k v hv H locs ls1 hP hD hS hl1)
theorem r_lstore {σ : Type} {κ : Kx σ} {cc : ByteArray} {own : String} {nL fr lo : Nat} {T : List Nat} (C : Cx κ cc own nL fr lo T) {pc : Nat} (n : Nat) {ls : List (Nat × Value)} {st : List Value} {h : CH} {o : Option σ} {i : Nat} {x : Int64} (ls' : List (Nat × Value)) (hd : decode cc pc = .ok (.lstore i, 2)) (hi : i + 1 < nL) (hl' : (i, Value.long x) :: ls.filter (fun q => !(q.1 == i) && (!(q.1 == i + 1) && !(q.1 + 1 == i && q.2.category == 2))) = ls') (hn : pc + 2 = n) (k : Imp κ n ls' st h o) : Imp κ pc ls (Value.long x :: st) h o := by
  obtain ⟨p, l, e, R, s, m, args, below, meth, c, D, cid, ad, lv, A, cells, slots, Q⟩ := κ
  obtain ⟨⟨hx, hb, hml, hown, hts⟩, -⟩ := C
  subst hn
  intro v hv H locs ls0 hP hD hS hl
  exact lv_lstore hx hb hd  hl (by rw [hml]; exact hi) hl' (fun ls1 hl1 => k v hv H locs ls1 hP hD hS hl1)
theorem r_istore_n {σ : Type} {κ : Kx σ} {cc : ByteArray} {own : String} {nL fr lo : Nat} {T : List Nat} (C : Cx κ cc own nL fr lo T) {pc : Nat} (n : Nat) {ls : List (Nat × Value)} {st : List Value} {h : CH} {o : Option σ} (i : Nat) {i4 : Fin 4} {x : Int32} (ls' : List (Nat × Value)) (hd : decode cc pc = .ok (.istore_n i4, 1)) (hi4 : (i4 : Nat) = i) (hi : i < nL) (hl' : (i, Value.int x) :: ls.filter (fun q => !(q.1 == i) && !(q.1 + 1 == i && q.2.category == 2)) = ls') (hn : pc + 1 = n) (k : Imp κ n ls' st h o) : Imp κ pc ls (Value.int x :: st) h o := by
  obtain ⟨p, l, e, R, s, m, args, below, meth, c, D, cid, ad, lv, A, cells, slots, Q⟩ := κ
  obtain ⟨⟨hx, hb, hml, hown, hts⟩, -⟩ := C
  subst hn
  intro v hv H locs ls0 hP hD hS hl
  exact lv_istore_n hx hb hd hi4 hl (by rw [hml]; exact hi) hl' (fun ls1 hl1 => k v hv H locs ls1 hP hD hS hl1)
theorem r_astore_n {σ : Type} {κ : Kx σ} {cc : ByteArray} {own : String} {nL fr lo : Nat} {T : List Nat} (C : Cx κ cc own nL fr lo T) {pc : Nat} (n : Nat) {ls : List (Nat × Value)} {st : List Value} {h : CH} {o : Option σ} (i : Nat) {i4 : Fin 4} {x : Nat} (ls' : List (Nat × Value)) (hd : decode cc pc = .ok (.astore_n i4, 1)) (hi4 : (i4 : Nat) = i) (hi : i < nL) (hl' : (i, Value.ref x) :: ls.filter (fun q => !(q.1 == i) && !(q.1 + 1 == i && q.2.category == 2)) = ls') (hn : pc + 1 = n) (k : Imp κ n ls' st h o) : Imp κ pc ls (Value.ref x :: st) h o := by
  obtain ⟨p, l, e, R, s, m, args, below, meth, c, D, cid, ad, lv, A, cells, slots, Q⟩ := κ
  obtain ⟨⟨hx, hb, hml, hown, hts⟩, -⟩ := C
  subst hn
  intro v hv H locs ls0 hP hD hS hl
  exact lv_astore_n hx hb hd hi4 hl (by rw [hml]; exact hi) hl' (fun ls1 hl1 => k v hv H locs ls1 hP hD hS hl1)
theorem r_astore_nN {σ : Type} {κ : Kx σ} {cc : ByteArray} {own : String} {nL fr lo : Nat} {T : List Nat} (C : Cx κ cc own nL fr lo T) {pc : Nat} (n : Nat) {ls : List (Nat × Value)} {st : List Value} {h : CH} {o : Option σ} (i : Nat) {i4 : Fin 4}  (ls' : List (Nat × Value)) (hd : decode cc pc = .ok (.astore_n i4, 1)) (hi4 : (i4 : Nat) = i) (hi : i < nL) (hl' : (i, Value.null) :: ls.filter (fun q => !(q.1 == i) && !(q.1 + 1 == i && q.2.category == 2)) = ls') (hn : pc + 1 = n) (k : Imp κ n ls' st h o) : Imp κ pc ls (Value.null :: st) h o := by
  obtain ⟨p, l, e, R, s, m, args, below, meth, c, D, cid, ad, lv, A, cells, slots, Q⟩ := κ
  obtain ⟨⟨hx, hb, hml, hown, hts⟩, -⟩ := C
  subst hn
  intro v hv H locs ls0 hP hD hS hl
  exact lv_astore_nN hx hb hd hi4 hl (by rw [hml]; exact hi) hl' (fun ls1 hl1 => k v hv H locs ls1 hP hD hS hl1)
theorem r_lstore_n {σ : Type} {κ : Kx σ} {cc : ByteArray} {own : String} {nL fr lo : Nat} {T : List Nat} (C : Cx κ cc own nL fr lo T) {pc : Nat} (n : Nat) {ls : List (Nat × Value)} {st : List Value} {h : CH} {o : Option σ} (i : Nat) {i4 : Fin 4} {x : Int64} (ls' : List (Nat × Value)) (hd : decode cc pc = .ok (.lstore_n i4, 1)) (hi4 : (i4 : Nat) = i) (hi : i + 1 < nL) (hl' : (i, Value.long x) :: ls.filter (fun q => !(q.1 == i) && (!(q.1 == i + 1) && !(q.1 + 1 == i && q.2.category == 2))) = ls') (hn : pc + 1 = n) (k : Imp κ n ls' st h o) : Imp κ pc ls (Value.long x :: st) h o := by
  obtain ⟨p, l, e, R, s, m, args, below, meth, c, D, cid, ad, lv, A, cells, slots, Q⟩ := κ
  obtain ⟨⟨hx, hb, hml, hown, hts⟩, -⟩ := C
  subst hn
  intro v hv H locs ls0 hP hD hS hl
  exact lv_lstore_n hx hb hd hi4 hl (by rw [hml]; exact hi) hl' (fun ls1 hl1 => k v hv H locs ls1 hP hD hS hl1)
theorem r_iinc {σ : Type} {κ : Kx σ} {cc : ByteArray} {own : String} {nL fr lo : Nat} {T : List Nat} (C : Cx κ cc own nL fr lo T) {pc : Nat} (n : Nat) {ls : List (Nat × Value)} {st : List Value} {h : CH} {o : Option σ} {i : Nat} {d : Int} {x : Int32} (j : Nat) (w : Int32) (ls' : List (Nat × Value)) (hd : decode cc pc = .ok (.iinc i d, 3)) (hj : ls[j]? = some (i, .int x)) (hw : Int32.ofInt d = w) (hi : i < nL) (hl' : (i, Value.int (x + w)) :: ls.filter (fun q => !(q.1 == i) && !(q.1 + 1 == i && q.2.category == 2)) = ls') (hn : pc + 3 = n) (k : Imp κ n ls' st h o) : Imp κ pc ls st h o := by
  obtain ⟨p, l, e, R, s, m, args, below, meth, c, D, cid, ad, lv, A, cells, slots, Q⟩ := κ
  obtain ⟨⟨hx, hb, hml, hown, hts⟩, -⟩ := C
  subst hn
  intro v hv H locs ls0 hP hD hS hl
  exact lv_iinc hx hb hd hl hj (by rw [hw]) (by rw [hml]; exact hi) hl' (fun ls1 hl1 => k v hv H locs ls1 hP hD hS hl1)
theorem r_idiv {σ : Type} {κ : Kx σ} {cc : ByteArray} {own : String} {nL fr lo : Nat} {T : List Nat} (C : Cx κ cc own nL fr lo T) {pc : Nat} (n : Nat) {ls : List (Nat × Value)} {st : List Value} {h : CH} {o : Option σ} {x y : Int32} (hd : decode cc pc = .ok (.idiv, 1)) (hn : pc + 1 = n) (k : Imp κ n ls (.int (x / y) :: st) h o) : Imp κ pc ls (.int y :: .int x :: st) h (dvd y o) := by
  obtain ⟨p, l, e, R, s, m, args, below, meth, c, D, cid, ad, lv, A, cells, slots, Q⟩ := κ
  obtain ⟨⟨hx, hb, hml, hown, hts⟩, -⟩ := C
  subst hn
  intro v hv H locs ls0 hP hD hS hl
  unfold dvd at hv
  by_cases hy : y = 0
  · rw [if_pos hy] at hv; cases hv
  · rw [if_neg hy] at hv
    exact lv_idiv hx hb hd hy (k v hv H locs ls0 hP hD hS hl)
theorem r_idivk {σ : Type} {κ : Kx σ} {cc : ByteArray} {own : String} {nL fr lo : Nat} {T : List Nat} (C : Cx κ cc own nL fr lo T) {pc : Nat} (n : Nat) {ls : List (Nat × Value)} {st : List Value} {h : CH} {o : Option σ} {x y : Int32} (hy : ¬ y = 0) (hd : decode cc pc = .ok (.idiv, 1)) (hn : pc + 1 = n) (k : Imp κ n ls (.int (x / y) :: st) h o) : Imp κ pc ls (.int y :: .int x :: st) h o := by
  obtain ⟨p, l, e, R, s, m, args, below, meth, c, D, cid, ad, lv, A, cells, slots, Q⟩ := κ
  obtain ⟨⟨hx, hb, hml, hown, hts⟩, -⟩ := C
  subst hn
  intro v hv H locs ls0 hP hD hS hl
  exact lv_idiv hx hb hd hy (k v hv H locs ls0 hP hD hS hl)
theorem r_irem {σ : Type} {κ : Kx σ} {cc : ByteArray} {own : String} {nL fr lo : Nat} {T : List Nat} (C : Cx κ cc own nL fr lo T) {pc : Nat} (n : Nat) {ls : List (Nat × Value)} {st : List Value} {h : CH} {o : Option σ} {x y : Int32} (hd : decode cc pc = .ok (.irem, 1)) (hn : pc + 1 = n) (k : Imp κ n ls (.int (x - x / y * y) :: st) h o) : Imp κ pc ls (.int y :: .int x :: st) h (dvd y o) := by
  obtain ⟨p, l, e, R, s, m, args, below, meth, c, D, cid, ad, lv, A, cells, slots, Q⟩ := κ
  obtain ⟨⟨hx, hb, hml, hown, hts⟩, -⟩ := C
  subst hn
  intro v hv H locs ls0 hP hD hS hl
  unfold dvd at hv
  by_cases hy : y = 0
  · rw [if_pos hy] at hv; cases hv
  · rw [if_neg hy] at hv
    exact lv_irem hx hb hd hy (k v hv H locs ls0 hP hD hS hl)
theorem r_iremk {σ : Type} {κ : Kx σ} {cc : ByteArray} {own : String} {nL fr lo : Nat} {T : List Nat} (C : Cx κ cc own nL fr lo T) {pc : Nat} (n : Nat) {ls : List (Nat × Value)} {st : List Value} {h : CH} {o : Option σ} {x y : Int32} (hy : ¬ y = 0) (hd : decode cc pc = .ok (.irem, 1)) (hn : pc + 1 = n) (k : Imp κ n ls (.int (x - x / y * y) :: st) h o) : Imp κ pc ls (.int y :: .int x :: st) h o := by
  obtain ⟨p, l, e, R, s, m, args, below, meth, c, D, cid, ad, lv, A, cells, slots, Q⟩ := κ
  obtain ⟨⟨hx, hb, hml, hown, hts⟩, -⟩ := C
  subst hn
  intro v hv H locs ls0 hP hD hS hl
  exact lv_irem hx hb hd hy (k v hv H locs ls0 hP hD hS hl)
theorem r_if_eq {σ : Type} {κ : Kx σ} {cc : ByteArray} {own : String} {nL fr lo : Nat} {T : List Nat} (C : Cx κ cc own nL fr lo T) {pc : Nat} (n t : Nat) {ls : List (Nat × Value)} {st : List Value} {h : CH} {o1 o2 : Option σ} {x : Int32} {off : Int} {dc : Decidable (x = 0)} (hd : decode cc pc = .ok (.ifCond .eq off, 3)) (ht : (pc : Int) + off = (t : Int)) (hn : pc + 3 = n) (k1 : x = 0 → Imp κ t ls st h o1) (k2 : ¬ (x = 0) → Imp κ n ls st h o2) : Imp κ pc ls (.int x :: st) h (@ite _ (x = 0) dc o1 o2) := by
  obtain ⟨p, l, e, R, s, m, args, below, meth, c, D, cid, ad, lv, A, cells, slots, Q⟩ := κ
  obtain ⟨⟨hx, hb, hml, hown, hts⟩, -⟩ := C
  subst hn
  intro v hv H locs ls0 hP hD hS hl
  exact lv_if_eq hx hb hd ht (fun g => k1 g v (by rw [if_pos g] at hv; exact hv) H locs ls0 hP hD hS hl) (fun g => k2 g v (by rw [if_neg g] at hv; exact hv) H locs ls0 hP hD hS hl)
theorem r_if_ne {σ : Type} {κ : Kx σ} {cc : ByteArray} {own : String} {nL fr lo : Nat} {T : List Nat} (C : Cx κ cc own nL fr lo T) {pc : Nat} (n t : Nat) {ls : List (Nat × Value)} {st : List Value} {h : CH} {o1 o2 : Option σ} {x : Int32} {off : Int} {dc : Decidable (x = 0)} (hd : decode cc pc = .ok (.ifCond .ne off, 3)) (ht : (pc : Int) + off = (t : Int)) (hn : pc + 3 = n) (k1 : x = 0 → Imp κ n ls st h o1) (k2 : ¬ (x = 0) → Imp κ t ls st h o2) : Imp κ pc ls (.int x :: st) h (@ite _ (x = 0) dc o1 o2) := by
  obtain ⟨p, l, e, R, s, m, args, below, meth, c, D, cid, ad, lv, A, cells, slots, Q⟩ := κ
  obtain ⟨⟨hx, hb, hml, hown, hts⟩, -⟩ := C
  subst hn
  intro v hv H locs ls0 hP hD hS hl
  exact lv_if_ne hx hb hd ht (fun g => k2 g v (by rw [if_neg g] at hv; exact hv) H locs ls0 hP hD hS hl) (fun g => k1 g v (by rw [if_pos g] at hv; exact hv) H locs ls0 hP hD hS hl)
theorem r_if_lt {σ : Type} {κ : Kx σ} {cc : ByteArray} {own : String} {nL fr lo : Nat} {T : List Nat} (C : Cx κ cc own nL fr lo T) {pc : Nat} (n t : Nat) {ls : List (Nat × Value)} {st : List Value} {h : CH} {o1 o2 : Option σ} {x : Int32} {off : Int} {dc : Decidable (x < 0)} (hd : decode cc pc = .ok (.ifCond .lt off, 3)) (ht : (pc : Int) + off = (t : Int)) (hn : pc + 3 = n) (k1 : x < 0 → Imp κ t ls st h o1) (k2 : ¬ (x < 0) → Imp κ n ls st h o2) : Imp κ pc ls (.int x :: st) h (@ite _ (x < 0) dc o1 o2) := by
  obtain ⟨p, l, e, R, s, m, args, below, meth, c, D, cid, ad, lv, A, cells, slots, Q⟩ := κ
  obtain ⟨⟨hx, hb, hml, hown, hts⟩, -⟩ := C
  subst hn
  intro v hv H locs ls0 hP hD hS hl
  exact lv_if_lt hx hb hd ht (fun g => k1 g v (by rw [if_pos g] at hv; exact hv) H locs ls0 hP hD hS hl) (fun g => k2 g v (by rw [if_neg g] at hv; exact hv) H locs ls0 hP hD hS hl)
theorem r_if_ge {σ : Type} {κ : Kx σ} {cc : ByteArray} {own : String} {nL fr lo : Nat} {T : List Nat} (C : Cx κ cc own nL fr lo T) {pc : Nat} (n t : Nat) {ls : List (Nat × Value)} {st : List Value} {h : CH} {o1 o2 : Option σ} {x : Int32} {off : Int} {dc : Decidable (x < 0)} (hd : decode cc pc = .ok (.ifCond .ge off, 3)) (ht : (pc : Int) + off = (t : Int)) (hn : pc + 3 = n) (k1 : x < 0 → Imp κ n ls st h o1) (k2 : ¬ (x < 0) → Imp κ t ls st h o2) : Imp κ pc ls (.int x :: st) h (@ite _ (x < 0) dc o1 o2) := by
  obtain ⟨p, l, e, R, s, m, args, below, meth, c, D, cid, ad, lv, A, cells, slots, Q⟩ := κ
  obtain ⟨⟨hx, hb, hml, hown, hts⟩, -⟩ := C
  subst hn
  intro v hv H locs ls0 hP hD hS hl
  exact lv_if_ge hx hb hd ht (fun g => k2 (Int32.not_lt.mpr g) v (by rw [if_neg (Int32.not_lt.mpr g)] at hv; exact hv) H locs ls0 hP hD hS hl) (fun g => k1 (Int32.not_le.mp g) v (by rw [if_pos (Int32.not_le.mp g)] at hv; exact hv) H locs ls0 hP hD hS hl)
theorem r_if_gt {σ : Type} {κ : Kx σ} {cc : ByteArray} {own : String} {nL fr lo : Nat} {T : List Nat} (C : Cx κ cc own nL fr lo T) {pc : Nat} (n t : Nat) {ls : List (Nat × Value)} {st : List Value} {h : CH} {o1 o2 : Option σ} {x : Int32} {off : Int} {dc : Decidable (0 < x)} (hd : decode cc pc = .ok (.ifCond .gt off, 3)) (ht : (pc : Int) + off = (t : Int)) (hn : pc + 3 = n) (k1 : 0 < x → Imp κ t ls st h o1) (k2 : ¬ (0 < x) → Imp κ n ls st h o2) : Imp κ pc ls (.int x :: st) h (@ite _ (0 < x) dc o1 o2) := by
  obtain ⟨p, l, e, R, s, m, args, below, meth, c, D, cid, ad, lv, A, cells, slots, Q⟩ := κ
  obtain ⟨⟨hx, hb, hml, hown, hts⟩, -⟩ := C
  subst hn
  intro v hv H locs ls0 hP hD hS hl
  exact lv_if_gt hx hb hd ht (fun g => k1 g v (by rw [if_pos g] at hv; exact hv) H locs ls0 hP hD hS hl) (fun g => k2 g v (by rw [if_neg g] at hv; exact hv) H locs ls0 hP hD hS hl)
theorem r_if_le {σ : Type} {κ : Kx σ} {cc : ByteArray} {own : String} {nL fr lo : Nat} {T : List Nat} (C : Cx κ cc own nL fr lo T) {pc : Nat} (n t : Nat) {ls : List (Nat × Value)} {st : List Value} {h : CH} {o1 o2 : Option σ} {x : Int32} {off : Int} {dc : Decidable (0 < x)} (hd : decode cc pc = .ok (.ifCond .le off, 3)) (ht : (pc : Int) + off = (t : Int)) (hn : pc + 3 = n) (k1 : 0 < x → Imp κ n ls st h o1) (k2 : ¬ (0 < x) → Imp κ t ls st h o2) : Imp κ pc ls (.int x :: st) h (@ite _ (0 < x) dc o1 o2) := by
  obtain ⟨p, l, e, R, s, m, args, below, meth, c, D, cid, ad, lv, A, cells, slots, Q⟩ := κ
  obtain ⟨⟨hx, hb, hml, hown, hts⟩, -⟩ := C
  subst hn
  intro v hv H locs ls0 hP hD hS hl
  exact lv_if_le hx hb hd ht (fun g => k2 (Int32.not_lt.mpr g) v (by rw [if_neg (Int32.not_lt.mpr g)] at hv; exact hv) H locs ls0 hP hD hS hl) (fun g => k1 (Int32.not_le.mp g) v (by rw [if_pos (Int32.not_le.mp g)] at hv; exact hv) H locs ls0 hP hD hS hl)
theorem r_icmp_eq {σ : Type} {κ : Kx σ} {cc : ByteArray} {own : String} {nL fr lo : Nat} {T : List Nat} (C : Cx κ cc own nL fr lo T) {pc : Nat} (n t : Nat) {ls : List (Nat × Value)} {st : List Value} {h : CH} {o1 o2 : Option σ} {x y : Int32} {off : Int} {dc : Decidable (x = y)} (hd : decode cc pc = .ok (.if_icmp .eq off, 3)) (ht : (pc : Int) + off = (t : Int)) (hn : pc + 3 = n) (k1 : x = y → Imp κ t ls st h o1) (k2 : ¬ (x = y) → Imp κ n ls st h o2) : Imp κ pc ls (.int y :: .int x :: st) h (@ite _ (x = y) dc o1 o2) := by
  obtain ⟨p, l, e, R, s, m, args, below, meth, c, D, cid, ad, lv, A, cells, slots, Q⟩ := κ
  obtain ⟨⟨hx, hb, hml, hown, hts⟩, -⟩ := C
  subst hn
  intro v hv H locs ls0 hP hD hS hl
  exact lv_icmp_eq hx hb hd ht (fun g => k1 g v (by rw [if_pos g] at hv; exact hv) H locs ls0 hP hD hS hl) (fun g => k2 g v (by rw [if_neg g] at hv; exact hv) H locs ls0 hP hD hS hl)
theorem r_icmp_ne {σ : Type} {κ : Kx σ} {cc : ByteArray} {own : String} {nL fr lo : Nat} {T : List Nat} (C : Cx κ cc own nL fr lo T) {pc : Nat} (n t : Nat) {ls : List (Nat × Value)} {st : List Value} {h : CH} {o1 o2 : Option σ} {x y : Int32} {off : Int} {dc : Decidable (x = y)} (hd : decode cc pc = .ok (.if_icmp .ne off, 3)) (ht : (pc : Int) + off = (t : Int)) (hn : pc + 3 = n) (k1 : x = y → Imp κ n ls st h o1) (k2 : ¬ (x = y) → Imp κ t ls st h o2) : Imp κ pc ls (.int y :: .int x :: st) h (@ite _ (x = y) dc o1 o2) := by
  obtain ⟨p, l, e, R, s, m, args, below, meth, c, D, cid, ad, lv, A, cells, slots, Q⟩ := κ
  obtain ⟨⟨hx, hb, hml, hown, hts⟩, -⟩ := C
  subst hn
  intro v hv H locs ls0 hP hD hS hl
  exact lv_icmp_ne hx hb hd ht (fun g => k2 g v (by rw [if_neg g] at hv; exact hv) H locs ls0 hP hD hS hl) (fun g => k1 g v (by rw [if_pos g] at hv; exact hv) H locs ls0 hP hD hS hl)
theorem r_icmp_lt {σ : Type} {κ : Kx σ} {cc : ByteArray} {own : String} {nL fr lo : Nat} {T : List Nat} (C : Cx κ cc own nL fr lo T) {pc : Nat} (n t : Nat) {ls : List (Nat × Value)} {st : List Value} {h : CH} {o1 o2 : Option σ} {x y : Int32} {off : Int} {dc : Decidable (x < y)} (hd : decode cc pc = .ok (.if_icmp .lt off, 3)) (ht : (pc : Int) + off = (t : Int)) (hn : pc + 3 = n) (k1 : x < y → Imp κ t ls st h o1) (k2 : ¬ (x < y) → Imp κ n ls st h o2) : Imp κ pc ls (.int y :: .int x :: st) h (@ite _ (x < y) dc o1 o2) := by
  obtain ⟨p, l, e, R, s, m, args, below, meth, c, D, cid, ad, lv, A, cells, slots, Q⟩ := κ
  obtain ⟨⟨hx, hb, hml, hown, hts⟩, -⟩ := C
  subst hn
  intro v hv H locs ls0 hP hD hS hl
  exact lv_icmp_lt hx hb hd ht (fun g => k1 g v (by rw [if_pos g] at hv; exact hv) H locs ls0 hP hD hS hl) (fun g => k2 g v (by rw [if_neg g] at hv; exact hv) H locs ls0 hP hD hS hl)
theorem r_icmp_ge {σ : Type} {κ : Kx σ} {cc : ByteArray} {own : String} {nL fr lo : Nat} {T : List Nat} (C : Cx κ cc own nL fr lo T) {pc : Nat} (n t : Nat) {ls : List (Nat × Value)} {st : List Value} {h : CH} {o1 o2 : Option σ} {x y : Int32} {off : Int} {dc : Decidable (x < y)} (hd : decode cc pc = .ok (.if_icmp .ge off, 3)) (ht : (pc : Int) + off = (t : Int)) (hn : pc + 3 = n) (k1 : x < y → Imp κ n ls st h o1) (k2 : ¬ (x < y) → Imp κ t ls st h o2) : Imp κ pc ls (.int y :: .int x :: st) h (@ite _ (x < y) dc o1 o2) := by
  obtain ⟨p, l, e, R, s, m, args, below, meth, c, D, cid, ad, lv, A, cells, slots, Q⟩ := κ
  obtain ⟨⟨hx, hb, hml, hown, hts⟩, -⟩ := C
  subst hn
  intro v hv H locs ls0 hP hD hS hl
  exact lv_icmp_ge hx hb hd ht (fun g => k2 (Int32.not_lt.mpr g) v (by rw [if_neg (Int32.not_lt.mpr g)] at hv; exact hv) H locs ls0 hP hD hS hl) (fun g => k1 (Int32.not_le.mp g) v (by rw [if_pos (Int32.not_le.mp g)] at hv; exact hv) H locs ls0 hP hD hS hl)
theorem r_icmp_gt {σ : Type} {κ : Kx σ} {cc : ByteArray} {own : String} {nL fr lo : Nat} {T : List Nat} (C : Cx κ cc own nL fr lo T) {pc : Nat} (n t : Nat) {ls : List (Nat × Value)} {st : List Value} {h : CH} {o1 o2 : Option σ} {x y : Int32} {off : Int} {dc : Decidable (y < x)} (hd : decode cc pc = .ok (.if_icmp .gt off, 3)) (ht : (pc : Int) + off = (t : Int)) (hn : pc + 3 = n) (k1 : y < x → Imp κ t ls st h o1) (k2 : ¬ (y < x) → Imp κ n ls st h o2) : Imp κ pc ls (.int y :: .int x :: st) h (@ite _ (y < x) dc o1 o2) := by
  obtain ⟨p, l, e, R, s, m, args, below, meth, c, D, cid, ad, lv, A, cells, slots, Q⟩ := κ
  obtain ⟨⟨hx, hb, hml, hown, hts⟩, -⟩ := C
  subst hn
  intro v hv H locs ls0 hP hD hS hl
  exact lv_icmp_gt hx hb hd ht (fun g => k1 g v (by rw [if_pos g] at hv; exact hv) H locs ls0 hP hD hS hl) (fun g => k2 g v (by rw [if_neg g] at hv; exact hv) H locs ls0 hP hD hS hl)
theorem r_icmp_le {σ : Type} {κ : Kx σ} {cc : ByteArray} {own : String} {nL fr lo : Nat} {T : List Nat} (C : Cx κ cc own nL fr lo T) {pc : Nat} (n t : Nat) {ls : List (Nat × Value)} {st : List Value} {h : CH} {o1 o2 : Option σ} {x y : Int32} {off : Int} {dc : Decidable (y < x)} (hd : decode cc pc = .ok (.if_icmp .le off, 3)) (ht : (pc : Int) + off = (t : Int)) (hn : pc + 3 = n) (k1 : y < x → Imp κ n ls st h o1) (k2 : ¬ (y < x) → Imp κ t ls st h o2) : Imp κ pc ls (.int y :: .int x :: st) h (@ite _ (y < x) dc o1 o2) := by
  obtain ⟨p, l, e, R, s, m, args, below, meth, c, D, cid, ad, lv, A, cells, slots, Q⟩ := κ
  obtain ⟨⟨hx, hb, hml, hown, hts⟩, -⟩ := C
  subst hn
  intro v hv H locs ls0 hP hD hS hl
  exact lv_icmp_le hx hb hd ht (fun g => k2 (Int32.not_lt.mpr g) v (by rw [if_neg (Int32.not_lt.mpr g)] at hv; exact hv) H locs ls0 hP hD hS hl) (fun g => k1 (Int32.not_le.mp g) v (by rw [if_pos (Int32.not_le.mp g)] at hv; exact hv) H locs ls0 hP hD hS hl)
theorem r_goto {σ : Type} {κ : Kx σ} {cc : ByteArray} {own : String} {nL fr lo : Nat} {T : List Nat} (C : Cx κ cc own nL fr lo T) {pc : Nat} (t : Nat) {ls : List (Nat × Value)} {st : List Value} {h : CH} {o : Option σ} {off : Int} (hd : decode cc pc = .ok (.goto off, 3)) (ht : (pc : Int) + off = (t : Int)) (k : Imp κ t ls st h o) : Imp κ pc ls st h o := by
  obtain ⟨p, l, e, R, s, m, args, below, meth, c, D, cid, ad, lv, A, cells, slots, Q⟩ := κ
  obtain ⟨⟨hx, hb, hml, hown, hts⟩, -⟩ := C
  intro v hv H locs ls0 hP hD hS hl
  exact lv_goto hx hb hd ht (k v hv H locs ls0 hP hD hS hl)
theorem r_ifnull {σ : Type} {κ : Kx σ} {cc : ByteArray} {own : String} {nL fr lo : Nat} {T : List Nat} (C : Cx κ cc own nL fr lo T) {pc : Nat} (n : Nat) {ls : List (Nat × Value)} {st : List Value} {h : CH} {o : Option σ} {x : Nat} {off : Int} (hd : decode cc pc = .ok (.ifnull off, 3)) (hn : pc + 3 = n) (k : Imp κ n ls st h o) : Imp κ pc ls (.ref x :: st) h o := by
  obtain ⟨p, l, e, R, s, m, args, below, meth, c, D, cid, ad, lv, A, cells, slots, Q⟩ := κ
  obtain ⟨⟨hx, hb, hml, hown, hts⟩, -⟩ := C
  subst hn
  intro v hv H locs ls0 hP hD hS hl
  exact lv_ifnull hx hb hd (k v hv H locs ls0 hP hD hS hl)
theorem r_ifnullN {σ : Type} {κ : Kx σ} {cc : ByteArray} {own : String} {nL fr lo : Nat} {T : List Nat} (C : Cx κ cc own nL fr lo T) {pc : Nat} (t : Nat) {ls : List (Nat × Value)} {st : List Value} {h : CH} {o : Option σ} {off : Int} (hd : decode cc pc = .ok (.ifnull off, 3)) (ht : (pc : Int) + off = (t : Int)) (k : Imp κ t ls st h o) : Imp κ pc ls (.null :: st) h o := by
  obtain ⟨p, l, e, R, s, m, args, below, meth, c, D, cid, ad, lv, A, cells, slots, Q⟩ := κ
  obtain ⟨⟨hx, hb, hml, hown, hts⟩, -⟩ := C
  intro v hv H locs ls0 hP hD hS hl
  exact lv_ifnullN hx hb hd ht (k v hv H locs ls0 hP hD hS hl)
theorem r_ifnonnull {σ : Type} {κ : Kx σ} {cc : ByteArray} {own : String} {nL fr lo : Nat} {T : List Nat} (C : Cx κ cc own nL fr lo T) {pc : Nat} (t : Nat) {ls : List (Nat × Value)} {st : List Value} {h : CH} {o : Option σ} {x : Nat} {off : Int} (hd : decode cc pc = .ok (.ifnonnull off, 3)) (ht : (pc : Int) + off = (t : Int)) (k : Imp κ t ls st h o) : Imp κ pc ls (.ref x :: st) h o := by
  obtain ⟨p, l, e, R, s, m, args, below, meth, c, D, cid, ad, lv, A, cells, slots, Q⟩ := κ
  obtain ⟨⟨hx, hb, hml, hown, hts⟩, -⟩ := C
  intro v hv H locs ls0 hP hD hS hl
  exact lv_ifnonnull hx hb hd ht (k v hv H locs ls0 hP hD hS hl)
theorem r_ifnonnullN {σ : Type} {κ : Kx σ} {cc : ByteArray} {own : String} {nL fr lo : Nat} {T : List Nat} (C : Cx κ cc own nL fr lo T) {pc : Nat} (n : Nat) {ls : List (Nat × Value)} {st : List Value} {h : CH} {o : Option σ} {off : Int} (hd : decode cc pc = .ok (.ifnonnull off, 3)) (hn : pc + 3 = n) (k : Imp κ n ls st h o) : Imp κ pc ls (.null :: st) h o := by
  obtain ⟨p, l, e, R, s, m, args, below, meth, c, D, cid, ad, lv, A, cells, slots, Q⟩ := κ
  obtain ⟨⟨hx, hb, hml, hown, hts⟩, -⟩ := C
  subst hn
  intro v hv H locs ls0 hP hD hS hl
  exact lv_ifnonnullN hx hb hd (k v hv H locs ls0 hP hD hS hl)
theorem r_ldc2 {σ : Type} {κ : Kx σ} {cc : ByteArray} {own : String} {nL fr lo : Nat} {T : List Nat} (C : Cx κ cc own nL fr lo T) {pc : Nat} (n : Nat) {ls : List (Nat × Value)} {st : List Value} {h : CH} {o : Option σ} {idx : Nat} {w : Int64} (hL : LC own idx w) (hd : decode cc pc = .ok (.ldc2_w idx, 3)) (hn : pc + 3 = n) (k : Imp κ n ls (.long w :: st) h o) : Imp κ pc ls st h o := by
  obtain ⟨p, l, e, R, s, m, args, below, meth, c, D, cid, ad, lv, A, cells, slots, Q⟩ := κ
  obtain ⟨⟨hx, hb, hml, hown, hts⟩, -⟩ := C
  subst hn
  intro v hv H locs ls0 hP hD hS hl
  exact lv_ldc2 hx hb hown (hts _ hL) hd (k v hv H locs ls0 hP hD hS hl)
theorem r_ldc {σ : Type} {κ : Kx σ} {cc : ByteArray} {own : String} {nL fr lo : Nat} {T : List Nat} (C : Cx κ cc own nL fr lo T) {pc : Nat} (n : Nat) {ls : List (Nat × Value)} {st : List Value} {h : CH} {o : Option σ} {idx : Nat} {w : Int32} (hL : LK own idx w) (hd : decode cc pc = .ok (.ldc idx, 2)) (hn : pc + 2 = n) (k : Imp κ n ls (.int w :: st) h o) : Imp κ pc ls st h o := by
  obtain ⟨p, l, e, R, s, m, args, below, meth, c, D, cid, ad, lv, A, cells, slots, Q⟩ := κ
  obtain ⟨⟨hx, hb, hml, hown, hts⟩, -⟩ := C
  subst hn
  intro v hv H locs ls0 hP hD hS hl
  exact lv_ldc hx hb hown (hts _ hL) hd (k v hv H locs ls0 hP hD hS hl)
theorem r_tsIn {σ : Type} {κ : Kx σ} {cc : ByteArray} {own : String} {nL fr lo : Nat} {T : List Nat} (C : Cx κ cc own nL fr lo T) {pc : Nat} (t : Nat) {ls : List (Nat × Value)} {st : List Value} {h : CH} {o : Option σ} {dflt lo1 hi1 off : Int} {offs : Array Int} {len : Nat} {x : Int32} (w : Int32) (hw : x = w) (hd : decode cc pc = .ok (.tableswitch dflt lo1 hi1 offs, len)) (h1 : ¬ w.toInt < lo1) (h2 : ¬ hi1 < w.toInt) (ho : offs[(w.toInt - lo1).toNat]? = some off) (ht : (pc : Int) + off = (t : Int)) (k : Imp κ t ls st h o) : Imp κ pc ls (.int x :: st) h o := by
  obtain ⟨p, l, e, R, s, m, args, below, meth, c, D, cid, ad, lv, A, cells, slots, Q⟩ := κ
  obtain ⟨⟨hx, hb, hml, hown, hts⟩, -⟩ := C
  subst hw
  intro v hv H locs ls0 hP hD hS hl
  exact lv_tableIn hx hb hd h1 h2 ho ht (k v hv H locs ls0 hP hD hS hl)
theorem r_tsOut {σ : Type} {κ : Kx σ} {cc : ByteArray} {own : String} {nL fr lo : Nat} {T : List Nat} (C : Cx κ cc own nL fr lo T) {pc : Nat} (t : Nat) {ls : List (Nat × Value)} {st : List Value} {h : CH} {o : Option σ} {dflt lo1 hi1 : Int} {offs : Array Int} {len : Nat} {x : Int32} (hd : decode cc pc = .ok (.tableswitch dflt lo1 hi1 offs, len)) (h1 : x.toInt < lo1 ∨ hi1 < x.toInt) (ht : (pc : Int) + dflt = (t : Int)) (k : Imp κ t ls st h o) : Imp κ pc ls (.int x :: st) h o := by
  obtain ⟨p, l, e, R, s, m, args, below, meth, c, D, cid, ad, lv, A, cells, slots, Q⟩ := κ
  obtain ⟨⟨hx, hb, hml, hown, hts⟩, -⟩ := C
  intro v hv H locs ls0 hP hD hS hl
  exact lv_tableOut hx hb hd h1 ht (k v hv H locs ls0 hP hD hS hl)
theorem r_lookup {σ : Type} {κ : Kx σ} {cc : ByteArray} {own : String} {nL fr lo : Nat} {T : List Nat} (C : Cx κ cc own nL fr lo T) {pc : Nat} (t : Nat) {ls : List (Nat × Value)} {st : List Value} {h : CH} {o : Option σ} {dflt off : Int} {ps : Array (Int × Int)} {len : Nat} {x : Int32} (hd : decode cc pc = .ok (.lookupswitch dflt ps, len)) (hp : (ps.toList.zip (ps.toList.drop 1)).all (fun (a, next) => a.1 < next.1) = true) (ho : Op.lookupswitch.offset ps.toList dflt x.toInt = off) (ht : (pc : Int) + off = (t : Int)) (k : Imp κ t ls st h o) : Imp κ pc ls (.int x :: st) h o := by
  obtain ⟨p, l, e, R, s, m, args, below, meth, c, D, cid, ad, lv, A, cells, slots, Q⟩ := κ
  obtain ⟨⟨hx, hb, hml, hown, hts⟩, -⟩ := C
  intro v hv H locs ls0 hP hD hS hl
  exact lv_lookup hx hb hd hp ho ht (k v hv H locs ls0 hP hD hS hl)
theorem r_getI {σ : Type} {κ : Kx σ} {cc : ByteArray} {own : String} {nL fr lo : Nat} {T : List Nat} (C : Cx κ cc own nL fr lo T) {pc : Nat} (n : Nat) {ls : List (Nat × Value)} {st : List Value} {h : CH} {o : Option σ} {idx ci k a : Nat} {ty : FieldType} {fin : Bool} (hd : decode cc pc = .ok (.getfield idx, 3)) (hF : FL own idx ci k ty fin 0) (hk : KT.getD a (9, 0) = (0, ci)) (ha : okid a T = true) (hn : pc + 3 = n) (kk : Imp κ n ls (.int (h.1 a k) :: st) h o) : Imp κ pc ls (.ref (kad κ a) :: st) h o := by
  obtain ⟨p, l, e, R, s, m, args, below, meth, c, D, cid, ad, lv, A, cells, slots, Q⟩ := κ
  obtain ⟨⟨hx, hb, hml, hown, hts⟩, hK, hnd, hlv, hT, -⟩ := C
  subst hn
  intro v hv H locs ls0 hP hD hS hl
  obtain ⟨C1, T1, N1, ty0, hc, hN, hkN, hlk, hin, hty, hnm, e1, e2, e3⟩ := hF
  obtain ⟨q0, hq, he⟩ := wl_get (cid := cid) (ad := ad) (h := h) (rfl_of_mem ha hlv hT)
  have he2 : (wl cid ad lv h)[q0]? = some (ad a, .inr (ci, fvs ad h a ci)) := by rw [he]; unfold cellE; rw [hk]; rfl
  exact va_get (v := .int (h.1 a k)) hx hb hts hin hown hK hP q0 he2 hc k hkN (hts _ hlk) (fun _ h9 => h9) (by rw [fvs_get (by rw [← hN]; exact hkN)]; unfold fv; rw [e3]; rfl) hd (kk v hv H locs ls0 hP hD hS hl)
theorem r_getL {σ : Type} {κ : Kx σ} {cc : ByteArray} {own : String} {nL fr lo : Nat} {T : List Nat} (C : Cx κ cc own nL fr lo T) {pc : Nat} (n : Nat) {ls : List (Nat × Value)} {st : List Value} {h : CH} {o : Option σ} {idx ci k a : Nat} {ty : FieldType} {fin : Bool} (hd : decode cc pc = .ok (.getfield idx, 3)) (hF : FL own idx ci k ty fin 1) (hk : KT.getD a (9, 0) = (0, ci)) (ha : okid a T = true) (hn : pc + 3 = n) (kk : Imp κ n ls (.long (h.2 a k) :: st) h o) : Imp κ pc ls (.ref (kad κ a) :: st) h o := by
  obtain ⟨p, l, e, R, s, m, args, below, meth, c, D, cid, ad, lv, A, cells, slots, Q⟩ := κ
  obtain ⟨⟨hx, hb, hml, hown, hts⟩, hK, hnd, hlv, hT, -⟩ := C
  subst hn
  intro v hv H locs ls0 hP hD hS hl
  obtain ⟨C1, T1, N1, ty0, hc, hN, hkN, hlk, hin, hty, hnm, e1, e2, e3⟩ := hF
  obtain ⟨q0, hq, he⟩ := wl_get (cid := cid) (ad := ad) (h := h) (rfl_of_mem ha hlv hT)
  have he2 : (wl cid ad lv h)[q0]? = some (ad a, .inr (ci, fvs ad h a ci)) := by rw [he]; unfold cellE; rw [hk]; rfl
  exact va_get (v := .long (h.2 a k)) hx hb hts hin hown hK hP q0 he2 hc k hkN (hts _ hlk) (fun _ h9 => h9) (by rw [fvs_get (by rw [← hN]; exact hkN)]; unfold fv; rw [e3]; rfl) hd (kk v hv H locs ls0 hP hD hS hl)
theorem r_getR {σ : Type} {κ : Kx σ} {cc : ByteArray} {own : String} {nL fr lo : Nat} {T : List Nat} (C : Cx κ cc own nL fr lo T) {pc : Nat} (n : Nat) {ls : List (Nat × Value)} {st : List Value} {h : CH} {o : Option σ} {idx ci k a b : Nat} {ty : FieldType} {fin : Bool} (hd : decode cc pc = .ok (.getfield idx, 3)) (hF : FL own idx ci k ty fin 2) (hk : KT.getD a (9, 0) = (0, ci)) (ha : okid a T = true) (hR : RF a k = some b) (hn : pc + 3 = n) (kk : Imp κ n ls (.ref (kad κ b) :: st) h o) : Imp κ pc ls (.ref (kad κ a) :: st) h o := by
  obtain ⟨p, l, e, R, s, m, args, below, meth, c, D, cid, ad, lv, A, cells, slots, Q⟩ := κ
  obtain ⟨⟨hx, hb, hml, hown, hts⟩, hK, hnd, hlv, hT, -⟩ := C
  subst hn
  intro v hv H locs ls0 hP hD hS hl
  obtain ⟨C1, T1, N1, ty0, hc, hN, hkN, hlk, hin, hty, hnm, e1, e2, e3⟩ := hF
  obtain ⟨q0, hq, he⟩ := wl_get (cid := cid) (ad := ad) (h := h) (rfl_of_mem ha hlv hT)
  have he2 : (wl cid ad lv h)[q0]? = some (ad a, .inr (ci, fvs ad h a ci)) := by rw [he]; unfold cellE; rw [hk]; rfl
  exact va_get (v := .ref (ad b)) hx hb hts hin hown hK hP q0 he2 hc k hkN (hts _ hlk) (fun _ h9 => h9) (by rw [fvs_get (by rw [← hN]; exact hkN)]; unfold fv; rw [e3, hR]; rfl) hd (kk v hv H locs ls0 hP hD hS hl)
theorem r_putI {σ : Type} {κ : Kx σ} {cc : ByteArray} {own : String} {nL fr lo : Nat} {T : List Nat} (C : Cx κ cc own nL fr lo T) {pc : Nat} (n : Nat) {ls : List (Nat × Value)} {st : List Value} {h : CH}  {idx ci k a : Nat} {x : Int32} {K : CH → Option σ} (hd : decode cc pc = .ok (.putfield idx, 3)) (hF : FL own idx ci k .int false 0) (hk : KT.getD a (9, 0) = (0, ci)) (ha : okid a T = true) (hn : pc + 3 = n) (kk : ∀ h1, Imp κ n ls st h1 (K h1)) : Imp κ pc ls (.int x :: .ref (kad κ a) :: st) h (wrF h a k x K) := by
  obtain ⟨p, l, e, R, s, m, args, below, meth, c, D, cid, ad, lv, A, cells, slots, Q⟩ := κ
  obtain ⟨⟨hx, hb, hml, hown, hts⟩, hK, hnd, hlv, hT, -⟩ := C
  subst hn
  intro v hv H locs ls0 hP hD hS hl
  obtain ⟨C1, T1, N1, ty0, hc, hN, hkN, hlk, hin, hty, hnm, e1, e2, e3⟩ := hF
  obtain ⟨q0, hq, he⟩ := wl_get (cid := cid) (ad := ad) (h := h) (rfl_of_mem ha hlv hT)
  have he2 : (wl cid ad lv h)[q0]? = some (ad a, .inr (ci, fvs ad h a ci)) := by rw [he]; unfold cellE; rw [hk]; rfl
  have hfs : ∀ h' : CH, h' = sI h a k x → (fvs ad h a ci).set k (.int x) = fvs ad h' a ci := by
    intro h' e9
    subst e9
    apply List.ext_getElem?
    intro j
    rw [List.getElem?_set, fvs_len]
    by_cases hj : k = j
    · subst hj
      rw [if_pos rfl, if_pos (by rw [← hN]; exact hkN), fvs_get (by rw [← hN]; exact hkN)]
      unfold fv
      rw [e3]
      simp [sI]
    · rw [if_neg hj]
      by_cases hj2 : j < (FT.getD ci []).length
      · rw [fvs_get hj2, fvs_get hj2]
        unfold fv
        simp [sI, Ne.symm hj]
      · rw [List.getElem?_eq_none (by rw [fvs_len]; omega), List.getElem?_eq_none (by rw [fvs_len]; omega)]
  have hv : K (sI h a k x) = some v := hv
  refine va_put (v := .int x) (ty := .int) hx hb hts hin ty0 hty hnm hown hK hP hD hS q0 he2 hc k hkN (hts _ hlk) (fun _ h9 => h9) e2 (by rw [hty k hkN, e1]) rfl rfl (by rw [fvs_len, ← hN]; exact hkN) hd (fun H1 locs1 hP1 hD1 hS1 => ?_)
  have hcell : (Sum.inr (ci, (fvs ad h a ci).set k (.int x)) : va_E) = cellE cid ad (sI h a k x) a := by rw [hfs _ rfl]; unfold cellE; rw [hk]; rfl
  rw [hcell, wl_set hnd hq (fun b hb => cellE_sI hb)] at hP1 hD1
  exact kk _ v hv H1 locs1 ls0 hP1 hD1 hS1 hl
theorem r_putZ {σ : Type} {κ : Kx σ} {cc : ByteArray} {own : String} {nL fr lo : Nat} {T : List Nat} (C : Cx κ cc own nL fr lo T) {pc : Nat} (n : Nat) {ls : List (Nat × Value)} {st : List Value} {h : CH}  {idx ci k a : Nat} {x : Int32} {K : CH → Option σ} (hd : decode cc pc = .ok (.putfield idx, 3)) (hF : FL own idx ci k .boolean false 0) (hk : KT.getD a (9, 0) = (0, ci)) (ha : okid a T = true) (hn : pc + 3 = n) (kk : ∀ h1, Imp κ n ls st h1 (K h1)) : Imp κ pc ls (.int x :: .ref (kad κ a) :: st) h (wrG h a k x K) := by
  obtain ⟨p, l, e, R, s, m, args, below, meth, c, D, cid, ad, lv, A, cells, slots, Q⟩ := κ
  obtain ⟨⟨hx, hb, hml, hown, hts⟩, hK, hnd, hlv, hT, -⟩ := C
  subst hn
  intro v hv H locs ls0 hP hD hS hl
  obtain ⟨C1, T1, N1, ty0, hc, hN, hkN, hlk, hin, hty, hnm, e1, e2, e3⟩ := hF
  obtain ⟨q0, hq, he⟩ := wl_get (cid := cid) (ad := ad) (h := h) (rfl_of_mem ha hlv hT)
  have he2 : (wl cid ad lv h)[q0]? = some (ad a, .inr (ci, fvs ad h a ci)) := by rw [he]; unfold cellE; rw [hk]; rfl
  have hfs : ∀ h' : CH, h' = sI h a k x → (fvs ad h a ci).set k (.int x) = fvs ad h' a ci := by
    intro h' e9
    subst e9
    apply List.ext_getElem?
    intro j
    rw [List.getElem?_set, fvs_len]
    by_cases hj : k = j
    · subst hj
      rw [if_pos rfl, if_pos (by rw [← hN]; exact hkN), fvs_get (by rw [← hN]; exact hkN)]
      unfold fv
      rw [e3]
      simp [sI]
    · rw [if_neg hj]
      by_cases hj2 : j < (FT.getD ci []).length
      · rw [fvs_get hj2, fvs_get hj2]
        unfold fv
        simp [sI, Ne.symm hj]
      · rw [List.getElem?_eq_none (by rw [fvs_len]; omega), List.getElem?_eq_none (by rw [fvs_len]; omega)]
  have hz : x = 0 ∨ x = 1 := by
    unfold wrG at hv
    by_cases hz : x = 0 ∨ x = 1
    · exact hz
    · rw [if_neg hz] at hv; cases hv
  have hv : K (sI h a k x) = some v := by unfold wrG at hv; rw [if_pos hz] at hv; exact hv
  refine va_put (v := .int x) (ty := .boolean) hx hb hts hin ty0 hty hnm hown hK hP hD hS q0 he2 hc k hkN (hts _ hlk) (fun _ h9 => h9) e2 (by rw [hty k hkN, e1]) (by rcases hz with rfl | rfl <;> rfl) (by rcases hz with rfl | rfl <;> rfl) (by rw [fvs_len, ← hN]; exact hkN) hd (fun H1 locs1 hP1 hD1 hS1 => ?_)
  have hcell : (Sum.inr (ci, (fvs ad h a ci).set k (.int x)) : va_E) = cellE cid ad (sI h a k x) a := by rw [hfs _ rfl]; unfold cellE; rw [hk]; rfl
  rw [hcell, wl_set hnd hq (fun b hb => cellE_sI hb)] at hP1 hD1
  exact kk _ v hv H1 locs1 ls0 hP1 hD1 hS1 hl
theorem r_putJ {σ : Type} {κ : Kx σ} {cc : ByteArray} {own : String} {nL fr lo : Nat} {T : List Nat} (C : Cx κ cc own nL fr lo T) {pc : Nat} (n : Nat) {ls : List (Nat × Value)} {st : List Value} {h : CH}  {idx ci k a : Nat} {x : Int64} {K : CH → Option σ} (hd : decode cc pc = .ok (.putfield idx, 3)) (hF : FL own idx ci k .long false 1) (hk : KT.getD a (9, 0) = (0, ci)) (ha : okid a T = true) (hn : pc + 3 = n) (kk : ∀ h1, Imp κ n ls st h1 (K h1)) : Imp κ pc ls (.long x :: .ref (kad κ a) :: st) h (wrJ h a k x K) := by
  obtain ⟨p, l, e, R, s, m, args, below, meth, c, D, cid, ad, lv, A, cells, slots, Q⟩ := κ
  obtain ⟨⟨hx, hb, hml, hown, hts⟩, hK, hnd, hlv, hT, -⟩ := C
  subst hn
  intro v hv H locs ls0 hP hD hS hl
  obtain ⟨C1, T1, N1, ty0, hc, hN, hkN, hlk, hin, hty, hnm, e1, e2, e3⟩ := hF
  obtain ⟨q0, hq, he⟩ := wl_get (cid := cid) (ad := ad) (h := h) (rfl_of_mem ha hlv hT)
  have he2 : (wl cid ad lv h)[q0]? = some (ad a, .inr (ci, fvs ad h a ci)) := by rw [he]; unfold cellE; rw [hk]; rfl
  have hfs : ∀ h' : CH, h' = sL h a k x → (fvs ad h a ci).set k (.long x) = fvs ad h' a ci := by
    intro h' e9
    subst e9
    apply List.ext_getElem?
    intro j
    rw [List.getElem?_set, fvs_len]
    by_cases hj : k = j
    · subst hj
      rw [if_pos rfl, if_pos (by rw [← hN]; exact hkN), fvs_get (by rw [← hN]; exact hkN)]
      unfold fv
      rw [e3]
      simp [sL]
    · rw [if_neg hj]
      by_cases hj2 : j < (FT.getD ci []).length
      · rw [fvs_get hj2, fvs_get hj2]
        unfold fv
        simp [sL, Ne.symm hj]
      · rw [List.getElem?_eq_none (by rw [fvs_len]; omega), List.getElem?_eq_none (by rw [fvs_len]; omega)]
  have hv : K (sL h a k x) = some v := hv
  refine va_put (v := .long x) (ty := .long) hx hb hts hin ty0 hty hnm hown hK hP hD hS q0 he2 hc k hkN (hts _ hlk) (fun _ h9 => h9) e2 (by rw [hty k hkN, e1]) rfl rfl (by rw [fvs_len, ← hN]; exact hkN) hd (fun H1 locs1 hP1 hD1 hS1 => ?_)
  have hcell : (Sum.inr (ci, (fvs ad h a ci).set k (.long x)) : va_E) = cellE cid ad (sL h a k x) a := by rw [hfs _ rfl]; unfold cellE; rw [hk]; rfl
  rw [hcell, wl_set hnd hq (fun b hb => cellE_sL hb)] at hP1 hD1
  exact kk _ v hv H1 locs1 ls0 hP1 hD1 hS1 hl
theorem r_iald {σ : Type} {κ : Kx σ} {cc : ByteArray} {own : String} {nL fr lo : Nat} {T : List Nat} (C : Cx κ cc own nL fr lo T) {pc : Nat} (n : Nat) {ls : List (Nat × Value)} {st : List Value} {h : CH}  {a N : Nat} {i : Int32} {K : Int32 → Option σ} (hd : decode cc pc = .ok (.iaload, 1)) (hk : KT.getD a (9, 0) = (1, N)) (ha : okid a T = true) (hn : pc + 1 = n) (kk : ∀ x, Imp κ n ls (.int x :: st) h (K x)) : Imp κ pc ls (.int i :: .ref (kad κ a) :: st) h (rdA h a N i K) := by
  obtain ⟨p, l, e, R, s, m, args, below, meth, c, D, cid, ad, lv, A, cells, slots, Q⟩ := κ
  obtain ⟨⟨hx, hb, hml, hown, hts⟩, hK, hnd, hlv, hT, -⟩ := C
  subst hn
  intro v hv H locs ls0 hP hD hS hl
  obtain ⟨q0, hq, he⟩ := wl_get (cid := cid) (ad := ad) (h := h) (rfl_of_mem ha hlv hT)
  have he2 : (wl cid ad lv h)[q0]? = some (ad a, .inl (cid 0, N, .inl (h.1 a))) := by rw [he]; unfold cellE; rw [hk]; rfl
  unfold rdA at hv
  by_cases hin : inb i N = true
  · rw [if_pos hin] at hv
    exact va_iald hx hb hK hP q0 0 he2 rfl (vp_of_inb hin) hd (kk _ v hv H locs ls0 hP hD hS hl)
  · rw [if_neg hin] at hv; cases hv
theorem r_bald {σ : Type} {κ : Kx σ} {cc : ByteArray} {own : String} {nL fr lo : Nat} {T : List Nat} (C : Cx κ cc own nL fr lo T) {pc : Nat} (n : Nat) {ls : List (Nat × Value)} {st : List Value} {h : CH}  {a N : Nat} {i : Int32} {K : Int32 → Option σ} (hd : decode cc pc = .ok (.baload, 1)) (hk : KT.getD a (9, 0) = (2, N)) (ha : okid a T = true) (hn : pc + 1 = n) (kk : ∀ x, Imp κ n ls (.int x :: st) h (K x)) : Imp κ pc ls (.int i :: .ref (kad κ a) :: st) h (rdA h a N i K) := by
  obtain ⟨p, l, e, R, s, m, args, below, meth, c, D, cid, ad, lv, A, cells, slots, Q⟩ := κ
  obtain ⟨⟨hx, hb, hml, hown, hts⟩, hK, hnd, hlv, hT, -⟩ := C
  subst hn
  intro v hv H locs ls0 hP hD hS hl
  obtain ⟨q0, hq, he⟩ := wl_get (cid := cid) (ad := ad) (h := h) (rfl_of_mem ha hlv hT)
  have he2 : (wl cid ad lv h)[q0]? = some (ad a, .inl (cid 1, N, .inl (h.1 a))) := by rw [he]; unfold cellE; rw [hk]; rfl
  unfold rdA at hv
  by_cases hin : inb i N = true
  · rw [if_pos hin] at hv
    exact va_bald hx hb hK hP q0 1 he2 rfl (vp_of_inb hin) hd (kk _ v hv H locs ls0 hP hD hS hl)
  · rw [if_neg hin] at hv; cases hv
theorem r_zald {σ : Type} {κ : Kx σ} {cc : ByteArray} {own : String} {nL fr lo : Nat} {T : List Nat} (C : Cx κ cc own nL fr lo T) {pc : Nat} (n : Nat) {ls : List (Nat × Value)} {st : List Value} {h : CH}  {a N : Nat} {i : Int32} {K : Int32 → Option σ} (hd : decode cc pc = .ok (.baload, 1)) (hk : KT.getD a (9, 0) = (3, N)) (ha : okid a T = true) (hn : pc + 1 = n) (kk : ∀ x, Imp κ n ls (.int x :: st) h (K x)) : Imp κ pc ls (.int i :: .ref (kad κ a) :: st) h (rdA h a N i K) := by
  obtain ⟨p, l, e, R, s, m, args, below, meth, c, D, cid, ad, lv, A, cells, slots, Q⟩ := κ
  obtain ⟨⟨hx, hb, hml, hown, hts⟩, hK, hnd, hlv, hT, -⟩ := C
  subst hn
  intro v hv H locs ls0 hP hD hS hl
  obtain ⟨q0, hq, he⟩ := wl_get (cid := cid) (ad := ad) (h := h) (rfl_of_mem ha hlv hT)
  have he2 : (wl cid ad lv h)[q0]? = some (ad a, .inl (cid 2, N, .inl (h.1 a))) := by rw [he]; unfold cellE; rw [hk]; rfl
  unfold rdA at hv
  by_cases hin : inb i N = true
  · rw [if_pos hin] at hv
    exact va_zald hx hb hK hP q0 2 he2 rfl (vp_of_inb hin) hd (kk _ v hv H locs ls0 hP hD hS hl)
  · rw [if_neg hin] at hv; cases hv
theorem r_lald {σ : Type} {κ : Kx σ} {cc : ByteArray} {own : String} {nL fr lo : Nat} {T : List Nat} (C : Cx κ cc own nL fr lo T) {pc : Nat} (n : Nat) {ls : List (Nat × Value)} {st : List Value} {h : CH}  {a N : Nat} {i : Int32} {K : Int64 → Option σ} (hd : decode cc pc = .ok (.laload, 1)) (hk : KT.getD a (9, 0) = (4, N)) (ha : okid a T = true) (hn : pc + 1 = n) (kk : ∀ x, Imp κ n ls (.long x :: st) h (K x)) : Imp κ pc ls (.int i :: .ref (kad κ a) :: st) h (rdL h a N i K) := by
  obtain ⟨p, l, e, R, s, m, args, below, meth, c, D, cid, ad, lv, A, cells, slots, Q⟩ := κ
  obtain ⟨⟨hx, hb, hml, hown, hts⟩, hK, hnd, hlv, hT, -⟩ := C
  subst hn
  intro v hv H locs ls0 hP hD hS hl
  obtain ⟨q0, hq, he⟩ := wl_get (cid := cid) (ad := ad) (h := h) (rfl_of_mem ha hlv hT)
  have he2 : (wl cid ad lv h)[q0]? = some (ad a, .inl (cid 3, N, .inr (.inl (h.2 a)))) := by rw [he]; unfold cellE; rw [hk]; rfl
  unfold rdL at hv
  by_cases hin : inb i N = true
  · rw [if_pos hin] at hv
    exact va_lald hx hb hK hP q0 3 he2 rfl (vp_of_inb hin) hd (kk _ v hv H locs ls0 hP hD hS hl)
  · rw [if_neg hin] at hv; cases hv
theorem va_alda {p : Program} {l : Launch} {e : Env} {R : Room} {s : State} {m : MethodId} {args : Array Value} {below : List Frame} {meth : Method} {c : Code} {H : Heap} {locs : List Loc} {cells slots : Nat} {Q : State → Prop} {cc : ByteArray} {pc : Nat} {ls : Array Slot} {rest : List Value} {D : va_G} {cl : List vw_C} {a : Nat} {tys : List (ClassId × FieldType)} {ws : va_W} (hexec : p.tables.exec = Jvm.exec) (hb : c.code = cc) (hK : va_K D cl tys s) (hP : va_P D cl ws H) (q0 t0 : Nat) {cA : ClassId} {ty : FieldType} {n : Nat} {f : Nat → Option Nat} (ha : ws[q0]? = some (a, .inl (cA, n, .inr (.inr (.inr (.inr f)))))) (ht : tys[t0]? = some (cA, .array ty)) {i : Int32} (hin : vp_in i n) (hdg : decode cc pc = .ok (.aaload, 1)) (kk : W p l e R s m args below meth c H locs cells slots Q (F0 m (pc + 1) ls (va_rf (f i.toNatClampNeg) :: rest))) : W p l e R s m args below meth c H locs cells slots Q (F0 m pc ls (.int i :: .ref a :: rest)) := by
  have hlt : i.toNatClampNeg < n := Nat.not_le.mp fun q => hin (Or.inr q)
  exact W.aald (v := va_rf (f i.toNatClampNeg)) (ty := .array ty) hexec hb (hP q0 _ ha) ((hK.2 t0 _ ht).1 n (fun j => va_rf (f j))) rfl (fun q => by cases q) (by show ¬ (i < 0 ∨ (arrV _ _ _).slots.size ≤ _); rw [arrV_size]; exact hin) (by show (arrV _ _ _).slots[_]? = _; rw [arrV_read _ _ hlt]) rfl rfl hdg kk
theorem r_aald {σ : Type} {κ : Kx σ} {cc : ByteArray} {own : String} {nL fr lo : Nat} {T : List Nat} (C : Cx κ cc own nL fr lo T) {pc : Nat} (n : Nat) {ls : List (Nat × Value)} {st : List Value} {h : CH}  {a N b M : Nat} {i : Int32} {K : Nat → Option σ} (hd : decode cc pc = .ok (.aaload, 1)) (hk : KT.getD a (9, 0) = (5, N)) (ha : okid a T = true) (hR : ∀ j, j < N → RF a j = some (b + j)) (hQ : ∀ j, j < N → KT.getD (b + j) (9, 0) = (1, M) ∧ b + j < NP) (hn : pc + 1 = n) (kk : ∀ q, (KT.getD q (9, 0) = (1, M) ∧ q < NP) → Imp κ n ls (.ref (kad κ q) :: st) h (K q)) : Imp κ pc ls (.int i :: .ref (kad κ a) :: st) h (rdQ b N i K) := by
  obtain ⟨p, l, e, R, s, m, args, below, meth, c, D, cid, ad, lv, A, cells, slots, Q⟩ := κ
  obtain ⟨⟨hx, hb, hml, hown, hts⟩, hK, hnd, hlv, hT, -⟩ := C
  subst hn
  intro v hv H locs ls0 hP hD hS hl
  obtain ⟨q0, hq, he⟩ := wl_get (cid := cid) (ad := ad) (h := h) (rfl_of_mem ha hlv hT)
  have he2 : (wl cid ad lv h)[q0]? = some (ad a, .inl (cid 4, N, .inr (.inr (.inr (.inr (fun j => (RF a j).map ad)))))) := by rw [he]; unfold cellE; rw [hk]; rfl
  unfold rdQ at hv
  by_cases hin : inb i N = true
  · rw [if_pos hin] at hv
    have hlt : i.toNatClampNeg < N := Nat.not_le.mp fun q => (vp_of_inb hin) (Or.inr q)
    refine va_alda hx hb hK hP q0 4 he2 rfl (vp_of_inb hin) hd ?_
    rw [hR _ hlt]
    exact kk _ (hQ _ hlt) v hv H locs ls0 hP hD hS hl
  · rw [if_neg hin] at hv; cases hv
theorem r_aaldO {σ : Type} {κ : Kx σ} {cc : ByteArray} {own : String} {nL fr lo : Nat} {T : List Nat} (C : Cx κ cc own nL fr lo T) {pc : Nat} (n : Nat) {ls : List (Nat × Value)} {st : List Value} {h : CH}  {a N : Nat} {i : Int32} {K : Option Nat → Option σ} (hd : decode cc pc = .ok (.aaload, 1)) (hk : KT.getD a (9, 0) = (6, N)) (ha : okid a T = true) (hn : pc + 1 = n) (kk : ∀ r, Imp κ n ls (va_rf (Option.map (kad κ) r) :: st) h (K r)) : Imp κ pc ls (.int i :: .ref (kad κ a) :: st) h (rdO a N i K) := by
  obtain ⟨p, l, e, R, s, m, args, below, meth, c, D, cid, ad, lv, A, cells, slots, Q⟩ := κ
  obtain ⟨⟨hx, hb, hml, hown, hts⟩, hK, hnd, hlv, hT, -⟩ := C
  subst hn
  intro v hv H locs ls0 hP hD hS hl
  obtain ⟨q0, hq, he⟩ := wl_get (cid := cid) (ad := ad) (h := h) (rfl_of_mem ha hlv hT)
  have he2 : (wl cid ad lv h)[q0]? = some (ad a, .inl (cid 5, N, .inr (.inr (.inr (.inr (fun j => (RF a j).map ad)))))) := by rw [he]; unfold cellE; rw [hk]; rfl
  unfold rdO at hv
  by_cases hin : inb i N = true
  · rw [if_pos hin] at hv
    exact va_aldq hx hb hK hP q0 5 he2 rfl (vp_of_inb hin) hd (kk _ v hv H locs ls0 hP hD hS hl)
  · rw [if_neg hin] at hv; cases hv
theorem r_iast {σ : Type} {κ : Kx σ} {cc : ByteArray} {own : String} {nL fr lo : Nat} {T : List Nat} (C : Cx κ cc own nL fr lo T) {pc : Nat} (n : Nat) {ls : List (Nat × Value)} {st : List Value} {h : CH}  {a N : Nat} {i : Int32} {x : Int32} {K : CH → Option σ} (hd : decode cc pc = .ok (.iastore, 1)) (hk : KT.getD a (9, 0) = (1, N)) (ha : okid a T = true) (hn : pc + 1 = n) (kk : ∀ h1, Imp κ n ls st h1 (K h1)) : Imp κ pc ls (.int x :: .int i :: .ref (kad κ a) :: st) h (wrA h a N i x K) := by
  obtain ⟨p, l, e, R, s, m, args, below, meth, c, D, cid, ad, lv, A, cells, slots, Q⟩ := κ
  obtain ⟨⟨hx, hb, hml, hown, hts⟩, hK, hnd, hlv, hT, -⟩ := C
  subst hn
  intro v hv H locs ls0 hP hD hS hl
  obtain ⟨q0, hq, he⟩ := wl_get (cid := cid) (ad := ad) (h := h) (rfl_of_mem ha hlv hT)
  have he2 : (wl cid ad lv h)[q0]? = some (ad a, .inl (cid 0, N, .inl (h.1 a))) := by rw [he]; unfold cellE; rw [hk]; rfl
  unfold wrA at hv
  by_cases hin : inb i N = true
  · rw [if_pos hin] at hv
    refine va_iast hx hb hK hP hD hS q0 0 he2 rfl (vp_of_inb hin) hd (fun H1 locs1 hP1 hD1 hS1 => ?_)
    have hcell : (Sum.inl (cid 0, N, .inl (upd (h.1 a) i.toNatClampNeg x)) : va_E) = cellE cid ad (sI h a i.toNatClampNeg x) a := by
      have e9 : (sI h a i.toNatClampNeg x).1 a = upd (h.1 a) i.toNatClampNeg x := by
        funext j
        simp [sI, upd]
      unfold cellE
      rw [hk]
      show _ = (Sum.inl _ : va_E)
      rw [← e9]
    rw [hcell, wl_set hnd hq (fun b hb => cellE_sI hb)] at hP1 hD1
    exact kk _ v hv H1 locs1 ls0 hP1 hD1 hS1 hl
  · rw [if_neg hin] at hv; cases hv
theorem r_bast {σ : Type} {κ : Kx σ} {cc : ByteArray} {own : String} {nL fr lo : Nat} {T : List Nat} (C : Cx κ cc own nL fr lo T) {pc : Nat} (n : Nat) {ls : List (Nat × Value)} {st : List Value} {h : CH}  {a N : Nat} {i : Int32} {x : Int32} {K : CH → Option σ} (hd : decode cc pc = .ok (.bastore, 1)) (hk : KT.getD a (9, 0) = (2, N)) (ha : okid a T = true) (hn : pc + 1 = n) (kk : ∀ h1, Imp κ n ls st h1 (K h1)) : Imp κ pc ls (.int x :: .int i :: .ref (kad κ a) :: st) h (wrB h a N i x K) := by
  obtain ⟨p, l, e, R, s, m, args, below, meth, c, D, cid, ad, lv, A, cells, slots, Q⟩ := κ
  obtain ⟨⟨hx, hb, hml, hown, hts⟩, hK, hnd, hlv, hT, -⟩ := C
  subst hn
  intro v hv H locs ls0 hP hD hS hl
  obtain ⟨q0, hq, he⟩ := wl_get (cid := cid) (ad := ad) (h := h) (rfl_of_mem ha hlv hT)
  have he2 : (wl cid ad lv h)[q0]? = some (ad a, .inl (cid 1, N, .inl (h.1 a))) := by rw [he]; unfold cellE; rw [hk]; rfl
  unfold wrB at hv
  by_cases hin : inb i N = true
  · rw [if_pos hin] at hv
    refine va_bast hx hb hK hP hD hS q0 1 he2 rfl (vp_of_inb hin) hd (fun H1 locs1 hP1 hD1 hS1 => ?_)
    have hcell : (Sum.inl (cid 1, N, .inl (upd (h.1 a) i.toNatClampNeg (vp_nar .byte x))) : va_E) = cellE cid ad (sI h a i.toNatClampNeg (vp_nar .byte x)) a := by
      have e9 : (sI h a i.toNatClampNeg (vp_nar .byte x)).1 a = upd (h.1 a) i.toNatClampNeg (vp_nar .byte x) := by
        funext j
        simp [sI, upd]
      unfold cellE
      rw [hk]
      show _ = (Sum.inl _ : va_E)
      rw [← e9]
    rw [hcell, wl_set hnd hq (fun b hb => cellE_sI hb)] at hP1 hD1
    exact kk _ v hv H1 locs1 ls0 hP1 hD1 hS1 hl
  · rw [if_neg hin] at hv; cases hv
theorem r_zast {σ : Type} {κ : Kx σ} {cc : ByteArray} {own : String} {nL fr lo : Nat} {T : List Nat} (C : Cx κ cc own nL fr lo T) {pc : Nat} (n : Nat) {ls : List (Nat × Value)} {st : List Value} {h : CH}  {a N : Nat} {i : Int32} {x : Int32} {K : CH → Option σ} (hd : decode cc pc = .ok (.bastore, 1)) (hk : KT.getD a (9, 0) = (3, N)) (ha : okid a T = true) (hn : pc + 1 = n) (kk : ∀ h1, Imp κ n ls st h1 (K h1)) : Imp κ pc ls (.int x :: .int i :: .ref (kad κ a) :: st) h (wrZ h a N i x K) := by
  obtain ⟨p, l, e, R, s, m, args, below, meth, c, D, cid, ad, lv, A, cells, slots, Q⟩ := κ
  obtain ⟨⟨hx, hb, hml, hown, hts⟩, hK, hnd, hlv, hT, -⟩ := C
  subst hn
  intro v hv H locs ls0 hP hD hS hl
  obtain ⟨q0, hq, he⟩ := wl_get (cid := cid) (ad := ad) (h := h) (rfl_of_mem ha hlv hT)
  have he2 : (wl cid ad lv h)[q0]? = some (ad a, .inl (cid 2, N, .inl (h.1 a))) := by rw [he]; unfold cellE; rw [hk]; rfl
  unfold wrZ at hv
  by_cases hin : inb i N = true
  · rw [if_pos hin] at hv
    refine va_zast hx hb hK hP hD hS q0 2 he2 rfl (vp_of_inb hin) hd (fun H1 locs1 hP1 hD1 hS1 => ?_)
    have hcell : (Sum.inl (cid 2, N, .inl (upd (h.1 a) i.toNatClampNeg (vp_nar .boolean x))) : va_E) = cellE cid ad (sI h a i.toNatClampNeg (vp_nar .boolean x)) a := by
      have e9 : (sI h a i.toNatClampNeg (vp_nar .boolean x)).1 a = upd (h.1 a) i.toNatClampNeg (vp_nar .boolean x) := by
        funext j
        simp [sI, upd]
      unfold cellE
      rw [hk]
      show _ = (Sum.inl _ : va_E)
      rw [← e9]
    rw [hcell, wl_set hnd hq (fun b hb => cellE_sI hb)] at hP1 hD1
    exact kk _ v hv H1 locs1 ls0 hP1 hD1 hS1 hl
  · rw [if_neg hin] at hv; cases hv
theorem r_last {σ : Type} {κ : Kx σ} {cc : ByteArray} {own : String} {nL fr lo : Nat} {T : List Nat} (C : Cx κ cc own nL fr lo T) {pc : Nat} (n : Nat) {ls : List (Nat × Value)} {st : List Value} {h : CH}  {a N : Nat} {i : Int32} {x : Int64} {K : CH → Option σ} (hd : decode cc pc = .ok (.lastore, 1)) (hk : KT.getD a (9, 0) = (4, N)) (ha : okid a T = true) (hn : pc + 1 = n) (kk : ∀ h1, Imp κ n ls st h1 (K h1)) : Imp κ pc ls (.long x :: .int i :: .ref (kad κ a) :: st) h (wrL h a N i x K) := by
  obtain ⟨p, l, e, R, s, m, args, below, meth, c, D, cid, ad, lv, A, cells, slots, Q⟩ := κ
  obtain ⟨⟨hx, hb, hml, hown, hts⟩, hK, hnd, hlv, hT, -⟩ := C
  subst hn
  intro v hv H locs ls0 hP hD hS hl
  obtain ⟨q0, hq, he⟩ := wl_get (cid := cid) (ad := ad) (h := h) (rfl_of_mem ha hlv hT)
  have he2 : (wl cid ad lv h)[q0]? = some (ad a, .inl (cid 3, N, .inr (.inl (h.2 a)))) := by rw [he]; unfold cellE; rw [hk]; rfl
  unfold wrL at hv
  by_cases hin : inb i N = true
  · rw [if_pos hin] at hv
    refine va_last hx hb hK hP hD hS q0 3 he2 rfl (vp_of_inb hin) hd (fun H1 locs1 hP1 hD1 hS1 => ?_)
    have hcell : (Sum.inl (cid 3, N, .inr (.inl (vp_updL (h.2 a) i.toNatClampNeg x))) : va_E) = cellE cid ad (sL h a i.toNatClampNeg x) a := by
      have e9 : (sL h a i.toNatClampNeg x).2 a = vp_updL (h.2 a) i.toNatClampNeg x := by
        funext j
        simp [sL, vp_updL]
      unfold cellE
      rw [hk]
      show _ = (Sum.inl _ : va_E)
      rw [← e9]
    rw [hcell, wl_set hnd hq (fun b hb => cellE_sL hb)] at hP1 hD1
    exact kk _ v hv H1 locs1 ls0 hP1 hD1 hS1 hl
  · rw [if_neg hin] at hv; cases hv
theorem r_alenI {σ : Type} {κ : Kx σ} {cc : ByteArray} {own : String} {nL fr lo : Nat} {T : List Nat} (C : Cx κ cc own nL fr lo T) {pc : Nat} (n : Nat) {ls : List (Nat × Value)} {st : List Value} {h : CH} {o : Option σ} {a N : Nat} (w : Int32) (hd : decode cc pc = .ok (.arraylength, 1)) (hk : KT.getD a (9, 0) = (1, N)) (ha : okid a T = true) (hw : Int32.ofNat N = w) (hn : pc + 1 = n) (kk : Imp κ n ls (.int w :: st) h o) : Imp κ pc ls (.ref (kad κ a) :: st) h o := by
  obtain ⟨p, l, e, R, s, m, args, below, meth, c, D, cid, ad, lv, A, cells, slots, Q⟩ := κ
  obtain ⟨⟨hx, hb, hml, hown, hts⟩, hK, hnd, hlv, hT, -⟩ := C
  subst hn
  intro v hv H locs ls0 hP hD hS hl
  obtain ⟨q0, hq, he⟩ := wl_get (cid := cid) (ad := ad) (h := h) (rfl_of_mem ha hlv hT)
  have he2 : (wl cid ad lv h)[q0]? = some (ad a, .inl (cid 0, N, .inl (h.1 a))) := by rw [he]; unfold cellE; rw [hk]; rfl
  exact va_alen hx hb hK hP q0 0 he2 rfl hw hd (kk v hv H locs ls0 hP hD hS hl)
theorem r_alenB {σ : Type} {κ : Kx σ} {cc : ByteArray} {own : String} {nL fr lo : Nat} {T : List Nat} (C : Cx κ cc own nL fr lo T) {pc : Nat} (n : Nat) {ls : List (Nat × Value)} {st : List Value} {h : CH} {o : Option σ} {a N : Nat} (w : Int32) (hd : decode cc pc = .ok (.arraylength, 1)) (hk : KT.getD a (9, 0) = (2, N)) (ha : okid a T = true) (hw : Int32.ofNat N = w) (hn : pc + 1 = n) (kk : Imp κ n ls (.int w :: st) h o) : Imp κ pc ls (.ref (kad κ a) :: st) h o := by
  obtain ⟨p, l, e, R, s, m, args, below, meth, c, D, cid, ad, lv, A, cells, slots, Q⟩ := κ
  obtain ⟨⟨hx, hb, hml, hown, hts⟩, hK, hnd, hlv, hT, -⟩ := C
  subst hn
  intro v hv H locs ls0 hP hD hS hl
  obtain ⟨q0, hq, he⟩ := wl_get (cid := cid) (ad := ad) (h := h) (rfl_of_mem ha hlv hT)
  have he2 : (wl cid ad lv h)[q0]? = some (ad a, .inl (cid 1, N, .inl (h.1 a))) := by rw [he]; unfold cellE; rw [hk]; rfl
  exact va_alen hx hb hK hP q0 1 he2 rfl hw hd (kk v hv H locs ls0 hP hD hS hl)
theorem r_mmax {σ : Type} {κ : Kx σ} {cc : ByteArray} {own : String} {nL fr lo : Nat} {T : List Nat} (C : Cx κ cc own nL fr lo T) {pc : Nat} (n : Nat) {ls : List (Nat × Value)} {st : List Value} {h : CH} {o : Option σ} {x y : Int32} {idx : Nat} (hd : decode cc pc = .ok (.invokestatic idx, 3)) (hL : ∀ w ∈ ([.methodLink own idx Lib.Math.max.name, .static Lib.Math.max.name, .initialized "java/lang/Math", .code Lib.Math.max.name Lib.Math.max.code 2 (some .int)] : List Cond), w ∈ TS) (hst : (st.map fun v => v.category).sum + 13 ≤ lo) (hfr : 1 ≤ fr) (hn : pc + 3 = n) (k : Imp κ n ls (.int (if x < y then y else x) :: st) h o) : Imp κ pc ls (.int y :: .int x :: st) h o := by
  obtain ⟨p, l, e, R, s, m, args, below, meth, c, D, cid, ad, lv, A, cells, slots, Q⟩ := κ
  obtain ⟨⟨hx, hb, hml, hown, hts⟩, -, -, -, -, -, h1, h2, h3, h4⟩ := C
  subst hn
  intro v hv H locs ls0 hP hD hS hl
  exact va_mmax hx hb hl.1.symm hown (hts _ (hL _ (by simp))) (hts _ (hL _ (by simp))) (hts _ (hL _ (by simp))) (hts _ (hL _ (by simp))) (Nat.le_trans hfr h1) (Nat.le_trans hst h2) h3 h4 hd (k v hv H locs ls0 hP hD hS hl)
theorem r_mmin {σ : Type} {κ : Kx σ} {cc : ByteArray} {own : String} {nL fr lo : Nat} {T : List Nat} (C : Cx κ cc own nL fr lo T) {pc : Nat} (n : Nat) {ls : List (Nat × Value)} {st : List Value} {h : CH} {o : Option σ} {x y : Int32} {idx : Nat} (hd : decode cc pc = .ok (.invokestatic idx, 3)) (hL : ∀ w ∈ ([.methodLink own idx Lib.Math.min.name, .static Lib.Math.min.name, .initialized "java/lang/Math", .code Lib.Math.min.name Lib.Math.min.code 2 (some .int)] : List Cond), w ∈ TS) (hst : (st.map fun v => v.category).sum + 13 ≤ lo) (hfr : 1 ≤ fr) (hn : pc + 3 = n) (k : Imp κ n ls (.int (if y < x then y else x) :: st) h o) : Imp κ pc ls (.int y :: .int x :: st) h o := by
  obtain ⟨p, l, e, R, s, m, args, below, meth, c, D, cid, ad, lv, A, cells, slots, Q⟩ := κ
  obtain ⟨⟨hx, hb, hml, hown, hts⟩, -, -, -, -, -, h1, h2, h3, h4⟩ := C
  subst hn
  intro v hv H locs ls0 hP hD hS hl
  exact va_mmin hx hb hl.1.symm hown (hts _ (hL _ (by simp))) (hts _ (hL _ (by simp))) (hts _ (hL _ (by simp))) (hts _ (hL _ (by simp))) (Nat.le_trans hfr h1) (Nat.le_trans hst h2) h3 h4 hd (k v hv H locs ls0 hP hD hS hl)
theorem r_mabs {σ : Type} {κ : Kx σ} {cc : ByteArray} {own : String} {nL fr lo : Nat} {T : List Nat} (C : Cx κ cc own nL fr lo T) {pc : Nat} (n : Nat) {ls : List (Nat × Value)} {st : List Value} {h : CH} {o : Option σ} {x : Int32} {idx : Nat} (hd : decode cc pc = .ok (.invokestatic idx, 3)) (hL : ∀ w ∈ ([.methodLink own idx Lib.Math.abs.name, .static Lib.Math.abs.name, .initialized "java/lang/Math", .code Lib.Math.abs.name Lib.Math.abs.code 1 (some .int)] : List Cond), w ∈ TS) (hst : (st.map fun v => v.category).sum + 13 ≤ lo) (hfr : 1 ≤ fr) (hn : pc + 3 = n) (k : Imp κ n ls (.int (if 0 ≤ x then x else 0 - x) :: st) h o) : Imp κ pc ls (.int x :: st) h o := by
  obtain ⟨p, l, e, R, s, m, args, below, meth, c, D, cid, ad, lv, A, cells, slots, Q⟩ := κ
  obtain ⟨⟨hx, hb, hml, hown, hts⟩, -, -, -, -, -, h1, h2, h3, h4⟩ := C
  subst hn
  intro v hv H locs ls0 hP hD hS hl
  exact va_mabs hx hb hl.1.symm hown (hts _ (hL _ (by simp))) (hts _ (hL _ (by simp))) (hts _ (hL _ (by simp))) (hts _ (hL _ (by simp))) (Nat.le_trans hfr h1) (Nat.le_trans hst h2) h3 h4 hd (k v hv H locs ls0 hP hD hS hl)
theorem r_iret {σ : Type} {κ : Kx σ} {cc : ByteArray} {own : String} {nL fr lo : Nat} {T : List Nat} (C : Cx κ cc own nL fr lo T) {pc : Nat} {ls : List (Nat × Value)}  {h : CH}  {enc : σ → (Nat → Nat) → Option Value} {hp : σ → CH} (Rr : Rt κ (some .int) enc hp) {w : σ} {x : Int32}  (hd : decode cc pc = .ok (.ireturn, 1)) (he : ∀ ad, enc w ad = some (.int x)) (hh : hp w = h) : Imp κ pc ls [.int x] h (some w) := by
  obtain ⟨p, l, e, R, s, m, args, below, meth, c, D, cid, ad, lv, A, cells, slots, Q⟩ := κ
  obtain ⟨⟨hx, hb, hml, hown, hts⟩, -⟩ := C
  obtain ⟨hr, hlk, Qc, free, hQ, hE⟩ := Rr
  intro v hv H locs ls0 hP hD hS hl
  cases hv
  subst hh
  rw [hQ]
  obtain ⟨g1, g2⟩ := hE w H locs hP hD hS
  exact W.iret hx hb hr  (fun t ht hW => by rw [← he ad]; exact g1 t ht hW) g2 hd hlk
theorem r_zret {σ : Type} {κ : Kx σ} {cc : ByteArray} {own : String} {nL fr lo : Nat} {T : List Nat} (C : Cx κ cc own nL fr lo T) {pc : Nat} {ls : List (Nat × Value)}  {h : CH}  {enc : σ → (Nat → Nat) → Option Value} {hp : σ → CH} (Rr : Rt κ (some .boolean) enc hp) {w : σ} {x : Int32} (hz : x = 0 ∨ x = 1) (hd : decode cc pc = .ok (.ireturn, 1)) (he : ∀ ad, enc w ad = some (.int x)) (hh : hp w = h) : Imp κ pc ls [.int x] h (some w) := by
  obtain ⟨p, l, e, R, s, m, args, below, meth, c, D, cid, ad, lv, A, cells, slots, Q⟩ := κ
  obtain ⟨⟨hx, hb, hml, hown, hts⟩, -⟩ := C
  obtain ⟨hr, hlk, Qc, free, hQ, hE⟩ := Rr
  intro v hv H locs ls0 hP hD hS hl
  cases hv
  subst hh
  rw [hQ]
  obtain ⟨g1, g2⟩ := hE w H locs hP hD hS
  exact W.zret hx hb hr (by rcases hz with rfl | rfl <;> rfl) (fun t ht hW => by rw [← he ad]; exact g1 t ht hW) g2 hd hlk
theorem r_lret {σ : Type} {κ : Kx σ} {cc : ByteArray} {own : String} {nL fr lo : Nat} {T : List Nat} (C : Cx κ cc own nL fr lo T) {pc : Nat} {ls : List (Nat × Value)}  {h : CH}  {enc : σ → (Nat → Nat) → Option Value} {hp : σ → CH} (Rr : Rt κ (some .long) enc hp) {w : σ} {x : Int64}  (hd : decode cc pc = .ok (.lreturn, 1)) (he : ∀ ad, enc w ad = some (.long x)) (hh : hp w = h) : Imp κ pc ls [.long x] h (some w) := by
  obtain ⟨p, l, e, R, s, m, args, below, meth, c, D, cid, ad, lv, A, cells, slots, Q⟩ := κ
  obtain ⟨⟨hx, hb, hml, hown, hts⟩, -⟩ := C
  obtain ⟨hr, hlk, Qc, free, hQ, hE⟩ := Rr
  intro v hv H locs ls0 hP hD hS hl
  cases hv
  subst hh
  rw [hQ]
  obtain ⟨g1, g2⟩ := hE w H locs hP hD hS
  exact W.lret hx hb hr  (fun t ht hW => by rw [← he ad]; exact g1 t ht hW) g2 hd hlk
theorem r_zretg {σ : Type} {κ : Kx σ} {cc : ByteArray} {own : String} {nL fr lo : Nat} {T : List Nat} (C : Cx κ cc own nL fr lo T) {pc : Nat} {ls : List (Nat × Value)}  {h : CH}  {enc : σ → (Nat → Nat) → Option Value} {hp : σ → CH} (Rr : Rt κ (some .boolean) enc hp) {w : σ} {x : Int32} (hd : decode cc pc = .ok (.ireturn, 1)) (he : ∀ ad, enc w ad = some (.int x)) (hh : hp w = h) : Imp κ pc ls [.int x] h (rz x w) := by
  unfold rz
  refine imp_ite (fun hz => r_zret C Rr hz hd he hh) (fun _ => imp_none)
theorem r_vret {σ : Type} {κ : Kx σ} {cc : ByteArray} {own : String} {nL fr lo : Nat} {T : List Nat} (C : Cx κ cc own nL fr lo T) {pc : Nat} {ls : List (Nat × Value)}  {h : CH}  {enc : σ → (Nat → Nat) → Option Value} {hp : σ → CH} (Rr : Rt κ none enc hp) {w : σ} (hd : decode cc pc = .ok (.return_, 1)) (he : ∀ ad, enc w ad = none) (hh : hp w = h) : Imp κ pc ls [] h (some w) := by
  obtain ⟨p, l, e, R, s, m, args, below, meth, c, D, cid, ad, lv, A, cells, slots, Q⟩ := κ
  obtain ⟨⟨hx, hb, hml, hown, hts⟩, -⟩ := C
  obtain ⟨hr, hlk, Qc, free, hQ, hE⟩ := Rr
  intro v hv H locs ls0 hP hD hS hl
  cases hv
  subst hh
  rw [hQ]
  obtain ⟨g1, g2⟩ := hE w H locs hP hD hS
  exact W.vret hx hb hr (fun t ht hW => by rw [← he ad]; exact g1 t ht hW) g2 hd hlk
theorem r_aret {σ : Type} {κ : Kx σ} {cc : ByteArray} {own : String} {nL fr lo : Nat} {T : List Nat} (C : Cx κ cc own nL fr lo T) {pc : Nat} {ls : List (Nat × Value)}  {h : CH}  {enc : σ → (Nat → Nat) → Option Value} {hp : σ → CH} {rt : FieldType} (Rr : Rt κ (some rt) enc hp) {w : σ} {x : Value} (hrt : (∃ n, rt = .object n) ∨ ∃ t, rt = .array t) (hxv : x = .null ∨ ∃ a, x = .ref a) (hd : decode cc pc = .ok (.areturn, 1)) (he : enc w (kad κ) = some x) (hh : hp w = h) : Imp κ pc ls [x] h (some w) := by
  obtain ⟨p, l, e, R, s, m, args, below, meth, c, D, cid, ad, lv, A, cells, slots, Q⟩ := κ
  obtain ⟨⟨hx, hb, hml, hown, hts⟩, -⟩ := C
  obtain ⟨hr, hlk, Qc, free, hQ, hE⟩ := Rr
  intro v hv H locs ls0 hP hD hS hl
  cases hv
  subst hh
  rw [hQ]
  obtain ⟨g1, g2⟩ := hE w H locs hP hD hS
  have he : enc w ad = some x := he
  exact W.aret hx hb hr hrt hxv (fun t ht hW => by rw [← he]; exact g1 t ht hW) g2 hd hlk
theorem rf_or {f : Nat → Nat} (r : Option Nat) : va_rf (Option.map f r) = .null ∨ ∃ a, va_rf (Option.map f r) = .ref a := by
  cases r
  · exact Or.inl rfl
  · exact Or.inr ⟨_, rfl⟩
theorem r_aload_nO {σ : Type} {κ : Kx σ} {cc : ByteArray} {own : String} {nL fr lo : Nat} {T : List Nat} (C : Cx κ cc own nL fr lo T) {pc : Nat} (n : Nat) {ls : List (Nat × Value)} {st : List Value} {h : CH} {o : Option σ} {i : Fin 4} {f : Nat → Nat} {r : Option Nat} (j : Nat) (hj : ls[j]? = some ((i : Nat), va_rf (Option.map f r))) (hd : decode cc pc = .ok (.aload_n i, 1)) (hn : pc + 1 = n) (k : Imp κ n ls (va_rf (Option.map f r) :: st) h o) : Imp κ pc ls st h o := by
  cases r with
  | none => exact r_aload_nN C n j hj hd hn k
  | some x => exact r_aload_n C n j hj hd hn k
theorem r_astore_nO {σ : Type} {κ : Kx σ} {cc : ByteArray} {own : String} {nL fr lo : Nat} {T : List Nat} (C : Cx κ cc own nL fr lo T) {pc : Nat} (n : Nat) {ls : List (Nat × Value)} {st : List Value} {h : CH} {o : Option σ} (i : Nat) {i4 : Fin 4} {f : Nat → Nat} {r : Option Nat} (ls' : List (Nat × Value)) (hd : decode cc pc = .ok (.astore_n i4, 1)) (hi4 : (i4 : Nat) = i) (hi : i < nL) (hl' : (i, va_rf (Option.map f r)) :: ls.filter (fun q => !(q.1 == i) && !(q.1 + 1 == i && q.2.category == 2)) = ls') (hn : pc + 1 = n) (k : Imp κ n ls' st h o) : Imp κ pc ls (va_rf (Option.map f r) :: st) h o := by
  cases r with
  | none => exact r_astore_nN C n i ls' hd hi4 hi hl' hn k
  | some x => exact r_astore_n C n i ls' hd hi4 hi hl' hn k
theorem r_ldc_w {σ : Type} {κ : Kx σ} {cc : ByteArray} {own : String} {nL fr lo : Nat} {T : List Nat} (C : Cx κ cc own nL fr lo T) {pc : Nat} (n : Nat) {ls : List (Nat × Value)} {st : List Value} {h : CH} {o : Option σ} {idx : Nat} {w : Int32} (hL : LK own idx w) (hd : decode cc pc = .ok (.ldc_w idx, 3)) (hn : pc + 3 = n) (k : Imp κ n ls (.int w :: st) h o) : Imp κ pc ls st h o := by
  obtain ⟨p, l, e, R, s, m, args, below, meth, c, D, cid, ad, lv, A, cells, slots, Q⟩ := κ
  obtain ⟨⟨hx, hb, hml, hown, hts⟩, -⟩ := C
  subst hn
  intro v hv H locs ls0 hP hD hS hl
  exact lv_ldcw hx hb hown (hts _ hL) hd (k v hv H locs ls0 hP hD hS hl)
