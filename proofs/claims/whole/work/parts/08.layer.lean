/-! THE LAYER: the machine's judgement W seen as a judgement G over a whole world, a pc, the locals and the stack; contracts KM (returns) and KT (returns or throws) with one outcome and one world behind it. -/
theorem ok_args {w : Cond} (h : okw w = true) {A A' : Array Value} {U : State} (hb : w.before A U = true) : w.before A' U = true := by
  cases w <;> first
    | exact va_tabs rfl rfl hb
    | exact hb
    | (simp [okw, goodWord, Cond.onTables] at h)
def TB (U : State) : Prop := ∀ w ∈ lw_ok, w.before #[] U = true
theorem TB.ts {s : State} (h : TB s) {args : Array Value} : ∀ w ∈ lw_ok, w.before args s = true := fun w hw => ok_args (List.mem_filter.mp hw).2 (h w hw)
theorem TB.warm {s U : State} (hW : s.WarmedH U.vm) (h : TB s) : TB U := by
  intro w hw
  have h1 := h w hw
  have h2 := (List.mem_filter.mp hw).2
  by_cases hg : goodWord w = true
  · exact word_at hW (good_of_word hg) h1
  · cases w <;> first
      | exact va_Nw.warmM hW h1
      | exact va_Nw.warmC hW h1
      | exact va_Nw.warmD hW h1
      | exact absurd h2 hg
def strs : List (Nat × String) := [(38, "the addresses are not a range of addresses"), (43, "the lease time is out of range"), (57, "there are no more pools to add"), (64, "a pool has one of the addresses"), (94, "an address of the pool is not free"), (110, "the part is out of range"), (128, "the hold time is out of range"), (139, "the quarantine is out of range"), (162, "the client is bound"), (164, "the relay path is down"), (171, "there is no candidate without a conflict"), (176, "the client has no offer"), (202, "the direct path is down"), (207, "the ticks are out of range"), (213, "the time would be too great"), (223, "nothing ends by time"), (228, "the client is idle"), (233, "the client remembers none"), (248, "the address is neither offered nor leased"), (250, "the address is free"), (255, "the address is not free"), (263, "there is no candidate"), (265, "the state is out of range"), (281, "there is no such entry"), (292, "the group has no addresses"), (295, "there are no leases"), (308, "nothing was saved"), (310, "there is no such address"), (315, "there is no such client"), (320, "there is no such group"), (325, "there is no such pool"), (327, "the address belongs to no pool"), (329, "the client is not bound")]
def SK (U : State) : Prop := ∀ q ∈ strs, ∃ a : Nat, vk_R RX6 q.1 q.2 a U
theorem SK.warm {s U : State} (hW : s.WarmedH U.vm) (h : SK s) : SK U := fun q hq => by
  obtain ⟨a, ha⟩ := h q hq
  exact ⟨a, vk_R.warm hW ha⟩
abbrev kE : Type := va_G × (Nat → ClassId)
abbrev kty (E : kE) : List (ClassId × FieldType) := [(E.2 0, .int), (E.2 1, .boolean), (E.2 2, .long), (E.2 3, .double)]
abbrev ia (E : kE) (n : Nat) (f : Nat → Int32) : va_E := .inl (E.2 0, (n, .inl f))
abbrev za (E : kE) (n : Nat) (f : Nat → Int32) : va_E := .inl (E.2 1, (n, .inl f))
abbrev la (E : kE) (n : Nat) (f : Nat → Int64) : va_E := .inl (E.2 2, (n, .inr (.inl f)))
abbrev da (E : kE) (n : Nat) (f : Nat → UInt64) : va_E := .inl (E.2 3, (n, .inr (.inr (.inr (.inl f)))))
abbrev ob (ci : Nat) (fs : List Value) : va_E := .inr (ci, fs)
def KX (E : kE) (U : State) : Prop := va_K E.1 kcl (kty E) U ∧ TB U ∧ SK U
theorem KX.warm {E : kE} {s U : State} (hW : s.WarmedH U.vm) (h : KX E s) : KX E U := ⟨h.1.moved hW.alike, h.2.1.warm hW, h.2.2.warm hW⟩
/-- what holds of a method's run throughout -/
def CX (E : kE) (A : Nat → Prop) (own : String) (cc : ByteArray) (nL : Nat) (p : Program) (s : State) (m : MethodId) (meth : Method) (c : Code) : Prop :=
  p.tables.exec = Jvm.exec ∧ c.code = cc ∧ c.maxLocals = nL ∧ s.vm.findClass own = some m.cls ∧ KX E s ∧ meth.locks = false ∧ ∀ q : Nat, s.heap.size ≤ q → A q
def G (E : kE) (A : Nat → Prop) (nL : Nat) (p : Program) (l : Launch) (e : Env) (R : Room) (s : State) (m : MethodId) (args : Array Value) (below : List Frame) (meth : Method) (c : Code) (Q : State → Prop) (k n : Nat) (ws : va_W) (pc : Nat) (lv : List (Nat × Value)) (st : List Value) : Prop :=
  ∀ (H : Heap) (locs : List Loc) (ls : Array Slot), va_P E.1 kcl ws H → va_D A ws → va_S A s.heap H locs → lv_has ls nL lv → W p l e R s m args below meth c H locs k n Q (F0 m pc ls st)
def lk : List (Nat × Value) → Nat → Option Value
  | [], _ => none
  | q :: r, i => bif Nat.beq q.1 i then some q.2 else lk r i
theorem lk_mem : ∀ {lv : List (Nat × Value)} {i : Nat} {v : Value}, lk lv i = some v → (i, v) ∈ lv
  | [], _, _, h => by simp [lk] at h
  | q :: r, i, v, h => by
    unfold lk at h
    cases hb : Nat.beq q.1 i with
    | true =>
      rw [hb] at h
      have e1 : q.1 = i := Nat.eq_of_beq_eq_true hb
      have e2 : q.2 = v := Option.some.inj h
      rw [← e1, ← e2]
      exact List.mem_cons_self
    | false =>
      rw [hb] at h
      exact List.mem_cons_of_mem _ (lk_mem h)
abbrev sl (i : Nat) (v : Value) (lv : List (Nat × Value)) : List (Nat × Value) := (i, v) :: lv.filter (fun q => !(q.1 == i) && !(q.1 + 1 == i && q.2.category == 2))
def bi (b : Bool) : Int32 := bif b then 1 else 0
theorem bi_nar (b : Bool) : narrow .boolean (.int (bi b)) = .int (bi b) := by cases b <;> rfl
theorem bi_vp (b : Bool) : vp_nar .boolean (bi b) = bi b := by cases b <;> rfl
section GR
variable {E : kE} {A : Nat → Prop} {own : String} {cc : ByteArray} {nL : Nat} {p : Program} {l : Launch} {e : Env} {R : Room} {s : State} {m : MethodId} {args : Array Value} {below : List Frame} {meth : Method} {c : Code} {Q : State → Prop} {k n : Nat} {ws : va_W} {pc : Nat} {lv : List (Nat × Value)} {st : List Value}
theorem g_iconst (X : CX E A own cc nL p s m meth c) {i : Int} (d : decode cc pc = .ok (.iconst i, 1)) (q : Nat) (hq : pc + 1 = q) {v : Int32} (hv : Int32.ofInt i = v) (kk : G E A nL p l e R s m args below meth c Q k n ws q lv (.int v :: st)) : G E A nL p l e R s m args below meth c Q k n ws pc lv st := by
  subst hq; exact fun H locs ls hP hD hS hl => lv_iconst X.1 X.2.1 d hv (kk H locs ls hP hD hS hl)
theorem g_bipush (X : CX E A own cc nL p s m meth c) {i : Int} (d : decode cc pc = .ok (.bipush i, 2)) (q : Nat) (hq : pc + 2 = q) {v : Int32} (hv : (Int8.ofInt i).toInt32 = v) (kk : G E A nL p l e R s m args below meth c Q k n ws q lv (.int v :: st)) : G E A nL p l e R s m args below meth c Q k n ws pc lv st := by
  subst hq; exact fun H locs ls hP hD hS hl => lv_bipush X.1 X.2.1 d hv (kk H locs ls hP hD hS hl)
theorem g_sipush (X : CX E A own cc nL p s m meth c) {i : Int} (d : decode cc pc = .ok (.sipush i, 3)) (q : Nat) (hq : pc + 3 = q) {v : Int32} (hv : (Int16.ofInt i).toInt32 = v) (kk : G E A nL p l e R s m args below meth c Q k n ws q lv (.int v :: st)) : G E A nL p l e R s m args below meth c Q k n ws pc lv st := by
  subst hq; exact fun H locs ls hP hD hS hl => lv_sipush X.1 X.2.1 d hv (kk H locs ls hP hD hS hl)
theorem g_ldc (X : CX E A own cc nL p s m meth c) {i : Nat} {v : Int32} (hc : Cond.constant own i v ∈ lw_ok) (d : decode cc pc = .ok (.ldc i, 2)) (q : Nat) (hq : pc + 2 = q) (kk : G E A nL p l e R s m args below meth c Q k n ws q lv (.int v :: st)) : G E A nL p l e R s m args below meth c Q k n ws pc lv st := by
  subst hq; exact fun H locs ls hP hD hS hl => lv_ldc X.1 X.2.1 X.2.2.2.1 (X.2.2.2.2.1.2.1.ts _ hc) d (kk H locs ls hP hD hS hl)
theorem g_lconst (X : CX E A own cc nL p s m meth c) {i : Fin 2} (d : decode cc pc = .ok (.lconst i, 1)) (q : Nat) (hq : pc + 1 = q) {v : Int64} (hv : Int64.ofNat (i : Nat) = v) (kk : G E A nL p l e R s m args below meth c Q k n ws q lv (.long v :: st)) : G E A nL p l e R s m args below meth c Q k n ws pc lv st := by
  subst hq; exact fun H locs ls hP hD hS hl => lv_lconst X.1 X.2.1 d hv (kk H locs ls hP hD hS hl)
theorem g_iload (X : CX E A own cc nL p s m meth c) {i : Nat} (d : decode cc pc = .ok (.iload i, 2)) (q : Nat) (hq : pc + 2 = q) {x : Int32} (hv : lk lv i = some (.int x)) (kk : G E A nL p l e R s m args below meth c Q k n ws q lv (.int x :: st)) : G E A nL p l e R s m args below meth c Q k n ws pc lv st := by
  subst hq; exact fun H locs ls hP hD hS hl => lv_iload X.1 X.2.1 d (hl.2.2 _ (lk_mem hv)) (kk H locs ls hP hD hS hl)
theorem g_iload_n (X : CX E A own cc nL p s m meth c) {i : Fin 4} (d : decode cc pc = .ok (.iload_n i, 1)) (q : Nat) (hq : pc + 1 = q) {x : Int32} (hv : lk lv (i : Nat) = some (.int x)) (kk : G E A nL p l e R s m args below meth c Q k n ws q lv (.int x :: st)) : G E A nL p l e R s m args below meth c Q k n ws pc lv st := by
  subst hq; exact fun H locs ls hP hD hS hl => lv_iload_n X.1 X.2.1 d rfl (hl.2.2 _ (lk_mem hv)) (kk H locs ls hP hD hS hl)
theorem g_aload (X : CX E A own cc nL p s m meth c) {i : Nat} (d : decode cc pc = .ok (.aload i, 2)) (q : Nat) (hq : pc + 2 = q) {x : Nat} (hv : lk lv i = some (.ref x)) (kk : G E A nL p l e R s m args below meth c Q k n ws q lv (.ref x :: st)) : G E A nL p l e R s m args below meth c Q k n ws pc lv st := by
  subst hq; exact fun H locs ls hP hD hS hl => lv_aload X.1 X.2.1 d (hl.2.2 _ (lk_mem hv)) (kk H locs ls hP hD hS hl)
theorem g_aload_n (X : CX E A own cc nL p s m meth c) {i : Fin 4} (d : decode cc pc = .ok (.aload_n i, 1)) (q : Nat) (hq : pc + 1 = q) {x : Nat} (hv : lk lv (i : Nat) = some (.ref x)) (kk : G E A nL p l e R s m args below meth c Q k n ws q lv (.ref x :: st)) : G E A nL p l e R s m args below meth c Q k n ws pc lv st := by
  subst hq; exact fun H locs ls hP hD hS hl => lv_aload_n X.1 X.2.1 d rfl (hl.2.2 _ (lk_mem hv)) (kk H locs ls hP hD hS hl)
theorem g_istore (X : CX E A own cc nL p s m meth c) {i : Nat} (d : decode cc pc = .ok (.istore i, 2)) (q : Nat) (hq : pc + 2 = q) (hn : i < nL) {x : Int32} (lv' : List (Nat × Value)) (hv : sl i (.int x) lv = lv') (kk : G E A nL p l e R s m args below meth c Q k n ws q lv' st) : G E A nL p l e R s m args below meth c Q k n ws pc lv (.int x :: st) := by
  subst hq; exact fun H locs ls hP hD hS hl => lv_istore X.1 X.2.1 d hl hn hv (fun ls' hl' => kk H locs ls' hP hD hS hl')
theorem g_istore_n (X : CX E A own cc nL p s m meth c) {i : Fin 4} (d : decode cc pc = .ok (.istore_n i, 1)) (q : Nat) (hq : pc + 1 = q) (hn : (i : Nat) < nL) {x : Int32} (lv' : List (Nat × Value)) (hv : sl (i : Nat) (.int x) lv = lv') (kk : G E A nL p l e R s m args below meth c Q k n ws q lv' st) : G E A nL p l e R s m args below meth c Q k n ws pc lv (.int x :: st) := by
  subst hq; exact fun H locs ls hP hD hS hl => lv_istore_n X.1 X.2.1 d rfl hl hn hv (fun ls' hl' => kk H locs ls' hP hD hS hl')
theorem g_astore (X : CX E A own cc nL p s m meth c) {i : Nat} (d : decode cc pc = .ok (.astore i, 2)) (q : Nat) (hq : pc + 2 = q) (hn : i < nL) {x : Nat} (lv' : List (Nat × Value)) (hv : sl i (.ref x) lv = lv') (kk : G E A nL p l e R s m args below meth c Q k n ws q lv' st) : G E A nL p l e R s m args below meth c Q k n ws pc lv (.ref x :: st) := by
  subst hq; exact fun H locs ls hP hD hS hl => lv_astore X.1 X.2.1 d hl hn hv (fun ls' hl' => kk H locs ls' hP hD hS hl')
theorem g_astore_n (X : CX E A own cc nL p s m meth c) {i : Fin 4} (d : decode cc pc = .ok (.astore_n i, 1)) (q : Nat) (hq : pc + 1 = q) (hn : (i : Nat) < nL) {x : Nat} (lv' : List (Nat × Value)) (hv : sl (i : Nat) (.ref x) lv = lv') (kk : G E A nL p l e R s m args below meth c Q k n ws q lv' st) : G E A nL p l e R s m args below meth c Q k n ws pc lv (.ref x :: st) := by
  subst hq; exact fun H locs ls hP hD hS hl => lv_astore_n X.1 X.2.1 d rfl hl hn hv (fun ls' hl' => kk H locs ls' hP hD hS hl')
theorem g_iinc (X : CX E A own cc nL p s m meth c) {i : Nat} {z : Int} (d : decode cc pc = .ok (.iinc i z, 3)) (q : Nat) (hq : pc + 3 = q) (hn : i < nL) (j : Nat) {x v : Int32} (hj : lv[j]? = some (i, .int x)) (hx : x + Int32.ofInt z = v) (lv' : List (Nat × Value)) (hv : sl i (.int v) lv = lv') (kk : G E A nL p l e R s m args below meth c Q k n ws q lv' st) : G E A nL p l e R s m args below meth c Q k n ws pc lv st := by
  subst hq; exact fun H locs ls hP hD hS hl => lv_iinc X.1 X.2.1 d hl hj hx hn hv (fun ls' hl' => kk H locs ls' hP hD hS hl')
theorem g_iadd (X : CX E A own cc nL p s m meth c) (d : decode cc pc = .ok (.iadd, 1)) (q : Nat) (hq : pc + 1 = q) {x y : Int32} (kk : G E A nL p l e R s m args below meth c Q k n ws q lv (.int (x + y) :: st)) : G E A nL p l e R s m args below meth c Q k n ws pc lv (.int y :: .int x :: st) := by
  subst hq; exact fun H locs ls hP hD hS hl => lv_iadd X.1 X.2.1 d (kk H locs ls hP hD hS hl)
theorem g_isub (X : CX E A own cc nL p s m meth c) (d : decode cc pc = .ok (.isub, 1)) (q : Nat) (hq : pc + 1 = q) {x y : Int32} (kk : G E A nL p l e R s m args below meth c Q k n ws q lv (.int (x - y) :: st)) : G E A nL p l e R s m args below meth c Q k n ws pc lv (.int y :: .int x :: st) := by
  subst hq; exact fun H locs ls hP hD hS hl => lv_isub X.1 X.2.1 d (kk H locs ls hP hD hS hl)
theorem g_imul (X : CX E A own cc nL p s m meth c) (d : decode cc pc = .ok (.imul, 1)) (q : Nat) (hq : pc + 1 = q) {x y : Int32} (kk : G E A nL p l e R s m args below meth c Q k n ws q lv (.int (x * y) :: st)) : G E A nL p l e R s m args below meth c Q k n ws pc lv (.int y :: .int x :: st) := by
  subst hq; exact fun H locs ls hP hD hS hl => lv_imul X.1 X.2.1 d (kk H locs ls hP hD hS hl)
theorem g_idiv (X : CX E A own cc nL p s m meth c) (d : decode cc pc = .ok (.idiv, 1)) (q : Nat) (hq : pc + 1 = q) {x y : Int32} (hy : ¬ y = 0) (kk : G E A nL p l e R s m args below meth c Q k n ws q lv (.int (x / y) :: st)) : G E A nL p l e R s m args below meth c Q k n ws pc lv (.int y :: .int x :: st) := by
  subst hq; exact fun H locs ls hP hD hS hl => lv_idiv X.1 X.2.1 d hy (kk H locs ls hP hD hS hl)
theorem g_irem (X : CX E A own cc nL p s m meth c) (d : decode cc pc = .ok (.irem, 1)) (q : Nat) (hq : pc + 1 = q) {x y : Int32} (hy : ¬ y = 0) (kk : G E A nL p l e R s m args below meth c Q k n ws q lv (.int (x - x / y * y) :: st)) : G E A nL p l e R s m args below meth c Q k n ws pc lv (.int y :: .int x :: st) := by
  subst hq; exact fun H locs ls hP hD hS hl => lv_irem X.1 X.2.1 d hy (kk H locs ls hP hD hS hl)
theorem g_iand (X : CX E A own cc nL p s m meth c) (d : decode cc pc = .ok (.iand, 1)) (q : Nat) (hq : pc + 1 = q) {x y : Int32} (kk : G E A nL p l e R s m args below meth c Q k n ws q lv (.int (x &&& y) :: st)) : G E A nL p l e R s m args below meth c Q k n ws pc lv (.int y :: .int x :: st) := by
  subst hq; exact fun H locs ls hP hD hS hl => lv_iand X.1 X.2.1 d (kk H locs ls hP hD hS hl)
theorem g_ixor (X : CX E A own cc nL p s m meth c) (d : decode cc pc = .ok (.ixor, 1)) (q : Nat) (hq : pc + 1 = q) {x y : Int32} (kk : G E A nL p l e R s m args below meth c Q k n ws q lv (.int (x ^^^ y) :: st)) : G E A nL p l e R s m args below meth c Q k n ws pc lv (.int y :: .int x :: st) := by
  subst hq; exact fun H locs ls hP hD hS hl => lv_ixor X.1 X.2.1 d (kk H locs ls hP hD hS hl)
theorem g_i2l (X : CX E A own cc nL p s m meth c) (d : decode cc pc = .ok (.i2l, 1)) (q : Nat) (hq : pc + 1 = q) {x : Int32} (kk : G E A nL p l e R s m args below meth c Q k n ws q lv (.long x.toInt64 :: st)) : G E A nL p l e R s m args below meth c Q k n ws pc lv (.int x :: st) := by
  subst hq; exact fun H locs ls hP hD hS hl => lv_i2l X.1 X.2.1 d rfl (kk H locs ls hP hD hS hl)
theorem g_lcmp (X : CX E A own cc nL p s m meth c) (d : decode cc pc = .ok (.lcmp, 1)) (q : Nat) (hq : pc + 1 = q) {x y : Int64} (kk : G E A nL p l e R s m args below meth c Q k n ws q lv (.int (lg_cmp x y) :: st)) : G E A nL p l e R s m args below meth c Q k n ws pc lv (.long y :: .long x :: st) := by
  subst hq; exact fun H locs ls hP hD hS hl => W.lcmp X.1 X.2.1 d (kk H locs ls hP hD hS hl)
theorem g_dup (X : CX E A own cc nL p s m meth c) (d : decode cc pc = .ok (.dup, 1)) (q : Nat) (hq : pc + 1 = q) {x : Value} (h1 : x.category = 1) (kk : G E A nL p l e R s m args below meth c Q k n ws q lv (x :: x :: st)) : G E A nL p l e R s m args below meth c Q k n ws pc lv (x :: st) := by
  subst hq; exact fun H locs ls hP hD hS hl => lv_dup X.1 X.2.1 d h1 (kk H locs ls hP hD hS hl)
theorem g_dup2 (X : CX E A own cc nL p s m meth c) (d : decode cc pc = .ok (.dup2, 1)) (q : Nat) (hq : pc + 1 = q) {x y : Value} (h1 : x.category = 1) (h2 : y.category = 1) (kk : G E A nL p l e R s m args below meth c Q k n ws q lv (x :: y :: x :: y :: st)) : G E A nL p l e R s m args below meth c Q k n ws pc lv (x :: y :: st) := by
  subst hq; exact fun H locs ls hP hD hS hl => lv_dup2_11 X.1 X.2.1 d h1 h2 (kk H locs ls hP hD hS hl)
theorem g_dup_x2 (X : CX E A own cc nL p s m meth c) (d : decode cc pc = .ok (.dup_x2, 1)) (q : Nat) (hq : pc + 1 = q) {x y z : Value} (h1 : x.category = 1) (h2 : y.category = 1) (h3 : z.category = 1) (kk : G E A nL p l e R s m args below meth c Q k n ws q lv (x :: y :: z :: x :: st)) : G E A nL p l e R s m args below meth c Q k n ws pc lv (x :: y :: z :: st) := by
  subst hq; exact fun H locs ls hP hD hS hl => lv_dup_x2 X.1 X.2.1 d h1 h2 h3 (kk H locs ls hP hD hS hl)
theorem g_pop (X : CX E A own cc nL p s m meth c) (d : decode cc pc = .ok (.pop, 1)) (q : Nat) (hq : pc + 1 = q) {x : Value} (h1 : x.category = 1) (kk : G E A nL p l e R s m args below meth c Q k n ws q lv st) : G E A nL p l e R s m args below meth c Q k n ws pc lv (x :: st) := by
  subst hq; exact fun H locs ls hP hD hS hl => lv_pop X.1 X.2.1 d h1 (kk H locs ls hP hD hS hl)
theorem g_goto (X : CX E A own cc nL p s m meth c) {off : Int} (d : decode cc pc = .ok (.goto off, 3)) (t : Nat) (ht : (pc : Int) + off = (t : Int)) (kk : G E A nL p l e R s m args below meth c Q k n ws t lv st) : G E A nL p l e R s m args below meth c Q k n ws pc lv st :=
  fun H locs ls hP hD hS hl => lv_goto X.1 X.2.1 d ht (kk H locs ls hP hD hS hl)
theorem g_if_eq (X : CX E A own cc nL p s m meth c) {off : Int} {x : Int32} (d : decode cc pc = .ok (.ifCond .eq off, 3)) (t q : Nat) (ht : (pc : Int) + off = (t : Int)) (hq : pc + 3 = q) (kt : x = 0 → G E A nL p l e R s m args below meth c Q k n ws t lv st) (kf : ¬ x = 0 → G E A nL p l e R s m args below meth c Q k n ws q lv st) : G E A nL p l e R s m args below meth c Q k n ws pc lv (.int x :: st) := by
  subst hq; exact fun H locs ls hP hD hS hl => lv_if_eq X.1 X.2.1 d ht (fun h => kt h H locs ls hP hD hS hl) (fun h => kf h H locs ls hP hD hS hl)
theorem g_if_ne (X : CX E A own cc nL p s m meth c) {off : Int} {x : Int32} (d : decode cc pc = .ok (.ifCond .ne off, 3)) (t q : Nat) (ht : (pc : Int) + off = (t : Int)) (hq : pc + 3 = q) (kt : ¬ x = 0 → G E A nL p l e R s m args below meth c Q k n ws t lv st) (kf : x = 0 → G E A nL p l e R s m args below meth c Q k n ws q lv st) : G E A nL p l e R s m args below meth c Q k n ws pc lv (.int x :: st) := by
  subst hq; exact fun H locs ls hP hD hS hl => lv_if_ne X.1 X.2.1 d ht (fun h => kt h H locs ls hP hD hS hl) (fun h => kf h H locs ls hP hD hS hl)
theorem g_if_lt (X : CX E A own cc nL p s m meth c) {off : Int} {x : Int32} (d : decode cc pc = .ok (.ifCond .lt off, 3)) (t q : Nat) (ht : (pc : Int) + off = (t : Int)) (hq : pc + 3 = q) (kt : x < 0 → G E A nL p l e R s m args below meth c Q k n ws t lv st) (kf : ¬ x < 0 → G E A nL p l e R s m args below meth c Q k n ws q lv st) : G E A nL p l e R s m args below meth c Q k n ws pc lv (.int x :: st) := by
  subst hq; exact fun H locs ls hP hD hS hl => lv_if_lt X.1 X.2.1 d ht (fun h => kt h H locs ls hP hD hS hl) (fun h => kf h H locs ls hP hD hS hl)
theorem g_if_ge (X : CX E A own cc nL p s m meth c) {off : Int} {x : Int32} (d : decode cc pc = .ok (.ifCond .ge off, 3)) (t q : Nat) (ht : (pc : Int) + off = (t : Int)) (hq : pc + 3 = q) (kt : 0 ≤ x → G E A nL p l e R s m args below meth c Q k n ws t lv st) (kf : ¬ 0 ≤ x → G E A nL p l e R s m args below meth c Q k n ws q lv st) : G E A nL p l e R s m args below meth c Q k n ws pc lv (.int x :: st) := by
  subst hq; exact fun H locs ls hP hD hS hl => lv_if_ge X.1 X.2.1 d ht (fun h => kt h H locs ls hP hD hS hl) (fun h => kf h H locs ls hP hD hS hl)
theorem g_if_gt (X : CX E A own cc nL p s m meth c) {off : Int} {x : Int32} (d : decode cc pc = .ok (.ifCond .gt off, 3)) (t q : Nat) (ht : (pc : Int) + off = (t : Int)) (hq : pc + 3 = q) (kt : 0 < x → G E A nL p l e R s m args below meth c Q k n ws t lv st) (kf : ¬ 0 < x → G E A nL p l e R s m args below meth c Q k n ws q lv st) : G E A nL p l e R s m args below meth c Q k n ws pc lv (.int x :: st) := by
  subst hq; exact fun H locs ls hP hD hS hl => lv_if_gt X.1 X.2.1 d ht (fun h => kt h H locs ls hP hD hS hl) (fun h => kf h H locs ls hP hD hS hl)
theorem g_if_le (X : CX E A own cc nL p s m meth c) {off : Int} {x : Int32} (d : decode cc pc = .ok (.ifCond .le off, 3)) (t q : Nat) (ht : (pc : Int) + off = (t : Int)) (hq : pc + 3 = q) (kt : x ≤ 0 → G E A nL p l e R s m args below meth c Q k n ws t lv st) (kf : ¬ x ≤ 0 → G E A nL p l e R s m args below meth c Q k n ws q lv st) : G E A nL p l e R s m args below meth c Q k n ws pc lv (.int x :: st) := by
  subst hq; exact fun H locs ls hP hD hS hl => lv_if_le X.1 X.2.1 d ht (fun h => kt h H locs ls hP hD hS hl) (fun h => kf h H locs ls hP hD hS hl)
theorem g_ic_eq (X : CX E A own cc nL p s m meth c) {off : Int} {x y : Int32} (d : decode cc pc = .ok (.if_icmp .eq off, 3)) (t q : Nat) (ht : (pc : Int) + off = (t : Int)) (hq : pc + 3 = q) (kt : x = y → G E A nL p l e R s m args below meth c Q k n ws t lv st) (kf : ¬ x = y → G E A nL p l e R s m args below meth c Q k n ws q lv st) : G E A nL p l e R s m args below meth c Q k n ws pc lv (.int y :: .int x :: st) := by
  subst hq; exact fun H locs ls hP hD hS hl => lv_icmp_eq X.1 X.2.1 d ht (fun h => kt h H locs ls hP hD hS hl) (fun h => kf h H locs ls hP hD hS hl)
theorem g_ic_ne (X : CX E A own cc nL p s m meth c) {off : Int} {x y : Int32} (d : decode cc pc = .ok (.if_icmp .ne off, 3)) (t q : Nat) (ht : (pc : Int) + off = (t : Int)) (hq : pc + 3 = q) (kt : ¬ x = y → G E A nL p l e R s m args below meth c Q k n ws t lv st) (kf : x = y → G E A nL p l e R s m args below meth c Q k n ws q lv st) : G E A nL p l e R s m args below meth c Q k n ws pc lv (.int y :: .int x :: st) := by
  subst hq; exact fun H locs ls hP hD hS hl => lv_icmp_ne X.1 X.2.1 d ht (fun h => kt h H locs ls hP hD hS hl) (fun h => kf h H locs ls hP hD hS hl)
theorem g_ic_lt (X : CX E A own cc nL p s m meth c) {off : Int} {x y : Int32} (d : decode cc pc = .ok (.if_icmp .lt off, 3)) (t q : Nat) (ht : (pc : Int) + off = (t : Int)) (hq : pc + 3 = q) (kt : x < y → G E A nL p l e R s m args below meth c Q k n ws t lv st) (kf : ¬ x < y → G E A nL p l e R s m args below meth c Q k n ws q lv st) : G E A nL p l e R s m args below meth c Q k n ws pc lv (.int y :: .int x :: st) := by
  subst hq; exact fun H locs ls hP hD hS hl => lv_icmp_lt X.1 X.2.1 d ht (fun h => kt h H locs ls hP hD hS hl) (fun h => kf h H locs ls hP hD hS hl)
theorem g_ic_ge (X : CX E A own cc nL p s m meth c) {off : Int} {x y : Int32} (d : decode cc pc = .ok (.if_icmp .ge off, 3)) (t q : Nat) (ht : (pc : Int) + off = (t : Int)) (hq : pc + 3 = q) (kt : y ≤ x → G E A nL p l e R s m args below meth c Q k n ws t lv st) (kf : ¬ y ≤ x → G E A nL p l e R s m args below meth c Q k n ws q lv st) : G E A nL p l e R s m args below meth c Q k n ws pc lv (.int y :: .int x :: st) := by
  subst hq; exact fun H locs ls hP hD hS hl => lv_icmp_ge X.1 X.2.1 d ht (fun h => kt h H locs ls hP hD hS hl) (fun h => kf h H locs ls hP hD hS hl)
theorem g_ic_gt (X : CX E A own cc nL p s m meth c) {off : Int} {x y : Int32} (d : decode cc pc = .ok (.if_icmp .gt off, 3)) (t q : Nat) (ht : (pc : Int) + off = (t : Int)) (hq : pc + 3 = q) (kt : y < x → G E A nL p l e R s m args below meth c Q k n ws t lv st) (kf : ¬ y < x → G E A nL p l e R s m args below meth c Q k n ws q lv st) : G E A nL p l e R s m args below meth c Q k n ws pc lv (.int y :: .int x :: st) := by
  subst hq; exact fun H locs ls hP hD hS hl => lv_icmp_gt X.1 X.2.1 d ht (fun h => kt h H locs ls hP hD hS hl) (fun h => kf h H locs ls hP hD hS hl)
theorem g_ic_le (X : CX E A own cc nL p s m meth c) {off : Int} {x y : Int32} (d : decode cc pc = .ok (.if_icmp .le off, 3)) (t q : Nat) (ht : (pc : Int) + off = (t : Int)) (hq : pc + 3 = q) (kt : x ≤ y → G E A nL p l e R s m args below meth c Q k n ws t lv st) (kf : ¬ x ≤ y → G E A nL p l e R s m args below meth c Q k n ws q lv st) : G E A nL p l e R s m args below meth c Q k n ws pc lv (.int y :: .int x :: st) := by
  subst hq; exact fun H locs ls hP hD hS hl => lv_icmp_le X.1 X.2.1 d ht (fun h => kt h H locs ls hP hD hS hl) (fun h => kf h H locs ls hP hD hS hl)
theorem g_ifb_eq (X : CX E A own cc nL p s m meth c) {off : Int} {x : Bool} (d : decode cc pc = .ok (.ifCond .eq off, 3)) (t q : Nat) (ht : (pc : Int) + off = (t : Int)) (hq : pc + 3 = q) (kt : x = false → G E A nL p l e R s m args below meth c Q k n ws t lv st) (kf : x = true → G E A nL p l e R s m args below meth c Q k n ws q lv st) : G E A nL p l e R s m args below meth c Q k n ws pc lv (.int (bi x) :: st) := by
  refine g_if_eq X d t q ht hq (fun h => kt ?_) (fun h => kf ?_) <;> cases x <;> first | rfl | (exact absurd h (by decide)) | (exact absurd rfl h)
theorem g_ifb_ne (X : CX E A own cc nL p s m meth c) {off : Int} {x : Bool} (d : decode cc pc = .ok (.ifCond .ne off, 3)) (t q : Nat) (ht : (pc : Int) + off = (t : Int)) (hq : pc + 3 = q) (kt : x = true → G E A nL p l e R s m args below meth c Q k n ws t lv st) (kf : x = false → G E A nL p l e R s m args below meth c Q k n ws q lv st) : G E A nL p l e R s m args below meth c Q k n ws pc lv (.int (bi x) :: st) := by
  refine g_if_ne X d t q ht hq (fun h => kt ?_) (fun h => kf ?_) <;> cases x <;> first | rfl | (exact absurd h (by decide)) | (exact absurd rfl h)
theorem g_tableIn (X : CX E A own cc nL p s m meth c) {dflt lo hi : Int} {offs : Array Int} {len : Nat} {x : Int32} (d : decode cc pc = .ok (.tableswitch dflt lo hi offs, len)) (off : Int) (h1 : ¬ x.toInt < lo) (h2 : ¬ hi < x.toInt) (ho : offs[(x.toInt - lo).toNat]? = some off) (t : Nat) (ht : (pc : Int) + off = (t : Int)) (kk : G E A nL p l e R s m args below meth c Q k n ws t lv st) : G E A nL p l e R s m args below meth c Q k n ws pc lv (.int x :: st) :=
  fun H locs ls hP hD hS hl => lv_tableIn X.1 X.2.1 d h1 h2 ho ht (kk H locs ls hP hD hS hl)
theorem g_tableOut (X : CX E A own cc nL p s m meth c) {dflt lo hi : Int} {offs : Array Int} {len : Nat} {x : Int32} (d : decode cc pc = .ok (.tableswitch dflt lo hi offs, len)) (h : x.toInt < lo ∨ hi < x.toInt) (t : Nat) (ht : (pc : Int) + dflt = (t : Int)) (kk : G E A nL p l e R s m args below meth c Q k n ws t lv st) : G E A nL p l e R s m args below meth c Q k n ws pc lv (.int x :: st) :=
  fun H locs ls hP hD hS hl => lv_tableOut X.1 X.2.1 d h ht (kk H locs ls hP hD hS hl)
theorem g_get (X : CX E A own cc nL p s m meth c) {idx ci fk N : Nat} {C : String} {T : u_T} (F : FL own idx ci fk C T N) (d : decode cc pc = .ok (.getfield idx, 3)) (q : Nat) (hq : pc + 3 = q) (q0 : Nat) {a : Nat} {fs : List Value} (he : ws[q0]? = some (a, .inr (ci, fs))) {v : Value} (hv : fs[fk]? = some v) (kk : G E A nL p l e R s m args below meth c Q k n ws q lv (v :: st)) : G E A nL p l e R s m args below meth c Q k n ws pc lv (.ref a :: st) := by
  subst hq
  exact fun H locs ls hP hD hS hl => va_get (D := E.1) (cl := kcl) X.1 X.2.1 (X.2.2.2.2.1.2.1.ts) F.2.2.1 X.2.2.2.1 X.2.2.2.2.1.1 hP q0 he F.1 fk F.2.1 (X.2.2.2.2.1.2.1.ts _ F.2.2.2) (fun _ h => h) hv d (kk H locs ls hP hD hS hl)
theorem g_put (X : CX E A own cc nL p s m meth c) {idx ci fk N : Nat} {C : String} {T : u_T} {ty0 : Nat → FieldType} (F : FL own idx ci fk C T N) (K : FK C T N ty0) (d : decode cc pc = .ok (.putfield idx, 3)) (q : Nat) (hq : pc + 3 = q) (hfin : (T fk).2.2.2 = false) (q0 : Nat) {a : Nat} {fs : List Value} (he : ws[q0]? = some (a, .inr (ci, fs))) {v : Value} (hn : narrow (ty0 fk) v = v) (hfit : fits (ty0 fk) v = true) (hl9 : fk < fs.length) (ws' : va_W) (hw : ws.set q0 (a, .inr (ci, fs.set fk v)) = ws') (kk : G E A nL p l e R s m args below meth c Q k n ws' q lv st) : G E A nL p l e R s m args below meth c Q k n ws pc lv (v :: .ref a :: st) := by
  subst hq; subst hw
  exact fun H locs ls hP hD hS hl => va_put (D := E.1) (cl := kcl) X.1 X.2.1 (X.2.2.2.2.1.2.1.ts) F.2.2.1 ty0 K.1 K.2 X.2.2.2.1 X.2.2.2.2.1.1 hP hD hS q0 he F.1 fk F.2.1 (X.2.2.2.2.1.2.1.ts _ F.2.2.2) (fun _ h => h) hfin (K.1 fk F.2.1) hn hfit hl9 d (fun H1 locs1 hP1 hD1 hS1 => kk H1 locs1 ls hP1 hD1 hS1 hl)
theorem g_putF (X : CX E A own cc nL p s m meth c) {idx ci fk N : Nat} {C : String} {T : u_T} {ty0 : Nat → FieldType} (F : FL own idx ci fk C T N) (K : FK C T N ty0) (d : decode cc pc = .ok (.putfield idx, 3)) (q : Nat) (hq : pc + 3 = q) (hfin : (T fk).2.2.2 = true) (hin : meth.name = "<init>") (hdecl : (T fk).1 = own) (q0 : Nat) {a : Nat} {fs : List Value} (he : ws[q0]? = some (a, .inr (ci, fs))) {v : Value} (hn : narrow (ty0 fk) v = v) (hfit : fits (ty0 fk) v = true) (hl9 : fk < fs.length) (ws' : va_W) (hw : ws.set q0 (a, .inr (ci, fs.set fk v)) = ws') (kk : G E A nL p l e R s m args below meth c Q k n ws' q lv st) : G E A nL p l e R s m args below meth c Q k n ws pc lv (v :: .ref a :: st) := by
  subst hq; subst hw
  exact fun H locs ls hP hD hS hl => va_putF (D := E.1) (cl := kcl) X.1 X.2.1 (X.2.2.2.2.1.2.1.ts) F.2.2.1 ty0 K.1 K.2 X.2.2.2.1 X.2.2.2.2.1.1 hP hD hS q0 he F.1 fk F.2.1 (X.2.2.2.2.1.2.1.ts _ F.2.2.2) (fun _ h => h) hfin hin hdecl (K.1 fk F.2.1) hn hfit hl9 d (fun H1 locs1 hP1 hD1 hS1 => kk H1 locs1 ls hP1 hD1 hS1 hl)
theorem g_iald (X : CX E A own cc nL p s m meth c) (d : decode cc pc = .ok (.iaload, 1)) (q : Nat) (hq : pc + 1 = q) (q0 : Nat) {a N : Nat} {f : Nat → Int32} (he : ws[q0]? = some (a, ia E N f)) {i : Int32} (hi : vp_in i N) (kk : G E A nL p l e R s m args below meth c Q k n ws q lv (.int (f i.toNatClampNeg) :: st)) : G E A nL p l e R s m args below meth c Q k n ws pc lv (.int i :: .ref a :: st) := by
  subst hq; exact fun H locs ls hP hD hS hl => va_iald X.1 X.2.1 X.2.2.2.2.1.1 hP q0 0 he rfl hi d (kk H locs ls hP hD hS hl)
theorem g_zald (X : CX E A own cc nL p s m meth c) (d : decode cc pc = .ok (.baload, 1)) (q : Nat) (hq : pc + 1 = q) (q0 : Nat) {a N : Nat} {f : Nat → Int32} (he : ws[q0]? = some (a, za E N f)) {i : Int32} (hi : vp_in i N) (kk : G E A nL p l e R s m args below meth c Q k n ws q lv (.int (f i.toNatClampNeg) :: st)) : G E A nL p l e R s m args below meth c Q k n ws pc lv (.int i :: .ref a :: st) := by
  subst hq; exact fun H locs ls hP hD hS hl => va_zald X.1 X.2.1 X.2.2.2.2.1.1 hP q0 1 he rfl hi d (kk H locs ls hP hD hS hl)
theorem g_lald (X : CX E A own cc nL p s m meth c) (d : decode cc pc = .ok (.laload, 1)) (q : Nat) (hq : pc + 1 = q) (q0 : Nat) {a N : Nat} {f : Nat → Int64} (he : ws[q0]? = some (a, la E N f)) {i : Int32} (hi : vp_in i N) (kk : G E A nL p l e R s m args below meth c Q k n ws q lv (.long (f i.toNatClampNeg) :: st)) : G E A nL p l e R s m args below meth c Q k n ws pc lv (.int i :: .ref a :: st) := by
  subst hq; exact fun H locs ls hP hD hS hl => va_lald X.1 X.2.1 X.2.2.2.2.1.1 hP q0 2 he rfl hi d (kk H locs ls hP hD hS hl)
theorem g_iast (X : CX E A own cc nL p s m meth c) (d : decode cc pc = .ok (.iastore, 1)) (q : Nat) (hq : pc + 1 = q) (q0 : Nat) {a N : Nat} {f : Nat → Int32} (he : ws[q0]? = some (a, ia E N f)) {i x : Int32} (hi : vp_in i N) (ws' : va_W) (hw : ws.set q0 (a, ia E N (upd f i.toNatClampNeg x)) = ws') (kk : G E A nL p l e R s m args below meth c Q k n ws' q lv st) : G E A nL p l e R s m args below meth c Q k n ws pc lv (.int x :: .int i :: .ref a :: st) := by
  subst hq; subst hw; exact fun H locs ls hP hD hS hl => va_iast X.1 X.2.1 X.2.2.2.2.1.1 hP hD hS q0 0 he rfl hi d (fun H1 locs1 hP1 hD1 hS1 => kk H1 locs1 ls hP1 hD1 hS1 hl)
theorem g_zast (X : CX E A own cc nL p s m meth c) (d : decode cc pc = .ok (.bastore, 1)) (q : Nat) (hq : pc + 1 = q) (q0 : Nat) {a N : Nat} {f : Nat → Int32} (he : ws[q0]? = some (a, za E N f)) {i x : Int32} (hi : vp_in i N) (hx : vp_nar .boolean x = x) (ws' : va_W) (hw : ws.set q0 (a, za E N (upd f i.toNatClampNeg x)) = ws') (kk : G E A nL p l e R s m args below meth c Q k n ws' q lv st) : G E A nL p l e R s m args below meth c Q k n ws pc lv (.int x :: .int i :: .ref a :: st) := by
  subst hq; subst hw
  exact fun H locs ls hP hD hS hl => va_zast X.1 X.2.1 X.2.2.2.2.1.1 hP hD hS q0 1 he rfl hi d (fun H1 locs1 hP1 hD1 hS1 => kk H1 locs1 ls (by rw [hx] at hP1; exact hP1) (by rw [hx] at hD1; exact hD1) hS1 hl)
theorem g_last (X : CX E A own cc nL p s m meth c) (d : decode cc pc = .ok (.lastore, 1)) (q : Nat) (hq : pc + 1 = q) (q0 : Nat) {a N : Nat} {f : Nat → Int64} (he : ws[q0]? = some (a, la E N f)) {i : Int32} {x : Int64} (hi : vp_in i N) (ws' : va_W) (hw : ws.set q0 (a, la E N (vp_updL f i.toNatClampNeg x)) = ws') (kk : G E A nL p l e R s m args below meth c Q k n ws' q lv st) : G E A nL p l e R s m args below meth c Q k n ws pc lv (.long x :: .int i :: .ref a :: st) := by
  subst hq; subst hw; exact fun H locs ls hP hD hS hl => va_last X.1 X.2.1 X.2.2.2.2.1.1 hP hD hS q0 2 he rfl hi d (fun H1 locs1 hP1 hD1 hS1 => kk H1 locs1 ls hP1 hD1 hS1 hl)
theorem g_alenI (X : CX E A own cc nL p s m meth c) (d : decode cc pc = .ok (.arraylength, 1)) (q : Nat) (hq : pc + 1 = q) (q0 : Nat) {a N : Nat} {f : Nat → Int32} (he : ws[q0]? = some (a, ia E N f)) (kk : G E A nL p l e R s m args below meth c Q k n ws q lv (.int (Int32.ofNat N) :: st)) : G E A nL p l e R s m args below meth c Q k n ws pc lv (.ref a :: st) := by
  subst hq; exact fun H locs ls hP hD hS hl => va_alen X.1 X.2.1 X.2.2.2.2.1.1 hP q0 0 he rfl rfl d (kk H locs ls hP hD hS hl)
theorem g_alenZ (X : CX E A own cc nL p s m meth c) (d : decode cc pc = .ok (.arraylength, 1)) (q : Nat) (hq : pc + 1 = q) (q0 : Nat) {a N : Nat} {f : Nat → Int32} (he : ws[q0]? = some (a, za E N f)) (kk : G E A nL p l e R s m args below meth c Q k n ws q lv (.int (Int32.ofNat N) :: st)) : G E A nL p l e R s m args below meth c Q k n ws pc lv (.ref a :: st) := by
  subst hq; exact fun H locs ls hP hD hS hl => va_alen X.1 X.2.1 X.2.2.2.2.1.1 hP q0 1 he rfl rfl d (kk H locs ls hP hD hS hl)
theorem g_max (X : CX E A own cc nL p s m meth c) {i : Nat} (hl9 : Cond.methodLink own i Lib.Math.max.name ∈ lw_ok) (d : decode cc pc = .ok (.invokestatic i, 3)) (q : Nat) (hq : pc + 3 = q) (hf : 1 ≤ R.frames) (hlo : (st.map fun v => v.category).sum + 13 ≤ R.locals) (hc : k ≤ R.cells ∧ n ≤ R.slots) {x y : Int32} (kk : G E A nL p l e R s m args below meth c Q k n ws q lv (.int (if x < y then y else x) :: st)) : G E A nL p l e R s m args below meth c Q k n ws pc lv (.int y :: .int x :: st) := by
  subst hq
  have ts := X.2.2.2.2.1.2.1.ts (args := args)
  exact fun H locs ls hP hD hS hl => va_mmax X.1 X.2.1 (by rw [X.2.2.1]; exact hl.1.symm) X.2.2.2.1 (ts _ hl9) (ts _ Ms_max) (ts _ Mi_math) (ts _ Mc_max) hf hlo hc.1 hc.2 d (kk H locs ls hP hD hS hl)
theorem g_min (X : CX E A own cc nL p s m meth c) {i : Nat} (hl9 : Cond.methodLink own i Lib.Math.min.name ∈ lw_ok) (d : decode cc pc = .ok (.invokestatic i, 3)) (q : Nat) (hq : pc + 3 = q) (hf : 1 ≤ R.frames) (hlo : (st.map fun v => v.category).sum + 13 ≤ R.locals) (hc : k ≤ R.cells ∧ n ≤ R.slots) {x y : Int32} (kk : G E A nL p l e R s m args below meth c Q k n ws q lv (.int (if y < x then y else x) :: st)) : G E A nL p l e R s m args below meth c Q k n ws pc lv (.int y :: .int x :: st) := by
  subst hq
  have ts := X.2.2.2.2.1.2.1.ts (args := args)
  exact fun H locs ls hP hD hS hl => va_mmin X.1 X.2.1 (by rw [X.2.2.1]; exact hl.1.symm) X.2.2.2.1 (ts _ hl9) (ts _ Ms_min) (ts _ Mi_math) (ts _ Mc_min) hf hlo hc.1 hc.2 d (kk H locs ls hP hD hS hl)
theorem g_copyi (X : CX E A own cc nL p s m meth c) {i : Nat} (hl9 : Cond.methodLink own i arraycopyName ∈ lw_ok) (d : decode cc pc = .ok (.invokestatic i, 3)) (q : Nat) (hq : pc + 3 = q) (hf : 1 ≤ R.frames) (hlo : (st.map fun v => v.category).sum + (nativeFrameWords "java/lang/System" "arraycopy" 5 + 11) ≤ R.locals) (q0 q1 : Nat) {a0 a1 N0 N1 : Nat} {f g : Nat → Int32} (he0 : ws[q0]? = some (a0, ia E N0 f)) (he1 : ws[q1]? = some (a1, ia E N1 g)) {w : Int32} (h3 : ¬ w < 0) (h4 : w.toNatClampNeg ≤ N0) (h5 : w.toNatClampNeg ≤ N1) (ws' : va_W) (hw : ws.set q1 (a1, ia E N1 (va_cpy f g 0 0 w.toNatClampNeg)) = ws') (kk : G E A nL p l e R s m args below meth c Q k n ws' q lv st) : G E A nL p l e R s m args below meth c Q k n ws pc lv (.int w :: .int 0 :: .ref a1 :: .int 0 :: .ref a0 :: st) := by
  subst hq; subst hw
  have ts := X.2.2.2.2.1.2.1.ts (args := args)
  exact fun H locs ls hP hD hS hl => va_copyi X.1 X.2.1 (by rw [X.2.2.1]; exact hl.1.symm) X.2.2.2.1 (ts _ hl9) (ts _ An_copy) (ts _ As_copy) (ts _ Ai_copy) X.2.2.2.2.1.1 hP hD hS q0 q1 0 0 (ty := .int) he0 he1 rfl rfl rfl (by decide) (by decide) h3 (by show 0 + w.toNatClampNeg ≤ N0; omega) (by show 0 + w.toNatClampNeg ≤ N1; omega) (fun _ _ => rfl) hf hlo d (fun H1 locs1 hP1 hD1 hS1 => kk H1 locs1 ls hP1 hD1 hS1 hl)
theorem g_objInit (X : CX E A own cc nL p s m meth c) {i : Nat} (hl9 : Cond.methodLink own i objectInit ∈ lw_ok) (d : decode cc pc = .ok (.invokespecial i, 3)) (q : Nat) (hq : pc + 3 = q) (hf : 1 ≤ R.frames) (hlo : (st.map fun v => v.category).sum + 12 ≤ R.locals) {a : Nat} (kk : G E A nL p l e R s m args below meth c Q k n ws q lv st) : G E A nL p l e R s m args below meth c Q k n ws pc lv (.ref a :: st) := by
  subst hq
  have ts := X.2.2.2.2.1.2.1.ts (args := args)
  exact fun H locs ls hP hD hS hl => W.objInit X.1 X.2.1 X.2.2.2.1 (ts _ hl9) (ts _ Oi_inst) (ts _ Oi_code) rfl (by rw [X.2.2.1]; exact hl.1) rfl d hf (by show 2 * 0 + _ + 12 ≤ _; omega) (kk H locs ls hP hD hS hl)
theorem g_new (X : CX E A own cc nL p s m meth c) {idx ci N : Nat} {C : String} {T : u_T} {ty0 : Nat → FieldType} (hcl : Cond.classLink own idx C ∈ lw_ok) (hin : Cond.instantiable C N ∈ lw_ok ∧ Cond.initialized C ∈ lw_ok) (hu : ∀ w ∈ u_ws C T N, w ∈ lw_ok) (K : FK C T N ty0) (hc : kcl[ci]? = some (C, T, N)) (d : decode cc pc = .ok (.new idx, 3)) (q : Nat) (hq : pc + 3 = q) (fs : List Value) (hfs : ∀ j, j < N → defaultValue (ty0 j) = vp_V fs j) (hk : k + 1 ≤ R.cells) (hn : n + N ≤ R.slots) (kk : ∀ a : Nat, G E A nL p l e R s m args below meth c Q (k + 1) (n + N) (ws ++ [(a, .inr (ci, fs))]) q lv (.ref a :: st)) : G E A nL p l e R s m args below meth c Q k n ws pc lv st := by
  subst hq
  have ts := X.2.2.2.2.1.2.1.ts (args := args)
  exact fun H locs ls hP hD hS hl => va_new X.1 X.2.1 ts hu ty0 K.1 X.2.2.2.1 (ts _ hcl) (ts _ hin.1) (ts _ hin.2) X.2.2.2.2.1.1 hP hD hS X.2.2.2.2.2.2 hc hfs hk hn d (fun a H1 hP1 hD1 hS1 => kk a H1 locs ls hP1 hD1 hS1 hl)
/-- the array classes are the tables' own -/
theorem arr_one {U : State} {D : va_G} {cl : List vw_C} {tys : List (ClassId × FieldType)} (h : va_K D cl tys U) {t0 t1 : Nat} {c0 c1 : ClassId} {ty : FieldType} (h0 : tys[t0]? = some (c0, ty)) (h1 : tys[t1]? = some (c1, ty)) (hp : refKind ty = false) : c0 = c1 := by
  have a := (h.2 t0 _ h0).2
  have b := (h.2 t1 _ h1).2
  cases ty <;> first
    | (exact Option.some.inj (Eq.trans (Eq.symm a) b))
    | (simp [refKind] at hp)
theorem g_newaI (X : CX E A own cc nL p s m meth c) (d : decode cc pc = .ok (.newarray .int, 2)) (q : Nat) (hq : pc + 2 = q) (N : Nat) {w : Int32} (hw : ¬ w < 0) (hN : w.toNatClampNeg = N) (hb : N * 4 ≤ 536870912) (hk : k + 1 ≤ R.cells) (hn : n + N ≤ R.slots) (kk : ∀ a : Nat, G E A nL p l e R s m args below meth c Q (k + 1) (n + N) (ws ++ [(a, ia E N (fun _ => 0))]) q lv (.ref a :: st)) : G E A nL p l e R s m args below meth c Q k n ws pc lv (.int w :: st) := by
  subst hq
  have ts := X.2.2.2.2.1.2.1.ts (args := args)
  refine fun H locs ls hP hD hS hl => va_newa (atype := .int) (ty := .int) (N' := N) (a0 := (N, .inl (fun _ => 0))) X.1 X.2.1 (ts _ Ar_int) rfl X.2.2.2.2.1.1 hP hD hS X.2.2.2.2.2.2 (fun _ => rfl) hw hN hb hk hn d (fun a cA H1 hK1 hP1 hD1 hS1 => ?_)
  have e1 : E.2 0 = cA := arr_one hK1 (t0 := 0) (t1 := 4) rfl rfl rfl
  subst e1
  exact kk a H1 locs ls hP1 hD1 hS1 hl
theorem g_newaZ (X : CX E A own cc nL p s m meth c) (d : decode cc pc = .ok (.newarray .boolean, 2)) (q : Nat) (hq : pc + 2 = q) (N : Nat) {w : Int32} (hw : ¬ w < 0) (hN : w.toNatClampNeg = N) (hb : N * 1 ≤ 536870912) (hk : k + 1 ≤ R.cells) (hn : n + N ≤ R.slots) (kk : ∀ a : Nat, G E A nL p l e R s m args below meth c Q (k + 1) (n + N) (ws ++ [(a, za E N (fun _ => 0))]) q lv (.ref a :: st)) : G E A nL p l e R s m args below meth c Q k n ws pc lv (.int w :: st) := by
  subst hq
  have ts := X.2.2.2.2.1.2.1.ts (args := args)
  refine fun H locs ls hP hD hS hl => va_newa (atype := .boolean) (ty := .boolean) (N' := N) (a0 := (N, .inl (fun _ => 0))) X.1 X.2.1 (ts _ Ar_boolean) rfl X.2.2.2.2.1.1 hP hD hS X.2.2.2.2.2.2 (fun _ => rfl) hw hN hb hk hn d (fun a cA H1 hK1 hP1 hD1 hS1 => ?_)
  have e1 : E.2 1 = cA := arr_one hK1 (t0 := 1) (t1 := 4) rfl rfl rfl
  subst e1
  exact kk a H1 locs ls hP1 hD1 hS1 hl
theorem g_widen {k' n' : Nat} (h1 : k ≤ k') (h2 : n ≤ n') (kk : G E A nL p l e R s m args below meth c Q k' n' ws pc lv st) : G E A nL p l e R s m args below meth c Q k n ws pc lv st :=
  fun H locs ls hP hD hS hl => W.widen h1 h2 (kk H locs ls hP hD hS hl)
/-- fewer locals, another list of the same world -/
theorem g_lsub (js : List Nat) (lv' : List (Nat × Value)) (h : lv_pick lv js = lv') (kk : G E A nL p l e R s m args below meth c Q k n ws pc lv' st) : G E A nL p l e R s m args below meth c Q k n ws pc lv st :=
  fun H locs ls hP hD hS hl => kk H locs ls hP hD hS (lv_sub hl js h)
end GR
