section LW1
variable {E : kE} {A : Nat → Prop} {own : String} {cc : ByteArray} {nL : Nat} {p : Program} {l : Launch} {e : Env} {R : Room} {s : State} {m : MethodId} {args : Array Value} {below : List Frame} {meth : Method} {c : Code} {Q : State → Prop} {k n : Nat} {ws : va_W} {pc : Nat} {lv : List (Nat × Value)} {st st0 : List Value}
theorem g_sald (X : CX E A own cc nL p s m meth c) {sb L : Nat} {xs : Nat → Int32} (hX : va_X sb L xs s s.heap) (hbl : sb < s.heap.size) (hbA : ¬ A sb) (hL : L < 2 ^ 31) (d : decode cc pc = .ok (.iaload, 1)) (q : Nat) (hq : pc + 1 = q) {j : Nat} (hj : j < L) (kk : G E A nL p l e R s m args below meth c Q k n ws q lv (.int (xs j) :: st)) : G E A nL p l e R s m args below meth c Q k n ws pc lv (.int (nI j) :: .ref sb :: st) := by
  subst hq
  refine fun H locs ls hP hD hS hl => va_sld X.1 X.2.1 hX hbl hbA hS (vp_in_nI hj hL) d ?_
  rw [nI_clamp (Nat.lt_trans hj hL)]
  exact kk H locs ls hP hD hS hl
theorem g_slen (X : CX E A own cc nL p s m meth c) {sb L : Nat} {xs : Nat → Int32} (hX : va_X sb L xs s s.heap) (hbl : sb < s.heap.size) (hbA : ¬ A sb) (d : decode cc pc = .ok (.arraylength, 1)) (q : Nat) (hq : pc + 1 = q) (kk : G E A nL p l e R s m args below meth c Q k n ws q lv (.int (nI L) :: st)) : G E A nL p l e R s m args below meth c Q k n ws pc lv (.ref sb :: st) := by
  subst hq
  exact fun H locs ls hP hD hS hl => va_slen X.1 X.2.1 hX hbl hbA hS d (kk H locs ls hP hD hS hl)
theorem g_lv (lv' : List (Nat × Value)) (h : ∀ q ∈ lv', q ∈ lv) (kk : G E A nL p l e R s m args below meth c Q k n ws pc lv' st) : G E A nL p l e R s m args below meth c Q k n ws pc lv st := fun H locs ls hP hD hS hl => kk H locs ls hP hD hS ⟨hl.1, hl.2.1, fun q hq => hl.2.2 q (h q hq)⟩
/-- an int of the script -/
theorem g_S (X : CX E A own cc nL p s m meth c) {sb L : Nat} {xs : Nat → Int32} (hX : va_X sb L xs s s.heap) (hbl : sb < s.heap.size) (hbA : ¬ A sb) (hL : L < 2 ^ 31) {z : Int} (d0 : decode cc pc = .ok (.aload_n 0, 1)) (d1 : decode cc (pc + 1) = .ok (.iload 5, 2)) (d2 : decode cc (pc + 3) = .ok (.iconst z, 1)) (d3 : decode cc (pc + 4) = .ok (.iadd, 1)) (d4 : decode cc (pc + 5) = .ok (.iaload, 1)) {i t : Nat} (ht : Int32.ofInt z = nI t) (h0 : lk lv 0 = some (.ref sb)) (h5 : lk lv 5 = some (.int (nI i))) (hit : i + t < L) (q : Nat) (hq : pc + 6 = q) (kk : G E A nL p l e R s m args below meth c Q k n ws q lv (.int (xs (i + t)) :: st)) : G E A nL p l e R s m args below meth c Q k n ws pc lv st := by
  refine g_aload_n X d0 (pc + 1) rfl h0 ?_
  refine g_iload X d1 (pc + 3) rfl h5 ?_
  refine g_iconst X d2 (pc + 4) rfl ht ?_
  refine g_iadd X d3 (pc + 5) rfl ?_
  rw [nI_add]
  exact g_sald X hX hbl hbA hL d4 q hq hit kk
/-- a truth of an int -/
theorem g_bl (X : CX E A own cc nL p s m meth c) {x : Int32} {st : List Value} (d0 : decode cc pc = .ok (.ifCond .eq 7, 3)) (d3 : decode cc (pc + 3) = .ok (.iconst 1, 1)) (d4 : decode cc (pc + 4) = .ok (.goto 4, 3)) (d7 : decode cc (pc + 7) = .ok (.iconst 0, 1)) (q : Nat) (hq : pc + 8 = q) (kk : G E A nL p l e R s m args below meth c Q k n ws q lv (.int (bi (!decide (x = 0))) :: st)) : G E A nL p l e R s m args below meth c Q k n ws pc lv (.int x :: st) := by
  subst hq
  refine g_if_eq X d0 (pc + 7) (pc + 3) rfl rfl (fun c1 => ?_) (fun c1 => ?_)
  · refine g_iconst X d7 (pc + 8) rfl (v := 0) rfl ?_
    rw [decide_eq_true c1] at kk
    exact kk
  · refine g_iconst X d3 (pc + 4) rfl (v := 1) rfl ?_
    refine g_goto X d4 (pc + 8) rfl ?_
    rw [decide_eq_false c1] at kk
    exact kk
/-- a truth as a long -/
theorem g_ll (X : CX E A own cc nL p s m meth c) {B : Bool} {st : List Value} (d0 : decode cc pc = .ok (.ifCond .eq 7, 3)) (d3 : decode cc (pc + 3) = .ok (.lconst 1, 1)) (d4 : decode cc (pc + 4) = .ok (.goto 4, 3)) (d7 : decode cc (pc + 7) = .ok (.lconst 0, 1)) (q : Nat) (hq : pc + 8 = q) (kk : G E A nL p l e R s m args below meth c Q k n ws q lv (.long (bi B).toInt64 :: st)) : G E A nL p l e R s m args below meth c Q k n ws pc lv (.int (bi B) :: st) := by
  subst hq
  cases B
  · refine g_if_eq (x := 0) X d0 (pc + 7) (pc + 3) rfl rfl (fun _ => ?_) (fun c1 => absurd rfl c1)
    exact g_lconst X d7 (pc + 8) rfl rfl kk
  · refine g_if_eq (x := 1) X d0 (pc + 7) (pc + 3) rfl rfl (fun c1 => absurd c1 (by decide)) (fun _ => ?_)
    refine g_lconst X d3 (pc + 4) rfl (v := (1 : Int32).toInt64) rfl ?_
    exact g_goto X d4 (pc + 8) rfl kk
theorem g_dload (X : CX E A own cc nL p s m meth c) {i : Nat} (d : decode cc pc = .ok (.dload i, 2)) (q : Nat) (hq : pc + 2 = q) {x : UInt64} (hv : lk lv i = some (.double x)) (kk : G E A nL p l e R s m args below meth c Q k n ws q lv (.double x :: st)) : G E A nL p l e R s m args below meth c Q k n ws pc lv st := by
  subst hq; exact fun H locs ls hP hD hS hl => lv_dload X.1 X.2.1 d (hl.2.2 _ (lk_mem hv)) (kk H locs ls hP hD hS hl)
theorem g_fload (X : CX E A own cc nL p s m meth c) {i : Nat} (d : decode cc pc = .ok (.fload i, 2)) (q : Nat) (hq : pc + 2 = q) {x : UInt32} (hv : lk lv i = some (.float x)) (kk : G E A nL p l e R s m args below meth c Q k n ws q lv (.float x :: st)) : G E A nL p l e R s m args below meth c Q k n ws pc lv st := by
  subst hq; exact fun H locs ls hP hD hS hl => lv_fload X.1 X.2.1 d (hl.2.2 _ (lk_mem hv)) (kk H locs ls hP hD hS hl)
theorem g_fstore (X : CX E A own cc nL p s m meth c) {i : Nat} (d : decode cc pc = .ok (.fstore i, 2)) (q : Nat) (hq : pc + 2 = q) (hn : i < nL) {x : UInt32} (lv' : List (Nat × Value)) (hv : sl i (.float x) lv = lv') (kk : G E A nL p l e R s m args below meth c Q k n ws q lv' st) : G E A nL p l e R s m args below meth c Q k n ws pc lv (.float x :: st) := by
  subst hq; exact fun H locs ls hP hD hS hl => lv_fstore X.1 X.2.1 d hl hn hv (fun ls' hl' => kk H locs ls' hP hD hS hl')
theorem g_dstore (X : CX E A own cc nL p s m meth c) {i : Nat} (d : decode cc pc = .ok (.dstore i, 2)) (q : Nat) (hq : pc + 2 = q) (hn : i + 1 < nL) {x : UInt64} (lv' : List (Nat × Value)) (hv : (i, Value.double x) :: lv.filter (fun q => !(q.1 == i) && (!(q.1 == i + 1) && !(q.1 + 1 == i && q.2.category == 2))) = lv') (kk : G E A nL p l e R s m args below meth c Q k n ws q lv' st) : G E A nL p l e R s m args below meth c Q k n ws pc lv (.double x :: st) := by
  subst hq; exact fun H locs ls hP hD hS hl => lv_dstore X.1 X.2.1 d hl hn hv (fun ls' hl' => kk H locs ls' hP hD hS hl')
theorem g_dcmp (X : CX E A own cc nL p s m meth c) {op : CmpOp} (d : decode cc pc = .ok (.dcmp op, 1)) (q : Nat) (hq : pc + 1 = q) {x y : UInt64} (kk : G E A nL p l e R s m args below meth c Q k n ws q lv (.int (Op.cmpValue (FP.dcmp x y) op) :: st)) : G E A nL p l e R s m args below meth c Q k n ws pc lv (.double y :: .double x :: st) := by
  subst hq; exact fun H locs ls hP hD hS hl => lv_dcmp X.1 X.2.1 d (kk H locs ls hP hD hS hl)
theorem g_fcmp (X : CX E A own cc nL p s m meth c) {op : CmpOp} (d : decode cc pc = .ok (.fcmp op, 1)) (q : Nat) (hq : pc + 1 = q) {x y : UInt32} (kk : G E A nL p l e R s m args below meth c Q k n ws q lv (.int (Op.cmpValue (FP.fcmp x y) op) :: st)) : G E A nL p l e R s m args below meth c Q k n ws pc lv (.float y :: .float x :: st) := by
  subst hq; exact fun H locs ls hP hD hS hl => lv_fcmp X.1 X.2.1 d (kk H locs ls hP hD hS hl)
end LW1
theorem hcd_0 {L : List String} {c : String} (h : L.length < 100) (hc : c ∈ L) : ¬ hcd L (oX c) = 0 := by
  have h1 : L.findIdx (fun x => x == c) < L.length := List.findIdx_lt_length_of_exists ⟨c, hc, by simp⟩
  exact nI_ne (b := 0) (by omega) (by decide) (by omega)
theorem AGR.z {L : List String} {o : OT} {T R : Int32} (h : AGR L o T R) (hL : L.length < 100) (h0 : hcd L o = 0) : o = oI R := by
  rcases h with ⟨h, -⟩ | ⟨c, h1, h2, -⟩
  · exact h
  · rw [h1] at h0; exact absurd h0 (hcd_0 hL h2)
theorem lgc {x y : Int64} (h : x = y) : lg_cmp x y = 0 := by
  subst h
  unfold lg_cmp
  rw [if_neg (Int64.lt_irrefl), if_pos rfl]
theorem AGR.lg {L : List String} {o : OT} {T R : Int32} {F : Nat → Int64} (h : AGR L o T R) (hL : L.length < 100) (h0 : hcd L o = 0) : lg_cmp (hou F o (0 : Int32).toNatClampNeg) R.toInt64 = 0 := by
  rw [h.z hL h0]
  exact lgc rfl
def RTl (σ μ : Sto) : Prop := RTc σ (μ 1) (μ 2) (μ 3 0) (μ 4) (μ 5 0)
section SH9
variable {σ μ : Sto} {T : Int32} {N M f g : Nat → Int32}
theorem th1 : put μ 0 (sc T) 0 0 = T := rfl
theorem th2 : put (put μ 0 (sc T)) 1 N 0 0 = T := rfl
theorem th4 : put (put (put (put μ 0 (sc T)) 1 N) 4 f) 5 g 0 0 = T := rfl
theorem rt1 (h : RTc σ (μ 1) (μ 2) (μ 3 0) (μ 4) (μ 5 0)) : RTl σ (put μ 0 (sc T)) := h
theorem rt2 (h : RTc σ N (μ 2) (μ 3 0) (μ 4) (μ 5 0)) : RTl σ (put (put μ 0 (sc T)) 1 N) := h
theorem rt4 (h : RTc σ N (μ 2) (μ 3 0) f (g 0)) : RTl σ (put (put (put (put μ 0 (sc T)) 1 N) 4 f) 5 g) := h
theorem rtS (h : RTc σ (μ 1) M 1 (μ 4) (μ 5 0)) : RTl σ (put (put (put μ 0 (sc 0)) 2 M) 3 (sc 1)) := h
end SH9
/-- what holds in the law's body -/
abbrev LA (s : State) : Nat → Prop := fun q => s.heap.size ≤ q
def LC (E : kE) (p : Program) (l : Launch) (s : State) (m : MethodId) (meth : Method) (c : Code) (sb L : Nat) (xs : Nat → Int32) : Prop := CX E (LA s) RL cL_law 9 p s m meth c ∧ ZQ (LA s) s ∧ NX s ∧ va_X sb L xs s s.heap ∧ sb < s.heap.size ∧ L ≤ 2560 ∧ l.stackTraces = false
theorem LC.nA {s : State} {sb : Nat} (h : sb < s.heap.size) : ¬ LA s sb := Nat.not_le.mpr h
abbrev lvL (sb o d : Nat) (a b : Nat → Nat) (i : Nat) : List (Nat × Value) := [(5, .int (nI i)), (4, .ref d), (3, .ref o), (2, .ref (b 0)), (1, .ref (a 0)), (0, .ref sb)]
abbrev WL (E : kE) (b : Nat → Nat) (μ : Sto) (a : Nat → Nat) (σ : Sto) (o d : Nat) (F : Nat → Int64) (D : Nat → UInt64) : va_W := WW E b μ a σ [(o, la E 1 F), (d, da E 1 D)]
