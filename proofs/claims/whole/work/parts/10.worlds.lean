/-! THE WORLDS: a state of the class, and of the reference, is a function: which row, which place -/
abbrev Sto : Type := Nat → Nat → Int32
def put (σ : Sto) (k : Nat) (f : Nat → Int32) : Sto := fun j => if j = k then f else σ j
def sc (v : Int32) : Nat → Int32 := fun _ => v
abbrev ix (x : Int32) : Nat := x.toNatClampNeg
theorem put_s {σ : Sto} {k : Nat} {f : Nat → Int32} : put σ k f k = f := if_pos rfl
theorem put_n {σ : Sto} {k j : Nat} {f : Nat → Int32} (h : j ≠ k) : put σ k f j = σ j := if_neg h
/-- the class: LeaseServer, its log, its two states. Rows: 0 count, 1 group, 2 first, 3 last, 4 lease, 5 excluded, 6 stranger, 7 state, 8 holder, 9 end, 10 freed, 11 client's state, 12 address, 13 last leased, 14 renewal, 15 rebinding, 16 time, 17 hold, 18 quarantine, 19 conflicts, 20 direct, 21 relay; the saved ones 22 behind; 44 ring, 45 size, 46 next, 47 something saved -/
def WC (E : kE) (a : Nat → Nat) (σ : Sto) (wr : va_W) : va_W :=
  (a 0, ob 6 [.ref (a 1), .ref (a 3), .ref (a 25), .int (σ 47 0)]) ::
  (a 1, ob 2 [.ref (a 2), .int (σ 45 0), .int (σ 46 0)]) ::
  (a 2, ia E 30 (σ 44)) ::
  (a 3, ob 5 [.ref (a 4), .ref (a 9), .ref (a 16), .ref (a 22), .ref (a 1)]) ::
  (a 4, ob 3 [.int (σ 0 0), .ref (a 5), .ref (a 6), .ref (a 7), .ref (a 8)]) ::
  (a 5, ia E 5 (σ 1)) :: (a 6, ia E 5 (σ 2)) :: (a 7, ia E 5 (σ 3)) :: (a 8, ia E 5 (σ 4)) ::
  (a 9, ob 0 [.ref (a 10), .ref (a 11), .ref (a 12), .ref (a 13), .ref (a 14), .ref (a 15)]) ::
  (a 10, za E 100 (σ 5)) :: (a 11, za E 100 (σ 6)) :: (a 12, ia E 100 (σ 7)) :: (a 13, ia E 100 (σ 8)) :: (a 14, ia E 100 (σ 9)) :: (a 15, ia E 100 (σ 10)) ::
  (a 16, ob 1 [.ref (a 17), .ref (a 18), .ref (a 19), .ref (a 20), .ref (a 21)]) ::
  (a 17, ia E 20 (σ 11)) :: (a 18, ia E 20 (σ 12)) :: (a 19, ia E 20 (σ 13)) :: (a 20, ia E 20 (σ 14)) :: (a 21, ia E 20 (σ 15)) ::
  (a 22, ob 4 [.int (σ 16 0), .int (σ 17 0), .int (σ 18 0), .int (σ 19 0), .ref (a 23), .ref (a 24)]) ::
  (a 23, za E 3 (σ 20)) :: (a 24, za E 3 (σ 21)) ::
  (a 25, ob 5 [.ref (a 26), .ref (a 31), .ref (a 38), .ref (a 44), .ref (a 1)]) ::
  (a 26, ob 3 [.int (σ 22 0), .ref (a 27), .ref (a 28), .ref (a 29), .ref (a 30)]) ::
  (a 27, ia E 5 (σ 23)) :: (a 28, ia E 5 (σ 24)) :: (a 29, ia E 5 (σ 25)) :: (a 30, ia E 5 (σ 26)) ::
  (a 31, ob 0 [.ref (a 32), .ref (a 33), .ref (a 34), .ref (a 35), .ref (a 36), .ref (a 37)]) ::
  (a 32, za E 100 (σ 27)) :: (a 33, za E 100 (σ 28)) :: (a 34, ia E 100 (σ 29)) :: (a 35, ia E 100 (σ 30)) :: (a 36, ia E 100 (σ 31)) :: (a 37, ia E 100 (σ 32)) ::
  (a 38, ob 1 [.ref (a 39), .ref (a 40), .ref (a 41), .ref (a 42), .ref (a 43)]) ::
  (a 39, ia E 20 (σ 33)) :: (a 40, ia E 20 (σ 34)) :: (a 41, ia E 20 (σ 35)) :: (a 42, ia E 20 (σ 36)) :: (a 43, ia E 20 (σ 37)) ::
  (a 44, ob 4 [.int (σ 38 0), .int (σ 39 0), .int (σ 40 0), .int (σ 41 0), .ref (a 45), .ref (a 46)]) ::
  (a 45, za E 3 (σ 42)) :: (a 46, za E 3 (σ 43)) :: wr
/-- the reference. Rows: 0 thrown, 1 now, 2 saved, 3 is saved, 4 log, 5 logged -/
def WM (E : kE) (b : Nat → Nat) (μ : Sto) (wr : va_W) : va_W :=
  (b 0, ob 7 [.int (μ 0 0), .ref (b 1), .ref (b 2), .int (μ 3 0), .ref (b 3), .int (μ 5 0)]) ::
  (b 1, ia E 731 (μ 1)) :: (b 2, ia E 731 (μ 2)) :: (b 3, ia E 30 (μ 4)) :: wr
abbrev WW (E : kE) (b : Nat → Nat) (μ : Sto) (a : Nat → Nat) (σ : Sto) (wr : va_W) : va_W := WM E b μ (WC E a σ wr)
-- calls with one answer, one world: the next pc, the cells and slots, the world and the stack are named
section KD
variable {E : kE} {A : Nat → Prop} {own : String} {cc : ByteArray} {nL : Nat} {p : Program} {l : Launch} {e : Env} {R : Room} {s : State} {m : MethodId} {args : Array Value} {below : List Frame} {meth : Method} {c : Code} {Q : State → Prop} {k n : Nat} {ws : va_W} {pc : Nat} {lv : List (Nat × Value)} {st st0 : List Value}
variable {idx n0 maxL fr lo : Nat} {y : MethodName} {bytes : ByteArray} {ret : Option FieldType} {As : List Value}
theorem c_V {o : Option Value} {w1 : va_W} (X : CX E A own cc nL p s m meth c) {b : Nat} (L : LkV own idx y bytes maxL ret n0) (hM : KM E l y bytes maxL ret fr lo 0 0 (.ref b :: As) ws o w1) (d : decode cc pc = .ok (.invokevirtual idx, 3)) (hn : As.length = n0) (q0 : Nat) {ci N : Nat} {T : u_T} {fs : List Value} (he : ws[q0]? = some (b, .inr (ci, fs))) (hc : kcl[ci]? = some (y.cls, T, N)) (hst : st0 = As.reverse ++ .ref b :: st) (hcat : (st.map fun v => v.category).sum ≤ 8) (hR : fr + 1 ≤ R.frames ∧ 8 + (maxL + 11) + lo ≤ R.locals) (hf : k ≤ R.cells ∧ n ≤ R.slots) (q : Nat) (hq : pc + 3 = q) (st' : List Value) (hs : o.toList ++ st = st') (kk : G E A nL p l e R s m args below meth c Q k n w1 q lv st') : G E A nL p l e R s m args below meth c Q k n ws pc lv st0 := by
  subst hq; subst hs
  exact g_callV X L hM d hn q0 he hc hst hcat hR hf (fun _ => kk)
theorem c_S {o : Option Value} {w1 : va_W} (X : CX E A own cc nL p s m meth c) (L : LkS own idx y bytes maxL ret n0) (hM : KM E l y bytes maxL ret fr lo 0 0 As ws o w1) (d : decode cc pc = .ok (.invokestatic idx, 3)) (hn : As.length = n0) (hst : st0 = As.reverse ++ st) (hcat : (st.map fun v => v.category).sum ≤ 8) (hR : fr + 1 ≤ R.frames ∧ 8 + (maxL + 11) + lo ≤ R.locals) (hf : k ≤ R.cells ∧ n ≤ R.slots) (q : Nat) (hq : pc + 3 = q) (st' : List Value) (hs : o.toList ++ st = st') (kk : G E A nL p l e R s m args below meth c Q k n w1 q lv st') : G E A nL p l e R s m args below meth c Q k n ws pc lv st0 := by
  subst hq; subst hs
  exact g_callS X L hM d hn hst hcat hR hf (fun _ => kk)
theorem c_N {o : Option Value} {w1 : va_W} {host : String} (X : CX E A own cc nL p s m meth c) (L : LkN own idx y host bytes maxL ret n0) (hM : KM E l y bytes maxL ret fr lo 0 0 As ws o w1) (d : decode cc pc = .ok (.invokestatic idx, 3)) (hn : As.length = n0) (hst : st0 = As.reverse ++ st) (hcat : (st.map fun v => v.category).sum ≤ 8) (hR : fr + 1 ≤ R.frames ∧ 8 + (maxL + 11) + lo ≤ R.locals) (hf : k ≤ R.cells ∧ n ≤ R.slots) (q : Nat) (hq : pc + 3 = q) (st' : List Value) (hs : o.toList ++ st = st') (kk : G E A nL p l e R s m args below meth c Q k n w1 q lv st') : G E A nL p l e R s m args below meth c Q k n ws pc lv st0 := by
  subst hq; subst hs
  exact g_callN X L hM d hn hst hcat hR hf (fun _ => kk)
end KD
-- indices
def inA (x : Int32) : Bool := !decide (x < 0) && !decide (100 ≤ x)
def inC (x : Int32) : Bool := !decide (x < 0) && !decide (20 ≤ x)
def inG (x : Int32) : Bool := !decide (x < 0) && !decide (3 ≤ x)
theorem vin_of {x N : Int32} {n : Nat} (hn : n < 2 ^ 31) (hN : N = nI n) (h0 : ¬ x < 0) (h1 : ¬ N ≤ x) : vp_in x n := by
  subst hN
  rcases pk_ix x hn with h | h | ⟨j, hj, rfl⟩
  · exact absurd h h0
  · exact absurd h h1
  · exact vp_in_nI hj hn
theorem vA {x : Int32} (h : inA x = true) : vp_in x 100 := by
  simp [inA] at h
  exact vin_of (N := 100) (by decide) rfl (by simpa using h.1) (by simpa using h.2)
theorem vC {x : Int32} (h : inC x = true) : vp_in x 20 := by
  simp [inC] at h
  exact vin_of (N := 20) (by decide) rfl (by simpa using h.1) (by simpa using h.2)
theorem vG {x : Int32} (h : inG x = true) : vp_in x 3 := by
  simp [inG] at h
  exact vin_of (N := 3) (by decide) rfl (by simpa using h.1) (by simpa using h.2)
section KI9
variable {E : kE} {A : Nat → Prop} {own : String} {cc : ByteArray} {nL : Nat} {p : Program} {l : Launch} {e : Env} {R : Room} {s : State} {m : MethodId} {args : Array Value} {below : List Frame} {meth : Method} {c : Code} {Q : State → Prop} {k n : Nat} {ws : va_W} {pc : Nat} {lv : List (Nat × Value)} {st : List Value}
theorem g_ialdN (X : CX E A own cc nL p s m meth c) (d : decode cc pc = .ok (.iaload, 1)) (q : Nat) (hq : pc + 1 = q) (q0 : Nat) {a N j : Nat} {f : Nat → Int32} (he : ws[q0]? = some (a, ia E N f)) (hj : j < N) (hN : N < 2 ^ 31) (kk : G E A nL p l e R s m args below meth c Q k n ws q lv (.int (f j) :: st)) : G E A nL p l e R s m args below meth c Q k n ws pc lv (.int (nI j) :: .ref a :: st) := by
  refine g_iald X d q hq q0 he (vp_in_nI hj hN) ?_
  rw [nI_clamp (Nat.lt_trans hj hN)]
  exact kk
theorem g_zaldN (X : CX E A own cc nL p s m meth c) (d : decode cc pc = .ok (.baload, 1)) (q : Nat) (hq : pc + 1 = q) (q0 : Nat) {a N j : Nat} {f : Nat → Int32} (he : ws[q0]? = some (a, za E N f)) (hj : j < N) (hN : N < 2 ^ 31) (kk : G E A nL p l e R s m args below meth c Q k n ws q lv (.int (f j) :: st)) : G E A nL p l e R s m args below meth c Q k n ws pc lv (.int (nI j) :: .ref a :: st) := by
  refine g_zald X d q hq q0 he (vp_in_nI hj hN) ?_
  rw [nI_clamp (Nat.lt_trans hj hN)]
  exact kk
theorem g_iastN (X : CX E A own cc nL p s m meth c) (d : decode cc pc = .ok (.iastore, 1)) (q : Nat) (hq : pc + 1 = q) (q0 : Nat) {a N j : Nat} {f : Nat → Int32} (he : ws[q0]? = some (a, ia E N f)) {x : Int32} (hj : j < N) (hN : N < 2 ^ 31) (ws' : va_W) (hw : ws.set q0 (a, ia E N (upd f j x)) = ws') (kk : G E A nL p l e R s m args below meth c Q k n ws' q lv st) : G E A nL p l e R s m args below meth c Q k n ws pc lv (.int x :: .int (nI j) :: .ref a :: st) :=
  g_iast X d q hq q0 he (vp_in_nI hj hN) ws' (by rw [nI_clamp (Nat.lt_trans hj hN)]; exact hw) kk
theorem g_zastN (X : CX E A own cc nL p s m meth c) (d : decode cc pc = .ok (.bastore, 1)) (q : Nat) (hq : pc + 1 = q) (q0 : Nat) {a N j : Nat} {f : Nat → Int32} (he : ws[q0]? = some (a, za E N f)) {x : Int32} (hj : j < N) (hN : N < 2 ^ 31) (hx : vp_nar .boolean x = x) (ws' : va_W) (hw : ws.set q0 (a, za E N (upd f j x)) = ws') (kk : G E A nL p l e R s m args below meth c Q k n ws' q lv st) : G E A nL p l e R s m args below meth c Q k n ws pc lv (.int x :: .int (nI j) :: .ref a :: st) :=
  g_zast X d q hq q0 he (vp_in_nI hj hN) hx ws' (by rw [nI_clamp (Nat.lt_trans hj hN)]; exact hw) kk
end KI9
