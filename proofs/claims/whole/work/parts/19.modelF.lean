section KF9
variable {E : kE} {A : Nat → Prop} {own : String} {cc : ByteArray} {nL : Nat} {p : Program} {l : Launch} {e : Env} {R : Room} {s : State} {m : MethodId} {args : Array Value} {below : List Frame} {meth : Method} {c : Code} {Q : State → Prop} {k n mc ms : Nat} {ws : va_W} {pc : Nat} {lv : List (Nat × Value)} {st : List Value}
theorem g_i2d (X : CX E A own cc nL p s m meth c) (d : decode cc pc = .ok (.i2d, 1)) (q : Nat) (hq : pc + 1 = q) {x : Int32} (kk : G E A nL p l e R s m args below meth c Q k n ws q lv (.double (FP.i2d x) :: st)) : G E A nL p l e R s m args below meth c Q k n ws pc lv (.int x :: st) := by
  subst hq; exact fun H locs ls hP hD hS hl => lv_i2d X.1 X.2.1 d (kk H locs ls hP hD hS hl)
theorem g_i2f (X : CX E A own cc nL p s m meth c) (d : decode cc pc = .ok (.i2f, 1)) (q : Nat) (hq : pc + 1 = q) {x : Int32} (kk : G E A nL p l e R s m args below meth c Q k n ws q lv (.float (FP.i2f x) :: st)) : G E A nL p l e R s m args below meth c Q k n ws pc lv (.int x :: st) := by
  subst hq; exact fun H locs ls hP hD hS hl => lv_i2f X.1 X.2.1 d (kk H locs ls hP hD hS hl)
theorem g_ddiv (X : CX E A own cc nL p s m meth c) (d : decode cc pc = .ok (.ddiv, 1)) (q : Nat) (hq : pc + 1 = q) {x y : UInt64} (hne : vf_n64 (FP.ddiv x y)) (kk : G E A nL p l e R s m args below meth c Q k n ws q lv (.double (FP.ddiv x y) :: st)) : G E A nL p l e R s m args below meth c Q k n ws pc lv (.double y :: .double x :: st) := by
  subst hq; exact fun H locs ls hP hD hS hl => lv_ddiv X.1 X.2.1 d hne (kk H locs ls hP hD hS hl)
theorem g_fdiv (X : CX E A own cc nL p s m meth c) (d : decode cc pc = .ok (.fdiv, 1)) (q : Nat) (hq : pc + 1 = q) {x y : UInt32} (hne : vf_n32 (FP.fdiv x y)) (kk : G E A nL p l e R s m args below meth c Q k n ws q lv (.float (FP.fdiv x y) :: st)) : G E A nL p l e R s m args below meth c Q k n ws pc lv (.float y :: .float x :: st) := by
  subst hq; exact fun H locs ls hP hD hS hl => lv_fdiv X.1 X.2.1 d hne (kk H locs ls hP hD hS hl)
theorem g_dret {S : Type} {o : S → Option Value} {w1 : S → va_W} {w0 : va_W} (X : CX E (va_A w0 s.heap.size) own cc nL p s m meth c) (hr : meth.sig.returnType = some .double) {v : UInt64} (d : decode cc pc = .ok (.dreturn, 1)) (u : S) (ho : o u = some (.double v)) (hw : ws = w1 u) : G E (va_A w0 s.heap.size) nL p l e R s m args below meth c (MQ below (KQ E w0 s.heap.size o w1) args s k n (va_A w0 s.heap.size)) k n ws pc lv [.double v] := by
  subst hw
  exact fun H locs ls hP hD hS hl => W.dret X.1 X.2.1 hr (fun t ht hW => ⟨u, by rw [ho], by rw [ht]; exact hP, hD, hS.F ht⟩) hS.2.2 d X.2.2.2.2.2.1
theorem g_fret {S : Type} {o : S → Option Value} {w1 : S → va_W} {w0 : va_W} (X : CX E (va_A w0 s.heap.size) own cc nL p s m meth c) (hr : meth.sig.returnType = some .float) {v : UInt32} (d : decode cc pc = .ok (.freturn, 1)) (u : S) (ho : o u = some (.float v)) (hw : ws = w1 u) : G E (va_A w0 s.heap.size) nL p l e R s m args below meth c (MQ below (KQ E w0 s.heap.size o w1) args s k n (va_A w0 s.heap.size)) k n ws pc lv [.float v] := by
  subst hw
  exact fun H locs ls hP hD hS hl => W.fret X.1 X.2.1 hr (fun t ht hW => ⟨u, by rw [ho], by rw [ht]; exact hP, hD, hS.F ht⟩) hS.2.2 d X.2.2.2.2.2.1
theorem g_dretT {o : OT} {w0 w1 : va_W} (X : CX E (va_A w0 s.heap.size) own cc nL p s m meth c) (hr : meth.sig.returnType = some .double) {v : UInt64} (d : decode cc pc = .ok (.dreturn, 1)) (hk : k ≤ mc) (hn : n ≤ ms) (ho : o = .inl (some (.double v))) (hw : ws = w1) : G E (va_A w0 s.heap.size) nL p l e R s m args below meth c (vx_MQ below (KTQ E w0 s.heap.size o w1) (KTX E w0 s.heap.size o w1) args s mc ms (va_A w0 s.heap.size)) k n ws pc lv [.double v] := by
  subst hw
  exact fun H locs ls hP hD hS hl => W.widen hk hn (vx_ret (W.dret X.1 X.2.1 hr (fun t ht hW => ⟨⟨_, ho, rfl⟩, by rw [ht]; exact hP, hD, hS.F ht⟩) hS.2.2 d X.2.2.2.2.2.1))
theorem g_fretT {o : OT} {w0 w1 : va_W} (X : CX E (va_A w0 s.heap.size) own cc nL p s m meth c) (hr : meth.sig.returnType = some .float) {v : UInt32} (d : decode cc pc = .ok (.freturn, 1)) (hk : k ≤ mc) (hn : n ≤ ms) (ho : o = .inl (some (.float v))) (hw : ws = w1) : G E (va_A w0 s.heap.size) nL p l e R s m args below meth c (vx_MQ below (KTQ E w0 s.heap.size o w1) (KTX E w0 s.heap.size o w1) args s mc ms (va_A w0 s.heap.size)) k n ws pc lv [.float v] := by
  subst hw
  exact fun H locs ls hP hD hS hl => W.widen hk hn (vx_ret (W.fret X.1 X.2.1 hr (fun t ht hW => ⟨⟨_, ho, rfl⟩, by rw [ht]; exact hP, hD, hS.F ht⟩) hS.2.2 d X.2.2.2.2.2.1))
end KF9
theorem e64 (s : Bool) (c : Nat) (q : Int) (hc : c < 9007199254740992) (hq : q ≤ 971) : FP.Core.encode FP.Core.b64 (.fin s c q) % 9223372036854775808 ≤ 9218868437227405312 := by
  show (if c < FP.Core.b64.tails then FP.Core.assemble FP.Core.b64 s 0 c else FP.Core.assemble FP.Core.b64 s ((q - FP.Core.b64.qmin).toNat + 1) (c - FP.Core.b64.tails)) % 9223372036854775808 ≤ 9218868437227405312
  have ht : FP.Core.b64.tails = 4503599627370496 := by decide +kernel
  have he : FP.Core.b64.exps = 2048 := by decide +kernel
  have hm : FP.Core.b64.qmin = (-1074) := by decide +kernel
  unfold FP.Core.assemble
  rw [ht, he, hm]
  cases s <;> split <;> simp only [Bool.toNat_true, Bool.toNat_false] <;> omega
theorem ei64 (s : Bool) : FP.Core.encode FP.Core.b64 (.inf s) % 9223372036854775808 ≤ 9218868437227405312 := by
  show FP.Core.assemble FP.Core.b64 s (FP.Core.b64.exps - 1) 0 % 9223372036854775808 ≤ 9218868437227405312
  cases s <;> decide +kernel
theorem r64 (s : Bool) (n m : Nat) (e : Int) : FP.Core.encode FP.Core.b64 (FP.Core.roundRatio FP.Core.b64 s n m e) % 9223372036854775808 ≤ 9218868437227405312 := by
  have ht : FP.Core.b64.tails = 4503599627370496 := by decide +kernel
  have hm : FP.Core.b64.qmin = (-1074) := by decide +kernel
  have hx : FP.Core.b64.qmax = 971 := by decide +kernel
  have hp : 2 ^ FP.Core.b64.p = 9007199254740992 := by decide +kernel
  unfold FP.Core.roundRatio
  split
  · exact e64 s 0 _ (by decide) (by rw [hm]; decide)
  · unfold FP.Core.roundAt FP.Core.settle FP.Core.bound
    generalize FP.Core.nearest _ _ = c
    generalize FP.Core.quantum _ _ _ _ = q
    rw [hp, hx, ht]
    split
    · split
      · exact e64 s c q (by assumption) (by assumption)
      · exact ei64 s
    · split
      · exact e64 s _ _ (by decide) (by assumption)
      · exact ei64 s
theorem n64_enc {n : Nat} (h : n % 9223372036854775808 ≤ 9218868437227405312) : vf_n64 (UInt64.ofNat n) := by
  unfold vf_n64
  rw [UInt64.le_iff_toNat_le, UInt64.toNat_and, UInt64.toNat_ofNat']
  show n % 2 ^ 64 &&& (2 ^ 63 - 1) ≤ 9218868437227405312
  rw [Nat.and_two_pow_sub_one_eq_mod]
  omega
theorem dec64 {n : Nat} (h : n % 9223372036854775808 ≤ 9218868437227405312) : FP.Core.decode FP.Core.b64 n ≠ .nan := by
  have ht : FP.Core.b64.tails = 4503599627370496 := by decide +kernel
  have he : FP.Core.b64.exps = 2048 := by decide +kernel
  unfold FP.Core.decode FP.Core.fieldE FP.Core.fieldT
  rw [ht, he]
  split
  · split
    · exact fun q => by cases q
    · omega
  · split
    · exact fun q => by cases q
    · exact fun q => by cases q
def fnz (d : FP.Core.Datum) : Bool := match d with
  | .fin _ c _ => !(c == 0)
  | _ => false
theorem quo64 {x y : FP.Core.Datum} (hx : x ≠ .nan) (hy : fnz y = true) : FP.Core.encode FP.Core.b64 (FP.Core.quotient FP.Core.b64 x y) % 9223372036854775808 ≤ 9218868437227405312 := by
  cases y with
  | nan => exact absurd hy (by decide)
  | inf s => exact absurd hy (by simp [fnz])
  | fin t d r =>
    have hd : ¬ d = 0 := by simpa [fnz] using hy
    cases x with
    | nan => exact absurd rfl hx
    | inf s => exact ei64 _
    | fin s c q =>
      show FP.Core.encode FP.Core.b64 (if d = 0 then (if c = 0 then .nan else .inf (s != t)) else FP.Core.roundRatio FP.Core.b64 (s != t) c d (q - r)) % 9223372036854775808 ≤ 9218868437227405312
      rw [if_neg hd]
      exact r64 _ _ _ _
theorem i2d_ok (x : Int32) : FP.Core.decode FP.Core.b64 (FP.i2d x).toNat ≠ .nan := by
  refine dec64 ?_
  show (UInt64.ofNat (FP.Core.encode FP.Core.b64 (FP.Core.roundRatio FP.Core.b64 (decide (x.toInt < 0)) x.toInt.natAbs 1 0))).toNat % 9223372036854775808 ≤ 9218868437227405312
  rw [UInt64.toNat_ofNat']
  have := r64 (decide (x.toInt < 0)) x.toInt.natAbs 1 0
  omega
set_option maxRecDepth 100000 in
theorem i2d_nz : ∀ y, y < 101 → ¬ y = 0 → fnz (FP.Core.decode FP.Core.b64 (FP.i2d (nI y)).toNat) = true := by decide +kernel
theorem div_n64 {x y : Int32} {k : Nat} (hk : k < 101) (he : y = nI k) (h : ¬ y = 0) : vf_n64 (FP.ddiv (FP.i2d x) (FP.i2d y)) := by
  subst he
  exact n64_enc (quo64 (i2d_ok x) (i2d_nz k hk (fun q => h (by rw [q]; rfl))))
theorem e32 (s : Bool) (c : Nat) (q : Int) (hc : c < 16777216) (hq : q ≤ 104) : FP.Core.encode FP.Core.b32 (.fin s c q) % 2147483648 ≤ 2139095040 := by
  show (if c < FP.Core.b32.tails then FP.Core.assemble FP.Core.b32 s 0 c else FP.Core.assemble FP.Core.b32 s ((q - FP.Core.b32.qmin).toNat + 1) (c - FP.Core.b32.tails)) % 2147483648 ≤ 2139095040
  have ht : FP.Core.b32.tails = 8388608 := by decide +kernel
  have he : FP.Core.b32.exps = 256 := by decide +kernel
  have hm : FP.Core.b32.qmin = (-149) := by decide +kernel
  unfold FP.Core.assemble
  rw [ht, he, hm]
  cases s <;> split <;> simp only [Bool.toNat_true, Bool.toNat_false] <;> omega
theorem ei32 (s : Bool) : FP.Core.encode FP.Core.b32 (.inf s) % 2147483648 ≤ 2139095040 := by
  show FP.Core.assemble FP.Core.b32 s (FP.Core.b32.exps - 1) 0 % 2147483648 ≤ 2139095040
  cases s <;> decide +kernel
theorem r32 (s : Bool) (n m : Nat) (e : Int) : FP.Core.encode FP.Core.b32 (FP.Core.roundRatio FP.Core.b32 s n m e) % 2147483648 ≤ 2139095040 := by
  have ht : FP.Core.b32.tails = 8388608 := by decide +kernel
  have hm : FP.Core.b32.qmin = (-149) := by decide +kernel
  have hx : FP.Core.b32.qmax = 104 := by decide +kernel
  have hp : 2 ^ FP.Core.b32.p = 16777216 := by decide +kernel
  unfold FP.Core.roundRatio
  split
  · exact e32 s 0 _ (by decide) (by rw [hm]; decide)
  · unfold FP.Core.roundAt FP.Core.settle FP.Core.bound
    generalize FP.Core.nearest _ _ = c
    generalize FP.Core.quantum _ _ _ _ = q
    rw [hp, hx, ht]
    split
    · split
      · exact e32 s c q (by assumption) (by assumption)
      · exact ei32 s
    · split
      · exact e32 s _ _ (by decide) (by assumption)
      · exact ei32 s
theorem n32_enc {n : Nat} (h : n % 2147483648 ≤ 2139095040) : vf_n32 (UInt32.ofNat n) := by
  unfold vf_n32
  rw [UInt32.le_iff_toNat_le, UInt32.toNat_and, UInt32.toNat_ofNat']
  show n % 2 ^ 32 &&& (2 ^ 31 - 1) ≤ 2139095040
  rw [Nat.and_two_pow_sub_one_eq_mod]
  omega
theorem dec32 {n : Nat} (h : n % 2147483648 ≤ 2139095040) : FP.Core.decode FP.Core.b32 n ≠ .nan := by
  have ht : FP.Core.b32.tails = 8388608 := by decide +kernel
  have he : FP.Core.b32.exps = 256 := by decide +kernel
  unfold FP.Core.decode FP.Core.fieldE FP.Core.fieldT
  rw [ht, he]
  split
  · split
    · exact fun q => by cases q
    · omega
  · split
    · exact fun q => by cases q
    · exact fun q => by cases q
theorem quo32 {x y : FP.Core.Datum} (hx : x ≠ .nan) (hy : fnz y = true) : FP.Core.encode FP.Core.b32 (FP.Core.quotient FP.Core.b32 x y) % 2147483648 ≤ 2139095040 := by
  cases y with
  | nan => exact absurd hy (by decide)
  | inf s => exact absurd hy (by simp [fnz])
  | fin t d r =>
    have hd : ¬ d = 0 := by simpa [fnz] using hy
    cases x with
    | nan => exact absurd rfl hx
    | inf s => exact ei32 _
    | fin s c q =>
      show FP.Core.encode FP.Core.b32 (if d = 0 then (if c = 0 then .nan else .inf (s != t)) else FP.Core.roundRatio FP.Core.b32 (s != t) c d (q - r)) % 2147483648 ≤ 2139095040
      rw [if_neg hd]
      exact r32 _ _ _ _
theorem i2f_ok (x : Int32) : FP.Core.decode FP.Core.b32 (FP.i2f x).toNat ≠ .nan := by
  refine dec32 ?_
  show (UInt32.ofNat (FP.Core.encode FP.Core.b32 (FP.Core.roundRatio FP.Core.b32 (decide (x.toInt < 0)) x.toInt.natAbs 1 0))).toNat % 2147483648 ≤ 2139095040
  rw [UInt32.toNat_ofNat']
  have := r32 (decide (x.toInt < 0)) x.toInt.natAbs 1 0
  omega
set_option maxRecDepth 100000 in
theorem i2f_nz : ∀ y, y < 101 → ¬ y = 0 → fnz (FP.Core.decode FP.Core.b32 (FP.i2f (nI y)).toNat) = true := by decide +kernel
theorem div_n32 {x y : Int32} {k : Nat} (hk : k < 101) (he : y = nI k) (h : ¬ y = 0) : vf_n32 (FP.fdiv (FP.i2f x) (FP.i2f y)) := by
  subst he
  exact n32_enc (quo32 (i2f_ok x) (i2f_nz k hk (fun q => h (by rw [q]; rfl))))

-- addPool
def oaL (N : Nat → Int32) (y : Int32) : Nat → Nat → Bool
  | _, 0 => false
  | i, r + 1 => if y < nI i then false else if ow N (nI i) < 0 then oaL N y (i + 1) r else true
def afL (y : Int32) : Nat → Nat → (Nat → Int32) → (Nat → Int32)
  | _, 0, M => M
  | i, r + 1, M => if y < nI i then M else afL y (i + 1) r (upd (upd M (231 + i) 0) (531 + i) (-1))
def ap4 (N : Nat → Int32) (v : Nat) (g y z d : Int32) : Nat → Int32 := upd (upd (upd (upd N (5 + 4 * v) g) (5 + 4 * v + 1) y) (5 + 4 * v + 2) z) (5 + 4 * v + 3) d
def apM (N : Nat → Int32) (g y z d : Int32) : Nat → Int32 := afL z (ix y) (100 - ix y) (ap4 N (ix (N 4)) g y z d)
def apT (N : Nat → Int32) (g y z d : Int32) : Int32 := bif inR g 0 2 then (bif inR y 0 99 && inR z 0 99 && inR d 8 800 && decide (y ≤ z) then (if N 4 = 5 then 3 else bif oaL N z (ix y) (100 - ix y) then 3 else 0) else 2) else 1
def apN (N : Nat → Int32) (g y z d : Int32) : Nat → Int32 := if apT N g y z d = 0 then upd (apM N g y z d) 4 (apM N g y z d 4 + 1) else N
def apR (N : Nat → Int32) (g y z d : Int32) : Int32 := if apT N g y z d = 0 then apM N g y z d 4 else 0
theorem oaL_n {N : Nat → Int32} {y : Int32} {i r : Nat} (h : y < nI i) : oaL N y i (r + 1) = false := by rw [oaL, if_pos h]
theorem oaL_s {N : Nat → Int32} {y : Int32} {i r : Nat} (h : ¬ y < nI i) (h2 : ow N (nI i) < 0) : oaL N y i (r + 1) = oaL N y (i + 1) r := by rw [oaL, if_neg h, if_pos h2]
theorem oaL_t {N : Nat → Int32} {y : Int32} {i r : Nat} (h : ¬ y < nI i) (h2 : ¬ ow N (nI i) < 0) : oaL N y i (r + 1) = true := by rw [oaL, if_neg h, if_neg h2]
theorem afL_n {y : Int32} {i r : Nat} {M : Nat → Int32} (h : y < nI i) : afL y i (r + 1) M = M := by rw [afL, if_pos h]
theorem afL_s {y : Int32} {i r : Nat} {M : Nat → Int32} (h : ¬ y < nI i) : afL y i (r + 1) M = afL y (i + 1) r (upd (upd M (231 + i) 0) (531 + i) (-1)) := by rw [afL, if_neg h]
theorem nI_lt_of {i j : Nat} (hj : j < 2 ^ 31) (h : ¬ nI j < nI i) : i ≤ j ∨ 2 ^ 31 ≤ i := by
  rcases Nat.lt_or_ge j i with q | q
  · rcases Nat.lt_or_ge i (2 ^ 31) with q2 | q2
    · exact absurd (nI_lt q q2) h
    · exact Or.inr q2
  · exact Or.inl q
-- removePool
def rnL (N : Nat → Int32) (y : Int32) : Nat → Nat → Bool
  | _, 0 => false
  | i, r + 1 => if y < nI i then false else if N (231 + i) = 0 then rnL N y (i + 1) r else true
theorem rnL_n {N : Nat → Int32} {y : Int32} {i r : Nat} (h : y < nI i) : rnL N y i (r + 1) = false := by rw [rnL, if_pos h]
theorem rnL_s {N : Nat → Int32} {y : Int32} {i r : Nat} (h : ¬ y < nI i) (h2 : N (231 + i) = 0) : rnL N y i (r + 1) = rnL N y (i + 1) r := by rw [rnL, if_neg h, if_pos h2]
theorem rnL_t {N : Nat → Int32} {y : Int32} {i r : Nat} (h : ¬ y < nI i) (h2 : ¬ N (231 + i) = 0) : rnL N y i (r + 1) = true := by rw [rnL, if_neg h, if_neg h2]
def sh4 (f : Nat → Int32) (u k : Nat) : Nat → Int32 := fun i => if u ≤ i ∧ i < k then f (i + 4) else f i
theorem sh4_0 (f : Nat → Int32) (u : Nat) : sh4 f u u = f := by
  funext j
  exact if_neg (by omega)
theorem sh4_lo {f : Nat → Int32} {u k j : Nat} (h : j < u) : sh4 f u k j = f j := if_neg (by omega)
theorem sh4_s {f : Nat → Int32} {u k : Nat} (h : u ≤ k) : upd (sh4 f u k) k (sh4 f u k (k + 4)) = sh4 f u (k + 1) := by
  funext j
  by_cases e : j = k
  · subst e
    rw [pk_us]
    show (if u ≤ j + 4 ∧ j + 4 < j then f (j + 4 + 4) else f (j + 4)) = (if u ≤ j ∧ j < j + 1 then f (j + 4) else f j)
    rw [if_neg (by omega), if_pos (by omega)]
  · rw [pk_un e]
    show (if u ≤ j ∧ j < k then f (j + 4) else f j) = (if u ≤ j ∧ j < k + 1 then f (j + 4) else f j)
    by_cases h2 : u ≤ j ∧ j < k
    · rw [if_pos h2, if_pos (by omega)]
    · rw [if_neg h2, if_neg (by omega)]
def rmL (N : Nat → Int32) (x : Int32) : Bool := rnL N (N (5 + 4 * ix x + 2)) (ix (N (5 + 4 * ix x + 1))) (100 - ix (N (5 + 4 * ix x + 1)))
def rmT (N : Nat → Int32) (x : Int32) : Int32 := bif inR x 0 (N 4 - 1) then (bif rmL N x then 2 else 0) else 1
def rmM (N : Nat → Int32) (x : Int32) : Nat → Int32 := sh4 (upd N 4 (N 4 - 1)) (5 + 4 * ix x) (5 + 4 * ix (N 4 - 1))
def rmN (N : Nat → Int32) (x : Int32) : Nat → Int32 := if rmT N x = 0 then rmM N x else N
def rmR (N : Nat → Int32) (x : Int32) : Int32 := if rmT N x = 0 then N 4 - 1 else 0
-- save, restore
def cpR (g f : Nat → Int32) (k : Nat) : Nat → Int32 := fun i => if i < k then g i else f i
theorem cpR_0 (g f : Nat → Int32) : cpR g f 0 = f := rfl
theorem cpR_s {g f : Nat → Int32} {k : Nat} : upd (cpR g f k) k (g k) = cpR g f (k + 1) := by
  funext j
  by_cases e : j = k
  · subst e
    rw [pk_us]
    exact (if_pos (by omega)).symm
  · rw [pk_un e]
    show (if j < k then g j else f j) = (if j < k + 1 then g j else f j)
    by_cases h2 : j < k
    · rw [if_pos h2, if_pos (by omega)]
    · rw [if_neg h2, if_neg (by omega)]
-- statistics
theorem cuL_le {N : Nat → Int32} {g w : Int32} : ∀ r i k, k + r < 2 ^ 31 → ∃ j, j ≤ k + r ∧ cuL N g w i r (nI k) = nI j
  | 0, _, k, _ => ⟨k, Nat.le_refl _, rfl⟩
  | r + 1, i, k, h => by
    obtain ⟨j1, h1, e1⟩ := cuL_le r (i + 1) (k + 1) (by omega)
    obtain ⟨j2, h2, e2⟩ := cuL_le r (i + 1) k (by omega)
    unfold cuL
    rw [nI_1, e1, e2]
    split
    · split
      · exact ⟨j1, by omega, rfl⟩
      · split
        · exact ⟨j1, by omega, rfl⟩
        · exact ⟨j2, by omega, rfl⟩
    · exact ⟨j2, by omega, rfl⟩
theorem cuM_le {N : Nat → Int32} {g w : Int32} : ∃ j, j < 101 ∧ cuM N g w = nI j := by
  obtain ⟨j, h, e⟩ := cuL_le (N := N) (g := g) (w := w) 100 0 0 (by decide)
  exact ⟨j, by omega, e⟩
theorem boL_le {N : Nat → Int32} : ∀ r i k, k + r < 2 ^ 31 → ∃ j, j ≤ k + r ∧ boL N i r (nI k) = nI j
  | 0, _, k, _ => ⟨k, Nat.le_refl _, rfl⟩
  | r + 1, i, k, h => by
    obtain ⟨j1, h1, e1⟩ := boL_le r (i + 1) (k + 1) (by omega)
    obtain ⟨j2, h2, e2⟩ := boL_le r (i + 1) k (by omega)
    unfold boL
    rw [nI_1, e1, e2]
    cases bdM N i
    · exact ⟨j2, by omega, rfl⟩
    · exact ⟨j1, by omega, rfl⟩
theorem boM_le {N : Nat → Int32} : ∃ j, j < 101 ∧ boM N = nI j := by
  obtain ⟨j, h, e⟩ := boL_le (N := N) 20 0 0 (by decide)
  exact ⟨j, by omega, e⟩
def utM (N : Nat → Int32) (x : Int32) : UInt64 := bif inR x 0 2 then (if cuM N x (-1) = 0 then FP.i2d 0 else FP.ddiv (FP.i2d (cuM N x 2)) (FP.i2d (cuM N x (-1)))) else FP.i2d 0
def arL (N : Nat → Int32) : Nat → Nat → Int32 → Int32
  | _, 0, z => z
  | i, r + 1, z => bif bdM N i then arL N (i + 1) r (z + (N (431 + ix (N (651 + i))) - N 0)) else arL N (i + 1) r z
def avM (N : Nat → Int32) : UInt32 := if boM N = 0 then FP.i2f 0 else FP.fdiv (FP.i2f (arL N 0 20 0)) (FP.i2f (boM N))
set_option maxHeartbeats 1000000 in
set_option maxRecDepth 100000 in
theorem k_X7_addPool (E : kE) (l : Launch) (wr : va_W) (b : Nat → Nat) (μ : Sto) (a : Nat → Nat) (σ : Sto) (g : Int32) (y : Int32) (z : Int32) (d : Int32) (v : Nat) (hX : MX (μ 1) v) : KM E l yX7_addPool cX7_addPool 7 (some .int) 2 44 0 0 [.ref (b 0), .int g, .int y, .int z, .int d] (WW E b μ a σ wr) (some (.int (apR (μ 1) g y z d))) (WW E b (put (put μ 0 (sc (apT (μ 1) g y z d))) 1 (apN (μ 1) g y z d)) a σ wr) := by
  refine K_start (own := RX7) (by decide +kernel) rfl [(0, .ref (b 0)), (1, .int g), (2, .int y), (3, .int z), (4, .int d)] rfl (Nat.le_of_ble_eq_true rfl) (fun p e s m below meth c X hr hin => ?_)
  refine g_aload_n X dX7_addPool_0 1 rfl rfl ?_
  refine g_iconst X dX7_addPool_1 2 rfl (v := 0) rfl ?_
  refine g_put X FL_X7_19 fk_X7 dX7_addPool_2 5 rfl rfl 0 rfl rfl rfl (Nat.le_of_ble_eq_true rfl) (WW E b (put μ 0 (sc 0)) a σ wr) rfl ?_
  refine g_iload_n X dX7_addPool_5 6 rfl rfl ?_
  refine c_S X Lk_X7_37 (k_X7_isGroup E l wr b (put μ 0 (sc 0)) a σ g) dX7_addPool_6 rfl rfl (Nat.le_of_ble_eq_true rfl) ⟨(Nat.le_of_ble_eq_true rfl), (Nat.le_of_ble_eq_true rfl)⟩ ⟨(Nat.le_of_ble_eq_true rfl), (Nat.le_of_ble_eq_true rfl)⟩ 9 rfl [.int (bi (inR g 0 2))] rfl ?_
  refine g_ifb_ne X dX7_addPool_9 18 12 rfl rfl (fun c1 => ?_) (fun c1 => ?_)
  · skip
    refine g_iload_n X dX7_addPool_18 19 rfl rfl ?_
    refine c_S X Lk_X7_44 (k_X7_isAddress E l wr b (put μ 0 (sc 0)) a σ y) dX7_addPool_19 rfl rfl (Nat.le_of_ble_eq_true rfl) ⟨(Nat.le_of_ble_eq_true rfl), (Nat.le_of_ble_eq_true rfl)⟩ ⟨(Nat.le_of_ble_eq_true rfl), (Nat.le_of_ble_eq_true rfl)⟩ 22 rfl [.int (bi (inR y 0 99))] rfl ?_
    refine g_ifb_eq X dX7_addPool_22 50 25 rfl rfl (fun c2 => ?_) (fun c2 => ?_)
    · skip
      refine g_aload_n X dX7_addPool_50 51 rfl rfl ?_
      refine g_iconst X dX7_addPool_51 52 rfl (v := 2) rfl ?_
      refine c_V X Lk_X7_41 (k_X7_raises E l wr b (put μ 0 (sc 0)) a σ 2) dX7_addPool_52 rfl 0 rfl rfl rfl (Nat.le_of_ble_eq_true rfl) ⟨(Nat.le_of_ble_eq_true rfl), (Nat.le_of_ble_eq_true rfl)⟩ ⟨(Nat.le_of_ble_eq_true rfl), (Nat.le_of_ble_eq_true rfl)⟩ 55 rfl [.int 0] rfl ?_
      exact g_iret X hr dX7_addPool_55 () (by have hT : apT (μ 1) g y z d = 2 := (by simp [apT, c1, c2]); show (some (.int (apR (μ 1) g y z d)) : Option Value) = some (.int 0); rw [apR, hT, if_neg (by decide)]) (by have hT : apT (μ 1) g y z d = 2 := (by simp [apT, c1, c2]); refine WW_eq ?_ ?_ ?_ ?_ ?_ ?_; (simp only [put_s, sc, pn_01, pn_02, pn_03, pn_04, pn_05, pn_10, pn_12, pn_13, pn_14, pn_15, pn_20, pn_21, pn_23, pn_24, pn_25, pn_30, pn_31, pn_32, pn_34, pn_35, pn_40, pn_41, pn_42, pn_43, pn_45, pn_50, pn_51, pn_52, pn_53, pn_54]; exact hT.symm); (simp only [put_s, sc, pn_01, pn_02, pn_03, pn_04, pn_05, pn_10, pn_12, pn_13, pn_14, pn_15, pn_20, pn_21, pn_23, pn_24, pn_25, pn_30, pn_31, pn_32, pn_34, pn_35, pn_40, pn_41, pn_42, pn_43, pn_45, pn_50, pn_51, pn_52, pn_53, pn_54]; show (μ 1) = apN (μ 1) g y z d; rw [apN, hT, if_neg (by decide)]); simp only [put_s, sc, pn_01, pn_02, pn_03, pn_04, pn_05, pn_10, pn_12, pn_13, pn_14, pn_15, pn_20, pn_21, pn_23, pn_24, pn_25, pn_30, pn_31, pn_32, pn_34, pn_35, pn_40, pn_41, pn_42, pn_43, pn_45, pn_50, pn_51, pn_52, pn_53, pn_54]; simp only [put_s, sc, pn_01, pn_02, pn_03, pn_04, pn_05, pn_10, pn_12, pn_13, pn_14, pn_15, pn_20, pn_21, pn_23, pn_24, pn_25, pn_30, pn_31, pn_32, pn_34, pn_35, pn_40, pn_41, pn_42, pn_43, pn_45, pn_50, pn_51, pn_52, pn_53, pn_54]; simp only [put_s, sc, pn_01, pn_02, pn_03, pn_04, pn_05, pn_10, pn_12, pn_13, pn_14, pn_15, pn_20, pn_21, pn_23, pn_24, pn_25, pn_30, pn_31, pn_32, pn_34, pn_35, pn_40, pn_41, pn_42, pn_43, pn_45, pn_50, pn_51, pn_52, pn_53, pn_54]; simp only [put_s, sc, pn_01, pn_02, pn_03, pn_04, pn_05, pn_10, pn_12, pn_13, pn_14, pn_15, pn_20, pn_21, pn_23, pn_24, pn_25, pn_30, pn_31, pn_32, pn_34, pn_35, pn_40, pn_41, pn_42, pn_43, pn_45, pn_50, pn_51, pn_52, pn_53, pn_54])
    · skip
      refine g_iload_n X dX7_addPool_25 26 rfl rfl ?_
      refine c_S X Lk_X7_44 (k_X7_isAddress E l wr b (put μ 0 (sc 0)) a σ z) dX7_addPool_26 rfl rfl (Nat.le_of_ble_eq_true rfl) ⟨(Nat.le_of_ble_eq_true rfl), (Nat.le_of_ble_eq_true rfl)⟩ ⟨(Nat.le_of_ble_eq_true rfl), (Nat.le_of_ble_eq_true rfl)⟩ 29 rfl [.int (bi (inR z 0 99))] rfl ?_
      refine g_ifb_eq X dX7_addPool_29 50 32 rfl rfl (fun c3 => ?_) (fun c3 => ?_)
      · skip
        refine g_aload_n X dX7_addPool_50 51 rfl rfl ?_
        refine g_iconst X dX7_addPool_51 52 rfl (v := 2) rfl ?_
        refine c_V X Lk_X7_41 (k_X7_raises E l wr b (put μ 0 (sc 0)) a σ 2) dX7_addPool_52 rfl 0 rfl rfl rfl (Nat.le_of_ble_eq_true rfl) ⟨(Nat.le_of_ble_eq_true rfl), (Nat.le_of_ble_eq_true rfl)⟩ ⟨(Nat.le_of_ble_eq_true rfl), (Nat.le_of_ble_eq_true rfl)⟩ 55 rfl [.int 0] rfl ?_
        exact g_iret X hr dX7_addPool_55 () (by have hT : apT (μ 1) g y z d = 2 := (by simp [apT, c1, c2, c3]); show (some (.int (apR (μ 1) g y z d)) : Option Value) = some (.int 0); rw [apR, hT, if_neg (by decide)]) (by have hT : apT (μ 1) g y z d = 2 := (by simp [apT, c1, c2, c3]); refine WW_eq ?_ ?_ ?_ ?_ ?_ ?_; (simp only [put_s, sc, pn_01, pn_02, pn_03, pn_04, pn_05, pn_10, pn_12, pn_13, pn_14, pn_15, pn_20, pn_21, pn_23, pn_24, pn_25, pn_30, pn_31, pn_32, pn_34, pn_35, pn_40, pn_41, pn_42, pn_43, pn_45, pn_50, pn_51, pn_52, pn_53, pn_54]; exact hT.symm); (simp only [put_s, sc, pn_01, pn_02, pn_03, pn_04, pn_05, pn_10, pn_12, pn_13, pn_14, pn_15, pn_20, pn_21, pn_23, pn_24, pn_25, pn_30, pn_31, pn_32, pn_34, pn_35, pn_40, pn_41, pn_42, pn_43, pn_45, pn_50, pn_51, pn_52, pn_53, pn_54]; show (μ 1) = apN (μ 1) g y z d; rw [apN, hT, if_neg (by decide)]); simp only [put_s, sc, pn_01, pn_02, pn_03, pn_04, pn_05, pn_10, pn_12, pn_13, pn_14, pn_15, pn_20, pn_21, pn_23, pn_24, pn_25, pn_30, pn_31, pn_32, pn_34, pn_35, pn_40, pn_41, pn_42, pn_43, pn_45, pn_50, pn_51, pn_52, pn_53, pn_54]; simp only [put_s, sc, pn_01, pn_02, pn_03, pn_04, pn_05, pn_10, pn_12, pn_13, pn_14, pn_15, pn_20, pn_21, pn_23, pn_24, pn_25, pn_30, pn_31, pn_32, pn_34, pn_35, pn_40, pn_41, pn_42, pn_43, pn_45, pn_50, pn_51, pn_52, pn_53, pn_54]; simp only [put_s, sc, pn_01, pn_02, pn_03, pn_04, pn_05, pn_10, pn_12, pn_13, pn_14, pn_15, pn_20, pn_21, pn_23, pn_24, pn_25, pn_30, pn_31, pn_32, pn_34, pn_35, pn_40, pn_41, pn_42, pn_43, pn_45, pn_50, pn_51, pn_52, pn_53, pn_54]; simp only [put_s, sc, pn_01, pn_02, pn_03, pn_04, pn_05, pn_10, pn_12, pn_13, pn_14, pn_15, pn_20, pn_21, pn_23, pn_24, pn_25, pn_30, pn_31, pn_32, pn_34, pn_35, pn_40, pn_41, pn_42, pn_43, pn_45, pn_50, pn_51, pn_52, pn_53, pn_54])
      · skip
        refine g_iload X dX7_addPool_32 34 rfl rfl ?_
        refine g_bipush X dX7_addPool_34 36 rfl (v := 8) rfl ?_
        refine g_sipush X dX7_addPool_36 39 rfl (v := 800) rfl ?_
        refine c_S X Lk_X7_23 (k_X7_in E l wr b (put μ 0 (sc 0)) a σ d 8 800) dX7_addPool_39 rfl rfl (Nat.le_of_ble_eq_true rfl) ⟨(Nat.le_of_ble_eq_true rfl), (Nat.le_of_ble_eq_true rfl)⟩ ⟨(Nat.le_of_ble_eq_true rfl), (Nat.le_of_ble_eq_true rfl)⟩ 42 rfl [.int (bi (inR d 8 800))] rfl ?_
        refine g_ifb_eq X dX7_addPool_42 50 45 rfl rfl (fun c4 => ?_) (fun c4 => ?_)
        · skip
          refine g_aload_n X dX7_addPool_50 51 rfl rfl ?_
          refine g_iconst X dX7_addPool_51 52 rfl (v := 2) rfl ?_
          refine c_V X Lk_X7_41 (k_X7_raises E l wr b (put μ 0 (sc 0)) a σ 2) dX7_addPool_52 rfl 0 rfl rfl rfl (Nat.le_of_ble_eq_true rfl) ⟨(Nat.le_of_ble_eq_true rfl), (Nat.le_of_ble_eq_true rfl)⟩ ⟨(Nat.le_of_ble_eq_true rfl), (Nat.le_of_ble_eq_true rfl)⟩ 55 rfl [.int 0] rfl ?_
          exact g_iret X hr dX7_addPool_55 () (by have hT : apT (μ 1) g y z d = 2 := (by simp [apT, c1, c2, c3, c4]); show (some (.int (apR (μ 1) g y z d)) : Option Value) = some (.int 0); rw [apR, hT, if_neg (by decide)]) (by have hT : apT (μ 1) g y z d = 2 := (by simp [apT, c1, c2, c3, c4]); refine WW_eq ?_ ?_ ?_ ?_ ?_ ?_; (simp only [put_s, sc, pn_01, pn_02, pn_03, pn_04, pn_05, pn_10, pn_12, pn_13, pn_14, pn_15, pn_20, pn_21, pn_23, pn_24, pn_25, pn_30, pn_31, pn_32, pn_34, pn_35, pn_40, pn_41, pn_42, pn_43, pn_45, pn_50, pn_51, pn_52, pn_53, pn_54]; exact hT.symm); (simp only [put_s, sc, pn_01, pn_02, pn_03, pn_04, pn_05, pn_10, pn_12, pn_13, pn_14, pn_15, pn_20, pn_21, pn_23, pn_24, pn_25, pn_30, pn_31, pn_32, pn_34, pn_35, pn_40, pn_41, pn_42, pn_43, pn_45, pn_50, pn_51, pn_52, pn_53, pn_54]; show (μ 1) = apN (μ 1) g y z d; rw [apN, hT, if_neg (by decide)]); simp only [put_s, sc, pn_01, pn_02, pn_03, pn_04, pn_05, pn_10, pn_12, pn_13, pn_14, pn_15, pn_20, pn_21, pn_23, pn_24, pn_25, pn_30, pn_31, pn_32, pn_34, pn_35, pn_40, pn_41, pn_42, pn_43, pn_45, pn_50, pn_51, pn_52, pn_53, pn_54]; simp only [put_s, sc, pn_01, pn_02, pn_03, pn_04, pn_05, pn_10, pn_12, pn_13, pn_14, pn_15, pn_20, pn_21, pn_23, pn_24, pn_25, pn_30, pn_31, pn_32, pn_34, pn_35, pn_40, pn_41, pn_42, pn_43, pn_45, pn_50, pn_51, pn_52, pn_53, pn_54]; simp only [put_s, sc, pn_01, pn_02, pn_03, pn_04, pn_05, pn_10, pn_12, pn_13, pn_14, pn_15, pn_20, pn_21, pn_23, pn_24, pn_25, pn_30, pn_31, pn_32, pn_34, pn_35, pn_40, pn_41, pn_42, pn_43, pn_45, pn_50, pn_51, pn_52, pn_53, pn_54]; simp only [put_s, sc, pn_01, pn_02, pn_03, pn_04, pn_05, pn_10, pn_12, pn_13, pn_14, pn_15, pn_20, pn_21, pn_23, pn_24, pn_25, pn_30, pn_31, pn_32, pn_34, pn_35, pn_40, pn_41, pn_42, pn_43, pn_45, pn_50, pn_51, pn_52, pn_53, pn_54])
        · skip
          refine g_iload_n X dX7_addPool_45 46 rfl rfl ?_
          refine g_iload_n X dX7_addPool_46 47 rfl rfl ?_
          refine g_ic_le X dX7_addPool_47 56 50 rfl rfl (fun c5 => ?_) (fun c5 => ?_)
          · skip
            obtain ⟨i0, hi0, rfl⟩ := inR_99 c2
            obtain ⟨u0, hu0, rfl⟩ := inR_99 c3
            have e1 : ix (nI i0) = i0 := ixn (by omega)
            have hcc : (inR (nI i0) 0 99 && inR (nI u0) 0 99 && inR d 8 800 && decide (nI i0 ≤ nI u0)) = true := by rw [c2, c3, c4, decide_eq_true c5]; rfl
            refine g_aload_n X dX7_addPool_56 57 rfl rfl ?_
            refine g_get X FL_X7_9 dX7_addPool_57 60 rfl 0 rfl (v := .ref (b 1)) rfl ?_
            refine g_iconst X dX7_addPool_60 61 rfl (v := 4) rfl ?_
            refine g_ialdN (j := 4) (f := (μ 1)) X dX7_addPool_61 62 rfl 1 rfl (by omega) (by decide) ?_
            refine g_iconst X dX7_addPool_62 63 rfl (v := 5) rfl ?_
            refine g_ic_ne X dX7_addPool_63 72 66 rfl rfl (fun c6 => ?_) (fun c6 => ?_)
            · skip
              have hv5 : v < 5 := by
                have h1 := hX.hv
                rcases Nat.lt_or_ge v 5 with q | q
                · exact q
                · exact absurd (by rw [hX.hc, show v = 5 by omega]; rfl) c6
              refine g_iload_n X dX7_addPool_72 73 rfl rfl ?_
              refine g_istore X dX7_addPool_73 75 rfl (by decide) [(5, .int (nI i0)), (0, .ref (b 0)), (1, .int g), (2, .int (nI i0)), (3, .int (nI u0)), (4, .int d)] rfl ?_
              have La : ∀ (r i : Nat), (r = 100 - i) → (i ≤ 100) → (oaL (μ 1) (nI u0) i r = oaL (μ 1) (nI u0) i0 (100 - i0)) →  G E (va_A (WW E b μ a σ wr) s.heap.size) 7 p l e ({ frames := 2, cells := 0, slots := 0, locals := 44 } : Room) s m (([.ref (b 0), .int g, .int (nI i0), .int (nI u0), .int d] : List Value).toArray) below meth c (MQ below (KQ E (WW E b μ a σ wr) s.heap.size (fun _ : Unit => (some (.int (apR (μ 1) g (nI i0) (nI u0) d)))) (fun _ => WW E b (put (put μ 0 (sc (apT (μ 1) g (nI i0) (nI u0) d))) 1 (apN (μ 1) g (nI i0) (nI u0) d)) a σ wr)) (([.ref (b 0), .int g, .int (nI i0), .int (nI u0), .int d] : List Value).toArray) s 0 0 (va_A (WW E b μ a σ wr) s.heap.size)) 0 0 (WW E b (put μ 0 (sc 0)) a σ wr) 75 [(5, .int (nI i)), (0, .ref (b 0)), (1, .int g), (2, .int (nI i0)), (3, .int (nI u0)), (4, .int d)] [] := by
                intro r
                induction r with
                | zero =>
                  intro i hrr hi hv
                  obtain rfl : i = 100 := by omega
                  refine g_iload X dX7_addPool_75 77 rfl rfl ?_
                  refine g_iload_n X dX7_addPool_77 78 rfl rfl ?_
                  refine g_ic_gt X dX7_addPool_78 102 81 rfl rfl (fun c7 => ?_) (fun c7 => absurd (nI_lt hu0 (by decide)) c7)
                  have h9 : oaL (μ 1) (nI u0) i0 (100 - i0) = false := hv.symm
                  have hT : apT (μ 1) g (nI i0) (nI u0) d = 0 := by rw [apT, c1, hcc, cond_true, cond_true, if_neg c6, e1, h9, cond_false]
                  refine g_aload_n X dX7_addPool_102 103 rfl rfl ?_
                  refine g_aload_n X dX7_addPool_103 104 rfl rfl ?_
                  refine g_get X FL_X7_9 dX7_addPool_104 107 rfl 0 rfl (v := .ref (b 1)) rfl ?_
                  refine g_iconst X dX7_addPool_107 108 rfl (v := 4) rfl ?_
                  refine g_ialdN (j := 4) (f := (μ 1)) X dX7_addPool_108 109 rfl 1 rfl (by omega) (by decide) ?_
                  refine g_top (nI v) hX.hc ?_
                  refine c_V X Lk_X7_30 (k_X7_pool E l wr b (put μ 0 (sc 0)) a σ v) dX7_addPool_109 rfl 0 rfl rfl rfl (Nat.le_of_ble_eq_true rfl) ⟨(Nat.le_of_ble_eq_true rfl), (Nat.le_of_ble_eq_true rfl)⟩ ⟨(Nat.le_of_ble_eq_true rfl), (Nat.le_of_ble_eq_true rfl)⟩ 112 rfl [.int (nI (5 + 4 * v))] rfl ?_
                  refine g_istore X dX7_addPool_112 114 rfl (by decide) [(5, .int (nI (5 + 4 * v))), (0, .ref (b 0)), (1, .int g), (2, .int (nI i0)), (3, .int (nI u0)), (4, .int d)] rfl ?_
                  refine g_aload_n X dX7_addPool_114 115 rfl rfl ?_
                  refine g_get X FL_X7_9 dX7_addPool_115 118 rfl 0 rfl (v := .ref (b 1)) rfl ?_
                  refine g_iload X dX7_addPool_118 120 rfl rfl ?_
                  refine g_iload_n X dX7_addPool_120 121 rfl rfl ?_
                  refine g_iastN (j := (5 + 4 * v)) (f := (μ 1)) X dX7_addPool_121 122 rfl 1 rfl (by omega) (by decide) (WW E b (put (put μ 0 (sc 0)) 1 (upd (μ 1) (5 + 4 * v) g)) a σ wr) rfl ?_
                  refine g_aload_n X dX7_addPool_122 123 rfl rfl ?_
                  refine g_get X FL_X7_9 dX7_addPool_123 126 rfl 0 rfl (v := .ref (b 1)) rfl ?_
                  refine g_iload X dX7_addPool_126 128 rfl rfl ?_
                  refine g_iconst X dX7_addPool_128 129 rfl (v := 1) rfl ?_
                  refine g_iaddN X dX7_addPool_129 130 rfl (5 + 4 * v) 1 rfl rfl ?_
                  refine g_iload_n X dX7_addPool_130 131 rfl rfl ?_
                  refine g_iastN (j := (5 + 4 * v + 1)) (f := (upd (μ 1) (5 + 4 * v) g)) X dX7_addPool_131 132 rfl 1 rfl (by omega) (by decide) (WW E b (put (put μ 0 (sc 0)) 1 (upd (upd (μ 1) (5 + 4 * v) g) (5 + 4 * v + 1) (nI i0))) a σ wr) rfl ?_
                  refine g_aload_n X dX7_addPool_132 133 rfl rfl ?_
                  refine g_get X FL_X7_9 dX7_addPool_133 136 rfl 0 rfl (v := .ref (b 1)) rfl ?_
                  refine g_iload X dX7_addPool_136 138 rfl rfl ?_
                  refine g_iconst X dX7_addPool_138 139 rfl (v := 2) rfl ?_
                  refine g_iaddN X dX7_addPool_139 140 rfl (5 + 4 * v) 2 rfl rfl ?_
                  refine g_iload_n X dX7_addPool_140 141 rfl rfl ?_
                  refine g_iastN (j := (5 + 4 * v + 2)) (f := (upd (upd (μ 1) (5 + 4 * v) g) (5 + 4 * v + 1) (nI i0))) X dX7_addPool_141 142 rfl 1 rfl (by omega) (by decide) (WW E b (put (put μ 0 (sc 0)) 1 (upd (upd (upd (μ 1) (5 + 4 * v) g) (5 + 4 * v + 1) (nI i0)) (5 + 4 * v + 2) (nI u0))) a σ wr) rfl ?_
                  refine g_aload_n X dX7_addPool_142 143 rfl rfl ?_
                  refine g_get X FL_X7_9 dX7_addPool_143 146 rfl 0 rfl (v := .ref (b 1)) rfl ?_
                  refine g_iload X dX7_addPool_146 148 rfl rfl ?_
                  refine g_iconst X dX7_addPool_148 149 rfl (v := 3) rfl ?_
                  refine g_iaddN X dX7_addPool_149 150 rfl (5 + 4 * v) 3 rfl rfl ?_
                  refine g_iload X dX7_addPool_150 152 rfl rfl ?_
                  refine g_iastN (j := (5 + 4 * v + 3)) (f := (upd (upd (upd (μ 1) (5 + 4 * v) g) (5 + 4 * v + 1) (nI i0)) (5 + 4 * v + 2) (nI u0))) X dX7_addPool_152 153 rfl 1 rfl (by omega) (by decide) (WW E b (put (put μ 0 (sc 0)) 1 (upd (upd (upd (upd (μ 1) (5 + 4 * v) g) (5 + 4 * v + 1) (nI i0)) (5 + 4 * v + 2) (nI u0)) (5 + 4 * v + 3) d)) a σ wr) rfl ?_
                  rw [show WW E b (put (put μ 0 (sc 0)) 1 (upd (upd (upd (upd (μ 1) (5 + 4 * v) g) (5 + 4 * v + 1) (nI i0)) (5 + 4 * v + 2) (nI u0)) (5 + 4 * v + 3) d)) a σ wr = WW E b (put (put μ 0 (sc 0)) 1 (ap4 (μ 1) v g (nI i0) (nI u0) d)) a σ wr from by refine WW_eq ?_ ?_ ?_ ?_ ?_ ?_ <;> simp only [put_s, sc, pn_01, pn_02, pn_03, pn_04, pn_05, pn_10, pn_12, pn_13, pn_14, pn_15, pn_20, pn_21, pn_23, pn_24, pn_25, pn_30, pn_31, pn_32, pn_34, pn_35, pn_40, pn_41, pn_42, pn_43, pn_45, pn_50, pn_51, pn_52, pn_53, pn_54, ap4]]
                  refine g_iload_n X dX7_addPool_153 154 rfl rfl ?_
                  refine g_istore X dX7_addPool_154 156 rfl (by decide) [(6, .int (nI i0)), (5, .int (nI (5 + 4 * v))), (0, .ref (b 0)), (1, .int g), (2, .int (nI i0)), (3, .int (nI u0)), (4, .int d)] rfl ?_
                  have Lb : ∀ (r i : Nat) (M : Nat → Int32), (r = 100 - i) → (i ≤ 100) → (afL (nI u0) i r M = afL (nI u0) i0 (100 - i0) (ap4 (μ 1) v g (nI i0) (nI u0) d)) →  G E (va_A (WW E b μ a σ wr) s.heap.size) 7 p l e ({ frames := 2, cells := 0, slots := 0, locals := 44 } : Room) s m (([.ref (b 0), .int g, .int (nI i0), .int (nI u0), .int d] : List Value).toArray) below meth c (MQ below (KQ E (WW E b μ a σ wr) s.heap.size (fun _ : Unit => (some (.int (apR (μ 1) g (nI i0) (nI u0) d)))) (fun _ => WW E b (put (put μ 0 (sc (apT (μ 1) g (nI i0) (nI u0) d))) 1 (apN (μ 1) g (nI i0) (nI u0) d)) a σ wr)) (([.ref (b 0), .int g, .int (nI i0), .int (nI u0), .int d] : List Value).toArray) s 0 0 (va_A (WW E b μ a σ wr) s.heap.size)) 0 0 (WW E b (put (put μ 0 (sc 0)) 1 M) a σ wr) 156 [(6, .int (nI i)), (5, .int (nI (5 + 4 * v))), (0, .ref (b 0)), (1, .int g), (2, .int (nI i0)), (3, .int (nI u0)), (4, .int d)] [] := by
                    intro r
                    induction r with
                    | zero =>
                      intro i M hrr2 hi2 hv2
                      obtain rfl : i = 100 := by omega
                      refine g_iload X dX7_addPool_156 158 rfl rfl ?_
                      refine g_iload_n X dX7_addPool_158 159 rfl rfl ?_
                      refine g_ic_gt X dX7_addPool_159 192 162 rfl rfl (fun c8 => ?_) (fun c8 => absurd (nI_lt hu0 (by decide)) c8)
                      have h10 : apM (μ 1) g (nI i0) (nI u0) d = M := by rw [apM, e1, hX.hc, ixn (by omega)]; exact (hv2).symm
                      refine g_aload_n X dX7_addPool_192 193 rfl rfl ?_
                      refine g_get X FL_X7_9 dX7_addPool_193 196 rfl 0 rfl (v := .ref (b 1)) rfl ?_
                      refine g_iconst X dX7_addPool_196 197 rfl (v := 4) rfl ?_
                      refine g_dup2 X dX7_addPool_197 198 rfl rfl rfl ?_
                      refine g_ialdN (j := 4) (f := M) X dX7_addPool_198 199 rfl 1 rfl (by omega) (by decide) ?_
                      refine g_dup_x2 X dX7_addPool_199 200 rfl rfl rfl rfl ?_
                      refine g_iconst X dX7_addPool_200 201 rfl (v := 1) rfl ?_
                      refine g_iadd X dX7_addPool_201 202 rfl ?_
                      refine g_iastN (j := 4) (f := M) X dX7_addPool_202 203 rfl 1 rfl (by omega) (by decide) (WW E b (put (put μ 0 (sc 0)) 1 (upd M 4 ((M 4) + 1))) a σ wr) rfl ?_
                      exact g_iret X hr dX7_addPool_203 () (by show (some (.int (apR (μ 1) g (nI i0) (nI u0) d)) : Option Value) = some (.int (M 4)); rw [apR, hT, if_pos rfl, h10]) (by refine WW_eq ?_ ?_ ?_ ?_ ?_ ?_; (simp only [put_s, sc, pn_01, pn_02, pn_03, pn_04, pn_05, pn_10, pn_12, pn_13, pn_14, pn_15, pn_20, pn_21, pn_23, pn_24, pn_25, pn_30, pn_31, pn_32, pn_34, pn_35, pn_40, pn_41, pn_42, pn_43, pn_45, pn_50, pn_51, pn_52, pn_53, pn_54]; exact hT.symm); (simp only [put_s, sc, pn_01, pn_02, pn_03, pn_04, pn_05, pn_10, pn_12, pn_13, pn_14, pn_15, pn_20, pn_21, pn_23, pn_24, pn_25, pn_30, pn_31, pn_32, pn_34, pn_35, pn_40, pn_41, pn_42, pn_43, pn_45, pn_50, pn_51, pn_52, pn_53, pn_54]; show upd M 4 (M 4 + 1) = apN (μ 1) g (nI i0) (nI u0) d; rw [apN, hT, if_pos rfl, h10]); simp only [put_s, sc, pn_01, pn_02, pn_03, pn_04, pn_05, pn_10, pn_12, pn_13, pn_14, pn_15, pn_20, pn_21, pn_23, pn_24, pn_25, pn_30, pn_31, pn_32, pn_34, pn_35, pn_40, pn_41, pn_42, pn_43, pn_45, pn_50, pn_51, pn_52, pn_53, pn_54]; simp only [put_s, sc, pn_01, pn_02, pn_03, pn_04, pn_05, pn_10, pn_12, pn_13, pn_14, pn_15, pn_20, pn_21, pn_23, pn_24, pn_25, pn_30, pn_31, pn_32, pn_34, pn_35, pn_40, pn_41, pn_42, pn_43, pn_45, pn_50, pn_51, pn_52, pn_53, pn_54]; simp only [put_s, sc, pn_01, pn_02, pn_03, pn_04, pn_05, pn_10, pn_12, pn_13, pn_14, pn_15, pn_20, pn_21, pn_23, pn_24, pn_25, pn_30, pn_31, pn_32, pn_34, pn_35, pn_40, pn_41, pn_42, pn_43, pn_45, pn_50, pn_51, pn_52, pn_53, pn_54]; simp only [put_s, sc, pn_01, pn_02, pn_03, pn_04, pn_05, pn_10, pn_12, pn_13, pn_14, pn_15, pn_20, pn_21, pn_23, pn_24, pn_25, pn_30, pn_31, pn_32, pn_34, pn_35, pn_40, pn_41, pn_42, pn_43, pn_45, pn_50, pn_51, pn_52, pn_53, pn_54])
                    | succ r ih =>
                      intro i M hrr2 hi2 hv2
                      refine g_iload X dX7_addPool_156 158 rfl rfl ?_
                      refine g_iload_n X dX7_addPool_158 159 rfl rfl ?_
                      refine g_ic_gt X dX7_addPool_159 192 162 rfl rfl (fun c9 => ?_) (fun c9 => ?_)
                      · skip
                        have h10 : apM (μ 1) g (nI i0) (nI u0) d = M := by rw [apM, e1, hX.hc, ixn (by omega)]; exact ((afL_n c9).symm.trans hv2).symm
                        refine g_aload_n X dX7_addPool_192 193 rfl rfl ?_
                        refine g_get X FL_X7_9 dX7_addPool_193 196 rfl 0 rfl (v := .ref (b 1)) rfl ?_
                        refine g_iconst X dX7_addPool_196 197 rfl (v := 4) rfl ?_
                        refine g_dup2 X dX7_addPool_197 198 rfl rfl rfl ?_
                        refine g_ialdN (j := 4) (f := M) X dX7_addPool_198 199 rfl 1 rfl (by omega) (by decide) ?_
                        refine g_dup_x2 X dX7_addPool_199 200 rfl rfl rfl rfl ?_
                        refine g_iconst X dX7_addPool_200 201 rfl (v := 1) rfl ?_
                        refine g_iadd X dX7_addPool_201 202 rfl ?_
                        refine g_iastN (j := 4) (f := M) X dX7_addPool_202 203 rfl 1 rfl (by omega) (by decide) (WW E b (put (put μ 0 (sc 0)) 1 (upd M 4 ((M 4) + 1))) a σ wr) rfl ?_
                        exact g_iret X hr dX7_addPool_203 () (by show (some (.int (apR (μ 1) g (nI i0) (nI u0) d)) : Option Value) = some (.int (M 4)); rw [apR, hT, if_pos rfl, h10]) (by refine WW_eq ?_ ?_ ?_ ?_ ?_ ?_; (simp only [put_s, sc, pn_01, pn_02, pn_03, pn_04, pn_05, pn_10, pn_12, pn_13, pn_14, pn_15, pn_20, pn_21, pn_23, pn_24, pn_25, pn_30, pn_31, pn_32, pn_34, pn_35, pn_40, pn_41, pn_42, pn_43, pn_45, pn_50, pn_51, pn_52, pn_53, pn_54]; exact hT.symm); (simp only [put_s, sc, pn_01, pn_02, pn_03, pn_04, pn_05, pn_10, pn_12, pn_13, pn_14, pn_15, pn_20, pn_21, pn_23, pn_24, pn_25, pn_30, pn_31, pn_32, pn_34, pn_35, pn_40, pn_41, pn_42, pn_43, pn_45, pn_50, pn_51, pn_52, pn_53, pn_54]; show upd M 4 (M 4 + 1) = apN (μ 1) g (nI i0) (nI u0) d; rw [apN, hT, if_pos rfl, h10]); simp only [put_s, sc, pn_01, pn_02, pn_03, pn_04, pn_05, pn_10, pn_12, pn_13, pn_14, pn_15, pn_20, pn_21, pn_23, pn_24, pn_25, pn_30, pn_31, pn_32, pn_34, pn_35, pn_40, pn_41, pn_42, pn_43, pn_45, pn_50, pn_51, pn_52, pn_53, pn_54]; simp only [put_s, sc, pn_01, pn_02, pn_03, pn_04, pn_05, pn_10, pn_12, pn_13, pn_14, pn_15, pn_20, pn_21, pn_23, pn_24, pn_25, pn_30, pn_31, pn_32, pn_34, pn_35, pn_40, pn_41, pn_42, pn_43, pn_45, pn_50, pn_51, pn_52, pn_53, pn_54]; simp only [put_s, sc, pn_01, pn_02, pn_03, pn_04, pn_05, pn_10, pn_12, pn_13, pn_14, pn_15, pn_20, pn_21, pn_23, pn_24, pn_25, pn_30, pn_31, pn_32, pn_34, pn_35, pn_40, pn_41, pn_42, pn_43, pn_45, pn_50, pn_51, pn_52, pn_53, pn_54]; simp only [put_s, sc, pn_01, pn_02, pn_03, pn_04, pn_05, pn_10, pn_12, pn_13, pn_14, pn_15, pn_20, pn_21, pn_23, pn_24, pn_25, pn_30, pn_31, pn_32, pn_34, pn_35, pn_40, pn_41, pn_42, pn_43, pn_45, pn_50, pn_51, pn_52, pn_53, pn_54])
                      · skip
                        refine g_aload_n X dX7_addPool_162 163 rfl rfl ?_
                        refine g_get X FL_X7_9 dX7_addPool_163 166 rfl 0 rfl (v := .ref (b 1)) rfl ?_
                        refine g_sipush X dX7_addPool_166 169 rfl (v := 231) rfl ?_
                        refine g_iload X dX7_addPool_169 171 rfl rfl ?_
                        refine g_iaddN X dX7_addPool_171 172 rfl 231 i rfl rfl ?_
                        refine g_iconst X dX7_addPool_172 173 rfl (v := 0) rfl ?_
                        refine g_iastN (j := (231 + i)) (f := M) X dX7_addPool_173 174 rfl 1 rfl (by omega) (by decide) (WW E b (put (put μ 0 (sc 0)) 1 (upd M (231 + i) 0)) a σ wr) rfl ?_
                        refine g_aload_n X dX7_addPool_174 175 rfl rfl ?_
                        refine g_get X FL_X7_9 dX7_addPool_175 178 rfl 0 rfl (v := .ref (b 1)) rfl ?_
                        refine g_sipush X dX7_addPool_178 181 rfl (v := 531) rfl ?_
                        refine g_iload X dX7_addPool_181 183 rfl rfl ?_
                        refine g_iaddN X dX7_addPool_183 184 rfl 531 i rfl rfl ?_
                        refine g_iconst X dX7_addPool_184 185 rfl (v := -1) rfl ?_
                        refine g_iastN (j := (531 + i)) (f := (upd M (231 + i) 0)) X dX7_addPool_185 186 rfl 1 rfl (by omega) (by decide) (WW E b (put (put μ 0 (sc 0)) 1 (upd (upd M (231 + i) 0) (531 + i) (-1))) a σ wr) rfl ?_
                        refine g_iinc X dX7_addPool_186 189 rfl (by decide) 0 rfl (nI_1 _) [(6, .int (nI (i + 1))), (5, .int (nI (5 + 4 * v))), (0, .ref (b 0)), (1, .int g), (2, .int (nI i0)), (3, .int (nI u0)), (4, .int d)] rfl ?_
                        refine g_goto X dX7_addPool_189 156 rfl ?_
                        exact ih (i + 1) _ (by omega) (by omega) ((afL_s c9).symm.trans hv2)
                  exact Lb (100 - i0) i0 _ rfl (by omega) rfl
                | succ r ih =>
                  intro i hrr hi hv
                  refine g_iload X dX7_addPool_75 77 rfl rfl ?_
                  refine g_iload_n X dX7_addPool_77 78 rfl rfl ?_
                  refine g_ic_gt X dX7_addPool_78 102 81 rfl rfl (fun c10 => ?_) (fun c10 => ?_)
                  · skip
                    have h9 : oaL (μ 1) (nI u0) i0 (100 - i0) = false := hv.symm.trans (oaL_n c10)
                    have hT : apT (μ 1) g (nI i0) (nI u0) d = 0 := by rw [apT, c1, hcc, cond_true, cond_true, if_neg c6, e1, h9, cond_false]
                    refine g_aload_n X dX7_addPool_102 103 rfl rfl ?_
                    refine g_aload_n X dX7_addPool_103 104 rfl rfl ?_
                    refine g_get X FL_X7_9 dX7_addPool_104 107 rfl 0 rfl (v := .ref (b 1)) rfl ?_
                    refine g_iconst X dX7_addPool_107 108 rfl (v := 4) rfl ?_
                    refine g_ialdN (j := 4) (f := (μ 1)) X dX7_addPool_108 109 rfl 1 rfl (by omega) (by decide) ?_
                    refine g_top (nI v) hX.hc ?_
                    refine c_V X Lk_X7_30 (k_X7_pool E l wr b (put μ 0 (sc 0)) a σ v) dX7_addPool_109 rfl 0 rfl rfl rfl (Nat.le_of_ble_eq_true rfl) ⟨(Nat.le_of_ble_eq_true rfl), (Nat.le_of_ble_eq_true rfl)⟩ ⟨(Nat.le_of_ble_eq_true rfl), (Nat.le_of_ble_eq_true rfl)⟩ 112 rfl [.int (nI (5 + 4 * v))] rfl ?_
                    refine g_istore X dX7_addPool_112 114 rfl (by decide) [(5, .int (nI (5 + 4 * v))), (0, .ref (b 0)), (1, .int g), (2, .int (nI i0)), (3, .int (nI u0)), (4, .int d)] rfl ?_
                    refine g_aload_n X dX7_addPool_114 115 rfl rfl ?_
                    refine g_get X FL_X7_9 dX7_addPool_115 118 rfl 0 rfl (v := .ref (b 1)) rfl ?_
                    refine g_iload X dX7_addPool_118 120 rfl rfl ?_
                    refine g_iload_n X dX7_addPool_120 121 rfl rfl ?_
                    refine g_iastN (j := (5 + 4 * v)) (f := (μ 1)) X dX7_addPool_121 122 rfl 1 rfl (by omega) (by decide) (WW E b (put (put μ 0 (sc 0)) 1 (upd (μ 1) (5 + 4 * v) g)) a σ wr) rfl ?_
                    refine g_aload_n X dX7_addPool_122 123 rfl rfl ?_
                    refine g_get X FL_X7_9 dX7_addPool_123 126 rfl 0 rfl (v := .ref (b 1)) rfl ?_
                    refine g_iload X dX7_addPool_126 128 rfl rfl ?_
                    refine g_iconst X dX7_addPool_128 129 rfl (v := 1) rfl ?_
                    refine g_iaddN X dX7_addPool_129 130 rfl (5 + 4 * v) 1 rfl rfl ?_
                    refine g_iload_n X dX7_addPool_130 131 rfl rfl ?_
                    refine g_iastN (j := (5 + 4 * v + 1)) (f := (upd (μ 1) (5 + 4 * v) g)) X dX7_addPool_131 132 rfl 1 rfl (by omega) (by decide) (WW E b (put (put μ 0 (sc 0)) 1 (upd (upd (μ 1) (5 + 4 * v) g) (5 + 4 * v + 1) (nI i0))) a σ wr) rfl ?_
                    refine g_aload_n X dX7_addPool_132 133 rfl rfl ?_
                    refine g_get X FL_X7_9 dX7_addPool_133 136 rfl 0 rfl (v := .ref (b 1)) rfl ?_
                    refine g_iload X dX7_addPool_136 138 rfl rfl ?_
                    refine g_iconst X dX7_addPool_138 139 rfl (v := 2) rfl ?_
                    refine g_iaddN X dX7_addPool_139 140 rfl (5 + 4 * v) 2 rfl rfl ?_
                    refine g_iload_n X dX7_addPool_140 141 rfl rfl ?_
                    refine g_iastN (j := (5 + 4 * v + 2)) (f := (upd (upd (μ 1) (5 + 4 * v) g) (5 + 4 * v + 1) (nI i0))) X dX7_addPool_141 142 rfl 1 rfl (by omega) (by decide) (WW E b (put (put μ 0 (sc 0)) 1 (upd (upd (upd (μ 1) (5 + 4 * v) g) (5 + 4 * v + 1) (nI i0)) (5 + 4 * v + 2) (nI u0))) a σ wr) rfl ?_
                    refine g_aload_n X dX7_addPool_142 143 rfl rfl ?_
                    refine g_get X FL_X7_9 dX7_addPool_143 146 rfl 0 rfl (v := .ref (b 1)) rfl ?_
                    refine g_iload X dX7_addPool_146 148 rfl rfl ?_
                    refine g_iconst X dX7_addPool_148 149 rfl (v := 3) rfl ?_
                    refine g_iaddN X dX7_addPool_149 150 rfl (5 + 4 * v) 3 rfl rfl ?_
                    refine g_iload X dX7_addPool_150 152 rfl rfl ?_
                    refine g_iastN (j := (5 + 4 * v + 3)) (f := (upd (upd (upd (μ 1) (5 + 4 * v) g) (5 + 4 * v + 1) (nI i0)) (5 + 4 * v + 2) (nI u0))) X dX7_addPool_152 153 rfl 1 rfl (by omega) (by decide) (WW E b (put (put μ 0 (sc 0)) 1 (upd (upd (upd (upd (μ 1) (5 + 4 * v) g) (5 + 4 * v + 1) (nI i0)) (5 + 4 * v + 2) (nI u0)) (5 + 4 * v + 3) d)) a σ wr) rfl ?_
                    rw [show WW E b (put (put μ 0 (sc 0)) 1 (upd (upd (upd (upd (μ 1) (5 + 4 * v) g) (5 + 4 * v + 1) (nI i0)) (5 + 4 * v + 2) (nI u0)) (5 + 4 * v + 3) d)) a σ wr = WW E b (put (put μ 0 (sc 0)) 1 (ap4 (μ 1) v g (nI i0) (nI u0) d)) a σ wr from by refine WW_eq ?_ ?_ ?_ ?_ ?_ ?_ <;> simp only [put_s, sc, pn_01, pn_02, pn_03, pn_04, pn_05, pn_10, pn_12, pn_13, pn_14, pn_15, pn_20, pn_21, pn_23, pn_24, pn_25, pn_30, pn_31, pn_32, pn_34, pn_35, pn_40, pn_41, pn_42, pn_43, pn_45, pn_50, pn_51, pn_52, pn_53, pn_54, ap4]]
                    refine g_iload_n X dX7_addPool_153 154 rfl rfl ?_
                    refine g_istore X dX7_addPool_154 156 rfl (by decide) [(6, .int (nI i0)), (5, .int (nI (5 + 4 * v))), (0, .ref (b 0)), (1, .int g), (2, .int (nI i0)), (3, .int (nI u0)), (4, .int d)] rfl ?_
                    have Lb : ∀ (r i : Nat) (M : Nat → Int32), (r = 100 - i) → (i ≤ 100) → (afL (nI u0) i r M = afL (nI u0) i0 (100 - i0) (ap4 (μ 1) v g (nI i0) (nI u0) d)) →  G E (va_A (WW E b μ a σ wr) s.heap.size) 7 p l e ({ frames := 2, cells := 0, slots := 0, locals := 44 } : Room) s m (([.ref (b 0), .int g, .int (nI i0), .int (nI u0), .int d] : List Value).toArray) below meth c (MQ below (KQ E (WW E b μ a σ wr) s.heap.size (fun _ : Unit => (some (.int (apR (μ 1) g (nI i0) (nI u0) d)))) (fun _ => WW E b (put (put μ 0 (sc (apT (μ 1) g (nI i0) (nI u0) d))) 1 (apN (μ 1) g (nI i0) (nI u0) d)) a σ wr)) (([.ref (b 0), .int g, .int (nI i0), .int (nI u0), .int d] : List Value).toArray) s 0 0 (va_A (WW E b μ a σ wr) s.heap.size)) 0 0 (WW E b (put (put μ 0 (sc 0)) 1 M) a σ wr) 156 [(6, .int (nI i)), (5, .int (nI (5 + 4 * v))), (0, .ref (b 0)), (1, .int g), (2, .int (nI i0)), (3, .int (nI u0)), (4, .int d)] [] := by
                      intro r
                      induction r with
                      | zero =>
                        intro i M hrr2 hi2 hv2
                        obtain rfl : i = 100 := by omega
                        refine g_iload X dX7_addPool_156 158 rfl rfl ?_
                        refine g_iload_n X dX7_addPool_158 159 rfl rfl ?_
                        refine g_ic_gt X dX7_addPool_159 192 162 rfl rfl (fun c11 => ?_) (fun c11 => absurd (nI_lt hu0 (by decide)) c11)
                        have h10 : apM (μ 1) g (nI i0) (nI u0) d = M := by rw [apM, e1, hX.hc, ixn (by omega)]; exact (hv2).symm
                        refine g_aload_n X dX7_addPool_192 193 rfl rfl ?_
                        refine g_get X FL_X7_9 dX7_addPool_193 196 rfl 0 rfl (v := .ref (b 1)) rfl ?_
                        refine g_iconst X dX7_addPool_196 197 rfl (v := 4) rfl ?_
                        refine g_dup2 X dX7_addPool_197 198 rfl rfl rfl ?_
                        refine g_ialdN (j := 4) (f := M) X dX7_addPool_198 199 rfl 1 rfl (by omega) (by decide) ?_
                        refine g_dup_x2 X dX7_addPool_199 200 rfl rfl rfl rfl ?_
                        refine g_iconst X dX7_addPool_200 201 rfl (v := 1) rfl ?_
                        refine g_iadd X dX7_addPool_201 202 rfl ?_
                        refine g_iastN (j := 4) (f := M) X dX7_addPool_202 203 rfl 1 rfl (by omega) (by decide) (WW E b (put (put μ 0 (sc 0)) 1 (upd M 4 ((M 4) + 1))) a σ wr) rfl ?_
                        exact g_iret X hr dX7_addPool_203 () (by show (some (.int (apR (μ 1) g (nI i0) (nI u0) d)) : Option Value) = some (.int (M 4)); rw [apR, hT, if_pos rfl, h10]) (by refine WW_eq ?_ ?_ ?_ ?_ ?_ ?_; (simp only [put_s, sc, pn_01, pn_02, pn_03, pn_04, pn_05, pn_10, pn_12, pn_13, pn_14, pn_15, pn_20, pn_21, pn_23, pn_24, pn_25, pn_30, pn_31, pn_32, pn_34, pn_35, pn_40, pn_41, pn_42, pn_43, pn_45, pn_50, pn_51, pn_52, pn_53, pn_54]; exact hT.symm); (simp only [put_s, sc, pn_01, pn_02, pn_03, pn_04, pn_05, pn_10, pn_12, pn_13, pn_14, pn_15, pn_20, pn_21, pn_23, pn_24, pn_25, pn_30, pn_31, pn_32, pn_34, pn_35, pn_40, pn_41, pn_42, pn_43, pn_45, pn_50, pn_51, pn_52, pn_53, pn_54]; show upd M 4 (M 4 + 1) = apN (μ 1) g (nI i0) (nI u0) d; rw [apN, hT, if_pos rfl, h10]); simp only [put_s, sc, pn_01, pn_02, pn_03, pn_04, pn_05, pn_10, pn_12, pn_13, pn_14, pn_15, pn_20, pn_21, pn_23, pn_24, pn_25, pn_30, pn_31, pn_32, pn_34, pn_35, pn_40, pn_41, pn_42, pn_43, pn_45, pn_50, pn_51, pn_52, pn_53, pn_54]; simp only [put_s, sc, pn_01, pn_02, pn_03, pn_04, pn_05, pn_10, pn_12, pn_13, pn_14, pn_15, pn_20, pn_21, pn_23, pn_24, pn_25, pn_30, pn_31, pn_32, pn_34, pn_35, pn_40, pn_41, pn_42, pn_43, pn_45, pn_50, pn_51, pn_52, pn_53, pn_54]; simp only [put_s, sc, pn_01, pn_02, pn_03, pn_04, pn_05, pn_10, pn_12, pn_13, pn_14, pn_15, pn_20, pn_21, pn_23, pn_24, pn_25, pn_30, pn_31, pn_32, pn_34, pn_35, pn_40, pn_41, pn_42, pn_43, pn_45, pn_50, pn_51, pn_52, pn_53, pn_54]; simp only [put_s, sc, pn_01, pn_02, pn_03, pn_04, pn_05, pn_10, pn_12, pn_13, pn_14, pn_15, pn_20, pn_21, pn_23, pn_24, pn_25, pn_30, pn_31, pn_32, pn_34, pn_35, pn_40, pn_41, pn_42, pn_43, pn_45, pn_50, pn_51, pn_52, pn_53, pn_54])
                      | succ r ih =>
                        intro i M hrr2 hi2 hv2
                        refine g_iload X dX7_addPool_156 158 rfl rfl ?_
                        refine g_iload_n X dX7_addPool_158 159 rfl rfl ?_
                        refine g_ic_gt X dX7_addPool_159 192 162 rfl rfl (fun c12 => ?_) (fun c12 => ?_)
                        · skip
                          have h10 : apM (μ 1) g (nI i0) (nI u0) d = M := by rw [apM, e1, hX.hc, ixn (by omega)]; exact ((afL_n c12).symm.trans hv2).symm
                          refine g_aload_n X dX7_addPool_192 193 rfl rfl ?_
                          refine g_get X FL_X7_9 dX7_addPool_193 196 rfl 0 rfl (v := .ref (b 1)) rfl ?_
                          refine g_iconst X dX7_addPool_196 197 rfl (v := 4) rfl ?_
                          refine g_dup2 X dX7_addPool_197 198 rfl rfl rfl ?_
                          refine g_ialdN (j := 4) (f := M) X dX7_addPool_198 199 rfl 1 rfl (by omega) (by decide) ?_
                          refine g_dup_x2 X dX7_addPool_199 200 rfl rfl rfl rfl ?_
                          refine g_iconst X dX7_addPool_200 201 rfl (v := 1) rfl ?_
                          refine g_iadd X dX7_addPool_201 202 rfl ?_
                          refine g_iastN (j := 4) (f := M) X dX7_addPool_202 203 rfl 1 rfl (by omega) (by decide) (WW E b (put (put μ 0 (sc 0)) 1 (upd M 4 ((M 4) + 1))) a σ wr) rfl ?_
                          exact g_iret X hr dX7_addPool_203 () (by show (some (.int (apR (μ 1) g (nI i0) (nI u0) d)) : Option Value) = some (.int (M 4)); rw [apR, hT, if_pos rfl, h10]) (by refine WW_eq ?_ ?_ ?_ ?_ ?_ ?_; (simp only [put_s, sc, pn_01, pn_02, pn_03, pn_04, pn_05, pn_10, pn_12, pn_13, pn_14, pn_15, pn_20, pn_21, pn_23, pn_24, pn_25, pn_30, pn_31, pn_32, pn_34, pn_35, pn_40, pn_41, pn_42, pn_43, pn_45, pn_50, pn_51, pn_52, pn_53, pn_54]; exact hT.symm); (simp only [put_s, sc, pn_01, pn_02, pn_03, pn_04, pn_05, pn_10, pn_12, pn_13, pn_14, pn_15, pn_20, pn_21, pn_23, pn_24, pn_25, pn_30, pn_31, pn_32, pn_34, pn_35, pn_40, pn_41, pn_42, pn_43, pn_45, pn_50, pn_51, pn_52, pn_53, pn_54]; show upd M 4 (M 4 + 1) = apN (μ 1) g (nI i0) (nI u0) d; rw [apN, hT, if_pos rfl, h10]); simp only [put_s, sc, pn_01, pn_02, pn_03, pn_04, pn_05, pn_10, pn_12, pn_13, pn_14, pn_15, pn_20, pn_21, pn_23, pn_24, pn_25, pn_30, pn_31, pn_32, pn_34, pn_35, pn_40, pn_41, pn_42, pn_43, pn_45, pn_50, pn_51, pn_52, pn_53, pn_54]; simp only [put_s, sc, pn_01, pn_02, pn_03, pn_04, pn_05, pn_10, pn_12, pn_13, pn_14, pn_15, pn_20, pn_21, pn_23, pn_24, pn_25, pn_30, pn_31, pn_32, pn_34, pn_35, pn_40, pn_41, pn_42, pn_43, pn_45, pn_50, pn_51, pn_52, pn_53, pn_54]; simp only [put_s, sc, pn_01, pn_02, pn_03, pn_04, pn_05, pn_10, pn_12, pn_13, pn_14, pn_15, pn_20, pn_21, pn_23, pn_24, pn_25, pn_30, pn_31, pn_32, pn_34, pn_35, pn_40, pn_41, pn_42, pn_43, pn_45, pn_50, pn_51, pn_52, pn_53, pn_54]; simp only [put_s, sc, pn_01, pn_02, pn_03, pn_04, pn_05, pn_10, pn_12, pn_13, pn_14, pn_15, pn_20, pn_21, pn_23, pn_24, pn_25, pn_30, pn_31, pn_32, pn_34, pn_35, pn_40, pn_41, pn_42, pn_43, pn_45, pn_50, pn_51, pn_52, pn_53, pn_54])
                        · skip
                          refine g_aload_n X dX7_addPool_162 163 rfl rfl ?_
                          refine g_get X FL_X7_9 dX7_addPool_163 166 rfl 0 rfl (v := .ref (b 1)) rfl ?_
                          refine g_sipush X dX7_addPool_166 169 rfl (v := 231) rfl ?_
                          refine g_iload X dX7_addPool_169 171 rfl rfl ?_
                          refine g_iaddN X dX7_addPool_171 172 rfl 231 i rfl rfl ?_
                          refine g_iconst X dX7_addPool_172 173 rfl (v := 0) rfl ?_
                          refine g_iastN (j := (231 + i)) (f := M) X dX7_addPool_173 174 rfl 1 rfl (by omega) (by decide) (WW E b (put (put μ 0 (sc 0)) 1 (upd M (231 + i) 0)) a σ wr) rfl ?_
                          refine g_aload_n X dX7_addPool_174 175 rfl rfl ?_
                          refine g_get X FL_X7_9 dX7_addPool_175 178 rfl 0 rfl (v := .ref (b 1)) rfl ?_
                          refine g_sipush X dX7_addPool_178 181 rfl (v := 531) rfl ?_
                          refine g_iload X dX7_addPool_181 183 rfl rfl ?_
                          refine g_iaddN X dX7_addPool_183 184 rfl 531 i rfl rfl ?_
                          refine g_iconst X dX7_addPool_184 185 rfl (v := -1) rfl ?_
                          refine g_iastN (j := (531 + i)) (f := (upd M (231 + i) 0)) X dX7_addPool_185 186 rfl 1 rfl (by omega) (by decide) (WW E b (put (put μ 0 (sc 0)) 1 (upd (upd M (231 + i) 0) (531 + i) (-1))) a σ wr) rfl ?_
                          refine g_iinc X dX7_addPool_186 189 rfl (by decide) 0 rfl (nI_1 _) [(6, .int (nI (i + 1))), (5, .int (nI (5 + 4 * v))), (0, .ref (b 0)), (1, .int g), (2, .int (nI i0)), (3, .int (nI u0)), (4, .int d)] rfl ?_
                          refine g_goto X dX7_addPool_189 156 rfl ?_
                          exact ih (i + 1) _ (by omega) (by omega) ((afL_s c12).symm.trans hv2)
                    exact Lb (100 - i0) i0 _ rfl (by omega) rfl
                  · skip
                    refine g_aload_n X dX7_addPool_81 82 rfl rfl ?_
                    refine g_iload X dX7_addPool_82 84 rfl rfl ?_
                    refine c_V X Lk_X7_34 (k_X7_owner E l wr b (put μ 0 (sc 0)) a σ (nI i) v hX) dX7_addPool_84 rfl 0 rfl rfl rfl (Nat.le_of_ble_eq_true rfl) ⟨(Nat.le_of_ble_eq_true rfl), (Nat.le_of_ble_eq_true rfl)⟩ ⟨(Nat.le_of_ble_eq_true rfl), (Nat.le_of_ble_eq_true rfl)⟩ 87 rfl [.int (ow (μ 1) (nI i))] rfl ?_
                    refine g_if_lt X dX7_addPool_87 96 90 rfl rfl (fun c13 => ?_) (fun c13 => ?_)
                    · skip
                      refine g_iinc X dX7_addPool_96 99 rfl (by decide) 0 rfl (nI_1 _) [(5, .int (nI (i + 1))), (0, .ref (b 0)), (1, .int g), (2, .int (nI i0)), (3, .int (nI u0)), (4, .int d)] rfl ?_
                      refine g_goto X dX7_addPool_99 75 rfl ?_
                      exact ih (i + 1) (by omega) (by omega) ((oaL_s c10 c13).symm.trans hv)
                    · skip
                      refine g_aload_n X dX7_addPool_90 91 rfl rfl ?_
                      refine g_iconst X dX7_addPool_91 92 rfl (v := 3) rfl ?_
                      refine c_V X Lk_X7_41 (k_X7_raises E l wr b (put μ 0 (sc 0)) a σ 3) dX7_addPool_92 rfl 0 rfl rfl rfl (Nat.le_of_ble_eq_true rfl) ⟨(Nat.le_of_ble_eq_true rfl), (Nat.le_of_ble_eq_true rfl)⟩ ⟨(Nat.le_of_ble_eq_true rfl), (Nat.le_of_ble_eq_true rfl)⟩ 95 rfl [.int 0] rfl ?_
                      exact g_iret X hr dX7_addPool_95 () (by have hT : apT (μ 1) g (nI i0) (nI u0) d = 3 := (by rw [apT, c1, hcc, cond_true, cond_true, if_neg c6, e1, hv.symm.trans (oaL_t c10 c13), cond_true]); show (some (.int (apR (μ 1) g (nI i0) (nI u0) d)) : Option Value) = some (.int 0); rw [apR, hT, if_neg (by decide)]) (by have hT : apT (μ 1) g (nI i0) (nI u0) d = 3 := (by rw [apT, c1, hcc, cond_true, cond_true, if_neg c6, e1, hv.symm.trans (oaL_t c10 c13), cond_true]); refine WW_eq ?_ ?_ ?_ ?_ ?_ ?_; (simp only [put_s, sc, pn_01, pn_02, pn_03, pn_04, pn_05, pn_10, pn_12, pn_13, pn_14, pn_15, pn_20, pn_21, pn_23, pn_24, pn_25, pn_30, pn_31, pn_32, pn_34, pn_35, pn_40, pn_41, pn_42, pn_43, pn_45, pn_50, pn_51, pn_52, pn_53, pn_54]; exact hT.symm); (simp only [put_s, sc, pn_01, pn_02, pn_03, pn_04, pn_05, pn_10, pn_12, pn_13, pn_14, pn_15, pn_20, pn_21, pn_23, pn_24, pn_25, pn_30, pn_31, pn_32, pn_34, pn_35, pn_40, pn_41, pn_42, pn_43, pn_45, pn_50, pn_51, pn_52, pn_53, pn_54]; show (μ 1) = apN (μ 1) g (nI i0) (nI u0) d; rw [apN, hT, if_neg (by decide)]); simp only [put_s, sc, pn_01, pn_02, pn_03, pn_04, pn_05, pn_10, pn_12, pn_13, pn_14, pn_15, pn_20, pn_21, pn_23, pn_24, pn_25, pn_30, pn_31, pn_32, pn_34, pn_35, pn_40, pn_41, pn_42, pn_43, pn_45, pn_50, pn_51, pn_52, pn_53, pn_54]; simp only [put_s, sc, pn_01, pn_02, pn_03, pn_04, pn_05, pn_10, pn_12, pn_13, pn_14, pn_15, pn_20, pn_21, pn_23, pn_24, pn_25, pn_30, pn_31, pn_32, pn_34, pn_35, pn_40, pn_41, pn_42, pn_43, pn_45, pn_50, pn_51, pn_52, pn_53, pn_54]; simp only [put_s, sc, pn_01, pn_02, pn_03, pn_04, pn_05, pn_10, pn_12, pn_13, pn_14, pn_15, pn_20, pn_21, pn_23, pn_24, pn_25, pn_30, pn_31, pn_32, pn_34, pn_35, pn_40, pn_41, pn_42, pn_43, pn_45, pn_50, pn_51, pn_52, pn_53, pn_54]; simp only [put_s, sc, pn_01, pn_02, pn_03, pn_04, pn_05, pn_10, pn_12, pn_13, pn_14, pn_15, pn_20, pn_21, pn_23, pn_24, pn_25, pn_30, pn_31, pn_32, pn_34, pn_35, pn_40, pn_41, pn_42, pn_43, pn_45, pn_50, pn_51, pn_52, pn_53, pn_54])
              exact La (100 - i0) i0 rfl (by omega) rfl
            · skip
              refine g_aload_n X dX7_addPool_66 67 rfl rfl ?_
              refine g_iconst X dX7_addPool_67 68 rfl (v := 3) rfl ?_
              refine c_V X Lk_X7_41 (k_X7_raises E l wr b (put μ 0 (sc 0)) a σ 3) dX7_addPool_68 rfl 0 rfl rfl rfl (Nat.le_of_ble_eq_true rfl) ⟨(Nat.le_of_ble_eq_true rfl), (Nat.le_of_ble_eq_true rfl)⟩ ⟨(Nat.le_of_ble_eq_true rfl), (Nat.le_of_ble_eq_true rfl)⟩ 71 rfl [.int 0] rfl ?_
              exact g_iret X hr dX7_addPool_71 () (by have hT : apT (μ 1) g (nI i0) (nI u0) d = 3 := (by rw [apT, c1, hcc, cond_true, cond_true, if_pos c6]); show (some (.int (apR (μ 1) g (nI i0) (nI u0) d)) : Option Value) = some (.int 0); rw [apR, hT, if_neg (by decide)]) (by have hT : apT (μ 1) g (nI i0) (nI u0) d = 3 := (by rw [apT, c1, hcc, cond_true, cond_true, if_pos c6]); refine WW_eq ?_ ?_ ?_ ?_ ?_ ?_; (simp only [put_s, sc, pn_01, pn_02, pn_03, pn_04, pn_05, pn_10, pn_12, pn_13, pn_14, pn_15, pn_20, pn_21, pn_23, pn_24, pn_25, pn_30, pn_31, pn_32, pn_34, pn_35, pn_40, pn_41, pn_42, pn_43, pn_45, pn_50, pn_51, pn_52, pn_53, pn_54]; exact hT.symm); (simp only [put_s, sc, pn_01, pn_02, pn_03, pn_04, pn_05, pn_10, pn_12, pn_13, pn_14, pn_15, pn_20, pn_21, pn_23, pn_24, pn_25, pn_30, pn_31, pn_32, pn_34, pn_35, pn_40, pn_41, pn_42, pn_43, pn_45, pn_50, pn_51, pn_52, pn_53, pn_54]; show (μ 1) = apN (μ 1) g (nI i0) (nI u0) d; rw [apN, hT, if_neg (by decide)]); simp only [put_s, sc, pn_01, pn_02, pn_03, pn_04, pn_05, pn_10, pn_12, pn_13, pn_14, pn_15, pn_20, pn_21, pn_23, pn_24, pn_25, pn_30, pn_31, pn_32, pn_34, pn_35, pn_40, pn_41, pn_42, pn_43, pn_45, pn_50, pn_51, pn_52, pn_53, pn_54]; simp only [put_s, sc, pn_01, pn_02, pn_03, pn_04, pn_05, pn_10, pn_12, pn_13, pn_14, pn_15, pn_20, pn_21, pn_23, pn_24, pn_25, pn_30, pn_31, pn_32, pn_34, pn_35, pn_40, pn_41, pn_42, pn_43, pn_45, pn_50, pn_51, pn_52, pn_53, pn_54]; simp only [put_s, sc, pn_01, pn_02, pn_03, pn_04, pn_05, pn_10, pn_12, pn_13, pn_14, pn_15, pn_20, pn_21, pn_23, pn_24, pn_25, pn_30, pn_31, pn_32, pn_34, pn_35, pn_40, pn_41, pn_42, pn_43, pn_45, pn_50, pn_51, pn_52, pn_53, pn_54]; simp only [put_s, sc, pn_01, pn_02, pn_03, pn_04, pn_05, pn_10, pn_12, pn_13, pn_14, pn_15, pn_20, pn_21, pn_23, pn_24, pn_25, pn_30, pn_31, pn_32, pn_34, pn_35, pn_40, pn_41, pn_42, pn_43, pn_45, pn_50, pn_51, pn_52, pn_53, pn_54])
          · skip
            refine g_aload_n X dX7_addPool_50 51 rfl rfl ?_
            refine g_iconst X dX7_addPool_51 52 rfl (v := 2) rfl ?_
            refine c_V X Lk_X7_41 (k_X7_raises E l wr b (put μ 0 (sc 0)) a σ 2) dX7_addPool_52 rfl 0 rfl rfl rfl (Nat.le_of_ble_eq_true rfl) ⟨(Nat.le_of_ble_eq_true rfl), (Nat.le_of_ble_eq_true rfl)⟩ ⟨(Nat.le_of_ble_eq_true rfl), (Nat.le_of_ble_eq_true rfl)⟩ 55 rfl [.int 0] rfl ?_
            exact g_iret X hr dX7_addPool_55 () (by have hT : apT (μ 1) g y z d = 2 := (by simp [apT, c1, c2, c3, c4, c5]); show (some (.int (apR (μ 1) g y z d)) : Option Value) = some (.int 0); rw [apR, hT, if_neg (by decide)]) (by have hT : apT (μ 1) g y z d = 2 := (by simp [apT, c1, c2, c3, c4, c5]); refine WW_eq ?_ ?_ ?_ ?_ ?_ ?_; (simp only [put_s, sc, pn_01, pn_02, pn_03, pn_04, pn_05, pn_10, pn_12, pn_13, pn_14, pn_15, pn_20, pn_21, pn_23, pn_24, pn_25, pn_30, pn_31, pn_32, pn_34, pn_35, pn_40, pn_41, pn_42, pn_43, pn_45, pn_50, pn_51, pn_52, pn_53, pn_54]; exact hT.symm); (simp only [put_s, sc, pn_01, pn_02, pn_03, pn_04, pn_05, pn_10, pn_12, pn_13, pn_14, pn_15, pn_20, pn_21, pn_23, pn_24, pn_25, pn_30, pn_31, pn_32, pn_34, pn_35, pn_40, pn_41, pn_42, pn_43, pn_45, pn_50, pn_51, pn_52, pn_53, pn_54]; show (μ 1) = apN (μ 1) g y z d; rw [apN, hT, if_neg (by decide)]); simp only [put_s, sc, pn_01, pn_02, pn_03, pn_04, pn_05, pn_10, pn_12, pn_13, pn_14, pn_15, pn_20, pn_21, pn_23, pn_24, pn_25, pn_30, pn_31, pn_32, pn_34, pn_35, pn_40, pn_41, pn_42, pn_43, pn_45, pn_50, pn_51, pn_52, pn_53, pn_54]; simp only [put_s, sc, pn_01, pn_02, pn_03, pn_04, pn_05, pn_10, pn_12, pn_13, pn_14, pn_15, pn_20, pn_21, pn_23, pn_24, pn_25, pn_30, pn_31, pn_32, pn_34, pn_35, pn_40, pn_41, pn_42, pn_43, pn_45, pn_50, pn_51, pn_52, pn_53, pn_54]; simp only [put_s, sc, pn_01, pn_02, pn_03, pn_04, pn_05, pn_10, pn_12, pn_13, pn_14, pn_15, pn_20, pn_21, pn_23, pn_24, pn_25, pn_30, pn_31, pn_32, pn_34, pn_35, pn_40, pn_41, pn_42, pn_43, pn_45, pn_50, pn_51, pn_52, pn_53, pn_54]; simp only [put_s, sc, pn_01, pn_02, pn_03, pn_04, pn_05, pn_10, pn_12, pn_13, pn_14, pn_15, pn_20, pn_21, pn_23, pn_24, pn_25, pn_30, pn_31, pn_32, pn_34, pn_35, pn_40, pn_41, pn_42, pn_43, pn_45, pn_50, pn_51, pn_52, pn_53, pn_54])
  · skip
    refine g_aload_n X dX7_addPool_12 13 rfl rfl ?_
    refine g_iconst X dX7_addPool_13 14 rfl (v := 1) rfl ?_
    refine c_V X Lk_X7_41 (k_X7_raises E l wr b (put μ 0 (sc 0)) a σ 1) dX7_addPool_14 rfl 0 rfl rfl rfl (Nat.le_of_ble_eq_true rfl) ⟨(Nat.le_of_ble_eq_true rfl), (Nat.le_of_ble_eq_true rfl)⟩ ⟨(Nat.le_of_ble_eq_true rfl), (Nat.le_of_ble_eq_true rfl)⟩ 17 rfl [.int 0] rfl ?_
    exact g_iret X hr dX7_addPool_17 () (by have hT : apT (μ 1) g y z d = 1 := (by simp [apT, c1]); show (some (.int (apR (μ 1) g y z d)) : Option Value) = some (.int 0); rw [apR, hT, if_neg (by decide)]) (by have hT : apT (μ 1) g y z d = 1 := (by simp [apT, c1]); refine WW_eq ?_ ?_ ?_ ?_ ?_ ?_; (simp only [put_s, sc, pn_01, pn_02, pn_03, pn_04, pn_05, pn_10, pn_12, pn_13, pn_14, pn_15, pn_20, pn_21, pn_23, pn_24, pn_25, pn_30, pn_31, pn_32, pn_34, pn_35, pn_40, pn_41, pn_42, pn_43, pn_45, pn_50, pn_51, pn_52, pn_53, pn_54]; exact hT.symm); (simp only [put_s, sc, pn_01, pn_02, pn_03, pn_04, pn_05, pn_10, pn_12, pn_13, pn_14, pn_15, pn_20, pn_21, pn_23, pn_24, pn_25, pn_30, pn_31, pn_32, pn_34, pn_35, pn_40, pn_41, pn_42, pn_43, pn_45, pn_50, pn_51, pn_52, pn_53, pn_54]; show (μ 1) = apN (μ 1) g y z d; rw [apN, hT, if_neg (by decide)]); simp only [put_s, sc, pn_01, pn_02, pn_03, pn_04, pn_05, pn_10, pn_12, pn_13, pn_14, pn_15, pn_20, pn_21, pn_23, pn_24, pn_25, pn_30, pn_31, pn_32, pn_34, pn_35, pn_40, pn_41, pn_42, pn_43, pn_45, pn_50, pn_51, pn_52, pn_53, pn_54]; simp only [put_s, sc, pn_01, pn_02, pn_03, pn_04, pn_05, pn_10, pn_12, pn_13, pn_14, pn_15, pn_20, pn_21, pn_23, pn_24, pn_25, pn_30, pn_31, pn_32, pn_34, pn_35, pn_40, pn_41, pn_42, pn_43, pn_45, pn_50, pn_51, pn_52, pn_53, pn_54]; simp only [put_s, sc, pn_01, pn_02, pn_03, pn_04, pn_05, pn_10, pn_12, pn_13, pn_14, pn_15, pn_20, pn_21, pn_23, pn_24, pn_25, pn_30, pn_31, pn_32, pn_34, pn_35, pn_40, pn_41, pn_42, pn_43, pn_45, pn_50, pn_51, pn_52, pn_53, pn_54]; simp only [put_s, sc, pn_01, pn_02, pn_03, pn_04, pn_05, pn_10, pn_12, pn_13, pn_14, pn_15, pn_20, pn_21, pn_23, pn_24, pn_25, pn_30, pn_31, pn_32, pn_34, pn_35, pn_40, pn_41, pn_42, pn_43, pn_45, pn_50, pn_51, pn_52, pn_53, pn_54])

set_option maxHeartbeats 1000000 in
set_option maxRecDepth 100000 in
theorem k_X7_removePool (E : kE) (l : Launch) (wr : va_W) (b : Nat → Nat) (μ : Sto) (a : Nat → Nat) (σ : Sto) (x : Int32) (v : Nat) (hX : MX (μ 1) v) : KM E l yX7_removePool cX7_removePool 3 (some .int) 2 43 0 0 [.ref (b 0), .int x] (WW E b μ a σ wr) (some (.int (rmR (μ 1) x))) (WW E b (put (put μ 0 (sc (rmT (μ 1) x))) 1 (rmN (μ 1) x)) a σ wr) := by
  refine K_start (own := RX7) (by decide +kernel) rfl [(0, .ref (b 0)), (1, .int x)] rfl (Nat.le_of_ble_eq_true rfl) (fun p e s m below meth c X hr hin => ?_)
  refine g_aload_n X dX7_removePool_0 1 rfl rfl ?_
  refine g_iconst X dX7_removePool_1 2 rfl (v := 0) rfl ?_
  refine g_put X FL_X7_19 fk_X7 dX7_removePool_2 5 rfl rfl 0 rfl rfl rfl (Nat.le_of_ble_eq_true rfl) (WW E b (put μ 0 (sc 0)) a σ wr) rfl ?_
  refine g_aload_n X dX7_removePool_5 6 rfl rfl ?_
  refine g_iload_n X dX7_removePool_6 7 rfl rfl ?_
  refine c_V X Lk_X7_47 (k_X7_isPool E l wr b (put μ 0 (sc 0)) a σ x) dX7_removePool_7 rfl 0 rfl rfl rfl (Nat.le_of_ble_eq_true rfl) ⟨(Nat.le_of_ble_eq_true rfl), (Nat.le_of_ble_eq_true rfl)⟩ ⟨(Nat.le_of_ble_eq_true rfl), (Nat.le_of_ble_eq_true rfl)⟩ 10 rfl [.int (bi (inR x 0 ((μ 1) 4 - 1)))] rfl ?_
  refine g_ifb_ne X dX7_removePool_10 19 13 rfl rfl (fun c1 => ?_) (fun c1 => ?_)
  · skip
    obtain ⟨j, hj, rfl⟩ := isP_ok hX c1
    have hv5 := hX.hv
    obtain ⟨f, hf, h6⟩ := hX.hf j hj
    obtain ⟨u, hu, h7⟩ := hX.hl j hj
    have e1 : ix (nI j) = j := ixn (by omega)
    obtain ⟨w, rfl⟩ : ∃ w, v = w + 1 := ⟨v - 1, by omega⟩
    have hm : rmL (μ 1) (nI j) = rnL (μ 1) (nI u) f (100 - f) := by rw [rmL, e1, h6, h7, ixn (by omega)]
    have hw : (μ 1) 4 - 1 = nI w := by rw [hX.hc]; exact nI_pr w
    refine g_aload_n X dX7_removePool_19 20 rfl rfl ?_
    refine g_get X FL_X7_9 dX7_removePool_20 23 rfl 0 rfl (v := .ref (b 1)) rfl ?_
    refine g_aload_n X dX7_removePool_23 24 rfl rfl ?_
    refine g_iload_n X dX7_removePool_24 25 rfl rfl ?_
    refine c_V X Lk_X7_30 (k_X7_pool E l wr b (put μ 0 (sc 0)) a σ j) dX7_removePool_25 rfl 0 rfl rfl rfl (Nat.le_of_ble_eq_true rfl) ⟨(Nat.le_of_ble_eq_true rfl), (Nat.le_of_ble_eq_true rfl)⟩ ⟨(Nat.le_of_ble_eq_true rfl), (Nat.le_of_ble_eq_true rfl)⟩ 28 rfl [.int (nI (5 + 4 * j)), .ref (b 1)] rfl ?_
    refine g_iconst X dX7_removePool_28 29 rfl (v := 1) rfl ?_
    refine g_iaddN X dX7_removePool_29 30 rfl (5 + 4 * j) 1 rfl rfl ?_
    refine g_ialdN (j := (5 + 4 * j + 1)) (f := (μ 1)) X dX7_removePool_30 31 rfl 1 rfl (by omega) (by decide) ?_
    refine g_top (nI f) h6 ?_
    refine g_istore_n X dX7_removePool_31 32 rfl (by decide) [(2, .int (nI f)), (0, .ref (b 0)), (1, .int (nI j))] rfl ?_
    have La : ∀ (r i : Nat), (r = 100 - i) → (i ≤ 100) → (rnL (μ 1) (nI u) i r = rnL (μ 1) (nI u) f (100 - f)) →  G E (va_A (WW E b μ a σ wr) s.heap.size) 3 p l e ({ frames := 2, cells := 0, slots := 0, locals := 43 } : Room) s m (([.ref (b 0), .int (nI j)] : List Value).toArray) below meth c (MQ below (KQ E (WW E b μ a σ wr) s.heap.size (fun _ : Unit => (some (.int (rmR (μ 1) (nI j))))) (fun _ => WW E b (put (put μ 0 (sc (rmT (μ 1) (nI j)))) 1 (rmN (μ 1) (nI j))) a σ wr)) (([.ref (b 0), .int (nI j)] : List Value).toArray) s 0 0 (va_A (WW E b μ a σ wr) s.heap.size)) 0 0 (WW E b (put μ 0 (sc 0)) a σ wr) 32 [(2, .int (nI i)), (0, .ref (b 0)), (1, .int (nI j))] [] := by
      intro r
      induction r with
      | zero =>
        intro i hrr hi hv
        obtain rfl : i = 100 := by omega
        refine g_iload_n X dX7_removePool_32 33 rfl rfl ?_
        refine g_aload_n X dX7_removePool_33 34 rfl rfl ?_
        refine g_get X FL_X7_9 dX7_removePool_34 37 rfl 0 rfl (v := .ref (b 1)) rfl ?_
        refine g_aload_n X dX7_removePool_37 38 rfl rfl ?_
        refine g_iload_n X dX7_removePool_38 39 rfl rfl ?_
        refine c_V X Lk_X7_30 (k_X7_pool E l wr b (put μ 0 (sc 0)) a σ j) dX7_removePool_39 rfl 0 rfl rfl rfl (Nat.le_of_ble_eq_true rfl) ⟨(Nat.le_of_ble_eq_true rfl), (Nat.le_of_ble_eq_true rfl)⟩ ⟨(Nat.le_of_ble_eq_true rfl), (Nat.le_of_ble_eq_true rfl)⟩ 42 rfl [.int (nI (5 + 4 * j)), .ref (b 1), .int (nI 100)] rfl ?_
        refine g_iconst X dX7_removePool_42 43 rfl (v := 2) rfl ?_
        refine g_iaddN X dX7_removePool_43 44 rfl (5 + 4 * j) 2 rfl rfl ?_
        refine g_ialdN (j := (5 + 4 * j + 2)) (f := (μ 1)) X dX7_removePool_44 45 rfl 1 rfl (by omega) (by decide) ?_
        refine g_top (nI u) h7 ?_
        refine g_ic_gt X dX7_removePool_45 73 48 rfl rfl (fun c2 => ?_) (fun c2 => absurd (nI_lt hu (by decide)) c2)
        have hT : rmT (μ 1) (nI j) = 0 := by rw [rmT, c1, hm, show rnL (μ 1) (nI u) f (100 - f) = false from hv.symm]; rfl
        refine g_aload_n X dX7_removePool_73 74 rfl rfl ?_
        refine g_get X FL_X7_9 dX7_removePool_74 77 rfl 0 rfl (v := .ref (b 1)) rfl ?_
        refine g_iconst X dX7_removePool_77 78 rfl (v := 4) rfl ?_
        refine g_dup2 X dX7_removePool_78 79 rfl rfl rfl ?_
        refine g_ialdN (j := 4) (f := (μ 1)) X dX7_removePool_79 80 rfl 1 rfl (by omega) (by decide) ?_
        refine g_top (nI (w + 1)) hX.hc ?_
        refine g_iconst X dX7_removePool_80 81 rfl (v := 1) rfl ?_
        refine g_isub1 X dX7_removePool_81 82 rfl w ?_
        refine g_iastN (j := 4) (f := (μ 1)) X dX7_removePool_82 83 rfl 1 rfl (by omega) (by decide) (WW E b (put (put μ 0 (sc 0)) 1 (upd (μ 1) 4 (nI w))) a σ wr) rfl ?_
        refine g_aload_n X dX7_removePool_83 84 rfl rfl ?_
        refine g_iload_n X dX7_removePool_84 85 rfl rfl ?_
        refine c_V X Lk_X7_30 (k_X7_pool E l wr b (put (put μ 0 (sc 0)) 1 (upd (μ 1) 4 (nI w))) a σ j) dX7_removePool_85 rfl 0 rfl rfl rfl (Nat.le_of_ble_eq_true rfl) ⟨(Nat.le_of_ble_eq_true rfl), (Nat.le_of_ble_eq_true rfl)⟩ ⟨(Nat.le_of_ble_eq_true rfl), (Nat.le_of_ble_eq_true rfl)⟩ 88 rfl [.int (nI (5 + 4 * j))] rfl ?_
        refine g_istore_n X dX7_removePool_88 89 rfl (by decide) [(2, .int (nI (5 + 4 * j))), (0, .ref (b 0)), (1, .int (nI j))] rfl ?_
        have Lb : ∀ (r k : Nat), (k + r = 5 + 4 * w) → (5 + 4 * j ≤ k) →  G E (va_A (WW E b μ a σ wr) s.heap.size) 3 p l e ({ frames := 2, cells := 0, slots := 0, locals := 43 } : Room) s m (([.ref (b 0), .int (nI j)] : List Value).toArray) below meth c (MQ below (KQ E (WW E b μ a σ wr) s.heap.size (fun _ : Unit => (some (.int (rmR (μ 1) (nI j))))) (fun _ => WW E b (put (put μ 0 (sc (rmT (μ 1) (nI j)))) 1 (rmN (μ 1) (nI j))) a σ wr)) (([.ref (b 0), .int (nI j)] : List Value).toArray) s 0 0 (va_A (WW E b μ a σ wr) s.heap.size)) 0 0 (WW E b (put (put μ 0 (sc 0)) 1 (sh4 (upd (μ 1) 4 (nI w)) (5 + 4 * j) k)) a σ wr) 89 [(2, .int (nI k)), (0, .ref (b 0)), (1, .int (nI j))] [] := by
          intro r
          induction r with
          | zero =>
            intro k hk hk2
            obtain rfl : k = 5 + 4 * w := by omega
            refine g_iload_n X dX7_removePool_89 90 rfl rfl ?_
            refine g_aload_n X dX7_removePool_90 91 rfl rfl ?_
            refine g_aload_n X dX7_removePool_91 92 rfl rfl ?_
            refine g_get X FL_X7_9 dX7_removePool_92 95 rfl 0 rfl (v := .ref (b 1)) rfl ?_
            refine g_iconst X dX7_removePool_95 96 rfl (v := 4) rfl ?_
            refine g_ialdN (j := 4) (f := (sh4 (upd (μ 1) 4 (nI w)) (5 + 4 * j) (5 + 4 * w))) X dX7_removePool_96 97 rfl 1 rfl (by omega) (by decide) ?_
            refine g_top (nI w) (show ((sh4 (upd (μ 1) 4 (nI w)) (5 + 4 * j) (5 + 4 * w)) 4) = nI w from by rw [sh4_lo (by omega), pk_us]) ?_
            refine c_V X Lk_X7_30 (k_X7_pool E l wr b (put (put μ 0 (sc 0)) 1 (sh4 (upd (μ 1) 4 (nI w)) (5 + 4 * j) (5 + 4 * w))) a σ w) dX7_removePool_97 rfl 0 rfl rfl rfl (Nat.le_of_ble_eq_true rfl) ⟨(Nat.le_of_ble_eq_true rfl), (Nat.le_of_ble_eq_true rfl)⟩ ⟨(Nat.le_of_ble_eq_true rfl), (Nat.le_of_ble_eq_true rfl)⟩ 100 rfl [.int (nI (5 + 4 * w)), .int (nI (5 + 4 * w))] rfl ?_
            refine g_ic_ge X dX7_removePool_100 123 103 rfl rfl (fun c3 => ?_) (fun c3 => absurd (nI_le (Nat.le_refl _) (by omega)) c3)
            refine g_aload_n X dX7_removePool_123 124 rfl rfl ?_
            refine g_get X FL_X7_9 dX7_removePool_124 127 rfl 0 rfl (v := .ref (b 1)) rfl ?_
            refine g_iconst X dX7_removePool_127 128 rfl (v := 4) rfl ?_
            refine g_ialdN (j := 4) (f := (sh4 (upd (μ 1) 4 (nI w)) (5 + 4 * j) (5 + 4 * w))) X dX7_removePool_128 129 rfl 1 rfl (by omega) (by decide) ?_
            refine g_top (nI w) (show ((sh4 (upd (μ 1) 4 (nI w)) (5 + 4 * j) (5 + 4 * w)) 4) = nI w from by rw [sh4_lo (by omega), pk_us]) ?_
            exact g_iret X hr dX7_removePool_129 () (by show (some (.int (rmR (μ 1) (nI j))) : Option Value) = some (.int (nI w)); rw [rmR, hT, if_pos rfl, hw]) (by refine WW_eq ?_ ?_ ?_ ?_ ?_ ?_; (simp only [put_s, sc, pn_01, pn_02, pn_03, pn_04, pn_05, pn_10, pn_12, pn_13, pn_14, pn_15, pn_20, pn_21, pn_23, pn_24, pn_25, pn_30, pn_31, pn_32, pn_34, pn_35, pn_40, pn_41, pn_42, pn_43, pn_45, pn_50, pn_51, pn_52, pn_53, pn_54]; exact hT.symm); (simp only [put_s, sc, pn_01, pn_02, pn_03, pn_04, pn_05, pn_10, pn_12, pn_13, pn_14, pn_15, pn_20, pn_21, pn_23, pn_24, pn_25, pn_30, pn_31, pn_32, pn_34, pn_35, pn_40, pn_41, pn_42, pn_43, pn_45, pn_50, pn_51, pn_52, pn_53, pn_54]; show sh4 (upd (μ 1) 4 (nI w)) (5 + 4 * j) (5 + 4 * w) = rmN (μ 1) (nI j); rw [rmN, hT, if_pos rfl, rmM, hw, e1, ixn (by omega)]); simp only [put_s, sc, pn_01, pn_02, pn_03, pn_04, pn_05, pn_10, pn_12, pn_13, pn_14, pn_15, pn_20, pn_21, pn_23, pn_24, pn_25, pn_30, pn_31, pn_32, pn_34, pn_35, pn_40, pn_41, pn_42, pn_43, pn_45, pn_50, pn_51, pn_52, pn_53, pn_54]; simp only [put_s, sc, pn_01, pn_02, pn_03, pn_04, pn_05, pn_10, pn_12, pn_13, pn_14, pn_15, pn_20, pn_21, pn_23, pn_24, pn_25, pn_30, pn_31, pn_32, pn_34, pn_35, pn_40, pn_41, pn_42, pn_43, pn_45, pn_50, pn_51, pn_52, pn_53, pn_54]; simp only [put_s, sc, pn_01, pn_02, pn_03, pn_04, pn_05, pn_10, pn_12, pn_13, pn_14, pn_15, pn_20, pn_21, pn_23, pn_24, pn_25, pn_30, pn_31, pn_32, pn_34, pn_35, pn_40, pn_41, pn_42, pn_43, pn_45, pn_50, pn_51, pn_52, pn_53, pn_54]; simp only [put_s, sc, pn_01, pn_02, pn_03, pn_04, pn_05, pn_10, pn_12, pn_13, pn_14, pn_15, pn_20, pn_21, pn_23, pn_24, pn_25, pn_30, pn_31, pn_32, pn_34, pn_35, pn_40, pn_41, pn_42, pn_43, pn_45, pn_50, pn_51, pn_52, pn_53, pn_54])
          | succ r ih =>
            intro k hk hk2
            refine g_iload_n X dX7_removePool_89 90 rfl rfl ?_
            refine g_aload_n X dX7_removePool_90 91 rfl rfl ?_
            refine g_aload_n X dX7_removePool_91 92 rfl rfl ?_
            refine g_get X FL_X7_9 dX7_removePool_92 95 rfl 0 rfl (v := .ref (b 1)) rfl ?_
            refine g_iconst X dX7_removePool_95 96 rfl (v := 4) rfl ?_
            refine g_ialdN (j := 4) (f := (sh4 (upd (μ 1) 4 (nI w)) (5 + 4 * j) k)) X dX7_removePool_96 97 rfl 1 rfl (by omega) (by decide) ?_
            refine g_top (nI w) (show ((sh4 (upd (μ 1) 4 (nI w)) (5 + 4 * j) k) 4) = nI w from by rw [sh4_lo (by omega), pk_us]) ?_
            refine c_V X Lk_X7_30 (k_X7_pool E l wr b (put (put μ 0 (sc 0)) 1 (sh4 (upd (μ 1) 4 (nI w)) (5 + 4 * j) k)) a σ w) dX7_removePool_97 rfl 0 rfl rfl rfl (Nat.le_of_ble_eq_true rfl) ⟨(Nat.le_of_ble_eq_true rfl), (Nat.le_of_ble_eq_true rfl)⟩ ⟨(Nat.le_of_ble_eq_true rfl), (Nat.le_of_ble_eq_true rfl)⟩ 100 rfl [.int (nI (5 + 4 * w)), .int (nI k)] rfl ?_
            refine g_ic_ge X dX7_removePool_100 123 103 rfl rfl (fun c4 => absurd c4 (nI_ge (by omega) (by omega))) (fun c4 => ?_)
            refine g_aload_n X dX7_removePool_103 104 rfl rfl ?_
            refine g_get X FL_X7_9 dX7_removePool_104 107 rfl 0 rfl (v := .ref (b 1)) rfl ?_
            refine g_iload_n X dX7_removePool_107 108 rfl rfl ?_
            refine g_aload_n X dX7_removePool_108 109 rfl rfl ?_
            refine g_get X FL_X7_9 dX7_removePool_109 112 rfl 0 rfl (v := .ref (b 1)) rfl ?_
            refine g_iload_n X dX7_removePool_112 113 rfl rfl ?_
            refine g_iconst X dX7_removePool_113 114 rfl (v := 4) rfl ?_
            refine g_iaddN X dX7_removePool_114 115 rfl k 4 rfl rfl ?_
            refine g_ialdN (j := (k + 4)) (f := (sh4 (upd (μ 1) 4 (nI w)) (5 + 4 * j) k)) X dX7_removePool_115 116 rfl 1 rfl (by omega) (by decide) ?_
            refine g_iastN (j := k) (f := (sh4 (upd (μ 1) 4 (nI w)) (5 + 4 * j) k)) X dX7_removePool_116 117 rfl 1 rfl (by omega) (by decide) (WW E b (put (put μ 0 (sc 0)) 1 (upd (sh4 (upd (μ 1) 4 (nI w)) (5 + 4 * j) k) k ((sh4 (upd (μ 1) 4 (nI w)) (5 + 4 * j) k) (k + 4)))) a σ wr) rfl ?_
            refine g_iinc X dX7_removePool_117 120 rfl (by decide) 0 rfl (nI_1 _) [(2, .int (nI (k + 1))), (0, .ref (b 0)), (1, .int (nI j))] rfl ?_
            refine g_goto X dX7_removePool_120 89 rfl ?_
            rw [sh4_s hk2]
            exact ih (k + 1) (by omega) (by omega)
        have L0 := Lb (4 * w - 4 * j) (5 + 4 * j) (by omega) (by omega)
        rw [sh4_0] at L0
        exact L0
      | succ r ih =>
        intro i hrr hi hv
        refine g_iload_n X dX7_removePool_32 33 rfl rfl ?_
        refine g_aload_n X dX7_removePool_33 34 rfl rfl ?_
        refine g_get X FL_X7_9 dX7_removePool_34 37 rfl 0 rfl (v := .ref (b 1)) rfl ?_
        refine g_aload_n X dX7_removePool_37 38 rfl rfl ?_
        refine g_iload_n X dX7_removePool_38 39 rfl rfl ?_
        refine c_V X Lk_X7_30 (k_X7_pool E l wr b (put μ 0 (sc 0)) a σ j) dX7_removePool_39 rfl 0 rfl rfl rfl (Nat.le_of_ble_eq_true rfl) ⟨(Nat.le_of_ble_eq_true rfl), (Nat.le_of_ble_eq_true rfl)⟩ ⟨(Nat.le_of_ble_eq_true rfl), (Nat.le_of_ble_eq_true rfl)⟩ 42 rfl [.int (nI (5 + 4 * j)), .ref (b 1), .int (nI i)] rfl ?_
        refine g_iconst X dX7_removePool_42 43 rfl (v := 2) rfl ?_
        refine g_iaddN X dX7_removePool_43 44 rfl (5 + 4 * j) 2 rfl rfl ?_
        refine g_ialdN (j := (5 + 4 * j + 2)) (f := (μ 1)) X dX7_removePool_44 45 rfl 1 rfl (by omega) (by decide) ?_
        refine g_top (nI u) h7 ?_
        refine g_ic_gt X dX7_removePool_45 73 48 rfl rfl (fun c5 => ?_) (fun c5 => ?_)
        · skip
          have hT : rmT (μ 1) (nI j) = 0 := by rw [rmT, c1, hm, show rnL (μ 1) (nI u) f (100 - f) = false from hv.symm.trans (rnL_n c5)]; rfl
          refine g_aload_n X dX7_removePool_73 74 rfl rfl ?_
          refine g_get X FL_X7_9 dX7_removePool_74 77 rfl 0 rfl (v := .ref (b 1)) rfl ?_
          refine g_iconst X dX7_removePool_77 78 rfl (v := 4) rfl ?_
          refine g_dup2 X dX7_removePool_78 79 rfl rfl rfl ?_
          refine g_ialdN (j := 4) (f := (μ 1)) X dX7_removePool_79 80 rfl 1 rfl (by omega) (by decide) ?_
          refine g_top (nI (w + 1)) hX.hc ?_
          refine g_iconst X dX7_removePool_80 81 rfl (v := 1) rfl ?_
          refine g_isub1 X dX7_removePool_81 82 rfl w ?_
          refine g_iastN (j := 4) (f := (μ 1)) X dX7_removePool_82 83 rfl 1 rfl (by omega) (by decide) (WW E b (put (put μ 0 (sc 0)) 1 (upd (μ 1) 4 (nI w))) a σ wr) rfl ?_
          refine g_aload_n X dX7_removePool_83 84 rfl rfl ?_
          refine g_iload_n X dX7_removePool_84 85 rfl rfl ?_
          refine c_V X Lk_X7_30 (k_X7_pool E l wr b (put (put μ 0 (sc 0)) 1 (upd (μ 1) 4 (nI w))) a σ j) dX7_removePool_85 rfl 0 rfl rfl rfl (Nat.le_of_ble_eq_true rfl) ⟨(Nat.le_of_ble_eq_true rfl), (Nat.le_of_ble_eq_true rfl)⟩ ⟨(Nat.le_of_ble_eq_true rfl), (Nat.le_of_ble_eq_true rfl)⟩ 88 rfl [.int (nI (5 + 4 * j))] rfl ?_
          refine g_istore_n X dX7_removePool_88 89 rfl (by decide) [(2, .int (nI (5 + 4 * j))), (0, .ref (b 0)), (1, .int (nI j))] rfl ?_
          have Lb : ∀ (r k : Nat), (k + r = 5 + 4 * w) → (5 + 4 * j ≤ k) →  G E (va_A (WW E b μ a σ wr) s.heap.size) 3 p l e ({ frames := 2, cells := 0, slots := 0, locals := 43 } : Room) s m (([.ref (b 0), .int (nI j)] : List Value).toArray) below meth c (MQ below (KQ E (WW E b μ a σ wr) s.heap.size (fun _ : Unit => (some (.int (rmR (μ 1) (nI j))))) (fun _ => WW E b (put (put μ 0 (sc (rmT (μ 1) (nI j)))) 1 (rmN (μ 1) (nI j))) a σ wr)) (([.ref (b 0), .int (nI j)] : List Value).toArray) s 0 0 (va_A (WW E b μ a σ wr) s.heap.size)) 0 0 (WW E b (put (put μ 0 (sc 0)) 1 (sh4 (upd (μ 1) 4 (nI w)) (5 + 4 * j) k)) a σ wr) 89 [(2, .int (nI k)), (0, .ref (b 0)), (1, .int (nI j))] [] := by
            intro r
            induction r with
            | zero =>
              intro k hk hk2
              obtain rfl : k = 5 + 4 * w := by omega
              refine g_iload_n X dX7_removePool_89 90 rfl rfl ?_
              refine g_aload_n X dX7_removePool_90 91 rfl rfl ?_
              refine g_aload_n X dX7_removePool_91 92 rfl rfl ?_
              refine g_get X FL_X7_9 dX7_removePool_92 95 rfl 0 rfl (v := .ref (b 1)) rfl ?_
              refine g_iconst X dX7_removePool_95 96 rfl (v := 4) rfl ?_
              refine g_ialdN (j := 4) (f := (sh4 (upd (μ 1) 4 (nI w)) (5 + 4 * j) (5 + 4 * w))) X dX7_removePool_96 97 rfl 1 rfl (by omega) (by decide) ?_
              refine g_top (nI w) (show ((sh4 (upd (μ 1) 4 (nI w)) (5 + 4 * j) (5 + 4 * w)) 4) = nI w from by rw [sh4_lo (by omega), pk_us]) ?_
              refine c_V X Lk_X7_30 (k_X7_pool E l wr b (put (put μ 0 (sc 0)) 1 (sh4 (upd (μ 1) 4 (nI w)) (5 + 4 * j) (5 + 4 * w))) a σ w) dX7_removePool_97 rfl 0 rfl rfl rfl (Nat.le_of_ble_eq_true rfl) ⟨(Nat.le_of_ble_eq_true rfl), (Nat.le_of_ble_eq_true rfl)⟩ ⟨(Nat.le_of_ble_eq_true rfl), (Nat.le_of_ble_eq_true rfl)⟩ 100 rfl [.int (nI (5 + 4 * w)), .int (nI (5 + 4 * w))] rfl ?_
              refine g_ic_ge X dX7_removePool_100 123 103 rfl rfl (fun c6 => ?_) (fun c6 => absurd (nI_le (Nat.le_refl _) (by omega)) c6)
              refine g_aload_n X dX7_removePool_123 124 rfl rfl ?_
              refine g_get X FL_X7_9 dX7_removePool_124 127 rfl 0 rfl (v := .ref (b 1)) rfl ?_
              refine g_iconst X dX7_removePool_127 128 rfl (v := 4) rfl ?_
              refine g_ialdN (j := 4) (f := (sh4 (upd (μ 1) 4 (nI w)) (5 + 4 * j) (5 + 4 * w))) X dX7_removePool_128 129 rfl 1 rfl (by omega) (by decide) ?_
              refine g_top (nI w) (show ((sh4 (upd (μ 1) 4 (nI w)) (5 + 4 * j) (5 + 4 * w)) 4) = nI w from by rw [sh4_lo (by omega), pk_us]) ?_
              exact g_iret X hr dX7_removePool_129 () (by show (some (.int (rmR (μ 1) (nI j))) : Option Value) = some (.int (nI w)); rw [rmR, hT, if_pos rfl, hw]) (by refine WW_eq ?_ ?_ ?_ ?_ ?_ ?_; (simp only [put_s, sc, pn_01, pn_02, pn_03, pn_04, pn_05, pn_10, pn_12, pn_13, pn_14, pn_15, pn_20, pn_21, pn_23, pn_24, pn_25, pn_30, pn_31, pn_32, pn_34, pn_35, pn_40, pn_41, pn_42, pn_43, pn_45, pn_50, pn_51, pn_52, pn_53, pn_54]; exact hT.symm); (simp only [put_s, sc, pn_01, pn_02, pn_03, pn_04, pn_05, pn_10, pn_12, pn_13, pn_14, pn_15, pn_20, pn_21, pn_23, pn_24, pn_25, pn_30, pn_31, pn_32, pn_34, pn_35, pn_40, pn_41, pn_42, pn_43, pn_45, pn_50, pn_51, pn_52, pn_53, pn_54]; show sh4 (upd (μ 1) 4 (nI w)) (5 + 4 * j) (5 + 4 * w) = rmN (μ 1) (nI j); rw [rmN, hT, if_pos rfl, rmM, hw, e1, ixn (by omega)]); simp only [put_s, sc, pn_01, pn_02, pn_03, pn_04, pn_05, pn_10, pn_12, pn_13, pn_14, pn_15, pn_20, pn_21, pn_23, pn_24, pn_25, pn_30, pn_31, pn_32, pn_34, pn_35, pn_40, pn_41, pn_42, pn_43, pn_45, pn_50, pn_51, pn_52, pn_53, pn_54]; simp only [put_s, sc, pn_01, pn_02, pn_03, pn_04, pn_05, pn_10, pn_12, pn_13, pn_14, pn_15, pn_20, pn_21, pn_23, pn_24, pn_25, pn_30, pn_31, pn_32, pn_34, pn_35, pn_40, pn_41, pn_42, pn_43, pn_45, pn_50, pn_51, pn_52, pn_53, pn_54]; simp only [put_s, sc, pn_01, pn_02, pn_03, pn_04, pn_05, pn_10, pn_12, pn_13, pn_14, pn_15, pn_20, pn_21, pn_23, pn_24, pn_25, pn_30, pn_31, pn_32, pn_34, pn_35, pn_40, pn_41, pn_42, pn_43, pn_45, pn_50, pn_51, pn_52, pn_53, pn_54]; simp only [put_s, sc, pn_01, pn_02, pn_03, pn_04, pn_05, pn_10, pn_12, pn_13, pn_14, pn_15, pn_20, pn_21, pn_23, pn_24, pn_25, pn_30, pn_31, pn_32, pn_34, pn_35, pn_40, pn_41, pn_42, pn_43, pn_45, pn_50, pn_51, pn_52, pn_53, pn_54])
            | succ r ih =>
              intro k hk hk2
              refine g_iload_n X dX7_removePool_89 90 rfl rfl ?_
              refine g_aload_n X dX7_removePool_90 91 rfl rfl ?_
              refine g_aload_n X dX7_removePool_91 92 rfl rfl ?_
              refine g_get X FL_X7_9 dX7_removePool_92 95 rfl 0 rfl (v := .ref (b 1)) rfl ?_
              refine g_iconst X dX7_removePool_95 96 rfl (v := 4) rfl ?_
              refine g_ialdN (j := 4) (f := (sh4 (upd (μ 1) 4 (nI w)) (5 + 4 * j) k)) X dX7_removePool_96 97 rfl 1 rfl (by omega) (by decide) ?_
              refine g_top (nI w) (show ((sh4 (upd (μ 1) 4 (nI w)) (5 + 4 * j) k) 4) = nI w from by rw [sh4_lo (by omega), pk_us]) ?_
              refine c_V X Lk_X7_30 (k_X7_pool E l wr b (put (put μ 0 (sc 0)) 1 (sh4 (upd (μ 1) 4 (nI w)) (5 + 4 * j) k)) a σ w) dX7_removePool_97 rfl 0 rfl rfl rfl (Nat.le_of_ble_eq_true rfl) ⟨(Nat.le_of_ble_eq_true rfl), (Nat.le_of_ble_eq_true rfl)⟩ ⟨(Nat.le_of_ble_eq_true rfl), (Nat.le_of_ble_eq_true rfl)⟩ 100 rfl [.int (nI (5 + 4 * w)), .int (nI k)] rfl ?_
              refine g_ic_ge X dX7_removePool_100 123 103 rfl rfl (fun c7 => absurd c7 (nI_ge (by omega) (by omega))) (fun c7 => ?_)
              refine g_aload_n X dX7_removePool_103 104 rfl rfl ?_
              refine g_get X FL_X7_9 dX7_removePool_104 107 rfl 0 rfl (v := .ref (b 1)) rfl ?_
              refine g_iload_n X dX7_removePool_107 108 rfl rfl ?_
              refine g_aload_n X dX7_removePool_108 109 rfl rfl ?_
              refine g_get X FL_X7_9 dX7_removePool_109 112 rfl 0 rfl (v := .ref (b 1)) rfl ?_
              refine g_iload_n X dX7_removePool_112 113 rfl rfl ?_
              refine g_iconst X dX7_removePool_113 114 rfl (v := 4) rfl ?_
              refine g_iaddN X dX7_removePool_114 115 rfl k 4 rfl rfl ?_
              refine g_ialdN (j := (k + 4)) (f := (sh4 (upd (μ 1) 4 (nI w)) (5 + 4 * j) k)) X dX7_removePool_115 116 rfl 1 rfl (by omega) (by decide) ?_
              refine g_iastN (j := k) (f := (sh4 (upd (μ 1) 4 (nI w)) (5 + 4 * j) k)) X dX7_removePool_116 117 rfl 1 rfl (by omega) (by decide) (WW E b (put (put μ 0 (sc 0)) 1 (upd (sh4 (upd (μ 1) 4 (nI w)) (5 + 4 * j) k) k ((sh4 (upd (μ 1) 4 (nI w)) (5 + 4 * j) k) (k + 4)))) a σ wr) rfl ?_
              refine g_iinc X dX7_removePool_117 120 rfl (by decide) 0 rfl (nI_1 _) [(2, .int (nI (k + 1))), (0, .ref (b 0)), (1, .int (nI j))] rfl ?_
              refine g_goto X dX7_removePool_120 89 rfl ?_
              rw [sh4_s hk2]
              exact ih (k + 1) (by omega) (by omega)
          have L0 := Lb (4 * w - 4 * j) (5 + 4 * j) (by omega) (by omega)
          rw [sh4_0] at L0
          exact L0
        · skip
          refine g_aload_n X dX7_removePool_48 49 rfl rfl ?_
          refine g_get X FL_X7_9 dX7_removePool_49 52 rfl 0 rfl (v := .ref (b 1)) rfl ?_
          refine g_sipush X dX7_removePool_52 55 rfl (v := 231) rfl ?_
          refine g_iload_n X dX7_removePool_55 56 rfl rfl ?_
          refine g_iaddN X dX7_removePool_56 57 rfl 231 i rfl rfl ?_
          refine g_ialdN (j := (231 + i)) (f := (μ 1)) X dX7_removePool_57 58 rfl 1 rfl (by omega) (by decide) ?_
          refine g_if_eq X dX7_removePool_58 67 61 rfl rfl (fun c8 => ?_) (fun c8 => ?_)
          · skip
            refine g_iinc X dX7_removePool_67 70 rfl (by decide) 0 rfl (nI_1 _) [(2, .int (nI (i + 1))), (0, .ref (b 0)), (1, .int (nI j))] rfl ?_
            refine g_goto X dX7_removePool_70 32 rfl ?_
            exact ih (i + 1) (by omega) (by omega) ((rnL_s c5 c8).symm.trans hv)
          · skip
            refine g_aload_n X dX7_removePool_61 62 rfl rfl ?_
            refine g_iconst X dX7_removePool_62 63 rfl (v := 2) rfl ?_
            refine c_V X Lk_X7_41 (k_X7_raises E l wr b (put μ 0 (sc 0)) a σ 2) dX7_removePool_63 rfl 0 rfl rfl rfl (Nat.le_of_ble_eq_true rfl) ⟨(Nat.le_of_ble_eq_true rfl), (Nat.le_of_ble_eq_true rfl)⟩ ⟨(Nat.le_of_ble_eq_true rfl), (Nat.le_of_ble_eq_true rfl)⟩ 66 rfl [.int 0] rfl ?_
            exact g_iret X hr dX7_removePool_66 () (by have hT : rmT (μ 1) (nI j) = 2 := (by rw [rmT, c1, hm, show rnL (μ 1) (nI u) f (100 - f) = true from hv.symm.trans (rnL_t c5 c8)]; rfl); show (some (.int (rmR (μ 1) (nI j))) : Option Value) = some (.int 0); rw [rmR, hT, if_neg (by decide)]) (by have hT : rmT (μ 1) (nI j) = 2 := (by rw [rmT, c1, hm, show rnL (μ 1) (nI u) f (100 - f) = true from hv.symm.trans (rnL_t c5 c8)]; rfl); refine WW_eq ?_ ?_ ?_ ?_ ?_ ?_; (simp only [put_s, sc, pn_01, pn_02, pn_03, pn_04, pn_05, pn_10, pn_12, pn_13, pn_14, pn_15, pn_20, pn_21, pn_23, pn_24, pn_25, pn_30, pn_31, pn_32, pn_34, pn_35, pn_40, pn_41, pn_42, pn_43, pn_45, pn_50, pn_51, pn_52, pn_53, pn_54]; exact hT.symm); (simp only [put_s, sc, pn_01, pn_02, pn_03, pn_04, pn_05, pn_10, pn_12, pn_13, pn_14, pn_15, pn_20, pn_21, pn_23, pn_24, pn_25, pn_30, pn_31, pn_32, pn_34, pn_35, pn_40, pn_41, pn_42, pn_43, pn_45, pn_50, pn_51, pn_52, pn_53, pn_54]; show (μ 1) = rmN (μ 1) (nI j); rw [rmN, hT, if_neg (by decide)]); simp only [put_s, sc, pn_01, pn_02, pn_03, pn_04, pn_05, pn_10, pn_12, pn_13, pn_14, pn_15, pn_20, pn_21, pn_23, pn_24, pn_25, pn_30, pn_31, pn_32, pn_34, pn_35, pn_40, pn_41, pn_42, pn_43, pn_45, pn_50, pn_51, pn_52, pn_53, pn_54]; simp only [put_s, sc, pn_01, pn_02, pn_03, pn_04, pn_05, pn_10, pn_12, pn_13, pn_14, pn_15, pn_20, pn_21, pn_23, pn_24, pn_25, pn_30, pn_31, pn_32, pn_34, pn_35, pn_40, pn_41, pn_42, pn_43, pn_45, pn_50, pn_51, pn_52, pn_53, pn_54]; simp only [put_s, sc, pn_01, pn_02, pn_03, pn_04, pn_05, pn_10, pn_12, pn_13, pn_14, pn_15, pn_20, pn_21, pn_23, pn_24, pn_25, pn_30, pn_31, pn_32, pn_34, pn_35, pn_40, pn_41, pn_42, pn_43, pn_45, pn_50, pn_51, pn_52, pn_53, pn_54]; simp only [put_s, sc, pn_01, pn_02, pn_03, pn_04, pn_05, pn_10, pn_12, pn_13, pn_14, pn_15, pn_20, pn_21, pn_23, pn_24, pn_25, pn_30, pn_31, pn_32, pn_34, pn_35, pn_40, pn_41, pn_42, pn_43, pn_45, pn_50, pn_51, pn_52, pn_53, pn_54])
    exact La (100 - f) f rfl (by omega) rfl
  · skip
    refine g_aload_n X dX7_removePool_13 14 rfl rfl ?_
    refine g_iconst X dX7_removePool_14 15 rfl (v := 1) rfl ?_
    refine c_V X Lk_X7_41 (k_X7_raises E l wr b (put μ 0 (sc 0)) a σ 1) dX7_removePool_15 rfl 0 rfl rfl rfl (Nat.le_of_ble_eq_true rfl) ⟨(Nat.le_of_ble_eq_true rfl), (Nat.le_of_ble_eq_true rfl)⟩ ⟨(Nat.le_of_ble_eq_true rfl), (Nat.le_of_ble_eq_true rfl)⟩ 18 rfl [.int 0] rfl ?_
    exact g_iret X hr dX7_removePool_18 () (by have hT : rmT (μ 1) x = 1 := (by rw [rmT, c1]; rfl); show (some (.int (rmR (μ 1) x)) : Option Value) = some (.int 0); rw [rmR, hT, if_neg (by decide)]) (by have hT : rmT (μ 1) x = 1 := (by rw [rmT, c1]; rfl); refine WW_eq ?_ ?_ ?_ ?_ ?_ ?_; (simp only [put_s, sc, pn_01, pn_02, pn_03, pn_04, pn_05, pn_10, pn_12, pn_13, pn_14, pn_15, pn_20, pn_21, pn_23, pn_24, pn_25, pn_30, pn_31, pn_32, pn_34, pn_35, pn_40, pn_41, pn_42, pn_43, pn_45, pn_50, pn_51, pn_52, pn_53, pn_54]; exact hT.symm); (simp only [put_s, sc, pn_01, pn_02, pn_03, pn_04, pn_05, pn_10, pn_12, pn_13, pn_14, pn_15, pn_20, pn_21, pn_23, pn_24, pn_25, pn_30, pn_31, pn_32, pn_34, pn_35, pn_40, pn_41, pn_42, pn_43, pn_45, pn_50, pn_51, pn_52, pn_53, pn_54]; show (μ 1) = rmN (μ 1) x; rw [rmN, hT, if_neg (by decide)]); simp only [put_s, sc, pn_01, pn_02, pn_03, pn_04, pn_05, pn_10, pn_12, pn_13, pn_14, pn_15, pn_20, pn_21, pn_23, pn_24, pn_25, pn_30, pn_31, pn_32, pn_34, pn_35, pn_40, pn_41, pn_42, pn_43, pn_45, pn_50, pn_51, pn_52, pn_53, pn_54]; simp only [put_s, sc, pn_01, pn_02, pn_03, pn_04, pn_05, pn_10, pn_12, pn_13, pn_14, pn_15, pn_20, pn_21, pn_23, pn_24, pn_25, pn_30, pn_31, pn_32, pn_34, pn_35, pn_40, pn_41, pn_42, pn_43, pn_45, pn_50, pn_51, pn_52, pn_53, pn_54]; simp only [put_s, sc, pn_01, pn_02, pn_03, pn_04, pn_05, pn_10, pn_12, pn_13, pn_14, pn_15, pn_20, pn_21, pn_23, pn_24, pn_25, pn_30, pn_31, pn_32, pn_34, pn_35, pn_40, pn_41, pn_42, pn_43, pn_45, pn_50, pn_51, pn_52, pn_53, pn_54]; simp only [put_s, sc, pn_01, pn_02, pn_03, pn_04, pn_05, pn_10, pn_12, pn_13, pn_14, pn_15, pn_20, pn_21, pn_23, pn_24, pn_25, pn_30, pn_31, pn_32, pn_34, pn_35, pn_40, pn_41, pn_42, pn_43, pn_45, pn_50, pn_51, pn_52, pn_53, pn_54])

set_option maxHeartbeats 1000000 in
set_option maxRecDepth 100000 in
theorem k_X7_save (E : kE) (l : Launch) (wr : va_W) (b : Nat → Nat) (μ : Sto) (a : Nat → Nat) (σ : Sto) : KM E l yX7_save cX7_save 2 (some .int) 2 43 0 0 [.ref (b 0)] (WW E b μ a σ wr) (some (.int (boM (μ 1)))) (WW E b (put (put (put μ 0 (sc 0)) 2 (cpR (μ 1) (μ 2) 731)) 3 (sc 1)) a σ wr) := by
  refine K_start (own := RX7) (by decide +kernel) rfl [(0, .ref (b 0))] rfl (Nat.le_of_ble_eq_true rfl) (fun p e s m below meth c X hr hin => ?_)
  refine g_aload_n X dX7_save_0 1 rfl rfl ?_
  refine g_iconst X dX7_save_1 2 rfl (v := 0) rfl ?_
  refine g_put X FL_X7_19 fk_X7 dX7_save_2 5 rfl rfl 0 rfl rfl rfl (Nat.le_of_ble_eq_true rfl) (WW E b (put μ 0 (sc 0)) a σ wr) rfl ?_
  refine g_aload_n X dX7_save_5 6 rfl rfl ?_
  refine g_iconst X dX7_save_6 7 rfl (v := 1) rfl ?_
  refine g_put X FL_X7_124 fk_X7 dX7_save_7 10 rfl rfl 0 rfl rfl rfl (Nat.le_of_ble_eq_true rfl) (WW E b (put (put μ 0 (sc 0)) 3 (sc 1)) a σ wr) rfl ?_
  refine g_iconst X dX7_save_10 11 rfl (v := 0) rfl ?_
  refine g_istore_n X dX7_save_11 12 rfl (by decide) [(1, .int 0), (0, .ref (b 0))] rfl ?_
  have La : ∀ (r k : Nat), (k + r = 731) →  G E (va_A (WW E b μ a σ wr) s.heap.size) 2 p l e ({ frames := 2, cells := 0, slots := 0, locals := 43 } : Room) s m (([.ref (b 0)] : List Value).toArray) below meth c (MQ below (KQ E (WW E b μ a σ wr) s.heap.size (fun _ : Unit => (some (.int (boM (μ 1))))) (fun _ => WW E b (put (put (put μ 0 (sc 0)) 2 (cpR (μ 1) (μ 2) 731)) 3 (sc 1)) a σ wr)) (([.ref (b 0)] : List Value).toArray) s 0 0 (va_A (WW E b μ a σ wr) s.heap.size)) 0 0 (WW E b (put (put (put μ 0 (sc 0)) 3 (sc 1)) 2 (cpR (μ 1) (μ 2) k)) a σ wr) 12 [(1, .int (nI k)), (0, .ref (b 0))] [] := by
    intro r
    induction r with
    | zero =>
      intro k hk
      obtain rfl : k = 731 := by omega
      refine g_iload_n X dX7_save_12 13 rfl rfl ?_
      refine g_sipush X dX7_save_13 16 rfl (v := 731) rfl ?_
      refine g_ic_ge X dX7_save_16 37 19 rfl rfl (fun c1 => ?_) (fun c1 => absurd (by decide) c1)
      refine g_aload_n X dX7_save_37 38 rfl rfl ?_
      refine c_V X Lk_X7_121 (k_X7_boundOnes E l wr b (put (put (put μ 0 (sc 0)) 3 (sc 1)) 2 (cpR (μ 1) (μ 2) 731)) a σ) dX7_save_38 rfl 0 rfl rfl rfl (Nat.le_of_ble_eq_true rfl) ⟨(Nat.le_of_ble_eq_true rfl), (Nat.le_of_ble_eq_true rfl)⟩ ⟨(Nat.le_of_ble_eq_true rfl), (Nat.le_of_ble_eq_true rfl)⟩ 41 rfl [.int (boM (μ 1))] rfl ?_
      exact g_iret X hr dX7_save_41 () rfl (by refine WW_eq ?_ ?_ ?_ ?_ ?_ ?_; simp only [put_s, sc, pn_01, pn_02, pn_03, pn_04, pn_05, pn_10, pn_12, pn_13, pn_14, pn_15, pn_20, pn_21, pn_23, pn_24, pn_25, pn_30, pn_31, pn_32, pn_34, pn_35, pn_40, pn_41, pn_42, pn_43, pn_45, pn_50, pn_51, pn_52, pn_53, pn_54]; simp only [put_s, sc, pn_01, pn_02, pn_03, pn_04, pn_05, pn_10, pn_12, pn_13, pn_14, pn_15, pn_20, pn_21, pn_23, pn_24, pn_25, pn_30, pn_31, pn_32, pn_34, pn_35, pn_40, pn_41, pn_42, pn_43, pn_45, pn_50, pn_51, pn_52, pn_53, pn_54]; simp only [put_s, sc, pn_01, pn_02, pn_03, pn_04, pn_05, pn_10, pn_12, pn_13, pn_14, pn_15, pn_20, pn_21, pn_23, pn_24, pn_25, pn_30, pn_31, pn_32, pn_34, pn_35, pn_40, pn_41, pn_42, pn_43, pn_45, pn_50, pn_51, pn_52, pn_53, pn_54]; simp only [put_s, sc, pn_01, pn_02, pn_03, pn_04, pn_05, pn_10, pn_12, pn_13, pn_14, pn_15, pn_20, pn_21, pn_23, pn_24, pn_25, pn_30, pn_31, pn_32, pn_34, pn_35, pn_40, pn_41, pn_42, pn_43, pn_45, pn_50, pn_51, pn_52, pn_53, pn_54]; simp only [put_s, sc, pn_01, pn_02, pn_03, pn_04, pn_05, pn_10, pn_12, pn_13, pn_14, pn_15, pn_20, pn_21, pn_23, pn_24, pn_25, pn_30, pn_31, pn_32, pn_34, pn_35, pn_40, pn_41, pn_42, pn_43, pn_45, pn_50, pn_51, pn_52, pn_53, pn_54]; simp only [put_s, sc, pn_01, pn_02, pn_03, pn_04, pn_05, pn_10, pn_12, pn_13, pn_14, pn_15, pn_20, pn_21, pn_23, pn_24, pn_25, pn_30, pn_31, pn_32, pn_34, pn_35, pn_40, pn_41, pn_42, pn_43, pn_45, pn_50, pn_51, pn_52, pn_53, pn_54])
    | succ r ih =>
      intro k hk
      refine g_iload_n X dX7_save_12 13 rfl rfl ?_
      refine g_sipush X dX7_save_13 16 rfl (v := 731) rfl ?_
      refine g_ic_ge X dX7_save_16 37 19 rfl rfl (fun c2 => absurd c2 (nI_ge (b := 731) (by omega) (by decide))) (fun c2 => ?_)
      refine g_aload_n X dX7_save_19 20 rfl rfl ?_
      refine g_get X FL_X7_13 dX7_save_20 23 rfl 0 rfl (v := .ref (b 2)) rfl ?_
      refine g_iload_n X dX7_save_23 24 rfl rfl ?_
      refine g_aload_n X dX7_save_24 25 rfl rfl ?_
      refine g_get X FL_X7_9 dX7_save_25 28 rfl 0 rfl (v := .ref (b 1)) rfl ?_
      refine g_iload_n X dX7_save_28 29 rfl rfl ?_
      refine g_ialdN (j := k) (f := (μ 1)) X dX7_save_29 30 rfl 1 rfl (by omega) (by decide) ?_
      refine g_iastN (j := k) (f := (cpR (μ 1) (μ 2) k)) X dX7_save_30 31 rfl 2 rfl (by omega) (by decide) (WW E b (put (put (put μ 0 (sc 0)) 3 (sc 1)) 2 (upd (cpR (μ 1) (μ 2) k) k (μ 1 k))) a σ wr) rfl ?_
      refine g_iinc X dX7_save_31 34 rfl (by decide) 0 rfl (nI_1 _) [(1, .int (nI (k + 1))), (0, .ref (b 0))] rfl ?_
      refine g_goto X dX7_save_34 12 rfl ?_
      rw [cpR_s]
      exact ih (k + 1) (by omega)
  have L0 := La 731 0 rfl
  rw [cpR_0] at L0
  exact L0

set_option maxHeartbeats 1000000 in
set_option maxRecDepth 100000 in
theorem k_X7_restore (E : kE) (l : Launch) (wr : va_W) (b : Nat → Nat) (μ : Sto) (a : Nat → Nat) (σ : Sto) : KM E l yX7_restore cX7_restore 2 (some .int) 2 43 0 0 [.ref (b 0)] (WW E b μ a σ wr) (some (.int (if μ 3 0 = 0 then 0 else boM (cpR (μ 2) (μ 1) 731)))) (WW E b (put (put μ 0 (sc (if μ 3 0 = 0 then 1 else 0))) 1 (if μ 3 0 = 0 then (μ 1) else (cpR (μ 2) (μ 1) 731))) a σ wr) := by
  refine K_start (own := RX7) (by decide +kernel) rfl [(0, .ref (b 0))] rfl (Nat.le_of_ble_eq_true rfl) (fun p e s m below meth c X hr hin => ?_)
  refine g_aload_n X dX7_restore_0 1 rfl rfl ?_
  refine g_iconst X dX7_restore_1 2 rfl (v := 0) rfl ?_
  refine g_put X FL_X7_19 fk_X7 dX7_restore_2 5 rfl rfl 0 rfl rfl rfl (Nat.le_of_ble_eq_true rfl) (WW E b (put μ 0 (sc 0)) a σ wr) rfl ?_
  refine g_aload_n X dX7_restore_5 6 rfl rfl ?_
  refine g_get X FL_X7_124 dX7_restore_6 9 rfl 0 rfl (v := .int (μ 3 0)) rfl ?_
  refine g_if_ne X dX7_restore_9 18 12 rfl rfl (fun c1 => ?_) (fun c1 => ?_)
  · skip
    refine g_iconst X dX7_restore_18 19 rfl (v := 0) rfl ?_
    refine g_istore_n X dX7_restore_19 20 rfl (by decide) [(1, .int 0), (0, .ref (b 0))] rfl ?_
    have La : ∀ (r k : Nat), (k + r = 731) →  G E (va_A (WW E b μ a σ wr) s.heap.size) 2 p l e ({ frames := 2, cells := 0, slots := 0, locals := 43 } : Room) s m (([.ref (b 0)] : List Value).toArray) below meth c (MQ below (KQ E (WW E b μ a σ wr) s.heap.size (fun _ : Unit => (some (.int (if μ 3 0 = 0 then 0 else boM (cpR (μ 2) (μ 1) 731))))) (fun _ => WW E b (put (put μ 0 (sc (if μ 3 0 = 0 then 1 else 0))) 1 (if μ 3 0 = 0 then (μ 1) else (cpR (μ 2) (μ 1) 731))) a σ wr)) (([.ref (b 0)] : List Value).toArray) s 0 0 (va_A (WW E b μ a σ wr) s.heap.size)) 0 0 (WW E b (put (put μ 0 (sc 0)) 1 (cpR (μ 2) (μ 1) k)) a σ wr) 20 [(1, .int (nI k)), (0, .ref (b 0))] [] := by
      intro r
      induction r with
      | zero =>
        intro k hk
        obtain rfl : k = 731 := by omega
        refine g_iload_n X dX7_restore_20 21 rfl rfl ?_
        refine g_sipush X dX7_restore_21 24 rfl (v := 731) rfl ?_
        refine g_ic_ge X dX7_restore_24 45 27 rfl rfl (fun c2 => ?_) (fun c2 => absurd (by decide) c2)
        refine g_aload_n X dX7_restore_45 46 rfl rfl ?_
        refine c_V X Lk_X7_121 (k_X7_boundOnes E l wr b (put (put μ 0 (sc 0)) 1 (cpR (μ 2) (μ 1) 731)) a σ) dX7_restore_46 rfl 0 rfl rfl rfl (Nat.le_of_ble_eq_true rfl) ⟨(Nat.le_of_ble_eq_true rfl), (Nat.le_of_ble_eq_true rfl)⟩ ⟨(Nat.le_of_ble_eq_true rfl), (Nat.le_of_ble_eq_true rfl)⟩ 49 rfl [.int (boM (cpR (μ 2) (μ 1) 731))] rfl ?_
        exact g_iret X hr dX7_restore_49 () (by show (some (.int (if μ 3 0 = 0 then 0 else boM (cpR (μ 2) (μ 1) 731))) : Option Value) = some (.int (boM (cpR (μ 2) (μ 1) 731))); rw [if_neg c1]) (by refine WW_eq ?_ ?_ ?_ ?_ ?_ ?_; (simp only [put_s, sc, pn_01, pn_02, pn_03, pn_04, pn_05, pn_10, pn_12, pn_13, pn_14, pn_15, pn_20, pn_21, pn_23, pn_24, pn_25, pn_30, pn_31, pn_32, pn_34, pn_35, pn_40, pn_41, pn_42, pn_43, pn_45, pn_50, pn_51, pn_52, pn_53, pn_54]; show 0 = (if μ 3 0 = 0 then 1 else 0); rw [if_neg c1]); (simp only [put_s, sc, pn_01, pn_02, pn_03, pn_04, pn_05, pn_10, pn_12, pn_13, pn_14, pn_15, pn_20, pn_21, pn_23, pn_24, pn_25, pn_30, pn_31, pn_32, pn_34, pn_35, pn_40, pn_41, pn_42, pn_43, pn_45, pn_50, pn_51, pn_52, pn_53, pn_54]; show (cpR (μ 2) (μ 1) 731) = (if μ 3 0 = 0 then (μ 1) else (cpR (μ 2) (μ 1) 731)); rw [if_neg c1]); simp only [put_s, sc, pn_01, pn_02, pn_03, pn_04, pn_05, pn_10, pn_12, pn_13, pn_14, pn_15, pn_20, pn_21, pn_23, pn_24, pn_25, pn_30, pn_31, pn_32, pn_34, pn_35, pn_40, pn_41, pn_42, pn_43, pn_45, pn_50, pn_51, pn_52, pn_53, pn_54]; simp only [put_s, sc, pn_01, pn_02, pn_03, pn_04, pn_05, pn_10, pn_12, pn_13, pn_14, pn_15, pn_20, pn_21, pn_23, pn_24, pn_25, pn_30, pn_31, pn_32, pn_34, pn_35, pn_40, pn_41, pn_42, pn_43, pn_45, pn_50, pn_51, pn_52, pn_53, pn_54]; simp only [put_s, sc, pn_01, pn_02, pn_03, pn_04, pn_05, pn_10, pn_12, pn_13, pn_14, pn_15, pn_20, pn_21, pn_23, pn_24, pn_25, pn_30, pn_31, pn_32, pn_34, pn_35, pn_40, pn_41, pn_42, pn_43, pn_45, pn_50, pn_51, pn_52, pn_53, pn_54]; simp only [put_s, sc, pn_01, pn_02, pn_03, pn_04, pn_05, pn_10, pn_12, pn_13, pn_14, pn_15, pn_20, pn_21, pn_23, pn_24, pn_25, pn_30, pn_31, pn_32, pn_34, pn_35, pn_40, pn_41, pn_42, pn_43, pn_45, pn_50, pn_51, pn_52, pn_53, pn_54])
      | succ r ih =>
        intro k hk
        refine g_iload_n X dX7_restore_20 21 rfl rfl ?_
        refine g_sipush X dX7_restore_21 24 rfl (v := 731) rfl ?_
        refine g_ic_ge X dX7_restore_24 45 27 rfl rfl (fun c3 => absurd c3 (nI_ge (b := 731) (by omega) (by decide))) (fun c3 => ?_)
        refine g_aload_n X dX7_restore_27 28 rfl rfl ?_
        refine g_get X FL_X7_9 dX7_restore_28 31 rfl 0 rfl (v := .ref (b 1)) rfl ?_
        refine g_iload_n X dX7_restore_31 32 rfl rfl ?_
        refine g_aload_n X dX7_restore_32 33 rfl rfl ?_
        refine g_get X FL_X7_13 dX7_restore_33 36 rfl 0 rfl (v := .ref (b 2)) rfl ?_
        refine g_iload_n X dX7_restore_36 37 rfl rfl ?_
        refine g_ialdN (j := k) (f := (μ 2)) X dX7_restore_37 38 rfl 2 rfl (by omega) (by decide) ?_
        refine g_iastN (j := k) (f := (cpR (μ 2) (μ 1) k)) X dX7_restore_38 39 rfl 1 rfl (by omega) (by decide) (WW E b (put (put μ 0 (sc 0)) 1 (upd (cpR (μ 2) (μ 1) k) k (μ 2 k))) a σ wr) rfl ?_
        refine g_iinc X dX7_restore_39 42 rfl (by decide) 0 rfl (nI_1 _) [(1, .int (nI (k + 1))), (0, .ref (b 0))] rfl ?_
        refine g_goto X dX7_restore_42 20 rfl ?_
        rw [cpR_s]
        exact ih (k + 1) (by omega)
    have L0 := La 731 0 rfl
    rw [cpR_0] at L0
    exact L0
  · skip
    refine g_aload_n X dX7_restore_12 13 rfl rfl ?_
    refine g_iconst X dX7_restore_13 14 rfl (v := 1) rfl ?_
    refine c_V X Lk_X7_41 (k_X7_raises E l wr b (put μ 0 (sc 0)) a σ 1) dX7_restore_14 rfl 0 rfl rfl rfl (Nat.le_of_ble_eq_true rfl) ⟨(Nat.le_of_ble_eq_true rfl), (Nat.le_of_ble_eq_true rfl)⟩ ⟨(Nat.le_of_ble_eq_true rfl), (Nat.le_of_ble_eq_true rfl)⟩ 17 rfl [.int 0] rfl ?_
    exact g_iret X hr dX7_restore_17 () (by show (some (.int (if μ 3 0 = 0 then 0 else boM (cpR (μ 2) (μ 1) 731))) : Option Value) = some (.int 0); rw [if_pos c1]) (by refine WW_eq ?_ ?_ ?_ ?_ ?_ ?_; (simp only [put_s, sc, pn_01, pn_02, pn_03, pn_04, pn_05, pn_10, pn_12, pn_13, pn_14, pn_15, pn_20, pn_21, pn_23, pn_24, pn_25, pn_30, pn_31, pn_32, pn_34, pn_35, pn_40, pn_41, pn_42, pn_43, pn_45, pn_50, pn_51, pn_52, pn_53, pn_54]; show 1 = (if μ 3 0 = 0 then 1 else 0); rw [if_pos c1]); (simp only [put_s, sc, pn_01, pn_02, pn_03, pn_04, pn_05, pn_10, pn_12, pn_13, pn_14, pn_15, pn_20, pn_21, pn_23, pn_24, pn_25, pn_30, pn_31, pn_32, pn_34, pn_35, pn_40, pn_41, pn_42, pn_43, pn_45, pn_50, pn_51, pn_52, pn_53, pn_54]; show (μ 1) = (if μ 3 0 = 0 then (μ 1) else (cpR (μ 2) (μ 1) 731)); rw [if_pos c1]); simp only [put_s, sc, pn_01, pn_02, pn_03, pn_04, pn_05, pn_10, pn_12, pn_13, pn_14, pn_15, pn_20, pn_21, pn_23, pn_24, pn_25, pn_30, pn_31, pn_32, pn_34, pn_35, pn_40, pn_41, pn_42, pn_43, pn_45, pn_50, pn_51, pn_52, pn_53, pn_54]; simp only [put_s, sc, pn_01, pn_02, pn_03, pn_04, pn_05, pn_10, pn_12, pn_13, pn_14, pn_15, pn_20, pn_21, pn_23, pn_24, pn_25, pn_30, pn_31, pn_32, pn_34, pn_35, pn_40, pn_41, pn_42, pn_43, pn_45, pn_50, pn_51, pn_52, pn_53, pn_54]; simp only [put_s, sc, pn_01, pn_02, pn_03, pn_04, pn_05, pn_10, pn_12, pn_13, pn_14, pn_15, pn_20, pn_21, pn_23, pn_24, pn_25, pn_30, pn_31, pn_32, pn_34, pn_35, pn_40, pn_41, pn_42, pn_43, pn_45, pn_50, pn_51, pn_52, pn_53, pn_54]; simp only [put_s, sc, pn_01, pn_02, pn_03, pn_04, pn_05, pn_10, pn_12, pn_13, pn_14, pn_15, pn_20, pn_21, pn_23, pn_24, pn_25, pn_30, pn_31, pn_32, pn_34, pn_35, pn_40, pn_41, pn_42, pn_43, pn_45, pn_50, pn_51, pn_52, pn_53, pn_54])

set_option maxHeartbeats 1000000 in
set_option maxRecDepth 100000 in
theorem k_X7_utilization (E : kE) (l : Launch) (wr : va_W) (b : Nat → Nat) (μ : Sto) (a : Nat → Nat) (σ : Sto) (x : Int32) (v : Nat) (hX : MX (μ 1) v) : KM E l yX7_utilization cX7_utilization 3 (some .double) 4 90 0 0 [.ref (b 0), .int x] (WW E b μ a σ wr) (some (.double (utM (μ 1) x))) (WW E b (put μ 0 (sc (bif inR x 0 2 then (if cuM (μ 1) x (-1) = 0 then 2 else 0) else 1))) a σ wr) := by
  refine K_start (own := RX7) (by decide +kernel) rfl [(0, .ref (b 0)), (1, .int x)] rfl (Nat.le_of_ble_eq_true rfl) (fun p e s m below meth c X hr hin => ?_)
  refine g_aload_n X dX7_utilization_0 1 rfl rfl ?_
  refine g_iconst X dX7_utilization_1 2 rfl (v := 0) rfl ?_
  refine g_put X FL_X7_19 fk_X7 dX7_utilization_2 5 rfl rfl 0 rfl rfl rfl (Nat.le_of_ble_eq_true rfl) (WW E b (put μ 0 (sc 0)) a σ wr) rfl ?_
  refine g_iload_n X dX7_utilization_5 6 rfl rfl ?_
  refine c_S X Lk_X7_37 (k_X7_isGroup E l wr b (put μ 0 (sc 0)) a σ x) dX7_utilization_6 rfl rfl (Nat.le_of_ble_eq_true rfl) ⟨(Nat.le_of_ble_eq_true rfl), (Nat.le_of_ble_eq_true rfl)⟩ ⟨(Nat.le_of_ble_eq_true rfl), (Nat.le_of_ble_eq_true rfl)⟩ 9 rfl [.int (bi (inR x 0 2))] rfl ?_
  refine g_ifb_ne X dX7_utilization_9 19 12 rfl rfl (fun c1 => ?_) (fun c1 => ?_)
  · skip
    refine g_aload_n X dX7_utilization_19 20 rfl rfl ?_
    refine g_iload_n X dX7_utilization_20 21 rfl rfl ?_
    refine g_iconst X dX7_utilization_21 22 rfl (v := -1) rfl ?_
    refine c_V X Lk_X7_118 (k_X7_count E l wr b (put μ 0 (sc 0)) a σ x (-1) v hX) dX7_utilization_22 rfl 0 rfl rfl rfl (Nat.le_of_ble_eq_true rfl) ⟨(Nat.le_of_ble_eq_true rfl), (Nat.le_of_ble_eq_true rfl)⟩ ⟨(Nat.le_of_ble_eq_true rfl), (Nat.le_of_ble_eq_true rfl)⟩ 25 rfl [.int (cuM (μ 1) x (-1))] rfl ?_
    refine g_istore_n X dX7_utilization_25 26 rfl (by decide) [(2, .int (cuM (μ 1) x (-1))), (0, .ref (b 0)), (1, .int x)] rfl ?_
    refine g_iload_n X dX7_utilization_26 27 rfl rfl ?_
    refine g_if_ne X dX7_utilization_27 39 30 rfl rfl (fun c2 => ?_) (fun c2 => ?_)
    · skip
      refine g_aload_n X dX7_utilization_39 40 rfl rfl ?_
      refine g_iload_n X dX7_utilization_40 41 rfl rfl ?_
      refine g_iconst X dX7_utilization_41 42 rfl (v := 2) rfl ?_
      refine c_V X Lk_X7_118 (k_X7_count E l wr b (put μ 0 (sc 0)) a σ x 2 v hX) dX7_utilization_42 rfl 0 rfl rfl rfl (Nat.le_of_ble_eq_true rfl) ⟨(Nat.le_of_ble_eq_true rfl), (Nat.le_of_ble_eq_true rfl)⟩ ⟨(Nat.le_of_ble_eq_true rfl), (Nat.le_of_ble_eq_true rfl)⟩ 45 rfl [.int (cuM (μ 1) x 2)] rfl ?_
      refine g_i2d X dX7_utilization_45 46 rfl ?_
      refine g_iload_n X dX7_utilization_46 47 rfl rfl ?_
      refine g_i2d X dX7_utilization_47 48 rfl ?_
      refine g_ddiv X dX7_utilization_48 49 rfl (let ⟨_, h1, h2⟩ := cuM_le (N := μ 1) (g := x) (w := (-1)); div_n64 h1 h2 c2) ?_
      exact g_dret X hr dX7_utilization_49 () (by show (some (.double (utM (μ 1) x)) : Option Value) = some (.double (FP.ddiv (FP.i2d (cuM (μ 1) x 2)) (FP.i2d (cuM (μ 1) x (-1))))); rw [utM, c1, cond_true, if_neg c2]) (by refine WW_eq ?_ ?_ ?_ ?_ ?_ ?_; (simp only [put_s, sc, pn_01, pn_02, pn_03, pn_04, pn_05, pn_10, pn_12, pn_13, pn_14, pn_15, pn_20, pn_21, pn_23, pn_24, pn_25, pn_30, pn_31, pn_32, pn_34, pn_35, pn_40, pn_41, pn_42, pn_43, pn_45, pn_50, pn_51, pn_52, pn_53, pn_54]; show 0 = (bif inR x 0 2 then (if cuM (μ 1) x (-1) = 0 then 2 else 0) else 1); rw [c1, cond_true, if_neg c2]); simp only [put_s, sc, pn_01, pn_02, pn_03, pn_04, pn_05, pn_10, pn_12, pn_13, pn_14, pn_15, pn_20, pn_21, pn_23, pn_24, pn_25, pn_30, pn_31, pn_32, pn_34, pn_35, pn_40, pn_41, pn_42, pn_43, pn_45, pn_50, pn_51, pn_52, pn_53, pn_54]; simp only [put_s, sc, pn_01, pn_02, pn_03, pn_04, pn_05, pn_10, pn_12, pn_13, pn_14, pn_15, pn_20, pn_21, pn_23, pn_24, pn_25, pn_30, pn_31, pn_32, pn_34, pn_35, pn_40, pn_41, pn_42, pn_43, pn_45, pn_50, pn_51, pn_52, pn_53, pn_54]; simp only [put_s, sc, pn_01, pn_02, pn_03, pn_04, pn_05, pn_10, pn_12, pn_13, pn_14, pn_15, pn_20, pn_21, pn_23, pn_24, pn_25, pn_30, pn_31, pn_32, pn_34, pn_35, pn_40, pn_41, pn_42, pn_43, pn_45, pn_50, pn_51, pn_52, pn_53, pn_54]; simp only [put_s, sc, pn_01, pn_02, pn_03, pn_04, pn_05, pn_10, pn_12, pn_13, pn_14, pn_15, pn_20, pn_21, pn_23, pn_24, pn_25, pn_30, pn_31, pn_32, pn_34, pn_35, pn_40, pn_41, pn_42, pn_43, pn_45, pn_50, pn_51, pn_52, pn_53, pn_54]; simp only [put_s, sc, pn_01, pn_02, pn_03, pn_04, pn_05, pn_10, pn_12, pn_13, pn_14, pn_15, pn_20, pn_21, pn_23, pn_24, pn_25, pn_30, pn_31, pn_32, pn_34, pn_35, pn_40, pn_41, pn_42, pn_43, pn_45, pn_50, pn_51, pn_52, pn_53, pn_54])
    · skip
      refine g_aload_n X dX7_utilization_30 31 rfl rfl ?_
      refine g_iconst X dX7_utilization_31 32 rfl (v := 2) rfl ?_
      refine c_V X Lk_X7_41 (k_X7_raises E l wr b (put μ 0 (sc 0)) a σ 2) dX7_utilization_32 rfl 0 rfl rfl rfl (Nat.le_of_ble_eq_true rfl) ⟨(Nat.le_of_ble_eq_true rfl), (Nat.le_of_ble_eq_true rfl)⟩ ⟨(Nat.le_of_ble_eq_true rfl), (Nat.le_of_ble_eq_true rfl)⟩ 35 rfl [.int 0] rfl ?_
      refine g_i2d X dX7_utilization_35 36 rfl ?_
      refine g_goto X dX7_utilization_36 49 rfl ?_
      exact g_dret X hr dX7_utilization_49 () (by show (some (.double (utM (μ 1) x)) : Option Value) = some (.double (FP.i2d 0)); rw [utM, c1, cond_true, if_pos c2]) (by refine WW_eq ?_ ?_ ?_ ?_ ?_ ?_; (simp only [put_s, sc, pn_01, pn_02, pn_03, pn_04, pn_05, pn_10, pn_12, pn_13, pn_14, pn_15, pn_20, pn_21, pn_23, pn_24, pn_25, pn_30, pn_31, pn_32, pn_34, pn_35, pn_40, pn_41, pn_42, pn_43, pn_45, pn_50, pn_51, pn_52, pn_53, pn_54]; show 2 = (bif inR x 0 2 then (if cuM (μ 1) x (-1) = 0 then 2 else 0) else 1); rw [c1, cond_true, if_pos c2]); simp only [put_s, sc, pn_01, pn_02, pn_03, pn_04, pn_05, pn_10, pn_12, pn_13, pn_14, pn_15, pn_20, pn_21, pn_23, pn_24, pn_25, pn_30, pn_31, pn_32, pn_34, pn_35, pn_40, pn_41, pn_42, pn_43, pn_45, pn_50, pn_51, pn_52, pn_53, pn_54]; simp only [put_s, sc, pn_01, pn_02, pn_03, pn_04, pn_05, pn_10, pn_12, pn_13, pn_14, pn_15, pn_20, pn_21, pn_23, pn_24, pn_25, pn_30, pn_31, pn_32, pn_34, pn_35, pn_40, pn_41, pn_42, pn_43, pn_45, pn_50, pn_51, pn_52, pn_53, pn_54]; simp only [put_s, sc, pn_01, pn_02, pn_03, pn_04, pn_05, pn_10, pn_12, pn_13, pn_14, pn_15, pn_20, pn_21, pn_23, pn_24, pn_25, pn_30, pn_31, pn_32, pn_34, pn_35, pn_40, pn_41, pn_42, pn_43, pn_45, pn_50, pn_51, pn_52, pn_53, pn_54]; simp only [put_s, sc, pn_01, pn_02, pn_03, pn_04, pn_05, pn_10, pn_12, pn_13, pn_14, pn_15, pn_20, pn_21, pn_23, pn_24, pn_25, pn_30, pn_31, pn_32, pn_34, pn_35, pn_40, pn_41, pn_42, pn_43, pn_45, pn_50, pn_51, pn_52, pn_53, pn_54]; simp only [put_s, sc, pn_01, pn_02, pn_03, pn_04, pn_05, pn_10, pn_12, pn_13, pn_14, pn_15, pn_20, pn_21, pn_23, pn_24, pn_25, pn_30, pn_31, pn_32, pn_34, pn_35, pn_40, pn_41, pn_42, pn_43, pn_45, pn_50, pn_51, pn_52, pn_53, pn_54])
  · skip
    refine g_aload_n X dX7_utilization_12 13 rfl rfl ?_
    refine g_iconst X dX7_utilization_13 14 rfl (v := 1) rfl ?_
    refine c_V X Lk_X7_41 (k_X7_raises E l wr b (put μ 0 (sc 0)) a σ 1) dX7_utilization_14 rfl 0 rfl rfl rfl (Nat.le_of_ble_eq_true rfl) ⟨(Nat.le_of_ble_eq_true rfl), (Nat.le_of_ble_eq_true rfl)⟩ ⟨(Nat.le_of_ble_eq_true rfl), (Nat.le_of_ble_eq_true rfl)⟩ 17 rfl [.int 0] rfl ?_
    refine g_i2d X dX7_utilization_17 18 rfl ?_
    exact g_dret X hr dX7_utilization_18 () (by show (some (.double (utM (μ 1) x)) : Option Value) = some (.double (FP.i2d 0)); rw [utM, c1, cond_false]) (by refine WW_eq ?_ ?_ ?_ ?_ ?_ ?_; (simp only [put_s, sc, pn_01, pn_02, pn_03, pn_04, pn_05, pn_10, pn_12, pn_13, pn_14, pn_15, pn_20, pn_21, pn_23, pn_24, pn_25, pn_30, pn_31, pn_32, pn_34, pn_35, pn_40, pn_41, pn_42, pn_43, pn_45, pn_50, pn_51, pn_52, pn_53, pn_54]; show 1 = (bif inR x 0 2 then (if cuM (μ 1) x (-1) = 0 then 2 else 0) else 1); rw [c1, cond_false]); simp only [put_s, sc, pn_01, pn_02, pn_03, pn_04, pn_05, pn_10, pn_12, pn_13, pn_14, pn_15, pn_20, pn_21, pn_23, pn_24, pn_25, pn_30, pn_31, pn_32, pn_34, pn_35, pn_40, pn_41, pn_42, pn_43, pn_45, pn_50, pn_51, pn_52, pn_53, pn_54]; simp only [put_s, sc, pn_01, pn_02, pn_03, pn_04, pn_05, pn_10, pn_12, pn_13, pn_14, pn_15, pn_20, pn_21, pn_23, pn_24, pn_25, pn_30, pn_31, pn_32, pn_34, pn_35, pn_40, pn_41, pn_42, pn_43, pn_45, pn_50, pn_51, pn_52, pn_53, pn_54]; simp only [put_s, sc, pn_01, pn_02, pn_03, pn_04, pn_05, pn_10, pn_12, pn_13, pn_14, pn_15, pn_20, pn_21, pn_23, pn_24, pn_25, pn_30, pn_31, pn_32, pn_34, pn_35, pn_40, pn_41, pn_42, pn_43, pn_45, pn_50, pn_51, pn_52, pn_53, pn_54]; simp only [put_s, sc, pn_01, pn_02, pn_03, pn_04, pn_05, pn_10, pn_12, pn_13, pn_14, pn_15, pn_20, pn_21, pn_23, pn_24, pn_25, pn_30, pn_31, pn_32, pn_34, pn_35, pn_40, pn_41, pn_42, pn_43, pn_45, pn_50, pn_51, pn_52, pn_53, pn_54]; simp only [put_s, sc, pn_01, pn_02, pn_03, pn_04, pn_05, pn_10, pn_12, pn_13, pn_14, pn_15, pn_20, pn_21, pn_23, pn_24, pn_25, pn_30, pn_31, pn_32, pn_34, pn_35, pn_40, pn_41, pn_42, pn_43, pn_45, pn_50, pn_51, pn_52, pn_53, pn_54])

set_option maxHeartbeats 1000000 in
set_option maxRecDepth 100000 in
theorem k_X7_averageRest (E : kE) (l : Launch) (wr : va_W) (b : Nat → Nat) (μ : Sto) (a : Nat → Nat) (σ : Sto) (v : Nat) (hX : MX (μ 1) v) : KM E l yX7_averageRest cX7_averageRest 3 (some .float) 2 43 0 0 [.ref (b 0)] (WW E b μ a σ wr) (some (.float (avM (μ 1)))) (WW E b (put μ 0 (sc (if boM (μ 1) = 0 then 1 else 0))) a σ wr) := by
  refine K_start (own := RX7) (by decide +kernel) rfl [(0, .ref (b 0))] rfl (Nat.le_of_ble_eq_true rfl) (fun p e s m below meth c X hr hin => ?_)
  refine g_aload_n X dX7_averageRest_0 1 rfl rfl ?_
  refine g_iconst X dX7_averageRest_1 2 rfl (v := 0) rfl ?_
  refine g_put X FL_X7_19 fk_X7 dX7_averageRest_2 5 rfl rfl 0 rfl rfl rfl (Nat.le_of_ble_eq_true rfl) (WW E b (put μ 0 (sc 0)) a σ wr) rfl ?_
  refine g_iconst X dX7_averageRest_5 6 rfl (v := 0) rfl ?_
  refine g_istore_n X dX7_averageRest_6 7 rfl (by decide) [(1, .int 0), (0, .ref (b 0))] rfl ?_
  refine g_iconst X dX7_averageRest_7 8 rfl (v := 0) rfl ?_
  refine g_istore_n X dX7_averageRest_8 9 rfl (by decide) [(2, .int 0), (1, .int 0), (0, .ref (b 0))] rfl ?_
  have La : ∀ (r i : Nat) (z : Int32), (i + r = 20) → (arL (μ 1) i r z = arL (μ 1) 0 20 0) →  G E (va_A (WW E b μ a σ wr) s.heap.size) 3 p l e ({ frames := 2, cells := 0, slots := 0, locals := 43 } : Room) s m (([.ref (b 0)] : List Value).toArray) below meth c (MQ below (KQ E (WW E b μ a σ wr) s.heap.size (fun _ : Unit => (some (.float (avM (μ 1))))) (fun _ => WW E b (put μ 0 (sc (if boM (μ 1) = 0 then 1 else 0))) a σ wr)) (([.ref (b 0)] : List Value).toArray) s 0 0 (va_A (WW E b μ a σ wr) s.heap.size)) 0 0 (WW E b (put μ 0 (sc 0)) a σ wr) 9 [(2, .int (nI i)), (1, .int z), (0, .ref (b 0))] [] := by
    intro r
    induction r with
    | zero =>
      intro i z hi hv
      obtain rfl : i = 20 := by omega
      refine g_iload_n X dX7_averageRest_9 10 rfl rfl ?_
      refine g_bipush X dX7_averageRest_10 12 rfl (v := 20) rfl ?_
      refine g_ic_ge X dX7_averageRest_12 58 15 rfl rfl (fun c1 => ?_) (fun c1 => absurd (by decide) c1)
      have h9 : arL (μ 1) 0 20 0 = z := hv.symm
      refine g_aload_n X dX7_averageRest_58 59 rfl rfl ?_
      refine c_V X Lk_X7_121 (k_X7_boundOnes E l wr b (put μ 0 (sc 0)) a σ) dX7_averageRest_59 rfl 0 rfl rfl rfl (Nat.le_of_ble_eq_true rfl) ⟨(Nat.le_of_ble_eq_true rfl), (Nat.le_of_ble_eq_true rfl)⟩ ⟨(Nat.le_of_ble_eq_true rfl), (Nat.le_of_ble_eq_true rfl)⟩ 62 rfl [.int (boM (μ 1))] rfl ?_
      refine g_if_ne X dX7_averageRest_62 74 65 rfl rfl (fun c2 => ?_) (fun c2 => ?_)
      · skip
        refine g_iload_n X dX7_averageRest_74 75 rfl rfl ?_
        refine g_i2f X dX7_averageRest_75 76 rfl ?_
        refine g_aload_n X dX7_averageRest_76 77 rfl rfl ?_
        refine c_V X Lk_X7_121 (k_X7_boundOnes E l wr b (put μ 0 (sc 0)) a σ) dX7_averageRest_77 rfl 0 rfl rfl rfl (Nat.le_of_ble_eq_true rfl) ⟨(Nat.le_of_ble_eq_true rfl), (Nat.le_of_ble_eq_true rfl)⟩ ⟨(Nat.le_of_ble_eq_true rfl), (Nat.le_of_ble_eq_true rfl)⟩ 80 rfl [.int (boM (μ 1)), .float (FP.i2f z)] rfl ?_
        refine g_i2f X dX7_averageRest_80 81 rfl ?_
        refine g_fdiv X dX7_averageRest_81 82 rfl (let ⟨_, h1, h2⟩ := boM_le (N := μ 1); div_n32 h1 h2 c2) ?_
        exact g_fret X hr dX7_averageRest_82 () (by show (some (.float (avM (μ 1))) : Option Value) = some (.float (FP.fdiv (FP.i2f z) (FP.i2f (boM (μ 1))))); rw [avM, if_neg c2] <;> try rw [h9]) (by refine WW_eq ?_ ?_ ?_ ?_ ?_ ?_; (simp only [put_s, sc, pn_01, pn_02, pn_03, pn_04, pn_05, pn_10, pn_12, pn_13, pn_14, pn_15, pn_20, pn_21, pn_23, pn_24, pn_25, pn_30, pn_31, pn_32, pn_34, pn_35, pn_40, pn_41, pn_42, pn_43, pn_45, pn_50, pn_51, pn_52, pn_53, pn_54]; show 0 = (if boM (μ 1) = 0 then 1 else 0); rw [if_neg c2]); simp only [put_s, sc, pn_01, pn_02, pn_03, pn_04, pn_05, pn_10, pn_12, pn_13, pn_14, pn_15, pn_20, pn_21, pn_23, pn_24, pn_25, pn_30, pn_31, pn_32, pn_34, pn_35, pn_40, pn_41, pn_42, pn_43, pn_45, pn_50, pn_51, pn_52, pn_53, pn_54]; simp only [put_s, sc, pn_01, pn_02, pn_03, pn_04, pn_05, pn_10, pn_12, pn_13, pn_14, pn_15, pn_20, pn_21, pn_23, pn_24, pn_25, pn_30, pn_31, pn_32, pn_34, pn_35, pn_40, pn_41, pn_42, pn_43, pn_45, pn_50, pn_51, pn_52, pn_53, pn_54]; simp only [put_s, sc, pn_01, pn_02, pn_03, pn_04, pn_05, pn_10, pn_12, pn_13, pn_14, pn_15, pn_20, pn_21, pn_23, pn_24, pn_25, pn_30, pn_31, pn_32, pn_34, pn_35, pn_40, pn_41, pn_42, pn_43, pn_45, pn_50, pn_51, pn_52, pn_53, pn_54]; simp only [put_s, sc, pn_01, pn_02, pn_03, pn_04, pn_05, pn_10, pn_12, pn_13, pn_14, pn_15, pn_20, pn_21, pn_23, pn_24, pn_25, pn_30, pn_31, pn_32, pn_34, pn_35, pn_40, pn_41, pn_42, pn_43, pn_45, pn_50, pn_51, pn_52, pn_53, pn_54]; simp only [put_s, sc, pn_01, pn_02, pn_03, pn_04, pn_05, pn_10, pn_12, pn_13, pn_14, pn_15, pn_20, pn_21, pn_23, pn_24, pn_25, pn_30, pn_31, pn_32, pn_34, pn_35, pn_40, pn_41, pn_42, pn_43, pn_45, pn_50, pn_51, pn_52, pn_53, pn_54])
      · skip
        refine g_aload_n X dX7_averageRest_65 66 rfl rfl ?_
        refine g_iconst X dX7_averageRest_66 67 rfl (v := 1) rfl ?_
        refine c_V X Lk_X7_41 (k_X7_raises E l wr b (put μ 0 (sc 0)) a σ 1) dX7_averageRest_67 rfl 0 rfl rfl rfl (Nat.le_of_ble_eq_true rfl) ⟨(Nat.le_of_ble_eq_true rfl), (Nat.le_of_ble_eq_true rfl)⟩ ⟨(Nat.le_of_ble_eq_true rfl), (Nat.le_of_ble_eq_true rfl)⟩ 70 rfl [.int 0] rfl ?_
        refine g_i2f X dX7_averageRest_70 71 rfl ?_
        refine g_goto X dX7_averageRest_71 82 rfl ?_
        exact g_fret X hr dX7_averageRest_82 () (by show (some (.float (avM (μ 1))) : Option Value) = some (.float (FP.i2f 0)); rw [avM, if_pos c2] <;> try rw [h9]) (by refine WW_eq ?_ ?_ ?_ ?_ ?_ ?_; (simp only [put_s, sc, pn_01, pn_02, pn_03, pn_04, pn_05, pn_10, pn_12, pn_13, pn_14, pn_15, pn_20, pn_21, pn_23, pn_24, pn_25, pn_30, pn_31, pn_32, pn_34, pn_35, pn_40, pn_41, pn_42, pn_43, pn_45, pn_50, pn_51, pn_52, pn_53, pn_54]; show 1 = (if boM (μ 1) = 0 then 1 else 0); rw [if_pos c2]); simp only [put_s, sc, pn_01, pn_02, pn_03, pn_04, pn_05, pn_10, pn_12, pn_13, pn_14, pn_15, pn_20, pn_21, pn_23, pn_24, pn_25, pn_30, pn_31, pn_32, pn_34, pn_35, pn_40, pn_41, pn_42, pn_43, pn_45, pn_50, pn_51, pn_52, pn_53, pn_54]; simp only [put_s, sc, pn_01, pn_02, pn_03, pn_04, pn_05, pn_10, pn_12, pn_13, pn_14, pn_15, pn_20, pn_21, pn_23, pn_24, pn_25, pn_30, pn_31, pn_32, pn_34, pn_35, pn_40, pn_41, pn_42, pn_43, pn_45, pn_50, pn_51, pn_52, pn_53, pn_54]; simp only [put_s, sc, pn_01, pn_02, pn_03, pn_04, pn_05, pn_10, pn_12, pn_13, pn_14, pn_15, pn_20, pn_21, pn_23, pn_24, pn_25, pn_30, pn_31, pn_32, pn_34, pn_35, pn_40, pn_41, pn_42, pn_43, pn_45, pn_50, pn_51, pn_52, pn_53, pn_54]; simp only [put_s, sc, pn_01, pn_02, pn_03, pn_04, pn_05, pn_10, pn_12, pn_13, pn_14, pn_15, pn_20, pn_21, pn_23, pn_24, pn_25, pn_30, pn_31, pn_32, pn_34, pn_35, pn_40, pn_41, pn_42, pn_43, pn_45, pn_50, pn_51, pn_52, pn_53, pn_54]; simp only [put_s, sc, pn_01, pn_02, pn_03, pn_04, pn_05, pn_10, pn_12, pn_13, pn_14, pn_15, pn_20, pn_21, pn_23, pn_24, pn_25, pn_30, pn_31, pn_32, pn_34, pn_35, pn_40, pn_41, pn_42, pn_43, pn_45, pn_50, pn_51, pn_52, pn_53, pn_54])
    | succ r ih =>
      intro i z hi hv
      refine g_iload_n X dX7_averageRest_9 10 rfl rfl ?_
      refine g_bipush X dX7_averageRest_10 12 rfl (v := 20) rfl ?_
      refine g_ic_ge X dX7_averageRest_12 58 15 rfl rfl (fun c3 => absurd c3 (nI_ge (b := 20) (by omega) (by decide))) (fun c3 => ?_)
      refine g_aload_n X dX7_averageRest_15 16 rfl rfl ?_
      refine g_iload_n X dX7_averageRest_16 17 rfl rfl ?_
      refine c_V X Lk_X7_68 (k_X7_isBound E l wr b (put μ 0 (sc 0)) a σ i (by first | omega | assumption)) dX7_averageRest_17 rfl 0 rfl rfl rfl (Nat.le_of_ble_eq_true rfl) ⟨(Nat.le_of_ble_eq_true rfl), (Nat.le_of_ble_eq_true rfl)⟩ ⟨(Nat.le_of_ble_eq_true rfl), (Nat.le_of_ble_eq_true rfl)⟩ 20 rfl [.int (bi (bdM (μ 1) i))] rfl ?_
      refine g_ifb_eq X dX7_averageRest_20 52 23 rfl rfl (fun c4 => ?_) (fun c4 => ?_)
      · skip
        refine g_iinc X dX7_averageRest_52 55 rfl (by decide) 0 rfl (nI_1 _) [(2, .int (nI (i + 1))), (1, .int z), (0, .ref (b 0))] rfl ?_
        refine g_goto X dX7_averageRest_55 9 rfl ?_
        exact ih (i + 1) z (by omega) (by rw [← hv, arL, c4, cond_false])
      · skip
        refine g_iload_n X dX7_averageRest_23 24 rfl rfl ?_
        refine g_aload_n X dX7_averageRest_24 25 rfl rfl ?_
        refine g_get X FL_X7_9 dX7_averageRest_25 28 rfl 0 rfl (v := .ref (b 1)) rfl ?_
        refine g_sipush X dX7_averageRest_28 31 rfl (v := 431) rfl ?_
        refine g_aload_n X dX7_averageRest_31 32 rfl rfl ?_
        refine g_get X FL_X7_9 dX7_averageRest_32 35 rfl 0 rfl (v := .ref (b 1)) rfl ?_
        refine g_sipush X dX7_averageRest_35 38 rfl (v := 651) rfl ?_
        refine g_iload_n X dX7_averageRest_38 39 rfl rfl ?_
        refine g_iaddN X dX7_averageRest_39 40 rfl 651 i rfl rfl ?_
        refine g_ialdN (j := (651 + i)) (f := (μ 1)) X dX7_averageRest_40 41 rfl 1 rfl (by omega) (by decide) ?_
        obtain ⟨y, hy, h2⟩ := hX.ha i (by omega)
        refine g_top (nI y) h2 ?_
        refine g_iaddN X dX7_averageRest_41 42 rfl 431 y rfl rfl ?_
        refine g_ialdN (j := (431 + y)) (f := (μ 1)) X dX7_averageRest_42 43 rfl 1 rfl (by omega) (by decide) ?_
        refine g_aload_n X dX7_averageRest_43 44 rfl rfl ?_
        refine g_get X FL_X7_9 dX7_averageRest_44 47 rfl 0 rfl (v := .ref (b 1)) rfl ?_
        refine g_iconst X dX7_averageRest_47 48 rfl (v := 0) rfl ?_
        refine g_ialdN (j := 0) (f := (μ 1)) X dX7_averageRest_48 49 rfl 1 rfl (by omega) (by decide) ?_
        refine g_isub X dX7_averageRest_49 50 rfl ?_
        refine g_iadd X dX7_averageRest_50 51 rfl ?_
        refine g_istore_n X dX7_averageRest_51 52 rfl (by decide) [(1, .int (z + ((μ 1 (431 + y)) - (μ 1 0)))), (2, .int (nI i)), (0, .ref (b 0))] rfl ?_
        refine g_iinc X dX7_averageRest_52 55 rfl (by decide) 1 rfl (nI_1 _) [(2, .int (nI (i + 1))), (1, .int (z + ((μ 1 (431 + y)) - (μ 1 0)))), (0, .ref (b 0))] rfl ?_
        refine g_goto X dX7_averageRest_55 9 rfl ?_
        exact ih (i + 1) _ (by omega) (by rw [← hv, arL, c4, cond_true, h2, ixn (by omega)])
  exact La 20 0 0 rfl rfl
