-- a float's double is no NaN, where the float is none
theorem f2d_dec {x : UInt32} (h : FP.Core.decode FP.Core.b32 x.toNat ≠ .nan) : ∃ n : Nat, FP.f2d x = UInt64.ofNat n ∧ n % 9223372036854775808 ≤ 9218868437227405312 := by
  have h1 : FP.Core.fIsNaN x = false := decide_eq_false h
  refine ⟨FP.Core.encode FP.Core.b64 (FP.Core.round FP.Core.b64 (FP.Core.decode FP.Core.b32 x.toNat)), ?_, ?_⟩
  · show (if FP.Core.fIsNaN x = true then FP.nanF2D x else FP.Core.f2d x) = _
    rw [h1, if_neg (by decide)]
    rfl
  · cases hd : FP.Core.decode FP.Core.b32 x.toNat with
    | nan => exact absurd hd h
    | inf s => exact ei64 s
    | fin s c q => exact r64 s c 1 q
theorem f2d_n64 {x : UInt32} (h : FP.Core.decode FP.Core.b32 x.toNat ≠ .nan) : vf_n64 (FP.f2d x) := by
  obtain ⟨n, e, hn⟩ := f2d_dec h
  rw [e]
  exact n64_enc hn
theorem ord_eq {d : FP.Core.Datum} (h : d ≠ .nan) : FP.Core.order d d = some .eq := by
  cases d with
  | nan => exact absurd rfl h
  | inf s => cases s <;> rfl
  | fin s c q =>
    show some (compare (FP.Core.signed s _) (FP.Core.signed s _)) = some Ordering.eq
    exact congrArg some (by simp)
theorem f2d_eq {x : UInt32} (h : FP.Core.decode FP.Core.b32 x.toNat ≠ .nan) : Op.cmpValue (FP.dcmp (FP.f2d x) (FP.f2d x)) .l = 0 := by
  obtain ⟨n, e, hn⟩ := f2d_dec h
  have h2 : FP.Core.decode FP.Core.b64 (FP.f2d x).toNat ≠ .nan := by
    rw [e]
    refine dec64 ?_
    rw [UInt64.toNat_ofNat']
    omega
  show Op.cmpValue (FP.Core.order (FP.Core.decode FP.Core.b64 (FP.f2d x).toNat) (FP.Core.decode FP.Core.b64 (FP.f2d x).toNat)) .l = 0
  rw [ord_eq h2]
  rfl
theorem avM_ok {N : Nat → Int32} : FP.Core.decode FP.Core.b32 (avM N).toNat ≠ .nan := by
  unfold avM
  by_cases h : boM N = 0
  · rw [if_pos h]
    exact i2f_ok 0
  · rw [if_neg h]
    obtain ⟨j, hj, e⟩ := boM_le (N := N)
    have hj0 : ¬ j = 0 := fun q => h (by rw [e, q]; rfl)
    rw [e]
    refine dec32 ?_
    have := quo32 (i2f_ok (arL N 0 20 0)) (i2f_nz j hj hj0)
    show (UInt32.ofNat (FP.Core.encode FP.Core.b32 (FP.Core.quotient FP.Core.b32 (FP.Core.decode FP.Core.b32 (FP.i2f (arL N 0 20 0)).toNat) (FP.Core.decode FP.Core.b32 (FP.i2f (nI j)).toNat)))).toNat % 2147483648 ≤ 2139095040
    rw [UInt32.toNat_ofNat']
    omega
set_option maxHeartbeats 4000000 in
set_option maxRecDepth 100000 in
theorem do_0 {E : kE} {p : Program} {l : Launch} {e : Env} {s : State} {m : MethodId} {below : List Frame} {meth : Method} {c : Code} {Q : State → Prop} {sb L : Nat} {xs : Nat → Int32} (C : LC E p l s m meth c sb L xs) {a b : Nat → Nat} {o d i k n : Nat} {σ μ : Sto} {F : Nat → Int64} {D : Nat → UInt64} (hi : i + 5 ≤ L) (hk : k + 4 ≤ 3161) (hn : n + 24 ≤ 122043) (hR : RTl σ μ) (next : ∀ (σ' μ' : Sto) (F' : Nat → Int64) (D' : Nat → UInt64) (k' n' : Nat), RTl σ' μ' → k' ≤ k + 4 → n' ≤ n + 24 → G E (LA s) 9 p l e room_1 s m #[.ref sb] below meth c Q k' n' (WL E b μ' a σ' o d F' D') 2284 (lvL sb o d a b i) []) : G E (LA s) 9 p l e room_1 s m #[.ref sb] below meth c Q k n (WL E b μ a σ o d F D) 208 (lvL sb o d a b i) [] := by
  have h : RTc σ (μ 1) (μ 2) (μ 3 0) (μ 4) (μ 5 0) := hR
  have hlt := C.2.2.2.2.2.2
  obtain ⟨v, Tm, hX, hO, hI, hLG, hv⟩ := op_oko h
  obtain ⟨h0, hA, hR2⟩ := op_addPool (g := (xs (i + 1))) (y := (xs (i + 2))) (t := (xs (i + 3))) (d := (xs (i + 4))) h
  exact law_0 C hi hk hn (fun wr => k_X6_addPool E l hlt wr b μ a σ (xs (i + 1)) (xs (i + 2)) (xs (i + 3)) (xs (i + 4)) h0) (fun wr => k_X7_addPool E l wr b μ a _ (xs (i + 1)) (xs (i + 2)) (xs (i + 3)) (xs (i + 4)) v hX) th2 hA (fun F9 D9 => next _ _ F9 D9 _ _ (rt2 hR2) (Nat.le_refl _) (Nat.le_refl _))

set_option maxHeartbeats 4000000 in
set_option maxRecDepth 100000 in
theorem do_1 {E : kE} {p : Program} {l : Launch} {e : Env} {s : State} {m : MethodId} {below : List Frame} {meth : Method} {c : Code} {Q : State → Prop} {sb L : Nat} {xs : Nat → Int32} (C : LC E p l s m meth c sb L xs) {a b : Nat → Nat} {o d i k n : Nat} {σ μ : Sto} {F : Nat → Int64} {D : Nat → UInt64} (hi : i + 5 ≤ L) (hk : k + 4 ≤ 3161) (hn : n + 24 ≤ 122043) (hR : RTl σ μ) (next : ∀ (σ' μ' : Sto) (F' : Nat → Int64) (D' : Nat → UInt64) (k' n' : Nat), RTl σ' μ' → k' ≤ k + 4 → n' ≤ n + 24 → G E (LA s) 9 p l e room_1 s m #[.ref sb] below meth c Q k' n' (WL E b μ' a σ' o d F' D') 2284 (lvL sb o d a b i) []) : G E (LA s) 9 p l e room_1 s m #[.ref sb] below meth c Q k n (WL E b μ a σ o d F D) 300 (lvL sb o d a b i) [] := by
  have h : RTc σ (μ 1) (μ 2) (μ 3 0) (μ 4) (μ 5 0) := hR
  have hlt := C.2.2.2.2.2.2
  obtain ⟨v, Tm, hX, hO, hI, hLG, hv⟩ := op_oko h
  obtain ⟨v1, hv1, hc1, hX1, hA, hR2⟩ := op_removePool (x := (xs (i + 1))) h
  exact law_1 C hi hk hn (fun wr => k_X6_removePool E l hlt wr b μ a σ (xs (i + 1)) v1 hv1 hc1) (fun wr => k_X7_removePool E l wr b μ a _ (xs (i + 1)) v hX) th2 hA (fun F9 D9 => next _ _ F9 D9 _ _ (rt2 hR2) (Nat.le_refl _) (Nat.le_refl _))

set_option maxHeartbeats 4000000 in
set_option maxRecDepth 100000 in
theorem do_2 {E : kE} {p : Program} {l : Launch} {e : Env} {s : State} {m : MethodId} {below : List Frame} {meth : Method} {c : Code} {Q : State → Prop} {sb L : Nat} {xs : Nat → Int32} (C : LC E p l s m meth c sb L xs) {a b : Nat → Nat} {o d i k n : Nat} {σ μ : Sto} {F : Nat → Int64} {D : Nat → UInt64} (hi : i + 5 ≤ L) (hk : k + 4 ≤ 3161) (hn : n + 24 ≤ 122043) (hR : RTl σ μ) (next : ∀ (σ' μ' : Sto) (F' : Nat → Int64) (D' : Nat → UInt64) (k' n' : Nat), RTl σ' μ' → k' ≤ k + 4 → n' ≤ n + 24 → G E (LA s) 9 p l e room_1 s m #[.ref sb] below meth c Q k' n' (WL E b μ' a σ' o d F' D') 2284 (lvL sb o d a b i) []) : G E (LA s) 9 p l e room_1 s m #[.ref sb] below meth c Q k n (WL E b μ a σ o d F D) 356 (lvL sb o d a b i) [] := by
  have h : RTc σ (μ 1) (μ 2) (μ 3 0) (μ 4) (μ 5 0) := hR
  have hlt := C.2.2.2.2.2.2
  obtain ⟨v, Tm, hX, hO, hI, hLG, hv⟩ := op_oko h
  exact law_2 C hi (by omega) (by omega) (fun wr => k_X6_poolCount E l wr b μ a σ ) (fun wr => k_X7_poolCount E l wr b μ a _) (op_poolCount h) (next _ _ _ _ _ _ (rt1 hR) (by omega) (by omega))

set_option maxHeartbeats 4000000 in
set_option maxRecDepth 100000 in
theorem do_3 {E : kE} {p : Program} {l : Launch} {e : Env} {s : State} {m : MethodId} {below : List Frame} {meth : Method} {c : Code} {Q : State → Prop} {sb L : Nat} {xs : Nat → Int32} (C : LC E p l s m meth c sb L xs) {a b : Nat → Nat} {o d i k n : Nat} {σ μ : Sto} {F : Nat → Int64} {D : Nat → UInt64} (hi : i + 5 ≤ L) (hk : k + 4 ≤ 3161) (hn : n + 24 ≤ 122043) (hR : RTl σ μ) (next : ∀ (σ' μ' : Sto) (F' : Nat → Int64) (D' : Nat → UInt64) (k' n' : Nat), RTl σ' μ' → k' ≤ k + 4 → n' ≤ n + 24 → G E (LA s) 9 p l e room_1 s m #[.ref sb] below meth c Q k' n' (WL E b μ' a σ' o d F' D') 2284 (lvL sb o d a b i) []) : G E (LA s) 9 p l e room_1 s m #[.ref sb] below meth c Q k n (WL E b μ a σ o d F D) 369 (lvL sb o d a b i) [] := by
  have h : RTc σ (μ 1) (μ 2) (μ 3 0) (μ 4) (μ 5 0) := hR
  have hlt := C.2.2.2.2.2.2
  obtain ⟨v, Tm, hX, hO, hI, hLG, hv⟩ := op_oko h
  have hA := op_pool (x := (xs (i + 1))) (q := (xs (i + 2))) h
  exact law_3 C hi hk hn (fun wr => k_X6_pool E l hlt wr b μ a σ (xs (i + 1)) (xs (i + 2)) ) (fun wr => k_X7_pool_ E l wr b μ a _ (xs (i + 1)) (xs (i + 2)) v hX) th1 hA (fun F9 D9 => next _ _ F9 D9 _ _ (rt1 hR) (Nat.le_refl _) (Nat.le_refl _))

set_option maxHeartbeats 4000000 in
set_option maxRecDepth 100000 in
theorem do_4 {E : kE} {p : Program} {l : Launch} {e : Env} {s : State} {m : MethodId} {below : List Frame} {meth : Method} {c : Code} {Q : State → Prop} {sb L : Nat} {xs : Nat → Int32} (C : LC E p l s m meth c sb L xs) {a b : Nat → Nat} {o d i k n : Nat} {σ μ : Sto} {F : Nat → Int64} {D : Nat → UInt64} (hi : i + 5 ≤ L) (hk : k + 4 ≤ 3161) (hn : n + 24 ≤ 122043) (hR : RTl σ μ) (next : ∀ (σ' μ' : Sto) (F' : Nat → Int64) (D' : Nat → UInt64) (k' n' : Nat), RTl σ' μ' → k' ≤ k + 4 → n' ≤ n + 24 → G E (LA s) 9 p l e room_1 s m #[.ref sb] below meth c Q k' n' (WL E b μ' a σ' o d F' D') 2284 (lvL sb o d a b i) []) : G E (LA s) 9 p l e room_1 s m #[.ref sb] below meth c Q k n (WL E b μ a σ o d F D) 437 (lvL sb o d a b i) [] := by
  have h : RTc σ (μ 1) (μ 2) (μ 3 0) (μ 4) (μ 5 0) := hR
  have hlt := C.2.2.2.2.2.2
  obtain ⟨v, Tm, hX, hO, hI, hLG, hv⟩ := op_oko h
  have hA := op_poolOf (x := (xs (i + 1))) h
  exact law_4 C hi hk hn (fun wr => k_X6_poolOf E l hlt wr b μ a σ (xs (i + 1)) ) (fun wr => k_X7_poolOf E l wr b μ a _ (xs (i + 1)) v hX) th1 hA (fun F9 D9 => next _ _ F9 D9 _ _ (rt1 hR) (Nat.le_refl _) (Nat.le_refl _))

set_option maxHeartbeats 4000000 in
set_option maxRecDepth 100000 in
theorem do_5 {E : kE} {p : Program} {l : Launch} {e : Env} {s : State} {m : MethodId} {below : List Frame} {meth : Method} {c : Code} {Q : State → Prop} {sb L : Nat} {xs : Nat → Int32} (C : LC E p l s m meth c sb L xs) {a b : Nat → Nat} {o d i k n : Nat} {σ μ : Sto} {F : Nat → Int64} {D : Nat → UInt64} (hi : i + 5 ≤ L) (hk : k + 4 ≤ 3161) (hn : n + 24 ≤ 122043) (hR : RTl σ μ) (next : ∀ (σ' μ' : Sto) (F' : Nat → Int64) (D' : Nat → UInt64) (k' n' : Nat), RTl σ' μ' → k' ≤ k + 4 → n' ≤ n + 24 → G E (LA s) 9 p l e room_1 s m #[.ref sb] below meth c Q k' n' (WL E b μ' a σ' o d F' D') 2284 (lvL sb o d a b i) []) : G E (LA s) 9 p l e room_1 s m #[.ref sb] below meth c Q k n (WL E b μ a σ o d F D) 493 (lvL sb o d a b i) [] := by
  have h : RTc σ (μ 1) (μ 2) (μ 3 0) (μ 4) (μ 5 0) := hR
  have hlt := C.2.2.2.2.2.2
  obtain ⟨v, Tm, hX, hO, hI, hLG, hv⟩ := op_oko h
  obtain ⟨zb, hz, hA, hR2⟩ := op_exclude (x := (xs (i + 1))) (u := (!decide (xs (i + 2) = 0))) h
  exact law_5 C hi hk hn (fun wr => k_X6_exclude E l hlt wr b μ a σ (xs (i + 1)) (!decide (xs (i + 2) = 0)) zb hz) (fun wr => k_X7_exclude E l wr b μ a _ (xs (i + 1)) (!decide (xs (i + 2) = 0)) ) th2 hA (fun F9 D9 => next _ _ F9 D9 _ _ (rt2 hR2) (Nat.le_refl _) (Nat.le_refl _))

set_option maxHeartbeats 4000000 in
set_option maxRecDepth 100000 in
theorem do_6 {E : kE} {p : Program} {l : Launch} {e : Env} {s : State} {m : MethodId} {below : List Frame} {meth : Method} {c : Code} {Q : State → Prop} {sb L : Nat} {xs : Nat → Int32} (C : LC E p l s m meth c sb L xs) {a b : Nat → Nat} {o d i k n : Nat} {σ μ : Sto} {F : Nat → Int64} {D : Nat → UInt64} (hi : i + 5 ≤ L) (hk : k + 4 ≤ 3161) (hn : n + 24 ≤ 122043) (hR : RTl σ μ) (next : ∀ (σ' μ' : Sto) (F' : Nat → Int64) (D' : Nat → UInt64) (k' n' : Nat), RTl σ' μ' → k' ≤ k + 4 → n' ≤ n + 24 → G E (LA s) 9 p l e room_1 s m #[.ref sb] below meth c Q k' n' (WL E b μ' a σ' o d F' D') 2284 (lvL sb o d a b i) []) : G E (LA s) 9 p l e room_1 s m #[.ref sb] below meth c Q k n (WL E b μ a σ o d F D) 584 (lvL sb o d a b i) [] := by
  have h : RTc σ (μ 1) (μ 2) (μ 3 0) (μ 4) (μ 5 0) := hR
  have hlt := C.2.2.2.2.2.2
  obtain ⟨v, Tm, hX, hO, hI, hLG, hv⟩ := op_oko h
  obtain ⟨zb, hz, hA, hR2⟩ := op_setStranger (x := (xs (i + 1))) (u := (!decide (xs (i + 2) = 0))) h
  exact law_6 C hi hk hn (fun wr => k_X6_setStranger E l hlt wr b μ a σ (xs (i + 1)) (!decide (xs (i + 2) = 0)) zb hz) (fun wr => k_X7_setStranger E l wr b μ a _ (xs (i + 1)) (!decide (xs (i + 2) = 0)) ) th2 hA (fun F9 D9 => next _ _ F9 D9 _ _ (rt2 hR2) (Nat.le_refl _) (Nat.le_refl _))

set_option maxHeartbeats 4000000 in
set_option maxRecDepth 100000 in
theorem do_7 {E : kE} {p : Program} {l : Launch} {e : Env} {s : State} {m : MethodId} {below : List Frame} {meth : Method} {c : Code} {Q : State → Prop} {sb L : Nat} {xs : Nat → Int32} (C : LC E p l s m meth c sb L xs) {a b : Nat → Nat} {o d i k n : Nat} {σ μ : Sto} {F : Nat → Int64} {D : Nat → UInt64} (hi : i + 5 ≤ L) (hk : k + 4 ≤ 3161) (hn : n + 24 ≤ 122043) (hR : RTl σ μ) (next : ∀ (σ' μ' : Sto) (F' : Nat → Int64) (D' : Nat → UInt64) (k' n' : Nat), RTl σ' μ' → k' ≤ k + 4 → n' ≤ n + 24 → G E (LA s) 9 p l e room_1 s m #[.ref sb] below meth c Q k' n' (WL E b μ' a σ' o d F' D') 2284 (lvL sb o d a b i) []) : G E (LA s) 9 p l e room_1 s m #[.ref sb] below meth c Q k n (WL E b μ a σ o d F D) 675 (lvL sb o d a b i) [] := by
  have h : RTc σ (μ 1) (μ 2) (μ 3 0) (μ 4) (μ 5 0) := hR
  have hlt := C.2.2.2.2.2.2
  obtain ⟨v, Tm, hX, hO, hI, hLG, hv⟩ := op_oko h
  obtain ⟨hA, hR2⟩ := op_setHold (x := (xs (i + 1))) h
  exact law_7 C hi hk hn (fun wr => k_X6_setHold E l hlt wr b μ a σ (xs (i + 1)) ) (fun wr => k_X7_setHold E l wr b μ a _ (xs (i + 1)) ) th2 hA (fun F9 D9 => next _ _ F9 D9 _ _ (rt2 hR2) (Nat.le_refl _) (Nat.le_refl _))

set_option maxHeartbeats 4000000 in
set_option maxRecDepth 100000 in
theorem do_8 {E : kE} {p : Program} {l : Launch} {e : Env} {s : State} {m : MethodId} {below : List Frame} {meth : Method} {c : Code} {Q : State → Prop} {sb L : Nat} {xs : Nat → Int32} (C : LC E p l s m meth c sb L xs) {a b : Nat → Nat} {o d i k n : Nat} {σ μ : Sto} {F : Nat → Int64} {D : Nat → UInt64} (hi : i + 5 ≤ L) (hk : k + 4 ≤ 3161) (hn : n + 24 ≤ 122043) (hR : RTl σ μ) (next : ∀ (σ' μ' : Sto) (F' : Nat → Int64) (D' : Nat → UInt64) (k' n' : Nat), RTl σ' μ' → k' ≤ k + 4 → n' ≤ n + 24 → G E (LA s) 9 p l e room_1 s m #[.ref sb] below meth c Q k' n' (WL E b μ' a σ' o d F' D') 2284 (lvL sb o d a b i) []) : G E (LA s) 9 p l e room_1 s m #[.ref sb] below meth c Q k n (WL E b μ a σ o d F D) 731 (lvL sb o d a b i) [] := by
  have h : RTc σ (μ 1) (μ 2) (μ 3 0) (μ 4) (μ 5 0) := hR
  have hlt := C.2.2.2.2.2.2
  obtain ⟨v, Tm, hX, hO, hI, hLG, hv⟩ := op_oko h
  obtain ⟨hA, hR2⟩ := op_setQuarantine (x := (xs (i + 1))) h
  exact law_8 C hi hk hn (fun wr => k_X6_setQuarantine E l hlt wr b μ a σ (xs (i + 1)) ) (fun wr => k_X7_setQuarantine E l wr b μ a _ (xs (i + 1)) ) th2 hA (fun F9 D9 => next _ _ F9 D9 _ _ (rt2 hR2) (Nat.le_refl _) (Nat.le_refl _))

set_option maxHeartbeats 4000000 in
set_option maxRecDepth 100000 in
theorem do_9 {E : kE} {p : Program} {l : Launch} {e : Env} {s : State} {m : MethodId} {below : List Frame} {meth : Method} {c : Code} {Q : State → Prop} {sb L : Nat} {xs : Nat → Int32} (C : LC E p l s m meth c sb L xs) {a b : Nat → Nat} {o d i k n : Nat} {σ μ : Sto} {F : Nat → Int64} {D : Nat → UInt64} (hi : i + 5 ≤ L) (hk : k + 4 ≤ 3161) (hn : n + 24 ≤ 122043) (hR : RTl σ μ) (next : ∀ (σ' μ' : Sto) (F' : Nat → Int64) (D' : Nat → UInt64) (k' n' : Nat), RTl σ' μ' → k' ≤ k + 4 → n' ≤ n + 24 → G E (LA s) 9 p l e room_1 s m #[.ref sb] below meth c Q k' n' (WL E b μ' a σ' o d F' D') 2284 (lvL sb o d a b i) []) : G E (LA s) 9 p l e room_1 s m #[.ref sb] below meth c Q k n (WL E b μ a σ o d F D) 787 (lvL sb o d a b i) [] := by
  have h : RTc σ (μ 1) (μ 2) (μ 3 0) (μ 4) (μ 5 0) := hR
  have hlt := C.2.2.2.2.2.2
  obtain ⟨v, Tm, hX, hO, hI, hLG, hv⟩ := op_oko h
  obtain ⟨zb, hz, hA, hR2⟩ := op_setDirect (x := (xs (i + 1))) (u := (!decide (xs (i + 2) = 0))) h
  exact law_9 C hi hk hn (fun wr => k_X6_setDirect E l hlt wr b μ a σ (xs (i + 1)) (!decide (xs (i + 2) = 0)) zb hz) (fun wr => k_X7_setDirect E l wr b μ a _ (xs (i + 1)) (!decide (xs (i + 2) = 0)) ) th2 hA (fun F9 D9 => next _ _ F9 D9 _ _ (rt2 hR2) (Nat.le_refl _) (Nat.le_refl _))

set_option maxHeartbeats 4000000 in
set_option maxRecDepth 100000 in
theorem do_10 {E : kE} {p : Program} {l : Launch} {e : Env} {s : State} {m : MethodId} {below : List Frame} {meth : Method} {c : Code} {Q : State → Prop} {sb L : Nat} {xs : Nat → Int32} (C : LC E p l s m meth c sb L xs) {a b : Nat → Nat} {o d i k n : Nat} {σ μ : Sto} {F : Nat → Int64} {D : Nat → UInt64} (hi : i + 5 ≤ L) (hk : k + 4 ≤ 3161) (hn : n + 24 ≤ 122043) (hR : RTl σ μ) (next : ∀ (σ' μ' : Sto) (F' : Nat → Int64) (D' : Nat → UInt64) (k' n' : Nat), RTl σ' μ' → k' ≤ k + 4 → n' ≤ n + 24 → G E (LA s) 9 p l e room_1 s m #[.ref sb] below meth c Q k' n' (WL E b μ' a σ' o d F' D') 2284 (lvL sb o d a b i) []) : G E (LA s) 9 p l e room_1 s m #[.ref sb] below meth c Q k n (WL E b μ a σ o d F D) 878 (lvL sb o d a b i) [] := by
  have h : RTc σ (μ 1) (μ 2) (μ 3 0) (μ 4) (μ 5 0) := hR
  have hlt := C.2.2.2.2.2.2
  obtain ⟨v, Tm, hX, hO, hI, hLG, hv⟩ := op_oko h
  obtain ⟨zb, hz, hA, hR2⟩ := op_setRelay (x := (xs (i + 1))) (u := (!decide (xs (i + 2) = 0))) h
  exact law_10 C hi hk hn (fun wr => k_X6_setRelay E l hlt wr b μ a σ (xs (i + 1)) (!decide (xs (i + 2) = 0)) zb hz) (fun wr => k_X7_setRelay E l wr b μ a _ (xs (i + 1)) (!decide (xs (i + 2) = 0)) ) th2 hA (fun F9 D9 => next _ _ F9 D9 _ _ (rt2 hR2) (Nat.le_refl _) (Nat.le_refl _))

set_option maxHeartbeats 4000000 in
set_option maxRecDepth 100000 in
theorem do_11 {E : kE} {p : Program} {l : Launch} {e : Env} {s : State} {m : MethodId} {below : List Frame} {meth : Method} {c : Code} {Q : State → Prop} {sb L : Nat} {xs : Nat → Int32} (C : LC E p l s m meth c sb L xs) {a b : Nat → Nat} {o d i k n : Nat} {σ μ : Sto} {F : Nat → Int64} {D : Nat → UInt64} (hi : i + 5 ≤ L) (hk : k + 4 ≤ 3161) (hn : n + 24 ≤ 122043) (hR : RTl σ μ) (next : ∀ (σ' μ' : Sto) (F' : Nat → Int64) (D' : Nat → UInt64) (k' n' : Nat), RTl σ' μ' → k' ≤ k + 4 → n' ≤ n + 24 → G E (LA s) 9 p l e room_1 s m #[.ref sb] below meth c Q k' n' (WL E b μ' a σ' o d F' D') 2284 (lvL sb o d a b i) []) : G E (LA s) 9 p l e room_1 s m #[.ref sb] below meth c Q k n (WL E b μ a σ o d F D) 969 (lvL sb o d a b i) [] := by
  have h : RTc σ (μ 1) (μ 2) (μ 3 0) (μ 4) (μ 5 0) := hR
  have hlt := C.2.2.2.2.2.2
  obtain ⟨v, Tm, hX, hO, hI, hLG, hv⟩ := op_oko h
  obtain ⟨hA, hR2⟩ := op_discover (x := (xs (i + 1))) (g := (xs (i + 2))) (w := (xs (i + 3))) h
  exact law_11 C hi hk hn (fun wr => k_X6_discover E l hlt wr b μ a σ (xs (i + 1)) (xs (i + 2)) (xs (i + 3)) ) (fun wr => k_X7_discover E l wr b μ a _ (xs (i + 1)) (xs (i + 2)) (xs (i + 3)) v hX hLG) th4 hA (fun F9 D9 => next _ _ F9 D9 _ _ (rt4 hR2) (Nat.le_refl _) (Nat.le_refl _))

set_option maxHeartbeats 4000000 in
set_option maxRecDepth 100000 in
theorem do_12 {E : kE} {p : Program} {l : Launch} {e : Env} {s : State} {m : MethodId} {below : List Frame} {meth : Method} {c : Code} {Q : State → Prop} {sb L : Nat} {xs : Nat → Int32} (C : LC E p l s m meth c sb L xs) {a b : Nat → Nat} {o d i k n : Nat} {σ μ : Sto} {F : Nat → Int64} {D : Nat → UInt64} (hi : i + 5 ≤ L) (hk : k + 4 ≤ 3161) (hn : n + 24 ≤ 122043) (hR : RTl σ μ) (next : ∀ (σ' μ' : Sto) (F' : Nat → Int64) (D' : Nat → UInt64) (k' n' : Nat), RTl σ' μ' → k' ≤ k + 4 → n' ≤ n + 24 → G E (LA s) 9 p l e room_1 s m #[.ref sb] below meth c Q k' n' (WL E b μ' a σ' o d F' D') 2284 (lvL sb o d a b i) []) : G E (LA s) 9 p l e room_1 s m #[.ref sb] below meth c Q k n (WL E b μ a σ o d F D) 1049 (lvL sb o d a b i) [] := by
  have h : RTc σ (μ 1) (μ 2) (μ 3 0) (μ 4) (μ 5 0) := hR
  have hlt := C.2.2.2.2.2.2
  obtain ⟨v, Tm, hX, hO, hI, hLG, hv⟩ := op_oko h
  obtain ⟨hA, hR2⟩ := op_accept (x := (xs (i + 1))) h
  exact law_12 C hi hk hn (fun wr => k_X6_accept E l hlt wr b μ a σ (xs (i + 1)) ) (fun wr => k_X7_accept E l wr b μ a _ (xs (i + 1)) v hX hO hLG) th4 hA (fun F9 D9 => next _ _ F9 D9 _ _ (rt4 hR2) (Nat.le_refl _) (Nat.le_refl _))

set_option maxHeartbeats 4000000 in
set_option maxRecDepth 100000 in
theorem do_13 {E : kE} {p : Program} {l : Launch} {e : Env} {s : State} {m : MethodId} {below : List Frame} {meth : Method} {c : Code} {Q : State → Prop} {sb L : Nat} {xs : Nat → Int32} (C : LC E p l s m meth c sb L xs) {a b : Nat → Nat} {o d i k n : Nat} {σ μ : Sto} {F : Nat → Int64} {D : Nat → UInt64} (hi : i + 5 ≤ L) (hk : k + 4 ≤ 3161) (hn : n + 24 ≤ 122043) (hR : RTl σ μ) (next : ∀ (σ' μ' : Sto) (F' : Nat → Int64) (D' : Nat → UInt64) (k' n' : Nat), RTl σ' μ' → k' ≤ k + 4 → n' ≤ n + 24 → G E (LA s) 9 p l e room_1 s m #[.ref sb] below meth c Q k' n' (WL E b μ' a σ' o d F' D') 2284 (lvL sb o d a b i) []) : G E (LA s) 9 p l e room_1 s m #[.ref sb] below meth c Q k n (WL E b μ a σ o d F D) 1105 (lvL sb o d a b i) [] := by
  have h : RTc σ (μ 1) (μ 2) (μ 3 0) (μ 4) (μ 5 0) := hR
  have hlt := C.2.2.2.2.2.2
  obtain ⟨v, Tm, hX, hO, hI, hLG, hv⟩ := op_oko h
  obtain ⟨hA, hR2⟩ := op_release (x := (xs (i + 1))) h
  exact law_13 C hi hk hn (fun wr => k_X6_release E l hlt wr b μ a σ (xs (i + 1)) ) (fun wr => k_X7_release E l wr b μ a _ (xs (i + 1)) v hX hLG) th4 hA (fun F9 D9 => next _ _ F9 D9 _ _ (rt4 hR2) (Nat.le_refl _) (Nat.le_refl _))

set_option maxHeartbeats 4000000 in
set_option maxRecDepth 100000 in
theorem do_14 {E : kE} {p : Program} {l : Launch} {e : Env} {s : State} {m : MethodId} {below : List Frame} {meth : Method} {c : Code} {Q : State → Prop} {sb L : Nat} {xs : Nat → Int32} (C : LC E p l s m meth c sb L xs) {a b : Nat → Nat} {o d i k n : Nat} {σ μ : Sto} {F : Nat → Int64} {D : Nat → UInt64} (hi : i + 5 ≤ L) (hk : k + 4 ≤ 3161) (hn : n + 24 ≤ 122043) (hR : RTl σ μ) (next : ∀ (σ' μ' : Sto) (F' : Nat → Int64) (D' : Nat → UInt64) (k' n' : Nat), RTl σ' μ' → k' ≤ k + 4 → n' ≤ n + 24 → G E (LA s) 9 p l e room_1 s m #[.ref sb] below meth c Q k' n' (WL E b μ' a σ' o d F' D') 2284 (lvL sb o d a b i) []) : G E (LA s) 9 p l e room_1 s m #[.ref sb] below meth c Q k n (WL E b μ a σ o d F D) 1161 (lvL sb o d a b i) [] := by
  have h : RTc σ (μ 1) (μ 2) (μ 3 0) (μ 4) (μ 5 0) := hR
  have hlt := C.2.2.2.2.2.2
  obtain ⟨v, Tm, hX, hO, hI, hLG, hv⟩ := op_oko h
  obtain ⟨hA, hR2⟩ := op_decline (x := (xs (i + 1))) h
  exact law_14 C hi hk hn (fun wr => k_X6_decline E l hlt wr b μ a σ (xs (i + 1)) ) (fun wr => k_X7_decline E l wr b μ a _ (xs (i + 1)) v hX hLG) th4 hA (fun F9 D9 => next _ _ F9 D9 _ _ (rt4 hR2) (Nat.le_refl _) (Nat.le_refl _))

set_option maxHeartbeats 4000000 in
set_option maxRecDepth 100000 in
theorem do_15 {E : kE} {p : Program} {l : Launch} {e : Env} {s : State} {m : MethodId} {below : List Frame} {meth : Method} {c : Code} {Q : State → Prop} {sb L : Nat} {xs : Nat → Int32} (C : LC E p l s m meth c sb L xs) {a b : Nat → Nat} {o d i k n : Nat} {σ μ : Sto} {F : Nat → Int64} {D : Nat → UInt64} (hi : i + 5 ≤ L) (hk : k + 4 ≤ 3161) (hn : n + 24 ≤ 122043) (hR : RTl σ μ) (next : ∀ (σ' μ' : Sto) (F' : Nat → Int64) (D' : Nat → UInt64) (k' n' : Nat), RTl σ' μ' → k' ≤ k + 4 → n' ≤ n + 24 → G E (LA s) 9 p l e room_1 s m #[.ref sb] below meth c Q k' n' (WL E b μ' a σ' o d F' D') 2284 (lvL sb o d a b i) []) : G E (LA s) 9 p l e room_1 s m #[.ref sb] below meth c Q k n (WL E b μ a σ o d F D) 1217 (lvL sb o d a b i) [] := by
  have h : RTc σ (μ 1) (μ 2) (μ 3 0) (μ 4) (μ 5 0) := hR
  have hlt := C.2.2.2.2.2.2
  obtain ⟨v, Tm, hX, hO, hI, hLG, hv⟩ := op_oko h
  obtain ⟨hA, hR2⟩ := op_renew (x := (xs (i + 1))) h
  exact law_15 C hi hk hn (fun wr => k_X6_renew E l hlt wr b μ a σ (xs (i + 1)) ) (fun wr => k_X7_renew E l wr b μ a _ (xs (i + 1)) v hX hO hLG) th4 hA (fun F9 D9 => next _ _ F9 D9 _ _ (rt4 hR2) (Nat.le_refl _) (Nat.le_refl _))

set_option maxHeartbeats 4000000 in
set_option maxRecDepth 100000 in
theorem do_16 {E : kE} {p : Program} {l : Launch} {e : Env} {s : State} {m : MethodId} {below : List Frame} {meth : Method} {c : Code} {Q : State → Prop} {sb L : Nat} {xs : Nat → Int32} (C : LC E p l s m meth c sb L xs) {a b : Nat → Nat} {o d i k n : Nat} {σ μ : Sto} {F : Nat → Int64} {D : Nat → UInt64} (hi : i + 5 ≤ L) (hk : k + 4 ≤ 3161) (hn : n + 24 ≤ 122043) (hR : RTl σ μ) (next : ∀ (σ' μ' : Sto) (F' : Nat → Int64) (D' : Nat → UInt64) (k' n' : Nat), RTl σ' μ' → k' ≤ k + 4 → n' ≤ n + 24 → G E (LA s) 9 p l e room_1 s m #[.ref sb] below meth c Q k' n' (WL E b μ' a σ' o d F' D') 2284 (lvL sb o d a b i) []) : G E (LA s) 9 p l e room_1 s m #[.ref sb] below meth c Q k n (WL E b μ a σ o d F D) 1280 (lvL sb o d a b i) [] := by
  have h : RTc σ (μ 1) (μ 2) (μ 3 0) (μ 4) (μ 5 0) := hR
  have hlt := C.2.2.2.2.2.2
  obtain ⟨v, Tm, hX, hO, hI, hLG, hv⟩ := op_oko h
  obtain ⟨hY, hA, hR2⟩ := op_advance (x := (xs (i + 1))) h
  exact law_16 C hi hk hn (fun wr => k_X6_advance E l hlt wr b μ a σ (xs (i + 1)) ) (fun wr => k_X7_advanceB E l wr b μ a _ (xs (i + 1)) v (fun N => ∃ T, IV N v T (T + 1)) (fun q1 q2 => by obtain ⟨Y, hY1, e1⟩ := hY q1 q2; rw [e1]; exact AG_of hY1) ⟨Tm, hI⟩ hLG) th4 hA (fun F9 D9 => next _ _ F9 D9 _ _ (rt4 hR2) (Nat.le_refl _) (Nat.le_refl _))

set_option maxHeartbeats 4000000 in
set_option maxRecDepth 100000 in
theorem do_17 {E : kE} {p : Program} {l : Launch} {e : Env} {s : State} {m : MethodId} {below : List Frame} {meth : Method} {c : Code} {Q : State → Prop} {sb L : Nat} {xs : Nat → Int32} (C : LC E p l s m meth c sb L xs) {a b : Nat → Nat} {o d i k n : Nat} {σ μ : Sto} {F : Nat → Int64} {D : Nat → UInt64} (hi : i + 5 ≤ L) (hk : k + 4 ≤ 3161) (hn : n + 24 ≤ 122043) (hR : RTl σ μ) (next : ∀ (σ' μ' : Sto) (F' : Nat → Int64) (D' : Nat → UInt64) (k' n' : Nat), RTl σ' μ' → k' ≤ k + 4 → n' ≤ n + 24 → G E (LA s) 9 p l e room_1 s m #[.ref sb] below meth c Q k' n' (WL E b μ' a σ' o d F' D') 2284 (lvL sb o d a b i) []) : G E (LA s) 9 p l e room_1 s m #[.ref sb] below meth c Q k n (WL E b μ a σ o d F D) 1336 (lvL sb o d a b i) [] := by
  have h : RTc σ (μ 1) (μ 2) (μ 3 0) (μ 4) (μ 5 0) := hR
  have hlt := C.2.2.2.2.2.2
  obtain ⟨v, Tm, hX, hO, hI, hLG, hv⟩ := op_oko h
  obtain ⟨hA, hR2⟩ := op_advanceToEvent h
  exact law_17 C hi hk hn (fun wr => k_X6_advanceToEvent E l hlt wr b μ a σ  ) (fun wr => k_X7_advanceToEvent E l wr b μ a _  v (fun N => ∃ T, IV N v T (T + 1)) (show AG _ (nI 100000) v from AG_of (Nat.le_refl _)) ⟨Tm, hI⟩ hLG) th4 hA (fun F9 D9 => next _ _ F9 D9 _ _ (rt4 hR2) (Nat.le_refl _) (Nat.le_refl _))

set_option maxHeartbeats 4000000 in
set_option maxRecDepth 100000 in
theorem do_18 {E : kE} {p : Program} {l : Launch} {e : Env} {s : State} {m : MethodId} {below : List Frame} {meth : Method} {c : Code} {Q : State → Prop} {sb L : Nat} {xs : Nat → Int32} (C : LC E p l s m meth c sb L xs) {a b : Nat → Nat} {o d i k n : Nat} {σ μ : Sto} {F : Nat → Int64} {D : Nat → UInt64} (hi : i + 5 ≤ L) (hk : k + 4 ≤ 3161) (hn : n + 24 ≤ 122043) (hR : RTl σ μ) (next : ∀ (σ' μ' : Sto) (F' : Nat → Int64) (D' : Nat → UInt64) (k' n' : Nat), RTl σ' μ' → k' ≤ k + 4 → n' ≤ n + 24 → G E (LA s) 9 p l e room_1 s m #[.ref sb] below meth c Q k' n' (WL E b μ' a σ' o d F' D') 2284 (lvL sb o d a b i) []) : G E (LA s) 9 p l e room_1 s m #[.ref sb] below meth c Q k n (WL E b μ a σ o d F D) 1380 (lvL sb o d a b i) [] := by
  have h : RTc σ (μ 1) (μ 2) (μ 3 0) (μ 4) (μ 5 0) := hR
  have hlt := C.2.2.2.2.2.2
  obtain ⟨v, Tm, hX, hO, hI, hLG, hv⟩ := op_oko h
  exact law_18 C hi (by omega) (by omega) (fun wr => k_X6_time E l wr b μ a σ ) (fun wr => k_X7_time E l wr b μ a _) (op_time h) (next _ _ _ _ _ _ (rt1 hR) (by omega) (by omega))

set_option maxHeartbeats 4000000 in
set_option maxRecDepth 100000 in
theorem do_19 {E : kE} {p : Program} {l : Launch} {e : Env} {s : State} {m : MethodId} {below : List Frame} {meth : Method} {c : Code} {Q : State → Prop} {sb L : Nat} {xs : Nat → Int32} (C : LC E p l s m meth c sb L xs) {a b : Nat → Nat} {o d i k n : Nat} {σ μ : Sto} {F : Nat → Int64} {D : Nat → UInt64} (hi : i + 5 ≤ L) (hk : k + 4 ≤ 3161) (hn : n + 24 ≤ 122043) (hR : RTl σ μ) (next : ∀ (σ' μ' : Sto) (F' : Nat → Int64) (D' : Nat → UInt64) (k' n' : Nat), RTl σ' μ' → k' ≤ k + 4 → n' ≤ n + 24 → G E (LA s) 9 p l e room_1 s m #[.ref sb] below meth c Q k' n' (WL E b μ' a σ' o d F' D') 2284 (lvL sb o d a b i) []) : G E (LA s) 9 p l e room_1 s m #[.ref sb] below meth c Q k n (WL E b μ a σ o d F D) 1393 (lvL sb o d a b i) [] := by
  have h : RTc σ (μ 1) (μ 2) (μ 3 0) (μ 4) (μ 5 0) := hR
  have hlt := C.2.2.2.2.2.2
  obtain ⟨v, Tm, hX, hO, hI, hLG, hv⟩ := op_oko h
  have hA := op_clientState (x := (xs (i + 1))) h
  exact law_19 C hi hk hn (fun wr => k_X6_clientState E l hlt wr b μ a σ (xs (i + 1)) ) (fun wr => k_X7_clientState E l wr b μ a _ (xs (i + 1)) ) th1 hA (fun F9 D9 => next _ _ F9 D9 _ _ (rt1 hR) (Nat.le_refl _) (Nat.le_refl _))

set_option maxHeartbeats 4000000 in
set_option maxRecDepth 100000 in
theorem do_20 {E : kE} {p : Program} {l : Launch} {e : Env} {s : State} {m : MethodId} {below : List Frame} {meth : Method} {c : Code} {Q : State → Prop} {sb L : Nat} {xs : Nat → Int32} (C : LC E p l s m meth c sb L xs) {a b : Nat → Nat} {o d i k n : Nat} {σ μ : Sto} {F : Nat → Int64} {D : Nat → UInt64} (hi : i + 5 ≤ L) (hk : k + 4 ≤ 3161) (hn : n + 24 ≤ 122043) (hR : RTl σ μ) (next : ∀ (σ' μ' : Sto) (F' : Nat → Int64) (D' : Nat → UInt64) (k' n' : Nat), RTl σ' μ' → k' ≤ k + 4 → n' ≤ n + 24 → G E (LA s) 9 p l e room_1 s m #[.ref sb] below meth c Q k' n' (WL E b μ' a σ' o d F' D') 2284 (lvL sb o d a b i) []) : G E (LA s) 9 p l e room_1 s m #[.ref sb] below meth c Q k n (WL E b μ a σ o d F D) 1449 (lvL sb o d a b i) [] := by
  have h : RTc σ (μ 1) (μ 2) (μ 3 0) (μ 4) (μ 5 0) := hR
  have hlt := C.2.2.2.2.2.2
  obtain ⟨v, Tm, hX, hO, hI, hLG, hv⟩ := op_oko h
  have hA := op_addressOf (x := (xs (i + 1))) h
  exact law_20 C hi hk hn (fun wr => k_X6_addressOf E l hlt wr b μ a σ (xs (i + 1)) ) (fun wr => k_X7_addressOf E l wr b μ a _ (xs (i + 1)) ) th1 hA (fun F9 D9 => next _ _ F9 D9 _ _ (rt1 hR) (Nat.le_refl _) (Nat.le_refl _))

set_option maxHeartbeats 4000000 in
set_option maxRecDepth 100000 in
theorem do_21 {E : kE} {p : Program} {l : Launch} {e : Env} {s : State} {m : MethodId} {below : List Frame} {meth : Method} {c : Code} {Q : State → Prop} {sb L : Nat} {xs : Nat → Int32} (C : LC E p l s m meth c sb L xs) {a b : Nat → Nat} {o d i k n : Nat} {σ μ : Sto} {F : Nat → Int64} {D : Nat → UInt64} (hi : i + 5 ≤ L) (hk : k + 4 ≤ 3161) (hn : n + 24 ≤ 122043) (hR : RTl σ μ) (next : ∀ (σ' μ' : Sto) (F' : Nat → Int64) (D' : Nat → UInt64) (k' n' : Nat), RTl σ' μ' → k' ≤ k + 4 → n' ≤ n + 24 → G E (LA s) 9 p l e room_1 s m #[.ref sb] below meth c Q k' n' (WL E b μ' a σ' o d F' D') 2284 (lvL sb o d a b i) []) : G E (LA s) 9 p l e room_1 s m #[.ref sb] below meth c Q k n (WL E b μ a σ o d F D) 1505 (lvL sb o d a b i) [] := by
  have h : RTc σ (μ 1) (μ 2) (μ 3 0) (μ 4) (μ 5 0) := hR
  have hlt := C.2.2.2.2.2.2
  obtain ⟨v, Tm, hX, hO, hI, hLG, hv⟩ := op_oko h
  have hA := op_remembered (x := (xs (i + 1))) h
  exact law_21 C hi hk hn (fun wr => k_X6_remembered E l hlt wr b μ a σ (xs (i + 1)) ) (fun wr => k_X7_remembered E l wr b μ a _ (xs (i + 1)) ) th1 hA (fun F9 D9 => next _ _ F9 D9 _ _ (rt1 hR) (Nat.le_refl _) (Nat.le_refl _))

set_option maxHeartbeats 4000000 in
set_option maxRecDepth 100000 in
theorem do_22 {E : kE} {p : Program} {l : Launch} {e : Env} {s : State} {m : MethodId} {below : List Frame} {meth : Method} {c : Code} {Q : State → Prop} {sb L : Nat} {xs : Nat → Int32} (C : LC E p l s m meth c sb L xs) {a b : Nat → Nat} {o d i k n : Nat} {σ μ : Sto} {F : Nat → Int64} {D : Nat → UInt64} (hi : i + 5 ≤ L) (hk : k + 4 ≤ 3161) (hn : n + 24 ≤ 122043) (hR : RTl σ μ) (next : ∀ (σ' μ' : Sto) (F' : Nat → Int64) (D' : Nat → UInt64) (k' n' : Nat), RTl σ' μ' → k' ≤ k + 4 → n' ≤ n + 24 → G E (LA s) 9 p l e room_1 s m #[.ref sb] below meth c Q k' n' (WL E b μ' a σ' o d F' D') 2284 (lvL sb o d a b i) []) : G E (LA s) 9 p l e room_1 s m #[.ref sb] below meth c Q k n (WL E b μ a σ o d F D) 1561 (lvL sb o d a b i) [] := by
  have h : RTc σ (μ 1) (μ 2) (μ 3 0) (μ 4) (μ 5 0) := hR
  have hlt := C.2.2.2.2.2.2
  obtain ⟨v, Tm, hX, hO, hI, hLG, hv⟩ := op_oko h
  have hA := op_timer (x := (xs (i + 1))) (q := (xs (i + 2))) h
  exact law_22 C hi hk hn (fun wr => k_X6_timer E l hlt wr b μ a σ (xs (i + 1)) (xs (i + 2)) ) (fun wr => k_X7_timer E l wr b μ a _ (xs (i + 1)) (xs (i + 2)) v hX) th1 hA (fun F9 D9 => next _ _ F9 D9 _ _ (rt1 hR) (Nat.le_refl _) (Nat.le_refl _))

set_option maxHeartbeats 4000000 in
set_option maxRecDepth 100000 in
theorem do_23 {E : kE} {p : Program} {l : Launch} {e : Env} {s : State} {m : MethodId} {below : List Frame} {meth : Method} {c : Code} {Q : State → Prop} {sb L : Nat} {xs : Nat → Int32} (C : LC E p l s m meth c sb L xs) {a b : Nat → Nat} {o d i k n : Nat} {σ μ : Sto} {F : Nat → Int64} {D : Nat → UInt64} (hi : i + 5 ≤ L) (hk : k + 4 ≤ 3161) (hn : n + 24 ≤ 122043) (hR : RTl σ μ) (next : ∀ (σ' μ' : Sto) (F' : Nat → Int64) (D' : Nat → UInt64) (k' n' : Nat), RTl σ' μ' → k' ≤ k + 4 → n' ≤ n + 24 → G E (LA s) 9 p l e room_1 s m #[.ref sb] below meth c Q k' n' (WL E b μ' a σ' o d F' D') 2284 (lvL sb o d a b i) []) : G E (LA s) 9 p l e room_1 s m #[.ref sb] below meth c Q k n (WL E b μ a σ o d F D) 1629 (lvL sb o d a b i) [] := by
  have h : RTc σ (μ 1) (μ 2) (μ 3 0) (μ 4) (μ 5 0) := hR
  have hlt := C.2.2.2.2.2.2
  obtain ⟨v, Tm, hX, hO, hI, hLG, hv⟩ := op_oko h
  have hA := op_addressState (x := (xs (i + 1))) h
  exact law_23 C hi hk hn (fun wr => k_X6_addressState E l hlt wr b μ a σ (xs (i + 1)) ) (fun wr => k_X7_addressState E l wr b μ a _ (xs (i + 1)) v hX) th1 hA (fun F9 D9 => next _ _ F9 D9 _ _ (rt1 hR) (Nat.le_refl _) (Nat.le_refl _))

set_option maxHeartbeats 4000000 in
set_option maxRecDepth 100000 in
theorem do_24 {E : kE} {p : Program} {l : Launch} {e : Env} {s : State} {m : MethodId} {below : List Frame} {meth : Method} {c : Code} {Q : State → Prop} {sb L : Nat} {xs : Nat → Int32} (C : LC E p l s m meth c sb L xs) {a b : Nat → Nat} {o d i k n : Nat} {σ μ : Sto} {F : Nat → Int64} {D : Nat → UInt64} (hi : i + 5 ≤ L) (hk : k + 4 ≤ 3161) (hn : n + 24 ≤ 122043) (hR : RTl σ μ) (next : ∀ (σ' μ' : Sto) (F' : Nat → Int64) (D' : Nat → UInt64) (k' n' : Nat), RTl σ' μ' → k' ≤ k + 4 → n' ≤ n + 24 → G E (LA s) 9 p l e room_1 s m #[.ref sb] below meth c Q k' n' (WL E b μ' a σ' o d F' D') 2284 (lvL sb o d a b i) []) : G E (LA s) 9 p l e room_1 s m #[.ref sb] below meth c Q k n (WL E b μ a σ o d F D) 1685 (lvL sb o d a b i) [] := by
  have h : RTc σ (μ 1) (μ 2) (μ 3 0) (μ 4) (μ 5 0) := hR
  have hlt := C.2.2.2.2.2.2
  obtain ⟨v, Tm, hX, hO, hI, hLG, hv⟩ := op_oko h
  have hA := op_holder (x := (xs (i + 1))) h
  exact law_24 C hi hk hn (fun wr => k_X6_holder E l hlt wr b μ a σ (xs (i + 1)) ) (fun wr => k_X7_holder E l wr b μ a _ (xs (i + 1)) v hX) th1 hA (fun F9 D9 => next _ _ F9 D9 _ _ (rt1 hR) (Nat.le_refl _) (Nat.le_refl _))

set_option maxHeartbeats 4000000 in
set_option maxRecDepth 100000 in
theorem do_25 {E : kE} {p : Program} {l : Launch} {e : Env} {s : State} {m : MethodId} {below : List Frame} {meth : Method} {c : Code} {Q : State → Prop} {sb L : Nat} {xs : Nat → Int32} (C : LC E p l s m meth c sb L xs) {a b : Nat → Nat} {o d i k n : Nat} {σ μ : Sto} {F : Nat → Int64} {D : Nat → UInt64} (hi : i + 5 ≤ L) (hk : k + 4 ≤ 3161) (hn : n + 24 ≤ 122043) (hR : RTl σ μ) (next : ∀ (σ' μ' : Sto) (F' : Nat → Int64) (D' : Nat → UInt64) (k' n' : Nat), RTl σ' μ' → k' ≤ k + 4 → n' ≤ n + 24 → G E (LA s) 9 p l e room_1 s m #[.ref sb] below meth c Q k' n' (WL E b μ' a σ' o d F' D') 2284 (lvL sb o d a b i) []) : G E (LA s) 9 p l e room_1 s m #[.ref sb] below meth c Q k n (WL E b μ a σ o d F D) 1741 (lvL sb o d a b i) [] := by
  have h : RTc σ (μ 1) (μ 2) (μ 3 0) (μ 4) (μ 5 0) := hR
  have hlt := C.2.2.2.2.2.2
  obtain ⟨v, Tm, hX, hO, hI, hLG, hv⟩ := op_oko h
  have hA := op_until (x := (xs (i + 1))) h
  exact law_25 C hi hk hn (fun wr => k_X6_until E l hlt wr b μ a σ (xs (i + 1)) ) (fun wr => k_X7_until E l wr b μ a _ (xs (i + 1)) v hX) th1 hA (fun F9 D9 => next _ _ F9 D9 _ _ (rt1 hR) (Nat.le_refl _) (Nat.le_refl _))

set_option maxHeartbeats 4000000 in
set_option maxRecDepth 100000 in
theorem do_26 {E : kE} {p : Program} {l : Launch} {e : Env} {s : State} {m : MethodId} {below : List Frame} {meth : Method} {c : Code} {Q : State → Prop} {sb L : Nat} {xs : Nat → Int32} (C : LC E p l s m meth c sb L xs) {a b : Nat → Nat} {o d i k n : Nat} {σ μ : Sto} {F : Nat → Int64} {D : Nat → UInt64} (hi : i + 5 ≤ L) (hk : k + 4 ≤ 3161) (hn : n + 24 ≤ 122043) (hR : RTl σ μ) (next : ∀ (σ' μ' : Sto) (F' : Nat → Int64) (D' : Nat → UInt64) (k' n' : Nat), RTl σ' μ' → k' ≤ k + 4 → n' ≤ n + 24 → G E (LA s) 9 p l e room_1 s m #[.ref sb] below meth c Q k' n' (WL E b μ' a σ' o d F' D') 2284 (lvL sb o d a b i) []) : G E (LA s) 9 p l e room_1 s m #[.ref sb] below meth c Q k n (WL E b μ a σ o d F D) 1797 (lvL sb o d a b i) [] := by
  have h : RTc σ (μ 1) (μ 2) (μ 3 0) (μ 4) (μ 5 0) := hR
  have hlt := C.2.2.2.2.2.2
  obtain ⟨v, Tm, hX, hO, hI, hLG, hv⟩ := op_oko h
  have hA := op_freeSince (x := (xs (i + 1))) h
  exact law_26 C hi hk hn (fun wr => k_X6_freeSince E l hlt wr b μ a σ (xs (i + 1)) ) (fun wr => k_X7_freeSince E l wr b μ a _ (xs (i + 1)) v hX) th1 hA (fun F9 D9 => next _ _ F9 D9 _ _ (rt1 hR) (Nat.le_refl _) (Nat.le_refl _))

set_option maxHeartbeats 4000000 in
set_option maxRecDepth 100000 in
theorem do_27 {E : kE} {p : Program} {l : Launch} {e : Env} {s : State} {m : MethodId} {below : List Frame} {meth : Method} {c : Code} {Q : State → Prop} {sb L : Nat} {xs : Nat → Int32} (C : LC E p l s m meth c sb L xs) {a b : Nat → Nat} {o d i k n : Nat} {σ μ : Sto} {F : Nat → Int64} {D : Nat → UInt64} (hi : i + 5 ≤ L) (hk : k + 4 ≤ 3161) (hn : n + 24 ≤ 122043) (hR : RTl σ μ) (next : ∀ (σ' μ' : Sto) (F' : Nat → Int64) (D' : Nat → UInt64) (k' n' : Nat), RTl σ' μ' → k' ≤ k + 4 → n' ≤ n + 24 → G E (LA s) 9 p l e room_1 s m #[.ref sb] below meth c Q k' n' (WL E b μ' a σ' o d F' D') 2284 (lvL sb o d a b i) []) : G E (LA s) 9 p l e room_1 s m #[.ref sb] below meth c Q k n (WL E b μ a σ o d F D) 1853 (lvL sb o d a b i) [] := by
  have h : RTc σ (μ 1) (μ 2) (μ 3 0) (μ 4) (μ 5 0) := hR
  have hlt := C.2.2.2.2.2.2
  obtain ⟨v, Tm, hX, hO, hI, hLG, hv⟩ := op_oko h
  have hA := op_nextCandidate (x := (xs (i + 1))) (g := (xs (i + 2))) h
  exact law_27 C hi hk hn (fun wr => k_X6_nextCandidate E l hlt wr b μ a σ (xs (i + 1)) (xs (i + 2)) ) (fun wr => k_X7_nextCandidate E l wr b μ a _ (xs (i + 1)) (xs (i + 2)) v hX) th1 hA (fun F9 D9 => next _ _ F9 D9 _ _ (rt1 hR) (Nat.le_refl _) (Nat.le_refl _))

set_option maxHeartbeats 4000000 in
set_option maxRecDepth 100000 in
theorem do_28 {E : kE} {p : Program} {l : Launch} {e : Env} {s : State} {m : MethodId} {below : List Frame} {meth : Method} {c : Code} {Q : State → Prop} {sb L : Nat} {xs : Nat → Int32} (C : LC E p l s m meth c sb L xs) {a b : Nat → Nat} {o d i k n : Nat} {σ μ : Sto} {F : Nat → Int64} {D : Nat → UInt64} (hi : i + 5 ≤ L) (hk : k + 4 ≤ 3161) (hn : n + 24 ≤ 122043) (hR : RTl σ μ) (next : ∀ (σ' μ' : Sto) (F' : Nat → Int64) (D' : Nat → UInt64) (k' n' : Nat), RTl σ' μ' → k' ≤ k + 4 → n' ≤ n + 24 → G E (LA s) 9 p l e room_1 s m #[.ref sb] below meth c Q k' n' (WL E b μ' a σ' o d F' D') 2284 (lvL sb o d a b i) []) : G E (LA s) 9 p l e room_1 s m #[.ref sb] below meth c Q k n (WL E b μ a σ o d F D) 1921 (lvL sb o d a b i) [] := by
  have h : RTc σ (μ 1) (μ 2) (μ 3 0) (μ 4) (μ 5 0) := hR
  have hlt := C.2.2.2.2.2.2
  obtain ⟨v, Tm, hX, hO, hI, hLG, hv⟩ := op_oko h
  have hA := op_countState (g := (xs (i + 1))) (y := (xs (i + 2))) h
  exact law_28 C hi hk hn (fun wr => k_X6_countState E l hlt wr b μ a σ (xs (i + 1)) (xs (i + 2)) ) (fun wr => k_X7_countState E l wr b μ a _ (xs (i + 1)) (xs (i + 2)) v hX) th1 hA (fun F9 D9 => next _ _ F9 D9 _ _ (rt1 hR) (Nat.le_refl _) (Nat.le_refl _))

set_option maxHeartbeats 4000000 in
set_option maxRecDepth 100000 in
theorem do_29 {E : kE} {p : Program} {l : Launch} {e : Env} {s : State} {m : MethodId} {below : List Frame} {meth : Method} {c : Code} {Q : State → Prop} {sb L : Nat} {xs : Nat → Int32} (C : LC E p l s m meth c sb L xs) {a b : Nat → Nat} {o d i k n : Nat} {σ μ : Sto} {F : Nat → Int64} {D : Nat → UInt64} (hi : i + 5 ≤ L) (hk : k + 4 ≤ 3161) (hn : n + 24 ≤ 122043) (hR : RTl σ μ) (next : ∀ (σ' μ' : Sto) (F' : Nat → Int64) (D' : Nat → UInt64) (k' n' : Nat), RTl σ' μ' → k' ≤ k + 4 → n' ≤ n + 24 → G E (LA s) 9 p l e room_1 s m #[.ref sb] below meth c Q k' n' (WL E b μ' a σ' o d F' D') 2284 (lvL sb o d a b i) []) : G E (LA s) 9 p l e room_1 s m #[.ref sb] below meth c Q k n (WL E b μ a σ o d F D) 1989 (lvL sb o d a b i) [] := by
  have h : RTc σ (μ 1) (μ 2) (μ 3 0) (μ 4) (μ 5 0) := hR
  have hlt := C.2.2.2.2.2.2
  obtain ⟨v, Tm, hX, hO, hI, hLG, hv⟩ := op_oko h
  exact law_29 C hi (by omega) (by omega) (fun wr => k_X6_bound E l wr b μ a σ ) (fun wr => k_X7_bound E l wr b μ a _) (op_bound h) (next _ _ _ _ _ _ (rt1 hR) (by omega) (by omega))

set_option maxHeartbeats 4000000 in
set_option maxRecDepth 100000 in
theorem do_30 {E : kE} {p : Program} {l : Launch} {e : Env} {s : State} {m : MethodId} {below : List Frame} {meth : Method} {c : Code} {Q : State → Prop} {sb L : Nat} {xs : Nat → Int32} (C : LC E p l s m meth c sb L xs) {a b : Nat → Nat} {o d i k n : Nat} {σ μ : Sto} {F : Nat → Int64} {D : Nat → UInt64} (hi : i + 5 ≤ L) (hk : k + 4 ≤ 3161) (hn : n + 24 ≤ 122043) (hR : RTl σ μ) (next : ∀ (σ' μ' : Sto) (F' : Nat → Int64) (D' : Nat → UInt64) (k' n' : Nat), RTl σ' μ' → k' ≤ k + 4 → n' ≤ n + 24 → G E (LA s) 9 p l e room_1 s m #[.ref sb] below meth c Q k' n' (WL E b μ' a σ' o d F' D') 2284 (lvL sb o d a b i) []) : G E (LA s) 9 p l e room_1 s m #[.ref sb] below meth c Q k n (WL E b μ a σ o d F D) 2002 (lvL sb o d a b i) [] := by
  have h : RTc σ (μ 1) (μ 2) (μ 3 0) (μ 4) (μ 5 0) := hR
  have hlt := C.2.2.2.2.2.2
  obtain ⟨v, Tm, hX, hO, hI, hLG, hv⟩ := op_oko h
  exact law_30 C hi (by omega) (by omega) (fun wr => k_X6_conflicts E l wr b μ a σ ) (fun wr => k_X7_conflicts E l wr b μ a _) (op_conflicts h) (next _ _ _ _ _ _ (rt1 hR) (by omega) (by omega))

set_option maxHeartbeats 4000000 in
set_option maxRecDepth 100000 in
theorem do_31 {E : kE} {p : Program} {l : Launch} {e : Env} {s : State} {m : MethodId} {below : List Frame} {meth : Method} {c : Code} {Q : State → Prop} {sb L : Nat} {xs : Nat → Int32} (C : LC E p l s m meth c sb L xs) {a b : Nat → Nat} {o d i k n : Nat} {σ μ : Sto} {F : Nat → Int64} {D : Nat → UInt64} (hi : i + 5 ≤ L) (hk : k + 4 ≤ 3161) (hn : n + 24 ≤ 122043) (hR : RTl σ μ) (next : ∀ (σ' μ' : Sto) (F' : Nat → Int64) (D' : Nat → UInt64) (k' n' : Nat), RTl σ' μ' → k' ≤ k + 4 → n' ≤ n + 24 → G E (LA s) 9 p l e room_1 s m #[.ref sb] below meth c Q k' n' (WL E b μ' a σ' o d F' D') 2284 (lvL sb o d a b i) []) : G E (LA s) 9 p l e room_1 s m #[.ref sb] below meth c Q k n (WL E b μ a σ o d F D) 2015 (lvL sb o d a b i) [] := by
  have h : RTc σ (μ 1) (μ 2) (μ 3 0) (μ 4) (μ 5 0) := hR
  have hlt := C.2.2.2.2.2.2
  obtain ⟨v, Tm, hX, hO, hI, hLG, hv⟩ := op_oko h
  exact law_31 C hi (by omega) (by omega) (fun wr => k_X6_logSize E l wr b μ a σ ) (fun wr => k_X7_logSize E l wr b μ a _) (op_logSize h) (next _ _ _ _ _ _ (rt1 hR) (by omega) (by omega))

set_option maxHeartbeats 4000000 in
set_option maxRecDepth 100000 in
theorem do_32 {E : kE} {p : Program} {l : Launch} {e : Env} {s : State} {m : MethodId} {below : List Frame} {meth : Method} {c : Code} {Q : State → Prop} {sb L : Nat} {xs : Nat → Int32} (C : LC E p l s m meth c sb L xs) {a b : Nat → Nat} {o d i k n : Nat} {σ μ : Sto} {F : Nat → Int64} {D : Nat → UInt64} (hi : i + 5 ≤ L) (hk : k + 4 ≤ 3161) (hn : n + 24 ≤ 122043) (hR : RTl σ μ) (next : ∀ (σ' μ' : Sto) (F' : Nat → Int64) (D' : Nat → UInt64) (k' n' : Nat), RTl σ' μ' → k' ≤ k + 4 → n' ≤ n + 24 → G E (LA s) 9 p l e room_1 s m #[.ref sb] below meth c Q k' n' (WL E b μ' a σ' o d F' D') 2284 (lvL sb o d a b i) []) : G E (LA s) 9 p l e room_1 s m #[.ref sb] below meth c Q k n (WL E b μ a σ o d F D) 2028 (lvL sb o d a b i) [] := by
  have h : RTc σ (μ 1) (μ 2) (μ 3 0) (μ 4) (μ 5 0) := hR
  have hlt := C.2.2.2.2.2.2
  obtain ⟨v, Tm, hX, hO, hI, hLG, hv⟩ := op_oko h
  have hA := op_log2 (x := (xs (i + 1))) h
  exact law_32 C hi hk hn (fun wr => k_X6_logB E l hlt wr b μ a σ (xs (i + 1)) (op_logB h)) (fun wr => k_X7_log E l wr b μ a _ (xs (i + 1)) hLG) th1 hA (fun F9 D9 => next _ _ F9 D9 _ _ (rt1 hR) (Nat.le_refl _) (Nat.le_refl _))

set_option maxHeartbeats 4000000 in
set_option maxRecDepth 100000 in
theorem do_33 {E : kE} {p : Program} {l : Launch} {e : Env} {s : State} {m : MethodId} {below : List Frame} {meth : Method} {c : Code} {Q : State → Prop} {sb L : Nat} {xs : Nat → Int32} (C : LC E p l s m meth c sb L xs) {a b : Nat → Nat} {o d i k n : Nat} {σ μ : Sto} {F : Nat → Int64} {D : Nat → UInt64} (hi : i + 5 ≤ L) (hk : k + 4 ≤ 3161) (hn : n + 24 ≤ 122043) (hR : RTl σ μ) (next : ∀ (σ' μ' : Sto) (F' : Nat → Int64) (D' : Nat → UInt64) (k' n' : Nat), RTl σ' μ' → k' ≤ k + 4 → n' ≤ n + 24 → G E (LA s) 9 p l e room_1 s m #[.ref sb] below meth c Q k' n' (WL E b μ' a σ' o d F' D') 2284 (lvL sb o d a b i) []) : G E (LA s) 9 p l e room_1 s m #[.ref sb] below meth c Q k n (WL E b μ a σ o d F D) 2084 (lvL sb o d a b i) [] := by
  have h : RTc σ (μ 1) (μ 2) (μ 3 0) (μ 4) (μ 5 0) := hR
  have hlt := C.2.2.2.2.2.2
  obtain ⟨v, Tm, hX, hO, hI, hLG, hv⟩ := op_oko h
  have hA := op_utilization (x := (xs (i + 1))) h
  exact law_33 C hi hk hn (fun wr => k_X6_utilization E l hlt wr b μ a σ (xs (i + 1)) (op_ca h)) (fun wr => k_X7_utilization E l wr b μ a _ (xs (i + 1)) v hX) th1 hA (fun F9 D9 => next _ _ F9 D9 _ _ (rt1 hR) (Nat.le_refl _) (Nat.le_refl _))

set_option maxHeartbeats 4000000 in
set_option maxRecDepth 100000 in
theorem do_34 {E : kE} {p : Program} {l : Launch} {e : Env} {s : State} {m : MethodId} {below : List Frame} {meth : Method} {c : Code} {Q : State → Prop} {sb L : Nat} {xs : Nat → Int32} (C : LC E p l s m meth c sb L xs) {a b : Nat → Nat} {o d i k n : Nat} {σ μ : Sto} {F : Nat → Int64} {D : Nat → UInt64} (hi : i + 5 ≤ L) (hk : k + 4 ≤ 3161) (hn : n + 24 ≤ 122043) (hR : RTl σ μ) (next : ∀ (σ' μ' : Sto) (F' : Nat → Int64) (D' : Nat → UInt64) (k' n' : Nat), RTl σ' μ' → k' ≤ k + 4 → n' ≤ n + 24 → G E (LA s) 9 p l e room_1 s m #[.ref sb] below meth c Q k' n' (WL E b μ' a σ' o d F' D') 2284 (lvL sb o d a b i) []) : G E (LA s) 9 p l e room_1 s m #[.ref sb] below meth c Q k n (WL E b μ a σ o d F D) 2161 (lvL sb o d a b i) [] := by
  have h : RTc σ (μ 1) (μ 2) (μ 3 0) (μ 4) (μ 5 0) := hR
  have hlt := C.2.2.2.2.2.2
  obtain ⟨v, Tm, hX, hO, hI, hLG, hv⟩ := op_oko h
  have hA := op_averageRest h
  exact law_34 C hi hk hn (fun wr => k_X6_averageRest E l hlt wr b μ a σ  ) (fun wr => k_X7_averageRest E l wr b μ a _  v hX) th1 hA (f2d_n64 avM_ok) (f2d_eq avM_ok) (fun F9 D9 => next _ _ F9 D9 _ _ (rt1 hR) (Nat.le_refl _) (Nat.le_refl _))

set_option maxHeartbeats 4000000 in
set_option maxRecDepth 100000 in
theorem do_35 {E : kE} {p : Program} {l : Launch} {e : Env} {s : State} {m : MethodId} {below : List Frame} {meth : Method} {c : Code} {Q : State → Prop} {sb L : Nat} {xs : Nat → Int32} (C : LC E p l s m meth c sb L xs) {a b : Nat → Nat} {o d i k n : Nat} {σ μ : Sto} {F : Nat → Int64} {D : Nat → UInt64} (hi : i + 5 ≤ L) (hk : k + 4 ≤ 3161) (hn : n + 24 ≤ 122043) (hR : RTl σ μ) (next : ∀ (σ' μ' : Sto) (F' : Nat → Int64) (D' : Nat → UInt64) (k' n' : Nat), RTl σ' μ' → k' ≤ k + 4 → n' ≤ n + 24 → G E (LA s) 9 p l e room_1 s m #[.ref sb] below meth c Q k' n' (WL E b μ' a σ' o d F' D') 2284 (lvL sb o d a b i) []) : G E (LA s) 9 p l e room_1 s m #[.ref sb] below meth c Q k n (WL E b μ a σ o d F D) 2227 (lvL sb o d a b i) [] := by
  have h : RTc σ (μ 1) (μ 2) (μ 3 0) (μ 4) (μ 5 0) := hR
  have hlt := C.2.2.2.2.2.2
  obtain ⟨v, Tm, hX, hO, hI, hLG, hv⟩ := op_oko h
  obtain ⟨f1, f2, f3, f4⟩ := op_flg h
  exact law_35 C hi (by omega) (by omega) (fun wr => k_X6_save E l wr b μ a σ f1 f2 f3 f4) (fun wr => k_X7_save E l wr b μ a _) (op_save h).1 (next _ _ _ _ _ _ (rtS (op_save h).2) (by omega) (by omega))

set_option maxHeartbeats 4000000 in
set_option maxRecDepth 100000 in
theorem do_36 {E : kE} {p : Program} {l : Launch} {e : Env} {s : State} {m : MethodId} {below : List Frame} {meth : Method} {c : Code} {Q : State → Prop} {sb L : Nat} {xs : Nat → Int32} (C : LC E p l s m meth c sb L xs) {a b : Nat → Nat} {o d i k n : Nat} {σ μ : Sto} {F : Nat → Int64} {D : Nat → UInt64} (hi : i + 5 ≤ L) (hk : k + 4 ≤ 3161) (hn : n + 24 ≤ 122043) (hR : RTl σ μ) (next : ∀ (σ' μ' : Sto) (F' : Nat → Int64) (D' : Nat → UInt64) (k' n' : Nat), RTl σ' μ' → k' ≤ k + 4 → n' ≤ n + 24 → G E (LA s) 9 p l e room_1 s m #[.ref sb] below meth c Q k' n' (WL E b μ' a σ' o d F' D') 2284 (lvL sb o d a b i) []) : G E (LA s) 9 p l e room_1 s m #[.ref sb] below meth c Q k n (WL E b μ a σ o d F D) 2240 (lvL sb o d a b i) [] := by
  have h : RTc σ (μ 1) (μ 2) (μ 3 0) (μ 4) (μ 5 0) := hR
  have hlt := C.2.2.2.2.2.2
  obtain ⟨v, Tm, hX, hO, hI, hLG, hv⟩ := op_oko h
  obtain ⟨hA, hR2⟩ := op_restore h
  obtain ⟨f1, f2, f3, f4⟩ := op_flg2 h
  exact law_36 C hi hk hn (fun wr => k_X6_restore E l hlt wr b μ a σ  f1 f2 f3 f4) (fun wr => k_X7_restore E l wr b μ a _  ) th2 hA (fun F9 D9 => next _ _ F9 D9 _ _ (rt2 hR2) (Nat.le_refl _) (Nat.le_refl _))
theorem tsw37 (x : Int32) : (x.toInt < 0 ∨ 36 < x.toInt) ∨ ∃ j : Nat, j < 37 ∧ x = nI j := by
  by_cases h : x.toInt < 0 ∨ 36 < x.toInt
  · exact Or.inl h
  · obtain ⟨j, hj, e⟩ := nI_of (x := x) (fun q => h (Or.inl (by have := Int32.lt_iff_toInt_lt.mp q; exact this)))
    refine Or.inr ⟨j, ?_, e⟩
    subst e
    rw [nI_toInt hj] at h
    omega
set_option maxHeartbeats 4000000 in
set_option maxRecDepth 100000 in
theorem law_step {E : kE} {p : Program} {l : Launch} {e : Env} {s : State} {m : MethodId} {below : List Frame} {meth : Method} {c : Code} {Q : State → Prop} {sb L : Nat} {xs : Nat → Int32} (C : LC E p l s m meth c sb L xs) {a b : Nat → Nat} {o d i k n : Nat} {σ μ : Sto} {F : Nat → Int64} {D : Nat → UInt64} (hi : i + 5 ≤ L) (hk : k + 4 ≤ 3161) (hn : n + 24 ≤ 122043) (hR : RTl σ μ) (next : ∀ (σ' μ' : Sto) (F' : Nat → Int64) (D' : Nat → UInt64) (k' n' : Nat), RTl σ' μ' → k' ≤ k + 4 → n' ≤ n + 24 → G E (LA s) 9 p l e room_1 s m #[.ref sb] below meth c Q k' n' (WL E b μ' a σ' o d F' D') 2284 (lvL sb o d a b i) []) (x : Int32) : G E (LA s) 9 p l e room_1 s m #[.ref sb] below meth c Q k n (WL E b μ a σ o d F D) 44 (lvL sb o d a b i) [.int x] := by
  rcases tsw37 x with hx | ⟨j, hj, rfl⟩
  · exact g_tableOut C.1 dL_law_44 hx 2284 rfl (next σ μ F D k n hR (by omega) (by omega))
  · rcases (show j = 0 ∨ j = 1 ∨ j = 2 ∨ j = 3 ∨ j = 4 ∨ j = 5 ∨ j = 6 ∨ j = 7 ∨ j = 8 ∨ j = 9 ∨ j = 10 ∨ j = 11 ∨ j = 12 ∨ j = 13 ∨ j = 14 ∨ j = 15 ∨ j = 16 ∨ j = 17 ∨ j = 18 ∨ j = 19 ∨ j = 20 ∨ j = 21 ∨ j = 22 ∨ j = 23 ∨ j = 24 ∨ j = 25 ∨ j = 26 ∨ j = 27 ∨ j = 28 ∨ j = 29 ∨ j = 30 ∨ j = 31 ∨ j = 32 ∨ j = 33 ∨ j = 34 ∨ j = 35 ∨ j = 36 by omega) with rfl | rfl | rfl | rfl | rfl | rfl | rfl | rfl | rfl | rfl | rfl | rfl | rfl | rfl | rfl | rfl | rfl | rfl | rfl | rfl | rfl | rfl | rfl | rfl | rfl | rfl | rfl | rfl | rfl | rfl | rfl | rfl | rfl | rfl | rfl | rfl | rfl
    · exact g_tableIn C.1 dL_law_44 164 (by decide) (by decide) rfl 208 rfl (do_0 C hi hk hn hR next)
    · exact g_tableIn C.1 dL_law_44 256 (by decide) (by decide) rfl 300 rfl (do_1 C hi hk hn hR next)
    · exact g_tableIn C.1 dL_law_44 312 (by decide) (by decide) rfl 356 rfl (do_2 C hi hk hn hR next)
    · exact g_tableIn C.1 dL_law_44 325 (by decide) (by decide) rfl 369 rfl (do_3 C hi hk hn hR next)
    · exact g_tableIn C.1 dL_law_44 393 (by decide) (by decide) rfl 437 rfl (do_4 C hi hk hn hR next)
    · exact g_tableIn C.1 dL_law_44 449 (by decide) (by decide) rfl 493 rfl (do_5 C hi hk hn hR next)
    · exact g_tableIn C.1 dL_law_44 540 (by decide) (by decide) rfl 584 rfl (do_6 C hi hk hn hR next)
    · exact g_tableIn C.1 dL_law_44 631 (by decide) (by decide) rfl 675 rfl (do_7 C hi hk hn hR next)
    · exact g_tableIn C.1 dL_law_44 687 (by decide) (by decide) rfl 731 rfl (do_8 C hi hk hn hR next)
    · exact g_tableIn C.1 dL_law_44 743 (by decide) (by decide) rfl 787 rfl (do_9 C hi hk hn hR next)
    · exact g_tableIn C.1 dL_law_44 834 (by decide) (by decide) rfl 878 rfl (do_10 C hi hk hn hR next)
    · exact g_tableIn C.1 dL_law_44 925 (by decide) (by decide) rfl 969 rfl (do_11 C hi hk hn hR next)
    · exact g_tableIn C.1 dL_law_44 1005 (by decide) (by decide) rfl 1049 rfl (do_12 C hi hk hn hR next)
    · exact g_tableIn C.1 dL_law_44 1061 (by decide) (by decide) rfl 1105 rfl (do_13 C hi hk hn hR next)
    · exact g_tableIn C.1 dL_law_44 1117 (by decide) (by decide) rfl 1161 rfl (do_14 C hi hk hn hR next)
    · exact g_tableIn C.1 dL_law_44 1173 (by decide) (by decide) rfl 1217 rfl (do_15 C hi hk hn hR next)
    · exact g_tableIn C.1 dL_law_44 1236 (by decide) (by decide) rfl 1280 rfl (do_16 C hi hk hn hR next)
    · exact g_tableIn C.1 dL_law_44 1292 (by decide) (by decide) rfl 1336 rfl (do_17 C hi hk hn hR next)
    · exact g_tableIn C.1 dL_law_44 1336 (by decide) (by decide) rfl 1380 rfl (do_18 C hi hk hn hR next)
    · exact g_tableIn C.1 dL_law_44 1349 (by decide) (by decide) rfl 1393 rfl (do_19 C hi hk hn hR next)
    · exact g_tableIn C.1 dL_law_44 1405 (by decide) (by decide) rfl 1449 rfl (do_20 C hi hk hn hR next)
    · exact g_tableIn C.1 dL_law_44 1461 (by decide) (by decide) rfl 1505 rfl (do_21 C hi hk hn hR next)
    · exact g_tableIn C.1 dL_law_44 1517 (by decide) (by decide) rfl 1561 rfl (do_22 C hi hk hn hR next)
    · exact g_tableIn C.1 dL_law_44 1585 (by decide) (by decide) rfl 1629 rfl (do_23 C hi hk hn hR next)
    · exact g_tableIn C.1 dL_law_44 1641 (by decide) (by decide) rfl 1685 rfl (do_24 C hi hk hn hR next)
    · exact g_tableIn C.1 dL_law_44 1697 (by decide) (by decide) rfl 1741 rfl (do_25 C hi hk hn hR next)
    · exact g_tableIn C.1 dL_law_44 1753 (by decide) (by decide) rfl 1797 rfl (do_26 C hi hk hn hR next)
    · exact g_tableIn C.1 dL_law_44 1809 (by decide) (by decide) rfl 1853 rfl (do_27 C hi hk hn hR next)
    · exact g_tableIn C.1 dL_law_44 1877 (by decide) (by decide) rfl 1921 rfl (do_28 C hi hk hn hR next)
    · exact g_tableIn C.1 dL_law_44 1945 (by decide) (by decide) rfl 1989 rfl (do_29 C hi hk hn hR next)
    · exact g_tableIn C.1 dL_law_44 1958 (by decide) (by decide) rfl 2002 rfl (do_30 C hi hk hn hR next)
    · exact g_tableIn C.1 dL_law_44 1971 (by decide) (by decide) rfl 2015 rfl (do_31 C hi hk hn hR next)
    · exact g_tableIn C.1 dL_law_44 1984 (by decide) (by decide) rfl 2028 rfl (do_32 C hi hk hn hR next)
    · exact g_tableIn C.1 dL_law_44 2040 (by decide) (by decide) rfl 2084 rfl (do_33 C hi hk hn hR next)
    · exact g_tableIn C.1 dL_law_44 2117 (by decide) (by decide) rfl 2161 rfl (do_34 C hi hk hn hR next)
    · exact g_tableIn C.1 dL_law_44 2183 (by decide) (by decide) rfl 2227 rfl (do_35 C hi hk hn hR next)
    · exact g_tableIn C.1 dL_law_44 2196 (by decide) (by decide) rfl 2240 rfl (do_36 C hi hk hn hR next)
theorem gt5 {L i : Nat} (hL : L < 2 ^ 30) (hi : i < 2 ^ 30) : nI L - 5 < nI i ↔ L < i + 5 := by
  rcases Nat.lt_or_ge L 5 with h | h
  · have e : ∀ L, L < 5 → nI L - 5 < 0 := by decide +kernel
    have h1 := Int32.lt_iff_toInt_lt.mp (e L h)
    rw [Int32.lt_iff_toInt_lt, nI_toInt (by omega)]
    have h2 : (0 : Int32).toInt = 0 := rfl
    omega
  · rw [show (5 : Int32) = nI 5 from rfl, nI_sub' h, nI_ltI (by omega) (by omega)]
    omega
set_option maxHeartbeats 4000000 in
set_option maxRecDepth 100000 in
theorem law_loop {E : kE} {p : Program} {l : Launch} {e : Env} {s : State} {m : MethodId} {below : List Frame} {meth : Method} {c : Code} {Q : State → Prop} {sb L : Nat} {xs : Nat → Int32} (C : LC E p l s m meth c sb L xs) {a b : Nat → Nat} {o d : Nat} (hend : ∀ (i k n : Nat) (ws : va_W), k ≤ 3161 → n ≤ 122043 → G E (LA s) 9 p l e room_1 s m #[.ref sb] below meth c Q k n ws 2290 (lvL sb o d a b i) []) : ∀ (r i k n : Nat) (σ μ : Sto) (F : Nat → Int64) (D : Nat → UInt64), L ≤ i + 5 * r → i < 10000 → k + 4 * r ≤ 3161 → n + 24 * r ≤ 122043 → RTl σ μ → G E (LA s) 9 p l e room_1 s m #[.ref sb] below meth c Q k n (WL E b μ a σ o d F D) 28 (lvL sb o d a b i) [] := by
  have hL := C.2.2.2.2.2.1
  have hbA := LC.nA C.2.2.2.2.1
  intro r
  induction r with
  | zero =>
    intro i k n σ μ F D hr hi hk hn hR
    refine g_iload C.1 dL_law_28 30 rfl rfl ?_
    refine g_aload_n C.1 dL_law_30 31 rfl rfl ?_
    refine g_slen C.1 C.2.2.2.1 C.2.2.2.2.1 hbA dL_law_31 32 rfl ?_
    refine g_iconst C.1 dL_law_32 33 rfl (v := 5) rfl ?_
    refine g_isub C.1 dL_law_33 34 rfl ?_
    exact g_ic_gt C.1 dL_law_34 2290 37 rfl rfl (fun _ => hend i k n _ (by omega) (by omega)) (fun q => absurd ((gt5 (by omega) (by omega)).mpr (by omega)) q)
  | succ r ih =>
    intro i k n σ μ F D hr hi hk hn hR
    refine g_iload C.1 dL_law_28 30 rfl rfl ?_
    refine g_aload_n C.1 dL_law_30 31 rfl rfl ?_
    refine g_slen C.1 C.2.2.2.1 C.2.2.2.2.1 hbA dL_law_31 32 rfl ?_
    refine g_iconst C.1 dL_law_32 33 rfl (v := 5) rfl ?_
    refine g_isub C.1 dL_law_33 34 rfl ?_
    refine g_ic_gt C.1 dL_law_34 2290 37 rfl rfl (fun _ => hend i k n _ (by omega) (by omega)) (fun q => ?_)
    have hi5 : i + 5 ≤ L := by
      rcases Nat.lt_or_ge L (i + 5) with z | z
      · exact absurd ((gt5 (by omega) (by omega)).mpr z) q
      · exact z
    refine g_aload_n C.1 dL_law_37 38 rfl rfl ?_
    refine g_iload C.1 dL_law_38 40 rfl rfl ?_
    refine g_sald C.1 C.2.2.2.1 C.2.2.2.2.1 hbA (by omega) dL_law_40 41 rfl (by omega) ?_
    refine g_bipush C.1 dL_law_41 43 rfl (v := 63) rfl ?_
    refine g_iand C.1 dL_law_43 44 rfl ?_
    refine law_step C hi5 (by omega) (by omega) hR (fun σ' μ' F' D' k' n' hR' hk' hn' => ?_) _
    refine g_iinc C.1 dL_law_2284 2287 rfl (by decide) 0 rfl (show nI i + nI 5 = nI (i + 5) from nI_add i 5) (lvL sb o d a b (i + 5)) rfl ?_
    refine g_goto C.1 dL_law_2287 28 rfl ?_
    exact ih (i + 5) k' n' σ' μ' F' D' (by omega) (by omega) (by omega) (by omega) hR'
