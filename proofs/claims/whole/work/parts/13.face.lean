abbrev xIAE : String := "java/lang/IllegalArgumentException"
abbrev xISE : String := "java/lang/IllegalStateException"
abbrev xNSE : String := "java/util/NoSuchElementException"
abbrev xIOB : String := "java/lang/IndexOutOfBoundsException"
abbrev xARE : String := "java/lang/ArithmeticException"
theorem LX_IAE : LkX RX6 36 40 xIAE ["java/lang/RuntimeException", "java/lang/Exception"] := ⟨⟨ok_in 447 (by decide +kernel) (by decide +kernel), ok_in 56 (by decide +kernel) (by decide +kernel)⟩, by decide +kernel, by decide +kernel, by decide +kernel, by decide +kernel⟩
theorem LX_ISE : LkX RX6 55 59 xISE ["java/lang/RuntimeException", "java/lang/Exception"] := ⟨⟨ok_in 464 (by decide +kernel) (by decide +kernel), ok_in 57 (by decide +kernel) (by decide +kernel)⟩, by decide +kernel, by decide +kernel, by decide +kernel, by decide +kernel⟩
theorem LX_IOB : LkX RX6 279 283 xIOB ["java/lang/RuntimeException", "java/lang/Exception"] := ⟨⟨ok_in 431 (by decide +kernel) (by decide +kernel), ok_in 53 (by decide +kernel) (by decide +kernel)⟩, by decide +kernel, by decide +kernel, by decide +kernel, by decide +kernel⟩
theorem LX_ARE : LkX RX6 290 294 xARE ["java/lang/RuntimeException", "java/lang/Exception"] := ⟨⟨ok_in 977 (by decide +kernel) (by decide +kernel), ok_in 60 (by decide +kernel) (by decide +kernel)⟩, by decide +kernel, by decide +kernel, by decide +kernel, by decide +kernel⟩
def rq (B : Bool) (cls : String) : OT := bif B then .inl none else .inr cls
abbrev oI (v : Int32) : OT := .inl (some (.int v))
abbrev oX (cls : String) : OT := .inr cls
section KR2
variable {E : kE} {A : Nat → Prop} {own : String} {cc : ByteArray} {nL : Nat} {p : Program} {l : Launch} {e : Env} {R : Room} {s : State} {m : MethodId} {args : Array Value} {below : List Frame} {meth : Method} {c : Code} {k n mc ms : Nat} {ws : va_W} {pc : Nat} {lv : List (Nat × Value)} {st st0 : List Value}
variable {idx n0 maxL fr lo : Nat} {y : MethodName} {bytes : ByteArray} {As : List Value} {o : OT} {w0 w1 : va_W}
/-- a call of a method that requires B, or throws -/
theorem c_RS {B : Bool} {cls : String} (X : CX E (va_A w0 s.heap.size) own cc nL p s m meth c) (hT : ∀ x ∈ c.exceptionTable.toList, False) (hZ : ZQ (va_A w0 s.heap.size) s) (L : LkS own idx y bytes maxL none n0) (hM : KT E l y bytes maxL none fr lo 1 6 As ws (rq B cls) ws) (d : decode cc pc = .ok (.invokestatic idx, 3)) (hn : As.length = n0) (hst : st0 = As.reverse ++ st) (hcat : (st.map fun v => v.category).sum ≤ 8) (hR : fr + 1 ≤ R.frames ∧ 8 + (maxL + 11) + lo ≤ R.locals) (hf : k + 1 ≤ R.cells ∧ n + 6 ≤ R.slots) (hk : k + 1 ≤ mc) (hm : n + 6 ≤ ms) (q : Nat) (hq : pc + 3 = q)
    (kk : B = true → G E (va_A w0 s.heap.size) nL p l e R s m args below meth c (vx_MQ below (KTQ E w0 s.heap.size o w1) (KTX E w0 s.heap.size o w1) args s mc ms (va_A w0 s.heap.size)) (k + 1) (n + 6) ws q lv st) (kx : B = false → o = .inr cls ∧ ws = w1) :
    G E (va_A w0 s.heap.size) nL p l e R s m args below meth c (vx_MQ below (KTQ E w0 s.heap.size o w1) (KTX E w0 s.heap.size o w1) args s mc ms (va_A w0 s.heap.size)) k n ws pc lv st0 := by
  subst hq
  refine g_callST X hZ L hM d hn hst hcat hR hf (fun v hv => ?_) (fun cls' hv => ?_) <;> cases B
  · cases hv
  · cases hv; exact kk rfl
  · cases hv; exact gx_out X hT hk hm (kx rfl).1 (kx rfl).2
  · cases hv
theorem c_RV {B : Bool} {cls : String} (X : CX E (va_A w0 s.heap.size) own cc nL p s m meth c) (hT : ∀ x ∈ c.exceptionTable.toList, False) (hZ : ZQ (va_A w0 s.heap.size) s) {b : Nat} (L : LkV own idx y bytes maxL none n0) (hM : KT E l y bytes maxL none fr lo 1 6 (.ref b :: As) ws (rq B cls) ws) (d : decode cc pc = .ok (.invokevirtual idx, 3)) (hn : As.length = n0) (q0 : Nat) {ci N : Nat} {T : u_T} {fs : List Value} (he : ws[q0]? = some (b, .inr (ci, fs))) (hc : kcl[ci]? = some (y.cls, T, N)) (hst : st0 = As.reverse ++ .ref b :: st) (hcat : (st.map fun v => v.category).sum ≤ 8) (hR : fr + 1 ≤ R.frames ∧ 8 + (maxL + 11) + lo ≤ R.locals) (hf : k + 1 ≤ R.cells ∧ n + 6 ≤ R.slots) (hk : k + 1 ≤ mc) (hm : n + 6 ≤ ms) (q : Nat) (hq : pc + 3 = q)
    (kk : B = true → G E (va_A w0 s.heap.size) nL p l e R s m args below meth c (vx_MQ below (KTQ E w0 s.heap.size o w1) (KTX E w0 s.heap.size o w1) args s mc ms (va_A w0 s.heap.size)) (k + 1) (n + 6) ws q lv st) (kx : B = false → o = .inr cls ∧ ws = w1) :
    G E (va_A w0 s.heap.size) nL p l e R s m args below meth c (vx_MQ below (KTQ E w0 s.heap.size o w1) (KTX E w0 s.heap.size o w1) args s mc ms (va_A w0 s.heap.size)) k n ws pc lv st0 := by
  subst hq
  refine g_callVT X hZ L hM d hn q0 he hc hst hcat hR hf (fun v hv => ?_) (fun cls' hv => ?_) <;> cases B
  · cases hv
  · cases hv; exact kk rfl
  · cases hv; exact gx_out X hT hk hm (kx rfl).1 (kx rfl).2
  · cases hv
end KR2
theorem frees_row {σ : Sto} {x t : Int32} {j : Nat} (h7 : j ≠ 7) (h8 : j ≠ 8) (h10 : j ≠ 10) : frees σ x t j = σ j := by
  unfold frees
  cases inA x
  · rfl
  · show put (put (put σ 7 _) 8 _) 10 _ j = σ j
    rw [put_n h10, put_n h8, put_n h7]
theorem freshL_row {y : Int32} {j : Nat} (h7 : j ≠ 7) (h8 : j ≠ 8) (h10 : j ≠ 10) : ∀ (r i : Nat) (σ : Sto), freshL y σ i r j = σ j
  | 0, _, _ => rfl
  | r + 1, i, σ => by
    unfold freshL
    by_cases h : y < nI i
    · rw [if_pos h]
    · rw [if_neg h, freshL_row h7 h8 h10 r (i + 1), frees_row h7 h8 h10]
theorem fresh_row {σ : Sto} {x y : Int32} {j : Nat} (h7 : j ≠ 7) (h8 : j ≠ 8) (h10 : j ≠ 10) : fresh σ x y j = σ j := freshL_row h7 h8 h10 _ _ _
theorem fresh_0 {σ : Sto} {x y : Int32} : fresh σ x y 0 = σ 0 := fresh_row (by decide) (by decide) (by decide)
theorem isP_ex {σ : Sto} {x : Int32} {v : Nat} (h : isP σ x = true) (hc : σ 0 0 = nI v) (hv : v ≤ 5) : ∃ u : Nat, u < v ∧ x = nI u := by
  simp [isP, hc] at h
  rcases pk_ix x (n := v) (by omega) with q | q | ⟨u, hu, q⟩
  · exact absurd q (by simpa using h.1.1)
  · exact absurd q (by simpa using h.1.2)
  · exact ⟨u, hu, q⟩
def rngA (x y : Int32) : Bool := inA x && inA y && decide (x ≤ y)
def oAdd (σ : Sto) (g f t d : Int32) : OT := bif inG g then (bif rngA f t then (if d < 8 then oX xIAE else if d ≤ 800 then (if σ 0 0 < 5 then (bif ovL σ f t 0 5 then oX xISE else oI (σ 0 0)) else oX xISE) else oX xIAE) else oX xIAE) else oX xIOB
def tAdd (σ : Sto) (g f t d : Int32) : Sto := bif inG g then (bif rngA f t then (if d < 8 then σ else if d ≤ 800 then (if σ 0 0 < 5 then (bif ovL σ f t 0 5 then σ else appd (fresh σ f t) g f t d) else σ) else σ) else σ) else σ
def allF (σ : Sto) (x : Int32) : Bool := decide (cntIn σ (σ 2 (ix x)) (σ 3 (ix x)) 0 = σ 3 (ix x) - σ 2 (ix x) + 1)
def oRem (σ : Sto) (x : Int32) : OT := bif isP σ x then (bif allF σ x then oI (σ 0 0 - 1) else oX xISE) else oX xIOB
def tRem (σ : Sto) (x : Int32) : Sto := bif isP σ x then (bif allF σ x then put (drp σ (ix x) (ix (σ 0 0) - 1)) 0 (sc (σ 0 0 - 1)) else σ) else σ
theorem oRem_n {σ : Sto} {u v : Nat} (h : isP σ (nI u) = true) (ha : allF σ (nI u) = true) (hc : σ 0 0 = nI v) (hu : u < v) : oRem σ (nI u) = oI (nI (v - 1)) := by
  unfold oRem
  rw [h, ha, hc, show nI v - 1 = nI (v - 1) from by rw [show v = (v - 1) + 1 by omega, nI_pred]; simp]
  rfl
theorem tRem_n {σ : Sto} {u v : Nat} (h : isP σ (nI u) = true) (ha : allF σ (nI u) = true) (hc : σ 0 0 = nI v) (hu : u < v) (hv : v ≤ 5) : tRem σ (nI u) = put (drp σ u (v - 1)) 0 (sc (nI (v - 1))) := by
  unfold tRem
  rw [h, ha, hc, show nI v - 1 = nI (v - 1) from by rw [show v = (v - 1) + 1 by omega, nI_pred]; simp, show ix (nI u) = u from nI_clamp (by omega), show ix (nI v) = v from nI_clamp (by omega)]
  rfl
def oPl (σ : Sto) (x q : Int32) : OT := bif isP σ x then (if q = 0 then oI (σ 1 (ix x)) else if q = 1 then oI (σ 2 (ix x)) else if q = 2 then oI (σ 3 (ix x)) else if q = 3 then oI (σ 4 (ix x)) else if q = 4 then oI (offIn σ (σ 2 (ix x)) (σ 3 (ix x))) else oX xIAE) else oX xIOB
def inPl (σ : Sto) (x : Int32) : Bool := !decide (numAt σ x = -1)
def oInP (σ : Sto) (x : Int32) (o : OT) : OT := bif inA x then (bif inPl σ x then o else oX xNSE) else oX xIOB
def oSet (σ : Sto) (B : Bool) (k : Nat) (x : Int32) : OT := bif B then oI (σ k (ix x)) else oX xIOB
def tSet (σ : Sto) (B : Bool) (k : Nat) (x v : Int32) : Sto := bif B then put σ k (upd (σ k) (ix x) v) else σ
def oNum (σ : Sto) (x n : Int32) (k : Nat) : OT := if x < 1 then oX xIAE else if x ≤ n then oI (σ k 0) else oX xIAE
def tNum (σ : Sto) (x n : Int32) (k : Nat) : Sto := if x < 1 then σ else if x ≤ n then put σ k (sc x) else σ
def oDis (σ : Sto) (cn g x : Int32) : OT := bif inC cn then (bif inG g then (bif isBd σ cn then oX xISE else if σ 21 (ix g) = 0 then oX xISE else if (MO σ cn g x).1 = -1 then oX xNSE else oI (MO σ cn g x).1) else oX xIOB) else oX xIOB
def tDis (σ : Sto) (cn g x : Int32) : Sto := bif inC cn then (bif inG g then (bif isBd σ cn then σ else if σ 21 (ix g) = 0 then σ else (MO σ cn g x).2) else σ) else σ
def oAcc (σ : Sto) (cn : Int32) : OT := bif inC cn then (if σ 11 (ix cn) = 1 then (bif rUp σ cn then oI (bLs σ cn 12 (ix cn)) else oX xISE) else oX xNSE) else oX xIOB
def tAcc (σ : Sto) (cn : Int32) : Sto := bif inC cn then (if σ 11 (ix cn) = 1 then (bif rUp σ cn then bLs σ cn else σ) else σ) else σ
def oBd (σ : Sto) (cn : Int32) (o : OT) : OT := bif inC cn then (bif isBd σ cn then o else oX xNSE) else oX xIOB
def tBd (σ : Sto) (cn : Int32) (τ : Sto) : Sto := bif inC cn then (bif isBd σ cn then τ else σ) else σ
def oAdv (σ : Sto) (x : Int32) : OT := if x < 1 then oX xIAE else if x ≤ 2000 then (if σ 16 0 + x ≤ 100000 then oI (PT σ (σ 16 0 + x)).1 else oX xISE) else oX xIAE
def pTo (σ : Sto) (y : Int32) : Sto := put (PT σ y).2 16 (sc y)
def tAdv (σ : Sto) (x : Int32) : Sto := if x < 1 then σ else if x ≤ 2000 then (if σ 16 0 + x ≤ 100000 then pTo σ (σ 16 0 + x) else σ) else σ
def fstE (σ : Sto) : Int32 := if eqE σ < eeC σ then eqE σ else eeC σ
def oAtE (σ : Sto) : OT := if fstE σ = 2147483647 then oX xNSE else if fstE σ / 100 / 5 ≤ 100000 then oI (fstE σ / 100 / 5) else oX xISE
def tAtE (σ : Sto) : Sto := if fstE σ = 2147483647 then σ else if fstE σ / 100 / 5 ≤ 100000 then pTo σ (fstE σ / 100 / 5) else σ
def oCl (cn : Int32) (o : OT) : OT := bif inC cn then o else oX xIOB
def oTim (σ : Sto) (cn q : Int32) : OT := if q = 0 then oI (σ 14 (ix cn)) else if q = 1 then oI (σ 15 (ix cn)) else if q = 2 then oI (lEnd σ cn) else oX xIAE
def oNx (σ : Sto) (cn g : Int32) : OT := bif inC cn then (bif inG g then (if fCd σ cn g (-1) = -1 then oX xNSE else oI (fCd σ cn g (-1))) else oX xIOB) else oX xIOB
def oCnt (σ : Sto) (g v : Int32) : OT := bif inG g then (if v < 0 then oX xIAE else if v ≤ 3 then oI (gcL σ g v 0 5 0) else oX xIAE) else oX xIOB
def oLog (σ : Sto) (x : Int32) : OT := if x < 0 then oX xIOB else if x < σ 45 0 then oI (σ 44 (ix (fmd (σ 46 0 - 1 - x) 30))) else oX xIOB
theorem tsw_3 (x : Int32) : x = 0 ∨ x = 1 ∨ x = 2 ∨ (x.toInt < 0 ∨ 2 < x.toInt) := by
  rcases tsw_4 x with e | e | e | e | e
  · exact Or.inl e
  · exact Or.inr (Or.inl e)
  · exact Or.inr (Or.inr (Or.inl e))
  · exact Or.inr (Or.inr (Or.inr (Or.inr (by rw [e]; decide))))
  · exact Or.inr (Or.inr (Or.inr (by omega)))
set_option maxHeartbeats 4000000 in
set_option maxRecDepth 100000 in
theorem k_X6_requireAddress (E : kE) (l : Launch) (hlt : l.stackTraces = false) (wr : va_W) (b : Nat → Nat) (μ : Sto) (a : Nat → Nat) (σ : Sto) (x : Int32) : KT E l yX6_requireAddress cX6_requireAddress 1 none 6 90 1 6 [.int x] (WW E b μ a σ wr) (rq (inA x) xIOB) (WW E b μ a σ wr) := by
  refine KT_start (own := RX6) (by decide +kernel) rfl [(0, .int x)] rfl (Nat.le_of_ble_eq_true rfl) (fun p e s m below meth c X hr hT hZ => ?_)
  refine g_iload_n X dX6_requireAddress_0 1 rfl rfl ?_
  refine c_S X Lk_X6_32 (k_X6_isAddress E l wr b μ a σ x) dX6_requireAddress_1 rfl rfl (Nat.le_of_ble_eq_true rfl) ⟨(Nat.le_of_ble_eq_true rfl), (Nat.le_of_ble_eq_true rfl)⟩ ⟨(Nat.le_of_ble_eq_true rfl), (Nat.le_of_ble_eq_true rfl)⟩ 4 rfl [.int (bi (inA x))] rfl ?_
  refine g_ifb_ne X dX6_requireAddress_4 18 7 rfl rfl (fun c1 => ?_) (fun c1 => ?_)
  · skip
    exact g_vretT X hr dX6_requireAddress_18 (Nat.le_of_ble_eq_true rfl) (Nat.le_of_ble_eq_true rfl) (by simp [rq, c1]) rfl
  · skip
    exact g_throwSW X hlt hT hZ LX_IOB (List.mem_of_getElem? (i := 27) rfl) dX6_requireAddress_7 dX6_requireAddress_10 dX6_requireAddress_11 dX6_requireAddress_14 dX6_requireAddress_17 (Nat.le_of_ble_eq_true rfl) (Nat.le_of_ble_eq_true rfl) ⟨(Nat.le_of_ble_eq_true rfl), (Nat.le_of_ble_eq_true rfl)⟩ (Nat.le_of_ble_eq_true rfl) (Nat.le_of_ble_eq_true rfl) (by simp [rq, c1]) rfl

set_option maxHeartbeats 4000000 in
set_option maxRecDepth 100000 in
theorem k_X6_requireClient (E : kE) (l : Launch) (hlt : l.stackTraces = false) (wr : va_W) (b : Nat → Nat) (μ : Sto) (a : Nat → Nat) (σ : Sto) (x : Int32) : KT E l yX6_requireClient cX6_requireClient 1 none 6 90 1 6 [.int x] (WW E b μ a σ wr) (rq (inC x) xIOB) (WW E b μ a σ wr) := by
  refine KT_start (own := RX6) (by decide +kernel) rfl [(0, .int x)] rfl (Nat.le_of_ble_eq_true rfl) (fun p e s m below meth c X hr hT hZ => ?_)
  refine g_iload_n X dX6_requireClient_0 1 rfl rfl ?_
  refine c_S X Lk_X6_312 (k_X6_isClient E l wr b μ a σ x) dX6_requireClient_1 rfl rfl (Nat.le_of_ble_eq_true rfl) ⟨(Nat.le_of_ble_eq_true rfl), (Nat.le_of_ble_eq_true rfl)⟩ ⟨(Nat.le_of_ble_eq_true rfl), (Nat.le_of_ble_eq_true rfl)⟩ 4 rfl [.int (bi (inC x))] rfl ?_
  refine g_ifb_ne X dX6_requireClient_4 18 7 rfl rfl (fun c1 => ?_) (fun c1 => ?_)
  · skip
    exact g_vretT X hr dX6_requireClient_18 (Nat.le_of_ble_eq_true rfl) (Nat.le_of_ble_eq_true rfl) (by simp [rq, c1]) rfl
  · skip
    exact g_throwSW X hlt hT hZ LX_IOB (List.mem_of_getElem? (i := 28) rfl) dX6_requireClient_7 dX6_requireClient_10 dX6_requireClient_11 dX6_requireClient_14 dX6_requireClient_17 (Nat.le_of_ble_eq_true rfl) (Nat.le_of_ble_eq_true rfl) ⟨(Nat.le_of_ble_eq_true rfl), (Nat.le_of_ble_eq_true rfl)⟩ (Nat.le_of_ble_eq_true rfl) (Nat.le_of_ble_eq_true rfl) (by simp [rq, c1]) rfl

set_option maxHeartbeats 4000000 in
set_option maxRecDepth 100000 in
theorem k_X6_requireGroup (E : kE) (l : Launch) (hlt : l.stackTraces = false) (wr : va_W) (b : Nat → Nat) (μ : Sto) (a : Nat → Nat) (σ : Sto) (x : Int32) : KT E l yX6_requireGroup cX6_requireGroup 1 none 6 90 1 6 [.int x] (WW E b μ a σ wr) (rq (inG x) xIOB) (WW E b μ a σ wr) := by
  refine KT_start (own := RX6) (by decide +kernel) rfl [(0, .int x)] rfl (Nat.le_of_ble_eq_true rfl) (fun p e s m below meth c X hr hT hZ => ?_)
  refine g_iload_n X dX6_requireGroup_0 1 rfl rfl ?_
  refine c_S X Lk_X6_317 (k_X6_isGroup E l wr b μ a σ x) dX6_requireGroup_1 rfl rfl (Nat.le_of_ble_eq_true rfl) ⟨(Nat.le_of_ble_eq_true rfl), (Nat.le_of_ble_eq_true rfl)⟩ ⟨(Nat.le_of_ble_eq_true rfl), (Nat.le_of_ble_eq_true rfl)⟩ 4 rfl [.int (bi (inG x))] rfl ?_
  refine g_ifb_ne X dX6_requireGroup_4 18 7 rfl rfl (fun c1 => ?_) (fun c1 => ?_)
  · skip
    exact g_vretT X hr dX6_requireGroup_18 (Nat.le_of_ble_eq_true rfl) (Nat.le_of_ble_eq_true rfl) (by simp [rq, c1]) rfl
  · skip
    exact g_throwSW X hlt hT hZ LX_IOB (List.mem_of_getElem? (i := 29) rfl) dX6_requireGroup_7 dX6_requireGroup_10 dX6_requireGroup_11 dX6_requireGroup_14 dX6_requireGroup_17 (Nat.le_of_ble_eq_true rfl) (Nat.le_of_ble_eq_true rfl) ⟨(Nat.le_of_ble_eq_true rfl), (Nat.le_of_ble_eq_true rfl)⟩ (Nat.le_of_ble_eq_true rfl) (Nat.le_of_ble_eq_true rfl) (by simp [rq, c1]) rfl

set_option maxHeartbeats 4000000 in
set_option maxRecDepth 100000 in
theorem k_X6_requirePool (E : kE) (l : Launch) (hlt : l.stackTraces = false) (wr : va_W) (b : Nat → Nat) (μ : Sto) (a : Nat → Nat) (σ : Sto) (x : Int32) : KT E l yX6_requirePool cX6_requirePool 2 none 6 90 1 6 [.ref (a 0), .int x] (WW E b μ a σ wr) (rq (isP σ x) xIOB) (WW E b μ a σ wr) := by
  refine KT_start (own := RX6) (by decide +kernel) rfl [(0, .ref (a 0)), (1, .int x)] rfl (Nat.le_of_ble_eq_true rfl) (fun p e s m below meth c X hr hT hZ => ?_)
  refine g_aload_n X dX6_requirePool_0 1 rfl rfl ?_
  refine g_get X FL_X6_21 dX6_requirePool_1 4 rfl 4 rfl (v := .ref (a 3)) rfl ?_
  refine g_get X FL_X6_45 dX6_requirePool_4 7 rfl 7 rfl (v := .ref (a 4)) rfl ?_
  refine g_iload_n X dX6_requirePool_7 8 rfl rfl ?_
  refine c_V X Lk_X6_322 (k_X3_isPool E l wr b μ a σ x) dX6_requirePool_8 rfl 8 rfl rfl rfl (Nat.le_of_ble_eq_true rfl) ⟨(Nat.le_of_ble_eq_true rfl), (Nat.le_of_ble_eq_true rfl)⟩ ⟨(Nat.le_of_ble_eq_true rfl), (Nat.le_of_ble_eq_true rfl)⟩ 11 rfl [.int (bi (isP σ x))] rfl ?_
  refine g_ifb_ne X dX6_requirePool_11 25 14 rfl rfl (fun c1 => ?_) (fun c1 => ?_)
  · skip
    exact g_vretT X hr dX6_requirePool_25 (Nat.le_of_ble_eq_true rfl) (Nat.le_of_ble_eq_true rfl) (by simp [rq, c1]) rfl
  · skip
    exact g_throwSW X hlt hT hZ LX_IOB (List.mem_of_getElem? (i := 30) rfl) dX6_requirePool_14 dX6_requirePool_17 dX6_requirePool_18 dX6_requirePool_21 dX6_requirePool_24 (Nat.le_of_ble_eq_true rfl) (Nat.le_of_ble_eq_true rfl) ⟨(Nat.le_of_ble_eq_true rfl), (Nat.le_of_ble_eq_true rfl)⟩ (Nat.le_of_ble_eq_true rfl) (Nat.le_of_ble_eq_true rfl) (by simp [rq, c1]) rfl

set_option maxHeartbeats 4000000 in
set_option maxRecDepth 100000 in
theorem k_X6_requireInPool (E : kE) (l : Launch) (hlt : l.stackTraces = false) (wr : va_W) (b : Nat → Nat) (μ : Sto) (a : Nat → Nat) (σ : Sto) (x : Int32) : KT E l yX6_requireInPool cX6_requireInPool 2 none 6 90 1 6 [.ref (a 0), .int x] (WW E b μ a σ wr) (rq (inPl σ x) xNSE) (WW E b μ a σ wr) := by
  refine KT_start (own := RX6) (by decide +kernel) rfl [(0, .ref (a 0)), (1, .int x)] rfl (Nat.le_of_ble_eq_true rfl) (fun p e s m below meth c X hr hT hZ => ?_)
  refine g_aload_n X dX6_requireInPool_0 1 rfl rfl ?_
  refine g_get X FL_X6_21 dX6_requireInPool_1 4 rfl 4 rfl (v := .ref (a 3)) rfl ?_
  refine g_get X FL_X6_45 dX6_requireInPool_4 7 rfl 7 rfl (v := .ref (a 4)) rfl ?_
  refine g_iload_n X dX6_requireInPool_7 8 rfl rfl ?_
  refine c_V X Lk_X6_118 (k_X3_numberAt E l wr b μ a σ x) dX6_requireInPool_8 rfl 8 rfl rfl rfl (Nat.le_of_ble_eq_true rfl) ⟨(Nat.le_of_ble_eq_true rfl), (Nat.le_of_ble_eq_true rfl)⟩ ⟨(Nat.le_of_ble_eq_true rfl), (Nat.le_of_ble_eq_true rfl)⟩ 11 rfl [.int (numAt σ x)] rfl ?_
  refine g_iconst X dX6_requireInPool_11 12 rfl (v := -1) rfl ?_
  refine g_ic_ne X dX6_requireInPool_12 26 15 rfl rfl (fun c1 => ?_) (fun c1 => ?_)
  · skip
    exact g_vretT X hr dX6_requireInPool_26 (Nat.le_of_ble_eq_true rfl) (Nat.le_of_ble_eq_true rfl) (by simp [rq, inPl, c1]) rfl
  · skip
    exact g_throwNSW X hlt hT hZ (List.mem_of_getElem? (i := 31) rfl) dX6_requireInPool_15 dX6_requireInPool_18 dX6_requireInPool_19 dX6_requireInPool_22 dX6_requireInPool_25 (Nat.le_of_ble_eq_true rfl) (Nat.le_of_ble_eq_true rfl) ⟨(Nat.le_of_ble_eq_true rfl), (Nat.le_of_ble_eq_true rfl)⟩ (Nat.le_of_ble_eq_true rfl) (Nat.le_of_ble_eq_true rfl) (by simp [rq, inPl, c1]) rfl

set_option maxHeartbeats 4000000 in
set_option maxRecDepth 100000 in
theorem k_X6_requireBound (E : kE) (l : Launch) (hlt : l.stackTraces = false) (wr : va_W) (b : Nat → Nat) (μ : Sto) (a : Nat → Nat) (σ : Sto) (x : Int32) : KT E l yX6_requireBound cX6_requireBound 2 none 6 90 1 6 [.ref (a 0), .int x] (WW E b μ a σ wr) (rq (isBd σ x) xNSE) (WW E b μ a σ wr) := by
  refine KT_start (own := RX6) (by decide +kernel) rfl [(0, .ref (a 0)), (1, .int x)] rfl (Nat.le_of_ble_eq_true rfl) (fun p e s m below meth c X hr hT hZ => ?_)
  refine g_aload_n X dX6_requireBound_0 1 rfl rfl ?_
  refine g_get X FL_X6_21 dX6_requireBound_1 4 rfl 4 rfl (v := .ref (a 3)) rfl ?_
  refine g_get X FL_X6_153 dX6_requireBound_4 7 rfl 7 rfl (v := .ref (a 16)) rfl ?_
  refine g_iload_n X dX6_requireBound_7 8 rfl rfl ?_
  refine c_V X Lk_X6_157 (k_X1_isBound E l wr b μ a σ x) dX6_requireBound_8 rfl 20 rfl rfl rfl (Nat.le_of_ble_eq_true rfl) ⟨(Nat.le_of_ble_eq_true rfl), (Nat.le_of_ble_eq_true rfl)⟩ ⟨(Nat.le_of_ble_eq_true rfl), (Nat.le_of_ble_eq_true rfl)⟩ 11 rfl [.int (bi (isBd σ x))] rfl ?_
  refine g_ifb_ne X dX6_requireBound_11 25 14 rfl rfl (fun c1 => ?_) (fun c1 => ?_)
  · skip
    exact g_vretT X hr dX6_requireBound_25 (Nat.le_of_ble_eq_true rfl) (Nat.le_of_ble_eq_true rfl) (by simp [rq, c1]) rfl
  · skip
    exact g_throwNSW X hlt hT hZ (List.mem_of_getElem? (i := 32) rfl) dX6_requireBound_14 dX6_requireBound_17 dX6_requireBound_18 dX6_requireBound_21 dX6_requireBound_24 (Nat.le_of_ble_eq_true rfl) (Nat.le_of_ble_eq_true rfl) ⟨(Nat.le_of_ble_eq_true rfl), (Nat.le_of_ble_eq_true rfl)⟩ (Nat.le_of_ble_eq_true rfl) (Nat.le_of_ble_eq_true rfl) (by simp [rq, c1]) rfl

set_option maxHeartbeats 4000000 in
set_option maxRecDepth 100000 in
theorem k_X6_addPool (E : kE) (l : Launch) (hlt : l.stackTraces = false) (wr : va_W) (b : Nat → Nat) (μ : Sto) (a : Nat → Nat) (σ : Sto) (g : Int32) (f : Int32) (t : Int32) (d : Int32) (hc0 : ¬ σ 0 0 < 0) : KT E l yX6_addPool cX6_addPool 5 (some .int) 7 110 4 24 [.ref (a 0), .int g, .int f, .int t, .int d] (WW E b μ a σ wr) (oAdd σ g f t d) (WW E b μ a (tAdd σ g f t d) wr) := by
  refine KT_start (own := RX6) (by decide +kernel) rfl [(0, .ref (a 0)), (1, .int g), (2, .int f), (3, .int t), (4, .int d)] rfl (Nat.le_of_ble_eq_true rfl) (fun p e s m below meth c X hr hT hZ => ?_)
  refine g_iload_n X dX6_addPool_0 1 rfl rfl ?_
  refine c_RS X hT hZ Lk_X6_28 (k_X6_requireGroup E l hlt wr b μ a σ g) dX6_addPool_1 rfl rfl (Nat.le_of_ble_eq_true rfl) ⟨(Nat.le_of_ble_eq_true rfl), (Nat.le_of_ble_eq_true rfl)⟩ ⟨(Nat.le_of_ble_eq_true rfl), (Nat.le_of_ble_eq_true rfl)⟩ (Nat.le_of_ble_eq_true rfl) (Nat.le_of_ble_eq_true rfl) 4 rfl (fun c1 => ?_) (fun c1 => ⟨(by simp [oAdd, tAdd, rngA, fresh_0, c1]), (by simp [oAdd, tAdd, rngA, fresh_0, c1])⟩)
  refine g_iload_n X dX6_addPool_4 5 rfl rfl ?_
  refine c_S X Lk_X6_32 (k_X6_isAddress E l wr b μ a σ f) dX6_addPool_5 rfl rfl (Nat.le_of_ble_eq_true rfl) ⟨(Nat.le_of_ble_eq_true rfl), (Nat.le_of_ble_eq_true rfl)⟩ ⟨(Nat.le_of_ble_eq_true rfl), (Nat.le_of_ble_eq_true rfl)⟩ 8 rfl [.int (bi (inA f))] rfl ?_
  refine g_ifb_eq X dX6_addPool_8 23 11 rfl rfl (fun c2 => ?_) (fun c2 => ?_)
  · skip
    exact g_throwS X hlt hT hZ LX_IAE (List.mem_of_getElem? (i := 0) rfl) dX6_addPool_23 dX6_addPool_26 dX6_addPool_27 dX6_addPool_29 dX6_addPool_32 (Nat.le_of_ble_eq_true rfl) (Nat.le_of_ble_eq_true rfl) ⟨(Nat.le_of_ble_eq_true rfl), (Nat.le_of_ble_eq_true rfl)⟩ (Nat.le_of_ble_eq_true rfl) (Nat.le_of_ble_eq_true rfl) (by simp [oAdd, tAdd, rngA, fresh_0, c1, c2]) (by simp [oAdd, tAdd, rngA, fresh_0, c1, c2])
  · skip
    refine g_iload_n X dX6_addPool_11 12 rfl rfl ?_
    refine c_S X Lk_X6_32 (k_X6_isAddress E l wr b μ a σ t) dX6_addPool_12 rfl rfl (Nat.le_of_ble_eq_true rfl) ⟨(Nat.le_of_ble_eq_true rfl), (Nat.le_of_ble_eq_true rfl)⟩ ⟨(Nat.le_of_ble_eq_true rfl), (Nat.le_of_ble_eq_true rfl)⟩ 15 rfl [.int (bi (inA t))] rfl ?_
    refine g_ifb_eq X dX6_addPool_15 23 18 rfl rfl (fun c3 => ?_) (fun c3 => ?_)
    · skip
      exact g_throwS X hlt hT hZ LX_IAE (List.mem_of_getElem? (i := 0) rfl) dX6_addPool_23 dX6_addPool_26 dX6_addPool_27 dX6_addPool_29 dX6_addPool_32 (Nat.le_of_ble_eq_true rfl) (Nat.le_of_ble_eq_true rfl) ⟨(Nat.le_of_ble_eq_true rfl), (Nat.le_of_ble_eq_true rfl)⟩ (Nat.le_of_ble_eq_true rfl) (Nat.le_of_ble_eq_true rfl) (by simp [oAdd, tAdd, rngA, fresh_0, c1, c2, c3]) (by simp [oAdd, tAdd, rngA, fresh_0, c1, c2, c3])
    · skip
      refine g_iload_n X dX6_addPool_18 19 rfl rfl ?_
      refine g_iload_n X dX6_addPool_19 20 rfl rfl ?_
      refine g_ic_le X dX6_addPool_20 33 23 rfl rfl (fun c4 => ?_) (fun c4 => ?_)
      · skip
        refine g_iload X dX6_addPool_33 35 rfl rfl ?_
        refine g_bipush X dX6_addPool_35 37 rfl (v := 8) rfl ?_
        refine g_ic_lt X dX6_addPool_37 48 40 rfl rfl (fun c5 => ?_) (fun c5 => ?_)
        · skip
          exact g_throwS X hlt hT hZ LX_IAE (List.mem_of_getElem? (i := 1) rfl) dX6_addPool_48 dX6_addPool_51 dX6_addPool_52 dX6_addPool_54 dX6_addPool_57 (Nat.le_of_ble_eq_true rfl) (Nat.le_of_ble_eq_true rfl) ⟨(Nat.le_of_ble_eq_true rfl), (Nat.le_of_ble_eq_true rfl)⟩ (Nat.le_of_ble_eq_true rfl) (Nat.le_of_ble_eq_true rfl) (by simp [oAdd, tAdd, rngA, fresh_0, c1, c2, c3, c4, c5]) (by simp [oAdd, tAdd, rngA, fresh_0, c1, c2, c3, c4, c5])
        · skip
          refine g_iload X dX6_addPool_40 42 rfl rfl ?_
          refine g_sipush X dX6_addPool_42 45 rfl (v := 800) rfl ?_
          refine g_ic_le X dX6_addPool_45 58 48 rfl rfl (fun c6 => ?_) (fun c6 => ?_)
          · skip
            refine g_aload_n X dX6_addPool_58 59 rfl rfl ?_
            refine g_get X FL_X6_21 dX6_addPool_59 62 rfl 4 rfl (v := .ref (a 3)) rfl ?_
            refine g_get X FL_X6_45 dX6_addPool_62 65 rfl 7 rfl (v := .ref (a 4)) rfl ?_
            refine g_get X FL_X6_49 dX6_addPool_65 68 rfl 8 rfl (v := .int (σ 0 0)) rfl ?_
            refine g_iconst X dX6_addPool_68 69 rfl (v := 5) rfl ?_
            refine g_ic_lt X dX6_addPool_69 82 72 rfl rfl (fun clt => ?_) (fun clt => ?_)
            · skip
              refine g_aload_n X dX6_addPool_82 83 rfl rfl ?_
              refine g_get X FL_X6_21 dX6_addPool_83 86 rfl 4 rfl (v := .ref (a 3)) rfl ?_
              refine g_get X FL_X6_45 dX6_addPool_86 89 rfl 7 rfl (v := .ref (a 4)) rfl ?_
              refine g_iload_n X dX6_addPool_89 90 rfl rfl ?_
              refine g_iload_n X dX6_addPool_90 91 rfl rfl ?_
              refine c_V X Lk_X6_60 (k_X3_overlap E l wr b μ a σ f t) dX6_addPool_91 rfl 8 rfl rfl rfl (Nat.le_of_ble_eq_true rfl) ⟨(Nat.le_of_ble_eq_true rfl), (Nat.le_of_ble_eq_true rfl)⟩ ⟨(Nat.le_of_ble_eq_true rfl), (Nat.le_of_ble_eq_true rfl)⟩ 94 rfl [.int (bi (ovL σ f t 0 5))] rfl ?_
              refine g_ifb_eq X dX6_addPool_94 107 97 rfl rfl (fun c8 => ?_) (fun c8 => ?_)
              · skip
                refine g_aload_n X dX6_addPool_107 108 rfl rfl ?_
                refine g_get X FL_X6_21 dX6_addPool_108 111 rfl 4 rfl (v := .ref (a 3)) rfl ?_
                refine g_get X FL_X6_66 dX6_addPool_111 114 rfl 7 rfl (v := .ref (a 9)) rfl ?_
                refine g_iload_n X dX6_addPool_114 115 rfl rfl ?_
                refine g_iload_n X dX6_addPool_115 116 rfl rfl ?_
                refine c_V X Lk_X6_70 (k_X0_makeFresh E l wr b μ a σ f t) dX6_addPool_116 rfl 13 rfl rfl rfl (Nat.le_of_ble_eq_true rfl) ⟨(Nat.le_of_ble_eq_true rfl), (Nat.le_of_ble_eq_true rfl)⟩ ⟨(Nat.le_of_ble_eq_true rfl), (Nat.le_of_ble_eq_true rfl)⟩ 119 rfl [] rfl ?_
                refine g_aload_n X dX6_addPool_119 120 rfl rfl ?_
                refine g_get X FL_X6_21 dX6_addPool_120 123 rfl 4 rfl (v := .ref (a 3)) rfl ?_
                refine g_get X FL_X6_45 dX6_addPool_123 126 rfl 7 rfl (v := .ref (a 4)) rfl ?_
                refine g_iload_n X dX6_addPool_126 127 rfl rfl ?_
                refine g_iload_n X dX6_addPool_127 128 rfl rfl ?_
                refine g_iload_n X dX6_addPool_128 129 rfl rfl ?_
                refine g_iload X dX6_addPool_129 131 rfl rfl ?_
                refine c_V X Lk_X6_76 (k_X3_append E l wr b μ a (fresh σ f t) g f t d (by rw [fresh_0]; exact hc0) (by rw [fresh_0]; exact Int32.not_le.mpr clt)) dX6_addPool_131 rfl 8 rfl rfl rfl (Nat.le_of_ble_eq_true rfl) ⟨(Nat.le_of_ble_eq_true rfl), (Nat.le_of_ble_eq_true rfl)⟩ ⟨(Nat.le_of_ble_eq_true rfl), (Nat.le_of_ble_eq_true rfl)⟩ 134 rfl [.int ((fresh σ f t) 0 0)] rfl ?_
                exact g_iretT X hr dX6_addPool_134 (Nat.le_of_ble_eq_true rfl) (Nat.le_of_ble_eq_true rfl) (by simp [oAdd, tAdd, rngA, fresh_0, c1, c2, c3, c4, c5, c6, clt, c8]) (by simp [oAdd, tAdd, rngA, fresh_0, c1, c2, c3, c4, c5, c6, clt, c8])
              · skip
                exact g_throwS X hlt hT hZ LX_ISE (List.mem_of_getElem? (i := 3) rfl) dX6_addPool_97 dX6_addPool_100 dX6_addPool_101 dX6_addPool_103 dX6_addPool_106 (Nat.le_of_ble_eq_true rfl) (Nat.le_of_ble_eq_true rfl) ⟨(Nat.le_of_ble_eq_true rfl), (Nat.le_of_ble_eq_true rfl)⟩ (Nat.le_of_ble_eq_true rfl) (Nat.le_of_ble_eq_true rfl) (by simp [oAdd, tAdd, rngA, fresh_0, c1, c2, c3, c4, c5, c6, clt, c8]) (by simp [oAdd, tAdd, rngA, fresh_0, c1, c2, c3, c4, c5, c6, clt, c8])
            · skip
              exact g_throwS X hlt hT hZ LX_ISE (List.mem_of_getElem? (i := 2) rfl) dX6_addPool_72 dX6_addPool_75 dX6_addPool_76 dX6_addPool_78 dX6_addPool_81 (Nat.le_of_ble_eq_true rfl) (Nat.le_of_ble_eq_true rfl) ⟨(Nat.le_of_ble_eq_true rfl), (Nat.le_of_ble_eq_true rfl)⟩ (Nat.le_of_ble_eq_true rfl) (Nat.le_of_ble_eq_true rfl) (by simp [oAdd, tAdd, rngA, fresh_0, c1, c2, c3, c4, c5, c6, clt]) (by simp [oAdd, tAdd, rngA, fresh_0, c1, c2, c3, c4, c5, c6, clt])
          · skip
            exact g_throwS X hlt hT hZ LX_IAE (List.mem_of_getElem? (i := 1) rfl) dX6_addPool_48 dX6_addPool_51 dX6_addPool_52 dX6_addPool_54 dX6_addPool_57 (Nat.le_of_ble_eq_true rfl) (Nat.le_of_ble_eq_true rfl) ⟨(Nat.le_of_ble_eq_true rfl), (Nat.le_of_ble_eq_true rfl)⟩ (Nat.le_of_ble_eq_true rfl) (Nat.le_of_ble_eq_true rfl) (by simp [oAdd, tAdd, rngA, fresh_0, c1, c2, c3, c4, c5, c6]) (by simp [oAdd, tAdd, rngA, fresh_0, c1, c2, c3, c4, c5, c6])
      · skip
        exact g_throwS X hlt hT hZ LX_IAE (List.mem_of_getElem? (i := 0) rfl) dX6_addPool_23 dX6_addPool_26 dX6_addPool_27 dX6_addPool_29 dX6_addPool_32 (Nat.le_of_ble_eq_true rfl) (Nat.le_of_ble_eq_true rfl) ⟨(Nat.le_of_ble_eq_true rfl), (Nat.le_of_ble_eq_true rfl)⟩ (Nat.le_of_ble_eq_true rfl) (Nat.le_of_ble_eq_true rfl) (by simp [oAdd, tAdd, rngA, fresh_0, c1, c2, c3, c4]) (by simp [oAdd, tAdd, rngA, fresh_0, c1, c2, c3, c4])

set_option maxHeartbeats 4000000 in
set_option maxRecDepth 100000 in
theorem k_X6_removePool (E : kE) (l : Launch) (hlt : l.stackTraces = false) (wr : va_W) (b : Nat → Nat) (μ : Sto) (a : Nat → Nat) (σ : Sto) (x : Int32) (v : Nat) (hv5 : v ≤ 5) (hc : σ 0 0 = nI v) : KT E l yX6_removePool cX6_removePool 4 (some .int) 7 111 4 24 [.ref (a 0), .int x] (WW E b μ a σ wr) (oRem σ x) (WW E b μ a (tRem σ x) wr) := by
  refine KT_start (own := RX6) (by decide +kernel) rfl [(0, .ref (a 0)), (1, .int x)] rfl (Nat.le_of_ble_eq_true rfl) (fun p e s m below meth c X hr hT hZ => ?_)
  refine g_aload_n X dX6_removePool_0 1 rfl rfl ?_
  refine g_iload_n X dX6_removePool_1 2 rfl rfl ?_
  refine c_RV X hT hZ Lk_X6_80 (k_X6_requirePool E l hlt wr b μ a σ x) dX6_removePool_2 rfl 4 rfl rfl rfl (Nat.le_of_ble_eq_true rfl) ⟨(Nat.le_of_ble_eq_true rfl), (Nat.le_of_ble_eq_true rfl)⟩ ⟨(Nat.le_of_ble_eq_true rfl), (Nat.le_of_ble_eq_true rfl)⟩ (Nat.le_of_ble_eq_true rfl) (Nat.le_of_ble_eq_true rfl) 5 rfl (fun c1 => ?_) (fun c1 => ⟨(by simp [oRem, tRem, c1]), (by simp [oRem, tRem, c1])⟩)
  obtain ⟨u, hu, rfl⟩ := isP_ex c1 hc hv5
  refine g_aload_n X dX6_removePool_5 6 rfl rfl ?_
  refine g_get X FL_X6_21 dX6_removePool_6 9 rfl 4 rfl (v := .ref (a 3)) rfl ?_
  refine g_get X FL_X6_45 dX6_removePool_9 12 rfl 7 rfl (v := .ref (a 4)) rfl ?_
  refine g_get X FL_X6_83 dX6_removePool_12 15 rfl 8 rfl (v := .ref (a 6)) rfl ?_
  refine g_iload_n X dX6_removePool_15 16 rfl rfl ?_
  refine g_ialdN X dX6_removePool_16 17 rfl 10 rfl (by omega) (by decide) ?_
  refine g_istore_n X dX6_removePool_17 18 rfl (by decide) [(2, .int (σ 2 u)), (0, .ref (a 0)), (1, .int (nI u))] rfl ?_
  refine g_aload_n X dX6_removePool_18 19 rfl rfl ?_
  refine g_get X FL_X6_21 dX6_removePool_19 22 rfl 4 rfl (v := .ref (a 3)) rfl ?_
  refine g_get X FL_X6_45 dX6_removePool_22 25 rfl 7 rfl (v := .ref (a 4)) rfl ?_
  refine g_get X FL_X6_87 dX6_removePool_25 28 rfl 8 rfl (v := .ref (a 7)) rfl ?_
  refine g_iload_n X dX6_removePool_28 29 rfl rfl ?_
  refine g_ialdN X dX6_removePool_29 30 rfl 11 rfl (by omega) (by decide) ?_
  refine g_istore_n X dX6_removePool_30 31 rfl (by decide) [(3, .int (σ 3 u)), (2, .int (σ 2 u)), (0, .ref (a 0)), (1, .int (nI u))] rfl ?_
  refine g_aload_n X dX6_removePool_31 32 rfl rfl ?_
  refine g_get X FL_X6_21 dX6_removePool_32 35 rfl 4 rfl (v := .ref (a 3)) rfl ?_
  refine g_get X FL_X6_66 dX6_removePool_35 38 rfl 7 rfl (v := .ref (a 9)) rfl ?_
  refine g_iload_n X dX6_removePool_38 39 rfl rfl ?_
  refine g_iload_n X dX6_removePool_39 40 rfl rfl ?_
  refine g_iconst X dX6_removePool_40 41 rfl (v := 0) rfl ?_
  refine c_V X Lk_X6_90 (k_X0_countIn E l wr b μ a σ (σ 2 u) (σ 3 u) 0) dX6_removePool_41 rfl 13 rfl rfl rfl (Nat.le_of_ble_eq_true rfl) ⟨(Nat.le_of_ble_eq_true rfl), (Nat.le_of_ble_eq_true rfl)⟩ ⟨(Nat.le_of_ble_eq_true rfl), (Nat.le_of_ble_eq_true rfl)⟩ 44 rfl [.int (cntIn σ (σ 2 u) (σ 3 u) 0)] rfl ?_
  refine g_iload_n X dX6_removePool_44 45 rfl rfl ?_
  refine g_iload_n X dX6_removePool_45 46 rfl rfl ?_
  refine g_isub X dX6_removePool_46 47 rfl ?_
  refine g_iconst X dX6_removePool_47 48 rfl (v := 1) rfl ?_
  refine g_iadd X dX6_removePool_48 49 rfl ?_
  refine g_ic_eq X dX6_removePool_49 62 52 rfl rfl (fun c2 => ?_) (fun c2 => ?_)
  · skip
    refine g_aload_n X dX6_removePool_62 63 rfl rfl ?_
    refine g_get X FL_X6_21 dX6_removePool_63 66 rfl 4 rfl (v := .ref (a 3)) rfl ?_
    refine g_get X FL_X6_45 dX6_removePool_66 69 rfl 7 rfl (v := .ref (a 4)) rfl ?_
    refine g_iload_n X dX6_removePool_69 70 rfl rfl ?_
    refine c_V X Lk_X6_96 (k_X3_drop E l wr b μ a σ u v hu hv5 hc) dX6_removePool_70 rfl 8 rfl rfl rfl (Nat.le_of_ble_eq_true rfl) ⟨(Nat.le_of_ble_eq_true rfl), (Nat.le_of_ble_eq_true rfl)⟩ ⟨(Nat.le_of_ble_eq_true rfl), (Nat.le_of_ble_eq_true rfl)⟩ 73 rfl [.int (nI (v - 1))] rfl ?_
    exact g_iretT X hr dX6_removePool_73 (Nat.le_of_ble_eq_true rfl) (Nat.le_of_ble_eq_true rfl) (oRem_n c1 (by simpa [allF, ix, nI_clamp (show u < 2 ^ 31 by omega)] using c2) hc hu) (by rw [tRem_n c1 (by simpa [allF, ix, nI_clamp (show u < 2 ^ 31 by omega)] using c2) hc hu hv5])
  · skip
    exact g_throwS X hlt hT hZ LX_ISE (List.mem_of_getElem? (i := 4) rfl) dX6_removePool_52 dX6_removePool_55 dX6_removePool_56 dX6_removePool_58 dX6_removePool_61 (Nat.le_of_ble_eq_true rfl) (Nat.le_of_ble_eq_true rfl) ⟨(Nat.le_of_ble_eq_true rfl), (Nat.le_of_ble_eq_true rfl)⟩ (Nat.le_of_ble_eq_true rfl) (Nat.le_of_ble_eq_true rfl) (by simp [oRem, allF, c1, ix, nI_clamp (show u < 2 ^ 31 by omega), c2]) (by simp [tRem, allF, c1, ix, nI_clamp (show u < 2 ^ 31 by omega), c2])

set_option maxHeartbeats 4000000 in
set_option maxRecDepth 100000 in
theorem k_X6_poolCount (E : kE) (l : Launch) (wr : va_W) (b : Nat → Nat) (μ : Sto) (a : Nat → Nat) (σ : Sto) : KM E l yX6_poolCount cX6_poolCount 1 (some .int) 0 0 0 0 [.ref (a 0)] (WW E b μ a σ wr) (some (.int (σ 0 0))) (WW E b μ a σ wr) := by
  refine K_start (own := RX6) (by decide +kernel) rfl [(0, .ref (a 0))] rfl (Nat.le_of_ble_eq_true rfl) (fun p e s m below meth c X hr hin => ?_)
  refine g_aload_n X dX6_poolCount_0 1 rfl rfl ?_
  refine g_get X FL_X6_21 dX6_poolCount_1 4 rfl 4 rfl (v := .ref (a 3)) rfl ?_
  refine g_get X FL_X6_45 dX6_poolCount_4 7 rfl 7 rfl (v := .ref (a 4)) rfl ?_
  refine g_get X FL_X6_49 dX6_poolCount_7 10 rfl 8 rfl (v := .int (σ 0 0)) rfl ?_
  exact g_iret X hr dX6_poolCount_10 () rfl rfl

set_option maxHeartbeats 4000000 in
set_option maxRecDepth 100000 in
theorem k_X6_pool (E : kE) (l : Launch) (hlt : l.stackTraces = false) (wr : va_W) (b : Nat → Nat) (μ : Sto) (a : Nat → Nat) (σ : Sto) (x : Int32) (q : Int32) : KT E l yX6_pool cX6_pool 4 (some .int) 7 111 4 24 [.ref (a 0), .int x, .int q] (WW E b μ a σ wr) (oPl σ x q) (WW E b μ a σ wr) := by
  refine KT_start (own := RX6) (by decide +kernel) rfl [(0, .ref (a 0)), (1, .int x), (2, .int q)] rfl (Nat.le_of_ble_eq_true rfl) (fun p e s m below meth c X hr hT hZ => ?_)
  refine g_aload_n X dX6_pool_0 1 rfl rfl ?_
  refine g_iload_n X dX6_pool_1 2 rfl rfl ?_
  refine c_RV X hT hZ Lk_X6_80 (k_X6_requirePool E l hlt wr b μ a σ x) dX6_pool_2 rfl 4 rfl rfl rfl (Nat.le_of_ble_eq_true rfl) ⟨(Nat.le_of_ble_eq_true rfl), (Nat.le_of_ble_eq_true rfl)⟩ ⟨(Nat.le_of_ble_eq_true rfl), (Nat.le_of_ble_eq_true rfl)⟩ (Nat.le_of_ble_eq_true rfl) (Nat.le_of_ble_eq_true rfl) 5 rfl (fun c1 => ?_) (fun c1 => ⟨(by simp [oPl, c1]), rfl⟩)
  refine g_aload_n X dX6_pool_5 6 rfl rfl ?_
  refine g_get X FL_X6_21 dX6_pool_6 9 rfl 4 rfl (v := .ref (a 3)) rfl ?_
  refine g_get X FL_X6_45 dX6_pool_9 12 rfl 7 rfl (v := .ref (a 4)) rfl ?_
  refine g_astore_n X dX6_pool_12 13 rfl (by decide) [(3, .ref (a 4)), (0, .ref (a 0)), (1, .int x), (2, .int q)] rfl ?_
  refine g_iload_n X dX6_pool_13 14 rfl rfl ?_
  have hsw : q = 0 ∨ q = 1 ∨ q = 2 ∨ q = 3 ∨ q = 4 ∨ (q.toInt < 0 ∨ 4 < q.toInt) := by
    exact tsw_5 _
  rcases hsw with t2 | t3 | t4 | t5 | t6 | t7
  · refine g_tableIn X dX6_pool_14 34 (by rw [t2]; decide) (by rw [t2]; decide) (by rw [t2]; rfl) 48 rfl ?_
    refine g_aload_n X dX6_pool_48 49 rfl rfl ?_
    refine g_get X FL_X6_100 dX6_pool_49 52 rfl 8 rfl (v := .ref (a 5)) rfl ?_
    refine g_iload_n X dX6_pool_52 53 rfl rfl ?_
    refine g_iald X dX6_pool_53 54 rfl 9 rfl (vP c1) ?_
    exact g_iretT X hr dX6_pool_54 (Nat.le_of_ble_eq_true rfl) (Nat.le_of_ble_eq_true rfl) (by simp [oPl, c1, t2]) rfl
  · refine g_tableIn X dX6_pool_14 41 (by rw [t3]; decide) (by rw [t3]; decide) (by rw [t3]; rfl) 55 rfl ?_
    refine g_aload_n X dX6_pool_55 56 rfl rfl ?_
    refine g_get X FL_X6_83 dX6_pool_56 59 rfl 8 rfl (v := .ref (a 6)) rfl ?_
    refine g_iload_n X dX6_pool_59 60 rfl rfl ?_
    refine g_iald X dX6_pool_60 61 rfl 10 rfl (vP c1) ?_
    exact g_iretT X hr dX6_pool_61 (Nat.le_of_ble_eq_true rfl) (Nat.le_of_ble_eq_true rfl) (by simp [oPl, c1, t3]) rfl
  · refine g_tableIn X dX6_pool_14 48 (by rw [t4]; decide) (by rw [t4]; decide) (by rw [t4]; rfl) 62 rfl ?_
    refine g_aload_n X dX6_pool_62 63 rfl rfl ?_
    refine g_get X FL_X6_87 dX6_pool_63 66 rfl 8 rfl (v := .ref (a 7)) rfl ?_
    refine g_iload_n X dX6_pool_66 67 rfl rfl ?_
    refine g_iald X dX6_pool_67 68 rfl 11 rfl (vP c1) ?_
    exact g_iretT X hr dX6_pool_68 (Nat.le_of_ble_eq_true rfl) (Nat.le_of_ble_eq_true rfl) (by simp [oPl, c1, t4]) rfl
  · refine g_tableIn X dX6_pool_14 55 (by rw [t5]; decide) (by rw [t5]; decide) (by rw [t5]; rfl) 69 rfl ?_
    refine g_aload_n X dX6_pool_69 70 rfl rfl ?_
    refine g_get X FL_X6_103 dX6_pool_70 73 rfl 8 rfl (v := .ref (a 8)) rfl ?_
    refine g_iload_n X dX6_pool_73 74 rfl rfl ?_
    refine g_iald X dX6_pool_74 75 rfl 12 rfl (vP c1) ?_
    exact g_iretT X hr dX6_pool_75 (Nat.le_of_ble_eq_true rfl) (Nat.le_of_ble_eq_true rfl) (by simp [oPl, c1, t5]) rfl
  · refine g_tableIn X dX6_pool_14 62 (by rw [t6]; decide) (by rw [t6]; decide) (by rw [t6]; rfl) 76 rfl ?_
    refine g_aload_n X dX6_pool_76 77 rfl rfl ?_
    refine g_get X FL_X6_21 dX6_pool_77 80 rfl 4 rfl (v := .ref (a 3)) rfl ?_
    refine g_get X FL_X6_66 dX6_pool_80 83 rfl 7 rfl (v := .ref (a 9)) rfl ?_
    refine g_aload_n X dX6_pool_83 84 rfl rfl ?_
    refine g_get X FL_X6_83 dX6_pool_84 87 rfl 8 rfl (v := .ref (a 6)) rfl ?_
    refine g_iload_n X dX6_pool_87 88 rfl rfl ?_
    refine g_iald X dX6_pool_88 89 rfl 10 rfl (vP c1) ?_
    refine g_aload_n X dX6_pool_89 90 rfl rfl ?_
    refine g_get X FL_X6_87 dX6_pool_90 93 rfl 8 rfl (v := .ref (a 7)) rfl ?_
    refine g_iload_n X dX6_pool_93 94 rfl rfl ?_
    refine g_iald X dX6_pool_94 95 rfl 11 rfl (vP c1) ?_
    refine c_V X Lk_X6_106 (k_X0_countOfferable E l wr b μ a σ (σ 2 (ix x)) (σ 3 (ix x))) dX6_pool_95 rfl 13 rfl rfl rfl (Nat.le_of_ble_eq_true rfl) ⟨(Nat.le_of_ble_eq_true rfl), (Nat.le_of_ble_eq_true rfl)⟩ ⟨(Nat.le_of_ble_eq_true rfl), (Nat.le_of_ble_eq_true rfl)⟩ 98 rfl [.int (offIn σ (σ 2 (ix x)) (σ 3 (ix x)))] rfl ?_
    exact g_iretT X hr dX6_pool_98 (Nat.le_of_ble_eq_true rfl) (Nat.le_of_ble_eq_true rfl) (by simp [oPl, c1, t6]) rfl
  · refine g_tableOut X dX6_pool_14 t7 99 rfl ?_
    exact g_throwS X hlt hT hZ LX_IAE (List.mem_of_getElem? (i := 5) rfl) dX6_pool_99 dX6_pool_102 dX6_pool_103 dX6_pool_105 dX6_pool_108 (Nat.le_of_ble_eq_true rfl) (Nat.le_of_ble_eq_true rfl) ⟨(Nat.le_of_ble_eq_true rfl), (Nat.le_of_ble_eq_true rfl)⟩ (Nat.le_of_ble_eq_true rfl) (Nat.le_of_ble_eq_true rfl) (by simp [oPl, c1, tsw_no t7 (j := 0) (by decide) (by decide), tsw_no t7 (j := 1) (by decide) (by decide), tsw_no t7 (j := 2) (by decide) (by decide), tsw_no t7 (j := 3) (by decide) (by decide), tsw_no t7 (j := 4) (by decide) (by decide)]) rfl

set_option maxHeartbeats 4000000 in
set_option maxRecDepth 100000 in
theorem k_X6_poolOf (E : kE) (l : Launch) (hlt : l.stackTraces = false) (wr : va_W) (b : Nat → Nat) (μ : Sto) (a : Nat → Nat) (σ : Sto) (x : Int32) : KT E l yX6_poolOf cX6_poolOf 2 (some .int) 7 111 4 24 [.ref (a 0), .int x] (WW E b μ a σ wr) (oInP σ x (oI (numAt σ x))) (WW E b μ a σ wr) := by
  refine KT_start (own := RX6) (by decide +kernel) rfl [(0, .ref (a 0)), (1, .int x)] rfl (Nat.le_of_ble_eq_true rfl) (fun p e s m below meth c X hr hT hZ => ?_)
  refine g_iload_n X dX6_poolOf_0 1 rfl rfl ?_
  refine c_RS X hT hZ Lk_X6_112 (k_X6_requireAddress E l hlt wr b μ a σ x) dX6_poolOf_1 rfl rfl (Nat.le_of_ble_eq_true rfl) ⟨(Nat.le_of_ble_eq_true rfl), (Nat.le_of_ble_eq_true rfl)⟩ ⟨(Nat.le_of_ble_eq_true rfl), (Nat.le_of_ble_eq_true rfl)⟩ (Nat.le_of_ble_eq_true rfl) (Nat.le_of_ble_eq_true rfl) 4 rfl (fun c1 => ?_) (fun c1 => ⟨(by simp [oInP, c1]), rfl⟩)
  refine g_aload_n X dX6_poolOf_4 5 rfl rfl ?_
  refine g_iload_n X dX6_poolOf_5 6 rfl rfl ?_
  refine c_RV X hT hZ Lk_X6_115 (k_X6_requireInPool E l hlt wr b μ a σ x) dX6_poolOf_6 rfl 4 rfl rfl rfl (Nat.le_of_ble_eq_true rfl) ⟨(Nat.le_of_ble_eq_true rfl), (Nat.le_of_ble_eq_true rfl)⟩ ⟨(Nat.le_of_ble_eq_true rfl), (Nat.le_of_ble_eq_true rfl)⟩ (Nat.le_of_ble_eq_true rfl) (Nat.le_of_ble_eq_true rfl) 9 rfl (fun c2 => ?_) (fun c2 => ⟨(by simp [oInP, c1, c2]), rfl⟩)
  refine g_aload_n X dX6_poolOf_9 10 rfl rfl ?_
  refine g_get X FL_X6_21 dX6_poolOf_10 13 rfl 4 rfl (v := .ref (a 3)) rfl ?_
  refine g_get X FL_X6_45 dX6_poolOf_13 16 rfl 7 rfl (v := .ref (a 4)) rfl ?_
  refine g_iload_n X dX6_poolOf_16 17 rfl rfl ?_
  refine c_V X Lk_X6_118 (k_X3_numberAt E l wr b μ a σ x) dX6_poolOf_17 rfl 8 rfl rfl rfl (Nat.le_of_ble_eq_true rfl) ⟨(Nat.le_of_ble_eq_true rfl), (Nat.le_of_ble_eq_true rfl)⟩ ⟨(Nat.le_of_ble_eq_true rfl), (Nat.le_of_ble_eq_true rfl)⟩ 20 rfl [.int (numAt σ x)] rfl ?_
  exact g_iretT X hr dX6_poolOf_20 (Nat.le_of_ble_eq_true rfl) (Nat.le_of_ble_eq_true rfl) (by simp [oInP, c1, c2]) rfl

set_option maxHeartbeats 4000000 in
set_option maxRecDepth 100000 in
theorem k_X6_exclude (E : kE) (l : Launch) (hlt : l.stackTraces = false) (wr : va_W) (b : Nat → Nat) (μ : Sto) (a : Nat → Nat) (σ : Sto) (x : Int32) (u : Bool) (zb : Bool) (hz : inA x = true → σ 5 (ix x) = bi zb) : KT E l yX6_exclude cX6_exclude 4 (some .boolean) 7 110 4 24 [.ref (a 0), .int x, .int (bi u)] (WW E b μ a σ wr) (oSet σ (inA x) 5 x) (WW E b μ a (tSet σ (inA x) 5 x (bi u)) wr) := by
  refine KT_start (own := RX6) (by decide +kernel) rfl [(0, .ref (a 0)), (1, .int x), (2, .int (bi u))] rfl (Nat.le_of_ble_eq_true rfl) (fun p e s m below meth c X hr hT hZ => ?_)
  refine g_iload_n X dX6_exclude_0 1 rfl rfl ?_
  refine c_RS X hT hZ Lk_X6_112 (k_X6_requireAddress E l hlt wr b μ a σ x) dX6_exclude_1 rfl rfl (Nat.le_of_ble_eq_true rfl) ⟨(Nat.le_of_ble_eq_true rfl), (Nat.le_of_ble_eq_true rfl)⟩ ⟨(Nat.le_of_ble_eq_true rfl), (Nat.le_of_ble_eq_true rfl)⟩ (Nat.le_of_ble_eq_true rfl) (Nat.le_of_ble_eq_true rfl) 4 rfl (fun c1 => ?_) (fun c1 => ⟨(by simp [oSet, tSet, c1]), (by simp [oSet, tSet, c1])⟩)
  refine g_aload_n X dX6_exclude_4 5 rfl rfl ?_
  refine g_get X FL_X6_21 dX6_exclude_5 8 rfl 4 rfl (v := .ref (a 3)) rfl ?_
  refine g_get X FL_X6_66 dX6_exclude_8 11 rfl 7 rfl (v := .ref (a 9)) rfl ?_
  refine g_get X FL_X6_121 dX6_exclude_11 14 rfl 13 rfl (v := .ref (a 10)) rfl ?_
  refine g_iload_n X dX6_exclude_14 15 rfl rfl ?_
  refine g_zald X dX6_exclude_15 16 rfl 14 rfl (by first | exact vA ‹_› | exact vC ‹_› | exact vG ‹_› | assumption | exact vp_in_nI (by omega) (by omega)) ?_
  refine g_istore_n X dX6_exclude_16 17 rfl (by decide) [(3, .int (σ 5 (ix x))), (0, .ref (a 0)), (1, .int x), (2, .int (bi u))] rfl ?_
  refine g_aload_n X dX6_exclude_17 18 rfl rfl ?_
  refine g_get X FL_X6_21 dX6_exclude_18 21 rfl 4 rfl (v := .ref (a 3)) rfl ?_
  refine g_get X FL_X6_66 dX6_exclude_21 24 rfl 7 rfl (v := .ref (a 9)) rfl ?_
  refine g_get X FL_X6_121 dX6_exclude_24 27 rfl 13 rfl (v := .ref (a 10)) rfl ?_
  refine g_iload_n X dX6_exclude_27 28 rfl rfl ?_
  refine g_iload_n X dX6_exclude_28 29 rfl rfl ?_
  refine g_zast X dX6_exclude_29 30 rfl 14 rfl (by first | exact vA ‹_› | exact vC ‹_› | exact vG ‹_› | assumption | exact vp_in_nI (by omega) (by omega)) (bi_vp _) (WW E b μ a (put σ 5 (upd (σ 5) (ix x) (bi u))) wr) rfl ?_
  refine g_iload_n X dX6_exclude_30 31 rfl rfl ?_
  exact g_zretT X hr dX6_exclude_31 zb (hz c1) (Nat.le_of_ble_eq_true rfl) (Nat.le_of_ble_eq_true rfl) (by simp [oSet, tSet, c1]) (by simp [oSet, tSet, c1])

set_option maxHeartbeats 4000000 in
set_option maxRecDepth 100000 in
theorem k_X6_setStranger (E : kE) (l : Launch) (hlt : l.stackTraces = false) (wr : va_W) (b : Nat → Nat) (μ : Sto) (a : Nat → Nat) (σ : Sto) (x : Int32) (u : Bool) (zb : Bool) (hz : inA x = true → σ 6 (ix x) = bi zb) : KT E l yX6_setStranger cX6_setStranger 4 (some .boolean) 7 110 4 24 [.ref (a 0), .int x, .int (bi u)] (WW E b μ a σ wr) (oSet σ (inA x) 6 x) (WW E b μ a (tSet σ (inA x) 6 x (bi u)) wr) := by
  refine KT_start (own := RX6) (by decide +kernel) rfl [(0, .ref (a 0)), (1, .int x), (2, .int (bi u))] rfl (Nat.le_of_ble_eq_true rfl) (fun p e s m below meth c X hr hT hZ => ?_)
  refine g_iload_n X dX6_setStranger_0 1 rfl rfl ?_
  refine c_RS X hT hZ Lk_X6_112 (k_X6_requireAddress E l hlt wr b μ a σ x) dX6_setStranger_1 rfl rfl (Nat.le_of_ble_eq_true rfl) ⟨(Nat.le_of_ble_eq_true rfl), (Nat.le_of_ble_eq_true rfl)⟩ ⟨(Nat.le_of_ble_eq_true rfl), (Nat.le_of_ble_eq_true rfl)⟩ (Nat.le_of_ble_eq_true rfl) (Nat.le_of_ble_eq_true rfl) 4 rfl (fun c1 => ?_) (fun c1 => ⟨(by simp [oSet, tSet, c1]), (by simp [oSet, tSet, c1])⟩)
  refine g_aload_n X dX6_setStranger_4 5 rfl rfl ?_
  refine g_get X FL_X6_21 dX6_setStranger_5 8 rfl 4 rfl (v := .ref (a 3)) rfl ?_
  refine g_get X FL_X6_66 dX6_setStranger_8 11 rfl 7 rfl (v := .ref (a 9)) rfl ?_
  refine g_get X FL_X6_125 dX6_setStranger_11 14 rfl 13 rfl (v := .ref (a 11)) rfl ?_
  refine g_iload_n X dX6_setStranger_14 15 rfl rfl ?_
  refine g_zald X dX6_setStranger_15 16 rfl 15 rfl (by first | exact vA ‹_› | exact vC ‹_› | exact vG ‹_› | assumption | exact vp_in_nI (by omega) (by omega)) ?_
  refine g_istore_n X dX6_setStranger_16 17 rfl (by decide) [(3, .int (σ 6 (ix x))), (0, .ref (a 0)), (1, .int x), (2, .int (bi u))] rfl ?_
  refine g_aload_n X dX6_setStranger_17 18 rfl rfl ?_
  refine g_get X FL_X6_21 dX6_setStranger_18 21 rfl 4 rfl (v := .ref (a 3)) rfl ?_
  refine g_get X FL_X6_66 dX6_setStranger_21 24 rfl 7 rfl (v := .ref (a 9)) rfl ?_
  refine g_get X FL_X6_125 dX6_setStranger_24 27 rfl 13 rfl (v := .ref (a 11)) rfl ?_
  refine g_iload_n X dX6_setStranger_27 28 rfl rfl ?_
  refine g_iload_n X dX6_setStranger_28 29 rfl rfl ?_
  refine g_zast X dX6_setStranger_29 30 rfl 15 rfl (by first | exact vA ‹_› | exact vC ‹_› | exact vG ‹_› | assumption | exact vp_in_nI (by omega) (by omega)) (bi_vp _) (WW E b μ a (put σ 6 (upd (σ 6) (ix x) (bi u))) wr) rfl ?_
  refine g_iload_n X dX6_setStranger_30 31 rfl rfl ?_
  exact g_zretT X hr dX6_setStranger_31 zb (hz c1) (Nat.le_of_ble_eq_true rfl) (Nat.le_of_ble_eq_true rfl) (by simp [oSet, tSet, c1]) (by simp [oSet, tSet, c1])

set_option maxHeartbeats 4000000 in
set_option maxRecDepth 100000 in
theorem k_X6_setDirect (E : kE) (l : Launch) (hlt : l.stackTraces = false) (wr : va_W) (b : Nat → Nat) (μ : Sto) (a : Nat → Nat) (σ : Sto) (x : Int32) (u : Bool) (zb : Bool) (hz : inG x = true → σ 20 (ix x) = bi zb) : KT E l yX6_setDirect cX6_setDirect 4 (some .boolean) 7 110 4 24 [.ref (a 0), .int x, .int (bi u)] (WW E b μ a σ wr) (oSet σ (inG x) 20 x) (WW E b μ a (tSet σ (inG x) 20 x (bi u)) wr) := by
  refine KT_start (own := RX6) (by decide +kernel) rfl [(0, .ref (a 0)), (1, .int x), (2, .int (bi u))] rfl (Nat.le_of_ble_eq_true rfl) (fun p e s m below meth c X hr hT hZ => ?_)
  refine g_iload_n X dX6_setDirect_0 1 rfl rfl ?_
  refine c_RS X hT hZ Lk_X6_28 (k_X6_requireGroup E l hlt wr b μ a σ x) dX6_setDirect_1 rfl rfl (Nat.le_of_ble_eq_true rfl) ⟨(Nat.le_of_ble_eq_true rfl), (Nat.le_of_ble_eq_true rfl)⟩ ⟨(Nat.le_of_ble_eq_true rfl), (Nat.le_of_ble_eq_true rfl)⟩ (Nat.le_of_ble_eq_true rfl) (Nat.le_of_ble_eq_true rfl) 4 rfl (fun c1 => ?_) (fun c1 => ⟨(by simp [oSet, tSet, c1]), (by simp [oSet, tSet, c1])⟩)
  refine g_aload_n X dX6_setDirect_4 5 rfl rfl ?_
  refine g_get X FL_X6_21 dX6_setDirect_5 8 rfl 4 rfl (v := .ref (a 3)) rfl ?_
  refine g_get X FL_X6_130 dX6_setDirect_8 11 rfl 7 rfl (v := .ref (a 22)) rfl ?_
  refine g_get X FL_X6_144 dX6_setDirect_11 14 rfl 26 rfl (v := .ref (a 23)) rfl ?_
  refine g_iload_n X dX6_setDirect_14 15 rfl rfl ?_
  refine g_zald X dX6_setDirect_15 16 rfl 27 rfl (by first | exact vA ‹_› | exact vC ‹_› | exact vG ‹_› | assumption | exact vp_in_nI (by omega) (by omega)) ?_
  refine g_istore_n X dX6_setDirect_16 17 rfl (by decide) [(3, .int (σ 20 (ix x))), (0, .ref (a 0)), (1, .int x), (2, .int (bi u))] rfl ?_
  refine g_aload_n X dX6_setDirect_17 18 rfl rfl ?_
  refine g_get X FL_X6_21 dX6_setDirect_18 21 rfl 4 rfl (v := .ref (a 3)) rfl ?_
  refine g_get X FL_X6_130 dX6_setDirect_21 24 rfl 7 rfl (v := .ref (a 22)) rfl ?_
  refine g_get X FL_X6_144 dX6_setDirect_24 27 rfl 26 rfl (v := .ref (a 23)) rfl ?_
  refine g_iload_n X dX6_setDirect_27 28 rfl rfl ?_
  refine g_iload_n X dX6_setDirect_28 29 rfl rfl ?_
  refine g_zast X dX6_setDirect_29 30 rfl 27 rfl (by first | exact vA ‹_› | exact vC ‹_› | exact vG ‹_› | assumption | exact vp_in_nI (by omega) (by omega)) (bi_vp _) (WW E b μ a (put σ 20 (upd (σ 20) (ix x) (bi u))) wr) rfl ?_
  refine g_iload_n X dX6_setDirect_30 31 rfl rfl ?_
  exact g_zretT X hr dX6_setDirect_31 zb (hz c1) (Nat.le_of_ble_eq_true rfl) (Nat.le_of_ble_eq_true rfl) (by simp [oSet, tSet, c1]) (by simp [oSet, tSet, c1])

set_option maxHeartbeats 4000000 in
set_option maxRecDepth 100000 in
theorem k_X6_setRelay (E : kE) (l : Launch) (hlt : l.stackTraces = false) (wr : va_W) (b : Nat → Nat) (μ : Sto) (a : Nat → Nat) (σ : Sto) (x : Int32) (u : Bool) (zb : Bool) (hz : inG x = true → σ 21 (ix x) = bi zb) : KT E l yX6_setRelay cX6_setRelay 4 (some .boolean) 7 110 4 24 [.ref (a 0), .int x, .int (bi u)] (WW E b μ a σ wr) (oSet σ (inG x) 21 x) (WW E b μ a (tSet σ (inG x) 21 x (bi u)) wr) := by
  refine KT_start (own := RX6) (by decide +kernel) rfl [(0, .ref (a 0)), (1, .int x), (2, .int (bi u))] rfl (Nat.le_of_ble_eq_true rfl) (fun p e s m below meth c X hr hT hZ => ?_)
  refine g_iload_n X dX6_setRelay_0 1 rfl rfl ?_
  refine c_RS X hT hZ Lk_X6_28 (k_X6_requireGroup E l hlt wr b μ a σ x) dX6_setRelay_1 rfl rfl (Nat.le_of_ble_eq_true rfl) ⟨(Nat.le_of_ble_eq_true rfl), (Nat.le_of_ble_eq_true rfl)⟩ ⟨(Nat.le_of_ble_eq_true rfl), (Nat.le_of_ble_eq_true rfl)⟩ (Nat.le_of_ble_eq_true rfl) (Nat.le_of_ble_eq_true rfl) 4 rfl (fun c1 => ?_) (fun c1 => ⟨(by simp [oSet, tSet, c1]), (by simp [oSet, tSet, c1])⟩)
  refine g_aload_n X dX6_setRelay_4 5 rfl rfl ?_
  refine g_get X FL_X6_21 dX6_setRelay_5 8 rfl 4 rfl (v := .ref (a 3)) rfl ?_
  refine g_get X FL_X6_130 dX6_setRelay_8 11 rfl 7 rfl (v := .ref (a 22)) rfl ?_
  refine g_get X FL_X6_147 dX6_setRelay_11 14 rfl 26 rfl (v := .ref (a 24)) rfl ?_
  refine g_iload_n X dX6_setRelay_14 15 rfl rfl ?_
  refine g_zald X dX6_setRelay_15 16 rfl 28 rfl (by first | exact vA ‹_› | exact vC ‹_› | exact vG ‹_› | assumption | exact vp_in_nI (by omega) (by omega)) ?_
  refine g_istore_n X dX6_setRelay_16 17 rfl (by decide) [(3, .int (σ 21 (ix x))), (0, .ref (a 0)), (1, .int x), (2, .int (bi u))] rfl ?_
  refine g_aload_n X dX6_setRelay_17 18 rfl rfl ?_
  refine g_get X FL_X6_21 dX6_setRelay_18 21 rfl 4 rfl (v := .ref (a 3)) rfl ?_
  refine g_get X FL_X6_130 dX6_setRelay_21 24 rfl 7 rfl (v := .ref (a 22)) rfl ?_
  refine g_get X FL_X6_147 dX6_setRelay_24 27 rfl 26 rfl (v := .ref (a 24)) rfl ?_
  refine g_iload_n X dX6_setRelay_27 28 rfl rfl ?_
  refine g_iload_n X dX6_setRelay_28 29 rfl rfl ?_
  refine g_zast X dX6_setRelay_29 30 rfl 28 rfl (by first | exact vA ‹_› | exact vC ‹_› | exact vG ‹_› | assumption | exact vp_in_nI (by omega) (by omega)) (bi_vp _) (WW E b μ a (put σ 21 (upd (σ 21) (ix x) (bi u))) wr) rfl ?_
  refine g_iload_n X dX6_setRelay_30 31 rfl rfl ?_
  exact g_zretT X hr dX6_setRelay_31 zb (hz c1) (Nat.le_of_ble_eq_true rfl) (Nat.le_of_ble_eq_true rfl) (by simp [oSet, tSet, c1]) (by simp [oSet, tSet, c1])

set_option maxHeartbeats 4000000 in
set_option maxRecDepth 100000 in
theorem k_X6_setHold (E : kE) (l : Launch) (hlt : l.stackTraces = false) (wr : va_W) (b : Nat → Nat) (μ : Sto) (a : Nat → Nat) (σ : Sto) (x : Int32) : KT E l yX6_setHold cX6_setHold 3 (some .int) 6 90 4 24 [.ref (a 0), .int x] (WW E b μ a σ wr) (oNum σ x 50 17) (WW E b μ a (tNum σ x 50 17) wr) := by
  refine KT_start (own := RX6) (by decide +kernel) rfl [(0, .ref (a 0)), (1, .int x)] rfl (Nat.le_of_ble_eq_true rfl) (fun p e s m below meth c X hr hT hZ => ?_)
  refine g_iload_n X dX6_setHold_0 1 rfl rfl ?_
  refine g_iconst X dX6_setHold_1 2 rfl (v := 1) rfl ?_
  refine g_ic_lt X dX6_setHold_2 11 5 rfl rfl (fun c1 => ?_) (fun c1 => ?_)
  · skip
    exact g_throwS X hlt hT hZ LX_IAE (List.mem_of_getElem? (i := 6) rfl) dX6_setHold_11 dX6_setHold_14 dX6_setHold_15 dX6_setHold_17 dX6_setHold_20 (Nat.le_of_ble_eq_true rfl) (Nat.le_of_ble_eq_true rfl) ⟨(Nat.le_of_ble_eq_true rfl), (Nat.le_of_ble_eq_true rfl)⟩ (Nat.le_of_ble_eq_true rfl) (Nat.le_of_ble_eq_true rfl) (by simp [oNum, tNum, c1]) (by simp [oNum, tNum, c1])
  · skip
    refine g_iload_n X dX6_setHold_5 6 rfl rfl ?_
    refine g_bipush X dX6_setHold_6 8 rfl (v := 50) rfl ?_
    refine g_ic_le X dX6_setHold_8 21 11 rfl rfl (fun c2 => ?_) (fun c2 => ?_)
    · skip
      refine g_aload_n X dX6_setHold_21 22 rfl rfl ?_
      refine g_get X FL_X6_21 dX6_setHold_22 25 rfl 4 rfl (v := .ref (a 3)) rfl ?_
      refine g_get X FL_X6_130 dX6_setHold_25 28 rfl 7 rfl (v := .ref (a 22)) rfl ?_
      refine g_get X FL_X6_134 dX6_setHold_28 31 rfl 26 rfl (v := .int (σ 17 0)) rfl ?_
      refine g_istore_n X dX6_setHold_31 32 rfl (by decide) [(2, .int (σ 17 0)), (0, .ref (a 0)), (1, .int x)] rfl ?_
      refine g_aload_n X dX6_setHold_32 33 rfl rfl ?_
      refine g_get X FL_X6_21 dX6_setHold_33 36 rfl 4 rfl (v := .ref (a 3)) rfl ?_
      refine g_get X FL_X6_130 dX6_setHold_36 39 rfl 7 rfl (v := .ref (a 22)) rfl ?_
      refine g_iload_n X dX6_setHold_39 40 rfl rfl ?_
      refine g_put X FL_X6_134 fk_X4 dX6_setHold_40 43 rfl rfl 26 rfl rfl rfl (Nat.le_of_ble_eq_true rfl) (WW E b μ a (put σ 17 (sc x)) wr) rfl ?_
      refine g_iload_n X dX6_setHold_43 44 rfl rfl ?_
      exact g_iretT X hr dX6_setHold_44 (Nat.le_of_ble_eq_true rfl) (Nat.le_of_ble_eq_true rfl) (by simp [oNum, tNum, c1, c2]) (by simp [oNum, tNum, c1, c2])
    · skip
      exact g_throwS X hlt hT hZ LX_IAE (List.mem_of_getElem? (i := 6) rfl) dX6_setHold_11 dX6_setHold_14 dX6_setHold_15 dX6_setHold_17 dX6_setHold_20 (Nat.le_of_ble_eq_true rfl) (Nat.le_of_ble_eq_true rfl) ⟨(Nat.le_of_ble_eq_true rfl), (Nat.le_of_ble_eq_true rfl)⟩ (Nat.le_of_ble_eq_true rfl) (Nat.le_of_ble_eq_true rfl) (by simp [oNum, tNum, c1, c2]) (by simp [oNum, tNum, c1, c2])

set_option maxHeartbeats 4000000 in
set_option maxRecDepth 100000 in
theorem k_X6_setQuarantine (E : kE) (l : Launch) (hlt : l.stackTraces = false) (wr : va_W) (b : Nat → Nat) (μ : Sto) (a : Nat → Nat) (σ : Sto) (x : Int32) : KT E l yX6_setQuarantine cX6_setQuarantine 3 (some .int) 6 90 4 24 [.ref (a 0), .int x] (WW E b μ a σ wr) (oNum σ x 500 18) (WW E b μ a (tNum σ x 500 18) wr) := by
  refine KT_start (own := RX6) (by decide +kernel) rfl [(0, .ref (a 0)), (1, .int x)] rfl (Nat.le_of_ble_eq_true rfl) (fun p e s m below meth c X hr hT hZ => ?_)
  refine g_iload_n X dX6_setQuarantine_0 1 rfl rfl ?_
  refine g_iconst X dX6_setQuarantine_1 2 rfl (v := 1) rfl ?_
  refine g_ic_lt X dX6_setQuarantine_2 12 5 rfl rfl (fun c1 => ?_) (fun c1 => ?_)
  · skip
    exact g_throwS X hlt hT hZ LX_IAE (List.mem_of_getElem? (i := 7) rfl) dX6_setQuarantine_12 dX6_setQuarantine_15 dX6_setQuarantine_16 dX6_setQuarantine_18 dX6_setQuarantine_21 (Nat.le_of_ble_eq_true rfl) (Nat.le_of_ble_eq_true rfl) ⟨(Nat.le_of_ble_eq_true rfl), (Nat.le_of_ble_eq_true rfl)⟩ (Nat.le_of_ble_eq_true rfl) (Nat.le_of_ble_eq_true rfl) (by simp [oNum, tNum, c1]) (by simp [oNum, tNum, c1])
  · skip
    refine g_iload_n X dX6_setQuarantine_5 6 rfl rfl ?_
    refine g_sipush X dX6_setQuarantine_6 9 rfl (v := 500) rfl ?_
    refine g_ic_le X dX6_setQuarantine_9 22 12 rfl rfl (fun c2 => ?_) (fun c2 => ?_)
    · skip
      refine g_aload_n X dX6_setQuarantine_22 23 rfl rfl ?_
      refine g_get X FL_X6_21 dX6_setQuarantine_23 26 rfl 4 rfl (v := .ref (a 3)) rfl ?_
      refine g_get X FL_X6_130 dX6_setQuarantine_26 29 rfl 7 rfl (v := .ref (a 22)) rfl ?_
      refine g_get X FL_X6_141 dX6_setQuarantine_29 32 rfl 26 rfl (v := .int (σ 18 0)) rfl ?_
      refine g_istore_n X dX6_setQuarantine_32 33 rfl (by decide) [(2, .int (σ 18 0)), (0, .ref (a 0)), (1, .int x)] rfl ?_
      refine g_aload_n X dX6_setQuarantine_33 34 rfl rfl ?_
      refine g_get X FL_X6_21 dX6_setQuarantine_34 37 rfl 4 rfl (v := .ref (a 3)) rfl ?_
      refine g_get X FL_X6_130 dX6_setQuarantine_37 40 rfl 7 rfl (v := .ref (a 22)) rfl ?_
      refine g_iload_n X dX6_setQuarantine_40 41 rfl rfl ?_
      refine g_put X FL_X6_141 fk_X4 dX6_setQuarantine_41 44 rfl rfl 26 rfl rfl rfl (Nat.le_of_ble_eq_true rfl) (WW E b μ a (put σ 18 (sc x)) wr) rfl ?_
      refine g_iload_n X dX6_setQuarantine_44 45 rfl rfl ?_
      exact g_iretT X hr dX6_setQuarantine_45 (Nat.le_of_ble_eq_true rfl) (Nat.le_of_ble_eq_true rfl) (by simp [oNum, tNum, c1, c2]) (by simp [oNum, tNum, c1, c2])
    · skip
      exact g_throwS X hlt hT hZ LX_IAE (List.mem_of_getElem? (i := 7) rfl) dX6_setQuarantine_12 dX6_setQuarantine_15 dX6_setQuarantine_16 dX6_setQuarantine_18 dX6_setQuarantine_21 (Nat.le_of_ble_eq_true rfl) (Nat.le_of_ble_eq_true rfl) ⟨(Nat.le_of_ble_eq_true rfl), (Nat.le_of_ble_eq_true rfl)⟩ (Nat.le_of_ble_eq_true rfl) (Nat.le_of_ble_eq_true rfl) (by simp [oNum, tNum, c1, c2]) (by simp [oNum, tNum, c1, c2])

set_option maxHeartbeats 4000000 in
set_option maxRecDepth 100000 in
theorem k_X6_discover (E : kE) (l : Launch) (hlt : l.stackTraces = false) (wr : va_W) (b : Nat → Nat) (μ : Sto) (a : Nat → Nat) (σ : Sto) (cn : Int32) (g : Int32) (x : Int32) : KT E l yX6_discover cX6_discover 5 (some .int) 7 139 4 24 [.ref (a 0), .int cn, .int g, .int x] (WW E b μ a σ wr) (oDis σ cn g x) (WW E b μ a (tDis σ cn g x) wr) := by
  refine KT_start (own := RX6) (by decide +kernel) rfl [(0, .ref (a 0)), (1, .int cn), (2, .int g), (3, .int x)] rfl (Nat.le_of_ble_eq_true rfl) (fun p e s m below meth c X hr hT hZ => ?_)
  refine g_iload_n X dX6_discover_0 1 rfl rfl ?_
  refine c_RS X hT hZ Lk_X6_150 (k_X6_requireClient E l hlt wr b μ a σ cn) dX6_discover_1 rfl rfl (Nat.le_of_ble_eq_true rfl) ⟨(Nat.le_of_ble_eq_true rfl), (Nat.le_of_ble_eq_true rfl)⟩ ⟨(Nat.le_of_ble_eq_true rfl), (Nat.le_of_ble_eq_true rfl)⟩ (Nat.le_of_ble_eq_true rfl) (Nat.le_of_ble_eq_true rfl) 4 rfl (fun c1 => ?_) (fun c1 => ⟨(by simp [oDis, tDis, c1]), (by simp [oDis, tDis, c1])⟩)
  refine g_iload_n X dX6_discover_4 5 rfl rfl ?_
  refine c_RS X hT hZ Lk_X6_28 (k_X6_requireGroup E l hlt wr b μ a σ g) dX6_discover_5 rfl rfl (Nat.le_of_ble_eq_true rfl) ⟨(Nat.le_of_ble_eq_true rfl), (Nat.le_of_ble_eq_true rfl)⟩ ⟨(Nat.le_of_ble_eq_true rfl), (Nat.le_of_ble_eq_true rfl)⟩ (Nat.le_of_ble_eq_true rfl) (Nat.le_of_ble_eq_true rfl) 8 rfl (fun c2 => ?_) (fun c2 => ⟨(by simp [oDis, tDis, c1, c2]), (by simp [oDis, tDis, c1, c2])⟩)
  refine g_aload_n X dX6_discover_8 9 rfl rfl ?_
  refine g_get X FL_X6_21 dX6_discover_9 12 rfl 4 rfl (v := .ref (a 3)) rfl ?_
  refine g_get X FL_X6_153 dX6_discover_12 15 rfl 7 rfl (v := .ref (a 16)) rfl ?_
  refine g_iload_n X dX6_discover_15 16 rfl rfl ?_
  refine c_V X Lk_X6_157 (k_X1_isBound E l wr b μ a σ cn) dX6_discover_16 rfl 20 rfl rfl rfl (Nat.le_of_ble_eq_true rfl) ⟨(Nat.le_of_ble_eq_true rfl), (Nat.le_of_ble_eq_true rfl)⟩ ⟨(Nat.le_of_ble_eq_true rfl), (Nat.le_of_ble_eq_true rfl)⟩ 19 rfl [.int (bi (isBd σ cn))] rfl ?_
  refine g_ifb_eq X dX6_discover_19 32 22 rfl rfl (fun c3 => ?_) (fun c3 => ?_)
  · skip
    refine g_aload_n X dX6_discover_32 33 rfl rfl ?_
    refine g_get X FL_X6_21 dX6_discover_33 36 rfl 4 rfl (v := .ref (a 3)) rfl ?_
    refine g_get X FL_X6_130 dX6_discover_36 39 rfl 7 rfl (v := .ref (a 22)) rfl ?_
    refine g_get X FL_X6_147 dX6_discover_39 42 rfl 26 rfl (v := .ref (a 24)) rfl ?_
    refine g_iload_n X dX6_discover_42 43 rfl rfl ?_
    refine g_zald X dX6_discover_43 44 rfl 28 rfl (by first | exact vA ‹_› | exact vC ‹_› | exact vG ‹_› | assumption | exact vp_in_nI (by omega) (by omega)) ?_
    refine g_if_ne X dX6_discover_44 57 47 rfl rfl (fun c4 => ?_) (fun c4 => ?_)
    · skip
      refine g_aload_n X dX6_discover_57 58 rfl rfl ?_
      refine g_get X FL_X6_21 dX6_discover_58 61 rfl 4 rfl (v := .ref (a 3)) rfl ?_
      refine g_iload_n X dX6_discover_61 62 rfl rfl ?_
      refine g_iload_n X dX6_discover_62 63 rfl rfl ?_
      refine g_iload_n X dX6_discover_63 64 rfl rfl ?_
      refine c_V X Lk_X6_166 (k_X5_makeOffer E l wr b μ a σ cn g x) dX6_discover_64 rfl 7 rfl rfl rfl (Nat.le_of_ble_eq_true rfl) ⟨(Nat.le_of_ble_eq_true rfl), (Nat.le_of_ble_eq_true rfl)⟩ ⟨(Nat.le_of_ble_eq_true rfl), (Nat.le_of_ble_eq_true rfl)⟩ 67 rfl [.int ((MO σ cn g x).1)] rfl ?_
      refine g_istore X dX6_discover_67 69 rfl (by decide) [(4, .int ((MO σ cn g x).1)), (0, .ref (a 0)), (1, .int cn), (2, .int g), (3, .int x)] rfl ?_
      refine g_iload X dX6_discover_69 71 rfl rfl ?_
      refine g_iconst X dX6_discover_71 72 rfl (v := -1) rfl ?_
      refine g_ic_ne X dX6_discover_72 85 75 rfl rfl (fun c5 => ?_) (fun c5 => ?_)
      · skip
        refine g_iload X dX6_discover_85 87 rfl rfl ?_
        exact g_iretT X hr dX6_discover_87 (Nat.le_of_ble_eq_true rfl) (Nat.le_of_ble_eq_true rfl) (by simp [oDis, tDis, c1, c2, c3, c4, c5]) (by simp [oDis, tDis, c1, c2, c3, c4, c5])
      · skip
        exact g_throwNS X hlt hT hZ (List.mem_of_getElem? (i := 10) rfl) dX6_discover_75 dX6_discover_78 dX6_discover_79 dX6_discover_81 dX6_discover_84 (Nat.le_of_ble_eq_true rfl) (Nat.le_of_ble_eq_true rfl) ⟨(Nat.le_of_ble_eq_true rfl), (Nat.le_of_ble_eq_true rfl)⟩ (Nat.le_of_ble_eq_true rfl) (Nat.le_of_ble_eq_true rfl) (by simp [oDis, tDis, c1, c2, c3, c4, c5]) (by simp [oDis, tDis, c1, c2, c3, c4, c5])
    · skip
      exact g_throwS X hlt hT hZ LX_ISE (List.mem_of_getElem? (i := 9) rfl) dX6_discover_47 dX6_discover_50 dX6_discover_51 dX6_discover_53 dX6_discover_56 (Nat.le_of_ble_eq_true rfl) (Nat.le_of_ble_eq_true rfl) ⟨(Nat.le_of_ble_eq_true rfl), (Nat.le_of_ble_eq_true rfl)⟩ (Nat.le_of_ble_eq_true rfl) (Nat.le_of_ble_eq_true rfl) (by simp [oDis, tDis, c1, c2, c3, c4]) (by simp [oDis, tDis, c1, c2, c3, c4])
  · skip
    exact g_throwS X hlt hT hZ LX_ISE (List.mem_of_getElem? (i := 8) rfl) dX6_discover_22 dX6_discover_25 dX6_discover_26 dX6_discover_28 dX6_discover_31 (Nat.le_of_ble_eq_true rfl) (Nat.le_of_ble_eq_true rfl) ⟨(Nat.le_of_ble_eq_true rfl), (Nat.le_of_ble_eq_true rfl)⟩ (Nat.le_of_ble_eq_true rfl) (Nat.le_of_ble_eq_true rfl) (by simp [oDis, tDis, c1, c2, c3]) (by simp [oDis, tDis, c1, c2, c3])

set_option maxHeartbeats 4000000 in
set_option maxRecDepth 100000 in
theorem k_X6_accept (E : kE) (l : Launch) (hlt : l.stackTraces = false) (wr : va_W) (b : Nat → Nat) (μ : Sto) (a : Nat → Nat) (σ : Sto) (cn : Int32) : KT E l yX6_accept cX6_accept 2 (some .int) 7 110 4 24 [.ref (a 0), .int cn] (WW E b μ a σ wr) (oAcc σ cn) (WW E b μ a (tAcc σ cn) wr) := by
  refine KT_start (own := RX6) (by decide +kernel) rfl [(0, .ref (a 0)), (1, .int cn)] rfl (Nat.le_of_ble_eq_true rfl) (fun p e s m below meth c X hr hT hZ => ?_)
  refine g_iload_n X dX6_accept_0 1 rfl rfl ?_
  refine c_RS X hT hZ Lk_X6_150 (k_X6_requireClient E l hlt wr b μ a σ cn) dX6_accept_1 rfl rfl (Nat.le_of_ble_eq_true rfl) ⟨(Nat.le_of_ble_eq_true rfl), (Nat.le_of_ble_eq_true rfl)⟩ ⟨(Nat.le_of_ble_eq_true rfl), (Nat.le_of_ble_eq_true rfl)⟩ (Nat.le_of_ble_eq_true rfl) (Nat.le_of_ble_eq_true rfl) 4 rfl (fun c1 => ?_) (fun c1 => ⟨(by simp [oAcc, tAcc, c1]), (by simp [oAcc, tAcc, c1])⟩)
  refine g_aload_n X dX6_accept_4 5 rfl rfl ?_
  refine g_get X FL_X6_21 dX6_accept_5 8 rfl 4 rfl (v := .ref (a 3)) rfl ?_
  refine g_get X FL_X6_153 dX6_accept_8 11 rfl 7 rfl (v := .ref (a 16)) rfl ?_
  refine g_get X FL_X6_174 dX6_accept_11 14 rfl 20 rfl (v := .ref (a 17)) rfl ?_
  refine g_iload_n X dX6_accept_14 15 rfl rfl ?_
  refine g_iald X dX6_accept_15 16 rfl 21 rfl (by first | exact vA ‹_› | exact vC ‹_› | exact vG ‹_› | assumption | exact vp_in_nI (by omega) (by omega)) ?_
  refine g_iconst X dX6_accept_16 17 rfl (v := 1) rfl ?_
  refine g_ic_eq X dX6_accept_17 30 20 rfl rfl (fun c2 => ?_) (fun c2 => ?_)
  · skip
    refine g_aload_n X dX6_accept_30 31 rfl rfl ?_
    refine g_get X FL_X6_21 dX6_accept_31 34 rfl 4 rfl (v := .ref (a 3)) rfl ?_
    refine g_iload_n X dX6_accept_34 35 rfl rfl ?_
    refine c_V X Lk_X6_178 (k_X5_relayUpFor E l wr b μ a σ cn) dX6_accept_35 rfl 7 rfl rfl rfl (Nat.le_of_ble_eq_true rfl) ⟨(Nat.le_of_ble_eq_true rfl), (Nat.le_of_ble_eq_true rfl)⟩ ⟨(Nat.le_of_ble_eq_true rfl), (Nat.le_of_ble_eq_true rfl)⟩ 38 rfl [.int (bi (rUp σ cn))] rfl ?_
    refine g_ifb_ne X dX6_accept_38 51 41 rfl rfl (fun c3 => ?_) (fun c3 => ?_)
    · skip
      refine g_aload_n X dX6_accept_51 52 rfl rfl ?_
      refine g_get X FL_X6_21 dX6_accept_52 55 rfl 4 rfl (v := .ref (a 3)) rfl ?_
      refine g_iload_n X dX6_accept_55 56 rfl rfl ?_
      refine c_V X Lk_X6_181 (k_X5_beginLease E l wr b μ a σ cn) dX6_accept_56 rfl 7 rfl rfl rfl (Nat.le_of_ble_eq_true rfl) ⟨(Nat.le_of_ble_eq_true rfl), (Nat.le_of_ble_eq_true rfl)⟩ ⟨(Nat.le_of_ble_eq_true rfl), (Nat.le_of_ble_eq_true rfl)⟩ 59 rfl [] rfl ?_
      refine g_aload_n X dX6_accept_59 60 rfl rfl ?_
      refine g_get X FL_X6_21 dX6_accept_60 63 rfl 4 rfl (v := .ref (a 3)) rfl ?_
      refine g_get X FL_X6_153 dX6_accept_63 66 rfl 7 rfl (v := .ref (a 16)) rfl ?_
      refine g_get X FL_X6_184 dX6_accept_66 69 rfl 20 rfl (v := .ref (a 18)) rfl ?_
      refine g_iload_n X dX6_accept_69 70 rfl rfl ?_
      refine g_iald X dX6_accept_70 71 rfl 22 rfl (by first | exact vA ‹_› | exact vC ‹_› | exact vG ‹_› | assumption | exact vp_in_nI (by omega) (by omega)) ?_
      exact g_iretT X hr dX6_accept_71 (Nat.le_of_ble_eq_true rfl) (Nat.le_of_ble_eq_true rfl) (by simp [oAcc, tAcc, c1, c2, c3]) (by simp [oAcc, tAcc, c1, c2, c3])
    · skip
      exact g_throwS X hlt hT hZ LX_ISE (List.mem_of_getElem? (i := 9) rfl) dX6_accept_41 dX6_accept_44 dX6_accept_45 dX6_accept_47 dX6_accept_50 (Nat.le_of_ble_eq_true rfl) (Nat.le_of_ble_eq_true rfl) ⟨(Nat.le_of_ble_eq_true rfl), (Nat.le_of_ble_eq_true rfl)⟩ (Nat.le_of_ble_eq_true rfl) (Nat.le_of_ble_eq_true rfl) (by simp [oAcc, tAcc, c1, c2, c3]) (by simp [oAcc, tAcc, c1, c2, c3])
  · skip
    exact g_throwNS X hlt hT hZ (List.mem_of_getElem? (i := 11) rfl) dX6_accept_20 dX6_accept_23 dX6_accept_24 dX6_accept_26 dX6_accept_29 (Nat.le_of_ble_eq_true rfl) (Nat.le_of_ble_eq_true rfl) ⟨(Nat.le_of_ble_eq_true rfl), (Nat.le_of_ble_eq_true rfl)⟩ (Nat.le_of_ble_eq_true rfl) (Nat.le_of_ble_eq_true rfl) (by simp [oAcc, tAcc, c1, c2]) (by simp [oAcc, tAcc, c1, c2])

set_option maxHeartbeats 4000000 in
set_option maxRecDepth 100000 in
theorem k_X6_release (E : kE) (l : Launch) (hlt : l.stackTraces = false) (wr : va_W) (b : Nat → Nat) (μ : Sto) (a : Nat → Nat) (σ : Sto) (cn : Int32) : KT E l yX6_release cX6_release 3 (some .int) 7 111 4 24 [.ref (a 0), .int cn] (WW E b μ a σ wr) (oBd σ cn (oI (σ 12 (ix cn)))) (WW E b μ a (tBd σ cn (logW (eHd σ cn) 6 (σ 12 (ix cn)))) wr) := by
  refine KT_start (own := RX6) (by decide +kernel) rfl [(0, .ref (a 0)), (1, .int cn)] rfl (Nat.le_of_ble_eq_true rfl) (fun p e s m below meth c X hr hT hZ => ?_)
  refine g_iload_n X dX6_release_0 1 rfl rfl ?_
  refine c_RS X hT hZ Lk_X6_150 (k_X6_requireClient E l hlt wr b μ a σ cn) dX6_release_1 rfl rfl (Nat.le_of_ble_eq_true rfl) ⟨(Nat.le_of_ble_eq_true rfl), (Nat.le_of_ble_eq_true rfl)⟩ ⟨(Nat.le_of_ble_eq_true rfl), (Nat.le_of_ble_eq_true rfl)⟩ (Nat.le_of_ble_eq_true rfl) (Nat.le_of_ble_eq_true rfl) 4 rfl (fun c1 => ?_) (fun c1 => ⟨(by simp [oBd, tBd, c1]), (by simp [oBd, tBd, c1])⟩)
  refine g_aload_n X dX6_release_4 5 rfl rfl ?_
  refine g_iload_n X dX6_release_5 6 rfl rfl ?_
  refine c_RV X hT hZ Lk_X6_187 (k_X6_requireBound E l hlt wr b μ a σ cn) dX6_release_6 rfl 4 rfl rfl rfl (Nat.le_of_ble_eq_true rfl) ⟨(Nat.le_of_ble_eq_true rfl), (Nat.le_of_ble_eq_true rfl)⟩ ⟨(Nat.le_of_ble_eq_true rfl), (Nat.le_of_ble_eq_true rfl)⟩ (Nat.le_of_ble_eq_true rfl) (Nat.le_of_ble_eq_true rfl) 9 rfl (fun c2 => ?_) (fun c2 => ⟨(by simp [oBd, tBd, c1, c2]), (by simp [oBd, tBd, c1, c2])⟩)
  refine g_aload_n X dX6_release_9 10 rfl rfl ?_
  refine g_get X FL_X6_21 dX6_release_10 13 rfl 4 rfl (v := .ref (a 3)) rfl ?_
  refine g_get X FL_X6_153 dX6_release_13 16 rfl 7 rfl (v := .ref (a 16)) rfl ?_
  refine g_get X FL_X6_184 dX6_release_16 19 rfl 20 rfl (v := .ref (a 18)) rfl ?_
  refine g_iload_n X dX6_release_19 20 rfl rfl ?_
  refine g_iald X dX6_release_20 21 rfl 22 rfl (by first | exact vA ‹_› | exact vC ‹_› | exact vG ‹_› | assumption | exact vp_in_nI (by omega) (by omega)) ?_
  refine g_istore_n X dX6_release_21 22 rfl (by decide) [(2, .int (σ 12 (ix cn))), (0, .ref (a 0)), (1, .int cn)] rfl ?_
  refine g_aload_n X dX6_release_22 23 rfl rfl ?_
  refine g_get X FL_X6_21 dX6_release_23 26 rfl 4 rfl (v := .ref (a 3)) rfl ?_
  refine g_iload_n X dX6_release_26 27 rfl rfl ?_
  refine c_V X Lk_X6_190 (k_X5_endHolding E l wr b μ a σ cn) dX6_release_27 rfl 7 rfl rfl rfl (Nat.le_of_ble_eq_true rfl) ⟨(Nat.le_of_ble_eq_true rfl), (Nat.le_of_ble_eq_true rfl)⟩ ⟨(Nat.le_of_ble_eq_true rfl), (Nat.le_of_ble_eq_true rfl)⟩ 30 rfl [] rfl ?_
  refine g_aload_n X dX6_release_30 31 rfl rfl ?_
  refine g_get X FL_X6_10 dX6_release_31 34 rfl 4 rfl (v := .ref (a 1)) rfl ?_
  refine g_bipush X dX6_release_34 36 rfl (v := 6) rfl ?_
  refine g_iload_n X dX6_release_36 37 rfl rfl ?_
  refine c_V X Lk_X6_193 (k_X2_write E l wr b μ a (eHd σ cn) 6 (σ 12 (ix cn))) dX6_release_37 rfl 5 rfl rfl rfl (Nat.le_of_ble_eq_true rfl) ⟨(Nat.le_of_ble_eq_true rfl), (Nat.le_of_ble_eq_true rfl)⟩ ⟨(Nat.le_of_ble_eq_true rfl), (Nat.le_of_ble_eq_true rfl)⟩ 40 rfl [] rfl ?_
  refine g_iload_n X dX6_release_40 41 rfl rfl ?_
  exact g_iretT X hr dX6_release_41 (Nat.le_of_ble_eq_true rfl) (Nat.le_of_ble_eq_true rfl) (by simp [oBd, tBd, c1, c2]) (by simp [oBd, tBd, c1, c2])

set_option maxHeartbeats 4000000 in
set_option maxRecDepth 100000 in
theorem k_X6_decline (E : kE) (l : Launch) (hlt : l.stackTraces = false) (wr : va_W) (b : Nat → Nat) (μ : Sto) (a : Nat → Nat) (σ : Sto) (cn : Int32) : KT E l yX6_decline cX6_decline 3 (some .int) 7 111 4 24 [.ref (a 0), .int cn] (WW E b μ a σ wr) (oBd σ cn (oI (σ 12 (ix cn)))) (WW E b μ a (tBd σ cn (dLs σ cn)) wr) := by
  refine KT_start (own := RX6) (by decide +kernel) rfl [(0, .ref (a 0)), (1, .int cn)] rfl (Nat.le_of_ble_eq_true rfl) (fun p e s m below meth c X hr hT hZ => ?_)
  refine g_iload_n X dX6_decline_0 1 rfl rfl ?_
  refine c_RS X hT hZ Lk_X6_150 (k_X6_requireClient E l hlt wr b μ a σ cn) dX6_decline_1 rfl rfl (Nat.le_of_ble_eq_true rfl) ⟨(Nat.le_of_ble_eq_true rfl), (Nat.le_of_ble_eq_true rfl)⟩ ⟨(Nat.le_of_ble_eq_true rfl), (Nat.le_of_ble_eq_true rfl)⟩ (Nat.le_of_ble_eq_true rfl) (Nat.le_of_ble_eq_true rfl) 4 rfl (fun c1 => ?_) (fun c1 => ⟨(by simp [oBd, tBd, c1]), (by simp [oBd, tBd, c1])⟩)
  refine g_aload_n X dX6_decline_4 5 rfl rfl ?_
  refine g_iload_n X dX6_decline_5 6 rfl rfl ?_
  refine c_RV X hT hZ Lk_X6_187 (k_X6_requireBound E l hlt wr b μ a σ cn) dX6_decline_6 rfl 4 rfl rfl rfl (Nat.le_of_ble_eq_true rfl) ⟨(Nat.le_of_ble_eq_true rfl), (Nat.le_of_ble_eq_true rfl)⟩ ⟨(Nat.le_of_ble_eq_true rfl), (Nat.le_of_ble_eq_true rfl)⟩ (Nat.le_of_ble_eq_true rfl) (Nat.le_of_ble_eq_true rfl) 9 rfl (fun c2 => ?_) (fun c2 => ⟨(by simp [oBd, tBd, c1, c2]), (by simp [oBd, tBd, c1, c2])⟩)
  refine g_aload_n X dX6_decline_9 10 rfl rfl ?_
  refine g_get X FL_X6_21 dX6_decline_10 13 rfl 4 rfl (v := .ref (a 3)) rfl ?_
  refine g_get X FL_X6_153 dX6_decline_13 16 rfl 7 rfl (v := .ref (a 16)) rfl ?_
  refine g_get X FL_X6_184 dX6_decline_16 19 rfl 20 rfl (v := .ref (a 18)) rfl ?_
  refine g_iload_n X dX6_decline_19 20 rfl rfl ?_
  refine g_iald X dX6_decline_20 21 rfl 22 rfl (by first | exact vA ‹_› | exact vC ‹_› | exact vG ‹_› | assumption | exact vp_in_nI (by omega) (by omega)) ?_
  refine g_istore_n X dX6_decline_21 22 rfl (by decide) [(2, .int (σ 12 (ix cn))), (0, .ref (a 0)), (1, .int cn)] rfl ?_
  refine g_aload_n X dX6_decline_22 23 rfl rfl ?_
  refine g_get X FL_X6_21 dX6_decline_23 26 rfl 4 rfl (v := .ref (a 3)) rfl ?_
  refine g_iload_n X dX6_decline_26 27 rfl rfl ?_
  refine c_V X Lk_X6_196 (k_X5_declineLease E l wr b μ a σ cn) dX6_decline_27 rfl 7 rfl rfl rfl (Nat.le_of_ble_eq_true rfl) ⟨(Nat.le_of_ble_eq_true rfl), (Nat.le_of_ble_eq_true rfl)⟩ ⟨(Nat.le_of_ble_eq_true rfl), (Nat.le_of_ble_eq_true rfl)⟩ 30 rfl [] rfl ?_
  refine g_iload_n X dX6_decline_30 31 rfl rfl ?_
  exact g_iretT X hr dX6_decline_31 (Nat.le_of_ble_eq_true rfl) (Nat.le_of_ble_eq_true rfl) (by simp [oBd, tBd, c1, c2]) (by simp [oBd, tBd, c1, c2])

set_option maxHeartbeats 4000000 in
set_option maxRecDepth 100000 in
theorem k_X6_renew (E : kE) (l : Launch) (hlt : l.stackTraces = false) (wr : va_W) (b : Nat → Nat) (μ : Sto) (a : Nat → Nat) (σ : Sto) (cn : Int32) : KT E l yX6_renew cX6_renew 2 (some .boolean) 7 111 4 24 [.ref (a 0), .int cn] (WW E b μ a σ wr) (oBd σ cn (bif dUp σ cn then oI (bi (rBl σ cn)) else oX xISE)) (WW E b μ a (tBd σ cn (bif dUp σ cn then rSt σ cn else σ)) wr) := by
  refine KT_start (own := RX6) (by decide +kernel) rfl [(0, .ref (a 0)), (1, .int cn)] rfl (Nat.le_of_ble_eq_true rfl) (fun p e s m below meth c X hr hT hZ => ?_)
  refine g_iload_n X dX6_renew_0 1 rfl rfl ?_
  refine c_RS X hT hZ Lk_X6_150 (k_X6_requireClient E l hlt wr b μ a σ cn) dX6_renew_1 rfl rfl (Nat.le_of_ble_eq_true rfl) ⟨(Nat.le_of_ble_eq_true rfl), (Nat.le_of_ble_eq_true rfl)⟩ ⟨(Nat.le_of_ble_eq_true rfl), (Nat.le_of_ble_eq_true rfl)⟩ (Nat.le_of_ble_eq_true rfl) (Nat.le_of_ble_eq_true rfl) 4 rfl (fun c1 => ?_) (fun c1 => ⟨(by simp [oBd, tBd, c1]), (by simp [oBd, tBd, c1])⟩)
  refine g_aload_n X dX6_renew_4 5 rfl rfl ?_
  refine g_iload_n X dX6_renew_5 6 rfl rfl ?_
  refine c_RV X hT hZ Lk_X6_187 (k_X6_requireBound E l hlt wr b μ a σ cn) dX6_renew_6 rfl 4 rfl rfl rfl (Nat.le_of_ble_eq_true rfl) ⟨(Nat.le_of_ble_eq_true rfl), (Nat.le_of_ble_eq_true rfl)⟩ ⟨(Nat.le_of_ble_eq_true rfl), (Nat.le_of_ble_eq_true rfl)⟩ (Nat.le_of_ble_eq_true rfl) (Nat.le_of_ble_eq_true rfl) 9 rfl (fun c2 => ?_) (fun c2 => ⟨(by simp [oBd, tBd, c1, c2]), (by simp [oBd, tBd, c1, c2])⟩)
  refine g_aload_n X dX6_renew_9 10 rfl rfl ?_
  refine g_get X FL_X6_21 dX6_renew_10 13 rfl 4 rfl (v := .ref (a 3)) rfl ?_
  refine g_iload_n X dX6_renew_13 14 rfl rfl ?_
  refine c_V X Lk_X6_199 (k_X5_directUpFor E l wr b μ a σ cn) dX6_renew_14 rfl 7 rfl rfl rfl (Nat.le_of_ble_eq_true rfl) ⟨(Nat.le_of_ble_eq_true rfl), (Nat.le_of_ble_eq_true rfl)⟩ ⟨(Nat.le_of_ble_eq_true rfl), (Nat.le_of_ble_eq_true rfl)⟩ 17 rfl [.int (bi (dUp σ cn))] rfl ?_
  refine g_ifb_ne X dX6_renew_17 30 20 rfl rfl (fun c3 => ?_) (fun c3 => ?_)
  · skip
    refine g_aload_n X dX6_renew_30 31 rfl rfl ?_
    refine g_get X FL_X6_21 dX6_renew_31 34 rfl 4 rfl (v := .ref (a 3)) rfl ?_
    refine g_iload_n X dX6_renew_34 35 rfl rfl ?_
    refine c_V X Lk_X6_204 (k_X5_renewOrRefuse E l wr b μ a σ cn) dX6_renew_35 rfl 7 rfl rfl rfl (Nat.le_of_ble_eq_true rfl) ⟨(Nat.le_of_ble_eq_true rfl), (Nat.le_of_ble_eq_true rfl)⟩ ⟨(Nat.le_of_ble_eq_true rfl), (Nat.le_of_ble_eq_true rfl)⟩ 38 rfl [.int (bi (rBl σ cn))] rfl ?_
    exact g_zretT X hr dX6_renew_38 (rBl σ cn) rfl (Nat.le_of_ble_eq_true rfl) (Nat.le_of_ble_eq_true rfl) (by simp [oBd, tBd, c1, c2, c3]) (by simp [oBd, tBd, c1, c2, c3])
  · skip
    exact g_throwS X hlt hT hZ LX_ISE (List.mem_of_getElem? (i := 12) rfl) dX6_renew_20 dX6_renew_23 dX6_renew_24 dX6_renew_26 dX6_renew_29 (Nat.le_of_ble_eq_true rfl) (Nat.le_of_ble_eq_true rfl) ⟨(Nat.le_of_ble_eq_true rfl), (Nat.le_of_ble_eq_true rfl)⟩ (Nat.le_of_ble_eq_true rfl) (Nat.le_of_ble_eq_true rfl) (by simp [oBd, tBd, c1, c2, c3]) (by simp [oBd, tBd, c1, c2, c3])

set_option maxHeartbeats 4000000 in
set_option maxRecDepth 100000 in
theorem k_X6_advance (E : kE) (l : Launch) (hlt : l.stackTraces = false) (wr : va_W) (b : Nat → Nat) (μ : Sto) (a : Nat → Nat) (σ : Sto) (x : Int32) : KT E l yX6_advance cX6_advance 3 (some .int) 7 159 4 24 [.ref (a 0), .int x] (WW E b μ a σ wr) (oAdv σ x) (WW E b μ a (tAdv σ x) wr) := by
  refine KT_start (own := RX6) (by decide +kernel) rfl [(0, .ref (a 0)), (1, .int x)] rfl (Nat.le_of_ble_eq_true rfl) (fun p e s m below meth c X hr hT hZ => ?_)
  refine g_iload_n X dX6_advance_0 1 rfl rfl ?_
  refine g_iconst X dX6_advance_1 2 rfl (v := 1) rfl ?_
  refine g_ic_lt X dX6_advance_2 12 5 rfl rfl (fun c1 => ?_) (fun c1 => ?_)
  · skip
    exact g_throwS X hlt hT hZ LX_IAE (List.mem_of_getElem? (i := 13) rfl) dX6_advance_12 dX6_advance_15 dX6_advance_16 dX6_advance_18 dX6_advance_21 (Nat.le_of_ble_eq_true rfl) (Nat.le_of_ble_eq_true rfl) ⟨(Nat.le_of_ble_eq_true rfl), (Nat.le_of_ble_eq_true rfl)⟩ (Nat.le_of_ble_eq_true rfl) (Nat.le_of_ble_eq_true rfl) (by simp [oAdv, tAdv, pTo, c1]) (by simp [oAdv, tAdv, pTo, c1])
  · skip
    refine g_iload_n X dX6_advance_5 6 rfl rfl ?_
    refine g_sipush X dX6_advance_6 9 rfl (v := 2000) rfl ?_
    refine g_ic_le X dX6_advance_9 22 12 rfl rfl (fun c2 => ?_) (fun c2 => ?_)
    · skip
      refine g_aload_n X dX6_advance_22 23 rfl rfl ?_
      refine g_get X FL_X6_21 dX6_advance_23 26 rfl 4 rfl (v := .ref (a 3)) rfl ?_
      refine g_get X FL_X6_130 dX6_advance_26 29 rfl 7 rfl (v := .ref (a 22)) rfl ?_
      refine g_get X FL_X6_209 dX6_advance_29 32 rfl 26 rfl (v := .int (σ 16 0)) rfl ?_
      refine g_iload_n X dX6_advance_32 33 rfl rfl ?_
      refine g_iadd X dX6_advance_33 34 rfl ?_
      refine g_istore_n X dX6_advance_34 35 rfl (by decide) [(2, .int ((σ 16 0) + x)), (0, .ref (a 0)), (1, .int x)] rfl ?_
      refine g_iload_n X dX6_advance_35 36 rfl rfl ?_
      refine g_ldc X Co_X6_212 dX6_advance_36 38 rfl ?_
      refine g_ic_le X dX6_advance_38 51 41 rfl rfl (fun c3 => ?_) (fun c3 => ?_)
      · skip
        refine g_aload_n X dX6_advance_51 52 rfl rfl ?_
        refine g_get X FL_X6_21 dX6_advance_52 55 rfl 4 rfl (v := .ref (a 3)) rfl ?_
        refine g_iload_n X dX6_advance_55 56 rfl rfl ?_
        refine c_V X Lk_X6_215 (k_X5_passTimeTo E l wr b μ a σ ((σ 16 0) + x)) dX6_advance_56 rfl 7 rfl rfl rfl (Nat.le_of_ble_eq_true rfl) ⟨(Nat.le_of_ble_eq_true rfl), (Nat.le_of_ble_eq_true rfl)⟩ ⟨(Nat.le_of_ble_eq_true rfl), (Nat.le_of_ble_eq_true rfl)⟩ 59 rfl [.int ((PT σ ((σ 16 0) + x)).1)] rfl ?_
        exact g_iretT X hr dX6_advance_59 (Nat.le_of_ble_eq_true rfl) (Nat.le_of_ble_eq_true rfl) (by simp [oAdv, tAdv, pTo, c1, c2, c3]) (by simp [oAdv, tAdv, pTo, c1, c2, c3])
      · skip
        exact g_throwS X hlt hT hZ LX_ISE (List.mem_of_getElem? (i := 14) rfl) dX6_advance_41 dX6_advance_44 dX6_advance_45 dX6_advance_47 dX6_advance_50 (Nat.le_of_ble_eq_true rfl) (Nat.le_of_ble_eq_true rfl) ⟨(Nat.le_of_ble_eq_true rfl), (Nat.le_of_ble_eq_true rfl)⟩ (Nat.le_of_ble_eq_true rfl) (Nat.le_of_ble_eq_true rfl) (by simp [oAdv, tAdv, pTo, c1, c2, c3]) (by simp [oAdv, tAdv, pTo, c1, c2, c3])
    · skip
      exact g_throwS X hlt hT hZ LX_IAE (List.mem_of_getElem? (i := 13) rfl) dX6_advance_12 dX6_advance_15 dX6_advance_16 dX6_advance_18 dX6_advance_21 (Nat.le_of_ble_eq_true rfl) (Nat.le_of_ble_eq_true rfl) ⟨(Nat.le_of_ble_eq_true rfl), (Nat.le_of_ble_eq_true rfl)⟩ (Nat.le_of_ble_eq_true rfl) (Nat.le_of_ble_eq_true rfl) (by simp [oAdv, tAdv, pTo, c1, c2]) (by simp [oAdv, tAdv, pTo, c1, c2])

set_option maxHeartbeats 4000000 in
set_option maxRecDepth 100000 in
theorem k_X6_advanceToEvent (E : kE) (l : Launch) (hlt : l.stackTraces = false) (wr : va_W) (b : Nat → Nat) (μ : Sto) (a : Nat → Nat) (σ : Sto) : KT E l yX6_advanceToEvent cX6_advanceToEvent 3 (some .int) 7 159 4 24 [.ref (a 0)] (WW E b μ a σ wr) (oAtE σ) (WW E b μ a (tAtE σ) wr) := by
  refine KT_start (own := RX6) (by decide +kernel) rfl [(0, .ref (a 0))] rfl (Nat.le_of_ble_eq_true rfl) (fun p e s m below meth c X hr hT hZ => ?_)
  refine g_aload_n X dX6_advanceToEvent_0 1 rfl rfl ?_
  refine g_get X FL_X6_21 dX6_advanceToEvent_1 4 rfl 4 rfl (v := .ref (a 3)) rfl ?_
  refine c_V X Lk_X6_218 (k_X5_earliestEvent E l wr b μ a σ) dX6_advanceToEvent_4 rfl 7 rfl rfl rfl (Nat.le_of_ble_eq_true rfl) ⟨(Nat.le_of_ble_eq_true rfl), (Nat.le_of_ble_eq_true rfl)⟩ ⟨(Nat.le_of_ble_eq_true rfl), (Nat.le_of_ble_eq_true rfl)⟩ 7 rfl [.int (if eqE σ < eeC σ then eqE σ else eeC σ)] rfl ?_
  rw [show (if eqE σ < eeC σ then eqE σ else eeC σ) = fstE σ from rfl]
  refine g_istore_n X dX6_advanceToEvent_7 8 rfl (by decide) [(1, .int (fstE σ)), (0, .ref (a 0))] rfl ?_
  refine g_iload_n X dX6_advanceToEvent_8 9 rfl rfl ?_
  refine g_ldc X Co_X6_222 dX6_advanceToEvent_9 11 rfl ?_
  refine g_ic_ne X dX6_advanceToEvent_11 24 14 rfl rfl (fun c1 => ?_) (fun c1 => ?_)
  · skip
    refine g_iload_n X dX6_advanceToEvent_24 25 rfl rfl ?_
    refine c_S X Lk_X6_225 (k_X6_timeOfEvent E l wr b μ a σ (fstE σ)) dX6_advanceToEvent_25 rfl rfl (Nat.le_of_ble_eq_true rfl) ⟨(Nat.le_of_ble_eq_true rfl), (Nat.le_of_ble_eq_true rfl)⟩ ⟨(Nat.le_of_ble_eq_true rfl), (Nat.le_of_ble_eq_true rfl)⟩ 28 rfl [.int ((fstE σ) / 100 / 5)] rfl ?_
    refine g_istore_n X dX6_advanceToEvent_28 29 rfl (by decide) [(2, .int ((fstE σ) / 100 / 5)), (1, .int (fstE σ)), (0, .ref (a 0))] rfl ?_
    refine g_iload_n X dX6_advanceToEvent_29 30 rfl rfl ?_
    refine g_ldc X Co_X6_212 dX6_advanceToEvent_30 32 rfl ?_
    refine g_ic_le X dX6_advanceToEvent_32 45 35 rfl rfl (fun c2 => ?_) (fun c2 => ?_)
    · skip
      refine g_aload_n X dX6_advanceToEvent_45 46 rfl rfl ?_
      refine g_get X FL_X6_21 dX6_advanceToEvent_46 49 rfl 4 rfl (v := .ref (a 3)) rfl ?_
      refine g_iload_n X dX6_advanceToEvent_49 50 rfl rfl ?_
      refine c_V X Lk_X6_215 (k_X5_passTimeTo E l wr b μ a σ ((fstE σ) / 100 / 5)) dX6_advanceToEvent_50 rfl 7 rfl rfl rfl (Nat.le_of_ble_eq_true rfl) ⟨(Nat.le_of_ble_eq_true rfl), (Nat.le_of_ble_eq_true rfl)⟩ ⟨(Nat.le_of_ble_eq_true rfl), (Nat.le_of_ble_eq_true rfl)⟩ 53 rfl [.int ((PT σ ((fstE σ) / 100 / 5)).1)] rfl ?_
      refine g_pop X dX6_advanceToEvent_53 54 rfl rfl ?_
      refine g_iload_n X dX6_advanceToEvent_54 55 rfl rfl ?_
      exact g_iretT X hr dX6_advanceToEvent_55 (Nat.le_of_ble_eq_true rfl) (Nat.le_of_ble_eq_true rfl) (by simp [oAtE, tAtE, pTo, c1, c2]) (by simp [oAtE, tAtE, pTo, c1, c2])
    · skip
      exact g_throwS X hlt hT hZ LX_ISE (List.mem_of_getElem? (i := 14) rfl) dX6_advanceToEvent_35 dX6_advanceToEvent_38 dX6_advanceToEvent_39 dX6_advanceToEvent_41 dX6_advanceToEvent_44 (Nat.le_of_ble_eq_true rfl) (Nat.le_of_ble_eq_true rfl) ⟨(Nat.le_of_ble_eq_true rfl), (Nat.le_of_ble_eq_true rfl)⟩ (Nat.le_of_ble_eq_true rfl) (Nat.le_of_ble_eq_true rfl) (by simp [oAtE, tAtE, pTo, c1, c2]) (by simp [oAtE, tAtE, pTo, c1, c2])
  · skip
    exact g_throwNS X hlt hT hZ (List.mem_of_getElem? (i := 15) rfl) dX6_advanceToEvent_14 dX6_advanceToEvent_17 dX6_advanceToEvent_18 dX6_advanceToEvent_20 dX6_advanceToEvent_23 (Nat.le_of_ble_eq_true rfl) (Nat.le_of_ble_eq_true rfl) ⟨(Nat.le_of_ble_eq_true rfl), (Nat.le_of_ble_eq_true rfl)⟩ (Nat.le_of_ble_eq_true rfl) (Nat.le_of_ble_eq_true rfl) (by simp [oAtE, tAtE, pTo, c1]) (by simp [oAtE, tAtE, pTo, c1])

set_option maxHeartbeats 4000000 in
set_option maxRecDepth 100000 in
theorem k_X6_time (E : kE) (l : Launch) (wr : va_W) (b : Nat → Nat) (μ : Sto) (a : Nat → Nat) (σ : Sto) : KM E l yX6_time cX6_time 1 (some .int) 0 0 0 0 [.ref (a 0)] (WW E b μ a σ wr) (some (.int (σ 16 0))) (WW E b μ a σ wr) := by
  refine K_start (own := RX6) (by decide +kernel) rfl [(0, .ref (a 0))] rfl (Nat.le_of_ble_eq_true rfl) (fun p e s m below meth c X hr hin => ?_)
  refine g_aload_n X dX6_time_0 1 rfl rfl ?_
  refine g_get X FL_X6_21 dX6_time_1 4 rfl 4 rfl (v := .ref (a 3)) rfl ?_
  refine g_get X FL_X6_130 dX6_time_4 7 rfl 7 rfl (v := .ref (a 22)) rfl ?_
  refine g_get X FL_X6_209 dX6_time_7 10 rfl 26 rfl (v := .int (σ 16 0)) rfl ?_
  exact g_iret X hr dX6_time_10 () rfl rfl

set_option maxHeartbeats 4000000 in
set_option maxRecDepth 100000 in
theorem k_X6_clientState (E : kE) (l : Launch) (hlt : l.stackTraces = false) (wr : va_W) (b : Nat → Nat) (μ : Sto) (a : Nat → Nat) (σ : Sto) (cn : Int32) : KT E l yX6_clientState cX6_clientState 2 (some .int) 7 110 4 24 [.ref (a 0), .int cn] (WW E b μ a σ wr) (oCl cn (oI (σ 11 (ix cn)))) (WW E b μ a σ wr) := by
  refine KT_start (own := RX6) (by decide +kernel) rfl [(0, .ref (a 0)), (1, .int cn)] rfl (Nat.le_of_ble_eq_true rfl) (fun p e s m below meth c X hr hT hZ => ?_)
  refine g_iload_n X dX6_clientState_0 1 rfl rfl ?_
  refine c_RS X hT hZ Lk_X6_150 (k_X6_requireClient E l hlt wr b μ a σ cn) dX6_clientState_1 rfl rfl (Nat.le_of_ble_eq_true rfl) ⟨(Nat.le_of_ble_eq_true rfl), (Nat.le_of_ble_eq_true rfl)⟩ ⟨(Nat.le_of_ble_eq_true rfl), (Nat.le_of_ble_eq_true rfl)⟩ (Nat.le_of_ble_eq_true rfl) (Nat.le_of_ble_eq_true rfl) 4 rfl (fun c1 => ?_) (fun c1 => ⟨(by simp [oCl, c1]), rfl⟩)
  refine g_aload_n X dX6_clientState_4 5 rfl rfl ?_
  refine g_get X FL_X6_21 dX6_clientState_5 8 rfl 4 rfl (v := .ref (a 3)) rfl ?_
  refine g_get X FL_X6_153 dX6_clientState_8 11 rfl 7 rfl (v := .ref (a 16)) rfl ?_
  refine g_get X FL_X6_174 dX6_clientState_11 14 rfl 20 rfl (v := .ref (a 17)) rfl ?_
  refine g_iload_n X dX6_clientState_14 15 rfl rfl ?_
  refine g_iald X dX6_clientState_15 16 rfl 21 rfl (by first | exact vA ‹_› | exact vC ‹_› | exact vG ‹_› | assumption | exact vp_in_nI (by omega) (by omega)) ?_
  exact g_iretT X hr dX6_clientState_16 (Nat.le_of_ble_eq_true rfl) (Nat.le_of_ble_eq_true rfl) (by simp [oCl, c1]) rfl

set_option maxHeartbeats 4000000 in
set_option maxRecDepth 100000 in
theorem k_X6_addressOf (E : kE) (l : Launch) (hlt : l.stackTraces = false) (wr : va_W) (b : Nat → Nat) (μ : Sto) (a : Nat → Nat) (σ : Sto) (cn : Int32) : KT E l yX6_addressOf cX6_addressOf 2 (some .int) 7 110 4 24 [.ref (a 0), .int cn] (WW E b μ a σ wr) (oCl cn (if σ 11 (ix cn) = 0 then oX xNSE else oI (σ 12 (ix cn)))) (WW E b μ a σ wr) := by
  refine KT_start (own := RX6) (by decide +kernel) rfl [(0, .ref (a 0)), (1, .int cn)] rfl (Nat.le_of_ble_eq_true rfl) (fun p e s m below meth c X hr hT hZ => ?_)
  refine g_iload_n X dX6_addressOf_0 1 rfl rfl ?_
  refine c_RS X hT hZ Lk_X6_150 (k_X6_requireClient E l hlt wr b μ a σ cn) dX6_addressOf_1 rfl rfl (Nat.le_of_ble_eq_true rfl) ⟨(Nat.le_of_ble_eq_true rfl), (Nat.le_of_ble_eq_true rfl)⟩ ⟨(Nat.le_of_ble_eq_true rfl), (Nat.le_of_ble_eq_true rfl)⟩ (Nat.le_of_ble_eq_true rfl) (Nat.le_of_ble_eq_true rfl) 4 rfl (fun c1 => ?_) (fun c1 => ⟨(by simp [oCl, c1]), rfl⟩)
  refine g_aload_n X dX6_addressOf_4 5 rfl rfl ?_
  refine g_get X FL_X6_21 dX6_addressOf_5 8 rfl 4 rfl (v := .ref (a 3)) rfl ?_
  refine g_get X FL_X6_153 dX6_addressOf_8 11 rfl 7 rfl (v := .ref (a 16)) rfl ?_
  refine g_get X FL_X6_174 dX6_addressOf_11 14 rfl 20 rfl (v := .ref (a 17)) rfl ?_
  refine g_iload_n X dX6_addressOf_14 15 rfl rfl ?_
  refine g_iald X dX6_addressOf_15 16 rfl 21 rfl (by first | exact vA ‹_› | exact vC ‹_› | exact vG ‹_› | assumption | exact vp_in_nI (by omega) (by omega)) ?_
  refine g_if_ne X dX6_addressOf_16 29 19 rfl rfl (fun c2 => ?_) (fun c2 => ?_)
  · skip
    refine g_aload_n X dX6_addressOf_29 30 rfl rfl ?_
    refine g_get X FL_X6_21 dX6_addressOf_30 33 rfl 4 rfl (v := .ref (a 3)) rfl ?_
    refine g_get X FL_X6_153 dX6_addressOf_33 36 rfl 7 rfl (v := .ref (a 16)) rfl ?_
    refine g_get X FL_X6_184 dX6_addressOf_36 39 rfl 20 rfl (v := .ref (a 18)) rfl ?_
    refine g_iload_n X dX6_addressOf_39 40 rfl rfl ?_
    refine g_iald X dX6_addressOf_40 41 rfl 22 rfl (by first | exact vA ‹_› | exact vC ‹_› | exact vG ‹_› | assumption | exact vp_in_nI (by omega) (by omega)) ?_
    exact g_iretT X hr dX6_addressOf_41 (Nat.le_of_ble_eq_true rfl) (Nat.le_of_ble_eq_true rfl) (by simp [oCl, c1, c2]) rfl
  · skip
    exact g_throwNS X hlt hT hZ (List.mem_of_getElem? (i := 16) rfl) dX6_addressOf_19 dX6_addressOf_22 dX6_addressOf_23 dX6_addressOf_25 dX6_addressOf_28 (Nat.le_of_ble_eq_true rfl) (Nat.le_of_ble_eq_true rfl) ⟨(Nat.le_of_ble_eq_true rfl), (Nat.le_of_ble_eq_true rfl)⟩ (Nat.le_of_ble_eq_true rfl) (Nat.le_of_ble_eq_true rfl) (by simp [oCl, c1, c2]) rfl

set_option maxHeartbeats 4000000 in
set_option maxRecDepth 100000 in
theorem k_X6_remembered (E : kE) (l : Launch) (hlt : l.stackTraces = false) (wr : va_W) (b : Nat → Nat) (μ : Sto) (a : Nat → Nat) (σ : Sto) (cn : Int32) : KT E l yX6_remembered cX6_remembered 2 (some .int) 7 110 4 24 [.ref (a 0), .int cn] (WW E b μ a σ wr) (oCl cn (if σ 13 (ix cn) = -1 then oX xNSE else oI (σ 13 (ix cn)))) (WW E b μ a σ wr) := by
  refine KT_start (own := RX6) (by decide +kernel) rfl [(0, .ref (a 0)), (1, .int cn)] rfl (Nat.le_of_ble_eq_true rfl) (fun p e s m below meth c X hr hT hZ => ?_)
  refine g_iload_n X dX6_remembered_0 1 rfl rfl ?_
  refine c_RS X hT hZ Lk_X6_150 (k_X6_requireClient E l hlt wr b μ a σ cn) dX6_remembered_1 rfl rfl (Nat.le_of_ble_eq_true rfl) ⟨(Nat.le_of_ble_eq_true rfl), (Nat.le_of_ble_eq_true rfl)⟩ ⟨(Nat.le_of_ble_eq_true rfl), (Nat.le_of_ble_eq_true rfl)⟩ (Nat.le_of_ble_eq_true rfl) (Nat.le_of_ble_eq_true rfl) 4 rfl (fun c1 => ?_) (fun c1 => ⟨(by simp [oCl, c1]), rfl⟩)
  refine g_aload_n X dX6_remembered_4 5 rfl rfl ?_
  refine g_get X FL_X6_21 dX6_remembered_5 8 rfl 4 rfl (v := .ref (a 3)) rfl ?_
  refine g_get X FL_X6_153 dX6_remembered_8 11 rfl 7 rfl (v := .ref (a 16)) rfl ?_
  refine g_get X FL_X6_230 dX6_remembered_11 14 rfl 20 rfl (v := .ref (a 19)) rfl ?_
  refine g_iload_n X dX6_remembered_14 15 rfl rfl ?_
  refine g_iald X dX6_remembered_15 16 rfl 23 rfl (by first | exact vA ‹_› | exact vC ‹_› | exact vG ‹_› | assumption | exact vp_in_nI (by omega) (by omega)) ?_
  refine g_iconst X dX6_remembered_16 17 rfl (v := -1) rfl ?_
  refine g_ic_ne X dX6_remembered_17 30 20 rfl rfl (fun c2 => ?_) (fun c2 => ?_)
  · skip
    refine g_aload_n X dX6_remembered_30 31 rfl rfl ?_
    refine g_get X FL_X6_21 dX6_remembered_31 34 rfl 4 rfl (v := .ref (a 3)) rfl ?_
    refine g_get X FL_X6_153 dX6_remembered_34 37 rfl 7 rfl (v := .ref (a 16)) rfl ?_
    refine g_get X FL_X6_230 dX6_remembered_37 40 rfl 20 rfl (v := .ref (a 19)) rfl ?_
    refine g_iload_n X dX6_remembered_40 41 rfl rfl ?_
    refine g_iald X dX6_remembered_41 42 rfl 23 rfl (by first | exact vA ‹_› | exact vC ‹_› | exact vG ‹_› | assumption | exact vp_in_nI (by omega) (by omega)) ?_
    exact g_iretT X hr dX6_remembered_42 (Nat.le_of_ble_eq_true rfl) (Nat.le_of_ble_eq_true rfl) (by simp [oCl, c1, c2]) rfl
  · skip
    exact g_throwNS X hlt hT hZ (List.mem_of_getElem? (i := 17) rfl) dX6_remembered_20 dX6_remembered_23 dX6_remembered_24 dX6_remembered_26 dX6_remembered_29 (Nat.le_of_ble_eq_true rfl) (Nat.le_of_ble_eq_true rfl) ⟨(Nat.le_of_ble_eq_true rfl), (Nat.le_of_ble_eq_true rfl)⟩ (Nat.le_of_ble_eq_true rfl) (Nat.le_of_ble_eq_true rfl) (by simp [oCl, c1, c2]) rfl

set_option maxHeartbeats 4000000 in
set_option maxRecDepth 100000 in
theorem k_X6_timer (E : kE) (l : Launch) (hlt : l.stackTraces = false) (wr : va_W) (b : Nat → Nat) (μ : Sto) (a : Nat → Nat) (σ : Sto) (cn : Int32) (q : Int32) : KT E l yX6_timer cX6_timer 3 (some .int) 7 111 4 24 [.ref (a 0), .int cn, .int q] (WW E b μ a σ wr) (oBd σ cn (oTim σ cn q)) (WW E b μ a σ wr) := by
  refine KT_start (own := RX6) (by decide +kernel) rfl [(0, .ref (a 0)), (1, .int cn), (2, .int q)] rfl (Nat.le_of_ble_eq_true rfl) (fun p e s m below meth c X hr hT hZ => ?_)
  refine g_iload_n X dX6_timer_0 1 rfl rfl ?_
  refine c_RS X hT hZ Lk_X6_150 (k_X6_requireClient E l hlt wr b μ a σ cn) dX6_timer_1 rfl rfl (Nat.le_of_ble_eq_true rfl) ⟨(Nat.le_of_ble_eq_true rfl), (Nat.le_of_ble_eq_true rfl)⟩ ⟨(Nat.le_of_ble_eq_true rfl), (Nat.le_of_ble_eq_true rfl)⟩ (Nat.le_of_ble_eq_true rfl) (Nat.le_of_ble_eq_true rfl) 4 rfl (fun c1 => ?_) (fun c1 => ⟨(by simp [oBd, oTim, c1]), rfl⟩)
  refine g_aload_n X dX6_timer_4 5 rfl rfl ?_
  refine g_iload_n X dX6_timer_5 6 rfl rfl ?_
  refine c_RV X hT hZ Lk_X6_187 (k_X6_requireBound E l hlt wr b μ a σ cn) dX6_timer_6 rfl 4 rfl rfl rfl (Nat.le_of_ble_eq_true rfl) ⟨(Nat.le_of_ble_eq_true rfl), (Nat.le_of_ble_eq_true rfl)⟩ ⟨(Nat.le_of_ble_eq_true rfl), (Nat.le_of_ble_eq_true rfl)⟩ (Nat.le_of_ble_eq_true rfl) (Nat.le_of_ble_eq_true rfl) 9 rfl (fun c2 => ?_) (fun c2 => ⟨(by simp [oBd, oTim, c1, c2]), rfl⟩)
  refine g_iload_n X dX6_timer_9 10 rfl rfl ?_
  have hsw : q = 0 ∨ q = 1 ∨ q = 2 ∨ (q.toInt < 0 ∨ 2 < q.toInt) := by
    exact tsw_3 _
  rcases hsw with t3 | t4 | t5 | t6
  · refine g_tableIn X dX6_timer_10 26 (by rw [t3]; decide) (by rw [t3]; decide) (by rw [t3]; rfl) 36 rfl ?_
    refine g_aload_n X dX6_timer_36 37 rfl rfl ?_
    refine g_get X FL_X6_21 dX6_timer_37 40 rfl 4 rfl (v := .ref (a 3)) rfl ?_
    refine g_get X FL_X6_153 dX6_timer_40 43 rfl 7 rfl (v := .ref (a 16)) rfl ?_
    refine g_get X FL_X6_235 dX6_timer_43 46 rfl 20 rfl (v := .ref (a 20)) rfl ?_
    refine g_iload_n X dX6_timer_46 47 rfl rfl ?_
    refine g_iald X dX6_timer_47 48 rfl 24 rfl (by first | exact vA ‹_› | exact vC ‹_› | exact vG ‹_› | assumption | exact vp_in_nI (by omega) (by omega)) ?_
    exact g_iretT X hr dX6_timer_48 (Nat.le_of_ble_eq_true rfl) (Nat.le_of_ble_eq_true rfl) (by simp [oBd, oTim, c1, c2, t3]) rfl
  · refine g_tableIn X dX6_timer_10 39 (by rw [t4]; decide) (by rw [t4]; decide) (by rw [t4]; rfl) 49 rfl ?_
    refine g_aload_n X dX6_timer_49 50 rfl rfl ?_
    refine g_get X FL_X6_21 dX6_timer_50 53 rfl 4 rfl (v := .ref (a 3)) rfl ?_
    refine g_get X FL_X6_153 dX6_timer_53 56 rfl 7 rfl (v := .ref (a 16)) rfl ?_
    refine g_get X FL_X6_238 dX6_timer_56 59 rfl 20 rfl (v := .ref (a 21)) rfl ?_
    refine g_iload_n X dX6_timer_59 60 rfl rfl ?_
    refine g_iald X dX6_timer_60 61 rfl 25 rfl (by first | exact vA ‹_› | exact vC ‹_› | exact vG ‹_› | assumption | exact vp_in_nI (by omega) (by omega)) ?_
    exact g_iretT X hr dX6_timer_61 (Nat.le_of_ble_eq_true rfl) (Nat.le_of_ble_eq_true rfl) (by simp [oBd, oTim, c1, c2, t4]) rfl
  · refine g_tableIn X dX6_timer_10 52 (by rw [t5]; decide) (by rw [t5]; decide) (by rw [t5]; rfl) 62 rfl ?_
    refine g_aload_n X dX6_timer_62 63 rfl rfl ?_
    refine g_get X FL_X6_21 dX6_timer_63 66 rfl 4 rfl (v := .ref (a 3)) rfl ?_
    refine g_iload_n X dX6_timer_66 67 rfl rfl ?_
    refine c_V X Lk_X6_241 (k_X5_leaseEnd E l wr b μ a σ cn) dX6_timer_67 rfl 7 rfl rfl rfl (Nat.le_of_ble_eq_true rfl) ⟨(Nat.le_of_ble_eq_true rfl), (Nat.le_of_ble_eq_true rfl)⟩ ⟨(Nat.le_of_ble_eq_true rfl), (Nat.le_of_ble_eq_true rfl)⟩ 70 rfl [.int (lEnd σ cn)] rfl ?_
    exact g_iretT X hr dX6_timer_70 (Nat.le_of_ble_eq_true rfl) (Nat.le_of_ble_eq_true rfl) (by simp [oBd, oTim, c1, c2, t5]) rfl
  · refine g_tableOut X dX6_timer_10 t6 71 rfl ?_
    exact g_throwS X hlt hT hZ LX_IAE (List.mem_of_getElem? (i := 5) rfl) dX6_timer_71 dX6_timer_74 dX6_timer_75 dX6_timer_77 dX6_timer_80 (Nat.le_of_ble_eq_true rfl) (Nat.le_of_ble_eq_true rfl) ⟨(Nat.le_of_ble_eq_true rfl), (Nat.le_of_ble_eq_true rfl)⟩ (Nat.le_of_ble_eq_true rfl) (Nat.le_of_ble_eq_true rfl) (by simp [oBd, oTim, c1, c2, tsw_no t6 (j := 0) (by decide) (by decide), tsw_no t6 (j := 1) (by decide) (by decide), tsw_no t6 (j := 2) (by decide) (by decide)]) rfl

set_option maxHeartbeats 4000000 in
set_option maxRecDepth 100000 in
theorem k_X6_addressState (E : kE) (l : Launch) (hlt : l.stackTraces = false) (wr : va_W) (b : Nat → Nat) (μ : Sto) (a : Nat → Nat) (σ : Sto) (x : Int32) : KT E l yX6_addressState cX6_addressState 2 (some .int) 7 111 4 24 [.ref (a 0), .int x] (WW E b μ a σ wr) (oInP σ x (oI (σ 7 (ix x)))) (WW E b μ a σ wr) := by
  refine KT_start (own := RX6) (by decide +kernel) rfl [(0, .ref (a 0)), (1, .int x)] rfl (Nat.le_of_ble_eq_true rfl) (fun p e s m below meth c X hr hT hZ => ?_)
  refine g_iload_n X dX6_addressState_0 1 rfl rfl ?_
  refine c_RS X hT hZ Lk_X6_112 (k_X6_requireAddress E l hlt wr b μ a σ x) dX6_addressState_1 rfl rfl (Nat.le_of_ble_eq_true rfl) ⟨(Nat.le_of_ble_eq_true rfl), (Nat.le_of_ble_eq_true rfl)⟩ ⟨(Nat.le_of_ble_eq_true rfl), (Nat.le_of_ble_eq_true rfl)⟩ (Nat.le_of_ble_eq_true rfl) (Nat.le_of_ble_eq_true rfl) 4 rfl (fun c1 => ?_) (fun c1 => ⟨(by simp [oInP, c1]), rfl⟩)
  refine g_aload_n X dX6_addressState_4 5 rfl rfl ?_
  refine g_iload_n X dX6_addressState_5 6 rfl rfl ?_
  refine c_RV X hT hZ Lk_X6_115 (k_X6_requireInPool E l hlt wr b μ a σ x) dX6_addressState_6 rfl 4 rfl rfl rfl (Nat.le_of_ble_eq_true rfl) ⟨(Nat.le_of_ble_eq_true rfl), (Nat.le_of_ble_eq_true rfl)⟩ ⟨(Nat.le_of_ble_eq_true rfl), (Nat.le_of_ble_eq_true rfl)⟩ (Nat.le_of_ble_eq_true rfl) (Nat.le_of_ble_eq_true rfl) 9 rfl (fun c2 => ?_) (fun c2 => ⟨(by simp [oInP, c1, c2]), rfl⟩)
  refine g_aload_n X dX6_addressState_9 10 rfl rfl ?_
  refine g_get X FL_X6_21 dX6_addressState_10 13 rfl 4 rfl (v := .ref (a 3)) rfl ?_
  refine g_get X FL_X6_66 dX6_addressState_13 16 rfl 7 rfl (v := .ref (a 9)) rfl ?_
  refine g_get X FL_X6_244 dX6_addressState_16 19 rfl 13 rfl (v := .ref (a 12)) rfl ?_
  refine g_iload_n X dX6_addressState_19 20 rfl rfl ?_
  refine g_iald X dX6_addressState_20 21 rfl 16 rfl (by first | exact vA ‹_› | exact vC ‹_› | exact vG ‹_› | assumption | exact vp_in_nI (by omega) (by omega)) ?_
  exact g_iretT X hr dX6_addressState_21 (Nat.le_of_ble_eq_true rfl) (Nat.le_of_ble_eq_true rfl) (by simp [oInP, c1, c2]) rfl

set_option maxHeartbeats 4000000 in
set_option maxRecDepth 100000 in
theorem k_X6_holder (E : kE) (l : Launch) (hlt : l.stackTraces = false) (wr : va_W) (b : Nat → Nat) (μ : Sto) (a : Nat → Nat) (σ : Sto) (x : Int32) : KT E l yX6_holder cX6_holder 2 (some .int) 7 111 4 24 [.ref (a 0), .int x] (WW E b μ a σ wr) (oInP σ x (if σ 8 (ix x) = -1 then oX xNSE else oI (σ 8 (ix x)))) (WW E b μ a σ wr) := by
  refine KT_start (own := RX6) (by decide +kernel) rfl [(0, .ref (a 0)), (1, .int x)] rfl (Nat.le_of_ble_eq_true rfl) (fun p e s m below meth c X hr hT hZ => ?_)
  refine g_iload_n X dX6_holder_0 1 rfl rfl ?_
  refine c_RS X hT hZ Lk_X6_112 (k_X6_requireAddress E l hlt wr b μ a σ x) dX6_holder_1 rfl rfl (Nat.le_of_ble_eq_true rfl) ⟨(Nat.le_of_ble_eq_true rfl), (Nat.le_of_ble_eq_true rfl)⟩ ⟨(Nat.le_of_ble_eq_true rfl), (Nat.le_of_ble_eq_true rfl)⟩ (Nat.le_of_ble_eq_true rfl) (Nat.le_of_ble_eq_true rfl) 4 rfl (fun c1 => ?_) (fun c1 => ⟨(by simp [oInP, c1]), rfl⟩)
  refine g_aload_n X dX6_holder_4 5 rfl rfl ?_
  refine g_iload_n X dX6_holder_5 6 rfl rfl ?_
  refine c_RV X hT hZ Lk_X6_115 (k_X6_requireInPool E l hlt wr b μ a σ x) dX6_holder_6 rfl 4 rfl rfl rfl (Nat.le_of_ble_eq_true rfl) ⟨(Nat.le_of_ble_eq_true rfl), (Nat.le_of_ble_eq_true rfl)⟩ ⟨(Nat.le_of_ble_eq_true rfl), (Nat.le_of_ble_eq_true rfl)⟩ (Nat.le_of_ble_eq_true rfl) (Nat.le_of_ble_eq_true rfl) 9 rfl (fun c2 => ?_) (fun c2 => ⟨(by simp [oInP, c1, c2]), rfl⟩)
  refine g_aload_n X dX6_holder_9 10 rfl rfl ?_
  refine g_get X FL_X6_21 dX6_holder_10 13 rfl 4 rfl (v := .ref (a 3)) rfl ?_
  refine g_get X FL_X6_66 dX6_holder_13 16 rfl 7 rfl (v := .ref (a 9)) rfl ?_
  refine g_get X FL_X6_245 dX6_holder_16 19 rfl 13 rfl (v := .ref (a 13)) rfl ?_
  refine g_iload_n X dX6_holder_19 20 rfl rfl ?_
  refine g_iald X dX6_holder_20 21 rfl 17 rfl (by first | exact vA ‹_› | exact vC ‹_› | exact vG ‹_› | assumption | exact vp_in_nI (by omega) (by omega)) ?_
  refine g_iconst X dX6_holder_21 22 rfl (v := -1) rfl ?_
  refine g_ic_ne X dX6_holder_22 35 25 rfl rfl (fun c3 => ?_) (fun c3 => ?_)
  · skip
    refine g_aload_n X dX6_holder_35 36 rfl rfl ?_
    refine g_get X FL_X6_21 dX6_holder_36 39 rfl 4 rfl (v := .ref (a 3)) rfl ?_
    refine g_get X FL_X6_66 dX6_holder_39 42 rfl 7 rfl (v := .ref (a 9)) rfl ?_
    refine g_get X FL_X6_245 dX6_holder_42 45 rfl 13 rfl (v := .ref (a 13)) rfl ?_
    refine g_iload_n X dX6_holder_45 46 rfl rfl ?_
    refine g_iald X dX6_holder_46 47 rfl 17 rfl (by first | exact vA ‹_› | exact vC ‹_› | exact vG ‹_› | assumption | exact vp_in_nI (by omega) (by omega)) ?_
    exact g_iretT X hr dX6_holder_47 (Nat.le_of_ble_eq_true rfl) (Nat.le_of_ble_eq_true rfl) (by simp [oInP, c1, c2, c3]) rfl
  · skip
    exact g_throwNS X hlt hT hZ (List.mem_of_getElem? (i := 18) rfl) dX6_holder_25 dX6_holder_28 dX6_holder_29 dX6_holder_31 dX6_holder_34 (Nat.le_of_ble_eq_true rfl) (Nat.le_of_ble_eq_true rfl) ⟨(Nat.le_of_ble_eq_true rfl), (Nat.le_of_ble_eq_true rfl)⟩ (Nat.le_of_ble_eq_true rfl) (Nat.le_of_ble_eq_true rfl) (by simp [oInP, c1, c2, c3]) rfl

set_option maxHeartbeats 4000000 in
set_option maxRecDepth 100000 in
theorem k_X6_until (E : kE) (l : Launch) (hlt : l.stackTraces = false) (wr : va_W) (b : Nat → Nat) (μ : Sto) (a : Nat → Nat) (σ : Sto) (x : Int32) : KT E l yX6_until cX6_until 2 (some .int) 7 111 4 24 [.ref (a 0), .int x] (WW E b μ a σ wr) (oInP σ x (if σ 7 (ix x) = 0 then oX xNSE else oI (σ 9 (ix x)))) (WW E b μ a σ wr) := by
  refine KT_start (own := RX6) (by decide +kernel) rfl [(0, .ref (a 0)), (1, .int x)] rfl (Nat.le_of_ble_eq_true rfl) (fun p e s m below meth c X hr hT hZ => ?_)
  refine g_iload_n X dX6_until_0 1 rfl rfl ?_
  refine c_RS X hT hZ Lk_X6_112 (k_X6_requireAddress E l hlt wr b μ a σ x) dX6_until_1 rfl rfl (Nat.le_of_ble_eq_true rfl) ⟨(Nat.le_of_ble_eq_true rfl), (Nat.le_of_ble_eq_true rfl)⟩ ⟨(Nat.le_of_ble_eq_true rfl), (Nat.le_of_ble_eq_true rfl)⟩ (Nat.le_of_ble_eq_true rfl) (Nat.le_of_ble_eq_true rfl) 4 rfl (fun c1 => ?_) (fun c1 => ⟨(by simp [oInP, c1]), rfl⟩)
  refine g_aload_n X dX6_until_4 5 rfl rfl ?_
  refine g_iload_n X dX6_until_5 6 rfl rfl ?_
  refine c_RV X hT hZ Lk_X6_115 (k_X6_requireInPool E l hlt wr b μ a σ x) dX6_until_6 rfl 4 rfl rfl rfl (Nat.le_of_ble_eq_true rfl) ⟨(Nat.le_of_ble_eq_true rfl), (Nat.le_of_ble_eq_true rfl)⟩ ⟨(Nat.le_of_ble_eq_true rfl), (Nat.le_of_ble_eq_true rfl)⟩ (Nat.le_of_ble_eq_true rfl) (Nat.le_of_ble_eq_true rfl) 9 rfl (fun c2 => ?_) (fun c2 => ⟨(by simp [oInP, c1, c2]), rfl⟩)
  refine g_aload_n X dX6_until_9 10 rfl rfl ?_
  refine g_get X FL_X6_21 dX6_until_10 13 rfl 4 rfl (v := .ref (a 3)) rfl ?_
  refine g_get X FL_X6_66 dX6_until_13 16 rfl 7 rfl (v := .ref (a 9)) rfl ?_
  refine g_get X FL_X6_244 dX6_until_16 19 rfl 13 rfl (v := .ref (a 12)) rfl ?_
  refine g_iload_n X dX6_until_19 20 rfl rfl ?_
  refine g_iald X dX6_until_20 21 rfl 16 rfl (by first | exact vA ‹_› | exact vC ‹_› | exact vG ‹_› | assumption | exact vp_in_nI (by omega) (by omega)) ?_
  refine g_if_ne X dX6_until_21 34 24 rfl rfl (fun c3 => ?_) (fun c3 => ?_)
  · skip
    refine g_aload_n X dX6_until_34 35 rfl rfl ?_
    refine g_get X FL_X6_21 dX6_until_35 38 rfl 4 rfl (v := .ref (a 3)) rfl ?_
    refine g_get X FL_X6_66 dX6_until_38 41 rfl 7 rfl (v := .ref (a 9)) rfl ?_
    refine g_get X FL_X6_252 dX6_until_41 44 rfl 13 rfl (v := .ref (a 14)) rfl ?_
    refine g_iload_n X dX6_until_44 45 rfl rfl ?_
    refine g_iald X dX6_until_45 46 rfl 18 rfl (by first | exact vA ‹_› | exact vC ‹_› | exact vG ‹_› | assumption | exact vp_in_nI (by omega) (by omega)) ?_
    exact g_iretT X hr dX6_until_46 (Nat.le_of_ble_eq_true rfl) (Nat.le_of_ble_eq_true rfl) (by simp [oInP, c1, c2, c3]) rfl
  · skip
    exact g_throwNS X hlt hT hZ (List.mem_of_getElem? (i := 19) rfl) dX6_until_24 dX6_until_27 dX6_until_28 dX6_until_30 dX6_until_33 (Nat.le_of_ble_eq_true rfl) (Nat.le_of_ble_eq_true rfl) ⟨(Nat.le_of_ble_eq_true rfl), (Nat.le_of_ble_eq_true rfl)⟩ (Nat.le_of_ble_eq_true rfl) (Nat.le_of_ble_eq_true rfl) (by simp [oInP, c1, c2, c3]) rfl

set_option maxHeartbeats 4000000 in
set_option maxRecDepth 100000 in
theorem k_X6_freeSince (E : kE) (l : Launch) (hlt : l.stackTraces = false) (wr : va_W) (b : Nat → Nat) (μ : Sto) (a : Nat → Nat) (σ : Sto) (x : Int32) : KT E l yX6_freeSince cX6_freeSince 2 (some .int) 7 111 4 24 [.ref (a 0), .int x] (WW E b μ a σ wr) (oInP σ x (if σ 7 (ix x) = 0 then oI (σ 10 (ix x)) else oX xNSE)) (WW E b μ a σ wr) := by
  refine KT_start (own := RX6) (by decide +kernel) rfl [(0, .ref (a 0)), (1, .int x)] rfl (Nat.le_of_ble_eq_true rfl) (fun p e s m below meth c X hr hT hZ => ?_)
  refine g_iload_n X dX6_freeSince_0 1 rfl rfl ?_
  refine c_RS X hT hZ Lk_X6_112 (k_X6_requireAddress E l hlt wr b μ a σ x) dX6_freeSince_1 rfl rfl (Nat.le_of_ble_eq_true rfl) ⟨(Nat.le_of_ble_eq_true rfl), (Nat.le_of_ble_eq_true rfl)⟩ ⟨(Nat.le_of_ble_eq_true rfl), (Nat.le_of_ble_eq_true rfl)⟩ (Nat.le_of_ble_eq_true rfl) (Nat.le_of_ble_eq_true rfl) 4 rfl (fun c1 => ?_) (fun c1 => ⟨(by simp [oInP, c1]), rfl⟩)
  refine g_aload_n X dX6_freeSince_4 5 rfl rfl ?_
  refine g_iload_n X dX6_freeSince_5 6 rfl rfl ?_
  refine c_RV X hT hZ Lk_X6_115 (k_X6_requireInPool E l hlt wr b μ a σ x) dX6_freeSince_6 rfl 4 rfl rfl rfl (Nat.le_of_ble_eq_true rfl) ⟨(Nat.le_of_ble_eq_true rfl), (Nat.le_of_ble_eq_true rfl)⟩ ⟨(Nat.le_of_ble_eq_true rfl), (Nat.le_of_ble_eq_true rfl)⟩ (Nat.le_of_ble_eq_true rfl) (Nat.le_of_ble_eq_true rfl) 9 rfl (fun c2 => ?_) (fun c2 => ⟨(by simp [oInP, c1, c2]), rfl⟩)
  refine g_aload_n X dX6_freeSince_9 10 rfl rfl ?_
  refine g_get X FL_X6_21 dX6_freeSince_10 13 rfl 4 rfl (v := .ref (a 3)) rfl ?_
  refine g_get X FL_X6_66 dX6_freeSince_13 16 rfl 7 rfl (v := .ref (a 9)) rfl ?_
  refine g_get X FL_X6_244 dX6_freeSince_16 19 rfl 13 rfl (v := .ref (a 12)) rfl ?_
  refine g_iload_n X dX6_freeSince_19 20 rfl rfl ?_
  refine g_iald X dX6_freeSince_20 21 rfl 16 rfl (by first | exact vA ‹_› | exact vC ‹_› | exact vG ‹_› | assumption | exact vp_in_nI (by omega) (by omega)) ?_
  refine g_if_eq X dX6_freeSince_21 34 24 rfl rfl (fun c3 => ?_) (fun c3 => ?_)
  · skip
    refine g_aload_n X dX6_freeSince_34 35 rfl rfl ?_
    refine g_get X FL_X6_21 dX6_freeSince_35 38 rfl 4 rfl (v := .ref (a 3)) rfl ?_
    refine g_get X FL_X6_66 dX6_freeSince_38 41 rfl 7 rfl (v := .ref (a 9)) rfl ?_
    refine g_get X FL_X6_257 dX6_freeSince_41 44 rfl 13 rfl (v := .ref (a 15)) rfl ?_
    refine g_iload_n X dX6_freeSince_44 45 rfl rfl ?_
    refine g_iald X dX6_freeSince_45 46 rfl 19 rfl (by first | exact vA ‹_› | exact vC ‹_› | exact vG ‹_› | assumption | exact vp_in_nI (by omega) (by omega)) ?_
    exact g_iretT X hr dX6_freeSince_46 (Nat.le_of_ble_eq_true rfl) (Nat.le_of_ble_eq_true rfl) (by simp [oInP, c1, c2, c3]) rfl
  · skip
    exact g_throwNS X hlt hT hZ (List.mem_of_getElem? (i := 20) rfl) dX6_freeSince_24 dX6_freeSince_27 dX6_freeSince_28 dX6_freeSince_30 dX6_freeSince_33 (Nat.le_of_ble_eq_true rfl) (Nat.le_of_ble_eq_true rfl) ⟨(Nat.le_of_ble_eq_true rfl), (Nat.le_of_ble_eq_true rfl)⟩ (Nat.le_of_ble_eq_true rfl) (Nat.le_of_ble_eq_true rfl) (by simp [oInP, c1, c2, c3]) rfl

set_option maxHeartbeats 4000000 in
set_option maxRecDepth 100000 in
theorem k_X6_nextCandidate (E : kE) (l : Launch) (hlt : l.stackTraces = false) (wr : va_W) (b : Nat → Nat) (μ : Sto) (a : Nat → Nat) (σ : Sto) (cn : Int32) (g : Int32) : KT E l yX6_nextCandidate cX6_nextCandidate 4 (some .int) 7 114 4 24 [.ref (a 0), .int cn, .int g] (WW E b μ a σ wr) (oNx σ cn g) (WW E b μ a σ wr) := by
  refine KT_start (own := RX6) (by decide +kernel) rfl [(0, .ref (a 0)), (1, .int cn), (2, .int g)] rfl (Nat.le_of_ble_eq_true rfl) (fun p e s m below meth c X hr hT hZ => ?_)
  refine g_iload_n X dX6_nextCandidate_0 1 rfl rfl ?_
  refine c_RS X hT hZ Lk_X6_150 (k_X6_requireClient E l hlt wr b μ a σ cn) dX6_nextCandidate_1 rfl rfl (Nat.le_of_ble_eq_true rfl) ⟨(Nat.le_of_ble_eq_true rfl), (Nat.le_of_ble_eq_true rfl)⟩ ⟨(Nat.le_of_ble_eq_true rfl), (Nat.le_of_ble_eq_true rfl)⟩ (Nat.le_of_ble_eq_true rfl) (Nat.le_of_ble_eq_true rfl) 4 rfl (fun c1 => ?_) (fun c1 => ⟨(by simp [oNx, c1]), rfl⟩)
  refine g_iload_n X dX6_nextCandidate_4 5 rfl rfl ?_
  refine c_RS X hT hZ Lk_X6_28 (k_X6_requireGroup E l hlt wr b μ a σ g) dX6_nextCandidate_5 rfl rfl (Nat.le_of_ble_eq_true rfl) ⟨(Nat.le_of_ble_eq_true rfl), (Nat.le_of_ble_eq_true rfl)⟩ ⟨(Nat.le_of_ble_eq_true rfl), (Nat.le_of_ble_eq_true rfl)⟩ (Nat.le_of_ble_eq_true rfl) (Nat.le_of_ble_eq_true rfl) 8 rfl (fun c2 => ?_) (fun c2 => ⟨(by simp [oNx, c1, c2]), rfl⟩)
  refine g_aload_n X dX6_nextCandidate_8 9 rfl rfl ?_
  refine g_get X FL_X6_21 dX6_nextCandidate_9 12 rfl 4 rfl (v := .ref (a 3)) rfl ?_
  refine g_iload_n X dX6_nextCandidate_12 13 rfl rfl ?_
  refine g_iload_n X dX6_nextCandidate_13 14 rfl rfl ?_
  refine g_iconst X dX6_nextCandidate_14 15 rfl (v := -1) rfl ?_
  refine c_V X Lk_X6_260 (k_X5_firstCandidate E l wr b μ a σ cn g (-1)) dX6_nextCandidate_15 rfl 7 rfl rfl rfl (Nat.le_of_ble_eq_true rfl) ⟨(Nat.le_of_ble_eq_true rfl), (Nat.le_of_ble_eq_true rfl)⟩ ⟨(Nat.le_of_ble_eq_true rfl), (Nat.le_of_ble_eq_true rfl)⟩ 18 rfl [.int (fCd σ cn g (-1))] rfl ?_
  refine g_istore_n X dX6_nextCandidate_18 19 rfl (by decide) [(3, .int (fCd σ cn g (-1))), (0, .ref (a 0)), (1, .int cn), (2, .int g)] rfl ?_
  refine g_iload_n X dX6_nextCandidate_19 20 rfl rfl ?_
  refine g_iconst X dX6_nextCandidate_20 21 rfl (v := -1) rfl ?_
  refine g_ic_ne X dX6_nextCandidate_21 35 24 rfl rfl (fun c3 => ?_) (fun c3 => ?_)
  · skip
    refine g_iload_n X dX6_nextCandidate_35 36 rfl rfl ?_
    exact g_iretT X hr dX6_nextCandidate_36 (Nat.le_of_ble_eq_true rfl) (Nat.le_of_ble_eq_true rfl) (by simp [oNx, c1, c2, c3]) rfl
  · skip
    exact g_throwNSW X hlt hT hZ (List.mem_of_getElem? (i := 21) rfl) dX6_nextCandidate_24 dX6_nextCandidate_27 dX6_nextCandidate_28 dX6_nextCandidate_31 dX6_nextCandidate_34 (Nat.le_of_ble_eq_true rfl) (Nat.le_of_ble_eq_true rfl) ⟨(Nat.le_of_ble_eq_true rfl), (Nat.le_of_ble_eq_true rfl)⟩ (Nat.le_of_ble_eq_true rfl) (Nat.le_of_ble_eq_true rfl) (by simp [oNx, c1, c2, c3]) rfl

set_option maxHeartbeats 4000000 in
set_option maxRecDepth 100000 in
theorem k_X6_countState (E : kE) (l : Launch) (hlt : l.stackTraces = false) (wr : va_W) (b : Nat → Nat) (μ : Sto) (a : Nat → Nat) (σ : Sto) (g : Int32) (v : Int32) : KT E l yX6_countState cX6_countState 3 (some .int) 7 110 4 24 [.ref (a 0), .int g, .int v] (WW E b μ a σ wr) (oCnt σ g v) (WW E b μ a σ wr) := by
  refine KT_start (own := RX6) (by decide +kernel) rfl [(0, .ref (a 0)), (1, .int g), (2, .int v)] rfl (Nat.le_of_ble_eq_true rfl) (fun p e s m below meth c X hr hT hZ => ?_)
  refine g_iload_n X dX6_countState_0 1 rfl rfl ?_
  refine c_RS X hT hZ Lk_X6_28 (k_X6_requireGroup E l hlt wr b μ a σ g) dX6_countState_1 rfl rfl (Nat.le_of_ble_eq_true rfl) ⟨(Nat.le_of_ble_eq_true rfl), (Nat.le_of_ble_eq_true rfl)⟩ ⟨(Nat.le_of_ble_eq_true rfl), (Nat.le_of_ble_eq_true rfl)⟩ (Nat.le_of_ble_eq_true rfl) (Nat.le_of_ble_eq_true rfl) 4 rfl (fun c1 => ?_) (fun c1 => ⟨(by simp [oCnt, c1]), rfl⟩)
  refine g_iload_n X dX6_countState_4 5 rfl rfl ?_
  refine g_if_lt X dX6_countState_5 13 8 rfl rfl (fun c2 => ?_) (fun c2 => ?_)
  · skip
    exact g_throwSW X hlt hT hZ LX_IAE (List.mem_of_getElem? (i := 22) rfl) dX6_countState_13 dX6_countState_16 dX6_countState_17 dX6_countState_20 dX6_countState_23 (Nat.le_of_ble_eq_true rfl) (Nat.le_of_ble_eq_true rfl) ⟨(Nat.le_of_ble_eq_true rfl), (Nat.le_of_ble_eq_true rfl)⟩ (Nat.le_of_ble_eq_true rfl) (Nat.le_of_ble_eq_true rfl) (by simp [oCnt, c1, c2]) rfl
  · skip
    refine g_iload_n X dX6_countState_8 9 rfl rfl ?_
    refine g_iconst X dX6_countState_9 10 rfl (v := 3) rfl ?_
    refine g_ic_le X dX6_countState_10 24 13 rfl rfl (fun c3 => ?_) (fun c3 => ?_)
    · skip
      refine g_aload_n X dX6_countState_24 25 rfl rfl ?_
      refine g_get X FL_X6_21 dX6_countState_25 28 rfl 4 rfl (v := .ref (a 3)) rfl ?_
      refine g_iload_n X dX6_countState_28 29 rfl rfl ?_
      refine g_iload_n X dX6_countState_29 30 rfl rfl ?_
      refine c_V X Lk_X6_267 (k_X5_countInGroup E l wr b μ a σ g v) dX6_countState_30 rfl 7 rfl rfl rfl (Nat.le_of_ble_eq_true rfl) ⟨(Nat.le_of_ble_eq_true rfl), (Nat.le_of_ble_eq_true rfl)⟩ ⟨(Nat.le_of_ble_eq_true rfl), (Nat.le_of_ble_eq_true rfl)⟩ 33 rfl [.int (gcL σ g v 0 5 0)] rfl ?_
      exact g_iretT X hr dX6_countState_33 (Nat.le_of_ble_eq_true rfl) (Nat.le_of_ble_eq_true rfl) (by simp [oCnt, c1, c2, c3]) rfl
    · skip
      exact g_throwSW X hlt hT hZ LX_IAE (List.mem_of_getElem? (i := 22) rfl) dX6_countState_13 dX6_countState_16 dX6_countState_17 dX6_countState_20 dX6_countState_23 (Nat.le_of_ble_eq_true rfl) (Nat.le_of_ble_eq_true rfl) ⟨(Nat.le_of_ble_eq_true rfl), (Nat.le_of_ble_eq_true rfl)⟩ (Nat.le_of_ble_eq_true rfl) (Nat.le_of_ble_eq_true rfl) (by simp [oCnt, c1, c2, c3]) rfl

set_option maxHeartbeats 4000000 in
set_option maxRecDepth 100000 in
theorem k_X6_bound (E : kE) (l : Launch) (wr : va_W) (b : Nat → Nat) (μ : Sto) (a : Nat → Nat) (σ : Sto) : KM E l yX6_bound cX6_bound 1 (some .int) 3 63 0 0 [.ref (a 0)] (WW E b μ a σ wr) (some (.int (bdC σ))) (WW E b μ a σ wr) := by
  refine K_start (own := RX6) (by decide +kernel) rfl [(0, .ref (a 0))] rfl (Nat.le_of_ble_eq_true rfl) (fun p e s m below meth c X hr hin => ?_)
  refine g_aload_n X dX6_bound_0 1 rfl rfl ?_
  refine g_get X FL_X6_21 dX6_bound_1 4 rfl 4 rfl (v := .ref (a 3)) rfl ?_
  refine g_get X FL_X6_153 dX6_bound_4 7 rfl 7 rfl (v := .ref (a 16)) rfl ?_
  refine c_V X Lk_X6_270 (k_X1_countBound E l wr b μ a σ) dX6_bound_7 rfl 20 rfl rfl rfl (Nat.le_of_ble_eq_true rfl) ⟨(Nat.le_of_ble_eq_true rfl), (Nat.le_of_ble_eq_true rfl)⟩ ⟨(Nat.le_of_ble_eq_true rfl), (Nat.le_of_ble_eq_true rfl)⟩ 10 rfl [.int (bdC σ)] rfl ?_
  exact g_iret X hr dX6_bound_10 () rfl rfl

set_option maxHeartbeats 4000000 in
set_option maxRecDepth 100000 in
theorem k_X6_conflicts (E : kE) (l : Launch) (wr : va_W) (b : Nat → Nat) (μ : Sto) (a : Nat → Nat) (σ : Sto) : KM E l yX6_conflicts cX6_conflicts 1 (some .int) 0 0 0 0 [.ref (a 0)] (WW E b μ a σ wr) (some (.int (σ 19 0))) (WW E b μ a σ wr) := by
  refine K_start (own := RX6) (by decide +kernel) rfl [(0, .ref (a 0))] rfl (Nat.le_of_ble_eq_true rfl) (fun p e s m below meth c X hr hin => ?_)
  refine g_aload_n X dX6_conflicts_0 1 rfl rfl ?_
  refine g_get X FL_X6_21 dX6_conflicts_1 4 rfl 4 rfl (v := .ref (a 3)) rfl ?_
  refine g_get X FL_X6_130 dX6_conflicts_4 7 rfl 7 rfl (v := .ref (a 22)) rfl ?_
  refine g_get X FL_X6_273 dX6_conflicts_7 10 rfl 26 rfl (v := .int (σ 19 0)) rfl ?_
  exact g_iret X hr dX6_conflicts_10 () rfl rfl

set_option maxHeartbeats 4000000 in
set_option maxRecDepth 100000 in
theorem k_X6_logSize (E : kE) (l : Launch) (wr : va_W) (b : Nat → Nat) (μ : Sto) (a : Nat → Nat) (σ : Sto) : KM E l yX6_logSize cX6_logSize 1 (some .int) 0 0 0 0 [.ref (a 0)] (WW E b μ a σ wr) (some (.int (σ 45 0))) (WW E b μ a σ wr) := by
  refine K_start (own := RX6) (by decide +kernel) rfl [(0, .ref (a 0))] rfl (Nat.le_of_ble_eq_true rfl) (fun p e s m below meth c X hr hin => ?_)
  refine g_aload_n X dX6_logSize_0 1 rfl rfl ?_
  refine g_get X FL_X6_10 dX6_logSize_1 4 rfl 4 rfl (v := .ref (a 1)) rfl ?_
  refine g_get X FL_X6_276 dX6_logSize_4 7 rfl 5 rfl (v := .int (σ 45 0)) rfl ?_
  exact g_iret X hr dX6_logSize_7 () rfl rfl

set_option maxHeartbeats 4000000 in
set_option maxRecDepth 100000 in
theorem k_X6_log (E : kE) (l : Launch) (hlt : l.stackTraces = false) (wr : va_W) (b : Nat → Nat) (μ : Sto) (a : Nat → Nat) (σ : Sto) (x : Int32) (hf : vp_in (fmd (σ 46 0 - 1 - x) 30) 30) : KT E l yX6_log cX6_log 2 (some .int) 6 90 4 24 [.ref (a 0), .int x] (WW E b μ a σ wr) (oLog σ x) (WW E b μ a σ wr) := by
  refine KT_start (own := RX6) (by decide +kernel) rfl [(0, .ref (a 0)), (1, .int x)] rfl (Nat.le_of_ble_eq_true rfl) (fun p e s m below meth c X hr hT hZ => ?_)
  refine g_iload_n X dX6_log_0 1 rfl rfl ?_
  refine g_if_lt X dX6_log_1 15 4 rfl rfl (fun c1 => ?_) (fun c1 => ?_)
  · skip
    exact g_throwSW X hlt hT hZ LX_IOB (List.mem_of_getElem? (i := 23) rfl) dX6_log_15 dX6_log_18 dX6_log_19 dX6_log_22 dX6_log_25 (Nat.le_of_ble_eq_true rfl) (Nat.le_of_ble_eq_true rfl) ⟨(Nat.le_of_ble_eq_true rfl), (Nat.le_of_ble_eq_true rfl)⟩ (Nat.le_of_ble_eq_true rfl) (Nat.le_of_ble_eq_true rfl) (by simp [oLog, c1]) rfl
  · skip
    refine g_iload_n X dX6_log_4 5 rfl rfl ?_
    refine g_aload_n X dX6_log_5 6 rfl rfl ?_
    refine g_get X FL_X6_10 dX6_log_6 9 rfl 4 rfl (v := .ref (a 1)) rfl ?_
    refine g_get X FL_X6_276 dX6_log_9 12 rfl 5 rfl (v := .int (σ 45 0)) rfl ?_
    refine g_ic_lt X dX6_log_12 26 15 rfl rfl (fun c2 => ?_) (fun c2 => ?_)
    · skip
      refine g_aload_n X dX6_log_26 27 rfl rfl ?_
      refine g_get X FL_X6_10 dX6_log_27 30 rfl 4 rfl (v := .ref (a 1)) rfl ?_
      refine g_iload_n X dX6_log_30 31 rfl rfl ?_
      refine c_V X Lk_X6_284 (k_X2_read E l wr b μ a σ x hf) dX6_log_31 rfl 5 rfl rfl rfl (Nat.le_of_ble_eq_true rfl) ⟨(Nat.le_of_ble_eq_true rfl), (Nat.le_of_ble_eq_true rfl)⟩ ⟨(Nat.le_of_ble_eq_true rfl), (Nat.le_of_ble_eq_true rfl)⟩ 34 rfl [.int (σ 44 (ix (fmd (σ 46 0 - 1 - x) 30)))] rfl ?_
      exact g_iretT X hr dX6_log_34 (Nat.le_of_ble_eq_true rfl) (Nat.le_of_ble_eq_true rfl) (by simp [oLog, c1, c2]) rfl
    · skip
      exact g_throwSW X hlt hT hZ LX_IOB (List.mem_of_getElem? (i := 23) rfl) dX6_log_15 dX6_log_18 dX6_log_19 dX6_log_22 dX6_log_25 (Nat.le_of_ble_eq_true rfl) (Nat.le_of_ble_eq_true rfl) ⟨(Nat.le_of_ble_eq_true rfl), (Nat.le_of_ble_eq_true rfl)⟩ (Nat.le_of_ble_eq_true rfl) (Nat.le_of_ble_eq_true rfl) (by simp [oLog, c1, c2]) rfl
