/-! LEAVES of the class: what each answers, and what it leaves -/
def eventK (t k x : Int32) : Int32 := (t * 5 + k) * 100 + x
def isP (σ : Sto) (p : Int32) : Bool := !decide (p < 0) && !decide (σ 0 0 ≤ p) && !decide (5 ≤ p)
/-- the pool that has x, from pool i on, r pools at most -/
def numL (σ : Sto) (x : Int32) : Nat → Nat → Int32
  | _, 0 => -1
  | i, r + 1 => if σ 0 0 ≤ nI i then -1 else if x < σ 2 i then numL σ x (i + 1) r else if σ 3 i < x then numL σ x (i + 1) r else nI i
def numAt (σ : Sto) (x : Int32) : Int32 := numL σ x 0 5
def grpAt (σ : Sto) (x : Int32) : Int32 := bif isP σ (numAt σ x) then σ 1 (ix (numAt σ x)) else -1
def leaAt (σ : Sto) (x : Int32) : Int32 := bif isP σ (numAt σ x) then σ 4 (ix (numAt σ x)) else 0
theorem vP {σ : Sto} {x : Int32} (h : isP σ x = true) : vp_in x 5 := by
  simp [isP] at h
  exact vin_of (N := 5) (by decide) rfl (by simpa using h.1.1) (by simpa using h.2)
/-- has a pool one of the addresses from x to y -/
def ovL (σ : Sto) (x y : Int32) : Nat → Nat → Bool
  | _, 0 => false
  | i, r + 1 => if σ 0 0 ≤ nI i then false else if y < σ 2 i then ovL σ x y (i + 1) r else if σ 3 i < x then ovL σ x y (i + 1) r else true
def frees (σ : Sto) (x t : Int32) : Sto := bif inA x then put (put (put σ 7 (upd (σ 7) (ix x) 0)) 8 (upd (σ 8) (ix x) (-1))) 10 (upd (σ 10) (ix x) t) else σ
def helds (σ : Sto) (x v c t : Int32) : Sto := bif inA x then put (put (put σ 7 (upd (σ 7) (ix x) v)) 8 (upd (σ 8) (ix x) c)) 9 (upd (σ 9) (ix x) t) else σ
def isOff (σ : Sto) (x : Int32) : Bool := inA x && decide (σ 7 (ix x) = 0) && decide (σ 5 (ix x) = 0)
def isFL (σ : Sto) (x y : Int32) : Bool := inA x && inA y && (decide (σ 10 (ix x) < σ 10 (ix y)) || (decide (σ 10 (ix x) = σ 10 (ix y)) && !decide (y ≤ x)))
def isBd (σ : Sto) (x : Int32) : Bool := inC x && !decide (σ 11 (ix x) < 2)
def idles (σ : Sto) (x : Int32) : Sto := bif inC x then put (put σ 11 (upd (σ 11) (ix x) 0)) 12 (upd (σ 12) (ix x) (-1)) else σ
def offs (σ : Sto) (x y : Int32) : Sto := bif inC x then put (put σ 11 (upd (σ 11) (ix x) 1)) 12 (upd (σ 12) (ix x) y) else σ
def leases (σ : Sto) (x t d : Int32) : Sto := bif inC x then put (put (put (put σ 11 (upd (σ 11) (ix x) 2)) 13 (upd (σ 13) (ix x) (σ 12 (ix x)))) 14 (upd (σ 14) (ix x) (t + d / 2))) 15 (upd (σ 15) (ix x) (t + d * 7 / 8)) else σ
theorem tsw_4 (x : Int32) : x = 0 ∨ x = 1 ∨ x = 2 ∨ x = 3 ∨ (x.toInt < 0 ∨ 3 < x.toInt) := by
  by_cases h : x.toInt < 0 ∨ 3 < x.toInt
  · exact Or.inr (Or.inr (Or.inr (Or.inr h)))
  · have h1 : 0 ≤ x.toInt := by omega
    have h2 : x.toInt ≤ 3 := by omega
    rcases (show x.toInt = 0 ∨ x.toInt = 1 ∨ x.toInt = 2 ∨ x.toInt = 3 by omega) with e | e | e | e
    · exact Or.inl (Int32.toInt_inj.mp e)
    · exact Or.inr (Or.inl (Int32.toInt_inj.mp e))
    · exact Or.inr (Or.inr (Or.inl (Int32.toInt_inj.mp e)))
    · exact Or.inr (Or.inr (Or.inr (Or.inl (Int32.toInt_inj.mp e))))
set_option maxHeartbeats 4000000 in
set_option maxRecDepth 100000 in
theorem k_X6_isAddress (E : kE) (l : Launch) (wr : va_W) (b : Nat → Nat) (μ : Sto) (a : Nat → Nat) (σ : Sto) (x : Int32) : KM E l yX6_isAddress cX6_isAddress 1 (some .boolean) 0 0 0 0 [.int x] (WW E b μ a σ wr) (some (.int (bi (inA x)))) (WW E b μ a σ wr) := by
  refine K_start (own := RX6) (by decide +kernel) rfl [(0, .int x)] rfl (Nat.le_of_ble_eq_true rfl) (fun p e s m below meth c X hr hin => ?_)
  refine g_iload_n X dX6_isAddress_0 1 rfl rfl ?_
  refine g_if_lt X dX6_isAddress_1 14 4 rfl rfl (fun c1 => ?_) (fun c1 => ?_)
  · skip
    refine g_iconst X dX6_isAddress_14 15 rfl (v := 0) rfl ?_
    exact g_zret X hr dX6_isAddress_15 false rfl () (by simp [inA, bi, c1]) rfl
  · skip
    refine g_iload_n X dX6_isAddress_4 5 rfl rfl ?_
    refine g_bipush X dX6_isAddress_5 7 rfl (v := 100) rfl ?_
    refine g_ic_ge X dX6_isAddress_7 14 10 rfl rfl (fun c2 => ?_) (fun c2 => ?_)
    · skip
      refine g_iconst X dX6_isAddress_14 15 rfl (v := 0) rfl ?_
      exact g_zret X hr dX6_isAddress_15 false rfl () (by simp [inA, bi, c1, c2]) rfl
    · skip
      refine g_iconst X dX6_isAddress_10 11 rfl (v := 1) rfl ?_
      refine g_goto X dX6_isAddress_11 15 rfl ?_
      exact g_zret X hr dX6_isAddress_15 true rfl () (by simp [inA, bi, c1, c2]) rfl

set_option maxHeartbeats 4000000 in
set_option maxRecDepth 100000 in
theorem k_X6_isClient (E : kE) (l : Launch) (wr : va_W) (b : Nat → Nat) (μ : Sto) (a : Nat → Nat) (σ : Sto) (x : Int32) : KM E l yX6_isClient cX6_isClient 1 (some .boolean) 0 0 0 0 [.int x] (WW E b μ a σ wr) (some (.int (bi (inC x)))) (WW E b μ a σ wr) := by
  refine K_start (own := RX6) (by decide +kernel) rfl [(0, .int x)] rfl (Nat.le_of_ble_eq_true rfl) (fun p e s m below meth c X hr hin => ?_)
  refine g_iload_n X dX6_isClient_0 1 rfl rfl ?_
  refine g_if_lt X dX6_isClient_1 14 4 rfl rfl (fun c1 => ?_) (fun c1 => ?_)
  · skip
    refine g_iconst X dX6_isClient_14 15 rfl (v := 0) rfl ?_
    exact g_zret X hr dX6_isClient_15 false rfl () (by simp [inC, bi, c1]) rfl
  · skip
    refine g_iload_n X dX6_isClient_4 5 rfl rfl ?_
    refine g_bipush X dX6_isClient_5 7 rfl (v := 20) rfl ?_
    refine g_ic_ge X dX6_isClient_7 14 10 rfl rfl (fun c2 => ?_) (fun c2 => ?_)
    · skip
      refine g_iconst X dX6_isClient_14 15 rfl (v := 0) rfl ?_
      exact g_zret X hr dX6_isClient_15 false rfl () (by simp [inC, bi, c1, c2]) rfl
    · skip
      refine g_iconst X dX6_isClient_10 11 rfl (v := 1) rfl ?_
      refine g_goto X dX6_isClient_11 15 rfl ?_
      exact g_zret X hr dX6_isClient_15 true rfl () (by simp [inC, bi, c1, c2]) rfl

set_option maxHeartbeats 4000000 in
set_option maxRecDepth 100000 in
theorem k_X6_isGroup (E : kE) (l : Launch) (wr : va_W) (b : Nat → Nat) (μ : Sto) (a : Nat → Nat) (σ : Sto) (x : Int32) : KM E l yX6_isGroup cX6_isGroup 1 (some .boolean) 0 0 0 0 [.int x] (WW E b μ a σ wr) (some (.int (bi (inG x)))) (WW E b μ a σ wr) := by
  refine K_start (own := RX6) (by decide +kernel) rfl [(0, .int x)] rfl (Nat.le_of_ble_eq_true rfl) (fun p e s m below meth c X hr hin => ?_)
  refine g_iload_n X dX6_isGroup_0 1 rfl rfl ?_
  refine g_if_lt X dX6_isGroup_1 13 4 rfl rfl (fun c1 => ?_) (fun c1 => ?_)
  · skip
    refine g_iconst X dX6_isGroup_13 14 rfl (v := 0) rfl ?_
    exact g_zret X hr dX6_isGroup_14 false rfl () (by simp [inG, bi, c1]) rfl
  · skip
    refine g_iload_n X dX6_isGroup_4 5 rfl rfl ?_
    refine g_iconst X dX6_isGroup_5 6 rfl (v := 3) rfl ?_
    refine g_ic_ge X dX6_isGroup_6 13 9 rfl rfl (fun c2 => ?_) (fun c2 => ?_)
    · skip
      refine g_iconst X dX6_isGroup_13 14 rfl (v := 0) rfl ?_
      exact g_zret X hr dX6_isGroup_14 false rfl () (by simp [inG, bi, c1, c2]) rfl
    · skip
      refine g_iconst X dX6_isGroup_9 10 rfl (v := 1) rfl ?_
      refine g_goto X dX6_isGroup_10 14 rfl ?_
      exact g_zret X hr dX6_isGroup_14 true rfl () (by simp [inG, bi, c1, c2]) rfl

set_option maxHeartbeats 4000000 in
set_option maxRecDepth 100000 in
theorem k_X6_eventAt (E : kE) (l : Launch) (wr : va_W) (b : Nat → Nat) (μ : Sto) (a : Nat → Nat) (σ : Sto) (t : Int32) (q : Int32) (x : Int32) : KM E l yX6_eventAt cX6_eventAt 3 (some .int) 0 0 0 0 [.int t, .int q, .int x] (WW E b μ a σ wr) (some (.int (eventK t q x))) (WW E b μ a σ wr) := by
  refine K_start (own := RX6) (by decide +kernel) rfl [(0, .int t), (1, .int q), (2, .int x)] rfl (Nat.le_of_ble_eq_true rfl) (fun p e s m below meth c X hr hin => ?_)
  refine g_iload_n X dX6_eventAt_0 1 rfl rfl ?_
  refine g_iconst X dX6_eventAt_1 2 rfl (v := 5) rfl ?_
  refine g_imul X dX6_eventAt_2 3 rfl ?_
  refine g_iload_n X dX6_eventAt_3 4 rfl rfl ?_
  refine g_iadd X dX6_eventAt_4 5 rfl ?_
  refine g_bipush X dX6_eventAt_5 7 rfl (v := 100) rfl ?_
  refine g_imul X dX6_eventAt_7 8 rfl ?_
  refine g_iload_n X dX6_eventAt_8 9 rfl rfl ?_
  refine g_iadd X dX6_eventAt_9 10 rfl ?_
  exact g_iret X hr dX6_eventAt_10 () rfl rfl

set_option maxHeartbeats 4000000 in
set_option maxRecDepth 100000 in
theorem k_X6_timeOfEvent (E : kE) (l : Launch) (wr : va_W) (b : Nat → Nat) (μ : Sto) (a : Nat → Nat) (σ : Sto) (x : Int32) : KM E l yX6_timeOfEvent cX6_timeOfEvent 1 (some .int) 0 0 0 0 [.int x] (WW E b μ a σ wr) (some (.int (x / 100 / 5))) (WW E b μ a σ wr) := by
  refine K_start (own := RX6) (by decide +kernel) rfl [(0, .int x)] rfl (Nat.le_of_ble_eq_true rfl) (fun p e s m below meth c X hr hin => ?_)
  refine g_iload_n X dX6_timeOfEvent_0 1 rfl rfl ?_
  refine g_bipush X dX6_timeOfEvent_1 3 rfl (v := 100) rfl ?_
  refine g_idiv X dX6_timeOfEvent_3 4 rfl (by decide) ?_
  refine g_iconst X dX6_timeOfEvent_4 5 rfl (v := 5) rfl ?_
  refine g_idiv X dX6_timeOfEvent_5 6 rfl (by decide) ?_
  exact g_iret X hr dX6_timeOfEvent_6 () rfl rfl

set_option maxHeartbeats 4000000 in
set_option maxRecDepth 100000 in
theorem k_X6_kindOfEvent (E : kE) (l : Launch) (wr : va_W) (b : Nat → Nat) (μ : Sto) (a : Nat → Nat) (σ : Sto) (x : Int32) : KM E l yX6_kindOfEvent cX6_kindOfEvent 1 (some .int) 0 0 0 0 [.int x] (WW E b μ a σ wr) (some (.int (x / 100 - x / 100 / 5 * 5))) (WW E b μ a σ wr) := by
  refine K_start (own := RX6) (by decide +kernel) rfl [(0, .int x)] rfl (Nat.le_of_ble_eq_true rfl) (fun p e s m below meth c X hr hin => ?_)
  refine g_iload_n X dX6_kindOfEvent_0 1 rfl rfl ?_
  refine g_bipush X dX6_kindOfEvent_1 3 rfl (v := 100) rfl ?_
  refine g_idiv X dX6_kindOfEvent_3 4 rfl (by decide) ?_
  refine g_iconst X dX6_kindOfEvent_4 5 rfl (v := 5) rfl ?_
  refine g_irem X dX6_kindOfEvent_5 6 rfl (by decide) ?_
  exact g_iret X hr dX6_kindOfEvent_6 () rfl rfl

set_option maxHeartbeats 4000000 in
set_option maxRecDepth 100000 in
theorem k_X6_addressOfEvent (E : kE) (l : Launch) (wr : va_W) (b : Nat → Nat) (μ : Sto) (a : Nat → Nat) (σ : Sto) (x : Int32) : KM E l yX6_addressOfEvent cX6_addressOfEvent 1 (some .int) 0 0 0 0 [.int x] (WW E b μ a σ wr) (some (.int (x - x / 100 * 100))) (WW E b μ a σ wr) := by
  refine K_start (own := RX6) (by decide +kernel) rfl [(0, .int x)] rfl (Nat.le_of_ble_eq_true rfl) (fun p e s m below meth c X hr hin => ?_)
  refine g_iload_n X dX6_addressOfEvent_0 1 rfl rfl ?_
  refine g_bipush X dX6_addressOfEvent_1 3 rfl (v := 100) rfl ?_
  refine g_irem X dX6_addressOfEvent_3 4 rfl (by decide) ?_
  exact g_iret X hr dX6_addressOfEvent_4 () rfl rfl

set_option maxHeartbeats 4000000 in
set_option maxRecDepth 100000 in
theorem k_X3_isPool (E : kE) (l : Launch) (wr : va_W) (b : Nat → Nat) (μ : Sto) (a : Nat → Nat) (σ : Sto) (x : Int32) : KM E l yX3_isPool cX3_isPool 2 (some .boolean) 0 0 0 0 [.ref (a 4), .int x] (WW E b μ a σ wr) (some (.int (bi (isP σ x)))) (WW E b μ a σ wr) := by
  refine K_start (own := RX3) (by decide +kernel) rfl [(0, .ref (a 4)), (1, .int x)] rfl (Nat.le_of_ble_eq_true rfl) (fun p e s m below meth c X hr hin => ?_)
  refine g_iload_n X dX3_isPool_0 1 rfl rfl ?_
  refine g_if_lt X dX3_isPool_1 21 4 rfl rfl (fun c1 => ?_) (fun c1 => ?_)
  · skip
    refine g_iconst X dX3_isPool_21 22 rfl (v := 0) rfl ?_
    exact g_zret X hr dX3_isPool_22 false rfl () (by simp [isP, bi, c1]) rfl
  · skip
    refine g_iload_n X dX3_isPool_4 5 rfl rfl ?_
    refine g_aload_n X dX3_isPool_5 6 rfl rfl ?_
    refine g_get X FL_X3_24 dX3_isPool_6 9 rfl 8 rfl (v := .int (σ 0 0)) rfl ?_
    refine g_ic_ge X dX3_isPool_9 21 12 rfl rfl (fun c2 => ?_) (fun c2 => ?_)
    · skip
      refine g_iconst X dX3_isPool_21 22 rfl (v := 0) rfl ?_
      exact g_zret X hr dX3_isPool_22 false rfl () (by simp [isP, bi, c1, c2]) rfl
    · skip
      refine g_iload_n X dX3_isPool_12 13 rfl rfl ?_
      refine g_iconst X dX3_isPool_13 14 rfl (v := 5) rfl ?_
      refine g_ic_ge X dX3_isPool_14 21 17 rfl rfl (fun c3 => ?_) (fun c3 => ?_)
      · skip
        refine g_iconst X dX3_isPool_21 22 rfl (v := 0) rfl ?_
        exact g_zret X hr dX3_isPool_22 false rfl () (by simp [isP, bi, c1, c2, c3]) rfl
      · skip
        refine g_iconst X dX3_isPool_17 18 rfl (v := 1) rfl ?_
        refine g_goto X dX3_isPool_18 22 rfl ?_
        exact g_zret X hr dX3_isPool_22 true rfl () (by simp [isP, bi, c1, c2, c3]) rfl

set_option maxHeartbeats 4000000 in
set_option maxRecDepth 100000 in
theorem k_X3_numberAt (E : kE) (l : Launch) (wr : va_W) (b : Nat → Nat) (μ : Sto) (a : Nat → Nat) (σ : Sto) (x : Int32) : KM E l yX3_numberAt cX3_numberAt 3 (some .int) 0 0 0 0 [.ref (a 4), .int x] (WW E b μ a σ wr) (some (.int (numAt σ x))) (WW E b μ a σ wr) := by
  refine K_start (own := RX3) (by decide +kernel) rfl [(0, .ref (a 4)), (1, .int x)] rfl (Nat.le_of_ble_eq_true rfl) (fun p e s m below meth c X hr hin => ?_)
  refine g_iconst X dX3_numberAt_0 1 rfl (v := 0) rfl ?_
  refine g_istore_n X dX3_numberAt_1 2 rfl (by decide) [(2, .int 0), (0, .ref (a 4)), (1, .int x)] rfl ?_
  have Lp : ∀ (r i : Nat), (i + r = 5) → (numL σ x i r = numAt σ x) →  G E (va_A (WW E b μ a σ wr) s.heap.size) 3 p l e ({ frames := 0, cells := 0, slots := 0, locals := 0 } : Room) s m (([.ref (a 4), .int x] : List Value).toArray) below meth c (MQ below (KQ E (WW E b μ a σ wr) s.heap.size (fun _ : Unit => (some (.int (numAt σ x)))) (fun _ => WW E b μ a σ wr)) (([.ref (a 4), .int x] : List Value).toArray) s 0 0 (va_A (WW E b μ a σ wr) s.heap.size)) 0 0 (WW E b μ a σ wr) 2 [(2, .int (nI i)), (0, .ref (a 4)), (1, .int x)] [] := by
    intro r
    induction r with
    | zero =>
      intro i hi hv
      obtain rfl : i = 5 := by omega
      refine g_iload_n X dX3_numberAt_2 3 rfl rfl ?_
      refine g_iconst X dX3_numberAt_3 4 rfl (v := 5) rfl ?_
      refine g_ic_ge X dX3_numberAt_4 43 7 rfl rfl (fun c1 => ?_) (fun c1 => absurd (by decide) c1)
      refine g_iconst X dX3_numberAt_43 44 rfl (v := -1) rfl ?_
      exact g_iret X hr dX3_numberAt_44 () (by rw [← hv]; rfl) rfl
    | succ r ih =>
      intro i hi hv
      refine g_iload_n X dX3_numberAt_2 3 rfl rfl ?_
      refine g_iconst X dX3_numberAt_3 4 rfl (v := 5) rfl ?_
      refine g_ic_ge X dX3_numberAt_4 43 7 rfl rfl (fun c2 => absurd c2 (nI_ge (b := 5) (by omega) (by decide))) (fun c2 => ?_)
      refine g_iload_n X dX3_numberAt_7 8 rfl rfl ?_
      refine g_aload_n X dX3_numberAt_8 9 rfl rfl ?_
      refine g_get X FL_X3_24 dX3_numberAt_9 12 rfl 8 rfl (v := .int (σ 0 0)) rfl ?_
      refine g_ic_ge X dX3_numberAt_12 43 15 rfl rfl (fun c3 => ?_) (fun c3 => ?_)
      · skip
        refine g_iconst X dX3_numberAt_43 44 rfl (v := -1) rfl ?_
        exact g_iret X hr dX3_numberAt_44 () (by rw [← hv]; simp [numL, c2, c3]) rfl
      · skip
        refine g_aload_n X dX3_numberAt_15 16 rfl rfl ?_
        refine g_get X FL_X3_15 dX3_numberAt_16 19 rfl 8 rfl (v := .ref (a 6)) rfl ?_
        refine g_iload_n X dX3_numberAt_19 20 rfl rfl ?_
        refine g_ialdN X dX3_numberAt_20 21 rfl 10 rfl (by omega) (by decide) ?_
        refine g_iload_n X dX3_numberAt_21 22 rfl rfl ?_
        refine g_ic_gt X dX3_numberAt_22 37 25 rfl rfl (fun c4 => ?_) (fun c4 => ?_)
        · skip
          refine g_iinc X dX3_numberAt_37 40 rfl (by decide) 0 rfl (nI_1 _) [(2, .int (nI (i + 1))), (0, .ref (a 4)), (1, .int x)] rfl ?_
          refine g_goto X dX3_numberAt_40 2 rfl ?_
          exact ih (i + 1) (by omega) (by rw [← hv]; simp [numL, c2, c3, c4])
        · skip
          refine g_iload_n X dX3_numberAt_25 26 rfl rfl ?_
          refine g_aload_n X dX3_numberAt_26 27 rfl rfl ?_
          refine g_get X FL_X3_18 dX3_numberAt_27 30 rfl 8 rfl (v := .ref (a 7)) rfl ?_
          refine g_iload_n X dX3_numberAt_30 31 rfl rfl ?_
          refine g_ialdN X dX3_numberAt_31 32 rfl 11 rfl (by omega) (by decide) ?_
          refine g_ic_gt X dX3_numberAt_32 37 35 rfl rfl (fun c5 => ?_) (fun c5 => ?_)
          · skip
            refine g_iinc X dX3_numberAt_37 40 rfl (by decide) 0 rfl (nI_1 _) [(2, .int (nI (i + 1))), (0, .ref (a 4)), (1, .int x)] rfl ?_
            refine g_goto X dX3_numberAt_40 2 rfl ?_
            exact ih (i + 1) (by omega) (by rw [← hv]; simp [numL, c2, c3, c4, c5])
          · skip
            refine g_iload_n X dX3_numberAt_35 36 rfl rfl ?_
            exact g_iret X hr dX3_numberAt_36 () (by rw [← hv]; simp [numL, c2, c3, c4, c5]) rfl
  exact Lp 5 0 rfl rfl

set_option maxHeartbeats 4000000 in
set_option maxRecDepth 100000 in
theorem k_X3_groupAt (E : kE) (l : Launch) (wr : va_W) (b : Nat → Nat) (μ : Sto) (a : Nat → Nat) (σ : Sto) (x : Int32) : KM E l yX3_groupAt cX3_groupAt 3 (some .int) 1 22 0 0 [.ref (a 4), .int x] (WW E b μ a σ wr) (some (.int (grpAt σ x))) (WW E b μ a σ wr) := by
  refine K_start (own := RX3) (by decide +kernel) rfl [(0, .ref (a 4)), (1, .int x)] rfl (Nat.le_of_ble_eq_true rfl) (fun p e s m below meth c X hr hin => ?_)
  refine g_aload_n X dX3_groupAt_0 1 rfl rfl ?_
  refine g_iload_n X dX3_groupAt_1 2 rfl rfl ?_
  refine c_V X Lk_X3_28 (k_X3_numberAt E l wr b μ a σ x) dX3_groupAt_2 rfl 8 rfl rfl rfl (Nat.le_of_ble_eq_true rfl) ⟨(Nat.le_of_ble_eq_true rfl), (Nat.le_of_ble_eq_true rfl)⟩ ⟨(Nat.le_of_ble_eq_true rfl), (Nat.le_of_ble_eq_true rfl)⟩ 5 rfl [.int (numAt σ x)] rfl ?_
  refine g_istore_n X dX3_groupAt_5 6 rfl (by decide) [(2, .int (numAt σ x)), (0, .ref (a 4)), (1, .int x)] rfl ?_
  refine g_aload_n X dX3_groupAt_6 7 rfl rfl ?_
  refine g_iload_n X dX3_groupAt_7 8 rfl rfl ?_
  refine c_V X Lk_X3_32 (k_X3_isPool E l wr b μ a σ (numAt σ x)) dX3_groupAt_8 rfl 8 rfl rfl rfl (Nat.le_of_ble_eq_true rfl) ⟨(Nat.le_of_ble_eq_true rfl), (Nat.le_of_ble_eq_true rfl)⟩ ⟨(Nat.le_of_ble_eq_true rfl), (Nat.le_of_ble_eq_true rfl)⟩ 11 rfl [.int (bi (isP σ (numAt σ x)))] rfl ?_
  refine g_ifb_eq X dX3_groupAt_11 23 14 rfl rfl (fun c1 => ?_) (fun c1 => ?_)
  · skip
    refine g_iconst X dX3_groupAt_23 24 rfl (v := -1) rfl ?_
    exact g_iret X hr dX3_groupAt_24 () (by simp [grpAt, c1]) rfl
  · skip
    refine g_aload_n X dX3_groupAt_14 15 rfl rfl ?_
    refine g_get X FL_X3_9 dX3_groupAt_15 18 rfl 8 rfl (v := .ref (a 5)) rfl ?_
    refine g_iload_n X dX3_groupAt_18 19 rfl rfl ?_
    refine g_iald X dX3_groupAt_19 20 rfl 9 rfl (vP ‹_›) ?_
    refine g_goto X dX3_groupAt_20 24 rfl ?_
    exact g_iret X hr dX3_groupAt_24 () (by simp [grpAt, c1]) rfl

set_option maxHeartbeats 4000000 in
set_option maxRecDepth 100000 in
theorem k_X3_leaseAt (E : kE) (l : Launch) (wr : va_W) (b : Nat → Nat) (μ : Sto) (a : Nat → Nat) (σ : Sto) (x : Int32) : KM E l yX3_leaseAt cX3_leaseAt 3 (some .int) 1 22 0 0 [.ref (a 4), .int x] (WW E b μ a σ wr) (some (.int (leaAt σ x))) (WW E b μ a σ wr) := by
  refine K_start (own := RX3) (by decide +kernel) rfl [(0, .ref (a 4)), (1, .int x)] rfl (Nat.le_of_ble_eq_true rfl) (fun p e s m below meth c X hr hin => ?_)
  refine g_aload_n X dX3_leaseAt_0 1 rfl rfl ?_
  refine g_iload_n X dX3_leaseAt_1 2 rfl rfl ?_
  refine c_V X Lk_X3_28 (k_X3_numberAt E l wr b μ a σ x) dX3_leaseAt_2 rfl 8 rfl rfl rfl (Nat.le_of_ble_eq_true rfl) ⟨(Nat.le_of_ble_eq_true rfl), (Nat.le_of_ble_eq_true rfl)⟩ ⟨(Nat.le_of_ble_eq_true rfl), (Nat.le_of_ble_eq_true rfl)⟩ 5 rfl [.int (numAt σ x)] rfl ?_
  refine g_istore_n X dX3_leaseAt_5 6 rfl (by decide) [(2, .int (numAt σ x)), (0, .ref (a 4)), (1, .int x)] rfl ?_
  refine g_aload_n X dX3_leaseAt_6 7 rfl rfl ?_
  refine g_iload_n X dX3_leaseAt_7 8 rfl rfl ?_
  refine c_V X Lk_X3_32 (k_X3_isPool E l wr b μ a σ (numAt σ x)) dX3_leaseAt_8 rfl 8 rfl rfl rfl (Nat.le_of_ble_eq_true rfl) ⟨(Nat.le_of_ble_eq_true rfl), (Nat.le_of_ble_eq_true rfl)⟩ ⟨(Nat.le_of_ble_eq_true rfl), (Nat.le_of_ble_eq_true rfl)⟩ 11 rfl [.int (bi (isP σ (numAt σ x)))] rfl ?_
  refine g_ifb_eq X dX3_leaseAt_11 23 14 rfl rfl (fun c1 => ?_) (fun c1 => ?_)
  · skip
    refine g_iconst X dX3_leaseAt_23 24 rfl (v := 0) rfl ?_
    exact g_iret X hr dX3_leaseAt_24 () (by simp [leaAt, c1]) rfl
  · skip
    refine g_aload_n X dX3_leaseAt_14 15 rfl rfl ?_
    refine g_get X FL_X3_21 dX3_leaseAt_15 18 rfl 8 rfl (v := .ref (a 8)) rfl ?_
    refine g_iload_n X dX3_leaseAt_18 19 rfl rfl ?_
    refine g_iald X dX3_leaseAt_19 20 rfl 12 rfl (vP ‹_›) ?_
    refine g_goto X dX3_leaseAt_20 24 rfl ?_
    exact g_iret X hr dX3_leaseAt_24 () (by simp [leaAt, c1]) rfl

set_option maxHeartbeats 4000000 in
set_option maxRecDepth 100000 in
theorem k_X3_overlap (E : kE) (l : Launch) (wr : va_W) (b : Nat → Nat) (μ : Sto) (a : Nat → Nat) (σ : Sto) (x : Int32) (y : Int32) : KM E l yX3_overlap cX3_overlap 4 (some .boolean) 0 0 0 0 [.ref (a 4), .int x, .int y] (WW E b μ a σ wr) (some (.int (bi (ovL σ x y 0 5)))) (WW E b μ a σ wr) := by
  refine K_start (own := RX3) (by decide +kernel) rfl [(0, .ref (a 4)), (1, .int x), (2, .int y)] rfl (Nat.le_of_ble_eq_true rfl) (fun p e s m below meth c X hr hin => ?_)
  refine g_iconst X dX3_overlap_0 1 rfl (v := 0) rfl ?_
  refine g_istore_n X dX3_overlap_1 2 rfl (by decide) [(3, .int 0), (0, .ref (a 4)), (1, .int x), (2, .int y)] rfl ?_
  have Lp : ∀ (r i : Nat), (i + r = 5) → (ovL σ x y i r = ovL σ x y 0 5) →  G E (va_A (WW E b μ a σ wr) s.heap.size) 4 p l e ({ frames := 0, cells := 0, slots := 0, locals := 0 } : Room) s m (([.ref (a 4), .int x, .int y] : List Value).toArray) below meth c (MQ below (KQ E (WW E b μ a σ wr) s.heap.size (fun _ : Unit => (some (.int (bi (ovL σ x y 0 5))))) (fun _ => WW E b μ a σ wr)) (([.ref (a 4), .int x, .int y] : List Value).toArray) s 0 0 (va_A (WW E b μ a σ wr) s.heap.size)) 0 0 (WW E b μ a σ wr) 2 [(3, .int (nI i)), (0, .ref (a 4)), (1, .int x), (2, .int y)] [] := by
    intro r
    induction r with
    | zero =>
      intro i hi hv
      obtain rfl : i = 5 := by omega
      refine g_iload_n X dX3_overlap_2 3 rfl rfl ?_
      refine g_iconst X dX3_overlap_3 4 rfl (v := 5) rfl ?_
      refine g_ic_ge X dX3_overlap_4 43 7 rfl rfl (fun c1 => ?_) (fun c1 => absurd (by decide) c1)
      refine g_iconst X dX3_overlap_43 44 rfl (v := 0) rfl ?_
      exact g_zret X hr dX3_overlap_44 false rfl () (by rw [← hv]; rfl) rfl
    | succ r ih =>
      intro i hi hv
      refine g_iload_n X dX3_overlap_2 3 rfl rfl ?_
      refine g_iconst X dX3_overlap_3 4 rfl (v := 5) rfl ?_
      refine g_ic_ge X dX3_overlap_4 43 7 rfl rfl (fun c2 => absurd c2 (nI_ge (b := 5) (by omega) (by decide))) (fun c2 => ?_)
      refine g_iload_n X dX3_overlap_7 8 rfl rfl ?_
      refine g_aload_n X dX3_overlap_8 9 rfl rfl ?_
      refine g_get X FL_X3_24 dX3_overlap_9 12 rfl 8 rfl (v := .int (σ 0 0)) rfl ?_
      refine g_ic_ge X dX3_overlap_12 43 15 rfl rfl (fun c3 => ?_) (fun c3 => ?_)
      · skip
        refine g_iconst X dX3_overlap_43 44 rfl (v := 0) rfl ?_
        exact g_zret X hr dX3_overlap_44 false rfl () (by rw [← hv]; simp [ovL, bi, c2, c3]) rfl
      · skip
        refine g_aload_n X dX3_overlap_15 16 rfl rfl ?_
        refine g_get X FL_X3_15 dX3_overlap_16 19 rfl 8 rfl (v := .ref (a 6)) rfl ?_
        refine g_iload_n X dX3_overlap_19 20 rfl rfl ?_
        refine g_ialdN X dX3_overlap_20 21 rfl 10 rfl (by omega) (by decide) ?_
        refine g_iload_n X dX3_overlap_21 22 rfl rfl ?_
        refine g_ic_gt X dX3_overlap_22 37 25 rfl rfl (fun c4 => ?_) (fun c4 => ?_)
        · skip
          refine g_iinc X dX3_overlap_37 40 rfl (by decide) 0 rfl (nI_1 _) [(3, .int (nI (i + 1))), (0, .ref (a 4)), (1, .int x), (2, .int y)] rfl ?_
          refine g_goto X dX3_overlap_40 2 rfl ?_
          exact ih (i + 1) (by omega) (by rw [← hv]; simp [ovL, c2, c3, c4])
        · skip
          refine g_iload_n X dX3_overlap_25 26 rfl rfl ?_
          refine g_aload_n X dX3_overlap_26 27 rfl rfl ?_
          refine g_get X FL_X3_18 dX3_overlap_27 30 rfl 8 rfl (v := .ref (a 7)) rfl ?_
          refine g_iload_n X dX3_overlap_30 31 rfl rfl ?_
          refine g_ialdN X dX3_overlap_31 32 rfl 11 rfl (by omega) (by decide) ?_
          refine g_ic_gt X dX3_overlap_32 37 35 rfl rfl (fun c5 => ?_) (fun c5 => ?_)
          · skip
            refine g_iinc X dX3_overlap_37 40 rfl (by decide) 0 rfl (nI_1 _) [(3, .int (nI (i + 1))), (0, .ref (a 4)), (1, .int x), (2, .int y)] rfl ?_
            refine g_goto X dX3_overlap_40 2 rfl ?_
            exact ih (i + 1) (by omega) (by rw [← hv]; simp [ovL, c2, c3, c4, c5])
          · skip
            refine g_iconst X dX3_overlap_35 36 rfl (v := 1) rfl ?_
            exact g_zret X hr dX3_overlap_36 true rfl () (by rw [← hv]; simp [ovL, bi, c2, c3, c4, c5]) rfl
  exact Lp 5 0 rfl rfl

set_option maxHeartbeats 4000000 in
set_option maxRecDepth 100000 in
theorem k_X0_becomeFree (E : kE) (l : Launch) (wr : va_W) (b : Nat → Nat) (μ : Sto) (a : Nat → Nat) (σ : Sto) (x : Int32) (t : Int32) : KM E l yX0_becomeFree cX0_becomeFree 3 none 1 20 0 0 [.ref (a 9), .int x, .int t] (WW E b μ a σ wr) none (WW E b μ a (frees σ x t) wr) := by
  refine K_start (own := RX0) (by decide +kernel) rfl [(0, .ref (a 9)), (1, .int x), (2, .int t)] rfl (Nat.le_of_ble_eq_true rfl) (fun p e s m below meth c X hr hin => ?_)
  refine g_iload_n X dX0_becomeFree_0 1 rfl rfl ?_
  refine c_N X Lk_X0_47 (k_X6_isAddress E l wr b μ a σ x) dX0_becomeFree_1 rfl rfl (Nat.le_of_ble_eq_true rfl) ⟨(Nat.le_of_ble_eq_true rfl), (Nat.le_of_ble_eq_true rfl)⟩ ⟨(Nat.le_of_ble_eq_true rfl), (Nat.le_of_ble_eq_true rfl)⟩ 4 rfl [.int (bi (inA x))] rfl ?_
  refine g_ifb_eq X dX0_becomeFree_4 28 7 rfl rfl (fun c1 => ?_) (fun c1 => ?_)
  · skip
    exact g_vret X hr dX0_becomeFree_28 () rfl (by simp [frees, c1])
  · skip
    refine g_aload_n X dX0_becomeFree_7 8 rfl rfl ?_
    refine g_get X FL_X0_18 dX0_becomeFree_8 11 rfl 13 rfl (v := .ref (a 12)) rfl ?_
    refine g_iload_n X dX0_becomeFree_11 12 rfl rfl ?_
    refine g_iconst X dX0_becomeFree_12 13 rfl (v := 0) rfl ?_
    refine g_iast X dX0_becomeFree_13 14 rfl 16 rfl (by first | exact vA ‹_› | exact vC ‹_› | exact vG ‹_› | assumption | exact vp_in_nI (by omega) (by omega)) (WW E b μ a (put σ 7 (upd (σ 7) (ix x) 0)) wr) rfl ?_
    refine g_aload_n X dX0_becomeFree_14 15 rfl rfl ?_
    refine g_get X FL_X0_22 dX0_becomeFree_15 18 rfl 13 rfl (v := .ref (a 13)) rfl ?_
    refine g_iload_n X dX0_becomeFree_18 19 rfl rfl ?_
    refine g_iconst X dX0_becomeFree_19 20 rfl (v := -1) rfl ?_
    refine g_iast X dX0_becomeFree_20 21 rfl 17 rfl (by first | exact vA ‹_› | exact vC ‹_› | exact vG ‹_› | assumption | exact vp_in_nI (by omega) (by omega)) (WW E b μ a (put (put σ 7 (upd (σ 7) (ix x) 0)) 8 (upd (σ 8) (ix x) (-1))) wr) rfl ?_
    refine g_aload_n X dX0_becomeFree_21 22 rfl rfl ?_
    refine g_get X FL_X0_28 dX0_becomeFree_22 25 rfl 13 rfl (v := .ref (a 15)) rfl ?_
    refine g_iload_n X dX0_becomeFree_25 26 rfl rfl ?_
    refine g_iload_n X dX0_becomeFree_26 27 rfl rfl ?_
    refine g_iast X dX0_becomeFree_27 28 rfl 19 rfl (by first | exact vA ‹_› | exact vC ‹_› | exact vG ‹_› | assumption | exact vp_in_nI (by omega) (by omega)) (WW E b μ a (put (put (put σ 7 (upd (σ 7) (ix x) 0)) 8 (upd (σ 8) (ix x) (-1))) 10 (upd (σ 10) (ix x) t)) wr) rfl ?_
    exact g_vret X hr dX0_becomeFree_28 () rfl (by simp [frees, c1])

set_option maxHeartbeats 4000000 in
set_option maxRecDepth 100000 in
theorem k_X0_becomeHeld (E : kE) (l : Launch) (wr : va_W) (b : Nat → Nat) (μ : Sto) (a : Nat → Nat) (σ : Sto) (x : Int32) (v : Int32) (q : Int32) (t : Int32) : KM E l yX0_becomeHeld cX0_becomeHeld 5 none 1 20 0 0 [.ref (a 9), .int x, .int v, .int q, .int t] (WW E b μ a σ wr) none (WW E b μ a (helds σ x v q t) wr) := by
  refine K_start (own := RX0) (by decide +kernel) rfl [(0, .ref (a 9)), (1, .int x), (2, .int v), (3, .int q), (4, .int t)] rfl (Nat.le_of_ble_eq_true rfl) (fun p e s m below meth c X hr hin => ?_)
  refine g_iload_n X dX0_becomeHeld_0 1 rfl rfl ?_
  refine c_N X Lk_X0_47 (k_X6_isAddress E l wr b μ a σ x) dX0_becomeHeld_1 rfl rfl (Nat.le_of_ble_eq_true rfl) ⟨(Nat.le_of_ble_eq_true rfl), (Nat.le_of_ble_eq_true rfl)⟩ ⟨(Nat.le_of_ble_eq_true rfl), (Nat.le_of_ble_eq_true rfl)⟩ 4 rfl [.int (bi (inA x))] rfl ?_
  refine g_ifb_eq X dX0_becomeHeld_4 29 7 rfl rfl (fun c1 => ?_) (fun c1 => ?_)
  · skip
    exact g_vret X hr dX0_becomeHeld_29 () rfl (by simp [helds, c1])
  · skip
    refine g_aload_n X dX0_becomeHeld_7 8 rfl rfl ?_
    refine g_get X FL_X0_18 dX0_becomeHeld_8 11 rfl 13 rfl (v := .ref (a 12)) rfl ?_
    refine g_iload_n X dX0_becomeHeld_11 12 rfl rfl ?_
    refine g_iload_n X dX0_becomeHeld_12 13 rfl rfl ?_
    refine g_iast X dX0_becomeHeld_13 14 rfl 16 rfl (by first | exact vA ‹_› | exact vC ‹_› | exact vG ‹_› | assumption | exact vp_in_nI (by omega) (by omega)) (WW E b μ a (put σ 7 (upd (σ 7) (ix x) v)) wr) rfl ?_
    refine g_aload_n X dX0_becomeHeld_14 15 rfl rfl ?_
    refine g_get X FL_X0_22 dX0_becomeHeld_15 18 rfl 13 rfl (v := .ref (a 13)) rfl ?_
    refine g_iload_n X dX0_becomeHeld_18 19 rfl rfl ?_
    refine g_iload_n X dX0_becomeHeld_19 20 rfl rfl ?_
    refine g_iast X dX0_becomeHeld_20 21 rfl 17 rfl (by first | exact vA ‹_› | exact vC ‹_› | exact vG ‹_› | assumption | exact vp_in_nI (by omega) (by omega)) (WW E b μ a (put (put σ 7 (upd (σ 7) (ix x) v)) 8 (upd (σ 8) (ix x) q)) wr) rfl ?_
    refine g_aload_n X dX0_becomeHeld_21 22 rfl rfl ?_
    refine g_get X FL_X0_25 dX0_becomeHeld_22 25 rfl 13 rfl (v := .ref (a 14)) rfl ?_
    refine g_iload_n X dX0_becomeHeld_25 26 rfl rfl ?_
    refine g_iload X dX0_becomeHeld_26 28 rfl rfl ?_
    refine g_iast X dX0_becomeHeld_28 29 rfl 18 rfl (by first | exact vA ‹_› | exact vC ‹_› | exact vG ‹_› | assumption | exact vp_in_nI (by omega) (by omega)) (WW E b μ a (put (put (put σ 7 (upd (σ 7) (ix x) v)) 8 (upd (σ 8) (ix x) q)) 9 (upd (σ 9) (ix x) t)) wr) rfl ?_
    exact g_vret X hr dX0_becomeHeld_29 () rfl (by simp [helds, c1])

set_option maxHeartbeats 4000000 in
set_option maxRecDepth 100000 in
theorem k_X0_becomeDeclined (E : kE) (l : Launch) (wr : va_W) (b : Nat → Nat) (μ : Sto) (a : Nat → Nat) (σ : Sto) (x : Int32) (t : Int32) : KM E l yX0_becomeDeclined cX0_becomeDeclined 3 none 2 44 0 0 [.ref (a 9), .int x, .int t] (WW E b μ a σ wr) none (WW E b μ a (helds σ x 3 (-1) t) wr) := by
  refine K_start (own := RX0) (by decide +kernel) rfl [(0, .ref (a 9)), (1, .int x), (2, .int t)] rfl (Nat.le_of_ble_eq_true rfl) (fun p e s m below meth c X hr hin => ?_)
  refine g_aload_n X dX0_becomeDeclined_0 1 rfl rfl ?_
  refine g_iload_n X dX0_becomeDeclined_1 2 rfl rfl ?_
  refine g_iconst X dX0_becomeDeclined_2 3 rfl (v := 3) rfl ?_
  refine g_iconst X dX0_becomeDeclined_3 4 rfl (v := -1) rfl ?_
  refine g_iload_n X dX0_becomeDeclined_4 5 rfl rfl ?_
  refine c_V X Lk_X0_51 (k_X0_becomeHeld E l wr b μ a σ x 3 (-1) t) dX0_becomeDeclined_5 rfl 13 rfl rfl rfl (Nat.le_of_ble_eq_true rfl) ⟨(Nat.le_of_ble_eq_true rfl), (Nat.le_of_ble_eq_true rfl)⟩ ⟨(Nat.le_of_ble_eq_true rfl), (Nat.le_of_ble_eq_true rfl)⟩ 8 rfl [] rfl ?_
  exact g_vret X hr dX0_becomeDeclined_8 () rfl rfl

set_option maxHeartbeats 4000000 in
set_option maxRecDepth 100000 in
theorem k_X0_isOfferable (E : kE) (l : Launch) (wr : va_W) (b : Nat → Nat) (μ : Sto) (a : Nat → Nat) (σ : Sto) (x : Int32) : KM E l yX0_isOfferable cX0_isOfferable 2 (some .boolean) 1 20 0 0 [.ref (a 9), .int x] (WW E b μ a σ wr) (some (.int (bi (isOff σ x)))) (WW E b μ a σ wr) := by
  refine K_start (own := RX0) (by decide +kernel) rfl [(0, .ref (a 9)), (1, .int x)] rfl (Nat.le_of_ble_eq_true rfl) (fun p e s m below meth c X hr hin => ?_)
  refine g_iload_n X dX0_isOfferable_0 1 rfl rfl ?_
  refine c_N X Lk_X0_47 (k_X6_isAddress E l wr b μ a σ x) dX0_isOfferable_1 rfl rfl (Nat.le_of_ble_eq_true rfl) ⟨(Nat.le_of_ble_eq_true rfl), (Nat.le_of_ble_eq_true rfl)⟩ ⟨(Nat.le_of_ble_eq_true rfl), (Nat.le_of_ble_eq_true rfl)⟩ 4 rfl [.int (bi (inA x))] rfl ?_
  refine g_ifb_eq X dX0_isOfferable_4 29 7 rfl rfl (fun c1 => ?_) (fun c1 => ?_)
  · skip
    refine g_iconst X dX0_isOfferable_29 30 rfl (v := 0) rfl ?_
    exact g_zret X hr dX0_isOfferable_30 false rfl () (by simp [isOff, bi, c1]) rfl
  · skip
    refine g_aload_n X dX0_isOfferable_7 8 rfl rfl ?_
    refine g_get X FL_X0_18 dX0_isOfferable_8 11 rfl 13 rfl (v := .ref (a 12)) rfl ?_
    refine g_iload_n X dX0_isOfferable_11 12 rfl rfl ?_
    refine g_iald X dX0_isOfferable_12 13 rfl 16 rfl (by first | exact vA ‹_› | exact vC ‹_› | exact vG ‹_› | assumption | exact vp_in_nI (by omega) (by omega)) ?_
    refine g_if_ne X dX0_isOfferable_13 29 16 rfl rfl (fun c2 => ?_) (fun c2 => ?_)
    · skip
      refine g_iconst X dX0_isOfferable_29 30 rfl (v := 0) rfl ?_
      exact g_zret X hr dX0_isOfferable_30 false rfl () (by simp [isOff, bi, c1, c2]) rfl
    · skip
      refine g_aload_n X dX0_isOfferable_16 17 rfl rfl ?_
      refine g_get X FL_X0_9 dX0_isOfferable_17 20 rfl 13 rfl (v := .ref (a 10)) rfl ?_
      refine g_iload_n X dX0_isOfferable_20 21 rfl rfl ?_
      refine g_zald X dX0_isOfferable_21 22 rfl 14 rfl (by first | exact vA ‹_› | exact vC ‹_› | exact vG ‹_› | assumption | exact vp_in_nI (by omega) (by omega)) ?_
      refine g_if_ne X dX0_isOfferable_22 29 25 rfl rfl (fun c3 => ?_) (fun c3 => ?_)
      · skip
        refine g_iconst X dX0_isOfferable_29 30 rfl (v := 0) rfl ?_
        exact g_zret X hr dX0_isOfferable_30 false rfl () (by simp [isOff, bi, c1, c2, c3]) rfl
      · skip
        refine g_iconst X dX0_isOfferable_25 26 rfl (v := 1) rfl ?_
        refine g_goto X dX0_isOfferable_26 30 rfl ?_
        exact g_zret X hr dX0_isOfferable_30 true rfl () (by simp [isOff, bi, c1, c2, c3]) rfl

set_option maxHeartbeats 4000000 in
set_option maxRecDepth 100000 in
theorem k_X0_isFreeLonger (E : kE) (l : Launch) (wr : va_W) (b : Nat → Nat) (μ : Sto) (a : Nat → Nat) (σ : Sto) (x : Int32) (y : Int32) : KM E l yX0_isFreeLonger cX0_isFreeLonger 3 (some .boolean) 1 20 0 0 [.ref (a 9), .int x, .int y] (WW E b μ a σ wr) (some (.int (bi (isFL σ x y)))) (WW E b μ a σ wr) := by
  refine K_start (own := RX0) (by decide +kernel) rfl [(0, .ref (a 9)), (1, .int x), (2, .int y)] rfl (Nat.le_of_ble_eq_true rfl) (fun p e s m below meth c X hr hin => ?_)
  refine g_iload_n X dX0_isFreeLonger_0 1 rfl rfl ?_
  refine c_N X Lk_X0_47 (k_X6_isAddress E l wr b μ a σ x) dX0_isFreeLonger_1 rfl rfl (Nat.le_of_ble_eq_true rfl) ⟨(Nat.le_of_ble_eq_true rfl), (Nat.le_of_ble_eq_true rfl)⟩ ⟨(Nat.le_of_ble_eq_true rfl), (Nat.le_of_ble_eq_true rfl)⟩ 4 rfl [.int (bi (inA x))] rfl ?_
  refine g_ifb_eq X dX0_isFreeLonger_4 14 7 rfl rfl (fun c1 => ?_) (fun c1 => ?_)
  · skip
    refine g_iconst X dX0_isFreeLonger_14 15 rfl (v := 0) rfl ?_
    exact g_zret X hr dX0_isFreeLonger_15 false rfl () (by simp [isFL, bi, c1]) rfl
  · skip
    refine g_iload_n X dX0_isFreeLonger_7 8 rfl rfl ?_
    refine c_N X Lk_X0_47 (k_X6_isAddress E l wr b μ a σ y) dX0_isFreeLonger_8 rfl rfl (Nat.le_of_ble_eq_true rfl) ⟨(Nat.le_of_ble_eq_true rfl), (Nat.le_of_ble_eq_true rfl)⟩ ⟨(Nat.le_of_ble_eq_true rfl), (Nat.le_of_ble_eq_true rfl)⟩ 11 rfl [.int (bi (inA y))] rfl ?_
    refine g_ifb_ne X dX0_isFreeLonger_11 16 14 rfl rfl (fun c2 => ?_) (fun c2 => ?_)
    · skip
      refine g_aload_n X dX0_isFreeLonger_16 17 rfl rfl ?_
      refine g_get X FL_X0_28 dX0_isFreeLonger_17 20 rfl 13 rfl (v := .ref (a 15)) rfl ?_
      refine g_iload_n X dX0_isFreeLonger_20 21 rfl rfl ?_
      refine g_iald X dX0_isFreeLonger_21 22 rfl 19 rfl (by first | exact vA ‹_› | exact vC ‹_› | exact vG ‹_› | assumption | exact vp_in_nI (by omega) (by omega)) ?_
      refine g_aload_n X dX0_isFreeLonger_22 23 rfl rfl ?_
      refine g_get X FL_X0_28 dX0_isFreeLonger_23 26 rfl 13 rfl (v := .ref (a 15)) rfl ?_
      refine g_iload_n X dX0_isFreeLonger_26 27 rfl rfl ?_
      refine g_iald X dX0_isFreeLonger_27 28 rfl 19 rfl (by first | exact vA ‹_› | exact vC ‹_› | exact vG ‹_› | assumption | exact vp_in_nI (by omega) (by omega)) ?_
      refine g_ic_lt X dX0_isFreeLonger_28 51 31 rfl rfl (fun c3 => ?_) (fun c3 => ?_)
      · skip
        refine g_iconst X dX0_isFreeLonger_51 52 rfl (v := 1) rfl ?_
        refine g_goto X dX0_isFreeLonger_52 56 rfl ?_
        exact g_zret X hr dX0_isFreeLonger_56 true rfl () (by simp [isFL, bi, c1, c2, c3]) rfl
      · skip
        refine g_aload_n X dX0_isFreeLonger_31 32 rfl rfl ?_
        refine g_get X FL_X0_28 dX0_isFreeLonger_32 35 rfl 13 rfl (v := .ref (a 15)) rfl ?_
        refine g_iload_n X dX0_isFreeLonger_35 36 rfl rfl ?_
        refine g_iald X dX0_isFreeLonger_36 37 rfl 19 rfl (by first | exact vA ‹_› | exact vC ‹_› | exact vG ‹_› | assumption | exact vp_in_nI (by omega) (by omega)) ?_
        refine g_aload_n X dX0_isFreeLonger_37 38 rfl rfl ?_
        refine g_get X FL_X0_28 dX0_isFreeLonger_38 41 rfl 13 rfl (v := .ref (a 15)) rfl ?_
        refine g_iload_n X dX0_isFreeLonger_41 42 rfl rfl ?_
        refine g_iald X dX0_isFreeLonger_42 43 rfl 19 rfl (by first | exact vA ‹_› | exact vC ‹_› | exact vG ‹_› | assumption | exact vp_in_nI (by omega) (by omega)) ?_
        refine g_ic_ne X dX0_isFreeLonger_43 55 46 rfl rfl (fun c4 => ?_) (fun c4 => ?_)
        · skip
          refine g_iconst X dX0_isFreeLonger_55 56 rfl (v := 0) rfl ?_
          exact g_zret X hr dX0_isFreeLonger_56 false rfl () (by simp [isFL, bi, c1, c2, c3, c4]) rfl
        · skip
          refine g_iload_n X dX0_isFreeLonger_46 47 rfl rfl ?_
          refine g_iload_n X dX0_isFreeLonger_47 48 rfl rfl ?_
          refine g_ic_ge X dX0_isFreeLonger_48 55 51 rfl rfl (fun c5 => ?_) (fun c5 => ?_)
          · skip
            refine g_iconst X dX0_isFreeLonger_55 56 rfl (v := 0) rfl ?_
            exact g_zret X hr dX0_isFreeLonger_56 false rfl () (by simp [isFL, bi, c1, c2, c3, c4, c5]) rfl
          · skip
            refine g_iconst X dX0_isFreeLonger_51 52 rfl (v := 1) rfl ?_
            refine g_goto X dX0_isFreeLonger_52 56 rfl ?_
            exact g_zret X hr dX0_isFreeLonger_56 true rfl () (by simp [isFL, bi, c1, c2, c3, c4, c5]) rfl
    · skip
      refine g_iconst X dX0_isFreeLonger_14 15 rfl (v := 0) rfl ?_
      exact g_zret X hr dX0_isFreeLonger_15 false rfl () (by simp [isFL, bi, c1, c2]) rfl

set_option maxHeartbeats 4000000 in
set_option maxRecDepth 100000 in
theorem k_X1_isBound (E : kE) (l : Launch) (wr : va_W) (b : Nat → Nat) (μ : Sto) (a : Nat → Nat) (σ : Sto) (x : Int32) : KM E l yX1_isBound cX1_isBound 2 (some .boolean) 1 20 0 0 [.ref (a 16), .int x] (WW E b μ a σ wr) (some (.int (bi (isBd σ x)))) (WW E b μ a σ wr) := by
  refine K_start (own := RX1) (by decide +kernel) rfl [(0, .ref (a 16)), (1, .int x)] rfl (Nat.le_of_ble_eq_true rfl) (fun p e s m below meth c X hr hin => ?_)
  refine g_iload_n X dX1_isBound_0 1 rfl rfl ?_
  refine c_N X Lk_X1_33 (k_X6_isClient E l wr b μ a σ x) dX1_isBound_1 rfl rfl (Nat.le_of_ble_eq_true rfl) ⟨(Nat.le_of_ble_eq_true rfl), (Nat.le_of_ble_eq_true rfl)⟩ ⟨(Nat.le_of_ble_eq_true rfl), (Nat.le_of_ble_eq_true rfl)⟩ 4 rfl [.int (bi (inC x))] rfl ?_
  refine g_ifb_eq X dX1_isBound_4 21 7 rfl rfl (fun c1 => ?_) (fun c1 => ?_)
  · skip
    refine g_iconst X dX1_isBound_21 22 rfl (v := 0) rfl ?_
    exact g_zret X hr dX1_isBound_22 false rfl () (by simp [isBd, bi, c1]) rfl
  · skip
    refine g_aload_n X dX1_isBound_7 8 rfl rfl ?_
    refine g_get X FL_X1_9 dX1_isBound_8 11 rfl 20 rfl (v := .ref (a 17)) rfl ?_
    refine g_iload_n X dX1_isBound_11 12 rfl rfl ?_
    refine g_iald X dX1_isBound_12 13 rfl 21 rfl (by first | exact vA ‹_› | exact vC ‹_› | exact vG ‹_› | assumption | exact vp_in_nI (by omega) (by omega)) ?_
    refine g_iconst X dX1_isBound_13 14 rfl (v := 2) rfl ?_
    refine g_ic_lt X dX1_isBound_14 21 17 rfl rfl (fun c2 => ?_) (fun c2 => ?_)
    · skip
      refine g_iconst X dX1_isBound_21 22 rfl (v := 0) rfl ?_
      exact g_zret X hr dX1_isBound_22 false rfl () (by simp [isBd, bi, c1, c2]) rfl
    · skip
      refine g_iconst X dX1_isBound_17 18 rfl (v := 1) rfl ?_
      refine g_goto X dX1_isBound_18 22 rfl ?_
      exact g_zret X hr dX1_isBound_22 true rfl () (by simp [isBd, bi, c1, c2]) rfl

set_option maxHeartbeats 4000000 in
set_option maxRecDepth 100000 in
theorem k_X1_becomeIdle (E : kE) (l : Launch) (wr : va_W) (b : Nat → Nat) (μ : Sto) (a : Nat → Nat) (σ : Sto) (x : Int32) : KM E l yX1_becomeIdle cX1_becomeIdle 2 none 1 20 0 0 [.ref (a 16), .int x] (WW E b μ a σ wr) none (WW E b μ a (idles σ x) wr) := by
  refine K_start (own := RX1) (by decide +kernel) rfl [(0, .ref (a 16)), (1, .int x)] rfl (Nat.le_of_ble_eq_true rfl) (fun p e s m below meth c X hr hin => ?_)
  refine g_iload_n X dX1_becomeIdle_0 1 rfl rfl ?_
  refine c_N X Lk_X1_33 (k_X6_isClient E l wr b μ a σ x) dX1_becomeIdle_1 rfl rfl (Nat.le_of_ble_eq_true rfl) ⟨(Nat.le_of_ble_eq_true rfl), (Nat.le_of_ble_eq_true rfl)⟩ ⟨(Nat.le_of_ble_eq_true rfl), (Nat.le_of_ble_eq_true rfl)⟩ 4 rfl [.int (bi (inC x))] rfl ?_
  refine g_ifb_eq X dX1_becomeIdle_4 21 7 rfl rfl (fun c1 => ?_) (fun c1 => ?_)
  · skip
    exact g_vret X hr dX1_becomeIdle_21 () rfl (by simp [idles, c1])
  · skip
    refine g_aload_n X dX1_becomeIdle_7 8 rfl rfl ?_
    refine g_get X FL_X1_9 dX1_becomeIdle_8 11 rfl 20 rfl (v := .ref (a 17)) rfl ?_
    refine g_iload_n X dX1_becomeIdle_11 12 rfl rfl ?_
    refine g_iconst X dX1_becomeIdle_12 13 rfl (v := 0) rfl ?_
    refine g_iast X dX1_becomeIdle_13 14 rfl 21 rfl (by first | exact vA ‹_› | exact vC ‹_› | exact vG ‹_› | assumption | exact vp_in_nI (by omega) (by omega)) (WW E b μ a (put σ 11 (upd (σ 11) (ix x) 0)) wr) rfl ?_
    refine g_aload_n X dX1_becomeIdle_14 15 rfl rfl ?_
    refine g_get X FL_X1_15 dX1_becomeIdle_15 18 rfl 20 rfl (v := .ref (a 18)) rfl ?_
    refine g_iload_n X dX1_becomeIdle_18 19 rfl rfl ?_
    refine g_iconst X dX1_becomeIdle_19 20 rfl (v := -1) rfl ?_
    refine g_iast X dX1_becomeIdle_20 21 rfl 22 rfl (by first | exact vA ‹_› | exact vC ‹_› | exact vG ‹_› | assumption | exact vp_in_nI (by omega) (by omega)) (WW E b μ a (put (put σ 11 (upd (σ 11) (ix x) 0)) 12 (upd (σ 12) (ix x) (-1))) wr) rfl ?_
    exact g_vret X hr dX1_becomeIdle_21 () rfl (by simp [idles, c1])

set_option maxHeartbeats 4000000 in
set_option maxRecDepth 100000 in
theorem k_X1_takeOffer (E : kE) (l : Launch) (wr : va_W) (b : Nat → Nat) (μ : Sto) (a : Nat → Nat) (σ : Sto) (x : Int32) (y : Int32) : KM E l yX1_takeOffer cX1_takeOffer 3 none 1 20 0 0 [.ref (a 16), .int x, .int y] (WW E b μ a σ wr) none (WW E b μ a (offs σ x y) wr) := by
  refine K_start (own := RX1) (by decide +kernel) rfl [(0, .ref (a 16)), (1, .int x), (2, .int y)] rfl (Nat.le_of_ble_eq_true rfl) (fun p e s m below meth c X hr hin => ?_)
  refine g_iload_n X dX1_takeOffer_0 1 rfl rfl ?_
  refine c_N X Lk_X1_33 (k_X6_isClient E l wr b μ a σ x) dX1_takeOffer_1 rfl rfl (Nat.le_of_ble_eq_true rfl) ⟨(Nat.le_of_ble_eq_true rfl), (Nat.le_of_ble_eq_true rfl)⟩ ⟨(Nat.le_of_ble_eq_true rfl), (Nat.le_of_ble_eq_true rfl)⟩ 4 rfl [.int (bi (inC x))] rfl ?_
  refine g_ifb_eq X dX1_takeOffer_4 21 7 rfl rfl (fun c1 => ?_) (fun c1 => ?_)
  · skip
    exact g_vret X hr dX1_takeOffer_21 () rfl (by simp [offs, c1])
  · skip
    refine g_aload_n X dX1_takeOffer_7 8 rfl rfl ?_
    refine g_get X FL_X1_9 dX1_takeOffer_8 11 rfl 20 rfl (v := .ref (a 17)) rfl ?_
    refine g_iload_n X dX1_takeOffer_11 12 rfl rfl ?_
    refine g_iconst X dX1_takeOffer_12 13 rfl (v := 1) rfl ?_
    refine g_iast X dX1_takeOffer_13 14 rfl 21 rfl (by first | exact vA ‹_› | exact vC ‹_› | exact vG ‹_› | assumption | exact vp_in_nI (by omega) (by omega)) (WW E b μ a (put σ 11 (upd (σ 11) (ix x) 1)) wr) rfl ?_
    refine g_aload_n X dX1_takeOffer_14 15 rfl rfl ?_
    refine g_get X FL_X1_15 dX1_takeOffer_15 18 rfl 20 rfl (v := .ref (a 18)) rfl ?_
    refine g_iload_n X dX1_takeOffer_18 19 rfl rfl ?_
    refine g_iload_n X dX1_takeOffer_19 20 rfl rfl ?_
    refine g_iast X dX1_takeOffer_20 21 rfl 22 rfl (by first | exact vA ‹_› | exact vC ‹_› | exact vG ‹_› | assumption | exact vp_in_nI (by omega) (by omega)) (WW E b μ a (put (put σ 11 (upd (σ 11) (ix x) 1)) 12 (upd (σ 12) (ix x) y)) wr) rfl ?_
    exact g_vret X hr dX1_takeOffer_21 () rfl (by simp [offs, c1])

set_option maxHeartbeats 4000000 in
set_option maxRecDepth 100000 in
theorem k_X1_takeLease (E : kE) (l : Launch) (wr : va_W) (b : Nat → Nat) (μ : Sto) (a : Nat → Nat) (σ : Sto) (x : Int32) (t : Int32) (q : Int32) : KM E l yX1_takeLease cX1_takeLease 4 none 1 20 0 0 [.ref (a 16), .int x, .int t, .int q] (WW E b μ a σ wr) none (WW E b μ a (leases σ x t q) wr) := by
  refine K_start (own := RX1) (by decide +kernel) rfl [(0, .ref (a 16)), (1, .int x), (2, .int t), (3, .int q)] rfl (Nat.le_of_ble_eq_true rfl) (fun p e s m below meth c X hr hin => ?_)
  refine g_iload_n X dX1_takeLease_0 1 rfl rfl ?_
  refine c_N X Lk_X1_33 (k_X6_isClient E l wr b μ a σ x) dX1_takeLease_1 rfl rfl (Nat.le_of_ble_eq_true rfl) ⟨(Nat.le_of_ble_eq_true rfl), (Nat.le_of_ble_eq_true rfl)⟩ ⟨(Nat.le_of_ble_eq_true rfl), (Nat.le_of_ble_eq_true rfl)⟩ 4 rfl [.int (bi (inC x))] rfl ?_
  refine g_ifb_eq X dX1_takeLease_4 52 7 rfl rfl (fun c1 => ?_) (fun c1 => ?_)
  · skip
    exact g_vret X hr dX1_takeLease_52 () rfl (by simp [leases, c1])
  · skip
    refine g_aload_n X dX1_takeLease_7 8 rfl rfl ?_
    refine g_get X FL_X1_9 dX1_takeLease_8 11 rfl 20 rfl (v := .ref (a 17)) rfl ?_
    refine g_iload_n X dX1_takeLease_11 12 rfl rfl ?_
    refine g_iconst X dX1_takeLease_12 13 rfl (v := 2) rfl ?_
    refine g_iast X dX1_takeLease_13 14 rfl 21 rfl (by first | exact vA ‹_› | exact vC ‹_› | exact vG ‹_› | assumption | exact vp_in_nI (by omega) (by omega)) (WW E b μ a (put σ 11 (upd (σ 11) (ix x) 2)) wr) rfl ?_
    refine g_aload_n X dX1_takeLease_14 15 rfl rfl ?_
    refine g_get X FL_X1_18 dX1_takeLease_15 18 rfl 20 rfl (v := .ref (a 19)) rfl ?_
    refine g_iload_n X dX1_takeLease_18 19 rfl rfl ?_
    refine g_aload_n X dX1_takeLease_19 20 rfl rfl ?_
    refine g_get X FL_X1_15 dX1_takeLease_20 23 rfl 20 rfl (v := .ref (a 18)) rfl ?_
    refine g_iload_n X dX1_takeLease_23 24 rfl rfl ?_
    refine g_iald X dX1_takeLease_24 25 rfl 22 rfl (by first | exact vA ‹_› | exact vC ‹_› | exact vG ‹_› | assumption | exact vp_in_nI (by omega) (by omega)) ?_
    refine g_iast X dX1_takeLease_25 26 rfl 23 rfl (by first | exact vA ‹_› | exact vC ‹_› | exact vG ‹_› | assumption | exact vp_in_nI (by omega) (by omega)) (WW E b μ a (put (put σ 11 (upd (σ 11) (ix x) 2)) 13 (upd (σ 13) (ix x) (σ 12 (ix x)))) wr) rfl ?_
    refine g_aload_n X dX1_takeLease_26 27 rfl rfl ?_
    refine g_get X FL_X1_21 dX1_takeLease_27 30 rfl 20 rfl (v := .ref (a 20)) rfl ?_
    refine g_iload_n X dX1_takeLease_30 31 rfl rfl ?_
    refine g_iload_n X dX1_takeLease_31 32 rfl rfl ?_
    refine g_iload_n X dX1_takeLease_32 33 rfl rfl ?_
    refine g_iconst X dX1_takeLease_33 34 rfl (v := 2) rfl ?_
    refine g_idiv X dX1_takeLease_34 35 rfl (by decide) ?_
    refine g_iadd X dX1_takeLease_35 36 rfl ?_
    refine g_iast X dX1_takeLease_36 37 rfl 24 rfl (by first | exact vA ‹_› | exact vC ‹_› | exact vG ‹_› | assumption | exact vp_in_nI (by omega) (by omega)) (WW E b μ a (put (put (put σ 11 (upd (σ 11) (ix x) 2)) 13 (upd (σ 13) (ix x) (σ 12 (ix x)))) 14 (upd (σ 14) (ix x) (t + (q / 2)))) wr) rfl ?_
    refine g_aload_n X dX1_takeLease_37 38 rfl rfl ?_
    refine g_get X FL_X1_24 dX1_takeLease_38 41 rfl 20 rfl (v := .ref (a 21)) rfl ?_
    refine g_iload_n X dX1_takeLease_41 42 rfl rfl ?_
    refine g_iload_n X dX1_takeLease_42 43 rfl rfl ?_
    refine g_iload_n X dX1_takeLease_43 44 rfl rfl ?_
    refine g_bipush X dX1_takeLease_44 46 rfl (v := 7) rfl ?_
    refine g_imul X dX1_takeLease_46 47 rfl ?_
    refine g_bipush X dX1_takeLease_47 49 rfl (v := 8) rfl ?_
    refine g_idiv X dX1_takeLease_49 50 rfl (by decide) ?_
    refine g_iadd X dX1_takeLease_50 51 rfl ?_
    refine g_iast X dX1_takeLease_51 52 rfl 25 rfl (by first | exact vA ‹_› | exact vC ‹_› | exact vG ‹_› | assumption | exact vp_in_nI (by omega) (by omega)) (WW E b μ a (put (put (put (put σ 11 (upd (σ 11) (ix x) 2)) 13 (upd (σ 13) (ix x) (σ 12 (ix x)))) 14 (upd (σ 14) (ix x) (t + (q / 2)))) 15 (upd (σ 15) (ix x) (t + ((q * 7) / 8)))) wr) rfl ?_
    exact g_vret X hr dX1_takeLease_52 () rfl (by simp [leases, c1])
