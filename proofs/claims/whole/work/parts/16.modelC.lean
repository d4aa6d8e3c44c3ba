theorem lkA_0 {N : Nat → Int32} {x : Int32} (h : lkA N x ≤ 0) : lkA N x = 0 := by
  unfold lkA at h ⊢
  cases h1 : inR x 0 99
  · rw [h1] at h; exact absurd (show (1 : Int32) ≤ 0 from h) (by decide)
  · rw [h1] at h
    show (if 0 ≤ ow N x then (0 : Int32) else 2) = 0
    by_cases h2 : 0 ≤ ow N x
    · rw [if_pos h2]
    · exact absurd (show (2 : Int32) ≤ 0 from by have h3 : (if 0 ≤ ow N x then (0 : Int32) else 2) ≤ 0 := h; rwa [if_neg h2] at h3) (by decide)
def ncB (x g : Int32) : Bool := inR x 0 19 && inR g 0 2
def plL (N : Nat → Int32) (y g : Int32) : Nat → Nat → Int32 → Int32
  | _, 0, z => z
  | i, r + 1, z => if y < nI i then z else bif cdt N i g then plL N y g (i + 1) r (z + 1) else plL N y g (i + 1) r z
theorem isP_ok {N : Nat → Int32} {v : Nat} {x : Int32} (hX : MX N v) (h : inR x 0 (N 4 - 1) = true) : ∃ j, j < v ∧ x = nI j := by
  have := hX.hv
  rcases v with _ | v
  · rw [hX.hc] at h
    simp only [inR, Bool.and_eq_true, Bool.not_eq_true', decide_eq_false_iff_not] at h
    refine absurd ?_ h.2
    have h1 := h.1
    rw [Int32.lt_iff_toInt_lt] at h1 ⊢
    rw [show (nI 0 - 1).toInt = -1 from rfl]
    rw [show (0 : Int32).toInt = 0 from rfl] at h1
    omega
  · rw [hX.hc, nI_pr] at h
    obtain ⟨j, hj, rfl⟩ := inR_ex (by omega) h
    exact ⟨j, hj, rfl⟩
theorem lg_ok {x y : Int32} {n : Nat} (hn : n ≤ 30) (hl : y = nI n) (h : inR x 0 (y - 1) = true) : ∃ t, t < 30 ∧ x = nI t := by
  subst hl
  rcases n with _ | n
  · simp only [inR, Bool.and_eq_true, Bool.not_eq_true', decide_eq_false_iff_not] at h
    refine absurd ?_ h.2
    have h1 := h.1
    rw [Int32.lt_iff_toInt_lt] at h1 ⊢
    rw [show (nI 0 - 1).toInt = -1 from rfl]
    rw [show (0 : Int32).toInt = 0 from rfl] at h1
    omega
  · rw [nI_pr] at h
    obtain ⟨j, hj, rfl⟩ := inR_ex (by omega) h
    exact ⟨j, by omega, rfl⟩
theorem pt_ok {x : Int32} (h : inR x 0 4 = true) (h4 : ¬ 4 ≤ x) : ∃ t, t < 4 ∧ x = nI t := by
  obtain ⟨j, hj, rfl⟩ := inR_ex (n := 4) (by decide) h
  rcases Nat.lt_or_ge j 4 with q | q
  · exact ⟨j, q, rfl⟩
  · exact absurd (nI_le (a := 4) q (by omega)) h4
set_option maxHeartbeats 4000000 in
set_option maxRecDepth 100000 in
theorem k_X7_thrown (E : kE) (l : Launch) (wr : va_W) (b : Nat → Nat) (μ : Sto) (a : Nat → Nat) (σ : Sto) : KM E l yX7_thrown cX7_thrown 1 (some .int) 0 0 0 0 [.ref (b 0)] (WW E b μ a σ wr) (some (.int (μ 0 0))) (WW E b μ a σ wr) := by
  refine K_start (own := RX7) (by decide +kernel) rfl [(0, .ref (b 0))] rfl (Nat.le_of_ble_eq_true rfl) (fun p e s m below meth c X hr hin => ?_)
  refine g_aload_n X dX7_thrown_0 1 rfl rfl ?_
  refine g_get X FL_X7_19 dX7_thrown_1 4 rfl 0 rfl (v := .int (μ 0 0)) rfl ?_
  exact g_iret X hr dX7_thrown_4 () rfl rfl

set_option maxHeartbeats 4000000 in
set_option maxRecDepth 100000 in
theorem k_X7_poolCount (E : kE) (l : Launch) (wr : va_W) (b : Nat → Nat) (μ : Sto) (a : Nat → Nat) (σ : Sto) : KM E l yX7_poolCount cX7_poolCount 1 (some .int) 0 0 0 0 [.ref (b 0)] (WW E b μ a σ wr) (some (.int ((μ 1) 4))) (WW E b (put μ 0 (sc 0)) a σ wr) := by
  refine K_start (own := RX7) (by decide +kernel) rfl [(0, .ref (b 0))] rfl (Nat.le_of_ble_eq_true rfl) (fun p e s m below meth c X hr hin => ?_)
  refine g_aload_n X dX7_poolCount_0 1 rfl rfl ?_
  refine g_iconst X dX7_poolCount_1 2 rfl (v := 0) rfl ?_
  refine g_put X FL_X7_19 fk_X7 dX7_poolCount_2 5 rfl rfl 0 rfl rfl rfl (Nat.le_of_ble_eq_true rfl) (WW E b (put μ 0 (sc 0)) a σ wr) rfl ?_
  refine g_aload_n X dX7_poolCount_5 6 rfl rfl ?_
  refine g_get X FL_X7_9 dX7_poolCount_6 9 rfl 0 rfl (v := .ref (b 1)) rfl ?_
  refine g_iconst X dX7_poolCount_9 10 rfl (v := 4) rfl ?_
  refine g_ialdN (j := 4) (f := (μ 1)) X dX7_poolCount_10 11 rfl 1 rfl (by omega) (by decide) ?_
  exact g_iret X hr dX7_poolCount_11 () rfl rfl

set_option maxHeartbeats 4000000 in
set_option maxRecDepth 100000 in
theorem k_X7_time (E : kE) (l : Launch) (wr : va_W) (b : Nat → Nat) (μ : Sto) (a : Nat → Nat) (σ : Sto) : KM E l yX7_time cX7_time 1 (some .int) 0 0 0 0 [.ref (b 0)] (WW E b μ a σ wr) (some (.int ((μ 1) 0))) (WW E b (put μ 0 (sc 0)) a σ wr) := by
  refine K_start (own := RX7) (by decide +kernel) rfl [(0, .ref (b 0))] rfl (Nat.le_of_ble_eq_true rfl) (fun p e s m below meth c X hr hin => ?_)
  refine g_aload_n X dX7_time_0 1 rfl rfl ?_
  refine g_iconst X dX7_time_1 2 rfl (v := 0) rfl ?_
  refine g_put X FL_X7_19 fk_X7 dX7_time_2 5 rfl rfl 0 rfl rfl rfl (Nat.le_of_ble_eq_true rfl) (WW E b (put μ 0 (sc 0)) a σ wr) rfl ?_
  refine g_aload_n X dX7_time_5 6 rfl rfl ?_
  refine g_get X FL_X7_9 dX7_time_6 9 rfl 0 rfl (v := .ref (b 1)) rfl ?_
  refine g_iconst X dX7_time_9 10 rfl (v := 0) rfl ?_
  refine g_ialdN (j := 0) (f := (μ 1)) X dX7_time_10 11 rfl 1 rfl (by omega) (by decide) ?_
  exact g_iret X hr dX7_time_11 () rfl rfl

set_option maxHeartbeats 4000000 in
set_option maxRecDepth 100000 in
theorem k_X7_conflicts (E : kE) (l : Launch) (wr : va_W) (b : Nat → Nat) (μ : Sto) (a : Nat → Nat) (σ : Sto) : KM E l yX7_conflicts cX7_conflicts 1 (some .int) 0 0 0 0 [.ref (b 0)] (WW E b μ a σ wr) (some (.int ((μ 1) 3))) (WW E b (put μ 0 (sc 0)) a σ wr) := by
  refine K_start (own := RX7) (by decide +kernel) rfl [(0, .ref (b 0))] rfl (Nat.le_of_ble_eq_true rfl) (fun p e s m below meth c X hr hin => ?_)
  refine g_aload_n X dX7_conflicts_0 1 rfl rfl ?_
  refine g_iconst X dX7_conflicts_1 2 rfl (v := 0) rfl ?_
  refine g_put X FL_X7_19 fk_X7 dX7_conflicts_2 5 rfl rfl 0 rfl rfl rfl (Nat.le_of_ble_eq_true rfl) (WW E b (put μ 0 (sc 0)) a σ wr) rfl ?_
  refine g_aload_n X dX7_conflicts_5 6 rfl rfl ?_
  refine g_get X FL_X7_9 dX7_conflicts_6 9 rfl 0 rfl (v := .ref (b 1)) rfl ?_
  refine g_iconst X dX7_conflicts_9 10 rfl (v := 3) rfl ?_
  refine g_ialdN (j := 3) (f := (μ 1)) X dX7_conflicts_10 11 rfl 1 rfl (by omega) (by decide) ?_
  exact g_iret X hr dX7_conflicts_11 () rfl rfl

set_option maxHeartbeats 4000000 in
set_option maxRecDepth 100000 in
theorem k_X7_logSize (E : kE) (l : Launch) (wr : va_W) (b : Nat → Nat) (μ : Sto) (a : Nat → Nat) (σ : Sto) : KM E l yX7_logSize cX7_logSize 1 (some .int) 0 0 0 0 [.ref (b 0)] (WW E b μ a σ wr) (some (.int (μ 5 0))) (WW E b (put μ 0 (sc 0)) a σ wr) := by
  refine K_start (own := RX7) (by decide +kernel) rfl [(0, .ref (b 0))] rfl (Nat.le_of_ble_eq_true rfl) (fun p e s m below meth c X hr hin => ?_)
  refine g_aload_n X dX7_logSize_0 1 rfl rfl ?_
  refine g_iconst X dX7_logSize_1 2 rfl (v := 0) rfl ?_
  refine g_put X FL_X7_19 fk_X7 dX7_logSize_2 5 rfl rfl 0 rfl rfl rfl (Nat.le_of_ble_eq_true rfl) (WW E b (put μ 0 (sc 0)) a σ wr) rfl ?_
  refine g_aload_n X dX7_logSize_5 6 rfl rfl ?_
  refine g_get X FL_X7_27 dX7_logSize_6 9 rfl 0 rfl (v := .int (μ 5 0)) rfl ?_
  exact g_iret X hr dX7_logSize_9 () rfl rfl

set_option maxHeartbeats 4000000 in
set_option maxRecDepth 100000 in
theorem k_X7_bound (E : kE) (l : Launch) (wr : va_W) (b : Nat → Nat) (μ : Sto) (a : Nat → Nat) (σ : Sto) : KM E l yX7_bound cX7_bound 1 (some .int) 2 43 0 0 [.ref (b 0)] (WW E b μ a σ wr) (some (.int (boM (μ 1)))) (WW E b (put μ 0 (sc 0)) a σ wr) := by
  refine K_start (own := RX7) (by decide +kernel) rfl [(0, .ref (b 0))] rfl (Nat.le_of_ble_eq_true rfl) (fun p e s m below meth c X hr hin => ?_)
  refine g_aload_n X dX7_bound_0 1 rfl rfl ?_
  refine g_iconst X dX7_bound_1 2 rfl (v := 0) rfl ?_
  refine g_put X FL_X7_19 fk_X7 dX7_bound_2 5 rfl rfl 0 rfl rfl rfl (Nat.le_of_ble_eq_true rfl) (WW E b (put μ 0 (sc 0)) a σ wr) rfl ?_
  refine g_aload_n X dX7_bound_5 6 rfl rfl ?_
  refine c_V X Lk_X7_121 (k_X7_boundOnes E l wr b (put μ 0 (sc 0)) a σ) dX7_bound_6 rfl 0 rfl rfl rfl (Nat.le_of_ble_eq_true rfl) ⟨(Nat.le_of_ble_eq_true rfl), (Nat.le_of_ble_eq_true rfl)⟩ ⟨(Nat.le_of_ble_eq_true rfl), (Nat.le_of_ble_eq_true rfl)⟩ 9 rfl [.int (boM (μ 1))] rfl ?_
  exact g_iret X hr dX7_bound_9 () rfl rfl

set_option maxHeartbeats 4000000 in
set_option maxRecDepth 100000 in
theorem k_X7_poolOf (E : kE) (l : Launch) (wr : va_W) (b : Nat → Nat) (μ : Sto) (a : Nat → Nat) (σ : Sto) (x : Int32) (v : Nat) (hX : MX (μ 1) v) : KM E l yX7_poolOf cX7_poolOf 2 (some .int) 2 44 0 0 [.ref (b 0), .int x] (WW E b μ a σ wr) (some (.int (if lkA (μ 1) x ≤ 0 then ow (μ 1) x else 0))) (WW E b (put μ 0 (sc (lkA (μ 1) x))) a σ wr) := by
  refine K_start (own := RX7) (by decide +kernel) rfl [(0, .ref (b 0)), (1, .int x)] rfl (Nat.le_of_ble_eq_true rfl) (fun p e s m below meth c X hr hin => ?_)
  refine g_aload_n X dX7_poolOf_0 1 rfl rfl ?_
  refine g_iconst X dX7_poolOf_1 2 rfl (v := 0) rfl ?_
  refine g_put X FL_X7_19 fk_X7 dX7_poolOf_2 5 rfl rfl 0 rfl rfl rfl (Nat.le_of_ble_eq_true rfl) (WW E b (put μ 0 (sc 0)) a σ wr) rfl ?_
  refine g_iload_n X dX7_poolOf_5 6 rfl rfl ?_
  refine c_S X Lk_X7_44 (k_X7_isAddress E l wr b (put μ 0 (sc 0)) a σ x) dX7_poolOf_6 rfl rfl (Nat.le_of_ble_eq_true rfl) ⟨(Nat.le_of_ble_eq_true rfl), (Nat.le_of_ble_eq_true rfl)⟩ ⟨(Nat.le_of_ble_eq_true rfl), (Nat.le_of_ble_eq_true rfl)⟩ 9 rfl [.int (bi (inR x 0 99))] rfl ?_
  refine g_ifb_ne X dX7_poolOf_9 18 12 rfl rfl (fun c1 => ?_) (fun c1 => ?_)
  · skip
    refine g_aload_n X dX7_poolOf_18 19 rfl rfl ?_
    refine g_iload_n X dX7_poolOf_19 20 rfl rfl ?_
    refine c_V X Lk_X7_34 (k_X7_owner E l wr b (put μ 0 (sc 0)) a σ x v hX) dX7_poolOf_20 rfl 0 rfl rfl rfl (Nat.le_of_ble_eq_true rfl) ⟨(Nat.le_of_ble_eq_true rfl), (Nat.le_of_ble_eq_true rfl)⟩ ⟨(Nat.le_of_ble_eq_true rfl), (Nat.le_of_ble_eq_true rfl)⟩ 23 rfl [.int (ow (μ 1) x)] rfl ?_
    refine g_if_ge X dX7_poolOf_23 34 26 rfl rfl (fun c2 => ?_) (fun c2 => ?_)
    · skip
      refine g_aload_n X dX7_poolOf_34 35 rfl rfl ?_
      refine g_iload_n X dX7_poolOf_35 36 rfl rfl ?_
      refine c_V X Lk_X7_34 (k_X7_owner E l wr b (put μ 0 (sc 0)) a σ x v hX) dX7_poolOf_36 rfl 0 rfl rfl rfl (Nat.le_of_ble_eq_true rfl) ⟨(Nat.le_of_ble_eq_true rfl), (Nat.le_of_ble_eq_true rfl)⟩ ⟨(Nat.le_of_ble_eq_true rfl), (Nat.le_of_ble_eq_true rfl)⟩ 39 rfl [.int (ow (μ 1) x)] rfl ?_
      exact g_iret X hr dX7_poolOf_39 () (show (some (.int (if lkA (μ 1) x ≤ 0 then ow (μ 1) x else 0)) : Option Value) = some (.int (ow (μ 1) x)) from by simp [lkA, c1, c2]) (by refine WW_eq ?_ ?_ ?_ ?_ ?_ ?_; exact (show 0 = (lkA (μ 1) x) from by simp [lkA, c1, c2]); exact (rfl : (μ 1) = (μ 1)); exact (rfl : μ 2 = μ 2); exact (rfl : μ 3 0 = μ 3 0); exact (rfl : (μ 4) = (μ 4)); exact (rfl : (μ 5 0) = (μ 5 0)))
    · skip
      refine g_aload_n X dX7_poolOf_26 27 rfl rfl ?_
      refine g_iconst X dX7_poolOf_27 28 rfl (v := 2) rfl ?_
      refine c_V X Lk_X7_41 (k_X7_raises E l wr b (put μ 0 (sc 0)) a σ 2) dX7_poolOf_28 rfl 0 rfl rfl rfl (Nat.le_of_ble_eq_true rfl) ⟨(Nat.le_of_ble_eq_true rfl), (Nat.le_of_ble_eq_true rfl)⟩ ⟨(Nat.le_of_ble_eq_true rfl), (Nat.le_of_ble_eq_true rfl)⟩ 31 rfl [.int 0] rfl ?_
      refine g_goto X dX7_poolOf_31 39 rfl ?_
      exact g_iret X hr dX7_poolOf_39 () (show (some (.int (if lkA (μ 1) x ≤ 0 then ow (μ 1) x else 0)) : Option Value) = some (.int 0) from by simp [lkA, c1, c2]) (by refine WW_eq ?_ ?_ ?_ ?_ ?_ ?_; exact (show 2 = (lkA (μ 1) x) from by simp [lkA, c1, c2]); exact (rfl : (μ 1) = (μ 1)); exact (rfl : μ 2 = μ 2); exact (rfl : μ 3 0 = μ 3 0); exact (rfl : (μ 4) = (μ 4)); exact (rfl : (μ 5 0) = (μ 5 0)))
  · skip
    refine g_aload_n X dX7_poolOf_12 13 rfl rfl ?_
    refine g_iconst X dX7_poolOf_13 14 rfl (v := 1) rfl ?_
    refine c_V X Lk_X7_41 (k_X7_raises E l wr b (put μ 0 (sc 0)) a σ 1) dX7_poolOf_14 rfl 0 rfl rfl rfl (Nat.le_of_ble_eq_true rfl) ⟨(Nat.le_of_ble_eq_true rfl), (Nat.le_of_ble_eq_true rfl)⟩ ⟨(Nat.le_of_ble_eq_true rfl), (Nat.le_of_ble_eq_true rfl)⟩ 17 rfl [.int 0] rfl ?_
    exact g_iret X hr dX7_poolOf_17 () (show (some (.int (if lkA (μ 1) x ≤ 0 then ow (μ 1) x else 0)) : Option Value) = some (.int 0) from by simp [lkA, c1]) (by refine WW_eq ?_ ?_ ?_ ?_ ?_ ?_; exact (show 1 = (lkA (μ 1) x) from by simp [lkA, c1]); exact (rfl : (μ 1) = (μ 1)); exact (rfl : μ 2 = μ 2); exact (rfl : μ 3 0 = μ 3 0); exact (rfl : (μ 4) = (μ 4)); exact (rfl : (μ 5 0) = (μ 5 0)))

set_option maxHeartbeats 4000000 in
set_option maxRecDepth 100000 in
theorem k_X7_exclude (E : kE) (l : Launch) (wr : va_W) (b : Nat → Nat) (μ : Sto) (a : Nat → Nat) (σ : Sto) (x : Int32) (u : Bool) : KM E l yX7_exclude cX7_exclude 3 (some .boolean) 2 46 0 0 [.ref (b 0), .int x, .int (bi u)] (WW E b μ a σ wr) (some (.int (bi (inR x 0 99 && decide ((μ 1) (ix (31 + x)) = 1))))) (WW E b (put (put μ 0 (sc (bi (!inR x 0 99)))) 1 (bif inR x 0 99 then upd (μ 1) (ix (31 + x)) (bi u) else (μ 1))) a σ wr) := by
  refine K_start (own := RX7) (by decide +kernel) rfl [(0, .ref (b 0)), (1, .int x), (2, .int (bi u))] rfl (Nat.le_of_ble_eq_true rfl) (fun p e s m below meth c X hr hin => ?_)
  refine g_aload_n X dX7_exclude_0 1 rfl rfl ?_
  refine g_iload_n X dX7_exclude_1 2 rfl rfl ?_
  refine c_S X Lk_X7_44 (k_X7_isAddress E l wr b μ a σ x) dX7_exclude_2 rfl rfl (Nat.le_of_ble_eq_true rfl) ⟨(Nat.le_of_ble_eq_true rfl), (Nat.le_of_ble_eq_true rfl)⟩ ⟨(Nat.le_of_ble_eq_true rfl), (Nat.le_of_ble_eq_true rfl)⟩ 5 rfl [.int (bi (inR x 0 99)), .ref (b 0)] rfl ?_
  refine g_bipush X dX7_exclude_5 7 rfl (v := 31) rfl ?_
  refine g_iload_n X dX7_exclude_7 8 rfl rfl ?_
  refine g_iadd X dX7_exclude_8 9 rfl ?_
  refine g_iload_n X dX7_exclude_9 10 rfl rfl ?_
  refine c_V X Lk_X7_61 (k_X7_flips E l wr b μ a σ (inR x 0 99) (31 + x) u (fun h => let ⟨j, h1, h2⟩ := inR_add (u := 31) (n := 99) (by decide) (by decide) h; ⟨j, by omega, h2⟩)) dX7_exclude_10 rfl 0 rfl rfl rfl (Nat.le_of_ble_eq_true rfl) ⟨(Nat.le_of_ble_eq_true rfl), (Nat.le_of_ble_eq_true rfl)⟩ ⟨(Nat.le_of_ble_eq_true rfl), (Nat.le_of_ble_eq_true rfl)⟩ 13 rfl [.int (bi ((inR x 0 99) && decide ((μ 1) (ix (31 + x)) = 1)))] rfl ?_
  exact g_zret X hr dX7_exclude_13 ((inR x 0 99) && decide ((μ 1) (ix (31 + x)) = 1)) rfl () rfl rfl

set_option maxHeartbeats 4000000 in
set_option maxRecDepth 100000 in
theorem k_X7_setStranger (E : kE) (l : Launch) (wr : va_W) (b : Nat → Nat) (μ : Sto) (a : Nat → Nat) (σ : Sto) (x : Int32) (u : Bool) : KM E l yX7_setStranger cX7_setStranger 3 (some .boolean) 2 46 0 0 [.ref (b 0), .int x, .int (bi u)] (WW E b μ a σ wr) (some (.int (bi (inR x 0 99 && decide ((μ 1) (ix (131 + x)) = 1))))) (WW E b (put (put μ 0 (sc (bi (!inR x 0 99)))) 1 (bif inR x 0 99 then upd (μ 1) (ix (131 + x)) (bi u) else (μ 1))) a σ wr) := by
  refine K_start (own := RX7) (by decide +kernel) rfl [(0, .ref (b 0)), (1, .int x), (2, .int (bi u))] rfl (Nat.le_of_ble_eq_true rfl) (fun p e s m below meth c X hr hin => ?_)
  refine g_aload_n X dX7_setStranger_0 1 rfl rfl ?_
  refine g_iload_n X dX7_setStranger_1 2 rfl rfl ?_
  refine c_S X Lk_X7_44 (k_X7_isAddress E l wr b μ a σ x) dX7_setStranger_2 rfl rfl (Nat.le_of_ble_eq_true rfl) ⟨(Nat.le_of_ble_eq_true rfl), (Nat.le_of_ble_eq_true rfl)⟩ ⟨(Nat.le_of_ble_eq_true rfl), (Nat.le_of_ble_eq_true rfl)⟩ 5 rfl [.int (bi (inR x 0 99)), .ref (b 0)] rfl ?_
  refine g_sipush X dX7_setStranger_5 8 rfl (v := 131) rfl ?_
  refine g_iload_n X dX7_setStranger_8 9 rfl rfl ?_
  refine g_iadd X dX7_setStranger_9 10 rfl ?_
  refine g_iload_n X dX7_setStranger_10 11 rfl rfl ?_
  refine c_V X Lk_X7_61 (k_X7_flips E l wr b μ a σ (inR x 0 99) (131 + x) u (fun h => let ⟨j, h1, h2⟩ := inR_add (u := 131) (n := 99) (by decide) (by decide) h; ⟨j, by omega, h2⟩)) dX7_setStranger_11 rfl 0 rfl rfl rfl (Nat.le_of_ble_eq_true rfl) ⟨(Nat.le_of_ble_eq_true rfl), (Nat.le_of_ble_eq_true rfl)⟩ ⟨(Nat.le_of_ble_eq_true rfl), (Nat.le_of_ble_eq_true rfl)⟩ 14 rfl [.int (bi ((inR x 0 99) && decide ((μ 1) (ix (131 + x)) = 1)))] rfl ?_
  exact g_zret X hr dX7_setStranger_14 ((inR x 0 99) && decide ((μ 1) (ix (131 + x)) = 1)) rfl () rfl rfl

set_option maxHeartbeats 4000000 in
set_option maxRecDepth 100000 in
theorem k_X7_setDirect (E : kE) (l : Launch) (wr : va_W) (b : Nat → Nat) (μ : Sto) (a : Nat → Nat) (σ : Sto) (x : Int32) (u : Bool) : KM E l yX7_setDirect cX7_setDirect 3 (some .boolean) 2 46 0 0 [.ref (b 0), .int x, .int (bi u)] (WW E b μ a σ wr) (some (.int (bi (inR x 0 2 && decide ((μ 1) (ix (25 + x)) = 1))))) (WW E b (put (put μ 0 (sc (bi (!inR x 0 2)))) 1 (bif inR x 0 2 then upd (μ 1) (ix (25 + x)) (bi u) else (μ 1))) a σ wr) := by
  refine K_start (own := RX7) (by decide +kernel) rfl [(0, .ref (b 0)), (1, .int x), (2, .int (bi u))] rfl (Nat.le_of_ble_eq_true rfl) (fun p e s m below meth c X hr hin => ?_)
  refine g_aload_n X dX7_setDirect_0 1 rfl rfl ?_
  refine g_iload_n X dX7_setDirect_1 2 rfl rfl ?_
  refine c_S X Lk_X7_37 (k_X7_isGroup E l wr b μ a σ x) dX7_setDirect_2 rfl rfl (Nat.le_of_ble_eq_true rfl) ⟨(Nat.le_of_ble_eq_true rfl), (Nat.le_of_ble_eq_true rfl)⟩ ⟨(Nat.le_of_ble_eq_true rfl), (Nat.le_of_ble_eq_true rfl)⟩ 5 rfl [.int (bi (inR x 0 2)), .ref (b 0)] rfl ?_
  refine g_bipush X dX7_setDirect_5 7 rfl (v := 25) rfl ?_
  refine g_iload_n X dX7_setDirect_7 8 rfl rfl ?_
  refine g_iadd X dX7_setDirect_8 9 rfl ?_
  refine g_iload_n X dX7_setDirect_9 10 rfl rfl ?_
  refine c_V X Lk_X7_61 (k_X7_flips E l wr b μ a σ (inR x 0 2) (25 + x) u (fun h => let ⟨j, h1, h2⟩ := inR_add (u := 25) (n := 2) (by decide) (by decide) h; ⟨j, by omega, h2⟩)) dX7_setDirect_10 rfl 0 rfl rfl rfl (Nat.le_of_ble_eq_true rfl) ⟨(Nat.le_of_ble_eq_true rfl), (Nat.le_of_ble_eq_true rfl)⟩ ⟨(Nat.le_of_ble_eq_true rfl), (Nat.le_of_ble_eq_true rfl)⟩ 13 rfl [.int (bi ((inR x 0 2) && decide ((μ 1) (ix (25 + x)) = 1)))] rfl ?_
  exact g_zret X hr dX7_setDirect_13 ((inR x 0 2) && decide ((μ 1) (ix (25 + x)) = 1)) rfl () rfl rfl

set_option maxHeartbeats 4000000 in
set_option maxRecDepth 100000 in
theorem k_X7_setRelay (E : kE) (l : Launch) (wr : va_W) (b : Nat → Nat) (μ : Sto) (a : Nat → Nat) (σ : Sto) (x : Int32) (u : Bool) : KM E l yX7_setRelay cX7_setRelay 3 (some .boolean) 2 46 0 0 [.ref (b 0), .int x, .int (bi u)] (WW E b μ a σ wr) (some (.int (bi (inR x 0 2 && decide ((μ 1) (ix (28 + x)) = 1))))) (WW E b (put (put μ 0 (sc (bi (!inR x 0 2)))) 1 (bif inR x 0 2 then upd (μ 1) (ix (28 + x)) (bi u) else (μ 1))) a σ wr) := by
  refine K_start (own := RX7) (by decide +kernel) rfl [(0, .ref (b 0)), (1, .int x), (2, .int (bi u))] rfl (Nat.le_of_ble_eq_true rfl) (fun p e s m below meth c X hr hin => ?_)
  refine g_aload_n X dX7_setRelay_0 1 rfl rfl ?_
  refine g_iload_n X dX7_setRelay_1 2 rfl rfl ?_
  refine c_S X Lk_X7_37 (k_X7_isGroup E l wr b μ a σ x) dX7_setRelay_2 rfl rfl (Nat.le_of_ble_eq_true rfl) ⟨(Nat.le_of_ble_eq_true rfl), (Nat.le_of_ble_eq_true rfl)⟩ ⟨(Nat.le_of_ble_eq_true rfl), (Nat.le_of_ble_eq_true rfl)⟩ 5 rfl [.int (bi (inR x 0 2)), .ref (b 0)] rfl ?_
  refine g_bipush X dX7_setRelay_5 7 rfl (v := 28) rfl ?_
  refine g_iload_n X dX7_setRelay_7 8 rfl rfl ?_
  refine g_iadd X dX7_setRelay_8 9 rfl ?_
  refine g_iload_n X dX7_setRelay_9 10 rfl rfl ?_
  refine c_V X Lk_X7_61 (k_X7_flips E l wr b μ a σ (inR x 0 2) (28 + x) u (fun h => let ⟨j, h1, h2⟩ := inR_add (u := 28) (n := 2) (by decide) (by decide) h; ⟨j, by omega, h2⟩)) dX7_setRelay_10 rfl 0 rfl rfl rfl (Nat.le_of_ble_eq_true rfl) ⟨(Nat.le_of_ble_eq_true rfl), (Nat.le_of_ble_eq_true rfl)⟩ ⟨(Nat.le_of_ble_eq_true rfl), (Nat.le_of_ble_eq_true rfl)⟩ 13 rfl [.int (bi ((inR x 0 2) && decide ((μ 1) (ix (28 + x)) = 1)))] rfl ?_
  exact g_zret X hr dX7_setRelay_13 ((inR x 0 2) && decide ((μ 1) (ix (28 + x)) = 1)) rfl () rfl rfl

set_option maxHeartbeats 4000000 in
set_option maxRecDepth 100000 in
theorem k_X7_setHold (E : kE) (l : Launch) (wr : va_W) (b : Nat → Nat) (μ : Sto) (a : Nat → Nat) (σ : Sto) (x : Int32) : KM E l yX7_setHold cX7_setHold 2 (some .int) 1 23 0 0 [.ref (b 0), .int x] (WW E b μ a σ wr) (some (.int (bif inR x 1 50 then (μ 1) 1 else 0))) (WW E b (put (put μ 0 (sc (bif inR x 1 50 then 0 else 1))) 1 (bif inR x 1 50 then upd (μ 1) 1 x else (μ 1))) a σ wr) := by
  refine K_start (own := RX7) (by decide +kernel) rfl [(0, .ref (b 0)), (1, .int x)] rfl (Nat.le_of_ble_eq_true rfl) (fun p e s m below meth c X hr hin => ?_)
  refine g_aload_n X dX7_setHold_0 1 rfl rfl ?_
  refine g_iconst X dX7_setHold_1 2 rfl (v := 0) rfl ?_
  refine g_put X FL_X7_19 fk_X7 dX7_setHold_2 5 rfl rfl 0 rfl rfl rfl (Nat.le_of_ble_eq_true rfl) (WW E b (put μ 0 (sc 0)) a σ wr) rfl ?_
  refine g_iload_n X dX7_setHold_5 6 rfl rfl ?_
  refine g_iconst X dX7_setHold_6 7 rfl (v := 1) rfl ?_
  refine g_bipush X dX7_setHold_7 9 rfl (v := 50) rfl ?_
  refine c_S X Lk_X7_23 (k_X7_in E l wr b (put μ 0 (sc 0)) a σ x 1 50) dX7_setHold_9 rfl rfl (Nat.le_of_ble_eq_true rfl) ⟨(Nat.le_of_ble_eq_true rfl), (Nat.le_of_ble_eq_true rfl)⟩ ⟨(Nat.le_of_ble_eq_true rfl), (Nat.le_of_ble_eq_true rfl)⟩ 12 rfl [.int (bi (inR x 1 50))] rfl ?_
  refine g_ifb_eq X dX7_setHold_12 24 15 rfl rfl (fun c1 => ?_) (fun c1 => ?_)
  · skip
    refine g_aload_n X dX7_setHold_24 25 rfl rfl ?_
    refine g_iconst X dX7_setHold_25 26 rfl (v := 1) rfl ?_
    refine c_V X Lk_X7_41 (k_X7_raises E l wr b (put μ 0 (sc 0)) a σ 1) dX7_setHold_26 rfl 0 rfl rfl rfl (Nat.le_of_ble_eq_true rfl) ⟨(Nat.le_of_ble_eq_true rfl), (Nat.le_of_ble_eq_true rfl)⟩ ⟨(Nat.le_of_ble_eq_true rfl), (Nat.le_of_ble_eq_true rfl)⟩ 29 rfl [.int 0] rfl ?_
    exact g_iret X hr dX7_setHold_29 () (show (some (.int (bif inR x 1 50 then (μ 1) 1 else 0)) : Option Value) = some (.int 0) from by simp [c1]) (by refine WW_eq ?_ ?_ ?_ ?_ ?_ ?_; exact (show 1 = (bif inR x 1 50 then 0 else 1) from by simp [c1]); exact (show (μ 1) = (bif inR x 1 50 then upd (μ 1) 1 x else (μ 1)) from by simp [c1]); exact (rfl : μ 2 = μ 2); exact (rfl : μ 3 0 = μ 3 0); exact (rfl : (μ 4) = (μ 4)); exact (rfl : (μ 5 0) = (μ 5 0)))
  · skip
    refine g_aload_n X dX7_setHold_15 16 rfl rfl ?_
    refine g_iconst X dX7_setHold_16 17 rfl (v := 1) rfl ?_
    refine g_iload_n X dX7_setHold_17 18 rfl rfl ?_
    refine c_V X Lk_X7_57 (k_X7_sets E l wr b (put μ 0 (sc 0)) a σ 1 x (by first | omega | assumption)) dX7_setHold_18 rfl 0 rfl rfl rfl (Nat.le_of_ble_eq_true rfl) ⟨(Nat.le_of_ble_eq_true rfl), (Nat.le_of_ble_eq_true rfl)⟩ ⟨(Nat.le_of_ble_eq_true rfl), (Nat.le_of_ble_eq_true rfl)⟩ 21 rfl [.int ((μ 1) 1)] rfl ?_
    refine g_goto X dX7_setHold_21 29 rfl ?_
    exact g_iret X hr dX7_setHold_29 () (show (some (.int (bif inR x 1 50 then (μ 1) 1 else 0)) : Option Value) = some (.int ((μ 1) 1)) from by simp [c1]) (by refine WW_eq ?_ ?_ ?_ ?_ ?_ ?_; exact (show 0 = (bif inR x 1 50 then 0 else 1) from by simp [c1]); exact (show (upd (μ 1) 1 x) = (bif inR x 1 50 then upd (μ 1) 1 x else (μ 1)) from by simp [c1]); exact (rfl : μ 2 = μ 2); exact (rfl : μ 3 0 = μ 3 0); exact (rfl : (μ 4) = (μ 4)); exact (rfl : (μ 5 0) = (μ 5 0)))

set_option maxHeartbeats 4000000 in
set_option maxRecDepth 100000 in
theorem k_X7_setQuarantine (E : kE) (l : Launch) (wr : va_W) (b : Nat → Nat) (μ : Sto) (a : Nat → Nat) (σ : Sto) (x : Int32) : KM E l yX7_setQuarantine cX7_setQuarantine 2 (some .int) 1 23 0 0 [.ref (b 0), .int x] (WW E b μ a σ wr) (some (.int (bif inR x 1 500 then (μ 1) 2 else 0))) (WW E b (put (put μ 0 (sc (bif inR x 1 500 then 0 else 1))) 1 (bif inR x 1 500 then upd (μ 1) 2 x else (μ 1))) a σ wr) := by
  refine K_start (own := RX7) (by decide +kernel) rfl [(0, .ref (b 0)), (1, .int x)] rfl (Nat.le_of_ble_eq_true rfl) (fun p e s m below meth c X hr hin => ?_)
  refine g_aload_n X dX7_setQuarantine_0 1 rfl rfl ?_
  refine g_iconst X dX7_setQuarantine_1 2 rfl (v := 0) rfl ?_
  refine g_put X FL_X7_19 fk_X7 dX7_setQuarantine_2 5 rfl rfl 0 rfl rfl rfl (Nat.le_of_ble_eq_true rfl) (WW E b (put μ 0 (sc 0)) a σ wr) rfl ?_
  refine g_iload_n X dX7_setQuarantine_5 6 rfl rfl ?_
  refine g_iconst X dX7_setQuarantine_6 7 rfl (v := 1) rfl ?_
  refine g_sipush X dX7_setQuarantine_7 10 rfl (v := 500) rfl ?_
  refine c_S X Lk_X7_23 (k_X7_in E l wr b (put μ 0 (sc 0)) a σ x 1 500) dX7_setQuarantine_10 rfl rfl (Nat.le_of_ble_eq_true rfl) ⟨(Nat.le_of_ble_eq_true rfl), (Nat.le_of_ble_eq_true rfl)⟩ ⟨(Nat.le_of_ble_eq_true rfl), (Nat.le_of_ble_eq_true rfl)⟩ 13 rfl [.int (bi (inR x 1 500))] rfl ?_
  refine g_ifb_eq X dX7_setQuarantine_13 25 16 rfl rfl (fun c1 => ?_) (fun c1 => ?_)
  · skip
    refine g_aload_n X dX7_setQuarantine_25 26 rfl rfl ?_
    refine g_iconst X dX7_setQuarantine_26 27 rfl (v := 1) rfl ?_
    refine c_V X Lk_X7_41 (k_X7_raises E l wr b (put μ 0 (sc 0)) a σ 1) dX7_setQuarantine_27 rfl 0 rfl rfl rfl (Nat.le_of_ble_eq_true rfl) ⟨(Nat.le_of_ble_eq_true rfl), (Nat.le_of_ble_eq_true rfl)⟩ ⟨(Nat.le_of_ble_eq_true rfl), (Nat.le_of_ble_eq_true rfl)⟩ 30 rfl [.int 0] rfl ?_
    exact g_iret X hr dX7_setQuarantine_30 () (show (some (.int (bif inR x 1 500 then (μ 1) 2 else 0)) : Option Value) = some (.int 0) from by simp [c1]) (by refine WW_eq ?_ ?_ ?_ ?_ ?_ ?_; exact (show 1 = (bif inR x 1 500 then 0 else 1) from by simp [c1]); exact (show (μ 1) = (bif inR x 1 500 then upd (μ 1) 2 x else (μ 1)) from by simp [c1]); exact (rfl : μ 2 = μ 2); exact (rfl : μ 3 0 = μ 3 0); exact (rfl : (μ 4) = (μ 4)); exact (rfl : (μ 5 0) = (μ 5 0)))
  · skip
    refine g_aload_n X dX7_setQuarantine_16 17 rfl rfl ?_
    refine g_iconst X dX7_setQuarantine_17 18 rfl (v := 2) rfl ?_
    refine g_iload_n X dX7_setQuarantine_18 19 rfl rfl ?_
    refine c_V X Lk_X7_57 (k_X7_sets E l wr b (put μ 0 (sc 0)) a σ 2 x (by first | omega | assumption)) dX7_setQuarantine_19 rfl 0 rfl rfl rfl (Nat.le_of_ble_eq_true rfl) ⟨(Nat.le_of_ble_eq_true rfl), (Nat.le_of_ble_eq_true rfl)⟩ ⟨(Nat.le_of_ble_eq_true rfl), (Nat.le_of_ble_eq_true rfl)⟩ 22 rfl [.int ((μ 1) 2)] rfl ?_
    refine g_goto X dX7_setQuarantine_22 30 rfl ?_
    exact g_iret X hr dX7_setQuarantine_30 () (show (some (.int (bif inR x 1 500 then (μ 1) 2 else 0)) : Option Value) = some (.int ((μ 1) 2)) from by simp [c1]) (by refine WW_eq ?_ ?_ ?_ ?_ ?_ ?_; exact (show 0 = (bif inR x 1 500 then 0 else 1) from by simp [c1]); exact (show (upd (μ 1) 2 x) = (bif inR x 1 500 then upd (μ 1) 2 x else (μ 1)) from by simp [c1]); exact (rfl : μ 2 = μ 2); exact (rfl : μ 3 0 = μ 3 0); exact (rfl : (μ 4) = (μ 4)); exact (rfl : (μ 5 0) = (μ 5 0)))

set_option maxHeartbeats 4000000 in
set_option maxRecDepth 100000 in
theorem k_X7_clientState (E : kE) (l : Launch) (wr : va_W) (b : Nat → Nat) (μ : Sto) (a : Nat → Nat) (σ : Sto) (x : Int32) : KM E l yX7_clientState cX7_clientState 2 (some .int) 2 42 0 0 [.ref (b 0), .int x] (WW E b μ a σ wr) (some (.int (bif inR x 0 19 then (μ 1) (631 + ix x) else 0))) (WW E b (put μ 0 (sc (bif inR x 0 19 then 0 else 1))) a σ wr) := by
  refine K_start (own := RX7) (by decide +kernel) rfl [(0, .ref (b 0)), (1, .int x)] rfl (Nat.le_of_ble_eq_true rfl) (fun p e s m below meth c X hr hin => ?_)
  refine g_aload_n X dX7_clientState_0 1 rfl rfl ?_
  refine g_iconst X dX7_clientState_1 2 rfl (v := 0) rfl ?_
  refine g_put X FL_X7_19 fk_X7 dX7_clientState_2 5 rfl rfl 0 rfl rfl rfl (Nat.le_of_ble_eq_true rfl) (WW E b (put μ 0 (sc 0)) a σ wr) rfl ?_
  refine g_iload_n X dX7_clientState_5 6 rfl rfl ?_
  refine c_S X Lk_X7_65 (k_X7_isClient E l wr b (put μ 0 (sc 0)) a σ x) dX7_clientState_6 rfl rfl (Nat.le_of_ble_eq_true rfl) ⟨(Nat.le_of_ble_eq_true rfl), (Nat.le_of_ble_eq_true rfl)⟩ ⟨(Nat.le_of_ble_eq_true rfl), (Nat.le_of_ble_eq_true rfl)⟩ 9 rfl [.int (bi (inR x 0 19))] rfl ?_
  refine g_ifb_eq X dX7_clientState_9 25 12 rfl rfl (fun c1 => ?_) (fun c1 => ?_)
  · skip
    refine g_aload_n X dX7_clientState_25 26 rfl rfl ?_
    refine g_iconst X dX7_clientState_26 27 rfl (v := 1) rfl ?_
    refine c_V X Lk_X7_41 (k_X7_raises E l wr b (put μ 0 (sc 0)) a σ 1) dX7_clientState_27 rfl 0 rfl rfl rfl (Nat.le_of_ble_eq_true rfl) ⟨(Nat.le_of_ble_eq_true rfl), (Nat.le_of_ble_eq_true rfl)⟩ ⟨(Nat.le_of_ble_eq_true rfl), (Nat.le_of_ble_eq_true rfl)⟩ 30 rfl [.int 0] rfl ?_
    exact g_iret X hr dX7_clientState_30 () (show (some (.int (bif inR x 0 19 then (μ 1) (631 + ix x) else 0)) : Option Value) = some (.int 0) from by simp [c1]) (by refine WW_eq ?_ ?_ ?_ ?_ ?_ ?_; exact (show 1 = (bif inR x 0 19 then 0 else 1) from by simp [c1]); exact (rfl : (μ 1) = (μ 1)); exact (rfl : μ 2 = μ 2); exact (rfl : μ 3 0 = μ 3 0); exact (rfl : (μ 4) = (μ 4)); exact (rfl : (μ 5 0) = (μ 5 0)))
  · skip
    obtain ⟨j, hj, rfl⟩ := inR_19 c1
    refine g_aload_n X dX7_clientState_12 13 rfl rfl ?_
    refine g_get X FL_X7_9 dX7_clientState_13 16 rfl 0 rfl (v := .ref (b 1)) rfl ?_
    refine g_sipush X dX7_clientState_16 19 rfl (v := 631) rfl ?_
    refine g_iload_n X dX7_clientState_19 20 rfl rfl ?_
    refine g_iaddN X dX7_clientState_20 21 rfl 631 j rfl rfl ?_
    refine g_ialdN (j := (631 + j)) (f := (μ 1)) X dX7_clientState_21 22 rfl 1 rfl (by omega) (by decide) ?_
    refine g_goto X dX7_clientState_22 30 rfl ?_
    exact g_iret X hr dX7_clientState_30 () (show (some (.int (bif inR (nI j) 0 19 then (μ 1) (631 + ix (nI j)) else 0)) : Option Value) = some (.int (μ 1 (631 + j))) from by simp [ix, nI_clamp (show j < 2 ^ 31 by omega), c1]) (by refine WW_eq ?_ ?_ ?_ ?_ ?_ ?_; exact (show 0 = (bif inR (nI j) 0 19 then 0 else 1) from by simp [ix, nI_clamp (show j < 2 ^ 31 by omega), c1]); exact (rfl : (μ 1) = (μ 1)); exact (rfl : μ 2 = μ 2); exact (rfl : μ 3 0 = μ 3 0); exact (rfl : (μ 4) = (μ 4)); exact (rfl : (μ 5 0) = (μ 5 0)))

set_option maxHeartbeats 4000000 in
set_option maxRecDepth 100000 in
theorem k_X7_addressOf (E : kE) (l : Launch) (wr : va_W) (b : Nat → Nat) (μ : Sto) (a : Nat → Nat) (σ : Sto) (x : Int32) : KM E l yX7_addressOf cX7_addressOf 2 (some .int) 2 42 0 0 [.ref (b 0), .int x] (WW E b μ a σ wr) (some (.int (bif inR x 0 19 then (if (μ 1) (631 + ix x) = 0 then 0 else (μ 1) (651 + ix x)) else 0))) (WW E b (put μ 0 (sc (bif inR x 0 19 then (if (μ 1) (631 + ix x) = 0 then 2 else 0) else 1))) a σ wr) := by
  refine K_start (own := RX7) (by decide +kernel) rfl [(0, .ref (b 0)), (1, .int x)] rfl (Nat.le_of_ble_eq_true rfl) (fun p e s m below meth c X hr hin => ?_)
  refine g_aload_n X dX7_addressOf_0 1 rfl rfl ?_
  refine g_iconst X dX7_addressOf_1 2 rfl (v := 0) rfl ?_
  refine g_put X FL_X7_19 fk_X7 dX7_addressOf_2 5 rfl rfl 0 rfl rfl rfl (Nat.le_of_ble_eq_true rfl) (WW E b (put μ 0 (sc 0)) a σ wr) rfl ?_
  refine g_iload_n X dX7_addressOf_5 6 rfl rfl ?_
  refine c_S X Lk_X7_65 (k_X7_isClient E l wr b (put μ 0 (sc 0)) a σ x) dX7_addressOf_6 rfl rfl (Nat.le_of_ble_eq_true rfl) ⟨(Nat.le_of_ble_eq_true rfl), (Nat.le_of_ble_eq_true rfl)⟩ ⟨(Nat.le_of_ble_eq_true rfl), (Nat.le_of_ble_eq_true rfl)⟩ 9 rfl [.int (bi (inR x 0 19))] rfl ?_
  refine g_ifb_ne X dX7_addressOf_9 18 12 rfl rfl (fun c1 => ?_) (fun c1 => ?_)
  · skip
    obtain ⟨j, hj, rfl⟩ := inR_19 c1
    refine g_aload_n X dX7_addressOf_18 19 rfl rfl ?_
    refine g_get X FL_X7_9 dX7_addressOf_19 22 rfl 0 rfl (v := .ref (b 1)) rfl ?_
    refine g_sipush X dX7_addressOf_22 25 rfl (v := 631) rfl ?_
    refine g_iload_n X dX7_addressOf_25 26 rfl rfl ?_
    refine g_iaddN X dX7_addressOf_26 27 rfl 631 j rfl rfl ?_
    refine g_ialdN (j := (631 + j)) (f := (μ 1)) X dX7_addressOf_27 28 rfl 1 rfl (by omega) (by decide) ?_
    refine g_if_ne X dX7_addressOf_28 39 31 rfl rfl (fun c2 => ?_) (fun c2 => ?_)
    · skip
      refine g_aload_n X dX7_addressOf_39 40 rfl rfl ?_
      refine g_get X FL_X7_9 dX7_addressOf_40 43 rfl 0 rfl (v := .ref (b 1)) rfl ?_
      refine g_sipush X dX7_addressOf_43 46 rfl (v := 651) rfl ?_
      refine g_iload_n X dX7_addressOf_46 47 rfl rfl ?_
      refine g_iaddN X dX7_addressOf_47 48 rfl 651 j rfl rfl ?_
      refine g_ialdN (j := (651 + j)) (f := (μ 1)) X dX7_addressOf_48 49 rfl 1 rfl (by omega) (by decide) ?_
      exact g_iret X hr dX7_addressOf_49 () (show (some (.int (bif inR (nI j) 0 19 then (if (μ 1) (631 + ix (nI j)) = 0 then 0 else (μ 1) (651 + ix (nI j))) else 0)) : Option Value) = some (.int (μ 1 (651 + j))) from by simp [ix, nI_clamp (show j < 2 ^ 31 by omega), c1, c2]) (by refine WW_eq ?_ ?_ ?_ ?_ ?_ ?_; exact (show 0 = (bif inR (nI j) 0 19 then (if (μ 1) (631 + ix (nI j)) = 0 then 2 else 0) else 1) from by simp [ix, nI_clamp (show j < 2 ^ 31 by omega), c1, c2]); exact (rfl : (μ 1) = (μ 1)); exact (rfl : μ 2 = μ 2); exact (rfl : μ 3 0 = μ 3 0); exact (rfl : (μ 4) = (μ 4)); exact (rfl : (μ 5 0) = (μ 5 0)))
    · skip
      refine g_aload_n X dX7_addressOf_31 32 rfl rfl ?_
      refine g_iconst X dX7_addressOf_32 33 rfl (v := 2) rfl ?_
      refine c_V X Lk_X7_41 (k_X7_raises E l wr b (put μ 0 (sc 0)) a σ 2) dX7_addressOf_33 rfl 0 rfl rfl rfl (Nat.le_of_ble_eq_true rfl) ⟨(Nat.le_of_ble_eq_true rfl), (Nat.le_of_ble_eq_true rfl)⟩ ⟨(Nat.le_of_ble_eq_true rfl), (Nat.le_of_ble_eq_true rfl)⟩ 36 rfl [.int 0] rfl ?_
      refine g_goto X dX7_addressOf_36 49 rfl ?_
      exact g_iret X hr dX7_addressOf_49 () (show (some (.int (bif inR (nI j) 0 19 then (if (μ 1) (631 + ix (nI j)) = 0 then 0 else (μ 1) (651 + ix (nI j))) else 0)) : Option Value) = some (.int 0) from by simp [ix, nI_clamp (show j < 2 ^ 31 by omega), c1, c2]) (by refine WW_eq ?_ ?_ ?_ ?_ ?_ ?_; exact (show 2 = (bif inR (nI j) 0 19 then (if (μ 1) (631 + ix (nI j)) = 0 then 2 else 0) else 1) from by simp [ix, nI_clamp (show j < 2 ^ 31 by omega), c1, c2]); exact (rfl : (μ 1) = (μ 1)); exact (rfl : μ 2 = μ 2); exact (rfl : μ 3 0 = μ 3 0); exact (rfl : (μ 4) = (μ 4)); exact (rfl : (μ 5 0) = (μ 5 0)))
  · skip
    refine g_aload_n X dX7_addressOf_12 13 rfl rfl ?_
    refine g_iconst X dX7_addressOf_13 14 rfl (v := 1) rfl ?_
    refine c_V X Lk_X7_41 (k_X7_raises E l wr b (put μ 0 (sc 0)) a σ 1) dX7_addressOf_14 rfl 0 rfl rfl rfl (Nat.le_of_ble_eq_true rfl) ⟨(Nat.le_of_ble_eq_true rfl), (Nat.le_of_ble_eq_true rfl)⟩ ⟨(Nat.le_of_ble_eq_true rfl), (Nat.le_of_ble_eq_true rfl)⟩ 17 rfl [.int 0] rfl ?_
    exact g_iret X hr dX7_addressOf_17 () (show (some (.int (bif inR x 0 19 then (if (μ 1) (631 + ix x) = 0 then 0 else (μ 1) (651 + ix x)) else 0)) : Option Value) = some (.int 0) from by simp [c1]) (by refine WW_eq ?_ ?_ ?_ ?_ ?_ ?_; exact (show 1 = (bif inR x 0 19 then (if (μ 1) (631 + ix x) = 0 then 2 else 0) else 1) from by simp [c1]); exact (rfl : (μ 1) = (μ 1)); exact (rfl : μ 2 = μ 2); exact (rfl : μ 3 0 = μ 3 0); exact (rfl : (μ 4) = (μ 4)); exact (rfl : (μ 5 0) = (μ 5 0)))

set_option maxHeartbeats 4000000 in
set_option maxRecDepth 100000 in
theorem k_X7_remembered (E : kE) (l : Launch) (wr : va_W) (b : Nat → Nat) (μ : Sto) (a : Nat → Nat) (σ : Sto) (x : Int32) : KM E l yX7_remembered cX7_remembered 2 (some .int) 2 42 0 0 [.ref (b 0), .int x] (WW E b μ a σ wr) (some (.int (bif inR x 0 19 then (if (μ 1) (711 + ix x) = 0 then 0 else (μ 1) (711 + ix x) - 1) else 0))) (WW E b (put μ 0 (sc (bif inR x 0 19 then (if (μ 1) (711 + ix x) = 0 then 2 else 0) else 1))) a σ wr) := by
  refine K_start (own := RX7) (by decide +kernel) rfl [(0, .ref (b 0)), (1, .int x)] rfl (Nat.le_of_ble_eq_true rfl) (fun p e s m below meth c X hr hin => ?_)
  refine g_aload_n X dX7_remembered_0 1 rfl rfl ?_
  refine g_iconst X dX7_remembered_1 2 rfl (v := 0) rfl ?_
  refine g_put X FL_X7_19 fk_X7 dX7_remembered_2 5 rfl rfl 0 rfl rfl rfl (Nat.le_of_ble_eq_true rfl) (WW E b (put μ 0 (sc 0)) a σ wr) rfl ?_
  refine g_iload_n X dX7_remembered_5 6 rfl rfl ?_
  refine c_S X Lk_X7_65 (k_X7_isClient E l wr b (put μ 0 (sc 0)) a σ x) dX7_remembered_6 rfl rfl (Nat.le_of_ble_eq_true rfl) ⟨(Nat.le_of_ble_eq_true rfl), (Nat.le_of_ble_eq_true rfl)⟩ ⟨(Nat.le_of_ble_eq_true rfl), (Nat.le_of_ble_eq_true rfl)⟩ 9 rfl [.int (bi (inR x 0 19))] rfl ?_
  refine g_ifb_ne X dX7_remembered_9 18 12 rfl rfl (fun c1 => ?_) (fun c1 => ?_)
  · skip
    obtain ⟨j, hj, rfl⟩ := inR_19 c1
    refine g_aload_n X dX7_remembered_18 19 rfl rfl ?_
    refine g_get X FL_X7_9 dX7_remembered_19 22 rfl 0 rfl (v := .ref (b 1)) rfl ?_
    refine g_sipush X dX7_remembered_22 25 rfl (v := 711) rfl ?_
    refine g_iload_n X dX7_remembered_25 26 rfl rfl ?_
    refine g_iaddN X dX7_remembered_26 27 rfl 711 j rfl rfl ?_
    refine g_ialdN (j := (711 + j)) (f := (μ 1)) X dX7_remembered_27 28 rfl 1 rfl (by omega) (by decide) ?_
    refine g_if_ne X dX7_remembered_28 39 31 rfl rfl (fun c2 => ?_) (fun c2 => ?_)
    · skip
      refine g_aload_n X dX7_remembered_39 40 rfl rfl ?_
      refine g_get X FL_X7_9 dX7_remembered_40 43 rfl 0 rfl (v := .ref (b 1)) rfl ?_
      refine g_sipush X dX7_remembered_43 46 rfl (v := 711) rfl ?_
      refine g_iload_n X dX7_remembered_46 47 rfl rfl ?_
      refine g_iaddN X dX7_remembered_47 48 rfl 711 j rfl rfl ?_
      refine g_ialdN (j := (711 + j)) (f := (μ 1)) X dX7_remembered_48 49 rfl 1 rfl (by omega) (by decide) ?_
      refine g_iconst X dX7_remembered_49 50 rfl (v := 1) rfl ?_
      refine g_isub X dX7_remembered_50 51 rfl ?_
      exact g_iret X hr dX7_remembered_51 () (show (some (.int (bif inR (nI j) 0 19 then (if (μ 1) (711 + ix (nI j)) = 0 then 0 else (μ 1) (711 + ix (nI j)) - 1) else 0)) : Option Value) = some (.int ((μ 1 (711 + j)) - 1)) from by simp [ix, nI_clamp (show j < 2 ^ 31 by omega), c1, c2]) (by refine WW_eq ?_ ?_ ?_ ?_ ?_ ?_; exact (show 0 = (bif inR (nI j) 0 19 then (if (μ 1) (711 + ix (nI j)) = 0 then 2 else 0) else 1) from by simp [ix, nI_clamp (show j < 2 ^ 31 by omega), c1, c2]); exact (rfl : (μ 1) = (μ 1)); exact (rfl : μ 2 = μ 2); exact (rfl : μ 3 0 = μ 3 0); exact (rfl : (μ 4) = (μ 4)); exact (rfl : (μ 5 0) = (μ 5 0)))
    · skip
      refine g_aload_n X dX7_remembered_31 32 rfl rfl ?_
      refine g_iconst X dX7_remembered_32 33 rfl (v := 2) rfl ?_
      refine c_V X Lk_X7_41 (k_X7_raises E l wr b (put μ 0 (sc 0)) a σ 2) dX7_remembered_33 rfl 0 rfl rfl rfl (Nat.le_of_ble_eq_true rfl) ⟨(Nat.le_of_ble_eq_true rfl), (Nat.le_of_ble_eq_true rfl)⟩ ⟨(Nat.le_of_ble_eq_true rfl), (Nat.le_of_ble_eq_true rfl)⟩ 36 rfl [.int 0] rfl ?_
      refine g_goto X dX7_remembered_36 51 rfl ?_
      exact g_iret X hr dX7_remembered_51 () (show (some (.int (bif inR (nI j) 0 19 then (if (μ 1) (711 + ix (nI j)) = 0 then 0 else (μ 1) (711 + ix (nI j)) - 1) else 0)) : Option Value) = some (.int 0) from by simp [ix, nI_clamp (show j < 2 ^ 31 by omega), c1, c2]) (by refine WW_eq ?_ ?_ ?_ ?_ ?_ ?_; exact (show 2 = (bif inR (nI j) 0 19 then (if (μ 1) (711 + ix (nI j)) = 0 then 2 else 0) else 1) from by simp [ix, nI_clamp (show j < 2 ^ 31 by omega), c1, c2]); exact (rfl : (μ 1) = (μ 1)); exact (rfl : μ 2 = μ 2); exact (rfl : μ 3 0 = μ 3 0); exact (rfl : (μ 4) = (μ 4)); exact (rfl : (μ 5 0) = (μ 5 0)))
  · skip
    refine g_aload_n X dX7_remembered_12 13 rfl rfl ?_
    refine g_iconst X dX7_remembered_13 14 rfl (v := 1) rfl ?_
    refine c_V X Lk_X7_41 (k_X7_raises E l wr b (put μ 0 (sc 0)) a σ 1) dX7_remembered_14 rfl 0 rfl rfl rfl (Nat.le_of_ble_eq_true rfl) ⟨(Nat.le_of_ble_eq_true rfl), (Nat.le_of_ble_eq_true rfl)⟩ ⟨(Nat.le_of_ble_eq_true rfl), (Nat.le_of_ble_eq_true rfl)⟩ 17 rfl [.int 0] rfl ?_
    exact g_iret X hr dX7_remembered_17 () (show (some (.int (bif inR x 0 19 then (if (μ 1) (711 + ix x) = 0 then 0 else (μ 1) (711 + ix x) - 1) else 0)) : Option Value) = some (.int 0) from by simp [c1]) (by refine WW_eq ?_ ?_ ?_ ?_ ?_ ?_; exact (show 1 = (bif inR x 0 19 then (if (μ 1) (711 + ix x) = 0 then 2 else 0) else 1) from by simp [c1]); exact (rfl : (μ 1) = (μ 1)); exact (rfl : μ 2 = μ 2); exact (rfl : μ 3 0 = μ 3 0); exact (rfl : (μ 4) = (μ 4)); exact (rfl : (μ 5 0) = (μ 5 0)))

set_option maxHeartbeats 4000000 in
set_option maxRecDepth 100000 in
theorem k_X7_timer (E : kE) (l : Launch) (wr : va_W) (b : Nat → Nat) (μ : Sto) (a : Nat → Nat) (σ : Sto) (x : Int32) (q : Int32) (v : Nat) (hX : MX (μ 1) v) : KM E l yX7_timer cX7_timer 3 (some .int) 3 63 0 0 [.ref (b 0), .int x, .int q] (WW E b μ a σ wr) (some (.int (if lkL (μ 1) x ≤ 0 then (bif inR q 0 2 then (if q = 0 then (μ 1) (671 + ix x) else if q = 1 then (μ 1) (691 + ix x) else (μ 1) (431 + ix ((μ 1) (651 + ix x)))) else 0) else 0))) (WW E b (put μ 0 (sc (if lkL (μ 1) x ≤ 0 then (bif inR q 0 2 then lkL (μ 1) x else 3) else lkL (μ 1) x))) a σ wr) := by
  refine K_start (own := RX7) (by decide +kernel) rfl [(0, .ref (b 0)), (1, .int x), (2, .int q)] rfl (Nat.le_of_ble_eq_true rfl) (fun p e s m below meth c X hr hin => ?_)
  refine g_aload_n X dX7_timer_0 1 rfl rfl ?_
  refine g_aload_n X dX7_timer_1 2 rfl rfl ?_
  refine g_iload_n X dX7_timer_2 3 rfl rfl ?_
  refine c_V X Lk_X7_89 (k_X7_lacksLease E l wr b μ a σ x) dX7_timer_3 rfl 0 rfl rfl rfl (Nat.le_of_ble_eq_true rfl) ⟨(Nat.le_of_ble_eq_true rfl), (Nat.le_of_ble_eq_true rfl)⟩ ⟨(Nat.le_of_ble_eq_true rfl), (Nat.le_of_ble_eq_true rfl)⟩ 6 rfl [.int (lkL (μ 1) x), .ref (b 0)] rfl ?_
  refine g_put X FL_X7_19 fk_X7 dX7_timer_6 9 rfl rfl 0 rfl rfl rfl (Nat.le_of_ble_eq_true rfl) (WW E b (put μ 0 (sc (lkL (μ 1) x))) a σ wr) rfl ?_
  refine g_aload_n X dX7_timer_9 10 rfl rfl ?_
  refine g_get X FL_X7_19 dX7_timer_10 13 rfl 0 rfl (v := .int (lkL (μ 1) x)) rfl ?_
  refine g_if_le X dX7_timer_13 18 16 rfl rfl (fun c1 => ?_) (fun c1 => ?_)
  · skip
    obtain ⟨j, hj, rfl, hb⟩ := lkL_ok c1
    refine g_iload_n X dX7_timer_18 19 rfl rfl ?_
    refine g_iconst X dX7_timer_19 20 rfl (v := 0) rfl ?_
    refine g_iconst X dX7_timer_20 21 rfl (v := 2) rfl ?_
    refine c_S X Lk_X7_23 (k_X7_in E l wr b (put μ 0 (sc (lkL (μ 1) (nI j)))) a σ q 0 2) dX7_timer_21 rfl rfl (Nat.le_of_ble_eq_true rfl) ⟨(Nat.le_of_ble_eq_true rfl), (Nat.le_of_ble_eq_true rfl)⟩ ⟨(Nat.le_of_ble_eq_true rfl), (Nat.le_of_ble_eq_true rfl)⟩ 24 rfl [.int (bi (inR q 0 2))] rfl ?_
    refine g_ifb_ne X dX7_timer_24 33 27 rfl rfl (fun c2 => ?_) (fun c2 => ?_)
    · skip
      refine g_iload_n X dX7_timer_33 34 rfl rfl ?_
      refine g_if_ne X dX7_timer_34 50 37 rfl rfl (fun c3 => ?_) (fun c3 => ?_)
      · skip
        refine g_iload_n X dX7_timer_50 51 rfl rfl ?_
        refine g_iconst X dX7_timer_51 52 rfl (v := 1) rfl ?_
        refine g_ic_ne X dX7_timer_52 68 55 rfl rfl (fun c4 => ?_) (fun c4 => ?_)
        · skip
          refine g_aload_n X dX7_timer_68 69 rfl rfl ?_
          refine g_get X FL_X7_9 dX7_timer_69 72 rfl 0 rfl (v := .ref (b 1)) rfl ?_
          refine g_sipush X dX7_timer_72 75 rfl (v := 431) rfl ?_
          refine g_aload_n X dX7_timer_75 76 rfl rfl ?_
          refine g_get X FL_X7_9 dX7_timer_76 79 rfl 0 rfl (v := .ref (b 1)) rfl ?_
          refine g_sipush X dX7_timer_79 82 rfl (v := 651) rfl ?_
          refine g_iload_n X dX7_timer_82 83 rfl rfl ?_
          refine g_iaddN X dX7_timer_83 84 rfl 651 j rfl rfl ?_
          refine g_ialdN (j := (651 + j)) (f := (μ 1)) X dX7_timer_84 85 rfl 1 rfl (by omega) (by decide) ?_
          obtain ⟨y, hy, h2⟩ := hX.ha j hj
          refine g_top (nI y) h2 ?_
          refine g_iaddN X dX7_timer_85 86 rfl 431 y rfl rfl ?_
          refine g_ialdN (j := (431 + y)) (f := (μ 1)) X dX7_timer_86 87 rfl 1 rfl (by omega) (by decide) ?_
          exact g_iret X hr dX7_timer_87 () (show (some (.int (if lkL (μ 1) (nI j) ≤ 0 then (bif inR q 0 2 then (if q = 0 then (μ 1) (671 + ix (nI j)) else if q = 1 then (μ 1) (691 + ix (nI j)) else (μ 1) (431 + ix ((μ 1) (651 + ix (nI j))))) else 0) else 0)) : Option Value) = some (.int (μ 1 (431 + y))) from by simp [show inR 0 0 2 = true from by decide, show inR 1 0 2 = true from by decide, ix, nI_clamp (show j < 2 ^ 31 by omega), h2, nI_clamp (show y < 2 ^ 31 by omega), c1, c2, c3, c4]) (by refine WW_eq ?_ ?_ ?_ ?_ ?_ ?_; exact (show (lkL (μ 1) (nI j)) = (if lkL (μ 1) (nI j) ≤ 0 then (bif inR q 0 2 then lkL (μ 1) (nI j) else 3) else lkL (μ 1) (nI j)) from by simp [show inR 0 0 2 = true from by decide, show inR 1 0 2 = true from by decide, ix, nI_clamp (show j < 2 ^ 31 by omega), h2, nI_clamp (show y < 2 ^ 31 by omega), c1, c2, c3, c4]); exact (rfl : (μ 1) = (μ 1)); exact (rfl : μ 2 = μ 2); exact (rfl : μ 3 0 = μ 3 0); exact (rfl : (μ 4) = (μ 4)); exact (rfl : (μ 5 0) = (μ 5 0)))
        · skip
          refine g_aload_n X dX7_timer_55 56 rfl rfl ?_
          refine g_get X FL_X7_9 dX7_timer_56 59 rfl 0 rfl (v := .ref (b 1)) rfl ?_
          refine g_sipush X dX7_timer_59 62 rfl (v := 691) rfl ?_
          refine g_iload_n X dX7_timer_62 63 rfl rfl ?_
          refine g_iaddN X dX7_timer_63 64 rfl 691 j rfl rfl ?_
          refine g_ialdN (j := (691 + j)) (f := (μ 1)) X dX7_timer_64 65 rfl 1 rfl (by omega) (by decide) ?_
          refine g_goto X dX7_timer_65 87 rfl ?_
          exact g_iret X hr dX7_timer_87 () (show (some (.int (if lkL (μ 1) (nI j) ≤ 0 then (bif inR q 0 2 then (if q = 0 then (μ 1) (671 + ix (nI j)) else if q = 1 then (μ 1) (691 + ix (nI j)) else (μ 1) (431 + ix ((μ 1) (651 + ix (nI j))))) else 0) else 0)) : Option Value) = some (.int (μ 1 (691 + j))) from by simp [show inR 0 0 2 = true from by decide, show inR 1 0 2 = true from by decide, ix, nI_clamp (show j < 2 ^ 31 by omega), c1, c2, c3, c4]) (by refine WW_eq ?_ ?_ ?_ ?_ ?_ ?_; exact (show (lkL (μ 1) (nI j)) = (if lkL (μ 1) (nI j) ≤ 0 then (bif inR q 0 2 then lkL (μ 1) (nI j) else 3) else lkL (μ 1) (nI j)) from by simp [show inR 0 0 2 = true from by decide, show inR 1 0 2 = true from by decide, ix, nI_clamp (show j < 2 ^ 31 by omega), c1, c2, c3, c4]); exact (rfl : (μ 1) = (μ 1)); exact (rfl : μ 2 = μ 2); exact (rfl : μ 3 0 = μ 3 0); exact (rfl : (μ 4) = (μ 4)); exact (rfl : (μ 5 0) = (μ 5 0)))
      · skip
        refine g_aload_n X dX7_timer_37 38 rfl rfl ?_
        refine g_get X FL_X7_9 dX7_timer_38 41 rfl 0 rfl (v := .ref (b 1)) rfl ?_
        refine g_sipush X dX7_timer_41 44 rfl (v := 671) rfl ?_
        refine g_iload_n X dX7_timer_44 45 rfl rfl ?_
        refine g_iaddN X dX7_timer_45 46 rfl 671 j rfl rfl ?_
        refine g_ialdN (j := (671 + j)) (f := (μ 1)) X dX7_timer_46 47 rfl 1 rfl (by omega) (by decide) ?_
        refine g_goto X dX7_timer_47 87 rfl ?_
        exact g_iret X hr dX7_timer_87 () (show (some (.int (if lkL (μ 1) (nI j) ≤ 0 then (bif inR q 0 2 then (if q = 0 then (μ 1) (671 + ix (nI j)) else if q = 1 then (μ 1) (691 + ix (nI j)) else (μ 1) (431 + ix ((μ 1) (651 + ix (nI j))))) else 0) else 0)) : Option Value) = some (.int (μ 1 (671 + j))) from by simp [show inR 0 0 2 = true from by decide, show inR 1 0 2 = true from by decide, ix, nI_clamp (show j < 2 ^ 31 by omega), c1, c2, c3]) (by refine WW_eq ?_ ?_ ?_ ?_ ?_ ?_; exact (show (lkL (μ 1) (nI j)) = (if lkL (μ 1) (nI j) ≤ 0 then (bif inR q 0 2 then lkL (μ 1) (nI j) else 3) else lkL (μ 1) (nI j)) from by simp [show inR 0 0 2 = true from by decide, show inR 1 0 2 = true from by decide, ix, nI_clamp (show j < 2 ^ 31 by omega), c1, c2, c3]); exact (rfl : (μ 1) = (μ 1)); exact (rfl : μ 2 = μ 2); exact (rfl : μ 3 0 = μ 3 0); exact (rfl : (μ 4) = (μ 4)); exact (rfl : (μ 5 0) = (μ 5 0)))
    · skip
      refine g_aload_n X dX7_timer_27 28 rfl rfl ?_
      refine g_iconst X dX7_timer_28 29 rfl (v := 3) rfl ?_
      refine c_V X Lk_X7_41 (k_X7_raises E l wr b (put μ 0 (sc (lkL (μ 1) (nI j)))) a σ 3) dX7_timer_29 rfl 0 rfl rfl rfl (Nat.le_of_ble_eq_true rfl) ⟨(Nat.le_of_ble_eq_true rfl), (Nat.le_of_ble_eq_true rfl)⟩ ⟨(Nat.le_of_ble_eq_true rfl), (Nat.le_of_ble_eq_true rfl)⟩ 32 rfl [.int 0] rfl ?_
      exact g_iret X hr dX7_timer_32 () (show (some (.int (if lkL (μ 1) (nI j) ≤ 0 then (bif inR q 0 2 then (if q = 0 then (μ 1) (671 + ix (nI j)) else if q = 1 then (μ 1) (691 + ix (nI j)) else (μ 1) (431 + ix ((μ 1) (651 + ix (nI j))))) else 0) else 0)) : Option Value) = some (.int 0) from by simp [show inR 0 0 2 = true from by decide, show inR 1 0 2 = true from by decide, ix, nI_clamp (show j < 2 ^ 31 by omega), c1, c2]) (by refine WW_eq ?_ ?_ ?_ ?_ ?_ ?_; exact (show 3 = (if lkL (μ 1) (nI j) ≤ 0 then (bif inR q 0 2 then lkL (μ 1) (nI j) else 3) else lkL (μ 1) (nI j)) from by simp [show inR 0 0 2 = true from by decide, show inR 1 0 2 = true from by decide, ix, nI_clamp (show j < 2 ^ 31 by omega), c1, c2]); exact (rfl : (μ 1) = (μ 1)); exact (rfl : μ 2 = μ 2); exact (rfl : μ 3 0 = μ 3 0); exact (rfl : (μ 4) = (μ 4)); exact (rfl : (μ 5 0) = (μ 5 0)))
  · skip
    refine g_iconst X dX7_timer_16 17 rfl (v := 0) rfl ?_
    exact g_iret X hr dX7_timer_17 () (show (some (.int (if lkL (μ 1) x ≤ 0 then (bif inR q 0 2 then (if q = 0 then (μ 1) (671 + ix x) else if q = 1 then (μ 1) (691 + ix x) else (μ 1) (431 + ix ((μ 1) (651 + ix x)))) else 0) else 0)) : Option Value) = some (.int 0) from by simp [show inR 0 0 2 = true from by decide, show inR 1 0 2 = true from by decide, c1]) (by refine WW_eq ?_ ?_ ?_ ?_ ?_ ?_; exact (show (lkL (μ 1) x) = (if lkL (μ 1) x ≤ 0 then (bif inR q 0 2 then lkL (μ 1) x else 3) else lkL (μ 1) x) from by simp [show inR 0 0 2 = true from by decide, show inR 1 0 2 = true from by decide, c1]); exact (rfl : (μ 1) = (μ 1)); exact (rfl : μ 2 = μ 2); exact (rfl : μ 3 0 = μ 3 0); exact (rfl : (μ 4) = (μ 4)); exact (rfl : (μ 5 0) = (μ 5 0)))

set_option maxHeartbeats 4000000 in
set_option maxRecDepth 100000 in
theorem k_X7_addressState (E : kE) (l : Launch) (wr : va_W) (b : Nat → Nat) (μ : Sto) (a : Nat → Nat) (σ : Sto) (x : Int32) (v : Nat) (hX : MX (μ 1) v) : KM E l yX7_addressState cX7_addressState 2 (some .int) 3 65 0 0 [.ref (b 0), .int x] (WW E b μ a σ wr) (some (.int (if lkA (μ 1) x ≤ 0 then (μ 1) (231 + ix x) else 0))) (WW E b (put μ 0 (sc (lkA (μ 1) x))) a σ wr) := by
  refine K_start (own := RX7) (by decide +kernel) rfl [(0, .ref (b 0)), (1, .int x)] rfl (Nat.le_of_ble_eq_true rfl) (fun p e s m below meth c X hr hin => ?_)
  refine g_aload_n X dX7_addressState_0 1 rfl rfl ?_
  refine g_aload_n X dX7_addressState_1 2 rfl rfl ?_
  refine g_iload_n X dX7_addressState_2 3 rfl rfl ?_
  refine c_V X Lk_X7_115 (k_X7_lacks E l wr b μ a σ x v hX) dX7_addressState_3 rfl 0 rfl rfl rfl (Nat.le_of_ble_eq_true rfl) ⟨(Nat.le_of_ble_eq_true rfl), (Nat.le_of_ble_eq_true rfl)⟩ ⟨(Nat.le_of_ble_eq_true rfl), (Nat.le_of_ble_eq_true rfl)⟩ 6 rfl [.int (lkA (μ 1) x), .ref (b 0)] rfl ?_
  refine g_put X FL_X7_19 fk_X7 dX7_addressState_6 9 rfl rfl 0 rfl rfl rfl (Nat.le_of_ble_eq_true rfl) (WW E b (put μ 0 (sc (lkA (μ 1) x))) a σ wr) rfl ?_
  refine g_aload_n X dX7_addressState_9 10 rfl rfl ?_
  refine g_get X FL_X7_19 dX7_addressState_10 13 rfl 0 rfl (v := .int (lkA (μ 1) x)) rfl ?_
  refine g_if_le X dX7_addressState_13 20 16 rfl rfl (fun c1 => ?_) (fun c1 => ?_)
  · skip
    have h0 := lkA_0 c1
    obtain ⟨j, hj, rfl⟩ := lkA_ok c1
    refine g_aload_n X dX7_addressState_20 21 rfl rfl ?_
    refine g_get X FL_X7_9 dX7_addressState_21 24 rfl 0 rfl (v := .ref (b 1)) rfl ?_
    refine g_sipush X dX7_addressState_24 27 rfl (v := 231) rfl ?_
    refine g_iload_n X dX7_addressState_27 28 rfl rfl ?_
    refine g_iaddN X dX7_addressState_28 29 rfl 231 j rfl rfl ?_
    refine g_ialdN (j := (231 + j)) (f := (μ 1)) X dX7_addressState_29 30 rfl 1 rfl (by omega) (by decide) ?_
    exact g_iret X hr dX7_addressState_30 () (show (some (.int (if lkA (μ 1) (nI j) ≤ 0 then (μ 1) (231 + ix (nI j)) else 0)) : Option Value) = some (.int (μ 1 (231 + j))) from by simp [ix, nI_clamp (show j < 2 ^ 31 by omega), h0, c1]) (by refine WW_eq ?_ ?_ ?_ ?_ ?_ ?_; exact (rfl : (lkA (μ 1) (nI j)) = (lkA (μ 1) (nI j))); exact (rfl : (μ 1) = (μ 1)); exact (rfl : μ 2 = μ 2); exact (rfl : μ 3 0 = μ 3 0); exact (rfl : (μ 4) = (μ 4)); exact (rfl : (μ 5 0) = (μ 5 0)))
  · skip
    refine g_iconst X dX7_addressState_16 17 rfl (v := 0) rfl ?_
    refine g_goto X dX7_addressState_17 30 rfl ?_
    exact g_iret X hr dX7_addressState_30 () (show (some (.int (if lkA (μ 1) x ≤ 0 then (μ 1) (231 + ix x) else 0)) : Option Value) = some (.int 0) from by simp [c1]) (by refine WW_eq ?_ ?_ ?_ ?_ ?_ ?_; exact (rfl : (lkA (μ 1) x) = (lkA (μ 1) x)); exact (rfl : (μ 1) = (μ 1)); exact (rfl : μ 2 = μ 2); exact (rfl : μ 3 0 = μ 3 0); exact (rfl : (μ 4) = (μ 4)); exact (rfl : (μ 5 0) = (μ 5 0)))

set_option maxHeartbeats 4000000 in
set_option maxRecDepth 100000 in
theorem k_X7_holder (E : kE) (l : Launch) (wr : va_W) (b : Nat → Nat) (μ : Sto) (a : Nat → Nat) (σ : Sto) (x : Int32) (v : Nat) (hX : MX (μ 1) v) : KM E l yX7_holder cX7_holder 2 (some .int) 3 65 0 0 [.ref (b 0), .int x] (WW E b μ a σ wr) (some (.int (if lkA (μ 1) x ≤ 0 then (bif inR ((μ 1) (231 + ix x)) 1 2 then (μ 1) (331 + ix x) else 0) else 0))) (WW E b (put μ 0 (sc (if lkA (μ 1) x ≤ 0 then (bif inR ((μ 1) (231 + ix x)) 1 2 then 0 else 2) else lkA (μ 1) x))) a σ wr) := by
  refine K_start (own := RX7) (by decide +kernel) rfl [(0, .ref (b 0)), (1, .int x)] rfl (Nat.le_of_ble_eq_true rfl) (fun p e s m below meth c X hr hin => ?_)
  refine g_aload_n X dX7_holder_0 1 rfl rfl ?_
  refine g_aload_n X dX7_holder_1 2 rfl rfl ?_
  refine g_iload_n X dX7_holder_2 3 rfl rfl ?_
  refine c_V X Lk_X7_115 (k_X7_lacks E l wr b μ a σ x v hX) dX7_holder_3 rfl 0 rfl rfl rfl (Nat.le_of_ble_eq_true rfl) ⟨(Nat.le_of_ble_eq_true rfl), (Nat.le_of_ble_eq_true rfl)⟩ ⟨(Nat.le_of_ble_eq_true rfl), (Nat.le_of_ble_eq_true rfl)⟩ 6 rfl [.int (lkA (μ 1) x), .ref (b 0)] rfl ?_
  refine g_put X FL_X7_19 fk_X7 dX7_holder_6 9 rfl rfl 0 rfl rfl rfl (Nat.le_of_ble_eq_true rfl) (WW E b (put μ 0 (sc (lkA (μ 1) x))) a σ wr) rfl ?_
  refine g_aload_n X dX7_holder_9 10 rfl rfl ?_
  refine g_get X FL_X7_19 dX7_holder_10 13 rfl 0 rfl (v := .int (lkA (μ 1) x)) rfl ?_
  refine g_if_le X dX7_holder_13 18 16 rfl rfl (fun c1 => ?_) (fun c1 => ?_)
  · skip
    have h0 := lkA_0 c1
    obtain ⟨j, hj, rfl⟩ := lkA_ok c1
    refine g_aload_n X dX7_holder_18 19 rfl rfl ?_
    refine g_get X FL_X7_9 dX7_holder_19 22 rfl 0 rfl (v := .ref (b 1)) rfl ?_
    refine g_sipush X dX7_holder_22 25 rfl (v := 231) rfl ?_
    refine g_iload_n X dX7_holder_25 26 rfl rfl ?_
    refine g_iaddN X dX7_holder_26 27 rfl 231 j rfl rfl ?_
    refine g_ialdN (j := (231 + j)) (f := (μ 1)) X dX7_holder_27 28 rfl 1 rfl (by omega) (by decide) ?_
    refine g_iconst X dX7_holder_28 29 rfl (v := 1) rfl ?_
    refine g_iconst X dX7_holder_29 30 rfl (v := 2) rfl ?_
    refine c_S X Lk_X7_23 (k_X7_in E l wr b (put μ 0 (sc (lkA (μ 1) (nI j)))) a σ (μ 1 (231 + j)) 1 2) dX7_holder_30 rfl rfl (Nat.le_of_ble_eq_true rfl) ⟨(Nat.le_of_ble_eq_true rfl), (Nat.le_of_ble_eq_true rfl)⟩ ⟨(Nat.le_of_ble_eq_true rfl), (Nat.le_of_ble_eq_true rfl)⟩ 33 rfl [.int (bi (inR (μ 1 (231 + j)) 1 2))] rfl ?_
    refine g_ifb_eq X dX7_holder_33 49 36 rfl rfl (fun c2 => ?_) (fun c2 => ?_)
    · skip
      refine g_aload_n X dX7_holder_49 50 rfl rfl ?_
      refine g_iconst X dX7_holder_50 51 rfl (v := 2) rfl ?_
      refine c_V X Lk_X7_41 (k_X7_raises E l wr b (put μ 0 (sc (lkA (μ 1) (nI j)))) a σ 2) dX7_holder_51 rfl 0 rfl rfl rfl (Nat.le_of_ble_eq_true rfl) ⟨(Nat.le_of_ble_eq_true rfl), (Nat.le_of_ble_eq_true rfl)⟩ ⟨(Nat.le_of_ble_eq_true rfl), (Nat.le_of_ble_eq_true rfl)⟩ 54 rfl [.int 0] rfl ?_
      exact g_iret X hr dX7_holder_54 () (show (some (.int (if lkA (μ 1) (nI j) ≤ 0 then (bif inR ((μ 1) (231 + ix (nI j))) 1 2 then (μ 1) (331 + ix (nI j)) else 0) else 0)) : Option Value) = some (.int 0) from by simp [ix, nI_clamp (show j < 2 ^ 31 by omega), h0, c1, c2]) (by refine WW_eq ?_ ?_ ?_ ?_ ?_ ?_; exact (show 2 = (if lkA (μ 1) (nI j) ≤ 0 then (bif inR ((μ 1) (231 + ix (nI j))) 1 2 then 0 else 2) else lkA (μ 1) (nI j)) from by simp [ix, nI_clamp (show j < 2 ^ 31 by omega), h0, c1, c2]); exact (rfl : (μ 1) = (μ 1)); exact (rfl : μ 2 = μ 2); exact (rfl : μ 3 0 = μ 3 0); exact (rfl : (μ 4) = (μ 4)); exact (rfl : (μ 5 0) = (μ 5 0)))
    · skip
      refine g_aload_n X dX7_holder_36 37 rfl rfl ?_
      refine g_get X FL_X7_9 dX7_holder_37 40 rfl 0 rfl (v := .ref (b 1)) rfl ?_
      refine g_sipush X dX7_holder_40 43 rfl (v := 331) rfl ?_
      refine g_iload_n X dX7_holder_43 44 rfl rfl ?_
      refine g_iaddN X dX7_holder_44 45 rfl 331 j rfl rfl ?_
      refine g_ialdN (j := (331 + j)) (f := (μ 1)) X dX7_holder_45 46 rfl 1 rfl (by omega) (by decide) ?_
      refine g_goto X dX7_holder_46 54 rfl ?_
      exact g_iret X hr dX7_holder_54 () (show (some (.int (if lkA (μ 1) (nI j) ≤ 0 then (bif inR ((μ 1) (231 + ix (nI j))) 1 2 then (μ 1) (331 + ix (nI j)) else 0) else 0)) : Option Value) = some (.int (μ 1 (331 + j))) from by simp [ix, nI_clamp (show j < 2 ^ 31 by omega), h0, c1, c2]) (by refine WW_eq ?_ ?_ ?_ ?_ ?_ ?_; exact (show (lkA (μ 1) (nI j)) = (if lkA (μ 1) (nI j) ≤ 0 then (bif inR ((μ 1) (231 + ix (nI j))) 1 2 then 0 else 2) else lkA (μ 1) (nI j)) from by simp [ix, nI_clamp (show j < 2 ^ 31 by omega), h0, c1, c2]); exact (rfl : (μ 1) = (μ 1)); exact (rfl : μ 2 = μ 2); exact (rfl : μ 3 0 = μ 3 0); exact (rfl : (μ 4) = (μ 4)); exact (rfl : (μ 5 0) = (μ 5 0)))
  · skip
    refine g_iconst X dX7_holder_16 17 rfl (v := 0) rfl ?_
    exact g_iret X hr dX7_holder_17 () (show (some (.int (if lkA (μ 1) x ≤ 0 then (bif inR ((μ 1) (231 + ix x)) 1 2 then (μ 1) (331 + ix x) else 0) else 0)) : Option Value) = some (.int 0) from by simp [c1]) (by refine WW_eq ?_ ?_ ?_ ?_ ?_ ?_; exact (show (lkA (μ 1) x) = (if lkA (μ 1) x ≤ 0 then (bif inR ((μ 1) (231 + ix x)) 1 2 then 0 else 2) else lkA (μ 1) x) from by simp [c1]); exact (rfl : (μ 1) = (μ 1)); exact (rfl : μ 2 = μ 2); exact (rfl : μ 3 0 = μ 3 0); exact (rfl : (μ 4) = (μ 4)); exact (rfl : (μ 5 0) = (μ 5 0)))

set_option maxHeartbeats 4000000 in
set_option maxRecDepth 100000 in
theorem k_X7_until (E : kE) (l : Launch) (wr : va_W) (b : Nat → Nat) (μ : Sto) (a : Nat → Nat) (σ : Sto) (x : Int32) (v : Nat) (hX : MX (μ 1) v) : KM E l yX7_until cX7_until 2 (some .int) 3 65 0 0 [.ref (b 0), .int x] (WW E b μ a σ wr) (some (.int (if lkA (μ 1) x ≤ 0 then (if (μ 1) (231 + ix x) = 0 then 0 else (μ 1) (431 + ix x)) else 0))) (WW E b (put μ 0 (sc (if lkA (μ 1) x ≤ 0 then (if (μ 1) (231 + ix x) = 0 then 2 else 0) else lkA (μ 1) x))) a σ wr) := by
  refine K_start (own := RX7) (by decide +kernel) rfl [(0, .ref (b 0)), (1, .int x)] rfl (Nat.le_of_ble_eq_true rfl) (fun p e s m below meth c X hr hin => ?_)
  refine g_aload_n X dX7_until_0 1 rfl rfl ?_
  refine g_aload_n X dX7_until_1 2 rfl rfl ?_
  refine g_iload_n X dX7_until_2 3 rfl rfl ?_
  refine c_V X Lk_X7_115 (k_X7_lacks E l wr b μ a σ x v hX) dX7_until_3 rfl 0 rfl rfl rfl (Nat.le_of_ble_eq_true rfl) ⟨(Nat.le_of_ble_eq_true rfl), (Nat.le_of_ble_eq_true rfl)⟩ ⟨(Nat.le_of_ble_eq_true rfl), (Nat.le_of_ble_eq_true rfl)⟩ 6 rfl [.int (lkA (μ 1) x), .ref (b 0)] rfl ?_
  refine g_put X FL_X7_19 fk_X7 dX7_until_6 9 rfl rfl 0 rfl rfl rfl (Nat.le_of_ble_eq_true rfl) (WW E b (put μ 0 (sc (lkA (μ 1) x))) a σ wr) rfl ?_
  refine g_aload_n X dX7_until_9 10 rfl rfl ?_
  refine g_get X FL_X7_19 dX7_until_10 13 rfl 0 rfl (v := .int (lkA (μ 1) x)) rfl ?_
  refine g_if_le X dX7_until_13 18 16 rfl rfl (fun c1 => ?_) (fun c1 => ?_)
  · skip
    have h0 := lkA_0 c1
    obtain ⟨j, hj, rfl⟩ := lkA_ok c1
    refine g_aload_n X dX7_until_18 19 rfl rfl ?_
    refine g_get X FL_X7_9 dX7_until_19 22 rfl 0 rfl (v := .ref (b 1)) rfl ?_
    refine g_sipush X dX7_until_22 25 rfl (v := 231) rfl ?_
    refine g_iload_n X dX7_until_25 26 rfl rfl ?_
    refine g_iaddN X dX7_until_26 27 rfl 231 j rfl rfl ?_
    refine g_ialdN (j := (231 + j)) (f := (μ 1)) X dX7_until_27 28 rfl 1 rfl (by omega) (by decide) ?_
    refine g_if_ne X dX7_until_28 39 31 rfl rfl (fun c2 => ?_) (fun c2 => ?_)
    · skip
      refine g_aload_n X dX7_until_39 40 rfl rfl ?_
      refine g_get X FL_X7_9 dX7_until_40 43 rfl 0 rfl (v := .ref (b 1)) rfl ?_
      refine g_sipush X dX7_until_43 46 rfl (v := 431) rfl ?_
      refine g_iload_n X dX7_until_46 47 rfl rfl ?_
      refine g_iaddN X dX7_until_47 48 rfl 431 j rfl rfl ?_
      refine g_ialdN (j := (431 + j)) (f := (μ 1)) X dX7_until_48 49 rfl 1 rfl (by omega) (by decide) ?_
      exact g_iret X hr dX7_until_49 () (show (some (.int (if lkA (μ 1) (nI j) ≤ 0 then (if (μ 1) (231 + ix (nI j)) = 0 then 0 else (μ 1) (431 + ix (nI j))) else 0)) : Option Value) = some (.int (μ 1 (431 + j))) from by simp [ix, nI_clamp (show j < 2 ^ 31 by omega), h0, c1, c2]) (by refine WW_eq ?_ ?_ ?_ ?_ ?_ ?_; exact (show (lkA (μ 1) (nI j)) = (if lkA (μ 1) (nI j) ≤ 0 then (if (μ 1) (231 + ix (nI j)) = 0 then 2 else 0) else lkA (μ 1) (nI j)) from by simp [ix, nI_clamp (show j < 2 ^ 31 by omega), h0, c1, c2]); exact (rfl : (μ 1) = (μ 1)); exact (rfl : μ 2 = μ 2); exact (rfl : μ 3 0 = μ 3 0); exact (rfl : (μ 4) = (μ 4)); exact (rfl : (μ 5 0) = (μ 5 0)))
    · skip
      refine g_aload_n X dX7_until_31 32 rfl rfl ?_
      refine g_iconst X dX7_until_32 33 rfl (v := 2) rfl ?_
      refine c_V X Lk_X7_41 (k_X7_raises E l wr b (put μ 0 (sc (lkA (μ 1) (nI j)))) a σ 2) dX7_until_33 rfl 0 rfl rfl rfl (Nat.le_of_ble_eq_true rfl) ⟨(Nat.le_of_ble_eq_true rfl), (Nat.le_of_ble_eq_true rfl)⟩ ⟨(Nat.le_of_ble_eq_true rfl), (Nat.le_of_ble_eq_true rfl)⟩ 36 rfl [.int 0] rfl ?_
      refine g_goto X dX7_until_36 49 rfl ?_
      exact g_iret X hr dX7_until_49 () (show (some (.int (if lkA (μ 1) (nI j) ≤ 0 then (if (μ 1) (231 + ix (nI j)) = 0 then 0 else (μ 1) (431 + ix (nI j))) else 0)) : Option Value) = some (.int 0) from by simp [ix, nI_clamp (show j < 2 ^ 31 by omega), h0, c1, c2]) (by refine WW_eq ?_ ?_ ?_ ?_ ?_ ?_; exact (show 2 = (if lkA (μ 1) (nI j) ≤ 0 then (if (μ 1) (231 + ix (nI j)) = 0 then 2 else 0) else lkA (μ 1) (nI j)) from by simp [ix, nI_clamp (show j < 2 ^ 31 by omega), h0, c1, c2]); exact (rfl : (μ 1) = (μ 1)); exact (rfl : μ 2 = μ 2); exact (rfl : μ 3 0 = μ 3 0); exact (rfl : (μ 4) = (μ 4)); exact (rfl : (μ 5 0) = (μ 5 0)))
  · skip
    refine g_iconst X dX7_until_16 17 rfl (v := 0) rfl ?_
    exact g_iret X hr dX7_until_17 () (show (some (.int (if lkA (μ 1) x ≤ 0 then (if (μ 1) (231 + ix x) = 0 then 0 else (μ 1) (431 + ix x)) else 0)) : Option Value) = some (.int 0) from by simp [c1]) (by refine WW_eq ?_ ?_ ?_ ?_ ?_ ?_; exact (show (lkA (μ 1) x) = (if lkA (μ 1) x ≤ 0 then (if (μ 1) (231 + ix x) = 0 then 2 else 0) else lkA (μ 1) x) from by simp [c1]); exact (rfl : (μ 1) = (μ 1)); exact (rfl : μ 2 = μ 2); exact (rfl : μ 3 0 = μ 3 0); exact (rfl : (μ 4) = (μ 4)); exact (rfl : (μ 5 0) = (μ 5 0)))

set_option maxHeartbeats 4000000 in
set_option maxRecDepth 100000 in
theorem k_X7_freeSince (E : kE) (l : Launch) (wr : va_W) (b : Nat → Nat) (μ : Sto) (a : Nat → Nat) (σ : Sto) (x : Int32) (v : Nat) (hX : MX (μ 1) v) : KM E l yX7_freeSince cX7_freeSince 2 (some .int) 3 65 0 0 [.ref (b 0), .int x] (WW E b μ a σ wr) (some (.int (if lkA (μ 1) x ≤ 0 then (if (μ 1) (231 + ix x) = 0 then (μ 1) (531 + ix x) else 0) else 0))) (WW E b (put μ 0 (sc (if lkA (μ 1) x ≤ 0 then (if (μ 1) (231 + ix x) = 0 then 0 else 2) else lkA (μ 1) x))) a σ wr) := by
  refine K_start (own := RX7) (by decide +kernel) rfl [(0, .ref (b 0)), (1, .int x)] rfl (Nat.le_of_ble_eq_true rfl) (fun p e s m below meth c X hr hin => ?_)
  refine g_aload_n X dX7_freeSince_0 1 rfl rfl ?_
  refine g_aload_n X dX7_freeSince_1 2 rfl rfl ?_
  refine g_iload_n X dX7_freeSince_2 3 rfl rfl ?_
  refine c_V X Lk_X7_115 (k_X7_lacks E l wr b μ a σ x v hX) dX7_freeSince_3 rfl 0 rfl rfl rfl (Nat.le_of_ble_eq_true rfl) ⟨(Nat.le_of_ble_eq_true rfl), (Nat.le_of_ble_eq_true rfl)⟩ ⟨(Nat.le_of_ble_eq_true rfl), (Nat.le_of_ble_eq_true rfl)⟩ 6 rfl [.int (lkA (μ 1) x), .ref (b 0)] rfl ?_
  refine g_put X FL_X7_19 fk_X7 dX7_freeSince_6 9 rfl rfl 0 rfl rfl rfl (Nat.le_of_ble_eq_true rfl) (WW E b (put μ 0 (sc (lkA (μ 1) x))) a σ wr) rfl ?_
  refine g_aload_n X dX7_freeSince_9 10 rfl rfl ?_
  refine g_get X FL_X7_19 dX7_freeSince_10 13 rfl 0 rfl (v := .int (lkA (μ 1) x)) rfl ?_
  refine g_if_le X dX7_freeSince_13 18 16 rfl rfl (fun c1 => ?_) (fun c1 => ?_)
  · skip
    have h0 := lkA_0 c1
    obtain ⟨j, hj, rfl⟩ := lkA_ok c1
    refine g_aload_n X dX7_freeSince_18 19 rfl rfl ?_
    refine g_get X FL_X7_9 dX7_freeSince_19 22 rfl 0 rfl (v := .ref (b 1)) rfl ?_
    refine g_sipush X dX7_freeSince_22 25 rfl (v := 231) rfl ?_
    refine g_iload_n X dX7_freeSince_25 26 rfl rfl ?_
    refine g_iaddN X dX7_freeSince_26 27 rfl 231 j rfl rfl ?_
    refine g_ialdN (j := (231 + j)) (f := (μ 1)) X dX7_freeSince_27 28 rfl 1 rfl (by omega) (by decide) ?_
    refine g_if_ne X dX7_freeSince_28 44 31 rfl rfl (fun c2 => ?_) (fun c2 => ?_)
    · skip
      refine g_aload_n X dX7_freeSince_44 45 rfl rfl ?_
      refine g_iconst X dX7_freeSince_45 46 rfl (v := 2) rfl ?_
      refine c_V X Lk_X7_41 (k_X7_raises E l wr b (put μ 0 (sc (lkA (μ 1) (nI j)))) a σ 2) dX7_freeSince_46 rfl 0 rfl rfl rfl (Nat.le_of_ble_eq_true rfl) ⟨(Nat.le_of_ble_eq_true rfl), (Nat.le_of_ble_eq_true rfl)⟩ ⟨(Nat.le_of_ble_eq_true rfl), (Nat.le_of_ble_eq_true rfl)⟩ 49 rfl [.int 0] rfl ?_
      exact g_iret X hr dX7_freeSince_49 () (show (some (.int (if lkA (μ 1) (nI j) ≤ 0 then (if (μ 1) (231 + ix (nI j)) = 0 then (μ 1) (531 + ix (nI j)) else 0) else 0)) : Option Value) = some (.int 0) from by simp [ix, nI_clamp (show j < 2 ^ 31 by omega), h0, c1, c2]) (by refine WW_eq ?_ ?_ ?_ ?_ ?_ ?_; exact (show 2 = (if lkA (μ 1) (nI j) ≤ 0 then (if (μ 1) (231 + ix (nI j)) = 0 then 0 else 2) else lkA (μ 1) (nI j)) from by simp [ix, nI_clamp (show j < 2 ^ 31 by omega), h0, c1, c2]); exact (rfl : (μ 1) = (μ 1)); exact (rfl : μ 2 = μ 2); exact (rfl : μ 3 0 = μ 3 0); exact (rfl : (μ 4) = (μ 4)); exact (rfl : (μ 5 0) = (μ 5 0)))
    · skip
      refine g_aload_n X dX7_freeSince_31 32 rfl rfl ?_
      refine g_get X FL_X7_9 dX7_freeSince_32 35 rfl 0 rfl (v := .ref (b 1)) rfl ?_
      refine g_sipush X dX7_freeSince_35 38 rfl (v := 531) rfl ?_
      refine g_iload_n X dX7_freeSince_38 39 rfl rfl ?_
      refine g_iaddN X dX7_freeSince_39 40 rfl 531 j rfl rfl ?_
      refine g_ialdN (j := (531 + j)) (f := (μ 1)) X dX7_freeSince_40 41 rfl 1 rfl (by omega) (by decide) ?_
      refine g_goto X dX7_freeSince_41 49 rfl ?_
      exact g_iret X hr dX7_freeSince_49 () (show (some (.int (if lkA (μ 1) (nI j) ≤ 0 then (if (μ 1) (231 + ix (nI j)) = 0 then (μ 1) (531 + ix (nI j)) else 0) else 0)) : Option Value) = some (.int (μ 1 (531 + j))) from by simp [ix, nI_clamp (show j < 2 ^ 31 by omega), h0, c1, c2]) (by refine WW_eq ?_ ?_ ?_ ?_ ?_ ?_; exact (show (lkA (μ 1) (nI j)) = (if lkA (μ 1) (nI j) ≤ 0 then (if (μ 1) (231 + ix (nI j)) = 0 then 0 else 2) else lkA (μ 1) (nI j)) from by simp [ix, nI_clamp (show j < 2 ^ 31 by omega), h0, c1, c2]); exact (rfl : (μ 1) = (μ 1)); exact (rfl : μ 2 = μ 2); exact (rfl : μ 3 0 = μ 3 0); exact (rfl : (μ 4) = (μ 4)); exact (rfl : (μ 5 0) = (μ 5 0)))
  · skip
    refine g_iconst X dX7_freeSince_16 17 rfl (v := 0) rfl ?_
    exact g_iret X hr dX7_freeSince_17 () (show (some (.int (if lkA (μ 1) x ≤ 0 then (if (μ 1) (231 + ix x) = 0 then (μ 1) (531 + ix x) else 0) else 0)) : Option Value) = some (.int 0) from by simp [c1]) (by refine WW_eq ?_ ?_ ?_ ?_ ?_ ?_; exact (show (lkA (μ 1) x) = (if lkA (μ 1) x ≤ 0 then (if (μ 1) (231 + ix x) = 0 then 0 else 2) else lkA (μ 1) x) from by simp [c1]); exact (rfl : (μ 1) = (μ 1)); exact (rfl : μ 2 = μ 2); exact (rfl : μ 3 0 = μ 3 0); exact (rfl : (μ 4) = (μ 4)); exact (rfl : (μ 5 0) = (μ 5 0)))

set_option maxHeartbeats 4000000 in
set_option maxRecDepth 100000 in
theorem k_X7_nextCandidate (E : kE) (l : Launch) (wr : va_W) (b : Nat → Nat) (μ : Sto) (a : Nat → Nat) (σ : Sto) (x : Int32) (g : Int32) (v : Nat) (hX : MX (μ 1) v) : KM E l yX7_nextCandidate cX7_nextCandidate 4 (some .int) 5 114 0 0 [.ref (b 0), .int x, .int g] (WW E b μ a σ wr) (some (.int (bif ncB x g then (if 0 ≤ caM (μ 1) (ix x) g (-1) then caM (μ 1) (ix x) g (-1) else 0) else 0))) (WW E b (put μ 0 (sc (bif ncB x g then (if 0 ≤ caM (μ 1) (ix x) g (-1) then 0 else 2) else 1))) a σ wr) := by
  refine K_start (own := RX7) (by decide +kernel) rfl [(0, .ref (b 0)), (1, .int x), (2, .int g)] rfl (Nat.le_of_ble_eq_true rfl) (fun p e s m below meth c X hr hin => ?_)
  refine g_aload_n X dX7_nextCandidate_0 1 rfl rfl ?_
  refine g_iconst X dX7_nextCandidate_1 2 rfl (v := 0) rfl ?_
  refine g_put X FL_X7_19 fk_X7 dX7_nextCandidate_2 5 rfl rfl 0 rfl rfl rfl (Nat.le_of_ble_eq_true rfl) (WW E b (put μ 0 (sc 0)) a σ wr) rfl ?_
  refine g_iload_n X dX7_nextCandidate_5 6 rfl rfl ?_
  refine c_S X Lk_X7_65 (k_X7_isClient E l wr b (put μ 0 (sc 0)) a σ x) dX7_nextCandidate_6 rfl rfl (Nat.le_of_ble_eq_true rfl) ⟨(Nat.le_of_ble_eq_true rfl), (Nat.le_of_ble_eq_true rfl)⟩ ⟨(Nat.le_of_ble_eq_true rfl), (Nat.le_of_ble_eq_true rfl)⟩ 9 rfl [.int (bi (inR x 0 19))] rfl ?_
  refine g_ifb_eq X dX7_nextCandidate_9 19 12 rfl rfl (fun c1 => ?_) (fun c1 => ?_)
  · skip
    refine g_aload_n X dX7_nextCandidate_19 20 rfl rfl ?_
    refine g_iconst X dX7_nextCandidate_20 21 rfl (v := 1) rfl ?_
    refine c_V X Lk_X7_41 (k_X7_raises E l wr b (put μ 0 (sc 0)) a σ 1) dX7_nextCandidate_21 rfl 0 rfl rfl rfl (Nat.le_of_ble_eq_true rfl) ⟨(Nat.le_of_ble_eq_true rfl), (Nat.le_of_ble_eq_true rfl)⟩ ⟨(Nat.le_of_ble_eq_true rfl), (Nat.le_of_ble_eq_true rfl)⟩ 24 rfl [.int 0] rfl ?_
    exact g_iret X hr dX7_nextCandidate_24 () (show (some (.int (bif ncB x g then (if 0 ≤ caM (μ 1) (ix x) g (-1) then caM (μ 1) (ix x) g (-1) else 0) else 0)) : Option Value) = some (.int 0) from by simp [ncB, c1]) (by refine WW_eq ?_ ?_ ?_ ?_ ?_ ?_; exact (show 1 = (bif ncB x g then (if 0 ≤ caM (μ 1) (ix x) g (-1) then 0 else 2) else 1) from by simp [ncB, c1]); exact (rfl : (μ 1) = (μ 1)); exact (rfl : μ 2 = μ 2); exact (rfl : μ 3 0 = μ 3 0); exact (rfl : (μ 4) = (μ 4)); exact (rfl : (μ 5 0) = (μ 5 0)))
  · skip
    refine g_iload_n X dX7_nextCandidate_12 13 rfl rfl ?_
    refine c_S X Lk_X7_37 (k_X7_isGroup E l wr b (put μ 0 (sc 0)) a σ g) dX7_nextCandidate_13 rfl rfl (Nat.le_of_ble_eq_true rfl) ⟨(Nat.le_of_ble_eq_true rfl), (Nat.le_of_ble_eq_true rfl)⟩ ⟨(Nat.le_of_ble_eq_true rfl), (Nat.le_of_ble_eq_true rfl)⟩ 16 rfl [.int (bi (inR g 0 2))] rfl ?_
    refine g_ifb_ne X dX7_nextCandidate_16 25 19 rfl rfl (fun c2 => ?_) (fun c2 => ?_)
    · skip
      obtain ⟨j, hj, rfl⟩ := inR_19 c1
      refine g_aload_n X dX7_nextCandidate_25 26 rfl rfl ?_
      refine g_iload_n X dX7_nextCandidate_26 27 rfl rfl ?_
      refine g_iload_n X dX7_nextCandidate_27 28 rfl rfl ?_
      refine g_iconst X dX7_nextCandidate_28 29 rfl (v := -1) rfl ?_
      refine c_V X Lk_X7_75 (k_X7_candidate E l wr b (put μ 0 (sc 0)) a σ j g (-1) v hX (by first | omega | assumption)) dX7_nextCandidate_29 rfl 0 rfl rfl rfl (Nat.le_of_ble_eq_true rfl) ⟨(Nat.le_of_ble_eq_true rfl), (Nat.le_of_ble_eq_true rfl)⟩ ⟨(Nat.le_of_ble_eq_true rfl), (Nat.le_of_ble_eq_true rfl)⟩ 32 rfl [.int (caM (μ 1) j g (-1))] rfl ?_
      refine g_istore_n X dX7_nextCandidate_32 33 rfl (by decide) [(3, .int (caM (μ 1) j g (-1))), (0, .ref (b 0)), (1, .int (nI j)), (2, .int g)] rfl ?_
      refine g_iload_n X dX7_nextCandidate_33 34 rfl rfl ?_
      refine g_if_ge X dX7_nextCandidate_34 45 37 rfl rfl (fun c3 => ?_) (fun c3 => ?_)
      · skip
        refine g_iload_n X dX7_nextCandidate_45 46 rfl rfl ?_
        exact g_iret X hr dX7_nextCandidate_46 () (show (some (.int (bif ncB (nI j) g then (if 0 ≤ caM (μ 1) (ix (nI j)) g (-1) then caM (μ 1) (ix (nI j)) g (-1) else 0) else 0)) : Option Value) = some (.int (caM (μ 1) j g (-1))) from by simp [ncB, ix, nI_clamp (show j < 2 ^ 31 by omega), c1, c2, c3]) (by refine WW_eq ?_ ?_ ?_ ?_ ?_ ?_; exact (show 0 = (bif ncB (nI j) g then (if 0 ≤ caM (μ 1) (ix (nI j)) g (-1) then 0 else 2) else 1) from by simp [ncB, ix, nI_clamp (show j < 2 ^ 31 by omega), c1, c2, c3]); exact (rfl : (μ 1) = (μ 1)); exact (rfl : μ 2 = μ 2); exact (rfl : μ 3 0 = μ 3 0); exact (rfl : (μ 4) = (μ 4)); exact (rfl : (μ 5 0) = (μ 5 0)))
      · skip
        refine g_aload_n X dX7_nextCandidate_37 38 rfl rfl ?_
        refine g_iconst X dX7_nextCandidate_38 39 rfl (v := 2) rfl ?_
        refine c_V X Lk_X7_41 (k_X7_raises E l wr b (put μ 0 (sc 0)) a σ 2) dX7_nextCandidate_39 rfl 0 rfl rfl rfl (Nat.le_of_ble_eq_true rfl) ⟨(Nat.le_of_ble_eq_true rfl), (Nat.le_of_ble_eq_true rfl)⟩ ⟨(Nat.le_of_ble_eq_true rfl), (Nat.le_of_ble_eq_true rfl)⟩ 42 rfl [.int 0] rfl ?_
        refine g_goto X dX7_nextCandidate_42 46 rfl ?_
        exact g_iret X hr dX7_nextCandidate_46 () (show (some (.int (bif ncB (nI j) g then (if 0 ≤ caM (μ 1) (ix (nI j)) g (-1) then caM (μ 1) (ix (nI j)) g (-1) else 0) else 0)) : Option Value) = some (.int 0) from by simp [ncB, ix, nI_clamp (show j < 2 ^ 31 by omega), c1, c2, c3]) (by refine WW_eq ?_ ?_ ?_ ?_ ?_ ?_; exact (show 2 = (bif ncB (nI j) g then (if 0 ≤ caM (μ 1) (ix (nI j)) g (-1) then 0 else 2) else 1) from by simp [ncB, ix, nI_clamp (show j < 2 ^ 31 by omega), c1, c2, c3]); exact (rfl : (μ 1) = (μ 1)); exact (rfl : μ 2 = μ 2); exact (rfl : μ 3 0 = μ 3 0); exact (rfl : (μ 4) = (μ 4)); exact (rfl : (μ 5 0) = (μ 5 0)))
    · skip
      refine g_aload_n X dX7_nextCandidate_19 20 rfl rfl ?_
      refine g_iconst X dX7_nextCandidate_20 21 rfl (v := 1) rfl ?_
      refine c_V X Lk_X7_41 (k_X7_raises E l wr b (put μ 0 (sc 0)) a σ 1) dX7_nextCandidate_21 rfl 0 rfl rfl rfl (Nat.le_of_ble_eq_true rfl) ⟨(Nat.le_of_ble_eq_true rfl), (Nat.le_of_ble_eq_true rfl)⟩ ⟨(Nat.le_of_ble_eq_true rfl), (Nat.le_of_ble_eq_true rfl)⟩ 24 rfl [.int 0] rfl ?_
      exact g_iret X hr dX7_nextCandidate_24 () (show (some (.int (bif ncB x g then (if 0 ≤ caM (μ 1) (ix x) g (-1) then caM (μ 1) (ix x) g (-1) else 0) else 0)) : Option Value) = some (.int 0) from by simp [ncB, c1, c2]) (by refine WW_eq ?_ ?_ ?_ ?_ ?_ ?_; exact (show 1 = (bif ncB x g then (if 0 ≤ caM (μ 1) (ix x) g (-1) then 0 else 2) else 1) from by simp [ncB, c1, c2]); exact (rfl : (μ 1) = (μ 1)); exact (rfl : μ 2 = μ 2); exact (rfl : μ 3 0 = μ 3 0); exact (rfl : (μ 4) = (μ 4)); exact (rfl : (μ 5 0) = (μ 5 0)))

set_option maxHeartbeats 4000000 in
set_option maxRecDepth 100000 in
theorem k_X7_countState (E : kE) (l : Launch) (wr : va_W) (b : Nat → Nat) (μ : Sto) (a : Nat → Nat) (σ : Sto) (g : Int32) (y : Int32) (v : Nat) (hX : MX (μ 1) v) : KM E l yX7_countState cX7_countState 3 (some .int) 4 90 0 0 [.ref (b 0), .int g, .int y] (WW E b μ a σ wr) (some (.int (bif inR g 0 2 then (bif inR y 0 3 then cuM (μ 1) g y else 0) else 0))) (WW E b (put μ 0 (sc (bif inR g 0 2 then (bif inR y 0 3 then 0 else 2) else 1))) a σ wr) := by
  refine K_start (own := RX7) (by decide +kernel) rfl [(0, .ref (b 0)), (1, .int g), (2, .int y)] rfl (Nat.le_of_ble_eq_true rfl) (fun p e s m below meth c X hr hin => ?_)
  refine g_aload_n X dX7_countState_0 1 rfl rfl ?_
  refine g_iconst X dX7_countState_1 2 rfl (v := 0) rfl ?_
  refine g_put X FL_X7_19 fk_X7 dX7_countState_2 5 rfl rfl 0 rfl rfl rfl (Nat.le_of_ble_eq_true rfl) (WW E b (put μ 0 (sc 0)) a σ wr) rfl ?_
  refine g_iload_n X dX7_countState_5 6 rfl rfl ?_
  refine c_S X Lk_X7_37 (k_X7_isGroup E l wr b (put μ 0 (sc 0)) a σ g) dX7_countState_6 rfl rfl (Nat.le_of_ble_eq_true rfl) ⟨(Nat.le_of_ble_eq_true rfl), (Nat.le_of_ble_eq_true rfl)⟩ ⟨(Nat.le_of_ble_eq_true rfl), (Nat.le_of_ble_eq_true rfl)⟩ 9 rfl [.int (bi (inR g 0 2))] rfl ?_
  refine g_ifb_ne X dX7_countState_9 18 12 rfl rfl (fun c1 => ?_) (fun c1 => ?_)
  · skip
    refine g_iload_n X dX7_countState_18 19 rfl rfl ?_
    refine g_iconst X dX7_countState_19 20 rfl (v := 0) rfl ?_
    refine g_iconst X dX7_countState_20 21 rfl (v := 3) rfl ?_
    refine c_S X Lk_X7_23 (k_X7_in E l wr b (put μ 0 (sc 0)) a σ y 0 3) dX7_countState_21 rfl rfl (Nat.le_of_ble_eq_true rfl) ⟨(Nat.le_of_ble_eq_true rfl), (Nat.le_of_ble_eq_true rfl)⟩ ⟨(Nat.le_of_ble_eq_true rfl), (Nat.le_of_ble_eq_true rfl)⟩ 24 rfl [.int (bi (inR y 0 3))] rfl ?_
    refine g_ifb_eq X dX7_countState_24 36 27 rfl rfl (fun c2 => ?_) (fun c2 => ?_)
    · skip
      refine g_aload_n X dX7_countState_36 37 rfl rfl ?_
      refine g_iconst X dX7_countState_37 38 rfl (v := 2) rfl ?_
      refine c_V X Lk_X7_41 (k_X7_raises E l wr b (put μ 0 (sc 0)) a σ 2) dX7_countState_38 rfl 0 rfl rfl rfl (Nat.le_of_ble_eq_true rfl) ⟨(Nat.le_of_ble_eq_true rfl), (Nat.le_of_ble_eq_true rfl)⟩ ⟨(Nat.le_of_ble_eq_true rfl), (Nat.le_of_ble_eq_true rfl)⟩ 41 rfl [.int 0] rfl ?_
      exact g_iret X hr dX7_countState_41 () (show (some (.int (bif inR g 0 2 then (bif inR y 0 3 then cuM (μ 1) g y else 0) else 0)) : Option Value) = some (.int 0) from by simp [c1, c2]) (by refine WW_eq ?_ ?_ ?_ ?_ ?_ ?_; exact (show 2 = (bif inR g 0 2 then (bif inR y 0 3 then 0 else 2) else 1) from by simp [c1, c2]); exact (rfl : (μ 1) = (μ 1)); exact (rfl : μ 2 = μ 2); exact (rfl : μ 3 0 = μ 3 0); exact (rfl : (μ 4) = (μ 4)); exact (rfl : (μ 5 0) = (μ 5 0)))
    · skip
      refine g_aload_n X dX7_countState_27 28 rfl rfl ?_
      refine g_iload_n X dX7_countState_28 29 rfl rfl ?_
      refine g_iload_n X dX7_countState_29 30 rfl rfl ?_
      refine c_V X Lk_X7_118 (k_X7_count E l wr b (put μ 0 (sc 0)) a σ g y v hX) dX7_countState_30 rfl 0 rfl rfl rfl (Nat.le_of_ble_eq_true rfl) ⟨(Nat.le_of_ble_eq_true rfl), (Nat.le_of_ble_eq_true rfl)⟩ ⟨(Nat.le_of_ble_eq_true rfl), (Nat.le_of_ble_eq_true rfl)⟩ 33 rfl [.int (cuM (μ 1) g y)] rfl ?_
      refine g_goto X dX7_countState_33 41 rfl ?_
      exact g_iret X hr dX7_countState_41 () (show (some (.int (bif inR g 0 2 then (bif inR y 0 3 then cuM (μ 1) g y else 0) else 0)) : Option Value) = some (.int (cuM (μ 1) g y)) from by simp [c1, c2]) (by refine WW_eq ?_ ?_ ?_ ?_ ?_ ?_; exact (show 0 = (bif inR g 0 2 then (bif inR y 0 3 then 0 else 2) else 1) from by simp [c1, c2]); exact (rfl : (μ 1) = (μ 1)); exact (rfl : μ 2 = μ 2); exact (rfl : μ 3 0 = μ 3 0); exact (rfl : (μ 4) = (μ 4)); exact (rfl : (μ 5 0) = (μ 5 0)))
  · skip
    refine g_aload_n X dX7_countState_12 13 rfl rfl ?_
    refine g_iconst X dX7_countState_13 14 rfl (v := 1) rfl ?_
    refine c_V X Lk_X7_41 (k_X7_raises E l wr b (put μ 0 (sc 0)) a σ 1) dX7_countState_14 rfl 0 rfl rfl rfl (Nat.le_of_ble_eq_true rfl) ⟨(Nat.le_of_ble_eq_true rfl), (Nat.le_of_ble_eq_true rfl)⟩ ⟨(Nat.le_of_ble_eq_true rfl), (Nat.le_of_ble_eq_true rfl)⟩ 17 rfl [.int 0] rfl ?_
    exact g_iret X hr dX7_countState_17 () (show (some (.int (bif inR g 0 2 then (bif inR y 0 3 then cuM (μ 1) g y else 0) else 0)) : Option Value) = some (.int 0) from by simp [c1]) (by refine WW_eq ?_ ?_ ?_ ?_ ?_ ?_; exact (show 1 = (bif inR g 0 2 then (bif inR y 0 3 then 0 else 2) else 1) from by simp [c1]); exact (rfl : (μ 1) = (μ 1)); exact (rfl : μ 2 = μ 2); exact (rfl : μ 3 0 = μ 3 0); exact (rfl : (μ 4) = (μ 4)); exact (rfl : (μ 5 0) = (μ 5 0)))

set_option maxHeartbeats 4000000 in
set_option maxRecDepth 100000 in
theorem k_X7_log (E : kE) (l : Launch) (wr : va_W) (b : Nat → Nat) (μ : Sto) (a : Nat → Nat) (σ : Sto) (x : Int32) (hL : LG (μ 5 0)) : KM E l yX7_log cX7_log 2 (some .int) 1 22 0 0 [.ref (b 0), .int x] (WW E b μ a σ wr) (some (.int (bif inR x 0 ((μ 5 0) - 1) then (μ 4) (ix x) else 0))) (WW E b (put μ 0 (sc (bif inR x 0 ((μ 5 0) - 1) then 0 else 1))) a σ wr) := by
  refine K_start (own := RX7) (by decide +kernel) rfl [(0, .ref (b 0)), (1, .int x)] rfl (Nat.le_of_ble_eq_true rfl) (fun p e s m below meth c X hr hin => ?_)
  refine g_aload_n X dX7_log_0 1 rfl rfl ?_
  refine g_iconst X dX7_log_1 2 rfl (v := 0) rfl ?_
  refine g_put X FL_X7_19 fk_X7 dX7_log_2 5 rfl rfl 0 rfl rfl rfl (Nat.le_of_ble_eq_true rfl) (WW E b (put μ 0 (sc 0)) a σ wr) rfl ?_
  refine g_iload_n X dX7_log_5 6 rfl rfl ?_
  refine g_iconst X dX7_log_6 7 rfl (v := 0) rfl ?_
  refine g_aload_n X dX7_log_7 8 rfl rfl ?_
  refine g_get X FL_X7_27 dX7_log_8 11 rfl 0 rfl (v := .int (μ 5 0)) rfl ?_
  refine g_iconst X dX7_log_11 12 rfl (v := 1) rfl ?_
  refine g_isub X dX7_log_12 13 rfl ?_
  refine c_S X Lk_X7_23 (k_X7_in E l wr b (put μ 0 (sc 0)) a σ x 0 ((μ 5 0) - 1)) dX7_log_13 rfl rfl (Nat.le_of_ble_eq_true rfl) ⟨(Nat.le_of_ble_eq_true rfl), (Nat.le_of_ble_eq_true rfl)⟩ ⟨(Nat.le_of_ble_eq_true rfl), (Nat.le_of_ble_eq_true rfl)⟩ 16 rfl [.int (bi (inR x 0 ((μ 5 0) - 1)))] rfl ?_
  refine g_ifb_eq X dX7_log_16 28 19 rfl rfl (fun c1 => ?_) (fun c1 => ?_)
  · skip
    refine g_aload_n X dX7_log_28 29 rfl rfl ?_
    refine g_iconst X dX7_log_29 30 rfl (v := 1) rfl ?_
    refine c_V X Lk_X7_41 (k_X7_raises E l wr b (put μ 0 (sc 0)) a σ 1) dX7_log_30 rfl 0 rfl rfl rfl (Nat.le_of_ble_eq_true rfl) ⟨(Nat.le_of_ble_eq_true rfl), (Nat.le_of_ble_eq_true rfl)⟩ ⟨(Nat.le_of_ble_eq_true rfl), (Nat.le_of_ble_eq_true rfl)⟩ 33 rfl [.int 0] rfl ?_
    exact g_iret X hr dX7_log_33 () (show (some (.int (bif inR x 0 ((μ 5 0) - 1) then (μ 4) (ix x) else 0)) : Option Value) = some (.int 0) from by simp [c1]) (by refine WW_eq ?_ ?_ ?_ ?_ ?_ ?_; exact (show 1 = (bif inR x 0 ((μ 5 0) - 1) then 0 else 1) from by simp [c1]); exact (rfl : (μ 1) = (μ 1)); exact (rfl : μ 2 = μ 2); exact (rfl : μ 3 0 = μ 3 0); exact (rfl : (μ 4) = (μ 4)); exact (rfl : (μ 5 0) = (μ 5 0)))
  · skip
    refine g_aload_n X dX7_log_19 20 rfl rfl ?_
    refine g_get X FL_X7_16 dX7_log_20 23 rfl 0 rfl (v := .ref (b 3)) rfl ?_
    refine g_iload_n X dX7_log_23 24 rfl rfl ?_
    obtain ⟨n, hn, hl⟩ := hL
    obtain ⟨t, ht, hx⟩ : ∃ t, t < 30 ∧ x = nI t := lg_ok hn hl c1
    refine g_top (nI t) hx ?_
    refine g_ialdN (j := t) (f := (μ 4)) X dX7_log_24 25 rfl 3 rfl (by omega) (by decide) ?_
    refine g_goto X dX7_log_25 33 rfl ?_
    exact g_iret X hr dX7_log_33 () (show (some (.int (bif inR x 0 ((μ 5 0) - 1) then (μ 4) (ix x) else 0)) : Option Value) = some (.int (μ 4 t)) from by simp [← hx, show ix x = t from by rw [hx, ixn (by omega)], c1]) (by refine WW_eq ?_ ?_ ?_ ?_ ?_ ?_; exact (show 0 = (bif inR x 0 ((μ 5 0) - 1) then 0 else 1) from by simp [c1]); exact (rfl : (μ 1) = (μ 1)); exact (rfl : μ 2 = μ 2); exact (rfl : μ 3 0 = μ 3 0); exact (rfl : (μ 4) = (μ 4)); exact (rfl : (μ 5 0) = (μ 5 0)))

set_option maxHeartbeats 4000000 in
set_option maxRecDepth 100000 in
theorem k_X7_pool_ (E : kE) (l : Launch) (wr : va_W) (b : Nat → Nat) (μ : Sto) (a : Nat → Nat) (σ : Sto) (x : Int32) (q : Int32) (v : Nat) (hX : MX (μ 1) v) : KM E l yX7_pool_ cX7_pool_ 5 (some .int) 4 88 0 0 [.ref (b 0), .int x, .int q] (WW E b μ a σ wr) (some (.int (bif inR x 0 ((μ 1) 4 - 1) then (bif inR q 0 4 then (if 4 ≤ q then plL (μ 1) ((μ 1) (5 + 4 * ix x + 2)) ((μ 1) (5 + 4 * ix x)) (ix ((μ 1) (5 + 4 * ix x + 1))) (100 - ix ((μ 1) (5 + 4 * ix x + 1))) 0 else (μ 1) (5 + 4 * ix x + ix q)) else 0) else 0))) (WW E b (put μ 0 (sc (bif inR x 0 ((μ 1) 4 - 1) then (bif inR q 0 4 then 0 else 2) else 1))) a σ wr) := by
  refine K_start (own := RX7) (by decide +kernel) rfl [(0, .ref (b 0)), (1, .int x), (2, .int q)] rfl (Nat.le_of_ble_eq_true rfl) (fun p e s m below meth c X hr hin => ?_)
  refine g_aload_n X dX7_pool__0 1 rfl rfl ?_
  refine g_iconst X dX7_pool__1 2 rfl (v := 0) rfl ?_
  refine g_put X FL_X7_19 fk_X7 dX7_pool__2 5 rfl rfl 0 rfl rfl rfl (Nat.le_of_ble_eq_true rfl) (WW E b (put μ 0 (sc 0)) a σ wr) rfl ?_
  refine g_aload_n X dX7_pool__5 6 rfl rfl ?_
  refine g_iload_n X dX7_pool__6 7 rfl rfl ?_
  refine c_V X Lk_X7_47 (k_X7_isPool E l wr b (put μ 0 (sc 0)) a σ x) dX7_pool__7 rfl 0 rfl rfl rfl (Nat.le_of_ble_eq_true rfl) ⟨(Nat.le_of_ble_eq_true rfl), (Nat.le_of_ble_eq_true rfl)⟩ ⟨(Nat.le_of_ble_eq_true rfl), (Nat.le_of_ble_eq_true rfl)⟩ 10 rfl [.int (bi (inR x 0 ((μ 1) 4 - 1)))] rfl ?_
  refine g_ifb_ne X dX7_pool__10 19 13 rfl rfl (fun c1 => ?_) (fun c1 => ?_)
  · skip
    obtain ⟨j, hj, rfl⟩ := isP_ok hX c1
    have hv5 := hX.hv
    refine g_iload_n X dX7_pool__19 20 rfl rfl ?_
    refine g_iconst X dX7_pool__20 21 rfl (v := 0) rfl ?_
    refine g_iconst X dX7_pool__21 22 rfl (v := 4) rfl ?_
    refine c_S X Lk_X7_23 (k_X7_in E l wr b (put μ 0 (sc 0)) a σ q 0 4) dX7_pool__22 rfl rfl (Nat.le_of_ble_eq_true rfl) ⟨(Nat.le_of_ble_eq_true rfl), (Nat.le_of_ble_eq_true rfl)⟩ ⟨(Nat.le_of_ble_eq_true rfl), (Nat.le_of_ble_eq_true rfl)⟩ 25 rfl [.int (bi (inR q 0 4))] rfl ?_
    refine g_ifb_ne X dX7_pool__25 34 28 rfl rfl (fun c2 => ?_) (fun c2 => ?_)
    · skip
      refine g_iload_n X dX7_pool__34 35 rfl rfl ?_
      refine g_iconst X dX7_pool__35 36 rfl (v := 4) rfl ?_
      refine g_ic_ge X dX7_pool__36 52 39 rfl rfl (fun c3 => ?_) (fun c3 => ?_)
      · skip
        refine g_iconst X dX7_pool__52 53 rfl (v := 0) rfl ?_
        refine g_istore_n X dX7_pool__53 54 rfl (by decide) [(3, .int 0), (0, .ref (b 0)), (1, .int (nI j)), (2, .int q)] rfl ?_
        refine g_aload_n X dX7_pool__54 55 rfl rfl ?_
        refine g_get X FL_X7_9 dX7_pool__55 58 rfl 0 rfl (v := .ref (b 1)) rfl ?_
        refine g_aload_n X dX7_pool__58 59 rfl rfl ?_
        refine g_iload_n X dX7_pool__59 60 rfl rfl ?_
        refine c_V X Lk_X7_30 (k_X7_pool E l wr b (put μ 0 (sc 0)) a σ j) dX7_pool__60 rfl 0 rfl rfl rfl (Nat.le_of_ble_eq_true rfl) ⟨(Nat.le_of_ble_eq_true rfl), (Nat.le_of_ble_eq_true rfl)⟩ ⟨(Nat.le_of_ble_eq_true rfl), (Nat.le_of_ble_eq_true rfl)⟩ 63 rfl [.int (nI (5 + 4 * j)), .ref (b 1)] rfl ?_
        refine g_iconst X dX7_pool__63 64 rfl (v := 1) rfl ?_
        refine g_iaddN X dX7_pool__64 65 rfl (5 + 4 * j) 1 rfl rfl ?_
        refine g_ialdN (j := (5 + 4 * j + 1)) (f := (μ 1)) X dX7_pool__65 66 rfl 1 rfl (by omega) (by decide) ?_
        obtain ⟨f, hf, h6⟩ := hX.hf j (by omega)
        obtain ⟨t2, ht2, h7⟩ := hX.hl j (by omega)
        refine g_top (nI f) h6 ?_
        refine g_istore X dX7_pool__66 68 rfl (by decide) [(4, .int (nI f)), (3, .int 0), (0, .ref (b 0)), (1, .int (nI j)), (2, .int q)] rfl ?_
        have Lp : ∀ (r i : Nat) (z : Int32), (r = 100 - i) → (i ≤ 100) → (plL (μ 1) ((μ 1) (5 + 4 * j + 2)) ((μ 1) (5 + 4 * j)) i r z = plL (μ 1) ((μ 1) (5 + 4 * j + 2)) ((μ 1) (5 + 4 * j)) f (100 - f) 0) →  G E (va_A (WW E b μ a σ wr) s.heap.size) 5 p l e ({ frames := 4, cells := 0, slots := 0, locals := 88 } : Room) s m (([.ref (b 0), .int (nI j), .int q] : List Value).toArray) below meth c (MQ below (KQ E (WW E b μ a σ wr) s.heap.size (fun _ : Unit => (some (.int (bif inR (nI j) 0 ((μ 1) 4 - 1) then (bif inR q 0 4 then (if 4 ≤ q then plL (μ 1) ((μ 1) (5 + 4 * ix (nI j) + 2)) ((μ 1) (5 + 4 * ix (nI j))) (ix ((μ 1) (5 + 4 * ix (nI j) + 1))) (100 - ix ((μ 1) (5 + 4 * ix (nI j) + 1))) 0 else (μ 1) (5 + 4 * ix (nI j) + ix q)) else 0) else 0)))) (fun _ => WW E b (put μ 0 (sc (bif inR (nI j) 0 ((μ 1) 4 - 1) then (bif inR q 0 4 then 0 else 2) else 1))) a σ wr)) (([.ref (b 0), .int (nI j), .int q] : List Value).toArray) s 0 0 (va_A (WW E b μ a σ wr) s.heap.size)) 0 0 (WW E b (put μ 0 (sc 0)) a σ wr) 68 [(4, .int (nI i)), (3, .int z), (0, .ref (b 0)), (1, .int (nI j)), (2, .int q)] [] := by
          intro r
          induction r with
          | zero =>
            intro i z hrr hi hv
            obtain rfl : i = 100 := by omega
            refine g_iload X dX7_pool__68 70 rfl rfl ?_
            refine g_aload_n X dX7_pool__70 71 rfl rfl ?_
            refine g_get X FL_X7_9 dX7_pool__71 74 rfl 0 rfl (v := .ref (b 1)) rfl ?_
            refine g_aload_n X dX7_pool__74 75 rfl rfl ?_
            refine g_iload_n X dX7_pool__75 76 rfl rfl ?_
            refine c_V X Lk_X7_30 (k_X7_pool E l wr b (put μ 0 (sc 0)) a σ j) dX7_pool__76 rfl 0 rfl rfl rfl (Nat.le_of_ble_eq_true rfl) ⟨(Nat.le_of_ble_eq_true rfl), (Nat.le_of_ble_eq_true rfl)⟩ ⟨(Nat.le_of_ble_eq_true rfl), (Nat.le_of_ble_eq_true rfl)⟩ 79 rfl [.int (nI (5 + 4 * j)), .ref (b 1), .int (nI 100)] rfl ?_
            refine g_iconst X dX7_pool__79 80 rfl (v := 2) rfl ?_
            refine g_iaddN X dX7_pool__80 81 rfl (5 + 4 * j) 2 rfl rfl ?_
            refine g_ialdN (j := (5 + 4 * j + 2)) (f := (μ 1)) X dX7_pool__81 82 rfl 1 rfl (by omega) (by decide) ?_
            refine g_ic_gt X dX7_pool__82 113 85 rfl rfl (fun c4 => ?_) (fun c4 => absurd (by rw [h7]; exact nI_lt ht2 (by decide)) c4)
            refine g_iload_n X dX7_pool__113 114 rfl rfl ?_
            exact g_iret X hr dX7_pool__114 () (show (some (.int (bif inR (nI j) 0 ((μ 1) 4 - 1) then (bif inR q 0 4 then (if 4 ≤ q then plL (μ 1) ((μ 1) (5 + 4 * ix (nI j) + 2)) ((μ 1) (5 + 4 * ix (nI j))) (ix ((μ 1) (5 + 4 * ix (nI j) + 1))) (100 - ix ((μ 1) (5 + 4 * ix (nI j) + 1))) 0 else (μ 1) (5 + 4 * ix (nI j) + ix q)) else 0) else 0)) : Option Value) = some (.int z) from by simp [ix, nI_clamp (show j < 2 ^ 31 by omega), h6, nI_clamp (show f < 2 ^ 31 by omega), ← hv, c1, c2, c3, plL]) (by refine WW_eq ?_ ?_ ?_ ?_ ?_ ?_; exact (show 0 = (bif inR (nI j) 0 ((μ 1) 4 - 1) then (bif inR q 0 4 then 0 else 2) else 1) from by simp [ix, nI_clamp (show j < 2 ^ 31 by omega), h6, nI_clamp (show f < 2 ^ 31 by omega), c1, c2, c3]); exact (rfl : (μ 1) = (μ 1)); exact (rfl : μ 2 = μ 2); exact (rfl : μ 3 0 = μ 3 0); exact (rfl : (μ 4) = (μ 4)); exact (rfl : (μ 5 0) = (μ 5 0)))
          | succ r ih =>
            intro i z hrr hi hv
            refine g_iload X dX7_pool__68 70 rfl rfl ?_
            refine g_aload_n X dX7_pool__70 71 rfl rfl ?_
            refine g_get X FL_X7_9 dX7_pool__71 74 rfl 0 rfl (v := .ref (b 1)) rfl ?_
            refine g_aload_n X dX7_pool__74 75 rfl rfl ?_
            refine g_iload_n X dX7_pool__75 76 rfl rfl ?_
            refine c_V X Lk_X7_30 (k_X7_pool E l wr b (put μ 0 (sc 0)) a σ j) dX7_pool__76 rfl 0 rfl rfl rfl (Nat.le_of_ble_eq_true rfl) ⟨(Nat.le_of_ble_eq_true rfl), (Nat.le_of_ble_eq_true rfl)⟩ ⟨(Nat.le_of_ble_eq_true rfl), (Nat.le_of_ble_eq_true rfl)⟩ 79 rfl [.int (nI (5 + 4 * j)), .ref (b 1), .int (nI i)] rfl ?_
            refine g_iconst X dX7_pool__79 80 rfl (v := 2) rfl ?_
            refine g_iaddN X dX7_pool__80 81 rfl (5 + 4 * j) 2 rfl rfl ?_
            refine g_ialdN (j := (5 + 4 * j + 2)) (f := (μ 1)) X dX7_pool__81 82 rfl 1 rfl (by omega) (by decide) ?_
            refine g_ic_gt X dX7_pool__82 113 85 rfl rfl (fun c5 => ?_) (fun c5 => ?_)
            · skip
              refine g_iload_n X dX7_pool__113 114 rfl rfl ?_
              exact g_iret X hr dX7_pool__114 () (show (some (.int (bif inR (nI j) 0 ((μ 1) 4 - 1) then (bif inR q 0 4 then (if 4 ≤ q then plL (μ 1) ((μ 1) (5 + 4 * ix (nI j) + 2)) ((μ 1) (5 + 4 * ix (nI j))) (ix ((μ 1) (5 + 4 * ix (nI j) + 1))) (100 - ix ((μ 1) (5 + 4 * ix (nI j) + 1))) 0 else (μ 1) (5 + 4 * ix (nI j) + ix q)) else 0) else 0)) : Option Value) = some (.int z) from by simp [ix, nI_clamp (show j < 2 ^ 31 by omega), h6, nI_clamp (show f < 2 ^ 31 by omega), ← hv, c1, c2, c3, c5, plL]) (by refine WW_eq ?_ ?_ ?_ ?_ ?_ ?_; exact (show 0 = (bif inR (nI j) 0 ((μ 1) 4 - 1) then (bif inR q 0 4 then 0 else 2) else 1) from by simp [ix, nI_clamp (show j < 2 ^ 31 by omega), h6, nI_clamp (show f < 2 ^ 31 by omega), c1, c2, c3, c5]); exact (rfl : (μ 1) = (μ 1)); exact (rfl : μ 2 = μ 2); exact (rfl : μ 3 0 = μ 3 0); exact (rfl : (μ 4) = (μ 4)); exact (rfl : (μ 5 0) = (μ 5 0)))
            · skip
              refine g_aload_n X dX7_pool__85 86 rfl rfl ?_
              refine g_iload X dX7_pool__86 88 rfl rfl ?_
              refine g_aload_n X dX7_pool__88 89 rfl rfl ?_
              refine g_get X FL_X7_9 dX7_pool__89 92 rfl 0 rfl (v := .ref (b 1)) rfl ?_
              refine g_aload_n X dX7_pool__92 93 rfl rfl ?_
              refine g_iload_n X dX7_pool__93 94 rfl rfl ?_
              refine c_V X Lk_X7_30 (k_X7_pool E l wr b (put μ 0 (sc 0)) a σ j) dX7_pool__94 rfl 0 rfl rfl rfl (Nat.le_of_ble_eq_true rfl) ⟨(Nat.le_of_ble_eq_true rfl), (Nat.le_of_ble_eq_true rfl)⟩ ⟨(Nat.le_of_ble_eq_true rfl), (Nat.le_of_ble_eq_true rfl)⟩ 97 rfl [.int (nI (5 + 4 * j)), .ref (b 1), .int (nI i), .ref (b 0)] rfl ?_
              refine g_ialdN (j := (5 + 4 * j)) (f := (μ 1)) X dX7_pool__97 98 rfl 1 rfl (by omega) (by decide) ?_
              refine c_V X Lk_X7_53 (k_X7_isCandidate E l wr b (put μ 0 (sc 0)) a σ i (μ 1 (5 + 4 * j)) v hX (by first | omega | assumption)) dX7_pool__98 rfl 0 rfl rfl rfl (Nat.le_of_ble_eq_true rfl) ⟨(Nat.le_of_ble_eq_true rfl), (Nat.le_of_ble_eq_true rfl)⟩ ⟨(Nat.le_of_ble_eq_true rfl), (Nat.le_of_ble_eq_true rfl)⟩ 101 rfl [.int (bi (cdt (μ 1) i (μ 1 (5 + 4 * j))))] rfl ?_
              refine g_ifb_eq X dX7_pool__101 107 104 rfl rfl (fun c6 => ?_) (fun c6 => ?_)
              · skip
                refine g_iinc X dX7_pool__107 110 rfl (by decide) 0 rfl (nI_1 _) [(4, .int (nI (i + 1))), (3, .int z), (0, .ref (b 0)), (1, .int (nI j)), (2, .int q)] rfl ?_
                refine g_goto X dX7_pool__110 68 rfl ?_
                exact ih (i + 1) z (by omega) (by omega) (by rw [← hv]; simp [plL, c5, c6])
              · skip
                refine g_iinc X dX7_pool__104 107 rfl (by decide) 1 rfl rfl [(3, .int (z + 1)), (4, .int (nI i)), (0, .ref (b 0)), (1, .int (nI j)), (2, .int q)] rfl ?_
                refine g_iinc X dX7_pool__107 110 rfl (by decide) 1 rfl (nI_1 _) [(4, .int (nI (i + 1))), (3, .int (z + 1)), (0, .ref (b 0)), (1, .int (nI j)), (2, .int q)] rfl ?_
                refine g_goto X dX7_pool__110 68 rfl ?_
                exact ih (i + 1) (z + 1) (by omega) (by omega) (by rw [← hv]; simp [plL, c5, c6])
        exact Lp (100 - f) f 0 rfl (by omega) rfl
      · skip
        refine g_aload_n X dX7_pool__39 40 rfl rfl ?_
        refine g_get X FL_X7_9 dX7_pool__40 43 rfl 0 rfl (v := .ref (b 1)) rfl ?_
        refine g_aload_n X dX7_pool__43 44 rfl rfl ?_
        refine g_iload_n X dX7_pool__44 45 rfl rfl ?_
        refine c_V X Lk_X7_30 (k_X7_pool E l wr b (put μ 0 (sc 0)) a σ j) dX7_pool__45 rfl 0 rfl rfl rfl (Nat.le_of_ble_eq_true rfl) ⟨(Nat.le_of_ble_eq_true rfl), (Nat.le_of_ble_eq_true rfl)⟩ ⟨(Nat.le_of_ble_eq_true rfl), (Nat.le_of_ble_eq_true rfl)⟩ 48 rfl [.int (nI (5 + 4 * j)), .ref (b 1)] rfl ?_
        refine g_iload_n X dX7_pool__48 49 rfl rfl ?_
        obtain ⟨t, ht, hx⟩ : ∃ t, t < 4 ∧ q = nI t := pt_ok c2 c3
        refine g_top (nI t) hx ?_
        refine g_iaddN X dX7_pool__49 50 rfl (5 + 4 * j) t rfl rfl ?_
        refine g_ialdN (j := (5 + 4 * j + t)) (f := (μ 1)) X dX7_pool__50 51 rfl 1 rfl (by omega) (by decide) ?_
        exact g_iret X hr dX7_pool__51 () (show (some (.int (bif inR (nI j) 0 ((μ 1) 4 - 1) then (bif inR q 0 4 then (if 4 ≤ q then plL (μ 1) ((μ 1) (5 + 4 * ix (nI j) + 2)) ((μ 1) (5 + 4 * ix (nI j))) (ix ((μ 1) (5 + 4 * ix (nI j) + 1))) (100 - ix ((μ 1) (5 + 4 * ix (nI j) + 1))) 0 else (μ 1) (5 + 4 * ix (nI j) + ix q)) else 0) else 0)) : Option Value) = some (.int (μ 1 (5 + 4 * j + t))) from by simp [ix, nI_clamp (show j < 2 ^ 31 by omega), ← hx, show q.toNatClampNeg = t from by rw [hx]; exact nI_clamp (by omega), c1, c2, c3]) (by refine WW_eq ?_ ?_ ?_ ?_ ?_ ?_; exact (show 0 = (bif inR (nI j) 0 ((μ 1) 4 - 1) then (bif inR q 0 4 then 0 else 2) else 1) from by simp [ix, nI_clamp (show j < 2 ^ 31 by omega), ← hx, show q.toNatClampNeg = t from by rw [hx]; exact nI_clamp (by omega), c1, c2, c3]); exact (rfl : (μ 1) = (μ 1)); exact (rfl : μ 2 = μ 2); exact (rfl : μ 3 0 = μ 3 0); exact (rfl : (μ 4) = (μ 4)); exact (rfl : (μ 5 0) = (μ 5 0)))
    · skip
      refine g_aload_n X dX7_pool__28 29 rfl rfl ?_
      refine g_iconst X dX7_pool__29 30 rfl (v := 2) rfl ?_
      refine c_V X Lk_X7_41 (k_X7_raises E l wr b (put μ 0 (sc 0)) a σ 2) dX7_pool__30 rfl 0 rfl rfl rfl (Nat.le_of_ble_eq_true rfl) ⟨(Nat.le_of_ble_eq_true rfl), (Nat.le_of_ble_eq_true rfl)⟩ ⟨(Nat.le_of_ble_eq_true rfl), (Nat.le_of_ble_eq_true rfl)⟩ 33 rfl [.int 0] rfl ?_
      exact g_iret X hr dX7_pool__33 () (show (some (.int (bif inR (nI j) 0 ((μ 1) 4 - 1) then (bif inR q 0 4 then (if 4 ≤ q then plL (μ 1) ((μ 1) (5 + 4 * ix (nI j) + 2)) ((μ 1) (5 + 4 * ix (nI j))) (ix ((μ 1) (5 + 4 * ix (nI j) + 1))) (100 - ix ((μ 1) (5 + 4 * ix (nI j) + 1))) 0 else (μ 1) (5 + 4 * ix (nI j) + ix q)) else 0) else 0)) : Option Value) = some (.int 0) from by simp [ix, nI_clamp (show j < 2 ^ 31 by omega), c1, c2]) (by refine WW_eq ?_ ?_ ?_ ?_ ?_ ?_; exact (show 2 = (bif inR (nI j) 0 ((μ 1) 4 - 1) then (bif inR q 0 4 then 0 else 2) else 1) from by simp [ix, nI_clamp (show j < 2 ^ 31 by omega), c1, c2]); exact (rfl : (μ 1) = (μ 1)); exact (rfl : μ 2 = μ 2); exact (rfl : μ 3 0 = μ 3 0); exact (rfl : (μ 4) = (μ 4)); exact (rfl : (μ 5 0) = (μ 5 0)))
  · skip
    refine g_aload_n X dX7_pool__13 14 rfl rfl ?_
    refine g_iconst X dX7_pool__14 15 rfl (v := 1) rfl ?_
    refine c_V X Lk_X7_41 (k_X7_raises E l wr b (put μ 0 (sc 0)) a σ 1) dX7_pool__15 rfl 0 rfl rfl rfl (Nat.le_of_ble_eq_true rfl) ⟨(Nat.le_of_ble_eq_true rfl), (Nat.le_of_ble_eq_true rfl)⟩ ⟨(Nat.le_of_ble_eq_true rfl), (Nat.le_of_ble_eq_true rfl)⟩ 18 rfl [.int 0] rfl ?_
    exact g_iret X hr dX7_pool__18 () (show (some (.int (bif inR x 0 ((μ 1) 4 - 1) then (bif inR q 0 4 then (if 4 ≤ q then plL (μ 1) ((μ 1) (5 + 4 * ix x + 2)) ((μ 1) (5 + 4 * ix x)) (ix ((μ 1) (5 + 4 * ix x + 1))) (100 - ix ((μ 1) (5 + 4 * ix x + 1))) 0 else (μ 1) (5 + 4 * ix x + ix q)) else 0) else 0)) : Option Value) = some (.int 0) from by simp [c1]) (by refine WW_eq ?_ ?_ ?_ ?_ ?_ ?_; exact (show 1 = (bif inR x 0 ((μ 1) 4 - 1) then (bif inR q 0 4 then 0 else 2) else 1) from by simp [c1]); exact (rfl : (μ 1) = (μ 1)); exact (rfl : μ 2 = μ 2); exact (rfl : μ 3 0 = μ 3 0); exact (rfl : (μ 4) = (μ 4)); exact (rfl : (μ 5 0) = (μ 5 0)))
