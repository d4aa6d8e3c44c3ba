-- what happens at an address
def hoC (N : Nat → Int32) (j : Nat) : Nat := ix (N (331 + j))
def hpN (N : Nat → Int32) (j : Nat) (t : Int32) : Nat → Int32 :=
  if knd N j = 0 then upd (mFr N j t) (631 + hoC N j) 0 else if knd N j = 1 then mFr N j t
  else if knd N j = 2 then (if N (25 + ix (gr N (nI j))) = 1 then rnN N (hoC N j) t else upd N (631 + hoC N j) 3)
  else if knd N j = 3 then (if N (28 + ix (gr N (nI j))) = 1 then rnN N (hoC N j) t else upd N (631 + hoC N j) 4)
  else upd (mFr N j t) (631 + hoC N j) 0
def hpK (N : Nat → Int32) (j : Nat) (f : Nat → Int32) (n : Int32) : Nat → Int32 :=
  if knd N j = 0 then lgM f n 9 (nI j) else if knd N j = 1 then f
  else if knd N j = 2 then (if N (25 + ix (gr N (nI j))) = 1 then lgM f n (rnK N (hoC N j)) (N (651 + hoC N j)) else f)
  else if knd N j = 3 then (if N (28 + ix (gr N (nI j))) = 1 then lgM f n (rnK N (hoC N j)) (N (651 + hoC N j)) else f)
  else lgM f n 5 (nI j)
def hpM (N : Nat → Int32) (j : Nat) (n : Int32) : Int32 :=
  if knd N j = 0 then lgN n else if knd N j = 1 then n
  else if knd N j = 2 then (if N (25 + ix (gr N (nI j))) = 1 then lgN n else n)
  else if knd N j = 3 then (if N (28 + ix (gr N (nI j))) = 1 then lgN n else n)
  else lgN n
theorem pn_01 {σ : Sto} {f : Nat → Int32} : put σ 1 f 0 = σ 0 := put_n (by decide)
theorem pn_02 {σ : Sto} {f : Nat → Int32} : put σ 2 f 0 = σ 0 := put_n (by decide)
theorem pn_03 {σ : Sto} {f : Nat → Int32} : put σ 3 f 0 = σ 0 := put_n (by decide)
theorem pn_04 {σ : Sto} {f : Nat → Int32} : put σ 4 f 0 = σ 0 := put_n (by decide)
theorem pn_05 {σ : Sto} {f : Nat → Int32} : put σ 5 f 0 = σ 0 := put_n (by decide)
theorem pn_10 {σ : Sto} {f : Nat → Int32} : put σ 0 f 1 = σ 1 := put_n (by decide)
theorem pn_12 {σ : Sto} {f : Nat → Int32} : put σ 2 f 1 = σ 1 := put_n (by decide)
theorem pn_13 {σ : Sto} {f : Nat → Int32} : put σ 3 f 1 = σ 1 := put_n (by decide)
theorem pn_14 {σ : Sto} {f : Nat → Int32} : put σ 4 f 1 = σ 1 := put_n (by decide)
theorem pn_15 {σ : Sto} {f : Nat → Int32} : put σ 5 f 1 = σ 1 := put_n (by decide)
theorem pn_20 {σ : Sto} {f : Nat → Int32} : put σ 0 f 2 = σ 2 := put_n (by decide)
theorem pn_21 {σ : Sto} {f : Nat → Int32} : put σ 1 f 2 = σ 2 := put_n (by decide)
theorem pn_23 {σ : Sto} {f : Nat → Int32} : put σ 3 f 2 = σ 2 := put_n (by decide)
theorem pn_24 {σ : Sto} {f : Nat → Int32} : put σ 4 f 2 = σ 2 := put_n (by decide)
theorem pn_25 {σ : Sto} {f : Nat → Int32} : put σ 5 f 2 = σ 2 := put_n (by decide)
theorem pn_30 {σ : Sto} {f : Nat → Int32} : put σ 0 f 3 = σ 3 := put_n (by decide)
theorem pn_31 {σ : Sto} {f : Nat → Int32} : put σ 1 f 3 = σ 3 := put_n (by decide)
theorem pn_32 {σ : Sto} {f : Nat → Int32} : put σ 2 f 3 = σ 3 := put_n (by decide)
theorem pn_34 {σ : Sto} {f : Nat → Int32} : put σ 4 f 3 = σ 3 := put_n (by decide)
theorem pn_35 {σ : Sto} {f : Nat → Int32} : put σ 5 f 3 = σ 3 := put_n (by decide)
theorem pn_40 {σ : Sto} {f : Nat → Int32} : put σ 0 f 4 = σ 4 := put_n (by decide)
theorem pn_41 {σ : Sto} {f : Nat → Int32} : put σ 1 f 4 = σ 4 := put_n (by decide)
theorem pn_42 {σ : Sto} {f : Nat → Int32} : put σ 2 f 4 = σ 4 := put_n (by decide)
theorem pn_43 {σ : Sto} {f : Nat → Int32} : put σ 3 f 4 = σ 4 := put_n (by decide)
theorem pn_45 {σ : Sto} {f : Nat → Int32} : put σ 5 f 4 = σ 4 := put_n (by decide)
theorem pn_50 {σ : Sto} {f : Nat → Int32} : put σ 0 f 5 = σ 5 := put_n (by decide)
theorem pn_51 {σ : Sto} {f : Nat → Int32} : put σ 1 f 5 = σ 5 := put_n (by decide)
theorem pn_52 {σ : Sto} {f : Nat → Int32} : put σ 2 f 5 = σ 5 := put_n (by decide)
theorem pn_53 {σ : Sto} {f : Nat → Int32} : put σ 3 f 5 = σ 5 := put_n (by decide)
theorem pn_54 {σ : Sto} {f : Nat → Int32} : put σ 4 f 5 = σ 5 := put_n (by decide)
theorem hpN_0 {N : Nat → Int32} {j : Nat} (t : Int32) (h : knd N j = 0) : hpN N j t = upd (mFr N j t) (631 + hoC N j) 0 := by
  rw [hpN, if_pos h]
theorem hpN_1 {N : Nat → Int32} {j : Nat} (t : Int32) (h : knd N j = 1) : hpN N j t = mFr N j t := by
  rw [hpN, if_neg (show ¬ knd N j = 0 from by rw [h]; decide), if_pos h]
theorem hpN_2T {N : Nat → Int32} {j : Nat} (t : Int32) (h : knd N j = 2) (hc : N (25 + ix (gr N (nI j))) = 1) : hpN N j t = rnN N (hoC N j) t := by
  rw [hpN, if_neg (show ¬ knd N j = 0 from by rw [h]; decide), if_neg (show ¬ knd N j = 1 from by rw [h]; decide), if_pos h, if_pos hc]
theorem hpN_2F {N : Nat → Int32} {j : Nat} (t : Int32) (h : knd N j = 2) (hc : ¬ N (25 + ix (gr N (nI j))) = 1) : hpN N j t = upd N (631 + hoC N j) 3 := by
  rw [hpN, if_neg (show ¬ knd N j = 0 from by rw [h]; decide), if_neg (show ¬ knd N j = 1 from by rw [h]; decide), if_pos h, if_neg hc]
theorem hpN_3T {N : Nat → Int32} {j : Nat} (t : Int32) (h : knd N j = 3) (hc : N (28 + ix (gr N (nI j))) = 1) : hpN N j t = rnN N (hoC N j) t := by
  rw [hpN, if_neg (show ¬ knd N j = 0 from by rw [h]; decide), if_neg (show ¬ knd N j = 1 from by rw [h]; decide), if_neg (show ¬ knd N j = 2 from by rw [h]; decide), if_pos h, if_pos hc]
theorem hpN_3F {N : Nat → Int32} {j : Nat} (t : Int32) (h : knd N j = 3) (hc : ¬ N (28 + ix (gr N (nI j))) = 1) : hpN N j t = upd N (631 + hoC N j) 4 := by
  rw [hpN, if_neg (show ¬ knd N j = 0 from by rw [h]; decide), if_neg (show ¬ knd N j = 1 from by rw [h]; decide), if_neg (show ¬ knd N j = 2 from by rw [h]; decide), if_pos h, if_neg hc]
theorem hpN_d {N : Nat → Int32} {j : Nat} (t : Int32) (h : (knd N j).toInt < 0 ∨ 3 < (knd N j).toInt) : hpN N j t = upd (mFr N j t) (631 + hoC N j) 0 := by
  rw [hpN, if_neg (tsw_no h (j := 0) (by decide) (by decide)), if_neg (tsw_no h (j := 1) (by decide) (by decide)), if_neg (tsw_no h (j := 2) (by decide) (by decide)), if_neg (tsw_no h (j := 3) (by decide) (by decide))]
theorem hpK_0 {N : Nat → Int32} {j : Nat} (f : Nat → Int32) (n : Int32) (h : knd N j = 0) : hpK N j f n = lgM f n 9 (nI j) := by
  rw [hpK, if_pos h]
theorem hpK_1 {N : Nat → Int32} {j : Nat} (f : Nat → Int32) (n : Int32) (h : knd N j = 1) : hpK N j f n = f := by
  rw [hpK, if_neg (show ¬ knd N j = 0 from by rw [h]; decide), if_pos h]
theorem hpK_2T {N : Nat → Int32} {j : Nat} (f : Nat → Int32) (n : Int32) (h : knd N j = 2) (hc : N (25 + ix (gr N (nI j))) = 1) : hpK N j f n = lgM f n (rnK N (hoC N j)) (N (651 + hoC N j)) := by
  rw [hpK, if_neg (show ¬ knd N j = 0 from by rw [h]; decide), if_neg (show ¬ knd N j = 1 from by rw [h]; decide), if_pos h, if_pos hc]
theorem hpK_2F {N : Nat → Int32} {j : Nat} (f : Nat → Int32) (n : Int32) (h : knd N j = 2) (hc : ¬ N (25 + ix (gr N (nI j))) = 1) : hpK N j f n = f := by
  rw [hpK, if_neg (show ¬ knd N j = 0 from by rw [h]; decide), if_neg (show ¬ knd N j = 1 from by rw [h]; decide), if_pos h, if_neg hc]
theorem hpK_3T {N : Nat → Int32} {j : Nat} (f : Nat → Int32) (n : Int32) (h : knd N j = 3) (hc : N (28 + ix (gr N (nI j))) = 1) : hpK N j f n = lgM f n (rnK N (hoC N j)) (N (651 + hoC N j)) := by
  rw [hpK, if_neg (show ¬ knd N j = 0 from by rw [h]; decide), if_neg (show ¬ knd N j = 1 from by rw [h]; decide), if_neg (show ¬ knd N j = 2 from by rw [h]; decide), if_pos h, if_pos hc]
theorem hpK_3F {N : Nat → Int32} {j : Nat} (f : Nat → Int32) (n : Int32) (h : knd N j = 3) (hc : ¬ N (28 + ix (gr N (nI j))) = 1) : hpK N j f n = f := by
  rw [hpK, if_neg (show ¬ knd N j = 0 from by rw [h]; decide), if_neg (show ¬ knd N j = 1 from by rw [h]; decide), if_neg (show ¬ knd N j = 2 from by rw [h]; decide), if_pos h, if_neg hc]
theorem hpK_d {N : Nat → Int32} {j : Nat} (f : Nat → Int32) (n : Int32) (h : (knd N j).toInt < 0 ∨ 3 < (knd N j).toInt) : hpK N j f n = lgM f n 5 (nI j) := by
  rw [hpK, if_neg (tsw_no h (j := 0) (by decide) (by decide)), if_neg (tsw_no h (j := 1) (by decide) (by decide)), if_neg (tsw_no h (j := 2) (by decide) (by decide)), if_neg (tsw_no h (j := 3) (by decide) (by decide))]
theorem hpM_0 {N : Nat → Int32} {j : Nat} (n : Int32) (h : knd N j = 0) : hpM N j n = lgN n := by
  rw [hpM, if_pos h]
theorem hpM_1 {N : Nat → Int32} {j : Nat} (n : Int32) (h : knd N j = 1) : hpM N j n = n := by
  rw [hpM, if_neg (show ¬ knd N j = 0 from by rw [h]; decide), if_pos h]
theorem hpM_2T {N : Nat → Int32} {j : Nat} (n : Int32) (h : knd N j = 2) (hc : N (25 + ix (gr N (nI j))) = 1) : hpM N j n = lgN n := by
  rw [hpM, if_neg (show ¬ knd N j = 0 from by rw [h]; decide), if_neg (show ¬ knd N j = 1 from by rw [h]; decide), if_pos h, if_pos hc]
theorem hpM_2F {N : Nat → Int32} {j : Nat} (n : Int32) (h : knd N j = 2) (hc : ¬ N (25 + ix (gr N (nI j))) = 1) : hpM N j n = n := by
  rw [hpM, if_neg (show ¬ knd N j = 0 from by rw [h]; decide), if_neg (show ¬ knd N j = 1 from by rw [h]; decide), if_pos h, if_neg hc]
theorem hpM_3T {N : Nat → Int32} {j : Nat} (n : Int32) (h : knd N j = 3) (hc : N (28 + ix (gr N (nI j))) = 1) : hpM N j n = lgN n := by
  rw [hpM, if_neg (show ¬ knd N j = 0 from by rw [h]; decide), if_neg (show ¬ knd N j = 1 from by rw [h]; decide), if_neg (show ¬ knd N j = 2 from by rw [h]; decide), if_pos h, if_pos hc]
theorem hpM_3F {N : Nat → Int32} {j : Nat} (n : Int32) (h : knd N j = 3) (hc : ¬ N (28 + ix (gr N (nI j))) = 1) : hpM N j n = n := by
  rw [hpM, if_neg (show ¬ knd N j = 0 from by rw [h]; decide), if_neg (show ¬ knd N j = 1 from by rw [h]; decide), if_neg (show ¬ knd N j = 2 from by rw [h]; decide), if_pos h, if_neg hc]
theorem hpM_d {N : Nat → Int32} {j : Nat} (n : Int32) (h : (knd N j).toInt < 0 ∨ 3 < (knd N j).toInt) : hpM N j n = lgN n := by
  rw [hpM, if_neg (tsw_no h (j := 0) (by decide) (by decide)), if_neg (tsw_no h (j := 1) (by decide) (by decide)), if_neg (tsw_no h (j := 2) (by decide) (by decide)), if_neg (tsw_no h (j := 3) (by decide) (by decide))]
set_option maxHeartbeats 4000000 in
set_option maxRecDepth 100000 in
theorem k_X7_happens (E : kE) (l : Launch) (wr : va_W) (b : Nat → Nat) (μ : Sto) (a : Nat → Nat) (σ : Sto) (j : Nat) (t : Int32) (v : Nat) (hX : MX (μ 1) v) (hj : j < 100) (hw : ∃ p : Nat, p < v ∧ ow (μ 1) (nI j) = nI p) (hz : (knd (μ 1) j = 2 ∨ knd (μ 1) j = 3) → ∃ p : Nat, p < v ∧ ow (μ 1) ((μ 1) (651 + hoC (μ 1) j)) = nI p) (hL : LG (μ 5 0)) : KM E l yX7_happens cX7_happens 4 none 4 91 0 0 [.ref (b 0), .int (nI j), .int t] (WW E b μ a σ wr) none (WW E b (put (put (put μ 1 (hpN (μ 1) j t)) 4 (hpK (μ 1) j (μ 4) (μ 5 0))) 5 (sc (hpM (μ 1) j (μ 5 0)))) a σ wr) := by
  refine K_start (own := RX7) (by decide +kernel) rfl [(0, .ref (b 0)), (1, .int (nI j)), (2, .int t)] rfl (Nat.le_of_ble_eq_true rfl) (fun p e s m below meth c X hr hin => ?_)
  refine g_aload_n X dX7_happens_0 1 rfl rfl ?_
  refine g_get X FL_X7_9 dX7_happens_1 4 rfl 0 rfl (v := .ref (b 1)) rfl ?_
  refine g_sipush X dX7_happens_4 7 rfl (v := 331) rfl ?_
  refine g_iload_n X dX7_happens_7 8 rfl rfl ?_
  refine g_iaddN X dX7_happens_8 9 rfl 331 j rfl rfl ?_
  refine g_ialdN (j := (331 + j)) (f := (μ 1)) X dX7_happens_9 10 rfl 1 rfl (by omega) (by decide) ?_
  obtain ⟨q, hq, h2⟩ := hX.hh j hj
  refine g_top (nI q) h2 ?_
  refine g_istore_n X dX7_happens_10 11 rfl (by decide) [(3, .int (nI q)), (0, .ref (b 0)), (1, .int (nI j)), (2, .int t)] rfl ?_
  refine g_aload_n X dX7_happens_11 12 rfl rfl ?_
  refine g_iload_n X dX7_happens_12 13 rfl rfl ?_
  refine c_V X Lk_X7_101 (k_X7_kind E l wr b μ a σ j v hX (by first | omega | assumption)) dX7_happens_13 rfl 0 rfl rfl rfl (Nat.le_of_ble_eq_true rfl) ⟨(Nat.le_of_ble_eq_true rfl), (Nat.le_of_ble_eq_true rfl)⟩ ⟨(Nat.le_of_ble_eq_true rfl), (Nat.le_of_ble_eq_true rfl)⟩ 16 rfl [.int (knd (μ 1) j)] rfl ?_
  have hsw : (knd (μ 1) j) = 0 ∨ (knd (μ 1) j) = 1 ∨ (knd (μ 1) j) = 2 ∨ (knd (μ 1) j) = 3 ∨ ((knd (μ 1) j).toInt < 0 ∨ 3 < (knd (μ 1) j).toInt) := by
    exact tsw_4 _
  rcases hsw with t1 | t2 | t3 | t4 | t5
  · refine g_tableIn X dX7_happens_16 32 (by rw [t1]; decide) (by rw [t1]; decide) (by rw [t1]; rfl) 48 rfl ?_
    refine g_aload_n X dX7_happens_48 49 rfl rfl ?_
    refine g_iload_n X dX7_happens_49 50 rfl rfl ?_
    refine g_iload_n X dX7_happens_50 51 rfl rfl ?_
    refine c_V X Lk_X7_71 (k_X7_frees E l wr b μ a σ j t (by first | omega | assumption)) dX7_happens_51 rfl 0 rfl rfl rfl (Nat.le_of_ble_eq_true rfl) ⟨(Nat.le_of_ble_eq_true rfl), (Nat.le_of_ble_eq_true rfl)⟩ ⟨(Nat.le_of_ble_eq_true rfl), (Nat.le_of_ble_eq_true rfl)⟩ 54 rfl [] rfl ?_
    refine g_aload_n X dX7_happens_54 55 rfl rfl ?_
    refine g_get X FL_X7_9 dX7_happens_55 58 rfl 0 rfl (v := .ref (b 1)) rfl ?_
    refine g_sipush X dX7_happens_58 61 rfl (v := 631) rfl ?_
    refine g_iload_n X dX7_happens_61 62 rfl rfl ?_
    refine g_iaddN X dX7_happens_62 63 rfl 631 q rfl rfl ?_
    refine g_iconst X dX7_happens_63 64 rfl (v := 0) rfl ?_
    refine g_iastN (j := (631 + q)) (f := (mFr (μ 1) j t)) X dX7_happens_64 65 rfl 1 rfl (by omega) (by decide) (WW E b (put μ 1 (upd (mFr (μ 1) j t) (631 + q) 0)) a σ wr) rfl ?_
    refine g_aload_n X dX7_happens_65 66 rfl rfl ?_
    refine g_bipush X dX7_happens_66 68 rfl (v := 9) rfl ?_
    refine g_iload_n X dX7_happens_68 69 rfl rfl ?_
    refine c_V X Lk_X7_83 (k_X7_logs E l wr b (put μ 1 (upd (mFr (μ 1) j t) (631 + q) 0)) a σ 9 (nI j) hL) dX7_happens_69 rfl 0 rfl rfl rfl (Nat.le_of_ble_eq_true rfl) ⟨(Nat.le_of_ble_eq_true rfl), (Nat.le_of_ble_eq_true rfl)⟩ ⟨(Nat.le_of_ble_eq_true rfl), (Nat.le_of_ble_eq_true rfl)⟩ 72 rfl [] rfl ?_
    refine g_goto X dX7_happens_72 189 rfl ?_
    exact g_vret X hr dX7_happens_189 () rfl (by refine WW_eq ?_ ?_ ?_ ?_ ?_ ?_; simp only [put_s, sc, pn_01, pn_02, pn_03, pn_04, pn_05, pn_10, pn_12, pn_13, pn_14, pn_15, pn_20, pn_21, pn_23, pn_24, pn_25, pn_30, pn_31, pn_32, pn_34, pn_35, pn_40, pn_41, pn_42, pn_43, pn_45, pn_50, pn_51, pn_52, pn_53, pn_54]; (simp only [put_s, sc, pn_01, pn_02, pn_03, pn_04, pn_05, pn_10, pn_12, pn_13, pn_14, pn_15, pn_20, pn_21, pn_23, pn_24, pn_25, pn_30, pn_31, pn_32, pn_34, pn_35, pn_40, pn_41, pn_42, pn_43, pn_45, pn_50, pn_51, pn_52, pn_53, pn_54]; exact (show (upd (mFr (μ 1) j t) (631 + q) 0) = hpN (μ 1) j t from by rw [hpN_0 t t1, show hoC (μ 1) j = q from by rw [hoC, h2, ixn (by omega)]])); simp only [put_s, sc, pn_01, pn_02, pn_03, pn_04, pn_05, pn_10, pn_12, pn_13, pn_14, pn_15, pn_20, pn_21, pn_23, pn_24, pn_25, pn_30, pn_31, pn_32, pn_34, pn_35, pn_40, pn_41, pn_42, pn_43, pn_45, pn_50, pn_51, pn_52, pn_53, pn_54]; simp only [put_s, sc, pn_01, pn_02, pn_03, pn_04, pn_05, pn_10, pn_12, pn_13, pn_14, pn_15, pn_20, pn_21, pn_23, pn_24, pn_25, pn_30, pn_31, pn_32, pn_34, pn_35, pn_40, pn_41, pn_42, pn_43, pn_45, pn_50, pn_51, pn_52, pn_53, pn_54]; (simp only [put_s, sc, pn_01, pn_02, pn_03, pn_04, pn_05, pn_10, pn_12, pn_13, pn_14, pn_15, pn_20, pn_21, pn_23, pn_24, pn_25, pn_30, pn_31, pn_32, pn_34, pn_35, pn_40, pn_41, pn_42, pn_43, pn_45, pn_50, pn_51, pn_52, pn_53, pn_54]; exact (show (mLog (μ 4) (ix (lgN (μ 5 0))) 9 (nI j)) = hpK (μ 1) j (μ 4) (μ 5 0) from by rw [hpK_0 (μ 4) (μ 5 0) t1, lgM])); (simp only [put_s, sc, pn_01, pn_02, pn_03, pn_04, pn_05, pn_10, pn_12, pn_13, pn_14, pn_15, pn_20, pn_21, pn_23, pn_24, pn_25, pn_30, pn_31, pn_32, pn_34, pn_35, pn_40, pn_41, pn_42, pn_43, pn_45, pn_50, pn_51, pn_52, pn_53, pn_54]; exact (show (lgN (μ 5 0)) = hpM (μ 1) j (μ 5 0) from by rw [hpM_0 (μ 5 0) t1])))
  · refine g_tableIn X dX7_happens_16 59 (by rw [t2]; decide) (by rw [t2]; decide) (by rw [t2]; rfl) 75 rfl ?_
    refine g_aload_n X dX7_happens_75 76 rfl rfl ?_
    refine g_iload_n X dX7_happens_76 77 rfl rfl ?_
    refine g_iload_n X dX7_happens_77 78 rfl rfl ?_
    refine c_V X Lk_X7_71 (k_X7_frees E l wr b μ a σ j t (by first | omega | assumption)) dX7_happens_78 rfl 0 rfl rfl rfl (Nat.le_of_ble_eq_true rfl) ⟨(Nat.le_of_ble_eq_true rfl), (Nat.le_of_ble_eq_true rfl)⟩ ⟨(Nat.le_of_ble_eq_true rfl), (Nat.le_of_ble_eq_true rfl)⟩ 81 rfl [] rfl ?_
    refine g_goto X dX7_happens_81 189 rfl ?_
    exact g_vret X hr dX7_happens_189 () rfl (by refine WW_eq ?_ ?_ ?_ ?_ ?_ ?_; simp only [put_s, sc, pn_01, pn_02, pn_03, pn_04, pn_05, pn_10, pn_12, pn_13, pn_14, pn_15, pn_20, pn_21, pn_23, pn_24, pn_25, pn_30, pn_31, pn_32, pn_34, pn_35, pn_40, pn_41, pn_42, pn_43, pn_45, pn_50, pn_51, pn_52, pn_53, pn_54]; (simp only [put_s, sc, pn_01, pn_02, pn_03, pn_04, pn_05, pn_10, pn_12, pn_13, pn_14, pn_15, pn_20, pn_21, pn_23, pn_24, pn_25, pn_30, pn_31, pn_32, pn_34, pn_35, pn_40, pn_41, pn_42, pn_43, pn_45, pn_50, pn_51, pn_52, pn_53, pn_54]; exact (show (mFr (μ 1) j t) = hpN (μ 1) j t from by rw [hpN_1 t t2])); simp only [put_s, sc, pn_01, pn_02, pn_03, pn_04, pn_05, pn_10, pn_12, pn_13, pn_14, pn_15, pn_20, pn_21, pn_23, pn_24, pn_25, pn_30, pn_31, pn_32, pn_34, pn_35, pn_40, pn_41, pn_42, pn_43, pn_45, pn_50, pn_51, pn_52, pn_53, pn_54]; simp only [put_s, sc, pn_01, pn_02, pn_03, pn_04, pn_05, pn_10, pn_12, pn_13, pn_14, pn_15, pn_20, pn_21, pn_23, pn_24, pn_25, pn_30, pn_31, pn_32, pn_34, pn_35, pn_40, pn_41, pn_42, pn_43, pn_45, pn_50, pn_51, pn_52, pn_53, pn_54]; (simp only [put_s, sc, pn_01, pn_02, pn_03, pn_04, pn_05, pn_10, pn_12, pn_13, pn_14, pn_15, pn_20, pn_21, pn_23, pn_24, pn_25, pn_30, pn_31, pn_32, pn_34, pn_35, pn_40, pn_41, pn_42, pn_43, pn_45, pn_50, pn_51, pn_52, pn_53, pn_54]; exact (show (μ 4) = hpK (μ 1) j (μ 4) (μ 5 0) from by rw [hpK_1 (μ 4) (μ 5 0) t2])); (simp only [put_s, sc, pn_01, pn_02, pn_03, pn_04, pn_05, pn_10, pn_12, pn_13, pn_14, pn_15, pn_20, pn_21, pn_23, pn_24, pn_25, pn_30, pn_31, pn_32, pn_34, pn_35, pn_40, pn_41, pn_42, pn_43, pn_45, pn_50, pn_51, pn_52, pn_53, pn_54]; exact (show (μ 5 0) = hpM (μ 1) j (μ 5 0) from by rw [hpM_1 (μ 5 0) t2])))
  · refine g_tableIn X dX7_happens_16 68 (by rw [t3]; decide) (by rw [t3]; decide) (by rw [t3]; rfl) 84 rfl ?_
    refine g_aload_n X dX7_happens_84 85 rfl rfl ?_
    refine g_get X FL_X7_9 dX7_happens_85 88 rfl 0 rfl (v := .ref (b 1)) rfl ?_
    refine g_bipush X dX7_happens_88 90 rfl (v := 25) rfl ?_
    refine g_aload_n X dX7_happens_90 91 rfl rfl ?_
    refine g_iload_n X dX7_happens_91 92 rfl rfl ?_
    refine c_V X Lk_X7_50 (k_X7_groupOf E l wr b μ a σ (nI j) v hX) dX7_happens_92 rfl 0 rfl rfl rfl (Nat.le_of_ble_eq_true rfl) ⟨(Nat.le_of_ble_eq_true rfl), (Nat.le_of_ble_eq_true rfl)⟩ ⟨(Nat.le_of_ble_eq_true rfl), (Nat.le_of_ble_eq_true rfl)⟩ 95 rfl [.int (gr (μ 1) (nI j)), .int 25, .ref (b 1)] rfl ?_
    obtain ⟨y, hy, h3⟩ := hw
    obtain ⟨g3, hg3, h4⟩ := hX.hg y hy
    have h5 := gr_of h3 (by have := hX.hv; omega) h4
    refine g_top (nI g3) h5 ?_
    refine g_iaddN X dX7_happens_95 96 rfl 25 g3 rfl rfl ?_
    refine g_ialdN (j := (25 + g3)) (f := (μ 1)) X dX7_happens_96 97 rfl 1 rfl (by omega) (by decide) ?_
    refine g_iconst X dX7_happens_97 98 rfl (v := 1) rfl ?_
    refine g_ic_ne X dX7_happens_98 111 101 rfl rfl (fun c6 => ?_) (fun c6 => ?_)
    · skip
      refine g_aload_n X dX7_happens_111 112 rfl rfl ?_
      refine g_get X FL_X7_9 dX7_happens_112 115 rfl 0 rfl (v := .ref (b 1)) rfl ?_
      refine g_sipush X dX7_happens_115 118 rfl (v := 631) rfl ?_
      refine g_iload_n X dX7_happens_118 119 rfl rfl ?_
      refine g_iaddN X dX7_happens_119 120 rfl 631 q rfl rfl ?_
      refine g_iconst X dX7_happens_120 121 rfl (v := 3) rfl ?_
      refine g_iastN (j := (631 + q)) (f := (μ 1)) X dX7_happens_121 122 rfl 1 rfl (by omega) (by decide) (WW E b (put μ 1 (upd (μ 1) (631 + q) 3)) a σ wr) rfl ?_
      refine g_goto X dX7_happens_122 189 rfl ?_
      exact g_vret X hr dX7_happens_189 () rfl (by refine WW_eq ?_ ?_ ?_ ?_ ?_ ?_; simp only [put_s, sc, pn_01, pn_02, pn_03, pn_04, pn_05, pn_10, pn_12, pn_13, pn_14, pn_15, pn_20, pn_21, pn_23, pn_24, pn_25, pn_30, pn_31, pn_32, pn_34, pn_35, pn_40, pn_41, pn_42, pn_43, pn_45, pn_50, pn_51, pn_52, pn_53, pn_54]; (simp only [put_s, sc, pn_01, pn_02, pn_03, pn_04, pn_05, pn_10, pn_12, pn_13, pn_14, pn_15, pn_20, pn_21, pn_23, pn_24, pn_25, pn_30, pn_31, pn_32, pn_34, pn_35, pn_40, pn_41, pn_42, pn_43, pn_45, pn_50, pn_51, pn_52, pn_53, pn_54]; exact (show (upd (μ 1) (631 + q) 3) = hpN (μ 1) j t from by rw [hpN_2F t t3 (by rw [h5, ixn (by omega)]; exact c6), show hoC (μ 1) j = q from by rw [hoC, h2, ixn (by omega)]])); simp only [put_s, sc, pn_01, pn_02, pn_03, pn_04, pn_05, pn_10, pn_12, pn_13, pn_14, pn_15, pn_20, pn_21, pn_23, pn_24, pn_25, pn_30, pn_31, pn_32, pn_34, pn_35, pn_40, pn_41, pn_42, pn_43, pn_45, pn_50, pn_51, pn_52, pn_53, pn_54]; simp only [put_s, sc, pn_01, pn_02, pn_03, pn_04, pn_05, pn_10, pn_12, pn_13, pn_14, pn_15, pn_20, pn_21, pn_23, pn_24, pn_25, pn_30, pn_31, pn_32, pn_34, pn_35, pn_40, pn_41, pn_42, pn_43, pn_45, pn_50, pn_51, pn_52, pn_53, pn_54]; (simp only [put_s, sc, pn_01, pn_02, pn_03, pn_04, pn_05, pn_10, pn_12, pn_13, pn_14, pn_15, pn_20, pn_21, pn_23, pn_24, pn_25, pn_30, pn_31, pn_32, pn_34, pn_35, pn_40, pn_41, pn_42, pn_43, pn_45, pn_50, pn_51, pn_52, pn_53, pn_54]; exact (show (μ 4) = hpK (μ 1) j (μ 4) (μ 5 0) from by rw [hpK_2F (μ 4) (μ 5 0) t3 (by rw [h5, ixn (by omega)]; exact c6)])); (simp only [put_s, sc, pn_01, pn_02, pn_03, pn_04, pn_05, pn_10, pn_12, pn_13, pn_14, pn_15, pn_20, pn_21, pn_23, pn_24, pn_25, pn_30, pn_31, pn_32, pn_34, pn_35, pn_40, pn_41, pn_42, pn_43, pn_45, pn_50, pn_51, pn_52, pn_53, pn_54]; exact (show (μ 5 0) = hpM (μ 1) j (μ 5 0) from by rw [hpM_2F (μ 5 0) t3 (by rw [h5, ixn (by omega)]; exact c6)])))
    · skip
      refine g_aload_n X dX7_happens_101 102 rfl rfl ?_
      refine g_iload_n X dX7_happens_102 103 rfl rfl ?_
      refine g_iload_n X dX7_happens_103 104 rfl rfl ?_
      refine c_V X Lk_X7_92 (k_X7_renews E l wr b μ a σ q t v hX (by first | omega | assumption) (show ∃ p : Nat, p < v ∧ ow (μ 1) ((μ 1) (651 + q)) = nI p from by have h9 := hz (by rw [t3]; decide); rwa [hoC, h2, ixn (by omega)] at h9) hL) dX7_happens_104 rfl 0 rfl rfl rfl (Nat.le_of_ble_eq_true rfl) ⟨(Nat.le_of_ble_eq_true rfl), (Nat.le_of_ble_eq_true rfl)⟩ ⟨(Nat.le_of_ble_eq_true rfl), (Nat.le_of_ble_eq_true rfl)⟩ 107 rfl [.int (bi (!rnB (μ 1) q))] rfl ?_
      refine g_pop X dX7_happens_107 108 rfl rfl ?_
      refine g_goto X dX7_happens_108 189 rfl ?_
      exact g_vret X hr dX7_happens_189 () rfl (by refine WW_eq ?_ ?_ ?_ ?_ ?_ ?_; simp only [put_s, sc, pn_01, pn_02, pn_03, pn_04, pn_05, pn_10, pn_12, pn_13, pn_14, pn_15, pn_20, pn_21, pn_23, pn_24, pn_25, pn_30, pn_31, pn_32, pn_34, pn_35, pn_40, pn_41, pn_42, pn_43, pn_45, pn_50, pn_51, pn_52, pn_53, pn_54]; (simp only [put_s, sc, pn_01, pn_02, pn_03, pn_04, pn_05, pn_10, pn_12, pn_13, pn_14, pn_15, pn_20, pn_21, pn_23, pn_24, pn_25, pn_30, pn_31, pn_32, pn_34, pn_35, pn_40, pn_41, pn_42, pn_43, pn_45, pn_50, pn_51, pn_52, pn_53, pn_54]; exact (show (rnN (μ 1) q t) = hpN (μ 1) j t from by rw [hpN_2T t t3 (by rw [h5, ixn (by omega)]; exact c6), show hoC (μ 1) j = q from by rw [hoC, h2, ixn (by omega)]])); simp only [put_s, sc, pn_01, pn_02, pn_03, pn_04, pn_05, pn_10, pn_12, pn_13, pn_14, pn_15, pn_20, pn_21, pn_23, pn_24, pn_25, pn_30, pn_31, pn_32, pn_34, pn_35, pn_40, pn_41, pn_42, pn_43, pn_45, pn_50, pn_51, pn_52, pn_53, pn_54]; simp only [put_s, sc, pn_01, pn_02, pn_03, pn_04, pn_05, pn_10, pn_12, pn_13, pn_14, pn_15, pn_20, pn_21, pn_23, pn_24, pn_25, pn_30, pn_31, pn_32, pn_34, pn_35, pn_40, pn_41, pn_42, pn_43, pn_45, pn_50, pn_51, pn_52, pn_53, pn_54]; (simp only [put_s, sc, pn_01, pn_02, pn_03, pn_04, pn_05, pn_10, pn_12, pn_13, pn_14, pn_15, pn_20, pn_21, pn_23, pn_24, pn_25, pn_30, pn_31, pn_32, pn_34, pn_35, pn_40, pn_41, pn_42, pn_43, pn_45, pn_50, pn_51, pn_52, pn_53, pn_54]; exact (show (lgM (μ 4) (μ 5 0) (rnK (μ 1) q) ((μ 1) (651 + q))) = hpK (μ 1) j (μ 4) (μ 5 0) from by rw [hpK_2T (μ 4) (μ 5 0) t3 (by rw [h5, ixn (by omega)]; exact c6), show hoC (μ 1) j = q from by rw [hoC, h2, ixn (by omega)]])); (simp only [put_s, sc, pn_01, pn_02, pn_03, pn_04, pn_05, pn_10, pn_12, pn_13, pn_14, pn_15, pn_20, pn_21, pn_23, pn_24, pn_25, pn_30, pn_31, pn_32, pn_34, pn_35, pn_40, pn_41, pn_42, pn_43, pn_45, pn_50, pn_51, pn_52, pn_53, pn_54]; exact (show (lgN (μ 5 0)) = hpM (μ 1) j (μ 5 0) from by rw [hpM_2T (μ 5 0) t3 (by rw [h5, ixn (by omega)]; exact c6)])))
  · refine g_tableIn X dX7_happens_16 109 (by rw [t4]; decide) (by rw [t4]; decide) (by rw [t4]; rfl) 125 rfl ?_
    refine g_aload_n X dX7_happens_125 126 rfl rfl ?_
    refine g_get X FL_X7_9 dX7_happens_126 129 rfl 0 rfl (v := .ref (b 1)) rfl ?_
    refine g_bipush X dX7_happens_129 131 rfl (v := 28) rfl ?_
    refine g_aload_n X dX7_happens_131 132 rfl rfl ?_
    refine g_iload_n X dX7_happens_132 133 rfl rfl ?_
    refine c_V X Lk_X7_50 (k_X7_groupOf E l wr b μ a σ (nI j) v hX) dX7_happens_133 rfl 0 rfl rfl rfl (Nat.le_of_ble_eq_true rfl) ⟨(Nat.le_of_ble_eq_true rfl), (Nat.le_of_ble_eq_true rfl)⟩ ⟨(Nat.le_of_ble_eq_true rfl), (Nat.le_of_ble_eq_true rfl)⟩ 136 rfl [.int (gr (μ 1) (nI j)), .int 28, .ref (b 1)] rfl ?_
    obtain ⟨y, hy, h3⟩ := hw
    obtain ⟨g3, hg3, h4⟩ := hX.hg y hy
    have h5 := gr_of h3 (by have := hX.hv; omega) h4
    refine g_top (nI g3) h5 ?_
    refine g_iaddN X dX7_happens_136 137 rfl 28 g3 rfl rfl ?_
    refine g_ialdN (j := (28 + g3)) (f := (μ 1)) X dX7_happens_137 138 rfl 1 rfl (by omega) (by decide) ?_
    refine g_iconst X dX7_happens_138 139 rfl (v := 1) rfl ?_
    refine g_ic_ne X dX7_happens_139 152 142 rfl rfl (fun c7 => ?_) (fun c7 => ?_)
    · skip
      refine g_aload_n X dX7_happens_152 153 rfl rfl ?_
      refine g_get X FL_X7_9 dX7_happens_153 156 rfl 0 rfl (v := .ref (b 1)) rfl ?_
      refine g_sipush X dX7_happens_156 159 rfl (v := 631) rfl ?_
      refine g_iload_n X dX7_happens_159 160 rfl rfl ?_
      refine g_iaddN X dX7_happens_160 161 rfl 631 q rfl rfl ?_
      refine g_iconst X dX7_happens_161 162 rfl (v := 4) rfl ?_
      refine g_iastN (j := (631 + q)) (f := (μ 1)) X dX7_happens_162 163 rfl 1 rfl (by omega) (by decide) (WW E b (put μ 1 (upd (μ 1) (631 + q) 4)) a σ wr) rfl ?_
      refine g_goto X dX7_happens_163 189 rfl ?_
      exact g_vret X hr dX7_happens_189 () rfl (by refine WW_eq ?_ ?_ ?_ ?_ ?_ ?_; simp only [put_s, sc, pn_01, pn_02, pn_03, pn_04, pn_05, pn_10, pn_12, pn_13, pn_14, pn_15, pn_20, pn_21, pn_23, pn_24, pn_25, pn_30, pn_31, pn_32, pn_34, pn_35, pn_40, pn_41, pn_42, pn_43, pn_45, pn_50, pn_51, pn_52, pn_53, pn_54]; (simp only [put_s, sc, pn_01, pn_02, pn_03, pn_04, pn_05, pn_10, pn_12, pn_13, pn_14, pn_15, pn_20, pn_21, pn_23, pn_24, pn_25, pn_30, pn_31, pn_32, pn_34, pn_35, pn_40, pn_41, pn_42, pn_43, pn_45, pn_50, pn_51, pn_52, pn_53, pn_54]; exact (show (upd (μ 1) (631 + q) 4) = hpN (μ 1) j t from by rw [hpN_3F t t4 (by rw [h5, ixn (by omega)]; exact c7), show hoC (μ 1) j = q from by rw [hoC, h2, ixn (by omega)]])); simp only [put_s, sc, pn_01, pn_02, pn_03, pn_04, pn_05, pn_10, pn_12, pn_13, pn_14, pn_15, pn_20, pn_21, pn_23, pn_24, pn_25, pn_30, pn_31, pn_32, pn_34, pn_35, pn_40, pn_41, pn_42, pn_43, pn_45, pn_50, pn_51, pn_52, pn_53, pn_54]; simp only [put_s, sc, pn_01, pn_02, pn_03, pn_04, pn_05, pn_10, pn_12, pn_13, pn_14, pn_15, pn_20, pn_21, pn_23, pn_24, pn_25, pn_30, pn_31, pn_32, pn_34, pn_35, pn_40, pn_41, pn_42, pn_43, pn_45, pn_50, pn_51, pn_52, pn_53, pn_54]; (simp only [put_s, sc, pn_01, pn_02, pn_03, pn_04, pn_05, pn_10, pn_12, pn_13, pn_14, pn_15, pn_20, pn_21, pn_23, pn_24, pn_25, pn_30, pn_31, pn_32, pn_34, pn_35, pn_40, pn_41, pn_42, pn_43, pn_45, pn_50, pn_51, pn_52, pn_53, pn_54]; exact (show (μ 4) = hpK (μ 1) j (μ 4) (μ 5 0) from by rw [hpK_3F (μ 4) (μ 5 0) t4 (by rw [h5, ixn (by omega)]; exact c7)])); (simp only [put_s, sc, pn_01, pn_02, pn_03, pn_04, pn_05, pn_10, pn_12, pn_13, pn_14, pn_15, pn_20, pn_21, pn_23, pn_24, pn_25, pn_30, pn_31, pn_32, pn_34, pn_35, pn_40, pn_41, pn_42, pn_43, pn_45, pn_50, pn_51, pn_52, pn_53, pn_54]; exact (show (μ 5 0) = hpM (μ 1) j (μ 5 0) from by rw [hpM_3F (μ 5 0) t4 (by rw [h5, ixn (by omega)]; exact c7)])))
    · skip
      refine g_aload_n X dX7_happens_142 143 rfl rfl ?_
      refine g_iload_n X dX7_happens_143 144 rfl rfl ?_
      refine g_iload_n X dX7_happens_144 145 rfl rfl ?_
      refine c_V X Lk_X7_92 (k_X7_renews E l wr b μ a σ q t v hX (by first | omega | assumption) (show ∃ p : Nat, p < v ∧ ow (μ 1) ((μ 1) (651 + q)) = nI p from by have h9 := hz (by rw [t4]; decide); rwa [hoC, h2, ixn (by omega)] at h9) hL) dX7_happens_145 rfl 0 rfl rfl rfl (Nat.le_of_ble_eq_true rfl) ⟨(Nat.le_of_ble_eq_true rfl), (Nat.le_of_ble_eq_true rfl)⟩ ⟨(Nat.le_of_ble_eq_true rfl), (Nat.le_of_ble_eq_true rfl)⟩ 148 rfl [.int (bi (!rnB (μ 1) q))] rfl ?_
      refine g_pop X dX7_happens_148 149 rfl rfl ?_
      refine g_goto X dX7_happens_149 189 rfl ?_
      exact g_vret X hr dX7_happens_189 () rfl (by refine WW_eq ?_ ?_ ?_ ?_ ?_ ?_; simp only [put_s, sc, pn_01, pn_02, pn_03, pn_04, pn_05, pn_10, pn_12, pn_13, pn_14, pn_15, pn_20, pn_21, pn_23, pn_24, pn_25, pn_30, pn_31, pn_32, pn_34, pn_35, pn_40, pn_41, pn_42, pn_43, pn_45, pn_50, pn_51, pn_52, pn_53, pn_54]; (simp only [put_s, sc, pn_01, pn_02, pn_03, pn_04, pn_05, pn_10, pn_12, pn_13, pn_14, pn_15, pn_20, pn_21, pn_23, pn_24, pn_25, pn_30, pn_31, pn_32, pn_34, pn_35, pn_40, pn_41, pn_42, pn_43, pn_45, pn_50, pn_51, pn_52, pn_53, pn_54]; exact (show (rnN (μ 1) q t) = hpN (μ 1) j t from by rw [hpN_3T t t4 (by rw [h5, ixn (by omega)]; exact c7), show hoC (μ 1) j = q from by rw [hoC, h2, ixn (by omega)]])); simp only [put_s, sc, pn_01, pn_02, pn_03, pn_04, pn_05, pn_10, pn_12, pn_13, pn_14, pn_15, pn_20, pn_21, pn_23, pn_24, pn_25, pn_30, pn_31, pn_32, pn_34, pn_35, pn_40, pn_41, pn_42, pn_43, pn_45, pn_50, pn_51, pn_52, pn_53, pn_54]; simp only [put_s, sc, pn_01, pn_02, pn_03, pn_04, pn_05, pn_10, pn_12, pn_13, pn_14, pn_15, pn_20, pn_21, pn_23, pn_24, pn_25, pn_30, pn_31, pn_32, pn_34, pn_35, pn_40, pn_41, pn_42, pn_43, pn_45, pn_50, pn_51, pn_52, pn_53, pn_54]; (simp only [put_s, sc, pn_01, pn_02, pn_03, pn_04, pn_05, pn_10, pn_12, pn_13, pn_14, pn_15, pn_20, pn_21, pn_23, pn_24, pn_25, pn_30, pn_31, pn_32, pn_34, pn_35, pn_40, pn_41, pn_42, pn_43, pn_45, pn_50, pn_51, pn_52, pn_53, pn_54]; exact (show (lgM (μ 4) (μ 5 0) (rnK (μ 1) q) ((μ 1) (651 + q))) = hpK (μ 1) j (μ 4) (μ 5 0) from by rw [hpK_3T (μ 4) (μ 5 0) t4 (by rw [h5, ixn (by omega)]; exact c7), show hoC (μ 1) j = q from by rw [hoC, h2, ixn (by omega)]])); (simp only [put_s, sc, pn_01, pn_02, pn_03, pn_04, pn_05, pn_10, pn_12, pn_13, pn_14, pn_15, pn_20, pn_21, pn_23, pn_24, pn_25, pn_30, pn_31, pn_32, pn_34, pn_35, pn_40, pn_41, pn_42, pn_43, pn_45, pn_50, pn_51, pn_52, pn_53, pn_54]; exact (show (lgN (μ 5 0)) = hpM (μ 1) j (μ 5 0) from by rw [hpM_3T (μ 5 0) t4 (by rw [h5, ixn (by omega)]; exact c7)])))
  · refine g_tableOut X dX7_happens_16 t5 166 rfl ?_
    refine g_aload_n X dX7_happens_166 167 rfl rfl ?_
    refine g_iload_n X dX7_happens_167 168 rfl rfl ?_
    refine g_iload_n X dX7_happens_168 169 rfl rfl ?_
    refine c_V X Lk_X7_71 (k_X7_frees E l wr b μ a σ j t (by first | omega | assumption)) dX7_happens_169 rfl 0 rfl rfl rfl (Nat.le_of_ble_eq_true rfl) ⟨(Nat.le_of_ble_eq_true rfl), (Nat.le_of_ble_eq_true rfl)⟩ ⟨(Nat.le_of_ble_eq_true rfl), (Nat.le_of_ble_eq_true rfl)⟩ 172 rfl [] rfl ?_
    refine g_aload_n X dX7_happens_172 173 rfl rfl ?_
    refine g_get X FL_X7_9 dX7_happens_173 176 rfl 0 rfl (v := .ref (b 1)) rfl ?_
    refine g_sipush X dX7_happens_176 179 rfl (v := 631) rfl ?_
    refine g_iload_n X dX7_happens_179 180 rfl rfl ?_
    refine g_iaddN X dX7_happens_180 181 rfl 631 q rfl rfl ?_
    refine g_iconst X dX7_happens_181 182 rfl (v := 0) rfl ?_
    refine g_iastN (j := (631 + q)) (f := (mFr (μ 1) j t)) X dX7_happens_182 183 rfl 1 rfl (by omega) (by decide) (WW E b (put μ 1 (upd (mFr (μ 1) j t) (631 + q) 0)) a σ wr) rfl ?_
    refine g_aload_n X dX7_happens_183 184 rfl rfl ?_
    refine g_iconst X dX7_happens_184 185 rfl (v := 5) rfl ?_
    refine g_iload_n X dX7_happens_185 186 rfl rfl ?_
    refine c_V X Lk_X7_83 (k_X7_logs E l wr b (put μ 1 (upd (mFr (μ 1) j t) (631 + q) 0)) a σ 5 (nI j) hL) dX7_happens_186 rfl 0 rfl rfl rfl (Nat.le_of_ble_eq_true rfl) ⟨(Nat.le_of_ble_eq_true rfl), (Nat.le_of_ble_eq_true rfl)⟩ ⟨(Nat.le_of_ble_eq_true rfl), (Nat.le_of_ble_eq_true rfl)⟩ 189 rfl [] rfl ?_
    exact g_vret X hr dX7_happens_189 () rfl (by refine WW_eq ?_ ?_ ?_ ?_ ?_ ?_; simp only [put_s, sc, pn_01, pn_02, pn_03, pn_04, pn_05, pn_10, pn_12, pn_13, pn_14, pn_15, pn_20, pn_21, pn_23, pn_24, pn_25, pn_30, pn_31, pn_32, pn_34, pn_35, pn_40, pn_41, pn_42, pn_43, pn_45, pn_50, pn_51, pn_52, pn_53, pn_54]; (simp only [put_s, sc, pn_01, pn_02, pn_03, pn_04, pn_05, pn_10, pn_12, pn_13, pn_14, pn_15, pn_20, pn_21, pn_23, pn_24, pn_25, pn_30, pn_31, pn_32, pn_34, pn_35, pn_40, pn_41, pn_42, pn_43, pn_45, pn_50, pn_51, pn_52, pn_53, pn_54]; exact (show (upd (mFr (μ 1) j t) (631 + q) 0) = hpN (μ 1) j t from by rw [hpN_d t t5, show hoC (μ 1) j = q from by rw [hoC, h2, ixn (by omega)]])); simp only [put_s, sc, pn_01, pn_02, pn_03, pn_04, pn_05, pn_10, pn_12, pn_13, pn_14, pn_15, pn_20, pn_21, pn_23, pn_24, pn_25, pn_30, pn_31, pn_32, pn_34, pn_35, pn_40, pn_41, pn_42, pn_43, pn_45, pn_50, pn_51, pn_52, pn_53, pn_54]; simp only [put_s, sc, pn_01, pn_02, pn_03, pn_04, pn_05, pn_10, pn_12, pn_13, pn_14, pn_15, pn_20, pn_21, pn_23, pn_24, pn_25, pn_30, pn_31, pn_32, pn_34, pn_35, pn_40, pn_41, pn_42, pn_43, pn_45, pn_50, pn_51, pn_52, pn_53, pn_54]; (simp only [put_s, sc, pn_01, pn_02, pn_03, pn_04, pn_05, pn_10, pn_12, pn_13, pn_14, pn_15, pn_20, pn_21, pn_23, pn_24, pn_25, pn_30, pn_31, pn_32, pn_34, pn_35, pn_40, pn_41, pn_42, pn_43, pn_45, pn_50, pn_51, pn_52, pn_53, pn_54]; exact (show (mLog (μ 4) (ix (lgN (μ 5 0))) 5 (nI j)) = hpK (μ 1) j (μ 4) (μ 5 0) from by rw [hpK_d (μ 4) (μ 5 0) t5, lgM])); (simp only [put_s, sc, pn_01, pn_02, pn_03, pn_04, pn_05, pn_10, pn_12, pn_13, pn_14, pn_15, pn_20, pn_21, pn_23, pn_24, pn_25, pn_30, pn_31, pn_32, pn_34, pn_35, pn_40, pn_41, pn_42, pn_43, pn_45, pn_50, pn_51, pn_52, pn_53, pn_54]; exact (show (lgN (μ 5 0)) = hpM (μ 1) j (μ 5 0) from by rw [hpM_d (μ 5 0) t5])))
