theorem bdL_le {σ : Sto} : ∀ r i k, k + r < 2 ^ 31 → ∃ j, j ≤ k + r ∧ bdL σ i r (nI k) = nI j
  | 0, _, k, _ => ⟨k, Nat.le_refl _, rfl⟩
  | r + 1, i, k, h => by
    obtain ⟨j1, h1, e1⟩ := bdL_le r (i + 1) (k + 1) (by omega)
    obtain ⟨j2, h2, e2⟩ := bdL_le r (i + 1) k (by omega)
    unfold bdL
    rw [nI_1, e1, e2]
    split
    · exact ⟨j1, by omega, rfl⟩
    · exact ⟨j2, by omega, rfl⟩
theorem bdC_le {σ : Sto} : ∃ j, j < 101 ∧ bdC σ = nI j := by
  obtain ⟨j, h, e⟩ := bdL_le (σ := σ) 20 0 0 (by decide)
  exact ⟨j, by omega, e⟩
abbrev oD (v : UInt64) : OT := .inl (some (.double v))
abbrev oF (v : UInt32) : OT := .inl (some (.float v))
def oUt (σ : Sto) (g : Int32) : OT := bif inG g then (if caL σ g 0 5 0 = 0 then oX xARE else oD (FP.ddiv (FP.i2d (gcL σ g 2 0 5 0)) (FP.i2d (caL σ g 0 5 0)))) else oX xIOB
def oAv (σ : Sto) : OT := if bdC σ = 0 then oX xARE else oF (FP.fdiv (FP.i2f (srL σ 0 20 0)) (FP.i2f (bdC σ)))
def cp3_s (σ : Sto) : Sto := put (put (put (put (put σ 22 (sc (σ 0 0))) 23 (va_cpy (σ 1) (σ 23) 0 0 5)) 24 (va_cpy (σ 2) (σ 24) 0 0 5)) 25 (va_cpy (σ 3) (σ 25) 0 0 5)) 26 (va_cpy (σ 4) (σ 26) 0 0 5)
def cp0_s (σ : Sto) : Sto := put (put (put (put (put (put σ 27 (cpR (σ 5) (σ 27) 100)) 28 (cpR (σ 6) (σ 28) 100)) 29 (va_cpy (σ 7) (σ 29) 0 0 100)) 30 (va_cpy (σ 8) (σ 30) 0 0 100)) 31 (va_cpy (σ 9) (σ 31) 0 0 100)) 32 (va_cpy (σ 10) (σ 32) 0 0 100)
def cp1_s (σ : Sto) : Sto := put (put (put (put (put σ 33 (va_cpy (σ 11) (σ 33) 0 0 20)) 34 (va_cpy (σ 12) (σ 34) 0 0 20)) 35 (va_cpy (σ 13) (σ 35) 0 0 20)) 36 (va_cpy (σ 14) (σ 36) 0 0 20)) 37 (va_cpy (σ 15) (σ 37) 0 0 20)
def cp4_s (σ : Sto) : Sto := put (put (put (put (put (put σ 38 (sc (σ 16 0))) 39 (sc (σ 17 0))) 40 (sc (σ 18 0))) 41 (sc (σ 19 0))) 42 (cpR (σ 20) (σ 42) 3)) 43 (cpR (σ 21) (σ 43) 3)
def cp5_s (σ : Sto) : Sto := cp4_s (cp1_s (cp0_s (cp3_s σ)))
def cp3_r (σ : Sto) : Sto := put (put (put (put (put σ 0 (sc (σ 22 0))) 1 (va_cpy (σ 23) (σ 1) 0 0 5)) 2 (va_cpy (σ 24) (σ 2) 0 0 5)) 3 (va_cpy (σ 25) (σ 3) 0 0 5)) 4 (va_cpy (σ 26) (σ 4) 0 0 5)
def cp0_r (σ : Sto) : Sto := put (put (put (put (put (put σ 5 (cpR (σ 27) (σ 5) 100)) 6 (cpR (σ 28) (σ 6) 100)) 7 (va_cpy (σ 29) (σ 7) 0 0 100)) 8 (va_cpy (σ 30) (σ 8) 0 0 100)) 9 (va_cpy (σ 31) (σ 9) 0 0 100)) 10 (va_cpy (σ 32) (σ 10) 0 0 100)
def cp1_r (σ : Sto) : Sto := put (put (put (put (put σ 11 (va_cpy (σ 33) (σ 11) 0 0 20)) 12 (va_cpy (σ 34) (σ 12) 0 0 20)) 13 (va_cpy (σ 35) (σ 13) 0 0 20)) 14 (va_cpy (σ 36) (σ 14) 0 0 20)) 15 (va_cpy (σ 37) (σ 15) 0 0 20)
def cp4_r (σ : Sto) : Sto := put (put (put (put (put (put σ 16 (sc (σ 38 0))) 17 (sc (σ 39 0))) 18 (sc (σ 40 0))) 19 (sc (σ 41 0))) 20 (cpR (σ 42) (σ 20) 3)) 21 (cpR (σ 43) (σ 21) 3)
def cp5_r (σ : Sto) : Sto := cp4_r (cp1_r (cp0_r (cp3_r σ)))
def svS (σ : Sto) : Sto := put (cp5_s σ) 47 (sc 1)
def oRes (σ : Sto) : OT := if σ 47 0 = 0 then oX xISE else oI (bdC (cp5_r σ))
def tRes (σ : Sto) : Sto := if σ 47 0 = 0 then σ else cp5_r σ
set_option maxHeartbeats 1000000 in
set_option maxRecDepth 100000 in
theorem k_X3_copyFrom_s (E : kE) (l : Launch) (wr : va_W) (b : Nat → Nat) (μ : Sto) (a : Nat → Nat) (σ : Sto) : KM E l yX3_copyFrom cX3_copyFrom 2 none 2 81 0 0 [.ref (a 26), .ref (a 4)] (WW E b μ a σ wr) none (WW E b μ a (cp3_s σ) wr) := by
  refine K_start (own := RX3) (by decide +kernel) rfl [(0, .ref (a 26)), (1, .ref (a 4))] rfl (Nat.le_of_ble_eq_true rfl) (fun p e s m below meth c X hr hin => ?_)
  refine g_aload_n X dX3_copyFrom_0 1 rfl rfl ?_
  refine g_aload_n X dX3_copyFrom_1 2 rfl rfl ?_
  refine g_get X FL_X3_24 dX3_copyFrom_2 5 rfl 8 rfl (v := .int (σ 0 0)) rfl ?_
  refine g_put X FL_X3_24 fk_X3 dX3_copyFrom_5 8 rfl rfl 30 rfl rfl rfl (Nat.le_of_ble_eq_true rfl) (WW E b μ a (put σ 22 (sc (σ 0 0))) wr) rfl ?_
  refine g_aload_n X dX3_copyFrom_8 9 rfl rfl ?_
  refine g_get X FL_X3_9 dX3_copyFrom_9 12 rfl 8 rfl (v := .ref (a 5)) rfl ?_
  refine g_aload_n X dX3_copyFrom_12 13 rfl rfl ?_
  refine g_get X FL_X3_9 dX3_copyFrom_13 16 rfl 30 rfl (v := .ref (a 27)) rfl ?_
  refine c_N X Lk_X3_36 (k_copyN E l _ 9 31 rfl rfl (by decide) (WW E b μ a (put (put σ 22 (sc (σ 0 0))) 23 (va_cpy (σ 1) (σ 23) 0 0 5)) wr) rfl) dX3_copyFrom_16 rfl rfl (Nat.le_of_ble_eq_true rfl) ⟨(Nat.le_of_ble_eq_true rfl), (Nat.le_of_ble_eq_true rfl)⟩ ⟨(Nat.le_of_ble_eq_true rfl), (Nat.le_of_ble_eq_true rfl)⟩ 19 rfl [] rfl ?_
  refine g_aload_n X dX3_copyFrom_19 20 rfl rfl ?_
  refine g_get X FL_X3_15 dX3_copyFrom_20 23 rfl 8 rfl (v := .ref (a 6)) rfl ?_
  refine g_aload_n X dX3_copyFrom_23 24 rfl rfl ?_
  refine g_get X FL_X3_15 dX3_copyFrom_24 27 rfl 30 rfl (v := .ref (a 28)) rfl ?_
  refine c_N X Lk_X3_36 (k_copyN E l _ 10 32 rfl rfl (by decide) (WW E b μ a (put (put (put σ 22 (sc (σ 0 0))) 23 (va_cpy (σ 1) (σ 23) 0 0 5)) 24 (va_cpy (σ 2) (σ 24) 0 0 5)) wr) rfl) dX3_copyFrom_27 rfl rfl (Nat.le_of_ble_eq_true rfl) ⟨(Nat.le_of_ble_eq_true rfl), (Nat.le_of_ble_eq_true rfl)⟩ ⟨(Nat.le_of_ble_eq_true rfl), (Nat.le_of_ble_eq_true rfl)⟩ 30 rfl [] rfl ?_
  refine g_aload_n X dX3_copyFrom_30 31 rfl rfl ?_
  refine g_get X FL_X3_18 dX3_copyFrom_31 34 rfl 8 rfl (v := .ref (a 7)) rfl ?_
  refine g_aload_n X dX3_copyFrom_34 35 rfl rfl ?_
  refine g_get X FL_X3_18 dX3_copyFrom_35 38 rfl 30 rfl (v := .ref (a 29)) rfl ?_
  refine c_N X Lk_X3_36 (k_copyN E l _ 11 33 rfl rfl (by decide) (WW E b μ a (put (put (put (put σ 22 (sc (σ 0 0))) 23 (va_cpy (σ 1) (σ 23) 0 0 5)) 24 (va_cpy (σ 2) (σ 24) 0 0 5)) 25 (va_cpy (σ 3) (σ 25) 0 0 5)) wr) rfl) dX3_copyFrom_38 rfl rfl (Nat.le_of_ble_eq_true rfl) ⟨(Nat.le_of_ble_eq_true rfl), (Nat.le_of_ble_eq_true rfl)⟩ ⟨(Nat.le_of_ble_eq_true rfl), (Nat.le_of_ble_eq_true rfl)⟩ 41 rfl [] rfl ?_
  refine g_aload_n X dX3_copyFrom_41 42 rfl rfl ?_
  refine g_get X FL_X3_21 dX3_copyFrom_42 45 rfl 8 rfl (v := .ref (a 8)) rfl ?_
  refine g_aload_n X dX3_copyFrom_45 46 rfl rfl ?_
  refine g_get X FL_X3_21 dX3_copyFrom_46 49 rfl 30 rfl (v := .ref (a 30)) rfl ?_
  refine c_N X Lk_X3_36 (k_copyN E l _ 12 34 rfl rfl (by decide) (WW E b μ a (put (put (put (put (put σ 22 (sc (σ 0 0))) 23 (va_cpy (σ 1) (σ 23) 0 0 5)) 24 (va_cpy (σ 2) (σ 24) 0 0 5)) 25 (va_cpy (σ 3) (σ 25) 0 0 5)) 26 (va_cpy (σ 4) (σ 26) 0 0 5)) wr) rfl) dX3_copyFrom_49 rfl rfl (Nat.le_of_ble_eq_true rfl) ⟨(Nat.le_of_ble_eq_true rfl), (Nat.le_of_ble_eq_true rfl)⟩ ⟨(Nat.le_of_ble_eq_true rfl), (Nat.le_of_ble_eq_true rfl)⟩ 52 rfl [] rfl ?_
  exact g_vret X hr dX3_copyFrom_52 () rfl rfl

set_option maxHeartbeats 1000000 in
set_option maxRecDepth 100000 in
theorem k_X0_copyFrom_s (E : kE) (l : Launch) (wr : va_W) (b : Nat → Nat) (μ : Sto) (a : Nat → Nat) (σ : Sto) (hf5 : FLG (σ 5) 100) (hf6 : FLG (σ 6) 100) : KM E l yX0_copyFrom cX0_copyFrom 2 none 2 81 0 0 [.ref (a 31), .ref (a 9)] (WW E b μ a σ wr) none (WW E b μ a (cp0_s σ) wr) := by
  refine K_start (own := RX0) (by decide +kernel) rfl [(0, .ref (a 31)), (1, .ref (a 9))] rfl (Nat.le_of_ble_eq_true rfl) (fun p e s m below meth c X hr hin => ?_)
  refine g_aload_n X dX0_copyFrom_0 1 rfl rfl ?_
  refine g_get X FL_X0_9 dX0_copyFrom_1 4 rfl 13 rfl (v := .ref (a 10)) rfl ?_
  refine g_aload_n X dX0_copyFrom_4 5 rfl rfl ?_
  refine g_get X FL_X0_9 dX0_copyFrom_5 8 rfl 35 rfl (v := .ref (a 32)) rfl ?_
  refine c_N X Lk_X0_66 (k_copyF E l _ 14 36 (by decide) rfl rfl (show FLG _ _ from hf5) (by decide) (WW E b μ a (put σ 27 (cpR (σ 5) (σ 27) 100)) wr) rfl) dX0_copyFrom_8 rfl rfl (Nat.le_of_ble_eq_true rfl) ⟨(Nat.le_of_ble_eq_true rfl), (Nat.le_of_ble_eq_true rfl)⟩ ⟨(Nat.le_of_ble_eq_true rfl), (Nat.le_of_ble_eq_true rfl)⟩ 11 rfl [] rfl ?_
  refine g_aload_n X dX0_copyFrom_11 12 rfl rfl ?_
  refine g_get X FL_X0_15 dX0_copyFrom_12 15 rfl 13 rfl (v := .ref (a 11)) rfl ?_
  refine g_aload_n X dX0_copyFrom_15 16 rfl rfl ?_
  refine g_get X FL_X0_15 dX0_copyFrom_16 19 rfl 35 rfl (v := .ref (a 33)) rfl ?_
  refine c_N X Lk_X0_66 (k_copyF E l _ 15 37 (by decide) rfl rfl (show FLG _ _ from hf6) (by decide) (WW E b μ a (put (put σ 27 (cpR (σ 5) (σ 27) 100)) 28 (cpR (σ 6) (σ 28) 100)) wr) rfl) dX0_copyFrom_19 rfl rfl (Nat.le_of_ble_eq_true rfl) ⟨(Nat.le_of_ble_eq_true rfl), (Nat.le_of_ble_eq_true rfl)⟩ ⟨(Nat.le_of_ble_eq_true rfl), (Nat.le_of_ble_eq_true rfl)⟩ 22 rfl [] rfl ?_
  refine g_aload_n X dX0_copyFrom_22 23 rfl rfl ?_
  refine g_get X FL_X0_18 dX0_copyFrom_23 26 rfl 13 rfl (v := .ref (a 12)) rfl ?_
  refine g_aload_n X dX0_copyFrom_26 27 rfl rfl ?_
  refine g_get X FL_X0_18 dX0_copyFrom_27 30 rfl 35 rfl (v := .ref (a 34)) rfl ?_
  refine c_N X Lk_X0_70 (k_copyN E l _ 16 38 rfl rfl (by decide) (WW E b μ a (put (put (put σ 27 (cpR (σ 5) (σ 27) 100)) 28 (cpR (σ 6) (σ 28) 100)) 29 (va_cpy (σ 7) (σ 29) 0 0 100)) wr) rfl) dX0_copyFrom_30 rfl rfl (Nat.le_of_ble_eq_true rfl) ⟨(Nat.le_of_ble_eq_true rfl), (Nat.le_of_ble_eq_true rfl)⟩ ⟨(Nat.le_of_ble_eq_true rfl), (Nat.le_of_ble_eq_true rfl)⟩ 33 rfl [] rfl ?_
  refine g_aload_n X dX0_copyFrom_33 34 rfl rfl ?_
  refine g_get X FL_X0_22 dX0_copyFrom_34 37 rfl 13 rfl (v := .ref (a 13)) rfl ?_
  refine g_aload_n X dX0_copyFrom_37 38 rfl rfl ?_
  refine g_get X FL_X0_22 dX0_copyFrom_38 41 rfl 35 rfl (v := .ref (a 35)) rfl ?_
  refine c_N X Lk_X0_70 (k_copyN E l _ 17 39 rfl rfl (by decide) (WW E b μ a (put (put (put (put σ 27 (cpR (σ 5) (σ 27) 100)) 28 (cpR (σ 6) (σ 28) 100)) 29 (va_cpy (σ 7) (σ 29) 0 0 100)) 30 (va_cpy (σ 8) (σ 30) 0 0 100)) wr) rfl) dX0_copyFrom_41 rfl rfl (Nat.le_of_ble_eq_true rfl) ⟨(Nat.le_of_ble_eq_true rfl), (Nat.le_of_ble_eq_true rfl)⟩ ⟨(Nat.le_of_ble_eq_true rfl), (Nat.le_of_ble_eq_true rfl)⟩ 44 rfl [] rfl ?_
  refine g_aload_n X dX0_copyFrom_44 45 rfl rfl ?_
  refine g_get X FL_X0_25 dX0_copyFrom_45 48 rfl 13 rfl (v := .ref (a 14)) rfl ?_
  refine g_aload_n X dX0_copyFrom_48 49 rfl rfl ?_
  refine g_get X FL_X0_25 dX0_copyFrom_49 52 rfl 35 rfl (v := .ref (a 36)) rfl ?_
  refine c_N X Lk_X0_70 (k_copyN E l _ 18 40 rfl rfl (by decide) (WW E b μ a (put (put (put (put (put σ 27 (cpR (σ 5) (σ 27) 100)) 28 (cpR (σ 6) (σ 28) 100)) 29 (va_cpy (σ 7) (σ 29) 0 0 100)) 30 (va_cpy (σ 8) (σ 30) 0 0 100)) 31 (va_cpy (σ 9) (σ 31) 0 0 100)) wr) rfl) dX0_copyFrom_52 rfl rfl (Nat.le_of_ble_eq_true rfl) ⟨(Nat.le_of_ble_eq_true rfl), (Nat.le_of_ble_eq_true rfl)⟩ ⟨(Nat.le_of_ble_eq_true rfl), (Nat.le_of_ble_eq_true rfl)⟩ 55 rfl [] rfl ?_
  refine g_aload_n X dX0_copyFrom_55 56 rfl rfl ?_
  refine g_get X FL_X0_28 dX0_copyFrom_56 59 rfl 13 rfl (v := .ref (a 15)) rfl ?_
  refine g_aload_n X dX0_copyFrom_59 60 rfl rfl ?_
  refine g_get X FL_X0_28 dX0_copyFrom_60 63 rfl 35 rfl (v := .ref (a 37)) rfl ?_
  refine c_N X Lk_X0_70 (k_copyN E l _ 19 41 rfl rfl (by decide) (WW E b μ a (put (put (put (put (put (put σ 27 (cpR (σ 5) (σ 27) 100)) 28 (cpR (σ 6) (σ 28) 100)) 29 (va_cpy (σ 7) (σ 29) 0 0 100)) 30 (va_cpy (σ 8) (σ 30) 0 0 100)) 31 (va_cpy (σ 9) (σ 31) 0 0 100)) 32 (va_cpy (σ 10) (σ 32) 0 0 100)) wr) rfl) dX0_copyFrom_63 rfl rfl (Nat.le_of_ble_eq_true rfl) ⟨(Nat.le_of_ble_eq_true rfl), (Nat.le_of_ble_eq_true rfl)⟩ ⟨(Nat.le_of_ble_eq_true rfl), (Nat.le_of_ble_eq_true rfl)⟩ 66 rfl [] rfl ?_
  exact g_vret X hr dX0_copyFrom_66 () rfl rfl

set_option maxHeartbeats 1000000 in
set_option maxRecDepth 100000 in
theorem k_X1_copyFrom_s (E : kE) (l : Launch) (wr : va_W) (b : Nat → Nat) (μ : Sto) (a : Nat → Nat) (σ : Sto) : KM E l yX1_copyFrom cX1_copyFrom 2 none 2 81 0 0 [.ref (a 38), .ref (a 16)] (WW E b μ a σ wr) none (WW E b μ a (cp1_s σ) wr) := by
  refine K_start (own := RX1) (by decide +kernel) rfl [(0, .ref (a 38)), (1, .ref (a 16))] rfl (Nat.le_of_ble_eq_true rfl) (fun p e s m below meth c X hr hin => ?_)
  refine g_aload_n X dX1_copyFrom_0 1 rfl rfl ?_
  refine g_get X FL_X1_9 dX1_copyFrom_1 4 rfl 20 rfl (v := .ref (a 17)) rfl ?_
  refine g_aload_n X dX1_copyFrom_4 5 rfl rfl ?_
  refine g_get X FL_X1_9 dX1_copyFrom_5 8 rfl 42 rfl (v := .ref (a 39)) rfl ?_
  refine c_N X Lk_X1_40 (k_copyN E l _ 21 43 rfl rfl (by decide) (WW E b μ a (put σ 33 (va_cpy (σ 11) (σ 33) 0 0 20)) wr) rfl) dX1_copyFrom_8 rfl rfl (Nat.le_of_ble_eq_true rfl) ⟨(Nat.le_of_ble_eq_true rfl), (Nat.le_of_ble_eq_true rfl)⟩ ⟨(Nat.le_of_ble_eq_true rfl), (Nat.le_of_ble_eq_true rfl)⟩ 11 rfl [] rfl ?_
  refine g_aload_n X dX1_copyFrom_11 12 rfl rfl ?_
  refine g_get X FL_X1_15 dX1_copyFrom_12 15 rfl 20 rfl (v := .ref (a 18)) rfl ?_
  refine g_aload_n X dX1_copyFrom_15 16 rfl rfl ?_
  refine g_get X FL_X1_15 dX1_copyFrom_16 19 rfl 42 rfl (v := .ref (a 40)) rfl ?_
  refine c_N X Lk_X1_40 (k_copyN E l _ 22 44 rfl rfl (by decide) (WW E b μ a (put (put σ 33 (va_cpy (σ 11) (σ 33) 0 0 20)) 34 (va_cpy (σ 12) (σ 34) 0 0 20)) wr) rfl) dX1_copyFrom_19 rfl rfl (Nat.le_of_ble_eq_true rfl) ⟨(Nat.le_of_ble_eq_true rfl), (Nat.le_of_ble_eq_true rfl)⟩ ⟨(Nat.le_of_ble_eq_true rfl), (Nat.le_of_ble_eq_true rfl)⟩ 22 rfl [] rfl ?_
  refine g_aload_n X dX1_copyFrom_22 23 rfl rfl ?_
  refine g_get X FL_X1_18 dX1_copyFrom_23 26 rfl 20 rfl (v := .ref (a 19)) rfl ?_
  refine g_aload_n X dX1_copyFrom_26 27 rfl rfl ?_
  refine g_get X FL_X1_18 dX1_copyFrom_27 30 rfl 42 rfl (v := .ref (a 41)) rfl ?_
  refine c_N X Lk_X1_40 (k_copyN E l _ 23 45 rfl rfl (by decide) (WW E b μ a (put (put (put σ 33 (va_cpy (σ 11) (σ 33) 0 0 20)) 34 (va_cpy (σ 12) (σ 34) 0 0 20)) 35 (va_cpy (σ 13) (σ 35) 0 0 20)) wr) rfl) dX1_copyFrom_30 rfl rfl (Nat.le_of_ble_eq_true rfl) ⟨(Nat.le_of_ble_eq_true rfl), (Nat.le_of_ble_eq_true rfl)⟩ ⟨(Nat.le_of_ble_eq_true rfl), (Nat.le_of_ble_eq_true rfl)⟩ 33 rfl [] rfl ?_
  refine g_aload_n X dX1_copyFrom_33 34 rfl rfl ?_
  refine g_get X FL_X1_21 dX1_copyFrom_34 37 rfl 20 rfl (v := .ref (a 20)) rfl ?_
  refine g_aload_n X dX1_copyFrom_37 38 rfl rfl ?_
  refine g_get X FL_X1_21 dX1_copyFrom_38 41 rfl 42 rfl (v := .ref (a 42)) rfl ?_
  refine c_N X Lk_X1_40 (k_copyN E l _ 24 46 rfl rfl (by decide) (WW E b μ a (put (put (put (put σ 33 (va_cpy (σ 11) (σ 33) 0 0 20)) 34 (va_cpy (σ 12) (σ 34) 0 0 20)) 35 (va_cpy (σ 13) (σ 35) 0 0 20)) 36 (va_cpy (σ 14) (σ 36) 0 0 20)) wr) rfl) dX1_copyFrom_41 rfl rfl (Nat.le_of_ble_eq_true rfl) ⟨(Nat.le_of_ble_eq_true rfl), (Nat.le_of_ble_eq_true rfl)⟩ ⟨(Nat.le_of_ble_eq_true rfl), (Nat.le_of_ble_eq_true rfl)⟩ 44 rfl [] rfl ?_
  refine g_aload_n X dX1_copyFrom_44 45 rfl rfl ?_
  refine g_get X FL_X1_24 dX1_copyFrom_45 48 rfl 20 rfl (v := .ref (a 21)) rfl ?_
  refine g_aload_n X dX1_copyFrom_48 49 rfl rfl ?_
  refine g_get X FL_X1_24 dX1_copyFrom_49 52 rfl 42 rfl (v := .ref (a 43)) rfl ?_
  refine c_N X Lk_X1_40 (k_copyN E l _ 25 47 rfl rfl (by decide) (WW E b μ a (put (put (put (put (put σ 33 (va_cpy (σ 11) (σ 33) 0 0 20)) 34 (va_cpy (σ 12) (σ 34) 0 0 20)) 35 (va_cpy (σ 13) (σ 35) 0 0 20)) 36 (va_cpy (σ 14) (σ 36) 0 0 20)) 37 (va_cpy (σ 15) (σ 37) 0 0 20)) wr) rfl) dX1_copyFrom_52 rfl rfl (Nat.le_of_ble_eq_true rfl) ⟨(Nat.le_of_ble_eq_true rfl), (Nat.le_of_ble_eq_true rfl)⟩ ⟨(Nat.le_of_ble_eq_true rfl), (Nat.le_of_ble_eq_true rfl)⟩ 55 rfl [] rfl ?_
  exact g_vret X hr dX1_copyFrom_55 () rfl rfl

set_option maxHeartbeats 1000000 in
set_option maxRecDepth 100000 in
theorem k_X4_copyFrom_s (E : kE) (l : Launch) (wr : va_W) (b : Nat → Nat) (μ : Sto) (a : Nat → Nat) (σ : Sto) (hf20 : FLG (σ 20) 3) (hf21 : FLG (σ 21) 3) : KM E l yX4_copyFrom cX4_copyFrom 2 none 1 22 0 0 [.ref (a 44), .ref (a 22)] (WW E b μ a σ wr) none (WW E b μ a (cp4_s σ) wr) := by
  refine K_start (own := RX4) (by decide +kernel) rfl [(0, .ref (a 44)), (1, .ref (a 22))] rfl (Nat.le_of_ble_eq_true rfl) (fun p e s m below meth c X hr hin => ?_)
  refine g_aload_n X dX4_copyFrom_0 1 rfl rfl ?_
  refine g_aload_n X dX4_copyFrom_1 2 rfl rfl ?_
  refine g_get X FL_X4_25 dX4_copyFrom_2 5 rfl 26 rfl (v := .int (σ 16 0)) rfl ?_
  refine g_put X FL_X4_25 fk_X4 dX4_copyFrom_5 8 rfl rfl 48 rfl rfl rfl (Nat.le_of_ble_eq_true rfl) (WW E b μ a (put σ 38 (sc (σ 16 0))) wr) rfl ?_
  refine g_aload_n X dX4_copyFrom_8 9 rfl rfl ?_
  refine g_aload_n X dX4_copyFrom_9 10 rfl rfl ?_
  refine g_get X FL_X4_9 dX4_copyFrom_10 13 rfl 26 rfl (v := .int (σ 17 0)) rfl ?_
  refine g_put X FL_X4_9 fk_X4 dX4_copyFrom_13 16 rfl rfl 48 rfl rfl rfl (Nat.le_of_ble_eq_true rfl) (WW E b μ a (put (put σ 38 (sc (σ 16 0))) 39 (sc (σ 17 0))) wr) rfl ?_
  refine g_aload_n X dX4_copyFrom_16 17 rfl rfl ?_
  refine g_aload_n X dX4_copyFrom_17 18 rfl rfl ?_
  refine g_get X FL_X4_15 dX4_copyFrom_18 21 rfl 26 rfl (v := .int (σ 18 0)) rfl ?_
  refine g_put X FL_X4_15 fk_X4 dX4_copyFrom_21 24 rfl rfl 48 rfl rfl rfl (Nat.le_of_ble_eq_true rfl) (WW E b μ a (put (put (put σ 38 (sc (σ 16 0))) 39 (sc (σ 17 0))) 40 (sc (σ 18 0))) wr) rfl ?_
  refine g_aload_n X dX4_copyFrom_24 25 rfl rfl ?_
  refine g_aload_n X dX4_copyFrom_25 26 rfl rfl ?_
  refine g_get X FL_X4_28 dX4_copyFrom_26 29 rfl 26 rfl (v := .int (σ 19 0)) rfl ?_
  refine g_put X FL_X4_28 fk_X4 dX4_copyFrom_29 32 rfl rfl 48 rfl rfl rfl (Nat.le_of_ble_eq_true rfl) (WW E b μ a (put (put (put (put σ 38 (sc (σ 16 0))) 39 (sc (σ 17 0))) 40 (sc (σ 18 0))) 41 (sc (σ 19 0))) wr) rfl ?_
  refine g_aload_n X dX4_copyFrom_32 33 rfl rfl ?_
  refine g_get X FL_X4_18 dX4_copyFrom_33 36 rfl 26 rfl (v := .ref (a 23)) rfl ?_
  refine g_aload_n X dX4_copyFrom_36 37 rfl rfl ?_
  refine g_get X FL_X4_18 dX4_copyFrom_37 40 rfl 48 rfl (v := .ref (a 45)) rfl ?_
  refine c_N X Lk_X4_31 (k_copyF E l _ 27 49 (by decide) rfl rfl (show FLG _ _ from hf20) (by decide) (WW E b μ a (put (put (put (put (put σ 38 (sc (σ 16 0))) 39 (sc (σ 17 0))) 40 (sc (σ 18 0))) 41 (sc (σ 19 0))) 42 (cpR (σ 20) (σ 42) 3)) wr) rfl) dX4_copyFrom_40 rfl rfl (Nat.le_of_ble_eq_true rfl) ⟨(Nat.le_of_ble_eq_true rfl), (Nat.le_of_ble_eq_true rfl)⟩ ⟨(Nat.le_of_ble_eq_true rfl), (Nat.le_of_ble_eq_true rfl)⟩ 43 rfl [] rfl ?_
  refine g_aload_n X dX4_copyFrom_43 44 rfl rfl ?_
  refine g_get X FL_X4_22 dX4_copyFrom_44 47 rfl 26 rfl (v := .ref (a 24)) rfl ?_
  refine g_aload_n X dX4_copyFrom_47 48 rfl rfl ?_
  refine g_get X FL_X4_22 dX4_copyFrom_48 51 rfl 48 rfl (v := .ref (a 46)) rfl ?_
  refine c_N X Lk_X4_31 (k_copyF E l _ 28 50 (by decide) rfl rfl (show FLG _ _ from hf21) (by decide) (WW E b μ a (put (put (put (put (put (put σ 38 (sc (σ 16 0))) 39 (sc (σ 17 0))) 40 (sc (σ 18 0))) 41 (sc (σ 19 0))) 42 (cpR (σ 20) (σ 42) 3)) 43 (cpR (σ 21) (σ 43) 3)) wr) rfl) dX4_copyFrom_51 rfl rfl (Nat.le_of_ble_eq_true rfl) ⟨(Nat.le_of_ble_eq_true rfl), (Nat.le_of_ble_eq_true rfl)⟩ ⟨(Nat.le_of_ble_eq_true rfl), (Nat.le_of_ble_eq_true rfl)⟩ 54 rfl [] rfl ?_
  exact g_vret X hr dX4_copyFrom_54 () rfl rfl

set_option maxHeartbeats 1000000 in
set_option maxRecDepth 100000 in
theorem k_X5_copyFrom_s (E : kE) (l : Launch) (wr : va_W) (b : Nat → Nat) (μ : Sto) (a : Nat → Nat) (σ : Sto) (hf5 : FLG (σ 5) 100) (hf6 : FLG (σ 6) 100) (hf20 : FLG (σ 20) 3) (hf21 : FLG (σ 21) 3) : KM E l yX5_copyFrom cX5_copyFrom 2 none 3 102 0 0 [.ref (a 25), .ref (a 3)] (WW E b μ a σ wr) none (WW E b μ a (cp5_s σ) wr) := by
  refine K_start (own := RX5) (by decide +kernel) rfl [(0, .ref (a 25)), (1, .ref (a 3))] rfl (Nat.le_of_ble_eq_true rfl) (fun p e s m below meth c X hr hin => ?_)
  refine g_aload_n X dX5_copyFrom_0 1 rfl rfl ?_
  refine g_get X FL_X5_12 dX5_copyFrom_1 4 rfl 29 rfl (v := .ref (a 26)) rfl ?_
  refine g_aload_n X dX5_copyFrom_4 5 rfl rfl ?_
  refine g_get X FL_X5_12 dX5_copyFrom_5 8 rfl 7 rfl (v := .ref (a 4)) rfl ?_
  refine c_V X Lk_X5_43 (k_X3_copyFrom_s E l wr b μ a σ) dX5_copyFrom_8 rfl 30 rfl rfl rfl (Nat.le_of_ble_eq_true rfl) ⟨(Nat.le_of_ble_eq_true rfl), (Nat.le_of_ble_eq_true rfl)⟩ ⟨(Nat.le_of_ble_eq_true rfl), (Nat.le_of_ble_eq_true rfl)⟩ 11 rfl [] rfl ?_
  refine g_aload_n X dX5_copyFrom_11 12 rfl rfl ?_
  refine g_get X FL_X5_21 dX5_copyFrom_12 15 rfl 29 rfl (v := .ref (a 31)) rfl ?_
  refine g_aload_n X dX5_copyFrom_15 16 rfl rfl ?_
  refine g_get X FL_X5_21 dX5_copyFrom_16 19 rfl 7 rfl (v := .ref (a 9)) rfl ?_
  refine c_V X Lk_X5_47 (k_X0_copyFrom_s E l wr b μ a (cp3_s σ) (show FLG _ _ from hf5) (show FLG _ _ from hf6)) dX5_copyFrom_19 rfl 35 rfl rfl rfl (Nat.le_of_ble_eq_true rfl) ⟨(Nat.le_of_ble_eq_true rfl), (Nat.le_of_ble_eq_true rfl)⟩ ⟨(Nat.le_of_ble_eq_true rfl), (Nat.le_of_ble_eq_true rfl)⟩ 22 rfl [] rfl ?_
  refine g_aload_n X dX5_copyFrom_22 23 rfl rfl ?_
  refine g_get X FL_X5_28 dX5_copyFrom_23 26 rfl 29 rfl (v := .ref (a 38)) rfl ?_
  refine g_aload_n X dX5_copyFrom_26 27 rfl rfl ?_
  refine g_get X FL_X5_28 dX5_copyFrom_27 30 rfl 7 rfl (v := .ref (a 16)) rfl ?_
  refine c_V X Lk_X5_50 (k_X1_copyFrom_s E l wr b μ a (cp0_s (cp3_s σ))) dX5_copyFrom_30 rfl 42 rfl rfl rfl (Nat.le_of_ble_eq_true rfl) ⟨(Nat.le_of_ble_eq_true rfl), (Nat.le_of_ble_eq_true rfl)⟩ ⟨(Nat.le_of_ble_eq_true rfl), (Nat.le_of_ble_eq_true rfl)⟩ 33 rfl [] rfl ?_
  refine g_aload_n X dX5_copyFrom_33 34 rfl rfl ?_
  refine g_get X FL_X5_35 dX5_copyFrom_34 37 rfl 29 rfl (v := .ref (a 44)) rfl ?_
  refine g_aload_n X dX5_copyFrom_37 38 rfl rfl ?_
  refine g_get X FL_X5_35 dX5_copyFrom_38 41 rfl 7 rfl (v := .ref (a 22)) rfl ?_
  refine c_V X Lk_X5_53 (k_X4_copyFrom_s E l wr b μ a (cp1_s (cp0_s (cp3_s σ))) (show FLG _ _ from hf20) (show FLG _ _ from hf21)) dX5_copyFrom_41 rfl 48 rfl rfl rfl (Nat.le_of_ble_eq_true rfl) ⟨(Nat.le_of_ble_eq_true rfl), (Nat.le_of_ble_eq_true rfl)⟩ ⟨(Nat.le_of_ble_eq_true rfl), (Nat.le_of_ble_eq_true rfl)⟩ 44 rfl [] rfl ?_
  exact g_vret X hr dX5_copyFrom_44 () rfl rfl

set_option maxHeartbeats 1000000 in
set_option maxRecDepth 100000 in
theorem k_X3_copyFrom_r (E : kE) (l : Launch) (wr : va_W) (b : Nat → Nat) (μ : Sto) (a : Nat → Nat) (σ : Sto) : KM E l yX3_copyFrom cX3_copyFrom 2 none 2 81 0 0 [.ref (a 4), .ref (a 26)] (WW E b μ a σ wr) none (WW E b μ a (cp3_r σ) wr) := by
  refine K_start (own := RX3) (by decide +kernel) rfl [(0, .ref (a 4)), (1, .ref (a 26))] rfl (Nat.le_of_ble_eq_true rfl) (fun p e s m below meth c X hr hin => ?_)
  refine g_aload_n X dX3_copyFrom_0 1 rfl rfl ?_
  refine g_aload_n X dX3_copyFrom_1 2 rfl rfl ?_
  refine g_get X FL_X3_24 dX3_copyFrom_2 5 rfl 30 rfl (v := .int (σ 22 0)) rfl ?_
  refine g_put X FL_X3_24 fk_X3 dX3_copyFrom_5 8 rfl rfl 8 rfl rfl rfl (Nat.le_of_ble_eq_true rfl) (WW E b μ a (put σ 0 (sc (σ 22 0))) wr) rfl ?_
  refine g_aload_n X dX3_copyFrom_8 9 rfl rfl ?_
  refine g_get X FL_X3_9 dX3_copyFrom_9 12 rfl 30 rfl (v := .ref (a 27)) rfl ?_
  refine g_aload_n X dX3_copyFrom_12 13 rfl rfl ?_
  refine g_get X FL_X3_9 dX3_copyFrom_13 16 rfl 8 rfl (v := .ref (a 5)) rfl ?_
  refine c_N X Lk_X3_36 (k_copyN E l _ 31 9 rfl rfl (by decide) (WW E b μ a (put (put σ 0 (sc (σ 22 0))) 1 (va_cpy (σ 23) (σ 1) 0 0 5)) wr) rfl) dX3_copyFrom_16 rfl rfl (Nat.le_of_ble_eq_true rfl) ⟨(Nat.le_of_ble_eq_true rfl), (Nat.le_of_ble_eq_true rfl)⟩ ⟨(Nat.le_of_ble_eq_true rfl), (Nat.le_of_ble_eq_true rfl)⟩ 19 rfl [] rfl ?_
  refine g_aload_n X dX3_copyFrom_19 20 rfl rfl ?_
  refine g_get X FL_X3_15 dX3_copyFrom_20 23 rfl 30 rfl (v := .ref (a 28)) rfl ?_
  refine g_aload_n X dX3_copyFrom_23 24 rfl rfl ?_
  refine g_get X FL_X3_15 dX3_copyFrom_24 27 rfl 8 rfl (v := .ref (a 6)) rfl ?_
  refine c_N X Lk_X3_36 (k_copyN E l _ 32 10 rfl rfl (by decide) (WW E b μ a (put (put (put σ 0 (sc (σ 22 0))) 1 (va_cpy (σ 23) (σ 1) 0 0 5)) 2 (va_cpy (σ 24) (σ 2) 0 0 5)) wr) rfl) dX3_copyFrom_27 rfl rfl (Nat.le_of_ble_eq_true rfl) ⟨(Nat.le_of_ble_eq_true rfl), (Nat.le_of_ble_eq_true rfl)⟩ ⟨(Nat.le_of_ble_eq_true rfl), (Nat.le_of_ble_eq_true rfl)⟩ 30 rfl [] rfl ?_
  refine g_aload_n X dX3_copyFrom_30 31 rfl rfl ?_
  refine g_get X FL_X3_18 dX3_copyFrom_31 34 rfl 30 rfl (v := .ref (a 29)) rfl ?_
  refine g_aload_n X dX3_copyFrom_34 35 rfl rfl ?_
  refine g_get X FL_X3_18 dX3_copyFrom_35 38 rfl 8 rfl (v := .ref (a 7)) rfl ?_
  refine c_N X Lk_X3_36 (k_copyN E l _ 33 11 rfl rfl (by decide) (WW E b μ a (put (put (put (put σ 0 (sc (σ 22 0))) 1 (va_cpy (σ 23) (σ 1) 0 0 5)) 2 (va_cpy (σ 24) (σ 2) 0 0 5)) 3 (va_cpy (σ 25) (σ 3) 0 0 5)) wr) rfl) dX3_copyFrom_38 rfl rfl (Nat.le_of_ble_eq_true rfl) ⟨(Nat.le_of_ble_eq_true rfl), (Nat.le_of_ble_eq_true rfl)⟩ ⟨(Nat.le_of_ble_eq_true rfl), (Nat.le_of_ble_eq_true rfl)⟩ 41 rfl [] rfl ?_
  refine g_aload_n X dX3_copyFrom_41 42 rfl rfl ?_
  refine g_get X FL_X3_21 dX3_copyFrom_42 45 rfl 30 rfl (v := .ref (a 30)) rfl ?_
  refine g_aload_n X dX3_copyFrom_45 46 rfl rfl ?_
  refine g_get X FL_X3_21 dX3_copyFrom_46 49 rfl 8 rfl (v := .ref (a 8)) rfl ?_
  refine c_N X Lk_X3_36 (k_copyN E l _ 34 12 rfl rfl (by decide) (WW E b μ a (put (put (put (put (put σ 0 (sc (σ 22 0))) 1 (va_cpy (σ 23) (σ 1) 0 0 5)) 2 (va_cpy (σ 24) (σ 2) 0 0 5)) 3 (va_cpy (σ 25) (σ 3) 0 0 5)) 4 (va_cpy (σ 26) (σ 4) 0 0 5)) wr) rfl) dX3_copyFrom_49 rfl rfl (Nat.le_of_ble_eq_true rfl) ⟨(Nat.le_of_ble_eq_true rfl), (Nat.le_of_ble_eq_true rfl)⟩ ⟨(Nat.le_of_ble_eq_true rfl), (Nat.le_of_ble_eq_true rfl)⟩ 52 rfl [] rfl ?_
  exact g_vret X hr dX3_copyFrom_52 () rfl rfl

set_option maxHeartbeats 1000000 in
set_option maxRecDepth 100000 in
theorem k_X0_copyFrom_r (E : kE) (l : Launch) (wr : va_W) (b : Nat → Nat) (μ : Sto) (a : Nat → Nat) (σ : Sto) (hf27 : FLG (σ 27) 100) (hf28 : FLG (σ 28) 100) : KM E l yX0_copyFrom cX0_copyFrom 2 none 2 81 0 0 [.ref (a 9), .ref (a 31)] (WW E b μ a σ wr) none (WW E b μ a (cp0_r σ) wr) := by
  refine K_start (own := RX0) (by decide +kernel) rfl [(0, .ref (a 9)), (1, .ref (a 31))] rfl (Nat.le_of_ble_eq_true rfl) (fun p e s m below meth c X hr hin => ?_)
  refine g_aload_n X dX0_copyFrom_0 1 rfl rfl ?_
  refine g_get X FL_X0_9 dX0_copyFrom_1 4 rfl 35 rfl (v := .ref (a 32)) rfl ?_
  refine g_aload_n X dX0_copyFrom_4 5 rfl rfl ?_
  refine g_get X FL_X0_9 dX0_copyFrom_5 8 rfl 13 rfl (v := .ref (a 10)) rfl ?_
  refine c_N X Lk_X0_66 (k_copyF E l _ 36 14 (by decide) rfl rfl (show FLG _ _ from hf27) (by decide) (WW E b μ a (put σ 5 (cpR (σ 27) (σ 5) 100)) wr) rfl) dX0_copyFrom_8 rfl rfl (Nat.le_of_ble_eq_true rfl) ⟨(Nat.le_of_ble_eq_true rfl), (Nat.le_of_ble_eq_true rfl)⟩ ⟨(Nat.le_of_ble_eq_true rfl), (Nat.le_of_ble_eq_true rfl)⟩ 11 rfl [] rfl ?_
  refine g_aload_n X dX0_copyFrom_11 12 rfl rfl ?_
  refine g_get X FL_X0_15 dX0_copyFrom_12 15 rfl 35 rfl (v := .ref (a 33)) rfl ?_
  refine g_aload_n X dX0_copyFrom_15 16 rfl rfl ?_
  refine g_get X FL_X0_15 dX0_copyFrom_16 19 rfl 13 rfl (v := .ref (a 11)) rfl ?_
  refine c_N X Lk_X0_66 (k_copyF E l _ 37 15 (by decide) rfl rfl (show FLG _ _ from hf28) (by decide) (WW E b μ a (put (put σ 5 (cpR (σ 27) (σ 5) 100)) 6 (cpR (σ 28) (σ 6) 100)) wr) rfl) dX0_copyFrom_19 rfl rfl (Nat.le_of_ble_eq_true rfl) ⟨(Nat.le_of_ble_eq_true rfl), (Nat.le_of_ble_eq_true rfl)⟩ ⟨(Nat.le_of_ble_eq_true rfl), (Nat.le_of_ble_eq_true rfl)⟩ 22 rfl [] rfl ?_
  refine g_aload_n X dX0_copyFrom_22 23 rfl rfl ?_
  refine g_get X FL_X0_18 dX0_copyFrom_23 26 rfl 35 rfl (v := .ref (a 34)) rfl ?_
  refine g_aload_n X dX0_copyFrom_26 27 rfl rfl ?_
  refine g_get X FL_X0_18 dX0_copyFrom_27 30 rfl 13 rfl (v := .ref (a 12)) rfl ?_
  refine c_N X Lk_X0_70 (k_copyN E l _ 38 16 rfl rfl (by decide) (WW E b μ a (put (put (put σ 5 (cpR (σ 27) (σ 5) 100)) 6 (cpR (σ 28) (σ 6) 100)) 7 (va_cpy (σ 29) (σ 7) 0 0 100)) wr) rfl) dX0_copyFrom_30 rfl rfl (Nat.le_of_ble_eq_true rfl) ⟨(Nat.le_of_ble_eq_true rfl), (Nat.le_of_ble_eq_true rfl)⟩ ⟨(Nat.le_of_ble_eq_true rfl), (Nat.le_of_ble_eq_true rfl)⟩ 33 rfl [] rfl ?_
  refine g_aload_n X dX0_copyFrom_33 34 rfl rfl ?_
  refine g_get X FL_X0_22 dX0_copyFrom_34 37 rfl 35 rfl (v := .ref (a 35)) rfl ?_
  refine g_aload_n X dX0_copyFrom_37 38 rfl rfl ?_
  refine g_get X FL_X0_22 dX0_copyFrom_38 41 rfl 13 rfl (v := .ref (a 13)) rfl ?_
  refine c_N X Lk_X0_70 (k_copyN E l _ 39 17 rfl rfl (by decide) (WW E b μ a (put (put (put (put σ 5 (cpR (σ 27) (σ 5) 100)) 6 (cpR (σ 28) (σ 6) 100)) 7 (va_cpy (σ 29) (σ 7) 0 0 100)) 8 (va_cpy (σ 30) (σ 8) 0 0 100)) wr) rfl) dX0_copyFrom_41 rfl rfl (Nat.le_of_ble_eq_true rfl) ⟨(Nat.le_of_ble_eq_true rfl), (Nat.le_of_ble_eq_true rfl)⟩ ⟨(Nat.le_of_ble_eq_true rfl), (Nat.le_of_ble_eq_true rfl)⟩ 44 rfl [] rfl ?_
  refine g_aload_n X dX0_copyFrom_44 45 rfl rfl ?_
  refine g_get X FL_X0_25 dX0_copyFrom_45 48 rfl 35 rfl (v := .ref (a 36)) rfl ?_
  refine g_aload_n X dX0_copyFrom_48 49 rfl rfl ?_
  refine g_get X FL_X0_25 dX0_copyFrom_49 52 rfl 13 rfl (v := .ref (a 14)) rfl ?_
  refine c_N X Lk_X0_70 (k_copyN E l _ 40 18 rfl rfl (by decide) (WW E b μ a (put (put (put (put (put σ 5 (cpR (σ 27) (σ 5) 100)) 6 (cpR (σ 28) (σ 6) 100)) 7 (va_cpy (σ 29) (σ 7) 0 0 100)) 8 (va_cpy (σ 30) (σ 8) 0 0 100)) 9 (va_cpy (σ 31) (σ 9) 0 0 100)) wr) rfl) dX0_copyFrom_52 rfl rfl (Nat.le_of_ble_eq_true rfl) ⟨(Nat.le_of_ble_eq_true rfl), (Nat.le_of_ble_eq_true rfl)⟩ ⟨(Nat.le_of_ble_eq_true rfl), (Nat.le_of_ble_eq_true rfl)⟩ 55 rfl [] rfl ?_
  refine g_aload_n X dX0_copyFrom_55 56 rfl rfl ?_
  refine g_get X FL_X0_28 dX0_copyFrom_56 59 rfl 35 rfl (v := .ref (a 37)) rfl ?_
  refine g_aload_n X dX0_copyFrom_59 60 rfl rfl ?_
  refine g_get X FL_X0_28 dX0_copyFrom_60 63 rfl 13 rfl (v := .ref (a 15)) rfl ?_
  refine c_N X Lk_X0_70 (k_copyN E l _ 41 19 rfl rfl (by decide) (WW E b μ a (put (put (put (put (put (put σ 5 (cpR (σ 27) (σ 5) 100)) 6 (cpR (σ 28) (σ 6) 100)) 7 (va_cpy (σ 29) (σ 7) 0 0 100)) 8 (va_cpy (σ 30) (σ 8) 0 0 100)) 9 (va_cpy (σ 31) (σ 9) 0 0 100)) 10 (va_cpy (σ 32) (σ 10) 0 0 100)) wr) rfl) dX0_copyFrom_63 rfl rfl (Nat.le_of_ble_eq_true rfl) ⟨(Nat.le_of_ble_eq_true rfl), (Nat.le_of_ble_eq_true rfl)⟩ ⟨(Nat.le_of_ble_eq_true rfl), (Nat.le_of_ble_eq_true rfl)⟩ 66 rfl [] rfl ?_
  exact g_vret X hr dX0_copyFrom_66 () rfl rfl

set_option maxHeartbeats 1000000 in
set_option maxRecDepth 100000 in
theorem k_X1_copyFrom_r (E : kE) (l : Launch) (wr : va_W) (b : Nat → Nat) (μ : Sto) (a : Nat → Nat) (σ : Sto) : KM E l yX1_copyFrom cX1_copyFrom 2 none 2 81 0 0 [.ref (a 16), .ref (a 38)] (WW E b μ a σ wr) none (WW E b μ a (cp1_r σ) wr) := by
  refine K_start (own := RX1) (by decide +kernel) rfl [(0, .ref (a 16)), (1, .ref (a 38))] rfl (Nat.le_of_ble_eq_true rfl) (fun p e s m below meth c X hr hin => ?_)
  refine g_aload_n X dX1_copyFrom_0 1 rfl rfl ?_
  refine g_get X FL_X1_9 dX1_copyFrom_1 4 rfl 42 rfl (v := .ref (a 39)) rfl ?_
  refine g_aload_n X dX1_copyFrom_4 5 rfl rfl ?_
  refine g_get X FL_X1_9 dX1_copyFrom_5 8 rfl 20 rfl (v := .ref (a 17)) rfl ?_
  refine c_N X Lk_X1_40 (k_copyN E l _ 43 21 rfl rfl (by decide) (WW E b μ a (put σ 11 (va_cpy (σ 33) (σ 11) 0 0 20)) wr) rfl) dX1_copyFrom_8 rfl rfl (Nat.le_of_ble_eq_true rfl) ⟨(Nat.le_of_ble_eq_true rfl), (Nat.le_of_ble_eq_true rfl)⟩ ⟨(Nat.le_of_ble_eq_true rfl), (Nat.le_of_ble_eq_true rfl)⟩ 11 rfl [] rfl ?_
  refine g_aload_n X dX1_copyFrom_11 12 rfl rfl ?_
  refine g_get X FL_X1_15 dX1_copyFrom_12 15 rfl 42 rfl (v := .ref (a 40)) rfl ?_
  refine g_aload_n X dX1_copyFrom_15 16 rfl rfl ?_
  refine g_get X FL_X1_15 dX1_copyFrom_16 19 rfl 20 rfl (v := .ref (a 18)) rfl ?_
  refine c_N X Lk_X1_40 (k_copyN E l _ 44 22 rfl rfl (by decide) (WW E b μ a (put (put σ 11 (va_cpy (σ 33) (σ 11) 0 0 20)) 12 (va_cpy (σ 34) (σ 12) 0 0 20)) wr) rfl) dX1_copyFrom_19 rfl rfl (Nat.le_of_ble_eq_true rfl) ⟨(Nat.le_of_ble_eq_true rfl), (Nat.le_of_ble_eq_true rfl)⟩ ⟨(Nat.le_of_ble_eq_true rfl), (Nat.le_of_ble_eq_true rfl)⟩ 22 rfl [] rfl ?_
  refine g_aload_n X dX1_copyFrom_22 23 rfl rfl ?_
  refine g_get X FL_X1_18 dX1_copyFrom_23 26 rfl 42 rfl (v := .ref (a 41)) rfl ?_
  refine g_aload_n X dX1_copyFrom_26 27 rfl rfl ?_
  refine g_get X FL_X1_18 dX1_copyFrom_27 30 rfl 20 rfl (v := .ref (a 19)) rfl ?_
  refine c_N X Lk_X1_40 (k_copyN E l _ 45 23 rfl rfl (by decide) (WW E b μ a (put (put (put σ 11 (va_cpy (σ 33) (σ 11) 0 0 20)) 12 (va_cpy (σ 34) (σ 12) 0 0 20)) 13 (va_cpy (σ 35) (σ 13) 0 0 20)) wr) rfl) dX1_copyFrom_30 rfl rfl (Nat.le_of_ble_eq_true rfl) ⟨(Nat.le_of_ble_eq_true rfl), (Nat.le_of_ble_eq_true rfl)⟩ ⟨(Nat.le_of_ble_eq_true rfl), (Nat.le_of_ble_eq_true rfl)⟩ 33 rfl [] rfl ?_
  refine g_aload_n X dX1_copyFrom_33 34 rfl rfl ?_
  refine g_get X FL_X1_21 dX1_copyFrom_34 37 rfl 42 rfl (v := .ref (a 42)) rfl ?_
  refine g_aload_n X dX1_copyFrom_37 38 rfl rfl ?_
  refine g_get X FL_X1_21 dX1_copyFrom_38 41 rfl 20 rfl (v := .ref (a 20)) rfl ?_
  refine c_N X Lk_X1_40 (k_copyN E l _ 46 24 rfl rfl (by decide) (WW E b μ a (put (put (put (put σ 11 (va_cpy (σ 33) (σ 11) 0 0 20)) 12 (va_cpy (σ 34) (σ 12) 0 0 20)) 13 (va_cpy (σ 35) (σ 13) 0 0 20)) 14 (va_cpy (σ 36) (σ 14) 0 0 20)) wr) rfl) dX1_copyFrom_41 rfl rfl (Nat.le_of_ble_eq_true rfl) ⟨(Nat.le_of_ble_eq_true rfl), (Nat.le_of_ble_eq_true rfl)⟩ ⟨(Nat.le_of_ble_eq_true rfl), (Nat.le_of_ble_eq_true rfl)⟩ 44 rfl [] rfl ?_
  refine g_aload_n X dX1_copyFrom_44 45 rfl rfl ?_
  refine g_get X FL_X1_24 dX1_copyFrom_45 48 rfl 42 rfl (v := .ref (a 43)) rfl ?_
  refine g_aload_n X dX1_copyFrom_48 49 rfl rfl ?_
  refine g_get X FL_X1_24 dX1_copyFrom_49 52 rfl 20 rfl (v := .ref (a 21)) rfl ?_
  refine c_N X Lk_X1_40 (k_copyN E l _ 47 25 rfl rfl (by decide) (WW E b μ a (put (put (put (put (put σ 11 (va_cpy (σ 33) (σ 11) 0 0 20)) 12 (va_cpy (σ 34) (σ 12) 0 0 20)) 13 (va_cpy (σ 35) (σ 13) 0 0 20)) 14 (va_cpy (σ 36) (σ 14) 0 0 20)) 15 (va_cpy (σ 37) (σ 15) 0 0 20)) wr) rfl) dX1_copyFrom_52 rfl rfl (Nat.le_of_ble_eq_true rfl) ⟨(Nat.le_of_ble_eq_true rfl), (Nat.le_of_ble_eq_true rfl)⟩ ⟨(Nat.le_of_ble_eq_true rfl), (Nat.le_of_ble_eq_true rfl)⟩ 55 rfl [] rfl ?_
  exact g_vret X hr dX1_copyFrom_55 () rfl rfl

set_option maxHeartbeats 1000000 in
set_option maxRecDepth 100000 in
theorem k_X4_copyFrom_r (E : kE) (l : Launch) (wr : va_W) (b : Nat → Nat) (μ : Sto) (a : Nat → Nat) (σ : Sto) (hf42 : FLG (σ 42) 3) (hf43 : FLG (σ 43) 3) : KM E l yX4_copyFrom cX4_copyFrom 2 none 1 22 0 0 [.ref (a 22), .ref (a 44)] (WW E b μ a σ wr) none (WW E b μ a (cp4_r σ) wr) := by
  refine K_start (own := RX4) (by decide +kernel) rfl [(0, .ref (a 22)), (1, .ref (a 44))] rfl (Nat.le_of_ble_eq_true rfl) (fun p e s m below meth c X hr hin => ?_)
  refine g_aload_n X dX4_copyFrom_0 1 rfl rfl ?_
  refine g_aload_n X dX4_copyFrom_1 2 rfl rfl ?_
  refine g_get X FL_X4_25 dX4_copyFrom_2 5 rfl 48 rfl (v := .int (σ 38 0)) rfl ?_
  refine g_put X FL_X4_25 fk_X4 dX4_copyFrom_5 8 rfl rfl 26 rfl rfl rfl (Nat.le_of_ble_eq_true rfl) (WW E b μ a (put σ 16 (sc (σ 38 0))) wr) rfl ?_
  refine g_aload_n X dX4_copyFrom_8 9 rfl rfl ?_
  refine g_aload_n X dX4_copyFrom_9 10 rfl rfl ?_
  refine g_get X FL_X4_9 dX4_copyFrom_10 13 rfl 48 rfl (v := .int (σ 39 0)) rfl ?_
  refine g_put X FL_X4_9 fk_X4 dX4_copyFrom_13 16 rfl rfl 26 rfl rfl rfl (Nat.le_of_ble_eq_true rfl) (WW E b μ a (put (put σ 16 (sc (σ 38 0))) 17 (sc (σ 39 0))) wr) rfl ?_
  refine g_aload_n X dX4_copyFrom_16 17 rfl rfl ?_
  refine g_aload_n X dX4_copyFrom_17 18 rfl rfl ?_
  refine g_get X FL_X4_15 dX4_copyFrom_18 21 rfl 48 rfl (v := .int (σ 40 0)) rfl ?_
  refine g_put X FL_X4_15 fk_X4 dX4_copyFrom_21 24 rfl rfl 26 rfl rfl rfl (Nat.le_of_ble_eq_true rfl) (WW E b μ a (put (put (put σ 16 (sc (σ 38 0))) 17 (sc (σ 39 0))) 18 (sc (σ 40 0))) wr) rfl ?_
  refine g_aload_n X dX4_copyFrom_24 25 rfl rfl ?_
  refine g_aload_n X dX4_copyFrom_25 26 rfl rfl ?_
  refine g_get X FL_X4_28 dX4_copyFrom_26 29 rfl 48 rfl (v := .int (σ 41 0)) rfl ?_
  refine g_put X FL_X4_28 fk_X4 dX4_copyFrom_29 32 rfl rfl 26 rfl rfl rfl (Nat.le_of_ble_eq_true rfl) (WW E b μ a (put (put (put (put σ 16 (sc (σ 38 0))) 17 (sc (σ 39 0))) 18 (sc (σ 40 0))) 19 (sc (σ 41 0))) wr) rfl ?_
  refine g_aload_n X dX4_copyFrom_32 33 rfl rfl ?_
  refine g_get X FL_X4_18 dX4_copyFrom_33 36 rfl 48 rfl (v := .ref (a 45)) rfl ?_
  refine g_aload_n X dX4_copyFrom_36 37 rfl rfl ?_
  refine g_get X FL_X4_18 dX4_copyFrom_37 40 rfl 26 rfl (v := .ref (a 23)) rfl ?_
  refine c_N X Lk_X4_31 (k_copyF E l _ 49 27 (by decide) rfl rfl (show FLG _ _ from hf42) (by decide) (WW E b μ a (put (put (put (put (put σ 16 (sc (σ 38 0))) 17 (sc (σ 39 0))) 18 (sc (σ 40 0))) 19 (sc (σ 41 0))) 20 (cpR (σ 42) (σ 20) 3)) wr) rfl) dX4_copyFrom_40 rfl rfl (Nat.le_of_ble_eq_true rfl) ⟨(Nat.le_of_ble_eq_true rfl), (Nat.le_of_ble_eq_true rfl)⟩ ⟨(Nat.le_of_ble_eq_true rfl), (Nat.le_of_ble_eq_true rfl)⟩ 43 rfl [] rfl ?_
  refine g_aload_n X dX4_copyFrom_43 44 rfl rfl ?_
  refine g_get X FL_X4_22 dX4_copyFrom_44 47 rfl 48 rfl (v := .ref (a 46)) rfl ?_
  refine g_aload_n X dX4_copyFrom_47 48 rfl rfl ?_
  refine g_get X FL_X4_22 dX4_copyFrom_48 51 rfl 26 rfl (v := .ref (a 24)) rfl ?_
  refine c_N X Lk_X4_31 (k_copyF E l _ 50 28 (by decide) rfl rfl (show FLG _ _ from hf43) (by decide) (WW E b μ a (put (put (put (put (put (put σ 16 (sc (σ 38 0))) 17 (sc (σ 39 0))) 18 (sc (σ 40 0))) 19 (sc (σ 41 0))) 20 (cpR (σ 42) (σ 20) 3)) 21 (cpR (σ 43) (σ 21) 3)) wr) rfl) dX4_copyFrom_51 rfl rfl (Nat.le_of_ble_eq_true rfl) ⟨(Nat.le_of_ble_eq_true rfl), (Nat.le_of_ble_eq_true rfl)⟩ ⟨(Nat.le_of_ble_eq_true rfl), (Nat.le_of_ble_eq_true rfl)⟩ 54 rfl [] rfl ?_
  exact g_vret X hr dX4_copyFrom_54 () rfl rfl

set_option maxHeartbeats 1000000 in
set_option maxRecDepth 100000 in
theorem k_X5_copyFrom_r (E : kE) (l : Launch) (wr : va_W) (b : Nat → Nat) (μ : Sto) (a : Nat → Nat) (σ : Sto) (hf27 : FLG (σ 27) 100) (hf28 : FLG (σ 28) 100) (hf42 : FLG (σ 42) 3) (hf43 : FLG (σ 43) 3) : KM E l yX5_copyFrom cX5_copyFrom 2 none 3 102 0 0 [.ref (a 3), .ref (a 25)] (WW E b μ a σ wr) none (WW E b μ a (cp5_r σ) wr) := by
  refine K_start (own := RX5) (by decide +kernel) rfl [(0, .ref (a 3)), (1, .ref (a 25))] rfl (Nat.le_of_ble_eq_true rfl) (fun p e s m below meth c X hr hin => ?_)
  refine g_aload_n X dX5_copyFrom_0 1 rfl rfl ?_
  refine g_get X FL_X5_12 dX5_copyFrom_1 4 rfl 7 rfl (v := .ref (a 4)) rfl ?_
  refine g_aload_n X dX5_copyFrom_4 5 rfl rfl ?_
  refine g_get X FL_X5_12 dX5_copyFrom_5 8 rfl 29 rfl (v := .ref (a 26)) rfl ?_
  refine c_V X Lk_X5_43 (k_X3_copyFrom_r E l wr b μ a σ) dX5_copyFrom_8 rfl 8 rfl rfl rfl (Nat.le_of_ble_eq_true rfl) ⟨(Nat.le_of_ble_eq_true rfl), (Nat.le_of_ble_eq_true rfl)⟩ ⟨(Nat.le_of_ble_eq_true rfl), (Nat.le_of_ble_eq_true rfl)⟩ 11 rfl [] rfl ?_
  refine g_aload_n X dX5_copyFrom_11 12 rfl rfl ?_
  refine g_get X FL_X5_21 dX5_copyFrom_12 15 rfl 7 rfl (v := .ref (a 9)) rfl ?_
  refine g_aload_n X dX5_copyFrom_15 16 rfl rfl ?_
  refine g_get X FL_X5_21 dX5_copyFrom_16 19 rfl 29 rfl (v := .ref (a 31)) rfl ?_
  refine c_V X Lk_X5_47 (k_X0_copyFrom_r E l wr b μ a (cp3_r σ) (show FLG _ _ from hf27) (show FLG _ _ from hf28)) dX5_copyFrom_19 rfl 13 rfl rfl rfl (Nat.le_of_ble_eq_true rfl) ⟨(Nat.le_of_ble_eq_true rfl), (Nat.le_of_ble_eq_true rfl)⟩ ⟨(Nat.le_of_ble_eq_true rfl), (Nat.le_of_ble_eq_true rfl)⟩ 22 rfl [] rfl ?_
  refine g_aload_n X dX5_copyFrom_22 23 rfl rfl ?_
  refine g_get X FL_X5_28 dX5_copyFrom_23 26 rfl 7 rfl (v := .ref (a 16)) rfl ?_
  refine g_aload_n X dX5_copyFrom_26 27 rfl rfl ?_
  refine g_get X FL_X5_28 dX5_copyFrom_27 30 rfl 29 rfl (v := .ref (a 38)) rfl ?_
  refine c_V X Lk_X5_50 (k_X1_copyFrom_r E l wr b μ a (cp0_r (cp3_r σ))) dX5_copyFrom_30 rfl 20 rfl rfl rfl (Nat.le_of_ble_eq_true rfl) ⟨(Nat.le_of_ble_eq_true rfl), (Nat.le_of_ble_eq_true rfl)⟩ ⟨(Nat.le_of_ble_eq_true rfl), (Nat.le_of_ble_eq_true rfl)⟩ 33 rfl [] rfl ?_
  refine g_aload_n X dX5_copyFrom_33 34 rfl rfl ?_
  refine g_get X FL_X5_35 dX5_copyFrom_34 37 rfl 7 rfl (v := .ref (a 22)) rfl ?_
  refine g_aload_n X dX5_copyFrom_37 38 rfl rfl ?_
  refine g_get X FL_X5_35 dX5_copyFrom_38 41 rfl 29 rfl (v := .ref (a 44)) rfl ?_
  refine c_V X Lk_X5_53 (k_X4_copyFrom_r E l wr b μ a (cp1_r (cp0_r (cp3_r σ))) (show FLG _ _ from hf42) (show FLG _ _ from hf43)) dX5_copyFrom_41 rfl 26 rfl rfl rfl (Nat.le_of_ble_eq_true rfl) ⟨(Nat.le_of_ble_eq_true rfl), (Nat.le_of_ble_eq_true rfl)⟩ ⟨(Nat.le_of_ble_eq_true rfl), (Nat.le_of_ble_eq_true rfl)⟩ 44 rfl [] rfl ?_
  exact g_vret X hr dX5_copyFrom_44 () rfl rfl

set_option maxHeartbeats 1000000 in
set_option maxRecDepth 100000 in
theorem k_X6_save (E : kE) (l : Launch) (wr : va_W) (b : Nat → Nat) (μ : Sto) (a : Nat → Nat) (σ : Sto) (hf5 : FLG (σ 5) 100) (hf6 : FLG (σ 6) 100) (hf20 : FLG (σ 20) 3) (hf21 : FLG (σ 21) 3) : KM E l yX6_save cX6_save 1 (some .int) 4 123 0 0 [.ref (a 0)] (WW E b μ a σ wr) (some (.int (bdC (svS σ)))) (WW E b μ a (svS σ) wr) := by
  refine K_start (own := RX6) (by decide +kernel) rfl [(0, .ref (a 0))] rfl (Nat.le_of_ble_eq_true rfl) (fun p e s m below meth c X hr hin => ?_)
  refine g_aload_n X dX6_save_0 1 rfl rfl ?_
  refine g_get X FL_X6_25 dX6_save_1 4 rfl 4 rfl (v := .ref (a 25)) rfl ?_
  refine g_aload_n X dX6_save_4 5 rfl rfl ?_
  refine g_get X FL_X6_21 dX6_save_5 8 rfl 4 rfl (v := .ref (a 3)) rfl ?_
  refine c_V X Lk_X6_300 (k_X5_copyFrom_s E l wr b μ a σ (show FLG _ _ from hf5) (show FLG _ _ from hf6) (show FLG _ _ from hf20) (show FLG _ _ from hf21)) dX6_save_8 rfl 29 rfl rfl rfl (Nat.le_of_ble_eq_true rfl) ⟨(Nat.le_of_ble_eq_true rfl), (Nat.le_of_ble_eq_true rfl)⟩ ⟨(Nat.le_of_ble_eq_true rfl), (Nat.le_of_ble_eq_true rfl)⟩ 11 rfl [] rfl ?_
  refine g_aload_n X dX6_save_11 12 rfl rfl ?_
  refine g_iconst X dX6_save_12 13 rfl (v := 1) rfl ?_
  refine g_put X FL_X6_304 fk_X6 dX6_save_13 16 rfl rfl 4 rfl rfl rfl (Nat.le_of_ble_eq_true rfl) (WW E b μ a (put (cp5_s σ) 47 (sc 1)) wr) rfl ?_
  refine g_aload_n X dX6_save_16 17 rfl rfl ?_
  refine g_get X FL_X6_21 dX6_save_17 20 rfl 4 rfl (v := .ref (a 3)) rfl ?_
  refine g_get X FL_X6_153 dX6_save_20 23 rfl 7 rfl (v := .ref (a 16)) rfl ?_
  refine c_V X Lk_X6_270 (k_X1_countBound E l wr b μ a (put (cp5_s σ) 47 (sc 1))) dX6_save_23 rfl 20 rfl rfl rfl (Nat.le_of_ble_eq_true rfl) ⟨(Nat.le_of_ble_eq_true rfl), (Nat.le_of_ble_eq_true rfl)⟩ ⟨(Nat.le_of_ble_eq_true rfl), (Nat.le_of_ble_eq_true rfl)⟩ 26 rfl [.int (bdC (put (cp5_s σ) 47 (sc 1)))] rfl ?_
  exact g_iret X hr dX6_save_26 () rfl rfl

set_option maxHeartbeats 1000000 in
set_option maxRecDepth 100000 in
theorem k_X6_restore (E : kE) (l : Launch) (hlt : l.stackTraces = false) (wr : va_W) (b : Nat → Nat) (μ : Sto) (a : Nat → Nat) (σ : Sto) (hf27 : FLG (σ 27) 100) (hf28 : FLG (σ 28) 100) (hf42 : FLG (σ 42) 3) (hf43 : FLG (σ 43) 3) : KT E l yX6_restore cX6_restore 1 (some .int) 6 123 4 24 [.ref (a 0)] (WW E b μ a σ wr) (oRes σ) (WW E b μ a (tRes σ) wr) := by
  refine KT_start (own := RX6) (by decide +kernel) rfl [(0, .ref (a 0))] rfl (Nat.le_of_ble_eq_true rfl) (fun p e s m below meth c X hr hT hZ => ?_)
  refine g_aload_n X dX6_restore_0 1 rfl rfl ?_
  refine g_get X FL_X6_304 dX6_restore_1 4 rfl 4 rfl (v := .int (σ 47 0)) rfl ?_
  refine g_if_ne X dX6_restore_4 18 7 rfl rfl (fun c1 => ?_) (fun c1 => ?_)
  · skip
    refine g_aload_n X dX6_restore_18 19 rfl rfl ?_
    refine g_get X FL_X6_21 dX6_restore_19 22 rfl 4 rfl (v := .ref (a 3)) rfl ?_
    refine g_aload_n X dX6_restore_22 23 rfl rfl ?_
    refine g_get X FL_X6_25 dX6_restore_23 26 rfl 4 rfl (v := .ref (a 25)) rfl ?_
    refine c_V X Lk_X6_300 (k_X5_copyFrom_r E l wr b μ a σ (show FLG _ _ from hf27) (show FLG _ _ from hf28) (show FLG _ _ from hf42) (show FLG _ _ from hf43)) dX6_restore_26 rfl 7 rfl rfl rfl (Nat.le_of_ble_eq_true rfl) ⟨(Nat.le_of_ble_eq_true rfl), (Nat.le_of_ble_eq_true rfl)⟩ ⟨(Nat.le_of_ble_eq_true rfl), (Nat.le_of_ble_eq_true rfl)⟩ 29 rfl [] rfl ?_
    refine g_aload_n X dX6_restore_29 30 rfl rfl ?_
    refine g_get X FL_X6_21 dX6_restore_30 33 rfl 4 rfl (v := .ref (a 3)) rfl ?_
    refine g_get X FL_X6_153 dX6_restore_33 36 rfl 7 rfl (v := .ref (a 16)) rfl ?_
    refine c_V X Lk_X6_270 (k_X1_countBound E l wr b μ a (cp5_r σ)) dX6_restore_36 rfl 20 rfl rfl rfl (Nat.le_of_ble_eq_true rfl) ⟨(Nat.le_of_ble_eq_true rfl), (Nat.le_of_ble_eq_true rfl)⟩ ⟨(Nat.le_of_ble_eq_true rfl), (Nat.le_of_ble_eq_true rfl)⟩ 39 rfl [.int (bdC (cp5_r σ))] rfl ?_
    exact g_iretT X hr dX6_restore_39 (Nat.le_of_ble_eq_true rfl) (Nat.le_of_ble_eq_true rfl) (by rw [oRes, if_neg c1]) (by rw [tRes, if_neg c1])
  · skip
    exact g_throwSW X hlt hT hZ LX_ISE (List.mem_of_getElem? (i := 26) rfl) dX6_restore_7 dX6_restore_10 dX6_restore_11 dX6_restore_14 dX6_restore_17 (Nat.le_of_ble_eq_true rfl) (Nat.le_of_ble_eq_true rfl) ⟨(Nat.le_of_ble_eq_true rfl), (Nat.le_of_ble_eq_true rfl)⟩ (Nat.le_of_ble_eq_true rfl) (Nat.le_of_ble_eq_true rfl) (by rw [oRes, if_pos c1]) (by rw [tRes, if_pos c1])

set_option maxHeartbeats 1000000 in
set_option maxRecDepth 100000 in
theorem k_X6_utilization (E : kE) (l : Launch) (hlt : l.stackTraces = false) (wr : va_W) (b : Nat → Nat) (μ : Sto) (a : Nat → Nat) (σ : Sto) (g : Int32) (hy : ∃ k : Nat, k < 101 ∧ caL σ g 0 5 0 = nI k) : KT E l yX6_utilization cX6_utilization 3 (some .double) 7 110 4 24 [.ref (a 0), .int g] (WW E b μ a σ wr) (oUt σ g) (WW E b μ a σ wr) := by
  refine KT_start (own := RX6) (by decide +kernel) rfl [(0, .ref (a 0)), (1, .int g)] rfl (Nat.le_of_ble_eq_true rfl) (fun p e s m below meth c X hr hT hZ => ?_)
  refine g_iload_n X dX6_utilization_0 1 rfl rfl ?_
  refine c_RS X hT hZ Lk_X6_28 (k_X6_requireGroup E l hlt wr b μ a σ g) dX6_utilization_1 rfl rfl (Nat.le_of_ble_eq_true rfl) ⟨(Nat.le_of_ble_eq_true rfl), (Nat.le_of_ble_eq_true rfl)⟩ ⟨(Nat.le_of_ble_eq_true rfl), (Nat.le_of_ble_eq_true rfl)⟩ (Nat.le_of_ble_eq_true rfl) (Nat.le_of_ble_eq_true rfl) 4 rfl (fun c1 => ?_) (fun c1 => ⟨(by simp [oUt, c1]), rfl⟩)
  refine g_aload_n X dX6_utilization_4 5 rfl rfl ?_
  refine g_get X FL_X6_21 dX6_utilization_5 8 rfl 4 rfl (v := .ref (a 3)) rfl ?_
  refine g_get X FL_X6_45 dX6_utilization_8 11 rfl 7 rfl (v := .ref (a 4)) rfl ?_
  refine g_iload_n X dX6_utilization_11 12 rfl rfl ?_
  refine c_V X Lk_X6_287 (k_X3_countAddresses E l wr b μ a σ g) dX6_utilization_12 rfl 8 rfl rfl rfl (Nat.le_of_ble_eq_true rfl) ⟨(Nat.le_of_ble_eq_true rfl), (Nat.le_of_ble_eq_true rfl)⟩ ⟨(Nat.le_of_ble_eq_true rfl), (Nat.le_of_ble_eq_true rfl)⟩ 15 rfl [.int (caL σ g 0 5 0)] rfl ?_
  refine g_istore_n X dX6_utilization_15 16 rfl (by decide) [(2, .int (caL σ g 0 5 0)), (0, .ref (a 0)), (1, .int g)] rfl ?_
  refine g_iload_n X dX6_utilization_16 17 rfl rfl ?_
  refine g_if_ne X dX6_utilization_17 31 20 rfl rfl (fun c2 => ?_) (fun c2 => ?_)
  · skip
    refine g_aload_n X dX6_utilization_31 32 rfl rfl ?_
    refine g_get X FL_X6_21 dX6_utilization_32 35 rfl 4 rfl (v := .ref (a 3)) rfl ?_
    refine g_iload_n X dX6_utilization_35 36 rfl rfl ?_
    refine g_iconst X dX6_utilization_36 37 rfl (v := 2) rfl ?_
    refine c_V X Lk_X6_267 (k_X5_countInGroup E l wr b μ a σ g 2) dX6_utilization_37 rfl 7 rfl rfl rfl (Nat.le_of_ble_eq_true rfl) ⟨(Nat.le_of_ble_eq_true rfl), (Nat.le_of_ble_eq_true rfl)⟩ ⟨(Nat.le_of_ble_eq_true rfl), (Nat.le_of_ble_eq_true rfl)⟩ 40 rfl [.int (gcL σ g 2 0 5 0)] rfl ?_
    refine g_i2d X dX6_utilization_40 41 rfl ?_
    refine g_iload_n X dX6_utilization_41 42 rfl rfl ?_
    refine g_i2d X dX6_utilization_42 43 rfl ?_
    refine g_ddiv X dX6_utilization_43 44 rfl (let ⟨_, h1, h2⟩ := hy; div_n64 h1 h2 c2) ?_
    exact g_dretT X hr dX6_utilization_44 (Nat.le_of_ble_eq_true rfl) (Nat.le_of_ble_eq_true rfl) (by rw [oUt, c1, cond_true, if_neg c2]) rfl
  · skip
    exact g_throwSW X hlt hT hZ LX_ARE (List.mem_of_getElem? (i := 24) rfl) dX6_utilization_20 dX6_utilization_23 dX6_utilization_24 dX6_utilization_27 dX6_utilization_30 (Nat.le_of_ble_eq_true rfl) (Nat.le_of_ble_eq_true rfl) ⟨(Nat.le_of_ble_eq_true rfl), (Nat.le_of_ble_eq_true rfl)⟩ (Nat.le_of_ble_eq_true rfl) (Nat.le_of_ble_eq_true rfl) (by rw [oUt, c1, cond_true, if_pos c2]) rfl

set_option maxHeartbeats 1000000 in
set_option maxRecDepth 100000 in
theorem k_X6_averageRest (E : kE) (l : Launch) (hlt : l.stackTraces = false) (wr : va_W) (b : Nat → Nat) (μ : Sto) (a : Nat → Nat) (σ : Sto) : KT E l yX6_averageRest cX6_averageRest 2 (some .float) 6 90 4 24 [.ref (a 0)] (WW E b μ a σ wr) (oAv σ) (WW E b μ a σ wr) := by
  refine KT_start (own := RX6) (by decide +kernel) rfl [(0, .ref (a 0))] rfl (Nat.le_of_ble_eq_true rfl) (fun p e s m below meth c X hr hT hZ => ?_)
  refine g_aload_n X dX6_averageRest_0 1 rfl rfl ?_
  refine g_get X FL_X6_21 dX6_averageRest_1 4 rfl 4 rfl (v := .ref (a 3)) rfl ?_
  refine g_get X FL_X6_153 dX6_averageRest_4 7 rfl 7 rfl (v := .ref (a 16)) rfl ?_
  refine c_V X Lk_X6_270 (k_X1_countBound E l wr b μ a σ) dX6_averageRest_7 rfl 20 rfl rfl rfl (Nat.le_of_ble_eq_true rfl) ⟨(Nat.le_of_ble_eq_true rfl), (Nat.le_of_ble_eq_true rfl)⟩ ⟨(Nat.le_of_ble_eq_true rfl), (Nat.le_of_ble_eq_true rfl)⟩ 10 rfl [.int (bdC σ)] rfl ?_
  refine g_istore_n X dX6_averageRest_10 11 rfl (by decide) [(1, .int (bdC σ)), (0, .ref (a 0))] rfl ?_
  refine g_iload_n X dX6_averageRest_11 12 rfl rfl ?_
  refine g_if_ne X dX6_averageRest_12 26 15 rfl rfl (fun c1 => ?_) (fun c1 => ?_)
  · skip
    refine g_aload_n X dX6_averageRest_26 27 rfl rfl ?_
    refine g_get X FL_X6_21 dX6_averageRest_27 30 rfl 4 rfl (v := .ref (a 3)) rfl ?_
    refine c_V X Lk_X6_297 (k_X5_sumOfRests E l wr b μ a σ) dX6_averageRest_30 rfl 7 rfl rfl rfl (Nat.le_of_ble_eq_true rfl) ⟨(Nat.le_of_ble_eq_true rfl), (Nat.le_of_ble_eq_true rfl)⟩ ⟨(Nat.le_of_ble_eq_true rfl), (Nat.le_of_ble_eq_true rfl)⟩ 33 rfl [.int (srL σ 0 20 0)] rfl ?_
    refine g_i2f X dX6_averageRest_33 34 rfl ?_
    refine g_iload_n X dX6_averageRest_34 35 rfl rfl ?_
    refine g_i2f X dX6_averageRest_35 36 rfl ?_
    refine g_fdiv X dX6_averageRest_36 37 rfl (let ⟨_, h1, h2⟩ := bdC_le (σ := σ); div_n32 h1 h2 c1) ?_
    exact g_fretT X hr dX6_averageRest_37 (Nat.le_of_ble_eq_true rfl) (Nat.le_of_ble_eq_true rfl) (by rw [oAv, if_neg c1]) rfl
  · skip
    exact g_throwSW X hlt hT hZ LX_ARE (List.mem_of_getElem? (i := 25) rfl) dX6_averageRest_15 dX6_averageRest_18 dX6_averageRest_19 dX6_averageRest_22 dX6_averageRest_25 (Nat.le_of_ble_eq_true rfl) (Nat.le_of_ble_eq_true rfl) ⟨(Nat.le_of_ble_eq_true rfl), (Nat.le_of_ble_eq_true rfl)⟩ (Nat.le_of_ble_eq_true rfl) (Nat.le_of_ble_eq_true rfl) (by rw [oAv, if_pos c1]) rfl
