/-! THE REFERENCE: its private methods -/
section KM9
variable {E : kE} {A : Nat → Prop} {own : String} {cc : ByteArray} {nL : Nat} {p : Program} {l : Launch} {e : Env} {R : Room} {s : State} {m : MethodId} {args : Array Value} {below : List Frame} {meth : Method} {c : Code} {Q : State → Prop} {k n : Nat} {ws : va_W} {pc : Nat} {lv : List (Nat × Value)} {st : List Value}
theorem g_iaddN (X : CX E A own cc nL p s m meth c) (d : decode cc pc = .ok (.iadd, 1)) (q : Nat) (hq : pc + 1 = q) {x y : Int32} (u v : Nat) (hx : x = nI u) (hy : y = nI v) (kk : G E A nL p l e R s m args below meth c Q k n ws q lv (.int (nI (u + v)) :: st)) : G E A nL p l e R s m args below meth c Q k n ws pc lv (.int y :: .int x :: st) := by
  refine g_iadd X d q hq ?_
  rw [hx, hy, nI_add]
  exact kk
theorem g_imulN (X : CX E A own cc nL p s m meth c) (d : decode cc pc = .ok (.imul, 1)) (q : Nat) (hq : pc + 1 = q) {x y : Int32} (u v : Nat) (hx : x = nI u) (hy : y = nI v) (kk : G E A nL p l e R s m args below meth c Q k n ws q lv (.int (nI (u * v)) :: st)) : G E A nL p l e R s m args below meth c Q k n ws pc lv (.int y :: .int x :: st) := by
  refine g_imul X d q hq ?_
  rw [hx, hy, show nI u * nI v = nI (u * v) from (Int32.ofNat_mul u v).symm]
  exact kk
theorem nI_pr' (k : Nat) : nI (k + 1) - 1 = nI k := by rw [nI_pred]
theorem nI_dec (k : Nat) : nI (k + 1) + Int32.ofInt (-1) = nI k := by
  rw [← nI_1, Int32.add_assoc]
  exact Int32.add_zero _
theorem g_isub1 (X : CX E A own cc nL p s m meth c) (d : decode cc pc = .ok (.isub, 1)) (q : Nat) (hq : pc + 1 = q) (u : Nat) (kk : G E A nL p l e R s m args below meth c Q k n ws q lv (.int (nI u) :: st)) : G E A nL p l e R s m args below meth c Q k n ws pc lv (.int 1 :: .int (nI (u + 1)) :: st) := by
  refine g_isub X d q hq ?_
  rw [show nI (u + 1) - 1 = nI u from nI_pr' u]
  exact kk
end KM9
theorem ixn {j : Nat} (h : j < 2 ^ 31) : ix (nI j) = j := nI_clamp h
theorem nI_pr (k : Nat) : nI (k + 1) - 1 = nI k := by rw [nI_pred]
theorem nI_0le {n : Nat} (h : n < 2 ^ 31) : (0 : Int32) ≤ nI n := nI_le (a := 0) (Nat.zero_le n) h
/-- what keeps every index of the reference in its array -/
def MX (N : Nat → Int32) (v : Nat) : Prop := (v ≤ 5) ∧ (N 4 = nI v) ∧ (∀ p, p < v → ∃ g, g < 3 ∧ N (5 + 4 * p) = nI g) ∧ (∀ p, p < v → ∃ g, g < 100 ∧ N (5 + 4 * p + 1) = nI g) ∧ (∀ p, p < v → ∃ g, g < 100 ∧ N (5 + 4 * p + 2) = nI g) ∧ (∀ c, c < 20 → ∃ j, j < 100 ∧ N (651 + c) = nI j) ∧ (∀ a, a < 100 → ∃ c, c < 20 ∧ N (331 + a) = nI c) ∧ (∀ c, c < 20 → ∃ j, j ≤ 100 ∧ N (711 + c) = nI j)
theorem MX.hv {N : Nat → Int32} {v : Nat} (h : MX N v) : v ≤ 5 := h.1
theorem MX.hc {N : Nat → Int32} {v : Nat} (h : MX N v) : N 4 = nI v := h.2.1
theorem MX.hg {N : Nat → Int32} {v : Nat} (h : MX N v) : ∀ p, p < v → ∃ g, g < 3 ∧ N (5 + 4 * p) = nI g := h.2.2.1
theorem MX.hf {N : Nat → Int32} {v : Nat} (h : MX N v) : ∀ p, p < v → ∃ g, g < 100 ∧ N (5 + 4 * p + 1) = nI g := h.2.2.2.1
theorem MX.hl {N : Nat → Int32} {v : Nat} (h : MX N v) : ∀ p, p < v → ∃ g, g < 100 ∧ N (5 + 4 * p + 2) = nI g := h.2.2.2.2.1
theorem MX.ha {N : Nat → Int32} {v : Nat} (h : MX N v) : ∀ c, c < 20 → ∃ j, j < 100 ∧ N (651 + c) = nI j := h.2.2.2.2.2.1
theorem MX.hh {N : Nat → Int32} {v : Nat} (h : MX N v) : ∀ a, a < 100 → ∃ c, c < 20 ∧ N (331 + a) = nI c := h.2.2.2.2.2.2.1
theorem MX.hr {N : Nat → Int32} {v : Nat} (h : MX N v) : ∀ c, c < 20 → ∃ j, j ≤ 100 ∧ N (711 + c) = nI j := h.2.2.2.2.2.2.2
theorem MX.ok {N : Nat → Int32} {v i : Nat} {x : Int32} (h : MX N v) (hi : i < 4 ∨ 25 ≤ i ∧ i < 331 ∨ 431 ≤ i ∧ i < 651 ∨ 671 ≤ i ∧ i < 711) : MX (upd N i x) v := by
  obtain ⟨h1, h2, h3, h4, h5, h6, h7, h8⟩ := h
  refine ⟨h1, ?_, fun p hp => ?_, fun p hp => ?_, fun p hp => ?_, fun p hp => ?_, fun p hp => ?_, fun p hp => ?_⟩ <;> rw [pk_un (by omega)]
  · exact h2
  · exact h3 p hp
  · exact h4 p hp
  · exact h5 p hp
  · exact h6 p hp
  · exact h7 p hp
  · exact h8 p hp
theorem MX.lt {N : Nat → Int32} {v i : Nat} (h : MX N v) (hi : i < 5) (h2 : ¬ N 4 ≤ nI i) : i < v := by
  rcases Nat.lt_or_ge i v with q | q
  · exact q
  · exact absurd (by rw [h.hc]; exact nI_le q (by omega)) h2
def LG (x : Int32) : Prop := ∃ n : Nat, n ≤ 30 ∧ x = nI n
def inR (x y z : Int32) : Bool := !decide (x < y) && !decide (z < x)
theorem inR_ex {x : Int32} {n : Nat} (hn : n < 2 ^ 31 - 1) (h : inR x 0 (nI n) = true) : ∃ j, j < n + 1 ∧ x = nI j := by
  simp only [inR, Bool.and_eq_true, Bool.not_eq_true', decide_eq_false_iff_not] at h
  rcases pk_ix x (n := n + 1) (by omega) with q | q | ⟨u, hu, q⟩
  · exact absurd q h.1
  · refine absurd ?_ h.2
    rw [Int32.lt_iff_toInt_lt]
    have q2 := Int32.le_iff_toInt_le.mp q
    rw [nI_toInt (by omega)] at q2
    rw [nI_toInt (by omega)]
    omega
  · exact ⟨u, hu, q⟩
theorem inR_99 {x : Int32} (h : inR x 0 99 = true) : ∃ j, j < 100 ∧ x = nI j := inR_ex (n := 99) (by decide) h
theorem inR_19 {x : Int32} (h : inR x 0 19 = true) : ∃ j, j < 20 ∧ x = nI j := inR_ex (n := 19) (by decide) h
theorem inR_2 {x : Int32} (h : inR x 0 2 = true) : ∃ j, j < 3 ∧ x = nI j := inR_ex (n := 2) (by decide) h
/-- the pool of an address -/
def owL (N : Nat → Int32) (x : Int32) : Nat → Nat → Int32
  | _, 0 => -1
  | i, r + 1 => if N 4 ≤ nI i then -1 else bif inR x (N (5 + 4 * i + 1)) (N (5 + 4 * i + 2)) then nI i else owL N x (i + 1) r
def ow (N : Nat → Int32) (x : Int32) : Int32 := owL N x 0 5
theorem owL_cases {N : Nat → Int32} {v : Nat} (hX : MX N v) (x : Int32) : ∀ r i, i + r = 5 → owL N x i r = -1 ∨ ∃ p, p < v ∧ owL N x i r = nI p
  | 0, _, _ => Or.inl rfl
  | r + 1, i, h => by
    unfold owL
    by_cases h1 : N 4 ≤ nI i
    · rw [if_pos h1]; exact Or.inl rfl
    · rw [if_neg h1]
      cases inR x (N (5 + 4 * i + 1)) (N (5 + 4 * i + 2))
      · exact owL_cases hX x r (i + 1) (by omega)
      · exact Or.inr ⟨i, hX.lt (by omega) h1, rfl⟩
theorem ow_cases {N : Nat → Int32} {v : Nat} (hX : MX N v) (x : Int32) : ow N x = -1 ∨ ∃ p, p < v ∧ ow N x = nI p := owL_cases hX x 5 0 rfl
def gr (N : Nat → Int32) (x : Int32) : Int32 := if 0 ≤ ow N x then N (5 + 4 * ix (ow N x)) else -1
def cdt (N : Nat → Int32) (j : Nat) (g : Int32) : Bool := decide (gr N (nI j) = g) && decide (N (231 + j) = 0) && decide (N (31 + j) = 0)
def mFr (N : Nat → Int32) (j : Nat) (t : Int32) : Nat → Int32 := upd (upd N (231 + j) 0) (531 + j) t
def mDe (N : Nat → Int32) (j : Nat) : Nat → Int32 := upd (upd N (231 + j) 3) (431 + j) (upd N (231 + j) 3 0 + upd N (231 + j) 3 2)
theorem MX.fr {N : Nat → Int32} {v j : Nat} {t : Int32} (h : MX N v) (hj : j < 100) : MX (mFr N j t) v := MX.ok (MX.ok h (by omega)) (by omega)
theorem MX.de {N : Nat → Int32} {v j : Nat} (h : MX N v) (hj : j < 100) : MX (mDe N j) v := MX.ok (MX.ok h (by omega)) (by omega)
def laD (N : Nat → Int32) (c : Nat) : Int32 := N (5 + 4 * ix (ow N (N (651 + c))) + 3)
def mLs (N : Nat → Int32) (c : Nat) (t : Int32) : Nat → Int32 := upd (upd (upd (upd N (631 + c) 2) (671 + c) (t + laD N c / 2)) (691 + c) (t + 7 * laD N c / 8)) (431 + ix (N (651 + c))) (t + laD N c)
theorem MX.ls {N : Nat → Int32} {v c : Nat} {t : Int32} (h : MX N v) (hc : c < 20) : MX (mLs N c t) v := by
  obtain ⟨j, hj, e⟩ := h.ha c hc
  unfold mLs
  rw [e, ixn (by omega)]
  exact MX.ok (MX.ok (MX.ok (MX.ok h (by omega)) (by omega)) (by omega)) (by omega)
def bdM (N : Nat → Int32) (j : Nat) : Bool := !decide (N (631 + j) ≤ 1)
def lkL (N : Nat → Int32) (x : Int32) : Int32 := bif inR x 0 19 then (bif bdM N (ix x) then 0 else 2) else 1
def lkA (N : Nat → Int32) (x : Int32) : Int32 := bif inR x 0 99 then (if 0 ≤ ow N x then 0 else 2) else 1
def sOf (N : Nat → Int32) (j : Nat) : Int32 := if 0 ≤ ow N (nI j) then N (231 + j) else 0
def due (N : Nat → Int32) (j : Nat) : Int32 := if sOf N j = 0 then -1 else if sOf N j = 2 then (if N (631 + ix (N (331 + j))) = 2 then N (671 + ix (N (331 + j))) else if N (631 + ix (N (331 + j))) = 3 then N (691 + ix (N (331 + j))) else N (431 + j)) else N (431 + j)
def knd (N : Nat → Int32) (j : Nat) : Int32 := if sOf N j = 1 then 0 else if sOf N j = 3 then 1 else N (631 + ix (N (331 + j)))
def cuL (N : Nat → Int32) (g w : Int32) : Nat → Nat → Int32 → Int32
  | _, 0, z => z
  | i, r + 1, z => if gr N (nI i) = g then (if w < 0 then cuL N g w (i + 1) r (z + 1) else if N (231 + i) = w then cuL N g w (i + 1) r (z + 1) else cuL N g w (i + 1) r z) else cuL N g w (i + 1) r z
def cuM (N : Nat → Int32) (g w : Int32) : Int32 := cuL N g w 0 100 0
def boL (N : Nat → Int32) : Nat → Nat → Int32 → Int32
  | _, 0, z => z
  | i, r + 1, z => bif bdM N i then boL N (i + 1) r (z + 1) else boL N (i + 1) r z
def boM (N : Nat → Int32) : Int32 := boL N 0 20 0
def lgN (x : Int32) : Int32 := if 30 ≤ x then x else x + 1
theorem LG.st {x : Int32} (h : LG x) : LG (lgN x) := by
  obtain ⟨n, hn, rfl⟩ := h
  unfold lgN
  by_cases h : (30 : Int32) ≤ nI n
  · rw [if_pos h]; exact ⟨n, hn, rfl⟩
  · rw [if_neg h]
    refine ⟨n + 1, ?_, nI_1 n⟩
    rcases Nat.lt_or_ge n 30 with q | q
    · exact q
    · exact absurd (nI_le (a := 30) q (by omega)) h
def mLog (f : Nat → Int32) (n : Nat) (q x : Int32) : Nat → Int32 := fun j => if j = 0 then 1000 * q + x else if j < n then f (j - 1) else f j
def shr (f : Nat → Int32) (k n : Nat) : Nat → Int32 := fun j => if k < j ∧ j < n then f (j - 1) else f j
theorem shr_0 (f : Nat → Int32) {k n : Nat} (h : n ≤ k + 1) : shr f k n = f := by
  funext j
  exact if_neg (by omega)
theorem shr_s (f : Nat → Int32) {k n : Nat} (h : k + 1 < n) : upd (shr f (k + 1) n) (k + 1) (shr f (k + 1) n k) = shr f k n := by
  funext j
  by_cases e : j = k + 1
  · subst e
    rw [pk_us]
    show (if k + 1 < k ∧ k < n then f (k - 1) else f k) = (if k < k + 1 ∧ k + 1 < n then f (k + 1 - 1) else f (k + 1))
    rw [if_neg (by omega), if_pos (by omega)]
    rfl
  · rw [pk_un e]
    show (if k + 1 < j ∧ j < n then f (j - 1) else f j) = (if k < j ∧ j < n then f (j - 1) else f j)
    by_cases h2 : k < j ∧ j < n
    · rw [if_pos h2, if_pos (by omega)]
    · rw [if_neg h2, if_neg (by omega)]
theorem shr_e (f : Nat → Int32) {n : Nat} (q x : Int32) : upd (shr f 0 n) 0 (1000 * q + x) = mLog f n q x := by
  funext j
  cases j with
  | zero => rfl
  | succ j =>
    show (if 0 < j + 1 ∧ j + 1 < n then f (j + 1 - 1) else f (j + 1)) = (if j + 1 < n then f (j + 1 - 1) else f (j + 1))
    by_cases h : j + 1 < n
    · rw [if_pos h, if_pos ⟨by omega, h⟩]
    · rw [if_neg h, if_neg (by omega)]
set_option maxHeartbeats 4000000 in
set_option maxRecDepth 100000 in
theorem k_X7_in (E : kE) (l : Launch) (wr : va_W) (b : Nat → Nat) (μ : Sto) (a : Nat → Nat) (σ : Sto) (x : Int32) (y : Int32) (z : Int32) : KM E l yX7_in cX7_in 3 (some .boolean) 0 0 0 0 [.int x, .int y, .int z] (WW E b μ a σ wr) (some (.int (bi (inR x y z)))) (WW E b μ a σ wr) := by
  refine K_start (own := RX7) (by decide +kernel) rfl [(0, .int x), (1, .int y), (2, .int z)] rfl (Nat.le_of_ble_eq_true rfl) (fun p e s m below meth c X hr hin => ?_)
  refine g_iload_n X dX7_in_0 1 rfl rfl ?_
  refine g_iload_n X dX7_in_1 2 rfl rfl ?_
  refine g_ic_lt X dX7_in_2 14 5 rfl rfl (fun c1 => ?_) (fun c1 => ?_)
  · skip
    refine g_iconst X dX7_in_14 15 rfl (v := 0) rfl ?_
    exact g_zret X hr dX7_in_15 false rfl () (by simp [inR, bi, c1]) rfl
  · skip
    refine g_iload_n X dX7_in_5 6 rfl rfl ?_
    refine g_iload_n X dX7_in_6 7 rfl rfl ?_
    refine g_ic_gt X dX7_in_7 14 10 rfl rfl (fun c2 => ?_) (fun c2 => ?_)
    · skip
      refine g_iconst X dX7_in_14 15 rfl (v := 0) rfl ?_
      exact g_zret X hr dX7_in_15 false rfl () (by simp [inR, bi, c1, c2]) rfl
    · skip
      refine g_iconst X dX7_in_10 11 rfl (v := 1) rfl ?_
      refine g_goto X dX7_in_11 15 rfl ?_
      exact g_zret X hr dX7_in_15 true rfl () (by simp [inR, bi, c1, c2]) rfl

set_option maxHeartbeats 4000000 in
set_option maxRecDepth 100000 in
theorem k_X7_isAddress (E : kE) (l : Launch) (wr : va_W) (b : Nat → Nat) (μ : Sto) (a : Nat → Nat) (σ : Sto) (x : Int32) : KM E l yX7_isAddress cX7_isAddress 1 (some .boolean) 1 22 0 0 [.int x] (WW E b μ a σ wr) (some (.int (bi (inR x 0 99)))) (WW E b μ a σ wr) := by
  refine K_start (own := RX7) (by decide +kernel) rfl [(0, .int x)] rfl (Nat.le_of_ble_eq_true rfl) (fun p e s m below meth c X hr hin => ?_)
  refine g_iload_n X dX7_isAddress_0 1 rfl rfl ?_
  refine g_iconst X dX7_isAddress_1 2 rfl (v := 0) rfl ?_
  refine g_bipush X dX7_isAddress_2 4 rfl (v := 99) rfl ?_
  refine c_S X Lk_X7_23 (k_X7_in E l wr b μ a σ x 0 99) dX7_isAddress_4 rfl rfl (Nat.le_of_ble_eq_true rfl) ⟨(Nat.le_of_ble_eq_true rfl), (Nat.le_of_ble_eq_true rfl)⟩ ⟨(Nat.le_of_ble_eq_true rfl), (Nat.le_of_ble_eq_true rfl)⟩ 7 rfl [.int (bi (inR x 0 99))] rfl ?_
  exact g_zret X hr dX7_isAddress_7 (inR x 0 99) rfl () rfl rfl

set_option maxHeartbeats 4000000 in
set_option maxRecDepth 100000 in
theorem k_X7_isClient (E : kE) (l : Launch) (wr : va_W) (b : Nat → Nat) (μ : Sto) (a : Nat → Nat) (σ : Sto) (x : Int32) : KM E l yX7_isClient cX7_isClient 1 (some .boolean) 1 22 0 0 [.int x] (WW E b μ a σ wr) (some (.int (bi (inR x 0 19)))) (WW E b μ a σ wr) := by
  refine K_start (own := RX7) (by decide +kernel) rfl [(0, .int x)] rfl (Nat.le_of_ble_eq_true rfl) (fun p e s m below meth c X hr hin => ?_)
  refine g_iload_n X dX7_isClient_0 1 rfl rfl ?_
  refine g_iconst X dX7_isClient_1 2 rfl (v := 0) rfl ?_
  refine g_bipush X dX7_isClient_2 4 rfl (v := 19) rfl ?_
  refine c_S X Lk_X7_23 (k_X7_in E l wr b μ a σ x 0 19) dX7_isClient_4 rfl rfl (Nat.le_of_ble_eq_true rfl) ⟨(Nat.le_of_ble_eq_true rfl), (Nat.le_of_ble_eq_true rfl)⟩ ⟨(Nat.le_of_ble_eq_true rfl), (Nat.le_of_ble_eq_true rfl)⟩ 7 rfl [.int (bi (inR x 0 19))] rfl ?_
  exact g_zret X hr dX7_isClient_7 (inR x 0 19) rfl () rfl rfl

set_option maxHeartbeats 4000000 in
set_option maxRecDepth 100000 in
theorem k_X7_isGroup (E : kE) (l : Launch) (wr : va_W) (b : Nat → Nat) (μ : Sto) (a : Nat → Nat) (σ : Sto) (x : Int32) : KM E l yX7_isGroup cX7_isGroup 1 (some .boolean) 1 22 0 0 [.int x] (WW E b μ a σ wr) (some (.int (bi (inR x 0 2)))) (WW E b μ a σ wr) := by
  refine K_start (own := RX7) (by decide +kernel) rfl [(0, .int x)] rfl (Nat.le_of_ble_eq_true rfl) (fun p e s m below meth c X hr hin => ?_)
  refine g_iload_n X dX7_isGroup_0 1 rfl rfl ?_
  refine g_iconst X dX7_isGroup_1 2 rfl (v := 0) rfl ?_
  refine g_iconst X dX7_isGroup_2 3 rfl (v := 2) rfl ?_
  refine c_S X Lk_X7_23 (k_X7_in E l wr b μ a σ x 0 2) dX7_isGroup_3 rfl rfl (Nat.le_of_ble_eq_true rfl) ⟨(Nat.le_of_ble_eq_true rfl), (Nat.le_of_ble_eq_true rfl)⟩ ⟨(Nat.le_of_ble_eq_true rfl), (Nat.le_of_ble_eq_true rfl)⟩ 6 rfl [.int (bi (inR x 0 2))] rfl ?_
  exact g_zret X hr dX7_isGroup_6 (inR x 0 2) rfl () rfl rfl

set_option maxHeartbeats 4000000 in
set_option maxRecDepth 100000 in
theorem k_X7_raises (E : kE) (l : Launch) (wr : va_W) (b : Nat → Nat) (μ : Sto) (a : Nat → Nat) (σ : Sto) (x : Int32) : KM E l yX7_raises cX7_raises 2 (some .int) 0 0 0 0 [.ref (b 0), .int x] (WW E b μ a σ wr) (some (.int 0)) (WW E b (put μ 0 (sc x)) a σ wr) := by
  refine K_start (own := RX7) (by decide +kernel) rfl [(0, .ref (b 0)), (1, .int x)] rfl (Nat.le_of_ble_eq_true rfl) (fun p e s m below meth c X hr hin => ?_)
  refine g_aload_n X dX7_raises_0 1 rfl rfl ?_
  refine g_iload_n X dX7_raises_1 2 rfl rfl ?_
  refine g_put X FL_X7_19 fk_X7 dX7_raises_2 5 rfl rfl 0 rfl rfl rfl (Nat.le_of_ble_eq_true rfl) (WW E b (put μ 0 (sc x)) a σ wr) rfl ?_
  refine g_iconst X dX7_raises_5 6 rfl (v := 0) rfl ?_
  exact g_iret X hr dX7_raises_6 () rfl rfl

set_option maxHeartbeats 4000000 in
set_option maxRecDepth 100000 in
theorem k_X7_sets (E : kE) (l : Launch) (wr : va_W) (b : Nat → Nat) (μ : Sto) (a : Nat → Nat) (σ : Sto) (j : Nat) (x : Int32) (hj7 : j < 731) : KM E l yX7_sets cX7_sets 4 (some .int) 0 0 0 0 [.ref (b 0), .int (nI j), .int x] (WW E b μ a σ wr) (some (.int ((μ 1) j))) (WW E b (put μ 1 (upd (μ 1) j x)) a σ wr) := by
  refine K_start (own := RX7) (by decide +kernel) rfl [(0, .ref (b 0)), (1, .int (nI j)), (2, .int x)] rfl (Nat.le_of_ble_eq_true rfl) (fun p e s m below meth c X hr hin => ?_)
  refine g_aload_n X dX7_sets_0 1 rfl rfl ?_
  refine g_get X FL_X7_9 dX7_sets_1 4 rfl 0 rfl (v := .ref (b 1)) rfl ?_
  refine g_iload_n X dX7_sets_4 5 rfl rfl ?_
  refine g_ialdN (j := j) (f := (μ 1)) X dX7_sets_5 6 rfl 1 rfl (by omega) (by decide) ?_
  refine g_istore_n X dX7_sets_6 7 rfl (by decide) [(3, .int (μ 1 j)), (0, .ref (b 0)), (1, .int (nI j)), (2, .int x)] rfl ?_
  refine g_aload_n X dX7_sets_7 8 rfl rfl ?_
  refine g_get X FL_X7_9 dX7_sets_8 11 rfl 0 rfl (v := .ref (b 1)) rfl ?_
  refine g_iload_n X dX7_sets_11 12 rfl rfl ?_
  refine g_iload_n X dX7_sets_12 13 rfl rfl ?_
  refine g_iastN (j := j) (f := (μ 1)) X dX7_sets_13 14 rfl 1 rfl (by omega) (by decide) (WW E b (put μ 1 (upd (μ 1) j x)) a σ wr) rfl ?_
  refine g_iload_n X dX7_sets_14 15 rfl rfl ?_
  exact g_iret X hr dX7_sets_15 () rfl rfl

set_option maxHeartbeats 4000000 in
set_option maxRecDepth 100000 in
theorem k_X7_logs (E : kE) (l : Launch) (wr : va_W) (b : Nat → Nat) (μ : Sto) (a : Nat → Nat) (σ : Sto) (q : Int32) (x : Int32) (hL : LG (μ 5 0)) : KM E l yX7_logs cX7_logs 4 none 0 0 0 0 [.ref (b 0), .int q, .int x] (WW E b μ a σ wr) none (WW E b (put (put μ 4 (mLog (μ 4) (ix (lgN (μ 5 0))) q x)) 5 (sc (lgN (μ 5 0)))) a σ wr) := by
  refine K_start (own := RX7) (by decide +kernel) rfl [(0, .ref (b 0)), (1, .int q), (2, .int x)] rfl (Nat.le_of_ble_eq_true rfl) (fun p e s m below meth c X hr hin => ?_)
  obtain ⟨n, hn, hl⟩ := hL
  refine g_aload_n X dX7_logs_0 1 rfl rfl ?_
  refine g_get X FL_X7_27 dX7_logs_1 4 rfl 0 rfl (v := .int (μ 5 0)) rfl ?_
  refine g_bipush X dX7_logs_4 6 rfl (v := 30) rfl ?_
  refine g_ic_ge X dX7_logs_6 19 9 rfl rfl (fun c1 => ?_) (fun c1 => ?_)
  · skip
    refine g_aload_n X dX7_logs_19 20 rfl rfl ?_
    refine g_get X FL_X7_27 dX7_logs_20 23 rfl 0 rfl (v := .int (μ 5 0)) rfl ?_
    refine g_iconst X dX7_logs_23 24 rfl (v := 1) rfl ?_
    refine g_isub X dX7_logs_24 25 rfl ?_
    have hn30 : n = 30 := by
      rcases Nat.lt_or_ge n 30 with q | q
      · exact absurd (by rw [← hl]; exact c1) (nI_ge (b := 30) q (by decide))
      · omega
    rw [show ((μ 5 0) - 1) = nI 29 from by rw [hl, hn30]; rfl]
    refine g_istore_n X dX7_logs_25 26 rfl (by decide) [(3, .int (nI 29)), (0, .ref (b 0)), (1, .int q), (2, .int x)] rfl ?_
    have Lp : ∀ (k : Nat), (k < 30) →  G E (va_A (WW E b μ a σ wr) s.heap.size) 4 p l e ({ frames := 0, cells := 0, slots := 0, locals := 0 } : Room) s m (([.ref (b 0), .int q, .int x] : List Value).toArray) below meth c (MQ below (KQ E (WW E b μ a σ wr) s.heap.size (fun _ : Unit => none) (fun _ => WW E b (put (put μ 4 (mLog (μ 4) (ix (lgN (μ 5 0))) q x)) 5 (sc (lgN (μ 5 0)))) a σ wr)) (([.ref (b 0), .int q, .int x] : List Value).toArray) s 0 0 (va_A (WW E b μ a σ wr) s.heap.size)) 0 0 (WW E b (put μ 4 (shr (μ 4) k 30)) a σ wr) 26 [(0, .ref (b 0)), (1, .int q), (2, .int x), (3, .int (nI k))] [] := by
      intro k
      induction k with
      | zero =>
        intro  hk
        refine g_iload_n X dX7_logs_26 27 rfl rfl ?_
        refine g_if_le X dX7_logs_27 50 30 rfl rfl (fun c2 => ?_) (fun c2 => absurd (by decide) c2)
        refine g_aload_n X dX7_logs_50 51 rfl rfl ?_
        refine g_get X FL_X7_16 dX7_logs_51 54 rfl 0 rfl (v := .ref (b 3)) rfl ?_
        refine g_iconst X dX7_logs_54 55 rfl (v := 0) rfl ?_
        refine g_sipush X dX7_logs_55 58 rfl (v := 1000) rfl ?_
        refine g_iload_n X dX7_logs_58 59 rfl rfl ?_
        refine g_imul X dX7_logs_59 60 rfl ?_
        refine g_iload_n X dX7_logs_60 61 rfl rfl ?_
        refine g_iadd X dX7_logs_61 62 rfl ?_
        refine g_iastN (j := 0) (f := (shr (μ 4) 0 30)) X dX7_logs_62 63 rfl 3 rfl (by omega) (by decide) (WW E b (put μ 4 (upd (shr (μ 4) 0 30) 0 ((1000 * q) + x))) a σ wr) rfl ?_
        exact g_vret X hr dX7_logs_63 () rfl (by rw [shr_e]; simp only [lgN, if_pos c1]; rw [show ix (μ 5 0) = 30 from by rw [hl, hn30]; rfl]; rfl)
      | succ k ih =>
        intro  hk
        refine g_iload_n X dX7_logs_26 27 rfl rfl ?_
        refine g_if_le X dX7_logs_27 50 30 rfl rfl (fun c3 => absurd c3 (nI_nle (by omega) (by omega))) (fun c3 => ?_)
        refine g_aload_n X dX7_logs_30 31 rfl rfl ?_
        refine g_get X FL_X7_16 dX7_logs_31 34 rfl 0 rfl (v := .ref (b 3)) rfl ?_
        refine g_iload_n X dX7_logs_34 35 rfl rfl ?_
        refine g_aload_n X dX7_logs_35 36 rfl rfl ?_
        refine g_get X FL_X7_16 dX7_logs_36 39 rfl 0 rfl (v := .ref (b 3)) rfl ?_
        refine g_iload_n X dX7_logs_39 40 rfl rfl ?_
        refine g_iconst X dX7_logs_40 41 rfl (v := 1) rfl ?_
        refine g_isub1 X dX7_logs_41 42 rfl k ?_
        refine g_ialdN (j := k) (f := (shr (μ 4) (k + 1) 30)) X dX7_logs_42 43 rfl 3 rfl (by omega) (by decide) ?_
        refine g_iastN (j := (k + 1)) (f := (shr (μ 4) (k + 1) 30)) X dX7_logs_43 44 rfl 3 rfl (by omega) (by decide) (WW E b (put μ 4 (upd (shr (μ 4) (k + 1) 30) (k + 1) ((shr (μ 4) (k + 1) 30) k))) a σ wr) rfl ?_
        refine g_iinc X dX7_logs_44 47 rfl (by decide) 3 rfl (nI_dec _) [(3, .int (nI k)), (0, .ref (b 0)), (1, .int q), (2, .int x)] rfl ?_
        refine g_goto X dX7_logs_47 26 rfl ?_
        refine g_lsub [1, 2, 3, 0] [(0, .ref (b 0)), (1, .int q), (2, .int x), (3, .int (nI k))] rfl ?_
        rw [shr_s _ (by omega)]
        exact ih (by omega)
    refine g_lsub [1, 2, 3, 0] [(0, .ref (b 0)), (1, .int q), (2, .int x), (3, .int (nI 29))] rfl ?_
    have L0 := Lp 29 (by omega)
    rw [shr_0 _ (by omega)] at L0
    exact L0
  · skip
    refine g_aload_n X dX7_logs_9 10 rfl rfl ?_
    refine g_dup X dX7_logs_10 11 rfl rfl ?_
    refine g_get X FL_X7_27 dX7_logs_11 14 rfl 0 rfl (v := .int (μ 5 0)) rfl ?_
    refine g_iconst X dX7_logs_14 15 rfl (v := 1) rfl ?_
    refine g_iadd X dX7_logs_15 16 rfl ?_
    refine g_put X FL_X7_27 fk_X7 dX7_logs_16 19 rfl rfl 0 rfl rfl rfl (Nat.le_of_ble_eq_true rfl) (WW E b (put μ 5 (sc ((μ 5 0) + 1))) a σ wr) rfl ?_
    refine g_aload_n X dX7_logs_19 20 rfl rfl ?_
    refine g_get X FL_X7_27 dX7_logs_20 23 rfl 0 rfl (v := .int ((μ 5 0) + 1)) rfl ?_
    refine g_iconst X dX7_logs_23 24 rfl (v := 1) rfl ?_
    refine g_isub X dX7_logs_24 25 rfl ?_
    rw [show (((μ 5 0) + 1) - 1) = nI n from by rw [hl, nI_1]; exact nI_pr n]
    have hn30 : n < 30 := by
      rcases Nat.lt_or_ge n 30 with q | q
      · exact q
      · exact absurd (by rw [hl]; exact nI_le (a := 30) q (by omega)) c1
    refine g_istore_n X dX7_logs_25 26 rfl (by decide) [(3, .int (nI n)), (0, .ref (b 0)), (1, .int q), (2, .int x)] rfl ?_
    have Lp : ∀ (k : Nat), (k < (n + 1)) →  G E (va_A (WW E b μ a σ wr) s.heap.size) 4 p l e ({ frames := 0, cells := 0, slots := 0, locals := 0 } : Room) s m (([.ref (b 0), .int q, .int x] : List Value).toArray) below meth c (MQ below (KQ E (WW E b μ a σ wr) s.heap.size (fun _ : Unit => none) (fun _ => WW E b (put (put μ 4 (mLog (μ 4) (ix (lgN (μ 5 0))) q x)) 5 (sc (lgN (μ 5 0)))) a σ wr)) (([.ref (b 0), .int q, .int x] : List Value).toArray) s 0 0 (va_A (WW E b μ a σ wr) s.heap.size)) 0 0 (WW E b (put (put μ 5 (sc ((μ 5 0) + 1))) 4 (shr (μ 4) k (n + 1))) a σ wr) 26 [(0, .ref (b 0)), (1, .int q), (2, .int x), (3, .int (nI k))] [] := by
      intro k
      induction k with
      | zero =>
        intro  hk
        refine g_iload_n X dX7_logs_26 27 rfl rfl ?_
        refine g_if_le X dX7_logs_27 50 30 rfl rfl (fun c4 => ?_) (fun c4 => absurd (by decide) c4)
        refine g_aload_n X dX7_logs_50 51 rfl rfl ?_
        refine g_get X FL_X7_16 dX7_logs_51 54 rfl 0 rfl (v := .ref (b 3)) rfl ?_
        refine g_iconst X dX7_logs_54 55 rfl (v := 0) rfl ?_
        refine g_sipush X dX7_logs_55 58 rfl (v := 1000) rfl ?_
        refine g_iload_n X dX7_logs_58 59 rfl rfl ?_
        refine g_imul X dX7_logs_59 60 rfl ?_
        refine g_iload_n X dX7_logs_60 61 rfl rfl ?_
        refine g_iadd X dX7_logs_61 62 rfl ?_
        refine g_iastN (j := 0) (f := (shr (μ 4) 0 (n + 1))) X dX7_logs_62 63 rfl 3 rfl (by omega) (by decide) (WW E b (put (put μ 5 (sc ((μ 5 0) + 1))) 4 (upd (shr (μ 4) 0 (n + 1)) 0 ((1000 * q) + x))) a σ wr) rfl ?_
        exact g_vret X hr dX7_logs_63 () rfl (by rw [shr_e]; simp only [lgN, if_neg c1]; rw [show ix (μ 5 0 + 1) = n + 1 from by rw [hl, nI_1, ixn (by omega)]]; rfl)
      | succ k ih =>
        intro  hk
        refine g_iload_n X dX7_logs_26 27 rfl rfl ?_
        refine g_if_le X dX7_logs_27 50 30 rfl rfl (fun c5 => absurd c5 (nI_nle (by omega) (by omega))) (fun c5 => ?_)
        refine g_aload_n X dX7_logs_30 31 rfl rfl ?_
        refine g_get X FL_X7_16 dX7_logs_31 34 rfl 0 rfl (v := .ref (b 3)) rfl ?_
        refine g_iload_n X dX7_logs_34 35 rfl rfl ?_
        refine g_aload_n X dX7_logs_35 36 rfl rfl ?_
        refine g_get X FL_X7_16 dX7_logs_36 39 rfl 0 rfl (v := .ref (b 3)) rfl ?_
        refine g_iload_n X dX7_logs_39 40 rfl rfl ?_
        refine g_iconst X dX7_logs_40 41 rfl (v := 1) rfl ?_
        refine g_isub1 X dX7_logs_41 42 rfl k ?_
        refine g_ialdN (j := k) (f := (shr (μ 4) (k + 1) (n + 1))) X dX7_logs_42 43 rfl 3 rfl (by omega) (by decide) ?_
        refine g_iastN (j := (k + 1)) (f := (shr (μ 4) (k + 1) (n + 1))) X dX7_logs_43 44 rfl 3 rfl (by omega) (by decide) (WW E b (put (put μ 5 (sc ((μ 5 0) + 1))) 4 (upd (shr (μ 4) (k + 1) (n + 1)) (k + 1) ((shr (μ 4) (k + 1) (n + 1)) k))) a σ wr) rfl ?_
        refine g_iinc X dX7_logs_44 47 rfl (by decide) 3 rfl (nI_dec _) [(3, .int (nI k)), (0, .ref (b 0)), (1, .int q), (2, .int x)] rfl ?_
        refine g_goto X dX7_logs_47 26 rfl ?_
        refine g_lsub [1, 2, 3, 0] [(0, .ref (b 0)), (1, .int q), (2, .int x), (3, .int (nI k))] rfl ?_
        rw [shr_s _ (by omega)]
        exact ih (by omega)
    refine g_lsub [1, 2, 3, 0] [(0, .ref (b 0)), (1, .int q), (2, .int x), (3, .int (nI n))] rfl ?_
    have L0 := Lp n (by omega)
    rw [shr_0 _ (by omega)] at L0
    exact L0

set_option maxHeartbeats 4000000 in
set_option maxRecDepth 100000 in
theorem k_X7_pool (E : kE) (l : Launch) (wr : va_W) (b : Nat → Nat) (μ : Sto) (a : Nat → Nat) (σ : Sto) (j : Nat) : KM E l yX7_pool cX7_pool 2 (some .int) 0 0 0 0 [.ref (b 0), .int (nI j)] (WW E b μ a σ wr) (some (.int (nI (5 + 4 * j)))) (WW E b μ a σ wr) := by
  refine K_start (own := RX7) (by decide +kernel) rfl [(0, .ref (b 0)), (1, .int (nI j))] rfl (Nat.le_of_ble_eq_true rfl) (fun p e s m below meth c X hr hin => ?_)
  refine g_iconst X dX7_pool_0 1 rfl (v := 5) rfl ?_
  refine g_iconst X dX7_pool_1 2 rfl (v := 4) rfl ?_
  refine g_iload_n X dX7_pool_2 3 rfl rfl ?_
  refine g_imulN X dX7_pool_3 4 rfl 4 j rfl rfl ?_
  refine g_iaddN X dX7_pool_4 5 rfl 5 (4 * j) rfl rfl ?_
  exact g_iret X hr dX7_pool_5 () rfl rfl

set_option maxHeartbeats 4000000 in
set_option maxRecDepth 100000 in
theorem k_X7_owner (E : kE) (l : Launch) (wr : va_W) (b : Nat → Nat) (μ : Sto) (a : Nat → Nat) (σ : Sto) (x : Int32) (v : Nat) (hX : MX (μ 1) v) : KM E l yX7_owner cX7_owner 3 (some .int) 1 22 0 0 [.ref (b 0), .int x] (WW E b μ a σ wr) (some (.int (ow (μ 1) x))) (WW E b μ a σ wr) := by
  refine K_start (own := RX7) (by decide +kernel) rfl [(0, .ref (b 0)), (1, .int x)] rfl (Nat.le_of_ble_eq_true rfl) (fun p e s m below meth c X hr hin => ?_)
  have hv5 := hX.hv
  refine g_iconst X dX7_owner_0 1 rfl (v := 0) rfl ?_
  refine g_istore_n X dX7_owner_1 2 rfl (by decide) [(2, .int 0), (0, .ref (b 0)), (1, .int x)] rfl ?_
  have Lp : ∀ (r i : Nat), (i + r = 5) → (owL (μ 1) x i r = ow (μ 1) x) →  G E (va_A (WW E b μ a σ wr) s.heap.size) 3 p l e ({ frames := 1, cells := 0, slots := 0, locals := 22 } : Room) s m (([.ref (b 0), .int x] : List Value).toArray) below meth c (MQ below (KQ E (WW E b μ a σ wr) s.heap.size (fun _ : Unit => (some (.int (ow (μ 1) x)))) (fun _ => WW E b μ a σ wr)) (([.ref (b 0), .int x] : List Value).toArray) s 0 0 (va_A (WW E b μ a σ wr) s.heap.size)) 0 0 (WW E b μ a σ wr) 2 [(2, .int (nI i)), (0, .ref (b 0)), (1, .int x)] [] := by
    intro r
    induction r with
    | zero =>
      intro i hi hw
      obtain rfl : i = 5 := by omega
      refine g_iload_n X dX7_owner_2 3 rfl rfl ?_
      refine g_aload_n X dX7_owner_3 4 rfl rfl ?_
      refine g_get X FL_X7_9 dX7_owner_4 7 rfl 0 rfl (v := .ref (b 1)) rfl ?_
      refine g_iconst X dX7_owner_7 8 rfl (v := 4) rfl ?_
      refine g_ialdN (j := 4) (f := (μ 1)) X dX7_owner_8 9 rfl 1 rfl (by omega) (by decide) ?_
      refine g_ic_ge X dX7_owner_9 51 12 rfl rfl (fun c1 => ?_) (fun c1 => absurd (by rw [hX.hc]; exact nI_le hv5 (by decide)) c1)
      refine g_iconst X dX7_owner_51 52 rfl (v := -1) rfl ?_
      exact g_iret X hr dX7_owner_52 () (by rw [← hw]; rfl) rfl
    | succ r ih =>
      intro i hi hw
      refine g_iload_n X dX7_owner_2 3 rfl rfl ?_
      refine g_aload_n X dX7_owner_3 4 rfl rfl ?_
      refine g_get X FL_X7_9 dX7_owner_4 7 rfl 0 rfl (v := .ref (b 1)) rfl ?_
      refine g_iconst X dX7_owner_7 8 rfl (v := 4) rfl ?_
      refine g_ialdN (j := 4) (f := (μ 1)) X dX7_owner_8 9 rfl 1 rfl (by omega) (by decide) ?_
      refine g_ic_ge X dX7_owner_9 51 12 rfl rfl (fun c9 => ?_) (fun c9 => ?_)
      · skip
        refine g_iconst X dX7_owner_51 52 rfl (v := -1) rfl ?_
        exact g_iret X hr dX7_owner_52 () (by rw [← hw]; simp [owL, c9]) rfl
      · skip
        have hiv := hX.lt (i := i) (by omega) c9
        refine g_iload_n X dX7_owner_12 13 rfl rfl ?_
        refine g_aload_n X dX7_owner_13 14 rfl rfl ?_
        refine g_get X FL_X7_9 dX7_owner_14 17 rfl 0 rfl (v := .ref (b 1)) rfl ?_
        refine g_aload_n X dX7_owner_17 18 rfl rfl ?_
        refine g_iload_n X dX7_owner_18 19 rfl rfl ?_
        refine c_V X Lk_X7_30 (k_X7_pool E l wr b μ a σ i) dX7_owner_19 rfl 0 rfl rfl rfl (Nat.le_of_ble_eq_true rfl) ⟨(Nat.le_of_ble_eq_true rfl), (Nat.le_of_ble_eq_true rfl)⟩ ⟨(Nat.le_of_ble_eq_true rfl), (Nat.le_of_ble_eq_true rfl)⟩ 22 rfl [.int (nI (5 + 4 * i)), .ref (b 1), .int x] rfl ?_
        refine g_iconst X dX7_owner_22 23 rfl (v := 1) rfl ?_
        refine g_iaddN X dX7_owner_23 24 rfl (5 + 4 * i) 1 rfl rfl ?_
        refine g_ialdN (j := (5 + 4 * i + 1)) (f := (μ 1)) X dX7_owner_24 25 rfl 1 rfl (by omega) (by decide) ?_
        refine g_aload_n X dX7_owner_25 26 rfl rfl ?_
        refine g_get X FL_X7_9 dX7_owner_26 29 rfl 0 rfl (v := .ref (b 1)) rfl ?_
        refine g_aload_n X dX7_owner_29 30 rfl rfl ?_
        refine g_iload_n X dX7_owner_30 31 rfl rfl ?_
        refine c_V X Lk_X7_30 (k_X7_pool E l wr b μ a σ i) dX7_owner_31 rfl 0 rfl rfl rfl (Nat.le_of_ble_eq_true rfl) ⟨(Nat.le_of_ble_eq_true rfl), (Nat.le_of_ble_eq_true rfl)⟩ ⟨(Nat.le_of_ble_eq_true rfl), (Nat.le_of_ble_eq_true rfl)⟩ 34 rfl [.int (nI (5 + 4 * i)), .ref (b 1), .int (μ 1 (5 + 4 * i + 1)), .int x] rfl ?_
        refine g_iconst X dX7_owner_34 35 rfl (v := 2) rfl ?_
        refine g_iaddN X dX7_owner_35 36 rfl (5 + 4 * i) 2 rfl rfl ?_
        refine g_ialdN (j := (5 + 4 * i + 2)) (f := (μ 1)) X dX7_owner_36 37 rfl 1 rfl (by omega) (by decide) ?_
        refine c_S X Lk_X7_23 (k_X7_in E l wr b μ a σ x (μ 1 (5 + 4 * i + 1)) (μ 1 (5 + 4 * i + 2))) dX7_owner_37 rfl rfl (Nat.le_of_ble_eq_true rfl) ⟨(Nat.le_of_ble_eq_true rfl), (Nat.le_of_ble_eq_true rfl)⟩ ⟨(Nat.le_of_ble_eq_true rfl), (Nat.le_of_ble_eq_true rfl)⟩ 40 rfl [.int (bi (inR x (μ 1 (5 + 4 * i + 1)) (μ 1 (5 + 4 * i + 2))))] rfl ?_
        refine g_ifb_eq X dX7_owner_40 45 43 rfl rfl (fun c3 => ?_) (fun c3 => ?_)
        · skip
          refine g_iinc X dX7_owner_45 48 rfl (by decide) 0 rfl (nI_1 _) [(2, .int (nI (i + 1))), (0, .ref (b 0)), (1, .int x)] rfl ?_
          refine g_goto X dX7_owner_48 2 rfl ?_
          exact ih (i + 1) (by omega) (by rw [← hw]; simp [owL, c9, c3])
        · skip
          refine g_iload_n X dX7_owner_43 44 rfl rfl ?_
          exact g_iret X hr dX7_owner_44 () (by rw [← hw]; simp [owL, c9, c3]) rfl
  exact Lp 5 0 rfl rfl

set_option maxHeartbeats 4000000 in
set_option maxRecDepth 100000 in
theorem k_X7_groupOf (E : kE) (l : Launch) (wr : va_W) (b : Nat → Nat) (μ : Sto) (a : Nat → Nat) (σ : Sto) (x : Int32) (v : Nat) (hX : MX (μ 1) v) : KM E l yX7_groupOf cX7_groupOf 3 (some .int) 2 44 0 0 [.ref (b 0), .int x] (WW E b μ a σ wr) (some (.int (gr (μ 1) x))) (WW E b μ a σ wr) := by
  refine K_start (own := RX7) (by decide +kernel) rfl [(0, .ref (b 0)), (1, .int x)] rfl (Nat.le_of_ble_eq_true rfl) (fun p e s m below meth c X hr hin => ?_)
  have hv5 := hX.hv
  refine g_aload_n X dX7_groupOf_0 1 rfl rfl ?_
  refine g_iload_n X dX7_groupOf_1 2 rfl rfl ?_
  refine c_V X Lk_X7_34 (k_X7_owner E l wr b μ a σ x v hX) dX7_groupOf_2 rfl 0 rfl rfl rfl (Nat.le_of_ble_eq_true rfl) ⟨(Nat.le_of_ble_eq_true rfl), (Nat.le_of_ble_eq_true rfl)⟩ ⟨(Nat.le_of_ble_eq_true rfl), (Nat.le_of_ble_eq_true rfl)⟩ 5 rfl [.int (ow (μ 1) x)] rfl ?_
  rcases ow_cases hX x with h1 | ⟨q, hq, h1⟩
  · skip
    rw [h1]
    refine g_istore_n X dX7_groupOf_5 6 rfl (by decide) [(2, .int (-1)), (0, .ref (b 0)), (1, .int x)] rfl ?_
    refine g_iload_n X dX7_groupOf_6 7 rfl rfl ?_
    refine g_if_ge X dX7_groupOf_7 14 10 rfl rfl (fun c1 => absurd c1 (by decide)) (fun c1 => ?_)
    refine g_iconst X dX7_groupOf_10 11 rfl (v := -1) rfl ?_
    refine g_goto X dX7_groupOf_11 24 rfl ?_
    exact g_iret X hr dX7_groupOf_24 () (by rw [gr, h1]; rfl) rfl
  · skip
    rw [h1]
    refine g_istore_n X dX7_groupOf_5 6 rfl (by decide) [(2, .int (nI q)), (0, .ref (b 0)), (1, .int x)] rfl ?_
    refine g_iload_n X dX7_groupOf_6 7 rfl rfl ?_
    refine g_if_ge X dX7_groupOf_7 14 10 rfl rfl (fun c2 => ?_) (fun c2 => absurd (nI_0le (by omega)) c2)
    refine g_aload_n X dX7_groupOf_14 15 rfl rfl ?_
    refine g_get X FL_X7_9 dX7_groupOf_15 18 rfl 0 rfl (v := .ref (b 1)) rfl ?_
    refine g_aload_n X dX7_groupOf_18 19 rfl rfl ?_
    refine g_iload_n X dX7_groupOf_19 20 rfl rfl ?_
    refine c_V X Lk_X7_30 (k_X7_pool E l wr b μ a σ q) dX7_groupOf_20 rfl 0 rfl rfl rfl (Nat.le_of_ble_eq_true rfl) ⟨(Nat.le_of_ble_eq_true rfl), (Nat.le_of_ble_eq_true rfl)⟩ ⟨(Nat.le_of_ble_eq_true rfl), (Nat.le_of_ble_eq_true rfl)⟩ 23 rfl [.int (nI (5 + 4 * q)), .ref (b 1)] rfl ?_
    refine g_ialdN (j := (5 + 4 * q)) (f := (μ 1)) X dX7_groupOf_23 24 rfl 1 rfl (by omega) (by decide) ?_
    exact g_iret X hr dX7_groupOf_24 () (by rw [gr, h1, if_pos (nI_0le (by omega)), ixn (by omega)]) rfl

set_option maxHeartbeats 4000000 in
set_option maxRecDepth 100000 in
theorem k_X7_isPool (E : kE) (l : Launch) (wr : va_W) (b : Nat → Nat) (μ : Sto) (a : Nat → Nat) (σ : Sto) (x : Int32) : KM E l yX7_isPool cX7_isPool 2 (some .boolean) 1 22 0 0 [.ref (b 0), .int x] (WW E b μ a σ wr) (some (.int (bi (inR x 0 ((μ 1) 4 - 1))))) (WW E b μ a σ wr) := by
  refine K_start (own := RX7) (by decide +kernel) rfl [(0, .ref (b 0)), (1, .int x)] rfl (Nat.le_of_ble_eq_true rfl) (fun p e s m below meth c X hr hin => ?_)
  refine g_iload_n X dX7_isPool_0 1 rfl rfl ?_
  refine g_iconst X dX7_isPool_1 2 rfl (v := 0) rfl ?_
  refine g_aload_n X dX7_isPool_2 3 rfl rfl ?_
  refine g_get X FL_X7_9 dX7_isPool_3 6 rfl 0 rfl (v := .ref (b 1)) rfl ?_
  refine g_iconst X dX7_isPool_6 7 rfl (v := 4) rfl ?_
  refine g_ialdN (j := 4) (f := (μ 1)) X dX7_isPool_7 8 rfl 1 rfl (by omega) (by decide) ?_
  refine g_iconst X dX7_isPool_8 9 rfl (v := 1) rfl ?_
  refine g_isub X dX7_isPool_9 10 rfl ?_
  refine c_S X Lk_X7_23 (k_X7_in E l wr b μ a σ x 0 ((μ 1 4) - 1)) dX7_isPool_10 rfl rfl (Nat.le_of_ble_eq_true rfl) ⟨(Nat.le_of_ble_eq_true rfl), (Nat.le_of_ble_eq_true rfl)⟩ ⟨(Nat.le_of_ble_eq_true rfl), (Nat.le_of_ble_eq_true rfl)⟩ 13 rfl [.int (bi (inR x 0 ((μ 1 4) - 1)))] rfl ?_
  exact g_zret X hr dX7_isPool_13 (inR x 0 ((μ 1 4) - 1)) rfl () rfl rfl

set_option maxHeartbeats 4000000 in
set_option maxRecDepth 100000 in
theorem k_X7_isCandidate (E : kE) (l : Launch) (wr : va_W) (b : Nat → Nat) (μ : Sto) (a : Nat → Nat) (σ : Sto) (j : Nat) (g : Int32) (v : Nat) (hX : MX (μ 1) v) (hj : j < 100) : KM E l yX7_isCandidate cX7_isCandidate 3 (some .boolean) 3 66 0 0 [.ref (b 0), .int (nI j), .int g] (WW E b μ a σ wr) (some (.int (bi (cdt (μ 1) j g)))) (WW E b μ a σ wr) := by
  refine K_start (own := RX7) (by decide +kernel) rfl [(0, .ref (b 0)), (1, .int (nI j)), (2, .int g)] rfl (Nat.le_of_ble_eq_true rfl) (fun p e s m below meth c X hr hin => ?_)
  refine g_aload_n X dX7_isCandidate_0 1 rfl rfl ?_
  refine g_iload_n X dX7_isCandidate_1 2 rfl rfl ?_
  refine c_V X Lk_X7_50 (k_X7_groupOf E l wr b μ a σ (nI j) v hX) dX7_isCandidate_2 rfl 0 rfl rfl rfl (Nat.le_of_ble_eq_true rfl) ⟨(Nat.le_of_ble_eq_true rfl), (Nat.le_of_ble_eq_true rfl)⟩ ⟨(Nat.le_of_ble_eq_true rfl), (Nat.le_of_ble_eq_true rfl)⟩ 5 rfl [.int (gr (μ 1) (nI j))] rfl ?_
  refine g_iload_n X dX7_isCandidate_5 6 rfl rfl ?_
  refine g_ic_ne X dX7_isCandidate_6 38 9 rfl rfl (fun c1 => ?_) (fun c1 => ?_)
  · skip
    refine g_iconst X dX7_isCandidate_38 39 rfl (v := 0) rfl ?_
    exact g_zret X hr dX7_isCandidate_39 false rfl () (by simp [cdt, bi, c1]) rfl
  · skip
    refine g_aload_n X dX7_isCandidate_9 10 rfl rfl ?_
    refine g_get X FL_X7_9 dX7_isCandidate_10 13 rfl 0 rfl (v := .ref (b 1)) rfl ?_
    refine g_sipush X dX7_isCandidate_13 16 rfl (v := 231) rfl ?_
    refine g_iload_n X dX7_isCandidate_16 17 rfl rfl ?_
    refine g_iaddN X dX7_isCandidate_17 18 rfl 231 j rfl rfl ?_
    refine g_ialdN (j := (231 + j)) (f := (μ 1)) X dX7_isCandidate_18 19 rfl 1 rfl (by omega) (by decide) ?_
    refine g_if_ne X dX7_isCandidate_19 38 22 rfl rfl (fun c2 => ?_) (fun c2 => ?_)
    · skip
      refine g_iconst X dX7_isCandidate_38 39 rfl (v := 0) rfl ?_
      exact g_zret X hr dX7_isCandidate_39 false rfl () (by simp [cdt, bi, c1, c2]) rfl
    · skip
      refine g_aload_n X dX7_isCandidate_22 23 rfl rfl ?_
      refine g_get X FL_X7_9 dX7_isCandidate_23 26 rfl 0 rfl (v := .ref (b 1)) rfl ?_
      refine g_bipush X dX7_isCandidate_26 28 rfl (v := 31) rfl ?_
      refine g_iload_n X dX7_isCandidate_28 29 rfl rfl ?_
      refine g_iaddN X dX7_isCandidate_29 30 rfl 31 j rfl rfl ?_
      refine g_ialdN (j := (31 + j)) (f := (μ 1)) X dX7_isCandidate_30 31 rfl 1 rfl (by omega) (by decide) ?_
      refine g_if_ne X dX7_isCandidate_31 38 34 rfl rfl (fun c3 => ?_) (fun c3 => ?_)
      · skip
        refine g_iconst X dX7_isCandidate_38 39 rfl (v := 0) rfl ?_
        exact g_zret X hr dX7_isCandidate_39 false rfl () (by simp [cdt, bi, c1, c2, c3]) rfl
      · skip
        refine g_iconst X dX7_isCandidate_34 35 rfl (v := 1) rfl ?_
        refine g_goto X dX7_isCandidate_35 39 rfl ?_
        exact g_zret X hr dX7_isCandidate_39 true rfl () (by simp [cdt, bi, c1, c2, c3]) rfl

set_option maxHeartbeats 4000000 in
set_option maxRecDepth 100000 in
theorem k_X7_flips (E : kE) (l : Launch) (wr : va_W) (b : Nat → Nat) (μ : Sto) (a : Nat → Nat) (σ : Sto) (B : Bool) (x : Int32) (u : Bool) (hx : B = true → ∃ j : Nat, j < 731 ∧ x = nI j) : KM E l yX7_flips cX7_flips 4 (some .boolean) 1 23 0 0 [.ref (b 0), .int (bi B), .int x, .int (bi u)] (WW E b μ a σ wr) (some (.int (bi (B && decide ((μ 1) (ix x) = 1))))) (WW E b (put (put μ 0 (sc (bi (!B)))) 1 (bif B then upd (μ 1) (ix x) (bi u) else (μ 1))) a σ wr) := by
  refine K_start (own := RX7) (by decide +kernel) rfl [(0, .ref (b 0)), (1, .int (bi B)), (2, .int x), (3, .int (bi u))] rfl (Nat.le_of_ble_eq_true rfl) (fun p e s m below meth c X hr hin => ?_)
  refine g_aload_n X dX7_flips_0 1 rfl rfl ?_
  refine g_iload_n X dX7_flips_1 2 rfl rfl ?_
  refine g_ifb_eq X dX7_flips_2 9 5 rfl rfl (fun c1 => ?_) (fun c1 => ?_)
  · skip
    refine g_iconst X dX7_flips_9 10 rfl (v := 1) rfl ?_
    refine g_put X FL_X7_19 fk_X7 dX7_flips_10 13 rfl rfl 0 rfl rfl rfl (Nat.le_of_ble_eq_true rfl) (WW E b (put μ 0 (sc 1)) a σ wr) rfl ?_
    refine g_iload_n X dX7_flips_13 14 rfl rfl ?_
    refine g_ifb_eq X dX7_flips_14 39 17 rfl rfl (fun c2 => ?_) (fun c2 => absurd c2 (by simp [c1]))
    refine g_iconst X dX7_flips_39 40 rfl (v := 0) rfl ?_
    exact g_zret X hr dX7_flips_40 false rfl () (by simp [bi, c1, c2]) (by simp [bi, c1, c2]; rfl)
  · skip
    refine g_iconst X dX7_flips_5 6 rfl (v := 0) rfl ?_
    refine g_goto X dX7_flips_6 10 rfl ?_
    refine g_put X FL_X7_19 fk_X7 dX7_flips_10 13 rfl rfl 0 rfl rfl rfl (Nat.le_of_ble_eq_true rfl) (WW E b (put μ 0 (sc 0)) a σ wr) rfl ?_
    refine g_iload_n X dX7_flips_13 14 rfl rfl ?_
    refine g_ifb_eq X dX7_flips_14 39 17 rfl rfl (fun c3 => absurd c3 (by simp [c1])) (fun c3 => ?_)
    obtain ⟨j, hj7, rfl⟩ := hx c1
    refine g_aload_n X dX7_flips_17 18 rfl rfl ?_
    refine g_iload_n X dX7_flips_18 19 rfl rfl ?_
    refine g_iload_n X dX7_flips_19 20 rfl rfl ?_
    refine g_ifb_eq X dX7_flips_20 27 23 rfl rfl (fun c4 => ?_) (fun c4 => ?_)
    · skip
      refine g_iconst X dX7_flips_27 28 rfl (v := 0) rfl ?_
      refine c_V X Lk_X7_57 (k_X7_sets E l wr b (put μ 0 (sc 0)) a σ j 0 (by first | omega | assumption)) dX7_flips_28 rfl 0 rfl rfl rfl (Nat.le_of_ble_eq_true rfl) ⟨(Nat.le_of_ble_eq_true rfl), (Nat.le_of_ble_eq_true rfl)⟩ ⟨(Nat.le_of_ble_eq_true rfl), (Nat.le_of_ble_eq_true rfl)⟩ 31 rfl [.int ((μ 1) j)] rfl ?_
      refine g_iconst X dX7_flips_31 32 rfl (v := 1) rfl ?_
      refine g_ic_ne X dX7_flips_32 39 35 rfl rfl (fun c5 => ?_) (fun c5 => ?_)
      · skip
        refine g_iconst X dX7_flips_39 40 rfl (v := 0) rfl ?_
        exact g_zret X hr dX7_flips_40 false rfl () (by simp [bi, nI_clamp (show j < 2 ^ 31 by omega), c1, c3, c4, c5]) (by simp [bi, nI_clamp (show j < 2 ^ 31 by omega), c1, c3, c4, c5]; rfl)
      · skip
        refine g_iconst X dX7_flips_35 36 rfl (v := 1) rfl ?_
        refine g_goto X dX7_flips_36 40 rfl ?_
        exact g_zret X hr dX7_flips_40 true rfl () (by simp [bi, nI_clamp (show j < 2 ^ 31 by omega), c1, c3, c4, c5]) (by simp [bi, nI_clamp (show j < 2 ^ 31 by omega), c1, c3, c4, c5]; rfl)
    · skip
      refine g_iconst X dX7_flips_23 24 rfl (v := 1) rfl ?_
      refine g_goto X dX7_flips_24 28 rfl ?_
      refine c_V X Lk_X7_57 (k_X7_sets E l wr b (put μ 0 (sc 0)) a σ j 1 (by first | omega | assumption)) dX7_flips_28 rfl 0 rfl rfl rfl (Nat.le_of_ble_eq_true rfl) ⟨(Nat.le_of_ble_eq_true rfl), (Nat.le_of_ble_eq_true rfl)⟩ ⟨(Nat.le_of_ble_eq_true rfl), (Nat.le_of_ble_eq_true rfl)⟩ 31 rfl [.int ((μ 1) j)] rfl ?_
      refine g_iconst X dX7_flips_31 32 rfl (v := 1) rfl ?_
      refine g_ic_ne X dX7_flips_32 39 35 rfl rfl (fun c6 => ?_) (fun c6 => ?_)
      · skip
        refine g_iconst X dX7_flips_39 40 rfl (v := 0) rfl ?_
        exact g_zret X hr dX7_flips_40 false rfl () (by simp [bi, nI_clamp (show j < 2 ^ 31 by omega), c1, c3, c4, c6]) (by simp [bi, nI_clamp (show j < 2 ^ 31 by omega), c1, c3, c4, c6]; rfl)
      · skip
        refine g_iconst X dX7_flips_35 36 rfl (v := 1) rfl ?_
        refine g_goto X dX7_flips_36 40 rfl ?_
        exact g_zret X hr dX7_flips_40 true rfl () (by simp [bi, nI_clamp (show j < 2 ^ 31 by omega), c1, c3, c4, c6]) (by simp [bi, nI_clamp (show j < 2 ^ 31 by omega), c1, c3, c4, c6]; rfl)

set_option maxHeartbeats 4000000 in
set_option maxRecDepth 100000 in
theorem k_X7_frees (E : kE) (l : Launch) (wr : va_W) (b : Nat → Nat) (μ : Sto) (a : Nat → Nat) (σ : Sto) (j : Nat) (t : Int32) (hj : j < 100) : KM E l yX7_frees cX7_frees 3 none 0 0 0 0 [.ref (b 0), .int (nI j), .int t] (WW E b μ a σ wr) none (WW E b (put μ 1 (mFr (μ 1) j t)) a σ wr) := by
  refine K_start (own := RX7) (by decide +kernel) rfl [(0, .ref (b 0)), (1, .int (nI j)), (2, .int t)] rfl (Nat.le_of_ble_eq_true rfl) (fun p e s m below meth c X hr hin => ?_)
  refine g_aload_n X dX7_frees_0 1 rfl rfl ?_
  refine g_get X FL_X7_9 dX7_frees_1 4 rfl 0 rfl (v := .ref (b 1)) rfl ?_
  refine g_sipush X dX7_frees_4 7 rfl (v := 231) rfl ?_
  refine g_iload_n X dX7_frees_7 8 rfl rfl ?_
  refine g_iaddN X dX7_frees_8 9 rfl 231 j rfl rfl ?_
  refine g_iconst X dX7_frees_9 10 rfl (v := 0) rfl ?_
  refine g_iastN (j := (231 + j)) (f := (μ 1)) X dX7_frees_10 11 rfl 1 rfl (by omega) (by decide) (WW E b (put μ 1 (upd (μ 1) (231 + j) 0)) a σ wr) rfl ?_
  refine g_aload_n X dX7_frees_11 12 rfl rfl ?_
  refine g_get X FL_X7_9 dX7_frees_12 15 rfl 0 rfl (v := .ref (b 1)) rfl ?_
  refine g_sipush X dX7_frees_15 18 rfl (v := 531) rfl ?_
  refine g_iload_n X dX7_frees_18 19 rfl rfl ?_
  refine g_iaddN X dX7_frees_19 20 rfl 531 j rfl rfl ?_
  refine g_iload_n X dX7_frees_20 21 rfl rfl ?_
  refine g_iastN (j := (531 + j)) (f := (upd (μ 1) (231 + j) 0)) X dX7_frees_21 22 rfl 1 rfl (by omega) (by decide) (WW E b (put μ 1 (upd (upd (μ 1) (231 + j) 0) (531 + j) t)) a σ wr) rfl ?_
  exact g_vret X hr dX7_frees_22 () rfl rfl

set_option maxHeartbeats 4000000 in
set_option maxRecDepth 100000 in
theorem k_X7_declines (E : kE) (l : Launch) (wr : va_W) (b : Nat → Nat) (μ : Sto) (a : Nat → Nat) (σ : Sto) (j : Nat) (hj : j < 100) : KM E l yX7_declines cX7_declines 2 none 0 0 0 0 [.ref (b 0), .int (nI j)] (WW E b μ a σ wr) none (WW E b (put μ 1 (mDe (μ 1) j)) a σ wr) := by
  refine K_start (own := RX7) (by decide +kernel) rfl [(0, .ref (b 0)), (1, .int (nI j))] rfl (Nat.le_of_ble_eq_true rfl) (fun p e s m below meth c X hr hin => ?_)
  refine g_aload_n X dX7_declines_0 1 rfl rfl ?_
  refine g_get X FL_X7_9 dX7_declines_1 4 rfl 0 rfl (v := .ref (b 1)) rfl ?_
  refine g_sipush X dX7_declines_4 7 rfl (v := 231) rfl ?_
  refine g_iload_n X dX7_declines_7 8 rfl rfl ?_
  refine g_iaddN X dX7_declines_8 9 rfl 231 j rfl rfl ?_
  refine g_iconst X dX7_declines_9 10 rfl (v := 3) rfl ?_
  refine g_iastN (j := (231 + j)) (f := (μ 1)) X dX7_declines_10 11 rfl 1 rfl (by omega) (by decide) (WW E b (put μ 1 (upd (μ 1) (231 + j) 3)) a σ wr) rfl ?_
  refine g_aload_n X dX7_declines_11 12 rfl rfl ?_
  refine g_get X FL_X7_9 dX7_declines_12 15 rfl 0 rfl (v := .ref (b 1)) rfl ?_
  refine g_sipush X dX7_declines_15 18 rfl (v := 431) rfl ?_
  refine g_iload_n X dX7_declines_18 19 rfl rfl ?_
  refine g_iaddN X dX7_declines_19 20 rfl 431 j rfl rfl ?_
  refine g_aload_n X dX7_declines_20 21 rfl rfl ?_
  refine g_get X FL_X7_9 dX7_declines_21 24 rfl 0 rfl (v := .ref (b 1)) rfl ?_
  refine g_iconst X dX7_declines_24 25 rfl (v := 0) rfl ?_
  refine g_ialdN (j := 0) (f := (upd (μ 1) (231 + j) 3)) X dX7_declines_25 26 rfl 1 rfl (by omega) (by decide) ?_
  refine g_aload_n X dX7_declines_26 27 rfl rfl ?_
  refine g_get X FL_X7_9 dX7_declines_27 30 rfl 0 rfl (v := .ref (b 1)) rfl ?_
  refine g_iconst X dX7_declines_30 31 rfl (v := 2) rfl ?_
  refine g_ialdN (j := 2) (f := (upd (μ 1) (231 + j) 3)) X dX7_declines_31 32 rfl 1 rfl (by omega) (by decide) ?_
  refine g_iadd X dX7_declines_32 33 rfl ?_
  refine g_iastN (j := (431 + j)) (f := (upd (μ 1) (231 + j) 3)) X dX7_declines_33 34 rfl 1 rfl (by omega) (by decide) (WW E b (put μ 1 (upd (upd (μ 1) (231 + j) 3) (431 + j) (((upd (μ 1) (231 + j) 3) 0) + ((upd (μ 1) (231 + j) 3) 2)))) a σ wr) rfl ?_
  exact g_vret X hr dX7_declines_34 () rfl rfl

set_option maxHeartbeats 4000000 in
set_option maxRecDepth 100000 in
theorem k_X7_isBound (E : kE) (l : Launch) (wr : va_W) (b : Nat → Nat) (μ : Sto) (a : Nat → Nat) (σ : Sto) (j : Nat) (hc : j < 20) : KM E l yX7_isBound cX7_isBound 2 (some .boolean) 0 0 0 0 [.ref (b 0), .int (nI j)] (WW E b μ a σ wr) (some (.int (bi (bdM (μ 1) j)))) (WW E b μ a σ wr) := by
  refine K_start (own := RX7) (by decide +kernel) rfl [(0, .ref (b 0)), (1, .int (nI j))] rfl (Nat.le_of_ble_eq_true rfl) (fun p e s m below meth c X hr hin => ?_)
  refine g_aload_n X dX7_isBound_0 1 rfl rfl ?_
  refine g_get X FL_X7_9 dX7_isBound_1 4 rfl 0 rfl (v := .ref (b 1)) rfl ?_
  refine g_sipush X dX7_isBound_4 7 rfl (v := 631) rfl ?_
  refine g_iload_n X dX7_isBound_7 8 rfl rfl ?_
  refine g_iaddN X dX7_isBound_8 9 rfl 631 j rfl rfl ?_
  refine g_ialdN (j := (631 + j)) (f := (μ 1)) X dX7_isBound_9 10 rfl 1 rfl (by omega) (by decide) ?_
  refine g_iconst X dX7_isBound_10 11 rfl (v := 1) rfl ?_
  refine g_ic_le X dX7_isBound_11 18 14 rfl rfl (fun c1 => ?_) (fun c1 => ?_)
  · skip
    refine g_iconst X dX7_isBound_18 19 rfl (v := 0) rfl ?_
    exact g_zret X hr dX7_isBound_19 false rfl () (by simp [bi, bdM, c1]) rfl
  · skip
    refine g_iconst X dX7_isBound_14 15 rfl (v := 1) rfl ?_
    refine g_goto X dX7_isBound_15 19 rfl ?_
    exact g_zret X hr dX7_isBound_19 true rfl () (by simp [bi, bdM, c1]) rfl

set_option maxHeartbeats 4000000 in
set_option maxRecDepth 100000 in
theorem k_X7_lasts (E : kE) (l : Launch) (wr : va_W) (b : Nat → Nat) (μ : Sto) (a : Nat → Nat) (σ : Sto) (j : Nat) (t : Int32) (v : Nat) (hX : MX (μ 1) v) (hc : j < 20) (ho : ∃ p : Nat, p < v ∧ ow (μ 1) ((μ 1) (651 + j)) = nI p) : KM E l yX7_lasts cX7_lasts 5 none 2 44 0 0 [.ref (b 0), .int (nI j), .int t] (WW E b μ a σ wr) none (WW E b (put μ 1 (mLs (μ 1) j t)) a σ wr) := by
  refine K_start (own := RX7) (by decide +kernel) rfl [(0, .ref (b 0)), (1, .int (nI j)), (2, .int t)] rfl (Nat.le_of_ble_eq_true rfl) (fun p e s m below meth c X hr hin => ?_)
  have hv5 := hX.hv
  obtain ⟨y, hy, h2⟩ := hX.ha j hc
  obtain ⟨q, hq, h3⟩ := ho
  have h4 := h3
  rw [h2] at h4
  refine g_aload_n X dX7_lasts_0 1 rfl rfl ?_
  refine g_get X FL_X7_9 dX7_lasts_1 4 rfl 0 rfl (v := .ref (b 1)) rfl ?_
  refine g_sipush X dX7_lasts_4 7 rfl (v := 651) rfl ?_
  refine g_iload_n X dX7_lasts_7 8 rfl rfl ?_
  refine g_iaddN X dX7_lasts_8 9 rfl 651 j rfl rfl ?_
  refine g_ialdN (j := (651 + j)) (f := (μ 1)) X dX7_lasts_9 10 rfl 1 rfl (by omega) (by decide) ?_
  rw [h2]
  refine g_istore_n X dX7_lasts_10 11 rfl (by decide) [(3, .int (nI y)), (0, .ref (b 0)), (1, .int (nI j)), (2, .int t)] rfl ?_
  refine g_aload_n X dX7_lasts_11 12 rfl rfl ?_
  refine g_get X FL_X7_9 dX7_lasts_12 15 rfl 0 rfl (v := .ref (b 1)) rfl ?_
  refine g_aload_n X dX7_lasts_15 16 rfl rfl ?_
  refine g_aload_n X dX7_lasts_16 17 rfl rfl ?_
  refine g_iload_n X dX7_lasts_17 18 rfl rfl ?_
  refine c_V X Lk_X7_34 (k_X7_owner E l wr b μ a σ (nI y) v hX) dX7_lasts_18 rfl 0 rfl rfl rfl (Nat.le_of_ble_eq_true rfl) ⟨(Nat.le_of_ble_eq_true rfl), (Nat.le_of_ble_eq_true rfl)⟩ ⟨(Nat.le_of_ble_eq_true rfl), (Nat.le_of_ble_eq_true rfl)⟩ 21 rfl [.int (ow (μ 1) (nI y)), .ref (b 0), .ref (b 1)] rfl ?_
  rw [h4]
  refine c_V X Lk_X7_30 (k_X7_pool E l wr b μ a σ q) dX7_lasts_21 rfl 0 rfl rfl rfl (Nat.le_of_ble_eq_true rfl) ⟨(Nat.le_of_ble_eq_true rfl), (Nat.le_of_ble_eq_true rfl)⟩ ⟨(Nat.le_of_ble_eq_true rfl), (Nat.le_of_ble_eq_true rfl)⟩ 24 rfl [.int (nI (5 + 4 * q)), .ref (b 1)] rfl ?_
  refine g_iconst X dX7_lasts_24 25 rfl (v := 3) rfl ?_
  refine g_iaddN X dX7_lasts_25 26 rfl (5 + 4 * q) 3 rfl rfl ?_
  refine g_ialdN (j := (5 + 4 * q + 3)) (f := (μ 1)) X dX7_lasts_26 27 rfl 1 rfl (by omega) (by decide) ?_
  refine g_istore X dX7_lasts_27 29 rfl (by decide) [(4, .int (μ 1 (5 + 4 * q + 3))), (3, .int (nI y)), (0, .ref (b 0)), (1, .int (nI j)), (2, .int t)] rfl ?_
  refine g_aload_n X dX7_lasts_29 30 rfl rfl ?_
  refine g_get X FL_X7_9 dX7_lasts_30 33 rfl 0 rfl (v := .ref (b 1)) rfl ?_
  refine g_sipush X dX7_lasts_33 36 rfl (v := 631) rfl ?_
  refine g_iload_n X dX7_lasts_36 37 rfl rfl ?_
  refine g_iaddN X dX7_lasts_37 38 rfl 631 j rfl rfl ?_
  refine g_iconst X dX7_lasts_38 39 rfl (v := 2) rfl ?_
  refine g_iastN (j := (631 + j)) (f := (μ 1)) X dX7_lasts_39 40 rfl 1 rfl (by omega) (by decide) (WW E b (put μ 1 (upd (μ 1) (631 + j) 2)) a σ wr) rfl ?_
  refine g_aload_n X dX7_lasts_40 41 rfl rfl ?_
  refine g_get X FL_X7_9 dX7_lasts_41 44 rfl 0 rfl (v := .ref (b 1)) rfl ?_
  refine g_sipush X dX7_lasts_44 47 rfl (v := 671) rfl ?_
  refine g_iload_n X dX7_lasts_47 48 rfl rfl ?_
  refine g_iaddN X dX7_lasts_48 49 rfl 671 j rfl rfl ?_
  refine g_iload_n X dX7_lasts_49 50 rfl rfl ?_
  refine g_iload X dX7_lasts_50 52 rfl rfl ?_
  refine g_iconst X dX7_lasts_52 53 rfl (v := 2) rfl ?_
  refine g_idiv X dX7_lasts_53 54 rfl (by decide) ?_
  refine g_iadd X dX7_lasts_54 55 rfl ?_
  refine g_iastN (j := (671 + j)) (f := (upd (μ 1) (631 + j) 2)) X dX7_lasts_55 56 rfl 1 rfl (by omega) (by decide) (WW E b (put μ 1 (upd (upd (μ 1) (631 + j) 2) (671 + j) (t + ((μ 1 (5 + 4 * q + 3)) / 2)))) a σ wr) rfl ?_
  refine g_aload_n X dX7_lasts_56 57 rfl rfl ?_
  refine g_get X FL_X7_9 dX7_lasts_57 60 rfl 0 rfl (v := .ref (b 1)) rfl ?_
  refine g_sipush X dX7_lasts_60 63 rfl (v := 691) rfl ?_
  refine g_iload_n X dX7_lasts_63 64 rfl rfl ?_
  refine g_iaddN X dX7_lasts_64 65 rfl 691 j rfl rfl ?_
  refine g_iload_n X dX7_lasts_65 66 rfl rfl ?_
  refine g_bipush X dX7_lasts_66 68 rfl (v := 7) rfl ?_
  refine g_iload X dX7_lasts_68 70 rfl rfl ?_
  refine g_imul X dX7_lasts_70 71 rfl ?_
  refine g_bipush X dX7_lasts_71 73 rfl (v := 8) rfl ?_
  refine g_idiv X dX7_lasts_73 74 rfl (by decide) ?_
  refine g_iadd X dX7_lasts_74 75 rfl ?_
  refine g_iastN (j := (691 + j)) (f := (upd (upd (μ 1) (631 + j) 2) (671 + j) (t + ((μ 1 (5 + 4 * q + 3)) / 2)))) X dX7_lasts_75 76 rfl 1 rfl (by omega) (by decide) (WW E b (put μ 1 (upd (upd (upd (μ 1) (631 + j) 2) (671 + j) (t + ((μ 1 (5 + 4 * q + 3)) / 2))) (691 + j) (t + ((7 * (μ 1 (5 + 4 * q + 3))) / 8)))) a σ wr) rfl ?_
  refine g_aload_n X dX7_lasts_76 77 rfl rfl ?_
  refine g_get X FL_X7_9 dX7_lasts_77 80 rfl 0 rfl (v := .ref (b 1)) rfl ?_
  refine g_sipush X dX7_lasts_80 83 rfl (v := 431) rfl ?_
  refine g_iload_n X dX7_lasts_83 84 rfl rfl ?_
  refine g_iaddN X dX7_lasts_84 85 rfl 431 y rfl rfl ?_
  refine g_iload_n X dX7_lasts_85 86 rfl rfl ?_
  refine g_iload X dX7_lasts_86 88 rfl rfl ?_
  refine g_iadd X dX7_lasts_88 89 rfl ?_
  refine g_iastN (j := (431 + y)) (f := (upd (upd (upd (μ 1) (631 + j) 2) (671 + j) (t + ((μ 1 (5 + 4 * q + 3)) / 2))) (691 + j) (t + ((7 * (μ 1 (5 + 4 * q + 3))) / 8)))) X dX7_lasts_89 90 rfl 1 rfl (by omega) (by decide) (WW E b (put μ 1 (upd (upd (upd (upd (μ 1) (631 + j) 2) (671 + j) (t + ((μ 1 (5 + 4 * q + 3)) / 2))) (691 + j) (t + ((7 * (μ 1 (5 + 4 * q + 3))) / 8))) (431 + y) (t + (μ 1 (5 + 4 * q + 3))))) a σ wr) rfl ?_
  exact g_vret X hr dX7_lasts_90 () rfl (by simp only [mLs, laD, h3, h2, h4, ixn (show y < 2 ^ 31 by omega), ixn (show q < 2 ^ 31 by omega)])

set_option maxHeartbeats 4000000 in
set_option maxRecDepth 100000 in
theorem k_X7_lacksLease (E : kE) (l : Launch) (wr : va_W) (b : Nat → Nat) (μ : Sto) (a : Nat → Nat) (σ : Sto) (x : Int32) : KM E l yX7_lacksLease cX7_lacksLease 2 (some .int) 2 42 0 0 [.ref (b 0), .int x] (WW E b μ a σ wr) (some (.int (lkL (μ 1) x))) (WW E b μ a σ wr) := by
  refine K_start (own := RX7) (by decide +kernel) rfl [(0, .ref (b 0)), (1, .int x)] rfl (Nat.le_of_ble_eq_true rfl) (fun p e s m below meth c X hr hin => ?_)
  refine g_iload_n X dX7_lacksLease_0 1 rfl rfl ?_
  refine c_S X Lk_X7_65 (k_X7_isClient E l wr b μ a σ x) dX7_lacksLease_1 rfl rfl (Nat.le_of_ble_eq_true rfl) ⟨(Nat.le_of_ble_eq_true rfl), (Nat.le_of_ble_eq_true rfl)⟩ ⟨(Nat.le_of_ble_eq_true rfl), (Nat.le_of_ble_eq_true rfl)⟩ 4 rfl [.int (bi (inR x 0 19))] rfl ?_
  refine g_ifb_ne X dX7_lacksLease_4 11 7 rfl rfl (fun c1 => ?_) (fun c1 => ?_)
  · skip
    obtain ⟨j, hj, rfl⟩ := inR_19 c1
    refine g_aload_n X dX7_lacksLease_11 12 rfl rfl ?_
    refine g_iload_n X dX7_lacksLease_12 13 rfl rfl ?_
    refine c_V X Lk_X7_68 (k_X7_isBound E l wr b μ a σ j (by first | omega | assumption)) dX7_lacksLease_13 rfl 0 rfl rfl rfl (Nat.le_of_ble_eq_true rfl) ⟨(Nat.le_of_ble_eq_true rfl), (Nat.le_of_ble_eq_true rfl)⟩ ⟨(Nat.le_of_ble_eq_true rfl), (Nat.le_of_ble_eq_true rfl)⟩ 16 rfl [.int (bi (bdM (μ 1) j))] rfl ?_
    refine g_ifb_eq X dX7_lacksLease_16 23 19 rfl rfl (fun c2 => ?_) (fun c2 => ?_)
    · skip
      refine g_iconst X dX7_lacksLease_23 24 rfl (v := 2) rfl ?_
      exact g_iret X hr dX7_lacksLease_24 () (by simp [lkL, ix, nI_clamp (show j < 2 ^ 31 by omega), c1, c2]) rfl
    · skip
      refine g_iconst X dX7_lacksLease_19 20 rfl (v := 0) rfl ?_
      refine g_goto X dX7_lacksLease_20 24 rfl ?_
      exact g_iret X hr dX7_lacksLease_24 () (by simp [lkL, ix, nI_clamp (show j < 2 ^ 31 by omega), c1, c2]) rfl
  · skip
    refine g_iconst X dX7_lacksLease_7 8 rfl (v := 1) rfl ?_
    refine g_goto X dX7_lacksLease_8 24 rfl ?_
    exact g_iret X hr dX7_lacksLease_24 () (by simp [lkL, c1]) rfl

set_option maxHeartbeats 4000000 in
set_option maxRecDepth 100000 in
theorem k_X7_stateOf (E : kE) (l : Launch) (wr : va_W) (b : Nat → Nat) (μ : Sto) (a : Nat → Nat) (σ : Sto) (j : Nat) (v : Nat) (hX : MX (μ 1) v) (hj : j < 100) : KM E l yX7_stateOf cX7_stateOf 2 (some .int) 2 44 0 0 [.ref (b 0), .int (nI j)] (WW E b μ a σ wr) (some (.int (sOf (μ 1) j))) (WW E b μ a σ wr) := by
  refine K_start (own := RX7) (by decide +kernel) rfl [(0, .ref (b 0)), (1, .int (nI j))] rfl (Nat.le_of_ble_eq_true rfl) (fun p e s m below meth c X hr hin => ?_)
  refine g_aload_n X dX7_stateOf_0 1 rfl rfl ?_
  refine g_iload_n X dX7_stateOf_1 2 rfl rfl ?_
  refine c_V X Lk_X7_34 (k_X7_owner E l wr b μ a σ (nI j) v hX) dX7_stateOf_2 rfl 0 rfl rfl rfl (Nat.le_of_ble_eq_true rfl) ⟨(Nat.le_of_ble_eq_true rfl), (Nat.le_of_ble_eq_true rfl)⟩ ⟨(Nat.le_of_ble_eq_true rfl), (Nat.le_of_ble_eq_true rfl)⟩ 5 rfl [.int (ow (μ 1) (nI j))] rfl ?_
  refine g_if_ge X dX7_stateOf_5 12 8 rfl rfl (fun c1 => ?_) (fun c1 => ?_)
  · skip
    refine g_aload_n X dX7_stateOf_12 13 rfl rfl ?_
    refine g_get X FL_X7_9 dX7_stateOf_13 16 rfl 0 rfl (v := .ref (b 1)) rfl ?_
    refine g_sipush X dX7_stateOf_16 19 rfl (v := 231) rfl ?_
    refine g_iload_n X dX7_stateOf_19 20 rfl rfl ?_
    refine g_iaddN X dX7_stateOf_20 21 rfl 231 j rfl rfl ?_
    refine g_ialdN (j := (231 + j)) (f := (μ 1)) X dX7_stateOf_21 22 rfl 1 rfl (by omega) (by decide) ?_
    exact g_iret X hr dX7_stateOf_22 () (by simp [sOf, c1]) rfl
  · skip
    refine g_iconst X dX7_stateOf_8 9 rfl (v := 0) rfl ?_
    refine g_goto X dX7_stateOf_9 22 rfl ?_
    exact g_iret X hr dX7_stateOf_22 () (by simp [sOf, c1]) rfl

set_option maxHeartbeats 4000000 in
set_option maxRecDepth 100000 in
theorem k_X7_due (E : kE) (l : Launch) (wr : va_W) (b : Nat → Nat) (μ : Sto) (a : Nat → Nat) (σ : Sto) (j : Nat) (v : Nat) (hX : MX (μ 1) v) (hj : j < 100) : KM E l yX7_due cX7_due 4 (some .int) 3 65 0 0 [.ref (b 0), .int (nI j)] (WW E b μ a σ wr) (some (.int (due (μ 1) j))) (WW E b μ a σ wr) := by
  refine K_start (own := RX7) (by decide +kernel) rfl [(0, .ref (b 0)), (1, .int (nI j))] rfl (Nat.le_of_ble_eq_true rfl) (fun p e s m below meth c X hr hin => ?_)
  refine g_aload_n X dX7_due_0 1 rfl rfl ?_
  refine g_iload_n X dX7_due_1 2 rfl rfl ?_
  refine c_V X Lk_X7_95 (k_X7_stateOf E l wr b μ a σ j v hX (by first | omega | assumption)) dX7_due_2 rfl 0 rfl rfl rfl (Nat.le_of_ble_eq_true rfl) ⟨(Nat.le_of_ble_eq_true rfl), (Nat.le_of_ble_eq_true rfl)⟩ ⟨(Nat.le_of_ble_eq_true rfl), (Nat.le_of_ble_eq_true rfl)⟩ 5 rfl [.int (sOf (μ 1) j)] rfl ?_
  refine g_istore_n X dX7_due_5 6 rfl (by decide) [(2, .int (sOf (μ 1) j)), (0, .ref (b 0)), (1, .int (nI j))] rfl ?_
  refine g_iload_n X dX7_due_6 7 rfl rfl ?_
  refine g_if_ne X dX7_due_7 12 10 rfl rfl (fun c1 => ?_) (fun c1 => ?_)
  · skip
    refine g_iload_n X dX7_due_12 13 rfl rfl ?_
    refine g_iconst X dX7_due_13 14 rfl (v := 2) rfl ?_
    refine g_ic_eq X dX7_due_14 28 17 rfl rfl (fun c2 => ?_) (fun c2 => ?_)
    · skip
      refine g_aload_n X dX7_due_28 29 rfl rfl ?_
      refine g_get X FL_X7_9 dX7_due_29 32 rfl 0 rfl (v := .ref (b 1)) rfl ?_
      refine g_sipush X dX7_due_32 35 rfl (v := 331) rfl ?_
      refine g_iload_n X dX7_due_35 36 rfl rfl ?_
      refine g_iaddN X dX7_due_36 37 rfl 331 j rfl rfl ?_
      refine g_ialdN (j := (331 + j)) (f := (μ 1)) X dX7_due_37 38 rfl 1 rfl (by omega) (by decide) ?_
      obtain ⟨q, hq, h2⟩ := hX.hh j hj
      rw [h2]
      refine g_istore_n X dX7_due_38 39 rfl (by decide) [(3, .int (nI q)), (2, .int (sOf (μ 1) j)), (0, .ref (b 0)), (1, .int (nI j))] rfl ?_
      refine g_aload_n X dX7_due_39 40 rfl rfl ?_
      refine g_get X FL_X7_9 dX7_due_40 43 rfl 0 rfl (v := .ref (b 1)) rfl ?_
      refine g_sipush X dX7_due_43 46 rfl (v := 631) rfl ?_
      refine g_iload_n X dX7_due_46 47 rfl rfl ?_
      refine g_iaddN X dX7_due_47 48 rfl 631 q rfl rfl ?_
      refine g_ialdN (j := (631 + q)) (f := (μ 1)) X dX7_due_48 49 rfl 1 rfl (by omega) (by decide) ?_
      refine g_iconst X dX7_due_49 50 rfl (v := 2) rfl ?_
      refine g_ic_ne X dX7_due_50 66 53 rfl rfl (fun c3 => ?_) (fun c3 => ?_)
      · skip
        refine g_aload_n X dX7_due_66 67 rfl rfl ?_
        refine g_get X FL_X7_9 dX7_due_67 70 rfl 0 rfl (v := .ref (b 1)) rfl ?_
        refine g_sipush X dX7_due_70 73 rfl (v := 631) rfl ?_
        refine g_iload_n X dX7_due_73 74 rfl rfl ?_
        refine g_iaddN X dX7_due_74 75 rfl 631 q rfl rfl ?_
        refine g_ialdN (j := (631 + q)) (f := (μ 1)) X dX7_due_75 76 rfl 1 rfl (by omega) (by decide) ?_
        refine g_iconst X dX7_due_76 77 rfl (v := 3) rfl ?_
        refine g_ic_ne X dX7_due_77 93 80 rfl rfl (fun c4 => ?_) (fun c4 => ?_)
        · skip
          refine g_aload_n X dX7_due_93 94 rfl rfl ?_
          refine g_get X FL_X7_9 dX7_due_94 97 rfl 0 rfl (v := .ref (b 1)) rfl ?_
          refine g_sipush X dX7_due_97 100 rfl (v := 431) rfl ?_
          refine g_iload_n X dX7_due_100 101 rfl rfl ?_
          refine g_iaddN X dX7_due_101 102 rfl 431 j rfl rfl ?_
          refine g_ialdN (j := (431 + j)) (f := (μ 1)) X dX7_due_102 103 rfl 1 rfl (by omega) (by decide) ?_
          exact g_iret X hr dX7_due_103 () (by simp [due, h2, nI_clamp (show q < 2 ^ 31 by omega), c1, c2, c3, c4]) rfl
        · skip
          refine g_aload_n X dX7_due_80 81 rfl rfl ?_
          refine g_get X FL_X7_9 dX7_due_81 84 rfl 0 rfl (v := .ref (b 1)) rfl ?_
          refine g_sipush X dX7_due_84 87 rfl (v := 691) rfl ?_
          refine g_iload_n X dX7_due_87 88 rfl rfl ?_
          refine g_iaddN X dX7_due_88 89 rfl 691 q rfl rfl ?_
          refine g_ialdN (j := (691 + q)) (f := (μ 1)) X dX7_due_89 90 rfl 1 rfl (by omega) (by decide) ?_
          refine g_goto X dX7_due_90 103 rfl ?_
          exact g_iret X hr dX7_due_103 () (by simp [due, h2, nI_clamp (show q < 2 ^ 31 by omega), c1, c2, c3, c4]) rfl
      · skip
        refine g_aload_n X dX7_due_53 54 rfl rfl ?_
        refine g_get X FL_X7_9 dX7_due_54 57 rfl 0 rfl (v := .ref (b 1)) rfl ?_
        refine g_sipush X dX7_due_57 60 rfl (v := 671) rfl ?_
        refine g_iload_n X dX7_due_60 61 rfl rfl ?_
        refine g_iaddN X dX7_due_61 62 rfl 671 q rfl rfl ?_
        refine g_ialdN (j := (671 + q)) (f := (μ 1)) X dX7_due_62 63 rfl 1 rfl (by omega) (by decide) ?_
        refine g_goto X dX7_due_63 103 rfl ?_
        exact g_iret X hr dX7_due_103 () (by simp [due, h2, nI_clamp (show q < 2 ^ 31 by omega), c1, c2, c3]) rfl
    · skip
      refine g_aload_n X dX7_due_17 18 rfl rfl ?_
      refine g_get X FL_X7_9 dX7_due_18 21 rfl 0 rfl (v := .ref (b 1)) rfl ?_
      refine g_sipush X dX7_due_21 24 rfl (v := 431) rfl ?_
      refine g_iload_n X dX7_due_24 25 rfl rfl ?_
      refine g_iaddN X dX7_due_25 26 rfl 431 j rfl rfl ?_
      refine g_ialdN (j := (431 + j)) (f := (μ 1)) X dX7_due_26 27 rfl 1 rfl (by omega) (by decide) ?_
      exact g_iret X hr dX7_due_27 () (by simp [due, c1, c2]) rfl
  · skip
    refine g_iconst X dX7_due_10 11 rfl (v := -1) rfl ?_
    exact g_iret X hr dX7_due_11 () (by simp [due, c1]) rfl

set_option maxHeartbeats 4000000 in
set_option maxRecDepth 100000 in
theorem k_X7_kind (E : kE) (l : Launch) (wr : va_W) (b : Nat → Nat) (μ : Sto) (a : Nat → Nat) (σ : Sto) (j : Nat) (v : Nat) (hX : MX (μ 1) v) (hj : j < 100) : KM E l yX7_kind cX7_kind 3 (some .int) 3 65 0 0 [.ref (b 0), .int (nI j)] (WW E b μ a σ wr) (some (.int (knd (μ 1) j))) (WW E b μ a σ wr) := by
  refine K_start (own := RX7) (by decide +kernel) rfl [(0, .ref (b 0)), (1, .int (nI j))] rfl (Nat.le_of_ble_eq_true rfl) (fun p e s m below meth c X hr hin => ?_)
  refine g_aload_n X dX7_kind_0 1 rfl rfl ?_
  refine g_iload_n X dX7_kind_1 2 rfl rfl ?_
  refine c_V X Lk_X7_95 (k_X7_stateOf E l wr b μ a σ j v hX (by first | omega | assumption)) dX7_kind_2 rfl 0 rfl rfl rfl (Nat.le_of_ble_eq_true rfl) ⟨(Nat.le_of_ble_eq_true rfl), (Nat.le_of_ble_eq_true rfl)⟩ ⟨(Nat.le_of_ble_eq_true rfl), (Nat.le_of_ble_eq_true rfl)⟩ 5 rfl [.int (sOf (μ 1) j)] rfl ?_
  refine g_istore_n X dX7_kind_5 6 rfl (by decide) [(2, .int (sOf (μ 1) j)), (0, .ref (b 0)), (1, .int (nI j))] rfl ?_
  refine g_iload_n X dX7_kind_6 7 rfl rfl ?_
  refine g_iconst X dX7_kind_7 8 rfl (v := 1) rfl ?_
  refine g_ic_ne X dX7_kind_8 15 11 rfl rfl (fun c1 => ?_) (fun c1 => ?_)
  · skip
    refine g_iload_n X dX7_kind_15 16 rfl rfl ?_
    refine g_iconst X dX7_kind_16 17 rfl (v := 3) rfl ?_
    refine g_ic_ne X dX7_kind_17 24 20 rfl rfl (fun c2 => ?_) (fun c2 => ?_)
    · skip
      refine g_aload_n X dX7_kind_24 25 rfl rfl ?_
      refine g_get X FL_X7_9 dX7_kind_25 28 rfl 0 rfl (v := .ref (b 1)) rfl ?_
      refine g_sipush X dX7_kind_28 31 rfl (v := 631) rfl ?_
      refine g_aload_n X dX7_kind_31 32 rfl rfl ?_
      refine g_get X FL_X7_9 dX7_kind_32 35 rfl 0 rfl (v := .ref (b 1)) rfl ?_
      refine g_sipush X dX7_kind_35 38 rfl (v := 331) rfl ?_
      refine g_iload_n X dX7_kind_38 39 rfl rfl ?_
      refine g_iaddN X dX7_kind_39 40 rfl 331 j rfl rfl ?_
      refine g_ialdN (j := (331 + j)) (f := (μ 1)) X dX7_kind_40 41 rfl 1 rfl (by omega) (by decide) ?_
      obtain ⟨q, hq, h2⟩ := hX.hh j hj
      rw [h2]
      refine g_iaddN X dX7_kind_41 42 rfl 631 q rfl rfl ?_
      refine g_ialdN (j := (631 + q)) (f := (μ 1)) X dX7_kind_42 43 rfl 1 rfl (by omega) (by decide) ?_
      exact g_iret X hr dX7_kind_43 () (by simp [knd, h2, nI_clamp (show q < 2 ^ 31 by omega), c1, c2]) rfl
    · skip
      refine g_iconst X dX7_kind_20 21 rfl (v := 1) rfl ?_
      refine g_goto X dX7_kind_21 43 rfl ?_
      exact g_iret X hr dX7_kind_43 () (by simp [knd, c1, c2]) rfl
  · skip
    refine g_iconst X dX7_kind_11 12 rfl (v := 0) rfl ?_
    refine g_goto X dX7_kind_12 43 rfl ?_
    exact g_iret X hr dX7_kind_43 () (by simp [knd, c1]) rfl

set_option maxHeartbeats 4000000 in
set_option maxRecDepth 100000 in
theorem k_X7_lacks (E : kE) (l : Launch) (wr : va_W) (b : Nat → Nat) (μ : Sto) (a : Nat → Nat) (σ : Sto) (x : Int32) (v : Nat) (hX : MX (μ 1) v) : KM E l yX7_lacks cX7_lacks 2 (some .int) 2 44 0 0 [.ref (b 0), .int x] (WW E b μ a σ wr) (some (.int (lkA (μ 1) x))) (WW E b μ a σ wr) := by
  refine K_start (own := RX7) (by decide +kernel) rfl [(0, .ref (b 0)), (1, .int x)] rfl (Nat.le_of_ble_eq_true rfl) (fun p e s m below meth c X hr hin => ?_)
  refine g_iload_n X dX7_lacks_0 1 rfl rfl ?_
  refine c_S X Lk_X7_44 (k_X7_isAddress E l wr b μ a σ x) dX7_lacks_1 rfl rfl (Nat.le_of_ble_eq_true rfl) ⟨(Nat.le_of_ble_eq_true rfl), (Nat.le_of_ble_eq_true rfl)⟩ ⟨(Nat.le_of_ble_eq_true rfl), (Nat.le_of_ble_eq_true rfl)⟩ 4 rfl [.int (bi (inR x 0 99))] rfl ?_
  refine g_ifb_ne X dX7_lacks_4 11 7 rfl rfl (fun c1 => ?_) (fun c1 => ?_)
  · skip
    refine g_aload_n X dX7_lacks_11 12 rfl rfl ?_
    refine g_iload_n X dX7_lacks_12 13 rfl rfl ?_
    refine c_V X Lk_X7_34 (k_X7_owner E l wr b μ a σ x v hX) dX7_lacks_13 rfl 0 rfl rfl rfl (Nat.le_of_ble_eq_true rfl) ⟨(Nat.le_of_ble_eq_true rfl), (Nat.le_of_ble_eq_true rfl)⟩ ⟨(Nat.le_of_ble_eq_true rfl), (Nat.le_of_ble_eq_true rfl)⟩ 16 rfl [.int (ow (μ 1) x)] rfl ?_
    refine g_if_ge X dX7_lacks_16 23 19 rfl rfl (fun c2 => ?_) (fun c2 => ?_)
    · skip
      refine g_iconst X dX7_lacks_23 24 rfl (v := 0) rfl ?_
      exact g_iret X hr dX7_lacks_24 () (by simp [lkA, c1, c2]) rfl
    · skip
      refine g_iconst X dX7_lacks_19 20 rfl (v := 2) rfl ?_
      refine g_goto X dX7_lacks_20 24 rfl ?_
      exact g_iret X hr dX7_lacks_24 () (by simp [lkA, c1, c2]) rfl
  · skip
    refine g_iconst X dX7_lacks_7 8 rfl (v := 1) rfl ?_
    refine g_goto X dX7_lacks_8 24 rfl ?_
    exact g_iret X hr dX7_lacks_24 () (by simp [lkA, c1]) rfl

set_option maxHeartbeats 4000000 in
set_option maxRecDepth 100000 in
theorem k_X7_count (E : kE) (l : Launch) (wr : va_W) (b : Nat → Nat) (μ : Sto) (a : Nat → Nat) (σ : Sto) (g : Int32) (y : Int32) (v : Nat) (hX : MX (μ 1) v) : KM E l yX7_count cX7_count 5 (some .int) 3 66 0 0 [.ref (b 0), .int g, .int y] (WW E b μ a σ wr) (some (.int (cuM (μ 1) g y))) (WW E b μ a σ wr) := by
  refine K_start (own := RX7) (by decide +kernel) rfl [(0, .ref (b 0)), (1, .int g), (2, .int y)] rfl (Nat.le_of_ble_eq_true rfl) (fun p e s m below meth c X hr hin => ?_)
  refine g_iconst X dX7_count_0 1 rfl (v := 0) rfl ?_
  refine g_istore_n X dX7_count_1 2 rfl (by decide) [(3, .int 0), (0, .ref (b 0)), (1, .int g), (2, .int y)] rfl ?_
  refine g_iconst X dX7_count_2 3 rfl (v := 0) rfl ?_
  refine g_istore X dX7_count_3 5 rfl (by decide) [(4, .int 0), (3, .int 0), (0, .ref (b 0)), (1, .int g), (2, .int y)] rfl ?_
  have Lp : ∀ (r i : Nat) (z : Int32), (i + r = 100) → (cuL (μ 1) g y i r z = cuM (μ 1) g y) →  G E (va_A (WW E b μ a σ wr) s.heap.size) 5 p l e ({ frames := 3, cells := 0, slots := 0, locals := 66 } : Room) s m (([.ref (b 0), .int g, .int y] : List Value).toArray) below meth c (MQ below (KQ E (WW E b μ a σ wr) s.heap.size (fun _ : Unit => (some (.int (cuM (μ 1) g y)))) (fun _ => WW E b μ a σ wr)) (([.ref (b 0), .int g, .int y] : List Value).toArray) s 0 0 (va_A (WW E b μ a σ wr) s.heap.size)) 0 0 (WW E b μ a σ wr) 5 [(4, .int (nI i)), (3, .int z), (0, .ref (b 0)), (1, .int g), (2, .int y)] [] := by
    intro r
    induction r with
    | zero =>
      intro i z hi hv
      obtain rfl : i = 100 := by omega
      refine g_iload X dX7_count_5 7 rfl rfl ?_
      refine g_bipush X dX7_count_7 9 rfl (v := 100) rfl ?_
      refine g_ic_ge X dX7_count_9 50 12 rfl rfl (fun c1 => ?_) (fun c1 => absurd (by decide) c1)
      refine g_iload_n X dX7_count_50 51 rfl rfl ?_
      exact g_iret X hr dX7_count_51 () (by rw [← hv]; rfl) rfl
    | succ r ih =>
      intro i z hi hv
      refine g_iload X dX7_count_5 7 rfl rfl ?_
      refine g_bipush X dX7_count_7 9 rfl (v := 100) rfl ?_
      refine g_ic_ge X dX7_count_9 50 12 rfl rfl (fun c2 => absurd c2 (nI_ge (b := 100) (by omega) (by decide))) (fun c2 => ?_)
      refine g_aload_n X dX7_count_12 13 rfl rfl ?_
      refine g_iload X dX7_count_13 15 rfl rfl ?_
      refine c_V X Lk_X7_50 (k_X7_groupOf E l wr b μ a σ (nI i) v hX) dX7_count_15 rfl 0 rfl rfl rfl (Nat.le_of_ble_eq_true rfl) ⟨(Nat.le_of_ble_eq_true rfl), (Nat.le_of_ble_eq_true rfl)⟩ ⟨(Nat.le_of_ble_eq_true rfl), (Nat.le_of_ble_eq_true rfl)⟩ 18 rfl [.int (gr (μ 1) (nI i))] rfl ?_
      refine g_iload_n X dX7_count_18 19 rfl rfl ?_
      refine g_ic_ne X dX7_count_19 44 22 rfl rfl (fun c3 => ?_) (fun c3 => ?_)
      · skip
        refine g_iinc X dX7_count_44 47 rfl (by decide) 0 rfl (nI_1 _) [(4, .int (nI (i + 1))), (3, .int z), (0, .ref (b 0)), (1, .int g), (2, .int y)] rfl ?_
        refine g_goto X dX7_count_47 5 rfl ?_
        exact ih (i + 1) z (by omega) (by rw [← hv]; simp [cuL, c3])
      · skip
        refine g_iload_n X dX7_count_22 23 rfl rfl ?_
        refine g_if_lt X dX7_count_23 41 26 rfl rfl (fun c4 => ?_) (fun c4 => ?_)
        · skip
          refine g_iinc X dX7_count_41 44 rfl (by decide) 1 rfl rfl [(3, .int (z + 1)), (4, .int (nI i)), (0, .ref (b 0)), (1, .int g), (2, .int y)] rfl ?_
          refine g_iinc X dX7_count_44 47 rfl (by decide) 1 rfl (nI_1 _) [(4, .int (nI (i + 1))), (3, .int (z + 1)), (0, .ref (b 0)), (1, .int g), (2, .int y)] rfl ?_
          refine g_goto X dX7_count_47 5 rfl ?_
          exact ih (i + 1) (z + 1) (by omega) (by rw [← hv]; simp [cuL, c3, c4])
        · skip
          refine g_aload_n X dX7_count_26 27 rfl rfl ?_
          refine g_get X FL_X7_9 dX7_count_27 30 rfl 0 rfl (v := .ref (b 1)) rfl ?_
          refine g_sipush X dX7_count_30 33 rfl (v := 231) rfl ?_
          refine g_iload X dX7_count_33 35 rfl rfl ?_
          refine g_iaddN X dX7_count_35 36 rfl 231 i rfl rfl ?_
          refine g_ialdN (j := (231 + i)) (f := (μ 1)) X dX7_count_36 37 rfl 1 rfl (by omega) (by decide) ?_
          refine g_iload_n X dX7_count_37 38 rfl rfl ?_
          refine g_ic_ne X dX7_count_38 44 41 rfl rfl (fun c5 => ?_) (fun c5 => ?_)
          · skip
            refine g_iinc X dX7_count_44 47 rfl (by decide) 0 rfl (nI_1 _) [(4, .int (nI (i + 1))), (3, .int z), (0, .ref (b 0)), (1, .int g), (2, .int y)] rfl ?_
            refine g_goto X dX7_count_47 5 rfl ?_
            exact ih (i + 1) z (by omega) (by rw [← hv]; simp [cuL, c3, c4, c5])
          · skip
            refine g_iinc X dX7_count_41 44 rfl (by decide) 1 rfl rfl [(3, .int (z + 1)), (4, .int (nI i)), (0, .ref (b 0)), (1, .int g), (2, .int y)] rfl ?_
            refine g_iinc X dX7_count_44 47 rfl (by decide) 1 rfl (nI_1 _) [(4, .int (nI (i + 1))), (3, .int (z + 1)), (0, .ref (b 0)), (1, .int g), (2, .int y)] rfl ?_
            refine g_goto X dX7_count_47 5 rfl ?_
            exact ih (i + 1) (z + 1) (by omega) (by rw [← hv]; simp [cuL, c3, c4, c5])
  exact Lp 100 0 0 rfl rfl

set_option maxHeartbeats 4000000 in
set_option maxRecDepth 100000 in
theorem k_X7_boundOnes (E : kE) (l : Launch) (wr : va_W) (b : Nat → Nat) (μ : Sto) (a : Nat → Nat) (σ : Sto) : KM E l yX7_boundOnes cX7_boundOnes 3 (some .int) 1 21 0 0 [.ref (b 0)] (WW E b μ a σ wr) (some (.int (boM (μ 1)))) (WW E b μ a σ wr) := by
  refine K_start (own := RX7) (by decide +kernel) rfl [(0, .ref (b 0))] rfl (Nat.le_of_ble_eq_true rfl) (fun p e s m below meth c X hr hin => ?_)
  refine g_iconst X dX7_boundOnes_0 1 rfl (v := 0) rfl ?_
  refine g_istore_n X dX7_boundOnes_1 2 rfl (by decide) [(1, .int 0), (0, .ref (b 0))] rfl ?_
  refine g_iconst X dX7_boundOnes_2 3 rfl (v := 0) rfl ?_
  refine g_istore_n X dX7_boundOnes_3 4 rfl (by decide) [(2, .int 0), (1, .int 0), (0, .ref (b 0))] rfl ?_
  have Lp : ∀ (r i : Nat) (z : Int32), (i + r = 20) → (boL (μ 1) i r z = boM (μ 1)) →  G E (va_A (WW E b μ a σ wr) s.heap.size) 3 p l e ({ frames := 1, cells := 0, slots := 0, locals := 21 } : Room) s m (([.ref (b 0)] : List Value).toArray) below meth c (MQ below (KQ E (WW E b μ a σ wr) s.heap.size (fun _ : Unit => (some (.int (boM (μ 1))))) (fun _ => WW E b μ a σ wr)) (([.ref (b 0)] : List Value).toArray) s 0 0 (va_A (WW E b μ a σ wr) s.heap.size)) 0 0 (WW E b μ a σ wr) 4 [(2, .int (nI i)), (1, .int z), (0, .ref (b 0))] [] := by
    intro r
    induction r with
    | zero =>
      intro i z hi hv
      obtain rfl : i = 20 := by omega
      refine g_iload_n X dX7_boundOnes_4 5 rfl rfl ?_
      refine g_bipush X dX7_boundOnes_5 7 rfl (v := 20) rfl ?_
      refine g_ic_ge X dX7_boundOnes_7 27 10 rfl rfl (fun c1 => ?_) (fun c1 => absurd (by decide) c1)
      refine g_iload_n X dX7_boundOnes_27 28 rfl rfl ?_
      exact g_iret X hr dX7_boundOnes_28 () (by rw [← hv]; rfl) rfl
    | succ r ih =>
      intro i z hi hv
      refine g_iload_n X dX7_boundOnes_4 5 rfl rfl ?_
      refine g_bipush X dX7_boundOnes_5 7 rfl (v := 20) rfl ?_
      refine g_ic_ge X dX7_boundOnes_7 27 10 rfl rfl (fun c2 => absurd c2 (nI_ge (b := 20) (by omega) (by decide))) (fun c2 => ?_)
      refine g_aload_n X dX7_boundOnes_10 11 rfl rfl ?_
      refine g_iload_n X dX7_boundOnes_11 12 rfl rfl ?_
      refine c_V X Lk_X7_68 (k_X7_isBound E l wr b μ a σ i (by first | omega | assumption)) dX7_boundOnes_12 rfl 0 rfl rfl rfl (Nat.le_of_ble_eq_true rfl) ⟨(Nat.le_of_ble_eq_true rfl), (Nat.le_of_ble_eq_true rfl)⟩ ⟨(Nat.le_of_ble_eq_true rfl), (Nat.le_of_ble_eq_true rfl)⟩ 15 rfl [.int (bi (bdM (μ 1) i))] rfl ?_
      refine g_ifb_eq X dX7_boundOnes_15 21 18 rfl rfl (fun c3 => ?_) (fun c3 => ?_)
      · skip
        refine g_iinc X dX7_boundOnes_21 24 rfl (by decide) 0 rfl (nI_1 _) [(2, .int (nI (i + 1))), (1, .int z), (0, .ref (b 0))] rfl ?_
        refine g_goto X dX7_boundOnes_24 4 rfl ?_
        exact ih (i + 1) z (by omega) (by rw [← hv]; simp [boL, c3])
      · skip
        refine g_iinc X dX7_boundOnes_18 21 rfl (by decide) 1 rfl rfl [(1, .int (z + 1)), (2, .int (nI i)), (0, .ref (b 0))] rfl ?_
        refine g_iinc X dX7_boundOnes_21 24 rfl (by decide) 1 rfl (nI_1 _) [(2, .int (nI (i + 1))), (1, .int (z + 1)), (0, .ref (b 0))] rfl ?_
        refine g_goto X dX7_boundOnes_24 4 rfl ?_
        exact ih (i + 1) (z + 1) (by omega) (by rw [← hv]; simp [boL, c3])
  exact Lp 20 0 0 rfl rfl
