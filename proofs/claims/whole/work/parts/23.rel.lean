/-! THE RELATION of the class' rows and the reference's cells: pure part -/
theorem nI_inj {a b : Nat} (ha : a < 2 ^ 31) (hb : b < 2 ^ 31) (h : nI a = nI b) : a = b := (nI_eq ha hb).mp h
theorem nI_ne {a b : Nat} (ha : a < 2 ^ 31) (hb : b < 2 ^ 31) (h : a ≠ b) : ¬ nI a = nI b := fun q => h (nI_inj ha hb q)
theorem nI_m1 {a : Nat} (ha : a < 2 ^ 31) : ¬ nI a = -1 := fun q => by
  have h := congrArg Int32.toInt q
  rw [nI_toInt ha, show (-1 : Int32).toInt = -1 from by decide] at h
  omega
theorem upd_id {f : Nat → Int32} {i : Nat} {x : Int32} (h : f i = x) : upd f i x = f := by
  funext j
  by_cases e : j = i
  · subst e; rw [pk_us, h]
  · rw [pk_un e]
theorem upd_comm {f : Nat → Int32} {i j : Nat} {x y : Int32} (h : i ≠ j) : upd (upd f i x) j y = upd (upd f j y) i x := by
  funext k
  by_cases e : k = j
  · subst e; rw [pk_us, pk_un (Ne.symm h), pk_us]
  · rw [pk_un e]
    by_cases e2 : k = i
    · subst e2; rw [pk_us, pk_us]
    · rw [pk_un e2, pk_un e2, pk_un e]
def inB (a b c : Nat) : Bool := decide (b ≤ a) && decide (a ≤ c)
theorem inB_iff {a b c : Nat} : inB a b c = true ↔ b ≤ a ∧ a ≤ c := by
  unfold inB
  rw [Bool.and_eq_true, decide_eq_true_iff, decide_eq_true_iff]
theorem inR_n {a b c : Nat} (ha : a < 2 ^ 31) (hb : b < 2 ^ 31) (hc : c < 2 ^ 31) : inR (nI a) (nI b) (nI c) = inB a b c := by
  unfold inR inB
  rw [← decide_not, ← decide_not, decide_eq_decide.mpr (Iff.trans (not_congr (nI_ltI ha hb)) Nat.not_lt), decide_eq_decide.mpr (Iff.trans (not_congr (nI_ltI hc ha)) Nat.not_lt)]
theorem inR_c {x : Int32} {n : Nat} (hn : n < 2 ^ 31 - 1) : inR x 0 (nI n) = (!decide (x < 0) && !decide (nI n < x)) := rfl
theorem inA_R (x : Int32) : inA x = inR x 0 99 := by
  unfold inA inR
  rcases pk_ix x (n := 100) (by decide) with h | h | ⟨j, hj, rfl⟩
  · rw [decide_eq_true h]; rfl
  · rw [decide_eq_true (show (100 : Int32) ≤ x from h), decide_eq_true (show (99 : Int32) < x from ?_)]
    · have h1 := Int32.le_iff_toInt_le.mp h
      rw [Int32.lt_iff_toInt_lt]
      rw [nI_toInt (by decide)] at h1
      rw [show (99 : Int32).toInt = 99 from by decide]
      omega
  · rw [decide_eq_false (show ¬ (100 : Int32) ≤ nI j from nI_ge (b := 100) hj (by decide)), decide_eq_false (show ¬ (99 : Int32) < nI j from nI_nlt (a := 99) (by omega) (by decide))]
theorem inC_R (x : Int32) : inC x = inR x 0 19 := by
  unfold inC inR
  rcases pk_ix x (n := 20) (by decide) with h | h | ⟨j, hj, rfl⟩
  · rw [decide_eq_true h]; rfl
  · rw [decide_eq_true (show (20 : Int32) ≤ x from h), decide_eq_true (show (19 : Int32) < x from ?_)]
    · have h1 := Int32.le_iff_toInt_le.mp h
      rw [Int32.lt_iff_toInt_lt]
      rw [nI_toInt (by decide)] at h1
      rw [show (19 : Int32).toInt = 19 from by decide]
      omega
  · rw [decide_eq_false (show ¬ (20 : Int32) ≤ nI j from nI_ge (b := 20) hj (by decide)), decide_eq_false (show ¬ (19 : Int32) < nI j from nI_nlt (a := 19) (by omega) (by decide))]
theorem inG_R (x : Int32) : inG x = inR x 0 2 := by
  unfold inG inR
  rcases pk_ix x (n := 3) (by decide) with h | h | ⟨j, hj, rfl⟩
  · rw [decide_eq_true h]; rfl
  · rw [decide_eq_true (show (3 : Int32) ≤ x from h), decide_eq_true (show (2 : Int32) < x from ?_)]
    · have h1 := Int32.le_iff_toInt_le.mp h
      rw [Int32.lt_iff_toInt_lt]
      rw [nI_toInt (by decide)] at h1
      rw [show (2 : Int32).toInt = 2 from by decide]
      omega
  · rw [decide_eq_false (show ¬ (3 : Int32) ≤ nI j from nI_ge (b := 3) hj (by decide)), decide_eq_false (show ¬ (2 : Int32) < nI j from nI_nlt (a := 2) (by omega) (by decide))]
-- pools
def pg (N : Nat → Int32) (p : Nat) : Nat := ix (N (5 + 4 * p))
def pf (N : Nat → Int32) (p : Nat) : Nat := ix (N (5 + 4 * p + 1))
def pt (N : Nat → Int32) (p : Nat) : Nat := ix (N (5 + 4 * p + 2))
def pl (N : Nat → Int32) (p : Nat) : Nat := ix (N (5 + 4 * p + 3))
def PO1 (N : Nat → Int32) (p : Nat) : Prop := N (5 + 4 * p) = nI (pg N p) ∧ pg N p < 3 ∧ N (5 + 4 * p + 1) = nI (pf N p) ∧ N (5 + 4 * p + 2) = nI (pt N p) ∧ pf N p ≤ pt N p ∧ pt N p < 100 ∧ N (5 + 4 * p + 3) = nI (pl N p) ∧ 8 ≤ pl N p ∧ pl N p ≤ 800
def PO (N : Nat → Int32) (v : Nat) : Prop := v ≤ 5 ∧ N 4 = nI v ∧ (∀ p, p < v → PO1 N p) ∧ ∀ p q, p < q → q < v → pt N p < pf N q ∨ pt N q < pf N p
def inQ (N : Nat → Int32) (p j : Nat) : Bool := inB j (pf N p) (pt N p)
theorem PO.lt {N : Nat → Int32} {v i : Nat} (h : PO N v) (hi : i < 5) (h2 : ¬ N 4 ≤ nI i) : i < v := by
  rcases Nat.lt_or_ge i v with q | q
  · exact q
  · exact absurd (by rw [h.2.1]; exact nI_le q (by omega)) h2
theorem PO.nle {N : Nat → Int32} {v i : Nat} (h : PO N v) (hi : i < v) : ¬ N 4 ≤ nI i := by
  have := h.1
  rw [h.2.1]
  exact nI_ge hi (by omega)
theorem PO.inR {N : Nat → Int32} {v p j : Nat} (h : PO N v) (hp : p < v) (hj : j < 2 ^ 31) : inR (nI j) (N (5 + 4 * p + 1)) (N (5 + 4 * p + 2)) = inQ N p j := by
  obtain ⟨-, -, h1, h2, h3, h4, -⟩ := h.2.2.1 p hp
  rw [h1, h2]
  exact inR_n hj (by omega) (by omega)
theorem PO.one {N : Nat → Int32} {v p q j : Nat} (h : PO N v) (hp : p < v) (hq : q < v) (h1 : inQ N p j = true) (h2 : inQ N q j = true) : p = q := by
  have h1 := inB_iff.mp h1
  have h2 := inB_iff.mp h2
  rcases Nat.lt_trichotomy p q with e | e | e
  · have := h.2.2.2 p q e hq; omega
  · exact e
  · have := h.2.2.2 q p e hp; omega
theorem owL_no {N : Nat → Int32} {v j : Nat} (h : PO N v) (hj : j < 2 ^ 31) : ∀ r i, i + r = 5 → (∀ p, i ≤ p → p < v → inQ N p j = false) → owL N (nI j) i r = -1
  | 0, _, _, _ => rfl
  | r + 1, i, hi, hn => by
    unfold owL
    by_cases h1 : N 4 ≤ nI i
    · rw [if_pos h1]
    · have hv := h.lt (by omega) h1
      rw [if_neg h1, h.inR hv hj, hn i (Nat.le_refl _) hv]
      exact owL_no h hj r (i + 1) (by omega) (fun p a b => hn p (by omega) b)
theorem owL_yes {N : Nat → Int32} {v j p : Nat} (h : PO N v) (hj : j < 2 ^ 31) (hp : p < v) (hin : inQ N p j = true) : ∀ r i, i + r = 5 → i ≤ p → (∀ q, i ≤ q → q < p → inQ N q j = false) → owL N (nI j) i r = nI p
  | 0, i, hi, hip, _ => by have := h.1; omega
  | r + 1, i, hi, hip, hn => by
    unfold owL
    rw [if_neg (h.nle (by omega)), h.inR (by omega) hj]
    by_cases e : i = p
    · subst e
      rw [hin]
      rfl
    · rw [hn i (Nat.le_refl _) (by omega)]
      exact owL_yes h hj hp hin r (i + 1) (by omega) (by omega) (fun q a b => hn q (by omega) b)
theorem bool_no {B : Bool} (h : B = true → False) : B = false := by
  cases B
  · rfl
  · exact (h rfl).elim
theorem ow_in {N : Nat → Int32} {v j p : Nat} (h : PO N v) (hj : j < 2 ^ 31) (hp : p < v) (hin : inQ N p j = true) : ow N (nI j) = nI p :=
  owL_yes h hj hp hin 5 0 rfl (Nat.zero_le _) (fun q _ hq => bool_no fun h2 => by have := h.one hp (by omega) hin h2; omega)
theorem ow_no {N : Nat → Int32} {v j : Nat} (h : PO N v) (hj : j < 2 ^ 31) (hn : ∀ p, p < v → inQ N p j = false) : ow N (nI j) = -1 := owL_no h hj 5 0 rfl (fun p _ hp => hn p hp)
theorem ow_get {N : Nat → Int32} {v j : Nat} (h : PO N v) (hj : j < 2 ^ 31) : (ow N (nI j) = -1 ∧ ∀ p, p < v → inQ N p j = false) ∨ ∃ p, p < v ∧ inQ N p j = true ∧ ow N (nI j) = nI p := by
  by_cases hh : ∃ p, p < v ∧ inQ N p j = true
  · obtain ⟨p, hp, h1⟩ := hh
    exact Or.inr ⟨p, hp, h1, ow_in h hj hp h1⟩
  · have hn : ∀ p, p < v → inQ N p j = false := fun p hp => bool_no fun h2 => hh ⟨p, hp, h2⟩
    exact Or.inl ⟨ow_no h hj hn, hn⟩
/-- in a pool -/
def iP (N : Nat → Int32) (j : Nat) : Prop := 0 ≤ ow N (nI j)
theorem iP_get {N : Nat → Int32} {v j : Nat} (h : PO N v) (hj : j < 2 ^ 31) (hi : iP N j) : ∃ p, p < v ∧ inQ N p j = true ∧ ow N (nI j) = nI p := by
  rcases ow_get h hj with h1 | h1
  · unfold iP at hi
    rw [h1.1] at hi
    exact absurd hi (by decide)
  · exact h1
theorem iP_in {N : Nat → Int32} {v j p : Nat} (h : PO N v) (hj : j < 2 ^ 31) (hp : p < v) (hin : inQ N p j = true) : iP N j := by
  have := h.1
  unfold iP
  rw [ow_in h hj hp hin]
  exact nI_0le (by omega)
theorem gr_no {N : Nat → Int32} {x : Int32} (h : ow N x = -1) : gr N x = -1 := by
  unfold gr
  rw [h]
  rfl
def R1 (σ : Sto) (N : Nat → Int32) (v : Nat) : Prop := (σ 0 0 = N 4) ∧ (∀ j, j < v → σ 1 j = N (5 + 4 * j)) ∧ (∀ j, j < v → σ 2 j = N (5 + 4 * j + 1)) ∧ (∀ j, j < v → σ 3 j = N (5 + 4 * j + 2)) ∧ (∀ j, j < v → σ 4 j = N (5 + 4 * j + 3)) ∧ (∀ j, j < 100 → σ 5 j = N (31 + j)) ∧ (∀ j, j < 100 → σ 6 j = N (131 + j)) ∧ (∀ j, j < 100 → σ 7 j = N (231 + j)) ∧ (∀ j, j < 100 → σ 9 j = N (431 + j)) ∧ (∀ j, j < 20 → σ 11 j = N (631 + j)) ∧ (∀ j, j < 20 → σ 14 j = N (671 + j)) ∧ (∀ j, j < 20 → σ 15 j = N (691 + j)) ∧ (σ 17 0 = N 1) ∧ (σ 18 0 = N 2) ∧ (σ 19 0 = N 3) ∧ (∀ j, j < 3 → σ 20 j = N (25 + j)) ∧ (∀ j, j < 3 → σ 21 j = N (28 + j))
theorem R1.c0 {σ : Sto} {N : Nat → Int32} {v : Nat} (h : R1 σ N v) : σ 0 0 = N 4 := h.1
theorem R1.c1 {σ : Sto} {N : Nat → Int32} {v j : Nat} (h : R1 σ N v) (hj : j < v) : σ 1 j = N (5 + 4 * j) := h.2.1 j hj
theorem R1.c2 {σ : Sto} {N : Nat → Int32} {v j : Nat} (h : R1 σ N v) (hj : j < v) : σ 2 j = N (5 + 4 * j + 1) := h.2.2.1 j hj
theorem R1.c3 {σ : Sto} {N : Nat → Int32} {v j : Nat} (h : R1 σ N v) (hj : j < v) : σ 3 j = N (5 + 4 * j + 2) := h.2.2.2.1 j hj
theorem R1.c4 {σ : Sto} {N : Nat → Int32} {v j : Nat} (h : R1 σ N v) (hj : j < v) : σ 4 j = N (5 + 4 * j + 3) := h.2.2.2.2.1 j hj
theorem R1.c5 {σ : Sto} {N : Nat → Int32} {v j : Nat} (h : R1 σ N v) (hj : j < 100) : σ 5 j = N (31 + j) := h.2.2.2.2.2.1 j hj
theorem R1.c6 {σ : Sto} {N : Nat → Int32} {v j : Nat} (h : R1 σ N v) (hj : j < 100) : σ 6 j = N (131 + j) := h.2.2.2.2.2.2.1 j hj
theorem R1.c7 {σ : Sto} {N : Nat → Int32} {v j : Nat} (h : R1 σ N v) (hj : j < 100) : σ 7 j = N (231 + j) := h.2.2.2.2.2.2.2.1 j hj
theorem R1.c9 {σ : Sto} {N : Nat → Int32} {v j : Nat} (h : R1 σ N v) (hj : j < 100) : σ 9 j = N (431 + j) := h.2.2.2.2.2.2.2.2.1 j hj
theorem R1.c11 {σ : Sto} {N : Nat → Int32} {v j : Nat} (h : R1 σ N v) (hj : j < 20) : σ 11 j = N (631 + j) := h.2.2.2.2.2.2.2.2.2.1 j hj
theorem R1.c14 {σ : Sto} {N : Nat → Int32} {v j : Nat} (h : R1 σ N v) (hj : j < 20) : σ 14 j = N (671 + j) := h.2.2.2.2.2.2.2.2.2.2.1 j hj
theorem R1.c15 {σ : Sto} {N : Nat → Int32} {v j : Nat} (h : R1 σ N v) (hj : j < 20) : σ 15 j = N (691 + j) := h.2.2.2.2.2.2.2.2.2.2.2.1 j hj
theorem R1.c17 {σ : Sto} {N : Nat → Int32} {v : Nat} (h : R1 σ N v) : σ 17 0 = N 1 := h.2.2.2.2.2.2.2.2.2.2.2.2.1
theorem R1.c18 {σ : Sto} {N : Nat → Int32} {v : Nat} (h : R1 σ N v) : σ 18 0 = N 2 := h.2.2.2.2.2.2.2.2.2.2.2.2.2.1
theorem R1.c19 {σ : Sto} {N : Nat → Int32} {v : Nat} (h : R1 σ N v) : σ 19 0 = N 3 := h.2.2.2.2.2.2.2.2.2.2.2.2.2.2.1
theorem R1.c20 {σ : Sto} {N : Nat → Int32} {v j : Nat} (h : R1 σ N v) (hj : j < 3) : σ 20 j = N (25 + j) := h.2.2.2.2.2.2.2.2.2.2.2.2.2.2.2.1 j hj
theorem R1.c21 {σ : Sto} {N : Nat → Int32} {v j : Nat} (h : R1 σ N v) (hj : j < 3) : σ 21 j = N (28 + j) := h.2.2.2.2.2.2.2.2.2.2.2.2.2.2.2.2 j hj
theorem R1.up5 {σ : Sto} {N : Nat → Int32} {v : Nat} {i : Nat} {x : Int32} (h : R1 σ N v) (hv : v ≤ 5) (hi : i < 100) : R1 (put σ 5 (upd (σ 5) i x)) (upd N (31 + i) x) v := ⟨(h.c0.trans (pk_un (show 4 ≠ (31 + i) by omega)).symm),
  fun j hj => ((h.c1 hj).trans (pk_un (show (5 + 4 * j) ≠ (31 + i) by omega)).symm),
  fun j hj => ((h.c2 hj).trans (pk_un (show (5 + 4 * j + 1) ≠ (31 + i) by omega)).symm),
  fun j hj => ((h.c3 hj).trans (pk_un (show (5 + 4 * j + 2) ≠ (31 + i) by omega)).symm),
  fun j hj => ((h.c4 hj).trans (pk_un (show (5 + 4 * j + 3) ≠ (31 + i) by omega)).symm),
  fun j hj => (show upd (σ 5) i x j = upd N (31 + i) x (31 + j) from by
    by_cases e : j = i
    · subst e; rw [pk_us, pk_us]
    · rw [pk_un e, pk_un (show (31 + j) ≠ (31 + i) by omega)]; exact h.c5 hj),
  fun j hj => ((h.c6 hj).trans (pk_un (show (131 + j) ≠ (31 + i) by omega)).symm),
  fun j hj => ((h.c7 hj).trans (pk_un (show (231 + j) ≠ (31 + i) by omega)).symm),
  fun j hj => ((h.c9 hj).trans (pk_un (show (431 + j) ≠ (31 + i) by omega)).symm),
  fun j hj => ((h.c11 hj).trans (pk_un (show (631 + j) ≠ (31 + i) by omega)).symm),
  fun j hj => ((h.c14 hj).trans (pk_un (show (671 + j) ≠ (31 + i) by omega)).symm),
  fun j hj => ((h.c15 hj).trans (pk_un (show (691 + j) ≠ (31 + i) by omega)).symm),
  (h.c17.trans (pk_un (show 1 ≠ (31 + i) by omega)).symm),
  (h.c18.trans (pk_un (show 2 ≠ (31 + i) by omega)).symm),
  (h.c19.trans (pk_un (show 3 ≠ (31 + i) by omega)).symm),
  fun j hj => ((h.c20 hj).trans (pk_un (show (25 + j) ≠ (31 + i) by omega)).symm),
  fun j hj => ((h.c21 hj).trans (pk_un (show (28 + j) ≠ (31 + i) by omega)).symm)⟩
theorem R1.up6 {σ : Sto} {N : Nat → Int32} {v : Nat} {i : Nat} {x : Int32} (h : R1 σ N v) (hv : v ≤ 5) (hi : i < 100) : R1 (put σ 6 (upd (σ 6) i x)) (upd N (131 + i) x) v := ⟨(h.c0.trans (pk_un (show 4 ≠ (131 + i) by omega)).symm),
  fun j hj => ((h.c1 hj).trans (pk_un (show (5 + 4 * j) ≠ (131 + i) by omega)).symm),
  fun j hj => ((h.c2 hj).trans (pk_un (show (5 + 4 * j + 1) ≠ (131 + i) by omega)).symm),
  fun j hj => ((h.c3 hj).trans (pk_un (show (5 + 4 * j + 2) ≠ (131 + i) by omega)).symm),
  fun j hj => ((h.c4 hj).trans (pk_un (show (5 + 4 * j + 3) ≠ (131 + i) by omega)).symm),
  fun j hj => ((h.c5 hj).trans (pk_un (show (31 + j) ≠ (131 + i) by omega)).symm),
  fun j hj => (show upd (σ 6) i x j = upd N (131 + i) x (131 + j) from by
    by_cases e : j = i
    · subst e; rw [pk_us, pk_us]
    · rw [pk_un e, pk_un (show (131 + j) ≠ (131 + i) by omega)]; exact h.c6 hj),
  fun j hj => ((h.c7 hj).trans (pk_un (show (231 + j) ≠ (131 + i) by omega)).symm),
  fun j hj => ((h.c9 hj).trans (pk_un (show (431 + j) ≠ (131 + i) by omega)).symm),
  fun j hj => ((h.c11 hj).trans (pk_un (show (631 + j) ≠ (131 + i) by omega)).symm),
  fun j hj => ((h.c14 hj).trans (pk_un (show (671 + j) ≠ (131 + i) by omega)).symm),
  fun j hj => ((h.c15 hj).trans (pk_un (show (691 + j) ≠ (131 + i) by omega)).symm),
  (h.c17.trans (pk_un (show 1 ≠ (131 + i) by omega)).symm),
  (h.c18.trans (pk_un (show 2 ≠ (131 + i) by omega)).symm),
  (h.c19.trans (pk_un (show 3 ≠ (131 + i) by omega)).symm),
  fun j hj => ((h.c20 hj).trans (pk_un (show (25 + j) ≠ (131 + i) by omega)).symm),
  fun j hj => ((h.c21 hj).trans (pk_un (show (28 + j) ≠ (131 + i) by omega)).symm)⟩
theorem R1.up7 {σ : Sto} {N : Nat → Int32} {v : Nat} {i : Nat} {x : Int32} (h : R1 σ N v) (hv : v ≤ 5) (hi : i < 100) : R1 (put σ 7 (upd (σ 7) i x)) (upd N (231 + i) x) v := ⟨(h.c0.trans (pk_un (show 4 ≠ (231 + i) by omega)).symm),
  fun j hj => ((h.c1 hj).trans (pk_un (show (5 + 4 * j) ≠ (231 + i) by omega)).symm),
  fun j hj => ((h.c2 hj).trans (pk_un (show (5 + 4 * j + 1) ≠ (231 + i) by omega)).symm),
  fun j hj => ((h.c3 hj).trans (pk_un (show (5 + 4 * j + 2) ≠ (231 + i) by omega)).symm),
  fun j hj => ((h.c4 hj).trans (pk_un (show (5 + 4 * j + 3) ≠ (231 + i) by omega)).symm),
  fun j hj => ((h.c5 hj).trans (pk_un (show (31 + j) ≠ (231 + i) by omega)).symm),
  fun j hj => ((h.c6 hj).trans (pk_un (show (131 + j) ≠ (231 + i) by omega)).symm),
  fun j hj => (show upd (σ 7) i x j = upd N (231 + i) x (231 + j) from by
    by_cases e : j = i
    · subst e; rw [pk_us, pk_us]
    · rw [pk_un e, pk_un (show (231 + j) ≠ (231 + i) by omega)]; exact h.c7 hj),
  fun j hj => ((h.c9 hj).trans (pk_un (show (431 + j) ≠ (231 + i) by omega)).symm),
  fun j hj => ((h.c11 hj).trans (pk_un (show (631 + j) ≠ (231 + i) by omega)).symm),
  fun j hj => ((h.c14 hj).trans (pk_un (show (671 + j) ≠ (231 + i) by omega)).symm),
  fun j hj => ((h.c15 hj).trans (pk_un (show (691 + j) ≠ (231 + i) by omega)).symm),
  (h.c17.trans (pk_un (show 1 ≠ (231 + i) by omega)).symm),
  (h.c18.trans (pk_un (show 2 ≠ (231 + i) by omega)).symm),
  (h.c19.trans (pk_un (show 3 ≠ (231 + i) by omega)).symm),
  fun j hj => ((h.c20 hj).trans (pk_un (show (25 + j) ≠ (231 + i) by omega)).symm),
  fun j hj => ((h.c21 hj).trans (pk_un (show (28 + j) ≠ (231 + i) by omega)).symm)⟩
theorem R1.up9 {σ : Sto} {N : Nat → Int32} {v : Nat} {i : Nat} {x : Int32} (h : R1 σ N v) (hv : v ≤ 5) (hi : i < 100) : R1 (put σ 9 (upd (σ 9) i x)) (upd N (431 + i) x) v := ⟨(h.c0.trans (pk_un (show 4 ≠ (431 + i) by omega)).symm),
  fun j hj => ((h.c1 hj).trans (pk_un (show (5 + 4 * j) ≠ (431 + i) by omega)).symm),
  fun j hj => ((h.c2 hj).trans (pk_un (show (5 + 4 * j + 1) ≠ (431 + i) by omega)).symm),
  fun j hj => ((h.c3 hj).trans (pk_un (show (5 + 4 * j + 2) ≠ (431 + i) by omega)).symm),
  fun j hj => ((h.c4 hj).trans (pk_un (show (5 + 4 * j + 3) ≠ (431 + i) by omega)).symm),
  fun j hj => ((h.c5 hj).trans (pk_un (show (31 + j) ≠ (431 + i) by omega)).symm),
  fun j hj => ((h.c6 hj).trans (pk_un (show (131 + j) ≠ (431 + i) by omega)).symm),
  fun j hj => ((h.c7 hj).trans (pk_un (show (231 + j) ≠ (431 + i) by omega)).symm),
  fun j hj => (show upd (σ 9) i x j = upd N (431 + i) x (431 + j) from by
    by_cases e : j = i
    · subst e; rw [pk_us, pk_us]
    · rw [pk_un e, pk_un (show (431 + j) ≠ (431 + i) by omega)]; exact h.c9 hj),
  fun j hj => ((h.c11 hj).trans (pk_un (show (631 + j) ≠ (431 + i) by omega)).symm),
  fun j hj => ((h.c14 hj).trans (pk_un (show (671 + j) ≠ (431 + i) by omega)).symm),
  fun j hj => ((h.c15 hj).trans (pk_un (show (691 + j) ≠ (431 + i) by omega)).symm),
  (h.c17.trans (pk_un (show 1 ≠ (431 + i) by omega)).symm),
  (h.c18.trans (pk_un (show 2 ≠ (431 + i) by omega)).symm),
  (h.c19.trans (pk_un (show 3 ≠ (431 + i) by omega)).symm),
  fun j hj => ((h.c20 hj).trans (pk_un (show (25 + j) ≠ (431 + i) by omega)).symm),
  fun j hj => ((h.c21 hj).trans (pk_un (show (28 + j) ≠ (431 + i) by omega)).symm)⟩
theorem R1.up11 {σ : Sto} {N : Nat → Int32} {v : Nat} {i : Nat} {x : Int32} (h : R1 σ N v) (hv : v ≤ 5) (hi : i < 20) : R1 (put σ 11 (upd (σ 11) i x)) (upd N (631 + i) x) v := ⟨(h.c0.trans (pk_un (show 4 ≠ (631 + i) by omega)).symm),
  fun j hj => ((h.c1 hj).trans (pk_un (show (5 + 4 * j) ≠ (631 + i) by omega)).symm),
  fun j hj => ((h.c2 hj).trans (pk_un (show (5 + 4 * j + 1) ≠ (631 + i) by omega)).symm),
  fun j hj => ((h.c3 hj).trans (pk_un (show (5 + 4 * j + 2) ≠ (631 + i) by omega)).symm),
  fun j hj => ((h.c4 hj).trans (pk_un (show (5 + 4 * j + 3) ≠ (631 + i) by omega)).symm),
  fun j hj => ((h.c5 hj).trans (pk_un (show (31 + j) ≠ (631 + i) by omega)).symm),
  fun j hj => ((h.c6 hj).trans (pk_un (show (131 + j) ≠ (631 + i) by omega)).symm),
  fun j hj => ((h.c7 hj).trans (pk_un (show (231 + j) ≠ (631 + i) by omega)).symm),
  fun j hj => ((h.c9 hj).trans (pk_un (show (431 + j) ≠ (631 + i) by omega)).symm),
  fun j hj => (show upd (σ 11) i x j = upd N (631 + i) x (631 + j) from by
    by_cases e : j = i
    · subst e; rw [pk_us, pk_us]
    · rw [pk_un e, pk_un (show (631 + j) ≠ (631 + i) by omega)]; exact h.c11 hj),
  fun j hj => ((h.c14 hj).trans (pk_un (show (671 + j) ≠ (631 + i) by omega)).symm),
  fun j hj => ((h.c15 hj).trans (pk_un (show (691 + j) ≠ (631 + i) by omega)).symm),
  (h.c17.trans (pk_un (show 1 ≠ (631 + i) by omega)).symm),
  (h.c18.trans (pk_un (show 2 ≠ (631 + i) by omega)).symm),
  (h.c19.trans (pk_un (show 3 ≠ (631 + i) by omega)).symm),
  fun j hj => ((h.c20 hj).trans (pk_un (show (25 + j) ≠ (631 + i) by omega)).symm),
  fun j hj => ((h.c21 hj).trans (pk_un (show (28 + j) ≠ (631 + i) by omega)).symm)⟩
theorem R1.up14 {σ : Sto} {N : Nat → Int32} {v : Nat} {i : Nat} {x : Int32} (h : R1 σ N v) (hv : v ≤ 5) (hi : i < 20) : R1 (put σ 14 (upd (σ 14) i x)) (upd N (671 + i) x) v := ⟨(h.c0.trans (pk_un (show 4 ≠ (671 + i) by omega)).symm),
  fun j hj => ((h.c1 hj).trans (pk_un (show (5 + 4 * j) ≠ (671 + i) by omega)).symm),
  fun j hj => ((h.c2 hj).trans (pk_un (show (5 + 4 * j + 1) ≠ (671 + i) by omega)).symm),
  fun j hj => ((h.c3 hj).trans (pk_un (show (5 + 4 * j + 2) ≠ (671 + i) by omega)).symm),
  fun j hj => ((h.c4 hj).trans (pk_un (show (5 + 4 * j + 3) ≠ (671 + i) by omega)).symm),
  fun j hj => ((h.c5 hj).trans (pk_un (show (31 + j) ≠ (671 + i) by omega)).symm),
  fun j hj => ((h.c6 hj).trans (pk_un (show (131 + j) ≠ (671 + i) by omega)).symm),
  fun j hj => ((h.c7 hj).trans (pk_un (show (231 + j) ≠ (671 + i) by omega)).symm),
  fun j hj => ((h.c9 hj).trans (pk_un (show (431 + j) ≠ (671 + i) by omega)).symm),
  fun j hj => ((h.c11 hj).trans (pk_un (show (631 + j) ≠ (671 + i) by omega)).symm),
  fun j hj => (show upd (σ 14) i x j = upd N (671 + i) x (671 + j) from by
    by_cases e : j = i
    · subst e; rw [pk_us, pk_us]
    · rw [pk_un e, pk_un (show (671 + j) ≠ (671 + i) by omega)]; exact h.c14 hj),
  fun j hj => ((h.c15 hj).trans (pk_un (show (691 + j) ≠ (671 + i) by omega)).symm),
  (h.c17.trans (pk_un (show 1 ≠ (671 + i) by omega)).symm),
  (h.c18.trans (pk_un (show 2 ≠ (671 + i) by omega)).symm),
  (h.c19.trans (pk_un (show 3 ≠ (671 + i) by omega)).symm),
  fun j hj => ((h.c20 hj).trans (pk_un (show (25 + j) ≠ (671 + i) by omega)).symm),
  fun j hj => ((h.c21 hj).trans (pk_un (show (28 + j) ≠ (671 + i) by omega)).symm)⟩
theorem R1.up15 {σ : Sto} {N : Nat → Int32} {v : Nat} {i : Nat} {x : Int32} (h : R1 σ N v) (hv : v ≤ 5) (hi : i < 20) : R1 (put σ 15 (upd (σ 15) i x)) (upd N (691 + i) x) v := ⟨(h.c0.trans (pk_un (show 4 ≠ (691 + i) by omega)).symm),
  fun j hj => ((h.c1 hj).trans (pk_un (show (5 + 4 * j) ≠ (691 + i) by omega)).symm),
  fun j hj => ((h.c2 hj).trans (pk_un (show (5 + 4 * j + 1) ≠ (691 + i) by omega)).symm),
  fun j hj => ((h.c3 hj).trans (pk_un (show (5 + 4 * j + 2) ≠ (691 + i) by omega)).symm),
  fun j hj => ((h.c4 hj).trans (pk_un (show (5 + 4 * j + 3) ≠ (691 + i) by omega)).symm),
  fun j hj => ((h.c5 hj).trans (pk_un (show (31 + j) ≠ (691 + i) by omega)).symm),
  fun j hj => ((h.c6 hj).trans (pk_un (show (131 + j) ≠ (691 + i) by omega)).symm),
  fun j hj => ((h.c7 hj).trans (pk_un (show (231 + j) ≠ (691 + i) by omega)).symm),
  fun j hj => ((h.c9 hj).trans (pk_un (show (431 + j) ≠ (691 + i) by omega)).symm),
  fun j hj => ((h.c11 hj).trans (pk_un (show (631 + j) ≠ (691 + i) by omega)).symm),
  fun j hj => ((h.c14 hj).trans (pk_un (show (671 + j) ≠ (691 + i) by omega)).symm),
  fun j hj => (show upd (σ 15) i x j = upd N (691 + i) x (691 + j) from by
    by_cases e : j = i
    · subst e; rw [pk_us, pk_us]
    · rw [pk_un e, pk_un (show (691 + j) ≠ (691 + i) by omega)]; exact h.c15 hj),
  (h.c17.trans (pk_un (show 1 ≠ (691 + i) by omega)).symm),
  (h.c18.trans (pk_un (show 2 ≠ (691 + i) by omega)).symm),
  (h.c19.trans (pk_un (show 3 ≠ (691 + i) by omega)).symm),
  fun j hj => ((h.c20 hj).trans (pk_un (show (25 + j) ≠ (691 + i) by omega)).symm),
  fun j hj => ((h.c21 hj).trans (pk_un (show (28 + j) ≠ (691 + i) by omega)).symm)⟩
theorem R1.up17 {σ : Sto} {N : Nat → Int32} {v : Nat} {x : Int32} (h : R1 σ N v) (hv : v ≤ 5) : R1 (put σ 17 (sc x)) (upd N 1 x) v := ⟨(h.c0.trans (pk_un (show 4 ≠ 1 by omega)).symm),
  fun j hj => ((h.c1 hj).trans (pk_un (show (5 + 4 * j) ≠ 1 by omega)).symm),
  fun j hj => ((h.c2 hj).trans (pk_un (show (5 + 4 * j + 1) ≠ 1 by omega)).symm),
  fun j hj => ((h.c3 hj).trans (pk_un (show (5 + 4 * j + 2) ≠ 1 by omega)).symm),
  fun j hj => ((h.c4 hj).trans (pk_un (show (5 + 4 * j + 3) ≠ 1 by omega)).symm),
  fun j hj => ((h.c5 hj).trans (pk_un (show (31 + j) ≠ 1 by omega)).symm),
  fun j hj => ((h.c6 hj).trans (pk_un (show (131 + j) ≠ 1 by omega)).symm),
  fun j hj => ((h.c7 hj).trans (pk_un (show (231 + j) ≠ 1 by omega)).symm),
  fun j hj => ((h.c9 hj).trans (pk_un (show (431 + j) ≠ 1 by omega)).symm),
  fun j hj => ((h.c11 hj).trans (pk_un (show (631 + j) ≠ 1 by omega)).symm),
  fun j hj => ((h.c14 hj).trans (pk_un (show (671 + j) ≠ 1 by omega)).symm),
  fun j hj => ((h.c15 hj).trans (pk_un (show (691 + j) ≠ 1 by omega)).symm),
  pk_us.symm,
  (h.c18.trans (pk_un (show 2 ≠ 1 by omega)).symm),
  (h.c19.trans (pk_un (show 3 ≠ 1 by omega)).symm),
  fun j hj => ((h.c20 hj).trans (pk_un (show (25 + j) ≠ 1 by omega)).symm),
  fun j hj => ((h.c21 hj).trans (pk_un (show (28 + j) ≠ 1 by omega)).symm)⟩
theorem R1.up18 {σ : Sto} {N : Nat → Int32} {v : Nat} {x : Int32} (h : R1 σ N v) (hv : v ≤ 5) : R1 (put σ 18 (sc x)) (upd N 2 x) v := ⟨(h.c0.trans (pk_un (show 4 ≠ 2 by omega)).symm),
  fun j hj => ((h.c1 hj).trans (pk_un (show (5 + 4 * j) ≠ 2 by omega)).symm),
  fun j hj => ((h.c2 hj).trans (pk_un (show (5 + 4 * j + 1) ≠ 2 by omega)).symm),
  fun j hj => ((h.c3 hj).trans (pk_un (show (5 + 4 * j + 2) ≠ 2 by omega)).symm),
  fun j hj => ((h.c4 hj).trans (pk_un (show (5 + 4 * j + 3) ≠ 2 by omega)).symm),
  fun j hj => ((h.c5 hj).trans (pk_un (show (31 + j) ≠ 2 by omega)).symm),
  fun j hj => ((h.c6 hj).trans (pk_un (show (131 + j) ≠ 2 by omega)).symm),
  fun j hj => ((h.c7 hj).trans (pk_un (show (231 + j) ≠ 2 by omega)).symm),
  fun j hj => ((h.c9 hj).trans (pk_un (show (431 + j) ≠ 2 by omega)).symm),
  fun j hj => ((h.c11 hj).trans (pk_un (show (631 + j) ≠ 2 by omega)).symm),
  fun j hj => ((h.c14 hj).trans (pk_un (show (671 + j) ≠ 2 by omega)).symm),
  fun j hj => ((h.c15 hj).trans (pk_un (show (691 + j) ≠ 2 by omega)).symm),
  (h.c17.trans (pk_un (show 1 ≠ 2 by omega)).symm),
  pk_us.symm,
  (h.c19.trans (pk_un (show 3 ≠ 2 by omega)).symm),
  fun j hj => ((h.c20 hj).trans (pk_un (show (25 + j) ≠ 2 by omega)).symm),
  fun j hj => ((h.c21 hj).trans (pk_un (show (28 + j) ≠ 2 by omega)).symm)⟩
theorem R1.up19 {σ : Sto} {N : Nat → Int32} {v : Nat} {x : Int32} (h : R1 σ N v) (hv : v ≤ 5) : R1 (put σ 19 (sc x)) (upd N 3 x) v := ⟨(h.c0.trans (pk_un (show 4 ≠ 3 by omega)).symm),
  fun j hj => ((h.c1 hj).trans (pk_un (show (5 + 4 * j) ≠ 3 by omega)).symm),
  fun j hj => ((h.c2 hj).trans (pk_un (show (5 + 4 * j + 1) ≠ 3 by omega)).symm),
  fun j hj => ((h.c3 hj).trans (pk_un (show (5 + 4 * j + 2) ≠ 3 by omega)).symm),
  fun j hj => ((h.c4 hj).trans (pk_un (show (5 + 4 * j + 3) ≠ 3 by omega)).symm),
  fun j hj => ((h.c5 hj).trans (pk_un (show (31 + j) ≠ 3 by omega)).symm),
  fun j hj => ((h.c6 hj).trans (pk_un (show (131 + j) ≠ 3 by omega)).symm),
  fun j hj => ((h.c7 hj).trans (pk_un (show (231 + j) ≠ 3 by omega)).symm),
  fun j hj => ((h.c9 hj).trans (pk_un (show (431 + j) ≠ 3 by omega)).symm),
  fun j hj => ((h.c11 hj).trans (pk_un (show (631 + j) ≠ 3 by omega)).symm),
  fun j hj => ((h.c14 hj).trans (pk_un (show (671 + j) ≠ 3 by omega)).symm),
  fun j hj => ((h.c15 hj).trans (pk_un (show (691 + j) ≠ 3 by omega)).symm),
  (h.c17.trans (pk_un (show 1 ≠ 3 by omega)).symm),
  (h.c18.trans (pk_un (show 2 ≠ 3 by omega)).symm),
  pk_us.symm,
  fun j hj => ((h.c20 hj).trans (pk_un (show (25 + j) ≠ 3 by omega)).symm),
  fun j hj => ((h.c21 hj).trans (pk_un (show (28 + j) ≠ 3 by omega)).symm)⟩
theorem R1.up20 {σ : Sto} {N : Nat → Int32} {v : Nat} {i : Nat} {x : Int32} (h : R1 σ N v) (hv : v ≤ 5) (hi : i < 3) : R1 (put σ 20 (upd (σ 20) i x)) (upd N (25 + i) x) v := ⟨(h.c0.trans (pk_un (show 4 ≠ (25 + i) by omega)).symm),
  fun j hj => ((h.c1 hj).trans (pk_un (show (5 + 4 * j) ≠ (25 + i) by omega)).symm),
  fun j hj => ((h.c2 hj).trans (pk_un (show (5 + 4 * j + 1) ≠ (25 + i) by omega)).symm),
  fun j hj => ((h.c3 hj).trans (pk_un (show (5 + 4 * j + 2) ≠ (25 + i) by omega)).symm),
  fun j hj => ((h.c4 hj).trans (pk_un (show (5 + 4 * j + 3) ≠ (25 + i) by omega)).symm),
  fun j hj => ((h.c5 hj).trans (pk_un (show (31 + j) ≠ (25 + i) by omega)).symm),
  fun j hj => ((h.c6 hj).trans (pk_un (show (131 + j) ≠ (25 + i) by omega)).symm),
  fun j hj => ((h.c7 hj).trans (pk_un (show (231 + j) ≠ (25 + i) by omega)).symm),
  fun j hj => ((h.c9 hj).trans (pk_un (show (431 + j) ≠ (25 + i) by omega)).symm),
  fun j hj => ((h.c11 hj).trans (pk_un (show (631 + j) ≠ (25 + i) by omega)).symm),
  fun j hj => ((h.c14 hj).trans (pk_un (show (671 + j) ≠ (25 + i) by omega)).symm),
  fun j hj => ((h.c15 hj).trans (pk_un (show (691 + j) ≠ (25 + i) by omega)).symm),
  (h.c17.trans (pk_un (show 1 ≠ (25 + i) by omega)).symm),
  (h.c18.trans (pk_un (show 2 ≠ (25 + i) by omega)).symm),
  (h.c19.trans (pk_un (show 3 ≠ (25 + i) by omega)).symm),
  fun j hj => (show upd (σ 20) i x j = upd N (25 + i) x (25 + j) from by
    by_cases e : j = i
    · subst e; rw [pk_us, pk_us]
    · rw [pk_un e, pk_un (show (25 + j) ≠ (25 + i) by omega)]; exact h.c20 hj),
  fun j hj => ((h.c21 hj).trans (pk_un (show (28 + j) ≠ (25 + i) by omega)).symm)⟩
theorem R1.up21 {σ : Sto} {N : Nat → Int32} {v : Nat} {i : Nat} {x : Int32} (h : R1 σ N v) (hv : v ≤ 5) (hi : i < 3) : R1 (put σ 21 (upd (σ 21) i x)) (upd N (28 + i) x) v := ⟨(h.c0.trans (pk_un (show 4 ≠ (28 + i) by omega)).symm),
  fun j hj => ((h.c1 hj).trans (pk_un (show (5 + 4 * j) ≠ (28 + i) by omega)).symm),
  fun j hj => ((h.c2 hj).trans (pk_un (show (5 + 4 * j + 1) ≠ (28 + i) by omega)).symm),
  fun j hj => ((h.c3 hj).trans (pk_un (show (5 + 4 * j + 2) ≠ (28 + i) by omega)).symm),
  fun j hj => ((h.c4 hj).trans (pk_un (show (5 + 4 * j + 3) ≠ (28 + i) by omega)).symm),
  fun j hj => ((h.c5 hj).trans (pk_un (show (31 + j) ≠ (28 + i) by omega)).symm),
  fun j hj => ((h.c6 hj).trans (pk_un (show (131 + j) ≠ (28 + i) by omega)).symm),
  fun j hj => ((h.c7 hj).trans (pk_un (show (231 + j) ≠ (28 + i) by omega)).symm),
  fun j hj => ((h.c9 hj).trans (pk_un (show (431 + j) ≠ (28 + i) by omega)).symm),
  fun j hj => ((h.c11 hj).trans (pk_un (show (631 + j) ≠ (28 + i) by omega)).symm),
  fun j hj => ((h.c14 hj).trans (pk_un (show (671 + j) ≠ (28 + i) by omega)).symm),
  fun j hj => ((h.c15 hj).trans (pk_un (show (691 + j) ≠ (28 + i) by omega)).symm),
  (h.c17.trans (pk_un (show 1 ≠ (28 + i) by omega)).symm),
  (h.c18.trans (pk_un (show 2 ≠ (28 + i) by omega)).symm),
  (h.c19.trans (pk_un (show 3 ≠ (28 + i) by omega)).symm),
  fun j hj => ((h.c20 hj).trans (pk_un (show (25 + j) ≠ (28 + i) by omega)).symm),
  fun j hj => (show upd (σ 21) i x j = upd N (28 + i) x (28 + j) from by
    by_cases e : j = i
    · subst e; rw [pk_us, pk_us]
    · rw [pk_un e, pk_un (show (28 + j) ≠ (28 + i) by omega)]; exact h.c21 hj)⟩
theorem R1.un {σ : Sto} {N : Nat → Int32} {v : Nat} {i : Nat} {x : Int32} (h : R1 σ N v) (hv : v ≤ 5) (hi : i = 0 ∨ 331 ≤ i ∧ i < 431 ∨ 531 ≤ i ∧ i < 631 ∨ 651 ≤ i ∧ i < 671 ∨ 711 ≤ i) : R1 σ (upd N i x) v := ⟨(h.c0.trans (pk_un (show 4 ≠ i by omega)).symm),
  fun j hj => ((h.c1 hj).trans (pk_un (show (5 + 4 * j) ≠ i by omega)).symm),
  fun j hj => ((h.c2 hj).trans (pk_un (show (5 + 4 * j + 1) ≠ i by omega)).symm),
  fun j hj => ((h.c3 hj).trans (pk_un (show (5 + 4 * j + 2) ≠ i by omega)).symm),
  fun j hj => ((h.c4 hj).trans (pk_un (show (5 + 4 * j + 3) ≠ i by omega)).symm),
  fun j hj => ((h.c5 hj).trans (pk_un (show (31 + j) ≠ i by omega)).symm),
  fun j hj => ((h.c6 hj).trans (pk_un (show (131 + j) ≠ i by omega)).symm),
  fun j hj => ((h.c7 hj).trans (pk_un (show (231 + j) ≠ i by omega)).symm),
  fun j hj => ((h.c9 hj).trans (pk_un (show (431 + j) ≠ i by omega)).symm),
  fun j hj => ((h.c11 hj).trans (pk_un (show (631 + j) ≠ i by omega)).symm),
  fun j hj => ((h.c14 hj).trans (pk_un (show (671 + j) ≠ i by omega)).symm),
  fun j hj => ((h.c15 hj).trans (pk_un (show (691 + j) ≠ i by omega)).symm),
  (h.c17.trans (pk_un (show 1 ≠ i by omega)).symm),
  (h.c18.trans (pk_un (show 2 ≠ i by omega)).symm),
  (h.c19.trans (pk_un (show 3 ≠ i by omega)).symm),
  fun j hj => ((h.c20 hj).trans (pk_un (show (25 + j) ≠ i by omega)).symm),
  fun j hj => ((h.c21 hj).trans (pk_un (show (28 + j) ≠ i by omega)).symm)⟩
theorem R1.pu {σ : Sto} {N : Nat → Int32} {v : Nat} {k : Nat} {f : Nat → Int32} (h : R1 σ N v) (hk : k = 8 ∨ k = 10 ∨ k = 12 ∨ k = 13 ∨ k = 16 ∨ 22 ≤ k) : R1 (put σ k f) N v := ⟨(congrFun (put_n (show 0 ≠ k by omega)) 0).trans h.c0,
  fun j hj => (congrFun (put_n (show 1 ≠ k by omega)) j).trans (h.c1 hj),
  fun j hj => (congrFun (put_n (show 2 ≠ k by omega)) j).trans (h.c2 hj),
  fun j hj => (congrFun (put_n (show 3 ≠ k by omega)) j).trans (h.c3 hj),
  fun j hj => (congrFun (put_n (show 4 ≠ k by omega)) j).trans (h.c4 hj),
  fun j hj => (congrFun (put_n (show 5 ≠ k by omega)) j).trans (h.c5 hj),
  fun j hj => (congrFun (put_n (show 6 ≠ k by omega)) j).trans (h.c6 hj),
  fun j hj => (congrFun (put_n (show 7 ≠ k by omega)) j).trans (h.c7 hj),
  fun j hj => (congrFun (put_n (show 9 ≠ k by omega)) j).trans (h.c9 hj),
  fun j hj => (congrFun (put_n (show 11 ≠ k by omega)) j).trans (h.c11 hj),
  fun j hj => (congrFun (put_n (show 14 ≠ k by omega)) j).trans (h.c14 hj),
  fun j hj => (congrFun (put_n (show 15 ≠ k by omega)) j).trans (h.c15 hj),
  (congrFun (put_n (show 17 ≠ k by omega)) 0).trans h.c17,
  (congrFun (put_n (show 18 ≠ k by omega)) 0).trans h.c18,
  (congrFun (put_n (show 19 ≠ k by omega)) 0).trans h.c19,
  fun j hj => (congrFun (put_n (show 20 ≠ k by omega)) j).trans (h.c20 hj),
  fun j hj => (congrFun (put_n (show 21 ≠ k by omega)) j).trans (h.c21 hj)⟩
theorem R1.ext {σ τ : Sto} {N : Nat → Int32} {v : Nat} (h : R1 σ N v) (hs : ∀ k j, k < 22 → τ k j = σ k j) : R1 τ N v := ⟨(hs 0 0 (by decide)).trans h.c0, fun j hj => (hs 1 j (by decide)).trans (h.c1 hj), fun j hj => (hs 2 j (by decide)).trans (h.c2 hj), fun j hj => (hs 3 j (by decide)).trans (h.c3 hj), fun j hj => (hs 4 j (by decide)).trans (h.c4 hj), fun j hj => (hs 5 j (by decide)).trans (h.c5 hj), fun j hj => (hs 6 j (by decide)).trans (h.c6 hj), fun j hj => (hs 7 j (by decide)).trans (h.c7 hj), fun j hj => (hs 9 j (by decide)).trans (h.c9 hj), fun j hj => (hs 11 j (by decide)).trans (h.c11 hj), fun j hj => (hs 14 j (by decide)).trans (h.c14 hj), fun j hj => (hs 15 j (by decide)).trans (h.c15 hj), (hs 17 0 (by decide)).trans h.c17, (hs 18 0 (by decide)).trans h.c18, (hs 19 0 (by decide)).trans h.c19, fun j hj => (hs 20 j (by decide)).trans (h.c20 hj), fun j hj => (hs 21 j (by decide)).trans (h.c21 hj)⟩
def R8 (σ : Sto) (N : Nat → Int32) : Prop := ∀ j, j < 100 → σ 8 j = if N (231 + j) = 1 ∨ N (231 + j) = 2 then N (331 + j) else -1
def R10 (σ : Sto) (N : Nat → Int32) : Prop := ∀ j, j < 100 → iP N j → σ 10 j = N (531 + j)
def R12 (σ : Sto) (N : Nat → Int32) : Prop := ∀ c, c < 20 → σ 12 c = if N (631 + c) = 0 then -1 else N (651 + c)
def R13 (σ : Sto) (N : Nat → Int32) : Prop := ∀ c, c < 20 → σ 13 c = N (711 + c) - 1
/-- all but the time and what is saved -/
def RR (σ : Sto) (N : Nat → Int32) (v : Nat) : Prop := v ≤ 5 ∧ R1 σ N v ∧ R8 σ N ∧ R10 σ N ∧ R12 σ N ∧ R13 σ N
theorem RR.hv {σ : Sto} {N : Nat → Int32} {v : Nat} (h : RR σ N v) : v ≤ 5 := h.1
theorem RR.r1 {σ : Sto} {N : Nat → Int32} {v : Nat} (h : RR σ N v) : R1 σ N v := h.2.1
theorem RR.r8 {σ : Sto} {N : Nat → Int32} {v : Nat} (h : RR σ N v) : R8 σ N := h.2.2.1
theorem RR.r10 {σ : Sto} {N : Nat → Int32} {v : Nat} (h : RR σ N v) : R10 σ N := h.2.2.2.1
theorem RR.r12 {σ : Sto} {N : Nat → Int32} {v : Nat} (h : RR σ N v) : R12 σ N := h.2.2.2.2.1
theorem RR.r13 {σ : Sto} {N : Nat → Int32} {v : Nat} (h : RR σ N v) : R13 σ N := h.2.2.2.2.2
theorem RR.ext {σ τ : Sto} {N : Nat → Int32} {v : Nat} (h : RR σ N v) (hs : ∀ k j, k < 22 → τ k j = σ k j) : RR τ N v :=
  ⟨h.hv, h.r1.ext hs, fun j hj => (hs 8 j (by decide)).trans (h.r8 j hj), fun j hj hi => (hs 10 j (by decide)).trans (h.r10 j hj hi), fun j hj => (hs 12 j (by decide)).trans (h.r12 j hj), fun j hj => (hs 13 j (by decide)).trans (h.r13 j hj)⟩
/-- rows that the relation doesn't speak of -/
theorem RR.pu {σ : Sto} {N : Nat → Int32} {v k : Nat} {f : Nat → Int32} (h : RR σ N v) (hk : k = 16 ∨ 22 ≤ k) : RR (put σ k f) N v :=
  ⟨h.hv, h.r1.pu (by omega), fun j hj => (congrFun (put_n (show 8 ≠ k by omega)) j).trans (h.r8 j hj), fun j hj hi => (congrFun (put_n (show 10 ≠ k by omega)) j).trans (h.r10 j hj hi), fun j hj => (congrFun (put_n (show 12 ≠ k by omega)) j).trans (h.r12 j hj), fun j hj => (congrFun (put_n (show 13 ≠ k by omega)) j).trans (h.r13 j hj)⟩
theorem iP_upd {N : Nat → Int32} {i j : Nat} {x : Int32} (hi : i < 4 ∨ 25 ≤ i) : iP (upd N i x) j ↔ iP N j := by
  unfold iP
  rw [ow_upd hi]
/-- the time of the reference -/
theorem RR.t0 {σ : Sto} {N : Nat → Int32} {v : Nat} {x : Int32} (h : RR σ N v) : RR σ (upd N 0 x) v :=
  ⟨h.hv, h.r1.un h.hv (Or.inl rfl), fun j hj => by rw [pk_un (by omega), pk_un (by omega)]; exact h.r8 j hj, fun j hj hi => by rw [pk_un (by omega)]; exact h.r10 j hj ((iP_upd (Or.inl (by decide))).mp hi), fun c hc => by rw [pk_un (by omega), pk_un (by omega)]; exact h.r12 c hc, fun c hc => by rw [pk_un (by omega)]; exact h.r13 c hc⟩
