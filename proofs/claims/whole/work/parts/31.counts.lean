def cnt (P : Nat → Bool) : Nat → Nat → Nat
  | _, 0 => 0
  | i, r + 1 => (if P i = true then 1 else 0) + cnt P (i + 1) r
termination_by _ r => r
section CN9
variable {P Q : Nat → Bool}
theorem cnt_0 {i : Nat} : cnt P i 0 = 0 := by rw [cnt]
theorem cnt_app : ∀ a i b, cnt P i (a + b) = cnt P i a + cnt P (i + a) b
  | 0, i, b => by rw [Nat.zero_add, cnt_0, Nat.zero_add, Nat.add_zero]
  | a + 1, i, b => by
    rw [show a + 1 + b = (a + b) + 1 by omega, cnt, cnt, cnt_app a (i + 1) b, show i + 1 + a = i + (a + 1) by omega, Nat.add_assoc]
theorem cnt_congr : ∀ r i, (∀ j, i ≤ j → j < i + r → P j = Q j) → cnt P i r = cnt Q i r
  | 0, _, _ => by rw [cnt_0, cnt_0]
  | r + 1, i, h => by rw [cnt, cnt, h i (Nat.le_refl i) (by omega), cnt_congr r (i + 1) (fun j a b => h j (by omega) (by omega))]
theorem cnt_zero : ∀ r i, (∀ j, i ≤ j → j < i + r → P j = false) → cnt P i r = 0
  | 0, _, _ => cnt_0
  | r + 1, i, h => by rw [cnt, h i (Nat.le_refl i) (by omega), cnt_zero r (i + 1) (fun j a b => h j (by omega) (by omega))]; rfl
theorem cnt_all : ∀ r i, (∀ j, i ≤ j → j < i + r → P j = true) → cnt P i r = r
  | 0, _, _ => cnt_0
  | r + 1, i, h => by rw [cnt, h i (Nat.le_refl i) (by omega), cnt_all r (i + 1) (fun j a b => h j (by omega) (by omega)), if_pos rfl, Nat.add_comm]
theorem cnt_le : ∀ r i, cnt P i r ≤ r
  | 0, _ => Nat.le_of_eq cnt_0
  | r + 1, i => by
    have := cnt_le r (i + 1)
    rw [cnt]
    split <;> omega
theorem cnt_full : ∀ r i, cnt P i r = r → ∀ j, i ≤ j → j < i + r → P j = true
  | 0, i, _, j, a, b => by omega
  | r + 1, i, h, j, a, b => by
    have := cnt_le (P := P) r (i + 1)
    rw [cnt] at h
    by_cases q : P i = true
    · rw [if_pos q] at h
      by_cases e : j = i
      · subst e; exact q
      · exact cnt_full r (i + 1) (by omega) j (by omega) (by omega)
    · rw [if_neg q] at h
      omega
theorem cnt_or : ∀ r i, (∀ j, i ≤ j → j < i + r → (P j && Q j) = false) → cnt (fun j => P j || Q j) i r = cnt P i r + cnt Q i r
  | 0, _, _ => by rw [cnt_0, cnt_0, cnt_0]
  | r + 1, i, h => by
    have h1 := h i (Nat.le_refl i) (by omega)
    rw [cnt, cnt, cnt, cnt_or r (i + 1) (fun j a b => h j (by omega) (by omega))]
    cases h2 : P i <;> cases h3 : Q i <;> rw [h2, h3] at h1 <;> first | exact absurd h1 (by decide) | (simp only [Bool.or_false, Bool.or_true, Bool.false_or, if_true, Bool.false_eq_true, if_false]; omega)
/-- from f to t -/
theorem cnt_rng {f t : Nat} (hf : f ≤ t) (ht : t < 100) : cnt (fun j => inB j f t && Q j) 0 100 = cnt Q f (t - f + 1) := by
  rw [show 100 = f + ((t - f + 1) + (99 - t)) by omega, cnt_app, cnt_app, cnt_zero f 0 (fun j a b => ?_), cnt_zero (99 - t) _ (fun j a b => ?_), Nat.zero_add, Nat.add_zero, Nat.zero_add]
  · exact cnt_congr _ _ (fun j a b => by show (inB j f t && Q j) = Q j; rw [inB_iff.mpr ⟨a, by omega⟩, Bool.true_and])
  · show (inB j f t && Q j) = false
    rw [bool_no (B := inB j f t) (fun h => by have := inB_iff.mp h; omega), Bool.false_and]
  · show (inB j f t && Q j) = false
    rw [bool_no (B := inB j f t) (fun h => by have := inB_iff.mp h; omega), Bool.false_and]
theorem cnt_up {f t : Nat} (hf : f ≤ t) (ht : t < 100) : cnt (fun j => decide (j ≤ t) && Q j) f (100 - f) = cnt Q f (t - f + 1) := by
  rw [show 100 - f = (t - f + 1) + (99 - t) by omega, cnt_app, cnt_zero (99 - t) _ (fun j a b => ?_), Nat.add_zero]
  · exact cnt_congr _ _ (fun j a b => by show (decide (j ≤ t) && Q j) = Q j; rw [decide_eq_true (show j ≤ t by omega), Bool.true_and])
  · show (decide (j ≤ t) && Q j) = false
    rw [decide_eq_false (show ¬ j ≤ t by omega), Bool.false_and]
end CN9
theorem nI_sub' {a b : Nat} (h : b ≤ a) : nI a - nI b = nI (a - b) := by
  rw [show nI a = nI (a - b) + nI b by rw [nI_add, Nat.sub_add_cancel h], Int32.add_sub_cancel]
section CT9
variable {σ : Sto} {N : Nat → Int32} {v T lb c j : Nat} {g x y wv : Int32}
def stB (N : Nat → Int32) (w : Int32) (j : Nat) : Bool := decide (w < 0) || decide (N (231 + j) = w)
theorem cuL_cnt : ∀ r i k, cuL N g wv i r (nI k) = nI (k + cnt (fun j => decide (gr N (nI j) = g) && stB N wv j) i r)
  | 0, i, k => by rw [cnt_0, Nat.add_zero]; rfl
  | r + 1, i, k => by
    unfold cuL
    rw [cnt, nI_1, cuL_cnt r (i + 1) (k + 1), cuL_cnt r (i + 1) k]
    unfold stB
    by_cases h1 : gr N (nI i) = g
    · rw [if_pos h1, decide_eq_true h1, Bool.true_and]
      by_cases h2 : wv < 0
      · rw [if_pos h2, decide_eq_true h2, Bool.true_or, if_pos rfl, Nat.add_assoc]
      · rw [if_neg h2, decide_eq_false h2, Bool.false_or]
        by_cases h3 : N (231 + i) = wv
        · rw [if_pos h3, decide_eq_true h3, if_pos rfl, Nat.add_assoc]
        · rw [if_neg h3, decide_eq_false h3, if_neg (by decide), Nat.zero_add]
    · rw [if_neg h1, decide_eq_false h1, Bool.false_and, if_neg (by decide), Nat.zero_add]
theorem cntL_cnt (h : R1 σ N v) {t : Nat} (ht : t < 100) : ∀ r i k, i + r ≤ 100 → cntL σ (nI t) wv i r (nI k) = nI (k + cnt (fun j => decide (j ≤ t) && decide (N (231 + j) = wv)) i r)
  | 0, i, k, _ => by rw [cnt_0, Nat.add_zero]; rfl
  | r + 1, i, k, hi => by
    unfold cntL
    by_cases q : t < i
    · rw [if_pos (nI_lt q (by omega)), cnt_zero (r + 1) i (fun j a b => by
        show (decide (j ≤ t) && decide (N (231 + j) = wv)) = false
        rw [decide_eq_false (show ¬ j ≤ t by omega), Bool.false_and]), Nat.add_zero]
    · rw [if_neg (nI_nlt (by omega) (by omega)), cnt, nI_1, cntL_cnt h ht r (i + 1) (k + 1) (by omega), cntL_cnt h ht r (i + 1) k (by omega), h.c7 (by omega), decide_eq_true (show i ≤ t by omega), Bool.true_and]
      by_cases h3 : N (231 + i) = wv
      · rw [if_pos h3, decide_eq_true h3, if_pos rfl, Nat.add_assoc]
      · rw [if_neg h3, decide_eq_false h3, if_neg (by decide), Nat.zero_add]
theorem cntIn_n (h : R1 σ N v) {f t : Nat} (hf : f ≤ t) (ht : t < 100) : cntIn σ (nI f) (nI t) wv = nI (cnt (fun j => decide (N (231 + j) = wv)) f (t - f + 1)) := by
  unfold cntIn
  rw [ixn (by omega), ← cnt_up hf ht]
  have := cntL_cnt (wv := wv) h ht (100 - f) f 0 (by omega)
  rw [Nat.zero_add] at this
  exact this
theorem mem_dis (hp : PO N v) {i : Nat} (hi : i < v) : ∀ p, p ≤ i → (mem N g p j && inQ N i j) = false
  | 0, _ => rfl
  | p + 1, hpv => by
    unfold mem
    cases h1 : inQ N i j
    · rw [Bool.and_false]
    · have h2 : inQ N p j = false := bool_no fun h3 => by have := hp.one (by omega) hi h3 h1; omega
      have h4 := mem_dis hp hi p (by omega)
      rw [h1] at h4
      rw [h2, Bool.and_false, Bool.or_false]
      exact h4
/-- one more pool -/
theorem mem_cnt (hp : PO N v) {i : Nat} (hi : i < v) (S : Nat → Bool) : cnt (fun j => mem N g (i + 1) j && S j) 0 100 = cnt (fun j => mem N g i j && S j) 0 100 + (if N (5 + 4 * i) = g then cnt S (pf N i) (pt N i - pf N i + 1) else 0) := by
  obtain ⟨-, -, -, -, e3, e4, -⟩ := hp.2.2.1 i hi
  by_cases q : N (5 + 4 * i) = g
  · rw [if_pos q, ← cnt_rng e3 e4, ← cnt_or 100 0 (fun j a b => ?_)]
    · refine cnt_congr 100 0 (fun j a b => ?_)
      show ((mem N g i j || (decide (N (5 + 4 * i) = g) && inQ N i j)) && S j) = _
      rw [decide_eq_true q, Bool.true_and, Bool.and_or_distrib_right]
      rfl
    · have := mem_dis (g := g) (j := j) hp hi i (Nat.le_refl i)
      unfold inQ at this
      show ((mem N g i j && S j) && (inB j (pf N i) (pt N i) && S j)) = false
      cases h1 : mem N g i j
      · rfl
      · rw [h1, Bool.true_and] at this
        rw [this, Bool.false_and, Bool.and_false]
  · rw [if_neg q, Nat.add_zero]
    refine cnt_congr 100 0 (fun j a b => ?_)
    show ((mem N g i j || (decide (N (5 + 4 * i) = g) && inQ N i j)) && S j) = _
    rw [decide_eq_false q, Bool.false_and, Bool.or_false]
theorem gcL_cnt (h : R1 σ N v) (hp : PO N v) : ∀ r i, i + r = 5 → i ≤ v → gcL σ g wv i r (nI (cnt (fun j => mem N g i j && decide (N (231 + j) = wv)) 0 100)) = nI (cnt (fun j => mem N g v j && decide (N (231 + j) = wv)) 0 100)
  | 0, i, hi, hv => by
    have := hp.1
    obtain rfl : i = v := by omega
    rfl
  | r + 1, i, hi, hv => by
    unfold gcL
    rw [h.c0]
    by_cases h1 : N 4 ≤ nI i
    · rw [if_pos h1]
      have : ¬ i < v := fun q => hp.nle q h1
      obtain rfl : i = v := by omega
      rfl
    · have hiv := hp.lt (by omega) h1
      obtain ⟨-, -, e1, e2, e3, e4, -⟩ := hp.2.2.1 i hiv
      have ih := gcL_cnt h hp r (i + 1) (by omega) hiv
      rw [mem_cnt hp hiv (fun j => decide (N (231 + j) = wv))] at ih
      rw [if_neg h1, h.c1 hiv]
      by_cases h2 : N (5 + 4 * i) = g
      · rw [if_pos h2] at ih ⊢
        rw [h.c2 hiv, h.c3 hiv, e1, e2, cntIn_n h e3 e4, nI_add]
        exact ih
      · rw [if_neg h2] at ih ⊢
        rw [Nat.add_zero] at ih
        exact ih
theorem caL_cnt (h : R1 σ N v) (hp : PO N v) : ∀ r i, i + r = 5 → i ≤ v → caL σ g i r (nI (cnt (fun j => mem N g i j && true) 0 100)) = nI (cnt (fun j => mem N g v j && true) 0 100)
  | 0, i, hi, hv => by
    have := hp.1
    obtain rfl : i = v := by omega
    rfl
  | r + 1, i, hi, hv => by
    unfold caL
    rw [h.c0]
    by_cases h1 : N 4 ≤ nI i
    · rw [if_pos h1]
      have : ¬ i < v := fun q => hp.nle q h1
      obtain rfl : i = v := by omega
      rfl
    · have hiv := hp.lt (by omega) h1
      obtain ⟨-, -, e1, e2, e3, e4, -⟩ := hp.2.2.1 i hiv
      have ih := caL_cnt h hp r (i + 1) (by omega) hiv
      rw [mem_cnt hp hiv (fun _ => true), cnt_all _ _ (fun _ _ _ => rfl)] at ih
      rw [if_neg h1, h.c1 hiv]
      by_cases h2 : N (5 + 4 * i) = g
      · rw [if_pos h2] at ih ⊢
        rw [h.c2 hiv, h.c3 hiv, e1, e2, nI_sub' e3, nI_1, nI_add]
        exact ih
      · rw [if_neg h2] at ih ⊢
        rw [Nat.add_zero] at ih
        exact ih
theorem cnt_m0 {S : Nat → Bool} : cnt (fun j => mem N g 0 j && S j) 0 100 = 0 := cnt_zero 100 0 (fun _ _ _ => rfl)
theorem gc_eq (h : R1 σ N v) (hp : PO N v) (hg : ¬ g = -1) (hw : ¬ wv < 0) : gcL σ g wv 0 5 0 = cuM N g wv := by
  have k1 := gcL_cnt (g := g) (wv := wv) h hp 5 0 rfl (Nat.zero_le v)
  rw [cnt_m0] at k1
  have k2 := cuL_cnt (N := N) (g := g) (wv := wv) 100 0 0
  rw [Nat.zero_add] at k2
  refine k1.trans (Eq.trans ?_ k2.symm)
  rw [cnt_congr 100 0 (fun j a b => ?_)]
  show (mem N g v j && decide (N (231 + j) = wv)) = (decide (gr N (nI j) = g) && stB N wv j)
  rw [mem_gr hp (by omega) hg, stB, decide_eq_false hw, Bool.false_or]
theorem ca_eq (h : R1 σ N v) (hp : PO N v) (hg : ¬ g = -1) : caL σ g 0 5 0 = cuM N g (-1) := by
  have k1 := caL_cnt (g := g) h hp 5 0 rfl (Nat.zero_le v)
  rw [cnt_m0] at k1
  have k2 := cuL_cnt (N := N) (g := g) (wv := -1) 100 0 0
  rw [Nat.zero_add] at k2
  refine k1.trans (Eq.trans ?_ k2.symm)
  rw [cnt_congr 100 0 (fun j a b => ?_)]
  show (mem N g v j && true) = (decide (gr N (nI j) = g) && stB N (-1) j)
  rw [mem_gr hp (by omega) hg, stB, decide_eq_true (show (-1 : Int32) < 0 by decide), Bool.true_or]
theorem bd_n (h : R1 σ N v) (hc : c < 20) : isBd σ (nI c) = bdM N c := by
  unfold isBd bdM
  rw [inC_n hc, ixn (by omega), h.c11 hc, Bool.true_and, decide_eq_decide.mpr (show N (631 + c) < 2 ↔ N (631 + c) ≤ 1 from ?_)]
  rw [Int32.lt_iff_toInt_lt, Int32.le_iff_toInt_le, show (2 : Int32).toInt = 2 from by decide, show (1 : Int32).toInt = 1 from by decide]
  omega
theorem bdL_eq (h : R1 σ N v) : ∀ r i z, i + r = 20 → bdL σ i r z = boL N i r z
  | 0, _, _, _ => rfl
  | r + 1, i, z, hi => by
    unfold bdL boL
    rw [bd_n h (by omega), bdL_eq h r (i + 1) _ (by omega), bdL_eq h r (i + 1) _ (by omega)]
    cases bdM N i <;> rfl
theorem bd_eq (h : R1 σ N v) : bdC σ = boM N := bdL_eq h 20 0 0 rfl
theorem bdM_ne (hb : bdM N c = true) : ¬ N (631 + c) = 0 ∧ ¬ N (631 + c) = 1 := by
  unfold bdM at hb
  refine ⟨fun q => ?_, fun q => ?_⟩ <;> rw [q] at hb <;> exact absurd hb (by decide)
theorem lEnd_n (h : RR σ N v) (hI : IV N v T lb) (hc : c < 20) (h0 : ¬ N (631 + c) = 0) : lEnd σ (nI c) = N (431 + ix (N (651 + c))) := by
  obtain ⟨j, hj, ha, -⟩ := hI.adr hc h0
  unfold lEnd
  rw [aOf_eq h hc h0 ha, inA_n hj, cond_true, ixn (by omega), h.r1.c9 hj, ha, ixn (by omega)]
theorem srL_eq (h : RR σ N v) (hI : IV N v T lb) (h16 : σ 16 0 = nI T) : ∀ r i z, i + r = 20 → srL σ i r z = arL N i r z
  | 0, _, _, _ => rfl
  | r + 1, i, z, hi => by
    unfold srL arL
    rw [bd_n h.r1 (by omega)]
    cases hb : bdM N i
    · rw [if_neg (by decide), cond_false, srL_eq h hI h16 r (i + 1) _ (by omega)]
    · rw [if_pos rfl, cond_true, srL_eq h hI h16 r (i + 1) _ (by omega), lEnd_n h hI (by omega) (bdM_ne hb).1, h16, hI.tm]
/-- the free ones of a pool -/
theorem offL_eq (h : RR σ N v) (hp : PO N v) {p : Nat} (hpv : p < v) : ∀ r i z, pf N p ≤ i → i + r ≤ 100 → offL σ (nI (pt N p)) i r z = plL N (nI (pt N p)) (N (5 + 4 * p)) i r z
  | 0, _, _, _, _ => rfl
  | r + 1, i, z, h1, h2 => by
    have hv := hp.1
    obtain ⟨-, -, -, -, e3, e4, -⟩ := hp.2.2.1 p hpv
    unfold offL plL
    by_cases q : pt N p < i
    · rw [if_pos (nI_lt q (by omega)), if_pos (nI_lt q (by omega))]
    · rw [if_neg (nI_nlt (by omega) (by omega)), if_neg (nI_nlt (by omega) (by omega)), isOff_n h (by omega), cdt_off, gr_of (ow_in hp (by omega) hpv (inB_iff.mpr ⟨h1, by omega⟩)) (by omega) rfl, decide_eq_true rfl, Bool.true_and, offL_eq h hp hpv r (i + 1) _ (by omega) (by omega), offL_eq h hp hpv r (i + 1) _ (by omega) (by omega)]
      cases offB N i <;> rfl
/-- are all free -/
theorem rnL_all {t : Nat} (ht : t < 100) : ∀ r i, i + r = 100 → (rnL N (nI t) i r = false ↔ ∀ j, i ≤ j → j ≤ t → N (231 + j) = 0)
  | 0, i, hi => ⟨fun _ j a b => by omega, fun _ => rfl⟩
  | r + 1, i, hi => by
    by_cases q : t < i
    · rw [rnL_n (nI_lt q (by omega))]
      exact ⟨fun _ j a b => by omega, fun _ => rfl⟩
    · by_cases h0 : N (231 + i) = 0
      · rw [rnL_s (nI_nlt (by omega) (by omega)) h0, rnL_all ht r (i + 1) (by omega)]
        refine ⟨fun h j a b => ?_, fun h j a b => h j (by omega) b⟩
        by_cases e : j = i
        · subst e; exact h0
        · exact h j (by omega) b
      · rw [rnL_t (nI_nlt (by omega) (by omega)) h0]
        exact ⟨fun q2 => absurd q2 (by decide), fun h => absurd (h i (Nat.le_refl i) (by omega)) h0⟩
theorem allF_eq (h : RR σ N v) (hp : PO N v) {p : Nat} (hpv : p < v) : allF σ (nI p) = !rnL N (nI (pt N p)) (pf N p) (100 - pf N p) := by
  have hv := hp.1
  obtain ⟨-, -, e1, e2, e3, e4, -⟩ := hp.2.2.1 p hpv
  unfold allF
  rw [ixn (by omega), h.r1.c2 hpv, h.r1.c3 hpv, e1, e2, cntIn_n h.r1 e3 e4, nI_sub' e3, nI_1]
  cases hr : rnL N (nI (pt N p)) (pf N p) (100 - pf N p)
  · have ha := (rnL_all e4 (100 - pf N p) (pf N p) (by omega)).mp hr
    rw [cnt_all _ _ (fun j a b => decide_eq_true (ha j a (by omega))), decide_eq_true rfl]
    rfl
  · refine decide_eq_false (fun q => ?_)
    have hle := cnt_le (P := fun j => decide (N (231 + j) = 0)) (pt N p - pf N p + 1) (pf N p)
    have hf := cnt_full _ _ (nI_inj (by omega) (by omega) q)
    have := (rnL_all e4 (100 - pf N p) (pf N p) (by omega)).mpr (fun j a b => of_decide_eq_true (hf j a (by omega)))
    rw [this] at hr
    exact absurd hr (by decide)
end CT9
