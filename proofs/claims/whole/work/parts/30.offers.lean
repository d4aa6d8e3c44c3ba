section CA9
variable {σ : Sto} {N f : Nat → Int32} {n : Int32} {v T lb c j : Nat} {g x : Int32}
def offB (N : Nat → Int32) (j : Nat) : Bool := decide (N (231 + j) = 0) && decide (N (31 + j) = 0)
theorem isOff_n (h : RR σ N v) (hj : j < 100) : isOff σ (nI j) = offB N j := by
  unfold isOff offB
  rw [inA_n hj, ixn (by omega), h.r1.c7 hj, h.r1.c5 hj, Bool.true_and]
theorem cdt_off : cdt N j g = (decide (gr N (nI j) = g) && offB N j) := by
  unfold cdt offB
  rw [Bool.and_assoc]
theorem isCd_n (h : RR σ N v) (hp : PO N v) (hj : j < 100) : isCd σ (nI j) g = cdt N j g := by
  rw [cdt_off, isCd, isOff_n h hj, grpAt_eq h.r1 hp, Bool.and_comm]
theorem isCd_x (h : RR σ N v) (hp : PO N v) : isCd σ x g = (inR x 0 99 && cdt N (ix x) g) := by
  cases h1 : inR x 0 99
  · unfold isCd isOff
    rw [inA_R, h1]
    rfl
  · obtain ⟨j, hj, rfl⟩ := inR_99 h1
    rw [isCd_n h hp hj, ixn (by omega)]
    rfl
def ltF (N : Nat → Int32) (j k : Nat) : Prop := N (531 + j) < N (531 + k) ∨ (N (531 + j) = N (531 + k) ∧ j < k)
theorem ltF.tr {i j k : Nat} (h1 : ltF N i j) (h2 : ltF N j k) : ltF N i k := by
  rcases h1 with a | ⟨a, b⟩ <;> rcases h2 with d | ⟨d, e⟩
  · exact Or.inl (Int32.lt_trans a d)
  · exact Or.inl (d ▸ a)
  · exact Or.inl (a ▸ d)
  · exact Or.inr ⟨a.trans d, by omega⟩
theorem ltF.ir : ¬ ltF N j j := fun h => by
  rcases h with a | ⟨-, a⟩
  · exact Int32.lt_irrefl a
  · omega
/-- z is the best of S, or none -/
def Bst (N : Nat → Int32) (S : Nat → Bool) (z : Int32) : Prop := (z = -1 ∧ ∀ j, j < 100 → S j = false) ∨ ∃ j, j < 100 ∧ z = nI j ∧ S j = true ∧ ∀ k, k < 100 → S k = true → ¬ ltF N k j
theorem Bst.uniq {S : Nat → Bool} {z z' : Int32} (h : Bst N S z) (h' : Bst N S z') : z = z' := by
  rcases h with ⟨a, b⟩ | ⟨j, hj, a, b, d⟩ <;> rcases h' with ⟨a', b'⟩ | ⟨j', hj', a', b', d'⟩
  · rw [a, a']
  · rw [b j' hj'] at b'; exact absurd b' (by decide)
  · rw [b' j hj] at b; exact absurd b (by decide)
  · have h1 := d j' hj' b'
    have h2 := d' j hj b
    have e : N (531 + j) = N (531 + j') := Int32.le_antisymm (Int32.not_lt.mp (fun q => h1 (Or.inl q))) (Int32.not_lt.mp (fun q => h2 (Or.inl q)))
    have : j = j' := by
      rcases Nat.lt_trichotomy j j' with q | q | q
      · exact absurd (Or.inr ⟨e, q⟩) h2
      · exact q
      · exact absurd (Or.inr ⟨e.symm, q⟩) h1
    rw [a, a', this]
theorem Bst.congr {S S' : Nat → Bool} {z : Int32} (h : Bst N S z) (he : ∀ j, j < 100 → S' j = S j) : Bst N S' z := by
  rcases h with ⟨a, b⟩ | ⟨j, hj, a, b, d⟩
  · exact Or.inl ⟨a, fun j hj => (he j hj).trans (b j hj)⟩
  · exact Or.inr ⟨j, hj, a, (he j hj).trans b, fun k hk hs => d k hk ((he k hk).symm.trans hs)⟩
theorem Bst.add0 {S S' : Nat → Bool} {i : Nat} (h : Bst N S (-1)) (hi : i < 100) (hS : ∀ k, k < 100 → S' k = (S k || decide (k = i))) : Bst N S' (nI i) := by
  rcases h with ⟨-, b⟩ | ⟨j, hj, a, -⟩
  · refine Or.inr ⟨i, hi, rfl, by rw [hS i hi, decide_eq_true rfl, Bool.or_true], fun k hk hs q => ?_⟩
    rw [hS k hk, b k hk, Bool.false_or] at hs
    obtain rfl := of_decide_eq_true hs
    exact ltF.ir q
  · exact absurd a.symm (nI_m1 (by omega))
theorem Bst.add1 {S S' : Nat → Bool} {i j : Nat} (h : Bst N S (nI j)) (hj : j < 100) (hi : i < 100) (hS : ∀ k, k < 100 → S' k = (S k || decide (k = i))) (hl : ltF N i j) : Bst N S' (nI i) := by
  rcases h with ⟨a, -⟩ | ⟨j', hj', a, b, d⟩
  · exact absurd a (nI_m1 (by omega))
  · obtain rfl : j = j' := nI_inj (by omega) (by omega) a
    refine Or.inr ⟨i, hi, rfl, by rw [hS i hi, decide_eq_true rfl, Bool.or_true], fun k hk hs q => ?_⟩
    rw [hS k hk, Bool.or_eq_true] at hs
    rcases hs with hs | hs
    · exact d k hk hs (q.tr hl)
    · obtain rfl := of_decide_eq_true hs
      exact ltF.ir q
theorem Bst.add2 {S S' : Nat → Bool} {i j : Nat} (h : Bst N S (nI j)) (hj : j < 100) (hS : ∀ k, k < 100 → S' k = (S k || decide (k = i))) (hl : ¬ ltF N i j) : Bst N S' (nI j) := by
  rcases h with ⟨a, -⟩ | ⟨j', hj', a, b, d⟩
  · exact absurd a (nI_m1 (by omega))
  · obtain rfl : j = j' := nI_inj (by omega) (by omega) a
    refine Or.inr ⟨j, hj, rfl, by rw [hS j hj, b, Bool.true_or], fun k hk hs q => ?_⟩
    rw [hS k hk, Bool.or_eq_true] at hs
    rcases hs with hs | hs
    · exact d k hk hs q
    · obtain rfl := of_decide_eq_true hs
      exact hl q
theorem Bst.mem {S : Nat → Bool} (h : Bst N S (nI j)) (hj : j < 2 ^ 31) : j < 100 ∧ S j = true := by
  rcases h with ⟨a, -⟩ | ⟨j', hj', a, b, -⟩
  · exact absurd a (nI_m1 hj)
  · obtain rfl : j = j' := nI_inj hj (by omega) a
    exact ⟨hj', b⟩
theorem lt_S {i : Nat} {P : Nat → Bool} (hP : P i = true) : ∀ k, k < 100 → (decide (k < i + 1) && P k) = ((decide (k < i) && P k) || decide (k = i)) := fun k _ => by
  by_cases q : k = i
  · subst q
    rw [hP, decide_eq_true (Nat.lt_succ_self k), decide_eq_true rfl, Bool.or_true]; rfl
  · rw [decide_eq_false q, Bool.or_false, decide_eq_decide.mpr (show k < i + 1 ↔ k < i by omega)]
theorem lt_N {i : Nat} {P : Nat → Bool} (hP : P i = false) : ∀ k, k < 100 → (decide (k < i + 1) && P k) = (decide (k < i) && P k) := fun k _ => by
  by_cases q : k = i
  · subst q
    rw [hP, Bool.and_false, Bool.and_false]
  · rw [decide_eq_decide.mpr (show k < i + 1 ↔ k < i by omega)]
theorem beL_b : ∀ r i z, i + r = 100 → Bst N (fun j => decide (j < i) && cdt N j g) z → Bst N (fun j => cdt N j g) (beL N g i r z)
  | 0, i, z, hi, h => by
    refine h.congr (fun j hj => ?_)
    show cdt N j g = (decide (j < i) && cdt N j g)
    rw [decide_eq_true (show j < i by omega), Bool.true_and]
  | r + 1, i, z, hi, h => by
    unfold beL
    cases hc : cdt N i g
    · rw [cond_false]
      exact beL_b r (i + 1) z (by omega) (h.congr (lt_N (P := fun j => cdt N j g) hc))
    · rw [cond_true]
      have hS := lt_S (P := fun j => cdt N j g) hc
      rcases id h with ⟨rfl, -⟩ | ⟨j, hj, rfl, hb, -⟩
      · rw [if_pos (show (-1 : Int32) < 0 by decide)]
        exact beL_b r (i + 1) _ (by omega) (h.add0 (by omega) hS)
      · have hb : (decide (j < i) && cdt N j g) = true := hb
        rw [Bool.and_eq_true] at hb
        have hji := of_decide_eq_true hb.1
        rw [if_neg (nI_pos (by omega)), ixn (by omega)]
        by_cases q : N (531 + j) ≤ N (531 + i)
        · rw [if_pos q]
          refine beL_b r (i + 1) _ (by omega) (h.add2 hj hS (fun z => ?_))
          rcases z with z | ⟨-, z⟩
          · exact absurd q (Int32.not_le.mpr z)
          · omega
        · rw [if_neg q]
          exact beL_b r (i + 1) _ (by omega) (h.add1 hj (by omega) hS (Or.inl (Int32.not_le.mp q)))
/-- in one of the first p pools, that are of the group -/
def mem (N : Nat → Int32) (g : Int32) : Nat → Nat → Bool
  | 0, _ => false
  | p + 1, j => mem N g p j || (decide (N (5 + 4 * p) = g) && inQ N p j)
theorem mem_ip (hp : PO N v) (hj : j < 100) : ∀ p, p ≤ v → mem N g p j = true → iP N j
  | 0, _, h => absurd (show false = true from h) (by decide)
  | p + 1, hpv, h => by
    unfold mem at h
    rw [Bool.or_eq_true, Bool.and_eq_true] at h
    rcases h with h | ⟨-, h⟩
    · exact mem_ip hp hj p (by omega) h
    · exact iP_in hp (by omega) (by omega) h
theorem mem_no (hp : PO N v) (hn : ∀ p, p < v → inQ N p j = false) : ∀ p, p ≤ v → mem N g p j = false
  | 0, _ => rfl
  | p + 1, hpv => by
    unfold mem
    rw [mem_no hp hn p (by omega), hn p (by omega), Bool.and_false, Bool.or_false]
theorem mem_at (hp : PO N v) {q : Nat} (hq : q < v) (hin : inQ N q j = true) : ∀ p, p ≤ v → mem N g p j = (decide (q < p) && decide (N (5 + 4 * q) = g))
  | 0, _ => by rw [decide_eq_false (Nat.not_lt_zero q)]; rfl
  | p + 1, hpv => by
    unfold mem
    rw [mem_at hp hq hin p (by omega)]
    by_cases e : p = q
    · subst e
      rw [hin, decide_eq_false (Nat.lt_irrefl p), decide_eq_true (Nat.lt_succ_self p), Bool.and_true]
      rfl
    · have : inQ N p j = false := bool_no fun h2 => e (hp.one (by omega) hq h2 hin)
      rw [this, Bool.and_false, Bool.or_false, decide_eq_decide.mpr (show q < p ↔ q < p + 1 by omega)]
theorem mem_gr (hp : PO N v) (hj : j < 100) (hg : ¬ g = -1) : mem N g v j = decide (gr N (nI j) = g) := by
  have hv := hp.1
  rcases ow_get hp (j := j) (by omega) with ⟨a, b⟩ | ⟨q, hq, hin, a⟩
  · rw [mem_no hp b v (Nat.le_refl v), gr_no a, decide_eq_false (fun z => hg z.symm)]
  · rw [mem_at hp hq hin v (Nat.le_refl v), decide_eq_true hq, Bool.true_and, gr_of a (by omega) rfl]
theorem isFL_n (h : RR σ N v) {i : Nat} (hi : i < 100) (hj : j < 100) (pi : iP N i) (pj : iP N j) : isFL σ (nI i) (nI j) = true ↔ ltF N i j := by
  unfold isFL ltF
  rw [inA_n hi, inA_n hj, ixn (by omega), ixn (by omega), h.r10 i hi pi, h.r10 j hj pj, Bool.true_and, Bool.true_and, Bool.or_eq_true, Bool.and_eq_true, decide_eq_true_iff, decide_eq_true_iff, ← decide_not, decide_eq_true_iff, nI_leI (by omega) (by omega), Nat.not_le]
theorem lfL_b (h : RR σ N v) {fp tp : Nat} (ht : tp < 100) {S0 : Nat → Bool} (hS0 : ∀ j, j < 100 → S0 j = true → iP N j) (hip : ∀ j, fp ≤ j → j ≤ tp → iP N j) : ∀ r i z, r = 100 - i → fp ≤ i → i ≤ tp + 1 → Bst N (fun j => S0 j || (decide (j < i) && (decide (fp ≤ j) && offB N j))) z → Bst N (fun j => S0 j || (inB j fp tp && offB N j)) (lfL σ (nI tp) i r z) := by
  have fin : ∀ i z, i = tp + 1 → Bst N (fun j => S0 j || (decide (j < i) && (decide (fp ≤ j) && offB N j))) z → Bst N (fun j => S0 j || (inB j fp tp && offB N j)) z := fun i z hi hb => by
    subst hi
    refine hb.congr (fun j hj => ?_)
    show (S0 j || (inB j fp tp && offB N j)) = (S0 j || (decide (j < tp + 1) && (decide (fp ≤ j) && offB N j)))
    unfold inB
    rw [← Bool.and_assoc, Bool.and_comm (decide (fp ≤ j)), decide_eq_decide.mpr (show j ≤ tp ↔ j < tp + 1 by omega)]
  intro r
  induction r with
  | zero =>
    intro i z hr h1 h2 hb
    exact fin i z (by omega) hb
  | succ r ih =>
    intro i z hr h1 h2 hb
    unfold lfL
    by_cases q : i = tp + 1
    · rw [if_pos (nI_lt (by omega) (by omega))]
      exact fin i z q hb
    · rw [if_neg (nI_nlt (by omega) (by omega)), isOff_n h (by omega)]
      by_cases ho : offB N i = true
      · rw [if_pos ho]
        have hS : ∀ k, k < 100 → (S0 k || (decide (k < i + 1) && (decide (fp ≤ k) && offB N k))) = ((S0 k || (decide (k < i) && (decide (fp ≤ k) && offB N k))) || decide (k = i)) := fun k hk => by
          rw [lt_S (P := fun k => decide (fp ≤ k) && offB N k) (by show (decide (fp ≤ i) && offB N i) = true; rw [decide_eq_true h1, ho]; rfl) k hk, Bool.or_assoc]
        rcases id hb with ⟨rfl, -⟩ | ⟨j, hj, rfl, hm, -⟩
        · rw [if_pos rfl]
          exact ih (i + 1) _ (by omega) (by omega) (by omega) (hb.add0 (by omega) hS)
        · rw [if_neg (nI_m1 (by omega))]
          have pj : iP N j := by
            have hm : (S0 j || (decide (j < i) && (decide (fp ≤ j) && offB N j))) = true := hm
            rw [Bool.or_eq_true, Bool.and_eq_true, Bool.and_eq_true, decide_eq_true_iff, decide_eq_true_iff] at hm
            rcases hm with hm | ⟨a, b, -⟩
            · exact hS0 j hj hm
            · exact hip j b (by omega)
          by_cases hf : isFL σ (nI i) (nI j) = true
          · rw [if_pos hf]
            exact ih (i + 1) _ (by omega) (by omega) (by omega) (hb.add1 hj (by omega) hS ((isFL_n h (by omega) hj (hip i h1 (by omega)) pj).mp hf))
          · rw [if_neg hf]
            exact ih (i + 1) _ (by omega) (by omega) (by omega) (hb.add2 hj hS (fun z => hf ((isFL_n h (by omega) hj (hip i h1 (by omega)) pj).mpr z)))
      · rw [if_neg ho]
        have ho : offB N i = false := bool_no ho
        refine ih (i + 1) _ (by omega) (by omega) (by omega) (hb.congr (fun k hk => ?_))
        show (S0 k || (decide (k < i + 1) && (decide (fp ≤ k) && offB N k))) = (S0 k || (decide (k < i) && (decide (fp ≤ k) && offB N k)))
        rw [lt_N (P := fun k => decide (fp ≤ k) && offB N k) (by show (decide (fp ≤ i) && offB N i) = false; rw [ho, Bool.and_false]) k hk]
theorem lgL_b (h : RR σ N v) (hp : PO N v) : ∀ r i z, i + r = 5 → i ≤ v → Bst N (fun j => mem N g i j && offB N j) z → Bst N (fun j => mem N g v j && offB N j) (lgL σ g i r z)
  | 0, i, z, hi, hv, hb => by
    have := hp.1
    obtain rfl : i = v := by omega
    exact hb
  | r + 1, i, z, hi, hv, hb => by
    unfold lgL
    rw [h.r1.c0]
    by_cases h1 : N 4 ≤ nI i
    · rw [if_pos h1]
      have : ¬ i < v := fun q => hp.nle q h1
      obtain rfl : i = v := by omega
      exact hb
    · have hiv := hp.lt (by omega) h1
      rw [if_neg h1, h.r1.c1 hiv]
      obtain ⟨-, -, e1, e2, e3, e4, -⟩ := hp.2.2.1 i hiv
      by_cases h2 : N (5 + 4 * i) = g
      · rw [if_pos h2]
        refine lgL_b h hp r (i + 1) _ (by omega) hiv ?_
        unfold lfIn
        rw [h.r1.c2 hiv, h.r1.c3 hiv, e1, e2, ixn (by omega)]
        refine (lfL_b h e4 (S0 := fun j => mem N g i j && offB N j) (fun j hj hm => ?_) (fun j a b => iP_in hp (by omega) hiv (inB_iff.mpr ⟨a, b⟩)) (100 - pf N i) (pf N i) z rfl (Nat.le_refl _) (by omega) (hb.congr (fun j hj => ?_))).congr (fun j hj => ?_)
        · have hm : (mem N g i j && offB N j) = true := hm
          rw [Bool.and_eq_true] at hm
          exact mem_ip hp hj i (by omega) hm.1
        · show ((mem N g i j && offB N j) || (decide (j < pf N i) && (decide (pf N i ≤ j) && offB N j))) = (mem N g i j && offB N j)
          by_cases q : j < pf N i
          · rw [decide_eq_false (show ¬ pf N i ≤ j by omega), Bool.false_and, Bool.and_false, Bool.or_false]
          · rw [decide_eq_false q, Bool.false_and, Bool.or_false]
        · show ((mem N g i j || (decide (N (5 + 4 * i) = g) && inQ N i j)) && offB N j) = ((mem N g i j && offB N j) || (inB j (pf N i) (pt N i) && offB N j))
          rw [decide_eq_true h2, Bool.true_and, Bool.and_or_distrib_right]
          rfl
      · rw [if_neg h2]
        refine lgL_b h hp r (i + 1) _ (by omega) hiv (hb.congr (fun j hj => ?_))
        show ((mem N g i j || (decide (N (5 + 4 * i) = g) && inQ N i j)) && offB N j) = (mem N g i j && offB N j)
        rw [decide_eq_false h2, Bool.false_and, Bool.or_false]
theorem lgL_eq (h : RR σ N v) (hp : PO N v) (hg : ¬ g = -1) : lgL σ g 0 5 (-1) = beL N g 0 100 (-1) := by
  have k1 := lgL_b (g := g) h hp 5 0 (-1) rfl (Nat.zero_le v) (Or.inl ⟨rfl, fun j hj => rfl⟩)
  have k2 : Bst N (fun j => cdt N j g) (beL N g 0 100 (-1)) := beL_b 100 0 (-1) rfl (Or.inl ⟨rfl, fun j hj => by
    show (decide (j < 0) && cdt N j g) = false
    rw [decide_eq_false (Nat.not_lt_zero j)]; rfl⟩)
  refine k1.uniq (k2.congr (fun j hj => ?_))
  show (mem N g v j && offB N j) = cdt N j g
  rw [mem_gr hp hj hg, cdt_off]
theorem fCd_eq (h : RR σ N v) (hI : IV N v T lb) (hc : c < 20) (hg : ¬ g = -1) : fCd σ (nI c) g x = caM N c g x := by
  have hl : lstOf σ (nI c) = N (711 + c) - 1 := by
    unfold lstOf
    rw [inC_n hc, cond_true, ixn (by omega), h.r13 c hc]
  unfold fCd caM
  rw [hl, isCd_x h hI.po, isCd_x h hI.po, lgL_eq h hI.po hg]
  obtain ⟨y, hy, e⟩ := hI.re c hc
  rw [e]
  cases y with
  | zero => rfl
  | succ y =>
    rw [nI_pr, decide_eq_false (nI_pos (by omega)), show inR (nI y) 0 99 = true from by rw [show (99 : Int32) = nI 99 from rfl, show (0 : Int32) = nI 0 from rfl, inR_n (by omega) (by decide) (by decide)]; exact inB_iff.mpr ⟨by omega, by omega⟩]
    rfl
end CA9
section OF9
variable {σ : Sto} {N f : Nat → Int32} {n : Int32} {v T lb c j a : Nat} {g x : Int32}
theorem RZ.offer (h : RZ σ N f n v T lb) (hl : lb ≤ T + 1) (hc : c < 20) (ha : a < 100) (h0 : N (631 + c) = 0) (hf : N (231 + a) = 0) (hp : iP N a) : RZ (hFo σ (nI c) (nI a)) (d3N N c a) (lgM f n 1 (nI a)) (lgN n) v T lb ∧ SV (hFo σ (nI c) (nI a)) σ := by
  have hi : ∀ k, 16 ≤ k → offs (helds σ (nI a) 1 (nI c) (σ 16 0 + σ 17 0)) (nI c) (nI a) k = σ k := fun k hk => by rw [offs_hi hk, helds_hi hk]
  refine ⟨RZ.lgs ⟨?_, h.2.1.hi hi, h.2.2.1.of3 hl hc ha h0 hf hp, (congrFun (hi 16 (by omega)) 0).trans h.2.2.2⟩, SV.tr SV.lg (SV.hi hi)⟩
  have e : upd (upd N (231 + a) 1) (331 + a) (nI c) 0 + upd (upd N (231 + a) 1) (331 + a) (nI c) 1 = σ 16 0 + σ 17 0 := by
    rw [pk_un (by omega), pk_un (by omega), pk_un (by omega), pk_un (by omega), h.2.2.1.tm, h.2.2.2, h.1.r1.c17]
  unfold d3N
  rw [e]
  exact (RR.held (Or.inl rfl) h.1 ha).offs hc
theorem RZ.confl (h : RZ σ N f n v T lb) (hl : lb ≤ T + 1) (ha : a < 100) (hf : N (231 + a) = 0) (hp : iP N a) : RZ (fCf σ (nI a)) (dsN N a) (lgM f n 8 (nI a)) (lgN n) v T lb ∧ SV (fCf σ (nI a)) σ := by
  have hi : ∀ k, 16 ≤ k → k ≠ 19 → put (helds σ (nI a) 3 (-1) (σ 16 0 + σ 18 0)) 19 (sc (helds σ (nI a) 3 (-1) (σ 16 0 + σ 18 0) 19 0 + 1)) k = σ k := fun k hk h19 => by rw [put_n h19, helds_hi hk]
  refine ⟨RZ.lgs ⟨?_, h.2.1.ext (hi 44 (by omega) (by omega)) (hi 45 (by omega) (by omega)) (hi 46 (by omega) (by omega)), h.2.2.1.ds hl ha hf hp, (congrFun (hi 16 (by omega) (by omega)) 0).trans h.2.2.2⟩, SV.tr SV.lg (fun k hk => hi k (by omega) (by omega))⟩
  have e : upd N (231 + a) 3 0 + upd N (231 + a) 3 2 = σ 16 0 + σ 18 0 := by
    rw [pk_un (by omega), pk_un (by omega), h.2.2.1.tm, h.2.2.2, h.1.r1.c18]
  have k1 := h.1.decl (u := σ 16 0 + σ 18 0) ha
  have k2 := k1.conf (x := helds σ (nI a) 3 (-1) (σ 16 0 + σ 18 0) 19 0 + 1)
  rw [k1.r1.c19] at k2 ⊢
  unfold dsN mDe
  rw [e]
  exact k2
set_option maxRecDepth 100000 in
/-- what is offered, and what is left -/
theorem mk_sim (hc : c < 20) (hg : ¬ g = -1) : ∀ r (σ : Sto) (N f : Nat → Int32) (n : Int32), RZ σ N f n v T lb → lb ≤ T + 1 → N (631 + c) = 0 → fzL N 0 100 ≤ r → ∃ N1 f1 n1, dsL c g x r (N, f, n) = (N1, f1, n1) ∧ SV (mkL (nI c) g x r σ).2 σ ∧ ((caM N1 c g x = -1 ∧ (mkL (nI c) g x r σ).1 = -1 ∧ RZ (mkL (nI c) g x r σ).2 N1 f1 n1 v T lb) ∨ ∃ a, a < 100 ∧ caM N1 c g x = nI a ∧ (mkL (nI c) g x r σ).1 = nI a ∧ RZ (mkL (nI c) g x r σ).2 (d3N N1 c a) (lgM f1 n1 1 (nI a)) (lgN n1) v T lb) := by
  intro r
  induction r with
  | zero =>
    intro σ N f n h hl h0 hF
    refine ⟨N, f, n, dsL_0, SV.rf, Or.inl ⟨?_, rfl, h⟩⟩
    rcases caM_cases (g := g) (x := x) h.2.2.1.mx hc with e | ⟨y, hy, e, -⟩
    · exact e
    · have := ca_no h.2.2.1.mx hc (z := caM N c g x) rfl hF
      rw [e] at this
      exact absurd this (nI_pos (by omega))
  | succ r ih =>
    intro σ N f n h hl h0 hF
    have ef := fCd_eq (x := x) h.1 h.2.2.1 hc hg
    rcases caM_cases (g := g) (x := x) h.2.2.1.mx hc with e | ⟨y, hy, e, hcd⟩
    · have em : mkL (nI c) g x (r + 1) σ = (-1, σ) := by
        unfold mkL
        rw [ef, e, show inA (-1) = false by decide, cond_false]
      rw [em]
      exact ⟨N, f, n, dsL_n rfl (Or.inl (by rw [e]; decide)), SV.rf, Or.inl ⟨e, rfl, h⟩⟩
    · have hf0 := cdt_0 hcd
      have hp : iP N y := by
        rw [cdt_off, Bool.and_eq_true] at hcd
        have := of_decide_eq_true hcd.1
        rcases ow_get h.2.2.1.po (j := y) (by omega) with ⟨q, -⟩ | ⟨p, hp, hin, -⟩
        · rw [gr_no q] at this; exact absurd this.symm hg
        · exact iP_in h.2.2.1.po (by omega) hp hin
      rcases (h.2.2.1.fl y hy).2 with h6 | h6
      · have em : mkL (nI c) g x (r + 1) σ = (nI y, hFo σ (nI c) (nI y)) := by
          unfold mkL
          rw [ef, e, inA_n hy, cond_true, ixn (by omega), h.1.r1.c6 hy, if_pos h6]
        rw [em]
        obtain ⟨k1, k2⟩ := h.offer hl hc hy h0 hf0 hp
        exact ⟨N, f, n, dsL_n rfl (Or.inr (by rw [e, ixn (by omega), h6]; decide)), k2, Or.inr ⟨y, hy, e, rfl, k1⟩⟩
      · have em : mkL (nI c) g x (r + 1) σ = mkL (nI c) g x r (fCf σ (nI y)) := by
          rw [mkL, ef, e, inA_n hy, cond_true, ixn (by omega), h.1.r1.c6 hy, if_neg (by rw [h6]; decide)]
        rw [em]
        obtain ⟨k1, k2⟩ := h.confl hl hy hf0 hp
        obtain ⟨N1, f1, n1, b1, b2, b3⟩ := ih (fCf σ (nI y)) (dsN N y) (lgM f n 8 (nI y)) (lgN n) k1 hl (by rw [dsN, pk_un (by omega), mDe, pk_un (by omega), pk_un (by omega)]; exact h0) (fz_ds hy hf0 hF)
        exact ⟨N1, f1, n1, (dsL_s hy e.symm (nI_pos (by omega)) h6).trans b1, b2.tr k2, b3⟩
end OF9
