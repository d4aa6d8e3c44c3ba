theorem min_n {e m : Nat} (he : e < 2 ^ 31) (hm : m < 2 ^ 31) : (if nI e < nI m then nI e else nI m) = nI (min e m) := by
  by_cases h : e < m
  · rw [if_pos (nI_lt h hm), Nat.min_eq_left (by omega)]
  · rw [if_neg (nI_nlt (by omega) he), Nat.min_eq_right (by omega)]
theorem eeL_min {σ : Sto} (H : ∀ c, c < 20 → ¬ σ 11 c = 0 → ∃ e, e < 2 ^ 31 ∧ evC σ (nI c) = nI e) : ∀ r i m, i + r = 20 → m < 2 ^ 31 → ∃ m', m' ≤ m ∧ eeL σ i r (nI m) = nI m' ∧ (∀ c, i ≤ c → c < 20 → ¬ σ 11 c = 0 → ∀ e, e < 2 ^ 31 → evC σ (nI c) = nI e → m' ≤ e) ∧ (m' = m ∨ ∃ c, c < 20 ∧ ¬ σ 11 c = 0 ∧ evC σ (nI c) = nI m')
  | 0, i, m, hi, hm => ⟨m, Nat.le_refl m, rfl, fun c h1 h2 => by omega, Or.inl rfl⟩
  | r + 1, i, m, hi, hm => by
    unfold eeL
    by_cases h0 : σ 11 i = 0
    · rw [if_pos h0]
      obtain ⟨m', a1, a2, a3, a4⟩ := eeL_min H r (i + 1) m (by omega) hm
      refine ⟨m', a1, a2, fun c h1 h2 h3 e he h4 => ?_, a4⟩
      by_cases q : c = i
      · subst q; exact absurd h0 h3
      · exact a3 c (by omega) h2 h3 e he h4
    · rw [if_neg h0]
      obtain ⟨e0, he0, h5⟩ := H i (by omega) h0
      rw [h5, min_n he0 hm]
      obtain ⟨m', a1, a2, a3, a4⟩ := eeL_min H r (i + 1) (min e0 m) (by omega) (by omega)
      refine ⟨m', by omega, a2, fun c h1 h2 h3 e he h4 => ?_, ?_⟩
      · by_cases q : c = i
        · subst q
          have := nI_inj he0 he (h5.symm.trans h4)
          omega
        · exact a3 c (by omega) h2 h3 e he h4
      · rcases a4 with a4 | a4
        · rcases Nat.lt_or_ge e0 m with q | q
          · exact Or.inr ⟨i, by omega, h0, by rw [h5, a4, Nat.min_eq_left (by omega)]⟩
          · exact Or.inl (by omega)
        · exact Or.inr a4
theorem eqL_min {σ : Sto} (H : ∀ c, c < 100 → σ 7 c = 3 → ∃ e, e < 2 ^ 31 ∧ eventK (σ 9 c) 1 (nI c) = nI e) : ∀ r i m, i + r = 100 → m < 2 ^ 31 → ∃ m', m' ≤ m ∧ eqL σ i r (nI m) = nI m' ∧ (∀ c, i ≤ c → c < 100 → σ 7 c = 3 → ∀ e, e < 2 ^ 31 → eventK (σ 9 c) 1 (nI c) = nI e → m' ≤ e) ∧ (m' = m ∨ ∃ c, c < 100 ∧ σ 7 c = 3 ∧ eventK (σ 9 c) 1 (nI c) = nI m')
  | 0, i, m, hi, hm => ⟨m, Nat.le_refl m, rfl, fun c h1 h2 => by omega, Or.inl rfl⟩
  | r + 1, i, m, hi, hm => by
    unfold eqL
    by_cases h0 : σ 7 i = 3
    · rw [if_pos h0]
      obtain ⟨e0, he0, h5⟩ := H i (by omega) h0
      rw [h5, min_n he0 hm]
      obtain ⟨m', a1, a2, a3, a4⟩ := eqL_min H r (i + 1) (min e0 m) (by omega) (by omega)
      refine ⟨m', by omega, a2, fun c h1 h2 h3 e he h4 => ?_, ?_⟩
      · by_cases q : c = i
        · subst q
          have := nI_inj he0 he (h5.symm.trans h4)
          omega
        · exact a3 c (by omega) h2 h3 e he h4
      · rcases a4 with a4 | a4
        · rcases Nat.lt_or_ge e0 m with q | q
          · exact Or.inr ⟨i, by omega, h0, by rw [h5, a4, Nat.min_eq_left (by omega)]⟩
          · exact Or.inl (by omega)
        · exact Or.inr a4
    · rw [if_neg h0]
      obtain ⟨m', a1, a2, a3, a4⟩ := eqL_min H r (i + 1) m (by omega) hm
      refine ⟨m', a1, a2, fun c h1 h2 h3 e he h4 => ?_, a4⟩
      by_cases q : c = i
      · subst q; exact absurd h3 h0
      · exact a3 c (by omega) h2 h3 e he h4
theorem eventK_n {d k j : Nat} : eventK (nI d) (nI k) (nI j) = nI ((d * 5 + k) * 100 + j) := by
  unfold eventK
  rw [show nI d * 5 = nI (d * 5) from (Int32.ofNat_mul d 5).symm, nI_add, show nI (d * 5 + k) * 100 = nI ((d * 5 + k) * 100) from (Int32.ofNat_mul (d * 5 + k) 100).symm, nI_add]
section NX9
variable {σ : Sto} {N : Nat → Int32} {v T lb j d k : Nat}
def KY (d k j : Nat) : Nat := (d * 5 + k) * 100 + j
/-- the event of a client is that of its address -/
theorem evC_eq (h : RR σ N v) (hI : IV N v T lb) {c : Nat} (hc : c < 20) (h0 : ¬ σ 11 c = 0) : ∃ j d k, j < 100 ∧ ¬ N (231 + j) = 0 ∧ ¬ N (231 + j) = 3 ∧ due N j = nI d ∧ knd N j = nI k ∧ k < 5 ∧ lb ≤ d ∧ d ≤ T + 800 ∧ N (331 + j) = nI c ∧ evC σ (nI c) = nI (KY d k j) := by
  rw [h.r1.c11 hc] at h0
  obtain ⟨j, hj, ha, hh, hp, l0, l3⟩ := hI.adr hc h0
  obtain ⟨d, k, e1, e2, e3, e4, hk, -, hL⟩ := hI.live hj l0
  refine ⟨j, d, k, hj, l0, l3, e1, e2, hk, e3, e4, hh, ?_⟩
  have e12 : σ 12 c = nI j := by rw [h.r12 c hc, if_neg h0, ha]
  rcases hL with ⟨-, q, -⟩ | ⟨c', hc', hh', ha', hL⟩
  · exact absurd q l3
  obtain rfl : c = c' := nI_inj (by omega) (by omega) (hh.symm.trans hh')
  unfold evC KY
  rw [ixn (by omega), e12, inA_n hj, cond_true, h.r1.c11 hc, ixn (by omega), h.r1.c9 hj]
  rcases hL with ⟨rfl, q1, q2, q3⟩ | ⟨q2, r, b, u, q3, q4, q5, -, -, -, ⟨rfl, q1, rfl⟩ | ⟨rfl, q1, rfl⟩ | ⟨rfl, q1, rfl⟩⟩
  · rw [if_pos q1, q3]; exact eventK_n
  · rw [q1, if_neg (by decide), if_pos rfl, h.r1.c14 hc, q3]; exact eventK_n
  · rw [q1, if_neg (by decide), if_neg (by decide), if_pos rfl, h.r1.c15 hc, q4]; exact eventK_n
  · rw [q1, if_neg (by decide), if_neg (by decide), if_neg (by decide), if_pos rfl, q5]; exact eventK_n
theorem evQ_eq (h : RR σ N v) (hI : IV N v T lb) (hj : j < 100) (h3 : σ 7 j = 3) : ∃ d, ¬ N (231 + j) = 0 ∧ due N j = nI d ∧ knd N j = nI 1 ∧ lb ≤ d ∧ d ≤ T + 800 ∧ eventK (σ 9 j) 1 (nI j) = nI (KY d 1 j) := by
  rw [h.r1.c7 hj] at h3
  have l0 : ¬ N (231 + j) = 0 := by rw [h3]; decide
  obtain ⟨d, k, e1, e2, e4, e5, -, hp, -⟩ := hI.live hj l0
  obtain ⟨f1, f2⟩ := due_3 hp h3
  refine ⟨d, l0, e1, f2, e4, e5, ?_⟩
  rw [h.r1.c9 hj, ← f1, e1]
  exact eventK_n (k := 1)
/-- the next event -/
theorem next_min (h : RR σ N v) (hI : IV N v T lb) : ∃ m, nxE σ (eqE σ) = nI m ∧ m ≤ 2147483647 ∧ (∀ j, j < 100 → ¬ N (231 + j) = 0 → ∀ d k, d < 2 ^ 31 → k < 2 ^ 31 → due N j = nI d → knd N j = nI k → m ≤ KY d k j) ∧ (m = 2147483647 ∨ ∃ j d k, j < 100 ∧ ¬ N (231 + j) = 0 ∧ due N j = nI d ∧ knd N j = nI k ∧ k < 5 ∧ lb ≤ d ∧ d ≤ T + 800 ∧ m = KY d k j) := by
  have hT := hI.tl
  have HE : ∀ c, c < 20 → ¬ σ 11 c = 0 → ∃ e, e < 2 ^ 31 ∧ evC σ (nI c) = nI e := fun c hc h0 => by
    obtain ⟨j, d, k, a1, -, -, -, -, a6, -, a7, -, a8⟩ := evC_eq h hI hc h0
    exact ⟨_, by unfold KY; omega, a8⟩
  have HQ : ∀ c, c < 100 → σ 7 c = 3 → ∃ e, e < 2 ^ 31 ∧ eventK (σ 9 c) 1 (nI c) = nI e := fun c hc h0 => by
    obtain ⟨d, -, -, -, -, a7, a8⟩ := evQ_eq h hI hc h0
    exact ⟨_, by unfold KY; omega, a8⟩
  obtain ⟨m1, a1, a2, a3, a4⟩ := eeL_min HE 20 0 2147483647 rfl (by decide)
  obtain ⟨m2, b1, b2, b3, b4⟩ := eqL_min HQ 100 0 2147483647 rfl (by decide)
  have e1 : eeC σ = nI m1 := a2
  have e2 : eqE σ = nI m2 := b2
  refine ⟨min m1 m2, ?_, by omega, fun j hj hl d k hd hk e3 e4 => ?_, ?_⟩
  · unfold nxE
    rw [e1, e2, min_n (by omega) (by omega)]
  · by_cases q : N (231 + j) = 3
    · obtain ⟨d', -, f1, f2, -, f3, f4⟩ := evQ_eq h hI hj ((h.r1.c7 hj).trans q)
      obtain rfl : d = d' := nI_inj hd (by omega) (e3.symm.trans f1)
      obtain rfl : k = 1 := nI_inj hk (by decide) (e4.symm.trans f2)
      have := b3 j (Nat.zero_le _) hj ((h.r1.c7 hj).trans q) _ (by unfold KY; omega) f4
      omega
    · rcases hI.av j hj with a | ⟨a, -⟩ | ⟨-, c, c1, c2, c3, c4⟩
      · exact absurd a hl
      · exact absurd a q
      · have h0 : ¬ σ 11 c = 0 := by rw [h.r1.c11 c1]; exact c3
        obtain ⟨j', d', k', g1, r1, r2, g2, g3, g4, -, g5, g6, g7⟩ := evC_eq h hI c1 h0
        obtain ⟨j2, hj2, k1, k2, -⟩ := hI.adr c1 c3
        obtain rfl : j = j2 := nI_inj (by omega) (by omega) (c4.symm.trans k1)
        have ej : j = j' := by
          rcases hI.av j' g1 with a | ⟨a, -⟩ | ⟨-, c5, d1, d2, d3, d4⟩
          · exact absurd a r1
          · exact absurd a r2
          · obtain rfl : c = c5 := nI_inj (by omega) (by omega) (g6.symm.trans d2)
            exact nI_inj (by omega) (by omega) (k1.symm.trans d4)
        subst ej
        obtain rfl : d = d' := nI_inj hd (by omega) (e3.symm.trans g2)
        obtain rfl : k = k' := nI_inj hk (by omega) (e4.symm.trans g3)
        have := a3 c (Nat.zero_le _) c1 h0 _ (by unfold KY; omega) g7
        omega
  · rcases Nat.le_total m1 m2 with q | q
    · rw [Nat.min_eq_left q]
      rcases a4 with a4 | ⟨c, c1, c2, c3⟩
      · exact Or.inl a4
      · obtain ⟨j, d, k, g1, g0, -, g2, g3, g4, g8, g5, g6, g7⟩ := evC_eq h hI c1 c2
        exact Or.inr ⟨j, d, k, g1, g0, g2, g3, g4, g8, g5, nI_inj (by omega) (by unfold KY; omega) (c3.symm.trans g7)⟩
    · rw [Nat.min_eq_right q]
      rcases b4 with b4 | ⟨c, c1, c2, c3⟩
      · exact Or.inl b4
      · obtain ⟨d, g0, g1, g2, g8, g3, g4⟩ := evQ_eq h hI c1 c2
        exact Or.inr ⟨c, d, 1, c1, g0, g1, g2, by omega, g8, g3, nI_inj (by omega) (by unfold KY; omega) (c3.symm.trans g4)⟩
end NX9
theorem eqL_same {σ τ : Sto} (h : ∀ i, i < 100 → (τ 7 i = 3 ↔ σ 7 i = 3) ∧ (σ 7 i = 3 → τ 9 i = σ 9 i)) : ∀ r i z, i + r = 100 → eqL τ i r z = eqL σ i r z
  | 0, _, _, _ => rfl
  | r + 1, i, z, hi => by
    unfold eqL
    obtain ⟨h1, h2⟩ := h i (by omega)
    by_cases q : σ 7 i = 3
    · rw [if_pos q, if_pos (h1.mpr q), h2 q]
      exact eqL_same h r (i + 1) _ (by omega)
    · rw [if_neg q, if_neg (fun z => q (h1.mp z))]
      exact eqL_same h r (i + 1) _ (by omega)
theorem passL_go {y z : Int32} {F K m : Nat} {τ : Sto} (he : nxE τ z = nI m) (hm : m < 2147483647) (hy : nI m / 100 / 5 ≤ y) : passL y (F + 1) τ K z = passL y F (cOE τ (nI m)) (K + 1) (if kdE (nI m) = 1 then eqE (cOE τ (nI m)) else z) := by
  rw [passL, he, if_neg (show ¬ nI m = 2147483647 from nI_ne (b := 2147483647) (by omega) (by decide) (by omega)), if_pos hy]
  split <;> rfl
theorem passL_no {y z : Int32} {F K m : Nat} {τ : Sto} (he : nxE τ z = nI m) (hm : m = 2147483647 ∨ ¬ nI m / 100 / 5 ≤ y) : passL y F τ K z = (nI K, τ) := by
  cases F with
  | zero => rfl
  | succ F =>
    rw [passL, he]
    rcases hm with h | h
    · rw [if_pos (show nI m = 2147483647 by rw [h]; rfl)]
    · by_cases q : nI m = 2147483647
      · rw [if_pos q]
      · rw [if_neg q, if_neg h]
section HS9
variable {v T : Nat}
def LEq (N : Nat → Int32) (T q i : Nat) : Prop := ∀ j, j < 100 → ¬ N (231 + j) = 0 → ∀ k, k < 2 ^ 31 → due N j = nI T → knd N j = nI k → q < k ∨ (q = k ∧ i ≤ j)
/-- what some events leave: so many in the class, and in the reference -/
def HSP (σ : Sto) (v T : Nat) (K : HS) (S : HS) (q i b : Nat) : Prop := ∃ (σ' : Sto) (N' f' : Nat → Int32) (n' : Int32) (m : Nat), m ≤ b ∧ K = (N', f', n', S.2.2.2 + m) ∧ RR σ' N' v ∧ LR σ' f' n' ∧ IV N' v T T ∧ LEq N' T q i ∧ SV σ' σ ∧ ∀ (y : Int32) (F k : Nat), nI T ≤ y → passL y (F + m) σ k (eqE σ) = passL y F σ' (k + m) (eqE σ')
theorem hi_sim {q : Nat} (hq : q < 5) : ∀ r i (σ : Sto) (N f : Nat → Int32) (n : Int32) (kk : Nat), i + r = 100 → RR σ N v → LR σ f n → IV N v T T → LEq N T q i → HSP σ v T (hiL (nI T) q i r (N, f, n, kk)) (N, f, n, kk) (q + 1) 0 r
  | 0, i, σ, N, f, n, kk, hi, h1, h2, h3, h4 => by
    refine ⟨σ, N, f, n, 0, Nat.le_refl 0, hiL_0, h1, h2, h3, fun j hj hl k hk e1 e2 => ?_, SV.rf, fun y F k hy => rfl⟩
    rcases h4 j hj hl k hk e1 e2 with a | ⟨a, b⟩
    · rcases Nat.lt_or_ge (q + 1) k with c | c
      · exact Or.inl c
      · exact Or.inr ⟨by omega, Nat.zero_le _⟩
    · omega
  | r + 1, i, σ, N, f, n, kk, hi, h1, h2, h3, h4 => by
    have hT := h3.tl
    by_cases hd : due N i = nI T
    · have hl : ¬ N (231 + i) = 0 := fun a => by
        rw [due_dead a] at hd
        exact nI_m1 (a := T) (by omega) hd.symm
      by_cases hk : knd N i = nI q
      · obtain ⟨k, e2, hk5, hz, hsv, hev⟩ := RZ.ev h1 h2 h3 (by omega) hl hd
        obtain rfl : k = q := nI_inj (by omega) (by omega) (e2.symm.trans hk)
        obtain ⟨m, c1, c2, c3, c4⟩ := next_min h1 h3
        have hm : m = KY T k i := by
          have a1 := c3 i (by omega) hl T k (by omega) (by omega) hd e2
          rcases c4 with c4 | ⟨j, d, k', g1, g2, g3, g4, g5, g6, g7, g8⟩
          · unfold KY at a1; omega
          · unfold KY at a1 g8 ⊢
            by_cases q1 : d = T
            · subst q1
              rcases h4 j g1 g2 k' (by omega) g3 g4 with a | ⟨a, b⟩
              · omega
              · omega
            · omega
        subst hm
        have et := key_T (j := i) (T := T) (k := k) (by omega) hT hk5
        have ek := key_k (j := i) (T := T) (k := k) (by omega) hT hk5
        obtain ⟨v1, v2, v3, v4⟩ := hev
        have hz : RZ (cOE σ (nI (KY T k i))) (hpN N i (nI T)) (hpK N i f n) (hpM N i n) v T T := hz
        have hsv : SV (cOE σ (nI (KY T k i))) σ := hsv
        have eq1 : k ≠ 1 → eqE (cOE σ (nI (KY T k i))) = eqE σ := fun hk1 => by
          refine eqL_same (fun x hx => ?_) 100 0 _ rfl
          obtain ⟨w1, w2⟩ := v4 hk1 x hx
          rw [h1.r1.c7 hx, hz.1.r1.c7 hx, h1.r1.c9 hx, hz.1.r1.c9 hx]
          exact ⟨w1, w2⟩
        obtain ⟨σ', N', f', n', m, b1, b2, b3, b4, b5, b6, b7, b8⟩ := hi_sim hq r (i + 1) (cOE σ (nI (KY T k i))) (hpN N i (nI T)) (hpK N i f n) (hpM N i n) (kk + 1) (by omega) hz.1 hz.2.1 hz.2.2.1 (fun j hj hl' k' hk' e3 e4 => by
          by_cases q1 : j = i
          · subst q1
            have := v2 hl' T (by omega) e3
            omega
          · obtain ⟨w1, w2⟩ := v1 j hj q1
            have hl2 : ¬ N (231 + j) = 0 := by rw [← w1]; exact hl'
            obtain ⟨w3, w4⟩ := w2 hl2
            rcases h4 j hj hl2 k' hk' (w3.symm.trans e3) (w4.symm.trans e4) with a | ⟨a, b⟩
            · exact Or.inl a
            · exact Or.inr ⟨a, by omega⟩)
        refine ⟨σ', N', f', n', m + 1, by omega, ?_, b3, b4, b5, b6, b7.tr hsv, fun y F x hy => ?_⟩
        · rw [← hiL_t hd hk, b2]
          show (N', f', n', kk + 1 + m) = (N', f', n', kk + (m + 1))
          rw [Nat.add_assoc, Nat.add_comm 1 m]
        · rw [← Nat.add_assoc, passL_go c1 (by unfold KY; omega) (by unfold KY; rw [et]; exact hy), show F + m = F + m from rfl]
          have ez : (if kdE (nI (KY T k i)) = 1 then eqE (cOE σ (nI (KY T k i))) else eqE σ) = eqE (cOE σ (nI (KY T k i))) := by
            unfold KY at eq1 ⊢
            rw [ek]
            by_cases q1 : k = 1
            · subst q1; rw [if_pos (show nI 1 = 1 from rfl)]
            · rw [if_neg (show ¬ nI k = 1 from nI_ne (b := 1) (by omega) (by decide) q1), eq1 q1]
          rw [ez, b8 y F (x + 1) hy, show x + 1 + m = x + (m + 1) by omega]
      · obtain ⟨σ', N', f', n', m, b1, b2, b3, b4, b5, b6, b7, b8⟩ := hi_sim hq r (i + 1) σ N f n kk (by omega) h1 h2 h3 (fun j hj hl' k' hk' e3 e4 => by
          rcases h4 j hj hl' k' hk' e3 e4 with a | ⟨a, b⟩
          · exact Or.inl a
          · refine Or.inr ⟨a, ?_⟩
            by_cases q1 : j = i
            · subst q1; subst a; exact absurd e4 hk
            · omega)
        exact ⟨σ', N', f', n', m, by omega, by rw [← hiL_k hd hk]; exact b2, b3, b4, b5, b6, b7, b8⟩
    · obtain ⟨σ', N', f', n', m, b1, b2, b3, b4, b5, b6, b7, b8⟩ := hi_sim hq r (i + 1) σ N f n kk (by omega) h1 h2 h3 (fun j hj hl' k' hk' e3 e4 => by
        rcases h4 j hj hl' k' hk' e3 e4 with a | ⟨a, b⟩
        · exact Or.inl a
        · refine Or.inr ⟨a, ?_⟩
          by_cases q1 : j = i
          · subst q1; exact absurd e3 hd
          · omega)
      exact ⟨σ', N', f', n', m, by omega, by rw [← hiL_d hd]; exact b2, b3, b4, b5, b6, b7, b8⟩
theorem ho_sim : ∀ r q (σ : Sto) (N f : Nat → Int32) (n : Int32) (kk : Nat), q + r = 5 → RR σ N v → LR σ f n → IV N v T T → LEq N T q 0 → HSP σ v T (hoL (nI T) q r (N, f, n, kk)) (N, f, n, kk) 5 0 (100 * r)
  | 0, q, σ, N, f, n, kk, hq, h1, h2, h3, h4 => by
    obtain rfl : q = 5 := by omega
    exact ⟨σ, N, f, n, 0, Nat.zero_le _, hoL_0, h1, h2, h3, h4, SV.rf, fun y F k hy => rfl⟩
  | r + 1, q, σ, N, f, n, kk, hq, h1, h2, h3, h4 => by
    obtain ⟨σ1, N1, f1, n1, m1, a1, a2, a3, a4, a5, a6, a7, a8⟩ := hi_sim (q := q) (by omega) 100 0 σ N f n kk rfl h1 h2 h3 h4
    obtain ⟨σ', N', f', n', m, b1, b2, b3, b4, b5, b6, b7, b8⟩ := ho_sim r (q + 1) σ1 N1 f1 n1 (kk + m1) (by omega) a3 a4 a5 a6
    refine ⟨σ', N', f', n', m1 + m, by omega, ?_, b3, b4, b5, b6, b7.tr a7, fun y F k hy => ?_⟩
    · rw [hoL_s a2.symm, b2]
      show (N', f', n', kk + m1 + m) = (N', f', n', kk + (m1 + m))
      rw [Nat.add_assoc]
    · rw [show F + (m1 + m) = (F + m) + m1 by omega, a8 y (F + m) k hy, b8 y F (k + m1) hy, Nat.add_assoc]
end HS9
