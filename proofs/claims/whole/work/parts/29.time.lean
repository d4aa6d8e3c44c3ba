/-- a class' state for any cells -/
def sgD (N : Nat → Int32) : Sto := fun k => match k with
  | 0 => fun j => N 4
  | 1 => fun j => N (5 + 4 * j)
  | 2 => fun j => N (5 + 4 * j + 1)
  | 3 => fun j => N (5 + 4 * j + 2)
  | 4 => fun j => N (5 + 4 * j + 3)
  | 5 => fun j => N (31 + j)
  | 6 => fun j => N (131 + j)
  | 7 => fun j => N (231 + j)
  | 8 => fun j => if N (231 + j) = 1 ∨ N (231 + j) = 2 then N (331 + j) else -1
  | 9 => fun j => N (431 + j)
  | 10 => fun j => N (531 + j)
  | 11 => fun j => N (631 + j)
  | 12 => fun c => if N (631 + c) = 0 then -1 else N (651 + c)
  | 13 => fun c => N (711 + c) - 1
  | 14 => fun j => N (671 + j)
  | 15 => fun j => N (691 + j)
  | 17 => fun j => N 1
  | 18 => fun j => N 2
  | 19 => fun j => N 3
  | 20 => fun j => N (25 + j)
  | 21 => fun j => N (28 + j)
  | _ => fun _ => 0
theorem RR.sgD {N : Nat → Int32} {v : Nat} (hv : v ≤ 5) : RR (sgD N) N v := ⟨hv, ⟨rfl, fun _ _ => rfl, fun _ _ => rfl, fun _ _ => rfl, fun _ _ => rfl, fun _ _ => rfl, fun _ _ => rfl, fun _ _ => rfl, fun _ _ => rfl, fun _ _ => rfl, fun _ _ => rfl, fun _ _ => rfl, rfl, rfl, rfl, fun _ _ => rfl, fun _ _ => rfl⟩, fun _ _ => rfl, fun _ _ _ => rfl, fun _ _ => rfl, fun _ _ => rfl⟩
theorem LR.sgD {N : Nat → Int32} : LR (sgD N) (fun _ => 0) 0 := ⟨0, 0, by omega, by omega, rfl, rfl, rfl, fun i hi => absurd hi (Nat.not_lt_zero i)⟩
section TI9
variable {σ : Sto} {N N' f : Nat → Int32} {n : Int32} {v T lb T' lb' c j : Nat}
theorem KY_T {d k j : Nat} (hj : j < 100) (hT : d ≤ 200000) (hk : k < 5) : nI (KY d k j) / 100 / 5 = nI d := by
  unfold KY
  rw [show nI ((d * 5 + k) * 100 + j) / 100 = nI (((d * 5 + k) * 100 + j) / 100) from pk_div (d := 100) (by omega) (by decide) (by decide), show ((d * 5 + k) * 100 + j) / 100 = d * 5 + k by omega, show nI (d * 5 + k) / 5 = nI ((d * 5 + k) / 5) from pk_div (d := 5) (by omega) (by decide) (by decide), show (d * 5 + k) / 5 = d by omega]
theorem CL.time (h : CL N T lb c) (hc : c < 20) (hT : T ≤ T') (hT2 : T ≤ 100000) (hd : ∀ j, j < 100 → ¬ N (231 + j) = 0 → ∀ d, d < 2 ^ 31 → due N j = nI d → lb' ≤ d) : CL N T' lb' c := by
  rcases h with h | ⟨j, u, b1, b2, b3, b4, b5, b6, b7, ⟨e1, e2⟩ | ⟨e2, e3, r, b, e4, e5, e6, e7, e8⟩⟩
  · exact Or.inl h
  · have := hd j b1 (by rw [e2]; decide) u (by omega) ((due_1 b4 e2).1.trans b5)
    exact Or.inr ⟨j, u, b1, b2, b3, b4, b5, this, by omega, Or.inl ⟨e1, e2⟩⟩
  · have hl : ¬ N (231 + j) = 0 := by rw [e2]; decide
    have hq := (due_2 b4 e2 hc b3).1
    rcases e8 with ⟨e8, e9⟩ | ⟨e8, e9⟩ | e8
    · rw [if_pos e8] at hq
      have := hd j b1 hl r (by omega) (hq.trans e4)
      exact Or.inr ⟨j, u, b1, b2, b3, b4, b5, by omega, by omega, Or.inr ⟨e2, e3, r, b, e4, e5, e6, e7, Or.inl ⟨e8, this⟩⟩⟩
    · rw [e8, if_neg (by decide), if_pos rfl] at hq
      have := hd j b1 hl b (by omega) (hq.trans e5)
      exact Or.inr ⟨j, u, b1, b2, b3, b4, b5, by omega, by omega, Or.inr ⟨e2, e3, r, b, e4, e5, e6, e7, Or.inr (Or.inl ⟨e8, this⟩)⟩⟩
    · rw [e8, if_neg (by decide), if_neg (by decide)] at hq
      have := hd j b1 hl u (by omega) (hq.trans b5)
      exact Or.inr ⟨j, u, b1, b2, b3, b4, b5, by omega, by omega, Or.inr ⟨e2, e3, r, b, e4, e5, e6, e7, Or.inr (Or.inr e8)⟩⟩
theorem AD.time (h : AD N T lb j) (hj : j < 100) (hT : T ≤ T') (hT2 : T ≤ 100000) (hd : ∀ j, j < 100 → ¬ N (231 + j) = 0 → ∀ d, d < 2 ^ 31 → due N j = nI d → lb' ≤ d) : AD N T' lb' j := by
  rcases h with h | ⟨b1, b2, u, b3, b4, b5⟩ | h
  · exact Or.inl h
  · have := hd j hj (by rw [b1]; decide) u (by omega) ((due_3 b2 b1).1.trans b3)
    exact Or.inr (Or.inl ⟨b1, b2, u, b3, this, by omega⟩)
  · exact Or.inr (Or.inr h)
theorem IV.time (h : IV N v T lb) (hT : T ≤ T') (hT' : T' ≤ 100000) (hd : ∀ j, j < 100 → ¬ N (231 + j) = 0 → ∀ d, d < 2 ^ 31 → due N j = nI d → lb' ≤ d) : IV (upd N 0 (nI T')) v T' lb' := by
  have hs : SP (upd N 0 (nI T')) N := SP.up (by decide)
  have hT2 := h.tl
  refine ⟨h.po.same hs, fun j hj => by rw [pk_un (by omega), pk_un (by omega)]; exact h.fl j hj, fun g hg => by rw [pk_un (by omega)]; exact h.gf g hg, pk_us, hT', by rw [pk_un (by omega)]; exact h.ho, by rw [pk_un (by omega)]; exact h.qu, fun c hc => by rw [pk_un (by omega)]; exact h.re c hc, fun c hc => by rw [pk_un (by omega)]; exact h.ad c hc, fun c hc => by rw [pk_un (by omega)]; exact h.hd c hc, fun c hc => ?_, fun j hj => ?_⟩
  · exact ((h.cl c hc).time hc hT hT2 hd).keep hs (by rw [pk_un (by omega)]) (by rw [pk_un (by omega)]) (by rw [pk_un (by omega)]) (by rw [pk_un (by omega)]) (by rw [pk_un (by omega)]) (fun j hj a1 a2 a3 a4 => ⟨by rw [pk_un (by omega)], by rw [pk_un (by omega)], by rw [pk_un (by omega)]⟩)
  · exact ((h.av j hj).time hj hT hT2 hd).keep hs (by rw [pk_un (by omega)]) (by rw [pk_un (by omega)]) (by rw [pk_un (by omega)]) (fun c hc a1 a2 a3 => ⟨by rw [pk_un (by omega)]; exact a2, by rw [pk_un (by omega)]⟩)
theorem IV.due (h : IV N v T lb) (hj : j < 100) : due N j = -1 ∨ ∃ d, d < 2 ^ 31 ∧ due N j = nI d := by
  have hT := h.tl
  by_cases hl : N (231 + j) = 0
  · exact Or.inl (due_dead hl)
  · obtain ⟨d, k, e1, -, -, e4, -⟩ := h.live hj hl
    exact Or.inr ⟨d, by omega, e1⟩
theorem eaL_min (H : ∀ j, j < 100 → due N j = -1 ∨ ∃ d, d < 2 ^ 31 ∧ due N j = nI d) : ∀ r i z, i + r = 100 → (z = -1 ∨ ∃ d, d < 2 ^ 31 ∧ z = nI d) → (eaL N i r z = -1 ∧ z = -1 ∧ ∀ j, i ≤ j → j < 100 → due N j = -1) ∨ ∃ d, d < 2 ^ 31 ∧ eaL N i r z = nI d ∧ (z = nI d ∨ ∃ j, j < 100 ∧ due N j = nI d) ∧ (∀ e, e < 2 ^ 31 → z = nI e → d ≤ e) ∧ ∀ j, i ≤ j → j < 100 → ∀ e, e < 2 ^ 31 → due N j = nI e → d ≤ e
  | 0, i, z, hi, hz => by
    rcases hz with hz | ⟨d, hd, hz⟩
    · exact Or.inl ⟨hz, hz, fun j a b => by omega⟩
    · exact Or.inr ⟨d, hd, hz, Or.inl hz, fun e he h2 => Nat.le_of_eq (nI_inj hd he (hz.symm.trans h2)), fun j a b => by omega⟩
  | r + 1, i, z, hi, hz => by
    unfold eaL
    rcases H i (by omega) with h1 | ⟨d1, hd1, h1⟩
    · rw [if_pos (show due N i < 0 by rw [h1]; decide)]
      rcases eaL_min H r (i + 1) z (by omega) hz with ⟨a1, a2, a3⟩ | ⟨d, a1, a2, a3, a4, a5⟩
      · refine Or.inl ⟨a1, a2, fun j b1 b2 => ?_⟩
        by_cases q : j = i
        · subst q; exact h1
        · exact a3 j (by omega) b2
      · refine Or.inr ⟨d, a1, a2, a3, a4, fun j b1 b2 e he h2 => ?_⟩
        by_cases q : j = i
        · subst q; exact absurd (h2.symm.trans h1) (nI_m1 he)
        · exact a5 j (by omega) b2 e he h2
    · rw [if_neg (show ¬ due N i < 0 by rw [h1]; exact nI_pos hd1), h1]
      rcases hz with rfl | ⟨d0, hd0, rfl⟩
      · rw [if_pos (show (-1 : Int32) < 0 by decide)]
        rcases eaL_min H r (i + 1) (nI d1) (by omega) (Or.inr ⟨d1, hd1, rfl⟩) with ⟨a1, a2, a3⟩ | ⟨d, a1, a2, a3, a4, a5⟩
        · exact absurd a2 (nI_m1 hd1)
        · refine Or.inr ⟨d, a1, a2, Or.inr ?_, fun e he h2 => absurd h2.symm (nI_m1 he), fun j b1 b2 e he h2 => ?_⟩
          · rcases a3 with a3 | a3
            · exact ⟨i, by omega, h1.trans a3⟩
            · exact a3
          · by_cases q : j = i
            · subst q; exact a4 e he (h1.symm.trans h2)
            · exact a5 j (by omega) b2 e he h2
      · rw [if_neg (nI_pos hd0)]
        by_cases q2 : d0 ≤ d1
        · rw [if_pos (nI_le q2 hd1)]
          rcases eaL_min H r (i + 1) (nI d0) (by omega) (Or.inr ⟨d0, hd0, rfl⟩) with ⟨a1, a2, a3⟩ | ⟨d, a1, a2, a3, a4, a5⟩
          · exact absurd a2 (nI_m1 hd0)
          · refine Or.inr ⟨d, a1, a2, a3, a4, fun j b1 b2 e he h2 => ?_⟩
            by_cases q : j = i
            · subst q
              have h3 := a4 d0 hd0 rfl
              have h4 := nI_inj hd1 he (h1.symm.trans h2)
              omega
            · exact a5 j (by omega) b2 e he h2
        · rw [if_neg (nI_ge (by omega) hd0)]
          rcases eaL_min H r (i + 1) (nI d1) (by omega) (Or.inr ⟨d1, hd1, rfl⟩) with ⟨a1, a2, a3⟩ | ⟨d, a1, a2, a3, a4, a5⟩
          · exact absurd a2 (nI_m1 hd1)
          · refine Or.inr ⟨d, a1, a2, Or.inr ?_, fun e he h2 => ?_, fun j b1 b2 e he h2 => ?_⟩
            · rcases a3 with a3 | a3
              · exact ⟨i, by omega, h1.trans a3⟩
              · exact a3
            · have h3 := a4 d1 hd1 rfl
              have h4 := nI_inj hd0 he h2
              omega
            · by_cases q : j = i
              · subst q; exact a4 e he (h1.symm.trans h2)
              · exact a5 j (by omega) b2 e he h2
theorem ea_min (h : IV N v T lb) : (eaM N = -1 ∧ ∀ j, j < 100 → N (231 + j) = 0) ∨ ∃ d, d < 2 ^ 31 ∧ eaM N = nI d ∧ lb ≤ d ∧ d ≤ T + 800 ∧ (∃ j, j < 100 ∧ ¬ N (231 + j) = 0 ∧ due N j = nI d) ∧ ∀ j, j < 100 → ¬ N (231 + j) = 0 → ∀ e, e < 2 ^ 31 → due N j = nI e → d ≤ e := by
  have hT := h.tl
  rcases eaL_min (fun j hj => h.due hj) 100 0 (-1) rfl (Or.inl rfl) with ⟨a1, -, a3⟩ | ⟨d, a1, a2, a3, -, a5⟩
  · refine Or.inl ⟨a1, fun j hj => ?_⟩
    by_cases hl : N (231 + j) = 0
    · exact hl
    · obtain ⟨d, k, e1, -, -, e4, -⟩ := h.live hj hl
      exact absurd (e1.symm.trans (a3 j (Nat.zero_le _) hj)) (nI_m1 (by omega))
  · rcases a3 with a3 | ⟨j, hj, hd⟩
    · exact absurd a3.symm (nI_m1 a1)
    · have hl : ¬ N (231 + j) = 0 := fun q => nI_m1 a1 (hd.symm.trans (due_dead q))
      obtain ⟨d', k, e1, -, e3, e4, -⟩ := h.live hj hl
      obtain rfl : d = d' := nI_inj a1 (by omega) (hd.symm.trans e1)
      exact Or.inr ⟨d, a1, a2, e3, e4, ⟨j, hj, hl, hd⟩, fun j hj _ => a5 j (Nat.zero_le _) hj⟩
/-- all events of the next time -/
theorem hap_sim {d : Nat} (h1 : RR σ N v) (h2 : LR σ f n) (h3 : IV N v T lb) (hd : d ≤ 100000) (hTd : T ≤ d) (hmin : ∀ j, j < 100 → ¬ N (231 + j) = 0 → ∀ e, e < 2 ^ 31 → due N j = nI e → d ≤ e) : ∃ (σ' : Sto) (N' f' : Nat → Int32) (n' : Int32) (m : Nat), m ≤ 500 ∧ hapS N f n (nI d) = (N', f', n', m) ∧ RR σ' N' v ∧ LR σ' f' n' ∧ IV N' v d (d + 1) ∧ SV σ' σ ∧ ∀ (y : Int32) (F k : Nat), nI d ≤ y → passL y (F + m) σ k (eqE σ) = passL y F σ' (k + m) (eqE σ') := by
  obtain ⟨σ', N', f', n', m, a1, a2, a3, a4, a5, a6, a7, a8⟩ := ho_sim (v := v) (T := d) 5 0 σ (upd N 0 (nI d)) f n 0 rfl h1.t0 h2 (h3.time hTd hd hmin) (fun j hj hl k hk e1 e2 => by omega)
  refine ⟨σ', N', f', n', m, a1, ?_, a3, a4, ?_, a7, a8⟩
  · show hoL (nI d) 0 5 (upd N 0 (nI d), f, n, 0) = (N', f', n', m)
    rw [a2]
    show (N', f', n', 0 + m) = (N', f', n', m)
    rw [Nat.zero_add]
  · have k1 := a5.time (T' := d) (lb' := d + 1) (Nat.le_refl d) hd (fun j hj hl e he h4 => by
      obtain ⟨d', k, e1, e2, e3, e4, hk, -⟩ := a5.live hj hl
      obtain rfl : e = d' := nI_inj he (by omega) (h4.symm.trans e1)
      by_cases q : e = d
      · subst q
        rcases a6 j hj hl k (by omega) e1 e2 with c | ⟨c, -⟩ <;> omega
      · omega)
    rw [upd_id a5.tm] at k1
    exact k1
theorem av_sim {Y : Nat} (hY : Y ≤ 100000) : ∀ (G : Nat) (σ : Sto) (N f : Nat → Int32) (n : Int32) (kk T : Nat), RR σ N v → LR σ f n → IV N v T (T + 1) → T ≤ Y → Y - T ≤ G → ∃ (σ' : Sto) (N' f' : Nat → Int32) (n' : Int32) (m T' : Nat), m ≤ 500 * (Y - T) ∧ avL (nI Y) G (N, f, n, kk) = (N', f', n', kk + m) ∧ RR σ' N' v ∧ LR σ' f' n' ∧ IV N' v T' (T' + 1) ∧ T' ≤ Y ∧ (∀ j, j < 100 → ¬ N' (231 + j) = 0 → ∀ d, d < 2 ^ 31 → due N' j = nI d → Y + 1 ≤ d) ∧ SV σ' σ ∧ ∀ F k : Nat, 500 * (Y - T) ≤ F → passL (nI Y) F σ k (eqE σ) = (nI (k + m), σ') := by
  intro G
  induction G with
  | zero =>
    intro σ N f n kk T h1 h2 h3 hT hG
    have hdue : ∀ j, j < 100 → ¬ N (231 + j) = 0 → ∀ d, d < 2 ^ 31 → due N j = nI d → Y + 1 ≤ d := fun j hj hl d hd e => by
      obtain ⟨d', k, e1, -, e3, e4, -⟩ := h3.live hj hl
      have := h3.tl
      have := nI_inj hd (by omega) (e.symm.trans e1)
      omega
    refine ⟨σ, N, f, n, 0, T, by omega, avL_0, h1, h2, h3, hT, hdue, SV.rf, fun F k hF => ?_⟩
    obtain ⟨m, c1, c2, c3, c4⟩ := next_min h1 h3
    refine passL_no c1 ?_
    rcases c4 with c4 | ⟨j, d, k, g1, g2, g3, g4, g5, g6, g7, g8⟩
    · exact Or.inl c4
    · have := h3.tl
      have := hdue j g1 g2 d (by omega) g3
      refine Or.inr ?_
      rw [g8, KY_T g1 (by omega) g5]
      exact nI_ge (by omega) (by omega)
  | succ G ih =>
    intro σ N f n kk T h1 h2 h3 hT hG
    have hTl := h3.tl
    by_cases hst : eaM N < 0 ∨ nI Y < eaM N
    · have hdue : ∀ j, j < 100 → ¬ N (231 + j) = 0 → ∀ d, d < 2 ^ 31 → due N j = nI d → Y + 1 ≤ d := fun j hj hl d hd e => by
        rcases ea_min h3 with ⟨-, a2⟩ | ⟨d0, a1, a2, a3, a4, -, a5⟩
        · exact absurd (a2 j hj) hl
        · have := a5 j hj hl d hd e
          rcases hst with q | q
          · rw [a2] at q; exact absurd q (nI_pos a1)
          · rw [a2] at q
            have := (nI_ltI (by omega) a1).mp q
            omega
      refine ⟨σ, N, f, n, 0, T, by omega, avL_n hst, h1, h2, h3, hT, hdue, SV.rf, fun F k hF => ?_⟩
      obtain ⟨m, c1, c2, c3, c4⟩ := next_min h1 h3
      refine passL_no c1 ?_
      rcases c4 with c4 | ⟨j, d, k, g1, g2, g3, g4, g5, g6, g7, g8⟩
      · exact Or.inl c4
      · have := hdue j g1 g2 d (by omega) g3
        refine Or.inr ?_
        rw [g8, KY_T g1 (by omega) g5]
        exact nI_ge (by omega) (by omega)
    · have q1 : ¬ eaM N < 0 := fun q => hst (Or.inl q)
      have q2 : ¬ nI Y < eaM N := fun q => hst (Or.inr q)
      rcases ea_min h3 with ⟨a1, -⟩ | ⟨d, a1, a2, a3, a4, -, a5⟩
      · rw [a1] at q1; exact absurd (by decide) q1
      · rw [a2] at q2
        have hdY : d ≤ Y := by
          rcases Nat.lt_or_ge Y d with q | q
          · exact absurd (nI_lt q a1) q2
          · exact q
        obtain ⟨σ1, N1, f1, n1, m1, b1, b2, b3, b4, b5, b6, b7⟩ := hap_sim h1 h2 h3 (by omega) (by omega) a5
        obtain ⟨σ', N', f', n', m, T', c1, c2, c3, c4, c5, c6, c7, c8, c9⟩ := ih σ1 N1 f1 n1 (kk + m1) d b3 b4 b5 hdY (by omega)
        refine ⟨σ', N', f', n', m1 + m, T', by omega, ?_, c3, c4, c5, c6, c7, c8.tr b6, fun F k hF => ?_⟩
        · rw [avL_s q1 (by rw [a2]; exact q2), a2, b2]
          show avL (nI Y) G (N1, f1, n1, kk + m1) = _
          rw [c2, Nat.add_assoc]
        · have := b7 (nI Y) (F - m1) k (nI_le hdY (by omega))
          rw [show F - m1 + m1 = F by omega] at this
          rw [this, c9 (F - m1) (k + m1) (by omega), Nat.add_assoc]
end TI9
-- the cells don't depend on the log
theorem hi_N {t : Int32} {q : Nat} : ∀ (r i : Nat) (S S' : HS), S.1 = S'.1 → (hiL t q i r S).1 = (hiL t q i r S').1
  | 0, i, S, S', h => by rw [hiL_0, hiL_0]; exact h
  | r + 1, i, S, S', h => by
    rw [hiL_s rfl, hiL_s rfl]
    refine hi_N r (i + 1) _ _ ?_
    unfold hi1
    rw [← h]
    split
    · split
      · show hpN S.1 i t = hpN S'.1 i t
        rw [h]
      · exact h
    · exact h
theorem ho_N {t : Int32} : ∀ (r q : Nat) (S S' : HS), S.1 = S'.1 → (hoL t q r S).1 = (hoL t q r S').1
  | 0, q, S, S', h => by rw [hoL_0, hoL_0]; exact h
  | r + 1, q, S, S', h => by
    rw [hoL_s rfl, hoL_s rfl]
    exact ho_N r (q + 1) _ _ (hi_N 100 0 S S' h)
theorem hap_N {N f f' : Nat → Int32} {n n' t : Int32} : (hapS N f n t).1 = (hapS N f' n' t).1 := by
  unfold hapS
  exact ho_N 5 0 _ _ rfl
section RF9
variable {N f : Nat → Int32} {n : Int32} {v T lb j : Nat}
theorem HG_of : HG (fun N => IV N v T T) (nI T) v := by
  refine ⟨fun N h => h.mx, fun N j h hj hd => ?_⟩
  have hT := h.tl
  have hl : ¬ N (231 + j) = 0 := fun q => nI_m1 (a := T) (by omega) (hd.symm.trans (due_dead q))
  obtain ⟨d, k, e1, e2, e3, e4, hk, hp, hL⟩ := h.live hj hl
  obtain ⟨p, hp1, hp2, -⟩ := h.pool hj hp
  obtain ⟨k', -, -, hz, -⟩ := RZ.ev (RR.sgD h.po.1) LR.sgD h hj hl hd
  refine ⟨⟨p, hp1, hp2⟩, fun hkk => ⟨p, hp1, ?_⟩, hz.2.2.1⟩
  rcases hL with ⟨rfl, -⟩ | ⟨c, hc, hh, ha, -⟩
  · rw [e2] at hkk
    exact absurd hkk (by decide)
  · rw [hoC, hh, ixn (by omega), ha]; exact hp2
/-- what time's passing wants of the reference -/
theorem AG_of {Y : Nat} (hY : Y ≤ 100000) : AG (fun N => ∃ T, IV N v T (T + 1)) (nI Y) v := by
  intro N hQ
  obtain ⟨T, h⟩ := hQ
  have hT := h.tl
  refine ⟨h.mx, fun h0 h1 => ?_⟩
  rcases ea_min h with ⟨a1, -⟩ | ⟨d, a1, a2, a3, a4, -, a5⟩
  · rw [a1] at h0; exact absurd h0 (by decide)
  · rw [a2] at h1 ⊢
    have hdY : d ≤ Y := (nI_leI a1 (by omega)).mp h1
    refine ⟨by rw [h.tm, nI_toInt (by omega), nI_toInt a1]; omega, ⟨_, HG_of, h.time (by omega) (by omega) a5⟩, fun f n => ?_⟩
    obtain ⟨σ', N', f', n', m, -, b2, -, -, b5, -⟩ := hap_sim (RR.sgD h.po.1) LR.sgD h (by omega) (by omega) a5
    rw [hap_N (f' := fun _ => 0) (n' := 0), b2]
    exact ⟨⟨d, b5⟩, b5.tm⟩
end RF9
