section OP2
variable {σ : Sto} {N M f : Nat → Int32} {n z : Int32} {v T lb j : Nat}
def BN (x : Int32) (m : Nat) : Prop := ∃ q, x = nI q ∧ 1 ≤ q ∧ q ≤ m
/-- a flag, a number that is set -/
theorem IV.set {i : Nat} {x : Int32} (h : IV N v T lb) (hi : i = 1 ∨ i = 2 ∨ 25 ≤ i ∧ i < 231) (h1 : i = 1 → BN x 50) (h2 : i = 2 → BN x 500) (h3 : 25 ≤ i → x = 0 ∨ x = 1) : IV (upd N i x) v T lb := by
  have hs : SP (upd N i x) N := SP.up (by omega)
  have fl : ∀ k, 25 ≤ k → N k = 0 ∨ N k = 1 → upd N i x k = 0 ∨ upd N i x k = 1 := fun k hk q => by
    by_cases e : k = i
    · subst e; rw [pk_us]; exact h3 hk
    · rw [pk_un e]; exact q
  refine ⟨h.po.same hs, fun j hj => ⟨fl _ (by omega) (h.fl j hj).1, fl _ (by omega) (h.fl j hj).2⟩, fun g hg => fl _ (by omega) (h.gf g hg), by rw [pk_un (by omega)]; exact h.tm, h.tl, ?_, ?_, fun c hc => by rw [pk_un (by omega)]; exact h.re c hc, fun c hc => by rw [pk_un (by omega)]; exact h.ad c hc, fun c hc => by rw [pk_un (by omega)]; exact h.hd c hc, fun c hc => ?_, fun j hj => ?_⟩
  · by_cases e : i = 1
    · subst e; rw [pk_us]; exact h1 rfl
    · rw [pk_un (by omega)]; exact h.ho
  · by_cases e : i = 2
    · subst e; rw [pk_us]; exact h2 rfl
    · rw [pk_un (by omega)]; exact h.qu
  · exact (h.cl c hc).keep hs (by rw [pk_un (by omega)]) (by rw [pk_un (by omega)]) (by rw [pk_un (by omega)]) (by rw [pk_un (by omega)]) (by rw [pk_un (by omega)]) (fun j hj a1 a2 a3 a4 => ⟨by rw [pk_un (by omega)], by rw [pk_un (by omega)], by rw [pk_un (by omega)]⟩)
  · exact (h.av j hj).keep hs (by rw [pk_un (by omega)]) (by rw [pk_un (by omega)]) (by rw [pk_un (by omega)]) (fun c hc a1 a2 a3 => ⟨by rw [pk_un (by omega)]; exact a2, by rw [pk_un (by omega)]⟩)
theorem IV.excl {x : Int32} (h : IV N v T lb) (hj : j < 100) (hx : x = 0 ∨ x = 1) : IV (upd N (31 + j) x) v T lb := h.set (by omega) (fun e => absurd e (by omega)) (fun e => absurd e (by omega)) (fun _ => hx)
theorem IV.strg {x : Int32} (h : IV N v T lb) (hj : j < 100) (hx : x = 0 ∨ x = 1) : IV (upd N (131 + j) x) v T lb := h.set (by omega) (fun e => absurd e (by omega)) (fun e => absurd e (by omega)) (fun _ => hx)
theorem IV.dire {x : Int32} (h : IV N v T lb) (hj : j < 3) (hx : x = 0 ∨ x = 1) : IV (upd N (25 + j) x) v T lb := h.set (by omega) (fun e => absurd e (by omega)) (fun e => absurd e (by omega)) (fun _ => hx)
theorem IV.rela {x : Int32} (h : IV N v T lb) (hj : j < 3) (hx : x = 0 ∨ x = 1) : IV (upd N (28 + j) x) v T lb := h.set (by omega) (fun e => absurd e (by omega)) (fun e => absurd e (by omega)) (fun _ => hx)
theorem op_exclude {x : Int32} {u : Bool} (h : RTc σ N M z f n) : ∃ zb : Bool, (inA x = true → σ 5 (ix x) = bi zb) ∧ AGR [xIOB] (oSet σ (inA x) 5 x) (bi (!inR x 0 99)) (bi (inR x 0 99 && decide (N (ix (31 + x)) = 1))) ∧ RTc (tSet σ (inA x) 5 x (bi u)) (bif inR x 0 99 then upd N (ix (31 + x)) (bi u) else N) M z f n := by
  obtain ⟨⟨v, T, hz⟩, hsd⟩ := id h
  cases hx : inR x 0 99
  · refine ⟨false, fun q => ?_, ?_, ?_⟩
    · rw [inA_R, hx] at q; exact absurd q (by decide)
    · rw [oSet, inA_R, hx, cond_false]; exact AGR.exc (by decide) (by decide +kernel)
    · rw [tSet, inA_R, hx, cond_false, cond_false]; exact h
  · obtain ⟨j, hj, rfl⟩ := inR_99 hx
    have ei : ix (31 + nI j) = 31 + j := by rw [show (31 : Int32) = nI 31 from rfl, nI_add, ixn (by omega)]
    have ej : ix (nI j) = j := ixn (by omega)
    have hf : N (31 + j) = 0 ∨ N (31 + j) = 1 := (hz.2.2.1.fl j hj).1
    refine ⟨decide (N (31 + j) = 1), fun q => ?_, ?_, ?_⟩
    · rw [ej, hz.1.r1.c5 hj]
      rcases hf with e | e <;> rw [e] <;> rfl
    · rw [oSet, inA_R, hx, cond_true, ej, ei, hz.1.r1.c5 hj]
      rcases hf with e | e <;> rw [e] <;> exact AGR.ret
    · rw [tSet, inA_R, hx, cond_true, cond_true, ej, ei]
      refine h.go (SV.pu (by decide)) ⟨hz.1.excl hj, hz.2.1.ext rfl rfl rfl, hz.2.2.1.excl hj (by cases u; exact Or.inl rfl; exact Or.inr rfl), hz.2.2.2⟩
theorem op_setStranger {x : Int32} {u : Bool} (h : RTc σ N M z f n) : ∃ zb : Bool, (inA x = true → σ 6 (ix x) = bi zb) ∧ AGR [xIOB] (oSet σ (inA x) 6 x) (bi (!inR x 0 99)) (bi (inR x 0 99 && decide (N (ix (131 + x)) = 1))) ∧ RTc (tSet σ (inA x) 6 x (bi u)) (bif inR x 0 99 then upd N (ix (131 + x)) (bi u) else N) M z f n := by
  obtain ⟨⟨v, T, hz⟩, hsd⟩ := id h
  cases hx : inR x 0 99
  · refine ⟨false, fun q => ?_, ?_, ?_⟩
    · rw [inA_R, hx] at q; exact absurd q (by decide)
    · rw [oSet, inA_R, hx, cond_false]; exact AGR.exc (by decide) (by decide +kernel)
    · rw [tSet, inA_R, hx, cond_false, cond_false]; exact h
  · obtain ⟨j, hj, rfl⟩ := inR_99 hx
    have ei : ix (131 + nI j) = 131 + j := by rw [show (131 : Int32) = nI 131 from rfl, nI_add, ixn (by omega)]
    have ej : ix (nI j) = j := ixn (by omega)
    have hf : N (131 + j) = 0 ∨ N (131 + j) = 1 := (hz.2.2.1.fl j hj).2
    refine ⟨decide (N (131 + j) = 1), fun q => ?_, ?_, ?_⟩
    · rw [ej, hz.1.r1.c6 hj]
      rcases hf with e | e <;> rw [e] <;> rfl
    · rw [oSet, inA_R, hx, cond_true, ej, ei, hz.1.r1.c6 hj]
      rcases hf with e | e <;> rw [e] <;> exact AGR.ret
    · rw [tSet, inA_R, hx, cond_true, cond_true, ej, ei]
      refine h.go (SV.pu (by decide)) ⟨hz.1.strg hj, hz.2.1.ext rfl rfl rfl, hz.2.2.1.strg hj (by cases u; exact Or.inl rfl; exact Or.inr rfl), hz.2.2.2⟩
theorem op_setDirect {x : Int32} {u : Bool} (h : RTc σ N M z f n) : ∃ zb : Bool, (inG x = true → σ 20 (ix x) = bi zb) ∧ AGR [xIOB] (oSet σ (inG x) 20 x) (bi (!inR x 0 2)) (bi (inR x 0 2 && decide (N (ix (25 + x)) = 1))) ∧ RTc (tSet σ (inG x) 20 x (bi u)) (bif inR x 0 2 then upd N (ix (25 + x)) (bi u) else N) M z f n := by
  obtain ⟨⟨v, T, hz⟩, hsd⟩ := id h
  cases hx : inR x 0 2
  · refine ⟨false, fun q => ?_, ?_, ?_⟩
    · rw [inG_R, hx] at q; exact absurd q (by decide)
    · rw [oSet, inG_R, hx, cond_false]; exact AGR.exc (by decide) (by decide +kernel)
    · rw [tSet, inG_R, hx, cond_false, cond_false]; exact h
  · obtain ⟨j, hj, rfl⟩ := inR_2 hx
    have ei : ix (25 + nI j) = 25 + j := by rw [show (25 : Int32) = nI 25 from rfl, nI_add, ixn (by omega)]
    have ej : ix (nI j) = j := ixn (by omega)
    have hf : N (25 + j) = 0 ∨ N (25 + j) = 1 := hz.2.2.1.gf j (by omega)
    refine ⟨decide (N (25 + j) = 1), fun q => ?_, ?_, ?_⟩
    · rw [ej, hz.1.r1.c20 hj]
      rcases hf with e | e <;> rw [e] <;> rfl
    · rw [oSet, inG_R, hx, cond_true, ej, ei, hz.1.r1.c20 hj]
      rcases hf with e | e <;> rw [e] <;> exact AGR.ret
    · rw [tSet, inG_R, hx, cond_true, cond_true, ej, ei]
      refine h.go (SV.pu (by decide)) ⟨hz.1.dire hj, hz.2.1.ext rfl rfl rfl, hz.2.2.1.dire hj (by cases u; exact Or.inl rfl; exact Or.inr rfl), hz.2.2.2⟩
theorem op_setRelay {x : Int32} {u : Bool} (h : RTc σ N M z f n) : ∃ zb : Bool, (inG x = true → σ 21 (ix x) = bi zb) ∧ AGR [xIOB] (oSet σ (inG x) 21 x) (bi (!inR x 0 2)) (bi (inR x 0 2 && decide (N (ix (28 + x)) = 1))) ∧ RTc (tSet σ (inG x) 21 x (bi u)) (bif inR x 0 2 then upd N (ix (28 + x)) (bi u) else N) M z f n := by
  obtain ⟨⟨v, T, hz⟩, hsd⟩ := id h
  cases hx : inR x 0 2
  · refine ⟨false, fun q => ?_, ?_, ?_⟩
    · rw [inG_R, hx] at q; exact absurd q (by decide)
    · rw [oSet, inG_R, hx, cond_false]; exact AGR.exc (by decide) (by decide +kernel)
    · rw [tSet, inG_R, hx, cond_false, cond_false]; exact h
  · obtain ⟨j, hj, rfl⟩ := inR_2 hx
    have ei : ix (28 + nI j) = 28 + j := by rw [show (28 : Int32) = nI 28 from rfl, nI_add, ixn (by omega)]
    have ej : ix (nI j) = j := ixn (by omega)
    have hf : N (28 + j) = 0 ∨ N (28 + j) = 1 := (by have q := hz.2.2.1.gf (3 + j) (by omega); rw [show 25 + (3 + j) = 28 + j by omega] at q; exact q)
    refine ⟨decide (N (28 + j) = 1), fun q => ?_, ?_, ?_⟩
    · rw [ej, hz.1.r1.c21 hj]
      rcases hf with e | e <;> rw [e] <;> rfl
    · rw [oSet, inG_R, hx, cond_true, ej, ei, hz.1.r1.c21 hj]
      rcases hf with e | e <;> rw [e] <;> exact AGR.ret
    · rw [tSet, inG_R, hx, cond_true, cond_true, ej, ei]
      refine h.go (SV.pu (by decide)) ⟨hz.1.rela hj, hz.2.1.ext rfl rfl rfl, hz.2.2.1.rela hj (by cases u; exact Or.inl rfl; exact Or.inr rfl), hz.2.2.2⟩
theorem op_setHold {x : Int32} (h : RTc σ N M z f n) : AGR [xIAE] (oNum σ x 50 17) (bif inR x 1 50 then 0 else 1) (bif inR x 1 50 then N 1 else 0) ∧ RTc (tNum σ x 50 17) (bif inR x 1 50 then upd N 1 x else N) M z f n := by
  obtain ⟨⟨v, T, hz⟩, hsd⟩ := id h
  unfold oNum tNum
  by_cases h1 : x < 1
  · rw [if_pos h1, if_pos h1, bool_no (B := inR x 1 50) (fun q => (inR_hi.mp q).1 h1), cond_false, cond_false, cond_false]
    exact ⟨AGR.exc (by decide) (by decide +kernel), h⟩
  · rw [if_neg h1, if_neg h1]
    by_cases h2 : x ≤ 50
    · rw [if_pos h2, if_pos h2, inR_hi.mpr ⟨h1, h2⟩, cond_true, cond_true, cond_true, hz.1.r1.c17]
      obtain ⟨q, hq, rfl⟩ := nI_of (x := x) (fun q => h1 (Int32.lt_trans q (by decide)))
      have q1 : 1 ≤ q := by
        rcases Nat.lt_or_ge q 1 with e | e
        · exact absurd (nI_lt (b := 1) e (by decide)) h1
        · exact e
      have q2 : q ≤ 50 := (nI_leI (b := 50) hq (by decide)).mp h2
      exact ⟨AGR.ret, h.go (SV.pu (by decide)) ⟨hz.1.hold, hz.2.1.ext rfl rfl rfl, hz.2.2.1.set (by omega) (fun e => (⟨q, rfl, q1, q2⟩ : BN (nI q) 50)) (fun e => absurd e (by decide)) (fun e => absurd e (by decide)), hz.2.2.2⟩⟩
    · rw [if_neg h2, if_neg h2, bool_no (B := inR x 1 50) (fun q => h2 (inR_hi.mp q).2), cond_false, cond_false, cond_false]
      exact ⟨AGR.exc (by decide) (by decide +kernel), h⟩
theorem op_setQuarantine {x : Int32} (h : RTc σ N M z f n) : AGR [xIAE] (oNum σ x 500 18) (bif inR x 1 500 then 0 else 1) (bif inR x 1 500 then N 2 else 0) ∧ RTc (tNum σ x 500 18) (bif inR x 1 500 then upd N 2 x else N) M z f n := by
  obtain ⟨⟨v, T, hz⟩, hsd⟩ := id h
  unfold oNum tNum
  by_cases h1 : x < 1
  · rw [if_pos h1, if_pos h1, bool_no (B := inR x 1 500) (fun q => (inR_hi.mp q).1 h1), cond_false, cond_false, cond_false]
    exact ⟨AGR.exc (by decide) (by decide +kernel), h⟩
  · rw [if_neg h1, if_neg h1]
    by_cases h2 : x ≤ 500
    · rw [if_pos h2, if_pos h2, inR_hi.mpr ⟨h1, h2⟩, cond_true, cond_true, cond_true, hz.1.r1.c18]
      obtain ⟨q, hq, rfl⟩ := nI_of (x := x) (fun q => h1 (Int32.lt_trans q (by decide)))
      have q1 : 1 ≤ q := by
        rcases Nat.lt_or_ge q 1 with e | e
        · exact absurd (nI_lt (b := 1) e (by decide)) h1
        · exact e
      have q2 : q ≤ 500 := (nI_leI (b := 500) hq (by decide)).mp h2
      exact ⟨AGR.ret, h.go (SV.pu (by decide)) ⟨hz.1.quar, hz.2.1.ext rfl rfl rfl, hz.2.2.1.set (by omega) (fun e => absurd e (by decide)) (fun e => (⟨q, rfl, q1, q2⟩ : BN (nI q) 500)) (fun e => absurd e (by decide)), hz.2.2.2⟩⟩
    · rw [if_neg h2, if_neg h2, bool_no (B := inR x 1 500) (fun q => h2 (inR_hi.mp q).2), cond_false, cond_false, cond_false]
      exact ⟨AGR.exc (by decide) (by decide +kernel), h⟩
theorem op_time (h : RTc σ N M z f n) : σ 16 0 = N 0 := by
  obtain ⟨⟨v, T, hz⟩, -⟩ := h
  rw [hz.2.2.2, hz.2.2.1.tm]
theorem op_bound (h : RTc σ N M z f n) : bdC σ = boM N := by
  obtain ⟨⟨v, T, hz⟩, -⟩ := h
  exact bd_eq hz.1.r1
theorem op_conflicts (h : RTc σ N M z f n) : σ 19 0 = N 3 := by
  obtain ⟨⟨v, T, hz⟩, -⟩ := h
  exact hz.1.r1.c19
theorem op_logSize (h : RTc σ N M z f n) : σ 45 0 = n := by
  obtain ⟨⟨v, T, hz⟩, -⟩ := h
  obtain ⟨m, x, -, -, e1, e2, -⟩ := hz.2.1
  rw [e1, e2]
theorem fmd_n {m x i : Nat} (hi : i < 30) (hx : x < 30) : fmd (nI x - 1 - nI i) 30 = nI ((x + 29 - i) % 30) := by
  by_cases h : i + 1 ≤ x
  · have e : nI x - 1 - nI i = nI (x - 1 - i) := by
      rw [show (1 : Int32) = nI 1 from rfl, nI_sub' (by omega), nI_sub' (by omega)]
    rw [e, fmd, if_pos (show (0 : Int32) ≤ nI (x - 1 - i) ^^^ 30 from ?_), show nI (x - 1 - i) - nI (x - 1 - i) / 30 * 30 = nI ((x - 1 - i) % 30) from pk_rem (d := 30) (by omega) (by decide) (by decide), show (x - 1 - i) % 30 = (x + 29 - i) % 30 by omega]
    have : ∀ k, k < 30 → (0 : Int32) ≤ nI k ^^^ 30 := by decide +kernel
    exact this _ (by omega)
  · have : ∀ x, x < 30 → ∀ i, i < 30 → x < i + 1 → fmd (nI x - 1 - nI i) 30 = nI ((x + 29 - i) % 30) := by decide +kernel
    exact this x hx i hi (by omega)
theorem op_log {x : Int32} (h : RTc σ N M z f n) : vp_in (fmd (σ 46 0 - 1 - x) 30) 30 ∨ ¬ (0 ≤ x ∧ x < σ 45 0) := by
  obtain ⟨⟨v, T, hz⟩, -⟩ := h
  obtain ⟨m, y, hm, hy, e1, e2, e3, -⟩ := hz.2.1
  by_cases q : 0 ≤ x ∧ x < σ 45 0
  · obtain ⟨i, hi, rfl⟩ := nI_of (x := x) (Int32.not_lt.mpr q.1)
    rw [e2] at q
    have := (nI_ltI hi (by omega)).mp q.2
    rw [e3, fmd_n (m := m) (by omega) hy]
    exact Or.inl (vp_in_nI (by omega) (by decide))
  · exact Or.inr q
theorem op_log2 {x : Int32} (h : RTc σ N M z f n) : AGR [xIOB] (oLog σ x) (bif inR x 0 (n - 1) then 0 else 1) (bif inR x 0 (n - 1) then f (ix x) else 0) := by
  obtain ⟨⟨v, T, hz⟩, -⟩ := h
  obtain ⟨m, y, hm, hy, rfl, e2, e3, hf⟩ := hz.2.1
  unfold oLog
  by_cases h0 : x < 0
  · rw [if_pos h0, bool_no (B := inR x 0 (nI m - 1)) (fun q => (inR_hi.mp q).1 h0), cond_false, cond_false]
    exact AGR.exc (by decide) (by decide +kernel)
  · obtain ⟨i, hi, rfl⟩ := nI_of h0
    rw [if_neg h0, e2]
    by_cases h1 : i < m
    · have hin : inR (nI i) 0 (nI m - 1) = true := by
        rw [show m = (m - 1) + 1 by omega, nI_pr, show (0 : Int32) = nI 0 from rfl, inR_n hi (by decide) (by omega)]
        exact inB_iff.mpr ⟨by omega, by omega⟩
      rw [if_pos (nI_lt h1 (by omega)), hin, cond_true, cond_true, e3, fmd_n (m := m) (by omega) hy, ixn (by omega), ixn hi, hf i h1]
      exact AGR.ret
    · rw [if_neg (nI_nlt (by omega) hi), bool_no (B := inR (nI i) 0 (nI m - 1)) (fun q => ?_), cond_false, cond_false]
      · exact AGR.exc (by decide) (by decide +kernel)
      · have h2 := Int32.le_iff_toInt_le.mp (inR_hi.mp q).2
        rcases Nat.eq_zero_or_pos m with e | e
        · rw [e, show (nI 0 - 1).toInt = -1 from by decide, nI_toInt hi] at h2
          omega
        · rw [show m = (m - 1) + 1 by omega, nI_pr, nI_toInt hi, nI_toInt (by omega)] at h2
          omega
/-- questions about a client -/
theorem cl_agr {L : List String} {x : Int32} {o : OT} {T R : Int32} (hL : L.head? = some xIOB) (h0 : ∀ c, c < 20 → x = nI c → inR x 0 19 = true → AGR L o T R) (hT : inR x 0 19 = false → T = 1) : AGR L (oCl x o) T R := by
  unfold oCl
  rw [inC_R]
  cases hx : inR x 0 19
  · rw [cond_false, hT hx]
    cases L with
    | nil => exact absurd hL (by decide)
    | cons a L =>
      obtain rfl : a = xIOB := Option.some.inj hL
      exact AGR.exc List.mem_cons_self (by simp [hcd, List.findIdx_cons]; rfl)
  · obtain ⟨c, hc, rfl⟩ := inR_19 hx
    rw [cond_true]
    exact h0 c hc rfl hx
theorem op_clientState {x : Int32} (h : RTc σ N M z f n) : AGR [xIOB] (oCl x (oI (σ 11 (ix x)))) (bif inR x 0 19 then 0 else 1) (bif inR x 0 19 then N (631 + ix x) else 0) := by
  obtain ⟨⟨v, T, hz⟩, -⟩ := h
  refine cl_agr rfl (fun c hc e hx => ?_) (fun q => by rw [q, cond_false])
  rw [hx, cond_true, cond_true, e, ixn (by omega), hz.1.r1.c11 hc]
  exact AGR.ret
theorem op_addressOf {x : Int32} (h : RTc σ N M z f n) : AGR [xIOB, xNSE] (oCl x (if σ 11 (ix x) = 0 then oX xNSE else oI (σ 12 (ix x)))) (bif inR x 0 19 then (if N (631 + ix x) = 0 then 2 else 0) else 1) (bif inR x 0 19 then (if N (631 + ix x) = 0 then 0 else N (651 + ix x)) else 0) := by
  obtain ⟨⟨v, T, hz⟩, -⟩ := h
  refine cl_agr rfl (fun c hc e hx => ?_) (fun q => by rw [q, cond_false])
  rw [hx, cond_true, cond_true, e, ixn (by omega), hz.1.r1.c11 hc, hz.1.r12 c hc]
  by_cases q : N (631 + c) = 0
  · rw [if_pos q, if_pos q, if_pos q]
    exact AGR.exc (by decide) (by decide +kernel)
  · rw [if_neg q, if_neg q, if_neg q, if_neg q]
    exact AGR.ret
theorem op_remembered {x : Int32} (h : RTc σ N M z f n) : AGR [xIOB, xNSE] (oCl x (if σ 13 (ix x) = -1 then oX xNSE else oI (σ 13 (ix x)))) (bif inR x 0 19 then (if N (711 + ix x) = 0 then 2 else 0) else 1) (bif inR x 0 19 then (if N (711 + ix x) = 0 then 0 else N (711 + ix x) - 1) else 0) := by
  obtain ⟨⟨v, T, hz⟩, -⟩ := h
  refine cl_agr rfl (fun c hc e hx => ?_) (fun q => by rw [q, cond_false])
  rw [hx, cond_true, cond_true, e, ixn (by omega), hz.1.r13 c hc]
  obtain ⟨y, hy, e2⟩ := hz.2.2.1.re c hc
  rw [e2]
  cases y with
  | zero =>
    rw [if_pos (show nI 0 - 1 = -1 from rfl), if_pos (show nI 0 = 0 from rfl), if_pos (show nI 0 = 0 from rfl)]
    exact AGR.exc (by decide) (by decide +kernel)
  | succ y =>
    have n0 : ¬ nI (y + 1) = 0 := nI_ne (b := 0) (by omega) (by decide) (by omega)
    rw [nI_pr, if_neg (nI_m1 (by omega)), if_neg n0, if_neg n0]
    exact AGR.ret
theorem lkL_eq {x : Int32} : (inR x 0 19 = false ∧ lkL N x = 1) ∨ ∃ c, c < 20 ∧ x = nI c ∧ inR x 0 19 = true ∧ ((bdM N c = false ∧ lkL N (nI c) = 2) ∨ (bdM N c = true ∧ lkL N (nI c) = 0)) := by
  cases hx : inR x 0 19
  · exact Or.inl ⟨rfl, by rw [lkL, hx, cond_false]⟩
  · obtain ⟨c, hc, rfl⟩ := inR_19 hx
    refine Or.inr ⟨c, hc, rfl, rfl, ?_⟩
    rw [lkL, hx, cond_true, ixn (by omega)]
    cases bdM N c
    · exact Or.inl ⟨rfl, rfl⟩
    · exact Or.inr ⟨rfl, rfl⟩
/-- calls for a bound client -/
theorem bd_agr {L : List String} {x : Int32} {o : OT} {T R : Int32} (h : RR σ N v) (hL : ∃ L', L = xIOB :: xNSE :: L') (h0 : ∀ c, c < 20 → x = nI c → bdM N c = true → lkL N x = 0 → AGR L o T R) (hT : ∀ k, lkL N x = k → ¬ lkL N x ≤ 0 → T = k) : AGR L (oBd σ x o) T R := by
  obtain ⟨L', rfl⟩ := hL
  unfold oBd
  rw [inC_R]
  rcases lkL_eq (N := N) (x := x) with ⟨e1, e2⟩ | ⟨c, hc, rfl, e1, ⟨e2, e3⟩ | ⟨e2, e3⟩⟩
  · rw [e1, cond_false, hT 1 e2 (by rw [e2]; decide)]
    exact AGR.exc List.mem_cons_self (by simp [hcd, List.findIdx_cons]; rfl)
  · rw [e1, cond_true, bd_n h.r1 hc, e2, cond_false, hT 2 e3 (by rw [e3]; decide)]
    exact AGR.exc (List.mem_cons_of_mem _ List.mem_cons_self) (by simp [hcd, List.findIdx_cons]; rfl)
  · rw [e1, cond_true, bd_n h.r1 hc, e2, cond_true]
    exact h0 c hc rfl e2 e3
theorem inR_02 {q : Int32} (h : inR q 0 2 = true) : q = 0 ∨ q = 1 ∨ q = 2 := by
  obtain ⟨j, hj, rfl⟩ := inR_2 h
  rcases (show j = 0 ∨ j = 1 ∨ j = 2 by omega) with rfl | rfl | rfl
  · exact Or.inl rfl
  · exact Or.inr (Or.inl rfl)
  · exact Or.inr (Or.inr rfl)
theorem op_timer {x q : Int32} (h : RTc σ N M z f n) : AGR [xIOB, xNSE, xIAE] (oBd σ x (oTim σ x q)) (if lkL N x ≤ 0 then (bif inR q 0 2 then lkL N x else 3) else lkL N x) (if lkL N x ≤ 0 then (bif inR q 0 2 then (if q = 0 then N (671 + ix x) else if q = 1 then N (691 + ix x) else N (431 + ix (N (651 + ix x)))) else 0) else 0) := by
  obtain ⟨⟨v, T, hz⟩, -⟩ := h
  refine bd_agr hz.1 ⟨_, rfl⟩ (fun c hc e hb hl => ?_) (fun k e1 e2 => by rw [if_neg e2]; exact e1)
  rw [if_pos (show lkL N x ≤ 0 by rw [hl]; decide), if_pos (show lkL N x ≤ 0 by rw [hl]; decide), hl, e, ixn (by omega)]
  unfold oTim
  rw [ixn (by omega)]
  cases hq : inR q 0 2
  · have nq : ∀ k : Nat, k ≤ 2 → ¬ q = nI k := fun k hk e => by
      rw [e, show (0 : Int32) = nI 0 from rfl, show (2 : Int32) = nI 2 from rfl, inR_n (by omega) (by decide) (by decide)] at hq
      rw [inB_iff.mpr ⟨by omega, hk⟩] at hq
      exact absurd hq (by decide)
    rw [if_neg (show ¬ q = 0 from nq 0 (by omega)), if_neg (show ¬ q = 1 from nq 1 (by omega)), if_neg (show ¬ q = 2 from nq 2 (by omega)), cond_false, cond_false]
    exact AGR.exc (by decide) (by decide +kernel)
  · rw [cond_true, cond_true]
    rcases inR_02 hq with rfl | rfl | rfl
    · rw [if_pos rfl, if_pos rfl, hz.1.r1.c14 hc]; exact AGR.ret
    · rw [if_neg (show ¬ (1 : Int32) = 0 by decide), if_pos rfl, if_neg (show ¬ (1 : Int32) = 0 by decide), if_pos rfl, hz.1.r1.c15 hc]; exact AGR.ret
    · rw [if_neg (show ¬ (2 : Int32) = 0 by decide), if_neg (show ¬ (2 : Int32) = 1 by decide), if_pos rfl, if_neg (show ¬ (2 : Int32) = 0 by decide), if_neg (show ¬ (2 : Int32) = 1 by decide), lEnd_n hz.1 hz.2.2.1 hc (bdM_ne hb).1]; exact AGR.ret
theorem op_countState {g y : Int32} (h : RTc σ N M z f n) : AGR [xIOB, xIAE] (oCnt σ g y) (bif inR g 0 2 then (bif inR y 0 3 then 0 else 2) else 1) (bif inR g 0 2 then (bif inR y 0 3 then cuM N g y else 0) else 0) := by
  obtain ⟨⟨v, T, hz⟩, -⟩ := h
  unfold oCnt
  rw [inG_R]
  cases hg : inR g 0 2
  · rw [cond_false, cond_false, cond_false]
    exact AGR.exc (by decide) (by decide +kernel)
  · rw [cond_true, cond_true, cond_true]
    by_cases h1 : y < 0
    · rw [if_pos h1, bool_no (B := inR y 0 3) (fun q => (inR_hi.mp q).1 h1), cond_false, cond_false]
      exact AGR.exc (by decide) (by decide +kernel)
    · rw [if_neg h1]
      by_cases h2 : y ≤ 3
      · obtain ⟨g', hg', rfl⟩ := inR_2 hg
        rw [if_pos h2, inR_hi.mpr ⟨h1, h2⟩, cond_true, cond_true, gc_eq hz.1.r1 hz.2.2.1.po (nI_m1 (by omega)) h1]
        exact AGR.ret
      · rw [if_neg h2, bool_no (B := inR y 0 3) (fun q => h2 (inR_hi.mp q).2), cond_false, cond_false]
        exact AGR.exc (by decide) (by decide +kernel)
theorem op_nextCandidate {x g : Int32} (h : RTc σ N M z f n) : AGR [xIOB, xNSE] (oNx σ x g) (bif ncB x g then (if 0 ≤ caM N (ix x) g (-1) then 0 else 2) else 1) (bif ncB x g then (if 0 ≤ caM N (ix x) g (-1) then caM N (ix x) g (-1) else 0) else 0) := by
  obtain ⟨⟨v, T, hz⟩, -⟩ := h
  unfold oNx ncB
  rw [inC_R, inG_R]
  cases hx : inR x 0 19
  · rw [cond_false, Bool.false_and, cond_false, cond_false]
    exact AGR.exc (by decide) (by decide +kernel)
  cases hg : inR g 0 2
  · rw [cond_true, cond_false, Bool.and_false, cond_false, cond_false]
    exact AGR.exc (by decide) (by decide +kernel)
  obtain ⟨c, hc, rfl⟩ := inR_19 hx
  obtain ⟨g', hg', rfl⟩ := inR_2 hg
  rw [cond_true, cond_true, Bool.and_true, cond_true, cond_true, fCd_eq hz.1 hz.2.2.1 hc (nI_m1 (by omega)), ixn (by omega)]
  rcases caM_cases (g := nI g') (x := -1) hz.2.2.1.mx hc with e | ⟨y, hy, e, -⟩
  · rw [e, if_pos rfl, if_neg (show ¬ (0 : Int32) ≤ -1 by decide), if_neg (show ¬ (0 : Int32) ≤ -1 by decide)]
    exact AGR.exc (by decide) (by decide +kernel)
  · rw [e, if_neg (nI_m1 (by omega)), if_pos (nI_0le (by omega)), if_pos (nI_0le (by omega))]
    exact AGR.ret
end OP2
