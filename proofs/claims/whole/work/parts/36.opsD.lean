def RE (τ σ : Sto) : Prop := (τ 0 0 = σ 0 0) ∧ (∀ j, j < 5 → τ 1 j = σ 1 j) ∧ (∀ j, j < 5 → τ 2 j = σ 2 j) ∧ (∀ j, j < 5 → τ 3 j = σ 3 j) ∧ (∀ j, j < 5 → τ 4 j = σ 4 j) ∧ (∀ j, j < 100 → τ 5 j = σ 5 j) ∧ (∀ j, j < 100 → τ 6 j = σ 6 j) ∧ (∀ j, j < 100 → τ 7 j = σ 7 j) ∧ (∀ j, j < 100 → τ 8 j = σ 8 j) ∧ (∀ j, j < 100 → τ 9 j = σ 9 j) ∧ (∀ j, j < 100 → τ 10 j = σ 10 j) ∧ (∀ j, j < 20 → τ 11 j = σ 11 j) ∧ (∀ j, j < 20 → τ 12 j = σ 12 j) ∧ (∀ j, j < 20 → τ 13 j = σ 13 j) ∧ (∀ j, j < 20 → τ 14 j = σ 14 j) ∧ (∀ j, j < 20 → τ 15 j = σ 15 j) ∧ (τ 16 0 = σ 16 0) ∧ (τ 17 0 = σ 17 0) ∧ (τ 18 0 = σ 18 0) ∧ (τ 19 0 = σ 19 0) ∧ (∀ j, j < 3 → τ 20 j = σ 20 j) ∧ (∀ j, j < 3 → τ 21 j = σ 21 j)
theorem RE.e0 {τ σ : Sto} (h : RE τ σ) : τ 0 0 = σ 0 0 := h.1
theorem RE.e1 {τ σ : Sto} (h : RE τ σ) : ∀ j, j < 5 → τ 1 j = σ 1 j := h.2.1
theorem RE.e2 {τ σ : Sto} (h : RE τ σ) : ∀ j, j < 5 → τ 2 j = σ 2 j := h.2.2.1
theorem RE.e3 {τ σ : Sto} (h : RE τ σ) : ∀ j, j < 5 → τ 3 j = σ 3 j := h.2.2.2.1
theorem RE.e4 {τ σ : Sto} (h : RE τ σ) : ∀ j, j < 5 → τ 4 j = σ 4 j := h.2.2.2.2.1
theorem RE.e5 {τ σ : Sto} (h : RE τ σ) : ∀ j, j < 100 → τ 5 j = σ 5 j := h.2.2.2.2.2.1
theorem RE.e6 {τ σ : Sto} (h : RE τ σ) : ∀ j, j < 100 → τ 6 j = σ 6 j := h.2.2.2.2.2.2.1
theorem RE.e7 {τ σ : Sto} (h : RE τ σ) : ∀ j, j < 100 → τ 7 j = σ 7 j := h.2.2.2.2.2.2.2.1
theorem RE.e8 {τ σ : Sto} (h : RE τ σ) : ∀ j, j < 100 → τ 8 j = σ 8 j := h.2.2.2.2.2.2.2.2.1
theorem RE.e9 {τ σ : Sto} (h : RE τ σ) : ∀ j, j < 100 → τ 9 j = σ 9 j := h.2.2.2.2.2.2.2.2.2.1
theorem RE.e10 {τ σ : Sto} (h : RE τ σ) : ∀ j, j < 100 → τ 10 j = σ 10 j := h.2.2.2.2.2.2.2.2.2.2.1
theorem RE.e11 {τ σ : Sto} (h : RE τ σ) : ∀ j, j < 20 → τ 11 j = σ 11 j := h.2.2.2.2.2.2.2.2.2.2.2.1
theorem RE.e12 {τ σ : Sto} (h : RE τ σ) : ∀ j, j < 20 → τ 12 j = σ 12 j := h.2.2.2.2.2.2.2.2.2.2.2.2.1
theorem RE.e13 {τ σ : Sto} (h : RE τ σ) : ∀ j, j < 20 → τ 13 j = σ 13 j := h.2.2.2.2.2.2.2.2.2.2.2.2.2.1
theorem RE.e14 {τ σ : Sto} (h : RE τ σ) : ∀ j, j < 20 → τ 14 j = σ 14 j := h.2.2.2.2.2.2.2.2.2.2.2.2.2.2.1
theorem RE.e15 {τ σ : Sto} (h : RE τ σ) : ∀ j, j < 20 → τ 15 j = σ 15 j := h.2.2.2.2.2.2.2.2.2.2.2.2.2.2.2.1
theorem RE.e16 {τ σ : Sto} (h : RE τ σ) : τ 16 0 = σ 16 0 := h.2.2.2.2.2.2.2.2.2.2.2.2.2.2.2.2.1
theorem RE.e17 {τ σ : Sto} (h : RE τ σ) : τ 17 0 = σ 17 0 := h.2.2.2.2.2.2.2.2.2.2.2.2.2.2.2.2.2.1
theorem RE.e18 {τ σ : Sto} (h : RE τ σ) : τ 18 0 = σ 18 0 := h.2.2.2.2.2.2.2.2.2.2.2.2.2.2.2.2.2.2.1
theorem RE.e19 {τ σ : Sto} (h : RE τ σ) : τ 19 0 = σ 19 0 := h.2.2.2.2.2.2.2.2.2.2.2.2.2.2.2.2.2.2.2.1
theorem RE.e20 {τ σ : Sto} (h : RE τ σ) : ∀ j, j < 3 → τ 20 j = σ 20 j := h.2.2.2.2.2.2.2.2.2.2.2.2.2.2.2.2.2.2.2.2.1
theorem RE.e21 {τ σ : Sto} (h : RE τ σ) : ∀ j, j < 3 → τ 21 j = σ 21 j := h.2.2.2.2.2.2.2.2.2.2.2.2.2.2.2.2.2.2.2.2.2
theorem R1.ext4 {σ τ : Sto} {N N' : Nat → Int32} {v : Nat} (h : R1 σ N v) (hv : v ≤ 5) (e : RE τ σ) (hN : ∀ i, i < 731 → N' i = N i) : R1 τ N' v := ⟨e.e0.trans (h.c0.trans (hN 4 (by omega)).symm), fun j hj => (e.e1 j (by omega)).trans ((h.c1 hj).trans (hN _ (by omega)).symm), fun j hj => (e.e2 j (by omega)).trans ((h.c2 hj).trans (hN _ (by omega)).symm), fun j hj => (e.e3 j (by omega)).trans ((h.c3 hj).trans (hN _ (by omega)).symm), fun j hj => (e.e4 j (by omega)).trans ((h.c4 hj).trans (hN _ (by omega)).symm), fun j hj => (e.e5 j hj).trans ((h.c5 hj).trans (hN _ (by omega)).symm), fun j hj => (e.e6 j hj).trans ((h.c6 hj).trans (hN _ (by omega)).symm), fun j hj => (e.e7 j hj).trans ((h.c7 hj).trans (hN _ (by omega)).symm), fun j hj => (e.e9 j hj).trans ((h.c9 hj).trans (hN _ (by omega)).symm), fun j hj => (e.e11 j hj).trans ((h.c11 hj).trans (hN _ (by omega)).symm), fun j hj => (e.e14 j hj).trans ((h.c14 hj).trans (hN _ (by omega)).symm), fun j hj => (e.e15 j hj).trans ((h.c15 hj).trans (hN _ (by omega)).symm), e.e17.trans (h.c17.trans (hN 1 (by omega)).symm), e.e18.trans (h.c18.trans (hN 2 (by omega)).symm), e.e19.trans (h.c19.trans (hN 3 (by omega)).symm), fun j hj => (e.e20 j hj).trans ((h.c20 hj).trans (hN _ (by omega)).symm), fun j hj => (e.e21 j hj).trans ((h.c21 hj).trans (hN _ (by omega)).symm)⟩
theorem SP.lt {N N' : Nat → Int32} (hN : ∀ i, i < 731 → N' i = N i) : SP N' N := fun i _ _ => hN i (by omega)
theorem RR.ext4 {σ τ : Sto} {N N' : Nat → Int32} {v : Nat} (h : RR σ N v) (e : RE τ σ) (hN : ∀ i, i < 731 → N' i = N i) : RR τ N' v := by
  refine ⟨h.hv, h.r1.ext4 h.hv e hN, fun j hj => ?_, fun j hj hi => ?_, fun c hc => ?_, fun c hc => ?_⟩
  · rw [e.e8 j hj, hN (231 + j) (by omega), hN (331 + j) (by omega)]; exact h.r8 j hj
  · rw [e.e10 j hj, hN (531 + j) (by omega)]; exact h.r10 j hj ((iP_same (SP.lt hN) j).mp hi)
  · rw [e.e12 c hc, hN (631 + c) (by omega), hN (651 + c) (by omega)]; exact h.r12 c hc
  · rw [e.e13 c hc, hN (711 + c) (by omega)]; exact h.r13 c hc
theorem IV.ext4 {N N' : Nat → Int32} {v T lb : Nat} (h : IV N v T lb) (hN : ∀ i, i < 731 → N' i = N i) : IV N' v T lb := by
  have hs := SP.lt hN
  refine ⟨h.po.same hs, fun j hj => ?_, fun g hg => ?_, (hN 0 (by omega)).trans h.tm, h.tl, ?_, ?_, fun c hc => ?_, fun c hc => ?_, fun c hc => ?_, fun c hc => ?_, fun j hj => ?_⟩
  · rw [hN (31 + j) (by omega), hN (131 + j) (by omega)]; exact h.fl j hj
  · rw [hN _ (by omega)]; exact h.gf g hg
  · rw [hN 1 (by omega)]; exact h.ho
  · rw [hN 2 (by omega)]; exact h.qu
  · rw [hN _ (by omega)]; exact h.re c hc
  · rw [hN _ (by omega)]; exact h.ad c hc
  · rw [hN _ (by omega)]; exact h.hd c hc
  · exact (h.cl c hc).keep hs (hN _ (by omega)) (hN _ (by omega)) (hN _ (by omega)) (hN _ (by omega)) (hN _ (by omega)) (fun j hj a1 a2 a3 a4 => ⟨hN _ (by omega), hN _ (by omega), hN _ (by omega)⟩)
  · exact (h.av j hj).keep hs (hN _ (by omega)) (hN _ (by omega)) (hN _ (by omega)) (fun c hc a1 a2 a3 => ⟨by rw [hN _ (by omega)]; exact a2, hN _ (by omega)⟩)
theorem cpy_at {f g : Nat → Int32} {n j : Nat} (h : j < n) : va_cpy f g 0 0 n j = f j := by
  show (if 0 ≤ j ∧ j < 0 + n then f (0 + (j - 0)) else g j) = f j
  rw [if_pos (by omega), Nat.sub_zero, Nat.zero_add]
section OP4
variable {σ : Sto} {N M f : Nat → Int32} {n z : Int32} {v T lb j c : Nat}
theorem RE.rf {σ : Sto} : RE σ σ := ⟨rfl, fun _ _ => rfl, fun _ _ => rfl, fun _ _ => rfl, fun _ _ => rfl, fun _ _ => rfl, fun _ _ => rfl, fun _ _ => rfl, fun _ _ => rfl, fun _ _ => rfl, fun _ _ => rfl, fun _ _ => rfl, fun _ _ => rfl, fun _ _ => rfl, fun _ _ => rfl, fun _ _ => rfl, rfl, rfl, rfl, rfl, fun _ _ => rfl, fun _ _ => rfl⟩
theorem op_flg (h : RTc σ N M z f n) : FLG (σ 5) 100 ∧ FLG (σ 6) 100 ∧ FLG (σ 20) 3 ∧ FLG (σ 21) 3 := by
  obtain ⟨⟨v, T, hz⟩, hsd⟩ := h
  refine ⟨fun j hj => ?_, fun j hj => ?_, fun j hj => ?_, fun j hj => ?_⟩
  · rw [hz.1.r1.c5 hj]; exact (hz.2.2.1.fl j hj).1
  · rw [hz.1.r1.c6 hj]; exact (hz.2.2.1.fl j hj).2
  · rw [hz.1.r1.c20 hj]; exact hz.2.2.1.gf j (by omega)
  · rw [hz.1.r1.c21 hj]
    have q := hz.2.2.1.gf (3 + j) (by omega)
    rw [show 25 + (3 + j) = 28 + j by omega] at q
    exact q
theorem op_flg2 (h : RTc σ N M z f n) : FLG (σ 27) 100 ∧ FLG (σ 28) 100 ∧ FLG (σ 42) 3 ∧ FLG (σ 43) 3 := ⟨h.2.2.1, h.2.2.2.1, h.2.2.2.2.1, h.2.2.2.2.2.1⟩
theorem sv_RE : RE (fun k => svS σ (22 + k)) σ := ⟨rfl, fun j hj => cpy_at hj, fun j hj => cpy_at hj, fun j hj => cpy_at hj, fun j hj => cpy_at hj, fun j hj => if_pos hj, fun j hj => if_pos hj, fun j hj => cpy_at hj, fun j hj => cpy_at hj, fun j hj => cpy_at hj, fun j hj => cpy_at hj, fun j hj => cpy_at hj, fun j hj => cpy_at hj, fun j hj => cpy_at hj, fun j hj => cpy_at hj, fun j hj => cpy_at hj, rfl, rfl, rfl, rfl, fun j hj => if_pos hj, fun j hj => if_pos hj⟩
theorem re_RE : RE (cp5_r σ) (fun k => σ (22 + k)) := ⟨rfl, fun j hj => cpy_at hj, fun j hj => cpy_at hj, fun j hj => cpy_at hj, fun j hj => cpy_at hj, fun j hj => if_pos hj, fun j hj => if_pos hj, fun j hj => cpy_at hj, fun j hj => cpy_at hj, fun j hj => cpy_at hj, fun j hj => cpy_at hj, fun j hj => cpy_at hj, fun j hj => cpy_at hj, fun j hj => cpy_at hj, fun j hj => cpy_at hj, fun j hj => cpy_at hj, rfl, rfl, rfl, rfl, fun j hj => if_pos hj, fun j hj => if_pos hj⟩
theorem sv_lo {k : Nat} (h : k < 22 ∨ 44 ≤ k ∧ k < 47) : svS σ k = σ k := by
  unfold svS cp5_s cp4_s cp1_s cp0_s cp3_s
  simp only [put_n (show k ≠ 47 by omega), put_n (show k ≠ 22 by omega), put_n (show k ≠ 23 by omega), put_n (show k ≠ 24 by omega), put_n (show k ≠ 25 by omega), put_n (show k ≠ 26 by omega), put_n (show k ≠ 27 by omega), put_n (show k ≠ 28 by omega), put_n (show k ≠ 29 by omega), put_n (show k ≠ 30 by omega), put_n (show k ≠ 31 by omega), put_n (show k ≠ 32 by omega), put_n (show k ≠ 33 by omega), put_n (show k ≠ 34 by omega), put_n (show k ≠ 35 by omega), put_n (show k ≠ 36 by omega), put_n (show k ≠ 37 by omega), put_n (show k ≠ 38 by omega), put_n (show k ≠ 39 by omega), put_n (show k ≠ 40 by omega), put_n (show k ≠ 41 by omega), put_n (show k ≠ 42 by omega), put_n (show k ≠ 43 by omega)]
theorem re_hi {k : Nat} (h : 22 ≤ k) : cp5_r σ k = σ k := by
  unfold cp5_r cp4_r cp1_r cp0_r cp3_r
  simp only [put_n (show k ≠ 0 by omega), put_n (show k ≠ 1 by omega), put_n (show k ≠ 2 by omega), put_n (show k ≠ 3 by omega), put_n (show k ≠ 4 by omega), put_n (show k ≠ 5 by omega), put_n (show k ≠ 6 by omega), put_n (show k ≠ 7 by omega), put_n (show k ≠ 8 by omega), put_n (show k ≠ 9 by omega), put_n (show k ≠ 10 by omega), put_n (show k ≠ 11 by omega), put_n (show k ≠ 12 by omega), put_n (show k ≠ 13 by omega), put_n (show k ≠ 14 by omega), put_n (show k ≠ 15 by omega), put_n (show k ≠ 16 by omega), put_n (show k ≠ 17 by omega), put_n (show k ≠ 18 by omega), put_n (show k ≠ 19 by omega), put_n (show k ≠ 20 by omega), put_n (show k ≠ 21 by omega)]
theorem cp_lt {f g : Nat → Int32} {k : Nat} : ∀ i, i < k → cpR g f k i = g i := fun i hi => if_pos hi
theorem op_save (h : RTc σ N M z f n) : bdC (svS σ) = boM N ∧ RTc (svS σ) N (cpR N M 731) 1 f n := by
  have key : RTc (svS σ) N (cpR N M 731) 1 f n := by
    obtain ⟨f5, f6, f20, f21⟩ := op_flg h
    obtain ⟨⟨v, T, hz⟩, hsd⟩ := h
    refine ⟨⟨v, T, hz.1.ext (fun k j hk => congrFun (sv_lo (Or.inl hk)) j), hz.2.1.ext (sv_lo (by decide)) (sv_lo (by decide)) (sv_lo (by decide)), hz.2.2.1, (congrFun (sv_lo (by decide)) 0).trans hz.2.2.2⟩, rfl, fun j hj => ?_, fun j hj => ?_, fun j hj => ?_, fun j hj => ?_, fun _ => ⟨v, T, hz.1.ext4 sv_RE cp_lt, hz.2.2.1.ext4 cp_lt, hz.2.2.2⟩⟩
    · have := sv_RE.e5 (σ := σ) j hj
      show svS σ (22 + 5) j = 0 ∨ svS σ (22 + 5) j = 1
      rw [this]; exact f5 j hj
    · have := sv_RE.e6 (σ := σ) j hj
      show svS σ (22 + 6) j = 0 ∨ svS σ (22 + 6) j = 1
      rw [this]; exact f6 j hj
    · have := sv_RE.e20 (σ := σ) j hj
      show svS σ (22 + 20) j = 0 ∨ svS σ (22 + 20) j = 1
      rw [this]; exact f20 j hj
    · have := sv_RE.e21 (σ := σ) j hj
      show svS σ (22 + 21) j = 0 ∨ svS σ (22 + 21) j = 1
      rw [this]; exact f21 j hj
  exact ⟨op_bound key, key⟩
theorem op_restore (h : RTc σ N M z f n) : AGR [xISE] (oRes σ) (if z = 0 then 1 else 0) (if z = 0 then 0 else boM (cpR M N 731)) ∧ RTc (tRes σ) (if z = 0 then N else cpR M N 731) M z f n := by
  obtain ⟨⟨v, T, hz⟩, hsd⟩ := id h
  have e47 : σ 47 0 = z := hsd.1
  unfold oRes tRes
  rw [e47]
  by_cases q : z = 0
  · rw [if_pos q, if_pos q, if_pos q, if_pos q, if_pos q]
    exact ⟨AGR.exc (by decide) (by decide +kernel), h⟩
  · rw [if_neg q, if_neg q, if_neg q, if_neg q, if_neg q]
    obtain ⟨v', T', k1, k2, k3⟩ := hsd.2.2.2.2.2 q
    have key : RTc (cp5_r σ) (cpR M N 731) M z f n := ⟨⟨v', T', k1.ext4 re_RE cp_lt, hz.2.1.ext (re_hi (by decide)) (re_hi (by decide)) (re_hi (by decide)), k2.ext4 cp_lt, k3⟩, hsd.keep (fun k hk => re_hi (by omega))⟩
    refine ⟨?_, key⟩
    rw [op_bound key]
    exact AGR.ret
theorem op_logB {x : Int32} (h : RTc σ N M z f n) : ¬ x < 0 → x < σ 45 0 → vp_in (fmd (σ 46 0 - 1 - x) 30) 30 := fun h1 h2 => by
  rcases op_log (x := x) h with q | q
  · exact q
  · exact absurd ⟨Int32.not_lt.mp h1, h2⟩ q
end OP4
def oneB : Nat → Int32 := upd (upd (upd (fun _ => 0) (ix 0) 1) (ix (0 + 1)) 1) (ix ((0 + 1) + 1)) 1
def sg0 : Sto := fun k => match k with
  | 8 => flR (fun _ => 0) (-1) 100
  | 10 => flR (fun _ => 0) (-1) 100
  | 12 => flR (fun _ => 0) (-1) 20
  | 13 => flR (fun _ => 0) (-1) 20
  | 17 => sc 10
  | 18 => sc 100
  | 20 => oneB
  | 21 => oneB
  | 30 => flR (fun _ => 0) (-1) 100
  | 32 => flR (fun _ => 0) (-1) 100
  | 34 => flR (fun _ => 0) (-1) 20
  | 35 => flR (fun _ => 0) (-1) 20
  | 39 => sc 10
  | 40 => sc 100
  | 42 => oneB
  | 43 => oneB
  | _ => fun _ => 0
def N0 : Nat → Int32 := upd (upd (upd (upd (upd (upd (upd (upd (fun _ => 0) (ix 1) 10) (ix 2) 100) (ix (25 + 0)) 1) (ix (28 + 0)) 1) (ix (25 + (0 + 1))) 1) (ix (28 + (0 + 1))) 1) (ix (25 + ((0 + 1) + 1))) 1) (ix (28 + ((0 + 1) + 1))) 1
theorem N0_no {i : Nat} (h : i ≠ 1 ∧ i ≠ 2 ∧ (i < 25 ∨ 31 ≤ i)) : N0 i = 0 := by
  unfold N0
  rw [pk_un (show i ≠ ix (28 + ((0 + 1) + 1)) from fun q => absurd (q.trans (show ix (28 + ((0 + 1) + 1)) = 30 by decide)) (by omega)), pk_un (show i ≠ ix (25 + ((0 + 1) + 1)) from fun q => absurd (q.trans (show ix (25 + ((0 + 1) + 1)) = 27 by decide)) (by omega)), pk_un (show i ≠ ix (28 + (0 + 1)) from fun q => absurd (q.trans (show ix (28 + (0 + 1)) = 29 by decide)) (by omega)), pk_un (show i ≠ ix (25 + (0 + 1)) from fun q => absurd (q.trans (show ix (25 + (0 + 1)) = 26 by decide)) (by omega)), pk_un (show i ≠ ix (28 + 0) from fun q => absurd (q.trans (show ix (28 + 0) = 28 by decide)) (by omega)), pk_un (show i ≠ ix (25 + 0) from fun q => absurd (q.trans (show ix (25 + 0) = 25 by decide)) (by omega)), pk_un (show i ≠ ix 2 from fun q => absurd (q.trans (show ix 2 = 2 by decide)) (by omega)), pk_un (show i ≠ ix 1 from fun q => absurd (q.trans (show ix 1 = 1 by decide)) (by omega))]
theorem PO_0 : PO N0 0 := ⟨by omega, N0_no (by omega), fun p hp => absurd hp (Nat.not_lt_zero p), fun p q _ hq => absurd hq (Nat.not_lt_zero q)⟩
theorem IV_0 : IV N0 0 0 1 := by
  refine ⟨PO_0, fun j hj => ⟨Or.inl (N0_no (by omega)), Or.inl (N0_no (by omega))⟩, by decide +kernel, N0_no (by omega), by omega, ⟨10, by decide +kernel, by omega, by omega⟩, ⟨100, by decide +kernel, by omega, by omega⟩, fun c hc => ⟨0, by omega, N0_no (by omega)⟩, fun c hc => ⟨0, by omega, N0_no (by omega)⟩, fun c hc => ⟨0, by omega, N0_no (by omega)⟩, fun c hc => Or.inl (N0_no (by omega)), fun j hj => Or.inl (N0_no (by omega))⟩
theorem fl_at {v : Int32} {n j : Nat} (h : j < n) : flR (fun _ => 0) v n j = v := if_pos h
theorem RR_0 : RR sg0 N0 0 := by
  refine ⟨by omega, ⟨?_, fun j hj => absurd hj (Nat.not_lt_zero j), fun j hj => absurd hj (Nat.not_lt_zero j), fun j hj => absurd hj (Nat.not_lt_zero j), fun j hj => absurd hj (Nat.not_lt_zero j), fun j hj => (N0_no (by omega)).symm, fun j hj => (N0_no (by omega)).symm, fun j hj => (N0_no (by omega)).symm, fun j hj => (N0_no (by omega)).symm, fun j hj => (N0_no (by omega)).symm, fun j hj => (N0_no (by omega)).symm, fun j hj => (N0_no (by omega)).symm, by decide +kernel, by decide +kernel, by decide +kernel, by decide +kernel, by decide +kernel⟩, fun j hj => ?_, fun j hj hi => ?_, fun c hc => ?_, fun c hc => ?_⟩
  · exact (N0_no (by omega)).symm
  · rw [N0_no (i := 231 + j) (by omega), if_neg (by decide)]; exact fl_at hj
  · unfold iP at hi
    rw [ow_no PO_0 (by omega) (fun p hp => absurd hp (Nat.not_lt_zero p))] at hi
    exact absurd hi (by decide)
  · rw [N0_no (i := 631 + c) (by omega), if_pos rfl]; exact fl_at hc
  · rw [N0_no (i := 711 + c) (by omega)]; exact fl_at hc
theorem op_init : RTc sg0 N0 (fun _ => 0) 0 (fun _ => 0) 0 := by
  refine ⟨⟨0, 0, RR_0, ⟨0, 0, by omega, by omega, rfl, rfl, rfl, fun i hi => absurd hi (Nat.not_lt_zero i)⟩, IV_0, rfl⟩, rfl, fun j hj => Or.inl rfl, fun j hj => Or.inl rfl, by unfold FLG; decide +kernel, by unfold FLG; decide +kernel, fun q => absurd rfl q⟩
set_option maxHeartbeats 4000000 in
set_option maxRecDepth 100000 in
theorem k_X6_logB (E : kE) (l : Launch) (hlt : l.stackTraces = false) (wr : va_W) (b : Nat → Nat) (μ : Sto) (a : Nat → Nat) (σ : Sto) (x : Int32) (hf : ¬ x < 0 → x < σ 45 0 → vp_in (fmd (σ 46 0 - 1 - x) 30) 30) : KT E l yX6_log cX6_log 2 (some .int) 6 90 4 24 [.ref (a 0), .int x] (WW E b μ a σ wr) (oLog σ x) (WW E b μ a σ wr) := by
  refine KT_start (own := RX6) (by decide +kernel) rfl [(0, .ref (a 0)), (1, .int x)] rfl (Nat.le_of_ble_eq_true rfl) (fun p e s m below meth c X hr hT hZ => ?_)
  refine g_iload_n X dX6_log_0 1 rfl rfl ?_
  refine g_if_lt X dX6_log_1 15 4 rfl rfl (fun c1 => ?_) (fun c1 => ?_)
  · skip
    exact g_throwSW X hlt hT hZ LX_IOB (List.mem_of_getElem? (i := 23) rfl) dX6_log_15 dX6_log_18 dX6_log_19 dX6_log_22 dX6_log_25 (Nat.le_of_ble_eq_true rfl) (Nat.le_of_ble_eq_true rfl) ⟨(Nat.le_of_ble_eq_true rfl), (Nat.le_of_ble_eq_true rfl)⟩ (Nat.le_of_ble_eq_true rfl) (Nat.le_of_ble_eq_true rfl) (by simp [oLog, c1]) rfl
  · skip
    refine g_iload_n X dX6_log_4 5 rfl rfl ?_
    refine g_aload_n X dX6_log_5 6 rfl rfl ?_
    refine g_get X FL_X6_10 dX6_log_6 9 rfl 4 rfl (v := .ref (a 1)) rfl ?_
    refine g_get X FL_X6_276 dX6_log_9 12 rfl 5 rfl (v := .int (σ 45 0)) rfl ?_
    refine g_ic_lt X dX6_log_12 26 15 rfl rfl (fun c2 => ?_) (fun c2 => ?_)
    · skip
      refine g_aload_n X dX6_log_26 27 rfl rfl ?_
      refine g_get X FL_X6_10 dX6_log_27 30 rfl 4 rfl (v := .ref (a 1)) rfl ?_
      refine g_iload_n X dX6_log_30 31 rfl rfl ?_
      refine c_V X Lk_X6_284 (k_X2_read E l wr b μ a σ x (hf c1 c2)) dX6_log_31 rfl 5 rfl rfl rfl (Nat.le_of_ble_eq_true rfl) ⟨(Nat.le_of_ble_eq_true rfl), (Nat.le_of_ble_eq_true rfl)⟩ ⟨(Nat.le_of_ble_eq_true rfl), (Nat.le_of_ble_eq_true rfl)⟩ 34 rfl [.int (σ 44 (ix (fmd (σ 46 0 - 1 - x) 30)))] rfl ?_
      exact g_iretT X hr dX6_log_34 (Nat.le_of_ble_eq_true rfl) (Nat.le_of_ble_eq_true rfl) (by simp [oLog, c1, c2]) rfl
    · skip
      exact g_throwSW X hlt hT hZ LX_IOB (List.mem_of_getElem? (i := 23) rfl) dX6_log_15 dX6_log_18 dX6_log_19 dX6_log_22 dX6_log_25 (Nat.le_of_ble_eq_true rfl) (Nat.le_of_ble_eq_true rfl) ⟨(Nat.le_of_ble_eq_true rfl), (Nat.le_of_ble_eq_true rfl)⟩ (Nat.le_of_ble_eq_true rfl) (Nat.le_of_ble_eq_true rfl) (by simp [oLog, c1, c2]) rfl


set_option maxHeartbeats 4000000 in
set_option maxRecDepth 100000 in
theorem k_X7_advanceB (E : kE) (l : Launch) (wr : va_W) (b : Nat → Nat) (μ : Sto) (a : Nat → Nat) (σ : Sto) (x : Int32) (v : Nat) (Q : (Nat → Int32) → Prop) (hA0 : inR x 1 2000 = true → (μ 1) 0 + x ≤ 100000 → AG Q ((μ 1) 0 + x) v) (hQ0 : Q (μ 1)) (hL : LG (μ 5 0)) : KM E l yX7_advance cX7_advance 4 (some .int) 6 138 0 0 [.ref (b 0), .int x] (WW E b μ a σ wr) (some (.int (bif inR x 1 2000 then (if ((μ 1) 0 + x) ≤ 100000 then nI (avS (μ 1) (μ 4) (μ 5 0) ((μ 1) 0 + x)).2.2.2 else 0) else 0))) (WW E b (put (put (put (put μ 0 (sc (bif inR x 1 2000 then (if ((μ 1) 0 + x) ≤ 100000 then 0 else 2) else 1))) 1 (bif inR x 1 2000 then (if ((μ 1) 0 + x) ≤ 100000 then upd (avS (μ 1) (μ 4) (μ 5 0) ((μ 1) 0 + x)).1 0 ((μ 1) 0 + x) else (μ 1)) else (μ 1))) 4 (bif inR x 1 2000 then (if ((μ 1) 0 + x) ≤ 100000 then (avS (μ 1) (μ 4) (μ 5 0) ((μ 1) 0 + x)).2.1 else (μ 4)) else (μ 4))) 5 (sc (bif inR x 1 2000 then (if ((μ 1) 0 + x) ≤ 100000 then (avS (μ 1) (μ 4) (μ 5 0) ((μ 1) 0 + x)).2.2.1 else (μ 5 0)) else (μ 5 0)))) a σ wr) := by
  refine K_start (own := RX7) (by decide +kernel) rfl [(0, .ref (b 0)), (1, .int x)] rfl (Nat.le_of_ble_eq_true rfl) (fun p e s m below meth c X hr hin => ?_)
  refine g_aload_n X dX7_advance_0 1 rfl rfl ?_
  refine g_iconst X dX7_advance_1 2 rfl (v := 0) rfl ?_
  refine g_put X FL_X7_19 fk_X7 dX7_advance_2 5 rfl rfl 0 rfl rfl rfl (Nat.le_of_ble_eq_true rfl) (WW E b (put μ 0 (sc 0)) a σ wr) rfl ?_
  refine g_iload_n X dX7_advance_5 6 rfl rfl ?_
  refine g_iconst X dX7_advance_6 7 rfl (v := 1) rfl ?_
  refine g_sipush X dX7_advance_7 10 rfl (v := 2000) rfl ?_
  refine c_S X Lk_X7_23 (k_X7_in E l wr b (put μ 0 (sc 0)) a σ x 1 2000) dX7_advance_10 rfl rfl (Nat.le_of_ble_eq_true rfl) ⟨(Nat.le_of_ble_eq_true rfl), (Nat.le_of_ble_eq_true rfl)⟩ ⟨(Nat.le_of_ble_eq_true rfl), (Nat.le_of_ble_eq_true rfl)⟩ 13 rfl [.int (bi (inR x 1 2000))] rfl ?_
  refine g_ifb_ne X dX7_advance_13 22 16 rfl rfl (fun c1 => ?_) (fun c1 => ?_)
  · skip
    refine g_aload_n X dX7_advance_22 23 rfl rfl ?_
    refine g_get X FL_X7_9 dX7_advance_23 26 rfl 0 rfl (v := .ref (b 1)) rfl ?_
    refine g_iconst X dX7_advance_26 27 rfl (v := 0) rfl ?_
    refine g_ialdN (j := 0) (f := (μ 1)) X dX7_advance_27 28 rfl 1 rfl (by omega) (by decide) ?_
    refine g_iload_n X dX7_advance_28 29 rfl rfl ?_
    refine g_iadd X dX7_advance_29 30 rfl ?_
    refine g_ldc X Co_X7_107 dX7_advance_30 32 rfl ?_
    refine g_ic_le X dX7_advance_32 41 35 rfl rfl (fun c2 => ?_) (fun c2 => ?_)
    · skip
      have hA := hA0 c1 c2
      refine g_aload_n X dX7_advance_41 42 rfl rfl ?_
      refine g_get X FL_X7_9 dX7_advance_42 45 rfl 0 rfl (v := .ref (b 1)) rfl ?_
      refine g_iconst X dX7_advance_45 46 rfl (v := 0) rfl ?_
      refine g_ialdN (j := 0) (f := (μ 1)) X dX7_advance_46 47 rfl 1 rfl (by omega) (by decide) ?_
      refine g_iload_n X dX7_advance_47 48 rfl rfl ?_
      refine g_iadd X dX7_advance_48 49 rfl ?_
      refine g_istore_n X dX7_advance_49 50 rfl (by decide) [(2, .int ((μ 1 0) + x)), (0, .ref (b 0)), (1, .int x)] rfl ?_
      refine g_iconst X dX7_advance_50 51 rfl (v := 0) rfl ?_
      refine g_istore_n X dX7_advance_51 52 rfl (by decide) [(3, .int 0), (2, .int ((μ 1 0) + x)), (0, .ref (b 0)), (1, .int x)] rfl ?_
      have La : ∀ (F k : Nat) (N f : Nat → Int32) (n : Int32), ((((μ 1) 0 + x).toInt - (N 0).toInt).toNat ≤ F) → (Q N) → (LG n) → (avL ((μ 1) 0 + x) F (N, f, n, k) = avS (μ 1) (μ 4) (μ 5 0) ((μ 1) 0 + x)) →  G E (va_A (WW E b μ a σ wr) s.heap.size) 4 p l e ({ frames := 6, cells := 0, slots := 0, locals := 138 } : Room) s m (([.ref (b 0), .int x] : List Value).toArray) below meth c (MQ below (KQ E (WW E b μ a σ wr) s.heap.size (fun _ : Unit => (some (.int (bif inR x 1 2000 then (if ((μ 1) 0 + x) ≤ 100000 then nI (avS (μ 1) (μ 4) (μ 5 0) ((μ 1) 0 + x)).2.2.2 else 0) else 0)))) (fun _ => WW E b (put (put (put (put μ 0 (sc (bif inR x 1 2000 then (if ((μ 1) 0 + x) ≤ 100000 then 0 else 2) else 1))) 1 (bif inR x 1 2000 then (if ((μ 1) 0 + x) ≤ 100000 then upd (avS (μ 1) (μ 4) (μ 5 0) ((μ 1) 0 + x)).1 0 ((μ 1) 0 + x) else (μ 1)) else (μ 1))) 4 (bif inR x 1 2000 then (if ((μ 1) 0 + x) ≤ 100000 then (avS (μ 1) (μ 4) (μ 5 0) ((μ 1) 0 + x)).2.1 else (μ 4)) else (μ 4))) 5 (sc (bif inR x 1 2000 then (if ((μ 1) 0 + x) ≤ 100000 then (avS (μ 1) (μ 4) (μ 5 0) ((μ 1) 0 + x)).2.2.1 else (μ 5 0)) else (μ 5 0)))) a σ wr)) (([.ref (b 0), .int x] : List Value).toArray) s 0 0 (va_A (WW E b μ a σ wr) s.heap.size)) 0 0 (WW E b (put (put (put (put μ 0 (sc 0)) 1 N) 4 f) 5 (sc n)) a σ wr) 52 [(0, .ref (b 0)), (1, .int x), (2, .int ((μ 1 0) + x)), (3, .int (nI k))] [] := by
        intro F
        induction F with
        | zero =>
          intro k N f n hm hQ hl hv
          have hx := (hA N hQ).1
          refine g_aload_n X dX7_advance_52 53 rfl rfl ?_
          refine c_V X Lk_X7_108 (k_X7_earliest E l wr b (put (put (put (put μ 0 (sc 0)) 1 N) 4 f) 5 (sc n)) a σ v hx) dX7_advance_53 rfl 0 rfl rfl rfl (Nat.le_of_ble_eq_true rfl) ⟨(Nat.le_of_ble_eq_true rfl), (Nat.le_of_ble_eq_true rfl)⟩ ⟨(Nat.le_of_ble_eq_true rfl), (Nat.le_of_ble_eq_true rfl)⟩ 56 rfl [.int (eaM N)] rfl ?_
          refine g_if_lt X dX7_advance_56 81 59 rfl rfl (fun c3 => ?_) (fun c3 => ?_)
          · skip
            have h9 : avS (μ 1) (μ 4) (μ 5 0) ((μ 1) 0 + x) = (N, f, n, k) := hv.symm.trans avL_0
            refine g_aload_n X dX7_advance_81 82 rfl rfl ?_
            refine g_get X FL_X7_9 dX7_advance_82 85 rfl 0 rfl (v := .ref (b 1)) rfl ?_
            refine g_iconst X dX7_advance_85 86 rfl (v := 0) rfl ?_
            refine g_iload_n X dX7_advance_86 87 rfl rfl ?_
            refine g_iastN (j := 0) (f := N) X dX7_advance_87 88 rfl 1 rfl (by omega) (by decide) (WW E b (put (put (put (put μ 0 (sc 0)) 4 f) 5 (sc n)) 1 (upd N 0 ((μ 1 0) + x))) a σ wr) rfl ?_
            refine g_iload_n X dX7_advance_88 89 rfl rfl ?_
            exact g_iret X hr dX7_advance_89 () (by show (some (.int (bif inR x 1 2000 then (if ((μ 1) 0 + x) ≤ 100000 then nI (avS (μ 1) (μ 4) (μ 5 0) ((μ 1) 0 + x)).2.2.2 else 0) else 0)) : Option Value) = some (.int (nI k)); rw [c1, cond_true, if_pos c2] <;> try rw [h9]) (by refine WW_eq ?_ ?_ ?_ ?_ ?_ ?_; (simp only [put_s, sc, pn_01, pn_02, pn_03, pn_04, pn_05, pn_10, pn_12, pn_13, pn_14, pn_15, pn_20, pn_21, pn_23, pn_24, pn_25, pn_30, pn_31, pn_32, pn_34, pn_35, pn_40, pn_41, pn_42, pn_43, pn_45, pn_50, pn_51, pn_52, pn_53, pn_54]; show 0 = (bif inR x 1 2000 then (if ((μ 1) 0 + x) ≤ 100000 then 0 else 2) else 1); rw [c1, cond_true, if_pos c2] <;> try rw [h9]); (simp only [put_s, sc, pn_01, pn_02, pn_03, pn_04, pn_05, pn_10, pn_12, pn_13, pn_14, pn_15, pn_20, pn_21, pn_23, pn_24, pn_25, pn_30, pn_31, pn_32, pn_34, pn_35, pn_40, pn_41, pn_42, pn_43, pn_45, pn_50, pn_51, pn_52, pn_53, pn_54]; show (upd N 0 ((μ 1 0) + x)) = (bif inR x 1 2000 then (if ((μ 1) 0 + x) ≤ 100000 then upd (avS (μ 1) (μ 4) (μ 5 0) ((μ 1) 0 + x)).1 0 ((μ 1) 0 + x) else (μ 1)) else (μ 1)); rw [c1, cond_true, if_pos c2] <;> try rw [h9]); simp only [put_s, sc, pn_01, pn_02, pn_03, pn_04, pn_05, pn_10, pn_12, pn_13, pn_14, pn_15, pn_20, pn_21, pn_23, pn_24, pn_25, pn_30, pn_31, pn_32, pn_34, pn_35, pn_40, pn_41, pn_42, pn_43, pn_45, pn_50, pn_51, pn_52, pn_53, pn_54]; simp only [put_s, sc, pn_01, pn_02, pn_03, pn_04, pn_05, pn_10, pn_12, pn_13, pn_14, pn_15, pn_20, pn_21, pn_23, pn_24, pn_25, pn_30, pn_31, pn_32, pn_34, pn_35, pn_40, pn_41, pn_42, pn_43, pn_45, pn_50, pn_51, pn_52, pn_53, pn_54]; (simp only [put_s, sc, pn_01, pn_02, pn_03, pn_04, pn_05, pn_10, pn_12, pn_13, pn_14, pn_15, pn_20, pn_21, pn_23, pn_24, pn_25, pn_30, pn_31, pn_32, pn_34, pn_35, pn_40, pn_41, pn_42, pn_43, pn_45, pn_50, pn_51, pn_52, pn_53, pn_54]; show f = (bif inR x 1 2000 then (if ((μ 1) 0 + x) ≤ 100000 then (avS (μ 1) (μ 4) (μ 5 0) ((μ 1) 0 + x)).2.1 else (μ 4)) else (μ 4)); rw [c1, cond_true, if_pos c2] <;> try rw [h9]); (simp only [put_s, sc, pn_01, pn_02, pn_03, pn_04, pn_05, pn_10, pn_12, pn_13, pn_14, pn_15, pn_20, pn_21, pn_23, pn_24, pn_25, pn_30, pn_31, pn_32, pn_34, pn_35, pn_40, pn_41, pn_42, pn_43, pn_45, pn_50, pn_51, pn_52, pn_53, pn_54]; show n = (bif inR x 1 2000 then (if ((μ 1) 0 + x) ≤ 100000 then (avS (μ 1) (μ 4) (μ 5 0) ((μ 1) 0 + x)).2.2.1 else (μ 5 0)) else (μ 5 0)); rw [c1, cond_true, if_pos c2] <;> try rw [h9]))
          · skip
            refine g_aload_n X dX7_advance_59 60 rfl rfl ?_
            refine c_V X Lk_X7_108 (k_X7_earliest E l wr b (put (put (put (put μ 0 (sc 0)) 1 N) 4 f) 5 (sc n)) a σ v hx) dX7_advance_60 rfl 0 rfl rfl rfl (Nat.le_of_ble_eq_true rfl) ⟨(Nat.le_of_ble_eq_true rfl), (Nat.le_of_ble_eq_true rfl)⟩ ⟨(Nat.le_of_ble_eq_true rfl), (Nat.le_of_ble_eq_true rfl)⟩ 63 rfl [.int (eaM N)] rfl ?_
            refine g_iload_n X dX7_advance_63 64 rfl rfl ?_
            refine g_ic_gt X dX7_advance_64 81 67 rfl rfl (fun c4 => ?_) (fun c4 => absurd (av_no hA hQ hm c3) c4)
            have h9 : avS (μ 1) (μ 4) (μ 5 0) ((μ 1) 0 + x) = (N, f, n, k) := hv.symm.trans avL_0
            refine g_aload_n X dX7_advance_81 82 rfl rfl ?_
            refine g_get X FL_X7_9 dX7_advance_82 85 rfl 0 rfl (v := .ref (b 1)) rfl ?_
            refine g_iconst X dX7_advance_85 86 rfl (v := 0) rfl ?_
            refine g_iload_n X dX7_advance_86 87 rfl rfl ?_
            refine g_iastN (j := 0) (f := N) X dX7_advance_87 88 rfl 1 rfl (by omega) (by decide) (WW E b (put (put (put (put μ 0 (sc 0)) 4 f) 5 (sc n)) 1 (upd N 0 ((μ 1 0) + x))) a σ wr) rfl ?_
            refine g_iload_n X dX7_advance_88 89 rfl rfl ?_
            exact g_iret X hr dX7_advance_89 () (by show (some (.int (bif inR x 1 2000 then (if ((μ 1) 0 + x) ≤ 100000 then nI (avS (μ 1) (μ 4) (μ 5 0) ((μ 1) 0 + x)).2.2.2 else 0) else 0)) : Option Value) = some (.int (nI k)); rw [c1, cond_true, if_pos c2] <;> try rw [h9]) (by refine WW_eq ?_ ?_ ?_ ?_ ?_ ?_; (simp only [put_s, sc, pn_01, pn_02, pn_03, pn_04, pn_05, pn_10, pn_12, pn_13, pn_14, pn_15, pn_20, pn_21, pn_23, pn_24, pn_25, pn_30, pn_31, pn_32, pn_34, pn_35, pn_40, pn_41, pn_42, pn_43, pn_45, pn_50, pn_51, pn_52, pn_53, pn_54]; show 0 = (bif inR x 1 2000 then (if ((μ 1) 0 + x) ≤ 100000 then 0 else 2) else 1); rw [c1, cond_true, if_pos c2] <;> try rw [h9]); (simp only [put_s, sc, pn_01, pn_02, pn_03, pn_04, pn_05, pn_10, pn_12, pn_13, pn_14, pn_15, pn_20, pn_21, pn_23, pn_24, pn_25, pn_30, pn_31, pn_32, pn_34, pn_35, pn_40, pn_41, pn_42, pn_43, pn_45, pn_50, pn_51, pn_52, pn_53, pn_54]; show (upd N 0 ((μ 1 0) + x)) = (bif inR x 1 2000 then (if ((μ 1) 0 + x) ≤ 100000 then upd (avS (μ 1) (μ 4) (μ 5 0) ((μ 1) 0 + x)).1 0 ((μ 1) 0 + x) else (μ 1)) else (μ 1)); rw [c1, cond_true, if_pos c2] <;> try rw [h9]); simp only [put_s, sc, pn_01, pn_02, pn_03, pn_04, pn_05, pn_10, pn_12, pn_13, pn_14, pn_15, pn_20, pn_21, pn_23, pn_24, pn_25, pn_30, pn_31, pn_32, pn_34, pn_35, pn_40, pn_41, pn_42, pn_43, pn_45, pn_50, pn_51, pn_52, pn_53, pn_54]; simp only [put_s, sc, pn_01, pn_02, pn_03, pn_04, pn_05, pn_10, pn_12, pn_13, pn_14, pn_15, pn_20, pn_21, pn_23, pn_24, pn_25, pn_30, pn_31, pn_32, pn_34, pn_35, pn_40, pn_41, pn_42, pn_43, pn_45, pn_50, pn_51, pn_52, pn_53, pn_54]; (simp only [put_s, sc, pn_01, pn_02, pn_03, pn_04, pn_05, pn_10, pn_12, pn_13, pn_14, pn_15, pn_20, pn_21, pn_23, pn_24, pn_25, pn_30, pn_31, pn_32, pn_34, pn_35, pn_40, pn_41, pn_42, pn_43, pn_45, pn_50, pn_51, pn_52, pn_53, pn_54]; show f = (bif inR x 1 2000 then (if ((μ 1) 0 + x) ≤ 100000 then (avS (μ 1) (μ 4) (μ 5 0) ((μ 1) 0 + x)).2.1 else (μ 4)) else (μ 4)); rw [c1, cond_true, if_pos c2] <;> try rw [h9]); (simp only [put_s, sc, pn_01, pn_02, pn_03, pn_04, pn_05, pn_10, pn_12, pn_13, pn_14, pn_15, pn_20, pn_21, pn_23, pn_24, pn_25, pn_30, pn_31, pn_32, pn_34, pn_35, pn_40, pn_41, pn_42, pn_43, pn_45, pn_50, pn_51, pn_52, pn_53, pn_54]; show n = (bif inR x 1 2000 then (if ((μ 1) 0 + x) ≤ 100000 then (avS (μ 1) (μ 4) (μ 5 0) ((μ 1) 0 + x)).2.2.1 else (μ 5 0)) else (μ 5 0)); rw [c1, cond_true, if_pos c2] <;> try rw [h9]))
        | succ F ih =>
          intro k N f n hm hQ hl hv
          have hx := (hA N hQ).1
          refine g_aload_n X dX7_advance_52 53 rfl rfl ?_
          refine c_V X Lk_X7_108 (k_X7_earliest E l wr b (put (put (put (put μ 0 (sc 0)) 1 N) 4 f) 5 (sc n)) a σ v hx) dX7_advance_53 rfl 0 rfl rfl rfl (Nat.le_of_ble_eq_true rfl) ⟨(Nat.le_of_ble_eq_true rfl), (Nat.le_of_ble_eq_true rfl)⟩ ⟨(Nat.le_of_ble_eq_true rfl), (Nat.le_of_ble_eq_true rfl)⟩ 56 rfl [.int (eaM N)] rfl ?_
          refine g_if_lt X dX7_advance_56 81 59 rfl rfl (fun c5 => ?_) (fun c5 => ?_)
          · skip
            have h9 : avS (μ 1) (μ 4) (μ 5 0) ((μ 1) 0 + x) = (N, f, n, k) := hv.symm.trans (avL_n (Or.inl c5))
            refine g_aload_n X dX7_advance_81 82 rfl rfl ?_
            refine g_get X FL_X7_9 dX7_advance_82 85 rfl 0 rfl (v := .ref (b 1)) rfl ?_
            refine g_iconst X dX7_advance_85 86 rfl (v := 0) rfl ?_
            refine g_iload_n X dX7_advance_86 87 rfl rfl ?_
            refine g_iastN (j := 0) (f := N) X dX7_advance_87 88 rfl 1 rfl (by omega) (by decide) (WW E b (put (put (put (put μ 0 (sc 0)) 4 f) 5 (sc n)) 1 (upd N 0 ((μ 1 0) + x))) a σ wr) rfl ?_
            refine g_iload_n X dX7_advance_88 89 rfl rfl ?_
            exact g_iret X hr dX7_advance_89 () (by show (some (.int (bif inR x 1 2000 then (if ((μ 1) 0 + x) ≤ 100000 then nI (avS (μ 1) (μ 4) (μ 5 0) ((μ 1) 0 + x)).2.2.2 else 0) else 0)) : Option Value) = some (.int (nI k)); rw [c1, cond_true, if_pos c2] <;> try rw [h9]) (by refine WW_eq ?_ ?_ ?_ ?_ ?_ ?_; (simp only [put_s, sc, pn_01, pn_02, pn_03, pn_04, pn_05, pn_10, pn_12, pn_13, pn_14, pn_15, pn_20, pn_21, pn_23, pn_24, pn_25, pn_30, pn_31, pn_32, pn_34, pn_35, pn_40, pn_41, pn_42, pn_43, pn_45, pn_50, pn_51, pn_52, pn_53, pn_54]; show 0 = (bif inR x 1 2000 then (if ((μ 1) 0 + x) ≤ 100000 then 0 else 2) else 1); rw [c1, cond_true, if_pos c2] <;> try rw [h9]); (simp only [put_s, sc, pn_01, pn_02, pn_03, pn_04, pn_05, pn_10, pn_12, pn_13, pn_14, pn_15, pn_20, pn_21, pn_23, pn_24, pn_25, pn_30, pn_31, pn_32, pn_34, pn_35, pn_40, pn_41, pn_42, pn_43, pn_45, pn_50, pn_51, pn_52, pn_53, pn_54]; show (upd N 0 ((μ 1 0) + x)) = (bif inR x 1 2000 then (if ((μ 1) 0 + x) ≤ 100000 then upd (avS (μ 1) (μ 4) (μ 5 0) ((μ 1) 0 + x)).1 0 ((μ 1) 0 + x) else (μ 1)) else (μ 1)); rw [c1, cond_true, if_pos c2] <;> try rw [h9]); simp only [put_s, sc, pn_01, pn_02, pn_03, pn_04, pn_05, pn_10, pn_12, pn_13, pn_14, pn_15, pn_20, pn_21, pn_23, pn_24, pn_25, pn_30, pn_31, pn_32, pn_34, pn_35, pn_40, pn_41, pn_42, pn_43, pn_45, pn_50, pn_51, pn_52, pn_53, pn_54]; simp only [put_s, sc, pn_01, pn_02, pn_03, pn_04, pn_05, pn_10, pn_12, pn_13, pn_14, pn_15, pn_20, pn_21, pn_23, pn_24, pn_25, pn_30, pn_31, pn_32, pn_34, pn_35, pn_40, pn_41, pn_42, pn_43, pn_45, pn_50, pn_51, pn_52, pn_53, pn_54]; (simp only [put_s, sc, pn_01, pn_02, pn_03, pn_04, pn_05, pn_10, pn_12, pn_13, pn_14, pn_15, pn_20, pn_21, pn_23, pn_24, pn_25, pn_30, pn_31, pn_32, pn_34, pn_35, pn_40, pn_41, pn_42, pn_43, pn_45, pn_50, pn_51, pn_52, pn_53, pn_54]; show f = (bif inR x 1 2000 then (if ((μ 1) 0 + x) ≤ 100000 then (avS (μ 1) (μ 4) (μ 5 0) ((μ 1) 0 + x)).2.1 else (μ 4)) else (μ 4)); rw [c1, cond_true, if_pos c2] <;> try rw [h9]); (simp only [put_s, sc, pn_01, pn_02, pn_03, pn_04, pn_05, pn_10, pn_12, pn_13, pn_14, pn_15, pn_20, pn_21, pn_23, pn_24, pn_25, pn_30, pn_31, pn_32, pn_34, pn_35, pn_40, pn_41, pn_42, pn_43, pn_45, pn_50, pn_51, pn_52, pn_53, pn_54]; show n = (bif inR x 1 2000 then (if ((μ 1) 0 + x) ≤ 100000 then (avS (μ 1) (μ 4) (μ 5 0) ((μ 1) 0 + x)).2.2.1 else (μ 5 0)) else (μ 5 0)); rw [c1, cond_true, if_pos c2] <;> try rw [h9]))
          · skip
            refine g_aload_n X dX7_advance_59 60 rfl rfl ?_
            refine c_V X Lk_X7_108 (k_X7_earliest E l wr b (put (put (put (put μ 0 (sc 0)) 1 N) 4 f) 5 (sc n)) a σ v hx) dX7_advance_60 rfl 0 rfl rfl rfl (Nat.le_of_ble_eq_true rfl) ⟨(Nat.le_of_ble_eq_true rfl), (Nat.le_of_ble_eq_true rfl)⟩ ⟨(Nat.le_of_ble_eq_true rfl), (Nat.le_of_ble_eq_true rfl)⟩ 63 rfl [.int (eaM N)] rfl ?_
            refine g_iload_n X dX7_advance_63 64 rfl rfl ?_
            refine g_ic_gt X dX7_advance_64 81 67 rfl rfl (fun c6 => ?_) (fun c6 => ?_)
            · skip
              have h9 : avS (μ 1) (μ 4) (μ 5 0) ((μ 1) 0 + x) = (N, f, n, k) := hv.symm.trans (avL_n (Or.inr c6))
              refine g_aload_n X dX7_advance_81 82 rfl rfl ?_
              refine g_get X FL_X7_9 dX7_advance_82 85 rfl 0 rfl (v := .ref (b 1)) rfl ?_
              refine g_iconst X dX7_advance_85 86 rfl (v := 0) rfl ?_
              refine g_iload_n X dX7_advance_86 87 rfl rfl ?_
              refine g_iastN (j := 0) (f := N) X dX7_advance_87 88 rfl 1 rfl (by omega) (by decide) (WW E b (put (put (put (put μ 0 (sc 0)) 4 f) 5 (sc n)) 1 (upd N 0 ((μ 1 0) + x))) a σ wr) rfl ?_
              refine g_iload_n X dX7_advance_88 89 rfl rfl ?_
              exact g_iret X hr dX7_advance_89 () (by show (some (.int (bif inR x 1 2000 then (if ((μ 1) 0 + x) ≤ 100000 then nI (avS (μ 1) (μ 4) (μ 5 0) ((μ 1) 0 + x)).2.2.2 else 0) else 0)) : Option Value) = some (.int (nI k)); rw [c1, cond_true, if_pos c2] <;> try rw [h9]) (by refine WW_eq ?_ ?_ ?_ ?_ ?_ ?_; (simp only [put_s, sc, pn_01, pn_02, pn_03, pn_04, pn_05, pn_10, pn_12, pn_13, pn_14, pn_15, pn_20, pn_21, pn_23, pn_24, pn_25, pn_30, pn_31, pn_32, pn_34, pn_35, pn_40, pn_41, pn_42, pn_43, pn_45, pn_50, pn_51, pn_52, pn_53, pn_54]; show 0 = (bif inR x 1 2000 then (if ((μ 1) 0 + x) ≤ 100000 then 0 else 2) else 1); rw [c1, cond_true, if_pos c2] <;> try rw [h9]); (simp only [put_s, sc, pn_01, pn_02, pn_03, pn_04, pn_05, pn_10, pn_12, pn_13, pn_14, pn_15, pn_20, pn_21, pn_23, pn_24, pn_25, pn_30, pn_31, pn_32, pn_34, pn_35, pn_40, pn_41, pn_42, pn_43, pn_45, pn_50, pn_51, pn_52, pn_53, pn_54]; show (upd N 0 ((μ 1 0) + x)) = (bif inR x 1 2000 then (if ((μ 1) 0 + x) ≤ 100000 then upd (avS (μ 1) (μ 4) (μ 5 0) ((μ 1) 0 + x)).1 0 ((μ 1) 0 + x) else (μ 1)) else (μ 1)); rw [c1, cond_true, if_pos c2] <;> try rw [h9]); simp only [put_s, sc, pn_01, pn_02, pn_03, pn_04, pn_05, pn_10, pn_12, pn_13, pn_14, pn_15, pn_20, pn_21, pn_23, pn_24, pn_25, pn_30, pn_31, pn_32, pn_34, pn_35, pn_40, pn_41, pn_42, pn_43, pn_45, pn_50, pn_51, pn_52, pn_53, pn_54]; simp only [put_s, sc, pn_01, pn_02, pn_03, pn_04, pn_05, pn_10, pn_12, pn_13, pn_14, pn_15, pn_20, pn_21, pn_23, pn_24, pn_25, pn_30, pn_31, pn_32, pn_34, pn_35, pn_40, pn_41, pn_42, pn_43, pn_45, pn_50, pn_51, pn_52, pn_53, pn_54]; (simp only [put_s, sc, pn_01, pn_02, pn_03, pn_04, pn_05, pn_10, pn_12, pn_13, pn_14, pn_15, pn_20, pn_21, pn_23, pn_24, pn_25, pn_30, pn_31, pn_32, pn_34, pn_35, pn_40, pn_41, pn_42, pn_43, pn_45, pn_50, pn_51, pn_52, pn_53, pn_54]; show f = (bif inR x 1 2000 then (if ((μ 1) 0 + x) ≤ 100000 then (avS (μ 1) (μ 4) (μ 5 0) ((μ 1) 0 + x)).2.1 else (μ 4)) else (μ 4)); rw [c1, cond_true, if_pos c2] <;> try rw [h9]); (simp only [put_s, sc, pn_01, pn_02, pn_03, pn_04, pn_05, pn_10, pn_12, pn_13, pn_14, pn_15, pn_20, pn_21, pn_23, pn_24, pn_25, pn_30, pn_31, pn_32, pn_34, pn_35, pn_40, pn_41, pn_42, pn_43, pn_45, pn_50, pn_51, pn_52, pn_53, pn_54]; show n = (bif inR x 1 2000 then (if ((μ 1) 0 + x) ≤ 100000 then (avS (μ 1) (μ 4) (μ 5 0) ((μ 1) 0 + x)).2.2.1 else (μ 5 0)) else (μ 5 0)); rw [c1, cond_true, if_pos c2] <;> try rw [h9]))
            · skip
              have hge : 0 ≤ eaM N := Int32.not_lt.mp c5
              have hle : eaM N ≤ ((μ 1) 0 + x) := Int32.not_lt.mp c6
              obtain ⟨hlt, ⟨Pd, hG, hP0⟩, hN⟩ := (hA N hQ).2 hge hle
              refine g_iload_n X dX7_advance_67 68 rfl rfl ?_
              refine g_aload_n X dX7_advance_68 69 rfl rfl ?_
              refine g_aload_n X dX7_advance_69 70 rfl rfl ?_
              refine c_V X Lk_X7_108 (k_X7_earliest E l wr b (put (put (put (put μ 0 (sc 0)) 1 N) 4 f) 5 (sc n)) a σ v hx) dX7_advance_70 rfl 0 rfl rfl rfl (Nat.le_of_ble_eq_true rfl) ⟨(Nat.le_of_ble_eq_true rfl), (Nat.le_of_ble_eq_true rfl)⟩ ⟨(Nat.le_of_ble_eq_true rfl), (Nat.le_of_ble_eq_true rfl)⟩ 73 rfl [.int (eaM N), .ref (b 0), .int (nI k)] rfl ?_
              refine c_V X Lk_X7_112 (k_X7_happen E l wr b (put (put (put (put μ 0 (sc 0)) 1 N) 4 f) 5 (sc n)) a σ (eaM N) v Pd hG hP0 hl) dX7_advance_73 rfl 0 rfl rfl rfl (Nat.le_of_ble_eq_true rfl) ⟨(Nat.le_of_ble_eq_true rfl), (Nat.le_of_ble_eq_true rfl)⟩ ⟨(Nat.le_of_ble_eq_true rfl), (Nat.le_of_ble_eq_true rfl)⟩ 76 rfl [.int (nI (hapS N f n (eaM N)).2.2.2), .int (nI k)] rfl ?_
              refine g_iaddN X dX7_advance_76 77 rfl k ((hapS N f n (eaM N)).2.2.2) rfl rfl ?_
              refine g_istore_n X dX7_advance_77 78 rfl (by decide) [(3, .int (nI (k + (hapS N f n (eaM N)).2.2.2))), (0, .ref (b 0)), (1, .int x), (2, .int ((μ 1 0) + x))] rfl ?_
              refine g_goto X dX7_advance_78 52 rfl ?_
              refine g_lsub [1, 2, 3, 0] [(0, .ref (b 0)), (1, .int x), (2, .int ((μ 1 0) + x)), (3, .int (nI (k + (hapS N f n (eaM N)).2.2.2)))] rfl ?_
              exact ih (k + (hapS N f n (eaM N)).2.2.2) _ _ _ (av_st hm hlt (hN f n).2) (hN f n).1 (LG.hap hl) ((avL_s c5 c6).symm.trans hv)
      refine g_lsub [2, 3, 1, 0] [(0, .ref (b 0)), (1, .int x), (2, .int ((μ 1 0) + x)), (3, .int 0)] rfl ?_
      rw [show WW E b (put μ 0 (sc 0)) a σ wr = WW E b (put (put (put (put μ 0 (sc 0)) 1 (μ 1)) 4 (μ 4)) 5 (sc (μ 5 0))) a σ wr from by refine WW_eq ?_ ?_ ?_ ?_ ?_ ?_ <;> simp only [put_s, sc, pn_01, pn_02, pn_03, pn_04, pn_05, pn_10, pn_12, pn_13, pn_14, pn_15, pn_20, pn_21, pn_23, pn_24, pn_25, pn_30, pn_31, pn_32, pn_34, pn_35, pn_40, pn_41, pn_42, pn_43, pn_45, pn_50, pn_51, pn_52, pn_53, pn_54]]
      exact La _ 0 (μ 1) (μ 4) (μ 5 0) (Nat.le_refl _) hQ0 hL rfl
    · skip
      refine g_aload_n X dX7_advance_35 36 rfl rfl ?_
      refine g_iconst X dX7_advance_36 37 rfl (v := 2) rfl ?_
      refine c_V X Lk_X7_41 (k_X7_raises E l wr b (put μ 0 (sc 0)) a σ 2) dX7_advance_37 rfl 0 rfl rfl rfl (Nat.le_of_ble_eq_true rfl) ⟨(Nat.le_of_ble_eq_true rfl), (Nat.le_of_ble_eq_true rfl)⟩ ⟨(Nat.le_of_ble_eq_true rfl), (Nat.le_of_ble_eq_true rfl)⟩ 40 rfl [.int 0] rfl ?_
      exact g_iret X hr dX7_advance_40 () (by show (some (.int (bif inR x 1 2000 then (if ((μ 1) 0 + x) ≤ 100000 then nI (avS (μ 1) (μ 4) (μ 5 0) ((μ 1) 0 + x)).2.2.2 else 0) else 0)) : Option Value) = some (.int 0); rw [c1, cond_true, if_neg c2]) (by refine WW_eq ?_ ?_ ?_ ?_ ?_ ?_; (simp only [put_s, sc, pn_01, pn_02, pn_03, pn_04, pn_05, pn_10, pn_12, pn_13, pn_14, pn_15, pn_20, pn_21, pn_23, pn_24, pn_25, pn_30, pn_31, pn_32, pn_34, pn_35, pn_40, pn_41, pn_42, pn_43, pn_45, pn_50, pn_51, pn_52, pn_53, pn_54]; show 2 = (bif inR x 1 2000 then (if ((μ 1) 0 + x) ≤ 100000 then 0 else 2) else 1); rw [c1, cond_true, if_neg c2]); (simp only [put_s, sc, pn_01, pn_02, pn_03, pn_04, pn_05, pn_10, pn_12, pn_13, pn_14, pn_15, pn_20, pn_21, pn_23, pn_24, pn_25, pn_30, pn_31, pn_32, pn_34, pn_35, pn_40, pn_41, pn_42, pn_43, pn_45, pn_50, pn_51, pn_52, pn_53, pn_54]; show (μ 1) = (bif inR x 1 2000 then (if ((μ 1) 0 + x) ≤ 100000 then upd (avS (μ 1) (μ 4) (μ 5 0) ((μ 1) 0 + x)).1 0 ((μ 1) 0 + x) else (μ 1)) else (μ 1)); rw [c1, cond_true, if_neg c2]); simp only [put_s, sc, pn_01, pn_02, pn_03, pn_04, pn_05, pn_10, pn_12, pn_13, pn_14, pn_15, pn_20, pn_21, pn_23, pn_24, pn_25, pn_30, pn_31, pn_32, pn_34, pn_35, pn_40, pn_41, pn_42, pn_43, pn_45, pn_50, pn_51, pn_52, pn_53, pn_54]; simp only [put_s, sc, pn_01, pn_02, pn_03, pn_04, pn_05, pn_10, pn_12, pn_13, pn_14, pn_15, pn_20, pn_21, pn_23, pn_24, pn_25, pn_30, pn_31, pn_32, pn_34, pn_35, pn_40, pn_41, pn_42, pn_43, pn_45, pn_50, pn_51, pn_52, pn_53, pn_54]; (simp only [put_s, sc, pn_01, pn_02, pn_03, pn_04, pn_05, pn_10, pn_12, pn_13, pn_14, pn_15, pn_20, pn_21, pn_23, pn_24, pn_25, pn_30, pn_31, pn_32, pn_34, pn_35, pn_40, pn_41, pn_42, pn_43, pn_45, pn_50, pn_51, pn_52, pn_53, pn_54]; show (μ 4) = (bif inR x 1 2000 then (if ((μ 1) 0 + x) ≤ 100000 then (avS (μ 1) (μ 4) (μ 5 0) ((μ 1) 0 + x)).2.1 else (μ 4)) else (μ 4)); rw [c1, cond_true, if_neg c2]); (simp only [put_s, sc, pn_01, pn_02, pn_03, pn_04, pn_05, pn_10, pn_12, pn_13, pn_14, pn_15, pn_20, pn_21, pn_23, pn_24, pn_25, pn_30, pn_31, pn_32, pn_34, pn_35, pn_40, pn_41, pn_42, pn_43, pn_45, pn_50, pn_51, pn_52, pn_53, pn_54]; show (μ 5 0) = (bif inR x 1 2000 then (if ((μ 1) 0 + x) ≤ 100000 then (avS (μ 1) (μ 4) (μ 5 0) ((μ 1) 0 + x)).2.2.1 else (μ 5 0)) else (μ 5 0)); rw [c1, cond_true, if_neg c2]))
  · skip
    refine g_aload_n X dX7_advance_16 17 rfl rfl ?_
    refine g_iconst X dX7_advance_17 18 rfl (v := 1) rfl ?_
    refine c_V X Lk_X7_41 (k_X7_raises E l wr b (put μ 0 (sc 0)) a σ 1) dX7_advance_18 rfl 0 rfl rfl rfl (Nat.le_of_ble_eq_true rfl) ⟨(Nat.le_of_ble_eq_true rfl), (Nat.le_of_ble_eq_true rfl)⟩ ⟨(Nat.le_of_ble_eq_true rfl), (Nat.le_of_ble_eq_true rfl)⟩ 21 rfl [.int 0] rfl ?_
    exact g_iret X hr dX7_advance_21 () (by show (some (.int (bif inR x 1 2000 then (if ((μ 1) 0 + x) ≤ 100000 then nI (avS (μ 1) (μ 4) (μ 5 0) ((μ 1) 0 + x)).2.2.2 else 0) else 0)) : Option Value) = some (.int 0); rw [c1, cond_false]) (by refine WW_eq ?_ ?_ ?_ ?_ ?_ ?_; (simp only [put_s, sc, pn_01, pn_02, pn_03, pn_04, pn_05, pn_10, pn_12, pn_13, pn_14, pn_15, pn_20, pn_21, pn_23, pn_24, pn_25, pn_30, pn_31, pn_32, pn_34, pn_35, pn_40, pn_41, pn_42, pn_43, pn_45, pn_50, pn_51, pn_52, pn_53, pn_54]; show 1 = (bif inR x 1 2000 then (if ((μ 1) 0 + x) ≤ 100000 then 0 else 2) else 1); rw [c1, cond_false]); (simp only [put_s, sc, pn_01, pn_02, pn_03, pn_04, pn_05, pn_10, pn_12, pn_13, pn_14, pn_15, pn_20, pn_21, pn_23, pn_24, pn_25, pn_30, pn_31, pn_32, pn_34, pn_35, pn_40, pn_41, pn_42, pn_43, pn_45, pn_50, pn_51, pn_52, pn_53, pn_54]; show (μ 1) = (bif inR x 1 2000 then (if ((μ 1) 0 + x) ≤ 100000 then upd (avS (μ 1) (μ 4) (μ 5 0) ((μ 1) 0 + x)).1 0 ((μ 1) 0 + x) else (μ 1)) else (μ 1)); rw [c1, cond_false]); simp only [put_s, sc, pn_01, pn_02, pn_03, pn_04, pn_05, pn_10, pn_12, pn_13, pn_14, pn_15, pn_20, pn_21, pn_23, pn_24, pn_25, pn_30, pn_31, pn_32, pn_34, pn_35, pn_40, pn_41, pn_42, pn_43, pn_45, pn_50, pn_51, pn_52, pn_53, pn_54]; simp only [put_s, sc, pn_01, pn_02, pn_03, pn_04, pn_05, pn_10, pn_12, pn_13, pn_14, pn_15, pn_20, pn_21, pn_23, pn_24, pn_25, pn_30, pn_31, pn_32, pn_34, pn_35, pn_40, pn_41, pn_42, pn_43, pn_45, pn_50, pn_51, pn_52, pn_53, pn_54]; (simp only [put_s, sc, pn_01, pn_02, pn_03, pn_04, pn_05, pn_10, pn_12, pn_13, pn_14, pn_15, pn_20, pn_21, pn_23, pn_24, pn_25, pn_30, pn_31, pn_32, pn_34, pn_35, pn_40, pn_41, pn_42, pn_43, pn_45, pn_50, pn_51, pn_52, pn_53, pn_54]; show (μ 4) = (bif inR x 1 2000 then (if ((μ 1) 0 + x) ≤ 100000 then (avS (μ 1) (μ 4) (μ 5 0) ((μ 1) 0 + x)).2.1 else (μ 4)) else (μ 4)); rw [c1, cond_false]); (simp only [put_s, sc, pn_01, pn_02, pn_03, pn_04, pn_05, pn_10, pn_12, pn_13, pn_14, pn_15, pn_20, pn_21, pn_23, pn_24, pn_25, pn_30, pn_31, pn_32, pn_34, pn_35, pn_40, pn_41, pn_42, pn_43, pn_45, pn_50, pn_51, pn_52, pn_53, pn_54]; show (μ 5 0) = (bif inR x 1 2000 then (if ((μ 1) 0 + x) ≤ 100000 then (avS (μ 1) (μ 4) (μ 5 0) ((μ 1) 0 + x)).2.2.1 else (μ 5 0)) else (μ 5 0)); rw [c1, cond_false]))
