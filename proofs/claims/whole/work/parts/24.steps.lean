theorem owL_c {N : Nat → Int32} {v : Nat} (h : PO N v) (x : Int32) : ∀ r i, i + r = 5 → owL N x i r = -1 ∨ ∃ p, p < v ∧ owL N x i r = nI p
  | 0, _, _ => Or.inl rfl
  | r + 1, i, hi => by
    unfold owL
    by_cases h1 : N 4 ≤ nI i
    · rw [if_pos h1]; exact Or.inl rfl
    · rw [if_neg h1]
      cases inR x (N (5 + 4 * i + 1)) (N (5 + 4 * i + 2))
      · exact owL_c h x r (i + 1) (by omega)
      · exact Or.inr ⟨i, h.lt (by omega) h1, rfl⟩
theorem ow_c {N : Nat → Int32} {v : Nat} (h : PO N v) (x : Int32) : ow N x = -1 ∨ ∃ p, p < v ∧ ow N x = nI p := owL_c h x 5 0 rfl
theorem numL_eq {σ : Sto} {N : Nat → Int32} {v : Nat} (h : R1 σ N v) (hp : PO N v) (x : Int32) : ∀ r i, i + r = 5 → numL σ x i r = owL N x i r
  | 0, _, _ => rfl
  | r + 1, i, hi => by
    have ih := numL_eq h hp x r (i + 1) (by omega)
    unfold numL owL
    rw [h.c0]
    by_cases h1 : N 4 ≤ nI i
    · rw [if_pos h1, if_pos h1]
    · have hiv := hp.lt (by omega) h1
      rw [if_neg h1, if_neg h1, h.c2 hiv, h.c3 hiv, inR]
      by_cases h2 : x < N (5 + 4 * i + 1)
      · rw [if_pos h2, decide_eq_true h2]; exact ih
      · rw [if_neg h2, decide_eq_false h2]
        by_cases h3 : N (5 + 4 * i + 2) < x
        · rw [if_pos h3, decide_eq_true h3]; exact ih
        · rw [if_neg h3, decide_eq_false h3]; rfl
theorem numAt_eq {σ : Sto} {N : Nat → Int32} {v : Nat} (h : R1 σ N v) (hp : PO N v) (x : Int32) : numAt σ x = ow N x := numL_eq h hp x 5 0 rfl
theorem isP_m1 {σ : Sto} : isP σ (-1) = false := by
  unfold isP
  rw [decide_eq_true (show (-1 : Int32) < 0 by decide)]
  rfl
theorem grpAt_eq {σ : Sto} {N : Nat → Int32} {v : Nat} (h : R1 σ N v) (hp : PO N v) (x : Int32) : grpAt σ x = gr N x := by
  unfold grpAt gr
  rw [numAt_eq h hp]
  rcases ow_c hp x with e | ⟨p, hpv, e⟩
  · rw [e, isP_m1, if_neg (by decide)]; rfl
  · have := hp.1
    rw [e, isP_n hpv hp.1 (h.c0.trans hp.2.1), if_pos (nI_0le (by omega)), ixn (by omega), cond_true]
    exact h.c1 hpv
theorem leaAt_eq {σ : Sto} {N : Nat → Int32} {v p : Nat} {x : Int32} (h : R1 σ N v) (hp : PO N v) (hpv : p < v) (e : ow N x = nI p) : leaAt σ x = N (5 + 4 * p + 3) := by
  have := hp.1
  unfold leaAt
  rw [numAt_eq h hp, e, isP_n hpv hp.1 (h.c0.trans hp.2.1), ixn (by omega), cond_true]
  exact h.c4 hpv
/-- the same pools -/
def SP (N' N : Nat → Int32) : Prop := ∀ x, 4 ≤ x → x < 25 → N' x = N x
theorem ow_same {N N' : Nat → Int32} (h : SP N' N) (x : Int32) : ow N' x = ow N x := ow_ext (h 4 (by omega) (by omega)) (fun p hp => ⟨h _ (by omega) (by omega), h _ (by omega) (by omega)⟩) 5 0 rfl
theorem iP_same {N N' : Nat → Int32} (h : SP N' N) (j : Nat) : iP N' j ↔ iP N j := by
  unfold iP
  rw [ow_same h]
theorem gr_same {N N' : Nat → Int32} {v : Nat} (h : SP N' N) (hp : PO N v) (x : Int32) : gr N' x = gr N x := by
  unfold gr
  rw [ow_same h]
  rcases ow_c hp x with e | ⟨p, hpv, e⟩
  · rw [e]; rfl
  · have := hp.1
    rw [e, ixn (by omega), h _ (by omega) (by omega)]
theorem SP.up {N : Nat → Int32} {i : Nat} {x : Int32} (hi : i < 4 ∨ 25 ≤ i) : SP (upd N i x) N := fun y h1 h2 => pk_un (by omega)
theorem SP.tr {N M K : Nat → Int32} (h : SP K M) (h2 : SP M N) : SP K N := fun x a b => (h x a b).trans (h2 x a b)
theorem SP.rf {N : Nat → Int32} : SP N N := fun _ _ _ => rfl
theorem PO.same {N N' : Nat → Int32} {v : Nat} (hs : SP N' N) (h : PO N v) : PO N' v := by
  have hv := h.1
  have e : ∀ p, p < v → pg N' p = pg N p ∧ pf N' p = pf N p ∧ pt N' p = pt N p ∧ pl N' p = pl N p := fun p hp => by
    unfold pg pf pt pl
    rw [hs _ (by omega) (by omega), hs _ (by omega) (by omega), hs _ (by omega) (by omega), hs _ (by omega) (by omega)]
    exact ⟨rfl, rfl, rfl, rfl⟩
  refine ⟨hv, (hs 4 (by omega) (by omega)).trans h.2.1, fun p hp => ?_, fun p q h1 h2 => ?_⟩
  · obtain ⟨e1, e2, e3, e4⟩ := e p hp
    unfold PO1
    rw [e1, e2, e3, e4, hs _ (by omega) (by omega), hs _ (by omega) (by omega), hs _ (by omega) (by omega), hs _ (by omega) (by omega)]
    exact h.2.2.1 p hp
  · rw [(e p (by omega)).2.2.1, (e q h2).2.1, (e q h2).2.2.1, (e p (by omega)).2.1]
    exact h.2.2.2 p q h1 h2
theorem RR.of {σ σ' : Sto} {N N' : Nat → Int32} {v : Nat} (h : RR σ N v) (r1 : R1 σ' N' v) (hs : SP N' N)
    (a8 : ∀ j, j < 100 → (σ' 8 j = σ 8 j ∧ N' (231 + j) = N (231 + j) ∧ N' (331 + j) = N (331 + j)) ∨ σ' 8 j = if N' (231 + j) = 1 ∨ N' (231 + j) = 2 then N' (331 + j) else -1)
    (a10 : ∀ j, j < 100 → (σ' 10 j = σ 10 j ∧ N' (531 + j) = N (531 + j)) ∨ σ' 10 j = N' (531 + j))
    (a12 : ∀ c, c < 20 → (σ' 12 c = σ 12 c ∧ (N' (631 + c) = 0 ↔ N (631 + c) = 0) ∧ N' (651 + c) = N (651 + c)) ∨ σ' 12 c = if N' (631 + c) = 0 then -1 else N' (651 + c))
    (a13 : ∀ c, c < 20 → (σ' 13 c = σ 13 c ∧ N' (711 + c) = N (711 + c)) ∨ σ' 13 c = N' (711 + c) - 1) : RR σ' N' v := by
  refine ⟨h.hv, r1, fun j hj => ?_, fun j hj hi => ?_, fun c hc => ?_, fun c hc => ?_⟩
  · rcases a8 j hj with ⟨e1, e2, e3⟩ | e
    · rw [e1, e2, e3]; exact h.r8 j hj
    · exact e
  · rcases a10 j hj with ⟨e1, e2⟩ | e
    · rw [e1, e2]; exact h.r10 j hj ((iP_same hs j).mp hi)
    · exact e
  · rcases a12 c hc with ⟨e1, e2, e3⟩ | e
    · rw [e1, e3, h.r12 c hc]
      by_cases q : N (631 + c) = 0
      · rw [if_pos q, if_pos (e2.mpr q)]
      · rw [if_neg q, if_neg (fun z => q (e2.mp z))]
    · exact e
  · rcases a13 c hc with ⟨e1, e2⟩ | e
    · rw [e1, e2]; exact h.r13 c hc
    · exact e
section RRS
variable {σ : Sto} {N : Nat → Int32} {v j c : Nat} {t u x : Int32}
theorem frees_n (hj : j < 100) : frees σ (nI j) t = put (put (put σ 7 (upd (σ 7) j 0)) 8 (upd (σ 8) j (-1))) 10 (upd (σ 10) j t) := by
  unfold frees
  rw [inA_n hj, cond_true, ixn (by omega)]
theorem frees_no (hx : inA x = false) : frees σ x t = σ := by
  unfold frees
  rw [hx, cond_false]
theorem helds_n {s q : Int32} (hj : j < 100) : helds σ (nI j) s q u = put (put (put σ 7 (upd (σ 7) j s)) 8 (upd (σ 8) j q)) 9 (upd (σ 9) j u) := by
  unfold helds
  rw [inA_n hj, cond_true, ixn (by omega)]
theorem idles_n (hc : c < 20) : idles σ (nI c) = put (put σ 11 (upd (σ 11) c 0)) 12 (upd (σ 12) c (-1)) := by
  unfold idles
  rw [inC_n hc, cond_true, ixn (by omega)]
theorem offs_n (hc : c < 20) : offs σ (nI c) x = put (put σ 11 (upd (σ 11) c 1)) 12 (upd (σ 12) c x) := by
  unfold offs
  rw [inC_n hc, cond_true, ixn (by omega)]
theorem leases_n {d : Int32} (hc : c < 20) : leases σ (nI c) t d = put (put (put (put σ 11 (upd (σ 11) c 2)) 13 (upd (σ 13) c (σ 12 c))) 14 (upd (σ 14) c (t + d / 2))) 15 (upd (σ 15) c (t + d * 7 / 8)) := by
  unfold leases
  rw [inC_n hc, cond_true, ixn (by omega)]
theorem RR.free (h : RR σ N v) (hj : j < 100) : RR (frees σ (nI j) t) (mFr N j t) v := by
  have hv := h.hv
  rw [frees_n hj]
  unfold mFr
  refine h.of ((((h.r1.up7 hv hj).pu (by decide)).pu (by decide)).un hv (by omega)) (SP.tr (SP.up (by omega)) (SP.up (by omega))) (fun i hi => ?_) (fun i hi => ?_) (fun c hc => Or.inl ⟨rfl, ?_, ?_⟩) (fun c hc => Or.inl ⟨rfl, ?_⟩)
  · by_cases e : i = j
    · subst e
      refine Or.inr ?_
      rw [pk_un (show 231 + i ≠ 531 + i by omega), pk_us, if_neg (by decide)]
      exact pk_us
    · refine Or.inl ⟨pk_un e, ?_, ?_⟩
      · rw [pk_un (by omega), pk_un (by omega)]
      · rw [pk_un (by omega), pk_un (by omega)]
  · by_cases e : i = j
    · subst e
      exact Or.inr (pk_us.trans pk_us.symm)
    · refine Or.inl ⟨pk_un e, ?_⟩
      rw [pk_un (by omega), pk_un (by omega)]
  · rw [pk_un (by omega), pk_un (by omega)]
  · rw [pk_un (by omega), pk_un (by omega)]
  · rw [pk_un (by omega), pk_un (by omega)]
theorem RR.idle (h : RR σ N v) (hc : c < 20) : RR (idles σ (nI c)) (upd N (631 + c) 0) v := by
  have hv := h.hv
  rw [idles_n hc]
  refine h.of ((h.r1.up11 hv hc).pu (by decide)) (SP.up (by omega)) (fun i hi => Or.inl ⟨rfl, ?_, ?_⟩) (fun i hi => Or.inl ⟨rfl, ?_⟩) (fun i hi => ?_) (fun i hi => Or.inl ⟨rfl, ?_⟩)
  · rw [pk_un (by omega)]
  · rw [pk_un (by omega)]
  · rw [pk_un (by omega)]
  · by_cases e : i = c
    · subst e
      refine Or.inr ?_
      rw [pk_us, if_pos rfl]
      exact pk_us
    · refine Or.inl ⟨pk_un e, ?_, ?_⟩
      · rw [pk_un (by omega)]
      · rw [pk_un (by omega)]
  · rw [pk_un (by omega)]
theorem RR.decl (h : RR σ N v) (hj : j < 100) : RR (helds σ (nI j) 3 (-1) u) (upd (upd N (231 + j) 3) (431 + j) u) v := by
  have hv := h.hv
  rw [helds_n hj]
  refine h.of (((h.r1.up7 hv hj).pu (by decide)).up9 hv hj) (SP.tr (SP.up (by omega)) (SP.up (by omega))) (fun i hi => ?_) (fun i hi => Or.inl ⟨rfl, ?_⟩) (fun c hc => Or.inl ⟨rfl, ?_, ?_⟩) (fun c hc => Or.inl ⟨rfl, ?_⟩)
  · by_cases e : i = j
    · subst e
      refine Or.inr ?_
      rw [pk_un (show 231 + i ≠ 431 + i by omega), pk_us, if_neg (by decide)]
      exact pk_us
    · refine Or.inl ⟨pk_un e, ?_, ?_⟩
      · rw [pk_un (by omega), pk_un (by omega)]
      · rw [pk_un (by omega), pk_un (by omega)]
  · rw [pk_un (by omega), pk_un (by omega)]
  · rw [pk_un (by omega), pk_un (by omega)]
  · rw [pk_un (by omega), pk_un (by omega)]
  · rw [pk_un (by omega), pk_un (by omega)]
/-- an offer, a lease: the holder is c -/
theorem RR.held {s : Int32} (hs : s = 1 ∨ s = 2) (h : RR σ N v) (hj : j < 100) : RR (helds σ (nI j) s x u) (upd (upd (upd N (231 + j) s) (331 + j) x) (431 + j) u) v := by
  have hv := h.hv
  rw [helds_n hj]
  refine h.of (R1.up9 (R1.un (R1.pu (h.r1.up7 hv hj) (by decide)) hv (by omega)) hv hj) (SP.tr (SP.up (by omega)) (SP.tr (SP.up (by omega)) (SP.up (by omega)))) (fun i hi => ?_) (fun i hi => Or.inl ⟨rfl, ?_⟩) (fun c hc => Or.inl ⟨rfl, ?_, ?_⟩) (fun c hc => Or.inl ⟨rfl, ?_⟩)
  · by_cases e : i = j
    · subst e
      refine Or.inr ?_
      rw [pk_un (show 231 + i ≠ 431 + i by omega), pk_un (show 231 + i ≠ 331 + i by omega), pk_us, pk_un (show 331 + i ≠ 431 + i by omega), pk_us, if_pos hs]
      exact pk_us
    · refine Or.inl ⟨pk_un e, ?_, ?_⟩
      · rw [pk_un (by omega), pk_un (by omega), pk_un (by omega)]
      · rw [pk_un (by omega), pk_un (by omega), pk_un (by omega)]
  · rw [pk_un (by omega), pk_un (by omega), pk_un (by omega)]
  · rw [pk_un (by omega), pk_un (by omega), pk_un (by omega)]
  · rw [pk_un (by omega), pk_un (by omega), pk_un (by omega)]
  · rw [pk_un (by omega), pk_un (by omega), pk_un (by omega)]
theorem RR.offs (h : RR σ N v) (hc : c < 20) : RR (offs σ (nI c) x) (upd (upd N (631 + c) 1) (651 + c) x) v := by
  have hv := h.hv
  rw [offs_n hc]
  refine h.of (R1.un (R1.pu (h.r1.up11 hv hc) (by decide)) hv (by omega)) (SP.tr (SP.up (by omega)) (SP.up (by omega))) (fun i hi => Or.inl ⟨rfl, ?_, ?_⟩) (fun i hi => Or.inl ⟨rfl, ?_⟩) (fun i hi => ?_) (fun i hi => Or.inl ⟨rfl, ?_⟩)
  · rw [pk_un (by omega), pk_un (by omega)]
  · rw [pk_un (by omega), pk_un (by omega)]
  · rw [pk_un (by omega), pk_un (by omega)]
  · by_cases e : i = c
    · subst e
      refine Or.inr ?_
      rw [pk_un (show 631 + i ≠ 651 + i by omega), pk_us, pk_us, if_neg (by decide)]
      exact pk_us
    · refine Or.inl ⟨pk_un e, ?_, ?_⟩
      · rw [pk_un (by omega), pk_un (by omega)]
      · rw [pk_un (by omega), pk_un (by omega)]
  · rw [pk_un (by omega), pk_un (by omega)]
/-- a term begins -/
theorem RR.leas {a : Nat} {d : Int32} (h : RR σ N v) (hc : c < 20) (h0 : ¬ N (631 + c) = 0) (ha : N (651 + c) = nI a) : RR (leases σ (nI c) t d) (upd (upd (upd (upd N (631 + c) 2) (711 + c) (nI (a + 1))) (671 + c) (t + d / 2)) (691 + c) (t + d * 7 / 8)) v := by
  have hv := h.hv
  rw [leases_n hc]
  refine h.of (R1.up15 (R1.up14 (R1.un (R1.pu (h.r1.up11 hv hc) (by decide)) hv (by omega)) hv hc) hv hc) (SP.tr (SP.up (by omega)) (SP.tr (SP.up (by omega)) (SP.tr (SP.up (by omega)) (SP.up (by omega))))) (fun i hi => Or.inl ⟨rfl, ?_, ?_⟩) (fun i hi => Or.inl ⟨rfl, ?_⟩) (fun i hi => Or.inl ⟨rfl, ?_, ?_⟩) (fun i hi => ?_)
  · rw [pk_un (by omega), pk_un (by omega), pk_un (by omega), pk_un (by omega)]
  · rw [pk_un (by omega), pk_un (by omega), pk_un (by omega), pk_un (by omega)]
  · rw [pk_un (by omega), pk_un (by omega), pk_un (by omega), pk_un (by omega)]
  · rw [pk_un (show 631 + i ≠ 691 + c by omega), pk_un (show 631 + i ≠ 671 + c by omega), pk_un (show 631 + i ≠ 711 + c by omega)]
    by_cases e : i = c
    · subst e
      rw [pk_us]
      exact ⟨fun q => absurd q (by decide), fun q => absurd q h0⟩
    · rw [pk_un (by omega)]
  · rw [pk_un (by omega), pk_un (by omega), pk_un (by omega), pk_un (by omega)]
  · by_cases e : i = c
    · subst e
      refine Or.inr ?_
      rw [pk_un (show 711 + i ≠ 691 + i by omega), pk_un (show 711 + i ≠ 671 + i by omega), pk_us, nI_pr]
      show upd (σ 13) i (σ 12 i) i = nI a
      rw [pk_us, h.r12 i hc, if_neg h0, ha]
    · refine Or.inl ⟨pk_un e, ?_⟩
      rw [pk_un (by omega), pk_un (by omega), pk_un (by omega), pk_un (by omega)]
theorem RR.turn {s : Int32} (h : RR σ N v) (hc : c < 20) (h0 : ¬ N (631 + c) = 0) (hs : ¬ s = 0) : RR (put σ 11 (upd (σ 11) c s)) (upd N (631 + c) s) v := by
  have hv := h.hv
  refine h.of (h.r1.up11 hv hc) (SP.up (by omega)) (fun i hi => Or.inl ⟨rfl, ?_, ?_⟩) (fun i hi => Or.inl ⟨rfl, ?_⟩) (fun i hi => Or.inl ⟨rfl, ?_, ?_⟩) (fun i hi => Or.inl ⟨rfl, ?_⟩)
  · rw [pk_un (by omega)]
  · rw [pk_un (by omega)]
  · rw [pk_un (by omega)]
  · by_cases e : i = c
    · subst e
      rw [pk_us]
      exact ⟨fun q => absurd q hs, fun q => absurd q h0⟩
    · rw [pk_un (by omega)]
  · rw [pk_un (by omega)]
  · rw [pk_un (by omega)]
theorem RR.forg (h : RR σ N v) (hc : c < 20) : RR (put σ 13 (upd (σ 13) c (-1))) (upd N (711 + c) 0) v := by
  have hv := h.hv
  refine h.of (R1.un (R1.pu h.r1 (by decide)) hv (by omega)) (SP.up (by omega)) (fun i hi => Or.inl ⟨rfl, ?_, ?_⟩) (fun i hi => Or.inl ⟨rfl, ?_⟩) (fun i hi => Or.inl ⟨rfl, ?_, ?_⟩) (fun i hi => ?_)
  · rw [pk_un (by omega)]
  · rw [pk_un (by omega)]
  · rw [pk_un (by omega)]
  · rw [pk_un (by omega)]
  · rw [pk_un (by omega)]
  · by_cases e : i = c
    · subst e
      refine Or.inr ?_
      rw [pk_us]
      exact pk_us
    · exact Or.inl ⟨pk_un e, by rw [pk_un (by omega)]⟩
theorem RR.conf (h : RR σ N v) : RR (put σ 19 (sc x)) (upd N 3 x) v := by
  have hv := h.hv
  refine h.of (h.r1.up19 hv) (SP.up (by omega)) (fun i hi => Or.inl ⟨rfl, ?_, ?_⟩) (fun i hi => Or.inl ⟨rfl, ?_⟩) (fun i hi => Or.inl ⟨rfl, ?_, ?_⟩) (fun i hi => Or.inl ⟨rfl, ?_⟩) <;> rw [pk_un (by omega)]
theorem RR.hold (h : RR σ N v) : RR (put σ 17 (sc x)) (upd N 1 x) v := by
  have hv := h.hv
  refine h.of (h.r1.up17 hv) (SP.up (by omega)) (fun i hi => Or.inl ⟨rfl, ?_, ?_⟩) (fun i hi => Or.inl ⟨rfl, ?_⟩) (fun i hi => Or.inl ⟨rfl, ?_, ?_⟩) (fun i hi => Or.inl ⟨rfl, ?_⟩) <;> rw [pk_un (by omega)]
theorem RR.quar (h : RR σ N v) : RR (put σ 18 (sc x)) (upd N 2 x) v := by
  have hv := h.hv
  refine h.of (h.r1.up18 hv) (SP.up (by omega)) (fun i hi => Or.inl ⟨rfl, ?_, ?_⟩) (fun i hi => Or.inl ⟨rfl, ?_⟩) (fun i hi => Or.inl ⟨rfl, ?_, ?_⟩) (fun i hi => Or.inl ⟨rfl, ?_⟩) <;> rw [pk_un (by omega)]
theorem RR.excl (h : RR σ N v) (hj : j < 100) : RR (put σ 5 (upd (σ 5) j x)) (upd N (31 + j) x) v := by
  have hv := h.hv
  refine h.of (h.r1.up5 hv hj) (SP.up (by omega)) (fun i hi => Or.inl ⟨rfl, ?_, ?_⟩) (fun i hi => Or.inl ⟨rfl, ?_⟩) (fun i hi => Or.inl ⟨rfl, ?_, ?_⟩) (fun i hi => Or.inl ⟨rfl, ?_⟩) <;> rw [pk_un (by omega)]
theorem RR.strg (h : RR σ N v) (hj : j < 100) : RR (put σ 6 (upd (σ 6) j x)) (upd N (131 + j) x) v := by
  have hv := h.hv
  refine h.of (h.r1.up6 hv hj) (SP.up (by omega)) (fun i hi => Or.inl ⟨rfl, ?_, ?_⟩) (fun i hi => Or.inl ⟨rfl, ?_⟩) (fun i hi => Or.inl ⟨rfl, ?_, ?_⟩) (fun i hi => Or.inl ⟨rfl, ?_⟩) <;> rw [pk_un (by omega)]
theorem RR.dire (h : RR σ N v) (hj : j < 3) : RR (put σ 20 (upd (σ 20) j x)) (upd N (25 + j) x) v := by
  have hv := h.hv
  refine h.of (h.r1.up20 hv hj) (SP.up (by omega)) (fun i hi => Or.inl ⟨rfl, ?_, ?_⟩) (fun i hi => Or.inl ⟨rfl, ?_⟩) (fun i hi => Or.inl ⟨rfl, ?_, ?_⟩) (fun i hi => Or.inl ⟨rfl, ?_⟩) <;> rw [pk_un (by omega)]
theorem RR.rela (h : RR σ N v) (hj : j < 3) : RR (put σ 21 (upd (σ 21) j x)) (upd N (28 + j) x) v := by
  have hv := h.hv
  refine h.of (h.r1.up21 hv hj) (SP.up (by omega)) (fun i hi => Or.inl ⟨rfl, ?_, ?_⟩) (fun i hi => Or.inl ⟨rfl, ?_⟩) (fun i hi => Or.inl ⟨rfl, ?_, ?_⟩) (fun i hi => Or.inl ⟨rfl, ?_⟩) <;> rw [pk_un (by omega)]
end RRS
-- the log
theorem logW_row {σ : Sto} {q x : Int32} {k : Nat} (h : k ≠ 44 ∧ k ≠ 45 ∧ k ≠ 46) : logW σ q x k = σ k := by
  unfold logW
  rw [put_n h.2.1, put_n h.2.2]
  cases (!decide (σ 46 0 < 0) && !decide (30 ≤ σ 46 0))
  · rfl
  · exact put_n h.1
theorem RR.log {σ : Sto} {N : Nat → Int32} {v : Nat} {q x : Int32} (h : RR σ N v) : RR (logW σ q x) N v := h.ext (fun k j hk => congrFun (logW_row (by omega)) j)
/-- the log of the class is the reference's -/
def LR (σ : Sto) (f : Nat → Int32) (n : Int32) : Prop := ∃ m x : Nat, m ≤ 30 ∧ x < 30 ∧ n = nI m ∧ σ 45 0 = nI m ∧ σ 46 0 = nI x ∧ ∀ i, i < m → f i = σ 44 ((x + 29 - i) % 30)
theorem LR.ext {σ τ : Sto} {f : Nat → Int32} {n : Int32} (h : LR σ f n) (h4 : τ 44 = σ 44) (h5 : τ 45 = σ 45) (h6 : τ 46 = σ 46) : LR τ f n := by
  unfold LR
  rw [h4, h5, h6]
  exact h
theorem LR.lg {σ : Sto} {f : Nat → Int32} {n : Int32} (h : LR σ f n) : LG n := by
  obtain ⟨m, x, hm, -, e, -⟩ := h
  exact ⟨m, hm, e⟩
theorem LR.log {σ : Sto} {f : Nat → Int32} {n q y : Int32} (h : LR σ f n) : LR (logW σ q y) (lgM f n q y) (lgN n) := by
  obtain ⟨m, x, hm, hx, rfl, h5, h6, hf⟩ := h
  have a0 : ¬ σ 46 0 < 0 := by rw [h6]; exact nI_pos (by omega)
  have a1 : ¬ 30 ≤ σ 46 0 := by rw [h6]; exact nI_ge (b := 30) hx (by decide)
  rw [logW_t a0 a1, h6, h5, ixn (by omega)]
  have hn : lgN (nI m) = nI (if 30 ≤ m then m else m + 1) := by
    unfold lgN
    by_cases q2 : 30 ≤ m
    · rw [if_pos (show (30 : Int32) ≤ nI m from nI_le (a := 30) q2 (by omega)), if_pos q2]
    · rw [if_neg (show ¬ (30 : Int32) ≤ nI m from nI_ge (b := 30) (by omega) (by decide)), if_neg q2, nI_1]
  have hs : (if 30 < nI m + 1 then (30 : Int32) else nI m + 1) = nI (if 30 ≤ m then m else m + 1) := by
    rw [nI_1]
    by_cases q2 : 30 ≤ m
    · rw [if_pos (show (30 : Int32) < nI (m + 1) from nI_lt (a := 30) (by omega) (by omega)), if_pos q2, show m = 30 by omega]; rfl
    · rw [if_neg (show ¬ (30 : Int32) < nI (m + 1) from nI_nlt (a := 30) (by omega) (by decide)), if_neg q2]
  have hr : (nI x + 1) - (nI x + 1) / 30 * 30 = nI ((x + 1) % 30) := by
    rw [nI_1]
    exact pk_rem (d := 30) (by omega) (by decide) (by decide)
  rw [hn, hs, hr]
  refine ⟨if 30 ≤ m then m else m + 1, (x + 1) % 30, by split <;> omega, by omega, rfl, rfl, rfl, fun i hi => ?_⟩
  show mLog f (ix (lgN (nI m))) q y i = upd (σ 44) x (q * 1000 + y) (((x + 1) % 30 + 29 - i) % 30)
  rw [hn, ixn (by split <;> omega)]
  unfold mLog
  by_cases e : i = 0
  · subst e
    rw [if_pos rfl, show ((x + 1) % 30 + 29 - 0) % 30 = x by omega, pk_us, Int32.mul_comm]
  · have hi2 : i < m + 1 ∧ i < 30 := by
      by_cases q2 : 30 ≤ m
      · rw [if_pos q2] at hi; omega
      · rw [if_neg q2] at hi; omega
    rw [if_neg e, if_pos hi, pk_un (show ((x + 1) % 30 + 29 - i) % 30 ≠ x by omega), hf (i - 1) (by omega), show (x + 29 - (i - 1)) % 30 = ((x + 1) % 30 + 29 - i) % 30 by omega]
