/-- a client that has an offer or a lease -/
def CB (N : Nat → Int32) (T lb c : Nat) : Prop := ∃ j u, j < 100 ∧ N (651 + c) = nI j ∧ N (331 + j) = nI c ∧ iP N j ∧ N (431 + j) = nI u ∧ lb ≤ u ∧ u ≤ T + 800 ∧ ((N (631 + c) = 1 ∧ N (231 + j) = 1) ∨ (N (231 + j) = 2 ∧ N (711 + c) = nI (j + 1) ∧ ∃ r b, N (671 + c) = nI r ∧ N (691 + c) = nI b ∧ r < b ∧ b < u ∧ ((N (631 + c) = 2 ∧ lb ≤ r) ∨ (N (631 + c) = 3 ∧ lb ≤ b) ∨ N (631 + c) = 4)))
def CL (N : Nat → Int32) (T lb c : Nat) : Prop := N (631 + c) = 0 ∨ CB N T lb c
def AD (N : Nat → Int32) (T lb j : Nat) : Prop := N (231 + j) = 0 ∨ (N (231 + j) = 3 ∧ iP N j ∧ ∃ u, N (431 + j) = nI u ∧ lb ≤ u ∧ u ≤ T + 800) ∨ ((N (231 + j) = 1 ∨ N (231 + j) = 2) ∧ ∃ c, c < 20 ∧ N (331 + j) = nI c ∧ ¬ N (631 + c) = 0 ∧ N (651 + c) = nI j)
theorem CB.ne {N : Nat → Int32} {T lb c : Nat} (h : CB N T lb c) : ¬ N (631 + c) = 0 := by
  obtain ⟨j, u, -, -, -, -, -, -, -, h⟩ := h
  rcases h with ⟨e, -⟩ | ⟨-, -, r, b, -, -, -, -, ⟨e, -⟩ | ⟨e, -⟩ | e⟩ <;> rw [e] <;> decide
theorem CL.busy {N : Nat → Int32} {T lb c : Nat} (h : CL N T lb c) (h0 : ¬ N (631 + c) = 0) : CB N T lb c := by
  rcases h with h | h
  · exact absurd h h0
  · exact h
def IV (N : Nat → Int32) (v T lb : Nat) : Prop := PO N v ∧ (∀ j, j < 100 → (N (31 + j) = 0 ∨ N (31 + j) = 1) ∧ (N (131 + j) = 0 ∨ N (131 + j) = 1)) ∧ (∀ g, g < 6 → N (25 + g) = 0 ∨ N (25 + g) = 1) ∧ N 0 = nI T ∧ T ≤ 100000 ∧ (∃ h, N 1 = nI h ∧ 1 ≤ h ∧ h ≤ 50) ∧ (∃ q, N 2 = nI q ∧ 1 ≤ q ∧ q ≤ 500) ∧ (∀ c, c < 20 → ∃ j, j ≤ 100 ∧ N (711 + c) = nI j) ∧ (∀ c, c < 20 → ∃ j, j < 100 ∧ N (651 + c) = nI j) ∧ (∀ a, a < 100 → ∃ c, c < 20 ∧ N (331 + a) = nI c) ∧ (∀ c, c < 20 → CL N T lb c) ∧ (∀ j, j < 100 → AD N T lb j)
section IV1
variable {N N' : Nat → Int32} {v T lb c j : Nat} {t : Int32}
theorem IV.po (h : IV N v T lb) : PO N v := h.1
theorem IV.fl (h : IV N v T lb) : ∀ j, j < 100 → (N (31 + j) = 0 ∨ N (31 + j) = 1) ∧ (N (131 + j) = 0 ∨ N (131 + j) = 1) := h.2.1
theorem IV.gf (h : IV N v T lb) : ∀ g, g < 6 → N (25 + g) = 0 ∨ N (25 + g) = 1 := h.2.2.1
theorem IV.tm (h : IV N v T lb) : N 0 = nI T := h.2.2.2.1
theorem IV.tl (h : IV N v T lb) : T ≤ 100000 := h.2.2.2.2.1
theorem IV.ho (h : IV N v T lb) : ∃ h, N 1 = nI h ∧ 1 ≤ h ∧ h ≤ 50 := h.2.2.2.2.2.1
theorem IV.qu (h : IV N v T lb) : ∃ q, N 2 = nI q ∧ 1 ≤ q ∧ q ≤ 500 := h.2.2.2.2.2.2.1
theorem IV.re (h : IV N v T lb) : ∀ c, c < 20 → ∃ j, j ≤ 100 ∧ N (711 + c) = nI j := h.2.2.2.2.2.2.2.1
theorem IV.ad (h : IV N v T lb) : ∀ c, c < 20 → ∃ j, j < 100 ∧ N (651 + c) = nI j := h.2.2.2.2.2.2.2.2.1
theorem IV.hd (h : IV N v T lb) : ∀ a, a < 100 → ∃ c, c < 20 ∧ N (331 + a) = nI c := h.2.2.2.2.2.2.2.2.2.1
theorem IV.cl (h : IV N v T lb) : ∀ c, c < 20 → CL N T lb c := h.2.2.2.2.2.2.2.2.2.2.1
theorem IV.av (h : IV N v T lb) : ∀ j, j < 100 → AD N T lb j := h.2.2.2.2.2.2.2.2.2.2.2
theorem IV.mx (h : IV N v T lb) : MX N v :=
  ⟨h.po.1, h.po.2.1, fun p hp => ⟨_, (h.po.2.2.1 p hp).2.1, (h.po.2.2.1 p hp).1⟩, fun p hp => ⟨_, by have := (h.po.2.2.1 p hp).2.2.2.2; omega, (h.po.2.2.1 p hp).2.2.1⟩, fun p hp => ⟨_, (h.po.2.2.1 p hp).2.2.2.2.2.1, (h.po.2.2.1 p hp).2.2.2.1⟩, h.ad, h.hd, h.re⟩
theorem CL.keep (h : CL N T lb c) (hs : SP N' N) (h1 : N' (631 + c) = N (631 + c)) (h2 : N' (651 + c) = N (651 + c)) (h3 : N' (671 + c) = N (671 + c)) (h4 : N' (691 + c) = N (691 + c)) (h5 : N' (711 + c) = N (711 + c))
    (hj : ∀ j, j < 100 → N (651 + c) = nI j → N (331 + j) = nI c → ¬ N (231 + j) = 0 → ¬ N (231 + j) = 3 → N' (331 + j) = N (331 + j) ∧ N' (431 + j) = N (431 + j) ∧ N' (231 + j) = N (231 + j)) : CL N' T lb c := by
  rcases h with h | ⟨j, u, b1, b2, b3, b4, b5, b6, b7, h⟩
  · exact Or.inl (h1.trans h)
  · have h8 : ¬ N (231 + j) = 0 ∧ ¬ N (231 + j) = 3 := by
      rcases h with ⟨-, e⟩ | ⟨e, -⟩ <;> rw [e] <;> decide
    obtain ⟨e1, e2, e3⟩ := hj j b1 b2 b3 h8.1 h8.2
    refine Or.inr ⟨j, u, b1, h2.trans b2, e1.trans b3, (iP_same hs j).mpr b4, e2.trans b5, b6, b7, ?_⟩
    rw [h1, h3, h4, h5, e3]
    exact h
theorem AD.keep (h : AD N T lb j) (hs : SP N' N) (h1 : N' (231 + j) = N (231 + j)) (h2 : N' (431 + j) = N (431 + j)) (h3 : N' (331 + j) = N (331 + j))
    (hc : ∀ c, c < 20 → N (331 + j) = nI c → ¬ N (631 + c) = 0 → N (651 + c) = nI j → ¬ N' (631 + c) = 0 ∧ N' (651 + c) = N (651 + c)) : AD N' T lb j := by
  rcases h with h | ⟨b1, b2, u, b3, b4, b5⟩ | ⟨b1, c, b2, b3, b4, b5⟩
  · exact Or.inl (h1.trans h)
  · exact Or.inr (Or.inl ⟨h1.trans b1, (iP_same hs j).mpr b2, u, h2.trans b3, b4, b5⟩)
  · obtain ⟨e1, e2⟩ := hc c b2 b3 b4 b5
    exact Or.inr (Or.inr ⟨by rw [h1]; exact b1, c, b2, h3.trans b3, e1, e2.trans b5⟩)
theorem IV.of (h : IV N v T lb) (hs : ∀ x, x < 231 → x ≠ 3 → N' x = N x) (h7 : ∀ c, c < 20 → ∃ j, j ≤ 100 ∧ N' (711 + c) = nI j) (h6 : ∀ c, c < 20 → ∃ j, j < 100 ∧ N' (651 + c) = nI j) (h3 : ∀ a, a < 100 → ∃ c, c < 20 ∧ N' (331 + a) = nI c) (hc : ∀ c, c < 20 → CL N' T lb c) (ha : ∀ j, j < 100 → AD N' T lb j) : IV N' v T lb :=
  ⟨h.po.same (fun x a b => hs x (by omega) (by omega)), fun j hj => by rw [hs _ (by omega) (by omega), hs _ (by omega) (by omega)]; exact h.fl j hj, fun g hg => by rw [hs _ (by omega) (by omega)]; exact h.gf g hg, (hs 0 (by omega) (by omega)).trans h.tm, h.tl, by rw [hs 1 (by omega) (by omega)]; exact h.ho, by rw [hs 2 (by omega) (by omega)]; exact h.qu, h7, h6, h3, hc, ha⟩
/-- a busy client's address -/
theorem IV.adr (h : IV N v T lb) (hc : c < 20) (h0 : ¬ N (631 + c) = 0) : ∃ j, j < 100 ∧ N (651 + c) = nI j ∧ N (331 + j) = nI c ∧ iP N j ∧ ¬ N (231 + j) = 0 ∧ ¬ N (231 + j) = 3 := by
  obtain ⟨j, u, b1, b2, b3, b4, -, -, -, h⟩ := (h.cl c hc).busy h0
  refine ⟨j, b1, b2, b3, b4, ?_⟩
  rcases h with ⟨-, e⟩ | ⟨e, -⟩ <;> rw [e] <;> decide
/-- the end of a quarantine -/
theorem IV.fr3 (h : IV N v T lb) (hj : j < 100) (h3 : N (231 + j) = 3) : IV (mFr N j t) v T lb := by
  unfold mFr
  refine h.of (fun x a b => (by rw [pk_un (by omega), pk_un (by omega)])) (fun c hc => (by rw [pk_un (by omega), pk_un (by omega)]; exact h.re _ (by omega))) (fun c hc => (by rw [pk_un (by omega), pk_un (by omega)]; exact h.ad _ (by omega))) (fun c hc => (by rw [pk_un (by omega), pk_un (by omega)]; exact h.hd _ (by omega))) (fun c hc => ?_) (fun i hi => ?_)
  · refine (h.cl c hc).keep (SP.tr (SP.up (by omega)) (SP.up (by omega))) (by rw [pk_un (by omega), pk_un (by omega)]) (by rw [pk_un (by omega), pk_un (by omega)]) (by rw [pk_un (by omega), pk_un (by omega)]) (by rw [pk_un (by omega), pk_un (by omega)]) (by rw [pk_un (by omega), pk_un (by omega)]) (fun i hi a2 a3 a4 a5 => ?_)
    have e : i ≠ j := fun q => a5 (q ▸ h3)
    exact ⟨(by rw [pk_un (by omega), pk_un (by omega)]), (by rw [pk_un (by omega), pk_un (by omega)]), (by rw [pk_un (by omega), pk_un (by omega)])⟩
  · by_cases e : i = j
    · subst e
      exact Or.inl (by rw [pk_un (show 231 + i ≠ 531 + i by omega), pk_us])
    · exact (h.av i hi).keep (SP.tr (SP.up (by omega)) (SP.up (by omega))) (by rw [pk_un (by omega), pk_un (by omega)]) (by rw [pk_un (by omega), pk_un (by omega)]) (by rw [pk_un (by omega), pk_un (by omega)]) (fun c hc a1 a2 a3 => ⟨by rw [pk_un (by omega), pk_un (by omega)]; exact a2, (by rw [pk_un (by omega), pk_un (by omega)])⟩)
/-- an offer or a lease ends -/
theorem IV.fr (h : IV N v T lb) (hc : c < 20) (hj : j < 100) (h0 : ¬ N (631 + c) = 0) (ha : N (651 + c) = nI j) : IV (upd (mFr N j t) (631 + c) 0) v T lb := by
  obtain ⟨j', hj', hb, hh, -, -, -⟩ := h.adr hc h0
  obtain rfl : j = j' := nI_inj (by omega) (by omega) (ha.symm.trans hb)
  unfold mFr
  refine h.of (fun x a b => (by rw [pk_un (by omega), pk_un (by omega), pk_un (by omega)])) (fun c' hc' => (by rw [pk_un (by omega), pk_un (by omega), pk_un (by omega)]; exact h.re _ (by omega))) (fun c' hc' => (by rw [pk_un (by omega), pk_un (by omega), pk_un (by omega)]; exact h.ad _ (by omega))) (fun c' hc' => (by rw [pk_un (by omega), pk_un (by omega), pk_un (by omega)]; exact h.hd _ (by omega))) (fun c' hc' => ?_) (fun i hi => ?_)
  · by_cases e : c' = c
    · subst e
      exact Or.inl pk_us
    · refine (h.cl c' hc').keep (SP.tr (SP.up (by omega)) (SP.tr (SP.up (by omega)) (SP.up (by omega)))) (by rw [pk_un (by omega), pk_un (by omega), pk_un (by omega)]) (by rw [pk_un (by omega), pk_un (by omega), pk_un (by omega)]) (by rw [pk_un (by omega), pk_un (by omega), pk_un (by omega)]) (by rw [pk_un (by omega), pk_un (by omega), pk_un (by omega)]) (by rw [pk_un (by omega), pk_un (by omega), pk_un (by omega)]) (fun i hi a2 a3 a4 a5 => ?_)
      have e2 : i ≠ j := fun q => e (nI_inj (by omega) (by omega) (a3.symm.trans (q ▸ hh)))
      exact ⟨(by rw [pk_un (by omega), pk_un (by omega), pk_un (by omega)]), (by rw [pk_un (by omega), pk_un (by omega), pk_un (by omega)]), (by rw [pk_un (by omega), pk_un (by omega), pk_un (by omega)])⟩
  · by_cases e : i = j
    · subst e
      exact Or.inl (by rw [pk_un (show 231 + i ≠ 631 + c by omega), pk_un (show 231 + i ≠ 531 + i by omega), pk_us])
    · refine (h.av i hi).keep (SP.tr (SP.up (by omega)) (SP.tr (SP.up (by omega)) (SP.up (by omega)))) (by rw [pk_un (by omega), pk_un (by omega), pk_un (by omega)]) (by rw [pk_un (by omega), pk_un (by omega), pk_un (by omega)]) (by rw [pk_un (by omega), pk_un (by omega), pk_un (by omega)]) (fun c' hc' a1 a2 a3 => ?_)
      have e2 : c' ≠ c := fun q => e (nI_inj (by omega) (by omega) (a3.symm.trans (q ▸ ha)))
      exact ⟨by rw [pk_un (by omega), pk_un (by omega), pk_un (by omega)]; exact a2, (by rw [pk_un (by omega), pk_un (by omega), pk_un (by omega)])⟩
/-- a client declines its address -/
theorem IV.de (h : IV N v T lb) (hl : lb ≤ T + 1) (hc : c < 20) (hj : j < 100) (h0 : ¬ N (631 + c) = 0) (ha : N (651 + c) = nI j) : IV (upd (upd (mDe N j) (631 + c) 0) (711 + c) 0) v T lb := by
  obtain ⟨j', hj', hb, hh, hi', -, -⟩ := h.adr hc h0
  obtain rfl : j = j' := nI_inj (by omega) (by omega) (ha.symm.trans hb)
  obtain ⟨q, hq, hq1, hq2⟩ := h.qu
  have hT := h.tl
  have hu : upd N (231 + j) 3 0 + upd N (231 + j) 3 2 = nI (T + q) := by
    rw [pk_un (by omega), pk_un (by omega), h.tm, hq, nI_add]
  unfold mDe
  rw [hu]
  refine h.of (fun x a b => (by rw [pk_un (by omega), pk_un (by omega), pk_un (by omega), pk_un (by omega)])) (fun c' hc' => ?_) (fun c' hc' => (by rw [pk_un (by omega), pk_un (by omega), pk_un (by omega), pk_un (by omega)]; exact h.ad _ (by omega))) (fun c' hc' => (by rw [pk_un (by omega), pk_un (by omega), pk_un (by omega), pk_un (by omega)]; exact h.hd _ (by omega))) (fun c' hc' => ?_) (fun i hi => ?_)
  · by_cases e : c' = c
    · subst e
      exact ⟨0, by omega, pk_us⟩
    · rw [pk_un (by omega), pk_un (by omega), pk_un (by omega), pk_un (by omega)]
      exact h.re c' hc'
  · by_cases e : c' = c
    · subst e
      exact Or.inl (by rw [pk_un (by omega), pk_us])
    · refine (h.cl c' hc').keep (SP.tr (SP.up (by omega)) (SP.tr (SP.up (by omega)) (SP.tr (SP.up (by omega)) (SP.up (by omega))))) (by rw [pk_un (by omega), pk_un (by omega), pk_un (by omega), pk_un (by omega)]) (by rw [pk_un (by omega), pk_un (by omega), pk_un (by omega), pk_un (by omega)]) (by rw [pk_un (by omega), pk_un (by omega), pk_un (by omega), pk_un (by omega)]) (by rw [pk_un (by omega), pk_un (by omega), pk_un (by omega), pk_un (by omega)]) (by rw [pk_un (by omega), pk_un (by omega), pk_un (by omega), pk_un (by omega)]) (fun i hi a2 a3 a4 a5 => ?_)
      have e2 : i ≠ j := fun q => e (nI_inj (by omega) (by omega) (a3.symm.trans (q ▸ hh)))
      exact ⟨(by rw [pk_un (by omega), pk_un (by omega), pk_un (by omega), pk_un (by omega)]), (by rw [pk_un (by omega), pk_un (by omega), pk_un (by omega), pk_un (by omega)]), (by rw [pk_un (by omega), pk_un (by omega), pk_un (by omega), pk_un (by omega)])⟩
  · by_cases e : i = j
    · subst e
      refine Or.inr (Or.inl ⟨?_, (iP_same (SP.tr (SP.up (by omega)) (SP.tr (SP.up (by omega)) (SP.tr (SP.up (by omega)) (SP.up (by omega))))) i).mpr hi', T + q, ?_, by omega, by omega⟩)
      · rw [pk_un (by omega), pk_un (by omega), pk_un (show 231 + i ≠ 431 + i by omega), pk_us]
      · rw [pk_un (by omega), pk_un (by omega), pk_us]
    · refine (h.av i hi).keep (SP.tr (SP.up (by omega)) (SP.tr (SP.up (by omega)) (SP.tr (SP.up (by omega)) (SP.up (by omega))))) (by rw [pk_un (by omega), pk_un (by omega), pk_un (by omega), pk_un (by omega)]) (by rw [pk_un (by omega), pk_un (by omega), pk_un (by omega), pk_un (by omega)]) (by rw [pk_un (by omega), pk_un (by omega), pk_un (by omega), pk_un (by omega)]) (fun c' hc' a1 a2 a3 => ?_)
      have e2 : c' ≠ c := fun q => e (nI_inj (by omega) (by omega) (a3.symm.trans (q ▸ ha)))
      exact ⟨by rw [pk_un (by omega), pk_un (by omega), pk_un (by omega), pk_un (by omega)]; exact a2, (by rw [pk_un (by omega), pk_un (by omega), pk_un (by omega), pk_un (by omega)])⟩
/-- a probe finds a stranger -/
theorem IV.ds (h : IV N v T lb) (hl : lb ≤ T + 1) (hj : j < 100) (h0 : N (231 + j) = 0) (hp : iP N j) : IV (dsN N j) v T lb := by
  obtain ⟨q, hq, hq1, hq2⟩ := h.qu
  have hT := h.tl
  have hu : upd N (231 + j) 3 0 + upd N (231 + j) 3 2 = nI (T + q) := by
    rw [pk_un (by omega), pk_un (by omega), h.tm, hq, nI_add]
  unfold dsN mDe
  rw [hu]
  generalize upd (upd N (231 + j) 3) (431 + j) (nI (T + q)) 3 + 1 = z
  refine h.of (fun x a b => (by rw [pk_un (by omega), pk_un (by omega), pk_un (by omega)])) (fun c' hc' => (by rw [pk_un (by omega), pk_un (by omega), pk_un (by omega)]; exact h.re _ (by omega))) (fun c' hc' => (by rw [pk_un (by omega), pk_un (by omega), pk_un (by omega)]; exact h.ad _ (by omega))) (fun c' hc' => (by rw [pk_un (by omega), pk_un (by omega), pk_un (by omega)]; exact h.hd _ (by omega))) (fun c' hc' => ?_) (fun i hi => ?_)
  · refine (h.cl c' hc').keep (SP.tr (SP.up (by omega)) (SP.tr (SP.up (by omega)) (SP.up (by omega)))) (by rw [pk_un (by omega), pk_un (by omega), pk_un (by omega)]) (by rw [pk_un (by omega), pk_un (by omega), pk_un (by omega)]) (by rw [pk_un (by omega), pk_un (by omega), pk_un (by omega)]) (by rw [pk_un (by omega), pk_un (by omega), pk_un (by omega)]) (by rw [pk_un (by omega), pk_un (by omega), pk_un (by omega)]) (fun i hi a2 a3 a4 a5 => ?_)
    have e2 : i ≠ j := fun q => a4 (q ▸ h0)
    exact ⟨(by rw [pk_un (by omega), pk_un (by omega), pk_un (by omega)]), (by rw [pk_un (by omega), pk_un (by omega), pk_un (by omega)]), (by rw [pk_un (by omega), pk_un (by omega), pk_un (by omega)])⟩
  · by_cases e : i = j
    · subst e
      refine Or.inr (Or.inl ⟨?_, (iP_same (SP.tr (SP.up (by omega)) (SP.tr (SP.up (by omega)) (SP.up (by omega)))) i).mpr hp, T + q, ?_, by omega, by omega⟩)
      · rw [pk_un (by omega), pk_un (show 231 + i ≠ 431 + i by omega), pk_us]
      · rw [pk_un (by omega), pk_us]
    · exact (h.av i hi).keep (SP.tr (SP.up (by omega)) (SP.tr (SP.up (by omega)) (SP.up (by omega)))) (by rw [pk_un (by omega), pk_un (by omega), pk_un (by omega)]) (by rw [pk_un (by omega), pk_un (by omega), pk_un (by omega)]) (by rw [pk_un (by omega), pk_un (by omega), pk_un (by omega)]) (fun c' hc' a1 a2 a3 => ⟨by rw [pk_un (by omega), pk_un (by omega), pk_un (by omega)]; exact a2, (by rw [pk_un (by omega), pk_un (by omega), pk_un (by omega)])⟩)
/-- an offer -/
theorem IV.of3 (h : IV N v T lb) (hl : lb ≤ T + 1) (hc : c < 20) (hj : j < 100) (h0 : N (631 + c) = 0) (hf : N (231 + j) = 0) (hp : iP N j) : IV (d3N N c j) v T lb := by
  obtain ⟨q, hq, hq1, hq2⟩ := h.ho
  have hT := h.tl
  have hu : upd (upd N (231 + j) 1) (331 + j) (nI c) 0 + upd (upd N (231 + j) 1) (331 + j) (nI c) 1 = nI (T + q) := by
    rw [pk_un (by omega), pk_un (by omega), pk_un (by omega), pk_un (by omega), h.tm, hq, nI_add]
  unfold d3N
  rw [hu]
  refine h.of (fun x a b => (by rw [pk_un (by omega), pk_un (by omega), pk_un (by omega), pk_un (by omega), pk_un (by omega)])) (fun c' hc' => (by rw [pk_un (by omega), pk_un (by omega), pk_un (by omega), pk_un (by omega), pk_un (by omega)]; exact h.re _ (by omega))) (fun c' hc' => ?_) (fun a ha => ?_) (fun c' hc' => ?_) (fun i hi => ?_)
  · by_cases e : c' = c
    · subst e
      exact ⟨j, hj, pk_us⟩
    · rw [pk_un (by omega), pk_un (by omega), pk_un (by omega), pk_un (by omega), pk_un (by omega)]
      exact h.ad c' hc'
  · by_cases e : a = j
    · subst e
      exact ⟨c, hc, by rw [pk_un (by omega), pk_un (by omega), pk_un (show 331 + a ≠ 431 + a by omega), pk_us]⟩
    · rw [pk_un (by omega), pk_un (by omega), pk_un (by omega), pk_un (by omega), pk_un (by omega)]
      exact h.hd a ha
  · by_cases e : c' = c
    · subst e
      refine Or.inr ⟨j, T + q, hj, pk_us, ?_, (iP_same (SP.tr (SP.up (by omega)) (SP.tr (SP.up (by omega)) (SP.tr (SP.up (by omega)) (SP.tr (SP.up (by omega)) (SP.up (by omega)))))) j).mpr hp, ?_, by omega, by omega, Or.inl ⟨?_, ?_⟩⟩
      · rw [pk_un (by omega), pk_un (by omega), pk_un (show 331 + j ≠ 431 + j by omega), pk_us]
      · rw [pk_un (by omega), pk_un (by omega), pk_us]
      · rw [pk_un (by omega), pk_us]
      · rw [pk_un (by omega), pk_un (by omega), pk_un (show 231 + j ≠ 431 + j by omega), pk_un (show 231 + j ≠ 331 + j by omega), pk_us]
    · refine (h.cl c' hc').keep (SP.tr (SP.up (by omega)) (SP.tr (SP.up (by omega)) (SP.tr (SP.up (by omega)) (SP.tr (SP.up (by omega)) (SP.up (by omega)))))) (by rw [pk_un (by omega), pk_un (by omega), pk_un (by omega), pk_un (by omega), pk_un (by omega)]) (by rw [pk_un (by omega), pk_un (by omega), pk_un (by omega), pk_un (by omega), pk_un (by omega)]) (by rw [pk_un (by omega), pk_un (by omega), pk_un (by omega), pk_un (by omega), pk_un (by omega)]) (by rw [pk_un (by omega), pk_un (by omega), pk_un (by omega), pk_un (by omega), pk_un (by omega)]) (by rw [pk_un (by omega), pk_un (by omega), pk_un (by omega), pk_un (by omega), pk_un (by omega)]) (fun i hi a2 a3 a4 a5 => ?_)
      have e2 : i ≠ j := fun q => a4 (q ▸ hf)
      exact ⟨(by rw [pk_un (by omega), pk_un (by omega), pk_un (by omega), pk_un (by omega), pk_un (by omega)]), (by rw [pk_un (by omega), pk_un (by omega), pk_un (by omega), pk_un (by omega), pk_un (by omega)]), (by rw [pk_un (by omega), pk_un (by omega), pk_un (by omega), pk_un (by omega), pk_un (by omega)])⟩
  · by_cases e : i = j
    · subst e
      refine Or.inr (Or.inr ⟨Or.inl ?_, c, hc, ?_, ?_, pk_us⟩)
      · rw [pk_un (by omega), pk_un (by omega), pk_un (show 231 + i ≠ 431 + i by omega), pk_un (show 231 + i ≠ 331 + i by omega), pk_us]
      · rw [pk_un (by omega), pk_un (by omega), pk_un (show 331 + i ≠ 431 + i by omega), pk_us]
      · rw [pk_un (by omega), pk_us]; decide
    · refine (h.av i hi).keep (SP.tr (SP.up (by omega)) (SP.tr (SP.up (by omega)) (SP.tr (SP.up (by omega)) (SP.tr (SP.up (by omega)) (SP.up (by omega)))))) (by rw [pk_un (by omega), pk_un (by omega), pk_un (by omega), pk_un (by omega), pk_un (by omega)]) (by rw [pk_un (by omega), pk_un (by omega), pk_un (by omega), pk_un (by omega), pk_un (by omega)]) (by rw [pk_un (by omega), pk_un (by omega), pk_un (by omega), pk_un (by omega), pk_un (by omega)]) (fun c' hc' a1 a2 a3 => ?_)
      have e2 : c' ≠ c := fun q => a2 (q ▸ h0)
      exact ⟨by rw [pk_un (by omega), pk_un (by omega), pk_un (by omega), pk_un (by omega), pk_un (by omega)]; exact a2, (by rw [pk_un (by omega), pk_un (by omega), pk_un (by omega), pk_un (by omega), pk_un (by omega)])⟩
/-- a client turns to renewing or rebinding -/
theorem IV.tu (h : IV N v T lb) (hc : c < 20) (h2 : N (631 + c) = 2 ∧ t = 3 ∨ N (631 + c) = 3 ∧ t = 4) : IV (upd N (631 + c) t) v T lb := by
  refine h.of (fun x a b => (by rw [pk_un (by omega)])) (fun c' hc' => (by rw [pk_un (by omega)]; exact h.re _ (by omega))) (fun c' hc' => (by rw [pk_un (by omega)]; exact h.ad _ (by omega))) (fun c' hc' => (by rw [pk_un (by omega)]; exact h.hd _ (by omega))) (fun c' hc' => ?_) (fun i hi => ?_)
  · by_cases e : c' = c
    · subst e
      obtain ⟨j, u, b1, b2, b3, b4, b5, b6, b7, hh⟩ := (h.cl c' hc').busy (by rcases h2 with ⟨q, -⟩ | ⟨q, -⟩ <;> rw [q] <;> decide)
      refine Or.inr ⟨j, u, b1, by rw [pk_un (by omega)]; exact b2, ?_, (iP_same (SP.up (by omega)) j).mpr b4, ?_, b6, b7, Or.inr ?_⟩
      · rw [pk_un (by omega)]; exact b3
      · rw [pk_un (by omega)]; exact b5
      · rw [pk_un (by omega), pk_un (by omega), pk_un (by omega), pk_un (by omega), pk_us]
        rcases hh with ⟨q, -⟩ | ⟨q1, q2, r, b, q3, q4, q5, q6, q7⟩
        · rcases h2 with ⟨z, -⟩ | ⟨z, -⟩ <;> rw [z] at q <;> exact absurd q (by decide)
        · refine ⟨q1, q2, r, b, q3, q4, q5, q6, ?_⟩
          rcases h2 with ⟨z, z2⟩ | ⟨z, z2⟩
          · rcases q7 with ⟨z3, z4⟩ | ⟨z3, -⟩ | z3
            · exact Or.inr (Or.inl ⟨z2, by omega⟩)
            · rw [z] at z3; exact absurd z3 (by decide)
            · rw [z] at z3; exact absurd z3 (by decide)
          · exact Or.inr (Or.inr z2)
    · exact (h.cl c' hc').keep (SP.up (by omega)) (by rw [pk_un (by omega)]) (by rw [pk_un (by omega)]) (by rw [pk_un (by omega)]) (by rw [pk_un (by omega)]) (by rw [pk_un (by omega)]) (fun i hi a2 a3 a4 a5 => ⟨(by rw [pk_un (by omega)]), (by rw [pk_un (by omega)]), (by rw [pk_un (by omega)])⟩)
  · refine (h.av i hi).keep (SP.up (by omega)) (by rw [pk_un (by omega)]) (by rw [pk_un (by omega)]) (by rw [pk_un (by omega)]) (fun c' hc' a1 a2 a3 => ⟨?_, (by rw [pk_un (by omega)])⟩)
    by_cases e : c' = c
    · subst e
      rw [pk_us]
      rcases h2 with ⟨-, z⟩ | ⟨-, z⟩ <;> rw [z] <;> decide
    · rw [pk_un (by omega)]; exact a2
/-- a term: from T on, d long -/
def lsN (N : Nat → Int32) (c j T d : Nat) : Nat → Int32 := upd (upd (upd (upd N (631 + c) 2) (671 + c) (nI (T + d / 2))) (691 + c) (nI (T + 7 * d / 8))) (431 + j) (nI (T + d))
theorem mLs_eq {p d : Nat} (hj : j < 100) (ha : N (651 + c) = nI j) (hp : p < 5) (ho : ow N (nI j) = nI p) (hd : N (5 + 4 * p + 3) = nI d) (hd8 : d ≤ 800) (hT : T ≤ 200000) : mLs N c (nI T) = lsN N c j T d := by
  have hl : laD N c = nI d := by rw [laD, ha, ho, ixn (by omega), hd]
  have h1 : nI T + nI d / 2 = nI (T + d / 2) := by rw [show nI d / 2 = nI (d / 2) from pk_div (by omega) (d := 2) (by decide) (by decide), nI_add]
  have h2 : nI T + 7 * nI d / 8 = nI (T + 7 * d / 8) := by
    rw [show 7 * nI d = nI (7 * d) from (Int32.ofNat_mul 7 d).symm, show nI (7 * d) / 8 = nI (7 * d / 8) from pk_div (by omega) (d := 8) (by decide) (by decide), nI_add]
  unfold mLs lsN
  rw [hl, h1, h2, nI_add, ha, ixn (by omega)]
/-- .. it holds behind it, if all but c were in order -/
theorem IV.ls {d : Nat} (h : IV N v T lb) (hl : lb ≤ T + 1) (hc : c < 20) (hj : j < 100) (h0 : ¬ N (631 + c) = 0) (ha : N (651 + c) = nI j) (hd : 8 ≤ d) (hd8 : d ≤ 800) {M : Nat → Int32} (hM : M = N ∨ M = upd (upd N (231 + j) 2) (711 + c) (nI (j + 1))) (hs : M (231 + j) = 2) (hr : M (711 + c) = nI (j + 1)) : IV (lsN M c j T d) v T lb := by
  obtain ⟨j', hj', hb, hh, hi', -, -⟩ := h.adr hc h0
  obtain rfl : j = j' := nI_inj (by omega) (by omega) (ha.symm.trans hb)
  have hT := h.tl
  have hm : ∀ x, x ≠ 231 + j → x ≠ 711 + c → M x = N x := fun x a b => by
    rcases hM with e | e <;> rw [e]
    rw [pk_un b, pk_un a]
  have hsM : SP M N := fun x a b => hm x (by omega) (by omega)
  have hsp : SP (lsN M c j T d) N := SP.tr (SP.tr (SP.up (by omega)) (SP.tr (SP.up (by omega)) (SP.tr (SP.up (by omega)) (SP.up (by omega))))) hsM
  unfold lsN at hsp ⊢
  refine h.of (fun x a b => (by rw [pk_un (by omega), pk_un (by omega), pk_un (by omega), pk_un (by omega), hm _ (by omega) (by omega)])) (fun c' hc' => ?_) (fun c' hc' => (by rw [pk_un (by omega), pk_un (by omega), pk_un (by omega), pk_un (by omega), hm _ (by omega) (by omega)]; exact h.ad _ (by omega))) (fun a ha => (by rw [pk_un (by omega), pk_un (by omega), pk_un (by omega), pk_un (by omega), hm _ (by omega) (by omega)]; exact h.hd _ (by omega))) (fun c' hc' => ?_) (fun i hi => ?_)
  · rw [pk_un (by omega), pk_un (by omega), pk_un (by omega), pk_un (by omega)]
    by_cases e : c' = c
    · subst e
      exact ⟨j + 1, by omega, hr⟩
    · rw [hm _ (by omega) (by omega)]
      exact h.re c' hc'
  · by_cases e : c' = c
    · subst e
      refine Or.inr ⟨j, T + d, hj, ?_, ?_, (iP_same hsp j).mpr hi', pk_us, by omega, by omega, Or.inr ⟨?_, ?_, T + d / 2, T + 7 * d / 8, ?_, ?_, by omega, by omega, Or.inl ⟨?_, by omega⟩⟩⟩
      · rw [pk_un (by omega), pk_un (by omega), pk_un (by omega), pk_un (by omega), hm _ (by omega) (by omega)]; exact ha
      · rw [pk_un (by omega), pk_un (by omega), pk_un (by omega), pk_un (by omega), hm _ (by omega) (by omega)]; exact hh
      · rw [pk_un (by omega), pk_un (by omega), pk_un (by omega), pk_un (by omega)]; exact hs
      · rw [pk_un (by omega), pk_un (by omega), pk_un (by omega), pk_un (by omega)]; exact hr
      · rw [pk_un (by omega), pk_un (by omega), pk_us]
      · rw [pk_un (by omega), pk_us]
      · rw [pk_un (by omega), pk_un (by omega), pk_un (by omega), pk_us]
    · refine (h.cl c' hc').keep hsp (by rw [pk_un (by omega), pk_un (by omega), pk_un (by omega), pk_un (by omega), hm _ (by omega) (by omega)]) (by rw [pk_un (by omega), pk_un (by omega), pk_un (by omega), pk_un (by omega), hm _ (by omega) (by omega)]) (by rw [pk_un (by omega), pk_un (by omega), pk_un (by omega), pk_un (by omega), hm _ (by omega) (by omega)]) (by rw [pk_un (by omega), pk_un (by omega), pk_un (by omega), pk_un (by omega), hm _ (by omega) (by omega)]) (by rw [pk_un (by omega), pk_un (by omega), pk_un (by omega), pk_un (by omega), hm _ (by omega) (by omega)]) (fun i hi a2 a3 a4 a5 => ?_)
      have e2 : i ≠ j := fun q => e (nI_inj (by omega) (by omega) (a3.symm.trans (q ▸ hh)))
      exact ⟨(by rw [pk_un (by omega), pk_un (by omega), pk_un (by omega), pk_un (by omega), hm _ (by omega) (by omega)]), (by rw [pk_un (by omega), pk_un (by omega), pk_un (by omega), pk_un (by omega), hm _ (by omega) (by omega)]), (by rw [pk_un (by omega), pk_un (by omega), pk_un (by omega), pk_un (by omega), hm _ (by omega) (by omega)])⟩
  · by_cases e : i = j
    · subst e
      refine Or.inr (Or.inr ⟨Or.inr ?_, c, hc, ?_, ?_, ?_⟩)
      · rw [pk_un (by omega), pk_un (by omega), pk_un (by omega), pk_un (by omega)]; exact hs
      · rw [pk_un (by omega), pk_un (by omega), pk_un (by omega), pk_un (by omega), hm _ (by omega) (by omega)]; exact hh
      · rw [pk_un (by omega), pk_un (by omega), pk_un (by omega), pk_us]; decide
      · rw [pk_un (by omega), pk_un (by omega), pk_un (by omega), pk_un (by omega), hm _ (by omega) (by omega)]; exact ha
    · refine (h.av i hi).keep hsp (by rw [pk_un (by omega), pk_un (by omega), pk_un (by omega), pk_un (by omega), hm _ (by omega) (by omega)]) (by rw [pk_un (by omega), pk_un (by omega), pk_un (by omega), pk_un (by omega), hm _ (by omega) (by omega)]) (by rw [pk_un (by omega), pk_un (by omega), pk_un (by omega), pk_un (by omega), hm _ (by omega) (by omega)]) (fun c' hc' a1 a2 a3 => ?_)
      have e2 : c' ≠ c := fun q => e (nI_inj (by omega) (by omega) (a3.symm.trans (q ▸ ha)))
      exact ⟨by rw [pk_un (by omega), pk_un (by omega), pk_un (by omega), pk_un (by omega), hm _ (by omega) (by omega)]; exact a2, (by rw [pk_un (by omega), pk_un (by omega), pk_un (by omega), pk_un (by omega), hm _ (by omega) (by omega)])⟩
end IV1
