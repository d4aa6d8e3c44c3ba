section HI9
variable {σ : Sto} {k : Nat} {x y t c : Int32}
theorem frees_hi (h : 16 ≤ k) : frees σ x t k = σ k := frees_row (by omega) (by omega) (by omega)
theorem helds_hi {s q : Int32} (h : 16 ≤ k) : helds σ x s q t k = σ k := by
  unfold helds
  cases inA x
  · rfl
  · rw [cond_true, put_n (by omega), put_n (by omega), put_n (by omega)]
theorem idles_hi (h : 16 ≤ k) : idles σ x k = σ k := by
  unfold idles
  cases inC x
  · rfl
  · rw [cond_true, put_n (by omega), put_n (by omega)]
theorem offs_hi (h : 16 ≤ k) : offs σ x y k = σ k := by
  unfold offs
  cases inC x
  · rfl
  · rw [cond_true, put_n (by omega), put_n (by omega)]
theorem leases_hi {d : Int32} (h : 16 ≤ k) : leases σ x t d k = σ k := by
  unfold leases
  cases inC x
  · rfl
  · rw [cond_true, put_n (by omega), put_n (by omega), put_n (by omega), put_n (by omega)]
theorem eHd_hi (h : 16 ≤ k) : eHd σ c k = σ k := by
  unfold eHd
  cases inC c
  · rfl
  · rw [cond_true, idles_hi h, frees_hi h]
theorem sTm_hi (h : 16 ≤ k) : sTm σ c k = σ k := by
  unfold sTm
  rw [leases_hi h, helds_hi h]
end HI9
/-- what was saved is as it was -/
def SV (σ' σ : Sto) : Prop := ∀ k, 22 ≤ k ∧ k < 44 ∨ k = 47 → σ' k = σ k
theorem SV.tr {σ τ υ : Sto} (h : SV υ τ) (h2 : SV τ σ) : SV υ σ := fun k hk => (h k hk).trans (h2 k hk)
theorem SV.rf {σ : Sto} : SV σ σ := fun _ _ => rfl
theorem SV.pu {σ : Sto} {k : Nat} {f : Nat → Int32} (h : k < 22) : SV (put σ k f) σ := fun j hj => put_n (by omega)
theorem SV.lg {σ : Sto} {q x : Int32} : SV (logW σ q x) σ := fun j hj => logW_row (by omega)
theorem SV.hi {σ' σ : Sto} (h : ∀ k, 16 ≤ k → σ' k = σ k) : SV σ' σ := fun j hj => h j (by omega)
section ST9
variable {σ : Sto} {N f : Nat → Int32} {n : Int32} {v c j T lb : Nat} {q y : Int32}
theorem RR.kEh (h : RR σ N v) (hc : c < 20) (h0 : ¬ N (631 + c) = 0) (ha : N (651 + c) = nI j) (hj : j < 100) : RR (eHd σ (nI c)) (upd (mFr N j (σ 16 0)) (631 + c) 0) v := by
  unfold eHd
  rw [inC_n hc, cond_true, ixn (by omega), h.r12 c hc, if_neg h0, ha]
  exact (h.free hj).idle hc
theorem RR.kEz (h : RR σ N v) (hc : c < 20) (h0 : N (631 + c) = 0) : RR (eHd σ (nI c)) (upd N (631 + c) 0) v := by
  unfold eHd
  rw [inC_n hc, cond_true, ixn (by omega), h.r12 c hc, if_pos h0, frees_no (show inA (-1) = false by decide)]
  exact h.idle hc
theorem upd_if {g : Nat → Int32} {i k : Nat} {x : Int32} : upd g i x k = if k = i then x else g k := rfl
theorem ls_perm {d : Nat} (hj : j < 100) (hc : c < 20) (hh : N (331 + j) = nI c) (hd : d ≤ 800) (hT : T ≤ 200000) : upd (upd (upd (upd (upd (upd (upd N (231 + j) 2) (331 + j) (nI c)) (431 + j) (nI (T + d))) (631 + c) 2) (711 + c) (nI (j + 1))) (671 + c) (nI T + nI d / 2)) (691 + c) (nI T + nI d * 7 / 8) = lsN (upd (upd N (231 + j) 2) (711 + c) (nI (j + 1))) c j T d := by
  have h1 : nI T + nI d / 2 = nI (T + d / 2) := by rw [show nI d / 2 = nI (d / 2) from pk_div (by omega) (d := 2) (by decide) (by decide), nI_add]
  have h2 : nI T + nI d * 7 / 8 = nI (T + 7 * d / 8) := by
    rw [Int32.mul_comm, show 7 * nI d = nI (7 * d) from (Int32.ofNat_mul 7 d).symm, show nI (7 * d) / 8 = nI (7 * d / 8) from pk_div (by omega) (d := 8) (by decide) (by decide), nI_add]
  rw [h1, h2, upd_id (show upd N (231 + j) 2 (331 + j) = nI c from by rw [pk_un (by omega)]; exact hh)]
  unfold lsN
  funext k
  simp only [upd_if]
  repeat' split
  all_goals first | rfl | omega
theorem RR.kSt {p d : Nat} (h : RR σ N v) (hp : PO N v) (hc : c < 20) (hj : j < 100) (h0 : ¬ N (631 + c) = 0) (ha : N (651 + c) = nI j) (hh : N (331 + j) = nI c) (hpv : p < v) (ho : ow N (nI j) = nI p) (hd : N (5 + 4 * p + 3) = nI d) (hd8 : d ≤ 800) (h16 : σ 16 0 = nI T) (hT : T ≤ 200000) : RR (sTm σ (nI c)) (lsN (upd (upd N (231 + j) 2) (711 + c) (nI (j + 1))) c j T d) v := by
  have e : sTm σ (nI c) = leases (helds σ (nI j) 2 (nI c) (nI (T + d))) (nI c) (nI T) (nI d) := by
    unfold sTm
    rw [ixn (by omega), h.r12 c hc, if_neg h0, ha, leaAt_eq h.r1 hp hpv ho, hd, h16, nI_add, congrFun (helds_hi (Nat.le_refl 16)) 0, h16]
  rw [e, ← ls_perm hj hc hh hd8 hT]
  exact (RR.held (Or.inr rfl) h hj).leas hc (by rw [pk_un (by omega), pk_un (by omega), pk_un (by omega)]; exact h0) (by rw [pk_un (by omega), pk_un (by omega), pk_un (by omega)]; exact ha)
/-- class and reference, in the course of things -/
def RZ (σ : Sto) (N f : Nat → Int32) (n : Int32) (v T lb : Nat) : Prop := RR σ N v ∧ LR σ f n ∧ IV N v T lb ∧ σ 16 0 = nI T
theorem RZ.lgs (h : RZ σ N f n v T lb) : RZ (logW σ q y) N (lgM f n q y) (lgN n) v T lb :=
  ⟨h.1.log, h.2.1.log, h.2.2.1, (congrFun (logW_row (by omega)) 0).trans h.2.2.2⟩
theorem LR.hi {τ : Sto} (h : LR σ f n) (hs : ∀ k, 16 ≤ k → τ k = σ k) : LR τ f n := h.ext (hs 44 (by omega)) (hs 45 (by omega)) (hs 46 (by omega))
theorem RZ.en (h : RZ σ N f n v T lb) (hc : c < 20) (h0 : ¬ N (631 + c) = 0) (ha : N (651 + c) = nI j) (hj : j < 100) : RZ (eHd σ (nI c)) (upd (mFr N j (nI T)) (631 + c) 0) f n v T lb :=
  ⟨by have h1 := h.1.kEh hc h0 ha hj; rw [h.2.2.2] at h1; exact h1, h.2.1.hi (fun k hk => eHd_hi hk), h.2.2.1.fr hc hj h0 ha, (congrFun (eHd_hi (Nat.le_refl 16)) 0).trans h.2.2.2⟩
theorem IV.bnd (h : IV N v T lb) (hc : c < 20) (h0 : ¬ N (631 + c) = 0) (h1 : ¬ N (631 + c) = 1) : ∃ j, j < 100 ∧ N (651 + c) = nI j ∧ N (331 + j) = nI c ∧ iP N j ∧ N (231 + j) = 2 ∧ N (711 + c) = nI (j + 1) := by
  obtain ⟨j, u, b1, b2, b3, b4, -, -, -, ⟨e, -⟩ | ⟨e, e2, -⟩⟩ := (h.cl c hc).busy h0
  · exact absurd e h1
  · exact ⟨j, b1, b2, b3, b4, e, e2⟩
theorem IV.off (h : IV N v T lb) (hc : c < 20) (h1 : N (631 + c) = 1) : ∃ j, j < 100 ∧ N (651 + c) = nI j ∧ N (331 + j) = nI c ∧ iP N j ∧ N (231 + j) = 1 := by
  obtain ⟨j, u, b1, b2, b3, b4, -, -, -, ⟨e, e2⟩ | ⟨-, -, r, b, -, -, -, -, ⟨e, -⟩ | ⟨e, -⟩ | e⟩⟩ := (h.cl c hc).busy (by rw [h1]; decide)
  · exact ⟨j, b1, b2, b3, b4, e2⟩
  · rw [h1] at e; exact absurd e (by decide)
  · rw [h1] at e; exact absurd e (by decide)
  · rw [h1] at e; exact absurd e (by decide)
/-- the pool of an address in a pool -/
theorem IV.pool (h : IV N v T lb) (hj : j < 100) (hi : iP N j) : ∃ p, p < v ∧ ow N (nI j) = nI p ∧ inQ N p j = true ∧ N (5 + 4 * p + 3) = nI (pl N p) ∧ 8 ≤ pl N p ∧ pl N p ≤ 800 ∧ gr N (nI j) = nI (pg N p) ∧ pg N p < 3 := by
  obtain ⟨p, hp, h1, h2⟩ := iP_get h.po (by omega) hi
  obtain ⟨g1, g2, -, -, -, -, l1, l2, l3⟩ := h.po.2.2.1 p hp
  exact ⟨p, hp, h2, h1, l1, l2, l3, gr_of h2 (by have := h.po.1; omega) g1, g2⟩
theorem inG_n {g : Nat} (h : g < 3) : inG (nI g) = true := by
  have h1 : ¬ nI g < 0 := nI_pos (by omega)
  have h2 : ¬ (3 : Int32) ≤ nI g := nI_ge (b := 3) h (by decide)
  simp [inG, h1, h2]
theorem path_eq (h : RR σ N v) (hI : IV N v T lb) (hc : c < 20) (h0 : ¬ N (631 + c) = 0) (ha : N (651 + c) = nI j) (hj : j < 100) (hi : iP N j) : ∃ g, g < 3 ∧ gr N (nI j) = nI g ∧ dUp σ (nI c) = !decide (N (25 + g) = 0) ∧ rUp σ (nI c) = !decide (N (28 + g) = 0) := by
  obtain ⟨p, -, -, -, -, -, -, e, hg⟩ := hI.pool hj hi
  have e2 : gOC σ (nI c) = nI (pg N p) := by
    unfold gOC
    rw [inC_n hc, cond_true, ixn (by omega), h.r12 c hc, if_neg h0, ha, grpAt_eq h.r1 hI.po, e]
  refine ⟨pg N p, hg, e, ?_, ?_⟩
  · unfold dUp
    rw [e2, inG_n hg, ixn (by omega), h.r1.c20 hg, Bool.true_and]
  · unfold rUp
    rw [e2, inG_n hg, ixn (by omega), h.r1.c21 hg, Bool.true_and]
theorem aOf_eq (h : RR σ N v) (hc : c < 20) (h0 : ¬ N (631 + c) = 0) (ha : N (651 + c) = nI j) : aOf σ (nI c) = nI j := by
  unfold aOf
  rw [inC_n hc, cond_true, ixn (by omega), h.r12 c hc, if_neg h0, ha]
/-- a lease is renewed or refused -/
theorem RZ.re (h : RZ σ N f n v T lb) (hl : lb ≤ T + 1) (hc : c < 20) (h0 : ¬ N (631 + c) = 0) (h1 : ¬ N (631 + c) = 1) (ha : N (651 + c) = nI j) (hj : j < 100) : RZ (rSt σ (nI c)) (rnN N c (nI T)) (lgM f n (rnK N c) (nI j)) (lgN n) v T lb ∧ rBl σ (nI c) = !rnB N c ∧ SV (rSt σ (nI c)) σ := by
  obtain ⟨j', hj', b1, b2, b3, b4, b5⟩ := h.2.2.1.bnd hc h0 h1
  obtain rfl : j = j' := nI_inj (by omega) (by omega) (ha.symm.trans b1)
  have ea := aOf_eq h.1 hc h0 ha
  have ec : aC N c = j := by rw [aC, ha, ixn (by omega)]
  rcases (h.2.2.1.fl j hj).1 with hx | hx
  · have eb : rnB N c = false := by rw [rnB, ec, hx]; rfl
    have es : rSt σ (nI c) = logW (sTm σ (nI c)) 3 (nI j) := by
      unfold rSt
      rw [ea, inA_n hj, cond_true, ixn (by omega), h.1.r1.c5 hj, hx, if_pos rfl]
    have er : rBl σ (nI c) = true := by
      unfold rBl
      rw [ea, inA_n hj, ixn (by omega), h.1.r1.c5 hj, hx]
      rfl
    obtain ⟨p, hp, ho, -, hd, hd8, hd9, -, -⟩ := h.2.2.1.pool hj b3
    have hv := h.1.hv
    have hT := h.2.2.1.tl
    have eM : upd (upd N (231 + j) 2) (711 + c) (nI (j + 1)) = N := by rw [upd_id b4, upd_id b5]
    have em := mLs_eq hj ha (by omega) ho hd hd9 (show T ≤ 200000 by omega)
    have k1 := RR.kSt h.1 h.2.2.1.po hc hj h0 ha b2 hp ho hd hd9 h.2.2.2 (by omega)
    rw [eM] at k1
    have k2 : IV (lsN N c j T (pl N p)) v T lb := h.2.2.1.ls hl hc hj h0 ha hd8 hd9 (Or.inl rfl) b4 b5
    refine ⟨?_, by rw [er, eb]; rfl, ?_⟩
    · rw [es, rnN, rnK, eb, cond_false, cond_false, em]
      exact RZ.lgs ⟨k1, h.2.1.hi (fun k hk => sTm_hi hk), k2, (congrFun (sTm_hi (Nat.le_refl 16)) 0).trans h.2.2.2⟩
    · rw [es]
      exact SV.tr SV.lg (SV.hi (fun k hk => sTm_hi hk))
  · have eb : rnB N c = true := by rw [rnB, ec, hx]; rfl
    have es : rSt σ (nI c) = logW (eHd σ (nI c)) 4 (nI j) := by
      unfold rSt
      rw [ea, inA_n hj, cond_true, ixn (by omega), h.1.r1.c5 hj, hx, if_neg (by decide)]
    have er : rBl σ (nI c) = false := by
      unfold rBl
      rw [ea, inA_n hj, ixn (by omega), h.1.r1.c5 hj, hx]
      rfl
    refine ⟨?_, by rw [er, eb]; rfl, ?_⟩
    · rw [es, rnN, rnK, eb, cond_true, cond_true, ec]
      exact (h.en hc h0 ha hj).lgs
    · rw [es]
      exact SV.tr SV.lg (SV.hi (fun k hk => eHd_hi hk))
end ST9
-- what comes next at an address
section LV9
variable {N N' : Nat → Int32} {v T lb j i c : Nat}
theorem sOf_in (h : iP N j) : sOf N j = N (231 + j) := if_pos h
theorem due_dead (h : N (231 + j) = 0) : due N j = -1 := by
  have hs : sOf N j = 0 := by
    unfold sOf
    rw [h]
    exact ite_self 0
  rw [due, hs, if_pos rfl]
theorem due_3 (hp : iP N j) (h : N (231 + j) = 3) : due N j = N (431 + j) ∧ knd N j = nI 1 := by
  refine ⟨?_, ?_⟩
  · rw [due, sOf_in hp, h, if_neg (by decide), if_neg (by decide)]
  · rw [knd, sOf_in hp, h, if_neg (by decide), if_pos rfl]; rfl
theorem due_1 (hp : iP N j) (h : N (231 + j) = 1) : due N j = N (431 + j) ∧ knd N j = nI 0 := by
  refine ⟨?_, ?_⟩
  · rw [due, sOf_in hp, h, if_neg (by decide), if_neg (by decide)]
  · rw [knd, sOf_in hp, h, if_pos rfl]; rfl
theorem due_2 (hp : iP N j) (h : N (231 + j) = 2) (hc : c < 20) (hh : N (331 + j) = nI c) : due N j = (if N (631 + c) = 2 then N (671 + c) else if N (631 + c) = 3 then N (691 + c) else N (431 + j)) ∧ knd N j = N (631 + c) := by
  refine ⟨?_, ?_⟩
  · rw [due, sOf_in hp, h, if_neg (by decide), if_pos rfl, hh, ixn (by omega)]
  · rw [knd, sOf_in hp, h, if_neg (by decide), if_neg (by decide), hh, ixn (by omega)]
def LVC (N : Nat → Int32) (T j d k : Nat) : Prop := (k = 1 ∧ N (231 + j) = 3 ∧ N (431 + j) = nI d) ∨ ∃ c, c < 20 ∧ N (331 + j) = nI c ∧ N (651 + c) = nI j ∧ ((k = 0 ∧ N (631 + c) = 1 ∧ N (231 + j) = 1 ∧ N (431 + j) = nI d) ∨ (N (231 + j) = 2 ∧ ∃ r b u, N (671 + c) = nI r ∧ N (691 + c) = nI b ∧ N (431 + j) = nI u ∧ r < b ∧ b < u ∧ u ≤ T + 800 ∧ ((k = 2 ∧ N (631 + c) = 2 ∧ d = r) ∨ (k = 3 ∧ N (631 + c) = 3 ∧ d = b) ∨ (k = 4 ∧ N (631 + c) = 4 ∧ d = u))))
theorem IV.live (h : IV N v T lb) (hj : j < 100) (hl : ¬ N (231 + j) = 0) : ∃ d k, due N j = nI d ∧ knd N j = nI k ∧ lb ≤ d ∧ d ≤ T + 800 ∧ k < 5 ∧ iP N j ∧ LVC N T j d k := by
  rcases h.av j hj with a | ⟨a1, a2, u, a3, a4, a5⟩ | ⟨a1, c, b2, b3, b4, b5⟩
  · exact absurd a hl
  · obtain ⟨e1, e2⟩ := due_3 a2 a1
    exact ⟨u, 1, e1.trans a3, e2, a4, a5, by omega, a2, Or.inl ⟨rfl, a1, a3⟩⟩
  · obtain ⟨j', u, c1, c2, c3, c4, c5, c6, c7, hh⟩ := (h.cl c b2).busy b4
    obtain rfl : j = j' := nI_inj (by omega) (by omega) (b5.symm.trans c2)
    rcases hh with ⟨e1, e2⟩ | ⟨e2, -, r, b, e4, e5, e6, e7, e8⟩
    · obtain ⟨f1, f2⟩ := due_1 c4 e2
      exact ⟨u, 0, f1.trans c5, f2, c6, c7, by omega, c4, Or.inr ⟨c, b2, b3, b5, Or.inl ⟨rfl, e1, e2, c5⟩⟩⟩
    · obtain ⟨f1, f2⟩ := due_2 c4 e2 b2 b3
      rcases e8 with ⟨e8, e9⟩ | ⟨e8, e9⟩ | e8
      · refine ⟨r, 2, ?_, f2.trans e8, e9, by omega, by omega, c4, Or.inr ⟨c, b2, b3, b5, Or.inr ⟨e2, r, b, u, e4, e5, c5, e6, e7, c7, Or.inl ⟨rfl, e8, rfl⟩⟩⟩⟩
        rw [f1, if_pos e8]; exact e4
      · refine ⟨b, 3, ?_, f2.trans e8, e9, by omega, by omega, c4, Or.inr ⟨c, b2, b3, b5, Or.inr ⟨e2, r, b, u, e4, e5, c5, e6, e7, c7, Or.inr (Or.inl ⟨rfl, e8, rfl⟩)⟩⟩⟩
        rw [f1, e8, if_neg (by decide), if_pos rfl]; exact e5
      · refine ⟨u, 4, ?_, f2.trans e8, c6, c7, by omega, c4, Or.inr ⟨c, b2, b3, b5, Or.inr ⟨e2, r, b, u, e4, e5, c5, e6, e7, c7, Or.inr (Or.inr ⟨rfl, e8, rfl⟩)⟩⟩⟩
        rw [f1, e8, if_neg (by decide), if_neg (by decide)]; exact c5
/-- but at an address and its holder all is as it was -/
def DF (N' N : Nat → Int32) (j c : Nat) : Prop := ∀ x, x ≠ 231 + j → x ≠ 431 + j → x ≠ 531 + j → x ≠ 631 + c → x ≠ 671 + c → x ≠ 691 + c → N' x = N x
theorem DF.sp (h : DF N' N j c) : SP N' N := fun x a b => h x (by omega) (by omega) (by omega) (by omega) (by omega) (by omega)
theorem due_keep (h : IV N v T lb) (hD : DF N' N j c) (hi : i < 100) (hj : j < 100) (hcb : c < 20 ∨ c = 100) (hij : i ≠ j) (hl : ¬ N (231 + i) = 0) (hcc : ∀ c', c' < 20 → N (331 + i) = nI c' → N (651 + c') = nI i → c' ≠ c) : N' (231 + i) = N (231 + i) ∧ due N' i = due N i ∧ knd N' i = knd N i := by
  have e1 : N' (231 + i) = N (231 + i) := by
    by_cases q : c < 20
    · exact hD _ (by omega) (by omega) (by omega) (by omega) (by omega) (by omega)
    · exact hD _ (by omega) (by omega) (by omega) (by omega) (by omega) (by omega)
  have e2 : N' (431 + i) = N (431 + i) := hD _ (by omega) (by omega) (by omega) (by omega) (by omega) (by omega)
  have e3 : N' (331 + i) = N (331 + i) := hD _ (by omega) (by omega) (by omega) (by omega) (by omega) (by omega)
  refine ⟨e1, ?_⟩
  rcases h.av i hi with a | ⟨a1, a2, -⟩ | ⟨a1, c', b2, b3, b4, b5⟩
  · exact absurd a hl
  · obtain ⟨f1, f2⟩ := due_3 a2 a1
    obtain ⟨g1, g2⟩ := due_3 ((iP_same hD.sp i).mpr a2) (e1.trans a1)
    exact ⟨by rw [f1, g1, e2], by rw [f2, g2]⟩
  · have hne := hcc c' b2 b3 b5
    obtain ⟨j', u, c1, c2, c3, c4, -⟩ := (h.cl c' b2).busy b4
    obtain rfl : i = j' := nI_inj (by omega) (by omega) (b5.symm.trans c2)
    have c4' := (iP_same hD.sp i).mpr c4
    rcases a1 with a1 | a1
    · obtain ⟨f1, f2⟩ := due_1 c4 a1
      obtain ⟨g1, g2⟩ := due_1 c4' (e1.trans a1)
      exact ⟨by rw [f1, g1, e2], by rw [f2, g2]⟩
    · obtain ⟨f1, f2⟩ := due_2 c4 a1 b2 b3
      obtain ⟨g1, g2⟩ := due_2 c4' (e1.trans a1) b2 (e3.trans b3)
      have k1 : N' (631 + c') = N (631 + c') := hD _ (by omega) (by omega) (by omega) (by omega) (by omega) (by omega)
      have k2 : N' (671 + c') = N (671 + c') := hD _ (by omega) (by omega) (by omega) (by omega) (by omega) (by omega)
      have k3 : N' (691 + c') = N (691 + c') := hD _ (by omega) (by omega) (by omega) (by omega) (by omega) (by omega)
      exact ⟨by rw [f1, g1, e2, k1, k2, k3], by rw [f2, g2, k1]⟩
end LV9
