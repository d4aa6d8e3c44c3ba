/-- which of the exceptions, as the law counts them -/
def hcd (L : List String) (o : OT) : Int32 := match o with
  | .inl _ => 0
  | .inr c => nI (L.findIdx (fun x => x == c) + 1)
def AGR (L : List String) (o : OT) (T R : Int32) : Prop := (o = oI R ∧ T = 0) ∨ ∃ c, o = oX c ∧ c ∈ L ∧ T = hcd L o
theorem AGR.code {L : List String} {o : OT} {T R : Int32} (h : AGR L o T R) : T = hcd L o := by
  rcases h with ⟨h1, h2⟩ | ⟨c, -, -, h⟩
  · rw [h1, h2]; rfl
  · exact h
theorem AGR.ret {L : List String} {R : Int32} : AGR L (oI R) 0 R := Or.inl ⟨rfl, rfl⟩
theorem AGR.exc {L : List String} {T R : Int32} {c : String} (hc : c ∈ L) (hT : T = hcd L (oX c)) : AGR L (oX c) T R := Or.inr ⟨c, rfl, hc, hT⟩
/-- what is saved -/
def SD (σ : Sto) (M : Nat → Int32) (z : Int32) : Prop := σ 47 0 = z ∧ FLG (σ 27) 100 ∧ FLG (σ 28) 100 ∧ FLG (σ 42) 3 ∧ FLG (σ 43) 3 ∧ (¬ z = 0 → ∃ v T, RR (fun k => σ (22 + k)) M v ∧ IV M v T (T + 1) ∧ σ 38 0 = nI T)
theorem SD.keep {σ σ' : Sto} {M : Nat → Int32} {z : Int32} (hs : SV σ' σ) (h : SD σ M z) : SD σ' M z := by
  obtain ⟨h1, h2, h3, h4, h5, h6⟩ := h
  unfold SD
  rw [hs 47 (by omega), hs 27 (by omega), hs 28 (by omega), hs 42 (by omega), hs 43 (by omega), hs 38 (by omega)]
  refine ⟨h1, h2, h3, h4, h5, fun hz => ?_⟩
  obtain ⟨v, T, k1, k2, k3⟩ := h6 hz
  exact ⟨v, T, k1.ext (fun k j hk => congrFun (hs (22 + k) (by omega)) j), k2, k3⟩
def RTc (σ : Sto) (N M : Nat → Int32) (z : Int32) (f : Nat → Int32) (n : Int32) : Prop := (∃ v T, RZ σ N f n v T (T + 1)) ∧ SD σ M z
theorem RTc.go {σ σ' : Sto} {N N' M f f' : Nat → Int32} {z n n' : Int32} {v T : Nat} (h : RTc σ N M z f n) (hs : SV σ' σ) (hz : RZ σ' N' f' n' v T (T + 1)) : RTc σ' N' M z f' n' := ⟨⟨v, T, hz⟩, h.2.keep hs⟩
section OP1
variable {σ : Sto} {N M f : Nat → Int32} {n z : Int32}
theorem rngA_R {x y : Int32} : rngA x y = (inR x 0 99 && inR y 0 99 && decide (x ≤ y)) := by
  unfold rngA
  rw [inA_R, inA_R]
theorem inR_hi {x a b : Int32} : inR x a b = true ↔ ¬ x < a ∧ x ≤ b := by
  unfold inR
  rw [Bool.and_eq_true, Bool.not_eq_true', Bool.not_eq_true', decide_eq_false_iff_not, decide_eq_false_iff_not, Int32.not_lt (a := b)]
theorem op_addPool {g y t d : Int32} (h : RTc σ N M z f n) : ¬ σ 0 0 < 0 ∧ AGR [xIOB, xIAE, xISE] (oAdd σ g y t d) (apT N g y t d) (apR N g y t d) ∧ RTc (tAdd σ g y t d) (apN N g y t d) M z f n := by
  obtain ⟨⟨v, T, hz⟩, hsd⟩ := id h
  have hp := hz.2.2.1.po
  have hv := hp.1
  have h00 : σ 0 0 = nI v := hz.1.r1.c0.trans hp.2.1
  refine ⟨by rw [h00]; exact nI_pos (by omega), ?_⟩
  have bad : ∀ k : Int32, ¬ k = 0 → apT N g y t d = k → ∀ c, oAdd σ g y t d = oX c → tAdd σ g y t d = σ → c ∈ [xIOB, xIAE, xISE] → k = hcd [xIOB, xIAE, xISE] (oX c) → AGR [xIOB, xIAE, xISE] (oAdd σ g y t d) (apT N g y t d) (apR N g y t d) ∧ RTc (tAdd σ g y t d) (apN N g y t d) M z f n := fun k k0 e1 c e2 e3 e4 e5 => by
    refine ⟨by rw [e2, e1]; exact AGR.exc e4 e5, ?_⟩
    rw [e3, apN, e1, if_neg k0]
    exact h
  cases hg : inR g 0 2
  · exact bad 1 (by decide) (by rw [apT, hg, cond_false]) xIOB (by rw [oAdd, inG_R, hg, cond_false]) (by rw [tAdd, inG_R, hg, cond_false]) (by decide) (by decide +kernel)
  have hg' : inG g = true := by rw [inG_R, hg]
  cases hr : rngA y t
  · refine bad 2 (by decide) ?_ xIAE (by rw [oAdd, hg', hr, cond_true, cond_false]) (by rw [tAdd, hg', hr, cond_true, cond_false]) (by decide) (by decide +kernel)
    rw [rngA_R] at hr
    rw [apT, hg, cond_true, show (inR y 0 99 && inR t 0 99 && inR d 8 800 && decide (y ≤ t)) = false from ?_, cond_false]
    cases h1 : inR y 0 99 <;> cases h2 : inR t 0 99 <;> cases h3 : inR d 8 800 <;> rw [h1, h2] at hr <;> first | rfl | exact hr
  have hr' := hr
  rw [rngA_R, Bool.and_eq_true, Bool.and_eq_true] at hr'
  obtain ⟨⟨hy, ht⟩, hyt⟩ := hr'
  have badd : inR d 8 800 = false → apT N g y t d = 2 := fun hd => by
    rw [apT, hg, cond_true, hd, Bool.and_false, Bool.false_and, cond_false]
  by_cases hd1 : d < 8
  · exact bad 2 (by decide) (badd (bool_no fun q => (inR_hi.mp q).1 hd1)) xIAE (by rw [oAdd, hg', hr, cond_true, cond_true, if_pos hd1]) (by rw [tAdd, hg', hr, cond_true, cond_true, if_pos hd1]) (by decide) (by decide +kernel)
  by_cases hd2' : ¬ d ≤ 800
  · have hd2 := hd2'
    exact bad 2 (by decide) (badd (bool_no fun q => hd2 (inR_hi.mp q).2)) xIAE (by rw [oAdd, hg', hr, cond_true, cond_true, if_neg hd1, if_neg hd2]) (by rw [tAdd, hg', hr, cond_true, cond_true, if_neg hd1, if_neg hd2]) (by decide) (by decide +kernel)
  have hd2 : d ≤ 800 := Decidable.not_not.mp hd2'
  have hd : inR d 8 800 = true := inR_hi.mpr ⟨hd1, hd2⟩
  have hall : (inR y 0 99 && inR t 0 99 && inR d 8 800 && decide (y ≤ t)) = true := by rw [hy, ht, hd, hyt]; rfl
  by_cases hv5 : v = 5
  · have c5 : ¬ σ 0 0 < 5 := by rw [h00, hv5]; decide
    exact bad 3 (by decide) (by rw [apT, hg, hall, cond_true, cond_true, if_pos (by rw [hp.2.1, hv5]; rfl)]) xISE (by rw [oAdd, hg', hr, cond_true, cond_true, if_neg hd1, if_pos hd2, if_neg c5]) (by rw [tAdd, hg', hr, cond_true, cond_true, if_neg hd1, if_pos hd2, if_neg c5]) (by decide) (by decide +kernel)
  have c5 : σ 0 0 < 5 := by rw [h00]; exact nI_lt (b := 5) (by omega) (by decide)
  have n5 : ¬ N 4 = 5 := by rw [hp.2.1]; exact nI_ne (b := 5) (by omega) (by decide) hv5
  obtain ⟨a, ha, rfl⟩ := inR_99 hy
  obtain ⟨b, hb, rfl⟩ := inR_99 ht
  have hab : a ≤ b := (nI_leI (by omega) (by omega)).mp (of_decide_eq_true hyt)
  have hov := over_eq hz.1.r1 hp hab hb
  by_cases ho' : oaL N (nI b) a (100 - a) = true
  · have ho := ho'
    rw [ho] at hov
    exact bad 3 (by decide) (by rw [apT, hg, hall, cond_true, cond_true, if_neg n5, ixn (by omega), ho, cond_true]) xISE (by rw [oAdd, hg', hr, cond_true, cond_true, if_neg hd1, if_pos hd2, if_pos c5, hov, cond_true]) (by rw [tAdd, hg', hr, cond_true, cond_true, if_neg hd1, if_pos hd2, if_pos c5, hov, cond_true]) (by decide) (by decide +kernel)
  have ho : oaL N (nI b) a (100 - a) = false := bool_no ho'
  rw [ho] at hov
  have hT : apT N g (nI a) (nI b) d = 0 := by rw [apT, hg, hall, cond_true, cond_true, if_neg n5, ixn (by omega), ho, cond_false]
  have eO : oAdd σ g (nI a) (nI b) d = oI (σ 0 0) := by rw [oAdd, hg', hr, cond_true, cond_true, if_neg hd1, if_pos hd2, if_pos c5, hov, cond_false]
  have eT : tAdd σ g (nI a) (nI b) d = appd (fresh σ (nI a) (nI b)) g (nI a) (nI b) d := by rw [tAdd, hg', hr, cond_true, cond_true, if_neg hd1, if_pos hd2, if_pos c5, hov, cond_false]
  have eM : apM N g (nI a) (nI b) d = afL (nI b) a (100 - a) (ap4 N v g (nI a) (nI b) d) := by rw [apM, ixn (by omega), hp.2.1, ixn (by omega)]
  have e4 : apM N g (nI a) (nI b) d 4 = nI v := by
    rw [eM, (afL_at hb (100 - a) a _ (by omega)).2 4 (by omega), ap4_ne (by omega), hp.2.1]
  obtain ⟨g', hg2, rfl⟩ := inR_2 hg
  have hd3 := inR_hi.mp hd
  obtain ⟨d', hd4, rfl⟩ := nI_of (x := d) (fun q => hd3.1 (Int32.lt_trans q (by decide)))
  have h8 : 8 ≤ d' := by
    rcases Nat.lt_or_ge d' 8 with q | q
    · exact absurd (nI_lt (b := 8) q (by decide)) hd3.1
    · exact q
  have h9 : d' ≤ 800 := (nI_leI (b := 800) hd4 (by decide)).mp hd3.2
  have hno : ∀ j, a ≤ j → j ≤ b → ¬ iP N j := fun j h1 h2 h3 => by
    have := (oaL_iff hp hb (100 - a) a (by omega)).mpr ⟨j, h1, h2, h3⟩
    rw [ho] at this
    exact absurd this (by decide)
  obtain ⟨k1, k2⟩ := hz.add (by omega) hg2 hab hb h8 h9 hno
  have eN : apN N (nI g') (nI a) (nI b) (nI d') = adN N v (nI g') a b (nI d') := by
    rw [apN, hT, if_pos rfl, e4, nI_1, eM]
    rfl
  refine ⟨?_, ?_⟩
  · rw [eO, hT, h00, apR, hT, if_pos rfl, e4]
    exact AGR.ret
  · rw [eT, eN]
    exact h.go k2 k1
theorem isP_eq {v : Nat} {x : Int32} (h : R1 σ N v) (hp : PO N v) : isP σ x = inR x 0 (N 4 - 1) := by
  have hv := hp.1
  have h00 : σ 0 0 = nI v := h.c0.trans hp.2.1
  cases h1 : inR x 0 (N 4 - 1)
  · refine bool_no fun h2 => ?_
    obtain ⟨u, hu, rfl⟩ := isP_ex h2 h00 hv
    have : inR (nI u) 0 (N 4 - 1) = true := by
      rw [hp.2.1, show v = (v - 1) + 1 by omega, nI_pr, show (0 : Int32) = nI 0 from rfl, inR_n (by omega) (by decide) (by omega)]
      exact inB_iff.mpr ⟨by omega, by omega⟩
    rw [h1] at this
    exact absurd this (by decide)
  · have h2 := inR_hi.mp h1
    obtain ⟨u, hu, rfl⟩ := nI_of h2.1
    have hlt : u < v := by
      have h3 := Int32.le_iff_toInt_le.mp h2.2
      rcases Nat.eq_zero_or_pos v with q | q
      · rw [hp.2.1, q, show (nI 0 - 1).toInt = -1 from by decide, nI_toInt hu] at h3
        omega
      · rw [hp.2.1, show v = (v - 1) + 1 by omega, nI_pr, nI_toInt hu, nI_toInt (by omega)] at h3
        omega
    exact isP_n hlt hv h00
theorem op_removePool {x : Int32} (h : RTc σ N M z f n) : ∃ v, v ≤ 5 ∧ σ 0 0 = nI v ∧ MX N v ∧ AGR [xIOB, xISE] (oRem σ x) (rmT N x) (rmR N x) ∧ RTc (tRem σ x) (rmN N x) M z f n := by
  obtain ⟨⟨v, T, hz⟩, hsd⟩ := id h
  have hp := hz.2.2.1.po
  have hv := hp.1
  have h00 : σ 0 0 = nI v := hz.1.r1.c0.trans hp.2.1
  refine ⟨v, hv, h00, hz.2.2.1.mx, ?_⟩
  have e1 := isP_eq (x := x) hz.1.r1 hp
  cases hx : inR x 0 (N 4 - 1)
  · have hT : rmT N x = 1 := by rw [rmT, hx, cond_false]
    rw [hx] at e1
    refine ⟨?_, ?_⟩
    · rw [oRem, e1, cond_false, hT]; exact AGR.exc (by decide) (by decide +kernel)
    · rw [tRem, e1, cond_false, rmN, hT, if_neg (by decide)]; exact h
  rw [hx] at e1
  obtain ⟨p, hpv, rfl⟩ := isP_ex e1 h00 hv
  obtain ⟨-, -, q1, q2, q3, q4, -⟩ := hp.2.2.1 p hpv
  have ef := allF_eq hz.1 hp hpv
  have em : rmL N (nI p) = rnL N (nI (pt N p)) (pf N p) (100 - pf N p) := by rw [rmL, ixn (by omega), q1, q2, ixn (by omega)]
  cases hr : rnL N (nI (pt N p)) (pf N p) (100 - pf N p)
  · rw [hr] at ef em
    have hT : rmT N (nI p) = 0 := by rw [rmT, hx, em]; rfl
    obtain ⟨w, rfl⟩ : ∃ w, v = w + 1 := ⟨v - 1, by omega⟩
    have eo := oRem_n e1 ef h00 hpv
    have et := tRem_n e1 ef h00 hpv hv
    rw [Nat.add_sub_cancel] at eo et
    have hno : ∀ j, inQ N p j = true → N (231 + j) = 0 := fun j hj => by
      have := inB_iff.mp hj
      exact (rnL_all q4 (100 - pf N p) (pf N p) (by omega)).mp hr j this.1 this.2
    obtain ⟨k1, k2⟩ := hz.rem hpv hno
    have e4 : N 4 - 1 = nI w := by rw [hp.2.1, nI_pr]
    refine ⟨?_, ?_⟩
    · rw [eo, hT, rmR, hT, if_pos rfl, e4]; exact AGR.ret
    · rw [et, rmN, hT, if_pos rfl, rmM, e4, ixn (by omega), ixn (by omega)]
      exact h.go k2 k1
  · rw [hr] at ef em
    have hT : rmT N (nI p) = 2 := by rw [rmT, hx, em]; rfl
    refine ⟨?_, ?_⟩
    · rw [oRem, e1, ef, cond_true, hT]; exact AGR.exc (by decide) (by decide +kernel)
    · rw [tRem, e1, ef, cond_true, rmN, hT, if_neg (by decide)]; exact h
theorem op_poolCount (h : RTc σ N M z f n) : σ 0 0 = N 4 := by
  obtain ⟨⟨v, T, hz⟩, -⟩ := h
  exact hz.1.r1.c0
theorem op_mx (h : RTc σ N M z f n) : ∃ v T, MX N v ∧ IV N v T (T + 1) ∧ LG n ∧ v ≤ 5 := by
  obtain ⟨⟨v, T, hz⟩, -⟩ := h
  exact ⟨v, T, hz.2.2.1.mx, hz.2.2.1, hz.2.1.lg, hz.1.hv⟩
theorem inR_04 {q : Int32} (h : inR q 0 4 = true) : q = 0 ∨ q = 1 ∨ q = 2 ∨ q = 3 ∨ q = 4 := by
  obtain ⟨j, hj, rfl⟩ := inR_ex (n := 4) (by decide) h
  rcases (show j = 0 ∨ j = 1 ∨ j = 2 ∨ j = 3 ∨ j = 4 by omega) with rfl | rfl | rfl | rfl | rfl
  · exact Or.inl rfl
  · exact Or.inr (Or.inl rfl)
  · exact Or.inr (Or.inr (Or.inl rfl))
  · exact Or.inr (Or.inr (Or.inr (Or.inl rfl)))
  · exact Or.inr (Or.inr (Or.inr (Or.inr rfl)))
theorem op_pool {x q : Int32} (h : RTc σ N M z f n) : AGR [xIOB, xIAE] (oPl σ x q) (bif inR x 0 (N 4 - 1) then (bif inR q 0 4 then 0 else 2) else 1) (bif inR x 0 (N 4 - 1) then (bif inR q 0 4 then (if 4 ≤ q then plL N (N (5 + 4 * ix x + 2)) (N (5 + 4 * ix x)) (ix (N (5 + 4 * ix x + 1))) (100 - ix (N (5 + 4 * ix x + 1))) 0 else N (5 + 4 * ix x + ix q)) else 0) else 0) := by
  obtain ⟨⟨v, T, hz⟩, -⟩ := h
  have hp := hz.2.2.1.po
  have hv := hp.1
  have h00 : σ 0 0 = nI v := hz.1.r1.c0.trans hp.2.1
  have e1 := isP_eq (x := x) hz.1.r1 hp
  unfold oPl
  rw [e1]
  cases hx : inR x 0 (N 4 - 1)
  · rw [cond_false, cond_false, cond_false]
    exact AGR.exc (by decide) (by decide +kernel)
  rw [hx] at e1
  obtain ⟨p, hpv, rfl⟩ := isP_ex e1 h00 hv
  obtain ⟨-, -, q1, q2, q3, q4, -⟩ := hp.2.2.1 p hpv
  rw [cond_true, cond_true, cond_true, ixn (by omega)]
  cases hq : inR q 0 4
  · have nq : ∀ k : Nat, k ≤ 4 → ¬ q = nI k := fun k hk e => by
      rw [e, show (0 : Int32) = nI 0 from rfl, show (4 : Int32) = nI 4 from rfl, inR_n (by omega) (by decide) (by decide)] at hq
      rw [inB_iff.mpr ⟨by omega, hk⟩] at hq
      exact absurd hq (by decide)
    rw [if_neg (show ¬ q = 0 from nq 0 (by omega)), if_neg (show ¬ q = 1 from nq 1 (by omega)), if_neg (show ¬ q = 2 from nq 2 (by omega)), if_neg (show ¬ q = 3 from nq 3 (by omega)), if_neg (show ¬ q = 4 from nq 4 (by omega)), cond_false, cond_false]
    exact AGR.exc (by decide) (by decide +kernel)
  · rw [cond_true, cond_true]
    rcases inR_04 hq with rfl | rfl | rfl | rfl | rfl
    · rw [if_pos rfl, if_neg (by decide), hz.1.r1.c1 hpv]; exact AGR.ret
    · rw [if_neg (by decide), if_pos rfl, if_neg (by decide), hz.1.r1.c2 hpv]; exact AGR.ret
    · rw [if_neg (by decide), if_neg (by decide), if_pos rfl, if_neg (by decide), hz.1.r1.c3 hpv]; exact AGR.ret
    · rw [if_neg (by decide), if_neg (by decide), if_neg (by decide), if_pos rfl, if_neg (by decide), hz.1.r1.c4 hpv]; exact AGR.ret
    · rw [if_neg (by decide), if_neg (by decide), if_neg (by decide), if_neg (by decide), if_pos rfl, if_pos (by decide), hz.1.r1.c2 hpv, hz.1.r1.c3 hpv, q1, q2, ixn (by omega)]
      unfold offIn
      rw [ixn (by omega), offL_eq hz.1 hp hpv (100 - pf N p) (pf N p) 0 (Nat.le_refl _) (by omega)]
      exact AGR.ret
theorem lkA_eq {v : Nat} {x : Int32} (hp : PO N v) : (inR x 0 99 = false ∧ lkA N x = 1) ∨ (∃ j, j < 100 ∧ x = nI j ∧ inR x 0 99 = true ∧ ow N (nI j) = -1 ∧ lkA N (nI j) = 2) ∨ ∃ j, j < 100 ∧ x = nI j ∧ inR x 0 99 = true ∧ iP N j ∧ lkA N (nI j) = 0 := by
  cases hx : inR x 0 99
  · exact Or.inl ⟨rfl, by rw [lkA, hx, cond_false]⟩
  · obtain ⟨j, hj, rfl⟩ := inR_99 hx
    refine Or.inr ?_
    rcases ow_get hp (j := j) (by omega) with ⟨e, -⟩ | ⟨p, hpv, hin, e⟩
    · exact Or.inl ⟨j, hj, rfl, rfl, e, by rw [lkA, hx, cond_true, e]; rfl⟩
    · have hi := iP_in hp (by omega) hpv hin
      exact Or.inr ⟨j, hj, rfl, rfl, hi, by rw [lkA, hx, cond_true, if_pos (show 0 ≤ ow N (nI j) from hi)]⟩
/-- questions about an address of a pool -/
theorem inp_agr {x : Int32} {o : OT} {T R : Int32} (h : RTc σ N M z f n) (h0 : ∀ j, j < 100 → x = nI j → iP N j → AGR [xIOB, xNSE] o T R) (hT : ∀ k, lkA N x = k → (k = 1 ∨ k = 2) → T = k) : AGR [xIOB, xNSE] (oInP σ x o) T R := by
  obtain ⟨⟨v, T', hz⟩, -⟩ := h
  have hp := hz.2.2.1.po
  unfold oInP
  rw [inA_R]
  rcases lkA_eq (x := x) hp with ⟨e1, e2⟩ | ⟨j, hj, rfl, e1, e2, e3⟩ | ⟨j, hj, rfl, e1, e2, e3⟩
  · rw [e1, cond_false, hT 1 e2 (Or.inl rfl)]
    exact AGR.exc (by decide) (by decide +kernel)
  · rw [e1, cond_true, inPl, numAt_eq hz.1.r1 hp, e2, decide_eq_true rfl, Bool.not_true, cond_false, hT 2 e3 (Or.inr rfl)]
    exact AGR.exc (by decide) (by decide +kernel)
  · rw [e1, cond_true, inPl, numAt_eq hz.1.r1 hp, decide_eq_false (show ¬ ow N (nI j) = -1 from ?_), Bool.not_false, cond_true]
    · exact h0 j hj rfl e2
    · intro q
      unfold iP at e2
      rw [q] at e2
      exact absurd e2 (by decide)
theorem lkA_n {j : Nat} (hj : j < 100) (hi : iP N j) : lkA N (nI j) = 0 := by
  rw [lkA, show inR (nI j) 0 99 = true from by rw [show (0 : Int32) = nI 0 from rfl, show (99 : Int32) = nI 99 from rfl, inR_n (by omega) (by decide) (by decide)]; exact inB_iff.mpr ⟨by omega, by omega⟩, cond_true, if_pos (show 0 ≤ ow N (nI j) from hi)]
theorem op_poolOf {x : Int32} (h : RTc σ N M z f n) : AGR [xIOB, xNSE] (oInP σ x (oI (numAt σ x))) (lkA N x) (if lkA N x ≤ 0 then ow N x else 0) := by
  refine inp_agr h (fun j hj e hi => ?_) (fun k e _ => e)
  obtain ⟨⟨v, T, hz⟩, -⟩ := h
  subst e
  rw [lkA_n hj hi, if_pos (show (0 : Int32) ≤ 0 by decide), numAt_eq hz.1.r1 hz.2.2.1.po]
  exact AGR.ret
theorem op_addressState {x : Int32} (h : RTc σ N M z f n) : AGR [xIOB, xNSE] (oInP σ x (oI (σ 7 (ix x)))) (lkA N x) (if lkA N x ≤ 0 then N (231 + ix x) else 0) := by
  refine inp_agr h (fun j hj e hi => ?_) (fun k e _ => e)
  obtain ⟨⟨v, T, hz⟩, -⟩ := h
  subst e
  rw [lkA_n hj hi, if_pos (show (0 : Int32) ≤ 0 by decide), ixn (by omega), hz.1.r1.c7 hj]
  exact AGR.ret
theorem lk_gt {x k : Int32} (h : lkA N x = k) (hk : k = 1 ∨ k = 2) : ¬ lkA N x ≤ 0 := by
  rw [h]
  rcases hk with e | e <;> rw [e] <;> decide
theorem op_holder {x : Int32} (h : RTc σ N M z f n) : AGR [xIOB, xNSE] (oInP σ x (if σ 8 (ix x) = -1 then oX xNSE else oI (σ 8 (ix x)))) (if lkA N x ≤ 0 then (bif inR (N (231 + ix x)) 1 2 then 0 else 2) else lkA N x) (if lkA N x ≤ 0 then (bif inR (N (231 + ix x)) 1 2 then N (331 + ix x) else 0) else 0) := by
  refine inp_agr h (fun j hj e hi => ?_) (fun k e e2 => by rw [if_neg (lk_gt e e2)]; exact e)
  obtain ⟨⟨v, T, hz⟩, -⟩ := h
  subst e
  rw [lkA_n hj hi, if_pos (show (0 : Int32) ≤ 0 by decide), if_pos (show (0 : Int32) ≤ 0 by decide), ixn (by omega), hz.1.r8 j hj]
  have hs : N (231 + j) = 0 ∨ N (231 + j) = 3 ∨ ((N (231 + j) = 1 ∨ N (231 + j) = 2) ∧ ∃ c, c < 20 ∧ N (331 + j) = nI c) := by
    rcases hz.2.2.1.av j hj with q | ⟨q, -⟩ | ⟨q, c, hc, q2, -⟩
    · exact Or.inl q
    · exact Or.inr (Or.inl q)
    · exact Or.inr (Or.inr ⟨q, c, hc, q2⟩)
  rcases hs with q | q | ⟨q, c, hc, q2⟩
  · rw [q, if_neg (show ¬ ((0 : Int32) = 1 ∨ (0 : Int32) = 2) by decide), if_pos rfl, show inR 0 1 2 = false by decide, cond_false, cond_false]
    exact AGR.exc (by decide) (by decide +kernel)
  · rw [q, if_neg (show ¬ ((3 : Int32) = 1 ∨ (3 : Int32) = 2) by decide), if_pos rfl, show inR 3 1 2 = false by decide, cond_false, cond_false]
    exact AGR.exc (by decide) (by decide +kernel)
  · rw [if_pos q, q2, if_neg (nI_m1 (by omega)), show inR (N (231 + j)) 1 2 = true from by rcases q with q | q <;> rw [q] <;> decide, cond_true, cond_true]
    exact AGR.ret
theorem op_until {x : Int32} (h : RTc σ N M z f n) : AGR [xIOB, xNSE] (oInP σ x (if σ 7 (ix x) = 0 then oX xNSE else oI (σ 9 (ix x)))) (if lkA N x ≤ 0 then (if N (231 + ix x) = 0 then 2 else 0) else lkA N x) (if lkA N x ≤ 0 then (if N (231 + ix x) = 0 then 0 else N (431 + ix x)) else 0) := by
  refine inp_agr h (fun j hj e hi => ?_) (fun k e e2 => by rw [if_neg (lk_gt e e2)]; exact e)
  obtain ⟨⟨v, T, hz⟩, -⟩ := h
  subst e
  rw [lkA_n hj hi, if_pos (show (0 : Int32) ≤ 0 by decide), if_pos (show (0 : Int32) ≤ 0 by decide), ixn (by omega), hz.1.r1.c7 hj, hz.1.r1.c9 hj]
  by_cases q : N (231 + j) = 0
  · rw [if_pos q, if_pos q, if_pos q]
    exact AGR.exc (by decide) (by decide +kernel)
  · rw [if_neg q, if_neg q, if_neg q]
    exact AGR.ret
theorem op_freeSince {x : Int32} (h : RTc σ N M z f n) : AGR [xIOB, xNSE] (oInP σ x (if σ 7 (ix x) = 0 then oI (σ 10 (ix x)) else oX xNSE)) (if lkA N x ≤ 0 then (if N (231 + ix x) = 0 then 0 else 2) else lkA N x) (if lkA N x ≤ 0 then (if N (231 + ix x) = 0 then N (531 + ix x) else 0) else 0) := by
  refine inp_agr h (fun j hj e hi => ?_) (fun k e e2 => by rw [if_neg (lk_gt e e2)]; exact e)
  obtain ⟨⟨v, T, hz⟩, -⟩ := h
  subst e
  rw [lkA_n hj hi, if_pos (show (0 : Int32) ≤ 0 by decide), if_pos (show (0 : Int32) ≤ 0 by decide), ixn (by omega), hz.1.r1.c7 hj, hz.1.r10 j hj hi]
  by_cases q : N (231 + j) = 0
  · rw [if_pos q, if_pos q, if_pos q]
    exact AGR.ret
  · rw [if_neg q, if_neg q, if_neg q]
    exact AGR.exc (by decide) (by decide +kernel)
end OP1
