section OP3
variable {σ : Sto} {N M f : Nat → Int32} {n z : Int32} {v T lb j c : Nat}
theorem IV.oko (h : IV N v T lb) : OKO N v := fun c hc h0 => by
  obtain ⟨j, hj, e, -, hi, -, -⟩ := h.adr hc h0
  obtain ⟨p, hp, ho, -⟩ := h.pool hj hi
  exact ⟨p, hp, by rw [e]; exact ho⟩
theorem op_oko (h : RTc σ N M z f n) : ∃ v T, MX N v ∧ OKO N v ∧ IV N v T (T + 1) ∧ LG n ∧ v ≤ 5 := by
  obtain ⟨v, T, a1, a2, a3, a4⟩ := op_mx h
  exact ⟨v, T, a1, a2.oko, a2, a3, a4⟩
theorem inC_f {x : Int32} (h : inR x 0 19 = false) : inC x = false := by rw [inC_R, h]
theorem inC_t {x : Int32} (h : inR x 0 19 = true) : inC x = true := by rw [inC_R, h]
theorem IV.busy (h : IV N v T lb) (hc : c < 20) : N (631 + c) = 0 ∨ N (631 + c) = 1 ∨ bdM N c = true := by
  rcases h.cl c hc with e | ⟨j, u, -, -, -, -, -, -, -, ⟨e, -⟩ | ⟨-, -, r, b, -, -, -, -, ⟨e, -⟩ | ⟨e, -⟩ | e⟩⟩
  · exact Or.inl e
  · exact Or.inr (Or.inl e)
  all_goals exact Or.inr (Or.inr (by rw [bdM, e]; decide))
/-- what a client held goes back -/
theorem RZ.d1 (h : RZ σ N f n v T lb) (hc : c < 20) (hb : bdM N c = false) : RZ (eHd σ (nI c)) (d1N N c) f n v T lb ∧ d1N N c (631 + c) = 0 := by
  refine ⟨?_, by rw [d1N, pk_us]⟩
  rcases h.2.2.1.busy hc with e | e | e
  · have eN : d1N N c = upd N (631 + c) 0 := by rw [d1N, if_neg (by rw [e]; decide)]
    rw [eN]
    refine ⟨h.1.kEz hc e, h.2.1.hi (fun k hk => eHd_hi hk), ?_, (congrFun (eHd_hi (Nat.le_refl 16)) 0).trans h.2.2.2⟩
    rw [upd_id e]
    exact h.2.2.1
  · obtain ⟨j, hj, ha, -⟩ := h.2.2.1.off hc e
    have eN : d1N N c = upd (mFr N j (nI T)) (631 + c) 0 := by rw [d1N, if_pos e, aC, ha, ixn (by omega), h.2.2.1.tm]
    rw [eN]
    exact h.en hc (by rw [e]; decide) ha hj
  · rw [hb] at e; exact absurd e (by decide)
theorem op_discover {x g w : Int32} (h : RTc σ N M z f n) : AGR [xIOB, xISE, xNSE] (oDis σ x g w) (diT N x g (d2S N f n (ix x) g w) w) (diR N x g (d2S N f n (ix x) g w) w) ∧ RTc (tDis σ x g w) (diN N x g (d2S N f n (ix x) g w) w) M z (diF N x g (d2S N f n (ix x) g w) w f) (diM N x g (d2S N f n (ix x) g w) w n) := by
  obtain ⟨⟨v, T, hz⟩, hsd⟩ := id h
  generalize hS : d2S N f n (ix x) g w = S
  have stay : ∀ k : Int32, (k = 1 ∨ k = 2) → diT N x g S w = k → ∀ cc, oDis σ x g w = oX cc → tDis σ x g w = σ → cc ∈ [xIOB, xISE, xNSE] → k = hcd [xIOB, xISE, xNSE] (oX cc) → AGR [xIOB, xISE, xNSE] (oDis σ x g w) (diT N x g S w) (diR N x g S w) ∧ RTc (tDis σ x g w) (diN N x g S w) M z (diF N x g S w f) (diM N x g S w n) := fun k hk e1 cc e2 e3 e4 e5 => by
    have n0 : ¬ k = 0 := by rcases hk with e | e <;> rw [e] <;> decide
    have n3 : ¬ k = 3 := by rcases hk with e | e <;> rw [e] <;> decide
    refine ⟨by rw [e2, e1]; exact AGR.exc e4 e5, ?_⟩
    rw [e3, diN, diF, diM, e1, if_neg n0, if_neg n3, if_neg n0, if_neg n3, if_neg n0, if_neg n3]
    exact h
  cases hx : inR x 0 19
  · exact stay 1 (Or.inl rfl) (by rw [diT, hx, Bool.false_and, cond_false]) xIOB (by rw [oDis, inC_f hx, cond_false]) (by rw [tDis, inC_f hx, cond_false]) (by decide) (by decide +kernel)
  have hC := inC_t hx
  cases hg : inR g 0 2
  · exact stay 1 (Or.inl rfl) (by rw [diT, hg, Bool.and_false, cond_false]) xIOB (by rw [oDis, hC, inG_R, hg, cond_true, cond_false]) (by rw [tDis, hC, inG_R, hg, cond_true, cond_false]) (by decide) (by decide +kernel)
  have hG : inG g = true := by rw [inG_R, hg]
  have hxg : (inR x 0 19 && inR g 0 2) = true := by rw [hx, hg]; rfl
  obtain ⟨c, hc, rfl⟩ := inR_19 hx
  obtain ⟨g', hg', rfl⟩ := inR_2 hg
  have hb := bd_n hz.1.r1 hc
  have ec : ix (nI c) = c := ixn (by omega)
  have eg : ix (nI g') = g' := ixn (by omega)
  have e21 : σ 21 g' = N (28 + g') := hz.1.r1.c21 hg'
  rw [ec] at hS
  cases hbm : bdM N c
  case true =>
    exact stay 2 (Or.inr rfl) (by rw [diT, hxg, cond_true, if_pos (Or.inl (by rw [ec]; exact hbm))]) xISE (by rw [oDis, hC, hG, cond_true, cond_true, hb, hbm, cond_true]) (by rw [tDis, hC, hG, cond_true, cond_true, hb, hbm, cond_true]) (by decide) (by decide +kernel)
  by_cases hr : N (28 + g') = 0
  · exact stay 2 (Or.inr rfl) (by rw [diT, hxg, cond_true, if_pos (Or.inr (by rw [eg]; exact hr))]) xISE (by rw [oDis, hC, hG, cond_true, cond_true, hb, hbm, cond_false, eg, e21, if_pos hr]) (by rw [tDis, hC, hG, cond_true, cond_true, hb, hbm, cond_false, eg, e21, if_pos hr]) (by decide) (by decide +kernel)
  obtain ⟨k1, k2⟩ := hz.d1 hc hbm
  obtain ⟨N1, f1, n1, b1, b2, b3⟩ := mk_sim (g := nI g') (x := w) hc (nI_m1 (by omega)) 100 (eHd σ (nI c)) (d1N N c) f n k1 (Nat.le_refl _) k2 (fzL_le 100 0)
  have eS : S = (N1, f1, n1) := by rw [← hS, d2S]; exact b1
  have hno : ¬ (bdM N (ix (nI c)) = true ∨ N (28 + ix (nI g')) = 0) := by
    rw [ec, eg, hbm]
    intro q
    rcases q with q | q
    · exact absurd q (by decide)
    · exact hr q
  have hSV : SV (mkL (nI c) (nI g') w 100 (eHd σ (nI c))).2 σ := b2.tr (SV.hi (fun k hk => eHd_hi hk))
  have eD : tDis σ (nI c) (nI g') w = (mkL (nI c) (nI g') w 100 (eHd σ (nI c))).2 := by rw [tDis, hC, hG, cond_true, cond_true, hb, hbm, cond_false, eg, e21, if_neg hr, MO]
  have eZ : diZ S (ix (nI c)) (nI g') w = caM N1 c (nI g') w := by rw [diZ, eS, ec]
  rcases b3 with ⟨e1, e2, e3⟩ | ⟨a, ha, e1, e2, e3⟩
  · have hT : diT N (nI c) (nI g') S w = 3 := by rw [diT, hxg, cond_true, if_neg hno, eZ, e1, if_pos (by decide)]
    have eO : oDis σ (nI c) (nI g') w = oX xNSE := by rw [oDis, hC, hG, cond_true, cond_true, hb, hbm, cond_false, eg, e21, if_neg hr, MO, e2, if_pos rfl]
    refine ⟨by rw [eO, hT]; exact AGR.exc (by decide) (by decide +kernel), ?_⟩
    rw [eD, diN, diF, diM, hT, if_neg (by decide), if_pos rfl, if_neg (by decide), if_pos rfl, if_neg (by decide), if_pos rfl, eS]
    exact h.go hSV e3
  · have hT : diT N (nI c) (nI g') S w = 0 := by rw [diT, hxg, cond_true, if_neg hno, eZ, e1, if_neg (nI_pos (by omega))]
    have eO : oDis σ (nI c) (nI g') w = oI (nI a) := by rw [oDis, hC, hG, cond_true, cond_true, hb, hbm, cond_false, eg, e21, if_neg hr, MO, e2, if_neg (nI_m1 (by omega))]
    refine ⟨by rw [eO, diR, hT, if_pos rfl, eZ, e1]; exact AGR.ret, ?_⟩
    rw [eD, diN, diF, diM, hT, if_pos rfl, if_pos rfl, if_pos rfl, eZ, e1, eS, ec, ixn (by omega)]
    exact h.go hSV e3
theorem op_accept {x : Int32} (h : RTc σ N M z f n) : AGR [xIOB, xNSE, xISE] (oAcc σ x) (acT N x) (if acT N x = 0 then N (651 + ix x) else 0) ∧ RTc (tAcc σ x) (if acT N x = 0 then acN N (ix x) else N) M z (if acT N x = 0 then lgM f n 2 (N (651 + ix x)) else f) (if acT N x = 0 then lgN n else n) := by
  obtain ⟨⟨v, T, hz⟩, hsd⟩ := id h
  have stay : ∀ k : Int32, ¬ k = 0 → acT N x = k → ∀ cc, oAcc σ x = oX cc → tAcc σ x = σ → cc ∈ [xIOB, xNSE, xISE] → k = hcd [xIOB, xNSE, xISE] (oX cc) → AGR [xIOB, xNSE, xISE] (oAcc σ x) (acT N x) (if acT N x = 0 then N (651 + ix x) else 0) ∧ RTc (tAcc σ x) (if acT N x = 0 then acN N (ix x) else N) M z (if acT N x = 0 then lgM f n 2 (N (651 + ix x)) else f) (if acT N x = 0 then lgN n else n) := fun k k0 e1 cc e2 e3 e4 e5 => by
    refine ⟨by rw [e2, e1]; exact AGR.exc e4 e5, ?_⟩
    rw [e3, e1, if_neg k0, if_neg k0, if_neg k0]
    exact h
  cases hx : inR x 0 19
  · exact stay 1 (by decide) (by rw [acT, hx, cond_false]) xIOB (by rw [oAcc, inC_f hx, cond_false]) (by rw [tAcc, inC_f hx, cond_false]) (by decide) (by decide +kernel)
  have hC := inC_t hx
  obtain ⟨c, hc, rfl⟩ := inR_19 hx
  have ec : ix (nI c) = c := ixn (by omega)
  have e11 := hz.1.r1.c11 hc
  by_cases h1 : N (631 + c) = 1
  case neg =>
    exact stay 2 (by decide) (by rw [acT, hx, cond_true, ec, if_neg h1]) xNSE (by rw [oAcc, hC, cond_true, ec, e11, if_neg h1]) (by rw [tAcc, hC, cond_true, ec, e11, if_neg h1]) (by decide) (by decide +kernel)
  have h0 : ¬ N (631 + c) = 0 := by rw [h1]; decide
  obtain ⟨j, hj, ha, hh, hi, hs⟩ := hz.2.2.1.off hc h1
  obtain ⟨g, hg, eg, -, eu⟩ := path_eq hz.1 hz.2.2.1 hc h0 ha hj hi
  have eG : N (28 + ix (gr N (N (651 + c)))) = N (28 + g) := by rw [ha, eg, ixn (by omega)]
  by_cases hr : N (28 + g) = 0
  · have eu2 : rUp σ (nI c) = false := by rw [eu, decide_eq_true hr]; rfl
    exact stay 3 (by decide) (by rw [acT, hx, cond_true, ec, if_pos h1, eG, if_pos hr]) xISE (by rw [oAcc, hC, cond_true, ec, e11, if_pos h1, eu2, cond_false]) (by rw [tAcc, hC, cond_true, ec, e11, if_pos h1, eu2, cond_false]) (by decide) (by decide +kernel)
  have eu2 : rUp σ (nI c) = true := by rw [eu, decide_eq_false hr]; rfl
  have hT : acT N (nI c) = 0 := by rw [acT, hx, cond_true, ec, if_pos h1, eG, if_neg hr]
  obtain ⟨p, hp, ho, -, hd, hd8, hd9, -, -⟩ := hz.2.2.1.pool hj hi
  have hv := hz.1.hv
  have hTl := hz.2.2.1.tl
  have k1 := RR.kSt hz.1 hz.2.2.1.po hc hj h0 ha hh hp ho hd hd9 hz.2.2.2 (by omega)
  have q2 : lsN (upd (upd N (231 + j) 2) (711 + c) (nI (j + 1))) c j T (pl N p) (651 + c) = nI j := by
    rw [lsN, pk_un (by omega), pk_un (by omega), pk_un (by omega), pk_un (by omega), pk_un (by omega), pk_un (by omega), ha]
  have q1 : ¬ lsN (upd (upd N (231 + j) 2) (711 + c) (nI (j + 1))) c j T (pl N p) (631 + c) = 0 := by
    rw [lsN, pk_un (by omega), pk_un (by omega), pk_un (by omega), pk_us]
    decide
  have e12 : sTm σ (nI c) 12 c = nI j := by rw [k1.r12 c hc, if_neg q1, q2]
  have k2 : IV (lsN (upd (upd N (231 + j) 2) (711 + c) (nI (j + 1))) c j T (pl N p)) v T (T + 1) := hz.2.2.1.ls (Nat.le_refl _) hc hj h0 ha hd8 hd9 (Or.inr rfl) (by rw [pk_un (by omega), pk_us]) (by rw [pk_us])
  have hSP : SP (upd (upd N (231 + j) 2) (711 + c) (nI (j + 1))) N := SP.tr (SP.up (by omega)) (SP.up (by omega))
  have eA : acN N c = lsN (upd (upd N (231 + j) 2) (711 + c) (nI (j + 1))) c j T (pl N p) := by
    have eC : aC N c = j := by rw [aC, ha, ixn (by omega)]
    rw [acN, eC, pk_un (show 0 ≠ 711 + c by omega), pk_un (show 0 ≠ 231 + j by omega), hz.2.2.1.tm]
    exact mLs_eq (p := p) hj (by rw [pk_un (by omega), pk_un (by omega)]; exact ha) (by omega) (by rw [ow_same hSP]; exact ho) (by rw [hSP _ (by omega) (by omega)]; exact hd) hd9 (by omega)
  have eB : bLs σ (nI c) = logW (sTm σ (nI c)) 2 (nI j) := by rw [bLs, hC, cond_true, ec, e12]
  have eB12 : bLs σ (nI c) 12 c = nI j := by rw [eB, logW_row (by decide), e12]
  refine ⟨?_, ?_⟩
  · rw [oAcc, hC, cond_true, ec, e11, if_pos h1, eu2, cond_true, eB12, hT, if_pos rfl, ha]
    exact AGR.ret
  · rw [tAcc, hC, cond_true, ec, e11, if_pos h1, eu2, cond_true, hT, if_pos rfl, if_pos rfl, if_pos rfl, eA, eB, ha]
    exact h.go (SV.tr SV.lg (SV.hi (fun k hk => sTm_hi hk))) (RZ.lgs ⟨k1, hz.2.1.hi (fun k hk => sTm_hi hk), k2, (congrFun (sTm_hi (Nat.le_refl 16)) 0).trans hz.2.2.2⟩)
/-- a call for a bound client that does something -/
theorem bd_st {L : List String} {x : Int32} {o : OT} {τ : Sto} {T0 R0 : Int32} {N0 f0 : Nat → Int32} {n0 : Int32} (h : RTc σ N M z f n) (hL : ∃ L', L = xIOB :: xNSE :: L') (h0 : ∀ c v T, c < 20 → x = nI c → bdM N c = true → lkL N x = 0 → RZ σ N f n v T (T + 1) → AGR L o T0 R0 ∧ RTc τ N0 M z f0 n0) (h1 : ∀ k, lkL N x = k → ¬ lkL N x ≤ 0 → T0 = k ∧ N0 = N ∧ f0 = f ∧ n0 = n) : AGR L (oBd σ x o) T0 R0 ∧ RTc (tBd σ x τ) N0 M z f0 n0 := by
  obtain ⟨⟨v, T, hz⟩, hsd⟩ := id h
  obtain ⟨L', rfl⟩ := hL
  unfold oBd tBd
  rcases lkL_eq (N := N) (x := x) with ⟨e1, e2⟩ | ⟨c, hc, rfl, e1, ⟨e2, e3⟩ | ⟨e2, e3⟩⟩
  · obtain ⟨q1, q2, q3, q4⟩ := h1 1 e2 (by rw [e2]; decide)
    rw [inC_f e1, cond_false, cond_false, q1, q2, q3, q4]
    exact ⟨AGR.exc List.mem_cons_self (by simp [hcd, List.findIdx_cons]; rfl), h⟩
  · obtain ⟨q1, q2, q3, q4⟩ := h1 2 e3 (by rw [e3]; decide)
    rw [inC_t e1, cond_true, cond_true, bd_n hz.1.r1 hc, e2, cond_false, cond_false, q1, q2, q3, q4]
    exact ⟨AGR.exc (List.mem_cons_of_mem _ List.mem_cons_self) (by simp [hcd, List.findIdx_cons]; rfl), h⟩
  · rw [inC_t e1, cond_true, cond_true, bd_n hz.1.r1 hc, e2, cond_true, cond_true]
    exact h0 c v T hc rfl e2 e3 hz
theorem op_release {x : Int32} (h : RTc σ N M z f n) : AGR [xIOB, xNSE] (oBd σ x (oI (σ 12 (ix x)))) (lkL N x) (if lkL N x ≤ 0 then N (651 + ix x) else 0) ∧ RTc (tBd σ x (logW (eHd σ x) 6 (σ 12 (ix x)))) (if lkL N x ≤ 0 then rlN N (ix x) else N) M z (if lkL N x ≤ 0 then lgM f n 6 (N (651 + ix x)) else f) (if lkL N x ≤ 0 then lgN n else n) := by
  refine bd_st h ⟨_, rfl⟩ (fun c v T hc e hb hl hz => ?_) (fun k e1 e2 => by rw [if_neg e2, if_neg e2, if_neg e2]; exact ⟨e1, rfl, rfl, rfl⟩)
  have hl0 : lkL N x ≤ 0 := by rw [hl]; decide
  have ec : ix x = c := by rw [e, ixn (by omega)]
  obtain ⟨b0, b1⟩ := bdM_ne hb
  obtain ⟨j, hj, ha, -⟩ := hz.2.2.1.bnd hc b0 b1
  have e12 : σ 12 c = nI j := by rw [hz.1.r12 c hc, if_neg b0, ha]
  rw [if_pos hl0, if_pos hl0, if_pos hl0, if_pos hl0, hl, ec, e12, ha, e, rlN, aC, ha, ixn (show j < 2 ^ 31 by omega), hz.2.2.1.tm]
  exact ⟨AGR.ret, h.go (SV.tr SV.lg (SV.hi (fun k hk => eHd_hi hk))) (hz.en hc b0 ha hj).lgs⟩
theorem op_decline {x : Int32} (h : RTc σ N M z f n) : AGR [xIOB, xNSE] (oBd σ x (oI (σ 12 (ix x)))) (lkL N x) (if lkL N x ≤ 0 then N (651 + ix x) else 0) ∧ RTc (tBd σ x (dLs σ x)) (if lkL N x ≤ 0 then dcN N (ix x) else N) M z (if lkL N x ≤ 0 then lgM f n 7 (N (651 + ix x)) else f) (if lkL N x ≤ 0 then lgN n else n) := by
  refine bd_st h ⟨_, rfl⟩ (fun c v T hc e hb hl hz => ?_) (fun k e1 e2 => by rw [if_neg e2, if_neg e2, if_neg e2]; exact ⟨e1, rfl, rfl, rfl⟩)
  have hl0 : lkL N x ≤ 0 := by rw [hl]; decide
  have ec : ix x = c := by rw [e, ixn (by omega)]
  obtain ⟨b0, b1⟩ := bdM_ne hb
  obtain ⟨j, hj, ha, -⟩ := hz.2.2.1.bnd hc b0 b1
  have e12 : σ 12 c = nI j := by rw [hz.1.r12 c hc, if_neg b0, ha]
  have eu : upd N (231 + j) 3 0 + upd N (231 + j) 3 2 = σ 16 0 + σ 18 0 := by
    rw [pk_un (by omega), pk_un (by omega), hz.2.2.1.tm, hz.2.2.2, hz.1.r1.c18]
  have eC : aC N c = j := by rw [aC, ha, ixn (by omega)]
  have k2 := hz.2.2.1.de (Nat.le_refl _) hc hj b0 ha
  have hi : ∀ k, 16 ≤ k → put (idles (helds σ (nI j) 3 (-1) (σ 16 0 + σ 18 0)) (nI c)) 13 (upd (idles (helds σ (nI j) 3 (-1) (σ 16 0 + σ 18 0)) (nI c) 13) c (-1)) k = σ k := fun k hk => by
    rw [put_n (by omega), idles_hi hk, helds_hi hk]
  have k1 := ((hz.1.decl (u := σ 16 0 + σ 18 0) hj).idle hc).forg hc
  have eN : dcN N c = upd (upd (upd (upd N (231 + j) 3) (431 + j) (σ 16 0 + σ 18 0)) (631 + c) 0) (711 + c) 0 := by rw [dcN, eC, mDe, eu]
  have eN2 : upd (upd (mDe N j) (631 + c) 0) (711 + c) 0 = dcN N c := by rw [dcN, eC]
  rw [eN2] at k2
  have eD : dLs σ (nI c) = logW (put (idles (helds σ (nI j) 3 (-1) (σ 16 0 + σ 18 0)) (nI c)) 13 (upd (idles (helds σ (nI j) 3 (-1) (σ 16 0 + σ 18 0)) (nI c) 13) c (-1))) 7 (nI j) := by
    rw [dLs, inC_n hc, cond_true, ixn (by omega), e12]
  rw [← eN] at k1
  rw [if_pos hl0, if_pos hl0, if_pos hl0, if_pos hl0, hl, ec, e12, ha, e, eD]
  exact ⟨AGR.ret, h.go (SV.tr SV.lg (SV.hi hi)) (RZ.lgs ⟨k1, hz.2.1.hi hi, k2, (congrFun (hi 16 (Nat.le_refl 16)) 0).trans hz.2.2.2⟩)⟩
theorem op_renew {x : Int32} (h : RTc σ N M z f n) : AGR [xIOB, xNSE, xISE] (oBd σ x (bif dUp σ x then oI (bi (rBl σ x)) else oX xISE)) (rwT N x) (bi (rwB N x && !rnB N (ix x))) ∧ RTc (tBd σ x (bif dUp σ x then rSt σ x else σ)) (if rwB N x = true then rnN N (ix x) (N 0) else N) M z (if rwB N x = true then lgM f n (rnK N (ix x)) (N (651 + ix x)) else f) (if rwB N x = true then lgN n else n) := by
  refine bd_st h ⟨_, rfl⟩ (fun c v T hc e hb hl hz => ?_) (fun k e1 e2 => ?_)
  · have hl0 : lkL N x ≤ 0 := by rw [hl]; decide
    have ec : ix x = c := by rw [e, ixn (by omega)]
    obtain ⟨b0, b1⟩ := bdM_ne hb
    obtain ⟨j, hj, ha, hh, hi, -⟩ := hz.2.2.1.bnd hc b0 b1
    obtain ⟨g, hg, eg, eu, -⟩ := path_eq hz.1 hz.2.2.1 hc b0 ha hj hi
    have eG : N (25 + ix (gr N (N (651 + ix x)))) = N (25 + g) := by rw [ec, ha, eg, ixn (by omega)]
    by_cases hr : N (25 + g) = 0
    · have eB : rwB N x = false := by rw [rwB, eG, decide_eq_true hr, Bool.not_true, Bool.and_false]
      have eT : rwT N x = 3 := by rw [rwT, if_pos hl0, eG, if_pos hr]
      have eu2 : dUp σ x = false := by rw [e, eu, decide_eq_true hr]; rfl
      rw [eB, eT, eu2, cond_false, cond_false, if_neg (by decide), if_neg (by decide), if_neg (by decide)]
      exact ⟨AGR.exc (by decide) (by decide +kernel), h⟩
    · have eB : rwB N x = true := by rw [rwB, eG, decide_eq_false hr, Bool.not_false, Bool.and_true, decide_eq_true hl0]
      have eT : rwT N x = 0 := by rw [rwT, if_pos hl0, eG, if_neg hr]
      have eu2 : dUp σ x = true := by rw [e, eu, decide_eq_false hr]; rfl
      obtain ⟨k1, k2, k3⟩ := hz.re (Nat.le_refl _) hc b0 b1 ha hj
      rw [eB, eT, eu2, cond_true, cond_true, if_pos rfl, if_pos rfl, if_pos rfl, Bool.true_and, ec, e, k2, ha, hz.2.2.1.tm]
      exact ⟨AGR.ret, h.go k3 k1⟩
  · have eB : rwB N x = false := by rw [rwB, decide_eq_false e2, Bool.false_and]
    rw [eB, if_neg (by decide), if_neg (by decide), if_neg (by decide), rwT, if_neg e2]
    exact ⟨e1, rfl, rfl, rfl⟩
theorem inR_no {x : Int32} {a b : Int32} (h : ¬ (¬ x < a ∧ x ≤ b)) : inR x a b = false := bool_no (fun q => h (inR_hi.mp q))
theorem op_advance {x : Int32} (h : RTc σ N M z f n) : (inR x 1 2000 = true → N 0 + x ≤ 100000 → ∃ Y : Nat, Y ≤ 100000 ∧ N 0 + x = nI Y) ∧ AGR [xIAE, xISE] (oAdv σ x) (bif inR x 1 2000 then (if (N 0 + x) ≤ 100000 then 0 else 2) else 1) (bif inR x 1 2000 then (if (N 0 + x) ≤ 100000 then nI (avS N f n (N 0 + x)).2.2.2 else 0) else 0) ∧ RTc (tAdv σ x) (bif inR x 1 2000 then (if (N 0 + x) ≤ 100000 then upd (avS N f n (N 0 + x)).1 0 (N 0 + x) else N) else N) M z (bif inR x 1 2000 then (if (N 0 + x) ≤ 100000 then (avS N f n (N 0 + x)).2.1 else f) else f) (bif inR x 1 2000 then (if (N 0 + x) ≤ 100000 then (avS N f n (N 0 + x)).2.2.1 else n) else n) := by
  obtain ⟨⟨v, T, hz⟩, hsd⟩ := id h
  have e0 : N 0 = nI T := hz.2.2.1.tm
  have hTl := hz.2.2.1.tl
  unfold oAdv tAdv
  by_cases h1 : x < 1
  · rw [if_pos h1, if_pos h1, inR_no (fun q => q.1 h1), cond_false, cond_false, cond_false, cond_false, cond_false]
    exact ⟨fun q => absurd q (by decide), AGR.exc (by decide) (by decide +kernel), h⟩
  rw [if_neg h1, if_neg h1]
  by_cases h2 : x ≤ 2000
  case neg =>
    rw [if_neg h2, if_neg h2, inR_no (fun q => h2 q.2), cond_false, cond_false, cond_false, cond_false, cond_false]
    exact ⟨fun q => absurd q (by decide), AGR.exc (by decide) (by decide +kernel), h⟩
  rw [if_pos h2, if_pos h2, inR_hi.mpr ⟨h1, h2⟩, cond_true, cond_true, cond_true, cond_true, cond_true, hz.2.2.2]
  obtain ⟨d, hd, rfl⟩ := nI_of (x := x) (fun q => h1 (Int32.lt_trans q (by decide)))
  have hd2 : d ≤ 2000 := (nI_leI (b := 2000) hd (by decide)).mp h2
  have eY : nI T + nI d = nI (T + d) := nI_add T d
  rw [e0, eY]
  by_cases h3 : nI (T + d) ≤ 100000
  case neg =>
    rw [if_neg h3, if_neg h3, if_neg h3, if_neg h3, if_neg h3, if_neg h3, if_neg h3]
    exact ⟨fun _ q => absurd q h3, AGR.exc (by decide) (by decide +kernel), h⟩
  have hY : T + d ≤ 100000 := (nI_leI (b := 100000) (by omega) (by decide)).mp h3
  rw [if_pos h3, if_pos h3, if_pos h3, if_pos h3, if_pos h3, if_pos h3, if_pos h3]
  refine ⟨fun _ _ => ⟨T + d, hY, rfl⟩, ?_⟩
  obtain ⟨σ', N', f', n', m, T', a1, a2, a3, a4, a5, a6, a7, a8, a9⟩ := av_sim hY d σ N f n 0 T hz.1 hz.2.1 hz.2.2.1 (by omega) (by omega)
  have eA : avS N f n (nI (T + d)) = (N', f', n', m) := by
    rw [avS, e0, nI_toInt (by omega), nI_toInt (by omega), show (((T + d : Nat) : Int) - (T : Int)).toNat = d by omega, a2, Nat.zero_add]
  have eP : PT σ (nI (T + d)) = (nI m, σ') := by
    rw [PT, a9 1000000 0 (by omega), Nat.zero_add]
  rw [pTo, eA, eP]
  refine ⟨AGR.ret, h.go (SV.tr (SV.pu (by decide)) a8) (T := T + d) (v := v) ⟨(a3.pu (Or.inl rfl)).t0, a4.ext rfl rfl rfl, a5.time a6 hY a7, rfl⟩⟩
theorem fstE_nx : fstE σ = nxE σ (eqE σ) := by
  unfold fstE nxE
  by_cases h : eqE σ < eeC σ
  · rw [if_pos h, if_neg (fun q => Int32.lt_irrefl (Int32.lt_trans h q))]
  · by_cases h2 : eeC σ < eqE σ
    · rw [if_neg h, if_pos h2]
    · rw [if_neg h, if_neg h2]
      exact Int32.le_antisymm (Int32.not_lt.mp h) (Int32.not_lt.mp h2)
theorem op_advanceToEvent (h : RTc σ N M z f n) : AGR [xNSE, xISE] (oAtE σ) (if 0 ≤ eaM N then (if eaM N ≤ 100000 then 0 else 2) else 1) (if 0 ≤ eaM N then (if eaM N ≤ 100000 then eaM N else 0) else 0) ∧ RTc (tAtE σ) (if 0 ≤ eaM N then (if eaM N ≤ 100000 then (hapS N f n (eaM N)).1 else N) else N) M z (if 0 ≤ eaM N then (if eaM N ≤ 100000 then (hapS N f n (eaM N)).2.1 else f) else f) (if 0 ≤ eaM N then (if eaM N ≤ 100000 then (hapS N f n (eaM N)).2.2.1 else n) else n) := by
  obtain ⟨⟨v, T, hz⟩, hsd⟩ := id h
  have hTl := hz.2.2.1.tl
  obtain ⟨m, c1, c2, c3, c4⟩ := next_min hz.1 hz.2.2.1
  unfold oAtE tAtE
  rw [fstE_nx, c1]
  rcases ea_min hz.2.2.1 with ⟨e1, e2⟩ | ⟨d, d1, e1, d2, d3, ⟨j, hj, hl, hd⟩, d4⟩
  · have em : m = 2147483647 := by
      rcases c4 with q | ⟨j, d, k, g1, g2, -⟩
      · exact q
      · exact absurd (e2 j g1) g2
    have ei : nI m = 2147483647 := by rw [em]; rfl
    rw [e1, if_pos ei, if_pos ei, if_neg (by decide), if_neg (by decide), if_neg (by decide), if_neg (by decide), if_neg (by decide)]
    exact ⟨AGR.exc (by decide) (by decide +kernel), h⟩
  · obtain ⟨d', k, k1, k2, k3, k4, k5, -⟩ := hz.2.2.1.live hj hl
    obtain rfl : d = d' := nI_inj d1 (by omega) (hd.symm.trans k1)
    have hle := c3 j hj hl d k d1 (by omega) k1 k2
    unfold KY at hle
    rcases c4 with q | ⟨j', d', k', g1, g2, g3, g4, g5, g6, g7, g8⟩
    · omega
    have hd' := d4 j' g1 g2 d' (by omega) g3
    have e8 := g8
    unfold KY at e8
    obtain rfl : d = d' := by omega
    have nm : ¬ nI m = 2147483647 := nI_ne (b := 2147483647) (by omega) (by decide) (by omega)
    have eT : nI m / 100 / 5 = nI d := by rw [g8]; exact KY_T g1 (by omega) g5
    rw [if_neg nm, if_neg nm, eT, e1, if_pos (nI_0le d1), if_pos (nI_0le d1), if_pos (nI_0le d1), if_pos (nI_0le d1), if_pos (nI_0le d1)]
    by_cases h3 : nI d ≤ 100000
    case neg =>
      rw [if_neg h3, if_neg h3, if_neg h3, if_neg h3, if_neg h3, if_neg h3, if_neg h3]
      exact ⟨AGR.exc (by decide) (by decide +kernel), h⟩
    have hY : d ≤ 100000 := (nI_leI (b := 100000) d1 (by decide)).mp h3
    rw [if_pos h3, if_pos h3, if_pos h3, if_pos h3, if_pos h3, if_pos h3, if_pos h3]
    refine ⟨AGR.ret, ?_⟩
    obtain ⟨σ', N', f', n', m', b1, b2, b3, b4, b5, b6, b7⟩ := hap_sim hz.1 hz.2.1 hz.2.2.1 hY (by omega) d4
    have eP : PT σ (nI d) = (nI m', σ') := by
      have := b7 (nI d) (1000000 - m') 0 (Int32.le_refl _)
      rw [show 1000000 - m' + m' = 1000000 by omega] at this
      rw [PT, this, Nat.zero_add]
      obtain ⟨m2, p1, -, -, p4⟩ := next_min b3 b5
      refine passL_no p1 ?_
      rcases p4 with q | ⟨j2, d2', k2', r1, r2, r3, r4, r5, r6, r7, r8⟩
      · exact Or.inl q
      · refine Or.inr ?_
        rw [r8, KY_T r1 (by omega) r5]
        exact nI_ge (by omega) (by omega)
    rw [pTo, eP, b2]
    exact h.go (SV.tr (SV.pu (by decide)) b6) (T := d) (v := v) ⟨b3.pu (Or.inl rfl), b4.ext rfl rfl rfl, b5, rfl⟩
/-- answers that are no int -/
def AGV (L : List String) (o : OT) (T : Int32) (V : Value) : Prop := (o = .inl (some V) ∧ T = 0) ∨ ∃ c, o = oX c ∧ c ∈ L ∧ T = hcd L o
theorem op_ca (h : RTc σ N M z f n) {g : Int32} : ∃ k : Nat, k < 101 ∧ caL σ g 0 5 0 = nI k := by
  obtain ⟨⟨v, T, hz⟩, hsd⟩ := h
  have k1 := caL_cnt (g := g) hz.1.r1 hz.2.2.1.po 5 0 rfl (Nat.zero_le _)
  rw [cnt_m0] at k1
  exact ⟨_, by have := cnt_le (P := fun j => mem N g v j && true) 100 0; omega, k1⟩
theorem op_utilization {x : Int32} (h : RTc σ N M z f n) : AGV [xIOB, xARE] (oUt σ x) (bif inR x 0 2 then (if cuM N x (-1) = 0 then 2 else 0) else 1) (.double (utM N x)) := by
  obtain ⟨⟨v, T, hz⟩, hsd⟩ := h
  unfold oUt utM
  rw [inG_R]
  cases hg : inR x 0 2
  · rw [cond_false, cond_false]
    exact Or.inr ⟨_, rfl, by decide, by decide +kernel⟩
  · obtain ⟨g, hg', rfl⟩ := inR_2 hg
    rw [cond_true, cond_true, ca_eq hz.1.r1 hz.2.2.1.po (nI_m1 (by omega)), gc_eq hz.1.r1 hz.2.2.1.po (nI_m1 (by omega)) (by decide), cond_true]
    by_cases q : cuM N (nI g) (-1) = 0
    · rw [if_pos q, if_pos q]
      exact Or.inr ⟨_, rfl, by decide, by decide +kernel⟩
    · rw [if_neg q, if_neg q, if_neg q]
      exact Or.inl ⟨rfl, rfl⟩
theorem op_averageRest (h : RTc σ N M z f n) : AGV [xARE] (oAv σ) (if boM N = 0 then 1 else 0) (.float (avM N)) := by
  obtain ⟨⟨v, T, hz⟩, hsd⟩ := h
  unfold oAv avM
  rw [bd_eq hz.1.r1, srL_eq hz.1 hz.2.2.1 hz.2.2.2 20 0 0 rfl]
  by_cases q : boM N = 0
  · rw [if_pos q, if_pos q]
    exact Or.inr ⟨_, rfl, by decide, by decide +kernel⟩
  · rw [if_neg q, if_neg q, if_neg q]
    exact Or.inl ⟨rfl, rfl⟩
end OP3
