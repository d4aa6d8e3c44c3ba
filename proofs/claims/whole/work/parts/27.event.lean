section EV9
variable {σ : Sto} {N N' f : Nat → Int32} {n : Int32} {v c j k T lb : Nat} {t : Int32}
theorem key_t (hj : j < 100) (hT : T ≤ 100000) (hk : k < 5) : nI ((T * 5 + k) * 100 + j) / 100 = nI (T * 5 + k) := by
  rw [show nI ((T * 5 + k) * 100 + j) / 100 = nI (((T * 5 + k) * 100 + j) / 100) from pk_div (d := 100) (by omega) (by decide) (by decide), show ((T * 5 + k) * 100 + j) / 100 = T * 5 + k by omega]
theorem key_T (hj : j < 100) (hT : T ≤ 100000) (hk : k < 5) : nI ((T * 5 + k) * 100 + j) / 100 / 5 = nI T := by
  rw [key_t hj hT hk, show nI (T * 5 + k) / 5 = nI ((T * 5 + k) / 5) from pk_div (d := 5) (by omega) (by decide) (by decide), show (T * 5 + k) / 5 = T by omega]
theorem key_k (hj : j < 100) (hT : T ≤ 100000) (hk : k < 5) : kdE (nI ((T * 5 + k) * 100 + j)) = nI k := by
  unfold kdE
  rw [key_t hj hT hk, show nI (T * 5 + k) - nI (T * 5 + k) / 5 * 5 = nI ((T * 5 + k) % 5) from pk_rem (d := 5) (by omega) (by decide) (by decide), show (T * 5 + k) % 5 = k by omega]
theorem key_j (hj : j < 100) (hT : T ≤ 100000) (hk : k < 5) : nI ((T * 5 + k) * 100 + j) - nI ((T * 5 + k) * 100 + j) / 100 * 100 = nI j := by
  rw [show nI ((T * 5 + k) * 100 + j) - nI ((T * 5 + k) * 100 + j) / 100 * 100 = nI (((T * 5 + k) * 100 + j) % 100) from pk_rem (d := 100) (by omega) (by decide) (by decide), show ((T * 5 + k) * 100 + j) % 100 = j by omega]
theorem cOE_1 (hj : j < 100) (hT : T ≤ 100000) : cOE σ (nI ((T * 5 + 1) * 100 + j)) = frees (put σ 16 (sc (nI T))) (nI j) (nI T) := by
  unfold cOE
  rw [key_k hj hT (by omega), key_T hj hT (by omega), key_j hj hT (by omega), if_pos (show nI 1 = 1 from rfl)]
theorem cOE_k (hj : j < 100) (hT : T ≤ 100000) (hk : k < 5) (h1 : k ≠ 1) : cOE σ (nI ((T * 5 + k) * 100 + j)) = cFH (put σ 16 (sc (nI T))) (nI k) (σ 8 j) (nI j) := by
  unfold cOE hoE
  rw [key_k hj hT hk, key_T hj hT hk, key_j hj hT hk, if_neg (show ¬ nI k = 1 from nI_ne (b := 1) (by omega) (by decide) h1), inA_n hj, cond_true, ixn (by omega)]
/-- what an event leaves of the others, and of its own address -/
def EVN (N N' : Nat → Int32) (T j k : Nat) : Prop := (∀ i, i < 100 → i ≠ j → N' (231 + i) = N (231 + i) ∧ (¬ N (231 + i) = 0 → due N' i = due N i ∧ knd N' i = knd N i)) ∧ (¬ N' (231 + j) = 0 → ∀ e, e < 2 ^ 31 → due N' j = nI e → T < e) ∧ N' 0 = nI T ∧ (k ≠ 1 → ∀ i, i < 100 → (N' (231 + i) = 3 ↔ N (231 + i) = 3) ∧ (N (231 + i) = 3 → N' (431 + i) = N (431 + i)))
theorem EVN.mk (h : IV N v T lb) (hj : j < 100) (hcb : c < 20 ∨ c = 100) (hD : DF N' N j c) (hcc : ∀ i, i < 100 → i ≠ j → ∀ c', c' < 20 → N (331 + i) = nI c' → N (651 + c') = nI i → c' ≠ c) (hd : ¬ N' (231 + j) = 0 → ∀ e, e < 2 ^ 31 → due N' j = nI e → T < e) (h0 : N' 0 = nI T) (hk : k ≠ 1 → ¬ N (231 + j) = 3 ∧ ¬ N' (231 + j) = 3) : EVN N N' T j k := by
  have e1 : ∀ i, i < 100 → i ≠ j → N' (231 + i) = N (231 + i) := fun i hi hij => hD _ (by omega) (by omega) (by omega) (by omega) (by omega) (by omega)
  refine ⟨fun i hi hij => ⟨e1 i hi hij, fun hl => (due_keep h hD hi hj hcb hij hl (hcc i hi hij)).2⟩, hd, h0, fun hk1 i hi => ?_⟩
  by_cases e : i = j
  · subst e
    exact ⟨⟨fun q => absurd q (hk hk1).2, fun q => absurd q (hk hk1).1⟩, fun q => absurd q (hk hk1).1⟩
  · rw [e1 i hi e]
    exact ⟨Iff.rfl, fun _ => hD _ (by omega) (by omega) (by omega) (by omega) (by omega) (by omega)⟩
/-- a renewal, granted or refused -/
theorem evn_rn (h : IV N v T lb) (hj : j < 100) (hc : c < 20) (h0 : ¬ N (631 + c) = 0) (h1 : ¬ N (631 + c) = 1) (ha : N (651 + c) = nI j) (hh : N (331 + j) = nI c) (hp : iP N j) (ee : N (231 + j) = 2) (hcc : ∀ i, i < 100 → i ≠ j → ∀ c', c' < 20 → N (331 + i) = nI c' → N (651 + c') = nI i → c' ≠ c) (hk1 : k ≠ 1) : EVN N (rnN N c (nI T)) T j k := by
  have ec : aC N c = j := by rw [aC, ha, ixn (by omega)]
  have hT := h.tl
  rcases (h.fl j hj).1 with hx | hx
  · have eb : rnB N c = false := by rw [rnB, ec, hx]; rfl
    obtain ⟨p, hpv, ho, -, hd, hd8, hd9, -, -⟩ := h.pool hj hp
    have hv := h.po.1
    rw [rnN, eb, cond_false, mLs_eq hj ha (by omega) ho hd hd9 (by omega)]
    unfold lsN
    refine EVN.mk h hj (Or.inl hc) (fun x a1 a2 a3 a4 a5 a6 => by rw [pk_un a2, pk_un a6, pk_un a5, pk_un a4]) hcc (fun _ e he hd2 => ?_) (by rw [pk_un (by omega), pk_un (by omega), pk_un (by omega), pk_un (by omega)]; exact h.tm) (fun _ => ⟨by rw [ee]; decide, by rw [pk_un (by omega), pk_un (by omega), pk_un (by omega), pk_un (by omega), ee]; decide⟩)
    have q1 := (due_2 (N := upd (upd (upd (upd N (631 + c) 2) (671 + c) (nI (T + pl N p / 2))) (691 + c) (nI (T + 7 * pl N p / 8))) (431 + j) (nI (T + pl N p))) ((iP_same (SP.tr (SP.up (by omega)) (SP.tr (SP.up (by omega)) (SP.tr (SP.up (by omega)) (SP.up (by omega))))) j).mpr hp) (by rw [pk_un (by omega), pk_un (by omega), pk_un (by omega), pk_un (by omega)]; exact ee) hc (by rw [pk_un (by omega), pk_un (by omega), pk_un (by omega), pk_un (by omega)]; exact hh)).1
    rw [pk_un (show 631 + c ≠ 431 + j by omega), pk_un (show 631 + c ≠ 691 + c by omega), pk_un (show 631 + c ≠ 671 + c by omega), pk_us, if_pos rfl, pk_un (show 671 + c ≠ 431 + j by omega), pk_un (show 671 + c ≠ 691 + c by omega), pk_us] at q1
    have := nI_inj (by omega) he (q1.symm.trans hd2)
    omega
  · have eb : rnB N c = true := by rw [rnB, ec, hx]; rfl
    rw [rnN, eb, cond_true, ec]
    unfold mFr
    refine EVN.mk h hj (Or.inl hc) (fun x a1 a2 a3 a4 a5 a6 => by rw [pk_un a4, pk_un a3, pk_un a1]) hcc (fun q => ?_) (by rw [pk_un (by omega), pk_un (by omega), pk_un (by omega)]; exact h.tm) (fun _ => ⟨by rw [ee]; decide, by rw [pk_un (by omega), pk_un (show 231 + j ≠ 531 + j by omega), pk_us]; decide⟩)
    exact absurd (by rw [pk_un (by omega), pk_un (show 231 + j ≠ 531 + j by omega), pk_us]) q
theorem evn_fr (h : IV N v T lb) (hj : j < 100) (hc : c < 20) (ee : ¬ N (231 + j) = 3) (hcc : ∀ i, i < 100 → i ≠ j → ∀ c', c' < 20 → N (331 + i) = nI c' → N (651 + c') = nI i → c' ≠ c) (hk1 : k ≠ 1) : EVN N (upd (mFr N j t) (631 + c) 0) T j k := by
  unfold mFr
  refine EVN.mk h hj (Or.inl hc) (fun x a1 a2 a3 a4 a5 a6 => by rw [pk_un a4, pk_un a3, pk_un a1]) hcc (fun q => ?_) (by rw [pk_un (by omega), pk_un (by omega), pk_un (by omega)]; exact h.tm) (fun _ => ⟨ee, by rw [pk_un (by omega), pk_un (show 231 + j ≠ 531 + j by omega), pk_us]; decide⟩)
  exact absurd (by rw [pk_un (by omega), pk_un (show 231 + j ≠ 531 + j by omega), pk_us]) q
theorem RZ.ev (h1 : RR σ N v) (h2 : LR σ f n) (h3 : IV N v T T) (hj : j < 100) (hl : ¬ N (231 + j) = 0) (hd : due N j = nI T) : ∃ k, knd N j = nI k ∧ k < 5 ∧ RZ (cOE σ (nI ((T * 5 + k) * 100 + j))) (hpN N j (nI T)) (hpK N j f n) (hpM N j n) v T T ∧ SV (cOE σ (nI ((T * 5 + k) * 100 + j))) σ ∧ EVN N (hpN N j (nI T)) T j k := by
  have hT := h3.tl
  have hz : RZ (put σ 16 (sc (nI T))) N f n v T T := ⟨h1.pu (Or.inl rfl), h2.ext rfl rfl rfl, h3, rfl⟩
  obtain ⟨d, k, hd1, e2, hd2, hd3, hk, hp, hL⟩ := h3.live hj hl
  obtain rfl : T = d := nI_inj (by omega) (by omega) (hd.symm.trans hd1)
  rcases hL with ⟨rfl, ee, eu⟩ | ⟨c, hc, hh, ha, hL⟩
  · refine ⟨1, e2, by omega, ?_, ?_, ?_⟩
    · rw [cOE_1 hj hT, hpN_1 (nI T) e2, hpK_1 f n e2, hpM_1 n e2]
      exact ⟨hz.1.free hj, hz.2.1.hi (fun k hk => frees_hi hk), h3.fr3 hj ee, congrFun (frees_hi (Nat.le_refl 16)) 0⟩
    · rw [cOE_1 hj hT]
      exact SV.tr (SV.hi (fun k hk => frees_hi hk)) (SV.pu (by decide))
    · rw [hpN_1 (nI T) e2]
      unfold mFr
      refine EVN.mk (c := 100) h3 hj (Or.inr rfl) (fun x a1 a2 a3 a4 a5 a6 => by rw [pk_un a3, pk_un a1]) (fun i hi hij c' hc' _ _ => by omega) (fun q => ?_) (by rw [pk_un (by omega), pk_un (by omega)]; exact h3.tm) (fun q => absurd rfl q)
      exact absurd (by rw [pk_un (show 231 + j ≠ 531 + j by omega), pk_us]) q
  · have eh : hoC N j = c := by rw [hoC, hh, ixn (by omega)]
    have hcc : ∀ i, i < 100 → i ≠ j → ∀ c', c' < 20 → N (331 + i) = nI c' → N (651 + c') = nI i → c' ≠ c := fun i hi hij c' hc' _ q2 q3 => hij (nI_inj (by omega) (by omega) (q2.symm.trans (q3 ▸ ha)))
    have e8 : N (231 + j) = 1 ∨ N (231 + j) = 2 → σ 8 j = nI c := fun q => by rw [h1.r8 j hj, if_pos q, hh]
    rcases hL with ⟨rfl, e1, ee, e4⟩ | ⟨ee, r, b, u, e5, e6, e7, l1, l2, l3, ⟨rfl, e1, e9⟩ | ⟨rfl, e1, e9⟩ | ⟨rfl, e1, e9⟩⟩
    · have h0 : ¬ N (631 + c) = 0 := by rw [e1]; decide
      have es : cOE σ (nI ((T * 5 + 0) * 100 + j)) = logW (eHd (put σ 16 (sc (nI T))) (nI c)) 9 (nI j) := by
        rw [cOE_k hj hT (by omega) (by omega), e8 (Or.inl ee)]
        unfold cFH
        rw [if_pos (show nI 0 = 0 from rfl)]
      refine ⟨0, e2, by omega, ?_, ?_, ?_⟩
      · rw [es, hpN_0 (nI T) e2, hpK_0 f n e2, hpM_0 n e2, eh]
        exact (hz.en hc h0 ha hj).lgs
      · rw [es]
        exact SV.tr SV.lg (SV.tr (SV.hi (fun k hk => eHd_hi hk)) (SV.pu (by decide)))
      · rw [hpN_0 (nI T) e2, eh]
        exact evn_fr h3 hj hc (by rw [ee]; decide) hcc (by omega)
    all_goals have e8 := e8 (Or.inr ee)
    all_goals have h0 : ¬ N (631 + c) = 0 := by rw [e1]; decide
    · obtain ⟨g, hg, eg, eu, er⟩ := path_eq hz.1 h3 hc h0 ha hj hp
      have hlog : N (651 + hoC N j) = nI j := by rw [eh]; exact ha
      rcases h3.gf (0 + g) (by omega) with hx | hx
      · rw [show 25 + (0 + g) = 25 + g by omega] at hx
        have hcn : ¬ N (25 + ix (gr N (nI j))) = 1 := by rw [eg, ixn (by omega), hx]; decide
        have es : cOE σ (nI ((T * 5 + 2) * 100 + j)) = put (put σ 16 (sc (nI T))) 11 (upd (put σ 16 (sc (nI T)) 11) c 3) := by
          rw [cOE_k hj hT (by omega) (by omega), e8]
          unfold cFH
          rw [if_neg (show ¬ nI 2 = 0 by decide), if_pos (show nI 2 = 2 from rfl), eu]
          unfold rOT
          rw [decide_eq_true hx, Bool.not_true, cond_false, inC_n hc, cond_true, ixn (by omega)]
        refine ⟨2, e2, by omega, ?_, ?_, ?_⟩
        · rw [es, hpN_2F (nI T) e2 hcn, hpK_2F f n e2 hcn, hpM_2F n e2 hcn, eh]
          exact ⟨hz.1.turn hc h0 (by decide), hz.2.1.ext rfl rfl rfl, h3.tu hc (Or.inl ⟨e1, rfl⟩), rfl⟩
        · rw [es]
          exact SV.tr (SV.pu (by decide)) (SV.pu (by decide))
        · rw [hpN_2F (nI T) e2 hcn, eh]
          refine EVN.mk h3 hj (Or.inl hc) (fun x a1 a2 a3 a4 a5 a6 => pk_un a4) hcc (fun _ e he hd2 => ?_) (by rw [pk_un (by omega)]; exact h3.tm) (fun _ => ⟨by rw [ee]; decide, by rw [pk_un (by omega), ee]; decide⟩)
          have q1 := (due_2 (N := upd N (631 + c) 3) ((iP_upd (by omega)).mpr hp) (by rw [pk_un (by omega)]; exact ee) hc (by rw [pk_un (by omega)]; exact hh)).1
          rw [pk_us, if_neg (by decide), if_pos rfl, pk_un (by omega), e6] at q1
          have := nI_inj (by omega) he (q1.symm.trans hd2)
          omega
      · rw [show 25 + (0 + g) = 25 + g by omega] at hx
        have hcn : N (25 + ix (gr N (nI j))) = 1 := by rw [eg, ixn (by omega), hx]
        have es : cOE σ (nI ((T * 5 + 2) * 100 + j)) = rSt (put σ 16 (sc (nI T))) (nI c) := by
          rw [cOE_k hj hT (by omega) (by omega), e8]
          unfold cFH
          rw [if_neg (show ¬ nI 2 = 0 by decide), if_pos (show nI 2 = 2 from rfl), eu]
          unfold rOT
          rw [hx]
          rfl
        obtain ⟨k1, -, k3⟩ := hz.re (by omega) hc h0 (by rw [e1]; decide) ha hj
        refine ⟨2, e2, by omega, ?_, ?_, ?_⟩
        · rw [es, hpN_2T (nI T) e2 hcn, hpK_2T f n e2 hcn, hpM_2T n e2 hcn, hlog, eh]
          exact k1
        · rw [es]
          exact SV.tr k3 (SV.pu (by decide))
        · rw [hpN_2T (nI T) e2 hcn, eh]
          exact evn_rn h3 hj hc h0 (by rw [e1]; decide) ha hh hp ee hcc (by omega)
    · obtain ⟨g, hg, eg, eu, er⟩ := path_eq hz.1 h3 hc h0 ha hj hp
      have hlog : N (651 + hoC N j) = nI j := by rw [eh]; exact ha
      rcases h3.gf (3 + g) (by omega) with hx | hx
      · rw [show 25 + (3 + g) = 28 + g by omega] at hx
        have hcn : ¬ N (28 + ix (gr N (nI j))) = 1 := by rw [eg, ixn (by omega), hx]; decide
        have es : cOE σ (nI ((T * 5 + 3) * 100 + j)) = put (put σ 16 (sc (nI T))) 11 (upd (put σ 16 (sc (nI T)) 11) c 4) := by
          rw [cOE_k hj hT (by omega) (by omega), e8]
          unfold cFH
          rw [if_neg (show ¬ nI 3 = 0 by decide), if_neg (show ¬ nI 3 = 2 by decide), if_pos (show nI 3 = 3 from rfl), er]
          unfold rOT
          rw [decide_eq_true hx, Bool.not_true, cond_false, inC_n hc, cond_true, ixn (by omega)]
        refine ⟨3, e2, by omega, ?_, ?_, ?_⟩
        · rw [es, hpN_3F (nI T) e2 hcn, hpK_3F f n e2 hcn, hpM_3F n e2 hcn, eh]
          exact ⟨hz.1.turn hc h0 (by decide), hz.2.1.ext rfl rfl rfl, h3.tu hc (Or.inr ⟨e1, rfl⟩), rfl⟩
        · rw [es]
          exact SV.tr (SV.pu (by decide)) (SV.pu (by decide))
        · rw [hpN_3F (nI T) e2 hcn, eh]
          refine EVN.mk h3 hj (Or.inl hc) (fun x a1 a2 a3 a4 a5 a6 => pk_un a4) hcc (fun _ e he hd2 => ?_) (by rw [pk_un (by omega)]; exact h3.tm) (fun _ => ⟨by rw [ee]; decide, by rw [pk_un (by omega), ee]; decide⟩)
          have q1 := (due_2 (N := upd N (631 + c) 4) ((iP_upd (by omega)).mpr hp) (by rw [pk_un (by omega)]; exact ee) hc (by rw [pk_un (by omega)]; exact hh)).1
          rw [pk_us, if_neg (by decide), if_neg (by decide), pk_un (by omega), e7] at q1
          have := nI_inj (by omega) he (q1.symm.trans hd2)
          omega
      · rw [show 25 + (3 + g) = 28 + g by omega] at hx
        have hcn : N (28 + ix (gr N (nI j))) = 1 := by rw [eg, ixn (by omega), hx]
        have es : cOE σ (nI ((T * 5 + 3) * 100 + j)) = rSt (put σ 16 (sc (nI T))) (nI c) := by
          rw [cOE_k hj hT (by omega) (by omega), e8]
          unfold cFH
          rw [if_neg (show ¬ nI 3 = 0 by decide), if_neg (show ¬ nI 3 = 2 by decide), if_pos (show nI 3 = 3 from rfl), er]
          unfold rOT
          rw [hx]
          rfl
        obtain ⟨k1, -, k3⟩ := hz.re (by omega) hc h0 (by rw [e1]; decide) ha hj
        refine ⟨3, e2, by omega, ?_, ?_, ?_⟩
        · rw [es, hpN_3T (nI T) e2 hcn, hpK_3T f n e2 hcn, hpM_3T n e2 hcn, hlog, eh]
          exact k1
        · rw [es]
          exact SV.tr k3 (SV.pu (by decide))
        · rw [hpN_3T (nI T) e2 hcn, eh]
          exact evn_rn h3 hj hc h0 (by rw [e1]; decide) ha hh hp ee hcc (by omega)
    · have e2' : (knd N j).toInt < 0 ∨ 3 < (knd N j).toInt := Or.inr (by rw [e2, nI_toInt (by decide)]; decide)
      have es : cOE σ (nI ((T * 5 + 4) * 100 + j)) = logW (eHd (put σ 16 (sc (nI T))) (nI c)) 5 (nI j) := by
        rw [cOE_k hj hT (by omega) (by omega), e8]
        unfold cFH
        rw [if_neg (show ¬ nI 4 = 0 by decide), if_neg (show ¬ nI 4 = 2 by decide), if_neg (show ¬ nI 4 = 3 by decide), if_pos (show nI 4 = 4 from rfl)]
      refine ⟨4, e2, by omega, ?_, ?_, ?_⟩
      · rw [es, hpN_d (nI T) e2', hpK_d f n e2', hpM_d n e2', eh]
        exact (hz.en hc h0 ha hj).lgs
      · rw [es]
        exact SV.tr SV.lg (SV.tr (SV.hi (fun k hk => eHd_hi hk)) (SV.pu (by decide)))
      · rw [hpN_d (nI T) e2', eh]
        exact evn_fr h3 hj hc (by rw [ee]; decide) hcc (by omega)
end EV9
