section KM8
variable {E : kE} {A : Nat → Prop} {own : String} {cc : ByteArray} {nL : Nat} {p : Program} {l : Launch} {e : Env} {R : Room} {s : State} {m : MethodId} {args : Array Value} {below : List Frame} {meth : Method} {c : Code} {Q : State → Prop} {k n : Nat} {ws : va_W} {pc : Nat} {lv : List (Nat × Value)} {st : List Value}
theorem g_top {x : Int32} (y : Int32) (h : x = y) (kk : G E A nL p l e R s m args below meth c Q k n ws pc lv (.int y :: st)) : G E A nL p l e R s m args below meth c Q k n ws pc lv (.int x :: st) := h ▸ kk
end KM8
theorem WW_eq {E : kE} {b a : Nat → Nat} {μ ν σ : Sto} {wr : va_W} (h0 : μ 0 0 = ν 0 0) (h1 : μ 1 = ν 1) (h2 : μ 2 = ν 2) (h3 : μ 3 0 = ν 3 0) (h4 : μ 4 = ν 4) (h5 : μ 5 0 = ν 5 0) : WW E b μ a σ wr = WW E b ν a σ wr := by
  unfold WW WM
  rw [h0, h1, h2, h3, h4, h5]
theorem inR_add {x : Int32} {u n : Nat} (hu : u + n < 2 ^ 31) (hn : n < 2 ^ 31 - 1) (h : inR x 0 (nI n) = true) : ∃ j : Nat, j < u + n + 1 ∧ nI u + x = nI j := by
  obtain ⟨j, hj, rfl⟩ := inR_ex hn h
  exact ⟨u + j, by omega, nI_add u j⟩
theorem ow_ext {N M : Nat → Int32} {x : Int32} (h4 : M 4 = N 4) (h : ∀ p, p < 5 → M (5 + 4 * p + 1) = N (5 + 4 * p + 1) ∧ M (5 + 4 * p + 2) = N (5 + 4 * p + 2)) : ∀ r i, i + r = 5 → owL M x i r = owL N x i r
  | 0, _, _ => rfl
  | r + 1, i, hi => by
    unfold owL
    rw [h4, (h i (by omega)).1, (h i (by omega)).2, ow_ext h4 h r (i + 1) (by omega)]
theorem ow_upd {N : Nat → Int32} {x y : Int32} {i : Nat} (hi : i < 4 ∨ 25 ≤ i) : ow (upd N i y) x = ow N x :=
  ow_ext (pk_un (by omega)) (fun p hp => ⟨pk_un (by omega), pk_un (by omega)⟩) 5 0 rfl
theorem lkL_ok {N : Nat → Int32} {x : Int32} (h : lkL N x ≤ 0) : ∃ j, j < 20 ∧ x = nI j ∧ bdM N j = true := by
  unfold lkL at h
  cases h1 : inR x 0 19
  · rw [h1] at h; exact absurd (show (1 : Int32) ≤ 0 from h) (by decide)
  · obtain ⟨j, hj, rfl⟩ := inR_19 h1
    refine ⟨j, hj, rfl, ?_⟩
    rw [h1, ixn (by omega)] at h
    cases h2 : bdM N j
    · rw [h2] at h; exact absurd (show (2 : Int32) ≤ 0 from h) (by decide)
    · rfl
theorem lkL_0 {N : Nat → Int32} {j : Nat} (hj : j < 20) (hb : bdM N j = true) : lkL N (nI j) = 0 := by
  unfold lkL
  rw [show inR (nI j) 0 19 = true from by unfold inR; rw [decide_eq_false (nI_pos (by omega)), decide_eq_false (show ¬ (19 : Int32) < nI j from nI_nlt (a := 19) (by omega) (by decide))]; rfl, ixn (by omega), hb]
  rfl
theorem lkA_ok {N : Nat → Int32} {x : Int32} (h : lkA N x ≤ 0) : ∃ j, j < 100 ∧ x = nI j := by
  unfold lkA at h
  cases h1 : inR x 0 99
  · rw [h1] at h; exact absurd (show (1 : Int32) ≤ 0 from h) (by decide)
  · exact inR_99 h1
/-- a client that is not idle has an address in a pool -/
def OKO (N : Nat → Int32) (v : Nat) : Prop := ∀ c, c < 20 → ¬ N (631 + c) = 0 → ∃ p, p < v ∧ ow N (N (651 + c)) = nI p
theorem MX.re {N : Nat → Int32} {v c j : Nat} (h : MX N v) (hc : c < 20) (hj : j ≤ 100) : MX (upd N (711 + c) (nI j)) v := by
  refine ⟨h.hv, ?_, fun p hp => ?_, fun p hp => ?_, fun p hp => ?_, fun c' hc' => ?_, fun p hp => ?_, fun c' hc' => ?_⟩
  · rw [pk_un (by omega)]; exact h.hc
  · have := h.hv; rw [pk_un (by omega)]; exact h.hg p hp
  · have := h.hv; rw [pk_un (by omega)]; exact h.hf p hp
  · have := h.hv; rw [pk_un (by omega)]; exact h.hl p hp
  · rw [pk_un (by omega)]; exact h.ha c' hc'
  · rw [pk_un (by omega)]; exact h.hh p hp
  · by_cases e : c' = c
    · subst e; rw [pk_us]; exact ⟨j, hj, rfl⟩
    · rw [pk_un (by omega)]; exact h.hr c' hc'
theorem gr_of {N : Nat → Int32} {x : Int32} {q : Nat} {z : Int32} (h : ow N x = nI q) (hq : q < 2 ^ 31) (hz : N (5 + 4 * q) = z) : gr N x = z := by rw [gr, h, if_pos (nI_0le hq), ixn hq, hz]
/-- the candidates -/
def beL (N : Nat → Int32) (g : Int32) : Nat → Nat → Int32 → Int32
  | _, 0, z => z
  | i, r + 1, z => bif cdt N i g then (if z < 0 then beL N g (i + 1) r (nI i) else if N (531 + ix z) ≤ N (531 + i) then beL N g (i + 1) r z else beL N g (i + 1) r (nI i)) else beL N g (i + 1) r z
def caM (N : Nat → Int32) (c : Nat) (g x : Int32) : Int32 := bif !decide (N (711 + c) - 1 < 0) && cdt N (ix (N (711 + c) - 1)) g then N (711 + c) - 1 else bif inR x 0 99 && cdt N (ix x) g then x else beL N g 0 100 (-1)
theorem beL_cases {N : Nat → Int32} {g : Int32} : ∀ r i z, i + r = 100 → (z = -1 ∨ ∃ j, j < 100 ∧ z = nI j ∧ cdt N j g = true) → (beL N g i r z = -1 ∨ ∃ j, j < 100 ∧ beL N g i r z = nI j ∧ cdt N j g = true)
  | 0, _, _, _, h => h
  | r + 1, i, z, hi, h => by
    unfold beL
    cases hc : cdt N i g
    · exact beL_cases r (i + 1) z (by omega) h
    · show (if z < 0 then beL N g (i + 1) r (nI i) else if N (531 + ix z) ≤ N (531 + i) then beL N g (i + 1) r z else beL N g (i + 1) r (nI i)) = -1 ∨ ∃ j, j < 100 ∧ (if z < 0 then beL N g (i + 1) r (nI i) else if N (531 + ix z) ≤ N (531 + i) then beL N g (i + 1) r z else beL N g (i + 1) r (nI i)) = nI j ∧ cdt N j g = true
      have k1 := beL_cases r (i + 1) (nI i) (by omega) (Or.inr ⟨i, by omega, rfl, hc⟩)
      have k2 := beL_cases r (i + 1) z (by omega) h
      by_cases h1 : z < 0
      · rw [if_pos h1]; exact k1
      · rw [if_neg h1]
        by_cases h2 : N (531 + ix z) ≤ N (531 + i)
        · rw [if_pos h2]; exact k2
        · rw [if_neg h2]; exact k1
theorem caM_cases {N : Nat → Int32} {v c : Nat} {g x : Int32} (hX : MX N v) (hc : c < 20) : caM N c g x = -1 ∨ ∃ j, j < 100 ∧ caM N c g x = nI j ∧ cdt N j g = true := by
  unfold caM
  cases h1 : !decide (N (711 + c) - 1 < 0) && cdt N (ix (N (711 + c) - 1)) g
  · cases h2 : inR x 0 99 && cdt N (ix x) g
    · exact beL_cases 100 0 (-1) rfl (Or.inl rfl)
    · rw [Bool.and_eq_true] at h2
      obtain ⟨j, hj, rfl⟩ := inR_99 h2.1
      exact Or.inr ⟨j, hj, rfl, by rw [ixn (by omega)] at h2; exact h2.2⟩
  · rw [Bool.and_eq_true] at h1
    obtain ⟨j, hj, e⟩ := hX.hr c hc
    cases j with
    | zero => rw [e] at h1; exact absurd h1.1 (by decide)
    | succ j =>
      refine Or.inr ⟨j, by omega, ?_, ?_⟩
      · show N (711 + c) - 1 = nI j
        rw [e, nI_pr]
      · rw [e, nI_pr, ixn (by omega)] at h1; exact h1.2
-- renewal
def aC (N : Nat → Int32) (c : Nat) : Nat := ix (N (651 + c))
def rnB (N : Nat → Int32) (c : Nat) : Bool := decide (N (31 + aC N c) = 1)
def rnN (N : Nat → Int32) (c : Nat) (t : Int32) : Nat → Int32 := bif rnB N c then upd (mFr N (aC N c) t) (631 + c) 0 else mLs N c t
def rnK (N : Nat → Int32) (c : Nat) : Int32 := bif rnB N c then 4 else 3
def lgM (f : Nat → Int32) (n q x : Int32) : Nat → Int32 := mLog f (ix (lgN n)) q x
def eaL (N : Nat → Int32) : Nat → Nat → Int32 → Int32
  | _, 0, z => z
  | i, r + 1, z => if due N i < 0 then eaL N (i + 1) r z else if z < 0 then eaL N (i + 1) r (due N i) else if z ≤ due N i then eaL N (i + 1) r z else eaL N (i + 1) r (due N i)
def eaM (N : Nat → Int32) : Int32 := eaL N 0 100 (-1)
-- accept, release, decline
def acT (N : Nat → Int32) (x : Int32) : Int32 := bif inR x 0 19 then (if N (631 + ix x) = 1 then (if N (28 + ix (gr N (N (651 + ix x)))) = 0 then 3 else 0) else 2) else 1
def acN (N : Nat → Int32) (c : Nat) : Nat → Int32 := mLs (upd (upd N (231 + aC N c) 2) (711 + c) (nI (aC N c + 1))) c (upd (upd N (231 + aC N c) 2) (711 + c) (nI (aC N c + 1)) 0)
def rlN (N : Nat → Int32) (c : Nat) : Nat → Int32 := upd (mFr N (aC N c) (N 0)) (631 + c) 0
def dcN (N : Nat → Int32) (c : Nat) : Nat → Int32 := upd (upd (mDe N (aC N c)) (631 + c) 0) (711 + c) 0
def rwB (N : Nat → Int32) (x : Int32) : Bool := decide (lkL N x ≤ 0) && !decide (N (25 + ix (gr N (N (651 + ix x)))) = 0)
def rwT (N : Nat → Int32) (x : Int32) : Int32 := if lkL N x ≤ 0 then (if N (25 + ix (gr N (N (651 + ix x)))) = 0 then 3 else 0) else lkL N x
set_option maxHeartbeats 4000000 in
set_option maxRecDepth 100000 in
theorem k_X7_candidate (E : kE) (l : Launch) (wr : va_W) (b : Nat → Nat) (μ : Sto) (a : Nat → Nat) (σ : Sto) (j : Nat) (g : Int32) (x : Int32) (v : Nat) (hX : MX (μ 1) v) (hc : j < 20) : KM E l yX7_candidate cX7_candidate 7 (some .int) 4 88 0 0 [.ref (b 0), .int (nI j), .int g, .int x] (WW E b μ a σ wr) (some (.int (caM (μ 1) j g x))) (WW E b μ a σ wr) := by
  refine K_start (own := RX7) (by decide +kernel) rfl [(0, .ref (b 0)), (1, .int (nI j)), (2, .int g), (3, .int x)] rfl (Nat.le_of_ble_eq_true rfl) (fun p e s m below meth c X hr hin => ?_)
  refine g_aload_n X dX7_candidate_0 1 rfl rfl ?_
  refine g_get X FL_X7_9 dX7_candidate_1 4 rfl 0 rfl (v := .ref (b 1)) rfl ?_
  refine g_sipush X dX7_candidate_4 7 rfl (v := 711) rfl ?_
  refine g_iload_n X dX7_candidate_7 8 rfl rfl ?_
  refine g_iaddN X dX7_candidate_8 9 rfl 711 j rfl rfl ?_
  refine g_ialdN (j := (711 + j)) (f := (μ 1)) X dX7_candidate_9 10 rfl 1 rfl (by omega) (by decide) ?_
  refine g_iconst X dX7_candidate_10 11 rfl (v := 1) rfl ?_
  refine g_isub X dX7_candidate_11 12 rfl ?_
  obtain ⟨_ | y, hy, h2⟩ := hX.hr j hc
  · skip
    rw [h2]
    rw [show nI 0 - 1 = (-1 : Int32) from rfl]
    refine g_istore X dX7_candidate_12 14 rfl (by decide) [(4, .int (-1)), (0, .ref (b 0)), (1, .int (nI j)), (2, .int g), (3, .int x)] rfl ?_
    refine g_iload X dX7_candidate_14 16 rfl rfl ?_
    refine g_if_lt X dX7_candidate_16 32 19 rfl rfl (fun c1 => ?_) (fun c1 => absurd (by decide) c1)
    refine g_iload_n X dX7_candidate_32 33 rfl rfl ?_
    refine c_S X Lk_X7_44 (k_X7_isAddress E l wr b μ a σ x) dX7_candidate_33 rfl rfl (Nat.le_of_ble_eq_true rfl) ⟨(Nat.le_of_ble_eq_true rfl), (Nat.le_of_ble_eq_true rfl)⟩ ⟨(Nat.le_of_ble_eq_true rfl), (Nat.le_of_ble_eq_true rfl)⟩ 36 rfl [.int (bi (inR x 0 99))] rfl ?_
    refine g_ifb_eq X dX7_candidate_36 50 39 rfl rfl (fun c2 => ?_) (fun c2 => ?_)
    · skip
      have hB : caM (μ 1) j g x = beL (μ 1) g 0 100 (-1) := by simp [caM, h2, show nI 0 - 1 = (-1 : Int32) from rfl, c2]
      refine g_iconst X dX7_candidate_50 51 rfl (v := -1) rfl ?_
      refine g_istore X dX7_candidate_51 53 rfl (by decide) [(5, .int (-1)), (4, .int (-1)), (0, .ref (b 0)), (1, .int (nI j)), (2, .int g), (3, .int x)] rfl ?_
      refine g_iconst X dX7_candidate_53 54 rfl (v := 0) rfl ?_
      refine g_istore X dX7_candidate_54 56 rfl (by decide) [(6, .int 0), (5, .int (-1)), (4, .int (-1)), (0, .ref (b 0)), (1, .int (nI j)), (2, .int g), (3, .int x)] rfl ?_
      have Lp : ∀ (r i : Nat) (z : Int32), (i + r = 100) → (z = -1 ∨ ∃ q : Nat, q < 100 ∧ z = nI q) → (beL (μ 1) g i r z = beL (μ 1) g 0 100 (-1)) →  G E (va_A (WW E b μ a σ wr) s.heap.size) 7 p l e ({ frames := 4, cells := 0, slots := 0, locals := 88 } : Room) s m (([.ref (b 0), .int (nI j), .int g, .int x] : List Value).toArray) below meth c (MQ below (KQ E (WW E b μ a σ wr) s.heap.size (fun _ : Unit => (some (.int (caM (μ 1) j g x)))) (fun _ => WW E b μ a σ wr)) (([.ref (b 0), .int (nI j), .int g, .int x] : List Value).toArray) s 0 0 (va_A (WW E b μ a σ wr) s.heap.size)) 0 0 (WW E b μ a σ wr) 56 [(6, .int (nI i)), (5, .int z), (0, .ref (b 0)), (1, .int (nI j)), (2, .int g), (3, .int x)] [] := by
        intro r
        induction r with
        | zero =>
          intro i z hi hb hv
          obtain rfl : i = 100 := by omega
          refine g_iload X dX7_candidate_56 58 rfl rfl ?_
          refine g_bipush X dX7_candidate_58 60 rfl (v := 100) rfl ?_
          refine g_ic_ge X dX7_candidate_60 113 63 rfl rfl (fun c3 => ?_) (fun c3 => absurd (by decide) c3)
          refine g_iload X dX7_candidate_113 115 rfl rfl ?_
          exact g_iret X hr dX7_candidate_115 () (by rw [hB, ← hv]; rfl) rfl
        | succ r ih =>
          intro i z hi hb hv
          refine g_iload X dX7_candidate_56 58 rfl rfl ?_
          refine g_bipush X dX7_candidate_58 60 rfl (v := 100) rfl ?_
          refine g_ic_ge X dX7_candidate_60 113 63 rfl rfl (fun c4 => absurd c4 (nI_ge (b := 100) (by omega) (by decide))) (fun c4 => ?_)
          refine g_aload_n X dX7_candidate_63 64 rfl rfl ?_
          refine g_iload X dX7_candidate_64 66 rfl rfl ?_
          refine g_iload_n X dX7_candidate_66 67 rfl rfl ?_
          refine c_V X Lk_X7_53 (k_X7_isCandidate E l wr b μ a σ i g v hX (by first | omega | assumption)) dX7_candidate_67 rfl 0 rfl rfl rfl (Nat.le_of_ble_eq_true rfl) ⟨(Nat.le_of_ble_eq_true rfl), (Nat.le_of_ble_eq_true rfl)⟩ ⟨(Nat.le_of_ble_eq_true rfl), (Nat.le_of_ble_eq_true rfl)⟩ 70 rfl [.int (bi (cdt (μ 1) i g))] rfl ?_
          refine g_ifb_eq X dX7_candidate_70 107 73 rfl rfl (fun c5 => ?_) (fun c5 => ?_)
          · skip
            refine g_iinc X dX7_candidate_107 110 rfl (by decide) 0 rfl (nI_1 _) [(6, .int (nI (i + 1))), (5, .int z), (0, .ref (b 0)), (1, .int (nI j)), (2, .int g), (3, .int x)] rfl ?_
            refine g_goto X dX7_candidate_110 56 rfl ?_
            exact ih (i + 1) z (by omega) (hb) (by rw [← hv]; simp [beL, c2, c5])
          · skip
            refine g_iload X dX7_candidate_73 75 rfl rfl ?_
            refine g_if_lt X dX7_candidate_75 103 78 rfl rfl (fun c6 => ?_) (fun c6 => ?_)
            · skip
              refine g_iload X dX7_candidate_103 105 rfl rfl ?_
              refine g_istore X dX7_candidate_105 107 rfl (by decide) [(5, .int (nI i)), (6, .int (nI i)), (0, .ref (b 0)), (1, .int (nI j)), (2, .int g), (3, .int x)] rfl ?_
              refine g_iinc X dX7_candidate_107 110 rfl (by decide) 1 rfl (nI_1 _) [(6, .int (nI (i + 1))), (5, .int (nI i)), (0, .ref (b 0)), (1, .int (nI j)), (2, .int g), (3, .int x)] rfl ?_
              refine g_goto X dX7_candidate_110 56 rfl ?_
              exact ih (i + 1) (nI i) (by omega) (Or.inr ⟨i, by omega, rfl⟩) (by rw [← hv]; simp [beL, c2, c5, c6])
            · skip
              obtain ⟨q, hq, rfl⟩ := hb.resolve_left (fun h => c6 (by rw [h]; decide))
              refine g_aload_n X dX7_candidate_78 79 rfl rfl ?_
              refine g_get X FL_X7_9 dX7_candidate_79 82 rfl 0 rfl (v := .ref (b 1)) rfl ?_
              refine g_sipush X dX7_candidate_82 85 rfl (v := 531) rfl ?_
              refine g_iload X dX7_candidate_85 87 rfl rfl ?_
              refine g_iaddN X dX7_candidate_87 88 rfl 531 i rfl rfl ?_
              refine g_ialdN (j := (531 + i)) (f := (μ 1)) X dX7_candidate_88 89 rfl 1 rfl (by omega) (by decide) ?_
              refine g_aload_n X dX7_candidate_89 90 rfl rfl ?_
              refine g_get X FL_X7_9 dX7_candidate_90 93 rfl 0 rfl (v := .ref (b 1)) rfl ?_
              refine g_sipush X dX7_candidate_93 96 rfl (v := 531) rfl ?_
              refine g_iload X dX7_candidate_96 98 rfl rfl ?_
              refine g_iaddN X dX7_candidate_98 99 rfl 531 q rfl rfl ?_
              refine g_ialdN (j := (531 + q)) (f := (μ 1)) X dX7_candidate_99 100 rfl 1 rfl (by omega) (by decide) ?_
              refine g_ic_ge X dX7_candidate_100 107 103 rfl rfl (fun c7 => ?_) (fun c7 => ?_)
              · skip
                refine g_iinc X dX7_candidate_107 110 rfl (by decide) 0 rfl (nI_1 _) [(6, .int (nI (i + 1))), (5, .int (nI q)), (0, .ref (b 0)), (1, .int (nI j)), (2, .int g), (3, .int x)] rfl ?_
                refine g_goto X dX7_candidate_110 56 rfl ?_
                exact ih (i + 1) (nI q) (by omega) (Or.inr ⟨q, hq, rfl⟩) (by rw [← hv]; simp [beL, c2, c5, c6, c7, nI_clamp (show q < 2 ^ 31 by omega), nI_pos (show q < 2 ^ 31 by omega)])
              · skip
                refine g_iload X dX7_candidate_103 105 rfl rfl ?_
                refine g_istore X dX7_candidate_105 107 rfl (by decide) [(5, .int (nI i)), (6, .int (nI i)), (0, .ref (b 0)), (1, .int (nI j)), (2, .int g), (3, .int x)] rfl ?_
                refine g_iinc X dX7_candidate_107 110 rfl (by decide) 1 rfl (nI_1 _) [(6, .int (nI (i + 1))), (5, .int (nI i)), (0, .ref (b 0)), (1, .int (nI j)), (2, .int g), (3, .int x)] rfl ?_
                refine g_goto X dX7_candidate_110 56 rfl ?_
                exact ih (i + 1) (nI i) (by omega) (Or.inr ⟨i, by omega, rfl⟩) (by rw [← hv]; simp [beL, c2, c5, c6, c7, nI_clamp (show q < 2 ^ 31 by omega), nI_pos (show q < 2 ^ 31 by omega)])
      refine g_lsub [0, 1, 3, 4, 5, 6] [(6, .int 0), (5, .int (-1)), (0, .ref (b 0)), (1, .int (nI j)), (2, .int g), (3, .int x)] rfl ?_
      exact Lp 100 0 (-1) rfl (Or.inl rfl) rfl
    · skip
      refine g_aload_n X dX7_candidate_39 40 rfl rfl ?_
      refine g_iload_n X dX7_candidate_40 41 rfl rfl ?_
      obtain ⟨t, ht, hx⟩ := inR_99 ‹_›
      have hxx : inR (nI t) 0 99 = true := hx ▸ ‹inR x 0 99 = true›
      refine g_top (nI t) hx ?_
      refine g_iload_n X dX7_candidate_41 42 rfl rfl ?_
      refine c_V X Lk_X7_53 (k_X7_isCandidate E l wr b μ a σ t g v hX (by first | omega | assumption)) dX7_candidate_42 rfl 0 rfl rfl rfl (Nat.le_of_ble_eq_true rfl) ⟨(Nat.le_of_ble_eq_true rfl), (Nat.le_of_ble_eq_true rfl)⟩ ⟨(Nat.le_of_ble_eq_true rfl), (Nat.le_of_ble_eq_true rfl)⟩ 45 rfl [.int (bi (cdt (μ 1) t g))] rfl ?_
      refine g_ifb_eq X dX7_candidate_45 50 48 rfl rfl (fun c8 => ?_) (fun c8 => ?_)
      · skip
        have hB : caM (μ 1) j g x = beL (μ 1) g 0 100 (-1) := by simp [caM, h2, show nI 0 - 1 = (-1 : Int32) from rfl, hx, hxx, nI_clamp (show t < 2 ^ 31 by omega), c2, c8]
        refine g_iconst X dX7_candidate_50 51 rfl (v := -1) rfl ?_
        refine g_istore X dX7_candidate_51 53 rfl (by decide) [(5, .int (-1)), (4, .int (-1)), (0, .ref (b 0)), (1, .int (nI j)), (2, .int g), (3, .int x)] rfl ?_
        refine g_iconst X dX7_candidate_53 54 rfl (v := 0) rfl ?_
        refine g_istore X dX7_candidate_54 56 rfl (by decide) [(6, .int 0), (5, .int (-1)), (4, .int (-1)), (0, .ref (b 0)), (1, .int (nI j)), (2, .int g), (3, .int x)] rfl ?_
        have Lp : ∀ (r i : Nat) (z : Int32), (i + r = 100) → (z = -1 ∨ ∃ q : Nat, q < 100 ∧ z = nI q) → (beL (μ 1) g i r z = beL (μ 1) g 0 100 (-1)) →  G E (va_A (WW E b μ a σ wr) s.heap.size) 7 p l e ({ frames := 4, cells := 0, slots := 0, locals := 88 } : Room) s m (([.ref (b 0), .int (nI j), .int g, .int x] : List Value).toArray) below meth c (MQ below (KQ E (WW E b μ a σ wr) s.heap.size (fun _ : Unit => (some (.int (caM (μ 1) j g x)))) (fun _ => WW E b μ a σ wr)) (([.ref (b 0), .int (nI j), .int g, .int x] : List Value).toArray) s 0 0 (va_A (WW E b μ a σ wr) s.heap.size)) 0 0 (WW E b μ a σ wr) 56 [(6, .int (nI i)), (5, .int z), (0, .ref (b 0)), (1, .int (nI j)), (2, .int g), (3, .int x)] [] := by
          intro r
          induction r with
          | zero =>
            intro i z hi hb hv
            obtain rfl : i = 100 := by omega
            refine g_iload X dX7_candidate_56 58 rfl rfl ?_
            refine g_bipush X dX7_candidate_58 60 rfl (v := 100) rfl ?_
            refine g_ic_ge X dX7_candidate_60 113 63 rfl rfl (fun c9 => ?_) (fun c9 => absurd (by decide) c9)
            refine g_iload X dX7_candidate_113 115 rfl rfl ?_
            exact g_iret X hr dX7_candidate_115 () (by rw [hB, ← hv]; rfl) rfl
          | succ r ih =>
            intro i z hi hb hv
            refine g_iload X dX7_candidate_56 58 rfl rfl ?_
            refine g_bipush X dX7_candidate_58 60 rfl (v := 100) rfl ?_
            refine g_ic_ge X dX7_candidate_60 113 63 rfl rfl (fun c10 => absurd c10 (nI_ge (b := 100) (by omega) (by decide))) (fun c10 => ?_)
            refine g_aload_n X dX7_candidate_63 64 rfl rfl ?_
            refine g_iload X dX7_candidate_64 66 rfl rfl ?_
            refine g_iload_n X dX7_candidate_66 67 rfl rfl ?_
            refine c_V X Lk_X7_53 (k_X7_isCandidate E l wr b μ a σ i g v hX (by first | omega | assumption)) dX7_candidate_67 rfl 0 rfl rfl rfl (Nat.le_of_ble_eq_true rfl) ⟨(Nat.le_of_ble_eq_true rfl), (Nat.le_of_ble_eq_true rfl)⟩ ⟨(Nat.le_of_ble_eq_true rfl), (Nat.le_of_ble_eq_true rfl)⟩ 70 rfl [.int (bi (cdt (μ 1) i g))] rfl ?_
            refine g_ifb_eq X dX7_candidate_70 107 73 rfl rfl (fun c11 => ?_) (fun c11 => ?_)
            · skip
              refine g_iinc X dX7_candidate_107 110 rfl (by decide) 0 rfl (nI_1 _) [(6, .int (nI (i + 1))), (5, .int z), (0, .ref (b 0)), (1, .int (nI j)), (2, .int g), (3, .int x)] rfl ?_
              refine g_goto X dX7_candidate_110 56 rfl ?_
              exact ih (i + 1) z (by omega) (hb) (by rw [← hv]; simp [beL, c2, c8, c11])
            · skip
              refine g_iload X dX7_candidate_73 75 rfl rfl ?_
              refine g_if_lt X dX7_candidate_75 103 78 rfl rfl (fun c12 => ?_) (fun c12 => ?_)
              · skip
                refine g_iload X dX7_candidate_103 105 rfl rfl ?_
                refine g_istore X dX7_candidate_105 107 rfl (by decide) [(5, .int (nI i)), (6, .int (nI i)), (0, .ref (b 0)), (1, .int (nI j)), (2, .int g), (3, .int x)] rfl ?_
                refine g_iinc X dX7_candidate_107 110 rfl (by decide) 1 rfl (nI_1 _) [(6, .int (nI (i + 1))), (5, .int (nI i)), (0, .ref (b 0)), (1, .int (nI j)), (2, .int g), (3, .int x)] rfl ?_
                refine g_goto X dX7_candidate_110 56 rfl ?_
                exact ih (i + 1) (nI i) (by omega) (Or.inr ⟨i, by omega, rfl⟩) (by rw [← hv]; simp [beL, c2, c8, c11, c12])
              · skip
                obtain ⟨q, hq, rfl⟩ := hb.resolve_left (fun h => c12 (by rw [h]; decide))
                refine g_aload_n X dX7_candidate_78 79 rfl rfl ?_
                refine g_get X FL_X7_9 dX7_candidate_79 82 rfl 0 rfl (v := .ref (b 1)) rfl ?_
                refine g_sipush X dX7_candidate_82 85 rfl (v := 531) rfl ?_
                refine g_iload X dX7_candidate_85 87 rfl rfl ?_
                refine g_iaddN X dX7_candidate_87 88 rfl 531 i rfl rfl ?_
                refine g_ialdN (j := (531 + i)) (f := (μ 1)) X dX7_candidate_88 89 rfl 1 rfl (by omega) (by decide) ?_
                refine g_aload_n X dX7_candidate_89 90 rfl rfl ?_
                refine g_get X FL_X7_9 dX7_candidate_90 93 rfl 0 rfl (v := .ref (b 1)) rfl ?_
                refine g_sipush X dX7_candidate_93 96 rfl (v := 531) rfl ?_
                refine g_iload X dX7_candidate_96 98 rfl rfl ?_
                refine g_iaddN X dX7_candidate_98 99 rfl 531 q rfl rfl ?_
                refine g_ialdN (j := (531 + q)) (f := (μ 1)) X dX7_candidate_99 100 rfl 1 rfl (by omega) (by decide) ?_
                refine g_ic_ge X dX7_candidate_100 107 103 rfl rfl (fun c13 => ?_) (fun c13 => ?_)
                · skip
                  refine g_iinc X dX7_candidate_107 110 rfl (by decide) 0 rfl (nI_1 _) [(6, .int (nI (i + 1))), (5, .int (nI q)), (0, .ref (b 0)), (1, .int (nI j)), (2, .int g), (3, .int x)] rfl ?_
                  refine g_goto X dX7_candidate_110 56 rfl ?_
                  exact ih (i + 1) (nI q) (by omega) (Or.inr ⟨q, hq, rfl⟩) (by rw [← hv]; simp [beL, c2, c8, c11, c12, c13, nI_clamp (show q < 2 ^ 31 by omega), nI_pos (show q < 2 ^ 31 by omega)])
                · skip
                  refine g_iload X dX7_candidate_103 105 rfl rfl ?_
                  refine g_istore X dX7_candidate_105 107 rfl (by decide) [(5, .int (nI i)), (6, .int (nI i)), (0, .ref (b 0)), (1, .int (nI j)), (2, .int g), (3, .int x)] rfl ?_
                  refine g_iinc X dX7_candidate_107 110 rfl (by decide) 1 rfl (nI_1 _) [(6, .int (nI (i + 1))), (5, .int (nI i)), (0, .ref (b 0)), (1, .int (nI j)), (2, .int g), (3, .int x)] rfl ?_
                  refine g_goto X dX7_candidate_110 56 rfl ?_
                  exact ih (i + 1) (nI i) (by omega) (Or.inr ⟨i, by omega, rfl⟩) (by rw [← hv]; simp [beL, c2, c8, c11, c12, c13, nI_clamp (show q < 2 ^ 31 by omega), nI_pos (show q < 2 ^ 31 by omega)])
        refine g_lsub [0, 1, 3, 4, 5, 6] [(6, .int 0), (5, .int (-1)), (0, .ref (b 0)), (1, .int (nI j)), (2, .int g), (3, .int x)] rfl ?_
        exact Lp 100 0 (-1) rfl (Or.inl rfl) rfl
      · skip
        refine g_iload_n X dX7_candidate_48 49 rfl rfl ?_
        exact g_iret X hr dX7_candidate_49 () (by simp [caM, h2, show nI 0 - 1 = (-1 : Int32) from rfl, hx, hxx, nI_clamp (show t < 2 ^ 31 by omega), c2, c8]) rfl
  · skip
    rw [h2]
    rw [nI_pr]
    refine g_istore X dX7_candidate_12 14 rfl (by decide) [(4, .int (nI y)), (0, .ref (b 0)), (1, .int (nI j)), (2, .int g), (3, .int x)] rfl ?_
    refine g_iload X dX7_candidate_14 16 rfl rfl ?_
    refine g_if_lt X dX7_candidate_16 32 19 rfl rfl (fun c14 => absurd c14 (nI_pos (by omega))) (fun c14 => ?_)
    refine g_aload_n X dX7_candidate_19 20 rfl rfl ?_
    refine g_iload X dX7_candidate_20 22 rfl rfl ?_
    refine g_iload_n X dX7_candidate_22 23 rfl rfl ?_
    refine c_V X Lk_X7_53 (k_X7_isCandidate E l wr b μ a σ y g v hX (by first | omega | assumption)) dX7_candidate_23 rfl 0 rfl rfl rfl (Nat.le_of_ble_eq_true rfl) ⟨(Nat.le_of_ble_eq_true rfl), (Nat.le_of_ble_eq_true rfl)⟩ ⟨(Nat.le_of_ble_eq_true rfl), (Nat.le_of_ble_eq_true rfl)⟩ 26 rfl [.int (bi (cdt (μ 1) y g))] rfl ?_
    refine g_ifb_eq X dX7_candidate_26 32 29 rfl rfl (fun c15 => ?_) (fun c15 => ?_)
    · skip
      refine g_iload_n X dX7_candidate_32 33 rfl rfl ?_
      refine c_S X Lk_X7_44 (k_X7_isAddress E l wr b μ a σ x) dX7_candidate_33 rfl rfl (Nat.le_of_ble_eq_true rfl) ⟨(Nat.le_of_ble_eq_true rfl), (Nat.le_of_ble_eq_true rfl)⟩ ⟨(Nat.le_of_ble_eq_true rfl), (Nat.le_of_ble_eq_true rfl)⟩ 36 rfl [.int (bi (inR x 0 99))] rfl ?_
      refine g_ifb_eq X dX7_candidate_36 50 39 rfl rfl (fun c16 => ?_) (fun c16 => ?_)
      · skip
        have hB : caM (μ 1) j g x = beL (μ 1) g 0 100 (-1) := by simp [caM, h2, nI_pr, nI_pos (show y < 2 ^ 31 by omega), nI_clamp (show y < 2 ^ 31 by omega), c14, c15, c16]
        refine g_iconst X dX7_candidate_50 51 rfl (v := -1) rfl ?_
        refine g_istore X dX7_candidate_51 53 rfl (by decide) [(5, .int (-1)), (4, .int (nI y)), (0, .ref (b 0)), (1, .int (nI j)), (2, .int g), (3, .int x)] rfl ?_
        refine g_iconst X dX7_candidate_53 54 rfl (v := 0) rfl ?_
        refine g_istore X dX7_candidate_54 56 rfl (by decide) [(6, .int 0), (5, .int (-1)), (4, .int (nI y)), (0, .ref (b 0)), (1, .int (nI j)), (2, .int g), (3, .int x)] rfl ?_
        have Lp : ∀ (r i : Nat) (z : Int32), (i + r = 100) → (z = -1 ∨ ∃ q : Nat, q < 100 ∧ z = nI q) → (beL (μ 1) g i r z = beL (μ 1) g 0 100 (-1)) →  G E (va_A (WW E b μ a σ wr) s.heap.size) 7 p l e ({ frames := 4, cells := 0, slots := 0, locals := 88 } : Room) s m (([.ref (b 0), .int (nI j), .int g, .int x] : List Value).toArray) below meth c (MQ below (KQ E (WW E b μ a σ wr) s.heap.size (fun _ : Unit => (some (.int (caM (μ 1) j g x)))) (fun _ => WW E b μ a σ wr)) (([.ref (b 0), .int (nI j), .int g, .int x] : List Value).toArray) s 0 0 (va_A (WW E b μ a σ wr) s.heap.size)) 0 0 (WW E b μ a σ wr) 56 [(6, .int (nI i)), (5, .int z), (0, .ref (b 0)), (1, .int (nI j)), (2, .int g), (3, .int x)] [] := by
          intro r
          induction r with
          | zero =>
            intro i z hi hb hv
            obtain rfl : i = 100 := by omega
            refine g_iload X dX7_candidate_56 58 rfl rfl ?_
            refine g_bipush X dX7_candidate_58 60 rfl (v := 100) rfl ?_
            refine g_ic_ge X dX7_candidate_60 113 63 rfl rfl (fun c17 => ?_) (fun c17 => absurd (by decide) c17)
            refine g_iload X dX7_candidate_113 115 rfl rfl ?_
            exact g_iret X hr dX7_candidate_115 () (by rw [hB, ← hv]; rfl) rfl
          | succ r ih =>
            intro i z hi hb hv
            refine g_iload X dX7_candidate_56 58 rfl rfl ?_
            refine g_bipush X dX7_candidate_58 60 rfl (v := 100) rfl ?_
            refine g_ic_ge X dX7_candidate_60 113 63 rfl rfl (fun c18 => absurd c18 (nI_ge (b := 100) (by omega) (by decide))) (fun c18 => ?_)
            refine g_aload_n X dX7_candidate_63 64 rfl rfl ?_
            refine g_iload X dX7_candidate_64 66 rfl rfl ?_
            refine g_iload_n X dX7_candidate_66 67 rfl rfl ?_
            refine c_V X Lk_X7_53 (k_X7_isCandidate E l wr b μ a σ i g v hX (by first | omega | assumption)) dX7_candidate_67 rfl 0 rfl rfl rfl (Nat.le_of_ble_eq_true rfl) ⟨(Nat.le_of_ble_eq_true rfl), (Nat.le_of_ble_eq_true rfl)⟩ ⟨(Nat.le_of_ble_eq_true rfl), (Nat.le_of_ble_eq_true rfl)⟩ 70 rfl [.int (bi (cdt (μ 1) i g))] rfl ?_
            refine g_ifb_eq X dX7_candidate_70 107 73 rfl rfl (fun c19 => ?_) (fun c19 => ?_)
            · skip
              refine g_iinc X dX7_candidate_107 110 rfl (by decide) 0 rfl (nI_1 _) [(6, .int (nI (i + 1))), (5, .int z), (0, .ref (b 0)), (1, .int (nI j)), (2, .int g), (3, .int x)] rfl ?_
              refine g_goto X dX7_candidate_110 56 rfl ?_
              exact ih (i + 1) z (by omega) (hb) (by rw [← hv]; simp [beL, c14, c15, c16, c19])
            · skip
              refine g_iload X dX7_candidate_73 75 rfl rfl ?_
              refine g_if_lt X dX7_candidate_75 103 78 rfl rfl (fun c20 => ?_) (fun c20 => ?_)
              · skip
                refine g_iload X dX7_candidate_103 105 rfl rfl ?_
                refine g_istore X dX7_candidate_105 107 rfl (by decide) [(5, .int (nI i)), (6, .int (nI i)), (0, .ref (b 0)), (1, .int (nI j)), (2, .int g), (3, .int x)] rfl ?_
                refine g_iinc X dX7_candidate_107 110 rfl (by decide) 1 rfl (nI_1 _) [(6, .int (nI (i + 1))), (5, .int (nI i)), (0, .ref (b 0)), (1, .int (nI j)), (2, .int g), (3, .int x)] rfl ?_
                refine g_goto X dX7_candidate_110 56 rfl ?_
                exact ih (i + 1) (nI i) (by omega) (Or.inr ⟨i, by omega, rfl⟩) (by rw [← hv]; simp [beL, c14, c15, c16, c19, c20])
              · skip
                obtain ⟨q, hq, rfl⟩ := hb.resolve_left (fun h => c20 (by rw [h]; decide))
                refine g_aload_n X dX7_candidate_78 79 rfl rfl ?_
                refine g_get X FL_X7_9 dX7_candidate_79 82 rfl 0 rfl (v := .ref (b 1)) rfl ?_
                refine g_sipush X dX7_candidate_82 85 rfl (v := 531) rfl ?_
                refine g_iload X dX7_candidate_85 87 rfl rfl ?_
                refine g_iaddN X dX7_candidate_87 88 rfl 531 i rfl rfl ?_
                refine g_ialdN (j := (531 + i)) (f := (μ 1)) X dX7_candidate_88 89 rfl 1 rfl (by omega) (by decide) ?_
                refine g_aload_n X dX7_candidate_89 90 rfl rfl ?_
                refine g_get X FL_X7_9 dX7_candidate_90 93 rfl 0 rfl (v := .ref (b 1)) rfl ?_
                refine g_sipush X dX7_candidate_93 96 rfl (v := 531) rfl ?_
                refine g_iload X dX7_candidate_96 98 rfl rfl ?_
                refine g_iaddN X dX7_candidate_98 99 rfl 531 q rfl rfl ?_
                refine g_ialdN (j := (531 + q)) (f := (μ 1)) X dX7_candidate_99 100 rfl 1 rfl (by omega) (by decide) ?_
                refine g_ic_ge X dX7_candidate_100 107 103 rfl rfl (fun c21 => ?_) (fun c21 => ?_)
                · skip
                  refine g_iinc X dX7_candidate_107 110 rfl (by decide) 0 rfl (nI_1 _) [(6, .int (nI (i + 1))), (5, .int (nI q)), (0, .ref (b 0)), (1, .int (nI j)), (2, .int g), (3, .int x)] rfl ?_
                  refine g_goto X dX7_candidate_110 56 rfl ?_
                  exact ih (i + 1) (nI q) (by omega) (Or.inr ⟨q, hq, rfl⟩) (by rw [← hv]; simp [beL, c14, c15, c16, c19, c20, c21, nI_clamp (show q < 2 ^ 31 by omega), nI_pos (show q < 2 ^ 31 by omega)])
                · skip
                  refine g_iload X dX7_candidate_103 105 rfl rfl ?_
                  refine g_istore X dX7_candidate_105 107 rfl (by decide) [(5, .int (nI i)), (6, .int (nI i)), (0, .ref (b 0)), (1, .int (nI j)), (2, .int g), (3, .int x)] rfl ?_
                  refine g_iinc X dX7_candidate_107 110 rfl (by decide) 1 rfl (nI_1 _) [(6, .int (nI (i + 1))), (5, .int (nI i)), (0, .ref (b 0)), (1, .int (nI j)), (2, .int g), (3, .int x)] rfl ?_
                  refine g_goto X dX7_candidate_110 56 rfl ?_
                  exact ih (i + 1) (nI i) (by omega) (Or.inr ⟨i, by omega, rfl⟩) (by rw [← hv]; simp [beL, c14, c15, c16, c19, c20, c21, nI_clamp (show q < 2 ^ 31 by omega), nI_pos (show q < 2 ^ 31 by omega)])
        refine g_lsub [0, 1, 3, 4, 5, 6] [(6, .int 0), (5, .int (-1)), (0, .ref (b 0)), (1, .int (nI j)), (2, .int g), (3, .int x)] rfl ?_
        exact Lp 100 0 (-1) rfl (Or.inl rfl) rfl
      · skip
        refine g_aload_n X dX7_candidate_39 40 rfl rfl ?_
        refine g_iload_n X dX7_candidate_40 41 rfl rfl ?_
        obtain ⟨t, ht, hx⟩ := inR_99 ‹_›
        have hxx : inR (nI t) 0 99 = true := hx ▸ ‹inR x 0 99 = true›
        refine g_top (nI t) hx ?_
        refine g_iload_n X dX7_candidate_41 42 rfl rfl ?_
        refine c_V X Lk_X7_53 (k_X7_isCandidate E l wr b μ a σ t g v hX (by first | omega | assumption)) dX7_candidate_42 rfl 0 rfl rfl rfl (Nat.le_of_ble_eq_true rfl) ⟨(Nat.le_of_ble_eq_true rfl), (Nat.le_of_ble_eq_true rfl)⟩ ⟨(Nat.le_of_ble_eq_true rfl), (Nat.le_of_ble_eq_true rfl)⟩ 45 rfl [.int (bi (cdt (μ 1) t g))] rfl ?_
        refine g_ifb_eq X dX7_candidate_45 50 48 rfl rfl (fun c22 => ?_) (fun c22 => ?_)
        · skip
          have hB : caM (μ 1) j g x = beL (μ 1) g 0 100 (-1) := by simp [caM, h2, nI_pr, nI_pos (show y < 2 ^ 31 by omega), nI_clamp (show y < 2 ^ 31 by omega), hx, hxx, nI_clamp (show t < 2 ^ 31 by omega), c14, c15, c16, c22]
          refine g_iconst X dX7_candidate_50 51 rfl (v := -1) rfl ?_
          refine g_istore X dX7_candidate_51 53 rfl (by decide) [(5, .int (-1)), (4, .int (nI y)), (0, .ref (b 0)), (1, .int (nI j)), (2, .int g), (3, .int x)] rfl ?_
          refine g_iconst X dX7_candidate_53 54 rfl (v := 0) rfl ?_
          refine g_istore X dX7_candidate_54 56 rfl (by decide) [(6, .int 0), (5, .int (-1)), (4, .int (nI y)), (0, .ref (b 0)), (1, .int (nI j)), (2, .int g), (3, .int x)] rfl ?_
          have Lp : ∀ (r i : Nat) (z : Int32), (i + r = 100) → (z = -1 ∨ ∃ q : Nat, q < 100 ∧ z = nI q) → (beL (μ 1) g i r z = beL (μ 1) g 0 100 (-1)) →  G E (va_A (WW E b μ a σ wr) s.heap.size) 7 p l e ({ frames := 4, cells := 0, slots := 0, locals := 88 } : Room) s m (([.ref (b 0), .int (nI j), .int g, .int x] : List Value).toArray) below meth c (MQ below (KQ E (WW E b μ a σ wr) s.heap.size (fun _ : Unit => (some (.int (caM (μ 1) j g x)))) (fun _ => WW E b μ a σ wr)) (([.ref (b 0), .int (nI j), .int g, .int x] : List Value).toArray) s 0 0 (va_A (WW E b μ a σ wr) s.heap.size)) 0 0 (WW E b μ a σ wr) 56 [(6, .int (nI i)), (5, .int z), (0, .ref (b 0)), (1, .int (nI j)), (2, .int g), (3, .int x)] [] := by
            intro r
            induction r with
            | zero =>
              intro i z hi hb hv
              obtain rfl : i = 100 := by omega
              refine g_iload X dX7_candidate_56 58 rfl rfl ?_
              refine g_bipush X dX7_candidate_58 60 rfl (v := 100) rfl ?_
              refine g_ic_ge X dX7_candidate_60 113 63 rfl rfl (fun c23 => ?_) (fun c23 => absurd (by decide) c23)
              refine g_iload X dX7_candidate_113 115 rfl rfl ?_
              exact g_iret X hr dX7_candidate_115 () (by rw [hB, ← hv]; rfl) rfl
            | succ r ih =>
              intro i z hi hb hv
              refine g_iload X dX7_candidate_56 58 rfl rfl ?_
              refine g_bipush X dX7_candidate_58 60 rfl (v := 100) rfl ?_
              refine g_ic_ge X dX7_candidate_60 113 63 rfl rfl (fun c24 => absurd c24 (nI_ge (b := 100) (by omega) (by decide))) (fun c24 => ?_)
              refine g_aload_n X dX7_candidate_63 64 rfl rfl ?_
              refine g_iload X dX7_candidate_64 66 rfl rfl ?_
              refine g_iload_n X dX7_candidate_66 67 rfl rfl ?_
              refine c_V X Lk_X7_53 (k_X7_isCandidate E l wr b μ a σ i g v hX (by first | omega | assumption)) dX7_candidate_67 rfl 0 rfl rfl rfl (Nat.le_of_ble_eq_true rfl) ⟨(Nat.le_of_ble_eq_true rfl), (Nat.le_of_ble_eq_true rfl)⟩ ⟨(Nat.le_of_ble_eq_true rfl), (Nat.le_of_ble_eq_true rfl)⟩ 70 rfl [.int (bi (cdt (μ 1) i g))] rfl ?_
              refine g_ifb_eq X dX7_candidate_70 107 73 rfl rfl (fun c25 => ?_) (fun c25 => ?_)
              · skip
                refine g_iinc X dX7_candidate_107 110 rfl (by decide) 0 rfl (nI_1 _) [(6, .int (nI (i + 1))), (5, .int z), (0, .ref (b 0)), (1, .int (nI j)), (2, .int g), (3, .int x)] rfl ?_
                refine g_goto X dX7_candidate_110 56 rfl ?_
                exact ih (i + 1) z (by omega) (hb) (by rw [← hv]; simp [beL, c14, c15, c16, c22, c25])
              · skip
                refine g_iload X dX7_candidate_73 75 rfl rfl ?_
                refine g_if_lt X dX7_candidate_75 103 78 rfl rfl (fun c26 => ?_) (fun c26 => ?_)
                · skip
                  refine g_iload X dX7_candidate_103 105 rfl rfl ?_
                  refine g_istore X dX7_candidate_105 107 rfl (by decide) [(5, .int (nI i)), (6, .int (nI i)), (0, .ref (b 0)), (1, .int (nI j)), (2, .int g), (3, .int x)] rfl ?_
                  refine g_iinc X dX7_candidate_107 110 rfl (by decide) 1 rfl (nI_1 _) [(6, .int (nI (i + 1))), (5, .int (nI i)), (0, .ref (b 0)), (1, .int (nI j)), (2, .int g), (3, .int x)] rfl ?_
                  refine g_goto X dX7_candidate_110 56 rfl ?_
                  exact ih (i + 1) (nI i) (by omega) (Or.inr ⟨i, by omega, rfl⟩) (by rw [← hv]; simp [beL, c14, c15, c16, c22, c25, c26])
                · skip
                  obtain ⟨q, hq, rfl⟩ := hb.resolve_left (fun h => c26 (by rw [h]; decide))
                  refine g_aload_n X dX7_candidate_78 79 rfl rfl ?_
                  refine g_get X FL_X7_9 dX7_candidate_79 82 rfl 0 rfl (v := .ref (b 1)) rfl ?_
                  refine g_sipush X dX7_candidate_82 85 rfl (v := 531) rfl ?_
                  refine g_iload X dX7_candidate_85 87 rfl rfl ?_
                  refine g_iaddN X dX7_candidate_87 88 rfl 531 i rfl rfl ?_
                  refine g_ialdN (j := (531 + i)) (f := (μ 1)) X dX7_candidate_88 89 rfl 1 rfl (by omega) (by decide) ?_
                  refine g_aload_n X dX7_candidate_89 90 rfl rfl ?_
                  refine g_get X FL_X7_9 dX7_candidate_90 93 rfl 0 rfl (v := .ref (b 1)) rfl ?_
                  refine g_sipush X dX7_candidate_93 96 rfl (v := 531) rfl ?_
                  refine g_iload X dX7_candidate_96 98 rfl rfl ?_
                  refine g_iaddN X dX7_candidate_98 99 rfl 531 q rfl rfl ?_
                  refine g_ialdN (j := (531 + q)) (f := (μ 1)) X dX7_candidate_99 100 rfl 1 rfl (by omega) (by decide) ?_
                  refine g_ic_ge X dX7_candidate_100 107 103 rfl rfl (fun c27 => ?_) (fun c27 => ?_)
                  · skip
                    refine g_iinc X dX7_candidate_107 110 rfl (by decide) 0 rfl (nI_1 _) [(6, .int (nI (i + 1))), (5, .int (nI q)), (0, .ref (b 0)), (1, .int (nI j)), (2, .int g), (3, .int x)] rfl ?_
                    refine g_goto X dX7_candidate_110 56 rfl ?_
                    exact ih (i + 1) (nI q) (by omega) (Or.inr ⟨q, hq, rfl⟩) (by rw [← hv]; simp [beL, c14, c15, c16, c22, c25, c26, c27, nI_clamp (show q < 2 ^ 31 by omega), nI_pos (show q < 2 ^ 31 by omega)])
                  · skip
                    refine g_iload X dX7_candidate_103 105 rfl rfl ?_
                    refine g_istore X dX7_candidate_105 107 rfl (by decide) [(5, .int (nI i)), (6, .int (nI i)), (0, .ref (b 0)), (1, .int (nI j)), (2, .int g), (3, .int x)] rfl ?_
                    refine g_iinc X dX7_candidate_107 110 rfl (by decide) 1 rfl (nI_1 _) [(6, .int (nI (i + 1))), (5, .int (nI i)), (0, .ref (b 0)), (1, .int (nI j)), (2, .int g), (3, .int x)] rfl ?_
                    refine g_goto X dX7_candidate_110 56 rfl ?_
                    exact ih (i + 1) (nI i) (by omega) (Or.inr ⟨i, by omega, rfl⟩) (by rw [← hv]; simp [beL, c14, c15, c16, c22, c25, c26, c27, nI_clamp (show q < 2 ^ 31 by omega), nI_pos (show q < 2 ^ 31 by omega)])
          refine g_lsub [0, 1, 3, 4, 5, 6] [(6, .int 0), (5, .int (-1)), (0, .ref (b 0)), (1, .int (nI j)), (2, .int g), (3, .int x)] rfl ?_
          exact Lp 100 0 (-1) rfl (Or.inl rfl) rfl
        · skip
          refine g_iload_n X dX7_candidate_48 49 rfl rfl ?_
          exact g_iret X hr dX7_candidate_49 () (by simp [caM, h2, nI_pr, nI_pos (show y < 2 ^ 31 by omega), nI_clamp (show y < 2 ^ 31 by omega), hx, hxx, nI_clamp (show t < 2 ^ 31 by omega), c14, c15, c16, c22]) rfl
    · skip
      refine g_iload X dX7_candidate_29 31 rfl rfl ?_
      exact g_iret X hr dX7_candidate_31 () (by simp [caM, h2, nI_pr, nI_pos (show y < 2 ^ 31 by omega), nI_clamp (show y < 2 ^ 31 by omega), c14, c15]) rfl

set_option maxHeartbeats 4000000 in
set_option maxRecDepth 100000 in
theorem k_X7_renews (E : kE) (l : Launch) (wr : va_W) (b : Nat → Nat) (μ : Sto) (a : Nat → Nat) (σ : Sto) (j : Nat) (t : Int32) (v : Nat) (hX : MX (μ 1) v) (hc : j < 20) (ho : ∃ p : Nat, p < v ∧ ow (μ 1) ((μ 1) (651 + j)) = nI p) (hL : LG (μ 5 0)) : KM E l yX7_renews cX7_renews 4 (some .boolean) 3 68 0 0 [.ref (b 0), .int (nI j), .int t] (WW E b μ a σ wr) (some (.int (bi (!rnB (μ 1) j)))) (WW E b (put (put (put μ 1 (rnN (μ 1) j t)) 4 (lgM (μ 4) (μ 5 0) (rnK (μ 1) j) ((μ 1) (651 + j)))) 5 (sc (lgN (μ 5 0)))) a σ wr) := by
  refine K_start (own := RX7) (by decide +kernel) rfl [(0, .ref (b 0)), (1, .int (nI j)), (2, .int t)] rfl (Nat.le_of_ble_eq_true rfl) (fun p e s m below meth c X hr hin => ?_)
  obtain ⟨y, hy, h2⟩ := hX.ha j hc
  refine g_aload_n X dX7_renews_0 1 rfl rfl ?_
  refine g_get X FL_X7_9 dX7_renews_1 4 rfl 0 rfl (v := .ref (b 1)) rfl ?_
  refine g_sipush X dX7_renews_4 7 rfl (v := 651) rfl ?_
  refine g_iload_n X dX7_renews_7 8 rfl rfl ?_
  refine g_iaddN X dX7_renews_8 9 rfl 651 j rfl rfl ?_
  refine g_ialdN (j := (651 + j)) (f := (μ 1)) X dX7_renews_9 10 rfl 1 rfl (by omega) (by decide) ?_
  refine g_top (nI y) h2 ?_
  refine g_istore_n X dX7_renews_10 11 rfl (by decide) [(3, .int (nI y)), (0, .ref (b 0)), (1, .int (nI j)), (2, .int t)] rfl ?_
  refine g_aload_n X dX7_renews_11 12 rfl rfl ?_
  refine g_get X FL_X7_9 dX7_renews_12 15 rfl 0 rfl (v := .ref (b 1)) rfl ?_
  refine g_bipush X dX7_renews_15 17 rfl (v := 31) rfl ?_
  refine g_iload_n X dX7_renews_17 18 rfl rfl ?_
  refine g_iaddN X dX7_renews_18 19 rfl 31 y rfl rfl ?_
  refine g_ialdN (j := (31 + y)) (f := (μ 1)) X dX7_renews_19 20 rfl 1 rfl (by omega) (by decide) ?_
  refine g_iconst X dX7_renews_20 21 rfl (v := 1) rfl ?_
  refine g_ic_ne X dX7_renews_21 49 24 rfl rfl (fun c1 => ?_) (fun c1 => ?_)
  · skip
    refine g_aload_n X dX7_renews_49 50 rfl rfl ?_
    refine g_iload_n X dX7_renews_50 51 rfl rfl ?_
    refine g_iload_n X dX7_renews_51 52 rfl rfl ?_
    refine c_V X Lk_X7_86 (k_X7_lasts E l wr b μ a σ j t v hX (by first | omega | assumption) ho) dX7_renews_52 rfl 0 rfl rfl rfl (Nat.le_of_ble_eq_true rfl) ⟨(Nat.le_of_ble_eq_true rfl), (Nat.le_of_ble_eq_true rfl)⟩ ⟨(Nat.le_of_ble_eq_true rfl), (Nat.le_of_ble_eq_true rfl)⟩ 55 rfl [] rfl ?_
    refine g_aload_n X dX7_renews_55 56 rfl rfl ?_
    refine g_iconst X dX7_renews_56 57 rfl (v := 3) rfl ?_
    refine g_iload_n X dX7_renews_57 58 rfl rfl ?_
    refine c_V X Lk_X7_83 (k_X7_logs E l wr b (put μ 1 (mLs (μ 1) j t)) a σ 3 (nI y) hL) dX7_renews_58 rfl 0 rfl rfl rfl (Nat.le_of_ble_eq_true rfl) ⟨(Nat.le_of_ble_eq_true rfl), (Nat.le_of_ble_eq_true rfl)⟩ ⟨(Nat.le_of_ble_eq_true rfl), (Nat.le_of_ble_eq_true rfl)⟩ 61 rfl [] rfl ?_
    refine g_iconst X dX7_renews_61 62 rfl (v := 1) rfl ?_
    exact g_zret X hr dX7_renews_62 true rfl () (show (some (.int (bi (!rnB (μ 1) j))) : Option Value) = some (.int (bi true)) from by simp [rnN, rnK, lgM, rnB, aC, bi, h2, nI_clamp (show y < 2 ^ 31 by omega), c1]) (by refine WW_eq ?_ ?_ ?_ ?_ ?_ ?_; exact (rfl : (μ 0 0) = (μ 0 0)); exact (show (mLs (μ 1) j t) = (rnN (μ 1) j t) from by simp [rnN, rnK, lgM, rnB, aC, bi, h2, nI_clamp (show y < 2 ^ 31 by omega), c1]); exact (rfl : μ 2 = μ 2); exact (rfl : μ 3 0 = μ 3 0); exact (show (mLog (μ 4) (ix (lgN (μ 5 0))) 3 (nI y)) = (lgM (μ 4) (μ 5 0) (rnK (μ 1) j) ((μ 1) (651 + j))) from by simp [rnN, rnK, lgM, rnB, aC, bi, h2, nI_clamp (show y < 2 ^ 31 by omega), c1]); exact (rfl : (lgN (μ 5 0)) = (lgN (μ 5 0))))
  · skip
    refine g_aload_n X dX7_renews_24 25 rfl rfl ?_
    refine g_iload_n X dX7_renews_25 26 rfl rfl ?_
    refine g_iload_n X dX7_renews_26 27 rfl rfl ?_
    refine c_V X Lk_X7_71 (k_X7_frees E l wr b μ a σ y t (by first | omega | assumption)) dX7_renews_27 rfl 0 rfl rfl rfl (Nat.le_of_ble_eq_true rfl) ⟨(Nat.le_of_ble_eq_true rfl), (Nat.le_of_ble_eq_true rfl)⟩ ⟨(Nat.le_of_ble_eq_true rfl), (Nat.le_of_ble_eq_true rfl)⟩ 30 rfl [] rfl ?_
    refine g_aload_n X dX7_renews_30 31 rfl rfl ?_
    refine g_get X FL_X7_9 dX7_renews_31 34 rfl 0 rfl (v := .ref (b 1)) rfl ?_
    refine g_sipush X dX7_renews_34 37 rfl (v := 631) rfl ?_
    refine g_iload_n X dX7_renews_37 38 rfl rfl ?_
    refine g_iaddN X dX7_renews_38 39 rfl 631 j rfl rfl ?_
    refine g_iconst X dX7_renews_39 40 rfl (v := 0) rfl ?_
    refine g_iastN (j := (631 + j)) (f := (mFr (μ 1) y t)) X dX7_renews_40 41 rfl 1 rfl (by omega) (by decide) (WW E b (put μ 1 (upd (mFr (μ 1) y t) (631 + j) 0)) a σ wr) rfl ?_
    refine g_aload_n X dX7_renews_41 42 rfl rfl ?_
    refine g_iconst X dX7_renews_42 43 rfl (v := 4) rfl ?_
    refine g_iload_n X dX7_renews_43 44 rfl rfl ?_
    refine c_V X Lk_X7_83 (k_X7_logs E l wr b (put μ 1 (upd (mFr (μ 1) y t) (631 + j) 0)) a σ 4 (nI y) hL) dX7_renews_44 rfl 0 rfl rfl rfl (Nat.le_of_ble_eq_true rfl) ⟨(Nat.le_of_ble_eq_true rfl), (Nat.le_of_ble_eq_true rfl)⟩ ⟨(Nat.le_of_ble_eq_true rfl), (Nat.le_of_ble_eq_true rfl)⟩ 47 rfl [] rfl ?_
    refine g_iconst X dX7_renews_47 48 rfl (v := 0) rfl ?_
    exact g_zret X hr dX7_renews_48 false rfl () (show (some (.int (bi (!rnB (μ 1) j))) : Option Value) = some (.int (bi false)) from by simp [rnN, rnK, lgM, rnB, aC, bi, h2, nI_clamp (show y < 2 ^ 31 by omega), c1]) (by refine WW_eq ?_ ?_ ?_ ?_ ?_ ?_; exact (rfl : (μ 0 0) = (μ 0 0)); exact (show (upd (mFr (μ 1) y t) (631 + j) 0) = (rnN (μ 1) j t) from by simp [rnN, rnK, lgM, rnB, aC, bi, h2, nI_clamp (show y < 2 ^ 31 by omega), c1]); exact (rfl : μ 2 = μ 2); exact (rfl : μ 3 0 = μ 3 0); exact (show (mLog (μ 4) (ix (lgN (μ 5 0))) 4 (nI y)) = (lgM (μ 4) (μ 5 0) (rnK (μ 1) j) ((μ 1) (651 + j))) from by simp [rnN, rnK, lgM, rnB, aC, bi, h2, nI_clamp (show y < 2 ^ 31 by omega), c1]); exact (rfl : (lgN (μ 5 0)) = (lgN (μ 5 0))))

set_option maxHeartbeats 4000000 in
set_option maxRecDepth 100000 in
theorem k_X7_earliest (E : kE) (l : Launch) (wr : va_W) (b : Nat → Nat) (μ : Sto) (a : Nat → Nat) (σ : Sto) (v : Nat) (hX : MX (μ 1) v) : KM E l yX7_earliest cX7_earliest 3 (some .int) 4 88 0 0 [.ref (b 0)] (WW E b μ a σ wr) (some (.int (eaM (μ 1)))) (WW E b μ a σ wr) := by
  refine K_start (own := RX7) (by decide +kernel) rfl [(0, .ref (b 0))] rfl (Nat.le_of_ble_eq_true rfl) (fun p e s m below meth c X hr hin => ?_)
  refine g_iconst X dX7_earliest_0 1 rfl (v := -1) rfl ?_
  refine g_istore_n X dX7_earliest_1 2 rfl (by decide) [(1, .int (-1)), (0, .ref (b 0))] rfl ?_
  refine g_iconst X dX7_earliest_2 3 rfl (v := 0) rfl ?_
  refine g_istore_n X dX7_earliest_3 4 rfl (by decide) [(2, .int 0), (1, .int (-1)), (0, .ref (b 0))] rfl ?_
  have Lp : ∀ (r i : Nat) (z : Int32), (i + r = 100) → (eaL (μ 1) i r z = eaM (μ 1)) →  G E (va_A (WW E b μ a σ wr) s.heap.size) 3 p l e ({ frames := 4, cells := 0, slots := 0, locals := 88 } : Room) s m (([.ref (b 0)] : List Value).toArray) below meth c (MQ below (KQ E (WW E b μ a σ wr) s.heap.size (fun _ : Unit => (some (.int (eaM (μ 1))))) (fun _ => WW E b μ a σ wr)) (([.ref (b 0)] : List Value).toArray) s 0 0 (va_A (WW E b μ a σ wr) s.heap.size)) 0 0 (WW E b μ a σ wr) 4 [(2, .int (nI i)), (1, .int z), (0, .ref (b 0))] [] := by
    intro r
    induction r with
    | zero =>
      intro i z hi hv
      obtain rfl : i = 100 := by omega
      refine g_iload_n X dX7_earliest_4 5 rfl rfl ?_
      refine g_bipush X dX7_earliest_5 7 rfl (v := 100) rfl ?_
      refine g_ic_ge X dX7_earliest_7 43 10 rfl rfl (fun c1 => ?_) (fun c1 => absurd (by decide) c1)
      refine g_iload_n X dX7_earliest_43 44 rfl rfl ?_
      exact g_iret X hr dX7_earliest_44 () (by rw [← hv]; rfl) rfl
    | succ r ih =>
      intro i z hi hv
      refine g_iload_n X dX7_earliest_4 5 rfl rfl ?_
      refine g_bipush X dX7_earliest_5 7 rfl (v := 100) rfl ?_
      refine g_ic_ge X dX7_earliest_7 43 10 rfl rfl (fun c2 => absurd c2 (nI_ge (b := 100) (by omega) (by decide))) (fun c2 => ?_)
      refine g_aload_n X dX7_earliest_10 11 rfl rfl ?_
      refine g_iload_n X dX7_earliest_11 12 rfl rfl ?_
      refine c_V X Lk_X7_98 (k_X7_due E l wr b μ a σ i v hX (by first | omega | assumption)) dX7_earliest_12 rfl 0 rfl rfl rfl (Nat.le_of_ble_eq_true rfl) ⟨(Nat.le_of_ble_eq_true rfl), (Nat.le_of_ble_eq_true rfl)⟩ ⟨(Nat.le_of_ble_eq_true rfl), (Nat.le_of_ble_eq_true rfl)⟩ 15 rfl [.int (due (μ 1) i)] rfl ?_
      refine g_if_lt X dX7_earliest_15 37 18 rfl rfl (fun c3 => ?_) (fun c3 => ?_)
      · skip
        refine g_iinc X dX7_earliest_37 40 rfl (by decide) 0 rfl (nI_1 _) [(2, .int (nI (i + 1))), (1, .int z), (0, .ref (b 0))] rfl ?_
        refine g_goto X dX7_earliest_40 4 rfl ?_
        exact ih (i + 1) z (by omega) (by rw [← hv]; simp [eaL, c3])
      · skip
        refine g_iload_n X dX7_earliest_18 19 rfl rfl ?_
        refine g_if_lt X dX7_earliest_19 31 22 rfl rfl (fun c4 => ?_) (fun c4 => ?_)
        · skip
          refine g_aload_n X dX7_earliest_31 32 rfl rfl ?_
          refine g_iload_n X dX7_earliest_32 33 rfl rfl ?_
          refine c_V X Lk_X7_98 (k_X7_due E l wr b μ a σ i v hX (by first | omega | assumption)) dX7_earliest_33 rfl 0 rfl rfl rfl (Nat.le_of_ble_eq_true rfl) ⟨(Nat.le_of_ble_eq_true rfl), (Nat.le_of_ble_eq_true rfl)⟩ ⟨(Nat.le_of_ble_eq_true rfl), (Nat.le_of_ble_eq_true rfl)⟩ 36 rfl [.int (due (μ 1) i)] rfl ?_
          refine g_istore_n X dX7_earliest_36 37 rfl (by decide) [(1, .int (due (μ 1) i)), (2, .int (nI i)), (0, .ref (b 0))] rfl ?_
          refine g_iinc X dX7_earliest_37 40 rfl (by decide) 1 rfl (nI_1 _) [(2, .int (nI (i + 1))), (1, .int (due (μ 1) i)), (0, .ref (b 0))] rfl ?_
          refine g_goto X dX7_earliest_40 4 rfl ?_
          exact ih (i + 1) (due (μ 1) i) (by omega) (by rw [← hv]; simp [eaL, c3, c4])
        · skip
          refine g_aload_n X dX7_earliest_22 23 rfl rfl ?_
          refine g_iload_n X dX7_earliest_23 24 rfl rfl ?_
          refine c_V X Lk_X7_98 (k_X7_due E l wr b μ a σ i v hX (by first | omega | assumption)) dX7_earliest_24 rfl 0 rfl rfl rfl (Nat.le_of_ble_eq_true rfl) ⟨(Nat.le_of_ble_eq_true rfl), (Nat.le_of_ble_eq_true rfl)⟩ ⟨(Nat.le_of_ble_eq_true rfl), (Nat.le_of_ble_eq_true rfl)⟩ 27 rfl [.int (due (μ 1) i)] rfl ?_
          refine g_iload_n X dX7_earliest_27 28 rfl rfl ?_
          refine g_ic_ge X dX7_earliest_28 37 31 rfl rfl (fun c5 => ?_) (fun c5 => ?_)
          · skip
            refine g_iinc X dX7_earliest_37 40 rfl (by decide) 0 rfl (nI_1 _) [(2, .int (nI (i + 1))), (1, .int z), (0, .ref (b 0))] rfl ?_
            refine g_goto X dX7_earliest_40 4 rfl ?_
            exact ih (i + 1) z (by omega) (by rw [← hv]; simp [eaL, c3, c4, c5])
          · skip
            refine g_aload_n X dX7_earliest_31 32 rfl rfl ?_
            refine g_iload_n X dX7_earliest_32 33 rfl rfl ?_
            refine c_V X Lk_X7_98 (k_X7_due E l wr b μ a σ i v hX (by first | omega | assumption)) dX7_earliest_33 rfl 0 rfl rfl rfl (Nat.le_of_ble_eq_true rfl) ⟨(Nat.le_of_ble_eq_true rfl), (Nat.le_of_ble_eq_true rfl)⟩ ⟨(Nat.le_of_ble_eq_true rfl), (Nat.le_of_ble_eq_true rfl)⟩ 36 rfl [.int (due (μ 1) i)] rfl ?_
            refine g_istore_n X dX7_earliest_36 37 rfl (by decide) [(1, .int (due (μ 1) i)), (2, .int (nI i)), (0, .ref (b 0))] rfl ?_
            refine g_iinc X dX7_earliest_37 40 rfl (by decide) 1 rfl (nI_1 _) [(2, .int (nI (i + 1))), (1, .int (due (μ 1) i)), (0, .ref (b 0))] rfl ?_
            refine g_goto X dX7_earliest_40 4 rfl ?_
            exact ih (i + 1) (due (μ 1) i) (by omega) (by rw [← hv]; simp [eaL, c3, c4, c5])
  exact Lp 100 0 (-1) rfl rfl

set_option maxHeartbeats 4000000 in
set_option maxRecDepth 100000 in
theorem k_X7_accept (E : kE) (l : Launch) (wr : va_W) (b : Nat → Nat) (μ : Sto) (a : Nat → Nat) (σ : Sto) (x : Int32) (v : Nat) (hX : MX (μ 1) v) (hO : OKO (μ 1) v) (hL : LG (μ 5 0)) : KM E l yX7_accept cX7_accept 3 (some .int) 3 68 0 0 [.ref (b 0), .int x] (WW E b μ a σ wr) (some (.int (if acT (μ 1) x = 0 then (μ 1) (651 + ix x) else 0))) (WW E b (put (put (put (put μ 0 (sc (acT (μ 1) x))) 1 (if acT (μ 1) x = 0 then acN (μ 1) (ix x) else (μ 1))) 4 (if acT (μ 1) x = 0 then lgM (μ 4) (μ 5 0) 2 ((μ 1) (651 + ix x)) else (μ 4))) 5 (sc (if acT (μ 1) x = 0 then lgN (μ 5 0) else (μ 5 0)))) a σ wr) := by
  refine K_start (own := RX7) (by decide +kernel) rfl [(0, .ref (b 0)), (1, .int x)] rfl (Nat.le_of_ble_eq_true rfl) (fun p e s m below meth c X hr hin => ?_)
  refine g_aload_n X dX7_accept_0 1 rfl rfl ?_
  refine g_iconst X dX7_accept_1 2 rfl (v := 0) rfl ?_
  refine g_put X FL_X7_19 fk_X7 dX7_accept_2 5 rfl rfl 0 rfl rfl rfl (Nat.le_of_ble_eq_true rfl) (WW E b (put μ 0 (sc 0)) a σ wr) rfl ?_
  refine g_iload_n X dX7_accept_5 6 rfl rfl ?_
  refine c_S X Lk_X7_65 (k_X7_isClient E l wr b (put μ 0 (sc 0)) a σ x) dX7_accept_6 rfl rfl (Nat.le_of_ble_eq_true rfl) ⟨(Nat.le_of_ble_eq_true rfl), (Nat.le_of_ble_eq_true rfl)⟩ ⟨(Nat.le_of_ble_eq_true rfl), (Nat.le_of_ble_eq_true rfl)⟩ 9 rfl [.int (bi (inR x 0 19))] rfl ?_
  refine g_ifb_ne X dX7_accept_9 18 12 rfl rfl (fun c1 => ?_) (fun c1 => ?_)
  · skip
    obtain ⟨j, hj, rfl⟩ := inR_19 c1
    refine g_aload_n X dX7_accept_18 19 rfl rfl ?_
    refine g_get X FL_X7_9 dX7_accept_19 22 rfl 0 rfl (v := .ref (b 1)) rfl ?_
    refine g_sipush X dX7_accept_22 25 rfl (v := 631) rfl ?_
    refine g_iload_n X dX7_accept_25 26 rfl rfl ?_
    refine g_iaddN X dX7_accept_26 27 rfl 631 j rfl rfl ?_
    refine g_ialdN (j := (631 + j)) (f := (μ 1)) X dX7_accept_27 28 rfl 1 rfl (by omega) (by decide) ?_
    refine g_iconst X dX7_accept_28 29 rfl (v := 1) rfl ?_
    refine g_ic_eq X dX7_accept_29 38 32 rfl rfl (fun c2 => ?_) (fun c2 => ?_)
    · skip
      refine g_aload_n X dX7_accept_38 39 rfl rfl ?_
      refine g_get X FL_X7_9 dX7_accept_39 42 rfl 0 rfl (v := .ref (b 1)) rfl ?_
      refine g_sipush X dX7_accept_42 45 rfl (v := 651) rfl ?_
      refine g_iload_n X dX7_accept_45 46 rfl rfl ?_
      refine g_iaddN X dX7_accept_46 47 rfl 651 j rfl rfl ?_
      refine g_ialdN (j := (651 + j)) (f := (μ 1)) X dX7_accept_47 48 rfl 1 rfl (by omega) (by decide) ?_
      obtain ⟨y, hy, h2⟩ := hX.ha j hj
      refine g_top (nI y) h2 ?_
      refine g_istore_n X dX7_accept_48 49 rfl (by decide) [(2, .int (nI y)), (0, .ref (b 0)), (1, .int (nI j))] rfl ?_
      refine g_aload_n X dX7_accept_49 50 rfl rfl ?_
      refine g_get X FL_X7_9 dX7_accept_50 53 rfl 0 rfl (v := .ref (b 1)) rfl ?_
      refine g_bipush X dX7_accept_53 55 rfl (v := 28) rfl ?_
      refine g_aload_n X dX7_accept_55 56 rfl rfl ?_
      refine g_iload_n X dX7_accept_56 57 rfl rfl ?_
      refine c_V X Lk_X7_50 (k_X7_groupOf E l wr b (put μ 0 (sc 0)) a σ (nI y) v hX) dX7_accept_57 rfl 0 rfl rfl rfl (Nat.le_of_ble_eq_true rfl) ⟨(Nat.le_of_ble_eq_true rfl), (Nat.le_of_ble_eq_true rfl)⟩ ⟨(Nat.le_of_ble_eq_true rfl), (Nat.le_of_ble_eq_true rfl)⟩ 60 rfl [.int (gr (μ 1) (nI y)), .int 28, .ref (b 1)] rfl ?_
      obtain ⟨q, hq, h3⟩ := hO j hj (by rw [c2]; decide)
      rw [h2] at h3
      obtain ⟨g3, hg3, h4⟩ := hX.hg q hq
      have h5 := gr_of h3 (by have := hX.hv; omega) h4
      refine g_top (nI g3) h5 ?_
      refine g_iaddN X dX7_accept_60 61 rfl 28 g3 rfl rfl ?_
      refine g_ialdN (j := (28 + g3)) (f := (μ 1)) X dX7_accept_61 62 rfl 1 rfl (by omega) (by decide) ?_
      refine g_if_ne X dX7_accept_62 71 65 rfl rfl (fun c3 => ?_) (fun c3 => ?_)
      · skip
        refine g_aload_n X dX7_accept_71 72 rfl rfl ?_
        refine g_get X FL_X7_9 dX7_accept_72 75 rfl 0 rfl (v := .ref (b 1)) rfl ?_
        refine g_sipush X dX7_accept_75 78 rfl (v := 231) rfl ?_
        refine g_iload_n X dX7_accept_78 79 rfl rfl ?_
        refine g_iaddN X dX7_accept_79 80 rfl 231 y rfl rfl ?_
        refine g_iconst X dX7_accept_80 81 rfl (v := 2) rfl ?_
        refine g_iastN (j := (231 + y)) (f := (μ 1)) X dX7_accept_81 82 rfl 1 rfl (by omega) (by decide) (WW E b (put (put μ 0 (sc 0)) 1 (upd (μ 1) (231 + y) 2)) a σ wr) rfl ?_
        refine g_aload_n X dX7_accept_82 83 rfl rfl ?_
        refine g_get X FL_X7_9 dX7_accept_83 86 rfl 0 rfl (v := .ref (b 1)) rfl ?_
        refine g_sipush X dX7_accept_86 89 rfl (v := 711) rfl ?_
        refine g_iload_n X dX7_accept_89 90 rfl rfl ?_
        refine g_iaddN X dX7_accept_90 91 rfl 711 j rfl rfl ?_
        refine g_iload_n X dX7_accept_91 92 rfl rfl ?_
        refine g_iconst X dX7_accept_92 93 rfl (v := 1) rfl ?_
        refine g_iaddN X dX7_accept_93 94 rfl y 1 rfl rfl ?_
        refine g_iastN (j := (711 + j)) (f := (upd (μ 1) (231 + y) 2)) X dX7_accept_94 95 rfl 1 rfl (by omega) (by decide) (WW E b (put (put μ 0 (sc 0)) 1 (upd (upd (μ 1) (231 + y) 2) (711 + j) (nI (y + 1)))) a σ wr) rfl ?_
        refine g_aload_n X dX7_accept_95 96 rfl rfl ?_
        refine g_iload_n X dX7_accept_96 97 rfl rfl ?_
        refine g_aload_n X dX7_accept_97 98 rfl rfl ?_
        refine g_get X FL_X7_9 dX7_accept_98 101 rfl 0 rfl (v := .ref (b 1)) rfl ?_
        refine g_iconst X dX7_accept_101 102 rfl (v := 0) rfl ?_
        refine g_ialdN (j := 0) (f := (upd (upd (μ 1) (231 + y) 2) (711 + j) (nI (y + 1)))) X dX7_accept_102 103 rfl 1 rfl (by omega) (by decide) ?_
        refine c_V X Lk_X7_86 (k_X7_lasts E l wr b (put (put μ 0 (sc 0)) 1 (upd (upd (μ 1) (231 + y) 2) (711 + j) (nI (y + 1)))) a σ j ((upd (upd (μ 1) (231 + y) 2) (711 + j) (nI (y + 1))) 0) v (MX.re (MX.ok hX (by omega)) (by omega) (by omega)) (by first | omega | assumption) ⟨q, hq, (show ow (upd (upd (μ 1) (231 + y) 2) (711 + j) (nI (y + 1))) ((upd (upd (μ 1) (231 + y) 2) (711 + j) (nI (y + 1))) (651 + j)) = nI q from by rw [pk_un (by omega), pk_un (by omega), ow_upd (by omega), ow_upd (by omega), h2, h3])⟩) dX7_accept_103 rfl 0 rfl rfl rfl (Nat.le_of_ble_eq_true rfl) ⟨(Nat.le_of_ble_eq_true rfl), (Nat.le_of_ble_eq_true rfl)⟩ ⟨(Nat.le_of_ble_eq_true rfl), (Nat.le_of_ble_eq_true rfl)⟩ 106 rfl [] rfl ?_
        refine g_aload_n X dX7_accept_106 107 rfl rfl ?_
        refine g_iconst X dX7_accept_107 108 rfl (v := 2) rfl ?_
        refine g_iload_n X dX7_accept_108 109 rfl rfl ?_
        refine c_V X Lk_X7_83 (k_X7_logs E l wr b (put (put μ 0 (sc 0)) 1 (mLs (upd (upd (μ 1) (231 + y) 2) (711 + j) (nI (y + 1))) j ((upd (upd (μ 1) (231 + y) 2) (711 + j) (nI (y + 1))) 0))) a σ 2 (nI y) hL) dX7_accept_109 rfl 0 rfl rfl rfl (Nat.le_of_ble_eq_true rfl) ⟨(Nat.le_of_ble_eq_true rfl), (Nat.le_of_ble_eq_true rfl)⟩ ⟨(Nat.le_of_ble_eq_true rfl), (Nat.le_of_ble_eq_true rfl)⟩ 112 rfl [] rfl ?_
        refine g_iload_n X dX7_accept_112 113 rfl rfl ?_
        exact g_iret X hr dX7_accept_113 () (show (some (.int (if acT (μ 1) (nI j) = 0 then (μ 1) (651 + ix (nI j)) else 0)) : Option Value) = some (.int (nI y)) from by simp [acT, acN, lgM, aC, ix, nI_clamp (show j < 2 ^ 31 by omega), h2, nI_clamp (show y < 2 ^ 31 by omega), h5, nI_clamp (show g3 < 2 ^ 31 by omega), c1, c2, c3]) (by refine WW_eq ?_ ?_ ?_ ?_ ?_ ?_; exact (show 0 = (acT (μ 1) (nI j)) from by simp [acT, acN, lgM, aC, ix, nI_clamp (show j < 2 ^ 31 by omega), h2, nI_clamp (show y < 2 ^ 31 by omega), h5, nI_clamp (show g3 < 2 ^ 31 by omega), c1, c2, c3]); exact (show (mLs (upd (upd (μ 1) (231 + y) 2) (711 + j) (nI (y + 1))) j ((upd (upd (μ 1) (231 + y) 2) (711 + j) (nI (y + 1))) 0)) = (if acT (μ 1) (nI j) = 0 then acN (μ 1) (ix (nI j)) else (μ 1)) from by simp [acT, acN, lgM, aC, ix, nI_clamp (show j < 2 ^ 31 by omega), h2, nI_clamp (show y < 2 ^ 31 by omega), h5, nI_clamp (show g3 < 2 ^ 31 by omega), c1, c2, c3]); exact (rfl : μ 2 = μ 2); exact (rfl : μ 3 0 = μ 3 0); exact (show (mLog (μ 4) (ix (lgN (μ 5 0))) 2 (nI y)) = (if acT (μ 1) (nI j) = 0 then lgM (μ 4) (μ 5 0) 2 ((μ 1) (651 + ix (nI j))) else (μ 4)) from by simp [acT, acN, lgM, aC, ix, nI_clamp (show j < 2 ^ 31 by omega), h2, nI_clamp (show y < 2 ^ 31 by omega), h5, nI_clamp (show g3 < 2 ^ 31 by omega), c1, c2, c3]); exact (show (lgN (μ 5 0)) = (if acT (μ 1) (nI j) = 0 then lgN (μ 5 0) else (μ 5 0)) from by simp [acT, acN, lgM, aC, ix, nI_clamp (show j < 2 ^ 31 by omega), h2, nI_clamp (show y < 2 ^ 31 by omega), h5, nI_clamp (show g3 < 2 ^ 31 by omega), c1, c2, c3]))
      · skip
        refine g_aload_n X dX7_accept_65 66 rfl rfl ?_
        refine g_iconst X dX7_accept_66 67 rfl (v := 3) rfl ?_
        refine c_V X Lk_X7_41 (k_X7_raises E l wr b (put μ 0 (sc 0)) a σ 3) dX7_accept_67 rfl 0 rfl rfl rfl (Nat.le_of_ble_eq_true rfl) ⟨(Nat.le_of_ble_eq_true rfl), (Nat.le_of_ble_eq_true rfl)⟩ ⟨(Nat.le_of_ble_eq_true rfl), (Nat.le_of_ble_eq_true rfl)⟩ 70 rfl [.int 0] rfl ?_
        exact g_iret X hr dX7_accept_70 () (show (some (.int (if acT (μ 1) (nI j) = 0 then (μ 1) (651 + ix (nI j)) else 0)) : Option Value) = some (.int 0) from by simp [acT, acN, lgM, aC, ix, nI_clamp (show j < 2 ^ 31 by omega), h2, nI_clamp (show y < 2 ^ 31 by omega), h5, nI_clamp (show g3 < 2 ^ 31 by omega), c1, c2, c3]) (by refine WW_eq ?_ ?_ ?_ ?_ ?_ ?_; exact (show 3 = (acT (μ 1) (nI j)) from by simp [acT, acN, lgM, aC, ix, nI_clamp (show j < 2 ^ 31 by omega), h2, nI_clamp (show y < 2 ^ 31 by omega), h5, nI_clamp (show g3 < 2 ^ 31 by omega), c1, c2, c3]); exact (show (μ 1) = (if acT (μ 1) (nI j) = 0 then acN (μ 1) (ix (nI j)) else (μ 1)) from by simp [acT, acN, lgM, aC, ix, nI_clamp (show j < 2 ^ 31 by omega), h2, nI_clamp (show y < 2 ^ 31 by omega), h5, nI_clamp (show g3 < 2 ^ 31 by omega), c1, c2, c3]); exact (rfl : μ 2 = μ 2); exact (rfl : μ 3 0 = μ 3 0); exact (show (μ 4) = (if acT (μ 1) (nI j) = 0 then lgM (μ 4) (μ 5 0) 2 ((μ 1) (651 + ix (nI j))) else (μ 4)) from by simp [acT, acN, lgM, aC, ix, nI_clamp (show j < 2 ^ 31 by omega), h2, nI_clamp (show y < 2 ^ 31 by omega), h5, nI_clamp (show g3 < 2 ^ 31 by omega), c1, c2, c3]); exact (show (μ 5 0) = (if acT (μ 1) (nI j) = 0 then lgN (μ 5 0) else (μ 5 0)) from by simp [acT, acN, lgM, aC, ix, nI_clamp (show j < 2 ^ 31 by omega), h2, nI_clamp (show y < 2 ^ 31 by omega), h5, nI_clamp (show g3 < 2 ^ 31 by omega), c1, c2, c3]))
    · skip
      refine g_aload_n X dX7_accept_32 33 rfl rfl ?_
      refine g_iconst X dX7_accept_33 34 rfl (v := 2) rfl ?_
      refine c_V X Lk_X7_41 (k_X7_raises E l wr b (put μ 0 (sc 0)) a σ 2) dX7_accept_34 rfl 0 rfl rfl rfl (Nat.le_of_ble_eq_true rfl) ⟨(Nat.le_of_ble_eq_true rfl), (Nat.le_of_ble_eq_true rfl)⟩ ⟨(Nat.le_of_ble_eq_true rfl), (Nat.le_of_ble_eq_true rfl)⟩ 37 rfl [.int 0] rfl ?_
      exact g_iret X hr dX7_accept_37 () (show (some (.int (if acT (μ 1) (nI j) = 0 then (μ 1) (651 + ix (nI j)) else 0)) : Option Value) = some (.int 0) from by simp [acT, acN, lgM, aC, ix, nI_clamp (show j < 2 ^ 31 by omega), c1, c2]) (by refine WW_eq ?_ ?_ ?_ ?_ ?_ ?_; exact (show 2 = (acT (μ 1) (nI j)) from by simp [acT, acN, lgM, aC, ix, nI_clamp (show j < 2 ^ 31 by omega), c1, c2]); exact (show (μ 1) = (if acT (μ 1) (nI j) = 0 then acN (μ 1) (ix (nI j)) else (μ 1)) from by simp [acT, acN, lgM, aC, ix, nI_clamp (show j < 2 ^ 31 by omega), c1, c2]); exact (rfl : μ 2 = μ 2); exact (rfl : μ 3 0 = μ 3 0); exact (show (μ 4) = (if acT (μ 1) (nI j) = 0 then lgM (μ 4) (μ 5 0) 2 ((μ 1) (651 + ix (nI j))) else (μ 4)) from by simp [acT, acN, lgM, aC, ix, nI_clamp (show j < 2 ^ 31 by omega), c1, c2]); exact (show (μ 5 0) = (if acT (μ 1) (nI j) = 0 then lgN (μ 5 0) else (μ 5 0)) from by simp [acT, acN, lgM, aC, ix, nI_clamp (show j < 2 ^ 31 by omega), c1, c2]))
  · skip
    refine g_aload_n X dX7_accept_12 13 rfl rfl ?_
    refine g_iconst X dX7_accept_13 14 rfl (v := 1) rfl ?_
    refine c_V X Lk_X7_41 (k_X7_raises E l wr b (put μ 0 (sc 0)) a σ 1) dX7_accept_14 rfl 0 rfl rfl rfl (Nat.le_of_ble_eq_true rfl) ⟨(Nat.le_of_ble_eq_true rfl), (Nat.le_of_ble_eq_true rfl)⟩ ⟨(Nat.le_of_ble_eq_true rfl), (Nat.le_of_ble_eq_true rfl)⟩ 17 rfl [.int 0] rfl ?_
    exact g_iret X hr dX7_accept_17 () (show (some (.int (if acT (μ 1) x = 0 then (μ 1) (651 + ix x) else 0)) : Option Value) = some (.int 0) from by simp [acT, acN, lgM, aC, c1]) (by refine WW_eq ?_ ?_ ?_ ?_ ?_ ?_; exact (show 1 = (acT (μ 1) x) from by simp [acT, acN, lgM, aC, c1]); exact (show (μ 1) = (if acT (μ 1) x = 0 then acN (μ 1) (ix x) else (μ 1)) from by simp [acT, acN, lgM, aC, c1]); exact (rfl : μ 2 = μ 2); exact (rfl : μ 3 0 = μ 3 0); exact (show (μ 4) = (if acT (μ 1) x = 0 then lgM (μ 4) (μ 5 0) 2 ((μ 1) (651 + ix x)) else (μ 4)) from by simp [acT, acN, lgM, aC, c1]); exact (show (μ 5 0) = (if acT (μ 1) x = 0 then lgN (μ 5 0) else (μ 5 0)) from by simp [acT, acN, lgM, aC, c1]))

set_option maxHeartbeats 4000000 in
set_option maxRecDepth 100000 in
theorem k_X7_release (E : kE) (l : Launch) (wr : va_W) (b : Nat → Nat) (μ : Sto) (a : Nat → Nat) (σ : Sto) (x : Int32) (v : Nat) (hX : MX (μ 1) v) (hL : LG (μ 5 0)) : KM E l yX7_release cX7_release 3 (some .int) 3 63 0 0 [.ref (b 0), .int x] (WW E b μ a σ wr) (some (.int (if lkL (μ 1) x ≤ 0 then (μ 1) (651 + ix x) else 0))) (WW E b (put (put (put (put μ 0 (sc (lkL (μ 1) x))) 1 (if lkL (μ 1) x ≤ 0 then rlN (μ 1) (ix x) else (μ 1))) 4 (if lkL (μ 1) x ≤ 0 then lgM (μ 4) (μ 5 0) 6 ((μ 1) (651 + ix x)) else (μ 4))) 5 (sc (if lkL (μ 1) x ≤ 0 then lgN (μ 5 0) else (μ 5 0)))) a σ wr) := by
  refine K_start (own := RX7) (by decide +kernel) rfl [(0, .ref (b 0)), (1, .int x)] rfl (Nat.le_of_ble_eq_true rfl) (fun p e s m below meth c X hr hin => ?_)
  refine g_aload_n X dX7_release_0 1 rfl rfl ?_
  refine g_aload_n X dX7_release_1 2 rfl rfl ?_
  refine g_iload_n X dX7_release_2 3 rfl rfl ?_
  refine c_V X Lk_X7_89 (k_X7_lacksLease E l wr b μ a σ x) dX7_release_3 rfl 0 rfl rfl rfl (Nat.le_of_ble_eq_true rfl) ⟨(Nat.le_of_ble_eq_true rfl), (Nat.le_of_ble_eq_true rfl)⟩ ⟨(Nat.le_of_ble_eq_true rfl), (Nat.le_of_ble_eq_true rfl)⟩ 6 rfl [.int (lkL (μ 1) x), .ref (b 0)] rfl ?_
  refine g_put X FL_X7_19 fk_X7 dX7_release_6 9 rfl rfl 0 rfl rfl rfl (Nat.le_of_ble_eq_true rfl) (WW E b (put μ 0 (sc (lkL (μ 1) x))) a σ wr) rfl ?_
  refine g_aload_n X dX7_release_9 10 rfl rfl ?_
  refine g_get X FL_X7_19 dX7_release_10 13 rfl 0 rfl (v := .int (lkL (μ 1) x)) rfl ?_
  refine g_if_le X dX7_release_13 18 16 rfl rfl (fun c1 => ?_) (fun c1 => ?_)
  · skip
    obtain ⟨j, hj, rfl, hb⟩ := lkL_ok c1
    refine g_aload_n X dX7_release_18 19 rfl rfl ?_
    refine g_get X FL_X7_9 dX7_release_19 22 rfl 0 rfl (v := .ref (b 1)) rfl ?_
    refine g_sipush X dX7_release_22 25 rfl (v := 651) rfl ?_
    refine g_iload_n X dX7_release_25 26 rfl rfl ?_
    refine g_iaddN X dX7_release_26 27 rfl 651 j rfl rfl ?_
    refine g_ialdN (j := (651 + j)) (f := (μ 1)) X dX7_release_27 28 rfl 1 rfl (by omega) (by decide) ?_
    obtain ⟨y, hy, h2⟩ := hX.ha j hj
    refine g_top (nI y) h2 ?_
    refine g_istore_n X dX7_release_28 29 rfl (by decide) [(2, .int (nI y)), (0, .ref (b 0)), (1, .int (nI j))] rfl ?_
    refine g_aload_n X dX7_release_29 30 rfl rfl ?_
    refine g_iload_n X dX7_release_30 31 rfl rfl ?_
    refine g_aload_n X dX7_release_31 32 rfl rfl ?_
    refine g_get X FL_X7_9 dX7_release_32 35 rfl 0 rfl (v := .ref (b 1)) rfl ?_
    refine g_iconst X dX7_release_35 36 rfl (v := 0) rfl ?_
    refine g_ialdN (j := 0) (f := (μ 1)) X dX7_release_36 37 rfl 1 rfl (by omega) (by decide) ?_
    refine c_V X Lk_X7_71 (k_X7_frees E l wr b (put μ 0 (sc (lkL (μ 1) (nI j)))) a σ y (μ 1 0) (by first | omega | assumption)) dX7_release_37 rfl 0 rfl rfl rfl (Nat.le_of_ble_eq_true rfl) ⟨(Nat.le_of_ble_eq_true rfl), (Nat.le_of_ble_eq_true rfl)⟩ ⟨(Nat.le_of_ble_eq_true rfl), (Nat.le_of_ble_eq_true rfl)⟩ 40 rfl [] rfl ?_
    refine g_aload_n X dX7_release_40 41 rfl rfl ?_
    refine g_get X FL_X7_9 dX7_release_41 44 rfl 0 rfl (v := .ref (b 1)) rfl ?_
    refine g_sipush X dX7_release_44 47 rfl (v := 631) rfl ?_
    refine g_iload_n X dX7_release_47 48 rfl rfl ?_
    refine g_iaddN X dX7_release_48 49 rfl 631 j rfl rfl ?_
    refine g_iconst X dX7_release_49 50 rfl (v := 0) rfl ?_
    refine g_iastN (j := (631 + j)) (f := (mFr (μ 1) y (μ 1 0))) X dX7_release_50 51 rfl 1 rfl (by omega) (by decide) (WW E b (put (put μ 0 (sc (lkL (μ 1) (nI j)))) 1 (upd (mFr (μ 1) y (μ 1 0)) (631 + j) 0)) a σ wr) rfl ?_
    refine g_aload_n X dX7_release_51 52 rfl rfl ?_
    refine g_bipush X dX7_release_52 54 rfl (v := 6) rfl ?_
    refine g_iload_n X dX7_release_54 55 rfl rfl ?_
    refine c_V X Lk_X7_83 (k_X7_logs E l wr b (put (put μ 0 (sc (lkL (μ 1) (nI j)))) 1 (upd (mFr (μ 1) y (μ 1 0)) (631 + j) 0)) a σ 6 (nI y) hL) dX7_release_55 rfl 0 rfl rfl rfl (Nat.le_of_ble_eq_true rfl) ⟨(Nat.le_of_ble_eq_true rfl), (Nat.le_of_ble_eq_true rfl)⟩ ⟨(Nat.le_of_ble_eq_true rfl), (Nat.le_of_ble_eq_true rfl)⟩ 58 rfl [] rfl ?_
    refine g_iload_n X dX7_release_58 59 rfl rfl ?_
    exact g_iret X hr dX7_release_59 () (show (some (.int (if lkL (μ 1) (nI j) ≤ 0 then (μ 1) (651 + ix (nI j)) else 0)) : Option Value) = some (.int (nI y)) from by simp [rlN, lgM, aC, ix, nI_clamp (show j < 2 ^ 31 by omega), h2, nI_clamp (show y < 2 ^ 31 by omega), c1]) (by refine WW_eq ?_ ?_ ?_ ?_ ?_ ?_; exact (rfl : (lkL (μ 1) (nI j)) = (lkL (μ 1) (nI j))); exact (show (upd (mFr (μ 1) y (μ 1 0)) (631 + j) 0) = (if lkL (μ 1) (nI j) ≤ 0 then rlN (μ 1) (ix (nI j)) else (μ 1)) from by simp [rlN, lgM, aC, ix, nI_clamp (show j < 2 ^ 31 by omega), h2, nI_clamp (show y < 2 ^ 31 by omega), c1]); exact (rfl : μ 2 = μ 2); exact (rfl : μ 3 0 = μ 3 0); exact (show (mLog (μ 4) (ix (lgN (μ 5 0))) 6 (nI y)) = (if lkL (μ 1) (nI j) ≤ 0 then lgM (μ 4) (μ 5 0) 6 ((μ 1) (651 + ix (nI j))) else (μ 4)) from by simp [rlN, lgM, aC, ix, nI_clamp (show j < 2 ^ 31 by omega), h2, nI_clamp (show y < 2 ^ 31 by omega), c1]); exact (show (lgN (μ 5 0)) = (if lkL (μ 1) (nI j) ≤ 0 then lgN (μ 5 0) else (μ 5 0)) from by simp [rlN, lgM, aC, ix, nI_clamp (show j < 2 ^ 31 by omega), h2, nI_clamp (show y < 2 ^ 31 by omega), c1]))
  · skip
    refine g_iconst X dX7_release_16 17 rfl (v := 0) rfl ?_
    exact g_iret X hr dX7_release_17 () (show (some (.int (if lkL (μ 1) x ≤ 0 then (μ 1) (651 + ix x) else 0)) : Option Value) = some (.int 0) from by simp [rlN, lgM, aC, c1]) (by refine WW_eq ?_ ?_ ?_ ?_ ?_ ?_; exact (rfl : (lkL (μ 1) x) = (lkL (μ 1) x)); exact (show (μ 1) = (if lkL (μ 1) x ≤ 0 then rlN (μ 1) (ix x) else (μ 1)) from by simp [rlN, lgM, aC, c1]); exact (rfl : μ 2 = μ 2); exact (rfl : μ 3 0 = μ 3 0); exact (show (μ 4) = (if lkL (μ 1) x ≤ 0 then lgM (μ 4) (μ 5 0) 6 ((μ 1) (651 + ix x)) else (μ 4)) from by simp [rlN, lgM, aC, c1]); exact (show (μ 5 0) = (if lkL (μ 1) x ≤ 0 then lgN (μ 5 0) else (μ 5 0)) from by simp [rlN, lgM, aC, c1]))

set_option maxHeartbeats 4000000 in
set_option maxRecDepth 100000 in
theorem k_X7_decline (E : kE) (l : Launch) (wr : va_W) (b : Nat → Nat) (μ : Sto) (a : Nat → Nat) (σ : Sto) (x : Int32) (v : Nat) (hX : MX (μ 1) v) (hL : LG (μ 5 0)) : KM E l yX7_decline cX7_decline 3 (some .int) 3 63 0 0 [.ref (b 0), .int x] (WW E b μ a σ wr) (some (.int (if lkL (μ 1) x ≤ 0 then (μ 1) (651 + ix x) else 0))) (WW E b (put (put (put (put μ 0 (sc (lkL (μ 1) x))) 1 (if lkL (μ 1) x ≤ 0 then dcN (μ 1) (ix x) else (μ 1))) 4 (if lkL (μ 1) x ≤ 0 then lgM (μ 4) (μ 5 0) 7 ((μ 1) (651 + ix x)) else (μ 4))) 5 (sc (if lkL (μ 1) x ≤ 0 then lgN (μ 5 0) else (μ 5 0)))) a σ wr) := by
  refine K_start (own := RX7) (by decide +kernel) rfl [(0, .ref (b 0)), (1, .int x)] rfl (Nat.le_of_ble_eq_true rfl) (fun p e s m below meth c X hr hin => ?_)
  refine g_aload_n X dX7_decline_0 1 rfl rfl ?_
  refine g_aload_n X dX7_decline_1 2 rfl rfl ?_
  refine g_iload_n X dX7_decline_2 3 rfl rfl ?_
  refine c_V X Lk_X7_89 (k_X7_lacksLease E l wr b μ a σ x) dX7_decline_3 rfl 0 rfl rfl rfl (Nat.le_of_ble_eq_true rfl) ⟨(Nat.le_of_ble_eq_true rfl), (Nat.le_of_ble_eq_true rfl)⟩ ⟨(Nat.le_of_ble_eq_true rfl), (Nat.le_of_ble_eq_true rfl)⟩ 6 rfl [.int (lkL (μ 1) x), .ref (b 0)] rfl ?_
  refine g_put X FL_X7_19 fk_X7 dX7_decline_6 9 rfl rfl 0 rfl rfl rfl (Nat.le_of_ble_eq_true rfl) (WW E b (put μ 0 (sc (lkL (μ 1) x))) a σ wr) rfl ?_
  refine g_aload_n X dX7_decline_9 10 rfl rfl ?_
  refine g_get X FL_X7_19 dX7_decline_10 13 rfl 0 rfl (v := .int (lkL (μ 1) x)) rfl ?_
  refine g_if_le X dX7_decline_13 18 16 rfl rfl (fun c1 => ?_) (fun c1 => ?_)
  · skip
    obtain ⟨j, hj, rfl, hb⟩ := lkL_ok c1
    refine g_aload_n X dX7_decline_18 19 rfl rfl ?_
    refine g_get X FL_X7_9 dX7_decline_19 22 rfl 0 rfl (v := .ref (b 1)) rfl ?_
    refine g_sipush X dX7_decline_22 25 rfl (v := 651) rfl ?_
    refine g_iload_n X dX7_decline_25 26 rfl rfl ?_
    refine g_iaddN X dX7_decline_26 27 rfl 651 j rfl rfl ?_
    refine g_ialdN (j := (651 + j)) (f := (μ 1)) X dX7_decline_27 28 rfl 1 rfl (by omega) (by decide) ?_
    obtain ⟨y, hy, h2⟩ := hX.ha j hj
    refine g_top (nI y) h2 ?_
    refine g_istore_n X dX7_decline_28 29 rfl (by decide) [(2, .int (nI y)), (0, .ref (b 0)), (1, .int (nI j))] rfl ?_
    refine g_aload_n X dX7_decline_29 30 rfl rfl ?_
    refine g_iload_n X dX7_decline_30 31 rfl rfl ?_
    refine c_V X Lk_X7_79 (k_X7_declines E l wr b (put μ 0 (sc (lkL (μ 1) (nI j)))) a σ y (by first | omega | assumption)) dX7_decline_31 rfl 0 rfl rfl rfl (Nat.le_of_ble_eq_true rfl) ⟨(Nat.le_of_ble_eq_true rfl), (Nat.le_of_ble_eq_true rfl)⟩ ⟨(Nat.le_of_ble_eq_true rfl), (Nat.le_of_ble_eq_true rfl)⟩ 34 rfl [] rfl ?_
    refine g_aload_n X dX7_decline_34 35 rfl rfl ?_
    refine g_get X FL_X7_9 dX7_decline_35 38 rfl 0 rfl (v := .ref (b 1)) rfl ?_
    refine g_sipush X dX7_decline_38 41 rfl (v := 631) rfl ?_
    refine g_iload_n X dX7_decline_41 42 rfl rfl ?_
    refine g_iaddN X dX7_decline_42 43 rfl 631 j rfl rfl ?_
    refine g_iconst X dX7_decline_43 44 rfl (v := 0) rfl ?_
    refine g_iastN (j := (631 + j)) (f := (mDe (μ 1) y)) X dX7_decline_44 45 rfl 1 rfl (by omega) (by decide) (WW E b (put (put μ 0 (sc (lkL (μ 1) (nI j)))) 1 (upd (mDe (μ 1) y) (631 + j) 0)) a σ wr) rfl ?_
    refine g_aload_n X dX7_decline_45 46 rfl rfl ?_
    refine g_get X FL_X7_9 dX7_decline_46 49 rfl 0 rfl (v := .ref (b 1)) rfl ?_
    refine g_sipush X dX7_decline_49 52 rfl (v := 711) rfl ?_
    refine g_iload_n X dX7_decline_52 53 rfl rfl ?_
    refine g_iaddN X dX7_decline_53 54 rfl 711 j rfl rfl ?_
    refine g_iconst X dX7_decline_54 55 rfl (v := 0) rfl ?_
    refine g_iastN (j := (711 + j)) (f := (upd (mDe (μ 1) y) (631 + j) 0)) X dX7_decline_55 56 rfl 1 rfl (by omega) (by decide) (WW E b (put (put μ 0 (sc (lkL (μ 1) (nI j)))) 1 (upd (upd (mDe (μ 1) y) (631 + j) 0) (711 + j) 0)) a σ wr) rfl ?_
    refine g_aload_n X dX7_decline_56 57 rfl rfl ?_
    refine g_bipush X dX7_decline_57 59 rfl (v := 7) rfl ?_
    refine g_iload_n X dX7_decline_59 60 rfl rfl ?_
    refine c_V X Lk_X7_83 (k_X7_logs E l wr b (put (put μ 0 (sc (lkL (μ 1) (nI j)))) 1 (upd (upd (mDe (μ 1) y) (631 + j) 0) (711 + j) 0)) a σ 7 (nI y) hL) dX7_decline_60 rfl 0 rfl rfl rfl (Nat.le_of_ble_eq_true rfl) ⟨(Nat.le_of_ble_eq_true rfl), (Nat.le_of_ble_eq_true rfl)⟩ ⟨(Nat.le_of_ble_eq_true rfl), (Nat.le_of_ble_eq_true rfl)⟩ 63 rfl [] rfl ?_
    refine g_iload_n X dX7_decline_63 64 rfl rfl ?_
    exact g_iret X hr dX7_decline_64 () (show (some (.int (if lkL (μ 1) (nI j) ≤ 0 then (μ 1) (651 + ix (nI j)) else 0)) : Option Value) = some (.int (nI y)) from by simp [dcN, lgM, aC, ix, nI_clamp (show j < 2 ^ 31 by omega), h2, nI_clamp (show y < 2 ^ 31 by omega), c1]) (by refine WW_eq ?_ ?_ ?_ ?_ ?_ ?_; exact (rfl : (lkL (μ 1) (nI j)) = (lkL (μ 1) (nI j))); exact (show (upd (upd (mDe (μ 1) y) (631 + j) 0) (711 + j) 0) = (if lkL (μ 1) (nI j) ≤ 0 then dcN (μ 1) (ix (nI j)) else (μ 1)) from by simp [dcN, lgM, aC, ix, nI_clamp (show j < 2 ^ 31 by omega), h2, nI_clamp (show y < 2 ^ 31 by omega), c1]); exact (rfl : μ 2 = μ 2); exact (rfl : μ 3 0 = μ 3 0); exact (show (mLog (μ 4) (ix (lgN (μ 5 0))) 7 (nI y)) = (if lkL (μ 1) (nI j) ≤ 0 then lgM (μ 4) (μ 5 0) 7 ((μ 1) (651 + ix (nI j))) else (μ 4)) from by simp [dcN, lgM, aC, ix, nI_clamp (show j < 2 ^ 31 by omega), h2, nI_clamp (show y < 2 ^ 31 by omega), c1]); exact (show (lgN (μ 5 0)) = (if lkL (μ 1) (nI j) ≤ 0 then lgN (μ 5 0) else (μ 5 0)) from by simp [dcN, lgM, aC, ix, nI_clamp (show j < 2 ^ 31 by omega), h2, nI_clamp (show y < 2 ^ 31 by omega), c1]))
  · skip
    refine g_iconst X dX7_decline_16 17 rfl (v := 0) rfl ?_
    exact g_iret X hr dX7_decline_17 () (show (some (.int (if lkL (μ 1) x ≤ 0 then (μ 1) (651 + ix x) else 0)) : Option Value) = some (.int 0) from by simp [dcN, lgM, aC, c1]) (by refine WW_eq ?_ ?_ ?_ ?_ ?_ ?_; exact (rfl : (lkL (μ 1) x) = (lkL (μ 1) x)); exact (show (μ 1) = (if lkL (μ 1) x ≤ 0 then dcN (μ 1) (ix x) else (μ 1)) from by simp [dcN, lgM, aC, c1]); exact (rfl : μ 2 = μ 2); exact (rfl : μ 3 0 = μ 3 0); exact (show (μ 4) = (if lkL (μ 1) x ≤ 0 then lgM (μ 4) (μ 5 0) 7 ((μ 1) (651 + ix x)) else (μ 4)) from by simp [dcN, lgM, aC, c1]); exact (show (μ 5 0) = (if lkL (μ 1) x ≤ 0 then lgN (μ 5 0) else (μ 5 0)) from by simp [dcN, lgM, aC, c1]))

set_option maxHeartbeats 4000000 in
set_option maxRecDepth 100000 in
theorem k_X7_renew (E : kE) (l : Launch) (wr : va_W) (b : Nat → Nat) (μ : Sto) (a : Nat → Nat) (σ : Sto) (x : Int32) (v : Nat) (hX : MX (μ 1) v) (hO : OKO (μ 1) v) (hL : LG (μ 5 0)) : KM E l yX7_renew cX7_renew 2 (some .boolean) 4 91 0 0 [.ref (b 0), .int x] (WW E b μ a σ wr) (some (.int (bi (rwB (μ 1) x && !rnB (μ 1) (ix x))))) (WW E b (put (put (put (put μ 0 (sc (rwT (μ 1) x))) 1 (if rwB (μ 1) x = true then rnN (μ 1) (ix x) ((μ 1) 0) else (μ 1))) 4 (if rwB (μ 1) x = true then lgM (μ 4) (μ 5 0) (rnK (μ 1) (ix x)) ((μ 1) (651 + ix x)) else (μ 4))) 5 (sc (if rwB (μ 1) x = true then lgN (μ 5 0) else (μ 5 0)))) a σ wr) := by
  refine K_start (own := RX7) (by decide +kernel) rfl [(0, .ref (b 0)), (1, .int x)] rfl (Nat.le_of_ble_eq_true rfl) (fun p e s m below meth c X hr hin => ?_)
  refine g_aload_n X dX7_renew_0 1 rfl rfl ?_
  refine g_aload_n X dX7_renew_1 2 rfl rfl ?_
  refine g_iload_n X dX7_renew_2 3 rfl rfl ?_
  refine c_V X Lk_X7_89 (k_X7_lacksLease E l wr b μ a σ x) dX7_renew_3 rfl 0 rfl rfl rfl (Nat.le_of_ble_eq_true rfl) ⟨(Nat.le_of_ble_eq_true rfl), (Nat.le_of_ble_eq_true rfl)⟩ ⟨(Nat.le_of_ble_eq_true rfl), (Nat.le_of_ble_eq_true rfl)⟩ 6 rfl [.int (lkL (μ 1) x), .ref (b 0)] rfl ?_
  refine g_put X FL_X7_19 fk_X7 dX7_renew_6 9 rfl rfl 0 rfl rfl rfl (Nat.le_of_ble_eq_true rfl) (WW E b (put μ 0 (sc (lkL (μ 1) x))) a σ wr) rfl ?_
  refine g_aload_n X dX7_renew_9 10 rfl rfl ?_
  refine g_get X FL_X7_19 dX7_renew_10 13 rfl 0 rfl (v := .int (lkL (μ 1) x)) rfl ?_
  refine g_if_le X dX7_renew_13 18 16 rfl rfl (fun c1 => ?_) (fun c1 => ?_)
  · skip
    obtain ⟨j, hj, rfl, hb⟩ := lkL_ok c1
    have h0 := lkL_0 hj hb
    rw [h0]
    refine g_aload_n X dX7_renew_18 19 rfl rfl ?_
    refine g_get X FL_X7_9 dX7_renew_19 22 rfl 0 rfl (v := .ref (b 1)) rfl ?_
    refine g_bipush X dX7_renew_22 24 rfl (v := 25) rfl ?_
    refine g_aload_n X dX7_renew_24 25 rfl rfl ?_
    refine g_aload_n X dX7_renew_25 26 rfl rfl ?_
    refine g_get X FL_X7_9 dX7_renew_26 29 rfl 0 rfl (v := .ref (b 1)) rfl ?_
    refine g_sipush X dX7_renew_29 32 rfl (v := 651) rfl ?_
    refine g_iload_n X dX7_renew_32 33 rfl rfl ?_
    refine g_iaddN X dX7_renew_33 34 rfl 651 j rfl rfl ?_
    refine g_ialdN (j := (651 + j)) (f := (μ 1)) X dX7_renew_34 35 rfl 1 rfl (by omega) (by decide) ?_
    obtain ⟨y, hy, h2⟩ := hX.ha j hj
    refine g_top (nI y) h2 ?_
    refine c_V X Lk_X7_50 (k_X7_groupOf E l wr b (put μ 0 (sc 0)) a σ (nI y) v hX) dX7_renew_35 rfl 0 rfl rfl rfl (Nat.le_of_ble_eq_true rfl) ⟨(Nat.le_of_ble_eq_true rfl), (Nat.le_of_ble_eq_true rfl)⟩ ⟨(Nat.le_of_ble_eq_true rfl), (Nat.le_of_ble_eq_true rfl)⟩ 38 rfl [.int (gr (μ 1) (nI y)), .int 25, .ref (b 1)] rfl ?_
    obtain ⟨q, hq, h3⟩ := hO j hj (fun h => by simp [bdM, h] at hb)
    rw [h2] at h3
    obtain ⟨g3, hg3, h4⟩ := hX.hg q hq
    have h5 := gr_of h3 (by have := hX.hv; omega) h4
    refine g_top (nI g3) h5 ?_
    refine g_iaddN X dX7_renew_38 39 rfl 25 g3 rfl rfl ?_
    refine g_ialdN (j := (25 + g3)) (f := (μ 1)) X dX7_renew_39 40 rfl 1 rfl (by omega) (by decide) ?_
    refine g_if_ne X dX7_renew_40 48 43 rfl rfl (fun c2 => ?_) (fun c2 => ?_)
    · skip
      refine g_aload_n X dX7_renew_48 49 rfl rfl ?_
      refine g_get X FL_X7_19 dX7_renew_49 52 rfl 0 rfl (v := .int 0) rfl ?_
      refine g_if_ne X dX7_renew_52 73 55 rfl rfl (fun c3 => absurd c3 (by decide)) (fun c3 => ?_)
      refine g_aload_n X dX7_renew_55 56 rfl rfl ?_
      refine g_iload_n X dX7_renew_56 57 rfl rfl ?_
      refine g_aload_n X dX7_renew_57 58 rfl rfl ?_
      refine g_get X FL_X7_9 dX7_renew_58 61 rfl 0 rfl (v := .ref (b 1)) rfl ?_
      refine g_iconst X dX7_renew_61 62 rfl (v := 0) rfl ?_
      refine g_ialdN (j := 0) (f := (μ 1)) X dX7_renew_62 63 rfl 1 rfl (by omega) (by decide) ?_
      refine c_V X Lk_X7_92 (k_X7_renews E l wr b (put μ 0 (sc 0)) a σ j (μ 1 0) v hX (by first | omega | assumption) ⟨q, hq, (show ow (μ 1) ((μ 1) (651 + j)) = nI q from by rw [h2, h3])⟩ hL) dX7_renew_63 rfl 0 rfl rfl rfl (Nat.le_of_ble_eq_true rfl) ⟨(Nat.le_of_ble_eq_true rfl), (Nat.le_of_ble_eq_true rfl)⟩ ⟨(Nat.le_of_ble_eq_true rfl), (Nat.le_of_ble_eq_true rfl)⟩ 66 rfl [.int (bi (!rnB (μ 1) j))] rfl ?_
      refine g_ifb_eq X dX7_renew_66 73 69 rfl rfl (fun c4 => ?_) (fun c4 => ?_)
      · skip
        refine g_iconst X dX7_renew_73 74 rfl (v := 0) rfl ?_
        exact g_zret X hr dX7_renew_74 false rfl () (show (some (.int (bi (rwB (μ 1) (nI j) && !rnB (μ 1) (ix (nI j))))) : Option Value) = some (.int (bi false)) from by simp [rwT, rwB, bi, ix, nI_clamp (show j < 2 ^ 31 by omega), h2, nI_clamp (show y < 2 ^ 31 by omega), h5, nI_clamp (show g3 < 2 ^ 31 by omega), h0, c1, c2, c4]) (by refine WW_eq ?_ ?_ ?_ ?_ ?_ ?_; exact (show 0 = (rwT (μ 1) (nI j)) from by simp [rwT, rwB, bi, ix, nI_clamp (show j < 2 ^ 31 by omega), h2, nI_clamp (show y < 2 ^ 31 by omega), h5, nI_clamp (show g3 < 2 ^ 31 by omega), h0, c1, c2, c4]); exact (show (rnN (μ 1) j (μ 1 0)) = (if rwB (μ 1) (nI j) = true then rnN (μ 1) (ix (nI j)) ((μ 1) 0) else (μ 1)) from by simp [rwT, rwB, bi, ix, nI_clamp (show j < 2 ^ 31 by omega), h2, nI_clamp (show y < 2 ^ 31 by omega), h5, nI_clamp (show g3 < 2 ^ 31 by omega), h0, c1, c2, c4]); exact (rfl : μ 2 = μ 2); exact (rfl : μ 3 0 = μ 3 0); exact (show (lgM (μ 4) (μ 5 0) (rnK (μ 1) j) ((μ 1) (651 + j))) = (if rwB (μ 1) (nI j) = true then lgM (μ 4) (μ 5 0) (rnK (μ 1) (ix (nI j))) ((μ 1) (651 + ix (nI j))) else (μ 4)) from by simp [rwT, rwB, bi, ix, nI_clamp (show j < 2 ^ 31 by omega), h2, nI_clamp (show y < 2 ^ 31 by omega), h5, nI_clamp (show g3 < 2 ^ 31 by omega), h0, c1, c2, c4]); exact (show (lgN (μ 5 0)) = (if rwB (μ 1) (nI j) = true then lgN (μ 5 0) else (μ 5 0)) from by simp [rwT, rwB, bi, ix, nI_clamp (show j < 2 ^ 31 by omega), h2, nI_clamp (show y < 2 ^ 31 by omega), h5, nI_clamp (show g3 < 2 ^ 31 by omega), h0, c1, c2, c4]))
      · skip
        refine g_iconst X dX7_renew_69 70 rfl (v := 1) rfl ?_
        refine g_goto X dX7_renew_70 74 rfl ?_
        exact g_zret X hr dX7_renew_74 true rfl () (show (some (.int (bi (rwB (μ 1) (nI j) && !rnB (μ 1) (ix (nI j))))) : Option Value) = some (.int (bi true)) from by simp [rwT, rwB, bi, ix, nI_clamp (show j < 2 ^ 31 by omega), h2, nI_clamp (show y < 2 ^ 31 by omega), h5, nI_clamp (show g3 < 2 ^ 31 by omega), h0, c1, c2, c4]) (by refine WW_eq ?_ ?_ ?_ ?_ ?_ ?_; exact (show 0 = (rwT (μ 1) (nI j)) from by simp [rwT, rwB, bi, ix, nI_clamp (show j < 2 ^ 31 by omega), h2, nI_clamp (show y < 2 ^ 31 by omega), h5, nI_clamp (show g3 < 2 ^ 31 by omega), h0, c1, c2, c4]); exact (show (rnN (μ 1) j (μ 1 0)) = (if rwB (μ 1) (nI j) = true then rnN (μ 1) (ix (nI j)) ((μ 1) 0) else (μ 1)) from by simp [rwT, rwB, bi, ix, nI_clamp (show j < 2 ^ 31 by omega), h2, nI_clamp (show y < 2 ^ 31 by omega), h5, nI_clamp (show g3 < 2 ^ 31 by omega), h0, c1, c2, c4]); exact (rfl : μ 2 = μ 2); exact (rfl : μ 3 0 = μ 3 0); exact (show (lgM (μ 4) (μ 5 0) (rnK (μ 1) j) ((μ 1) (651 + j))) = (if rwB (μ 1) (nI j) = true then lgM (μ 4) (μ 5 0) (rnK (μ 1) (ix (nI j))) ((μ 1) (651 + ix (nI j))) else (μ 4)) from by simp [rwT, rwB, bi, ix, nI_clamp (show j < 2 ^ 31 by omega), h2, nI_clamp (show y < 2 ^ 31 by omega), h5, nI_clamp (show g3 < 2 ^ 31 by omega), h0, c1, c2, c4]); exact (show (lgN (μ 5 0)) = (if rwB (μ 1) (nI j) = true then lgN (μ 5 0) else (μ 5 0)) from by simp [rwT, rwB, bi, ix, nI_clamp (show j < 2 ^ 31 by omega), h2, nI_clamp (show y < 2 ^ 31 by omega), h5, nI_clamp (show g3 < 2 ^ 31 by omega), h0, c1, c2, c4]))
    · skip
      refine g_aload_n X dX7_renew_43 44 rfl rfl ?_
      refine g_iconst X dX7_renew_44 45 rfl (v := 3) rfl ?_
      refine g_put X FL_X7_19 fk_X7 dX7_renew_45 48 rfl rfl 0 rfl rfl rfl (Nat.le_of_ble_eq_true rfl) (WW E b (put μ 0 (sc 3)) a σ wr) rfl ?_
      refine g_aload_n X dX7_renew_48 49 rfl rfl ?_
      refine g_get X FL_X7_19 dX7_renew_49 52 rfl 0 rfl (v := .int 3) rfl ?_
      refine g_if_ne X dX7_renew_52 73 55 rfl rfl (fun c5 => ?_) (fun c5 => absurd c5 (by decide))
      refine g_iconst X dX7_renew_73 74 rfl (v := 0) rfl ?_
      exact g_zret X hr dX7_renew_74 false rfl () (show (some (.int (bi (rwB (μ 1) (nI j) && !rnB (μ 1) (ix (nI j))))) : Option Value) = some (.int (bi false)) from by simp [rwT, rwB, bi, ix, nI_clamp (show j < 2 ^ 31 by omega), h2, nI_clamp (show y < 2 ^ 31 by omega), h5, nI_clamp (show g3 < 2 ^ 31 by omega), h0, c1, c2]) (by refine WW_eq ?_ ?_ ?_ ?_ ?_ ?_; exact (show 3 = (rwT (μ 1) (nI j)) from by simp [rwT, rwB, bi, ix, nI_clamp (show j < 2 ^ 31 by omega), h2, nI_clamp (show y < 2 ^ 31 by omega), h5, nI_clamp (show g3 < 2 ^ 31 by omega), h0, c1, c2]); exact (show (μ 1) = (if rwB (μ 1) (nI j) = true then rnN (μ 1) (ix (nI j)) ((μ 1) 0) else (μ 1)) from by simp [rwT, rwB, bi, ix, nI_clamp (show j < 2 ^ 31 by omega), h2, nI_clamp (show y < 2 ^ 31 by omega), h5, nI_clamp (show g3 < 2 ^ 31 by omega), h0, c1, c2]); exact (rfl : μ 2 = μ 2); exact (rfl : μ 3 0 = μ 3 0); exact (show (μ 4) = (if rwB (μ 1) (nI j) = true then lgM (μ 4) (μ 5 0) (rnK (μ 1) (ix (nI j))) ((μ 1) (651 + ix (nI j))) else (μ 4)) from by simp [rwT, rwB, bi, ix, nI_clamp (show j < 2 ^ 31 by omega), h2, nI_clamp (show y < 2 ^ 31 by omega), h5, nI_clamp (show g3 < 2 ^ 31 by omega), h0, c1, c2]); exact (show (μ 5 0) = (if rwB (μ 1) (nI j) = true then lgN (μ 5 0) else (μ 5 0)) from by simp [rwT, rwB, bi, ix, nI_clamp (show j < 2 ^ 31 by omega), h2, nI_clamp (show y < 2 ^ 31 by omega), h5, nI_clamp (show g3 < 2 ^ 31 by omega), h0, c1, c2]))
  · skip
    refine g_iconst X dX7_renew_16 17 rfl (v := 0) rfl ?_
    exact g_zret X hr dX7_renew_17 false rfl () (show (some (.int (bi (rwB (μ 1) x && !rnB (μ 1) (ix x)))) : Option Value) = some (.int (bi false)) from by simp [rwT, rwB, bi, c1]) (by refine WW_eq ?_ ?_ ?_ ?_ ?_ ?_; exact (show (lkL (μ 1) x) = (rwT (μ 1) x) from by simp [rwT, rwB, bi, c1]); exact (show (μ 1) = (if rwB (μ 1) x = true then rnN (μ 1) (ix x) ((μ 1) 0) else (μ 1)) from by simp [rwT, rwB, bi, c1]); exact (rfl : μ 2 = μ 2); exact (rfl : μ 3 0 = μ 3 0); exact (show (μ 4) = (if rwB (μ 1) x = true then lgM (μ 4) (μ 5 0) (rnK (μ 1) (ix x)) ((μ 1) (651 + ix x)) else (μ 4)) from by simp [rwT, rwB, bi, c1]); exact (show (μ 5 0) = (if rwB (μ 1) x = true then lgN (μ 5 0) else (μ 5 0)) from by simp [rwT, rwB, bi, c1]))
