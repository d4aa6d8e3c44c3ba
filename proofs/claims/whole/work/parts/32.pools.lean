section PL9
variable {σ : Sto} {N N' f : Nat → Int32} {n : Int32} {v T lb c j : Nat} {g x y d : Int32}
theorem CL.keepP (h : CL N T lb c) (hs : ∀ j, j < 100 → ¬ N (231 + j) = 0 → iP N j → iP N' j) (h1 : N' (631 + c) = N (631 + c)) (h2 : N' (651 + c) = N (651 + c)) (h3 : N' (671 + c) = N (671 + c)) (h4 : N' (691 + c) = N (691 + c)) (h5 : N' (711 + c) = N (711 + c))
    (hj : ∀ j, j < 100 → N (651 + c) = nI j → N (331 + j) = nI c → ¬ N (231 + j) = 0 → ¬ N (231 + j) = 3 → N' (331 + j) = N (331 + j) ∧ N' (431 + j) = N (431 + j) ∧ N' (231 + j) = N (231 + j)) : CL N' T lb c := by
  rcases h with h | ⟨j, u, b1, b2, b3, b4, b5, b6, b7, h⟩
  · exact Or.inl (h1.trans h)
  · have h8 : ¬ N (231 + j) = 0 ∧ ¬ N (231 + j) = 3 := by
      rcases h with ⟨-, e⟩ | ⟨e, -⟩ <;> rw [e] <;> decide
    obtain ⟨e1, e2, e3⟩ := hj j b1 b2 b3 h8.1 h8.2
    refine Or.inr ⟨j, u, b1, h2.trans b2, e1.trans b3, hs j b1 h8.1 b4, e2.trans b5, b6, b7, ?_⟩
    rw [h1, h3, h4, h5, e3]
    exact h
theorem AD.keepP (h : AD N T lb j) (hj : j < 100) (hs : ∀ j, j < 100 → ¬ N (231 + j) = 0 → iP N j → iP N' j) (h1 : N' (231 + j) = N (231 + j)) (h2 : N' (431 + j) = N (431 + j)) (h3 : N' (331 + j) = N (331 + j))
    (hc : ∀ c, c < 20 → N (331 + j) = nI c → ¬ N (631 + c) = 0 → N (651 + c) = nI j → ¬ N' (631 + c) = 0 ∧ N' (651 + c) = N (651 + c)) : AD N' T lb j := by
  rcases h with h | ⟨b1, b2, u, b3, b4, b5⟩ | ⟨b1, c, b2, b3, b4, b5⟩
  · exact Or.inl (h1.trans h)
  · exact Or.inr (Or.inl ⟨h1.trans b1, hs j hj (by rw [b1]; decide) b2, u, h2.trans b3, b4, b5⟩)
  · obtain ⟨e1, e2⟩ := hc c b2 b3 b4 b5
    exact Or.inr (Or.inr ⟨by rw [h1]; exact b1, c, b2, h3.trans b3, e1, e2.trans b5⟩)
-- add
theorem ovL_iff (h : R1 σ N v) (hp : PO N v) {a b : Nat} (hb : b < 100) (ha : a < 100) : ∀ r i, i + r = 5 → (ovL σ (nI a) (nI b) i r = true ↔ ∃ p, i ≤ p ∧ p < v ∧ pf N p ≤ b ∧ a ≤ pt N p)
  | 0, i, hi => ⟨fun q => absurd (show false = true from q) (by decide), fun ⟨p, h1, h2, _⟩ => by have := hp.1; omega⟩
  | r + 1, i, hi => by
    unfold ovL
    rw [h.c0]
    by_cases h1 : N 4 ≤ nI i
    · rw [if_pos h1]
      exact ⟨fun q => absurd q (by decide), fun ⟨p, a1, a2, _⟩ => absurd h1 (hp.nle (by omega))⟩
    · have hiv := hp.lt (by omega) h1
      obtain ⟨-, -, e1, e2, e3, e4, -⟩ := hp.2.2.1 i hiv
      have ih := ovL_iff h hp hb ha r (i + 1) (by omega)
      rw [if_neg h1, h.c2 hiv, h.c3 hiv, e1, e2]
      by_cases q1 : b < pf N i
      · rw [if_pos (nI_lt q1 (by omega)), ih]
        exact ⟨fun ⟨p, a1, a2, a3⟩ => ⟨p, by omega, a2, a3⟩, fun ⟨p, a1, a2, a3⟩ => ⟨p, by rcases Nat.lt_or_ge i p with z | z; exact z; (have : p = i := by omega); subst this; omega, a2, a3⟩⟩
      · rw [if_neg (nI_nlt (by omega) (by omega))]
        by_cases q2 : pt N i < a
        · rw [if_pos (nI_lt q2 (by omega)), ih]
          exact ⟨fun ⟨p, a1, a2, a3⟩ => ⟨p, by omega, a2, a3⟩, fun ⟨p, a1, a2, a3⟩ => ⟨p, by rcases Nat.lt_or_ge i p with z | z; exact z; (have : p = i := by omega); subst this; omega, a2, a3⟩⟩
        · rw [if_neg (nI_nlt (by omega) (by omega))]
          exact ⟨fun _ => ⟨i, Nat.le_refl i, hiv, by omega, by omega⟩, fun _ => rfl⟩
theorem oaL_iff (hp : PO N v) {b : Nat} (hb : b < 100) : ∀ r i, i + r = 100 → (oaL N (nI b) i r = true ↔ ∃ j, i ≤ j ∧ j ≤ b ∧ iP N j)
  | 0, i, hi => ⟨fun q => absurd (show false = true from q) (by decide), fun ⟨j, h1, h2, _⟩ => by omega⟩
  | r + 1, i, hi => by
    by_cases q : b < i
    · rw [oaL_n (nI_lt q (by omega))]
      exact ⟨fun q => absurd q (by decide), fun ⟨j, h1, h2, _⟩ => by omega⟩
    · by_cases h2 : ow N (nI i) < 0
      · rw [oaL_s (nI_nlt (by omega) (by omega)) h2, oaL_iff hp hb r (i + 1) (by omega)]
        refine ⟨fun ⟨j, a1, a2, a3⟩ => ⟨j, by omega, a2, a3⟩, fun ⟨j, a1, a2, a3⟩ => ⟨j, ?_, a2, a3⟩⟩
        rcases Nat.lt_or_ge i j with z | z
        · exact z
        · have : j = i := by omega
          subst this
          exact absurd h2 (Int32.not_lt.mpr a3)
      · rw [oaL_t (nI_nlt (by omega) (by omega)) h2]
        exact ⟨fun _ => ⟨i, Nat.le_refl i, by omega, Int32.not_lt.mp h2⟩, fun _ => rfl⟩
theorem over_eq (h : R1 σ N v) (hp : PO N v) {a b : Nat} (hab : a ≤ b) (hb : b < 100) : ovL σ (nI a) (nI b) 0 5 = oaL N (nI b) a (100 - a) := by
  have k1 := ovL_iff h hp hb (a := a) (by omega) 5 0 rfl
  have k2 := oaL_iff hp hb (100 - a) a (by omega)
  have k3 : ovL σ (nI a) (nI b) 0 5 = true ↔ oaL N (nI b) a (100 - a) = true := by
    rw [k1, k2]
    refine ⟨fun ⟨p, _, a2, a3, a4⟩ => ?_, fun ⟨j, a1, a2, a3⟩ => ?_⟩
    · obtain ⟨-, -, -, -, e3, e4, -⟩ := hp.2.2.1 p a2
      exact ⟨max a (pf N p), by omega, by omega, iP_in hp (by omega) a2 (inB_iff.mpr ⟨by omega, by omega⟩)⟩
    · obtain ⟨p, hpv, hin, -⟩ := iP_get hp (by omega) a3
      have := inB_iff.mp hin
      exact ⟨p, Nat.zero_le p, hpv, by omega, by omega⟩
  cases h1 : ovL σ (nI a) (nI b) 0 5 <;> cases h2 : oaL N (nI b) a (100 - a) <;> rw [h1, h2] at k3
  · exact absurd (k3.mpr rfl) (by decide)
  · exact absurd (k3.mp rfl) (by decide)
theorem freshL_at {b : Nat} (hb : b < 100) (hj : j < 100) : ∀ r i (σ : Sto), i + r = 100 → freshL (nI b) σ i r 7 j = (if i ≤ j ∧ j ≤ b then 0 else σ 7 j) ∧ freshL (nI b) σ i r 8 j = (if i ≤ j ∧ j ≤ b then -1 else σ 8 j) ∧ freshL (nI b) σ i r 10 j = (if i ≤ j ∧ j ≤ b then -1 else σ 10 j)
  | 0, i, σ, hi => by
    rw [if_neg (by omega), if_neg (by omega), if_neg (by omega)]
    exact ⟨rfl, rfl, rfl⟩
  | r + 1, i, σ, hi => by
    unfold freshL
    by_cases q : b < i
    · rw [if_pos (nI_lt q (by omega)), if_neg (by omega), if_neg (by omega), if_neg (by omega)]
      exact ⟨rfl, rfl, rfl⟩
    · rw [if_neg (nI_nlt (by omega) (by omega))]
      obtain ⟨a1, a2, a3⟩ := freshL_at hb hj r (i + 1) (frees σ (nI i) (-1)) (by omega)
      rw [a1, a2, a3, frees_n (show i < 100 by omega)]
      by_cases e : j = i
      · subst e
        have n1 : ¬ (j + 1 ≤ j ∧ j ≤ b) := by omega
        have n2 : j ≤ j ∧ j ≤ b := by omega
        rw [if_neg n1, if_neg n1, if_neg n1, if_pos n2, if_pos n2, if_pos n2]
        exact ⟨pk_us, pk_us, pk_us⟩
      · by_cases z : i + 1 ≤ j ∧ j ≤ b
        · rw [if_pos z, if_pos z, if_pos z, if_pos (by omega), if_pos (by omega), if_pos (by omega)]
          exact ⟨rfl, rfl, rfl⟩
        · rw [if_neg z, if_neg z, if_neg z, if_neg (by omega), if_neg (by omega), if_neg (by omega)]
          exact ⟨pk_un e, pk_un e, pk_un e⟩
theorem afL_at {b : Nat} (hb : b < 100) : ∀ r i (M : Nat → Int32), i + r = 100 → (∀ j, j < 100 → afL (nI b) i r M (231 + j) = (if i ≤ j ∧ j ≤ b then 0 else M (231 + j)) ∧ afL (nI b) i r M (531 + j) = (if i ≤ j ∧ j ≤ b then -1 else M (531 + j))) ∧ ∀ x, x < 231 ∨ 331 ≤ x ∧ x < 531 ∨ 631 ≤ x → afL (nI b) i r M x = M x
  | 0, i, M, hi => ⟨fun j hj => by rw [if_neg (by omega), if_neg (by omega)]; exact ⟨rfl, rfl⟩, fun x hx => rfl⟩
  | r + 1, i, M, hi => by
    by_cases q : b < i
    · rw [afL_n (nI_lt q (by omega))]
      exact ⟨fun j hj => by rw [if_neg (by omega), if_neg (by omega)]; exact ⟨rfl, rfl⟩, fun x hx => rfl⟩
    · rw [afL_s (nI_nlt (by omega) (by omega))]
      obtain ⟨a1, a2⟩ := afL_at hb r (i + 1) (upd (upd M (231 + i) 0) (531 + i) (-1)) (by omega)
      refine ⟨fun j hj => ?_, fun x hx => ?_⟩
      · obtain ⟨c1, c2⟩ := a1 j hj
        rw [c1, c2]
        by_cases e : j = i
        · subst e
          have n1 : ¬ (j + 1 ≤ j ∧ j ≤ b) := by omega
          have n2 : j ≤ j ∧ j ≤ b := by omega
          rw [if_neg n1, if_neg n1, if_pos n2, if_pos n2, pk_un (show 231 + j ≠ 531 + j by omega), pk_us, pk_us]
          exact ⟨rfl, rfl⟩
        · by_cases z : i + 1 ≤ j ∧ j ≤ b
          · rw [if_pos z, if_pos z, if_pos (by omega), if_pos (by omega)]
            exact ⟨rfl, rfl⟩
          · rw [if_neg z, if_neg z, if_neg (by omega), if_neg (by omega), pk_un (by omega), pk_un (by omega), pk_un (by omega), pk_un (by omega)]
            exact ⟨rfl, rfl⟩
      · rw [a2 x hx, pk_un (by omega), pk_un (by omega)]
/-- the cells with one pool more -/
def adN (N : Nat → Int32) (v : Nat) (g : Int32) (a b : Nat) (d : Int32) : Nat → Int32 := upd (afL (nI b) a (100 - a) (ap4 N v g (nI a) (nI b) d)) 4 (nI (v + 1))
theorem adN_lo {a b : Nat} (ha : a < 100) (hb : b < 100) (hv : v < 5) (x : Nat) (hx : x < 231 ∨ 331 ≤ x ∧ x < 531 ∨ 631 ≤ x) (h4 : x ≠ 4) : adN N v g a b d x = ap4 N v g (nI a) (nI b) d x := by
  unfold adN
  rw [pk_un h4]
  exact (afL_at hb (100 - a) a _ (by omega)).2 x hx
theorem ap4_ne {u z : Int32} {x : Nat} (h : x < 5 + 4 * v ∨ 5 + 4 * v + 4 ≤ x) : ap4 N v g u z d x = N x := by
  unfold ap4
  rw [pk_un (by omega), pk_un (by omega), pk_un (by omega), pk_un (by omega)]
theorem ap4_at {u z : Int32} : ap4 N v g u z d (5 + 4 * v) = g ∧ ap4 N v g u z d (5 + 4 * v + 1) = u ∧ ap4 N v g u z d (5 + 4 * v + 2) = z ∧ ap4 N v g u z d (5 + 4 * v + 3) = d := by
  unfold ap4
  refine ⟨?_, ?_, ?_, ?_⟩
  · rw [pk_un (by omega), pk_un (by omega), pk_un (by omega), pk_us]
  · rw [pk_un (by omega), pk_un (by omega), pk_us]
  · rw [pk_un (by omega), pk_us]
  · rw [pk_us]
theorem adN_j {a b : Nat} (ha : a < 100) (hb : b < 100) (hv : v < 5) (hj : j < 100) : adN N v g a b d (231 + j) = (if a ≤ j ∧ j ≤ b then 0 else N (231 + j)) ∧ adN N v g a b d (531 + j) = (if a ≤ j ∧ j ≤ b then -1 else N (531 + j)) := by
  unfold adN
  obtain ⟨c1, c2⟩ := (afL_at hb (100 - a) a (ap4 N v g (nI a) (nI b) d) (by omega)).1 j hj
  rw [pk_un (by omega), pk_un (by omega), c1, c2, ap4_ne (by omega), ap4_ne (by omega)]
  exact ⟨rfl, rfl⟩
theorem adN_p {a b g' d' : Nat} (hv : v < 5) (hp : PO N v) (hg : g' < 3) (hab : a ≤ b) (hb : b < 100) (h8 : 8 ≤ d') (h9 : d' ≤ 800) (hno : ∀ j, a ≤ j → j ≤ b → ¬ iP N j) : PO (adN N v (nI g') a b (nI d')) (v + 1) ∧ ∀ j p, p < v + 1 → inQ (adN N v (nI g') a b (nI d')) p j = if p = v then inB j a b else inQ N p j := by
  have e : ∀ p, p < v → pg (adN N v (nI g') a b (nI d')) p = pg N p ∧ pf (adN N v (nI g') a b (nI d')) p = pf N p ∧ pt (adN N v (nI g') a b (nI d')) p = pt N p ∧ pl (adN N v (nI g') a b (nI d')) p = pl N p ∧ PO1 (adN N v (nI g') a b (nI d')) p := fun p hpv => by
    have k0 : adN N v (nI g') a b (nI d') (5 + 4 * p) = N (5 + 4 * p) := by rw [adN_lo (by omega) hb hv _ (by omega) (by omega), ap4_ne (by omega)]
    have k1 : adN N v (nI g') a b (nI d') (5 + 4 * p + 1) = N (5 + 4 * p + 1) := by rw [adN_lo (by omega) hb hv _ (by omega) (by omega), ap4_ne (by omega)]
    have k2 : adN N v (nI g') a b (nI d') (5 + 4 * p + 2) = N (5 + 4 * p + 2) := by rw [adN_lo (by omega) hb hv _ (by omega) (by omega), ap4_ne (by omega)]
    have k3 : adN N v (nI g') a b (nI d') (5 + 4 * p + 3) = N (5 + 4 * p + 3) := by rw [adN_lo (by omega) hb hv _ (by omega) (by omega), ap4_ne (by omega)]
    have e0 : pg (adN N v (nI g') a b (nI d')) p = pg N p := congrArg ix k0
    have e1 : pf (adN N v (nI g') a b (nI d')) p = pf N p := congrArg ix k1
    have e2 : pt (adN N v (nI g') a b (nI d')) p = pt N p := congrArg ix k2
    have e3 : pl (adN N v (nI g') a b (nI d')) p = pl N p := congrArg ix k3
    refine ⟨e0, e1, e2, e3, ?_⟩
    unfold PO1
    rw [e0, e1, e2, e3, k0, k1, k2, k3]
    exact hp.2.2.1 p hpv
  obtain ⟨w0, w1, w2, w3⟩ := ap4_at (N := N) (v := v) (g := nI g') (d := nI d') (u := nI a) (z := nI b)
  have k0 : adN N v (nI g') a b (nI d') (5 + 4 * v) = nI g' := by rw [adN_lo (by omega) hb hv _ (by omega) (by omega), w0]
  have k1 : adN N v (nI g') a b (nI d') (5 + 4 * v + 1) = nI a := by rw [adN_lo (by omega) hb hv _ (by omega) (by omega), w1]
  have k2 : adN N v (nI g') a b (nI d') (5 + 4 * v + 2) = nI b := by rw [adN_lo (by omega) hb hv _ (by omega) (by omega), w2]
  have k3 : adN N v (nI g') a b (nI d') (5 + 4 * v + 3) = nI d' := by rw [adN_lo (by omega) hb hv _ (by omega) (by omega), w3]
  have f0 : pg (adN N v (nI g') a b (nI d')) v = g' := by unfold pg; rw [k0, ixn (by omega)]
  have f1 : pf (adN N v (nI g') a b (nI d')) v = a := by unfold pf; rw [k1, ixn (by omega)]
  have f2 : pt (adN N v (nI g') a b (nI d')) v = b := by unfold pt; rw [k2, ixn (by omega)]
  have f3 : pl (adN N v (nI g') a b (nI d')) v = d' := by unfold pl; rw [k3, ixn (by omega)]
  refine ⟨⟨by omega, pk_us, fun p hpv => ?_, fun p q h1 h2 => ?_⟩, fun j p hpv => ?_⟩
  · by_cases q : p = v
    · subst q
      unfold PO1
      rw [f0, f1, f2, f3, k0, k1, k2, k3]
      exact ⟨rfl, hg, rfl, rfl, hab, hb, rfl, h8, h9⟩
    · exact (e p (by omega)).2.2.2.2
  · rw [(e p (by omega)).2.1, (e p (by omega)).2.2.1]
    by_cases z : q = v
    · subst z
      rw [f1, f2]
      obtain ⟨-, -, -, -, e3, e4, -⟩ := hp.2.2.1 p h1
      rcases Nat.lt_or_ge (pt N p) a with c1 | c1
      · exact Or.inl c1
      · rcases Nat.lt_or_ge b (pf N p) with c2 | c2
        · exact Or.inr c2
        · exact absurd (iP_in hp (j := max a (pf N p)) (by omega) h1 (inB_iff.mpr ⟨by omega, by omega⟩)) (hno _ (by omega) (by omega))
    · rw [(e q (by omega)).2.1, (e q (by omega)).2.2.1]
      exact hp.2.2.2 p q h1 (by omega)
  · unfold inQ
    by_cases q : p = v
    · subst q
      rw [f1, f2, if_pos rfl]
    · rw [(e p (by omega)).2.1, (e p (by omega)).2.2.1, if_neg q]
theorem RZ.add {a b g' d' : Nat} (h : RZ σ N f n v T lb) (hv : v < 5) (hg : g' < 3) (hab : a ≤ b) (hb : b < 100) (h8 : 8 ≤ d') (h9 : d' ≤ 800) (hno : ∀ j, a ≤ j → j ≤ b → ¬ iP N j) : RZ (appd (fresh σ (nI a) (nI b)) (nI g') (nI a) (nI b) (nI d')) (adN N v (nI g') a b (nI d')) f n (v + 1) T lb ∧ SV (appd (fresh σ (nI a) (nI b)) (nI g') (nI a) (nI b) (nI d')) σ := by
  have hp := h.2.2.1.po
  obtain ⟨p1, p2⟩ := adN_p (g' := g') (d' := d') hv hp hg hab hb h8 h9 hno
  have hlo : ∀ x, 25 ≤ x ∧ x < 231 ∨ x < 4 ∨ 331 ≤ x ∧ x < 531 ∨ 631 ≤ x → adN N v (nI g') a b (nI d') x = N x := fun x hx => by rw [adN_lo (by omega) hb hv _ (by omega) (by omega), ap4_ne (by omega)]
  have hpl : ∀ x, 5 ≤ x → x < 5 + 4 * v → adN N v (nI g') a b (nI d') x = N x := fun x h1 h2 => by rw [adN_lo (by omega) hb hv _ (by omega) (by omega), ap4_ne (by omega)]
  have hup : ∀ j, j < 100 → iP N j → iP (adN N v (nI g') a b (nI d')) j := fun j hj hi => by
    obtain ⟨p, hpv, hin, -⟩ := iP_get hp (by omega) hi
    exact iP_in p1 (by omega) (show p < v + 1 by omega) (by rw [p2 j p (by omega), if_neg (by omega)]; exact hin)
  have hdn : ∀ j, j < 100 → iP (adN N v (nI g') a b (nI d')) j → ¬ (a ≤ j ∧ j ≤ b) → iP N j := fun j hj hi hab => by
    obtain ⟨p, hpv, hin, -⟩ := iP_get p1 (by omega) hi
    rw [p2 j p hpv] at hin
    by_cases q : p = v
    · rw [if_pos q] at hin; exact absurd (inB_iff.mp hin) hab
    · rw [if_neg q] at hin; exact iP_in hp (by omega) (show p < v by omega) hin
  have hrow : ∀ k, k ≠ 7 → k ≠ 8 → k ≠ 10 → fresh σ (nI a) (nI b) k = σ k := fun k h1 h2 h3 => fresh_row h1 h2 h3
  have hx0 : ix (fresh σ (nI a) (nI b) 0 0) = v := by rw [hrow 0 (by decide) (by decide) (by decide), h.1.r1.c0, hp.2.1, ixn (by omega)]
  have hi : ∀ k, 5 ≤ k → appd (fresh σ (nI a) (nI b)) (nI g') (nI a) (nI b) (nI d') k = fresh σ (nI a) (nI b) k := fun k hk => by
    unfold appd
    rw [put_n (by omega), put_n (by omega), put_n (by omega), put_n (by omega), put_n (by omega)]
  have hs : ∀ k, 5 ≤ k → k ≠ 7 → k ≠ 8 → k ≠ 10 → appd (fresh σ (nI a) (nI b)) (nI g') (nI a) (nI b) (nI d') k = σ k := fun k hk h1 h2 h3 => (hi k hk).trans (hrow k h1 h2 h3)
  have hf : ∀ j, j < 100 → fresh σ (nI a) (nI b) 7 j = (if a ≤ j ∧ j ≤ b then 0 else σ 7 j) ∧ fresh σ (nI a) (nI b) 8 j = (if a ≤ j ∧ j ≤ b then -1 else σ 8 j) ∧ fresh σ (nI a) (nI b) 10 j = (if a ≤ j ∧ j ≤ b then -1 else σ 10 j) := fun j hj => by
    unfold fresh
    rw [ixn (by omega)]
    exact freshL_at hb hj (100 - a) a σ (by omega)
  obtain ⟨w0, w1, w2, w3⟩ := ap4_at (N := N) (v := v) (g := nI g') (d := nI d') (u := nI a) (z := nI b)
  refine ⟨⟨⟨by omega, ?_, fun j hj => ?_, fun j hj hi2 => ?_, fun c hc => ?_, fun c hc => ?_⟩, h.2.1.ext (hs 44 (by omega) (by omega) (by omega) (by omega)) (hs 45 (by omega) (by omega) (by omega) (by omega)) (hs 46 (by omega) (by omega) (by omega) (by omega)), ?_, (congrFun (hs 16 (by omega) (by omega) (by omega) (by omega)) 0).trans h.2.2.2⟩, fun k hk => hs k (by omega) (by omega) (by omega) (by omega)⟩
  · exact ⟨(by
        show fresh σ (nI a) (nI b) 0 0 + 1 = adN N v (nI g') a b (nI d') 4
        rw [hrow 0 (by decide) (by decide) (by decide), h.1.r1.c0, hp.2.1, nI_1]
        exact pk_us.symm),
      fun p hpv => (by
        show upd (fresh σ (nI a) (nI b) 1) (ix (fresh σ (nI a) (nI b) 0 0)) (nI g') p = _
        rw [hx0, hrow 1 (by decide) (by decide) (by decide)]
        by_cases q : p = v
        · subst q
          rw [pk_us, adN_lo (by omega) hb hv _ (by omega) (by omega)]
          exact w0.symm
        · rw [pk_un q, hpl _ (by omega) (by omega)]
          exact h.1.r1.c1 (by omega)),
      fun p hpv => (by
        show upd (fresh σ (nI a) (nI b) 2) (ix (fresh σ (nI a) (nI b) 0 0)) (nI a) p = _
        rw [hx0, hrow 2 (by decide) (by decide) (by decide)]
        by_cases q : p = v
        · subst q
          rw [pk_us, adN_lo (by omega) hb hv _ (by omega) (by omega)]
          exact w1.symm
        · rw [pk_un q, hpl _ (by omega) (by omega)]
          exact h.1.r1.c2 (by omega)),
      fun p hpv => (by
        show upd (fresh σ (nI a) (nI b) 3) (ix (fresh σ (nI a) (nI b) 0 0)) (nI b) p = _
        rw [hx0, hrow 3 (by decide) (by decide) (by decide)]
        by_cases q : p = v
        · subst q
          rw [pk_us, adN_lo (by omega) hb hv _ (by omega) (by omega)]
          exact w2.symm
        · rw [pk_un q, hpl _ (by omega) (by omega)]
          exact h.1.r1.c3 (by omega)),
      fun p hpv => (by
        show upd (fresh σ (nI a) (nI b) 4) (ix (fresh σ (nI a) (nI b) 0 0)) (nI d') p = _
        rw [hx0, hrow 4 (by decide) (by decide) (by decide)]
        by_cases q : p = v
        · subst q
          rw [pk_us, adN_lo (by omega) hb hv _ (by omega) (by omega)]
          exact w3.symm
        · rw [pk_un q, hpl _ (by omega) (by omega)]
          exact h.1.r1.c4 (by omega)),
      fun j hj => (by rw [hs 5 (by omega) (by omega) (by omega) (by omega), hlo _ (by omega)]; exact h.1.r1.c5 hj),
      fun j hj => (by rw [hs 6 (by omega) (by omega) (by omega) (by omega), hlo _ (by omega)]; exact h.1.r1.c6 hj),
      fun j hj => (by
        rw [hi 7 (by omega), (hf j hj).1, (adN_j (by omega) hb hv hj).1]
        by_cases z : a ≤ j ∧ j ≤ b
        · rw [if_pos z, if_pos z]
        · rw [if_neg z, if_neg z]; exact h.1.r1.c7 hj),
      fun j hj => (by rw [hs 9 (by omega) (by omega) (by omega) (by omega), hlo _ (by omega)]; exact h.1.r1.c9 hj),
      fun j hj => (by rw [hs 11 (by omega) (by omega) (by omega) (by omega), hlo _ (by omega)]; exact h.1.r1.c11 hj),
      fun j hj => (by rw [hs 14 (by omega) (by omega) (by omega) (by omega), hlo _ (by omega)]; exact h.1.r1.c14 hj),
      fun j hj => (by rw [hs 15 (by omega) (by omega) (by omega) (by omega), hlo _ (by omega)]; exact h.1.r1.c15 hj),
      (by rw [hs 17 (by omega) (by omega) (by omega) (by omega), hlo _ (by omega)]; exact h.1.r1.c17),
      (by rw [hs 18 (by omega) (by omega) (by omega) (by omega), hlo _ (by omega)]; exact h.1.r1.c18),
      (by rw [hs 19 (by omega) (by omega) (by omega) (by omega), hlo _ (by omega)]; exact h.1.r1.c19),
      fun j hj => (by rw [hs 20 (by omega) (by omega) (by omega) (by omega), hlo _ (by omega)]; exact h.1.r1.c20 hj),
      fun j hj => (by rw [hs 21 (by omega) (by omega) (by omega) (by omega), hlo _ (by omega)]; exact h.1.r1.c21 hj)⟩
  · rw [hi 8 (by omega), (hf j hj).2.1, (adN_j (by omega) hb hv hj).1, hlo (331 + j) (by omega)]
    by_cases z : a ≤ j ∧ j ≤ b
    · rw [if_pos z, if_pos z, if_neg (by decide)]
    · rw [if_neg z, if_neg z]; exact h.1.r8 j hj
  · rw [hi 10 (by omega), (hf j hj).2.2, (adN_j (by omega) hb hv hj).2]
    by_cases z : a ≤ j ∧ j ≤ b
    · rw [if_pos z, if_pos z]
    · rw [if_neg z, if_neg z]; exact h.1.r10 j hj (hdn j hj hi2 z)
  · rw [hs 12 (by omega) (by omega) (by omega) (by omega), hlo (631 + c) (by omega), hlo (651 + c) (by omega)]; exact h.1.r12 c hc
  · rw [hs 13 (by omega) (by omega) (by omega) (by omega), hlo (711 + c) (by omega)]; exact h.1.r13 c hc
  · have hI := h.2.2.1
    have hst : ∀ j, j < 100 → ¬ N (231 + j) = 0 → adN N v (nI g') a b (nI d') (231 + j) = N (231 + j) := fun j hj hl => by
      rw [(adN_j (by omega) hb hv hj).1, if_neg (fun z => ?_)]
      rcases hI.av j hj with q | ⟨-, q, -⟩ | ⟨-, c, hc, -, q1, q2⟩
      · exact hl q
      · exact hno j z.1 z.2 q
      · obtain ⟨j', hj', q3, -, q4, -⟩ := hI.adr hc q1
        obtain rfl : j = j' := nI_inj (by omega) (by omega) (q2.symm.trans q3)
        exact hno j z.1 z.2 q4
    refine ⟨p1, fun j hj => by rw [hlo _ (by omega), hlo _ (by omega)]; exact hI.fl j hj, fun g hg => by rw [hlo _ (by omega)]; exact hI.gf g hg, (hlo 0 (by omega)).trans hI.tm, hI.tl, by rw [hlo 1 (by omega)]; exact hI.ho, by rw [hlo 2 (by omega)]; exact hI.qu, fun c hc => by rw [hlo _ (by omega)]; exact hI.re c hc, fun c hc => by rw [hlo _ (by omega)]; exact hI.ad c hc, fun c hc => by rw [hlo _ (by omega)]; exact hI.hd c hc, fun c hc => ?_, fun j hj => ?_⟩
    · exact (hI.cl c hc).keepP (fun j hj _ => hup j hj) (hlo _ (by omega)) (hlo _ (by omega)) (hlo _ (by omega)) (hlo _ (by omega)) (hlo _ (by omega)) (fun j hj a1 a2 a3 a4 => ⟨hlo _ (by omega), hlo _ (by omega), hst j hj a3⟩)
    · by_cases hl : N (231 + j) = 0
      · refine Or.inl ?_
        rw [(adN_j (by omega) hb hv hj).1]
        split
        · rfl
        · exact hl
      · exact (hI.av j hj).keepP hj (fun j hj _ => hup j hj) (hst j hj hl) (hlo _ (by omega)) (hlo _ (by omega)) (fun c hc a1 a2 a3 => ⟨by rw [hlo _ (by omega)]; exact a2, hlo _ (by omega)⟩)
-- remove
def rmC (N : Nat → Int32) (p v : Nat) : Nat → Int32 := sh4 (upd N 4 (nI v)) (5 + 4 * p) (5 + 4 * v)
theorem rmC_hi {p x : Nat} (h : x < 4 ∨ 5 + 4 * v ≤ x) (hp : p ≤ v) : rmC N p v x = N x := by
  unfold rmC sh4
  rw [if_neg (by omega), pk_un (by omega)]
theorem rmC_p {p q c : Nat} (hq : q < v) (hc : c < 4) : rmC N p v (5 + 4 * q + c) = N (5 + 4 * (if p ≤ q then q + 1 else q) + c) := by
  unfold rmC sh4
  by_cases z : p ≤ q
  · rw [if_pos (by omega), if_pos z, pk_un (by omega), show 5 + 4 * q + c + 4 = 5 + 4 * (q + 1) + c by omega]
  · rw [if_neg (by omega), if_neg z, pk_un (by omega)]
theorem rmC_po {p : Nat} (hpv : p < v + 1) (hp : PO N (v + 1)) : PO (rmC N p v) v ∧ ∀ j q, q < v → inQ (rmC N p v) q j = inQ N (if p ≤ q then q + 1 else q) j := by
  have e : ∀ q, q < v → pg (rmC N p v) q = pg N (if p ≤ q then q + 1 else q) ∧ pf (rmC N p v) q = pf N (if p ≤ q then q + 1 else q) ∧ pt (rmC N p v) q = pt N (if p ≤ q then q + 1 else q) ∧ PO1 (rmC N p v) q := fun q hq => by
    have k0 := rmC_p (N := N) (p := p) (c := 0) hq (by omega)
    have k1 := rmC_p (N := N) (p := p) (c := 1) hq (by omega)
    have k2 := rmC_p (N := N) (p := p) (c := 2) hq (by omega)
    have k3 := rmC_p (N := N) (p := p) (c := 3) hq (by omega)
    rw [Nat.add_zero, Nat.add_zero] at k0
    have e0 : pg (rmC N p v) q = pg N (if p ≤ q then q + 1 else q) := congrArg ix k0
    have e1 : pf (rmC N p v) q = pf N (if p ≤ q then q + 1 else q) := congrArg ix k1
    have e2 : pt (rmC N p v) q = pt N (if p ≤ q then q + 1 else q) := congrArg ix k2
    have e3 : pl (rmC N p v) q = pl N (if p ≤ q then q + 1 else q) := congrArg ix k3
    refine ⟨e0, e1, e2, ?_⟩
    unfold PO1
    rw [e0, e1, e2, e3, k0, k1, k2, k3]
    exact hp.2.2.1 _ (by split <;> omega)
  have hv := hp.1
  refine ⟨⟨by omega, ?_, fun q hq => (e q hq).2.2.2, fun q q' h1 h2 => ?_⟩, fun j q hq => ?_⟩
  · unfold rmC sh4
    rw [if_neg (by omega), pk_us]
  · rw [(e q (by omega)).2.1, (e q (by omega)).2.2.1, (e q' h2).2.1, (e q' h2).2.2.1]
    exact hp.2.2.2 _ _ (by split <;> split <;> omega) (by split <;> omega)
  · unfold inQ
    rw [(e q hq).2.1, (e q hq).2.2.1]
theorem RZ.rem {p : Nat} (h : RZ σ N f n (v + 1) T lb) (hpv : p < v + 1) (hno : ∀ j, inQ N p j = true → N (231 + j) = 0) : RZ (put (drp σ p v) 0 (sc (nI v))) (rmC N p v) f n v T lb ∧ SV (put (drp σ p v) 0 (sc (nI v))) σ := by
  have hp := h.2.2.1.po
  have hv5 := hp.1
  obtain ⟨p1, p2⟩ := rmC_po hpv hp
  have hlo : ∀ x, x < 4 ∨ 25 ≤ x → rmC N p v x = N x := fun x hx => rmC_hi (by omega) (by omega)
  have hs : ∀ k, 5 ≤ k → put (drp σ p v) 0 (sc (nI v)) k = σ k := fun k hk => by
    unfold drp
    rw [put_n (by omega), put_n (by omega), put_n (by omega), put_n (by omega), put_n (by omega)]
  have hdn : ∀ j, j < 100 → iP (rmC N p v) j → iP N j := fun j hj hi => by
    obtain ⟨q, hq, hin, -⟩ := iP_get p1 (by omega) hi
    rw [p2 j q hq] at hin
    exact iP_in hp (by omega) (by split <;> omega) hin
  have hup : ∀ j, j < 100 → ¬ N (231 + j) = 0 → iP N j → iP (rmC N p v) j := fun j hj hl hi => by
    obtain ⟨q, hq, hin, -⟩ := iP_get hp (by omega) hi
    have hne : q ≠ p := fun z => hl (hno j (z ▸ hin))
    by_cases z : p ≤ q
    · refine iP_in p1 (by omega) (show q - 1 < v by omega) ?_
      rw [p2 j (q - 1) (by omega), if_pos (by omega), show q - 1 + 1 = q by omega]
      exact hin
    · refine iP_in p1 (by omega) (show q < v by omega) ?_
      rw [p2 j q (by omega), if_neg z]
      exact hin
  have hrow : ∀ (k c q : Nat), (k = 1 ∧ c = 0 ∨ k = 2 ∧ c = 1 ∨ k = 3 ∧ c = 2 ∨ k = 4 ∧ c = 3) → q < v → σ k (if p ≤ q then q + 1 else q) = N (5 + 4 * (if p ≤ q then q + 1 else q) + c) := fun k c q hk hq => by
    have hz : (if p ≤ q then q + 1 else q) < v + 1 := by split <;> omega
    rcases hk with ⟨rfl, rfl⟩ | ⟨rfl, rfl⟩ | ⟨rfl, rfl⟩ | ⟨rfl, rfl⟩
    · exact h.1.r1.c1 hz
    · exact h.1.r1.c2 hz
    · exact h.1.r1.c3 hz
    · exact h.1.r1.c4 hz
  have hsh : ∀ (g : Nat → Int32) (q : Nat), q < v → shf g p v q = g (if p ≤ q then q + 1 else q) := fun g q hq => by
    unfold shf
    by_cases z : p ≤ q
    · rw [if_pos ⟨z, hq⟩, if_pos z]
    · rw [if_neg (fun w => z w.1), if_neg z]
  refine ⟨⟨⟨by omega, ?_, fun j hj => ?_, fun j hj hi2 => ?_, fun c hc => ?_, fun c hc => ?_⟩, h.2.1.ext (hs 44 (by omega)) (hs 45 (by omega)) (hs 46 (by omega)), ?_, (congrFun (hs 16 (by omega)) 0).trans h.2.2.2⟩, fun k hk => hs k (by omega)⟩
  · exact ⟨p1.2.1.symm,
      fun q hq => (by
        have z1 := rmC_p (N := N) (p := p) (c := 0) hq (by omega)
        rw [Nat.add_zero] at z1
        rw [z1]
        show shf (σ 1) p v q = _
        rw [hsh _ q hq]
        exact hrow 1 0 q (by omega) hq),
      fun q hq => (by
        have z1 := rmC_p (N := N) (p := p) (c := 1) hq (by omega)
        have z2 := 0
        rw [z1]
        show shf (σ 2) p v q = _
        rw [hsh _ q hq]
        exact hrow 2 1 q (by omega) hq),
      fun q hq => (by
        have z1 := rmC_p (N := N) (p := p) (c := 2) hq (by omega)
        have z2 := 0
        rw [z1]
        show shf (σ 3) p v q = _
        rw [hsh _ q hq]
        exact hrow 3 2 q (by omega) hq),
      fun q hq => (by
        have z1 := rmC_p (N := N) (p := p) (c := 3) hq (by omega)
        have z2 := 0
        rw [z1]
        show shf (σ 4) p v q = _
        rw [hsh _ q hq]
        exact hrow 4 3 q (by omega) hq),
      fun j hj => (by rw [hs 5 (by omega), hlo _ (by omega)]; exact h.1.r1.c5 hj),
      fun j hj => (by rw [hs 6 (by omega), hlo _ (by omega)]; exact h.1.r1.c6 hj),
      fun j hj => (by rw [hs 7 (by omega), hlo _ (by omega)]; exact h.1.r1.c7 hj),
      fun j hj => (by rw [hs 9 (by omega), hlo _ (by omega)]; exact h.1.r1.c9 hj),
      fun j hj => (by rw [hs 11 (by omega), hlo _ (by omega)]; exact h.1.r1.c11 hj),
      fun j hj => (by rw [hs 14 (by omega), hlo _ (by omega)]; exact h.1.r1.c14 hj),
      fun j hj => (by rw [hs 15 (by omega), hlo _ (by omega)]; exact h.1.r1.c15 hj),
      (by rw [hs 17 (by omega), hlo _ (by omega)]; exact h.1.r1.c17),
      (by rw [hs 18 (by omega), hlo _ (by omega)]; exact h.1.r1.c18),
      (by rw [hs 19 (by omega), hlo _ (by omega)]; exact h.1.r1.c19),
      fun j hj => (by rw [hs 20 (by omega), hlo _ (by omega)]; exact h.1.r1.c20 hj),
      fun j hj => (by rw [hs 21 (by omega), hlo _ (by omega)]; exact h.1.r1.c21 hj)⟩
  · rw [hs 8 (by omega), hlo (231 + j) (by omega), hlo (331 + j) (by omega)]; exact h.1.r8 j hj
  · rw [hs 10 (by omega), hlo (531 + j) (by omega)]; exact h.1.r10 j hj (hdn j hj hi2)
  · rw [hs 12 (by omega), hlo (631 + c) (by omega), hlo (651 + c) (by omega)]; exact h.1.r12 c hc
  · rw [hs 13 (by omega), hlo (711 + c) (by omega)]; exact h.1.r13 c hc
  · have hI := h.2.2.1
    refine ⟨p1, fun j hj => by rw [hlo _ (by omega), hlo _ (by omega)]; exact hI.fl j hj, fun g hg => by rw [hlo _ (by omega)]; exact hI.gf g hg, (hlo 0 (by omega)).trans hI.tm, hI.tl, by rw [hlo 1 (by omega)]; exact hI.ho, by rw [hlo 2 (by omega)]; exact hI.qu, fun c hc => by rw [hlo _ (by omega)]; exact hI.re c hc, fun c hc => by rw [hlo _ (by omega)]; exact hI.ad c hc, fun c hc => by rw [hlo _ (by omega)]; exact hI.hd c hc, fun c hc => ?_, fun j hj => ?_⟩
    · exact (hI.cl c hc).keepP hup (hlo _ (by omega)) (hlo _ (by omega)) (hlo _ (by omega)) (hlo _ (by omega)) (hlo _ (by omega)) (fun j hj a1 a2 a3 a4 => ⟨hlo _ (by omega), hlo _ (by omega), hlo _ (by omega)⟩)
    · exact (hI.av j hj).keepP hj hup (hlo _ (by omega)) (hlo _ (by omega)) (hlo _ (by omega)) (fun c hc a1 a2 a3 => ⟨by rw [hlo _ (by omega)]; exact a2, hlo _ (by omega)⟩)
end PL9
