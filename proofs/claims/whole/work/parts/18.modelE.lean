/-- now, log, logged, how many -/
abbrev HS : Type := (Nat → Int32) × (Nat → Int32) × Int32 × Nat
def hpS (S : HS) (j : Nat) (t : Int32) : HS := (hpN S.1 j t, hpK S.1 j S.2.1 S.2.2.1, hpM S.1 j S.2.2.1, S.2.2.2 + 1)
def hi1 (t : Int32) (q j : Nat) (S : HS) : HS := if due S.1 j = t then (if knd S.1 j = nI q then hpS S j t else S) else S
def hiL (t : Int32) (q : Nat) : Nat → Nat → HS → HS
  | _, 0, S => S
  | i, r + 1, S => hiL t q (i + 1) r (hi1 t q i S)
termination_by _ r _ => r
def hoL (t : Int32) : Nat → Nat → HS → HS
  | _, 0, S => S
  | q, r + 1, S => hoL t (q + 1) r (hiL t q 0 100 S)
termination_by _ r _ => r
theorem hiL_0 {t : Int32} {q i : Nat} {S : HS} : hiL t q i 0 S = S := by rw [hiL]
theorem hoL_0 {t : Int32} {q : Nat} {S : HS} : hoL t q 0 S = S := by rw [hoL]
theorem hoL_s {t : Int32} {q r : Nat} {S T : HS} (h : T = hiL t q 0 100 S) : hoL t q (r + 1) S = hoL t (q + 1) r T := by rw [h, hoL]
def hapS (N f : Nat → Int32) (n t : Int32) : HS := hoL t 0 5 (upd N 0 t, f, n, 0)
theorem hiL_s {t : Int32} {q i r : Nat} {S T : HS} (h : hi1 t q i S = T) : hiL t q i (r + 1) S = hiL t q (i + 1) r T := by rw [← h, hiL]
section HI
variable {N f : Nat → Int32} {n t : Int32} {k q j r : Nat}
theorem hi1_d (h : ¬ due N j = t) : hi1 t q j (N, f, n, k) = (N, f, n, k) := if_neg h
theorem hi1_k (h : due N j = t) (hk : ¬ knd N j = nI q) : hi1 t q j (N, f, n, k) = (N, f, n, k) := by
  unfold hi1
  rw [if_pos h, if_neg hk]
theorem hi1_t (h : due N j = t) (hk : knd N j = nI q) : hi1 t q j (N, f, n, k) = (hpN N j t, hpK N j f n, hpM N j n, k + 1) := by
  unfold hi1
  rw [if_pos h, if_pos hk, hpS]
theorem hiL_d (h : ¬ due N j = t) : hiL t q (j + 1) r (N, f, n, k) = hiL t q j (r + 1) (N, f, n, k) := (hiL_s (hi1_d h)).symm
theorem hiL_k (h : due N j = t) (hk : ¬ knd N j = nI q) : hiL t q (j + 1) r (N, f, n, k) = hiL t q j (r + 1) (N, f, n, k) := (hiL_s (hi1_k h hk)).symm
theorem hiL_t (h : due N j = t) (hk : knd N j = nI q) : hiL t q (j + 1) r (hpN N j t, hpK N j f n, hpM N j n, k + 1) = hiL t q j (r + 1) (N, f, n, k) := (hiL_s (hi1_t h hk)).symm
end HI
/-- what the events of a time want -/
def HG (Pd : (Nat → Int32) → Prop) (t : Int32) (v : Nat) : Prop := (∀ N, Pd N → MX N v) ∧ ∀ N j, Pd N → j < 100 → due N j = t → (∃ p : Nat, p < v ∧ ow N (nI j) = nI p) ∧ ((knd N j = 2 ∨ knd N j = 3) → ∃ p : Nat, p < v ∧ ow N (N (651 + hoC N j)) = nI p) ∧ Pd (hpN N j t)
theorem LG.hp {N : Nat → Int32} {j : Nat} {n : Int32} (h : LG n) : LG (hpM N j n) := by
  unfold hpM
  split
  · exact h.st
  split
  · exact h
  split
  · split
    · exact h.st
    · exact h
  split
  · split
    · exact h.st
    · exact h
  · exact h.st
theorem LG.hi {t : Int32} {q : Nat} : ∀ (r i : Nat) (S : HS), LG S.2.2.1 → LG (hiL t q i r S).2.2.1
  | 0, _, _, h => by rw [hiL_0]; exact h
  | r + 1, i, S, h => by
    rw [hiL_s rfl]
    refine LG.hi r (i + 1) (hi1 t q i S) ?_
    unfold hi1
    split
    · split
      · exact LG.hp h
      · exact h
    · exact h
theorem LG.ho {t : Int32} : ∀ (r q : Nat) (S : HS), LG S.2.2.1 → LG (hoL t q r S).2.2.1
  | 0, _, _, h => by rw [hoL_0]; exact h
  | r + 1, q, S, h => by
    rw [hoL_s rfl]
    exact LG.ho r (q + 1) (hiL t q 0 100 S) (LG.hi 100 0 S h)
theorem LG.hap {N f : Nat → Int32} {n t : Int32} (h : LG n) : LG (hapS N f n t).2.2.1 := by
  unfold hapS
  exact LG.ho 5 0 _ h
def apS (S : HS) (e : Int32) : HS := ((hapS S.1 S.2.1 S.2.2.1 e).1, (hapS S.1 S.2.1 S.2.2.1 e).2.1, (hapS S.1 S.2.1 S.2.2.1 e).2.2.1, S.2.2.2 + (hapS S.1 S.2.1 S.2.2.1 e).2.2.2)
def avC (y : Int32) (S : HS) : Bool := !decide (eaM S.1 < 0) && !decide (y < eaM S.1)
def itL {S : Type} (c : S → Bool) (f : S → S) : Nat → S → S
  | 0, s => s
  | F + 1, s => bif c s then itL c f F (f s) else s
termination_by F _ => F
theorem itL_0 {S : Type} {c : S → Bool} {f : S → S} {s : S} : itL c f 0 s = s := by rw [itL]
theorem itL_s {S : Type} {c : S → Bool} {f : S → S} {s : S} {F : Nat} (h : c s = true) : itL c f (F + 1) s = itL c f F (f s) := by rw [itL, h, cond_true]
theorem itL_n {S : Type} {c : S → Bool} {f : S → S} {s : S} {F : Nat} (h : c s = false) : itL c f (F + 1) s = s := by rw [itL, h, cond_false]
def avL (y : Int32) : Nat → HS → HS := itL (avC y) (fun S => apS S (eaM S.1))
theorem avL_0 {y : Int32} {S : HS} : avL y 0 S = S := itL_0
def avS (N f : Nat → Int32) (n y : Int32) : HS := avL y (y.toInt - (N 0).toInt).toNat (N, f, n, 0)
/-- what time's passing wants -/
def AG (Q : (Nat → Int32) → Prop) (y : Int32) (v : Nat) : Prop := ∀ N, Q N → MX N v ∧ (0 ≤ eaM N → eaM N ≤ y → (N 0).toInt < (eaM N).toInt ∧ (∃ Pd, HG Pd (eaM N) v ∧ Pd (upd N 0 (eaM N))) ∧ ∀ f n, Q (hapS N f n (eaM N)).1 ∧ (hapS N f n (eaM N)).1 0 = eaM N)
theorem av_no {N : Nat → Int32} {y : Int32} {Q : (Nat → Int32) → Prop} {v : Nat} (hA : AG Q y v) (hQ : Q N) (hm : (y.toInt - (N 0).toInt).toNat ≤ 0) (h0 : ¬ eaM N < 0) : y < eaM N := by
  rw [Int32.lt_iff_toInt_lt]
  rcases Int.lt_or_le y.toInt (eaM N).toInt with h | h
  · exact h
  · have h1 := ((hA N hQ).2 (Int32.not_lt.mp h0) (Int32.le_iff_toInt_le.mpr h)).1
    omega
theorem avL_s {N f : Nat → Int32} {n y : Int32} {k F : Nat} (h0 : ¬ eaM N < 0) (h1 : ¬ y < eaM N) : avL y (F + 1) (N, f, n, k) = avL y F ((hapS N f n (eaM N)).1, (hapS N f n (eaM N)).2.1, (hapS N f n (eaM N)).2.2.1, k + (hapS N f n (eaM N)).2.2.2) := by
  have h : avC y (N, f, n, k) = true := by
    show (!decide (eaM N < 0) && !decide (y < eaM N)) = true
    rw [decide_eq_false h0, decide_eq_false h1]
    rfl
  unfold avL
  rw [itL_s h, apS]
theorem avL_n {N f : Nat → Int32} {n y : Int32} {k F : Nat} (h : eaM N < 0 ∨ y < eaM N) : avL y (F + 1) (N, f, n, k) = (N, f, n, k) := by
  have h2 : avC y (N, f, n, k) = false := by
    show (!decide (eaM N < 0) && !decide (y < eaM N)) = false
    rcases h with h | h
    · rw [decide_eq_true h]; rfl
    · rw [decide_eq_true h, Bool.not_true, Bool.and_false]
  unfold avL
  rw [itL_n h2]
theorem av_st {N : Nat → Int32} {y e : Int32} {F : Nat} (hm : (y.toInt - (N 0).toInt).toNat ≤ F + 1) {M : Nat → Int32} (h1 : (N 0).toInt < e.toInt) (h2 : M 0 = e) : (y.toInt - (M 0).toInt).toNat ≤ F := by
  rw [h2]
  omega
def fzL (N : Nat → Int32) : Nat → Nat → Nat
  | _, 0 => 0
  | i, r + 1 => (if N (231 + i) = 0 then 1 else 0) + fzL N (i + 1) r
theorem fzL_le {N : Nat → Int32} : ∀ r i, fzL N i r ≤ r
  | 0, _ => Nat.le_refl 0
  | r + 1, i => by
    have h := fzL_le (N := N) r (i + 1)
    unfold fzL
    split <;> omega
theorem fzL_eq {N M : Nat → Int32} : ∀ r i, (∀ j, i ≤ j → j < i + r → M (231 + j) = N (231 + j)) → fzL M i r = fzL N i r
  | 0, _, _ => rfl
  | r + 1, i, h => by
    unfold fzL
    rw [h i (Nat.le_refl i) (by omega), fzL_eq r (i + 1) (fun j h1 h2 => h j (by omega) (by omega))]
theorem fzL_de {N M : Nat → Int32} {y : Nat} (h0 : N (231 + y) = 0) (h1 : ¬ M (231 + y) = 0) (hM : ∀ j, j ≠ y → j < 100 → M (231 + j) = N (231 + j)) : ∀ r i, i ≤ y → y < i + r → i + r ≤ 100 → fzL M i r + 1 = fzL N i r
  | 0, i, h2, h3, _ => by omega
  | r + 1, i, h2, h3, h4 => by
    unfold fzL
    by_cases e : i = y
    · subst e
      rw [if_pos h0, if_neg h1, fzL_eq r (i + 1) (fun j h5 h6 => hM j (by omega) (by omega))]
      omega
    · have := fzL_de h0 h1 hM r (i + 1) (by omega) (by omega) (by omega)
      rw [hM i e (by omega)]
      split <;> omega
theorem fz_pos {N : Nat → Int32} {y : Nat} (h0 : N (231 + y) = 0) : ∀ r i, i ≤ y → y < i + r → 0 < fzL N i r
  | 0, i, h2, h3 => by omega
  | r + 1, i, h2, h3 => by
    unfold fzL
    by_cases e : i = y
    · subst e
      rw [if_pos h0]
      omega
    · have := fz_pos h0 r (i + 1) (by omega) (by omega)
      omega
def dsN (N : Nat → Int32) (y : Nat) : Nat → Int32 := upd (mDe N y) 3 (mDe N y 3 + 1)
theorem fz_ds {N : Nat → Int32} {y F : Nat} (hy : y < 100) (h0 : N (231 + y) = 0) (hF : fzL N 0 100 ≤ F + 1) : fzL (dsN N y) 0 100 ≤ F := by
  have h := fzL_de (M := dsN N y) h0 (by rw [dsN, pk_un (by omega), mDe, pk_un (by omega), pk_us]; decide) (fun j h1 h2 => by rw [dsN, pk_un (by omega), mDe, pk_un (by omega), pk_un (by omega)]) 100 0 (by omega) (by omega) (by omega)
  omega
theorem cdt_0 {N : Nat → Int32} {j : Nat} {g : Int32} (h : cdt N j g = true) : N (231 + j) = 0 := by
  unfold cdt at h
  rw [Bool.and_eq_true, Bool.and_eq_true] at h
  exact of_decide_eq_true h.1.2
/-- offers that find a stranger -/
abbrev DS : Type := (Nat → Int32) × (Nat → Int32) × Int32
def dsC (c : Nat) (g w : Int32) (S : DS) : Bool := !decide (caM S.1 c g w < 0) && decide (S.1 (131 + ix (caM S.1 c g w)) = 1)
def dsF (c : Nat) (g w : Int32) (S : DS) : DS := (dsN S.1 (ix (caM S.1 c g w)), lgM S.2.1 S.2.2 8 (caM S.1 c g w), lgN S.2.2)
def dsL (c : Nat) (g w : Int32) : Nat → DS → DS := itL (dsC c g w) (dsF c g w)
theorem dsL_0 {c : Nat} {g w : Int32} {S : DS} : dsL c g w 0 S = S := itL_0
def d1N (N : Nat → Int32) (c : Nat) : Nat → Int32 := upd (if N (631 + c) = 1 then mFr N (aC N c) (N 0) else N) (631 + c) 0
def d2S (N f : Nat → Int32) (n : Int32) (c : Nat) (g w : Int32) : DS := dsL c g w 100 (d1N N c, f, n)
def d3N (N : Nat → Int32) (c a : Nat) : Nat → Int32 := upd (upd (upd (upd (upd N (231 + a) 1) (331 + a) (nI c)) (431 + a) (upd (upd N (231 + a) 1) (331 + a) (nI c) 0 + upd (upd N (231 + a) 1) (331 + a) (nI c) 1)) (631 + c) 1) (651 + c) (nI a)
/-- the last candidate, and what it leaves -/
def diZ (S : DS) (c : Nat) (g w : Int32) : Int32 := caM S.1 c g w
def diT (N : Nat → Int32) (x g : Int32) (S : DS) (w : Int32) : Int32 := bif inR x 0 19 && inR g 0 2 then (if bdM N (ix x) = true ∨ N (28 + ix g) = 0 then 2 else if diZ S (ix x) g w < 0 then 3 else 0) else 1
def diR (N : Nat → Int32) (x g : Int32) (S : DS) (w : Int32) : Int32 := if diT N x g S w = 0 then diZ S (ix x) g w else 0
def diN (N : Nat → Int32) (x g : Int32) (S : DS) (w : Int32) : Nat → Int32 := if diT N x g S w = 0 then d3N S.1 (ix x) (ix (diZ S (ix x) g w)) else if diT N x g S w = 3 then S.1 else N
def diF (N : Nat → Int32) (x g : Int32) (S : DS) (w : Int32) (f : Nat → Int32) : Nat → Int32 := if diT N x g S w = 0 then lgM S.2.1 S.2.2 1 (diZ S (ix x) g w) else if diT N x g S w = 3 then S.2.1 else f
def diM (N : Nat → Int32) (x g : Int32) (S : DS) (w : Int32) (n : Int32) : Int32 := if diT N x g S w = 0 then lgN S.2.2 else if diT N x g S w = 3 then S.2.2 else n
theorem dsL_s {N f : Nat → Int32} {n g w : Int32} {c y F : Nat} (hy : y < 100) (hz : nI y = caM N c g w) (h0 : ¬ nI y < 0) (h1 : N (131 + y) = 1) : dsL c g w (F + 1) (N, f, n) = dsL c g w F (dsN N y, lgM f n 8 (nI y), lgN n) := by
  have h : dsC c g w (N, f, n) = true := by
    show (!decide (caM N c g w < 0) && decide (N (131 + ix (caM N c g w)) = 1)) = true
    rw [← hz, ixn (by omega), decide_eq_false h0, decide_eq_true h1]
    rfl
  unfold dsL
  rw [itL_s h, dsF]
  show itL (dsC c g w) (dsF c g w) F (dsN N (ix (caM N c g w)), lgM f n 8 (caM N c g w), lgN n) = _
  rw [← hz, ixn (by omega)]
theorem dsL_n {N f : Nat → Int32} {n g w z : Int32} {c F : Nat} (hz : z = caM N c g w) (h : z < 0 ∨ ¬ N (131 + ix z) = 1) : dsL c g w (F + 1) (N, f, n) = (N, f, n) := by
  have h2 : dsC c g w (N, f, n) = false := by
    show (!decide (caM N c g w < 0) && decide (N (131 + ix (caM N c g w)) = 1)) = false
    rw [← hz]
    rcases h with h | h
    · rw [decide_eq_true h]; rfl
    · rw [decide_eq_false h, Bool.and_false]
  unfold dsL
  rw [itL_n h2]
theorem ca_sub {N : Nat → Int32} {v c : Nat} {g x z : Int32} (hX : MX N v) (hc : c < 20) (hz : z = caM N c g x) (h : ¬ z < 0) : ∃ y, y < 100 ∧ z = nI y ∧ cdt N y g = true := by
  subst hz
  rcases caM_cases (g := g) (x := x) hX hc with h1 | h1
  · exact absurd (by rw [h1]; decide) h
  · exact h1
theorem ca_no {N : Nat → Int32} {v c : Nat} {g x z : Int32} (hX : MX N v) (hc : c < 20) (hz : z = caM N c g x) (hF : fzL N 0 100 ≤ 0) : z < 0 := by
  by_cases h : z < 0
  · exact h
  · obtain ⟨y, hy, -, h9⟩ := ca_sub hX hc hz h
    have := fz_pos (cdt_0 h9) 100 0 (by omega) (by omega)
    omega
theorem MX.ho {N : Nat → Int32} {v a c : Nat} (h : MX N v) (ha : a < 100) (hc : c < 20) : MX (upd N (331 + a) (nI c)) v := by
  have := h.hv
  refine ⟨h.hv, ?_, fun p hp => ?_, fun p hp => ?_, fun p hp => ?_, fun p hp => ?_, fun a' ha' => ?_, fun c' hc' => ?_⟩
  · rw [pk_un (by omega)]; exact h.hc
  · rw [pk_un (by omega)]; exact h.hg p hp
  · rw [pk_un (by omega)]; exact h.hf p hp
  · rw [pk_un (by omega)]; exact h.hl p hp
  · rw [pk_un (by omega)]; exact h.ha p hp
  · by_cases e : a' = a
    · subst e; rw [pk_us]; exact ⟨c, hc, rfl⟩
    · rw [pk_un (by omega)]; exact h.hh a' ha'
  · rw [pk_un (by omega)]; exact h.hr c' hc'
theorem MX.ad {N : Nat → Int32} {v a c : Nat} (h : MX N v) (ha : a < 100) (hc : c < 20) : MX (upd N (651 + c) (nI a)) v := by
  have := h.hv
  refine ⟨h.hv, ?_, fun p hp => ?_, fun p hp => ?_, fun p hp => ?_, fun c' hc' => ?_, fun a' ha' => ?_, fun c' hc' => ?_⟩
  · rw [pk_un (by omega)]; exact h.hc
  · rw [pk_un (by omega)]; exact h.hg p hp
  · rw [pk_un (by omega)]; exact h.hf p hp
  · rw [pk_un (by omega)]; exact h.hl p hp
  · by_cases e : c' = c
    · subst e; rw [pk_us]; exact ⟨a, ha, rfl⟩
    · rw [pk_un (by omega)]; exact h.ha c' hc'
  · rw [pk_un (by omega)]; exact h.hh a' ha'
  · rw [pk_un (by omega)]; exact h.hr c' hc'
theorem MX.d1 {N : Nat → Int32} {v c : Nat} (h : MX N v) (hc : c < 20) : MX (d1N N c) v := by
  obtain ⟨y, hy, e⟩ := h.ha c hc
  unfold d1N
  split
  · exact MX.ok (MX.fr h (by rw [aC, e, ixn (by omega)]; exact hy)) (by omega)
  · exact MX.ok h (by omega)
theorem MX.ds {N : Nat → Int32} {v y : Nat} (h : MX N v) (hy : y < 100) : MX (dsN N y) v := MX.ok (MX.de h hy) (by omega)
set_option maxHeartbeats 4000000 in
set_option maxRecDepth 100000 in
theorem k_X7_happen (E : kE) (l : Launch) (wr : va_W) (b : Nat → Nat) (μ : Sto) (a : Nat → Nat) (σ : Sto) (t : Int32) (v : Nat) (Pd : (Nat → Int32) → Prop) (hG : HG Pd t v) (hP0 : Pd (upd (μ 1) 0 t)) (hL : LG (μ 5 0)) : KM E l yX7_happen cX7_happen 5 (some .int) 5 114 0 0 [.ref (b 0), .int t] (WW E b μ a σ wr) (some (.int (nI (hapS (μ 1) (μ 4) (μ 5 0) t).2.2.2))) (WW E b (put (put (put μ 1 (hapS (μ 1) (μ 4) (μ 5 0) t).1) 4 (hapS (μ 1) (μ 4) (μ 5 0) t).2.1) 5 (sc (hapS (μ 1) (μ 4) (μ 5 0) t).2.2.1)) a σ wr) := by
  refine K_start (own := RX7) (by decide +kernel) rfl [(0, .ref (b 0)), (1, .int t)] rfl (Nat.le_of_ble_eq_true rfl) (fun p e s m below meth c X hr hin => ?_)
  refine g_iconst X dX7_happen_0 1 rfl (v := 0) rfl ?_
  refine g_istore_n X dX7_happen_1 2 rfl (by decide) [(2, .int 0), (0, .ref (b 0)), (1, .int t)] rfl ?_
  refine g_aload_n X dX7_happen_2 3 rfl rfl ?_
  refine g_get X FL_X7_9 dX7_happen_3 6 rfl 0 rfl (v := .ref (b 1)) rfl ?_
  refine g_iconst X dX7_happen_6 7 rfl (v := 0) rfl ?_
  refine g_iload_n X dX7_happen_7 8 rfl rfl ?_
  refine g_iastN (j := 0) (f := (μ 1)) X dX7_happen_8 9 rfl 1 rfl (by omega) (by decide) (WW E b (put μ 1 (upd (μ 1) 0 t)) a σ wr) rfl ?_
  refine g_iconst X dX7_happen_9 10 rfl (v := 0) rfl ?_
  refine g_istore_n X dX7_happen_10 11 rfl (by decide) [(3, .int 0), (2, .int 0), (0, .ref (b 0)), (1, .int t)] rfl ?_
  have Lo : ∀ (r q : Nat) (N0 f0 : Nat → Int32) (n0 : Int32) (k0 : Nat), (q + r = 5) → (Pd N0) → (LG n0) → (hoL t q r (N0, f0, n0, k0) = hapS (μ 1) (μ 4) (μ 5 0) t) →  G E (va_A (WW E b μ a σ wr) s.heap.size) 5 p l e ({ frames := 5, cells := 0, slots := 0, locals := 114 } : Room) s m (([.ref (b 0), .int t] : List Value).toArray) below meth c (MQ below (KQ E (WW E b μ a σ wr) s.heap.size (fun _ : Unit => (some (.int (nI (hapS (μ 1) (μ 4) (μ 5 0) t).2.2.2)))) (fun _ => WW E b (put (put (put μ 1 (hapS (μ 1) (μ 4) (μ 5 0) t).1) 4 (hapS (μ 1) (μ 4) (μ 5 0) t).2.1) 5 (sc (hapS (μ 1) (μ 4) (μ 5 0) t).2.2.1)) a σ wr)) (([.ref (b 0), .int t] : List Value).toArray) s 0 0 (va_A (WW E b μ a σ wr) s.heap.size)) 0 0 (WW E b (put (put (put μ 1 N0) 4 f0) 5 (sc n0)) a σ wr) 11 [(0, .ref (b 0)), (1, .int t), (2, .int (nI k0)), (3, .int (nI q))] [] := by
    intro r
    induction r with
    | zero =>
      intro q N0 f0 n0 k0 hq hQ0 hl0 hv0
      obtain rfl : q = 5 := by omega
      have hv2 : (N0, f0, n0, k0) = hapS (μ 1) (μ 4) (μ 5 0) t := hoL_0.symm.trans hv0
      refine g_iload_n X dX7_happen_11 12 rfl rfl ?_
      refine g_iconst X dX7_happen_12 13 rfl (v := 5) rfl ?_
      refine g_ic_ge X dX7_happen_13 71 16 rfl rfl (fun c1 => ?_) (fun c1 => absurd (by decide) c1)
      refine g_iload_n X dX7_happen_71 72 rfl rfl ?_
      exact g_iret X hr dX7_happen_72 () (congrArg (fun z : HS => (some (.int (nI z.2.2.2)) : Option Value)) hv2).symm (by refine WW_eq ?_ ?_ ?_ ?_ ?_ ?_; exact rfl; exact (congrArg (fun z : HS => z.1) hv2); exact rfl; exact rfl; exact (congrArg (fun z : HS => z.2.1) hv2); exact (congrArg (fun z : HS => z.2.2.1) hv2))
    | succ r ih =>
      intro q N0 f0 n0 k0 hq hQ0 hl0 hv0
      refine g_iload_n X dX7_happen_11 12 rfl rfl ?_
      refine g_iconst X dX7_happen_12 13 rfl (v := 5) rfl ?_
      refine g_ic_ge X dX7_happen_13 71 16 rfl rfl (fun c2 => absurd c2 (nI_ge (b := 5) (by omega) (by decide))) (fun c2 => ?_)
      refine g_iconst X dX7_happen_16 17 rfl (v := 0) rfl ?_
      refine g_istore X dX7_happen_17 19 rfl (by decide) [(4, .int 0), (0, .ref (b 0)), (1, .int t), (2, .int (nI k0)), (3, .int (nI q))] rfl ?_
      have Li : ∀ (r i : Nat) (N f : Nat → Int32) (n : Int32) (k : Nat), (i + r = 100) → (Pd N) → (LG n) → (hiL t q i r (N, f, n, k) = hiL t q 0 100 (N0, f0, n0, k0)) →  G E (va_A (WW E b μ a σ wr) s.heap.size) 5 p l e ({ frames := 5, cells := 0, slots := 0, locals := 114 } : Room) s m (([.ref (b 0), .int t] : List Value).toArray) below meth c (MQ below (KQ E (WW E b μ a σ wr) s.heap.size (fun _ : Unit => (some (.int (nI (hapS (μ 1) (μ 4) (μ 5 0) t).2.2.2)))) (fun _ => WW E b (put (put (put μ 1 (hapS (μ 1) (μ 4) (μ 5 0) t).1) 4 (hapS (μ 1) (μ 4) (μ 5 0) t).2.1) 5 (sc (hapS (μ 1) (μ 4) (μ 5 0) t).2.2.1)) a σ wr)) (([.ref (b 0), .int t] : List Value).toArray) s 0 0 (va_A (WW E b μ a σ wr) s.heap.size)) 0 0 (WW E b (put (put (put μ 1 N) 4 f) 5 (sc n)) a σ wr) 19 [(0, .ref (b 0)), (1, .int t), (2, .int (nI k)), (3, .int (nI q)), (4, .int (nI i))] [] := by
        intro r
        induction r with
        | zero =>
          intro i N f n k hi hQ hl hv
          obtain rfl : i = 100 := by omega
          have hv2 : (N, f, n, k) = hiL t q 0 100 (N0, f0, n0, k0) := hiL_0.symm.trans hv
          have hx := hG.1 N hQ
          refine g_iload X dX7_happen_19 21 rfl rfl ?_
          refine g_bipush X dX7_happen_21 23 rfl (v := 100) rfl ?_
          refine g_ic_ge X dX7_happen_23 65 26 rfl rfl (fun c3 => ?_) (fun c3 => absurd (by decide) c3)
          refine g_iinc X dX7_happen_65 68 rfl (by decide) 3 rfl (nI_1 _) [(3, .int (nI (q + 1))), (0, .ref (b 0)), (1, .int t), (2, .int (nI k)), (4, .int (nI 100))] rfl ?_
          refine g_goto X dX7_happen_68 11 rfl ?_
          refine g_lsub [1, 2, 3, 0] [(0, .ref (b 0)), (1, .int t), (2, .int (nI k)), (3, .int (nI (q + 1)))] rfl ?_
          exact ih (q + 1) N f n k (by omega) hQ hl (by rw [← hv0]; exact (hoL_s hv2).symm)
        | succ r ih =>
          intro i N f n k hi hQ hl hv
          have hx := hG.1 N hQ
          refine g_iload X dX7_happen_19 21 rfl rfl ?_
          refine g_bipush X dX7_happen_21 23 rfl (v := 100) rfl ?_
          refine g_ic_ge X dX7_happen_23 65 26 rfl rfl (fun c4 => absurd c4 (nI_ge (b := 100) (by omega) (by decide))) (fun c4 => ?_)
          refine g_aload_n X dX7_happen_26 27 rfl rfl ?_
          refine g_iload X dX7_happen_27 29 rfl rfl ?_
          refine c_V X Lk_X7_98 (k_X7_due E l wr b (put (put (put μ 1 N) 4 f) 5 (sc n)) a σ i v hx (by first | omega | assumption)) dX7_happen_29 rfl 0 rfl rfl rfl (Nat.le_of_ble_eq_true rfl) ⟨(Nat.le_of_ble_eq_true rfl), (Nat.le_of_ble_eq_true rfl)⟩ ⟨(Nat.le_of_ble_eq_true rfl), (Nat.le_of_ble_eq_true rfl)⟩ 32 rfl [.int (due N i)] rfl ?_
          refine g_iload_n X dX7_happen_32 33 rfl rfl ?_
          refine g_ic_ne X dX7_happen_33 59 36 rfl rfl (fun c5 => ?_) (fun c5 => ?_)
          · skip
            refine g_iinc X dX7_happen_59 62 rfl (by decide) 4 rfl (nI_1 _) [(4, .int (nI (i + 1))), (0, .ref (b 0)), (1, .int t), (2, .int (nI k)), (3, .int (nI q))] rfl ?_
            refine g_goto X dX7_happen_62 19 rfl ?_
            refine g_lsub [1, 2, 3, 4, 0] [(0, .ref (b 0)), (1, .int t), (2, .int (nI k)), (3, .int (nI q)), (4, .int (nI (i + 1)))] rfl ?_
            exact ih (i + 1) N f n k (by omega) hQ hl ((hiL_d c5).trans hv)
          · skip
            refine g_aload_n X dX7_happen_36 37 rfl rfl ?_
            refine g_iload X dX7_happen_37 39 rfl rfl ?_
            refine c_V X Lk_X7_101 (k_X7_kind E l wr b (put (put (put μ 1 N) 4 f) 5 (sc n)) a σ i v hx (by first | omega | assumption)) dX7_happen_39 rfl 0 rfl rfl rfl (Nat.le_of_ble_eq_true rfl) ⟨(Nat.le_of_ble_eq_true rfl), (Nat.le_of_ble_eq_true rfl)⟩ ⟨(Nat.le_of_ble_eq_true rfl), (Nat.le_of_ble_eq_true rfl)⟩ 42 rfl [.int (knd N i)] rfl ?_
            refine g_iload_n X dX7_happen_42 43 rfl rfl ?_
            refine g_ic_eq X dX7_happen_43 49 46 rfl rfl (fun c6 => ?_) (fun c6 => ?_)
            · skip
              refine g_aload_n X dX7_happen_49 50 rfl rfl ?_
              refine g_iload X dX7_happen_50 52 rfl rfl ?_
              refine g_iload_n X dX7_happen_52 53 rfl rfl ?_
              refine c_V X Lk_X7_104 (k_X7_happens E l wr b (put (put (put μ 1 N) 4 f) 5 (sc n)) a σ i t v hx (by first | omega | assumption) (hG.2 N i hQ (by omega) c5).1 (hG.2 N i hQ (by omega) c5).2.1 hl) dX7_happen_53 rfl 0 rfl rfl rfl (Nat.le_of_ble_eq_true rfl) ⟨(Nat.le_of_ble_eq_true rfl), (Nat.le_of_ble_eq_true rfl)⟩ ⟨(Nat.le_of_ble_eq_true rfl), (Nat.le_of_ble_eq_true rfl)⟩ 56 rfl [] rfl ?_
              refine g_iinc X dX7_happen_56 59 rfl (by decide) 2 rfl (nI_1 _) [(2, .int (nI (k + 1))), (0, .ref (b 0)), (1, .int t), (3, .int (nI q)), (4, .int (nI i))] rfl ?_
              refine g_iinc X dX7_happen_59 62 rfl (by decide) 4 rfl (nI_1 _) [(4, .int (nI (i + 1))), (2, .int (nI (k + 1))), (0, .ref (b 0)), (1, .int t), (3, .int (nI q))] rfl ?_
              refine g_goto X dX7_happen_62 19 rfl ?_
              refine g_lsub [2, 3, 1, 4, 0] [(0, .ref (b 0)), (1, .int t), (2, .int (nI (k + 1))), (3, .int (nI q)), (4, .int (nI (i + 1)))] rfl ?_
              exact ih (i + 1) (hpN N i t) (hpK N i f n) (hpM N i n) (k + 1) (by omega) (hG.2 N i hQ (by omega) c5).2.2 (LG.hp hl) ((hiL_t c5 c6).trans hv)
            · skip
              refine g_goto X dX7_happen_46 59 rfl ?_
              refine g_iinc X dX7_happen_59 62 rfl (by decide) 4 rfl (nI_1 _) [(4, .int (nI (i + 1))), (0, .ref (b 0)), (1, .int t), (2, .int (nI k)), (3, .int (nI q))] rfl ?_
              refine g_goto X dX7_happen_62 19 rfl ?_
              refine g_lsub [1, 2, 3, 4, 0] [(0, .ref (b 0)), (1, .int t), (2, .int (nI k)), (3, .int (nI q)), (4, .int (nI (i + 1)))] rfl ?_
              exact ih (i + 1) N f n k (by omega) hQ hl ((hiL_k c5 c6).trans hv)
      refine g_lsub [1, 2, 3, 4, 0] [(0, .ref (b 0)), (1, .int t), (2, .int (nI k0)), (3, .int (nI q)), (4, .int 0)] rfl ?_
      exact Li 100 0 N0 f0 n0 k0 rfl hQ0 hl0 rfl
  refine g_lsub [2, 3, 1, 0] [(0, .ref (b 0)), (1, .int t), (2, .int 0), (3, .int 0)] rfl ?_
  rw [show WW E b (put μ 1 (upd (μ 1) 0 t)) a σ wr = WW E b (put (put (put μ 1 (upd (μ 1) 0 t)) 4 (μ 4)) 5 (sc (μ 5 0))) a σ wr from by refine WW_eq ?_ ?_ ?_ ?_ ?_ ?_ <;> simp only [put_s, sc, pn_01, pn_02, pn_03, pn_04, pn_05, pn_10, pn_12, pn_13, pn_14, pn_15, pn_20, pn_21, pn_23, pn_24, pn_25, pn_30, pn_31, pn_32, pn_34, pn_35, pn_40, pn_41, pn_42, pn_43, pn_45, pn_50, pn_51, pn_52, pn_53, pn_54]]
  exact Lo 5 0 (upd (μ 1) 0 t) (μ 4) (μ 5 0) 0 rfl hP0 hL rfl

set_option maxHeartbeats 4000000 in
set_option maxRecDepth 100000 in
theorem k_X7_advance (E : kE) (l : Launch) (wr : va_W) (b : Nat → Nat) (μ : Sto) (a : Nat → Nat) (σ : Sto) (x : Int32) (v : Nat) (Q : (Nat → Int32) → Prop) (hA : AG Q ((μ 1) 0 + x) v) (hQ0 : Q (μ 1)) (hL : LG (μ 5 0)) : KM E l yX7_advance cX7_advance 4 (some .int) 6 138 0 0 [.ref (b 0), .int x] (WW E b μ a σ wr) (some (.int (bif inR x 1 2000 then (if ((μ 1) 0 + x) ≤ 100000 then nI (avS (μ 1) (μ 4) (μ 5 0) ((μ 1) 0 + x)).2.2.2 else 0) else 0))) (WW E b (put (put (put (put μ 0 (sc (bif inR x 1 2000 then (if ((μ 1) 0 + x) ≤ 100000 then 0 else 2) else 1))) 1 (bif inR x 1 2000 then (if ((μ 1) 0 + x) ≤ 100000 then upd (avS (μ 1) (μ 4) (μ 5 0) ((μ 1) 0 + x)).1 0 ((μ 1) 0 + x) else (μ 1)) else (μ 1))) 4 (bif inR x 1 2000 then (if ((μ 1) 0 + x) ≤ 100000 then (avS (μ 1) (μ 4) (μ 5 0) ((μ 1) 0 + x)).2.1 else (μ 4)) else (μ 4))) 5 (sc (bif inR x 1 2000 then (if ((μ 1) 0 + x) ≤ 100000 then (avS (μ 1) (μ 4) (μ 5 0) ((μ 1) 0 + x)).2.2.1 else (μ 5 0)) else (μ 5 0)))) a σ wr) := by
  refine K_start (own := RX7) (by decide +kernel) rfl [(0, .ref (b 0)), (1, .int x)] rfl (Nat.le_of_ble_eq_true rfl) (fun p e s m below meth c X hr hin => ?_)
  refine g_aload_n X dX7_advance_0 1 rfl rfl ?_
  refine g_iconst X dX7_advance_1 2 rfl (v := 0) rfl ?_
  refine g_put X FL_X7_19 fk_X7 dX7_advance_2 5 rfl rfl 0 rfl rfl rfl (Nat.le_of_ble_eq_true rfl) (WW E b (put μ 0 (sc 0)) a σ wr) rfl ?_
  refine g_iload_n X dX7_advance_5 6 rfl rfl ?_
  refine g_iconst X dX7_advance_6 7 rfl (v := 1) rfl ?_
  refine g_sipush X dX7_advance_7 10 rfl (v := 2000) rfl ?_
  refine c_S X Lk_X7_23 (k_X7_in E l wr b (put μ 0 (sc 0)) a σ x 1 2000) dX7_advance_10 rfl rfl (Nat.le_of_ble_eq_true rfl) ⟨(Nat.le_of_ble_eq_true rfl), (Nat.le_of_ble_eq_true rfl)⟩ ⟨(Nat.le_of_ble_eq_true rfl), (Nat.le_of_ble_eq_true rfl)⟩ 13 rfl [.int (bi (inR x 1 2000))] rfl ?_
  refine g_ifb_ne X dX7_advance_13 22 16 rfl rfl (fun c1 => ?_) (fun c1 => ?_)
  · skip
    refine g_aload_n X dX7_advance_22 23 rfl rfl ?_
    refine g_get X FL_X7_9 dX7_advance_23 26 rfl 0 rfl (v := .ref (b 1)) rfl ?_
    refine g_iconst X dX7_advance_26 27 rfl (v := 0) rfl ?_
    refine g_ialdN (j := 0) (f := (μ 1)) X dX7_advance_27 28 rfl 1 rfl (by omega) (by decide) ?_
    refine g_iload_n X dX7_advance_28 29 rfl rfl ?_
    refine g_iadd X dX7_advance_29 30 rfl ?_
    refine g_ldc X Co_X7_107 dX7_advance_30 32 rfl ?_
    refine g_ic_le X dX7_advance_32 41 35 rfl rfl (fun c2 => ?_) (fun c2 => ?_)
    · skip
      refine g_aload_n X dX7_advance_41 42 rfl rfl ?_
      refine g_get X FL_X7_9 dX7_advance_42 45 rfl 0 rfl (v := .ref (b 1)) rfl ?_
      refine g_iconst X dX7_advance_45 46 rfl (v := 0) rfl ?_
      refine g_ialdN (j := 0) (f := (μ 1)) X dX7_advance_46 47 rfl 1 rfl (by omega) (by decide) ?_
      refine g_iload_n X dX7_advance_47 48 rfl rfl ?_
      refine g_iadd X dX7_advance_48 49 rfl ?_
      refine g_istore_n X dX7_advance_49 50 rfl (by decide) [(2, .int ((μ 1 0) + x)), (0, .ref (b 0)), (1, .int x)] rfl ?_
      refine g_iconst X dX7_advance_50 51 rfl (v := 0) rfl ?_
      refine g_istore_n X dX7_advance_51 52 rfl (by decide) [(3, .int 0), (2, .int ((μ 1 0) + x)), (0, .ref (b 0)), (1, .int x)] rfl ?_
      have La : ∀ (F k : Nat) (N f : Nat → Int32) (n : Int32), ((((μ 1) 0 + x).toInt - (N 0).toInt).toNat ≤ F) → (Q N) → (LG n) → (avL ((μ 1) 0 + x) F (N, f, n, k) = avS (μ 1) (μ 4) (μ 5 0) ((μ 1) 0 + x)) →  G E (va_A (WW E b μ a σ wr) s.heap.size) 4 p l e ({ frames := 6, cells := 0, slots := 0, locals := 138 } : Room) s m (([.ref (b 0), .int x] : List Value).toArray) below meth c (MQ below (KQ E (WW E b μ a σ wr) s.heap.size (fun _ : Unit => (some (.int (bif inR x 1 2000 then (if ((μ 1) 0 + x) ≤ 100000 then nI (avS (μ 1) (μ 4) (μ 5 0) ((μ 1) 0 + x)).2.2.2 else 0) else 0)))) (fun _ => WW E b (put (put (put (put μ 0 (sc (bif inR x 1 2000 then (if ((μ 1) 0 + x) ≤ 100000 then 0 else 2) else 1))) 1 (bif inR x 1 2000 then (if ((μ 1) 0 + x) ≤ 100000 then upd (avS (μ 1) (μ 4) (μ 5 0) ((μ 1) 0 + x)).1 0 ((μ 1) 0 + x) else (μ 1)) else (μ 1))) 4 (bif inR x 1 2000 then (if ((μ 1) 0 + x) ≤ 100000 then (avS (μ 1) (μ 4) (μ 5 0) ((μ 1) 0 + x)).2.1 else (μ 4)) else (μ 4))) 5 (sc (bif inR x 1 2000 then (if ((μ 1) 0 + x) ≤ 100000 then (avS (μ 1) (μ 4) (μ 5 0) ((μ 1) 0 + x)).2.2.1 else (μ 5 0)) else (μ 5 0)))) a σ wr)) (([.ref (b 0), .int x] : List Value).toArray) s 0 0 (va_A (WW E b μ a σ wr) s.heap.size)) 0 0 (WW E b (put (put (put (put μ 0 (sc 0)) 1 N) 4 f) 5 (sc n)) a σ wr) 52 [(0, .ref (b 0)), (1, .int x), (2, .int ((μ 1 0) + x)), (3, .int (nI k))] [] := by
        intro F
        induction F with
        | zero =>
          intro k N f n hm hQ hl hv
          have hx := (hA N hQ).1
          refine g_aload_n X dX7_advance_52 53 rfl rfl ?_
          refine c_V X Lk_X7_108 (k_X7_earliest E l wr b (put (put (put (put μ 0 (sc 0)) 1 N) 4 f) 5 (sc n)) a σ v hx) dX7_advance_53 rfl 0 rfl rfl rfl (Nat.le_of_ble_eq_true rfl) ⟨(Nat.le_of_ble_eq_true rfl), (Nat.le_of_ble_eq_true rfl)⟩ ⟨(Nat.le_of_ble_eq_true rfl), (Nat.le_of_ble_eq_true rfl)⟩ 56 rfl [.int (eaM N)] rfl ?_
          refine g_if_lt X dX7_advance_56 81 59 rfl rfl (fun c3 => ?_) (fun c3 => ?_)
          · skip
            have h9 : avS (μ 1) (μ 4) (μ 5 0) ((μ 1) 0 + x) = (N, f, n, k) := hv.symm.trans avL_0
            refine g_aload_n X dX7_advance_81 82 rfl rfl ?_
            refine g_get X FL_X7_9 dX7_advance_82 85 rfl 0 rfl (v := .ref (b 1)) rfl ?_
            refine g_iconst X dX7_advance_85 86 rfl (v := 0) rfl ?_
            refine g_iload_n X dX7_advance_86 87 rfl rfl ?_
            refine g_iastN (j := 0) (f := N) X dX7_advance_87 88 rfl 1 rfl (by omega) (by decide) (WW E b (put (put (put (put μ 0 (sc 0)) 4 f) 5 (sc n)) 1 (upd N 0 ((μ 1 0) + x))) a σ wr) rfl ?_
            refine g_iload_n X dX7_advance_88 89 rfl rfl ?_
            exact g_iret X hr dX7_advance_89 () (by show (some (.int (bif inR x 1 2000 then (if ((μ 1) 0 + x) ≤ 100000 then nI (avS (μ 1) (μ 4) (μ 5 0) ((μ 1) 0 + x)).2.2.2 else 0) else 0)) : Option Value) = some (.int (nI k)); rw [c1, cond_true, if_pos c2] <;> try rw [h9]) (by refine WW_eq ?_ ?_ ?_ ?_ ?_ ?_; (simp only [put_s, sc, pn_01, pn_02, pn_03, pn_04, pn_05, pn_10, pn_12, pn_13, pn_14, pn_15, pn_20, pn_21, pn_23, pn_24, pn_25, pn_30, pn_31, pn_32, pn_34, pn_35, pn_40, pn_41, pn_42, pn_43, pn_45, pn_50, pn_51, pn_52, pn_53, pn_54]; show 0 = (bif inR x 1 2000 then (if ((μ 1) 0 + x) ≤ 100000 then 0 else 2) else 1); rw [c1, cond_true, if_pos c2] <;> try rw [h9]); (simp only [put_s, sc, pn_01, pn_02, pn_03, pn_04, pn_05, pn_10, pn_12, pn_13, pn_14, pn_15, pn_20, pn_21, pn_23, pn_24, pn_25, pn_30, pn_31, pn_32, pn_34, pn_35, pn_40, pn_41, pn_42, pn_43, pn_45, pn_50, pn_51, pn_52, pn_53, pn_54]; show (upd N 0 ((μ 1 0) + x)) = (bif inR x 1 2000 then (if ((μ 1) 0 + x) ≤ 100000 then upd (avS (μ 1) (μ 4) (μ 5 0) ((μ 1) 0 + x)).1 0 ((μ 1) 0 + x) else (μ 1)) else (μ 1)); rw [c1, cond_true, if_pos c2] <;> try rw [h9]); simp only [put_s, sc, pn_01, pn_02, pn_03, pn_04, pn_05, pn_10, pn_12, pn_13, pn_14, pn_15, pn_20, pn_21, pn_23, pn_24, pn_25, pn_30, pn_31, pn_32, pn_34, pn_35, pn_40, pn_41, pn_42, pn_43, pn_45, pn_50, pn_51, pn_52, pn_53, pn_54]; simp only [put_s, sc, pn_01, pn_02, pn_03, pn_04, pn_05, pn_10, pn_12, pn_13, pn_14, pn_15, pn_20, pn_21, pn_23, pn_24, pn_25, pn_30, pn_31, pn_32, pn_34, pn_35, pn_40, pn_41, pn_42, pn_43, pn_45, pn_50, pn_51, pn_52, pn_53, pn_54]; (simp only [put_s, sc, pn_01, pn_02, pn_03, pn_04, pn_05, pn_10, pn_12, pn_13, pn_14, pn_15, pn_20, pn_21, pn_23, pn_24, pn_25, pn_30, pn_31, pn_32, pn_34, pn_35, pn_40, pn_41, pn_42, pn_43, pn_45, pn_50, pn_51, pn_52, pn_53, pn_54]; show f = (bif inR x 1 2000 then (if ((μ 1) 0 + x) ≤ 100000 then (avS (μ 1) (μ 4) (μ 5 0) ((μ 1) 0 + x)).2.1 else (μ 4)) else (μ 4)); rw [c1, cond_true, if_pos c2] <;> try rw [h9]); (simp only [put_s, sc, pn_01, pn_02, pn_03, pn_04, pn_05, pn_10, pn_12, pn_13, pn_14, pn_15, pn_20, pn_21, pn_23, pn_24, pn_25, pn_30, pn_31, pn_32, pn_34, pn_35, pn_40, pn_41, pn_42, pn_43, pn_45, pn_50, pn_51, pn_52, pn_53, pn_54]; show n = (bif inR x 1 2000 then (if ((μ 1) 0 + x) ≤ 100000 then (avS (μ 1) (μ 4) (μ 5 0) ((μ 1) 0 + x)).2.2.1 else (μ 5 0)) else (μ 5 0)); rw [c1, cond_true, if_pos c2] <;> try rw [h9]))
          · skip
            refine g_aload_n X dX7_advance_59 60 rfl rfl ?_
            refine c_V X Lk_X7_108 (k_X7_earliest E l wr b (put (put (put (put μ 0 (sc 0)) 1 N) 4 f) 5 (sc n)) a σ v hx) dX7_advance_60 rfl 0 rfl rfl rfl (Nat.le_of_ble_eq_true rfl) ⟨(Nat.le_of_ble_eq_true rfl), (Nat.le_of_ble_eq_true rfl)⟩ ⟨(Nat.le_of_ble_eq_true rfl), (Nat.le_of_ble_eq_true rfl)⟩ 63 rfl [.int (eaM N)] rfl ?_
            refine g_iload_n X dX7_advance_63 64 rfl rfl ?_
            refine g_ic_gt X dX7_advance_64 81 67 rfl rfl (fun c4 => ?_) (fun c4 => absurd (av_no hA hQ hm c3) c4)
            have h9 : avS (μ 1) (μ 4) (μ 5 0) ((μ 1) 0 + x) = (N, f, n, k) := hv.symm.trans avL_0
            refine g_aload_n X dX7_advance_81 82 rfl rfl ?_
            refine g_get X FL_X7_9 dX7_advance_82 85 rfl 0 rfl (v := .ref (b 1)) rfl ?_
            refine g_iconst X dX7_advance_85 86 rfl (v := 0) rfl ?_
            refine g_iload_n X dX7_advance_86 87 rfl rfl ?_
            refine g_iastN (j := 0) (f := N) X dX7_advance_87 88 rfl 1 rfl (by omega) (by decide) (WW E b (put (put (put (put μ 0 (sc 0)) 4 f) 5 (sc n)) 1 (upd N 0 ((μ 1 0) + x))) a σ wr) rfl ?_
            refine g_iload_n X dX7_advance_88 89 rfl rfl ?_
            exact g_iret X hr dX7_advance_89 () (by show (some (.int (bif inR x 1 2000 then (if ((μ 1) 0 + x) ≤ 100000 then nI (avS (μ 1) (μ 4) (μ 5 0) ((μ 1) 0 + x)).2.2.2 else 0) else 0)) : Option Value) = some (.int (nI k)); rw [c1, cond_true, if_pos c2] <;> try rw [h9]) (by refine WW_eq ?_ ?_ ?_ ?_ ?_ ?_; (simp only [put_s, sc, pn_01, pn_02, pn_03, pn_04, pn_05, pn_10, pn_12, pn_13, pn_14, pn_15, pn_20, pn_21, pn_23, pn_24, pn_25, pn_30, pn_31, pn_32, pn_34, pn_35, pn_40, pn_41, pn_42, pn_43, pn_45, pn_50, pn_51, pn_52, pn_53, pn_54]; show 0 = (bif inR x 1 2000 then (if ((μ 1) 0 + x) ≤ 100000 then 0 else 2) else 1); rw [c1, cond_true, if_pos c2] <;> try rw [h9]); (simp only [put_s, sc, pn_01, pn_02, pn_03, pn_04, pn_05, pn_10, pn_12, pn_13, pn_14, pn_15, pn_20, pn_21, pn_23, pn_24, pn_25, pn_30, pn_31, pn_32, pn_34, pn_35, pn_40, pn_41, pn_42, pn_43, pn_45, pn_50, pn_51, pn_52, pn_53, pn_54]; show (upd N 0 ((μ 1 0) + x)) = (bif inR x 1 2000 then (if ((μ 1) 0 + x) ≤ 100000 then upd (avS (μ 1) (μ 4) (μ 5 0) ((μ 1) 0 + x)).1 0 ((μ 1) 0 + x) else (μ 1)) else (μ 1)); rw [c1, cond_true, if_pos c2] <;> try rw [h9]); simp only [put_s, sc, pn_01, pn_02, pn_03, pn_04, pn_05, pn_10, pn_12, pn_13, pn_14, pn_15, pn_20, pn_21, pn_23, pn_24, pn_25, pn_30, pn_31, pn_32, pn_34, pn_35, pn_40, pn_41, pn_42, pn_43, pn_45, pn_50, pn_51, pn_52, pn_53, pn_54]; simp only [put_s, sc, pn_01, pn_02, pn_03, pn_04, pn_05, pn_10, pn_12, pn_13, pn_14, pn_15, pn_20, pn_21, pn_23, pn_24, pn_25, pn_30, pn_31, pn_32, pn_34, pn_35, pn_40, pn_41, pn_42, pn_43, pn_45, pn_50, pn_51, pn_52, pn_53, pn_54]; (simp only [put_s, sc, pn_01, pn_02, pn_03, pn_04, pn_05, pn_10, pn_12, pn_13, pn_14, pn_15, pn_20, pn_21, pn_23, pn_24, pn_25, pn_30, pn_31, pn_32, pn_34, pn_35, pn_40, pn_41, pn_42, pn_43, pn_45, pn_50, pn_51, pn_52, pn_53, pn_54]; show f = (bif inR x 1 2000 then (if ((μ 1) 0 + x) ≤ 100000 then (avS (μ 1) (μ 4) (μ 5 0) ((μ 1) 0 + x)).2.1 else (μ 4)) else (μ 4)); rw [c1, cond_true, if_pos c2] <;> try rw [h9]); (simp only [put_s, sc, pn_01, pn_02, pn_03, pn_04, pn_05, pn_10, pn_12, pn_13, pn_14, pn_15, pn_20, pn_21, pn_23, pn_24, pn_25, pn_30, pn_31, pn_32, pn_34, pn_35, pn_40, pn_41, pn_42, pn_43, pn_45, pn_50, pn_51, pn_52, pn_53, pn_54]; show n = (bif inR x 1 2000 then (if ((μ 1) 0 + x) ≤ 100000 then (avS (μ 1) (μ 4) (μ 5 0) ((μ 1) 0 + x)).2.2.1 else (μ 5 0)) else (μ 5 0)); rw [c1, cond_true, if_pos c2] <;> try rw [h9]))
        | succ F ih =>
          intro k N f n hm hQ hl hv
          have hx := (hA N hQ).1
          refine g_aload_n X dX7_advance_52 53 rfl rfl ?_
          refine c_V X Lk_X7_108 (k_X7_earliest E l wr b (put (put (put (put μ 0 (sc 0)) 1 N) 4 f) 5 (sc n)) a σ v hx) dX7_advance_53 rfl 0 rfl rfl rfl (Nat.le_of_ble_eq_true rfl) ⟨(Nat.le_of_ble_eq_true rfl), (Nat.le_of_ble_eq_true rfl)⟩ ⟨(Nat.le_of_ble_eq_true rfl), (Nat.le_of_ble_eq_true rfl)⟩ 56 rfl [.int (eaM N)] rfl ?_
          refine g_if_lt X dX7_advance_56 81 59 rfl rfl (fun c5 => ?_) (fun c5 => ?_)
          · skip
            have h9 : avS (μ 1) (μ 4) (μ 5 0) ((μ 1) 0 + x) = (N, f, n, k) := hv.symm.trans (avL_n (Or.inl c5))
            refine g_aload_n X dX7_advance_81 82 rfl rfl ?_
            refine g_get X FL_X7_9 dX7_advance_82 85 rfl 0 rfl (v := .ref (b 1)) rfl ?_
            refine g_iconst X dX7_advance_85 86 rfl (v := 0) rfl ?_
            refine g_iload_n X dX7_advance_86 87 rfl rfl ?_
            refine g_iastN (j := 0) (f := N) X dX7_advance_87 88 rfl 1 rfl (by omega) (by decide) (WW E b (put (put (put (put μ 0 (sc 0)) 4 f) 5 (sc n)) 1 (upd N 0 ((μ 1 0) + x))) a σ wr) rfl ?_
            refine g_iload_n X dX7_advance_88 89 rfl rfl ?_
            exact g_iret X hr dX7_advance_89 () (by show (some (.int (bif inR x 1 2000 then (if ((μ 1) 0 + x) ≤ 100000 then nI (avS (μ 1) (μ 4) (μ 5 0) ((μ 1) 0 + x)).2.2.2 else 0) else 0)) : Option Value) = some (.int (nI k)); rw [c1, cond_true, if_pos c2] <;> try rw [h9]) (by refine WW_eq ?_ ?_ ?_ ?_ ?_ ?_; (simp only [put_s, sc, pn_01, pn_02, pn_03, pn_04, pn_05, pn_10, pn_12, pn_13, pn_14, pn_15, pn_20, pn_21, pn_23, pn_24, pn_25, pn_30, pn_31, pn_32, pn_34, pn_35, pn_40, pn_41, pn_42, pn_43, pn_45, pn_50, pn_51, pn_52, pn_53, pn_54]; show 0 = (bif inR x 1 2000 then (if ((μ 1) 0 + x) ≤ 100000 then 0 else 2) else 1); rw [c1, cond_true, if_pos c2] <;> try rw [h9]); (simp only [put_s, sc, pn_01, pn_02, pn_03, pn_04, pn_05, pn_10, pn_12, pn_13, pn_14, pn_15, pn_20, pn_21, pn_23, pn_24, pn_25, pn_30, pn_31, pn_32, pn_34, pn_35, pn_40, pn_41, pn_42, pn_43, pn_45, pn_50, pn_51, pn_52, pn_53, pn_54]; show (upd N 0 ((μ 1 0) + x)) = (bif inR x 1 2000 then (if ((μ 1) 0 + x) ≤ 100000 then upd (avS (μ 1) (μ 4) (μ 5 0) ((μ 1) 0 + x)).1 0 ((μ 1) 0 + x) else (μ 1)) else (μ 1)); rw [c1, cond_true, if_pos c2] <;> try rw [h9]); simp only [put_s, sc, pn_01, pn_02, pn_03, pn_04, pn_05, pn_10, pn_12, pn_13, pn_14, pn_15, pn_20, pn_21, pn_23, pn_24, pn_25, pn_30, pn_31, pn_32, pn_34, pn_35, pn_40, pn_41, pn_42, pn_43, pn_45, pn_50, pn_51, pn_52, pn_53, pn_54]; simp only [put_s, sc, pn_01, pn_02, pn_03, pn_04, pn_05, pn_10, pn_12, pn_13, pn_14, pn_15, pn_20, pn_21, pn_23, pn_24, pn_25, pn_30, pn_31, pn_32, pn_34, pn_35, pn_40, pn_41, pn_42, pn_43, pn_45, pn_50, pn_51, pn_52, pn_53, pn_54]; (simp only [put_s, sc, pn_01, pn_02, pn_03, pn_04, pn_05, pn_10, pn_12, pn_13, pn_14, pn_15, pn_20, pn_21, pn_23, pn_24, pn_25, pn_30, pn_31, pn_32, pn_34, pn_35, pn_40, pn_41, pn_42, pn_43, pn_45, pn_50, pn_51, pn_52, pn_53, pn_54]; show f = (bif inR x 1 2000 then (if ((μ 1) 0 + x) ≤ 100000 then (avS (μ 1) (μ 4) (μ 5 0) ((μ 1) 0 + x)).2.1 else (μ 4)) else (μ 4)); rw [c1, cond_true, if_pos c2] <;> try rw [h9]); (simp only [put_s, sc, pn_01, pn_02, pn_03, pn_04, pn_05, pn_10, pn_12, pn_13, pn_14, pn_15, pn_20, pn_21, pn_23, pn_24, pn_25, pn_30, pn_31, pn_32, pn_34, pn_35, pn_40, pn_41, pn_42, pn_43, pn_45, pn_50, pn_51, pn_52, pn_53, pn_54]; show n = (bif inR x 1 2000 then (if ((μ 1) 0 + x) ≤ 100000 then (avS (μ 1) (μ 4) (μ 5 0) ((μ 1) 0 + x)).2.2.1 else (μ 5 0)) else (μ 5 0)); rw [c1, cond_true, if_pos c2] <;> try rw [h9]))
          · skip
            refine g_aload_n X dX7_advance_59 60 rfl rfl ?_
            refine c_V X Lk_X7_108 (k_X7_earliest E l wr b (put (put (put (put μ 0 (sc 0)) 1 N) 4 f) 5 (sc n)) a σ v hx) dX7_advance_60 rfl 0 rfl rfl rfl (Nat.le_of_ble_eq_true rfl) ⟨(Nat.le_of_ble_eq_true rfl), (Nat.le_of_ble_eq_true rfl)⟩ ⟨(Nat.le_of_ble_eq_true rfl), (Nat.le_of_ble_eq_true rfl)⟩ 63 rfl [.int (eaM N)] rfl ?_
            refine g_iload_n X dX7_advance_63 64 rfl rfl ?_
            refine g_ic_gt X dX7_advance_64 81 67 rfl rfl (fun c6 => ?_) (fun c6 => ?_)
            · skip
              have h9 : avS (μ 1) (μ 4) (μ 5 0) ((μ 1) 0 + x) = (N, f, n, k) := hv.symm.trans (avL_n (Or.inr c6))
              refine g_aload_n X dX7_advance_81 82 rfl rfl ?_
              refine g_get X FL_X7_9 dX7_advance_82 85 rfl 0 rfl (v := .ref (b 1)) rfl ?_
              refine g_iconst X dX7_advance_85 86 rfl (v := 0) rfl ?_
              refine g_iload_n X dX7_advance_86 87 rfl rfl ?_
              refine g_iastN (j := 0) (f := N) X dX7_advance_87 88 rfl 1 rfl (by omega) (by decide) (WW E b (put (put (put (put μ 0 (sc 0)) 4 f) 5 (sc n)) 1 (upd N 0 ((μ 1 0) + x))) a σ wr) rfl ?_
              refine g_iload_n X dX7_advance_88 89 rfl rfl ?_
              exact g_iret X hr dX7_advance_89 () (by show (some (.int (bif inR x 1 2000 then (if ((μ 1) 0 + x) ≤ 100000 then nI (avS (μ 1) (μ 4) (μ 5 0) ((μ 1) 0 + x)).2.2.2 else 0) else 0)) : Option Value) = some (.int (nI k)); rw [c1, cond_true, if_pos c2] <;> try rw [h9]) (by refine WW_eq ?_ ?_ ?_ ?_ ?_ ?_; (simp only [put_s, sc, pn_01, pn_02, pn_03, pn_04, pn_05, pn_10, pn_12, pn_13, pn_14, pn_15, pn_20, pn_21, pn_23, pn_24, pn_25, pn_30, pn_31, pn_32, pn_34, pn_35, pn_40, pn_41, pn_42, pn_43, pn_45, pn_50, pn_51, pn_52, pn_53, pn_54]; show 0 = (bif inR x 1 2000 then (if ((μ 1) 0 + x) ≤ 100000 then 0 else 2) else 1); rw [c1, cond_true, if_pos c2] <;> try rw [h9]); (simp only [put_s, sc, pn_01, pn_02, pn_03, pn_04, pn_05, pn_10, pn_12, pn_13, pn_14, pn_15, pn_20, pn_21, pn_23, pn_24, pn_25, pn_30, pn_31, pn_32, pn_34, pn_35, pn_40, pn_41, pn_42, pn_43, pn_45, pn_50, pn_51, pn_52, pn_53, pn_54]; show (upd N 0 ((μ 1 0) + x)) = (bif inR x 1 2000 then (if ((μ 1) 0 + x) ≤ 100000 then upd (avS (μ 1) (μ 4) (μ 5 0) ((μ 1) 0 + x)).1 0 ((μ 1) 0 + x) else (μ 1)) else (μ 1)); rw [c1, cond_true, if_pos c2] <;> try rw [h9]); simp only [put_s, sc, pn_01, pn_02, pn_03, pn_04, pn_05, pn_10, pn_12, pn_13, pn_14, pn_15, pn_20, pn_21, pn_23, pn_24, pn_25, pn_30, pn_31, pn_32, pn_34, pn_35, pn_40, pn_41, pn_42, pn_43, pn_45, pn_50, pn_51, pn_52, pn_53, pn_54]; simp only [put_s, sc, pn_01, pn_02, pn_03, pn_04, pn_05, pn_10, pn_12, pn_13, pn_14, pn_15, pn_20, pn_21, pn_23, pn_24, pn_25, pn_30, pn_31, pn_32, pn_34, pn_35, pn_40, pn_41, pn_42, pn_43, pn_45, pn_50, pn_51, pn_52, pn_53, pn_54]; (simp only [put_s, sc, pn_01, pn_02, pn_03, pn_04, pn_05, pn_10, pn_12, pn_13, pn_14, pn_15, pn_20, pn_21, pn_23, pn_24, pn_25, pn_30, pn_31, pn_32, pn_34, pn_35, pn_40, pn_41, pn_42, pn_43, pn_45, pn_50, pn_51, pn_52, pn_53, pn_54]; show f = (bif inR x 1 2000 then (if ((μ 1) 0 + x) ≤ 100000 then (avS (μ 1) (μ 4) (μ 5 0) ((μ 1) 0 + x)).2.1 else (μ 4)) else (μ 4)); rw [c1, cond_true, if_pos c2] <;> try rw [h9]); (simp only [put_s, sc, pn_01, pn_02, pn_03, pn_04, pn_05, pn_10, pn_12, pn_13, pn_14, pn_15, pn_20, pn_21, pn_23, pn_24, pn_25, pn_30, pn_31, pn_32, pn_34, pn_35, pn_40, pn_41, pn_42, pn_43, pn_45, pn_50, pn_51, pn_52, pn_53, pn_54]; show n = (bif inR x 1 2000 then (if ((μ 1) 0 + x) ≤ 100000 then (avS (μ 1) (μ 4) (μ 5 0) ((μ 1) 0 + x)).2.2.1 else (μ 5 0)) else (μ 5 0)); rw [c1, cond_true, if_pos c2] <;> try rw [h9]))
            · skip
              have hge : 0 ≤ eaM N := Int32.not_lt.mp c5
              have hle : eaM N ≤ ((μ 1) 0 + x) := Int32.not_lt.mp c6
              obtain ⟨hlt, ⟨Pd, hG, hP0⟩, hN⟩ := (hA N hQ).2 hge hle
              refine g_iload_n X dX7_advance_67 68 rfl rfl ?_
              refine g_aload_n X dX7_advance_68 69 rfl rfl ?_
              refine g_aload_n X dX7_advance_69 70 rfl rfl ?_
              refine c_V X Lk_X7_108 (k_X7_earliest E l wr b (put (put (put (put μ 0 (sc 0)) 1 N) 4 f) 5 (sc n)) a σ v hx) dX7_advance_70 rfl 0 rfl rfl rfl (Nat.le_of_ble_eq_true rfl) ⟨(Nat.le_of_ble_eq_true rfl), (Nat.le_of_ble_eq_true rfl)⟩ ⟨(Nat.le_of_ble_eq_true rfl), (Nat.le_of_ble_eq_true rfl)⟩ 73 rfl [.int (eaM N), .ref (b 0), .int (nI k)] rfl ?_
              refine c_V X Lk_X7_112 (k_X7_happen E l wr b (put (put (put (put μ 0 (sc 0)) 1 N) 4 f) 5 (sc n)) a σ (eaM N) v Pd hG hP0 hl) dX7_advance_73 rfl 0 rfl rfl rfl (Nat.le_of_ble_eq_true rfl) ⟨(Nat.le_of_ble_eq_true rfl), (Nat.le_of_ble_eq_true rfl)⟩ ⟨(Nat.le_of_ble_eq_true rfl), (Nat.le_of_ble_eq_true rfl)⟩ 76 rfl [.int (nI (hapS N f n (eaM N)).2.2.2), .int (nI k)] rfl ?_
              refine g_iaddN X dX7_advance_76 77 rfl k ((hapS N f n (eaM N)).2.2.2) rfl rfl ?_
              refine g_istore_n X dX7_advance_77 78 rfl (by decide) [(3, .int (nI (k + (hapS N f n (eaM N)).2.2.2))), (0, .ref (b 0)), (1, .int x), (2, .int ((μ 1 0) + x))] rfl ?_
              refine g_goto X dX7_advance_78 52 rfl ?_
              refine g_lsub [1, 2, 3, 0] [(0, .ref (b 0)), (1, .int x), (2, .int ((μ 1 0) + x)), (3, .int (nI (k + (hapS N f n (eaM N)).2.2.2)))] rfl ?_
              exact ih (k + (hapS N f n (eaM N)).2.2.2) _ _ _ (av_st hm hlt (hN f n).2) (hN f n).1 (LG.hap hl) ((avL_s c5 c6).symm.trans hv)
      refine g_lsub [2, 3, 1, 0] [(0, .ref (b 0)), (1, .int x), (2, .int ((μ 1 0) + x)), (3, .int 0)] rfl ?_
      rw [show WW E b (put μ 0 (sc 0)) a σ wr = WW E b (put (put (put (put μ 0 (sc 0)) 1 (μ 1)) 4 (μ 4)) 5 (sc (μ 5 0))) a σ wr from by refine WW_eq ?_ ?_ ?_ ?_ ?_ ?_ <;> simp only [put_s, sc, pn_01, pn_02, pn_03, pn_04, pn_05, pn_10, pn_12, pn_13, pn_14, pn_15, pn_20, pn_21, pn_23, pn_24, pn_25, pn_30, pn_31, pn_32, pn_34, pn_35, pn_40, pn_41, pn_42, pn_43, pn_45, pn_50, pn_51, pn_52, pn_53, pn_54]]
      exact La _ 0 (μ 1) (μ 4) (μ 5 0) (Nat.le_refl _) hQ0 hL rfl
    · skip
      refine g_aload_n X dX7_advance_35 36 rfl rfl ?_
      refine g_iconst X dX7_advance_36 37 rfl (v := 2) rfl ?_
      refine c_V X Lk_X7_41 (k_X7_raises E l wr b (put μ 0 (sc 0)) a σ 2) dX7_advance_37 rfl 0 rfl rfl rfl (Nat.le_of_ble_eq_true rfl) ⟨(Nat.le_of_ble_eq_true rfl), (Nat.le_of_ble_eq_true rfl)⟩ ⟨(Nat.le_of_ble_eq_true rfl), (Nat.le_of_ble_eq_true rfl)⟩ 40 rfl [.int 0] rfl ?_
      exact g_iret X hr dX7_advance_40 () (by show (some (.int (bif inR x 1 2000 then (if ((μ 1) 0 + x) ≤ 100000 then nI (avS (μ 1) (μ 4) (μ 5 0) ((μ 1) 0 + x)).2.2.2 else 0) else 0)) : Option Value) = some (.int 0); rw [c1, cond_true, if_neg c2]) (by refine WW_eq ?_ ?_ ?_ ?_ ?_ ?_; (simp only [put_s, sc, pn_01, pn_02, pn_03, pn_04, pn_05, pn_10, pn_12, pn_13, pn_14, pn_15, pn_20, pn_21, pn_23, pn_24, pn_25, pn_30, pn_31, pn_32, pn_34, pn_35, pn_40, pn_41, pn_42, pn_43, pn_45, pn_50, pn_51, pn_52, pn_53, pn_54]; show 2 = (bif inR x 1 2000 then (if ((μ 1) 0 + x) ≤ 100000 then 0 else 2) else 1); rw [c1, cond_true, if_neg c2]); (simp only [put_s, sc, pn_01, pn_02, pn_03, pn_04, pn_05, pn_10, pn_12, pn_13, pn_14, pn_15, pn_20, pn_21, pn_23, pn_24, pn_25, pn_30, pn_31, pn_32, pn_34, pn_35, pn_40, pn_41, pn_42, pn_43, pn_45, pn_50, pn_51, pn_52, pn_53, pn_54]; show (μ 1) = (bif inR x 1 2000 then (if ((μ 1) 0 + x) ≤ 100000 then upd (avS (μ 1) (μ 4) (μ 5 0) ((μ 1) 0 + x)).1 0 ((μ 1) 0 + x) else (μ 1)) else (μ 1)); rw [c1, cond_true, if_neg c2]); simp only [put_s, sc, pn_01, pn_02, pn_03, pn_04, pn_05, pn_10, pn_12, pn_13, pn_14, pn_15, pn_20, pn_21, pn_23, pn_24, pn_25, pn_30, pn_31, pn_32, pn_34, pn_35, pn_40, pn_41, pn_42, pn_43, pn_45, pn_50, pn_51, pn_52, pn_53, pn_54]; simp only [put_s, sc, pn_01, pn_02, pn_03, pn_04, pn_05, pn_10, pn_12, pn_13, pn_14, pn_15, pn_20, pn_21, pn_23, pn_24, pn_25, pn_30, pn_31, pn_32, pn_34, pn_35, pn_40, pn_41, pn_42, pn_43, pn_45, pn_50, pn_51, pn_52, pn_53, pn_54]; (simp only [put_s, sc, pn_01, pn_02, pn_03, pn_04, pn_05, pn_10, pn_12, pn_13, pn_14, pn_15, pn_20, pn_21, pn_23, pn_24, pn_25, pn_30, pn_31, pn_32, pn_34, pn_35, pn_40, pn_41, pn_42, pn_43, pn_45, pn_50, pn_51, pn_52, pn_53, pn_54]; show (μ 4) = (bif inR x 1 2000 then (if ((μ 1) 0 + x) ≤ 100000 then (avS (μ 1) (μ 4) (μ 5 0) ((μ 1) 0 + x)).2.1 else (μ 4)) else (μ 4)); rw [c1, cond_true, if_neg c2]); (simp only [put_s, sc, pn_01, pn_02, pn_03, pn_04, pn_05, pn_10, pn_12, pn_13, pn_14, pn_15, pn_20, pn_21, pn_23, pn_24, pn_25, pn_30, pn_31, pn_32, pn_34, pn_35, pn_40, pn_41, pn_42, pn_43, pn_45, pn_50, pn_51, pn_52, pn_53, pn_54]; show (μ 5 0) = (bif inR x 1 2000 then (if ((μ 1) 0 + x) ≤ 100000 then (avS (μ 1) (μ 4) (μ 5 0) ((μ 1) 0 + x)).2.2.1 else (μ 5 0)) else (μ 5 0)); rw [c1, cond_true, if_neg c2]))
  · skip
    refine g_aload_n X dX7_advance_16 17 rfl rfl ?_
    refine g_iconst X dX7_advance_17 18 rfl (v := 1) rfl ?_
    refine c_V X Lk_X7_41 (k_X7_raises E l wr b (put μ 0 (sc 0)) a σ 1) dX7_advance_18 rfl 0 rfl rfl rfl (Nat.le_of_ble_eq_true rfl) ⟨(Nat.le_of_ble_eq_true rfl), (Nat.le_of_ble_eq_true rfl)⟩ ⟨(Nat.le_of_ble_eq_true rfl), (Nat.le_of_ble_eq_true rfl)⟩ 21 rfl [.int 0] rfl ?_
    exact g_iret X hr dX7_advance_21 () (by show (some (.int (bif inR x 1 2000 then (if ((μ 1) 0 + x) ≤ 100000 then nI (avS (μ 1) (μ 4) (μ 5 0) ((μ 1) 0 + x)).2.2.2 else 0) else 0)) : Option Value) = some (.int 0); rw [c1, cond_false]) (by refine WW_eq ?_ ?_ ?_ ?_ ?_ ?_; (simp only [put_s, sc, pn_01, pn_02, pn_03, pn_04, pn_05, pn_10, pn_12, pn_13, pn_14, pn_15, pn_20, pn_21, pn_23, pn_24, pn_25, pn_30, pn_31, pn_32, pn_34, pn_35, pn_40, pn_41, pn_42, pn_43, pn_45, pn_50, pn_51, pn_52, pn_53, pn_54]; show 1 = (bif inR x 1 2000 then (if ((μ 1) 0 + x) ≤ 100000 then 0 else 2) else 1); rw [c1, cond_false]); (simp only [put_s, sc, pn_01, pn_02, pn_03, pn_04, pn_05, pn_10, pn_12, pn_13, pn_14, pn_15, pn_20, pn_21, pn_23, pn_24, pn_25, pn_30, pn_31, pn_32, pn_34, pn_35, pn_40, pn_41, pn_42, pn_43, pn_45, pn_50, pn_51, pn_52, pn_53, pn_54]; show (μ 1) = (bif inR x 1 2000 then (if ((μ 1) 0 + x) ≤ 100000 then upd (avS (μ 1) (μ 4) (μ 5 0) ((μ 1) 0 + x)).1 0 ((μ 1) 0 + x) else (μ 1)) else (μ 1)); rw [c1, cond_false]); simp only [put_s, sc, pn_01, pn_02, pn_03, pn_04, pn_05, pn_10, pn_12, pn_13, pn_14, pn_15, pn_20, pn_21, pn_23, pn_24, pn_25, pn_30, pn_31, pn_32, pn_34, pn_35, pn_40, pn_41, pn_42, pn_43, pn_45, pn_50, pn_51, pn_52, pn_53, pn_54]; simp only [put_s, sc, pn_01, pn_02, pn_03, pn_04, pn_05, pn_10, pn_12, pn_13, pn_14, pn_15, pn_20, pn_21, pn_23, pn_24, pn_25, pn_30, pn_31, pn_32, pn_34, pn_35, pn_40, pn_41, pn_42, pn_43, pn_45, pn_50, pn_51, pn_52, pn_53, pn_54]; (simp only [put_s, sc, pn_01, pn_02, pn_03, pn_04, pn_05, pn_10, pn_12, pn_13, pn_14, pn_15, pn_20, pn_21, pn_23, pn_24, pn_25, pn_30, pn_31, pn_32, pn_34, pn_35, pn_40, pn_41, pn_42, pn_43, pn_45, pn_50, pn_51, pn_52, pn_53, pn_54]; show (μ 4) = (bif inR x 1 2000 then (if ((μ 1) 0 + x) ≤ 100000 then (avS (μ 1) (μ 4) (μ 5 0) ((μ 1) 0 + x)).2.1 else (μ 4)) else (μ 4)); rw [c1, cond_false]); (simp only [put_s, sc, pn_01, pn_02, pn_03, pn_04, pn_05, pn_10, pn_12, pn_13, pn_14, pn_15, pn_20, pn_21, pn_23, pn_24, pn_25, pn_30, pn_31, pn_32, pn_34, pn_35, pn_40, pn_41, pn_42, pn_43, pn_45, pn_50, pn_51, pn_52, pn_53, pn_54]; show (μ 5 0) = (bif inR x 1 2000 then (if ((μ 1) 0 + x) ≤ 100000 then (avS (μ 1) (μ 4) (μ 5 0) ((μ 1) 0 + x)).2.2.1 else (μ 5 0)) else (μ 5 0)); rw [c1, cond_false]))

set_option maxHeartbeats 4000000 in
set_option maxRecDepth 100000 in
theorem k_X7_advanceToEvent (E : kE) (l : Launch) (wr : va_W) (b : Nat → Nat) (μ : Sto) (a : Nat → Nat) (σ : Sto) (v : Nat) (Q : (Nat → Int32) → Prop) (hA : AG Q 100000 v) (hQ0 : Q (μ 1)) (hL : LG (μ 5 0)) : KM E l yX7_advanceToEvent cX7_advanceToEvent 2 (some .int) 6 138 0 0 [.ref (b 0)] (WW E b μ a σ wr) (some (.int (if 0 ≤ eaM (μ 1) then (if eaM (μ 1) ≤ 100000 then eaM (μ 1) else 0) else 0))) (WW E b (put (put (put (put μ 0 (sc (if 0 ≤ eaM (μ 1) then (if eaM (μ 1) ≤ 100000 then 0 else 2) else 1))) 1 (if 0 ≤ eaM (μ 1) then (if eaM (μ 1) ≤ 100000 then (hapS (μ 1) (μ 4) (μ 5 0) (eaM (μ 1))).1 else (μ 1)) else (μ 1))) 4 (if 0 ≤ eaM (μ 1) then (if eaM (μ 1) ≤ 100000 then (hapS (μ 1) (μ 4) (μ 5 0) (eaM (μ 1))).2.1 else (μ 4)) else (μ 4))) 5 (sc (if 0 ≤ eaM (μ 1) then (if eaM (μ 1) ≤ 100000 then (hapS (μ 1) (μ 4) (μ 5 0) (eaM (μ 1))).2.2.1 else (μ 5 0)) else (μ 5 0)))) a σ wr) := by
  refine K_start (own := RX7) (by decide +kernel) rfl [(0, .ref (b 0))] rfl (Nat.le_of_ble_eq_true rfl) (fun p e s m below meth c X hr hin => ?_)
  refine g_aload_n X dX7_advanceToEvent_0 1 rfl rfl ?_
  refine g_iconst X dX7_advanceToEvent_1 2 rfl (v := 0) rfl ?_
  refine g_put X FL_X7_19 fk_X7 dX7_advanceToEvent_2 5 rfl rfl 0 rfl rfl rfl (Nat.le_of_ble_eq_true rfl) (WW E b (put μ 0 (sc 0)) a σ wr) rfl ?_
  refine g_aload_n X dX7_advanceToEvent_5 6 rfl rfl ?_
  refine c_V X Lk_X7_108 (k_X7_earliest E l wr b (put μ 0 (sc 0)) a σ v (hA (μ 1) hQ0).1) dX7_advanceToEvent_6 rfl 0 rfl rfl rfl (Nat.le_of_ble_eq_true rfl) ⟨(Nat.le_of_ble_eq_true rfl), (Nat.le_of_ble_eq_true rfl)⟩ ⟨(Nat.le_of_ble_eq_true rfl), (Nat.le_of_ble_eq_true rfl)⟩ 9 rfl [.int (eaM (μ 1))] rfl ?_
  refine g_istore_n X dX7_advanceToEvent_9 10 rfl (by decide) [(1, .int (eaM (μ 1))), (0, .ref (b 0))] rfl ?_
  refine g_iload_n X dX7_advanceToEvent_10 11 rfl rfl ?_
  refine g_if_ge X dX7_advanceToEvent_11 20 14 rfl rfl (fun c1 => ?_) (fun c1 => ?_)
  · skip
    refine g_iload_n X dX7_advanceToEvent_20 21 rfl rfl ?_
    refine g_ldc X Co_X7_107 dX7_advanceToEvent_21 23 rfl ?_
    refine g_ic_le X dX7_advanceToEvent_23 32 26 rfl rfl (fun c2 => ?_) (fun c2 => ?_)
    · skip
      obtain ⟨hlt, ⟨Pd, hG, hP0⟩, hN⟩ := (hA (μ 1) hQ0).2 c1 c2
      refine g_aload_n X dX7_advanceToEvent_32 33 rfl rfl ?_
      refine g_iload_n X dX7_advanceToEvent_33 34 rfl rfl ?_
      refine c_V X Lk_X7_112 (k_X7_happen E l wr b (put μ 0 (sc 0)) a σ (eaM (μ 1)) v Pd hG hP0 hL) dX7_advanceToEvent_34 rfl 0 rfl rfl rfl (Nat.le_of_ble_eq_true rfl) ⟨(Nat.le_of_ble_eq_true rfl), (Nat.le_of_ble_eq_true rfl)⟩ ⟨(Nat.le_of_ble_eq_true rfl), (Nat.le_of_ble_eq_true rfl)⟩ 37 rfl [.int (nI (hapS (μ 1) (μ 4) (μ 5 0) (eaM (μ 1))).2.2.2)] rfl ?_
      refine g_pop X dX7_advanceToEvent_37 38 rfl rfl ?_
      refine g_iload_n X dX7_advanceToEvent_38 39 rfl rfl ?_
      exact g_iret X hr dX7_advanceToEvent_39 () (by show (some (.int (if 0 ≤ eaM (μ 1) then (if eaM (μ 1) ≤ 100000 then eaM (μ 1) else 0) else 0)) : Option Value) = some (.int (eaM (μ 1))); rw [if_pos c1, if_pos c2]) (by refine WW_eq ?_ ?_ ?_ ?_ ?_ ?_; (simp only [put_s, sc, pn_01, pn_02, pn_03, pn_04, pn_05, pn_10, pn_12, pn_13, pn_14, pn_15, pn_20, pn_21, pn_23, pn_24, pn_25, pn_30, pn_31, pn_32, pn_34, pn_35, pn_40, pn_41, pn_42, pn_43, pn_45, pn_50, pn_51, pn_52, pn_53, pn_54]; show 0 = (if 0 ≤ eaM (μ 1) then (if eaM (μ 1) ≤ 100000 then 0 else 2) else 1); rw [if_pos c1, if_pos c2]); (simp only [put_s, sc, pn_01, pn_02, pn_03, pn_04, pn_05, pn_10, pn_12, pn_13, pn_14, pn_15, pn_20, pn_21, pn_23, pn_24, pn_25, pn_30, pn_31, pn_32, pn_34, pn_35, pn_40, pn_41, pn_42, pn_43, pn_45, pn_50, pn_51, pn_52, pn_53, pn_54]; show ((hapS (μ 1) (μ 4) (μ 5 0) (eaM (μ 1))).1) = (if 0 ≤ eaM (μ 1) then (if eaM (μ 1) ≤ 100000 then (hapS (μ 1) (μ 4) (μ 5 0) (eaM (μ 1))).1 else (μ 1)) else (μ 1)); rw [if_pos c1, if_pos c2]); simp only [put_s, sc, pn_01, pn_02, pn_03, pn_04, pn_05, pn_10, pn_12, pn_13, pn_14, pn_15, pn_20, pn_21, pn_23, pn_24, pn_25, pn_30, pn_31, pn_32, pn_34, pn_35, pn_40, pn_41, pn_42, pn_43, pn_45, pn_50, pn_51, pn_52, pn_53, pn_54]; simp only [put_s, sc, pn_01, pn_02, pn_03, pn_04, pn_05, pn_10, pn_12, pn_13, pn_14, pn_15, pn_20, pn_21, pn_23, pn_24, pn_25, pn_30, pn_31, pn_32, pn_34, pn_35, pn_40, pn_41, pn_42, pn_43, pn_45, pn_50, pn_51, pn_52, pn_53, pn_54]; (simp only [put_s, sc, pn_01, pn_02, pn_03, pn_04, pn_05, pn_10, pn_12, pn_13, pn_14, pn_15, pn_20, pn_21, pn_23, pn_24, pn_25, pn_30, pn_31, pn_32, pn_34, pn_35, pn_40, pn_41, pn_42, pn_43, pn_45, pn_50, pn_51, pn_52, pn_53, pn_54]; show ((hapS (μ 1) (μ 4) (μ 5 0) (eaM (μ 1))).2.1) = (if 0 ≤ eaM (μ 1) then (if eaM (μ 1) ≤ 100000 then (hapS (μ 1) (μ 4) (μ 5 0) (eaM (μ 1))).2.1 else (μ 4)) else (μ 4)); rw [if_pos c1, if_pos c2]); (simp only [put_s, sc, pn_01, pn_02, pn_03, pn_04, pn_05, pn_10, pn_12, pn_13, pn_14, pn_15, pn_20, pn_21, pn_23, pn_24, pn_25, pn_30, pn_31, pn_32, pn_34, pn_35, pn_40, pn_41, pn_42, pn_43, pn_45, pn_50, pn_51, pn_52, pn_53, pn_54]; show (hapS (μ 1) (μ 4) (μ 5 0) (eaM (μ 1))).2.2.1 = (if 0 ≤ eaM (μ 1) then (if eaM (μ 1) ≤ 100000 then (hapS (μ 1) (μ 4) (μ 5 0) (eaM (μ 1))).2.2.1 else (μ 5 0)) else (μ 5 0)); rw [if_pos c1, if_pos c2]))
    · skip
      refine g_aload_n X dX7_advanceToEvent_26 27 rfl rfl ?_
      refine g_iconst X dX7_advanceToEvent_27 28 rfl (v := 2) rfl ?_
      refine c_V X Lk_X7_41 (k_X7_raises E l wr b (put μ 0 (sc 0)) a σ 2) dX7_advanceToEvent_28 rfl 0 rfl rfl rfl (Nat.le_of_ble_eq_true rfl) ⟨(Nat.le_of_ble_eq_true rfl), (Nat.le_of_ble_eq_true rfl)⟩ ⟨(Nat.le_of_ble_eq_true rfl), (Nat.le_of_ble_eq_true rfl)⟩ 31 rfl [.int 0] rfl ?_
      exact g_iret X hr dX7_advanceToEvent_31 () (by show (some (.int (if 0 ≤ eaM (μ 1) then (if eaM (μ 1) ≤ 100000 then eaM (μ 1) else 0) else 0)) : Option Value) = some (.int 0); rw [if_pos c1, if_neg c2]) (by refine WW_eq ?_ ?_ ?_ ?_ ?_ ?_; (simp only [put_s, sc, pn_01, pn_02, pn_03, pn_04, pn_05, pn_10, pn_12, pn_13, pn_14, pn_15, pn_20, pn_21, pn_23, pn_24, pn_25, pn_30, pn_31, pn_32, pn_34, pn_35, pn_40, pn_41, pn_42, pn_43, pn_45, pn_50, pn_51, pn_52, pn_53, pn_54]; show 2 = (if 0 ≤ eaM (μ 1) then (if eaM (μ 1) ≤ 100000 then 0 else 2) else 1); rw [if_pos c1, if_neg c2]); (simp only [put_s, sc, pn_01, pn_02, pn_03, pn_04, pn_05, pn_10, pn_12, pn_13, pn_14, pn_15, pn_20, pn_21, pn_23, pn_24, pn_25, pn_30, pn_31, pn_32, pn_34, pn_35, pn_40, pn_41, pn_42, pn_43, pn_45, pn_50, pn_51, pn_52, pn_53, pn_54]; show (μ 1) = (if 0 ≤ eaM (μ 1) then (if eaM (μ 1) ≤ 100000 then (hapS (μ 1) (μ 4) (μ 5 0) (eaM (μ 1))).1 else (μ 1)) else (μ 1)); rw [if_pos c1, if_neg c2]); simp only [put_s, sc, pn_01, pn_02, pn_03, pn_04, pn_05, pn_10, pn_12, pn_13, pn_14, pn_15, pn_20, pn_21, pn_23, pn_24, pn_25, pn_30, pn_31, pn_32, pn_34, pn_35, pn_40, pn_41, pn_42, pn_43, pn_45, pn_50, pn_51, pn_52, pn_53, pn_54]; simp only [put_s, sc, pn_01, pn_02, pn_03, pn_04, pn_05, pn_10, pn_12, pn_13, pn_14, pn_15, pn_20, pn_21, pn_23, pn_24, pn_25, pn_30, pn_31, pn_32, pn_34, pn_35, pn_40, pn_41, pn_42, pn_43, pn_45, pn_50, pn_51, pn_52, pn_53, pn_54]; (simp only [put_s, sc, pn_01, pn_02, pn_03, pn_04, pn_05, pn_10, pn_12, pn_13, pn_14, pn_15, pn_20, pn_21, pn_23, pn_24, pn_25, pn_30, pn_31, pn_32, pn_34, pn_35, pn_40, pn_41, pn_42, pn_43, pn_45, pn_50, pn_51, pn_52, pn_53, pn_54]; show (μ 4) = (if 0 ≤ eaM (μ 1) then (if eaM (μ 1) ≤ 100000 then (hapS (μ 1) (μ 4) (μ 5 0) (eaM (μ 1))).2.1 else (μ 4)) else (μ 4)); rw [if_pos c1, if_neg c2]); (simp only [put_s, sc, pn_01, pn_02, pn_03, pn_04, pn_05, pn_10, pn_12, pn_13, pn_14, pn_15, pn_20, pn_21, pn_23, pn_24, pn_25, pn_30, pn_31, pn_32, pn_34, pn_35, pn_40, pn_41, pn_42, pn_43, pn_45, pn_50, pn_51, pn_52, pn_53, pn_54]; show (μ 5 0) = (if 0 ≤ eaM (μ 1) then (if eaM (μ 1) ≤ 100000 then (hapS (μ 1) (μ 4) (μ 5 0) (eaM (μ 1))).2.2.1 else (μ 5 0)) else (μ 5 0)); rw [if_pos c1, if_neg c2]))
  · skip
    refine g_aload_n X dX7_advanceToEvent_14 15 rfl rfl ?_
    refine g_iconst X dX7_advanceToEvent_15 16 rfl (v := 1) rfl ?_
    refine c_V X Lk_X7_41 (k_X7_raises E l wr b (put μ 0 (sc 0)) a σ 1) dX7_advanceToEvent_16 rfl 0 rfl rfl rfl (Nat.le_of_ble_eq_true rfl) ⟨(Nat.le_of_ble_eq_true rfl), (Nat.le_of_ble_eq_true rfl)⟩ ⟨(Nat.le_of_ble_eq_true rfl), (Nat.le_of_ble_eq_true rfl)⟩ 19 rfl [.int 0] rfl ?_
    exact g_iret X hr dX7_advanceToEvent_19 () (by show (some (.int (if 0 ≤ eaM (μ 1) then (if eaM (μ 1) ≤ 100000 then eaM (μ 1) else 0) else 0)) : Option Value) = some (.int 0); rw [if_neg c1]) (by refine WW_eq ?_ ?_ ?_ ?_ ?_ ?_; (simp only [put_s, sc, pn_01, pn_02, pn_03, pn_04, pn_05, pn_10, pn_12, pn_13, pn_14, pn_15, pn_20, pn_21, pn_23, pn_24, pn_25, pn_30, pn_31, pn_32, pn_34, pn_35, pn_40, pn_41, pn_42, pn_43, pn_45, pn_50, pn_51, pn_52, pn_53, pn_54]; show 1 = (if 0 ≤ eaM (μ 1) then (if eaM (μ 1) ≤ 100000 then 0 else 2) else 1); rw [if_neg c1]); (simp only [put_s, sc, pn_01, pn_02, pn_03, pn_04, pn_05, pn_10, pn_12, pn_13, pn_14, pn_15, pn_20, pn_21, pn_23, pn_24, pn_25, pn_30, pn_31, pn_32, pn_34, pn_35, pn_40, pn_41, pn_42, pn_43, pn_45, pn_50, pn_51, pn_52, pn_53, pn_54]; show (μ 1) = (if 0 ≤ eaM (μ 1) then (if eaM (μ 1) ≤ 100000 then (hapS (μ 1) (μ 4) (μ 5 0) (eaM (μ 1))).1 else (μ 1)) else (μ 1)); rw [if_neg c1]); simp only [put_s, sc, pn_01, pn_02, pn_03, pn_04, pn_05, pn_10, pn_12, pn_13, pn_14, pn_15, pn_20, pn_21, pn_23, pn_24, pn_25, pn_30, pn_31, pn_32, pn_34, pn_35, pn_40, pn_41, pn_42, pn_43, pn_45, pn_50, pn_51, pn_52, pn_53, pn_54]; simp only [put_s, sc, pn_01, pn_02, pn_03, pn_04, pn_05, pn_10, pn_12, pn_13, pn_14, pn_15, pn_20, pn_21, pn_23, pn_24, pn_25, pn_30, pn_31, pn_32, pn_34, pn_35, pn_40, pn_41, pn_42, pn_43, pn_45, pn_50, pn_51, pn_52, pn_53, pn_54]; (simp only [put_s, sc, pn_01, pn_02, pn_03, pn_04, pn_05, pn_10, pn_12, pn_13, pn_14, pn_15, pn_20, pn_21, pn_23, pn_24, pn_25, pn_30, pn_31, pn_32, pn_34, pn_35, pn_40, pn_41, pn_42, pn_43, pn_45, pn_50, pn_51, pn_52, pn_53, pn_54]; show (μ 4) = (if 0 ≤ eaM (μ 1) then (if eaM (μ 1) ≤ 100000 then (hapS (μ 1) (μ 4) (μ 5 0) (eaM (μ 1))).2.1 else (μ 4)) else (μ 4)); rw [if_neg c1]); (simp only [put_s, sc, pn_01, pn_02, pn_03, pn_04, pn_05, pn_10, pn_12, pn_13, pn_14, pn_15, pn_20, pn_21, pn_23, pn_24, pn_25, pn_30, pn_31, pn_32, pn_34, pn_35, pn_40, pn_41, pn_42, pn_43, pn_45, pn_50, pn_51, pn_52, pn_53, pn_54]; show (μ 5 0) = (if 0 ≤ eaM (μ 1) then (if eaM (μ 1) ≤ 100000 then (hapS (μ 1) (μ 4) (μ 5 0) (eaM (μ 1))).2.2.1 else (μ 5 0)) else (μ 5 0)); rw [if_neg c1]))

set_option maxHeartbeats 4000000 in
set_option maxRecDepth 100000 in
theorem k_X7_discover (E : kE) (l : Launch) (wr : va_W) (b : Nat → Nat) (μ : Sto) (a : Nat → Nat) (σ : Sto) (x : Int32) (g : Int32) (w : Int32) (v : Nat) (hX : MX (μ 1) v) (hL : LG (μ 5 0)) : KM E l yX7_discover cX7_discover 5 (some .int) 5 114 0 0 [.ref (b 0), .int x, .int g, .int w] (WW E b μ a σ wr) (some (.int (diR (μ 1) x g (d2S (μ 1) (μ 4) (μ 5 0) (ix x) g w) w))) (WW E b (put (put (put (put μ 0 (sc (diT (μ 1) x g (d2S (μ 1) (μ 4) (μ 5 0) (ix x) g w) w))) 1 (diN (μ 1) x g (d2S (μ 1) (μ 4) (μ 5 0) (ix x) g w) w)) 4 (diF (μ 1) x g (d2S (μ 1) (μ 4) (μ 5 0) (ix x) g w) w (μ 4))) 5 (sc (diM (μ 1) x g (d2S (μ 1) (μ 4) (μ 5 0) (ix x) g w) w (μ 5 0)))) a σ wr) := by
  refine K_start (own := RX7) (by decide +kernel) rfl [(0, .ref (b 0)), (1, .int x), (2, .int g), (3, .int w)] rfl (Nat.le_of_ble_eq_true rfl) (fun p e s m below meth c X hr hin => ?_)
  refine g_aload_n X dX7_discover_0 1 rfl rfl ?_
  refine g_iconst X dX7_discover_1 2 rfl (v := 0) rfl ?_
  refine g_put X FL_X7_19 fk_X7 dX7_discover_2 5 rfl rfl 0 rfl rfl rfl (Nat.le_of_ble_eq_true rfl) (WW E b (put μ 0 (sc 0)) a σ wr) rfl ?_
  refine g_iload_n X dX7_discover_5 6 rfl rfl ?_
  refine c_S X Lk_X7_65 (k_X7_isClient E l wr b (put μ 0 (sc 0)) a σ x) dX7_discover_6 rfl rfl (Nat.le_of_ble_eq_true rfl) ⟨(Nat.le_of_ble_eq_true rfl), (Nat.le_of_ble_eq_true rfl)⟩ ⟨(Nat.le_of_ble_eq_true rfl), (Nat.le_of_ble_eq_true rfl)⟩ 9 rfl [.int (bi (inR x 0 19))] rfl ?_
  refine g_ifb_eq X dX7_discover_9 19 12 rfl rfl (fun c1 => ?_) (fun c1 => ?_)
  · skip
    refine g_aload_n X dX7_discover_19 20 rfl rfl ?_
    refine g_iconst X dX7_discover_20 21 rfl (v := 1) rfl ?_
    refine c_V X Lk_X7_41 (k_X7_raises E l wr b (put μ 0 (sc 0)) a σ 1) dX7_discover_21 rfl 0 rfl rfl rfl (Nat.le_of_ble_eq_true rfl) ⟨(Nat.le_of_ble_eq_true rfl), (Nat.le_of_ble_eq_true rfl)⟩ ⟨(Nat.le_of_ble_eq_true rfl), (Nat.le_of_ble_eq_true rfl)⟩ 24 rfl [.int 0] rfl ?_
    exact g_iret X hr dX7_discover_24 () (by have hT : diT (μ 1) x g (d2S (μ 1) (μ 4) (μ 5 0) (ix x) g w) w = 1 := (by simp [diT, c1]); show (some (.int (diR (μ 1) x g (d2S (μ 1) (μ 4) (μ 5 0) (ix x) g w) w)) : Option Value) = some (.int 0); rw [diR, hT, if_neg (by decide)]) (by have hT : diT (μ 1) x g (d2S (μ 1) (μ 4) (μ 5 0) (ix x) g w) w = 1 := (by simp [diT, c1]); refine WW_eq ?_ ?_ ?_ ?_ ?_ ?_; (simp only [put_s, sc, pn_01, pn_02, pn_03, pn_04, pn_05, pn_10, pn_12, pn_13, pn_14, pn_15, pn_20, pn_21, pn_23, pn_24, pn_25, pn_30, pn_31, pn_32, pn_34, pn_35, pn_40, pn_41, pn_42, pn_43, pn_45, pn_50, pn_51, pn_52, pn_53, pn_54]; exact hT.symm); (simp only [put_s, sc, pn_01, pn_02, pn_03, pn_04, pn_05, pn_10, pn_12, pn_13, pn_14, pn_15, pn_20, pn_21, pn_23, pn_24, pn_25, pn_30, pn_31, pn_32, pn_34, pn_35, pn_40, pn_41, pn_42, pn_43, pn_45, pn_50, pn_51, pn_52, pn_53, pn_54]; show (μ 1) = diN (μ 1) x g (d2S (μ 1) (μ 4) (μ 5 0) (ix x) g w) w; rw [diN, hT, if_neg (by decide), if_neg (by decide)]); simp only [put_s, sc, pn_01, pn_02, pn_03, pn_04, pn_05, pn_10, pn_12, pn_13, pn_14, pn_15, pn_20, pn_21, pn_23, pn_24, pn_25, pn_30, pn_31, pn_32, pn_34, pn_35, pn_40, pn_41, pn_42, pn_43, pn_45, pn_50, pn_51, pn_52, pn_53, pn_54]; simp only [put_s, sc, pn_01, pn_02, pn_03, pn_04, pn_05, pn_10, pn_12, pn_13, pn_14, pn_15, pn_20, pn_21, pn_23, pn_24, pn_25, pn_30, pn_31, pn_32, pn_34, pn_35, pn_40, pn_41, pn_42, pn_43, pn_45, pn_50, pn_51, pn_52, pn_53, pn_54]; (simp only [put_s, sc, pn_01, pn_02, pn_03, pn_04, pn_05, pn_10, pn_12, pn_13, pn_14, pn_15, pn_20, pn_21, pn_23, pn_24, pn_25, pn_30, pn_31, pn_32, pn_34, pn_35, pn_40, pn_41, pn_42, pn_43, pn_45, pn_50, pn_51, pn_52, pn_53, pn_54]; show (μ 4) = diF (μ 1) x g (d2S (μ 1) (μ 4) (μ 5 0) (ix x) g w) w (μ 4); rw [diF, hT, if_neg (by decide), if_neg (by decide)]); (simp only [put_s, sc, pn_01, pn_02, pn_03, pn_04, pn_05, pn_10, pn_12, pn_13, pn_14, pn_15, pn_20, pn_21, pn_23, pn_24, pn_25, pn_30, pn_31, pn_32, pn_34, pn_35, pn_40, pn_41, pn_42, pn_43, pn_45, pn_50, pn_51, pn_52, pn_53, pn_54]; show (μ 5 0) = diM (μ 1) x g (d2S (μ 1) (μ 4) (μ 5 0) (ix x) g w) w (μ 5 0); rw [diM, hT, if_neg (by decide), if_neg (by decide)]))
  · skip
    refine g_iload_n X dX7_discover_12 13 rfl rfl ?_
    refine c_S X Lk_X7_37 (k_X7_isGroup E l wr b (put μ 0 (sc 0)) a σ g) dX7_discover_13 rfl rfl (Nat.le_of_ble_eq_true rfl) ⟨(Nat.le_of_ble_eq_true rfl), (Nat.le_of_ble_eq_true rfl)⟩ ⟨(Nat.le_of_ble_eq_true rfl), (Nat.le_of_ble_eq_true rfl)⟩ 16 rfl [.int (bi (inR g 0 2))] rfl ?_
    refine g_ifb_ne X dX7_discover_16 25 19 rfl rfl (fun c2 => ?_) (fun c2 => ?_)
    · skip
      obtain ⟨j, hj, rfl⟩ := inR_19 c1
      obtain ⟨q, hq, rfl⟩ := inR_2 c2
      have hcc : (inR (nI j) 0 19 && inR (nI q) 0 2) = true := by rw [c1, c2]; rfl
      refine g_aload_n X dX7_discover_25 26 rfl rfl ?_
      refine g_iload_n X dX7_discover_26 27 rfl rfl ?_
      refine c_V X Lk_X7_68 (k_X7_isBound E l wr b (put μ 0 (sc 0)) a σ j (by first | omega | assumption)) dX7_discover_27 rfl 0 rfl rfl rfl (Nat.le_of_ble_eq_true rfl) ⟨(Nat.le_of_ble_eq_true rfl), (Nat.le_of_ble_eq_true rfl)⟩ ⟨(Nat.le_of_ble_eq_true rfl), (Nat.le_of_ble_eq_true rfl)⟩ 30 rfl [.int (bi (bdM (μ 1) j))] rfl ?_
      refine g_ifb_ne X dX7_discover_30 45 33 rfl rfl (fun c3 => ?_) (fun c3 => ?_)
      · skip
        refine g_aload_n X dX7_discover_45 46 rfl rfl ?_
        refine g_iconst X dX7_discover_46 47 rfl (v := 2) rfl ?_
        refine c_V X Lk_X7_41 (k_X7_raises E l wr b (put μ 0 (sc 0)) a σ 2) dX7_discover_47 rfl 0 rfl rfl rfl (Nat.le_of_ble_eq_true rfl) ⟨(Nat.le_of_ble_eq_true rfl), (Nat.le_of_ble_eq_true rfl)⟩ ⟨(Nat.le_of_ble_eq_true rfl), (Nat.le_of_ble_eq_true rfl)⟩ 50 rfl [.int 0] rfl ?_
        exact g_iret X hr dX7_discover_50 () (by have hT : diT (μ 1) (nI j) (nI q) (d2S (μ 1) (μ 4) (μ 5 0) (ix (nI j)) (nI q) w) w = 2 := (by rw [diT, hcc]; exact if_pos (Or.inl (by rw [ixn (by omega)]; exact c3))); show (some (.int (diR (μ 1) (nI j) (nI q) (d2S (μ 1) (μ 4) (μ 5 0) (ix (nI j)) (nI q) w) w)) : Option Value) = some (.int 0); rw [diR, hT, if_neg (by decide)]) (by have hT : diT (μ 1) (nI j) (nI q) (d2S (μ 1) (μ 4) (μ 5 0) (ix (nI j)) (nI q) w) w = 2 := (by rw [diT, hcc]; exact if_pos (Or.inl (by rw [ixn (by omega)]; exact c3))); refine WW_eq ?_ ?_ ?_ ?_ ?_ ?_; (simp only [put_s, sc, pn_01, pn_02, pn_03, pn_04, pn_05, pn_10, pn_12, pn_13, pn_14, pn_15, pn_20, pn_21, pn_23, pn_24, pn_25, pn_30, pn_31, pn_32, pn_34, pn_35, pn_40, pn_41, pn_42, pn_43, pn_45, pn_50, pn_51, pn_52, pn_53, pn_54]; exact hT.symm); (simp only [put_s, sc, pn_01, pn_02, pn_03, pn_04, pn_05, pn_10, pn_12, pn_13, pn_14, pn_15, pn_20, pn_21, pn_23, pn_24, pn_25, pn_30, pn_31, pn_32, pn_34, pn_35, pn_40, pn_41, pn_42, pn_43, pn_45, pn_50, pn_51, pn_52, pn_53, pn_54]; show (μ 1) = diN (μ 1) (nI j) (nI q) (d2S (μ 1) (μ 4) (μ 5 0) (ix (nI j)) (nI q) w) w; rw [diN, hT, if_neg (by decide), if_neg (by decide)]); simp only [put_s, sc, pn_01, pn_02, pn_03, pn_04, pn_05, pn_10, pn_12, pn_13, pn_14, pn_15, pn_20, pn_21, pn_23, pn_24, pn_25, pn_30, pn_31, pn_32, pn_34, pn_35, pn_40, pn_41, pn_42, pn_43, pn_45, pn_50, pn_51, pn_52, pn_53, pn_54]; simp only [put_s, sc, pn_01, pn_02, pn_03, pn_04, pn_05, pn_10, pn_12, pn_13, pn_14, pn_15, pn_20, pn_21, pn_23, pn_24, pn_25, pn_30, pn_31, pn_32, pn_34, pn_35, pn_40, pn_41, pn_42, pn_43, pn_45, pn_50, pn_51, pn_52, pn_53, pn_54]; (simp only [put_s, sc, pn_01, pn_02, pn_03, pn_04, pn_05, pn_10, pn_12, pn_13, pn_14, pn_15, pn_20, pn_21, pn_23, pn_24, pn_25, pn_30, pn_31, pn_32, pn_34, pn_35, pn_40, pn_41, pn_42, pn_43, pn_45, pn_50, pn_51, pn_52, pn_53, pn_54]; show (μ 4) = diF (μ 1) (nI j) (nI q) (d2S (μ 1) (μ 4) (μ 5 0) (ix (nI j)) (nI q) w) w (μ 4); rw [diF, hT, if_neg (by decide), if_neg (by decide)]); (simp only [put_s, sc, pn_01, pn_02, pn_03, pn_04, pn_05, pn_10, pn_12, pn_13, pn_14, pn_15, pn_20, pn_21, pn_23, pn_24, pn_25, pn_30, pn_31, pn_32, pn_34, pn_35, pn_40, pn_41, pn_42, pn_43, pn_45, pn_50, pn_51, pn_52, pn_53, pn_54]; show (μ 5 0) = diM (μ 1) (nI j) (nI q) (d2S (μ 1) (μ 4) (μ 5 0) (ix (nI j)) (nI q) w) w (μ 5 0); rw [diM, hT, if_neg (by decide), if_neg (by decide)]))
      · skip
        refine g_aload_n X dX7_discover_33 34 rfl rfl ?_
        refine g_get X FL_X7_9 dX7_discover_34 37 rfl 0 rfl (v := .ref (b 1)) rfl ?_
        refine g_bipush X dX7_discover_37 39 rfl (v := 28) rfl ?_
        refine g_iload_n X dX7_discover_39 40 rfl rfl ?_
        refine g_iaddN X dX7_discover_40 41 rfl 28 q rfl rfl ?_
        refine g_ialdN (j := (28 + q)) (f := (μ 1)) X dX7_discover_41 42 rfl 1 rfl (by omega) (by decide) ?_
        refine g_if_ne X dX7_discover_42 51 45 rfl rfl (fun c4 => ?_) (fun c4 => ?_)
        · skip
          refine g_aload_n X dX7_discover_51 52 rfl rfl ?_
          refine g_get X FL_X7_9 dX7_discover_52 55 rfl 0 rfl (v := .ref (b 1)) rfl ?_
          refine g_sipush X dX7_discover_55 58 rfl (v := 631) rfl ?_
          refine g_iload_n X dX7_discover_58 59 rfl rfl ?_
          refine g_iaddN X dX7_discover_59 60 rfl 631 j rfl rfl ?_
          refine g_ialdN (j := (631 + j)) (f := (μ 1)) X dX7_discover_60 61 rfl 1 rfl (by omega) (by decide) ?_
          refine g_iconst X dX7_discover_61 62 rfl (v := 1) rfl ?_
          refine g_ic_ne X dX7_discover_62 85 65 rfl rfl (fun c5 => ?_) (fun c5 => ?_)
          · skip
            refine g_aload_n X dX7_discover_85 86 rfl rfl ?_
            refine g_get X FL_X7_9 dX7_discover_86 89 rfl 0 rfl (v := .ref (b 1)) rfl ?_
            refine g_sipush X dX7_discover_89 92 rfl (v := 631) rfl ?_
            refine g_iload_n X dX7_discover_92 93 rfl rfl ?_
            refine g_iaddN X dX7_discover_93 94 rfl 631 j rfl rfl ?_
            refine g_iconst X dX7_discover_94 95 rfl (v := 0) rfl ?_
            refine g_iastN (j := (631 + j)) (f := (μ 1)) X dX7_discover_95 96 rfl 1 rfl (by omega) (by decide) (WW E b (put (put μ 0 (sc 0)) 1 (upd (μ 1) (631 + j) 0)) a σ wr) rfl ?_
            have hd1 : (upd (μ 1) (631 + j) 0) = d1N (μ 1) j := by rw [d1N, if_neg c5]
            rw [show WW E b (put (put μ 0 (sc 0)) 1 (upd (μ 1) (631 + j) 0)) a σ wr = WW E b (put (put μ 0 (sc 0)) 1 (d1N (μ 1) j)) a σ wr from by rw [hd1]]
            have hx := MX.d1 hX hj
            refine g_aload_n X dX7_discover_96 97 rfl rfl ?_
            refine g_iload_n X dX7_discover_97 98 rfl rfl ?_
            refine g_iload_n X dX7_discover_98 99 rfl rfl ?_
            refine g_iload_n X dX7_discover_99 100 rfl rfl ?_
            refine c_V X Lk_X7_75 (k_X7_candidate E l wr b (put (put μ 0 (sc 0)) 1 (d1N (μ 1) j)) a σ j (nI q) w v hx (by first | omega | assumption)) dX7_discover_100 rfl 0 rfl rfl rfl (Nat.le_of_ble_eq_true rfl) ⟨(Nat.le_of_ble_eq_true rfl), (Nat.le_of_ble_eq_true rfl)⟩ ⟨(Nat.le_of_ble_eq_true rfl), (Nat.le_of_ble_eq_true rfl)⟩ 103 rfl [.int (caM (d1N (μ 1) j) j (nI q) w)] rfl ?_
            refine g_istore X dX7_discover_103 105 rfl (by decide) [(4, .int (caM (d1N (μ 1) j) j (nI q) w)), (0, .ref (b 0)), (1, .int (nI j)), (2, .int (nI q)), (3, .int w)] rfl ?_
            have Ld : ∀ (F : Nat) (N f : Nat → Int32) (n z : Int32), (MX N v) → (fzL N 0 100 ≤ F) → (LG n) → (z = caM N j (nI q) w) → (dsL j (nI q) w F (N, f, n) = d2S (μ 1) (μ 4) (μ 5 0) j (nI q) w) →  G E (va_A (WW E b μ a σ wr) s.heap.size) 5 p l e ({ frames := 5, cells := 0, slots := 0, locals := 114 } : Room) s m (([.ref (b 0), .int (nI j), .int (nI q), .int w] : List Value).toArray) below meth c (MQ below (KQ E (WW E b μ a σ wr) s.heap.size (fun _ : Unit => (some (.int (diR (μ 1) (nI j) (nI q) (d2S (μ 1) (μ 4) (μ 5 0) (ix (nI j)) (nI q) w) w)))) (fun _ => WW E b (put (put (put (put μ 0 (sc (diT (μ 1) (nI j) (nI q) (d2S (μ 1) (μ 4) (μ 5 0) (ix (nI j)) (nI q) w) w))) 1 (diN (μ 1) (nI j) (nI q) (d2S (μ 1) (μ 4) (μ 5 0) (ix (nI j)) (nI q) w) w)) 4 (diF (μ 1) (nI j) (nI q) (d2S (μ 1) (μ 4) (μ 5 0) (ix (nI j)) (nI q) w) w (μ 4))) 5 (sc (diM (μ 1) (nI j) (nI q) (d2S (μ 1) (μ 4) (μ 5 0) (ix (nI j)) (nI q) w) w (μ 5 0)))) a σ wr)) (([.ref (b 0), .int (nI j), .int (nI q), .int w] : List Value).toArray) s 0 0 (va_A (WW E b μ a σ wr) s.heap.size)) 0 0 (WW E b (put (put (put (put μ 0 (sc 0)) 1 N) 4 f) 5 (sc n)) a σ wr) 105 [(0, .ref (b 0)), (1, .int (nI j)), (2, .int (nI q)), (3, .int w), (4, .int z)] [] := by
              intro F
              induction F with
              | zero =>
                intro N f n z hx hF hl hz hv
                refine g_iload X dX7_discover_105 107 rfl rfl ?_
                refine g_if_lt X dX7_discover_107 161 110 rfl rfl (fun c6 => ?_) (fun c6 => absurd (ca_no hx hj hz hF) c6)
                have h9 : d2S (μ 1) (μ 4) (μ 5 0) j (nI q) w = (N, f, n) := hv.symm.trans dsL_0
                have hdz : diZ (d2S (μ 1) (μ 4) (μ 5 0) j (nI q) w) j (nI q) w = z := by rw [h9]; exact hz.symm
                refine g_iload X dX7_discover_161 163 rfl rfl ?_
                refine g_if_ge X dX7_discover_163 172 166 rfl rfl (fun c7 => absurd c7 (Int32.not_le.mpr c6)) (fun c7 => ?_)
                refine g_aload_n X dX7_discover_166 167 rfl rfl ?_
                refine g_iconst X dX7_discover_167 168 rfl (v := 3) rfl ?_
                refine c_V X Lk_X7_41 (k_X7_raises E l wr b (put (put (put (put μ 0 (sc 0)) 1 N) 4 f) 5 (sc n)) a σ 3) dX7_discover_168 rfl 0 rfl rfl rfl (Nat.le_of_ble_eq_true rfl) ⟨(Nat.le_of_ble_eq_true rfl), (Nat.le_of_ble_eq_true rfl)⟩ ⟨(Nat.le_of_ble_eq_true rfl), (Nat.le_of_ble_eq_true rfl)⟩ 171 rfl [.int 0] rfl ?_
                exact g_iret X hr dX7_discover_171 () (by have e1 : ix (nI j) = j := ixn (by omega); have hdz2 : diZ (d2S (μ 1) (μ 4) (μ 5 0) (ix (nI j)) (nI q) w) (ix (nI j)) (nI q) w = z := (by rw [e1]; exact hdz); have h99 : (d2S (μ 1) (μ 4) (μ 5 0) (ix (nI j)) (nI q) w) = (N, f, n) := (by rw [e1]; exact h9); have hT : diT (μ 1) (nI j) (nI q) (d2S (μ 1) (μ 4) (μ 5 0) (ix (nI j)) (nI q) w) w = 3 := (by rw [diT, hcc]; show (if _ then (2 : Int32) else if diZ (d2S (μ 1) (μ 4) (μ 5 0) (ix (nI j)) (nI q) w) (ix (nI j)) (nI q) w < 0 then 3 else 0) = 3; rw [if_neg (by intro h; rcases h with h | h; (rw [ixn (by omega)] at h; rw [h] at c3; exact absurd c3 (by decide)); (rw [ixn (by omega)] at h; exact c4 h)), hdz2, if_pos c6]); show (some (.int (diR (μ 1) (nI j) (nI q) (d2S (μ 1) (μ 4) (μ 5 0) (ix (nI j)) (nI q) w) w)) : Option Value) = some (.int 0); rw [diR, hT, if_neg (by decide)]) (by have e1 : ix (nI j) = j := ixn (by omega); have hdz2 : diZ (d2S (μ 1) (μ 4) (μ 5 0) (ix (nI j)) (nI q) w) (ix (nI j)) (nI q) w = z := (by rw [e1]; exact hdz); have h99 : (d2S (μ 1) (μ 4) (μ 5 0) (ix (nI j)) (nI q) w) = (N, f, n) := (by rw [e1]; exact h9); have hT : diT (μ 1) (nI j) (nI q) (d2S (μ 1) (μ 4) (μ 5 0) (ix (nI j)) (nI q) w) w = 3 := (by rw [diT, hcc]; show (if _ then (2 : Int32) else if diZ (d2S (μ 1) (μ 4) (μ 5 0) (ix (nI j)) (nI q) w) (ix (nI j)) (nI q) w < 0 then 3 else 0) = 3; rw [if_neg (by intro h; rcases h with h | h; (rw [ixn (by omega)] at h; rw [h] at c3; exact absurd c3 (by decide)); (rw [ixn (by omega)] at h; exact c4 h)), hdz2, if_pos c6]); refine WW_eq ?_ ?_ ?_ ?_ ?_ ?_; (simp only [put_s, sc, pn_01, pn_02, pn_03, pn_04, pn_05, pn_10, pn_12, pn_13, pn_14, pn_15, pn_20, pn_21, pn_23, pn_24, pn_25, pn_30, pn_31, pn_32, pn_34, pn_35, pn_40, pn_41, pn_42, pn_43, pn_45, pn_50, pn_51, pn_52, pn_53, pn_54]; exact hT.symm); (simp only [put_s, sc, pn_01, pn_02, pn_03, pn_04, pn_05, pn_10, pn_12, pn_13, pn_14, pn_15, pn_20, pn_21, pn_23, pn_24, pn_25, pn_30, pn_31, pn_32, pn_34, pn_35, pn_40, pn_41, pn_42, pn_43, pn_45, pn_50, pn_51, pn_52, pn_53, pn_54]; show N = diN (μ 1) (nI j) (nI q) (d2S (μ 1) (μ 4) (μ 5 0) (ix (nI j)) (nI q) w) w; rw [diN, hT, if_neg (by decide), if_pos rfl, h99]); simp only [put_s, sc, pn_01, pn_02, pn_03, pn_04, pn_05, pn_10, pn_12, pn_13, pn_14, pn_15, pn_20, pn_21, pn_23, pn_24, pn_25, pn_30, pn_31, pn_32, pn_34, pn_35, pn_40, pn_41, pn_42, pn_43, pn_45, pn_50, pn_51, pn_52, pn_53, pn_54]; simp only [put_s, sc, pn_01, pn_02, pn_03, pn_04, pn_05, pn_10, pn_12, pn_13, pn_14, pn_15, pn_20, pn_21, pn_23, pn_24, pn_25, pn_30, pn_31, pn_32, pn_34, pn_35, pn_40, pn_41, pn_42, pn_43, pn_45, pn_50, pn_51, pn_52, pn_53, pn_54]; (simp only [put_s, sc, pn_01, pn_02, pn_03, pn_04, pn_05, pn_10, pn_12, pn_13, pn_14, pn_15, pn_20, pn_21, pn_23, pn_24, pn_25, pn_30, pn_31, pn_32, pn_34, pn_35, pn_40, pn_41, pn_42, pn_43, pn_45, pn_50, pn_51, pn_52, pn_53, pn_54]; show f = diF (μ 1) (nI j) (nI q) (d2S (μ 1) (μ 4) (μ 5 0) (ix (nI j)) (nI q) w) w (μ 4); rw [diF, hT, if_neg (by decide), if_pos rfl, h99]); (simp only [put_s, sc, pn_01, pn_02, pn_03, pn_04, pn_05, pn_10, pn_12, pn_13, pn_14, pn_15, pn_20, pn_21, pn_23, pn_24, pn_25, pn_30, pn_31, pn_32, pn_34, pn_35, pn_40, pn_41, pn_42, pn_43, pn_45, pn_50, pn_51, pn_52, pn_53, pn_54]; show n = diM (μ 1) (nI j) (nI q) (d2S (μ 1) (μ 4) (μ 5 0) (ix (nI j)) (nI q) w) w (μ 5 0); rw [diM, hT, if_neg (by decide), if_pos rfl, h99]))
              | succ F ih =>
                intro N f n z hx hF hl hz hv
                refine g_iload X dX7_discover_105 107 rfl rfl ?_
                refine g_if_lt X dX7_discover_107 161 110 rfl rfl (fun c8 => ?_) (fun c8 => ?_)
                · skip
                  have h9 : d2S (μ 1) (μ 4) (μ 5 0) j (nI q) w = (N, f, n) := hv.symm.trans (dsL_n hz (Or.inl c8))
                  have hdz : diZ (d2S (μ 1) (μ 4) (μ 5 0) j (nI q) w) j (nI q) w = z := by rw [h9]; exact hz.symm
                  refine g_iload X dX7_discover_161 163 rfl rfl ?_
                  refine g_if_ge X dX7_discover_163 172 166 rfl rfl (fun c9 => absurd c9 (Int32.not_le.mpr c8)) (fun c9 => ?_)
                  refine g_aload_n X dX7_discover_166 167 rfl rfl ?_
                  refine g_iconst X dX7_discover_167 168 rfl (v := 3) rfl ?_
                  refine c_V X Lk_X7_41 (k_X7_raises E l wr b (put (put (put (put μ 0 (sc 0)) 1 N) 4 f) 5 (sc n)) a σ 3) dX7_discover_168 rfl 0 rfl rfl rfl (Nat.le_of_ble_eq_true rfl) ⟨(Nat.le_of_ble_eq_true rfl), (Nat.le_of_ble_eq_true rfl)⟩ ⟨(Nat.le_of_ble_eq_true rfl), (Nat.le_of_ble_eq_true rfl)⟩ 171 rfl [.int 0] rfl ?_
                  exact g_iret X hr dX7_discover_171 () (by have e1 : ix (nI j) = j := ixn (by omega); have hdz2 : diZ (d2S (μ 1) (μ 4) (μ 5 0) (ix (nI j)) (nI q) w) (ix (nI j)) (nI q) w = z := (by rw [e1]; exact hdz); have h99 : (d2S (μ 1) (μ 4) (μ 5 0) (ix (nI j)) (nI q) w) = (N, f, n) := (by rw [e1]; exact h9); have hT : diT (μ 1) (nI j) (nI q) (d2S (μ 1) (μ 4) (μ 5 0) (ix (nI j)) (nI q) w) w = 3 := (by rw [diT, hcc]; show (if _ then (2 : Int32) else if diZ (d2S (μ 1) (μ 4) (μ 5 0) (ix (nI j)) (nI q) w) (ix (nI j)) (nI q) w < 0 then 3 else 0) = 3; rw [if_neg (by intro h; rcases h with h | h; (rw [ixn (by omega)] at h; rw [h] at c3; exact absurd c3 (by decide)); (rw [ixn (by omega)] at h; exact c4 h)), hdz2, if_pos c8]); show (some (.int (diR (μ 1) (nI j) (nI q) (d2S (μ 1) (μ 4) (μ 5 0) (ix (nI j)) (nI q) w) w)) : Option Value) = some (.int 0); rw [diR, hT, if_neg (by decide)]) (by have e1 : ix (nI j) = j := ixn (by omega); have hdz2 : diZ (d2S (μ 1) (μ 4) (μ 5 0) (ix (nI j)) (nI q) w) (ix (nI j)) (nI q) w = z := (by rw [e1]; exact hdz); have h99 : (d2S (μ 1) (μ 4) (μ 5 0) (ix (nI j)) (nI q) w) = (N, f, n) := (by rw [e1]; exact h9); have hT : diT (μ 1) (nI j) (nI q) (d2S (μ 1) (μ 4) (μ 5 0) (ix (nI j)) (nI q) w) w = 3 := (by rw [diT, hcc]; show (if _ then (2 : Int32) else if diZ (d2S (μ 1) (μ 4) (μ 5 0) (ix (nI j)) (nI q) w) (ix (nI j)) (nI q) w < 0 then 3 else 0) = 3; rw [if_neg (by intro h; rcases h with h | h; (rw [ixn (by omega)] at h; rw [h] at c3; exact absurd c3 (by decide)); (rw [ixn (by omega)] at h; exact c4 h)), hdz2, if_pos c8]); refine WW_eq ?_ ?_ ?_ ?_ ?_ ?_; (simp only [put_s, sc, pn_01, pn_02, pn_03, pn_04, pn_05, pn_10, pn_12, pn_13, pn_14, pn_15, pn_20, pn_21, pn_23, pn_24, pn_25, pn_30, pn_31, pn_32, pn_34, pn_35, pn_40, pn_41, pn_42, pn_43, pn_45, pn_50, pn_51, pn_52, pn_53, pn_54]; exact hT.symm); (simp only [put_s, sc, pn_01, pn_02, pn_03, pn_04, pn_05, pn_10, pn_12, pn_13, pn_14, pn_15, pn_20, pn_21, pn_23, pn_24, pn_25, pn_30, pn_31, pn_32, pn_34, pn_35, pn_40, pn_41, pn_42, pn_43, pn_45, pn_50, pn_51, pn_52, pn_53, pn_54]; show N = diN (μ 1) (nI j) (nI q) (d2S (μ 1) (μ 4) (μ 5 0) (ix (nI j)) (nI q) w) w; rw [diN, hT, if_neg (by decide), if_pos rfl, h99]); simp only [put_s, sc, pn_01, pn_02, pn_03, pn_04, pn_05, pn_10, pn_12, pn_13, pn_14, pn_15, pn_20, pn_21, pn_23, pn_24, pn_25, pn_30, pn_31, pn_32, pn_34, pn_35, pn_40, pn_41, pn_42, pn_43, pn_45, pn_50, pn_51, pn_52, pn_53, pn_54]; simp only [put_s, sc, pn_01, pn_02, pn_03, pn_04, pn_05, pn_10, pn_12, pn_13, pn_14, pn_15, pn_20, pn_21, pn_23, pn_24, pn_25, pn_30, pn_31, pn_32, pn_34, pn_35, pn_40, pn_41, pn_42, pn_43, pn_45, pn_50, pn_51, pn_52, pn_53, pn_54]; (simp only [put_s, sc, pn_01, pn_02, pn_03, pn_04, pn_05, pn_10, pn_12, pn_13, pn_14, pn_15, pn_20, pn_21, pn_23, pn_24, pn_25, pn_30, pn_31, pn_32, pn_34, pn_35, pn_40, pn_41, pn_42, pn_43, pn_45, pn_50, pn_51, pn_52, pn_53, pn_54]; show f = diF (μ 1) (nI j) (nI q) (d2S (μ 1) (μ 4) (μ 5 0) (ix (nI j)) (nI q) w) w (μ 4); rw [diF, hT, if_neg (by decide), if_pos rfl, h99]); (simp only [put_s, sc, pn_01, pn_02, pn_03, pn_04, pn_05, pn_10, pn_12, pn_13, pn_14, pn_15, pn_20, pn_21, pn_23, pn_24, pn_25, pn_30, pn_31, pn_32, pn_34, pn_35, pn_40, pn_41, pn_42, pn_43, pn_45, pn_50, pn_51, pn_52, pn_53, pn_54]; show n = diM (μ 1) (nI j) (nI q) (d2S (μ 1) (μ 4) (μ 5 0) (ix (nI j)) (nI q) w) w (μ 5 0); rw [diM, hT, if_neg (by decide), if_pos rfl, h99]))
                · skip
                  obtain ⟨y, hy, rfl, h8⟩ := ca_sub hx hj hz c8
                  refine g_aload_n X dX7_discover_110 111 rfl rfl ?_
                  refine g_get X FL_X7_9 dX7_discover_111 114 rfl 0 rfl (v := .ref (b 1)) rfl ?_
                  refine g_sipush X dX7_discover_114 117 rfl (v := 131) rfl ?_
                  refine g_iload X dX7_discover_117 119 rfl rfl ?_
                  refine g_iaddN X dX7_discover_119 120 rfl 131 y rfl rfl ?_
                  refine g_ialdN (j := (131 + y)) (f := N) X dX7_discover_120 121 rfl 1 rfl (by omega) (by decide) ?_
                  refine g_iconst X dX7_discover_121 122 rfl (v := 1) rfl ?_
                  refine g_ic_ne X dX7_discover_122 161 125 rfl rfl (fun c10 => ?_) (fun c10 => ?_)
                  · skip
                    have h9 : d2S (μ 1) (μ 4) (μ 5 0) j (nI q) w = (N, f, n) := hv.symm.trans (dsL_n hz (Or.inr (by rw [ixn (by omega)]; exact c10)))
                    have hdz : diZ (d2S (μ 1) (μ 4) (μ 5 0) j (nI q) w) j (nI q) w = (nI y) := by rw [h9]; exact hz.symm
                    refine g_iload X dX7_discover_161 163 rfl rfl ?_
                    refine g_if_ge X dX7_discover_163 172 166 rfl rfl (fun c11 => ?_) (fun c11 => absurd (nI_0le (by omega)) c11)
                    refine g_aload_n X dX7_discover_172 173 rfl rfl ?_
                    refine g_get X FL_X7_9 dX7_discover_173 176 rfl 0 rfl (v := .ref (b 1)) rfl ?_
                    refine g_sipush X dX7_discover_176 179 rfl (v := 231) rfl ?_
                    refine g_iload X dX7_discover_179 181 rfl rfl ?_
                    refine g_iaddN X dX7_discover_181 182 rfl 231 y rfl rfl ?_
                    refine g_iconst X dX7_discover_182 183 rfl (v := 1) rfl ?_
                    refine g_iastN (j := (231 + y)) (f := N) X dX7_discover_183 184 rfl 1 rfl (by omega) (by decide) (WW E b (put (put (put (put μ 0 (sc 0)) 4 f) 5 (sc n)) 1 (upd N (231 + y) 1)) a σ wr) rfl ?_
                    refine g_aload_n X dX7_discover_184 185 rfl rfl ?_
                    refine g_get X FL_X7_9 dX7_discover_185 188 rfl 0 rfl (v := .ref (b 1)) rfl ?_
                    refine g_sipush X dX7_discover_188 191 rfl (v := 331) rfl ?_
                    refine g_iload X dX7_discover_191 193 rfl rfl ?_
                    refine g_iaddN X dX7_discover_193 194 rfl 331 y rfl rfl ?_
                    refine g_iload_n X dX7_discover_194 195 rfl rfl ?_
                    refine g_iastN (j := (331 + y)) (f := (upd N (231 + y) 1)) X dX7_discover_195 196 rfl 1 rfl (by omega) (by decide) (WW E b (put (put (put (put μ 0 (sc 0)) 4 f) 5 (sc n)) 1 (upd (upd N (231 + y) 1) (331 + y) (nI j))) a σ wr) rfl ?_
                    refine g_aload_n X dX7_discover_196 197 rfl rfl ?_
                    refine g_get X FL_X7_9 dX7_discover_197 200 rfl 0 rfl (v := .ref (b 1)) rfl ?_
                    refine g_sipush X dX7_discover_200 203 rfl (v := 431) rfl ?_
                    refine g_iload X dX7_discover_203 205 rfl rfl ?_
                    refine g_iaddN X dX7_discover_205 206 rfl 431 y rfl rfl ?_
                    refine g_aload_n X dX7_discover_206 207 rfl rfl ?_
                    refine g_get X FL_X7_9 dX7_discover_207 210 rfl 0 rfl (v := .ref (b 1)) rfl ?_
                    refine g_iconst X dX7_discover_210 211 rfl (v := 0) rfl ?_
                    refine g_ialdN (j := 0) (f := (upd (upd N (231 + y) 1) (331 + y) (nI j))) X dX7_discover_211 212 rfl 1 rfl (by omega) (by decide) ?_
                    refine g_aload_n X dX7_discover_212 213 rfl rfl ?_
                    refine g_get X FL_X7_9 dX7_discover_213 216 rfl 0 rfl (v := .ref (b 1)) rfl ?_
                    refine g_iconst X dX7_discover_216 217 rfl (v := 1) rfl ?_
                    refine g_ialdN (j := 1) (f := (upd (upd N (231 + y) 1) (331 + y) (nI j))) X dX7_discover_217 218 rfl 1 rfl (by omega) (by decide) ?_
                    refine g_iadd X dX7_discover_218 219 rfl ?_
                    refine g_iastN (j := (431 + y)) (f := (upd (upd N (231 + y) 1) (331 + y) (nI j))) X dX7_discover_219 220 rfl 1 rfl (by omega) (by decide) (WW E b (put (put (put (put μ 0 (sc 0)) 4 f) 5 (sc n)) 1 (upd (upd (upd N (231 + y) 1) (331 + y) (nI j)) (431 + y) (((upd (upd N (231 + y) 1) (331 + y) (nI j)) 0) + ((upd (upd N (231 + y) 1) (331 + y) (nI j)) 1)))) a σ wr) rfl ?_
                    refine g_aload_n X dX7_discover_220 221 rfl rfl ?_
                    refine g_get X FL_X7_9 dX7_discover_221 224 rfl 0 rfl (v := .ref (b 1)) rfl ?_
                    refine g_sipush X dX7_discover_224 227 rfl (v := 631) rfl ?_
                    refine g_iload_n X dX7_discover_227 228 rfl rfl ?_
                    refine g_iaddN X dX7_discover_228 229 rfl 631 j rfl rfl ?_
                    refine g_iconst X dX7_discover_229 230 rfl (v := 1) rfl ?_
                    refine g_iastN (j := (631 + j)) (f := (upd (upd (upd N (231 + y) 1) (331 + y) (nI j)) (431 + y) (((upd (upd N (231 + y) 1) (331 + y) (nI j)) 0) + ((upd (upd N (231 + y) 1) (331 + y) (nI j)) 1)))) X dX7_discover_230 231 rfl 1 rfl (by omega) (by decide) (WW E b (put (put (put (put μ 0 (sc 0)) 4 f) 5 (sc n)) 1 (upd (upd (upd (upd N (231 + y) 1) (331 + y) (nI j)) (431 + y) (((upd (upd N (231 + y) 1) (331 + y) (nI j)) 0) + ((upd (upd N (231 + y) 1) (331 + y) (nI j)) 1))) (631 + j) 1)) a σ wr) rfl ?_
                    refine g_aload_n X dX7_discover_231 232 rfl rfl ?_
                    refine g_get X FL_X7_9 dX7_discover_232 235 rfl 0 rfl (v := .ref (b 1)) rfl ?_
                    refine g_sipush X dX7_discover_235 238 rfl (v := 651) rfl ?_
                    refine g_iload_n X dX7_discover_238 239 rfl rfl ?_
                    refine g_iaddN X dX7_discover_239 240 rfl 651 j rfl rfl ?_
                    refine g_iload X dX7_discover_240 242 rfl rfl ?_
                    refine g_iastN (j := (651 + j)) (f := (upd (upd (upd (upd N (231 + y) 1) (331 + y) (nI j)) (431 + y) (((upd (upd N (231 + y) 1) (331 + y) (nI j)) 0) + ((upd (upd N (231 + y) 1) (331 + y) (nI j)) 1))) (631 + j) 1)) X dX7_discover_242 243 rfl 1 rfl (by omega) (by decide) (WW E b (put (put (put (put μ 0 (sc 0)) 4 f) 5 (sc n)) 1 (upd (upd (upd (upd (upd N (231 + y) 1) (331 + y) (nI j)) (431 + y) (((upd (upd N (231 + y) 1) (331 + y) (nI j)) 0) + ((upd (upd N (231 + y) 1) (331 + y) (nI j)) 1))) (631 + j) 1) (651 + j) (nI y))) a σ wr) rfl ?_
                    refine g_aload_n X dX7_discover_243 244 rfl rfl ?_
                    refine g_iconst X dX7_discover_244 245 rfl (v := 1) rfl ?_
                    refine g_iload X dX7_discover_245 247 rfl rfl ?_
                    refine c_V X Lk_X7_83 (k_X7_logs E l wr b (put (put (put (put μ 0 (sc 0)) 4 f) 5 (sc n)) 1 (upd (upd (upd (upd (upd N (231 + y) 1) (331 + y) (nI j)) (431 + y) (((upd (upd N (231 + y) 1) (331 + y) (nI j)) 0) + ((upd (upd N (231 + y) 1) (331 + y) (nI j)) 1))) (631 + j) 1) (651 + j) (nI y))) a σ 1 (nI y) hl) dX7_discover_247 rfl 0 rfl rfl rfl (Nat.le_of_ble_eq_true rfl) ⟨(Nat.le_of_ble_eq_true rfl), (Nat.le_of_ble_eq_true rfl)⟩ ⟨(Nat.le_of_ble_eq_true rfl), (Nat.le_of_ble_eq_true rfl)⟩ 250 rfl [] rfl ?_
                    refine g_iload X dX7_discover_250 252 rfl rfl ?_
                    exact g_iret X hr dX7_discover_252 () (by have e1 : ix (nI j) = j := ixn (by omega); have hdz2 : diZ (d2S (μ 1) (μ 4) (μ 5 0) (ix (nI j)) (nI q) w) (ix (nI j)) (nI q) w = (nI y) := (by rw [e1]; exact hdz); have h99 : (d2S (μ 1) (μ 4) (μ 5 0) (ix (nI j)) (nI q) w) = (N, f, n) := (by rw [e1]; exact h9); have hT : diT (μ 1) (nI j) (nI q) (d2S (μ 1) (μ 4) (μ 5 0) (ix (nI j)) (nI q) w) w = 0 := (by rw [diT, hcc]; show (if _ then (2 : Int32) else if diZ (d2S (μ 1) (μ 4) (μ 5 0) (ix (nI j)) (nI q) w) (ix (nI j)) (nI q) w < 0 then 3 else 0) = 0; rw [if_neg (by intro h; rcases h with h | h; (rw [ixn (by omega)] at h; rw [h] at c3; exact absurd c3 (by decide)); (rw [ixn (by omega)] at h; exact c4 h)), hdz2, if_neg c8]); show (some (.int (diR (μ 1) (nI j) (nI q) (d2S (μ 1) (μ 4) (μ 5 0) (ix (nI j)) (nI q) w) w)) : Option Value) = some (.int (nI y)); rw [diR, hT, if_pos rfl, hdz2]) (by have e1 : ix (nI j) = j := ixn (by omega); have hdz2 : diZ (d2S (μ 1) (μ 4) (μ 5 0) (ix (nI j)) (nI q) w) (ix (nI j)) (nI q) w = (nI y) := (by rw [e1]; exact hdz); have h99 : (d2S (μ 1) (μ 4) (μ 5 0) (ix (nI j)) (nI q) w) = (N, f, n) := (by rw [e1]; exact h9); have hT : diT (μ 1) (nI j) (nI q) (d2S (μ 1) (μ 4) (μ 5 0) (ix (nI j)) (nI q) w) w = 0 := (by rw [diT, hcc]; show (if _ then (2 : Int32) else if diZ (d2S (μ 1) (μ 4) (μ 5 0) (ix (nI j)) (nI q) w) (ix (nI j)) (nI q) w < 0 then 3 else 0) = 0; rw [if_neg (by intro h; rcases h with h | h; (rw [ixn (by omega)] at h; rw [h] at c3; exact absurd c3 (by decide)); (rw [ixn (by omega)] at h; exact c4 h)), hdz2, if_neg c8]); refine WW_eq ?_ ?_ ?_ ?_ ?_ ?_; (simp only [put_s, sc, pn_01, pn_02, pn_03, pn_04, pn_05, pn_10, pn_12, pn_13, pn_14, pn_15, pn_20, pn_21, pn_23, pn_24, pn_25, pn_30, pn_31, pn_32, pn_34, pn_35, pn_40, pn_41, pn_42, pn_43, pn_45, pn_50, pn_51, pn_52, pn_53, pn_54]; exact hT.symm); (simp only [put_s, sc, pn_01, pn_02, pn_03, pn_04, pn_05, pn_10, pn_12, pn_13, pn_14, pn_15, pn_20, pn_21, pn_23, pn_24, pn_25, pn_30, pn_31, pn_32, pn_34, pn_35, pn_40, pn_41, pn_42, pn_43, pn_45, pn_50, pn_51, pn_52, pn_53, pn_54]; show d3N N j y = diN (μ 1) (nI j) (nI q) (d2S (μ 1) (μ 4) (μ 5 0) (ix (nI j)) (nI q) w) w; rw [diN, hT, if_pos rfl, hdz2, h99, e1, ixn (show y < 2 ^ 31 by omega)]); simp only [put_s, sc, pn_01, pn_02, pn_03, pn_04, pn_05, pn_10, pn_12, pn_13, pn_14, pn_15, pn_20, pn_21, pn_23, pn_24, pn_25, pn_30, pn_31, pn_32, pn_34, pn_35, pn_40, pn_41, pn_42, pn_43, pn_45, pn_50, pn_51, pn_52, pn_53, pn_54]; simp only [put_s, sc, pn_01, pn_02, pn_03, pn_04, pn_05, pn_10, pn_12, pn_13, pn_14, pn_15, pn_20, pn_21, pn_23, pn_24, pn_25, pn_30, pn_31, pn_32, pn_34, pn_35, pn_40, pn_41, pn_42, pn_43, pn_45, pn_50, pn_51, pn_52, pn_53, pn_54]; (simp only [put_s, sc, pn_01, pn_02, pn_03, pn_04, pn_05, pn_10, pn_12, pn_13, pn_14, pn_15, pn_20, pn_21, pn_23, pn_24, pn_25, pn_30, pn_31, pn_32, pn_34, pn_35, pn_40, pn_41, pn_42, pn_43, pn_45, pn_50, pn_51, pn_52, pn_53, pn_54]; show lgM f n 1 (nI y) = diF (μ 1) (nI j) (nI q) (d2S (μ 1) (μ 4) (μ 5 0) (ix (nI j)) (nI q) w) w (μ 4); rw [diF, hT, if_pos rfl, hdz2, h99]); (simp only [put_s, sc, pn_01, pn_02, pn_03, pn_04, pn_05, pn_10, pn_12, pn_13, pn_14, pn_15, pn_20, pn_21, pn_23, pn_24, pn_25, pn_30, pn_31, pn_32, pn_34, pn_35, pn_40, pn_41, pn_42, pn_43, pn_45, pn_50, pn_51, pn_52, pn_53, pn_54]; show lgN n = diM (μ 1) (nI j) (nI q) (d2S (μ 1) (μ 4) (μ 5 0) (ix (nI j)) (nI q) w) w (μ 5 0); rw [diM, hT, if_pos rfl, h99]))
                  · skip
                    refine g_aload_n X dX7_discover_125 126 rfl rfl ?_
                    refine g_iload X dX7_discover_126 128 rfl rfl ?_
                    refine c_V X Lk_X7_79 (k_X7_declines E l wr b (put (put (put (put μ 0 (sc 0)) 1 N) 4 f) 5 (sc n)) a σ y (by first | omega | assumption)) dX7_discover_128 rfl 0 rfl rfl rfl (Nat.le_of_ble_eq_true rfl) ⟨(Nat.le_of_ble_eq_true rfl), (Nat.le_of_ble_eq_true rfl)⟩ ⟨(Nat.le_of_ble_eq_true rfl), (Nat.le_of_ble_eq_true rfl)⟩ 131 rfl [] rfl ?_
                    refine g_aload_n X dX7_discover_131 132 rfl rfl ?_
                    refine g_get X FL_X7_9 dX7_discover_132 135 rfl 0 rfl (v := .ref (b 1)) rfl ?_
                    refine g_iconst X dX7_discover_135 136 rfl (v := 3) rfl ?_
                    refine g_dup2 X dX7_discover_136 137 rfl rfl rfl ?_
                    refine g_ialdN (j := 3) (f := (mDe N y)) X dX7_discover_137 138 rfl 1 rfl (by omega) (by decide) ?_
                    refine g_iconst X dX7_discover_138 139 rfl (v := 1) rfl ?_
                    refine g_iadd X dX7_discover_139 140 rfl ?_
                    refine g_iastN (j := 3) (f := (mDe N y)) X dX7_discover_140 141 rfl 1 rfl (by omega) (by decide) (WW E b (put (put (put (put μ 0 (sc 0)) 4 f) 5 (sc n)) 1 (upd (mDe N y) 3 (((mDe N y) 3) + 1))) a σ wr) rfl ?_
                    refine g_aload_n X dX7_discover_141 142 rfl rfl ?_
                    refine g_bipush X dX7_discover_142 144 rfl (v := 8) rfl ?_
                    refine g_iload X dX7_discover_144 146 rfl rfl ?_
                    refine c_V X Lk_X7_83 (k_X7_logs E l wr b (put (put (put (put μ 0 (sc 0)) 4 f) 5 (sc n)) 1 (upd (mDe N y) 3 (((mDe N y) 3) + 1))) a σ 8 (nI y) hl) dX7_discover_146 rfl 0 rfl rfl rfl (Nat.le_of_ble_eq_true rfl) ⟨(Nat.le_of_ble_eq_true rfl), (Nat.le_of_ble_eq_true rfl)⟩ ⟨(Nat.le_of_ble_eq_true rfl), (Nat.le_of_ble_eq_true rfl)⟩ 149 rfl [] rfl ?_
                    refine g_aload_n X dX7_discover_149 150 rfl rfl ?_
                    refine g_iload_n X dX7_discover_150 151 rfl rfl ?_
                    refine g_iload_n X dX7_discover_151 152 rfl rfl ?_
                    refine g_iload_n X dX7_discover_152 153 rfl rfl ?_
                    refine c_V X Lk_X7_75 (k_X7_candidate E l wr b (put (put (put (put μ 0 (sc 0)) 1 (upd (mDe N y) 3 (((mDe N y) 3) + 1))) 4 (mLog f (ix (lgN n)) 8 (nI y))) 5 (sc (lgN n))) a σ j (nI q) w v (MX.ok (MX.de hx (by omega)) (by omega)) (by first | omega | assumption)) dX7_discover_153 rfl 0 rfl rfl rfl (Nat.le_of_ble_eq_true rfl) ⟨(Nat.le_of_ble_eq_true rfl), (Nat.le_of_ble_eq_true rfl)⟩ ⟨(Nat.le_of_ble_eq_true rfl), (Nat.le_of_ble_eq_true rfl)⟩ 156 rfl [.int (caM (upd (mDe N y) 3 (((mDe N y) 3) + 1)) j (nI q) w)] rfl ?_
                    refine g_istore X dX7_discover_156 158 rfl (by decide) [(4, .int (caM (upd (mDe N y) 3 (((mDe N y) 3) + 1)) j (nI q) w)), (0, .ref (b 0)), (1, .int (nI j)), (2, .int (nI q)), (3, .int w)] rfl ?_
                    refine g_goto X dX7_discover_158 105 rfl ?_
                    refine g_lsub [1, 2, 3, 4, 0] [(0, .ref (b 0)), (1, .int (nI j)), (2, .int (nI q)), (3, .int w), (4, .int (caM (upd (mDe N y) 3 (((mDe N y) 3) + 1)) j (nI q) w))] rfl ?_
                    exact ih (dsN N y) (lgM f n 8 (nI y)) (lgN n) _ (MX.ds hx hy) (fz_ds hy (cdt_0 h8) hF) (LG.st hl) rfl ((dsL_s hy hz c8 c10).symm.trans hv)
            refine g_lsub [1, 2, 3, 4, 0] [(0, .ref (b 0)), (1, .int (nI j)), (2, .int (nI q)), (3, .int w), (4, .int (caM (d1N (μ 1) j) j (nI q) w))] rfl ?_
            rw [show WW E b (put (put μ 0 (sc 0)) 1 (d1N (μ 1) j)) a σ wr = WW E b (put (put (put (put μ 0 (sc 0)) 1 (d1N (μ 1) j)) 4 (μ 4)) 5 (sc (μ 5 0))) a σ wr from by refine WW_eq ?_ ?_ ?_ ?_ ?_ ?_ <;> simp only [put_s, sc, pn_01, pn_02, pn_03, pn_04, pn_05, pn_10, pn_12, pn_13, pn_14, pn_15, pn_20, pn_21, pn_23, pn_24, pn_25, pn_30, pn_31, pn_32, pn_34, pn_35, pn_40, pn_41, pn_42, pn_43, pn_45, pn_50, pn_51, pn_52, pn_53, pn_54]]
            exact Ld 100 (d1N (μ 1) j) (μ 4) (μ 5 0) _ hx (fzL_le 100 0) hL rfl rfl
          · skip
            refine g_aload_n X dX7_discover_65 66 rfl rfl ?_
            refine g_aload_n X dX7_discover_66 67 rfl rfl ?_
            refine g_get X FL_X7_9 dX7_discover_67 70 rfl 0 rfl (v := .ref (b 1)) rfl ?_
            refine g_sipush X dX7_discover_70 73 rfl (v := 651) rfl ?_
            refine g_iload_n X dX7_discover_73 74 rfl rfl ?_
            refine g_iaddN X dX7_discover_74 75 rfl 651 j rfl rfl ?_
            refine g_ialdN (j := (651 + j)) (f := (μ 1)) X dX7_discover_75 76 rfl 1 rfl (by omega) (by decide) ?_
            obtain ⟨y, hy, h2⟩ := hX.ha j hj
            refine g_top (nI y) h2 ?_
            refine g_aload_n X dX7_discover_76 77 rfl rfl ?_
            refine g_get X FL_X7_9 dX7_discover_77 80 rfl 0 rfl (v := .ref (b 1)) rfl ?_
            refine g_iconst X dX7_discover_80 81 rfl (v := 0) rfl ?_
            refine g_ialdN (j := 0) (f := (μ 1)) X dX7_discover_81 82 rfl 1 rfl (by omega) (by decide) ?_
            refine c_V X Lk_X7_71 (k_X7_frees E l wr b (put μ 0 (sc 0)) a σ y (μ 1 0) (by first | omega | assumption)) dX7_discover_82 rfl 0 rfl rfl rfl (Nat.le_of_ble_eq_true rfl) ⟨(Nat.le_of_ble_eq_true rfl), (Nat.le_of_ble_eq_true rfl)⟩ ⟨(Nat.le_of_ble_eq_true rfl), (Nat.le_of_ble_eq_true rfl)⟩ 85 rfl [] rfl ?_
            refine g_aload_n X dX7_discover_85 86 rfl rfl ?_
            refine g_get X FL_X7_9 dX7_discover_86 89 rfl 0 rfl (v := .ref (b 1)) rfl ?_
            refine g_sipush X dX7_discover_89 92 rfl (v := 631) rfl ?_
            refine g_iload_n X dX7_discover_92 93 rfl rfl ?_
            refine g_iaddN X dX7_discover_93 94 rfl 631 j rfl rfl ?_
            refine g_iconst X dX7_discover_94 95 rfl (v := 0) rfl ?_
            refine g_iastN (j := (631 + j)) (f := (mFr (μ 1) y (μ 1 0))) X dX7_discover_95 96 rfl 1 rfl (by omega) (by decide) (WW E b (put (put μ 0 (sc 0)) 1 (upd (mFr (μ 1) y (μ 1 0)) (631 + j) 0)) a σ wr) rfl ?_
            have hd1 : (upd (mFr (μ 1) y (μ 1 0)) (631 + j) 0) = d1N (μ 1) j := by rw [d1N, if_pos c5, aC, h2, ixn (by omega)]
            rw [show WW E b (put (put μ 0 (sc 0)) 1 (upd (mFr (μ 1) y (μ 1 0)) (631 + j) 0)) a σ wr = WW E b (put (put μ 0 (sc 0)) 1 (d1N (μ 1) j)) a σ wr from by rw [hd1]]
            have hx := MX.d1 hX hj
            refine g_aload_n X dX7_discover_96 97 rfl rfl ?_
            refine g_iload_n X dX7_discover_97 98 rfl rfl ?_
            refine g_iload_n X dX7_discover_98 99 rfl rfl ?_
            refine g_iload_n X dX7_discover_99 100 rfl rfl ?_
            refine c_V X Lk_X7_75 (k_X7_candidate E l wr b (put (put μ 0 (sc 0)) 1 (d1N (μ 1) j)) a σ j (nI q) w v hx (by first | omega | assumption)) dX7_discover_100 rfl 0 rfl rfl rfl (Nat.le_of_ble_eq_true rfl) ⟨(Nat.le_of_ble_eq_true rfl), (Nat.le_of_ble_eq_true rfl)⟩ ⟨(Nat.le_of_ble_eq_true rfl), (Nat.le_of_ble_eq_true rfl)⟩ 103 rfl [.int (caM (d1N (μ 1) j) j (nI q) w)] rfl ?_
            refine g_istore X dX7_discover_103 105 rfl (by decide) [(4, .int (caM (d1N (μ 1) j) j (nI q) w)), (0, .ref (b 0)), (1, .int (nI j)), (2, .int (nI q)), (3, .int w)] rfl ?_
            have Ld : ∀ (F : Nat) (N f : Nat → Int32) (n z : Int32), (MX N v) → (fzL N 0 100 ≤ F) → (LG n) → (z = caM N j (nI q) w) → (dsL j (nI q) w F (N, f, n) = d2S (μ 1) (μ 4) (μ 5 0) j (nI q) w) →  G E (va_A (WW E b μ a σ wr) s.heap.size) 5 p l e ({ frames := 5, cells := 0, slots := 0, locals := 114 } : Room) s m (([.ref (b 0), .int (nI j), .int (nI q), .int w] : List Value).toArray) below meth c (MQ below (KQ E (WW E b μ a σ wr) s.heap.size (fun _ : Unit => (some (.int (diR (μ 1) (nI j) (nI q) (d2S (μ 1) (μ 4) (μ 5 0) (ix (nI j)) (nI q) w) w)))) (fun _ => WW E b (put (put (put (put μ 0 (sc (diT (μ 1) (nI j) (nI q) (d2S (μ 1) (μ 4) (μ 5 0) (ix (nI j)) (nI q) w) w))) 1 (diN (μ 1) (nI j) (nI q) (d2S (μ 1) (μ 4) (μ 5 0) (ix (nI j)) (nI q) w) w)) 4 (diF (μ 1) (nI j) (nI q) (d2S (μ 1) (μ 4) (μ 5 0) (ix (nI j)) (nI q) w) w (μ 4))) 5 (sc (diM (μ 1) (nI j) (nI q) (d2S (μ 1) (μ 4) (μ 5 0) (ix (nI j)) (nI q) w) w (μ 5 0)))) a σ wr)) (([.ref (b 0), .int (nI j), .int (nI q), .int w] : List Value).toArray) s 0 0 (va_A (WW E b μ a σ wr) s.heap.size)) 0 0 (WW E b (put (put (put (put μ 0 (sc 0)) 1 N) 4 f) 5 (sc n)) a σ wr) 105 [(0, .ref (b 0)), (1, .int (nI j)), (2, .int (nI q)), (3, .int w), (4, .int z)] [] := by
              intro F
              induction F with
              | zero =>
                intro N f n z hx hF hl hz hv
                refine g_iload X dX7_discover_105 107 rfl rfl ?_
                refine g_if_lt X dX7_discover_107 161 110 rfl rfl (fun c12 => ?_) (fun c12 => absurd (ca_no hx hj hz hF) c12)
                have h9 : d2S (μ 1) (μ 4) (μ 5 0) j (nI q) w = (N, f, n) := hv.symm.trans dsL_0
                have hdz : diZ (d2S (μ 1) (μ 4) (μ 5 0) j (nI q) w) j (nI q) w = z := by rw [h9]; exact hz.symm
                refine g_iload X dX7_discover_161 163 rfl rfl ?_
                refine g_if_ge X dX7_discover_163 172 166 rfl rfl (fun c13 => absurd c13 (Int32.not_le.mpr c12)) (fun c13 => ?_)
                refine g_aload_n X dX7_discover_166 167 rfl rfl ?_
                refine g_iconst X dX7_discover_167 168 rfl (v := 3) rfl ?_
                refine c_V X Lk_X7_41 (k_X7_raises E l wr b (put (put (put (put μ 0 (sc 0)) 1 N) 4 f) 5 (sc n)) a σ 3) dX7_discover_168 rfl 0 rfl rfl rfl (Nat.le_of_ble_eq_true rfl) ⟨(Nat.le_of_ble_eq_true rfl), (Nat.le_of_ble_eq_true rfl)⟩ ⟨(Nat.le_of_ble_eq_true rfl), (Nat.le_of_ble_eq_true rfl)⟩ 171 rfl [.int 0] rfl ?_
                exact g_iret X hr dX7_discover_171 () (by have e1 : ix (nI j) = j := ixn (by omega); have hdz2 : diZ (d2S (μ 1) (μ 4) (μ 5 0) (ix (nI j)) (nI q) w) (ix (nI j)) (nI q) w = z := (by rw [e1]; exact hdz); have h99 : (d2S (μ 1) (μ 4) (μ 5 0) (ix (nI j)) (nI q) w) = (N, f, n) := (by rw [e1]; exact h9); have hT : diT (μ 1) (nI j) (nI q) (d2S (μ 1) (μ 4) (μ 5 0) (ix (nI j)) (nI q) w) w = 3 := (by rw [diT, hcc]; show (if _ then (2 : Int32) else if diZ (d2S (μ 1) (μ 4) (μ 5 0) (ix (nI j)) (nI q) w) (ix (nI j)) (nI q) w < 0 then 3 else 0) = 3; rw [if_neg (by intro h; rcases h with h | h; (rw [ixn (by omega)] at h; rw [h] at c3; exact absurd c3 (by decide)); (rw [ixn (by omega)] at h; exact c4 h)), hdz2, if_pos c12]); show (some (.int (diR (μ 1) (nI j) (nI q) (d2S (μ 1) (μ 4) (μ 5 0) (ix (nI j)) (nI q) w) w)) : Option Value) = some (.int 0); rw [diR, hT, if_neg (by decide)]) (by have e1 : ix (nI j) = j := ixn (by omega); have hdz2 : diZ (d2S (μ 1) (μ 4) (μ 5 0) (ix (nI j)) (nI q) w) (ix (nI j)) (nI q) w = z := (by rw [e1]; exact hdz); have h99 : (d2S (μ 1) (μ 4) (μ 5 0) (ix (nI j)) (nI q) w) = (N, f, n) := (by rw [e1]; exact h9); have hT : diT (μ 1) (nI j) (nI q) (d2S (μ 1) (μ 4) (μ 5 0) (ix (nI j)) (nI q) w) w = 3 := (by rw [diT, hcc]; show (if _ then (2 : Int32) else if diZ (d2S (μ 1) (μ 4) (μ 5 0) (ix (nI j)) (nI q) w) (ix (nI j)) (nI q) w < 0 then 3 else 0) = 3; rw [if_neg (by intro h; rcases h with h | h; (rw [ixn (by omega)] at h; rw [h] at c3; exact absurd c3 (by decide)); (rw [ixn (by omega)] at h; exact c4 h)), hdz2, if_pos c12]); refine WW_eq ?_ ?_ ?_ ?_ ?_ ?_; (simp only [put_s, sc, pn_01, pn_02, pn_03, pn_04, pn_05, pn_10, pn_12, pn_13, pn_14, pn_15, pn_20, pn_21, pn_23, pn_24, pn_25, pn_30, pn_31, pn_32, pn_34, pn_35, pn_40, pn_41, pn_42, pn_43, pn_45, pn_50, pn_51, pn_52, pn_53, pn_54]; exact hT.symm); (simp only [put_s, sc, pn_01, pn_02, pn_03, pn_04, pn_05, pn_10, pn_12, pn_13, pn_14, pn_15, pn_20, pn_21, pn_23, pn_24, pn_25, pn_30, pn_31, pn_32, pn_34, pn_35, pn_40, pn_41, pn_42, pn_43, pn_45, pn_50, pn_51, pn_52, pn_53, pn_54]; show N = diN (μ 1) (nI j) (nI q) (d2S (μ 1) (μ 4) (μ 5 0) (ix (nI j)) (nI q) w) w; rw [diN, hT, if_neg (by decide), if_pos rfl, h99]); simp only [put_s, sc, pn_01, pn_02, pn_03, pn_04, pn_05, pn_10, pn_12, pn_13, pn_14, pn_15, pn_20, pn_21, pn_23, pn_24, pn_25, pn_30, pn_31, pn_32, pn_34, pn_35, pn_40, pn_41, pn_42, pn_43, pn_45, pn_50, pn_51, pn_52, pn_53, pn_54]; simp only [put_s, sc, pn_01, pn_02, pn_03, pn_04, pn_05, pn_10, pn_12, pn_13, pn_14, pn_15, pn_20, pn_21, pn_23, pn_24, pn_25, pn_30, pn_31, pn_32, pn_34, pn_35, pn_40, pn_41, pn_42, pn_43, pn_45, pn_50, pn_51, pn_52, pn_53, pn_54]; (simp only [put_s, sc, pn_01, pn_02, pn_03, pn_04, pn_05, pn_10, pn_12, pn_13, pn_14, pn_15, pn_20, pn_21, pn_23, pn_24, pn_25, pn_30, pn_31, pn_32, pn_34, pn_35, pn_40, pn_41, pn_42, pn_43, pn_45, pn_50, pn_51, pn_52, pn_53, pn_54]; show f = diF (μ 1) (nI j) (nI q) (d2S (μ 1) (μ 4) (μ 5 0) (ix (nI j)) (nI q) w) w (μ 4); rw [diF, hT, if_neg (by decide), if_pos rfl, h99]); (simp only [put_s, sc, pn_01, pn_02, pn_03, pn_04, pn_05, pn_10, pn_12, pn_13, pn_14, pn_15, pn_20, pn_21, pn_23, pn_24, pn_25, pn_30, pn_31, pn_32, pn_34, pn_35, pn_40, pn_41, pn_42, pn_43, pn_45, pn_50, pn_51, pn_52, pn_53, pn_54]; show n = diM (μ 1) (nI j) (nI q) (d2S (μ 1) (μ 4) (μ 5 0) (ix (nI j)) (nI q) w) w (μ 5 0); rw [diM, hT, if_neg (by decide), if_pos rfl, h99]))
              | succ F ih =>
                intro N f n z hx hF hl hz hv
                refine g_iload X dX7_discover_105 107 rfl rfl ?_
                refine g_if_lt X dX7_discover_107 161 110 rfl rfl (fun c14 => ?_) (fun c14 => ?_)
                · skip
                  have h9 : d2S (μ 1) (μ 4) (μ 5 0) j (nI q) w = (N, f, n) := hv.symm.trans (dsL_n hz (Or.inl c14))
                  have hdz : diZ (d2S (μ 1) (μ 4) (μ 5 0) j (nI q) w) j (nI q) w = z := by rw [h9]; exact hz.symm
                  refine g_iload X dX7_discover_161 163 rfl rfl ?_
                  refine g_if_ge X dX7_discover_163 172 166 rfl rfl (fun c15 => absurd c15 (Int32.not_le.mpr c14)) (fun c15 => ?_)
                  refine g_aload_n X dX7_discover_166 167 rfl rfl ?_
                  refine g_iconst X dX7_discover_167 168 rfl (v := 3) rfl ?_
                  refine c_V X Lk_X7_41 (k_X7_raises E l wr b (put (put (put (put μ 0 (sc 0)) 1 N) 4 f) 5 (sc n)) a σ 3) dX7_discover_168 rfl 0 rfl rfl rfl (Nat.le_of_ble_eq_true rfl) ⟨(Nat.le_of_ble_eq_true rfl), (Nat.le_of_ble_eq_true rfl)⟩ ⟨(Nat.le_of_ble_eq_true rfl), (Nat.le_of_ble_eq_true rfl)⟩ 171 rfl [.int 0] rfl ?_
                  exact g_iret X hr dX7_discover_171 () (by have e1 : ix (nI j) = j := ixn (by omega); have hdz2 : diZ (d2S (μ 1) (μ 4) (μ 5 0) (ix (nI j)) (nI q) w) (ix (nI j)) (nI q) w = z := (by rw [e1]; exact hdz); have h99 : (d2S (μ 1) (μ 4) (μ 5 0) (ix (nI j)) (nI q) w) = (N, f, n) := (by rw [e1]; exact h9); have hT : diT (μ 1) (nI j) (nI q) (d2S (μ 1) (μ 4) (μ 5 0) (ix (nI j)) (nI q) w) w = 3 := (by rw [diT, hcc]; show (if _ then (2 : Int32) else if diZ (d2S (μ 1) (μ 4) (μ 5 0) (ix (nI j)) (nI q) w) (ix (nI j)) (nI q) w < 0 then 3 else 0) = 3; rw [if_neg (by intro h; rcases h with h | h; (rw [ixn (by omega)] at h; rw [h] at c3; exact absurd c3 (by decide)); (rw [ixn (by omega)] at h; exact c4 h)), hdz2, if_pos c14]); show (some (.int (diR (μ 1) (nI j) (nI q) (d2S (μ 1) (μ 4) (μ 5 0) (ix (nI j)) (nI q) w) w)) : Option Value) = some (.int 0); rw [diR, hT, if_neg (by decide)]) (by have e1 : ix (nI j) = j := ixn (by omega); have hdz2 : diZ (d2S (μ 1) (μ 4) (μ 5 0) (ix (nI j)) (nI q) w) (ix (nI j)) (nI q) w = z := (by rw [e1]; exact hdz); have h99 : (d2S (μ 1) (μ 4) (μ 5 0) (ix (nI j)) (nI q) w) = (N, f, n) := (by rw [e1]; exact h9); have hT : diT (μ 1) (nI j) (nI q) (d2S (μ 1) (μ 4) (μ 5 0) (ix (nI j)) (nI q) w) w = 3 := (by rw [diT, hcc]; show (if _ then (2 : Int32) else if diZ (d2S (μ 1) (μ 4) (μ 5 0) (ix (nI j)) (nI q) w) (ix (nI j)) (nI q) w < 0 then 3 else 0) = 3; rw [if_neg (by intro h; rcases h with h | h; (rw [ixn (by omega)] at h; rw [h] at c3; exact absurd c3 (by decide)); (rw [ixn (by omega)] at h; exact c4 h)), hdz2, if_pos c14]); refine WW_eq ?_ ?_ ?_ ?_ ?_ ?_; (simp only [put_s, sc, pn_01, pn_02, pn_03, pn_04, pn_05, pn_10, pn_12, pn_13, pn_14, pn_15, pn_20, pn_21, pn_23, pn_24, pn_25, pn_30, pn_31, pn_32, pn_34, pn_35, pn_40, pn_41, pn_42, pn_43, pn_45, pn_50, pn_51, pn_52, pn_53, pn_54]; exact hT.symm); (simp only [put_s, sc, pn_01, pn_02, pn_03, pn_04, pn_05, pn_10, pn_12, pn_13, pn_14, pn_15, pn_20, pn_21, pn_23, pn_24, pn_25, pn_30, pn_31, pn_32, pn_34, pn_35, pn_40, pn_41, pn_42, pn_43, pn_45, pn_50, pn_51, pn_52, pn_53, pn_54]; show N = diN (μ 1) (nI j) (nI q) (d2S (μ 1) (μ 4) (μ 5 0) (ix (nI j)) (nI q) w) w; rw [diN, hT, if_neg (by decide), if_pos rfl, h99]); simp only [put_s, sc, pn_01, pn_02, pn_03, pn_04, pn_05, pn_10, pn_12, pn_13, pn_14, pn_15, pn_20, pn_21, pn_23, pn_24, pn_25, pn_30, pn_31, pn_32, pn_34, pn_35, pn_40, pn_41, pn_42, pn_43, pn_45, pn_50, pn_51, pn_52, pn_53, pn_54]; simp only [put_s, sc, pn_01, pn_02, pn_03, pn_04, pn_05, pn_10, pn_12, pn_13, pn_14, pn_15, pn_20, pn_21, pn_23, pn_24, pn_25, pn_30, pn_31, pn_32, pn_34, pn_35, pn_40, pn_41, pn_42, pn_43, pn_45, pn_50, pn_51, pn_52, pn_53, pn_54]; (simp only [put_s, sc, pn_01, pn_02, pn_03, pn_04, pn_05, pn_10, pn_12, pn_13, pn_14, pn_15, pn_20, pn_21, pn_23, pn_24, pn_25, pn_30, pn_31, pn_32, pn_34, pn_35, pn_40, pn_41, pn_42, pn_43, pn_45, pn_50, pn_51, pn_52, pn_53, pn_54]; show f = diF (μ 1) (nI j) (nI q) (d2S (μ 1) (μ 4) (μ 5 0) (ix (nI j)) (nI q) w) w (μ 4); rw [diF, hT, if_neg (by decide), if_pos rfl, h99]); (simp only [put_s, sc, pn_01, pn_02, pn_03, pn_04, pn_05, pn_10, pn_12, pn_13, pn_14, pn_15, pn_20, pn_21, pn_23, pn_24, pn_25, pn_30, pn_31, pn_32, pn_34, pn_35, pn_40, pn_41, pn_42, pn_43, pn_45, pn_50, pn_51, pn_52, pn_53, pn_54]; show n = diM (μ 1) (nI j) (nI q) (d2S (μ 1) (μ 4) (μ 5 0) (ix (nI j)) (nI q) w) w (μ 5 0); rw [diM, hT, if_neg (by decide), if_pos rfl, h99]))
                · skip
                  obtain ⟨y, hy, rfl, h8⟩ := ca_sub hx hj hz c14
                  refine g_aload_n X dX7_discover_110 111 rfl rfl ?_
                  refine g_get X FL_X7_9 dX7_discover_111 114 rfl 0 rfl (v := .ref (b 1)) rfl ?_
                  refine g_sipush X dX7_discover_114 117 rfl (v := 131) rfl ?_
                  refine g_iload X dX7_discover_117 119 rfl rfl ?_
                  refine g_iaddN X dX7_discover_119 120 rfl 131 y rfl rfl ?_
                  refine g_ialdN (j := (131 + y)) (f := N) X dX7_discover_120 121 rfl 1 rfl (by omega) (by decide) ?_
                  refine g_iconst X dX7_discover_121 122 rfl (v := 1) rfl ?_
                  refine g_ic_ne X dX7_discover_122 161 125 rfl rfl (fun c16 => ?_) (fun c16 => ?_)
                  · skip
                    have h9 : d2S (μ 1) (μ 4) (μ 5 0) j (nI q) w = (N, f, n) := hv.symm.trans (dsL_n hz (Or.inr (by rw [ixn (by omega)]; exact c16)))
                    have hdz : diZ (d2S (μ 1) (μ 4) (μ 5 0) j (nI q) w) j (nI q) w = (nI y) := by rw [h9]; exact hz.symm
                    refine g_iload X dX7_discover_161 163 rfl rfl ?_
                    refine g_if_ge X dX7_discover_163 172 166 rfl rfl (fun c17 => ?_) (fun c17 => absurd (nI_0le (by omega)) c17)
                    refine g_aload_n X dX7_discover_172 173 rfl rfl ?_
                    refine g_get X FL_X7_9 dX7_discover_173 176 rfl 0 rfl (v := .ref (b 1)) rfl ?_
                    refine g_sipush X dX7_discover_176 179 rfl (v := 231) rfl ?_
                    refine g_iload X dX7_discover_179 181 rfl rfl ?_
                    refine g_iaddN X dX7_discover_181 182 rfl 231 y rfl rfl ?_
                    refine g_iconst X dX7_discover_182 183 rfl (v := 1) rfl ?_
                    refine g_iastN (j := (231 + y)) (f := N) X dX7_discover_183 184 rfl 1 rfl (by omega) (by decide) (WW E b (put (put (put (put μ 0 (sc 0)) 4 f) 5 (sc n)) 1 (upd N (231 + y) 1)) a σ wr) rfl ?_
                    refine g_aload_n X dX7_discover_184 185 rfl rfl ?_
                    refine g_get X FL_X7_9 dX7_discover_185 188 rfl 0 rfl (v := .ref (b 1)) rfl ?_
                    refine g_sipush X dX7_discover_188 191 rfl (v := 331) rfl ?_
                    refine g_iload X dX7_discover_191 193 rfl rfl ?_
                    refine g_iaddN X dX7_discover_193 194 rfl 331 y rfl rfl ?_
                    refine g_iload_n X dX7_discover_194 195 rfl rfl ?_
                    refine g_iastN (j := (331 + y)) (f := (upd N (231 + y) 1)) X dX7_discover_195 196 rfl 1 rfl (by omega) (by decide) (WW E b (put (put (put (put μ 0 (sc 0)) 4 f) 5 (sc n)) 1 (upd (upd N (231 + y) 1) (331 + y) (nI j))) a σ wr) rfl ?_
                    refine g_aload_n X dX7_discover_196 197 rfl rfl ?_
                    refine g_get X FL_X7_9 dX7_discover_197 200 rfl 0 rfl (v := .ref (b 1)) rfl ?_
                    refine g_sipush X dX7_discover_200 203 rfl (v := 431) rfl ?_
                    refine g_iload X dX7_discover_203 205 rfl rfl ?_
                    refine g_iaddN X dX7_discover_205 206 rfl 431 y rfl rfl ?_
                    refine g_aload_n X dX7_discover_206 207 rfl rfl ?_
                    refine g_get X FL_X7_9 dX7_discover_207 210 rfl 0 rfl (v := .ref (b 1)) rfl ?_
                    refine g_iconst X dX7_discover_210 211 rfl (v := 0) rfl ?_
                    refine g_ialdN (j := 0) (f := (upd (upd N (231 + y) 1) (331 + y) (nI j))) X dX7_discover_211 212 rfl 1 rfl (by omega) (by decide) ?_
                    refine g_aload_n X dX7_discover_212 213 rfl rfl ?_
                    refine g_get X FL_X7_9 dX7_discover_213 216 rfl 0 rfl (v := .ref (b 1)) rfl ?_
                    refine g_iconst X dX7_discover_216 217 rfl (v := 1) rfl ?_
                    refine g_ialdN (j := 1) (f := (upd (upd N (231 + y) 1) (331 + y) (nI j))) X dX7_discover_217 218 rfl 1 rfl (by omega) (by decide) ?_
                    refine g_iadd X dX7_discover_218 219 rfl ?_
                    refine g_iastN (j := (431 + y)) (f := (upd (upd N (231 + y) 1) (331 + y) (nI j))) X dX7_discover_219 220 rfl 1 rfl (by omega) (by decide) (WW E b (put (put (put (put μ 0 (sc 0)) 4 f) 5 (sc n)) 1 (upd (upd (upd N (231 + y) 1) (331 + y) (nI j)) (431 + y) (((upd (upd N (231 + y) 1) (331 + y) (nI j)) 0) + ((upd (upd N (231 + y) 1) (331 + y) (nI j)) 1)))) a σ wr) rfl ?_
                    refine g_aload_n X dX7_discover_220 221 rfl rfl ?_
                    refine g_get X FL_X7_9 dX7_discover_221 224 rfl 0 rfl (v := .ref (b 1)) rfl ?_
                    refine g_sipush X dX7_discover_224 227 rfl (v := 631) rfl ?_
                    refine g_iload_n X dX7_discover_227 228 rfl rfl ?_
                    refine g_iaddN X dX7_discover_228 229 rfl 631 j rfl rfl ?_
                    refine g_iconst X dX7_discover_229 230 rfl (v := 1) rfl ?_
                    refine g_iastN (j := (631 + j)) (f := (upd (upd (upd N (231 + y) 1) (331 + y) (nI j)) (431 + y) (((upd (upd N (231 + y) 1) (331 + y) (nI j)) 0) + ((upd (upd N (231 + y) 1) (331 + y) (nI j)) 1)))) X dX7_discover_230 231 rfl 1 rfl (by omega) (by decide) (WW E b (put (put (put (put μ 0 (sc 0)) 4 f) 5 (sc n)) 1 (upd (upd (upd (upd N (231 + y) 1) (331 + y) (nI j)) (431 + y) (((upd (upd N (231 + y) 1) (331 + y) (nI j)) 0) + ((upd (upd N (231 + y) 1) (331 + y) (nI j)) 1))) (631 + j) 1)) a σ wr) rfl ?_
                    refine g_aload_n X dX7_discover_231 232 rfl rfl ?_
                    refine g_get X FL_X7_9 dX7_discover_232 235 rfl 0 rfl (v := .ref (b 1)) rfl ?_
                    refine g_sipush X dX7_discover_235 238 rfl (v := 651) rfl ?_
                    refine g_iload_n X dX7_discover_238 239 rfl rfl ?_
                    refine g_iaddN X dX7_discover_239 240 rfl 651 j rfl rfl ?_
                    refine g_iload X dX7_discover_240 242 rfl rfl ?_
                    refine g_iastN (j := (651 + j)) (f := (upd (upd (upd (upd N (231 + y) 1) (331 + y) (nI j)) (431 + y) (((upd (upd N (231 + y) 1) (331 + y) (nI j)) 0) + ((upd (upd N (231 + y) 1) (331 + y) (nI j)) 1))) (631 + j) 1)) X dX7_discover_242 243 rfl 1 rfl (by omega) (by decide) (WW E b (put (put (put (put μ 0 (sc 0)) 4 f) 5 (sc n)) 1 (upd (upd (upd (upd (upd N (231 + y) 1) (331 + y) (nI j)) (431 + y) (((upd (upd N (231 + y) 1) (331 + y) (nI j)) 0) + ((upd (upd N (231 + y) 1) (331 + y) (nI j)) 1))) (631 + j) 1) (651 + j) (nI y))) a σ wr) rfl ?_
                    refine g_aload_n X dX7_discover_243 244 rfl rfl ?_
                    refine g_iconst X dX7_discover_244 245 rfl (v := 1) rfl ?_
                    refine g_iload X dX7_discover_245 247 rfl rfl ?_
                    refine c_V X Lk_X7_83 (k_X7_logs E l wr b (put (put (put (put μ 0 (sc 0)) 4 f) 5 (sc n)) 1 (upd (upd (upd (upd (upd N (231 + y) 1) (331 + y) (nI j)) (431 + y) (((upd (upd N (231 + y) 1) (331 + y) (nI j)) 0) + ((upd (upd N (231 + y) 1) (331 + y) (nI j)) 1))) (631 + j) 1) (651 + j) (nI y))) a σ 1 (nI y) hl) dX7_discover_247 rfl 0 rfl rfl rfl (Nat.le_of_ble_eq_true rfl) ⟨(Nat.le_of_ble_eq_true rfl), (Nat.le_of_ble_eq_true rfl)⟩ ⟨(Nat.le_of_ble_eq_true rfl), (Nat.le_of_ble_eq_true rfl)⟩ 250 rfl [] rfl ?_
                    refine g_iload X dX7_discover_250 252 rfl rfl ?_
                    exact g_iret X hr dX7_discover_252 () (by have e1 : ix (nI j) = j := ixn (by omega); have hdz2 : diZ (d2S (μ 1) (μ 4) (μ 5 0) (ix (nI j)) (nI q) w) (ix (nI j)) (nI q) w = (nI y) := (by rw [e1]; exact hdz); have h99 : (d2S (μ 1) (μ 4) (μ 5 0) (ix (nI j)) (nI q) w) = (N, f, n) := (by rw [e1]; exact h9); have hT : diT (μ 1) (nI j) (nI q) (d2S (μ 1) (μ 4) (μ 5 0) (ix (nI j)) (nI q) w) w = 0 := (by rw [diT, hcc]; show (if _ then (2 : Int32) else if diZ (d2S (μ 1) (μ 4) (μ 5 0) (ix (nI j)) (nI q) w) (ix (nI j)) (nI q) w < 0 then 3 else 0) = 0; rw [if_neg (by intro h; rcases h with h | h; (rw [ixn (by omega)] at h; rw [h] at c3; exact absurd c3 (by decide)); (rw [ixn (by omega)] at h; exact c4 h)), hdz2, if_neg c14]); show (some (.int (diR (μ 1) (nI j) (nI q) (d2S (μ 1) (μ 4) (μ 5 0) (ix (nI j)) (nI q) w) w)) : Option Value) = some (.int (nI y)); rw [diR, hT, if_pos rfl, hdz2]) (by have e1 : ix (nI j) = j := ixn (by omega); have hdz2 : diZ (d2S (μ 1) (μ 4) (μ 5 0) (ix (nI j)) (nI q) w) (ix (nI j)) (nI q) w = (nI y) := (by rw [e1]; exact hdz); have h99 : (d2S (μ 1) (μ 4) (μ 5 0) (ix (nI j)) (nI q) w) = (N, f, n) := (by rw [e1]; exact h9); have hT : diT (μ 1) (nI j) (nI q) (d2S (μ 1) (μ 4) (μ 5 0) (ix (nI j)) (nI q) w) w = 0 := (by rw [diT, hcc]; show (if _ then (2 : Int32) else if diZ (d2S (μ 1) (μ 4) (μ 5 0) (ix (nI j)) (nI q) w) (ix (nI j)) (nI q) w < 0 then 3 else 0) = 0; rw [if_neg (by intro h; rcases h with h | h; (rw [ixn (by omega)] at h; rw [h] at c3; exact absurd c3 (by decide)); (rw [ixn (by omega)] at h; exact c4 h)), hdz2, if_neg c14]); refine WW_eq ?_ ?_ ?_ ?_ ?_ ?_; (simp only [put_s, sc, pn_01, pn_02, pn_03, pn_04, pn_05, pn_10, pn_12, pn_13, pn_14, pn_15, pn_20, pn_21, pn_23, pn_24, pn_25, pn_30, pn_31, pn_32, pn_34, pn_35, pn_40, pn_41, pn_42, pn_43, pn_45, pn_50, pn_51, pn_52, pn_53, pn_54]; exact hT.symm); (simp only [put_s, sc, pn_01, pn_02, pn_03, pn_04, pn_05, pn_10, pn_12, pn_13, pn_14, pn_15, pn_20, pn_21, pn_23, pn_24, pn_25, pn_30, pn_31, pn_32, pn_34, pn_35, pn_40, pn_41, pn_42, pn_43, pn_45, pn_50, pn_51, pn_52, pn_53, pn_54]; show d3N N j y = diN (μ 1) (nI j) (nI q) (d2S (μ 1) (μ 4) (μ 5 0) (ix (nI j)) (nI q) w) w; rw [diN, hT, if_pos rfl, hdz2, h99, e1, ixn (show y < 2 ^ 31 by omega)]); simp only [put_s, sc, pn_01, pn_02, pn_03, pn_04, pn_05, pn_10, pn_12, pn_13, pn_14, pn_15, pn_20, pn_21, pn_23, pn_24, pn_25, pn_30, pn_31, pn_32, pn_34, pn_35, pn_40, pn_41, pn_42, pn_43, pn_45, pn_50, pn_51, pn_52, pn_53, pn_54]; simp only [put_s, sc, pn_01, pn_02, pn_03, pn_04, pn_05, pn_10, pn_12, pn_13, pn_14, pn_15, pn_20, pn_21, pn_23, pn_24, pn_25, pn_30, pn_31, pn_32, pn_34, pn_35, pn_40, pn_41, pn_42, pn_43, pn_45, pn_50, pn_51, pn_52, pn_53, pn_54]; (simp only [put_s, sc, pn_01, pn_02, pn_03, pn_04, pn_05, pn_10, pn_12, pn_13, pn_14, pn_15, pn_20, pn_21, pn_23, pn_24, pn_25, pn_30, pn_31, pn_32, pn_34, pn_35, pn_40, pn_41, pn_42, pn_43, pn_45, pn_50, pn_51, pn_52, pn_53, pn_54]; show lgM f n 1 (nI y) = diF (μ 1) (nI j) (nI q) (d2S (μ 1) (μ 4) (μ 5 0) (ix (nI j)) (nI q) w) w (μ 4); rw [diF, hT, if_pos rfl, hdz2, h99]); (simp only [put_s, sc, pn_01, pn_02, pn_03, pn_04, pn_05, pn_10, pn_12, pn_13, pn_14, pn_15, pn_20, pn_21, pn_23, pn_24, pn_25, pn_30, pn_31, pn_32, pn_34, pn_35, pn_40, pn_41, pn_42, pn_43, pn_45, pn_50, pn_51, pn_52, pn_53, pn_54]; show lgN n = diM (μ 1) (nI j) (nI q) (d2S (μ 1) (μ 4) (μ 5 0) (ix (nI j)) (nI q) w) w (μ 5 0); rw [diM, hT, if_pos rfl, h99]))
                  · skip
                    refine g_aload_n X dX7_discover_125 126 rfl rfl ?_
                    refine g_iload X dX7_discover_126 128 rfl rfl ?_
                    refine c_V X Lk_X7_79 (k_X7_declines E l wr b (put (put (put (put μ 0 (sc 0)) 1 N) 4 f) 5 (sc n)) a σ y (by first | omega | assumption)) dX7_discover_128 rfl 0 rfl rfl rfl (Nat.le_of_ble_eq_true rfl) ⟨(Nat.le_of_ble_eq_true rfl), (Nat.le_of_ble_eq_true rfl)⟩ ⟨(Nat.le_of_ble_eq_true rfl), (Nat.le_of_ble_eq_true rfl)⟩ 131 rfl [] rfl ?_
                    refine g_aload_n X dX7_discover_131 132 rfl rfl ?_
                    refine g_get X FL_X7_9 dX7_discover_132 135 rfl 0 rfl (v := .ref (b 1)) rfl ?_
                    refine g_iconst X dX7_discover_135 136 rfl (v := 3) rfl ?_
                    refine g_dup2 X dX7_discover_136 137 rfl rfl rfl ?_
                    refine g_ialdN (j := 3) (f := (mDe N y)) X dX7_discover_137 138 rfl 1 rfl (by omega) (by decide) ?_
                    refine g_iconst X dX7_discover_138 139 rfl (v := 1) rfl ?_
                    refine g_iadd X dX7_discover_139 140 rfl ?_
                    refine g_iastN (j := 3) (f := (mDe N y)) X dX7_discover_140 141 rfl 1 rfl (by omega) (by decide) (WW E b (put (put (put (put μ 0 (sc 0)) 4 f) 5 (sc n)) 1 (upd (mDe N y) 3 (((mDe N y) 3) + 1))) a σ wr) rfl ?_
                    refine g_aload_n X dX7_discover_141 142 rfl rfl ?_
                    refine g_bipush X dX7_discover_142 144 rfl (v := 8) rfl ?_
                    refine g_iload X dX7_discover_144 146 rfl rfl ?_
                    refine c_V X Lk_X7_83 (k_X7_logs E l wr b (put (put (put (put μ 0 (sc 0)) 4 f) 5 (sc n)) 1 (upd (mDe N y) 3 (((mDe N y) 3) + 1))) a σ 8 (nI y) hl) dX7_discover_146 rfl 0 rfl rfl rfl (Nat.le_of_ble_eq_true rfl) ⟨(Nat.le_of_ble_eq_true rfl), (Nat.le_of_ble_eq_true rfl)⟩ ⟨(Nat.le_of_ble_eq_true rfl), (Nat.le_of_ble_eq_true rfl)⟩ 149 rfl [] rfl ?_
                    refine g_aload_n X dX7_discover_149 150 rfl rfl ?_
                    refine g_iload_n X dX7_discover_150 151 rfl rfl ?_
                    refine g_iload_n X dX7_discover_151 152 rfl rfl ?_
                    refine g_iload_n X dX7_discover_152 153 rfl rfl ?_
                    refine c_V X Lk_X7_75 (k_X7_candidate E l wr b (put (put (put (put μ 0 (sc 0)) 1 (upd (mDe N y) 3 (((mDe N y) 3) + 1))) 4 (mLog f (ix (lgN n)) 8 (nI y))) 5 (sc (lgN n))) a σ j (nI q) w v (MX.ok (MX.de hx (by omega)) (by omega)) (by first | omega | assumption)) dX7_discover_153 rfl 0 rfl rfl rfl (Nat.le_of_ble_eq_true rfl) ⟨(Nat.le_of_ble_eq_true rfl), (Nat.le_of_ble_eq_true rfl)⟩ ⟨(Nat.le_of_ble_eq_true rfl), (Nat.le_of_ble_eq_true rfl)⟩ 156 rfl [.int (caM (upd (mDe N y) 3 (((mDe N y) 3) + 1)) j (nI q) w)] rfl ?_
                    refine g_istore X dX7_discover_156 158 rfl (by decide) [(4, .int (caM (upd (mDe N y) 3 (((mDe N y) 3) + 1)) j (nI q) w)), (0, .ref (b 0)), (1, .int (nI j)), (2, .int (nI q)), (3, .int w)] rfl ?_
                    refine g_goto X dX7_discover_158 105 rfl ?_
                    refine g_lsub [1, 2, 3, 4, 0] [(0, .ref (b 0)), (1, .int (nI j)), (2, .int (nI q)), (3, .int w), (4, .int (caM (upd (mDe N y) 3 (((mDe N y) 3) + 1)) j (nI q) w))] rfl ?_
                    exact ih (dsN N y) (lgM f n 8 (nI y)) (lgN n) _ (MX.ds hx hy) (fz_ds hy (cdt_0 h8) hF) (LG.st hl) rfl ((dsL_s hy hz c14 c16).symm.trans hv)
            refine g_lsub [1, 2, 3, 4, 0] [(0, .ref (b 0)), (1, .int (nI j)), (2, .int (nI q)), (3, .int w), (4, .int (caM (d1N (μ 1) j) j (nI q) w))] rfl ?_
            rw [show WW E b (put (put μ 0 (sc 0)) 1 (d1N (μ 1) j)) a σ wr = WW E b (put (put (put (put μ 0 (sc 0)) 1 (d1N (μ 1) j)) 4 (μ 4)) 5 (sc (μ 5 0))) a σ wr from by refine WW_eq ?_ ?_ ?_ ?_ ?_ ?_ <;> simp only [put_s, sc, pn_01, pn_02, pn_03, pn_04, pn_05, pn_10, pn_12, pn_13, pn_14, pn_15, pn_20, pn_21, pn_23, pn_24, pn_25, pn_30, pn_31, pn_32, pn_34, pn_35, pn_40, pn_41, pn_42, pn_43, pn_45, pn_50, pn_51, pn_52, pn_53, pn_54]]
            exact Ld 100 (d1N (μ 1) j) (μ 4) (μ 5 0) _ hx (fzL_le 100 0) hL rfl rfl
        · skip
          refine g_aload_n X dX7_discover_45 46 rfl rfl ?_
          refine g_iconst X dX7_discover_46 47 rfl (v := 2) rfl ?_
          refine c_V X Lk_X7_41 (k_X7_raises E l wr b (put μ 0 (sc 0)) a σ 2) dX7_discover_47 rfl 0 rfl rfl rfl (Nat.le_of_ble_eq_true rfl) ⟨(Nat.le_of_ble_eq_true rfl), (Nat.le_of_ble_eq_true rfl)⟩ ⟨(Nat.le_of_ble_eq_true rfl), (Nat.le_of_ble_eq_true rfl)⟩ 50 rfl [.int 0] rfl ?_
          exact g_iret X hr dX7_discover_50 () (by have hT : diT (μ 1) (nI j) (nI q) (d2S (μ 1) (μ 4) (μ 5 0) (ix (nI j)) (nI q) w) w = 2 := (by rw [diT, hcc]; exact if_pos (Or.inr (by rw [ixn (by omega)]; exact c4))); show (some (.int (diR (μ 1) (nI j) (nI q) (d2S (μ 1) (μ 4) (μ 5 0) (ix (nI j)) (nI q) w) w)) : Option Value) = some (.int 0); rw [diR, hT, if_neg (by decide)]) (by have hT : diT (μ 1) (nI j) (nI q) (d2S (μ 1) (μ 4) (μ 5 0) (ix (nI j)) (nI q) w) w = 2 := (by rw [diT, hcc]; exact if_pos (Or.inr (by rw [ixn (by omega)]; exact c4))); refine WW_eq ?_ ?_ ?_ ?_ ?_ ?_; (simp only [put_s, sc, pn_01, pn_02, pn_03, pn_04, pn_05, pn_10, pn_12, pn_13, pn_14, pn_15, pn_20, pn_21, pn_23, pn_24, pn_25, pn_30, pn_31, pn_32, pn_34, pn_35, pn_40, pn_41, pn_42, pn_43, pn_45, pn_50, pn_51, pn_52, pn_53, pn_54]; exact hT.symm); (simp only [put_s, sc, pn_01, pn_02, pn_03, pn_04, pn_05, pn_10, pn_12, pn_13, pn_14, pn_15, pn_20, pn_21, pn_23, pn_24, pn_25, pn_30, pn_31, pn_32, pn_34, pn_35, pn_40, pn_41, pn_42, pn_43, pn_45, pn_50, pn_51, pn_52, pn_53, pn_54]; show (μ 1) = diN (μ 1) (nI j) (nI q) (d2S (μ 1) (μ 4) (μ 5 0) (ix (nI j)) (nI q) w) w; rw [diN, hT, if_neg (by decide), if_neg (by decide)]); simp only [put_s, sc, pn_01, pn_02, pn_03, pn_04, pn_05, pn_10, pn_12, pn_13, pn_14, pn_15, pn_20, pn_21, pn_23, pn_24, pn_25, pn_30, pn_31, pn_32, pn_34, pn_35, pn_40, pn_41, pn_42, pn_43, pn_45, pn_50, pn_51, pn_52, pn_53, pn_54]; simp only [put_s, sc, pn_01, pn_02, pn_03, pn_04, pn_05, pn_10, pn_12, pn_13, pn_14, pn_15, pn_20, pn_21, pn_23, pn_24, pn_25, pn_30, pn_31, pn_32, pn_34, pn_35, pn_40, pn_41, pn_42, pn_43, pn_45, pn_50, pn_51, pn_52, pn_53, pn_54]; (simp only [put_s, sc, pn_01, pn_02, pn_03, pn_04, pn_05, pn_10, pn_12, pn_13, pn_14, pn_15, pn_20, pn_21, pn_23, pn_24, pn_25, pn_30, pn_31, pn_32, pn_34, pn_35, pn_40, pn_41, pn_42, pn_43, pn_45, pn_50, pn_51, pn_52, pn_53, pn_54]; show (μ 4) = diF (μ 1) (nI j) (nI q) (d2S (μ 1) (μ 4) (μ 5 0) (ix (nI j)) (nI q) w) w (μ 4); rw [diF, hT, if_neg (by decide), if_neg (by decide)]); (simp only [put_s, sc, pn_01, pn_02, pn_03, pn_04, pn_05, pn_10, pn_12, pn_13, pn_14, pn_15, pn_20, pn_21, pn_23, pn_24, pn_25, pn_30, pn_31, pn_32, pn_34, pn_35, pn_40, pn_41, pn_42, pn_43, pn_45, pn_50, pn_51, pn_52, pn_53, pn_54]; show (μ 5 0) = diM (μ 1) (nI j) (nI q) (d2S (μ 1) (μ 4) (μ 5 0) (ix (nI j)) (nI q) w) w (μ 5 0); rw [diM, hT, if_neg (by decide), if_neg (by decide)]))
    · skip
      refine g_aload_n X dX7_discover_19 20 rfl rfl ?_
      refine g_iconst X dX7_discover_20 21 rfl (v := 1) rfl ?_
      refine c_V X Lk_X7_41 (k_X7_raises E l wr b (put μ 0 (sc 0)) a σ 1) dX7_discover_21 rfl 0 rfl rfl rfl (Nat.le_of_ble_eq_true rfl) ⟨(Nat.le_of_ble_eq_true rfl), (Nat.le_of_ble_eq_true rfl)⟩ ⟨(Nat.le_of_ble_eq_true rfl), (Nat.le_of_ble_eq_true rfl)⟩ 24 rfl [.int 0] rfl ?_
      exact g_iret X hr dX7_discover_24 () (by have hT : diT (μ 1) x g (d2S (μ 1) (μ 4) (μ 5 0) (ix x) g w) w = 1 := (by simp [diT, c1, c2]); show (some (.int (diR (μ 1) x g (d2S (μ 1) (μ 4) (μ 5 0) (ix x) g w) w)) : Option Value) = some (.int 0); rw [diR, hT, if_neg (by decide)]) (by have hT : diT (μ 1) x g (d2S (μ 1) (μ 4) (μ 5 0) (ix x) g w) w = 1 := (by simp [diT, c1, c2]); refine WW_eq ?_ ?_ ?_ ?_ ?_ ?_; (simp only [put_s, sc, pn_01, pn_02, pn_03, pn_04, pn_05, pn_10, pn_12, pn_13, pn_14, pn_15, pn_20, pn_21, pn_23, pn_24, pn_25, pn_30, pn_31, pn_32, pn_34, pn_35, pn_40, pn_41, pn_42, pn_43, pn_45, pn_50, pn_51, pn_52, pn_53, pn_54]; exact hT.symm); (simp only [put_s, sc, pn_01, pn_02, pn_03, pn_04, pn_05, pn_10, pn_12, pn_13, pn_14, pn_15, pn_20, pn_21, pn_23, pn_24, pn_25, pn_30, pn_31, pn_32, pn_34, pn_35, pn_40, pn_41, pn_42, pn_43, pn_45, pn_50, pn_51, pn_52, pn_53, pn_54]; show (μ 1) = diN (μ 1) x g (d2S (μ 1) (μ 4) (μ 5 0) (ix x) g w) w; rw [diN, hT, if_neg (by decide), if_neg (by decide)]); simp only [put_s, sc, pn_01, pn_02, pn_03, pn_04, pn_05, pn_10, pn_12, pn_13, pn_14, pn_15, pn_20, pn_21, pn_23, pn_24, pn_25, pn_30, pn_31, pn_32, pn_34, pn_35, pn_40, pn_41, pn_42, pn_43, pn_45, pn_50, pn_51, pn_52, pn_53, pn_54]; simp only [put_s, sc, pn_01, pn_02, pn_03, pn_04, pn_05, pn_10, pn_12, pn_13, pn_14, pn_15, pn_20, pn_21, pn_23, pn_24, pn_25, pn_30, pn_31, pn_32, pn_34, pn_35, pn_40, pn_41, pn_42, pn_43, pn_45, pn_50, pn_51, pn_52, pn_53, pn_54]; (simp only [put_s, sc, pn_01, pn_02, pn_03, pn_04, pn_05, pn_10, pn_12, pn_13, pn_14, pn_15, pn_20, pn_21, pn_23, pn_24, pn_25, pn_30, pn_31, pn_32, pn_34, pn_35, pn_40, pn_41, pn_42, pn_43, pn_45, pn_50, pn_51, pn_52, pn_53, pn_54]; show (μ 4) = diF (μ 1) x g (d2S (μ 1) (μ 4) (μ 5 0) (ix x) g w) w (μ 4); rw [diF, hT, if_neg (by decide), if_neg (by decide)]); (simp only [put_s, sc, pn_01, pn_02, pn_03, pn_04, pn_05, pn_10, pn_12, pn_13, pn_14, pn_15, pn_20, pn_21, pn_23, pn_24, pn_25, pn_30, pn_31, pn_32, pn_34, pn_35, pn_40, pn_41, pn_42, pn_43, pn_45, pn_50, pn_51, pn_52, pn_53, pn_54]; show (μ 5 0) = diM (μ 1) x g (d2S (μ 1) (μ 4) (μ 5 0) (ix x) g w) w (μ 5 0); rw [diM, hT, if_neg (by decide), if_neg (by decide)]))
