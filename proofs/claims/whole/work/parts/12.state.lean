/-- a method of a JDK class that entries stand in, but none for this one -/
theorem Met_ofWF {l : Launch} {y : MethodName} {ws ws' : List Cond} {rm : Room} {Pc : Array Value → State → Prop} {Qc : Array Value → State → Outcome → State → Prop} {mc ms : Nat} {free : Addr → Prop} {cc : ByteArray} {maxL : Nat} {ret : Option FieldType}
    (hy : plainFor y = true) (hw : ws = Cond.code y cc maxL ret :: ws')
    (body : ∀ p e s m args below meth c s₁, BodyLoose p l y (headSpec ws rm) cc maxL ret e s m args below meth c s₁ → c.maxLocals = maxL → Pc args s →
      W p l e (headSpec ws rm).room s m args below meth c s.heap [] 0 0 (MQ below Qc args s mc ms free) (entryFrame m args maxL)) : Met l y ws rm Pc Qc mc ms free := by
  refine MetFree.of_bodySF (code := cc) (maxLocals := maxL) (ret := ret) hy ?_ ?_
  · intro args s m h hn
    obtain ⟨meth, c, h1, h2, h3, h4, h5, h6, -, -⟩ := Cond.code_spec hn (atoms_spec (ws := ws) h _ (by rw [hw]; exact List.mem_cons_self))
    exact ⟨meth, c, h1, h2, h3, h4, h5, h6⟩
  · intro p e s m args below meth c s₁ B hml hP _
    have hh0 : s₁.heap = s.heap := by rw [B.state]; rfl
    obtain ⟨t, a1, o, b1, b2, b3⟩ := body p e s m args below meth c s₁ B hml hP s₁ hh0 (Stand.of_body B)
    exact ⟨t, o, a1, b1, b2, ⟨b3.1, b3.2⟩⟩
theorem K_startF {E : kE} {l : Launch} {own : String} {y : MethodName} {bytes : ByteArray} {maxL fr lo mc ms : Nat} {ret : Option FieldType} {As : List Value} {S : Type} {o : S → Option Value} {w1 : S → va_W} {w0 : va_W} (hy : plainFor y = true) (hown : y.cls = own) (lv0 : List (Nat × Value)) (hlv : lv_args 0 As = lv0) (hmx : (lg_sl As).length ≤ maxL)
    (body : ∀ (p : Program) (e : Env) (s : State) (m : MethodId) (below : List Frame) (meth : Method) (c : Code), CX E (va_A w0 s.heap.size) own bytes maxL p s m meth c → meth.sig.returnType = ret → meth.name = y.name → G E (va_A w0 s.heap.size) maxL p l e ({ frames := fr, cells := mc, slots := ms, locals := lo }) s m As.toArray below meth c (MQ below (KQ E w0 s.heap.size o w1) As.toArray s mc ms (va_A w0 s.heap.size)) 0 0 w0 0 lv0 []) :
    KN E l y bytes maxL ret fr lo mc ms As w0 o w1 := by
  intro sz
  refine Met_ofWF (cc := bytes) (maxL := maxL) (ret := ret) hy rfl ?_
  intro p e s m args below meth c s₁ B hml hv
  obtain ⟨rfl, hsz, hP, hK, hD0⟩ := hv
  subst hsz
  have X : CX E (va_A w0 s.heap.size) own bytes maxL p s m meth c := ⟨B.exec, B.bytes, hml, hown ▸ findClass_of_methodNamed B.named, hK, B.notSynchronized, fun q h => Or.inr h⟩
  have hl := lv_entry As (n := maxL) hmx
  rw [lg_entry_eq]
  rw [hlv] at hl
  exact body p e s m below meth c X B.returns (name_of_methodNamed B.named B.method).1 s.heap [] _ hP hD0.self va_S.rf hl
theorem isP_n {σ : Sto} {u v : Nat} (hu : u < v) (hv : v ≤ 5) (hc : σ 0 0 = nI v) : isP σ (nI u) = true := by
  have h1 : ¬ nI u < 0 := nI_pos (by omega)
  have h2 : ¬ nI v ≤ nI u := nI_ge hu (by omega)
  have h3 : ¬ (5 : Int32) ≤ nI u := nI_ge (b := 5) (by omega) (by decide)
  simp [isP, hc, h1, h2, h3]
theorem ix_lt (x : Int32) : ix x < 2 ^ 31 := by
  have h := Int32.toInt_lt x
  show x.toInt.toNat < 2 ^ 31
  omega
theorem mx0 (x : Int32) : (if x < 0 then 0 else x) = nI (ix x) := by
  by_cases h : x < 0
  · rw [if_pos h]
    have h1 : x.toInt < 0 := by simpa using Int32.lt_iff_toInt_lt.mp h
    have h2 : ix x = 0 := by show x.toInt.toNat = 0; omega
    rw [h2]; rfl
  · rw [if_neg h]
    obtain ⟨j, hj, rfl⟩ := nI_of h
    rw [show ix (nI j) = j from nI_clamp hj]
theorem inC_n {i : Nat} (h : i < 20) : inC (nI i) = true := by
  have h1 : ¬ nI i < 0 := nI_pos (by omega)
  have h2 : ¬ (20 : Int32) ≤ nI i := nI_ge (b := 20) h (by decide)
  simp [inC, h1, h2]
theorem inA_n {i : Nat} (h : i < 100) : inA (nI i) = true := by
  have h1 : ¬ nI i < 0 := nI_pos (by omega)
  have h2 : ¬ (100 : Int32) ≤ nI i := nI_ge (b := 100) h (by decide)
  simp [inA, h1, h2]
theorem tsw_5 (x : Int32) : x = 0 ∨ x = 1 ∨ x = 2 ∨ x = 3 ∨ x = 4 ∨ (x.toInt < 0 ∨ 4 < x.toInt) := by
  by_cases h : x = 4
  · exact Or.inr (Or.inr (Or.inr (Or.inr (Or.inl h))))
  · rcases tsw_4 x with e | e | e | e | e
    · exact Or.inl e
    · exact Or.inr (Or.inl e)
    · exact Or.inr (Or.inr (Or.inl e))
    · exact Or.inr (Or.inr (Or.inr (Or.inl e)))
    · refine Or.inr (Or.inr (Or.inr (Or.inr (Or.inr ?_))))
      have h1 : x.toInt ≠ 4 := fun q => h (Int32.toInt_inj.mp q)
      omega
theorem tsw_1_4 (x : Int32) : x = 1 ∨ x = 2 ∨ x = 3 ∨ x = 4 ∨ (x.toInt < 1 ∨ 4 < x.toInt) := by
  rcases tsw_5 x with e | e | e | e | e | e
  · exact Or.inr (Or.inr (Or.inr (Or.inr (Or.inl (by rw [e]; decide)))))
  · exact Or.inl e
  · exact Or.inr (Or.inl e)
  · exact Or.inr (Or.inr (Or.inl e))
  · exact Or.inr (Or.inr (Or.inr (Or.inl e)))
  · exact Or.inr (Or.inr (Or.inr (Or.inr (by omega))))
theorem tsw_no {x : Int32} {j : Int32} {lo hi : Int} (h : x.toInt < lo ∨ hi < x.toInt) (h1 : lo ≤ j.toInt) (h2 : j.toInt ≤ hi) : ¬ x = j := fun q => by
  rw [q] at h
  omega
def freshL (y : Int32) : Sto → Nat → Nat → Sto
  | σ, _, 0 => σ
  | σ, i, r + 1 => if y < nI i then σ else freshL y (frees σ (nI i) (-1)) (i + 1) r
def fresh (σ : Sto) (x y : Int32) : Sto := freshL y σ (ix x) (100 - ix x)
def cntL (σ : Sto) (y w : Int32) : Nat → Nat → Int32 → Int32
  | _, 0, z => z
  | i, r + 1, z => if y < nI i then z else if σ 7 i = w then cntL σ y w (i + 1) r (z + 1) else cntL σ y w (i + 1) r z
def cntIn (σ : Sto) (x y w : Int32) : Int32 := cntL σ y w (ix x) (100 - ix x) 0
def offL (σ : Sto) (y : Int32) : Nat → Nat → Int32 → Int32
  | _, 0, z => z
  | i, r + 1, z => if y < nI i then z else if isOff σ (nI i) = true then offL σ y (i + 1) r (z + 1) else offL σ y (i + 1) r z
def offIn (σ : Sto) (x y : Int32) : Int32 := offL σ y (ix x) (100 - ix x) 0
def eqL (σ : Sto) : Nat → Nat → Int32 → Int32
  | _, 0, z => z
  | i, r + 1, z => if σ 7 i = 3 then eqL σ (i + 1) r (if eventK (σ 9 i) 1 (nI i) < z then eventK (σ 9 i) 1 (nI i) else z) else eqL σ (i + 1) r z
def eqE (σ : Sto) : Int32 := eqL σ 0 100 2147483647
def bdL (σ : Sto) : Nat → Nat → Int32 → Int32
  | _, 0, z => z
  | i, r + 1, z => if isBd σ (nI i) = true then bdL σ (i + 1) r (z + 1) else bdL σ (i + 1) r z
def bdC (σ : Sto) : Int32 := bdL σ 0 20 0
def logW (σ : Sto) (k x : Int32) : Sto :=
  put (put (bif !decide (σ 46 0 < 0) && !decide (30 ≤ σ 46 0) then put σ 44 (upd (σ 44) (ix (σ 46 0)) (k * 1000 + x)) else σ) 46 (sc ((σ 46 0 + 1) - (σ 46 0 + 1) / 30 * 30))) 45 (sc (if 30 < σ 45 0 + 1 then 30 else σ 45 0 + 1))
theorem logW_t {σ : Sto} {k x : Int32} (h0 : ¬ σ 46 0 < 0) (h1 : ¬ 30 ≤ σ 46 0) : logW σ k x = put (put (put σ 44 (upd (σ 44) (ix (σ 46 0)) (k * 1000 + x))) 46 (sc ((σ 46 0 + 1) - (σ 46 0 + 1) / 30 * 30))) 45 (sc (if 30 < σ 45 0 + 1 then 30 else σ 45 0 + 1)) := by
  unfold logW
  rw [show (!decide (σ 46 0 < 0) && !decide (30 ≤ σ 46 0)) = true by simp [h0, h1]]
  rfl
theorem logW_f {σ : Sto} {k x : Int32} (h : σ 46 0 < 0 ∨ 30 ≤ σ 46 0) : logW σ k x = put (put σ 46 (sc ((σ 46 0 + 1) - (σ 46 0 + 1) / 30 * 30))) 45 (sc (if 30 < σ 45 0 + 1 then 30 else σ 45 0 + 1)) := by
  unfold logW
  rw [show (!decide (σ 46 0 < 0) && !decide (30 ≤ σ 46 0)) = false by rcases h with h | h <;> simp [h]]
  rfl
def fmd (x y : Int32) : Int32 := if 0 ≤ x ^^^ y then x - x / y * y else if x - x / y * y = 0 then x - x / y * y else x - x / y * y + y
def caL (σ : Sto) (g : Int32) : Nat → Nat → Int32 → Int32
  | _, 0, z => z
  | i, r + 1, z => if σ 0 0 ≤ nI i then z else if σ 1 i = g then caL σ g (i + 1) r (z + (σ 3 i - σ 2 i + 1)) else caL σ g (i + 1) r z
def appd (σ : Sto) (g f t d : Int32) : Sto := put (put (put (put (put σ 1 (upd (σ 1) (ix (σ 0 0)) g)) 2 (upd (σ 2) (ix (σ 0 0)) f)) 3 (upd (σ 3) (ix (σ 0 0)) t)) 4 (upd (σ 4) (ix (σ 0 0)) d)) 0 (sc (σ 0 0 + 1))
def shf (f : Nat → Int32) (u v : Nat) : Nat → Int32 := fun j => if u ≤ j ∧ j < v then f (j + 1) else f j
theorem shf_0 (f : Nat → Int32) (u : Nat) : shf f u u = f := by
  funext j
  exact if_neg (by omega)
theorem shf_s (f : Nat → Int32) {u i : Nat} (h : u ≤ i) : upd (shf f u i) i (shf f u i (i + 1)) = shf f u (i + 1) := by
  funext j
  by_cases e : j = i
  · subst e
    rw [pk_us]
    show (if u ≤ j + 1 ∧ j + 1 < j then f (j + 1 + 1) else f (j + 1)) = (if u ≤ j ∧ j < j + 1 then f (j + 1) else f j)
    rw [if_neg (by omega), if_pos (by omega)]
  · rw [pk_un e]
    show (if u ≤ j ∧ j < i then f (j + 1) else f j) = (if u ≤ j ∧ j < i + 1 then f (j + 1) else f j)
    by_cases h2 : u ≤ j ∧ j < i
    · rw [if_pos h2, if_pos (by omega)]
    · rw [if_neg h2, if_neg (by omega)]
def drp (σ : Sto) (u v : Nat) : Sto := put (put (put (put σ 1 (shf (σ 1) u v)) 2 (shf (σ 2) u v)) 3 (shf (σ 3) u v)) 4 (shf (σ 4) u v)
theorem drp_0 (σ : Sto) (u : Nat) : drp σ u u = σ := by
  funext j
  simp only [drp, shf_0, put]
  split <;> first | (rename_i h; subst h; rfl) | skip
  split <;> first | (rename_i h; subst h; rfl) | skip
  split <;> first | (rename_i h; subst h; rfl) | skip
  split <;> first | (rename_i h; subst h; rfl) | rfl
theorem drp_s (σ : Sto) {u i : Nat} (h : u ≤ i) : put (put (put (put (drp σ u i) 1 (upd (drp σ u i 1) i (drp σ u i 1 (i + 1)))) 2 (upd (drp σ u i 2) i (drp σ u i 2 (i + 1)))) 3 (upd (drp σ u i 3) i (drp σ u i 3 (i + 1)))) 4 (upd (drp σ u i 4) i (drp σ u i 4 (i + 1))) = drp σ u (i + 1) := by
  rw [show drp σ u i 1 = shf (σ 1) u i from rfl, show drp σ u i 2 = shf (σ 2) u i from rfl, show drp σ u i 3 = shf (σ 3) u i from rfl, show drp σ u i 4 = shf (σ 4) u i from rfl, shf_s _ h, shf_s _ h, shf_s _ h, shf_s _ h]
  funext j
  simp only [drp, put]
  split <;> first | rfl | skip
  split <;> first | rfl | skip
  split <;> first | rfl | skip
  split <;> rfl
theorem drop_e {σ : Sto} {u v i : Nat} (hc : σ 0 0 = nI v) (h : 1 ≤ v) : drp σ u i 0 0 - 1 = nI (v - 1) := by
  show σ 0 0 - 1 = _
  rw [hc, show v = (v - 1) + 1 by omega, nI_pred]
  simp
theorem drop_w {σ : Sto} {u v i : Nat} (hc : σ 0 0 = nI v) (h : 1 ≤ v) : put (drp σ u i) 0 (sc (drp σ u i 0 0 - 1)) = put (drp σ u i) 0 (sc (nI (v - 1))) := by rw [drop_e hc h]
def gOC (σ : Sto) (c : Int32) : Int32 := bif inC c then grpAt σ (σ 12 (ix c)) else -1
def dUp (σ : Sto) (c : Int32) : Bool := inG (gOC σ c) && !decide (σ 20 (ix (gOC σ c)) = 0)
def rUp (σ : Sto) (c : Int32) : Bool := inG (gOC σ c) && !decide (σ 21 (ix (gOC σ c)) = 0)
def aOf (σ : Sto) (c : Int32) : Int32 := bif inC c then σ 12 (ix c) else -1
def lEnd (σ : Sto) (c : Int32) : Int32 := bif inA (aOf σ c) then σ 9 (ix (aOf σ c)) else -1
def gcL (σ : Sto) (g v : Int32) : Nat → Nat → Int32 → Int32
  | _, 0, z => z
  | i, r + 1, z => if σ 0 0 ≤ nI i then z else if σ 1 i = g then gcL σ g v (i + 1) r (z + cntIn σ (σ 2 i) (σ 3 i) v) else gcL σ g v (i + 1) r z
def srL (σ : Sto) : Nat → Nat → Int32 → Int32
  | _, 0, z => z
  | i, r + 1, z => if isBd σ (nI i) = true then srL σ (i + 1) r (z + (lEnd σ (nI i) - σ 16 0)) else srL σ (i + 1) r z
def isCd (σ : Sto) (x g : Int32) : Bool := isOff σ x && decide (grpAt σ x = g)
def lfL (σ : Sto) (y : Int32) : Nat → Nat → Int32 → Int32
  | _, 0, z => z
  | i, r + 1, z => if y < nI i then z else if isOff σ (nI i) = true then (if z = -1 then lfL σ y (i + 1) r (nI i) else if isFL σ (nI i) z = true then lfL σ y (i + 1) r (nI i) else lfL σ y (i + 1) r z) else lfL σ y (i + 1) r z
def lfIn (σ : Sto) (x y z : Int32) : Int32 := lfL σ y (ix x) (100 - ix x) z
def lgL (σ : Sto) (g : Int32) : Nat → Nat → Int32 → Int32
  | _, 0, z => z
  | i, r + 1, z => if σ 0 0 ≤ nI i then z else if σ 1 i = g then lgL σ g (i + 1) r (lfIn σ (σ 2 i) (σ 3 i) z) else lgL σ g (i + 1) r z
def lstOf (σ : Sto) (c : Int32) : Int32 := bif inC c then σ 13 (ix c) else -1
def fCd (σ : Sto) (c g x : Int32) : Int32 := bif isCd σ (lstOf σ c) g then lstOf σ c else bif isCd σ x g then x else lgL σ g 0 5 (-1)
def eHd (σ : Sto) (c : Int32) : Sto := bif inC c then idles (frees σ (σ 12 (ix c)) (σ 16 0)) c else σ
def hFo (σ : Sto) (c x : Int32) : Sto := logW (offs (helds σ x 1 c (σ 16 0 + σ 17 0)) c x) 1 x
def fCf (σ : Sto) (x : Int32) : Sto := logW (put (helds σ x 3 (-1) (σ 16 0 + σ 18 0)) 19 (sc (helds σ x 3 (-1) (σ 16 0 + σ 18 0) 19 0 + 1))) 8 x
def mkL (c g x : Int32) : Nat → Sto → Int32 × Sto
  | 0, τ => (-1, τ)
  | r + 1, τ => bif inA (fCd τ c g x) then (if τ 6 (ix (fCd τ c g x)) = 0 then (fCd τ c g x, hFo τ c (fCd τ c g x)) else mkL c g x r (fCf τ (fCd τ c g x))) else (-1, τ)
def MO (σ : Sto) (c g x : Int32) : Int32 × Sto := mkL c g x 100 (eHd σ c)
def sTm (σ : Sto) (c : Int32) : Sto := leases (helds σ (σ 12 (ix c)) 2 c (σ 16 0 + leaAt σ (σ 12 (ix c)))) c (helds σ (σ 12 (ix c)) 2 c (σ 16 0 + leaAt σ (σ 12 (ix c))) 16 0) (leaAt σ (σ 12 (ix c)))
def bLs (σ : Sto) (c : Int32) : Sto := bif inC c then logW (sTm σ c) 2 (sTm σ c 12 (ix c)) else σ
def dLs (σ : Sto) (c : Int32) : Sto := bif inC c then logW (put (idles (helds σ (σ 12 (ix c)) 3 (-1) (σ 16 0 + σ 18 0)) c) 13 (upd (idles (helds σ (σ 12 (ix c)) 3 (-1) (σ 16 0 + σ 18 0)) c 13) (ix c) (-1))) 7 (σ 12 (ix c)) else σ
def rBl (σ : Sto) (c : Int32) : Bool := inA (aOf σ c) && decide (σ 5 (ix (aOf σ c)) = 0)
def rSt (σ : Sto) (c : Int32) : Sto := bif inA (aOf σ c) then (if σ 5 (ix (aOf σ c)) = 0 then logW (sTm σ c) 3 (aOf σ c) else logW (eHd σ c) 4 (aOf σ c)) else σ
def evC (σ : Sto) (c : Int32) : Int32 := bif inA (σ 12 (ix c)) then (if σ 11 (ix c) = 1 then eventK (σ 9 (ix (σ 12 (ix c)))) 0 (σ 12 (ix c)) else if σ 11 (ix c) = 2 then eventK (σ 14 (ix c)) 2 (σ 12 (ix c)) else if σ 11 (ix c) = 3 then eventK (σ 15 (ix c)) 3 (σ 12 (ix c)) else if σ 11 (ix c) = 4 then eventK (σ 9 (ix (σ 12 (ix c)))) 4 (σ 12 (ix c)) else 2147483647) else 2147483647
def eeL (σ : Sto) : Nat → Nat → Int32 → Int32
  | _, 0, z => z
  | i, r + 1, z => if σ 11 i = 0 then eeL σ (i + 1) r z else eeL σ (i + 1) r (if evC σ (nI i) < z then evC σ (nI i) else z)
def eeC (σ : Sto) : Int32 := eeL σ 0 20 2147483647
def rOT (σ : Sto) (c : Int32) (u : Bool) (v : Int32) : Sto := bif u then rSt σ c else bif inC c then put σ 11 (upd (σ 11) (ix c) v) else σ
def cFH (σ : Sto) (k c x : Int32) : Sto := if k = 0 then logW (eHd σ c) 9 x else if k = 2 then rOT σ c (dUp σ c) 3 else if k = 3 then rOT σ c (rUp σ c) 4 else if k = 4 then logW (eHd σ c) 5 x else σ
def kdE (x : Int32) : Int32 := x / 100 - x / 100 / 5 * 5
def hoE (σ : Sto) (x : Int32) : Int32 := bif inA x then σ 8 (ix x) else (-1)
def cOE (σ : Sto) (x : Int32) : Sto := if kdE x = 1 then frees (put σ 16 (sc (x / 100 / 5))) (x - x / 100 * 100) (x / 100 / 5) else cFH (put σ 16 (sc (x / 100 / 5))) (kdE x) (hoE σ (x - x / 100 * 100)) (x - x / 100 * 100)
def nxE (τ : Sto) (z : Int32) : Int32 := if eeC τ < z then eeC τ else z
def passL (y : Int32) : Nat → Sto → Nat → Int32 → Int32 × Sto
  | 0, τ, k, _ => (nI k, τ)
  | f + 1, τ, k, z => if nxE τ z = 2147483647 then (nI k, τ) else if nxE τ z / 100 / 5 ≤ y then (if kdE (nxE τ z) = 1 then passL y f (cOE τ (nxE τ z)) (k + 1) (eqE (cOE τ (nxE τ z))) else passL y f (cOE τ (nxE τ z)) (k + 1) z) else (nI k, τ)
def PT (σ : Sto) (y : Int32) : Int32 × Sto := passL y 1000000 σ 0 (eqE σ)
set_option maxHeartbeats 4000000 in
set_option maxRecDepth 100000 in
theorem k_X0_makeFresh (E : kE) (l : Launch) (wr : va_W) (b : Nat → Nat) (μ : Sto) (a : Nat → Nat) (σ : Sto) (x : Int32) (y : Int32) : KM E l yX0_makeFresh cX0_makeFresh 4 none 2 42 0 0 [.ref (a 9), .int x, .int y] (WW E b μ a σ wr) none (WW E b μ a (fresh σ x y) wr) := by
  refine K_start (own := RX0) (by decide +kernel) rfl [(0, .ref (a 9)), (1, .int x), (2, .int y)] rfl (Nat.le_of_ble_eq_true rfl) (fun p e s m below meth c X hr hin => ?_)
  refine g_iload_n X dX0_makeFresh_0 1 rfl rfl ?_
  refine g_iconst X dX0_makeFresh_1 2 rfl (v := 0) rfl ?_
  refine g_max X Ma_X0_37 dX0_makeFresh_2 5 rfl (Nat.le_of_ble_eq_true rfl) (Nat.le_of_ble_eq_true rfl) ⟨(Nat.le_of_ble_eq_true rfl), (Nat.le_of_ble_eq_true rfl)⟩ ?_
  rw [mx0]
  refine g_istore_n X dX0_makeFresh_5 6 rfl (by decide) [(3, .int (nI (ix x))), (0, .ref (a 9)), (1, .int x), (2, .int y)] rfl ?_
  have Lp : ∀ (r i : Nat) (τ : Sto), (r = 100 - i) → (i < 2 ^ 31) → (freshL y τ i r = fresh σ x y) →  G E (va_A (WW E b μ a σ wr) s.heap.size) 4 p l e ({ frames := 2, cells := 0, slots := 0, locals := 42 } : Room) s m (([.ref (a 9), .int x, .int y] : List Value).toArray) below meth c (MQ below (KQ E (WW E b μ a σ wr) s.heap.size (fun _ : Unit => none) (fun _ => WW E b μ a (fresh σ x y) wr)) (([.ref (a 9), .int x, .int y] : List Value).toArray) s 0 0 (va_A (WW E b μ a σ wr) s.heap.size)) 0 0 (WW E b μ a τ wr) 6 [(3, .int (nI i)), (0, .ref (a 9)), (1, .int x), (2, .int y)] [] := by
    intro r
    induction r with
    | zero =>
      intro i τ hrr hi hv
      refine g_iload_n X dX0_makeFresh_6 7 rfl rfl ?_
      refine g_bipush X dX0_makeFresh_7 9 rfl (v := 100) rfl ?_
      refine g_ic_ge X dX0_makeFresh_9 29 12 rfl rfl (fun c1 => ?_) (fun c1 => absurd (nI_le (a := 100) (by omega) hi) c1)
      exact g_vret X hr dX0_makeFresh_29 () rfl (by rw [← hv]; rfl)
    | succ r ih =>
      intro i τ hrr hi hv
      refine g_iload_n X dX0_makeFresh_6 7 rfl rfl ?_
      refine g_bipush X dX0_makeFresh_7 9 rfl (v := 100) rfl ?_
      refine g_ic_ge X dX0_makeFresh_9 29 12 rfl rfl (fun c2 => absurd c2 (nI_ge (b := 100) (by omega) (by decide))) (fun c2 => ?_)
      refine g_iload_n X dX0_makeFresh_12 13 rfl rfl ?_
      refine g_iload_n X dX0_makeFresh_13 14 rfl rfl ?_
      refine g_ic_gt X dX0_makeFresh_14 29 17 rfl rfl (fun c3 => ?_) (fun c3 => ?_)
      · skip
        exact g_vret X hr dX0_makeFresh_29 () rfl (by rw [← hv]; simp [freshL, c2, c3])
      · skip
        refine g_aload_n X dX0_makeFresh_17 18 rfl rfl ?_
        refine g_iload_n X dX0_makeFresh_18 19 rfl rfl ?_
        refine g_iconst X dX0_makeFresh_19 20 rfl (v := -1) rfl ?_
        refine c_V X Lk_X0_43 (k_X0_becomeFree E l wr b μ a τ (nI i) (-1)) dX0_makeFresh_20 rfl 13 rfl rfl rfl (Nat.le_of_ble_eq_true rfl) ⟨(Nat.le_of_ble_eq_true rfl), (Nat.le_of_ble_eq_true rfl)⟩ ⟨(Nat.le_of_ble_eq_true rfl), (Nat.le_of_ble_eq_true rfl)⟩ 23 rfl [] rfl ?_
        refine g_iinc X dX0_makeFresh_23 26 rfl (by decide) 0 rfl (nI_1 _) [(3, .int (nI (i + 1))), (0, .ref (a 9)), (1, .int x), (2, .int y)] rfl ?_
        refine g_goto X dX0_makeFresh_26 6 rfl ?_
        exact ih (i + 1) _ (by omega) (by omega) (by rw [← hv]; simp [freshL, c2, c3])
  exact Lp (100 - ix x) (ix x) σ rfl (ix_lt x) rfl

set_option maxHeartbeats 4000000 in
set_option maxRecDepth 100000 in
theorem k_X0_countIn (E : kE) (l : Launch) (wr : va_W) (b : Nat → Nat) (μ : Sto) (a : Nat → Nat) (σ : Sto) (x : Int32) (y : Int32) (v : Int32) : KM E l yX0_countIn cX0_countIn 6 (some .int) 1 21 0 0 [.ref (a 9), .int x, .int y, .int v] (WW E b μ a σ wr) (some (.int (cntIn σ x y v))) (WW E b μ a σ wr) := by
  refine K_start (own := RX0) (by decide +kernel) rfl [(0, .ref (a 9)), (1, .int x), (2, .int y), (3, .int v)] rfl (Nat.le_of_ble_eq_true rfl) (fun p e s m below meth c X hr hin => ?_)
  refine g_iconst X dX0_countIn_0 1 rfl (v := 0) rfl ?_
  refine g_istore X dX0_countIn_1 3 rfl (by decide) [(4, .int 0), (0, .ref (a 9)), (1, .int x), (2, .int y), (3, .int v)] rfl ?_
  refine g_iload_n X dX0_countIn_3 4 rfl rfl ?_
  refine g_iconst X dX0_countIn_4 5 rfl (v := 0) rfl ?_
  refine g_max X Ma_X0_37 dX0_countIn_5 8 rfl (Nat.le_of_ble_eq_true rfl) (Nat.le_of_ble_eq_true rfl) ⟨(Nat.le_of_ble_eq_true rfl), (Nat.le_of_ble_eq_true rfl)⟩ ?_
  rw [mx0]
  refine g_istore X dX0_countIn_8 10 rfl (by decide) [(5, .int (nI (ix x))), (4, .int 0), (0, .ref (a 9)), (1, .int x), (2, .int y), (3, .int v)] rfl ?_
  have Lp : ∀ (r i : Nat) (z : Int32), (r = 100 - i) → (i < 2 ^ 31) → (cntL σ y v i r z = cntIn σ x y v) →  G E (va_A (WW E b μ a σ wr) s.heap.size) 6 p l e ({ frames := 1, cells := 0, slots := 0, locals := 21 } : Room) s m (([.ref (a 9), .int x, .int y, .int v] : List Value).toArray) below meth c (MQ below (KQ E (WW E b μ a σ wr) s.heap.size (fun _ : Unit => (some (.int (cntIn σ x y v)))) (fun _ => WW E b μ a σ wr)) (([.ref (a 9), .int x, .int y, .int v] : List Value).toArray) s 0 0 (va_A (WW E b μ a σ wr) s.heap.size)) 0 0 (WW E b μ a σ wr) 10 [(5, .int (nI i)), (4, .int z), (0, .ref (a 9)), (1, .int x), (2, .int y), (3, .int v)] [] := by
    intro r
    induction r with
    | zero =>
      intro i z hrr hi hv
      refine g_iload X dX0_countIn_10 12 rfl rfl ?_
      refine g_bipush X dX0_countIn_12 14 rfl (v := 100) rfl ?_
      refine g_ic_ge X dX0_countIn_14 43 17 rfl rfl (fun c1 => ?_) (fun c1 => absurd (nI_le (a := 100) (by omega) hi) c1)
      refine g_iload X dX0_countIn_43 45 rfl rfl ?_
      exact g_iret X hr dX0_countIn_45 () (by rw [← hv]; rfl) rfl
    | succ r ih =>
      intro i z hrr hi hv
      refine g_iload X dX0_countIn_10 12 rfl rfl ?_
      refine g_bipush X dX0_countIn_12 14 rfl (v := 100) rfl ?_
      refine g_ic_ge X dX0_countIn_14 43 17 rfl rfl (fun c2 => absurd c2 (nI_ge (b := 100) (by omega) (by decide))) (fun c2 => ?_)
      refine g_iload X dX0_countIn_17 19 rfl rfl ?_
      refine g_iload_n X dX0_countIn_19 20 rfl rfl ?_
      refine g_ic_gt X dX0_countIn_20 43 23 rfl rfl (fun c3 => ?_) (fun c3 => ?_)
      · skip
        refine g_iload X dX0_countIn_43 45 rfl rfl ?_
        exact g_iret X hr dX0_countIn_45 () (by rw [← hv]; simp [cntL, c2, c3]) rfl
      · skip
        refine g_aload_n X dX0_countIn_23 24 rfl rfl ?_
        refine g_get X FL_X0_18 dX0_countIn_24 27 rfl 13 rfl (v := .ref (a 12)) rfl ?_
        refine g_iload X dX0_countIn_27 29 rfl rfl ?_
        refine g_ialdN X dX0_countIn_29 30 rfl 16 rfl (by omega) (by decide) ?_
        refine g_iload_n X dX0_countIn_30 31 rfl rfl ?_
        refine g_ic_ne X dX0_countIn_31 37 34 rfl rfl (fun c4 => ?_) (fun c4 => ?_)
        · skip
          refine g_iinc X dX0_countIn_37 40 rfl (by decide) 0 rfl (nI_1 _) [(5, .int (nI (i + 1))), (4, .int z), (0, .ref (a 9)), (1, .int x), (2, .int y), (3, .int v)] rfl ?_
          refine g_goto X dX0_countIn_40 10 rfl ?_
          exact ih (i + 1) z (by omega) (by omega) (by rw [← hv]; simp [cntL, c2, c3, c4])
        · skip
          refine g_iinc X dX0_countIn_34 37 rfl (by decide) 1 rfl rfl [(4, .int (z + 1)), (5, .int (nI i)), (0, .ref (a 9)), (1, .int x), (2, .int y), (3, .int v)] rfl ?_
          refine g_iinc X dX0_countIn_37 40 rfl (by decide) 1 rfl (nI_1 _) [(5, .int (nI (i + 1))), (4, .int (z + 1)), (0, .ref (a 9)), (1, .int x), (2, .int y), (3, .int v)] rfl ?_
          refine g_goto X dX0_countIn_40 10 rfl ?_
          exact ih (i + 1) (z + 1) (by omega) (by omega) (by rw [← hv]; simp [cntL, c2, c3, c4])
  exact Lp (100 - ix x) (ix x) 0 rfl (ix_lt x) rfl

set_option maxHeartbeats 4000000 in
set_option maxRecDepth 100000 in
theorem k_X0_countOfferable (E : kE) (l : Launch) (wr : va_W) (b : Nat → Nat) (μ : Sto) (a : Nat → Nat) (σ : Sto) (x : Int32) (y : Int32) : KM E l yX0_countOfferable cX0_countOfferable 5 (some .int) 2 41 0 0 [.ref (a 9), .int x, .int y] (WW E b μ a σ wr) (some (.int (offIn σ x y))) (WW E b μ a σ wr) := by
  refine K_start (own := RX0) (by decide +kernel) rfl [(0, .ref (a 9)), (1, .int x), (2, .int y)] rfl (Nat.le_of_ble_eq_true rfl) (fun p e s m below meth c X hr hin => ?_)
  refine g_iconst X dX0_countOfferable_0 1 rfl (v := 0) rfl ?_
  refine g_istore_n X dX0_countOfferable_1 2 rfl (by decide) [(3, .int 0), (0, .ref (a 9)), (1, .int x), (2, .int y)] rfl ?_
  refine g_iload_n X dX0_countOfferable_2 3 rfl rfl ?_
  refine g_iconst X dX0_countOfferable_3 4 rfl (v := 0) rfl ?_
  refine g_max X Ma_X0_37 dX0_countOfferable_4 7 rfl (Nat.le_of_ble_eq_true rfl) (Nat.le_of_ble_eq_true rfl) ⟨(Nat.le_of_ble_eq_true rfl), (Nat.le_of_ble_eq_true rfl)⟩ ?_
  rw [mx0]
  refine g_istore X dX0_countOfferable_7 9 rfl (by decide) [(4, .int (nI (ix x))), (3, .int 0), (0, .ref (a 9)), (1, .int x), (2, .int y)] rfl ?_
  have Lp : ∀ (r i : Nat) (z : Int32), (r = 100 - i) → (i < 2 ^ 31) → (offL σ y i r z = offIn σ x y) →  G E (va_A (WW E b μ a σ wr) s.heap.size) 5 p l e ({ frames := 2, cells := 0, slots := 0, locals := 41 } : Room) s m (([.ref (a 9), .int x, .int y] : List Value).toArray) below meth c (MQ below (KQ E (WW E b μ a σ wr) s.heap.size (fun _ : Unit => (some (.int (offIn σ x y)))) (fun _ => WW E b μ a σ wr)) (([.ref (a 9), .int x, .int y] : List Value).toArray) s 0 0 (va_A (WW E b μ a σ wr) s.heap.size)) 0 0 (WW E b μ a σ wr) 9 [(4, .int (nI i)), (3, .int z), (0, .ref (a 9)), (1, .int x), (2, .int y)] [] := by
    intro r
    induction r with
    | zero =>
      intro i z hrr hi hv
      refine g_iload X dX0_countOfferable_9 11 rfl rfl ?_
      refine g_bipush X dX0_countOfferable_11 13 rfl (v := 100) rfl ?_
      refine g_ic_ge X dX0_countOfferable_13 40 16 rfl rfl (fun c1 => ?_) (fun c1 => absurd (nI_le (a := 100) (by omega) hi) c1)
      refine g_iload_n X dX0_countOfferable_40 41 rfl rfl ?_
      exact g_iret X hr dX0_countOfferable_41 () (by rw [← hv]; rfl) rfl
    | succ r ih =>
      intro i z hrr hi hv
      refine g_iload X dX0_countOfferable_9 11 rfl rfl ?_
      refine g_bipush X dX0_countOfferable_11 13 rfl (v := 100) rfl ?_
      refine g_ic_ge X dX0_countOfferable_13 40 16 rfl rfl (fun c2 => absurd c2 (nI_ge (b := 100) (by omega) (by decide))) (fun c2 => ?_)
      refine g_iload X dX0_countOfferable_16 18 rfl rfl ?_
      refine g_iload_n X dX0_countOfferable_18 19 rfl rfl ?_
      refine g_ic_gt X dX0_countOfferable_19 40 22 rfl rfl (fun c3 => ?_) (fun c3 => ?_)
      · skip
        refine g_iload_n X dX0_countOfferable_40 41 rfl rfl ?_
        exact g_iret X hr dX0_countOfferable_41 () (by rw [← hv]; simp [offL, c2, c3]) rfl
      · skip
        refine g_aload_n X dX0_countOfferable_22 23 rfl rfl ?_
        refine g_iload X dX0_countOfferable_23 25 rfl rfl ?_
        refine c_V X Lk_X0_55 (k_X0_isOfferable E l wr b μ a σ (nI i)) dX0_countOfferable_25 rfl 13 rfl rfl rfl (Nat.le_of_ble_eq_true rfl) ⟨(Nat.le_of_ble_eq_true rfl), (Nat.le_of_ble_eq_true rfl)⟩ ⟨(Nat.le_of_ble_eq_true rfl), (Nat.le_of_ble_eq_true rfl)⟩ 28 rfl [.int (bi (isOff σ (nI i)))] rfl ?_
        refine g_ifb_eq X dX0_countOfferable_28 34 31 rfl rfl (fun c4 => ?_) (fun c4 => ?_)
        · skip
          refine g_iinc X dX0_countOfferable_34 37 rfl (by decide) 0 rfl (nI_1 _) [(4, .int (nI (i + 1))), (3, .int z), (0, .ref (a 9)), (1, .int x), (2, .int y)] rfl ?_
          refine g_goto X dX0_countOfferable_37 9 rfl ?_
          exact ih (i + 1) z (by omega) (by omega) (by rw [← hv]; simp [offL, c2, c3, c4])
        · skip
          refine g_iinc X dX0_countOfferable_31 34 rfl (by decide) 1 rfl rfl [(3, .int (z + 1)), (4, .int (nI i)), (0, .ref (a 9)), (1, .int x), (2, .int y)] rfl ?_
          refine g_iinc X dX0_countOfferable_34 37 rfl (by decide) 1 rfl (nI_1 _) [(4, .int (nI (i + 1))), (3, .int (z + 1)), (0, .ref (a 9)), (1, .int x), (2, .int y)] rfl ?_
          refine g_goto X dX0_countOfferable_37 9 rfl ?_
          exact ih (i + 1) (z + 1) (by omega) (by omega) (by rw [← hv]; simp [offL, c2, c3, c4])
  exact Lp (100 - ix x) (ix x) 0 rfl (ix_lt x) rfl

set_option maxHeartbeats 4000000 in
set_option maxRecDepth 100000 in
theorem k_X0_earliestQuarantineEnd (E : kE) (l : Launch) (wr : va_W) (b : Nat → Nat) (μ : Sto) (a : Nat → Nat) (σ : Sto) : KM E l yX0_earliestQuarantineEnd cX0_earliestQuarantineEnd 3 (some .int) 1 22 0 0 [.ref (a 9)] (WW E b μ a σ wr) (some (.int (eqE σ))) (WW E b μ a σ wr) := by
  refine K_start (own := RX0) (by decide +kernel) rfl [(0, .ref (a 9))] rfl (Nat.le_of_ble_eq_true rfl) (fun p e s m below meth c X hr hin => ?_)
  refine g_ldc X Co_X0_58 dX0_earliestQuarantineEnd_0 2 rfl ?_
  refine g_istore_n X dX0_earliestQuarantineEnd_2 3 rfl (by decide) [(1, .int 2147483647), (0, .ref (a 9))] rfl ?_
  refine g_iconst X dX0_earliestQuarantineEnd_3 4 rfl (v := 0) rfl ?_
  refine g_istore_n X dX0_earliestQuarantineEnd_4 5 rfl (by decide) [(2, .int 0), (1, .int 2147483647), (0, .ref (a 9))] rfl ?_
  have Lp : ∀ (r i : Nat) (z : Int32), (i + r = 100) → (eqL σ i r z = eqE σ) →  G E (va_A (WW E b μ a σ wr) s.heap.size) 3 p l e ({ frames := 1, cells := 0, slots := 0, locals := 22 } : Room) s m (([.ref (a 9)] : List Value).toArray) below meth c (MQ below (KQ E (WW E b μ a σ wr) s.heap.size (fun _ : Unit => (some (.int (eqE σ)))) (fun _ => WW E b μ a σ wr)) (([.ref (a 9)] : List Value).toArray) s 0 0 (va_A (WW E b μ a σ wr) s.heap.size)) 0 0 (WW E b μ a σ wr) 5 [(2, .int (nI i)), (1, .int z), (0, .ref (a 9))] [] := by
    intro r
    induction r with
    | zero =>
      intro i z hi hv
      obtain rfl : i = 100 := by omega
      refine g_iload_n X dX0_earliestQuarantineEnd_5 6 rfl rfl ?_
      refine g_bipush X dX0_earliestQuarantineEnd_6 8 rfl (v := 100) rfl ?_
      refine g_ic_ge X dX0_earliestQuarantineEnd_8 43 11 rfl rfl (fun c1 => ?_) (fun c1 => absurd (by decide) c1)
      refine g_iload_n X dX0_earliestQuarantineEnd_43 44 rfl rfl ?_
      exact g_iret X hr dX0_earliestQuarantineEnd_44 () (by rw [← hv]; rfl) rfl
    | succ r ih =>
      intro i z hi hv
      refine g_iload_n X dX0_earliestQuarantineEnd_5 6 rfl rfl ?_
      refine g_bipush X dX0_earliestQuarantineEnd_6 8 rfl (v := 100) rfl ?_
      refine g_ic_ge X dX0_earliestQuarantineEnd_8 43 11 rfl rfl (fun c2 => absurd c2 (nI_ge (b := 100) (by omega) (by decide))) (fun c2 => ?_)
      refine g_aload_n X dX0_earliestQuarantineEnd_11 12 rfl rfl ?_
      refine g_get X FL_X0_18 dX0_earliestQuarantineEnd_12 15 rfl 13 rfl (v := .ref (a 12)) rfl ?_
      refine g_iload_n X dX0_earliestQuarantineEnd_15 16 rfl rfl ?_
      refine g_ialdN X dX0_earliestQuarantineEnd_16 17 rfl 16 rfl (by omega) (by decide) ?_
      refine g_iconst X dX0_earliestQuarantineEnd_17 18 rfl (v := 3) rfl ?_
      refine g_ic_ne X dX0_earliestQuarantineEnd_18 37 21 rfl rfl (fun c3 => ?_) (fun c3 => ?_)
      · skip
        refine g_iinc X dX0_earliestQuarantineEnd_37 40 rfl (by decide) 0 rfl (nI_1 _) [(2, .int (nI (i + 1))), (1, .int z), (0, .ref (a 9))] rfl ?_
        refine g_goto X dX0_earliestQuarantineEnd_40 5 rfl ?_
        exact ih (i + 1) z (by omega) (by rw [← hv]; simp [eqL, c2, c3])
      · skip
        refine g_iload_n X dX0_earliestQuarantineEnd_21 22 rfl rfl ?_
        refine g_aload_n X dX0_earliestQuarantineEnd_22 23 rfl rfl ?_
        refine g_get X FL_X0_25 dX0_earliestQuarantineEnd_23 26 rfl 13 rfl (v := .ref (a 14)) rfl ?_
        refine g_iload_n X dX0_earliestQuarantineEnd_26 27 rfl rfl ?_
        refine g_ialdN X dX0_earliestQuarantineEnd_27 28 rfl 18 rfl (by omega) (by decide) ?_
        refine g_iconst X dX0_earliestQuarantineEnd_28 29 rfl (v := 1) rfl ?_
        refine g_iload_n X dX0_earliestQuarantineEnd_29 30 rfl rfl ?_
        refine c_N X Lk_X0_59 (k_X6_eventAt E l wr b μ a σ (σ 9 i) 1 (nI i)) dX0_earliestQuarantineEnd_30 rfl rfl (Nat.le_of_ble_eq_true rfl) ⟨(Nat.le_of_ble_eq_true rfl), (Nat.le_of_ble_eq_true rfl)⟩ ⟨(Nat.le_of_ble_eq_true rfl), (Nat.le_of_ble_eq_true rfl)⟩ 33 rfl [.int (eventK (σ 9 i) 1 (nI i)), .int z] rfl ?_
        refine g_min X Ma_X0_63 dX0_earliestQuarantineEnd_33 36 rfl (Nat.le_of_ble_eq_true rfl) (Nat.le_of_ble_eq_true rfl) ⟨(Nat.le_of_ble_eq_true rfl), (Nat.le_of_ble_eq_true rfl)⟩ ?_
        refine g_istore_n X dX0_earliestQuarantineEnd_36 37 rfl (by decide) [(1, .int (if (eventK (σ 9 i) 1 (nI i)) < z then (eventK (σ 9 i) 1 (nI i)) else z)), (2, .int (nI i)), (0, .ref (a 9))] rfl ?_
        refine g_iinc X dX0_earliestQuarantineEnd_37 40 rfl (by decide) 1 rfl (nI_1 _) [(2, .int (nI (i + 1))), (1, .int (if (eventK (σ 9 i) 1 (nI i)) < z then (eventK (σ 9 i) 1 (nI i)) else z)), (0, .ref (a 9))] rfl ?_
        refine g_goto X dX0_earliestQuarantineEnd_40 5 rfl ?_
        exact ih (i + 1) (if (eventK (σ 9 i) 1 (nI i)) < z then (eventK (σ 9 i) 1 (nI i)) else z) (by omega) (by rw [← hv]; simp [eqL, c2, c3])
  exact Lp 100 0 2147483647 rfl rfl

set_option maxHeartbeats 4000000 in
set_option maxRecDepth 100000 in
theorem k_X1_countBound (E : kE) (l : Launch) (wr : va_W) (b : Nat → Nat) (μ : Sto) (a : Nat → Nat) (σ : Sto) : KM E l yX1_countBound cX1_countBound 3 (some .int) 2 41 0 0 [.ref (a 16)] (WW E b μ a σ wr) (some (.int (bdC σ))) (WW E b μ a σ wr) := by
  refine K_start (own := RX1) (by decide +kernel) rfl [(0, .ref (a 16))] rfl (Nat.le_of_ble_eq_true rfl) (fun p e s m below meth c X hr hin => ?_)
  refine g_iconst X dX1_countBound_0 1 rfl (v := 0) rfl ?_
  refine g_istore_n X dX1_countBound_1 2 rfl (by decide) [(1, .int 0), (0, .ref (a 16))] rfl ?_
  refine g_iconst X dX1_countBound_2 3 rfl (v := 0) rfl ?_
  refine g_istore_n X dX1_countBound_3 4 rfl (by decide) [(2, .int 0), (1, .int 0), (0, .ref (a 16))] rfl ?_
  have Lp : ∀ (r i : Nat) (z : Int32), (i + r = 20) → (bdL σ i r z = bdC σ) →  G E (va_A (WW E b μ a σ wr) s.heap.size) 3 p l e ({ frames := 2, cells := 0, slots := 0, locals := 41 } : Room) s m (([.ref (a 16)] : List Value).toArray) below meth c (MQ below (KQ E (WW E b μ a σ wr) s.heap.size (fun _ : Unit => (some (.int (bdC σ)))) (fun _ => WW E b μ a σ wr)) (([.ref (a 16)] : List Value).toArray) s 0 0 (va_A (WW E b μ a σ wr) s.heap.size)) 0 0 (WW E b μ a σ wr) 4 [(2, .int (nI i)), (1, .int z), (0, .ref (a 16))] [] := by
    intro r
    induction r with
    | zero =>
      intro i z hi hv
      obtain rfl : i = 20 := by omega
      refine g_iload_n X dX1_countBound_4 5 rfl rfl ?_
      refine g_bipush X dX1_countBound_5 7 rfl (v := 20) rfl ?_
      refine g_ic_ge X dX1_countBound_7 27 10 rfl rfl (fun c1 => ?_) (fun c1 => absurd (by decide) c1)
      refine g_iload_n X dX1_countBound_27 28 rfl rfl ?_
      exact g_iret X hr dX1_countBound_28 () (by rw [← hv]; rfl) rfl
    | succ r ih =>
      intro i z hi hv
      refine g_iload_n X dX1_countBound_4 5 rfl rfl ?_
      refine g_bipush X dX1_countBound_5 7 rfl (v := 20) rfl ?_
      refine g_ic_ge X dX1_countBound_7 27 10 rfl rfl (fun c2 => absurd c2 (nI_ge (b := 20) (by omega) (by decide))) (fun c2 => ?_)
      refine g_aload_n X dX1_countBound_10 11 rfl rfl ?_
      refine g_iload_n X dX1_countBound_11 12 rfl rfl ?_
      refine c_V X Lk_X1_37 (k_X1_isBound E l wr b μ a σ (nI i)) dX1_countBound_12 rfl 20 rfl rfl rfl (Nat.le_of_ble_eq_true rfl) ⟨(Nat.le_of_ble_eq_true rfl), (Nat.le_of_ble_eq_true rfl)⟩ ⟨(Nat.le_of_ble_eq_true rfl), (Nat.le_of_ble_eq_true rfl)⟩ 15 rfl [.int (bi (isBd σ (nI i)))] rfl ?_
      refine g_ifb_eq X dX1_countBound_15 21 18 rfl rfl (fun c3 => ?_) (fun c3 => ?_)
      · skip
        refine g_iinc X dX1_countBound_21 24 rfl (by decide) 0 rfl (nI_1 _) [(2, .int (nI (i + 1))), (1, .int z), (0, .ref (a 16))] rfl ?_
        refine g_goto X dX1_countBound_24 4 rfl ?_
        exact ih (i + 1) z (by omega) (by rw [← hv]; simp [bdL, c2, c3])
      · skip
        refine g_iinc X dX1_countBound_18 21 rfl (by decide) 1 rfl rfl [(1, .int (z + 1)), (2, .int (nI i)), (0, .ref (a 16))] rfl ?_
        refine g_iinc X dX1_countBound_21 24 rfl (by decide) 1 rfl (nI_1 _) [(2, .int (nI (i + 1))), (1, .int (z + 1)), (0, .ref (a 16))] rfl ?_
        refine g_goto X dX1_countBound_24 4 rfl ?_
        exact ih (i + 1) (z + 1) (by omega) (by rw [← hv]; simp [bdL, c2, c3])
  exact Lp 20 0 0 rfl rfl

set_option maxHeartbeats 4000000 in
set_option maxRecDepth 100000 in
theorem k_X2_write (E : kE) (l : Launch) (wr : va_W) (b : Nat → Nat) (μ : Sto) (a : Nat → Nat) (σ : Sto) (q : Int32) (x : Int32) : KM E l yX2_write cX2_write 3 none 1 21 0 0 [.ref (a 1), .int q, .int x] (WW E b μ a σ wr) none (WW E b μ a (logW σ q x) wr) := by
  refine K_start (own := RX2) (by decide +kernel) rfl [(0, .ref (a 1)), (1, .int q), (2, .int x)] rfl (Nat.le_of_ble_eq_true rfl) (fun p e s m below meth c X hr hin => ?_)
  refine g_aload_n X dX2_write_0 1 rfl rfl ?_
  refine g_get X FL_X2_15 dX2_write_1 4 rfl 5 rfl (v := .int (σ 46 0)) rfl ?_
  refine g_if_lt X dX2_write_4 32 7 rfl rfl (fun c1 => ?_) (fun c1 => ?_)
  · skip
    refine g_aload_n X dX2_write_32 33 rfl rfl ?_
    refine g_aload_n X dX2_write_33 34 rfl rfl ?_
    refine g_get X FL_X2_15 dX2_write_34 37 rfl 5 rfl (v := .int (σ 46 0)) rfl ?_
    refine g_iconst X dX2_write_37 38 rfl (v := 1) rfl ?_
    refine g_iadd X dX2_write_38 39 rfl ?_
    refine g_bipush X dX2_write_39 41 rfl (v := 30) rfl ?_
    refine g_irem X dX2_write_41 42 rfl (by decide) ?_
    refine g_put X FL_X2_15 fk_X2 dX2_write_42 45 rfl rfl 5 rfl rfl rfl (Nat.le_of_ble_eq_true rfl) (WW E b μ a (put σ 46 (sc (((σ 46 0) + 1) - ((σ 46 0) + 1) / 30 * 30))) wr) rfl ?_
    refine g_aload_n X dX2_write_45 46 rfl rfl ?_
    refine g_aload_n X dX2_write_46 47 rfl rfl ?_
    refine g_get X FL_X2_19 dX2_write_47 50 rfl 5 rfl (v := .int (σ 45 0)) rfl ?_
    refine g_iconst X dX2_write_50 51 rfl (v := 1) rfl ?_
    refine g_iadd X dX2_write_51 52 rfl ?_
    refine g_bipush X dX2_write_52 54 rfl (v := 30) rfl ?_
    refine g_min X Ma_X2_22 dX2_write_54 57 rfl (Nat.le_of_ble_eq_true rfl) (Nat.le_of_ble_eq_true rfl) ⟨(Nat.le_of_ble_eq_true rfl), (Nat.le_of_ble_eq_true rfl)⟩ ?_
    refine g_put X FL_X2_19 fk_X2 dX2_write_57 60 rfl rfl 5 rfl rfl rfl (Nat.le_of_ble_eq_true rfl) (WW E b μ a (put (put σ 46 (sc (((σ 46 0) + 1) - ((σ 46 0) + 1) / 30 * 30))) 45 (sc (if 30 < ((σ 45 0) + 1) then 30 else ((σ 45 0) + 1)))) wr) rfl ?_
    exact g_vret X hr dX2_write_60 () rfl (by rw [logW_f (Or.inl c1)])
  · skip
    refine g_aload_n X dX2_write_7 8 rfl rfl ?_
    refine g_get X FL_X2_15 dX2_write_8 11 rfl 5 rfl (v := .int (σ 46 0)) rfl ?_
    refine g_bipush X dX2_write_11 13 rfl (v := 30) rfl ?_
    refine g_ic_ge X dX2_write_13 32 16 rfl rfl (fun c2 => ?_) (fun c2 => ?_)
    · skip
      refine g_aload_n X dX2_write_32 33 rfl rfl ?_
      refine g_aload_n X dX2_write_33 34 rfl rfl ?_
      refine g_get X FL_X2_15 dX2_write_34 37 rfl 5 rfl (v := .int (σ 46 0)) rfl ?_
      refine g_iconst X dX2_write_37 38 rfl (v := 1) rfl ?_
      refine g_iadd X dX2_write_38 39 rfl ?_
      refine g_bipush X dX2_write_39 41 rfl (v := 30) rfl ?_
      refine g_irem X dX2_write_41 42 rfl (by decide) ?_
      refine g_put X FL_X2_15 fk_X2 dX2_write_42 45 rfl rfl 5 rfl rfl rfl (Nat.le_of_ble_eq_true rfl) (WW E b μ a (put σ 46 (sc (((σ 46 0) + 1) - ((σ 46 0) + 1) / 30 * 30))) wr) rfl ?_
      refine g_aload_n X dX2_write_45 46 rfl rfl ?_
      refine g_aload_n X dX2_write_46 47 rfl rfl ?_
      refine g_get X FL_X2_19 dX2_write_47 50 rfl 5 rfl (v := .int (σ 45 0)) rfl ?_
      refine g_iconst X dX2_write_50 51 rfl (v := 1) rfl ?_
      refine g_iadd X dX2_write_51 52 rfl ?_
      refine g_bipush X dX2_write_52 54 rfl (v := 30) rfl ?_
      refine g_min X Ma_X2_22 dX2_write_54 57 rfl (Nat.le_of_ble_eq_true rfl) (Nat.le_of_ble_eq_true rfl) ⟨(Nat.le_of_ble_eq_true rfl), (Nat.le_of_ble_eq_true rfl)⟩ ?_
      refine g_put X FL_X2_19 fk_X2 dX2_write_57 60 rfl rfl 5 rfl rfl rfl (Nat.le_of_ble_eq_true rfl) (WW E b μ a (put (put σ 46 (sc (((σ 46 0) + 1) - ((σ 46 0) + 1) / 30 * 30))) 45 (sc (if 30 < ((σ 45 0) + 1) then 30 else ((σ 45 0) + 1)))) wr) rfl ?_
      exact g_vret X hr dX2_write_60 () rfl (by rw [logW_f (Or.inr c2)])
    · skip
      refine g_aload_n X dX2_write_16 17 rfl rfl ?_
      refine g_get X FL_X2_9 dX2_write_17 20 rfl 5 rfl (v := .ref (a 2)) rfl ?_
      refine g_aload_n X dX2_write_20 21 rfl rfl ?_
      refine g_get X FL_X2_15 dX2_write_21 24 rfl 5 rfl (v := .int (σ 46 0)) rfl ?_
      refine g_iload_n X dX2_write_24 25 rfl rfl ?_
      refine g_sipush X dX2_write_25 28 rfl (v := 1000) rfl ?_
      refine g_imul X dX2_write_28 29 rfl ?_
      refine g_iload_n X dX2_write_29 30 rfl rfl ?_
      refine g_iadd X dX2_write_30 31 rfl ?_
      refine g_iast X dX2_write_31 32 rfl 6 rfl (vin_of (N := 30) (by decide) rfl c1 c2) (WW E b μ a (put σ 44 (upd (σ 44) (ix (σ 46 0)) ((q * 1000) + x))) wr) rfl ?_
      refine g_aload_n X dX2_write_32 33 rfl rfl ?_
      refine g_aload_n X dX2_write_33 34 rfl rfl ?_
      refine g_get X FL_X2_15 dX2_write_34 37 rfl 5 rfl (v := .int (σ 46 0)) rfl ?_
      refine g_iconst X dX2_write_37 38 rfl (v := 1) rfl ?_
      refine g_iadd X dX2_write_38 39 rfl ?_
      refine g_bipush X dX2_write_39 41 rfl (v := 30) rfl ?_
      refine g_irem X dX2_write_41 42 rfl (by decide) ?_
      refine g_put X FL_X2_15 fk_X2 dX2_write_42 45 rfl rfl 5 rfl rfl rfl (Nat.le_of_ble_eq_true rfl) (WW E b μ a (put (put σ 44 (upd (σ 44) (ix (σ 46 0)) ((q * 1000) + x))) 46 (sc (((σ 46 0) + 1) - ((σ 46 0) + 1) / 30 * 30))) wr) rfl ?_
      refine g_aload_n X dX2_write_45 46 rfl rfl ?_
      refine g_aload_n X dX2_write_46 47 rfl rfl ?_
      refine g_get X FL_X2_19 dX2_write_47 50 rfl 5 rfl (v := .int (σ 45 0)) rfl ?_
      refine g_iconst X dX2_write_50 51 rfl (v := 1) rfl ?_
      refine g_iadd X dX2_write_51 52 rfl ?_
      refine g_bipush X dX2_write_52 54 rfl (v := 30) rfl ?_
      refine g_min X Ma_X2_22 dX2_write_54 57 rfl (Nat.le_of_ble_eq_true rfl) (Nat.le_of_ble_eq_true rfl) ⟨(Nat.le_of_ble_eq_true rfl), (Nat.le_of_ble_eq_true rfl)⟩ ?_
      refine g_put X FL_X2_19 fk_X2 dX2_write_57 60 rfl rfl 5 rfl rfl rfl (Nat.le_of_ble_eq_true rfl) (WW E b μ a (put (put (put σ 44 (upd (σ 44) (ix (σ 46 0)) ((q * 1000) + x))) 46 (sc (((σ 46 0) + 1) - ((σ 46 0) + 1) / 30 * 30))) 45 (sc (if 30 < ((σ 45 0) + 1) then 30 else ((σ 45 0) + 1)))) wr) rfl ?_
      exact g_vret X hr dX2_write_60 () rfl (by rw [logW_t c1 c2])

set_option maxHeartbeats 4000000 in
set_option maxRecDepth 100000 in
theorem k_J9_floorMod_7cf53 (E : kE) (l : Launch) (wr : va_W) (b : Nat → Nat) (μ : Sto) (a : Nat → Nat) (σ : Sto) (x : Int32) (y : Int32) (hy : ¬ y = 0) : KM E l yJ9_floorMod_7cf53 cJ9_floorMod_7cf53 3 (some .int) 0 0 0 0 [.int x, .int y] (WW E b μ a σ wr) (some (.int (fmd x y))) (WW E b μ a σ wr) := by
  refine K_startF (own := RJ9) (by decide +kernel) rfl [(0, .int x), (1, .int y)] rfl (Nat.le_of_ble_eq_true rfl) (fun p e s m below meth c X hr hin => ?_)
  refine g_iload_n X dJ9_floorMod_7cf53_0 1 rfl rfl ?_
  refine g_iload_n X dJ9_floorMod_7cf53_1 2 rfl rfl ?_
  refine g_irem X dJ9_floorMod_7cf53_2 3 rfl hy ?_
  refine g_istore_n X dJ9_floorMod_7cf53_3 4 rfl (by decide) [(2, .int (x - x / y * y)), (0, .int x), (1, .int y)] rfl ?_
  refine g_iload_n X dJ9_floorMod_7cf53_4 5 rfl rfl ?_
  refine g_iload_n X dJ9_floorMod_7cf53_5 6 rfl rfl ?_
  refine g_ixor X dJ9_floorMod_7cf53_6 7 rfl ?_
  refine g_if_ge X dJ9_floorMod_7cf53_7 18 10 rfl rfl (fun c1 => ?_) (fun c1 => ?_)
  · skip
    refine g_iload_n X dJ9_floorMod_7cf53_18 19 rfl rfl ?_
    exact g_iret X hr dJ9_floorMod_7cf53_19 () (by simp [fmd, c1]) rfl
  · skip
    refine g_iload_n X dJ9_floorMod_7cf53_10 11 rfl rfl ?_
    refine g_if_eq X dJ9_floorMod_7cf53_11 18 14 rfl rfl (fun c2 => ?_) (fun c2 => ?_)
    · skip
      refine g_iload_n X dJ9_floorMod_7cf53_18 19 rfl rfl ?_
      exact g_iret X hr dJ9_floorMod_7cf53_19 () (by simp [fmd, c1, c2]) rfl
    · skip
      refine g_iload_n X dJ9_floorMod_7cf53_14 15 rfl rfl ?_
      refine g_iload_n X dJ9_floorMod_7cf53_15 16 rfl rfl ?_
      refine g_iadd X dJ9_floorMod_7cf53_16 17 rfl ?_
      exact g_iret X hr dJ9_floorMod_7cf53_17 () (by simp [fmd, c1, c2]) rfl

set_option maxHeartbeats 4000000 in
set_option maxRecDepth 100000 in
theorem k_X2_read (E : kE) (l : Launch) (wr : va_W) (b : Nat → Nat) (μ : Sto) (a : Nat → Nat) (σ : Sto) (x : Int32) (hf : vp_in (fmd (σ 46 0 - 1 - x) 30) 30) : KM E l yX2_read cX2_read 2 (some .int) 1 22 0 0 [.ref (a 1), .int x] (WW E b μ a σ wr) (some (.int (σ 44 (ix (fmd (σ 46 0 - 1 - x) 30))))) (WW E b μ a σ wr) := by
  refine K_start (own := RX2) (by decide +kernel) rfl [(0, .ref (a 1)), (1, .int x)] rfl (Nat.le_of_ble_eq_true rfl) (fun p e s m below meth c X hr hin => ?_)
  refine g_aload_n X dX2_read_0 1 rfl rfl ?_
  refine g_get X FL_X2_9 dX2_read_1 4 rfl 5 rfl (v := .ref (a 2)) rfl ?_
  refine g_aload_n X dX2_read_4 5 rfl rfl ?_
  refine g_get X FL_X2_15 dX2_read_5 8 rfl 5 rfl (v := .int (σ 46 0)) rfl ?_
  refine g_iconst X dX2_read_8 9 rfl (v := 1) rfl ?_
  refine g_isub X dX2_read_9 10 rfl ?_
  refine g_iload_n X dX2_read_10 11 rfl rfl ?_
  refine g_isub X dX2_read_11 12 rfl ?_
  refine g_bipush X dX2_read_12 14 rfl (v := 30) rfl ?_
  refine c_S X Lk_X2_28 (k_J9_floorMod_7cf53 E l wr b μ a σ (((σ 46 0) - 1) - x) 30 (by decide)) dX2_read_14 rfl rfl (Nat.le_of_ble_eq_true rfl) ⟨(Nat.le_of_ble_eq_true rfl), (Nat.le_of_ble_eq_true rfl)⟩ ⟨(Nat.le_of_ble_eq_true rfl), (Nat.le_of_ble_eq_true rfl)⟩ 17 rfl [.int (fmd (((σ 46 0) - 1) - x) 30), .ref (a 2)] rfl ?_
  refine g_iald X dX2_read_17 18 rfl 6 rfl hf ?_
  exact g_iret X hr dX2_read_18 () rfl rfl

set_option maxHeartbeats 4000000 in
set_option maxRecDepth 100000 in
theorem k_X3_countAddresses (E : kE) (l : Launch) (wr : va_W) (b : Nat → Nat) (μ : Sto) (a : Nat → Nat) (σ : Sto) (x : Int32) : KM E l yX3_countAddresses cX3_countAddresses 4 (some .int) 0 0 0 0 [.ref (a 4), .int x] (WW E b μ a σ wr) (some (.int (caL σ x 0 5 0))) (WW E b μ a σ wr) := by
  refine K_start (own := RX3) (by decide +kernel) rfl [(0, .ref (a 4)), (1, .int x)] rfl (Nat.le_of_ble_eq_true rfl) (fun p e s m below meth c X hr hin => ?_)
  refine g_iconst X dX3_countAddresses_0 1 rfl (v := 0) rfl ?_
  refine g_istore_n X dX3_countAddresses_1 2 rfl (by decide) [(2, .int 0), (0, .ref (a 4)), (1, .int x)] rfl ?_
  refine g_iconst X dX3_countAddresses_2 3 rfl (v := 0) rfl ?_
  refine g_istore_n X dX3_countAddresses_3 4 rfl (by decide) [(3, .int 0), (2, .int 0), (0, .ref (a 4)), (1, .int x)] rfl ?_
  have Lp : ∀ (r i : Nat) (z : Int32), (i + r = 5) → (caL σ x i r z = caL σ x 0 5 0) →  G E (va_A (WW E b μ a σ wr) s.heap.size) 4 p l e ({ frames := 0, cells := 0, slots := 0, locals := 0 } : Room) s m (([.ref (a 4), .int x] : List Value).toArray) below meth c (MQ below (KQ E (WW E b μ a σ wr) s.heap.size (fun _ : Unit => (some (.int (caL σ x 0 5 0)))) (fun _ => WW E b μ a σ wr)) (([.ref (a 4), .int x] : List Value).toArray) s 0 0 (va_A (WW E b μ a σ wr) s.heap.size)) 0 0 (WW E b μ a σ wr) 4 [(3, .int (nI i)), (2, .int z), (0, .ref (a 4)), (1, .int x)] [] := by
    intro r
    induction r with
    | zero =>
      intro i z hi hv
      obtain rfl : i = 5 := by omega
      refine g_iload_n X dX3_countAddresses_4 5 rfl rfl ?_
      refine g_iconst X dX3_countAddresses_5 6 rfl (v := 5) rfl ?_
      refine g_ic_ge X dX3_countAddresses_6 51 9 rfl rfl (fun c1 => ?_) (fun c1 => absurd (by decide) c1)
      refine g_iload_n X dX3_countAddresses_51 52 rfl rfl ?_
      exact g_iret X hr dX3_countAddresses_52 () (by rw [← hv]; rfl) rfl
    | succ r ih =>
      intro i z hi hv
      refine g_iload_n X dX3_countAddresses_4 5 rfl rfl ?_
      refine g_iconst X dX3_countAddresses_5 6 rfl (v := 5) rfl ?_
      refine g_ic_ge X dX3_countAddresses_6 51 9 rfl rfl (fun c2 => absurd c2 (nI_ge (b := 5) (by omega) (by decide))) (fun c2 => ?_)
      refine g_iload_n X dX3_countAddresses_9 10 rfl rfl ?_
      refine g_aload_n X dX3_countAddresses_10 11 rfl rfl ?_
      refine g_get X FL_X3_24 dX3_countAddresses_11 14 rfl 8 rfl (v := .int (σ 0 0)) rfl ?_
      refine g_ic_ge X dX3_countAddresses_14 51 17 rfl rfl (fun c3 => ?_) (fun c3 => ?_)
      · skip
        refine g_iload_n X dX3_countAddresses_51 52 rfl rfl ?_
        exact g_iret X hr dX3_countAddresses_52 () (by rw [← hv]; simp [caL, c2, c3]) rfl
      · skip
        refine g_aload_n X dX3_countAddresses_17 18 rfl rfl ?_
        refine g_get X FL_X3_9 dX3_countAddresses_18 21 rfl 8 rfl (v := .ref (a 5)) rfl ?_
        refine g_iload_n X dX3_countAddresses_21 22 rfl rfl ?_
        refine g_ialdN X dX3_countAddresses_22 23 rfl 9 rfl (by omega) (by decide) ?_
        refine g_iload_n X dX3_countAddresses_23 24 rfl rfl ?_
        refine g_ic_ne X dX3_countAddresses_24 45 27 rfl rfl (fun c4 => ?_) (fun c4 => ?_)
        · skip
          refine g_iinc X dX3_countAddresses_45 48 rfl (by decide) 0 rfl (nI_1 _) [(3, .int (nI (i + 1))), (2, .int z), (0, .ref (a 4)), (1, .int x)] rfl ?_
          refine g_goto X dX3_countAddresses_48 4 rfl ?_
          exact ih (i + 1) z (by omega) (by rw [← hv]; simp [caL, c2, c3, c4])
        · skip
          refine g_iload_n X dX3_countAddresses_27 28 rfl rfl ?_
          refine g_aload_n X dX3_countAddresses_28 29 rfl rfl ?_
          refine g_get X FL_X3_18 dX3_countAddresses_29 32 rfl 8 rfl (v := .ref (a 7)) rfl ?_
          refine g_iload_n X dX3_countAddresses_32 33 rfl rfl ?_
          refine g_ialdN X dX3_countAddresses_33 34 rfl 11 rfl (by omega) (by decide) ?_
          refine g_aload_n X dX3_countAddresses_34 35 rfl rfl ?_
          refine g_get X FL_X3_15 dX3_countAddresses_35 38 rfl 8 rfl (v := .ref (a 6)) rfl ?_
          refine g_iload_n X dX3_countAddresses_38 39 rfl rfl ?_
          refine g_ialdN X dX3_countAddresses_39 40 rfl 10 rfl (by omega) (by decide) ?_
          refine g_isub X dX3_countAddresses_40 41 rfl ?_
          refine g_iconst X dX3_countAddresses_41 42 rfl (v := 1) rfl ?_
          refine g_iadd X dX3_countAddresses_42 43 rfl ?_
          refine g_iadd X dX3_countAddresses_43 44 rfl ?_
          refine g_istore_n X dX3_countAddresses_44 45 rfl (by decide) [(2, .int (z + (((σ 3 i) - (σ 2 i)) + 1))), (3, .int (nI i)), (0, .ref (a 4)), (1, .int x)] rfl ?_
          refine g_iinc X dX3_countAddresses_45 48 rfl (by decide) 1 rfl (nI_1 _) [(3, .int (nI (i + 1))), (2, .int (z + (((σ 3 i) - (σ 2 i)) + 1))), (0, .ref (a 4)), (1, .int x)] rfl ?_
          refine g_goto X dX3_countAddresses_48 4 rfl ?_
          exact ih (i + 1) (z + (((σ 3 i) - (σ 2 i)) + 1)) (by omega) (by rw [← hv]; simp [caL, c2, c3, c4])
  exact Lp 5 0 0 rfl rfl

set_option maxHeartbeats 4000000 in
set_option maxRecDepth 100000 in
theorem k_X3_append (E : kE) (l : Launch) (wr : va_W) (b : Nat → Nat) (μ : Sto) (a : Nat → Nat) (σ : Sto) (g : Int32) (f : Int32) (t : Int32) (d : Int32) (h0 : ¬ σ 0 0 < 0) (h5 : ¬ 5 ≤ σ 0 0) : KM E l yX3_append cX3_append 6 (some .int) 0 0 0 0 [.ref (a 4), .int g, .int f, .int t, .int d] (WW E b μ a σ wr) (some (.int (σ 0 0))) (WW E b μ a (appd σ g f t d) wr) := by
  refine K_start (own := RX3) (by decide +kernel) rfl [(0, .ref (a 4)), (1, .int g), (2, .int f), (3, .int t), (4, .int d)] rfl (Nat.le_of_ble_eq_true rfl) (fun p e s m below meth c X hr hin => ?_)
  refine g_aload_n X dX3_append_0 1 rfl rfl ?_
  refine g_get X FL_X3_24 dX3_append_1 4 rfl 8 rfl (v := .int (σ 0 0)) rfl ?_
  refine g_istore X dX3_append_4 6 rfl (by decide) [(5, .int (σ 0 0)), (0, .ref (a 4)), (1, .int g), (2, .int f), (3, .int t), (4, .int d)] rfl ?_
  refine g_iload X dX3_append_6 8 rfl rfl ?_
  refine g_if_lt X dX3_append_8 17 11 rfl rfl (fun c1 => absurd c1 h0) (fun c1 => ?_)
  refine g_iload X dX3_append_11 13 rfl rfl ?_
  refine g_iconst X dX3_append_13 14 rfl (v := 5) rfl ?_
  refine g_ic_lt X dX3_append_14 19 17 rfl rfl (fun c2 => ?_) (fun c2 => absurd (Int32.not_le.mp h5) c2)
  refine g_aload_n X dX3_append_19 20 rfl rfl ?_
  refine g_get X FL_X3_9 dX3_append_20 23 rfl 8 rfl (v := .ref (a 5)) rfl ?_
  refine g_iload X dX3_append_23 25 rfl rfl ?_
  refine g_iload_n X dX3_append_25 26 rfl rfl ?_
  refine g_iast X dX3_append_26 27 rfl 9 rfl (vin_of (N := 5) (by decide) rfl h0 h5) (WW E b μ a (put σ 1 (upd (σ 1) (ix (σ 0 0)) g)) wr) rfl ?_
  refine g_aload_n X dX3_append_27 28 rfl rfl ?_
  refine g_get X FL_X3_15 dX3_append_28 31 rfl 8 rfl (v := .ref (a 6)) rfl ?_
  refine g_iload X dX3_append_31 33 rfl rfl ?_
  refine g_iload_n X dX3_append_33 34 rfl rfl ?_
  refine g_iast X dX3_append_34 35 rfl 10 rfl (vin_of (N := 5) (by decide) rfl h0 h5) (WW E b μ a (put (put σ 1 (upd (σ 1) (ix (σ 0 0)) g)) 2 (upd (σ 2) (ix (σ 0 0)) f)) wr) rfl ?_
  refine g_aload_n X dX3_append_35 36 rfl rfl ?_
  refine g_get X FL_X3_18 dX3_append_36 39 rfl 8 rfl (v := .ref (a 7)) rfl ?_
  refine g_iload X dX3_append_39 41 rfl rfl ?_
  refine g_iload_n X dX3_append_41 42 rfl rfl ?_
  refine g_iast X dX3_append_42 43 rfl 11 rfl (vin_of (N := 5) (by decide) rfl h0 h5) (WW E b μ a (put (put (put σ 1 (upd (σ 1) (ix (σ 0 0)) g)) 2 (upd (σ 2) (ix (σ 0 0)) f)) 3 (upd (σ 3) (ix (σ 0 0)) t)) wr) rfl ?_
  refine g_aload_n X dX3_append_43 44 rfl rfl ?_
  refine g_get X FL_X3_21 dX3_append_44 47 rfl 8 rfl (v := .ref (a 8)) rfl ?_
  refine g_iload X dX3_append_47 49 rfl rfl ?_
  refine g_iload X dX3_append_49 51 rfl rfl ?_
  refine g_iast X dX3_append_51 52 rfl 12 rfl (vin_of (N := 5) (by decide) rfl h0 h5) (WW E b μ a (put (put (put (put σ 1 (upd (σ 1) (ix (σ 0 0)) g)) 2 (upd (σ 2) (ix (σ 0 0)) f)) 3 (upd (σ 3) (ix (σ 0 0)) t)) 4 (upd (σ 4) (ix (σ 0 0)) d)) wr) rfl ?_
  refine g_aload_n X dX3_append_52 53 rfl rfl ?_
  refine g_iload X dX3_append_53 55 rfl rfl ?_
  refine g_iconst X dX3_append_55 56 rfl (v := 1) rfl ?_
  refine g_iadd X dX3_append_56 57 rfl ?_
  refine g_put X FL_X3_24 fk_X3 dX3_append_57 60 rfl rfl 8 rfl rfl rfl (Nat.le_of_ble_eq_true rfl) (WW E b μ a (put (put (put (put (put σ 1 (upd (σ 1) (ix (σ 0 0)) g)) 2 (upd (σ 2) (ix (σ 0 0)) f)) 3 (upd (σ 3) (ix (σ 0 0)) t)) 4 (upd (σ 4) (ix (σ 0 0)) d)) 0 (sc ((σ 0 0) + 1))) wr) rfl ?_
  refine g_iload X dX3_append_60 62 rfl rfl ?_
  exact g_iret X hr dX3_append_62 () rfl rfl

set_option maxHeartbeats 4000000 in
set_option maxRecDepth 100000 in
theorem k_X3_drop (E : kE) (l : Launch) (wr : va_W) (b : Nat → Nat) (μ : Sto) (a : Nat → Nat) (σ : Sto) (u v : Nat) (hu : u < v) (hv5 : v ≤ 5) (hc : σ 0 0 = nI v) : KM E l yX3_drop cX3_drop 3 (some .int) 1 21 0 0 [.ref (a 4), .int (nI u)] (WW E b μ a σ wr) (some (.int (nI (v - 1)))) (WW E b μ a (put (drp σ u (v - 1)) 0 (sc (nI (v - 1)))) wr) := by
  refine K_start (own := RX3) (by decide +kernel) rfl [(0, .ref (a 4)), (1, .int (nI u))] rfl (Nat.le_of_ble_eq_true rfl) (fun p e s m below meth c X hr hin => ?_)
  refine g_aload_n X dX3_drop_0 1 rfl rfl ?_
  refine g_iload_n X dX3_drop_1 2 rfl rfl ?_
  refine c_V X Lk_X3_32 (k_X3_isPool E l wr b μ a σ (nI u)) dX3_drop_2 rfl 8 rfl rfl rfl (Nat.le_of_ble_eq_true rfl) ⟨(Nat.le_of_ble_eq_true rfl), (Nat.le_of_ble_eq_true rfl)⟩ ⟨(Nat.le_of_ble_eq_true rfl), (Nat.le_of_ble_eq_true rfl)⟩ 5 rfl [.int (bi (isP σ (nI u)))] rfl ?_
  refine g_ifb_ne X dX3_drop_5 13 8 rfl rfl (fun c1 => ?_) (fun c1 => absurd c1 (by rw [isP_n hu hv5 hc]; decide))
  refine g_iload_n X dX3_drop_13 14 rfl rfl ?_
  refine g_istore_n X dX3_drop_14 15 rfl (by decide) [(2, .int (nI u)), (0, .ref (a 4)), (1, .int (nI u))] rfl ?_
  have Lp : ∀ (r i : Nat), (i + r = v - 1) → (u ≤ i) →  G E (va_A (WW E b μ a σ wr) s.heap.size) 3 p l e ({ frames := 1, cells := 0, slots := 0, locals := 21 } : Room) s m (([.ref (a 4), .int (nI u)] : List Value).toArray) below meth c (MQ below (KQ E (WW E b μ a σ wr) s.heap.size (fun _ : Unit => (some (.int (nI (v - 1))))) (fun _ => WW E b μ a (put (drp σ u (v - 1)) 0 (sc (nI (v - 1)))) wr)) (([.ref (a 4), .int (nI u)] : List Value).toArray) s 0 0 (va_A (WW E b μ a σ wr) s.heap.size)) 0 0 (WW E b μ a (drp σ u i) wr) 15 [(2, .int (nI i)), (0, .ref (a 4)), (1, .int (nI u))] [] := by
    intro r
    induction r with
    | zero =>
      intro i hi hui
      have hcc : drp σ u i 0 0 = nI v := hc
      have hiv : i = v - 1 := by omega
      refine g_iload_n X dX3_drop_15 16 rfl rfl ?_
      refine g_iconst X dX3_drop_16 17 rfl (v := 1) rfl ?_
      refine g_iadd X dX3_drop_17 18 rfl ?_
      rw [nI_1]
      refine g_iconst X dX3_drop_18 19 rfl (v := 5) rfl ?_
      refine g_ic_ge X dX3_drop_19 94 22 rfl rfl (fun c9 => ?_) (fun c9 => ?_)
      · skip
        refine g_aload_n X dX3_drop_94 95 rfl rfl ?_
        refine g_dup X dX3_drop_95 96 rfl rfl ?_
        refine g_get X FL_X3_24 dX3_drop_96 99 rfl 8 rfl (v := .int ((drp σ u i) 0 0)) rfl ?_
        refine g_iconst X dX3_drop_99 100 rfl (v := 1) rfl ?_
        refine g_isub X dX3_drop_100 101 rfl ?_
        refine g_put X FL_X3_24 fk_X3 dX3_drop_101 104 rfl rfl 8 rfl rfl rfl (Nat.le_of_ble_eq_true rfl) (WW E b μ a (put (drp σ u i) 0 (sc (((drp σ u i) 0 0) - 1))) wr) rfl ?_
        refine g_aload_n X dX3_drop_104 105 rfl rfl ?_
        refine g_get X FL_X3_24 dX3_drop_105 108 rfl 8 rfl (v := .int (((drp σ u i) 0 0) - 1)) rfl ?_
        exact g_iret X hr dX3_drop_108 () (by rw [drop_e hc (by omega)]) (by rw [hiv, drop_w hc (by omega)])
      · skip
        refine g_iload_n X dX3_drop_22 23 rfl rfl ?_
        refine g_iconst X dX3_drop_23 24 rfl (v := 1) rfl ?_
        refine g_iadd X dX3_drop_24 25 rfl ?_
        rw [nI_1]
        refine g_aload_n X dX3_drop_25 26 rfl rfl ?_
        refine g_get X FL_X3_24 dX3_drop_26 29 rfl 8 rfl (v := .int ((drp σ u i) 0 0)) rfl ?_
        refine g_ic_ge X dX3_drop_29 94 32 rfl rfl (fun c3 => ?_) (fun c3 => absurd (by rw [hcc]; exact nI_le (by omega) (by omega)) c3)
        refine g_aload_n X dX3_drop_94 95 rfl rfl ?_
        refine g_dup X dX3_drop_95 96 rfl rfl ?_
        refine g_get X FL_X3_24 dX3_drop_96 99 rfl 8 rfl (v := .int ((drp σ u i) 0 0)) rfl ?_
        refine g_iconst X dX3_drop_99 100 rfl (v := 1) rfl ?_
        refine g_isub X dX3_drop_100 101 rfl ?_
        refine g_put X FL_X3_24 fk_X3 dX3_drop_101 104 rfl rfl 8 rfl rfl rfl (Nat.le_of_ble_eq_true rfl) (WW E b μ a (put (drp σ u i) 0 (sc (((drp σ u i) 0 0) - 1))) wr) rfl ?_
        refine g_aload_n X dX3_drop_104 105 rfl rfl ?_
        refine g_get X FL_X3_24 dX3_drop_105 108 rfl 8 rfl (v := .int (((drp σ u i) 0 0) - 1)) rfl ?_
        exact g_iret X hr dX3_drop_108 () (by rw [drop_e hc (by omega)]) (by rw [hiv, drop_w hc (by omega)])
    | succ r ih =>
      intro i hi hui
      have hcc : drp σ u i 0 0 = nI v := hc
      refine g_iload_n X dX3_drop_15 16 rfl rfl ?_
      refine g_iconst X dX3_drop_16 17 rfl (v := 1) rfl ?_
      refine g_iadd X dX3_drop_17 18 rfl ?_
      rw [nI_1]
      refine g_iconst X dX3_drop_18 19 rfl (v := 5) rfl ?_
      refine g_ic_ge X dX3_drop_19 94 22 rfl rfl (fun c4 => absurd c4 (nI_ge (b := 5) (by omega) (by decide))) (fun c4 => ?_)
      refine g_iload_n X dX3_drop_22 23 rfl rfl ?_
      refine g_iconst X dX3_drop_23 24 rfl (v := 1) rfl ?_
      refine g_iadd X dX3_drop_24 25 rfl ?_
      rw [nI_1]
      refine g_aload_n X dX3_drop_25 26 rfl rfl ?_
      refine g_get X FL_X3_24 dX3_drop_26 29 rfl 8 rfl (v := .int ((drp σ u i) 0 0)) rfl ?_
      refine g_ic_ge X dX3_drop_29 94 32 rfl rfl (fun c5 => absurd c5 (by rw [hcc]; exact nI_ge (by omega) (by omega))) (fun c5 => ?_)
      refine g_aload_n X dX3_drop_32 33 rfl rfl ?_
      refine g_get X FL_X3_9 dX3_drop_33 36 rfl 8 rfl (v := .ref (a 5)) rfl ?_
      refine g_iload_n X dX3_drop_36 37 rfl rfl ?_
      refine g_aload_n X dX3_drop_37 38 rfl rfl ?_
      refine g_get X FL_X3_9 dX3_drop_38 41 rfl 8 rfl (v := .ref (a 5)) rfl ?_
      refine g_iload_n X dX3_drop_41 42 rfl rfl ?_
      refine g_iconst X dX3_drop_42 43 rfl (v := 1) rfl ?_
      refine g_iadd X dX3_drop_43 44 rfl ?_
      rw [nI_1]
      refine g_ialdN X dX3_drop_44 45 rfl 9 rfl (by omega) (by decide) ?_
      refine g_iastN X dX3_drop_45 46 rfl 9 rfl (by omega) (by decide) (WW E b μ a (put (drp σ u i) 1 (upd ((drp σ u i) 1) i (((drp σ u i) 1) (i + 1)))) wr) rfl ?_
      refine g_aload_n X dX3_drop_46 47 rfl rfl ?_
      refine g_get X FL_X3_15 dX3_drop_47 50 rfl 8 rfl (v := .ref (a 6)) rfl ?_
      refine g_iload_n X dX3_drop_50 51 rfl rfl ?_
      refine g_aload_n X dX3_drop_51 52 rfl rfl ?_
      refine g_get X FL_X3_15 dX3_drop_52 55 rfl 8 rfl (v := .ref (a 6)) rfl ?_
      refine g_iload_n X dX3_drop_55 56 rfl rfl ?_
      refine g_iconst X dX3_drop_56 57 rfl (v := 1) rfl ?_
      refine g_iadd X dX3_drop_57 58 rfl ?_
      rw [nI_1]
      refine g_ialdN X dX3_drop_58 59 rfl 10 rfl (by omega) (by decide) ?_
      refine g_iastN X dX3_drop_59 60 rfl 10 rfl (by omega) (by decide) (WW E b μ a (put (put (drp σ u i) 1 (upd ((drp σ u i) 1) i (((drp σ u i) 1) (i + 1)))) 2 (upd ((drp σ u i) 2) i (((drp σ u i) 2) (i + 1)))) wr) rfl ?_
      refine g_aload_n X dX3_drop_60 61 rfl rfl ?_
      refine g_get X FL_X3_18 dX3_drop_61 64 rfl 8 rfl (v := .ref (a 7)) rfl ?_
      refine g_iload_n X dX3_drop_64 65 rfl rfl ?_
      refine g_aload_n X dX3_drop_65 66 rfl rfl ?_
      refine g_get X FL_X3_18 dX3_drop_66 69 rfl 8 rfl (v := .ref (a 7)) rfl ?_
      refine g_iload_n X dX3_drop_69 70 rfl rfl ?_
      refine g_iconst X dX3_drop_70 71 rfl (v := 1) rfl ?_
      refine g_iadd X dX3_drop_71 72 rfl ?_
      rw [nI_1]
      refine g_ialdN X dX3_drop_72 73 rfl 11 rfl (by omega) (by decide) ?_
      refine g_iastN X dX3_drop_73 74 rfl 11 rfl (by omega) (by decide) (WW E b μ a (put (put (put (drp σ u i) 1 (upd ((drp σ u i) 1) i (((drp σ u i) 1) (i + 1)))) 2 (upd ((drp σ u i) 2) i (((drp σ u i) 2) (i + 1)))) 3 (upd ((drp σ u i) 3) i (((drp σ u i) 3) (i + 1)))) wr) rfl ?_
      refine g_aload_n X dX3_drop_74 75 rfl rfl ?_
      refine g_get X FL_X3_21 dX3_drop_75 78 rfl 8 rfl (v := .ref (a 8)) rfl ?_
      refine g_iload_n X dX3_drop_78 79 rfl rfl ?_
      refine g_aload_n X dX3_drop_79 80 rfl rfl ?_
      refine g_get X FL_X3_21 dX3_drop_80 83 rfl 8 rfl (v := .ref (a 8)) rfl ?_
      refine g_iload_n X dX3_drop_83 84 rfl rfl ?_
      refine g_iconst X dX3_drop_84 85 rfl (v := 1) rfl ?_
      refine g_iadd X dX3_drop_85 86 rfl ?_
      rw [nI_1]
      refine g_ialdN X dX3_drop_86 87 rfl 12 rfl (by omega) (by decide) ?_
      refine g_iastN X dX3_drop_87 88 rfl 12 rfl (by omega) (by decide) (WW E b μ a (put (put (put (put (drp σ u i) 1 (upd ((drp σ u i) 1) i (((drp σ u i) 1) (i + 1)))) 2 (upd ((drp σ u i) 2) i (((drp σ u i) 2) (i + 1)))) 3 (upd ((drp σ u i) 3) i (((drp σ u i) 3) (i + 1)))) 4 (upd ((drp σ u i) 4) i (((drp σ u i) 4) (i + 1)))) wr) rfl ?_
      refine g_iinc X dX3_drop_88 91 rfl (by decide) 0 rfl (nI_1 _) [(2, .int (nI (i + 1))), (0, .ref (a 4)), (1, .int (nI u))] rfl ?_
      refine g_goto X dX3_drop_91 15 rfl ?_
      rw [drp_s σ hui]
      exact ih (i + 1) (by omega) (by omega)
  have L0 := Lp (v - 1 - u) u (by omega) (Nat.le_refl u)
  rw [drp_0] at L0
  exact L0

set_option maxHeartbeats 4000000 in
set_option maxRecDepth 100000 in
theorem k_X5_groupOfClient (E : kE) (l : Launch) (wr : va_W) (b : Nat → Nat) (μ : Sto) (a : Nat → Nat) (σ : Sto) (x : Int32) : KM E l yX5_groupOfClient cX5_groupOfClient 2 (some .int) 2 44 0 0 [.ref (a 3), .int x] (WW E b μ a σ wr) (some (.int (gOC σ x))) (WW E b μ a σ wr) := by
  refine K_start (own := RX5) (by decide +kernel) rfl [(0, .ref (a 3)), (1, .int x)] rfl (Nat.le_of_ble_eq_true rfl) (fun p e s m below meth c X hr hin => ?_)
  refine g_iload_n X dX5_groupOfClient_0 1 rfl rfl ?_
  refine c_N X Lk_X5_71 (k_X6_isClient E l wr b μ a σ x) dX5_groupOfClient_1 rfl rfl (Nat.le_of_ble_eq_true rfl) ⟨(Nat.le_of_ble_eq_true rfl), (Nat.le_of_ble_eq_true rfl)⟩ ⟨(Nat.le_of_ble_eq_true rfl), (Nat.le_of_ble_eq_true rfl)⟩ 4 rfl [.int (bi (inC x))] rfl ?_
  refine g_ifb_eq X dX5_groupOfClient_4 26 7 rfl rfl (fun c1 => ?_) (fun c1 => ?_)
  · skip
    refine g_iconst X dX5_groupOfClient_26 27 rfl (v := -1) rfl ?_
    exact g_iret X hr dX5_groupOfClient_27 () (by simp [gOC, c1]) rfl
  · skip
    refine g_aload_n X dX5_groupOfClient_7 8 rfl rfl ?_
    refine g_get X FL_X5_12 dX5_groupOfClient_8 11 rfl 7 rfl (v := .ref (a 4)) rfl ?_
    refine g_aload_n X dX5_groupOfClient_11 12 rfl rfl ?_
    refine g_get X FL_X5_28 dX5_groupOfClient_12 15 rfl 7 rfl (v := .ref (a 16)) rfl ?_
    refine g_get X FL_X5_74 dX5_groupOfClient_15 18 rfl 20 rfl (v := .ref (a 18)) rfl ?_
    refine g_iload_n X dX5_groupOfClient_18 19 rfl rfl ?_
    refine g_iald X dX5_groupOfClient_19 20 rfl 22 rfl (by first | exact vA ‹_› | exact vC ‹_› | exact vG ‹_› | assumption | exact vp_in_nI (by omega) (by omega)) ?_
    refine c_V X Lk_X5_78 (k_X3_groupAt E l wr b μ a σ (σ 12 (ix x))) dX5_groupOfClient_20 rfl 8 rfl rfl rfl (Nat.le_of_ble_eq_true rfl) ⟨(Nat.le_of_ble_eq_true rfl), (Nat.le_of_ble_eq_true rfl)⟩ ⟨(Nat.le_of_ble_eq_true rfl), (Nat.le_of_ble_eq_true rfl)⟩ 23 rfl [.int (grpAt σ (σ 12 (ix x)))] rfl ?_
    refine g_goto X dX5_groupOfClient_23 27 rfl ?_
    exact g_iret X hr dX5_groupOfClient_27 () (by simp [gOC, c1]) rfl

set_option maxHeartbeats 4000000 in
set_option maxRecDepth 100000 in
theorem k_X5_directUpFor (E : kE) (l : Launch) (wr : va_W) (b : Nat → Nat) (μ : Sto) (a : Nat → Nat) (σ : Sto) (x : Int32) : KM E l yX5_directUpFor cX5_directUpFor 3 (some .boolean) 3 65 0 0 [.ref (a 3), .int x] (WW E b μ a σ wr) (some (.int (bi (dUp σ x)))) (WW E b μ a σ wr) := by
  refine K_start (own := RX5) (by decide +kernel) rfl [(0, .ref (a 3)), (1, .int x)] rfl (Nat.le_of_ble_eq_true rfl) (fun p e s m below meth c X hr hin => ?_)
  refine g_aload_n X dX5_directUpFor_0 1 rfl rfl ?_
  refine g_iload_n X dX5_directUpFor_1 2 rfl rfl ?_
  refine c_V X Lk_X5_56 (k_X5_groupOfClient E l wr b μ a σ x) dX5_directUpFor_2 rfl 7 rfl rfl rfl (Nat.le_of_ble_eq_true rfl) ⟨(Nat.le_of_ble_eq_true rfl), (Nat.le_of_ble_eq_true rfl)⟩ ⟨(Nat.le_of_ble_eq_true rfl), (Nat.le_of_ble_eq_true rfl)⟩ 5 rfl [.int (gOC σ x)] rfl ?_
  refine g_istore_n X dX5_directUpFor_5 6 rfl (by decide) [(2, .int (gOC σ x)), (0, .ref (a 3)), (1, .int x)] rfl ?_
  refine g_iload_n X dX5_directUpFor_6 7 rfl rfl ?_
  refine c_N X Lk_X5_60 (k_X6_isGroup E l wr b μ a σ (gOC σ x)) dX5_directUpFor_7 rfl rfl (Nat.le_of_ble_eq_true rfl) ⟨(Nat.le_of_ble_eq_true rfl), (Nat.le_of_ble_eq_true rfl)⟩ ⟨(Nat.le_of_ble_eq_true rfl), (Nat.le_of_ble_eq_true rfl)⟩ 10 rfl [.int (bi (inG (gOC σ x)))] rfl ?_
  refine g_ifb_eq X dX5_directUpFor_10 29 13 rfl rfl (fun c1 => ?_) (fun c1 => ?_)
  · skip
    refine g_iconst X dX5_directUpFor_29 30 rfl (v := 0) rfl ?_
    exact g_zret X hr dX5_directUpFor_30 false rfl () (by simp [dUp, bi, c1]) rfl
  · skip
    refine g_aload_n X dX5_directUpFor_13 14 rfl rfl ?_
    refine g_get X FL_X5_35 dX5_directUpFor_14 17 rfl 7 rfl (v := .ref (a 22)) rfl ?_
    refine g_get X FL_X5_64 dX5_directUpFor_17 20 rfl 26 rfl (v := .ref (a 23)) rfl ?_
    refine g_iload_n X dX5_directUpFor_20 21 rfl rfl ?_
    refine g_zald X dX5_directUpFor_21 22 rfl 27 rfl (by first | exact vA ‹_› | exact vC ‹_› | exact vG ‹_› | assumption | exact vp_in_nI (by omega) (by omega)) ?_
    refine g_if_eq X dX5_directUpFor_22 29 25 rfl rfl (fun c2 => ?_) (fun c2 => ?_)
    · skip
      refine g_iconst X dX5_directUpFor_29 30 rfl (v := 0) rfl ?_
      exact g_zret X hr dX5_directUpFor_30 false rfl () (by simp [dUp, bi, c1, c2]) rfl
    · skip
      refine g_iconst X dX5_directUpFor_25 26 rfl (v := 1) rfl ?_
      refine g_goto X dX5_directUpFor_26 30 rfl ?_
      exact g_zret X hr dX5_directUpFor_30 true rfl () (by simp [dUp, bi, c1, c2]) rfl

set_option maxHeartbeats 4000000 in
set_option maxRecDepth 100000 in
theorem k_X5_relayUpFor (E : kE) (l : Launch) (wr : va_W) (b : Nat → Nat) (μ : Sto) (a : Nat → Nat) (σ : Sto) (x : Int32) : KM E l yX5_relayUpFor cX5_relayUpFor 3 (some .boolean) 3 65 0 0 [.ref (a 3), .int x] (WW E b μ a σ wr) (some (.int (bi (rUp σ x)))) (WW E b μ a σ wr) := by
  refine K_start (own := RX5) (by decide +kernel) rfl [(0, .ref (a 3)), (1, .int x)] rfl (Nat.le_of_ble_eq_true rfl) (fun p e s m below meth c X hr hin => ?_)
  refine g_aload_n X dX5_relayUpFor_0 1 rfl rfl ?_
  refine g_iload_n X dX5_relayUpFor_1 2 rfl rfl ?_
  refine c_V X Lk_X5_56 (k_X5_groupOfClient E l wr b μ a σ x) dX5_relayUpFor_2 rfl 7 rfl rfl rfl (Nat.le_of_ble_eq_true rfl) ⟨(Nat.le_of_ble_eq_true rfl), (Nat.le_of_ble_eq_true rfl)⟩ ⟨(Nat.le_of_ble_eq_true rfl), (Nat.le_of_ble_eq_true rfl)⟩ 5 rfl [.int (gOC σ x)] rfl ?_
  refine g_istore_n X dX5_relayUpFor_5 6 rfl (by decide) [(2, .int (gOC σ x)), (0, .ref (a 3)), (1, .int x)] rfl ?_
  refine g_iload_n X dX5_relayUpFor_6 7 rfl rfl ?_
  refine c_N X Lk_X5_60 (k_X6_isGroup E l wr b μ a σ (gOC σ x)) dX5_relayUpFor_7 rfl rfl (Nat.le_of_ble_eq_true rfl) ⟨(Nat.le_of_ble_eq_true rfl), (Nat.le_of_ble_eq_true rfl)⟩ ⟨(Nat.le_of_ble_eq_true rfl), (Nat.le_of_ble_eq_true rfl)⟩ 10 rfl [.int (bi (inG (gOC σ x)))] rfl ?_
  refine g_ifb_eq X dX5_relayUpFor_10 29 13 rfl rfl (fun c1 => ?_) (fun c1 => ?_)
  · skip
    refine g_iconst X dX5_relayUpFor_29 30 rfl (v := 0) rfl ?_
    exact g_zret X hr dX5_relayUpFor_30 false rfl () (by simp [rUp, bi, c1]) rfl
  · skip
    refine g_aload_n X dX5_relayUpFor_13 14 rfl rfl ?_
    refine g_get X FL_X5_35 dX5_relayUpFor_14 17 rfl 7 rfl (v := .ref (a 22)) rfl ?_
    refine g_get X FL_X5_68 dX5_relayUpFor_17 20 rfl 26 rfl (v := .ref (a 24)) rfl ?_
    refine g_iload_n X dX5_relayUpFor_20 21 rfl rfl ?_
    refine g_zald X dX5_relayUpFor_21 22 rfl 28 rfl (by first | exact vA ‹_› | exact vC ‹_› | exact vG ‹_› | assumption | exact vp_in_nI (by omega) (by omega)) ?_
    refine g_if_eq X dX5_relayUpFor_22 29 25 rfl rfl (fun c2 => ?_) (fun c2 => ?_)
    · skip
      refine g_iconst X dX5_relayUpFor_29 30 rfl (v := 0) rfl ?_
      exact g_zret X hr dX5_relayUpFor_30 false rfl () (by simp [rUp, bi, c1, c2]) rfl
    · skip
      refine g_iconst X dX5_relayUpFor_25 26 rfl (v := 1) rfl ?_
      refine g_goto X dX5_relayUpFor_26 30 rfl ?_
      exact g_zret X hr dX5_relayUpFor_30 true rfl () (by simp [rUp, bi, c1, c2]) rfl

set_option maxHeartbeats 4000000 in
set_option maxRecDepth 100000 in
theorem k_X5_leaseEnd (E : kE) (l : Launch) (wr : va_W) (b : Nat → Nat) (μ : Sto) (a : Nat → Nat) (σ : Sto) (x : Int32) : KM E l yX5_leaseEnd cX5_leaseEnd 3 (some .int) 1 20 0 0 [.ref (a 3), .int x] (WW E b μ a σ wr) (some (.int (lEnd σ x))) (WW E b μ a σ wr) := by
  refine K_start (own := RX5) (by decide +kernel) rfl [(0, .ref (a 3)), (1, .int x)] rfl (Nat.le_of_ble_eq_true rfl) (fun p e s m below meth c X hr hin => ?_)
  refine g_iload_n X dX5_leaseEnd_0 1 rfl rfl ?_
  refine c_N X Lk_X5_71 (k_X6_isClient E l wr b μ a σ x) dX5_leaseEnd_1 rfl rfl (Nat.le_of_ble_eq_true rfl) ⟨(Nat.le_of_ble_eq_true rfl), (Nat.le_of_ble_eq_true rfl)⟩ ⟨(Nat.le_of_ble_eq_true rfl), (Nat.le_of_ble_eq_true rfl)⟩ 4 rfl [.int (bi (inC x))] rfl ?_
  refine g_ifb_eq X dX5_leaseEnd_4 19 7 rfl rfl (fun c1 => ?_) (fun c1 => ?_)
  · skip
    refine g_iconst X dX5_leaseEnd_19 20 rfl (v := -1) rfl ?_
    refine g_istore_n X dX5_leaseEnd_20 21 rfl (by decide) [(2, .int (-1)), (0, .ref (a 3)), (1, .int x)] rfl ?_
    refine g_iload_n X dX5_leaseEnd_21 22 rfl rfl ?_
    refine c_N X Lk_X5_81 (k_X6_isAddress E l wr b μ a σ (-1)) dX5_leaseEnd_22 rfl rfl (Nat.le_of_ble_eq_true rfl) ⟨(Nat.le_of_ble_eq_true rfl), (Nat.le_of_ble_eq_true rfl)⟩ ⟨(Nat.le_of_ble_eq_true rfl), (Nat.le_of_ble_eq_true rfl)⟩ 25 rfl [.int (bi (inA (-1)))] rfl ?_
    refine g_ifb_eq X dX5_leaseEnd_25 40 28 rfl rfl (fun c2 => ?_) (fun c2 => absurd c2 (by decide))
    refine g_iconst X dX5_leaseEnd_40 41 rfl (v := -1) rfl ?_
    exact g_iret X hr dX5_leaseEnd_41 () (by simp [lEnd, aOf, c1, c2]) rfl
  · skip
    refine g_aload_n X dX5_leaseEnd_7 8 rfl rfl ?_
    refine g_get X FL_X5_28 dX5_leaseEnd_8 11 rfl 7 rfl (v := .ref (a 16)) rfl ?_
    refine g_get X FL_X5_74 dX5_leaseEnd_11 14 rfl 20 rfl (v := .ref (a 18)) rfl ?_
    refine g_iload_n X dX5_leaseEnd_14 15 rfl rfl ?_
    refine g_iald X dX5_leaseEnd_15 16 rfl 22 rfl (by first | exact vA ‹_› | exact vC ‹_› | exact vG ‹_› | assumption | exact vp_in_nI (by omega) (by omega)) ?_
    refine g_goto X dX5_leaseEnd_16 20 rfl ?_
    refine g_istore_n X dX5_leaseEnd_20 21 rfl (by decide) [(2, .int (σ 12 (ix x))), (0, .ref (a 3)), (1, .int x)] rfl ?_
    refine g_iload_n X dX5_leaseEnd_21 22 rfl rfl ?_
    refine c_N X Lk_X5_81 (k_X6_isAddress E l wr b μ a σ (σ 12 (ix x))) dX5_leaseEnd_22 rfl rfl (Nat.le_of_ble_eq_true rfl) ⟨(Nat.le_of_ble_eq_true rfl), (Nat.le_of_ble_eq_true rfl)⟩ ⟨(Nat.le_of_ble_eq_true rfl), (Nat.le_of_ble_eq_true rfl)⟩ 25 rfl [.int (bi (inA (σ 12 (ix x))))] rfl ?_
    refine g_ifb_eq X dX5_leaseEnd_25 40 28 rfl rfl (fun c3 => ?_) (fun c3 => ?_)
    · skip
      refine g_iconst X dX5_leaseEnd_40 41 rfl (v := -1) rfl ?_
      exact g_iret X hr dX5_leaseEnd_41 () (by simp [lEnd, aOf, c1, c3]) rfl
    · skip
      refine g_aload_n X dX5_leaseEnd_28 29 rfl rfl ?_
      refine g_get X FL_X5_21 dX5_leaseEnd_29 32 rfl 7 rfl (v := .ref (a 9)) rfl ?_
      refine g_get X FL_X5_84 dX5_leaseEnd_32 35 rfl 13 rfl (v := .ref (a 14)) rfl ?_
      refine g_iload_n X dX5_leaseEnd_35 36 rfl rfl ?_
      refine g_iald X dX5_leaseEnd_36 37 rfl 18 rfl (by first | exact vA ‹_› | exact vC ‹_› | exact vG ‹_› | assumption | exact vp_in_nI (by omega) (by omega)) ?_
      refine g_goto X dX5_leaseEnd_37 41 rfl ?_
      exact g_iret X hr dX5_leaseEnd_41 () (by simp [lEnd, aOf, c1, c3]) rfl

set_option maxHeartbeats 4000000 in
set_option maxRecDepth 100000 in
theorem k_X5_countInGroup (E : kE) (l : Launch) (wr : va_W) (b : Nat → Nat) (μ : Sto) (a : Nat → Nat) (σ : Sto) (g : Int32) (v : Int32) : KM E l yX5_countInGroup cX5_countInGroup 5 (some .int) 2 46 0 0 [.ref (a 3), .int g, .int v] (WW E b μ a σ wr) (some (.int (gcL σ g v 0 5 0))) (WW E b μ a σ wr) := by
  refine K_start (own := RX5) (by decide +kernel) rfl [(0, .ref (a 3)), (1, .int g), (2, .int v)] rfl (Nat.le_of_ble_eq_true rfl) (fun p e s m below meth c X hr hin => ?_)
  refine g_iconst X dX5_countInGroup_0 1 rfl (v := 0) rfl ?_
  refine g_istore_n X dX5_countInGroup_1 2 rfl (by decide) [(3, .int 0), (0, .ref (a 3)), (1, .int g), (2, .int v)] rfl ?_
  refine g_iconst X dX5_countInGroup_2 3 rfl (v := 0) rfl ?_
  refine g_istore X dX5_countInGroup_3 5 rfl (by decide) [(4, .int 0), (3, .int 0), (0, .ref (a 3)), (1, .int g), (2, .int v)] rfl ?_
  have Lp : ∀ (r i : Nat) (z : Int32), (i + r = 5) → (gcL σ g v i r z = gcL σ g v 0 5 0) →  G E (va_A (WW E b μ a σ wr) s.heap.size) 5 p l e ({ frames := 2, cells := 0, slots := 0, locals := 46 } : Room) s m (([.ref (a 3), .int g, .int v] : List Value).toArray) below meth c (MQ below (KQ E (WW E b μ a σ wr) s.heap.size (fun _ : Unit => (some (.int (gcL σ g v 0 5 0)))) (fun _ => WW E b μ a σ wr)) (([.ref (a 3), .int g, .int v] : List Value).toArray) s 0 0 (va_A (WW E b μ a σ wr) s.heap.size)) 0 0 (WW E b μ a σ wr) 5 [(4, .int (nI i)), (3, .int z), (0, .ref (a 3)), (1, .int g), (2, .int v)] [] := by
    intro r
    induction r with
    | zero =>
      intro i z hi hv
      obtain rfl : i = 5 := by omega
      refine g_iload X dX5_countInGroup_5 7 rfl rfl ?_
      refine g_iconst X dX5_countInGroup_7 8 rfl (v := 5) rfl ?_
      refine g_ic_ge X dX5_countInGroup_8 74 11 rfl rfl (fun c1 => ?_) (fun c1 => absurd (by decide) c1)
      refine g_iload_n X dX5_countInGroup_74 75 rfl rfl ?_
      exact g_iret X hr dX5_countInGroup_75 () (by rw [← hv]; rfl) rfl
    | succ r ih =>
      intro i z hi hv
      refine g_iload X dX5_countInGroup_5 7 rfl rfl ?_
      refine g_iconst X dX5_countInGroup_7 8 rfl (v := 5) rfl ?_
      refine g_ic_ge X dX5_countInGroup_8 74 11 rfl rfl (fun c2 => absurd c2 (nI_ge (b := 5) (by omega) (by decide))) (fun c2 => ?_)
      refine g_iload X dX5_countInGroup_11 13 rfl rfl ?_
      refine g_aload_n X dX5_countInGroup_13 14 rfl rfl ?_
      refine g_get X FL_X5_12 dX5_countInGroup_14 17 rfl 7 rfl (v := .ref (a 4)) rfl ?_
      refine g_get X FL_X5_87 dX5_countInGroup_17 20 rfl 8 rfl (v := .int (σ 0 0)) rfl ?_
      refine g_ic_ge X dX5_countInGroup_20 74 23 rfl rfl (fun c3 => ?_) (fun c3 => ?_)
      · skip
        refine g_iload_n X dX5_countInGroup_74 75 rfl rfl ?_
        exact g_iret X hr dX5_countInGroup_75 () (by rw [← hv]; simp [gcL, c2, c3]) rfl
      · skip
        refine g_aload_n X dX5_countInGroup_23 24 rfl rfl ?_
        refine g_get X FL_X5_12 dX5_countInGroup_24 27 rfl 7 rfl (v := .ref (a 4)) rfl ?_
        refine g_get X FL_X5_91 dX5_countInGroup_27 30 rfl 8 rfl (v := .ref (a 5)) rfl ?_
        refine g_iload X dX5_countInGroup_30 32 rfl rfl ?_
        refine g_ialdN X dX5_countInGroup_32 33 rfl 9 rfl (by omega) (by decide) ?_
        refine g_iload_n X dX5_countInGroup_33 34 rfl rfl ?_
        refine g_ic_ne X dX5_countInGroup_34 68 37 rfl rfl (fun c4 => ?_) (fun c4 => ?_)
        · skip
          refine g_iinc X dX5_countInGroup_68 71 rfl (by decide) 0 rfl (nI_1 _) [(4, .int (nI (i + 1))), (3, .int z), (0, .ref (a 3)), (1, .int g), (2, .int v)] rfl ?_
          refine g_goto X dX5_countInGroup_71 5 rfl ?_
          exact ih (i + 1) z (by omega) (by rw [← hv]; simp [gcL, c2, c3, c4])
        · skip
          refine g_iload_n X dX5_countInGroup_37 38 rfl rfl ?_
          refine g_aload_n X dX5_countInGroup_38 39 rfl rfl ?_
          refine g_get X FL_X5_21 dX5_countInGroup_39 42 rfl 7 rfl (v := .ref (a 9)) rfl ?_
          refine g_aload_n X dX5_countInGroup_42 43 rfl rfl ?_
          refine g_get X FL_X5_12 dX5_countInGroup_43 46 rfl 7 rfl (v := .ref (a 4)) rfl ?_
          refine g_get X FL_X5_94 dX5_countInGroup_46 49 rfl 8 rfl (v := .ref (a 6)) rfl ?_
          refine g_iload X dX5_countInGroup_49 51 rfl rfl ?_
          refine g_ialdN X dX5_countInGroup_51 52 rfl 10 rfl (by omega) (by decide) ?_
          refine g_aload_n X dX5_countInGroup_52 53 rfl rfl ?_
          refine g_get X FL_X5_12 dX5_countInGroup_53 56 rfl 7 rfl (v := .ref (a 4)) rfl ?_
          refine g_get X FL_X5_97 dX5_countInGroup_56 59 rfl 8 rfl (v := .ref (a 7)) rfl ?_
          refine g_iload X dX5_countInGroup_59 61 rfl rfl ?_
          refine g_ialdN X dX5_countInGroup_61 62 rfl 11 rfl (by omega) (by decide) ?_
          refine g_iload_n X dX5_countInGroup_62 63 rfl rfl ?_
          refine c_V X Lk_X5_100 (k_X0_countIn E l wr b μ a σ (σ 2 i) (σ 3 i) v) dX5_countInGroup_63 rfl 13 rfl rfl rfl (Nat.le_of_ble_eq_true rfl) ⟨(Nat.le_of_ble_eq_true rfl), (Nat.le_of_ble_eq_true rfl)⟩ ⟨(Nat.le_of_ble_eq_true rfl), (Nat.le_of_ble_eq_true rfl)⟩ 66 rfl [.int (cntIn σ (σ 2 i) (σ 3 i) v), .int z] rfl ?_
          refine g_iadd X dX5_countInGroup_66 67 rfl ?_
          refine g_istore_n X dX5_countInGroup_67 68 rfl (by decide) [(3, .int (z + (cntIn σ (σ 2 i) (σ 3 i) v))), (4, .int (nI i)), (0, .ref (a 3)), (1, .int g), (2, .int v)] rfl ?_
          refine g_iinc X dX5_countInGroup_68 71 rfl (by decide) 1 rfl (nI_1 _) [(4, .int (nI (i + 1))), (3, .int (z + (cntIn σ (σ 2 i) (σ 3 i) v))), (0, .ref (a 3)), (1, .int g), (2, .int v)] rfl ?_
          refine g_goto X dX5_countInGroup_71 5 rfl ?_
          exact ih (i + 1) (z + (cntIn σ (σ 2 i) (σ 3 i) v)) (by omega) (by rw [← hv]; simp [gcL, c2, c3, c4])
  exact Lp 5 0 0 rfl rfl

set_option maxHeartbeats 4000000 in
set_option maxRecDepth 100000 in
theorem k_X5_sumOfRests (E : kE) (l : Launch) (wr : va_W) (b : Nat → Nat) (μ : Sto) (a : Nat → Nat) (σ : Sto) : KM E l yX5_sumOfRests cX5_sumOfRests 3 (some .int) 2 42 0 0 [.ref (a 3)] (WW E b μ a σ wr) (some (.int (srL σ 0 20 0))) (WW E b μ a σ wr) := by
  refine K_start (own := RX5) (by decide +kernel) rfl [(0, .ref (a 3))] rfl (Nat.le_of_ble_eq_true rfl) (fun p e s m below meth c X hr hin => ?_)
  refine g_iconst X dX5_sumOfRests_0 1 rfl (v := 0) rfl ?_
  refine g_istore_n X dX5_sumOfRests_1 2 rfl (by decide) [(1, .int 0), (0, .ref (a 3))] rfl ?_
  refine g_iconst X dX5_sumOfRests_2 3 rfl (v := 0) rfl ?_
  refine g_istore_n X dX5_sumOfRests_3 4 rfl (by decide) [(2, .int 0), (1, .int 0), (0, .ref (a 3))] rfl ?_
  have Lp : ∀ (r i : Nat) (z : Int32), (i + r = 20) → (srL σ i r z = srL σ 0 20 0) →  G E (va_A (WW E b μ a σ wr) s.heap.size) 3 p l e ({ frames := 2, cells := 0, slots := 0, locals := 42 } : Room) s m (([.ref (a 3)] : List Value).toArray) below meth c (MQ below (KQ E (WW E b μ a σ wr) s.heap.size (fun _ : Unit => (some (.int (srL σ 0 20 0)))) (fun _ => WW E b μ a σ wr)) (([.ref (a 3)] : List Value).toArray) s 0 0 (va_A (WW E b μ a σ wr) s.heap.size)) 0 0 (WW E b μ a σ wr) 4 [(2, .int (nI i)), (1, .int z), (0, .ref (a 3))] [] := by
    intro r
    induction r with
    | zero =>
      intro i z hi hv
      obtain rfl : i = 20 := by omega
      refine g_iload_n X dX5_sumOfRests_4 5 rfl rfl ?_
      refine g_bipush X dX5_sumOfRests_5 7 rfl (v := 20) rfl ?_
      refine g_ic_ge X dX5_sumOfRests_7 43 10 rfl rfl (fun c1 => ?_) (fun c1 => absurd (by decide) c1)
      refine g_iload_n X dX5_sumOfRests_43 44 rfl rfl ?_
      exact g_iret X hr dX5_sumOfRests_44 () (by rw [← hv]; rfl) rfl
    | succ r ih =>
      intro i z hi hv
      refine g_iload_n X dX5_sumOfRests_4 5 rfl rfl ?_
      refine g_bipush X dX5_sumOfRests_5 7 rfl (v := 20) rfl ?_
      refine g_ic_ge X dX5_sumOfRests_7 43 10 rfl rfl (fun c2 => absurd c2 (nI_ge (b := 20) (by omega) (by decide))) (fun c2 => ?_)
      refine g_aload_n X dX5_sumOfRests_10 11 rfl rfl ?_
      refine g_get X FL_X5_28 dX5_sumOfRests_11 14 rfl 7 rfl (v := .ref (a 16)) rfl ?_
      refine g_iload_n X dX5_sumOfRests_14 15 rfl rfl ?_
      refine c_V X Lk_X5_104 (k_X1_isBound E l wr b μ a σ (nI i)) dX5_sumOfRests_15 rfl 20 rfl rfl rfl (Nat.le_of_ble_eq_true rfl) ⟨(Nat.le_of_ble_eq_true rfl), (Nat.le_of_ble_eq_true rfl)⟩ ⟨(Nat.le_of_ble_eq_true rfl), (Nat.le_of_ble_eq_true rfl)⟩ 18 rfl [.int (bi (isBd σ (nI i)))] rfl ?_
      refine g_ifb_eq X dX5_sumOfRests_18 37 21 rfl rfl (fun c3 => ?_) (fun c3 => ?_)
      · skip
        refine g_iinc X dX5_sumOfRests_37 40 rfl (by decide) 0 rfl (nI_1 _) [(2, .int (nI (i + 1))), (1, .int z), (0, .ref (a 3))] rfl ?_
        refine g_goto X dX5_sumOfRests_40 4 rfl ?_
        exact ih (i + 1) z (by omega) (by rw [← hv]; simp [srL, c2, c3])
      · skip
        refine g_iload_n X dX5_sumOfRests_21 22 rfl rfl ?_
        refine g_aload_n X dX5_sumOfRests_22 23 rfl rfl ?_
        refine g_iload_n X dX5_sumOfRests_23 24 rfl rfl ?_
        refine c_V X Lk_X5_107 (k_X5_leaseEnd E l wr b μ a σ (nI i)) dX5_sumOfRests_24 rfl 7 rfl rfl rfl (Nat.le_of_ble_eq_true rfl) ⟨(Nat.le_of_ble_eq_true rfl), (Nat.le_of_ble_eq_true rfl)⟩ ⟨(Nat.le_of_ble_eq_true rfl), (Nat.le_of_ble_eq_true rfl)⟩ 27 rfl [.int (lEnd σ (nI i)), .int z] rfl ?_
        refine g_aload_n X dX5_sumOfRests_27 28 rfl rfl ?_
        refine g_get X FL_X5_35 dX5_sumOfRests_28 31 rfl 7 rfl (v := .ref (a 22)) rfl ?_
        refine g_get X FL_X5_110 dX5_sumOfRests_31 34 rfl 26 rfl (v := .int (σ 16 0)) rfl ?_
        refine g_isub X dX5_sumOfRests_34 35 rfl ?_
        refine g_iadd X dX5_sumOfRests_35 36 rfl ?_
        refine g_istore_n X dX5_sumOfRests_36 37 rfl (by decide) [(1, .int (z + ((lEnd σ (nI i)) - (σ 16 0)))), (2, .int (nI i)), (0, .ref (a 3))] rfl ?_
        refine g_iinc X dX5_sumOfRests_37 40 rfl (by decide) 1 rfl (nI_1 _) [(2, .int (nI (i + 1))), (1, .int (z + ((lEnd σ (nI i)) - (σ 16 0)))), (0, .ref (a 3))] rfl ?_
        refine g_goto X dX5_sumOfRests_40 4 rfl ?_
        exact ih (i + 1) (z + ((lEnd σ (nI i)) - (σ 16 0))) (by omega) (by rw [← hv]; simp [srL, c2, c3])
  exact Lp 20 0 0 rfl rfl

set_option maxHeartbeats 4000000 in
set_option maxRecDepth 100000 in
theorem k_X5_isCandidate (E : kE) (l : Launch) (wr : va_W) (b : Nat → Nat) (μ : Sto) (a : Nat → Nat) (σ : Sto) (x : Int32) (g : Int32) : KM E l yX5_isCandidate cX5_isCandidate 3 (some .boolean) 2 44 0 0 [.ref (a 3), .int x, .int g] (WW E b μ a σ wr) (some (.int (bi (isCd σ x g)))) (WW E b μ a σ wr) := by
  refine K_start (own := RX5) (by decide +kernel) rfl [(0, .ref (a 3)), (1, .int x), (2, .int g)] rfl (Nat.le_of_ble_eq_true rfl) (fun p e s m below meth c X hr hin => ?_)
  refine g_aload_n X dX5_isCandidate_0 1 rfl rfl ?_
  refine g_get X FL_X5_21 dX5_isCandidate_1 4 rfl 7 rfl (v := .ref (a 9)) rfl ?_
  refine g_iload_n X dX5_isCandidate_4 5 rfl rfl ?_
  refine c_V X Lk_X5_123 (k_X0_isOfferable E l wr b μ a σ x) dX5_isCandidate_5 rfl 13 rfl rfl rfl (Nat.le_of_ble_eq_true rfl) ⟨(Nat.le_of_ble_eq_true rfl), (Nat.le_of_ble_eq_true rfl)⟩ ⟨(Nat.le_of_ble_eq_true rfl), (Nat.le_of_ble_eq_true rfl)⟩ 8 rfl [.int (bi (isOff σ x))] rfl ?_
  refine g_ifb_eq X dX5_isCandidate_8 27 11 rfl rfl (fun c1 => ?_) (fun c1 => ?_)
  · skip
    refine g_iconst X dX5_isCandidate_27 28 rfl (v := 0) rfl ?_
    exact g_zret X hr dX5_isCandidate_28 false rfl () (by simp [isCd, bi, c1]) rfl
  · skip
    refine g_aload_n X dX5_isCandidate_11 12 rfl rfl ?_
    refine g_get X FL_X5_12 dX5_isCandidate_12 15 rfl 7 rfl (v := .ref (a 4)) rfl ?_
    refine g_iload_n X dX5_isCandidate_15 16 rfl rfl ?_
    refine c_V X Lk_X5_78 (k_X3_groupAt E l wr b μ a σ x) dX5_isCandidate_16 rfl 8 rfl rfl rfl (Nat.le_of_ble_eq_true rfl) ⟨(Nat.le_of_ble_eq_true rfl), (Nat.le_of_ble_eq_true rfl)⟩ ⟨(Nat.le_of_ble_eq_true rfl), (Nat.le_of_ble_eq_true rfl)⟩ 19 rfl [.int (grpAt σ x)] rfl ?_
    refine g_iload_n X dX5_isCandidate_19 20 rfl rfl ?_
    refine g_ic_ne X dX5_isCandidate_20 27 23 rfl rfl (fun c2 => ?_) (fun c2 => ?_)
    · skip
      refine g_iconst X dX5_isCandidate_27 28 rfl (v := 0) rfl ?_
      exact g_zret X hr dX5_isCandidate_28 false rfl () (by simp [isCd, bi, c1, c2]) rfl
    · skip
      refine g_iconst X dX5_isCandidate_23 24 rfl (v := 1) rfl ?_
      refine g_goto X dX5_isCandidate_24 28 rfl ?_
      exact g_zret X hr dX5_isCandidate_28 true rfl () (by simp [isCd, bi, c1, c2]) rfl

set_option maxHeartbeats 4000000 in
set_option maxRecDepth 100000 in
theorem k_X5_longestFreeIn (E : kE) (l : Launch) (wr : va_W) (b : Nat → Nat) (μ : Sto) (a : Nat → Nat) (σ : Sto) (x : Int32) (y : Int32) (q : Int32) : KM E l yX5_longestFreeIn cX5_longestFreeIn 6 (some .int) 2 42 0 0 [.ref (a 3), .int x, .int y, .int q] (WW E b μ a σ wr) (some (.int (lfIn σ x y q))) (WW E b μ a σ wr) := by
  refine K_start (own := RX5) (by decide +kernel) rfl [(0, .ref (a 3)), (1, .int x), (2, .int y), (3, .int q)] rfl (Nat.le_of_ble_eq_true rfl) (fun p e s m below meth c X hr hin => ?_)
  refine g_iload_n X dX5_longestFreeIn_0 1 rfl rfl ?_
  refine g_istore X dX5_longestFreeIn_1 3 rfl (by decide) [(4, .int q), (0, .ref (a 3)), (1, .int x), (2, .int y), (3, .int q)] rfl ?_
  refine g_iload_n X dX5_longestFreeIn_3 4 rfl rfl ?_
  refine g_iconst X dX5_longestFreeIn_4 5 rfl (v := 0) rfl ?_
  refine g_max X Ma_X5_129 dX5_longestFreeIn_5 8 rfl (Nat.le_of_ble_eq_true rfl) (Nat.le_of_ble_eq_true rfl) ⟨(Nat.le_of_ble_eq_true rfl), (Nat.le_of_ble_eq_true rfl)⟩ ?_
  rw [mx0]
  refine g_istore X dX5_longestFreeIn_8 10 rfl (by decide) [(5, .int (nI (ix x))), (4, .int q), (0, .ref (a 3)), (1, .int x), (2, .int y), (3, .int q)] rfl ?_
  have Lp : ∀ (r i : Nat) (z : Int32), (r = 100 - i) → (i < 2 ^ 31) → (lfL σ y i r z = lfIn σ x y q) →  G E (va_A (WW E b μ a σ wr) s.heap.size) 6 p l e ({ frames := 2, cells := 0, slots := 0, locals := 42 } : Room) s m (([.ref (a 3), .int x, .int y, .int q] : List Value).toArray) below meth c (MQ below (KQ E (WW E b μ a σ wr) s.heap.size (fun _ : Unit => (some (.int (lfIn σ x y q)))) (fun _ => WW E b μ a σ wr)) (([.ref (a 3), .int x, .int y, .int q] : List Value).toArray) s 0 0 (va_A (WW E b μ a σ wr) s.heap.size)) 0 0 (WW E b μ a σ wr) 10 [(5, .int (nI i)), (4, .int z), (0, .ref (a 3)), (1, .int x), (2, .int y), (3, .int q)] [] := by
    intro r
    induction r with
    | zero =>
      intro i z hrr hi hv
      refine g_iload X dX5_longestFreeIn_10 12 rfl rfl ?_
      refine g_bipush X dX5_longestFreeIn_12 14 rfl (v := 100) rfl ?_
      refine g_ic_ge X dX5_longestFreeIn_14 65 17 rfl rfl (fun c1 => ?_) (fun c1 => absurd (nI_le (a := 100) (by omega) hi) c1)
      refine g_iload X dX5_longestFreeIn_65 67 rfl rfl ?_
      exact g_iret X hr dX5_longestFreeIn_67 () (by rw [← hv]; rfl) rfl
    | succ r ih =>
      intro i z hrr hi hv
      refine g_iload X dX5_longestFreeIn_10 12 rfl rfl ?_
      refine g_bipush X dX5_longestFreeIn_12 14 rfl (v := 100) rfl ?_
      refine g_ic_ge X dX5_longestFreeIn_14 65 17 rfl rfl (fun c2 => absurd c2 (nI_ge (b := 100) (by omega) (by decide))) (fun c2 => ?_)
      refine g_iload X dX5_longestFreeIn_17 19 rfl rfl ?_
      refine g_iload_n X dX5_longestFreeIn_19 20 rfl rfl ?_
      refine g_ic_gt X dX5_longestFreeIn_20 65 23 rfl rfl (fun c3 => ?_) (fun c3 => ?_)
      · skip
        refine g_iload X dX5_longestFreeIn_65 67 rfl rfl ?_
        exact g_iret X hr dX5_longestFreeIn_67 () (by rw [← hv]; simp [lfL, c2, c3]) rfl
      · skip
        refine g_aload_n X dX5_longestFreeIn_23 24 rfl rfl ?_
        refine g_get X FL_X5_21 dX5_longestFreeIn_24 27 rfl 7 rfl (v := .ref (a 9)) rfl ?_
        refine g_iload X dX5_longestFreeIn_27 29 rfl rfl ?_
        refine c_V X Lk_X5_123 (k_X0_isOfferable E l wr b μ a σ (nI i)) dX5_longestFreeIn_29 rfl 13 rfl rfl rfl (Nat.le_of_ble_eq_true rfl) ⟨(Nat.le_of_ble_eq_true rfl), (Nat.le_of_ble_eq_true rfl)⟩ ⟨(Nat.le_of_ble_eq_true rfl), (Nat.le_of_ble_eq_true rfl)⟩ 32 rfl [.int (bi (isOff σ (nI i)))] rfl ?_
        refine g_ifb_eq X dX5_longestFreeIn_32 59 35 rfl rfl (fun c4 => ?_) (fun c4 => ?_)
        · skip
          refine g_iinc X dX5_longestFreeIn_59 62 rfl (by decide) 0 rfl (nI_1 _) [(5, .int (nI (i + 1))), (4, .int z), (0, .ref (a 3)), (1, .int x), (2, .int y), (3, .int q)] rfl ?_
          refine g_goto X dX5_longestFreeIn_62 10 rfl ?_
          exact ih (i + 1) z (by omega) (by omega) (by rw [← hv]; simp [lfL, c2, c3, c4])
        · skip
          refine g_iload X dX5_longestFreeIn_35 37 rfl rfl ?_
          refine g_iconst X dX5_longestFreeIn_37 38 rfl (v := -1) rfl ?_
          refine g_ic_eq X dX5_longestFreeIn_38 55 41 rfl rfl (fun c5 => ?_) (fun c5 => ?_)
          · skip
            refine g_iload X dX5_longestFreeIn_55 57 rfl rfl ?_
            refine g_istore X dX5_longestFreeIn_57 59 rfl (by decide) [(4, .int (nI i)), (5, .int (nI i)), (0, .ref (a 3)), (1, .int x), (2, .int y), (3, .int q)] rfl ?_
            refine g_iinc X dX5_longestFreeIn_59 62 rfl (by decide) 1 rfl (nI_1 _) [(5, .int (nI (i + 1))), (4, .int (nI i)), (0, .ref (a 3)), (1, .int x), (2, .int y), (3, .int q)] rfl ?_
            refine g_goto X dX5_longestFreeIn_62 10 rfl ?_
            exact ih (i + 1) (nI i) (by omega) (by omega) (by rw [← hv]; simp [lfL, c2, c3, c4, c5])
          · skip
            refine g_aload_n X dX5_longestFreeIn_41 42 rfl rfl ?_
            refine g_get X FL_X5_21 dX5_longestFreeIn_42 45 rfl 7 rfl (v := .ref (a 9)) rfl ?_
            refine g_iload X dX5_longestFreeIn_45 47 rfl rfl ?_
            refine g_iload X dX5_longestFreeIn_47 49 rfl rfl ?_
            refine c_V X Lk_X5_135 (k_X0_isFreeLonger E l wr b μ a σ (nI i) z) dX5_longestFreeIn_49 rfl 13 rfl rfl rfl (Nat.le_of_ble_eq_true rfl) ⟨(Nat.le_of_ble_eq_true rfl), (Nat.le_of_ble_eq_true rfl)⟩ ⟨(Nat.le_of_ble_eq_true rfl), (Nat.le_of_ble_eq_true rfl)⟩ 52 rfl [.int (bi (isFL σ (nI i) z))] rfl ?_
            refine g_ifb_eq X dX5_longestFreeIn_52 59 55 rfl rfl (fun c6 => ?_) (fun c6 => ?_)
            · skip
              refine g_iinc X dX5_longestFreeIn_59 62 rfl (by decide) 0 rfl (nI_1 _) [(5, .int (nI (i + 1))), (4, .int z), (0, .ref (a 3)), (1, .int x), (2, .int y), (3, .int q)] rfl ?_
              refine g_goto X dX5_longestFreeIn_62 10 rfl ?_
              exact ih (i + 1) z (by omega) (by omega) (by rw [← hv]; simp [lfL, c2, c3, c4, c5, c6])
            · skip
              refine g_iload X dX5_longestFreeIn_55 57 rfl rfl ?_
              refine g_istore X dX5_longestFreeIn_57 59 rfl (by decide) [(4, .int (nI i)), (5, .int (nI i)), (0, .ref (a 3)), (1, .int x), (2, .int y), (3, .int q)] rfl ?_
              refine g_iinc X dX5_longestFreeIn_59 62 rfl (by decide) 1 rfl (nI_1 _) [(5, .int (nI (i + 1))), (4, .int (nI i)), (0, .ref (a 3)), (1, .int x), (2, .int y), (3, .int q)] rfl ?_
              refine g_goto X dX5_longestFreeIn_62 10 rfl ?_
              exact ih (i + 1) (nI i) (by omega) (by omega) (by rw [← hv]; simp [lfL, c2, c3, c4, c5, c6])
  exact Lp (100 - ix x) (ix x) q rfl (ix_lt x) rfl

set_option maxHeartbeats 4000000 in
set_option maxRecDepth 100000 in
theorem k_X5_longestFree (E : kE) (l : Launch) (wr : va_W) (b : Nat → Nat) (μ : Sto) (a : Nat → Nat) (σ : Sto) (g : Int32) : KM E l yX5_longestFree cX5_longestFree 4 (some .int) 3 67 0 0 [.ref (a 3), .int g] (WW E b μ a σ wr) (some (.int (lgL σ g 0 5 (-1)))) (WW E b μ a σ wr) := by
  refine K_start (own := RX5) (by decide +kernel) rfl [(0, .ref (a 3)), (1, .int g)] rfl (Nat.le_of_ble_eq_true rfl) (fun p e s m below meth c X hr hin => ?_)
  refine g_iconst X dX5_longestFree_0 1 rfl (v := -1) rfl ?_
  refine g_istore_n X dX5_longestFree_1 2 rfl (by decide) [(2, .int (-1)), (0, .ref (a 3)), (1, .int g)] rfl ?_
  refine g_iconst X dX5_longestFree_2 3 rfl (v := 0) rfl ?_
  refine g_istore_n X dX5_longestFree_3 4 rfl (by decide) [(3, .int 0), (2, .int (-1)), (0, .ref (a 3)), (1, .int g)] rfl ?_
  have Lp : ∀ (r i : Nat) (z : Int32), (i + r = 5) → (lgL σ g i r z = lgL σ g 0 5 (-1)) →  G E (va_A (WW E b μ a σ wr) s.heap.size) 4 p l e ({ frames := 3, cells := 0, slots := 0, locals := 67 } : Room) s m (([.ref (a 3), .int g] : List Value).toArray) below meth c (MQ below (KQ E (WW E b μ a σ wr) s.heap.size (fun _ : Unit => (some (.int (lgL σ g 0 5 (-1))))) (fun _ => WW E b μ a σ wr)) (([.ref (a 3), .int g] : List Value).toArray) s 0 0 (va_A (WW E b μ a σ wr) s.heap.size)) 0 0 (WW E b μ a σ wr) 4 [(3, .int (nI i)), (2, .int z), (0, .ref (a 3)), (1, .int g)] [] := by
    intro r
    induction r with
    | zero =>
      intro i z hi hv
      obtain rfl : i = 5 := by omega
      refine g_iload_n X dX5_longestFree_4 5 rfl rfl ?_
      refine g_iconst X dX5_longestFree_5 6 rfl (v := 5) rfl ?_
      refine g_ic_ge X dX5_longestFree_6 63 9 rfl rfl (fun c1 => ?_) (fun c1 => absurd (by decide) c1)
      refine g_iload_n X dX5_longestFree_63 64 rfl rfl ?_
      exact g_iret X hr dX5_longestFree_64 () (by rw [← hv]; rfl) rfl
    | succ r ih =>
      intro i z hi hv
      refine g_iload_n X dX5_longestFree_4 5 rfl rfl ?_
      refine g_iconst X dX5_longestFree_5 6 rfl (v := 5) rfl ?_
      refine g_ic_ge X dX5_longestFree_6 63 9 rfl rfl (fun c2 => absurd c2 (nI_ge (b := 5) (by omega) (by decide))) (fun c2 => ?_)
      refine g_iload_n X dX5_longestFree_9 10 rfl rfl ?_
      refine g_aload_n X dX5_longestFree_10 11 rfl rfl ?_
      refine g_get X FL_X5_12 dX5_longestFree_11 14 rfl 7 rfl (v := .ref (a 4)) rfl ?_
      refine g_get X FL_X5_87 dX5_longestFree_14 17 rfl 8 rfl (v := .int (σ 0 0)) rfl ?_
      refine g_ic_ge X dX5_longestFree_17 63 20 rfl rfl (fun c3 => ?_) (fun c3 => ?_)
      · skip
        refine g_iload_n X dX5_longestFree_63 64 rfl rfl ?_
        exact g_iret X hr dX5_longestFree_64 () (by rw [← hv]; simp [lgL, c2, c3]) rfl
      · skip
        refine g_aload_n X dX5_longestFree_20 21 rfl rfl ?_
        refine g_get X FL_X5_12 dX5_longestFree_21 24 rfl 7 rfl (v := .ref (a 4)) rfl ?_
        refine g_get X FL_X5_91 dX5_longestFree_24 27 rfl 8 rfl (v := .ref (a 5)) rfl ?_
        refine g_iload_n X dX5_longestFree_27 28 rfl rfl ?_
        refine g_ialdN X dX5_longestFree_28 29 rfl 9 rfl (by omega) (by decide) ?_
        refine g_iload_n X dX5_longestFree_29 30 rfl rfl ?_
        refine g_ic_ne X dX5_longestFree_30 57 33 rfl rfl (fun c4 => ?_) (fun c4 => ?_)
        · skip
          refine g_iinc X dX5_longestFree_57 60 rfl (by decide) 0 rfl (nI_1 _) [(3, .int (nI (i + 1))), (2, .int z), (0, .ref (a 3)), (1, .int g)] rfl ?_
          refine g_goto X dX5_longestFree_60 4 rfl ?_
          exact ih (i + 1) z (by omega) (by rw [← hv]; simp [lgL, c2, c3, c4])
        · skip
          refine g_aload_n X dX5_longestFree_33 34 rfl rfl ?_
          refine g_aload_n X dX5_longestFree_34 35 rfl rfl ?_
          refine g_get X FL_X5_12 dX5_longestFree_35 38 rfl 7 rfl (v := .ref (a 4)) rfl ?_
          refine g_get X FL_X5_94 dX5_longestFree_38 41 rfl 8 rfl (v := .ref (a 6)) rfl ?_
          refine g_iload_n X dX5_longestFree_41 42 rfl rfl ?_
          refine g_ialdN X dX5_longestFree_42 43 rfl 10 rfl (by omega) (by decide) ?_
          refine g_aload_n X dX5_longestFree_43 44 rfl rfl ?_
          refine g_get X FL_X5_12 dX5_longestFree_44 47 rfl 7 rfl (v := .ref (a 4)) rfl ?_
          refine g_get X FL_X5_97 dX5_longestFree_47 50 rfl 8 rfl (v := .ref (a 7)) rfl ?_
          refine g_iload_n X dX5_longestFree_50 51 rfl rfl ?_
          refine g_ialdN X dX5_longestFree_51 52 rfl 11 rfl (by omega) (by decide) ?_
          refine g_iload_n X dX5_longestFree_52 53 rfl rfl ?_
          refine c_V X Lk_X5_126 (k_X5_longestFreeIn E l wr b μ a σ (σ 2 i) (σ 3 i) z) dX5_longestFree_53 rfl 7 rfl rfl rfl (Nat.le_of_ble_eq_true rfl) ⟨(Nat.le_of_ble_eq_true rfl), (Nat.le_of_ble_eq_true rfl)⟩ ⟨(Nat.le_of_ble_eq_true rfl), (Nat.le_of_ble_eq_true rfl)⟩ 56 rfl [.int (lfIn σ (σ 2 i) (σ 3 i) z)] rfl ?_
          refine g_istore_n X dX5_longestFree_56 57 rfl (by decide) [(2, .int (lfIn σ (σ 2 i) (σ 3 i) z)), (3, .int (nI i)), (0, .ref (a 3)), (1, .int g)] rfl ?_
          refine g_iinc X dX5_longestFree_57 60 rfl (by decide) 1 rfl (nI_1 _) [(3, .int (nI (i + 1))), (2, .int (lfIn σ (σ 2 i) (σ 3 i) z)), (0, .ref (a 3)), (1, .int g)] rfl ?_
          refine g_goto X dX5_longestFree_60 4 rfl ?_
          exact ih (i + 1) (lfIn σ (σ 2 i) (σ 3 i) z) (by omega) (by rw [← hv]; simp [lgL, c2, c3, c4])
  exact Lp 5 0 (-1) rfl rfl

set_option maxHeartbeats 4000000 in
set_option maxRecDepth 100000 in
theorem k_X5_firstCandidate (E : kE) (l : Launch) (wr : va_W) (b : Nat → Nat) (μ : Sto) (a : Nat → Nat) (σ : Sto) (cn : Int32) (g : Int32) (x : Int32) : KM E l yX5_firstCandidate cX5_firstCandidate 5 (some .int) 4 90 0 0 [.ref (a 3), .int cn, .int g, .int x] (WW E b μ a σ wr) (some (.int (fCd σ cn g x))) (WW E b μ a σ wr) := by
  refine K_start (own := RX5) (by decide +kernel) rfl [(0, .ref (a 3)), (1, .int cn), (2, .int g), (3, .int x)] rfl (Nat.le_of_ble_eq_true rfl) (fun p e s m below meth c X hr hin => ?_)
  refine g_iload_n X dX5_firstCandidate_0 1 rfl rfl ?_
  refine c_N X Lk_X5_71 (k_X6_isClient E l wr b μ a σ cn) dX5_firstCandidate_1 rfl rfl (Nat.le_of_ble_eq_true rfl) ⟨(Nat.le_of_ble_eq_true rfl), (Nat.le_of_ble_eq_true rfl)⟩ ⟨(Nat.le_of_ble_eq_true rfl), (Nat.le_of_ble_eq_true rfl)⟩ 4 rfl [.int (bi (inC cn))] rfl ?_
  refine g_ifb_eq X dX5_firstCandidate_4 19 7 rfl rfl (fun c1 => ?_) (fun c1 => ?_)
  · skip
    refine g_iconst X dX5_firstCandidate_19 20 rfl (v := -1) rfl ?_
    refine g_istore X dX5_firstCandidate_20 22 rfl (by decide) [(4, .int (-1)), (0, .ref (a 3)), (1, .int cn), (2, .int g), (3, .int x)] rfl ?_
    refine g_aload_n X dX5_firstCandidate_22 23 rfl rfl ?_
    refine g_iload X dX5_firstCandidate_23 25 rfl rfl ?_
    refine g_iload_n X dX5_firstCandidate_25 26 rfl rfl ?_
    refine c_V X Lk_X5_116 (k_X5_isCandidate E l wr b μ a σ (-1) g) dX5_firstCandidate_26 rfl 7 rfl rfl rfl (Nat.le_of_ble_eq_true rfl) ⟨(Nat.le_of_ble_eq_true rfl), (Nat.le_of_ble_eq_true rfl)⟩ ⟨(Nat.le_of_ble_eq_true rfl), (Nat.le_of_ble_eq_true rfl)⟩ 29 rfl [.int (bi (isCd σ (-1) g))] rfl ?_
    refine g_ifb_eq X dX5_firstCandidate_29 35 32 rfl rfl (fun c2 => ?_) (fun c2 => ?_)
    · skip
      refine g_aload_n X dX5_firstCandidate_35 36 rfl rfl ?_
      refine g_iload_n X dX5_firstCandidate_36 37 rfl rfl ?_
      refine g_iload_n X dX5_firstCandidate_37 38 rfl rfl ?_
      refine c_V X Lk_X5_116 (k_X5_isCandidate E l wr b μ a σ x g) dX5_firstCandidate_38 rfl 7 rfl rfl rfl (Nat.le_of_ble_eq_true rfl) ⟨(Nat.le_of_ble_eq_true rfl), (Nat.le_of_ble_eq_true rfl)⟩ ⟨(Nat.le_of_ble_eq_true rfl), (Nat.le_of_ble_eq_true rfl)⟩ 41 rfl [.int (bi (isCd σ x g))] rfl ?_
      refine g_ifb_eq X dX5_firstCandidate_41 46 44 rfl rfl (fun c3 => ?_) (fun c3 => ?_)
      · skip
        refine g_aload_n X dX5_firstCandidate_46 47 rfl rfl ?_
        refine g_iload_n X dX5_firstCandidate_47 48 rfl rfl ?_
        refine c_V X Lk_X5_120 (k_X5_longestFree E l wr b μ a σ g) dX5_firstCandidate_48 rfl 7 rfl rfl rfl (Nat.le_of_ble_eq_true rfl) ⟨(Nat.le_of_ble_eq_true rfl), (Nat.le_of_ble_eq_true rfl)⟩ ⟨(Nat.le_of_ble_eq_true rfl), (Nat.le_of_ble_eq_true rfl)⟩ 51 rfl [.int (lgL σ g 0 5 (-1))] rfl ?_
        exact g_iret X hr dX5_firstCandidate_51 () (by simp [fCd, lstOf, c1, c2, c3]) rfl
      · skip
        refine g_iload_n X dX5_firstCandidate_44 45 rfl rfl ?_
        exact g_iret X hr dX5_firstCandidate_45 () (by simp [fCd, lstOf, c1, c2, c3]) rfl
    · skip
      refine g_iload X dX5_firstCandidate_32 34 rfl rfl ?_
      exact g_iret X hr dX5_firstCandidate_34 () (by simp [fCd, lstOf, c1, c2]) rfl
  · skip
    refine g_aload_n X dX5_firstCandidate_7 8 rfl rfl ?_
    refine g_get X FL_X5_28 dX5_firstCandidate_8 11 rfl 7 rfl (v := .ref (a 16)) rfl ?_
    refine g_get X FL_X5_113 dX5_firstCandidate_11 14 rfl 20 rfl (v := .ref (a 19)) rfl ?_
    refine g_iload_n X dX5_firstCandidate_14 15 rfl rfl ?_
    refine g_iald X dX5_firstCandidate_15 16 rfl 23 rfl (by first | exact vA ‹_› | exact vC ‹_› | exact vG ‹_› | assumption | exact vp_in_nI (by omega) (by omega)) ?_
    refine g_goto X dX5_firstCandidate_16 20 rfl ?_
    refine g_istore X dX5_firstCandidate_20 22 rfl (by decide) [(4, .int (σ 13 (ix cn))), (0, .ref (a 3)), (1, .int cn), (2, .int g), (3, .int x)] rfl ?_
    refine g_aload_n X dX5_firstCandidate_22 23 rfl rfl ?_
    refine g_iload X dX5_firstCandidate_23 25 rfl rfl ?_
    refine g_iload_n X dX5_firstCandidate_25 26 rfl rfl ?_
    refine c_V X Lk_X5_116 (k_X5_isCandidate E l wr b μ a σ (σ 13 (ix cn)) g) dX5_firstCandidate_26 rfl 7 rfl rfl rfl (Nat.le_of_ble_eq_true rfl) ⟨(Nat.le_of_ble_eq_true rfl), (Nat.le_of_ble_eq_true rfl)⟩ ⟨(Nat.le_of_ble_eq_true rfl), (Nat.le_of_ble_eq_true rfl)⟩ 29 rfl [.int (bi (isCd σ (σ 13 (ix cn)) g))] rfl ?_
    refine g_ifb_eq X dX5_firstCandidate_29 35 32 rfl rfl (fun c4 => ?_) (fun c4 => ?_)
    · skip
      refine g_aload_n X dX5_firstCandidate_35 36 rfl rfl ?_
      refine g_iload_n X dX5_firstCandidate_36 37 rfl rfl ?_
      refine g_iload_n X dX5_firstCandidate_37 38 rfl rfl ?_
      refine c_V X Lk_X5_116 (k_X5_isCandidate E l wr b μ a σ x g) dX5_firstCandidate_38 rfl 7 rfl rfl rfl (Nat.le_of_ble_eq_true rfl) ⟨(Nat.le_of_ble_eq_true rfl), (Nat.le_of_ble_eq_true rfl)⟩ ⟨(Nat.le_of_ble_eq_true rfl), (Nat.le_of_ble_eq_true rfl)⟩ 41 rfl [.int (bi (isCd σ x g))] rfl ?_
      refine g_ifb_eq X dX5_firstCandidate_41 46 44 rfl rfl (fun c5 => ?_) (fun c5 => ?_)
      · skip
        refine g_aload_n X dX5_firstCandidate_46 47 rfl rfl ?_
        refine g_iload_n X dX5_firstCandidate_47 48 rfl rfl ?_
        refine c_V X Lk_X5_120 (k_X5_longestFree E l wr b μ a σ g) dX5_firstCandidate_48 rfl 7 rfl rfl rfl (Nat.le_of_ble_eq_true rfl) ⟨(Nat.le_of_ble_eq_true rfl), (Nat.le_of_ble_eq_true rfl)⟩ ⟨(Nat.le_of_ble_eq_true rfl), (Nat.le_of_ble_eq_true rfl)⟩ 51 rfl [.int (lgL σ g 0 5 (-1))] rfl ?_
        exact g_iret X hr dX5_firstCandidate_51 () (by simp [fCd, lstOf, c1, c4, c5]) rfl
      · skip
        refine g_iload_n X dX5_firstCandidate_44 45 rfl rfl ?_
        exact g_iret X hr dX5_firstCandidate_45 () (by simp [fCd, lstOf, c1, c4, c5]) rfl
    · skip
      refine g_iload X dX5_firstCandidate_32 34 rfl rfl ?_
      exact g_iret X hr dX5_firstCandidate_34 () (by simp [fCd, lstOf, c1, c4]) rfl

set_option maxHeartbeats 4000000 in
set_option maxRecDepth 100000 in
theorem k_X5_endHolding (E : kE) (l : Launch) (wr : va_W) (b : Nat → Nat) (μ : Sto) (a : Nat → Nat) (σ : Sto) (cn : Int32) : KM E l yX5_endHolding cX5_endHolding 2 none 2 42 0 0 [.ref (a 3), .int cn] (WW E b μ a σ wr) none (WW E b μ a (eHd σ cn) wr) := by
  refine K_start (own := RX5) (by decide +kernel) rfl [(0, .ref (a 3)), (1, .int cn)] rfl (Nat.le_of_ble_eq_true rfl) (fun p e s m below meth c X hr hin => ?_)
  refine g_iload_n X dX5_endHolding_0 1 rfl rfl ?_
  refine c_N X Lk_X5_71 (k_X6_isClient E l wr b μ a σ cn) dX5_endHolding_1 rfl rfl (Nat.le_of_ble_eq_true rfl) ⟨(Nat.le_of_ble_eq_true rfl), (Nat.le_of_ble_eq_true rfl)⟩ ⟨(Nat.le_of_ble_eq_true rfl), (Nat.le_of_ble_eq_true rfl)⟩ 4 rfl [.int (bi (inC cn))] rfl ?_
  refine g_ifb_eq X dX5_endHolding_4 38 7 rfl rfl (fun c1 => ?_) (fun c1 => ?_)
  · skip
    exact g_vret X hr dX5_endHolding_38 () rfl (by simp [eHd, c1])
  · skip
    refine g_aload_n X dX5_endHolding_7 8 rfl rfl ?_
    refine g_get X FL_X5_21 dX5_endHolding_8 11 rfl 7 rfl (v := .ref (a 9)) rfl ?_
    refine g_aload_n X dX5_endHolding_11 12 rfl rfl ?_
    refine g_get X FL_X5_28 dX5_endHolding_12 15 rfl 7 rfl (v := .ref (a 16)) rfl ?_
    refine g_get X FL_X5_74 dX5_endHolding_15 18 rfl 20 rfl (v := .ref (a 18)) rfl ?_
    refine g_iload_n X dX5_endHolding_18 19 rfl rfl ?_
    refine g_iald X dX5_endHolding_19 20 rfl 22 rfl (by first | exact vA ‹_› | exact vC ‹_› | exact vG ‹_› | assumption | exact vp_in_nI (by omega) (by omega)) ?_
    refine g_aload_n X dX5_endHolding_20 21 rfl rfl ?_
    refine g_get X FL_X5_35 dX5_endHolding_21 24 rfl 7 rfl (v := .ref (a 22)) rfl ?_
    refine g_get X FL_X5_110 dX5_endHolding_24 27 rfl 26 rfl (v := .int (σ 16 0)) rfl ?_
    refine c_V X Lk_X5_189 (k_X0_becomeFree E l wr b μ a σ (σ 12 (ix cn)) (σ 16 0)) dX5_endHolding_27 rfl 13 rfl rfl rfl (Nat.le_of_ble_eq_true rfl) ⟨(Nat.le_of_ble_eq_true rfl), (Nat.le_of_ble_eq_true rfl)⟩ ⟨(Nat.le_of_ble_eq_true rfl), (Nat.le_of_ble_eq_true rfl)⟩ 30 rfl [] rfl ?_
    refine g_aload_n X dX5_endHolding_30 31 rfl rfl ?_
    refine g_get X FL_X5_28 dX5_endHolding_31 34 rfl 7 rfl (v := .ref (a 16)) rfl ?_
    refine g_iload_n X dX5_endHolding_34 35 rfl rfl ?_
    refine c_V X Lk_X5_192 (k_X1_becomeIdle E l wr b μ a (frees σ (σ 12 (ix cn)) (σ 16 0)) cn) dX5_endHolding_35 rfl 20 rfl rfl rfl (Nat.le_of_ble_eq_true rfl) ⟨(Nat.le_of_ble_eq_true rfl), (Nat.le_of_ble_eq_true rfl)⟩ ⟨(Nat.le_of_ble_eq_true rfl), (Nat.le_of_ble_eq_true rfl)⟩ 38 rfl [] rfl ?_
    exact g_vret X hr dX5_endHolding_38 () rfl (by simp [eHd, c1])

set_option maxHeartbeats 4000000 in
set_option maxRecDepth 100000 in
theorem k_X5_holdFor (E : kE) (l : Launch) (wr : va_W) (b : Nat → Nat) (μ : Sto) (a : Nat → Nat) (σ : Sto) (cn : Int32) (x : Int32) : KM E l yX5_holdFor cX5_holdFor 3 none 2 44 0 0 [.ref (a 3), .int cn, .int x] (WW E b μ a σ wr) none (WW E b μ a (hFo σ cn x) wr) := by
  refine K_start (own := RX5) (by decide +kernel) rfl [(0, .ref (a 3)), (1, .int cn), (2, .int x)] rfl (Nat.le_of_ble_eq_true rfl) (fun p e s m below meth c X hr hin => ?_)
  refine g_aload_n X dX5_holdFor_0 1 rfl rfl ?_
  refine g_get X FL_X5_21 dX5_holdFor_1 4 rfl 7 rfl (v := .ref (a 9)) rfl ?_
  refine g_iload_n X dX5_holdFor_4 5 rfl rfl ?_
  refine g_iconst X dX5_holdFor_5 6 rfl (v := 1) rfl ?_
  refine g_iload_n X dX5_holdFor_6 7 rfl rfl ?_
  refine g_aload_n X dX5_holdFor_7 8 rfl rfl ?_
  refine g_get X FL_X5_35 dX5_holdFor_8 11 rfl 7 rfl (v := .ref (a 22)) rfl ?_
  refine g_get X FL_X5_110 dX5_holdFor_11 14 rfl 26 rfl (v := .int (σ 16 0)) rfl ?_
  refine g_aload_n X dX5_holdFor_14 15 rfl rfl ?_
  refine g_get X FL_X5_35 dX5_holdFor_15 18 rfl 7 rfl (v := .ref (a 22)) rfl ?_
  refine g_get X FL_X5_155 dX5_holdFor_18 21 rfl 26 rfl (v := .int (σ 17 0)) rfl ?_
  refine g_iadd X dX5_holdFor_21 22 rfl ?_
  refine c_V X Lk_X5_158 (k_X0_becomeHeld E l wr b μ a σ x 1 cn ((σ 16 0) + (σ 17 0))) dX5_holdFor_22 rfl 13 rfl rfl rfl (Nat.le_of_ble_eq_true rfl) ⟨(Nat.le_of_ble_eq_true rfl), (Nat.le_of_ble_eq_true rfl)⟩ ⟨(Nat.le_of_ble_eq_true rfl), (Nat.le_of_ble_eq_true rfl)⟩ 25 rfl [] rfl ?_
  refine g_aload_n X dX5_holdFor_25 26 rfl rfl ?_
  refine g_get X FL_X5_28 dX5_holdFor_26 29 rfl 7 rfl (v := .ref (a 16)) rfl ?_
  refine g_iload_n X dX5_holdFor_29 30 rfl rfl ?_
  refine g_iload_n X dX5_holdFor_30 31 rfl rfl ?_
  refine c_V X Lk_X5_162 (k_X1_takeOffer E l wr b μ a (helds σ x 1 cn ((σ 16 0) + (σ 17 0))) cn x) dX5_holdFor_31 rfl 20 rfl rfl rfl (Nat.le_of_ble_eq_true rfl) ⟨(Nat.le_of_ble_eq_true rfl), (Nat.le_of_ble_eq_true rfl)⟩ ⟨(Nat.le_of_ble_eq_true rfl), (Nat.le_of_ble_eq_true rfl)⟩ 34 rfl [] rfl ?_
  refine g_aload_n X dX5_holdFor_34 35 rfl rfl ?_
  refine g_get X FL_X5_39 dX5_holdFor_35 38 rfl 7 rfl (v := .ref (a 1)) rfl ?_
  refine g_iconst X dX5_holdFor_38 39 rfl (v := 1) rfl ?_
  refine g_iload_n X dX5_holdFor_39 40 rfl rfl ?_
  refine c_V X Lk_X5_165 (k_X2_write E l wr b μ a (offs (helds σ x 1 cn ((σ 16 0) + (σ 17 0))) cn x) 1 x) dX5_holdFor_40 rfl 5 rfl rfl rfl (Nat.le_of_ble_eq_true rfl) ⟨(Nat.le_of_ble_eq_true rfl), (Nat.le_of_ble_eq_true rfl)⟩ ⟨(Nat.le_of_ble_eq_true rfl), (Nat.le_of_ble_eq_true rfl)⟩ 43 rfl [] rfl ?_
  exact g_vret X hr dX5_holdFor_43 () rfl rfl

set_option maxHeartbeats 4000000 in
set_option maxRecDepth 100000 in
theorem k_X5_findConflict (E : kE) (l : Launch) (wr : va_W) (b : Nat → Nat) (μ : Sto) (a : Nat → Nat) (σ : Sto) (x : Int32) : KM E l yX5_findConflict cX5_findConflict 2 none 3 66 0 0 [.ref (a 3), .int x] (WW E b μ a σ wr) none (WW E b μ a (fCf σ x) wr) := by
  refine K_start (own := RX5) (by decide +kernel) rfl [(0, .ref (a 3)), (1, .int x)] rfl (Nat.le_of_ble_eq_true rfl) (fun p e s m below meth c X hr hin => ?_)
  refine g_aload_n X dX5_findConflict_0 1 rfl rfl ?_
  refine g_get X FL_X5_21 dX5_findConflict_1 4 rfl 7 rfl (v := .ref (a 9)) rfl ?_
  refine g_iload_n X dX5_findConflict_4 5 rfl rfl ?_
  refine g_aload_n X dX5_findConflict_5 6 rfl rfl ?_
  refine g_get X FL_X5_35 dX5_findConflict_6 9 rfl 7 rfl (v := .ref (a 22)) rfl ?_
  refine g_get X FL_X5_110 dX5_findConflict_9 12 rfl 26 rfl (v := .int (σ 16 0)) rfl ?_
  refine g_aload_n X dX5_findConflict_12 13 rfl rfl ?_
  refine g_get X FL_X5_35 dX5_findConflict_13 16 rfl 7 rfl (v := .ref (a 22)) rfl ?_
  refine g_get X FL_X5_170 dX5_findConflict_16 19 rfl 26 rfl (v := .int (σ 18 0)) rfl ?_
  refine g_iadd X dX5_findConflict_19 20 rfl ?_
  refine c_V X Lk_X5_173 (k_X0_becomeDeclined E l wr b μ a σ x ((σ 16 0) + (σ 18 0))) dX5_findConflict_20 rfl 13 rfl rfl rfl (Nat.le_of_ble_eq_true rfl) ⟨(Nat.le_of_ble_eq_true rfl), (Nat.le_of_ble_eq_true rfl)⟩ ⟨(Nat.le_of_ble_eq_true rfl), (Nat.le_of_ble_eq_true rfl)⟩ 23 rfl [] rfl ?_
  refine g_aload_n X dX5_findConflict_23 24 rfl rfl ?_
  refine g_get X FL_X5_35 dX5_findConflict_24 27 rfl 7 rfl (v := .ref (a 22)) rfl ?_
  refine g_dup X dX5_findConflict_27 28 rfl rfl ?_
  refine g_get X FL_X5_176 dX5_findConflict_28 31 rfl 26 rfl (v := .int ((helds σ x 3 (-1) ((σ 16 0) + (σ 18 0))) 19 0)) rfl ?_
  refine g_iconst X dX5_findConflict_31 32 rfl (v := 1) rfl ?_
  refine g_iadd X dX5_findConflict_32 33 rfl ?_
  refine g_put X FL_X5_176 fk_X4 dX5_findConflict_33 36 rfl rfl 26 rfl rfl rfl (Nat.le_of_ble_eq_true rfl) (WW E b μ a (put (helds σ x 3 (-1) ((σ 16 0) + (σ 18 0))) 19 (sc (((helds σ x 3 (-1) ((σ 16 0) + (σ 18 0))) 19 0) + 1))) wr) rfl ?_
  refine g_aload_n X dX5_findConflict_36 37 rfl rfl ?_
  refine g_get X FL_X5_39 dX5_findConflict_37 40 rfl 7 rfl (v := .ref (a 1)) rfl ?_
  refine g_bipush X dX5_findConflict_40 42 rfl (v := 8) rfl ?_
  refine g_iload_n X dX5_findConflict_42 43 rfl rfl ?_
  refine c_V X Lk_X5_165 (k_X2_write E l wr b μ a (put (helds σ x 3 (-1) ((σ 16 0) + (σ 18 0))) 19 (sc (((helds σ x 3 (-1) ((σ 16 0) + (σ 18 0))) 19 0) + 1))) 8 x) dX5_findConflict_43 rfl 5 rfl rfl rfl (Nat.le_of_ble_eq_true rfl) ⟨(Nat.le_of_ble_eq_true rfl), (Nat.le_of_ble_eq_true rfl)⟩ ⟨(Nat.le_of_ble_eq_true rfl), (Nat.le_of_ble_eq_true rfl)⟩ 46 rfl [] rfl ?_
  exact g_vret X hr dX5_findConflict_46 () rfl rfl

set_option maxHeartbeats 4000000 in
set_option maxRecDepth 100000 in
theorem k_X5_makeOffer (E : kE) (l : Launch) (wr : va_W) (b : Nat → Nat) (μ : Sto) (a : Nat → Nat) (σ : Sto) (cn : Int32) (g : Int32) (x : Int32) : KM E l yX5_makeOffer cX5_makeOffer 6 (some .int) 5 114 0 0 [.ref (a 3), .int cn, .int g, .int x] (WW E b μ a σ wr) (some (.int ((MO σ cn g x).1))) (WW E b μ a ((MO σ cn g x).2) wr) := by
  refine K_start (own := RX5) (by decide +kernel) rfl [(0, .ref (a 3)), (1, .int cn), (2, .int g), (3, .int x)] rfl (Nat.le_of_ble_eq_true rfl) (fun p e s m below meth c X hr hin => ?_)
  refine g_aload_n X dX5_makeOffer_0 1 rfl rfl ?_
  refine g_iload_n X dX5_makeOffer_1 2 rfl rfl ?_
  refine c_V X Lk_X5_138 (k_X5_endHolding E l wr b μ a σ cn) dX5_makeOffer_2 rfl 7 rfl rfl rfl (Nat.le_of_ble_eq_true rfl) ⟨(Nat.le_of_ble_eq_true rfl), (Nat.le_of_ble_eq_true rfl)⟩ ⟨(Nat.le_of_ble_eq_true rfl), (Nat.le_of_ble_eq_true rfl)⟩ 5 rfl [] rfl ?_
  refine g_iconst X dX5_makeOffer_5 6 rfl (v := 0) rfl ?_
  refine g_istore X dX5_makeOffer_6 8 rfl (by decide) [(4, .int 0), (0, .ref (a 3)), (1, .int cn), (2, .int g), (3, .int x)] rfl ?_
  have Lp : ∀ (r i : Nat) (τ : Sto), (i + r = 100) → (mkL cn g x r τ = MO σ cn g x) →  G E (va_A (WW E b μ a σ wr) s.heap.size) 6 p l e ({ frames := 5, cells := 0, slots := 0, locals := 114 } : Room) s m (([.ref (a 3), .int cn, .int g, .int x] : List Value).toArray) below meth c (MQ below (KQ E (WW E b μ a σ wr) s.heap.size (fun _ : Unit => (some (.int ((MO σ cn g x).1)))) (fun _ => WW E b μ a ((MO σ cn g x).2) wr)) (([.ref (a 3), .int cn, .int g, .int x] : List Value).toArray) s 0 0 (va_A (WW E b μ a σ wr) s.heap.size)) 0 0 (WW E b μ a τ wr) 8 [(4, .int (nI i)), (0, .ref (a 3)), (1, .int cn), (2, .int g), (3, .int x)] [] := by
    intro r
    induction r with
    | zero =>
      intro i τ hi hv
      obtain rfl : i = 100 := by omega
      refine g_iload X dX5_makeOffer_8 10 rfl rfl ?_
      refine g_bipush X dX5_makeOffer_10 12 rfl (v := 100) rfl ?_
      refine g_ic_ge X dX5_makeOffer_12 69 15 rfl rfl (fun c1 => ?_) (fun c1 => absurd (by decide) c1)
      refine g_iconst X dX5_makeOffer_69 70 rfl (v := -1) rfl ?_
      exact g_iret X hr dX5_makeOffer_70 () (by rw [← hv]; rfl) (by rw [← hv]; rfl)
    | succ r ih =>
      intro i τ hi hv
      refine g_iload X dX5_makeOffer_8 10 rfl rfl ?_
      refine g_bipush X dX5_makeOffer_10 12 rfl (v := 100) rfl ?_
      refine g_ic_ge X dX5_makeOffer_12 69 15 rfl rfl (fun c2 => absurd c2 (nI_ge (b := 100) (by omega) (by decide))) (fun c2 => ?_)
      refine g_aload_n X dX5_makeOffer_15 16 rfl rfl ?_
      refine g_iload_n X dX5_makeOffer_16 17 rfl rfl ?_
      refine g_iload_n X dX5_makeOffer_17 18 rfl rfl ?_
      refine g_iload_n X dX5_makeOffer_18 19 rfl rfl ?_
      refine c_V X Lk_X5_142 (k_X5_firstCandidate E l wr b μ a τ cn g x) dX5_makeOffer_19 rfl 7 rfl rfl rfl (Nat.le_of_ble_eq_true rfl) ⟨(Nat.le_of_ble_eq_true rfl), (Nat.le_of_ble_eq_true rfl)⟩ ⟨(Nat.le_of_ble_eq_true rfl), (Nat.le_of_ble_eq_true rfl)⟩ 22 rfl [.int (fCd τ cn g x)] rfl ?_
      refine g_istore X dX5_makeOffer_22 24 rfl (by decide) [(5, .int (fCd τ cn g x)), (4, .int (nI i)), (0, .ref (a 3)), (1, .int cn), (2, .int g), (3, .int x)] rfl ?_
      refine g_iload X dX5_makeOffer_24 26 rfl rfl ?_
      refine c_N X Lk_X5_81 (k_X6_isAddress E l wr b μ a τ (fCd τ cn g x)) dX5_makeOffer_26 rfl rfl (Nat.le_of_ble_eq_true rfl) ⟨(Nat.le_of_ble_eq_true rfl), (Nat.le_of_ble_eq_true rfl)⟩ ⟨(Nat.le_of_ble_eq_true rfl), (Nat.le_of_ble_eq_true rfl)⟩ 29 rfl [.int (bi (inA (fCd τ cn g x)))] rfl ?_
      refine g_ifb_ne X dX5_makeOffer_29 34 32 rfl rfl (fun c3 => ?_) (fun c3 => ?_)
      · skip
        refine g_aload_n X dX5_makeOffer_34 35 rfl rfl ?_
        refine g_get X FL_X5_21 dX5_makeOffer_35 38 rfl 7 rfl (v := .ref (a 9)) rfl ?_
        refine g_get X FL_X5_145 dX5_makeOffer_38 41 rfl 13 rfl (v := .ref (a 11)) rfl ?_
        refine g_iload X dX5_makeOffer_41 43 rfl rfl ?_
        refine g_zald X dX5_makeOffer_43 44 rfl 15 rfl (by first | exact vA ‹_› | exact vC ‹_› | exact vG ‹_› | assumption | exact vp_in_nI (by omega) (by omega)) ?_
        refine g_if_ne X dX5_makeOffer_44 57 47 rfl rfl (fun c4 => ?_) (fun c4 => ?_)
        · skip
          refine g_aload_n X dX5_makeOffer_57 58 rfl rfl ?_
          refine g_iload X dX5_makeOffer_58 60 rfl rfl ?_
          refine c_V X Lk_X5_152 (k_X5_findConflict E l wr b μ a τ (fCd τ cn g x)) dX5_makeOffer_60 rfl 7 rfl rfl rfl (Nat.le_of_ble_eq_true rfl) ⟨(Nat.le_of_ble_eq_true rfl), (Nat.le_of_ble_eq_true rfl)⟩ ⟨(Nat.le_of_ble_eq_true rfl), (Nat.le_of_ble_eq_true rfl)⟩ 63 rfl [] rfl ?_
          refine g_iinc X dX5_makeOffer_63 66 rfl (by decide) 1 rfl (nI_1 _) [(4, .int (nI (i + 1))), (5, .int (fCd τ cn g x)), (0, .ref (a 3)), (1, .int cn), (2, .int g), (3, .int x)] rfl ?_
          refine g_goto X dX5_makeOffer_66 8 rfl ?_
          refine g_lsub [0, 2, 3, 4, 5] [(4, .int (nI (i + 1))), (0, .ref (a 3)), (1, .int cn), (2, .int g), (3, .int x)] rfl ?_
          exact ih (i + 1) _ (by omega) (by rw [← hv]; simp [mkL, c2, c3, c4])
        · skip
          refine g_aload_n X dX5_makeOffer_47 48 rfl rfl ?_
          refine g_iload_n X dX5_makeOffer_48 49 rfl rfl ?_
          refine g_iload X dX5_makeOffer_49 51 rfl rfl ?_
          refine c_V X Lk_X5_148 (k_X5_holdFor E l wr b μ a τ cn (fCd τ cn g x)) dX5_makeOffer_51 rfl 7 rfl rfl rfl (Nat.le_of_ble_eq_true rfl) ⟨(Nat.le_of_ble_eq_true rfl), (Nat.le_of_ble_eq_true rfl)⟩ ⟨(Nat.le_of_ble_eq_true rfl), (Nat.le_of_ble_eq_true rfl)⟩ 54 rfl [] rfl ?_
          refine g_iload X dX5_makeOffer_54 56 rfl rfl ?_
          exact g_iret X hr dX5_makeOffer_56 () (by rw [← hv]; simp [mkL, c2, c3, c4]) (by rw [← hv]; simp [mkL, c2, c3, c4])
      · skip
        refine g_iconst X dX5_makeOffer_32 33 rfl (v := -1) rfl ?_
        exact g_iret X hr dX5_makeOffer_33 () (by rw [← hv]; simp [mkL, c2, c3]) (by rw [← hv]; simp [mkL, c2, c3])
  exact Lp 100 0 _ rfl rfl

set_option maxHeartbeats 4000000 in
set_option maxRecDepth 100000 in
theorem k_X5_startTerm (E : kE) (l : Launch) (wr : va_W) (b : Nat → Nat) (μ : Sto) (a : Nat → Nat) (σ : Sto) (cn : Int32) (hc : inC cn = true) : KM E l yX5_startTerm cX5_startTerm 4 none 2 44 0 0 [.ref (a 3), .int cn] (WW E b μ a σ wr) none (WW E b μ a (sTm σ cn) wr) := by
  refine K_start (own := RX5) (by decide +kernel) rfl [(0, .ref (a 3)), (1, .int cn)] rfl (Nat.le_of_ble_eq_true rfl) (fun p e s m below meth c X hr hin => ?_)
  refine g_aload_n X dX5_startTerm_0 1 rfl rfl ?_
  refine g_get X FL_X5_28 dX5_startTerm_1 4 rfl 7 rfl (v := .ref (a 16)) rfl ?_
  refine g_get X FL_X5_74 dX5_startTerm_4 7 rfl 20 rfl (v := .ref (a 18)) rfl ?_
  refine g_iload_n X dX5_startTerm_7 8 rfl rfl ?_
  refine g_iald X dX5_startTerm_8 9 rfl 22 rfl (vC hc) ?_
  refine g_istore_n X dX5_startTerm_9 10 rfl (by decide) [(2, .int (σ 12 (ix cn))), (0, .ref (a 3)), (1, .int cn)] rfl ?_
  refine g_aload_n X dX5_startTerm_10 11 rfl rfl ?_
  refine g_get X FL_X5_12 dX5_startTerm_11 14 rfl 7 rfl (v := .ref (a 4)) rfl ?_
  refine g_iload_n X dX5_startTerm_14 15 rfl rfl ?_
  refine c_V X Lk_X5_182 (k_X3_leaseAt E l wr b μ a σ (σ 12 (ix cn))) dX5_startTerm_15 rfl 8 rfl rfl rfl (Nat.le_of_ble_eq_true rfl) ⟨(Nat.le_of_ble_eq_true rfl), (Nat.le_of_ble_eq_true rfl)⟩ ⟨(Nat.le_of_ble_eq_true rfl), (Nat.le_of_ble_eq_true rfl)⟩ 18 rfl [.int (leaAt σ (σ 12 (ix cn)))] rfl ?_
  refine g_istore_n X dX5_startTerm_18 19 rfl (by decide) [(3, .int (leaAt σ (σ 12 (ix cn)))), (2, .int (σ 12 (ix cn))), (0, .ref (a 3)), (1, .int cn)] rfl ?_
  refine g_aload_n X dX5_startTerm_19 20 rfl rfl ?_
  refine g_get X FL_X5_21 dX5_startTerm_20 23 rfl 7 rfl (v := .ref (a 9)) rfl ?_
  refine g_iload_n X dX5_startTerm_23 24 rfl rfl ?_
  refine g_iconst X dX5_startTerm_24 25 rfl (v := 2) rfl ?_
  refine g_iload_n X dX5_startTerm_25 26 rfl rfl ?_
  refine g_aload_n X dX5_startTerm_26 27 rfl rfl ?_
  refine g_get X FL_X5_35 dX5_startTerm_27 30 rfl 7 rfl (v := .ref (a 22)) rfl ?_
  refine g_get X FL_X5_110 dX5_startTerm_30 33 rfl 26 rfl (v := .int (σ 16 0)) rfl ?_
  refine g_iload_n X dX5_startTerm_33 34 rfl rfl ?_
  refine g_iadd X dX5_startTerm_34 35 rfl ?_
  refine c_V X Lk_X5_158 (k_X0_becomeHeld E l wr b μ a σ (σ 12 (ix cn)) 2 cn ((σ 16 0) + (leaAt σ (σ 12 (ix cn))))) dX5_startTerm_35 rfl 13 rfl rfl rfl (Nat.le_of_ble_eq_true rfl) ⟨(Nat.le_of_ble_eq_true rfl), (Nat.le_of_ble_eq_true rfl)⟩ ⟨(Nat.le_of_ble_eq_true rfl), (Nat.le_of_ble_eq_true rfl)⟩ 38 rfl [] rfl ?_
  refine g_aload_n X dX5_startTerm_38 39 rfl rfl ?_
  refine g_get X FL_X5_28 dX5_startTerm_39 42 rfl 7 rfl (v := .ref (a 16)) rfl ?_
  refine g_iload_n X dX5_startTerm_42 43 rfl rfl ?_
  refine g_aload_n X dX5_startTerm_43 44 rfl rfl ?_
  refine g_get X FL_X5_35 dX5_startTerm_44 47 rfl 7 rfl (v := .ref (a 22)) rfl ?_
  refine g_get X FL_X5_110 dX5_startTerm_47 50 rfl 26 rfl (v := .int ((helds σ (σ 12 (ix cn)) 2 cn ((σ 16 0) + (leaAt σ (σ 12 (ix cn))))) 16 0)) rfl ?_
  refine g_iload_n X dX5_startTerm_50 51 rfl rfl ?_
  refine c_V X Lk_X5_185 (k_X1_takeLease E l wr b μ a (helds σ (σ 12 (ix cn)) 2 cn ((σ 16 0) + (leaAt σ (σ 12 (ix cn))))) cn ((helds σ (σ 12 (ix cn)) 2 cn ((σ 16 0) + (leaAt σ (σ 12 (ix cn))))) 16 0) (leaAt σ (σ 12 (ix cn)))) dX5_startTerm_51 rfl 20 rfl rfl rfl (Nat.le_of_ble_eq_true rfl) ⟨(Nat.le_of_ble_eq_true rfl), (Nat.le_of_ble_eq_true rfl)⟩ ⟨(Nat.le_of_ble_eq_true rfl), (Nat.le_of_ble_eq_true rfl)⟩ 54 rfl [] rfl ?_
  exact g_vret X hr dX5_startTerm_54 () rfl rfl

set_option maxHeartbeats 4000000 in
set_option maxRecDepth 100000 in
theorem k_X5_beginLease (E : kE) (l : Launch) (wr : va_W) (b : Nat → Nat) (μ : Sto) (a : Nat → Nat) (σ : Sto) (cn : Int32) : KM E l yX5_beginLease cX5_beginLease 2 none 3 67 0 0 [.ref (a 3), .int cn] (WW E b μ a σ wr) none (WW E b μ a (bLs σ cn) wr) := by
  refine K_start (own := RX5) (by decide +kernel) rfl [(0, .ref (a 3)), (1, .int cn)] rfl (Nat.le_of_ble_eq_true rfl) (fun p e s m below meth c X hr hin => ?_)
  refine g_iload_n X dX5_beginLease_0 1 rfl rfl ?_
  refine c_N X Lk_X5_71 (k_X6_isClient E l wr b μ a σ cn) dX5_beginLease_1 rfl rfl (Nat.le_of_ble_eq_true rfl) ⟨(Nat.le_of_ble_eq_true rfl), (Nat.le_of_ble_eq_true rfl)⟩ ⟨(Nat.le_of_ble_eq_true rfl), (Nat.le_of_ble_eq_true rfl)⟩ 4 rfl [.int (bi (inC cn))] rfl ?_
  refine g_ifb_eq X dX5_beginLease_4 29 7 rfl rfl (fun c1 => ?_) (fun c1 => ?_)
  · skip
    exact g_vret X hr dX5_beginLease_29 () rfl (by simp [bLs, c1])
  · skip
    refine g_aload_n X dX5_beginLease_7 8 rfl rfl ?_
    refine g_iload_n X dX5_beginLease_8 9 rfl rfl ?_
    refine c_V X Lk_X5_179 (k_X5_startTerm E l wr b μ a σ cn c1) dX5_beginLease_9 rfl 7 rfl rfl rfl (Nat.le_of_ble_eq_true rfl) ⟨(Nat.le_of_ble_eq_true rfl), (Nat.le_of_ble_eq_true rfl)⟩ ⟨(Nat.le_of_ble_eq_true rfl), (Nat.le_of_ble_eq_true rfl)⟩ 12 rfl [] rfl ?_
    refine g_aload_n X dX5_beginLease_12 13 rfl rfl ?_
    refine g_get X FL_X5_39 dX5_beginLease_13 16 rfl 7 rfl (v := .ref (a 1)) rfl ?_
    refine g_iconst X dX5_beginLease_16 17 rfl (v := 2) rfl ?_
    refine g_aload_n X dX5_beginLease_17 18 rfl rfl ?_
    refine g_get X FL_X5_28 dX5_beginLease_18 21 rfl 7 rfl (v := .ref (a 16)) rfl ?_
    refine g_get X FL_X5_74 dX5_beginLease_21 24 rfl 20 rfl (v := .ref (a 18)) rfl ?_
    refine g_iload_n X dX5_beginLease_24 25 rfl rfl ?_
    refine g_iald X dX5_beginLease_25 26 rfl 22 rfl (by first | exact vA ‹_› | exact vC ‹_› | exact vG ‹_› | assumption | exact vp_in_nI (by omega) (by omega)) ?_
    refine c_V X Lk_X5_165 (k_X2_write E l wr b μ a (sTm σ cn) 2 (((sTm σ cn) 12) (ix cn))) dX5_beginLease_26 rfl 5 rfl rfl rfl (Nat.le_of_ble_eq_true rfl) ⟨(Nat.le_of_ble_eq_true rfl), (Nat.le_of_ble_eq_true rfl)⟩ ⟨(Nat.le_of_ble_eq_true rfl), (Nat.le_of_ble_eq_true rfl)⟩ 29 rfl [] rfl ?_
    exact g_vret X hr dX5_beginLease_29 () rfl (by simp [bLs, c1])

set_option maxHeartbeats 4000000 in
set_option maxRecDepth 100000 in
theorem k_X5_declineLease (E : kE) (l : Launch) (wr : va_W) (b : Nat → Nat) (μ : Sto) (a : Nat → Nat) (σ : Sto) (cn : Int32) : KM E l yX5_declineLease cX5_declineLease 3 none 3 66 0 0 [.ref (a 3), .int cn] (WW E b μ a σ wr) none (WW E b μ a (dLs σ cn) wr) := by
  refine K_start (own := RX5) (by decide +kernel) rfl [(0, .ref (a 3)), (1, .int cn)] rfl (Nat.le_of_ble_eq_true rfl) (fun p e s m below meth c X hr hin => ?_)
  refine g_iload_n X dX5_declineLease_0 1 rfl rfl ?_
  refine c_N X Lk_X5_71 (k_X6_isClient E l wr b μ a σ cn) dX5_declineLease_1 rfl rfl (Nat.le_of_ble_eq_true rfl) ⟨(Nat.le_of_ble_eq_true rfl), (Nat.le_of_ble_eq_true rfl)⟩ ⟨(Nat.le_of_ble_eq_true rfl), (Nat.le_of_ble_eq_true rfl)⟩ 4 rfl [.int (bi (inC cn))] rfl ?_
  refine g_ifb_eq X dX5_declineLease_4 68 7 rfl rfl (fun c1 => ?_) (fun c1 => ?_)
  · skip
    exact g_vret X hr dX5_declineLease_68 () rfl (by simp [dLs, c1])
  · skip
    refine g_aload_n X dX5_declineLease_7 8 rfl rfl ?_
    refine g_get X FL_X5_28 dX5_declineLease_8 11 rfl 7 rfl (v := .ref (a 16)) rfl ?_
    refine g_get X FL_X5_74 dX5_declineLease_11 14 rfl 20 rfl (v := .ref (a 18)) rfl ?_
    refine g_iload_n X dX5_declineLease_14 15 rfl rfl ?_
    refine g_iald X dX5_declineLease_15 16 rfl 22 rfl (by first | exact vA ‹_› | exact vC ‹_› | exact vG ‹_› | assumption | exact vp_in_nI (by omega) (by omega)) ?_
    refine g_istore_n X dX5_declineLease_16 17 rfl (by decide) [(2, .int (σ 12 (ix cn))), (0, .ref (a 3)), (1, .int cn)] rfl ?_
    refine g_aload_n X dX5_declineLease_17 18 rfl rfl ?_
    refine g_get X FL_X5_21 dX5_declineLease_18 21 rfl 7 rfl (v := .ref (a 9)) rfl ?_
    refine g_iload_n X dX5_declineLease_21 22 rfl rfl ?_
    refine g_aload_n X dX5_declineLease_22 23 rfl rfl ?_
    refine g_get X FL_X5_35 dX5_declineLease_23 26 rfl 7 rfl (v := .ref (a 22)) rfl ?_
    refine g_get X FL_X5_110 dX5_declineLease_26 29 rfl 26 rfl (v := .int (σ 16 0)) rfl ?_
    refine g_aload_n X dX5_declineLease_29 30 rfl rfl ?_
    refine g_get X FL_X5_35 dX5_declineLease_30 33 rfl 7 rfl (v := .ref (a 22)) rfl ?_
    refine g_get X FL_X5_170 dX5_declineLease_33 36 rfl 26 rfl (v := .int (σ 18 0)) rfl ?_
    refine g_iadd X dX5_declineLease_36 37 rfl ?_
    refine c_V X Lk_X5_173 (k_X0_becomeDeclined E l wr b μ a σ (σ 12 (ix cn)) ((σ 16 0) + (σ 18 0))) dX5_declineLease_37 rfl 13 rfl rfl rfl (Nat.le_of_ble_eq_true rfl) ⟨(Nat.le_of_ble_eq_true rfl), (Nat.le_of_ble_eq_true rfl)⟩ ⟨(Nat.le_of_ble_eq_true rfl), (Nat.le_of_ble_eq_true rfl)⟩ 40 rfl [] rfl ?_
    refine g_aload_n X dX5_declineLease_40 41 rfl rfl ?_
    refine g_get X FL_X5_28 dX5_declineLease_41 44 rfl 7 rfl (v := .ref (a 16)) rfl ?_
    refine g_iload_n X dX5_declineLease_44 45 rfl rfl ?_
    refine c_V X Lk_X5_192 (k_X1_becomeIdle E l wr b μ a (helds σ (σ 12 (ix cn)) 3 (-1) ((σ 16 0) + (σ 18 0))) cn) dX5_declineLease_45 rfl 20 rfl rfl rfl (Nat.le_of_ble_eq_true rfl) ⟨(Nat.le_of_ble_eq_true rfl), (Nat.le_of_ble_eq_true rfl)⟩ ⟨(Nat.le_of_ble_eq_true rfl), (Nat.le_of_ble_eq_true rfl)⟩ 48 rfl [] rfl ?_
    refine g_aload_n X dX5_declineLease_48 49 rfl rfl ?_
    refine g_get X FL_X5_28 dX5_declineLease_49 52 rfl 7 rfl (v := .ref (a 16)) rfl ?_
    refine g_get X FL_X5_113 dX5_declineLease_52 55 rfl 20 rfl (v := .ref (a 19)) rfl ?_
    refine g_iload_n X dX5_declineLease_55 56 rfl rfl ?_
    refine g_iconst X dX5_declineLease_56 57 rfl (v := -1) rfl ?_
    refine g_iast X dX5_declineLease_57 58 rfl 23 rfl (by first | exact vA ‹_› | exact vC ‹_› | exact vG ‹_› | assumption | exact vp_in_nI (by omega) (by omega)) (WW E b μ a (put (idles (helds σ (σ 12 (ix cn)) 3 (-1) ((σ 16 0) + (σ 18 0))) cn) 13 (upd ((idles (helds σ (σ 12 (ix cn)) 3 (-1) ((σ 16 0) + (σ 18 0))) cn) 13) (ix cn) (-1))) wr) rfl ?_
    refine g_aload_n X dX5_declineLease_58 59 rfl rfl ?_
    refine g_get X FL_X5_39 dX5_declineLease_59 62 rfl 7 rfl (v := .ref (a 1)) rfl ?_
    refine g_bipush X dX5_declineLease_62 64 rfl (v := 7) rfl ?_
    refine g_iload_n X dX5_declineLease_64 65 rfl rfl ?_
    refine c_V X Lk_X5_165 (k_X2_write E l wr b μ a (put (idles (helds σ (σ 12 (ix cn)) 3 (-1) ((σ 16 0) + (σ 18 0))) cn) 13 (upd ((idles (helds σ (σ 12 (ix cn)) 3 (-1) ((σ 16 0) + (σ 18 0))) cn) 13) (ix cn) (-1))) 7 (σ 12 (ix cn))) dX5_declineLease_65 rfl 5 rfl rfl rfl (Nat.le_of_ble_eq_true rfl) ⟨(Nat.le_of_ble_eq_true rfl), (Nat.le_of_ble_eq_true rfl)⟩ ⟨(Nat.le_of_ble_eq_true rfl), (Nat.le_of_ble_eq_true rfl)⟩ 68 rfl [] rfl ?_
    exact g_vret X hr dX5_declineLease_68 () rfl (by simp [dLs, c1])

set_option maxHeartbeats 4000000 in
set_option maxRecDepth 100000 in
theorem k_X5_renewOrRefuse (E : kE) (l : Launch) (wr : va_W) (b : Nat → Nat) (μ : Sto) (a : Nat → Nat) (σ : Sto) (cn : Int32) : KM E l yX5_renewOrRefuse cX5_renewOrRefuse 3 (some .boolean) 3 67 0 0 [.ref (a 3), .int cn] (WW E b μ a σ wr) (some (.int (bi (rBl σ cn)))) (WW E b μ a (rSt σ cn) wr) := by
  refine K_start (own := RX5) (by decide +kernel) rfl [(0, .ref (a 3)), (1, .int cn)] rfl (Nat.le_of_ble_eq_true rfl) (fun p e s m below meth c X hr hin => ?_)
  refine g_iload_n X dX5_renewOrRefuse_0 1 rfl rfl ?_
  refine c_N X Lk_X5_71 (k_X6_isClient E l wr b μ a σ cn) dX5_renewOrRefuse_1 rfl rfl (Nat.le_of_ble_eq_true rfl) ⟨(Nat.le_of_ble_eq_true rfl), (Nat.le_of_ble_eq_true rfl)⟩ ⟨(Nat.le_of_ble_eq_true rfl), (Nat.le_of_ble_eq_true rfl)⟩ 4 rfl [.int (bi (inC cn))] rfl ?_
  refine g_ifb_eq X dX5_renewOrRefuse_4 19 7 rfl rfl (fun c1 => ?_) (fun c1 => ?_)
  · skip
    refine g_iconst X dX5_renewOrRefuse_19 20 rfl (v := -1) rfl ?_
    refine g_istore_n X dX5_renewOrRefuse_20 21 rfl (by decide) [(2, .int (-1)), (0, .ref (a 3)), (1, .int cn)] rfl ?_
    refine g_iload_n X dX5_renewOrRefuse_21 22 rfl rfl ?_
    refine c_N X Lk_X5_81 (k_X6_isAddress E l wr b μ a σ (-1)) dX5_renewOrRefuse_22 rfl rfl (Nat.le_of_ble_eq_true rfl) ⟨(Nat.le_of_ble_eq_true rfl), (Nat.le_of_ble_eq_true rfl)⟩ ⟨(Nat.le_of_ble_eq_true rfl), (Nat.le_of_ble_eq_true rfl)⟩ 25 rfl [.int (bi (inA (-1)))] rfl ?_
    refine g_ifb_ne X dX5_renewOrRefuse_25 30 28 rfl rfl (fun c2 => absurd c2 (by decide)) (fun c2 => ?_)
    refine g_iconst X dX5_renewOrRefuse_28 29 rfl (v := 0) rfl ?_
    exact g_zret X hr dX5_renewOrRefuse_29 false rfl () (by simp [rBl, rSt, aOf, bi, c1, c2]) (by simp [rBl, rSt, aOf, bi, c1, c2])
  · skip
    refine g_aload_n X dX5_renewOrRefuse_7 8 rfl rfl ?_
    refine g_get X FL_X5_28 dX5_renewOrRefuse_8 11 rfl 7 rfl (v := .ref (a 16)) rfl ?_
    refine g_get X FL_X5_74 dX5_renewOrRefuse_11 14 rfl 20 rfl (v := .ref (a 18)) rfl ?_
    refine g_iload_n X dX5_renewOrRefuse_14 15 rfl rfl ?_
    refine g_iald X dX5_renewOrRefuse_15 16 rfl 22 rfl (by first | exact vA ‹_› | exact vC ‹_› | exact vG ‹_› | assumption | exact vp_in_nI (by omega) (by omega)) ?_
    refine g_goto X dX5_renewOrRefuse_16 20 rfl ?_
    refine g_istore_n X dX5_renewOrRefuse_20 21 rfl (by decide) [(2, .int (σ 12 (ix cn))), (0, .ref (a 3)), (1, .int cn)] rfl ?_
    refine g_iload_n X dX5_renewOrRefuse_21 22 rfl rfl ?_
    refine c_N X Lk_X5_81 (k_X6_isAddress E l wr b μ a σ (σ 12 (ix cn))) dX5_renewOrRefuse_22 rfl rfl (Nat.le_of_ble_eq_true rfl) ⟨(Nat.le_of_ble_eq_true rfl), (Nat.le_of_ble_eq_true rfl)⟩ ⟨(Nat.le_of_ble_eq_true rfl), (Nat.le_of_ble_eq_true rfl)⟩ 25 rfl [.int (bi (inA (σ 12 (ix cn))))] rfl ?_
    refine g_ifb_ne X dX5_renewOrRefuse_25 30 28 rfl rfl (fun c3 => ?_) (fun c3 => ?_)
    · skip
      refine g_aload_n X dX5_renewOrRefuse_30 31 rfl rfl ?_
      refine g_get X FL_X5_21 dX5_renewOrRefuse_31 34 rfl 7 rfl (v := .ref (a 9)) rfl ?_
      refine g_get X FL_X5_195 dX5_renewOrRefuse_34 37 rfl 13 rfl (v := .ref (a 10)) rfl ?_
      refine g_iload_n X dX5_renewOrRefuse_37 38 rfl rfl ?_
      refine g_zald X dX5_renewOrRefuse_38 39 rfl 14 rfl (by first | exact vA ‹_› | exact vC ‹_› | exact vG ‹_› | assumption | exact vp_in_nI (by omega) (by omega)) ?_
      refine g_if_eq X dX5_renewOrRefuse_39 58 42 rfl rfl (fun c4 => ?_) (fun c4 => ?_)
      · skip
        refine g_aload_n X dX5_renewOrRefuse_58 59 rfl rfl ?_
        refine g_iload_n X dX5_renewOrRefuse_59 60 rfl rfl ?_
        refine c_V X Lk_X5_179 (k_X5_startTerm E l wr b μ a σ cn c1) dX5_renewOrRefuse_60 rfl 7 rfl rfl rfl (Nat.le_of_ble_eq_true rfl) ⟨(Nat.le_of_ble_eq_true rfl), (Nat.le_of_ble_eq_true rfl)⟩ ⟨(Nat.le_of_ble_eq_true rfl), (Nat.le_of_ble_eq_true rfl)⟩ 63 rfl [] rfl ?_
        refine g_aload_n X dX5_renewOrRefuse_63 64 rfl rfl ?_
        refine g_get X FL_X5_39 dX5_renewOrRefuse_64 67 rfl 7 rfl (v := .ref (a 1)) rfl ?_
        refine g_iconst X dX5_renewOrRefuse_67 68 rfl (v := 3) rfl ?_
        refine g_iload_n X dX5_renewOrRefuse_68 69 rfl rfl ?_
        refine c_V X Lk_X5_165 (k_X2_write E l wr b μ a (sTm σ cn) 3 (σ 12 (ix cn))) dX5_renewOrRefuse_69 rfl 5 rfl rfl rfl (Nat.le_of_ble_eq_true rfl) ⟨(Nat.le_of_ble_eq_true rfl), (Nat.le_of_ble_eq_true rfl)⟩ ⟨(Nat.le_of_ble_eq_true rfl), (Nat.le_of_ble_eq_true rfl)⟩ 72 rfl [] rfl ?_
        refine g_iconst X dX5_renewOrRefuse_72 73 rfl (v := 1) rfl ?_
        exact g_zret X hr dX5_renewOrRefuse_73 true rfl () (by simp [rBl, rSt, aOf, bi, c1, c3, c4]) (by simp [rBl, rSt, aOf, bi, c1, c3, c4])
      · skip
        refine g_aload_n X dX5_renewOrRefuse_42 43 rfl rfl ?_
        refine g_iload_n X dX5_renewOrRefuse_43 44 rfl rfl ?_
        refine c_V X Lk_X5_138 (k_X5_endHolding E l wr b μ a σ cn) dX5_renewOrRefuse_44 rfl 7 rfl rfl rfl (Nat.le_of_ble_eq_true rfl) ⟨(Nat.le_of_ble_eq_true rfl), (Nat.le_of_ble_eq_true rfl)⟩ ⟨(Nat.le_of_ble_eq_true rfl), (Nat.le_of_ble_eq_true rfl)⟩ 47 rfl [] rfl ?_
        refine g_aload_n X dX5_renewOrRefuse_47 48 rfl rfl ?_
        refine g_get X FL_X5_39 dX5_renewOrRefuse_48 51 rfl 7 rfl (v := .ref (a 1)) rfl ?_
        refine g_iconst X dX5_renewOrRefuse_51 52 rfl (v := 4) rfl ?_
        refine g_iload_n X dX5_renewOrRefuse_52 53 rfl rfl ?_
        refine c_V X Lk_X5_165 (k_X2_write E l wr b μ a (eHd σ cn) 4 (σ 12 (ix cn))) dX5_renewOrRefuse_53 rfl 5 rfl rfl rfl (Nat.le_of_ble_eq_true rfl) ⟨(Nat.le_of_ble_eq_true rfl), (Nat.le_of_ble_eq_true rfl)⟩ ⟨(Nat.le_of_ble_eq_true rfl), (Nat.le_of_ble_eq_true rfl)⟩ 56 rfl [] rfl ?_
        refine g_iconst X dX5_renewOrRefuse_56 57 rfl (v := 0) rfl ?_
        exact g_zret X hr dX5_renewOrRefuse_57 false rfl () (by simp [rBl, rSt, aOf, bi, c1, c3, c4]) (by simp [rBl, rSt, aOf, bi, c1, c3, c4])
    · skip
      refine g_iconst X dX5_renewOrRefuse_28 29 rfl (v := 0) rfl ?_
      exact g_zret X hr dX5_renewOrRefuse_29 false rfl () (by simp [rBl, rSt, aOf, bi, c1, c3]) (by simp [rBl, rSt, aOf, bi, c1, c3])

set_option maxHeartbeats 4000000 in
set_option maxRecDepth 100000 in
theorem k_X5_eventOfClient (E : kE) (l : Launch) (wr : va_W) (b : Nat → Nat) (μ : Sto) (a : Nat → Nat) (σ : Sto) (cn : Int32) (hc : inC cn = true) : KM E l yX5_eventOfClient cX5_eventOfClient 3 (some .int) 1 22 0 0 [.ref (a 3), .int cn] (WW E b μ a σ wr) (some (.int (evC σ cn))) (WW E b μ a σ wr) := by
  refine K_start (own := RX5) (by decide +kernel) rfl [(0, .ref (a 3)), (1, .int cn)] rfl (Nat.le_of_ble_eq_true rfl) (fun p e s m below meth c X hr hin => ?_)
  refine g_aload_n X dX5_eventOfClient_0 1 rfl rfl ?_
  refine g_get X FL_X5_28 dX5_eventOfClient_1 4 rfl 7 rfl (v := .ref (a 16)) rfl ?_
  refine g_get X FL_X5_74 dX5_eventOfClient_4 7 rfl 20 rfl (v := .ref (a 18)) rfl ?_
  refine g_iload_n X dX5_eventOfClient_7 8 rfl rfl ?_
  refine g_iald X dX5_eventOfClient_8 9 rfl 22 rfl (vC hc) ?_
  refine g_istore_n X dX5_eventOfClient_9 10 rfl (by decide) [(2, .int (σ 12 (ix cn))), (0, .ref (a 3)), (1, .int cn)] rfl ?_
  refine g_iload_n X dX5_eventOfClient_10 11 rfl rfl ?_
  refine c_N X Lk_X5_81 (k_X6_isAddress E l wr b μ a σ (σ 12 (ix cn))) dX5_eventOfClient_11 rfl rfl (Nat.le_of_ble_eq_true rfl) ⟨(Nat.le_of_ble_eq_true rfl), (Nat.le_of_ble_eq_true rfl)⟩ ⟨(Nat.le_of_ble_eq_true rfl), (Nat.le_of_ble_eq_true rfl)⟩ 14 rfl [.int (bi (inA (σ 12 (ix cn))))] rfl ?_
  refine g_ifb_ne X dX5_eventOfClient_14 20 17 rfl rfl (fun c1 => ?_) (fun c1 => ?_)
  · skip
    refine g_aload_n X dX5_eventOfClient_20 21 rfl rfl ?_
    refine g_get X FL_X5_28 dX5_eventOfClient_21 24 rfl 7 rfl (v := .ref (a 16)) rfl ?_
    refine g_get X FL_X5_209 dX5_eventOfClient_24 27 rfl 20 rfl (v := .ref (a 17)) rfl ?_
    refine g_iload_n X dX5_eventOfClient_27 28 rfl rfl ?_
    refine g_iald X dX5_eventOfClient_28 29 rfl 21 rfl (vC hc) ?_
    have hsw : (σ 11 (ix cn)) = 1 ∨ (σ 11 (ix cn)) = 2 ∨ (σ 11 (ix cn)) = 3 ∨ (σ 11 (ix cn)) = 4 ∨ ((σ 11 (ix cn)).toInt < 1 ∨ 4 < (σ 11 (ix cn)).toInt) := by
      exact tsw_1_4 _
    rcases hsw with t2 | t3 | t4 | t5 | t6
    · refine g_tableIn X dX5_eventOfClient_29 31 (by rw [t2]; decide) (by rw [t2]; decide) (by rw [t2]; rfl) 60 rfl ?_
      refine g_aload_n X dX5_eventOfClient_60 61 rfl rfl ?_
      refine g_get X FL_X5_21 dX5_eventOfClient_61 64 rfl 7 rfl (v := .ref (a 9)) rfl ?_
      refine g_get X FL_X5_84 dX5_eventOfClient_64 67 rfl 13 rfl (v := .ref (a 14)) rfl ?_
      refine g_iload_n X dX5_eventOfClient_67 68 rfl rfl ?_
      refine g_iald X dX5_eventOfClient_68 69 rfl 18 rfl (by first | exact vA ‹_› | exact vC ‹_› | exact vG ‹_› | assumption | exact vp_in_nI (by omega) (by omega)) ?_
      refine g_iconst X dX5_eventOfClient_69 70 rfl (v := 0) rfl ?_
      refine g_iload_n X dX5_eventOfClient_70 71 rfl rfl ?_
      refine c_N X Lk_X5_215 (k_X6_eventAt E l wr b μ a σ (σ 9 (ix (σ 12 (ix cn)))) 0 (σ 12 (ix cn))) dX5_eventOfClient_71 rfl rfl (Nat.le_of_ble_eq_true rfl) ⟨(Nat.le_of_ble_eq_true rfl), (Nat.le_of_ble_eq_true rfl)⟩ ⟨(Nat.le_of_ble_eq_true rfl), (Nat.le_of_ble_eq_true rfl)⟩ 74 rfl [.int (eventK (σ 9 (ix (σ 12 (ix cn)))) 0 (σ 12 (ix cn)))] rfl ?_
      exact g_iret X hr dX5_eventOfClient_74 () (by simp [evC, c1, t2]) rfl
    · refine g_tableIn X dX5_eventOfClient_29 46 (by rw [t3]; decide) (by rw [t3]; decide) (by rw [t3]; rfl) 75 rfl ?_
      refine g_aload_n X dX5_eventOfClient_75 76 rfl rfl ?_
      refine g_get X FL_X5_28 dX5_eventOfClient_76 79 rfl 7 rfl (v := .ref (a 16)) rfl ?_
      refine g_get X FL_X5_218 dX5_eventOfClient_79 82 rfl 20 rfl (v := .ref (a 20)) rfl ?_
      refine g_iload_n X dX5_eventOfClient_82 83 rfl rfl ?_
      refine g_iald X dX5_eventOfClient_83 84 rfl 24 rfl (vC hc) ?_
      refine g_iconst X dX5_eventOfClient_84 85 rfl (v := 2) rfl ?_
      refine g_iload_n X dX5_eventOfClient_85 86 rfl rfl ?_
      refine c_N X Lk_X5_215 (k_X6_eventAt E l wr b μ a σ (σ 14 (ix cn)) 2 (σ 12 (ix cn))) dX5_eventOfClient_86 rfl rfl (Nat.le_of_ble_eq_true rfl) ⟨(Nat.le_of_ble_eq_true rfl), (Nat.le_of_ble_eq_true rfl)⟩ ⟨(Nat.le_of_ble_eq_true rfl), (Nat.le_of_ble_eq_true rfl)⟩ 89 rfl [.int (eventK (σ 14 (ix cn)) 2 (σ 12 (ix cn)))] rfl ?_
      exact g_iret X hr dX5_eventOfClient_89 () (by simp [evC, c1, t3]) rfl
    · refine g_tableIn X dX5_eventOfClient_29 61 (by rw [t4]; decide) (by rw [t4]; decide) (by rw [t4]; rfl) 90 rfl ?_
      refine g_aload_n X dX5_eventOfClient_90 91 rfl rfl ?_
      refine g_get X FL_X5_28 dX5_eventOfClient_91 94 rfl 7 rfl (v := .ref (a 16)) rfl ?_
      refine g_get X FL_X5_221 dX5_eventOfClient_94 97 rfl 20 rfl (v := .ref (a 21)) rfl ?_
      refine g_iload_n X dX5_eventOfClient_97 98 rfl rfl ?_
      refine g_iald X dX5_eventOfClient_98 99 rfl 25 rfl (vC hc) ?_
      refine g_iconst X dX5_eventOfClient_99 100 rfl (v := 3) rfl ?_
      refine g_iload_n X dX5_eventOfClient_100 101 rfl rfl ?_
      refine c_N X Lk_X5_215 (k_X6_eventAt E l wr b μ a σ (σ 15 (ix cn)) 3 (σ 12 (ix cn))) dX5_eventOfClient_101 rfl rfl (Nat.le_of_ble_eq_true rfl) ⟨(Nat.le_of_ble_eq_true rfl), (Nat.le_of_ble_eq_true rfl)⟩ ⟨(Nat.le_of_ble_eq_true rfl), (Nat.le_of_ble_eq_true rfl)⟩ 104 rfl [.int (eventK (σ 15 (ix cn)) 3 (σ 12 (ix cn)))] rfl ?_
      exact g_iret X hr dX5_eventOfClient_104 () (by simp [evC, c1, t4]) rfl
    · refine g_tableIn X dX5_eventOfClient_29 76 (by rw [t5]; decide) (by rw [t5]; decide) (by rw [t5]; rfl) 105 rfl ?_
      refine g_aload_n X dX5_eventOfClient_105 106 rfl rfl ?_
      refine g_get X FL_X5_21 dX5_eventOfClient_106 109 rfl 7 rfl (v := .ref (a 9)) rfl ?_
      refine g_get X FL_X5_84 dX5_eventOfClient_109 112 rfl 13 rfl (v := .ref (a 14)) rfl ?_
      refine g_iload_n X dX5_eventOfClient_112 113 rfl rfl ?_
      refine g_iald X dX5_eventOfClient_113 114 rfl 18 rfl (by first | exact vA ‹_› | exact vC ‹_› | exact vG ‹_› | assumption | exact vp_in_nI (by omega) (by omega)) ?_
      refine g_iconst X dX5_eventOfClient_114 115 rfl (v := 4) rfl ?_
      refine g_iload_n X dX5_eventOfClient_115 116 rfl rfl ?_
      refine c_N X Lk_X5_215 (k_X6_eventAt E l wr b μ a σ (σ 9 (ix (σ 12 (ix cn)))) 4 (σ 12 (ix cn))) dX5_eventOfClient_116 rfl rfl (Nat.le_of_ble_eq_true rfl) ⟨(Nat.le_of_ble_eq_true rfl), (Nat.le_of_ble_eq_true rfl)⟩ ⟨(Nat.le_of_ble_eq_true rfl), (Nat.le_of_ble_eq_true rfl)⟩ 119 rfl [.int (eventK (σ 9 (ix (σ 12 (ix cn)))) 4 (σ 12 (ix cn)))] rfl ?_
      exact g_iret X hr dX5_eventOfClient_119 () (by simp [evC, c1, t5]) rfl
    · refine g_tableOut X dX5_eventOfClient_29 t6 120 rfl ?_
      refine g_ldc X Co_X5_208 dX5_eventOfClient_120 122 rfl ?_
      exact g_iret X hr dX5_eventOfClient_122 () (by simp [evC, c1, tsw_no t6 (j := 1) (by decide) (by decide), tsw_no t6 (j := 2) (by decide) (by decide), tsw_no t6 (j := 3) (by decide) (by decide), tsw_no t6 (j := 4) (by decide) (by decide)]) rfl
  · skip
    refine g_ldc X Co_X5_208 dX5_eventOfClient_17 19 rfl ?_
    exact g_iret X hr dX5_eventOfClient_19 () (by simp [evC, c1]) rfl

set_option maxHeartbeats 4000000 in
set_option maxRecDepth 100000 in
theorem k_X5_earliestEventOfClients (E : kE) (l : Launch) (wr : va_W) (b : Nat → Nat) (μ : Sto) (a : Nat → Nat) (σ : Sto) : KM E l yX5_earliestEventOfClients cX5_earliestEventOfClients 3 (some .int) 2 44 0 0 [.ref (a 3)] (WW E b μ a σ wr) (some (.int (eeC σ))) (WW E b μ a σ wr) := by
  refine K_start (own := RX5) (by decide +kernel) rfl [(0, .ref (a 3))] rfl (Nat.le_of_ble_eq_true rfl) (fun p e s m below meth c X hr hin => ?_)
  refine g_ldc X Co_X5_208 dX5_earliestEventOfClients_0 2 rfl ?_
  refine g_istore_n X dX5_earliestEventOfClients_2 3 rfl (by decide) [(1, .int 2147483647), (0, .ref (a 3))] rfl ?_
  refine g_iconst X dX5_earliestEventOfClients_3 4 rfl (v := 0) rfl ?_
  refine g_istore_n X dX5_earliestEventOfClients_4 5 rfl (by decide) [(2, .int 0), (1, .int 2147483647), (0, .ref (a 3))] rfl ?_
  have Lp : ∀ (r i : Nat) (z : Int32), (i + r = 20) → (eeL σ i r z = eeC σ) →  G E (va_A (WW E b μ a σ wr) s.heap.size) 3 p l e ({ frames := 2, cells := 0, slots := 0, locals := 44 } : Room) s m (([.ref (a 3)] : List Value).toArray) below meth c (MQ below (KQ E (WW E b μ a σ wr) s.heap.size (fun _ : Unit => (some (.int (eeC σ)))) (fun _ => WW E b μ a σ wr)) (([.ref (a 3)] : List Value).toArray) s 0 0 (va_A (WW E b μ a σ wr) s.heap.size)) 0 0 (WW E b μ a σ wr) 5 [(2, .int (nI i)), (1, .int z), (0, .ref (a 3))] [] := by
    intro r
    induction r with
    | zero =>
      intro i z hi hv
      obtain rfl : i = 20 := by omega
      refine g_iload_n X dX5_earliestEventOfClients_5 6 rfl rfl ?_
      refine g_bipush X dX5_earliestEventOfClients_6 8 rfl (v := 20) rfl ?_
      refine g_ic_ge X dX5_earliestEventOfClients_8 39 11 rfl rfl (fun c1 => ?_) (fun c1 => absurd (by decide) c1)
      refine g_iload_n X dX5_earliestEventOfClients_39 40 rfl rfl ?_
      exact g_iret X hr dX5_earliestEventOfClients_40 () (by rw [← hv]; rfl) rfl
    | succ r ih =>
      intro i z hi hv
      refine g_iload_n X dX5_earliestEventOfClients_5 6 rfl rfl ?_
      refine g_bipush X dX5_earliestEventOfClients_6 8 rfl (v := 20) rfl ?_
      refine g_ic_ge X dX5_earliestEventOfClients_8 39 11 rfl rfl (fun c2 => absurd c2 (nI_ge (b := 20) (by omega) (by decide))) (fun c2 => ?_)
      refine g_aload_n X dX5_earliestEventOfClients_11 12 rfl rfl ?_
      refine g_get X FL_X5_28 dX5_earliestEventOfClients_12 15 rfl 7 rfl (v := .ref (a 16)) rfl ?_
      refine g_get X FL_X5_209 dX5_earliestEventOfClients_15 18 rfl 20 rfl (v := .ref (a 17)) rfl ?_
      refine g_iload_n X dX5_earliestEventOfClients_18 19 rfl rfl ?_
      refine g_ialdN X dX5_earliestEventOfClients_19 20 rfl 21 rfl (by omega) (by decide) ?_
      refine g_if_eq X dX5_earliestEventOfClients_20 33 23 rfl rfl (fun c3 => ?_) (fun c3 => ?_)
      · skip
        refine g_iinc X dX5_earliestEventOfClients_33 36 rfl (by decide) 0 rfl (nI_1 _) [(2, .int (nI (i + 1))), (1, .int z), (0, .ref (a 3))] rfl ?_
        refine g_goto X dX5_earliestEventOfClients_36 5 rfl ?_
        exact ih (i + 1) z (by omega) (by rw [← hv]; simp [eeL, c2, c3])
      · skip
        refine g_iload_n X dX5_earliestEventOfClients_23 24 rfl rfl ?_
        refine g_aload_n X dX5_earliestEventOfClients_24 25 rfl rfl ?_
        refine g_iload_n X dX5_earliestEventOfClients_25 26 rfl rfl ?_
        refine c_V X Lk_X5_212 (k_X5_eventOfClient E l wr b μ a σ (nI i) (inC_n (by omega))) dX5_earliestEventOfClients_26 rfl 7 rfl rfl rfl (Nat.le_of_ble_eq_true rfl) ⟨(Nat.le_of_ble_eq_true rfl), (Nat.le_of_ble_eq_true rfl)⟩ ⟨(Nat.le_of_ble_eq_true rfl), (Nat.le_of_ble_eq_true rfl)⟩ 29 rfl [.int (evC σ (nI i)), .int z] rfl ?_
        refine g_min X Ma_X5_205 dX5_earliestEventOfClients_29 32 rfl (Nat.le_of_ble_eq_true rfl) (Nat.le_of_ble_eq_true rfl) ⟨(Nat.le_of_ble_eq_true rfl), (Nat.le_of_ble_eq_true rfl)⟩ ?_
        refine g_istore_n X dX5_earliestEventOfClients_32 33 rfl (by decide) [(1, .int (if (evC σ (nI i)) < z then (evC σ (nI i)) else z)), (2, .int (nI i)), (0, .ref (a 3))] rfl ?_
        refine g_iinc X dX5_earliestEventOfClients_33 36 rfl (by decide) 1 rfl (nI_1 _) [(2, .int (nI (i + 1))), (1, .int (if (evC σ (nI i)) < z then (evC σ (nI i)) else z)), (0, .ref (a 3))] rfl ?_
        refine g_goto X dX5_earliestEventOfClients_36 5 rfl ?_
        exact ih (i + 1) (if (evC σ (nI i)) < z then (evC σ (nI i)) else z) (by omega) (by rw [← hv]; simp [eeL, c2, c3])
  exact Lp 20 0 2147483647 rfl rfl

set_option maxHeartbeats 4000000 in
set_option maxRecDepth 100000 in
theorem k_X5_earliestEvent (E : kE) (l : Launch) (wr : va_W) (b : Nat → Nat) (μ : Sto) (a : Nat → Nat) (σ : Sto) : KM E l yX5_earliestEvent cX5_earliestEvent 1 (some .int) 3 66 0 0 [.ref (a 3)] (WW E b μ a σ wr) (some (.int (if eqE σ < eeC σ then eqE σ else eeC σ))) (WW E b μ a σ wr) := by
  refine K_start (own := RX5) (by decide +kernel) rfl [(0, .ref (a 3))] rfl (Nat.le_of_ble_eq_true rfl) (fun p e s m below meth c X hr hin => ?_)
  refine g_aload_n X dX5_earliestEvent_0 1 rfl rfl ?_
  refine c_V X Lk_X5_198 (k_X5_earliestEventOfClients E l wr b μ a σ) dX5_earliestEvent_1 rfl 7 rfl rfl rfl (Nat.le_of_ble_eq_true rfl) ⟨(Nat.le_of_ble_eq_true rfl), (Nat.le_of_ble_eq_true rfl)⟩ ⟨(Nat.le_of_ble_eq_true rfl), (Nat.le_of_ble_eq_true rfl)⟩ 4 rfl [.int (eeC σ)] rfl ?_
  refine g_aload_n X dX5_earliestEvent_4 5 rfl rfl ?_
  refine g_get X FL_X5_21 dX5_earliestEvent_5 8 rfl 7 rfl (v := .ref (a 9)) rfl ?_
  refine c_V X Lk_X5_202 (k_X0_earliestQuarantineEnd E l wr b μ a σ) dX5_earliestEvent_8 rfl 13 rfl rfl rfl (Nat.le_of_ble_eq_true rfl) ⟨(Nat.le_of_ble_eq_true rfl), (Nat.le_of_ble_eq_true rfl)⟩ ⟨(Nat.le_of_ble_eq_true rfl), (Nat.le_of_ble_eq_true rfl)⟩ 11 rfl [.int (eqE σ), .int (eeC σ)] rfl ?_
  refine g_min X Ma_X5_205 dX5_earliestEvent_11 14 rfl (Nat.le_of_ble_eq_true rfl) (Nat.le_of_ble_eq_true rfl) ⟨(Nat.le_of_ble_eq_true rfl), (Nat.le_of_ble_eq_true rfl)⟩ ?_
  exact g_iret X hr dX5_earliestEvent_14 () rfl rfl

set_option maxHeartbeats 4000000 in
set_option maxRecDepth 100000 in
theorem k_X5_renewOrTurn (E : kE) (l : Launch) (wr : va_W) (b : Nat → Nat) (μ : Sto) (a : Nat → Nat) (σ : Sto) (cn : Int32) (u : Bool) (v : Int32) : KM E l yX5_renewOrTurn cX5_renewOrTurn 4 none 4 89 0 0 [.ref (a 3), .int cn, .int (bi u), .int v] (WW E b μ a σ wr) none (WW E b μ a (rOT σ cn u v) wr) := by
  refine K_start (own := RX5) (by decide +kernel) rfl [(0, .ref (a 3)), (1, .int cn), (2, .int (bi u)), (3, .int v)] rfl (Nat.le_of_ble_eq_true rfl) (fun p e s m below meth c X hr hin => ?_)
  refine g_iload_n X dX5_renewOrTurn_0 1 rfl rfl ?_
  refine g_ifb_eq X dX5_renewOrTurn_1 13 4 rfl rfl (fun c1 => ?_) (fun c1 => ?_)
  · skip
    refine g_iload_n X dX5_renewOrTurn_13 14 rfl rfl ?_
    refine c_N X Lk_X5_71 (k_X6_isClient E l wr b μ a σ cn) dX5_renewOrTurn_14 rfl rfl (Nat.le_of_ble_eq_true rfl) ⟨(Nat.le_of_ble_eq_true rfl), (Nat.le_of_ble_eq_true rfl)⟩ ⟨(Nat.le_of_ble_eq_true rfl), (Nat.le_of_ble_eq_true rfl)⟩ 17 rfl [.int (bi (inC cn))] rfl ?_
    refine g_ifb_eq X dX5_renewOrTurn_17 30 20 rfl rfl (fun c2 => ?_) (fun c2 => ?_)
    · skip
      exact g_vret X hr dX5_renewOrTurn_30 () rfl (by simp [rOT, c1, c2])
    · skip
      refine g_aload_n X dX5_renewOrTurn_20 21 rfl rfl ?_
      refine g_get X FL_X5_28 dX5_renewOrTurn_21 24 rfl 7 rfl (v := .ref (a 16)) rfl ?_
      refine g_get X FL_X5_209 dX5_renewOrTurn_24 27 rfl 20 rfl (v := .ref (a 17)) rfl ?_
      refine g_iload_n X dX5_renewOrTurn_27 28 rfl rfl ?_
      refine g_iload_n X dX5_renewOrTurn_28 29 rfl rfl ?_
      refine g_iast X dX5_renewOrTurn_29 30 rfl 21 rfl (by first | exact vA ‹_› | exact vC ‹_› | exact vG ‹_› | assumption | exact vp_in_nI (by omega) (by omega)) (WW E b μ a (put σ 11 (upd (σ 11) (ix cn) v)) wr) rfl ?_
      exact g_vret X hr dX5_renewOrTurn_30 () rfl (by simp [rOT, c1, c2])
  · skip
    refine g_aload_n X dX5_renewOrTurn_4 5 rfl rfl ?_
    refine g_iload_n X dX5_renewOrTurn_5 6 rfl rfl ?_
    refine c_V X Lk_X5_250 (k_X5_renewOrRefuse E l wr b μ a σ cn) dX5_renewOrTurn_6 rfl 7 rfl rfl rfl (Nat.le_of_ble_eq_true rfl) ⟨(Nat.le_of_ble_eq_true rfl), (Nat.le_of_ble_eq_true rfl)⟩ ⟨(Nat.le_of_ble_eq_true rfl), (Nat.le_of_ble_eq_true rfl)⟩ 9 rfl [.int (bi (rBl σ cn))] rfl ?_
    refine g_pop X dX5_renewOrTurn_9 10 rfl rfl ?_
    refine g_goto X dX5_renewOrTurn_10 30 rfl ?_
    exact g_vret X hr dX5_renewOrTurn_30 () rfl (by simp [rOT, c1])

set_option maxHeartbeats 4000000 in
set_option maxRecDepth 100000 in
theorem k_X5_carryOut (E : kE) (l : Launch) (wr : va_W) (b : Nat → Nat) (μ : Sto) (a : Nat → Nat) (σ : Sto) (x : Int32) : KM E l yX5_carryOut cX5_carryOut 4 none 5 112 0 0 [.ref (a 3), .int x] (WW E b μ a σ wr) none (WW E b μ a (cOE σ x) wr) := by
  refine K_start (own := RX5) (by decide +kernel) rfl [(0, .ref (a 3)), (1, .int x)] rfl (Nat.le_of_ble_eq_true rfl) (fun p e s m below meth c X hr hin => ?_)
  refine g_iload_n X dX5_carryOut_0 1 rfl rfl ?_
  refine c_N X Lk_X5_234 (k_X6_addressOfEvent E l wr b μ a σ x) dX5_carryOut_1 rfl rfl (Nat.le_of_ble_eq_true rfl) ⟨(Nat.le_of_ble_eq_true rfl), (Nat.le_of_ble_eq_true rfl)⟩ ⟨(Nat.le_of_ble_eq_true rfl), (Nat.le_of_ble_eq_true rfl)⟩ 4 rfl [.int (x - x / 100 * 100)] rfl ?_
  refine g_istore_n X dX5_carryOut_4 5 rfl (by decide) [(2, .int (x - x / 100 * 100)), (0, .ref (a 3)), (1, .int x)] rfl ?_
  refine g_iload_n X dX5_carryOut_5 6 rfl rfl ?_
  refine c_N X Lk_X5_81 (k_X6_isAddress E l wr b μ a σ (x - x / 100 * 100)) dX5_carryOut_6 rfl rfl (Nat.le_of_ble_eq_true rfl) ⟨(Nat.le_of_ble_eq_true rfl), (Nat.le_of_ble_eq_true rfl)⟩ ⟨(Nat.le_of_ble_eq_true rfl), (Nat.le_of_ble_eq_true rfl)⟩ 9 rfl [.int (bi (inA (x - x / 100 * 100)))] rfl ?_
  refine g_ifb_eq X dX5_carryOut_9 24 12 rfl rfl (fun c1 => ?_) (fun c1 => ?_)
  · skip
    refine g_iconst X dX5_carryOut_24 25 rfl (v := -1) rfl ?_
    refine g_istore_n X dX5_carryOut_25 26 rfl (by decide) [(3, .int (-1)), (2, .int (x - x / 100 * 100)), (0, .ref (a 3)), (1, .int x)] rfl ?_
    refine g_aload_n X dX5_carryOut_26 27 rfl rfl ?_
    refine g_get X FL_X5_35 dX5_carryOut_27 30 rfl 7 rfl (v := .ref (a 22)) rfl ?_
    refine g_iload_n X dX5_carryOut_30 31 rfl rfl ?_
    refine c_N X Lk_X5_225 (k_X6_timeOfEvent E l wr b μ a σ x) dX5_carryOut_31 rfl rfl (Nat.le_of_ble_eq_true rfl) ⟨(Nat.le_of_ble_eq_true rfl), (Nat.le_of_ble_eq_true rfl)⟩ ⟨(Nat.le_of_ble_eq_true rfl), (Nat.le_of_ble_eq_true rfl)⟩ 34 rfl [.int (x / 100 / 5), .ref (a 22)] rfl ?_
    refine g_put X FL_X5_110 fk_X4 dX5_carryOut_34 37 rfl rfl 26 rfl rfl rfl (Nat.le_of_ble_eq_true rfl) (WW E b μ a (put σ 16 (sc (x / 100 / 5))) wr) rfl ?_
    refine g_iload_n X dX5_carryOut_37 38 rfl rfl ?_
    refine c_N X Lk_X5_231 (k_X6_kindOfEvent E l wr b μ a (put σ 16 (sc (x / 100 / 5))) x) dX5_carryOut_38 rfl rfl (Nat.le_of_ble_eq_true rfl) ⟨(Nat.le_of_ble_eq_true rfl), (Nat.le_of_ble_eq_true rfl)⟩ ⟨(Nat.le_of_ble_eq_true rfl), (Nat.le_of_ble_eq_true rfl)⟩ 41 rfl [.int (x / 100 - x / 100 / 5 * 5)] rfl ?_
    have hsw : (x / 100 - x / 100 / 5 * 5) = 0 ∨ (x / 100 - x / 100 / 5 * 5) = 1 ∨ (x / 100 - x / 100 / 5 * 5) = 2 ∨ (x / 100 - x / 100 / 5 * 5) = 3 ∨ (x / 100 - x / 100 / 5 * 5) = 4 ∨ ((x / 100 - x / 100 / 5 * 5).toInt < 0 ∨ 4 < (x / 100 - x / 100 / 5 * 5).toInt) := by
      exact tsw_5 _
    rcases hsw with t2 | t3 | t4 | t5 | t6 | t7
    · refine g_tableIn X dX5_carryOut_41 35 (by rw [t2]; decide) (by rw [t2]; decide) (by rw [t2]; rfl) 76 rfl ?_
      refine g_aload_n X dX5_carryOut_76 77 rfl rfl ?_
      refine g_iload_n X dX5_carryOut_77 78 rfl rfl ?_
      refine c_V X Lk_X5_138 (k_X5_endHolding E l wr b μ a (put σ 16 (sc (x / 100 / 5))) (-1)) dX5_carryOut_78 rfl 7 rfl rfl rfl (Nat.le_of_ble_eq_true rfl) ⟨(Nat.le_of_ble_eq_true rfl), (Nat.le_of_ble_eq_true rfl)⟩ ⟨(Nat.le_of_ble_eq_true rfl), (Nat.le_of_ble_eq_true rfl)⟩ 81 rfl [] rfl ?_
      refine g_aload_n X dX5_carryOut_81 82 rfl rfl ?_
      refine g_get X FL_X5_39 dX5_carryOut_82 85 rfl 7 rfl (v := .ref (a 1)) rfl ?_
      refine g_bipush X dX5_carryOut_85 87 rfl (v := 9) rfl ?_
      refine g_iload_n X dX5_carryOut_87 88 rfl rfl ?_
      refine c_V X Lk_X5_165 (k_X2_write E l wr b μ a (eHd (put σ 16 (sc (x / 100 / 5))) (-1)) 9 (x - x / 100 * 100)) dX5_carryOut_88 rfl 5 rfl rfl rfl (Nat.le_of_ble_eq_true rfl) ⟨(Nat.le_of_ble_eq_true rfl), (Nat.le_of_ble_eq_true rfl)⟩ ⟨(Nat.le_of_ble_eq_true rfl), (Nat.le_of_ble_eq_true rfl)⟩ 91 rfl [] rfl ?_
      refine g_goto X dX5_carryOut_91 157 rfl ?_
      exact g_vret X hr dX5_carryOut_157 () rfl (by simp [cOE, kdE, cFH, hoE, c1, t2])
    · refine g_tableIn X dX5_carryOut_41 53 (by rw [t3]; decide) (by rw [t3]; decide) (by rw [t3]; rfl) 94 rfl ?_
      refine g_aload_n X dX5_carryOut_94 95 rfl rfl ?_
      refine g_get X FL_X5_21 dX5_carryOut_95 98 rfl 7 rfl (v := .ref (a 9)) rfl ?_
      refine g_iload_n X dX5_carryOut_98 99 rfl rfl ?_
      refine g_aload_n X dX5_carryOut_99 100 rfl rfl ?_
      refine g_get X FL_X5_35 dX5_carryOut_100 103 rfl 7 rfl (v := .ref (a 22)) rfl ?_
      refine g_get X FL_X5_110 dX5_carryOut_103 106 rfl 26 rfl (v := .int (x / 100 / 5)) rfl ?_
      refine c_V X Lk_X5_189 (k_X0_becomeFree E l wr b μ a (put σ 16 (sc (x / 100 / 5))) (x - x / 100 * 100) (x / 100 / 5)) dX5_carryOut_106 rfl 13 rfl rfl rfl (Nat.le_of_ble_eq_true rfl) ⟨(Nat.le_of_ble_eq_true rfl), (Nat.le_of_ble_eq_true rfl)⟩ ⟨(Nat.le_of_ble_eq_true rfl), (Nat.le_of_ble_eq_true rfl)⟩ 109 rfl [] rfl ?_
      refine g_goto X dX5_carryOut_109 157 rfl ?_
      exact g_vret X hr dX5_carryOut_157 () rfl (by simp [cOE, kdE, cFH, hoE, c1, t3])
    · refine g_tableIn X dX5_carryOut_41 71 (by rw [t4]; decide) (by rw [t4]; decide) (by rw [t4]; rfl) 112 rfl ?_
      refine g_aload_n X dX5_carryOut_112 113 rfl rfl ?_
      refine g_iload_n X dX5_carryOut_113 114 rfl rfl ?_
      refine g_aload_n X dX5_carryOut_114 115 rfl rfl ?_
      refine g_iload_n X dX5_carryOut_115 116 rfl rfl ?_
      refine c_V X Lk_X5_240 (k_X5_directUpFor E l wr b μ a (put σ 16 (sc (x / 100 / 5))) (-1)) dX5_carryOut_116 rfl 7 rfl rfl rfl (Nat.le_of_ble_eq_true rfl) ⟨(Nat.le_of_ble_eq_true rfl), (Nat.le_of_ble_eq_true rfl)⟩ ⟨(Nat.le_of_ble_eq_true rfl), (Nat.le_of_ble_eq_true rfl)⟩ 119 rfl [.int (bi (dUp (put σ 16 (sc (x / 100 / 5))) (-1))), .int (-1), .ref (a 3)] rfl ?_
      refine g_iconst X dX5_carryOut_119 120 rfl (v := 3) rfl ?_
      refine c_V X Lk_X5_243 (k_X5_renewOrTurn E l wr b μ a (put σ 16 (sc (x / 100 / 5))) (-1) (dUp (put σ 16 (sc (x / 100 / 5))) (-1)) 3) dX5_carryOut_120 rfl 7 rfl rfl rfl (Nat.le_of_ble_eq_true rfl) ⟨(Nat.le_of_ble_eq_true rfl), (Nat.le_of_ble_eq_true rfl)⟩ ⟨(Nat.le_of_ble_eq_true rfl), (Nat.le_of_ble_eq_true rfl)⟩ 123 rfl [] rfl ?_
      refine g_goto X dX5_carryOut_123 157 rfl ?_
      exact g_vret X hr dX5_carryOut_157 () rfl (by simp [cOE, kdE, cFH, hoE, c1, t4])
    · refine g_tableIn X dX5_carryOut_41 85 (by rw [t5]; decide) (by rw [t5]; decide) (by rw [t5]; rfl) 126 rfl ?_
      refine g_aload_n X dX5_carryOut_126 127 rfl rfl ?_
      refine g_iload_n X dX5_carryOut_127 128 rfl rfl ?_
      refine g_aload_n X dX5_carryOut_128 129 rfl rfl ?_
      refine g_iload_n X dX5_carryOut_129 130 rfl rfl ?_
      refine c_V X Lk_X5_247 (k_X5_relayUpFor E l wr b μ a (put σ 16 (sc (x / 100 / 5))) (-1)) dX5_carryOut_130 rfl 7 rfl rfl rfl (Nat.le_of_ble_eq_true rfl) ⟨(Nat.le_of_ble_eq_true rfl), (Nat.le_of_ble_eq_true rfl)⟩ ⟨(Nat.le_of_ble_eq_true rfl), (Nat.le_of_ble_eq_true rfl)⟩ 133 rfl [.int (bi (rUp (put σ 16 (sc (x / 100 / 5))) (-1))), .int (-1), .ref (a 3)] rfl ?_
      refine g_iconst X dX5_carryOut_133 134 rfl (v := 4) rfl ?_
      refine c_V X Lk_X5_243 (k_X5_renewOrTurn E l wr b μ a (put σ 16 (sc (x / 100 / 5))) (-1) (rUp (put σ 16 (sc (x / 100 / 5))) (-1)) 4) dX5_carryOut_134 rfl 7 rfl rfl rfl (Nat.le_of_ble_eq_true rfl) ⟨(Nat.le_of_ble_eq_true rfl), (Nat.le_of_ble_eq_true rfl)⟩ ⟨(Nat.le_of_ble_eq_true rfl), (Nat.le_of_ble_eq_true rfl)⟩ 137 rfl [] rfl ?_
      refine g_goto X dX5_carryOut_137 157 rfl ?_
      exact g_vret X hr dX5_carryOut_157 () rfl (by simp [cOE, kdE, cFH, hoE, c1, t5])
    · refine g_tableIn X dX5_carryOut_41 99 (by rw [t6]; decide) (by rw [t6]; decide) (by rw [t6]; rfl) 140 rfl ?_
      refine g_aload_n X dX5_carryOut_140 141 rfl rfl ?_
      refine g_iload_n X dX5_carryOut_141 142 rfl rfl ?_
      refine c_V X Lk_X5_138 (k_X5_endHolding E l wr b μ a (put σ 16 (sc (x / 100 / 5))) (-1)) dX5_carryOut_142 rfl 7 rfl rfl rfl (Nat.le_of_ble_eq_true rfl) ⟨(Nat.le_of_ble_eq_true rfl), (Nat.le_of_ble_eq_true rfl)⟩ ⟨(Nat.le_of_ble_eq_true rfl), (Nat.le_of_ble_eq_true rfl)⟩ 145 rfl [] rfl ?_
      refine g_aload_n X dX5_carryOut_145 146 rfl rfl ?_
      refine g_get X FL_X5_39 dX5_carryOut_146 149 rfl 7 rfl (v := .ref (a 1)) rfl ?_
      refine g_iconst X dX5_carryOut_149 150 rfl (v := 5) rfl ?_
      refine g_iload_n X dX5_carryOut_150 151 rfl rfl ?_
      refine c_V X Lk_X5_165 (k_X2_write E l wr b μ a (eHd (put σ 16 (sc (x / 100 / 5))) (-1)) 5 (x - x / 100 * 100)) dX5_carryOut_151 rfl 5 rfl rfl rfl (Nat.le_of_ble_eq_true rfl) ⟨(Nat.le_of_ble_eq_true rfl), (Nat.le_of_ble_eq_true rfl)⟩ ⟨(Nat.le_of_ble_eq_true rfl), (Nat.le_of_ble_eq_true rfl)⟩ 154 rfl [] rfl ?_
      refine g_goto X dX5_carryOut_154 157 rfl ?_
      exact g_vret X hr dX5_carryOut_157 () rfl (by simp [cOE, kdE, cFH, hoE, c1, t6])
    · refine g_tableOut X dX5_carryOut_41 t7 157 rfl ?_
      exact g_vret X hr dX5_carryOut_157 () rfl (by simp [cOE, kdE, cFH, hoE, c1, tsw_no t7 (j := 0) (by decide) (by decide), tsw_no t7 (j := 1) (by decide) (by decide), tsw_no t7 (j := 2) (by decide) (by decide), tsw_no t7 (j := 3) (by decide) (by decide), tsw_no t7 (j := 4) (by decide) (by decide)])
  · skip
    refine g_aload_n X dX5_carryOut_12 13 rfl rfl ?_
    refine g_get X FL_X5_21 dX5_carryOut_13 16 rfl 7 rfl (v := .ref (a 9)) rfl ?_
    refine g_get X FL_X5_237 dX5_carryOut_16 19 rfl 13 rfl (v := .ref (a 13)) rfl ?_
    refine g_iload_n X dX5_carryOut_19 20 rfl rfl ?_
    refine g_iald X dX5_carryOut_20 21 rfl 17 rfl (by first | exact vA ‹_› | exact vC ‹_› | exact vG ‹_› | assumption | exact vp_in_nI (by omega) (by omega)) ?_
    refine g_goto X dX5_carryOut_21 25 rfl ?_
    refine g_istore_n X dX5_carryOut_25 26 rfl (by decide) [(3, .int (σ 8 (ix (x - x / 100 * 100)))), (2, .int (x - x / 100 * 100)), (0, .ref (a 3)), (1, .int x)] rfl ?_
    refine g_aload_n X dX5_carryOut_26 27 rfl rfl ?_
    refine g_get X FL_X5_35 dX5_carryOut_27 30 rfl 7 rfl (v := .ref (a 22)) rfl ?_
    refine g_iload_n X dX5_carryOut_30 31 rfl rfl ?_
    refine c_N X Lk_X5_225 (k_X6_timeOfEvent E l wr b μ a σ x) dX5_carryOut_31 rfl rfl (Nat.le_of_ble_eq_true rfl) ⟨(Nat.le_of_ble_eq_true rfl), (Nat.le_of_ble_eq_true rfl)⟩ ⟨(Nat.le_of_ble_eq_true rfl), (Nat.le_of_ble_eq_true rfl)⟩ 34 rfl [.int (x / 100 / 5), .ref (a 22)] rfl ?_
    refine g_put X FL_X5_110 fk_X4 dX5_carryOut_34 37 rfl rfl 26 rfl rfl rfl (Nat.le_of_ble_eq_true rfl) (WW E b μ a (put σ 16 (sc (x / 100 / 5))) wr) rfl ?_
    refine g_iload_n X dX5_carryOut_37 38 rfl rfl ?_
    refine c_N X Lk_X5_231 (k_X6_kindOfEvent E l wr b μ a (put σ 16 (sc (x / 100 / 5))) x) dX5_carryOut_38 rfl rfl (Nat.le_of_ble_eq_true rfl) ⟨(Nat.le_of_ble_eq_true rfl), (Nat.le_of_ble_eq_true rfl)⟩ ⟨(Nat.le_of_ble_eq_true rfl), (Nat.le_of_ble_eq_true rfl)⟩ 41 rfl [.int (x / 100 - x / 100 / 5 * 5)] rfl ?_
    have hsw : (x / 100 - x / 100 / 5 * 5) = 0 ∨ (x / 100 - x / 100 / 5 * 5) = 1 ∨ (x / 100 - x / 100 / 5 * 5) = 2 ∨ (x / 100 - x / 100 / 5 * 5) = 3 ∨ (x / 100 - x / 100 / 5 * 5) = 4 ∨ ((x / 100 - x / 100 / 5 * 5).toInt < 0 ∨ 4 < (x / 100 - x / 100 / 5 * 5).toInt) := by
      exact tsw_5 _
    rcases hsw with t8 | t9 | t10 | t11 | t12 | t13
    · refine g_tableIn X dX5_carryOut_41 35 (by rw [t8]; decide) (by rw [t8]; decide) (by rw [t8]; rfl) 76 rfl ?_
      refine g_aload_n X dX5_carryOut_76 77 rfl rfl ?_
      refine g_iload_n X dX5_carryOut_77 78 rfl rfl ?_
      refine c_V X Lk_X5_138 (k_X5_endHolding E l wr b μ a (put σ 16 (sc (x / 100 / 5))) (σ 8 (ix (x - x / 100 * 100)))) dX5_carryOut_78 rfl 7 rfl rfl rfl (Nat.le_of_ble_eq_true rfl) ⟨(Nat.le_of_ble_eq_true rfl), (Nat.le_of_ble_eq_true rfl)⟩ ⟨(Nat.le_of_ble_eq_true rfl), (Nat.le_of_ble_eq_true rfl)⟩ 81 rfl [] rfl ?_
      refine g_aload_n X dX5_carryOut_81 82 rfl rfl ?_
      refine g_get X FL_X5_39 dX5_carryOut_82 85 rfl 7 rfl (v := .ref (a 1)) rfl ?_
      refine g_bipush X dX5_carryOut_85 87 rfl (v := 9) rfl ?_
      refine g_iload_n X dX5_carryOut_87 88 rfl rfl ?_
      refine c_V X Lk_X5_165 (k_X2_write E l wr b μ a (eHd (put σ 16 (sc (x / 100 / 5))) (σ 8 (ix (x - x / 100 * 100)))) 9 (x - x / 100 * 100)) dX5_carryOut_88 rfl 5 rfl rfl rfl (Nat.le_of_ble_eq_true rfl) ⟨(Nat.le_of_ble_eq_true rfl), (Nat.le_of_ble_eq_true rfl)⟩ ⟨(Nat.le_of_ble_eq_true rfl), (Nat.le_of_ble_eq_true rfl)⟩ 91 rfl [] rfl ?_
      refine g_goto X dX5_carryOut_91 157 rfl ?_
      exact g_vret X hr dX5_carryOut_157 () rfl (by simp [cOE, kdE, cFH, hoE, c1, t8])
    · refine g_tableIn X dX5_carryOut_41 53 (by rw [t9]; decide) (by rw [t9]; decide) (by rw [t9]; rfl) 94 rfl ?_
      refine g_aload_n X dX5_carryOut_94 95 rfl rfl ?_
      refine g_get X FL_X5_21 dX5_carryOut_95 98 rfl 7 rfl (v := .ref (a 9)) rfl ?_
      refine g_iload_n X dX5_carryOut_98 99 rfl rfl ?_
      refine g_aload_n X dX5_carryOut_99 100 rfl rfl ?_
      refine g_get X FL_X5_35 dX5_carryOut_100 103 rfl 7 rfl (v := .ref (a 22)) rfl ?_
      refine g_get X FL_X5_110 dX5_carryOut_103 106 rfl 26 rfl (v := .int (x / 100 / 5)) rfl ?_
      refine c_V X Lk_X5_189 (k_X0_becomeFree E l wr b μ a (put σ 16 (sc (x / 100 / 5))) (x - x / 100 * 100) (x / 100 / 5)) dX5_carryOut_106 rfl 13 rfl rfl rfl (Nat.le_of_ble_eq_true rfl) ⟨(Nat.le_of_ble_eq_true rfl), (Nat.le_of_ble_eq_true rfl)⟩ ⟨(Nat.le_of_ble_eq_true rfl), (Nat.le_of_ble_eq_true rfl)⟩ 109 rfl [] rfl ?_
      refine g_goto X dX5_carryOut_109 157 rfl ?_
      exact g_vret X hr dX5_carryOut_157 () rfl (by simp [cOE, kdE, cFH, hoE, c1, t9])
    · refine g_tableIn X dX5_carryOut_41 71 (by rw [t10]; decide) (by rw [t10]; decide) (by rw [t10]; rfl) 112 rfl ?_
      refine g_aload_n X dX5_carryOut_112 113 rfl rfl ?_
      refine g_iload_n X dX5_carryOut_113 114 rfl rfl ?_
      refine g_aload_n X dX5_carryOut_114 115 rfl rfl ?_
      refine g_iload_n X dX5_carryOut_115 116 rfl rfl ?_
      refine c_V X Lk_X5_240 (k_X5_directUpFor E l wr b μ a (put σ 16 (sc (x / 100 / 5))) (σ 8 (ix (x - x / 100 * 100)))) dX5_carryOut_116 rfl 7 rfl rfl rfl (Nat.le_of_ble_eq_true rfl) ⟨(Nat.le_of_ble_eq_true rfl), (Nat.le_of_ble_eq_true rfl)⟩ ⟨(Nat.le_of_ble_eq_true rfl), (Nat.le_of_ble_eq_true rfl)⟩ 119 rfl [.int (bi (dUp (put σ 16 (sc (x / 100 / 5))) (σ 8 (ix (x - x / 100 * 100))))), .int (σ 8 (ix (x - x / 100 * 100))), .ref (a 3)] rfl ?_
      refine g_iconst X dX5_carryOut_119 120 rfl (v := 3) rfl ?_
      refine c_V X Lk_X5_243 (k_X5_renewOrTurn E l wr b μ a (put σ 16 (sc (x / 100 / 5))) (σ 8 (ix (x - x / 100 * 100))) (dUp (put σ 16 (sc (x / 100 / 5))) (σ 8 (ix (x - x / 100 * 100)))) 3) dX5_carryOut_120 rfl 7 rfl rfl rfl (Nat.le_of_ble_eq_true rfl) ⟨(Nat.le_of_ble_eq_true rfl), (Nat.le_of_ble_eq_true rfl)⟩ ⟨(Nat.le_of_ble_eq_true rfl), (Nat.le_of_ble_eq_true rfl)⟩ 123 rfl [] rfl ?_
      refine g_goto X dX5_carryOut_123 157 rfl ?_
      exact g_vret X hr dX5_carryOut_157 () rfl (by simp [cOE, kdE, cFH, hoE, c1, t10])
    · refine g_tableIn X dX5_carryOut_41 85 (by rw [t11]; decide) (by rw [t11]; decide) (by rw [t11]; rfl) 126 rfl ?_
      refine g_aload_n X dX5_carryOut_126 127 rfl rfl ?_
      refine g_iload_n X dX5_carryOut_127 128 rfl rfl ?_
      refine g_aload_n X dX5_carryOut_128 129 rfl rfl ?_
      refine g_iload_n X dX5_carryOut_129 130 rfl rfl ?_
      refine c_V X Lk_X5_247 (k_X5_relayUpFor E l wr b μ a (put σ 16 (sc (x / 100 / 5))) (σ 8 (ix (x - x / 100 * 100)))) dX5_carryOut_130 rfl 7 rfl rfl rfl (Nat.le_of_ble_eq_true rfl) ⟨(Nat.le_of_ble_eq_true rfl), (Nat.le_of_ble_eq_true rfl)⟩ ⟨(Nat.le_of_ble_eq_true rfl), (Nat.le_of_ble_eq_true rfl)⟩ 133 rfl [.int (bi (rUp (put σ 16 (sc (x / 100 / 5))) (σ 8 (ix (x - x / 100 * 100))))), .int (σ 8 (ix (x - x / 100 * 100))), .ref (a 3)] rfl ?_
      refine g_iconst X dX5_carryOut_133 134 rfl (v := 4) rfl ?_
      refine c_V X Lk_X5_243 (k_X5_renewOrTurn E l wr b μ a (put σ 16 (sc (x / 100 / 5))) (σ 8 (ix (x - x / 100 * 100))) (rUp (put σ 16 (sc (x / 100 / 5))) (σ 8 (ix (x - x / 100 * 100)))) 4) dX5_carryOut_134 rfl 7 rfl rfl rfl (Nat.le_of_ble_eq_true rfl) ⟨(Nat.le_of_ble_eq_true rfl), (Nat.le_of_ble_eq_true rfl)⟩ ⟨(Nat.le_of_ble_eq_true rfl), (Nat.le_of_ble_eq_true rfl)⟩ 137 rfl [] rfl ?_
      refine g_goto X dX5_carryOut_137 157 rfl ?_
      exact g_vret X hr dX5_carryOut_157 () rfl (by simp [cOE, kdE, cFH, hoE, c1, t11])
    · refine g_tableIn X dX5_carryOut_41 99 (by rw [t12]; decide) (by rw [t12]; decide) (by rw [t12]; rfl) 140 rfl ?_
      refine g_aload_n X dX5_carryOut_140 141 rfl rfl ?_
      refine g_iload_n X dX5_carryOut_141 142 rfl rfl ?_
      refine c_V X Lk_X5_138 (k_X5_endHolding E l wr b μ a (put σ 16 (sc (x / 100 / 5))) (σ 8 (ix (x - x / 100 * 100)))) dX5_carryOut_142 rfl 7 rfl rfl rfl (Nat.le_of_ble_eq_true rfl) ⟨(Nat.le_of_ble_eq_true rfl), (Nat.le_of_ble_eq_true rfl)⟩ ⟨(Nat.le_of_ble_eq_true rfl), (Nat.le_of_ble_eq_true rfl)⟩ 145 rfl [] rfl ?_
      refine g_aload_n X dX5_carryOut_145 146 rfl rfl ?_
      refine g_get X FL_X5_39 dX5_carryOut_146 149 rfl 7 rfl (v := .ref (a 1)) rfl ?_
      refine g_iconst X dX5_carryOut_149 150 rfl (v := 5) rfl ?_
      refine g_iload_n X dX5_carryOut_150 151 rfl rfl ?_
      refine c_V X Lk_X5_165 (k_X2_write E l wr b μ a (eHd (put σ 16 (sc (x / 100 / 5))) (σ 8 (ix (x - x / 100 * 100)))) 5 (x - x / 100 * 100)) dX5_carryOut_151 rfl 5 rfl rfl rfl (Nat.le_of_ble_eq_true rfl) ⟨(Nat.le_of_ble_eq_true rfl), (Nat.le_of_ble_eq_true rfl)⟩ ⟨(Nat.le_of_ble_eq_true rfl), (Nat.le_of_ble_eq_true rfl)⟩ 154 rfl [] rfl ?_
      refine g_goto X dX5_carryOut_154 157 rfl ?_
      exact g_vret X hr dX5_carryOut_157 () rfl (by simp [cOE, kdE, cFH, hoE, c1, t12])
    · refine g_tableOut X dX5_carryOut_41 t13 157 rfl ?_
      exact g_vret X hr dX5_carryOut_157 () rfl (by simp [cOE, kdE, cFH, hoE, c1, tsw_no t13 (j := 0) (by decide) (by decide), tsw_no t13 (j := 1) (by decide) (by decide), tsw_no t13 (j := 2) (by decide) (by decide), tsw_no t13 (j := 3) (by decide) (by decide), tsw_no t13 (j := 4) (by decide) (by decide)])

set_option maxHeartbeats 4000000 in
set_option maxRecDepth 100000 in
theorem k_X5_passTimeTo (E : kE) (l : Launch) (wr : va_W) (b : Nat → Nat) (μ : Sto) (a : Nat → Nat) (σ : Sto) (y : Int32) : KM E l yX5_passTimeTo cX5_passTimeTo 5 (some .int) 6 135 0 0 [.ref (a 3), .int y] (WW E b μ a σ wr) (some (.int ((PT σ y).1))) (WW E b μ a (put (PT σ y).2 16 (sc y)) wr) := by
  refine K_start (own := RX5) (by decide +kernel) rfl [(0, .ref (a 3)), (1, .int y)] rfl (Nat.le_of_ble_eq_true rfl) (fun p e s m below meth c X hr hin => ?_)
  refine g_iconst X dX5_passTimeTo_0 1 rfl (v := 0) rfl ?_
  refine g_istore_n X dX5_passTimeTo_1 2 rfl (by decide) [(2, .int 0), (0, .ref (a 3)), (1, .int y)] rfl ?_
  refine g_aload_n X dX5_passTimeTo_2 3 rfl rfl ?_
  refine g_get X FL_X5_21 dX5_passTimeTo_3 6 rfl 7 rfl (v := .ref (a 9)) rfl ?_
  refine c_V X Lk_X5_202 (k_X0_earliestQuarantineEnd E l wr b μ a σ) dX5_passTimeTo_6 rfl 13 rfl rfl rfl (Nat.le_of_ble_eq_true rfl) ⟨(Nat.le_of_ble_eq_true rfl), (Nat.le_of_ble_eq_true rfl)⟩ ⟨(Nat.le_of_ble_eq_true rfl), (Nat.le_of_ble_eq_true rfl)⟩ 9 rfl [.int (eqE σ)] rfl ?_
  refine g_istore_n X dX5_passTimeTo_9 10 rfl (by decide) [(3, .int (eqE σ)), (2, .int 0), (0, .ref (a 3)), (1, .int y)] rfl ?_
  have Lp : ∀ (f k : Nat) (τ : Sto) (z : Int32), (k + f = 1000000) → (passL y f τ k z = PT σ y) →  G E (va_A (WW E b μ a σ wr) s.heap.size) 5 p l e ({ frames := 6, cells := 0, slots := 0, locals := 135 } : Room) s m (([.ref (a 3), .int y] : List Value).toArray) below meth c (MQ below (KQ E (WW E b μ a σ wr) s.heap.size (fun _ : Unit => (some (.int ((PT σ y).1)))) (fun _ => WW E b μ a (put (PT σ y).2 16 (sc y)) wr)) (([.ref (a 3), .int y] : List Value).toArray) s 0 0 (va_A (WW E b μ a σ wr) s.heap.size)) 0 0 (WW E b μ a τ wr) 10 [(3, .int z), (2, .int (nI k)), (0, .ref (a 3)), (1, .int y)] [] := by
    intro f
    induction f with
    | zero =>
      intro k τ z hi hv
      obtain rfl : k = 1000000 := by omega
      refine g_iload_n X dX5_passTimeTo_10 11 rfl rfl ?_
      refine g_ldc X Co_X5_224 dX5_passTimeTo_11 13 rfl ?_
      refine g_ic_ge X dX5_passTimeTo_13 74 16 rfl rfl (fun c1 => ?_) (fun c1 => absurd (by decide) c1)
      refine g_aload_n X dX5_passTimeTo_74 75 rfl rfl ?_
      refine g_get X FL_X5_35 dX5_passTimeTo_75 78 rfl 7 rfl (v := .ref (a 22)) rfl ?_
      refine g_iload_n X dX5_passTimeTo_78 79 rfl rfl ?_
      refine g_put X FL_X5_110 fk_X4 dX5_passTimeTo_79 82 rfl rfl 26 rfl rfl rfl (Nat.le_of_ble_eq_true rfl) (WW E b μ a (put τ 16 (sc y)) wr) rfl ?_
      refine g_iload_n X dX5_passTimeTo_82 83 rfl rfl ?_
      exact g_iret X hr dX5_passTimeTo_83 () (by rw [← hv]; rfl) (by rw [← hv]; rfl)
    | succ f ih =>
      intro k τ z hi hv
      refine g_iload_n X dX5_passTimeTo_10 11 rfl rfl ?_
      refine g_ldc X Co_X5_224 dX5_passTimeTo_11 13 rfl ?_
      refine g_ic_ge X dX5_passTimeTo_13 74 16 rfl rfl (fun c2 => absurd c2 (nI_ge (b := 1000000) (by omega) (by decide))) (fun c2 => ?_)
      refine g_iload_n X dX5_passTimeTo_16 17 rfl rfl ?_
      refine g_aload_n X dX5_passTimeTo_17 18 rfl rfl ?_
      refine c_V X Lk_X5_198 (k_X5_earliestEventOfClients E l wr b μ a τ) dX5_passTimeTo_18 rfl 7 rfl rfl rfl (Nat.le_of_ble_eq_true rfl) ⟨(Nat.le_of_ble_eq_true rfl), (Nat.le_of_ble_eq_true rfl)⟩ ⟨(Nat.le_of_ble_eq_true rfl), (Nat.le_of_ble_eq_true rfl)⟩ 21 rfl [.int (eeC τ), .int z] rfl ?_
      refine g_min X Ma_X5_205 dX5_passTimeTo_21 24 rfl (Nat.le_of_ble_eq_true rfl) (Nat.le_of_ble_eq_true rfl) ⟨(Nat.le_of_ble_eq_true rfl), (Nat.le_of_ble_eq_true rfl)⟩ ?_
      rw [show (if eeC τ < z then eeC τ else z) = nxE τ z from rfl]
      refine g_istore X dX5_passTimeTo_24 26 rfl (by decide) [(4, .int (nxE τ z)), (3, .int z), (2, .int (nI k)), (0, .ref (a 3)), (1, .int y)] rfl ?_
      refine g_iload X dX5_passTimeTo_26 28 rfl rfl ?_
      refine g_ldc X Co_X5_208 dX5_passTimeTo_28 30 rfl ?_
      refine g_ic_eq X dX5_passTimeTo_30 74 33 rfl rfl (fun c3 => ?_) (fun c3 => ?_)
      · skip
        refine g_aload_n X dX5_passTimeTo_74 75 rfl rfl ?_
        refine g_get X FL_X5_35 dX5_passTimeTo_75 78 rfl 7 rfl (v := .ref (a 22)) rfl ?_
        refine g_iload_n X dX5_passTimeTo_78 79 rfl rfl ?_
        refine g_put X FL_X5_110 fk_X4 dX5_passTimeTo_79 82 rfl rfl 26 rfl rfl rfl (Nat.le_of_ble_eq_true rfl) (WW E b μ a (put τ 16 (sc y)) wr) rfl ?_
        refine g_iload_n X dX5_passTimeTo_82 83 rfl rfl ?_
        exact g_iret X hr dX5_passTimeTo_83 () (by rw [← hv]; simp [passL, c2, c3]) (by rw [← hv]; simp [passL, c2, c3])
      · skip
        refine g_iload X dX5_passTimeTo_33 35 rfl rfl ?_
        refine c_N X Lk_X5_225 (k_X6_timeOfEvent E l wr b μ a τ (nxE τ z)) dX5_passTimeTo_35 rfl rfl (Nat.le_of_ble_eq_true rfl) ⟨(Nat.le_of_ble_eq_true rfl), (Nat.le_of_ble_eq_true rfl)⟩ ⟨(Nat.le_of_ble_eq_true rfl), (Nat.le_of_ble_eq_true rfl)⟩ 38 rfl [.int ((nxE τ z) / 100 / 5)] rfl ?_
        refine g_iload_n X dX5_passTimeTo_38 39 rfl rfl ?_
        refine g_ic_le X dX5_passTimeTo_39 45 42 rfl rfl (fun c4 => ?_) (fun c4 => ?_)
        · skip
          refine g_aload_n X dX5_passTimeTo_45 46 rfl rfl ?_
          refine g_iload X dX5_passTimeTo_46 48 rfl rfl ?_
          refine c_V X Lk_X5_228 (k_X5_carryOut E l wr b μ a τ (nxE τ z)) dX5_passTimeTo_48 rfl 7 rfl rfl rfl (Nat.le_of_ble_eq_true rfl) ⟨(Nat.le_of_ble_eq_true rfl), (Nat.le_of_ble_eq_true rfl)⟩ ⟨(Nat.le_of_ble_eq_true rfl), (Nat.le_of_ble_eq_true rfl)⟩ 51 rfl [] rfl ?_
          refine g_iinc X dX5_passTimeTo_51 54 rfl (by decide) 2 rfl (nI_1 _) [(2, .int (nI (k + 1))), (4, .int (nxE τ z)), (3, .int z), (0, .ref (a 3)), (1, .int y)] rfl ?_
          refine g_iload X dX5_passTimeTo_54 56 rfl rfl ?_
          refine c_N X Lk_X5_231 (k_X6_kindOfEvent E l wr b μ a (cOE τ (nxE τ z)) (nxE τ z)) dX5_passTimeTo_56 rfl rfl (Nat.le_of_ble_eq_true rfl) ⟨(Nat.le_of_ble_eq_true rfl), (Nat.le_of_ble_eq_true rfl)⟩ ⟨(Nat.le_of_ble_eq_true rfl), (Nat.le_of_ble_eq_true rfl)⟩ 59 rfl [.int ((nxE τ z) / 100 - (nxE τ z) / 100 / 5 * 5)] rfl ?_
          rw [show ((nxE τ z) / 100 - (nxE τ z) / 100 / 5 * 5) = kdE (nxE τ z) from rfl]
          refine g_iconst X dX5_passTimeTo_59 60 rfl (v := 1) rfl ?_
          refine g_ic_ne X dX5_passTimeTo_60 71 63 rfl rfl (fun c5 => ?_) (fun c5 => ?_)
          · skip
            refine g_goto X dX5_passTimeTo_71 10 rfl ?_
            refine g_lsub [2, 0, 3, 4] [(3, .int z), (2, .int (nI (k + 1))), (0, .ref (a 3)), (1, .int y)] rfl ?_
            exact ih (k + 1) _ z (by omega) (by rw [← hv]; simp [passL, c2, c3, c4, c5])
          · skip
            refine g_aload_n X dX5_passTimeTo_63 64 rfl rfl ?_
            refine g_get X FL_X5_21 dX5_passTimeTo_64 67 rfl 7 rfl (v := .ref (a 9)) rfl ?_
            refine c_V X Lk_X5_202 (k_X0_earliestQuarantineEnd E l wr b μ a (cOE τ (nxE τ z))) dX5_passTimeTo_67 rfl 13 rfl rfl rfl (Nat.le_of_ble_eq_true rfl) ⟨(Nat.le_of_ble_eq_true rfl), (Nat.le_of_ble_eq_true rfl)⟩ ⟨(Nat.le_of_ble_eq_true rfl), (Nat.le_of_ble_eq_true rfl)⟩ 70 rfl [.int (eqE (cOE τ (nxE τ z)))] rfl ?_
            refine g_istore_n X dX5_passTimeTo_70 71 rfl (by decide) [(3, .int (eqE (cOE τ (nxE τ z)))), (2, .int (nI (k + 1))), (4, .int (nxE τ z)), (0, .ref (a 3)), (1, .int y)] rfl ?_
            refine g_goto X dX5_passTimeTo_71 10 rfl ?_
            refine g_lsub [0, 1, 3, 4] [(3, .int (eqE (cOE τ (nxE τ z)))), (2, .int (nI (k + 1))), (0, .ref (a 3)), (1, .int y)] rfl ?_
            exact ih (k + 1) _ (eqE (cOE τ (nxE τ z))) (by omega) (by rw [← hv]; simp [passL, c2, c3, c4, c5])
        · skip
          refine g_goto X dX5_passTimeTo_42 74 rfl ?_
          refine g_aload_n X dX5_passTimeTo_74 75 rfl rfl ?_
          refine g_get X FL_X5_35 dX5_passTimeTo_75 78 rfl 7 rfl (v := .ref (a 22)) rfl ?_
          refine g_iload_n X dX5_passTimeTo_78 79 rfl rfl ?_
          refine g_put X FL_X5_110 fk_X4 dX5_passTimeTo_79 82 rfl rfl 26 rfl rfl rfl (Nat.le_of_ble_eq_true rfl) (WW E b μ a (put τ 16 (sc y)) wr) rfl ?_
          refine g_iload_n X dX5_passTimeTo_82 83 rfl rfl ?_
          exact g_iret X hr dX5_passTimeTo_83 () (by rw [← hv]; simp [passL, c2, c3, c4]) (by rw [← hv]; simp [passL, c2, c3, c4])
  exact Lp 1000000 0 σ _ rfl rfl
