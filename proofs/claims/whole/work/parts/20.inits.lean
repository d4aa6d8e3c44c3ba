def flR (f : Nat → Int32) (v : Int32) (k : Nat) : Nat → Int32 := fun j => if j < k then v else f j
theorem flR_0 (f : Nat → Int32) (v : Int32) : flR f v 0 = f := rfl
theorem flR_s {f : Nat → Int32} {v : Int32} {k : Nat} : upd (flR f v k) k v = flR f v (k + 1) := by
  funext j
  by_cases e : j = k
  · subst e
    rw [pk_us]
    exact (if_pos (by omega)).symm
  · rw [pk_un e]
    show (if j < k then v else f j) = (if j < k + 1 then v else f j)
    by_cases h2 : j < k
    · rw [if_pos h2, if_pos (by omega)]
    · rw [if_neg h2, if_neg (by omega)]
theorem get_set {ws : va_W} {q0 : Nat} {x y : Nat × va_E} (h : ws[q0]? = some y) : (ws.set q0 x)[q0]? = some x := by
  have h1 : q0 < ws.length := (List.getElem?_eq_some_iff.mp h).1
  rw [List.getElem?_set_self h1]
theorem set_set (ws : va_W) (q0 : Nat) (x y : Nat × va_E) : (ws.set q0 x).set q0 y = ws.set q0 y := List.set_set ..
theorem set_id {ws : va_W} {q0 : Nat} {x : Nat × va_E} (h : ws[q0]? = some x) : ws.set q0 x = ws := by
  apply List.ext_getElem?
  intro j
  by_cases e : q0 = j
  · subst e
    rw [get_set h, h]
  · rw [List.getElem?_set_ne e]
set_option maxHeartbeats 1000000 in
set_option maxRecDepth 100000 in
theorem k_fill (E : kE) (l : Launch) (ws : va_W) (q0 : Nat) {a0 N : Nat} {f : Nat → Int32} (v : Int32) (he : ws[q0]? = some (a0, ia E N f)) (hN : N < 2 ^ 31) (ws' : va_W) (hw : ws.set q0 (a0, ia E N (flR f v N)) = ws') : KM E l yJ7_fill_53178 cJ7_fill_53178 4 none 0 0 0 0 [.ref a0, .int v] ws none ws' := by
  refine K_startF (own := RJ7) (by decide +kernel) rfl [(0, .ref a0), (1, .int v)] rfl (Nat.le_of_ble_eq_true rfl) (fun p e s m below meth c X hr hin => ?_)
  refine g_iconst X dJ7_fill_53178_0 1 rfl (v := 0) rfl ?_
  refine g_istore_n X dJ7_fill_53178_1 2 rfl (by decide) [(2, .int 0), (0, .ref a0), (1, .int v)] rfl ?_
  refine g_aload_n X dJ7_fill_53178_2 3 rfl rfl ?_
  refine g_alenI X dJ7_fill_53178_3 4 rfl q0 he ?_
  refine g_istore_n X dJ7_fill_53178_4 5 rfl (by decide) [(3, .int (nI N)), (2, .int 0), (0, .ref a0), (1, .int v)] rfl ?_
  have La : ∀ (r i : Nat), i + r = N → G E (va_A ws s.heap.size) 4 p l e ({ frames := 0, cells := 0, slots := 0, locals := 0 } : Room) s m ([.ref a0, .int v] : List Value).toArray below meth c (MQ below (KQ E ws s.heap.size (fun _ : Unit => none) (fun _ => ws')) ([.ref a0, .int v] : List Value).toArray s 0 0 (va_A ws s.heap.size)) 0 0 (ws.set q0 (a0, ia E N (flR f v i))) 5 [(3, .int (nI N)), (2, .int (nI i)), (0, .ref a0), (1, .int v)] [] := by
    intro r
    induction r with
    | zero =>
      intro i hi
      obtain rfl : i = N := by omega
      refine g_iload_n X dJ7_fill_53178_5 6 rfl rfl ?_
      refine g_iload_n X dJ7_fill_53178_6 7 rfl rfl ?_
      refine g_ic_ge X dJ7_fill_53178_7 20 10 rfl rfl (fun c1 => ?_) (fun c1 => absurd (nI_le (Nat.le_refl _) hN) c1)
      exact g_vret X hr dJ7_fill_53178_20 () rfl hw
    | succ r ih =>
      intro i hi
      refine g_iload_n X dJ7_fill_53178_5 6 rfl rfl ?_
      refine g_iload_n X dJ7_fill_53178_6 7 rfl rfl ?_
      refine g_ic_ge X dJ7_fill_53178_7 20 10 rfl rfl (fun c1 => absurd c1 (nI_ge (by omega) hN)) (fun c1 => ?_)
      refine g_aload_n X dJ7_fill_53178_10 11 rfl rfl ?_
      refine g_iload_n X dJ7_fill_53178_11 12 rfl rfl ?_
      refine g_iload_n X dJ7_fill_53178_12 13 rfl rfl ?_
      refine g_iastN X dJ7_fill_53178_13 14 rfl q0 (get_set he) (by omega) hN (ws.set q0 (a0, ia E N (flR f v (i + 1)))) (by rw [set_set, flR_s]) ?_
      refine g_iinc X dJ7_fill_53178_14 17 rfl (by decide) 1 rfl (nI_1 _) [(2, .int (nI (i + 1))), (3, .int (nI N)), (0, .ref a0), (1, .int v)] rfl ?_
      refine g_goto X dJ7_fill_53178_17 5 rfl ?_
      refine g_lsub [1, 0, 2, 3] [(3, .int (nI N)), (2, .int (nI (i + 1))), (0, .ref a0), (1, .int v)] rfl ?_
      exact ih (i + 1) (by omega)
  have L0 := La N 0 (by omega)
  rw [flR_0, set_id he] at L0
  exact L0
set_option maxHeartbeats 1000000 in
set_option maxRecDepth 100000 in
theorem k_copyN (E : kE) (l : Launch) (ws : va_W) (q0 q1 : Nat) {a0 a1 N : Nat} {f g : Nat → Int32} (he0 : ws[q0]? = some (a0, ia E N f)) (he1 : ws[q1]? = some (a1, ia E N g)) (hN : N < 2 ^ 31) (ws' : va_W) (hw : ws.set q1 (a1, ia E N (va_cpy f g 0 0 N)) = ws') : KM E l yX6_copyNumbers cX6_copyNumbers 2 none 1 60 0 0 [.ref a0, .ref a1] ws none ws' := by
  refine K_start (own := RX6) (by decide +kernel) rfl [(0, .ref a0), (1, .ref a1)] rfl (Nat.le_of_ble_eq_true rfl) (fun p e s m below meth c X hr hin => ?_)
  refine g_aload_n X dX6_copyNumbers_0 1 rfl rfl ?_
  refine g_iconst X dX6_copyNumbers_1 2 rfl (v := 0) rfl ?_
  refine g_aload_n X dX6_copyNumbers_2 3 rfl rfl ?_
  refine g_iconst X dX6_copyNumbers_3 4 rfl (v := 0) rfl ?_
  refine g_aload_n X dX6_copyNumbers_4 5 rfl rfl ?_
  refine g_alenI X dX6_copyNumbers_5 6 rfl q0 he0 ?_
  refine g_aload_n X dX6_copyNumbers_6 7 rfl rfl ?_
  refine g_alenI X dX6_copyNumbers_7 8 rfl q1 he1 ?_
  refine g_min X Ma_X6_331 dX6_copyNumbers_8 11 rfl (Nat.le_of_ble_eq_true rfl) (Nat.le_of_ble_eq_true rfl) ⟨(Nat.le_of_ble_eq_true rfl), (Nat.le_of_ble_eq_true rfl)⟩ ?_
  refine g_top (nI N) (by split <;> rfl) ?_
  refine g_copyi X Ac_X6_336 dX6_copyNumbers_11 14 rfl (Nat.le_of_ble_eq_true rfl) (by decide +kernel) q0 q1 he0 he1 (nI_pos hN) (by rw [nI_clamp hN]; exact Nat.le_refl _) (by rw [nI_clamp hN]; exact Nat.le_refl _) ws' (by rw [nI_clamp hN]; exact hw) ?_
  exact g_vret X hr dX6_copyNumbers_14 () rfl rfl
def FLG (f : Nat → Int32) (N : Nat) : Prop := ∀ j, j < N → f j = 0 ∨ f j = 1
theorem FLG.nar {f : Nat → Int32} {N j : Nat} (h : FLG f N) (hj : j < N) : vp_nar .boolean (f j) = f j := by
  rcases h j hj with e | e <;> rw [e] <;> rfl
set_option maxHeartbeats 1000000 in
set_option maxRecDepth 100000 in
theorem k_copyF (E : kE) (l : Launch) (ws : va_W) (q0 q1 : Nat) (hne : q1 ≠ q0) {a0 a1 N : Nat} {f g : Nat → Int32} (he0 : ws[q0]? = some (a0, za E N f)) (he1 : ws[q1]? = some (a1, za E N g)) (hf : FLG f N) (hN : N < 2 ^ 31) (ws' : va_W) (hw : ws.set q1 (a1, za E N (cpR f g N)) = ws') : KM E l yX6_copyFlags cX6_copyFlags 3 none 0 0 0 0 [.ref a0, .ref a1] ws none ws' := by
  refine K_start (own := RX6) (by decide +kernel) rfl [(0, .ref a0), (1, .ref a1)] rfl (Nat.le_of_ble_eq_true rfl) (fun p e s m below meth c X hr hin => ?_)
  refine g_iconst X dX6_copyFlags_0 1 rfl (v := 0) rfl ?_
  refine g_istore_n X dX6_copyFlags_1 2 rfl (by decide) [(2, .int 0), (0, .ref a0), (1, .ref a1)] rfl ?_
  have La : ∀ (r i : Nat), i + r = N → G E (va_A ws s.heap.size) 3 p l e ({ frames := 0, cells := 0, slots := 0, locals := 0 } : Room) s m ([.ref a0, .ref a1] : List Value).toArray below meth c (MQ below (KQ E ws s.heap.size (fun _ : Unit => none) (fun _ => ws')) ([.ref a0, .ref a1] : List Value).toArray s 0 0 (va_A ws s.heap.size)) 0 0 (ws.set q1 (a1, za E N (cpR f g i))) 2 [(2, .int (nI i)), (0, .ref a0), (1, .ref a1)] [] := by
    intro r
    induction r with
    | zero =>
      intro i hi
      obtain rfl : i = N := by omega
      refine g_iload_n X dX6_copyFlags_2 3 rfl rfl ?_
      refine g_aload_n X dX6_copyFlags_3 4 rfl rfl ?_
      refine g_alenZ X dX6_copyFlags_4 5 rfl q0 (by rw [List.getElem?_set_ne hne]; exact he0) ?_
      refine g_ic_ge X dX6_copyFlags_5 26 8 rfl rfl (fun c1 => ?_) (fun c1 => absurd (nI_le (Nat.le_refl _) hN) c1)
      exact g_vret X hr dX6_copyFlags_26 () rfl hw
    | succ r ih =>
      intro i hi
      have hq0 : (ws.set q1 (a1, za E N (cpR f g i)))[q0]? = some (a0, za E N f) := by rw [List.getElem?_set_ne hne]; exact he0
      refine g_iload_n X dX6_copyFlags_2 3 rfl rfl ?_
      refine g_aload_n X dX6_copyFlags_3 4 rfl rfl ?_
      refine g_alenZ X dX6_copyFlags_4 5 rfl q0 hq0 ?_
      refine g_ic_ge X dX6_copyFlags_5 26 8 rfl rfl (fun c1 => absurd c1 (nI_ge (by omega) hN)) (fun c1 => ?_)
      refine g_iload_n X dX6_copyFlags_8 9 rfl rfl ?_
      refine g_aload_n X dX6_copyFlags_9 10 rfl rfl ?_
      refine g_alenZ X dX6_copyFlags_10 11 rfl q1 (get_set he1) ?_
      refine g_ic_ge X dX6_copyFlags_11 26 14 rfl rfl (fun c1 => absurd c1 (nI_ge (by omega) hN)) (fun c1 => ?_)
      refine g_aload_n X dX6_copyFlags_14 15 rfl rfl ?_
      refine g_iload_n X dX6_copyFlags_15 16 rfl rfl ?_
      refine g_aload_n X dX6_copyFlags_16 17 rfl rfl ?_
      refine g_iload_n X dX6_copyFlags_17 18 rfl rfl ?_
      refine g_zaldN X dX6_copyFlags_18 19 rfl q0 hq0 (by omega) hN ?_
      refine g_zastN X dX6_copyFlags_19 20 rfl q1 (get_set he1) (by omega) hN (hf.nar (by omega)) (ws.set q1 (a1, za E N (cpR f g (i + 1)))) (by rw [set_set, cpR_s]) ?_
      refine g_iinc X dX6_copyFlags_20 23 rfl (by decide) 0 rfl (nI_1 _) [(2, .int (nI (i + 1))), (0, .ref a0), (1, .ref a1)] rfl ?_
      refine g_goto X dX6_copyFlags_23 2 rfl ?_
      exact ih (i + 1) (by omega)
  have L0 := La N 0 (by omega)
  rw [cpR_0, set_id he1] at L0
  exact L0
section KA9
variable {E : kE} {A : Nat → Prop} {own : String} {cc : ByteArray} {nL : Nat} {p : Program} {l : Launch} {e : Env} {R : Room} {s : State} {m : MethodId} {args : Array Value} {below : List Frame} {meth : Method} {c : Code} {Q : State → Prop} {k n : Nat} {w L : va_W} {pc : Nat} {lv : List (Nat × Value)} {st st0 : List Value}
variable {idx n0 maxL fr lo mc ms : Nat} {y : MethodName} {bytes : ByteArray} {ret : Option FieldType} {As : List Value}
theorem atA {k : Nat} : (w ++ L)[w.length + k]? = L[k]? := by
  rw [List.getElem?_append_right (by omega), Nat.add_sub_cancel_left]
theorem setA {k : Nat} {x : Nat × va_E} : (w ++ L).set (w.length + k) x = w ++ L.set k x := by
  induction w with
  | nil => simp
  | cons y w ih =>
    show (y :: (w ++ L)).set (w.length + 1 + k) x = y :: (w ++ L.set k x)
    rw [show w.length + 1 + k = (w.length + k) + 1 by omega, List.set_cons_succ, ih]
theorem g_ws {ws : va_W} (ws' : va_W) (h : ws = ws') (kk : G E A nL p l e R s m args below meth c Q k n ws' pc lv st) : G E A nL p l e R s m args below meth c Q k n ws pc lv st := h ▸ kk
theorem ga_get (X : CX E A own cc nL p s m meth c) {idx ci fk N : Nat} {C : String} {T : u_T} (F : FL own idx ci fk C T N) (d : decode cc pc = .ok (.getfield idx, 3)) (q : Nat) (hq : pc + 3 = q) (q0 : Nat) {a : Nat} {fs : List Value} (he : L[q0]? = some (a, .inr (ci, fs))) {v : Value} (hv : fs[fk]? = some v) (kk : G E A nL p l e R s m args below meth c Q k n (w ++ L) q lv (v :: st)) : G E A nL p l e R s m args below meth c Q k n (w ++ L) pc lv (.ref a :: st) :=
  g_get X F d q hq (w.length + q0) (atA.trans he) hv kk
theorem ga_put (X : CX E A own cc nL p s m meth c) {idx ci fk N : Nat} {C : String} {T : u_T} {ty0 : Nat → FieldType} (F : FL own idx ci fk C T N) (K : FK C T N ty0) (d : decode cc pc = .ok (.putfield idx, 3)) (q : Nat) (hq : pc + 3 = q) (hfin : (T fk).2.2.2 = false) (q0 : Nat) {a : Nat} {fs : List Value} (he : L[q0]? = some (a, .inr (ci, fs))) {v : Value} (hn : narrow (ty0 fk) v = v) (hfit : fits (ty0 fk) v = true) (hl9 : fk < fs.length) (L' : va_W) (hw : L.set q0 (a, .inr (ci, fs.set fk v)) = L') (kk : G E A nL p l e R s m args below meth c Q k n (w ++ L') q lv st) : G E A nL p l e R s m args below meth c Q k n (w ++ L) pc lv (v :: .ref a :: st) :=
  g_put X F K d q hq hfin (w.length + q0) (atA.trans he) hn hfit hl9 (w ++ L') (by rw [setA, hw]) kk
theorem ga_putF (X : CX E A own cc nL p s m meth c) {idx ci fk N : Nat} {C : String} {T : u_T} {ty0 : Nat → FieldType} (F : FL own idx ci fk C T N) (K : FK C T N ty0) (d : decode cc pc = .ok (.putfield idx, 3)) (q : Nat) (hq : pc + 3 = q) (hfin : (T fk).2.2.2 = true) (hin : meth.name = "<init>") (hdecl : (T fk).1 = own) (q0 : Nat) {a : Nat} {fs : List Value} (he : L[q0]? = some (a, .inr (ci, fs))) {v : Value} (hn : narrow (ty0 fk) v = v) (hfit : fits (ty0 fk) v = true) (hl9 : fk < fs.length) (L' : va_W) (hw : L.set q0 (a, .inr (ci, fs.set fk v)) = L') (kk : G E A nL p l e R s m args below meth c Q k n (w ++ L') q lv st) : G E A nL p l e R s m args below meth c Q k n (w ++ L) pc lv (v :: .ref a :: st) :=
  g_putF X F K d q hq hfin hin hdecl (w.length + q0) (atA.trans he) hn hfit hl9 (w ++ L') (by rw [setA, hw]) kk
theorem ga_iast (X : CX E A own cc nL p s m meth c) (d : decode cc pc = .ok (.iastore, 1)) (q : Nat) (hq : pc + 1 = q) (q0 : Nat) {a N : Nat} {f : Nat → Int32} (he : L[q0]? = some (a, ia E N f)) {i x : Int32} (hi : vp_in i N) (L' : va_W) (hw : L.set q0 (a, ia E N (upd f i.toNatClampNeg x)) = L') (kk : G E A nL p l e R s m args below meth c Q k n (w ++ L') q lv st) : G E A nL p l e R s m args below meth c Q k n (w ++ L) pc lv (.int x :: .int i :: .ref a :: st) :=
  g_iast X d q hq (w.length + q0) (atA.trans he) hi (w ++ L') (by rw [setA, hw]) kk
theorem ga_zast (X : CX E A own cc nL p s m meth c) (d : decode cc pc = .ok (.bastore, 1)) (q : Nat) (hq : pc + 1 = q) (q0 : Nat) {a N : Nat} {f : Nat → Int32} (he : L[q0]? = some (a, za E N f)) {i x : Int32} (hi : vp_in i N) (hx : vp_nar .boolean x = x) (L' : va_W) (hw : L.set q0 (a, za E N (upd f i.toNatClampNeg x)) = L') (kk : G E A nL p l e R s m args below meth c Q k n (w ++ L') q lv st) : G E A nL p l e R s m args below meth c Q k n (w ++ L) pc lv (.int x :: .int i :: .ref a :: st) :=
  g_zast X d q hq (w.length + q0) (atA.trans he) hi hx (w ++ L') (by rw [setA, hw]) kk
theorem ga_newaI (X : CX E A own cc nL p s m meth c) (d : decode cc pc = .ok (.newarray .int, 2)) (q : Nat) (hq : pc + 2 = q) (N k' n' : Nat) {x : Int32} (hw : ¬ x < 0) (hN : x.toNatClampNeg = N) (hb : N * 4 ≤ 536870912) (hk : k + 1 ≤ R.cells) (hn : n + N ≤ R.slots) (hk2 : k + 1 = k') (hn2 : n + N = n') (kk : ∀ a : Nat, G E A nL p l e R s m args below meth c Q k' n' (w ++ (L ++ [(a, ia E N (fun _ => 0))])) q lv (.ref a :: st)) : G E A nL p l e R s m args below meth c Q k n (w ++ L) pc lv (.int x :: st) := by
  subst hk2; subst hn2
  exact g_newaI X d q hq N hw hN hb hk hn (fun a => by rw [List.append_assoc]; exact kk a)
theorem ga_newaZ (X : CX E A own cc nL p s m meth c) (d : decode cc pc = .ok (.newarray .boolean, 2)) (q : Nat) (hq : pc + 2 = q) (N k' n' : Nat) {x : Int32} (hw : ¬ x < 0) (hN : x.toNatClampNeg = N) (hb : N * 1 ≤ 536870912) (hk : k + 1 ≤ R.cells) (hn : n + N ≤ R.slots) (hk2 : k + 1 = k') (hn2 : n + N = n') (kk : ∀ a : Nat, G E A nL p l e R s m args below meth c Q k' n' (w ++ (L ++ [(a, za E N (fun _ => 0))])) q lv (.ref a :: st)) : G E A nL p l e R s m args below meth c Q k n (w ++ L) pc lv (.int x :: st) := by
  subst hk2; subst hn2
  exact g_newaZ X d q hq N hw hN hb hk hn (fun a => by rw [List.append_assoc]; exact kk a)
theorem ga_new (X : CX E A own cc nL p s m meth c) {idx ci N : Nat} (k' n' : Nat) {C : String} {T : u_T} {ty0 : Nat → FieldType} (hcl : Cond.classLink own idx C ∈ lw_ok) (hin : Cond.instantiable C N ∈ lw_ok ∧ Cond.initialized C ∈ lw_ok) (hu : ∀ w ∈ u_ws C T N, w ∈ lw_ok) (K : FK C T N ty0) (hc : kcl[ci]? = some (C, T, N)) (d : decode cc pc = .ok (.new idx, 3)) (q : Nat) (hq : pc + 3 = q) (fs : List Value) (hfs : ∀ j, j < N → defaultValue (ty0 j) = vp_V fs j) (hk : k + 1 ≤ R.cells) (hn : n + N ≤ R.slots) (hk2 : k + 1 = k') (hn2 : n + N = n') (kk : ∀ a : Nat, G E A nL p l e R s m args below meth c Q k' n' (w ++ (L ++ [(a, .inr (ci, fs))])) q lv (.ref a :: st)) : G E A nL p l e R s m args below meth c Q k n (w ++ L) pc lv st := by
  subst hk2; subst hn2
  exact g_new X hcl hin hu K hc d q hq fs hfs hk hn (fun a => by rw [List.append_assoc]; exact kk a)
theorem call_J {host : String} (X : CX E A own cc nL p s m meth c) (L : LkJ own idx y host bytes maxL n0) (hi : y.name = "<init>") (hR : fr + 1 ≤ R.frames ∧ 8 + (maxL + 11) + lo ≤ R.locals) : va_CN R s args own idx y host bytes maxL none [Cond.code y bytes maxL none] ({ frames := fr, cells := mc, slots := ms, locals := lo }) mc ms n0 ∧ y.name = "<init>" ∧ (Cond.instanceMethod y).before args s = true := by
  obtain ⟨⟨h1, h2, h3, h4⟩, h6, h7, h8⟩ := L
  have ts := X.2.2.2.2.1.2.1.ts (args := args)
  refine ⟨⟨⟨rfl, rfl, hR.1, hR.2, one_word X h4 rfl, List.mem_singleton.mpr rfl⟩, ts _ h4, ts _ h3, ⟨h6, h7⟩, fun sig h => ?_, ts _ h1⟩, hi, ts _ h2⟩
  rw [h] at h8
  exact (Option.some.inj h8).symm
theorem g_callJ {ws : va_W} {host : String} {S : Type} {o : S → Option Value} {w1 : S → va_W} (X : CX E A own cc nL p s m meth c) {b : Nat} (L : LkJ own idx y host bytes maxL n0) (hi : y.name = "<init>") (hM : KN E l y bytes maxL none fr lo mc ms (.ref b :: As) ws o w1) (d : decode cc pc = .ok (.invokespecial idx, 3)) (hn : As.length = n0) (hst : st0 = As.reverse ++ .ref b :: st) (hcat : (st.map fun v => v.category).sum ≤ 8) (hR : fr + 1 ≤ R.frames ∧ 8 + (maxL + 11) + lo ≤ R.locals) (hf : k + mc ≤ R.cells ∧ n + ms ≤ R.slots) (kk : ∀ u : S, G E A nL p l e R s m args below meth c Q (k + mc) (n + ms) (w1 u) (pc + 3) lv ((o u).toList ++ st)) : G E A nL p l e R s m args below meth c Q k n ws pc lv st0 :=
  fun H locs ls hP hD hS hl => g_go X hD hS hl (va_runIN (own := own) (Ts := lw_ok) (nL := nL) (cc := cc) ⟨X.1, X.2.1, X.2.2.1, X.2.2.2.1, X.2.2.2.2.1.2.1.ts⟩ (hM H.size) (call_J X L hi hR) ⟨KP_blind, fun U hU hW => ⟨rfl, by rw [hU], by rw [hU]; exact hP, KX.warm hW X.2.2.2.2.1, hD.weaken (fun _ _ _ _ => trivial)⟩⟩ rfl hn hl.1 hst (lv_room hcat) d hf) kk
end KA9
/-- a constructor's contract, behind other cells -/
def KI (E : kE) (l : Launch) (y : MethodName) (bytes : ByteArray) (maxL fr lo mc ms : Nat) (As : List Value) (x : Nat × va_E) (b : (Nat → Nat) → va_W) : Prop := ∀ w : va_W, KN E l y bytes maxL none fr lo mc ms As (w ++ [x]) (fun _ : Nat → Nat => none) (fun u => w ++ b u)
section KB9
variable {E : kE} {A : Nat → Prop} {own : String} {cc : ByteArray} {nL : Nat} {p : Program} {l : Launch} {e : Env} {R : Room} {s : State} {m : MethodId} {args : Array Value} {below : List Frame} {meth : Method} {c : Code} {Q : State → Prop} {k n : Nat} {w L : va_W} {pc : Nat} {lv : List (Nat × Value)} {st st0 : List Value}
variable {idx n0 maxL fr lo mc ms : Nat} {y : MethodName} {bytes : ByteArray} {As : List Value} {x : Nat × va_E} {bb : (Nat → Nat) → va_W}
theorem ga_I (X : CX E A own cc nL p s m meth c) {b : Nat} (Lk : LkI own idx y bytes maxL n0) (hi : y.name = "<init>") (hM : KI E l y bytes maxL fr lo mc ms (.ref b :: As) x bb) (d : decode cc pc = .ok (.invokespecial idx, 3)) (hn : As.length = n0) (hst : st0 = As.reverse ++ .ref b :: st) (hcat : (st.map fun v => v.category).sum ≤ 8) (hR : fr + 1 ≤ R.frames ∧ 8 + (maxL + 11) + lo ≤ R.locals) (hf : k + mc ≤ R.cells ∧ n + ms ≤ R.slots) (q k' n' : Nat) (hq : pc + 3 = q) (hk2 : k + mc = k') (hn2 : n + ms = n') (kk : ∀ u : Nat → Nat, G E A nL p l e R s m args below meth c Q k' n' (w ++ (L ++ bb u)) q lv st) : G E A nL p l e R s m args below meth c Q k n (w ++ (L ++ [x])) pc lv st0 := by
  subst hq; subst hk2; subst hn2
  refine g_ws ((w ++ L) ++ [x]) (List.append_assoc ..).symm ?_
  exact g_callI X Lk hi (hM (w ++ L)) d hn hst hcat hR hf (fun u => by rw [List.append_assoc]; exact kk u)
theorem ga_J {host : String} (X : CX E A own cc nL p s m meth c) {b : Nat} (Lk : LkJ own idx y host bytes maxL n0) (hi : y.name = "<init>") (hM : KI E l y bytes maxL fr lo mc ms (.ref b :: As) x bb) (d : decode cc pc = .ok (.invokespecial idx, 3)) (hn : As.length = n0) (hst : st0 = As.reverse ++ .ref b :: st) (hcat : (st.map fun v => v.category).sum ≤ 8) (hR : fr + 1 ≤ R.frames ∧ 8 + (maxL + 11) + lo ≤ R.locals) (hf : k + mc ≤ R.cells ∧ n + ms ≤ R.slots) (q k' n' : Nat) (hq : pc + 3 = q) (hk2 : k + mc = k') (hn2 : n + ms = n') (kk : ∀ u : Nat → Nat, G E A nL p l e R s m args below meth c Q k' n' (w ++ (L ++ bb u)) q lv st) : G E A nL p l e R s m args below meth c Q k n (w ++ (L ++ [x])) pc lv st0 := by
  subst hq; subst hk2; subst hn2
  refine g_ws ((w ++ L) ++ [x]) (List.append_assoc ..).symm ?_
  exact g_callJ X Lk hi (hM (w ++ L)) d hn hst hcat hR hf (fun u => by rw [List.append_assoc]; exact kk u)
theorem ga_fill (X : CX E A own cc nL p s m meth c) (Lk : LkS own idx yJ7_fill_53178 cJ7_fill_53178 4 none 2) (d : decode cc pc = .ok (.invokestatic idx, 3)) (q : Nat) (hq : pc + 3 = q) (q0 : Nat) {a0 N : Nat} {f : Nat → Int32} {v : Int32} (he : L[q0]? = some (a0, ia E N f)) (hN : N < 2 ^ 31) (hcat : (st.map fun v => v.category).sum ≤ 8) (hR : 0 + 1 ≤ R.frames ∧ 8 + (4 + 11) + 0 ≤ R.locals) (hf : k ≤ R.cells ∧ n ≤ R.slots) (L' : va_W) (hw : L.set q0 (a0, ia E N (flR f v N)) = L') (kk : G E A nL p l e R s m args below meth c Q k n (w ++ L') q lv st) : G E A nL p l e R s m args below meth c Q k n (w ++ L) pc lv (.int v :: .ref a0 :: st) :=
  c_S X Lk (k_fill E l (w ++ L) (w.length + q0) v (atA.trans he) hN (w ++ L') (by rw [setA, hw])) d rfl rfl hcat hR hf q hq st rfl kk
end KB9
set_option maxHeartbeats 1000000 in
set_option maxRecDepth 100000 in
theorem k_X2_init (E : kE) (l : Launch) (h : Nat) : KI E l yX2_init cX2_init 1 1 20 1 30 [.ref h] (h, ob 2 [.null, .int 0, .int 0]) (fun u => [(h, ob 2 [.ref (u 0), .int 0, .int 0]), ((u 0), ia E 30 (fun _ => 0))]) := by
  intro w
  refine K_start (own := RX2) (by decide +kernel) rfl [(0, .ref h)] rfl (Nat.le_of_ble_eq_true rfl) (fun p e s m below meth c X hr hin => ?_)
  have hin : meth.name = "<init>" := hin
  refine g_aload_n X dX2_init_0 1 rfl rfl ?_
  refine g_objInit X Oi_X2_3 dX2_init_1 4 rfl (Nat.le_of_ble_eq_true rfl) (Nat.le_of_ble_eq_true rfl) ?_
  refine g_aload_n X dX2_init_4 5 rfl rfl ?_
  refine g_bipush X dX2_init_5 7 rfl (v := 30) rfl ?_
  refine ga_newaI X dX2_init_7 9 rfl 30 1 30 (by decide) (by decide) (by decide) (Nat.le_of_ble_eq_true rfl) (Nat.le_of_ble_eq_true rfl) rfl rfl (fun u1 => ?_)
  refine g_ws (w ++ [(h, ob 2 [.null, .int 0, .int 0]), (u1, ia E 30 (fun _ => 0))]) rfl ?_
  refine ga_putF X FL_X2_9 fk_X2 dX2_init_9 12 rfl rfl hin rfl 0 rfl rfl rfl (Nat.le_of_ble_eq_true rfl) [(h, ob 2 [.ref u1, .int 0, .int 0]), (u1, ia E 30 (fun _ => 0))] rfl ?_
  exact g_vret X hr dX2_init_12 (fun j => [u1].getD j 0) rfl rfl

set_option maxHeartbeats 1000000 in
set_option maxRecDepth 100000 in
theorem k_X3_init (E : kE) (l : Launch) (h : Nat) : KI E l yX3_init cX3_init 1 1 20 4 20 [.ref h] (h, ob 3 [.int 0, .null, .null, .null, .null]) (fun u => [(h, ob 3 [.int 0, .ref (u 0), .ref (u 1), .ref (u 2), .ref (u 3)]), ((u 0), ia E 5 (fun _ => 0)), ((u 1), ia E 5 (fun _ => 0)), ((u 2), ia E 5 (fun _ => 0)), ((u 3), ia E 5 (fun _ => 0))]) := by
  intro w
  refine K_start (own := RX3) (by decide +kernel) rfl [(0, .ref h)] rfl (Nat.le_of_ble_eq_true rfl) (fun p e s m below meth c X hr hin => ?_)
  have hin : meth.name = "<init>" := hin
  refine g_aload_n X dX3_init_0 1 rfl rfl ?_
  refine g_objInit X Oi_X3_3 dX3_init_1 4 rfl (Nat.le_of_ble_eq_true rfl) (Nat.le_of_ble_eq_true rfl) ?_
  refine g_aload_n X dX3_init_4 5 rfl rfl ?_
  refine g_iconst X dX3_init_5 6 rfl (v := 5) rfl ?_
  refine ga_newaI X dX3_init_6 8 rfl 5 1 5 (by decide) (by decide) (by decide) (Nat.le_of_ble_eq_true rfl) (Nat.le_of_ble_eq_true rfl) rfl rfl (fun u1 => ?_)
  refine g_ws (w ++ [(h, ob 3 [.int 0, .null, .null, .null, .null]), (u1, ia E 5 (fun _ => 0))]) rfl ?_
  refine ga_putF X FL_X3_9 fk_X3 dX3_init_8 11 rfl rfl hin rfl 0 rfl rfl rfl (Nat.le_of_ble_eq_true rfl) [(h, ob 3 [.int 0, .ref u1, .null, .null, .null]), (u1, ia E 5 (fun _ => 0))] rfl ?_
  refine g_aload_n X dX3_init_11 12 rfl rfl ?_
  refine g_iconst X dX3_init_12 13 rfl (v := 5) rfl ?_
  refine ga_newaI X dX3_init_13 15 rfl 5 2 10 (by decide) (by decide) (by decide) (Nat.le_of_ble_eq_true rfl) (Nat.le_of_ble_eq_true rfl) rfl rfl (fun u2 => ?_)
  refine g_ws (w ++ [(h, ob 3 [.int 0, .ref u1, .null, .null, .null]), (u1, ia E 5 (fun _ => 0)), (u2, ia E 5 (fun _ => 0))]) rfl ?_
  refine ga_putF X FL_X3_15 fk_X3 dX3_init_15 18 rfl rfl hin rfl 0 rfl rfl rfl (Nat.le_of_ble_eq_true rfl) [(h, ob 3 [.int 0, .ref u1, .ref u2, .null, .null]), (u1, ia E 5 (fun _ => 0)), (u2, ia E 5 (fun _ => 0))] rfl ?_
  refine g_aload_n X dX3_init_18 19 rfl rfl ?_
  refine g_iconst X dX3_init_19 20 rfl (v := 5) rfl ?_
  refine ga_newaI X dX3_init_20 22 rfl 5 3 15 (by decide) (by decide) (by decide) (Nat.le_of_ble_eq_true rfl) (Nat.le_of_ble_eq_true rfl) rfl rfl (fun u3 => ?_)
  refine g_ws (w ++ [(h, ob 3 [.int 0, .ref u1, .ref u2, .null, .null]), (u1, ia E 5 (fun _ => 0)), (u2, ia E 5 (fun _ => 0)), (u3, ia E 5 (fun _ => 0))]) rfl ?_
  refine ga_putF X FL_X3_18 fk_X3 dX3_init_22 25 rfl rfl hin rfl 0 rfl rfl rfl (Nat.le_of_ble_eq_true rfl) [(h, ob 3 [.int 0, .ref u1, .ref u2, .ref u3, .null]), (u1, ia E 5 (fun _ => 0)), (u2, ia E 5 (fun _ => 0)), (u3, ia E 5 (fun _ => 0))] rfl ?_
  refine g_aload_n X dX3_init_25 26 rfl rfl ?_
  refine g_iconst X dX3_init_26 27 rfl (v := 5) rfl ?_
  refine ga_newaI X dX3_init_27 29 rfl 5 4 20 (by decide) (by decide) (by decide) (Nat.le_of_ble_eq_true rfl) (Nat.le_of_ble_eq_true rfl) rfl rfl (fun u4 => ?_)
  refine g_ws (w ++ [(h, ob 3 [.int 0, .ref u1, .ref u2, .ref u3, .null]), (u1, ia E 5 (fun _ => 0)), (u2, ia E 5 (fun _ => 0)), (u3, ia E 5 (fun _ => 0)), (u4, ia E 5 (fun _ => 0))]) rfl ?_
  refine ga_putF X FL_X3_21 fk_X3 dX3_init_29 32 rfl rfl hin rfl 0 rfl rfl rfl (Nat.le_of_ble_eq_true rfl) [(h, ob 3 [.int 0, .ref u1, .ref u2, .ref u3, .ref u4]), (u1, ia E 5 (fun _ => 0)), (u2, ia E 5 (fun _ => 0)), (u3, ia E 5 (fun _ => 0)), (u4, ia E 5 (fun _ => 0))] rfl ?_
  exact g_vret X hr dX3_init_32 (fun j => [u1, u2, u3, u4].getD j 0) rfl rfl

set_option maxHeartbeats 1000000 in
set_option maxRecDepth 100000 in
theorem k_X0_init (E : kE) (l : Launch) (h : Nat) : KI E l yX0_init cX0_init 1 1 23 6 600 [.ref h] (h, ob 0 [.null, .null, .null, .null, .null, .null]) (fun u => [(h, ob 0 [.ref (u 0), .ref (u 1), .ref (u 2), .ref (u 3), .ref (u 4), .ref (u 5)]), ((u 0), za E 100 (fun _ => 0)), ((u 1), za E 100 (fun _ => 0)), ((u 2), ia E 100 (fun _ => 0)), ((u 3), ia E 100 (flR (fun _ => 0) (-1) 100)), ((u 4), ia E 100 (fun _ => 0)), ((u 5), ia E 100 (flR (fun _ => 0) (-1) 100))]) := by
  intro w
  refine K_start (own := RX0) (by decide +kernel) rfl [(0, .ref h)] rfl (Nat.le_of_ble_eq_true rfl) (fun p e s m below meth c X hr hin => ?_)
  have hin : meth.name = "<init>" := hin
  refine g_aload_n X dX0_init_0 1 rfl rfl ?_
  refine g_objInit X Oi_X0_3 dX0_init_1 4 rfl (Nat.le_of_ble_eq_true rfl) (Nat.le_of_ble_eq_true rfl) ?_
  refine g_aload_n X dX0_init_4 5 rfl rfl ?_
  refine g_bipush X dX0_init_5 7 rfl (v := 100) rfl ?_
  refine ga_newaZ X dX0_init_7 9 rfl 100 1 100 (by decide) (by decide) (by decide) (Nat.le_of_ble_eq_true rfl) (Nat.le_of_ble_eq_true rfl) rfl rfl (fun u1 => ?_)
  refine g_ws (w ++ [(h, ob 0 [.null, .null, .null, .null, .null, .null]), (u1, za E 100 (fun _ => 0))]) rfl ?_
  refine ga_putF X FL_X0_9 fk_X0 dX0_init_9 12 rfl rfl hin rfl 0 rfl rfl rfl (Nat.le_of_ble_eq_true rfl) [(h, ob 0 [.ref u1, .null, .null, .null, .null, .null]), (u1, za E 100 (fun _ => 0))] rfl ?_
  refine g_aload_n X dX0_init_12 13 rfl rfl ?_
  refine g_bipush X dX0_init_13 15 rfl (v := 100) rfl ?_
  refine ga_newaZ X dX0_init_15 17 rfl 100 2 200 (by decide) (by decide) (by decide) (Nat.le_of_ble_eq_true rfl) (Nat.le_of_ble_eq_true rfl) rfl rfl (fun u2 => ?_)
  refine g_ws (w ++ [(h, ob 0 [.ref u1, .null, .null, .null, .null, .null]), (u1, za E 100 (fun _ => 0)), (u2, za E 100 (fun _ => 0))]) rfl ?_
  refine ga_putF X FL_X0_15 fk_X0 dX0_init_17 20 rfl rfl hin rfl 0 rfl rfl rfl (Nat.le_of_ble_eq_true rfl) [(h, ob 0 [.ref u1, .ref u2, .null, .null, .null, .null]), (u1, za E 100 (fun _ => 0)), (u2, za E 100 (fun _ => 0))] rfl ?_
  refine g_aload_n X dX0_init_20 21 rfl rfl ?_
  refine g_bipush X dX0_init_21 23 rfl (v := 100) rfl ?_
  refine ga_newaI X dX0_init_23 25 rfl 100 3 300 (by decide) (by decide) (by decide) (Nat.le_of_ble_eq_true rfl) (Nat.le_of_ble_eq_true rfl) rfl rfl (fun u3 => ?_)
  refine g_ws (w ++ [(h, ob 0 [.ref u1, .ref u2, .null, .null, .null, .null]), (u1, za E 100 (fun _ => 0)), (u2, za E 100 (fun _ => 0)), (u3, ia E 100 (fun _ => 0))]) rfl ?_
  refine ga_putF X FL_X0_18 fk_X0 dX0_init_25 28 rfl rfl hin rfl 0 rfl rfl rfl (Nat.le_of_ble_eq_true rfl) [(h, ob 0 [.ref u1, .ref u2, .ref u3, .null, .null, .null]), (u1, za E 100 (fun _ => 0)), (u2, za E 100 (fun _ => 0)), (u3, ia E 100 (fun _ => 0))] rfl ?_
  refine g_aload_n X dX0_init_28 29 rfl rfl ?_
  refine g_bipush X dX0_init_29 31 rfl (v := 100) rfl ?_
  refine ga_newaI X dX0_init_31 33 rfl 100 4 400 (by decide) (by decide) (by decide) (Nat.le_of_ble_eq_true rfl) (Nat.le_of_ble_eq_true rfl) rfl rfl (fun u4 => ?_)
  refine g_ws (w ++ [(h, ob 0 [.ref u1, .ref u2, .ref u3, .null, .null, .null]), (u1, za E 100 (fun _ => 0)), (u2, za E 100 (fun _ => 0)), (u3, ia E 100 (fun _ => 0)), (u4, ia E 100 (fun _ => 0))]) rfl ?_
  refine ga_putF X FL_X0_22 fk_X0 dX0_init_33 36 rfl rfl hin rfl 0 rfl rfl rfl (Nat.le_of_ble_eq_true rfl) [(h, ob 0 [.ref u1, .ref u2, .ref u3, .ref u4, .null, .null]), (u1, za E 100 (fun _ => 0)), (u2, za E 100 (fun _ => 0)), (u3, ia E 100 (fun _ => 0)), (u4, ia E 100 (fun _ => 0))] rfl ?_
  refine g_aload_n X dX0_init_36 37 rfl rfl ?_
  refine g_bipush X dX0_init_37 39 rfl (v := 100) rfl ?_
  refine ga_newaI X dX0_init_39 41 rfl 100 5 500 (by decide) (by decide) (by decide) (Nat.le_of_ble_eq_true rfl) (Nat.le_of_ble_eq_true rfl) rfl rfl (fun u5 => ?_)
  refine g_ws (w ++ [(h, ob 0 [.ref u1, .ref u2, .ref u3, .ref u4, .null, .null]), (u1, za E 100 (fun _ => 0)), (u2, za E 100 (fun _ => 0)), (u3, ia E 100 (fun _ => 0)), (u4, ia E 100 (fun _ => 0)), (u5, ia E 100 (fun _ => 0))]) rfl ?_
  refine ga_putF X FL_X0_25 fk_X0 dX0_init_41 44 rfl rfl hin rfl 0 rfl rfl rfl (Nat.le_of_ble_eq_true rfl) [(h, ob 0 [.ref u1, .ref u2, .ref u3, .ref u4, .ref u5, .null]), (u1, za E 100 (fun _ => 0)), (u2, za E 100 (fun _ => 0)), (u3, ia E 100 (fun _ => 0)), (u4, ia E 100 (fun _ => 0)), (u5, ia E 100 (fun _ => 0))] rfl ?_
  refine g_aload_n X dX0_init_44 45 rfl rfl ?_
  refine g_bipush X dX0_init_45 47 rfl (v := 100) rfl ?_
  refine ga_newaI X dX0_init_47 49 rfl 100 6 600 (by decide) (by decide) (by decide) (Nat.le_of_ble_eq_true rfl) (Nat.le_of_ble_eq_true rfl) rfl rfl (fun u6 => ?_)
  refine g_ws (w ++ [(h, ob 0 [.ref u1, .ref u2, .ref u3, .ref u4, .ref u5, .null]), (u1, za E 100 (fun _ => 0)), (u2, za E 100 (fun _ => 0)), (u3, ia E 100 (fun _ => 0)), (u4, ia E 100 (fun _ => 0)), (u5, ia E 100 (fun _ => 0)), (u6, ia E 100 (fun _ => 0))]) rfl ?_
  refine ga_putF X FL_X0_28 fk_X0 dX0_init_49 52 rfl rfl hin rfl 0 rfl rfl rfl (Nat.le_of_ble_eq_true rfl) [(h, ob 0 [.ref u1, .ref u2, .ref u3, .ref u4, .ref u5, .ref u6]), (u1, za E 100 (fun _ => 0)), (u2, za E 100 (fun _ => 0)), (u3, ia E 100 (fun _ => 0)), (u4, ia E 100 (fun _ => 0)), (u5, ia E 100 (fun _ => 0)), (u6, ia E 100 (fun _ => 0))] rfl ?_
  refine g_aload_n X dX0_init_52 53 rfl rfl ?_
  refine ga_get X FL_X0_22 dX0_init_53 56 rfl 0 rfl (v := .ref u4) rfl ?_
  refine g_iconst X dX0_init_56 57 rfl (v := (-1)) rfl ?_
  refine ga_fill X Lk_X0_31 dX0_init_57 60 rfl 4 rfl (by decide) (Nat.le_of_ble_eq_true rfl) ⟨(Nat.le_of_ble_eq_true rfl), (Nat.le_of_ble_eq_true rfl)⟩ ⟨(Nat.le_of_ble_eq_true rfl), (Nat.le_of_ble_eq_true rfl)⟩ [(h, ob 0 [.ref u1, .ref u2, .ref u3, .ref u4, .ref u5, .ref u6]), (u1, za E 100 (fun _ => 0)), (u2, za E 100 (fun _ => 0)), (u3, ia E 100 (fun _ => 0)), (u4, ia E 100 (flR (fun _ => 0) (-1) 100)), (u5, ia E 100 (fun _ => 0)), (u6, ia E 100 (fun _ => 0))] rfl ?_
  refine g_aload_n X dX0_init_60 61 rfl rfl ?_
  refine ga_get X FL_X0_28 dX0_init_61 64 rfl 0 rfl (v := .ref u6) rfl ?_
  refine g_iconst X dX0_init_64 65 rfl (v := (-1)) rfl ?_
  refine ga_fill X Lk_X0_31 dX0_init_65 68 rfl 6 rfl (by decide) (Nat.le_of_ble_eq_true rfl) ⟨(Nat.le_of_ble_eq_true rfl), (Nat.le_of_ble_eq_true rfl)⟩ ⟨(Nat.le_of_ble_eq_true rfl), (Nat.le_of_ble_eq_true rfl)⟩ [(h, ob 0 [.ref u1, .ref u2, .ref u3, .ref u4, .ref u5, .ref u6]), (u1, za E 100 (fun _ => 0)), (u2, za E 100 (fun _ => 0)), (u3, ia E 100 (fun _ => 0)), (u4, ia E 100 (flR (fun _ => 0) (-1) 100)), (u5, ia E 100 (fun _ => 0)), (u6, ia E 100 (flR (fun _ => 0) (-1) 100))] rfl ?_
  exact g_vret X hr dX0_init_68 (fun j => [u1, u2, u3, u4, u5, u6].getD j 0) rfl rfl

set_option maxHeartbeats 1000000 in
set_option maxRecDepth 100000 in
theorem k_X1_init (E : kE) (l : Launch) (h : Nat) : KI E l yX1_init cX1_init 1 1 23 5 100 [.ref h] (h, ob 1 [.null, .null, .null, .null, .null]) (fun u => [(h, ob 1 [.ref (u 0), .ref (u 1), .ref (u 2), .ref (u 3), .ref (u 4)]), ((u 0), ia E 20 (fun _ => 0)), ((u 1), ia E 20 (flR (fun _ => 0) (-1) 20)), ((u 2), ia E 20 (flR (fun _ => 0) (-1) 20)), ((u 3), ia E 20 (fun _ => 0)), ((u 4), ia E 20 (fun _ => 0))]) := by
  intro w
  refine K_start (own := RX1) (by decide +kernel) rfl [(0, .ref h)] rfl (Nat.le_of_ble_eq_true rfl) (fun p e s m below meth c X hr hin => ?_)
  have hin : meth.name = "<init>" := hin
  refine g_aload_n X dX1_init_0 1 rfl rfl ?_
  refine g_objInit X Oi_X1_3 dX1_init_1 4 rfl (Nat.le_of_ble_eq_true rfl) (Nat.le_of_ble_eq_true rfl) ?_
  refine g_aload_n X dX1_init_4 5 rfl rfl ?_
  refine g_bipush X dX1_init_5 7 rfl (v := 20) rfl ?_
  refine ga_newaI X dX1_init_7 9 rfl 20 1 20 (by decide) (by decide) (by decide) (Nat.le_of_ble_eq_true rfl) (Nat.le_of_ble_eq_true rfl) rfl rfl (fun u1 => ?_)
  refine g_ws (w ++ [(h, ob 1 [.null, .null, .null, .null, .null]), (u1, ia E 20 (fun _ => 0))]) rfl ?_
  refine ga_putF X FL_X1_9 fk_X1 dX1_init_9 12 rfl rfl hin rfl 0 rfl rfl rfl (Nat.le_of_ble_eq_true rfl) [(h, ob 1 [.ref u1, .null, .null, .null, .null]), (u1, ia E 20 (fun _ => 0))] rfl ?_
  refine g_aload_n X dX1_init_12 13 rfl rfl ?_
  refine g_bipush X dX1_init_13 15 rfl (v := 20) rfl ?_
  refine ga_newaI X dX1_init_15 17 rfl 20 2 40 (by decide) (by decide) (by decide) (Nat.le_of_ble_eq_true rfl) (Nat.le_of_ble_eq_true rfl) rfl rfl (fun u2 => ?_)
  refine g_ws (w ++ [(h, ob 1 [.ref u1, .null, .null, .null, .null]), (u1, ia E 20 (fun _ => 0)), (u2, ia E 20 (fun _ => 0))]) rfl ?_
  refine ga_putF X FL_X1_15 fk_X1 dX1_init_17 20 rfl rfl hin rfl 0 rfl rfl rfl (Nat.le_of_ble_eq_true rfl) [(h, ob 1 [.ref u1, .ref u2, .null, .null, .null]), (u1, ia E 20 (fun _ => 0)), (u2, ia E 20 (fun _ => 0))] rfl ?_
  refine g_aload_n X dX1_init_20 21 rfl rfl ?_
  refine g_bipush X dX1_init_21 23 rfl (v := 20) rfl ?_
  refine ga_newaI X dX1_init_23 25 rfl 20 3 60 (by decide) (by decide) (by decide) (Nat.le_of_ble_eq_true rfl) (Nat.le_of_ble_eq_true rfl) rfl rfl (fun u3 => ?_)
  refine g_ws (w ++ [(h, ob 1 [.ref u1, .ref u2, .null, .null, .null]), (u1, ia E 20 (fun _ => 0)), (u2, ia E 20 (fun _ => 0)), (u3, ia E 20 (fun _ => 0))]) rfl ?_
  refine ga_putF X FL_X1_18 fk_X1 dX1_init_25 28 rfl rfl hin rfl 0 rfl rfl rfl (Nat.le_of_ble_eq_true rfl) [(h, ob 1 [.ref u1, .ref u2, .ref u3, .null, .null]), (u1, ia E 20 (fun _ => 0)), (u2, ia E 20 (fun _ => 0)), (u3, ia E 20 (fun _ => 0))] rfl ?_
  refine g_aload_n X dX1_init_28 29 rfl rfl ?_
  refine g_bipush X dX1_init_29 31 rfl (v := 20) rfl ?_
  refine ga_newaI X dX1_init_31 33 rfl 20 4 80 (by decide) (by decide) (by decide) (Nat.le_of_ble_eq_true rfl) (Nat.le_of_ble_eq_true rfl) rfl rfl (fun u4 => ?_)
  refine g_ws (w ++ [(h, ob 1 [.ref u1, .ref u2, .ref u3, .null, .null]), (u1, ia E 20 (fun _ => 0)), (u2, ia E 20 (fun _ => 0)), (u3, ia E 20 (fun _ => 0)), (u4, ia E 20 (fun _ => 0))]) rfl ?_
  refine ga_putF X FL_X1_21 fk_X1 dX1_init_33 36 rfl rfl hin rfl 0 rfl rfl rfl (Nat.le_of_ble_eq_true rfl) [(h, ob 1 [.ref u1, .ref u2, .ref u3, .ref u4, .null]), (u1, ia E 20 (fun _ => 0)), (u2, ia E 20 (fun _ => 0)), (u3, ia E 20 (fun _ => 0)), (u4, ia E 20 (fun _ => 0))] rfl ?_
  refine g_aload_n X dX1_init_36 37 rfl rfl ?_
  refine g_bipush X dX1_init_37 39 rfl (v := 20) rfl ?_
  refine ga_newaI X dX1_init_39 41 rfl 20 5 100 (by decide) (by decide) (by decide) (Nat.le_of_ble_eq_true rfl) (Nat.le_of_ble_eq_true rfl) rfl rfl (fun u5 => ?_)
  refine g_ws (w ++ [(h, ob 1 [.ref u1, .ref u2, .ref u3, .ref u4, .null]), (u1, ia E 20 (fun _ => 0)), (u2, ia E 20 (fun _ => 0)), (u3, ia E 20 (fun _ => 0)), (u4, ia E 20 (fun _ => 0)), (u5, ia E 20 (fun _ => 0))]) rfl ?_
  refine ga_putF X FL_X1_24 fk_X1 dX1_init_41 44 rfl rfl hin rfl 0 rfl rfl rfl (Nat.le_of_ble_eq_true rfl) [(h, ob 1 [.ref u1, .ref u2, .ref u3, .ref u4, .ref u5]), (u1, ia E 20 (fun _ => 0)), (u2, ia E 20 (fun _ => 0)), (u3, ia E 20 (fun _ => 0)), (u4, ia E 20 (fun _ => 0)), (u5, ia E 20 (fun _ => 0))] rfl ?_
  refine g_aload_n X dX1_init_44 45 rfl rfl ?_
  refine ga_get X FL_X1_15 dX1_init_45 48 rfl 0 rfl (v := .ref u2) rfl ?_
  refine g_iconst X dX1_init_48 49 rfl (v := (-1)) rfl ?_
  refine ga_fill X Lk_X1_27 dX1_init_49 52 rfl 2 rfl (by decide) (Nat.le_of_ble_eq_true rfl) ⟨(Nat.le_of_ble_eq_true rfl), (Nat.le_of_ble_eq_true rfl)⟩ ⟨(Nat.le_of_ble_eq_true rfl), (Nat.le_of_ble_eq_true rfl)⟩ [(h, ob 1 [.ref u1, .ref u2, .ref u3, .ref u4, .ref u5]), (u1, ia E 20 (fun _ => 0)), (u2, ia E 20 (flR (fun _ => 0) (-1) 20)), (u3, ia E 20 (fun _ => 0)), (u4, ia E 20 (fun _ => 0)), (u5, ia E 20 (fun _ => 0))] rfl ?_
  refine g_aload_n X dX1_init_52 53 rfl rfl ?_
  refine ga_get X FL_X1_18 dX1_init_53 56 rfl 0 rfl (v := .ref u3) rfl ?_
  refine g_iconst X dX1_init_56 57 rfl (v := (-1)) rfl ?_
  refine ga_fill X Lk_X1_27 dX1_init_57 60 rfl 3 rfl (by decide) (Nat.le_of_ble_eq_true rfl) ⟨(Nat.le_of_ble_eq_true rfl), (Nat.le_of_ble_eq_true rfl)⟩ ⟨(Nat.le_of_ble_eq_true rfl), (Nat.le_of_ble_eq_true rfl)⟩ [(h, ob 1 [.ref u1, .ref u2, .ref u3, .ref u4, .ref u5]), (u1, ia E 20 (fun _ => 0)), (u2, ia E 20 (flR (fun _ => 0) (-1) 20)), (u3, ia E 20 (flR (fun _ => 0) (-1) 20)), (u4, ia E 20 (fun _ => 0)), (u5, ia E 20 (fun _ => 0))] rfl ?_
  exact g_vret X hr dX1_init_60 (fun j => [u1, u2, u3, u4, u5].getD j 0) rfl rfl

set_option maxHeartbeats 1000000 in
set_option maxRecDepth 100000 in
theorem k_X4_init (E : kE) (l : Launch) (h : Nat) : KI E l yX4_init cX4_init 2 1 20 2 6 [.ref h] (h, ob 4 [.int 0, .int 0, .int 0, .int 0, .null, .null]) (fun u => [(h, ob 4 [.int 0, .int 10, .int 100, .int 0, .ref (u 0), .ref (u 1)]), ((u 0), za E 3 (upd (upd (upd (fun _ => 0) (ix 0) 1) (ix (0 + 1)) 1) (ix ((0 + 1) + 1)) 1)), ((u 1), za E 3 (upd (upd (upd (fun _ => 0) (ix 0) 1) (ix (0 + 1)) 1) (ix ((0 + 1) + 1)) 1))]) := by
  intro w
  refine K_start (own := RX4) (by decide +kernel) rfl [(0, .ref h)] rfl (Nat.le_of_ble_eq_true rfl) (fun p e s m below meth c X hr hin => ?_)
  have hin : meth.name = "<init>" := hin
  refine g_aload_n X dX4_init_0 1 rfl rfl ?_
  refine g_objInit X Oi_X4_3 dX4_init_1 4 rfl (Nat.le_of_ble_eq_true rfl) (Nat.le_of_ble_eq_true rfl) ?_
  refine g_aload_n X dX4_init_4 5 rfl rfl ?_
  refine g_bipush X dX4_init_5 7 rfl (v := 10) rfl ?_
  refine ga_put X FL_X4_9 fk_X4 dX4_init_7 10 rfl rfl 0 rfl rfl rfl (Nat.le_of_ble_eq_true rfl) [(h, ob 4 [.int 0, .int 10, .int 0, .int 0, .null, .null])] rfl ?_
  refine g_aload_n X dX4_init_10 11 rfl rfl ?_
  refine g_bipush X dX4_init_11 13 rfl (v := 100) rfl ?_
  refine ga_put X FL_X4_15 fk_X4 dX4_init_13 16 rfl rfl 0 rfl rfl rfl (Nat.le_of_ble_eq_true rfl) [(h, ob 4 [.int 0, .int 10, .int 100, .int 0, .null, .null])] rfl ?_
  refine g_aload_n X dX4_init_16 17 rfl rfl ?_
  refine g_iconst X dX4_init_17 18 rfl (v := 3) rfl ?_
  refine ga_newaZ X dX4_init_18 20 rfl 3 1 3 (by decide) (by decide) (by decide) (Nat.le_of_ble_eq_true rfl) (Nat.le_of_ble_eq_true rfl) rfl rfl (fun u1 => ?_)
  refine g_ws (w ++ [(h, ob 4 [.int 0, .int 10, .int 100, .int 0, .null, .null]), (u1, za E 3 (fun _ => 0))]) rfl ?_
  refine ga_putF X FL_X4_18 fk_X4 dX4_init_20 23 rfl rfl hin rfl 0 rfl rfl rfl (Nat.le_of_ble_eq_true rfl) [(h, ob 4 [.int 0, .int 10, .int 100, .int 0, .ref u1, .null]), (u1, za E 3 (fun _ => 0))] rfl ?_
  refine g_aload_n X dX4_init_23 24 rfl rfl ?_
  refine g_iconst X dX4_init_24 25 rfl (v := 3) rfl ?_
  refine ga_newaZ X dX4_init_25 27 rfl 3 2 6 (by decide) (by decide) (by decide) (Nat.le_of_ble_eq_true rfl) (Nat.le_of_ble_eq_true rfl) rfl rfl (fun u2 => ?_)
  refine g_ws (w ++ [(h, ob 4 [.int 0, .int 10, .int 100, .int 0, .ref u1, .null]), (u1, za E 3 (fun _ => 0)), (u2, za E 3 (fun _ => 0))]) rfl ?_
  refine ga_putF X FL_X4_22 fk_X4 dX4_init_27 30 rfl rfl hin rfl 0 rfl rfl rfl (Nat.le_of_ble_eq_true rfl) [(h, ob 4 [.int 0, .int 10, .int 100, .int 0, .ref u1, .ref u2]), (u1, za E 3 (fun _ => 0)), (u2, za E 3 (fun _ => 0))] rfl ?_
  refine g_iconst X dX4_init_30 31 rfl (v := 0) rfl ?_
  refine g_istore_n X dX4_init_31 32 rfl (by decide) [(1, .int 0), (0, .ref h)] rfl ?_
  refine g_iload_n X dX4_init_32 33 rfl rfl ?_
  refine g_iconst X dX4_init_33 34 rfl (v := 3) rfl ?_
  refine g_ic_ge X dX4_init_34 57 37 rfl rfl (fun hc => absurd hc (by decide)) (fun _ => ?_)
  refine g_aload_n X dX4_init_37 38 rfl rfl ?_
  refine ga_get X FL_X4_18 dX4_init_38 41 rfl 0 rfl (v := .ref u1) rfl ?_
  refine g_iload_n X dX4_init_41 42 rfl rfl ?_
  refine g_iconst X dX4_init_42 43 rfl (v := 1) rfl ?_
  refine ga_zast X dX4_init_43 44 rfl 1 rfl (vin_of (N := 3) (by decide) rfl (by decide) (by decide)) rfl [(h, ob 4 [.int 0, .int 10, .int 100, .int 0, .ref u1, .ref u2]), (u1, za E 3 (upd (fun _ => 0) (ix 0) 1)), (u2, za E 3 (fun _ => 0))] rfl ?_
  refine g_aload_n X dX4_init_44 45 rfl rfl ?_
  refine ga_get X FL_X4_22 dX4_init_45 48 rfl 0 rfl (v := .ref u2) rfl ?_
  refine g_iload_n X dX4_init_48 49 rfl rfl ?_
  refine g_iconst X dX4_init_49 50 rfl (v := 1) rfl ?_
  refine ga_zast X dX4_init_50 51 rfl 2 rfl (vin_of (N := 3) (by decide) rfl (by decide) (by decide)) rfl [(h, ob 4 [.int 0, .int 10, .int 100, .int 0, .ref u1, .ref u2]), (u1, za E 3 (upd (fun _ => 0) (ix 0) 1)), (u2, za E 3 (upd (fun _ => 0) (ix 0) 1))] rfl ?_
  refine g_iinc X dX4_init_51 54 rfl (by decide) 0 rfl rfl [(1, .int (0 + 1)), (0, .ref h)] rfl ?_
  refine g_goto X dX4_init_54 32 rfl ?_
  refine g_iload_n X dX4_init_32 33 rfl rfl ?_
  refine g_iconst X dX4_init_33 34 rfl (v := 3) rfl ?_
  refine g_ic_ge X dX4_init_34 57 37 rfl rfl (fun hc => absurd hc (by decide)) (fun _ => ?_)
  refine g_aload_n X dX4_init_37 38 rfl rfl ?_
  refine ga_get X FL_X4_18 dX4_init_38 41 rfl 0 rfl (v := .ref u1) rfl ?_
  refine g_iload_n X dX4_init_41 42 rfl rfl ?_
  refine g_iconst X dX4_init_42 43 rfl (v := 1) rfl ?_
  refine ga_zast X dX4_init_43 44 rfl 1 rfl (vin_of (N := 3) (by decide) rfl (by decide) (by decide)) rfl [(h, ob 4 [.int 0, .int 10, .int 100, .int 0, .ref u1, .ref u2]), (u1, za E 3 (upd (upd (fun _ => 0) (ix 0) 1) (ix (0 + 1)) 1)), (u2, za E 3 (upd (fun _ => 0) (ix 0) 1))] rfl ?_
  refine g_aload_n X dX4_init_44 45 rfl rfl ?_
  refine ga_get X FL_X4_22 dX4_init_45 48 rfl 0 rfl (v := .ref u2) rfl ?_
  refine g_iload_n X dX4_init_48 49 rfl rfl ?_
  refine g_iconst X dX4_init_49 50 rfl (v := 1) rfl ?_
  refine ga_zast X dX4_init_50 51 rfl 2 rfl (vin_of (N := 3) (by decide) rfl (by decide) (by decide)) rfl [(h, ob 4 [.int 0, .int 10, .int 100, .int 0, .ref u1, .ref u2]), (u1, za E 3 (upd (upd (fun _ => 0) (ix 0) 1) (ix (0 + 1)) 1)), (u2, za E 3 (upd (upd (fun _ => 0) (ix 0) 1) (ix (0 + 1)) 1))] rfl ?_
  refine g_iinc X dX4_init_51 54 rfl (by decide) 0 rfl rfl [(1, .int ((0 + 1) + 1)), (0, .ref h)] rfl ?_
  refine g_goto X dX4_init_54 32 rfl ?_
  refine g_iload_n X dX4_init_32 33 rfl rfl ?_
  refine g_iconst X dX4_init_33 34 rfl (v := 3) rfl ?_
  refine g_ic_ge X dX4_init_34 57 37 rfl rfl (fun hc => absurd hc (by decide)) (fun _ => ?_)
  refine g_aload_n X dX4_init_37 38 rfl rfl ?_
  refine ga_get X FL_X4_18 dX4_init_38 41 rfl 0 rfl (v := .ref u1) rfl ?_
  refine g_iload_n X dX4_init_41 42 rfl rfl ?_
  refine g_iconst X dX4_init_42 43 rfl (v := 1) rfl ?_
  refine ga_zast X dX4_init_43 44 rfl 1 rfl (vin_of (N := 3) (by decide) rfl (by decide) (by decide)) rfl [(h, ob 4 [.int 0, .int 10, .int 100, .int 0, .ref u1, .ref u2]), (u1, za E 3 (upd (upd (upd (fun _ => 0) (ix 0) 1) (ix (0 + 1)) 1) (ix ((0 + 1) + 1)) 1)), (u2, za E 3 (upd (upd (fun _ => 0) (ix 0) 1) (ix (0 + 1)) 1))] rfl ?_
  refine g_aload_n X dX4_init_44 45 rfl rfl ?_
  refine ga_get X FL_X4_22 dX4_init_45 48 rfl 0 rfl (v := .ref u2) rfl ?_
  refine g_iload_n X dX4_init_48 49 rfl rfl ?_
  refine g_iconst X dX4_init_49 50 rfl (v := 1) rfl ?_
  refine ga_zast X dX4_init_50 51 rfl 2 rfl (vin_of (N := 3) (by decide) rfl (by decide) (by decide)) rfl [(h, ob 4 [.int 0, .int 10, .int 100, .int 0, .ref u1, .ref u2]), (u1, za E 3 (upd (upd (upd (fun _ => 0) (ix 0) 1) (ix (0 + 1)) 1) (ix ((0 + 1) + 1)) 1)), (u2, za E 3 (upd (upd (upd (fun _ => 0) (ix 0) 1) (ix (0 + 1)) 1) (ix ((0 + 1) + 1)) 1))] rfl ?_
  refine g_iinc X dX4_init_51 54 rfl (by decide) 0 rfl rfl [(1, .int (((0 + 1) + 1) + 1)), (0, .ref h)] rfl ?_
  refine g_goto X dX4_init_54 32 rfl ?_
  refine g_iload_n X dX4_init_32 33 rfl rfl ?_
  refine g_iconst X dX4_init_33 34 rfl (v := 3) rfl ?_
  refine g_ic_ge X dX4_init_34 57 37 rfl rfl (fun _ => ?_) (fun hc => absurd (by decide) hc)
  exact g_vret X hr dX4_init_57 (fun j => [u1, u2].getD j 0) rfl rfl

set_option maxHeartbeats 1000000 in
set_option maxRecDepth 100000 in
theorem k_X5_init (E : kE) (l : Launch) (h : Nat) (lg : Nat) : KI E l yX5_init cX5_init 2 2 43 21 748 [.ref h, .ref lg] (h, ob 5 [.null, .null, .null, .null, .null]) (fun u => [(h, ob 5 [.ref (u 0), .ref (u 5), .ref (u 12), .ref (u 18), .ref lg]), ((u 0), ob 3 [.int 0, .ref (u 1), .ref (u 2), .ref (u 3), .ref (u 4)]), ((u 1), ia E 5 (fun _ => 0)), ((u 2), ia E 5 (fun _ => 0)), ((u 3), ia E 5 (fun _ => 0)), ((u 4), ia E 5 (fun _ => 0)), ((u 5), ob 0 [.ref (u 6), .ref (u 7), .ref (u 8), .ref (u 9), .ref (u 10), .ref (u 11)]), ((u 6), za E 100 (fun _ => 0)), ((u 7), za E 100 (fun _ => 0)), ((u 8), ia E 100 (fun _ => 0)), ((u 9), ia E 100 (flR (fun _ => 0) (-1) 100)), ((u 10), ia E 100 (fun _ => 0)), ((u 11), ia E 100 (flR (fun _ => 0) (-1) 100)), ((u 12), ob 1 [.ref (u 13), .ref (u 14), .ref (u 15), .ref (u 16), .ref (u 17)]), ((u 13), ia E 20 (fun _ => 0)), ((u 14), ia E 20 (flR (fun _ => 0) (-1) 20)), ((u 15), ia E 20 (flR (fun _ => 0) (-1) 20)), ((u 16), ia E 20 (fun _ => 0)), ((u 17), ia E 20 (fun _ => 0)), ((u 18), ob 4 [.int 0, .int 10, .int 100, .int 0, .ref (u 19), .ref (u 20)]), ((u 19), za E 3 (upd (upd (upd (fun _ => 0) (ix 0) 1) (ix (0 + 1)) 1) (ix ((0 + 1) + 1)) 1)), ((u 20), za E 3 (upd (upd (upd (fun _ => 0) (ix 0) 1) (ix (0 + 1)) 1) (ix ((0 + 1) + 1)) 1))]) := by
  intro w
  refine K_start (own := RX5) (by decide +kernel) rfl [(0, .ref h), (1, .ref lg)] rfl (Nat.le_of_ble_eq_true rfl) (fun p e s m below meth c X hr hin => ?_)
  have hin : meth.name = "<init>" := hin
  refine g_aload_n X dX5_init_0 1 rfl rfl ?_
  refine g_objInit X Oi_X5_3 dX5_init_1 4 rfl (Nat.le_of_ble_eq_true rfl) (Nat.le_of_ble_eq_true rfl) ?_
  refine g_aload_n X dX5_init_4 5 rfl rfl ?_
  refine ga_new X (ci := 3) 1 5 Cl_X5_9 In_X3 uws_X3 fk_X3 rfl dX5_init_5 8 rfl [.int 0, .null, .null, .null, .null] ?_ (Nat.le_of_ble_eq_true rfl) (Nat.le_of_ble_eq_true rfl) rfl rfl (fun u1 => ?_)
  · intro j hj
    have hj2 : j = 0 ∨ j = 1 ∨ j = 2 ∨ j = 3 ∨ j = 4 := by omega
    rcases hj2 with rfl | rfl | rfl | rfl | rfl <;> rfl
  refine g_ws (w ++ [(h, ob 5 [.null, .null, .null, .null, .null]), (u1, ob 3 [.int 0, .null, .null, .null, .null])]) rfl ?_
  refine g_dup X dX5_init_8 9 rfl rfl ?_
  refine ga_J X (L := [(h, ob 5 [.null, .null, .null, .null, .null])]) Lk_X5_11 rfl (k_X3_init E l u1) dX5_init_9 rfl rfl (Nat.le_of_ble_eq_true rfl) ⟨(Nat.le_of_ble_eq_true rfl), (Nat.le_of_ble_eq_true rfl)⟩ ⟨(Nat.le_of_ble_eq_true rfl), (Nat.le_of_ble_eq_true rfl)⟩ 12 5 25 rfl rfl rfl (fun v2 => ?_)
  refine g_ws (w ++ [(h, ob 5 [.null, .null, .null, .null, .null]), (u1, ob 3 [.int 0, .ref (v2 0), .ref (v2 1), .ref (v2 2), .ref (v2 3)]), ((v2 0), ia E 5 (fun _ => 0)), ((v2 1), ia E 5 (fun _ => 0)), ((v2 2), ia E 5 (fun _ => 0)), ((v2 3), ia E 5 (fun _ => 0))]) rfl ?_
  refine ga_putF X FL_X5_12 fk_X5 dX5_init_12 15 rfl rfl hin rfl 0 rfl rfl rfl (Nat.le_of_ble_eq_true rfl) [(h, ob 5 [.ref u1, .null, .null, .null, .null]), (u1, ob 3 [.int 0, .ref (v2 0), .ref (v2 1), .ref (v2 2), .ref (v2 3)]), ((v2 0), ia E 5 (fun _ => 0)), ((v2 1), ia E 5 (fun _ => 0)), ((v2 2), ia E 5 (fun _ => 0)), ((v2 3), ia E 5 (fun _ => 0))] rfl ?_
  refine g_aload_n X dX5_init_15 16 rfl rfl ?_
  refine ga_new X (ci := 0) 6 31 Cl_X5_18 In_X0 uws_X0 fk_X0 rfl dX5_init_16 19 rfl [.null, .null, .null, .null, .null, .null] ?_ (Nat.le_of_ble_eq_true rfl) (Nat.le_of_ble_eq_true rfl) rfl rfl (fun u3 => ?_)
  · intro j hj
    have hj2 : j = 0 ∨ j = 1 ∨ j = 2 ∨ j = 3 ∨ j = 4 ∨ j = 5 := by omega
    rcases hj2 with rfl | rfl | rfl | rfl | rfl | rfl <;> rfl
  refine g_ws (w ++ [(h, ob 5 [.ref u1, .null, .null, .null, .null]), (u1, ob 3 [.int 0, .ref (v2 0), .ref (v2 1), .ref (v2 2), .ref (v2 3)]), ((v2 0), ia E 5 (fun _ => 0)), ((v2 1), ia E 5 (fun _ => 0)), ((v2 2), ia E 5 (fun _ => 0)), ((v2 3), ia E 5 (fun _ => 0)), (u3, ob 0 [.null, .null, .null, .null, .null, .null])]) rfl ?_
  refine g_dup X dX5_init_19 20 rfl rfl ?_
  refine ga_I X (L := [(h, ob 5 [.ref u1, .null, .null, .null, .null]), (u1, ob 3 [.int 0, .ref (v2 0), .ref (v2 1), .ref (v2 2), .ref (v2 3)]), ((v2 0), ia E 5 (fun _ => 0)), ((v2 1), ia E 5 (fun _ => 0)), ((v2 2), ia E 5 (fun _ => 0)), ((v2 3), ia E 5 (fun _ => 0))]) Lk_X5_20 rfl (k_X0_init E l u3) dX5_init_20 rfl rfl (Nat.le_of_ble_eq_true rfl) ⟨(Nat.le_of_ble_eq_true rfl), (Nat.le_of_ble_eq_true rfl)⟩ ⟨(Nat.le_of_ble_eq_true rfl), (Nat.le_of_ble_eq_true rfl)⟩ 23 12 631 rfl rfl rfl (fun v4 => ?_)
  refine g_ws (w ++ [(h, ob 5 [.ref u1, .null, .null, .null, .null]), (u1, ob 3 [.int 0, .ref (v2 0), .ref (v2 1), .ref (v2 2), .ref (v2 3)]), ((v2 0), ia E 5 (fun _ => 0)), ((v2 1), ia E 5 (fun _ => 0)), ((v2 2), ia E 5 (fun _ => 0)), ((v2 3), ia E 5 (fun _ => 0)), (u3, ob 0 [.ref (v4 0), .ref (v4 1), .ref (v4 2), .ref (v4 3), .ref (v4 4), .ref (v4 5)]), ((v4 0), za E 100 (fun _ => 0)), ((v4 1), za E 100 (fun _ => 0)), ((v4 2), ia E 100 (fun _ => 0)), ((v4 3), ia E 100 (flR (fun _ => 0) (-1) 100)), ((v4 4), ia E 100 (fun _ => 0)), ((v4 5), ia E 100 (flR (fun _ => 0) (-1) 100))]) rfl ?_
  refine ga_putF X FL_X5_21 fk_X5 dX5_init_23 26 rfl rfl hin rfl 0 rfl rfl rfl (Nat.le_of_ble_eq_true rfl) [(h, ob 5 [.ref u1, .ref u3, .null, .null, .null]), (u1, ob 3 [.int 0, .ref (v2 0), .ref (v2 1), .ref (v2 2), .ref (v2 3)]), ((v2 0), ia E 5 (fun _ => 0)), ((v2 1), ia E 5 (fun _ => 0)), ((v2 2), ia E 5 (fun _ => 0)), ((v2 3), ia E 5 (fun _ => 0)), (u3, ob 0 [.ref (v4 0), .ref (v4 1), .ref (v4 2), .ref (v4 3), .ref (v4 4), .ref (v4 5)]), ((v4 0), za E 100 (fun _ => 0)), ((v4 1), za E 100 (fun _ => 0)), ((v4 2), ia E 100 (fun _ => 0)), ((v4 3), ia E 100 (flR (fun _ => 0) (-1) 100)), ((v4 4), ia E 100 (fun _ => 0)), ((v4 5), ia E 100 (flR (fun _ => 0) (-1) 100))] rfl ?_
  refine g_aload_n X dX5_init_26 27 rfl rfl ?_
  refine ga_new X (ci := 1) 13 636 Cl_X5_25 In_X1 uws_X1 fk_X1 rfl dX5_init_27 30 rfl [.null, .null, .null, .null, .null] ?_ (Nat.le_of_ble_eq_true rfl) (Nat.le_of_ble_eq_true rfl) rfl rfl (fun u5 => ?_)
  · intro j hj
    have hj2 : j = 0 ∨ j = 1 ∨ j = 2 ∨ j = 3 ∨ j = 4 := by omega
    rcases hj2 with rfl | rfl | rfl | rfl | rfl <;> rfl
  refine g_ws (w ++ [(h, ob 5 [.ref u1, .ref u3, .null, .null, .null]), (u1, ob 3 [.int 0, .ref (v2 0), .ref (v2 1), .ref (v2 2), .ref (v2 3)]), ((v2 0), ia E 5 (fun _ => 0)), ((v2 1), ia E 5 (fun _ => 0)), ((v2 2), ia E 5 (fun _ => 0)), ((v2 3), ia E 5 (fun _ => 0)), (u3, ob 0 [.ref (v4 0), .ref (v4 1), .ref (v4 2), .ref (v4 3), .ref (v4 4), .ref (v4 5)]), ((v4 0), za E 100 (fun _ => 0)), ((v4 1), za E 100 (fun _ => 0)), ((v4 2), ia E 100 (fun _ => 0)), ((v4 3), ia E 100 (flR (fun _ => 0) (-1) 100)), ((v4 4), ia E 100 (fun _ => 0)), ((v4 5), ia E 100 (flR (fun _ => 0) (-1) 100)), (u5, ob 1 [.null, .null, .null, .null, .null])]) rfl ?_
  refine g_dup X dX5_init_30 31 rfl rfl ?_
  refine ga_I X (L := [(h, ob 5 [.ref u1, .ref u3, .null, .null, .null]), (u1, ob 3 [.int 0, .ref (v2 0), .ref (v2 1), .ref (v2 2), .ref (v2 3)]), ((v2 0), ia E 5 (fun _ => 0)), ((v2 1), ia E 5 (fun _ => 0)), ((v2 2), ia E 5 (fun _ => 0)), ((v2 3), ia E 5 (fun _ => 0)), (u3, ob 0 [.ref (v4 0), .ref (v4 1), .ref (v4 2), .ref (v4 3), .ref (v4 4), .ref (v4 5)]), ((v4 0), za E 100 (fun _ => 0)), ((v4 1), za E 100 (fun _ => 0)), ((v4 2), ia E 100 (fun _ => 0)), ((v4 3), ia E 100 (flR (fun _ => 0) (-1) 100)), ((v4 4), ia E 100 (fun _ => 0)), ((v4 5), ia E 100 (flR (fun _ => 0) (-1) 100))]) Lk_X5_27 rfl (k_X1_init E l u5) dX5_init_31 rfl rfl (Nat.le_of_ble_eq_true rfl) ⟨(Nat.le_of_ble_eq_true rfl), (Nat.le_of_ble_eq_true rfl)⟩ ⟨(Nat.le_of_ble_eq_true rfl), (Nat.le_of_ble_eq_true rfl)⟩ 34 18 736 rfl rfl rfl (fun v6 => ?_)
  refine g_ws (w ++ [(h, ob 5 [.ref u1, .ref u3, .null, .null, .null]), (u1, ob 3 [.int 0, .ref (v2 0), .ref (v2 1), .ref (v2 2), .ref (v2 3)]), ((v2 0), ia E 5 (fun _ => 0)), ((v2 1), ia E 5 (fun _ => 0)), ((v2 2), ia E 5 (fun _ => 0)), ((v2 3), ia E 5 (fun _ => 0)), (u3, ob 0 [.ref (v4 0), .ref (v4 1), .ref (v4 2), .ref (v4 3), .ref (v4 4), .ref (v4 5)]), ((v4 0), za E 100 (fun _ => 0)), ((v4 1), za E 100 (fun _ => 0)), ((v4 2), ia E 100 (fun _ => 0)), ((v4 3), ia E 100 (flR (fun _ => 0) (-1) 100)), ((v4 4), ia E 100 (fun _ => 0)), ((v4 5), ia E 100 (flR (fun _ => 0) (-1) 100)), (u5, ob 1 [.ref (v6 0), .ref (v6 1), .ref (v6 2), .ref (v6 3), .ref (v6 4)]), ((v6 0), ia E 20 (fun _ => 0)), ((v6 1), ia E 20 (flR (fun _ => 0) (-1) 20)), ((v6 2), ia E 20 (flR (fun _ => 0) (-1) 20)), ((v6 3), ia E 20 (fun _ => 0)), ((v6 4), ia E 20 (fun _ => 0))]) rfl ?_
  refine ga_putF X FL_X5_28 fk_X5 dX5_init_34 37 rfl rfl hin rfl 0 rfl rfl rfl (Nat.le_of_ble_eq_true rfl) [(h, ob 5 [.ref u1, .ref u3, .ref u5, .null, .null]), (u1, ob 3 [.int 0, .ref (v2 0), .ref (v2 1), .ref (v2 2), .ref (v2 3)]), ((v2 0), ia E 5 (fun _ => 0)), ((v2 1), ia E 5 (fun _ => 0)), ((v2 2), ia E 5 (fun _ => 0)), ((v2 3), ia E 5 (fun _ => 0)), (u3, ob 0 [.ref (v4 0), .ref (v4 1), .ref (v4 2), .ref (v4 3), .ref (v4 4), .ref (v4 5)]), ((v4 0), za E 100 (fun _ => 0)), ((v4 1), za E 100 (fun _ => 0)), ((v4 2), ia E 100 (fun _ => 0)), ((v4 3), ia E 100 (flR (fun _ => 0) (-1) 100)), ((v4 4), ia E 100 (fun _ => 0)), ((v4 5), ia E 100 (flR (fun _ => 0) (-1) 100)), (u5, ob 1 [.ref (v6 0), .ref (v6 1), .ref (v6 2), .ref (v6 3), .ref (v6 4)]), ((v6 0), ia E 20 (fun _ => 0)), ((v6 1), ia E 20 (flR (fun _ => 0) (-1) 20)), ((v6 2), ia E 20 (flR (fun _ => 0) (-1) 20)), ((v6 3), ia E 20 (fun _ => 0)), ((v6 4), ia E 20 (fun _ => 0))] rfl ?_
  refine g_aload_n X dX5_init_37 38 rfl rfl ?_
  refine ga_new X (ci := 4) 19 742 Cl_X5_32 In_X4 uws_X4 fk_X4 rfl dX5_init_38 41 rfl [.int 0, .int 0, .int 0, .int 0, .null, .null] ?_ (Nat.le_of_ble_eq_true rfl) (Nat.le_of_ble_eq_true rfl) rfl rfl (fun u7 => ?_)
  · intro j hj
    have hj2 : j = 0 ∨ j = 1 ∨ j = 2 ∨ j = 3 ∨ j = 4 ∨ j = 5 := by omega
    rcases hj2 with rfl | rfl | rfl | rfl | rfl | rfl <;> rfl
  refine g_ws (w ++ [(h, ob 5 [.ref u1, .ref u3, .ref u5, .null, .null]), (u1, ob 3 [.int 0, .ref (v2 0), .ref (v2 1), .ref (v2 2), .ref (v2 3)]), ((v2 0), ia E 5 (fun _ => 0)), ((v2 1), ia E 5 (fun _ => 0)), ((v2 2), ia E 5 (fun _ => 0)), ((v2 3), ia E 5 (fun _ => 0)), (u3, ob 0 [.ref (v4 0), .ref (v4 1), .ref (v4 2), .ref (v4 3), .ref (v4 4), .ref (v4 5)]), ((v4 0), za E 100 (fun _ => 0)), ((v4 1), za E 100 (fun _ => 0)), ((v4 2), ia E 100 (fun _ => 0)), ((v4 3), ia E 100 (flR (fun _ => 0) (-1) 100)), ((v4 4), ia E 100 (fun _ => 0)), ((v4 5), ia E 100 (flR (fun _ => 0) (-1) 100)), (u5, ob 1 [.ref (v6 0), .ref (v6 1), .ref (v6 2), .ref (v6 3), .ref (v6 4)]), ((v6 0), ia E 20 (fun _ => 0)), ((v6 1), ia E 20 (flR (fun _ => 0) (-1) 20)), ((v6 2), ia E 20 (flR (fun _ => 0) (-1) 20)), ((v6 3), ia E 20 (fun _ => 0)), ((v6 4), ia E 20 (fun _ => 0)), (u7, ob 4 [.int 0, .int 0, .int 0, .int 0, .null, .null])]) rfl ?_
  refine g_dup X dX5_init_41 42 rfl rfl ?_
  refine ga_I X (L := [(h, ob 5 [.ref u1, .ref u3, .ref u5, .null, .null]), (u1, ob 3 [.int 0, .ref (v2 0), .ref (v2 1), .ref (v2 2), .ref (v2 3)]), ((v2 0), ia E 5 (fun _ => 0)), ((v2 1), ia E 5 (fun _ => 0)), ((v2 2), ia E 5 (fun _ => 0)), ((v2 3), ia E 5 (fun _ => 0)), (u3, ob 0 [.ref (v4 0), .ref (v4 1), .ref (v4 2), .ref (v4 3), .ref (v4 4), .ref (v4 5)]), ((v4 0), za E 100 (fun _ => 0)), ((v4 1), za E 100 (fun _ => 0)), ((v4 2), ia E 100 (fun _ => 0)), ((v4 3), ia E 100 (flR (fun _ => 0) (-1) 100)), ((v4 4), ia E 100 (fun _ => 0)), ((v4 5), ia E 100 (flR (fun _ => 0) (-1) 100)), (u5, ob 1 [.ref (v6 0), .ref (v6 1), .ref (v6 2), .ref (v6 3), .ref (v6 4)]), ((v6 0), ia E 20 (fun _ => 0)), ((v6 1), ia E 20 (flR (fun _ => 0) (-1) 20)), ((v6 2), ia E 20 (flR (fun _ => 0) (-1) 20)), ((v6 3), ia E 20 (fun _ => 0)), ((v6 4), ia E 20 (fun _ => 0))]) Lk_X5_34 rfl (k_X4_init E l u7) dX5_init_42 rfl rfl (Nat.le_of_ble_eq_true rfl) ⟨(Nat.le_of_ble_eq_true rfl), (Nat.le_of_ble_eq_true rfl)⟩ ⟨(Nat.le_of_ble_eq_true rfl), (Nat.le_of_ble_eq_true rfl)⟩ 45 21 748 rfl rfl rfl (fun v8 => ?_)
  refine g_ws (w ++ [(h, ob 5 [.ref u1, .ref u3, .ref u5, .null, .null]), (u1, ob 3 [.int 0, .ref (v2 0), .ref (v2 1), .ref (v2 2), .ref (v2 3)]), ((v2 0), ia E 5 (fun _ => 0)), ((v2 1), ia E 5 (fun _ => 0)), ((v2 2), ia E 5 (fun _ => 0)), ((v2 3), ia E 5 (fun _ => 0)), (u3, ob 0 [.ref (v4 0), .ref (v4 1), .ref (v4 2), .ref (v4 3), .ref (v4 4), .ref (v4 5)]), ((v4 0), za E 100 (fun _ => 0)), ((v4 1), za E 100 (fun _ => 0)), ((v4 2), ia E 100 (fun _ => 0)), ((v4 3), ia E 100 (flR (fun _ => 0) (-1) 100)), ((v4 4), ia E 100 (fun _ => 0)), ((v4 5), ia E 100 (flR (fun _ => 0) (-1) 100)), (u5, ob 1 [.ref (v6 0), .ref (v6 1), .ref (v6 2), .ref (v6 3), .ref (v6 4)]), ((v6 0), ia E 20 (fun _ => 0)), ((v6 1), ia E 20 (flR (fun _ => 0) (-1) 20)), ((v6 2), ia E 20 (flR (fun _ => 0) (-1) 20)), ((v6 3), ia E 20 (fun _ => 0)), ((v6 4), ia E 20 (fun _ => 0)), (u7, ob 4 [.int 0, .int 10, .int 100, .int 0, .ref (v8 0), .ref (v8 1)]), ((v8 0), za E 3 (upd (upd (upd (fun _ => 0) (ix 0) 1) (ix (0 + 1)) 1) (ix ((0 + 1) + 1)) 1)), ((v8 1), za E 3 (upd (upd (upd (fun _ => 0) (ix 0) 1) (ix (0 + 1)) 1) (ix ((0 + 1) + 1)) 1))]) rfl ?_
  refine ga_putF X FL_X5_35 fk_X5 dX5_init_45 48 rfl rfl hin rfl 0 rfl rfl rfl (Nat.le_of_ble_eq_true rfl) [(h, ob 5 [.ref u1, .ref u3, .ref u5, .ref u7, .null]), (u1, ob 3 [.int 0, .ref (v2 0), .ref (v2 1), .ref (v2 2), .ref (v2 3)]), ((v2 0), ia E 5 (fun _ => 0)), ((v2 1), ia E 5 (fun _ => 0)), ((v2 2), ia E 5 (fun _ => 0)), ((v2 3), ia E 5 (fun _ => 0)), (u3, ob 0 [.ref (v4 0), .ref (v4 1), .ref (v4 2), .ref (v4 3), .ref (v4 4), .ref (v4 5)]), ((v4 0), za E 100 (fun _ => 0)), ((v4 1), za E 100 (fun _ => 0)), ((v4 2), ia E 100 (fun _ => 0)), ((v4 3), ia E 100 (flR (fun _ => 0) (-1) 100)), ((v4 4), ia E 100 (fun _ => 0)), ((v4 5), ia E 100 (flR (fun _ => 0) (-1) 100)), (u5, ob 1 [.ref (v6 0), .ref (v6 1), .ref (v6 2), .ref (v6 3), .ref (v6 4)]), ((v6 0), ia E 20 (fun _ => 0)), ((v6 1), ia E 20 (flR (fun _ => 0) (-1) 20)), ((v6 2), ia E 20 (flR (fun _ => 0) (-1) 20)), ((v6 3), ia E 20 (fun _ => 0)), ((v6 4), ia E 20 (fun _ => 0)), (u7, ob 4 [.int 0, .int 10, .int 100, .int 0, .ref (v8 0), .ref (v8 1)]), ((v8 0), za E 3 (upd (upd (upd (fun _ => 0) (ix 0) 1) (ix (0 + 1)) 1) (ix ((0 + 1) + 1)) 1)), ((v8 1), za E 3 (upd (upd (upd (fun _ => 0) (ix 0) 1) (ix (0 + 1)) 1) (ix ((0 + 1) + 1)) 1))] rfl ?_
  refine g_aload_n X dX5_init_48 49 rfl rfl ?_
  refine g_aload_n X dX5_init_49 50 rfl rfl ?_
  refine ga_putF X FL_X5_39 fk_X5 dX5_init_50 53 rfl rfl hin rfl 0 rfl rfl rfl (Nat.le_of_ble_eq_true rfl) [(h, ob 5 [.ref u1, .ref u3, .ref u5, .ref u7, .ref lg]), (u1, ob 3 [.int 0, .ref (v2 0), .ref (v2 1), .ref (v2 2), .ref (v2 3)]), ((v2 0), ia E 5 (fun _ => 0)), ((v2 1), ia E 5 (fun _ => 0)), ((v2 2), ia E 5 (fun _ => 0)), ((v2 3), ia E 5 (fun _ => 0)), (u3, ob 0 [.ref (v4 0), .ref (v4 1), .ref (v4 2), .ref (v4 3), .ref (v4 4), .ref (v4 5)]), ((v4 0), za E 100 (fun _ => 0)), ((v4 1), za E 100 (fun _ => 0)), ((v4 2), ia E 100 (fun _ => 0)), ((v4 3), ia E 100 (flR (fun _ => 0) (-1) 100)), ((v4 4), ia E 100 (fun _ => 0)), ((v4 5), ia E 100 (flR (fun _ => 0) (-1) 100)), (u5, ob 1 [.ref (v6 0), .ref (v6 1), .ref (v6 2), .ref (v6 3), .ref (v6 4)]), ((v6 0), ia E 20 (fun _ => 0)), ((v6 1), ia E 20 (flR (fun _ => 0) (-1) 20)), ((v6 2), ia E 20 (flR (fun _ => 0) (-1) 20)), ((v6 3), ia E 20 (fun _ => 0)), ((v6 4), ia E 20 (fun _ => 0)), (u7, ob 4 [.int 0, .int 10, .int 100, .int 0, .ref (v8 0), .ref (v8 1)]), ((v8 0), za E 3 (upd (upd (upd (fun _ => 0) (ix 0) 1) (ix (0 + 1)) 1) (ix ((0 + 1) + 1)) 1)), ((v8 1), za E 3 (upd (upd (upd (fun _ => 0) (ix 0) 1) (ix (0 + 1)) 1) (ix ((0 + 1) + 1)) 1))] rfl ?_
  exact g_vret X hr dX5_init_53 (fun j => [u1, (v2 0), (v2 1), (v2 2), (v2 3), u3, (v4 0), (v4 1), (v4 2), (v4 3), (v4 4), (v4 5), u5, (v6 0), (v6 1), (v6 2), (v6 3), (v6 4), u7, (v8 0), (v8 1)].getD j 0) rfl rfl

set_option maxHeartbeats 1000000 in
set_option maxRecDepth 100000 in
theorem k_X6_init (E : kE) (l : Launch) (h : Nat) : KI E l yX6_init cX6_init 1 3 64 46 1539 [.ref h] (h, ob 6 [.null, .null, .null, .int 0]) (fun u => [(h, ob 6 [.ref (u 0), .ref (u 2), .ref (u 24), .int 0]), ((u 0), ob 2 [.ref (u 1), .int 0, .int 0]), ((u 1), ia E 30 (fun _ => 0)), ((u 2), ob 5 [.ref (u 3), .ref (u 8), .ref (u 15), .ref (u 21), .ref (u 0)]), ((u 3), ob 3 [.int 0, .ref (u 4), .ref (u 5), .ref (u 6), .ref (u 7)]), ((u 4), ia E 5 (fun _ => 0)), ((u 5), ia E 5 (fun _ => 0)), ((u 6), ia E 5 (fun _ => 0)), ((u 7), ia E 5 (fun _ => 0)), ((u 8), ob 0 [.ref (u 9), .ref (u 10), .ref (u 11), .ref (u 12), .ref (u 13), .ref (u 14)]), ((u 9), za E 100 (fun _ => 0)), ((u 10), za E 100 (fun _ => 0)), ((u 11), ia E 100 (fun _ => 0)), ((u 12), ia E 100 (flR (fun _ => 0) (-1) 100)), ((u 13), ia E 100 (fun _ => 0)), ((u 14), ia E 100 (flR (fun _ => 0) (-1) 100)), ((u 15), ob 1 [.ref (u 16), .ref (u 17), .ref (u 18), .ref (u 19), .ref (u 20)]), ((u 16), ia E 20 (fun _ => 0)), ((u 17), ia E 20 (flR (fun _ => 0) (-1) 20)), ((u 18), ia E 20 (flR (fun _ => 0) (-1) 20)), ((u 19), ia E 20 (fun _ => 0)), ((u 20), ia E 20 (fun _ => 0)), ((u 21), ob 4 [.int 0, .int 10, .int 100, .int 0, .ref (u 22), .ref (u 23)]), ((u 22), za E 3 (upd (upd (upd (fun _ => 0) (ix 0) 1) (ix (0 + 1)) 1) (ix ((0 + 1) + 1)) 1)), ((u 23), za E 3 (upd (upd (upd (fun _ => 0) (ix 0) 1) (ix (0 + 1)) 1) (ix ((0 + 1) + 1)) 1)), ((u 24), ob 5 [.ref (u 25), .ref (u 30), .ref (u 37), .ref (u 43), .ref (u 0)]), ((u 25), ob 3 [.int 0, .ref (u 26), .ref (u 27), .ref (u 28), .ref (u 29)]), ((u 26), ia E 5 (fun _ => 0)), ((u 27), ia E 5 (fun _ => 0)), ((u 28), ia E 5 (fun _ => 0)), ((u 29), ia E 5 (fun _ => 0)), ((u 30), ob 0 [.ref (u 31), .ref (u 32), .ref (u 33), .ref (u 34), .ref (u 35), .ref (u 36)]), ((u 31), za E 100 (fun _ => 0)), ((u 32), za E 100 (fun _ => 0)), ((u 33), ia E 100 (fun _ => 0)), ((u 34), ia E 100 (flR (fun _ => 0) (-1) 100)), ((u 35), ia E 100 (fun _ => 0)), ((u 36), ia E 100 (flR (fun _ => 0) (-1) 100)), ((u 37), ob 1 [.ref (u 38), .ref (u 39), .ref (u 40), .ref (u 41), .ref (u 42)]), ((u 38), ia E 20 (fun _ => 0)), ((u 39), ia E 20 (flR (fun _ => 0) (-1) 20)), ((u 40), ia E 20 (flR (fun _ => 0) (-1) 20)), ((u 41), ia E 20 (fun _ => 0)), ((u 42), ia E 20 (fun _ => 0)), ((u 43), ob 4 [.int 0, .int 10, .int 100, .int 0, .ref (u 44), .ref (u 45)]), ((u 44), za E 3 (upd (upd (upd (fun _ => 0) (ix 0) 1) (ix (0 + 1)) 1) (ix ((0 + 1) + 1)) 1)), ((u 45), za E 3 (upd (upd (upd (fun _ => 0) (ix 0) 1) (ix (0 + 1)) 1) (ix ((0 + 1) + 1)) 1))]) := by
  intro w
  refine K_start (own := RX6) (by decide +kernel) rfl [(0, .ref h)] rfl (Nat.le_of_ble_eq_true rfl) (fun p e s m below meth c X hr hin => ?_)
  have hin : meth.name = "<init>" := hin
  refine g_aload_n X dX6_init_0 1 rfl rfl ?_
  refine g_objInit X Oi_X6_1 dX6_init_1 4 rfl (Nat.le_of_ble_eq_true rfl) (Nat.le_of_ble_eq_true rfl) ?_
  refine g_aload_n X dX6_init_4 5 rfl rfl ?_
  refine ga_new X (ci := 2) 1 3 Cl_X6_7 In_X2 uws_X2 fk_X2 rfl dX6_init_5 8 rfl [.null, .int 0, .int 0] ?_ (Nat.le_of_ble_eq_true rfl) (Nat.le_of_ble_eq_true rfl) rfl rfl (fun u1 => ?_)
  · intro j hj
    have hj2 : j = 0 ∨ j = 1 ∨ j = 2 := by omega
    rcases hj2 with rfl | rfl | rfl <;> rfl
  refine g_ws (w ++ [(h, ob 6 [.null, .null, .null, .int 0]), (u1, ob 2 [.null, .int 0, .int 0])]) rfl ?_
  refine g_dup X dX6_init_8 9 rfl rfl ?_
  refine ga_J X (L := [(h, ob 6 [.null, .null, .null, .int 0])]) Lk_X6_9 rfl (k_X2_init E l u1) dX6_init_9 rfl rfl (Nat.le_of_ble_eq_true rfl) ⟨(Nat.le_of_ble_eq_true rfl), (Nat.le_of_ble_eq_true rfl)⟩ ⟨(Nat.le_of_ble_eq_true rfl), (Nat.le_of_ble_eq_true rfl)⟩ 12 2 33 rfl rfl rfl (fun v2 => ?_)
  refine g_ws (w ++ [(h, ob 6 [.null, .null, .null, .int 0]), (u1, ob 2 [.ref (v2 0), .int 0, .int 0]), ((v2 0), ia E 30 (fun _ => 0))]) rfl ?_
  refine ga_putF X FL_X6_10 fk_X6 dX6_init_12 15 rfl rfl hin rfl 0 rfl rfl rfl (Nat.le_of_ble_eq_true rfl) [(h, ob 6 [.ref u1, .null, .null, .int 0]), (u1, ob 2 [.ref (v2 0), .int 0, .int 0]), ((v2 0), ia E 30 (fun _ => 0))] rfl ?_
  refine g_aload_n X dX6_init_15 16 rfl rfl ?_
  refine ga_new X (ci := 5) 3 38 Cl_X6_16 In_X5 uws_X5 fk_X5 rfl dX6_init_16 19 rfl [.null, .null, .null, .null, .null] ?_ (Nat.le_of_ble_eq_true rfl) (Nat.le_of_ble_eq_true rfl) rfl rfl (fun u3 => ?_)
  · intro j hj
    have hj2 : j = 0 ∨ j = 1 ∨ j = 2 ∨ j = 3 ∨ j = 4 := by omega
    rcases hj2 with rfl | rfl | rfl | rfl | rfl <;> rfl
  refine g_ws (w ++ [(h, ob 6 [.ref u1, .null, .null, .int 0]), (u1, ob 2 [.ref (v2 0), .int 0, .int 0]), ((v2 0), ia E 30 (fun _ => 0)), (u3, ob 5 [.null, .null, .null, .null, .null])]) rfl ?_
  refine g_dup X dX6_init_19 20 rfl rfl ?_
  refine g_aload_n X dX6_init_20 21 rfl rfl ?_
  refine ga_get X FL_X6_10 dX6_init_21 24 rfl 0 rfl (v := .ref u1) rfl ?_
  refine ga_I X (L := [(h, ob 6 [.ref u1, .null, .null, .int 0]), (u1, ob 2 [.ref (v2 0), .int 0, .int 0]), ((v2 0), ia E 30 (fun _ => 0))]) Lk_X6_18 rfl (k_X5_init E l u3 u1) dX6_init_24 rfl rfl (Nat.le_of_ble_eq_true rfl) ⟨(Nat.le_of_ble_eq_true rfl), (Nat.le_of_ble_eq_true rfl)⟩ ⟨(Nat.le_of_ble_eq_true rfl), (Nat.le_of_ble_eq_true rfl)⟩ 27 24 786 rfl rfl rfl (fun v4 => ?_)
  refine g_ws (w ++ [(h, ob 6 [.ref u1, .null, .null, .int 0]), (u1, ob 2 [.ref (v2 0), .int 0, .int 0]), ((v2 0), ia E 30 (fun _ => 0)), (u3, ob 5 [.ref (v4 0), .ref (v4 5), .ref (v4 12), .ref (v4 18), .ref u1]), ((v4 0), ob 3 [.int 0, .ref (v4 1), .ref (v4 2), .ref (v4 3), .ref (v4 4)]), ((v4 1), ia E 5 (fun _ => 0)), ((v4 2), ia E 5 (fun _ => 0)), ((v4 3), ia E 5 (fun _ => 0)), ((v4 4), ia E 5 (fun _ => 0)), ((v4 5), ob 0 [.ref (v4 6), .ref (v4 7), .ref (v4 8), .ref (v4 9), .ref (v4 10), .ref (v4 11)]), ((v4 6), za E 100 (fun _ => 0)), ((v4 7), za E 100 (fun _ => 0)), ((v4 8), ia E 100 (fun _ => 0)), ((v4 9), ia E 100 (flR (fun _ => 0) (-1) 100)), ((v4 10), ia E 100 (fun _ => 0)), ((v4 11), ia E 100 (flR (fun _ => 0) (-1) 100)), ((v4 12), ob 1 [.ref (v4 13), .ref (v4 14), .ref (v4 15), .ref (v4 16), .ref (v4 17)]), ((v4 13), ia E 20 (fun _ => 0)), ((v4 14), ia E 20 (flR (fun _ => 0) (-1) 20)), ((v4 15), ia E 20 (flR (fun _ => 0) (-1) 20)), ((v4 16), ia E 20 (fun _ => 0)), ((v4 17), ia E 20 (fun _ => 0)), ((v4 18), ob 4 [.int 0, .int 10, .int 100, .int 0, .ref (v4 19), .ref (v4 20)]), ((v4 19), za E 3 (upd (upd (upd (fun _ => 0) (ix 0) 1) (ix (0 + 1)) 1) (ix ((0 + 1) + 1)) 1)), ((v4 20), za E 3 (upd (upd (upd (fun _ => 0) (ix 0) 1) (ix (0 + 1)) 1) (ix ((0 + 1) + 1)) 1))]) rfl ?_
  refine ga_putF X FL_X6_21 fk_X6 dX6_init_27 30 rfl rfl hin rfl 0 rfl rfl rfl (Nat.le_of_ble_eq_true rfl) [(h, ob 6 [.ref u1, .ref u3, .null, .int 0]), (u1, ob 2 [.ref (v2 0), .int 0, .int 0]), ((v2 0), ia E 30 (fun _ => 0)), (u3, ob 5 [.ref (v4 0), .ref (v4 5), .ref (v4 12), .ref (v4 18), .ref u1]), ((v4 0), ob 3 [.int 0, .ref (v4 1), .ref (v4 2), .ref (v4 3), .ref (v4 4)]), ((v4 1), ia E 5 (fun _ => 0)), ((v4 2), ia E 5 (fun _ => 0)), ((v4 3), ia E 5 (fun _ => 0)), ((v4 4), ia E 5 (fun _ => 0)), ((v4 5), ob 0 [.ref (v4 6), .ref (v4 7), .ref (v4 8), .ref (v4 9), .ref (v4 10), .ref (v4 11)]), ((v4 6), za E 100 (fun _ => 0)), ((v4 7), za E 100 (fun _ => 0)), ((v4 8), ia E 100 (fun _ => 0)), ((v4 9), ia E 100 (flR (fun _ => 0) (-1) 100)), ((v4 10), ia E 100 (fun _ => 0)), ((v4 11), ia E 100 (flR (fun _ => 0) (-1) 100)), ((v4 12), ob 1 [.ref (v4 13), .ref (v4 14), .ref (v4 15), .ref (v4 16), .ref (v4 17)]), ((v4 13), ia E 20 (fun _ => 0)), ((v4 14), ia E 20 (flR (fun _ => 0) (-1) 20)), ((v4 15), ia E 20 (flR (fun _ => 0) (-1) 20)), ((v4 16), ia E 20 (fun _ => 0)), ((v4 17), ia E 20 (fun _ => 0)), ((v4 18), ob 4 [.int 0, .int 10, .int 100, .int 0, .ref (v4 19), .ref (v4 20)]), ((v4 19), za E 3 (upd (upd (upd (fun _ => 0) (ix 0) 1) (ix (0 + 1)) 1) (ix ((0 + 1) + 1)) 1)), ((v4 20), za E 3 (upd (upd (upd (fun _ => 0) (ix 0) 1) (ix (0 + 1)) 1) (ix ((0 + 1) + 1)) 1))] rfl ?_
  refine g_aload_n X dX6_init_30 31 rfl rfl ?_
  refine ga_new X (ci := 5) 25 791 Cl_X6_16 In_X5 uws_X5 fk_X5 rfl dX6_init_31 34 rfl [.null, .null, .null, .null, .null] ?_ (Nat.le_of_ble_eq_true rfl) (Nat.le_of_ble_eq_true rfl) rfl rfl (fun u5 => ?_)
  · intro j hj
    have hj2 : j = 0 ∨ j = 1 ∨ j = 2 ∨ j = 3 ∨ j = 4 := by omega
    rcases hj2 with rfl | rfl | rfl | rfl | rfl <;> rfl
  refine g_ws (w ++ [(h, ob 6 [.ref u1, .ref u3, .null, .int 0]), (u1, ob 2 [.ref (v2 0), .int 0, .int 0]), ((v2 0), ia E 30 (fun _ => 0)), (u3, ob 5 [.ref (v4 0), .ref (v4 5), .ref (v4 12), .ref (v4 18), .ref u1]), ((v4 0), ob 3 [.int 0, .ref (v4 1), .ref (v4 2), .ref (v4 3), .ref (v4 4)]), ((v4 1), ia E 5 (fun _ => 0)), ((v4 2), ia E 5 (fun _ => 0)), ((v4 3), ia E 5 (fun _ => 0)), ((v4 4), ia E 5 (fun _ => 0)), ((v4 5), ob 0 [.ref (v4 6), .ref (v4 7), .ref (v4 8), .ref (v4 9), .ref (v4 10), .ref (v4 11)]), ((v4 6), za E 100 (fun _ => 0)), ((v4 7), za E 100 (fun _ => 0)), ((v4 8), ia E 100 (fun _ => 0)), ((v4 9), ia E 100 (flR (fun _ => 0) (-1) 100)), ((v4 10), ia E 100 (fun _ => 0)), ((v4 11), ia E 100 (flR (fun _ => 0) (-1) 100)), ((v4 12), ob 1 [.ref (v4 13), .ref (v4 14), .ref (v4 15), .ref (v4 16), .ref (v4 17)]), ((v4 13), ia E 20 (fun _ => 0)), ((v4 14), ia E 20 (flR (fun _ => 0) (-1) 20)), ((v4 15), ia E 20 (flR (fun _ => 0) (-1) 20)), ((v4 16), ia E 20 (fun _ => 0)), ((v4 17), ia E 20 (fun _ => 0)), ((v4 18), ob 4 [.int 0, .int 10, .int 100, .int 0, .ref (v4 19), .ref (v4 20)]), ((v4 19), za E 3 (upd (upd (upd (fun _ => 0) (ix 0) 1) (ix (0 + 1)) 1) (ix ((0 + 1) + 1)) 1)), ((v4 20), za E 3 (upd (upd (upd (fun _ => 0) (ix 0) 1) (ix (0 + 1)) 1) (ix ((0 + 1) + 1)) 1)), (u5, ob 5 [.null, .null, .null, .null, .null])]) rfl ?_
  refine g_dup X dX6_init_34 35 rfl rfl ?_
  refine g_aload_n X dX6_init_35 36 rfl rfl ?_
  refine ga_get X FL_X6_10 dX6_init_36 39 rfl 0 rfl (v := .ref u1) rfl ?_
  refine ga_I X (L := [(h, ob 6 [.ref u1, .ref u3, .null, .int 0]), (u1, ob 2 [.ref (v2 0), .int 0, .int 0]), ((v2 0), ia E 30 (fun _ => 0)), (u3, ob 5 [.ref (v4 0), .ref (v4 5), .ref (v4 12), .ref (v4 18), .ref u1]), ((v4 0), ob 3 [.int 0, .ref (v4 1), .ref (v4 2), .ref (v4 3), .ref (v4 4)]), ((v4 1), ia E 5 (fun _ => 0)), ((v4 2), ia E 5 (fun _ => 0)), ((v4 3), ia E 5 (fun _ => 0)), ((v4 4), ia E 5 (fun _ => 0)), ((v4 5), ob 0 [.ref (v4 6), .ref (v4 7), .ref (v4 8), .ref (v4 9), .ref (v4 10), .ref (v4 11)]), ((v4 6), za E 100 (fun _ => 0)), ((v4 7), za E 100 (fun _ => 0)), ((v4 8), ia E 100 (fun _ => 0)), ((v4 9), ia E 100 (flR (fun _ => 0) (-1) 100)), ((v4 10), ia E 100 (fun _ => 0)), ((v4 11), ia E 100 (flR (fun _ => 0) (-1) 100)), ((v4 12), ob 1 [.ref (v4 13), .ref (v4 14), .ref (v4 15), .ref (v4 16), .ref (v4 17)]), ((v4 13), ia E 20 (fun _ => 0)), ((v4 14), ia E 20 (flR (fun _ => 0) (-1) 20)), ((v4 15), ia E 20 (flR (fun _ => 0) (-1) 20)), ((v4 16), ia E 20 (fun _ => 0)), ((v4 17), ia E 20 (fun _ => 0)), ((v4 18), ob 4 [.int 0, .int 10, .int 100, .int 0, .ref (v4 19), .ref (v4 20)]), ((v4 19), za E 3 (upd (upd (upd (fun _ => 0) (ix 0) 1) (ix (0 + 1)) 1) (ix ((0 + 1) + 1)) 1)), ((v4 20), za E 3 (upd (upd (upd (fun _ => 0) (ix 0) 1) (ix (0 + 1)) 1) (ix ((0 + 1) + 1)) 1))]) Lk_X6_18 rfl (k_X5_init E l u5 u1) dX6_init_39 rfl rfl (Nat.le_of_ble_eq_true rfl) ⟨(Nat.le_of_ble_eq_true rfl), (Nat.le_of_ble_eq_true rfl)⟩ ⟨(Nat.le_of_ble_eq_true rfl), (Nat.le_of_ble_eq_true rfl)⟩ 42 46 1539 rfl rfl rfl (fun v6 => ?_)
  refine g_ws (w ++ [(h, ob 6 [.ref u1, .ref u3, .null, .int 0]), (u1, ob 2 [.ref (v2 0), .int 0, .int 0]), ((v2 0), ia E 30 (fun _ => 0)), (u3, ob 5 [.ref (v4 0), .ref (v4 5), .ref (v4 12), .ref (v4 18), .ref u1]), ((v4 0), ob 3 [.int 0, .ref (v4 1), .ref (v4 2), .ref (v4 3), .ref (v4 4)]), ((v4 1), ia E 5 (fun _ => 0)), ((v4 2), ia E 5 (fun _ => 0)), ((v4 3), ia E 5 (fun _ => 0)), ((v4 4), ia E 5 (fun _ => 0)), ((v4 5), ob 0 [.ref (v4 6), .ref (v4 7), .ref (v4 8), .ref (v4 9), .ref (v4 10), .ref (v4 11)]), ((v4 6), za E 100 (fun _ => 0)), ((v4 7), za E 100 (fun _ => 0)), ((v4 8), ia E 100 (fun _ => 0)), ((v4 9), ia E 100 (flR (fun _ => 0) (-1) 100)), ((v4 10), ia E 100 (fun _ => 0)), ((v4 11), ia E 100 (flR (fun _ => 0) (-1) 100)), ((v4 12), ob 1 [.ref (v4 13), .ref (v4 14), .ref (v4 15), .ref (v4 16), .ref (v4 17)]), ((v4 13), ia E 20 (fun _ => 0)), ((v4 14), ia E 20 (flR (fun _ => 0) (-1) 20)), ((v4 15), ia E 20 (flR (fun _ => 0) (-1) 20)), ((v4 16), ia E 20 (fun _ => 0)), ((v4 17), ia E 20 (fun _ => 0)), ((v4 18), ob 4 [.int 0, .int 10, .int 100, .int 0, .ref (v4 19), .ref (v4 20)]), ((v4 19), za E 3 (upd (upd (upd (fun _ => 0) (ix 0) 1) (ix (0 + 1)) 1) (ix ((0 + 1) + 1)) 1)), ((v4 20), za E 3 (upd (upd (upd (fun _ => 0) (ix 0) 1) (ix (0 + 1)) 1) (ix ((0 + 1) + 1)) 1)), (u5, ob 5 [.ref (v6 0), .ref (v6 5), .ref (v6 12), .ref (v6 18), .ref u1]), ((v6 0), ob 3 [.int 0, .ref (v6 1), .ref (v6 2), .ref (v6 3), .ref (v6 4)]), ((v6 1), ia E 5 (fun _ => 0)), ((v6 2), ia E 5 (fun _ => 0)), ((v6 3), ia E 5 (fun _ => 0)), ((v6 4), ia E 5 (fun _ => 0)), ((v6 5), ob 0 [.ref (v6 6), .ref (v6 7), .ref (v6 8), .ref (v6 9), .ref (v6 10), .ref (v6 11)]), ((v6 6), za E 100 (fun _ => 0)), ((v6 7), za E 100 (fun _ => 0)), ((v6 8), ia E 100 (fun _ => 0)), ((v6 9), ia E 100 (flR (fun _ => 0) (-1) 100)), ((v6 10), ia E 100 (fun _ => 0)), ((v6 11), ia E 100 (flR (fun _ => 0) (-1) 100)), ((v6 12), ob 1 [.ref (v6 13), .ref (v6 14), .ref (v6 15), .ref (v6 16), .ref (v6 17)]), ((v6 13), ia E 20 (fun _ => 0)), ((v6 14), ia E 20 (flR (fun _ => 0) (-1) 20)), ((v6 15), ia E 20 (flR (fun _ => 0) (-1) 20)), ((v6 16), ia E 20 (fun _ => 0)), ((v6 17), ia E 20 (fun _ => 0)), ((v6 18), ob 4 [.int 0, .int 10, .int 100, .int 0, .ref (v6 19), .ref (v6 20)]), ((v6 19), za E 3 (upd (upd (upd (fun _ => 0) (ix 0) 1) (ix (0 + 1)) 1) (ix ((0 + 1) + 1)) 1)), ((v6 20), za E 3 (upd (upd (upd (fun _ => 0) (ix 0) 1) (ix (0 + 1)) 1) (ix ((0 + 1) + 1)) 1))]) rfl ?_
  refine ga_putF X FL_X6_25 fk_X6 dX6_init_42 45 rfl rfl hin rfl 0 rfl rfl rfl (Nat.le_of_ble_eq_true rfl) [(h, ob 6 [.ref u1, .ref u3, .ref u5, .int 0]), (u1, ob 2 [.ref (v2 0), .int 0, .int 0]), ((v2 0), ia E 30 (fun _ => 0)), (u3, ob 5 [.ref (v4 0), .ref (v4 5), .ref (v4 12), .ref (v4 18), .ref u1]), ((v4 0), ob 3 [.int 0, .ref (v4 1), .ref (v4 2), .ref (v4 3), .ref (v4 4)]), ((v4 1), ia E 5 (fun _ => 0)), ((v4 2), ia E 5 (fun _ => 0)), ((v4 3), ia E 5 (fun _ => 0)), ((v4 4), ia E 5 (fun _ => 0)), ((v4 5), ob 0 [.ref (v4 6), .ref (v4 7), .ref (v4 8), .ref (v4 9), .ref (v4 10), .ref (v4 11)]), ((v4 6), za E 100 (fun _ => 0)), ((v4 7), za E 100 (fun _ => 0)), ((v4 8), ia E 100 (fun _ => 0)), ((v4 9), ia E 100 (flR (fun _ => 0) (-1) 100)), ((v4 10), ia E 100 (fun _ => 0)), ((v4 11), ia E 100 (flR (fun _ => 0) (-1) 100)), ((v4 12), ob 1 [.ref (v4 13), .ref (v4 14), .ref (v4 15), .ref (v4 16), .ref (v4 17)]), ((v4 13), ia E 20 (fun _ => 0)), ((v4 14), ia E 20 (flR (fun _ => 0) (-1) 20)), ((v4 15), ia E 20 (flR (fun _ => 0) (-1) 20)), ((v4 16), ia E 20 (fun _ => 0)), ((v4 17), ia E 20 (fun _ => 0)), ((v4 18), ob 4 [.int 0, .int 10, .int 100, .int 0, .ref (v4 19), .ref (v4 20)]), ((v4 19), za E 3 (upd (upd (upd (fun _ => 0) (ix 0) 1) (ix (0 + 1)) 1) (ix ((0 + 1) + 1)) 1)), ((v4 20), za E 3 (upd (upd (upd (fun _ => 0) (ix 0) 1) (ix (0 + 1)) 1) (ix ((0 + 1) + 1)) 1)), (u5, ob 5 [.ref (v6 0), .ref (v6 5), .ref (v6 12), .ref (v6 18), .ref u1]), ((v6 0), ob 3 [.int 0, .ref (v6 1), .ref (v6 2), .ref (v6 3), .ref (v6 4)]), ((v6 1), ia E 5 (fun _ => 0)), ((v6 2), ia E 5 (fun _ => 0)), ((v6 3), ia E 5 (fun _ => 0)), ((v6 4), ia E 5 (fun _ => 0)), ((v6 5), ob 0 [.ref (v6 6), .ref (v6 7), .ref (v6 8), .ref (v6 9), .ref (v6 10), .ref (v6 11)]), ((v6 6), za E 100 (fun _ => 0)), ((v6 7), za E 100 (fun _ => 0)), ((v6 8), ia E 100 (fun _ => 0)), ((v6 9), ia E 100 (flR (fun _ => 0) (-1) 100)), ((v6 10), ia E 100 (fun _ => 0)), ((v6 11), ia E 100 (flR (fun _ => 0) (-1) 100)), ((v6 12), ob 1 [.ref (v6 13), .ref (v6 14), .ref (v6 15), .ref (v6 16), .ref (v6 17)]), ((v6 13), ia E 20 (fun _ => 0)), ((v6 14), ia E 20 (flR (fun _ => 0) (-1) 20)), ((v6 15), ia E 20 (flR (fun _ => 0) (-1) 20)), ((v6 16), ia E 20 (fun _ => 0)), ((v6 17), ia E 20 (fun _ => 0)), ((v6 18), ob 4 [.int 0, .int 10, .int 100, .int 0, .ref (v6 19), .ref (v6 20)]), ((v6 19), za E 3 (upd (upd (upd (fun _ => 0) (ix 0) 1) (ix (0 + 1)) 1) (ix ((0 + 1) + 1)) 1)), ((v6 20), za E 3 (upd (upd (upd (fun _ => 0) (ix 0) 1) (ix (0 + 1)) 1) (ix ((0 + 1) + 1)) 1))] rfl ?_
  exact g_vret X hr dX6_init_45 (fun j => [u1, (v2 0), u3, (v4 0), (v4 1), (v4 2), (v4 3), (v4 4), (v4 5), (v4 6), (v4 7), (v4 8), (v4 9), (v4 10), (v4 11), (v4 12), (v4 13), (v4 14), (v4 15), (v4 16), (v4 17), (v4 18), (v4 19), (v4 20), u5, (v6 0), (v6 1), (v6 2), (v6 3), (v6 4), (v6 5), (v6 6), (v6 7), (v6 8), (v6 9), (v6 10), (v6 11), (v6 12), (v6 13), (v6 14), (v6 15), (v6 16), (v6 17), (v6 18), (v6 19), (v6 20)].getD j 0) rfl rfl

set_option maxHeartbeats 1000000 in
set_option maxRecDepth 100000 in
theorem k_X7_init (E : kE) (l : Launch) (h : Nat) : KI E l yX7_init cX7_init 2 1 20 3 1492 [.ref h] (h, ob 7 [.int 0, .null, .null, .int 0, .null, .int 0]) (fun u => [(h, ob 7 [.int 0, .ref (u 0), .ref (u 1), .int 0, .ref (u 2), .int 0]), ((u 0), ia E 731 (upd (upd (upd (upd (upd (upd (upd (upd (fun _ => 0) (ix 1) 10) (ix 2) 100) (ix (25 + 0)) 1) (ix (28 + 0)) 1) (ix (25 + (0 + 1))) 1) (ix (28 + (0 + 1))) 1) (ix (25 + ((0 + 1) + 1))) 1) (ix (28 + ((0 + 1) + 1))) 1)), ((u 1), ia E 731 (fun _ => 0)), ((u 2), ia E 30 (fun _ => 0))]) := by
  intro w
  refine K_start (own := RX7) (by decide +kernel) rfl [(0, .ref h)] rfl (Nat.le_of_ble_eq_true rfl) (fun p e s m below meth c X hr hin => ?_)
  have hin : meth.name = "<init>" := hin
  refine g_aload_n X dX7_init_0 1 rfl rfl ?_
  refine g_objInit X Oi_X7_3 dX7_init_1 4 rfl (Nat.le_of_ble_eq_true rfl) (Nat.le_of_ble_eq_true rfl) ?_
  refine g_aload_n X dX7_init_4 5 rfl rfl ?_
  refine g_sipush X dX7_init_5 8 rfl (v := 731) rfl ?_
  refine ga_newaI X dX7_init_8 10 rfl 731 1 731 (by decide) (by decide) (by decide) (Nat.le_of_ble_eq_true rfl) (Nat.le_of_ble_eq_true rfl) rfl rfl (fun u1 => ?_)
  refine g_ws (w ++ [(h, ob 7 [.int 0, .null, .null, .int 0, .null, .int 0]), (u1, ia E 731 (fun _ => 0))]) rfl ?_
  refine ga_putF X FL_X7_9 fk_X7 dX7_init_10 13 rfl rfl hin rfl 0 rfl rfl rfl (Nat.le_of_ble_eq_true rfl) [(h, ob 7 [.int 0, .ref u1, .null, .int 0, .null, .int 0]), (u1, ia E 731 (fun _ => 0))] rfl ?_
  refine g_aload_n X dX7_init_13 14 rfl rfl ?_
  refine g_sipush X dX7_init_14 17 rfl (v := 731) rfl ?_
  refine ga_newaI X dX7_init_17 19 rfl 731 2 1462 (by decide) (by decide) (by decide) (Nat.le_of_ble_eq_true rfl) (Nat.le_of_ble_eq_true rfl) rfl rfl (fun u2 => ?_)
  refine g_ws (w ++ [(h, ob 7 [.int 0, .ref u1, .null, .int 0, .null, .int 0]), (u1, ia E 731 (fun _ => 0)), (u2, ia E 731 (fun _ => 0))]) rfl ?_
  refine ga_putF X FL_X7_13 fk_X7 dX7_init_19 22 rfl rfl hin rfl 0 rfl rfl rfl (Nat.le_of_ble_eq_true rfl) [(h, ob 7 [.int 0, .ref u1, .ref u2, .int 0, .null, .int 0]), (u1, ia E 731 (fun _ => 0)), (u2, ia E 731 (fun _ => 0))] rfl ?_
  refine g_aload_n X dX7_init_22 23 rfl rfl ?_
  refine g_bipush X dX7_init_23 25 rfl (v := 30) rfl ?_
  refine ga_newaI X dX7_init_25 27 rfl 30 3 1492 (by decide) (by decide) (by decide) (Nat.le_of_ble_eq_true rfl) (Nat.le_of_ble_eq_true rfl) rfl rfl (fun u3 => ?_)
  refine g_ws (w ++ [(h, ob 7 [.int 0, .ref u1, .ref u2, .int 0, .null, .int 0]), (u1, ia E 731 (fun _ => 0)), (u2, ia E 731 (fun _ => 0)), (u3, ia E 30 (fun _ => 0))]) rfl ?_
  refine ga_putF X FL_X7_16 fk_X7 dX7_init_27 30 rfl rfl hin rfl 0 rfl rfl rfl (Nat.le_of_ble_eq_true rfl) [(h, ob 7 [.int 0, .ref u1, .ref u2, .int 0, .ref u3, .int 0]), (u1, ia E 731 (fun _ => 0)), (u2, ia E 731 (fun _ => 0)), (u3, ia E 30 (fun _ => 0))] rfl ?_
  refine g_aload_n X dX7_init_30 31 rfl rfl ?_
  refine ga_get X FL_X7_9 dX7_init_31 34 rfl 0 rfl (v := .ref u1) rfl ?_
  refine g_iconst X dX7_init_34 35 rfl (v := 1) rfl ?_
  refine g_bipush X dX7_init_35 37 rfl (v := 10) rfl ?_
  refine ga_iast X dX7_init_37 38 rfl 1 rfl (vin_of (N := 731) (by decide) rfl (by decide) (by decide)) [(h, ob 7 [.int 0, .ref u1, .ref u2, .int 0, .ref u3, .int 0]), (u1, ia E 731 (upd (fun _ => 0) (ix 1) 10)), (u2, ia E 731 (fun _ => 0)), (u3, ia E 30 (fun _ => 0))] rfl ?_
  refine g_aload_n X dX7_init_38 39 rfl rfl ?_
  refine ga_get X FL_X7_9 dX7_init_39 42 rfl 0 rfl (v := .ref u1) rfl ?_
  refine g_iconst X dX7_init_42 43 rfl (v := 2) rfl ?_
  refine g_bipush X dX7_init_43 45 rfl (v := 100) rfl ?_
  refine ga_iast X dX7_init_45 46 rfl 1 rfl (vin_of (N := 731) (by decide) rfl (by decide) (by decide)) [(h, ob 7 [.int 0, .ref u1, .ref u2, .int 0, .ref u3, .int 0]), (u1, ia E 731 (upd (upd (fun _ => 0) (ix 1) 10) (ix 2) 100)), (u2, ia E 731 (fun _ => 0)), (u3, ia E 30 (fun _ => 0))] rfl ?_
  refine g_iconst X dX7_init_46 47 rfl (v := 0) rfl ?_
  refine g_istore_n X dX7_init_47 48 rfl (by decide) [(1, .int 0), (0, .ref h)] rfl ?_
  refine g_iload_n X dX7_init_48 49 rfl rfl ?_
  refine g_iconst X dX7_init_49 50 rfl (v := 3) rfl ?_
  refine g_ic_ge X dX7_init_50 79 53 rfl rfl (fun hc => absurd hc (by decide)) (fun _ => ?_)
  refine g_aload_n X dX7_init_53 54 rfl rfl ?_
  refine ga_get X FL_X7_9 dX7_init_54 57 rfl 0 rfl (v := .ref u1) rfl ?_
  refine g_bipush X dX7_init_57 59 rfl (v := 25) rfl ?_
  refine g_iload_n X dX7_init_59 60 rfl rfl ?_
  refine g_iadd X dX7_init_60 61 rfl ?_
  refine g_iconst X dX7_init_61 62 rfl (v := 1) rfl ?_
  refine ga_iast X dX7_init_62 63 rfl 1 rfl (vin_of (N := 731) (by decide) rfl (by decide) (by decide)) [(h, ob 7 [.int 0, .ref u1, .ref u2, .int 0, .ref u3, .int 0]), (u1, ia E 731 (upd (upd (upd (fun _ => 0) (ix 1) 10) (ix 2) 100) (ix (25 + 0)) 1)), (u2, ia E 731 (fun _ => 0)), (u3, ia E 30 (fun _ => 0))] rfl ?_
  refine g_aload_n X dX7_init_63 64 rfl rfl ?_
  refine ga_get X FL_X7_9 dX7_init_64 67 rfl 0 rfl (v := .ref u1) rfl ?_
  refine g_bipush X dX7_init_67 69 rfl (v := 28) rfl ?_
  refine g_iload_n X dX7_init_69 70 rfl rfl ?_
  refine g_iadd X dX7_init_70 71 rfl ?_
  refine g_iconst X dX7_init_71 72 rfl (v := 1) rfl ?_
  refine ga_iast X dX7_init_72 73 rfl 1 rfl (vin_of (N := 731) (by decide) rfl (by decide) (by decide)) [(h, ob 7 [.int 0, .ref u1, .ref u2, .int 0, .ref u3, .int 0]), (u1, ia E 731 (upd (upd (upd (upd (fun _ => 0) (ix 1) 10) (ix 2) 100) (ix (25 + 0)) 1) (ix (28 + 0)) 1)), (u2, ia E 731 (fun _ => 0)), (u3, ia E 30 (fun _ => 0))] rfl ?_
  refine g_iinc X dX7_init_73 76 rfl (by decide) 0 rfl rfl [(1, .int (0 + 1)), (0, .ref h)] rfl ?_
  refine g_goto X dX7_init_76 48 rfl ?_
  refine g_iload_n X dX7_init_48 49 rfl rfl ?_
  refine g_iconst X dX7_init_49 50 rfl (v := 3) rfl ?_
  refine g_ic_ge X dX7_init_50 79 53 rfl rfl (fun hc => absurd hc (by decide)) (fun _ => ?_)
  refine g_aload_n X dX7_init_53 54 rfl rfl ?_
  refine ga_get X FL_X7_9 dX7_init_54 57 rfl 0 rfl (v := .ref u1) rfl ?_
  refine g_bipush X dX7_init_57 59 rfl (v := 25) rfl ?_
  refine g_iload_n X dX7_init_59 60 rfl rfl ?_
  refine g_iadd X dX7_init_60 61 rfl ?_
  refine g_iconst X dX7_init_61 62 rfl (v := 1) rfl ?_
  refine ga_iast X dX7_init_62 63 rfl 1 rfl (vin_of (N := 731) (by decide) rfl (by decide) (by decide)) [(h, ob 7 [.int 0, .ref u1, .ref u2, .int 0, .ref u3, .int 0]), (u1, ia E 731 (upd (upd (upd (upd (upd (fun _ => 0) (ix 1) 10) (ix 2) 100) (ix (25 + 0)) 1) (ix (28 + 0)) 1) (ix (25 + (0 + 1))) 1)), (u2, ia E 731 (fun _ => 0)), (u3, ia E 30 (fun _ => 0))] rfl ?_
  refine g_aload_n X dX7_init_63 64 rfl rfl ?_
  refine ga_get X FL_X7_9 dX7_init_64 67 rfl 0 rfl (v := .ref u1) rfl ?_
  refine g_bipush X dX7_init_67 69 rfl (v := 28) rfl ?_
  refine g_iload_n X dX7_init_69 70 rfl rfl ?_
  refine g_iadd X dX7_init_70 71 rfl ?_
  refine g_iconst X dX7_init_71 72 rfl (v := 1) rfl ?_
  refine ga_iast X dX7_init_72 73 rfl 1 rfl (vin_of (N := 731) (by decide) rfl (by decide) (by decide)) [(h, ob 7 [.int 0, .ref u1, .ref u2, .int 0, .ref u3, .int 0]), (u1, ia E 731 (upd (upd (upd (upd (upd (upd (fun _ => 0) (ix 1) 10) (ix 2) 100) (ix (25 + 0)) 1) (ix (28 + 0)) 1) (ix (25 + (0 + 1))) 1) (ix (28 + (0 + 1))) 1)), (u2, ia E 731 (fun _ => 0)), (u3, ia E 30 (fun _ => 0))] rfl ?_
  refine g_iinc X dX7_init_73 76 rfl (by decide) 0 rfl rfl [(1, .int ((0 + 1) + 1)), (0, .ref h)] rfl ?_
  refine g_goto X dX7_init_76 48 rfl ?_
  refine g_iload_n X dX7_init_48 49 rfl rfl ?_
  refine g_iconst X dX7_init_49 50 rfl (v := 3) rfl ?_
  refine g_ic_ge X dX7_init_50 79 53 rfl rfl (fun hc => absurd hc (by decide)) (fun _ => ?_)
  refine g_aload_n X dX7_init_53 54 rfl rfl ?_
  refine ga_get X FL_X7_9 dX7_init_54 57 rfl 0 rfl (v := .ref u1) rfl ?_
  refine g_bipush X dX7_init_57 59 rfl (v := 25) rfl ?_
  refine g_iload_n X dX7_init_59 60 rfl rfl ?_
  refine g_iadd X dX7_init_60 61 rfl ?_
  refine g_iconst X dX7_init_61 62 rfl (v := 1) rfl ?_
  refine ga_iast X dX7_init_62 63 rfl 1 rfl (vin_of (N := 731) (by decide) rfl (by decide) (by decide)) [(h, ob 7 [.int 0, .ref u1, .ref u2, .int 0, .ref u3, .int 0]), (u1, ia E 731 (upd (upd (upd (upd (upd (upd (upd (fun _ => 0) (ix 1) 10) (ix 2) 100) (ix (25 + 0)) 1) (ix (28 + 0)) 1) (ix (25 + (0 + 1))) 1) (ix (28 + (0 + 1))) 1) (ix (25 + ((0 + 1) + 1))) 1)), (u2, ia E 731 (fun _ => 0)), (u3, ia E 30 (fun _ => 0))] rfl ?_
  refine g_aload_n X dX7_init_63 64 rfl rfl ?_
  refine ga_get X FL_X7_9 dX7_init_64 67 rfl 0 rfl (v := .ref u1) rfl ?_
  refine g_bipush X dX7_init_67 69 rfl (v := 28) rfl ?_
  refine g_iload_n X dX7_init_69 70 rfl rfl ?_
  refine g_iadd X dX7_init_70 71 rfl ?_
  refine g_iconst X dX7_init_71 72 rfl (v := 1) rfl ?_
  refine ga_iast X dX7_init_72 73 rfl 1 rfl (vin_of (N := 731) (by decide) rfl (by decide) (by decide)) [(h, ob 7 [.int 0, .ref u1, .ref u2, .int 0, .ref u3, .int 0]), (u1, ia E 731 (upd (upd (upd (upd (upd (upd (upd (upd (fun _ => 0) (ix 1) 10) (ix 2) 100) (ix (25 + 0)) 1) (ix (28 + 0)) 1) (ix (25 + (0 + 1))) 1) (ix (28 + (0 + 1))) 1) (ix (25 + ((0 + 1) + 1))) 1) (ix (28 + ((0 + 1) + 1))) 1)), (u2, ia E 731 (fun _ => 0)), (u3, ia E 30 (fun _ => 0))] rfl ?_
  refine g_iinc X dX7_init_73 76 rfl (by decide) 0 rfl rfl [(1, .int (((0 + 1) + 1) + 1)), (0, .ref h)] rfl ?_
  refine g_goto X dX7_init_76 48 rfl ?_
  refine g_iload_n X dX7_init_48 49 rfl rfl ?_
  refine g_iconst X dX7_init_49 50 rfl (v := 3) rfl ?_
  refine g_ic_ge X dX7_init_50 79 53 rfl rfl (fun _ => ?_) (fun hc => absurd (by decide) hc)
  exact g_vret X hr dX7_init_79 (fun j => [u1, u2, u3].getD j 0) rfl rfl
