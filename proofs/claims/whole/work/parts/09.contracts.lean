/-! CONTRACTS over whole worlds -/
def KP (E : kE) (w0 : va_W) (sz : Nat) (As : List Value) : Array Value → State → Prop := va_Pc As (fun U => U.heap.size = sz ∧ va_P E.1 kcl w0 U.heap ∧ KX E U ∧ va_D (fun _ => True) w0)
def KQ (E : kE) (w0 : va_W) (sz : Nat) {S : Type} (o : S → Option Value) (w1 : S → va_W) : Array Value → State → Outcome → State → Prop := fun _ st oc t => ∃ u : S, oc = .returned (o u) ∧ va_P E.1 kcl (w1 u) t.heap ∧ va_D (va_A w0 sz) (w1 u) ∧ va_F (va_A w0 sz) st t
/-- the method, at these arguments in the world w0, returns 'o u' and leaves 'w1 u', for some u -/
def KN (E : kE) (l : Launch) (y : MethodName) (bytes : ByteArray) (maxL : Nat) (ret : Option FieldType) (fr lo mc ms : Nat) (As : List Value) (w0 : va_W) {S : Type} (o : S → Option Value) (w1 : S → va_W) : Prop :=
  ∀ sz : Nat, Met l y [Cond.code y bytes maxL ret] ({ frames := fr, cells := mc, slots := ms, locals := lo }) (KP E w0 sz As) (KQ E w0 sz o w1) mc ms (va_A w0 sz)
/-- .. with one answer and one world -/
abbrev KM (E : kE) (l : Launch) (y : MethodName) (bytes : ByteArray) (maxL : Nat) (ret : Option FieldType) (fr lo mc ms : Nat) (As : List Value) (w0 : va_W) (o : Option Value) (w1 : va_W) : Prop :=
  KN E l y bytes maxL ret fr lo mc ms As w0 (fun _ : Unit => o) (fun _ => w1)
theorem KP_blind {E : kE} {w0 : va_W} {sz : Nat} {As : List Value} : FrameBlind (KP E w0 sz As) := fun a U g mk h => ⟨h.1, h.2.1, h.2.2.1, KX.warm (U := U.calling g mk a) (State.WarmedH.refl U) h.2.2.2.1, h.2.2.2.2⟩
def ZQ (A : Nat → Prop) (U : State) : Prop := vx_Zq Bundle.tN "UNASSIGNED_STACK" Bundle.steD A U U.heap ∧ vx_Zq Bundle.tN "SUPPRESSED_SENTINEL" Bundle.listD A U U.heap
def KPT (E : kE) (w0 : va_W) (sz : Nat) (As : List Value) : Array Value → State → Prop := va_Pc As (fun U => U.heap.size = sz ∧ va_P E.1 kcl w0 U.heap ∧ KX E U ∧ va_D (fun _ => True) w0 ∧ ZQ (va_A w0 sz) U)
theorem KPT_blind {E : kE} {w0 : va_W} {sz : Nat} {As : List Value} : FrameBlind (KPT E w0 sz As) := fun a U g mk h => ⟨h.1, h.2.1, h.2.2.1, KX.warm (U := U.calling g mk a) (State.WarmedH.refl U) h.2.2.2.1, h.2.2.2.2.1, vx_Zq.moved (u := U) (U := U.calling g mk a) (Vm.Alike.refl U.vm) h.2.2.2.2.2.1, vx_Zq.moved (u := U) (U := U.calling g mk a) (Vm.Alike.refl U.vm) h.2.2.2.2.2.2⟩
abbrev OT : Type := Option Value ⊕ String
def KTQ (E : kE) (w0 : va_W) (sz : Nat) (o : OT) (w1 : va_W) : Array Value → State → Outcome → State → Prop := fun _ st oc t => (∃ v, o = .inl v ∧ oc = .returned v) ∧ va_P E.1 kcl w1 t.heap ∧ va_D (va_A w0 sz) w1 ∧ va_F (va_A w0 sz) st t
def KTX (E : kE) (w0 : va_W) (sz : Nat) (o : OT) (w1 : va_W) : String → State → State → Prop := fun cls st t => o = .inr cls ∧ va_P E.1 kcl w1 t.heap ∧ va_D (va_A w0 sz) w1 ∧ va_F (va_A w0 sz) st t
/-- the method returns or throws, as o says, and leaves w1 -/
def KT (E : kE) (l : Launch) (y : MethodName) (bytes : ByteArray) (maxL : Nat) (ret : Option FieldType) (fr lo mc ms : Nat) (As : List Value) (w0 : va_W) (o : OT) (w1 : va_W) : Prop :=
  ∀ sz : Nat, vx_Met l y [Cond.code y bytes maxL ret] ({ frames := fr, cells := mc, slots := ms, locals := lo }) (KPT E w0 sz As) (KTQ E w0 sz o w1) (KTX E w0 sz o w1) mc ms (va_A w0 sz)
/-- a method with a table of its own, that returns -/
def KW (E : kE) (l : Launch) (y : MethodName) (bytes : ByteArray) (maxL : Nat) (ret : Option FieldType) (hh : List (Nat × Nat × Nat × Nat)) (fr lo mc ms : Nat) (As : List Value) (w0 : va_W) (o : Option Value) (w1 : va_W) : Prop :=
  ∀ sz : Nat, Met l y [Cond.codeWith y bytes maxL ret hh] ({ frames := fr, cells := mc, slots := ms, locals := lo }) (KPT E w0 sz As) (KQ E w0 sz (fun _ : Unit => o) (fun _ => w1)) mc ms (va_A w0 sz)
theorem free_in {E : kE} {A : Nat → Prop} {own : String} {cc : ByteArray} {nL : Nat} {p : Program} {s : State} {m : MethodId} {meth : Method} {c : Code} (X : CX E A own cc nL p s m meth c) {ws : va_W} {H : Heap} {locs : List Loc} (hD : va_D A ws) (hS : va_S A s.heap H locs) : ∀ q, va_A ws H.size q → A q := by
  intro q h
  rcases h with ⟨k, e, h⟩ | h
  · exact hD.2 k (q, e) h
  · exact X.2.2.2.2.2.2 q (Nat.le_trans hS.1 h)
theorem ZQ.sub {A : Nat → Prop} {s U : State} {ws : va_W} {H : Heap} {locs : List Loc} (h : ZQ A s) (hU : U.heap = H) (hW : s.WarmedH U.vm) (hS : va_S A s.heap H locs) (hF : ∀ q, va_A ws H.size q → A q) : ZQ (va_A ws H.size) U := by
  subst hU
  exact ⟨(vx_Zq.moved hW.alike (h.1.kept hS.2.1)).narrow hF, (vx_Zq.moved hW.alike (h.2.kept hS.2.1)).narrow hF⟩
/-- a method's frame with an exception over it -/
def GX (E : kE) (A : Nat → Prop) (nL : Nat) (p : Program) (l : Launch) (e : Env) (R : Room) (s : State) (m : MethodId) (args : Array Value) (below : List Frame) (meth : Method) (c : Code) (Q : State → Prop) (k n : Nat) (ws : va_W) (cls : String) (pc : Nat) (lv : List (Nat × Value)) (st : List Value) : Prop :=
  ∀ (H : Heap) (locs : List Loc) (ls : Array Slot) (q : Nat) (ce : Cell), va_P E.1 kcl ws H → va_D A ws → va_S A s.heap H locs → lv_has ls nL lv → H[q]? = some ce → ce.vm = .none → s.vm.findClass cls = some ce.cls → vx_W p l e R s m args below meth c H locs k n Q (F0 m pc ls st) q
section KR
variable {E : kE} {A : Nat → Prop} {own : String} {cc : ByteArray} {nL : Nat} {p : Program} {l : Launch} {e : Env} {R : Room} {s : State} {m : MethodId} {args : Array Value} {below : List Frame} {meth : Method} {c : Code} {Q : State → Prop} {k n : Nat} {ws : va_W} {pc : Nat} {lv : List (Nat × Value)} {st st0 : List Value}
variable {idx n0 maxL fr lo mc ms : Nat} {y : MethodName} {bytes : ByteArray} {ret : Option FieldType} {As : List Value}
theorem one_word {w : Cond} (X : CX E A own cc nL p s m meth c) (h : w ∈ lw_ok) (hg : goodWord w = true) : ∀ w' ∈ [w], ∀ (a' : Array Value) (U : State), s.WarmedH U.vm → w'.before a' U = true := by
  intro w' hw' a' U hW
  rw [List.mem_singleton.mp hw']
  exact word_at hW (good_of_word hg) (X.2.2.2.2.1.2.1 _ h)
theorem call_W (X : CX E A own cc nL p s m meth c) (L : LkV own idx y bytes maxL ret n0) (hR : fr + 1 ≤ R.frames ∧ 8 + (maxL + 11) + lo ≤ R.locals) : CallW R s args own y.cls idx y bytes maxL ret [Cond.code y bytes maxL ret] ({ frames := fr, cells := mc, slots := ms, locals := lo }) mc ms n0 := by
  obtain ⟨⟨h1, h2, h3, h4, h5⟩, h6, h7, h8⟩ := L
  have ts := X.2.2.2.2.1.2.1.ts (args := args)
  refine ⟨⟨rfl, rfl, hR.1, hR.2, one_word X h5 rfl, List.mem_singleton.mpr rfl, ts _ h5, ts _ h4, ⟨h6, h7⟩, fun sig h => ?_, ts _ h1⟩, ts _ h2, ts _ h3⟩
  rw [h] at h8
  exact (Option.some.inj h8).symm
theorem call_S (X : CX E A own cc nL p s m meth c) (L : LkS own idx y bytes maxL ret n0) (hR : fr + 1 ≤ R.frames ∧ 8 + (maxL + 11) + lo ≤ R.locals) : CallB R s args own idx y bytes maxL ret [Cond.code y bytes maxL ret] ({ frames := fr, cells := mc, slots := ms, locals := lo }) mc ms n0 ∧ (Cond.static y).before args s = true := by
  obtain ⟨⟨h1, h2, h3, h4⟩, h6, h7, h8⟩ := L
  have ts := X.2.2.2.2.1.2.1.ts (args := args)
  refine ⟨⟨rfl, rfl, hR.1, hR.2, one_word X h4 rfl, List.mem_singleton.mpr rfl, ts _ h4, ts _ h3, ⟨h6, h7⟩, fun sig h => ?_, ts _ h1⟩, ts _ h2⟩
  rw [h] at h8
  exact (Option.some.inj h8).symm
theorem call_N {host : String} (X : CX E A own cc nL p s m meth c) (L : LkN own idx y host bytes maxL ret n0) (hR : fr + 1 ≤ R.frames ∧ 8 + (maxL + 11) + lo ≤ R.locals) : va_CN R s args own idx y host bytes maxL ret [Cond.code y bytes maxL ret] ({ frames := fr, cells := mc, slots := ms, locals := lo }) mc ms n0 ∧ (Cond.static y).before args s = true ∧ True := by
  obtain ⟨⟨h1, h2, h3, h4⟩, h6, h7, h8⟩ := L
  have ts := X.2.2.2.2.1.2.1.ts (args := args)
  refine ⟨⟨⟨rfl, rfl, hR.1, hR.2, one_word X h4 rfl, List.mem_singleton.mpr rfl⟩, ts _ h4, ts _ h3, ⟨h6, h7⟩, fun sig h => ?_, ts _ h1⟩, ts _ h2, trivial⟩
  rw [h] at h8
  exact (Option.some.inj h8).symm
theorem call_I (X : CX E A own cc nL p s m meth c) (L : LkI own idx y bytes maxL n0) (hi : y.name = "<init>") (hR : fr + 1 ≤ R.frames ∧ 8 + (maxL + 11) + lo ≤ R.locals) : CallB R s args own idx y bytes maxL none [Cond.code y bytes maxL none] ({ frames := fr, cells := mc, slots := ms, locals := lo }) mc ms n0 ∧ y.name = "<init>" ∧ (Cond.instanceMethod y).before args s = true := by
  obtain ⟨⟨h1, h2, h3, h4⟩, h6, h7, h8⟩ := L
  have ts := X.2.2.2.2.1.2.1.ts (args := args)
  refine ⟨⟨rfl, rfl, hR.1, hR.2, one_word X h4 rfl, List.mem_singleton.mpr rfl, ts _ h4, ts _ h3, ⟨h6, h7⟩, fun sig h => ?_, ts _ h1⟩, hi, ts _ h2⟩
  rw [h] at h8
  exact (Option.some.inj h8).symm
/-- what a call leaves -/
theorem g_go {S : Type} {o : S → Option Value} {w1 : S → va_W} {rest : List Value} {av : Array Value} {H : Heap} {locs : List Loc} {ls : Array Slot} (X : CX E A own cc nL p s m meth c) (hD : va_D A ws) (hS : va_S A s.heap H locs) (hl : lv_has ls nL lv)
    (hr : va_Run p l e R s m args below meth c H locs k n mc ms (F0 m pc ls st0) rest (KQ E ws H.size o w1 av) (va_A ws H.size)) (kk : ∀ u : S, G E A nL p l e R s m args below meth c Q (k + mc) (n + ms) (w1 u) (pc + 3) lv ((o u).toList ++ rest)) : W p l e R s m args below meth c H locs k n Q (F0 m pc ls st0) := by
  intro T hT Y
  obtain ⟨v, st₀, t, T', L9, h0, Y', hL, e1, e2, ⟨u, hv, hP1, hD1, hF⟩, go⟩ := hr T hT Y
  cases hv
  have hf := free_in X hD hS
  obtain ⟨k1, k2, k3⟩ := vx_keep h0 e1 hS (fun q _ h => hf q h) hf hL hF
  obtain ⟨t2, a1, b1⟩ := kk u T'.heap (locs ++ L9) ls (by rw [e1]; exact hP1) (hD1.weaken (fun _ q _ h => hf q.1 h)) k3 hl T' rfl Y'
  exact ⟨t2, go t2 a1, b1⟩
theorem recv_in (X : CX E A own cc nL p s m meth c) {C : String} {T : u_T} {N ci q0 b : Nat} {fs : List Value} {H : Heap} (hP : va_P E.1 kcl ws H) (he : ws[q0]? = some (b, .inr (ci, fs))) (hc : kcl[ci]? = some (C, T, N)) : ∃ cellB : Cell, H[b]? = some cellB ∧ cellB.vm.isStatics = false ∧ s.vm.findClass C = some cellB.cls := va_recv X.2.2.2.2.1.1 hP hc he
theorem g_callV {S : Type} {o : S → Option Value} {w1 : S → va_W} (X : CX E A own cc nL p s m meth c) {b : Nat} (L : LkV own idx y bytes maxL ret n0) (hM : KN E l y bytes maxL ret fr lo mc ms (.ref b :: As) ws o w1) (d : decode cc pc = .ok (.invokevirtual idx, 3)) (hn : As.length = n0) (q0 : Nat) {ci N : Nat} {T : u_T} {fs : List Value} (he : ws[q0]? = some (b, .inr (ci, fs))) (hc : kcl[ci]? = some (y.cls, T, N)) (hst : st0 = As.reverse ++ .ref b :: st) (hcat : (st.map fun v => v.category).sum ≤ 8) (hR : fr + 1 ≤ R.frames ∧ 8 + (maxL + 11) + lo ≤ R.locals) (hf : k + mc ≤ R.cells ∧ n + ms ≤ R.slots) (kk : ∀ u : S, G E A nL p l e R s m args below meth c Q (k + mc) (n + ms) (w1 u) (pc + 3) lv ((o u).toList ++ st)) : G E A nL p l e R s m args below meth c Q k n ws pc lv st0 :=
  fun H locs ls hP hD hS hl => g_go X hD hS hl (va_runV (own := own) (Ts := lw_ok) (nL := nL) (cc := cc) ⟨X.1, X.2.1, X.2.2.1, X.2.2.2.1, X.2.2.2.2.1.2.1.ts⟩ (hM H.size) (call_W X L hR) ⟨KP_blind, recv_in X hP he hc, fun U hU hW => ⟨rfl, by rw [hU], by rw [hU]; exact hP, KX.warm hW X.2.2.2.2.1, hD.weaken (fun _ _ _ _ => trivial)⟩⟩ rfl hn hl.1 hst (lv_room hcat) d hf) kk
theorem g_callS {S : Type} {o : S → Option Value} {w1 : S → va_W} (X : CX E A own cc nL p s m meth c) (L : LkS own idx y bytes maxL ret n0) (hM : KN E l y bytes maxL ret fr lo mc ms As ws o w1) (d : decode cc pc = .ok (.invokestatic idx, 3)) (hn : As.length = n0) (hst : st0 = As.reverse ++ st) (hcat : (st.map fun v => v.category).sum ≤ 8) (hR : fr + 1 ≤ R.frames ∧ 8 + (maxL + 11) + lo ≤ R.locals) (hf : k + mc ≤ R.cells ∧ n + ms ≤ R.slots) (kk : ∀ u : S, G E A nL p l e R s m args below meth c Q (k + mc) (n + ms) (w1 u) (pc + 3) lv ((o u).toList ++ st)) : G E A nL p l e R s m args below meth c Q k n ws pc lv st0 :=
  fun H locs ls hP hD hS hl => g_go X hD hS hl (va_runS (own := own) (Ts := lw_ok) (nL := nL) (cc := cc) ⟨X.1, X.2.1, X.2.2.1, X.2.2.2.1, X.2.2.2.2.1.2.1.ts⟩ (hM H.size) (call_S X L hR) ⟨KP_blind, fun U hU hW => ⟨rfl, by rw [hU], by rw [hU]; exact hP, KX.warm hW X.2.2.2.2.1, hD.weaken (fun _ _ _ _ => trivial)⟩⟩ rfl hn hl.1 hst (lv_room hcat) d hf) kk
theorem g_callN {S : Type} {o : S → Option Value} {w1 : S → va_W} {host : String} (X : CX E A own cc nL p s m meth c) (L : LkN own idx y host bytes maxL ret n0) (hM : KN E l y bytes maxL ret fr lo mc ms As ws o w1) (d : decode cc pc = .ok (.invokestatic idx, 3)) (hn : As.length = n0) (hst : st0 = As.reverse ++ st) (hcat : (st.map fun v => v.category).sum ≤ 8) (hR : fr + 1 ≤ R.frames ∧ 8 + (maxL + 11) + lo ≤ R.locals) (hf : k + mc ≤ R.cells ∧ n + ms ≤ R.slots) (kk : ∀ u : S, G E A nL p l e R s m args below meth c Q (k + mc) (n + ms) (w1 u) (pc + 3) lv ((o u).toList ++ st)) : G E A nL p l e R s m args below meth c Q k n ws pc lv st0 :=
  fun H locs ls hP hD hS hl => g_go X hD hS hl (va_runSN (own := own) (Ts := lw_ok) (nL := nL) (cc := cc) ⟨X.1, X.2.1, X.2.2.1, X.2.2.2.1, X.2.2.2.2.1.2.1.ts⟩ (hM H.size) (call_N X L hR) ⟨KP_blind, fun U hU hW => ⟨rfl, by rw [hU], by rw [hU]; exact hP, KX.warm hW X.2.2.2.2.1, hD.weaken (fun _ _ _ _ => trivial)⟩⟩ rfl hn hl.1 hst (lv_room hcat) d hf) kk
theorem g_callI {S : Type} {o : S → Option Value} {w1 : S → va_W} (X : CX E A own cc nL p s m meth c) {b : Nat} (L : LkI own idx y bytes maxL n0) (hi : y.name = "<init>") (hM : KN E l y bytes maxL none fr lo mc ms (.ref b :: As) ws o w1) (d : decode cc pc = .ok (.invokespecial idx, 3)) (hn : As.length = n0) (hst : st0 = As.reverse ++ .ref b :: st) (hcat : (st.map fun v => v.category).sum ≤ 8) (hR : fr + 1 ≤ R.frames ∧ 8 + (maxL + 11) + lo ≤ R.locals) (hf : k + mc ≤ R.cells ∧ n + ms ≤ R.slots) (kk : ∀ u : S, G E A nL p l e R s m args below meth c Q (k + mc) (n + ms) (w1 u) (pc + 3) lv ((o u).toList ++ st)) : G E A nL p l e R s m args below meth c Q k n ws pc lv st0 :=
  fun H locs ls hP hD hS hl => g_go X hD hS hl (va_runI (own := own) (Ts := lw_ok) (nL := nL) (cc := cc) ⟨X.1, X.2.1, X.2.2.1, X.2.2.2.1, X.2.2.2.2.1.2.1.ts⟩ (hM H.size) (call_I X L hi hR) ⟨KP_blind, fun U hU hW => ⟨rfl, by rw [hU], by rw [hU]; exact hP, KX.warm hW X.2.2.2.2.1, hD.weaken (fun _ _ _ _ => trivial)⟩⟩ rfl hn hl.1 hst (lv_room hcat) d hf) kk
/-- a method's start -/
theorem K_start {S : Type} {o : S → Option Value} {w1 : S → va_W} {w0 : va_W} (hy : plainName y.cls = true) (hown : y.cls = own) (lv0 : List (Nat × Value)) (hlv : lv_args 0 As = lv0) (hmx : (lg_sl As).length ≤ maxL)
    (body : ∀ (p : Program) (e : Env) (s : State) (m : MethodId) (below : List Frame) (meth : Method) (c : Code), CX E (va_A w0 s.heap.size) own bytes maxL p s m meth c → meth.sig.returnType = ret → meth.name = y.name → G E (va_A w0 s.heap.size) maxL p l e ({ frames := fr, cells := mc, slots := ms, locals := lo }) s m As.toArray below meth c (MQ below (KQ E w0 s.heap.size o w1) As.toArray s mc ms (va_A w0 s.heap.size)) 0 0 w0 0 lv0 []) :
    KN E l y bytes maxL ret fr lo mc ms As w0 o w1 := by
  intro sz
  refine Met.ofW (cc := bytes) (maxL := maxL) (ret := ret) hy rfl ?_
  intro p e s m args below meth c s₁ B hml hv
  obtain ⟨rfl, hsz, hP, hK, hD0⟩ := hv
  subst hsz
  have X : CX E (va_A w0 s.heap.size) own bytes maxL p s m meth c := ⟨B.exec, B.bytes, hml, hown ▸ findClass_of_methodNamed B.named, hK, B.notSynchronized, fun q h => Or.inr h⟩
  have hl := lv_entry As (n := maxL) hmx
  rw [lg_entry_eq]
  rw [hlv] at hl
  exact body p e s m below meth c X B.returns (name_of_methodNamed B.named B.method).1 s.heap [] _ hP hD0.self va_S.rf hl
theorem g_iret {S : Type} {o : S → Option Value} {w1 : S → va_W} {w0 : va_W} (X : CX E (va_A w0 s.heap.size) own cc nL p s m meth c) (hr : meth.sig.returnType = some .int) {v : Int32} (d : decode cc pc = .ok (.ireturn, 1)) (u : S) (ho : o u = some (.int v)) (hw : ws = w1 u) : G E (va_A w0 s.heap.size) nL p l e R s m args below meth c (MQ below (KQ E w0 s.heap.size o w1) args s k n (va_A w0 s.heap.size)) k n ws pc lv [.int v] := by
  subst hw
  exact fun H locs ls hP hD hS hl => W.iret X.1 X.2.1 hr (fun t ht hW => ⟨u, by rw [ho], by rw [ht]; exact hP, hD, hS.F ht⟩) hS.2.2 d X.2.2.2.2.2.1
theorem g_zret {S : Type} {o : S → Option Value} {w1 : S → va_W} {w0 : va_W} (X : CX E (va_A w0 s.heap.size) own cc nL p s m meth c) (hr : meth.sig.returnType = some .boolean) {v : Int32} (d : decode cc pc = .ok (.ireturn, 1)) (b : Bool) (hb : v = bi b) (u : S) (ho : o u = some (.int v)) (hw : ws = w1 u) : G E (va_A w0 s.heap.size) nL p l e R s m args below meth c (MQ below (KQ E w0 s.heap.size o w1) args s k n (va_A w0 s.heap.size)) k n ws pc lv [.int v] := by
  subst hw
  exact fun H locs ls hP hD hS hl => W.zret X.1 X.2.1 hr (by rw [hb]; exact bi_nar b) (fun t ht hW => ⟨u, by rw [ho], by rw [ht]; exact hP, hD, hS.F ht⟩) hS.2.2 d X.2.2.2.2.2.1
theorem g_vret {S : Type} {o : S → Option Value} {w1 : S → va_W} {w0 : va_W} (X : CX E (va_A w0 s.heap.size) own cc nL p s m meth c) (hr : meth.sig.returnType = none) (d : decode cc pc = .ok (.return_, 1)) (u : S) (ho : o u = none) (hw : ws = w1 u) : G E (va_A w0 s.heap.size) nL p l e R s m args below meth c (MQ below (KQ E w0 s.heap.size o w1) args s k n (va_A w0 s.heap.size)) k n ws pc lv [] := by
  subst hw
  exact fun H locs ls hP hD hS hl => W.vret X.1 X.2.1 hr (fun t ht hW => ⟨u, by rw [ho], by rw [ht]; exact hP, hD, hS.F ht⟩) hS.2.2 d X.2.2.2.2.2.1
-- methods that may throw
theorem KT_start {o : OT} {w0 w1 : va_W} (hy : plainName y.cls = true) (hown : y.cls = own) (lv0 : List (Nat × Value)) (hlv : lv_args 0 As = lv0) (hmx : (lg_sl As).length ≤ maxL)
    (body : ∀ (p : Program) (e : Env) (s : State) (m : MethodId) (below : List Frame) (meth : Method) (c : Code), CX E (va_A w0 s.heap.size) own bytes maxL p s m meth c → meth.sig.returnType = ret → (∀ x ∈ c.exceptionTable.toList, False) → ZQ (va_A w0 s.heap.size) s → G E (va_A w0 s.heap.size) maxL p l e ({ frames := fr, cells := mc, slots := ms, locals := lo }) s m As.toArray below meth c (vx_MQ below (KTQ E w0 s.heap.size o w1) (KTX E w0 s.heap.size o w1) As.toArray s mc ms (va_A w0 s.heap.size)) 0 0 w0 0 lv0 []) :
    KT E l y bytes maxL ret fr lo mc ms As w0 o w1 := by
  intro sz
  refine vx_ofW (cc := bytes) (maxL := maxL) (ret := ret) hy rfl ?_
  intro p e s m args below meth c s₁ B hml hT hv
  obtain ⟨rfl, hsz, hP, hK, hD0, hZ⟩ := hv
  subst hsz
  have X : CX E (va_A w0 s.heap.size) own bytes maxL p s m meth c := ⟨B.exec, B.bytes, hml, hown ▸ findClass_of_methodNamed B.named, hK, B.notSynchronized, fun q h => Or.inr h⟩
  have hl := lv_entry As (n := maxL) hmx
  rw [lg_entry_eq]
  rw [hlv] at hl
  exact body p e s m below meth c X B.returns hT hZ s.heap [] _ hP hD0.self va_S.rf hl
theorem g_iretT {o : OT} {w0 w1 : va_W} (X : CX E (va_A w0 s.heap.size) own cc nL p s m meth c) (hr : meth.sig.returnType = some .int) {v : Int32} (d : decode cc pc = .ok (.ireturn, 1)) (hk : k ≤ mc) (hn : n ≤ ms) (ho : o = .inl (some (.int v))) (hw : ws = w1) : G E (va_A w0 s.heap.size) nL p l e R s m args below meth c (vx_MQ below (KTQ E w0 s.heap.size o w1) (KTX E w0 s.heap.size o w1) args s mc ms (va_A w0 s.heap.size)) k n ws pc lv [.int v] := by
  subst hw
  exact fun H locs ls hP hD hS hl => W.widen hk hn (vx_ret (W.iret X.1 X.2.1 hr (fun t ht hW => ⟨⟨_, ho, rfl⟩, by rw [ht]; exact hP, hD, hS.F ht⟩) hS.2.2 d X.2.2.2.2.2.1))
theorem g_zretT {o : OT} {w0 w1 : va_W} (X : CX E (va_A w0 s.heap.size) own cc nL p s m meth c) (hr : meth.sig.returnType = some .boolean) {v : Int32} (d : decode cc pc = .ok (.ireturn, 1)) (b : Bool) (hb : v = bi b) (hk : k ≤ mc) (hn : n ≤ ms) (ho : o = .inl (some (.int v))) (hw : ws = w1) : G E (va_A w0 s.heap.size) nL p l e R s m args below meth c (vx_MQ below (KTQ E w0 s.heap.size o w1) (KTX E w0 s.heap.size o w1) args s mc ms (va_A w0 s.heap.size)) k n ws pc lv [.int v] := by
  subst hw
  exact fun H locs ls hP hD hS hl => W.widen hk hn (vx_ret (W.zret X.1 X.2.1 hr (by rw [hb]; exact bi_nar b) (fun t ht hW => ⟨⟨_, ho, rfl⟩, by rw [ht]; exact hP, hD, hS.F ht⟩) hS.2.2 d X.2.2.2.2.2.1))
theorem g_vretT {o : OT} {w0 w1 : va_W} (X : CX E (va_A w0 s.heap.size) own cc nL p s m meth c) (hr : meth.sig.returnType = none) (d : decode cc pc = .ok (.return_, 1)) (hk : k ≤ mc) (hn : n ≤ ms) (ho : o = .inl none) (hw : ws = w1) : G E (va_A w0 s.heap.size) nL p l e R s m args below meth c (vx_MQ below (KTQ E w0 s.heap.size o w1) (KTX E w0 s.heap.size o w1) args s mc ms (va_A w0 s.heap.size)) k n ws pc lv [] := by
  subst hw
  exact fun H locs ls hP hD hS hl => W.widen hk hn (vx_ret (W.vret X.1 X.2.1 hr (fun t ht hW => ⟨⟨_, ho, rfl⟩, by rw [ht]; exact hP, hD, hS.F ht⟩) hS.2.2 d X.2.2.2.2.2.1))
/-- the words of a throw -/
def LkX (own : String) (ik ic : Nat) (cls : String) (names : List String) : Prop :=
  (Cond.classLink own ik cls ∈ lw_ok ∧ Cond.initialized cls ∈ lw_ok) ∧ (∀ w ∈ vx_atS own ic cls names, w ∈ lw_ok) ∧ (∀ w ∈ Cond.classLink own ik cls :: Cond.initialized cls :: vx_atS own ic cls names, vx_ot w = true) ∧ Bundle.fit cls = true ∧ ∀ n ∈ names, Bundle.fit n = true
theorem g_throwS {o : OT} {w0 w1 : va_W} (X : CX E (va_A w0 s.heap.size) RX6 cc nL p s m meth c) (hlt : l.stackTraces = false) (hT : ∀ x ∈ c.exceptionTable.toList, False) (hZ : ZQ (va_A w0 s.heap.size) s) {ik ic is : Nat} {cls text : String} {names : List String} (B : LkX RX6 ik ic cls names) (hs : (is, text) ∈ strs)
    (d0 : decode cc pc = .ok (.new ik, 3)) (d3 : decode cc (pc + 3) = .ok (.dup, 1)) (d4 : decode cc (pc + 4) = .ok (.ldc is, 2)) (d6 : decode cc (pc + 6) = .ok (.invokespecial ic, 3)) (d9 : decode cc (pc + 9) = .ok (.athrow, 1))
    (hRf : names.length + 3 < R.frames) (hRl : (st.map fun v => v.category).sum + (13 * (names.length + 1) + 43) ≤ R.locals) (hc : k + 1 ≤ R.cells ∧ n + 6 ≤ R.slots) (hk : k + 1 ≤ mc) (hn : n + 6 ≤ ms) (ho : o = .inr cls) (hw : ws = w1) : G E (va_A w0 s.heap.size) nL p l e R s m args below meth c (vx_MQ below (KTQ E w0 s.heap.size o w1) (KTX E w0 s.heap.size o w1) args s mc ms (va_A w0 s.heap.size)) k n ws pc lv st := by
  subst hw
  obtain ⟨⟨b1, b2⟩, b3, b4, b5, b6⟩ := B
  obtain ⟨sa, hsa⟩ := X.2.2.2.2.1.2.2 _ hs
  have ts := X.2.2.2.2.1.2.1.ts (args := args)
  exact fun H locs ls hP hD hS hl => vx_throwS X.1 X.2.1 hlt X.2.2.2.1 b5 b6 (ts _ b1) (ts _ b2) hsa (fun w hw => ts _ (b3 w hw)) b4 hZ.1 hZ.2 hS (by rw [X.2.2.1]; exact hl.1) d0 d3 d4 d6 d9 (fun x hx => (hT x hx).elim) hRf hRl hc.1 hc.2 X.2.2.2.2.2.1
    (fun t _ hsz hkq => ⟨ho, hP.kept (fun k q hq => hkq q.1 ((hP k q hq).lt)), hD, ⟨Nat.le_trans hS.1 hsz, fun q h1 h2 => (hkq q (Nat.lt_of_lt_of_le h1 hS.1)).trans (hS.2.1 q h1 h2)⟩⟩) hS.2.2 hk hn
theorem g_throwSW {o : OT} {w0 w1 : va_W} (X : CX E (va_A w0 s.heap.size) RX6 cc nL p s m meth c) (hlt : l.stackTraces = false) (hT : ∀ x ∈ c.exceptionTable.toList, False) (hZ : ZQ (va_A w0 s.heap.size) s) {ik ic is : Nat} {cls text : String} {names : List String} (B : LkX RX6 ik ic cls names) (hs : (is, text) ∈ strs)
    (d0 : decode cc pc = .ok (.new ik, 3)) (d3 : decode cc (pc + 3) = .ok (.dup, 1)) (d4 : decode cc (pc + 4) = .ok (.ldc_w is, 3)) (d7 : decode cc (pc + 7) = .ok (.invokespecial ic, 3)) (d10 : decode cc (pc + 10) = .ok (.athrow, 1))
    (hRf : names.length + 3 < R.frames) (hRl : (st.map fun v => v.category).sum + (13 * (names.length + 1) + 43) ≤ R.locals) (hc : k + 1 ≤ R.cells ∧ n + 6 ≤ R.slots) (hk : k + 1 ≤ mc) (hn : n + 6 ≤ ms) (ho : o = .inr cls) (hw : ws = w1) : G E (va_A w0 s.heap.size) nL p l e R s m args below meth c (vx_MQ below (KTQ E w0 s.heap.size o w1) (KTX E w0 s.heap.size o w1) args s mc ms (va_A w0 s.heap.size)) k n ws pc lv st := by
  subst hw
  obtain ⟨⟨b1, b2⟩, b3, b4, b5, b6⟩ := B
  obtain ⟨sa, hsa⟩ := X.2.2.2.2.1.2.2 _ hs
  have ts := X.2.2.2.2.1.2.1.ts (args := args)
  exact fun H locs ls hP hD hS hl => vx_throwSW X.1 X.2.1 hlt X.2.2.2.1 b5 b6 (ts _ b1) (ts _ b2) hsa (fun w hw => ts _ (b3 w hw)) b4 hZ.1 hZ.2 hS (by rw [X.2.2.1]; exact hl.1) d0 d3 d4 d7 d10 (fun x hx => (hT x hx).elim) hRf hRl hc.1 hc.2 X.2.2.2.2.2.1
    (fun t _ hsz hkq => ⟨ho, hP.kept (fun k q hq => hkq q.1 ((hP k q hq).lt)), hD, ⟨Nat.le_trans hS.1 hsz, fun q h1 h2 => (hkq q (Nat.lt_of_lt_of_le h1 hS.1)).trans (hS.2.1 q h1 h2)⟩⟩) hS.2.2 hk hn
/-- what a call leaves that may throw -/
theorem g_goT {o : OT} {w1 : va_W} {rest : List Value} {av : Array Value} {H : Heap} {locs : List Loc} {ls : Array Slot} (X : CX E A own cc nL p s m meth c) (hD : va_D A ws) (hS : va_S A s.heap H locs) (hl : lv_has ls nL lv)
    (hr : vx_Run p l e R s m args below meth c H locs k n mc ms (F0 m pc ls st0) rest (KTQ E ws H.size o w1 av) (KTX E ws H.size o w1) (va_A ws H.size)) (kk : ∀ v, o = .inl v → G E A nL p l e R s m args below meth c Q (k + mc) (n + ms) w1 (pc + 3) lv (v.toList ++ rest)) (kx : ∀ cls, o = .inr cls → GX E A nL p l e R s m args below meth c Q (k + mc) (n + ms) w1 cls pc lv rest) : W p l e R s m args below meth c H locs k n Q (F0 m pc ls st0) := by
  intro T hT Y
  have hf := free_in X hD hS
  rcases hr T hT Y with ⟨v, st₀, t, T', L9, h0, Y', hL, e1, e2, ⟨⟨v2, hv2, hv⟩, hP1, hD1, hF⟩, go⟩ | ⟨q, st₀, t, T', L9, cls, ce, h0, Y', hL, e1, e2, ⟨hv, hP1, hD1, hF⟩, hce, hcv, hcl, go⟩
  · cases hv
    obtain ⟨k1, k2, k3⟩ := vx_keep h0 e1 hS (fun q _ h => hf q h) hf hL hF
    obtain ⟨t2, a1, b1⟩ := kk v hv2 T'.heap (locs ++ L9) ls (by rw [e1]; exact hP1) (hD1.weaken (fun _ q _ h => hf q.1 h)) k3 hl T' rfl Y'
    exact ⟨t2, go t2 a1, b1⟩
  · obtain ⟨k1, k2, k3⟩ := vx_keep h0 e1 hS (fun q _ h => hf q h) hf hL hF
    obtain ⟨t2, a1, b1⟩ := kx cls hv T'.heap (locs ++ L9) ls q ce (by rw [e1]; exact hP1) (hD1.weaken (fun _ q _ h => hf q.1 h)) k3 hl (by rw [e1]; exact hce) hcv hcl T' rfl Y'
    exact ⟨t2, go.trans a1, b1⟩
theorem g_callVT {o : OT} {w1 : va_W} (X : CX E A own cc nL p s m meth c) (hZ : ZQ A s) {b : Nat} (L : LkV own idx y bytes maxL ret n0) (hM : KT E l y bytes maxL ret fr lo mc ms (.ref b :: As) ws o w1) (d : decode cc pc = .ok (.invokevirtual idx, 3)) (hn : As.length = n0) (q0 : Nat) {ci N : Nat} {T : u_T} {fs : List Value} (he : ws[q0]? = some (b, .inr (ci, fs))) (hc : kcl[ci]? = some (y.cls, T, N)) (hst : st0 = As.reverse ++ .ref b :: st) (hcat : (st.map fun v => v.category).sum ≤ 8) (hR : fr + 1 ≤ R.frames ∧ 8 + (maxL + 11) + lo ≤ R.locals) (hf : k + mc ≤ R.cells ∧ n + ms ≤ R.slots) (kk : ∀ v, o = .inl v → G E A nL p l e R s m args below meth c Q (k + mc) (n + ms) w1 (pc + 3) lv (v.toList ++ st)) (kx : ∀ cls, o = .inr cls → GX E A nL p l e R s m args below meth c Q (k + mc) (n + ms) w1 cls pc lv st) : G E A nL p l e R s m args below meth c Q k n ws pc lv st0 :=
  fun H locs ls hP hD hS hl => g_goT X hD hS hl (vx_runV (own := own) (Ts := lw_ok) (nL := nL) (cc := cc) ⟨X.1, X.2.1, X.2.2.1, X.2.2.2.1, X.2.2.2.2.1.2.1.ts⟩ (hM H.size) (call_W X L hR) ⟨KPT_blind, recv_in X hP he hc, fun U hU hW => ⟨rfl, by rw [hU], by rw [hU]; exact hP, KX.warm hW X.2.2.2.2.1, hD.weaken (fun _ _ _ _ => trivial), hZ.sub hU hW hS (free_in X hD hS)⟩⟩ rfl hn hl.1 hst (lv_room hcat) d hf) kk kx
theorem g_callST {o : OT} {w1 : va_W} (X : CX E A own cc nL p s m meth c) (hZ : ZQ A s) (L : LkS own idx y bytes maxL ret n0) (hM : KT E l y bytes maxL ret fr lo mc ms As ws o w1) (d : decode cc pc = .ok (.invokestatic idx, 3)) (hn : As.length = n0) (hst : st0 = As.reverse ++ st) (hcat : (st.map fun v => v.category).sum ≤ 8) (hR : fr + 1 ≤ R.frames ∧ 8 + (maxL + 11) + lo ≤ R.locals) (hf : k + mc ≤ R.cells ∧ n + ms ≤ R.slots) (kk : ∀ v, o = .inl v → G E A nL p l e R s m args below meth c Q (k + mc) (n + ms) w1 (pc + 3) lv (v.toList ++ st)) (kx : ∀ cls, o = .inr cls → GX E A nL p l e R s m args below meth c Q (k + mc) (n + ms) w1 cls pc lv st) : G E A nL p l e R s m args below meth c Q k n ws pc lv st0 :=
  fun H locs ls hP hD hS hl => g_goT X hD hS hl (vx_runS (own := own) (Ts := lw_ok) (nL := nL) (cc := cc) ⟨X.1, X.2.1, X.2.2.1, X.2.2.2.1, X.2.2.2.2.1.2.1.ts⟩ (hM H.size) (call_S X L hR) ⟨KPT_blind, fun U hU hW => ⟨rfl, by rw [hU], by rw [hU]; exact hP, KX.warm hW X.2.2.2.2.1, hD.weaken (fun _ _ _ _ => trivial), hZ.sub hU hW hS (free_in X hD hS)⟩⟩ rfl hn hl.1 hst (lv_room hcat) d hf) kk kx
/-- it goes on to the caller -/
theorem gx_out {o : OT} {w0 w1 : va_W} (X : CX E (va_A w0 s.heap.size) own cc nL p s m meth c) (hT : ∀ x ∈ c.exceptionTable.toList, False) {cls : String} (hk : k ≤ mc) (hn : n ≤ ms) (ho : o = .inr cls) (hw : ws = w1) : GX E (va_A w0 s.heap.size) nL p l e R s m args below meth c (vx_MQ below (KTQ E w0 s.heap.size o w1) (KTX E w0 s.heap.size o w1) args s mc ms (va_A w0 s.heap.size)) k n ws cls pc lv st := by
  subst hw
  exact fun H locs ls q ce hP hD hS hl hce hcv hcl => vx_out (fun x hx => (hT x hx).elim) X.2.2.2.2.2.1 hce hcv hcl (fun t ht _ => ⟨ho, by rw [ht]; exact hP, hD, hS.F ht⟩) hS.2.2 hk hn
end KR
