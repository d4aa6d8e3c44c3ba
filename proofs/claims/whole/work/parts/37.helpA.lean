/-! THE LAW'S HELPERS -/
def xcs : List String := [xIOB, xIAE, xISE, xNSE, xARE]
def NX (U : State) : Prop := ∀ a ∈ xcs, ∀ b ∈ xcs, a ≠ b → va_Nc a b U
theorem NX.alike {u U : State} (h : u.vm.Alike U.vm) (hn : NX u) : NX U := fun a ha b hb hab => (hn a ha b hb hab).moved h
def KPH (E : kE) (w0 : va_W) (sz : Nat) (As : List Value) : Array Value → State → Prop := va_Pc As (fun U => (U.heap.size = sz ∧ va_P E.1 kcl w0 U.heap ∧ KX E U ∧ va_D (fun _ => True) w0 ∧ ZQ (va_A w0 sz) U) ∧ NX U)
theorem KPH_blind {E : kE} {w0 : va_W} {sz : Nat} {As : List Value} : FrameBlind (KPH E w0 sz As) := fun a U g mk h => by
  have k := KPT_blind (E := E) (w0 := w0) (sz := sz) (As := As) a U g mk ⟨h.1, h.2.1⟩
  exact ⟨k.1, k.2, NX.alike (u := U) (U := U.calling g mk a) (Vm.Alike.refl U.vm) h.2.2⟩
/-- a helper, that returns -/
def KH (E : kE) (l : Launch) (y : MethodName) (bytes : ByteArray) (maxL : Nat) (ret : Option FieldType) (hh : List (Nat × Nat × Nat × Nat)) (fr lo mc ms : Nat) (As : List Value) (w0 : va_W) (o : Option Value) (w1 : va_W) : Prop :=
  ∀ sz : Nat, Met l y [Cond.codeWith y bytes maxL ret hh] ({ frames := fr, cells := mc, slots := ms, locals := lo }) (KPH E w0 sz As) (KQ E w0 sz (fun _ : Unit => o) (fun _ => w1)) mc ms (va_A w0 sz)
section KH1
variable {E : kE} {A : Nat → Prop} {own : String} {cc : ByteArray} {nL : Nat} {p : Program} {l : Launch} {e : Env} {R : Room} {s : State} {m : MethodId} {args : Array Value} {below : List Frame} {meth : Method} {c : Code} {Q : State → Prop} {k n : Nat} {ws : va_W} {pc : Nat} {lv : List (Nat × Value)} {st st0 : List Value}
variable {idx n0 maxL fr lo mc ms : Nat} {y : MethodName} {bytes : ByteArray} {ret : Option FieldType} {As : List Value} {hh : List (Nat × Nat × Nat × Nat)}
theorem KH_start {o : Option Value} {w0 w1 : va_W} (hy : plainName y.cls = true) (hown : y.cls = own) (lv0 : List (Nat × Value)) (hlv : lv_args 0 As = lv0) (hmx : (lg_sl As).length ≤ maxL)
    (body : ∀ (p : Program) (e : Env) (s : State) (m : MethodId) (below : List Frame) (meth : Method) (c : Code), CX E (va_A w0 s.heap.size) own bytes maxL p s m meth c → meth.sig.returnType = ret → c.exceptionTable.toList = tableOf hh → ZQ (va_A w0 s.heap.size) s → NX s → G E (va_A w0 s.heap.size) maxL p l e ({ frames := fr, cells := mc, slots := ms, locals := lo }) s m As.toArray below meth c (MQ below (KQ E w0 s.heap.size (fun _ : Unit => o) (fun _ => w1)) As.toArray s mc ms (va_A w0 s.heap.size)) 0 0 w0 0 lv0 []) :
    KH E l y bytes maxL ret hh fr lo mc ms As w0 o w1 := by
  intro sz
  refine va_MetW (cc := bytes) (maxL := maxL) (ret := ret) (hh := hh) hy rfl ?_
  intro p e s m args below meth c s₁ B hml hv
  obtain ⟨rfl, ⟨hsz, hP, hK, hD0, hZ⟩, hN⟩ := hv
  subst hsz
  have hT := vx_table (x := y) B (atoms_spec (ws := [Cond.codeWith y bytes maxL ret hh]) B.pre _ List.mem_cons_self)
  have X : CX E (va_A w0 s.heap.size) own bytes maxL p s m meth c := ⟨B.exec, B.bytes, hml, hown ▸ findClass_of_methodNamed B.named, hK, B.notSynchronized, fun q h => Or.inr h⟩
  have hl := lv_entry As (n := maxL) hmx
  rw [lg_entry_eq]
  rw [hlv] at hl
  exact body p e s m below meth c X B.returns hT hZ hN s.heap [] _ hP hD0.self va_S.rf hl
/-- caught here -/
theorem gx_catch (X : CX E A own cc nL p s m meth c) (hN : NX s) {cls : String} (hcl : cls ∈ xcs) (pre : List ExceptionTableEntry) (x : ExceptionTableEntry) (suf : List ExceptionTableEntry) (hsplit : c.exceptionTable.toList = pre ++ x :: suf) (hpass : ∀ z ∈ pre, z.catchType ≠ 0 ∧ ∃ nm : String, Cond.classLink own z.catchType nm ∈ lw_ok ∧ nm ∈ xcs ∧ cls ≠ nm) (hx : covers x pc = true) (h0 : x.catchType ≠ 0) (hlink : Cond.classLink own x.catchType cls ∈ lw_ok) (hcast : Cond.castable cls cls ∈ lw_ok) (kk : ∀ q : Nat, G E A nL p l e R s m args below meth c Q k n ws x.handlerPc lv [.ref q]) : GX E A nL p l e R s m args below meth c Q k n ws cls pc lv st := by
  have ts := X.2.2.2.2.1.2.1.ts (args := args)
  exact fun H locs ls q ce hP hD hS hl hce hcv hcc => vx_catch X.2.2.2.1 pre x suf hsplit (fun z hz => by
    obtain ⟨a1, nm, a2, a3, a4⟩ := hpass z hz
    exact Or.inr ⟨a1, nm, ts _ a2, hN cls hcl nm a3 a4⟩) hx h0 (ts _ hlink) (ts _ hcast) hce hcv hcc (kk q H locs ls hP hD hS hl)
theorem call_H (X : CX E A own cc nL p s m meth c) (L : LkW own idx y bytes maxL ret hh n0) (hR : fr + 1 ≤ R.frames ∧ 8 + (maxL + 11) + lo ≤ R.locals) : vx_CSW R s args own idx y bytes maxL ret hh [Cond.codeWith y bytes maxL ret hh] ({ frames := fr, cells := mc, slots := ms, locals := lo }) mc ms n0 := by
  obtain ⟨⟨h1, h2, h3, h4⟩, h6, h7, h8⟩ := L
  have ts := X.2.2.2.2.1.2.1.ts (args := args)
  refine ⟨⟨rfl, rfl, hR.1, hR.2, one_word X h4 rfl, List.mem_singleton.mpr rfl⟩, ts _ h4, ts _ h3, ⟨h6, h7⟩, fun sig h => ?_, ts _ h1, ts _ h2⟩
  rw [h] at h8
  exact (Option.some.inj h8).symm
theorem g_callH {o : Option Value} {w1 : va_W} (X : CX E A own cc nL p s m meth c) (hZ : ZQ A s) (hN : NX s) (L : LkW own idx y bytes maxL ret hh n0) (hM : KH E l y bytes maxL ret hh fr lo mc ms As ws o w1) (d : decode cc pc = .ok (.invokestatic idx, 3)) (hn : As.length = n0) (hst : st0 = As.reverse ++ st) (hcat : (st.map fun v => v.category).sum ≤ 8) (hR : fr + 1 ≤ R.frames ∧ 8 + (maxL + 11) + lo ≤ R.locals) (hf : k + mc ≤ R.cells ∧ n + ms ≤ R.slots) (q : Nat) (hq : pc + 3 = q) (st' : List Value) (hs : o.toList ++ st = st') (kk : G E A nL p l e R s m args below meth c Q (k + mc) (n + ms) w1 q lv st') : G E A nL p l e R s m args below meth c Q k n ws pc lv st0 := by
  subst hq; subst hs
  exact fun H locs ls hP hD hS hl => g_go X hD hS hl (vx_runSW (own := own) (Ts := lw_ok) (nL := nL) (cc := cc) ⟨X.1, X.2.1, X.2.2.1, X.2.2.2.1, X.2.2.2.2.1.2.1.ts⟩ (hM H.size) (call_H X L hR) ⟨KPH_blind, fun U hU hW => ⟨rfl, ⟨by rw [hU], by rw [hU]; exact hP, KX.warm hW X.2.2.2.2.1, hD.weaken (fun _ _ _ _ => trivial), hZ.sub hU hW hS (free_in X hD hS)⟩, hN.alike hW.alike⟩⟩ rfl hn hl.1 hst (lv_room hcat) d hf) (fun _ => kk)
theorem g_dast (X : CX E A own cc nL p s m meth c) (d : decode cc pc = .ok (.dastore, 1)) (q : Nat) (hq : pc + 1 = q) (q0 : Nat) {a N : Nat} {f : Nat → UInt64} (he : ws[q0]? = some (a, da E N f)) {i : Int32} {x : UInt64} (hi : vp_in i N) (ws' : va_W) (hw : ws.set q0 (a, da E N (vf_upd f i.toNatClampNeg x)) = ws') (kk : G E A nL p l e R s m args below meth c Q k n ws' q lv st) : G E A nL p l e R s m args below meth c Q k n ws pc lv (.double x :: .int i :: .ref a :: st) := by
  subst hq; subst hw
  exact fun H locs ls hP hD hS hl => va_dast X.1 X.2.1 X.2.2.2.2.1.1 hP hD hS q0 3 he rfl hi d (fun H1 locs1 hP1 hD1 hS1 => kk H1 locs1 ls hP1 hD1 hS1 hl)
theorem g_dald (X : CX E A own cc nL p s m meth c) (d : decode cc pc = .ok (.daload, 1)) (q : Nat) (hq : pc + 1 = q) (q0 : Nat) {a N : Nat} {f : Nat → UInt64} (he : ws[q0]? = some (a, da E N f)) {i : Int32} (hi : vp_in i N) (kk : G E A nL p l e R s m args below meth c Q k n ws q lv (.double (f i.toNatClampNeg) :: st)) : G E A nL p l e R s m args below meth c Q k n ws pc lv (.int i :: .ref a :: st) := by
  subst hq
  exact fun H locs ls hP hD hS hl => va_dald X.1 X.2.1 X.2.2.2.2.1.1 hP q0 3 he rfl hi d (kk H locs ls hP hD hS hl)
theorem g_f2d (X : CX E A own cc nL p s m meth c) (d : decode cc pc = .ok (.f2d, 1)) (q : Nat) (hq : pc + 1 = q) {x : UInt32} (hne : vf_n64 (FP.f2d x)) (kk : G E A nL p l e R s m args below meth c Q k n ws q lv (.double (FP.f2d x) :: st)) : G E A nL p l e R s m args below meth c Q k n ws pc lv (.float x :: st) := by
  subst hq
  exact fun H locs ls hP hD hS hl => lv_f2d X.1 X.2.1 d hne (kk H locs ls hP hD hS hl)
end KH1
def OV (L : List String) (o : OT) : Prop := (∃ r : Int32, o = oI r) ∨ ∃ c, o = oX c ∧ c ∈ L
def OVz (L : List String) (o : OT) : Prop := (∃ zb : Bool, o = oI (bi zb)) ∨ ∃ c, o = oX c ∧ c ∈ L
def OVd (L : List String) (o : OT) : Prop := (∃ r : UInt64, o = oD r) ∨ ∃ c, o = oX c ∧ c ∈ L
def OVf (L : List String) (o : OT) : Prop := (∃ r : UInt32, o = oF r ∧ vf_n64 (FP.f2d r)) ∨ ∃ c, o = oX c ∧ c ∈ L
theorem AGR.ov {L : List String} {o : OT} {T R : Int32} (h : AGR L o T R) : OV L o := by
  rcases h with ⟨h, -⟩ | ⟨c, h1, h2, -⟩
  · exact Or.inl ⟨R, h⟩
  · exact Or.inr ⟨c, h1, h2⟩
/-- what a helper writes -/
def hou (F : Nat → Int64) (o : OT) : Nat → Int64 := match o with
  | .inl (some (.int r)) => vp_updL F 0 r.toInt64
  | _ => F
def hod (D : Nat → UInt64) (o : OT) : Nat → UInt64 := match o with
  | .inl (some (.double r)) => vf_upd D 0 r
  | .inl (some (.float r)) => vf_upd D 0 (FP.f2d r)
  | _ => D
theorem in_0 : vp_in 0 1 := show vp_in (nI 0) 1 from vp_in_nI (by decide) (by decide)
theorem Ca_IOB : Cond.castable xIOB xIOB ∈ lw_ok := ok_in 433 (by decide +kernel) (by decide +kernel)
theorem Ca_IAE : Cond.castable xIAE xIAE ∈ lw_ok := ok_in 449 (by decide +kernel) (by decide +kernel)
theorem Ca_ISE : Cond.castable xISE xISE ∈ lw_ok := ok_in 466 (by decide +kernel) (by decide +kernel)
theorem Ca_NSE : Cond.castable xNSE xNSE ∈ lw_ok := ok_in 565 (by decide +kernel) (by decide +kernel)
theorem Ca_ARE : Cond.castable xARE xARE ∈ lw_ok := ok_in 967 (by decide +kernel) (by decide +kernel)
set_option maxHeartbeats 4000000 in
set_option maxRecDepth 100000 in
theorem k_L_addPool (E : kE) (l : Launch) (b : Nat → Nat) (μ : Sto) (a : Nat → Nat) (σ σ' : Sto) (o d : Nat) (F : Nat → Int64) (D : Nat → UInt64) (x0 : Int32) (x1 : Int32) (x2 : Int32) (x3 : Int32) {fr lo : Nat} {oo : OT} (hM : KT E l yX6_addPool cX6_addPool 5 (some .int) fr lo 4 24 [.ref (a 0), .int x0, .int x1, .int x2, .int x3] (WW E b μ a σ [(o, la E 1 F), (d, da E 1 D)]) oo (WW E b μ a σ' [(o, la E 1 F), (d, da E 1 D)])) (hV : OV [xIOB, xIAE, xISE] oo) : KH E l yL_addPool cL_addPool 7 (some .int) [(0, 14, 17, 13), (0, 14, 21, 15), (0, 14, 25, 17)] (fr + 1) (8 + (5 + 11) + lo) 4 24 [.ref (a 0), .int x0, .int x1, .int x2, .int x3, .ref o] (WW E b μ a σ [(o, la E 1 F), (d, da E 1 D)]) (some (.int (hcd [xIOB, xIAE, xISE] oo))) (WW E b μ a σ' [(o, la E 1 (hou F oo)), (d, da E 1 D)]) := by
  refine KH_start (own := RL) (by decide +kernel) rfl [(0, .ref (a 0)), (1, .int x0), (2, .int x1), (3, .int x2), (4, .int x3), (5, .ref o)] rfl (Nat.le_of_ble_eq_true rfl) (fun p e s m below meth c X hr hT hZ hN => ?_)
  refine g_aload X dL_addPool_0 2 rfl rfl ?_
  refine g_iconst X dL_addPool_2 3 rfl (v := 0) rfl ?_
  refine g_aload_n X dL_addPool_3 4 rfl rfl ?_
  refine g_iload_n X dL_addPool_4 5 rfl rfl ?_
  refine g_iload_n X dL_addPool_5 6 rfl rfl ?_
  refine g_iload_n X dL_addPool_6 7 rfl rfl ?_
  refine g_iload X dL_addPool_7 9 rfl rfl ?_
  refine g_callVT X hZ Lk_L_7 hM dL_addPool_9 rfl 4 rfl (ci := 6) rfl rfl (Nat.le_of_ble_eq_true rfl) ⟨Nat.le_refl _, Nat.le_refl _⟩ ⟨(Nat.le_of_ble_eq_true rfl), (Nat.le_of_ble_eq_true rfl)⟩ (fun v hv => ?_) (fun cls hc => ?_)
  · rcases hV with ⟨r, e⟩ | ⟨c9, e, -⟩
    · obtain rfl : v = some (.int r) := by rw [e] at hv; exact (Sum.inl.inj hv).symm
      refine g_i2l X dL_addPool_12 13 rfl ?_
      refine g_last X dL_addPool_13 14 rfl 51 rfl in_0 (WW E b μ a σ' [(o, la E 1 (hou F oo)), (d, da E 1 D)]) (by rw [e]; rfl) ?_
      refine g_goto X dL_addPool_14 29 rfl ?_
      refine g_iconst X dL_addPool_29 30 rfl (v := 0) rfl ?_
      exact g_iret X hr dL_addPool_30 () (by rw [e]; exact congrArg (fun x => some (Value.int x)) (show hcd [xIOB, xIAE, xISE] (oI r) = 0 from rfl)) rfl
    · rw [e] at hv; cases hv
  · rcases hV with ⟨r, e⟩ | ⟨c9, e, hcm⟩
    · rw [e] at hc; cases hc
    · obtain rfl : c9 = cls := by rw [e] at hc; exact Sum.inr.inj hc
      simp only [List.mem_cons, List.not_mem_nil, or_false] at hcm
      rcases hcm with rfl | rfl | rfl
      · refine gx_catch X hN (by decide) [] ⟨0, 14, 17, 13⟩ [⟨0, 14, 21, 15⟩, ⟨0, 14, 25, 17⟩] (hT.trans rfl) (fun _ h => absurd h List.not_mem_nil) rfl (by decide) Cl_L_13 Ca_IOB (fun q => ?_)
        refine g_astore X dL_addPool_17 19 rfl (by decide) [(6, .ref q), (0, .ref (a 0)), (1, .int x0), (2, .int x1), (3, .int x2), (4, .int x3), (5, .ref o)] rfl ?_
        refine g_iconst X dL_addPool_19 20 rfl (v := 1) rfl ?_
        exact g_iret X hr dL_addPool_20 () (by rw [e]; exact congrArg (fun x => some (Value.int x)) (show hcd [xIOB, xIAE, xISE] (oX xIOB) = 1 from by decide +kernel)) (by rw [e]; rfl)
      · refine gx_catch X hN (by decide) [⟨0, 14, 17, 13⟩] ⟨0, 14, 21, 15⟩ [⟨0, 14, 25, 17⟩] (hT.trans rfl) (List.forall_mem_cons.mpr ⟨⟨by decide, xIOB, Cl_L_13, by decide, by decide⟩, fun _ h => absurd h List.not_mem_nil⟩) rfl (by decide) Cl_L_15 Ca_IAE (fun q => ?_)
        refine g_astore X dL_addPool_21 23 rfl (by decide) [(6, .ref q), (0, .ref (a 0)), (1, .int x0), (2, .int x1), (3, .int x2), (4, .int x3), (5, .ref o)] rfl ?_
        refine g_iconst X dL_addPool_23 24 rfl (v := 2) rfl ?_
        exact g_iret X hr dL_addPool_24 () (by rw [e]; exact congrArg (fun x => some (Value.int x)) (show hcd [xIOB, xIAE, xISE] (oX xIAE) = 2 from by decide +kernel)) (by rw [e]; rfl)
      · refine gx_catch X hN (by decide) [⟨0, 14, 17, 13⟩, ⟨0, 14, 21, 15⟩] ⟨0, 14, 25, 17⟩ [] (hT.trans rfl) (List.forall_mem_cons.mpr ⟨⟨by decide, xIOB, Cl_L_13, by decide, by decide⟩, List.forall_mem_cons.mpr ⟨⟨by decide, xIAE, Cl_L_15, by decide, by decide⟩, fun _ h => absurd h List.not_mem_nil⟩⟩) rfl (by decide) Cl_L_17 Ca_ISE (fun q => ?_)
        refine g_astore X dL_addPool_25 27 rfl (by decide) [(6, .ref q), (0, .ref (a 0)), (1, .int x0), (2, .int x1), (3, .int x2), (4, .int x3), (5, .ref o)] rfl ?_
        refine g_iconst X dL_addPool_27 28 rfl (v := 3) rfl ?_
        exact g_iret X hr dL_addPool_28 () (by rw [e]; exact congrArg (fun x => some (Value.int x)) (show hcd [xIOB, xIAE, xISE] (oX xISE) = 3 from by decide +kernel)) (by rw [e]; rfl)

set_option maxHeartbeats 4000000 in
set_option maxRecDepth 100000 in
theorem k_L_removePool (E : kE) (l : Launch) (b : Nat → Nat) (μ : Sto) (a : Nat → Nat) (σ σ' : Sto) (o d : Nat) (F : Nat → Int64) (D : Nat → UInt64) (x0 : Int32) {fr lo : Nat} {oo : OT} (hM : KT E l yX6_removePool cX6_removePool 4 (some .int) fr lo 4 24 [.ref (a 0), .int x0] (WW E b μ a σ [(o, la E 1 F), (d, da E 1 D)]) oo (WW E b μ a σ' [(o, la E 1 F), (d, da E 1 D)])) (hV : OV [xIOB, xISE] oo) : KH E l yL_removePool cL_removePool 4 (some .int) [(0, 9, 12, 13), (0, 9, 15, 17)] (fr + 1) (8 + (4 + 11) + lo) 4 24 [.ref (a 0), .int x0, .ref o] (WW E b μ a σ [(o, la E 1 F), (d, da E 1 D)]) (some (.int (hcd [xIOB, xISE] oo))) (WW E b μ a σ' [(o, la E 1 (hou F oo)), (d, da E 1 D)]) := by
  refine KH_start (own := RL) (by decide +kernel) rfl [(0, .ref (a 0)), (1, .int x0), (2, .ref o)] rfl (Nat.le_of_ble_eq_true rfl) (fun p e s m below meth c X hr hT hZ hN => ?_)
  refine g_aload_n X dL_removePool_0 1 rfl rfl ?_
  refine g_iconst X dL_removePool_1 2 rfl (v := 0) rfl ?_
  refine g_aload_n X dL_removePool_2 3 rfl rfl ?_
  refine g_iload_n X dL_removePool_3 4 rfl rfl ?_
  refine g_callVT X hZ Lk_L_19 hM dL_removePool_4 rfl 4 rfl (ci := 6) rfl rfl (Nat.le_of_ble_eq_true rfl) ⟨Nat.le_refl _, Nat.le_refl _⟩ ⟨(Nat.le_of_ble_eq_true rfl), (Nat.le_of_ble_eq_true rfl)⟩ (fun v hv => ?_) (fun cls hc => ?_)
  · rcases hV with ⟨r, e⟩ | ⟨c9, e, -⟩
    · obtain rfl : v = some (.int r) := by rw [e] at hv; exact (Sum.inl.inj hv).symm
      refine g_i2l X dL_removePool_7 8 rfl ?_
      refine g_last X dL_removePool_8 9 rfl 51 rfl in_0 (WW E b μ a σ' [(o, la E 1 (hou F oo)), (d, da E 1 D)]) (by rw [e]; rfl) ?_
      refine g_goto X dL_removePool_9 18 rfl ?_
      refine g_iconst X dL_removePool_18 19 rfl (v := 0) rfl ?_
      exact g_iret X hr dL_removePool_19 () (by rw [e]; exact congrArg (fun x => some (Value.int x)) (show hcd [xIOB, xISE] (oI r) = 0 from rfl)) rfl
    · rw [e] at hv; cases hv
  · rcases hV with ⟨r, e⟩ | ⟨c9, e, hcm⟩
    · rw [e] at hc; cases hc
    · obtain rfl : c9 = cls := by rw [e] at hc; exact Sum.inr.inj hc
      simp only [List.mem_cons, List.not_mem_nil, or_false] at hcm
      rcases hcm with rfl | rfl
      · refine gx_catch X hN (by decide) [] ⟨0, 9, 12, 13⟩ [⟨0, 9, 15, 17⟩] (hT.trans rfl) (fun _ h => absurd h List.not_mem_nil) rfl (by decide) Cl_L_13 Ca_IOB (fun q => ?_)
        refine g_astore_n X dL_removePool_12 13 rfl (by decide) [(3, .ref q), (0, .ref (a 0)), (1, .int x0), (2, .ref o)] rfl ?_
        refine g_iconst X dL_removePool_13 14 rfl (v := 1) rfl ?_
        exact g_iret X hr dL_removePool_14 () (by rw [e]; exact congrArg (fun x => some (Value.int x)) (show hcd [xIOB, xISE] (oX xIOB) = 1 from by decide +kernel)) (by rw [e]; rfl)
      · refine gx_catch X hN (by decide) [⟨0, 9, 12, 13⟩] ⟨0, 9, 15, 17⟩ [] (hT.trans rfl) (List.forall_mem_cons.mpr ⟨⟨by decide, xIOB, Cl_L_13, by decide, by decide⟩, fun _ h => absurd h List.not_mem_nil⟩) rfl (by decide) Cl_L_17 Ca_ISE (fun q => ?_)
        refine g_astore_n X dL_removePool_15 16 rfl (by decide) [(3, .ref q), (0, .ref (a 0)), (1, .int x0), (2, .ref o)] rfl ?_
        refine g_iconst X dL_removePool_16 17 rfl (v := 2) rfl ?_
        exact g_iret X hr dL_removePool_17 () (by rw [e]; exact congrArg (fun x => some (Value.int x)) (show hcd [xIOB, xISE] (oX xISE) = 2 from by decide +kernel)) (by rw [e]; rfl)

set_option maxHeartbeats 4000000 in
set_option maxRecDepth 100000 in
theorem k_L_pool (E : kE) (l : Launch) (b : Nat → Nat) (μ : Sto) (a : Nat → Nat) (σ σ' : Sto) (o d : Nat) (F : Nat → Int64) (D : Nat → UInt64) (x0 : Int32) (x1 : Int32) {fr lo : Nat} {oo : OT} (hM : KT E l yX6_pool cX6_pool 4 (some .int) fr lo 4 24 [.ref (a 0), .int x0, .int x1] (WW E b μ a σ [(o, la E 1 F), (d, da E 1 D)]) oo (WW E b μ a σ' [(o, la E 1 F), (d, da E 1 D)])) (hV : OV [xIOB, xIAE] oo) : KH E l yL_pool cL_pool 5 (some .int) [(0, 10, 13, 13), (0, 10, 17, 15)] (fr + 1) (8 + (4 + 11) + lo) 4 24 [.ref (a 0), .int x0, .int x1, .ref o] (WW E b μ a σ [(o, la E 1 F), (d, da E 1 D)]) (some (.int (hcd [xIOB, xIAE] oo))) (WW E b μ a σ' [(o, la E 1 (hou F oo)), (d, da E 1 D)]) := by
  refine KH_start (own := RL) (by decide +kernel) rfl [(0, .ref (a 0)), (1, .int x0), (2, .int x1), (3, .ref o)] rfl (Nat.le_of_ble_eq_true rfl) (fun p e s m below meth c X hr hT hZ hN => ?_)
  refine g_aload_n X dL_pool_0 1 rfl rfl ?_
  refine g_iconst X dL_pool_1 2 rfl (v := 0) rfl ?_
  refine g_aload_n X dL_pool_2 3 rfl rfl ?_
  refine g_iload_n X dL_pool_3 4 rfl rfl ?_
  refine g_iload_n X dL_pool_4 5 rfl rfl ?_
  refine g_callVT X hZ Lk_L_23 hM dL_pool_5 rfl 4 rfl (ci := 6) rfl rfl (Nat.le_of_ble_eq_true rfl) ⟨Nat.le_refl _, Nat.le_refl _⟩ ⟨(Nat.le_of_ble_eq_true rfl), (Nat.le_of_ble_eq_true rfl)⟩ (fun v hv => ?_) (fun cls hc => ?_)
  · rcases hV with ⟨r, e⟩ | ⟨c9, e, -⟩
    · obtain rfl : v = some (.int r) := by rw [e] at hv; exact (Sum.inl.inj hv).symm
      refine g_i2l X dL_pool_8 9 rfl ?_
      refine g_last X dL_pool_9 10 rfl 51 rfl in_0 (WW E b μ a σ' [(o, la E 1 (hou F oo)), (d, da E 1 D)]) (by rw [e]; rfl) ?_
      refine g_goto X dL_pool_10 21 rfl ?_
      refine g_iconst X dL_pool_21 22 rfl (v := 0) rfl ?_
      exact g_iret X hr dL_pool_22 () (by rw [e]; exact congrArg (fun x => some (Value.int x)) (show hcd [xIOB, xIAE] (oI r) = 0 from rfl)) rfl
    · rw [e] at hv; cases hv
  · rcases hV with ⟨r, e⟩ | ⟨c9, e, hcm⟩
    · rw [e] at hc; cases hc
    · obtain rfl : c9 = cls := by rw [e] at hc; exact Sum.inr.inj hc
      simp only [List.mem_cons, List.not_mem_nil, or_false] at hcm
      rcases hcm with rfl | rfl
      · refine gx_catch X hN (by decide) [] ⟨0, 10, 13, 13⟩ [⟨0, 10, 17, 15⟩] (hT.trans rfl) (fun _ h => absurd h List.not_mem_nil) rfl (by decide) Cl_L_13 Ca_IOB (fun q => ?_)
        refine g_astore X dL_pool_13 15 rfl (by decide) [(4, .ref q), (0, .ref (a 0)), (1, .int x0), (2, .int x1), (3, .ref o)] rfl ?_
        refine g_iconst X dL_pool_15 16 rfl (v := 1) rfl ?_
        exact g_iret X hr dL_pool_16 () (by rw [e]; exact congrArg (fun x => some (Value.int x)) (show hcd [xIOB, xIAE] (oX xIOB) = 1 from by decide +kernel)) (by rw [e]; rfl)
      · refine gx_catch X hN (by decide) [⟨0, 10, 13, 13⟩] ⟨0, 10, 17, 15⟩ [] (hT.trans rfl) (List.forall_mem_cons.mpr ⟨⟨by decide, xIOB, Cl_L_13, by decide, by decide⟩, fun _ h => absurd h List.not_mem_nil⟩) rfl (by decide) Cl_L_15 Ca_IAE (fun q => ?_)
        refine g_astore X dL_pool_17 19 rfl (by decide) [(4, .ref q), (0, .ref (a 0)), (1, .int x0), (2, .int x1), (3, .ref o)] rfl ?_
        refine g_iconst X dL_pool_19 20 rfl (v := 2) rfl ?_
        exact g_iret X hr dL_pool_20 () (by rw [e]; exact congrArg (fun x => some (Value.int x)) (show hcd [xIOB, xIAE] (oX xIAE) = 2 from by decide +kernel)) (by rw [e]; rfl)

set_option maxHeartbeats 4000000 in
set_option maxRecDepth 100000 in
theorem k_L_poolOf (E : kE) (l : Launch) (b : Nat → Nat) (μ : Sto) (a : Nat → Nat) (σ σ' : Sto) (o d : Nat) (F : Nat → Int64) (D : Nat → UInt64) (x0 : Int32) {fr lo : Nat} {oo : OT} (hM : KT E l yX6_poolOf cX6_poolOf 2 (some .int) fr lo 4 24 [.ref (a 0), .int x0] (WW E b μ a σ [(o, la E 1 F), (d, da E 1 D)]) oo (WW E b μ a σ' [(o, la E 1 F), (d, da E 1 D)])) (hV : OV [xIOB, xNSE] oo) : KH E l yL_poolOf cL_poolOf 4 (some .int) [(0, 9, 12, 13), (0, 9, 15, 30)] (fr + 1) (8 + (2 + 11) + lo) 4 24 [.ref (a 0), .int x0, .ref o] (WW E b μ a σ [(o, la E 1 F), (d, da E 1 D)]) (some (.int (hcd [xIOB, xNSE] oo))) (WW E b μ a σ' [(o, la E 1 (hou F oo)), (d, da E 1 D)]) := by
  refine KH_start (own := RL) (by decide +kernel) rfl [(0, .ref (a 0)), (1, .int x0), (2, .ref o)] rfl (Nat.le_of_ble_eq_true rfl) (fun p e s m below meth c X hr hT hZ hN => ?_)
  refine g_aload_n X dL_poolOf_0 1 rfl rfl ?_
  refine g_iconst X dL_poolOf_1 2 rfl (v := 0) rfl ?_
  refine g_aload_n X dL_poolOf_2 3 rfl rfl ?_
  refine g_iload_n X dL_poolOf_3 4 rfl rfl ?_
  refine g_callVT X hZ Lk_L_27 hM dL_poolOf_4 rfl 4 rfl (ci := 6) rfl rfl (Nat.le_of_ble_eq_true rfl) ⟨Nat.le_refl _, Nat.le_refl _⟩ ⟨(Nat.le_of_ble_eq_true rfl), (Nat.le_of_ble_eq_true rfl)⟩ (fun v hv => ?_) (fun cls hc => ?_)
  · rcases hV with ⟨r, e⟩ | ⟨c9, e, -⟩
    · obtain rfl : v = some (.int r) := by rw [e] at hv; exact (Sum.inl.inj hv).symm
      refine g_i2l X dL_poolOf_7 8 rfl ?_
      refine g_last X dL_poolOf_8 9 rfl 51 rfl in_0 (WW E b μ a σ' [(o, la E 1 (hou F oo)), (d, da E 1 D)]) (by rw [e]; rfl) ?_
      refine g_goto X dL_poolOf_9 18 rfl ?_
      refine g_iconst X dL_poolOf_18 19 rfl (v := 0) rfl ?_
      exact g_iret X hr dL_poolOf_19 () (by rw [e]; exact congrArg (fun x => some (Value.int x)) (show hcd [xIOB, xNSE] (oI r) = 0 from rfl)) rfl
    · rw [e] at hv; cases hv
  · rcases hV with ⟨r, e⟩ | ⟨c9, e, hcm⟩
    · rw [e] at hc; cases hc
    · obtain rfl : c9 = cls := by rw [e] at hc; exact Sum.inr.inj hc
      simp only [List.mem_cons, List.not_mem_nil, or_false] at hcm
      rcases hcm with rfl | rfl
      · refine gx_catch X hN (by decide) [] ⟨0, 9, 12, 13⟩ [⟨0, 9, 15, 30⟩] (hT.trans rfl) (fun _ h => absurd h List.not_mem_nil) rfl (by decide) Cl_L_13 Ca_IOB (fun q => ?_)
        refine g_astore_n X dL_poolOf_12 13 rfl (by decide) [(3, .ref q), (0, .ref (a 0)), (1, .int x0), (2, .ref o)] rfl ?_
        refine g_iconst X dL_poolOf_13 14 rfl (v := 1) rfl ?_
        exact g_iret X hr dL_poolOf_14 () (by rw [e]; exact congrArg (fun x => some (Value.int x)) (show hcd [xIOB, xNSE] (oX xIOB) = 1 from by decide +kernel)) (by rw [e]; rfl)
      · refine gx_catch X hN (by decide) [⟨0, 9, 12, 13⟩] ⟨0, 9, 15, 30⟩ [] (hT.trans rfl) (List.forall_mem_cons.mpr ⟨⟨by decide, xIOB, Cl_L_13, by decide, by decide⟩, fun _ h => absurd h List.not_mem_nil⟩) rfl (by decide) Cl_L_30 Ca_NSE (fun q => ?_)
        refine g_astore_n X dL_poolOf_15 16 rfl (by decide) [(3, .ref q), (0, .ref (a 0)), (1, .int x0), (2, .ref o)] rfl ?_
        refine g_iconst X dL_poolOf_16 17 rfl (v := 2) rfl ?_
        exact g_iret X hr dL_poolOf_17 () (by rw [e]; exact congrArg (fun x => some (Value.int x)) (show hcd [xIOB, xNSE] (oX xNSE) = 2 from by decide +kernel)) (by rw [e]; rfl)

set_option maxHeartbeats 4000000 in
set_option maxRecDepth 100000 in
theorem k_L_exclude (E : kE) (l : Launch) (b : Nat → Nat) (μ : Sto) (a : Nat → Nat) (σ σ' : Sto) (o d : Nat) (F : Nat → Int64) (D : Nat → UInt64) (x0 : Int32) (x1 : Bool) {fr lo : Nat} {oo : OT} (hM : KT E l yX6_exclude cX6_exclude 4 (some .boolean) fr lo 4 24 [.ref (a 0), .int x0, .int (bi x1)] (WW E b μ a σ [(o, la E 1 F), (d, da E 1 D)]) oo (WW E b μ a σ' [(o, la E 1 F), (d, da E 1 D)])) (hV : OVz [xIOB] oo) : KH E l yL_exclude cL_exclude 5 (some .int) [(0, 17, 20, 13)] (fr + 1) (8 + (4 + 11) + lo) 4 24 [.ref (a 0), .int x0, .int (bi x1), .ref o] (WW E b μ a σ [(o, la E 1 F), (d, da E 1 D)]) (some (.int (hcd [xIOB] oo))) (WW E b μ a σ' [(o, la E 1 (hou F oo)), (d, da E 1 D)]) := by
  refine KH_start (own := RL) (by decide +kernel) rfl [(0, .ref (a 0)), (1, .int x0), (2, .int (bi x1)), (3, .ref o)] rfl (Nat.le_of_ble_eq_true rfl) (fun p e s m below meth c X hr hT hZ hN => ?_)
  refine g_aload_n X dL_exclude_0 1 rfl rfl ?_
  refine g_iconst X dL_exclude_1 2 rfl (v := 0) rfl ?_
  refine g_aload_n X dL_exclude_2 3 rfl rfl ?_
  refine g_iload_n X dL_exclude_3 4 rfl rfl ?_
  refine g_iload_n X dL_exclude_4 5 rfl rfl ?_
  refine g_callVT X hZ Lk_L_32 hM dL_exclude_5 rfl 4 rfl (ci := 6) rfl rfl (Nat.le_of_ble_eq_true rfl) ⟨Nat.le_refl _, Nat.le_refl _⟩ ⟨(Nat.le_of_ble_eq_true rfl), (Nat.le_of_ble_eq_true rfl)⟩ (fun v hv => ?_) (fun cls hc => ?_)
  · rcases hV with ⟨zb, e⟩ | ⟨c9, e, -⟩
    · obtain rfl : v = some (.int (bi zb)) := by rw [e] at hv; exact (Sum.inl.inj hv).symm
      cases zb
      · refine g_if_eq (x := 0) X dL_exclude_8 15 11 rfl rfl (fun _ => ?_) (fun c1 => absurd rfl c1)
        refine g_lconst X dL_exclude_15 16 rfl (v := (0 : Int32).toInt64) rfl ?_
        refine g_last X dL_exclude_16 17 rfl 51 rfl in_0 (WW E b μ a σ' [(o, la E 1 (hou F oo)), (d, da E 1 D)]) (by rw [e]; rfl) ?_
        refine g_goto X dL_exclude_17 24 rfl ?_
        refine g_iconst X dL_exclude_24 25 rfl (v := 0) rfl ?_
        exact g_iret X hr dL_exclude_25 () (by rw [e]; exact congrArg (fun x => some (Value.int x)) (show hcd [xIOB] (oI (bi false)) = 0 from rfl)) rfl
      · refine g_if_eq (x := 1) X dL_exclude_8 15 11 rfl rfl (fun c1 => absurd c1 (by decide)) (fun _ => ?_)
        refine g_lconst X dL_exclude_11 12 rfl (v := (1 : Int32).toInt64) rfl ?_
        refine g_goto X dL_exclude_12 16 rfl ?_
        refine g_last X dL_exclude_16 17 rfl 51 rfl in_0 (WW E b μ a σ' [(o, la E 1 (hou F oo)), (d, da E 1 D)]) (by rw [e]; rfl) ?_
        refine g_goto X dL_exclude_17 24 rfl ?_
        refine g_iconst X dL_exclude_24 25 rfl (v := 0) rfl ?_
        exact g_iret X hr dL_exclude_25 () (by rw [e]; exact congrArg (fun x => some (Value.int x)) (show hcd [xIOB] (oI (bi true)) = 0 from rfl)) rfl
    · rw [e] at hv; cases hv
  · rcases hV with ⟨r, e⟩ | ⟨c9, e, hcm⟩
    · rw [e] at hc; cases hc
    · obtain rfl : c9 = cls := by rw [e] at hc; exact Sum.inr.inj hc
      simp only [List.mem_cons, List.not_mem_nil, or_false] at hcm
      rcases hcm with rfl
      · refine gx_catch X hN (by decide) [] ⟨0, 17, 20, 13⟩ [] (hT.trans rfl) (fun _ h => absurd h List.not_mem_nil) rfl (by decide) Cl_L_13 Ca_IOB (fun q => ?_)
        refine g_astore X dL_exclude_20 22 rfl (by decide) [(4, .ref q), (0, .ref (a 0)), (1, .int x0), (2, .int (bi x1)), (3, .ref o)] rfl ?_
        refine g_iconst X dL_exclude_22 23 rfl (v := 1) rfl ?_
        exact g_iret X hr dL_exclude_23 () (by rw [e]; exact congrArg (fun x => some (Value.int x)) (show hcd [xIOB] (oX xIOB) = 1 from by decide +kernel)) (by rw [e]; rfl)

set_option maxHeartbeats 4000000 in
set_option maxRecDepth 100000 in
theorem k_L_setStranger (E : kE) (l : Launch) (b : Nat → Nat) (μ : Sto) (a : Nat → Nat) (σ σ' : Sto) (o d : Nat) (F : Nat → Int64) (D : Nat → UInt64) (x0 : Int32) (x1 : Bool) {fr lo : Nat} {oo : OT} (hM : KT E l yX6_setStranger cX6_setStranger 4 (some .boolean) fr lo 4 24 [.ref (a 0), .int x0, .int (bi x1)] (WW E b μ a σ [(o, la E 1 F), (d, da E 1 D)]) oo (WW E b μ a σ' [(o, la E 1 F), (d, da E 1 D)])) (hV : OVz [xIOB] oo) : KH E l yL_setStranger cL_setStranger 5 (some .int) [(0, 17, 20, 13)] (fr + 1) (8 + (4 + 11) + lo) 4 24 [.ref (a 0), .int x0, .int (bi x1), .ref o] (WW E b μ a σ [(o, la E 1 F), (d, da E 1 D)]) (some (.int (hcd [xIOB] oo))) (WW E b μ a σ' [(o, la E 1 (hou F oo)), (d, da E 1 D)]) := by
  refine KH_start (own := RL) (by decide +kernel) rfl [(0, .ref (a 0)), (1, .int x0), (2, .int (bi x1)), (3, .ref o)] rfl (Nat.le_of_ble_eq_true rfl) (fun p e s m below meth c X hr hT hZ hN => ?_)
  refine g_aload_n X dL_setStranger_0 1 rfl rfl ?_
  refine g_iconst X dL_setStranger_1 2 rfl (v := 0) rfl ?_
  refine g_aload_n X dL_setStranger_2 3 rfl rfl ?_
  refine g_iload_n X dL_setStranger_3 4 rfl rfl ?_
  refine g_iload_n X dL_setStranger_4 5 rfl rfl ?_
  refine g_callVT X hZ Lk_L_36 hM dL_setStranger_5 rfl 4 rfl (ci := 6) rfl rfl (Nat.le_of_ble_eq_true rfl) ⟨Nat.le_refl _, Nat.le_refl _⟩ ⟨(Nat.le_of_ble_eq_true rfl), (Nat.le_of_ble_eq_true rfl)⟩ (fun v hv => ?_) (fun cls hc => ?_)
  · rcases hV with ⟨zb, e⟩ | ⟨c9, e, -⟩
    · obtain rfl : v = some (.int (bi zb)) := by rw [e] at hv; exact (Sum.inl.inj hv).symm
      cases zb
      · refine g_if_eq (x := 0) X dL_setStranger_8 15 11 rfl rfl (fun _ => ?_) (fun c1 => absurd rfl c1)
        refine g_lconst X dL_setStranger_15 16 rfl (v := (0 : Int32).toInt64) rfl ?_
        refine g_last X dL_setStranger_16 17 rfl 51 rfl in_0 (WW E b μ a σ' [(o, la E 1 (hou F oo)), (d, da E 1 D)]) (by rw [e]; rfl) ?_
        refine g_goto X dL_setStranger_17 24 rfl ?_
        refine g_iconst X dL_setStranger_24 25 rfl (v := 0) rfl ?_
        exact g_iret X hr dL_setStranger_25 () (by rw [e]; exact congrArg (fun x => some (Value.int x)) (show hcd [xIOB] (oI (bi false)) = 0 from rfl)) rfl
      · refine g_if_eq (x := 1) X dL_setStranger_8 15 11 rfl rfl (fun c1 => absurd c1 (by decide)) (fun _ => ?_)
        refine g_lconst X dL_setStranger_11 12 rfl (v := (1 : Int32).toInt64) rfl ?_
        refine g_goto X dL_setStranger_12 16 rfl ?_
        refine g_last X dL_setStranger_16 17 rfl 51 rfl in_0 (WW E b μ a σ' [(o, la E 1 (hou F oo)), (d, da E 1 D)]) (by rw [e]; rfl) ?_
        refine g_goto X dL_setStranger_17 24 rfl ?_
        refine g_iconst X dL_setStranger_24 25 rfl (v := 0) rfl ?_
        exact g_iret X hr dL_setStranger_25 () (by rw [e]; exact congrArg (fun x => some (Value.int x)) (show hcd [xIOB] (oI (bi true)) = 0 from rfl)) rfl
    · rw [e] at hv; cases hv
  · rcases hV with ⟨r, e⟩ | ⟨c9, e, hcm⟩
    · rw [e] at hc; cases hc
    · obtain rfl : c9 = cls := by rw [e] at hc; exact Sum.inr.inj hc
      simp only [List.mem_cons, List.not_mem_nil, or_false] at hcm
      rcases hcm with rfl
      · refine gx_catch X hN (by decide) [] ⟨0, 17, 20, 13⟩ [] (hT.trans rfl) (fun _ h => absurd h List.not_mem_nil) rfl (by decide) Cl_L_13 Ca_IOB (fun q => ?_)
        refine g_astore X dL_setStranger_20 22 rfl (by decide) [(4, .ref q), (0, .ref (a 0)), (1, .int x0), (2, .int (bi x1)), (3, .ref o)] rfl ?_
        refine g_iconst X dL_setStranger_22 23 rfl (v := 1) rfl ?_
        exact g_iret X hr dL_setStranger_23 () (by rw [e]; exact congrArg (fun x => some (Value.int x)) (show hcd [xIOB] (oX xIOB) = 1 from by decide +kernel)) (by rw [e]; rfl)

set_option maxHeartbeats 4000000 in
set_option maxRecDepth 100000 in
theorem k_L_setHold (E : kE) (l : Launch) (b : Nat → Nat) (μ : Sto) (a : Nat → Nat) (σ σ' : Sto) (o d : Nat) (F : Nat → Int64) (D : Nat → UInt64) (x0 : Int32) {fr lo : Nat} {oo : OT} (hM : KT E l yX6_setHold cX6_setHold 3 (some .int) fr lo 4 24 [.ref (a 0), .int x0] (WW E b μ a σ [(o, la E 1 F), (d, da E 1 D)]) oo (WW E b μ a σ' [(o, la E 1 F), (d, da E 1 D)])) (hV : OV [xIAE] oo) : KH E l yL_setHold cL_setHold 4 (some .int) [(0, 9, 12, 15)] (fr + 1) (8 + (3 + 11) + lo) 4 24 [.ref (a 0), .int x0, .ref o] (WW E b μ a σ [(o, la E 1 F), (d, da E 1 D)]) (some (.int (hcd [xIAE] oo))) (WW E b μ a σ' [(o, la E 1 (hou F oo)), (d, da E 1 D)]) := by
  refine KH_start (own := RL) (by decide +kernel) rfl [(0, .ref (a 0)), (1, .int x0), (2, .ref o)] rfl (Nat.le_of_ble_eq_true rfl) (fun p e s m below meth c X hr hT hZ hN => ?_)
  refine g_aload_n X dL_setHold_0 1 rfl rfl ?_
  refine g_iconst X dL_setHold_1 2 rfl (v := 0) rfl ?_
  refine g_aload_n X dL_setHold_2 3 rfl rfl ?_
  refine g_iload_n X dL_setHold_3 4 rfl rfl ?_
  refine g_callVT X hZ Lk_L_39 hM dL_setHold_4 rfl 4 rfl (ci := 6) rfl rfl (Nat.le_of_ble_eq_true rfl) ⟨Nat.le_refl _, Nat.le_refl _⟩ ⟨(Nat.le_of_ble_eq_true rfl), (Nat.le_of_ble_eq_true rfl)⟩ (fun v hv => ?_) (fun cls hc => ?_)
  · rcases hV with ⟨r, e⟩ | ⟨c9, e, -⟩
    · obtain rfl : v = some (.int r) := by rw [e] at hv; exact (Sum.inl.inj hv).symm
      refine g_i2l X dL_setHold_7 8 rfl ?_
      refine g_last X dL_setHold_8 9 rfl 51 rfl in_0 (WW E b μ a σ' [(o, la E 1 (hou F oo)), (d, da E 1 D)]) (by rw [e]; rfl) ?_
      refine g_goto X dL_setHold_9 15 rfl ?_
      refine g_iconst X dL_setHold_15 16 rfl (v := 0) rfl ?_
      exact g_iret X hr dL_setHold_16 () (by rw [e]; exact congrArg (fun x => some (Value.int x)) (show hcd [xIAE] (oI r) = 0 from rfl)) rfl
    · rw [e] at hv; cases hv
  · rcases hV with ⟨r, e⟩ | ⟨c9, e, hcm⟩
    · rw [e] at hc; cases hc
    · obtain rfl : c9 = cls := by rw [e] at hc; exact Sum.inr.inj hc
      simp only [List.mem_cons, List.not_mem_nil, or_false] at hcm
      rcases hcm with rfl
      · refine gx_catch X hN (by decide) [] ⟨0, 9, 12, 15⟩ [] (hT.trans rfl) (fun _ h => absurd h List.not_mem_nil) rfl (by decide) Cl_L_15 Ca_IAE (fun q => ?_)
        refine g_astore_n X dL_setHold_12 13 rfl (by decide) [(3, .ref q), (0, .ref (a 0)), (1, .int x0), (2, .ref o)] rfl ?_
        refine g_iconst X dL_setHold_13 14 rfl (v := 1) rfl ?_
        exact g_iret X hr dL_setHold_14 () (by rw [e]; exact congrArg (fun x => some (Value.int x)) (show hcd [xIAE] (oX xIAE) = 1 from by decide +kernel)) (by rw [e]; rfl)

set_option maxHeartbeats 4000000 in
set_option maxRecDepth 100000 in
theorem k_L_setQuarantine (E : kE) (l : Launch) (b : Nat → Nat) (μ : Sto) (a : Nat → Nat) (σ σ' : Sto) (o d : Nat) (F : Nat → Int64) (D : Nat → UInt64) (x0 : Int32) {fr lo : Nat} {oo : OT} (hM : KT E l yX6_setQuarantine cX6_setQuarantine 3 (some .int) fr lo 4 24 [.ref (a 0), .int x0] (WW E b μ a σ [(o, la E 1 F), (d, da E 1 D)]) oo (WW E b μ a σ' [(o, la E 1 F), (d, da E 1 D)])) (hV : OV [xIAE] oo) : KH E l yL_setQuarantine cL_setQuarantine 4 (some .int) [(0, 9, 12, 15)] (fr + 1) (8 + (3 + 11) + lo) 4 24 [.ref (a 0), .int x0, .ref o] (WW E b μ a σ [(o, la E 1 F), (d, da E 1 D)]) (some (.int (hcd [xIAE] oo))) (WW E b μ a σ' [(o, la E 1 (hou F oo)), (d, da E 1 D)]) := by
  refine KH_start (own := RL) (by decide +kernel) rfl [(0, .ref (a 0)), (1, .int x0), (2, .ref o)] rfl (Nat.le_of_ble_eq_true rfl) (fun p e s m below meth c X hr hT hZ hN => ?_)
  refine g_aload_n X dL_setQuarantine_0 1 rfl rfl ?_
  refine g_iconst X dL_setQuarantine_1 2 rfl (v := 0) rfl ?_
  refine g_aload_n X dL_setQuarantine_2 3 rfl rfl ?_
  refine g_iload_n X dL_setQuarantine_3 4 rfl rfl ?_
  refine g_callVT X hZ Lk_L_42 hM dL_setQuarantine_4 rfl 4 rfl (ci := 6) rfl rfl (Nat.le_of_ble_eq_true rfl) ⟨Nat.le_refl _, Nat.le_refl _⟩ ⟨(Nat.le_of_ble_eq_true rfl), (Nat.le_of_ble_eq_true rfl)⟩ (fun v hv => ?_) (fun cls hc => ?_)
  · rcases hV with ⟨r, e⟩ | ⟨c9, e, -⟩
    · obtain rfl : v = some (.int r) := by rw [e] at hv; exact (Sum.inl.inj hv).symm
      refine g_i2l X dL_setQuarantine_7 8 rfl ?_
      refine g_last X dL_setQuarantine_8 9 rfl 51 rfl in_0 (WW E b μ a σ' [(o, la E 1 (hou F oo)), (d, da E 1 D)]) (by rw [e]; rfl) ?_
      refine g_goto X dL_setQuarantine_9 15 rfl ?_
      refine g_iconst X dL_setQuarantine_15 16 rfl (v := 0) rfl ?_
      exact g_iret X hr dL_setQuarantine_16 () (by rw [e]; exact congrArg (fun x => some (Value.int x)) (show hcd [xIAE] (oI r) = 0 from rfl)) rfl
    · rw [e] at hv; cases hv
  · rcases hV with ⟨r, e⟩ | ⟨c9, e, hcm⟩
    · rw [e] at hc; cases hc
    · obtain rfl : c9 = cls := by rw [e] at hc; exact Sum.inr.inj hc
      simp only [List.mem_cons, List.not_mem_nil, or_false] at hcm
      rcases hcm with rfl
      · refine gx_catch X hN (by decide) [] ⟨0, 9, 12, 15⟩ [] (hT.trans rfl) (fun _ h => absurd h List.not_mem_nil) rfl (by decide) Cl_L_15 Ca_IAE (fun q => ?_)
        refine g_astore_n X dL_setQuarantine_12 13 rfl (by decide) [(3, .ref q), (0, .ref (a 0)), (1, .int x0), (2, .ref o)] rfl ?_
        refine g_iconst X dL_setQuarantine_13 14 rfl (v := 1) rfl ?_
        exact g_iret X hr dL_setQuarantine_14 () (by rw [e]; exact congrArg (fun x => some (Value.int x)) (show hcd [xIAE] (oX xIAE) = 1 from by decide +kernel)) (by rw [e]; rfl)

set_option maxHeartbeats 4000000 in
set_option maxRecDepth 100000 in
theorem k_L_setDirect (E : kE) (l : Launch) (b : Nat → Nat) (μ : Sto) (a : Nat → Nat) (σ σ' : Sto) (o d : Nat) (F : Nat → Int64) (D : Nat → UInt64) (x0 : Int32) (x1 : Bool) {fr lo : Nat} {oo : OT} (hM : KT E l yX6_setDirect cX6_setDirect 4 (some .boolean) fr lo 4 24 [.ref (a 0), .int x0, .int (bi x1)] (WW E b μ a σ [(o, la E 1 F), (d, da E 1 D)]) oo (WW E b μ a σ' [(o, la E 1 F), (d, da E 1 D)])) (hV : OVz [xIOB] oo) : KH E l yL_setDirect cL_setDirect 5 (some .int) [(0, 17, 20, 13)] (fr + 1) (8 + (4 + 11) + lo) 4 24 [.ref (a 0), .int x0, .int (bi x1), .ref o] (WW E b μ a σ [(o, la E 1 F), (d, da E 1 D)]) (some (.int (hcd [xIOB] oo))) (WW E b μ a σ' [(o, la E 1 (hou F oo)), (d, da E 1 D)]) := by
  refine KH_start (own := RL) (by decide +kernel) rfl [(0, .ref (a 0)), (1, .int x0), (2, .int (bi x1)), (3, .ref o)] rfl (Nat.le_of_ble_eq_true rfl) (fun p e s m below meth c X hr hT hZ hN => ?_)
  refine g_aload_n X dL_setDirect_0 1 rfl rfl ?_
  refine g_iconst X dL_setDirect_1 2 rfl (v := 0) rfl ?_
  refine g_aload_n X dL_setDirect_2 3 rfl rfl ?_
  refine g_iload_n X dL_setDirect_3 4 rfl rfl ?_
  refine g_iload_n X dL_setDirect_4 5 rfl rfl ?_
  refine g_callVT X hZ Lk_L_45 hM dL_setDirect_5 rfl 4 rfl (ci := 6) rfl rfl (Nat.le_of_ble_eq_true rfl) ⟨Nat.le_refl _, Nat.le_refl _⟩ ⟨(Nat.le_of_ble_eq_true rfl), (Nat.le_of_ble_eq_true rfl)⟩ (fun v hv => ?_) (fun cls hc => ?_)
  · rcases hV with ⟨zb, e⟩ | ⟨c9, e, -⟩
    · obtain rfl : v = some (.int (bi zb)) := by rw [e] at hv; exact (Sum.inl.inj hv).symm
      cases zb
      · refine g_if_eq (x := 0) X dL_setDirect_8 15 11 rfl rfl (fun _ => ?_) (fun c1 => absurd rfl c1)
        refine g_lconst X dL_setDirect_15 16 rfl (v := (0 : Int32).toInt64) rfl ?_
        refine g_last X dL_setDirect_16 17 rfl 51 rfl in_0 (WW E b μ a σ' [(o, la E 1 (hou F oo)), (d, da E 1 D)]) (by rw [e]; rfl) ?_
        refine g_goto X dL_setDirect_17 24 rfl ?_
        refine g_iconst X dL_setDirect_24 25 rfl (v := 0) rfl ?_
        exact g_iret X hr dL_setDirect_25 () (by rw [e]; exact congrArg (fun x => some (Value.int x)) (show hcd [xIOB] (oI (bi false)) = 0 from rfl)) rfl
      · refine g_if_eq (x := 1) X dL_setDirect_8 15 11 rfl rfl (fun c1 => absurd c1 (by decide)) (fun _ => ?_)
        refine g_lconst X dL_setDirect_11 12 rfl (v := (1 : Int32).toInt64) rfl ?_
        refine g_goto X dL_setDirect_12 16 rfl ?_
        refine g_last X dL_setDirect_16 17 rfl 51 rfl in_0 (WW E b μ a σ' [(o, la E 1 (hou F oo)), (d, da E 1 D)]) (by rw [e]; rfl) ?_
        refine g_goto X dL_setDirect_17 24 rfl ?_
        refine g_iconst X dL_setDirect_24 25 rfl (v := 0) rfl ?_
        exact g_iret X hr dL_setDirect_25 () (by rw [e]; exact congrArg (fun x => some (Value.int x)) (show hcd [xIOB] (oI (bi true)) = 0 from rfl)) rfl
    · rw [e] at hv; cases hv
  · rcases hV with ⟨r, e⟩ | ⟨c9, e, hcm⟩
    · rw [e] at hc; cases hc
    · obtain rfl : c9 = cls := by rw [e] at hc; exact Sum.inr.inj hc
      simp only [List.mem_cons, List.not_mem_nil, or_false] at hcm
      rcases hcm with rfl
      · refine gx_catch X hN (by decide) [] ⟨0, 17, 20, 13⟩ [] (hT.trans rfl) (fun _ h => absurd h List.not_mem_nil) rfl (by decide) Cl_L_13 Ca_IOB (fun q => ?_)
        refine g_astore X dL_setDirect_20 22 rfl (by decide) [(4, .ref q), (0, .ref (a 0)), (1, .int x0), (2, .int (bi x1)), (3, .ref o)] rfl ?_
        refine g_iconst X dL_setDirect_22 23 rfl (v := 1) rfl ?_
        exact g_iret X hr dL_setDirect_23 () (by rw [e]; exact congrArg (fun x => some (Value.int x)) (show hcd [xIOB] (oX xIOB) = 1 from by decide +kernel)) (by rw [e]; rfl)

set_option maxHeartbeats 4000000 in
set_option maxRecDepth 100000 in
theorem k_L_setRelay (E : kE) (l : Launch) (b : Nat → Nat) (μ : Sto) (a : Nat → Nat) (σ σ' : Sto) (o d : Nat) (F : Nat → Int64) (D : Nat → UInt64) (x0 : Int32) (x1 : Bool) {fr lo : Nat} {oo : OT} (hM : KT E l yX6_setRelay cX6_setRelay 4 (some .boolean) fr lo 4 24 [.ref (a 0), .int x0, .int (bi x1)] (WW E b μ a σ [(o, la E 1 F), (d, da E 1 D)]) oo (WW E b μ a σ' [(o, la E 1 F), (d, da E 1 D)])) (hV : OVz [xIOB] oo) : KH E l yL_setRelay cL_setRelay 5 (some .int) [(0, 17, 20, 13)] (fr + 1) (8 + (4 + 11) + lo) 4 24 [.ref (a 0), .int x0, .int (bi x1), .ref o] (WW E b μ a σ [(o, la E 1 F), (d, da E 1 D)]) (some (.int (hcd [xIOB] oo))) (WW E b μ a σ' [(o, la E 1 (hou F oo)), (d, da E 1 D)]) := by
  refine KH_start (own := RL) (by decide +kernel) rfl [(0, .ref (a 0)), (1, .int x0), (2, .int (bi x1)), (3, .ref o)] rfl (Nat.le_of_ble_eq_true rfl) (fun p e s m below meth c X hr hT hZ hN => ?_)
  refine g_aload_n X dL_setRelay_0 1 rfl rfl ?_
  refine g_iconst X dL_setRelay_1 2 rfl (v := 0) rfl ?_
  refine g_aload_n X dL_setRelay_2 3 rfl rfl ?_
  refine g_iload_n X dL_setRelay_3 4 rfl rfl ?_
  refine g_iload_n X dL_setRelay_4 5 rfl rfl ?_
  refine g_callVT X hZ Lk_L_48 hM dL_setRelay_5 rfl 4 rfl (ci := 6) rfl rfl (Nat.le_of_ble_eq_true rfl) ⟨Nat.le_refl _, Nat.le_refl _⟩ ⟨(Nat.le_of_ble_eq_true rfl), (Nat.le_of_ble_eq_true rfl)⟩ (fun v hv => ?_) (fun cls hc => ?_)
  · rcases hV with ⟨zb, e⟩ | ⟨c9, e, -⟩
    · obtain rfl : v = some (.int (bi zb)) := by rw [e] at hv; exact (Sum.inl.inj hv).symm
      cases zb
      · refine g_if_eq (x := 0) X dL_setRelay_8 15 11 rfl rfl (fun _ => ?_) (fun c1 => absurd rfl c1)
        refine g_lconst X dL_setRelay_15 16 rfl (v := (0 : Int32).toInt64) rfl ?_
        refine g_last X dL_setRelay_16 17 rfl 51 rfl in_0 (WW E b μ a σ' [(o, la E 1 (hou F oo)), (d, da E 1 D)]) (by rw [e]; rfl) ?_
        refine g_goto X dL_setRelay_17 24 rfl ?_
        refine g_iconst X dL_setRelay_24 25 rfl (v := 0) rfl ?_
        exact g_iret X hr dL_setRelay_25 () (by rw [e]; exact congrArg (fun x => some (Value.int x)) (show hcd [xIOB] (oI (bi false)) = 0 from rfl)) rfl
      · refine g_if_eq (x := 1) X dL_setRelay_8 15 11 rfl rfl (fun c1 => absurd c1 (by decide)) (fun _ => ?_)
        refine g_lconst X dL_setRelay_11 12 rfl (v := (1 : Int32).toInt64) rfl ?_
        refine g_goto X dL_setRelay_12 16 rfl ?_
        refine g_last X dL_setRelay_16 17 rfl 51 rfl in_0 (WW E b μ a σ' [(o, la E 1 (hou F oo)), (d, da E 1 D)]) (by rw [e]; rfl) ?_
        refine g_goto X dL_setRelay_17 24 rfl ?_
        refine g_iconst X dL_setRelay_24 25 rfl (v := 0) rfl ?_
        exact g_iret X hr dL_setRelay_25 () (by rw [e]; exact congrArg (fun x => some (Value.int x)) (show hcd [xIOB] (oI (bi true)) = 0 from rfl)) rfl
    · rw [e] at hv; cases hv
  · rcases hV with ⟨r, e⟩ | ⟨c9, e, hcm⟩
    · rw [e] at hc; cases hc
    · obtain rfl : c9 = cls := by rw [e] at hc; exact Sum.inr.inj hc
      simp only [List.mem_cons, List.not_mem_nil, or_false] at hcm
      rcases hcm with rfl
      · refine gx_catch X hN (by decide) [] ⟨0, 17, 20, 13⟩ [] (hT.trans rfl) (fun _ h => absurd h List.not_mem_nil) rfl (by decide) Cl_L_13 Ca_IOB (fun q => ?_)
        refine g_astore X dL_setRelay_20 22 rfl (by decide) [(4, .ref q), (0, .ref (a 0)), (1, .int x0), (2, .int (bi x1)), (3, .ref o)] rfl ?_
        refine g_iconst X dL_setRelay_22 23 rfl (v := 1) rfl ?_
        exact g_iret X hr dL_setRelay_23 () (by rw [e]; exact congrArg (fun x => some (Value.int x)) (show hcd [xIOB] (oX xIOB) = 1 from by decide +kernel)) (by rw [e]; rfl)

set_option maxHeartbeats 4000000 in
set_option maxRecDepth 100000 in
theorem k_L_discover (E : kE) (l : Launch) (b : Nat → Nat) (μ : Sto) (a : Nat → Nat) (σ σ' : Sto) (o d : Nat) (F : Nat → Int64) (D : Nat → UInt64) (x0 : Int32) (x1 : Int32) (x2 : Int32) {fr lo : Nat} {oo : OT} (hM : KT E l yX6_discover cX6_discover 5 (some .int) fr lo 4 24 [.ref (a 0), .int x0, .int x1, .int x2] (WW E b μ a σ [(o, la E 1 F), (d, da E 1 D)]) oo (WW E b μ a σ' [(o, la E 1 F), (d, da E 1 D)])) (hV : OV [xIOB, xISE, xNSE] oo) : KH E l yL_discover cL_discover 6 (some .int) [(0, 12, 15, 13), (0, 12, 19, 17), (0, 12, 23, 30)] (fr + 1) (8 + (5 + 11) + lo) 4 24 [.ref (a 0), .int x0, .int x1, .int x2, .ref o] (WW E b μ a σ [(o, la E 1 F), (d, da E 1 D)]) (some (.int (hcd [xIOB, xISE, xNSE] oo))) (WW E b μ a σ' [(o, la E 1 (hou F oo)), (d, da E 1 D)]) := by
  refine KH_start (own := RL) (by decide +kernel) rfl [(0, .ref (a 0)), (1, .int x0), (2, .int x1), (3, .int x2), (4, .ref o)] rfl (Nat.le_of_ble_eq_true rfl) (fun p e s m below meth c X hr hT hZ hN => ?_)
  refine g_aload X dL_discover_0 2 rfl rfl ?_
  refine g_iconst X dL_discover_2 3 rfl (v := 0) rfl ?_
  refine g_aload_n X dL_discover_3 4 rfl rfl ?_
  refine g_iload_n X dL_discover_4 5 rfl rfl ?_
  refine g_iload_n X dL_discover_5 6 rfl rfl ?_
  refine g_iload_n X dL_discover_6 7 rfl rfl ?_
  refine g_callVT X hZ Lk_L_51 hM dL_discover_7 rfl 4 rfl (ci := 6) rfl rfl (Nat.le_of_ble_eq_true rfl) ⟨Nat.le_refl _, Nat.le_refl _⟩ ⟨(Nat.le_of_ble_eq_true rfl), (Nat.le_of_ble_eq_true rfl)⟩ (fun v hv => ?_) (fun cls hc => ?_)
  · rcases hV with ⟨r, e⟩ | ⟨c9, e, -⟩
    · obtain rfl : v = some (.int r) := by rw [e] at hv; exact (Sum.inl.inj hv).symm
      refine g_i2l X dL_discover_10 11 rfl ?_
      refine g_last X dL_discover_11 12 rfl 51 rfl in_0 (WW E b μ a σ' [(o, la E 1 (hou F oo)), (d, da E 1 D)]) (by rw [e]; rfl) ?_
      refine g_goto X dL_discover_12 27 rfl ?_
      refine g_iconst X dL_discover_27 28 rfl (v := 0) rfl ?_
      exact g_iret X hr dL_discover_28 () (by rw [e]; exact congrArg (fun x => some (Value.int x)) (show hcd [xIOB, xISE, xNSE] (oI r) = 0 from rfl)) rfl
    · rw [e] at hv; cases hv
  · rcases hV with ⟨r, e⟩ | ⟨c9, e, hcm⟩
    · rw [e] at hc; cases hc
    · obtain rfl : c9 = cls := by rw [e] at hc; exact Sum.inr.inj hc
      simp only [List.mem_cons, List.not_mem_nil, or_false] at hcm
      rcases hcm with rfl | rfl | rfl
      · refine gx_catch X hN (by decide) [] ⟨0, 12, 15, 13⟩ [⟨0, 12, 19, 17⟩, ⟨0, 12, 23, 30⟩] (hT.trans rfl) (fun _ h => absurd h List.not_mem_nil) rfl (by decide) Cl_L_13 Ca_IOB (fun q => ?_)
        refine g_astore X dL_discover_15 17 rfl (by decide) [(5, .ref q), (0, .ref (a 0)), (1, .int x0), (2, .int x1), (3, .int x2), (4, .ref o)] rfl ?_
        refine g_iconst X dL_discover_17 18 rfl (v := 1) rfl ?_
        exact g_iret X hr dL_discover_18 () (by rw [e]; exact congrArg (fun x => some (Value.int x)) (show hcd [xIOB, xISE, xNSE] (oX xIOB) = 1 from by decide +kernel)) (by rw [e]; rfl)
      · refine gx_catch X hN (by decide) [⟨0, 12, 15, 13⟩] ⟨0, 12, 19, 17⟩ [⟨0, 12, 23, 30⟩] (hT.trans rfl) (List.forall_mem_cons.mpr ⟨⟨by decide, xIOB, Cl_L_13, by decide, by decide⟩, fun _ h => absurd h List.not_mem_nil⟩) rfl (by decide) Cl_L_17 Ca_ISE (fun q => ?_)
        refine g_astore X dL_discover_19 21 rfl (by decide) [(5, .ref q), (0, .ref (a 0)), (1, .int x0), (2, .int x1), (3, .int x2), (4, .ref o)] rfl ?_
        refine g_iconst X dL_discover_21 22 rfl (v := 2) rfl ?_
        exact g_iret X hr dL_discover_22 () (by rw [e]; exact congrArg (fun x => some (Value.int x)) (show hcd [xIOB, xISE, xNSE] (oX xISE) = 2 from by decide +kernel)) (by rw [e]; rfl)
      · refine gx_catch X hN (by decide) [⟨0, 12, 15, 13⟩, ⟨0, 12, 19, 17⟩] ⟨0, 12, 23, 30⟩ [] (hT.trans rfl) (List.forall_mem_cons.mpr ⟨⟨by decide, xIOB, Cl_L_13, by decide, by decide⟩, List.forall_mem_cons.mpr ⟨⟨by decide, xISE, Cl_L_17, by decide, by decide⟩, fun _ h => absurd h List.not_mem_nil⟩⟩) rfl (by decide) Cl_L_30 Ca_NSE (fun q => ?_)
        refine g_astore X dL_discover_23 25 rfl (by decide) [(5, .ref q), (0, .ref (a 0)), (1, .int x0), (2, .int x1), (3, .int x2), (4, .ref o)] rfl ?_
        refine g_iconst X dL_discover_25 26 rfl (v := 3) rfl ?_
        exact g_iret X hr dL_discover_26 () (by rw [e]; exact congrArg (fun x => some (Value.int x)) (show hcd [xIOB, xISE, xNSE] (oX xNSE) = 3 from by decide +kernel)) (by rw [e]; rfl)

set_option maxHeartbeats 4000000 in
set_option maxRecDepth 100000 in
theorem k_L_accept (E : kE) (l : Launch) (b : Nat → Nat) (μ : Sto) (a : Nat → Nat) (σ σ' : Sto) (o d : Nat) (F : Nat → Int64) (D : Nat → UInt64) (x0 : Int32) {fr lo : Nat} {oo : OT} (hM : KT E l yX6_accept cX6_accept 2 (some .int) fr lo 4 24 [.ref (a 0), .int x0] (WW E b μ a σ [(o, la E 1 F), (d, da E 1 D)]) oo (WW E b μ a σ' [(o, la E 1 F), (d, da E 1 D)])) (hV : OV [xIOB, xNSE, xISE] oo) : KH E l yL_accept cL_accept 4 (some .int) [(0, 9, 12, 13), (0, 9, 15, 30), (0, 9, 18, 17)] (fr + 1) (8 + (2 + 11) + lo) 4 24 [.ref (a 0), .int x0, .ref o] (WW E b μ a σ [(o, la E 1 F), (d, da E 1 D)]) (some (.int (hcd [xIOB, xNSE, xISE] oo))) (WW E b μ a σ' [(o, la E 1 (hou F oo)), (d, da E 1 D)]) := by
  refine KH_start (own := RL) (by decide +kernel) rfl [(0, .ref (a 0)), (1, .int x0), (2, .ref o)] rfl (Nat.le_of_ble_eq_true rfl) (fun p e s m below meth c X hr hT hZ hN => ?_)
  refine g_aload_n X dL_accept_0 1 rfl rfl ?_
  refine g_iconst X dL_accept_1 2 rfl (v := 0) rfl ?_
  refine g_aload_n X dL_accept_2 3 rfl rfl ?_
  refine g_iload_n X dL_accept_3 4 rfl rfl ?_
  refine g_callVT X hZ Lk_L_55 hM dL_accept_4 rfl 4 rfl (ci := 6) rfl rfl (Nat.le_of_ble_eq_true rfl) ⟨Nat.le_refl _, Nat.le_refl _⟩ ⟨(Nat.le_of_ble_eq_true rfl), (Nat.le_of_ble_eq_true rfl)⟩ (fun v hv => ?_) (fun cls hc => ?_)
  · rcases hV with ⟨r, e⟩ | ⟨c9, e, -⟩
    · obtain rfl : v = some (.int r) := by rw [e] at hv; exact (Sum.inl.inj hv).symm
      refine g_i2l X dL_accept_7 8 rfl ?_
      refine g_last X dL_accept_8 9 rfl 51 rfl in_0 (WW E b μ a σ' [(o, la E 1 (hou F oo)), (d, da E 1 D)]) (by rw [e]; rfl) ?_
      refine g_goto X dL_accept_9 21 rfl ?_
      refine g_iconst X dL_accept_21 22 rfl (v := 0) rfl ?_
      exact g_iret X hr dL_accept_22 () (by rw [e]; exact congrArg (fun x => some (Value.int x)) (show hcd [xIOB, xNSE, xISE] (oI r) = 0 from rfl)) rfl
    · rw [e] at hv; cases hv
  · rcases hV with ⟨r, e⟩ | ⟨c9, e, hcm⟩
    · rw [e] at hc; cases hc
    · obtain rfl : c9 = cls := by rw [e] at hc; exact Sum.inr.inj hc
      simp only [List.mem_cons, List.not_mem_nil, or_false] at hcm
      rcases hcm with rfl | rfl | rfl
      · refine gx_catch X hN (by decide) [] ⟨0, 9, 12, 13⟩ [⟨0, 9, 15, 30⟩, ⟨0, 9, 18, 17⟩] (hT.trans rfl) (fun _ h => absurd h List.not_mem_nil) rfl (by decide) Cl_L_13 Ca_IOB (fun q => ?_)
        refine g_astore_n X dL_accept_12 13 rfl (by decide) [(3, .ref q), (0, .ref (a 0)), (1, .int x0), (2, .ref o)] rfl ?_
        refine g_iconst X dL_accept_13 14 rfl (v := 1) rfl ?_
        exact g_iret X hr dL_accept_14 () (by rw [e]; exact congrArg (fun x => some (Value.int x)) (show hcd [xIOB, xNSE, xISE] (oX xIOB) = 1 from by decide +kernel)) (by rw [e]; rfl)
      · refine gx_catch X hN (by decide) [⟨0, 9, 12, 13⟩] ⟨0, 9, 15, 30⟩ [⟨0, 9, 18, 17⟩] (hT.trans rfl) (List.forall_mem_cons.mpr ⟨⟨by decide, xIOB, Cl_L_13, by decide, by decide⟩, fun _ h => absurd h List.not_mem_nil⟩) rfl (by decide) Cl_L_30 Ca_NSE (fun q => ?_)
        refine g_astore_n X dL_accept_15 16 rfl (by decide) [(3, .ref q), (0, .ref (a 0)), (1, .int x0), (2, .ref o)] rfl ?_
        refine g_iconst X dL_accept_16 17 rfl (v := 2) rfl ?_
        exact g_iret X hr dL_accept_17 () (by rw [e]; exact congrArg (fun x => some (Value.int x)) (show hcd [xIOB, xNSE, xISE] (oX xNSE) = 2 from by decide +kernel)) (by rw [e]; rfl)
      · refine gx_catch X hN (by decide) [⟨0, 9, 12, 13⟩, ⟨0, 9, 15, 30⟩] ⟨0, 9, 18, 17⟩ [] (hT.trans rfl) (List.forall_mem_cons.mpr ⟨⟨by decide, xIOB, Cl_L_13, by decide, by decide⟩, List.forall_mem_cons.mpr ⟨⟨by decide, xNSE, Cl_L_30, by decide, by decide⟩, fun _ h => absurd h List.not_mem_nil⟩⟩) rfl (by decide) Cl_L_17 Ca_ISE (fun q => ?_)
        refine g_astore_n X dL_accept_18 19 rfl (by decide) [(3, .ref q), (0, .ref (a 0)), (1, .int x0), (2, .ref o)] rfl ?_
        refine g_iconst X dL_accept_19 20 rfl (v := 3) rfl ?_
        exact g_iret X hr dL_accept_20 () (by rw [e]; exact congrArg (fun x => some (Value.int x)) (show hcd [xIOB, xNSE, xISE] (oX xISE) = 3 from by decide +kernel)) (by rw [e]; rfl)

set_option maxHeartbeats 4000000 in
set_option maxRecDepth 100000 in
theorem k_L_release (E : kE) (l : Launch) (b : Nat → Nat) (μ : Sto) (a : Nat → Nat) (σ σ' : Sto) (o d : Nat) (F : Nat → Int64) (D : Nat → UInt64) (x0 : Int32) {fr lo : Nat} {oo : OT} (hM : KT E l yX6_release cX6_release 3 (some .int) fr lo 4 24 [.ref (a 0), .int x0] (WW E b μ a σ [(o, la E 1 F), (d, da E 1 D)]) oo (WW E b μ a σ' [(o, la E 1 F), (d, da E 1 D)])) (hV : OV [xIOB, xNSE] oo) : KH E l yL_release cL_release 4 (some .int) [(0, 9, 12, 13), (0, 9, 15, 30)] (fr + 1) (8 + (3 + 11) + lo) 4 24 [.ref (a 0), .int x0, .ref o] (WW E b μ a σ [(o, la E 1 F), (d, da E 1 D)]) (some (.int (hcd [xIOB, xNSE] oo))) (WW E b μ a σ' [(o, la E 1 (hou F oo)), (d, da E 1 D)]) := by
  refine KH_start (own := RL) (by decide +kernel) rfl [(0, .ref (a 0)), (1, .int x0), (2, .ref o)] rfl (Nat.le_of_ble_eq_true rfl) (fun p e s m below meth c X hr hT hZ hN => ?_)
  refine g_aload_n X dL_release_0 1 rfl rfl ?_
  refine g_iconst X dL_release_1 2 rfl (v := 0) rfl ?_
  refine g_aload_n X dL_release_2 3 rfl rfl ?_
  refine g_iload_n X dL_release_3 4 rfl rfl ?_
  refine g_callVT X hZ Lk_L_58 hM dL_release_4 rfl 4 rfl (ci := 6) rfl rfl (Nat.le_of_ble_eq_true rfl) ⟨Nat.le_refl _, Nat.le_refl _⟩ ⟨(Nat.le_of_ble_eq_true rfl), (Nat.le_of_ble_eq_true rfl)⟩ (fun v hv => ?_) (fun cls hc => ?_)
  · rcases hV with ⟨r, e⟩ | ⟨c9, e, -⟩
    · obtain rfl : v = some (.int r) := by rw [e] at hv; exact (Sum.inl.inj hv).symm
      refine g_i2l X dL_release_7 8 rfl ?_
      refine g_last X dL_release_8 9 rfl 51 rfl in_0 (WW E b μ a σ' [(o, la E 1 (hou F oo)), (d, da E 1 D)]) (by rw [e]; rfl) ?_
      refine g_goto X dL_release_9 18 rfl ?_
      refine g_iconst X dL_release_18 19 rfl (v := 0) rfl ?_
      exact g_iret X hr dL_release_19 () (by rw [e]; exact congrArg (fun x => some (Value.int x)) (show hcd [xIOB, xNSE] (oI r) = 0 from rfl)) rfl
    · rw [e] at hv; cases hv
  · rcases hV with ⟨r, e⟩ | ⟨c9, e, hcm⟩
    · rw [e] at hc; cases hc
    · obtain rfl : c9 = cls := by rw [e] at hc; exact Sum.inr.inj hc
      simp only [List.mem_cons, List.not_mem_nil, or_false] at hcm
      rcases hcm with rfl | rfl
      · refine gx_catch X hN (by decide) [] ⟨0, 9, 12, 13⟩ [⟨0, 9, 15, 30⟩] (hT.trans rfl) (fun _ h => absurd h List.not_mem_nil) rfl (by decide) Cl_L_13 Ca_IOB (fun q => ?_)
        refine g_astore_n X dL_release_12 13 rfl (by decide) [(3, .ref q), (0, .ref (a 0)), (1, .int x0), (2, .ref o)] rfl ?_
        refine g_iconst X dL_release_13 14 rfl (v := 1) rfl ?_
        exact g_iret X hr dL_release_14 () (by rw [e]; exact congrArg (fun x => some (Value.int x)) (show hcd [xIOB, xNSE] (oX xIOB) = 1 from by decide +kernel)) (by rw [e]; rfl)
      · refine gx_catch X hN (by decide) [⟨0, 9, 12, 13⟩] ⟨0, 9, 15, 30⟩ [] (hT.trans rfl) (List.forall_mem_cons.mpr ⟨⟨by decide, xIOB, Cl_L_13, by decide, by decide⟩, fun _ h => absurd h List.not_mem_nil⟩) rfl (by decide) Cl_L_30 Ca_NSE (fun q => ?_)
        refine g_astore_n X dL_release_15 16 rfl (by decide) [(3, .ref q), (0, .ref (a 0)), (1, .int x0), (2, .ref o)] rfl ?_
        refine g_iconst X dL_release_16 17 rfl (v := 2) rfl ?_
        exact g_iret X hr dL_release_17 () (by rw [e]; exact congrArg (fun x => some (Value.int x)) (show hcd [xIOB, xNSE] (oX xNSE) = 2 from by decide +kernel)) (by rw [e]; rfl)

set_option maxHeartbeats 4000000 in
set_option maxRecDepth 100000 in
theorem k_L_decline (E : kE) (l : Launch) (b : Nat → Nat) (μ : Sto) (a : Nat → Nat) (σ σ' : Sto) (o d : Nat) (F : Nat → Int64) (D : Nat → UInt64) (x0 : Int32) {fr lo : Nat} {oo : OT} (hM : KT E l yX6_decline cX6_decline 3 (some .int) fr lo 4 24 [.ref (a 0), .int x0] (WW E b μ a σ [(o, la E 1 F), (d, da E 1 D)]) oo (WW E b μ a σ' [(o, la E 1 F), (d, da E 1 D)])) (hV : OV [xIOB, xNSE] oo) : KH E l yL_decline cL_decline 4 (some .int) [(0, 9, 12, 13), (0, 9, 15, 30)] (fr + 1) (8 + (3 + 11) + lo) 4 24 [.ref (a 0), .int x0, .ref o] (WW E b μ a σ [(o, la E 1 F), (d, da E 1 D)]) (some (.int (hcd [xIOB, xNSE] oo))) (WW E b μ a σ' [(o, la E 1 (hou F oo)), (d, da E 1 D)]) := by
  refine KH_start (own := RL) (by decide +kernel) rfl [(0, .ref (a 0)), (1, .int x0), (2, .ref o)] rfl (Nat.le_of_ble_eq_true rfl) (fun p e s m below meth c X hr hT hZ hN => ?_)
  refine g_aload_n X dL_decline_0 1 rfl rfl ?_
  refine g_iconst X dL_decline_1 2 rfl (v := 0) rfl ?_
  refine g_aload_n X dL_decline_2 3 rfl rfl ?_
  refine g_iload_n X dL_decline_3 4 rfl rfl ?_
  refine g_callVT X hZ Lk_L_61 hM dL_decline_4 rfl 4 rfl (ci := 6) rfl rfl (Nat.le_of_ble_eq_true rfl) ⟨Nat.le_refl _, Nat.le_refl _⟩ ⟨(Nat.le_of_ble_eq_true rfl), (Nat.le_of_ble_eq_true rfl)⟩ (fun v hv => ?_) (fun cls hc => ?_)
  · rcases hV with ⟨r, e⟩ | ⟨c9, e, -⟩
    · obtain rfl : v = some (.int r) := by rw [e] at hv; exact (Sum.inl.inj hv).symm
      refine g_i2l X dL_decline_7 8 rfl ?_
      refine g_last X dL_decline_8 9 rfl 51 rfl in_0 (WW E b μ a σ' [(o, la E 1 (hou F oo)), (d, da E 1 D)]) (by rw [e]; rfl) ?_
      refine g_goto X dL_decline_9 18 rfl ?_
      refine g_iconst X dL_decline_18 19 rfl (v := 0) rfl ?_
      exact g_iret X hr dL_decline_19 () (by rw [e]; exact congrArg (fun x => some (Value.int x)) (show hcd [xIOB, xNSE] (oI r) = 0 from rfl)) rfl
    · rw [e] at hv; cases hv
  · rcases hV with ⟨r, e⟩ | ⟨c9, e, hcm⟩
    · rw [e] at hc; cases hc
    · obtain rfl : c9 = cls := by rw [e] at hc; exact Sum.inr.inj hc
      simp only [List.mem_cons, List.not_mem_nil, or_false] at hcm
      rcases hcm with rfl | rfl
      · refine gx_catch X hN (by decide) [] ⟨0, 9, 12, 13⟩ [⟨0, 9, 15, 30⟩] (hT.trans rfl) (fun _ h => absurd h List.not_mem_nil) rfl (by decide) Cl_L_13 Ca_IOB (fun q => ?_)
        refine g_astore_n X dL_decline_12 13 rfl (by decide) [(3, .ref q), (0, .ref (a 0)), (1, .int x0), (2, .ref o)] rfl ?_
        refine g_iconst X dL_decline_13 14 rfl (v := 1) rfl ?_
        exact g_iret X hr dL_decline_14 () (by rw [e]; exact congrArg (fun x => some (Value.int x)) (show hcd [xIOB, xNSE] (oX xIOB) = 1 from by decide +kernel)) (by rw [e]; rfl)
      · refine gx_catch X hN (by decide) [⟨0, 9, 12, 13⟩] ⟨0, 9, 15, 30⟩ [] (hT.trans rfl) (List.forall_mem_cons.mpr ⟨⟨by decide, xIOB, Cl_L_13, by decide, by decide⟩, fun _ h => absurd h List.not_mem_nil⟩) rfl (by decide) Cl_L_30 Ca_NSE (fun q => ?_)
        refine g_astore_n X dL_decline_15 16 rfl (by decide) [(3, .ref q), (0, .ref (a 0)), (1, .int x0), (2, .ref o)] rfl ?_
        refine g_iconst X dL_decline_16 17 rfl (v := 2) rfl ?_
        exact g_iret X hr dL_decline_17 () (by rw [e]; exact congrArg (fun x => some (Value.int x)) (show hcd [xIOB, xNSE] (oX xNSE) = 2 from by decide +kernel)) (by rw [e]; rfl)

set_option maxHeartbeats 4000000 in
set_option maxRecDepth 100000 in
theorem k_L_renew (E : kE) (l : Launch) (b : Nat → Nat) (μ : Sto) (a : Nat → Nat) (σ σ' : Sto) (o d : Nat) (F : Nat → Int64) (D : Nat → UInt64) (x0 : Int32) {fr lo : Nat} {oo : OT} (hM : KT E l yX6_renew cX6_renew 2 (some .boolean) fr lo 4 24 [.ref (a 0), .int x0] (WW E b μ a σ [(o, la E 1 F), (d, da E 1 D)]) oo (WW E b μ a σ' [(o, la E 1 F), (d, da E 1 D)])) (hV : OVz [xIOB, xNSE, xISE] oo) : KH E l yL_renew cL_renew 4 (some .int) [(0, 16, 19, 13), (0, 16, 22, 30), (0, 16, 25, 17)] (fr + 1) (8 + (2 + 11) + lo) 4 24 [.ref (a 0), .int x0, .ref o] (WW E b μ a σ [(o, la E 1 F), (d, da E 1 D)]) (some (.int (hcd [xIOB, xNSE, xISE] oo))) (WW E b μ a σ' [(o, la E 1 (hou F oo)), (d, da E 1 D)]) := by
  refine KH_start (own := RL) (by decide +kernel) rfl [(0, .ref (a 0)), (1, .int x0), (2, .ref o)] rfl (Nat.le_of_ble_eq_true rfl) (fun p e s m below meth c X hr hT hZ hN => ?_)
  refine g_aload_n X dL_renew_0 1 rfl rfl ?_
  refine g_iconst X dL_renew_1 2 rfl (v := 0) rfl ?_
  refine g_aload_n X dL_renew_2 3 rfl rfl ?_
  refine g_iload_n X dL_renew_3 4 rfl rfl ?_
  refine g_callVT X hZ Lk_L_64 hM dL_renew_4 rfl 4 rfl (ci := 6) rfl rfl (Nat.le_of_ble_eq_true rfl) ⟨Nat.le_refl _, Nat.le_refl _⟩ ⟨(Nat.le_of_ble_eq_true rfl), (Nat.le_of_ble_eq_true rfl)⟩ (fun v hv => ?_) (fun cls hc => ?_)
  · rcases hV with ⟨zb, e⟩ | ⟨c9, e, -⟩
    · obtain rfl : v = some (.int (bi zb)) := by rw [e] at hv; exact (Sum.inl.inj hv).symm
      cases zb
      · refine g_if_eq (x := 0) X dL_renew_7 14 10 rfl rfl (fun _ => ?_) (fun c1 => absurd rfl c1)
        refine g_lconst X dL_renew_14 15 rfl (v := (0 : Int32).toInt64) rfl ?_
        refine g_last X dL_renew_15 16 rfl 51 rfl in_0 (WW E b μ a σ' [(o, la E 1 (hou F oo)), (d, da E 1 D)]) (by rw [e]; rfl) ?_
        refine g_goto X dL_renew_16 28 rfl ?_
        refine g_iconst X dL_renew_28 29 rfl (v := 0) rfl ?_
        exact g_iret X hr dL_renew_29 () (by rw [e]; exact congrArg (fun x => some (Value.int x)) (show hcd [xIOB, xNSE, xISE] (oI (bi false)) = 0 from rfl)) rfl
      · refine g_if_eq (x := 1) X dL_renew_7 14 10 rfl rfl (fun c1 => absurd c1 (by decide)) (fun _ => ?_)
        refine g_lconst X dL_renew_10 11 rfl (v := (1 : Int32).toInt64) rfl ?_
        refine g_goto X dL_renew_11 15 rfl ?_
        refine g_last X dL_renew_15 16 rfl 51 rfl in_0 (WW E b μ a σ' [(o, la E 1 (hou F oo)), (d, da E 1 D)]) (by rw [e]; rfl) ?_
        refine g_goto X dL_renew_16 28 rfl ?_
        refine g_iconst X dL_renew_28 29 rfl (v := 0) rfl ?_
        exact g_iret X hr dL_renew_29 () (by rw [e]; exact congrArg (fun x => some (Value.int x)) (show hcd [xIOB, xNSE, xISE] (oI (bi true)) = 0 from rfl)) rfl
    · rw [e] at hv; cases hv
  · rcases hV with ⟨r, e⟩ | ⟨c9, e, hcm⟩
    · rw [e] at hc; cases hc
    · obtain rfl : c9 = cls := by rw [e] at hc; exact Sum.inr.inj hc
      simp only [List.mem_cons, List.not_mem_nil, or_false] at hcm
      rcases hcm with rfl | rfl | rfl
      · refine gx_catch X hN (by decide) [] ⟨0, 16, 19, 13⟩ [⟨0, 16, 22, 30⟩, ⟨0, 16, 25, 17⟩] (hT.trans rfl) (fun _ h => absurd h List.not_mem_nil) rfl (by decide) Cl_L_13 Ca_IOB (fun q => ?_)
        refine g_astore_n X dL_renew_19 20 rfl (by decide) [(3, .ref q), (0, .ref (a 0)), (1, .int x0), (2, .ref o)] rfl ?_
        refine g_iconst X dL_renew_20 21 rfl (v := 1) rfl ?_
        exact g_iret X hr dL_renew_21 () (by rw [e]; exact congrArg (fun x => some (Value.int x)) (show hcd [xIOB, xNSE, xISE] (oX xIOB) = 1 from by decide +kernel)) (by rw [e]; rfl)
      · refine gx_catch X hN (by decide) [⟨0, 16, 19, 13⟩] ⟨0, 16, 22, 30⟩ [⟨0, 16, 25, 17⟩] (hT.trans rfl) (List.forall_mem_cons.mpr ⟨⟨by decide, xIOB, Cl_L_13, by decide, by decide⟩, fun _ h => absurd h List.not_mem_nil⟩) rfl (by decide) Cl_L_30 Ca_NSE (fun q => ?_)
        refine g_astore_n X dL_renew_22 23 rfl (by decide) [(3, .ref q), (0, .ref (a 0)), (1, .int x0), (2, .ref o)] rfl ?_
        refine g_iconst X dL_renew_23 24 rfl (v := 2) rfl ?_
        exact g_iret X hr dL_renew_24 () (by rw [e]; exact congrArg (fun x => some (Value.int x)) (show hcd [xIOB, xNSE, xISE] (oX xNSE) = 2 from by decide +kernel)) (by rw [e]; rfl)
      · refine gx_catch X hN (by decide) [⟨0, 16, 19, 13⟩, ⟨0, 16, 22, 30⟩] ⟨0, 16, 25, 17⟩ [] (hT.trans rfl) (List.forall_mem_cons.mpr ⟨⟨by decide, xIOB, Cl_L_13, by decide, by decide⟩, List.forall_mem_cons.mpr ⟨⟨by decide, xNSE, Cl_L_30, by decide, by decide⟩, fun _ h => absurd h List.not_mem_nil⟩⟩) rfl (by decide) Cl_L_17 Ca_ISE (fun q => ?_)
        refine g_astore_n X dL_renew_25 26 rfl (by decide) [(3, .ref q), (0, .ref (a 0)), (1, .int x0), (2, .ref o)] rfl ?_
        refine g_iconst X dL_renew_26 27 rfl (v := 3) rfl ?_
        exact g_iret X hr dL_renew_27 () (by rw [e]; exact congrArg (fun x => some (Value.int x)) (show hcd [xIOB, xNSE, xISE] (oX xISE) = 3 from by decide +kernel)) (by rw [e]; rfl)

set_option maxHeartbeats 4000000 in
set_option maxRecDepth 100000 in
theorem k_L_advance (E : kE) (l : Launch) (b : Nat → Nat) (μ : Sto) (a : Nat → Nat) (σ σ' : Sto) (o d : Nat) (F : Nat → Int64) (D : Nat → UInt64) (x0 : Int32) {fr lo : Nat} {oo : OT} (hM : KT E l yX6_advance cX6_advance 3 (some .int) fr lo 4 24 [.ref (a 0), .int x0] (WW E b μ a σ [(o, la E 1 F), (d, da E 1 D)]) oo (WW E b μ a σ' [(o, la E 1 F), (d, da E 1 D)])) (hV : OV [xIAE, xISE] oo) : KH E l yL_advance cL_advance 4 (some .int) [(0, 9, 12, 15), (0, 9, 15, 17)] (fr + 1) (8 + (3 + 11) + lo) 4 24 [.ref (a 0), .int x0, .ref o] (WW E b μ a σ [(o, la E 1 F), (d, da E 1 D)]) (some (.int (hcd [xIAE, xISE] oo))) (WW E b μ a σ' [(o, la E 1 (hou F oo)), (d, da E 1 D)]) := by
  refine KH_start (own := RL) (by decide +kernel) rfl [(0, .ref (a 0)), (1, .int x0), (2, .ref o)] rfl (Nat.le_of_ble_eq_true rfl) (fun p e s m below meth c X hr hT hZ hN => ?_)
  refine g_aload_n X dL_advance_0 1 rfl rfl ?_
  refine g_iconst X dL_advance_1 2 rfl (v := 0) rfl ?_
  refine g_aload_n X dL_advance_2 3 rfl rfl ?_
  refine g_iload_n X dL_advance_3 4 rfl rfl ?_
  refine g_callVT X hZ Lk_L_68 hM dL_advance_4 rfl 4 rfl (ci := 6) rfl rfl (Nat.le_of_ble_eq_true rfl) ⟨Nat.le_refl _, Nat.le_refl _⟩ ⟨(Nat.le_of_ble_eq_true rfl), (Nat.le_of_ble_eq_true rfl)⟩ (fun v hv => ?_) (fun cls hc => ?_)
  · rcases hV with ⟨r, e⟩ | ⟨c9, e, -⟩
    · obtain rfl : v = some (.int r) := by rw [e] at hv; exact (Sum.inl.inj hv).symm
      refine g_i2l X dL_advance_7 8 rfl ?_
      refine g_last X dL_advance_8 9 rfl 51 rfl in_0 (WW E b μ a σ' [(o, la E 1 (hou F oo)), (d, da E 1 D)]) (by rw [e]; rfl) ?_
      refine g_goto X dL_advance_9 18 rfl ?_
      refine g_iconst X dL_advance_18 19 rfl (v := 0) rfl ?_
      exact g_iret X hr dL_advance_19 () (by rw [e]; exact congrArg (fun x => some (Value.int x)) (show hcd [xIAE, xISE] (oI r) = 0 from rfl)) rfl
    · rw [e] at hv; cases hv
  · rcases hV with ⟨r, e⟩ | ⟨c9, e, hcm⟩
    · rw [e] at hc; cases hc
    · obtain rfl : c9 = cls := by rw [e] at hc; exact Sum.inr.inj hc
      simp only [List.mem_cons, List.not_mem_nil, or_false] at hcm
      rcases hcm with rfl | rfl
      · refine gx_catch X hN (by decide) [] ⟨0, 9, 12, 15⟩ [⟨0, 9, 15, 17⟩] (hT.trans rfl) (fun _ h => absurd h List.not_mem_nil) rfl (by decide) Cl_L_15 Ca_IAE (fun q => ?_)
        refine g_astore_n X dL_advance_12 13 rfl (by decide) [(3, .ref q), (0, .ref (a 0)), (1, .int x0), (2, .ref o)] rfl ?_
        refine g_iconst X dL_advance_13 14 rfl (v := 1) rfl ?_
        exact g_iret X hr dL_advance_14 () (by rw [e]; exact congrArg (fun x => some (Value.int x)) (show hcd [xIAE, xISE] (oX xIAE) = 1 from by decide +kernel)) (by rw [e]; rfl)
      · refine gx_catch X hN (by decide) [⟨0, 9, 12, 15⟩] ⟨0, 9, 15, 17⟩ [] (hT.trans rfl) (List.forall_mem_cons.mpr ⟨⟨by decide, xIAE, Cl_L_15, by decide, by decide⟩, fun _ h => absurd h List.not_mem_nil⟩) rfl (by decide) Cl_L_17 Ca_ISE (fun q => ?_)
        refine g_astore_n X dL_advance_15 16 rfl (by decide) [(3, .ref q), (0, .ref (a 0)), (1, .int x0), (2, .ref o)] rfl ?_
        refine g_iconst X dL_advance_16 17 rfl (v := 2) rfl ?_
        exact g_iret X hr dL_advance_17 () (by rw [e]; exact congrArg (fun x => some (Value.int x)) (show hcd [xIAE, xISE] (oX xISE) = 2 from by decide +kernel)) (by rw [e]; rfl)

set_option maxHeartbeats 4000000 in
set_option maxRecDepth 100000 in
theorem k_L_advanceToEvent (E : kE) (l : Launch) (b : Nat → Nat) (μ : Sto) (a : Nat → Nat) (σ σ' : Sto) (o d : Nat) (F : Nat → Int64) (D : Nat → UInt64) {fr lo : Nat} {oo : OT} (hM : KT E l yX6_advanceToEvent cX6_advanceToEvent 3 (some .int) fr lo 4 24 [.ref (a 0)] (WW E b μ a σ [(o, la E 1 F), (d, da E 1 D)]) oo (WW E b μ a σ' [(o, la E 1 F), (d, da E 1 D)])) (hV : OV [xNSE, xISE] oo) : KH E l yL_advanceToEvent cL_advanceToEvent 3 (some .int) [(0, 8, 11, 30), (0, 8, 14, 17)] (fr + 1) (8 + (3 + 11) + lo) 4 24 [.ref (a 0), .ref o] (WW E b μ a σ [(o, la E 1 F), (d, da E 1 D)]) (some (.int (hcd [xNSE, xISE] oo))) (WW E b μ a σ' [(o, la E 1 (hou F oo)), (d, da E 1 D)]) := by
  refine KH_start (own := RL) (by decide +kernel) rfl [(0, .ref (a 0)), (1, .ref o)] rfl (Nat.le_of_ble_eq_true rfl) (fun p e s m below meth c X hr hT hZ hN => ?_)
  refine g_aload_n X dL_advanceToEvent_0 1 rfl rfl ?_
  refine g_iconst X dL_advanceToEvent_1 2 rfl (v := 0) rfl ?_
  refine g_aload_n X dL_advanceToEvent_2 3 rfl rfl ?_
  refine g_callVT X hZ Lk_L_71 hM dL_advanceToEvent_3 rfl 4 rfl (ci := 6) rfl rfl (Nat.le_of_ble_eq_true rfl) ⟨Nat.le_refl _, Nat.le_refl _⟩ ⟨(Nat.le_of_ble_eq_true rfl), (Nat.le_of_ble_eq_true rfl)⟩ (fun v hv => ?_) (fun cls hc => ?_)
  · rcases hV with ⟨r, e⟩ | ⟨c9, e, -⟩
    · obtain rfl : v = some (.int r) := by rw [e] at hv; exact (Sum.inl.inj hv).symm
      refine g_i2l X dL_advanceToEvent_6 7 rfl ?_
      refine g_last X dL_advanceToEvent_7 8 rfl 51 rfl in_0 (WW E b μ a σ' [(o, la E 1 (hou F oo)), (d, da E 1 D)]) (by rw [e]; rfl) ?_
      refine g_goto X dL_advanceToEvent_8 17 rfl ?_
      refine g_iconst X dL_advanceToEvent_17 18 rfl (v := 0) rfl ?_
      exact g_iret X hr dL_advanceToEvent_18 () (by rw [e]; exact congrArg (fun x => some (Value.int x)) (show hcd [xNSE, xISE] (oI r) = 0 from rfl)) rfl
    · rw [e] at hv; cases hv
  · rcases hV with ⟨r, e⟩ | ⟨c9, e, hcm⟩
    · rw [e] at hc; cases hc
    · obtain rfl : c9 = cls := by rw [e] at hc; exact Sum.inr.inj hc
      simp only [List.mem_cons, List.not_mem_nil, or_false] at hcm
      rcases hcm with rfl | rfl
      · refine gx_catch X hN (by decide) [] ⟨0, 8, 11, 30⟩ [⟨0, 8, 14, 17⟩] (hT.trans rfl) (fun _ h => absurd h List.not_mem_nil) rfl (by decide) Cl_L_30 Ca_NSE (fun q => ?_)
        refine g_astore_n X dL_advanceToEvent_11 12 rfl (by decide) [(2, .ref q), (0, .ref (a 0)), (1, .ref o)] rfl ?_
        refine g_iconst X dL_advanceToEvent_12 13 rfl (v := 1) rfl ?_
        exact g_iret X hr dL_advanceToEvent_13 () (by rw [e]; exact congrArg (fun x => some (Value.int x)) (show hcd [xNSE, xISE] (oX xNSE) = 1 from by decide +kernel)) (by rw [e]; rfl)
      · refine gx_catch X hN (by decide) [⟨0, 8, 11, 30⟩] ⟨0, 8, 14, 17⟩ [] (hT.trans rfl) (List.forall_mem_cons.mpr ⟨⟨by decide, xNSE, Cl_L_30, by decide, by decide⟩, fun _ h => absurd h List.not_mem_nil⟩) rfl (by decide) Cl_L_17 Ca_ISE (fun q => ?_)
        refine g_astore_n X dL_advanceToEvent_14 15 rfl (by decide) [(2, .ref q), (0, .ref (a 0)), (1, .ref o)] rfl ?_
        refine g_iconst X dL_advanceToEvent_15 16 rfl (v := 2) rfl ?_
        exact g_iret X hr dL_advanceToEvent_16 () (by rw [e]; exact congrArg (fun x => some (Value.int x)) (show hcd [xNSE, xISE] (oX xISE) = 2 from by decide +kernel)) (by rw [e]; rfl)

set_option maxHeartbeats 4000000 in
set_option maxRecDepth 100000 in
theorem k_L_clientState (E : kE) (l : Launch) (b : Nat → Nat) (μ : Sto) (a : Nat → Nat) (σ σ' : Sto) (o d : Nat) (F : Nat → Int64) (D : Nat → UInt64) (x0 : Int32) {fr lo : Nat} {oo : OT} (hM : KT E l yX6_clientState cX6_clientState 2 (some .int) fr lo 4 24 [.ref (a 0), .int x0] (WW E b μ a σ [(o, la E 1 F), (d, da E 1 D)]) oo (WW E b μ a σ' [(o, la E 1 F), (d, da E 1 D)])) (hV : OV [xIOB] oo) : KH E l yL_clientState cL_clientState 4 (some .int) [(0, 9, 12, 13)] (fr + 1) (8 + (2 + 11) + lo) 4 24 [.ref (a 0), .int x0, .ref o] (WW E b μ a σ [(o, la E 1 F), (d, da E 1 D)]) (some (.int (hcd [xIOB] oo))) (WW E b μ a σ' [(o, la E 1 (hou F oo)), (d, da E 1 D)]) := by
  refine KH_start (own := RL) (by decide +kernel) rfl [(0, .ref (a 0)), (1, .int x0), (2, .ref o)] rfl (Nat.le_of_ble_eq_true rfl) (fun p e s m below meth c X hr hT hZ hN => ?_)
  refine g_aload_n X dL_clientState_0 1 rfl rfl ?_
  refine g_iconst X dL_clientState_1 2 rfl (v := 0) rfl ?_
  refine g_aload_n X dL_clientState_2 3 rfl rfl ?_
  refine g_iload_n X dL_clientState_3 4 rfl rfl ?_
  refine g_callVT X hZ Lk_L_75 hM dL_clientState_4 rfl 4 rfl (ci := 6) rfl rfl (Nat.le_of_ble_eq_true rfl) ⟨Nat.le_refl _, Nat.le_refl _⟩ ⟨(Nat.le_of_ble_eq_true rfl), (Nat.le_of_ble_eq_true rfl)⟩ (fun v hv => ?_) (fun cls hc => ?_)
  · rcases hV with ⟨r, e⟩ | ⟨c9, e, -⟩
    · obtain rfl : v = some (.int r) := by rw [e] at hv; exact (Sum.inl.inj hv).symm
      refine g_i2l X dL_clientState_7 8 rfl ?_
      refine g_last X dL_clientState_8 9 rfl 51 rfl in_0 (WW E b μ a σ' [(o, la E 1 (hou F oo)), (d, da E 1 D)]) (by rw [e]; rfl) ?_
      refine g_goto X dL_clientState_9 15 rfl ?_
      refine g_iconst X dL_clientState_15 16 rfl (v := 0) rfl ?_
      exact g_iret X hr dL_clientState_16 () (by rw [e]; exact congrArg (fun x => some (Value.int x)) (show hcd [xIOB] (oI r) = 0 from rfl)) rfl
    · rw [e] at hv; cases hv
  · rcases hV with ⟨r, e⟩ | ⟨c9, e, hcm⟩
    · rw [e] at hc; cases hc
    · obtain rfl : c9 = cls := by rw [e] at hc; exact Sum.inr.inj hc
      simp only [List.mem_cons, List.not_mem_nil, or_false] at hcm
      rcases hcm with rfl
      · refine gx_catch X hN (by decide) [] ⟨0, 9, 12, 13⟩ [] (hT.trans rfl) (fun _ h => absurd h List.not_mem_nil) rfl (by decide) Cl_L_13 Ca_IOB (fun q => ?_)
        refine g_astore_n X dL_clientState_12 13 rfl (by decide) [(3, .ref q), (0, .ref (a 0)), (1, .int x0), (2, .ref o)] rfl ?_
        refine g_iconst X dL_clientState_13 14 rfl (v := 1) rfl ?_
        exact g_iret X hr dL_clientState_14 () (by rw [e]; exact congrArg (fun x => some (Value.int x)) (show hcd [xIOB] (oX xIOB) = 1 from by decide +kernel)) (by rw [e]; rfl)

set_option maxHeartbeats 4000000 in
set_option maxRecDepth 100000 in
theorem k_L_addressOf (E : kE) (l : Launch) (b : Nat → Nat) (μ : Sto) (a : Nat → Nat) (σ σ' : Sto) (o d : Nat) (F : Nat → Int64) (D : Nat → UInt64) (x0 : Int32) {fr lo : Nat} {oo : OT} (hM : KT E l yX6_addressOf cX6_addressOf 2 (some .int) fr lo 4 24 [.ref (a 0), .int x0] (WW E b μ a σ [(o, la E 1 F), (d, da E 1 D)]) oo (WW E b μ a σ' [(o, la E 1 F), (d, da E 1 D)])) (hV : OV [xIOB, xNSE] oo) : KH E l yL_addressOf cL_addressOf 4 (some .int) [(0, 9, 12, 13), (0, 9, 15, 30)] (fr + 1) (8 + (2 + 11) + lo) 4 24 [.ref (a 0), .int x0, .ref o] (WW E b μ a σ [(o, la E 1 F), (d, da E 1 D)]) (some (.int (hcd [xIOB, xNSE] oo))) (WW E b μ a σ' [(o, la E 1 (hou F oo)), (d, da E 1 D)]) := by
  refine KH_start (own := RL) (by decide +kernel) rfl [(0, .ref (a 0)), (1, .int x0), (2, .ref o)] rfl (Nat.le_of_ble_eq_true rfl) (fun p e s m below meth c X hr hT hZ hN => ?_)
  refine g_aload_n X dL_addressOf_0 1 rfl rfl ?_
  refine g_iconst X dL_addressOf_1 2 rfl (v := 0) rfl ?_
  refine g_aload_n X dL_addressOf_2 3 rfl rfl ?_
  refine g_iload_n X dL_addressOf_3 4 rfl rfl ?_
  refine g_callVT X hZ Lk_L_78 hM dL_addressOf_4 rfl 4 rfl (ci := 6) rfl rfl (Nat.le_of_ble_eq_true rfl) ⟨Nat.le_refl _, Nat.le_refl _⟩ ⟨(Nat.le_of_ble_eq_true rfl), (Nat.le_of_ble_eq_true rfl)⟩ (fun v hv => ?_) (fun cls hc => ?_)
  · rcases hV with ⟨r, e⟩ | ⟨c9, e, -⟩
    · obtain rfl : v = some (.int r) := by rw [e] at hv; exact (Sum.inl.inj hv).symm
      refine g_i2l X dL_addressOf_7 8 rfl ?_
      refine g_last X dL_addressOf_8 9 rfl 51 rfl in_0 (WW E b μ a σ' [(o, la E 1 (hou F oo)), (d, da E 1 D)]) (by rw [e]; rfl) ?_
      refine g_goto X dL_addressOf_9 18 rfl ?_
      refine g_iconst X dL_addressOf_18 19 rfl (v := 0) rfl ?_
      exact g_iret X hr dL_addressOf_19 () (by rw [e]; exact congrArg (fun x => some (Value.int x)) (show hcd [xIOB, xNSE] (oI r) = 0 from rfl)) rfl
    · rw [e] at hv; cases hv
  · rcases hV with ⟨r, e⟩ | ⟨c9, e, hcm⟩
    · rw [e] at hc; cases hc
    · obtain rfl : c9 = cls := by rw [e] at hc; exact Sum.inr.inj hc
      simp only [List.mem_cons, List.not_mem_nil, or_false] at hcm
      rcases hcm with rfl | rfl
      · refine gx_catch X hN (by decide) [] ⟨0, 9, 12, 13⟩ [⟨0, 9, 15, 30⟩] (hT.trans rfl) (fun _ h => absurd h List.not_mem_nil) rfl (by decide) Cl_L_13 Ca_IOB (fun q => ?_)
        refine g_astore_n X dL_addressOf_12 13 rfl (by decide) [(3, .ref q), (0, .ref (a 0)), (1, .int x0), (2, .ref o)] rfl ?_
        refine g_iconst X dL_addressOf_13 14 rfl (v := 1) rfl ?_
        exact g_iret X hr dL_addressOf_14 () (by rw [e]; exact congrArg (fun x => some (Value.int x)) (show hcd [xIOB, xNSE] (oX xIOB) = 1 from by decide +kernel)) (by rw [e]; rfl)
      · refine gx_catch X hN (by decide) [⟨0, 9, 12, 13⟩] ⟨0, 9, 15, 30⟩ [] (hT.trans rfl) (List.forall_mem_cons.mpr ⟨⟨by decide, xIOB, Cl_L_13, by decide, by decide⟩, fun _ h => absurd h List.not_mem_nil⟩) rfl (by decide) Cl_L_30 Ca_NSE (fun q => ?_)
        refine g_astore_n X dL_addressOf_15 16 rfl (by decide) [(3, .ref q), (0, .ref (a 0)), (1, .int x0), (2, .ref o)] rfl ?_
        refine g_iconst X dL_addressOf_16 17 rfl (v := 2) rfl ?_
        exact g_iret X hr dL_addressOf_17 () (by rw [e]; exact congrArg (fun x => some (Value.int x)) (show hcd [xIOB, xNSE] (oX xNSE) = 2 from by decide +kernel)) (by rw [e]; rfl)

set_option maxHeartbeats 4000000 in
set_option maxRecDepth 100000 in
theorem k_L_remembered (E : kE) (l : Launch) (b : Nat → Nat) (μ : Sto) (a : Nat → Nat) (σ σ' : Sto) (o d : Nat) (F : Nat → Int64) (D : Nat → UInt64) (x0 : Int32) {fr lo : Nat} {oo : OT} (hM : KT E l yX6_remembered cX6_remembered 2 (some .int) fr lo 4 24 [.ref (a 0), .int x0] (WW E b μ a σ [(o, la E 1 F), (d, da E 1 D)]) oo (WW E b μ a σ' [(o, la E 1 F), (d, da E 1 D)])) (hV : OV [xIOB, xNSE] oo) : KH E l yL_remembered cL_remembered 4 (some .int) [(0, 9, 12, 13), (0, 9, 15, 30)] (fr + 1) (8 + (2 + 11) + lo) 4 24 [.ref (a 0), .int x0, .ref o] (WW E b μ a σ [(o, la E 1 F), (d, da E 1 D)]) (some (.int (hcd [xIOB, xNSE] oo))) (WW E b μ a σ' [(o, la E 1 (hou F oo)), (d, da E 1 D)]) := by
  refine KH_start (own := RL) (by decide +kernel) rfl [(0, .ref (a 0)), (1, .int x0), (2, .ref o)] rfl (Nat.le_of_ble_eq_true rfl) (fun p e s m below meth c X hr hT hZ hN => ?_)
  refine g_aload_n X dL_remembered_0 1 rfl rfl ?_
  refine g_iconst X dL_remembered_1 2 rfl (v := 0) rfl ?_
  refine g_aload_n X dL_remembered_2 3 rfl rfl ?_
  refine g_iload_n X dL_remembered_3 4 rfl rfl ?_
  refine g_callVT X hZ Lk_L_81 hM dL_remembered_4 rfl 4 rfl (ci := 6) rfl rfl (Nat.le_of_ble_eq_true rfl) ⟨Nat.le_refl _, Nat.le_refl _⟩ ⟨(Nat.le_of_ble_eq_true rfl), (Nat.le_of_ble_eq_true rfl)⟩ (fun v hv => ?_) (fun cls hc => ?_)
  · rcases hV with ⟨r, e⟩ | ⟨c9, e, -⟩
    · obtain rfl : v = some (.int r) := by rw [e] at hv; exact (Sum.inl.inj hv).symm
      refine g_i2l X dL_remembered_7 8 rfl ?_
      refine g_last X dL_remembered_8 9 rfl 51 rfl in_0 (WW E b μ a σ' [(o, la E 1 (hou F oo)), (d, da E 1 D)]) (by rw [e]; rfl) ?_
      refine g_goto X dL_remembered_9 18 rfl ?_
      refine g_iconst X dL_remembered_18 19 rfl (v := 0) rfl ?_
      exact g_iret X hr dL_remembered_19 () (by rw [e]; exact congrArg (fun x => some (Value.int x)) (show hcd [xIOB, xNSE] (oI r) = 0 from rfl)) rfl
    · rw [e] at hv; cases hv
  · rcases hV with ⟨r, e⟩ | ⟨c9, e, hcm⟩
    · rw [e] at hc; cases hc
    · obtain rfl : c9 = cls := by rw [e] at hc; exact Sum.inr.inj hc
      simp only [List.mem_cons, List.not_mem_nil, or_false] at hcm
      rcases hcm with rfl | rfl
      · refine gx_catch X hN (by decide) [] ⟨0, 9, 12, 13⟩ [⟨0, 9, 15, 30⟩] (hT.trans rfl) (fun _ h => absurd h List.not_mem_nil) rfl (by decide) Cl_L_13 Ca_IOB (fun q => ?_)
        refine g_astore_n X dL_remembered_12 13 rfl (by decide) [(3, .ref q), (0, .ref (a 0)), (1, .int x0), (2, .ref o)] rfl ?_
        refine g_iconst X dL_remembered_13 14 rfl (v := 1) rfl ?_
        exact g_iret X hr dL_remembered_14 () (by rw [e]; exact congrArg (fun x => some (Value.int x)) (show hcd [xIOB, xNSE] (oX xIOB) = 1 from by decide +kernel)) (by rw [e]; rfl)
      · refine gx_catch X hN (by decide) [⟨0, 9, 12, 13⟩] ⟨0, 9, 15, 30⟩ [] (hT.trans rfl) (List.forall_mem_cons.mpr ⟨⟨by decide, xIOB, Cl_L_13, by decide, by decide⟩, fun _ h => absurd h List.not_mem_nil⟩) rfl (by decide) Cl_L_30 Ca_NSE (fun q => ?_)
        refine g_astore_n X dL_remembered_15 16 rfl (by decide) [(3, .ref q), (0, .ref (a 0)), (1, .int x0), (2, .ref o)] rfl ?_
        refine g_iconst X dL_remembered_16 17 rfl (v := 2) rfl ?_
        exact g_iret X hr dL_remembered_17 () (by rw [e]; exact congrArg (fun x => some (Value.int x)) (show hcd [xIOB, xNSE] (oX xNSE) = 2 from by decide +kernel)) (by rw [e]; rfl)

set_option maxHeartbeats 4000000 in
set_option maxRecDepth 100000 in
theorem k_L_timer (E : kE) (l : Launch) (b : Nat → Nat) (μ : Sto) (a : Nat → Nat) (σ σ' : Sto) (o d : Nat) (F : Nat → Int64) (D : Nat → UInt64) (x0 : Int32) (x1 : Int32) {fr lo : Nat} {oo : OT} (hM : KT E l yX6_timer cX6_timer 3 (some .int) fr lo 4 24 [.ref (a 0), .int x0, .int x1] (WW E b μ a σ [(o, la E 1 F), (d, da E 1 D)]) oo (WW E b μ a σ' [(o, la E 1 F), (d, da E 1 D)])) (hV : OV [xIOB, xNSE, xIAE] oo) : KH E l yL_timer cL_timer 5 (some .int) [(0, 10, 13, 13), (0, 10, 17, 30), (0, 10, 21, 15)] (fr + 1) (8 + (3 + 11) + lo) 4 24 [.ref (a 0), .int x0, .int x1, .ref o] (WW E b μ a σ [(o, la E 1 F), (d, da E 1 D)]) (some (.int (hcd [xIOB, xNSE, xIAE] oo))) (WW E b μ a σ' [(o, la E 1 (hou F oo)), (d, da E 1 D)]) := by
  refine KH_start (own := RL) (by decide +kernel) rfl [(0, .ref (a 0)), (1, .int x0), (2, .int x1), (3, .ref o)] rfl (Nat.le_of_ble_eq_true rfl) (fun p e s m below meth c X hr hT hZ hN => ?_)
  refine g_aload_n X dL_timer_0 1 rfl rfl ?_
  refine g_iconst X dL_timer_1 2 rfl (v := 0) rfl ?_
  refine g_aload_n X dL_timer_2 3 rfl rfl ?_
  refine g_iload_n X dL_timer_3 4 rfl rfl ?_
  refine g_iload_n X dL_timer_4 5 rfl rfl ?_
  refine g_callVT X hZ Lk_L_84 hM dL_timer_5 rfl 4 rfl (ci := 6) rfl rfl (Nat.le_of_ble_eq_true rfl) ⟨Nat.le_refl _, Nat.le_refl _⟩ ⟨(Nat.le_of_ble_eq_true rfl), (Nat.le_of_ble_eq_true rfl)⟩ (fun v hv => ?_) (fun cls hc => ?_)
  · rcases hV with ⟨r, e⟩ | ⟨c9, e, -⟩
    · obtain rfl : v = some (.int r) := by rw [e] at hv; exact (Sum.inl.inj hv).symm
      refine g_i2l X dL_timer_8 9 rfl ?_
      refine g_last X dL_timer_9 10 rfl 51 rfl in_0 (WW E b μ a σ' [(o, la E 1 (hou F oo)), (d, da E 1 D)]) (by rw [e]; rfl) ?_
      refine g_goto X dL_timer_10 25 rfl ?_
      refine g_iconst X dL_timer_25 26 rfl (v := 0) rfl ?_
      exact g_iret X hr dL_timer_26 () (by rw [e]; exact congrArg (fun x => some (Value.int x)) (show hcd [xIOB, xNSE, xIAE] (oI r) = 0 from rfl)) rfl
    · rw [e] at hv; cases hv
  · rcases hV with ⟨r, e⟩ | ⟨c9, e, hcm⟩
    · rw [e] at hc; cases hc
    · obtain rfl : c9 = cls := by rw [e] at hc; exact Sum.inr.inj hc
      simp only [List.mem_cons, List.not_mem_nil, or_false] at hcm
      rcases hcm with rfl | rfl | rfl
      · refine gx_catch X hN (by decide) [] ⟨0, 10, 13, 13⟩ [⟨0, 10, 17, 30⟩, ⟨0, 10, 21, 15⟩] (hT.trans rfl) (fun _ h => absurd h List.not_mem_nil) rfl (by decide) Cl_L_13 Ca_IOB (fun q => ?_)
        refine g_astore X dL_timer_13 15 rfl (by decide) [(4, .ref q), (0, .ref (a 0)), (1, .int x0), (2, .int x1), (3, .ref o)] rfl ?_
        refine g_iconst X dL_timer_15 16 rfl (v := 1) rfl ?_
        exact g_iret X hr dL_timer_16 () (by rw [e]; exact congrArg (fun x => some (Value.int x)) (show hcd [xIOB, xNSE, xIAE] (oX xIOB) = 1 from by decide +kernel)) (by rw [e]; rfl)
      · refine gx_catch X hN (by decide) [⟨0, 10, 13, 13⟩] ⟨0, 10, 17, 30⟩ [⟨0, 10, 21, 15⟩] (hT.trans rfl) (List.forall_mem_cons.mpr ⟨⟨by decide, xIOB, Cl_L_13, by decide, by decide⟩, fun _ h => absurd h List.not_mem_nil⟩) rfl (by decide) Cl_L_30 Ca_NSE (fun q => ?_)
        refine g_astore X dL_timer_17 19 rfl (by decide) [(4, .ref q), (0, .ref (a 0)), (1, .int x0), (2, .int x1), (3, .ref o)] rfl ?_
        refine g_iconst X dL_timer_19 20 rfl (v := 2) rfl ?_
        exact g_iret X hr dL_timer_20 () (by rw [e]; exact congrArg (fun x => some (Value.int x)) (show hcd [xIOB, xNSE, xIAE] (oX xNSE) = 2 from by decide +kernel)) (by rw [e]; rfl)
      · refine gx_catch X hN (by decide) [⟨0, 10, 13, 13⟩, ⟨0, 10, 17, 30⟩] ⟨0, 10, 21, 15⟩ [] (hT.trans rfl) (List.forall_mem_cons.mpr ⟨⟨by decide, xIOB, Cl_L_13, by decide, by decide⟩, List.forall_mem_cons.mpr ⟨⟨by decide, xNSE, Cl_L_30, by decide, by decide⟩, fun _ h => absurd h List.not_mem_nil⟩⟩) rfl (by decide) Cl_L_15 Ca_IAE (fun q => ?_)
        refine g_astore X dL_timer_21 23 rfl (by decide) [(4, .ref q), (0, .ref (a 0)), (1, .int x0), (2, .int x1), (3, .ref o)] rfl ?_
        refine g_iconst X dL_timer_23 24 rfl (v := 3) rfl ?_
        exact g_iret X hr dL_timer_24 () (by rw [e]; exact congrArg (fun x => some (Value.int x)) (show hcd [xIOB, xNSE, xIAE] (oX xIAE) = 3 from by decide +kernel)) (by rw [e]; rfl)

set_option maxHeartbeats 4000000 in
set_option maxRecDepth 100000 in
theorem k_L_addressState (E : kE) (l : Launch) (b : Nat → Nat) (μ : Sto) (a : Nat → Nat) (σ σ' : Sto) (o d : Nat) (F : Nat → Int64) (D : Nat → UInt64) (x0 : Int32) {fr lo : Nat} {oo : OT} (hM : KT E l yX6_addressState cX6_addressState 2 (some .int) fr lo 4 24 [.ref (a 0), .int x0] (WW E b μ a σ [(o, la E 1 F), (d, da E 1 D)]) oo (WW E b μ a σ' [(o, la E 1 F), (d, da E 1 D)])) (hV : OV [xIOB, xNSE] oo) : KH E l yL_addressState cL_addressState 4 (some .int) [(0, 9, 12, 13), (0, 9, 15, 30)] (fr + 1) (8 + (2 + 11) + lo) 4 24 [.ref (a 0), .int x0, .ref o] (WW E b μ a σ [(o, la E 1 F), (d, da E 1 D)]) (some (.int (hcd [xIOB, xNSE] oo))) (WW E b μ a σ' [(o, la E 1 (hou F oo)), (d, da E 1 D)]) := by
  refine KH_start (own := RL) (by decide +kernel) rfl [(0, .ref (a 0)), (1, .int x0), (2, .ref o)] rfl (Nat.le_of_ble_eq_true rfl) (fun p e s m below meth c X hr hT hZ hN => ?_)
  refine g_aload_n X dL_addressState_0 1 rfl rfl ?_
  refine g_iconst X dL_addressState_1 2 rfl (v := 0) rfl ?_
  refine g_aload_n X dL_addressState_2 3 rfl rfl ?_
  refine g_iload_n X dL_addressState_3 4 rfl rfl ?_
  refine g_callVT X hZ Lk_L_87 hM dL_addressState_4 rfl 4 rfl (ci := 6) rfl rfl (Nat.le_of_ble_eq_true rfl) ⟨Nat.le_refl _, Nat.le_refl _⟩ ⟨(Nat.le_of_ble_eq_true rfl), (Nat.le_of_ble_eq_true rfl)⟩ (fun v hv => ?_) (fun cls hc => ?_)
  · rcases hV with ⟨r, e⟩ | ⟨c9, e, -⟩
    · obtain rfl : v = some (.int r) := by rw [e] at hv; exact (Sum.inl.inj hv).symm
      refine g_i2l X dL_addressState_7 8 rfl ?_
      refine g_last X dL_addressState_8 9 rfl 51 rfl in_0 (WW E b μ a σ' [(o, la E 1 (hou F oo)), (d, da E 1 D)]) (by rw [e]; rfl) ?_
      refine g_goto X dL_addressState_9 18 rfl ?_
      refine g_iconst X dL_addressState_18 19 rfl (v := 0) rfl ?_
      exact g_iret X hr dL_addressState_19 () (by rw [e]; exact congrArg (fun x => some (Value.int x)) (show hcd [xIOB, xNSE] (oI r) = 0 from rfl)) rfl
    · rw [e] at hv; cases hv
  · rcases hV with ⟨r, e⟩ | ⟨c9, e, hcm⟩
    · rw [e] at hc; cases hc
    · obtain rfl : c9 = cls := by rw [e] at hc; exact Sum.inr.inj hc
      simp only [List.mem_cons, List.not_mem_nil, or_false] at hcm
      rcases hcm with rfl | rfl
      · refine gx_catch X hN (by decide) [] ⟨0, 9, 12, 13⟩ [⟨0, 9, 15, 30⟩] (hT.trans rfl) (fun _ h => absurd h List.not_mem_nil) rfl (by decide) Cl_L_13 Ca_IOB (fun q => ?_)
        refine g_astore_n X dL_addressState_12 13 rfl (by decide) [(3, .ref q), (0, .ref (a 0)), (1, .int x0), (2, .ref o)] rfl ?_
        refine g_iconst X dL_addressState_13 14 rfl (v := 1) rfl ?_
        exact g_iret X hr dL_addressState_14 () (by rw [e]; exact congrArg (fun x => some (Value.int x)) (show hcd [xIOB, xNSE] (oX xIOB) = 1 from by decide +kernel)) (by rw [e]; rfl)
      · refine gx_catch X hN (by decide) [⟨0, 9, 12, 13⟩] ⟨0, 9, 15, 30⟩ [] (hT.trans rfl) (List.forall_mem_cons.mpr ⟨⟨by decide, xIOB, Cl_L_13, by decide, by decide⟩, fun _ h => absurd h List.not_mem_nil⟩) rfl (by decide) Cl_L_30 Ca_NSE (fun q => ?_)
        refine g_astore_n X dL_addressState_15 16 rfl (by decide) [(3, .ref q), (0, .ref (a 0)), (1, .int x0), (2, .ref o)] rfl ?_
        refine g_iconst X dL_addressState_16 17 rfl (v := 2) rfl ?_
        exact g_iret X hr dL_addressState_17 () (by rw [e]; exact congrArg (fun x => some (Value.int x)) (show hcd [xIOB, xNSE] (oX xNSE) = 2 from by decide +kernel)) (by rw [e]; rfl)

set_option maxHeartbeats 4000000 in
set_option maxRecDepth 100000 in
theorem k_L_holder (E : kE) (l : Launch) (b : Nat → Nat) (μ : Sto) (a : Nat → Nat) (σ σ' : Sto) (o d : Nat) (F : Nat → Int64) (D : Nat → UInt64) (x0 : Int32) {fr lo : Nat} {oo : OT} (hM : KT E l yX6_holder cX6_holder 2 (some .int) fr lo 4 24 [.ref (a 0), .int x0] (WW E b μ a σ [(o, la E 1 F), (d, da E 1 D)]) oo (WW E b μ a σ' [(o, la E 1 F), (d, da E 1 D)])) (hV : OV [xIOB, xNSE] oo) : KH E l yL_holder cL_holder 4 (some .int) [(0, 9, 12, 13), (0, 9, 15, 30)] (fr + 1) (8 + (2 + 11) + lo) 4 24 [.ref (a 0), .int x0, .ref o] (WW E b μ a σ [(o, la E 1 F), (d, da E 1 D)]) (some (.int (hcd [xIOB, xNSE] oo))) (WW E b μ a σ' [(o, la E 1 (hou F oo)), (d, da E 1 D)]) := by
  refine KH_start (own := RL) (by decide +kernel) rfl [(0, .ref (a 0)), (1, .int x0), (2, .ref o)] rfl (Nat.le_of_ble_eq_true rfl) (fun p e s m below meth c X hr hT hZ hN => ?_)
  refine g_aload_n X dL_holder_0 1 rfl rfl ?_
  refine g_iconst X dL_holder_1 2 rfl (v := 0) rfl ?_
  refine g_aload_n X dL_holder_2 3 rfl rfl ?_
  refine g_iload_n X dL_holder_3 4 rfl rfl ?_
  refine g_callVT X hZ Lk_L_90 hM dL_holder_4 rfl 4 rfl (ci := 6) rfl rfl (Nat.le_of_ble_eq_true rfl) ⟨Nat.le_refl _, Nat.le_refl _⟩ ⟨(Nat.le_of_ble_eq_true rfl), (Nat.le_of_ble_eq_true rfl)⟩ (fun v hv => ?_) (fun cls hc => ?_)
  · rcases hV with ⟨r, e⟩ | ⟨c9, e, -⟩
    · obtain rfl : v = some (.int r) := by rw [e] at hv; exact (Sum.inl.inj hv).symm
      refine g_i2l X dL_holder_7 8 rfl ?_
      refine g_last X dL_holder_8 9 rfl 51 rfl in_0 (WW E b μ a σ' [(o, la E 1 (hou F oo)), (d, da E 1 D)]) (by rw [e]; rfl) ?_
      refine g_goto X dL_holder_9 18 rfl ?_
      refine g_iconst X dL_holder_18 19 rfl (v := 0) rfl ?_
      exact g_iret X hr dL_holder_19 () (by rw [e]; exact congrArg (fun x => some (Value.int x)) (show hcd [xIOB, xNSE] (oI r) = 0 from rfl)) rfl
    · rw [e] at hv; cases hv
  · rcases hV with ⟨r, e⟩ | ⟨c9, e, hcm⟩
    · rw [e] at hc; cases hc
    · obtain rfl : c9 = cls := by rw [e] at hc; exact Sum.inr.inj hc
      simp only [List.mem_cons, List.not_mem_nil, or_false] at hcm
      rcases hcm with rfl | rfl
      · refine gx_catch X hN (by decide) [] ⟨0, 9, 12, 13⟩ [⟨0, 9, 15, 30⟩] (hT.trans rfl) (fun _ h => absurd h List.not_mem_nil) rfl (by decide) Cl_L_13 Ca_IOB (fun q => ?_)
        refine g_astore_n X dL_holder_12 13 rfl (by decide) [(3, .ref q), (0, .ref (a 0)), (1, .int x0), (2, .ref o)] rfl ?_
        refine g_iconst X dL_holder_13 14 rfl (v := 1) rfl ?_
        exact g_iret X hr dL_holder_14 () (by rw [e]; exact congrArg (fun x => some (Value.int x)) (show hcd [xIOB, xNSE] (oX xIOB) = 1 from by decide +kernel)) (by rw [e]; rfl)
      · refine gx_catch X hN (by decide) [⟨0, 9, 12, 13⟩] ⟨0, 9, 15, 30⟩ [] (hT.trans rfl) (List.forall_mem_cons.mpr ⟨⟨by decide, xIOB, Cl_L_13, by decide, by decide⟩, fun _ h => absurd h List.not_mem_nil⟩) rfl (by decide) Cl_L_30 Ca_NSE (fun q => ?_)
        refine g_astore_n X dL_holder_15 16 rfl (by decide) [(3, .ref q), (0, .ref (a 0)), (1, .int x0), (2, .ref o)] rfl ?_
        refine g_iconst X dL_holder_16 17 rfl (v := 2) rfl ?_
        exact g_iret X hr dL_holder_17 () (by rw [e]; exact congrArg (fun x => some (Value.int x)) (show hcd [xIOB, xNSE] (oX xNSE) = 2 from by decide +kernel)) (by rw [e]; rfl)

set_option maxHeartbeats 4000000 in
set_option maxRecDepth 100000 in
theorem k_L_until (E : kE) (l : Launch) (b : Nat → Nat) (μ : Sto) (a : Nat → Nat) (σ σ' : Sto) (o d : Nat) (F : Nat → Int64) (D : Nat → UInt64) (x0 : Int32) {fr lo : Nat} {oo : OT} (hM : KT E l yX6_until cX6_until 2 (some .int) fr lo 4 24 [.ref (a 0), .int x0] (WW E b μ a σ [(o, la E 1 F), (d, da E 1 D)]) oo (WW E b μ a σ' [(o, la E 1 F), (d, da E 1 D)])) (hV : OV [xIOB, xNSE] oo) : KH E l yL_until cL_until 4 (some .int) [(0, 9, 12, 13), (0, 9, 15, 30)] (fr + 1) (8 + (2 + 11) + lo) 4 24 [.ref (a 0), .int x0, .ref o] (WW E b μ a σ [(o, la E 1 F), (d, da E 1 D)]) (some (.int (hcd [xIOB, xNSE] oo))) (WW E b μ a σ' [(o, la E 1 (hou F oo)), (d, da E 1 D)]) := by
  refine KH_start (own := RL) (by decide +kernel) rfl [(0, .ref (a 0)), (1, .int x0), (2, .ref o)] rfl (Nat.le_of_ble_eq_true rfl) (fun p e s m below meth c X hr hT hZ hN => ?_)
  refine g_aload_n X dL_until_0 1 rfl rfl ?_
  refine g_iconst X dL_until_1 2 rfl (v := 0) rfl ?_
  refine g_aload_n X dL_until_2 3 rfl rfl ?_
  refine g_iload_n X dL_until_3 4 rfl rfl ?_
  refine g_callVT X hZ Lk_L_93 hM dL_until_4 rfl 4 rfl (ci := 6) rfl rfl (Nat.le_of_ble_eq_true rfl) ⟨Nat.le_refl _, Nat.le_refl _⟩ ⟨(Nat.le_of_ble_eq_true rfl), (Nat.le_of_ble_eq_true rfl)⟩ (fun v hv => ?_) (fun cls hc => ?_)
  · rcases hV with ⟨r, e⟩ | ⟨c9, e, -⟩
    · obtain rfl : v = some (.int r) := by rw [e] at hv; exact (Sum.inl.inj hv).symm
      refine g_i2l X dL_until_7 8 rfl ?_
      refine g_last X dL_until_8 9 rfl 51 rfl in_0 (WW E b μ a σ' [(o, la E 1 (hou F oo)), (d, da E 1 D)]) (by rw [e]; rfl) ?_
      refine g_goto X dL_until_9 18 rfl ?_
      refine g_iconst X dL_until_18 19 rfl (v := 0) rfl ?_
      exact g_iret X hr dL_until_19 () (by rw [e]; exact congrArg (fun x => some (Value.int x)) (show hcd [xIOB, xNSE] (oI r) = 0 from rfl)) rfl
    · rw [e] at hv; cases hv
  · rcases hV with ⟨r, e⟩ | ⟨c9, e, hcm⟩
    · rw [e] at hc; cases hc
    · obtain rfl : c9 = cls := by rw [e] at hc; exact Sum.inr.inj hc
      simp only [List.mem_cons, List.not_mem_nil, or_false] at hcm
      rcases hcm with rfl | rfl
      · refine gx_catch X hN (by decide) [] ⟨0, 9, 12, 13⟩ [⟨0, 9, 15, 30⟩] (hT.trans rfl) (fun _ h => absurd h List.not_mem_nil) rfl (by decide) Cl_L_13 Ca_IOB (fun q => ?_)
        refine g_astore_n X dL_until_12 13 rfl (by decide) [(3, .ref q), (0, .ref (a 0)), (1, .int x0), (2, .ref o)] rfl ?_
        refine g_iconst X dL_until_13 14 rfl (v := 1) rfl ?_
        exact g_iret X hr dL_until_14 () (by rw [e]; exact congrArg (fun x => some (Value.int x)) (show hcd [xIOB, xNSE] (oX xIOB) = 1 from by decide +kernel)) (by rw [e]; rfl)
      · refine gx_catch X hN (by decide) [⟨0, 9, 12, 13⟩] ⟨0, 9, 15, 30⟩ [] (hT.trans rfl) (List.forall_mem_cons.mpr ⟨⟨by decide, xIOB, Cl_L_13, by decide, by decide⟩, fun _ h => absurd h List.not_mem_nil⟩) rfl (by decide) Cl_L_30 Ca_NSE (fun q => ?_)
        refine g_astore_n X dL_until_15 16 rfl (by decide) [(3, .ref q), (0, .ref (a 0)), (1, .int x0), (2, .ref o)] rfl ?_
        refine g_iconst X dL_until_16 17 rfl (v := 2) rfl ?_
        exact g_iret X hr dL_until_17 () (by rw [e]; exact congrArg (fun x => some (Value.int x)) (show hcd [xIOB, xNSE] (oX xNSE) = 2 from by decide +kernel)) (by rw [e]; rfl)

set_option maxHeartbeats 4000000 in
set_option maxRecDepth 100000 in
theorem k_L_freeSince (E : kE) (l : Launch) (b : Nat → Nat) (μ : Sto) (a : Nat → Nat) (σ σ' : Sto) (o d : Nat) (F : Nat → Int64) (D : Nat → UInt64) (x0 : Int32) {fr lo : Nat} {oo : OT} (hM : KT E l yX6_freeSince cX6_freeSince 2 (some .int) fr lo 4 24 [.ref (a 0), .int x0] (WW E b μ a σ [(o, la E 1 F), (d, da E 1 D)]) oo (WW E b μ a σ' [(o, la E 1 F), (d, da E 1 D)])) (hV : OV [xIOB, xNSE] oo) : KH E l yL_freeSince cL_freeSince 4 (some .int) [(0, 9, 12, 13), (0, 9, 15, 30)] (fr + 1) (8 + (2 + 11) + lo) 4 24 [.ref (a 0), .int x0, .ref o] (WW E b μ a σ [(o, la E 1 F), (d, da E 1 D)]) (some (.int (hcd [xIOB, xNSE] oo))) (WW E b μ a σ' [(o, la E 1 (hou F oo)), (d, da E 1 D)]) := by
  refine KH_start (own := RL) (by decide +kernel) rfl [(0, .ref (a 0)), (1, .int x0), (2, .ref o)] rfl (Nat.le_of_ble_eq_true rfl) (fun p e s m below meth c X hr hT hZ hN => ?_)
  refine g_aload_n X dL_freeSince_0 1 rfl rfl ?_
  refine g_iconst X dL_freeSince_1 2 rfl (v := 0) rfl ?_
  refine g_aload_n X dL_freeSince_2 3 rfl rfl ?_
  refine g_iload_n X dL_freeSince_3 4 rfl rfl ?_
  refine g_callVT X hZ Lk_L_96 hM dL_freeSince_4 rfl 4 rfl (ci := 6) rfl rfl (Nat.le_of_ble_eq_true rfl) ⟨Nat.le_refl _, Nat.le_refl _⟩ ⟨(Nat.le_of_ble_eq_true rfl), (Nat.le_of_ble_eq_true rfl)⟩ (fun v hv => ?_) (fun cls hc => ?_)
  · rcases hV with ⟨r, e⟩ | ⟨c9, e, -⟩
    · obtain rfl : v = some (.int r) := by rw [e] at hv; exact (Sum.inl.inj hv).symm
      refine g_i2l X dL_freeSince_7 8 rfl ?_
      refine g_last X dL_freeSince_8 9 rfl 51 rfl in_0 (WW E b μ a σ' [(o, la E 1 (hou F oo)), (d, da E 1 D)]) (by rw [e]; rfl) ?_
      refine g_goto X dL_freeSince_9 18 rfl ?_
      refine g_iconst X dL_freeSince_18 19 rfl (v := 0) rfl ?_
      exact g_iret X hr dL_freeSince_19 () (by rw [e]; exact congrArg (fun x => some (Value.int x)) (show hcd [xIOB, xNSE] (oI r) = 0 from rfl)) rfl
    · rw [e] at hv; cases hv
  · rcases hV with ⟨r, e⟩ | ⟨c9, e, hcm⟩
    · rw [e] at hc; cases hc
    · obtain rfl : c9 = cls := by rw [e] at hc; exact Sum.inr.inj hc
      simp only [List.mem_cons, List.not_mem_nil, or_false] at hcm
      rcases hcm with rfl | rfl
      · refine gx_catch X hN (by decide) [] ⟨0, 9, 12, 13⟩ [⟨0, 9, 15, 30⟩] (hT.trans rfl) (fun _ h => absurd h List.not_mem_nil) rfl (by decide) Cl_L_13 Ca_IOB (fun q => ?_)
        refine g_astore_n X dL_freeSince_12 13 rfl (by decide) [(3, .ref q), (0, .ref (a 0)), (1, .int x0), (2, .ref o)] rfl ?_
        refine g_iconst X dL_freeSince_13 14 rfl (v := 1) rfl ?_
        exact g_iret X hr dL_freeSince_14 () (by rw [e]; exact congrArg (fun x => some (Value.int x)) (show hcd [xIOB, xNSE] (oX xIOB) = 1 from by decide +kernel)) (by rw [e]; rfl)
      · refine gx_catch X hN (by decide) [⟨0, 9, 12, 13⟩] ⟨0, 9, 15, 30⟩ [] (hT.trans rfl) (List.forall_mem_cons.mpr ⟨⟨by decide, xIOB, Cl_L_13, by decide, by decide⟩, fun _ h => absurd h List.not_mem_nil⟩) rfl (by decide) Cl_L_30 Ca_NSE (fun q => ?_)
        refine g_astore_n X dL_freeSince_15 16 rfl (by decide) [(3, .ref q), (0, .ref (a 0)), (1, .int x0), (2, .ref o)] rfl ?_
        refine g_iconst X dL_freeSince_16 17 rfl (v := 2) rfl ?_
        exact g_iret X hr dL_freeSince_17 () (by rw [e]; exact congrArg (fun x => some (Value.int x)) (show hcd [xIOB, xNSE] (oX xNSE) = 2 from by decide +kernel)) (by rw [e]; rfl)

set_option maxHeartbeats 4000000 in
set_option maxRecDepth 100000 in
theorem k_L_nextCandidate (E : kE) (l : Launch) (b : Nat → Nat) (μ : Sto) (a : Nat → Nat) (σ σ' : Sto) (o d : Nat) (F : Nat → Int64) (D : Nat → UInt64) (x0 : Int32) (x1 : Int32) {fr lo : Nat} {oo : OT} (hM : KT E l yX6_nextCandidate cX6_nextCandidate 4 (some .int) fr lo 4 24 [.ref (a 0), .int x0, .int x1] (WW E b μ a σ [(o, la E 1 F), (d, da E 1 D)]) oo (WW E b μ a σ' [(o, la E 1 F), (d, da E 1 D)])) (hV : OV [xIOB, xNSE] oo) : KH E l yL_nextCandidate cL_nextCandidate 5 (some .int) [(0, 10, 13, 13), (0, 10, 17, 30)] (fr + 1) (8 + (4 + 11) + lo) 4 24 [.ref (a 0), .int x0, .int x1, .ref o] (WW E b μ a σ [(o, la E 1 F), (d, da E 1 D)]) (some (.int (hcd [xIOB, xNSE] oo))) (WW E b μ a σ' [(o, la E 1 (hou F oo)), (d, da E 1 D)]) := by
  refine KH_start (own := RL) (by decide +kernel) rfl [(0, .ref (a 0)), (1, .int x0), (2, .int x1), (3, .ref o)] rfl (Nat.le_of_ble_eq_true rfl) (fun p e s m below meth c X hr hT hZ hN => ?_)
  refine g_aload_n X dL_nextCandidate_0 1 rfl rfl ?_
  refine g_iconst X dL_nextCandidate_1 2 rfl (v := 0) rfl ?_
  refine g_aload_n X dL_nextCandidate_2 3 rfl rfl ?_
  refine g_iload_n X dL_nextCandidate_3 4 rfl rfl ?_
  refine g_iload_n X dL_nextCandidate_4 5 rfl rfl ?_
  refine g_callVT X hZ Lk_L_99 hM dL_nextCandidate_5 rfl 4 rfl (ci := 6) rfl rfl (Nat.le_of_ble_eq_true rfl) ⟨Nat.le_refl _, Nat.le_refl _⟩ ⟨(Nat.le_of_ble_eq_true rfl), (Nat.le_of_ble_eq_true rfl)⟩ (fun v hv => ?_) (fun cls hc => ?_)
  · rcases hV with ⟨r, e⟩ | ⟨c9, e, -⟩
    · obtain rfl : v = some (.int r) := by rw [e] at hv; exact (Sum.inl.inj hv).symm
      refine g_i2l X dL_nextCandidate_8 9 rfl ?_
      refine g_last X dL_nextCandidate_9 10 rfl 51 rfl in_0 (WW E b μ a σ' [(o, la E 1 (hou F oo)), (d, da E 1 D)]) (by rw [e]; rfl) ?_
      refine g_goto X dL_nextCandidate_10 21 rfl ?_
      refine g_iconst X dL_nextCandidate_21 22 rfl (v := 0) rfl ?_
      exact g_iret X hr dL_nextCandidate_22 () (by rw [e]; exact congrArg (fun x => some (Value.int x)) (show hcd [xIOB, xNSE] (oI r) = 0 from rfl)) rfl
    · rw [e] at hv; cases hv
  · rcases hV with ⟨r, e⟩ | ⟨c9, e, hcm⟩
    · rw [e] at hc; cases hc
    · obtain rfl : c9 = cls := by rw [e] at hc; exact Sum.inr.inj hc
      simp only [List.mem_cons, List.not_mem_nil, or_false] at hcm
      rcases hcm with rfl | rfl
      · refine gx_catch X hN (by decide) [] ⟨0, 10, 13, 13⟩ [⟨0, 10, 17, 30⟩] (hT.trans rfl) (fun _ h => absurd h List.not_mem_nil) rfl (by decide) Cl_L_13 Ca_IOB (fun q => ?_)
        refine g_astore X dL_nextCandidate_13 15 rfl (by decide) [(4, .ref q), (0, .ref (a 0)), (1, .int x0), (2, .int x1), (3, .ref o)] rfl ?_
        refine g_iconst X dL_nextCandidate_15 16 rfl (v := 1) rfl ?_
        exact g_iret X hr dL_nextCandidate_16 () (by rw [e]; exact congrArg (fun x => some (Value.int x)) (show hcd [xIOB, xNSE] (oX xIOB) = 1 from by decide +kernel)) (by rw [e]; rfl)
      · refine gx_catch X hN (by decide) [⟨0, 10, 13, 13⟩] ⟨0, 10, 17, 30⟩ [] (hT.trans rfl) (List.forall_mem_cons.mpr ⟨⟨by decide, xIOB, Cl_L_13, by decide, by decide⟩, fun _ h => absurd h List.not_mem_nil⟩) rfl (by decide) Cl_L_30 Ca_NSE (fun q => ?_)
        refine g_astore X dL_nextCandidate_17 19 rfl (by decide) [(4, .ref q), (0, .ref (a 0)), (1, .int x0), (2, .int x1), (3, .ref o)] rfl ?_
        refine g_iconst X dL_nextCandidate_19 20 rfl (v := 2) rfl ?_
        exact g_iret X hr dL_nextCandidate_20 () (by rw [e]; exact congrArg (fun x => some (Value.int x)) (show hcd [xIOB, xNSE] (oX xNSE) = 2 from by decide +kernel)) (by rw [e]; rfl)

set_option maxHeartbeats 4000000 in
set_option maxRecDepth 100000 in
theorem k_L_countState (E : kE) (l : Launch) (b : Nat → Nat) (μ : Sto) (a : Nat → Nat) (σ σ' : Sto) (o d : Nat) (F : Nat → Int64) (D : Nat → UInt64) (x0 : Int32) (x1 : Int32) {fr lo : Nat} {oo : OT} (hM : KT E l yX6_countState cX6_countState 3 (some .int) fr lo 4 24 [.ref (a 0), .int x0, .int x1] (WW E b μ a σ [(o, la E 1 F), (d, da E 1 D)]) oo (WW E b μ a σ' [(o, la E 1 F), (d, da E 1 D)])) (hV : OV [xIOB, xIAE] oo) : KH E l yL_countState cL_countState 5 (some .int) [(0, 10, 13, 13), (0, 10, 17, 15)] (fr + 1) (8 + (3 + 11) + lo) 4 24 [.ref (a 0), .int x0, .int x1, .ref o] (WW E b μ a σ [(o, la E 1 F), (d, da E 1 D)]) (some (.int (hcd [xIOB, xIAE] oo))) (WW E b μ a σ' [(o, la E 1 (hou F oo)), (d, da E 1 D)]) := by
  refine KH_start (own := RL) (by decide +kernel) rfl [(0, .ref (a 0)), (1, .int x0), (2, .int x1), (3, .ref o)] rfl (Nat.le_of_ble_eq_true rfl) (fun p e s m below meth c X hr hT hZ hN => ?_)
  refine g_aload_n X dL_countState_0 1 rfl rfl ?_
  refine g_iconst X dL_countState_1 2 rfl (v := 0) rfl ?_
  refine g_aload_n X dL_countState_2 3 rfl rfl ?_
  refine g_iload_n X dL_countState_3 4 rfl rfl ?_
  refine g_iload_n X dL_countState_4 5 rfl rfl ?_
  refine g_callVT X hZ Lk_L_102 hM dL_countState_5 rfl 4 rfl (ci := 6) rfl rfl (Nat.le_of_ble_eq_true rfl) ⟨Nat.le_refl _, Nat.le_refl _⟩ ⟨(Nat.le_of_ble_eq_true rfl), (Nat.le_of_ble_eq_true rfl)⟩ (fun v hv => ?_) (fun cls hc => ?_)
  · rcases hV with ⟨r, e⟩ | ⟨c9, e, -⟩
    · obtain rfl : v = some (.int r) := by rw [e] at hv; exact (Sum.inl.inj hv).symm
      refine g_i2l X dL_countState_8 9 rfl ?_
      refine g_last X dL_countState_9 10 rfl 51 rfl in_0 (WW E b μ a σ' [(o, la E 1 (hou F oo)), (d, da E 1 D)]) (by rw [e]; rfl) ?_
      refine g_goto X dL_countState_10 21 rfl ?_
      refine g_iconst X dL_countState_21 22 rfl (v := 0) rfl ?_
      exact g_iret X hr dL_countState_22 () (by rw [e]; exact congrArg (fun x => some (Value.int x)) (show hcd [xIOB, xIAE] (oI r) = 0 from rfl)) rfl
    · rw [e] at hv; cases hv
  · rcases hV with ⟨r, e⟩ | ⟨c9, e, hcm⟩
    · rw [e] at hc; cases hc
    · obtain rfl : c9 = cls := by rw [e] at hc; exact Sum.inr.inj hc
      simp only [List.mem_cons, List.not_mem_nil, or_false] at hcm
      rcases hcm with rfl | rfl
      · refine gx_catch X hN (by decide) [] ⟨0, 10, 13, 13⟩ [⟨0, 10, 17, 15⟩] (hT.trans rfl) (fun _ h => absurd h List.not_mem_nil) rfl (by decide) Cl_L_13 Ca_IOB (fun q => ?_)
        refine g_astore X dL_countState_13 15 rfl (by decide) [(4, .ref q), (0, .ref (a 0)), (1, .int x0), (2, .int x1), (3, .ref o)] rfl ?_
        refine g_iconst X dL_countState_15 16 rfl (v := 1) rfl ?_
        exact g_iret X hr dL_countState_16 () (by rw [e]; exact congrArg (fun x => some (Value.int x)) (show hcd [xIOB, xIAE] (oX xIOB) = 1 from by decide +kernel)) (by rw [e]; rfl)
      · refine gx_catch X hN (by decide) [⟨0, 10, 13, 13⟩] ⟨0, 10, 17, 15⟩ [] (hT.trans rfl) (List.forall_mem_cons.mpr ⟨⟨by decide, xIOB, Cl_L_13, by decide, by decide⟩, fun _ h => absurd h List.not_mem_nil⟩) rfl (by decide) Cl_L_15 Ca_IAE (fun q => ?_)
        refine g_astore X dL_countState_17 19 rfl (by decide) [(4, .ref q), (0, .ref (a 0)), (1, .int x0), (2, .int x1), (3, .ref o)] rfl ?_
        refine g_iconst X dL_countState_19 20 rfl (v := 2) rfl ?_
        exact g_iret X hr dL_countState_20 () (by rw [e]; exact congrArg (fun x => some (Value.int x)) (show hcd [xIOB, xIAE] (oX xIAE) = 2 from by decide +kernel)) (by rw [e]; rfl)

set_option maxHeartbeats 4000000 in
set_option maxRecDepth 100000 in
theorem k_L_log (E : kE) (l : Launch) (b : Nat → Nat) (μ : Sto) (a : Nat → Nat) (σ σ' : Sto) (o d : Nat) (F : Nat → Int64) (D : Nat → UInt64) (x0 : Int32) {fr lo : Nat} {oo : OT} (hM : KT E l yX6_log cX6_log 2 (some .int) fr lo 4 24 [.ref (a 0), .int x0] (WW E b μ a σ [(o, la E 1 F), (d, da E 1 D)]) oo (WW E b μ a σ' [(o, la E 1 F), (d, da E 1 D)])) (hV : OV [xIOB] oo) : KH E l yL_log cL_log 4 (some .int) [(0, 9, 12, 13)] (fr + 1) (8 + (2 + 11) + lo) 4 24 [.ref (a 0), .int x0, .ref o] (WW E b μ a σ [(o, la E 1 F), (d, da E 1 D)]) (some (.int (hcd [xIOB] oo))) (WW E b μ a σ' [(o, la E 1 (hou F oo)), (d, da E 1 D)]) := by
  refine KH_start (own := RL) (by decide +kernel) rfl [(0, .ref (a 0)), (1, .int x0), (2, .ref o)] rfl (Nat.le_of_ble_eq_true rfl) (fun p e s m below meth c X hr hT hZ hN => ?_)
  refine g_aload_n X dL_log_0 1 rfl rfl ?_
  refine g_iconst X dL_log_1 2 rfl (v := 0) rfl ?_
  refine g_aload_n X dL_log_2 3 rfl rfl ?_
  refine g_iload_n X dL_log_3 4 rfl rfl ?_
  refine g_callVT X hZ Lk_L_105 hM dL_log_4 rfl 4 rfl (ci := 6) rfl rfl (Nat.le_of_ble_eq_true rfl) ⟨Nat.le_refl _, Nat.le_refl _⟩ ⟨(Nat.le_of_ble_eq_true rfl), (Nat.le_of_ble_eq_true rfl)⟩ (fun v hv => ?_) (fun cls hc => ?_)
  · rcases hV with ⟨r, e⟩ | ⟨c9, e, -⟩
    · obtain rfl : v = some (.int r) := by rw [e] at hv; exact (Sum.inl.inj hv).symm
      refine g_i2l X dL_log_7 8 rfl ?_
      refine g_last X dL_log_8 9 rfl 51 rfl in_0 (WW E b μ a σ' [(o, la E 1 (hou F oo)), (d, da E 1 D)]) (by rw [e]; rfl) ?_
      refine g_goto X dL_log_9 15 rfl ?_
      refine g_iconst X dL_log_15 16 rfl (v := 0) rfl ?_
      exact g_iret X hr dL_log_16 () (by rw [e]; exact congrArg (fun x => some (Value.int x)) (show hcd [xIOB] (oI r) = 0 from rfl)) rfl
    · rw [e] at hv; cases hv
  · rcases hV with ⟨r, e⟩ | ⟨c9, e, hcm⟩
    · rw [e] at hc; cases hc
    · obtain rfl : c9 = cls := by rw [e] at hc; exact Sum.inr.inj hc
      simp only [List.mem_cons, List.not_mem_nil, or_false] at hcm
      rcases hcm with rfl
      · refine gx_catch X hN (by decide) [] ⟨0, 9, 12, 13⟩ [] (hT.trans rfl) (fun _ h => absurd h List.not_mem_nil) rfl (by decide) Cl_L_13 Ca_IOB (fun q => ?_)
        refine g_astore_n X dL_log_12 13 rfl (by decide) [(3, .ref q), (0, .ref (a 0)), (1, .int x0), (2, .ref o)] rfl ?_
        refine g_iconst X dL_log_13 14 rfl (v := 1) rfl ?_
        exact g_iret X hr dL_log_14 () (by rw [e]; exact congrArg (fun x => some (Value.int x)) (show hcd [xIOB] (oX xIOB) = 1 from by decide +kernel)) (by rw [e]; rfl)

set_option maxHeartbeats 4000000 in
set_option maxRecDepth 100000 in
theorem k_L_utilization (E : kE) (l : Launch) (b : Nat → Nat) (μ : Sto) (a : Nat → Nat) (σ σ' : Sto) (o d : Nat) (F : Nat → Int64) (D : Nat → UInt64) (x0 : Int32) {fr lo : Nat} {oo : OT} (hM : KT E l yX6_utilization cX6_utilization 3 (some .double) fr lo 4 24 [.ref (a 0), .int x0] (WW E b μ a σ [(o, la E 1 F), (d, da E 1 D)]) oo (WW E b μ a σ' [(o, la E 1 F), (d, da E 1 D)])) (hV : OVd [xIOB, xARE] oo) : KH E l yL_utilization cL_utilization 4 (some .int) [(0, 8, 11, 13), (0, 8, 14, 112)] (fr + 1) (8 + (3 + 11) + lo) 4 24 [.ref (a 0), .int x0, .ref d] (WW E b μ a σ [(o, la E 1 F), (d, da E 1 D)]) (some (.int (hcd [xIOB, xARE] oo))) (WW E b μ a σ' [(o, la E 1 F), (d, da E 1 (hod D oo))]) := by
  refine KH_start (own := RL) (by decide +kernel) rfl [(0, .ref (a 0)), (1, .int x0), (2, .ref d)] rfl (Nat.le_of_ble_eq_true rfl) (fun p e s m below meth c X hr hT hZ hN => ?_)
  refine g_aload_n X dL_utilization_0 1 rfl rfl ?_
  refine g_iconst X dL_utilization_1 2 rfl (v := 0) rfl ?_
  refine g_aload_n X dL_utilization_2 3 rfl rfl ?_
  refine g_iload_n X dL_utilization_3 4 rfl rfl ?_
  refine g_callVT X hZ Lk_L_108 hM dL_utilization_4 rfl 4 rfl (ci := 6) rfl rfl (Nat.le_of_ble_eq_true rfl) ⟨Nat.le_refl _, Nat.le_refl _⟩ ⟨(Nat.le_of_ble_eq_true rfl), (Nat.le_of_ble_eq_true rfl)⟩ (fun v hv => ?_) (fun cls hc => ?_)
  · rcases hV with ⟨r, e⟩ | ⟨c9, e, -⟩
    · obtain rfl : v = some (.double r) := by rw [e] at hv; exact (Sum.inl.inj hv).symm
      refine g_dast X dL_utilization_7 8 rfl 52 rfl in_0 (WW E b μ a σ' [(o, la E 1 F), (d, da E 1 (hod D oo))]) (by rw [e]; rfl) ?_
      refine g_goto X dL_utilization_8 17 rfl ?_
      refine g_iconst X dL_utilization_17 18 rfl (v := 0) rfl ?_
      exact g_iret X hr dL_utilization_18 () (by rw [e]; exact congrArg (fun x => some (Value.int x)) (show hcd [xIOB, xARE] (oD r) = 0 from rfl)) rfl
    · rw [e] at hv; cases hv
  · rcases hV with ⟨r, e⟩ | ⟨c9, e, hcm⟩
    · rw [e] at hc; cases hc
    · obtain rfl : c9 = cls := by rw [e] at hc; exact Sum.inr.inj hc
      simp only [List.mem_cons, List.not_mem_nil, or_false] at hcm
      rcases hcm with rfl | rfl
      · refine gx_catch X hN (by decide) [] ⟨0, 8, 11, 13⟩ [⟨0, 8, 14, 112⟩] (hT.trans rfl) (fun _ h => absurd h List.not_mem_nil) rfl (by decide) Cl_L_13 Ca_IOB (fun q => ?_)
        refine g_astore_n X dL_utilization_11 12 rfl (by decide) [(3, .ref q), (0, .ref (a 0)), (1, .int x0), (2, .ref d)] rfl ?_
        refine g_iconst X dL_utilization_12 13 rfl (v := 1) rfl ?_
        exact g_iret X hr dL_utilization_13 () (by rw [e]; exact congrArg (fun x => some (Value.int x)) (show hcd [xIOB, xARE] (oX xIOB) = 1 from by decide +kernel)) (by rw [e]; rfl)
      · refine gx_catch X hN (by decide) [⟨0, 8, 11, 13⟩] ⟨0, 8, 14, 112⟩ [] (hT.trans rfl) (List.forall_mem_cons.mpr ⟨⟨by decide, xIOB, Cl_L_13, by decide, by decide⟩, fun _ h => absurd h List.not_mem_nil⟩) rfl (by decide) Cl_L_112 Ca_ARE (fun q => ?_)
        refine g_astore_n X dL_utilization_14 15 rfl (by decide) [(3, .ref q), (0, .ref (a 0)), (1, .int x0), (2, .ref d)] rfl ?_
        refine g_iconst X dL_utilization_15 16 rfl (v := 2) rfl ?_
        exact g_iret X hr dL_utilization_16 () (by rw [e]; exact congrArg (fun x => some (Value.int x)) (show hcd [xIOB, xARE] (oX xARE) = 2 from by decide +kernel)) (by rw [e]; rfl)

set_option maxHeartbeats 4000000 in
set_option maxRecDepth 100000 in
theorem k_L_averageRest (E : kE) (l : Launch) (b : Nat → Nat) (μ : Sto) (a : Nat → Nat) (σ σ' : Sto) (o d : Nat) (F : Nat → Int64) (D : Nat → UInt64) {fr lo : Nat} {oo : OT} (hM : KT E l yX6_averageRest cX6_averageRest 2 (some .float) fr lo 4 24 [.ref (a 0)] (WW E b μ a σ [(o, la E 1 F), (d, da E 1 D)]) oo (WW E b μ a σ' [(o, la E 1 F), (d, da E 1 D)])) (hV : OVf [xARE] oo) : KH E l yL_averageRest cL_averageRest 3 (some .int) [(0, 8, 11, 112)] (fr + 1) (8 + (2 + 11) + lo) 4 24 [.ref (a 0), .ref d] (WW E b μ a σ [(o, la E 1 F), (d, da E 1 D)]) (some (.int (hcd [xARE] oo))) (WW E b μ a σ' [(o, la E 1 F), (d, da E 1 (hod D oo))]) := by
  refine KH_start (own := RL) (by decide +kernel) rfl [(0, .ref (a 0)), (1, .ref d)] rfl (Nat.le_of_ble_eq_true rfl) (fun p e s m below meth c X hr hT hZ hN => ?_)
  refine g_aload_n X dL_averageRest_0 1 rfl rfl ?_
  refine g_iconst X dL_averageRest_1 2 rfl (v := 0) rfl ?_
  refine g_aload_n X dL_averageRest_2 3 rfl rfl ?_
  refine g_callVT X hZ Lk_L_114 hM dL_averageRest_3 rfl 4 rfl (ci := 6) rfl rfl (Nat.le_of_ble_eq_true rfl) ⟨Nat.le_refl _, Nat.le_refl _⟩ ⟨(Nat.le_of_ble_eq_true rfl), (Nat.le_of_ble_eq_true rfl)⟩ (fun v hv => ?_) (fun cls hc => ?_)
  · rcases hV with ⟨r, e, hne⟩ | ⟨c9, e, -⟩
    · obtain rfl : v = some (.float r) := by rw [e] at hv; exact (Sum.inl.inj hv).symm
      refine g_f2d X dL_averageRest_6 7 rfl hne ?_
      refine g_dast X dL_averageRest_7 8 rfl 52 rfl in_0 (WW E b μ a σ' [(o, la E 1 F), (d, da E 1 (hod D oo))]) (by rw [e]; rfl) ?_
      refine g_goto X dL_averageRest_8 14 rfl ?_
      refine g_iconst X dL_averageRest_14 15 rfl (v := 0) rfl ?_
      exact g_iret X hr dL_averageRest_15 () (by rw [e]; exact congrArg (fun x => some (Value.int x)) (show hcd [xARE] (oF r) = 0 from rfl)) rfl
    · rw [e] at hv; cases hv
  · rcases hV with ⟨r, e, -⟩ | ⟨c9, e, hcm⟩
    · rw [e] at hc; cases hc
    · obtain rfl : c9 = cls := by rw [e] at hc; exact Sum.inr.inj hc
      simp only [List.mem_cons, List.not_mem_nil, or_false] at hcm
      rcases hcm with rfl
      · refine gx_catch X hN (by decide) [] ⟨0, 8, 11, 112⟩ [] (hT.trans rfl) (fun _ h => absurd h List.not_mem_nil) rfl (by decide) Cl_L_112 Ca_ARE (fun q => ?_)
        refine g_astore_n X dL_averageRest_11 12 rfl (by decide) [(2, .ref q), (0, .ref (a 0)), (1, .ref d)] rfl ?_
        refine g_iconst X dL_averageRest_12 13 rfl (v := 1) rfl ?_
        exact g_iret X hr dL_averageRest_13 () (by rw [e]; exact congrArg (fun x => some (Value.int x)) (show hcd [xARE] (oX xARE) = 1 from by decide +kernel)) (by rw [e]; rfl)

set_option maxHeartbeats 4000000 in
set_option maxRecDepth 100000 in
theorem k_L_restore (E : kE) (l : Launch) (b : Nat → Nat) (μ : Sto) (a : Nat → Nat) (σ σ' : Sto) (o d : Nat) (F : Nat → Int64) (D : Nat → UInt64) {fr lo : Nat} {oo : OT} (hM : KT E l yX6_restore cX6_restore 1 (some .int) fr lo 4 24 [.ref (a 0)] (WW E b μ a σ [(o, la E 1 F), (d, da E 1 D)]) oo (WW E b μ a σ' [(o, la E 1 F), (d, da E 1 D)])) (hV : OV [xISE] oo) : KH E l yL_restore cL_restore 3 (some .int) [(0, 8, 11, 17)] (fr + 1) (8 + (1 + 11) + lo) 4 24 [.ref (a 0), .ref o] (WW E b μ a σ [(o, la E 1 F), (d, da E 1 D)]) (some (.int (hcd [xISE] oo))) (WW E b μ a σ' [(o, la E 1 (hou F oo)), (d, da E 1 D)]) := by
  refine KH_start (own := RL) (by decide +kernel) rfl [(0, .ref (a 0)), (1, .ref o)] rfl (Nat.le_of_ble_eq_true rfl) (fun p e s m below meth c X hr hT hZ hN => ?_)
  refine g_aload_n X dL_restore_0 1 rfl rfl ?_
  refine g_iconst X dL_restore_1 2 rfl (v := 0) rfl ?_
  refine g_aload_n X dL_restore_2 3 rfl rfl ?_
  refine g_callVT X hZ Lk_L_118 hM dL_restore_3 rfl 4 rfl (ci := 6) rfl rfl (Nat.le_of_ble_eq_true rfl) ⟨Nat.le_refl _, Nat.le_refl _⟩ ⟨(Nat.le_of_ble_eq_true rfl), (Nat.le_of_ble_eq_true rfl)⟩ (fun v hv => ?_) (fun cls hc => ?_)
  · rcases hV with ⟨r, e⟩ | ⟨c9, e, -⟩
    · obtain rfl : v = some (.int r) := by rw [e] at hv; exact (Sum.inl.inj hv).symm
      refine g_i2l X dL_restore_6 7 rfl ?_
      refine g_last X dL_restore_7 8 rfl 51 rfl in_0 (WW E b μ a σ' [(o, la E 1 (hou F oo)), (d, da E 1 D)]) (by rw [e]; rfl) ?_
      refine g_goto X dL_restore_8 14 rfl ?_
      refine g_iconst X dL_restore_14 15 rfl (v := 0) rfl ?_
      exact g_iret X hr dL_restore_15 () (by rw [e]; exact congrArg (fun x => some (Value.int x)) (show hcd [xISE] (oI r) = 0 from rfl)) rfl
    · rw [e] at hv; cases hv
  · rcases hV with ⟨r, e⟩ | ⟨c9, e, hcm⟩
    · rw [e] at hc; cases hc
    · obtain rfl : c9 = cls := by rw [e] at hc; exact Sum.inr.inj hc
      simp only [List.mem_cons, List.not_mem_nil, or_false] at hcm
      rcases hcm with rfl
      · refine gx_catch X hN (by decide) [] ⟨0, 8, 11, 17⟩ [] (hT.trans rfl) (fun _ h => absurd h List.not_mem_nil) rfl (by decide) Cl_L_17 Ca_ISE (fun q => ?_)
        refine g_astore_n X dL_restore_11 12 rfl (by decide) [(2, .ref q), (0, .ref (a 0)), (1, .ref o)] rfl ?_
        refine g_iconst X dL_restore_12 13 rfl (v := 1) rfl ?_
        exact g_iret X hr dL_restore_13 () (by rw [e]; exact congrArg (fun x => some (Value.int x)) (show hcd [xISE] (oX xISE) = 1 from by decide +kernel)) (by rw [e]; rfl)
