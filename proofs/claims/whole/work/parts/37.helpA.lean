/-! THE LAW'S HELPERS -/
def xcs : List String := [xIOB, xIAE, xISE, xNSE, xARE]
def NX (U : State) : Prop := ∀ a ∈ xcs, ∀ b ∈ xcs, a ≠ b → va_Nc a b U
theorem NX.alike {u U : State} (h : u.vm.Alike U.vm) (hn : NX u) : NX U := fun a ha b hb hab => (hn a ha b hb hab).moved h
def KPH (E : kE) (w0 : va_W) (sz : Nat) (As : List Value) : Array Value → State → Prop := va_Pc As (fun U => (U.heap.size = sz ∧ va_P E.1 kcl w0 U.heap ∧ KX E U ∧ va_D (fun _ => True) w0 ∧ ZQ (va_A w0 sz) U) ∧ NX U)
theorem KPH_blind {E : kE} {w0 : va_W} {sz : Nat} {As : List Value} : FrameBlind (KPH E w0 sz As) := fun a U g mk h => by
  have k := KPT_blind (E := E) (w0 := w0) (sz := sz) (As := As) a U g mk ⟨h.1, h.2.1⟩
  exact ⟨k.1, k.2, NX.alike (u := U) (U := U.calling g mk a) (Vm.Alike.refl U.vm) h.2.2⟩
/-- a helper, that returns -/
def KH (E : kE) (l : Launch) (y : MethodName) (bytes : ByteArray) (maxL : Nat) (ret : Option FieldType) (hh : List (Nat × Nat × Nat × Nat)) (fr lo mc ms : Nat) (As : List Value) (w0 : va_W) (o : Option Value) (w1 : va_W) : Prop :=
  ∀ sz : Nat, Met l y [Cond.codeWith y bytes maxL ret hh] ({ frames := fr, cells := mc, slots := ms, locals := lo }) (KPH E w0 sz As) (KQ E w0 sz (fun _ : Unit => o) (fun _ => w1)) mc ms (va_A w0 sz)
section KH1
variable {E : kE} {A : Nat → Prop} {own : String} {cc : ByteArray} {nL : Nat} {p : Program} {l : Launch} {e : Env} {R : Room} {s : State} {m : MethodId} {args : Array Value} {below : List Frame} {meth : Method} {c : Code} {Q : State → Prop} {k n : Nat} {ws : va_W} {pc : Nat} {lv : List (Nat × Value)} {st st0 : List Value}
variable {idx n0 maxL fr lo mc ms : Nat} {y : MethodName} {bytes : ByteArray} {ret : Option FieldType} {As : List Value} {hh : List (Nat × Nat × Nat × Nat)}
theorem KH_start {o : Option Value} {w0 w1 : va_W} (hy : plainName y.cls = true) (hown : y.cls = own) (lv0 : List (Nat × Value)) (hlv : lv_args 0 As = lv0) (hmx : (lg_sl As).length ≤ maxL)
    (body : ∀ (p : Program) (e : Env) (s : State) (m : MethodId) (below : List Frame) (meth : Method) (c : Code), CX E (va_A w0 s.heap.size) own bytes maxL p s m meth c → meth.sig.returnType = ret → c.exceptionTable.toList = tableOf hh → ZQ (va_A w0 s.heap.size) s → NX s → G E (va_A w0 s.heap.size) maxL p l e ({ frames := fr, cells := mc, slots := ms, locals := lo }) s m As.toArray below meth c (MQ below (KQ E w0 s.heap.size (fun _ : Unit => o) (fun _ => w1)) As.toArray s mc ms (va_A w0 s.heap.size)) 0 0 w0 0 lv0 []) :
    KH E l y bytes maxL ret hh fr lo mc ms As w0 o w1 := by
  intro sz
  refine va_MetW (cc := bytes) (maxL := maxL) (ret := ret) (hh := hh) hy rfl ?_
  intro p e s m args below meth c s₁ B hml hv
  obtain ⟨rfl, ⟨hsz, hP, hK, hD0, hZ⟩, hN⟩ := hv
  subst hsz
  have hT := vx_table B (atoms_spec (ws := [Cond.codeWith y bytes maxL ret hh]) B.pre _ List.mem_cons_self)
  have X : CX E (va_A w0 s.heap.size) own bytes maxL p s m meth c := ⟨B.exec, B.bytes, hml, hown ▸ findClass_of_methodNamed B.named, hK, B.notSynchronized, fun q h => Or.inr h⟩
  have hl := lv_entry As (n := maxL) hmx
  rw [lg_entry_eq]
  rw [hlv] at hl
  exact body p e s m below meth c X B.returns hT hZ hN s.heap [] _ hP hD0.self va_S.rf hl
/-- caught here -/
theorem gx_catch (X : CX E A own cc nL p s m meth c) (hN : NX s) {cls : String} (hcl : cls ∈ xcs) (pre : List ExceptionTableEntry) (x : ExceptionTableEntry) (suf : List ExceptionTableEntry) (hsplit : c.exceptionTable.toList = pre ++ x :: suf) (hpass : ∀ z ∈ pre, z.catchType ≠ 0 ∧ ∃ nm : String, Cond.classLink own z.catchType nm ∈ lw_ok ∧ nm ∈ xcs ∧ cls ≠ nm) (hx : covers x pc = true) (h0 : x.catchType ≠ 0) (hlink : Cond.classLink own x.catchType cls ∈ lw_ok) (hcast : Cond.castable cls cls ∈ lw_ok) (kk : ∀ q : Nat, G E A nL p l e R s m args below meth c Q k n ws x.handlerPc lv [.ref q]) : GX E A nL p l e R s m args below meth c Q k n ws cls pc lv st := by
  have ts := X.2.2.2.2.1.2.1.ts (args := args)
  exact fun H locs ls q ce hP hD hS hl hce hcv hcc => vx_catch X.2.2.2.1 pre x suf hsplit (fun z hz => by
    obtain ⟨a1, nm, a2, a3, a4⟩ := hpass z hz
    exact Or.inr ⟨a1, nm, ts _ a2, hN cls hcl nm a3 a4⟩) hx h0 (ts _ hlink) (ts _ hcast) hce hcv hcc (kk q H locs ls hP hD hS hl)
theorem call_H (X : CX E A own cc nL p s m meth c) (L : LkW own idx y bytes maxL ret hh n0) (hR : fr + 1 ≤ R.frames ∧ 8 + (maxL + 11) + lo ≤ R.locals) : vx_CSW R s args own idx y bytes maxL ret hh [Cond.codeWith y bytes maxL ret hh] ({ frames := fr, cells := mc, slots := ms, locals := lo }) mc ms n0 := by
  obtain ⟨⟨h1, h2, h3, h4⟩, h6, h7, h8⟩ := L
  have ts := X.2.2.2.2.1.2.1.ts (args := args)
  refine ⟨⟨rfl, rfl, hR.1, hR.2, one_word X h4 rfl, List.mem_singleton.mpr rfl⟩, ts _ h4, ts _ h3, ⟨h6, h7⟩, fun sig h => ?_, ts _ h1, ts _ h2⟩
  rw [h] at h8
  exact (Option.some.inj h8).symm
theorem g_callH {o : Option Value} {w1 : va_W} (X : CX E A own cc nL p s m meth c) (hZ : ZQ A s) (hN : NX s) (L : LkW own idx y bytes maxL ret hh n0) (hM : KH E l y bytes maxL ret hh fr lo mc ms As ws o w1) (d : decode cc pc = .ok (.invokestatic idx, 3)) (hn : As.length = n0) (hst : st0 = As.reverse ++ st) (hcat : (st.map fun v => v.category).sum ≤ 8) (hR : fr + 1 ≤ R.frames ∧ 8 + (maxL + 11) + lo ≤ R.locals) (hf : k + mc ≤ R.cells ∧ n + ms ≤ R.slots) (q : Nat) (hq : pc + 3 = q) (st' : List Value) (hs : o.toList ++ st = st') (kk : G E A nL p l e R s m args below meth c Q (k + mc) (n + ms) w1 q lv st') : G E A nL p l e R s m args below meth c Q k n ws pc lv st0 := by
  subst hq; subst hs
  exact fun H locs ls hP hD hS hl => g_go X hD hS hl (vx_runSW (own := own) (Ts := lw_ok) (nL := nL) (cc := cc) ⟨X.1, X.2.1, X.2.2.1, X.2.2.2.1, X.2.2.2.2.1.2.1.ts⟩ (hM H.size) (call_H X L hR) ⟨KPH_blind, fun U hU hW => ⟨rfl, ⟨by rw [hU], by rw [hU]; exact hP, KX.warm hW X.2.2.2.2.1, hD.weaken (fun _ _ _ _ => trivial), hZ.sub hU hW hS (free_in X hD hS)⟩, hN.alike hW.alike⟩⟩ rfl hn hl.1 hst (lv_room hcat) d hf) (fun _ => kk)
theorem g_dast (X : CX E A own cc nL p s m meth c) (d : decode cc pc = .ok (.dastore, 1)) (q : Nat) (hq : pc + 1 = q) (q0 : Nat) {a N : Nat} {f : Nat → UInt64} (he : ws[q0]? = some (a, da E N f)) {i : Int32} {x : UInt64} (hi : vp_in i N) (ws' : va_W) (hw : ws.set q0 (a, da E N (vf_upd f i.toNatClampNeg x)) = ws') (kk : G E A nL p l e R s m args below meth c Q k n ws' q lv st) : G E A nL p l e R s m args below meth c Q k n ws pc lv (.double x :: .int i :: .ref a :: st) := by
  subst hq; subst hw
  exact fun H locs ls hP hD hS hl => va_dast X.1 X.2.1 X.2.2.2.2.1.1 hP hD hS q0 3 he rfl hi d (fun H1 locs1 hP1 hD1 hS1 => kk H1 locs1 ls hP1 hD1 hS1 hl)
theorem g_dald (X : CX E A own cc nL p s m meth c) (d : decode cc pc = .ok (.daload, 1)) (q : Nat) (hq : pc + 1 = q) (q0 : Nat) {a N : Nat} {f : Nat → UInt64} (he : ws[q0]? = some (a, da E N f)) {i : Int32} (hi : vp_in i N) (kk : G E A nL p l e R s m args below meth c Q k n ws q lv (.double (f i.toNatClampNeg) :: st)) : G E A nL p l e R s m args below meth c Q k n ws pc lv (.int i :: .ref a :: st) := by
  subst hq
  exact fun H locs ls hP hD hS hl => va_dald X.1 X.2.1 X.2.2.2.2.1.1 hP q0 3 he rfl hi d (kk H locs ls hP hD hS hl)
theorem g_f2d (X : CX E A own cc nL p s m meth c) (d : decode cc pc = .ok (.f2d, 1)) (q : Nat) (hq : pc + 1 = q) {x : UInt32} (hne : vf_n64 (FP.f2d x)) (kk : G E A nL p l e R s m args below meth c Q k n ws q lv (.double (FP.f2d x) :: st)) : G E A nL p l e R s m args below meth c Q k n ws pc lv (.float x :: st) := by
  subst hq
  exact fun H locs ls hP hD hS hl => lv_f2d X.1 X.2.1 d hne (kk H locs ls hP hD hS hl)
end KH1
def OV (L : List String) (o : OT) : Prop := (∃ r : Int32, o = oI r) ∨ ∃ c, o = oX c ∧ c ∈ L
def OVz (L : List String) (o : OT) : Prop := (∃ zb : Bool, o = oI (bi zb)) ∨ ∃ c, o = oX c ∧ c ∈ L
def OVd (L : List String) (o : OT) : Prop := (∃ r : UInt64, o = oD r) ∨ ∃ c, o = oX c ∧ c ∈ L
def OVf (L : List String) (o : OT) : Prop := (∃ r : UInt32, o = oF r ∧ vf_n64 (FP.f2d r)) ∨ ∃ c, o = oX c ∧ c ∈ L
theorem AGR.ov {L : List String} {o : OT} {T R : Int32} (h : AGR L o T R) : OV L o := by
  rcases h with ⟨h, -⟩ | ⟨c, h1, h2, -⟩
  · exact Or.inl ⟨R, h⟩
  · exact Or.inr ⟨c, h1, h2⟩
/-- what a helper writes -/
def hou (F : Nat → Int64) (o : OT) : Nat → Int64 := match o with
  | .inl (some (.int r)) => vp_updL F 0 r.toInt64
  | _ => F
def hod (D : Nat → UInt64) (o : OT) : Nat → UInt64 := match o with
  | .inl (some (.double r)) => vf_upd D 0 r
  | .inl (some (.float r)) => vf_upd D 0 (FP.f2d r)
  | _ => D
theorem in_0 : vp_in 0 1 := vp_in_nI (a := 0) (by decide) (by decide)
theorem Ca_IOB : Cond.castable xIOB xIOB ∈ lw_ok := ok_in 434 (by decide +kernel) (by decide +kernel)
theorem Ca_IAE : Cond.castable xIAE xIAE ∈ lw_ok := ok_in 450 (by decide +kernel) (by decide +kernel)
theorem Ca_ISE : Cond.castable xISE xISE ∈ lw_ok := ok_in 467 (by decide +kernel) (by decide +kernel)
theorem Ca_NSE : Cond.castable xNSE xNSE ∈ lw_ok := ok_in 566 (by decide +kernel) (by decide +kernel)
theorem Ca_ARE : Cond.castable xARE xARE ∈ lw_ok := ok_in 972 (by decide +kernel) (by decide +kernel)
set_option maxHeartbeats 4000000 in
set_option maxRecDepth 100000 in
theorem k_L_addPool (E : kE) (l : Launch) (b : Nat → Nat) (μ : Sto) (a : Nat → Nat) (σ σ' : Sto) (o d : Nat) (F : Nat → Int64) (D : Nat → UInt64) (x0 : Int32) (x1 : Int32) (x2 : Int32) (x3 : Int32) {fr lo : Nat} {oo : OT} (hM : KT E l yX6_addPool cX6_addPool 5 (some .int) fr lo 4 24 [.ref (a 0), .int x0, .int x1, .int x2, .int x3] (WW E b μ a σ [(o, la E 1 F), (d, da E 1 D)]) oo (WW E b μ a σ' [(o, la E 1 F), (d, da E 1 D)])) (hV : OV [xIOB, xIAE, xISE] oo) : KH E l yL_addPool cL_addPool 7 (some .int) [(0, 14, 17, 13), (0, 14, 21, 15), (0, 14, 25, 17)] (fr + 1) (8 + (5 + 11) + lo) 4 24 [.ref (a 0), .int x0, .int x1, .int x2, .int x3, .ref o] (WW E b μ a σ [(o, la E 1 F), (d, da E 1 D)]) (some (.int (hcd [xIOB, xIAE, xISE] oo))) (WW E b μ a σ' [(o, la E 1 (hou F oo)), (d, da E 1 D)]) := by
  refine KH_start (own := RL) (by decide +kernel) rfl [(0, .ref (a 0)), (1, .int x0), (2, .int x1), (3, .int x2), (4, .int x3), (5, .ref o)] rfl (Nat.le_of_ble_eq_true rfl) (fun p e s m below meth c X hr hT hZ hN => ?_)
  refine g_aload X dL_addPool_0 2 rfl rfl ?_
  refine g_iconst X dL_addPool_2 3 rfl (v := 0) rfl ?_
  refine g_aload_n X dL_addPool_3 4 rfl rfl ?_
  refine g_iload_n X dL_addPool_4 5 rfl rfl ?_
  refine g_iload_n X dL_addPool_5 6 rfl rfl ?_
  refine g_iload_n X dL_addPool_6 7 rfl rfl ?_
  refine g_iload X dL_addPool_7 9 rfl rfl ?_
  refine g_callVT X hZ Lk_L_7 hM dL_addPool_9 rfl 4 rfl (ci := 6) rfl rfl (Nat.le_of_ble_eq_true rfl) ⟨Nat.le_refl _, Nat.le_refl _⟩ ⟨(Nat.le_of_ble_eq_true rfl), (Nat.le_of_ble_eq_true rfl)⟩ (fun v hv => ?_) (fun cls hc => ?_)
  · rcases hV with ⟨r, e⟩ | ⟨c9, e, -⟩
    · obtain rfl : v = some (.int r) := by rw [e] at hv; exact (Sum.inl.inj hv).symm
      refine g_i2l X dL_addPool_12 13 rfl ?_
      refine g_last X dL_addPool_13 14 rfl 51 rfl in_0 (WW E b μ a σ' [(o, la E 1 (hou F oo)), (d, da E 1 D)]) (by rw [e]; rfl) ?_
      refine g_goto X dL_addPool_14 29 rfl ?_
      refine g_iconst X dL_addPool_29 30 rfl (v := 0) rfl ?_
      exact g_iret X hr dL_addPool_30 () (by rw [e]; exact congrArg (fun x => some (Value.int x)) (show hcd [xIOB, xIAE, xISE] (oI r) = 0 from rfl)) rfl
    · rw [e] at hv; cases hv
  · rcases hV with ⟨r, e⟩ | ⟨c9, e, hcm⟩
    · rw [e] at hc; cases hc
    · obtain rfl : c9 = cls := by rw [e] at hc; exact Sum.inr.inj hc
      simp only [List.mem_cons, List.not_mem_nil, or_false] at hcm
      rcases hcm with rfl | rfl | rfl
      · refine gx_catch X hN (by decide) [] ⟨0, 14, 17, 13⟩ [⟨0, 14, 21, 15⟩, ⟨0, 14, 25, 17⟩] (hT.trans rfl) (fun z hz => absurd hz List.not_mem_nil) rfl (by decide) Cl_L_13 Ca_IOB (fun q => ?_)
        refine g_astore X dL_addPool_17 19 rfl (by decide) [(6, .ref q), (0, .ref (a 0)), (1, .int x0), (2, .int x1), (3, .int x2), (4, .int x3), (5, .ref o)] rfl ?_
        refine g_iconst X dL_addPool_19 20 rfl (v := 1) rfl ?_
        exact g_iret X hr dL_addPool_20 () (by rw [e]; exact congrArg (fun x => some (Value.int x)) (show hcd [xIOB, xIAE, xISE] (oX xIOB) = 1 from by decide +kernel)) (by rw [e]; rfl)
      · refine gx_catch X hN (by decide) [⟨0, 14, 17, 13⟩] ⟨0, 14, 21, 15⟩ [⟨0, 14, 25, 17⟩] (hT.trans rfl) (fun z hz => by simp only [List.mem_cons, List.not_mem_nil, or_false] at hz; rcases hz with rfl
        · exact ⟨by decide, xIOB, Cl_L_13, by decide, by decide⟩) rfl (by decide) Cl_L_15 Ca_IAE (fun q => ?_)
        refine g_astore X dL_addPool_21 23 rfl (by decide) [(6, .ref q), (0, .ref (a 0)), (1, .int x0), (2, .int x1), (3, .int x2), (4, .int x3), (5, .ref o)] rfl ?_
        refine g_iconst X dL_addPool_23 24 rfl (v := 2) rfl ?_
        exact g_iret X hr dL_addPool_24 () (by rw [e]; exact congrArg (fun x => some (Value.int x)) (show hcd [xIOB, xIAE, xISE] (oX xIAE) = 2 from by decide +kernel)) (by rw [e]; rfl)
      · refine gx_catch X hN (by decide) [⟨0, 14, 17, 13⟩, ⟨0, 14, 21, 15⟩] ⟨0, 14, 25, 17⟩ [] (hT.trans rfl) (fun z hz => by simp only [List.mem_cons, List.not_mem_nil, or_false] at hz; rcases hz with rfl | rfl
        · exact ⟨by decide, xIOB, Cl_L_13, by decide, by decide⟩
        · exact ⟨by decide, xIAE, Cl_L_15, by decide, by decide⟩) rfl (by decide) Cl_L_17 Ca_ISE (fun q => ?_)
        refine g_astore X dL_addPool_25 27 rfl (by decide) [(6, .ref q), (0, .ref (a 0)), (1, .int x0), (2, .int x1), (3, .int x2), (4, .int x3), (5, .ref o)] rfl ?_
        refine g_iconst X dL_addPool_27 28 rfl (v := 3) rfl ?_
        exact g_iret X hr dL_addPool_28 () (by rw [e]; exact congrArg (fun x => some (Value.int x)) (show hcd [xIOB, xIAE, xISE] (oX xISE) = 3 from by decide +kernel)) (by rw [e]; rfl)

set_option maxHeartbeats 4000000 in
set_option maxRecDepth 100000 in
theorem k_L_exclude (E : kE) (l : Launch) (b : Nat → Nat) (μ : Sto) (a : Nat → Nat) (σ σ' : Sto) (o d : Nat) (F : Nat → Int64) (D : Nat → UInt64) (x0 : Int32) (x1 : Bool) {fr lo : Nat} {oo : OT} (hM : KT E l yX6_exclude cX6_exclude 4 (some .boolean) fr lo 4 24 [.ref (a 0), .int x0, .int (bi x1)] (WW E b μ a σ [(o, la E 1 F), (d, da E 1 D)]) oo (WW E b μ a σ' [(o, la E 1 F), (d, da E 1 D)])) (hV : OVz [xIOB] oo) : KH E l yL_exclude cL_exclude 5 (some .int) [(0, 17, 20, 13)] (fr + 1) (8 + (4 + 11) + lo) 4 24 [.ref (a 0), .int x0, .int (bi x1), .ref o] (WW E b μ a σ [(o, la E 1 F), (d, da E 1 D)]) (some (.int (hcd [xIOB] oo))) (WW E b μ a σ' [(o, la E 1 (hou F oo)), (d, da E 1 D)]) := by
  refine KH_start (own := RL) (by decide +kernel) rfl [(0, .ref (a 0)), (1, .int x0), (2, .int (bi x1)), (3, .ref o)] rfl (Nat.le_of_ble_eq_true rfl) (fun p e s m below meth c X hr hT hZ hN => ?_)
  refine g_aload_n X dL_exclude_0 1 rfl rfl ?_
  refine g_iconst X dL_exclude_1 2 rfl (v := 0) rfl ?_
  refine g_aload_n X dL_exclude_2 3 rfl rfl ?_
  refine g_iload_n X dL_exclude_3 4 rfl rfl ?_
  refine g_iload_n X dL_exclude_4 5 rfl rfl ?_
  refine g_callVT X hZ Lk_L_32 hM dL_exclude_5 rfl 4 rfl (ci := 6) rfl rfl (Nat.le_of_ble_eq_true rfl) ⟨Nat.le_refl _, Nat.le_refl _⟩ ⟨(Nat.le_of_ble_eq_true rfl), (Nat.le_of_ble_eq_true rfl)⟩ (fun v hv => ?_) (fun cls hc => ?_)
  · rcases hV with ⟨zb, e⟩ | ⟨c9, e, -⟩
    · obtain rfl : v = some (.int (bi zb)) := by rw [e] at hv; exact (Sum.inl.inj hv).symm
      cases zb
      · refine g_if_eq (x := 0) X dL_exclude_8 15 11 rfl rfl (fun _ => ?_) (fun c1 => absurd rfl c1)
        refine g_lconst X dL_exclude_15 16 rfl (v := (0 : Int32).toInt64) rfl ?_
        refine g_last X dL_exclude_16 17 rfl 51 rfl in_0 (WW E b μ a σ' [(o, la E 1 (hou F oo)), (d, da E 1 D)]) (by rw [e]; rfl) ?_
        refine g_goto X dL_exclude_17 24 rfl ?_
        refine g_iconst X dL_exclude_24 25 rfl (v := 0) rfl ?_
        exact g_iret X hr dL_exclude_25 () (by rw [e]; exact congrArg (fun x => some (Value.int x)) (show hcd [xIOB] (oI (bi false)) = 0 from rfl)) rfl
      · refine g_if_eq (x := 1) X dL_exclude_8 15 11 rfl rfl (fun c1 => absurd c1 (by decide)) (fun _ => ?_)
        refine g_lconst X dL_exclude_11 12 rfl (v := (1 : Int32).toInt64) rfl ?_
        refine g_goto X dL_exclude_12 16 rfl ?_
        refine g_last X dL_exclude_16 17 rfl 51 rfl in_0 (WW E b μ a σ' [(o, la E 1 (hou F oo)), (d, da E 1 D)]) (by rw [e]; rfl) ?_
        refine g_goto X dL_exclude_17 24 rfl ?_
        refine g_iconst X dL_exclude_24 25 rfl (v := 0) rfl ?_
        exact g_iret X hr dL_exclude_25 () (by rw [e]; exact congrArg (fun x => some (Value.int x)) (show hcd [xIOB] (oI (bi true)) = 0 from rfl)) rfl
    · rw [e] at hv; cases hv
  · rcases hV with ⟨r, e⟩ | ⟨c9, e, hcm⟩
    · rw [e] at hc; cases hc
    · obtain rfl : c9 = cls := by rw [e] at hc; exact Sum.inr.inj hc
      simp only [List.mem_cons, List.not_mem_nil, or_false] at hcm
      rcases hcm with rfl
      · refine gx_catch X hN (by decide) [] ⟨0, 17, 20, 13⟩ [] (hT.trans rfl) (fun z hz => absurd hz List.not_mem_nil) rfl (by decide) Cl_L_13 Ca_IOB (fun q => ?_)
        refine g_astore X dL_exclude_20 22 rfl (by decide) [(4, .ref q), (0, .ref (a 0)), (1, .int x0), (2, .int (bi x1)), (3, .ref o)] rfl ?_
        refine g_iconst X dL_exclude_22 23 rfl (v := 1) rfl ?_
        exact g_iret X hr dL_exclude_23 () (by rw [e]; exact congrArg (fun x => some (Value.int x)) (show hcd [xIOB] (oX xIOB) = 1 from by decide +kernel)) (by rw [e]; rfl)

set_option maxHeartbeats 4000000 in
set_option maxRecDepth 100000 in
theorem k_L_utilization (E : kE) (l : Launch) (b : Nat → Nat) (μ : Sto) (a : Nat → Nat) (σ σ' : Sto) (o d : Nat) (F : Nat → Int64) (D : Nat → UInt64) (x0 : Int32) {fr lo : Nat} {oo : OT} (hM : KT E l yX6_utilization cX6_utilization 3 (some .double) fr lo 4 24 [.ref (a 0), .int x0] (WW E b μ a σ [(o, la E 1 F), (d, da E 1 D)]) oo (WW E b μ a σ' [(o, la E 1 F), (d, da E 1 D)])) (hV : OVd [xIOB, xARE] oo) : KH E l yL_utilization cL_utilization 4 (some .int) [(0, 8, 11, 13), (0, 8, 14, 112)] (fr + 1) (8 + (3 + 11) + lo) 4 24 [.ref (a 0), .int x0, .ref d] (WW E b μ a σ [(o, la E 1 F), (d, da E 1 D)]) (some (.int (hcd [xIOB, xARE] oo))) (WW E b μ a σ' [(o, la E 1 F), (d, da E 1 (hod D oo))]) := by
  refine KH_start (own := RL) (by decide +kernel) rfl [(0, .ref (a 0)), (1, .int x0), (2, .ref d)] rfl (Nat.le_of_ble_eq_true rfl) (fun p e s m below meth c X hr hT hZ hN => ?_)
  refine g_aload_n X dL_utilization_0 1 rfl rfl ?_
  refine g_iconst X dL_utilization_1 2 rfl (v := 0) rfl ?_
  refine g_aload_n X dL_utilization_2 3 rfl rfl ?_
  refine g_iload_n X dL_utilization_3 4 rfl rfl ?_
  refine g_callVT X hZ Lk_L_108 hM dL_utilization_4 rfl 4 rfl (ci := 6) rfl rfl (Nat.le_of_ble_eq_true rfl) ⟨Nat.le_refl _, Nat.le_refl _⟩ ⟨(Nat.le_of_ble_eq_true rfl), (Nat.le_of_ble_eq_true rfl)⟩ (fun v hv => ?_) (fun cls hc => ?_)
  · rcases hV with ⟨r, e⟩ | ⟨c9, e, -⟩
    · obtain rfl : v = some (.double r) := by rw [e] at hv; exact (Sum.inl.inj hv).symm
      refine g_dast X dL_utilization_7 8 rfl 52 rfl in_0 (WW E b μ a σ' [(o, la E 1 F), (d, da E 1 (hod D oo))]) (by rw [e]; rfl) ?_
      refine g_goto X dL_utilization_8 17 rfl ?_
      refine g_iconst X dL_utilization_17 18 rfl (v := 0) rfl ?_
      exact g_iret X hr dL_utilization_18 () (by rw [e]; exact congrArg (fun x => some (Value.int x)) (show hcd [xIOB, xARE] (oD r) = 0 from rfl)) rfl
    · rw [e] at hv; cases hv
  · rcases hV with ⟨r, e⟩ | ⟨c9, e, hcm⟩
    · rw [e] at hc; cases hc
    · obtain rfl : c9 = cls := by rw [e] at hc; exact Sum.inr.inj hc
      simp only [List.mem_cons, List.not_mem_nil, or_false] at hcm
      rcases hcm with rfl | rfl
      · refine gx_catch X hN (by decide) [] ⟨0, 8, 11, 13⟩ [⟨0, 8, 14, 112⟩] (hT.trans rfl) (fun z hz => absurd hz List.not_mem_nil) rfl (by decide) Cl_L_13 Ca_IOB (fun q => ?_)
        refine g_astore_n X dL_utilization_11 12 rfl (by decide) [(3, .ref q), (0, .ref (a 0)), (1, .int x0), (2, .ref d)] rfl ?_
        refine g_iconst X dL_utilization_12 13 rfl (v := 1) rfl ?_
        exact g_iret X hr dL_utilization_13 () (by rw [e]; exact congrArg (fun x => some (Value.int x)) (show hcd [xIOB, xARE] (oX xIOB) = 1 from by decide +kernel)) (by rw [e]; rfl)
      · refine gx_catch X hN (by decide) [⟨0, 8, 11, 13⟩] ⟨0, 8, 14, 112⟩ [] (hT.trans rfl) (fun z hz => by simp only [List.mem_cons, List.not_mem_nil, or_false] at hz; rcases hz with rfl
        · exact ⟨by decide, xIOB, Cl_L_13, by decide, by decide⟩) rfl (by decide) Cl_L_112 Ca_ARE (fun q => ?_)
        refine g_astore_n X dL_utilization_14 15 rfl (by decide) [(3, .ref q), (0, .ref (a 0)), (1, .int x0), (2, .ref d)] rfl ?_
        refine g_iconst X dL_utilization_15 16 rfl (v := 2) rfl ?_
        exact g_iret X hr dL_utilization_16 () (by rw [e]; exact congrArg (fun x => some (Value.int x)) (show hcd [xIOB, xARE] (oX xARE) = 2 from by decide +kernel)) (by rw [e]; rfl)

set_option maxHeartbeats 4000000 in
set_option maxRecDepth 100000 in
theorem k_L_averageRest (E : kE) (l : Launch) (b : Nat → Nat) (μ : Sto) (a : Nat → Nat) (σ σ' : Sto) (o d : Nat) (F : Nat → Int64) (D : Nat → UInt64) {fr lo : Nat} {oo : OT} (hM : KT E l yX6_averageRest cX6_averageRest 2 (some .float) fr lo 4 24 [.ref (a 0)] (WW E b μ a σ [(o, la E 1 F), (d, da E 1 D)]) oo (WW E b μ a σ' [(o, la E 1 F), (d, da E 1 D)])) (hV : OVf [xARE] oo) : KH E l yL_averageRest cL_averageRest 3 (some .int) [(0, 8, 11, 112)] (fr + 1) (8 + (2 + 11) + lo) 4 24 [.ref (a 0), .ref d] (WW E b μ a σ [(o, la E 1 F), (d, da E 1 D)]) (some (.int (hcd [xARE] oo))) (WW E b μ a σ' [(o, la E 1 F), (d, da E 1 (hod D oo))]) := by
  refine KH_start (own := RL) (by decide +kernel) rfl [(0, .ref (a 0)), (1, .ref d)] rfl (Nat.le_of_ble_eq_true rfl) (fun p e s m below meth c X hr hT hZ hN => ?_)
  refine g_aload_n X dL_averageRest_0 1 rfl rfl ?_
  refine g_iconst X dL_averageRest_1 2 rfl (v := 0) rfl ?_
  refine g_aload_n X dL_averageRest_2 3 rfl rfl ?_
  refine g_callVT X hZ Lk_L_114 hM dL_averageRest_3 rfl 4 rfl (ci := 6) rfl rfl (Nat.le_of_ble_eq_true rfl) ⟨Nat.le_refl _, Nat.le_refl _⟩ ⟨(Nat.le_of_ble_eq_true rfl), (Nat.le_of_ble_eq_true rfl)⟩ (fun v hv => ?_) (fun cls hc => ?_)
  · rcases hV with ⟨r, e, hne⟩ | ⟨c9, e, -⟩
    · obtain rfl : v = some (.float r) := by rw [e] at hv; exact (Sum.inl.inj hv).symm
      refine g_f2d X dL_averageRest_6 7 rfl hne ?_
      refine g_dast X dL_averageRest_7 8 rfl 52 rfl in_0 (WW E b μ a σ' [(o, la E 1 F), (d, da E 1 (hod D oo))]) (by rw [e]; rfl) ?_
      refine g_goto X dL_averageRest_8 14 rfl ?_
      refine g_iconst X dL_averageRest_14 15 rfl (v := 0) rfl ?_
      exact g_iret X hr dL_averageRest_15 () (by rw [e]; exact congrArg (fun x => some (Value.int x)) (show hcd [xARE] (oF r) = 0 from rfl)) rfl
    · rw [e] at hv; cases hv
  · rcases hV with ⟨r, e, -⟩ | ⟨c9, e, hcm⟩
    · rw [e] at hc; cases hc
    · obtain rfl : c9 = cls := by rw [e] at hc; exact Sum.inr.inj hc
      simp only [List.mem_cons, List.not_mem_nil, or_false] at hcm
      rcases hcm with rfl
      · refine gx_catch X hN (by decide) [] ⟨0, 8, 11, 112⟩ [] (hT.trans rfl) (fun z hz => absurd hz List.not_mem_nil) rfl (by decide) Cl_L_112 Ca_ARE (fun q => ?_)
        refine g_astore_n X dL_averageRest_11 12 rfl (by decide) [(2, .ref q), (0, .ref (a 0)), (1, .ref d)] rfl ?_
        refine g_iconst X dL_averageRest_12 13 rfl (v := 1) rfl ?_
        exact g_iret X hr dL_averageRest_13 () (by rw [e]; exact congrArg (fun x => some (Value.int x)) (show hcd [xARE] (oX xARE) = 1 from by decide +kernel)) (by rw [e]; rfl)
