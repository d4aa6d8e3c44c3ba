section EN1
variable {E : kE} {A : Nat → Prop} {own : String} {cc : ByteArray} {nL : Nat} {p : Program} {l : Launch} {e : Env} {R : Room} {s : State} {m : MethodId} {args : Array Value} {below : List Frame} {meth : Method} {c : Code} {Q : State → Prop} {k n : Nat} {ws : va_W} {pc : Nat} {lv : List (Nat × Value)} {st st0 : List Value}
theorem g_newaL (X : CX E A own cc nL p s m meth c) (d : decode cc pc = .ok (.newarray .long, 2)) (q : Nat) (hq : pc + 2 = q) (N k' n' : Nat) {w : Int32} (hw : ¬ w < 0) (hN : w.toNatClampNeg = N) (hb : N * 8 ≤ 536870912) (hk : k + 1 ≤ R.cells) (hn : n + N ≤ R.slots) (hk2 : k + 1 = k') (hn2 : n + N = n') (kk : ∀ a : Nat, G E A nL p l e R s m args below meth c Q k' n' (ws ++ [(a, la E N (fun _ => 0))]) q lv (.ref a :: st)) : G E A nL p l e R s m args below meth c Q k n ws pc lv (.int w :: st) := by
  subst hq; subst hk2; subst hn2
  have ts := X.2.2.2.2.1.2.1.ts (args := args)
  refine fun H locs ls hP hD hS hl => va_newa (atype := .long) (ty := .long) (N' := N) (a0 := (N, .inr (.inl (fun _ => 0)))) X.1 X.2.1 (ts _ Ar_long) rfl X.2.2.2.2.1.1 hP hD hS X.2.2.2.2.2.2 (fun _ => rfl) hw hN hb hk hn d (fun a cA H1 hK1 hP1 hD1 hS1 => ?_)
  have e1 : E.2 2 = cA := arr_one hK1 (t0 := 2) (t1 := 4) rfl rfl rfl
  subst e1
  exact kk a H1 locs ls hP1 hD1 hS1 hl
theorem g_newaD (X : CX E A own cc nL p s m meth c) (d : decode cc pc = .ok (.newarray .double, 2)) (q : Nat) (hq : pc + 2 = q) (N k' n' : Nat) {w : Int32} (hw : ¬ w < 0) (hN : w.toNatClampNeg = N) (hb : N * 8 ≤ 536870912) (hk : k + 1 ≤ R.cells) (hn : n + N ≤ R.slots) (hk2 : k + 1 = k') (hn2 : n + N = n') (kk : ∀ a : Nat, G E A nL p l e R s m args below meth c Q k' n' (ws ++ [(a, da E N (fun _ => 0))]) q lv (.ref a :: st)) : G E A nL p l e R s m args below meth c Q k n ws pc lv (.int w :: st) := by
  subst hq; subst hk2; subst hn2
  have ts := X.2.2.2.2.1.2.1.ts (args := args)
  refine fun H locs ls hP hD hS hl => va_newa (atype := .double) (ty := .double) (N' := N) (a0 := (N, .inr (.inr (.inr (.inl (fun _ => 0)))))) X.1 X.2.1 (ts _ Ar_double) rfl X.2.2.2.2.1.1 hP hD hS X.2.2.2.2.2.2 (fun _ => rfl) hw hN hb hk hn d (fun a cA H1 hK1 hP1 hD1 hS1 => ?_)
  have e1 : E.2 3 = cA := arr_one hK1 (t0 := 3) (t1 := 4) rfl rfl rfl
  subst e1
  exact kk a H1 locs ls hP1 hD1 hS1 hl
theorem g_sub (is : List Nat) (ws' : va_W) (h1 : is.filterMap (fun i => ws[i]?) = ws') (hn : va_nd is = true) (h2 : is.map (fun i => ws[i]?) = ws'.map some) (kk : G E A nL p l e R s m args below meth c Q k n ws' pc lv st) : G E A nL p l e R s m args below meth c Q k n ws pc lv st := fun H locs ls hP hD hS hl => kk H locs ls (hP.sub is h1) (hD.sub is hn h2) hS hl
end EN1
def aU (h : Nat) (u : Nat → Nat) : Nat → Nat
  | 0 => h
  | j + 1 => u j
def mu0 : Sto := fun k => match k with
  | 1 => N0
  | _ => fun _ => 0
theorem RT_0 : RTl sg0 mu0 := op_init
set_option maxHeartbeats 4000000 in
set_option maxRecDepth 100000 in
theorem law_entry {E : kE} {p : Program} {l : Launch} {e : Env} {s : State} {m : MethodId} {below : List Frame} {meth : Method} {c : Code} {Q : State → Prop} {sb L : Nat} {xs : Nat → Int32} (C : LC E p l s m meth c sb L xs) (hend : ∀ (a b : Nat → Nat) (o d i k n : Nat) (ws : va_W), k ≤ 3161 → n ≤ 122043 → G E (LA s) 9 p l e room_1 s m #[.ref sb] below meth c Q k n ws 2290 (lvL sb o d a b i) []) : G E (LA s) 9 p l e room_1 s m #[.ref sb] below meth c Q 0 0 [] 0 [(0, .ref sb)] [] := by
  obtain ⟨X, hZ, hN, hX, hbl, hL, hlt⟩ := id C
  refine g_ws ([] ++ []) rfl ?_
  refine ga_new X (w := []) (L := []) (ci := 6) 1 4 Cl_L_8 In_X6 uws_X6 fk_X6 rfl dL_law_0 3 rfl [.null, .null, .null, .int 0] ?_ (Nat.le_of_ble_eq_true rfl) (Nat.le_of_ble_eq_true rfl) rfl rfl (fun u1 => ?_)
  · intro j hj
    have hj2 : j = 0 ∨ j = 1 ∨ j = 2 ∨ j = 3 := by omega
    rcases hj2 with rfl | rfl | rfl | rfl <;> rfl
  refine g_dup X dL_law_3 4 rfl rfl ?_
  refine ga_I X (w := []) (L := []) Lk_L_121 rfl (k_X6_init E l u1) dL_law_4 rfl rfl (Nat.le_of_ble_eq_true rfl) ⟨(Nat.le_of_ble_eq_true rfl), (Nat.le_of_ble_eq_true rfl)⟩ ⟨(Nat.le_of_ble_eq_true rfl), (Nat.le_of_ble_eq_true rfl)⟩ 7 47 1543 rfl rfl rfl (fun v1 => ?_)
  refine g_astore_n X dL_law_7 8 rfl (by decide) [(1, .ref u1), (0, .ref sb)] rfl ?_
  refine ga_new X (ci := 7) 48 1549 Cl_L_122 In_X7 uws_X7 fk_X7 rfl dL_law_8 11 rfl [.int 0, .null, .null, .int 0, .null, .int 0] ?_ (Nat.le_of_ble_eq_true rfl) (Nat.le_of_ble_eq_true rfl) rfl rfl (fun u2 => ?_)
  · intro j hj
    have hj2 : j = 0 ∨ j = 1 ∨ j = 2 ∨ j = 3 ∨ j = 4 ∨ j = 5 := by omega
    rcases hj2 with rfl | rfl | rfl | rfl | rfl | rfl <;> rfl
  refine g_dup X dL_law_11 12 rfl rfl ?_
  refine ga_I X Lk_L_124 rfl (k_X7_init E l u2) dL_law_12 rfl rfl (Nat.le_of_ble_eq_true rfl) ⟨(Nat.le_of_ble_eq_true rfl), (Nat.le_of_ble_eq_true rfl)⟩ ⟨(Nat.le_of_ble_eq_true rfl), (Nat.le_of_ble_eq_true rfl)⟩ 15 51 3041 rfl rfl rfl (fun v2 => ?_)
  refine g_astore_n X dL_law_15 16 rfl (by decide) [(2, .ref u2), (1, .ref u1), (0, .ref sb)] rfl ?_
  refine g_iconst X dL_law_16 17 rfl (v := 1) rfl ?_
  refine g_newaL X dL_law_17 19 rfl 1 52 3042 (by decide) (by decide) (by decide) (Nat.le_of_ble_eq_true rfl) (Nat.le_of_ble_eq_true rfl) rfl rfl (fun o => ?_)
  refine g_astore_n X dL_law_19 20 rfl (by decide) [(3, .ref o), (2, .ref u2), (1, .ref u1), (0, .ref sb)] rfl ?_
  refine g_iconst X dL_law_20 21 rfl (v := 1) rfl ?_
  refine g_newaD X dL_law_21 23 rfl 1 53 3043 (by decide) (by decide) (by decide) (Nat.le_of_ble_eq_true rfl) (Nat.le_of_ble_eq_true rfl) rfl rfl (fun d => ?_)
  refine g_astore X dL_law_23 25 rfl (by decide) [(4, .ref d), (3, .ref o), (2, .ref u2), (1, .ref u1), (0, .ref sb)] rfl ?_
  refine g_iconst X dL_law_25 26 rfl (v := 0) rfl ?_
  refine g_istore X dL_law_26 28 rfl (by decide) (lvL sb o d (aU u1 v1) (aU u2 v2) 0) rfl ?_
  refine g_sub [47, 48, 49, 50, 0, 1, 2, 3, 4, 5, 6, 7, 8, 9, 10, 11, 12, 13, 14, 15, 16, 17, 18, 19, 20, 21, 22, 23, 24, 25, 26, 27, 28, 29, 30, 31, 32, 33, 34, 35, 36, 37, 38, 39, 40, 41, 42, 43, 44, 45, 46, 51, 52] (WL E (aU u2 v2) mu0 (aU u1 v1) sg0 o d (fun _ => 0) (fun _ => 0)) rfl rfl rfl ?_
  exact law_loop C (fun i k n ws hk hn => hend _ _ _ _ i k n ws hk hn) 512 0 53 3043 sg0 mu0 _ _ (by omega) (by omega) (by omega) (by omega) RT_0
theorem kx_start {s : State} {sb : Nat} (hts : ∀ w ∈ lw_tbl, w.before #[Value.ref sb] s = true) : ∃ E : kE, KX E s := by
  have tb : TB s := fun w hw => ok_args (List.mem_filter.mp hw).2 (hts w (List.mem_filter.mp hw).1)
  have ts : ∀ w ∈ lw_ok, w.before #[] s = true := tb
  have HC : ∀ c : Nat, ∃ p : ClassId × (Nat → Nat), ∀ q, kcl[c]? = some q → u_Kn s q.1 q.2.1 q.2.2 p.1 p.2 := by
    intro c
    rcases c with _ | _ | _ | _ | _ | _ | _ | _ | c
    · obtain ⟨cC, iS, h⟩ := u_known ts uws_X0 (ts _ In_X0.1)
      exact ⟨(cC, iS), fun q hq => by cases hq; exact h⟩
    · obtain ⟨cC, iS, h⟩ := u_known ts uws_X1 (ts _ In_X1.1)
      exact ⟨(cC, iS), fun q hq => by cases hq; exact h⟩
    · obtain ⟨cC, iS, h⟩ := u_known ts uws_X2 (ts _ In_X2.1)
      exact ⟨(cC, iS), fun q hq => by cases hq; exact h⟩
    · obtain ⟨cC, iS, h⟩ := u_known ts uws_X3 (ts _ In_X3.1)
      exact ⟨(cC, iS), fun q hq => by cases hq; exact h⟩
    · obtain ⟨cC, iS, h⟩ := u_known ts uws_X4 (ts _ In_X4.1)
      exact ⟨(cC, iS), fun q hq => by cases hq; exact h⟩
    · obtain ⟨cC, iS, h⟩ := u_known ts uws_X5 (ts _ In_X5.1)
      exact ⟨(cC, iS), fun q hq => by cases hq; exact h⟩
    · obtain ⟨cC, iS, h⟩ := u_known ts uws_X6 (ts _ In_X6.1)
      exact ⟨(cC, iS), fun q hq => by cases hq; exact h⟩
    · obtain ⟨cC, iS, h⟩ := u_known ts uws_X7 (ts _ In_X7.1)
      exact ⟨(cC, iS), fun q hq => by cases hq; exact h⟩
    · exact ⟨(0, fun _ => 0), fun q hq => absurd hq (by simp)⟩
  have A0 : ∃ cA, ArrOfT s cA .int ∧ va_RA s cA .int := by
    obtain ⟨c, k, comp, h1, h2, h3⟩ := Cond.arrayClass_spec (ts _ Ar_int)
    exact ⟨c, fun n z => ⟨fun k9 h9 => (by cases h9), k, h2, comp, h3⟩, h1⟩
  have A1 : ∃ cA, ArrOfT s cA .boolean ∧ va_RA s cA .boolean := by
    obtain ⟨c, k, comp, h1, h2, h3⟩ := Cond.arrayClass_spec (ts _ Ar_boolean)
    exact ⟨c, fun n z => ⟨fun k9 h9 => (by cases h9), k, h2, comp, h3⟩, h1⟩
  have A2 : ∃ cA, ArrOfT s cA .long ∧ va_RA s cA .long := by
    obtain ⟨c, k, comp, h1, h2, h3⟩ := Cond.arrayClass_spec (ts _ Ar_long)
    exact ⟨c, fun n z => ⟨fun k9 h9 => (by cases h9), k, h2, comp, h3⟩, h1⟩
  have A3 : ∃ cA, ArrOfT s cA .double ∧ va_RA s cA .double := by
    obtain ⟨c, k, comp, h1, h2, h3⟩ := Cond.arrayClass_spec (ts _ Ar_double)
    exact ⟨c, fun n z => ⟨fun k9 h9 => (by cases h9), k, h2, comp, h3⟩, h1⟩
  obtain ⟨c0, a0⟩ := A0
  obtain ⟨c1, a1⟩ := A1
  obtain ⟨c2, a2⟩ := A2
  obtain ⟨c3, a3⟩ := A3
  have SK0 : SK s := by
    intro q hq
    have e : strs.map (fun q => some (Cond.stringRef RX6 q.1 q.2)) = ([456, 463, 473, 484, 521, 542, 600, 608, 636, 637, 706, 714, 776, 788, 790, 848, 864, 872, 898, 906, 914, 923, 931, 944, 978, 987, 1001, 554, 634, 440, 516, 572, 751] : List Nat).map (fun i => lw_tbl[i]?) := by decide +kernel
    have h1 : some (Cond.stringRef RX6 q.1 q.2) ∈ strs.map (fun q => some (Cond.stringRef RX6 q.1 q.2)) := List.mem_map.mpr ⟨q, hq, rfl⟩
    rw [e] at h1
    obtain ⟨i, -, hi⟩ := List.mem_map.mp h1
    have h2 := hts _ (List.mem_of_getElem? hi)
    obtain ⟨cC, kC, hfc, -⟩ := Cond.instantiable_spec (ts _ In_X6.1)
    obtain ⟨k, cf, i2, a, -, -, -, -, -, h3⟩ := Cond.stringRef_spec hfc h2
    exact ⟨a, vk_R.of h2 h3⟩
  refine ⟨((fun c => (Classical.choose (HC c)).1, fun c => (Classical.choose (HC c)).2), fun t => match t with | 0 => c0 | 1 => c1 | 2 => c2 | _ => c3), ⟨⟨fun c q hq => Classical.choose_spec (HC c) q hq, fun k q hk => ?_⟩, tb, SK0⟩⟩
  rcases k with _ | _ | _ | _ | k
  · cases hk; exact a0
  · cases hk; exact a1
  · cases hk; exact a2
  · cases hk; exact a3
  · exact absurd hk (by simp)
theorem zq_start {s : State} {sb : Nat} (hts : ∀ w ∈ lw_tbl, w.before #[Value.ref sb] s = true) (hgv : (Jvm.Cond.and given_1 narrow_1).before #[Value.ref sb] s = true) : ZQ (LA s) s := by
  have hs := flat_of_before _ hgv
  exact ⟨vx_Zqof (hts _ (List.mem_of_getElem? (i := 358) (by decide +kernel))) (hts _ (List.mem_of_getElem? (i := 50) (by decide +kernel))) (hs _ (by decide +kernel)) (fun a h => Nat.not_le.mpr h), vx_Zqof (hts _ (List.mem_of_getElem? (i := 360) (by decide +kernel))) (hts _ (List.mem_of_getElem? (i := 50) (by decide +kernel))) (hs _ (by decide +kernel)) (fun a h => Nat.not_le.mpr h)⟩
theorem nx_start {s : State} {sb : Nat} (hgv : (Jvm.Cond.and given_1 narrow_1).before #[Value.ref sb] s = true) : NX s := by
  have hs := flat_of_before _ hgv
  have hm : ∀ a ∈ xcs, ∀ b ∈ xcs, a ≠ b → Cond.not (.castable a b) ∈ flatC (Jvm.Cond.and given_1 narrow_1) := by decide +kernel
  exact fun a ha b hb hab => va_Nc.of (hs _ (hm a ha b hb hab))
