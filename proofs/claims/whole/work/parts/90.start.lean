-- ===== end of PART A; then your names; then what follows =====
/-! THE CLAIM OUT OF ONE WALK OF THE LAW'S BODY. Your part is whole_start (and what it stands on); all else here is the same for every law, but numbers. -/
def R_law : String := "ButtonTinLaw"
def lw_P (b : Addr) (xs : List Int32) (args : Array Value) (s : State) : Prop := args = #[.ref b] ∧ s.IntsAt b xs ∧ xs.length ≤ 1536 ∧ (Jvm.Cond.and given_1 narrow_1).before args s = true
def lw_Q (_ : Array Value) (s : State) (o : Outcome) (t : State) : Prop := o = .returned (some (.int 1)) ∧ Framed s o t [] 600000 7302250
def lw_Z (below : List Frame) (a : Array Value) (s : State) : State → Prop := fun t => ∃ o, t.status = .running ∧ Ended t below o ∧ lw_Q a s o t
/-- the law's own end, with 1 on the stack, nothing written that was there before, its room as the claim has it -/
theorem lw_ret {p : Program} {l : Launch} {e : Env} {s : State} {m : MethodId} {below : List Frame} {meth : Method} {c : Code} {b : Nat} (hx : p.tables.exec = Jvm.exec) (hb : c.code = code) (hr : meth.sig.returnType = ret) (hlocks : meth.locks = false) {pc : Nat} {H : Heap} {ls : Array Slot} (hdg : decode code pc = .ok (.ireturn, 1)) : W p l e room_1 s m #[Value.ref b] below meth c H [] 600000 7302250 (lw_Z below #[Value.ref b] s) (F0 m pc ls [.int 1]) := by
  intro T hT X
  obtain ⟨fs, hret, hrun, hended, hW, hframe⟩ := X.leave (v := some (.int 1)) (hlocks := hlocks) (fun h => by rw [hr] at h; cases h)
  have hmeth' : T.vm.method? m = some meth := X.method'
  refine ⟨T.setFrames fs, ?_, .returned (some (.int 1)), hrun, hended, rfl, ⟨_, rfl⟩, hW, hframe⟩
  jvm_step X.here [X.here.top, hx, hb, hdg, hmeth', hr, ret, narrow_b1]
  (try refine ⟨rfl, ?_⟩); (try refine ⟨rfl, ?_⟩)
  first | (intro acts; rw [hret _ acts rfl rfl rfl]) | rw [hret _ _ rfl rfl rfl]
  exact Steps.refl _
/-- what holds at the law's entry: the machine, the code, the tables' words (any of lw_tbl by 'hts w (by decide +kernel)'), the script of L ints xs at the cell b, what the Statement gives of the start (any of its parts by flat_of_before) -/
def lw_At (p : Program) (s : State) (m : MethodId) (meth : Method) (c : Code) (b L : Nat) (xs : Nat → Int32) : Prop :=
  p.tables.exec = Jvm.exec ∧ c.code = code ∧ meth.sig.returnType = ret ∧ c.maxLocals = 4 ∧ s.vm.findClass R_law = some m.cls ∧ (∀ w ∈ lw_tbl, w.before #[Value.ref b] s = true) ∧ va_X b L xs s s.heap ∧ b < s.heap.size ∧ meth.locks = false ∧ (Jvm.Cond.and given_1 narrow_1).before #[Value.ref b] s = true ∧ meth.name = "law"
theorem V_ext {Γ : GE} {d n0 nE : Nat} {M : MD} {Q : Option Value → HP → Prop} {pc n : Nat} {ls st : List Value} {G G2 : HP} (e : ∀ k, k < n → ∀ j, j < (lay k).2 → G k j = G2 k j) (K : V Γ d n0 nE M Q pc ls st n G2) : V Γ d n0 nE M Q pc ls st n G := by
  intro p l e0 R s m args below meth c Fin C H locs lsA hl hR hS
  exact K p l e0 R s m args below meth c Fin C H locs lsA hl (Rl_ext hR e) hS
theorem nst_m : ∀ q ∈ nstM, Cond.methodLinkNest q.1 q.2.1 q.2.2.1 q.2.2.2 ∈ lw_tbl := by
  intro q hq
  have h : nstM.map (fun q => Cond.methodLinkNest q.1 q.2.1 q.2.2.1 q.2.2.2) = ([86, 105, 111, 138, 169, 183, 200, 251, 253, 258, 535, 703, 755] : List Nat).filterMap (fun i => lw_tbl[i]?) := by decide +kernel
  have h1 : Cond.methodLinkNest q.1 q.2.1 q.2.2.1 q.2.2.2 ∈ nstM.map (fun q => Cond.methodLinkNest q.1 q.2.1 q.2.2.1 q.2.2.2) := List.mem_map.mpr ⟨q, hq, rfl⟩
  rw [h] at h1
  obtain ⟨i, -, hi⟩ := List.mem_filterMap.mp h1
  exact List.mem_of_getElem? hi
theorem nst_f : ∀ q ∈ nstF, Cond.fieldLinkNest q.1 q.2.1 q.2.2.1 q.2.2.2.1 q.2.2.2.2.1 q.2.2.2.2.2 ∈ lw_tbl := by
  intro q hq
  have h : nstF.map (fun q => Cond.fieldLinkNest q.1 q.2.1 q.2.2.1 q.2.2.2.1 q.2.2.2.2.1 q.2.2.2.2.2) = ([418, 420, 429, 431, 437] : List Nat).filterMap (fun i => lw_tbl[i]?) := by decide +kernel
  have h1 : Cond.fieldLinkNest q.1 q.2.1 q.2.2.1 q.2.2.2.1 q.2.2.2.2.1 q.2.2.2.2.2 ∈ nstF.map (fun q => Cond.fieldLinkNest q.1 q.2.1 q.2.2.1 q.2.2.2.1 q.2.2.2.2.1 q.2.2.2.2.2) := List.mem_map.mpr ⟨q, hq, rfl⟩
  rw [h] at h1
  obtain ⟨i, -, hi⟩ := List.mem_filterMap.mp h1
  exact List.mem_of_getElem? hi
theorem gw_tbl {w : Cond} (h : w ∈ gw) : w ∈ lw_tbl := (List.mem_filter.mp h).1
theorem st_0 {args : Array Value} {s : State} {A : Nat → Prop} (hts : ∀ w ∈ lw_tbl, w.before args s = true) (hs : ∀ c ∈ flatC (Jvm.Cond.and given_1 narrow_1), c.before args s = true) (hA : ∀ a : Nat, a < s.heap.size → ¬ A a) : ∃ t : Nat, va_Z "ButtonTin" (snm 0).1 "[I" (.ref t) A s s.heap ∧ va_T .int t (snm 0).2 (fun j => .int (sval 0 j)) A s s.heap := by
  have hel : ∀ j : Nat, j < 5 → Cond.eq (.elem (.static "ButtonTin" "MOST" "[I") (.int (Int32.ofNat j))) (.int (sval 0 j)) ∈ flatC (Jvm.Cond.and given_1 narrow_1) := by decide +kernel
  obtain ⟨t, ht, hT⟩ := va_Tof (tm := .static "ButtonTin" "MOST" "[I") (ty := .int) (N := 5) (f := fun j => .int (sval 0 j)) (A := A) (by decide) (hs _ (by decide +kernel)) (va_eqt (hs (Cond.eq (.length (.static "ButtonTin" "MOST" "[I")) (.int (Int32.ofNat 5))) (by decide +kernel))) (fun j hj => va_eqt (hs _ (hel j hj))) hA
  exact ⟨t, va_Zref (hts (.laysStatic "ButtonTin" "MOST" "[I") (List.mem_of_getElem? (i := 419) (by decide +kernel))) (hts (.initialized "ButtonTin") (List.mem_of_getElem? (i := 56) (by decide +kernel))) ht hA, hT⟩
theorem st_1 {args : Array Value} {s : State} {A : Nat → Prop} (hts : ∀ w ∈ lw_tbl, w.before args s = true) (hs : ∀ c ∈ flatC (Jvm.Cond.and given_1 narrow_1), c.before args s = true) (hA : ∀ a : Nat, a < s.heap.size → ¬ A a) : ∃ t : Nat, va_Z "ButtonTin" (snm 1).1 "[I" (.ref t) A s s.heap ∧ va_T .int t (snm 1).2 (fun j => .int (sval 1 j)) A s s.heap := by
  have hel : ∀ j : Nat, j < 5 → Cond.eq (.elem (.static "ButtonTin" "FIRST_ROW" "[I") (.int (Int32.ofNat j))) (.int (sval 1 j)) ∈ flatC (Jvm.Cond.and given_1 narrow_1) := by decide +kernel
  obtain ⟨t, ht, hT⟩ := va_Tof (tm := .static "ButtonTin" "FIRST_ROW" "[I") (ty := .int) (N := 5) (f := fun j => .int (sval 1 j)) (A := A) (by decide) (hs _ (by decide +kernel)) (va_eqt (hs (Cond.eq (.length (.static "ButtonTin" "FIRST_ROW" "[I")) (.int (Int32.ofNat 5))) (by decide +kernel))) (fun j hj => va_eqt (hs _ (hel j hj))) hA
  exact ⟨t, va_Zref (hts (.laysStatic "ButtonTin" "FIRST_ROW" "[I") (List.mem_of_getElem? (i := 438) (by decide +kernel))) (hts (.initialized "ButtonTin") (List.mem_of_getElem? (i := 56) (by decide +kernel))) ht hA, hT⟩
theorem st_2 {args : Array Value} {s : State} {A : Nat → Prop} (hts : ∀ w ∈ lw_tbl, w.before args s = true) (hs : ∀ c ∈ flatC (Jvm.Cond.and given_1 narrow_1), c.before args s = true) (hA : ∀ a : Nat, a < s.heap.size → ¬ A a) : ∃ t : Nat, va_Z "ButtonTin" (snm 2).1 "[I" (.ref t) A s s.heap ∧ va_T .int t (snm 2).2 (fun j => .int (sval 2 j)) A s s.heap := by
  have hel : ∀ j : Nat, j < 5 → Cond.eq (.elem (.static "ButtonTin" "NUMBERS" "[I") (.int (Int32.ofNat j))) (.int (sval 2 j)) ∈ flatC (Jvm.Cond.and given_1 narrow_1) := by decide +kernel
  obtain ⟨t, ht, hT⟩ := va_Tof (tm := .static "ButtonTin" "NUMBERS" "[I") (ty := .int) (N := 5) (f := fun j => .int (sval 2 j)) (A := A) (by decide) (hs _ (by decide +kernel)) (va_eqt (hs (Cond.eq (.length (.static "ButtonTin" "NUMBERS" "[I")) (.int (Int32.ofNat 5))) (by decide +kernel))) (fun j hj => va_eqt (hs _ (hel j hj))) hA
  exact ⟨t, va_Zref (hts (.laysStatic "ButtonTin" "NUMBERS" "[I") (List.mem_of_getElem? (i := 421) (by decide +kernel))) (hts (.initialized "ButtonTin") (List.mem_of_getElem? (i := 56) (by decide +kernel))) ht hA, hT⟩
theorem st_3 {args : Array Value} {s : State} {A : Nat → Prop} (hts : ∀ w ∈ lw_tbl, w.before args s = true) (hs : ∀ c ∈ flatC (Jvm.Cond.and given_1 narrow_1), c.before args s = true) (hA : ∀ a : Nat, a < s.heap.size → ¬ A a) : ∃ t : Nat, va_Z "ButtonTin" (snm 3).1 "[I" (.ref t) A s s.heap ∧ va_T .int t (snm 3).2 (fun j => .int (sval 3 j)) A s s.heap := by
  have hel : ∀ j : Nat, j < 20 → Cond.eq (.elem (.static "ButtonTin" "LOW" "[I") (.int (Int32.ofNat j))) (.int (sval 3 j)) ∈ flatC (Jvm.Cond.and given_1 narrow_1) := by decide +kernel
  obtain ⟨t, ht, hT⟩ := va_Tof (tm := .static "ButtonTin" "LOW" "[I") (ty := .int) (N := 20) (f := fun j => .int (sval 3 j)) (A := A) (by decide) (hs _ (by decide +kernel)) (va_eqt (hs (Cond.eq (.length (.static "ButtonTin" "LOW" "[I")) (.int (Int32.ofNat 20))) (by decide +kernel))) (fun j hj => va_eqt (hs _ (hel j hj))) hA
  exact ⟨t, va_Zref (hts (.laysStatic "ButtonTin" "LOW" "[I") (List.mem_of_getElem? (i := 430) (by decide +kernel))) (hts (.initialized "ButtonTin") (List.mem_of_getElem? (i := 56) (by decide +kernel))) ht hA, hT⟩
theorem st_4 {args : Array Value} {s : State} {A : Nat → Prop} (hts : ∀ w ∈ lw_tbl, w.before args s = true) (hs : ∀ c ∈ flatC (Jvm.Cond.and given_1 narrow_1), c.before args s = true) (hA : ∀ a : Nat, a < s.heap.size → ¬ A a) : ∃ t : Nat, va_Z "ButtonTin" (snm 4).1 "[I" (.ref t) A s s.heap ∧ va_T .int t (snm 4).2 (fun j => .int (sval 4 j)) A s s.heap := by
  have hel : ∀ j : Nat, j < 20 → Cond.eq (.elem (.static "ButtonTin" "HIGH" "[I") (.int (Int32.ofNat j))) (.int (sval 4 j)) ∈ flatC (Jvm.Cond.and given_1 narrow_1) := by decide +kernel
  obtain ⟨t, ht, hT⟩ := va_Tof (tm := .static "ButtonTin" "HIGH" "[I") (ty := .int) (N := 20) (f := fun j => .int (sval 4 j)) (A := A) (by decide) (hs _ (by decide +kernel)) (va_eqt (hs (Cond.eq (.length (.static "ButtonTin" "HIGH" "[I")) (.int (Int32.ofNat 20))) (by decide +kernel))) (fun j hj => va_eqt (hs _ (hel j hj))) hA
  exact ⟨t, va_Zref (hts (.laysStatic "ButtonTin" "HIGH" "[I") (List.mem_of_getElem? (i := 432) (by decide +kernel))) (hts (.initialized "ButtonTin") (List.mem_of_getElem? (i := 56) (by decide +kernel))) ht hA, hT⟩
set_option maxHeartbeats 4000000 in
set_option maxRecDepth 100000 in
/-- the law's entry: the classes, the statics, the script, in the words of V -/
theorem law_env {s : State} {b L : Nat} {xs : Nat → Int32} {args : Array Value} (hts : ∀ w ∈ lw_tbl, w.before args s = true) (hX : va_X b L xs s s.heap) (hbl : b < s.heap.size) (hgv : (Jvm.Cond.and given_1 narrow_1).before args s = true) : ∃ Γ : GE, Sd Γ s ∧ gB Γ = s.heap.size ∧ gS Γ 0 = b ∧ gX Γ = xs ∧ gL Γ = L := by
  have hs := flat_of_before _ hgv
  have hA : ∀ a : Nat, a < s.heap.size → ¬ (fun q : Nat => s.heap.size ≤ q) a := fun a h q => Nat.not_le.mpr h q
  obtain ⟨c0, iS0, hKn0⟩ := u_known (C := RX0) (T := TX0) (N := 2) (n := 2) hts (fun w h => gw_tbl (ug_0 w h)) (hts (.instantiable RX0 2) (List.mem_of_getElem? (i := 104) (by decide +kernel)))
  obtain ⟨c1, iS1, hKn1⟩ := u_known (C := RX1) (T := TX1) (N := 3) (n := 3) hts (fun w h => gw_tbl (ug_1 w h)) (hts (.instantiable RX1 3) (List.mem_of_getElem? (i := 182) (by decide +kernel)))
  obtain ⟨c2, iS2, hKn2⟩ := u_known (C := RX2) (T := TX2) (N := 4) (n := 4) hts (fun w h => gw_tbl (ug_2 w h)) (hts (.instantiable RX2 4) (List.mem_of_getElem? (i := 110) (by decide +kernel)))
  obtain ⟨c3, iS3, hKn3⟩ := u_known (C := RX3) (T := TX3) (N := 1) (n := 1) hts (fun w h => gw_tbl (ug_3 w h)) (hts (.instantiable RX3 1) (List.mem_of_getElem? (i := 199) (by decide +kernel)))
  obtain ⟨c4, iS4, hKn4⟩ := u_known (C := RX4) (T := TX4) (N := 4) (n := 4) hts (fun w h => gw_tbl (ug_4 w h)) (hts (.instantiable RX4 4) (List.mem_of_getElem? (i := 212) (by decide +kernel)))
  obtain ⟨c5, iS5, hKn5⟩ := u_known (C := RX5) (T := TX5) (N := 3) (n := 3) hts (fun w h => gw_tbl (ug_5 w h)) (hts (.instantiable RX5 3) (List.mem_of_getElem? (i := 252) (by decide +kernel)))
  obtain ⟨c6, iS6, hKn6⟩ := u_known (C := RX6) (T := TX6) (N := 4) (n := 4) hts (fun w h => gw_tbl (ug_6 w h)) (hts (.instantiable RX6 4) (List.mem_of_getElem? (i := 231) (by decide +kernel)))
  obtain ⟨c7, iS7, hKn7⟩ := u_known (C := RX7) (T := TX7) (N := 3) (n := 3) hts (fun w h => gw_tbl (ug_7 w h)) (hts (.instantiable RX7 3) (List.mem_of_getElem? (i := 162) (by decide +kernel)))
  obtain ⟨c8, iS8, hKn8⟩ := u_known (C := RX8) (T := TX8) (N := 3) (n := 3) hts (fun w h => gw_tbl (ug_8 w h)) (hts (.instantiable RX8 3) (List.mem_of_getElem? (i := 85) (by decide +kernel)))
  obtain ⟨c9, iS9, hKn9⟩ := u_known (C := RX9) (T := TX9) (N := 2) (n := 2) hts (fun w h => gw_tbl (ug_9 w h)) (hts (.instantiable RX9 2) (List.mem_of_getElem? (i := 137) (by decide +kernel)))
  obtain ⟨c10, iS10, hKn10⟩ := u_known (C := RX10) (T := TX10) (N := 10) (n := 10) hts (fun w h => gw_tbl (ug_10 w h)) (hts (.instantiable RX10 10) (List.mem_of_getElem? (i := 77) (by decide +kernel)))
  obtain ⟨c11, iS11, hKn11⟩ := u_known (C := RX11) (T := TX11) (N := 39) (n := 39) hts (fun w h => gw_tbl (ug_11 w h)) (hts (.instantiable RX11 39) (List.mem_of_getElem? (i := 863) (by decide +kernel)))
  obtain ⟨dC, dI, hKc⟩ : ∃ (dC : Nat → ClassId) (dI : Nat → Nat → Nat), ∀ (k : Nat) (q : vw_C), vwCl[k]? = some q → u_Kn s q.1 q.2.1 q.2.2 (dC k) (dI k) := by
    refine ⟨fun k => ([c0, c1, c2, c3, c4, c5, c6, c7, c8, c9, c10, c11] : List ClassId).getD k c0, fun k => ([iS0, iS1, iS2, iS3, iS4, iS5, iS6, iS7, iS8, iS9, iS10, iS11] : List (Nat → Nat)).getD k iS0, ?_⟩
    intro k q hq
    match k, hq with
    | 0, hq => cases hq; exact hKn0
    | 1, hq => cases hq; exact hKn1
    | 2, hq => cases hq; exact hKn2
    | 3, hq => cases hq; exact hKn3
    | 4, hq => cases hq; exact hKn4
    | 5, hq => cases hq; exact hKn5
    | 6, hq => cases hq; exact hKn6
    | 7, hq => cases hq; exact hKn7
    | 8, hq => cases hq; exact hKn8
    | 9, hq => cases hq; exact hKn9
    | 10, hq => cases hq; exact hKn10
    | 11, hq => cases hq; exact hKn11
    | k + 12, hq => simp [vwCl] at hq
  obtain ⟨a0, kA0, cp0, f0, g0, k0⟩ := Cond.arrayClass_spec (hts (.arrayClass .int) (gw_tbl aw_int))
  obtain ⟨a1, kA1, cp1, f1, g1, k1⟩ := Cond.arrayClass_spec (hts (.arrayClass .boolean) (gw_tbl aw_boolean))
  obtain ⟨a2, kA2, cp2, f2, g2, k2⟩ := Cond.arrayClass_spec (hts (.arrayClass .byte) (gw_tbl aw_byte))
  have hao3 : va_AO "ButtonTin$Cloth" s := va_AO.of (hts (.arrayOver (.object "ButtonTin$Cloth")) (List.mem_of_getElem? (i := 168) (by decide +kernel)))
  obtain ⟨cp3, a3, kA3, m3, -, g3, k3, f3⟩ := Cond.arrayOver_spec (va_AO.use (A := #[]) hao3)
  have hao4 : va_AO "ButtonTin$Image" s := va_AO.of (hts (.arrayOver (.object "ButtonTin$Image")) (List.mem_of_getElem? (i := 210) (by decide +kernel)))
  obtain ⟨cp4, a4, kA4, m4, -, g4, k4, f4⟩ := Cond.arrayOver_spec (va_AO.use (A := #[]) hao4)
  obtain ⟨t0, hZ0, hT0⟩ := st_0 (A := fun q : Nat => s.heap.size ≤ q) hts hs hA
  obtain ⟨t1, hZ1, hT1⟩ := st_1 (A := fun q : Nat => s.heap.size ≤ q) hts hs hA
  obtain ⟨t2, hZ2, hT2⟩ := st_2 (A := fun q : Nat => s.heap.size ≤ q) hts hs hA
  obtain ⟨t3, hZ3, hT3⟩ := st_3 (A := fun q : Nat => s.heap.size ≤ q) hts hs hA
  obtain ⟨t4, hZ4, hT4⟩ := st_4 (A := fun q : Nat => s.heap.size ≤ q) hts hs hA
  have hZs : va_Z "java/lang/String" "COMPACT_STRINGS" "Z" (.int 1) (fun q : Nat => s.heap.size ≤ q) s s.heap := va_Zof (hts (.laysStatic "java/lang/String" "COMPACT_STRINGS" "Z") (List.mem_of_getElem? (i := 345) (by decide +kernel))) (hts (.initialized "java/lang/String") (List.mem_of_getElem? (i := 68) (by decide +kernel))) (va_eqi (hs (Cond.eq (.static "java/lang/String" "COMPACT_STRINGS" "Z") (.int 1)) (by decide +kernel))) hA
  have hel : ∀ i : Nat, i < 1 → ∀ j : Nat, j < ([5] : List Nat).getD i 0 → Cond.eq (.elem (.field (.string "ButtonTin$Reader" 35) "java/lang/String" "value" "[B") (.int (Int32.ofNat j))) (.int ((([[116, 98, 114, 117, 110]] : List (List Int32)).getD i []).getD j 0)) ∈ flatC (Jvm.Cond.and given_1 narrow_1) := by decide +kernel
  obtain ⟨adK, adV, hvS, hvE⟩ := vk_Sof (args := args) (s := s) (N := 1) (tm := fun _ => .string "ButtonTin$Reader" 35) (len := [5]) (byt := [[116, 98, 114, 117, 110]]) (A := fun q : Nat => s.heap.size ≤ q) (by decide) (fun i hi => hs _ (by decide +kernel)) (fun i hi => hs (Cond.eq (.field (.string "ButtonTin$Reader" 35) "java/lang/String" "coder" "B") (.int 0)) (by decide +kernel)) (fun i hi => hs (Cond.arrayOf (.field (.string "ButtonTin$Reader" 35) "java/lang/String" "value" "[B") .byte) (by decide +kernel)) (fun i hi => by
      have : i = 0 := by omega
      subst this
      exact hs (Cond.eq (.length (.field (.string "ButtonTin$Reader" 35) "java/lang/String" "value" "[B")) (.int (Int32.ofNat 5))) (by decide +kernel)) (fun i hi j hj => hs _ (hel i hi j hj)) (fun i j hi hj hne => absurd (show i = j by omega) hne) hA
  have hvR : vk_R "ButtonTin$Reader" 35 "tbrun" (adK 0) s := by
    have h1 := hvE 0 (by decide)
    exact vk_R.of (hts (.stringRef "ButtonTin$Reader" 35 "tbrun") (List.mem_of_getElem? (i := 331) (by decide +kernel))) h1
  have hvS : vk_S 1 [5] [[116, 98, 114, 117, 110]] (fun _ => adK 0) (fun _ => adV 0) (fun q : Nat => s.heap.size ≤ q) s s.heap := ⟨fun i hi => by
    have : i = 0 := by omega
    subst this
    exact hvS.1 0 (by decide), fun i j hi hj _ => by omega⟩
  obtain ⟨scr, x1, x2, x3, x4, x5⟩ := hX
  have hTx : va_T .int b L (fun j => .int (xs j)) (fun q : Nat => s.heap.size ≤ q) s s.heap := ⟨scr, x1, x2, x3, by omega, by rw [x4], fun j hj => x5 j hj, hA b hbl⟩
  refine ⟨((dC, dI), (fun k => ([a0, a1, a2, a3, a4] : List ClassId).getD k a0), s.heap.size, (fun k => ([b, t0, t1, t2, t3, t4, adK 0, adV 0] : List Nat).getD k b), xs, L), ⟨⟨hKc, ?_⟩, fun q hq => va_Nw.of rfl (hts _ (nst_m q hq)), fun q hq => va_Nw.of rfl (hts _ (nst_f q hq)), ⟨hao3, hao4⟩, Nat.le_refl _, ?_, hTx, hZs, hvR, hvS⟩, rfl, rfl, rfl, rfl⟩
  · intro k q hk
    match k, hk with
    | 0, hk => cases hk; exact ⟨fun n z => ⟨fun k h => (by cases h), kA0, g0, cp0, k0⟩, f0⟩
    | 1, hk => cases hk; exact ⟨fun n z => ⟨fun k h => (by cases h), kA1, g1, cp1, k1⟩, f1⟩
    | 2, hk => cases hk; exact ⟨fun n z => ⟨fun k h => (by cases h), kA2, g2, cp2, k2⟩, f2⟩
    | 3, hk => cases hk; exact ⟨fun n z => ⟨fun k h => (by cases h), kA3, g3, cp3, k3⟩, kA3, cp3, g3, k3, m3, f3⟩
    | 4, hk => cases hk; exact ⟨fun n z => ⟨fun k h => (by cases h), kA4, g4, cp4, k4⟩, kA4, cp4, g4, k4, m4, f4⟩
    | k + 5, hk => simp [tysG] at hk
  · intro i hi
    match i, hi with
    | 0, _ => exact ⟨hZ0, hT0⟩
    | 1, _ => exact ⟨hZ1, hT1⟩
    | 2, _ => exact ⟨hZ2, hT2⟩
    | 3, _ => exact ⟨hZ3, hT3⟩
    | 4, _ => exact ⟨hZ4, hT4⟩
    | i + 5, hi => omega
theorem tot_NF : tot NF = 27054 := by decide +kernel
set_option maxHeartbeats 4000000 in
set_option maxRecDepth 100000 in
/-- THE LAW FROM ITS ENTRY, over the pure claim -/
theorem start_of {p : Program} {e : Env} {s : State} {m : MethodId} {below : List Frame} {meth : Method} {c : Code} (l : Launch) {b L : Nat} {xs : Nat → Int32} (hL : L ≤ 1536) (C0 : lw_At p s m meth c b L xs) (hpure : M_L_law L (fun j => (xs j).toInt) x0 (fun z _ => z = 1)) : W p l e room_1 s m #[Value.ref b] below meth c s.heap [] 0 0 (lw_Z below #[Value.ref b] s) (entryFrame m ([Value.ref b] : List Value).toArray 4) := by
  obtain ⟨hx, hb, hr, hml, hown, hts, hX, hbl, hlocks, hgv, hname⟩ := id C0
  obtain ⟨Γ, hSd, hB, hS0, hXs, hLs⟩ := law_env hts hX hbl hgv
  subst hS0
  have hAeq : ∀ q, hA Γ q ↔ s.heap.size ≤ q := fun q => by unfold hA; rw [hB]
  have hbl2 : gB Γ = s.heap.size := hB
  have C : Cx Γ 12 0 NF D_L_law (QE Γ (fun z _ => z = 1)) p l e room_1 s m #[Value.ref (gS Γ 0)] below meth c (lw_Z below #[Value.ref (gS Γ 0)] s) := by
    refine ⟨hx, hb, hml, hown, fun w hw => hts w (gw_tbl hw), ⟨hSd, by rw [hB]; rfl⟩, ⟨Nat.le_refl _, by decide, by decide, by show tot NF - tot 0 ≤ 7302250; rw [tot_NF]; decide⟩, hname, ?_, ?_⟩
    · intro pc lsA H locs G hd hn
      cases hn
    · intro pc lsA H locs G v ty hd hn hnar hR hS hq
      obtain ⟨x, z, -, -, hv, -, hz⟩ := hq
      subst hz
      have hv1 : v = 1 := by cases hv; rfl
      subst hv1
      refine va_forget (fun q hq => (hAeq _).mp (hS.2.2 q hq)) ?_
      refine W.widen (k := 600000) (n := 7302250) (by decide) (by rw [tot_NF]; decide) ?_
      exact lw_ret hx hb hr hlocks hd
  have hLr : Rg ((gL Γ : Nat) : Int) := by rw [hLs]; constructor <;> omega
  have K : V Γ 12 0 NF D_L_law (QE Γ (fun z _ => z = 1)) 0 [.ref (gS Γ 0), uu, uu, uu] [] 0 (fun _ _ => .null) := by
    refine V_new dL_law_0 cn_L_7 ly_0 (by decide) (by decide) ?_
    refine V_dup dL_law_3 rfl ?_
    refine V_callI (nC := 83) (As := []) (My := D_X10_init) dL_law_4 ml_L_9 ce_X10_init rfl (by decide) (by decide) (by decide) (by decide) (sumL rfl) (c_Tin nH_k) (fun v G1 hG1 => ?_)
    obtain ⟨rfl, hu1, hd1⟩ := hG1
    refine V_astore_1 dL_law_7 rfl rfl ?_
    refine V_new dL_law_8 cn_L_10 ly_83 (by decide) (by decide) ?_
    refine V_dup dL_law_11 rfl ?_
    refine V_callI (nC := 103) (As := []) (My := D_X11_init) dL_law_12 ml_L_12 ce_X11_init rfl (by decide) (by decide) (by decide) (by decide) (sumL rfl) (c_Model nH_k) (fun v G2 hG2 => ?_)
    obtain ⟨rfl, hu2, hd2⟩ := hG2
    refine V_astore_2 dL_law_15 rfl rfl ?_
    refine V_ext (G2 := mk Γ x0) (fun k hk j hj => ?_) ?_
    · have hD : Dn Γ G2 0 103 := Dn.app (b := 83) (Dn.to hd1 (fun a g1 g2 => by rw [hu2 a g2, nH_ne (by omega)])) hd2
      exact hD k (Nat.zero_le _) hk j hj
    · refine w_L_law (by rw [hLs]; omega) hLr WX_x0 ?_
      rw [hLs, hXs]
      exact hpure
  have hlen : Lc ((lg_sl [Value.ref (gS Γ 0)] ++ List.replicate (4 - (lg_sl [Value.ref (gS Γ 0)]).length) Slot.unset).toArray) 4 (en [Value.ref (gS Γ 0)] 4) := Lc.entry (cat_all rfl) (Nat.le_of_ble_eq_true rfl)
  have h := K p l e room_1 s m #[Value.ref (gS Γ 0)] below meth c _ C s.heap [] _ hlen (fun k q hq => by simp [wsG] at hq) va_S.rf
  rw [lg_entry_eq]
  exact h
