theorem lbs {a v : Int} (h : v ≤ a) (e : ¬ a = v) : v + 1 ≤ a := by omega
theorem neo {a lo hi v : Int} (h : a < lo ∨ hi < a) (h1 : lo ≤ v) (h2 : v ≤ hi) : ¬ a = v := by omega
theorem tid_b0 (c : Int) : tid c < NF := by have h := (tid_f c).2.2.2; show tid c < 103; omega
theorem tid_b1 (c : Int) : tid c + 1 < NF := by have h := (tid_f c).2.2.2; show tid c + 1 < 103; omega
theorem tid_b2 (c : Int) : tid c + 2 < NF := (tid_f c).2.2.2
theorem clo_b1 {k : Nat} (h : (lay k).1 = 2) : k + 1 < NF := by have h := (clo_f h).2.2.2; show k + 1 < 103; omega
theorem clo_b2 {k : Nat} (h : (lay k).1 = 2) : k + 2 < NF := (clo_f h).2.2.2
theorem WX.upE {x y : XM} {k j : Nat} {z : Int} (h : WX x) (hz : Rg z) (e : y = uX x k j z) : WX y := by rw [e]; exact h.up hz
theorem WX.cpE {x y : XM} {k0 k1 N : Nat} (h : WX x) (e : y = cpX x k0 k1 N) : WX y := by rw [e]; exact h.cp
theorem arr_f {k : Nat} (h : (lay k).1 = 20) : lay k = (20, (lay k).2) := by rw [← h]
theorem lay2_lt (k : Nat) : (lay k).2 < 2147483648 := by
  rcases Nat.lt_or_ge k 103 with q | q
  · have : ∀ k, k < 103 → (lay k).2 < 2147483648 := by decide +kernel
    exact this k q
  · rw [lay_out q]; decide
theorem arr_n3 {k N : Nat} (h : lay k = (20, N)) : k ≠ 3 := by rintro rfl; cases h
theorem arr_n0 {k N : Nat} (h : lay k = (20, N)) : k ≠ 0 := by rintro rfl; cases h
def sI (i j : Nat) : Int := (sval i j).toInt
theorem sI_ok {i j : Nat} : sval i j = Int32.ofInt (sI i j) := (Int32.ofInt_toInt _).symm
theorem strB_rg (j : Nat) : Rg (strB j) := by
  rcases Nat.lt_or_ge j 5 with q | q
  · have : ∀ j, j < 5 → (decide (-2147483648 ≤ strB j) && decide (strB j < 2147483648)) = true := by decide
    exact rgL (this j q)
  · unfold strB
    rw [List.getD_eq_getElem?_getD, List.getElem?_eq_none (by show 5 ≤ j; exact q)]
    exact rgL rfl
theorem nar_i2b (a : Int) : vp_nar .byte (Int32.ofInt (ji2b a)) = Int32.ofInt (ji2b a) := by
  unfold ji2b
  rw [Int32.ofInt_toInt]
  exact pk_vb _
theorem CV.ofF {Γ : GE} {d n0 nE : Nat} {M : MD} {av : List Value} {G : HP} {Q : Option Value → HP → Prop} (hy : plainFor M.1 = true) (hc : ∀ w ∈ av, w.category = 1) (hL : av.length ≤ M.2.2.1) (K : V Γ d n0 nE M Q 0 (en av M.2.2.1) [] n0 G) : CV Γ d n0 nE M av G Q := by
  intro l
  refine va_MetF (cc := M.2.1) (maxL := M.2.2.1) (ret := M.2.2.2) hy rfl ?_
  intro p e s m args below meth c s₁ B hml hv
  obtain ⟨rfl, hSd, hRl⟩ := hv
  have hts := atoms_spec (ws := wsM M) B.pre
  have hlocks := B.notSynchronized
  have C : Cx Γ d n0 nE M Q p l e (headSpec (wsM M) (rmD d (nE - n0) (tot nE - tot n0))).room s m av.toArray below meth c (MQ below (Qm Γ nE Q) av.toArray s (nE - n0) (tot nE - tot n0) (hA Γ)) := by
    refine ⟨B.exec, B.bytes, hml, findClass_of_methodNamed B.named, fun w hw => hts w (List.mem_cons_of_mem _ hw), hSd, ⟨Nat.le_refl _, Nat.le_refl _, Nat.le_refl _, Nat.le_refl _⟩, (name_of_methodNamed B.named B.method).1, ?_, ?_⟩
    · intro pc lsA H locs G' hd hn hR hS hq
      exact W.vret B.exec B.bytes (by rw [B.returns]; exact hn) (fun t ht hW => ⟨⟨none, G', rfl, hq, by rw [ht]; exact hR⟩, hS.F ht⟩) hS.2.2 hd
    · intro pc lsA H locs G' v ty hd hn hnar hR hS hq
      exact W.zret B.exec B.bytes (ty := ty) (by rw [B.returns]; exact hn) hnar (fun t ht hW => ⟨⟨some (.int v), G', rfl, hq, by rw [ht]; exact hR⟩, hS.F ht⟩) hS.2.2 hd
  have h := K p l e _ s m av.toArray below meth c _ C s.heap [] _ (Lc.entry hc hL) hRl va_S.rf
  rw [Nat.sub_self, Nat.sub_self] at h
  rw [lg_entry_eq]
  exact h
theorem V_cXI0 {Γ : GE} {d n0 nE : Nat} {M : MD} {Q : Option Value → HP → Prop} {pc : Nat} {ls st : List Value} {x : XM} {idx dc : Nat} {My : MD}  {q : Int → Prop} (hd : decode M.2.1 pc = .ok (.invokevirtual idx, 3)) (hlk : Cond.methodLink M.1.cls idx My.1 ∈ gw) (hce : CeV My 0) (hcl : My.1.cls = "java/lang/String") (h0 : n0 ≤ NF) (h2 : NF ≤ nE) (hdd : dc + 1 ≤ d) (hsum : (st.map fun v => v.category).sum ≤ 8) (hC : CV Γ dc NF NF My (.ref (gS Γ 6) :: []) (mk Γ x) (QI Γ x q)) (K : ∀ z : Int, Rg z → q z → V Γ d n0 nE M Q (pc + 3) ls (vI z :: st) NF (mk Γ x)) : V Γ d n0 nE M Q pc ls (.ref (gS Γ 6) :: st) NF (mk Γ x) := by
  refine V_callX (As := []) hd hlk hce rfl hcl h0 (Nat.le_refl _) h2 hdd hsum hC (fun v G hq => ?_)
  obtain ⟨rfl, z, rfl, hz, hq⟩ := hq
  exact K z hz hq
theorem V_cXI1 {Γ : GE} {d n0 nE : Nat} {M : MD} {Q : Option Value → HP → Prop} {pc : Nat} {ls st : List Value} {x : XM} {idx dc : Nat} {My : MD} {a1 : Value} {q : Int → Prop} (hd : decode M.2.1 pc = .ok (.invokevirtual idx, 3)) (hlk : Cond.methodLink M.1.cls idx My.1 ∈ gw) (hce : CeV My 1) (hcl : My.1.cls = "java/lang/String") (h0 : n0 ≤ NF) (h2 : NF ≤ nE) (hdd : dc + 1 ≤ d) (hsum : (st.map fun v => v.category).sum ≤ 8) (hC : CV Γ dc NF NF My (.ref (gS Γ 6) :: [a1]) (mk Γ x) (QI Γ x q)) (K : ∀ z : Int, Rg z → q z → V Γ d n0 nE M Q (pc + 3) ls (vI z :: st) NF (mk Γ x)) : V Γ d n0 nE M Q pc ls (a1 :: .ref (gS Γ 6) :: st) NF (mk Γ x) := by
  refine V_callX (As := [a1]) hd hlk hce rfl hcl h0 (Nat.le_refl _) h2 hdd hsum hC (fun v G hq => ?_)
  obtain ⟨rfl, z, rfl, hz, hq⟩ := hq
  exact K z hz hq
theorem V_cXI2 {Γ : GE} {d n0 nE : Nat} {M : MD} {Q : Option Value → HP → Prop} {pc : Nat} {ls st : List Value} {x : XM} {idx dc : Nat} {My : MD} {a1 a2 : Value} {q : Int → Prop} (hd : decode M.2.1 pc = .ok (.invokevirtual idx, 3)) (hlk : Cond.methodLink M.1.cls idx My.1 ∈ gw) (hce : CeV My 2) (hcl : My.1.cls = "java/lang/String") (h0 : n0 ≤ NF) (h2 : NF ≤ nE) (hdd : dc + 1 ≤ d) (hsum : (st.map fun v => v.category).sum ≤ 8) (hC : CV Γ dc NF NF My (.ref (gS Γ 6) :: [a1, a2]) (mk Γ x) (QI Γ x q)) (K : ∀ z : Int, Rg z → q z → V Γ d n0 nE M Q (pc + 3) ls (vI z :: st) NF (mk Γ x)) : V Γ d n0 nE M Q pc ls (a2 :: a1 :: .ref (gS Γ 6) :: st) NF (mk Γ x) := by
  refine V_callX (As := [a1, a2]) hd hlk hce rfl hcl h0 (Nat.le_refl _) h2 hdd hsum hC (fun v G hq => ?_)
  obtain ⟨rfl, z, rfl, hz, hq⟩ := hq
  exact K z hz hq
theorem V_pIe {Γ : GE} {d n0 nE : Nat} {M : MD} {Q : Option Value → HP → Prop} {pc : Nat} {ls st : List Value} {x : XM} {idx ci N j k : Nat} {z : Int} (hd : decode M.2.1 pc = .ok (.putfield idx, 3)) (hf : FL M.1.cls idx ci N j .int false) (hlay : lay k = (ci, N)) (hk : k < NF) (hw : wire x k j = none) (K : ∀ y : XM, y = uX x k j z → V Γ d n0 nE M Q (pc + 3) ls st NF (mk Γ y)) : V Γ d n0 nE M Q pc ls (vI z :: .ref (gB Γ + k) :: st) NF (mk Γ x) := V_pI hd hf hlay hk hw (K _ rfl)
theorem V_pZe {Γ : GE} {d n0 nE : Nat} {M : MD} {Q : Option Value → HP → Prop} {pc : Nat} {ls st : List Value} {x : XM} {idx ci N j k : Nat} {z : Int} (hd : decode M.2.1 pc = .ok (.putfield idx, 3)) (hf : FL M.1.cls idx ci N j .boolean false) (hlay : lay k = (ci, N)) (hk : k < NF) (hw : wire x k j = none) (hz : z = 0 ∨ z = 1) (K : ∀ y : XM, y = uX x k j z → V Γ d n0 nE M Q (pc + 3) ls st NF (mk Γ y)) : V Γ d n0 nE M Q pc ls (vI z :: .ref (gB Γ + k) :: st) NF (mk Γ x) := V_pZ hd hf hlay hk hw hz (K _ rfl)
theorem V_pTe {Γ : GE} {d n0 nE : Nat} {M : MD} {Q : Option Value → HP → Prop} {pc : Nat} {ls st : List Value} {x : XM} {idx : Nat} {c9 : Int} (hd : decode M.2.1 pc = .ok (.putfield idx, 3)) (hf : FL M.1.cls idx 0 2 1 (.object "ButtonTin$Telling") false) (K : ∀ y : XM, y = uX x 3 1 c9 → V Γ d n0 nE M Q (pc + 3) ls st NF (mk Γ y)) : V Γ d n0 nE M Q pc ls (.ref (gB Γ + tid c9) :: .ref (gB Γ + 3) :: st) NF (mk Γ x) := V_pT hd hf (K _ rfl)
theorem V_pSe {Γ : GE} {d n0 nE : Nat} {M : MD} {Q : Option Value → HP → Prop} {pc : Nat} {ls st : List Value} {x : XM} {idx : Nat} {c9 : Int} (hd : decode M.2.1 pc = .ok (.putfield idx, 3)) (hf : FL M.1.cls idx 10 10 8 (.object "ButtonTin$Telling") false) (K : ∀ y : XM, y = uX x 0 8 c9 → V Γ d n0 nE M Q (pc + 3) ls st NF (mk Γ y)) : V Γ d n0 nE M Q pc ls (.ref (gB Γ + tid c9) :: .ref (gB Γ + 0) :: st) NF (mk Γ x) := V_pS hd hf (K _ rfl)
theorem V_sIe {Γ : GE} {d n0 nE : Nat} {M : MD} {Q : Option Value → HP → Prop} {pc : Nat} {ls st : List Value} {x : XM} {k N : Nat} {i z : Int} (hd : decode M.2.1 pc = .ok (.iastore, 1)) (hlay : lay k = (20, N)) (hk : k < NF) (hN : N < 2147483648) (h0 : 0 ≤ i ∧ i < (N : Int)) (K : ∀ y : XM, y = uX x k i.toNat z → V Γ d n0 nE M Q (pc + 1) ls st NF (mk Γ y)) : V Γ d n0 nE M Q pc ls (vI z :: vI i :: .ref (gB Γ + k) :: st) NF (mk Γ x) := V_sI hd hlay hk hN h0 (K _ rfl)
theorem V_sZe {Γ : GE} {d n0 nE : Nat} {M : MD} {Q : Option Value → HP → Prop} {pc : Nat} {ls st : List Value} {x : XM} {k N : Nat} {i z : Int} (hd : decode M.2.1 pc = .ok (.bastore, 1)) (hlay : lay k = (21, N)) (hk : k < NF) (hN : N < 2147483648) (h0 : 0 ≤ i ∧ i < (N : Int)) (hz : z = 0 ∨ z = 1) (K : ∀ y : XM, y = uX x k i.toNat z → V Γ d n0 nE M Q (pc + 1) ls st NF (mk Γ y)) : V Γ d n0 nE M Q pc ls (vI z :: vI i :: .ref (gB Γ + k) :: st) NF (mk Γ x) := V_sZ hd hlay hk hN h0 hz (K _ rfl)
theorem V_sBe {Γ : GE} {d n0 nE : Nat} {M : MD} {Q : Option Value → HP → Prop} {pc : Nat} {ls st : List Value} {x : XM} {k N : Nat} {i z : Int} (hd : decode M.2.1 pc = .ok (.bastore, 1)) (hlay : lay k = (22, N)) (hk : k < NF) (hN : N < 2147483648) (h0 : 0 ≤ i ∧ i < (N : Int)) (hz : vp_nar .byte (Int32.ofInt z) = Int32.ofInt z) (K : ∀ y : XM, y = uX x k i.toNat z → V Γ d n0 nE M Q (pc + 1) ls st NF (mk Γ y)) : V Γ d n0 nE M Q pc ls (vI z :: vI i :: .ref (gB Γ + k) :: st) NF (mk Γ x) := V_sB hd hlay hk hN h0 hz (K _ rfl)
theorem V_cpe {Γ : GE} {d n0 nE : Nat} {M : MD} {Q : Option Value → HP → Prop} {pc : Nat} {ls st : List Value} {x : XM} {idx k0 k1 N : Nat} (hd : decode M.2.1 pc = .ok (.invokestatic idx, 3)) (hw : Cond.methodLink M.1.cls idx arraycopyName ∈ gw) (hlay0 : lay k0 = (20, N)) (hlay1 : lay k1 = (20, N)) (hk0 : k0 < NF) (hk1 : k1 < NF) (hN : N < 2147483648) (hdd : 1 ≤ d) (hsum : (st.map fun v => v.category).sum ≤ 8) (h31 : k1 ≠ 3) (h08 : k1 ≠ 0) (K : ∀ y : XM, y = cpX x k0 k1 N → V Γ d n0 nE M Q (pc + 3) ls st NF (mk Γ y)) : V Γ d n0 nE M Q pc ls (vI (N : Int) :: vI 0 :: .ref (gB Γ + k1) :: vI 0 :: .ref (gB Γ + k0) :: st) NF (mk Γ x) := V_cp hd hw hlay0 hlay1 hk0 hk1 hN hdd hsum h31 h08 (K _ rfl)

def M_X8_add (x : XM) (v1 : Int) (q : XM → Prop) : Prop :=
  (0 ≤ (x 1 1) ∧ (x 1 1) < 240) ∧ (∀ x2 : XM, x2 = uX x 2 (((x 1 1)).toNat) v1 → (Rg ((x2 1 1) + 1)) ∧ (∀ x4 : XM, x4 = uX x2 1 1 ((x2 1 1) + 1) → q x4))
set_option maxRecDepth 100000 in
theorem w_X8_add {Γ : GE} {x : XM} (hx : WX x) {v1 : Int} {q : XM → Prop} (r1 : Rg v1) (h : M_X8_add x v1 q) : CV Γ 0 NF NF D_X8_add [.ref (gB Γ + 1), vI v1] (mk Γ x) (QU Γ q) := by
  refine CV.of rfl (cat_all rfl) (Nat.le_of_ble_eq_true rfl) ?_
  show V Γ 0 NF NF D_X8_add (QU Γ q) 0 [.ref (gB Γ + 1), vI v1] [] NF (mk Γ x)
  unfold M_X8_add at h
  refine V_aload_0 dX8_add_0 ?_
  refine V_gR dX8_add_1 fl_Reader_9 ly_1 (by decide) wr_1_0 ?_
  refine V_aload_0 dX8_add_4 ?_
  refine V_gI dX8_add_5 fl_Reader_15 ly_1 (by decide) wn_1_1 ?_
  refine V_iload_1 dX8_add_8 ?_
  obtain ⟨g1, h⟩ := h
  refine V_sIe dX8_add_9 ly_2 (by decide) (by decide) g1 (fun x2 ex2 => ?_)
  have h := h x2 ex2
  have hx2 := hx.upE r1 ex2
  refine V_aload_0 dX8_add_10 ?_
  refine V_dup dX8_add_11 rfl ?_
  refine V_gI dX8_add_12 fl_Reader_15 ly_1 (by decide) wn_1_1 ?_
  refine V_iconst dX8_add_15 ?_
  refine V_iadd dX8_add_16 ?_
  obtain ⟨g3, h⟩ := h
  refine V_pIe dX8_add_17 fl_Reader_15 ly_1 (by decide) wn_1_1 (fun x4 ex4 => ?_)
  have h := h x4 ex4
  have hx4 := hx2.upE g3 ex4
  exact V_vreturn dX8_add_20 rfl ⟨_, rfl, hx4, rfl, h⟩
def M_X10_feed (x : XM) (v1 : Int) (q : Int → XM → Prop) : Prop :=
  ((v1 < 0 → q (-1000000002) x) ∧ (¬ (v1 < 0) → ((v1 ≤ 255 → (((x 1 1) < 240 → M_X8_add x v1  (fun x4 => q (x4 1 1) x4)) ∧ (¬ ((x 1 1) < 240) → q (-1000000004) x))) ∧ (¬ (v1 ≤ 255) → q (-1000000002) x))))
set_option maxRecDepth 100000 in
theorem w_X10_feed {Γ : GE} {x : XM} (hx : WX x) {v1 : Int} {q : Int → XM → Prop} (r1 : Rg v1) (h : M_X10_feed x v1 q) : CV Γ 1 NF NF D_X10_feed [.ref (gB Γ + 0), vI v1] (mk Γ x) (QE Γ q) := by
  refine CV.of rfl (cat_all rfl) (Nat.le_of_ble_eq_true rfl) ?_
  show V Γ 1 NF NF D_X10_feed (QE Γ q) 0 [.ref (gB Γ + 0), vI v1] [] NF (mk Γ x)
  unfold M_X10_feed at h
  refine V_iload_1 dX10_feed_0 ?_
  refine V_if_lt 11 dX10_feed_1 (by decide) r1 ⟨fun c1 => ?_, fun c1 => ?_⟩
  · have h := h.1 c1
    refine V_ldc dX10_feed_11 kc_T_78 ?_
    exact V_ireturn dX10_feed_13 rfl ⟨_, _, rfl, hx, rfl, (rgL rfl), h⟩
  · have h := h.2 c1
    refine V_iload_1 dX10_feed_4 ?_
    refine V_sipush dX10_feed_5 (by decide) ?_
    refine V_icmp_le 14 dX10_feed_8 (by decide) r1 (rgL rfl) ⟨fun c2 => ?_, fun c2 => ?_⟩
    · have h := h.1 c2
      refine V_aload_0 dX10_feed_14 ?_
      refine V_gR dX10_feed_15 fl_T_10 ly_0 (by decide) wr_0_0 ?_
      refine V_gI dX10_feed_18 fl_T_79 ly_1 (by decide) wn_1_1 ?_
      refine V_sipush dX10_feed_21 (by decide) ?_
      refine V_icmp_lt 30 dX10_feed_24 (by decide) (hx _ _) (rgL rfl) ⟨fun c3 => ?_, fun c3 => ?_⟩
      · have h := h.1 c3
        refine V_aload_0 dX10_feed_30 ?_
        refine V_gR dX10_feed_31 fl_T_10 ly_0 (by decide) wr_0_0 ?_
        refine V_iload_1 dX10_feed_34 ?_
        refine V_cVU1 (My := D_X8_add) dX10_feed_35 ml_T_83 ce_X8_add ly_1 (by decide) cl_8 (by decide) (Nat.le_refl _) (Nat.le_refl _) (by decide) (sumL rfl) (w_X8_add hx r1 h) (fun x4 hx4 h => ?_)
        refine V_aload_0 dX10_feed_38 ?_
        refine V_gR dX10_feed_39 fl_T_10 ly_0 (by decide) wr_0_0 ?_
        refine V_gI dX10_feed_42 fl_T_79 ly_1 (by decide) wn_1_1 ?_
        exact V_ireturn dX10_feed_45 rfl ⟨_, _, rfl, hx4, rfl, (hx4 _ _), h⟩
      · have h := h.2 c3
        refine V_ldc dX10_feed_27 kc_T_82 ?_
        exact V_ireturn dX10_feed_29 rfl ⟨_, _, rfl, hx, rfl, (rgL rfl), h⟩
    · have h := h.2 c2
      refine V_ldc dX10_feed_11 kc_T_78 ?_
      exact V_ireturn dX10_feed_13 rfl ⟨_, _, rfl, hx, rfl, (rgL rfl), h⟩
def M_X11_in (x : XM) (v0 : Int) (v1 : Int) (v2 : Int) (q : Int → Prop) : Prop :=
  ((v0 < v1 → q 0) ∧ (¬ (v0 < v1) → ((v2 < v0 → q 0) ∧ (¬ (v2 < v0) → q 1))))
set_option maxRecDepth 100000 in
theorem w_X11_in {Γ : GE} {x : XM} (hx : WX x) {v0 v1 v2 : Int} {q : Int → Prop} (r0 : Rg v0) (r1 : Rg v1) (r2 : Rg v2) (h : M_X11_in x v0 v1 v2 q) : CV Γ 0 NF NF D_X11_in [vI v0, vI v1, vI v2] (mk Γ x) (QI Γ x q) := by
  refine CV.of rfl (cat_all rfl) (Nat.le_of_ble_eq_true rfl) ?_
  show V Γ 0 NF NF D_X11_in (QI Γ x q) 0 [vI v0, vI v1, vI v2] [] NF (mk Γ x)
  unfold M_X11_in at h
  refine V_iload_0 dX11_in_0 ?_
  refine V_iload_1 dX11_in_1 ?_
  refine V_icmp_lt 14 dX11_in_2 (by decide) r0 r1 ⟨fun c1 => ?_, fun c1 => ?_⟩
  · have h := h.1 c1
    refine V_iconst dX11_in_14 ?_
    exact V_zreturn dX11_in_15 rfl (Or.inl rfl) ⟨rfl, _, rfl, (rgL rfl), h⟩
  · have h := h.2 c1
    refine V_iload_0 dX11_in_5 ?_
    refine V_iload_2 dX11_in_6 ?_
    refine V_icmp_gt 14 dX11_in_7 (by decide) r0 r2 ⟨fun c2 => ?_, fun c2 => ?_⟩
    · have h := h.1 c2
      refine V_iconst dX11_in_14 ?_
      exact V_zreturn dX11_in_15 rfl (Or.inl rfl) ⟨rfl, _, rfl, (rgL rfl), h⟩
    · have h := h.2 c2
      refine V_iconst dX11_in_10 ?_
      refine V_goto 15 dX11_in_11 (by decide) ?_
      exact V_zreturn dX11_in_15 rfl (Or.inr rfl) ⟨rfl, _, rfl, (rgL rfl), h⟩
def M_X11_feed (x : XM) (v1 : Int) (q : Int → XM → Prop) : Prop :=
  M_X11_in x v1 0 255  (fun z1 => ((¬ z1 = 0 → ((¬ (x 83 1) = 240 → (0 ≤ (x 83 1) ∧ (x 83 1) < 240) ∧ (∀ x5 : XM, x5 = uX x 84 (((x 83 1)).toNat) (ji2b v1) → (Rg ((x5 83 1) + 1)) ∧ (∀ x7 : XM, x7 = uX x5 83 1 ((x5 83 1) + 1) → q (x7 83 1) x7))) ∧ ((x 83 1) = 240 → q (-1000000004) x))) ∧ (z1 = 0 → q (-1000000002) x)))
set_option maxRecDepth 100000 in
theorem w_X11_feed {Γ : GE} {x : XM} (hx : WX x) {v1 : Int} {q : Int → XM → Prop} (r1 : Rg v1) (h : M_X11_feed x v1 q) : CV Γ 1 NF NF D_X11_feed [.ref (gB Γ + 83), vI v1] (mk Γ x) (QE Γ q) := by
  refine CV.of rfl (cat_all rfl) (Nat.le_of_ble_eq_true rfl) ?_
  show V Γ 1 NF NF D_X11_feed (QE Γ q) 0 [.ref (gB Γ + 83), vI v1] [] NF (mk Γ x)
  unfold M_X11_feed at h
  refine V_iload_1 dX11_feed_0 ?_
  refine V_iconst dX11_feed_1 ?_
  refine V_sipush dX11_feed_2 (by decide) ?_
  refine V_cSI3 (My := D_X11_in) dX11_feed_5 ml_R_73 ce_X11_in (Nat.le_refl _) (Nat.le_refl _) (by decide) (sumL rfl) (w_X11_in hx r1 (rgL rfl) (rgL rfl) h) (fun z1 hz1 h => ?_)
  refine V_if_ne 14 dX11_feed_8 (by decide) hz1 ⟨fun c2 => ?_, fun c2 => ?_⟩
  · have h := h.1 c2
    refine V_aload_0 dX11_feed_14 ?_
    refine V_gI dX11_feed_15 fl_R_78 ly_83 (by decide) wn_83_1 ?_
    refine V_sipush dX11_feed_18 (by decide) ?_
    refine V_icmp_ne 27 dX11_feed_21 (by decide) (hx _ _) (rgL rfl) ⟨fun c3 => ?_, fun c3 => ?_⟩
    · have h := h.1 c3
      refine V_aload_0 dX11_feed_27 ?_
      refine V_gR dX11_feed_28 fl_R_7 ly_83 (by decide) wr_83_0 ?_
      refine V_aload_0 dX11_feed_31 ?_
      refine V_gI dX11_feed_32 fl_R_78 ly_83 (by decide) wn_83_1 ?_
      refine V_iload_1 dX11_feed_35 ?_
      refine V_i2b dX11_feed_36 ?_
      obtain ⟨g4, h⟩ := h
      refine V_sBe dX11_feed_37 ly_84 (by decide) (by decide) g4 (nar_i2b _) (fun x5 ex5 => ?_)
      have h := h x5 ex5
      have hx5 := hx.upE (Rg.of _) ex5
      refine V_aload_0 dX11_feed_38 ?_
      refine V_dup dX11_feed_39 rfl ?_
      refine V_gI dX11_feed_40 fl_R_78 ly_83 (by decide) wn_83_1 ?_
      refine V_iconst dX11_feed_43 ?_
      refine V_iadd dX11_feed_44 ?_
      obtain ⟨g6, h⟩ := h
      refine V_pIe dX11_feed_45 fl_R_78 ly_83 (by decide) wn_83_1 (fun x7 ex7 => ?_)
      have h := h x7 ex7
      have hx7 := hx5.upE g6 ex7
      refine V_aload_0 dX11_feed_48 ?_
      refine V_gI dX11_feed_49 fl_R_78 ly_83 (by decide) wn_83_1 ?_
      exact V_ireturn dX11_feed_52 rfl ⟨_, _, rfl, hx7, rfl, (hx7 _ _), h⟩
    · have h := h.2 c3
      refine V_ldc dX11_feed_24 kc_R_81 ?_
      exact V_ireturn dX11_feed_26 rfl ⟨_, _, rfl, hx, rfl, (rgL rfl), h⟩
  · have h := h.2 c2
    refine V_ldc dX11_feed_11 kc_R_77 ?_
    exact V_ireturn dX11_feed_13 rfl ⟨_, _, rfl, hx, rfl, (rgL rfl), h⟩
def M_X9_clear_2 (c0 : Int) (q : XM → Prop) : Nat → XM → Int → Prop
  | 0, _, _ => False
  | n + 1, x, v1 =>
  ((5 ≤ v1 → q x) ∧ (¬ (5 ≤ v1) → (0 ≤ v1 ∧ v1 < 5) ∧ (∀ x3 : XM, x3 = uX x (tid c0 + 1) (v1.toNat) 0 → (Rg (v1 + 1)) ∧ (M_X9_clear_2 c0 q n) x3 (v1 + 1))))
def M_X9_clear (c0 : Int) (x : XM) (q : XM → Prop) : Prop :=
  ∃ m : Nat, M_X9_clear_2 c0 q m x 0
set_option maxRecDepth 100000 in
theorem w_X9_clear_2 {Γ : GE} {c0 : Int} {q : XM → Prop} : ∀ (n : Nat) (x : XM) (v1 : Int) , WX x → Rg v1 → M_X9_clear_2 c0 q n x v1 → V Γ 0 NF NF D_X9_clear (QU Γ q) 2 [.ref (gB Γ + (tid c0)), vI v1] [] NF (mk Γ x) := by
  intro n
  induction n with
  | zero =>
    intro x v1 hx r1 h
    rw [M_X9_clear_2.eq_1] at h
    exact h.elim
  | succ n ih =>
    intro x v1 hx r1 h
    rw [M_X9_clear_2.eq_2] at h
    refine V_iload_1 dX9_clear_2 ?_
    refine V_iconst dX9_clear_3 ?_
    refine V_icmp_ge 20 dX9_clear_4 (by decide) r1 (rgL rfl) ⟨fun c1 => ?_, fun c1 => ?_⟩
    · have h := h.1 c1
      exact V_vreturn dX9_clear_20 rfl ⟨_, rfl, hx, rfl, h⟩
    · have h := h.2 c1
      refine V_aload_0 dX9_clear_7 ?_
      refine V_gR dX9_clear_8 fl_Telling_9 (tid_f c0).1 (tid_b0 c0) (tid_w0 c0) ?_
      refine V_iload_1 dX9_clear_11 ?_
      refine V_iconst dX9_clear_12 ?_
      obtain ⟨g2, h⟩ := h
      refine V_sIe dX9_clear_13 (tid_f c0).2.1 (tid_b1 c0) (by decide) g2 (fun x3 ex3 => ?_)
      have h := h x3 ex3
      have hx3 := hx.upE (rgL rfl) ex3
      refine V_iinc_1 (a1 := uu) dX9_clear_14 rfl ?_
      refine V_goto 2 dX9_clear_17 (by decide) ?_
      obtain ⟨g4, h⟩ := h
      exact ih _ _ hx3 g4 h
set_option maxRecDepth 100000 in
theorem w_X9_clear {Γ : GE} {c0 : Int} {x : XM} (hx : WX x) {q : XM → Prop} (h : M_X9_clear c0 x q) : CV Γ 0 NF NF D_X9_clear [.ref (gB Γ + (tid c0))] (mk Γ x) (QU Γ q) := by
  refine CV.of rfl (cat_all rfl) (Nat.le_of_ble_eq_true rfl) ?_
  show V Γ 0 NF NF D_X9_clear (QU Γ q) 0 [.ref (gB Γ + (tid c0)), uu] [] NF (mk Γ x)
  unfold M_X9_clear at h
  refine V_iconst dX9_clear_0 ?_
  refine V_istore_1 dX9_clear_1 rfl rfl ?_
  obtain ⟨m9, h⟩ := h
  exact w_X9_clear_2 m9 _ _ hx (rgL rfl) h
def M_X8_isAtEnd_38 (q : Int → XM → Prop) (x : XM) : Prop :=
  (((x 1 2) < (x 1 1) → q 0 x) ∧ (¬ ((x 1 2) < (x 1 1)) → q 1 x))
def M_X8_isAtEnd_0 (q : Int → XM → Prop) : Nat → XM → Prop
  | 0, _ => False
  | n + 1, x =>
  (((x 1 1) ≤ (x 1 2) → M_X8_isAtEnd_38 q x) ∧ (¬ ((x 1 1) ≤ (x 1 2)) → (0 ≤ (x 1 2) ∧ (x 1 2) < 240) ∧ ((¬ (x 2 (((x 1 2)).toNat)) = 32 → M_X8_isAtEnd_38 q x) ∧ ((x 2 (((x 1 2)).toNat)) = 32 → (Rg ((x 1 2) + 1)) ∧ (∀ x11 : XM, x11 = uX x 1 2 ((x 1 2) + 1) → (M_X8_isAtEnd_0 q n) x11)))))
def M_X8_isAtEnd (x : XM) (q : Int → XM → Prop) : Prop :=
  (((x 1 1) ≤ (x 1 2) → M_X8_isAtEnd_38 q x) ∧ (¬ ((x 1 1) ≤ (x 1 2)) → (0 ≤ (x 1 2) ∧ (x 1 2) < 240) ∧ ((¬ (x 2 (((x 1 2)).toNat)) = 32 → M_X8_isAtEnd_38 q x) ∧ ((x 2 (((x 1 2)).toNat)) = 32 → (Rg ((x 1 2) + 1)) ∧ (∀ x6 : XM, x6 = uX x 1 2 ((x 1 2) + 1) → (∃ m : Nat, M_X8_isAtEnd_0 q m x6))))))
set_option maxRecDepth 100000 in
theorem w_X8_isAtEnd_38 {Γ : GE} {q : Int → XM → Prop} : ∀ (x : XM) , WX x → M_X8_isAtEnd_38 q x → V Γ 0 NF NF D_X8_isAtEnd (QE Γ q) 38 [.ref (gB Γ + 1)] [] NF (mk Γ x) := by
  intro x hx h
  unfold M_X8_isAtEnd_38 at h
  refine V_aload_0 dX8_isAtEnd_38 ?_
  refine V_gI dX8_isAtEnd_39 fl_Reader_24 ly_1 (by decide) wn_1_2 ?_
  refine V_aload_0 dX8_isAtEnd_42 ?_
  refine V_gI dX8_isAtEnd_43 fl_Reader_15 ly_1 (by decide) wn_1_1 ?_
  refine V_icmp_lt 53 dX8_isAtEnd_46 (by decide) (hx _ _) (hx _ _) ⟨fun c2 => ?_, fun c2 => ?_⟩
  · have h := h.1 c2
    refine V_iconst dX8_isAtEnd_53 ?_
    exact V_zreturn dX8_isAtEnd_54 rfl (Or.inl rfl) ⟨_, _, rfl, hx, rfl, (rgL rfl), h⟩
  · have h := h.2 c2
    refine V_iconst dX8_isAtEnd_49 ?_
    refine V_goto 54 dX8_isAtEnd_50 (by decide) ?_
    exact V_zreturn dX8_isAtEnd_54 rfl (Or.inr rfl) ⟨_, _, rfl, hx, rfl, (rgL rfl), h⟩
set_option maxRecDepth 100000 in
theorem w_X8_isAtEnd_0 {Γ : GE} {q : Int → XM → Prop} : ∀ (n : Nat) (x : XM) , WX x → M_X8_isAtEnd_0 q n x → V Γ 0 NF NF D_X8_isAtEnd (QE Γ q) 0 [.ref (gB Γ + 1)] [] NF (mk Γ x) := by
  intro n
  induction n with
  | zero =>
    intro x hx h
    rw [M_X8_isAtEnd_0.eq_1] at h
    exact h.elim
  | succ n ih =>
    intro x hx h
    rw [M_X8_isAtEnd_0.eq_2] at h
    refine V_aload_0 dX8_isAtEnd_0 ?_
    refine V_gI dX8_isAtEnd_1 fl_Reader_24 ly_1 (by decide) wn_1_2 ?_
    refine V_aload_0 dX8_isAtEnd_4 ?_
    refine V_gI dX8_isAtEnd_5 fl_Reader_15 ly_1 (by decide) wn_1_1 ?_
    refine V_icmp_ge 38 dX8_isAtEnd_8 (by decide) (hx _ _) (hx _ _) ⟨fun c7 => ?_, fun c7 => ?_⟩
    · have h := h.1 c7
      exact w_X8_isAtEnd_38 _ hx h
    · have h := h.2 c7
      refine V_aload_0 dX8_isAtEnd_11 ?_
      refine V_gR dX8_isAtEnd_12 fl_Reader_9 ly_1 (by decide) wr_1_0 ?_
      refine V_aload_0 dX8_isAtEnd_15 ?_
      refine V_gI dX8_isAtEnd_16 fl_Reader_24 ly_1 (by decide) wn_1_2 ?_
      obtain ⟨g8, h⟩ := h
      refine V_aI dX8_isAtEnd_19 ly_2 (by decide) (by decide) g8 ?_
      refine V_bipush dX8_isAtEnd_20 (by decide) ?_
      refine V_icmp_ne 38 dX8_isAtEnd_22 (by decide) (hx _ _) (rgL rfl) ⟨fun c9 => ?_, fun c9 => ?_⟩
      · have h := h.1 c9
        exact w_X8_isAtEnd_38 _ hx h
      · have h := h.2 c9
        refine V_aload_0 dX8_isAtEnd_25 ?_
        refine V_dup dX8_isAtEnd_26 rfl ?_
        refine V_gI dX8_isAtEnd_27 fl_Reader_24 ly_1 (by decide) wn_1_2 ?_
        refine V_iconst dX8_isAtEnd_30 ?_
        refine V_iadd dX8_isAtEnd_31 ?_
        obtain ⟨g10, h⟩ := h
        refine V_pIe dX8_isAtEnd_32 fl_Reader_24 ly_1 (by decide) wn_1_2 (fun x11 ex11 => ?_)
        have h := h x11 ex11
        have hx11 := hx.upE g10 ex11
        refine V_goto 0 dX8_isAtEnd_35 (by decide) ?_
        exact ih _ hx11 h
set_option maxRecDepth 100000 in
theorem w_X8_isAtEnd {Γ : GE} {x : XM} (hx : WX x) {q : Int → XM → Prop} (h : M_X8_isAtEnd x q) : CV Γ 0 NF NF D_X8_isAtEnd [.ref (gB Γ + 1)] (mk Γ x) (QE Γ q) := by
  refine CV.of rfl (cat_all rfl) (Nat.le_of_ble_eq_true rfl) ?_
  show V Γ 0 NF NF D_X8_isAtEnd (QE Γ q) 0 [.ref (gB Γ + 1)] [] NF (mk Γ x)
  unfold M_X8_isAtEnd at h
  refine V_aload_0 dX8_isAtEnd_0 ?_
  refine V_gI dX8_isAtEnd_1 fl_Reader_24 ly_1 (by decide) wn_1_2 ?_
  refine V_aload_0 dX8_isAtEnd_4 ?_
  refine V_gI dX8_isAtEnd_5 fl_Reader_15 ly_1 (by decide) wn_1_1 ?_
  refine V_icmp_ge 38 dX8_isAtEnd_8 (by decide) (hx _ _) (hx _ _) ⟨fun c1 => ?_, fun c1 => ?_⟩
  · have h := h.1 c1
    exact w_X8_isAtEnd_38 _ hx h
  · have h := h.2 c1
    refine V_aload_0 dX8_isAtEnd_11 ?_
    refine V_gR dX8_isAtEnd_12 fl_Reader_9 ly_1 (by decide) wr_1_0 ?_
    refine V_aload_0 dX8_isAtEnd_15 ?_
    refine V_gI dX8_isAtEnd_16 fl_Reader_24 ly_1 (by decide) wn_1_2 ?_
    obtain ⟨g3, h⟩ := h
    refine V_aI dX8_isAtEnd_19 ly_2 (by decide) (by decide) g3 ?_
    refine V_bipush dX8_isAtEnd_20 (by decide) ?_
    refine V_icmp_ne 38 dX8_isAtEnd_22 (by decide) (hx _ _) (rgL rfl) ⟨fun c4 => ?_, fun c4 => ?_⟩
    · have h := h.1 c4
      exact w_X8_isAtEnd_38 _ hx h
    · have h := h.2 c4
      refine V_aload_0 dX8_isAtEnd_25 ?_
      refine V_dup dX8_isAtEnd_26 rfl ?_
      refine V_gI dX8_isAtEnd_27 fl_Reader_24 ly_1 (by decide) wn_1_2 ?_
      refine V_iconst dX8_isAtEnd_30 ?_
      refine V_iadd dX8_isAtEnd_31 ?_
      obtain ⟨g5, h⟩ := h
      refine V_pIe dX8_isAtEnd_32 fl_Reader_24 ly_1 (by decide) wn_1_2 (fun x6 ex6 => ?_)
      have h := h x6 ex6
      have hx6 := hx.upE g5 ex6
      refine V_goto 0 dX8_isAtEnd_35 (by decide) ?_
      obtain ⟨m9, h⟩ := h
      exact w_X8_isAtEnd_0 m9 _ hx6 h
def M_J0_isLatin1_aae02 (x : XM) (q : Int → Prop) : Prop :=
  q 1
set_option maxRecDepth 100000 in
theorem w_J0_isLatin1_aae02 {Γ : GE} {x : XM} (hx : WX x) {q : Int → Prop} (h : M_J0_isLatin1_aae02 x q) : CV Γ 0 NF NF D_J0_isLatin1_aae02 [.ref (gS Γ 6)] (mk Γ x) (QI Γ x q) := by
  refine CV.ofF (by decide +kernel) (cat_all rfl) (Nat.le_of_ble_eq_true rfl) ?_
  show V Γ 0 NF NF D_J0_isLatin1_aae02 (QI Γ x q) 0 [.ref (gS Γ 6)] [] NF (mk Γ x)
  unfold M_J0_isLatin1_aae02 at h
  refine V_getZ dJ0_isLatin1_aae02_0 fw_JString_38 ?_
  refine V_if_eq 17 dJ0_isLatin1_aae02_3 (by decide) (rgL rfl) ⟨fun c1 => ?_, fun c1 => ?_⟩
  · exact absurd c1 (by decide)
  · skip
    refine V_aload_0 dJ0_isLatin1_aae02_6 ?_
    refine V_strc dJ0_isLatin1_aae02_7 fw_JString_15 ?_
    refine V_if_ne 17 dJ0_isLatin1_aae02_10 (by decide) (rgL rfl) ⟨fun c2 => ?_, fun c2 => ?_⟩
    · exact absurd c2 (by decide)
    · skip
      refine V_iconst dJ0_isLatin1_aae02_13 ?_
      refine V_goto 18 dJ0_isLatin1_aae02_14 (by decide) ?_
      exact V_zreturn dJ0_isLatin1_aae02_18 rfl (Or.inr rfl) ⟨rfl, _, rfl, (rgL rfl), h⟩
def M_J0_coder_7d493 (x : XM) (q : Int → Prop) : Prop :=
  q 0
set_option maxRecDepth 100000 in
theorem w_J0_coder_7d493 {Γ : GE} {x : XM} (hx : WX x) {q : Int → Prop} (h : M_J0_coder_7d493 x q) : CV Γ 0 NF NF D_J0_coder_7d493 [.ref (gS Γ 6)] (mk Γ x) (QI Γ x q) := by
  refine CV.ofF (by decide +kernel) (cat_all rfl) (Nat.le_of_ble_eq_true rfl) ?_
  show V Γ 0 NF NF D_J0_coder_7d493 (QI Γ x q) 0 [.ref (gS Γ 6)] [] NF (mk Γ x)
  unfold M_J0_coder_7d493 at h
  refine V_getZ dJ0_coder_7d493_0 fw_JString_38 ?_
  refine V_if_eq 13 dJ0_coder_7d493_3 (by decide) (rgL rfl) ⟨fun c1 => ?_, fun c1 => ?_⟩
  · exact absurd c1 (by decide)
  · skip
    refine V_aload_0 dJ0_coder_7d493_6 ?_
    refine V_strc dJ0_coder_7d493_7 fw_JString_15 ?_
    refine V_goto 14 dJ0_coder_7d493_10 (by decide) ?_
    exact V_breturn dJ0_coder_7d493_14 rfl rfl ⟨rfl, _, rfl, (rgL rfl), h⟩
def M_J0_length_8abf5 (x : XM) (q : Int → Prop) : Prop :=
  M_J0_coder_7d493 x  (fun z1 => q (jshr 5 z1))
set_option maxRecDepth 100000 in
theorem w_J0_length_8abf5 {Γ : GE} {x : XM} (hx : WX x) {q : Int → Prop} (h : M_J0_length_8abf5 x q) : CV Γ 1 NF NF D_J0_length_8abf5 [.ref (gS Γ 6)] (mk Γ x) (QI Γ x q) := by
  refine CV.ofF (by decide +kernel) (cat_all rfl) (Nat.le_of_ble_eq_true rfl) ?_
  show V Γ 1 NF NF D_J0_length_8abf5 (QI Γ x q) 0 [.ref (gS Γ 6)] [] NF (mk Γ x)
  unfold M_J0_length_8abf5 at h
  refine V_aload_0 dJ0_length_8abf5_0 ?_
  refine V_strv dJ0_length_8abf5_1 fw_JString_9 ?_
  refine V_strl dJ0_length_8abf5_4 ?_
  refine V_aload_0 dJ0_length_8abf5_5 ?_
  refine V_cXI0 (My := D_J0_coder_7d493) dJ0_length_8abf5_6 ml_JString_335 ce_J0_coder_7d493 rfl (Nat.le_refl _) (Nat.le_refl _) (by decide) (sumL rfl) (w_J0_coder_7d493 hx h) (fun z1 hz1 h => ?_)
  refine V_ishr dJ0_length_8abf5_9 ?_
  exact V_ireturn dJ0_length_8abf5_10 rfl ⟨rfl, _, rfl, (Rg.of _), h⟩
def M_J1_canEncode_9a6ad (x : XM) (v0 : Int) (q : Int → Prop) : Prop :=
  ((v0 < 0 → q 0) ∧ (¬ (v0 < 0) → ((255 < v0 → q 0) ∧ (¬ (255 < v0) → q 1))))
set_option maxRecDepth 100000 in
theorem w_J1_canEncode_9a6ad {Γ : GE} {x : XM} (hx : WX x) {v0 : Int} {q : Int → Prop} (r0 : Rg v0) (h : M_J1_canEncode_9a6ad x v0 q) : CV Γ 0 NF NF D_J1_canEncode_9a6ad [vI v0] (mk Γ x) (QI Γ x q) := by
  refine CV.ofF (by decide +kernel) (cat_all rfl) (Nat.le_of_ble_eq_true rfl) ?_
  show V Γ 0 NF NF D_J1_canEncode_9a6ad (QI Γ x q) 0 [vI v0] [] NF (mk Γ x)
  unfold M_J1_canEncode_9a6ad at h
  refine V_iload_0 dJ1_canEncode_9a6ad_0 ?_
  refine V_if_lt 15 dJ1_canEncode_9a6ad_1 (by decide) r0 ⟨fun c1 => ?_, fun c1 => ?_⟩
  · have h := h.1 c1
    refine V_iconst dJ1_canEncode_9a6ad_15 ?_
    exact V_zreturn dJ1_canEncode_9a6ad_16 rfl (Or.inl rfl) ⟨rfl, _, rfl, (rgL rfl), h⟩
  · have h := h.2 c1
    refine V_iload_0 dJ1_canEncode_9a6ad_4 ?_
    refine V_sipush dJ1_canEncode_9a6ad_5 (by decide) ?_
    refine V_icmp_gt 15 dJ1_canEncode_9a6ad_8 (by decide) r0 (rgL rfl) ⟨fun c2 => ?_, fun c2 => ?_⟩
    · have h := h.1 c2
      refine V_iconst dJ1_canEncode_9a6ad_15 ?_
      exact V_zreturn dJ1_canEncode_9a6ad_16 rfl (Or.inl rfl) ⟨rfl, _, rfl, (rgL rfl), h⟩
    · have h := h.2 c2
      refine V_iconst dJ1_canEncode_9a6ad_11 ?_
      refine V_goto 16 dJ1_canEncode_9a6ad_12 (by decide) ?_
      exact V_zreturn dJ1_canEncode_9a6ad_16 rfl (Or.inr rfl) ⟨rfl, _, rfl, (rgL rfl), h⟩
def M_J9_max_7cf53 (x : XM) (v0 : Int) (v1 : Int) (q : Int → Prop) : Prop :=
  ((v0 < v1 → q v1) ∧ (¬ (v0 < v1) → q v0))
set_option maxRecDepth 100000 in
theorem w_J9_max_7cf53 {Γ : GE} {x : XM} (hx : WX x) {v0 v1 : Int} {q : Int → Prop} (r0 : Rg v0) (r1 : Rg v1) (h : M_J9_max_7cf53 x v0 v1 q) : CV Γ 0 NF NF D_J9_max_7cf53 [vI v0, vI v1] (mk Γ x) (QI Γ x q) := by
  refine CV.ofF (by decide +kernel) (cat_all rfl) (Nat.le_of_ble_eq_true rfl) ?_
  show V Γ 0 NF NF D_J9_max_7cf53 (QI Γ x q) 0 [vI v0, vI v1] [] NF (mk Γ x)
  unfold M_J9_max_7cf53 at h
  refine V_iload_0 dJ9_max_7cf53_0 ?_
  refine V_iload_1 dJ9_max_7cf53_1 ?_
  refine V_icmp_lt 9 dJ9_max_7cf53_2 (by decide) r0 r1 ⟨fun c1 => ?_, fun c1 => ?_⟩
  · have h := h.1 c1
    refine V_iload_1 dJ9_max_7cf53_9 ?_
    exact V_ireturn dJ9_max_7cf53_10 rfl ⟨rfl, _, rfl, r1, h⟩
  · have h := h.2 c1
    refine V_iload_0 dJ9_max_7cf53_5 ?_
    refine V_goto 10 dJ9_max_7cf53_6 (by decide) ?_
    exact V_ireturn dJ9_max_7cf53_10 rfl ⟨rfl, _, rfl, r0, h⟩
def M_J9_min_7cf53 (x : XM) (v0 : Int) (v1 : Int) (q : Int → Prop) : Prop :=
  ((v1 < v0 → q v1) ∧ (¬ (v1 < v0) → q v0))
set_option maxRecDepth 100000 in
theorem w_J9_min_7cf53 {Γ : GE} {x : XM} (hx : WX x) {v0 v1 : Int} {q : Int → Prop} (r0 : Rg v0) (r1 : Rg v1) (h : M_J9_min_7cf53 x v0 v1 q) : CV Γ 0 NF NF D_J9_min_7cf53 [vI v0, vI v1] (mk Γ x) (QI Γ x q) := by
  refine CV.ofF (by decide +kernel) (cat_all rfl) (Nat.le_of_ble_eq_true rfl) ?_
  show V Γ 0 NF NF D_J9_min_7cf53 (QI Γ x q) 0 [vI v0, vI v1] [] NF (mk Γ x)
  unfold M_J9_min_7cf53 at h
  refine V_iload_0 dJ9_min_7cf53_0 ?_
  refine V_iload_1 dJ9_min_7cf53_1 ?_
  refine V_icmp_gt 9 dJ9_min_7cf53_2 (by decide) r0 r1 ⟨fun c1 => ?_, fun c1 => ?_⟩
  · have h := h.1 c1
    refine V_iload_1 dJ9_min_7cf53_9 ?_
    exact V_ireturn dJ9_min_7cf53_10 rfl ⟨rfl, _, rfl, r1, h⟩
  · have h := h.2 c1
    refine V_iload_0 dJ9_min_7cf53_5 ?_
    refine V_goto 10 dJ9_min_7cf53_6 (by decide) ?_
    exact V_ireturn dJ9_min_7cf53_10 rfl ⟨rfl, _, rfl, r0, h⟩
def M_J1_indexOfChar_4cfef_7 (q : Int → Prop) (x : XM) : Nat → Int → Int → Int → Prop
  | 0, _, _, _ => False
  | n + 1, v3, v4, v5 =>
  ((v3 ≤ v5 → q (-1)) ∧ (¬ (v3 ≤ v5) → (0 ≤ v5 ∧ v5 < 5) ∧ ((¬ (strB (v5.toNat)) = v4 → (Rg (v5 + 1)) ∧ (M_J1_indexOfChar_4cfef_7 q x n) v3 v4 (v5 + 1)) ∧ ((strB (v5.toNat)) = v4 → q v5))))
def M_J1_indexOfChar_4cfef (x : XM) (v1 : Int) (v2 : Int) (v3 : Int) (q : Int → Prop) : Prop :=
  ∃ m : Nat, M_J1_indexOfChar_4cfef_7 q x m v3 (ji2b v1) v2
set_option maxRecDepth 100000 in
theorem w_J1_indexOfChar_4cfef_7 {Γ : GE} {q : Int → Prop} {x : XM} (hx : WX x) : ∀ (n : Nat) (v3 : Int) (v4 : Int) (v5 : Int) , Rg v3 → Rg v4 → Rg v5 → M_J1_indexOfChar_4cfef_7 q x n v3 v4 v5 → V Γ 0 NF NF D_J1_indexOfChar_4cfef (QI Γ x q) 7 [.ref (gS Γ 7), uu, uu, vI v3, vI v4, vI v5] [] NF (mk Γ x) := by
  intro n
  induction n with
  | zero =>
    intro v3 v4 v5 r3 r4 r5 h
    rw [M_J1_indexOfChar_4cfef_7.eq_1] at h
    exact h.elim
  | succ n ih =>
    intro v3 v4 v5 r3 r4 r5 h
    rw [M_J1_indexOfChar_4cfef_7.eq_2] at h
    refine V_iload_5 dJ1_indexOfChar_4cfef_7 ?_
    refine V_iload_3 dJ1_indexOfChar_4cfef_9 ?_
    refine V_icmp_ge 31 dJ1_indexOfChar_4cfef_10 (by decide) r5 r3 ⟨fun c1 => ?_, fun c1 => ?_⟩
    · have h := h.1 c1
      refine V_iconst dJ1_indexOfChar_4cfef_31 ?_
      exact V_ireturn dJ1_indexOfChar_4cfef_32 rfl ⟨rfl, _, rfl, (rgL rfl), h⟩
    · have h := h.2 c1
      refine V_aload_0 dJ1_indexOfChar_4cfef_13 ?_
      refine V_iload_5 dJ1_indexOfChar_4cfef_14 ?_
      obtain ⟨g2, h⟩ := h
      refine V_strb dJ1_indexOfChar_4cfef_16 g2.1 g2.2 ?_
      refine V_iload_4 dJ1_indexOfChar_4cfef_17 ?_
      refine V_icmp_ne 25 dJ1_indexOfChar_4cfef_19 (by decide) (strB_rg _) r4 ⟨fun c3 => ?_, fun c3 => ?_⟩
      · have h := h.1 c3
        refine V_iinc_5 (a5 := uu) dJ1_indexOfChar_4cfef_25 rfl ?_
        refine V_goto 7 dJ1_indexOfChar_4cfef_28 (by decide) ?_
        obtain ⟨g4, h⟩ := h
        exact ih _ _ _ r3 r4 g4 h
      · have h := h.2 c3
        refine V_iload_5 dJ1_indexOfChar_4cfef_22 ?_
        exact V_ireturn dJ1_indexOfChar_4cfef_24 rfl ⟨rfl, _, rfl, r5, h⟩
set_option maxRecDepth 100000 in
theorem w_J1_indexOfChar_4cfef {Γ : GE} {x : XM} (hx : WX x) {v1 v2 v3 : Int} {q : Int → Prop} (r1 : Rg v1) (r2 : Rg v2) (r3 : Rg v3) (h : M_J1_indexOfChar_4cfef x v1 v2 v3 q) : CV Γ 0 NF NF D_J1_indexOfChar_4cfef [.ref (gS Γ 7), vI v1, vI v2, vI v3] (mk Γ x) (QI Γ x q) := by
  refine CV.ofF (by decide +kernel) (cat_all rfl) (Nat.le_of_ble_eq_true rfl) ?_
  show V Γ 0 NF NF D_J1_indexOfChar_4cfef (QI Γ x q) 0 [.ref (gS Γ 7), vI v1, vI v2, vI v3, uu, uu] [] NF (mk Γ x)
  unfold M_J1_indexOfChar_4cfef at h
  refine V_iload_1 dJ1_indexOfChar_4cfef_0 ?_
  refine V_i2b dJ1_indexOfChar_4cfef_1 ?_
  refine V_istore_4 dJ1_indexOfChar_4cfef_2 rfl rfl ?_
  refine V_iload_2 dJ1_indexOfChar_4cfef_4 ?_
  refine V_istore_5 dJ1_indexOfChar_4cfef_5 rfl rfl ?_
  refine V_fg_1 ?_
  refine V_fg_2 ?_
  obtain ⟨m9, h⟩ := h
  exact w_J1_indexOfChar_4cfef_7 hx m9 _ _ _ r3 (Rg.of _) r2 h
def M_J1_indexOf_4cfef (x : XM) (v1 : Int) (v2 : Int) (v3 : Int) (q : Int → Prop) : Prop :=
  M_J1_canEncode_9a6ad x v1  (fun z1 => ((¬ z1 = 0 → M_J9_max_7cf53 x v2 0  (fun z3 => M_J9_min_7cf53 x v3 5  (fun z4 => ((z3 < z4 → M_J1_indexOfChar_4cfef x v1 z3 z4  (fun z6 => q z6)) ∧ (¬ (z3 < z4) → q (-1)))))) ∧ (z1 = 0 → q (-1))))
set_option maxRecDepth 100000 in
theorem w_J1_indexOf_4cfef {Γ : GE} {x : XM} (hx : WX x) {v1 v2 v3 : Int} {q : Int → Prop} (r1 : Rg v1) (r2 : Rg v2) (r3 : Rg v3) (h : M_J1_indexOf_4cfef x v1 v2 v3 q) : CV Γ 1 NF NF D_J1_indexOf_4cfef [.ref (gS Γ 7), vI v1, vI v2, vI v3] (mk Γ x) (QI Γ x q) := by
  refine CV.ofF (by decide +kernel) (cat_all rfl) (Nat.le_of_ble_eq_true rfl) ?_
  show V Γ 1 NF NF D_J1_indexOf_4cfef (QI Γ x q) 0 [.ref (gS Γ 7), vI v1, vI v2, vI v3] [] NF (mk Γ x)
  unfold M_J1_indexOf_4cfef at h
  refine V_iload_1 dJ1_indexOf_4cfef_0 ?_
  refine V_cSI1 (My := D_J1_canEncode_9a6ad) dJ1_indexOf_4cfef_1 ml_JStringLatin1_88 ce_J1_canEncode_9a6ad (Nat.le_refl _) (Nat.le_refl _) (by decide) (sumL rfl) (w_J1_canEncode_9a6ad hx r1 h) (fun z1 hz1 h => ?_)
  refine V_if_ne 9 dJ1_indexOf_4cfef_4 (by decide) hz1 ⟨fun c2 => ?_, fun c2 => ?_⟩
  · have h := h.1 c2
    refine V_iload_2 dJ1_indexOf_4cfef_9 ?_
    refine V_iconst dJ1_indexOf_4cfef_10 ?_
    refine V_cSI2 (My := D_J9_max_7cf53) dJ1_indexOf_4cfef_11 ml_JStringLatin1_92 ce_J9_max_7cf53 (Nat.le_refl _) (Nat.le_refl _) (by decide) (sumL rfl) (w_J9_max_7cf53 hx r2 (rgL rfl) h) (fun z3 hz3 h => ?_)
    refine V_istore_2 dJ1_indexOf_4cfef_14 rfl rfl ?_
    refine V_iload_3 dJ1_indexOf_4cfef_15 ?_
    refine V_aload_0 dJ1_indexOf_4cfef_16 ?_
    refine V_strl dJ1_indexOf_4cfef_17 ?_
    refine V_cSI2 (My := D_J9_min_7cf53) dJ1_indexOf_4cfef_18 ml_JStringLatin1_38 ce_J9_min_7cf53 (Nat.le_refl _) (Nat.le_refl _) (by decide) (sumL rfl) (w_J9_min_7cf53 hx r3 (rgL rfl) h) (fun z4 hz4 h => ?_)
    refine V_istore_3 dJ1_indexOf_4cfef_21 rfl rfl ?_
    refine V_iload_2 dJ1_indexOf_4cfef_22 ?_
    refine V_iload_3 dJ1_indexOf_4cfef_23 ?_
    refine V_icmp_lt 29 dJ1_indexOf_4cfef_24 (by decide) hz3 hz4 ⟨fun c5 => ?_, fun c5 => ?_⟩
    · have h := h.1 c5
      refine V_aload_0 dJ1_indexOf_4cfef_29 ?_
      refine V_iload_1 dJ1_indexOf_4cfef_30 ?_
      refine V_iload_2 dJ1_indexOf_4cfef_31 ?_
      refine V_iload_3 dJ1_indexOf_4cfef_32 ?_
      refine V_cSI4 (My := D_J1_indexOfChar_4cfef) dJ1_indexOf_4cfef_33 ml_JStringLatin1_95 ce_J1_indexOfChar_4cfef (Nat.le_refl _) (Nat.le_refl _) (by decide) (sumL rfl) (w_J1_indexOfChar_4cfef hx r1 hz3 hz4 h) (fun z6 hz6 h => ?_)
      exact V_ireturn dJ1_indexOf_4cfef_36 rfl ⟨rfl, _, rfl, hz6, h⟩
    · have h := h.2 c5
      refine V_iconst dJ1_indexOf_4cfef_27 ?_
      exact V_ireturn dJ1_indexOf_4cfef_28 rfl ⟨rfl, _, rfl, (rgL rfl), h⟩
  · have h := h.2 c2
    refine V_iconst dJ1_indexOf_4cfef_7 ?_
    exact V_ireturn dJ1_indexOf_4cfef_8 rfl ⟨rfl, _, rfl, (rgL rfl), h⟩
def M_J0_indexOf_7cf53 (x : XM) (v1 : Int) (v2 : Int) (q : Int → Prop) : Prop :=
  M_J0_isLatin1_aae02 x  (fun z1 => (z1 = 1) ∧ M_J0_length_8abf5 x  (fun z4 => M_J1_indexOf_4cfef x v1 v2 z4  (fun z5 => q z5)))
set_option maxRecDepth 100000 in
theorem w_J0_indexOf_7cf53 {Γ : GE} {x : XM} (hx : WX x) {v1 v2 : Int} {q : Int → Prop} (r1 : Rg v1) (r2 : Rg v2) (h : M_J0_indexOf_7cf53 x v1 v2 q) : CV Γ 2 NF NF D_J0_indexOf_7cf53 [.ref (gS Γ 6), vI v1, vI v2] (mk Γ x) (QI Γ x q) := by
  refine CV.ofF (by decide +kernel) (cat_all rfl) (Nat.le_of_ble_eq_true rfl) ?_
  show V Γ 2 NF NF D_J0_indexOf_7cf53 (QI Γ x q) 0 [.ref (gS Γ 6), vI v1, vI v2] [] NF (mk Γ x)
  unfold M_J0_indexOf_7cf53 at h
  refine V_aload_0 dJ0_indexOf_7cf53_0 ?_
  refine V_cXI0 (My := D_J0_isLatin1_aae02) dJ0_indexOf_7cf53_1 ml_JString_492 ce_J0_isLatin1_aae02 rfl (Nat.le_refl _) (Nat.le_refl _) (by decide) (sumL rfl) (w_J0_isLatin1_aae02 hx h) (fun z1 hz1 h => ?_)
  obtain ⟨g2, h⟩ := h
  subst g2
  refine V_if_eq 23 dJ0_indexOf_7cf53_4 (by decide) (rgL rfl) ⟨fun c3 => ?_, fun c3 => ?_⟩
  · exact absurd c3 (by decide)
  · skip
    refine V_aload_0 dJ0_indexOf_7cf53_7 ?_
    refine V_strv dJ0_indexOf_7cf53_8 fw_JString_9 ?_
    refine V_iload_1 dJ0_indexOf_7cf53_11 ?_
    refine V_iload_2 dJ0_indexOf_7cf53_12 ?_
    refine V_aload_0 dJ0_indexOf_7cf53_13 ?_
    refine V_cXI0 (My := D_J0_length_8abf5) dJ0_indexOf_7cf53_14 ml_JString_505 ce_J0_length_8abf5 rfl (Nat.le_refl _) (Nat.le_refl _) (by decide) (sumL rfl) (w_J0_length_8abf5 hx h) (fun z4 hz4 h => ?_)
    refine V_cSI4 (My := D_J1_indexOf_4cfef) dJ0_indexOf_7cf53_17 ml_JString_637 ce_J1_indexOf_4cfef (Nat.le_refl _) (Nat.le_refl _) (by decide) (sumL rfl) (w_J1_indexOf_4cfef hx r1 r2 hz4 h) (fun z5 hz5 h => ?_)
    refine V_goto 36 dJ0_indexOf_7cf53_20 (by decide) ?_
    exact V_ireturn dJ0_indexOf_7cf53_36 rfl ⟨rfl, _, rfl, hz5, h⟩
def M_J0_indexOf_0f7a4 (x : XM) (v1 : Int) (q : Int → Prop) : Prop :=
  M_J0_indexOf_7cf53 x v1 0  (fun z1 => q z1)
set_option maxRecDepth 100000 in
theorem w_J0_indexOf_0f7a4 {Γ : GE} {x : XM} (hx : WX x) {v1 : Int} {q : Int → Prop} (r1 : Rg v1) (h : M_J0_indexOf_0f7a4 x v1 q) : CV Γ 3 NF NF D_J0_indexOf_0f7a4 [.ref (gS Γ 6), vI v1] (mk Γ x) (QI Γ x q) := by
  refine CV.ofF (by decide +kernel) (cat_all rfl) (Nat.le_of_ble_eq_true rfl) ?_
  show V Γ 3 NF NF D_J0_indexOf_0f7a4 (QI Γ x q) 0 [.ref (gS Γ 6), vI v1] [] NF (mk Γ x)
  unfold M_J0_indexOf_0f7a4 at h
  refine V_aload_0 dJ0_indexOf_0f7a4_0 ?_
  refine V_iload_1 dJ0_indexOf_0f7a4_1 ?_
  refine V_iconst dJ0_indexOf_0f7a4_2 ?_
  refine V_cXI2 (My := D_J0_indexOf_7cf53) dJ0_indexOf_0f7a4_3 ml_JString_633 ce_J0_indexOf_7cf53 rfl (Nat.le_refl _) (Nat.le_refl _) (by decide) (sumL rfl) (w_J0_indexOf_7cf53 hx r1 (rgL rfl) h) (fun z1 hz1 h => ?_)
  exact V_ireturn dJ0_indexOf_0f7a4_6 rfl ⟨rfl, _, rfl, hz1, h⟩
def M_X8_isFigure (x : XM) (v0 : Int) (q : Int → Prop) : Prop :=
  ((v0 < 48 → q 0) ∧ (¬ (v0 < 48) → ((57 < v0 → q 0) ∧ (¬ (57 < v0) → q 1))))
set_option maxRecDepth 100000 in
theorem w_X8_isFigure {Γ : GE} {x : XM} (hx : WX x) {v0 : Int} {q : Int → Prop} (r0 : Rg v0) (h : M_X8_isFigure x v0 q) : CV Γ 0 NF NF D_X8_isFigure [vI v0] (mk Γ x) (QI Γ x q) := by
  refine CV.of rfl (cat_all rfl) (Nat.le_of_ble_eq_true rfl) ?_
  show V Γ 0 NF NF D_X8_isFigure (QI Γ x q) 0 [vI v0] [] NF (mk Γ x)
  unfold M_X8_isFigure at h
  refine V_iload_0 dX8_isFigure_0 ?_
  refine V_bipush dX8_isFigure_1 (by decide) ?_
  refine V_icmp_lt 16 dX8_isFigure_3 (by decide) r0 (rgL rfl) ⟨fun c1 => ?_, fun c1 => ?_⟩
  · have h := h.1 c1
    refine V_iconst dX8_isFigure_16 ?_
    exact V_zreturn dX8_isFigure_17 rfl (Or.inl rfl) ⟨rfl, _, rfl, (rgL rfl), h⟩
  · have h := h.2 c1
    refine V_iload_0 dX8_isFigure_6 ?_
    refine V_bipush dX8_isFigure_7 (by decide) ?_
    refine V_icmp_gt 16 dX8_isFigure_9 (by decide) r0 (rgL rfl) ⟨fun c2 => ?_, fun c2 => ?_⟩
    · have h := h.1 c2
      refine V_iconst dX8_isFigure_16 ?_
      exact V_zreturn dX8_isFigure_17 rfl (Or.inl rfl) ⟨rfl, _, rfl, (rgL rfl), h⟩
    · have h := h.2 c2
      refine V_iconst dX8_isFigure_12 ?_
      refine V_goto 17 dX8_isFigure_13 (by decide) ?_
      exact V_zreturn dX8_isFigure_17 rfl (Or.inr rfl) ⟨rfl, _, rfl, (rgL rfl), h⟩
def M_X8_readNumber_101 (q : Int → XM → Prop) (x : XM) (v1 : Int) (v2 : Int) (v3 : Int) (v4 : Int) : Prop :=
  (Rg ((x 1 2) - v3)) ∧ ((3 < ((x 1 2) - v3) → ∀ x10 : XM, x10 = uX x 1 2 v3 → q (-2) x10) ∧ (¬ (3 < ((x 1 2) - v3)) → (0 ≤ ((v1 * 4) + v2) ∧ ((v1 * 4) + v2) < 20) ∧ ((v4 < (sI 3 ((((v1 * 4) + v2)).toNat)) → ∀ x13 : XM, x13 = uX x 1 2 v3 → q (-2) x13) ∧ (¬ (v4 < (sI 3 ((((v1 * 4) + v2)).toNat))) → (0 ≤ ((v1 * 4) + v2) ∧ ((v1 * 4) + v2) < 20) ∧ ((v4 ≤ (sI 4 ((((v1 * 4) + v2)).toNat)) → q v4 x) ∧ (¬ (v4 ≤ (sI 4 ((((v1 * 4) + v2)).toNat))) → ∀ x16 : XM, x16 = uX x 1 2 v3 → q (-2) x16))))))
def M_X8_readNumber_32 (q : Int → XM → Prop) : Nat → XM → Int → Int → Int → Int → Prop
  | 0, _, _, _, _, _ => False
  | n + 1, x, v1, v2, v3, v4 =>
  (((x 1 1) ≤ (x 1 2) → M_X8_readNumber_101 q x v1 v2 v3 v4) ∧ (¬ ((x 1 1) ≤ (x 1 2)) → (0 ≤ (x 1 2) ∧ (x 1 2) < 240) ∧ M_X8_isFigure x (x 2 (((x 1 2)).toNat))  (fun z18 => ((z18 = 0 → M_X8_readNumber_101 q x v1 v2 v3 v4) ∧ (¬ z18 = 0 → (Rg ((x 1 2) - v3)) ∧ ((4 ≤ ((x 1 2) - v3) → (Rg ((x 1 2) + 1)) ∧ (∀ x23 : XM, x23 = uX x 1 2 ((x 1 2) + 1) → (M_X8_readNumber_32 q n) x23 v1 v2 v3 v4)) ∧ (¬ (4 ≤ ((x 1 2) - v3)) → (0 ≤ (x 1 2) ∧ (x 1 2) < 240) ∧ (Rg ((x 1 2) + 1)) ∧ (∀ x26 : XM, x26 = uX x 1 2 ((x 1 2) + 1) → (Rg (((v4 * 10) + (x 2 (((x 1 2)).toNat))) - 48)) ∧ (M_X8_readNumber_32 q n) x26 v1 v2 v3 (((v4 * 10) + (x 2 (((x 1 2)).toNat))) - 48)))))))))
def M_X8_readNumber (x : XM) (v1 : Int) (v2 : Int) (q : Int → XM → Prop) : Prop :=
  M_X8_isAtEnd x  (fun z1 x2 => ((¬ z1 = 0 → q (-1) x2) ∧ (z1 = 0 → (0 ≤ (x2 1 2) ∧ (x2 1 2) < 240) ∧ M_X8_isFigure x2 (x2 2 (((x2 1 2)).toNat))  (fun z5 => ((¬ z5 = 0 → ∃ m : Nat, M_X8_readNumber_32 q m x2 v1 v2 (x2 1 2) 0) ∧ (z5 = 0 → q (-1) x2))))))
set_option maxRecDepth 100000 in
theorem w_X8_readNumber_101 {Γ : GE} {q : Int → XM → Prop} : ∀ (x : XM) (v1 : Int) (v2 : Int) (v3 : Int) (v4 : Int) , WX x → Rg v1 → Rg v2 → Rg v3 → Rg v4 → M_X8_readNumber_101 q x v1 v2 v3 v4 → V Γ 1 NF NF D_X8_readNumber (QE Γ q) 101 [.ref (gB Γ + 1), vI v1, vI v2, vI v3, vI v4] [] NF (mk Γ x) := by
  intro x v1 v2 v3 v4 hx r1 r2 r3 r4 h
  unfold M_X8_readNumber_101 at h
  refine V_aload_0 dX8_readNumber_101 ?_
  refine V_gI dX8_readNumber_102 fl_Reader_24 ly_1 (by decide) wn_1_2 ?_
  refine V_iload_3 dX8_readNumber_105 ?_
  refine V_isub dX8_readNumber_106 ?_
  refine V_iconst dX8_readNumber_107 ?_
  obtain ⟨g8, h⟩ := h
  refine V_icmp_gt 139 dX8_readNumber_108 (by decide) g8 (rgL rfl) ⟨fun c9 => ?_, fun c9 => ?_⟩
  · have h := h.1 c9
    refine V_aload_0 dX8_readNumber_139 ?_
    refine V_iload_3 dX8_readNumber_140 ?_
    refine V_pIe dX8_readNumber_141 fl_Reader_24 ly_1 (by decide) wn_1_2 (fun x10 ex10 => ?_)
    have h := h x10 ex10
    have hx10 := hx.upE r3 ex10
    refine V_bipush dX8_readNumber_144 (by decide) ?_
    exact V_ireturn dX8_readNumber_146 rfl ⟨_, _, rfl, hx10, rfl, (rgL rfl), h⟩
  · have h := h.2 c9
    refine V_iload_4 dX8_readNumber_111 ?_
    refine V_gets dX8_readNumber_113 (i := 3) (by decide) (by decide) ?_
    refine V_iload_1 dX8_readNumber_116 ?_
    refine V_iconst dX8_readNumber_117 ?_
    refine V_imul dX8_readNumber_118 ?_
    refine V_iload_2 dX8_readNumber_119 ?_
    refine V_iadd dX8_readNumber_120 ?_
    obtain ⟨g11, h⟩ := h
    refine V_sald dX8_readNumber_121 (i := 3) (by decide) g11.1 g11.2 sI_ok ?_
    refine V_icmp_lt 139 dX8_readNumber_122 (by decide) r4 (Rg.of _) ⟨fun c12 => ?_, fun c12 => ?_⟩
    · have h := h.1 c12
      refine V_aload_0 dX8_readNumber_139 ?_
      refine V_iload_3 dX8_readNumber_140 ?_
      refine V_pIe dX8_readNumber_141 fl_Reader_24 ly_1 (by decide) wn_1_2 (fun x13 ex13 => ?_)
      have h := h x13 ex13
      have hx13 := hx.upE r3 ex13
      refine V_bipush dX8_readNumber_144 (by decide) ?_
      exact V_ireturn dX8_readNumber_146 rfl ⟨_, _, rfl, hx13, rfl, (rgL rfl), h⟩
    · have h := h.2 c12
      refine V_iload_4 dX8_readNumber_125 ?_
      refine V_gets dX8_readNumber_127 (i := 4) (by decide) (by decide) ?_
      refine V_iload_1 dX8_readNumber_130 ?_
      refine V_iconst dX8_readNumber_131 ?_
      refine V_imul dX8_readNumber_132 ?_
      refine V_iload_2 dX8_readNumber_133 ?_
      refine V_iadd dX8_readNumber_134 ?_
      obtain ⟨g14, h⟩ := h
      refine V_sald dX8_readNumber_135 (i := 4) (by decide) g14.1 g14.2 sI_ok ?_
      refine V_icmp_le 147 dX8_readNumber_136 (by decide) r4 (Rg.of _) ⟨fun c15 => ?_, fun c15 => ?_⟩
      · have h := h.1 c15
        refine V_iload_4 dX8_readNumber_147 ?_
        exact V_ireturn dX8_readNumber_149 rfl ⟨_, _, rfl, hx, rfl, r4, h⟩
      · have h := h.2 c15
        refine V_aload_0 dX8_readNumber_139 ?_
        refine V_iload_3 dX8_readNumber_140 ?_
        refine V_pIe dX8_readNumber_141 fl_Reader_24 ly_1 (by decide) wn_1_2 (fun x16 ex16 => ?_)
        have h := h x16 ex16
        have hx16 := hx.upE r3 ex16
        refine V_bipush dX8_readNumber_144 (by decide) ?_
        exact V_ireturn dX8_readNumber_146 rfl ⟨_, _, rfl, hx16, rfl, (rgL rfl), h⟩
set_option maxRecDepth 100000 in
theorem w_X8_readNumber_32 {Γ : GE} {q : Int → XM → Prop} : ∀ (n : Nat) (x : XM) (v1 : Int) (v2 : Int) (v3 : Int) (v4 : Int) , WX x → Rg v1 → Rg v2 → Rg v3 → Rg v4 → M_X8_readNumber_32 q n x v1 v2 v3 v4 → V Γ 1 NF NF D_X8_readNumber (QE Γ q) 32 [.ref (gB Γ + 1), vI v1, vI v2, vI v3, vI v4] [] NF (mk Γ x) := by
  intro n
  induction n with
  | zero =>
    intro x v1 v2 v3 v4 hx r1 r2 r3 r4 h
    rw [M_X8_readNumber_32.eq_1] at h
    exact h.elim
  | succ n ih =>
    intro x v1 v2 v3 v4 hx r1 r2 r3 r4 h
    rw [M_X8_readNumber_32.eq_2] at h
    refine V_aload_0 dX8_readNumber_32 ?_
    refine V_gI dX8_readNumber_33 fl_Reader_24 ly_1 (by decide) wn_1_2 ?_
    refine V_aload_0 dX8_readNumber_36 ?_
    refine V_gI dX8_readNumber_37 fl_Reader_15 ly_1 (by decide) wn_1_1 ?_
    refine V_icmp_ge 101 dX8_readNumber_40 (by decide) (hx _ _) (hx _ _) ⟨fun c7 => ?_, fun c7 => ?_⟩
    · have h := h.1 c7
      exact w_X8_readNumber_101 _ _ _ _ _ hx r1 r2 r3 r4 h
    · have h := h.2 c7
      refine V_aload_0 dX8_readNumber_43 ?_
      refine V_gR dX8_readNumber_44 fl_Reader_9 ly_1 (by decide) wr_1_0 ?_
      refine V_aload_0 dX8_readNumber_47 ?_
      refine V_gI dX8_readNumber_48 fl_Reader_24 ly_1 (by decide) wn_1_2 ?_
      obtain ⟨g17, h⟩ := h
      refine V_aI dX8_readNumber_51 ly_2 (by decide) (by decide) g17 ?_
      refine V_cSI1 (My := D_X8_isFigure) dX8_readNumber_52 ml_Reader_60 ce_X8_isFigure (Nat.le_refl _) (Nat.le_refl _) (by decide) (sumL rfl) (w_X8_isFigure hx (hx _ _) h) (fun z18 hz18 h => ?_)
      refine V_if_eq 101 dX8_readNumber_55 (by decide) hz18 ⟨fun c19 => ?_, fun c19 => ?_⟩
      · have h := h.1 c19
        exact w_X8_readNumber_101 _ _ _ _ _ hx r1 r2 r3 r4 h
      · have h := h.2 c19
        refine V_aload_0 dX8_readNumber_58 ?_
        refine V_gI dX8_readNumber_59 fl_Reader_24 ly_1 (by decide) wn_1_2 ?_
        refine V_iload_3 dX8_readNumber_62 ?_
        refine V_isub dX8_readNumber_63 ?_
        refine V_iconst dX8_readNumber_64 ?_
        obtain ⟨g20, h⟩ := h
        refine V_icmp_ge 88 dX8_readNumber_65 (by decide) g20 (rgL rfl) ⟨fun c21 => ?_, fun c21 => ?_⟩
        · have h := h.1 c21
          refine V_aload_0 dX8_readNumber_88 ?_
          refine V_dup dX8_readNumber_89 rfl ?_
          refine V_gI dX8_readNumber_90 fl_Reader_24 ly_1 (by decide) wn_1_2 ?_
          refine V_iconst dX8_readNumber_93 ?_
          refine V_iadd dX8_readNumber_94 ?_
          obtain ⟨g22, h⟩ := h
          refine V_pIe dX8_readNumber_95 fl_Reader_24 ly_1 (by decide) wn_1_2 (fun x23 ex23 => ?_)
          have h := h x23 ex23
          have hx23 := hx.upE g22 ex23
          refine V_goto 32 dX8_readNumber_98 (by decide) ?_
          exact ih _ _ _ _ _ hx23 r1 r2 r3 r4 h
        · have h := h.2 c21
          refine V_iload_4 dX8_readNumber_68 ?_
          refine V_bipush dX8_readNumber_70 (by decide) ?_
          refine V_imul dX8_readNumber_72 ?_
          refine V_aload_0 dX8_readNumber_73 ?_
          refine V_gR dX8_readNumber_74 fl_Reader_9 ly_1 (by decide) wr_1_0 ?_
          refine V_aload_0 dX8_readNumber_77 ?_
          refine V_gI dX8_readNumber_78 fl_Reader_24 ly_1 (by decide) wn_1_2 ?_
          obtain ⟨g24, h⟩ := h
          refine V_aI dX8_readNumber_81 ly_2 (by decide) (by decide) g24 ?_
          refine V_iadd dX8_readNumber_82 ?_
          refine V_bipush dX8_readNumber_83 (by decide) ?_
          refine V_isub dX8_readNumber_85 ?_
          refine V_istore_4 dX8_readNumber_86 rfl rfl ?_
          refine V_aload_0 dX8_readNumber_88 ?_
          refine V_dup dX8_readNumber_89 rfl ?_
          refine V_gI dX8_readNumber_90 fl_Reader_24 ly_1 (by decide) wn_1_2 ?_
          refine V_iconst dX8_readNumber_93 ?_
          refine V_iadd dX8_readNumber_94 ?_
          obtain ⟨g25, h⟩ := h
          refine V_pIe dX8_readNumber_95 fl_Reader_24 ly_1 (by decide) wn_1_2 (fun x26 ex26 => ?_)
          have h := h x26 ex26
          have hx26 := hx.upE g25 ex26
          refine V_goto 32 dX8_readNumber_98 (by decide) ?_
          obtain ⟨g27, h⟩ := h
          exact ih _ _ _ _ _ hx26 r1 r2 r3 g27 h
set_option maxRecDepth 100000 in
theorem w_X8_readNumber {Γ : GE} {x : XM} (hx : WX x) {v1 v2 : Int} {q : Int → XM → Prop} (r1 : Rg v1) (r2 : Rg v2) (h : M_X8_readNumber x v1 v2 q) : CV Γ 1 NF NF D_X8_readNumber [.ref (gB Γ + 1), vI v1, vI v2] (mk Γ x) (QE Γ q) := by
  refine CV.of rfl (cat_all rfl) (Nat.le_of_ble_eq_true rfl) ?_
  show V Γ 1 NF NF D_X8_readNumber (QE Γ q) 0 [.ref (gB Γ + 1), vI v1, vI v2, uu, uu] [] NF (mk Γ x)
  unfold M_X8_readNumber at h
  refine V_aload_0 dX8_readNumber_0 ?_
  refine V_cVE0 (My := D_X8_isAtEnd) dX8_readNumber_1 ml_Reader_27 ce_X8_isAtEnd ly_1 (by decide) cl_8 (by decide) (Nat.le_refl _) (Nat.le_refl _) (by decide) (sumL rfl) (w_X8_isAtEnd hx h) (fun z1 x2 hx2 hz1 h => ?_)
  refine V_if_ne 22 dX8_readNumber_4 (by decide) hz1 ⟨fun c3 => ?_, fun c3 => ?_⟩
  · have h := h.1 c3
    refine V_iconst dX8_readNumber_22 ?_
    exact V_ireturn dX8_readNumber_23 rfl ⟨_, _, rfl, hx2, rfl, (rgL rfl), h⟩
  · have h := h.2 c3
    refine V_aload_0 dX8_readNumber_7 ?_
    refine V_gR dX8_readNumber_8 fl_Reader_9 ly_1 (by decide) wr_1_0 ?_
    refine V_aload_0 dX8_readNumber_11 ?_
    refine V_gI dX8_readNumber_12 fl_Reader_24 ly_1 (by decide) wn_1_2 ?_
    obtain ⟨g4, h⟩ := h
    refine V_aI dX8_readNumber_15 ly_2 (by decide) (by decide) g4 ?_
    refine V_cSI1 (My := D_X8_isFigure) dX8_readNumber_16 ml_Reader_60 ce_X8_isFigure (Nat.le_refl _) (Nat.le_refl _) (by decide) (sumL rfl) (w_X8_isFigure hx2 (hx2 _ _) h) (fun z5 hz5 h => ?_)
    refine V_if_ne 24 dX8_readNumber_19 (by decide) hz5 ⟨fun c6 => ?_, fun c6 => ?_⟩
    · have h := h.1 c6
      refine V_aload_0 dX8_readNumber_24 ?_
      refine V_gI dX8_readNumber_25 fl_Reader_24 ly_1 (by decide) wn_1_2 ?_
      refine V_istore_3 dX8_readNumber_28 rfl rfl ?_
      refine V_iconst dX8_readNumber_29 ?_
      refine V_istore_4 dX8_readNumber_30 rfl rfl ?_
      obtain ⟨m9, h⟩ := h
      exact w_X8_readNumber_32 m9 _ _ _ _ _ hx2 r1 r2 (hx2 _ _) (rgL rfl) h
    · have h := h.2 c6
      refine V_iconst dX8_readNumber_22 ?_
      exact V_ireturn dX8_readNumber_23 rfl ⟨_, _, rfl, hx2, rfl, (rgL rfl), h⟩
def M_X9_setValue (c0 : Int) (x : XM) (v1 : Int) (v2 : Int) (v3 : Int) (v4 : Int) (q : XM → Prop) : Prop :=
  (0 ≤ v1 ∧ v1 < 5) ∧ (0 ≤ ((((sI 1 (v1.toNat)) + v2) * 4) + v3) ∧ ((((sI 1 (v1.toNat)) + v2) * 4) + v3) < 116) ∧ (∀ x3 : XM, x3 = uX x (tid c0 + 2) ((((((sI 1 (v1.toNat)) + v2) * 4) + v3)).toNat) v4 → q x3)
set_option maxRecDepth 100000 in
theorem w_X9_setValue {Γ : GE} {c0 : Int} {x : XM} (hx : WX x) {v1 v2 v3 v4 : Int} {q : XM → Prop} (r1 : Rg v1) (r2 : Rg v2) (r3 : Rg v3) (r4 : Rg v4) (h : M_X9_setValue c0 x v1 v2 v3 v4 q) : CV Γ 0 NF NF D_X9_setValue [.ref (gB Γ + (tid c0)), vI v1, vI v2, vI v3, vI v4] (mk Γ x) (QU Γ q) := by
  refine CV.of rfl (cat_all rfl) (Nat.le_of_ble_eq_true rfl) ?_
  show V Γ 0 NF NF D_X9_setValue (QU Γ q) 0 [.ref (gB Γ + (tid c0)), vI v1, vI v2, vI v3, vI v4] [] NF (mk Γ x)
  unfold M_X9_setValue at h
  refine V_aload_0 dX9_setValue_0 ?_
  refine V_gR dX9_setValue_1 fl_Telling_15 (tid_f c0).1 (tid_b0 c0) (tid_w1 c0) ?_
  refine V_gets dX9_setValue_4 (i := 1) (by decide) (by decide) ?_
  refine V_iload_1 dX9_setValue_7 ?_
  obtain ⟨g1, h⟩ := h
  refine V_sald dX9_setValue_8 (i := 1) (by decide) g1.1 g1.2 sI_ok ?_
  refine V_iload_2 dX9_setValue_9 ?_
  refine V_iadd dX9_setValue_10 ?_
  refine V_iconst dX9_setValue_11 ?_
  refine V_imul dX9_setValue_12 ?_
  refine V_iload_3 dX9_setValue_13 ?_
  refine V_iadd dX9_setValue_14 ?_
  refine V_iload_4 dX9_setValue_15 ?_
  obtain ⟨g2, h⟩ := h
  refine V_sIe dX9_setValue_17 (tid_f c0).2.2.1 (tid_b2 c0) (by decide) g2 (fun x3 ex3 => ?_)
  have h := h x3 ex3
  have hx3 := hx.upE r4 ex3
  exact V_vreturn dX9_setValue_18 rfl ⟨_, rfl, hx3, rfl, h⟩
def M_X8_readClause_66 (c1 : Int) (q : Int → XM → Prop) : Nat → XM → Int → Int → Int → Prop
  | 0, _, _, _, _ => False
  | n + 1, x, v2, v3, v4 =>
  (0 ≤ v2 ∧ v2 < 5) ∧ (((sI 2 (v2.toNat)) ≤ v4 → M_X8_isAtEnd x  (fun z12 x13 => ((¬ z12 = 0 → q 1 x13) ∧ (z12 = 0 → (0 ≤ (x13 1 2) ∧ (x13 1 2) < 240) ∧ (((x13 2 (((x13 1 2)).toNat)) = 59 → (Rg ((x13 1 2) + 1)) ∧ (∀ x18 : XM, x18 = uX x13 1 2 ((x13 1 2) + 1) → (0 ≤ v2 ∧ v2 < 5) ∧ (Rg ((x18 (tid c1 + 1) (v2.toNat)) + 1)) ∧ (0 ≤ v2 ∧ v2 < 5) ∧ (∀ x22 : XM, x22 = uX x18 (tid c1 + 1) (v2.toNat) ((x18 (tid c1 + 1) (v2.toNat)) + 1) → q 0 x22))) ∧ (¬ (x13 2 (((x13 1 2)).toNat)) = 59 → q 1 x13)))))) ∧ (¬ ((sI 2 (v2.toNat)) ≤ v4) → M_X8_readNumber x v2 v4  (fun z23 x24 => ((0 ≤ z23 → M_X9_setValue c1 x24 v2 v3 v4 z23  (fun x26 => (Rg (v4 + 1)) ∧ (M_X8_readClause_66 c1 q n) x26 v2 v3 (v4 + 1))) ∧ (¬ (0 ≤ z23) → (Rg (-z23)) ∧ q (-z23) x24)))))
def M_X8_readClause_35 (c1 : Int) (q : Int → XM → Prop) (x : XM) (v2 : Int) : Prop :=
  (0 ≤ v2 ∧ v2 < 5) ∧ (0 ≤ v2 ∧ v2 < 5) ∧ (((x (tid c1 + 1) (v2.toNat)) < (sI 0 (v2.toNat)) → (Rg ((x 1 2) + 1)) ∧ (∀ x9 : XM, x9 = uX x 1 2 ((x 1 2) + 1) → (∃ m : Nat, M_X8_readClause_66 c1 q m x9 v2 (x (tid c1 + 1) (v2.toNat)) 0))) ∧ (¬ ((x (tid c1 + 1) (v2.toNat)) < (sI 0 (v2.toNat))) → q 3 x))
def M_X8_readClause (c1 : Int) (x : XM) (q : Int → XM → Prop) : Prop :=
  (0 ≤ (x 1 2) ∧ (x 1 2) < 240) ∧ M_J0_indexOf_0f7a4 x (ji2c (x 2 (((x 1 2)).toNat)))  (fun z2 => ((z2 < 0 → q 1 x) ∧ (¬ (z2 < 0) → ((z2 = 0 → M_X8_readClause_35 c1 q x z2) ∧ (¬ z2 = 0 → ((¬ (x (tid c1 + 1) 0) = 0 → M_X8_readClause_35 c1 q x z2) ∧ ((x (tid c1 + 1) 0) = 0 → q 1 x)))))))
set_option maxRecDepth 100000 in
theorem w_X8_readClause_66 {Γ : GE} {c1 : Int} (rc1 : Rg c1) {q : Int → XM → Prop} : ∀ (n : Nat) (x : XM) (v2 : Int) (v3 : Int) (v4 : Int) , WX x → Rg v2 → Rg v3 → Rg v4 → M_X8_readClause_66 c1 q n x v2 v3 v4 → V Γ 4 NF NF D_X8_readClause (QE Γ q) 66 [.ref (gB Γ + 1), .ref (gB Γ + (tid c1)), vI v2, vI v3, vI v4, uu] [] NF (mk Γ x) := by
  intro n
  induction n with
  | zero =>
    intro x v2 v3 v4 hx r2 r3 r4 h
    rw [M_X8_readClause_66.eq_1] at h
    exact h.elim
  | succ n ih =>
    intro x v2 v3 v4 hx r2 r3 r4 h
    rw [M_X8_readClause_66.eq_2] at h
    refine V_iload_4 dX8_readClause_66 ?_
    refine V_gets dX8_readClause_68 (i := 2) (by decide) (by decide) ?_
    refine V_iload_2 dX8_readClause_71 ?_
    obtain ⟨g10, h⟩ := h
    refine V_sald dX8_readClause_72 (i := 2) (by decide) g10.1 g10.2 sI_ok ?_
    refine V_icmp_ge 110 dX8_readClause_73 (by decide) r4 (Rg.of _) ⟨fun c11 => ?_, fun c11 => ?_⟩
    · have h := h.1 c11
      refine V_aload_0 dX8_readClause_110 ?_
      refine V_cVE0 (My := D_X8_isAtEnd) dX8_readClause_111 ml_Reader_27 ce_X8_isAtEnd ly_1 (by decide) cl_8 (by decide) (Nat.le_refl _) (Nat.le_refl _) (by decide) (sumL rfl) (w_X8_isAtEnd hx h) (fun z12 x13 hx13 hz12 h => ?_)
      refine V_if_ne 131 dX8_readClause_114 (by decide) hz12 ⟨fun c14 => ?_, fun c14 => ?_⟩
      · have h := h.1 c14
        refine V_iconst dX8_readClause_131 ?_
        exact V_ireturn dX8_readClause_132 rfl ⟨_, _, rfl, hx13, rfl, (rgL rfl), h⟩
      · have h := h.2 c14
        refine V_aload_0 dX8_readClause_117 ?_
        refine V_gR dX8_readClause_118 fl_Reader_9 ly_1 (by decide) wr_1_0 ?_
        refine V_aload_0 dX8_readClause_121 ?_
        refine V_gI dX8_readClause_122 fl_Reader_24 ly_1 (by decide) wn_1_2 ?_
        obtain ⟨g15, h⟩ := h
        refine V_aI dX8_readClause_125 ly_2 (by decide) (by decide) g15 ?_
        refine V_bipush dX8_readClause_126 (by decide) ?_
        refine V_icmp_eq 133 dX8_readClause_128 (by decide) (hx13 _ _) (rgL rfl) ⟨fun c16 => ?_, fun c16 => ?_⟩
        · have h := h.1 c16
          refine V_aload_0 dX8_readClause_133 ?_
          refine V_dup dX8_readClause_134 rfl ?_
          refine V_gI dX8_readClause_135 fl_Reader_24 ly_1 (by decide) wn_1_2 ?_
          refine V_iconst dX8_readClause_138 ?_
          refine V_iadd dX8_readClause_139 ?_
          obtain ⟨g17, h⟩ := h
          refine V_pIe dX8_readClause_140 fl_Reader_24 ly_1 (by decide) wn_1_2 (fun x18 ex18 => ?_)
          have h := h x18 ex18
          have hx18 := hx13.upE g17 ex18
          refine V_aload_1 dX8_readClause_143 ?_
          refine V_gR dX8_readClause_144 fl_Reader_43 (tid_f c1).1 (tid_b0 c1) (tid_w0 c1) ?_
          refine V_iload_2 dX8_readClause_147 ?_
          refine V_dup2 dX8_readClause_148 rfl rfl ?_
          obtain ⟨g19, h⟩ := h
          refine V_aI dX8_readClause_149 (tid_f c1).2.1 (tid_b1 c1) (by decide) g19 ?_
          refine V_iconst dX8_readClause_150 ?_
          refine V_iadd dX8_readClause_151 ?_
          obtain ⟨g20, h⟩ := h
          obtain ⟨g21, h⟩ := h
          refine V_sIe dX8_readClause_152 (tid_f c1).2.1 (tid_b1 c1) (by decide) g21 (fun x22 ex22 => ?_)
          have h := h x22 ex22
          have hx22 := hx18.upE g20 ex22
          refine V_iconst dX8_readClause_153 ?_
          exact V_ireturn dX8_readClause_154 rfl ⟨_, _, rfl, hx22, rfl, (rgL rfl), h⟩
        · have h := h.2 c16
          refine V_iconst dX8_readClause_131 ?_
          exact V_ireturn dX8_readClause_132 rfl ⟨_, _, rfl, hx13, rfl, (rgL rfl), h⟩
    · have h := h.2 c11
      refine V_aload_0 dX8_readClause_76 ?_
      refine V_iload_2 dX8_readClause_77 ?_
      refine V_iload_4 dX8_readClause_78 ?_
      refine V_cVE2 (My := D_X8_readNumber) dX8_readClause_80 ml_Reader_52 ce_X8_readNumber ly_1 (by decide) cl_8 (by decide) (Nat.le_refl _) (Nat.le_refl _) (by decide) (sumL rfl) (w_X8_readNumber hx r2 r4 h) (fun z23 x24 hx24 hz23 h => ?_)
      refine V_istore_5 dX8_readClause_83 rfl rfl ?_
      refine V_iload_5 dX8_readClause_85 ?_
      refine V_if_ge 94 dX8_readClause_87 (by decide) hz23 ⟨fun c25 => ?_, fun c25 => ?_⟩
      · have h := h.1 c25
        refine V_aload_1 dX8_readClause_94 ?_
        refine V_iload_2 dX8_readClause_95 ?_
        refine V_iload_3 dX8_readClause_96 ?_
        refine V_iload_4 dX8_readClause_97 ?_
        refine V_iload_5 dX8_readClause_99 ?_
        refine V_cVU4 (My := D_X9_setValue) dX8_readClause_101 ml_Reader_56 ce_X9_setValue (tid_f c1).1 (by decide) cl_9 (tid_b0 c1) (Nat.le_refl _) (Nat.le_refl _) (by decide) (sumL rfl) (w_X9_setValue hx24 r2 r3 r4 hz23 h) (fun x26 hx26 h => ?_)
        refine V_iinc_4 (a4 := uu) dX8_readClause_104 rfl ?_
        refine V_goto 66 dX8_readClause_107 (by decide) ?_
        obtain ⟨g27, h⟩ := h
        refine V_fg_5 ?_
        exact ih _ _ _ _ hx26 r2 r3 g27 h
      · have h := h.2 c25
        refine V_iload_5 dX8_readClause_90 ?_
        refine V_ineg dX8_readClause_92 ?_
        obtain ⟨g28, h⟩ := h
        exact V_ireturn dX8_readClause_93 rfl ⟨_, _, rfl, hx24, rfl, g28, h⟩
set_option maxRecDepth 100000 in
theorem w_X8_readClause_35 {Γ : GE} {c1 : Int} (rc1 : Rg c1) {q : Int → XM → Prop} : ∀ (x : XM) (v2 : Int) , WX x → Rg v2 → M_X8_readClause_35 c1 q x v2 → V Γ 4 NF NF D_X8_readClause (QE Γ q) 35 [.ref (gB Γ + 1), .ref (gB Γ + (tid c1)), vI v2, uu, uu, uu] [] NF (mk Γ x) := by
  intro x v2 hx r2 h
  unfold M_X8_readClause_35 at h
  refine V_aload_1 dX8_readClause_35 ?_
  refine V_gR dX8_readClause_36 fl_Reader_43 (tid_f c1).1 (tid_b0 c1) (tid_w0 c1) ?_
  refine V_iload_2 dX8_readClause_39 ?_
  obtain ⟨g5, h⟩ := h
  refine V_aI dX8_readClause_40 (tid_f c1).2.1 (tid_b1 c1) (by decide) g5 ?_
  refine V_istore_3 dX8_readClause_41 rfl rfl ?_
  refine V_iload_3 dX8_readClause_42 ?_
  refine V_gets dX8_readClause_43 (i := 0) (by decide) (by decide) ?_
  refine V_iload_2 dX8_readClause_46 ?_
  obtain ⟨g6, h⟩ := h
  refine V_sald dX8_readClause_47 (i := 0) (by decide) g6.1 g6.2 sI_ok ?_
  refine V_icmp_lt 53 dX8_readClause_48 (by decide) (hx _ _) (Rg.of _) ⟨fun c7 => ?_, fun c7 => ?_⟩
  · have h := h.1 c7
    refine V_aload_0 dX8_readClause_53 ?_
    refine V_dup dX8_readClause_54 rfl ?_
    refine V_gI dX8_readClause_55 fl_Reader_24 ly_1 (by decide) wn_1_2 ?_
    refine V_iconst dX8_readClause_58 ?_
    refine V_iadd dX8_readClause_59 ?_
    obtain ⟨g8, h⟩ := h
    refine V_pIe dX8_readClause_60 fl_Reader_24 ly_1 (by decide) wn_1_2 (fun x9 ex9 => ?_)
    have h := h x9 ex9
    have hx9 := hx.upE g8 ex9
    refine V_iconst dX8_readClause_63 ?_
    refine V_istore_4 dX8_readClause_64 rfl rfl ?_
    obtain ⟨m9, h⟩ := h
    exact w_X8_readClause_66 rc1 m9 _ _ _ _ hx9 r2 (hx _ _) (rgL rfl) h
  · have h := h.2 c7
    refine V_iconst dX8_readClause_51 ?_
    exact V_ireturn dX8_readClause_52 rfl ⟨_, _, rfl, hx, rfl, (rgL rfl), h⟩
set_option maxRecDepth 100000 in
theorem w_X8_readClause {Γ : GE} {c1 : Int} (rc1 : Rg c1) {x : XM} (hx : WX x) {q : Int → XM → Prop} (h : M_X8_readClause c1 x q) : CV Γ 4 NF NF D_X8_readClause [.ref (gB Γ + 1), .ref (gB Γ + (tid c1))] (mk Γ x) (QE Γ q) := by
  refine CV.of rfl (cat_all rfl) (Nat.le_of_ble_eq_true rfl) ?_
  show V Γ 4 NF NF D_X8_readClause (QE Γ q) 0 [.ref (gB Γ + 1), .ref (gB Γ + (tid c1)), uu, uu, uu, uu] [] NF (mk Γ x)
  unfold M_X8_readClause at h
  refine V_ldcS dX8_readClause_0 rfl ?_
  refine V_aload_0 dX8_readClause_2 ?_
  refine V_gR dX8_readClause_3 fl_Reader_9 ly_1 (by decide) wr_1_0 ?_
  refine V_aload_0 dX8_readClause_6 ?_
  refine V_gI dX8_readClause_7 fl_Reader_24 ly_1 (by decide) wn_1_2 ?_
  obtain ⟨g1, h⟩ := h
  refine V_aI dX8_readClause_10 ly_2 (by decide) (by decide) g1 ?_
  refine V_i2c dX8_readClause_11 ?_
  refine V_cXI1 (My := D_J0_indexOf_0f7a4) dX8_readClause_12 ml_Reader_37 ce_J0_indexOf_0f7a4 rfl (Nat.le_refl _) (Nat.le_refl _) (by decide) (sumL rfl) (w_J0_indexOf_0f7a4 hx (Rg.of _) h) (fun z2 hz2 h => ?_)
  refine V_istore_2 dX8_readClause_15 rfl rfl ?_
  refine V_iload_2 dX8_readClause_16 ?_
  refine V_if_lt 33 dX8_readClause_17 (by decide) hz2 ⟨fun c3 => ?_, fun c3 => ?_⟩
  · have h := h.1 c3
    refine V_iconst dX8_readClause_33 ?_
    exact V_ireturn dX8_readClause_34 rfl ⟨_, _, rfl, hx, rfl, (rgL rfl), h⟩
  · have h := h.2 c3
    refine V_iload_2 dX8_readClause_20 ?_
    refine V_if_eq 35 dX8_readClause_21 (by decide) hz2 ⟨fun c4 => ?_, fun c4 => ?_⟩
    · have h := h.1 c4
      exact w_X8_readClause_35 rc1 _ _ hx hz2 h
    · have h := h.2 c4
      refine V_aload_1 dX8_readClause_24 ?_
      refine V_gR dX8_readClause_25 fl_Reader_43 (tid_f c1).1 (tid_b0 c1) (tid_w0 c1) ?_
      refine V_iconst dX8_readClause_28 ?_
      refine V_aI dX8_readClause_29 (tid_f c1).2.1 (tid_b1 c1) (by decide) (ibd rfl) ?_
      refine V_if_ne 35 dX8_readClause_30 (by decide) (hx _ _) ⟨fun c29 => ?_, fun c29 => ?_⟩
      · have h := h.1 c29
        exact w_X8_readClause_35 rc1 _ _ hx hz2 h
      · have h := h.2 c29
        refine V_iconst dX8_readClause_33 ?_
        exact V_ireturn dX8_readClause_34 rfl ⟨_, _, rfl, hx, rfl, (rgL rfl), h⟩
def M_X8_readInto_13 (c1 : Int) (q : Int → XM → Prop) : Nat → XM → Int → Int → Prop
  | 0, _, _, _ => False
  | n + 1, x, v2, v3 =>
  ((240 ≤ v3 → q v2 x) ∧ (¬ (240 ≤ v3) → ((¬ v2 = 0 → q v2 x) ∧ (v2 = 0 → M_X8_isAtEnd x  (fun z5 x6 => ((¬ z5 = 0 → q v2 x6) ∧ (z5 = 0 → M_X8_readClause c1 x6  (fun z8 x9 => (Rg (v3 + 1)) ∧ (M_X8_readInto_13 c1 q n) x9 z8 (v3 + 1)))))))))
def M_X8_readInto (c1 : Int) (x : XM) (q : Int → XM → Prop) : Prop :=
  M_X9_clear c1 x  (fun x1 => ∀ x2 : XM, x2 = uX x1 1 2 0 → (∃ m : Nat, M_X8_readInto_13 c1 q m x2 0 0))
set_option maxRecDepth 100000 in
theorem w_X8_readInto_13 {Γ : GE} {c1 : Int} (rc1 : Rg c1) {q : Int → XM → Prop} : ∀ (n : Nat) (x : XM) (v2 : Int) (v3 : Int) , WX x → Rg v2 → Rg v3 → M_X8_readInto_13 c1 q n x v2 v3 → V Γ 5 NF NF D_X8_readInto (QE Γ q) 13 [.ref (gB Γ + 1), .ref (gB Γ + (tid c1)), vI v2, vI v3] [] NF (mk Γ x) := by
  intro n
  induction n with
  | zero =>
    intro x v2 v3 hx r2 r3 h
    rw [M_X8_readInto_13.eq_1] at h
    exact h.elim
  | succ n ih =>
    intro x v2 v3 hx r2 r3 h
    rw [M_X8_readInto_13.eq_2] at h
    refine V_iload_3 dX8_readInto_13 ?_
    refine V_sipush dX8_readInto_14 (by decide) ?_
    refine V_icmp_ge 43 dX8_readInto_17 (by decide) r3 (rgL rfl) ⟨fun c3 => ?_, fun c3 => ?_⟩
    · have h := h.1 c3
      refine V_iload_2 dX8_readInto_43 ?_
      exact V_ireturn dX8_readInto_44 rfl ⟨_, _, rfl, hx, rfl, r2, h⟩
    · have h := h.2 c3
      refine V_iload_2 dX8_readInto_20 ?_
      refine V_if_ne 43 dX8_readInto_21 (by decide) r2 ⟨fun c4 => ?_, fun c4 => ?_⟩
      · have h := h.1 c4
        refine V_iload_2 dX8_readInto_43 ?_
        exact V_ireturn dX8_readInto_44 rfl ⟨_, _, rfl, hx, rfl, r2, h⟩
      · have h := h.2 c4
        refine V_aload_0 dX8_readInto_24 ?_
        refine V_cVE0 (My := D_X8_isAtEnd) dX8_readInto_25 ml_Reader_27 ce_X8_isAtEnd ly_1 (by decide) cl_8 (by decide) (Nat.le_refl _) (Nat.le_refl _) (by decide) (sumL rfl) (w_X8_isAtEnd hx h) (fun z5 x6 hx6 hz5 h => ?_)
        refine V_if_ne 43 dX8_readInto_28 (by decide) hz5 ⟨fun c7 => ?_, fun c7 => ?_⟩
        · have h := h.1 c7
          refine V_iload_2 dX8_readInto_43 ?_
          exact V_ireturn dX8_readInto_44 rfl ⟨_, _, rfl, hx6, rfl, r2, h⟩
        · have h := h.2 c7
          refine V_aload_0 dX8_readInto_31 ?_
          refine V_aload_1 dX8_readInto_32 ?_
          refine V_cVE1 (My := D_X8_readClause) dX8_readInto_33 ml_Reader_31 ce_X8_readClause ly_1 (by decide) cl_8 (by decide) (Nat.le_refl _) (Nat.le_refl _) (by decide) (sumL rfl) (w_X8_readClause rc1 hx6 h) (fun z8 x9 hx9 hz8 h => ?_)
          refine V_istore_2 dX8_readInto_36 rfl rfl ?_
          refine V_iinc_3 (a3 := uu) dX8_readInto_37 rfl ?_
          refine V_goto 13 dX8_readInto_40 (by decide) ?_
          obtain ⟨g10, h⟩ := h
          exact ih _ _ _ hx9 hz8 g10 h
set_option maxRecDepth 100000 in
theorem w_X8_readInto {Γ : GE} {c1 : Int} (rc1 : Rg c1) {x : XM} (hx : WX x) {q : Int → XM → Prop} (h : M_X8_readInto c1 x q) : CV Γ 5 NF NF D_X8_readInto [.ref (gB Γ + 1), .ref (gB Γ + (tid c1))] (mk Γ x) (QE Γ q) := by
  refine CV.of rfl (cat_all rfl) (Nat.le_of_ble_eq_true rfl) ?_
  show V Γ 5 NF NF D_X8_readInto (QE Γ q) 0 [.ref (gB Γ + 1), .ref (gB Γ + (tid c1)), uu, uu] [] NF (mk Γ x)
  unfold M_X8_readInto at h
  refine V_aload_1 dX8_readInto_0 ?_
  refine V_cVU0 (My := D_X9_clear) dX8_readInto_1 ml_Reader_19 ce_X9_clear (tid_f c1).1 (by decide) cl_9 (tid_b0 c1) (Nat.le_refl _) (Nat.le_refl _) (by decide) (sumL rfl) (w_X9_clear hx h) (fun x1 hx1 h => ?_)
  refine V_aload_0 dX8_readInto_4 ?_
  refine V_iconst dX8_readInto_5 ?_
  refine V_pIe dX8_readInto_6 fl_Reader_24 ly_1 (by decide) wn_1_2 (fun x2 ex2 => ?_)
  have h := h x2 ex2
  have hx2 := hx1.upE (rgL rfl) ex2
  refine V_iconst dX8_readInto_9 ?_
  refine V_istore_2 dX8_readInto_10 rfl rfl ?_
  refine V_iconst dX8_readInto_11 ?_
  refine V_istore_3 dX8_readInto_12 rfl rfl ?_
  obtain ⟨m9, h⟩ := h
  exact w_X8_readInto_13 rc1 m9 _ _ _ hx2 (rgL rfl) (rgL rfl) h
def M_X8_clear (x : XM) (q : XM → Prop) : Prop :=
  ∀ x1 : XM, x1 = uX x 1 1 0 → q x1
set_option maxRecDepth 100000 in
theorem w_X8_clear {Γ : GE} {x : XM} (hx : WX x) {q : XM → Prop} (h : M_X8_clear x q) : CV Γ 0 NF NF D_X8_clear [.ref (gB Γ + 1)] (mk Γ x) (QU Γ q) := by
  refine CV.of rfl (cat_all rfl) (Nat.le_of_ble_eq_true rfl) ?_
  show V Γ 0 NF NF D_X8_clear (QU Γ q) 0 [.ref (gB Γ + 1)] [] NF (mk Γ x)
  unfold M_X8_clear at h
  refine V_aload_0 dX8_clear_0 ?_
  refine V_iconst dX8_clear_1 ?_
  refine V_pIe dX8_clear_2 fl_Reader_15 ly_1 (by decide) wn_1_1 (fun x1 ex1 => ?_)
  have h := h x1 ex1
  have hx1 := hx.upE (rgL rfl) ex1
  exact V_vreturn dX8_clear_5 rfl ⟨_, rfl, hx1, rfl, h⟩
def M_X9_value (c0 : Int) (x : XM) (v1 : Int) (v2 : Int) (v3 : Int) (q : Int → Prop) : Prop :=
  (0 ≤ v1 ∧ v1 < 5) ∧ (0 ≤ ((((sI 1 (v1.toNat)) + v2) * 4) + v3) ∧ ((((sI 1 (v1.toNat)) + v2) * 4) + v3) < 116) ∧ q (x (tid c0 + 2) ((((((sI 1 (v1.toNat)) + v2) * 4) + v3)).toNat))
set_option maxRecDepth 100000 in
theorem w_X9_value {Γ : GE} {c0 : Int} {x : XM} (hx : WX x) {v1 v2 v3 : Int} {q : Int → Prop} (r1 : Rg v1) (r2 : Rg v2) (r3 : Rg v3) (h : M_X9_value c0 x v1 v2 v3 q) : CV Γ 0 NF NF D_X9_value [.ref (gB Γ + (tid c0)), vI v1, vI v2, vI v3] (mk Γ x) (QI Γ x q) := by
  refine CV.of rfl (cat_all rfl) (Nat.le_of_ble_eq_true rfl) ?_
  show V Γ 0 NF NF D_X9_value (QI Γ x q) 0 [.ref (gB Γ + (tid c0)), vI v1, vI v2, vI v3] [] NF (mk Γ x)
  unfold M_X9_value at h
  refine V_aload_0 dX9_value_0 ?_
  refine V_gR dX9_value_1 fl_Telling_15 (tid_f c0).1 (tid_b0 c0) (tid_w1 c0) ?_
  refine V_gets dX9_value_4 (i := 1) (by decide) (by decide) ?_
  refine V_iload_1 dX9_value_7 ?_
  obtain ⟨g1, h⟩ := h
  refine V_sald dX9_value_8 (i := 1) (by decide) g1.1 g1.2 sI_ok ?_
  refine V_iload_2 dX9_value_9 ?_
  refine V_iadd dX9_value_10 ?_
  refine V_iconst dX9_value_11 ?_
  refine V_imul dX9_value_12 ?_
  refine V_iload_3 dX9_value_13 ?_
  refine V_iadd dX9_value_14 ?_
  obtain ⟨g2, h⟩ := h
  refine V_aI dX9_value_15 (tid_f c0).2.2.1 (tid_b2 c0) (by decide) g2 ?_
  exact V_ireturn dX9_value_16 rfl ⟨rfl, _, rfl, (hx _ _), h⟩
def M_X2_layOut_67 (k0 : Nat) (c1 : Int) (q : XM → Prop) : Nat → XM → Int → Prop
  | 0, _, _ => False
  | n + 1, x, v2 =>
  ((6 ≤ v2 → q x) ∧ (¬ (6 ≤ v2) → (0 ≤ v2 ∧ v2 < 6) ∧ (∀ x6 : XM, x6 = uX x (k0 + 2) (v2.toNat) v2 → (Rg (v2 + 1)) ∧ (M_X2_layOut_67 k0 c1 q n) x6 (v2 + 1))))
def M_X2_layOut_12 (k0 : Nat) (c1 : Int) (q : XM → Prop) : Nat → XM → Int → Prop
  | 0, _, _ => False
  | n + 1, x, v2 =>
  ((12 ≤ v2 → ∃ m : Nat, M_X2_layOut_67 k0 c1 q m x 0) ∧ (¬ (12 ≤ v2) → (0 ≤ v2 ∧ v2 < 12) ∧ (∀ x9 : XM, x9 = uX x (k0 + 1) (v2.toNat) 6 → (((x9 (tid c1 + 1) 1) ≤ v2 → (Rg (v2 + 1)) ∧ (M_X2_layOut_12 k0 c1 q n) x9 (v2 + 1)) ∧ (¬ ((x9 (tid c1 + 1) 1) ≤ v2) → M_X9_value c1 x9 1 v2 3  (fun z12 => ((¬ z12 = 1 → (Rg (v2 + 1)) ∧ (M_X2_layOut_12 k0 c1 q n) x9 (v2 + 1)) ∧ (z12 = 1 → ∀ x15 : XM, x15 = uX x9 k0 2 (jor (x9 k0 2) (jshl 1 v2)) → (Rg (v2 + 1)) ∧ (M_X2_layOut_12 k0 c1 q n) x15 (v2 + 1)))))))))
def M_X2_layOut (k0 : Nat) (c1 : Int) (x : XM) (q : XM → Prop) : Prop :=
  ∀ x1 : XM, x1 = uX x k0 2 0 → ∀ x2 : XM, x2 = uX x1 k0 3 0 → (∃ m : Nat, M_X2_layOut_12 k0 c1 q m x2 0)
set_option maxRecDepth 100000 in
theorem w_X2_layOut_67 {Γ : GE} {k0 : Nat} {c1 : Int} (hk0 : (lay k0).1 = 2) (rc1 : Rg c1) {q : XM → Prop} : ∀ (n : Nat) (x : XM) (v2 : Int) , WX x → Rg v2 → M_X2_layOut_67 k0 c1 q n x v2 → V Γ 1 NF NF D_X2_layOut (QU Γ q) 67 [.ref (gB Γ + k0), uu, vI v2] [] NF (mk Γ x) := by
  intro n
  induction n with
  | zero =>
    intro x v2 hx r2 h
    rw [M_X2_layOut_67.eq_1] at h
    exact h.elim
  | succ n ih =>
    intro x v2 hx r2 h
    rw [M_X2_layOut_67.eq_2] at h
    refine V_iload_2 dX2_layOut_67 ?_
    refine V_bipush dX2_layOut_68 (by decide) ?_
    refine V_icmp_ge 86 dX2_layOut_70 (by decide) r2 (rgL rfl) ⟨fun c4 => ?_, fun c4 => ?_⟩
    · have h := h.1 c4
      exact V_vreturn dX2_layOut_86 rfl ⟨_, rfl, hx, rfl, h⟩
    · have h := h.2 c4
      refine V_aload_0 dX2_layOut_73 ?_
      refine V_gR dX2_layOut_74 fl_Cloth_15 (clo_f hk0).1 (lt_lay hk0 (by decide)) (clo_w1 hk0) ?_
      refine V_iload_2 dX2_layOut_77 ?_
      refine V_iload_2 dX2_layOut_78 ?_
      obtain ⟨g5, h⟩ := h
      refine V_sIe dX2_layOut_79 (clo_f hk0).2.2.1 (clo_b2 hk0) (by decide) g5 (fun x6 ex6 => ?_)
      have h := h x6 ex6
      have hx6 := hx.upE r2 ex6
      refine V_iinc_2 (a2 := uu) dX2_layOut_80 rfl ?_
      refine V_goto 67 dX2_layOut_83 (by decide) ?_
      obtain ⟨g7, h⟩ := h
      exact ih _ _ hx6 g7 h
set_option maxRecDepth 100000 in
theorem w_X2_layOut_12 {Γ : GE} {k0 : Nat} {c1 : Int} (hk0 : (lay k0).1 = 2) (rc1 : Rg c1) {q : XM → Prop} : ∀ (n : Nat) (x : XM) (v2 : Int) , WX x → Rg v2 → M_X2_layOut_12 k0 c1 q n x v2 → V Γ 1 NF NF D_X2_layOut (QU Γ q) 12 [.ref (gB Γ + k0), .ref (gB Γ + (tid c1)), vI v2] [] NF (mk Γ x) := by
  intro n
  induction n with
  | zero =>
    intro x v2 hx r2 h
    rw [M_X2_layOut_12.eq_1] at h
    exact h.elim
  | succ n ih =>
    intro x v2 hx r2 h
    rw [M_X2_layOut_12.eq_2] at h
    refine V_iload_2 dX2_layOut_12 ?_
    refine V_bipush dX2_layOut_13 (by decide) ?_
    refine V_icmp_ge 65 dX2_layOut_15 (by decide) r2 (rgL rfl) ⟨fun c3 => ?_, fun c3 => ?_⟩
    · have h := h.1 c3
      refine V_iconst dX2_layOut_65 ?_
      refine V_istore_2 dX2_layOut_66 rfl rfl ?_
      refine V_fg_1 ?_
      obtain ⟨m9, h⟩ := h
      exact w_X2_layOut_67 hk0 rc1 m9 _ _ hx (rgL rfl) h
    · have h := h.2 c3
      refine V_aload_0 dX2_layOut_18 ?_
      refine V_gR dX2_layOut_19 fl_Cloth_9 (clo_f hk0).1 (lt_lay hk0 (by decide)) (clo_w0 hk0) ?_
      refine V_iload_2 dX2_layOut_22 ?_
      refine V_bipush dX2_layOut_23 (by decide) ?_
      obtain ⟨g8, h⟩ := h
      refine V_sIe dX2_layOut_25 (clo_f hk0).2.1 (clo_b1 hk0) (by decide) g8 (fun x9 ex9 => ?_)
      have h := h x9 ex9
      have hx9 := hx.upE (rgL rfl) ex9
      refine V_iload_2 dX2_layOut_26 ?_
      refine V_aload_1 dX2_layOut_27 ?_
      refine V_gR dX2_layOut_28 fl_Cloth_25 (tid_f c1).1 (tid_b0 c1) (tid_w0 c1) ?_
      refine V_iconst dX2_layOut_31 ?_
      refine V_aI dX2_layOut_32 (tid_f c1).2.1 (tid_b1 c1) (by decide) (ibd rfl) ?_
      refine V_icmp_ge 59 dX2_layOut_33 (by decide) r2 (hx9 _ _) ⟨fun c10 => ?_, fun c10 => ?_⟩
      · have h := h.1 c10
        refine V_iinc_2 (a2 := uu) dX2_layOut_59 rfl ?_
        refine V_goto 12 dX2_layOut_62 (by decide) ?_
        obtain ⟨g11, h⟩ := h
        exact ih _ _ hx9 g11 h
      · have h := h.2 c10
        refine V_aload_1 dX2_layOut_36 ?_
        refine V_iconst dX2_layOut_37 ?_
        refine V_iload_2 dX2_layOut_38 ?_
        refine V_iconst dX2_layOut_39 ?_
        refine V_cVI3 (My := D_X9_value) dX2_layOut_40 ml_Cloth_30 ce_X9_value (tid_f c1).1 (by decide) cl_9 (tid_b0 c1) (Nat.le_refl _) (Nat.le_refl _) (by decide) (sumL rfl) (w_X9_value hx9 (rgL rfl) r2 (rgL rfl) h) (fun z12 hz12 h => ?_)
        refine V_iconst dX2_layOut_43 ?_
        refine V_icmp_ne 59 dX2_layOut_44 (by decide) hz12 (rgL rfl) ⟨fun c13 => ?_, fun c13 => ?_⟩
        · have h := h.1 c13
          refine V_iinc_2 (a2 := uu) dX2_layOut_59 rfl ?_
          refine V_goto 12 dX2_layOut_62 (by decide) ?_
          obtain ⟨g14, h⟩ := h
          exact ih _ _ hx9 g14 h
        · have h := h.2 c13
          refine V_aload_0 dX2_layOut_47 ?_
          refine V_dup dX2_layOut_48 rfl ?_
          refine V_gI dX2_layOut_49 fl_Cloth_18 (clo_f hk0).1 (lt_lay hk0 (by decide)) (clo_w2 hk0) ?_
          refine V_iconst dX2_layOut_52 ?_
          refine V_iload_2 dX2_layOut_53 ?_
          refine V_ishl dX2_layOut_54 ?_
          refine V_ior dX2_layOut_55 ?_
          refine V_pIe dX2_layOut_56 fl_Cloth_18 (clo_f hk0).1 (lt_lay hk0 (by decide)) (clo_w2 hk0) (fun x15 ex15 => ?_)
          have h := h x15 ex15
          have hx15 := hx9.upE (Rg.of _) ex15
          refine V_iinc_2 (a2 := uu) dX2_layOut_59 rfl ?_
          refine V_goto 12 dX2_layOut_62 (by decide) ?_
          obtain ⟨g16, h⟩ := h
          exact ih _ _ hx15 g16 h
set_option maxRecDepth 100000 in
theorem w_X2_layOut {Γ : GE} {k0 : Nat} {c1 : Int} (hk0 : (lay k0).1 = 2) (rc1 : Rg c1) {x : XM} (hx : WX x) {q : XM → Prop} (h : M_X2_layOut k0 c1 x q) : CV Γ 1 NF NF D_X2_layOut [.ref (gB Γ + k0), .ref (gB Γ + (tid c1))] (mk Γ x) (QU Γ q) := by
  refine CV.of rfl (cat_all rfl) (Nat.le_of_ble_eq_true rfl) ?_
  show V Γ 1 NF NF D_X2_layOut (QU Γ q) 0 [.ref (gB Γ + k0), .ref (gB Γ + (tid c1)), uu] [] NF (mk Γ x)
  unfold M_X2_layOut at h
  refine V_aload_0 dX2_layOut_0 ?_
  refine V_iconst dX2_layOut_1 ?_
  refine V_pIe dX2_layOut_2 fl_Cloth_18 (clo_f hk0).1 (lt_lay hk0 (by decide)) (clo_w2 hk0) (fun x1 ex1 => ?_)
  have h := h x1 ex1
  have hx1 := hx.upE (rgL rfl) ex1
  refine V_aload_0 dX2_layOut_5 ?_
  refine V_iconst dX2_layOut_6 ?_
  refine V_pIe dX2_layOut_7 fl_Cloth_22 (clo_f hk0).1 (lt_lay hk0 (by decide)) (clo_w3 hk0) (fun x2 ex2 => ?_)
  have h := h x2 ex2
  have hx2 := hx1.upE (rgL rfl) ex2
  refine V_iconst dX2_layOut_10 ?_
  refine V_istore_2 dX2_layOut_11 rfl rfl ?_
  obtain ⟨m9, h⟩ := h
  exact w_X2_layOut_12 hk0 rc1 m9 _ _ hx2 (rgL rfl) h
def M_X1_clear (x : XM) (q : XM → Prop) : Prop :=
  ∀ x1 : XM, x1 = uX x 60 2 0 → q x1
set_option maxRecDepth 100000 in
theorem w_X1_clear {Γ : GE} {x : XM} (hx : WX x) {q : XM → Prop} (h : M_X1_clear x q) : CV Γ 0 NF NF D_X1_clear [.ref (gB Γ + 60)] (mk Γ x) (QU Γ q) := by
  refine CV.of rfl (cat_all rfl) (Nat.le_of_ble_eq_true rfl) ?_
  show V Γ 0 NF NF D_X1_clear (QU Γ q) 0 [.ref (gB Γ + 60)] [] NF (mk Γ x)
  unfold M_X1_clear at h
  refine V_aload_0 dX1_clear_0 ?_
  refine V_iconst dX1_clear_1 ?_
  refine V_pIe dX1_clear_2 fl_Book_18 ly_60 (by decide) wn_60_2 (fun x1 ex1 => ?_)
  have h := h x1 ex1
  have hx1 := hx.upE (rgL rfl) ex1
  exact V_vreturn dX1_clear_5 rfl ⟨_, rfl, hx1, rfl, h⟩
def M_X7_clear (x : XM) (q : XM → Prop) : Prop :=
  ∀ x1 : XM, x1 = uX x 10 2 0 → q x1
set_option maxRecDepth 100000 in
theorem w_X7_clear {Γ : GE} {x : XM} (hx : WX x) {q : XM → Prop} (h : M_X7_clear x q) : CV Γ 0 NF NF D_X7_clear [.ref (gB Γ + 10)] (mk Γ x) (QU Γ q) := by
  refine CV.of rfl (cat_all rfl) (Nat.le_of_ble_eq_true rfl) ?_
  show V Γ 0 NF NF D_X7_clear (QU Γ q) 0 [.ref (gB Γ + 10)] [] NF (mk Γ x)
  unfold M_X7_clear at h
  refine V_aload_0 dX7_clear_0 ?_
  refine V_iconst dX7_clear_1 ?_
  refine V_pIe dX7_clear_2 fl_Past_18 ly_10 (by decide) wn_10_2 (fun x1 ex1 => ?_)
  have h := h x1 ex1
  have hx1 := hx.upE (rgL rfl) ex1
  exact V_vreturn dX7_clear_5 rfl ⟨_, rfl, hx1, rfl, h⟩
def M_X0_count (x : XM) (v1 : Int) (q : Int → Prop) : Prop :=
  (0 ≤ v1 ∧ v1 < 5) ∧ q (x (tid (x 3 1) + 1) (v1.toNat))
set_option maxRecDepth 100000 in
theorem w_X0_count {Γ : GE} {x : XM} (hx : WX x) {v1 : Int} {q : Int → Prop} (r1 : Rg v1) (h : M_X0_count x v1 q) : CV Γ 0 NF NF D_X0_count [.ref (gB Γ + 3), vI v1] (mk Γ x) (QI Γ x q) := by
  refine CV.of rfl (cat_all rfl) (Nat.le_of_ble_eq_true rfl) ?_
  show V Γ 0 NF NF D_X0_count (QI Γ x q) 0 [.ref (gB Γ + 3), vI v1] [] NF (mk Γ x)
  unfold M_X0_count at h
  refine V_aload_0 dX0_count_0 ?_
  refine V_gR dX0_count_1 fl_Bench_21 ly_3 (by decide) wr_3_1 ?_
  refine V_gR dX0_count_4 fl_Bench_25 (tid_f (x 3 1)).1 (tid_b0 (x 3 1)) (tid_w0 (x 3 1)) ?_
  refine V_iload_1 dX0_count_7 ?_
  obtain ⟨g1, h⟩ := h
  refine V_aI dX0_count_8 (tid_f (x 3 1)).2.1 (tid_b1 (x 3 1)) (by decide) g1 ?_
  exact V_ireturn dX0_count_9 rfl ⟨rfl, _, rfl, (hx _ _), h⟩
def M_X10_tin_108 (q : Int → XM → Prop) : Nat → XM → Int → Prop
  | 0, _, _ => False
  | n + 1, x, v3 =>
  ((2 ≤ v3 → M_X0_count x 1  (fun z12 => q z12 x)) ∧ (¬ (2 ≤ v3) → (0 ≤ v3 ∧ v3 < 2) ∧ (∀ x14 : XM, x14 = uX x (75 + 4 * v3.toNat) 2 0 → (Rg (v3 + 1)) ∧ (M_X10_tin_108 q n) x14 (v3 + 1))))
def M_X10_tin (x : XM) (q : Int → XM → Prop) : Prop :=
  M_X8_readInto (x 0 8) x  (fun z1 x2 => ((z1 = 0 → ∀ x4 : XM, x4 = uX x2 0 9 (-1) → M_X8_clear x4  (fun x5 => ∀ x6 : XM, x6 = uX x5 3 1 (x5 0 8) → ∀ x7 : XM, x7 = uX x6 0 8 (x5 3 1) → M_X2_layOut 4 (x7 3 1) x7  (fun x8 => M_X1_clear x8  (fun x9 => M_X7_clear x9  (fun x10 => ∃ m : Nat, M_X10_tin_108 q m x10 0))))) ∧ (¬ z1 = 0 → ∀ x16 : XM, x16 = uX x2 0 9 (x2 1 2) → M_X8_clear x16  (fun x17 => (Rg ((-10) - z1)) ∧ q ((-10) - z1) x17))))
set_option maxRecDepth 100000 in
theorem w_X10_tin_108 {Γ : GE} {q : Int → XM → Prop} : ∀ (n : Nat) (x : XM) (v3 : Int) , WX x → Rg v3 → M_X10_tin_108 q n x v3 → V Γ 6 NF NF D_X10_tin (QE Γ q) 108 [.ref (gB Γ + 0), uu, uu, vI v3] [] NF (mk Γ x) := by
  intro n
  induction n with
  | zero =>
    intro x v3 hx r3 h
    rw [M_X10_tin_108.eq_1] at h
    exact h.elim
  | succ n ih =>
    intro x v3 hx r3 h
    rw [M_X10_tin_108.eq_2] at h
    refine V_iload_3 dX10_tin_108 ?_
    refine V_iconst dX10_tin_109 ?_
    refine V_icmp_ge 129 dX10_tin_110 (by decide) r3 (rgL rfl) ⟨fun c11 => ?_, fun c11 => ?_⟩
    · have h := h.1 c11
      refine V_aload_0 dX10_tin_129 ?_
      refine V_gR dX10_tin_130 fl_T_19 ly_0 (by decide) wr_0_1 ?_
      refine V_iconst dX10_tin_133 ?_
      refine V_cVI1 (My := D_X0_count) dX10_tin_134 ml_T_116 ce_X0_count ly_3 (by decide) cl_0 (by decide) (Nat.le_refl _) (Nat.le_refl _) (by decide) (sumL rfl) (w_X0_count hx (rgL rfl) h) (fun z12 hz12 h => ?_)
      exact V_ireturn dX10_tin_137 rfl ⟨_, _, rfl, hx, rfl, hz12, h⟩
    · have h := h.2 c11
      refine V_aload_0 dX10_tin_113 ?_
      refine V_gR dX10_tin_114 fl_T_46 ly_0 (by decide) wr_0_5 ?_
      refine V_iload_3 dX10_tin_117 ?_
      obtain ⟨g13, h⟩ := h
      refine V_aM dX10_tin_118 g13 ?_
      refine V_iconst dX10_tin_119 ?_
      refine V_pZe dX10_tin_120 fl_T_112 (img_f (imgs_k g13.1 g13.2)).1 (lt_lay (imgs_k g13.1 g13.2) (by decide)) (img_w2 (imgs_k g13.1 g13.2)) (Or.inl rfl) (fun x14 ex14 => ?_)
      have h := h x14 ex14
      have hx14 := hx.upE (rgL rfl) ex14
      refine V_iinc_3 (a3 := uu) dX10_tin_123 rfl ?_
      refine V_goto 108 dX10_tin_126 (by decide) ?_
      obtain ⟨g15, h⟩ := h
      exact ih _ _ hx14 g15 h
set_option maxRecDepth 100000 in
theorem w_X10_tin {Γ : GE} {x : XM} (hx : WX x) {q : Int → XM → Prop} (h : M_X10_tin x q) : CV Γ 6 NF NF D_X10_tin [.ref (gB Γ + 0)] (mk Γ x) (QE Γ q) := by
  refine CV.of rfl (cat_all rfl) (Nat.le_of_ble_eq_true rfl) ?_
  show V Γ 6 NF NF D_X10_tin (QE Γ q) 0 [.ref (gB Γ + 0), uu, uu, uu] [] NF (mk Γ x)
  unfold M_X10_tin at h
  refine V_aload_0 dX10_tin_0 ?_
  refine V_gR dX10_tin_1 fl_T_10 ly_0 (by decide) wr_0_0 ?_
  refine V_aload_0 dX10_tin_4 ?_
  refine V_gR dX10_tin_5 fl_T_69 ly_0 (by decide) wr_0_8 ?_
  refine V_cVE1 (My := D_X8_readInto) dX10_tin_8 ml_T_87 ce_X8_readInto ly_1 (by decide) cl_8 (by decide) (Nat.le_refl _) (Nat.le_refl _) (by decide) (sumL rfl) (w_X8_readInto (hx _ _) hx h) (fun z1 x2 hx2 hz1 h => ?_)
  refine V_istore_1 dX10_tin_11 rfl rfl ?_
  refine V_iload_1 dX10_tin_12 ?_
  refine V_if_eq 39 dX10_tin_13 (by decide) hz1 ⟨fun c3 => ?_, fun c3 => ?_⟩
  · have h := h.1 c3
    refine V_aload_0 dX10_tin_39 ?_
    refine V_iconst dX10_tin_40 ?_
    refine V_pIe dX10_tin_41 fl_T_73 ly_0 (by decide) wn_0_9 (fun x4 ex4 => ?_)
    have h := h x4 ex4
    have hx4 := hx2.upE (rgL rfl) ex4
    refine V_aload_0 dX10_tin_44 ?_
    refine V_gR dX10_tin_45 fl_T_10 ly_0 (by decide) wr_0_0 ?_
    refine V_cVU0 (My := D_X8_clear) dX10_tin_48 ml_T_94 ce_X8_clear ly_1 (by decide) cl_8 (by decide) (Nat.le_refl _) (Nat.le_refl _) (by decide) (sumL rfl) (w_X8_clear hx4 h) (fun x5 hx5 h => ?_)
    refine V_aload_0 dX10_tin_51 ?_
    refine V_gR dX10_tin_52 fl_T_19 ly_0 (by decide) wr_0_1 ?_
    refine V_gR dX10_tin_55 fl_T_97 ly_3 (by decide) wr_3_1 ?_
    refine V_astore_2 dX10_tin_58 rfl rfl ?_
    refine V_aload_0 dX10_tin_59 ?_
    refine V_gR dX10_tin_60 fl_T_19 ly_0 (by decide) wr_0_1 ?_
    refine V_aload_0 dX10_tin_63 ?_
    refine V_gR dX10_tin_64 fl_T_69 ly_0 (by decide) wr_0_8 ?_
    refine V_pTe dX10_tin_67 fl_T_97 (fun x6 ex6 => ?_)
    have h := h x6 ex6
    have hx6 := hx5.upE (hx5 _ _) ex6
    refine V_aload_0 dX10_tin_70 ?_
    refine V_aload_2 dX10_tin_71 ?_
    refine V_pSe dX10_tin_72 fl_T_69 (fun x7 ex7 => ?_)
    have h := h x7 ex7
    have hx7 := hx6.upE (hx5 _ _) ex7
    refine V_aload_0 dX10_tin_75 ?_
    refine V_gR dX10_tin_76 fl_T_19 ly_0 (by decide) wr_0_1 ?_
    refine V_gR dX10_tin_79 fl_T_100 ly_3 (by decide) wr_3_0 ?_
    refine V_aload_0 dX10_tin_82 ?_
    refine V_gR dX10_tin_83 fl_T_19 ly_0 (by decide) wr_0_1 ?_
    refine V_gR dX10_tin_86 fl_T_97 ly_3 (by decide) wr_3_1 ?_
    refine V_cVU1 (My := D_X2_layOut) dX10_tin_89 ml_T_104 ce_X2_layOut ly_4 (by decide) cl_2 (by decide) (Nat.le_refl _) (Nat.le_refl _) (by decide) (sumL rfl) (w_X2_layOut (show (lay 4).1 = 2 from rfl) (hx7 _ _) hx7 h) (fun x8 hx8 h => ?_)
    refine V_aload_0 dX10_tin_92 ?_
    refine V_gR dX10_tin_93 fl_T_33 ly_0 (by decide) wr_0_3 ?_
    refine V_cVU0 (My := D_X1_clear) dX10_tin_96 ml_T_110 ce_X1_clear ly_60 (by decide) cl_1 (by decide) (Nat.le_refl _) (Nat.le_refl _) (by decide) (sumL rfl) (w_X1_clear hx8 h) (fun x9 hx9 h => ?_)
    refine V_aload_0 dX10_tin_99 ?_
    refine V_gR dX10_tin_100 fl_T_26 ly_0 (by decide) wr_0_2 ?_
    refine V_cVU0 (My := D_X7_clear) dX10_tin_103 ml_T_111 ce_X7_clear ly_10 (by decide) cl_7 (by decide) (Nat.le_refl _) (Nat.le_refl _) (by decide) (sumL rfl) (w_X7_clear hx9 h) (fun x10 hx10 h => ?_)
    refine V_iconst dX10_tin_106 ?_
    refine V_istore_3 dX10_tin_107 rfl rfl ?_
    refine V_fg_1 ?_
    refine V_fg_2 ?_
    obtain ⟨m9, h⟩ := h
    exact w_X10_tin_108 m9 _ _ hx10 (rgL rfl) h
  · have h := h.2 c3
    refine V_aload_0 dX10_tin_16 ?_
    refine V_aload_0 dX10_tin_17 ?_
    refine V_gR dX10_tin_18 fl_T_10 ly_0 (by decide) wr_0_0 ?_
    refine V_gI dX10_tin_21 fl_T_91 ly_1 (by decide) wn_1_2 ?_
    refine V_pIe dX10_tin_24 fl_T_73 ly_0 (by decide) wn_0_9 (fun x16 ex16 => ?_)
    have h := h x16 ex16
    have hx16 := hx2.upE (hx2 _ _) ex16
    refine V_aload_0 dX10_tin_27 ?_
    refine V_gR dX10_tin_28 fl_T_10 ly_0 (by decide) wr_0_0 ?_
    refine V_cVU0 (My := D_X8_clear) dX10_tin_31 ml_T_94 ce_X8_clear ly_1 (by decide) cl_8 (by decide) (Nat.le_refl _) (Nat.le_refl _) (by decide) (sumL rfl) (w_X8_clear hx16 h) (fun x17 hx17 h => ?_)
    refine V_bipush dX10_tin_34 (by decide) ?_
    refine V_iload_1 dX10_tin_36 ?_
    refine V_isub dX10_tin_37 ?_
    obtain ⟨g18, h⟩ := h
    exact V_ireturn dX10_tin_38 rfl ⟨_, _, rfl, hx17, rfl, g18, h⟩
def M_X11_here (x : XM) (q : Int → Prop) : Prop :=
  (((x 83 1) ≤ (x 83 22) → q (-1)) ∧ (¬ ((x 83 1) ≤ (x 83 22)) → (0 ≤ (x 83 22) ∧ (x 83 22) < 240) ∧ q (jand (x 84 (((x 83 22)).toNat)) 255)))
set_option maxRecDepth 100000 in
theorem w_X11_here {Γ : GE} {x : XM} (hx : WX x) {q : Int → Prop} (h : M_X11_here x q) : CV Γ 0 NF NF D_X11_here [.ref (gB Γ + 83)] (mk Γ x) (QI Γ x q) := by
  refine CV.of rfl (cat_all rfl) (Nat.le_of_ble_eq_true rfl) ?_
  show V Γ 0 NF NF D_X11_here (QI Γ x q) 0 [.ref (gB Γ + 83)] [] NF (mk Γ x)
  unfold M_X11_here at h
  refine V_aload_0 dX11_here_0 ?_
  refine V_gI dX11_here_1 fl_R_82 ly_83 (by decide) wn_83_22 ?_
  refine V_aload_0 dX11_here_4 ?_
  refine V_gI dX11_here_5 fl_R_78 ly_83 (by decide) wn_83_1 ?_
  refine V_icmp_ge 27 dX11_here_8 (by decide) (hx _ _) (hx _ _) ⟨fun c1 => ?_, fun c1 => ?_⟩
  · have h := h.1 c1
    refine V_iconst dX11_here_27 ?_
    exact V_ireturn dX11_here_28 rfl ⟨rfl, _, rfl, (rgL rfl), h⟩
  · have h := h.2 c1
    refine V_aload_0 dX11_here_11 ?_
    refine V_gR dX11_here_12 fl_R_7 ly_83 (by decide) wr_83_0 ?_
    refine V_aload_0 dX11_here_15 ?_
    refine V_gI dX11_here_16 fl_R_82 ly_83 (by decide) wn_83_22 ?_
    obtain ⟨g2, h⟩ := h
    refine V_aB dX11_here_19 ly_84 (by decide) (by decide) g2 ?_
    refine V_sipush dX11_here_20 (by decide) ?_
    refine V_iand dX11_here_23 ?_
    refine V_goto 28 dX11_here_24 (by decide) ?_
    exact V_ireturn dX11_here_28 rfl ⟨rfl, _, rfl, (Rg.of _), h⟩
def M_X11_skip_0 (q : XM → Prop) : Nat → XM → Prop
  | 0, _ => False
  | n + 1, x =>
  M_X11_here x  (fun z5 => ((¬ z5 = 32 → q x) ∧ (z5 = 32 → (Rg ((x 83 22) + 1)) ∧ (∀ x8 : XM, x8 = uX x 83 22 ((x 83 22) + 1) → (M_X11_skip_0 q n) x8))))
def M_X11_skip (x : XM) (q : XM → Prop) : Prop :=
  M_X11_here x  (fun z1 => ((¬ z1 = 32 → q x) ∧ (z1 = 32 → (Rg ((x 83 22) + 1)) ∧ (∀ x4 : XM, x4 = uX x 83 22 ((x 83 22) + 1) → (∃ m : Nat, M_X11_skip_0 q m x4)))))
set_option maxRecDepth 100000 in
theorem w_X11_skip_0 {Γ : GE} {q : XM → Prop} : ∀ (n : Nat) (x : XM) , WX x → M_X11_skip_0 q n x → V Γ 1 NF NF D_X11_skip (QU Γ q) 0 [.ref (gB Γ + 83)] [] NF (mk Γ x) := by
  intro n
  induction n with
  | zero =>
    intro x hx h
    rw [M_X11_skip_0.eq_1] at h
    exact h.elim
  | succ n ih =>
    intro x hx h
    rw [M_X11_skip_0.eq_2] at h
    refine V_aload_0 dX11_skip_0 ?_
    refine V_cVI0 (My := D_X11_here) dX11_skip_1 ml_R_85 ce_X11_here ly_83 (by decide) cl_11 (by decide) (Nat.le_refl _) (Nat.le_refl _) (by decide) (sumL rfl) (w_X11_here hx h) (fun z5 hz5 h => ?_)
    refine V_bipush dX11_skip_4 (by decide) ?_
    refine V_icmp_ne 22 dX11_skip_6 (by decide) hz5 (rgL rfl) ⟨fun c6 => ?_, fun c6 => ?_⟩
    · have h := h.1 c6
      exact V_vreturn dX11_skip_22 rfl ⟨_, rfl, hx, rfl, h⟩
    · have h := h.2 c6
      refine V_aload_0 dX11_skip_9 ?_
      refine V_dup dX11_skip_10 rfl ?_
      refine V_gI dX11_skip_11 fl_R_82 ly_83 (by decide) wn_83_22 ?_
      refine V_iconst dX11_skip_14 ?_
      refine V_iadd dX11_skip_15 ?_
      obtain ⟨g7, h⟩ := h
      refine V_pIe dX11_skip_16 fl_R_82 ly_83 (by decide) wn_83_22 (fun x8 ex8 => ?_)
      have h := h x8 ex8
      have hx8 := hx.upE g7 ex8
      refine V_goto 0 dX11_skip_19 (by decide) ?_
      exact ih _ hx8 h
set_option maxRecDepth 100000 in
theorem w_X11_skip {Γ : GE} {x : XM} (hx : WX x) {q : XM → Prop} (h : M_X11_skip x q) : CV Γ 1 NF NF D_X11_skip [.ref (gB Γ + 83)] (mk Γ x) (QU Γ q) := by
  refine CV.of rfl (cat_all rfl) (Nat.le_of_ble_eq_true rfl) ?_
  show V Γ 1 NF NF D_X11_skip (QU Γ q) 0 [.ref (gB Γ + 83)] [] NF (mk Γ x)
  unfold M_X11_skip at h
  refine V_aload_0 dX11_skip_0 ?_
  refine V_cVI0 (My := D_X11_here) dX11_skip_1 ml_R_85 ce_X11_here ly_83 (by decide) cl_11 (by decide) (Nat.le_refl _) (Nat.le_refl _) (by decide) (sumL rfl) (w_X11_here hx h) (fun z1 hz1 h => ?_)
  refine V_bipush dX11_skip_4 (by decide) ?_
  refine V_icmp_ne 22 dX11_skip_6 (by decide) hz1 (rgL rfl) ⟨fun c2 => ?_, fun c2 => ?_⟩
  · have h := h.1 c2
    exact V_vreturn dX11_skip_22 rfl ⟨_, rfl, hx, rfl, h⟩
  · have h := h.2 c2
    refine V_aload_0 dX11_skip_9 ?_
    refine V_dup dX11_skip_10 rfl ?_
    refine V_gI dX11_skip_11 fl_R_82 ly_83 (by decide) wn_83_22 ?_
    refine V_iconst dX11_skip_14 ?_
    refine V_iadd dX11_skip_15 ?_
    obtain ⟨g3, h⟩ := h
    refine V_pIe dX11_skip_16 fl_R_82 ly_83 (by decide) wn_83_22 (fun x4 ex4 => ?_)
    have h := h x4 ex4
    have hx4 := hx.upE g3 ex4
    refine V_goto 0 dX11_skip_19 (by decide) ?_
    obtain ⟨m9, h⟩ := h
    exact w_X11_skip_0 m9 _ hx4 h
def M_X11_fail (x : XM) (v1 : Int) (v2 : Int) (q : XM → Prop) : Prop :=
  ((¬ (x 83 23) = 0 → q x) ∧ ((x 83 23) = 0 → ∀ x2 : XM, x2 = uX x 83 23 v1 → ∀ x3 : XM, x3 = uX x2 83 24 v2 → q x3))
set_option maxRecDepth 100000 in
theorem w_X11_fail {Γ : GE} {x : XM} (hx : WX x) {v1 v2 : Int} {q : XM → Prop} (r1 : Rg v1) (r2 : Rg v2) (h : M_X11_fail x v1 v2 q) : CV Γ 0 NF NF D_X11_fail [.ref (gB Γ + 83), vI v1, vI v2] (mk Γ x) (QU Γ q) := by
  refine CV.of rfl (cat_all rfl) (Nat.le_of_ble_eq_true rfl) ?_
  show V Γ 0 NF NF D_X11_fail (QU Γ q) 0 [.ref (gB Γ + 83), vI v1, vI v2] [] NF (mk Γ x)
  unfold M_X11_fail at h
  refine V_aload_0 dX11_fail_0 ?_
  refine V_gI dX11_fail_1 fl_R_89 ly_83 (by decide) wn_83_23 ?_
  refine V_if_ne 17 dX11_fail_4 (by decide) (hx _ _) ⟨fun c1 => ?_, fun c1 => ?_⟩
  · have h := h.1 c1
    exact V_vreturn dX11_fail_17 rfl ⟨_, rfl, hx, rfl, h⟩
  · have h := h.2 c1
    refine V_aload_0 dX11_fail_7 ?_
    refine V_iload_1 dX11_fail_8 ?_
    refine V_pIe dX11_fail_9 fl_R_89 ly_83 (by decide) wn_83_23 (fun x2 ex2 => ?_)
    have h := h x2 ex2
    have hx2 := hx.upE r1 ex2
    refine V_aload_0 dX11_fail_12 ?_
    refine V_iload_2 dX11_fail_13 ?_
    refine V_pIe dX11_fail_14 fl_R_92 ly_83 (by decide) wn_83_24 (fun x3 ex3 => ?_)
    have h := h x3 ex3
    have hx3 := hx2.upE r2 ex3
    exact V_vreturn dX11_fail_17 rfl ⟨_, rfl, hx3, rfl, h⟩
def M_X11_isFigure (x : XM) (q : Int → Prop) : Prop :=
  M_X11_here x  (fun z1 => M_X11_in x z1 48 57  (fun z2 => (z2 = 0 ∨ z2 = 1) ∧ q z2))
set_option maxRecDepth 100000 in
theorem w_X11_isFigure {Γ : GE} {x : XM} (hx : WX x) {q : Int → Prop} (h : M_X11_isFigure x q) : CV Γ 1 NF NF D_X11_isFigure [.ref (gB Γ + 83)] (mk Γ x) (QI Γ x q) := by
  refine CV.of rfl (cat_all rfl) (Nat.le_of_ble_eq_true rfl) ?_
  show V Γ 1 NF NF D_X11_isFigure (QI Γ x q) 0 [.ref (gB Γ + 83)] [] NF (mk Γ x)
  unfold M_X11_isFigure at h
  refine V_aload_0 dX11_isFigure_0 ?_
  refine V_cVI0 (My := D_X11_here) dX11_isFigure_1 ml_R_85 ce_X11_here ly_83 (by decide) cl_11 (by decide) (Nat.le_refl _) (Nat.le_refl _) (by decide) (sumL rfl) (w_X11_here hx h) (fun z1 hz1 h => ?_)
  refine V_bipush dX11_isFigure_4 (by decide) ?_
  refine V_bipush dX11_isFigure_6 (by decide) ?_
  refine V_cSI3 (My := D_X11_in) dX11_isFigure_8 ml_R_73 ce_X11_in (Nat.le_refl _) (Nat.le_refl _) (by decide) (sumL rfl) (w_X11_in hx hz1 (rgL rfl) (rgL rfl) h) (fun z2 hz2 h => ?_)
  obtain ⟨g3, h⟩ := h
  exact V_zreturn dX11_isFigure_11 rfl g3 ⟨rfl, _, rfl, hz2, h⟩
def M_X11_number_109 (q : Int → XM → Prop) (x : XM) (v1 : Int) (v3 : Int) : Prop :=
  M_X11_fail x 2 v3  (fun x9 => q v1 x9)
def M_X11_number_74 (q : Int → XM → Prop) (K39 : XM → Int → Int → Int → Int → Prop) (x : XM) (v1 : Int) (v2 : Int) (v3 : Int) (s0 : Int) : Prop :=
  (Rg ((x 83 22) + 1)) ∧ (∀ x15 : XM, x15 = uX x 83 22 ((x 83 22) + 1) → K39 x15 v1 v2 v3 s0)
def M_X11_number_39 (q : Int → XM → Prop) : Nat → XM → Int → Int → Int → Int → Prop
  | 0, _, _, _, _, _ => False
  | n + 1, x, v1, v2, v3, v4 =>
  M_X11_isFigure x  (fun z5 => ((z5 = 0 → (Rg ((x 83 22) - v3)) ∧ ((3 < ((x 83 22) - v3) → M_X11_number_109 q x v1 v3) ∧ (¬ (3 < ((x 83 22) - v3)) → M_X11_in x v4 v1 v2  (fun z10 => ((¬ z10 = 0 → q v4 x) ∧ (z10 = 0 → M_X11_number_109 q x v1 v3)))))) ∧ (¬ z5 = 0 → (Rg ((x 83 22) - v3)) ∧ ((3 ≤ ((x 83 22) - v3) → M_X11_number_74 q (M_X11_number_39 q n) x v1 v2 v3 v4) ∧ (¬ (3 ≤ ((x 83 22) - v3)) → M_X11_here x  (fun z16 => (Rg (((10 * v4) + z16) - 48)) ∧ M_X11_number_74 q (M_X11_number_39 q n) x v1 v2 v3 (((10 * v4) + z16) - 48)))))))
def M_X11_number (x : XM) (v1 : Int) (v2 : Int) (q : Int → XM → Prop) : Prop :=
  (((x 83 23) = 0 → M_X11_skip x  (fun x2 => M_X11_isFigure x2  (fun z3 => ((¬ z3 = 0 → ∃ m : Nat, M_X11_number_39 q m x2 v1 v2 (x2 83 22) 0) ∧ (z3 = 0 → M_X11_fail x2 1 (x2 83 22)  (fun x18 => q v1 x18)))))) ∧ (¬ (x 83 23) = 0 → q v1 x))
set_option maxRecDepth 100000 in
theorem w_X11_number_109 {Γ : GE} {q : Int → XM → Prop} : ∀ (x : XM) (v1 : Int) (v3 : Int) , WX x → Rg v1 → Rg v3 → M_X11_number_109 q x v1 v3 → V Γ 2 NF NF D_X11_number (QE Γ q) 109 [.ref (gB Γ + 83), vI v1, uu, vI v3, uu] [] NF (mk Γ x) := by
  intro x v1 v3 hx r1 r3 h
  unfold M_X11_number_109 at h
  refine V_aload_0 dX11_number_109 ?_
  refine V_iconst dX11_number_110 ?_
  refine V_iload_3 dX11_number_111 ?_
  refine V_cVU2 (My := D_X11_fail) dX11_number_112 ml_R_102 ce_X11_fail ly_83 (by decide) cl_11 (by decide) (Nat.le_refl _) (Nat.le_refl _) (by decide) (sumL rfl) (w_X11_fail hx (rgL rfl) r3 h) (fun x9 hx9 h => ?_)
  refine V_iload_1 dX11_number_115 ?_
  exact V_ireturn dX11_number_116 rfl ⟨_, _, rfl, hx9, rfl, r1, h⟩
set_option maxRecDepth 100000 in
theorem w_X11_number_74 {Γ : GE} {q : Int → XM → Prop} {K39 : XM → Int → Int → Int → Int → Prop} (hK39 : ∀ (x : XM) (v1 : Int) (v2 : Int) (v3 : Int) (v4 : Int) , WX x → Rg v1 → Rg v2 → Rg v3 → Rg v4 → K39 x v1 v2 v3 v4 → V Γ 2 NF NF D_X11_number (QE Γ q) 39 [.ref (gB Γ + 83), vI v1, vI v2, vI v3, vI v4] [] NF (mk Γ x)) : ∀ (x : XM) (v1 : Int) (v2 : Int) (v3 : Int) (s0 : Int) , WX x → Rg v1 → Rg v2 → Rg v3 → Rg s0 → M_X11_number_74 q K39 x v1 v2 v3 s0 → V Γ 2 NF NF D_X11_number (QE Γ q) 74 [.ref (gB Γ + 83), vI v1, vI v2, vI v3, uu] [vI s0] NF (mk Γ x) := by
  intro x v1 v2 v3 s0 hx r1 r2 r3 rs0 h
  unfold M_X11_number_74 at h
  refine V_istore_4 dX11_number_74 rfl rfl ?_
  refine V_aload_0 dX11_number_76 ?_
  refine V_dup dX11_number_77 rfl ?_
  refine V_gI dX11_number_78 fl_R_82 ly_83 (by decide) wn_83_22 ?_
  refine V_iconst dX11_number_81 ?_
  refine V_iadd dX11_number_82 ?_
  obtain ⟨g14, h⟩ := h
  refine V_pIe dX11_number_83 fl_R_82 ly_83 (by decide) wn_83_22 (fun x15 ex15 => ?_)
  have h := h x15 ex15
  have hx15 := hx.upE g14 ex15
  refine V_goto 39 dX11_number_86 (by decide) ?_
  exact hK39 _ _ _ _ _ hx15 r1 r2 r3 rs0 h
set_option maxRecDepth 100000 in
theorem w_X11_number_39 {Γ : GE} {q : Int → XM → Prop} : ∀ (n : Nat) (x : XM) (v1 : Int) (v2 : Int) (v3 : Int) (v4 : Int) , WX x → Rg v1 → Rg v2 → Rg v3 → Rg v4 → M_X11_number_39 q n x v1 v2 v3 v4 → V Γ 2 NF NF D_X11_number (QE Γ q) 39 [.ref (gB Γ + 83), vI v1, vI v2, vI v3, vI v4] [] NF (mk Γ x) := by
  intro n
  induction n with
  | zero =>
    intro x v1 v2 v3 v4 hx r1 r2 r3 r4 h
    rw [M_X11_number_39.eq_1] at h
    exact h.elim
  | succ n ih =>
    intro x v1 v2 v3 v4 hx r1 r2 r3 r4 h
    rw [M_X11_number_39.eq_2] at h
    refine V_aload_0 dX11_number_39 ?_
    refine V_cVI0 (My := D_X11_isFigure) dX11_number_40 ml_R_98 ce_X11_isFigure ly_83 (by decide) cl_11 (by decide) (Nat.le_refl _) (Nat.le_refl _) (by decide) (sumL rfl) (w_X11_isFigure hx h) (fun z5 hz5 h => ?_)
    refine V_if_eq 89 dX11_number_43 (by decide) hz5 ⟨fun c6 => ?_, fun c6 => ?_⟩
    · have h := h.1 c6
      refine V_aload_0 dX11_number_89 ?_
      refine V_gI dX11_number_90 fl_R_82 ly_83 (by decide) wn_83_22 ?_
      refine V_iload_3 dX11_number_93 ?_
      refine V_isub dX11_number_94 ?_
      refine V_iconst dX11_number_95 ?_
      obtain ⟨g7, h⟩ := h
      refine V_icmp_gt 109 dX11_number_96 (by decide) g7 (rgL rfl) ⟨fun c8 => ?_, fun c8 => ?_⟩
      · have h := h.1 c8
        refine V_fg_2 ?_
        refine V_fg_4 ?_
        exact w_X11_number_109 _ _ _ hx r1 r3 h
      · have h := h.2 c8
        refine V_iload_4 dX11_number_99 ?_
        refine V_iload_1 dX11_number_101 ?_
        refine V_iload_2 dX11_number_102 ?_
        refine V_cSI3 (My := D_X11_in) dX11_number_103 ml_R_73 ce_X11_in (Nat.le_refl _) (Nat.le_refl _) (by decide) (sumL rfl) (w_X11_in hx r4 r1 r2 h) (fun z10 hz10 h => ?_)
        refine V_if_ne 117 dX11_number_106 (by decide) hz10 ⟨fun c11 => ?_, fun c11 => ?_⟩
        · have h := h.1 c11
          refine V_iload_4 dX11_number_117 ?_
          exact V_ireturn dX11_number_119 rfl ⟨_, _, rfl, hx, rfl, r4, h⟩
        · have h := h.2 c11
          refine V_fg_2 ?_
          refine V_fg_4 ?_
          exact w_X11_number_109 _ _ _ hx r1 r3 h
    · have h := h.2 c6
      refine V_aload_0 dX11_number_46 ?_
      refine V_gI dX11_number_47 fl_R_82 ly_83 (by decide) wn_83_22 ?_
      refine V_iload_3 dX11_number_50 ?_
      refine V_isub dX11_number_51 ?_
      refine V_iconst dX11_number_52 ?_
      obtain ⟨g12, h⟩ := h
      refine V_icmp_ge 72 dX11_number_53 (by decide) g12 (rgL rfl) ⟨fun c13 => ?_, fun c13 => ?_⟩
      · have h := h.1 c13
        refine V_iload_4 dX11_number_72 ?_
        refine V_fg_4 ?_
        exact w_X11_number_74 (ih) _ _ _ _ _ hx r1 r2 r3 r4 h
      · have h := h.2 c13
        refine V_bipush dX11_number_56 (by decide) ?_
        refine V_iload_4 dX11_number_58 ?_
        refine V_imul dX11_number_60 ?_
        refine V_aload_0 dX11_number_61 ?_
        refine V_cVI0 (My := D_X11_here) dX11_number_62 ml_R_85 ce_X11_here ly_83 (by decide) cl_11 (by decide) (Nat.le_refl _) (Nat.le_refl _) (by decide) (sumL rfl) (w_X11_here hx h) (fun z16 hz16 h => ?_)
        refine V_iadd dX11_number_65 ?_
        refine V_bipush dX11_number_66 (by decide) ?_
        refine V_isub dX11_number_68 ?_
        refine V_goto 74 dX11_number_69 (by decide) ?_
        obtain ⟨g17, h⟩ := h
        refine V_fg_4 ?_
        exact w_X11_number_74 (ih) _ _ _ _ _ hx r1 r2 r3 g17 h
set_option maxRecDepth 100000 in
theorem w_X11_number {Γ : GE} {x : XM} (hx : WX x) {v1 v2 : Int} {q : Int → XM → Prop} (r1 : Rg v1) (r2 : Rg v2) (h : M_X11_number x v1 v2 q) : CV Γ 2 NF NF D_X11_number [.ref (gB Γ + 83), vI v1, vI v2] (mk Γ x) (QE Γ q) := by
  refine CV.of rfl (cat_all rfl) (Nat.le_of_ble_eq_true rfl) ?_
  show V Γ 2 NF NF D_X11_number (QE Γ q) 0 [.ref (gB Γ + 83), vI v1, vI v2, uu, uu] [] NF (mk Γ x)
  unfold M_X11_number at h
  refine V_aload_0 dX11_number_0 ?_
  refine V_gI dX11_number_1 fl_R_89 ly_83 (by decide) wn_83_23 ?_
  refine V_if_eq 9 dX11_number_4 (by decide) (hx _ _) ⟨fun c1 => ?_, fun c1 => ?_⟩
  · have h := h.1 c1
    refine V_aload_0 dX11_number_9 ?_
    refine V_cVU0 (My := D_X11_skip) dX11_number_10 ml_R_95 ce_X11_skip ly_83 (by decide) cl_11 (by decide) (Nat.le_refl _) (Nat.le_refl _) (by decide) (sumL rfl) (w_X11_skip hx h) (fun x2 hx2 h => ?_)
    refine V_aload_0 dX11_number_13 ?_
    refine V_gI dX11_number_14 fl_R_82 ly_83 (by decide) wn_83_22 ?_
    refine V_istore_3 dX11_number_17 rfl rfl ?_
    refine V_iconst dX11_number_18 ?_
    refine V_istore_4 dX11_number_19 rfl rfl ?_
    refine V_aload_0 dX11_number_21 ?_
    refine V_cVI0 (My := D_X11_isFigure) dX11_number_22 ml_R_98 ce_X11_isFigure ly_83 (by decide) cl_11 (by decide) (Nat.le_refl _) (Nat.le_refl _) (by decide) (sumL rfl) (w_X11_isFigure hx2 h) (fun z3 hz3 h => ?_)
    refine V_if_ne 39 dX11_number_25 (by decide) hz3 ⟨fun c4 => ?_, fun c4 => ?_⟩
    · have h := h.1 c4
      obtain ⟨m9, h⟩ := h
      exact w_X11_number_39 m9 _ _ _ _ _ hx2 r1 r2 (hx2 _ _) (rgL rfl) h
    · have h := h.2 c4
      refine V_aload_0 dX11_number_28 ?_
      refine V_iconst dX11_number_29 ?_
      refine V_aload_0 dX11_number_30 ?_
      refine V_gI dX11_number_31 fl_R_82 ly_83 (by decide) wn_83_22 ?_
      refine V_cVU2 (My := D_X11_fail) dX11_number_34 ml_R_102 ce_X11_fail ly_83 (by decide) cl_11 (by decide) (Nat.le_refl _) (Nat.le_refl _) (by decide) (sumL rfl) (w_X11_fail hx2 (rgL rfl) (hx2 _ _) h) (fun x18 hx18 h => ?_)
      refine V_iload_1 dX11_number_37 ?_
      exact V_ireturn dX11_number_38 rfl ⟨_, _, rfl, hx18, rfl, r1, h⟩
  · have h := h.2 c1
    refine V_iload_1 dX11_number_7 ?_
    exact V_ireturn dX11_number_8 rfl ⟨_, _, rfl, hx, rfl, r1, h⟩
