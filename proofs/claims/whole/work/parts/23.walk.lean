def M_X10_isThere (x : XM) (v1 : Int) (v2 : Int) (q : Int → Prop) : Prop :=
  ((v2 < 0 → q 0) ∧ (¬ (v2 < 0) → M_X0_count x v1  (fun z2 => ((z2 ≤ v2 → q 0) ∧ (¬ (z2 ≤ v2) → q 1)))))
set_option maxRecDepth 100000 in
theorem w_X10_isThere {Γ : GE} {x : XM} (hx : WX x) {v1 v2 : Int} {q : Int → Prop} (r1 : Rg v1) (r2 : Rg v2) (h : M_X10_isThere x v1 v2 q) : CV Γ 1 NF NF D_X10_isThere [.ref (gB Γ + 0), vI v1, vI v2] (mk Γ x) (QI Γ x q) := by
  refine CV.of rfl (cat_all rfl) (Nat.le_of_ble_eq_true rfl) ?_
  show V Γ 1 NF NF D_X10_isThere (QI Γ x q) 0 [.ref (gB Γ + 0), vI v1, vI v2] [] NF (mk Γ x)
  unfold M_X10_isThere at h
  refine V_iload_2 dX10_isThere_0 ?_
  refine V_if_lt 20 dX10_isThere_1 (by decide) r2 ⟨fun c1 => ?_, fun c1 => ?_⟩
  · have h := h.1 c1
    refine V_iconst dX10_isThere_20 ?_
    exact V_zreturn dX10_isThere_21 rfl (Or.inl rfl) ⟨rfl, _, rfl, (rgL rfl), h⟩
  · have h := h.2 c1
    refine V_iload_2 dX10_isThere_4 ?_
    refine V_aload_0 dX10_isThere_5 ?_
    refine V_gR dX10_isThere_6 fl_T_19 ly_0 (by decide) wr_0_1 ?_
    refine V_iload_1 dX10_isThere_9 ?_
    refine V_cVI1 (My := D_X0_count) dX10_isThere_10 ml_T_116 ce_X0_count ly_3 (by decide) cl_0 (by decide) (Nat.le_refl _) (Nat.le_refl _) (by decide) (sumL rfl) (w_X0_count hx r1 h) (fun z2 hz2 h => ?_)
    refine V_icmp_ge 20 dX10_isThere_13 (by decide) r2 hz2 ⟨fun c3 => ?_, fun c3 => ?_⟩
    · have h := h.1 c3
      refine V_iconst dX10_isThere_20 ?_
      exact V_zreturn dX10_isThere_21 rfl (Or.inl rfl) ⟨rfl, _, rfl, (rgL rfl), h⟩
    · have h := h.2 c3
      refine V_iconst dX10_isThere_16 ?_
      refine V_goto 21 dX10_isThere_17 (by decide) ?_
      exact V_zreturn dX10_isThere_21 rfl (Or.inr rfl) ⟨rfl, _, rfl, (rgL rfl), h⟩
def M_X0_isSewn (x : XM) (v1 : Int) (q : Int → Prop) : Prop :=
  (0 ≤ v1 ∧ v1 < 12) ∧ (((x 5 (v1.toNat)) < 8 → q 0) ∧ (¬ ((x 5 (v1.toNat)) < 8) → q 1))
set_option maxRecDepth 100000 in
theorem w_X0_isSewn {Γ : GE} {x : XM} (hx : WX x) {v1 : Int} {q : Int → Prop} (r1 : Rg v1) (h : M_X0_isSewn x v1 q) : CV Γ 0 NF NF D_X0_isSewn [.ref (gB Γ + 3), vI v1] (mk Γ x) (QI Γ x q) := by
  refine CV.of rfl (cat_all rfl) (Nat.le_of_ble_eq_true rfl) ?_
  show V Γ 0 NF NF D_X0_isSewn (QI Γ x q) 0 [.ref (gB Γ + 3), vI v1] [] NF (mk Γ x)
  unfold M_X0_isSewn at h
  refine V_aload_0 dX0_isSewn_0 ?_
  refine V_gR dX0_isSewn_1 fl_Bench_12 ly_3 (by decide) wr_3_0 ?_
  refine V_gR dX0_isSewn_4 fl_Bench_49 ly_4 (by decide) (r := 5) (clo_w0 (k := 4) rfl) ?_
  refine V_iload_1 dX0_isSewn_7 ?_
  obtain ⟨g1, h⟩ := h
  refine V_aI dX0_isSewn_8 ly_5 (by decide) (by decide) g1 ?_
  refine V_bipush dX0_isSewn_9 (by decide) ?_
  refine V_icmp_lt 18 dX0_isSewn_11 (by decide) (hx _ _) (rgL rfl) ⟨fun c2 => ?_, fun c2 => ?_⟩
  · have h := h.1 c2
    refine V_iconst dX0_isSewn_18 ?_
    exact V_zreturn dX0_isSewn_19 rfl (Or.inl rfl) ⟨rfl, _, rfl, (rgL rfl), h⟩
  · have h := h.2 c2
    refine V_iconst dX0_isSewn_14 ?_
    refine V_goto 19 dX0_isSewn_15 (by decide) ?_
    exact V_zreturn dX0_isSewn_19 rfl (Or.inr rfl) ⟨rfl, _, rfl, (rgL rfl), h⟩
def M_X10_button_31 (q : Int → Prop) (x : XM) (v1 : Int) (v2 : Int) : Prop :=
  ((v2 = 4 → M_X0_holds x v1  (fun z4 => q z4)) ∧ (¬ v2 = 4 → ((v2 = 5 → M_X0_heapOf x v1  (fun z5 => q z5)) ∧ (¬ v2 = 5 → ((v2 = 6 → M_X0_isSewn x v1  (fun z6 => ((z6 = 0 → q (-1)) ∧ (¬ z6 = 0 → (0 ≤ v1 ∧ v1 < 12) ∧ (Rg ((x 5 (v1.toNat)) - 8)) ∧ q ((x 5 (v1.toNat)) - 8))))) ∧ (¬ v2 = 6 → ((v2 = 7 → M_X0_goal x v1  (fun z10 => q z10)) ∧ (¬ v2 = 7 → q (-1000000002)))))))))
def M_X10_button (x : XM) (v1 : Int) (v2 : Int) (q : Int → Prop) : Prop :=
  M_X10_isThere x 1 v1  (fun z1 => ((¬ z1 = 0 → ((v2 < 0 → M_X10_button_31 q x v1 v2) ∧ (¬ (v2 < 0) → ((4 ≤ v2 → M_X10_button_31 q x v1 v2) ∧ (¬ (4 ≤ v2) → M_X0_mark x v1 v2  (fun z12 => q z12)))))) ∧ (z1 = 0 → q (-1000000001))))
set_option maxRecDepth 100000 in
theorem w_X10_button_31 {Γ : GE} {q : Int → Prop} {x : XM} (hx : WX x) : ∀ (v1 : Int) (v2 : Int) , Rg v1 → Rg v2 → M_X10_button_31 q x v1 v2 → V Γ 4 NF NF D_X10_button (QI Γ x q) 31 [.ref (gB Γ + 0), vI v1, vI v2] [] NF (mk Γ x) := by
  intro v1 v2 r1 r2 h
  unfold M_X10_button_31 at h
  refine V_iload_2 dX10_button_31 ?_
  by_cases eo : v2 < 4 ∨ 7 < v2
  · skip
    have h := h.2 (neo (v := 4) eo (by decide) (by decide))
    have h := h.2 (neo (v := 5) eo (by decide) (by decide))
    have h := h.2 (neo (v := 6) eo (by decide) (by decide))
    have h := h.2 (neo (v := 7) eo (by decide) (by decide))
    refine V_tableOut 122 dX10_button_32 r2 eo (by decide) ?_
    refine V_ldc dX10_button_122 kc_T_78 ?_
    exact V_ireturn dX10_button_124 rfl ⟨rfl, _, rfl, (rgL rfl), h⟩
  · skip
    have b_0 : 4 ≤ v2 := Int.not_lt.mp (fun z => eo (Or.inl z))
    by_cases e_0 : v2 = 4
    · have h := h.1 e_0
      refine V_tableIn (off := 32) 64 dX10_button_32 r2 (fun z => eo (Or.inl z)) (fun z => eo (Or.inr z)) (by rw [e_0]; rfl) (by decide) ?_
      refine V_aload_0 dX10_button_64 ?_
      refine V_gR dX10_button_65 fl_T_19 ly_0 (by decide) wr_0_1 ?_
      refine V_iload_1 dX10_button_68 ?_
      refine V_cVI1 (My := D_X0_holds) dX10_button_69 ml_T_157 ce_X0_holds ly_3 (by decide) cl_0 (by decide) (Nat.le_refl _) (Nat.le_refl _) (by decide) (sumL rfl) (w_X0_holds hx r1 h) (fun z4 hz4 h => ?_)
      exact V_ireturn dX10_button_72 rfl ⟨rfl, _, rfl, hz4, h⟩
    have h := h.2 e_0
    have b_1 : 5 ≤ v2 := lbs b_0 e_0
    by_cases e_1 : v2 = 5
    · have h := h.1 e_1
      refine V_tableIn (off := 41) 73 dX10_button_32 r2 (fun z => eo (Or.inl z)) (fun z => eo (Or.inr z)) (by rw [e_1]; rfl) (by decide) ?_
      refine V_aload_0 dX10_button_73 ?_
      refine V_gR dX10_button_74 fl_T_19 ly_0 (by decide) wr_0_1 ?_
      refine V_iload_1 dX10_button_77 ?_
      refine V_cVI1 (My := D_X0_heapOf) dX10_button_78 ml_T_160 ce_X0_heapOf ly_3 (by decide) cl_0 (by decide) (Nat.le_refl _) (Nat.le_refl _) (by decide) (sumL rfl) (w_X0_heapOf hx r1 h) (fun z5 hz5 h => ?_)
      exact V_ireturn dX10_button_81 rfl ⟨rfl, _, rfl, hz5, h⟩
    have h := h.2 e_1
    have b_2 : 6 ≤ v2 := lbs b_1 e_1
    by_cases e_2 : v2 = 6
    · have h := h.1 e_2
      refine V_tableIn (off := 50) 82 dX10_button_32 r2 (fun z => eo (Or.inl z)) (fun z => eo (Or.inr z)) (by rw [e_2]; rfl) (by decide) ?_
      refine V_aload_0 dX10_button_82 ?_
      refine V_gR dX10_button_83 fl_T_19 ly_0 (by decide) wr_0_1 ?_
      refine V_iload_1 dX10_button_86 ?_
      refine V_cVI1 (My := D_X0_isSewn) dX10_button_87 ml_T_163 ce_X0_isSewn ly_3 (by decide) cl_0 (by decide) (Nat.le_refl _) (Nat.le_refl _) (by decide) (sumL rfl) (w_X0_isSewn hx r1 h) (fun z6 hz6 h => ?_)
      refine V_if_eq 111 dX10_button_90 (by decide) hz6 ⟨fun c7 => ?_, fun c7 => ?_⟩
      · have h := h.1 c7
        refine V_iconst dX10_button_111 ?_
        exact V_ireturn dX10_button_112 rfl ⟨rfl, _, rfl, (rgL rfl), h⟩
      · have h := h.2 c7
        refine V_aload_0 dX10_button_93 ?_
        refine V_gR dX10_button_94 fl_T_19 ly_0 (by decide) wr_0_1 ?_
        refine V_gR dX10_button_97 fl_T_100 ly_3 (by decide) wr_3_0 ?_
        refine V_gR dX10_button_100 fl_T_167 ly_4 (by decide) (r := 5) (clo_w0 (k := 4) rfl) ?_
        refine V_iload_1 dX10_button_103 ?_
        obtain ⟨g8, h⟩ := h
        refine V_aI dX10_button_104 ly_5 (by decide) (by decide) g8 ?_
        refine V_bipush dX10_button_105 (by decide) ?_
        refine V_isub dX10_button_107 ?_
        refine V_goto 112 dX10_button_108 (by decide) ?_
        obtain ⟨g9, h⟩ := h
        exact V_ireturn dX10_button_112 rfl ⟨rfl, _, rfl, g9, h⟩
    have h := h.2 e_2
    have b_3 : 7 ≤ v2 := lbs b_2 e_2
    by_cases e_3 : v2 = 7
    · have h := h.1 e_3
      refine V_tableIn (off := 81) 113 dX10_button_32 r2 (fun z => eo (Or.inl z)) (fun z => eo (Or.inr z)) (by rw [e_3]; rfl) (by decide) ?_
      refine V_aload_0 dX10_button_113 ?_
      refine V_gR dX10_button_114 fl_T_19 ly_0 (by decide) wr_0_1 ?_
      refine V_iload_1 dX10_button_117 ?_
      refine V_cVI1 (My := D_X0_goal) dX10_button_118 ml_T_171 ce_X0_goal ly_3 (by decide) cl_0 (by decide) (Nat.le_refl _) (Nat.le_refl _) (by decide) (sumL rfl) (w_X0_goal hx r1 h) (fun z10 hz10 h => ?_)
      exact V_ireturn dX10_button_121 rfl ⟨rfl, _, rfl, hz10, h⟩
    have h := h.2 e_3
    have b_4 : 8 ≤ v2 := lbs b_3 e_3
    exact absurd b_4 (fun z => eo (Or.inr (Int.lt_of_lt_of_le (by decide) z)))
set_option maxRecDepth 100000 in
theorem w_X10_button {Γ : GE} {x : XM} (hx : WX x) {v1 v2 : Int} {q : Int → Prop} (r1 : Rg v1) (r2 : Rg v2) (h : M_X10_button x v1 v2 q) : CV Γ 4 NF NF D_X10_button [.ref (gB Γ + 0), vI v1, vI v2] (mk Γ x) (QI Γ x q) := by
  refine CV.of rfl (cat_all rfl) (Nat.le_of_ble_eq_true rfl) ?_
  show V Γ 4 NF NF D_X10_button (QI Γ x q) 0 [.ref (gB Γ + 0), vI v1, vI v2] [] NF (mk Γ x)
  unfold M_X10_button at h
  refine V_aload_0 dX10_button_0 ?_
  refine V_iconst dX10_button_1 ?_
  refine V_iload_1 dX10_button_2 ?_
  refine V_cVI2 (My := D_X10_isThere) dX10_button_3 ml_T_149 ce_X10_isThere ly_0 (by decide) cl_10 (by decide) (Nat.le_refl _) (Nat.le_refl _) (by decide) (sumL rfl) (w_X10_isThere hx (rgL rfl) r1 h) (fun z1 hz1 h => ?_)
  refine V_if_ne 12 dX10_button_6 (by decide) hz1 ⟨fun c2 => ?_, fun c2 => ?_⟩
  · have h := h.1 c2
    refine V_iload_2 dX10_button_12 ?_
    refine V_if_lt 31 dX10_button_13 (by decide) r2 ⟨fun c3 => ?_, fun c3 => ?_⟩
    · have h := h.1 c3
      exact w_X10_button_31 hx _ _ r1 r2 h
    · have h := h.2 c3
      refine V_iload_2 dX10_button_16 ?_
      refine V_iconst dX10_button_17 ?_
      refine V_icmp_ge 31 dX10_button_18 (by decide) r2 (rgL rfl) ⟨fun c11 => ?_, fun c11 => ?_⟩
      · have h := h.1 c11
        exact w_X10_button_31 hx _ _ r1 r2 h
      · have h := h.2 c11
        refine V_aload_0 dX10_button_21 ?_
        refine V_gR dX10_button_22 fl_T_19 ly_0 (by decide) wr_0_1 ?_
        refine V_iload_1 dX10_button_25 ?_
        refine V_iload_2 dX10_button_26 ?_
        refine V_cVI2 (My := D_X0_mark) dX10_button_27 ml_T_154 ce_X0_mark ly_3 (by decide) cl_0 (by decide) (Nat.le_refl _) (Nat.le_refl _) (by decide) (sumL rfl) (w_X0_mark hx r1 r2 h) (fun z12 hz12 h => ?_)
        exact V_ireturn dX10_button_30 rfl ⟨rfl, _, rfl, hz12, h⟩
  · have h := h.2 c2
    refine V_ldc dX10_button_9 kc_T_153 ?_
    exact V_ireturn dX10_button_11 rfl ⟨rfl, _, rfl, (rgL rfl), h⟩
def M_X11_isButton (x : XM) (v1 : Int) (q : Int → Prop) : Prop :=
  (Rg ((x 83 3) - 1)) ∧ M_X11_in x v1 0 ((x 83 3) - 1)  (fun z2 => (z2 = 0 ∨ z2 = 1) ∧ q z2)
set_option maxRecDepth 100000 in
theorem w_X11_isButton {Γ : GE} {x : XM} (hx : WX x) {v1 : Int} {q : Int → Prop} (r1 : Rg v1) (h : M_X11_isButton x v1 q) : CV Γ 1 NF NF D_X11_isButton [.ref (gB Γ + 83), vI v1] (mk Γ x) (QI Γ x q) := by
  refine CV.of rfl (cat_all rfl) (Nat.le_of_ble_eq_true rfl) ?_
  show V Γ 1 NF NF D_X11_isButton (QI Γ x q) 0 [.ref (gB Γ + 83), vI v1] [] NF (mk Γ x)
  unfold M_X11_isButton at h
  refine V_iload_1 dX11_isButton_0 ?_
  refine V_iconst dX11_isButton_1 ?_
  refine V_aload_0 dX11_isButton_2 ?_
  refine V_gI dX11_isButton_3 fl_R_145 ly_83 (by decide) wn_83_3 ?_
  refine V_iconst dX11_isButton_6 ?_
  refine V_isub dX11_isButton_7 ?_
  obtain ⟨g1, h⟩ := h
  refine V_cSI3 (My := D_X11_in) dX11_isButton_8 ml_R_73 ce_X11_in (Nat.le_refl _) (Nat.le_refl _) (by decide) (sumL rfl) (w_X11_in hx r1 (rgL rfl) g1 h) (fun z2 hz2 h => ?_)
  obtain ⟨g3, h⟩ := h
  exact V_zreturn dX11_isButton_11 rfl g3 ⟨rfl, _, rfl, hz2, h⟩
def M_X11_button (x : XM) (v1 : Int) (v2 : Int) (q : Int → Prop) : Prop :=
  M_X11_isButton x v1  (fun z1 => ((¬ z1 = 0 → ((v2 = 0 → M_X11_markOf x v1 v2  (fun z3 => q z3)) ∧ (¬ v2 = 0 → ((v2 = 1 → M_X11_markOf x v1 v2  (fun z4 => q z4)) ∧ (¬ v2 = 1 → ((v2 = 2 → M_X11_markOf x v1 v2  (fun z5 => q z5)) ∧ (¬ v2 = 2 → ((v2 = 3 → M_X11_markOf x v1 v2  (fun z6 => q z6)) ∧ (¬ v2 = 3 → ((v2 = 4 → M_X11_holds x v1  (fun z7 => q z7)) ∧ (¬ v2 = 4 → ((v2 = 5 → M_X11_heapOf x v1  (fun z8 => q z8)) ∧ (¬ v2 = 5 → ((v2 = 6 → (0 ≤ v1 ∧ v1 < 31) ∧ (((x 93 (v1.toNat)) < 8 → q (-1)) ∧ (¬ ((x 93 (v1.toNat)) < 8) → (0 ≤ v1 ∧ v1 < 31) ∧ (Rg ((x 93 (v1.toNat)) - 8)) ∧ q ((x 93 (v1.toNat)) - 8)))) ∧ (¬ v2 = 6 → ((v2 = 7 → M_X11_goes x v1  (fun z13 => q z13)) ∧ (¬ v2 = 7 → q (-1000000002)))))))))))))))))) ∧ (z1 = 0 → q (-1000000001))))
set_option maxRecDepth 100000 in
theorem w_X11_button {Γ : GE} {x : XM} (hx : WX x) {v1 v2 : Int} {q : Int → Prop} (r1 : Rg v1) (r2 : Rg v2) (h : M_X11_button x v1 v2 q) : CV Γ 4 NF NF D_X11_button [.ref (gB Γ + 83), vI v1, vI v2] (mk Γ x) (QI Γ x q) := by
  refine CV.of rfl (cat_all rfl) (Nat.le_of_ble_eq_true rfl) ?_
  show V Γ 4 NF NF D_X11_button (QI Γ x q) 0 [.ref (gB Γ + 83), vI v1, vI v2] [] NF (mk Γ x)
  unfold M_X11_button at h
  refine V_aload_0 dX11_button_0 ?_
  refine V_iload_1 dX11_button_1 ?_
  refine V_cVI1 (My := D_X11_isButton) dX11_button_2 ml_R_201 ce_X11_isButton ly_83 (by decide) cl_11 (by decide) (Nat.le_refl _) (Nat.le_refl _) (by decide) (sumL rfl) (w_X11_isButton hx r1 h) (fun z1 hz1 h => ?_)
  refine V_if_ne 11 dX11_button_5 (by decide) hz1 ⟨fun c2 => ?_, fun c2 => ?_⟩
  · have h := h.1 c2
    refine V_iload_2 dX11_button_11 ?_
    by_cases eo : v2 < 0 ∨ 7 < v2
    · skip
      have h := h.2 (neo (v := 0) eo (by decide) (by decide))
      have h := h.2 (neo (v := 1) eo (by decide) (by decide))
      have h := h.2 (neo (v := 2) eo (by decide) (by decide))
      have h := h.2 (neo (v := 3) eo (by decide) (by decide))
      have h := h.2 (neo (v := 4) eo (by decide) (by decide))
      have h := h.2 (neo (v := 5) eo (by decide) (by decide))
      have h := h.2 (neo (v := 6) eo (by decide) (by decide))
      have h := h.2 (neo (v := 7) eo (by decide) (by decide))
      refine V_tableOut 110 dX11_button_12 r2 eo (by decide) ?_
      refine V_ldc dX11_button_110 kc_R_77 ?_
      exact V_ireturn dX11_button_112 rfl ⟨rfl, _, rfl, (rgL rfl), h⟩
    · skip
      have b_0 : 0 ≤ v2 := Int.not_lt.mp (fun z => eo (Or.inl z))
      by_cases e_0 : v2 = 0
      · have h := h.1 e_0
        refine V_tableIn (off := 48) 60 dX11_button_12 r2 (fun z => eo (Or.inl z)) (fun z => eo (Or.inr z)) (by rw [e_0]; rfl) (by decide) ?_
        refine V_aload_0 dX11_button_60 ?_
        refine V_iload_1 dX11_button_61 ?_
        refine V_iload_2 dX11_button_62 ?_
        refine V_cVI2 (My := D_X11_markOf) dX11_button_63 ml_R_163 ce_X11_markOf ly_83 (by decide) cl_11 (by decide) (Nat.le_refl _) (Nat.le_refl _) (by decide) (sumL rfl) (w_X11_markOf hx r1 r2 h) (fun z3 hz3 h => ?_)
        exact V_ireturn dX11_button_66 rfl ⟨rfl, _, rfl, hz3, h⟩
      have h := h.2 e_0
      have b_1 : 1 ≤ v2 := lbs b_0 e_0
      by_cases e_1 : v2 = 1
      · have h := h.1 e_1
        refine V_tableIn (off := 48) 60 dX11_button_12 r2 (fun z => eo (Or.inl z)) (fun z => eo (Or.inr z)) (by rw [e_1]; rfl) (by decide) ?_
        refine V_aload_0 dX11_button_60 ?_
        refine V_iload_1 dX11_button_61 ?_
        refine V_iload_2 dX11_button_62 ?_
        refine V_cVI2 (My := D_X11_markOf) dX11_button_63 ml_R_163 ce_X11_markOf ly_83 (by decide) cl_11 (by decide) (Nat.le_refl _) (Nat.le_refl _) (by decide) (sumL rfl) (w_X11_markOf hx r1 r2 h) (fun z4 hz4 h => ?_)
        exact V_ireturn dX11_button_66 rfl ⟨rfl, _, rfl, hz4, h⟩
      have h := h.2 e_1
      have b_2 : 2 ≤ v2 := lbs b_1 e_1
      by_cases e_2 : v2 = 2
      · have h := h.1 e_2
        refine V_tableIn (off := 48) 60 dX11_button_12 r2 (fun z => eo (Or.inl z)) (fun z => eo (Or.inr z)) (by rw [e_2]; rfl) (by decide) ?_
        refine V_aload_0 dX11_button_60 ?_
        refine V_iload_1 dX11_button_61 ?_
        refine V_iload_2 dX11_button_62 ?_
        refine V_cVI2 (My := D_X11_markOf) dX11_button_63 ml_R_163 ce_X11_markOf ly_83 (by decide) cl_11 (by decide) (Nat.le_refl _) (Nat.le_refl _) (by decide) (sumL rfl) (w_X11_markOf hx r1 r2 h) (fun z5 hz5 h => ?_)
        exact V_ireturn dX11_button_66 rfl ⟨rfl, _, rfl, hz5, h⟩
      have h := h.2 e_2
      have b_3 : 3 ≤ v2 := lbs b_2 e_2
      by_cases e_3 : v2 = 3
      · have h := h.1 e_3
        refine V_tableIn (off := 48) 60 dX11_button_12 r2 (fun z => eo (Or.inl z)) (fun z => eo (Or.inr z)) (by rw [e_3]; rfl) (by decide) ?_
        refine V_aload_0 dX11_button_60 ?_
        refine V_iload_1 dX11_button_61 ?_
        refine V_iload_2 dX11_button_62 ?_
        refine V_cVI2 (My := D_X11_markOf) dX11_button_63 ml_R_163 ce_X11_markOf ly_83 (by decide) cl_11 (by decide) (Nat.le_refl _) (Nat.le_refl _) (by decide) (sumL rfl) (w_X11_markOf hx r1 r2 h) (fun z6 hz6 h => ?_)
        exact V_ireturn dX11_button_66 rfl ⟨rfl, _, rfl, hz6, h⟩
      have h := h.2 e_3
      have b_4 : 4 ≤ v2 := lbs b_3 e_3
      by_cases e_4 : v2 = 4
      · have h := h.1 e_4
        refine V_tableIn (off := 55) 67 dX11_button_12 r2 (fun z => eo (Or.inl z)) (fun z => eo (Or.inr z)) (by rw [e_4]; rfl) (by decide) ?_
        refine V_aload_0 dX11_button_67 ?_
        refine V_iload_1 dX11_button_68 ?_
        refine V_cVI1 (My := D_X11_holds) dX11_button_69 ml_R_180 ce_X11_holds ly_83 (by decide) cl_11 (by decide) (Nat.le_refl _) (Nat.le_refl _) (by decide) (sumL rfl) (w_X11_holds hx r1 h) (fun z7 hz7 h => ?_)
        exact V_ireturn dX11_button_72 rfl ⟨rfl, _, rfl, hz7, h⟩
      have h := h.2 e_4
      have b_5 : 5 ≤ v2 := lbs b_4 e_4
      by_cases e_5 : v2 = 5
      · have h := h.1 e_5
        refine V_tableIn (off := 61) 73 dX11_button_12 r2 (fun z => eo (Or.inl z)) (fun z => eo (Or.inr z)) (by rw [e_5]; rfl) (by decide) ?_
        refine V_aload_0 dX11_button_73 ?_
        refine V_iload_1 dX11_button_74 ?_
        refine V_cVI1 (My := D_X11_heapOf) dX11_button_75 ml_R_189 ce_X11_heapOf ly_83 (by decide) cl_11 (by decide) (Nat.le_refl _) (Nat.le_refl _) (by decide) (sumL rfl) (w_X11_heapOf hx r1 h) (fun z8 hz8 h => ?_)
        exact V_ireturn dX11_button_78 rfl ⟨rfl, _, rfl, hz8, h⟩
      have h := h.2 e_5
      have b_6 : 6 ≤ v2 := lbs b_5 e_5
      by_cases e_6 : v2 = 6
      · have h := h.1 e_6
        refine V_tableIn (off := 67) 79 dX11_button_12 r2 (fun z => eo (Or.inl z)) (fun z => eo (Or.inr z)) (by rw [e_6]; rfl) (by decide) ?_
        refine V_aload_0 dX11_button_79 ?_
        refine V_gR dX11_button_80 fl_R_38 ly_83 (by decide) wr_83_25 ?_
        refine V_iload_1 dX11_button_83 ?_
        obtain ⟨g9, h⟩ := h
        refine V_aI dX11_button_84 ly_93 (by decide) (by decide) g9 ?_
        refine V_bipush dX11_button_85 (by decide) ?_
        refine V_icmp_lt 102 dX11_button_87 (by decide) (hx _ _) (rgL rfl) ⟨fun c10 => ?_, fun c10 => ?_⟩
        · have h := h.1 c10
          refine V_iconst dX11_button_102 ?_
          exact V_ireturn dX11_button_103 rfl ⟨rfl, _, rfl, (rgL rfl), h⟩
        · have h := h.2 c10
          refine V_aload_0 dX11_button_90 ?_
          refine V_gR dX11_button_91 fl_R_38 ly_83 (by decide) wr_83_25 ?_
          refine V_iload_1 dX11_button_94 ?_
          obtain ⟨g11, h⟩ := h
          refine V_aI dX11_button_95 ly_93 (by decide) (by decide) g11 ?_
          refine V_bipush dX11_button_96 (by decide) ?_
          refine V_isub dX11_button_98 ?_
          refine V_goto 103 dX11_button_99 (by decide) ?_
          obtain ⟨g12, h⟩ := h
          exact V_ireturn dX11_button_103 rfl ⟨rfl, _, rfl, g12, h⟩
      have h := h.2 e_6
      have b_7 : 7 ≤ v2 := lbs b_6 e_6
      by_cases e_7 : v2 = 7
      · have h := h.1 e_7
        refine V_tableIn (off := 92) 104 dX11_button_12 r2 (fun z => eo (Or.inl z)) (fun z => eo (Or.inr z)) (by rw [e_7]; rfl) (by decide) ?_
        refine V_aload_0 dX11_button_104 ?_
        refine V_iload_1 dX11_button_105 ?_
        refine V_cVI1 (My := D_X11_goes) dX11_button_106 ml_R_192 ce_X11_goes ly_83 (by decide) cl_11 (by decide) (Nat.le_refl _) (Nat.le_refl _) (by decide) (sumL rfl) (w_X11_goes hx r1 h) (fun z13 hz13 h => ?_)
        exact V_ireturn dX11_button_109 rfl ⟨rfl, _, rfl, hz13, h⟩
      have h := h.2 e_7
      have b_8 : 8 ≤ v2 := lbs b_7 e_7
      exact absurd b_8 (fun z => eo (Or.inr (Int.lt_of_lt_of_le (by decide) z)))
  · have h := h.2 c2
    refine V_ldc dX11_button_8 kc_R_205 ?_
    exact V_ireturn dX11_button_10 rfl ⟨rfl, _, rfl, (rgL rfl), h⟩
def M_X0_placeOfRule_2 (q : Int → Prop) (x : XM) : Nat → Int → Int → Prop
  | 0, _, _ => False
  | n + 1, v1, v2 =>
  M_X0_count x 2  (fun z1 => ((z1 ≤ v2 → q (-1)) ∧ (¬ (z1 ≤ v2) → (0 ≤ v2 ∧ v2 < 6) ∧ ((¬ (x 6 (v2.toNat)) = v1 → (Rg (v2 + 1)) ∧ (M_X0_placeOfRule_2 q x n) v1 (v2 + 1)) ∧ ((x 6 (v2.toNat)) = v1 → q v2)))))
def M_X0_placeOfRule (x : XM) (v1 : Int) (q : Int → Prop) : Prop :=
  ∃ m : Nat, M_X0_placeOfRule_2 q x m v1 0
set_option maxRecDepth 100000 in
theorem w_X0_placeOfRule_2 {Γ : GE} {q : Int → Prop} {x : XM} (hx : WX x) : ∀ (n : Nat) (v1 : Int) (v2 : Int) , Rg v1 → Rg v2 → M_X0_placeOfRule_2 q x n v1 v2 → V Γ 1 NF NF D_X0_placeOfRule (QI Γ x q) 2 [.ref (gB Γ + 3), vI v1, vI v2] [] NF (mk Γ x) := by
  intro n
  induction n with
  | zero =>
    intro v1 v2 r1 r2 h
    rw [M_X0_placeOfRule_2.eq_1] at h
    exact h.elim
  | succ n ih =>
    intro v1 v2 r1 r2 h
    rw [M_X0_placeOfRule_2.eq_2] at h
    refine V_iload_2 dX0_placeOfRule_2 ?_
    refine V_aload_0 dX0_placeOfRule_3 ?_
    refine V_iconst dX0_placeOfRule_4 ?_
    refine V_cVI1 (My := D_X0_count) dX0_placeOfRule_5 ml_Bench_29 ce_X0_count ly_3 (by decide) cl_0 (by decide) (Nat.le_refl _) (Nat.le_refl _) (by decide) (sumL rfl) (w_X0_count hx (rgL rfl) h) (fun z1 hz1 h => ?_)
    refine V_icmp_ge 32 dX0_placeOfRule_8 (by decide) r2 hz1 ⟨fun c2 => ?_, fun c2 => ?_⟩
    · have h := h.1 c2
      refine V_iconst dX0_placeOfRule_32 ?_
      exact V_ireturn dX0_placeOfRule_33 rfl ⟨rfl, _, rfl, (rgL rfl), h⟩
    · have h := h.2 c2
      refine V_aload_0 dX0_placeOfRule_11 ?_
      refine V_gR dX0_placeOfRule_12 fl_Bench_12 ly_3 (by decide) wr_3_0 ?_
      refine V_gR dX0_placeOfRule_15 fl_Bench_63 ly_4 (by decide) (r := 6) (clo_w1 (k := 4) rfl) ?_
      refine V_iload_2 dX0_placeOfRule_18 ?_
      obtain ⟨g3, h⟩ := h
      refine V_aI dX0_placeOfRule_19 ly_6 (by decide) (by decide) g3 ?_
      refine V_iload_1 dX0_placeOfRule_20 ?_
      refine V_icmp_ne 26 dX0_placeOfRule_21 (by decide) (hx _ _) r1 ⟨fun c4 => ?_, fun c4 => ?_⟩
      · have h := h.1 c4
        refine V_iinc_2 (a2 := uu) dX0_placeOfRule_26 rfl ?_
        refine V_goto 2 dX0_placeOfRule_29 (by decide) ?_
        obtain ⟨g5, h⟩ := h
        exact ih _ _ r1 g5 h
      · have h := h.2 c4
        refine V_iload_2 dX0_placeOfRule_24 ?_
        exact V_ireturn dX0_placeOfRule_25 rfl ⟨rfl, _, rfl, r2, h⟩
set_option maxRecDepth 100000 in
theorem w_X0_placeOfRule {Γ : GE} {x : XM} (hx : WX x) {v1 : Int} {q : Int → Prop} (r1 : Rg v1) (h : M_X0_placeOfRule x v1 q) : CV Γ 1 NF NF D_X0_placeOfRule [.ref (gB Γ + 3), vI v1] (mk Γ x) (QI Γ x q) := by
  refine CV.of rfl (cat_all rfl) (Nat.le_of_ble_eq_true rfl) ?_
  show V Γ 1 NF NF D_X0_placeOfRule (QI Γ x q) 0 [.ref (gB Γ + 3), vI v1, uu] [] NF (mk Γ x)
  unfold M_X0_placeOfRule at h
  refine V_iconst dX0_placeOfRule_0 ?_
  refine V_istore_2 dX0_placeOfRule_1 rfl rfl ?_
  obtain ⟨m9, h⟩ := h
  exact w_X0_placeOfRule_2 hx m9 _ _ r1 (rgL rfl) h
def M_X10_rule_35 (q : Int → Prop) (x : XM) (v1 : Int) (v2 : Int) : Prop :=
  ((¬ v2 = 4 → q (-1000000002)) ∧ (v2 = 4 → M_X0_placeOfRule x v1  (fun z5 => q z5)))
def M_X10_rule (x : XM) (v1 : Int) (v2 : Int) (q : Int → Prop) : Prop :=
  M_X10_isThere x 2 v1  (fun z1 => ((¬ z1 = 0 → ((v2 < 0 → M_X10_rule_35 q x v1 v2) ∧ (¬ (v2 < 0) → ((4 ≤ v2 → M_X10_rule_35 q x v1 v2) ∧ (¬ (4 ≤ v2) → M_X9_value (x 3 1) x 2 v1 v2  (fun z7 => q z7)))))) ∧ (z1 = 0 → q (-1000000001))))
set_option maxRecDepth 100000 in
theorem w_X10_rule_35 {Γ : GE} {q : Int → Prop} {x : XM} (hx : WX x) : ∀ (v1 : Int) (v2 : Int) , Rg v1 → Rg v2 → M_X10_rule_35 q x v1 v2 → V Γ 2 NF NF D_X10_rule (QI Γ x q) 35 [.ref (gB Γ + 0), vI v1, vI v2] [] NF (mk Γ x) := by
  intro v1 v2 r1 r2 h
  unfold M_X10_rule_35 at h
  refine V_iload_2 dX10_rule_35 ?_
  refine V_iconst dX10_rule_36 ?_
  refine V_icmp_ne 51 dX10_rule_37 (by decide) r2 (rgL rfl) ⟨fun c4 => ?_, fun c4 => ?_⟩
  · have h := h.1 c4
    refine V_ldc dX10_rule_51 kc_T_78 ?_
    exact V_ireturn dX10_rule_53 rfl ⟨rfl, _, rfl, (rgL rfl), h⟩
  · have h := h.2 c4
    refine V_aload_0 dX10_rule_40 ?_
    refine V_gR dX10_rule_41 fl_T_19 ly_0 (by decide) wr_0_1 ?_
    refine V_iload_1 dX10_rule_44 ?_
    refine V_cVI1 (My := D_X0_placeOfRule) dX10_rule_45 ml_T_178 ce_X0_placeOfRule ly_3 (by decide) cl_0 (by decide) (Nat.le_refl _) (Nat.le_refl _) (by decide) (sumL rfl) (w_X0_placeOfRule hx r1 h) (fun z5 hz5 h => ?_)
    refine V_goto 53 dX10_rule_48 (by decide) ?_
    exact V_ireturn dX10_rule_53 rfl ⟨rfl, _, rfl, hz5, h⟩
set_option maxRecDepth 100000 in
theorem w_X10_rule {Γ : GE} {x : XM} (hx : WX x) {v1 v2 : Int} {q : Int → Prop} (r1 : Rg v1) (r2 : Rg v2) (h : M_X10_rule x v1 v2 q) : CV Γ 2 NF NF D_X10_rule [.ref (gB Γ + 0), vI v1, vI v2] (mk Γ x) (QI Γ x q) := by
  refine CV.of rfl (cat_all rfl) (Nat.le_of_ble_eq_true rfl) ?_
  show V Γ 2 NF NF D_X10_rule (QI Γ x q) 0 [.ref (gB Γ + 0), vI v1, vI v2] [] NF (mk Γ x)
  unfold M_X10_rule at h
  refine V_aload_0 dX10_rule_0 ?_
  refine V_iconst dX10_rule_1 ?_
  refine V_iload_1 dX10_rule_2 ?_
  refine V_cVI2 (My := D_X10_isThere) dX10_rule_3 ml_T_149 ce_X10_isThere ly_0 (by decide) cl_10 (by decide) (Nat.le_refl _) (Nat.le_refl _) (by decide) (sumL rfl) (w_X10_isThere hx (rgL rfl) r1 h) (fun z1 hz1 h => ?_)
  refine V_if_ne 12 dX10_rule_6 (by decide) hz1 ⟨fun c2 => ?_, fun c2 => ?_⟩
  · have h := h.1 c2
    refine V_iload_2 dX10_rule_12 ?_
    refine V_if_lt 35 dX10_rule_13 (by decide) r2 ⟨fun c3 => ?_, fun c3 => ?_⟩
    · have h := h.1 c3
      exact w_X10_rule_35 hx _ _ r1 r2 h
    · have h := h.2 c3
      refine V_iload_2 dX10_rule_16 ?_
      refine V_iconst dX10_rule_17 ?_
      refine V_icmp_ge 35 dX10_rule_18 (by decide) r2 (rgL rfl) ⟨fun c6 => ?_, fun c6 => ?_⟩
      · have h := h.1 c6
        exact w_X10_rule_35 hx _ _ r1 r2 h
      · have h := h.2 c6
        refine V_aload_0 dX10_rule_21 ?_
        refine V_gR dX10_rule_22 fl_T_19 ly_0 (by decide) wr_0_1 ?_
        refine V_gR dX10_rule_25 fl_T_97 ly_3 (by decide) wr_3_1 ?_
        refine V_iconst dX10_rule_28 ?_
        refine V_iload_1 dX10_rule_29 ?_
        refine V_iload_2 dX10_rule_30 ?_
        refine V_cVI3 (My := D_X9_value) dX10_rule_31 ml_T_174 ce_X9_value (tid_f (x 3 1)).1 (by decide) cl_9 (tid_b0 (x 3 1)) (Nat.le_refl _) (Nat.le_refl _) (by decide) (sumL rfl) (w_X9_value hx (rgL rfl) r1 r2 h) (fun z7 hz7 h => ?_)
        exact V_ireturn dX10_rule_34 rfl ⟨rfl, _, rfl, hz7, h⟩
  · have h := h.2 c2
    refine V_ldc dX10_rule_9 kc_T_153 ?_
    exact V_ireturn dX10_rule_11 rfl ⟨rfl, _, rfl, (rgL rfl), h⟩
def M_X11_isRule (x : XM) (v1 : Int) (q : Int → Prop) : Prop :=
  (Rg ((x 83 5) - 1)) ∧ M_X11_in x v1 0 ((x 83 5) - 1)  (fun z2 => (z2 = 0 ∨ z2 = 1) ∧ q z2)
set_option maxRecDepth 100000 in
theorem w_X11_isRule {Γ : GE} {x : XM} (hx : WX x) {v1 : Int} {q : Int → Prop} (r1 : Rg v1) (h : M_X11_isRule x v1 q) : CV Γ 1 NF NF D_X11_isRule [.ref (gB Γ + 83), vI v1] (mk Γ x) (QI Γ x q) := by
  refine CV.of rfl (cat_all rfl) (Nat.le_of_ble_eq_true rfl) ?_
  show V Γ 1 NF NF D_X11_isRule (QI Γ x q) 0 [.ref (gB Γ + 83), vI v1] [] NF (mk Γ x)
  unfold M_X11_isRule at h
  refine V_iload_1 dX11_isRule_0 ?_
  refine V_iconst dX11_isRule_1 ?_
  refine V_aload_0 dX11_isRule_2 ?_
  refine V_gI dX11_isRule_3 fl_R_148 ly_83 (by decide) wn_83_5 ?_
  refine V_iconst dX11_isRule_6 ?_
  refine V_isub dX11_isRule_7 ?_
  obtain ⟨g1, h⟩ := h
  refine V_cSI3 (My := D_X11_in) dX11_isRule_8 ml_R_73 ce_X11_in (Nat.le_refl _) (Nat.le_refl _) (by decide) (sumL rfl) (w_X11_in hx r1 (rgL rfl) g1 h) (fun z2 hz2 h => ?_)
  obtain ⟨g3, h⟩ := h
  exact V_zreturn dX11_isRule_11 rfl g3 ⟨rfl, _, rfl, hz2, h⟩
def M_X11_placeOf_2 (q : Int → Prop) (x : XM) : Nat → Int → Int → Prop
  | 0, _, _ => False
  | n + 1, v1, v2 =>
  (0 ≤ (24 + v2) ∧ (24 + v2) < 31) ∧ (((x 93 (((24 + v2)).toNat)) = v1 → q v2) ∧ (¬ (x 93 (((24 + v2)).toNat)) = v1 → (Rg (v2 + 1)) ∧ (M_X11_placeOf_2 q x n) v1 (v2 + 1)))
def M_X11_placeOf (x : XM) (v1 : Int) (q : Int → Prop) : Prop :=
  ∃ m : Nat, M_X11_placeOf_2 q x m v1 0
set_option maxRecDepth 100000 in
theorem w_X11_placeOf_2 {Γ : GE} {q : Int → Prop} {x : XM} (hx : WX x) : ∀ (n : Nat) (v1 : Int) (v2 : Int) , Rg v1 → Rg v2 → M_X11_placeOf_2 q x n v1 v2 → V Γ 0 NF NF D_X11_placeOf (QI Γ x q) 2 [.ref (gB Γ + 83), vI v1, vI v2] [] NF (mk Γ x) := by
  intro n
  induction n with
  | zero =>
    intro v1 v2 r1 r2 h
    rw [M_X11_placeOf_2.eq_1] at h
    exact h.elim
  | succ n ih =>
    intro v1 v2 r1 r2 h
    rw [M_X11_placeOf_2.eq_2] at h
    refine V_aload_0 dX11_placeOf_2 ?_
    refine V_gR dX11_placeOf_3 fl_R_38 ly_83 (by decide) wr_83_25 ?_
    refine V_bipush dX11_placeOf_6 (by decide) ?_
    refine V_iload_2 dX11_placeOf_8 ?_
    refine V_iadd dX11_placeOf_9 ?_
    obtain ⟨g1, h⟩ := h
    refine V_aI dX11_placeOf_10 ly_93 (by decide) (by decide) g1 ?_
    refine V_iload_1 dX11_placeOf_11 ?_
    refine V_icmp_eq 21 dX11_placeOf_12 (by decide) (hx _ _) r1 ⟨fun c2 => ?_, fun c2 => ?_⟩
    · have h := h.1 c2
      refine V_iload_2 dX11_placeOf_21 ?_
      exact V_ireturn dX11_placeOf_22 rfl ⟨rfl, _, rfl, r2, h⟩
    · have h := h.2 c2
      refine V_iinc_2 (a2 := uu) dX11_placeOf_15 rfl ?_
      refine V_goto 2 dX11_placeOf_18 (by decide) ?_
      obtain ⟨g3, h⟩ := h
      exact ih _ _ r1 g3 h
set_option maxRecDepth 100000 in
theorem w_X11_placeOf {Γ : GE} {x : XM} (hx : WX x) {v1 : Int} {q : Int → Prop} (r1 : Rg v1) (h : M_X11_placeOf x v1 q) : CV Γ 0 NF NF D_X11_placeOf [.ref (gB Γ + 83), vI v1] (mk Γ x) (QI Γ x q) := by
  refine CV.of rfl (cat_all rfl) (Nat.le_of_ble_eq_true rfl) ?_
  show V Γ 0 NF NF D_X11_placeOf (QI Γ x q) 0 [.ref (gB Γ + 83), vI v1, uu] [] NF (mk Γ x)
  unfold M_X11_placeOf at h
  refine V_iconst dX11_placeOf_0 ?_
  refine V_istore_2 dX11_placeOf_1 rfl rfl ?_
  obtain ⟨m9, h⟩ := h
  exact w_X11_placeOf_2 hx m9 _ _ r1 (rgL rfl) h
def M_X11_rule (x : XM) (v1 : Int) (v2 : Int) (q : Int → Prop) : Prop :=
  M_X11_isRule x v1  (fun z1 => ((¬ z1 = 0 → M_X11_in x v2 0 4  (fun z3 => ((¬ z3 = 0 → ((¬ v2 = 4 → (0 ≤ ((4 * v1) + v2) ∧ ((4 * v1) + v2) < 24) ∧ q (x 86 ((((4 * v1) + v2)).toNat))) ∧ (v2 = 4 → M_X11_placeOf x v1  (fun z7 => q z7)))) ∧ (z3 = 0 → q (-1000000002))))) ∧ (z1 = 0 → q (-1000000001))))
set_option maxRecDepth 100000 in
theorem w_X11_rule {Γ : GE} {x : XM} (hx : WX x) {v1 v2 : Int} {q : Int → Prop} (r1 : Rg v1) (r2 : Rg v2) (h : M_X11_rule x v1 v2 q) : CV Γ 2 NF NF D_X11_rule [.ref (gB Γ + 83), vI v1, vI v2] (mk Γ x) (QI Γ x q) := by
  refine CV.of rfl (cat_all rfl) (Nat.le_of_ble_eq_true rfl) ?_
  show V Γ 2 NF NF D_X11_rule (QI Γ x q) 0 [.ref (gB Γ + 83), vI v1, vI v2] [] NF (mk Γ x)
  unfold M_X11_rule at h
  refine V_aload_0 dX11_rule_0 ?_
  refine V_iload_1 dX11_rule_1 ?_
  refine V_cVI1 (My := D_X11_isRule) dX11_rule_2 ml_R_206 ce_X11_isRule ly_83 (by decide) cl_11 (by decide) (Nat.le_refl _) (Nat.le_refl _) (by decide) (sumL rfl) (w_X11_isRule hx r1 h) (fun z1 hz1 h => ?_)
  refine V_if_ne 11 dX11_rule_5 (by decide) hz1 ⟨fun c2 => ?_, fun c2 => ?_⟩
  · have h := h.1 c2
    refine V_iload_2 dX11_rule_11 ?_
    refine V_iconst dX11_rule_12 ?_
    refine V_iconst dX11_rule_13 ?_
    refine V_cSI3 (My := D_X11_in) dX11_rule_14 ml_R_73 ce_X11_in (Nat.le_refl _) (Nat.le_refl _) (by decide) (sumL rfl) (w_X11_in hx r2 (rgL rfl) (rgL rfl) h) (fun z3 hz3 h => ?_)
    refine V_if_ne 25 dX11_rule_17 (by decide) hz3 ⟨fun c4 => ?_, fun c4 => ?_⟩
    · have h := h.1 c4
      refine V_iload_2 dX11_rule_25 ?_
      refine V_iconst dX11_rule_26 ?_
      refine V_icmp_ne 38 dX11_rule_27 (by decide) r2 (rgL rfl) ⟨fun c5 => ?_, fun c5 => ?_⟩
      · have h := h.1 c5
        refine V_aload_0 dX11_rule_38 ?_
        refine V_gR dX11_rule_39 fl_R_17 ly_83 (by decide) wr_83_6 ?_
        refine V_iconst dX11_rule_42 ?_
        refine V_iload_1 dX11_rule_43 ?_
        refine V_imul dX11_rule_44 ?_
        refine V_iload_2 dX11_rule_45 ?_
        refine V_iadd dX11_rule_46 ?_
        obtain ⟨g6, h⟩ := h
        refine V_aI dX11_rule_47 ly_86 (by decide) (by decide) g6 ?_
        exact V_ireturn dX11_rule_48 rfl ⟨rfl, _, rfl, (hx _ _), h⟩
      · have h := h.2 c5
        refine V_aload_0 dX11_rule_30 ?_
        refine V_iload_1 dX11_rule_31 ?_
        refine V_cVI1 (My := D_X11_placeOf) dX11_rule_32 ml_R_209 ce_X11_placeOf ly_83 (by decide) cl_11 (by decide) (Nat.le_refl _) (Nat.le_refl _) (by decide) (sumL rfl) (w_X11_placeOf hx r1 h) (fun z7 hz7 h => ?_)
        refine V_goto 48 dX11_rule_35 (by decide) ?_
        exact V_ireturn dX11_rule_48 rfl ⟨rfl, _, rfl, hz7, h⟩
    · have h := h.2 c4
      refine V_ldc dX11_rule_20 kc_R_77 ?_
      refine V_goto 48 dX11_rule_22 (by decide) ?_
      exact V_ireturn dX11_rule_48 rfl ⟨rfl, _, rfl, (rgL rfl), h⟩
  · have h := h.2 c2
    refine V_ldc dX11_rule_8 kc_R_205 ?_
    exact V_ireturn dX11_rule_10 rfl ⟨rfl, _, rfl, (rgL rfl), h⟩
def M_X10_cause (x : XM) (v1 : Int) (v2 : Int) (q : Int → Prop) : Prop :=
  M_X10_isThere x 3 v1  (fun z1 => ((¬ z1 = 0 → ((v2 < 0 → q (-1000000002)) ∧ (¬ (v2 < 0) → ((4 ≤ v2 → q (-1000000002)) ∧ (¬ (4 ≤ v2) → M_X9_value (x 3 1) x 3 v1 v2  (fun z5 => q z5)))))) ∧ (z1 = 0 → q (-1000000001))))
set_option maxRecDepth 100000 in
theorem w_X10_cause {Γ : GE} {x : XM} (hx : WX x) {v1 v2 : Int} {q : Int → Prop} (r1 : Rg v1) (r2 : Rg v2) (h : M_X10_cause x v1 v2 q) : CV Γ 2 NF NF D_X10_cause [.ref (gB Γ + 0), vI v1, vI v2] (mk Γ x) (QI Γ x q) := by
  refine CV.of rfl (cat_all rfl) (Nat.le_of_ble_eq_true rfl) ?_
  show V Γ 2 NF NF D_X10_cause (QI Γ x q) 0 [.ref (gB Γ + 0), vI v1, vI v2] [] NF (mk Γ x)
  unfold M_X10_cause at h
  refine V_aload_0 dX10_cause_0 ?_
  refine V_iconst dX10_cause_1 ?_
  refine V_iload_1 dX10_cause_2 ?_
  refine V_cVI2 (My := D_X10_isThere) dX10_cause_3 ml_T_149 ce_X10_isThere ly_0 (by decide) cl_10 (by decide) (Nat.le_refl _) (Nat.le_refl _) (by decide) (sumL rfl) (w_X10_isThere hx (rgL rfl) r1 h) (fun z1 hz1 h => ?_)
  refine V_if_ne 12 dX10_cause_6 (by decide) hz1 ⟨fun c2 => ?_, fun c2 => ?_⟩
  · have h := h.1 c2
    refine V_iload_2 dX10_cause_12 ?_
    refine V_if_lt 37 dX10_cause_13 (by decide) r2 ⟨fun c3 => ?_, fun c3 => ?_⟩
    · have h := h.1 c3
      refine V_ldc dX10_cause_37 kc_T_78 ?_
      exact V_ireturn dX10_cause_39 rfl ⟨rfl, _, rfl, (rgL rfl), h⟩
    · have h := h.2 c3
      refine V_iload_2 dX10_cause_16 ?_
      refine V_iconst dX10_cause_17 ?_
      refine V_icmp_ge 37 dX10_cause_18 (by decide) r2 (rgL rfl) ⟨fun c4 => ?_, fun c4 => ?_⟩
      · have h := h.1 c4
        refine V_ldc dX10_cause_37 kc_T_78 ?_
        exact V_ireturn dX10_cause_39 rfl ⟨rfl, _, rfl, (rgL rfl), h⟩
      · have h := h.2 c4
        refine V_aload_0 dX10_cause_21 ?_
        refine V_gR dX10_cause_22 fl_T_19 ly_0 (by decide) wr_0_1 ?_
        refine V_gR dX10_cause_25 fl_T_97 ly_3 (by decide) wr_3_1 ?_
        refine V_iconst dX10_cause_28 ?_
        refine V_iload_1 dX10_cause_29 ?_
        refine V_iload_2 dX10_cause_30 ?_
        refine V_cVI3 (My := D_X9_value) dX10_cause_31 ml_T_174 ce_X9_value (tid_f (x 3 1)).1 (by decide) cl_9 (tid_b0 (x 3 1)) (Nat.le_refl _) (Nat.le_refl _) (by decide) (sumL rfl) (w_X9_value hx (rgL rfl) r1 r2 h) (fun z5 hz5 h => ?_)
        refine V_goto 39 dX10_cause_34 (by decide) ?_
        exact V_ireturn dX10_cause_39 rfl ⟨rfl, _, rfl, hz5, h⟩
  · have h := h.2 c2
    refine V_ldc dX10_cause_9 kc_T_153 ?_
    exact V_ireturn dX10_cause_11 rfl ⟨rfl, _, rfl, (rgL rfl), h⟩
def M_X11_isCause (x : XM) (v1 : Int) (q : Int → Prop) : Prop :=
  (Rg ((x 83 7) - 1)) ∧ M_X11_in x v1 0 ((x 83 7) - 1)  (fun z2 => (z2 = 0 ∨ z2 = 1) ∧ q z2)
set_option maxRecDepth 100000 in
theorem w_X11_isCause {Γ : GE} {x : XM} (hx : WX x) {v1 : Int} {q : Int → Prop} (r1 : Rg v1) (h : M_X11_isCause x v1 q) : CV Γ 1 NF NF D_X11_isCause [.ref (gB Γ + 83), vI v1] (mk Γ x) (QI Γ x q) := by
  refine CV.of rfl (cat_all rfl) (Nat.le_of_ble_eq_true rfl) ?_
  show V Γ 1 NF NF D_X11_isCause (QI Γ x q) 0 [.ref (gB Γ + 83), vI v1] [] NF (mk Γ x)
  unfold M_X11_isCause at h
  refine V_iload_1 dX11_isCause_0 ?_
  refine V_iconst dX11_isCause_1 ?_
  refine V_aload_0 dX11_isCause_2 ?_
  refine V_gI dX11_isCause_3 fl_R_151 ly_83 (by decide) wn_83_7 ?_
  refine V_iconst dX11_isCause_6 ?_
  refine V_isub dX11_isCause_7 ?_
  obtain ⟨g1, h⟩ := h
  refine V_cSI3 (My := D_X11_in) dX11_isCause_8 ml_R_73 ce_X11_in (Nat.le_refl _) (Nat.le_refl _) (by decide) (sumL rfl) (w_X11_in hx r1 (rgL rfl) g1 h) (fun z2 hz2 h => ?_)
  obtain ⟨g3, h⟩ := h
  exact V_zreturn dX11_isCause_11 rfl g3 ⟨rfl, _, rfl, hz2, h⟩
def M_X11_cause (x : XM) (v1 : Int) (v2 : Int) (q : Int → Prop) : Prop :=
  M_X11_isCause x v1  (fun z1 => ((¬ z1 = 0 → M_X11_in x v2 0 3  (fun z3 => ((z3 = 0 → q (-1000000002)) ∧ (¬ z3 = 0 → (0 ≤ ((4 * v1) + v2) ∧ ((4 * v1) + v2) < 20) ∧ q (x 87 ((((4 * v1) + v2)).toNat)))))) ∧ (z1 = 0 → q (-1000000001))))
set_option maxRecDepth 100000 in
theorem w_X11_cause {Γ : GE} {x : XM} (hx : WX x) {v1 v2 : Int} {q : Int → Prop} (r1 : Rg v1) (r2 : Rg v2) (h : M_X11_cause x v1 v2 q) : CV Γ 2 NF NF D_X11_cause [.ref (gB Γ + 83), vI v1, vI v2] (mk Γ x) (QI Γ x q) := by
  refine CV.of rfl (cat_all rfl) (Nat.le_of_ble_eq_true rfl) ?_
  show V Γ 2 NF NF D_X11_cause (QI Γ x q) 0 [.ref (gB Γ + 83), vI v1, vI v2] [] NF (mk Γ x)
  unfold M_X11_cause at h
  refine V_aload_0 dX11_cause_0 ?_
  refine V_iload_1 dX11_cause_1 ?_
  refine V_cVI1 (My := D_X11_isCause) dX11_cause_2 ml_R_212 ce_X11_isCause ly_83 (by decide) cl_11 (by decide) (Nat.le_refl _) (Nat.le_refl _) (by decide) (sumL rfl) (w_X11_isCause hx r1 h) (fun z1 hz1 h => ?_)
  refine V_if_ne 11 dX11_cause_5 (by decide) hz1 ⟨fun c2 => ?_, fun c2 => ?_⟩
  · have h := h.1 c2
    refine V_iload_2 dX11_cause_11 ?_
    refine V_iconst dX11_cause_12 ?_
    refine V_iconst dX11_cause_13 ?_
    refine V_cSI3 (My := D_X11_in) dX11_cause_14 ml_R_73 ce_X11_in (Nat.le_refl _) (Nat.le_refl _) (by decide) (sumL rfl) (w_X11_in hx r2 (rgL rfl) (rgL rfl) h) (fun z3 hz3 h => ?_)
    refine V_if_eq 33 dX11_cause_17 (by decide) hz3 ⟨fun c4 => ?_, fun c4 => ?_⟩
    · have h := h.1 c4
      refine V_ldc dX11_cause_33 kc_R_77 ?_
      exact V_ireturn dX11_cause_35 rfl ⟨rfl, _, rfl, (rgL rfl), h⟩
    · have h := h.2 c4
      refine V_aload_0 dX11_cause_20 ?_
      refine V_gR dX11_cause_21 fl_R_20 ly_83 (by decide) wr_83_8 ?_
      refine V_iconst dX11_cause_24 ?_
      refine V_iload_1 dX11_cause_25 ?_
      refine V_imul dX11_cause_26 ?_
      refine V_iload_2 dX11_cause_27 ?_
      refine V_iadd dX11_cause_28 ?_
      obtain ⟨g5, h⟩ := h
      refine V_aI dX11_cause_29 ly_87 (by decide) (by decide) g5 ?_
      refine V_goto 35 dX11_cause_30 (by decide) ?_
      exact V_ireturn dX11_cause_35 rfl ⟨rfl, _, rfl, (hx _ _), h⟩
  · have h := h.2 c2
    refine V_ldc dX11_cause_8 kc_R_205 ?_
    exact V_ireturn dX11_cause_10 rfl ⟨rfl, _, rfl, (rgL rfl), h⟩
def M_X0_weight (x : XM) (v1 : Int) (q : Int → Prop) : Prop :=
  M_X9_value (x 3 1) x 4 v1 0  (fun z1 => q z1)
set_option maxRecDepth 100000 in
theorem w_X0_weight {Γ : GE} {x : XM} (hx : WX x) {v1 : Int} {q : Int → Prop} (r1 : Rg v1) (h : M_X0_weight x v1 q) : CV Γ 1 NF NF D_X0_weight [.ref (gB Γ + 3), vI v1] (mk Γ x) (QI Γ x q) := by
  refine CV.of rfl (cat_all rfl) (Nat.le_of_ble_eq_true rfl) ?_
  show V Γ 1 NF NF D_X0_weight (QI Γ x q) 0 [.ref (gB Γ + 3), vI v1] [] NF (mk Γ x)
  unfold M_X0_weight at h
  refine V_aload_0 dX0_weight_0 ?_
  refine V_gR dX0_weight_1 fl_Bench_21 ly_3 (by decide) wr_3_1 ?_
  refine V_iconst dX0_weight_4 ?_
  refine V_iload_1 dX0_weight_5 ?_
  refine V_iconst dX0_weight_6 ?_
  refine V_cVI3 (My := D_X9_value) dX0_weight_7 ml_Bench_32 ce_X9_value (tid_f (x 3 1)).1 (by decide) cl_9 (tid_b0 (x 3 1)) (Nat.le_refl _) (Nat.le_refl _) (by decide) (sumL rfl) (w_X9_value hx (rgL rfl) r1 (rgL rfl) h) (fun z1 hz1 h => ?_)
  exact V_ireturn dX0_weight_10 rfl ⟨rfl, _, rfl, hz1, h⟩
def M_X0_sewnTo (x : XM) (v1 : Int) (q : Int → Prop) : Prop :=
  (Rg (8 + v1)) ∧ M_X0_at x (8 + v1)  (fun z2 => ((¬ z2 = 0 → M_J6_numberOfTrailingZeros_0f7a4 x z2  (fun z4 => q z4)) ∧ (z2 = 0 → q (-1))))
set_option maxRecDepth 100000 in
theorem w_X0_sewnTo {Γ : GE} {x : XM} (hx : WX x) {v1 : Int} {q : Int → Prop} (r1 : Rg v1) (h : M_X0_sewnTo x v1 q) : CV Γ 3 NF NF D_X0_sewnTo [.ref (gB Γ + 3), vI v1] (mk Γ x) (QI Γ x q) := by
  refine CV.of rfl (cat_all rfl) (Nat.le_of_ble_eq_true rfl) ?_
  show V Γ 3 NF NF D_X0_sewnTo (QI Γ x q) 0 [.ref (gB Γ + 3), vI v1, uu] [] NF (mk Γ x)
  unfold M_X0_sewnTo at h
  refine V_aload_0 dX0_sewnTo_0 ?_
  refine V_bipush dX0_sewnTo_1 (by decide) ?_
  refine V_iload_1 dX0_sewnTo_3 ?_
  refine V_iadd dX0_sewnTo_4 ?_
  obtain ⟨g1, h⟩ := h
  refine V_cVI1 (My := D_X0_at) dX0_sewnTo_5 ml_Bench_55 ce_X0_at ly_3 (by decide) cl_0 (by decide) (Nat.le_refl _) (Nat.le_refl _) (by decide) (sumL rfl) (w_X0_at hx g1 h) (fun z2 hz2 h => ?_)
  refine V_istore_2 dX0_sewnTo_8 rfl rfl ?_
  refine V_iload_2 dX0_sewnTo_9 ?_
  refine V_if_ne 17 dX0_sewnTo_10 (by decide) hz2 ⟨fun c3 => ?_, fun c3 => ?_⟩
  · have h := h.1 c3
    refine V_iload_2 dX0_sewnTo_17 ?_
    refine V_cSI1 (My := D_J6_numberOfTrailingZeros_0f7a4) dX0_sewnTo_18 ml_Bench_58 ce_J6_numberOfTrailingZeros_0f7a4 (Nat.le_refl _) (Nat.le_refl _) (by decide) (sumL rfl) (w_J6_numberOfTrailingZeros_0f7a4 hx hz2 h) (fun z4 hz4 h => ?_)
    exact V_ireturn dX0_sewnTo_21 rfl ⟨rfl, _, rfl, hz4, h⟩
  · have h := h.2 c3
    refine V_iconst dX0_sewnTo_13 ?_
    refine V_goto 21 dX0_sewnTo_14 (by decide) ?_
    exact V_ireturn dX0_sewnTo_21 rfl ⟨rfl, _, rfl, (rgL rfl), h⟩
def M_X10_need (x : XM) (v1 : Int) (v2 : Int) (q : Int → Prop) : Prop :=
  M_X10_isThere x 4 v1  (fun z1 => ((¬ z1 = 0 → ((v2 = 0 → M_X0_weight x v1  (fun z3 => q z3)) ∧ (¬ v2 = 0 → ((v2 = 1 → M_X0_sewnTo x v1  (fun z4 => q z4)) ∧ (¬ v2 = 1 → q (-1000000002)))))) ∧ (z1 = 0 → q (-1000000001))))
set_option maxRecDepth 100000 in
theorem w_X10_need {Γ : GE} {x : XM} (hx : WX x) {v1 v2 : Int} {q : Int → Prop} (r1 : Rg v1) (r2 : Rg v2) (h : M_X10_need x v1 v2 q) : CV Γ 4 NF NF D_X10_need [.ref (gB Γ + 0), vI v1, vI v2] (mk Γ x) (QI Γ x q) := by
  refine CV.of rfl (cat_all rfl) (Nat.le_of_ble_eq_true rfl) ?_
  show V Γ 4 NF NF D_X10_need (QI Γ x q) 0 [.ref (gB Γ + 0), vI v1, vI v2] [] NF (mk Γ x)
  unfold M_X10_need at h
  refine V_aload_0 dX10_need_0 ?_
  refine V_iconst dX10_need_1 ?_
  refine V_iload_1 dX10_need_2 ?_
  refine V_cVI2 (My := D_X10_isThere) dX10_need_3 ml_T_149 ce_X10_isThere ly_0 (by decide) cl_10 (by decide) (Nat.le_refl _) (Nat.le_refl _) (by decide) (sumL rfl) (w_X10_isThere hx (rgL rfl) r1 h) (fun z1 hz1 h => ?_)
  refine V_if_ne 12 dX10_need_6 (by decide) hz1 ⟨fun c2 => ?_, fun c2 => ?_⟩
  · have h := h.1 c2
    refine V_iload_2 dX10_need_12 ?_
    by_cases e_0 : v2 = 0
    · have h := h.1 e_0
      refine V_lookup (off := 27) 40 dX10_need_13 (by decide) r2 (by rw [e_0]; decide) (by decide) ?_
      refine V_aload_0 dX10_need_40 ?_
      refine V_gR dX10_need_41 fl_T_19 ly_0 (by decide) wr_0_1 ?_
      refine V_iload_1 dX10_need_44 ?_
      refine V_cVI1 (My := D_X0_weight) dX10_need_45 ml_T_181 ce_X0_weight ly_3 (by decide) cl_0 (by decide) (Nat.le_refl _) (Nat.le_refl _) (by decide) (sumL rfl) (w_X0_weight hx r1 h) (fun z3 hz3 h => ?_)
      exact V_ireturn dX10_need_48 rfl ⟨rfl, _, rfl, hz3, h⟩
    · have h := h.2 e_0
      by_cases e_1 : v2 = 1
      · have h := h.1 e_1
        refine V_lookup (off := 36) 49 dX10_need_13 (by decide) r2 (by rw [e_1]; decide) (by decide) ?_
        refine V_aload_0 dX10_need_49 ?_
        refine V_gR dX10_need_50 fl_T_19 ly_0 (by decide) wr_0_1 ?_
        refine V_iload_1 dX10_need_53 ?_
        refine V_cVI1 (My := D_X0_sewnTo) dX10_need_54 ml_T_184 ce_X0_sewnTo ly_3 (by decide) cl_0 (by decide) (Nat.le_refl _) (Nat.le_refl _) (by decide) (sumL rfl) (w_X0_sewnTo hx r1 h) (fun z4 hz4 h => ?_)
        exact V_ireturn dX10_need_57 rfl ⟨rfl, _, rfl, hz4, h⟩
      · have h := h.2 e_1
        refine V_lookup (off := 45) 58 dX10_need_13 (by decide) r2 (show Op.lookupswitch.offset [(0, 27), (1, 36)] 45 v2 = 45 by rw [Op.lookupswitch.offset_cons, if_neg (fun q => e_0 q.symm), Op.lookupswitch.offset_cons, if_neg (fun q => e_1 q.symm)]; rfl) (by decide) ?_
        refine V_ldc dX10_need_58 kc_T_78 ?_
        exact V_ireturn dX10_need_60 rfl ⟨rfl, _, rfl, (rgL rfl), h⟩
  · have h := h.2 c2
    refine V_ldc dX10_need_9 kc_T_153 ?_
    exact V_ireturn dX10_need_11 rfl ⟨rfl, _, rfl, (rgL rfl), h⟩
def M_X11_isNeed (x : XM) (v1 : Int) (q : Int → Prop) : Prop :=
  (Rg ((x 83 9) - 1)) ∧ M_X11_in x v1 0 ((x 83 9) - 1)  (fun z2 => (z2 = 0 ∨ z2 = 1) ∧ q z2)
set_option maxRecDepth 100000 in
theorem w_X11_isNeed {Γ : GE} {x : XM} (hx : WX x) {v1 : Int} {q : Int → Prop} (r1 : Rg v1) (h : M_X11_isNeed x v1 q) : CV Γ 1 NF NF D_X11_isNeed [.ref (gB Γ + 83), vI v1] (mk Γ x) (QI Γ x q) := by
  refine CV.of rfl (cat_all rfl) (Nat.le_of_ble_eq_true rfl) ?_
  show V Γ 1 NF NF D_X11_isNeed (QI Γ x q) 0 [.ref (gB Γ + 83), vI v1] [] NF (mk Γ x)
  unfold M_X11_isNeed at h
  refine V_iload_1 dX11_isNeed_0 ?_
  refine V_iconst dX11_isNeed_1 ?_
  refine V_aload_0 dX11_isNeed_2 ?_
  refine V_gI dX11_isNeed_3 fl_R_154 ly_83 (by decide) wn_83_9 ?_
  refine V_iconst dX11_isNeed_6 ?_
  refine V_isub dX11_isNeed_7 ?_
  obtain ⟨g1, h⟩ := h
  refine V_cSI3 (My := D_X11_in) dX11_isNeed_8 ml_R_73 ce_X11_in (Nat.le_refl _) (Nat.le_refl _) (by decide) (sumL rfl) (w_X11_in hx r1 (rgL rfl) g1 h) (fun z2 hz2 h => ?_)
  obtain ⟨g3, h⟩ := h
  exact V_zreturn dX11_isNeed_11 rfl g3 ⟨rfl, _, rfl, hz2, h⟩
def M_X11_sewnTo_4 (q : Int → Prop) (x : XM) : Nat → Int → Int → Int → Prop
  | 0, _, _, _ => False
  | n + 1, v1, v2, v3 =>
  (((x 83 3) ≤ v3 → q v2) ∧ (¬ ((x 83 3) ≤ v3) → (0 ≤ v3 ∧ v3 < 31) ∧ (Rg (8 + v1)) ∧ ((¬ (x 93 (v3.toNat)) = (8 + v1) → (Rg (v3 + 1)) ∧ (M_X11_sewnTo_4 q x n) v1 v2 (v3 + 1)) ∧ ((x 93 (v3.toNat)) = (8 + v1) → (Rg (v3 + 1)) ∧ (M_X11_sewnTo_4 q x n) v1 v3 (v3 + 1)))))
def M_X11_sewnTo (x : XM) (v1 : Int) (q : Int → Prop) : Prop :=
  ∃ m : Nat, M_X11_sewnTo_4 q x m v1 (-1) 0
set_option maxRecDepth 100000 in
theorem w_X11_sewnTo_4 {Γ : GE} {q : Int → Prop} {x : XM} (hx : WX x) : ∀ (n : Nat) (v1 : Int) (v2 : Int) (v3 : Int) , Rg v1 → Rg v2 → Rg v3 → M_X11_sewnTo_4 q x n v1 v2 v3 → V Γ 0 NF NF D_X11_sewnTo (QI Γ x q) 4 [.ref (gB Γ + 83), vI v1, vI v2, vI v3] [] NF (mk Γ x) := by
  intro n
  induction n with
  | zero =>
    intro v1 v2 v3 r1 r2 r3 h
    rw [M_X11_sewnTo_4.eq_1] at h
    exact h.elim
  | succ n ih =>
    intro v1 v2 v3 r1 r2 r3 h
    rw [M_X11_sewnTo_4.eq_2] at h
    refine V_iload_3 dX11_sewnTo_4 ?_
    refine V_aload_0 dX11_sewnTo_5 ?_
    refine V_gI dX11_sewnTo_6 fl_R_145 ly_83 (by decide) wn_83_3 ?_
    refine V_icmp_ge 37 dX11_sewnTo_9 (by decide) r3 (hx _ _) ⟨fun c1 => ?_, fun c1 => ?_⟩
    · have h := h.1 c1
      refine V_iload_2 dX11_sewnTo_37 ?_
      exact V_ireturn dX11_sewnTo_38 rfl ⟨rfl, _, rfl, r2, h⟩
    · have h := h.2 c1
      refine V_aload_0 dX11_sewnTo_12 ?_
      refine V_gR dX11_sewnTo_13 fl_R_38 ly_83 (by decide) wr_83_25 ?_
      refine V_iload_3 dX11_sewnTo_16 ?_
      obtain ⟨g2, h⟩ := h
      refine V_aI dX11_sewnTo_17 ly_93 (by decide) (by decide) g2 ?_
      refine V_bipush dX11_sewnTo_18 (by decide) ?_
      refine V_iload_1 dX11_sewnTo_20 ?_
      refine V_iadd dX11_sewnTo_21 ?_
      obtain ⟨g3, h⟩ := h
      refine V_icmp_ne 29 dX11_sewnTo_22 (by decide) (hx _ _) g3 ⟨fun c4 => ?_, fun c4 => ?_⟩
      · have h := h.1 c4
        refine V_iload_2 dX11_sewnTo_29 ?_
        refine V_istore_2 dX11_sewnTo_30 rfl rfl ?_
        refine V_iinc_3 (a3 := uu) dX11_sewnTo_31 rfl ?_
        refine V_goto 4 dX11_sewnTo_34 (by decide) ?_
        obtain ⟨g5, h⟩ := h
        exact ih _ _ _ r1 r2 g5 h
      · have h := h.2 c4
        refine V_iload_3 dX11_sewnTo_25 ?_
        refine V_goto 30 dX11_sewnTo_26 (by decide) ?_
        refine V_istore_2 dX11_sewnTo_30 rfl rfl ?_
        refine V_iinc_3 (a3 := uu) dX11_sewnTo_31 rfl ?_
        refine V_goto 4 dX11_sewnTo_34 (by decide) ?_
        obtain ⟨g6, h⟩ := h
        exact ih _ _ _ r1 r3 g6 h
set_option maxRecDepth 100000 in
theorem w_X11_sewnTo {Γ : GE} {x : XM} (hx : WX x) {v1 : Int} {q : Int → Prop} (r1 : Rg v1) (h : M_X11_sewnTo x v1 q) : CV Γ 0 NF NF D_X11_sewnTo [.ref (gB Γ + 83), vI v1] (mk Γ x) (QI Γ x q) := by
  refine CV.of rfl (cat_all rfl) (Nat.le_of_ble_eq_true rfl) ?_
  show V Γ 0 NF NF D_X11_sewnTo (QI Γ x q) 0 [.ref (gB Γ + 83), vI v1, uu, uu] [] NF (mk Γ x)
  unfold M_X11_sewnTo at h
  refine V_iconst dX11_sewnTo_0 ?_
  refine V_istore_2 dX11_sewnTo_1 rfl rfl ?_
  refine V_iconst dX11_sewnTo_2 ?_
  refine V_istore_3 dX11_sewnTo_3 rfl rfl ?_
  obtain ⟨m9, h⟩ := h
  exact w_X11_sewnTo_4 hx m9 _ _ _ r1 (rgL rfl) (rgL rfl) h
def M_X11_need (x : XM) (v1 : Int) (v2 : Int) (q : Int → Prop) : Prop :=
  M_X11_isNeed x v1  (fun z1 => ((¬ z1 = 0 → M_X11_in x v2 0 1  (fun z3 => ((¬ z3 = 0 → ((¬ v2 = 0 → M_X11_sewnTo x v1  (fun z6 => q z6)) ∧ (v2 = 0 → (0 ≤ v1 ∧ v1 < 5) ∧ q (x 88 (v1.toNat))))) ∧ (z3 = 0 → q (-1000000002))))) ∧ (z1 = 0 → q (-1000000001))))
set_option maxRecDepth 100000 in
theorem w_X11_need {Γ : GE} {x : XM} (hx : WX x) {v1 v2 : Int} {q : Int → Prop} (r1 : Rg v1) (r2 : Rg v2) (h : M_X11_need x v1 v2 q) : CV Γ 2 NF NF D_X11_need [.ref (gB Γ + 83), vI v1, vI v2] (mk Γ x) (QI Γ x q) := by
  refine CV.of rfl (cat_all rfl) (Nat.le_of_ble_eq_true rfl) ?_
  show V Γ 2 NF NF D_X11_need (QI Γ x q) 0 [.ref (gB Γ + 83), vI v1, vI v2] [] NF (mk Γ x)
  unfold M_X11_need at h
  refine V_aload_0 dX11_need_0 ?_
  refine V_iload_1 dX11_need_1 ?_
  refine V_cVI1 (My := D_X11_isNeed) dX11_need_2 ml_R_215 ce_X11_isNeed ly_83 (by decide) cl_11 (by decide) (Nat.le_refl _) (Nat.le_refl _) (by decide) (sumL rfl) (w_X11_isNeed hx r1 h) (fun z1 hz1 h => ?_)
  refine V_if_ne 11 dX11_need_5 (by decide) hz1 ⟨fun c2 => ?_, fun c2 => ?_⟩
  · have h := h.1 c2
    refine V_iload_2 dX11_need_11 ?_
    refine V_iconst dX11_need_12 ?_
    refine V_iconst dX11_need_13 ?_
    refine V_cSI3 (My := D_X11_in) dX11_need_14 ml_R_73 ce_X11_in (Nat.le_refl _) (Nat.le_refl _) (by decide) (sumL rfl) (w_X11_in hx r2 (rgL rfl) (rgL rfl) h) (fun z3 hz3 h => ?_)
    refine V_if_ne 25 dX11_need_17 (by decide) hz3 ⟨fun c4 => ?_, fun c4 => ?_⟩
    · have h := h.1 c4
      refine V_iload_2 dX11_need_25 ?_
      refine V_if_ne 38 dX11_need_26 (by decide) r2 ⟨fun c5 => ?_, fun c5 => ?_⟩
      · have h := h.1 c5
        refine V_aload_0 dX11_need_38 ?_
        refine V_iload_1 dX11_need_39 ?_
        refine V_cVI1 (My := D_X11_sewnTo) dX11_need_40 ml_R_218 ce_X11_sewnTo ly_83 (by decide) cl_11 (by decide) (Nat.le_refl _) (Nat.le_refl _) (by decide) (sumL rfl) (w_X11_sewnTo hx r1 h) (fun z6 hz6 h => ?_)
        exact V_ireturn dX11_need_43 rfl ⟨rfl, _, rfl, hz6, h⟩
      · have h := h.2 c5
        refine V_aload_0 dX11_need_29 ?_
        refine V_gR dX11_need_30 fl_R_23 ly_83 (by decide) wr_83_10 ?_
        refine V_iload_1 dX11_need_33 ?_
        obtain ⟨g7, h⟩ := h
        refine V_aI dX11_need_34 ly_88 (by decide) (by decide) g7 ?_
        refine V_goto 43 dX11_need_35 (by decide) ?_
        exact V_ireturn dX11_need_43 rfl ⟨rfl, _, rfl, (hx _ _), h⟩
    · have h := h.2 c4
      refine V_ldc dX11_need_20 kc_R_77 ?_
      refine V_goto 43 dX11_need_22 (by decide) ?_
      exact V_ireturn dX11_need_43 rfl ⟨rfl, _, rfl, (rgL rfl), h⟩
  · have h := h.2 c2
    refine V_ldc dX11_need_8 kc_R_205 ?_
    exact V_ireturn dX11_need_10 rfl ⟨rfl, _, rfl, (rgL rfl), h⟩
def M_X10_isHeap (x : XM) (v0 : Int) (q : Int → Prop) : Prop :=
  ((v0 < 0 → q 0) ∧ (¬ (v0 < 0) → ((6 ≤ v0 → q 0) ∧ (¬ (6 ≤ v0) → q 1))))
set_option maxRecDepth 100000 in
theorem w_X10_isHeap {Γ : GE} {x : XM} (hx : WX x) {v0 : Int} {q : Int → Prop} (r0 : Rg v0) (h : M_X10_isHeap x v0 q) : CV Γ 0 NF NF D_X10_isHeap [vI v0] (mk Γ x) (QI Γ x q) := by
  refine CV.of rfl (cat_all rfl) (Nat.le_of_ble_eq_true rfl) ?_
  show V Γ 0 NF NF D_X10_isHeap (QI Γ x q) 0 [vI v0] [] NF (mk Γ x)
  unfold M_X10_isHeap at h
  refine V_iload_0 dX10_isHeap_0 ?_
  refine V_if_lt 14 dX10_isHeap_1 (by decide) r0 ⟨fun c1 => ?_, fun c1 => ?_⟩
  · have h := h.1 c1
    refine V_iconst dX10_isHeap_14 ?_
    exact V_zreturn dX10_isHeap_15 rfl (Or.inl rfl) ⟨rfl, _, rfl, (rgL rfl), h⟩
  · have h := h.2 c1
    refine V_iload_0 dX10_isHeap_4 ?_
    refine V_bipush dX10_isHeap_5 (by decide) ?_
    refine V_icmp_ge 14 dX10_isHeap_7 (by decide) r0 (rgL rfl) ⟨fun c2 => ?_, fun c2 => ?_⟩
    · have h := h.1 c2
      refine V_iconst dX10_isHeap_14 ?_
      exact V_zreturn dX10_isHeap_15 rfl (Or.inl rfl) ⟨rfl, _, rfl, (rgL rfl), h⟩
    · have h := h.2 c2
      refine V_iconst dX10_isHeap_10 ?_
      refine V_goto 15 dX10_isHeap_11 (by decide) ?_
      exact V_zreturn dX10_isHeap_15 rfl (Or.inr rfl) ⟨rfl, _, rfl, (rgL rfl), h⟩
def M_X10_heap (x : XM) (v1 : Int) (q : Int → Prop) : Prop :=
  M_X10_isHeap x v1  (fun z1 => ((z1 = 0 → q (-1000000002)) ∧ (¬ z1 = 0 → M_X0_at x v1  (fun z3 => q z3))))
set_option maxRecDepth 100000 in
theorem w_X10_heap {Γ : GE} {x : XM} (hx : WX x) {v1 : Int} {q : Int → Prop} (r1 : Rg v1) (h : M_X10_heap x v1 q) : CV Γ 3 NF NF D_X10_heap [.ref (gB Γ + 0), vI v1] (mk Γ x) (QI Γ x q) := by
  refine CV.of rfl (cat_all rfl) (Nat.le_of_ble_eq_true rfl) ?_
  show V Γ 3 NF NF D_X10_heap (QI Γ x q) 0 [.ref (gB Γ + 0), vI v1] [] NF (mk Γ x)
  unfold M_X10_heap at h
  refine V_iload_1 dX10_heap_0 ?_
  refine V_cSI1 (My := D_X10_isHeap) dX10_heap_1 ml_T_187 ce_X10_isHeap (Nat.le_refl _) (Nat.le_refl _) (by decide) (sumL rfl) (w_X10_isHeap hx r1 h) (fun z1 hz1 h => ?_)
  refine V_if_eq 18 dX10_heap_4 (by decide) hz1 ⟨fun c2 => ?_, fun c2 => ?_⟩
  · have h := h.1 c2
    refine V_ldc dX10_heap_18 kc_T_78 ?_
    exact V_ireturn dX10_heap_20 rfl ⟨rfl, _, rfl, (rgL rfl), h⟩
  · have h := h.2 c2
    refine V_aload_0 dX10_heap_7 ?_
    refine V_gR dX10_heap_8 fl_T_19 ly_0 (by decide) wr_0_1 ?_
    refine V_iload_1 dX10_heap_11 ?_
    refine V_cVI1 (My := D_X0_at) dX10_heap_12 ml_T_124 ce_X0_at ly_3 (by decide) cl_0 (by decide) (Nat.le_refl _) (Nat.le_refl _) (by decide) (sumL rfl) (w_X0_at hx r1 h) (fun z3 hz3 h => ?_)
    refine V_goto 20 dX10_heap_15 (by decide) ?_
    exact V_ireturn dX10_heap_20 rfl ⟨rfl, _, rfl, hz3, h⟩
def M_X11_isHeap (x : XM) (v0 : Int) (q : Int → Prop) : Prop :=
  M_X11_in x v0 0 5  (fun z1 => (z1 = 0 ∨ z1 = 1) ∧ q z1)
set_option maxRecDepth 100000 in
theorem w_X11_isHeap {Γ : GE} {x : XM} (hx : WX x) {v0 : Int} {q : Int → Prop} (r0 : Rg v0) (h : M_X11_isHeap x v0 q) : CV Γ 1 NF NF D_X11_isHeap [vI v0] (mk Γ x) (QI Γ x q) := by
  refine CV.of rfl (cat_all rfl) (Nat.le_of_ble_eq_true rfl) ?_
  show V Γ 1 NF NF D_X11_isHeap (QI Γ x q) 0 [vI v0] [] NF (mk Γ x)
  unfold M_X11_isHeap at h
  refine V_iload_0 dX11_isHeap_0 ?_
  refine V_iconst dX11_isHeap_1 ?_
  refine V_iconst dX11_isHeap_2 ?_
  refine V_cSI3 (My := D_X11_in) dX11_isHeap_3 ml_R_73 ce_X11_in (Nat.le_refl _) (Nat.le_refl _) (by decide) (sumL rfl) (w_X11_in hx r0 (rgL rfl) (rgL rfl) h) (fun z1 hz1 h => ?_)
  obtain ⟨g2, h⟩ := h
  exact V_zreturn dX11_isHeap_6 rfl g2 ⟨rfl, _, rfl, hz1, h⟩
def M_X11_heap (x : XM) (v1 : Int) (q : Int → Prop) : Prop :=
  M_X11_isHeap x v1  (fun z1 => ((z1 = 0 → q (-1000000002)) ∧ (¬ z1 = 0 → (Rg (1 + v1)) ∧ M_X11_setIn x (1 + v1)  (fun z4 => q z4))))
set_option maxRecDepth 100000 in
theorem w_X11_heap {Γ : GE} {x : XM} (hx : WX x) {v1 : Int} {q : Int → Prop} (r1 : Rg v1) (h : M_X11_heap x v1 q) : CV Γ 2 NF NF D_X11_heap [.ref (gB Γ + 83), vI v1] (mk Γ x) (QI Γ x q) := by
  refine CV.of rfl (cat_all rfl) (Nat.le_of_ble_eq_true rfl) ?_
  show V Γ 2 NF NF D_X11_heap (QI Γ x q) 0 [.ref (gB Γ + 83), vI v1] [] NF (mk Γ x)
  unfold M_X11_heap at h
  refine V_iload_1 dX11_heap_0 ?_
  refine V_cSI1 (My := D_X11_isHeap) dX11_heap_1 ml_R_221 ce_X11_isHeap (Nat.le_refl _) (Nat.le_refl _) (by decide) (sumL rfl) (w_X11_isHeap hx r1 h) (fun z1 hz1 h => ?_)
  refine V_if_eq 17 dX11_heap_4 (by decide) hz1 ⟨fun c2 => ?_, fun c2 => ?_⟩
  · have h := h.1 c2
    refine V_ldc dX11_heap_17 kc_R_77 ?_
    exact V_ireturn dX11_heap_19 rfl ⟨rfl, _, rfl, (rgL rfl), h⟩
  · have h := h.2 c2
    refine V_aload_0 dX11_heap_7 ?_
    refine V_iconst dX11_heap_8 ?_
    refine V_iload_1 dX11_heap_9 ?_
    refine V_iadd dX11_heap_10 ?_
    obtain ⟨g3, h⟩ := h
    refine V_cVI1 (My := D_X11_setIn) dX11_heap_11 ml_R_183 ce_X11_setIn ly_83 (by decide) cl_11 (by decide) (Nat.le_refl _) (Nat.le_refl _) (by decide) (sumL rfl) (w_X11_setIn hx g3 h) (fun z4 hz4 h => ?_)
    refine V_goto 19 dX11_heap_14 (by decide) ?_
    exact V_ireturn dX11_heap_19 rfl ⟨rfl, _, rfl, hz4, h⟩
def M_X2_copyFrom (k0 : Nat) (k1 : Nat) (x : XM) (q : XM → Prop) : Prop :=
  ∀ x1 : XM, x1 = cpX x (k1 + 1) (k0 + 1) 12 → ∀ x2 : XM, x2 = cpX x1 (k1 + 2) (k0 + 2) 6 → ∀ x3 : XM, x3 = uX x2 k0 2 (x2 k1 2) → ∀ x4 : XM, x4 = uX x3 k0 3 (x3 k1 3) → q x4
set_option maxRecDepth 100000 in
theorem w_X2_copyFrom {Γ : GE} {k0 : Nat} {k1 : Nat} (hk0 : (lay k0).1 = 2) (hk1 : (lay k1).1 = 2) {x : XM} (hx : WX x) {q : XM → Prop} (h : M_X2_copyFrom k0 k1 x q) : CV Γ 1 NF NF D_X2_copyFrom [.ref (gB Γ + k0), .ref (gB Γ + k1)] (mk Γ x) (QU Γ q) := by
  refine CV.of rfl (cat_all rfl) (Nat.le_of_ble_eq_true rfl) ?_
  show V Γ 1 NF NF D_X2_copyFrom (QU Γ q) 0 [.ref (gB Γ + k0), .ref (gB Γ + k1)] [] NF (mk Γ x)
  unfold M_X2_copyFrom at h
  refine V_aload_1 dX2_copyFrom_0 ?_
  refine V_gR dX2_copyFrom_1 fl_Cloth_9 (clo_f hk1).1 (lt_lay hk1 (by decide)) (clo_w0 hk1) ?_
  refine V_iconst dX2_copyFrom_4 ?_
  refine V_aload_0 dX2_copyFrom_5 ?_
  refine V_gR dX2_copyFrom_6 fl_Cloth_9 (clo_f hk0).1 (lt_lay hk0 (by decide)) (clo_w0 hk0) ?_
  refine V_iconst dX2_copyFrom_9 ?_
  refine V_bipush dX2_copyFrom_10 (by decide) ?_
  refine V_cpe (N := 12) dX2_copyFrom_12 ml_Cloth_34 (clo_f hk1).2.1 (clo_f hk0).2.1 (clo_b1 hk1) (clo_b1 hk0) (by decide) (by decide) (sumL rfl) (arr_n3 (clo_f hk0).2.1) (arr_n0 (clo_f hk0).2.1) (fun x1 ex1 => ?_)
  have h := h x1 ex1
  have hx1 := hx.cpE ex1
  refine V_aload_1 dX2_copyFrom_15 ?_
  refine V_gR dX2_copyFrom_16 fl_Cloth_15 (clo_f hk1).1 (lt_lay hk1 (by decide)) (clo_w1 hk1) ?_
  refine V_iconst dX2_copyFrom_19 ?_
  refine V_aload_0 dX2_copyFrom_20 ?_
  refine V_gR dX2_copyFrom_21 fl_Cloth_15 (clo_f hk0).1 (lt_lay hk0 (by decide)) (clo_w1 hk0) ?_
  refine V_iconst dX2_copyFrom_24 ?_
  refine V_bipush dX2_copyFrom_25 (by decide) ?_
  refine V_cpe (N := 6) dX2_copyFrom_27 ml_Cloth_34 (clo_f hk1).2.2.1 (clo_f hk0).2.2.1 (clo_b2 hk1) (clo_b2 hk0) (by decide) (by decide) (sumL rfl) (arr_n3 (clo_f hk0).2.2.1) (arr_n0 (clo_f hk0).2.2.1) (fun x2 ex2 => ?_)
  have h := h x2 ex2
  have hx2 := hx1.cpE ex2
  refine V_aload_0 dX2_copyFrom_30 ?_
  refine V_aload_1 dX2_copyFrom_31 ?_
  refine V_gI dX2_copyFrom_32 fl_Cloth_18 (clo_f hk1).1 (lt_lay hk1 (by decide)) (clo_w2 hk1) ?_
  refine V_pIe dX2_copyFrom_35 fl_Cloth_18 (clo_f hk0).1 (lt_lay hk0 (by decide)) (clo_w2 hk0) (fun x3 ex3 => ?_)
  have h := h x3 ex3
  have hx3 := hx2.upE (hx2 _ _) ex3
  refine V_aload_0 dX2_copyFrom_38 ?_
  refine V_aload_1 dX2_copyFrom_39 ?_
  refine V_gI dX2_copyFrom_40 fl_Cloth_22 (clo_f hk1).1 (lt_lay hk1 (by decide)) (clo_w3 hk1) ?_
  refine V_pIe dX2_copyFrom_43 fl_Cloth_22 (clo_f hk0).1 (lt_lay hk0 (by decide)) (clo_w3 hk0) (fun x4 ex4 => ?_)
  have h := h x4 ex4
  have hx4 := hx3.upE (hx3 _ _) ex4
  exact V_vreturn dX2_copyFrom_46 rfl ⟨_, rfl, hx4, rfl, h⟩
def M_X7_remember (x : XM) (q : XM → Prop) : Prop :=
  (0 ≤ (x 10 1) ∧ (x 10 1) < 16) ∧ M_X2_copyFrom (12 + 3 * ((x 10 1)).toNat) 4 x  (fun x2 => (Rg ((x2 10 1) + 1)) ∧ (0 ≤ ((x2 10 1) + 1)) ∧ (∀ x5 : XM, x5 = uX x2 10 1 (((x2 10 1) + 1) % 16) → (Rg ((x5 10 2) + 1)) ∧ M_J9_min_7cf53 x5 ((x5 10 2) + 1) 16  (fun z7 => ∀ x8 : XM, x8 = uX x5 10 2 z7 → q x8)))
set_option maxRecDepth 100000 in
theorem w_X7_remember {Γ : GE} {x : XM} (hx : WX x) {q : XM → Prop} (h : M_X7_remember x q) : CV Γ 2 NF NF D_X7_remember [.ref (gB Γ + 10), .ref (gB Γ + 4)] (mk Γ x) (QU Γ q) := by
  refine CV.of rfl (cat_all rfl) (Nat.le_of_ble_eq_true rfl) ?_
  show V Γ 2 NF NF D_X7_remember (QU Γ q) 0 [.ref (gB Γ + 10), .ref (gB Γ + 4)] [] NF (mk Γ x)
  unfold M_X7_remember at h
  refine V_aload_0 dX7_remember_0 ?_
  refine V_gR dX7_remember_1 fl_Past_11 ly_10 (by decide) wr_10_0 ?_
  refine V_aload_0 dX7_remember_4 ?_
  refine V_gI dX7_remember_5 fl_Past_22 ly_10 (by decide) wn_10_1 ?_
  obtain ⟨g1, h⟩ := h
  refine V_aC dX7_remember_8 g1 ?_
  refine V_aload_1 dX7_remember_9 ?_
  refine V_cVU1 (My := D_X2_copyFrom) dX7_remember_10 ml_Past_25 ce_X2_copyFrom (clo_f (ring_k g1.1 g1.2)).1 (by decide) cl_2 (lt_lay (ring_k g1.1 g1.2) (by decide)) (Nat.le_refl _) (Nat.le_refl _) (by decide) (sumL rfl) (w_X2_copyFrom (ring_k g1.1 g1.2) (show (lay 4).1 = 2 from rfl) hx h) (fun x2 hx2 h => ?_)
  refine V_aload_0 dX7_remember_13 ?_
  refine V_aload_0 dX7_remember_14 ?_
  refine V_gI dX7_remember_15 fl_Past_22 ly_10 (by decide) wn_10_1 ?_
  refine V_iconst dX7_remember_18 ?_
  refine V_iadd dX7_remember_19 ?_
  refine V_bipush dX7_remember_20 (by decide) ?_
  obtain ⟨g3, h⟩ := h
  obtain ⟨g4, h⟩ := h
  refine V_irem dX7_remember_22 g3 (rgL rfl) g4 (lt0 rfl) ?_
  refine V_pIe dX7_remember_23 fl_Past_22 ly_10 (by decide) wn_10_1 (fun x5 ex5 => ?_)
  have h := h x5 ex5
  have hx5 := hx2.upE (rgRem (rgL rfl) (lt0 rfl)) ex5
  refine V_aload_0 dX7_remember_26 ?_
  refine V_aload_0 dX7_remember_27 ?_
  refine V_gI dX7_remember_28 fl_Past_18 ly_10 (by decide) wn_10_2 ?_
  refine V_iconst dX7_remember_31 ?_
  refine V_iadd dX7_remember_32 ?_
  refine V_bipush dX7_remember_33 (by decide) ?_
  obtain ⟨g6, h⟩ := h
  refine V_cSI2 (My := D_J9_min_7cf53) dX7_remember_35 ml_Past_29 ce_J9_min_7cf53 (Nat.le_refl _) (Nat.le_refl _) (by decide) (sumL rfl) (w_J9_min_7cf53 hx5 g6 (rgL rfl) h) (fun z7 hz7 h => ?_)
  refine V_pIe dX7_remember_38 fl_Past_18 ly_10 (by decide) wn_10_2 (fun x8 ex8 => ?_)
  have h := h x8 ex8
  have hx8 := hx5.upE hz7 ex8
  exact V_vreturn dX7_remember_41 rfl ⟨_, rfl, hx8, rfl, h⟩
def M_X10_put (x : XM) (v1 : Int) (v2 : Int) (q : Int → XM → Prop) : Prop :=
  M_X10_isThere x 1 v1  (fun z1 => ((¬ z1 = 0 → M_X10_isHeap x v2  (fun z3 => ((¬ z3 = 0 → M_X0_isSewn x v1  (fun z5 => ((¬ z5 = 0 → q (-1000000003) x) ∧ (z5 = 0 → (0 ≤ v1 ∧ v1 < 12) ∧ ((¬ (x 5 (v1.toNat)) = v2 → M_X7_remember x  (fun x9 => (0 ≤ v1 ∧ v1 < 12) ∧ (∀ x11 : XM, x11 = uX x9 5 (v1.toNat) v2 → M_X0_at x11 v2  (fun z12 => q z12 x11)))) ∧ ((x 5 (v1.toNat)) = v2 → q (-1000000003) x)))))) ∧ (z3 = 0 → q (-1000000002) x)))) ∧ (z1 = 0 → q (-1000000001) x)))
set_option maxRecDepth 100000 in
theorem w_X10_put {Γ : GE} {x : XM} (hx : WX x) {v1 v2 : Int} {q : Int → XM → Prop} (r1 : Rg v1) (r2 : Rg v2) (h : M_X10_put x v1 v2 q) : CV Γ 3 NF NF D_X10_put [.ref (gB Γ + 0), vI v1, vI v2] (mk Γ x) (QE Γ q) := by
  refine CV.of rfl (cat_all rfl) (Nat.le_of_ble_eq_true rfl) ?_
  show V Γ 3 NF NF D_X10_put (QE Γ q) 0 [.ref (gB Γ + 0), vI v1, vI v2] [] NF (mk Γ x)
  unfold M_X10_put at h
  refine V_aload_0 dX10_put_0 ?_
  refine V_iconst dX10_put_1 ?_
  refine V_iload_1 dX10_put_2 ?_
  refine V_cVI2 (My := D_X10_isThere) dX10_put_3 ml_T_149 ce_X10_isThere ly_0 (by decide) cl_10 (by decide) (Nat.le_refl _) (Nat.le_refl _) (by decide) (sumL rfl) (w_X10_isThere hx (rgL rfl) r1 h) (fun z1 hz1 h => ?_)
  refine V_if_ne 12 dX10_put_6 (by decide) hz1 ⟨fun c2 => ?_, fun c2 => ?_⟩
  · have h := h.1 c2
    refine V_iload_2 dX10_put_12 ?_
    refine V_cSI1 (My := D_X10_isHeap) dX10_put_13 ml_T_187 ce_X10_isHeap (Nat.le_refl _) (Nat.le_refl _) (by decide) (sumL rfl) (w_X10_isHeap hx r2 h) (fun z3 hz3 h => ?_)
    refine V_if_ne 22 dX10_put_16 (by decide) hz3 ⟨fun c4 => ?_, fun c4 => ?_⟩
    · have h := h.1 c4
      refine V_aload_0 dX10_put_22 ?_
      refine V_gR dX10_put_23 fl_T_19 ly_0 (by decide) wr_0_1 ?_
      refine V_iload_1 dX10_put_26 ?_
      refine V_cVI1 (My := D_X0_isSewn) dX10_put_27 ml_T_163 ce_X0_isSewn ly_3 (by decide) cl_0 (by decide) (Nat.le_refl _) (Nat.le_refl _) (by decide) (sumL rfl) (w_X0_isSewn hx r1 h) (fun z5 hz5 h => ?_)
      refine V_if_ne 49 dX10_put_30 (by decide) hz5 ⟨fun c6 => ?_, fun c6 => ?_⟩
      · have h := h.1 c6
        refine V_ldc dX10_put_49 kc_T_190 ?_
        exact V_ireturn dX10_put_51 rfl ⟨_, _, rfl, hx, rfl, (rgL rfl), h⟩
      · have h := h.2 c6
        refine V_aload_0 dX10_put_33 ?_
        refine V_gR dX10_put_34 fl_T_19 ly_0 (by decide) wr_0_1 ?_
        refine V_gR dX10_put_37 fl_T_100 ly_3 (by decide) wr_3_0 ?_
        refine V_gR dX10_put_40 fl_T_167 ly_4 (by decide) (r := 5) (clo_w0 (k := 4) rfl) ?_
        refine V_iload_1 dX10_put_43 ?_
        obtain ⟨g7, h⟩ := h
        refine V_aI dX10_put_44 ly_5 (by decide) (by decide) g7 ?_
        refine V_iload_2 dX10_put_45 ?_
        refine V_icmp_ne 52 dX10_put_46 (by decide) (hx _ _) r2 ⟨fun c8 => ?_, fun c8 => ?_⟩
        · have h := h.1 c8
          refine V_aload_0 dX10_put_52 ?_
          refine V_gR dX10_put_53 fl_T_26 ly_0 (by decide) wr_0_2 ?_
          refine V_aload_0 dX10_put_56 ?_
          refine V_gR dX10_put_57 fl_T_19 ly_0 (by decide) wr_0_1 ?_
          refine V_gR dX10_put_60 fl_T_100 ly_3 (by decide) wr_3_0 ?_
          refine V_cVU1 (My := D_X7_remember) dX10_put_63 ml_T_191 ce_X7_remember ly_10 (by decide) cl_7 (by decide) (Nat.le_refl _) (Nat.le_refl _) (by decide) (sumL rfl) (w_X7_remember hx h) (fun x9 hx9 h => ?_)
          refine V_aload_0 dX10_put_66 ?_
          refine V_gR dX10_put_67 fl_T_19 ly_0 (by decide) wr_0_1 ?_
          refine V_gR dX10_put_70 fl_T_100 ly_3 (by decide) wr_3_0 ?_
          refine V_gR dX10_put_73 fl_T_167 ly_4 (by decide) (r := 5) (clo_w0 (k := 4) rfl) ?_
          refine V_iload_1 dX10_put_76 ?_
          refine V_iload_2 dX10_put_77 ?_
          obtain ⟨g10, h⟩ := h
          refine V_sIe dX10_put_78 ly_5 (by decide) (by decide) g10 (fun x11 ex11 => ?_)
          have h := h x11 ex11
          have hx11 := hx9.upE r2 ex11
          refine V_aload_0 dX10_put_79 ?_
          refine V_gR dX10_put_80 fl_T_19 ly_0 (by decide) wr_0_1 ?_
          refine V_iload_2 dX10_put_83 ?_
          refine V_cVI1 (My := D_X0_at) dX10_put_84 ml_T_124 ce_X0_at ly_3 (by decide) cl_0 (by decide) (Nat.le_refl _) (Nat.le_refl _) (by decide) (sumL rfl) (w_X0_at hx11 r2 h) (fun z12 hz12 h => ?_)
          exact V_ireturn dX10_put_87 rfl ⟨_, _, rfl, hx11, rfl, hz12, h⟩
        · have h := h.2 c8
          refine V_ldc dX10_put_49 kc_T_190 ?_
          exact V_ireturn dX10_put_51 rfl ⟨_, _, rfl, hx, rfl, (rgL rfl), h⟩
    · have h := h.2 c4
      refine V_ldc dX10_put_19 kc_T_78 ?_
      exact V_ireturn dX10_put_21 rfl ⟨_, _, rfl, hx, rfl, (rgL rfl), h⟩
  · have h := h.2 c2
    refine V_ldc dX10_put_9 kc_T_153 ?_
    exact V_ireturn dX10_put_11 rfl ⟨_, _, rfl, hx, rfl, (rgL rfl), h⟩
def M_X11_know_51 (q : XM → Prop) : Nat → XM → Int → Prop
  | 0, _, _ => False
  | n + 1, x, v1 =>
  ((31 ≤ v1 → (Rg ((x 83 27) + 1)) ∧ (∀ x4 : XM, x4 = uX x 83 27 ((x 83 27) + 1) → q x4)) ∧ (¬ (31 ≤ v1) → (0 ≤ v1 ∧ v1 < 31) ∧ (0 ≤ ((31 * (x 83 27)) + v1) ∧ ((31 * (x 83 27)) + v1) < 496) ∧ (∀ x7 : XM, x7 = uX x 94 ((((31 * (x 83 27)) + v1)).toNat) (x 93 (v1.toNat)) → (Rg (v1 + 1)) ∧ (M_X11_know_51 q n) x7 (v1 + 1))))
def M_X11_know_11 (q : XM → Prop) : Nat → XM → Int → Prop
  | 0, _, _ => False
  | n + 1, x, v1 =>
  ((465 ≤ v1 → (Rg ((x 83 27) - 1)) ∧ (∀ x11 : XM, x11 = uX x 83 27 ((x 83 27) - 1) → (∃ m : Nat, M_X11_know_51 q m x11 0))) ∧ (¬ (465 ≤ v1) → (0 ≤ (31 + v1) ∧ (31 + v1) < 496) ∧ (0 ≤ v1 ∧ v1 < 496) ∧ (∀ x14 : XM, x14 = uX x 94 (v1.toNat) (x 94 (((31 + v1)).toNat)) → (Rg (v1 + 1)) ∧ (M_X11_know_11 q n) x14 (v1 + 1))))
def M_X11_know (x : XM) (q : XM → Prop) : Prop :=
  ((¬ (x 83 27) = 16 → ∃ m : Nat, M_X11_know_51 q m x 0) ∧ ((x 83 27) = 16 → ∃ m : Nat, M_X11_know_11 q m x 0))
set_option maxRecDepth 100000 in
theorem w_X11_know_51 {Γ : GE} {q : XM → Prop} : ∀ (n : Nat) (x : XM) (v1 : Int) , WX x → Rg v1 → M_X11_know_51 q n x v1 → V Γ 0 NF NF D_X11_know (QU Γ q) 51 [.ref (gB Γ + 83), vI v1] [] NF (mk Γ x) := by
  intro n
  induction n with
  | zero =>
    intro x v1 hx r1 h
    rw [M_X11_know_51.eq_1] at h
    exact h.elim
  | succ n ih =>
    intro x v1 hx r1 h
    rw [M_X11_know_51.eq_2] at h
    refine V_iload_1 dX11_know_51 ?_
    refine V_bipush dX11_know_52 (by decide) ?_
    refine V_icmp_ge 83 dX11_know_54 (by decide) r1 (rgL rfl) ⟨fun c2 => ?_, fun c2 => ?_⟩
    · have h := h.1 c2
      refine V_aload_0 dX11_know_83 ?_
      refine V_dup dX11_know_84 rfl ?_
      refine V_gI dX11_know_85 fl_R_157 ly_83 (by decide) wn_83_27 ?_
      refine V_iconst dX11_know_88 ?_
      refine V_iadd dX11_know_89 ?_
      obtain ⟨g3, h⟩ := h
      refine V_pIe dX11_know_90 fl_R_157 ly_83 (by decide) wn_83_27 (fun x4 ex4 => ?_)
      have h := h x4 ex4
      have hx4 := hx.upE g3 ex4
      exact V_vreturn dX11_know_93 rfl ⟨_, rfl, hx4, rfl, h⟩
    · have h := h.2 c2
      refine V_aload_0 dX11_know_57 ?_
      refine V_gR dX11_know_58 fl_R_41 ly_83 (by decide) wr_83_26 ?_
      refine V_bipush dX11_know_61 (by decide) ?_
      refine V_aload_0 dX11_know_63 ?_
      refine V_gI dX11_know_64 fl_R_157 ly_83 (by decide) wn_83_27 ?_
      refine V_imul dX11_know_67 ?_
      refine V_iload_1 dX11_know_68 ?_
      refine V_iadd dX11_know_69 ?_
      refine V_aload_0 dX11_know_70 ?_
      refine V_gR dX11_know_71 fl_R_38 ly_83 (by decide) wr_83_25 ?_
      refine V_iload_1 dX11_know_74 ?_
      obtain ⟨g5, h⟩ := h
      refine V_aI dX11_know_75 ly_93 (by decide) (by decide) g5 ?_
      obtain ⟨g6, h⟩ := h
      refine V_sIe dX11_know_76 ly_94 (by decide) (by decide) g6 (fun x7 ex7 => ?_)
      have h := h x7 ex7
      have hx7 := hx.upE (hx _ _) ex7
      refine V_iinc_1 (a1 := uu) dX11_know_77 rfl ?_
      refine V_goto 51 dX11_know_80 (by decide) ?_
      obtain ⟨g8, h⟩ := h
      exact ih _ _ hx7 g8 h
set_option maxRecDepth 100000 in
theorem w_X11_know_11 {Γ : GE} {q : XM → Prop} : ∀ (n : Nat) (x : XM) (v1 : Int) , WX x → Rg v1 → M_X11_know_11 q n x v1 → V Γ 0 NF NF D_X11_know (QU Γ q) 11 [.ref (gB Γ + 83), vI v1] [] NF (mk Γ x) := by
  intro n
  induction n with
  | zero =>
    intro x v1 hx r1 h
    rw [M_X11_know_11.eq_1] at h
    exact h.elim
  | succ n ih =>
    intro x v1 hx r1 h
    rw [M_X11_know_11.eq_2] at h
    refine V_iload_1 dX11_know_11 ?_
    refine V_sipush dX11_know_12 (by decide) ?_
    refine V_icmp_ge 39 dX11_know_15 (by decide) r1 (rgL rfl) ⟨fun c9 => ?_, fun c9 => ?_⟩
    · have h := h.1 c9
      refine V_aload_0 dX11_know_39 ?_
      refine V_dup dX11_know_40 rfl ?_
      refine V_gI dX11_know_41 fl_R_157 ly_83 (by decide) wn_83_27 ?_
      refine V_iconst dX11_know_44 ?_
      refine V_isub dX11_know_45 ?_
      obtain ⟨g10, h⟩ := h
      refine V_pIe dX11_know_46 fl_R_157 ly_83 (by decide) wn_83_27 (fun x11 ex11 => ?_)
      have h := h x11 ex11
      have hx11 := hx.upE g10 ex11
      refine V_iconst dX11_know_49 ?_
      refine V_istore_1 dX11_know_50 rfl rfl ?_
      obtain ⟨m9, h⟩ := h
      exact w_X11_know_51 m9 _ _ hx11 (rgL rfl) h
    · have h := h.2 c9
      refine V_aload_0 dX11_know_18 ?_
      refine V_gR dX11_know_19 fl_R_41 ly_83 (by decide) wr_83_26 ?_
      refine V_iload_1 dX11_know_22 ?_
      refine V_aload_0 dX11_know_23 ?_
      refine V_gR dX11_know_24 fl_R_41 ly_83 (by decide) wr_83_26 ?_
      refine V_bipush dX11_know_27 (by decide) ?_
      refine V_iload_1 dX11_know_29 ?_
      refine V_iadd dX11_know_30 ?_
      obtain ⟨g12, h⟩ := h
      refine V_aI dX11_know_31 ly_94 (by decide) (by decide) g12 ?_
      obtain ⟨g13, h⟩ := h
      refine V_sIe dX11_know_32 ly_94 (by decide) (by decide) g13 (fun x14 ex14 => ?_)
      have h := h x14 ex14
      have hx14 := hx.upE (hx _ _) ex14
      refine V_iinc_1 (a1 := uu) dX11_know_33 rfl ?_
      refine V_goto 11 dX11_know_36 (by decide) ?_
      obtain ⟨g15, h⟩ := h
      exact ih _ _ hx14 g15 h
set_option maxRecDepth 100000 in
theorem w_X11_know {Γ : GE} {x : XM} (hx : WX x) {q : XM → Prop} (h : M_X11_know x q) : CV Γ 0 NF NF D_X11_know [.ref (gB Γ + 83)] (mk Γ x) (QU Γ q) := by
  refine CV.of rfl (cat_all rfl) (Nat.le_of_ble_eq_true rfl) ?_
  show V Γ 0 NF NF D_X11_know (QU Γ q) 0 [.ref (gB Γ + 83), uu] [] NF (mk Γ x)
  unfold M_X11_know at h
  refine V_aload_0 dX11_know_0 ?_
  refine V_gI dX11_know_1 fl_R_157 ly_83 (by decide) wn_83_27 ?_
  refine V_bipush dX11_know_4 (by decide) ?_
  refine V_icmp_ne 49 dX11_know_6 (by decide) (hx _ _) (rgL rfl) ⟨fun c1 => ?_, fun c1 => ?_⟩
  · have h := h.1 c1
    refine V_iconst dX11_know_49 ?_
    refine V_istore_1 dX11_know_50 rfl rfl ?_
    obtain ⟨m9, h⟩ := h
    exact w_X11_know_51 m9 _ _ hx (rgL rfl) h
  · have h := h.2 c1
    refine V_iconst dX11_know_9 ?_
    refine V_istore_1 dX11_know_10 rfl rfl ?_
    obtain ⟨m9, h⟩ := h
    exact w_X11_know_11 m9 _ _ hx (rgL rfl) h
def M_X11_put (x : XM) (v1 : Int) (v2 : Int) (q : Int → XM → Prop) : Prop :=
  M_X11_isButton x v1  (fun z1 => ((¬ z1 = 0 → M_X11_isHeap x v2  (fun z3 => ((¬ z3 = 0 → (0 ≤ v1 ∧ v1 < 31) ∧ ((8 ≤ (x 93 (v1.toNat)) → q (-1000000003) x) ∧ (¬ (8 ≤ (x 93 (v1.toNat))) → (0 ≤ v1 ∧ v1 < 31) ∧ (Rg (1 + v2)) ∧ ((¬ (x 93 (v1.toNat)) = (1 + v2) → M_X11_know x  (fun x10 => (Rg (1 + v2)) ∧ (0 ≤ v1 ∧ v1 < 31) ∧ (∀ x13 : XM, x13 = uX x10 93 (v1.toNat) (1 + v2) → (Rg (1 + v2)) ∧ M_X11_setIn x13 (1 + v2)  (fun z15 => q z15 x13)))) ∧ ((x 93 (v1.toNat)) = (1 + v2) → q (-1000000003) x))))) ∧ (z3 = 0 → q (-1000000002) x)))) ∧ (z1 = 0 → q (-1000000001) x)))
set_option maxRecDepth 100000 in
theorem w_X11_put {Γ : GE} {x : XM} (hx : WX x) {v1 v2 : Int} {q : Int → XM → Prop} (r1 : Rg v1) (r2 : Rg v2) (h : M_X11_put x v1 v2 q) : CV Γ 2 NF NF D_X11_put [.ref (gB Γ + 83), vI v1, vI v2] (mk Γ x) (QE Γ q) := by
  refine CV.of rfl (cat_all rfl) (Nat.le_of_ble_eq_true rfl) ?_
  show V Γ 2 NF NF D_X11_put (QE Γ q) 0 [.ref (gB Γ + 83), vI v1, vI v2] [] NF (mk Γ x)
  unfold M_X11_put at h
  refine V_aload_0 dX11_put_0 ?_
  refine V_iload_1 dX11_put_1 ?_
  refine V_cVI1 (My := D_X11_isButton) dX11_put_2 ml_R_201 ce_X11_isButton ly_83 (by decide) cl_11 (by decide) (Nat.le_refl _) (Nat.le_refl _) (by decide) (sumL rfl) (w_X11_isButton hx r1 h) (fun z1 hz1 h => ?_)
  refine V_if_ne 11 dX11_put_5 (by decide) hz1 ⟨fun c2 => ?_, fun c2 => ?_⟩
  · have h := h.1 c2
    refine V_iload_2 dX11_put_11 ?_
    refine V_cSI1 (My := D_X11_isHeap) dX11_put_12 ml_R_221 ce_X11_isHeap (Nat.le_refl _) (Nat.le_refl _) (by decide) (sumL rfl) (w_X11_isHeap hx r2 h) (fun z3 hz3 h => ?_)
    refine V_if_ne 21 dX11_put_15 (by decide) hz3 ⟨fun c4 => ?_, fun c4 => ?_⟩
    · have h := h.1 c4
      refine V_aload_0 dX11_put_21 ?_
      refine V_gR dX11_put_22 fl_R_38 ly_83 (by decide) wr_83_25 ?_
      refine V_iload_1 dX11_put_25 ?_
      obtain ⟨g5, h⟩ := h
      refine V_aI dX11_put_26 ly_93 (by decide) (by decide) g5 ?_
      refine V_bipush dX11_put_27 (by decide) ?_
      refine V_icmp_ge 44 dX11_put_29 (by decide) (hx _ _) (rgL rfl) ⟨fun c6 => ?_, fun c6 => ?_⟩
      · have h := h.1 c6
        refine V_ldc dX11_put_44 kc_R_224 ?_
        exact V_ireturn dX11_put_46 rfl ⟨_, _, rfl, hx, rfl, (rgL rfl), h⟩
      · have h := h.2 c6
        refine V_aload_0 dX11_put_32 ?_
        refine V_gR dX11_put_33 fl_R_38 ly_83 (by decide) wr_83_25 ?_
        refine V_iload_1 dX11_put_36 ?_
        obtain ⟨g7, h⟩ := h
        refine V_aI dX11_put_37 ly_93 (by decide) (by decide) g7 ?_
        refine V_iconst dX11_put_38 ?_
        refine V_iload_2 dX11_put_39 ?_
        refine V_iadd dX11_put_40 ?_
        obtain ⟨g8, h⟩ := h
        refine V_icmp_ne 47 dX11_put_41 (by decide) (hx _ _) g8 ⟨fun c9 => ?_, fun c9 => ?_⟩
        · have h := h.1 c9
          refine V_aload_0 dX11_put_47 ?_
          refine V_cVU0 (My := D_X11_know) dX11_put_48 ml_R_225 ce_X11_know ly_83 (by decide) cl_11 (by decide) (Nat.le_refl _) (Nat.le_refl _) (by decide) (sumL rfl) (w_X11_know hx h) (fun x10 hx10 h => ?_)
          refine V_aload_0 dX11_put_51 ?_
          refine V_gR dX11_put_52 fl_R_38 ly_83 (by decide) wr_83_25 ?_
          refine V_iload_1 dX11_put_55 ?_
          refine V_iconst dX11_put_56 ?_
          refine V_iload_2 dX11_put_57 ?_
          refine V_iadd dX11_put_58 ?_
          obtain ⟨g11, h⟩ := h
          obtain ⟨g12, h⟩ := h
          refine V_sIe dX11_put_59 ly_93 (by decide) (by decide) g12 (fun x13 ex13 => ?_)
          have h := h x13 ex13
          have hx13 := hx10.upE g11 ex13
          refine V_aload_0 dX11_put_60 ?_
          refine V_iconst dX11_put_61 ?_
          refine V_iload_2 dX11_put_62 ?_
          refine V_iadd dX11_put_63 ?_
          obtain ⟨g14, h⟩ := h
          refine V_cVI1 (My := D_X11_setIn) dX11_put_64 ml_R_183 ce_X11_setIn ly_83 (by decide) cl_11 (by decide) (Nat.le_refl _) (Nat.le_refl _) (by decide) (sumL rfl) (w_X11_setIn hx13 g14 h) (fun z15 hz15 h => ?_)
          exact V_ireturn dX11_put_67 rfl ⟨_, _, rfl, hx13, rfl, hz15, h⟩
        · have h := h.2 c9
          refine V_ldc dX11_put_44 kc_R_224 ?_
          exact V_ireturn dX11_put_46 rfl ⟨_, _, rfl, hx, rfl, (rgL rfl), h⟩
    · have h := h.2 c4
      refine V_ldc dX11_put_18 kc_R_77 ?_
      exact V_ireturn dX11_put_20 rfl ⟨_, _, rfl, hx, rfl, (rgL rfl), h⟩
  · have h := h.2 c2
    refine V_ldc dX11_put_8 kc_R_205 ?_
    exact V_ireturn dX11_put_10 rfl ⟨_, _, rfl, hx, rfl, (rgL rfl), h⟩
def M_X10_takeBack (x : XM) (v1 : Int) (q : Int → XM → Prop) : Prop :=
  M_X10_isThere x 1 v1  (fun z1 => ((¬ z1 = 0 → M_X0_isSewn x v1  (fun z3 => ((¬ z3 = 0 → q (-1000000003) x) ∧ (z3 = 0 → (0 ≤ v1 ∧ v1 < 12) ∧ ((¬ (x 5 (v1.toNat)) = 6 → M_X7_remember x  (fun x7 => (0 ≤ v1 ∧ v1 < 12) ∧ (∀ x9 : XM, x9 = uX x7 5 (v1.toNat) 6 → M_X0_at x9 6  (fun z10 => q z10 x9)))) ∧ ((x 5 (v1.toNat)) = 6 → q (-1000000003) x)))))) ∧ (z1 = 0 → q (-1000000001) x)))
set_option maxRecDepth 100000 in
theorem w_X10_takeBack {Γ : GE} {x : XM} (hx : WX x) {v1 : Int} {q : Int → XM → Prop} (r1 : Rg v1) (h : M_X10_takeBack x v1 q) : CV Γ 3 NF NF D_X10_takeBack [.ref (gB Γ + 0), vI v1] (mk Γ x) (QE Γ q) := by
  refine CV.of rfl (cat_all rfl) (Nat.le_of_ble_eq_true rfl) ?_
  show V Γ 3 NF NF D_X10_takeBack (QE Γ q) 0 [.ref (gB Γ + 0), vI v1] [] NF (mk Γ x)
  unfold M_X10_takeBack at h
  refine V_aload_0 dX10_takeBack_0 ?_
  refine V_iconst dX10_takeBack_1 ?_
  refine V_iload_1 dX10_takeBack_2 ?_
  refine V_cVI2 (My := D_X10_isThere) dX10_takeBack_3 ml_T_149 ce_X10_isThere ly_0 (by decide) cl_10 (by decide) (Nat.le_refl _) (Nat.le_refl _) (by decide) (sumL rfl) (w_X10_isThere hx (rgL rfl) r1 h) (fun z1 hz1 h => ?_)
  refine V_if_ne 12 dX10_takeBack_6 (by decide) hz1 ⟨fun c2 => ?_, fun c2 => ?_⟩
  · have h := h.1 c2
    refine V_aload_0 dX10_takeBack_12 ?_
    refine V_gR dX10_takeBack_13 fl_T_19 ly_0 (by decide) wr_0_1 ?_
    refine V_iload_1 dX10_takeBack_16 ?_
    refine V_cVI1 (My := D_X0_isSewn) dX10_takeBack_17 ml_T_163 ce_X0_isSewn ly_3 (by decide) cl_0 (by decide) (Nat.le_refl _) (Nat.le_refl _) (by decide) (sumL rfl) (w_X0_isSewn hx r1 h) (fun z3 hz3 h => ?_)
    refine V_if_ne 40 dX10_takeBack_20 (by decide) hz3 ⟨fun c4 => ?_, fun c4 => ?_⟩
    · have h := h.1 c4
      refine V_ldc dX10_takeBack_40 kc_T_190 ?_
      exact V_ireturn dX10_takeBack_42 rfl ⟨_, _, rfl, hx, rfl, (rgL rfl), h⟩
    · have h := h.2 c4
      refine V_aload_0 dX10_takeBack_23 ?_
      refine V_gR dX10_takeBack_24 fl_T_19 ly_0 (by decide) wr_0_1 ?_
      refine V_gR dX10_takeBack_27 fl_T_100 ly_3 (by decide) wr_3_0 ?_
      refine V_gR dX10_takeBack_30 fl_T_167 ly_4 (by decide) (r := 5) (clo_w0 (k := 4) rfl) ?_
      refine V_iload_1 dX10_takeBack_33 ?_
      obtain ⟨g5, h⟩ := h
      refine V_aI dX10_takeBack_34 ly_5 (by decide) (by decide) g5 ?_
      refine V_bipush dX10_takeBack_35 (by decide) ?_
      refine V_icmp_ne 43 dX10_takeBack_37 (by decide) (hx _ _) (rgL rfl) ⟨fun c6 => ?_, fun c6 => ?_⟩
      · have h := h.1 c6
        refine V_aload_0 dX10_takeBack_43 ?_
        refine V_gR dX10_takeBack_44 fl_T_26 ly_0 (by decide) wr_0_2 ?_
        refine V_aload_0 dX10_takeBack_47 ?_
        refine V_gR dX10_takeBack_48 fl_T_19 ly_0 (by decide) wr_0_1 ?_
        refine V_gR dX10_takeBack_51 fl_T_100 ly_3 (by decide) wr_3_0 ?_
        refine V_cVU1 (My := D_X7_remember) dX10_takeBack_54 ml_T_191 ce_X7_remember ly_10 (by decide) cl_7 (by decide) (Nat.le_refl _) (Nat.le_refl _) (by decide) (sumL rfl) (w_X7_remember hx h) (fun x7 hx7 h => ?_)
        refine V_aload_0 dX10_takeBack_57 ?_
        refine V_gR dX10_takeBack_58 fl_T_19 ly_0 (by decide) wr_0_1 ?_
        refine V_gR dX10_takeBack_61 fl_T_100 ly_3 (by decide) wr_3_0 ?_
        refine V_gR dX10_takeBack_64 fl_T_167 ly_4 (by decide) (r := 5) (clo_w0 (k := 4) rfl) ?_
        refine V_iload_1 dX10_takeBack_67 ?_
        refine V_bipush dX10_takeBack_68 (by decide) ?_
        obtain ⟨g8, h⟩ := h
        refine V_sIe dX10_takeBack_70 ly_5 (by decide) (by decide) g8 (fun x9 ex9 => ?_)
        have h := h x9 ex9
        have hx9 := hx7.upE (rgL rfl) ex9
        refine V_aload_0 dX10_takeBack_71 ?_
        refine V_gR dX10_takeBack_72 fl_T_19 ly_0 (by decide) wr_0_1 ?_
        refine V_bipush dX10_takeBack_75 (by decide) ?_
        refine V_cVI1 (My := D_X0_at) dX10_takeBack_77 ml_T_124 ce_X0_at ly_3 (by decide) cl_0 (by decide) (Nat.le_refl _) (Nat.le_refl _) (by decide) (sumL rfl) (w_X0_at hx9 (rgL rfl) h) (fun z10 hz10 h => ?_)
        exact V_ireturn dX10_takeBack_80 rfl ⟨_, _, rfl, hx9, rfl, hz10, h⟩
      · have h := h.2 c6
        refine V_ldc dX10_takeBack_40 kc_T_190 ?_
        exact V_ireturn dX10_takeBack_42 rfl ⟨_, _, rfl, hx, rfl, (rgL rfl), h⟩
  · have h := h.2 c2
    refine V_ldc dX10_takeBack_9 kc_T_153 ?_
    exact V_ireturn dX10_takeBack_11 rfl ⟨_, _, rfl, hx, rfl, (rgL rfl), h⟩
def M_X11_takeBack (x : XM) (v1 : Int) (q : Int → XM → Prop) : Prop :=
  M_X11_isButton x v1  (fun z1 => ((¬ z1 = 0 → (0 ≤ v1 ∧ v1 < 31) ∧ ((8 ≤ (x 93 (v1.toNat)) → q (-1000000003) x) ∧ (¬ (8 ≤ (x 93 (v1.toNat))) → (0 ≤ v1 ∧ v1 < 31) ∧ ((¬ (x 93 (v1.toNat)) = 0 → M_X11_know x  (fun x7 => (0 ≤ v1 ∧ v1 < 31) ∧ (∀ x9 : XM, x9 = uX x7 93 (v1.toNat) 0 → M_X11_setIn x9 0  (fun z10 => q z10 x9)))) ∧ ((x 93 (v1.toNat)) = 0 → q (-1000000003) x))))) ∧ (z1 = 0 → q (-1000000001) x)))
set_option maxRecDepth 100000 in
theorem w_X11_takeBack {Γ : GE} {x : XM} (hx : WX x) {v1 : Int} {q : Int → XM → Prop} (r1 : Rg v1) (h : M_X11_takeBack x v1 q) : CV Γ 2 NF NF D_X11_takeBack [.ref (gB Γ + 83), vI v1] (mk Γ x) (QE Γ q) := by
  refine CV.of rfl (cat_all rfl) (Nat.le_of_ble_eq_true rfl) ?_
  show V Γ 2 NF NF D_X11_takeBack (QE Γ q) 0 [.ref (gB Γ + 83), vI v1] [] NF (mk Γ x)
  unfold M_X11_takeBack at h
  refine V_aload_0 dX11_takeBack_0 ?_
  refine V_iload_1 dX11_takeBack_1 ?_
  refine V_cVI1 (My := D_X11_isButton) dX11_takeBack_2 ml_R_201 ce_X11_isButton ly_83 (by decide) cl_11 (by decide) (Nat.le_refl _) (Nat.le_refl _) (by decide) (sumL rfl) (w_X11_isButton hx r1 h) (fun z1 hz1 h => ?_)
  refine V_if_ne 11 dX11_takeBack_5 (by decide) hz1 ⟨fun c2 => ?_, fun c2 => ?_⟩
  · have h := h.1 c2
    refine V_aload_0 dX11_takeBack_11 ?_
    refine V_gR dX11_takeBack_12 fl_R_38 ly_83 (by decide) wr_83_25 ?_
    refine V_iload_1 dX11_takeBack_15 ?_
    obtain ⟨g3, h⟩ := h
    refine V_aI dX11_takeBack_16 ly_93 (by decide) (by decide) g3 ?_
    refine V_bipush dX11_takeBack_17 (by decide) ?_
    refine V_icmp_ge 31 dX11_takeBack_19 (by decide) (hx _ _) (rgL rfl) ⟨fun c4 => ?_, fun c4 => ?_⟩
    · have h := h.1 c4
      refine V_ldc dX11_takeBack_31 kc_R_224 ?_
      exact V_ireturn dX11_takeBack_33 rfl ⟨_, _, rfl, hx, rfl, (rgL rfl), h⟩
    · have h := h.2 c4
      refine V_aload_0 dX11_takeBack_22 ?_
      refine V_gR dX11_takeBack_23 fl_R_38 ly_83 (by decide) wr_83_25 ?_
      refine V_iload_1 dX11_takeBack_26 ?_
      obtain ⟨g5, h⟩ := h
      refine V_aI dX11_takeBack_27 ly_93 (by decide) (by decide) g5 ?_
      refine V_if_ne 34 dX11_takeBack_28 (by decide) (hx _ _) ⟨fun c6 => ?_, fun c6 => ?_⟩
      · have h := h.1 c6
        refine V_aload_0 dX11_takeBack_34 ?_
        refine V_cVU0 (My := D_X11_know) dX11_takeBack_35 ml_R_225 ce_X11_know ly_83 (by decide) cl_11 (by decide) (Nat.le_refl _) (Nat.le_refl _) (by decide) (sumL rfl) (w_X11_know hx h) (fun x7 hx7 h => ?_)
        refine V_aload_0 dX11_takeBack_38 ?_
        refine V_gR dX11_takeBack_39 fl_R_38 ly_83 (by decide) wr_83_25 ?_
        refine V_iload_1 dX11_takeBack_42 ?_
        refine V_iconst dX11_takeBack_43 ?_
        obtain ⟨g8, h⟩ := h
        refine V_sIe dX11_takeBack_44 ly_93 (by decide) (by decide) g8 (fun x9 ex9 => ?_)
        have h := h x9 ex9
        have hx9 := hx7.upE (rgL rfl) ex9
        refine V_aload_0 dX11_takeBack_45 ?_
        refine V_iconst dX11_takeBack_46 ?_
        refine V_cVI1 (My := D_X11_setIn) dX11_takeBack_47 ml_R_183 ce_X11_setIn ly_83 (by decide) cl_11 (by decide) (Nat.le_refl _) (Nat.le_refl _) (by decide) (sumL rfl) (w_X11_setIn hx9 (rgL rfl) h) (fun z10 hz10 h => ?_)
        exact V_ireturn dX11_takeBack_50 rfl ⟨_, _, rfl, hx9, rfl, hz10, h⟩
      · have h := h.2 c6
        refine V_ldc dX11_takeBack_31 kc_R_224 ?_
        exact V_ireturn dX11_takeBack_33 rfl ⟨_, _, rfl, hx, rfl, (rgL rfl), h⟩
  · have h := h.2 c2
    refine V_ldc dX11_takeBack_8 kc_R_205 ?_
    exact V_ireturn dX11_takeBack_10 rfl ⟨_, _, rfl, hx, rfl, (rgL rfl), h⟩
def M_X0_sortAlone_25 (q : XM → Prop) (x : XM) (s0 : Int) (s1 : Int) : Prop :=
  (0 ≤ s1 ∧ s1 < 12) ∧ (∀ x4 : XM, x4 = uX x 5 (s1.toNat) s0 → (Rg ((x4 4 3) + 1)) ∧ M_J9_min_7cf53 x4 ((x4 4 3) + 1) 999999  (fun z6 => ∀ x7 : XM, x7 = uX x4 4 3 z6 → q x7))
def M_X0_sortAlone (x : XM) (v1 : Int) (q : XM → Prop) : Prop :=
  M_X0_goal x v1  (fun z1 => ((¬ z1 = (-1) → M_X0_sortAlone_25 q x z1 v1) ∧ (z1 = (-1) → M_X0_sortAlone_25 q x 7 v1)))
set_option maxRecDepth 100000 in
theorem w_X0_sortAlone_25 {Γ : GE} {q : XM → Prop} : ∀ (x : XM) (s0 : Int) (s1 : Int) , WX x → Rg s0 → Rg s1 → M_X0_sortAlone_25 q x s0 s1 → V Γ 4 NF NF D_X0_sortAlone (QU Γ q) 25 [.ref (gB Γ + 3), uu, uu] [vI s0, vI s1, .ref (gB Γ + 5)] NF (mk Γ x) := by
  intro x s0 s1 hx rs0 rs1 h
  unfold M_X0_sortAlone_25 at h
  obtain ⟨g3, h⟩ := h
  refine V_sIe dX0_sortAlone_25 ly_5 (by decide) (by decide) g3 (fun x4 ex4 => ?_)
  have h := h x4 ex4
  have hx4 := hx.upE rs0 ex4
  refine V_aload_0 dX0_sortAlone_26 ?_
  refine V_gR dX0_sortAlone_27 fl_Bench_12 ly_3 (by decide) wr_3_0 ?_
  refine V_aload_0 dX0_sortAlone_30 ?_
  refine V_gR dX0_sortAlone_31 fl_Bench_12 ly_3 (by decide) wr_3_0 ?_
  refine V_gI dX0_sortAlone_34 fl_Bench_76 ly_4 (by decide) (clo_w3 (k := 4) rfl) ?_
  refine V_iconst dX0_sortAlone_37 ?_
  refine V_iadd dX0_sortAlone_38 ?_
  refine V_ldc dX0_sortAlone_39 kc_Bench_79 ?_
  obtain ⟨g5, h⟩ := h
  refine V_cSI2 (My := D_J9_min_7cf53) dX0_sortAlone_41 ml_Bench_80 ce_J9_min_7cf53 (Nat.le_refl _) (Nat.le_refl _) (by decide) (sumL rfl) (w_J9_min_7cf53 hx4 g5 (rgL rfl) h) (fun z6 hz6 h => ?_)
  refine V_pIe dX0_sortAlone_44 fl_Bench_76 ly_4 (by decide) (clo_w3 (k := 4) rfl) (fun x7 ex7 => ?_)
  have h := h x7 ex7
  have hx7 := hx4.upE hz6 ex7
  exact V_vreturn dX0_sortAlone_47 rfl ⟨_, rfl, hx7, rfl, h⟩
set_option maxRecDepth 100000 in
theorem w_X0_sortAlone {Γ : GE} {x : XM} (hx : WX x) {v1 : Int} {q : XM → Prop} (r1 : Rg v1) (h : M_X0_sortAlone x v1 q) : CV Γ 4 NF NF D_X0_sortAlone [.ref (gB Γ + 3), vI v1] (mk Γ x) (QU Γ q) := by
  refine CV.of rfl (cat_all rfl) (Nat.le_of_ble_eq_true rfl) ?_
  show V Γ 4 NF NF D_X0_sortAlone (QU Γ q) 0 [.ref (gB Γ + 3), vI v1, uu] [] NF (mk Γ x)
  unfold M_X0_sortAlone at h
  refine V_aload_0 dX0_sortAlone_0 ?_
  refine V_iload_1 dX0_sortAlone_1 ?_
  refine V_cVI1 (My := D_X0_goal) dX0_sortAlone_2 ml_Bench_73 ce_X0_goal ly_3 (by decide) cl_0 (by decide) (Nat.le_refl _) (Nat.le_refl _) (by decide) (sumL rfl) (w_X0_goal hx r1 h) (fun z1 hz1 h => ?_)
  refine V_istore_2 dX0_sortAlone_5 rfl rfl ?_
  refine V_aload_0 dX0_sortAlone_6 ?_
  refine V_gR dX0_sortAlone_7 fl_Bench_12 ly_3 (by decide) wr_3_0 ?_
  refine V_gR dX0_sortAlone_10 fl_Bench_49 ly_4 (by decide) (r := 5) (clo_w0 (k := 4) rfl) ?_
  refine V_iload_1 dX0_sortAlone_13 ?_
  refine V_iload_2 dX0_sortAlone_14 ?_
  refine V_iconst dX0_sortAlone_15 ?_
  refine V_icmp_ne 24 dX0_sortAlone_16 (by decide) hz1 (rgL rfl) ⟨fun c2 => ?_, fun c2 => ?_⟩
  · have h := h.1 c2
    refine V_iload_2 dX0_sortAlone_24 ?_
    refine V_fg_1 ?_
    refine V_fg_2 ?_
    exact w_X0_sortAlone_25 _ _ _ hx hz1 r1 h
  · have h := h.2 c2
    refine V_bipush dX0_sortAlone_19 (by decide) ?_
    refine V_goto 25 dX0_sortAlone_21 (by decide) ?_
    refine V_fg_1 ?_
    refine V_fg_2 ?_
    exact w_X0_sortAlone_25 _ _ _ hx (rgL rfl) r1 h
def M_J6_bitCount_0f7a4 (x : XM) (v0 : Int) (q : Int → Prop) : Prop :=
  q (jand (((jand (((jand (v0 - (jand (jushr v0 1) 1431655765)) 858993459) + (jand (jushr (v0 - (jand (jushr v0 1) 1431655765)) 2) 858993459)) + (jushr ((jand (v0 - (jand (jushr v0 1) 1431655765)) 858993459) + (jand (jushr (v0 - (jand (jushr v0 1) 1431655765)) 2) 858993459)) 4)) 252645135) + (jushr (jand (((jand (v0 - (jand (jushr v0 1) 1431655765)) 858993459) + (jand (jushr (v0 - (jand (jushr v0 1) 1431655765)) 2) 858993459)) + (jushr ((jand (v0 - (jand (jushr v0 1) 1431655765)) 858993459) + (jand (jushr (v0 - (jand (jushr v0 1) 1431655765)) 2) 858993459)) 4)) 252645135) 8)) + (jushr ((jand (((jand (v0 - (jand (jushr v0 1) 1431655765)) 858993459) + (jand (jushr (v0 - (jand (jushr v0 1) 1431655765)) 2) 858993459)) + (jushr ((jand (v0 - (jand (jushr v0 1) 1431655765)) 858993459) + (jand (jushr (v0 - (jand (jushr v0 1) 1431655765)) 2) 858993459)) 4)) 252645135) + (jushr (jand (((jand (v0 - (jand (jushr v0 1) 1431655765)) 858993459) + (jand (jushr (v0 - (jand (jushr v0 1) 1431655765)) 2) 858993459)) + (jushr ((jand (v0 - (jand (jushr v0 1) 1431655765)) 858993459) + (jand (jushr (v0 - (jand (jushr v0 1) 1431655765)) 2) 858993459)) 4)) 252645135) 8)) 16)) 63)
set_option maxRecDepth 100000 in
theorem w_J6_bitCount_0f7a4 {Γ : GE} {x : XM} (hx : WX x) {v0 : Int} {q : Int → Prop} (r0 : Rg v0) (h : M_J6_bitCount_0f7a4 x v0 q) : CV Γ 0 NF NF D_J6_bitCount_0f7a4 [vI v0] (mk Γ x) (QI Γ x q) := by
  refine CV.ofF (by decide +kernel) (cat_all rfl) (Nat.le_of_ble_eq_true rfl) ?_
  show V Γ 0 NF NF D_J6_bitCount_0f7a4 (QI Γ x q) 0 [vI v0] [] NF (mk Γ x)
  unfold M_J6_bitCount_0f7a4 at h
  refine V_iload_0 dJ6_bitCount_0f7a4_0 ?_
  refine V_iload_0 dJ6_bitCount_0f7a4_1 ?_
  refine V_iconst dJ6_bitCount_0f7a4_2 ?_
  refine V_iushr dJ6_bitCount_0f7a4_3 ?_
  refine V_ldcw dJ6_bitCount_0f7a4_4 kc_JInteger_265 ?_
  refine V_iand dJ6_bitCount_0f7a4_7 ?_
  refine V_isub dJ6_bitCount_0f7a4_8 ?_
  refine V_istore_0 dJ6_bitCount_0f7a4_9 rfl ?_
  refine V_iload_0 dJ6_bitCount_0f7a4_10 ?_
  refine V_ldcw dJ6_bitCount_0f7a4_11 kc_JInteger_266 ?_
  refine V_iand dJ6_bitCount_0f7a4_14 ?_
  refine V_iload_0 dJ6_bitCount_0f7a4_15 ?_
  refine V_iconst dJ6_bitCount_0f7a4_16 ?_
  refine V_iushr dJ6_bitCount_0f7a4_17 ?_
  refine V_ldcw dJ6_bitCount_0f7a4_18 kc_JInteger_266 ?_
  refine V_iand dJ6_bitCount_0f7a4_21 ?_
  refine V_iadd dJ6_bitCount_0f7a4_22 ?_
  refine V_istore_0 dJ6_bitCount_0f7a4_23 rfl ?_
  refine V_iload_0 dJ6_bitCount_0f7a4_24 ?_
  refine V_iload_0 dJ6_bitCount_0f7a4_25 ?_
  refine V_iconst dJ6_bitCount_0f7a4_26 ?_
  refine V_iushr dJ6_bitCount_0f7a4_27 ?_
  refine V_iadd dJ6_bitCount_0f7a4_28 ?_
  refine V_ldcw dJ6_bitCount_0f7a4_29 kc_JInteger_267 ?_
  refine V_iand dJ6_bitCount_0f7a4_32 ?_
  refine V_istore_0 dJ6_bitCount_0f7a4_33 rfl ?_
  refine V_iload_0 dJ6_bitCount_0f7a4_34 ?_
  refine V_iload_0 dJ6_bitCount_0f7a4_35 ?_
  refine V_bipush dJ6_bitCount_0f7a4_36 (by decide) ?_
  refine V_iushr dJ6_bitCount_0f7a4_38 ?_
  refine V_iadd dJ6_bitCount_0f7a4_39 ?_
  refine V_istore_0 dJ6_bitCount_0f7a4_40 rfl ?_
  refine V_iload_0 dJ6_bitCount_0f7a4_41 ?_
  refine V_iload_0 dJ6_bitCount_0f7a4_42 ?_
  refine V_bipush dJ6_bitCount_0f7a4_43 (by decide) ?_
  refine V_iushr dJ6_bitCount_0f7a4_45 ?_
  refine V_iadd dJ6_bitCount_0f7a4_46 ?_
  refine V_istore_0 dJ6_bitCount_0f7a4_47 rfl ?_
  refine V_iload_0 dJ6_bitCount_0f7a4_48 ?_
  refine V_bipush dJ6_bitCount_0f7a4_49 (by decide) ?_
  refine V_iand dJ6_bitCount_0f7a4_51 ?_
  exact V_ireturn dJ6_bitCount_0f7a4_52 rfl ⟨rfl, _, rfl, (Rg.of _), h⟩
def M_X10_sort_33 (q : Int → XM → Prop) : Nat → XM → Int → Int → Prop
  | 0, _, _, _ => False
  | n + 1, x, v1, v2 =>
  ((12 ≤ v2 → M_J6_bitCount_0f7a4 x v1  (fun z5 => q z5 x)) ∧ (¬ (12 ≤ v2) → M_X10_has x v1 v2  (fun z6 => ((z6 = 0 → (Rg (v2 + 1)) ∧ (M_X10_sort_33 q n) x v1 (v2 + 1)) ∧ (¬ z6 = 0 → M_X0_sortAlone x v2  (fun x9 => (Rg (v2 + 1)) ∧ (M_X10_sort_33 q n) x9 v1 (v2 + 1)))))))
def M_X10_sort (x : XM) (q : Int → XM → Prop) : Prop :=
  M_X0_at x 6  (fun z1 => ((¬ z1 = 0 → M_X7_remember x  (fun x3 => ∃ m : Nat, M_X10_sort_33 q m x3 z1 0)) ∧ (z1 = 0 → q (-1000000003) x)))
set_option maxRecDepth 100000 in
theorem w_X10_sort_33 {Γ : GE} {q : Int → XM → Prop} : ∀ (n : Nat) (x : XM) (v1 : Int) (v2 : Int) , WX x → Rg v1 → Rg v2 → M_X10_sort_33 q n x v1 v2 → V Γ 5 NF NF D_X10_sort (QE Γ q) 33 [.ref (gB Γ + 0), vI v1, vI v2] [] NF (mk Γ x) := by
  intro n
  induction n with
  | zero =>
    intro x v1 v2 hx r1 r2 h
    rw [M_X10_sort_33.eq_1] at h
    exact h.elim
  | succ n ih =>
    intro x v1 v2 hx r1 r2 h
    rw [M_X10_sort_33.eq_2] at h
    refine V_iload_2 dX10_sort_33 ?_
    refine V_bipush dX10_sort_34 (by decide) ?_
    refine V_icmp_ge 61 dX10_sort_36 (by decide) r2 (rgL rfl) ⟨fun c4 => ?_, fun c4 => ?_⟩
    · have h := h.1 c4
      refine V_iload_1 dX10_sort_61 ?_
      refine V_cSI1 (My := D_J6_bitCount_0f7a4) dX10_sort_62 ml_T_201 ce_J6_bitCount_0f7a4 (Nat.le_refl _) (Nat.le_refl _) (by decide) (sumL rfl) (w_J6_bitCount_0f7a4 hx r1 h) (fun z5 hz5 h => ?_)
      exact V_ireturn dX10_sort_65 rfl ⟨_, _, rfl, hx, rfl, hz5, h⟩
    · have h := h.2 c4
      refine V_iload_1 dX10_sort_39 ?_
      refine V_iload_2 dX10_sort_40 ?_
      refine V_cSI2 (My := D_X10_has) dX10_sort_41 ml_T_195 ce_X10_has (Nat.le_refl _) (Nat.le_refl _) (by decide) (sumL rfl) (w_X10_has hx r1 r2 h) (fun z6 hz6 h => ?_)
      refine V_if_eq 55 dX10_sort_44 (by decide) hz6 ⟨fun c7 => ?_, fun c7 => ?_⟩
      · have h := h.1 c7
        refine V_iinc_2 (a2 := uu) dX10_sort_55 rfl ?_
        refine V_goto 33 dX10_sort_58 (by decide) ?_
        obtain ⟨g8, h⟩ := h
        exact ih _ _ _ hx r1 g8 h
      · have h := h.2 c7
        refine V_aload_0 dX10_sort_47 ?_
        refine V_gR dX10_sort_48 fl_T_19 ly_0 (by decide) wr_0_1 ?_
        refine V_iload_2 dX10_sort_51 ?_
        refine V_cVU1 (My := D_X0_sortAlone) dX10_sort_52 ml_T_198 ce_X0_sortAlone ly_3 (by decide) cl_0 (by decide) (Nat.le_refl _) (Nat.le_refl _) (by decide) (sumL rfl) (w_X0_sortAlone hx r2 h) (fun x9 hx9 h => ?_)
        refine V_iinc_2 (a2 := uu) dX10_sort_55 rfl ?_
        refine V_goto 33 dX10_sort_58 (by decide) ?_
        obtain ⟨g10, h⟩ := h
        exact ih _ _ _ hx9 r1 g10 h
set_option maxRecDepth 100000 in
theorem w_X10_sort {Γ : GE} {x : XM} (hx : WX x) {q : Int → XM → Prop} (h : M_X10_sort x q) : CV Γ 5 NF NF D_X10_sort [.ref (gB Γ + 0)] (mk Γ x) (QE Γ q) := by
  refine CV.of rfl (cat_all rfl) (Nat.le_of_ble_eq_true rfl) ?_
  show V Γ 5 NF NF D_X10_sort (QE Γ q) 0 [.ref (gB Γ + 0), uu, uu] [] NF (mk Γ x)
  unfold M_X10_sort at h
  refine V_aload_0 dX10_sort_0 ?_
  refine V_gR dX10_sort_1 fl_T_19 ly_0 (by decide) wr_0_1 ?_
  refine V_bipush dX10_sort_4 (by decide) ?_
  refine V_cVI1 (My := D_X0_at) dX10_sort_6 ml_T_124 ce_X0_at ly_3 (by decide) cl_0 (by decide) (Nat.le_refl _) (Nat.le_refl _) (by decide) (sumL rfl) (w_X0_at hx (rgL rfl) h) (fun z1 hz1 h => ?_)
  refine V_istore_1 dX10_sort_9 rfl rfl ?_
  refine V_iload_1 dX10_sort_10 ?_
  refine V_if_ne 17 dX10_sort_11 (by decide) hz1 ⟨fun c2 => ?_, fun c2 => ?_⟩
  · have h := h.1 c2
    refine V_aload_0 dX10_sort_17 ?_
    refine V_gR dX10_sort_18 fl_T_26 ly_0 (by decide) wr_0_2 ?_
    refine V_aload_0 dX10_sort_21 ?_
    refine V_gR dX10_sort_22 fl_T_19 ly_0 (by decide) wr_0_1 ?_
    refine V_gR dX10_sort_25 fl_T_100 ly_3 (by decide) wr_3_0 ?_
    refine V_cVU1 (My := D_X7_remember) dX10_sort_28 ml_T_191 ce_X7_remember ly_10 (by decide) cl_7 (by decide) (Nat.le_refl _) (Nat.le_refl _) (by decide) (sumL rfl) (w_X7_remember hx h) (fun x3 hx3 h => ?_)
    refine V_iconst dX10_sort_31 ?_
    refine V_istore_2 dX10_sort_32 rfl rfl ?_
    obtain ⟨m9, h⟩ := h
    exact w_X10_sort_33 m9 _ _ _ hx3 hz1 (rgL rfl) h
  · have h := h.2 c2
    refine V_ldc dX10_sort_14 kc_T_190 ?_
    exact V_ireturn dX10_sort_16 rfl ⟨_, _, rfl, hx, rfl, (rgL rfl), h⟩
